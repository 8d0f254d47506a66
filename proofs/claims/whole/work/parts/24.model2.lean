theorem in_X3_isSolved_3 : ∀ w ∈ wsX30, w ∈ wsX3_isSolved := by decide +kernel
set_option maxHeartbeats 4000000 in
set_option maxRecDepth 100000 in
/-- RampJamModel.isSolved -/
theorem c_X3_isSolved (l : Launch) (G : va_G) (cI cZ cJ : ClassId) (b : Nat → Nat) (sz : Nat) (M : MS) (hok : m_ok M) : Met l yX3_isSolved wsX3_isSolved ({ frames := 1, cells := 0, slots := 0, locals := 20 }) (rw_Pc G [(cI, .int), (cZ, .boolean), (cJ, .long)] (wM cI b M) sz [.ref (b 0)]) (rw_Qi (S := MS) (b1 (m_free (m_wTh M 0))) (m_wTh M 0) (fun u : MS => wM cI b u) G (wM cI b M) sz) 0 0 (va_A (wM cI b M) sz) := by
  refine Met.ofW (cc := cX3_isSolved) (maxL := 1) (ret := (some .boolean)) (by decide) rfl ?_
  intro p e s m args below meth c s₁ B hml hv
  obtain ⟨rfl, hsz, hP, hK, hD0, hN⟩ := hv
  have hx := B.exec
  have hb := B.bytes
  have hr := B.returns
  have hts := atoms_spec (ws := wsX3_isSolved) B.pre
  have hown : s.vm.findClass RX3 = some m.cls := findClass_of_methodNamed B.named
  have hlocks := B.notSynchronized
  subst hsz
  have hD0 : va_D (fun _ => True) [((b 0), .inr (3, [.ref (b 1), .ref (b 2), .ref (b 3), .ref (b 4), .ref (b 5), .int (nI (m_n M)), .int (m_rp M), .int (m_mo M), .int (m_dr M), .int (m_th M), .ref (b 6), .ref (b 7), .ref (b 8), .ref (b 9), .ref (b 10), .ref (b 11), .ref (b 12), .int (nI (m_fm M)), .int (m_ff M)])), ((b 1), .inl (cI, 9, .inl (fN (m_sz M)))), ((b 2), .inl (cI, 9, .inl (fN (m_ac M)))), ((b 3), .inl (cI, 9, .inl (fN (m_li M)))), ((b 4), .inl (cI, 9, .inl (fN (m_pl M)))), ((b 5), .inl (cI, 9, .inl (fN (m_pk M)))), ((b 6), .inl (cI, 36, .inl (fN (m_yd M)))), ((b 7), .inl (cI, 800, .inl (fN (m_fo M)))), ((b 8), .inl (cI, 800, .inl (m_fr M))), ((b 9), .inl (cI, 800, .inl (fN (m_by M)))), ((b 10), .inl (cI, 800, .inl (fN (m_dp M)))), ((b 11), .inl (cI, 2048, .inl (fN (m_sl M)))), ((b 12), .inl (cI, 9, .inl (fN (m_kp M))))] := hD0
  have hD := hD0.self (sz := s.heap.size)
  unfold rw_Qi
  generalize hAe : va_A (wM cI b M) s.heap.size = A at hD ⊢
  have hA : ∀ q : Nat, s.heap.size ≤ q → A q := fun q h => by rw [← hAe]; exact Or.inr h
  have hS : va_S A s.heap s.heap [] := va_S.rf
  have hP : va_P G vwCl [((b 0), .inr (3, [.ref (b 1), .ref (b 2), .ref (b 3), .ref (b 4), .ref (b 5), .int (nI (m_n M)), .int (m_rp M), .int (m_mo M), .int (m_dr M), .int (m_th M), .ref (b 6), .ref (b 7), .ref (b 8), .ref (b 9), .ref (b 10), .ref (b 11), .ref (b 12), .int (nI (m_fm M)), .int (m_ff M)])), ((b 1), .inl (cI, 9, .inl (fN (m_sz M)))), ((b 2), .inl (cI, 9, .inl (fN (m_ac M)))), ((b 3), .inl (cI, 9, .inl (fN (m_li M)))), ((b 4), .inl (cI, 9, .inl (fN (m_pl M)))), ((b 5), .inl (cI, 9, .inl (fN (m_pk M)))), ((b 6), .inl (cI, 36, .inl (fN (m_yd M)))), ((b 7), .inl (cI, 800, .inl (fN (m_fo M)))), ((b 8), .inl (cI, 800, .inl (m_fr M))), ((b 9), .inl (cI, 800, .inl (fN (m_by M)))), ((b 10), .inl (cI, 800, .inl (fN (m_dp M)))), ((b 11), .inl (cI, 2048, .inl (fN (m_sl M)))), ((b 12), .inl (cI, 9, .inl (fN (m_kp M))))] s.heap := hP
  have hl := lv_entry ([.ref (b 0)]) (n := 1) (Nat.le_of_ble_eq_true rfl)
  rw [lg_entry_eq]
  generalize (lg_sl ([.ref (b 0)]) ++ List.replicate (1 - (lg_sl ([.ref (b 0)])).length) Slot.unset).toArray = ls at hl ⊢
  have hl : lv_has ls 1 [(0, .ref (b 0))] := hl
  refine lv_aload_n hx hb dX3_isSolved_0 rfl (lv_at hl 0 rfl) ?_
  refine lv_iconst (v := 0) hx hb dX3_isSolved_1 (by decide) ?_
  refine va_put (D := G) (ci := 3) (v := .int 0) (ty := .int) (C := RX3) (T := TX3) (N := 19) hx hb hts in_X3_isSolved_3 tyX3 tyX3_ok nmX3 hown hK hP hD hS 0 rfl rfl 9 (by decide) (hts (.fieldLink RX3 50 "RampJamModel" "thrown" "I") (by decide +kernel)) (fun _ h9 => h9) rfl (by decide +kernel) rfl rfl (Nat.le_of_ble_eq_true rfl) dX3_isSolved_2 (fun H locs hP hD hS => ?_)
  have hP : va_P G vwCl [((b 0), .inr (3, [.ref (b 1), .ref (b 2), .ref (b 3), .ref (b 4), .ref (b 5), .int (nI (m_n M)), .int (m_rp M), .int (m_mo M), .int (m_dr M), .int 0, .ref (b 6), .ref (b 7), .ref (b 8), .ref (b 9), .ref (b 10), .ref (b 11), .ref (b 12), .int (nI (m_fm M)), .int (m_ff M)])), ((b 1), .inl (cI, 9, .inl (fN (m_sz M)))), ((b 2), .inl (cI, 9, .inl (fN (m_ac M)))), ((b 3), .inl (cI, 9, .inl (fN (m_li M)))), ((b 4), .inl (cI, 9, .inl (fN (m_pl M)))), ((b 5), .inl (cI, 9, .inl (fN (m_pk M)))), ((b 6), .inl (cI, 36, .inl (fN (m_yd M)))), ((b 7), .inl (cI, 800, .inl (fN (m_fo M)))), ((b 8), .inl (cI, 800, .inl (m_fr M))), ((b 9), .inl (cI, 800, .inl (fN (m_by M)))), ((b 10), .inl (cI, 800, .inl (fN (m_dp M)))), ((b 11), .inl (cI, 2048, .inl (fN (m_sl M)))), ((b 12), .inl (cI, 9, .inl (fN (m_kp M))))] H := hP
  have hD : va_D A [((b 0), .inr (3, [.ref (b 1), .ref (b 2), .ref (b 3), .ref (b 4), .ref (b 5), .int (nI (m_n M)), .int (m_rp M), .int (m_mo M), .int (m_dr M), .int 0, .ref (b 6), .ref (b 7), .ref (b 8), .ref (b 9), .ref (b 10), .ref (b 11), .ref (b 12), .int (nI (m_fm M)), .int (m_ff M)])), ((b 1), .inl (cI, 9, .inl (fN (m_sz M)))), ((b 2), .inl (cI, 9, .inl (fN (m_ac M)))), ((b 3), .inl (cI, 9, .inl (fN (m_li M)))), ((b 4), .inl (cI, 9, .inl (fN (m_pl M)))), ((b 5), .inl (cI, 9, .inl (fN (m_pk M)))), ((b 6), .inl (cI, 36, .inl (fN (m_yd M)))), ((b 7), .inl (cI, 800, .inl (fN (m_fo M)))), ((b 8), .inl (cI, 800, .inl (m_fr M))), ((b 9), .inl (cI, 800, .inl (fN (m_by M)))), ((b 10), .inl (cI, 800, .inl (fN (m_dp M)))), ((b 11), .inl (cI, 2048, .inl (fN (m_sl M)))), ((b 12), .inl (cI, 9, .inl (fN (m_kp M))))] := hD
  refine lv_aload_n hx hb dX3_isSolved_5 rfl (lv_at hl 0 rfl) ?_
  refine ro_i (va_runV (As := []) (rest := []) ⟨hx, hb, hml, hown, hts⟩ ((c_X3_isFree l G cI cZ cJ b _ (m_wTh M 0) hok)) (cwV 0 hts gX3_isSolved_X3_isFree rfl rfl rfl (by decide +kernel) ⟨Nat.le_of_ble_eq_true rfl, Nat.le_of_ble_eq_true rfl⟩) ⟨ro_blind, va_recv hK hP (ci := 3) (q0 := 0) rfl rfl, ro_pre hP hK hN⟩ rfl rfl hl.1 rfl (lv_room (Nat.le_of_ble_eq_true rfl)) dX3_isSolved_6 ⟨Nat.zero_le _, Nat.zero_le _⟩) hS hA hP (fun H locs hP hS => ?_)
  have hP9 := hP
  have hD9 := hD
  exact W.zret (ty := .boolean) (v := (b1 (m_free (m_wTh M 0)))) hx hb hr (b1_nar _) (fun t ht hW => ⟨⟨(b1 (m_free (m_wTh M 0))), (m_wTh M 0), rfl, ⟨rfl, rfl⟩, by rw [ht]; exact hP9, hD9⟩, hS.F ht⟩) hS.2.2 dX3_isSolved_9

theorem in_X3_restart_3 : ∀ w ∈ wsX30, w ∈ wsX3_restart := by decide +kernel
set_option maxHeartbeats 4000000 in
set_option maxRecDepth 100000 in
/-- RampJamModel.restart -/
theorem c_X3_restart (l : Launch) (G : va_G) (cI cZ cJ : ClassId) (b : Nat → Nat) (sz : Nat) (M : MS) (hok : m_ok M) : Met l yX3_restart wsX3_restart ({ frames := 0, cells := 0, slots := 0, locals := 0 }) (rw_Pc G [(cI, .int), (cZ, .boolean), (cJ, .long)] (wM cI b M) sz [.ref (b 0)]) (rw_Qv (S := MS) (m_rst M) (fun u : MS => wM cI b u) G (wM cI b M) sz) 0 0 (va_A (wM cI b M) sz) := by
  refine Met.ofW (cc := cX3_restart) (maxL := 2) (ret := none) (by decide) rfl ?_
  intro p e s m args below meth c s₁ B hml hv
  obtain ⟨rfl, hsz, hP, hK, hD0, hN⟩ := hv
  have hx := B.exec
  have hb := B.bytes
  have hr := B.returns
  have hts := atoms_spec (ws := wsX3_restart) B.pre
  have hown : s.vm.findClass RX3 = some m.cls := findClass_of_methodNamed B.named
  have hlocks := B.notSynchronized
  subst hsz
  have hD0 : va_D (fun _ => True) [((b 0), .inr (3, [.ref (b 1), .ref (b 2), .ref (b 3), .ref (b 4), .ref (b 5), .int (nI (m_n M)), .int (m_rp M), .int (m_mo M), .int (m_dr M), .int (m_th M), .ref (b 6), .ref (b 7), .ref (b 8), .ref (b 9), .ref (b 10), .ref (b 11), .ref (b 12), .int (nI (m_fm M)), .int (m_ff M)])), ((b 1), .inl (cI, 9, .inl (fN (m_sz M)))), ((b 2), .inl (cI, 9, .inl (fN (m_ac M)))), ((b 3), .inl (cI, 9, .inl (fN (m_li M)))), ((b 4), .inl (cI, 9, .inl (fN (m_pl M)))), ((b 5), .inl (cI, 9, .inl (fN (m_pk M)))), ((b 6), .inl (cI, 36, .inl (fN (m_yd M)))), ((b 7), .inl (cI, 800, .inl (fN (m_fo M)))), ((b 8), .inl (cI, 800, .inl (m_fr M))), ((b 9), .inl (cI, 800, .inl (fN (m_by M)))), ((b 10), .inl (cI, 800, .inl (fN (m_dp M)))), ((b 11), .inl (cI, 2048, .inl (fN (m_sl M)))), ((b 12), .inl (cI, 9, .inl (fN (m_kp M))))] := hD0
  have hD := hD0.self (sz := s.heap.size)
  unfold rw_Qv
  generalize hAe : va_A (wM cI b M) s.heap.size = A at hD ⊢
  have hA : ∀ q : Nat, s.heap.size ≤ q → A q := fun q h => by rw [← hAe]; exact Or.inr h
  have hS : va_S A s.heap s.heap [] := va_S.rf
  have hP : va_P G vwCl [((b 0), .inr (3, [.ref (b 1), .ref (b 2), .ref (b 3), .ref (b 4), .ref (b 5), .int (nI (m_n M)), .int (m_rp M), .int (m_mo M), .int (m_dr M), .int (m_th M), .ref (b 6), .ref (b 7), .ref (b 8), .ref (b 9), .ref (b 10), .ref (b 11), .ref (b 12), .int (nI (m_fm M)), .int (m_ff M)])), ((b 1), .inl (cI, 9, .inl (fN (m_sz M)))), ((b 2), .inl (cI, 9, .inl (fN (m_ac M)))), ((b 3), .inl (cI, 9, .inl (fN (m_li M)))), ((b 4), .inl (cI, 9, .inl (fN (m_pl M)))), ((b 5), .inl (cI, 9, .inl (fN (m_pk M)))), ((b 6), .inl (cI, 36, .inl (fN (m_yd M)))), ((b 7), .inl (cI, 800, .inl (fN (m_fo M)))), ((b 8), .inl (cI, 800, .inl (m_fr M))), ((b 9), .inl (cI, 800, .inl (fN (m_by M)))), ((b 10), .inl (cI, 800, .inl (fN (m_dp M)))), ((b 11), .inl (cI, 2048, .inl (fN (m_sl M)))), ((b 12), .inl (cI, 9, .inl (fN (m_kp M))))] s.heap := hP
  have hl := lv_entry ([.ref (b 0)]) (n := 2) (Nat.le_of_ble_eq_true rfl)
  rw [lg_entry_eq]
  generalize (lg_sl ([.ref (b 0)]) ++ List.replicate (2 - (lg_sl ([.ref (b 0)])).length) Slot.unset).toArray = ls at hl ⊢
  have hl : lv_has ls 2 [(0, .ref (b 0))] := hl
  have h9 := hok.1
  refine lv_aload_n hx hb dX3_restart_0 rfl (lv_at hl 0 rfl) ?_
  refine lv_iconst (v := 0) hx hb dX3_restart_1 (by decide) ?_
  refine va_put (D := G) (ci := 3) (v := .int 0) (ty := .int) (C := RX3) (T := TX3) (N := 19) hx hb hts in_X3_restart_3 tyX3 tyX3_ok nmX3 hown hK hP hD hS 0 rfl rfl 9 (by decide) (hts (.fieldLink RX3 50 "RampJamModel" "thrown" "I") (by decide +kernel)) (fun _ h9 => h9) rfl (by decide +kernel) rfl rfl (Nat.le_of_ble_eq_true rfl) dX3_restart_2 (fun H locs hP hD hS => ?_)
  have hP : va_P G vwCl [((b 0), .inr (3, [.ref (b 1), .ref (b 2), .ref (b 3), .ref (b 4), .ref (b 5), .int (nI (m_n M)), .int (m_rp M), .int (m_mo M), .int (m_dr M), .int 0, .ref (b 6), .ref (b 7), .ref (b 8), .ref (b 9), .ref (b 10), .ref (b 11), .ref (b 12), .int (nI (m_fm M)), .int (m_ff M)])), ((b 1), .inl (cI, 9, .inl (fN (m_sz M)))), ((b 2), .inl (cI, 9, .inl (fN (m_ac M)))), ((b 3), .inl (cI, 9, .inl (fN (m_li M)))), ((b 4), .inl (cI, 9, .inl (fN (m_pl M)))), ((b 5), .inl (cI, 9, .inl (fN (m_pk M)))), ((b 6), .inl (cI, 36, .inl (fN (m_yd M)))), ((b 7), .inl (cI, 800, .inl (fN (m_fo M)))), ((b 8), .inl (cI, 800, .inl (m_fr M))), ((b 9), .inl (cI, 800, .inl (fN (m_by M)))), ((b 10), .inl (cI, 800, .inl (fN (m_dp M)))), ((b 11), .inl (cI, 2048, .inl (fN (m_sl M)))), ((b 12), .inl (cI, 9, .inl (fN (m_kp M))))] H := hP
  have hD : va_D A [((b 0), .inr (3, [.ref (b 1), .ref (b 2), .ref (b 3), .ref (b 4), .ref (b 5), .int (nI (m_n M)), .int (m_rp M), .int (m_mo M), .int (m_dr M), .int 0, .ref (b 6), .ref (b 7), .ref (b 8), .ref (b 9), .ref (b 10), .ref (b 11), .ref (b 12), .int (nI (m_fm M)), .int (m_ff M)])), ((b 1), .inl (cI, 9, .inl (fN (m_sz M)))), ((b 2), .inl (cI, 9, .inl (fN (m_ac M)))), ((b 3), .inl (cI, 9, .inl (fN (m_li M)))), ((b 4), .inl (cI, 9, .inl (fN (m_pl M)))), ((b 5), .inl (cI, 9, .inl (fN (m_pk M)))), ((b 6), .inl (cI, 36, .inl (fN (m_yd M)))), ((b 7), .inl (cI, 800, .inl (fN (m_fo M)))), ((b 8), .inl (cI, 800, .inl (m_fr M))), ((b 9), .inl (cI, 800, .inl (fN (m_by M)))), ((b 10), .inl (cI, 800, .inl (fN (m_dp M)))), ((b 11), .inl (cI, 2048, .inl (fN (m_sl M)))), ((b 12), .inl (cI, 9, .inl (fN (m_kp M))))] := hD
  refine lv_iconst (v := 0) hx hb dX3_restart_5 (by decide) ?_
  refine lv_istore_n (lv' := [(1, .int 0), (0, .ref (b 0))]) hx hb dX3_restart_6 rfl hl (by decide) rfl (fun ls hl => ?_)
  have cut_7 : ∀ (d : Nat) (v_g : Nat), v_g ≤ m_n M → m_n M + 1 ≤ v_g + d → ∀ (H : Heap) (locs : List Loc), va_P G vwCl [((b 0), .inr (3, [.ref (b 1), .ref (b 2), .ref (b 3), .ref (b 4), .ref (b 5), .int (nI (m_n M)), .int (m_rp M), .int (m_mo M), .int (m_dr M), .int 0, .ref (b 6), .ref (b 7), .ref (b 8), .ref (b 9), .ref (b 10), .ref (b 11), .ref (b 12), .int (nI (m_fm M)), .int (m_ff M)])), ((b 1), .inl (cI, 9, .inl (fN (m_sz M)))), ((b 2), .inl (cI, 9, .inl (fN (m_ac M)))), ((b 3), .inl (cI, 9, .inl (fN (m_li M)))), ((b 4), .inl (cI, 9, .inl (fN (cpN (m_pl M) (m_pk M) v_g)))), ((b 5), .inl (cI, 9, .inl (fN (m_pk M)))), ((b 6), .inl (cI, 36, .inl (fN (m_yd M)))), ((b 7), .inl (cI, 800, .inl (fN (m_fo M)))), ((b 8), .inl (cI, 800, .inl (m_fr M))), ((b 9), .inl (cI, 800, .inl (fN (m_by M)))), ((b 10), .inl (cI, 800, .inl (fN (m_dp M)))), ((b 11), .inl (cI, 2048, .inl (fN (m_sl M)))), ((b 12), .inl (cI, 9, .inl (fN (m_kp M))))] H → va_D A [((b 0), .inr (3, [.ref (b 1), .ref (b 2), .ref (b 3), .ref (b 4), .ref (b 5), .int (nI (m_n M)), .int (m_rp M), .int (m_mo M), .int (m_dr M), .int 0, .ref (b 6), .ref (b 7), .ref (b 8), .ref (b 9), .ref (b 10), .ref (b 11), .ref (b 12), .int (nI (m_fm M)), .int (m_ff M)])), ((b 1), .inl (cI, 9, .inl (fN (m_sz M)))), ((b 2), .inl (cI, 9, .inl (fN (m_ac M)))), ((b 3), .inl (cI, 9, .inl (fN (m_li M)))), ((b 4), .inl (cI, 9, .inl (fN (cpN (m_pl M) (m_pk M) v_g)))), ((b 5), .inl (cI, 9, .inl (fN (m_pk M)))), ((b 6), .inl (cI, 36, .inl (fN (m_yd M)))), ((b 7), .inl (cI, 800, .inl (fN (m_fo M)))), ((b 8), .inl (cI, 800, .inl (m_fr M))), ((b 9), .inl (cI, 800, .inl (fN (m_by M)))), ((b 10), .inl (cI, 800, .inl (fN (m_dp M)))), ((b 11), .inl (cI, 2048, .inl (fN (m_sl M)))), ((b 12), .inl (cI, 9, .inl (fN (m_kp M))))] → va_S A s.heap H locs → ∀ (ls : Array Slot), lv_has ls 2 [(0, .ref (b 0)), (1, .int (nI v_g))] → W p l e (headSpec wsX3_restart ({ frames := 0, cells := 0, slots := 0, locals := 0 })).room s m ([.ref (b 0)] : List Value).toArray below meth c H locs 0 0 (MQ below (va_Qv (fun u : MS => u = (m_rst M)) (fun (u : MS) (t : State) => va_P G vwCl ((fun u : MS => wM cI b u) u) t.heap ∧ va_D A ((fun u : MS => wM cI b u) u)) A) ([.ref (b 0)] : List Value).toArray s 0 0 A) (F0 m 7 ls []) := by
    intro d
    induction d with
    | zero =>
      intro v_g hk_7 hd_7
      exact absurd hd_7 (by omega)
    | succ d ih_7 =>
      intro v_g hk_7 hd_7  H locs hP hD hS ls hl
      refine lv_iload_n hx hb dX3_restart_7 rfl (lv_at hl 1 rfl) ?_
      refine lv_aload_n hx hb dX3_restart_8 rfl (lv_at hl 0 rfl) ?_
      refine va_get (D := G) (ci := 3) (v := .int (nI (m_n M))) (C := RX3) (T := TX3) (N := 19) hx hb hts in_X3_restart_3 hown hK hP 0 rfl rfl 5 (by decide) (hts (.fieldLink RX3 53 "RampJamModel" "many" "I") (by decide +kernel)) (fun _ h9 => h9) rfl dX3_restart_9 ?_
      refine lv_icmp_ge (tgt := 33) hx hb dX3_restart_12 (by decide) (fun c_1 => ?_) (fun c_1 => ?_)
      · have c_1 : (m_n M) ≤ v_g := (nI_leI (a := (m_n M)) (b := v_g) (by omega) (by omega)).mp c_1
        refine lv_aload_n hx hb dX3_restart_33 rfl (lv_at hl 0 rfl) ?_
        refine lv_iconst (v := 0) hx hb dX3_restart_34 (by decide) ?_
        refine va_put (D := G) (ci := 3) (v := .int 0) (ty := .int) (C := RX3) (T := TX3) (N := 19) hx hb hts in_X3_restart_3 tyX3 tyX3_ok nmX3 hown hK hP hD hS 0 rfl rfl 7 (by decide) (hts (.fieldLink RX3 71 "RampJamModel" "moves" "I") (by decide +kernel)) (fun _ h9 => h9) rfl (by decide +kernel) rfl rfl (Nat.le_of_ble_eq_true rfl) dX3_restart_35 (fun H locs hP hD hS => ?_)
        have hP : va_P G vwCl [((b 0), .inr (3, [.ref (b 1), .ref (b 2), .ref (b 3), .ref (b 4), .ref (b 5), .int (nI (m_n M)), .int (m_rp M), .int 0, .int (m_dr M), .int 0, .ref (b 6), .ref (b 7), .ref (b 8), .ref (b 9), .ref (b 10), .ref (b 11), .ref (b 12), .int (nI (m_fm M)), .int (m_ff M)])), ((b 1), .inl (cI, 9, .inl (fN (m_sz M)))), ((b 2), .inl (cI, 9, .inl (fN (m_ac M)))), ((b 3), .inl (cI, 9, .inl (fN (m_li M)))), ((b 4), .inl (cI, 9, .inl (fN (cpN (m_pl M) (m_pk M) v_g)))), ((b 5), .inl (cI, 9, .inl (fN (m_pk M)))), ((b 6), .inl (cI, 36, .inl (fN (m_yd M)))), ((b 7), .inl (cI, 800, .inl (fN (m_fo M)))), ((b 8), .inl (cI, 800, .inl (m_fr M))), ((b 9), .inl (cI, 800, .inl (fN (m_by M)))), ((b 10), .inl (cI, 800, .inl (fN (m_dp M)))), ((b 11), .inl (cI, 2048, .inl (fN (m_sl M)))), ((b 12), .inl (cI, 9, .inl (fN (m_kp M))))] H := hP
        have hD : va_D A [((b 0), .inr (3, [.ref (b 1), .ref (b 2), .ref (b 3), .ref (b 4), .ref (b 5), .int (nI (m_n M)), .int (m_rp M), .int 0, .int (m_dr M), .int 0, .ref (b 6), .ref (b 7), .ref (b 8), .ref (b 9), .ref (b 10), .ref (b 11), .ref (b 12), .int (nI (m_fm M)), .int (m_ff M)])), ((b 1), .inl (cI, 9, .inl (fN (m_sz M)))), ((b 2), .inl (cI, 9, .inl (fN (m_ac M)))), ((b 3), .inl (cI, 9, .inl (fN (m_li M)))), ((b 4), .inl (cI, 9, .inl (fN (cpN (m_pl M) (m_pk M) v_g)))), ((b 5), .inl (cI, 9, .inl (fN (m_pk M)))), ((b 6), .inl (cI, 36, .inl (fN (m_yd M)))), ((b 7), .inl (cI, 800, .inl (fN (m_fo M)))), ((b 8), .inl (cI, 800, .inl (m_fr M))), ((b 9), .inl (cI, 800, .inl (fN (m_by M)))), ((b 10), .inl (cI, 800, .inl (fN (m_dp M)))), ((b 11), .inl (cI, 2048, .inl (fN (m_sl M)))), ((b 12), .inl (cI, 9, .inl (fN (m_kp M))))] := hD
        refine lv_aload_n hx hb dX3_restart_38 rfl (lv_at hl 0 rfl) ?_
        refine lv_iconst (v := 0) hx hb dX3_restart_39 (by decide) ?_
        refine va_put (D := G) (ci := 3) (v := .int 0) (ty := .int) (C := RX3) (T := TX3) (N := 19) hx hb hts in_X3_restart_3 tyX3 tyX3_ok nmX3 hown hK hP hD hS 0 rfl rfl 8 (by decide) (hts (.fieldLink RX3 74 "RampJamModel" "driven" "I") (by decide +kernel)) (fun _ h9 => h9) rfl (by decide +kernel) rfl rfl (Nat.le_of_ble_eq_true rfl) dX3_restart_40 (fun H locs hP hD hS => ?_)
        have hP : va_P G vwCl [((b 0), .inr (3, [.ref (b 1), .ref (b 2), .ref (b 3), .ref (b 4), .ref (b 5), .int (nI (m_n M)), .int (m_rp M), .int 0, .int 0, .int 0, .ref (b 6), .ref (b 7), .ref (b 8), .ref (b 9), .ref (b 10), .ref (b 11), .ref (b 12), .int (nI (m_fm M)), .int (m_ff M)])), ((b 1), .inl (cI, 9, .inl (fN (m_sz M)))), ((b 2), .inl (cI, 9, .inl (fN (m_ac M)))), ((b 3), .inl (cI, 9, .inl (fN (m_li M)))), ((b 4), .inl (cI, 9, .inl (fN (cpN (m_pl M) (m_pk M) v_g)))), ((b 5), .inl (cI, 9, .inl (fN (m_pk M)))), ((b 6), .inl (cI, 36, .inl (fN (m_yd M)))), ((b 7), .inl (cI, 800, .inl (fN (m_fo M)))), ((b 8), .inl (cI, 800, .inl (m_fr M))), ((b 9), .inl (cI, 800, .inl (fN (m_by M)))), ((b 10), .inl (cI, 800, .inl (fN (m_dp M)))), ((b 11), .inl (cI, 2048, .inl (fN (m_sl M)))), ((b 12), .inl (cI, 9, .inl (fN (m_kp M))))] H := hP
        have hD : va_D A [((b 0), .inr (3, [.ref (b 1), .ref (b 2), .ref (b 3), .ref (b 4), .ref (b 5), .int (nI (m_n M)), .int (m_rp M), .int 0, .int 0, .int 0, .ref (b 6), .ref (b 7), .ref (b 8), .ref (b 9), .ref (b 10), .ref (b 11), .ref (b 12), .int (nI (m_fm M)), .int (m_ff M)])), ((b 1), .inl (cI, 9, .inl (fN (m_sz M)))), ((b 2), .inl (cI, 9, .inl (fN (m_ac M)))), ((b 3), .inl (cI, 9, .inl (fN (m_li M)))), ((b 4), .inl (cI, 9, .inl (fN (cpN (m_pl M) (m_pk M) v_g)))), ((b 5), .inl (cI, 9, .inl (fN (m_pk M)))), ((b 6), .inl (cI, 36, .inl (fN (m_yd M)))), ((b 7), .inl (cI, 800, .inl (fN (m_fo M)))), ((b 8), .inl (cI, 800, .inl (m_fr M))), ((b 9), .inl (cI, 800, .inl (fN (m_by M)))), ((b 10), .inl (cI, 800, .inl (fN (m_dp M)))), ((b 11), .inl (cI, 2048, .inl (fN (m_sl M)))), ((b 12), .inl (cI, 9, .inl (fN (m_kp M))))] := hD
        have hP9 := hP
        have hD9 := hD
        exact W.vret hx hb hr (fun t ht hW => ⟨⟨((m_sz M), (m_ac M), (m_li M), (cpN (m_pl M) (m_pk M) v_g), (m_pk M), (m_n M), (m_rp M), 0, 0, 0, (m_yd M), (m_fo M), (m_fr M), (m_by M), (m_dp M), (m_sl M), (m_kp M), (m_fm M), (m_ff M)), rfl, by rw [show v_g = m_n M by omega]; rfl, by rw [ht]; exact hP9, hD9⟩, hS.F ht⟩) hS.2.2 dX3_restart_43
      · have c_1 : v_g < (m_n M) := Nat.not_le.mp (fun q => c_1 ((nI_leI (a := (m_n M)) (b := v_g) (by omega) (by omega)).mpr q))
        refine lv_aload_n hx hb dX3_restart_15 rfl (lv_at hl 0 rfl) ?_
        refine va_get (D := G) (ci := 3) (v := .ref (b 4)) (C := RX3) (T := TX3) (N := 19) hx hb hts in_X3_restart_3 hown hK hP 0 rfl rfl 3 (by decide) (hts (.fieldLink RX3 19 "RampJamModel" "place" "[I") (by decide +kernel)) (fun _ h9 => h9) rfl dX3_restart_16 ?_
        refine lv_iload_n hx hb dX3_restart_19 rfl (lv_at hl 1 rfl) ?_
        refine lv_aload_n hx hb dX3_restart_20 rfl (lv_at hl 0 rfl) ?_
        refine va_get (D := G) (ci := 3) (v := .ref (b 5)) (C := RX3) (T := TX3) (N := 19) hx hb hts in_X3_restart_3 hown hK hP 0 rfl rfl 4 (by decide) (hts (.fieldLink RX3 22 "RampJamModel" "parked" "[I") (by decide +kernel)) (fun _ h9 => h9) rfl dX3_restart_21 ?_
        refine lv_iload_n hx hb dX3_restart_24 rfl (lv_at hl 1 rfl) ?_
        refine va_iald hx hb hK hP 5 0 rfl rfl (vp_in_nI (by omega) (by decide)) dX3_restart_25 ?_
        rw [show (nI v_g).toNatClampNeg = v_g from nI_clamp (by omega)]
        rw [show fN (m_pk M) v_g = (nI ((m_pk M) v_g)) from rfl]
        refine va_iast hx hb hK hP hD hS 4 0 rfl rfl (vp_in_nI (by omega) (by decide)) dX3_restart_26 (fun H locs hP hD hS => ?_)
        rw [show (nI v_g).toNatClampNeg = v_g from nI_clamp (by omega)] at hP hD
        rw [fN_upd] at hP hD
        have hP : va_P G vwCl [((b 0), .inr (3, [.ref (b 1), .ref (b 2), .ref (b 3), .ref (b 4), .ref (b 5), .int (nI (m_n M)), .int (m_rp M), .int (m_mo M), .int (m_dr M), .int 0, .ref (b 6), .ref (b 7), .ref (b 8), .ref (b 9), .ref (b 10), .ref (b 11), .ref (b 12), .int (nI (m_fm M)), .int (m_ff M)])), ((b 1), .inl (cI, 9, .inl (fN (m_sz M)))), ((b 2), .inl (cI, 9, .inl (fN (m_ac M)))), ((b 3), .inl (cI, 9, .inl (fN (m_li M)))), ((b 4), .inl (cI, 9, .inl (fN (updN (cpN (m_pl M) (m_pk M) v_g) v_g ((m_pk M) v_g))))), ((b 5), .inl (cI, 9, .inl (fN (m_pk M)))), ((b 6), .inl (cI, 36, .inl (fN (m_yd M)))), ((b 7), .inl (cI, 800, .inl (fN (m_fo M)))), ((b 8), .inl (cI, 800, .inl (m_fr M))), ((b 9), .inl (cI, 800, .inl (fN (m_by M)))), ((b 10), .inl (cI, 800, .inl (fN (m_dp M)))), ((b 11), .inl (cI, 2048, .inl (fN (m_sl M)))), ((b 12), .inl (cI, 9, .inl (fN (m_kp M))))] H := hP
        have hD : va_D A [((b 0), .inr (3, [.ref (b 1), .ref (b 2), .ref (b 3), .ref (b 4), .ref (b 5), .int (nI (m_n M)), .int (m_rp M), .int (m_mo M), .int (m_dr M), .int 0, .ref (b 6), .ref (b 7), .ref (b 8), .ref (b 9), .ref (b 10), .ref (b 11), .ref (b 12), .int (nI (m_fm M)), .int (m_ff M)])), ((b 1), .inl (cI, 9, .inl (fN (m_sz M)))), ((b 2), .inl (cI, 9, .inl (fN (m_ac M)))), ((b 3), .inl (cI, 9, .inl (fN (m_li M)))), ((b 4), .inl (cI, 9, .inl (fN (updN (cpN (m_pl M) (m_pk M) v_g) v_g ((m_pk M) v_g))))), ((b 5), .inl (cI, 9, .inl (fN (m_pk M)))), ((b 6), .inl (cI, 36, .inl (fN (m_yd M)))), ((b 7), .inl (cI, 800, .inl (fN (m_fo M)))), ((b 8), .inl (cI, 800, .inl (m_fr M))), ((b 9), .inl (cI, 800, .inl (fN (m_by M)))), ((b 10), .inl (cI, 800, .inl (fN (m_dp M)))), ((b 11), .inl (cI, 2048, .inl (fN (m_sl M)))), ((b 12), .inl (cI, 9, .inl (fN (m_kp M))))] := hD
        refine lv_iinc (v := (nI (v_g + 1))) (lv' := [(1, .int (nI (v_g + 1))), (0, .ref (b 0))]) hx hb dX3_restart_27 hl (k := 1) rfl (nI_1 _) (by decide) rfl (fun ls hl => ?_)
        refine lv_goto (tgt := 7) hx hb dX3_restart_30 (by decide) ?_
        rw [cpN_s] at hP hD
        exact ih_7 (v_g + 1) (by omega) (by omega) _ _ hP hD hS _ (lv_sub hl [1, 0] rfl)
  rw [← cpN_0 (m_pl M) (m_pk M)] at hP hD
  exact cut_7 (m_n M + 1) 0 (Nat.zero_le _) (by omega) _ _ hP hD hS _ (lv_sub hl [1, 0] rfl)

theorem in_X3_rowOf_3 : ∀ w ∈ wsX30, w ∈ wsX3_rowOf := by decide +kernel
set_option maxHeartbeats 4000000 in
set_option maxRecDepth 100000 in
/-- RampJamModel.rowOf -/
theorem c_X3_rowOf (l : Launch) (G : va_G) (cI cZ cJ : ClassId) (b : Nat → Nat) (sz : Nat) (M : MS) (v_g : Int32) (hok : m_ok M) : Met l yX3_rowOf wsX3_rowOf ({ frames := 1, cells := 0, slots := 0, locals := 21 }) (rw_Pc G [(cI, .int), (cZ, .boolean), (cJ, .long)] (wM cI b M) sz [.ref (b 0), .int v_g]) (rw_Qi (S := MS) (m_row M v_g) (m_isv M v_g) (fun u : MS => wM cI b u) G (wM cI b M) sz) 0 0 (va_A (wM cI b M) sz) := by
  refine Met.ofW (cc := cX3_rowOf) (maxL := 2) (ret := (some .int)) (by decide) rfl ?_
  intro p e s m args below meth c s₁ B hml hv
  obtain ⟨rfl, hsz, hP, hK, hD0, hN⟩ := hv
  have hx := B.exec
  have hb := B.bytes
  have hr := B.returns
  have hts := atoms_spec (ws := wsX3_rowOf) B.pre
  have hown : s.vm.findClass RX3 = some m.cls := findClass_of_methodNamed B.named
  have hlocks := B.notSynchronized
  subst hsz
  have hD0 : va_D (fun _ => True) [((b 0), .inr (3, [.ref (b 1), .ref (b 2), .ref (b 3), .ref (b 4), .ref (b 5), .int (nI (m_n M)), .int (m_rp M), .int (m_mo M), .int (m_dr M), .int (m_th M), .ref (b 6), .ref (b 7), .ref (b 8), .ref (b 9), .ref (b 10), .ref (b 11), .ref (b 12), .int (nI (m_fm M)), .int (m_ff M)])), ((b 1), .inl (cI, 9, .inl (fN (m_sz M)))), ((b 2), .inl (cI, 9, .inl (fN (m_ac M)))), ((b 3), .inl (cI, 9, .inl (fN (m_li M)))), ((b 4), .inl (cI, 9, .inl (fN (m_pl M)))), ((b 5), .inl (cI, 9, .inl (fN (m_pk M)))), ((b 6), .inl (cI, 36, .inl (fN (m_yd M)))), ((b 7), .inl (cI, 800, .inl (fN (m_fo M)))), ((b 8), .inl (cI, 800, .inl (m_fr M))), ((b 9), .inl (cI, 800, .inl (fN (m_by M)))), ((b 10), .inl (cI, 800, .inl (fN (m_dp M)))), ((b 11), .inl (cI, 2048, .inl (fN (m_sl M)))), ((b 12), .inl (cI, 9, .inl (fN (m_kp M))))] := hD0
  have hD := hD0.self (sz := s.heap.size)
  unfold rw_Qi
  generalize hAe : va_A (wM cI b M) s.heap.size = A at hD ⊢
  have hA : ∀ q : Nat, s.heap.size ≤ q → A q := fun q h => by rw [← hAe]; exact Or.inr h
  have hS : va_S A s.heap s.heap [] := va_S.rf
  have hP : va_P G vwCl [((b 0), .inr (3, [.ref (b 1), .ref (b 2), .ref (b 3), .ref (b 4), .ref (b 5), .int (nI (m_n M)), .int (m_rp M), .int (m_mo M), .int (m_dr M), .int (m_th M), .ref (b 6), .ref (b 7), .ref (b 8), .ref (b 9), .ref (b 10), .ref (b 11), .ref (b 12), .int (nI (m_fm M)), .int (m_ff M)])), ((b 1), .inl (cI, 9, .inl (fN (m_sz M)))), ((b 2), .inl (cI, 9, .inl (fN (m_ac M)))), ((b 3), .inl (cI, 9, .inl (fN (m_li M)))), ((b 4), .inl (cI, 9, .inl (fN (m_pl M)))), ((b 5), .inl (cI, 9, .inl (fN (m_pk M)))), ((b 6), .inl (cI, 36, .inl (fN (m_yd M)))), ((b 7), .inl (cI, 800, .inl (fN (m_fo M)))), ((b 8), .inl (cI, 800, .inl (m_fr M))), ((b 9), .inl (cI, 800, .inl (fN (m_by M)))), ((b 10), .inl (cI, 800, .inl (fN (m_dp M)))), ((b 11), .inl (cI, 2048, .inl (fN (m_sl M)))), ((b 12), .inl (cI, 9, .inl (fN (m_kp M))))] s.heap := hP
  have hl := lv_entry ([.ref (b 0), .int v_g]) (n := 2) (Nat.le_of_ble_eq_true rfl)
  rw [lg_entry_eq]
  generalize (lg_sl ([.ref (b 0), .int v_g]) ++ List.replicate (2 - (lg_sl ([.ref (b 0), .int v_g])).length) Slot.unset).toArray = ls at hl ⊢
  have hl : lv_has ls 2 [(0, .ref (b 0)), (1, .int v_g)] := hl
  refine lv_aload_n hx hb dX3_rowOf_0 rfl (lv_at hl 0 rfl) ?_
  refine lv_iload_n hx hb dX3_rowOf_1 rfl (lv_at hl 1 rfl) ?_
  refine rw_i (wr := []) (ws' := [((b 0), .inr (3, [.ref (b 1), .ref (b 2), .ref (b 3), .ref (b 4), .ref (b 5), .int (nI (m_n (m_isv M v_g))), .int (m_rp (m_isv M v_g)), .int (m_mo (m_isv M v_g)), .int (m_dr (m_isv M v_g)), .int (m_th (m_isv M v_g)), .ref (b 6), .ref (b 7), .ref (b 8), .ref (b 9), .ref (b 10), .ref (b 11), .ref (b 12), .int (nI (m_fm (m_isv M v_g))), .int (m_ff (m_isv M v_g))])), ((b 1), .inl (cI, 9, .inl (fN (m_sz (m_isv M v_g))))), ((b 2), .inl (cI, 9, .inl (fN (m_ac (m_isv M v_g))))), ((b 3), .inl (cI, 9, .inl (fN (m_li (m_isv M v_g))))), ((b 4), .inl (cI, 9, .inl (fN (m_pl (m_isv M v_g))))), ((b 5), .inl (cI, 9, .inl (fN (m_pk (m_isv M v_g))))), ((b 6), .inl (cI, 36, .inl (fN (m_yd (m_isv M v_g))))), ((b 7), .inl (cI, 800, .inl (fN (m_fo (m_isv M v_g))))), ((b 8), .inl (cI, 800, .inl (m_fr (m_isv M v_g)))), ((b 9), .inl (cI, 800, .inl (fN (m_by (m_isv M v_g))))), ((b 10), .inl (cI, 800, .inl (fN (m_dp (m_isv M v_g))))), ((b 11), .inl (cI, 2048, .inl (fN (m_sl (m_isv M v_g))))), ((b 12), .inl (cI, 9, .inl (fN (m_kp (m_isv M v_g)))))]) (va_runV (As := [.int v_g]) (rest := []) ⟨hx, hb, hml, hown, hts⟩ ((c_X3_isVehicle l G cI cZ cJ b _ M v_g)) (cwV 1 hts gX3_rowOf_X3_isVehicle rfl rfl rfl (by decide +kernel) ⟨Nat.le_of_ble_eq_true rfl, Nat.le_of_ble_eq_true rfl⟩) ⟨rw_blind, va_recv hK hP (ci := 3) (q0 := 0) rfl rfl, rw_pre hP hD hK hN⟩ rfl rfl hl.1 rfl (lv_room (Nat.le_of_ble_eq_true rfl)) dX3_rowOf_2 ⟨Nat.zero_le _, Nat.zero_le _⟩) hS hA hP hD [0, 1, 2, 3, 4, 5, 6, 7, 8, 9, 10, 11, 12] [] [0, 1, 2, 3, 4, 5, 6, 7, 8, 9, 10, 11, 12] rfl rfl (by decide) (by decide) rfl (by decide) (fun H locs hP hD hS => ?_)
  refine lv_if_ne (tgt := 12) hx hb dX3_rowOf_5 (by decide) (fun c_1 => ?_) (fun c_1 => ?_)
  · have c_1 := b1_t c_1
    obtain ⟨j_g, hj_g, rfl⟩ := m_has_ex hok c_1
    have h9 := hok.1
    obtain ⟨b1_, b2_, b3_, b4_, b5_, b6_⟩ := (m_ok_isv (nI j_g) hok).2.1 j_g hj_g
    refine lv_aload_n hx hb dX3_rowOf_12 rfl (lv_at hl 0 rfl) ?_
    refine va_get (D := G) (ci := 3) (v := .ref (b 2)) (C := RX3) (T := TX3) (N := 19) hx hb hts in_X3_rowOf_3 hown hK hP 0 rfl rfl 1 (by decide) (hts (.fieldLink RX3 13 "RampJamModel" "isAcross" "[I") (by decide +kernel)) (fun _ h9 => h9) rfl dX3_rowOf_13 ?_
    refine lv_iload_n hx hb dX3_rowOf_16 rfl (lv_at hl 1 rfl) ?_
    refine va_iald hx hb hK hP 2 0 rfl rfl (vp_in_nI (by omega) (by decide)) dX3_rowOf_17 ?_
    rw [show (nI j_g).toNatClampNeg = j_g from nI_clamp (by omega)]
    rw [show fN (m_ac (m_isv M (nI j_g))) j_g = (nI ((m_ac (m_isv M (nI j_g))) j_g)) from rfl]
    refine lv_iconst (v := 1) hx hb dX3_rowOf_18 (by decide) ?_
    refine lv_icmp_ne (tgt := 31) hx hb dX3_rowOf_19 (by decide) (fun c_2 => ?_) (fun c_2 => ?_)
    · have c_2 : ¬ ((m_ac (m_isv M (nI j_g))) j_g) = 1 := fun q => c_2 ((nI_eq (a := ((m_ac (m_isv M (nI j_g))) j_g)) (b := 1) (by omega) (by omega)).mpr q)
      refine lv_aload_n hx hb dX3_rowOf_31 rfl (lv_at hl 0 rfl) ?_
      refine va_get (D := G) (ci := 3) (v := .ref (b 4)) (C := RX3) (T := TX3) (N := 19) hx hb hts in_X3_rowOf_3 hown hK hP 0 rfl rfl 3 (by decide) (hts (.fieldLink RX3 19 "RampJamModel" "place" "[I") (by decide +kernel)) (fun _ h9 => h9) rfl dX3_rowOf_32 ?_
      refine lv_iload_n hx hb dX3_rowOf_35 rfl (lv_at hl 1 rfl) ?_
      refine va_iald hx hb hK hP 4 0 rfl rfl (vp_in_nI (by omega) (by decide)) dX3_rowOf_36 ?_
      rw [show (nI j_g).toNatClampNeg = j_g from nI_clamp (by omega)]
      rw [show fN (m_pl (m_isv M (nI j_g))) j_g = (nI ((m_pl (m_isv M (nI j_g))) j_g)) from rfl]
      have hP9 := hP
      have hD9 := hD
      exact W.iret (v := (nI ((m_pl (m_isv M (nI j_g))) j_g))) hx hb hr (fun t ht hW => ⟨⟨(nI ((m_pl (m_isv M (nI j_g))) j_g)), (m_isv M (nI j_g)), rfl, ⟨by rw [m_row, if_pos c_1, nI_clamp (by omega)]; first | exact (if_pos c_2).symm | exact (if_neg c_2).symm, rfl⟩, by rw [ht]; exact hP9, hD9⟩, hS.F ht⟩) hS.2.2 dX3_rowOf_37
    · have c_2 : ((m_ac (m_isv M (nI j_g))) j_g) = 1 := (nI_eq (a := ((m_ac (m_isv M (nI j_g))) j_g)) (b := 1) (by omega) (by omega)).mp c_2
      refine lv_aload_n hx hb dX3_rowOf_22 rfl (lv_at hl 0 rfl) ?_
      refine va_get (D := G) (ci := 3) (v := .ref (b 3)) (C := RX3) (T := TX3) (N := 19) hx hb hts in_X3_rowOf_3 hown hK hP 0 rfl rfl 2 (by decide) (hts (.fieldLink RX3 16 "RampJamModel" "lineOf" "[I") (by decide +kernel)) (fun _ h9 => h9) rfl dX3_rowOf_23 ?_
      refine lv_iload_n hx hb dX3_rowOf_26 rfl (lv_at hl 1 rfl) ?_
      refine va_iald hx hb hK hP 3 0 rfl rfl (vp_in_nI (by omega) (by decide)) dX3_rowOf_27 ?_
      rw [show (nI j_g).toNatClampNeg = j_g from nI_clamp (by omega)]
      rw [show fN (m_li (m_isv M (nI j_g))) j_g = (nI ((m_li (m_isv M (nI j_g))) j_g)) from rfl]
      refine lv_goto (tgt := 37) hx hb dX3_rowOf_28 (by decide) ?_
      have hP9 := hP
      have hD9 := hD
      exact W.iret (v := (nI ((m_li (m_isv M (nI j_g))) j_g))) hx hb hr (fun t ht hW => ⟨⟨(nI ((m_li (m_isv M (nI j_g))) j_g)), (m_isv M (nI j_g)), rfl, ⟨by rw [m_row, if_pos c_1, nI_clamp (by omega)]; first | exact (if_pos c_2).symm | exact (if_neg c_2).symm, rfl⟩, by rw [ht]; exact hP9, hD9⟩, hS.F ht⟩) hS.2.2 dX3_rowOf_37
  · have c_1 := b1_f c_1
    refine lv_iconst (v := 0) hx hb dX3_rowOf_8 (by decide) ?_
    refine lv_goto (tgt := 37) hx hb dX3_rowOf_9 (by decide) ?_
    have hP9 := hP
    have hD9 := hD
    exact W.iret (v := 0) hx hb hr (fun t ht hW => ⟨⟨0, (m_isv M v_g), rfl, ⟨by rw [m_row, if_neg c_1], rfl⟩, by rw [ht]; exact hP9, hD9⟩, hS.F ht⟩) hS.2.2 dX3_rowOf_37

theorem in_X3_columnOf_3 : ∀ w ∈ wsX30, w ∈ wsX3_columnOf := by decide +kernel
set_option maxHeartbeats 4000000 in
set_option maxRecDepth 100000 in
/-- RampJamModel.columnOf -/
theorem c_X3_columnOf (l : Launch) (G : va_G) (cI cZ cJ : ClassId) (b : Nat → Nat) (sz : Nat) (M : MS) (v_g : Int32) (hok : m_ok M) : Met l yX3_columnOf wsX3_columnOf ({ frames := 1, cells := 0, slots := 0, locals := 21 }) (rw_Pc G [(cI, .int), (cZ, .boolean), (cJ, .long)] (wM cI b M) sz [.ref (b 0), .int v_g]) (rw_Qi (S := MS) (m_col M v_g) (m_isv M v_g) (fun u : MS => wM cI b u) G (wM cI b M) sz) 0 0 (va_A (wM cI b M) sz) := by
  refine Met.ofW (cc := cX3_columnOf) (maxL := 2) (ret := (some .int)) (by decide) rfl ?_
  intro p e s m args below meth c s₁ B hml hv
  obtain ⟨rfl, hsz, hP, hK, hD0, hN⟩ := hv
  have hx := B.exec
  have hb := B.bytes
  have hr := B.returns
  have hts := atoms_spec (ws := wsX3_columnOf) B.pre
  have hown : s.vm.findClass RX3 = some m.cls := findClass_of_methodNamed B.named
  have hlocks := B.notSynchronized
  subst hsz
  have hD0 : va_D (fun _ => True) [((b 0), .inr (3, [.ref (b 1), .ref (b 2), .ref (b 3), .ref (b 4), .ref (b 5), .int (nI (m_n M)), .int (m_rp M), .int (m_mo M), .int (m_dr M), .int (m_th M), .ref (b 6), .ref (b 7), .ref (b 8), .ref (b 9), .ref (b 10), .ref (b 11), .ref (b 12), .int (nI (m_fm M)), .int (m_ff M)])), ((b 1), .inl (cI, 9, .inl (fN (m_sz M)))), ((b 2), .inl (cI, 9, .inl (fN (m_ac M)))), ((b 3), .inl (cI, 9, .inl (fN (m_li M)))), ((b 4), .inl (cI, 9, .inl (fN (m_pl M)))), ((b 5), .inl (cI, 9, .inl (fN (m_pk M)))), ((b 6), .inl (cI, 36, .inl (fN (m_yd M)))), ((b 7), .inl (cI, 800, .inl (fN (m_fo M)))), ((b 8), .inl (cI, 800, .inl (m_fr M))), ((b 9), .inl (cI, 800, .inl (fN (m_by M)))), ((b 10), .inl (cI, 800, .inl (fN (m_dp M)))), ((b 11), .inl (cI, 2048, .inl (fN (m_sl M)))), ((b 12), .inl (cI, 9, .inl (fN (m_kp M))))] := hD0
  have hD := hD0.self (sz := s.heap.size)
  unfold rw_Qi
  generalize hAe : va_A (wM cI b M) s.heap.size = A at hD ⊢
  have hA : ∀ q : Nat, s.heap.size ≤ q → A q := fun q h => by rw [← hAe]; exact Or.inr h
  have hS : va_S A s.heap s.heap [] := va_S.rf
  have hP : va_P G vwCl [((b 0), .inr (3, [.ref (b 1), .ref (b 2), .ref (b 3), .ref (b 4), .ref (b 5), .int (nI (m_n M)), .int (m_rp M), .int (m_mo M), .int (m_dr M), .int (m_th M), .ref (b 6), .ref (b 7), .ref (b 8), .ref (b 9), .ref (b 10), .ref (b 11), .ref (b 12), .int (nI (m_fm M)), .int (m_ff M)])), ((b 1), .inl (cI, 9, .inl (fN (m_sz M)))), ((b 2), .inl (cI, 9, .inl (fN (m_ac M)))), ((b 3), .inl (cI, 9, .inl (fN (m_li M)))), ((b 4), .inl (cI, 9, .inl (fN (m_pl M)))), ((b 5), .inl (cI, 9, .inl (fN (m_pk M)))), ((b 6), .inl (cI, 36, .inl (fN (m_yd M)))), ((b 7), .inl (cI, 800, .inl (fN (m_fo M)))), ((b 8), .inl (cI, 800, .inl (m_fr M))), ((b 9), .inl (cI, 800, .inl (fN (m_by M)))), ((b 10), .inl (cI, 800, .inl (fN (m_dp M)))), ((b 11), .inl (cI, 2048, .inl (fN (m_sl M)))), ((b 12), .inl (cI, 9, .inl (fN (m_kp M))))] s.heap := hP
  have hl := lv_entry ([.ref (b 0), .int v_g]) (n := 2) (Nat.le_of_ble_eq_true rfl)
  rw [lg_entry_eq]
  generalize (lg_sl ([.ref (b 0), .int v_g]) ++ List.replicate (2 - (lg_sl ([.ref (b 0), .int v_g])).length) Slot.unset).toArray = ls at hl ⊢
  have hl : lv_has ls 2 [(0, .ref (b 0)), (1, .int v_g)] := hl
  refine lv_aload_n hx hb dX3_columnOf_0 rfl (lv_at hl 0 rfl) ?_
  refine lv_iload_n hx hb dX3_columnOf_1 rfl (lv_at hl 1 rfl) ?_
  refine rw_i (wr := []) (ws' := [((b 0), .inr (3, [.ref (b 1), .ref (b 2), .ref (b 3), .ref (b 4), .ref (b 5), .int (nI (m_n (m_isv M v_g))), .int (m_rp (m_isv M v_g)), .int (m_mo (m_isv M v_g)), .int (m_dr (m_isv M v_g)), .int (m_th (m_isv M v_g)), .ref (b 6), .ref (b 7), .ref (b 8), .ref (b 9), .ref (b 10), .ref (b 11), .ref (b 12), .int (nI (m_fm (m_isv M v_g))), .int (m_ff (m_isv M v_g))])), ((b 1), .inl (cI, 9, .inl (fN (m_sz (m_isv M v_g))))), ((b 2), .inl (cI, 9, .inl (fN (m_ac (m_isv M v_g))))), ((b 3), .inl (cI, 9, .inl (fN (m_li (m_isv M v_g))))), ((b 4), .inl (cI, 9, .inl (fN (m_pl (m_isv M v_g))))), ((b 5), .inl (cI, 9, .inl (fN (m_pk (m_isv M v_g))))), ((b 6), .inl (cI, 36, .inl (fN (m_yd (m_isv M v_g))))), ((b 7), .inl (cI, 800, .inl (fN (m_fo (m_isv M v_g))))), ((b 8), .inl (cI, 800, .inl (m_fr (m_isv M v_g)))), ((b 9), .inl (cI, 800, .inl (fN (m_by (m_isv M v_g))))), ((b 10), .inl (cI, 800, .inl (fN (m_dp (m_isv M v_g))))), ((b 11), .inl (cI, 2048, .inl (fN (m_sl (m_isv M v_g))))), ((b 12), .inl (cI, 9, .inl (fN (m_kp (m_isv M v_g)))))]) (va_runV (As := [.int v_g]) (rest := []) ⟨hx, hb, hml, hown, hts⟩ ((c_X3_isVehicle l G cI cZ cJ b _ M v_g)) (cwV 1 hts gX3_columnOf_X3_isVehicle rfl rfl rfl (by decide +kernel) ⟨Nat.le_of_ble_eq_true rfl, Nat.le_of_ble_eq_true rfl⟩) ⟨rw_blind, va_recv hK hP (ci := 3) (q0 := 0) rfl rfl, rw_pre hP hD hK hN⟩ rfl rfl hl.1 rfl (lv_room (Nat.le_of_ble_eq_true rfl)) dX3_columnOf_2 ⟨Nat.zero_le _, Nat.zero_le _⟩) hS hA hP hD [0, 1, 2, 3, 4, 5, 6, 7, 8, 9, 10, 11, 12] [] [0, 1, 2, 3, 4, 5, 6, 7, 8, 9, 10, 11, 12] rfl rfl (by decide) (by decide) rfl (by decide) (fun H locs hP hD hS => ?_)
  refine lv_if_ne (tgt := 12) hx hb dX3_columnOf_5 (by decide) (fun c_1 => ?_) (fun c_1 => ?_)
  · have c_1 := b1_t c_1
    obtain ⟨j_g, hj_g, rfl⟩ := m_has_ex hok c_1
    have h9 := hok.1
    obtain ⟨b1_, b2_, b3_, b4_, b5_, b6_⟩ := (m_ok_isv (nI j_g) hok).2.1 j_g hj_g
    refine lv_aload_n hx hb dX3_columnOf_12 rfl (lv_at hl 0 rfl) ?_
    refine va_get (D := G) (ci := 3) (v := .ref (b 2)) (C := RX3) (T := TX3) (N := 19) hx hb hts in_X3_columnOf_3 hown hK hP 0 rfl rfl 1 (by decide) (hts (.fieldLink RX3 13 "RampJamModel" "isAcross" "[I") (by decide +kernel)) (fun _ h9 => h9) rfl dX3_columnOf_13 ?_
    refine lv_iload_n hx hb dX3_columnOf_16 rfl (lv_at hl 1 rfl) ?_
    refine va_iald hx hb hK hP 2 0 rfl rfl (vp_in_nI (by omega) (by decide)) dX3_columnOf_17 ?_
    rw [show (nI j_g).toNatClampNeg = j_g from nI_clamp (by omega)]
    rw [show fN (m_ac (m_isv M (nI j_g))) j_g = (nI ((m_ac (m_isv M (nI j_g))) j_g)) from rfl]
    refine lv_iconst (v := 1) hx hb dX3_columnOf_18 (by decide) ?_
    refine lv_icmp_ne (tgt := 31) hx hb dX3_columnOf_19 (by decide) (fun c_2 => ?_) (fun c_2 => ?_)
    · have c_2 : ¬ ((m_ac (m_isv M (nI j_g))) j_g) = 1 := fun q => c_2 ((nI_eq (a := ((m_ac (m_isv M (nI j_g))) j_g)) (b := 1) (by omega) (by omega)).mpr q)
      refine lv_aload_n hx hb dX3_columnOf_31 rfl (lv_at hl 0 rfl) ?_
      refine va_get (D := G) (ci := 3) (v := .ref (b 3)) (C := RX3) (T := TX3) (N := 19) hx hb hts in_X3_columnOf_3 hown hK hP 0 rfl rfl 2 (by decide) (hts (.fieldLink RX3 16 "RampJamModel" "lineOf" "[I") (by decide +kernel)) (fun _ h9 => h9) rfl dX3_columnOf_32 ?_
      refine lv_iload_n hx hb dX3_columnOf_35 rfl (lv_at hl 1 rfl) ?_
      refine va_iald hx hb hK hP 3 0 rfl rfl (vp_in_nI (by omega) (by decide)) dX3_columnOf_36 ?_
      rw [show (nI j_g).toNatClampNeg = j_g from nI_clamp (by omega)]
      rw [show fN (m_li (m_isv M (nI j_g))) j_g = (nI ((m_li (m_isv M (nI j_g))) j_g)) from rfl]
      have hP9 := hP
      have hD9 := hD
      exact W.iret (v := (nI ((m_li (m_isv M (nI j_g))) j_g))) hx hb hr (fun t ht hW => ⟨⟨(nI ((m_li (m_isv M (nI j_g))) j_g)), (m_isv M (nI j_g)), rfl, ⟨by rw [m_col, if_pos c_1, nI_clamp (by omega)]; first | exact (if_pos c_2).symm | exact (if_neg c_2).symm, rfl⟩, by rw [ht]; exact hP9, hD9⟩, hS.F ht⟩) hS.2.2 dX3_columnOf_37
    · have c_2 : ((m_ac (m_isv M (nI j_g))) j_g) = 1 := (nI_eq (a := ((m_ac (m_isv M (nI j_g))) j_g)) (b := 1) (by omega) (by omega)).mp c_2
      refine lv_aload_n hx hb dX3_columnOf_22 rfl (lv_at hl 0 rfl) ?_
      refine va_get (D := G) (ci := 3) (v := .ref (b 4)) (C := RX3) (T := TX3) (N := 19) hx hb hts in_X3_columnOf_3 hown hK hP 0 rfl rfl 3 (by decide) (hts (.fieldLink RX3 19 "RampJamModel" "place" "[I") (by decide +kernel)) (fun _ h9 => h9) rfl dX3_columnOf_23 ?_
      refine lv_iload_n hx hb dX3_columnOf_26 rfl (lv_at hl 1 rfl) ?_
      refine va_iald hx hb hK hP 4 0 rfl rfl (vp_in_nI (by omega) (by decide)) dX3_columnOf_27 ?_
      rw [show (nI j_g).toNatClampNeg = j_g from nI_clamp (by omega)]
      rw [show fN (m_pl (m_isv M (nI j_g))) j_g = (nI ((m_pl (m_isv M (nI j_g))) j_g)) from rfl]
      refine lv_goto (tgt := 37) hx hb dX3_columnOf_28 (by decide) ?_
      have hP9 := hP
      have hD9 := hD
      exact W.iret (v := (nI ((m_pl (m_isv M (nI j_g))) j_g))) hx hb hr (fun t ht hW => ⟨⟨(nI ((m_pl (m_isv M (nI j_g))) j_g)), (m_isv M (nI j_g)), rfl, ⟨by rw [m_col, if_pos c_1, nI_clamp (by omega)]; first | exact (if_pos c_2).symm | exact (if_neg c_2).symm, rfl⟩, by rw [ht]; exact hP9, hD9⟩, hS.F ht⟩) hS.2.2 dX3_columnOf_37
  · have c_1 := b1_f c_1
    refine lv_iconst (v := 0) hx hb dX3_columnOf_8 (by decide) ?_
    refine lv_goto (tgt := 37) hx hb dX3_columnOf_9 (by decide) ?_
    have hP9 := hP
    have hD9 := hD
    exact W.iret (v := 0) hx hb hr (fun t ht hW => ⟨⟨0, (m_isv M v_g), rfl, ⟨by rw [m_col, if_neg c_1], rfl⟩, by rw [ht]; exact hP9, hD9⟩, hS.F ht⟩) hS.2.2 dX3_columnOf_37

theorem in_X3_at_3 : ∀ w ∈ wsX30, w ∈ wsX3_at := by decide +kernel
set_option maxHeartbeats 4000000 in
set_option maxRecDepth 100000 in
/-- RampJamModel.at -/
theorem c_X3_at (l : Launch) (G : va_G) (cI cZ cJ : ClassId) (b : Nat → Nat) (sz : Nat) (M : MS) (r_g : Int32) (q_g : Int32) (hok : m_ok M) : Met l yX3_at wsX3_at ({ frames := 2, cells := 0, slots := 0, locals := 44 }) (rw_Pc G [(cI, .int), (cZ, .boolean), (cJ, .long)] (wM cI b M) sz [.ref (b 0), .int r_g, .int q_g]) (rw_Qi (S := MS) (m_at (m_lay (m_wTh M (if inL r_g ∧ inL q_g then 0 else 1))) r_g q_g) (m_lay (m_wTh M (if inL r_g ∧ inL q_g then 0 else 1))) (fun u : MS => wM cI b u) G (wM cI b M) sz) 0 0 (va_A (wM cI b M) sz) := by
  refine Met.ofW (cc := cX3_at) (maxL := 3) (ret := (some .int)) (by decide) rfl ?_
  intro p e s m args below meth c s₁ B hml hv
  obtain ⟨rfl, hsz, hP, hK, hD0, hN⟩ := hv
  have hx := B.exec
  have hb := B.bytes
  have hr := B.returns
  have hts := atoms_spec (ws := wsX3_at) B.pre
  have hown : s.vm.findClass RX3 = some m.cls := findClass_of_methodNamed B.named
  have hlocks := B.notSynchronized
  subst hsz
  have hD0 : va_D (fun _ => True) [((b 0), .inr (3, [.ref (b 1), .ref (b 2), .ref (b 3), .ref (b 4), .ref (b 5), .int (nI (m_n M)), .int (m_rp M), .int (m_mo M), .int (m_dr M), .int (m_th M), .ref (b 6), .ref (b 7), .ref (b 8), .ref (b 9), .ref (b 10), .ref (b 11), .ref (b 12), .int (nI (m_fm M)), .int (m_ff M)])), ((b 1), .inl (cI, 9, .inl (fN (m_sz M)))), ((b 2), .inl (cI, 9, .inl (fN (m_ac M)))), ((b 3), .inl (cI, 9, .inl (fN (m_li M)))), ((b 4), .inl (cI, 9, .inl (fN (m_pl M)))), ((b 5), .inl (cI, 9, .inl (fN (m_pk M)))), ((b 6), .inl (cI, 36, .inl (fN (m_yd M)))), ((b 7), .inl (cI, 800, .inl (fN (m_fo M)))), ((b 8), .inl (cI, 800, .inl (m_fr M))), ((b 9), .inl (cI, 800, .inl (fN (m_by M)))), ((b 10), .inl (cI, 800, .inl (fN (m_dp M)))), ((b 11), .inl (cI, 2048, .inl (fN (m_sl M)))), ((b 12), .inl (cI, 9, .inl (fN (m_kp M))))] := hD0
  have hD := hD0.self (sz := s.heap.size)
  unfold rw_Qi
  generalize hAe : va_A (wM cI b M) s.heap.size = A at hD ⊢
  have hA : ∀ q : Nat, s.heap.size ≤ q → A q := fun q h => by rw [← hAe]; exact Or.inr h
  have hS : va_S A s.heap s.heap [] := va_S.rf
  have hP : va_P G vwCl [((b 0), .inr (3, [.ref (b 1), .ref (b 2), .ref (b 3), .ref (b 4), .ref (b 5), .int (nI (m_n M)), .int (m_rp M), .int (m_mo M), .int (m_dr M), .int (m_th M), .ref (b 6), .ref (b 7), .ref (b 8), .ref (b 9), .ref (b 10), .ref (b 11), .ref (b 12), .int (nI (m_fm M)), .int (m_ff M)])), ((b 1), .inl (cI, 9, .inl (fN (m_sz M)))), ((b 2), .inl (cI, 9, .inl (fN (m_ac M)))), ((b 3), .inl (cI, 9, .inl (fN (m_li M)))), ((b 4), .inl (cI, 9, .inl (fN (m_pl M)))), ((b 5), .inl (cI, 9, .inl (fN (m_pk M)))), ((b 6), .inl (cI, 36, .inl (fN (m_yd M)))), ((b 7), .inl (cI, 800, .inl (fN (m_fo M)))), ((b 8), .inl (cI, 800, .inl (m_fr M))), ((b 9), .inl (cI, 800, .inl (fN (m_by M)))), ((b 10), .inl (cI, 800, .inl (fN (m_dp M)))), ((b 11), .inl (cI, 2048, .inl (fN (m_sl M)))), ((b 12), .inl (cI, 9, .inl (fN (m_kp M))))] s.heap := hP
  have hl := lv_entry ([.ref (b 0), .int r_g, .int q_g]) (n := 3) (Nat.le_of_ble_eq_true rfl)
  rw [lg_entry_eq]
  generalize (lg_sl ([.ref (b 0), .int r_g, .int q_g]) ++ List.replicate (3 - (lg_sl ([.ref (b 0), .int r_g, .int q_g])).length) Slot.unset).toArray = ls at hl ⊢
  have hl : lv_has ls 3 [(0, .ref (b 0)), (1, .int r_g), (2, .int q_g)] := hl
  refine lv_aload_n hx hb dX3_at_0 rfl (lv_at hl 0 rfl) ?_
  have cut_20 : ∀ (t_g : Int32), (t_g = if inL r_g ∧ inL q_g then 0 else 1) → ∀ (H : Heap) (locs : List Loc), va_P G vwCl [((b 0), .inr (3, [.ref (b 1), .ref (b 2), .ref (b 3), .ref (b 4), .ref (b 5), .int (nI (m_n M)), .int (m_rp M), .int (m_mo M), .int (m_dr M), .int (m_th M), .ref (b 6), .ref (b 7), .ref (b 8), .ref (b 9), .ref (b 10), .ref (b 11), .ref (b 12), .int (nI (m_fm M)), .int (m_ff M)])), ((b 1), .inl (cI, 9, .inl (fN (m_sz M)))), ((b 2), .inl (cI, 9, .inl (fN (m_ac M)))), ((b 3), .inl (cI, 9, .inl (fN (m_li M)))), ((b 4), .inl (cI, 9, .inl (fN (m_pl M)))), ((b 5), .inl (cI, 9, .inl (fN (m_pk M)))), ((b 6), .inl (cI, 36, .inl (fN (m_yd M)))), ((b 7), .inl (cI, 800, .inl (fN (m_fo M)))), ((b 8), .inl (cI, 800, .inl (m_fr M))), ((b 9), .inl (cI, 800, .inl (fN (m_by M)))), ((b 10), .inl (cI, 800, .inl (fN (m_dp M)))), ((b 11), .inl (cI, 2048, .inl (fN (m_sl M)))), ((b 12), .inl (cI, 9, .inl (fN (m_kp M))))] H → va_D A [((b 0), .inr (3, [.ref (b 1), .ref (b 2), .ref (b 3), .ref (b 4), .ref (b 5), .int (nI (m_n M)), .int (m_rp M), .int (m_mo M), .int (m_dr M), .int (m_th M), .ref (b 6), .ref (b 7), .ref (b 8), .ref (b 9), .ref (b 10), .ref (b 11), .ref (b 12), .int (nI (m_fm M)), .int (m_ff M)])), ((b 1), .inl (cI, 9, .inl (fN (m_sz M)))), ((b 2), .inl (cI, 9, .inl (fN (m_ac M)))), ((b 3), .inl (cI, 9, .inl (fN (m_li M)))), ((b 4), .inl (cI, 9, .inl (fN (m_pl M)))), ((b 5), .inl (cI, 9, .inl (fN (m_pk M)))), ((b 6), .inl (cI, 36, .inl (fN (m_yd M)))), ((b 7), .inl (cI, 800, .inl (fN (m_fo M)))), ((b 8), .inl (cI, 800, .inl (m_fr M))), ((b 9), .inl (cI, 800, .inl (fN (m_by M)))), ((b 10), .inl (cI, 800, .inl (fN (m_dp M)))), ((b 11), .inl (cI, 2048, .inl (fN (m_sl M)))), ((b 12), .inl (cI, 9, .inl (fN (m_kp M))))] → va_S A s.heap H locs → ∀ (ls : Array Slot), lv_has ls 3 [(0, .ref (b 0)), (1, .int r_g), (2, .int q_g)] → W p l e (headSpec wsX3_at ({ frames := 2, cells := 0, slots := 0, locals := 44 })).room s m ([.ref (b 0), .int r_g, .int q_g] : List Value).toArray below meth c H locs 0 0 (MQ below (va_Qi (fun (r : Int32) (u : MS) => r = (m_at (m_lay (m_wTh M (if inL r_g ∧ inL q_g then 0 else 1))) r_g q_g) ∧ u = (m_lay (m_wTh M (if inL r_g ∧ inL q_g then 0 else 1)))) (fun (u : MS) (t : State) => va_P G vwCl ((fun u : MS => wM cI b u) u) t.heap ∧ va_D A ((fun u : MS => wM cI b u) u)) A) ([.ref (b 0), .int r_g, .int q_g] : List Value).toArray s 0 0 A) (F0 m 20 ls [.int t_g, .ref (b 0)]) := by
    intro t_g et_g H locs hP hD hS ls hl
    refine va_put (D := G) (ci := 3) (v := .int t_g) (ty := .int) (C := RX3) (T := TX3) (N := 19) hx hb hts in_X3_at_3 tyX3 tyX3_ok nmX3 hown hK hP hD hS 0 rfl rfl 9 (by decide) (hts (.fieldLink RX3 50 "RampJamModel" "thrown" "I") (by decide +kernel)) (fun _ h9 => h9) rfl (by decide +kernel) rfl rfl (Nat.le_of_ble_eq_true rfl) dX3_at_20 (fun H locs hP hD hS => ?_)
    have hP : va_P G vwCl [((b 0), .inr (3, [.ref (b 1), .ref (b 2), .ref (b 3), .ref (b 4), .ref (b 5), .int (nI (m_n M)), .int (m_rp M), .int (m_mo M), .int (m_dr M), .int t_g, .ref (b 6), .ref (b 7), .ref (b 8), .ref (b 9), .ref (b 10), .ref (b 11), .ref (b 12), .int (nI (m_fm M)), .int (m_ff M)])), ((b 1), .inl (cI, 9, .inl (fN (m_sz M)))), ((b 2), .inl (cI, 9, .inl (fN (m_ac M)))), ((b 3), .inl (cI, 9, .inl (fN (m_li M)))), ((b 4), .inl (cI, 9, .inl (fN (m_pl M)))), ((b 5), .inl (cI, 9, .inl (fN (m_pk M)))), ((b 6), .inl (cI, 36, .inl (fN (m_yd M)))), ((b 7), .inl (cI, 800, .inl (fN (m_fo M)))), ((b 8), .inl (cI, 800, .inl (m_fr M))), ((b 9), .inl (cI, 800, .inl (fN (m_by M)))), ((b 10), .inl (cI, 800, .inl (fN (m_dp M)))), ((b 11), .inl (cI, 2048, .inl (fN (m_sl M)))), ((b 12), .inl (cI, 9, .inl (fN (m_kp M))))] H := hP
    have hD : va_D A [((b 0), .inr (3, [.ref (b 1), .ref (b 2), .ref (b 3), .ref (b 4), .ref (b 5), .int (nI (m_n M)), .int (m_rp M), .int (m_mo M), .int (m_dr M), .int t_g, .ref (b 6), .ref (b 7), .ref (b 8), .ref (b 9), .ref (b 10), .ref (b 11), .ref (b 12), .int (nI (m_fm M)), .int (m_ff M)])), ((b 1), .inl (cI, 9, .inl (fN (m_sz M)))), ((b 2), .inl (cI, 9, .inl (fN (m_ac M)))), ((b 3), .inl (cI, 9, .inl (fN (m_li M)))), ((b 4), .inl (cI, 9, .inl (fN (m_pl M)))), ((b 5), .inl (cI, 9, .inl (fN (m_pk M)))), ((b 6), .inl (cI, 36, .inl (fN (m_yd M)))), ((b 7), .inl (cI, 800, .inl (fN (m_fo M)))), ((b 8), .inl (cI, 800, .inl (m_fr M))), ((b 9), .inl (cI, 800, .inl (fN (m_by M)))), ((b 10), .inl (cI, 800, .inl (fN (m_dp M)))), ((b 11), .inl (cI, 2048, .inl (fN (m_sl M)))), ((b 12), .inl (cI, 9, .inl (fN (m_kp M))))] := hD
    refine lv_aload_n hx hb dX3_at_23 rfl (lv_at hl 0 rfl) ?_
    refine rw_v (wr := []) (ws' := [((b 0), .inr (3, [.ref (b 1), .ref (b 2), .ref (b 3), .ref (b 4), .ref (b 5), .int (nI (m_n (m_lay (m_wTh M t_g)))), .int (m_rp (m_lay (m_wTh M t_g))), .int (m_mo (m_lay (m_wTh M t_g))), .int (m_dr (m_lay (m_wTh M t_g))), .int (m_th (m_lay (m_wTh M t_g))), .ref (b 6), .ref (b 7), .ref (b 8), .ref (b 9), .ref (b 10), .ref (b 11), .ref (b 12), .int (nI (m_fm (m_lay (m_wTh M t_g)))), .int (m_ff (m_lay (m_wTh M t_g)))])), ((b 1), .inl (cI, 9, .inl (fN (m_sz (m_lay (m_wTh M t_g)))))), ((b 2), .inl (cI, 9, .inl (fN (m_ac (m_lay (m_wTh M t_g)))))), ((b 3), .inl (cI, 9, .inl (fN (m_li (m_lay (m_wTh M t_g)))))), ((b 4), .inl (cI, 9, .inl (fN (m_pl (m_lay (m_wTh M t_g)))))), ((b 5), .inl (cI, 9, .inl (fN (m_pk (m_lay (m_wTh M t_g)))))), ((b 6), .inl (cI, 36, .inl (fN (m_yd (m_lay (m_wTh M t_g)))))), ((b 7), .inl (cI, 800, .inl (fN (m_fo (m_lay (m_wTh M t_g)))))), ((b 8), .inl (cI, 800, .inl (m_fr (m_lay (m_wTh M t_g))))), ((b 9), .inl (cI, 800, .inl (fN (m_by (m_lay (m_wTh M t_g)))))), ((b 10), .inl (cI, 800, .inl (fN (m_dp (m_lay (m_wTh M t_g)))))), ((b 11), .inl (cI, 2048, .inl (fN (m_sl (m_lay (m_wTh M t_g)))))), ((b 12), .inl (cI, 9, .inl (fN (m_kp (m_lay (m_wTh M t_g))))))]) (va_runV (As := []) (rest := []) ⟨hx, hb, hml, hown, hts⟩ ((c_X3_laysYard l G cI cZ cJ b _ (m_wTh M t_g) (m_ok_wTh _ hok))) (cwV 0 hts gX3_at_X3_laysYard rfl rfl rfl (by decide +kernel) ⟨Nat.le_of_ble_eq_true rfl, Nat.le_of_ble_eq_true rfl⟩) ⟨rw_blind, va_recv hK hP (ci := 3) (q0 := 0) rfl rfl, rw_pre hP hD hK hN⟩ rfl rfl hl.1 rfl (lv_room (Nat.le_of_ble_eq_true rfl)) dX3_at_24 ⟨Nat.zero_le _, Nat.zero_le _⟩) hS hA hP hD [0, 1, 2, 3, 4, 5, 6, 7, 8, 9, 10, 11, 12] [] [0, 1, 2, 3, 4, 5, 6, 7, 8, 9, 10, 11, 12] rfl rfl (by decide) (by decide) rfl (by decide) (fun H locs hP hD hS => ?_)
    have hokX : m_ok (m_lay (m_wTh M t_g)) := m_ok_lay (m_ok_wTh _ hok)
    have htX : m_th (m_lay (m_wTh M t_g)) = t_g := rfl
    generalize hgen_24 : (m_lay (m_wTh M t_g)) = X_g at hP hD hokX htX
    refine lv_aload_n hx hb dX3_at_27 rfl (lv_at hl 0 rfl) ?_
    refine va_get (D := G) (ci := 3) (v := .int (m_th X_g)) (C := RX3) (T := TX3) (N := 19) hx hb hts in_X3_at_3 hown hK hP 0 rfl rfl 9 (by decide) (hts (.fieldLink RX3 50 "RampJamModel" "thrown" "I") (by decide +kernel)) (fun _ h9 => h9) rfl dX3_at_28 ?_
    refine lv_if_ne (tgt := 50) hx hb dX3_at_31 (by decide) (fun c_1 => ?_) (fun c_1 => ?_)
    · have hin : ¬ (inL r_g ∧ inL q_g) := m_t10 (et_g ▸ htX ▸ c_1)
      refine lv_iconst (v := 0) hx hb dX3_at_50 (by decide) ?_
      have hP9 := hP
      have hD9 := hD
      exact W.iret (v := 0) hx hb hr (fun t ht hW => ⟨⟨0, X_g, rfl, ⟨by rw [← et_g, hgen_24, m_at, if_neg hin], by rw [← et_g, hgen_24]⟩, by rw [ht]; exact hP9, hD9⟩, hS.F ht⟩) hS.2.2 dX3_at_51
    · have hin : inL r_g ∧ inL q_g := m_t01 (et_g ▸ htX ▸ c_1)
      refine lv_aload_n hx hb dX3_at_34 rfl (lv_at hl 0 rfl) ?_
      refine va_get (D := G) (ci := 3) (v := .ref (b 6)) (C := RX3) (T := TX3) (N := 19) hx hb hts in_X3_at_3 hown hK hP 0 rfl rfl 10 (by decide) (hts (.fieldLink RX3 29 "RampJamModel" "yard" "[I") (by decide +kernel)) (fun _ h9 => h9) rfl dX3_at_35 ?_
      refine lv_bipush (v := 6) hx hb dX3_at_38 (by decide) ?_
      refine lv_iload_n hx hb dX3_at_40 rfl (lv_at hl 1 rfl) ?_
      refine lv_imul hx hb dX3_at_41 ?_
      refine lv_iload_n hx hb dX3_at_42 rfl (lv_at hl 2 rfl) ?_
      refine lv_iadd hx hb dX3_at_43 ?_
      refine va_iald hx hb hK hP 6 0 rfl rfl (m_rq_in hin) dX3_at_44 ?_
      rw [show fN (m_yd X_g) (((6 * r_g) + q_g).toNatClampNeg) = (nI ((m_yd X_g) (((6 * r_g) + q_g).toNatClampNeg))) from rfl]
      refine lv_iconst (v := 1) hx hb dX3_at_45 (by decide) ?_
      refine lv_isub hx hb dX3_at_46 ?_
      refine lv_goto (tgt := 51) hx hb dX3_at_47 (by decide) ?_
      have hP9 := hP
      have hD9 := hD
      exact W.iret (v := ((nI ((m_yd X_g) (((6 * r_g) + q_g).toNatClampNeg))) - 1)) hx hb hr (fun t ht hW => ⟨⟨((nI ((m_yd X_g) (((6 * r_g) + q_g).toNatClampNeg))) - 1), X_g, rfl, ⟨by rw [← et_g, hgen_24, m_at, if_pos hin], by rw [← et_g, hgen_24]⟩, by rw [ht]; exact hP9, hD9⟩, hS.F ht⟩) hS.2.2 dX3_at_51
  refine lv_iload_n hx hb dX3_at_1 rfl (lv_at hl 1 rfl) ?_
  refine ro_i (va_runS (As := [.int r_g]) (rest := [.ref (b 0)]) ⟨hx, hb, hml, hown, hts⟩ ((c_X3_isLine l G cI cZ cJ b _ r_g)) (va_cwS 1 hts gX3_at_X3_isLine rfl rfl rfl (by decide +kernel) ⟨Nat.le_of_ble_eq_true rfl, Nat.le_of_ble_eq_true rfl⟩) ⟨ro_blind, ro_pre va_P0 hK hN⟩ rfl rfl hl.1 rfl (lv_room (Nat.le_of_ble_eq_true rfl)) dX3_at_2 ⟨Nat.zero_le _, Nat.zero_le _⟩) hS hA hP (fun H locs hP hS => ?_)
  refine lv_if_eq (tgt := 19) hx hb dX3_at_5 (by decide) (fun c_2 => ?_) (fun c_2 => ?_)
  · have c_2 := b1_f c_2
    refine lv_iconst (v := 1) hx hb dX3_at_19 (by decide) ?_
    exact cut_20 1 (by first | rw [if_pos ⟨by assumption, by assumption⟩] | rw [if_neg (by rintro ⟨h1, h2⟩; contradiction)]) _ _ hP hD hS _ hl
  · have c_2 := b1_t c_2
    refine lv_iload_n hx hb dX3_at_8 rfl (lv_at hl 2 rfl) ?_
    refine ro_i (va_runS (As := [.int q_g]) (rest := [.ref (b 0)]) ⟨hx, hb, hml, hown, hts⟩ ((c_X3_isLine l G cI cZ cJ b _ q_g)) (va_cwS 1 hts gX3_at_X3_isLine rfl rfl rfl (by decide +kernel) ⟨Nat.le_of_ble_eq_true rfl, Nat.le_of_ble_eq_true rfl⟩) ⟨ro_blind, ro_pre va_P0 hK hN⟩ rfl rfl hl.1 rfl (lv_room (Nat.le_of_ble_eq_true rfl)) dX3_at_9 ⟨Nat.zero_le _, Nat.zero_le _⟩) hS hA hP (fun H locs hP hS => ?_)
    refine lv_if_eq (tgt := 19) hx hb dX3_at_12 (by decide) (fun c_3 => ?_) (fun c_3 => ?_)
    · have c_3 := b1_f c_3
      refine lv_iconst (v := 1) hx hb dX3_at_19 (by decide) ?_
      exact cut_20 1 (by first | rw [if_pos ⟨by assumption, by assumption⟩] | rw [if_neg (by rintro ⟨h1, h2⟩; contradiction)]) _ _ hP hD hS _ hl
    · have c_3 := b1_t c_3
      refine lv_iconst (v := 0) hx hb dX3_at_15 (by decide) ?_
      refine lv_goto (tgt := 20) hx hb dX3_at_16 (by decide) ?_
      exact cut_20 0 (by first | rw [if_pos ⟨by assumption, by assumption⟩] | rw [if_neg (by rintro ⟨h1, h2⟩; contradiction)]) _ _ hP hD hS _ hl

set_option maxHeartbeats 4000000 in
set_option maxRecDepth 100000 in
/-- RampJamModel.freeWay -/
theorem c_X3_freeWay (l : Launch) (G : va_G) (cI cZ cJ : ClassId) (b : Nat → Nat) (sz : Nat) (M : MS) (v_g : Int32) (f_g : Int32) (hok : m_ok M) : Met l yX3_freeWay wsX3_freeWay ({ frames := 3, cells := 0, slots := 0, locals := 68 }) (rw_Pc G [(cI, .int), (cZ, .boolean), (cJ, .long)] (wM cI b M) sz [.ref (b 0), .int v_g, .int f_g]) (rw_Qi (S := MS) (m_fway (m_lay M) v_g f_g) (m_isv (m_lay M) v_g) (fun u : MS => wM cI b u) G (wM cI b M) sz) 0 0 (va_A (wM cI b M) sz) := by
  refine Met.ofW (cc := cX3_freeWay) (maxL := 3) (ret := (some .int)) (by decide) rfl ?_
  intro p e s m args below meth c s₁ B hml hv
  obtain ⟨rfl, hsz, hP, hK, hD0, hN⟩ := hv
  have hx := B.exec
  have hb := B.bytes
  have hr := B.returns
  have hts := atoms_spec (ws := wsX3_freeWay) B.pre
  have hown : s.vm.findClass RX3 = some m.cls := findClass_of_methodNamed B.named
  have hlocks := B.notSynchronized
  subst hsz
  have hD0 : va_D (fun _ => True) [((b 0), .inr (3, [.ref (b 1), .ref (b 2), .ref (b 3), .ref (b 4), .ref (b 5), .int (nI (m_n M)), .int (m_rp M), .int (m_mo M), .int (m_dr M), .int (m_th M), .ref (b 6), .ref (b 7), .ref (b 8), .ref (b 9), .ref (b 10), .ref (b 11), .ref (b 12), .int (nI (m_fm M)), .int (m_ff M)])), ((b 1), .inl (cI, 9, .inl (fN (m_sz M)))), ((b 2), .inl (cI, 9, .inl (fN (m_ac M)))), ((b 3), .inl (cI, 9, .inl (fN (m_li M)))), ((b 4), .inl (cI, 9, .inl (fN (m_pl M)))), ((b 5), .inl (cI, 9, .inl (fN (m_pk M)))), ((b 6), .inl (cI, 36, .inl (fN (m_yd M)))), ((b 7), .inl (cI, 800, .inl (fN (m_fo M)))), ((b 8), .inl (cI, 800, .inl (m_fr M))), ((b 9), .inl (cI, 800, .inl (fN (m_by M)))), ((b 10), .inl (cI, 800, .inl (fN (m_dp M)))), ((b 11), .inl (cI, 2048, .inl (fN (m_sl M)))), ((b 12), .inl (cI, 9, .inl (fN (m_kp M))))] := hD0
  have hD := hD0.self (sz := s.heap.size)
  unfold rw_Qi
  generalize hAe : va_A (wM cI b M) s.heap.size = A at hD ⊢
  have hA : ∀ q : Nat, s.heap.size ≤ q → A q := fun q h => by rw [← hAe]; exact Or.inr h
  have hS : va_S A s.heap s.heap [] := va_S.rf
  have hP : va_P G vwCl [((b 0), .inr (3, [.ref (b 1), .ref (b 2), .ref (b 3), .ref (b 4), .ref (b 5), .int (nI (m_n M)), .int (m_rp M), .int (m_mo M), .int (m_dr M), .int (m_th M), .ref (b 6), .ref (b 7), .ref (b 8), .ref (b 9), .ref (b 10), .ref (b 11), .ref (b 12), .int (nI (m_fm M)), .int (m_ff M)])), ((b 1), .inl (cI, 9, .inl (fN (m_sz M)))), ((b 2), .inl (cI, 9, .inl (fN (m_ac M)))), ((b 3), .inl (cI, 9, .inl (fN (m_li M)))), ((b 4), .inl (cI, 9, .inl (fN (m_pl M)))), ((b 5), .inl (cI, 9, .inl (fN (m_pk M)))), ((b 6), .inl (cI, 36, .inl (fN (m_yd M)))), ((b 7), .inl (cI, 800, .inl (fN (m_fo M)))), ((b 8), .inl (cI, 800, .inl (m_fr M))), ((b 9), .inl (cI, 800, .inl (fN (m_by M)))), ((b 10), .inl (cI, 800, .inl (fN (m_dp M)))), ((b 11), .inl (cI, 2048, .inl (fN (m_sl M)))), ((b 12), .inl (cI, 9, .inl (fN (m_kp M))))] s.heap := hP
  have hl := lv_entry ([.ref (b 0), .int v_g, .int f_g]) (n := 3) (Nat.le_of_ble_eq_true rfl)
  rw [lg_entry_eq]
  generalize (lg_sl ([.ref (b 0), .int v_g, .int f_g]) ++ List.replicate (3 - (lg_sl ([.ref (b 0), .int v_g, .int f_g])).length) Slot.unset).toArray = ls at hl ⊢
  have hl : lv_has ls 3 [(0, .ref (b 0)), (1, .int v_g), (2, .int f_g)] := hl
  refine lv_aload_n hx hb dX3_freeWay_0 rfl (lv_at hl 0 rfl) ?_
  refine rw_v (wr := []) (ws' := [((b 0), .inr (3, [.ref (b 1), .ref (b 2), .ref (b 3), .ref (b 4), .ref (b 5), .int (nI (m_n (m_lay M))), .int (m_rp (m_lay M)), .int (m_mo (m_lay M)), .int (m_dr (m_lay M)), .int (m_th (m_lay M)), .ref (b 6), .ref (b 7), .ref (b 8), .ref (b 9), .ref (b 10), .ref (b 11), .ref (b 12), .int (nI (m_fm (m_lay M))), .int (m_ff (m_lay M))])), ((b 1), .inl (cI, 9, .inl (fN (m_sz (m_lay M))))), ((b 2), .inl (cI, 9, .inl (fN (m_ac (m_lay M))))), ((b 3), .inl (cI, 9, .inl (fN (m_li (m_lay M))))), ((b 4), .inl (cI, 9, .inl (fN (m_pl (m_lay M))))), ((b 5), .inl (cI, 9, .inl (fN (m_pk (m_lay M))))), ((b 6), .inl (cI, 36, .inl (fN (m_yd (m_lay M))))), ((b 7), .inl (cI, 800, .inl (fN (m_fo (m_lay M))))), ((b 8), .inl (cI, 800, .inl (m_fr (m_lay M)))), ((b 9), .inl (cI, 800, .inl (fN (m_by (m_lay M))))), ((b 10), .inl (cI, 800, .inl (fN (m_dp (m_lay M))))), ((b 11), .inl (cI, 2048, .inl (fN (m_sl (m_lay M))))), ((b 12), .inl (cI, 9, .inl (fN (m_kp (m_lay M)))))]) (va_runV (As := []) (rest := []) ⟨hx, hb, hml, hown, hts⟩ ((c_X3_laysYard l G cI cZ cJ b _ M hok)) (cwV 0 hts gX3_freeWay_X3_laysYard rfl rfl rfl (by decide +kernel) ⟨Nat.le_of_ble_eq_true rfl, Nat.le_of_ble_eq_true rfl⟩) ⟨rw_blind, va_recv hK hP (ci := 3) (q0 := 0) rfl rfl, rw_pre hP hD hK hN⟩ rfl rfl hl.1 rfl (lv_room (Nat.le_of_ble_eq_true rfl)) dX3_freeWay_1 ⟨Nat.zero_le _, Nat.zero_le _⟩) hS hA hP hD [0, 1, 2, 3, 4, 5, 6, 7, 8, 9, 10, 11, 12] [] [0, 1, 2, 3, 4, 5, 6, 7, 8, 9, 10, 11, 12] rfl rfl (by decide) (by decide) rfl (by decide) (fun H locs hP hD hS => ?_)
  have hokX := m_ok_lay hok
  generalize hgen_1 : (m_lay M) = X_g at hP hD hokX
  refine lv_aload_n hx hb dX3_freeWay_4 rfl (lv_at hl 0 rfl) ?_
  refine lv_iload_n hx hb dX3_freeWay_5 rfl (lv_at hl 1 rfl) ?_
  refine rw_i (wr := []) (ws' := [((b 0), .inr (3, [.ref (b 1), .ref (b 2), .ref (b 3), .ref (b 4), .ref (b 5), .int (nI (m_n (m_isv X_g v_g))), .int (m_rp (m_isv X_g v_g)), .int (m_mo (m_isv X_g v_g)), .int (m_dr (m_isv X_g v_g)), .int (m_th (m_isv X_g v_g)), .ref (b 6), .ref (b 7), .ref (b 8), .ref (b 9), .ref (b 10), .ref (b 11), .ref (b 12), .int (nI (m_fm (m_isv X_g v_g))), .int (m_ff (m_isv X_g v_g))])), ((b 1), .inl (cI, 9, .inl (fN (m_sz (m_isv X_g v_g))))), ((b 2), .inl (cI, 9, .inl (fN (m_ac (m_isv X_g v_g))))), ((b 3), .inl (cI, 9, .inl (fN (m_li (m_isv X_g v_g))))), ((b 4), .inl (cI, 9, .inl (fN (m_pl (m_isv X_g v_g))))), ((b 5), .inl (cI, 9, .inl (fN (m_pk (m_isv X_g v_g))))), ((b 6), .inl (cI, 36, .inl (fN (m_yd (m_isv X_g v_g))))), ((b 7), .inl (cI, 800, .inl (fN (m_fo (m_isv X_g v_g))))), ((b 8), .inl (cI, 800, .inl (m_fr (m_isv X_g v_g)))), ((b 9), .inl (cI, 800, .inl (fN (m_by (m_isv X_g v_g))))), ((b 10), .inl (cI, 800, .inl (fN (m_dp (m_isv X_g v_g))))), ((b 11), .inl (cI, 2048, .inl (fN (m_sl (m_isv X_g v_g))))), ((b 12), .inl (cI, 9, .inl (fN (m_kp (m_isv X_g v_g)))))]) (va_runV (As := [.int v_g]) (rest := []) ⟨hx, hb, hml, hown, hts⟩ ((c_X3_isVehicle l G cI cZ cJ b _ X_g v_g)) (cwV 1 hts gX3_freeWay_X3_isVehicle rfl rfl rfl (by decide +kernel) ⟨Nat.le_of_ble_eq_true rfl, Nat.le_of_ble_eq_true rfl⟩) ⟨rw_blind, va_recv hK hP (ci := 3) (q0 := 0) rfl rfl, rw_pre hP hD hK hN⟩ rfl rfl hl.1 rfl (lv_room (Nat.le_of_ble_eq_true rfl)) dX3_freeWay_6 ⟨Nat.zero_le _, Nat.zero_le _⟩) hS hA hP hD [0, 1, 2, 3, 4, 5, 6, 7, 8, 9, 10, 11, 12] [] [0, 1, 2, 3, 4, 5, 6, 7, 8, 9, 10, 11, 12] rfl rfl (by decide) (by decide) rfl (by decide) (fun H locs hP hD hS => ?_)
  refine lv_if_eq (tgt := 21) hx hb dX3_freeWay_9 (by decide) (fun c_1 => ?_) (fun c_1 => ?_)
  · have c_1 := b1_f c_1
    refine lv_iconst (v := 0) hx hb dX3_freeWay_21 (by decide) ?_
    have hP9 := hP
    have hD9 := hD
    exact W.iret (v := 0) hx hb hr (fun t ht hW => ⟨⟨0, (m_isv X_g v_g), rfl, ⟨by rw [m_fway, if_neg c_1], rfl⟩, by rw [ht]; exact hP9, hD9⟩, hS.F ht⟩) hS.2.2 dX3_freeWay_22
  · have c_1 := b1_t c_1
    obtain ⟨j_g, hj_g, rfl⟩ := m_has_ex hokX c_1
    refine lv_aload_n hx hb dX3_freeWay_12 rfl (lv_at hl 0 rfl) ?_
    refine lv_iload_n hx hb dX3_freeWay_13 rfl (lv_at hl 1 rfl) ?_
    refine lv_iload_n hx hb dX3_freeWay_14 rfl (lv_at hl 2 rfl) ?_
    refine ro_i (va_runV (As := [.int (nI j_g), .int f_g]) (rest := []) ⟨hx, hb, hml, hown, hts⟩ ((c_X3_way l G cI cZ cJ b _ (m_isv X_g (nI j_g)) j_g f_g (m_ok_isv _ hokX) hj_g)) (cwV 2 hts gX3_freeWay_X3_way rfl rfl rfl (by decide +kernel) ⟨Nat.le_of_ble_eq_true rfl, Nat.le_of_ble_eq_true rfl⟩) ⟨ro_blind, va_recv hK hP (ci := 3) (q0 := 0) rfl rfl, ro_pre hP hK hN⟩ rfl rfl hl.1 rfl (lv_room (Nat.le_of_ble_eq_true rfl)) dX3_freeWay_15 ⟨Nat.zero_le _, Nat.zero_le _⟩) hS hA hP (fun H locs hP hS => ?_)
    refine lv_goto (tgt := 22) hx hb dX3_freeWay_18 (by decide) ?_
    have hP9 := hP
    have hD9 := hD
    exact W.iret (v := (nI (m_wy (m_isv X_g (nI j_g)) j_g f_g))) hx hb hr (fun t ht hW => ⟨⟨(nI (m_wy (m_isv X_g (nI j_g)) j_g f_g)), (m_isv X_g (nI j_g)), rfl, ⟨by rw [m_fway, if_pos c_1, nI_clamp (by have := hokX.1; omega)], rfl⟩, by rw [ht]; exact hP9, hD9⟩, hS.F ht⟩) hS.2.2 dX3_freeWay_22

theorem in_X3_goes_3 : ∀ w ∈ wsX30, w ∈ wsX3_goes := by decide +kernel
set_option maxHeartbeats 4000000 in
set_option maxRecDepth 100000 in
/-- RampJamModel.goes -/
theorem c_X3_goes (l : Launch) (G : va_G) (cI cZ cJ : ClassId) (b : Nat → Nat) (sz : Nat) (M : MS) (v_g : Nat) (c_g : Int32) (h9 : v_g < 9) (hge : nI (m_pl M v_g) + c_g = nI (m_tgt M v_g c_g)) : Met l yX3_goes wsX3_goes ({ frames := 0, cells := 0, slots := 0, locals := 0 }) (rw_Pc G [(cI, .int), (cZ, .boolean), (cJ, .long)] (wM cI b M) sz [.ref (b 0), .int (nI v_g), .int c_g]) (rw_Qv (S := MS) (m_go M v_g c_g) (fun u : MS => wM cI b u) G (wM cI b M) sz) 0 0 (va_A (wM cI b M) sz) := by
  refine Met.ofW (cc := cX3_goes) (maxL := 3) (ret := none) (by decide) rfl ?_
  intro p e s m args below meth c s₁ B hml hv
  obtain ⟨rfl, hsz, hP, hK, hD0, hN⟩ := hv
  have hx := B.exec
  have hb := B.bytes
  have hr := B.returns
  have hts := atoms_spec (ws := wsX3_goes) B.pre
  have hown : s.vm.findClass RX3 = some m.cls := findClass_of_methodNamed B.named
  have hlocks := B.notSynchronized
  subst hsz
  have hD0 : va_D (fun _ => True) [((b 0), .inr (3, [.ref (b 1), .ref (b 2), .ref (b 3), .ref (b 4), .ref (b 5), .int (nI (m_n M)), .int (m_rp M), .int (m_mo M), .int (m_dr M), .int (m_th M), .ref (b 6), .ref (b 7), .ref (b 8), .ref (b 9), .ref (b 10), .ref (b 11), .ref (b 12), .int (nI (m_fm M)), .int (m_ff M)])), ((b 1), .inl (cI, 9, .inl (fN (m_sz M)))), ((b 2), .inl (cI, 9, .inl (fN (m_ac M)))), ((b 3), .inl (cI, 9, .inl (fN (m_li M)))), ((b 4), .inl (cI, 9, .inl (fN (m_pl M)))), ((b 5), .inl (cI, 9, .inl (fN (m_pk M)))), ((b 6), .inl (cI, 36, .inl (fN (m_yd M)))), ((b 7), .inl (cI, 800, .inl (fN (m_fo M)))), ((b 8), .inl (cI, 800, .inl (m_fr M))), ((b 9), .inl (cI, 800, .inl (fN (m_by M)))), ((b 10), .inl (cI, 800, .inl (fN (m_dp M)))), ((b 11), .inl (cI, 2048, .inl (fN (m_sl M)))), ((b 12), .inl (cI, 9, .inl (fN (m_kp M))))] := hD0
  have hD := hD0.self (sz := s.heap.size)
  unfold rw_Qv
  generalize hAe : va_A (wM cI b M) s.heap.size = A at hD ⊢
  have hA : ∀ q : Nat, s.heap.size ≤ q → A q := fun q h => by rw [← hAe]; exact Or.inr h
  have hS : va_S A s.heap s.heap [] := va_S.rf
  have hP : va_P G vwCl [((b 0), .inr (3, [.ref (b 1), .ref (b 2), .ref (b 3), .ref (b 4), .ref (b 5), .int (nI (m_n M)), .int (m_rp M), .int (m_mo M), .int (m_dr M), .int (m_th M), .ref (b 6), .ref (b 7), .ref (b 8), .ref (b 9), .ref (b 10), .ref (b 11), .ref (b 12), .int (nI (m_fm M)), .int (m_ff M)])), ((b 1), .inl (cI, 9, .inl (fN (m_sz M)))), ((b 2), .inl (cI, 9, .inl (fN (m_ac M)))), ((b 3), .inl (cI, 9, .inl (fN (m_li M)))), ((b 4), .inl (cI, 9, .inl (fN (m_pl M)))), ((b 5), .inl (cI, 9, .inl (fN (m_pk M)))), ((b 6), .inl (cI, 36, .inl (fN (m_yd M)))), ((b 7), .inl (cI, 800, .inl (fN (m_fo M)))), ((b 8), .inl (cI, 800, .inl (m_fr M))), ((b 9), .inl (cI, 800, .inl (fN (m_by M)))), ((b 10), .inl (cI, 800, .inl (fN (m_dp M)))), ((b 11), .inl (cI, 2048, .inl (fN (m_sl M)))), ((b 12), .inl (cI, 9, .inl (fN (m_kp M))))] s.heap := hP
  have hl := lv_entry ([.ref (b 0), .int (nI v_g), .int c_g]) (n := 3) (Nat.le_of_ble_eq_true rfl)
  rw [lg_entry_eq]
  generalize (lg_sl ([.ref (b 0), .int (nI v_g), .int c_g]) ++ List.replicate (3 - (lg_sl ([.ref (b 0), .int (nI v_g), .int c_g])).length) Slot.unset).toArray = ls at hl ⊢
  have hl : lv_has ls 3 [(0, .ref (b 0)), (1, .int (nI v_g)), (2, .int c_g)] := hl
  refine lv_aload_n hx hb dX3_goes_0 rfl (lv_at hl 0 rfl) ?_
  refine va_get (D := G) (ci := 3) (v := .ref (b 4)) (C := RX3) (T := TX3) (N := 19) hx hb hts in_X3_goes_3 hown hK hP 0 rfl rfl 3 (by decide) (hts (.fieldLink RX3 19 "RampJamModel" "place" "[I") (by decide +kernel)) (fun _ h9 => h9) rfl dX3_goes_1 ?_
  refine lv_iload_n hx hb dX3_goes_4 rfl (lv_at hl 1 rfl) ?_
  refine lv_dup2_11 hx hb dX3_goes_5 rfl rfl ?_
  refine va_iald hx hb hK hP 4 0 rfl rfl (vp_in_nI (by omega) (by decide)) dX3_goes_6 ?_
  rw [show (nI v_g).toNatClampNeg = v_g from nI_clamp (by omega)]
  rw [show fN (m_pl M) v_g = (nI ((m_pl M) v_g)) from rfl]
  refine lv_iload_n hx hb dX3_goes_7 rfl (lv_at hl 2 rfl) ?_
  refine lv_iadd hx hb dX3_goes_8 ?_
  rw [show (((nI ((m_pl M) v_g)) + c_g) : Int32) = (nI (m_tgt M v_g c_g)) from hge]
  refine va_iast hx hb hK hP hD hS 4 0 rfl rfl (vp_in_nI (by omega) (by decide)) dX3_goes_9 (fun H locs hP hD hS => ?_)
  rw [show (nI v_g).toNatClampNeg = v_g from nI_clamp (by omega)] at hP hD
  rw [fN_upd] at hP hD
  have hP : va_P G vwCl [((b 0), .inr (3, [.ref (b 1), .ref (b 2), .ref (b 3), .ref (b 4), .ref (b 5), .int (nI (m_n M)), .int (m_rp M), .int (m_mo M), .int (m_dr M), .int (m_th M), .ref (b 6), .ref (b 7), .ref (b 8), .ref (b 9), .ref (b 10), .ref (b 11), .ref (b 12), .int (nI (m_fm M)), .int (m_ff M)])), ((b 1), .inl (cI, 9, .inl (fN (m_sz M)))), ((b 2), .inl (cI, 9, .inl (fN (m_ac M)))), ((b 3), .inl (cI, 9, .inl (fN (m_li M)))), ((b 4), .inl (cI, 9, .inl (fN (updN (m_pl M) v_g (m_tgt M v_g c_g))))), ((b 5), .inl (cI, 9, .inl (fN (m_pk M)))), ((b 6), .inl (cI, 36, .inl (fN (m_yd M)))), ((b 7), .inl (cI, 800, .inl (fN (m_fo M)))), ((b 8), .inl (cI, 800, .inl (m_fr M))), ((b 9), .inl (cI, 800, .inl (fN (m_by M)))), ((b 10), .inl (cI, 800, .inl (fN (m_dp M)))), ((b 11), .inl (cI, 2048, .inl (fN (m_sl M)))), ((b 12), .inl (cI, 9, .inl (fN (m_kp M))))] H := hP
  have hD : va_D A [((b 0), .inr (3, [.ref (b 1), .ref (b 2), .ref (b 3), .ref (b 4), .ref (b 5), .int (nI (m_n M)), .int (m_rp M), .int (m_mo M), .int (m_dr M), .int (m_th M), .ref (b 6), .ref (b 7), .ref (b 8), .ref (b 9), .ref (b 10), .ref (b 11), .ref (b 12), .int (nI (m_fm M)), .int (m_ff M)])), ((b 1), .inl (cI, 9, .inl (fN (m_sz M)))), ((b 2), .inl (cI, 9, .inl (fN (m_ac M)))), ((b 3), .inl (cI, 9, .inl (fN (m_li M)))), ((b 4), .inl (cI, 9, .inl (fN (updN (m_pl M) v_g (m_tgt M v_g c_g))))), ((b 5), .inl (cI, 9, .inl (fN (m_pk M)))), ((b 6), .inl (cI, 36, .inl (fN (m_yd M)))), ((b 7), .inl (cI, 800, .inl (fN (m_fo M)))), ((b 8), .inl (cI, 800, .inl (m_fr M))), ((b 9), .inl (cI, 800, .inl (fN (m_by M)))), ((b 10), .inl (cI, 800, .inl (fN (m_dp M)))), ((b 11), .inl (cI, 2048, .inl (fN (m_sl M)))), ((b 12), .inl (cI, 9, .inl (fN (m_kp M))))] := hD
  refine lv_aload_n hx hb dX3_goes_10 rfl (lv_at hl 0 rfl) ?_
  refine lv_dup hx hb dX3_goes_11 rfl ?_
  refine va_get (D := G) (ci := 3) (v := .int (m_mo M)) (C := RX3) (T := TX3) (N := 19) hx hb hts in_X3_goes_3 hown hK hP 0 rfl rfl 7 (by decide) (hts (.fieldLink RX3 71 "RampJamModel" "moves" "I") (by decide +kernel)) (fun _ h9 => h9) rfl dX3_goes_12 ?_
  refine lv_iconst (v := 1) hx hb dX3_goes_15 (by decide) ?_
  refine lv_iadd hx hb dX3_goes_16 ?_
  refine va_put (D := G) (ci := 3) (v := .int ((m_mo M) + 1)) (ty := .int) (C := RX3) (T := TX3) (N := 19) hx hb hts in_X3_goes_3 tyX3 tyX3_ok nmX3 hown hK hP hD hS 0 rfl rfl 7 (by decide) (hts (.fieldLink RX3 71 "RampJamModel" "moves" "I") (by decide +kernel)) (fun _ h9 => h9) rfl (by decide +kernel) rfl rfl (Nat.le_of_ble_eq_true rfl) dX3_goes_17 (fun H locs hP hD hS => ?_)
  have hP : va_P G vwCl [((b 0), .inr (3, [.ref (b 1), .ref (b 2), .ref (b 3), .ref (b 4), .ref (b 5), .int (nI (m_n M)), .int (m_rp M), .int ((m_mo M) + 1), .int (m_dr M), .int (m_th M), .ref (b 6), .ref (b 7), .ref (b 8), .ref (b 9), .ref (b 10), .ref (b 11), .ref (b 12), .int (nI (m_fm M)), .int (m_ff M)])), ((b 1), .inl (cI, 9, .inl (fN (m_sz M)))), ((b 2), .inl (cI, 9, .inl (fN (m_ac M)))), ((b 3), .inl (cI, 9, .inl (fN (m_li M)))), ((b 4), .inl (cI, 9, .inl (fN (updN (m_pl M) v_g (m_tgt M v_g c_g))))), ((b 5), .inl (cI, 9, .inl (fN (m_pk M)))), ((b 6), .inl (cI, 36, .inl (fN (m_yd M)))), ((b 7), .inl (cI, 800, .inl (fN (m_fo M)))), ((b 8), .inl (cI, 800, .inl (m_fr M))), ((b 9), .inl (cI, 800, .inl (fN (m_by M)))), ((b 10), .inl (cI, 800, .inl (fN (m_dp M)))), ((b 11), .inl (cI, 2048, .inl (fN (m_sl M)))), ((b 12), .inl (cI, 9, .inl (fN (m_kp M))))] H := hP
  have hD : va_D A [((b 0), .inr (3, [.ref (b 1), .ref (b 2), .ref (b 3), .ref (b 4), .ref (b 5), .int (nI (m_n M)), .int (m_rp M), .int ((m_mo M) + 1), .int (m_dr M), .int (m_th M), .ref (b 6), .ref (b 7), .ref (b 8), .ref (b 9), .ref (b 10), .ref (b 11), .ref (b 12), .int (nI (m_fm M)), .int (m_ff M)])), ((b 1), .inl (cI, 9, .inl (fN (m_sz M)))), ((b 2), .inl (cI, 9, .inl (fN (m_ac M)))), ((b 3), .inl (cI, 9, .inl (fN (m_li M)))), ((b 4), .inl (cI, 9, .inl (fN (updN (m_pl M) v_g (m_tgt M v_g c_g))))), ((b 5), .inl (cI, 9, .inl (fN (m_pk M)))), ((b 6), .inl (cI, 36, .inl (fN (m_yd M)))), ((b 7), .inl (cI, 800, .inl (fN (m_fo M)))), ((b 8), .inl (cI, 800, .inl (m_fr M))), ((b 9), .inl (cI, 800, .inl (fN (m_by M)))), ((b 10), .inl (cI, 800, .inl (fN (m_dp M)))), ((b 11), .inl (cI, 2048, .inl (fN (m_sl M)))), ((b 12), .inl (cI, 9, .inl (fN (m_kp M))))] := hD
  refine lv_aload_n hx hb dX3_goes_20 rfl (lv_at hl 0 rfl) ?_
  refine lv_dup hx hb dX3_goes_21 rfl ?_
  refine va_get (D := G) (ci := 3) (v := .int (m_dr M)) (C := RX3) (T := TX3) (N := 19) hx hb hts in_X3_goes_3 hown hK hP 0 rfl rfl 8 (by decide) (hts (.fieldLink RX3 74 "RampJamModel" "driven" "I") (by decide +kernel)) (fun _ h9 => h9) rfl dX3_goes_22 ?_
  have cut_35 : ∀ (x_g : Int32), (x_g = (m_abs c_g)) → ∀ (H : Heap) (locs : List Loc), va_P G vwCl [((b 0), .inr (3, [.ref (b 1), .ref (b 2), .ref (b 3), .ref (b 4), .ref (b 5), .int (nI (m_n M)), .int (m_rp M), .int ((m_mo M) + 1), .int (m_dr M), .int (m_th M), .ref (b 6), .ref (b 7), .ref (b 8), .ref (b 9), .ref (b 10), .ref (b 11), .ref (b 12), .int (nI (m_fm M)), .int (m_ff M)])), ((b 1), .inl (cI, 9, .inl (fN (m_sz M)))), ((b 2), .inl (cI, 9, .inl (fN (m_ac M)))), ((b 3), .inl (cI, 9, .inl (fN (m_li M)))), ((b 4), .inl (cI, 9, .inl (fN (updN (m_pl M) v_g (m_tgt M v_g c_g))))), ((b 5), .inl (cI, 9, .inl (fN (m_pk M)))), ((b 6), .inl (cI, 36, .inl (fN (m_yd M)))), ((b 7), .inl (cI, 800, .inl (fN (m_fo M)))), ((b 8), .inl (cI, 800, .inl (m_fr M))), ((b 9), .inl (cI, 800, .inl (fN (m_by M)))), ((b 10), .inl (cI, 800, .inl (fN (m_dp M)))), ((b 11), .inl (cI, 2048, .inl (fN (m_sl M)))), ((b 12), .inl (cI, 9, .inl (fN (m_kp M))))] H → va_D A [((b 0), .inr (3, [.ref (b 1), .ref (b 2), .ref (b 3), .ref (b 4), .ref (b 5), .int (nI (m_n M)), .int (m_rp M), .int ((m_mo M) + 1), .int (m_dr M), .int (m_th M), .ref (b 6), .ref (b 7), .ref (b 8), .ref (b 9), .ref (b 10), .ref (b 11), .ref (b 12), .int (nI (m_fm M)), .int (m_ff M)])), ((b 1), .inl (cI, 9, .inl (fN (m_sz M)))), ((b 2), .inl (cI, 9, .inl (fN (m_ac M)))), ((b 3), .inl (cI, 9, .inl (fN (m_li M)))), ((b 4), .inl (cI, 9, .inl (fN (updN (m_pl M) v_g (m_tgt M v_g c_g))))), ((b 5), .inl (cI, 9, .inl (fN (m_pk M)))), ((b 6), .inl (cI, 36, .inl (fN (m_yd M)))), ((b 7), .inl (cI, 800, .inl (fN (m_fo M)))), ((b 8), .inl (cI, 800, .inl (m_fr M))), ((b 9), .inl (cI, 800, .inl (fN (m_by M)))), ((b 10), .inl (cI, 800, .inl (fN (m_dp M)))), ((b 11), .inl (cI, 2048, .inl (fN (m_sl M)))), ((b 12), .inl (cI, 9, .inl (fN (m_kp M))))] → va_S A s.heap H locs → ∀ (ls : Array Slot), lv_has ls 3 [(0, .ref (b 0)), (1, .int (nI v_g)), (2, .int c_g)] → W p l e (headSpec wsX3_goes ({ frames := 0, cells := 0, slots := 0, locals := 0 })).room s m ([.ref (b 0), .int (nI v_g), .int c_g] : List Value).toArray below meth c H locs 0 0 (MQ below (va_Qv (fun u : MS => u = (m_go M v_g c_g)) (fun (u : MS) (t : State) => va_P G vwCl ((fun u : MS => wM cI b u) u) t.heap ∧ va_D A ((fun u : MS => wM cI b u) u)) A) ([.ref (b 0), .int (nI v_g), .int c_g] : List Value).toArray s 0 0 A) (F0 m 35 ls [.int x_g, .int (m_dr M), .ref (b 0)]) := by
    intro x_g ex_g H locs hP hD hS ls hl
    subst ex_g
    try have hl : lv_has ls 3 [(0, .ref (b 0)), (1, .int (nI v_g)), (2, .int c_g)] := hl
    refine lv_iadd hx hb dX3_goes_35 ?_
    refine va_put (D := G) (ci := 3) (v := .int ((m_dr M) + (m_abs c_g))) (ty := .int) (C := RX3) (T := TX3) (N := 19) hx hb hts in_X3_goes_3 tyX3 tyX3_ok nmX3 hown hK hP hD hS 0 rfl rfl 8 (by decide) (hts (.fieldLink RX3 74 "RampJamModel" "driven" "I") (by decide +kernel)) (fun _ h9 => h9) rfl (by decide +kernel) rfl rfl (Nat.le_of_ble_eq_true rfl) dX3_goes_36 (fun H locs hP hD hS => ?_)
    have hP : va_P G vwCl [((b 0), .inr (3, [.ref (b 1), .ref (b 2), .ref (b 3), .ref (b 4), .ref (b 5), .int (nI (m_n M)), .int (m_rp M), .int ((m_mo M) + 1), .int ((m_dr M) + (m_abs c_g)), .int (m_th M), .ref (b 6), .ref (b 7), .ref (b 8), .ref (b 9), .ref (b 10), .ref (b 11), .ref (b 12), .int (nI (m_fm M)), .int (m_ff M)])), ((b 1), .inl (cI, 9, .inl (fN (m_sz M)))), ((b 2), .inl (cI, 9, .inl (fN (m_ac M)))), ((b 3), .inl (cI, 9, .inl (fN (m_li M)))), ((b 4), .inl (cI, 9, .inl (fN (updN (m_pl M) v_g (m_tgt M v_g c_g))))), ((b 5), .inl (cI, 9, .inl (fN (m_pk M)))), ((b 6), .inl (cI, 36, .inl (fN (m_yd M)))), ((b 7), .inl (cI, 800, .inl (fN (m_fo M)))), ((b 8), .inl (cI, 800, .inl (m_fr M))), ((b 9), .inl (cI, 800, .inl (fN (m_by M)))), ((b 10), .inl (cI, 800, .inl (fN (m_dp M)))), ((b 11), .inl (cI, 2048, .inl (fN (m_sl M)))), ((b 12), .inl (cI, 9, .inl (fN (m_kp M))))] H := hP
    have hD : va_D A [((b 0), .inr (3, [.ref (b 1), .ref (b 2), .ref (b 3), .ref (b 4), .ref (b 5), .int (nI (m_n M)), .int (m_rp M), .int ((m_mo M) + 1), .int ((m_dr M) + (m_abs c_g)), .int (m_th M), .ref (b 6), .ref (b 7), .ref (b 8), .ref (b 9), .ref (b 10), .ref (b 11), .ref (b 12), .int (nI (m_fm M)), .int (m_ff M)])), ((b 1), .inl (cI, 9, .inl (fN (m_sz M)))), ((b 2), .inl (cI, 9, .inl (fN (m_ac M)))), ((b 3), .inl (cI, 9, .inl (fN (m_li M)))), ((b 4), .inl (cI, 9, .inl (fN (updN (m_pl M) v_g (m_tgt M v_g c_g))))), ((b 5), .inl (cI, 9, .inl (fN (m_pk M)))), ((b 6), .inl (cI, 36, .inl (fN (m_yd M)))), ((b 7), .inl (cI, 800, .inl (fN (m_fo M)))), ((b 8), .inl (cI, 800, .inl (m_fr M))), ((b 9), .inl (cI, 800, .inl (fN (m_by M)))), ((b 10), .inl (cI, 800, .inl (fN (m_dp M)))), ((b 11), .inl (cI, 2048, .inl (fN (m_sl M)))), ((b 12), .inl (cI, 9, .inl (fN (m_kp M))))] := hD
    have hP9 := hP
    have hD9 := hD
    exact W.vret hx hb hr (fun t ht hW => ⟨⟨((m_sz M), (m_ac M), (m_li M), (updN (m_pl M) v_g (m_tgt M v_g c_g)), (m_pk M), (m_n M), (m_rp M), ((m_mo M) + 1), ((m_dr M) + (m_abs c_g)), (m_th M), (m_yd M), (m_fo M), (m_fr M), (m_by M), (m_dp M), (m_sl M), (m_kp M), (m_fm M), (m_ff M)), rfl, rfl, by rw [ht]; exact hP9, hD9⟩, hS.F ht⟩) hS.2.2 dX3_goes_39
  refine lv_iload_n hx hb dX3_goes_25 rfl (lv_at hl 2 rfl) ?_
  refine lv_if_ge (tgt := 34) hx hb dX3_goes_26 (by decide) (fun c_1 => ?_) (fun c_1 => ?_)
  · refine lv_iload_n hx hb dX3_goes_34 rfl (lv_at hl 2 rfl) ?_
    exact cut_35 c_g (by first | rw [m_abs, if_pos (by assumption)] | rw [m_abs, if_neg (by assumption)]) _ _ hP hD hS _ hl
  · refine lv_iload_n hx hb dX3_goes_29 rfl (lv_at hl 2 rfl) ?_
    refine lv_ineg hx hb dX3_goes_30 ?_
    refine lv_goto (tgt := 35) hx hb dX3_goes_31 (by decide) ?_
    exact cut_35 (-c_g) (by first | rw [m_abs, if_pos (by assumption)] | rw [m_abs, if_neg (by assumption)]) _ _ hP hD hS _ hl

theorem in_X3_drive_3 : ∀ w ∈ wsX30, w ∈ wsX3_drive := by decide +kernel
set_option maxHeartbeats 4000000 in
set_option maxRecDepth 100000 in
/-- RampJamModel.drive -/
theorem c_X3_drive (l : Launch) (G : va_G) (cI cZ cJ : ClassId) (b : Nat → Nat) (sz : Nat) (M : MS) (v_g : Int32) (c_g : Int32) (hok : m_ok M) : Met l yX3_drive wsX3_drive ({ frames := 3, cells := 0, slots := 0, locals := 68 }) (rw_Pc G [(cI, .int), (cZ, .boolean), (cJ, .long)] (wM cI b M) sz [.ref (b 0), .int v_g, .int c_g]) (rw_Qv (S := MS) (m_drive M v_g c_g) (fun u : MS => wM cI b u) G (wM cI b M) sz) 0 0 (va_A (wM cI b M) sz) := by
  refine Met.ofW (cc := cX3_drive) (maxL := 5) (ret := none) (by decide) rfl ?_
  intro p e s m args below meth c s₁ B hml hv
  obtain ⟨rfl, hsz, hP, hK, hD0, hN⟩ := hv
  have hx := B.exec
  have hb := B.bytes
  have hr := B.returns
  have hts := atoms_spec (ws := wsX3_drive) B.pre
  have hown : s.vm.findClass RX3 = some m.cls := findClass_of_methodNamed B.named
  have hlocks := B.notSynchronized
  subst hsz
  have hD0 : va_D (fun _ => True) [((b 0), .inr (3, [.ref (b 1), .ref (b 2), .ref (b 3), .ref (b 4), .ref (b 5), .int (nI (m_n M)), .int (m_rp M), .int (m_mo M), .int (m_dr M), .int (m_th M), .ref (b 6), .ref (b 7), .ref (b 8), .ref (b 9), .ref (b 10), .ref (b 11), .ref (b 12), .int (nI (m_fm M)), .int (m_ff M)])), ((b 1), .inl (cI, 9, .inl (fN (m_sz M)))), ((b 2), .inl (cI, 9, .inl (fN (m_ac M)))), ((b 3), .inl (cI, 9, .inl (fN (m_li M)))), ((b 4), .inl (cI, 9, .inl (fN (m_pl M)))), ((b 5), .inl (cI, 9, .inl (fN (m_pk M)))), ((b 6), .inl (cI, 36, .inl (fN (m_yd M)))), ((b 7), .inl (cI, 800, .inl (fN (m_fo M)))), ((b 8), .inl (cI, 800, .inl (m_fr M))), ((b 9), .inl (cI, 800, .inl (fN (m_by M)))), ((b 10), .inl (cI, 800, .inl (fN (m_dp M)))), ((b 11), .inl (cI, 2048, .inl (fN (m_sl M)))), ((b 12), .inl (cI, 9, .inl (fN (m_kp M))))] := hD0
  have hD := hD0.self (sz := s.heap.size)
  unfold rw_Qv
  generalize hAe : va_A (wM cI b M) s.heap.size = A at hD ⊢
  have hA : ∀ q : Nat, s.heap.size ≤ q → A q := fun q h => by rw [← hAe]; exact Or.inr h
  have hS : va_S A s.heap s.heap [] := va_S.rf
  have hP : va_P G vwCl [((b 0), .inr (3, [.ref (b 1), .ref (b 2), .ref (b 3), .ref (b 4), .ref (b 5), .int (nI (m_n M)), .int (m_rp M), .int (m_mo M), .int (m_dr M), .int (m_th M), .ref (b 6), .ref (b 7), .ref (b 8), .ref (b 9), .ref (b 10), .ref (b 11), .ref (b 12), .int (nI (m_fm M)), .int (m_ff M)])), ((b 1), .inl (cI, 9, .inl (fN (m_sz M)))), ((b 2), .inl (cI, 9, .inl (fN (m_ac M)))), ((b 3), .inl (cI, 9, .inl (fN (m_li M)))), ((b 4), .inl (cI, 9, .inl (fN (m_pl M)))), ((b 5), .inl (cI, 9, .inl (fN (m_pk M)))), ((b 6), .inl (cI, 36, .inl (fN (m_yd M)))), ((b 7), .inl (cI, 800, .inl (fN (m_fo M)))), ((b 8), .inl (cI, 800, .inl (m_fr M))), ((b 9), .inl (cI, 800, .inl (fN (m_by M)))), ((b 10), .inl (cI, 800, .inl (fN (m_dp M)))), ((b 11), .inl (cI, 2048, .inl (fN (m_sl M)))), ((b 12), .inl (cI, 9, .inl (fN (m_kp M))))] s.heap := hP
  have hl := lv_entry ([.ref (b 0), .int v_g, .int c_g]) (n := 5) (Nat.le_of_ble_eq_true rfl)
  rw [lg_entry_eq]
  generalize (lg_sl ([.ref (b 0), .int v_g, .int c_g]) ++ List.replicate (5 - (lg_sl ([.ref (b 0), .int v_g, .int c_g])).length) Slot.unset).toArray = ls at hl ⊢
  have hl : lv_has ls 5 [(0, .ref (b 0)), (1, .int v_g), (2, .int c_g)] := hl
  refine lv_aload_n hx hb dX3_drive_0 rfl (lv_at hl 0 rfl) ?_
  refine lv_iload_n hx hb dX3_drive_1 rfl (lv_at hl 1 rfl) ?_
  refine rw_i (wr := []) (ws' := [((b 0), .inr (3, [.ref (b 1), .ref (b 2), .ref (b 3), .ref (b 4), .ref (b 5), .int (nI (m_n (m_isv M v_g))), .int (m_rp (m_isv M v_g)), .int (m_mo (m_isv M v_g)), .int (m_dr (m_isv M v_g)), .int (m_th (m_isv M v_g)), .ref (b 6), .ref (b 7), .ref (b 8), .ref (b 9), .ref (b 10), .ref (b 11), .ref (b 12), .int (nI (m_fm (m_isv M v_g))), .int (m_ff (m_isv M v_g))])), ((b 1), .inl (cI, 9, .inl (fN (m_sz (m_isv M v_g))))), ((b 2), .inl (cI, 9, .inl (fN (m_ac (m_isv M v_g))))), ((b 3), .inl (cI, 9, .inl (fN (m_li (m_isv M v_g))))), ((b 4), .inl (cI, 9, .inl (fN (m_pl (m_isv M v_g))))), ((b 5), .inl (cI, 9, .inl (fN (m_pk (m_isv M v_g))))), ((b 6), .inl (cI, 36, .inl (fN (m_yd (m_isv M v_g))))), ((b 7), .inl (cI, 800, .inl (fN (m_fo (m_isv M v_g))))), ((b 8), .inl (cI, 800, .inl (m_fr (m_isv M v_g)))), ((b 9), .inl (cI, 800, .inl (fN (m_by (m_isv M v_g))))), ((b 10), .inl (cI, 800, .inl (fN (m_dp (m_isv M v_g))))), ((b 11), .inl (cI, 2048, .inl (fN (m_sl (m_isv M v_g))))), ((b 12), .inl (cI, 9, .inl (fN (m_kp (m_isv M v_g)))))]) (va_runV (As := [.int v_g]) (rest := []) ⟨hx, hb, hml, hown, hts⟩ ((c_X3_isVehicle l G cI cZ cJ b _ M v_g)) (cwV 1 hts gX3_drive_X3_isVehicle rfl rfl rfl (by decide +kernel) ⟨Nat.le_of_ble_eq_true rfl, Nat.le_of_ble_eq_true rfl⟩) ⟨rw_blind, va_recv hK hP (ci := 3) (q0 := 0) rfl rfl, rw_pre hP hD hK hN⟩ rfl rfl hl.1 rfl (lv_room (Nat.le_of_ble_eq_true rfl)) dX3_drive_2 ⟨Nat.zero_le _, Nat.zero_le _⟩) hS hA hP hD [0, 1, 2, 3, 4, 5, 6, 7, 8, 9, 10, 11, 12] [] [0, 1, 2, 3, 4, 5, 6, 7, 8, 9, 10, 11, 12] rfl rfl (by decide) (by decide) rfl (by decide) (fun H locs hP hD hS => ?_)
  refine lv_if_eq (tgt := 94) hx hb dX3_drive_5 (by decide) (fun c_1 => ?_) (fun c_1 => ?_)
  · have c_1 := b1_f c_1
    have hP9 := hP
    have hD9 := hD
    exact W.vret hx hb hr (fun t ht hW => ⟨⟨(m_isv M v_g), rfl, by rw [m_drive, if_neg c_1], by rw [ht]; exact hP9, hD9⟩, hS.F ht⟩) hS.2.2 dX3_drive_94
  · have c_1 := b1_t c_1
    have hhas := c_1
    obtain ⟨j_g, hj_g, rfl⟩ := m_has_ex hok c_1
    have cut_28 : ∀ (x_g : Int32), (x_g = (b1 (m_rng c_g))) → ∀ (H : Heap) (locs : List Loc), va_P G vwCl [((b 0), .inr (3, [.ref (b 1), .ref (b 2), .ref (b 3), .ref (b 4), .ref (b 5), .int (nI (m_n (m_isv M (nI j_g)))), .int (m_rp (m_isv M (nI j_g))), .int (m_mo (m_isv M (nI j_g))), .int (m_dr (m_isv M (nI j_g))), .int (m_th (m_isv M (nI j_g))), .ref (b 6), .ref (b 7), .ref (b 8), .ref (b 9), .ref (b 10), .ref (b 11), .ref (b 12), .int (nI (m_fm (m_isv M (nI j_g)))), .int (m_ff (m_isv M (nI j_g)))])), ((b 1), .inl (cI, 9, .inl (fN (m_sz (m_isv M (nI j_g)))))), ((b 2), .inl (cI, 9, .inl (fN (m_ac (m_isv M (nI j_g)))))), ((b 3), .inl (cI, 9, .inl (fN (m_li (m_isv M (nI j_g)))))), ((b 4), .inl (cI, 9, .inl (fN (m_pl (m_isv M (nI j_g)))))), ((b 5), .inl (cI, 9, .inl (fN (m_pk (m_isv M (nI j_g)))))), ((b 6), .inl (cI, 36, .inl (fN (m_yd (m_isv M (nI j_g)))))), ((b 7), .inl (cI, 800, .inl (fN (m_fo (m_isv M (nI j_g)))))), ((b 8), .inl (cI, 800, .inl (m_fr (m_isv M (nI j_g))))), ((b 9), .inl (cI, 800, .inl (fN (m_by (m_isv M (nI j_g)))))), ((b 10), .inl (cI, 800, .inl (fN (m_dp (m_isv M (nI j_g)))))), ((b 11), .inl (cI, 2048, .inl (fN (m_sl (m_isv M (nI j_g)))))), ((b 12), .inl (cI, 9, .inl (fN (m_kp (m_isv M (nI j_g))))))] H → va_D A [((b 0), .inr (3, [.ref (b 1), .ref (b 2), .ref (b 3), .ref (b 4), .ref (b 5), .int (nI (m_n (m_isv M (nI j_g)))), .int (m_rp (m_isv M (nI j_g))), .int (m_mo (m_isv M (nI j_g))), .int (m_dr (m_isv M (nI j_g))), .int (m_th (m_isv M (nI j_g))), .ref (b 6), .ref (b 7), .ref (b 8), .ref (b 9), .ref (b 10), .ref (b 11), .ref (b 12), .int (nI (m_fm (m_isv M (nI j_g)))), .int (m_ff (m_isv M (nI j_g)))])), ((b 1), .inl (cI, 9, .inl (fN (m_sz (m_isv M (nI j_g)))))), ((b 2), .inl (cI, 9, .inl (fN (m_ac (m_isv M (nI j_g)))))), ((b 3), .inl (cI, 9, .inl (fN (m_li (m_isv M (nI j_g)))))), ((b 4), .inl (cI, 9, .inl (fN (m_pl (m_isv M (nI j_g)))))), ((b 5), .inl (cI, 9, .inl (fN (m_pk (m_isv M (nI j_g)))))), ((b 6), .inl (cI, 36, .inl (fN (m_yd (m_isv M (nI j_g)))))), ((b 7), .inl (cI, 800, .inl (fN (m_fo (m_isv M (nI j_g)))))), ((b 8), .inl (cI, 800, .inl (m_fr (m_isv M (nI j_g))))), ((b 9), .inl (cI, 800, .inl (fN (m_by (m_isv M (nI j_g)))))), ((b 10), .inl (cI, 800, .inl (fN (m_dp (m_isv M (nI j_g)))))), ((b 11), .inl (cI, 2048, .inl (fN (m_sl (m_isv M (nI j_g)))))), ((b 12), .inl (cI, 9, .inl (fN (m_kp (m_isv M (nI j_g))))))] → va_S A s.heap H locs → ∀ (ls : Array Slot), lv_has ls 5 [(0, .ref (b 0)), (1, .int (nI j_g)), (2, .int c_g)] → W p l e (headSpec wsX3_drive ({ frames := 3, cells := 0, slots := 0, locals := 68 })).room s m ([.ref (b 0), .int (nI j_g), .int c_g] : List Value).toArray below meth c H locs 0 0 (MQ below (va_Qv (fun u : MS => u = (m_drive M (nI j_g) c_g)) (fun (u : MS) (t : State) => va_P G vwCl ((fun u : MS => wM cI b u) u) t.heap ∧ va_D A ((fun u : MS => wM cI b u) u)) A) ([.ref (b 0), .int (nI j_g), .int c_g] : List Value).toArray s 0 0 A) (F0 m 28 ls [.int x_g]) := by
      intro x_g ex_g H locs hP hD hS ls hl
      subst ex_g
      try have hl : lv_has ls 5 [(0, .ref (b 0)), (1, .int (nI j_g)), (2, .int c_g)] := hl
      refine lv_istore_n (lv' := [(3, .int (b1 (m_rng c_g))), (0, .ref (b 0)), (1, .int (nI j_g)), (2, .int c_g)]) hx hb dX3_drive_28 rfl hl (by decide) rfl (fun ls hl => ?_)
      refine lv_aload_n hx hb dX3_drive_29 rfl (lv_at hl 1 rfl) ?_
      refine rw_v (wr := []) (ws' := [((b 0), .inr (3, [.ref (b 1), .ref (b 2), .ref (b 3), .ref (b 4), .ref (b 5), .int (nI (m_n (m_lay (m_isv M (nI j_g))))), .int (m_rp (m_lay (m_isv M (nI j_g)))), .int (m_mo (m_lay (m_isv M (nI j_g)))), .int (m_dr (m_lay (m_isv M (nI j_g)))), .int (m_th (m_lay (m_isv M (nI j_g)))), .ref (b 6), .ref (b 7), .ref (b 8), .ref (b 9), .ref (b 10), .ref (b 11), .ref (b 12), .int (nI (m_fm (m_lay (m_isv M (nI j_g))))), .int (m_ff (m_lay (m_isv M (nI j_g))))])), ((b 1), .inl (cI, 9, .inl (fN (m_sz (m_lay (m_isv M (nI j_g))))))), ((b 2), .inl (cI, 9, .inl (fN (m_ac (m_lay (m_isv M (nI j_g))))))), ((b 3), .inl (cI, 9, .inl (fN (m_li (m_lay (m_isv M (nI j_g))))))), ((b 4), .inl (cI, 9, .inl (fN (m_pl (m_lay (m_isv M (nI j_g))))))), ((b 5), .inl (cI, 9, .inl (fN (m_pk (m_lay (m_isv M (nI j_g))))))), ((b 6), .inl (cI, 36, .inl (fN (m_yd (m_lay (m_isv M (nI j_g))))))), ((b 7), .inl (cI, 800, .inl (fN (m_fo (m_lay (m_isv M (nI j_g))))))), ((b 8), .inl (cI, 800, .inl (m_fr (m_lay (m_isv M (nI j_g)))))), ((b 9), .inl (cI, 800, .inl (fN (m_by (m_lay (m_isv M (nI j_g))))))), ((b 10), .inl (cI, 800, .inl (fN (m_dp (m_lay (m_isv M (nI j_g))))))), ((b 11), .inl (cI, 2048, .inl (fN (m_sl (m_lay (m_isv M (nI j_g))))))), ((b 12), .inl (cI, 9, .inl (fN (m_kp (m_lay (m_isv M (nI j_g)))))))]) (va_runV (As := []) (rest := []) ⟨hx, hb, hml, hown, hts⟩ ((c_X3_laysYard l G cI cZ cJ b _ (m_isv M (nI j_g)) (m_ok_isv _ hok))) (cwV 0 hts gX3_drive_X3_laysYard rfl rfl rfl (by decide +kernel) ⟨Nat.le_of_ble_eq_true rfl, Nat.le_of_ble_eq_true rfl⟩) ⟨rw_blind, va_recv hK hP (ci := 3) (q0 := 0) rfl rfl, rw_pre hP hD hK hN⟩ rfl rfl hl.1 rfl (lv_room (Nat.le_of_ble_eq_true rfl)) dX3_drive_30 ⟨Nat.zero_le _, Nat.zero_le _⟩) hS hA hP hD [0, 1, 2, 3, 4, 5, 6, 7, 8, 9, 10, 11, 12] [] [0, 1, 2, 3, 4, 5, 6, 7, 8, 9, 10, 11, 12] rfl rfl (by decide) (by decide) rfl (by decide) (fun H locs hP hD hS => ?_)
      have hokX := m_ok_lay (m_ok_isv (nI j_g) hok)
      have hjX : j_g < m_n (m_lay (m_isv M (nI j_g))) := hj_g
      generalize hgen_30 : (m_lay (m_isv M (nI j_g))) = X_g at hP hD hokX hjX
      refine lv_aload_n hx hb dX3_drive_33 rfl (lv_at hl 1 rfl) ?_
      have cut_44 : ∀ (x_g : Int32), (x_g = (m_fw c_g)) → ∀ (H : Heap) (locs : List Loc), va_P G vwCl [((b 0), .inr (3, [.ref (b 1), .ref (b 2), .ref (b 3), .ref (b 4), .ref (b 5), .int (nI (m_n X_g)), .int (m_rp X_g), .int (m_mo X_g), .int (m_dr X_g), .int (m_th X_g), .ref (b 6), .ref (b 7), .ref (b 8), .ref (b 9), .ref (b 10), .ref (b 11), .ref (b 12), .int (nI (m_fm X_g)), .int (m_ff X_g)])), ((b 1), .inl (cI, 9, .inl (fN (m_sz X_g)))), ((b 2), .inl (cI, 9, .inl (fN (m_ac X_g)))), ((b 3), .inl (cI, 9, .inl (fN (m_li X_g)))), ((b 4), .inl (cI, 9, .inl (fN (m_pl X_g)))), ((b 5), .inl (cI, 9, .inl (fN (m_pk X_g)))), ((b 6), .inl (cI, 36, .inl (fN (m_yd X_g)))), ((b 7), .inl (cI, 800, .inl (fN (m_fo X_g)))), ((b 8), .inl (cI, 800, .inl (m_fr X_g))), ((b 9), .inl (cI, 800, .inl (fN (m_by X_g)))), ((b 10), .inl (cI, 800, .inl (fN (m_dp X_g)))), ((b 11), .inl (cI, 2048, .inl (fN (m_sl X_g)))), ((b 12), .inl (cI, 9, .inl (fN (m_kp X_g))))] H → va_D A [((b 0), .inr (3, [.ref (b 1), .ref (b 2), .ref (b 3), .ref (b 4), .ref (b 5), .int (nI (m_n X_g)), .int (m_rp X_g), .int (m_mo X_g), .int (m_dr X_g), .int (m_th X_g), .ref (b 6), .ref (b 7), .ref (b 8), .ref (b 9), .ref (b 10), .ref (b 11), .ref (b 12), .int (nI (m_fm X_g)), .int (m_ff X_g)])), ((b 1), .inl (cI, 9, .inl (fN (m_sz X_g)))), ((b 2), .inl (cI, 9, .inl (fN (m_ac X_g)))), ((b 3), .inl (cI, 9, .inl (fN (m_li X_g)))), ((b 4), .inl (cI, 9, .inl (fN (m_pl X_g)))), ((b 5), .inl (cI, 9, .inl (fN (m_pk X_g)))), ((b 6), .inl (cI, 36, .inl (fN (m_yd X_g)))), ((b 7), .inl (cI, 800, .inl (fN (m_fo X_g)))), ((b 8), .inl (cI, 800, .inl (m_fr X_g))), ((b 9), .inl (cI, 800, .inl (fN (m_by X_g)))), ((b 10), .inl (cI, 800, .inl (fN (m_dp X_g)))), ((b 11), .inl (cI, 2048, .inl (fN (m_sl X_g)))), ((b 12), .inl (cI, 9, .inl (fN (m_kp X_g))))] → va_S A s.heap H locs → ∀ (ls : Array Slot), lv_has ls 5 [(3, .int (b1 (m_rng c_g))), (0, .ref (b 0)), (1, .int (nI j_g)), (2, .int c_g)] → W p l e (headSpec wsX3_drive ({ frames := 3, cells := 0, slots := 0, locals := 68 })).room s m ([.ref (b 0), .int (nI j_g), .int c_g] : List Value).toArray below meth c H locs 0 0 (MQ below (va_Qv (fun u : MS => u = (m_drive M (nI j_g) c_g)) (fun (u : MS) (t : State) => va_P G vwCl ((fun u : MS => wM cI b u) u) t.heap ∧ va_D A ((fun u : MS => wM cI b u) u)) A) ([.ref (b 0), .int (nI j_g), .int c_g] : List Value).toArray s 0 0 A) (F0 m 44 ls [.int x_g, .int (nI j_g), .ref (b 0)]) := by
        intro x_g ex_g H locs hP hD hS ls hl
        subst ex_g
        try have hl : lv_has ls 5 [(3, .int (b1 (m_rng c_g))), (0, .ref (b 0)), (1, .int (nI j_g)), (2, .int c_g)] := hl
        refine ro_i (va_runV (As := [.int (nI j_g), .int (m_fw c_g)]) (rest := []) ⟨hx, hb, hml, hown, hts⟩ ((c_X3_way l G cI cZ cJ b _ X_g j_g (m_fw c_g) hokX hjX)) (cwV 2 hts gX3_drive_X3_way rfl rfl rfl (by decide +kernel) ⟨Nat.le_of_ble_eq_true rfl, Nat.le_of_ble_eq_true rfl⟩) ⟨ro_blind, va_recv hK hP (ci := 3) (q0 := 0) rfl rfl, ro_pre hP hK hN⟩ rfl rfl hl.1 rfl (lv_room (Nat.le_of_ble_eq_true rfl)) dX3_drive_44 ⟨Nat.zero_le _, Nat.zero_le _⟩) hS hA hP (fun H locs hP hS => ?_)
        refine lv_istore (lv' := [(4, .int (nI (m_wy X_g j_g (m_fw c_g)))), (3, .int (b1 (m_rng c_g))), (0, .ref (b 0)), (1, .int (nI j_g)), (2, .int c_g)]) hx hb dX3_drive_47 hl (by decide) rfl (fun ls hl => ?_)
        refine lv_aload_n hx hb dX3_drive_49 rfl (lv_at hl 2 rfl) ?_
        have cut_78 : ∀ (x_g : Int32), (x_g = (m_dth X_g j_g c_g)) → ∀ (H : Heap) (locs : List Loc), va_P G vwCl [((b 0), .inr (3, [.ref (b 1), .ref (b 2), .ref (b 3), .ref (b 4), .ref (b 5), .int (nI (m_n X_g)), .int (m_rp X_g), .int (m_mo X_g), .int (m_dr X_g), .int (m_th X_g), .ref (b 6), .ref (b 7), .ref (b 8), .ref (b 9), .ref (b 10), .ref (b 11), .ref (b 12), .int (nI (m_fm X_g)), .int (m_ff X_g)])), ((b 1), .inl (cI, 9, .inl (fN (m_sz X_g)))), ((b 2), .inl (cI, 9, .inl (fN (m_ac X_g)))), ((b 3), .inl (cI, 9, .inl (fN (m_li X_g)))), ((b 4), .inl (cI, 9, .inl (fN (m_pl X_g)))), ((b 5), .inl (cI, 9, .inl (fN (m_pk X_g)))), ((b 6), .inl (cI, 36, .inl (fN (m_yd X_g)))), ((b 7), .inl (cI, 800, .inl (fN (m_fo X_g)))), ((b 8), .inl (cI, 800, .inl (m_fr X_g))), ((b 9), .inl (cI, 800, .inl (fN (m_by X_g)))), ((b 10), .inl (cI, 800, .inl (fN (m_dp X_g)))), ((b 11), .inl (cI, 2048, .inl (fN (m_sl X_g)))), ((b 12), .inl (cI, 9, .inl (fN (m_kp X_g))))] H → va_D A [((b 0), .inr (3, [.ref (b 1), .ref (b 2), .ref (b 3), .ref (b 4), .ref (b 5), .int (nI (m_n X_g)), .int (m_rp X_g), .int (m_mo X_g), .int (m_dr X_g), .int (m_th X_g), .ref (b 6), .ref (b 7), .ref (b 8), .ref (b 9), .ref (b 10), .ref (b 11), .ref (b 12), .int (nI (m_fm X_g)), .int (m_ff X_g)])), ((b 1), .inl (cI, 9, .inl (fN (m_sz X_g)))), ((b 2), .inl (cI, 9, .inl (fN (m_ac X_g)))), ((b 3), .inl (cI, 9, .inl (fN (m_li X_g)))), ((b 4), .inl (cI, 9, .inl (fN (m_pl X_g)))), ((b 5), .inl (cI, 9, .inl (fN (m_pk X_g)))), ((b 6), .inl (cI, 36, .inl (fN (m_yd X_g)))), ((b 7), .inl (cI, 800, .inl (fN (m_fo X_g)))), ((b 8), .inl (cI, 800, .inl (m_fr X_g))), ((b 9), .inl (cI, 800, .inl (fN (m_by X_g)))), ((b 10), .inl (cI, 800, .inl (fN (m_dp X_g)))), ((b 11), .inl (cI, 2048, .inl (fN (m_sl X_g)))), ((b 12), .inl (cI, 9, .inl (fN (m_kp X_g))))] → va_S A s.heap H locs → ∀ (ls : Array Slot), lv_has ls 5 [(4, .int (nI (m_wy X_g j_g (m_fw c_g)))), (3, .int (b1 (m_rng c_g))), (0, .ref (b 0)), (1, .int (nI j_g)), (2, .int c_g)] → W p l e (headSpec wsX3_drive ({ frames := 3, cells := 0, slots := 0, locals := 68 })).room s m ([.ref (b 0), .int (nI j_g), .int c_g] : List Value).toArray below meth c H locs 0 0 (MQ below (va_Qv (fun u : MS => u = (m_drive M (nI j_g) c_g)) (fun (u : MS) (t : State) => va_P G vwCl ((fun u : MS => wM cI b u) u) t.heap ∧ va_D A ((fun u : MS => wM cI b u) u)) A) ([.ref (b 0), .int (nI j_g), .int c_g] : List Value).toArray s 0 0 A) (F0 m 78 ls [.int x_g, .ref (b 0)]) := by
          intro x_g ex_g H locs hP hD hS ls hl
          subst ex_g
          try have hl : lv_has ls 5 [(4, .int (nI (m_wy X_g j_g (m_fw c_g)))), (3, .int (b1 (m_rng c_g))), (0, .ref (b 0)), (1, .int (nI j_g)), (2, .int c_g)] := hl
          refine va_put (D := G) (ci := 3) (v := .int (m_dth X_g j_g c_g)) (ty := .int) (C := RX3) (T := TX3) (N := 19) hx hb hts in_X3_drive_3 tyX3 tyX3_ok nmX3 hown hK hP hD hS 0 rfl rfl 9 (by decide) (hts (.fieldLink RX3 50 "RampJamModel" "thrown" "I") (by decide +kernel)) (fun _ h9 => h9) rfl (by decide +kernel) rfl rfl (Nat.le_of_ble_eq_true rfl) dX3_drive_78 (fun H locs hP hD hS => ?_)
          have hP : va_P G vwCl [((b 0), .inr (3, [.ref (b 1), .ref (b 2), .ref (b 3), .ref (b 4), .ref (b 5), .int (nI (m_n X_g)), .int (m_rp X_g), .int (m_mo X_g), .int (m_dr X_g), .int (m_dth X_g j_g c_g), .ref (b 6), .ref (b 7), .ref (b 8), .ref (b 9), .ref (b 10), .ref (b 11), .ref (b 12), .int (nI (m_fm X_g)), .int (m_ff X_g)])), ((b 1), .inl (cI, 9, .inl (fN (m_sz X_g)))), ((b 2), .inl (cI, 9, .inl (fN (m_ac X_g)))), ((b 3), .inl (cI, 9, .inl (fN (m_li X_g)))), ((b 4), .inl (cI, 9, .inl (fN (m_pl X_g)))), ((b 5), .inl (cI, 9, .inl (fN (m_pk X_g)))), ((b 6), .inl (cI, 36, .inl (fN (m_yd X_g)))), ((b 7), .inl (cI, 800, .inl (fN (m_fo X_g)))), ((b 8), .inl (cI, 800, .inl (m_fr X_g))), ((b 9), .inl (cI, 800, .inl (fN (m_by X_g)))), ((b 10), .inl (cI, 800, .inl (fN (m_dp X_g)))), ((b 11), .inl (cI, 2048, .inl (fN (m_sl X_g)))), ((b 12), .inl (cI, 9, .inl (fN (m_kp X_g))))] H := hP
          have hD : va_D A [((b 0), .inr (3, [.ref (b 1), .ref (b 2), .ref (b 3), .ref (b 4), .ref (b 5), .int (nI (m_n X_g)), .int (m_rp X_g), .int (m_mo X_g), .int (m_dr X_g), .int (m_dth X_g j_g c_g), .ref (b 6), .ref (b 7), .ref (b 8), .ref (b 9), .ref (b 10), .ref (b 11), .ref (b 12), .int (nI (m_fm X_g)), .int (m_ff X_g)])), ((b 1), .inl (cI, 9, .inl (fN (m_sz X_g)))), ((b 2), .inl (cI, 9, .inl (fN (m_ac X_g)))), ((b 3), .inl (cI, 9, .inl (fN (m_li X_g)))), ((b 4), .inl (cI, 9, .inl (fN (m_pl X_g)))), ((b 5), .inl (cI, 9, .inl (fN (m_pk X_g)))), ((b 6), .inl (cI, 36, .inl (fN (m_yd X_g)))), ((b 7), .inl (cI, 800, .inl (fN (m_fo X_g)))), ((b 8), .inl (cI, 800, .inl (m_fr X_g))), ((b 9), .inl (cI, 800, .inl (fN (m_by X_g)))), ((b 10), .inl (cI, 800, .inl (fN (m_dp X_g)))), ((b 11), .inl (cI, 2048, .inl (fN (m_sl X_g)))), ((b 12), .inl (cI, 9, .inl (fN (m_kp X_g))))] := hD
          refine lv_aload_n hx hb dX3_drive_81 rfl (lv_at hl 2 rfl) ?_
          refine va_get (D := G) (ci := 3) (v := .int (m_dth X_g j_g c_g)) (C := RX3) (T := TX3) (N := 19) hx hb hts in_X3_drive_3 hown hK hP 0 rfl rfl 9 (by decide) (hts (.fieldLink RX3 50 "RampJamModel" "thrown" "I") (by decide +kernel)) (fun _ h9 => h9) rfl dX3_drive_82 ?_
          refine lv_if_ne (tgt := 94) hx hb dX3_drive_85 (by decide) (fun c_2 => ?_) (fun c_2 => ?_)
          · have hP9 := hP
            have hD9 := hD
            exact W.vret hx hb hr (fun t ht hW => ⟨⟨(m_wTh X_g (m_dth X_g j_g c_g)), rfl, by rw [m_drive, if_pos hhas, nI_clamp (by have := hok.1; omega), hgen_30, if_neg (by assumption)], by rw [ht]; exact hP9, hD9⟩, hS.F ht⟩) hS.2.2 dX3_drive_94
          · have hth : m_dth X_g j_g c_g = 0 := c_2
            refine lv_aload_n hx hb dX3_drive_88 rfl (lv_at hl 2 rfl) ?_
            refine lv_iload_n hx hb dX3_drive_89 rfl (lv_at hl 3 rfl) ?_
            refine lv_iload_n hx hb dX3_drive_90 rfl (lv_at hl 4 rfl) ?_
            refine rw_v (wr := []) (ws' := [((b 0), .inr (3, [.ref (b 1), .ref (b 2), .ref (b 3), .ref (b 4), .ref (b 5), .int (nI (m_n (m_go (m_wTh X_g (m_dth X_g j_g c_g)) j_g c_g))), .int (m_rp (m_go (m_wTh X_g (m_dth X_g j_g c_g)) j_g c_g)), .int (m_mo (m_go (m_wTh X_g (m_dth X_g j_g c_g)) j_g c_g)), .int (m_dr (m_go (m_wTh X_g (m_dth X_g j_g c_g)) j_g c_g)), .int (m_th (m_go (m_wTh X_g (m_dth X_g j_g c_g)) j_g c_g)), .ref (b 6), .ref (b 7), .ref (b 8), .ref (b 9), .ref (b 10), .ref (b 11), .ref (b 12), .int (nI (m_fm (m_go (m_wTh X_g (m_dth X_g j_g c_g)) j_g c_g))), .int (m_ff (m_go (m_wTh X_g (m_dth X_g j_g c_g)) j_g c_g))])), ((b 1), .inl (cI, 9, .inl (fN (m_sz (m_go (m_wTh X_g (m_dth X_g j_g c_g)) j_g c_g))))), ((b 2), .inl (cI, 9, .inl (fN (m_ac (m_go (m_wTh X_g (m_dth X_g j_g c_g)) j_g c_g))))), ((b 3), .inl (cI, 9, .inl (fN (m_li (m_go (m_wTh X_g (m_dth X_g j_g c_g)) j_g c_g))))), ((b 4), .inl (cI, 9, .inl (fN (m_pl (m_go (m_wTh X_g (m_dth X_g j_g c_g)) j_g c_g))))), ((b 5), .inl (cI, 9, .inl (fN (m_pk (m_go (m_wTh X_g (m_dth X_g j_g c_g)) j_g c_g))))), ((b 6), .inl (cI, 36, .inl (fN (m_yd (m_go (m_wTh X_g (m_dth X_g j_g c_g)) j_g c_g))))), ((b 7), .inl (cI, 800, .inl (fN (m_fo (m_go (m_wTh X_g (m_dth X_g j_g c_g)) j_g c_g))))), ((b 8), .inl (cI, 800, .inl (m_fr (m_go (m_wTh X_g (m_dth X_g j_g c_g)) j_g c_g)))), ((b 9), .inl (cI, 800, .inl (fN (m_by (m_go (m_wTh X_g (m_dth X_g j_g c_g)) j_g c_g))))), ((b 10), .inl (cI, 800, .inl (fN (m_dp (m_go (m_wTh X_g (m_dth X_g j_g c_g)) j_g c_g))))), ((b 11), .inl (cI, 2048, .inl (fN (m_sl (m_go (m_wTh X_g (m_dth X_g j_g c_g)) j_g c_g))))), ((b 12), .inl (cI, 9, .inl (fN (m_kp (m_go (m_wTh X_g (m_dth X_g j_g c_g)) j_g c_g)))))]) (va_runV (As := [.int (nI j_g), .int c_g]) (rest := []) ⟨hx, hb, hml, hown, hts⟩ ((c_X3_goes l G cI cZ cJ b _ (m_wTh X_g (m_dth X_g j_g c_g)) j_g c_g (by have := hokX.1; omega) (m_tgt_ok hokX hjX hth).1)) (cwV 2 hts gX3_drive_X3_goes rfl rfl rfl (by decide +kernel) ⟨Nat.le_of_ble_eq_true rfl, Nat.le_of_ble_eq_true rfl⟩) ⟨rw_blind, va_recv hK hP (ci := 3) (q0 := 0) rfl rfl, rw_pre hP hD hK hN⟩ rfl rfl hl.1 rfl (lv_room (Nat.le_of_ble_eq_true rfl)) dX3_drive_91 ⟨Nat.zero_le _, Nat.zero_le _⟩) hS hA hP hD [0, 1, 2, 3, 4, 5, 6, 7, 8, 9, 10, 11, 12] [] [0, 1, 2, 3, 4, 5, 6, 7, 8, 9, 10, 11, 12] rfl rfl (by decide) (by decide) rfl (by decide) (fun H locs hP hD hS => ?_)
            have hP9 := hP
            have hD9 := hD
            exact W.vret hx hb hr (fun t ht hW => ⟨⟨(m_go (m_wTh X_g (m_dth X_g j_g c_g)) j_g c_g), rfl, by rw [m_drive, if_pos hhas, nI_clamp (by have := hok.1; omega), hgen_30, if_pos hth, hth], by rw [ht]; exact hP9, hD9⟩, hS.F ht⟩) hS.2.2 dX3_drive_94
        refine lv_iload_n hx hb dX3_drive_50 rfl (lv_at hl 1 rfl) ?_
        refine lv_if_ne (tgt := 58) hx hb dX3_drive_51 (by decide) (fun c_3 => ?_) (fun c_3 => ?_)
        · have c_3 := b1_t c_3
          have cut_68 : ∀ (x_g : Int32), (x_g = (m_abs c_g)) → ∀ (H : Heap) (locs : List Loc), va_P G vwCl [((b 0), .inr (3, [.ref (b 1), .ref (b 2), .ref (b 3), .ref (b 4), .ref (b 5), .int (nI (m_n X_g)), .int (m_rp X_g), .int (m_mo X_g), .int (m_dr X_g), .int (m_th X_g), .ref (b 6), .ref (b 7), .ref (b 8), .ref (b 9), .ref (b 10), .ref (b 11), .ref (b 12), .int (nI (m_fm X_g)), .int (m_ff X_g)])), ((b 1), .inl (cI, 9, .inl (fN (m_sz X_g)))), ((b 2), .inl (cI, 9, .inl (fN (m_ac X_g)))), ((b 3), .inl (cI, 9, .inl (fN (m_li X_g)))), ((b 4), .inl (cI, 9, .inl (fN (m_pl X_g)))), ((b 5), .inl (cI, 9, .inl (fN (m_pk X_g)))), ((b 6), .inl (cI, 36, .inl (fN (m_yd X_g)))), ((b 7), .inl (cI, 800, .inl (fN (m_fo X_g)))), ((b 8), .inl (cI, 800, .inl (m_fr X_g))), ((b 9), .inl (cI, 800, .inl (fN (m_by X_g)))), ((b 10), .inl (cI, 800, .inl (fN (m_dp X_g)))), ((b 11), .inl (cI, 2048, .inl (fN (m_sl X_g)))), ((b 12), .inl (cI, 9, .inl (fN (m_kp X_g))))] H → va_D A [((b 0), .inr (3, [.ref (b 1), .ref (b 2), .ref (b 3), .ref (b 4), .ref (b 5), .int (nI (m_n X_g)), .int (m_rp X_g), .int (m_mo X_g), .int (m_dr X_g), .int (m_th X_g), .ref (b 6), .ref (b 7), .ref (b 8), .ref (b 9), .ref (b 10), .ref (b 11), .ref (b 12), .int (nI (m_fm X_g)), .int (m_ff X_g)])), ((b 1), .inl (cI, 9, .inl (fN (m_sz X_g)))), ((b 2), .inl (cI, 9, .inl (fN (m_ac X_g)))), ((b 3), .inl (cI, 9, .inl (fN (m_li X_g)))), ((b 4), .inl (cI, 9, .inl (fN (m_pl X_g)))), ((b 5), .inl (cI, 9, .inl (fN (m_pk X_g)))), ((b 6), .inl (cI, 36, .inl (fN (m_yd X_g)))), ((b 7), .inl (cI, 800, .inl (fN (m_fo X_g)))), ((b 8), .inl (cI, 800, .inl (m_fr X_g))), ((b 9), .inl (cI, 800, .inl (fN (m_by X_g)))), ((b 10), .inl (cI, 800, .inl (fN (m_dp X_g)))), ((b 11), .inl (cI, 2048, .inl (fN (m_sl X_g)))), ((b 12), .inl (cI, 9, .inl (fN (m_kp X_g))))] → va_S A s.heap H locs → ∀ (ls : Array Slot), lv_has ls 5 [(4, .int (nI (m_wy X_g j_g (m_fw c_g)))), (3, .int (b1 (m_rng c_g))), (0, .ref (b 0)), (1, .int (nI j_g)), (2, .int c_g)] → W p l e (headSpec wsX3_drive ({ frames := 3, cells := 0, slots := 0, locals := 68 })).room s m ([.ref (b 0), .int (nI j_g), .int c_g] : List Value).toArray below meth c H locs 0 0 (MQ below (va_Qv (fun u : MS => u = (m_drive M (nI j_g) c_g)) (fun (u : MS) (t : State) => va_P G vwCl ((fun u : MS => wM cI b u) u) t.heap ∧ va_D A ((fun u : MS => wM cI b u) u)) A) ([.ref (b 0), .int (nI j_g), .int c_g] : List Value).toArray s 0 0 A) (F0 m 68 ls [.int x_g, .ref (b 0)]) := by
            intro x_g ex_g H locs hP hD hS ls hl
            subst ex_g
            try have hl : lv_has ls 5 [(4, .int (nI (m_wy X_g j_g (m_fw c_g)))), (3, .int (b1 (m_rng c_g))), (0, .ref (b 0)), (1, .int (nI j_g)), (2, .int c_g)] := hl
            refine lv_iload hx hb dX3_drive_68 (lv_at hl 0 rfl) ?_
            refine lv_icmp_le (tgt := 77) hx hb dX3_drive_70 (by decide) (fun c_4 => ?_) (fun c_4 => ?_)
            · refine lv_iconst (v := 0) hx hb dX3_drive_77 (by decide) ?_
              exact cut_78 0 (by first | rw [m_dth, if_pos (by assumption)] | rw [m_dth, if_neg (not_not_intro (by assumption)), if_pos (by assumption)] | rw [m_dth, if_neg (not_not_intro (by assumption)), if_neg (not_not_intro (by assumption))]) _ _ hP hD hS _ hl
            · refine lv_iconst (v := 3) hx hb dX3_drive_73 (by decide) ?_
              refine lv_goto (tgt := 78) hx hb dX3_drive_74 (by decide) ?_
              exact cut_78 3 (by first | rw [m_dth, if_pos (by assumption)] | rw [m_dth, if_neg (not_not_intro (by assumption)), if_pos (by assumption)] | rw [m_dth, if_neg (not_not_intro (by assumption)), if_neg (not_not_intro (by assumption))]) _ _ hP hD hS _ hl
          refine lv_iload_n hx hb dX3_drive_58 rfl (lv_at hl 4 rfl) ?_
          refine lv_if_ge (tgt := 67) hx hb dX3_drive_59 (by decide) (fun c_5 => ?_) (fun c_5 => ?_)
          · refine lv_iload_n hx hb dX3_drive_67 rfl (lv_at hl 4 rfl) ?_
            exact cut_68 c_g (by first | rw [m_abs, if_pos (by assumption)] | rw [m_abs, if_neg (by assumption)]) _ _ hP hD hS _ hl
          · refine lv_iload_n hx hb dX3_drive_62 rfl (lv_at hl 4 rfl) ?_
            refine lv_ineg hx hb dX3_drive_63 ?_
            refine lv_goto (tgt := 68) hx hb dX3_drive_64 (by decide) ?_
            exact cut_68 (-c_g) (by first | rw [m_abs, if_pos (by assumption)] | rw [m_abs, if_neg (by assumption)]) _ _ hP hD hS _ hl
        · have c_3 := b1_f c_3
          refine lv_iconst (v := 2) hx hb dX3_drive_54 (by decide) ?_
          refine lv_goto (tgt := 78) hx hb dX3_drive_55 (by decide) ?_
          exact cut_78 2 (by first | rw [m_dth, if_pos (by assumption)] | rw [m_dth, if_neg (not_not_intro (by assumption)), if_pos (by assumption)] | rw [m_dth, if_neg (not_not_intro (by assumption)), if_neg (not_not_intro (by assumption))]) _ _ hP hD hS _ hl
      refine lv_iload_n hx hb dX3_drive_34 rfl (lv_at hl 2 rfl) ?_
      refine lv_iload_n hx hb dX3_drive_35 rfl (lv_at hl 3 rfl) ?_
      refine lv_if_le (tgt := 43) hx hb dX3_drive_36 (by decide) (fun c_6 => ?_) (fun c_6 => ?_)
      · refine lv_iconst (v := 0) hx hb dX3_drive_43 (by decide) ?_
        exact cut_44 0 (by first | rw [m_fw, if_pos (by assumption)] | rw [m_fw, if_neg (by assumption)]) _ _ hP hD hS _ hl
      · refine lv_iconst (v := 1) hx hb dX3_drive_39 (by decide) ?_
        refine lv_goto (tgt := 44) hx hb dX3_drive_40 (by decide) ?_
        exact cut_44 1 (by first | rw [m_fw, if_pos (by assumption)] | rw [m_fw, if_neg (by assumption)]) _ _ hP hD hS _ hl
    refine lv_iload_n hx hb dX3_drive_8 rfl (lv_at hl 2 rfl) ?_
    refine lv_bipush (v := (-4)) hx hb dX3_drive_9 (by decide) ?_
    refine lv_icmp_lt (tgt := 27) hx hb dX3_drive_11 (by decide) (fun c_7 => ?_) (fun c_7 => ?_)
    · refine lv_iconst (v := 0) hx hb dX3_drive_27 (by decide) ?_
      exact cut_28 0 (by first | rw [b1, if_pos ⟨by assumption, by assumption, by assumption⟩] | (rw [b1, if_neg]; rintro ⟨h1, h2, h3⟩; contradiction)) _ _ hP hD hS _ hl
    · refine lv_iload_n hx hb dX3_drive_14 rfl (lv_at hl 2 rfl) ?_
      refine lv_iconst (v := 4) hx hb dX3_drive_15 (by decide) ?_
      refine lv_icmp_gt (tgt := 27) hx hb dX3_drive_16 (by decide) (fun c_8 => ?_) (fun c_8 => ?_)
      · refine lv_iconst (v := 0) hx hb dX3_drive_27 (by decide) ?_
        exact cut_28 0 (by first | rw [b1, if_pos ⟨by assumption, by assumption, by assumption⟩] | (rw [b1, if_neg]; rintro ⟨h1, h2, h3⟩; contradiction)) _ _ hP hD hS _ hl
      · refine lv_iload_n hx hb dX3_drive_19 rfl (lv_at hl 2 rfl) ?_
        refine lv_if_eq (tgt := 27) hx hb dX3_drive_20 (by decide) (fun c_9 => ?_) (fun c_9 => ?_)
        · refine lv_iconst (v := 0) hx hb dX3_drive_27 (by decide) ?_
          exact cut_28 0 (by first | rw [b1, if_pos ⟨by assumption, by assumption, by assumption⟩] | (rw [b1, if_neg]; rintro ⟨h1, h2, h3⟩; contradiction)) _ _ hP hD hS _ hl
        · refine lv_iconst (v := 1) hx hb dX3_drive_23 (by decide) ?_
          refine lv_goto (tgt := 28) hx hb dX3_drive_24 (by decide) ?_
          exact cut_28 1 (by first | rw [b1, if_pos ⟨by assumption, by assumption, by assumption⟩] | (rw [b1, if_neg]; rintro ⟨h1, h2, h3⟩; contradiction)) _ _ hP hD hS _ hl

set_option maxHeartbeats 4000000 in
set_option maxRecDepth 100000 in
/-- RampJamModel.driveOn -/
theorem c_X3_driveOn (l : Launch) (G : va_G) (cI cZ cJ : ClassId) (b : Nat → Nat) (sz : Nat) (M : MS) (v_g : Int32) (f_g : Int32) (hok : m_ok M) : Met l yX3_driveOn wsX3_driveOn ({ frames := 3, cells := 0, slots := 0, locals := 68 }) (rw_Pc G [(cI, .int), (cZ, .boolean), (cJ, .long)] (wM cI b M) sz [.ref (b 0), .int v_g, .int f_g]) (rw_Qi (S := MS) (m_drw M v_g f_g) (m_dron M v_g f_g) (fun u : MS => wM cI b u) G (wM cI b M) sz) 0 0 (va_A (wM cI b M) sz) := by
  refine Met.ofW (cc := cX3_driveOn) (maxL := 4) (ret := (some .int)) (by decide) rfl ?_
  intro p e s m args below meth c s₁ B hml hv
  obtain ⟨rfl, hsz, hP, hK, hD0, hN⟩ := hv
  have hx := B.exec
  have hb := B.bytes
  have hr := B.returns
  have hts := atoms_spec (ws := wsX3_driveOn) B.pre
  have hown : s.vm.findClass RX3 = some m.cls := findClass_of_methodNamed B.named
  have hlocks := B.notSynchronized
  subst hsz
  have hD0 : va_D (fun _ => True) [((b 0), .inr (3, [.ref (b 1), .ref (b 2), .ref (b 3), .ref (b 4), .ref (b 5), .int (nI (m_n M)), .int (m_rp M), .int (m_mo M), .int (m_dr M), .int (m_th M), .ref (b 6), .ref (b 7), .ref (b 8), .ref (b 9), .ref (b 10), .ref (b 11), .ref (b 12), .int (nI (m_fm M)), .int (m_ff M)])), ((b 1), .inl (cI, 9, .inl (fN (m_sz M)))), ((b 2), .inl (cI, 9, .inl (fN (m_ac M)))), ((b 3), .inl (cI, 9, .inl (fN (m_li M)))), ((b 4), .inl (cI, 9, .inl (fN (m_pl M)))), ((b 5), .inl (cI, 9, .inl (fN (m_pk M)))), ((b 6), .inl (cI, 36, .inl (fN (m_yd M)))), ((b 7), .inl (cI, 800, .inl (fN (m_fo M)))), ((b 8), .inl (cI, 800, .inl (m_fr M))), ((b 9), .inl (cI, 800, .inl (fN (m_by M)))), ((b 10), .inl (cI, 800, .inl (fN (m_dp M)))), ((b 11), .inl (cI, 2048, .inl (fN (m_sl M)))), ((b 12), .inl (cI, 9, .inl (fN (m_kp M))))] := hD0
  have hD := hD0.self (sz := s.heap.size)
  unfold rw_Qi
  generalize hAe : va_A (wM cI b M) s.heap.size = A at hD ⊢
  have hA : ∀ q : Nat, s.heap.size ≤ q → A q := fun q h => by rw [← hAe]; exact Or.inr h
  have hS : va_S A s.heap s.heap [] := va_S.rf
  have hP : va_P G vwCl [((b 0), .inr (3, [.ref (b 1), .ref (b 2), .ref (b 3), .ref (b 4), .ref (b 5), .int (nI (m_n M)), .int (m_rp M), .int (m_mo M), .int (m_dr M), .int (m_th M), .ref (b 6), .ref (b 7), .ref (b 8), .ref (b 9), .ref (b 10), .ref (b 11), .ref (b 12), .int (nI (m_fm M)), .int (m_ff M)])), ((b 1), .inl (cI, 9, .inl (fN (m_sz M)))), ((b 2), .inl (cI, 9, .inl (fN (m_ac M)))), ((b 3), .inl (cI, 9, .inl (fN (m_li M)))), ((b 4), .inl (cI, 9, .inl (fN (m_pl M)))), ((b 5), .inl (cI, 9, .inl (fN (m_pk M)))), ((b 6), .inl (cI, 36, .inl (fN (m_yd M)))), ((b 7), .inl (cI, 800, .inl (fN (m_fo M)))), ((b 8), .inl (cI, 800, .inl (m_fr M))), ((b 9), .inl (cI, 800, .inl (fN (m_by M)))), ((b 10), .inl (cI, 800, .inl (fN (m_dp M)))), ((b 11), .inl (cI, 2048, .inl (fN (m_sl M)))), ((b 12), .inl (cI, 9, .inl (fN (m_kp M))))] s.heap := hP
  have hl := lv_entry ([.ref (b 0), .int v_g, .int f_g]) (n := 4) (Nat.le_of_ble_eq_true rfl)
  rw [lg_entry_eq]
  generalize (lg_sl ([.ref (b 0), .int v_g, .int f_g]) ++ List.replicate (4 - (lg_sl ([.ref (b 0), .int v_g, .int f_g])).length) Slot.unset).toArray = ls at hl ⊢
  have hl : lv_has ls 4 [(0, .ref (b 0)), (1, .int v_g), (2, .int f_g)] := hl
  refine lv_aload_n hx hb dX3_driveOn_0 rfl (lv_at hl 0 rfl) ?_
  refine lv_iload_n hx hb dX3_driveOn_1 rfl (lv_at hl 1 rfl) ?_
  refine rw_i (wr := []) (ws' := [((b 0), .inr (3, [.ref (b 1), .ref (b 2), .ref (b 3), .ref (b 4), .ref (b 5), .int (nI (m_n (m_isv M v_g))), .int (m_rp (m_isv M v_g)), .int (m_mo (m_isv M v_g)), .int (m_dr (m_isv M v_g)), .int (m_th (m_isv M v_g)), .ref (b 6), .ref (b 7), .ref (b 8), .ref (b 9), .ref (b 10), .ref (b 11), .ref (b 12), .int (nI (m_fm (m_isv M v_g))), .int (m_ff (m_isv M v_g))])), ((b 1), .inl (cI, 9, .inl (fN (m_sz (m_isv M v_g))))), ((b 2), .inl (cI, 9, .inl (fN (m_ac (m_isv M v_g))))), ((b 3), .inl (cI, 9, .inl (fN (m_li (m_isv M v_g))))), ((b 4), .inl (cI, 9, .inl (fN (m_pl (m_isv M v_g))))), ((b 5), .inl (cI, 9, .inl (fN (m_pk (m_isv M v_g))))), ((b 6), .inl (cI, 36, .inl (fN (m_yd (m_isv M v_g))))), ((b 7), .inl (cI, 800, .inl (fN (m_fo (m_isv M v_g))))), ((b 8), .inl (cI, 800, .inl (m_fr (m_isv M v_g)))), ((b 9), .inl (cI, 800, .inl (fN (m_by (m_isv M v_g))))), ((b 10), .inl (cI, 800, .inl (fN (m_dp (m_isv M v_g))))), ((b 11), .inl (cI, 2048, .inl (fN (m_sl (m_isv M v_g))))), ((b 12), .inl (cI, 9, .inl (fN (m_kp (m_isv M v_g)))))]) (va_runV (As := [.int v_g]) (rest := []) ⟨hx, hb, hml, hown, hts⟩ ((c_X3_isVehicle l G cI cZ cJ b _ M v_g)) (cwV 1 hts gX3_driveOn_X3_isVehicle rfl rfl rfl (by decide +kernel) ⟨Nat.le_of_ble_eq_true rfl, Nat.le_of_ble_eq_true rfl⟩) ⟨rw_blind, va_recv hK hP (ci := 3) (q0 := 0) rfl rfl, rw_pre hP hD hK hN⟩ rfl rfl hl.1 rfl (lv_room (Nat.le_of_ble_eq_true rfl)) dX3_driveOn_2 ⟨Nat.zero_le _, Nat.zero_le _⟩) hS hA hP hD [0, 1, 2, 3, 4, 5, 6, 7, 8, 9, 10, 11, 12] [] [0, 1, 2, 3, 4, 5, 6, 7, 8, 9, 10, 11, 12] rfl rfl (by decide) (by decide) rfl (by decide) (fun H locs hP hD hS => ?_)
  refine lv_if_ne (tgt := 10) hx hb dX3_driveOn_5 (by decide) (fun c_1 => ?_) (fun c_1 => ?_)
  · have c_1 := b1_t c_1
    have hhas := c_1
    obtain ⟨j_g, hj_g, rfl⟩ := m_has_ex hok c_1
    refine lv_aload_n hx hb dX3_driveOn_10 rfl (lv_at hl 0 rfl) ?_
    refine rw_v (wr := []) (ws' := [((b 0), .inr (3, [.ref (b 1), .ref (b 2), .ref (b 3), .ref (b 4), .ref (b 5), .int (nI (m_n (m_lay (m_isv M (nI j_g))))), .int (m_rp (m_lay (m_isv M (nI j_g)))), .int (m_mo (m_lay (m_isv M (nI j_g)))), .int (m_dr (m_lay (m_isv M (nI j_g)))), .int (m_th (m_lay (m_isv M (nI j_g)))), .ref (b 6), .ref (b 7), .ref (b 8), .ref (b 9), .ref (b 10), .ref (b 11), .ref (b 12), .int (nI (m_fm (m_lay (m_isv M (nI j_g))))), .int (m_ff (m_lay (m_isv M (nI j_g))))])), ((b 1), .inl (cI, 9, .inl (fN (m_sz (m_lay (m_isv M (nI j_g))))))), ((b 2), .inl (cI, 9, .inl (fN (m_ac (m_lay (m_isv M (nI j_g))))))), ((b 3), .inl (cI, 9, .inl (fN (m_li (m_lay (m_isv M (nI j_g))))))), ((b 4), .inl (cI, 9, .inl (fN (m_pl (m_lay (m_isv M (nI j_g))))))), ((b 5), .inl (cI, 9, .inl (fN (m_pk (m_lay (m_isv M (nI j_g))))))), ((b 6), .inl (cI, 36, .inl (fN (m_yd (m_lay (m_isv M (nI j_g))))))), ((b 7), .inl (cI, 800, .inl (fN (m_fo (m_lay (m_isv M (nI j_g))))))), ((b 8), .inl (cI, 800, .inl (m_fr (m_lay (m_isv M (nI j_g)))))), ((b 9), .inl (cI, 800, .inl (fN (m_by (m_lay (m_isv M (nI j_g))))))), ((b 10), .inl (cI, 800, .inl (fN (m_dp (m_lay (m_isv M (nI j_g))))))), ((b 11), .inl (cI, 2048, .inl (fN (m_sl (m_lay (m_isv M (nI j_g))))))), ((b 12), .inl (cI, 9, .inl (fN (m_kp (m_lay (m_isv M (nI j_g)))))))]) (va_runV (As := []) (rest := []) ⟨hx, hb, hml, hown, hts⟩ ((c_X3_laysYard l G cI cZ cJ b _ (m_isv M (nI j_g)) (m_ok_isv _ hok))) (cwV 0 hts gX3_driveOn_X3_laysYard rfl rfl rfl (by decide +kernel) ⟨Nat.le_of_ble_eq_true rfl, Nat.le_of_ble_eq_true rfl⟩) ⟨rw_blind, va_recv hK hP (ci := 3) (q0 := 0) rfl rfl, rw_pre hP hD hK hN⟩ rfl rfl hl.1 rfl (lv_room (Nat.le_of_ble_eq_true rfl)) dX3_driveOn_11 ⟨Nat.zero_le _, Nat.zero_le _⟩) hS hA hP hD [0, 1, 2, 3, 4, 5, 6, 7, 8, 9, 10, 11, 12] [] [0, 1, 2, 3, 4, 5, 6, 7, 8, 9, 10, 11, 12] rfl rfl (by decide) (by decide) rfl (by decide) (fun H locs hP hD hS => ?_)
    have hokX := m_ok_lay (m_ok_isv (nI j_g) hok)
    have hjX : j_g < m_n (m_lay (m_isv M (nI j_g))) := hj_g
    generalize hgen_11 : (m_lay (m_isv M (nI j_g))) = X_g at hP hD hokX hjX
    refine lv_aload_n hx hb dX3_driveOn_14 rfl (lv_at hl 0 rfl) ?_
    refine lv_iload_n hx hb dX3_driveOn_15 rfl (lv_at hl 1 rfl) ?_
    refine lv_iload_n hx hb dX3_driveOn_16 rfl (lv_at hl 2 rfl) ?_
    refine ro_i (va_runV (As := [.int (nI j_g), .int f_g]) (rest := []) ⟨hx, hb, hml, hown, hts⟩ ((c_X3_way l G cI cZ cJ b _ X_g j_g f_g hokX hjX)) (cwV 2 hts gX3_driveOn_X3_way rfl rfl rfl (by decide +kernel) ⟨Nat.le_of_ble_eq_true rfl, Nat.le_of_ble_eq_true rfl⟩) ⟨ro_blind, va_recv hK hP (ci := 3) (q0 := 0) rfl rfl, ro_pre hP hK hN⟩ rfl rfl hl.1 rfl (lv_room (Nat.le_of_ble_eq_true rfl)) dX3_driveOn_17 ⟨Nat.zero_le _, Nat.zero_le _⟩) hS hA hP (fun H locs hP hS => ?_)
    refine lv_istore_n (lv' := [(3, .int (nI (m_wy X_g j_g f_g))), (0, .ref (b 0)), (1, .int (nI j_g)), (2, .int f_g)]) hx hb dX3_driveOn_20 rfl hl (by decide) rfl (fun ls hl => ?_)
    refine lv_iload_n hx hb dX3_driveOn_21 rfl (lv_at hl 0 rfl) ?_
    have hwy : m_wy X_g j_g f_g ≤ 7 := m_wy_le7 _ _ _
    refine lv_if_le (tgt := 40) hx hb dX3_driveOn_22 (by decide) (fun c_2 => ?_) (fun c_2 => ?_)
    · have c_2 : (m_wy X_g j_g f_g) ≤ 0 := (nI_leI (a := (m_wy X_g j_g f_g)) (b := 0) (by omega) (by omega)).mp c_2
      have hz : m_wy X_g j_g f_g = 0 := by omega
      refine lv_iload_n hx hb dX3_driveOn_40 rfl (lv_at hl 0 rfl) ?_
      have hP9 := hP
      have hD9 := hD
      exact W.iret (v := (nI (m_wy X_g j_g f_g))) hx hb hr (fun t ht hW => ⟨⟨(nI (m_wy X_g j_g f_g)), X_g, rfl, ⟨by rw [m_drw, if_pos hhas, nI_clamp (by have := hok.1; omega), hgen_11], by rw [m_dron, if_pos hhas, nI_clamp (by have := hok.1; omega), hgen_11, if_pos hz]⟩, by rw [ht]; exact hP9, hD9⟩, hS.F ht⟩) hS.2.2 dX3_driveOn_41
    · have c_2 : 0 < (m_wy X_g j_g f_g) := Nat.not_le.mp (fun q => c_2 ((nI_leI (a := (m_wy X_g j_g f_g)) (b := 0) (by omega) (by omega)).mpr q))
      have hz : ¬ m_wy X_g j_g f_g = 0 := by omega
      refine lv_aload_n hx hb dX3_driveOn_25 rfl (lv_at hl 1 rfl) ?_
      refine lv_iload_n hx hb dX3_driveOn_26 rfl (lv_at hl 2 rfl) ?_
      have cut_37 : ∀ (x_g : Int32), (x_g = (if f_g = 0 then -(nI (m_wy X_g j_g f_g)) else (nI (m_wy X_g j_g f_g)))) → ∀ (H : Heap) (locs : List Loc), va_P G vwCl [((b 0), .inr (3, [.ref (b 1), .ref (b 2), .ref (b 3), .ref (b 4), .ref (b 5), .int (nI (m_n X_g)), .int (m_rp X_g), .int (m_mo X_g), .int (m_dr X_g), .int (m_th X_g), .ref (b 6), .ref (b 7), .ref (b 8), .ref (b 9), .ref (b 10), .ref (b 11), .ref (b 12), .int (nI (m_fm X_g)), .int (m_ff X_g)])), ((b 1), .inl (cI, 9, .inl (fN (m_sz X_g)))), ((b 2), .inl (cI, 9, .inl (fN (m_ac X_g)))), ((b 3), .inl (cI, 9, .inl (fN (m_li X_g)))), ((b 4), .inl (cI, 9, .inl (fN (m_pl X_g)))), ((b 5), .inl (cI, 9, .inl (fN (m_pk X_g)))), ((b 6), .inl (cI, 36, .inl (fN (m_yd X_g)))), ((b 7), .inl (cI, 800, .inl (fN (m_fo X_g)))), ((b 8), .inl (cI, 800, .inl (m_fr X_g))), ((b 9), .inl (cI, 800, .inl (fN (m_by X_g)))), ((b 10), .inl (cI, 800, .inl (fN (m_dp X_g)))), ((b 11), .inl (cI, 2048, .inl (fN (m_sl X_g)))), ((b 12), .inl (cI, 9, .inl (fN (m_kp X_g))))] H → va_D A [((b 0), .inr (3, [.ref (b 1), .ref (b 2), .ref (b 3), .ref (b 4), .ref (b 5), .int (nI (m_n X_g)), .int (m_rp X_g), .int (m_mo X_g), .int (m_dr X_g), .int (m_th X_g), .ref (b 6), .ref (b 7), .ref (b 8), .ref (b 9), .ref (b 10), .ref (b 11), .ref (b 12), .int (nI (m_fm X_g)), .int (m_ff X_g)])), ((b 1), .inl (cI, 9, .inl (fN (m_sz X_g)))), ((b 2), .inl (cI, 9, .inl (fN (m_ac X_g)))), ((b 3), .inl (cI, 9, .inl (fN (m_li X_g)))), ((b 4), .inl (cI, 9, .inl (fN (m_pl X_g)))), ((b 5), .inl (cI, 9, .inl (fN (m_pk X_g)))), ((b 6), .inl (cI, 36, .inl (fN (m_yd X_g)))), ((b 7), .inl (cI, 800, .inl (fN (m_fo X_g)))), ((b 8), .inl (cI, 800, .inl (m_fr X_g))), ((b 9), .inl (cI, 800, .inl (fN (m_by X_g)))), ((b 10), .inl (cI, 800, .inl (fN (m_dp X_g)))), ((b 11), .inl (cI, 2048, .inl (fN (m_sl X_g)))), ((b 12), .inl (cI, 9, .inl (fN (m_kp X_g))))] → va_S A s.heap H locs → ∀ (ls : Array Slot), lv_has ls 4 [(3, .int (nI (m_wy X_g j_g f_g))), (0, .ref (b 0)), (1, .int (nI j_g)), (2, .int f_g)] → W p l e (headSpec wsX3_driveOn ({ frames := 3, cells := 0, slots := 0, locals := 68 })).room s m ([.ref (b 0), .int (nI j_g), .int f_g] : List Value).toArray below meth c H locs 0 0 (MQ below (va_Qi (fun (r : Int32) (u : MS) => r = (m_drw M (nI j_g) f_g) ∧ u = (m_dron M (nI j_g) f_g)) (fun (u : MS) (t : State) => va_P G vwCl ((fun u : MS => wM cI b u) u) t.heap ∧ va_D A ((fun u : MS => wM cI b u) u)) A) ([.ref (b 0), .int (nI j_g), .int f_g] : List Value).toArray s 0 0 A) (F0 m 37 ls [.int x_g, .int (nI j_g), .ref (b 0)]) := by
        intro x_g ex_g H locs hP hD hS ls hl
        subst ex_g
        try have hl : lv_has ls 4 [(3, .int (nI (m_wy X_g j_g f_g))), (0, .ref (b 0)), (1, .int (nI j_g)), (2, .int f_g)] := hl
        refine rw_v (wr := []) (ws' := [((b 0), .inr (3, [.ref (b 1), .ref (b 2), .ref (b 3), .ref (b 4), .ref (b 5), .int (nI (m_n (m_go X_g j_g (if f_g = 0 then -(nI (m_wy X_g j_g f_g)) else (nI (m_wy X_g j_g f_g)))))), .int (m_rp (m_go X_g j_g (if f_g = 0 then -(nI (m_wy X_g j_g f_g)) else (nI (m_wy X_g j_g f_g))))), .int (m_mo (m_go X_g j_g (if f_g = 0 then -(nI (m_wy X_g j_g f_g)) else (nI (m_wy X_g j_g f_g))))), .int (m_dr (m_go X_g j_g (if f_g = 0 then -(nI (m_wy X_g j_g f_g)) else (nI (m_wy X_g j_g f_g))))), .int (m_th (m_go X_g j_g (if f_g = 0 then -(nI (m_wy X_g j_g f_g)) else (nI (m_wy X_g j_g f_g))))), .ref (b 6), .ref (b 7), .ref (b 8), .ref (b 9), .ref (b 10), .ref (b 11), .ref (b 12), .int (nI (m_fm (m_go X_g j_g (if f_g = 0 then -(nI (m_wy X_g j_g f_g)) else (nI (m_wy X_g j_g f_g)))))), .int (m_ff (m_go X_g j_g (if f_g = 0 then -(nI (m_wy X_g j_g f_g)) else (nI (m_wy X_g j_g f_g)))))])), ((b 1), .inl (cI, 9, .inl (fN (m_sz (m_go X_g j_g (if f_g = 0 then -(nI (m_wy X_g j_g f_g)) else (nI (m_wy X_g j_g f_g)))))))), ((b 2), .inl (cI, 9, .inl (fN (m_ac (m_go X_g j_g (if f_g = 0 then -(nI (m_wy X_g j_g f_g)) else (nI (m_wy X_g j_g f_g)))))))), ((b 3), .inl (cI, 9, .inl (fN (m_li (m_go X_g j_g (if f_g = 0 then -(nI (m_wy X_g j_g f_g)) else (nI (m_wy X_g j_g f_g)))))))), ((b 4), .inl (cI, 9, .inl (fN (m_pl (m_go X_g j_g (if f_g = 0 then -(nI (m_wy X_g j_g f_g)) else (nI (m_wy X_g j_g f_g)))))))), ((b 5), .inl (cI, 9, .inl (fN (m_pk (m_go X_g j_g (if f_g = 0 then -(nI (m_wy X_g j_g f_g)) else (nI (m_wy X_g j_g f_g)))))))), ((b 6), .inl (cI, 36, .inl (fN (m_yd (m_go X_g j_g (if f_g = 0 then -(nI (m_wy X_g j_g f_g)) else (nI (m_wy X_g j_g f_g)))))))), ((b 7), .inl (cI, 800, .inl (fN (m_fo (m_go X_g j_g (if f_g = 0 then -(nI (m_wy X_g j_g f_g)) else (nI (m_wy X_g j_g f_g)))))))), ((b 8), .inl (cI, 800, .inl (m_fr (m_go X_g j_g (if f_g = 0 then -(nI (m_wy X_g j_g f_g)) else (nI (m_wy X_g j_g f_g))))))), ((b 9), .inl (cI, 800, .inl (fN (m_by (m_go X_g j_g (if f_g = 0 then -(nI (m_wy X_g j_g f_g)) else (nI (m_wy X_g j_g f_g)))))))), ((b 10), .inl (cI, 800, .inl (fN (m_dp (m_go X_g j_g (if f_g = 0 then -(nI (m_wy X_g j_g f_g)) else (nI (m_wy X_g j_g f_g)))))))), ((b 11), .inl (cI, 2048, .inl (fN (m_sl (m_go X_g j_g (if f_g = 0 then -(nI (m_wy X_g j_g f_g)) else (nI (m_wy X_g j_g f_g)))))))), ((b 12), .inl (cI, 9, .inl (fN (m_kp (m_go X_g j_g (if f_g = 0 then -(nI (m_wy X_g j_g f_g)) else (nI (m_wy X_g j_g f_g))))))))]) (va_runV (As := [.int (nI j_g), .int (if f_g = 0 then -(nI (m_wy X_g j_g f_g)) else (nI (m_wy X_g j_g f_g)))]) (rest := []) ⟨hx, hb, hml, hown, hts⟩ ((c_X3_goes l G cI cZ cJ b _ X_g j_g (if f_g = 0 then -(nI (m_wy X_g j_g f_g)) else (nI (m_wy X_g j_g f_g))) (by have := hokX.1; omega) (m_tgt_dron hokX hjX).1)) (cwV 2 hts gX3_driveOn_X3_goes rfl rfl rfl (by decide +kernel) ⟨Nat.le_of_ble_eq_true rfl, Nat.le_of_ble_eq_true rfl⟩) ⟨rw_blind, va_recv hK hP (ci := 3) (q0 := 0) rfl rfl, rw_pre hP hD hK hN⟩ rfl rfl hl.1 rfl (lv_room (Nat.le_of_ble_eq_true rfl)) dX3_driveOn_37 ⟨Nat.zero_le _, Nat.zero_le _⟩) hS hA hP hD [0, 1, 2, 3, 4, 5, 6, 7, 8, 9, 10, 11, 12] [] [0, 1, 2, 3, 4, 5, 6, 7, 8, 9, 10, 11, 12] rfl rfl (by decide) (by decide) rfl (by decide) (fun H locs hP hD hS => ?_)
        refine lv_iload_n hx hb dX3_driveOn_40 rfl (lv_at hl 0 rfl) ?_
        have hP9 := hP
        have hD9 := hD
        exact W.iret (v := (nI (m_wy X_g j_g f_g))) hx hb hr (fun t ht hW => ⟨⟨(nI (m_wy X_g j_g f_g)), (m_go X_g j_g (if f_g = 0 then -(nI (m_wy X_g j_g f_g)) else (nI (m_wy X_g j_g f_g)))), rfl, ⟨by rw [m_drw, if_pos hhas, nI_clamp (by have := hok.1; omega), hgen_11], by rw [m_dron, if_pos hhas, nI_clamp (by have := hok.1; omega), hgen_11, if_neg hz]⟩, by rw [ht]; exact hP9, hD9⟩, hS.F ht⟩) hS.2.2 dX3_driveOn_41
      refine lv_iload_n hx hb dX3_driveOn_27 rfl (lv_at hl 3 rfl) ?_
      refine lv_if_eq (tgt := 35) hx hb dX3_driveOn_28 (by decide) (fun c_3 => ?_) (fun c_3 => ?_)
      · refine lv_iload_n hx hb dX3_driveOn_35 rfl (lv_at hl 0 rfl) ?_
        refine lv_ineg hx hb dX3_driveOn_36 ?_
        exact cut_37 (-(nI (m_wy X_g j_g f_g))) (by first | rw [if_pos (by assumption)] | rw [if_neg (by assumption)]) _ _ hP hD hS _ hl
      · refine lv_iload_n hx hb dX3_driveOn_31 rfl (lv_at hl 0 rfl) ?_
        refine lv_goto (tgt := 37) hx hb dX3_driveOn_32 (by decide) ?_
        exact cut_37 (nI (m_wy X_g j_g f_g)) (by first | rw [if_pos (by assumption)] | rw [if_neg (by assumption)]) _ _ hP hD hS _ hl
  · have c_1 := b1_f c_1
    refine lv_iconst (v := 0) hx hb dX3_driveOn_8 (by decide) ?_
    have hP9 := hP
    have hD9 := hD
    exact W.iret (v := 0) hx hb hr (fun t ht hW => ⟨⟨0, (m_isv M v_g), rfl, ⟨by rw [m_drw, if_neg c_1], by rw [m_dron, if_neg c_1]⟩, by rw [ht]; exact hP9, hD9⟩, hS.F ht⟩) hS.2.2 dX3_driveOn_9

theorem in_X3_ramp_3 : ∀ w ∈ wsX30, w ∈ wsX3_ramp := by decide +kernel
set_option maxHeartbeats 4000000 in
set_option maxRecDepth 100000 in
/-- RampJamModel.ramp -/
theorem c_X3_ramp (l : Launch) (G : va_G) (cI cZ cJ : ClassId) (b : Nat → Nat) (sz : Nat) (M : MS) (r_g : Int32) (q_g : Int32) (hok : m_ok M) : Met l yX3_ramp wsX3_ramp ({ frames := 2, cells := 0, slots := 0, locals := 44 }) (rw_Pc G [(cI, .int), (cZ, .boolean), (cJ, .long)] (wM cI b M) sz [.ref (b 0), .int r_g, .int q_g]) (rw_Qv (S := MS) (m_ramp (m_lay M) r_g q_g) (fun u : MS => wM cI b u) G (wM cI b M) sz) 0 0 (va_A (wM cI b M) sz) := by
  refine Met.ofW (cc := cX3_ramp) (maxL := 5) (ret := none) (by decide) rfl ?_
  intro p e s m args below meth c s₁ B hml hv
  obtain ⟨rfl, hsz, hP, hK, hD0, hN⟩ := hv
  have hx := B.exec
  have hb := B.bytes
  have hr := B.returns
  have hts := atoms_spec (ws := wsX3_ramp) B.pre
  have hown : s.vm.findClass RX3 = some m.cls := findClass_of_methodNamed B.named
  have hlocks := B.notSynchronized
  subst hsz
  have hD0 : va_D (fun _ => True) [((b 0), .inr (3, [.ref (b 1), .ref (b 2), .ref (b 3), .ref (b 4), .ref (b 5), .int (nI (m_n M)), .int (m_rp M), .int (m_mo M), .int (m_dr M), .int (m_th M), .ref (b 6), .ref (b 7), .ref (b 8), .ref (b 9), .ref (b 10), .ref (b 11), .ref (b 12), .int (nI (m_fm M)), .int (m_ff M)])), ((b 1), .inl (cI, 9, .inl (fN (m_sz M)))), ((b 2), .inl (cI, 9, .inl (fN (m_ac M)))), ((b 3), .inl (cI, 9, .inl (fN (m_li M)))), ((b 4), .inl (cI, 9, .inl (fN (m_pl M)))), ((b 5), .inl (cI, 9, .inl (fN (m_pk M)))), ((b 6), .inl (cI, 36, .inl (fN (m_yd M)))), ((b 7), .inl (cI, 800, .inl (fN (m_fo M)))), ((b 8), .inl (cI, 800, .inl (m_fr M))), ((b 9), .inl (cI, 800, .inl (fN (m_by M)))), ((b 10), .inl (cI, 800, .inl (fN (m_dp M)))), ((b 11), .inl (cI, 2048, .inl (fN (m_sl M)))), ((b 12), .inl (cI, 9, .inl (fN (m_kp M))))] := hD0
  have hD := hD0.self (sz := s.heap.size)
  unfold rw_Qv
  generalize hAe : va_A (wM cI b M) s.heap.size = A at hD ⊢
  have hA : ∀ q : Nat, s.heap.size ≤ q → A q := fun q h => by rw [← hAe]; exact Or.inr h
  have hS : va_S A s.heap s.heap [] := va_S.rf
  have hP : va_P G vwCl [((b 0), .inr (3, [.ref (b 1), .ref (b 2), .ref (b 3), .ref (b 4), .ref (b 5), .int (nI (m_n M)), .int (m_rp M), .int (m_mo M), .int (m_dr M), .int (m_th M), .ref (b 6), .ref (b 7), .ref (b 8), .ref (b 9), .ref (b 10), .ref (b 11), .ref (b 12), .int (nI (m_fm M)), .int (m_ff M)])), ((b 1), .inl (cI, 9, .inl (fN (m_sz M)))), ((b 2), .inl (cI, 9, .inl (fN (m_ac M)))), ((b 3), .inl (cI, 9, .inl (fN (m_li M)))), ((b 4), .inl (cI, 9, .inl (fN (m_pl M)))), ((b 5), .inl (cI, 9, .inl (fN (m_pk M)))), ((b 6), .inl (cI, 36, .inl (fN (m_yd M)))), ((b 7), .inl (cI, 800, .inl (fN (m_fo M)))), ((b 8), .inl (cI, 800, .inl (m_fr M))), ((b 9), .inl (cI, 800, .inl (fN (m_by M)))), ((b 10), .inl (cI, 800, .inl (fN (m_dp M)))), ((b 11), .inl (cI, 2048, .inl (fN (m_sl M)))), ((b 12), .inl (cI, 9, .inl (fN (m_kp M))))] s.heap := hP
  have hl := lv_entry ([.ref (b 0), .int r_g, .int q_g]) (n := 5) (Nat.le_of_ble_eq_true rfl)
  rw [lg_entry_eq]
  generalize (lg_sl ([.ref (b 0), .int r_g, .int q_g]) ++ List.replicate (5 - (lg_sl ([.ref (b 0), .int r_g, .int q_g])).length) Slot.unset).toArray = ls at hl ⊢
  have hl : lv_has ls 5 [(0, .ref (b 0)), (1, .int r_g), (2, .int q_g)] := hl
  have cut_19 : ∀ (x_g : Int32), (x_g = (b1 (inL r_g ∧ inL q_g))) → ∀ (H : Heap) (locs : List Loc), va_P G vwCl [((b 0), .inr (3, [.ref (b 1), .ref (b 2), .ref (b 3), .ref (b 4), .ref (b 5), .int (nI (m_n M)), .int (m_rp M), .int (m_mo M), .int (m_dr M), .int (m_th M), .ref (b 6), .ref (b 7), .ref (b 8), .ref (b 9), .ref (b 10), .ref (b 11), .ref (b 12), .int (nI (m_fm M)), .int (m_ff M)])), ((b 1), .inl (cI, 9, .inl (fN (m_sz M)))), ((b 2), .inl (cI, 9, .inl (fN (m_ac M)))), ((b 3), .inl (cI, 9, .inl (fN (m_li M)))), ((b 4), .inl (cI, 9, .inl (fN (m_pl M)))), ((b 5), .inl (cI, 9, .inl (fN (m_pk M)))), ((b 6), .inl (cI, 36, .inl (fN (m_yd M)))), ((b 7), .inl (cI, 800, .inl (fN (m_fo M)))), ((b 8), .inl (cI, 800, .inl (m_fr M))), ((b 9), .inl (cI, 800, .inl (fN (m_by M)))), ((b 10), .inl (cI, 800, .inl (fN (m_dp M)))), ((b 11), .inl (cI, 2048, .inl (fN (m_sl M)))), ((b 12), .inl (cI, 9, .inl (fN (m_kp M))))] H → va_D A [((b 0), .inr (3, [.ref (b 1), .ref (b 2), .ref (b 3), .ref (b 4), .ref (b 5), .int (nI (m_n M)), .int (m_rp M), .int (m_mo M), .int (m_dr M), .int (m_th M), .ref (b 6), .ref (b 7), .ref (b 8), .ref (b 9), .ref (b 10), .ref (b 11), .ref (b 12), .int (nI (m_fm M)), .int (m_ff M)])), ((b 1), .inl (cI, 9, .inl (fN (m_sz M)))), ((b 2), .inl (cI, 9, .inl (fN (m_ac M)))), ((b 3), .inl (cI, 9, .inl (fN (m_li M)))), ((b 4), .inl (cI, 9, .inl (fN (m_pl M)))), ((b 5), .inl (cI, 9, .inl (fN (m_pk M)))), ((b 6), .inl (cI, 36, .inl (fN (m_yd M)))), ((b 7), .inl (cI, 800, .inl (fN (m_fo M)))), ((b 8), .inl (cI, 800, .inl (m_fr M))), ((b 9), .inl (cI, 800, .inl (fN (m_by M)))), ((b 10), .inl (cI, 800, .inl (fN (m_dp M)))), ((b 11), .inl (cI, 2048, .inl (fN (m_sl M)))), ((b 12), .inl (cI, 9, .inl (fN (m_kp M))))] → va_S A s.heap H locs → ∀ (ls : Array Slot), lv_has ls 5 [(0, .ref (b 0)), (1, .int r_g), (2, .int q_g)] → W p l e (headSpec wsX3_ramp ({ frames := 2, cells := 0, slots := 0, locals := 44 })).room s m ([.ref (b 0), .int r_g, .int q_g] : List Value).toArray below meth c H locs 0 0 (MQ below (va_Qv (fun u : MS => u = (m_ramp (m_lay M) r_g q_g)) (fun (u : MS) (t : State) => va_P G vwCl ((fun u : MS => wM cI b u) u) t.heap ∧ va_D A ((fun u : MS => wM cI b u) u)) A) ([.ref (b 0), .int r_g, .int q_g] : List Value).toArray s 0 0 A) (F0 m 19 ls [.int x_g]) := by
    intro x_g ex_g H locs hP hD hS ls hl
    subst ex_g
    try have hl : lv_has ls 5 [(0, .ref (b 0)), (1, .int r_g), (2, .int q_g)] := hl
    refine lv_istore_n (lv' := [(3, .int (b1 (inL r_g ∧ inL q_g))), (0, .ref (b 0)), (1, .int r_g), (2, .int q_g)]) hx hb dX3_ramp_19 rfl hl (by decide) rfl (fun ls hl => ?_)
    refine lv_aload_n hx hb dX3_ramp_20 rfl (lv_at hl 1 rfl) ?_
    refine rw_v (wr := []) (ws' := [((b 0), .inr (3, [.ref (b 1), .ref (b 2), .ref (b 3), .ref (b 4), .ref (b 5), .int (nI (m_n (m_lay M))), .int (m_rp (m_lay M)), .int (m_mo (m_lay M)), .int (m_dr (m_lay M)), .int (m_th (m_lay M)), .ref (b 6), .ref (b 7), .ref (b 8), .ref (b 9), .ref (b 10), .ref (b 11), .ref (b 12), .int (nI (m_fm (m_lay M))), .int (m_ff (m_lay M))])), ((b 1), .inl (cI, 9, .inl (fN (m_sz (m_lay M))))), ((b 2), .inl (cI, 9, .inl (fN (m_ac (m_lay M))))), ((b 3), .inl (cI, 9, .inl (fN (m_li (m_lay M))))), ((b 4), .inl (cI, 9, .inl (fN (m_pl (m_lay M))))), ((b 5), .inl (cI, 9, .inl (fN (m_pk (m_lay M))))), ((b 6), .inl (cI, 36, .inl (fN (m_yd (m_lay M))))), ((b 7), .inl (cI, 800, .inl (fN (m_fo (m_lay M))))), ((b 8), .inl (cI, 800, .inl (m_fr (m_lay M)))), ((b 9), .inl (cI, 800, .inl (fN (m_by (m_lay M))))), ((b 10), .inl (cI, 800, .inl (fN (m_dp (m_lay M))))), ((b 11), .inl (cI, 2048, .inl (fN (m_sl (m_lay M))))), ((b 12), .inl (cI, 9, .inl (fN (m_kp (m_lay M)))))]) (va_runV (As := []) (rest := []) ⟨hx, hb, hml, hown, hts⟩ ((c_X3_laysYard l G cI cZ cJ b _ M hok)) (cwV 0 hts gX3_ramp_X3_laysYard rfl rfl rfl (by decide +kernel) ⟨Nat.le_of_ble_eq_true rfl, Nat.le_of_ble_eq_true rfl⟩) ⟨rw_blind, va_recv hK hP (ci := 3) (q0 := 0) rfl rfl, rw_pre hP hD hK hN⟩ rfl rfl hl.1 rfl (lv_room (Nat.le_of_ble_eq_true rfl)) dX3_ramp_21 ⟨Nat.zero_le _, Nat.zero_le _⟩) hS hA hP hD [0, 1, 2, 3, 4, 5, 6, 7, 8, 9, 10, 11, 12] [] [0, 1, 2, 3, 4, 5, 6, 7, 8, 9, 10, 11, 12] rfl rfl (by decide) (by decide) rfl (by decide) (fun H locs hP hD hS => ?_)
    have hokX := m_ok_lay hok
    have honX := m_on_len M r_g q_g
    generalize hgen_21 : (m_lay M) = X_g at hP hD hokX honX
    have cut_43 : ∀ (o_g : Nat), (o_g = m_on X_g r_g q_g) → ∀ (H : Heap) (locs : List Loc), va_P G vwCl [((b 0), .inr (3, [.ref (b 1), .ref (b 2), .ref (b 3), .ref (b 4), .ref (b 5), .int (nI (m_n X_g)), .int (m_rp X_g), .int (m_mo X_g), .int (m_dr X_g), .int (m_th X_g), .ref (b 6), .ref (b 7), .ref (b 8), .ref (b 9), .ref (b 10), .ref (b 11), .ref (b 12), .int (nI (m_fm X_g)), .int (m_ff X_g)])), ((b 1), .inl (cI, 9, .inl (fN (m_sz X_g)))), ((b 2), .inl (cI, 9, .inl (fN (m_ac X_g)))), ((b 3), .inl (cI, 9, .inl (fN (m_li X_g)))), ((b 4), .inl (cI, 9, .inl (fN (m_pl X_g)))), ((b 5), .inl (cI, 9, .inl (fN (m_pk X_g)))), ((b 6), .inl (cI, 36, .inl (fN (m_yd X_g)))), ((b 7), .inl (cI, 800, .inl (fN (m_fo X_g)))), ((b 8), .inl (cI, 800, .inl (m_fr X_g))), ((b 9), .inl (cI, 800, .inl (fN (m_by X_g)))), ((b 10), .inl (cI, 800, .inl (fN (m_dp X_g)))), ((b 11), .inl (cI, 2048, .inl (fN (m_sl X_g)))), ((b 12), .inl (cI, 9, .inl (fN (m_kp X_g))))] H → va_D A [((b 0), .inr (3, [.ref (b 1), .ref (b 2), .ref (b 3), .ref (b 4), .ref (b 5), .int (nI (m_n X_g)), .int (m_rp X_g), .int (m_mo X_g), .int (m_dr X_g), .int (m_th X_g), .ref (b 6), .ref (b 7), .ref (b 8), .ref (b 9), .ref (b 10), .ref (b 11), .ref (b 12), .int (nI (m_fm X_g)), .int (m_ff X_g)])), ((b 1), .inl (cI, 9, .inl (fN (m_sz X_g)))), ((b 2), .inl (cI, 9, .inl (fN (m_ac X_g)))), ((b 3), .inl (cI, 9, .inl (fN (m_li X_g)))), ((b 4), .inl (cI, 9, .inl (fN (m_pl X_g)))), ((b 5), .inl (cI, 9, .inl (fN (m_pk X_g)))), ((b 6), .inl (cI, 36, .inl (fN (m_yd X_g)))), ((b 7), .inl (cI, 800, .inl (fN (m_fo X_g)))), ((b 8), .inl (cI, 800, .inl (m_fr X_g))), ((b 9), .inl (cI, 800, .inl (fN (m_by X_g)))), ((b 10), .inl (cI, 800, .inl (fN (m_dp X_g)))), ((b 11), .inl (cI, 2048, .inl (fN (m_sl X_g)))), ((b 12), .inl (cI, 9, .inl (fN (m_kp X_g))))] → va_S A s.heap H locs → ∀ (ls : Array Slot), lv_has ls 5 [(3, .int (b1 (inL r_g ∧ inL q_g))), (0, .ref (b 0)), (1, .int r_g), (2, .int q_g)] → W p l e (headSpec wsX3_ramp ({ frames := 2, cells := 0, slots := 0, locals := 44 })).room s m ([.ref (b 0), .int r_g, .int q_g] : List Value).toArray below meth c H locs 0 0 (MQ below (va_Qv (fun u : MS => u = (m_ramp X_g r_g q_g)) (fun (u : MS) (t : State) => va_P G vwCl ((fun u : MS => wM cI b u) u) t.heap ∧ va_D A ((fun u : MS => wM cI b u) u)) A) ([.ref (b 0), .int r_g, .int q_g] : List Value).toArray s 0 0 A) (F0 m 43 ls [.int (nI o_g)]) := by
      intro o_g eo_g H locs hP hD hS ls hl
      subst eo_g
      try have hl : lv_has ls 5 [(3, .int (b1 (inL r_g ∧ inL q_g))), (0, .ref (b 0)), (1, .int r_g), (2, .int q_g)] := hl
      refine lv_istore (lv' := [(4, .int (nI (m_on X_g r_g q_g))), (3, .int (b1 (inL r_g ∧ inL q_g))), (0, .ref (b 0)), (1, .int r_g), (2, .int q_g)]) hx hb dX3_ramp_43 hl (by decide) rfl (fun ls hl => ?_)
      refine lv_aload_n hx hb dX3_ramp_45 rfl (lv_at hl 2 rfl) ?_
      have cut_84 : ∀ (x_g : Int32), (x_g = (m_rth X_g r_g q_g)) → ∀ (H : Heap) (locs : List Loc), va_P G vwCl [((b 0), .inr (3, [.ref (b 1), .ref (b 2), .ref (b 3), .ref (b 4), .ref (b 5), .int (nI (m_n X_g)), .int (m_rp X_g), .int (m_mo X_g), .int (m_dr X_g), .int (m_th X_g), .ref (b 6), .ref (b 7), .ref (b 8), .ref (b 9), .ref (b 10), .ref (b 11), .ref (b 12), .int (nI (m_fm X_g)), .int (m_ff X_g)])), ((b 1), .inl (cI, 9, .inl (fN (m_sz X_g)))), ((b 2), .inl (cI, 9, .inl (fN (m_ac X_g)))), ((b 3), .inl (cI, 9, .inl (fN (m_li X_g)))), ((b 4), .inl (cI, 9, .inl (fN (m_pl X_g)))), ((b 5), .inl (cI, 9, .inl (fN (m_pk X_g)))), ((b 6), .inl (cI, 36, .inl (fN (m_yd X_g)))), ((b 7), .inl (cI, 800, .inl (fN (m_fo X_g)))), ((b 8), .inl (cI, 800, .inl (m_fr X_g))), ((b 9), .inl (cI, 800, .inl (fN (m_by X_g)))), ((b 10), .inl (cI, 800, .inl (fN (m_dp X_g)))), ((b 11), .inl (cI, 2048, .inl (fN (m_sl X_g)))), ((b 12), .inl (cI, 9, .inl (fN (m_kp X_g))))] H → va_D A [((b 0), .inr (3, [.ref (b 1), .ref (b 2), .ref (b 3), .ref (b 4), .ref (b 5), .int (nI (m_n X_g)), .int (m_rp X_g), .int (m_mo X_g), .int (m_dr X_g), .int (m_th X_g), .ref (b 6), .ref (b 7), .ref (b 8), .ref (b 9), .ref (b 10), .ref (b 11), .ref (b 12), .int (nI (m_fm X_g)), .int (m_ff X_g)])), ((b 1), .inl (cI, 9, .inl (fN (m_sz X_g)))), ((b 2), .inl (cI, 9, .inl (fN (m_ac X_g)))), ((b 3), .inl (cI, 9, .inl (fN (m_li X_g)))), ((b 4), .inl (cI, 9, .inl (fN (m_pl X_g)))), ((b 5), .inl (cI, 9, .inl (fN (m_pk X_g)))), ((b 6), .inl (cI, 36, .inl (fN (m_yd X_g)))), ((b 7), .inl (cI, 800, .inl (fN (m_fo X_g)))), ((b 8), .inl (cI, 800, .inl (m_fr X_g))), ((b 9), .inl (cI, 800, .inl (fN (m_by X_g)))), ((b 10), .inl (cI, 800, .inl (fN (m_dp X_g)))), ((b 11), .inl (cI, 2048, .inl (fN (m_sl X_g)))), ((b 12), .inl (cI, 9, .inl (fN (m_kp X_g))))] → va_S A s.heap H locs → ∀ (ls : Array Slot), lv_has ls 5 [(4, .int (nI (m_on X_g r_g q_g))), (3, .int (b1 (inL r_g ∧ inL q_g))), (0, .ref (b 0)), (1, .int r_g), (2, .int q_g)] → W p l e (headSpec wsX3_ramp ({ frames := 2, cells := 0, slots := 0, locals := 44 })).room s m ([.ref (b 0), .int r_g, .int q_g] : List Value).toArray below meth c H locs 0 0 (MQ below (va_Qv (fun u : MS => u = (m_ramp X_g r_g q_g)) (fun (u : MS) (t : State) => va_P G vwCl ((fun u : MS => wM cI b u) u) t.heap ∧ va_D A ((fun u : MS => wM cI b u) u)) A) ([.ref (b 0), .int r_g, .int q_g] : List Value).toArray s 0 0 A) (F0 m 84 ls [.int x_g, .ref (b 0)]) := by
        intro x_g ex_g H locs hP hD hS ls hl
        subst ex_g
        try have hl : lv_has ls 5 [(4, .int (nI (m_on X_g r_g q_g))), (3, .int (b1 (inL r_g ∧ inL q_g))), (0, .ref (b 0)), (1, .int r_g), (2, .int q_g)] := hl
        refine va_put (D := G) (ci := 3) (v := .int (m_rth X_g r_g q_g)) (ty := .int) (C := RX3) (T := TX3) (N := 19) hx hb hts in_X3_ramp_3 tyX3 tyX3_ok nmX3 hown hK hP hD hS 0 rfl rfl 9 (by decide) (hts (.fieldLink RX3 50 "RampJamModel" "thrown" "I") (by decide +kernel)) (fun _ h9 => h9) rfl (by decide +kernel) rfl rfl (Nat.le_of_ble_eq_true rfl) dX3_ramp_84 (fun H locs hP hD hS => ?_)
        have hP : va_P G vwCl [((b 0), .inr (3, [.ref (b 1), .ref (b 2), .ref (b 3), .ref (b 4), .ref (b 5), .int (nI (m_n X_g)), .int (m_rp X_g), .int (m_mo X_g), .int (m_dr X_g), .int (m_rth X_g r_g q_g), .ref (b 6), .ref (b 7), .ref (b 8), .ref (b 9), .ref (b 10), .ref (b 11), .ref (b 12), .int (nI (m_fm X_g)), .int (m_ff X_g)])), ((b 1), .inl (cI, 9, .inl (fN (m_sz X_g)))), ((b 2), .inl (cI, 9, .inl (fN (m_ac X_g)))), ((b 3), .inl (cI, 9, .inl (fN (m_li X_g)))), ((b 4), .inl (cI, 9, .inl (fN (m_pl X_g)))), ((b 5), .inl (cI, 9, .inl (fN (m_pk X_g)))), ((b 6), .inl (cI, 36, .inl (fN (m_yd X_g)))), ((b 7), .inl (cI, 800, .inl (fN (m_fo X_g)))), ((b 8), .inl (cI, 800, .inl (m_fr X_g))), ((b 9), .inl (cI, 800, .inl (fN (m_by X_g)))), ((b 10), .inl (cI, 800, .inl (fN (m_dp X_g)))), ((b 11), .inl (cI, 2048, .inl (fN (m_sl X_g)))), ((b 12), .inl (cI, 9, .inl (fN (m_kp X_g))))] H := hP
        have hD : va_D A [((b 0), .inr (3, [.ref (b 1), .ref (b 2), .ref (b 3), .ref (b 4), .ref (b 5), .int (nI (m_n X_g)), .int (m_rp X_g), .int (m_mo X_g), .int (m_dr X_g), .int (m_rth X_g r_g q_g), .ref (b 6), .ref (b 7), .ref (b 8), .ref (b 9), .ref (b 10), .ref (b 11), .ref (b 12), .int (nI (m_fm X_g)), .int (m_ff X_g)])), ((b 1), .inl (cI, 9, .inl (fN (m_sz X_g)))), ((b 2), .inl (cI, 9, .inl (fN (m_ac X_g)))), ((b 3), .inl (cI, 9, .inl (fN (m_li X_g)))), ((b 4), .inl (cI, 9, .inl (fN (m_pl X_g)))), ((b 5), .inl (cI, 9, .inl (fN (m_pk X_g)))), ((b 6), .inl (cI, 36, .inl (fN (m_yd X_g)))), ((b 7), .inl (cI, 800, .inl (fN (m_fo X_g)))), ((b 8), .inl (cI, 800, .inl (m_fr X_g))), ((b 9), .inl (cI, 800, .inl (fN (m_by X_g)))), ((b 10), .inl (cI, 800, .inl (fN (m_dp X_g)))), ((b 11), .inl (cI, 2048, .inl (fN (m_sl X_g)))), ((b 12), .inl (cI, 9, .inl (fN (m_kp X_g))))] := hD
        refine lv_aload_n hx hb dX3_ramp_87 rfl (lv_at hl 2 rfl) ?_
        refine lv_aload_n hx hb dX3_ramp_88 rfl (lv_at hl 2 rfl) ?_
        have cut_108 : ∀ (x_g : Int32), (x_g = (if m_rth X_g r_g q_g = 0 then 6 * r_g + q_g else m_rp X_g)) → ∀ (H : Heap) (locs : List Loc), va_P G vwCl [((b 0), .inr (3, [.ref (b 1), .ref (b 2), .ref (b 3), .ref (b 4), .ref (b 5), .int (nI (m_n X_g)), .int (m_rp X_g), .int (m_mo X_g), .int (m_dr X_g), .int (m_rth X_g r_g q_g), .ref (b 6), .ref (b 7), .ref (b 8), .ref (b 9), .ref (b 10), .ref (b 11), .ref (b 12), .int (nI (m_fm X_g)), .int (m_ff X_g)])), ((b 1), .inl (cI, 9, .inl (fN (m_sz X_g)))), ((b 2), .inl (cI, 9, .inl (fN (m_ac X_g)))), ((b 3), .inl (cI, 9, .inl (fN (m_li X_g)))), ((b 4), .inl (cI, 9, .inl (fN (m_pl X_g)))), ((b 5), .inl (cI, 9, .inl (fN (m_pk X_g)))), ((b 6), .inl (cI, 36, .inl (fN (m_yd X_g)))), ((b 7), .inl (cI, 800, .inl (fN (m_fo X_g)))), ((b 8), .inl (cI, 800, .inl (m_fr X_g))), ((b 9), .inl (cI, 800, .inl (fN (m_by X_g)))), ((b 10), .inl (cI, 800, .inl (fN (m_dp X_g)))), ((b 11), .inl (cI, 2048, .inl (fN (m_sl X_g)))), ((b 12), .inl (cI, 9, .inl (fN (m_kp X_g))))] H → va_D A [((b 0), .inr (3, [.ref (b 1), .ref (b 2), .ref (b 3), .ref (b 4), .ref (b 5), .int (nI (m_n X_g)), .int (m_rp X_g), .int (m_mo X_g), .int (m_dr X_g), .int (m_rth X_g r_g q_g), .ref (b 6), .ref (b 7), .ref (b 8), .ref (b 9), .ref (b 10), .ref (b 11), .ref (b 12), .int (nI (m_fm X_g)), .int (m_ff X_g)])), ((b 1), .inl (cI, 9, .inl (fN (m_sz X_g)))), ((b 2), .inl (cI, 9, .inl (fN (m_ac X_g)))), ((b 3), .inl (cI, 9, .inl (fN (m_li X_g)))), ((b 4), .inl (cI, 9, .inl (fN (m_pl X_g)))), ((b 5), .inl (cI, 9, .inl (fN (m_pk X_g)))), ((b 6), .inl (cI, 36, .inl (fN (m_yd X_g)))), ((b 7), .inl (cI, 800, .inl (fN (m_fo X_g)))), ((b 8), .inl (cI, 800, .inl (m_fr X_g))), ((b 9), .inl (cI, 800, .inl (fN (m_by X_g)))), ((b 10), .inl (cI, 800, .inl (fN (m_dp X_g)))), ((b 11), .inl (cI, 2048, .inl (fN (m_sl X_g)))), ((b 12), .inl (cI, 9, .inl (fN (m_kp X_g))))] → va_S A s.heap H locs → ∀ (ls : Array Slot), lv_has ls 5 [(4, .int (nI (m_on X_g r_g q_g))), (3, .int (b1 (inL r_g ∧ inL q_g))), (0, .ref (b 0)), (1, .int r_g), (2, .int q_g)] → W p l e (headSpec wsX3_ramp ({ frames := 2, cells := 0, slots := 0, locals := 44 })).room s m ([.ref (b 0), .int r_g, .int q_g] : List Value).toArray below meth c H locs 0 0 (MQ below (va_Qv (fun u : MS => u = (m_ramp X_g r_g q_g)) (fun (u : MS) (t : State) => va_P G vwCl ((fun u : MS => wM cI b u) u) t.heap ∧ va_D A ((fun u : MS => wM cI b u) u)) A) ([.ref (b 0), .int r_g, .int q_g] : List Value).toArray s 0 0 A) (F0 m 108 ls [.int x_g, .ref (b 0)]) := by
          intro x_g ex_g H locs hP hD hS ls hl
          subst ex_g
          try have hl : lv_has ls 5 [(4, .int (nI (m_on X_g r_g q_g))), (3, .int (b1 (inL r_g ∧ inL q_g))), (0, .ref (b 0)), (1, .int r_g), (2, .int q_g)] := hl
          refine va_put (D := G) (ci := 3) (v := .int (if m_rth X_g r_g q_g = 0 then 6 * r_g + q_g else m_rp X_g)) (ty := .int) (C := RX3) (T := TX3) (N := 19) hx hb hts in_X3_ramp_3 tyX3 tyX3_ok nmX3 hown hK hP hD hS 0 rfl rfl 6 (by decide) (hts (.fieldLink RX3 25 "RampJamModel" "rampAt" "I") (by decide +kernel)) (fun _ h9 => h9) rfl (by decide +kernel) rfl rfl (Nat.le_of_ble_eq_true rfl) dX3_ramp_108 (fun H locs hP hD hS => ?_)
          have hP : va_P G vwCl [((b 0), .inr (3, [.ref (b 1), .ref (b 2), .ref (b 3), .ref (b 4), .ref (b 5), .int (nI (m_n X_g)), .int (if m_rth X_g r_g q_g = 0 then 6 * r_g + q_g else m_rp X_g), .int (m_mo X_g), .int (m_dr X_g), .int (m_rth X_g r_g q_g), .ref (b 6), .ref (b 7), .ref (b 8), .ref (b 9), .ref (b 10), .ref (b 11), .ref (b 12), .int (nI (m_fm X_g)), .int (m_ff X_g)])), ((b 1), .inl (cI, 9, .inl (fN (m_sz X_g)))), ((b 2), .inl (cI, 9, .inl (fN (m_ac X_g)))), ((b 3), .inl (cI, 9, .inl (fN (m_li X_g)))), ((b 4), .inl (cI, 9, .inl (fN (m_pl X_g)))), ((b 5), .inl (cI, 9, .inl (fN (m_pk X_g)))), ((b 6), .inl (cI, 36, .inl (fN (m_yd X_g)))), ((b 7), .inl (cI, 800, .inl (fN (m_fo X_g)))), ((b 8), .inl (cI, 800, .inl (m_fr X_g))), ((b 9), .inl (cI, 800, .inl (fN (m_by X_g)))), ((b 10), .inl (cI, 800, .inl (fN (m_dp X_g)))), ((b 11), .inl (cI, 2048, .inl (fN (m_sl X_g)))), ((b 12), .inl (cI, 9, .inl (fN (m_kp X_g))))] H := hP
          have hD : va_D A [((b 0), .inr (3, [.ref (b 1), .ref (b 2), .ref (b 3), .ref (b 4), .ref (b 5), .int (nI (m_n X_g)), .int (if m_rth X_g r_g q_g = 0 then 6 * r_g + q_g else m_rp X_g), .int (m_mo X_g), .int (m_dr X_g), .int (m_rth X_g r_g q_g), .ref (b 6), .ref (b 7), .ref (b 8), .ref (b 9), .ref (b 10), .ref (b 11), .ref (b 12), .int (nI (m_fm X_g)), .int (m_ff X_g)])), ((b 1), .inl (cI, 9, .inl (fN (m_sz X_g)))), ((b 2), .inl (cI, 9, .inl (fN (m_ac X_g)))), ((b 3), .inl (cI, 9, .inl (fN (m_li X_g)))), ((b 4), .inl (cI, 9, .inl (fN (m_pl X_g)))), ((b 5), .inl (cI, 9, .inl (fN (m_pk X_g)))), ((b 6), .inl (cI, 36, .inl (fN (m_yd X_g)))), ((b 7), .inl (cI, 800, .inl (fN (m_fo X_g)))), ((b 8), .inl (cI, 800, .inl (m_fr X_g))), ((b 9), .inl (cI, 800, .inl (fN (m_by X_g)))), ((b 10), .inl (cI, 800, .inl (fN (m_dp X_g)))), ((b 11), .inl (cI, 2048, .inl (fN (m_sl X_g)))), ((b 12), .inl (cI, 9, .inl (fN (m_kp X_g))))] := hD
          have hP9 := hP
          have hD9 := hD
          exact W.vret hx hb hr (fun t ht hW => ⟨⟨((m_sz X_g), (m_ac X_g), (m_li X_g), (m_pl X_g), (m_pk X_g), (m_n X_g), (if m_rth X_g r_g q_g = 0 then 6 * r_g + q_g else m_rp X_g), (m_mo X_g), (m_dr X_g), (m_rth X_g r_g q_g), (m_yd X_g), (m_fo X_g), (m_fr X_g), (m_by X_g), (m_dp X_g), (m_sl X_g), (m_kp X_g), (m_fm X_g), (m_ff X_g)), rfl, rfl, by rw [ht]; exact hP9, hD9⟩, hS.F ht⟩) hS.2.2 dX3_ramp_111
        refine va_get (D := G) (ci := 3) (v := .int (m_rth X_g r_g q_g)) (C := RX3) (T := TX3) (N := 19) hx hb hts in_X3_ramp_3 hown hK hP 0 rfl rfl 9 (by decide) (hts (.fieldLink RX3 50 "RampJamModel" "thrown" "I") (by decide +kernel)) (fun _ h9 => h9) rfl dX3_ramp_89 ?_
        refine lv_if_ne (tgt := 104) hx hb dX3_ramp_92 (by decide) (fun c_1 => ?_) (fun c_1 => ?_)
        · refine lv_aload_n hx hb dX3_ramp_104 rfl (lv_at hl 2 rfl) ?_
          refine va_get (D := G) (ci := 3) (v := .int (m_rp X_g)) (C := RX3) (T := TX3) (N := 19) hx hb hts in_X3_ramp_3 hown hK hP 0 rfl rfl 6 (by decide) (hts (.fieldLink RX3 25 "RampJamModel" "rampAt" "I") (by decide +kernel)) (fun _ h9 => h9) rfl dX3_ramp_105 ?_
          exact cut_108 (m_rp X_g) (by first | rw [if_pos (by assumption)] | rw [if_neg (by assumption)]) _ _ hP hD hS _ hl
        · refine lv_bipush (v := 6) hx hb dX3_ramp_95 (by decide) ?_
          refine lv_iload_n hx hb dX3_ramp_97 rfl (lv_at hl 3 rfl) ?_
          refine lv_imul hx hb dX3_ramp_98 ?_
          refine lv_iload_n hx hb dX3_ramp_99 rfl (lv_at hl 4 rfl) ?_
          refine lv_iadd hx hb dX3_ramp_100 ?_
          refine lv_goto (tgt := 108) hx hb dX3_ramp_101 (by decide) ?_
          exact cut_108 ((6 * r_g) + q_g) (by first | rw [if_pos (by assumption)] | rw [if_neg (by assumption)]) _ _ hP hD hS _ hl
      refine lv_iload_n hx hb dX3_ramp_46 rfl (lv_at hl 1 rfl) ?_
      refine lv_if_ne (tgt := 54) hx hb dX3_ramp_47 (by decide) (fun c_2 => ?_) (fun c_2 => ?_)
      · have c_2 := b1_t c_2
        refine lv_aload_n hx hb dX3_ramp_54 rfl (lv_at hl 2 rfl) ?_
        refine va_get (D := G) (ci := 3) (v := .int (m_mo X_g)) (C := RX3) (T := TX3) (N := 19) hx hb hts in_X3_ramp_3 hown hK hP 0 rfl rfl 7 (by decide) (hts (.fieldLink RX3 71 "RampJamModel" "moves" "I") (by decide +kernel)) (fun _ h9 => h9) rfl dX3_ramp_55 ?_
        refine lv_if_gt (tgt := 79) hx hb dX3_ramp_58 (by decide) (fun c_3 => ?_) (fun c_3 => ?_)
        · refine lv_iconst (v := 2) hx hb dX3_ramp_79 (by decide) ?_
          refine lv_goto (tgt := 84) hx hb dX3_ramp_80 (by decide) ?_
          exact cut_84 2 (by first | rw [m_rth, if_pos (by assumption)] | rw [m_rth, if_neg (not_not_intro (by assumption)), if_pos (by first | exact Or.inl (by assumption) | exact Or.inr ⟨by assumption, by assumption⟩)] | rw [m_rth, if_neg (not_not_intro (by assumption)), if_neg (by rintro (h | ⟨h1, h2⟩) <;> first | contradiction | omega)]) _ _ hP hD hS _ hl
        · have h9X := hokX.1
          refine lv_iload hx hb dX3_ramp_61 (lv_at hl 0 rfl) ?_
          have h9X := hokX.1
          refine lv_if_le (tgt := 83) hx hb dX3_ramp_63 (by decide) (fun c_4 => ?_) (fun c_4 => ?_)
          · have c_4 : (m_on X_g r_g q_g) ≤ 0 := (nI_leI (a := (m_on X_g r_g q_g)) (b := 0) (by omega) (by omega)).mp c_4
            refine lv_iconst (v := 0) hx hb dX3_ramp_83 (by decide) ?_
            exact cut_84 0 (by first | rw [m_rth, if_pos (by assumption)] | rw [m_rth, if_neg (not_not_intro (by assumption)), if_pos (by first | exact Or.inl (by assumption) | exact Or.inr ⟨by assumption, by assumption⟩)] | rw [m_rth, if_neg (not_not_intro (by assumption)), if_neg (by rintro (h | ⟨h1, h2⟩) <;> first | contradiction | omega)]) _ _ hP hD hS _ hl
          · have c_4 : 0 < (m_on X_g r_g q_g) := Nat.not_le.mp (fun q => c_4 ((nI_leI (a := (m_on X_g r_g q_g)) (b := 0) (by omega) (by omega)).mpr q))
            obtain ⟨b1_, b2_, b3_, b4_, b5_, b6_⟩ := hokX.2.1 (m_on X_g r_g q_g - 1) (by omega)
            refine lv_aload_n hx hb dX3_ramp_66 rfl (lv_at hl 2 rfl) ?_
            refine va_get (D := G) (ci := 3) (v := .ref (b 1)) (C := RX3) (T := TX3) (N := 19) hx hb hts in_X3_ramp_3 hown hK hP 0 rfl rfl 0 (by decide) (hts (.fieldLink RX3 7 "RampJamModel" "cellsOf" "[I") (by decide +kernel)) (fun _ h9 => h9) rfl dX3_ramp_67 ?_
            refine lv_iload hx hb dX3_ramp_70 (lv_at hl 0 rfl) ?_
            refine lv_iconst (v := 1) hx hb dX3_ramp_72 (by decide) ?_
            refine lv_isub hx hb dX3_ramp_73 ?_
            rw [show ((nI (m_on X_g r_g q_g)) - 1 : Int32) = (nI ((m_on X_g r_g q_g) - 1)) from pk_sub (a := (m_on X_g r_g q_g)) (b := 1) (by omega)]
            refine va_iald hx hb hK hP 1 0 rfl rfl (vp_in_nI (by omega) (by decide)) dX3_ramp_74 ?_
            rw [show (nI ((m_on X_g r_g q_g) - 1)).toNatClampNeg = ((m_on X_g r_g q_g) - 1) from nI_clamp (by omega)]
            rw [show fN (m_sz X_g) ((m_on X_g r_g q_g) - 1) = (nI ((m_sz X_g) ((m_on X_g r_g q_g) - 1))) from rfl]
            refine lv_iconst (v := 2) hx hb dX3_ramp_75 (by decide) ?_
            refine lv_icmp_le (tgt := 83) hx hb dX3_ramp_76 (by decide) (fun c_5 => ?_) (fun c_5 => ?_)
            · have c_5 : ((m_sz X_g) ((m_on X_g r_g q_g) - 1)) ≤ 2 := (nI_leI (a := ((m_sz X_g) ((m_on X_g r_g q_g) - 1))) (b := 2) (by omega) (by omega)).mp c_5
              refine lv_iconst (v := 0) hx hb dX3_ramp_83 (by decide) ?_
              exact cut_84 0 (by first | rw [m_rth, if_pos (by assumption)] | rw [m_rth, if_neg (not_not_intro (by assumption)), if_pos (by first | exact Or.inl (by assumption) | exact Or.inr ⟨by assumption, by assumption⟩)] | rw [m_rth, if_neg (not_not_intro (by assumption)), if_neg (by rintro (h | ⟨h1, h2⟩) <;> first | contradiction | omega)]) _ _ hP hD hS _ hl
            · have c_5 : 2 < ((m_sz X_g) ((m_on X_g r_g q_g) - 1)) := Nat.not_le.mp (fun q => c_5 ((nI_leI (a := ((m_sz X_g) ((m_on X_g r_g q_g) - 1))) (b := 2) (by omega) (by omega)).mpr q))
              refine lv_iconst (v := 2) hx hb dX3_ramp_79 (by decide) ?_
              refine lv_goto (tgt := 84) hx hb dX3_ramp_80 (by decide) ?_
              exact cut_84 2 (by first | rw [m_rth, if_pos (by assumption)] | rw [m_rth, if_neg (not_not_intro (by assumption)), if_pos (by first | exact Or.inl (by assumption) | exact Or.inr ⟨by assumption, by assumption⟩)] | rw [m_rth, if_neg (not_not_intro (by assumption)), if_neg (by rintro (h | ⟨h1, h2⟩) <;> first | contradiction | omega)]) _ _ hP hD hS _ hl
      · have c_2 := b1_f c_2
        refine lv_iconst (v := 1) hx hb dX3_ramp_50 (by decide) ?_
        refine lv_goto (tgt := 84) hx hb dX3_ramp_51 (by decide) ?_
        exact cut_84 1 (by first | rw [m_rth, if_pos (by assumption)] | rw [m_rth, if_neg (not_not_intro (by assumption)), if_pos (by first | exact Or.inl (by assumption) | exact Or.inr ⟨by assumption, by assumption⟩)] | rw [m_rth, if_neg (not_not_intro (by assumption)), if_neg (by rintro (h | ⟨h1, h2⟩) <;> first | contradiction | omega)]) _ _ hP hD hS _ hl
    refine lv_iload_n hx hb dX3_ramp_24 rfl (lv_at hl 0 rfl) ?_
    refine lv_if_eq (tgt := 42) hx hb dX3_ramp_25 (by decide) (fun c_6 => ?_) (fun c_6 => ?_)
    · have c_6 := b1_f c_6
      refine lv_iconst (v := 0) hx hb dX3_ramp_42 (by decide) ?_
      exact cut_43 0 (by first | rw [m_on, if_pos (by assumption)] | rw [m_on, if_neg (by assumption)]) _ _ hP hD hS _ hl
    · have c_6 := b1_t c_6
      refine lv_aload_n hx hb dX3_ramp_28 rfl (lv_at hl 1 rfl) ?_
      refine va_get (D := G) (ci := 3) (v := .ref (b 6)) (C := RX3) (T := TX3) (N := 19) hx hb hts in_X3_ramp_3 hown hK hP 0 rfl rfl 10 (by decide) (hts (.fieldLink RX3 29 "RampJamModel" "yard" "[I") (by decide +kernel)) (fun _ h9 => h9) rfl dX3_ramp_29 ?_
      refine lv_bipush (v := 6) hx hb dX3_ramp_32 (by decide) ?_
      refine lv_iload_n hx hb dX3_ramp_34 rfl (lv_at hl 2 rfl) ?_
      refine lv_imul hx hb dX3_ramp_35 ?_
      refine lv_iload_n hx hb dX3_ramp_36 rfl (lv_at hl 3 rfl) ?_
      refine lv_iadd hx hb dX3_ramp_37 ?_
      refine va_iald hx hb hK hP 6 0 rfl rfl (m_rq_in (by assumption)) dX3_ramp_38 ?_
      rw [show fN (m_yd X_g) (((6 * r_g) + q_g).toNatClampNeg) = (nI ((m_yd X_g) (((6 * r_g) + q_g).toNatClampNeg))) from rfl]
      refine lv_goto (tgt := 43) hx hb dX3_ramp_39 (by decide) ?_
      exact cut_43 ((m_yd X_g) (((6 * r_g) + q_g).toNatClampNeg)) (by first | rw [m_on, if_pos (by assumption)] | rw [m_on, if_neg (by assumption)]) _ _ hP hD hS _ hl
  refine lv_iload_n hx hb dX3_ramp_0 rfl (lv_at hl 1 rfl) ?_
  refine ro_i (va_runS (As := [.int r_g]) (rest := []) ⟨hx, hb, hml, hown, hts⟩ ((c_X3_isLine l G cI cZ cJ b _ r_g)) (va_cwS 1 hts gX3_ramp_X3_isLine rfl rfl rfl (by decide +kernel) ⟨Nat.le_of_ble_eq_true rfl, Nat.le_of_ble_eq_true rfl⟩) ⟨ro_blind, ro_pre va_P0 hK hN⟩ rfl rfl hl.1 rfl (lv_room (Nat.le_of_ble_eq_true rfl)) dX3_ramp_1 ⟨Nat.zero_le _, Nat.zero_le _⟩) hS hA hP (fun H locs hP hS => ?_)
  refine lv_if_eq (tgt := 18) hx hb dX3_ramp_4 (by decide) (fun c_7 => ?_) (fun c_7 => ?_)
  · have c_7 := b1_f c_7
    refine lv_iconst (v := 0) hx hb dX3_ramp_18 (by decide) ?_
    exact cut_19 0 (by first | rw [b1, if_pos ⟨by assumption, by assumption⟩] | (rw [b1, if_neg]; rintro ⟨h1, h2⟩; contradiction)) _ _ hP hD hS _ hl
  · have c_7 := b1_t c_7
    refine lv_iload_n hx hb dX3_ramp_7 rfl (lv_at hl 2 rfl) ?_
    refine ro_i (va_runS (As := [.int q_g]) (rest := []) ⟨hx, hb, hml, hown, hts⟩ ((c_X3_isLine l G cI cZ cJ b _ q_g)) (va_cwS 1 hts gX3_ramp_X3_isLine rfl rfl rfl (by decide +kernel) ⟨Nat.le_of_ble_eq_true rfl, Nat.le_of_ble_eq_true rfl⟩) ⟨ro_blind, ro_pre va_P0 hK hN⟩ rfl rfl hl.1 rfl (lv_room (Nat.le_of_ble_eq_true rfl)) dX3_ramp_8 ⟨Nat.zero_le _, Nat.zero_le _⟩) hS hA hP (fun H locs hP hS => ?_)
    refine lv_if_eq (tgt := 18) hx hb dX3_ramp_11 (by decide) (fun c_8 => ?_) (fun c_8 => ?_)
    · have c_8 := b1_f c_8
      refine lv_iconst (v := 0) hx hb dX3_ramp_18 (by decide) ?_
      exact cut_19 0 (by first | rw [b1, if_pos ⟨by assumption, by assumption⟩] | (rw [b1, if_neg]; rintro ⟨h1, h2⟩; contradiction)) _ _ hP hD hS _ hl
    · have c_8 := b1_t c_8
      refine lv_iconst (v := 1) hx hb dX3_ramp_14 (by decide) ?_
      refine lv_goto (tgt := 19) hx hb dX3_ramp_15 (by decide) ?_
      exact cut_19 1 (by first | rw [b1, if_pos ⟨by assumption, by assumption⟩] | (rw [b1, if_neg]; rintro ⟨h1, h2⟩; contradiction)) _ _ hP hD hS _ hl
