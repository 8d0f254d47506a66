set_option maxHeartbeats 4000000 in
set_option maxRecDepth 100000 in
/-- isLine -/
theorem c_X3_isLine (l : Launch) (G : va_G) (cI cZ cJ : ClassId) (a : Nat → Nat) (sz : Nat) (x0 : Int32)  : Met l yX3_isLine wsX3_isLine ({ frames := 0, cells := 0, slots := 0, locals := 0 }) (ro_Pc G [(cI, .int), (cZ, .boolean), (cJ, .long)] [] sz [.int x0]) (ro_Qi (b1 (inL x0)) sz) 0 0 (ro_A sz) := by
  refine Met.ofW (cc := cX3_isLine) (maxL := 1) (ret := (some .boolean)) (by decide) rfl ?_
  intro p e s m args below meth c s₁ B hml hv
  obtain ⟨rfl, hsz, hP, hK, hN⟩ := hv
  have hx := B.exec
  have hb := B.bytes
  have hr := B.returns
  have hts := atoms_spec (ws := wsX3_isLine) B.pre
  have hown : s.vm.findClass RX3 = some m.cls := findClass_of_methodNamed B.named
  have hlocks := B.notSynchronized
  subst hsz
  have hA : ∀ q : Nat, s.heap.size ≤ q → (ro_A s.heap.size) q := fun _ h => h
  have hS : va_S (ro_A s.heap.size) s.heap s.heap [] := va_S.rf
  have hP : va_P G vwCl [] s.heap := hP
  have hl := lv_entry ([.int x0]) (n := 1) (Nat.le_of_ble_eq_true rfl)
  rw [lg_entry_eq]
  generalize (lg_sl ([.int x0]) ++ List.replicate (1 - (lg_sl ([.int x0])).length) Slot.unset).toArray = ls at hl ⊢
  have hl : lv_has ls 1 [(0, .int x0)] := hl
  refine lv_iload_n hx hb dX3_isLine_0 rfl (lv_at hl 0 rfl) ?_
  refine lv_if_lt (tgt := 14) hx hb dX3_isLine_1 (by decide) (fun c_1 => ?_) (fun c_1 => ?_)
  · refine lv_iconst (v := 0) hx hb dX3_isLine_14 (by decide) ?_
    exact W.zret (ty := .boolean) (v := 0) hx hb hr (rfl) (fun t ht hW => ⟨⟨0, (), rfl, by simp [inL, c_1], trivial⟩, hS.F ht⟩) hS.2.2 dX3_isLine_15
  · refine lv_iload_n hx hb dX3_isLine_4 rfl (lv_at hl 0 rfl) ?_
    refine lv_bipush (v := 6) hx hb dX3_isLine_5 (by decide) ?_
    refine lv_icmp_ge (tgt := 14) hx hb dX3_isLine_7 (by decide) (fun c_2 => ?_) (fun c_2 => ?_)
    · refine lv_iconst (v := 0) hx hb dX3_isLine_14 (by decide) ?_
      exact W.zret (ty := .boolean) (v := 0) hx hb hr (rfl) (fun t ht hW => ⟨⟨0, (), rfl, by simp [inL, c_1, c_2], trivial⟩, hS.F ht⟩) hS.2.2 dX3_isLine_15
    · refine lv_iconst (v := 1) hx hb dX3_isLine_10 (by decide) ?_
      refine lv_goto (tgt := 15) hx hb dX3_isLine_11 (by decide) ?_
      exact W.zret (ty := .boolean) (v := 1) hx hb hr (rfl) (fun t ht hW => ⟨⟨1, (), rfl, by simp [inL, c_1, c_2], trivial⟩, hS.F ht⟩) hS.2.2 dX3_isLine_15

set_option maxHeartbeats 4000000 in
set_option maxRecDepth 100000 in
/-- cell -/
theorem c_X3_cell (l : Launch) (G : va_G) (cI cZ cJ : ClassId) (a : Nat → Nat) (sz : Nat) (x0 : Int32) (x1 : Int32) (x2 : Int32)  : Met l yX3_cell wsX3_cell ({ frames := 0, cells := 0, slots := 0, locals := 0 }) (ro_Pc G [(cI, .int), (cZ, .boolean), (cJ, .long)] [] sz [.int x0, .int x1, .int x2]) (ro_Qi (m_cli x0 x1 x2) sz) 0 0 (ro_A sz) := by
  refine Met.ofW (cc := cX3_cell) (maxL := 3) (ret := (some .int)) (by decide) rfl ?_
  intro p e s m args below meth c s₁ B hml hv
  obtain ⟨rfl, hsz, hP, hK, hN⟩ := hv
  have hx := B.exec
  have hb := B.bytes
  have hr := B.returns
  have hts := atoms_spec (ws := wsX3_cell) B.pre
  have hown : s.vm.findClass RX3 = some m.cls := findClass_of_methodNamed B.named
  have hlocks := B.notSynchronized
  subst hsz
  have hA : ∀ q : Nat, s.heap.size ≤ q → (ro_A s.heap.size) q := fun _ h => h
  have hS : va_S (ro_A s.heap.size) s.heap s.heap [] := va_S.rf
  have hP : va_P G vwCl [] s.heap := hP
  have hl := lv_entry ([.int x0, .int x1, .int x2]) (n := 3) (Nat.le_of_ble_eq_true rfl)
  rw [lg_entry_eq]
  generalize (lg_sl ([.int x0, .int x1, .int x2]) ++ List.replicate (3 - (lg_sl ([.int x0, .int x1, .int x2])).length) Slot.unset).toArray = ls at hl ⊢
  have hl : lv_has ls 3 [(0, .int x0), (1, .int x1), (2, .int x2)] := hl
  refine lv_iload_n hx hb dX3_cell_0 rfl (lv_at hl 0 rfl) ?_
  refine lv_iconst (v := 1) hx hb dX3_cell_1 (by decide) ?_
  refine lv_icmp_ne (tgt := 14) hx hb dX3_cell_2 (by decide) (fun c_1 => ?_) (fun c_1 => ?_)
  · refine lv_bipush (v := 6) hx hb dX3_cell_14 (by decide) ?_
    refine lv_iload_n hx hb dX3_cell_16 rfl (lv_at hl 2 rfl) ?_
    refine lv_imul hx hb dX3_cell_17 ?_
    refine lv_iload_n hx hb dX3_cell_18 rfl (lv_at hl 1 rfl) ?_
    refine lv_iadd hx hb dX3_cell_19 ?_
    exact W.iret (v := ((6 * x2) + x1)) hx hb hr (fun t ht hW => ⟨⟨((6 * x2) + x1), (), rfl, by rw [m_cli, if_neg c_1], trivial⟩, hS.F ht⟩) hS.2.2 dX3_cell_20
  · refine lv_bipush (v := 6) hx hb dX3_cell_5 (by decide) ?_
    refine lv_iload_n hx hb dX3_cell_7 rfl (lv_at hl 1 rfl) ?_
    refine lv_imul hx hb dX3_cell_8 ?_
    refine lv_iload_n hx hb dX3_cell_9 rfl (lv_at hl 2 rfl) ?_
    refine lv_iadd hx hb dX3_cell_10 ?_
    refine lv_goto (tgt := 20) hx hb dX3_cell_11 (by decide) ?_
    exact W.iret (v := ((6 * x1) + x2)) hx hb hr (fun t ht hW => ⟨⟨((6 * x1) + x2), (), rfl, by rw [m_cli, if_pos c_1], trivial⟩, hS.F ht⟩) hS.2.2 dX3_cell_20

theorem in_X3_thrown_3 : ∀ w ∈ wsX30, w ∈ wsX3_thrown := by decide +kernel
set_option maxHeartbeats 4000000 in
set_option maxRecDepth 100000 in
/-- RampJamModel.thrown -/
theorem c_X3_thrown (l : Launch) (G : va_G) (cI cZ cJ : ClassId) (b : Nat → Nat) (sz : Nat) (M : MS)  : Met l yX3_thrown wsX3_thrown ({ frames := 0, cells := 0, slots := 0, locals := 0 }) (ro_Pc G [(cI, .int), (cZ, .boolean), (cJ, .long)] (wM cI b M) sz [.ref (b 0)]) (ro_Qi (m_th M) sz) 0 0 (ro_A sz) := by
  refine Met.ofW (cc := cX3_thrown) (maxL := 1) (ret := (some .int)) (by decide) rfl ?_
  intro p e s m args below meth c s₁ B hml hv
  obtain ⟨rfl, hsz, hP, hK, hN⟩ := hv
  have hx := B.exec
  have hb := B.bytes
  have hr := B.returns
  have hts := atoms_spec (ws := wsX3_thrown) B.pre
  have hown : s.vm.findClass RX3 = some m.cls := findClass_of_methodNamed B.named
  have hlocks := B.notSynchronized
  subst hsz
  have hA : ∀ q : Nat, s.heap.size ≤ q → (ro_A s.heap.size) q := fun _ h => h
  have hS : va_S (ro_A s.heap.size) s.heap s.heap [] := va_S.rf
  have hP : va_P G vwCl [((b 0), .inr (3, [.ref (b 1), .ref (b 2), .ref (b 3), .ref (b 4), .ref (b 5), .int (nI (m_n M)), .int (m_rp M), .int (m_mo M), .int (m_dr M), .int (m_th M), .ref (b 6), .ref (b 7), .ref (b 8), .ref (b 9), .ref (b 10), .ref (b 11), .ref (b 12), .int (nI (m_fm M)), .int (m_ff M)])), ((b 1), .inl (cI, 9, .inl (fN (m_sz M)))), ((b 2), .inl (cI, 9, .inl (fN (m_ac M)))), ((b 3), .inl (cI, 9, .inl (fN (m_li M)))), ((b 4), .inl (cI, 9, .inl (fN (m_pl M)))), ((b 5), .inl (cI, 9, .inl (fN (m_pk M)))), ((b 6), .inl (cI, 36, .inl (fN (m_yd M)))), ((b 7), .inl (cI, 800, .inl (fN (m_fo M)))), ((b 8), .inl (cI, 800, .inl (m_fr M))), ((b 9), .inl (cI, 800, .inl (fN (m_by M)))), ((b 10), .inl (cI, 800, .inl (fN (m_dp M)))), ((b 11), .inl (cI, 2048, .inl (fN (m_sl M)))), ((b 12), .inl (cI, 9, .inl (fN (m_kp M))))] s.heap := hP
  have hl := lv_entry ([.ref (b 0)]) (n := 1) (Nat.le_of_ble_eq_true rfl)
  rw [lg_entry_eq]
  generalize (lg_sl ([.ref (b 0)]) ++ List.replicate (1 - (lg_sl ([.ref (b 0)])).length) Slot.unset).toArray = ls at hl ⊢
  have hl : lv_has ls 1 [(0, .ref (b 0))] := hl
  refine lv_aload_n hx hb dX3_thrown_0 rfl (lv_at hl 0 rfl) ?_
  refine va_get (D := G) (ci := 3) (v := .int (m_th M)) (C := RX3) (T := TX3) (N := 19) hx hb hts in_X3_thrown_3 hown hK hP 0 rfl rfl 9 (by decide) (hts (.fieldLink RX3 50 "RampJamModel" "thrown" "I") (by decide +kernel)) (fun _ h9 => h9) rfl dX3_thrown_1 ?_
  exact W.iret (v := (m_th M)) hx hb hr (fun t ht hW => ⟨⟨(m_th M), (), rfl, rfl, trivial⟩, hS.F ht⟩) hS.2.2 dX3_thrown_4

theorem in_X3_isVehicle_3 : ∀ w ∈ wsX30, w ∈ wsX3_isVehicle := by decide +kernel
set_option maxHeartbeats 4000000 in
set_option maxRecDepth 100000 in
/-- RampJamModel.isVehicle -/
theorem c_X3_isVehicle (l : Launch) (G : va_G) (cI cZ cJ : ClassId) (b : Nat → Nat) (sz : Nat) (M : MS) (v_g : Int32)  : Met l yX3_isVehicle wsX3_isVehicle ({ frames := 0, cells := 0, slots := 0, locals := 0 }) (rw_Pc G [(cI, .int), (cZ, .boolean), (cJ, .long)] (wM cI b M) sz [.ref (b 0), .int v_g]) (rw_Qi (S := MS) (b1 (m_has M v_g)) (m_isv M v_g) (fun u : MS => wM cI b u) G (wM cI b M) sz) 0 0 (va_A (wM cI b M) sz) := by
  refine Met.ofW (cc := cX3_isVehicle) (maxL := 2) (ret := (some .boolean)) (by decide) rfl ?_
  intro p e s m args below meth c s₁ B hml hv
  obtain ⟨rfl, hsz, hP, hK, hD0, hN⟩ := hv
  have hx := B.exec
  have hb := B.bytes
  have hr := B.returns
  have hts := atoms_spec (ws := wsX3_isVehicle) B.pre
  have hown : s.vm.findClass RX3 = some m.cls := findClass_of_methodNamed B.named
  have hlocks := B.notSynchronized
  subst hsz
  have hD0 : va_D (fun _ => True) [((b 0), .inr (3, [.ref (b 1), .ref (b 2), .ref (b 3), .ref (b 4), .ref (b 5), .int (nI (m_n M)), .int (m_rp M), .int (m_mo M), .int (m_dr M), .int (m_th M), .ref (b 6), .ref (b 7), .ref (b 8), .ref (b 9), .ref (b 10), .ref (b 11), .ref (b 12), .int (nI (m_fm M)), .int (m_ff M)])), ((b 1), .inl (cI, 9, .inl (fN (m_sz M)))), ((b 2), .inl (cI, 9, .inl (fN (m_ac M)))), ((b 3), .inl (cI, 9, .inl (fN (m_li M)))), ((b 4), .inl (cI, 9, .inl (fN (m_pl M)))), ((b 5), .inl (cI, 9, .inl (fN (m_pk M)))), ((b 6), .inl (cI, 36, .inl (fN (m_yd M)))), ((b 7), .inl (cI, 800, .inl (fN (m_fo M)))), ((b 8), .inl (cI, 800, .inl (m_fr M))), ((b 9), .inl (cI, 800, .inl (fN (m_by M)))), ((b 10), .inl (cI, 800, .inl (fN (m_dp M)))), ((b 11), .inl (cI, 2048, .inl (fN (m_sl M)))), ((b 12), .inl (cI, 9, .inl (fN (m_kp M))))] := hD0
  have hD := hD0.self (sz := s.heap.size)
  unfold rw_Qi
  generalize hAe : va_A (wM cI b M) s.heap.size = A at hD ⊢
  have hA : ∀ q : Nat, s.heap.size ≤ q → A q := fun q h => by rw [← hAe]; exact Or.inr h
  have hS : va_S A s.heap s.heap [] := va_S.rf
  have hP : va_P G vwCl [((b 0), .inr (3, [.ref (b 1), .ref (b 2), .ref (b 3), .ref (b 4), .ref (b 5), .int (nI (m_n M)), .int (m_rp M), .int (m_mo M), .int (m_dr M), .int (m_th M), .ref (b 6), .ref (b 7), .ref (b 8), .ref (b 9), .ref (b 10), .ref (b 11), .ref (b 12), .int (nI (m_fm M)), .int (m_ff M)])), ((b 1), .inl (cI, 9, .inl (fN (m_sz M)))), ((b 2), .inl (cI, 9, .inl (fN (m_ac M)))), ((b 3), .inl (cI, 9, .inl (fN (m_li M)))), ((b 4), .inl (cI, 9, .inl (fN (m_pl M)))), ((b 5), .inl (cI, 9, .inl (fN (m_pk M)))), ((b 6), .inl (cI, 36, .inl (fN (m_yd M)))), ((b 7), .inl (cI, 800, .inl (fN (m_fo M)))), ((b 8), .inl (cI, 800, .inl (m_fr M))), ((b 9), .inl (cI, 800, .inl (fN (m_by M)))), ((b 10), .inl (cI, 800, .inl (fN (m_dp M)))), ((b 11), .inl (cI, 2048, .inl (fN (m_sl M)))), ((b 12), .inl (cI, 9, .inl (fN (m_kp M))))] s.heap := hP
  have hl := lv_entry ([.ref (b 0), .int v_g]) (n := 2) (Nat.le_of_ble_eq_true rfl)
  rw [lg_entry_eq]
  generalize (lg_sl ([.ref (b 0), .int v_g]) ++ List.replicate (2 - (lg_sl ([.ref (b 0), .int v_g])).length) Slot.unset).toArray = ls at hl ⊢
  have hl : lv_has ls 2 [(0, .ref (b 0)), (1, .int v_g)] := hl
  refine lv_aload_n hx hb dX3_isVehicle_0 rfl (lv_at hl 0 rfl) ?_
  have cut_18 : ∀ (t_g : Int32), (t_g = if m_has M v_g then 0 else 1) → ∀ (H : Heap) (locs : List Loc), va_P G vwCl [((b 0), .inr (3, [.ref (b 1), .ref (b 2), .ref (b 3), .ref (b 4), .ref (b 5), .int (nI (m_n M)), .int (m_rp M), .int (m_mo M), .int (m_dr M), .int (m_th M), .ref (b 6), .ref (b 7), .ref (b 8), .ref (b 9), .ref (b 10), .ref (b 11), .ref (b 12), .int (nI (m_fm M)), .int (m_ff M)])), ((b 1), .inl (cI, 9, .inl (fN (m_sz M)))), ((b 2), .inl (cI, 9, .inl (fN (m_ac M)))), ((b 3), .inl (cI, 9, .inl (fN (m_li M)))), ((b 4), .inl (cI, 9, .inl (fN (m_pl M)))), ((b 5), .inl (cI, 9, .inl (fN (m_pk M)))), ((b 6), .inl (cI, 36, .inl (fN (m_yd M)))), ((b 7), .inl (cI, 800, .inl (fN (m_fo M)))), ((b 8), .inl (cI, 800, .inl (m_fr M))), ((b 9), .inl (cI, 800, .inl (fN (m_by M)))), ((b 10), .inl (cI, 800, .inl (fN (m_dp M)))), ((b 11), .inl (cI, 2048, .inl (fN (m_sl M)))), ((b 12), .inl (cI, 9, .inl (fN (m_kp M))))] H → va_D A [((b 0), .inr (3, [.ref (b 1), .ref (b 2), .ref (b 3), .ref (b 4), .ref (b 5), .int (nI (m_n M)), .int (m_rp M), .int (m_mo M), .int (m_dr M), .int (m_th M), .ref (b 6), .ref (b 7), .ref (b 8), .ref (b 9), .ref (b 10), .ref (b 11), .ref (b 12), .int (nI (m_fm M)), .int (m_ff M)])), ((b 1), .inl (cI, 9, .inl (fN (m_sz M)))), ((b 2), .inl (cI, 9, .inl (fN (m_ac M)))), ((b 3), .inl (cI, 9, .inl (fN (m_li M)))), ((b 4), .inl (cI, 9, .inl (fN (m_pl M)))), ((b 5), .inl (cI, 9, .inl (fN (m_pk M)))), ((b 6), .inl (cI, 36, .inl (fN (m_yd M)))), ((b 7), .inl (cI, 800, .inl (fN (m_fo M)))), ((b 8), .inl (cI, 800, .inl (m_fr M))), ((b 9), .inl (cI, 800, .inl (fN (m_by M)))), ((b 10), .inl (cI, 800, .inl (fN (m_dp M)))), ((b 11), .inl (cI, 2048, .inl (fN (m_sl M)))), ((b 12), .inl (cI, 9, .inl (fN (m_kp M))))] → va_S A s.heap H locs → ∀ (ls : Array Slot), lv_has ls 2 [(0, .ref (b 0)), (1, .int v_g)] → W p l e (headSpec wsX3_isVehicle ({ frames := 0, cells := 0, slots := 0, locals := 0 })).room s m ([.ref (b 0), .int v_g] : List Value).toArray below meth c H locs 0 0 (MQ below (va_Qi (fun (r : Int32) (u : MS) => r = (b1 (m_has M v_g)) ∧ u = (m_isv M v_g)) (fun (u : MS) (t : State) => va_P G vwCl ((fun u : MS => wM cI b u) u) t.heap ∧ va_D A ((fun u : MS => wM cI b u) u)) A) ([.ref (b 0), .int v_g] : List Value).toArray s 0 0 A) (F0 m 18 ls [.int t_g, .ref (b 0)]) := by
    intro t_g et_g H locs hP hD hS ls hl
    refine va_put (D := G) (ci := 3) (v := .int t_g) (ty := .int) (C := RX3) (T := TX3) (N := 19) hx hb hts in_X3_isVehicle_3 tyX3 tyX3_ok nmX3 hown hK hP hD hS 0 rfl rfl 9 (by decide) (hts (.fieldLink RX3 50 "RampJamModel" "thrown" "I") (by decide +kernel)) (fun _ h9 => h9) rfl (by decide +kernel) rfl rfl (Nat.le_of_ble_eq_true rfl) dX3_isVehicle_18 (fun H locs hP hD hS => ?_)
    have hP : va_P G vwCl [((b 0), .inr (3, [.ref (b 1), .ref (b 2), .ref (b 3), .ref (b 4), .ref (b 5), .int (nI (m_n M)), .int (m_rp M), .int (m_mo M), .int (m_dr M), .int t_g, .ref (b 6), .ref (b 7), .ref (b 8), .ref (b 9), .ref (b 10), .ref (b 11), .ref (b 12), .int (nI (m_fm M)), .int (m_ff M)])), ((b 1), .inl (cI, 9, .inl (fN (m_sz M)))), ((b 2), .inl (cI, 9, .inl (fN (m_ac M)))), ((b 3), .inl (cI, 9, .inl (fN (m_li M)))), ((b 4), .inl (cI, 9, .inl (fN (m_pl M)))), ((b 5), .inl (cI, 9, .inl (fN (m_pk M)))), ((b 6), .inl (cI, 36, .inl (fN (m_yd M)))), ((b 7), .inl (cI, 800, .inl (fN (m_fo M)))), ((b 8), .inl (cI, 800, .inl (m_fr M))), ((b 9), .inl (cI, 800, .inl (fN (m_by M)))), ((b 10), .inl (cI, 800, .inl (fN (m_dp M)))), ((b 11), .inl (cI, 2048, .inl (fN (m_sl M)))), ((b 12), .inl (cI, 9, .inl (fN (m_kp M))))] H := hP
    have hD : va_D A [((b 0), .inr (3, [.ref (b 1), .ref (b 2), .ref (b 3), .ref (b 4), .ref (b 5), .int (nI (m_n M)), .int (m_rp M), .int (m_mo M), .int (m_dr M), .int t_g, .ref (b 6), .ref (b 7), .ref (b 8), .ref (b 9), .ref (b 10), .ref (b 11), .ref (b 12), .int (nI (m_fm M)), .int (m_ff M)])), ((b 1), .inl (cI, 9, .inl (fN (m_sz M)))), ((b 2), .inl (cI, 9, .inl (fN (m_ac M)))), ((b 3), .inl (cI, 9, .inl (fN (m_li M)))), ((b 4), .inl (cI, 9, .inl (fN (m_pl M)))), ((b 5), .inl (cI, 9, .inl (fN (m_pk M)))), ((b 6), .inl (cI, 36, .inl (fN (m_yd M)))), ((b 7), .inl (cI, 800, .inl (fN (m_fo M)))), ((b 8), .inl (cI, 800, .inl (m_fr M))), ((b 9), .inl (cI, 800, .inl (fN (m_by M)))), ((b 10), .inl (cI, 800, .inl (fN (m_dp M)))), ((b 11), .inl (cI, 2048, .inl (fN (m_sl M)))), ((b 12), .inl (cI, 9, .inl (fN (m_kp M))))] := hD
    refine lv_aload_n hx hb dX3_isVehicle_21 rfl (lv_at hl 0 rfl) ?_
    refine va_get (D := G) (ci := 3) (v := .int t_g) (C := RX3) (T := TX3) (N := 19) hx hb hts in_X3_isVehicle_3 hown hK hP 0 rfl rfl 9 (by decide) (hts (.fieldLink RX3 50 "RampJamModel" "thrown" "I") (by decide +kernel)) (fun _ h9 => h9) rfl dX3_isVehicle_22 ?_
    refine lv_if_ne (tgt := 32) hx hb dX3_isVehicle_25 (by decide) (fun c_1 => ?_) (fun c_1 => ?_)
    · have hz := c_1
      refine lv_iconst (v := 0) hx hb dX3_isVehicle_32 (by decide) ?_
      have hP9 := hP
      have hD9 := hD
      exact W.zret (ty := .boolean) (v := 0) hx hb hr (rfl) (fun t ht hW => ⟨⟨0, (m_wTh M t_g), rfl, ⟨by rw [et_g] at hz; first | (rw [b1, if_pos (m_t01 hz)]) | (rw [b1, if_neg (m_t10 hz)]), by rw [m_isv, ← et_g]⟩, by rw [ht]; exact hP9, hD9⟩, hS.F ht⟩) hS.2.2 dX3_isVehicle_33
    · have hz := c_1
      refine lv_iconst (v := 1) hx hb dX3_isVehicle_28 (by decide) ?_
      refine lv_goto (tgt := 33) hx hb dX3_isVehicle_29 (by decide) ?_
      have hP9 := hP
      have hD9 := hD
      exact W.zret (ty := .boolean) (v := 1) hx hb hr (rfl) (fun t ht hW => ⟨⟨1, (m_wTh M t_g), rfl, ⟨by rw [et_g] at hz; first | (rw [b1, if_pos (m_t01 hz)]) | (rw [b1, if_neg (m_t10 hz)]), by rw [m_isv, ← et_g]⟩, by rw [ht]; exact hP9, hD9⟩, hS.F ht⟩) hS.2.2 dX3_isVehicle_33
  refine lv_iload_n hx hb dX3_isVehicle_1 rfl (lv_at hl 1 rfl) ?_
  refine lv_if_lt (tgt := 17) hx hb dX3_isVehicle_2 (by decide) (fun c_2 => ?_) (fun c_2 => ?_)
  · refine lv_iconst (v := 1) hx hb dX3_isVehicle_17 (by decide) ?_
    exact cut_18 1 (by first | rw [if_pos ⟨by assumption, by assumption⟩] | rw [if_neg (by rintro ⟨h1, h2⟩; contradiction)]) _ _ hP hD hS _ hl
  · refine lv_iload_n hx hb dX3_isVehicle_5 rfl (lv_at hl 1 rfl) ?_
    refine lv_aload_n hx hb dX3_isVehicle_6 rfl (lv_at hl 0 rfl) ?_
    refine va_get (D := G) (ci := 3) (v := .int (nI (m_n M))) (C := RX3) (T := TX3) (N := 19) hx hb hts in_X3_isVehicle_3 hown hK hP 0 rfl rfl 5 (by decide) (hts (.fieldLink RX3 53 "RampJamModel" "many" "I") (by decide +kernel)) (fun _ h9 => h9) rfl dX3_isVehicle_7 ?_
    refine lv_icmp_ge (tgt := 17) hx hb dX3_isVehicle_10 (by decide) (fun c_3 => ?_) (fun c_3 => ?_)
    · refine lv_iconst (v := 1) hx hb dX3_isVehicle_17 (by decide) ?_
      exact cut_18 1 (by first | rw [if_pos ⟨by assumption, by assumption⟩] | rw [if_neg (by rintro ⟨h1, h2⟩; contradiction)]) _ _ hP hD hS _ hl
    · refine lv_iconst (v := 0) hx hb dX3_isVehicle_13 (by decide) ?_
      refine lv_goto (tgt := 18) hx hb dX3_isVehicle_14 (by decide) ?_
      exact cut_18 0 (by first | rw [if_pos ⟨by assumption, by assumption⟩] | rw [if_neg (by rintro ⟨h1, h2⟩; contradiction)]) _ _ hP hD hS _ hl

theorem in_X3_laysYard_3 : ∀ w ∈ wsX30, w ∈ wsX3_laysYard := by decide +kernel
set_option maxHeartbeats 4000000 in
set_option maxRecDepth 100000 in
/-- RampJamModel.laysYard -/
theorem c_X3_laysYard (l : Launch) (G : va_G) (cI cZ cJ : ClassId) (b : Nat → Nat) (sz : Nat) (M : MS) (hok : m_ok M) : Met l yX3_laysYard wsX3_laysYard ({ frames := 1, cells := 0, slots := 0, locals := 22 }) (rw_Pc G [(cI, .int), (cZ, .boolean), (cJ, .long)] (wM cI b M) sz [.ref (b 0)]) (rw_Qv (S := MS) (m_lay M) (fun u : MS => wM cI b u) G (wM cI b M) sz) 0 0 (va_A (wM cI b M) sz) := by
  refine Met.ofW (cc := cX3_laysYard) (maxL := 3) (ret := none) (by decide) rfl ?_
  intro p e s m args below meth c s₁ B hml hv
  obtain ⟨rfl, hsz, hP, hK, hD0, hN⟩ := hv
  have hx := B.exec
  have hb := B.bytes
  have hr := B.returns
  have hts := atoms_spec (ws := wsX3_laysYard) B.pre
  have hown : s.vm.findClass RX3 = some m.cls := findClass_of_methodNamed B.named
  have hlocks := B.notSynchronized
  subst hsz
  have hD0 : va_D (fun _ => True) [((b 0), .inr (3, [.ref (b 1), .ref (b 2), .ref (b 3), .ref (b 4), .ref (b 5), .int (nI (m_n M)), .int (m_rp M), .int (m_mo M), .int (m_dr M), .int (m_th M), .ref (b 6), .ref (b 7), .ref (b 8), .ref (b 9), .ref (b 10), .ref (b 11), .ref (b 12), .int (nI (m_fm M)), .int (m_ff M)])), ((b 1), .inl (cI, 9, .inl (fN (m_sz M)))), ((b 2), .inl (cI, 9, .inl (fN (m_ac M)))), ((b 3), .inl (cI, 9, .inl (fN (m_li M)))), ((b 4), .inl (cI, 9, .inl (fN (m_pl M)))), ((b 5), .inl (cI, 9, .inl (fN (m_pk M)))), ((b 6), .inl (cI, 36, .inl (fN (m_yd M)))), ((b 7), .inl (cI, 800, .inl (fN (m_fo M)))), ((b 8), .inl (cI, 800, .inl (m_fr M))), ((b 9), .inl (cI, 800, .inl (fN (m_by M)))), ((b 10), .inl (cI, 800, .inl (fN (m_dp M)))), ((b 11), .inl (cI, 2048, .inl (fN (m_sl M)))), ((b 12), .inl (cI, 9, .inl (fN (m_kp M))))] := hD0
  have hD := hD0.self (sz := s.heap.size)
  unfold rw_Qv
  generalize hAe : va_A (wM cI b M) s.heap.size = A at hD ⊢
  have hA : ∀ q : Nat, s.heap.size ≤ q → A q := fun q h => by rw [← hAe]; exact Or.inr h
  have hS : va_S A s.heap s.heap [] := va_S.rf
  have hP : va_P G vwCl [((b 0), .inr (3, [.ref (b 1), .ref (b 2), .ref (b 3), .ref (b 4), .ref (b 5), .int (nI (m_n M)), .int (m_rp M), .int (m_mo M), .int (m_dr M), .int (m_th M), .ref (b 6), .ref (b 7), .ref (b 8), .ref (b 9), .ref (b 10), .ref (b 11), .ref (b 12), .int (nI (m_fm M)), .int (m_ff M)])), ((b 1), .inl (cI, 9, .inl (fN (m_sz M)))), ((b 2), .inl (cI, 9, .inl (fN (m_ac M)))), ((b 3), .inl (cI, 9, .inl (fN (m_li M)))), ((b 4), .inl (cI, 9, .inl (fN (m_pl M)))), ((b 5), .inl (cI, 9, .inl (fN (m_pk M)))), ((b 6), .inl (cI, 36, .inl (fN (m_yd M)))), ((b 7), .inl (cI, 800, .inl (fN (m_fo M)))), ((b 8), .inl (cI, 800, .inl (m_fr M))), ((b 9), .inl (cI, 800, .inl (fN (m_by M)))), ((b 10), .inl (cI, 800, .inl (fN (m_dp M)))), ((b 11), .inl (cI, 2048, .inl (fN (m_sl M)))), ((b 12), .inl (cI, 9, .inl (fN (m_kp M))))] s.heap := hP
  have hl := lv_entry ([.ref (b 0)]) (n := 3) (Nat.le_of_ble_eq_true rfl)
  rw [lg_entry_eq]
  generalize (lg_sl ([.ref (b 0)]) ++ List.replicate (3 - (lg_sl ([.ref (b 0)])).length) Slot.unset).toArray = ls at hl ⊢
  have hl : lv_has ls 3 [(0, .ref (b 0))] := hl
  have h9 := hok.1
  refine lv_iconst (v := 0) hx hb dX3_laysYard_0 (by decide) ?_
  refine lv_istore_n (lv' := [(1, .int 0), (0, .ref (b 0))]) hx hb dX3_laysYard_1 rfl hl (by decide) rfl (fun ls hl => ?_)
  have cut_2 : ∀ (d : Nat) (k_g : Nat), k_g ≤ 36 → 36 + 1 ≤ k_g + d → ∀ (H : Heap) (locs : List Loc), va_P G vwCl [((b 0), .inr (3, [.ref (b 1), .ref (b 2), .ref (b 3), .ref (b 4), .ref (b 5), .int (nI (m_n M)), .int (m_rp M), .int (m_mo M), .int (m_dr M), .int (m_th M), .ref (b 6), .ref (b 7), .ref (b 8), .ref (b 9), .ref (b 10), .ref (b 11), .ref (b 12), .int (nI (m_fm M)), .int (m_ff M)])), ((b 1), .inl (cI, 9, .inl (fN (m_sz M)))), ((b 2), .inl (cI, 9, .inl (fN (m_ac M)))), ((b 3), .inl (cI, 9, .inl (fN (m_li M)))), ((b 4), .inl (cI, 9, .inl (fN (m_pl M)))), ((b 5), .inl (cI, 9, .inl (fN (m_pk M)))), ((b 6), .inl (cI, 36, .inl (fN (fillN (m_yd M) k_g)))), ((b 7), .inl (cI, 800, .inl (fN (m_fo M)))), ((b 8), .inl (cI, 800, .inl (m_fr M))), ((b 9), .inl (cI, 800, .inl (fN (m_by M)))), ((b 10), .inl (cI, 800, .inl (fN (m_dp M)))), ((b 11), .inl (cI, 2048, .inl (fN (m_sl M)))), ((b 12), .inl (cI, 9, .inl (fN (m_kp M))))] H → va_D A [((b 0), .inr (3, [.ref (b 1), .ref (b 2), .ref (b 3), .ref (b 4), .ref (b 5), .int (nI (m_n M)), .int (m_rp M), .int (m_mo M), .int (m_dr M), .int (m_th M), .ref (b 6), .ref (b 7), .ref (b 8), .ref (b 9), .ref (b 10), .ref (b 11), .ref (b 12), .int (nI (m_fm M)), .int (m_ff M)])), ((b 1), .inl (cI, 9, .inl (fN (m_sz M)))), ((b 2), .inl (cI, 9, .inl (fN (m_ac M)))), ((b 3), .inl (cI, 9, .inl (fN (m_li M)))), ((b 4), .inl (cI, 9, .inl (fN (m_pl M)))), ((b 5), .inl (cI, 9, .inl (fN (m_pk M)))), ((b 6), .inl (cI, 36, .inl (fN (fillN (m_yd M) k_g)))), ((b 7), .inl (cI, 800, .inl (fN (m_fo M)))), ((b 8), .inl (cI, 800, .inl (m_fr M))), ((b 9), .inl (cI, 800, .inl (fN (m_by M)))), ((b 10), .inl (cI, 800, .inl (fN (m_dp M)))), ((b 11), .inl (cI, 2048, .inl (fN (m_sl M)))), ((b 12), .inl (cI, 9, .inl (fN (m_kp M))))] → va_S A s.heap H locs → ∀ (ls : Array Slot), lv_has ls 3 [(0, .ref (b 0)), (1, .int (nI k_g))] → W p l e (headSpec wsX3_laysYard ({ frames := 1, cells := 0, slots := 0, locals := 22 })).room s m ([.ref (b 0)] : List Value).toArray below meth c H locs 0 0 (MQ below (va_Qv (fun u : MS => u = (m_lay M)) (fun (u : MS) (t : State) => va_P G vwCl ((fun u : MS => wM cI b u) u) t.heap ∧ va_D A ((fun u : MS => wM cI b u) u)) A) ([.ref (b 0)] : List Value).toArray s 0 0 A) (F0 m 2 ls []) := by
    intro d
    induction d with
    | zero =>
      intro k_g hk_2 hd_2
      exact absurd hd_2 (by omega)
    | succ d ih_2 =>
      intro k_g hk_2 hd_2  H locs hP hD hS ls hl
      refine lv_iload_n hx hb dX3_laysYard_2 rfl (lv_at hl 1 rfl) ?_
      refine lv_bipush (v := 36) hx hb dX3_laysYard_3 (by decide) ?_
      refine lv_icmp_ge (tgt := 21) hx hb dX3_laysYard_5 (by decide) (fun c_1 => ?_) (fun c_1 => ?_)
      · have c_1 : 36 ≤ k_g := (nI_leI (a := 36) (b := k_g) (by omega) (by omega)).mp c_1
        refine lv_iconst (v := 0) hx hb dX3_laysYard_21 (by decide) ?_
        refine lv_istore_n (lv' := [(1, .int 0), (0, .ref (b 0))]) hx hb dX3_laysYard_22 rfl hl (by decide) rfl (fun ls hl => ?_)
        have cut_23 : ∀ (d : Nat) (v_g : Nat), v_g ≤ m_n M → m_n M + 1 ≤ v_g + d → ∀ (H : Heap) (locs : List Loc), va_P G vwCl [((b 0), .inr (3, [.ref (b 1), .ref (b 2), .ref (b 3), .ref (b 4), .ref (b 5), .int (nI (m_n M)), .int (m_rp M), .int (m_mo M), .int (m_dr M), .int (m_th M), .ref (b 6), .ref (b 7), .ref (b 8), .ref (b 9), .ref (b 10), .ref (b 11), .ref (b 12), .int (nI (m_fm M)), .int (m_ff M)])), ((b 1), .inl (cI, 9, .inl (fN (m_sz M)))), ((b 2), .inl (cI, 9, .inl (fN (m_ac M)))), ((b 3), .inl (cI, 9, .inl (fN (m_li M)))), ((b 4), .inl (cI, 9, .inl (fN (m_pl M)))), ((b 5), .inl (cI, 9, .inl (fN (m_pk M)))), ((b 6), .inl (cI, 36, .inl (fN (ly_v M (fillN (m_yd M) 36) v_g)))), ((b 7), .inl (cI, 800, .inl (fN (m_fo M)))), ((b 8), .inl (cI, 800, .inl (m_fr M))), ((b 9), .inl (cI, 800, .inl (fN (m_by M)))), ((b 10), .inl (cI, 800, .inl (fN (m_dp M)))), ((b 11), .inl (cI, 2048, .inl (fN (m_sl M)))), ((b 12), .inl (cI, 9, .inl (fN (m_kp M))))] H → va_D A [((b 0), .inr (3, [.ref (b 1), .ref (b 2), .ref (b 3), .ref (b 4), .ref (b 5), .int (nI (m_n M)), .int (m_rp M), .int (m_mo M), .int (m_dr M), .int (m_th M), .ref (b 6), .ref (b 7), .ref (b 8), .ref (b 9), .ref (b 10), .ref (b 11), .ref (b 12), .int (nI (m_fm M)), .int (m_ff M)])), ((b 1), .inl (cI, 9, .inl (fN (m_sz M)))), ((b 2), .inl (cI, 9, .inl (fN (m_ac M)))), ((b 3), .inl (cI, 9, .inl (fN (m_li M)))), ((b 4), .inl (cI, 9, .inl (fN (m_pl M)))), ((b 5), .inl (cI, 9, .inl (fN (m_pk M)))), ((b 6), .inl (cI, 36, .inl (fN (ly_v M (fillN (m_yd M) 36) v_g)))), ((b 7), .inl (cI, 800, .inl (fN (m_fo M)))), ((b 8), .inl (cI, 800, .inl (m_fr M))), ((b 9), .inl (cI, 800, .inl (fN (m_by M)))), ((b 10), .inl (cI, 800, .inl (fN (m_dp M)))), ((b 11), .inl (cI, 2048, .inl (fN (m_sl M)))), ((b 12), .inl (cI, 9, .inl (fN (m_kp M))))] → va_S A s.heap H locs → ∀ (ls : Array Slot), lv_has ls 3 [(0, .ref (b 0)), (1, .int (nI v_g))] → W p l e (headSpec wsX3_laysYard ({ frames := 1, cells := 0, slots := 0, locals := 22 })).room s m ([.ref (b 0)] : List Value).toArray below meth c H locs 0 0 (MQ below (va_Qv (fun u : MS => u = (m_lay M)) (fun (u : MS) (t : State) => va_P G vwCl ((fun u : MS => wM cI b u) u) t.heap ∧ va_D A ((fun u : MS => wM cI b u) u)) A) ([.ref (b 0)] : List Value).toArray s 0 0 A) (F0 m 23 ls []) := by
          intro d
          induction d with
          | zero =>
            intro v_g hk_23 hd_23
            exact absurd hd_23 (by omega)
          | succ d ih_23 =>
            intro v_g hk_23 hd_23  H locs hP hD hS ls hl
            refine lv_iload_n hx hb dX3_laysYard_23 rfl (lv_at hl 1 rfl) ?_
            refine lv_aload_n hx hb dX3_laysYard_24 rfl (lv_at hl 0 rfl) ?_
            refine va_get (D := G) (ci := 3) (v := .int (nI (m_n M))) (C := RX3) (T := TX3) (N := 19) hx hb hts in_X3_laysYard_3 hown hK hP 0 rfl rfl 5 (by decide) (hts (.fieldLink RX3 53 "RampJamModel" "many" "I") (by decide +kernel)) (fun _ h9 => h9) rfl dX3_laysYard_25 ?_
            refine lv_icmp_ge (tgt := 86) hx hb dX3_laysYard_28 (by decide) (fun c_2 => ?_) (fun c_2 => ?_)
            · have c_2 : (m_n M) ≤ v_g := (nI_leI (a := (m_n M)) (b := v_g) (by omega) (by omega)).mp c_2
              have hkn : v_g = m_n M := by omega
              have hP9 := hP
              have hD9 := hD
              exact W.vret hx hb hr (fun t ht hW => ⟨⟨((m_sz M), (m_ac M), (m_li M), (m_pl M), (m_pk M), (m_n M), (m_rp M), (m_mo M), (m_dr M), (m_th M), (ly_v M (fillN (m_yd M) 36) v_g), (m_fo M), (m_fr M), (m_by M), (m_dp M), (m_sl M), (m_kp M), (m_fm M), (m_ff M)), rfl, by rw [hkn]; rfl, by rw [ht]; exact hP9, hD9⟩, hS.F ht⟩) hS.2.2 dX3_laysYard_86
            · have c_2 : v_g < (m_n M) := Nat.not_le.mp (fun q => c_2 ((nI_leI (a := (m_n M)) (b := v_g) (by omega) (by omega)).mpr q))
              obtain ⟨b1_, b2_, b3_, b4_, b5_, b6_⟩ := hok.2.1 v_g (by omega)
              refine lv_iconst (v := 0) hx hb dX3_laysYard_31 (by decide) ?_
              refine lv_istore_n (lv' := [(2, .int 0), (0, .ref (b 0)), (1, .int (nI v_g))]) hx hb dX3_laysYard_32 rfl hl (by decide) rfl (fun ls hl => ?_)
              have cut_33 : ∀ (d : Nat) (j_g : Nat), j_g ≤ m_sz M v_g → m_sz M v_g + 1 ≤ j_g + d → ∀ (H : Heap) (locs : List Loc), va_P G vwCl [((b 0), .inr (3, [.ref (b 1), .ref (b 2), .ref (b 3), .ref (b 4), .ref (b 5), .int (nI (m_n M)), .int (m_rp M), .int (m_mo M), .int (m_dr M), .int (m_th M), .ref (b 6), .ref (b 7), .ref (b 8), .ref (b 9), .ref (b 10), .ref (b 11), .ref (b 12), .int (nI (m_fm M)), .int (m_ff M)])), ((b 1), .inl (cI, 9, .inl (fN (m_sz M)))), ((b 2), .inl (cI, 9, .inl (fN (m_ac M)))), ((b 3), .inl (cI, 9, .inl (fN (m_li M)))), ((b 4), .inl (cI, 9, .inl (fN (m_pl M)))), ((b 5), .inl (cI, 9, .inl (fN (m_pk M)))), ((b 6), .inl (cI, 36, .inl (fN (ly_k (m_ac M v_g) (m_li M v_g) (m_pl M v_g) (v_g + 1) (ly_v M (fillN (m_yd M) 36) v_g) j_g)))), ((b 7), .inl (cI, 800, .inl (fN (m_fo M)))), ((b 8), .inl (cI, 800, .inl (m_fr M))), ((b 9), .inl (cI, 800, .inl (fN (m_by M)))), ((b 10), .inl (cI, 800, .inl (fN (m_dp M)))), ((b 11), .inl (cI, 2048, .inl (fN (m_sl M)))), ((b 12), .inl (cI, 9, .inl (fN (m_kp M))))] H → va_D A [((b 0), .inr (3, [.ref (b 1), .ref (b 2), .ref (b 3), .ref (b 4), .ref (b 5), .int (nI (m_n M)), .int (m_rp M), .int (m_mo M), .int (m_dr M), .int (m_th M), .ref (b 6), .ref (b 7), .ref (b 8), .ref (b 9), .ref (b 10), .ref (b 11), .ref (b 12), .int (nI (m_fm M)), .int (m_ff M)])), ((b 1), .inl (cI, 9, .inl (fN (m_sz M)))), ((b 2), .inl (cI, 9, .inl (fN (m_ac M)))), ((b 3), .inl (cI, 9, .inl (fN (m_li M)))), ((b 4), .inl (cI, 9, .inl (fN (m_pl M)))), ((b 5), .inl (cI, 9, .inl (fN (m_pk M)))), ((b 6), .inl (cI, 36, .inl (fN (ly_k (m_ac M v_g) (m_li M v_g) (m_pl M v_g) (v_g + 1) (ly_v M (fillN (m_yd M) 36) v_g) j_g)))), ((b 7), .inl (cI, 800, .inl (fN (m_fo M)))), ((b 8), .inl (cI, 800, .inl (m_fr M))), ((b 9), .inl (cI, 800, .inl (fN (m_by M)))), ((b 10), .inl (cI, 800, .inl (fN (m_dp M)))), ((b 11), .inl (cI, 2048, .inl (fN (m_sl M)))), ((b 12), .inl (cI, 9, .inl (fN (m_kp M))))] → va_S A s.heap H locs → ∀ (ls : Array Slot), lv_has ls 3 [(0, .ref (b 0)), (1, .int (nI v_g)), (2, .int (nI j_g))] → W p l e (headSpec wsX3_laysYard ({ frames := 1, cells := 0, slots := 0, locals := 22 })).room s m ([.ref (b 0)] : List Value).toArray below meth c H locs 0 0 (MQ below (va_Qv (fun u : MS => u = (m_lay M)) (fun (u : MS) (t : State) => va_P G vwCl ((fun u : MS => wM cI b u) u) t.heap ∧ va_D A ((fun u : MS => wM cI b u) u)) A) ([.ref (b 0)] : List Value).toArray s 0 0 A) (F0 m 33 ls []) := by
                intro d
                induction d with
                | zero =>
                  intro j_g hk_33 hd_33
                  exact absurd hd_33 (by omega)
                | succ d ih_33 =>
                  intro j_g hk_33 hd_33  H locs hP hD hS ls hl
                  refine lv_iload_n hx hb dX3_laysYard_33 rfl (lv_at hl 2 rfl) ?_
                  refine lv_aload_n hx hb dX3_laysYard_34 rfl (lv_at hl 0 rfl) ?_
                  refine va_get (D := G) (ci := 3) (v := .ref (b 1)) (C := RX3) (T := TX3) (N := 19) hx hb hts in_X3_laysYard_3 hown hK hP 0 rfl rfl 0 (by decide) (hts (.fieldLink RX3 7 "RampJamModel" "cellsOf" "[I") (by decide +kernel)) (fun _ h9 => h9) rfl dX3_laysYard_35 ?_
                  refine lv_iload_n hx hb dX3_laysYard_38 rfl (lv_at hl 1 rfl) ?_
                  refine va_iald hx hb hK hP 1 0 rfl rfl (vp_in_nI (by omega) (by decide)) dX3_laysYard_39 ?_
                  rw [show (nI v_g).toNatClampNeg = v_g from nI_clamp (by omega)]
                  rw [show fN (m_sz M) v_g = (nI ((m_sz M) v_g)) from rfl]
                  refine lv_icmp_ge (tgt := 80) hx hb dX3_laysYard_40 (by decide) (fun c_3 => ?_) (fun c_3 => ?_)
                  · have c_3 : ((m_sz M) v_g) ≤ j_g := (nI_leI (a := ((m_sz M) v_g)) (b := j_g) (by omega) (by omega)).mp c_3
                    refine lv_iinc (v := (nI (v_g + 1))) (lv' := [(1, .int (nI (v_g + 1))), (0, .ref (b 0)), (2, .int (nI j_g))]) hx hb dX3_laysYard_80 hl (k := 1) rfl (nI_1 _) (by decide) rfl (fun ls hl => ?_)
                    refine lv_goto (tgt := 23) hx hb dX3_laysYard_83 (by decide) ?_
                    have hP : va_P G vwCl [((b 0), .inr (3, [.ref (b 1), .ref (b 2), .ref (b 3), .ref (b 4), .ref (b 5), .int (nI (m_n M)), .int (m_rp M), .int (m_mo M), .int (m_dr M), .int (m_th M), .ref (b 6), .ref (b 7), .ref (b 8), .ref (b 9), .ref (b 10), .ref (b 11), .ref (b 12), .int (nI (m_fm M)), .int (m_ff M)])), ((b 1), .inl (cI, 9, .inl (fN (m_sz M)))), ((b 2), .inl (cI, 9, .inl (fN (m_ac M)))), ((b 3), .inl (cI, 9, .inl (fN (m_li M)))), ((b 4), .inl (cI, 9, .inl (fN (m_pl M)))), ((b 5), .inl (cI, 9, .inl (fN (m_pk M)))), ((b 6), .inl (cI, 36, .inl (fN (ly_v M (fillN (m_yd M) 36) (v_g + 1))))), ((b 7), .inl (cI, 800, .inl (fN (m_fo M)))), ((b 8), .inl (cI, 800, .inl (m_fr M))), ((b 9), .inl (cI, 800, .inl (fN (m_by M)))), ((b 10), .inl (cI, 800, .inl (fN (m_dp M)))), ((b 11), .inl (cI, 2048, .inl (fN (m_sl M)))), ((b 12), .inl (cI, 9, .inl (fN (m_kp M))))] H := by rw [show j_g = m_sz M v_g by omega] at hP; exact hP
                    have hD : va_D A [((b 0), .inr (3, [.ref (b 1), .ref (b 2), .ref (b 3), .ref (b 4), .ref (b 5), .int (nI (m_n M)), .int (m_rp M), .int (m_mo M), .int (m_dr M), .int (m_th M), .ref (b 6), .ref (b 7), .ref (b 8), .ref (b 9), .ref (b 10), .ref (b 11), .ref (b 12), .int (nI (m_fm M)), .int (m_ff M)])), ((b 1), .inl (cI, 9, .inl (fN (m_sz M)))), ((b 2), .inl (cI, 9, .inl (fN (m_ac M)))), ((b 3), .inl (cI, 9, .inl (fN (m_li M)))), ((b 4), .inl (cI, 9, .inl (fN (m_pl M)))), ((b 5), .inl (cI, 9, .inl (fN (m_pk M)))), ((b 6), .inl (cI, 36, .inl (fN (ly_v M (fillN (m_yd M) 36) (v_g + 1))))), ((b 7), .inl (cI, 800, .inl (fN (m_fo M)))), ((b 8), .inl (cI, 800, .inl (m_fr M))), ((b 9), .inl (cI, 800, .inl (fN (m_by M)))), ((b 10), .inl (cI, 800, .inl (fN (m_dp M)))), ((b 11), .inl (cI, 2048, .inl (fN (m_sl M)))), ((b 12), .inl (cI, 9, .inl (fN (m_kp M))))] := by rw [show j_g = m_sz M v_g by omega] at hD; exact hD
                    exact ih_23 (v_g + 1) (by omega) (by omega) _ _ hP hD hS _ (lv_sub hl [1, 0] rfl)
                  · have c_3 : j_g < ((m_sz M) v_g) := Nat.not_le.mp (fun q => c_3 ((nI_leI (a := ((m_sz M) v_g)) (b := j_g) (by omega) (by omega)).mpr q))
                    have hcl : m_cl (m_ac M v_g) (m_li M v_g) (m_pl M v_g + j_g) < 36 := m_cl_lt (by omega) (by omega)
                    refine lv_aload_n hx hb dX3_laysYard_43 rfl (lv_at hl 0 rfl) ?_
                    refine va_get (D := G) (ci := 3) (v := .ref (b 6)) (C := RX3) (T := TX3) (N := 19) hx hb hts in_X3_laysYard_3 hown hK hP 0 rfl rfl 10 (by decide) (hts (.fieldLink RX3 29 "RampJamModel" "yard" "[I") (by decide +kernel)) (fun _ h9 => h9) rfl dX3_laysYard_44 ?_
                    refine lv_aload_n hx hb dX3_laysYard_47 rfl (lv_at hl 0 rfl) ?_
                    refine va_get (D := G) (ci := 3) (v := .ref (b 2)) (C := RX3) (T := TX3) (N := 19) hx hb hts in_X3_laysYard_3 hown hK hP 0 rfl rfl 1 (by decide) (hts (.fieldLink RX3 13 "RampJamModel" "isAcross" "[I") (by decide +kernel)) (fun _ h9 => h9) rfl dX3_laysYard_48 ?_
                    refine lv_iload_n hx hb dX3_laysYard_51 rfl (lv_at hl 1 rfl) ?_
                    refine va_iald hx hb hK hP 2 0 rfl rfl (vp_in_nI (by omega) (by decide)) dX3_laysYard_52 ?_
                    rw [show (nI v_g).toNatClampNeg = v_g from nI_clamp (by omega)]
                    rw [show fN (m_ac M) v_g = (nI ((m_ac M) v_g)) from rfl]
                    refine lv_aload_n hx hb dX3_laysYard_53 rfl (lv_at hl 0 rfl) ?_
                    refine va_get (D := G) (ci := 3) (v := .ref (b 3)) (C := RX3) (T := TX3) (N := 19) hx hb hts in_X3_laysYard_3 hown hK hP 0 rfl rfl 2 (by decide) (hts (.fieldLink RX3 16 "RampJamModel" "lineOf" "[I") (by decide +kernel)) (fun _ h9 => h9) rfl dX3_laysYard_54 ?_
                    refine lv_iload_n hx hb dX3_laysYard_57 rfl (lv_at hl 1 rfl) ?_
                    refine va_iald hx hb hK hP 3 0 rfl rfl (vp_in_nI (by omega) (by decide)) dX3_laysYard_58 ?_
                    rw [show (nI v_g).toNatClampNeg = v_g from nI_clamp (by omega)]
                    rw [show fN (m_li M) v_g = (nI ((m_li M) v_g)) from rfl]
                    refine lv_aload_n hx hb dX3_laysYard_59 rfl (lv_at hl 0 rfl) ?_
                    refine va_get (D := G) (ci := 3) (v := .ref (b 4)) (C := RX3) (T := TX3) (N := 19) hx hb hts in_X3_laysYard_3 hown hK hP 0 rfl rfl 3 (by decide) (hts (.fieldLink RX3 19 "RampJamModel" "place" "[I") (by decide +kernel)) (fun _ h9 => h9) rfl dX3_laysYard_60 ?_
                    refine lv_iload_n hx hb dX3_laysYard_63 rfl (lv_at hl 1 rfl) ?_
                    refine va_iald hx hb hK hP 4 0 rfl rfl (vp_in_nI (by omega) (by decide)) dX3_laysYard_64 ?_
                    rw [show (nI v_g).toNatClampNeg = v_g from nI_clamp (by omega)]
                    rw [show fN (m_pl M) v_g = (nI ((m_pl M) v_g)) from rfl]
                    refine lv_iload_n hx hb dX3_laysYard_65 rfl (lv_at hl 2 rfl) ?_
                    refine lv_iadd hx hb dX3_laysYard_66 ?_
                    rw [show ((nI ((m_pl M) v_g)) + (nI j_g) : Int32) = (nI (((m_pl M) v_g) + j_g)) from nI_add ((m_pl M) v_g) j_g]
                    refine ro_i (va_runS (As := [.int (nI ((m_ac M) v_g)), .int (nI ((m_li M) v_g)), .int (nI (((m_pl M) v_g) + j_g))]) (rest := [.ref (b 6)]) ⟨hx, hb, hml, hown, hts⟩ ((c_X3_cell l G cI cZ cJ b _ (nI ((m_ac M) v_g)) (nI ((m_li M) v_g)) (nI (((m_pl M) v_g) + j_g)))) (va_cwS 3 hts gX3_laysYard_X3_cell rfl rfl rfl (by decide +kernel) ⟨Nat.le_of_ble_eq_true rfl, Nat.le_of_ble_eq_true rfl⟩) ⟨ro_blind, ro_pre va_P0 hK hN⟩ rfl rfl hl.1 rfl (lv_room (Nat.le_of_ble_eq_true rfl)) dX3_laysYard_67 ⟨Nat.zero_le _, Nat.zero_le _⟩) hS hA hP (fun H locs hP hS => ?_)
                    rw [show m_cli (nI ((m_ac M) v_g)) (nI ((m_li M) v_g)) (nI (((m_pl M) v_g) + j_g)) = (nI (m_cl ((m_ac M) v_g) ((m_li M) v_g) (((m_pl M) v_g) + j_g))) from m_cli_nI (a := ((m_ac M) v_g)) (l := ((m_li M) v_g)) (g := (((m_pl M) v_g) + j_g)) (by omega)]
                    refine lv_iload_n hx hb dX3_laysYard_70 rfl (lv_at hl 1 rfl) ?_
                    refine lv_iconst (v := 1) hx hb dX3_laysYard_71 (by decide) ?_
                    refine lv_iadd hx hb dX3_laysYard_72 ?_
                    rw [show ((nI v_g) + 1 : Int32) = (nI (v_g + 1)) from nI_add v_g 1]
                    refine va_iast hx hb hK hP hD hS 6 0 rfl rfl (vp_in_nI (by omega) (by decide)) dX3_laysYard_73 (fun H locs hP hD hS => ?_)
                    rw [show (nI (m_cl ((m_ac M) v_g) ((m_li M) v_g) (((m_pl M) v_g) + j_g))).toNatClampNeg = (m_cl ((m_ac M) v_g) ((m_li M) v_g) (((m_pl M) v_g) + j_g)) from nI_clamp (by omega)] at hP hD
                    rw [fN_upd] at hP hD
                    have hP : va_P G vwCl [((b 0), .inr (3, [.ref (b 1), .ref (b 2), .ref (b 3), .ref (b 4), .ref (b 5), .int (nI (m_n M)), .int (m_rp M), .int (m_mo M), .int (m_dr M), .int (m_th M), .ref (b 6), .ref (b 7), .ref (b 8), .ref (b 9), .ref (b 10), .ref (b 11), .ref (b 12), .int (nI (m_fm M)), .int (m_ff M)])), ((b 1), .inl (cI, 9, .inl (fN (m_sz M)))), ((b 2), .inl (cI, 9, .inl (fN (m_ac M)))), ((b 3), .inl (cI, 9, .inl (fN (m_li M)))), ((b 4), .inl (cI, 9, .inl (fN (m_pl M)))), ((b 5), .inl (cI, 9, .inl (fN (m_pk M)))), ((b 6), .inl (cI, 36, .inl (fN (updN (ly_k (m_ac M v_g) (m_li M v_g) (m_pl M v_g) (v_g + 1) (ly_v M (fillN (m_yd M) 36) v_g) j_g) (m_cl ((m_ac M) v_g) ((m_li M) v_g) (((m_pl M) v_g) + j_g)) (v_g + 1))))), ((b 7), .inl (cI, 800, .inl (fN (m_fo M)))), ((b 8), .inl (cI, 800, .inl (m_fr M))), ((b 9), .inl (cI, 800, .inl (fN (m_by M)))), ((b 10), .inl (cI, 800, .inl (fN (m_dp M)))), ((b 11), .inl (cI, 2048, .inl (fN (m_sl M)))), ((b 12), .inl (cI, 9, .inl (fN (m_kp M))))] H := hP
                    have hD : va_D A [((b 0), .inr (3, [.ref (b 1), .ref (b 2), .ref (b 3), .ref (b 4), .ref (b 5), .int (nI (m_n M)), .int (m_rp M), .int (m_mo M), .int (m_dr M), .int (m_th M), .ref (b 6), .ref (b 7), .ref (b 8), .ref (b 9), .ref (b 10), .ref (b 11), .ref (b 12), .int (nI (m_fm M)), .int (m_ff M)])), ((b 1), .inl (cI, 9, .inl (fN (m_sz M)))), ((b 2), .inl (cI, 9, .inl (fN (m_ac M)))), ((b 3), .inl (cI, 9, .inl (fN (m_li M)))), ((b 4), .inl (cI, 9, .inl (fN (m_pl M)))), ((b 5), .inl (cI, 9, .inl (fN (m_pk M)))), ((b 6), .inl (cI, 36, .inl (fN (updN (ly_k (m_ac M v_g) (m_li M v_g) (m_pl M v_g) (v_g + 1) (ly_v M (fillN (m_yd M) 36) v_g) j_g) (m_cl ((m_ac M) v_g) ((m_li M) v_g) (((m_pl M) v_g) + j_g)) (v_g + 1))))), ((b 7), .inl (cI, 800, .inl (fN (m_fo M)))), ((b 8), .inl (cI, 800, .inl (m_fr M))), ((b 9), .inl (cI, 800, .inl (fN (m_by M)))), ((b 10), .inl (cI, 800, .inl (fN (m_dp M)))), ((b 11), .inl (cI, 2048, .inl (fN (m_sl M)))), ((b 12), .inl (cI, 9, .inl (fN (m_kp M))))] := hD
                    refine lv_iinc (v := (nI (j_g + 1))) (lv' := [(2, .int (nI (j_g + 1))), (0, .ref (b 0)), (1, .int (nI v_g))]) hx hb dX3_laysYard_74 hl (k := 2) rfl (nI_1 _) (by decide) rfl (fun ls hl => ?_)
                    refine lv_goto (tgt := 33) hx hb dX3_laysYard_77 (by decide) ?_
                    exact ih_33 (j_g + 1) (by omega) (by omega) _ _ hP hD hS _ (lv_sub hl [1, 2, 0] rfl)
              exact cut_33 (m_sz M v_g + 1) 0 (Nat.zero_le _) (by omega) _ _ hP hD hS _ (lv_sub hl [1, 2, 0] rfl)
        have hP : va_P G vwCl [((b 0), .inr (3, [.ref (b 1), .ref (b 2), .ref (b 3), .ref (b 4), .ref (b 5), .int (nI (m_n M)), .int (m_rp M), .int (m_mo M), .int (m_dr M), .int (m_th M), .ref (b 6), .ref (b 7), .ref (b 8), .ref (b 9), .ref (b 10), .ref (b 11), .ref (b 12), .int (nI (m_fm M)), .int (m_ff M)])), ((b 1), .inl (cI, 9, .inl (fN (m_sz M)))), ((b 2), .inl (cI, 9, .inl (fN (m_ac M)))), ((b 3), .inl (cI, 9, .inl (fN (m_li M)))), ((b 4), .inl (cI, 9, .inl (fN (m_pl M)))), ((b 5), .inl (cI, 9, .inl (fN (m_pk M)))), ((b 6), .inl (cI, 36, .inl (fN (ly_v M (fillN (m_yd M) 36) 0)))), ((b 7), .inl (cI, 800, .inl (fN (m_fo M)))), ((b 8), .inl (cI, 800, .inl (m_fr M))), ((b 9), .inl (cI, 800, .inl (fN (m_by M)))), ((b 10), .inl (cI, 800, .inl (fN (m_dp M)))), ((b 11), .inl (cI, 2048, .inl (fN (m_sl M)))), ((b 12), .inl (cI, 9, .inl (fN (m_kp M))))] H := by rw [show k_g = 36 by omega] at hP; exact hP
        have hD : va_D A [((b 0), .inr (3, [.ref (b 1), .ref (b 2), .ref (b 3), .ref (b 4), .ref (b 5), .int (nI (m_n M)), .int (m_rp M), .int (m_mo M), .int (m_dr M), .int (m_th M), .ref (b 6), .ref (b 7), .ref (b 8), .ref (b 9), .ref (b 10), .ref (b 11), .ref (b 12), .int (nI (m_fm M)), .int (m_ff M)])), ((b 1), .inl (cI, 9, .inl (fN (m_sz M)))), ((b 2), .inl (cI, 9, .inl (fN (m_ac M)))), ((b 3), .inl (cI, 9, .inl (fN (m_li M)))), ((b 4), .inl (cI, 9, .inl (fN (m_pl M)))), ((b 5), .inl (cI, 9, .inl (fN (m_pk M)))), ((b 6), .inl (cI, 36, .inl (fN (ly_v M (fillN (m_yd M) 36) 0)))), ((b 7), .inl (cI, 800, .inl (fN (m_fo M)))), ((b 8), .inl (cI, 800, .inl (m_fr M))), ((b 9), .inl (cI, 800, .inl (fN (m_by M)))), ((b 10), .inl (cI, 800, .inl (fN (m_dp M)))), ((b 11), .inl (cI, 2048, .inl (fN (m_sl M)))), ((b 12), .inl (cI, 9, .inl (fN (m_kp M))))] := by rw [show k_g = 36 by omega] at hD; exact hD
        exact cut_23 (m_n M + 1) 0 (Nat.zero_le _) (by omega) _ _ hP hD hS _ (lv_sub hl [1, 0] rfl)
      · have c_1 : k_g < 36 := Nat.not_le.mp (fun q => c_1 ((nI_leI (a := 36) (b := k_g) (by omega) (by omega)).mpr q))
        refine lv_aload_n hx hb dX3_laysYard_8 rfl (lv_at hl 0 rfl) ?_
        refine va_get (D := G) (ci := 3) (v := .ref (b 6)) (C := RX3) (T := TX3) (N := 19) hx hb hts in_X3_laysYard_3 hown hK hP 0 rfl rfl 10 (by decide) (hts (.fieldLink RX3 29 "RampJamModel" "yard" "[I") (by decide +kernel)) (fun _ h9 => h9) rfl dX3_laysYard_9 ?_
        refine lv_iload_n hx hb dX3_laysYard_12 rfl (lv_at hl 1 rfl) ?_
        refine lv_iconst (v := 0) hx hb dX3_laysYard_13 (by decide) ?_
        refine va_iast hx hb hK hP hD hS 6 0 rfl rfl (vp_in_nI (by omega) (by decide)) dX3_laysYard_14 (fun H locs hP hD hS => ?_)
        rw [show (nI k_g).toNatClampNeg = k_g from nI_clamp (by omega)] at hP hD
        rw [show (0 : Int32) = nI 0 from rfl] at hP hD
        rw [fN_upd] at hP hD
        have hP : va_P G vwCl [((b 0), .inr (3, [.ref (b 1), .ref (b 2), .ref (b 3), .ref (b 4), .ref (b 5), .int (nI (m_n M)), .int (m_rp M), .int (m_mo M), .int (m_dr M), .int (m_th M), .ref (b 6), .ref (b 7), .ref (b 8), .ref (b 9), .ref (b 10), .ref (b 11), .ref (b 12), .int (nI (m_fm M)), .int (m_ff M)])), ((b 1), .inl (cI, 9, .inl (fN (m_sz M)))), ((b 2), .inl (cI, 9, .inl (fN (m_ac M)))), ((b 3), .inl (cI, 9, .inl (fN (m_li M)))), ((b 4), .inl (cI, 9, .inl (fN (m_pl M)))), ((b 5), .inl (cI, 9, .inl (fN (m_pk M)))), ((b 6), .inl (cI, 36, .inl (fN (updN (fillN (m_yd M) k_g) k_g 0)))), ((b 7), .inl (cI, 800, .inl (fN (m_fo M)))), ((b 8), .inl (cI, 800, .inl (m_fr M))), ((b 9), .inl (cI, 800, .inl (fN (m_by M)))), ((b 10), .inl (cI, 800, .inl (fN (m_dp M)))), ((b 11), .inl (cI, 2048, .inl (fN (m_sl M)))), ((b 12), .inl (cI, 9, .inl (fN (m_kp M))))] H := hP
        have hD : va_D A [((b 0), .inr (3, [.ref (b 1), .ref (b 2), .ref (b 3), .ref (b 4), .ref (b 5), .int (nI (m_n M)), .int (m_rp M), .int (m_mo M), .int (m_dr M), .int (m_th M), .ref (b 6), .ref (b 7), .ref (b 8), .ref (b 9), .ref (b 10), .ref (b 11), .ref (b 12), .int (nI (m_fm M)), .int (m_ff M)])), ((b 1), .inl (cI, 9, .inl (fN (m_sz M)))), ((b 2), .inl (cI, 9, .inl (fN (m_ac M)))), ((b 3), .inl (cI, 9, .inl (fN (m_li M)))), ((b 4), .inl (cI, 9, .inl (fN (m_pl M)))), ((b 5), .inl (cI, 9, .inl (fN (m_pk M)))), ((b 6), .inl (cI, 36, .inl (fN (updN (fillN (m_yd M) k_g) k_g 0)))), ((b 7), .inl (cI, 800, .inl (fN (m_fo M)))), ((b 8), .inl (cI, 800, .inl (m_fr M))), ((b 9), .inl (cI, 800, .inl (fN (m_by M)))), ((b 10), .inl (cI, 800, .inl (fN (m_dp M)))), ((b 11), .inl (cI, 2048, .inl (fN (m_sl M)))), ((b 12), .inl (cI, 9, .inl (fN (m_kp M))))] := hD
        refine lv_iinc (v := (nI (k_g + 1))) (lv' := [(1, .int (nI (k_g + 1))), (0, .ref (b 0))]) hx hb dX3_laysYard_15 hl (k := 1) rfl (nI_1 _) (by decide) rfl (fun ls hl => ?_)
        refine lv_goto (tgt := 2) hx hb dX3_laysYard_18 (by decide) ?_
        rw [fillN_s] at hP hD
        exact ih_2 (k_g + 1) (by omega) (by omega) _ _ hP hD hS _ (lv_sub hl [1, 0] rfl)
  rw [← fillN_0 (m_yd M)] at hP hD
  exact cut_2 (36 + 1) 0 (Nat.zero_le _) (by omega) _ _ hP hD hS _ (lv_sub hl [1, 0] rfl)

theorem in_X3_isOpen_3 : ∀ w ∈ wsX30, w ∈ wsX3_isOpen := by decide +kernel
set_option maxHeartbeats 4000000 in
set_option maxRecDepth 100000 in
/-- RampJamModel.isOpen -/
theorem c_X3_isOpen (l : Launch) (G : va_G) (cI cZ cJ : ClassId) (b : Nat → Nat) (sz : Nat) (M : MS) (v_g : Nat) (x_g : Int32) (hok : m_ok M) (hv : v_g < m_n M) : Met l yX3_isOpen wsX3_isOpen ({ frames := 1, cells := 0, slots := 0, locals := 22 }) (ro_Pc G [(cI, .int), (cZ, .boolean), (cJ, .long)] (wM cI b M) sz [.ref (b 0), .int (nI v_g), .int x_g]) (ro_Qi (b1 (m_opn M v_g x_g)) sz) 0 0 (ro_A sz) := by
  refine Met.ofW (cc := cX3_isOpen) (maxL := 4) (ret := (some .boolean)) (by decide) rfl ?_
  intro p e s m args below meth c s₁ B hml hv
  obtain ⟨rfl, hsz, hP, hK, hN⟩ := hv
  have hx := B.exec
  have hb := B.bytes
  have hr := B.returns
  have hts := atoms_spec (ws := wsX3_isOpen) B.pre
  have hown : s.vm.findClass RX3 = some m.cls := findClass_of_methodNamed B.named
  have hlocks := B.notSynchronized
  subst hsz
  have hA : ∀ q : Nat, s.heap.size ≤ q → (ro_A s.heap.size) q := fun _ h => h
  have hS : va_S (ro_A s.heap.size) s.heap s.heap [] := va_S.rf
  have hP : va_P G vwCl [((b 0), .inr (3, [.ref (b 1), .ref (b 2), .ref (b 3), .ref (b 4), .ref (b 5), .int (nI (m_n M)), .int (m_rp M), .int (m_mo M), .int (m_dr M), .int (m_th M), .ref (b 6), .ref (b 7), .ref (b 8), .ref (b 9), .ref (b 10), .ref (b 11), .ref (b 12), .int (nI (m_fm M)), .int (m_ff M)])), ((b 1), .inl (cI, 9, .inl (fN (m_sz M)))), ((b 2), .inl (cI, 9, .inl (fN (m_ac M)))), ((b 3), .inl (cI, 9, .inl (fN (m_li M)))), ((b 4), .inl (cI, 9, .inl (fN (m_pl M)))), ((b 5), .inl (cI, 9, .inl (fN (m_pk M)))), ((b 6), .inl (cI, 36, .inl (fN (m_yd M)))), ((b 7), .inl (cI, 800, .inl (fN (m_fo M)))), ((b 8), .inl (cI, 800, .inl (m_fr M))), ((b 9), .inl (cI, 800, .inl (fN (m_by M)))), ((b 10), .inl (cI, 800, .inl (fN (m_dp M)))), ((b 11), .inl (cI, 2048, .inl (fN (m_sl M)))), ((b 12), .inl (cI, 9, .inl (fN (m_kp M))))] s.heap := hP
  have hl := lv_entry ([.ref (b 0), .int (nI v_g), .int x_g]) (n := 4) (Nat.le_of_ble_eq_true rfl)
  rw [lg_entry_eq]
  generalize (lg_sl ([.ref (b 0), .int (nI v_g), .int x_g]) ++ List.replicate (4 - (lg_sl ([.ref (b 0), .int (nI v_g), .int x_g])).length) Slot.unset).toArray = ls at hl ⊢
  have hl : lv_has ls 4 [(0, .ref (b 0)), (1, .int (nI v_g)), (2, .int x_g)] := hl
  have h9 := hok.1
  obtain ⟨b1_, b2_, b3_, b4_, b5_, b6_⟩ := hok.2.1 v_g hv
  refine lv_iload_n hx hb dX3_isOpen_0 rfl (lv_at hl 2 rfl) ?_
  refine ro_i (va_runS (As := [.int x_g]) (rest := []) ⟨hx, hb, hml, hown, hts⟩ ((c_X3_isLine l G cI cZ cJ b _ x_g)) (va_cwS 1 hts gX3_isOpen_X3_isLine rfl rfl rfl (by decide +kernel) ⟨Nat.le_of_ble_eq_true rfl, Nat.le_of_ble_eq_true rfl⟩) ⟨ro_blind, ro_pre va_P0 hK hN⟩ rfl rfl hl.1 rfl (lv_room (Nat.le_of_ble_eq_true rfl)) dX3_isOpen_1 ⟨Nat.zero_le _, Nat.zero_le _⟩) hS hA hP (fun H locs hP hS => ?_)
  refine lv_if_ne (tgt := 9) hx hb dX3_isOpen_4 (by decide) (fun c_1 => ?_) (fun c_1 => ?_)
  · have c_1 := b1_t c_1
    have hin := c_1
    have hyb : m_yd M (m_cli (nI (m_ac M v_g)) (nI (m_li M v_g)) x_g).toNatClampNeg ≤ 9 := hok.2.2 _ (Nat.not_le.mp fun q => (m_cli_in (by omega) (by omega) hin) (Or.inr q))
    refine lv_aload_n hx hb dX3_isOpen_9 rfl (lv_at hl 0 rfl) ?_
    refine va_get (D := G) (ci := 3) (v := .ref (b 2)) (C := RX3) (T := TX3) (N := 19) hx hb hts in_X3_isOpen_3 hown hK hP 0 rfl rfl 1 (by decide) (hts (.fieldLink RX3 13 "RampJamModel" "isAcross" "[I") (by decide +kernel)) (fun _ h9 => h9) rfl dX3_isOpen_10 ?_
    refine lv_iload_n hx hb dX3_isOpen_13 rfl (lv_at hl 1 rfl) ?_
    refine va_iald hx hb hK hP 2 0 rfl rfl (vp_in_nI (by omega) (by decide)) dX3_isOpen_14 ?_
    rw [show (nI v_g).toNatClampNeg = v_g from nI_clamp (by omega)]
    rw [show fN (m_ac M) v_g = (nI ((m_ac M) v_g)) from rfl]
    refine lv_aload_n hx hb dX3_isOpen_15 rfl (lv_at hl 0 rfl) ?_
    refine va_get (D := G) (ci := 3) (v := .ref (b 3)) (C := RX3) (T := TX3) (N := 19) hx hb hts in_X3_isOpen_3 hown hK hP 0 rfl rfl 2 (by decide) (hts (.fieldLink RX3 16 "RampJamModel" "lineOf" "[I") (by decide +kernel)) (fun _ h9 => h9) rfl dX3_isOpen_16 ?_
    refine lv_iload_n hx hb dX3_isOpen_19 rfl (lv_at hl 1 rfl) ?_
    refine va_iald hx hb hK hP 3 0 rfl rfl (vp_in_nI (by omega) (by decide)) dX3_isOpen_20 ?_
    rw [show (nI v_g).toNatClampNeg = v_g from nI_clamp (by omega)]
    rw [show fN (m_li M) v_g = (nI ((m_li M) v_g)) from rfl]
    refine lv_iload_n hx hb dX3_isOpen_21 rfl (lv_at hl 2 rfl) ?_
    refine ro_i (va_runS (As := [.int (nI ((m_ac M) v_g)), .int (nI ((m_li M) v_g)), .int x_g]) (rest := []) ⟨hx, hb, hml, hown, hts⟩ ((c_X3_cell l G cI cZ cJ b _ (nI ((m_ac M) v_g)) (nI ((m_li M) v_g)) x_g)) (va_cwS 3 hts gX3_isOpen_X3_cell rfl rfl rfl (by decide +kernel) ⟨Nat.le_of_ble_eq_true rfl, Nat.le_of_ble_eq_true rfl⟩) ⟨ro_blind, ro_pre va_P0 hK hN⟩ rfl rfl hl.1 rfl (lv_room (Nat.le_of_ble_eq_true rfl)) dX3_isOpen_22 ⟨Nat.zero_le _, Nat.zero_le _⟩) hS hA hP (fun H locs hP hS => ?_)
    refine lv_istore_n (lv' := [(3, .int (m_cli (nI ((m_ac M) v_g)) (nI ((m_li M) v_g)) x_g)), (0, .ref (b 0)), (1, .int (nI v_g)), (2, .int x_g)]) hx hb dX3_isOpen_25 rfl hl (by decide) rfl (fun ls hl => ?_)
    refine lv_aload_n hx hb dX3_isOpen_26 rfl (lv_at hl 1 rfl) ?_
    refine va_get (D := G) (ci := 3) (v := .ref (b 6)) (C := RX3) (T := TX3) (N := 19) hx hb hts in_X3_isOpen_3 hown hK hP 0 rfl rfl 10 (by decide) (hts (.fieldLink RX3 29 "RampJamModel" "yard" "[I") (by decide +kernel)) (fun _ h9 => h9) rfl dX3_isOpen_27 ?_
    refine lv_iload_n hx hb dX3_isOpen_30 rfl (lv_at hl 0 rfl) ?_
    refine va_iald hx hb hK hP 6 0 rfl rfl (m_cli_in (by omega) (by omega) hin) dX3_isOpen_31 ?_
    rw [show fN (m_yd M) ((m_cli (nI ((m_ac M) v_g)) (nI ((m_li M) v_g)) x_g).toNatClampNeg) = (nI ((m_yd M) ((m_cli (nI ((m_ac M) v_g)) (nI ((m_li M) v_g)) x_g).toNatClampNeg))) from rfl]
    refine lv_if_ne (tgt := 57) hx hb dX3_isOpen_32 (by decide) (fun c_2 => ?_) (fun c_2 => ?_)
    · have c_2 : ¬ ((m_yd M) ((m_cli (nI ((m_ac M) v_g)) (nI ((m_li M) v_g)) x_g).toNatClampNeg)) = 0 := fun q => c_2 ((nI_eq (a := ((m_yd M) ((m_cli (nI ((m_ac M) v_g)) (nI ((m_li M) v_g)) x_g).toNatClampNeg))) (b := 0) (by omega) (by omega)).mpr q)
      refine lv_iconst (v := 0) hx hb dX3_isOpen_57 (by decide) ?_
      exact W.zret (ty := .boolean) (v := 0) hx hb hr (rfl) (fun t ht hW => ⟨⟨0, (), rfl, by first | rw [b1, if_pos ⟨hin, by assumption, by first | exact Or.inl (by assumption) | exact Or.inr (by assumption)⟩] | (rw [b1, if_neg]; rintro ⟨h1, h2, h3⟩; first | contradiction | (rcases h3 with h | h <;> contradiction)), trivial⟩, hS.F ht⟩) hS.2.2 dX3_isOpen_58
    · have c_2 : ((m_yd M) ((m_cli (nI ((m_ac M) v_g)) (nI ((m_li M) v_g)) x_g).toNatClampNeg)) = 0 := (nI_eq (a := ((m_yd M) ((m_cli (nI ((m_ac M) v_g)) (nI ((m_li M) v_g)) x_g).toNatClampNeg))) (b := 0) (by omega) (by omega)).mp c_2
      refine lv_aload_n hx hb dX3_isOpen_35 rfl (lv_at hl 1 rfl) ?_
      refine va_get (D := G) (ci := 3) (v := .ref (b 1)) (C := RX3) (T := TX3) (N := 19) hx hb hts in_X3_isOpen_3 hown hK hP 0 rfl rfl 0 (by decide) (hts (.fieldLink RX3 7 "RampJamModel" "cellsOf" "[I") (by decide +kernel)) (fun _ h9 => h9) rfl dX3_isOpen_36 ?_
      refine lv_iload_n hx hb dX3_isOpen_39 rfl (lv_at hl 2 rfl) ?_
      refine va_iald hx hb hK hP 1 0 rfl rfl (vp_in_nI (by omega) (by decide)) dX3_isOpen_40 ?_
      rw [show (nI v_g).toNatClampNeg = v_g from nI_clamp (by omega)]
      rw [show fN (m_sz M) v_g = (nI ((m_sz M) v_g)) from rfl]
      refine lv_iconst (v := 2) hx hb dX3_isOpen_41 (by decide) ?_
      refine lv_icmp_eq (tgt := 53) hx hb dX3_isOpen_42 (by decide) (fun c_3 => ?_) (fun c_3 => ?_)
      · have c_3 : ((m_sz M) v_g) = 2 := (nI_eq (a := ((m_sz M) v_g)) (b := 2) (by omega) (by omega)).mp c_3
        have h2 : m_sz M v_g = 2 := c_3
        refine lv_iconst (v := 1) hx hb dX3_isOpen_53 (by decide) ?_
        refine lv_goto (tgt := 58) hx hb dX3_isOpen_54 (by decide) ?_
        exact W.zret (ty := .boolean) (v := 1) hx hb hr (rfl) (fun t ht hW => ⟨⟨1, (), rfl, by first | rw [b1, if_pos ⟨hin, by assumption, by first | exact Or.inl (by assumption) | exact Or.inr (by assumption)⟩] | (rw [b1, if_neg]; rintro ⟨h1, h2, h3⟩; first | contradiction | (rcases h3 with h | h <;> contradiction)), trivial⟩, hS.F ht⟩) hS.2.2 dX3_isOpen_58
      · have c_3 : ¬ ((m_sz M) v_g) = 2 := fun q => c_3 ((nI_eq (a := ((m_sz M) v_g)) (b := 2) (by omega) (by omega)).mpr q)
        refine lv_iload_n hx hb dX3_isOpen_45 rfl (lv_at hl 0 rfl) ?_
        refine lv_aload_n hx hb dX3_isOpen_46 rfl (lv_at hl 1 rfl) ?_
        refine va_get (D := G) (ci := 3) (v := .int (m_rp M)) (C := RX3) (T := TX3) (N := 19) hx hb hts in_X3_isOpen_3 hown hK hP 0 rfl rfl 6 (by decide) (hts (.fieldLink RX3 25 "RampJamModel" "rampAt" "I") (by decide +kernel)) (fun _ h9 => h9) rfl dX3_isOpen_47 ?_
        refine lv_icmp_eq (tgt := 57) hx hb dX3_isOpen_50 (by decide) (fun c_4 => ?_) (fun c_4 => ?_)
        · refine lv_iconst (v := 0) hx hb dX3_isOpen_57 (by decide) ?_
          exact W.zret (ty := .boolean) (v := 0) hx hb hr (rfl) (fun t ht hW => ⟨⟨0, (), rfl, by first | rw [b1, if_pos ⟨hin, by assumption, by first | exact Or.inl (by assumption) | exact Or.inr (by assumption)⟩] | (rw [b1, if_neg]; rintro ⟨h1, h2, h3⟩; first | contradiction | (rcases h3 with h | h <;> contradiction)), trivial⟩, hS.F ht⟩) hS.2.2 dX3_isOpen_58
        · refine lv_iconst (v := 1) hx hb dX3_isOpen_53 (by decide) ?_
          refine lv_goto (tgt := 58) hx hb dX3_isOpen_54 (by decide) ?_
          exact W.zret (ty := .boolean) (v := 1) hx hb hr (rfl) (fun t ht hW => ⟨⟨1, (), rfl, by first | rw [b1, if_pos ⟨hin, by assumption, by first | exact Or.inl (by assumption) | exact Or.inr (by assumption)⟩] | (rw [b1, if_neg]; rintro ⟨h1, h2, h3⟩; first | contradiction | (rcases h3 with h | h <;> contradiction)), trivial⟩, hS.F ht⟩) hS.2.2 dX3_isOpen_58
  · have c_1 := b1_f c_1
    refine lv_iconst (v := 0) hx hb dX3_isOpen_7 (by decide) ?_
    exact W.zret (ty := .boolean) (v := 0) hx hb hr (rfl) (fun t ht hW => ⟨⟨0, (), rfl, by rw [b1, if_neg (fun h => c_1 h.1)], trivial⟩, hS.F ht⟩) hS.2.2 dX3_isOpen_8

theorem in_X3_way_3 : ∀ w ∈ wsX30, w ∈ wsX3_way := by decide +kernel
set_option maxHeartbeats 4000000 in
set_option maxRecDepth 100000 in
/-- RampJamModel.way -/
theorem c_X3_way (l : Launch) (G : va_G) (cI cZ cJ : ClassId) (b : Nat → Nat) (sz : Nat) (M : MS) (v_g : Nat) (f_g : Int32) (hok : m_ok M) (hv : v_g < m_n M) : Met l yX3_way wsX3_way ({ frames := 2, cells := 0, slots := 0, locals := 45 }) (ro_Pc G [(cI, .int), (cZ, .boolean), (cJ, .long)] (wM cI b M) sz [.ref (b 0), .int (nI v_g), .int f_g]) (ro_Qi (nI (m_wy M v_g f_g)) sz) 0 0 (ro_A sz) := by
  refine Met.ofW (cc := cX3_way) (maxL := 4) (ret := (some .int)) (by decide) rfl ?_
  intro p e s m args below meth c s₁ B hml hv
  obtain ⟨rfl, hsz, hP, hK, hN⟩ := hv
  have hx := B.exec
  have hb := B.bytes
  have hr := B.returns
  have hts := atoms_spec (ws := wsX3_way) B.pre
  have hown : s.vm.findClass RX3 = some m.cls := findClass_of_methodNamed B.named
  have hlocks := B.notSynchronized
  subst hsz
  have hA : ∀ q : Nat, s.heap.size ≤ q → (ro_A s.heap.size) q := fun _ h => h
  have hS : va_S (ro_A s.heap.size) s.heap s.heap [] := va_S.rf
  have hP : va_P G vwCl [((b 0), .inr (3, [.ref (b 1), .ref (b 2), .ref (b 3), .ref (b 4), .ref (b 5), .int (nI (m_n M)), .int (m_rp M), .int (m_mo M), .int (m_dr M), .int (m_th M), .ref (b 6), .ref (b 7), .ref (b 8), .ref (b 9), .ref (b 10), .ref (b 11), .ref (b 12), .int (nI (m_fm M)), .int (m_ff M)])), ((b 1), .inl (cI, 9, .inl (fN (m_sz M)))), ((b 2), .inl (cI, 9, .inl (fN (m_ac M)))), ((b 3), .inl (cI, 9, .inl (fN (m_li M)))), ((b 4), .inl (cI, 9, .inl (fN (m_pl M)))), ((b 5), .inl (cI, 9, .inl (fN (m_pk M)))), ((b 6), .inl (cI, 36, .inl (fN (m_yd M)))), ((b 7), .inl (cI, 800, .inl (fN (m_fo M)))), ((b 8), .inl (cI, 800, .inl (m_fr M))), ((b 9), .inl (cI, 800, .inl (fN (m_by M)))), ((b 10), .inl (cI, 800, .inl (fN (m_dp M)))), ((b 11), .inl (cI, 2048, .inl (fN (m_sl M)))), ((b 12), .inl (cI, 9, .inl (fN (m_kp M))))] s.heap := hP
  have hl := lv_entry ([.ref (b 0), .int (nI v_g), .int f_g]) (n := 4) (Nat.le_of_ble_eq_true rfl)
  rw [lg_entry_eq]
  generalize (lg_sl ([.ref (b 0), .int (nI v_g), .int f_g]) ++ List.replicate (4 - (lg_sl ([.ref (b 0), .int (nI v_g), .int f_g])).length) Slot.unset).toArray = ls at hl ⊢
  have hl : lv_has ls 4 [(0, .ref (b 0)), (1, .int (nI v_g)), (2, .int f_g)] := hl
  have h9 := hok.1
  obtain ⟨b1_, b2_, b3_, b4_, b5_, b6_⟩ := hok.2.1 v_g hv
  refine lv_iconst (v := 0) hx hb dX3_way_0 (by decide) ?_
  refine lv_istore_n (lv' := [(3, .int 0), (0, .ref (b 0)), (1, .int (nI v_g)), (2, .int f_g)]) hx hb dX3_way_1 rfl hl (by decide) rfl (fun ls hl => ?_)
  have cut_2 : ∀ (d : Nat) (k_g : Nat), k_g ≤ 7 → 7 + 1 ≤ k_g + d → (m_wyL M v_g f_g (7 - k_g) k_g = m_wyL M v_g f_g 7 0) → ∀ (H : Heap) (locs : List Loc), va_P G vwCl [((b 0), .inr (3, [.ref (b 1), .ref (b 2), .ref (b 3), .ref (b 4), .ref (b 5), .int (nI (m_n M)), .int (m_rp M), .int (m_mo M), .int (m_dr M), .int (m_th M), .ref (b 6), .ref (b 7), .ref (b 8), .ref (b 9), .ref (b 10), .ref (b 11), .ref (b 12), .int (nI (m_fm M)), .int (m_ff M)])), ((b 1), .inl (cI, 9, .inl (fN (m_sz M)))), ((b 2), .inl (cI, 9, .inl (fN (m_ac M)))), ((b 3), .inl (cI, 9, .inl (fN (m_li M)))), ((b 4), .inl (cI, 9, .inl (fN (m_pl M)))), ((b 5), .inl (cI, 9, .inl (fN (m_pk M)))), ((b 6), .inl (cI, 36, .inl (fN (m_yd M)))), ((b 7), .inl (cI, 800, .inl (fN (m_fo M)))), ((b 8), .inl (cI, 800, .inl (m_fr M))), ((b 9), .inl (cI, 800, .inl (fN (m_by M)))), ((b 10), .inl (cI, 800, .inl (fN (m_dp M)))), ((b 11), .inl (cI, 2048, .inl (fN (m_sl M)))), ((b 12), .inl (cI, 9, .inl (fN (m_kp M))))] H → va_S (ro_A s.heap.size) s.heap H locs → ∀ (ls : Array Slot), lv_has ls 4 [(0, .ref (b 0)), (1, .int (nI v_g)), (2, .int f_g), (3, .int (nI k_g))] → W p l e (headSpec wsX3_way ({ frames := 2, cells := 0, slots := 0, locals := 45 })).room s m ([.ref (b 0), .int (nI v_g), .int f_g] : List Value).toArray below meth c H locs 0 0 (MQ below (ro_Qi (nI (m_wy M v_g f_g)) s.heap.size) ([.ref (b 0), .int (nI v_g), .int f_g] : List Value).toArray s 0 0 (ro_A s.heap.size)) (F0 m 2 ls []) := by
    intro d
    induction d with
    | zero =>
      intro k_g hk_2 hd_2
      exact absurd hd_2 (by omega)
    | succ d ih_2 =>
      intro k_g hk_2 hd_2 hI H locs hP hS ls hl
      refine lv_aload_n hx hb dX3_way_2 rfl (lv_at hl 0 rfl) ?_
      refine lv_iload_n hx hb dX3_way_3 rfl (lv_at hl 1 rfl) ?_
      have cut_36 : ∀ (x_g : Int32), (x_g = m_wya M v_g f_g k_g) → ∀ (H : Heap) (locs : List Loc), va_P G vwCl [((b 0), .inr (3, [.ref (b 1), .ref (b 2), .ref (b 3), .ref (b 4), .ref (b 5), .int (nI (m_n M)), .int (m_rp M), .int (m_mo M), .int (m_dr M), .int (m_th M), .ref (b 6), .ref (b 7), .ref (b 8), .ref (b 9), .ref (b 10), .ref (b 11), .ref (b 12), .int (nI (m_fm M)), .int (m_ff M)])), ((b 1), .inl (cI, 9, .inl (fN (m_sz M)))), ((b 2), .inl (cI, 9, .inl (fN (m_ac M)))), ((b 3), .inl (cI, 9, .inl (fN (m_li M)))), ((b 4), .inl (cI, 9, .inl (fN (m_pl M)))), ((b 5), .inl (cI, 9, .inl (fN (m_pk M)))), ((b 6), .inl (cI, 36, .inl (fN (m_yd M)))), ((b 7), .inl (cI, 800, .inl (fN (m_fo M)))), ((b 8), .inl (cI, 800, .inl (m_fr M))), ((b 9), .inl (cI, 800, .inl (fN (m_by M)))), ((b 10), .inl (cI, 800, .inl (fN (m_dp M)))), ((b 11), .inl (cI, 2048, .inl (fN (m_sl M)))), ((b 12), .inl (cI, 9, .inl (fN (m_kp M))))] H → va_S (ro_A s.heap.size) s.heap H locs → ∀ (ls : Array Slot), lv_has ls 4 [(0, .ref (b 0)), (1, .int (nI v_g)), (2, .int f_g), (3, .int (nI k_g))] → W p l e (headSpec wsX3_way ({ frames := 2, cells := 0, slots := 0, locals := 45 })).room s m ([.ref (b 0), .int (nI v_g), .int f_g] : List Value).toArray below meth c H locs 0 0 (MQ below (ro_Qi (nI (m_wy M v_g f_g)) s.heap.size) ([.ref (b 0), .int (nI v_g), .int f_g] : List Value).toArray s 0 0 (ro_A s.heap.size)) (F0 m 36 ls [.int x_g, .int (nI v_g), .ref (b 0)]) := by
        intro x_g ex_g H locs hP hS ls hl
        subst ex_g
        try have hl : lv_has ls 4 [(0, .ref (b 0)), (1, .int (nI v_g)), (2, .int f_g), (3, .int (nI k_g))] := hl
        refine ro_i (va_runV (As := [.int (nI v_g), .int (m_wya M v_g f_g k_g)]) (rest := []) ⟨hx, hb, hml, hown, hts⟩ ((c_X3_isOpen l G cI cZ cJ b _ M v_g (m_wya M v_g f_g k_g) hok hv)) (cwV 2 hts gX3_way_X3_isOpen rfl rfl rfl (by decide +kernel) ⟨Nat.le_of_ble_eq_true rfl, Nat.le_of_ble_eq_true rfl⟩) ⟨ro_blind, va_recv hK hP (ci := 3) (q0 := 0) rfl rfl, ro_pre hP hK hN⟩ rfl rfl hl.1 rfl (lv_room (Nat.le_of_ble_eq_true rfl)) dX3_way_36 ⟨Nat.zero_le _, Nat.zero_le _⟩) hS hA hP (fun H locs hP hS => ?_)
        refine lv_if_eq (tgt := 48) hx hb dX3_way_39 (by decide) (fun c_1 => ?_) (fun c_1 => ?_)
        · have c_1 := b1_f c_1
          have hz := c_1
          refine lv_iload_n hx hb dX3_way_48 rfl (lv_at hl 3 rfl) ?_
          exact W.iret (v := (nI k_g)) hx hb hr (fun t ht hW => ⟨⟨(nI k_g), (), rfl, by rw [m_wy, ← hI, m_wyL_out hz], trivial⟩, hS.F ht⟩) hS.2.2 dX3_way_49
        · have c_1 := b1_t c_1
          have hz := c_1
          have hlt : k_g < 7 := m_wya_lt hok hv hk_2 hz.1
          refine lv_iinc (v := (nI (k_g + 1))) (lv' := [(3, .int (nI (k_g + 1))), (0, .ref (b 0)), (1, .int (nI v_g)), (2, .int f_g)]) hx hb dX3_way_42 hl (k := 3) rfl (nI_1 _) (by decide) rfl (fun ls hl => ?_)
          refine lv_goto (tgt := 2) hx hb dX3_way_45 (by decide) ?_
          exact ih_2 (k_g + 1) (hlt) (by omega) (by rw [← hI, m_wyL_in hlt, if_pos hz]) _ _ hP hS _ (lv_sub hl [1, 2, 3, 0] rfl)
      refine lv_iload_n hx hb dX3_way_4 rfl (lv_at hl 2 rfl) ?_
      refine lv_if_eq (tgt := 26) hx hb dX3_way_5 (by decide) (fun c_2 => ?_) (fun c_2 => ?_)
      · refine lv_aload_n hx hb dX3_way_26 rfl (lv_at hl 0 rfl) ?_
        refine va_get (D := G) (ci := 3) (v := .ref (b 4)) (C := RX3) (T := TX3) (N := 19) hx hb hts in_X3_way_3 hown hK hP 0 rfl rfl 3 (by decide) (hts (.fieldLink RX3 19 "RampJamModel" "place" "[I") (by decide +kernel)) (fun _ h9 => h9) rfl dX3_way_27 ?_
        refine lv_iload_n hx hb dX3_way_30 rfl (lv_at hl 1 rfl) ?_
        refine va_iald hx hb hK hP 4 0 rfl rfl (vp_in_nI (by omega) (by decide)) dX3_way_31 ?_
        rw [show (nI v_g).toNatClampNeg = v_g from nI_clamp (by omega)]
        rw [show fN (m_pl M) v_g = (nI ((m_pl M) v_g)) from rfl]
        refine lv_iconst (v := 1) hx hb dX3_way_32 (by decide) ?_
        refine lv_isub hx hb dX3_way_33 ?_
        refine lv_iload_n hx hb dX3_way_34 rfl (lv_at hl 3 rfl) ?_
        refine lv_isub hx hb dX3_way_35 ?_
        exact cut_36 (((nI ((m_pl M) v_g)) - 1) - (nI k_g)) (by first | rw [m_wya, if_pos (by assumption)] | rw [m_wya, if_neg (by assumption)]) _ _ hP hS _ hl
      · refine lv_aload_n hx hb dX3_way_8 rfl (lv_at hl 0 rfl) ?_
        refine va_get (D := G) (ci := 3) (v := .ref (b 4)) (C := RX3) (T := TX3) (N := 19) hx hb hts in_X3_way_3 hown hK hP 0 rfl rfl 3 (by decide) (hts (.fieldLink RX3 19 "RampJamModel" "place" "[I") (by decide +kernel)) (fun _ h9 => h9) rfl dX3_way_9 ?_
        refine lv_iload_n hx hb dX3_way_12 rfl (lv_at hl 1 rfl) ?_
        refine va_iald hx hb hK hP 4 0 rfl rfl (vp_in_nI (by omega) (by decide)) dX3_way_13 ?_
        rw [show (nI v_g).toNatClampNeg = v_g from nI_clamp (by omega)]
        rw [show fN (m_pl M) v_g = (nI ((m_pl M) v_g)) from rfl]
        refine lv_aload_n hx hb dX3_way_14 rfl (lv_at hl 0 rfl) ?_
        refine va_get (D := G) (ci := 3) (v := .ref (b 1)) (C := RX3) (T := TX3) (N := 19) hx hb hts in_X3_way_3 hown hK hP 0 rfl rfl 0 (by decide) (hts (.fieldLink RX3 7 "RampJamModel" "cellsOf" "[I") (by decide +kernel)) (fun _ h9 => h9) rfl dX3_way_15 ?_
        refine lv_iload_n hx hb dX3_way_18 rfl (lv_at hl 1 rfl) ?_
        refine va_iald hx hb hK hP 1 0 rfl rfl (vp_in_nI (by omega) (by decide)) dX3_way_19 ?_
        rw [show (nI v_g).toNatClampNeg = v_g from nI_clamp (by omega)]
        rw [show fN (m_sz M) v_g = (nI ((m_sz M) v_g)) from rfl]
        refine lv_iadd hx hb dX3_way_20 ?_
        rw [show ((nI ((m_pl M) v_g)) + (nI ((m_sz M) v_g)) : Int32) = (nI (((m_pl M) v_g) + ((m_sz M) v_g))) from nI_add ((m_pl M) v_g) ((m_sz M) v_g)]
        refine lv_iload_n hx hb dX3_way_21 rfl (lv_at hl 3 rfl) ?_
        refine lv_iadd hx hb dX3_way_22 ?_
        rw [show ((nI (((m_pl M) v_g) + ((m_sz M) v_g))) + (nI k_g) : Int32) = (nI ((((m_pl M) v_g) + ((m_sz M) v_g)) + k_g)) from nI_add (((m_pl M) v_g) + ((m_sz M) v_g)) k_g]
        refine lv_goto (tgt := 36) hx hb dX3_way_23 (by decide) ?_
        exact cut_36 (nI ((((m_pl M) v_g) + ((m_sz M) v_g)) + k_g)) (by first | rw [m_wya, if_pos (by assumption)] | rw [m_wya, if_neg (by assumption)]) _ _ hP hS _ hl
  exact cut_2 (7 + 1) 0 (Nat.zero_le _) (by omega) (rfl) _ _ hP hS _ (lv_sub hl [1, 2, 3, 0] rfl)

theorem in_X3_vehicles_3 : ∀ w ∈ wsX30, w ∈ wsX3_vehicles := by decide +kernel
set_option maxHeartbeats 4000000 in
set_option maxRecDepth 100000 in
/-- RampJamModel.vehicles -/
theorem c_X3_vehicles (l : Launch) (G : va_G) (cI cZ cJ : ClassId) (b : Nat → Nat) (sz : Nat) (M : MS)  : Met l yX3_vehicles wsX3_vehicles ({ frames := 0, cells := 0, slots := 0, locals := 0 }) (rw_Pc G [(cI, .int), (cZ, .boolean), (cJ, .long)] (wM cI b M) sz [.ref (b 0)]) (rw_Qi (S := MS) (nI (m_n M)) (m_wTh M 0) (fun u : MS => wM cI b u) G (wM cI b M) sz) 0 0 (va_A (wM cI b M) sz) := by
  refine Met.ofW (cc := cX3_vehicles) (maxL := 1) (ret := (some .int)) (by decide) rfl ?_
  intro p e s m args below meth c s₁ B hml hv
  obtain ⟨rfl, hsz, hP, hK, hD0, hN⟩ := hv
  have hx := B.exec
  have hb := B.bytes
  have hr := B.returns
  have hts := atoms_spec (ws := wsX3_vehicles) B.pre
  have hown : s.vm.findClass RX3 = some m.cls := findClass_of_methodNamed B.named
  have hlocks := B.notSynchronized
  subst hsz
  have hD0 : va_D (fun _ => True) [((b 0), .inr (3, [.ref (b 1), .ref (b 2), .ref (b 3), .ref (b 4), .ref (b 5), .int (nI (m_n M)), .int (m_rp M), .int (m_mo M), .int (m_dr M), .int (m_th M), .ref (b 6), .ref (b 7), .ref (b 8), .ref (b 9), .ref (b 10), .ref (b 11), .ref (b 12), .int (nI (m_fm M)), .int (m_ff M)])), ((b 1), .inl (cI, 9, .inl (fN (m_sz M)))), ((b 2), .inl (cI, 9, .inl (fN (m_ac M)))), ((b 3), .inl (cI, 9, .inl (fN (m_li M)))), ((b 4), .inl (cI, 9, .inl (fN (m_pl M)))), ((b 5), .inl (cI, 9, .inl (fN (m_pk M)))), ((b 6), .inl (cI, 36, .inl (fN (m_yd M)))), ((b 7), .inl (cI, 800, .inl (fN (m_fo M)))), ((b 8), .inl (cI, 800, .inl (m_fr M))), ((b 9), .inl (cI, 800, .inl (fN (m_by M)))), ((b 10), .inl (cI, 800, .inl (fN (m_dp M)))), ((b 11), .inl (cI, 2048, .inl (fN (m_sl M)))), ((b 12), .inl (cI, 9, .inl (fN (m_kp M))))] := hD0
  have hD := hD0.self (sz := s.heap.size)
  unfold rw_Qi
  generalize hAe : va_A (wM cI b M) s.heap.size = A at hD ⊢
  have hA : ∀ q : Nat, s.heap.size ≤ q → A q := fun q h => by rw [← hAe]; exact Or.inr h
  have hS : va_S A s.heap s.heap [] := va_S.rf
  have hP : va_P G vwCl [((b 0), .inr (3, [.ref (b 1), .ref (b 2), .ref (b 3), .ref (b 4), .ref (b 5), .int (nI (m_n M)), .int (m_rp M), .int (m_mo M), .int (m_dr M), .int (m_th M), .ref (b 6), .ref (b 7), .ref (b 8), .ref (b 9), .ref (b 10), .ref (b 11), .ref (b 12), .int (nI (m_fm M)), .int (m_ff M)])), ((b 1), .inl (cI, 9, .inl (fN (m_sz M)))), ((b 2), .inl (cI, 9, .inl (fN (m_ac M)))), ((b 3), .inl (cI, 9, .inl (fN (m_li M)))), ((b 4), .inl (cI, 9, .inl (fN (m_pl M)))), ((b 5), .inl (cI, 9, .inl (fN (m_pk M)))), ((b 6), .inl (cI, 36, .inl (fN (m_yd M)))), ((b 7), .inl (cI, 800, .inl (fN (m_fo M)))), ((b 8), .inl (cI, 800, .inl (m_fr M))), ((b 9), .inl (cI, 800, .inl (fN (m_by M)))), ((b 10), .inl (cI, 800, .inl (fN (m_dp M)))), ((b 11), .inl (cI, 2048, .inl (fN (m_sl M)))), ((b 12), .inl (cI, 9, .inl (fN (m_kp M))))] s.heap := hP
  have hl := lv_entry ([.ref (b 0)]) (n := 1) (Nat.le_of_ble_eq_true rfl)
  rw [lg_entry_eq]
  generalize (lg_sl ([.ref (b 0)]) ++ List.replicate (1 - (lg_sl ([.ref (b 0)])).length) Slot.unset).toArray = ls at hl ⊢
  have hl : lv_has ls 1 [(0, .ref (b 0))] := hl
  refine lv_aload_n hx hb dX3_vehicles_0 rfl (lv_at hl 0 rfl) ?_
  refine lv_iconst (v := 0) hx hb dX3_vehicles_1 (by decide) ?_
  refine va_put (D := G) (ci := 3) (v := .int 0) (ty := .int) (C := RX3) (T := TX3) (N := 19) hx hb hts in_X3_vehicles_3 tyX3 tyX3_ok nmX3 hown hK hP hD hS 0 rfl rfl 9 (by decide) (hts (.fieldLink RX3 50 "RampJamModel" "thrown" "I") (by decide +kernel)) (fun _ h9 => h9) rfl (by decide +kernel) rfl rfl (Nat.le_of_ble_eq_true rfl) dX3_vehicles_2 (fun H locs hP hD hS => ?_)
  have hP : va_P G vwCl [((b 0), .inr (3, [.ref (b 1), .ref (b 2), .ref (b 3), .ref (b 4), .ref (b 5), .int (nI (m_n M)), .int (m_rp M), .int (m_mo M), .int (m_dr M), .int 0, .ref (b 6), .ref (b 7), .ref (b 8), .ref (b 9), .ref (b 10), .ref (b 11), .ref (b 12), .int (nI (m_fm M)), .int (m_ff M)])), ((b 1), .inl (cI, 9, .inl (fN (m_sz M)))), ((b 2), .inl (cI, 9, .inl (fN (m_ac M)))), ((b 3), .inl (cI, 9, .inl (fN (m_li M)))), ((b 4), .inl (cI, 9, .inl (fN (m_pl M)))), ((b 5), .inl (cI, 9, .inl (fN (m_pk M)))), ((b 6), .inl (cI, 36, .inl (fN (m_yd M)))), ((b 7), .inl (cI, 800, .inl (fN (m_fo M)))), ((b 8), .inl (cI, 800, .inl (m_fr M))), ((b 9), .inl (cI, 800, .inl (fN (m_by M)))), ((b 10), .inl (cI, 800, .inl (fN (m_dp M)))), ((b 11), .inl (cI, 2048, .inl (fN (m_sl M)))), ((b 12), .inl (cI, 9, .inl (fN (m_kp M))))] H := hP
  have hD : va_D A [((b 0), .inr (3, [.ref (b 1), .ref (b 2), .ref (b 3), .ref (b 4), .ref (b 5), .int (nI (m_n M)), .int (m_rp M), .int (m_mo M), .int (m_dr M), .int 0, .ref (b 6), .ref (b 7), .ref (b 8), .ref (b 9), .ref (b 10), .ref (b 11), .ref (b 12), .int (nI (m_fm M)), .int (m_ff M)])), ((b 1), .inl (cI, 9, .inl (fN (m_sz M)))), ((b 2), .inl (cI, 9, .inl (fN (m_ac M)))), ((b 3), .inl (cI, 9, .inl (fN (m_li M)))), ((b 4), .inl (cI, 9, .inl (fN (m_pl M)))), ((b 5), .inl (cI, 9, .inl (fN (m_pk M)))), ((b 6), .inl (cI, 36, .inl (fN (m_yd M)))), ((b 7), .inl (cI, 800, .inl (fN (m_fo M)))), ((b 8), .inl (cI, 800, .inl (m_fr M))), ((b 9), .inl (cI, 800, .inl (fN (m_by M)))), ((b 10), .inl (cI, 800, .inl (fN (m_dp M)))), ((b 11), .inl (cI, 2048, .inl (fN (m_sl M)))), ((b 12), .inl (cI, 9, .inl (fN (m_kp M))))] := hD
  refine lv_aload_n hx hb dX3_vehicles_5 rfl (lv_at hl 0 rfl) ?_
  refine va_get (D := G) (ci := 3) (v := .int (nI (m_n M))) (C := RX3) (T := TX3) (N := 19) hx hb hts in_X3_vehicles_3 hown hK hP 0 rfl rfl 5 (by decide) (hts (.fieldLink RX3 53 "RampJamModel" "many" "I") (by decide +kernel)) (fun _ h9 => h9) rfl dX3_vehicles_6 ?_
  have hP9 := hP
  have hD9 := hD
  exact W.iret (v := (nI (m_n M))) hx hb hr (fun t ht hW => ⟨⟨(nI (m_n M)), (m_wTh M 0), rfl, ⟨rfl, rfl⟩, by rw [ht]; exact hP9, hD9⟩, hS.F ht⟩) hS.2.2 dX3_vehicles_9

theorem in_X3_moves_3 : ∀ w ∈ wsX30, w ∈ wsX3_moves := by decide +kernel
set_option maxHeartbeats 4000000 in
set_option maxRecDepth 100000 in
/-- RampJamModel.moves -/
theorem c_X3_moves (l : Launch) (G : va_G) (cI cZ cJ : ClassId) (b : Nat → Nat) (sz : Nat) (M : MS)  : Met l yX3_moves wsX3_moves ({ frames := 0, cells := 0, slots := 0, locals := 0 }) (rw_Pc G [(cI, .int), (cZ, .boolean), (cJ, .long)] (wM cI b M) sz [.ref (b 0)]) (rw_Qi (S := MS) (m_mo M) (m_wTh M 0) (fun u : MS => wM cI b u) G (wM cI b M) sz) 0 0 (va_A (wM cI b M) sz) := by
  refine Met.ofW (cc := cX3_moves) (maxL := 1) (ret := (some .int)) (by decide) rfl ?_
  intro p e s m args below meth c s₁ B hml hv
  obtain ⟨rfl, hsz, hP, hK, hD0, hN⟩ := hv
  have hx := B.exec
  have hb := B.bytes
  have hr := B.returns
  have hts := atoms_spec (ws := wsX3_moves) B.pre
  have hown : s.vm.findClass RX3 = some m.cls := findClass_of_methodNamed B.named
  have hlocks := B.notSynchronized
  subst hsz
  have hD0 : va_D (fun _ => True) [((b 0), .inr (3, [.ref (b 1), .ref (b 2), .ref (b 3), .ref (b 4), .ref (b 5), .int (nI (m_n M)), .int (m_rp M), .int (m_mo M), .int (m_dr M), .int (m_th M), .ref (b 6), .ref (b 7), .ref (b 8), .ref (b 9), .ref (b 10), .ref (b 11), .ref (b 12), .int (nI (m_fm M)), .int (m_ff M)])), ((b 1), .inl (cI, 9, .inl (fN (m_sz M)))), ((b 2), .inl (cI, 9, .inl (fN (m_ac M)))), ((b 3), .inl (cI, 9, .inl (fN (m_li M)))), ((b 4), .inl (cI, 9, .inl (fN (m_pl M)))), ((b 5), .inl (cI, 9, .inl (fN (m_pk M)))), ((b 6), .inl (cI, 36, .inl (fN (m_yd M)))), ((b 7), .inl (cI, 800, .inl (fN (m_fo M)))), ((b 8), .inl (cI, 800, .inl (m_fr M))), ((b 9), .inl (cI, 800, .inl (fN (m_by M)))), ((b 10), .inl (cI, 800, .inl (fN (m_dp M)))), ((b 11), .inl (cI, 2048, .inl (fN (m_sl M)))), ((b 12), .inl (cI, 9, .inl (fN (m_kp M))))] := hD0
  have hD := hD0.self (sz := s.heap.size)
  unfold rw_Qi
  generalize hAe : va_A (wM cI b M) s.heap.size = A at hD ⊢
  have hA : ∀ q : Nat, s.heap.size ≤ q → A q := fun q h => by rw [← hAe]; exact Or.inr h
  have hS : va_S A s.heap s.heap [] := va_S.rf
  have hP : va_P G vwCl [((b 0), .inr (3, [.ref (b 1), .ref (b 2), .ref (b 3), .ref (b 4), .ref (b 5), .int (nI (m_n M)), .int (m_rp M), .int (m_mo M), .int (m_dr M), .int (m_th M), .ref (b 6), .ref (b 7), .ref (b 8), .ref (b 9), .ref (b 10), .ref (b 11), .ref (b 12), .int (nI (m_fm M)), .int (m_ff M)])), ((b 1), .inl (cI, 9, .inl (fN (m_sz M)))), ((b 2), .inl (cI, 9, .inl (fN (m_ac M)))), ((b 3), .inl (cI, 9, .inl (fN (m_li M)))), ((b 4), .inl (cI, 9, .inl (fN (m_pl M)))), ((b 5), .inl (cI, 9, .inl (fN (m_pk M)))), ((b 6), .inl (cI, 36, .inl (fN (m_yd M)))), ((b 7), .inl (cI, 800, .inl (fN (m_fo M)))), ((b 8), .inl (cI, 800, .inl (m_fr M))), ((b 9), .inl (cI, 800, .inl (fN (m_by M)))), ((b 10), .inl (cI, 800, .inl (fN (m_dp M)))), ((b 11), .inl (cI, 2048, .inl (fN (m_sl M)))), ((b 12), .inl (cI, 9, .inl (fN (m_kp M))))] s.heap := hP
  have hl := lv_entry ([.ref (b 0)]) (n := 1) (Nat.le_of_ble_eq_true rfl)
  rw [lg_entry_eq]
  generalize (lg_sl ([.ref (b 0)]) ++ List.replicate (1 - (lg_sl ([.ref (b 0)])).length) Slot.unset).toArray = ls at hl ⊢
  have hl : lv_has ls 1 [(0, .ref (b 0))] := hl
  refine lv_aload_n hx hb dX3_moves_0 rfl (lv_at hl 0 rfl) ?_
  refine lv_iconst (v := 0) hx hb dX3_moves_1 (by decide) ?_
  refine va_put (D := G) (ci := 3) (v := .int 0) (ty := .int) (C := RX3) (T := TX3) (N := 19) hx hb hts in_X3_moves_3 tyX3 tyX3_ok nmX3 hown hK hP hD hS 0 rfl rfl 9 (by decide) (hts (.fieldLink RX3 50 "RampJamModel" "thrown" "I") (by decide +kernel)) (fun _ h9 => h9) rfl (by decide +kernel) rfl rfl (Nat.le_of_ble_eq_true rfl) dX3_moves_2 (fun H locs hP hD hS => ?_)
  have hP : va_P G vwCl [((b 0), .inr (3, [.ref (b 1), .ref (b 2), .ref (b 3), .ref (b 4), .ref (b 5), .int (nI (m_n M)), .int (m_rp M), .int (m_mo M), .int (m_dr M), .int 0, .ref (b 6), .ref (b 7), .ref (b 8), .ref (b 9), .ref (b 10), .ref (b 11), .ref (b 12), .int (nI (m_fm M)), .int (m_ff M)])), ((b 1), .inl (cI, 9, .inl (fN (m_sz M)))), ((b 2), .inl (cI, 9, .inl (fN (m_ac M)))), ((b 3), .inl (cI, 9, .inl (fN (m_li M)))), ((b 4), .inl (cI, 9, .inl (fN (m_pl M)))), ((b 5), .inl (cI, 9, .inl (fN (m_pk M)))), ((b 6), .inl (cI, 36, .inl (fN (m_yd M)))), ((b 7), .inl (cI, 800, .inl (fN (m_fo M)))), ((b 8), .inl (cI, 800, .inl (m_fr M))), ((b 9), .inl (cI, 800, .inl (fN (m_by M)))), ((b 10), .inl (cI, 800, .inl (fN (m_dp M)))), ((b 11), .inl (cI, 2048, .inl (fN (m_sl M)))), ((b 12), .inl (cI, 9, .inl (fN (m_kp M))))] H := hP
  have hD : va_D A [((b 0), .inr (3, [.ref (b 1), .ref (b 2), .ref (b 3), .ref (b 4), .ref (b 5), .int (nI (m_n M)), .int (m_rp M), .int (m_mo M), .int (m_dr M), .int 0, .ref (b 6), .ref (b 7), .ref (b 8), .ref (b 9), .ref (b 10), .ref (b 11), .ref (b 12), .int (nI (m_fm M)), .int (m_ff M)])), ((b 1), .inl (cI, 9, .inl (fN (m_sz M)))), ((b 2), .inl (cI, 9, .inl (fN (m_ac M)))), ((b 3), .inl (cI, 9, .inl (fN (m_li M)))), ((b 4), .inl (cI, 9, .inl (fN (m_pl M)))), ((b 5), .inl (cI, 9, .inl (fN (m_pk M)))), ((b 6), .inl (cI, 36, .inl (fN (m_yd M)))), ((b 7), .inl (cI, 800, .inl (fN (m_fo M)))), ((b 8), .inl (cI, 800, .inl (m_fr M))), ((b 9), .inl (cI, 800, .inl (fN (m_by M)))), ((b 10), .inl (cI, 800, .inl (fN (m_dp M)))), ((b 11), .inl (cI, 2048, .inl (fN (m_sl M)))), ((b 12), .inl (cI, 9, .inl (fN (m_kp M))))] := hD
  refine lv_aload_n hx hb dX3_moves_5 rfl (lv_at hl 0 rfl) ?_
  refine va_get (D := G) (ci := 3) (v := .int (m_mo M)) (C := RX3) (T := TX3) (N := 19) hx hb hts in_X3_moves_3 hown hK hP 0 rfl rfl 7 (by decide) (hts (.fieldLink RX3 71 "RampJamModel" "moves" "I") (by decide +kernel)) (fun _ h9 => h9) rfl dX3_moves_6 ?_
  have hP9 := hP
  have hD9 := hD
  exact W.iret (v := (m_mo M)) hx hb hr (fun t ht hW => ⟨⟨(m_mo M), (m_wTh M 0), rfl, ⟨rfl, rfl⟩, by rw [ht]; exact hP9, hD9⟩, hS.F ht⟩) hS.2.2 dX3_moves_9

theorem in_X3_driven_3 : ∀ w ∈ wsX30, w ∈ wsX3_driven := by decide +kernel
set_option maxHeartbeats 4000000 in
set_option maxRecDepth 100000 in
/-- RampJamModel.driven -/
theorem c_X3_driven (l : Launch) (G : va_G) (cI cZ cJ : ClassId) (b : Nat → Nat) (sz : Nat) (M : MS)  : Met l yX3_driven wsX3_driven ({ frames := 0, cells := 0, slots := 0, locals := 0 }) (rw_Pc G [(cI, .int), (cZ, .boolean), (cJ, .long)] (wM cI b M) sz [.ref (b 0)]) (rw_Qi (S := MS) (m_dr M) (m_wTh M 0) (fun u : MS => wM cI b u) G (wM cI b M) sz) 0 0 (va_A (wM cI b M) sz) := by
  refine Met.ofW (cc := cX3_driven) (maxL := 1) (ret := (some .int)) (by decide) rfl ?_
  intro p e s m args below meth c s₁ B hml hv
  obtain ⟨rfl, hsz, hP, hK, hD0, hN⟩ := hv
  have hx := B.exec
  have hb := B.bytes
  have hr := B.returns
  have hts := atoms_spec (ws := wsX3_driven) B.pre
  have hown : s.vm.findClass RX3 = some m.cls := findClass_of_methodNamed B.named
  have hlocks := B.notSynchronized
  subst hsz
  have hD0 : va_D (fun _ => True) [((b 0), .inr (3, [.ref (b 1), .ref (b 2), .ref (b 3), .ref (b 4), .ref (b 5), .int (nI (m_n M)), .int (m_rp M), .int (m_mo M), .int (m_dr M), .int (m_th M), .ref (b 6), .ref (b 7), .ref (b 8), .ref (b 9), .ref (b 10), .ref (b 11), .ref (b 12), .int (nI (m_fm M)), .int (m_ff M)])), ((b 1), .inl (cI, 9, .inl (fN (m_sz M)))), ((b 2), .inl (cI, 9, .inl (fN (m_ac M)))), ((b 3), .inl (cI, 9, .inl (fN (m_li M)))), ((b 4), .inl (cI, 9, .inl (fN (m_pl M)))), ((b 5), .inl (cI, 9, .inl (fN (m_pk M)))), ((b 6), .inl (cI, 36, .inl (fN (m_yd M)))), ((b 7), .inl (cI, 800, .inl (fN (m_fo M)))), ((b 8), .inl (cI, 800, .inl (m_fr M))), ((b 9), .inl (cI, 800, .inl (fN (m_by M)))), ((b 10), .inl (cI, 800, .inl (fN (m_dp M)))), ((b 11), .inl (cI, 2048, .inl (fN (m_sl M)))), ((b 12), .inl (cI, 9, .inl (fN (m_kp M))))] := hD0
  have hD := hD0.self (sz := s.heap.size)
  unfold rw_Qi
  generalize hAe : va_A (wM cI b M) s.heap.size = A at hD ⊢
  have hA : ∀ q : Nat, s.heap.size ≤ q → A q := fun q h => by rw [← hAe]; exact Or.inr h
  have hS : va_S A s.heap s.heap [] := va_S.rf
  have hP : va_P G vwCl [((b 0), .inr (3, [.ref (b 1), .ref (b 2), .ref (b 3), .ref (b 4), .ref (b 5), .int (nI (m_n M)), .int (m_rp M), .int (m_mo M), .int (m_dr M), .int (m_th M), .ref (b 6), .ref (b 7), .ref (b 8), .ref (b 9), .ref (b 10), .ref (b 11), .ref (b 12), .int (nI (m_fm M)), .int (m_ff M)])), ((b 1), .inl (cI, 9, .inl (fN (m_sz M)))), ((b 2), .inl (cI, 9, .inl (fN (m_ac M)))), ((b 3), .inl (cI, 9, .inl (fN (m_li M)))), ((b 4), .inl (cI, 9, .inl (fN (m_pl M)))), ((b 5), .inl (cI, 9, .inl (fN (m_pk M)))), ((b 6), .inl (cI, 36, .inl (fN (m_yd M)))), ((b 7), .inl (cI, 800, .inl (fN (m_fo M)))), ((b 8), .inl (cI, 800, .inl (m_fr M))), ((b 9), .inl (cI, 800, .inl (fN (m_by M)))), ((b 10), .inl (cI, 800, .inl (fN (m_dp M)))), ((b 11), .inl (cI, 2048, .inl (fN (m_sl M)))), ((b 12), .inl (cI, 9, .inl (fN (m_kp M))))] s.heap := hP
  have hl := lv_entry ([.ref (b 0)]) (n := 1) (Nat.le_of_ble_eq_true rfl)
  rw [lg_entry_eq]
  generalize (lg_sl ([.ref (b 0)]) ++ List.replicate (1 - (lg_sl ([.ref (b 0)])).length) Slot.unset).toArray = ls at hl ⊢
  have hl : lv_has ls 1 [(0, .ref (b 0))] := hl
  refine lv_aload_n hx hb dX3_driven_0 rfl (lv_at hl 0 rfl) ?_
  refine lv_iconst (v := 0) hx hb dX3_driven_1 (by decide) ?_
  refine va_put (D := G) (ci := 3) (v := .int 0) (ty := .int) (C := RX3) (T := TX3) (N := 19) hx hb hts in_X3_driven_3 tyX3 tyX3_ok nmX3 hown hK hP hD hS 0 rfl rfl 9 (by decide) (hts (.fieldLink RX3 50 "RampJamModel" "thrown" "I") (by decide +kernel)) (fun _ h9 => h9) rfl (by decide +kernel) rfl rfl (Nat.le_of_ble_eq_true rfl) dX3_driven_2 (fun H locs hP hD hS => ?_)
  have hP : va_P G vwCl [((b 0), .inr (3, [.ref (b 1), .ref (b 2), .ref (b 3), .ref (b 4), .ref (b 5), .int (nI (m_n M)), .int (m_rp M), .int (m_mo M), .int (m_dr M), .int 0, .ref (b 6), .ref (b 7), .ref (b 8), .ref (b 9), .ref (b 10), .ref (b 11), .ref (b 12), .int (nI (m_fm M)), .int (m_ff M)])), ((b 1), .inl (cI, 9, .inl (fN (m_sz M)))), ((b 2), .inl (cI, 9, .inl (fN (m_ac M)))), ((b 3), .inl (cI, 9, .inl (fN (m_li M)))), ((b 4), .inl (cI, 9, .inl (fN (m_pl M)))), ((b 5), .inl (cI, 9, .inl (fN (m_pk M)))), ((b 6), .inl (cI, 36, .inl (fN (m_yd M)))), ((b 7), .inl (cI, 800, .inl (fN (m_fo M)))), ((b 8), .inl (cI, 800, .inl (m_fr M))), ((b 9), .inl (cI, 800, .inl (fN (m_by M)))), ((b 10), .inl (cI, 800, .inl (fN (m_dp M)))), ((b 11), .inl (cI, 2048, .inl (fN (m_sl M)))), ((b 12), .inl (cI, 9, .inl (fN (m_kp M))))] H := hP
  have hD : va_D A [((b 0), .inr (3, [.ref (b 1), .ref (b 2), .ref (b 3), .ref (b 4), .ref (b 5), .int (nI (m_n M)), .int (m_rp M), .int (m_mo M), .int (m_dr M), .int 0, .ref (b 6), .ref (b 7), .ref (b 8), .ref (b 9), .ref (b 10), .ref (b 11), .ref (b 12), .int (nI (m_fm M)), .int (m_ff M)])), ((b 1), .inl (cI, 9, .inl (fN (m_sz M)))), ((b 2), .inl (cI, 9, .inl (fN (m_ac M)))), ((b 3), .inl (cI, 9, .inl (fN (m_li M)))), ((b 4), .inl (cI, 9, .inl (fN (m_pl M)))), ((b 5), .inl (cI, 9, .inl (fN (m_pk M)))), ((b 6), .inl (cI, 36, .inl (fN (m_yd M)))), ((b 7), .inl (cI, 800, .inl (fN (m_fo M)))), ((b 8), .inl (cI, 800, .inl (m_fr M))), ((b 9), .inl (cI, 800, .inl (fN (m_by M)))), ((b 10), .inl (cI, 800, .inl (fN (m_dp M)))), ((b 11), .inl (cI, 2048, .inl (fN (m_sl M)))), ((b 12), .inl (cI, 9, .inl (fN (m_kp M))))] := hD
  refine lv_aload_n hx hb dX3_driven_5 rfl (lv_at hl 0 rfl) ?_
  refine va_get (D := G) (ci := 3) (v := .int (m_dr M)) (C := RX3) (T := TX3) (N := 19) hx hb hts in_X3_driven_3 hown hK hP 0 rfl rfl 8 (by decide) (hts (.fieldLink RX3 74 "RampJamModel" "driven" "I") (by decide +kernel)) (fun _ h9 => h9) rfl dX3_driven_6 ?_
  have hP9 := hP
  have hD9 := hD
  exact W.iret (v := (m_dr M)) hx hb hr (fun t ht hW => ⟨⟨(m_dr M), (m_wTh M 0), rfl, ⟨rfl, rfl⟩, by rw [ht]; exact hP9, hD9⟩, hS.F ht⟩) hS.2.2 dX3_driven_9

theorem in_X3_isFree_3 : ∀ w ∈ wsX30, w ∈ wsX3_isFree := by decide +kernel
set_option maxHeartbeats 4000000 in
set_option maxRecDepth 100000 in
/-- RampJamModel.isFree -/
theorem c_X3_isFree (l : Launch) (G : va_G) (cI cZ cJ : ClassId) (b : Nat → Nat) (sz : Nat) (M : MS) (hok : m_ok M) : Met l yX3_isFree wsX3_isFree ({ frames := 0, cells := 0, slots := 0, locals := 0 }) (ro_Pc G [(cI, .int), (cZ, .boolean), (cJ, .long)] (wM cI b M) sz [.ref (b 0)]) (ro_Qi (b1 (m_free M)) sz) 0 0 (ro_A sz) := by
  refine Met.ofW (cc := cX3_isFree) (maxL := 1) (ret := (some .boolean)) (by decide) rfl ?_
  intro p e s m args below meth c s₁ B hml hv
  obtain ⟨rfl, hsz, hP, hK, hN⟩ := hv
  have hx := B.exec
  have hb := B.bytes
  have hr := B.returns
  have hts := atoms_spec (ws := wsX3_isFree) B.pre
  have hown : s.vm.findClass RX3 = some m.cls := findClass_of_methodNamed B.named
  have hlocks := B.notSynchronized
  subst hsz
  have hA : ∀ q : Nat, s.heap.size ≤ q → (ro_A s.heap.size) q := fun _ h => h
  have hS : va_S (ro_A s.heap.size) s.heap s.heap [] := va_S.rf
  have hP : va_P G vwCl [((b 0), .inr (3, [.ref (b 1), .ref (b 2), .ref (b 3), .ref (b 4), .ref (b 5), .int (nI (m_n M)), .int (m_rp M), .int (m_mo M), .int (m_dr M), .int (m_th M), .ref (b 6), .ref (b 7), .ref (b 8), .ref (b 9), .ref (b 10), .ref (b 11), .ref (b 12), .int (nI (m_fm M)), .int (m_ff M)])), ((b 1), .inl (cI, 9, .inl (fN (m_sz M)))), ((b 2), .inl (cI, 9, .inl (fN (m_ac M)))), ((b 3), .inl (cI, 9, .inl (fN (m_li M)))), ((b 4), .inl (cI, 9, .inl (fN (m_pl M)))), ((b 5), .inl (cI, 9, .inl (fN (m_pk M)))), ((b 6), .inl (cI, 36, .inl (fN (m_yd M)))), ((b 7), .inl (cI, 800, .inl (fN (m_fo M)))), ((b 8), .inl (cI, 800, .inl (m_fr M))), ((b 9), .inl (cI, 800, .inl (fN (m_by M)))), ((b 10), .inl (cI, 800, .inl (fN (m_dp M)))), ((b 11), .inl (cI, 2048, .inl (fN (m_sl M)))), ((b 12), .inl (cI, 9, .inl (fN (m_kp M))))] s.heap := hP
  have hl := lv_entry ([.ref (b 0)]) (n := 1) (Nat.le_of_ble_eq_true rfl)
  rw [lg_entry_eq]
  generalize (lg_sl ([.ref (b 0)]) ++ List.replicate (1 - (lg_sl ([.ref (b 0)])).length) Slot.unset).toArray = ls at hl ⊢
  have hl : lv_has ls 1 [(0, .ref (b 0))] := hl
  have h9 := hok.1
  refine lv_aload_n hx hb dX3_isFree_0 rfl (lv_at hl 0 rfl) ?_
  refine va_get (D := G) (ci := 3) (v := .int (nI (m_n M))) (C := RX3) (T := TX3) (N := 19) hx hb hts in_X3_isFree_3 hown hK hP 0 rfl rfl 5 (by decide) (hts (.fieldLink RX3 53 "RampJamModel" "many" "I") (by decide +kernel)) (fun _ h9 => h9) rfl dX3_isFree_1 ?_
  refine lv_if_le (tgt := 21) hx hb dX3_isFree_4 (by decide) (fun c_1 => ?_) (fun c_1 => ?_)
  · have c_1 : (m_n M) ≤ 0 := (nI_leI (a := (m_n M)) (b := 0) (by omega) (by omega)).mp c_1
    refine lv_iconst (v := 0) hx hb dX3_isFree_21 (by decide) ?_
    exact W.zret (ty := .boolean) (v := 0) hx hb hr (rfl) (fun t ht hW => ⟨⟨0, (), rfl, by first | rw [b1, if_pos ⟨by assumption, by assumption⟩] | (rw [b1, if_neg]; rintro ⟨h1, h2⟩; first | contradiction | omega), trivial⟩, hS.F ht⟩) hS.2.2 dX3_isFree_22
  · have c_1 : 0 < (m_n M) := Nat.not_le.mp (fun q => c_1 ((nI_leI (a := (m_n M)) (b := 0) (by omega) (by omega)).mpr q))
    refine lv_aload_n hx hb dX3_isFree_7 rfl (lv_at hl 0 rfl) ?_
    refine va_get (D := G) (ci := 3) (v := .ref (b 4)) (C := RX3) (T := TX3) (N := 19) hx hb hts in_X3_isFree_3 hown hK hP 0 rfl rfl 3 (by decide) (hts (.fieldLink RX3 19 "RampJamModel" "place" "[I") (by decide +kernel)) (fun _ h9 => h9) rfl dX3_isFree_8 ?_
    obtain ⟨b1_, b2_, b3_, b4_, b5_, b6_⟩ := hok.2.1 0 (by omega)
    refine lv_iconst (v := 0) hx hb dX3_isFree_11 (by decide) ?_
    refine va_iald hx hb hK hP 4 0 rfl rfl (vp_in_nI (n := 0) (by decide) (by decide)) dX3_isFree_12 ?_
    rw [show (0 : Int32).toNatClampNeg = 0 from rfl]
    rw [show fN (m_pl M) 0 = (nI ((m_pl M) 0)) from rfl]
    refine lv_iconst (v := 4) hx hb dX3_isFree_13 (by decide) ?_
    refine lv_icmp_ne (tgt := 21) hx hb dX3_isFree_14 (by decide) (fun c_2 => ?_) (fun c_2 => ?_)
    · have c_2 : ¬ ((m_pl M) 0) = 4 := fun q => c_2 ((nI_eq (a := ((m_pl M) 0)) (b := 4) (by omega) (by omega)).mpr q)
      refine lv_iconst (v := 0) hx hb dX3_isFree_21 (by decide) ?_
      exact W.zret (ty := .boolean) (v := 0) hx hb hr (rfl) (fun t ht hW => ⟨⟨0, (), rfl, by first | rw [b1, if_pos ⟨by assumption, by assumption⟩] | (rw [b1, if_neg]; rintro ⟨h1, h2⟩; first | contradiction | omega), trivial⟩, hS.F ht⟩) hS.2.2 dX3_isFree_22
    · have c_2 : ((m_pl M) 0) = 4 := (nI_eq (a := ((m_pl M) 0)) (b := 4) (by omega) (by omega)).mp c_2
      refine lv_iconst (v := 1) hx hb dX3_isFree_17 (by decide) ?_
      refine lv_goto (tgt := 22) hx hb dX3_isFree_18 (by decide) ?_
      exact W.zret (ty := .boolean) (v := 1) hx hb hr (rfl) (fun t ht hW => ⟨⟨1, (), rfl, by first | rw [b1, if_pos ⟨by assumption, by assumption⟩] | (rw [b1, if_neg]; rintro ⟨h1, h2⟩; first | contradiction | omega), trivial⟩, hS.F ht⟩) hS.2.2 dX3_isFree_22
