set_option maxHeartbeats 4000000 in
set_option maxRecDepth 100000 in
/-- cX3_digit -/
theorem c_X3_digit (l : Launch) (G : va_G) (cI cZ cJ : ClassId) (b : Nat → Nat) (sz : Nat) (p_g : Nat) (v_g : Nat) (hp : p_g < 2147483648) (hv : v_g < 2147483648) : Met l yX3_digit wsX3_digit ({ frames := 0, cells := 0, slots := 0, locals := 0 }) (ro_Pc G [(cI, .int), (cZ, .boolean), (cJ, .long)] [] sz [.int (nI p_g), .int (nI v_g)]) (ro_Qi (nI (dgN p_g v_g)) sz) 0 0 (ro_A sz) := by
  refine Met.ofW (cc := cX3_digit) (maxL := 4) (ret := (some .int)) (by decide) rfl ?_
  intro p e s m args below meth c s₁ B hml hv
  obtain ⟨rfl, hsz, hP, hK, hN⟩ := hv
  have hx := B.exec
  have hb := B.bytes
  have hr := B.returns
  have hts := atoms_spec (ws := wsX3_digit) B.pre
  have hown : s.vm.findClass RX3 = some m.cls := findClass_of_methodNamed B.named
  have hlocks := B.notSynchronized
  subst hsz
  have hA : ∀ q : Nat, s.heap.size ≤ q → (ro_A s.heap.size) q := fun _ h => h
  have hS : va_S (ro_A s.heap.size) s.heap s.heap [] := va_S.rf
  have hP : va_P G vwCl [] s.heap := hP
  have hl := lv_entry ([.int (nI p_g), .int (nI v_g)]) (n := 4) (Nat.le_of_ble_eq_true rfl)
  rw [lg_entry_eq]
  generalize (lg_sl ([.int (nI p_g), .int (nI v_g)]) ++ List.replicate (4 - (lg_sl ([.int (nI p_g), .int (nI v_g)])).length) Slot.unset).toArray = ls at hl ⊢
  have hl : lv_has ls 4 [(0, .int (nI p_g)), (1, .int (nI v_g))] := hl
  refine lv_iload_n hx hb dX3_digit_0 rfl (lv_at hl 0 rfl) ?_
  refine lv_istore_n (lv' := [(2, .int (nI p_g)), (0, .int (nI p_g)), (1, .int (nI v_g))]) hx hb dX3_digit_1 rfl hl (by decide) rfl (fun ls hl => ?_)
  refine lv_iconst (v := 0) hx hb dX3_digit_2 (by decide) ?_
  refine lv_istore_n (lv' := [(3, .int 0), (2, .int (nI p_g)), (0, .int (nI p_g)), (1, .int (nI v_g))]) hx hb dX3_digit_3 rfl hl (by decide) rfl (fun ls hl => ?_)
  have cut_4 : ∀ (d : Nat) (k_g : Nat), k_g ≤ v_g → v_g + 1 ≤ k_g + d → ∀ (H : Heap) (locs : List Loc), va_P G vwCl [] H → va_S (ro_A s.heap.size) s.heap H locs → ∀ (ls : Array Slot), lv_has ls 4 [(0, .int (nI p_g)), (1, .int (nI v_g)), (2, .int (nI (dvN p_g k_g))), (3, .int (nI k_g))] → W p l e (headSpec wsX3_digit ({ frames := 0, cells := 0, slots := 0, locals := 0 })).room s m ([.int (nI p_g), .int (nI v_g)] : List Value).toArray below meth c H locs 0 0 (MQ below (ro_Qi (nI (dgN p_g v_g)) s.heap.size) ([.int (nI p_g), .int (nI v_g)] : List Value).toArray s 0 0 (ro_A s.heap.size)) (F0 m 4 ls []) := by
    intro d
    induction d with
    | zero =>
      intro k_g hk_4 hd_4
      exact absurd hd_4 (by omega)
    | succ d ih_4 =>
      intro k_g hk_4 hd_4  H locs hP hS ls hl
      refine lv_iload_n hx hb dX3_digit_4 rfl (lv_at hl 3 rfl) ?_
      refine lv_iload_n hx hb dX3_digit_5 rfl (lv_at hl 1 rfl) ?_
      refine lv_icmp_ge (tgt := 20) hx hb dX3_digit_6 (by decide) (fun c_1 => ?_) (fun c_1 => ?_)
      · have c_1 : v_g ≤ k_g := (nI_leI (a := v_g) (b := k_g) (by omega) (by omega)).mp c_1
        have hdb := dvN_le p_g k_g
        refine lv_iload_n hx hb dX3_digit_20 rfl (lv_at hl 2 rfl) ?_
        refine lv_bipush (v := 6) hx hb dX3_digit_21 (by decide) ?_
        refine lv_irem hx hb dX3_digit_23 (by decide) ?_
        rw [show ((nI (dvN p_g k_g)) - (nI (dvN p_g k_g)) / 6 * 6 : Int32) = (nI ((dvN p_g k_g) % 6)) from pk_rem (a := (dvN p_g k_g)) (d := 6) (by omega) (by decide) (by decide)]
        exact W.iret (v := (nI ((dvN p_g k_g) % 6))) hx hb hr (fun t ht hW => ⟨⟨(nI ((dvN p_g k_g) % 6)), (), rfl, by rw [dgN, show v_g = k_g by omega], trivial⟩, hS.F ht⟩) hS.2.2 dX3_digit_24
      · have c_1 : k_g < v_g := Nat.not_le.mp (fun q => c_1 ((nI_leI (a := v_g) (b := k_g) (by omega) (by omega)).mpr q))
        have hdb := dvN_le p_g k_g
        refine lv_iload_n hx hb dX3_digit_9 rfl (lv_at hl 2 rfl) ?_
        refine lv_bipush (v := 6) hx hb dX3_digit_10 (by decide) ?_
        refine lv_idiv hx hb dX3_digit_12 (by decide) ?_
        rw [show ((nI (dvN p_g k_g)) / 6 : Int32) = (nI ((dvN p_g k_g) / 6)) from pk_div (a := (dvN p_g k_g)) (d := 6) (by omega) (by decide) (by decide)]
        rw [show ((nI ((dvN p_g k_g) / 6)) : Int32) = (nI (dvN p_g (k_g + 1))) from by rw [dvN_s]]
        refine lv_istore_n (lv' := [(2, .int (nI (dvN p_g (k_g + 1)))), (0, .int (nI p_g)), (1, .int (nI v_g)), (3, .int (nI k_g))]) hx hb dX3_digit_13 rfl hl (by decide) rfl (fun ls hl => ?_)
        refine lv_iinc (v := (nI (k_g + 1))) (lv' := [(3, .int (nI (k_g + 1))), (2, .int (nI (dvN p_g (k_g + 1)))), (0, .int (nI p_g)), (1, .int (nI v_g))]) hx hb dX3_digit_14 hl (k := 3) rfl (nI_1 _) (by decide) rfl (fun ls hl => ?_)
        refine lv_goto (tgt := 4) hx hb dX3_digit_17 (by decide) ?_
        exact ih_4 (k_g + 1) (by omega) (by omega) _ _ hP hS _ (lv_sub hl [2, 3, 1, 0] rfl)
  have hl : lv_has ls 4 [(3, .int 0), (2, .int (nI (dvN p_g 0))), (0, .int (nI p_g)), (1, .int (nI v_g))] := by rw [dvN_0]; exact hl
  exact cut_4 (v_g + 1) 0 (Nat.zero_le _) (by omega) _ _ hP hS _ (lv_sub hl [2, 3, 1, 0] rfl)

theorem in_X3_positionNow_3 : ∀ w ∈ wsX30, w ∈ wsX3_positionNow := by decide +kernel
set_option maxHeartbeats 4000000 in
set_option maxRecDepth 100000 in
/-- RampJamModel.positionNow -/
theorem c_X3_positionNow (l : Launch) (G : va_G) (cI cZ cJ : ClassId) (b : Nat → Nat) (sz : Nat) (M : MS) (hok : m_ok M) : Met l yX3_positionNow wsX3_positionNow ({ frames := 0, cells := 0, slots := 0, locals := 0 }) (ro_Pc G [(cI, .int), (cZ, .boolean), (cJ, .long)] (wM cI b M) sz [.ref (b 0)]) (ro_Qi (nI (pnow M)) sz) 0 0 (ro_A sz) := by
  refine Met.ofW (cc := cX3_positionNow) (maxL := 3) (ret := (some .int)) (by decide) rfl ?_
  intro p e s m args below meth c s₁ B hml hv
  obtain ⟨rfl, hsz, hP, hK, hN⟩ := hv
  have hx := B.exec
  have hb := B.bytes
  have hr := B.returns
  have hts := atoms_spec (ws := wsX3_positionNow) B.pre
  have hown : s.vm.findClass RX3 = some m.cls := findClass_of_methodNamed B.named
  have hlocks := B.notSynchronized
  subst hsz
  have hA : ∀ q : Nat, s.heap.size ≤ q → (ro_A s.heap.size) q := fun _ h => h
  have hS : va_S (ro_A s.heap.size) s.heap s.heap [] := va_S.rf
  have hP : va_P G vwCl [((b 0), .inr (3, [.ref (b 1), .ref (b 2), .ref (b 3), .ref (b 4), .ref (b 5), .int (nI (m_n M)), .int (m_rp M), .int (m_mo M), .int (m_dr M), .int (m_th M), .ref (b 6), .ref (b 7), .ref (b 8), .ref (b 9), .ref (b 10), .ref (b 11), .ref (b 12), .int (nI (m_fm M)), .int (m_ff M)])), ((b 1), .inl (cI, 9, .inl (fN (m_sz M)))), ((b 2), .inl (cI, 9, .inl (fN (m_ac M)))), ((b 3), .inl (cI, 9, .inl (fN (m_li M)))), ((b 4), .inl (cI, 9, .inl (fN (m_pl M)))), ((b 5), .inl (cI, 9, .inl (fN (m_pk M)))), ((b 6), .inl (cI, 36, .inl (fN (m_yd M)))), ((b 7), .inl (cI, 800, .inl (fN (m_fo M)))), ((b 8), .inl (cI, 800, .inl (m_fr M))), ((b 9), .inl (cI, 800, .inl (fN (m_by M)))), ((b 10), .inl (cI, 800, .inl (fN (m_dp M)))), ((b 11), .inl (cI, 2048, .inl (fN (m_sl M)))), ((b 12), .inl (cI, 9, .inl (fN (m_kp M))))] s.heap := hP
  have hl := lv_entry ([.ref (b 0)]) (n := 3) (Nat.le_of_ble_eq_true rfl)
  rw [lg_entry_eq]
  generalize (lg_sl ([.ref (b 0)]) ++ List.replicate (3 - (lg_sl ([.ref (b 0)])).length) Slot.unset).toArray = ls at hl ⊢
  have hl : lv_has ls 3 [(0, .ref (b 0))] := hl
  have h9 := hok.1
  refine lv_iconst (v := 0) hx hb dX3_positionNow_0 (by decide) ?_
  refine lv_istore_n (lv' := [(1, .int 0), (0, .ref (b 0))]) hx hb dX3_positionNow_1 rfl hl (by decide) rfl (fun ls hl => ?_)
  refine lv_aload_n hx hb dX3_positionNow_2 rfl (lv_at hl 1 rfl) ?_
  refine va_get (D := G) (ci := 3) (v := .int (nI (m_n M))) (C := RX3) (T := TX3) (N := 19) hx hb hts in_X3_positionNow_3 hown hK hP 0 rfl rfl 5 (by decide) (hts (.fieldLink RX3 53 "RampJamModel" "many" "I") (by decide +kernel)) (fun _ h9 => h9) rfl dX3_positionNow_3 ?_
  refine lv_iconst (v := 1) hx hb dX3_positionNow_6 (by decide) ?_
  refine lv_isub hx hb dX3_positionNow_7 ?_
  refine lv_istore_n (lv' := [(2, .int ((nI (m_n M)) - 1)), (1, .int 0), (0, .ref (b 0))]) hx hb dX3_positionNow_8 rfl hl (by decide) rfl (fun ls hl => ?_)
  have cut_9 : ∀ (d : Nat) (k_g : Nat) (x_g : Int32), k_g ≤ m_n M → m_n M + 1 ≤ k_g + d → (x_g.toInt = (m_n M : Int) - 1 - k_g) → ∀ (H : Heap) (locs : List Loc), va_P G vwCl [((b 0), .inr (3, [.ref (b 1), .ref (b 2), .ref (b 3), .ref (b 4), .ref (b 5), .int (nI (m_n M)), .int (m_rp M), .int (m_mo M), .int (m_dr M), .int (m_th M), .ref (b 6), .ref (b 7), .ref (b 8), .ref (b 9), .ref (b 10), .ref (b 11), .ref (b 12), .int (nI (m_fm M)), .int (m_ff M)])), ((b 1), .inl (cI, 9, .inl (fN (m_sz M)))), ((b 2), .inl (cI, 9, .inl (fN (m_ac M)))), ((b 3), .inl (cI, 9, .inl (fN (m_li M)))), ((b 4), .inl (cI, 9, .inl (fN (m_pl M)))), ((b 5), .inl (cI, 9, .inl (fN (m_pk M)))), ((b 6), .inl (cI, 36, .inl (fN (m_yd M)))), ((b 7), .inl (cI, 800, .inl (fN (m_fo M)))), ((b 8), .inl (cI, 800, .inl (m_fr M))), ((b 9), .inl (cI, 800, .inl (fN (m_by M)))), ((b 10), .inl (cI, 800, .inl (fN (m_dp M)))), ((b 11), .inl (cI, 2048, .inl (fN (m_sl M)))), ((b 12), .inl (cI, 9, .inl (fN (m_kp M))))] H → va_S (ro_A s.heap.size) s.heap H locs → ∀ (ls : Array Slot), lv_has ls 3 [(0, .ref (b 0)), (1, .int (nI (hrn (m_pl M) (m_n M) k_g))), (2, .int x_g)] → W p l e (headSpec wsX3_positionNow ({ frames := 0, cells := 0, slots := 0, locals := 0 })).room s m ([.ref (b 0)] : List Value).toArray below meth c H locs 0 0 (MQ below (ro_Qi (nI (pnow M)) s.heap.size) ([.ref (b 0)] : List Value).toArray s 0 0 (ro_A s.heap.size)) (F0 m 9 ls []) := by
    intro d
    induction d with
    | zero =>
      intro k_g x_g hk_9 hd_9
      exact absurd hd_9 (by omega)
    | succ d ih_9 =>
      intro k_g x_g hk_9 hd_9 hxv H locs hP hS ls hl
      refine lv_iload_n hx hb dX3_positionNow_9 rfl (lv_at hl 2 rfl) ?_
      refine lv_if_lt (tgt := 31) hx hb dX3_positionNow_10 (by decide) (fun c_1 => ?_) (fun c_1 => ?_)
      · have hkn : m_n M = k_g := by have h0 := (Int32.lt_iff_toInt_lt.mp c_1); rw [hxv, show (0 : Int32).toInt = 0 from rfl] at h0; omega
        refine lv_iload_n hx hb dX3_positionNow_31 rfl (lv_at hl 1 rfl) ?_
        exact W.iret (v := (nI (hrn (m_pl M) (m_n M) k_g))) hx hb hr (fun t ht hW => ⟨⟨(nI (hrn (m_pl M) (m_n M) k_g)), (), rfl, by rw [← hrn_pnow, hkn], trivial⟩, hS.F ht⟩) hS.2.2 dX3_positionNow_32
      · have hlt : k_g < m_n M := by have h0 := mt Int32.lt_iff_toInt_lt.mpr c_1; rw [hxv, show (0 : Int32).toInt = 0 from rfl] at h0; omega
        have hxe : x_g = nI (m_n M - 1 - k_g) := Int32.toInt_inj.mp (by rw [hxv, nI_toInt (by omega)]; omega)
        subst hxe
        refine lv_bipush (v := 6) hx hb dX3_positionNow_13 (by decide) ?_
        refine lv_iload_n hx hb dX3_positionNow_15 rfl (lv_at hl 1 rfl) ?_
        refine lv_imul hx hb dX3_positionNow_16 ?_
        rw [show (6 * (nI (hrn (m_pl M) (m_n M) k_g)) : Int32) = (nI (6 * (hrn (m_pl M) (m_n M) k_g))) from pk_mul 6 (hrn (m_pl M) (m_n M) k_g)]
        refine lv_aload_n hx hb dX3_positionNow_17 rfl (lv_at hl 0 rfl) ?_
        refine va_get (D := G) (ci := 3) (v := .ref (b 4)) (C := RX3) (T := TX3) (N := 19) hx hb hts in_X3_positionNow_3 hown hK hP 0 rfl rfl 3 (by decide) (hts (.fieldLink RX3 19 "RampJamModel" "place" "[I") (by decide +kernel)) (fun _ h9 => h9) rfl dX3_positionNow_18 ?_
        refine lv_iload_n hx hb dX3_positionNow_21 rfl (lv_at hl 2 rfl) ?_
        refine va_iald hx hb hK hP 4 0 rfl rfl (vp_in_nI (by omega) (by decide)) dX3_positionNow_22 ?_
        rw [show (nI (m_n M - 1 - k_g)).toNatClampNeg = (m_n M - 1 - k_g) from nI_clamp (by omega)]
        rw [show fN (m_pl M) (m_n M - 1 - k_g) = (nI ((m_pl M) (m_n M - 1 - k_g))) from rfl]
        refine lv_iadd hx hb dX3_positionNow_23 ?_
        rw [show ((nI (6 * (hrn (m_pl M) (m_n M) k_g))) + (nI ((m_pl M) (m_n M - 1 - k_g))) : Int32) = (nI ((6 * (hrn (m_pl M) (m_n M) k_g)) + ((m_pl M) (m_n M - 1 - k_g)))) from nI_add (6 * (hrn (m_pl M) (m_n M) k_g)) ((m_pl M) (m_n M - 1 - k_g))]
        refine lv_istore_n (lv' := [(1, .int (nI ((6 * (hrn (m_pl M) (m_n M) k_g)) + ((m_pl M) (m_n M - 1 - k_g))))), (0, .ref (b 0)), (2, .int (nI (m_n M - 1 - k_g)))]) hx hb dX3_positionNow_24 rfl hl (by decide) rfl (fun ls hl => ?_)
        refine lv_iinc (v := ((nI (m_n M - 1 - k_g)) + (-1))) (lv' := [(2, .int ((nI (m_n M - 1 - k_g)) + (-1))), (1, .int (nI ((6 * (hrn (m_pl M) (m_n M) k_g)) + ((m_pl M) (m_n M - 1 - k_g))))), (0, .ref (b 0))]) hx hb dX3_positionNow_25 hl (k := 2) rfl (rfl) (by decide) rfl (fun ls hl => ?_)
        refine lv_goto (tgt := 9) hx hb dX3_positionNow_28 (by decide) ?_
        exact ih_9 (k_g + 1) ((nI (m_n M - 1 - k_g)) + (-1)) (by omega) (by omega) ((i_add (nI_toInt (by omega)) (c := -1) rfl (by omega) (by omega) (by omega) (by omega)).trans (by omega)) _ _ hP hS _ (lv_sub hl [2, 1, 0] rfl)
  exact cut_9 (m_n M + 1) 0 ((nI (m_n M)) - 1) (Nat.zero_le _) (by omega) (by rw [i_sub (nI_toInt (n := m_n M) (by omega)) (show (1 : Int32).toInt = 1 from rfl) (by omega) (by omega) (by omega) (by omega)]; omega) _ _ hP hS _ (lv_sub hl [2, 1, 0] rfl)

theorem in_X3_takes_3 : ∀ w ∈ wsX30, w ∈ wsX3_takes := by decide +kernel
set_option maxHeartbeats 4000000 in
set_option maxRecDepth 100000 in
/-- RampJamModel.takes -/
theorem c_X3_takes (l : Launch) (G : va_G) (cI cZ cJ : ClassId) (b : Nat → Nat) (sz : Nat) (M : MS) (o_g : Int32) (z_g : Nat) (hok : m_ok M) (hT : tk_ok M) (ho : 0 ≤ o_g → vp_in o_g 800) : Met l yX3_takes wsX3_takes ({ frames := 1, cells := 0, slots := 0, locals := 22 }) (rw_Pc G [(cI, .int), (cZ, .boolean), (cJ, .long)] (wM cI b M) sz [.ref (b 0), .int o_g, .int (nI z_g)]) (rw_Qv (S := MS) (m_takes M o_g z_g) (fun u : MS => wM cI b u) G (wM cI b M) sz) 0 0 (va_A (wM cI b M) sz) := by
  refine Met.ofW (cc := cX3_takes) (maxL := 5) (ret := none) (by decide) rfl ?_
  intro p e s m args below meth c s₁ B hml hv
  obtain ⟨rfl, hsz, hP, hK, hD0, hN⟩ := hv
  have hx := B.exec
  have hb := B.bytes
  have hr := B.returns
  have hts := atoms_spec (ws := wsX3_takes) B.pre
  have hown : s.vm.findClass RX3 = some m.cls := findClass_of_methodNamed B.named
  have hlocks := B.notSynchronized
  subst hsz
  have hD0 : va_D (fun _ => True) [((b 0), .inr (3, [.ref (b 1), .ref (b 2), .ref (b 3), .ref (b 4), .ref (b 5), .int (nI (m_n M)), .int (m_rp M), .int (m_mo M), .int (m_dr M), .int (m_th M), .ref (b 6), .ref (b 7), .ref (b 8), .ref (b 9), .ref (b 10), .ref (b 11), .ref (b 12), .int (nI (m_fm M)), .int (m_ff M)])), ((b 1), .inl (cI, 9, .inl (fN (m_sz M)))), ((b 2), .inl (cI, 9, .inl (fN (m_ac M)))), ((b 3), .inl (cI, 9, .inl (fN (m_li M)))), ((b 4), .inl (cI, 9, .inl (fN (m_pl M)))), ((b 5), .inl (cI, 9, .inl (fN (m_pk M)))), ((b 6), .inl (cI, 36, .inl (fN (m_yd M)))), ((b 7), .inl (cI, 800, .inl (fN (m_fo M)))), ((b 8), .inl (cI, 800, .inl (m_fr M))), ((b 9), .inl (cI, 800, .inl (fN (m_by M)))), ((b 10), .inl (cI, 800, .inl (fN (m_dp M)))), ((b 11), .inl (cI, 2048, .inl (fN (m_sl M)))), ((b 12), .inl (cI, 9, .inl (fN (m_kp M))))] := hD0
  have hD := hD0.self (sz := s.heap.size)
  unfold rw_Qv
  generalize hAe : va_A (wM cI b M) s.heap.size = A at hD ⊢
  have hA : ∀ q : Nat, s.heap.size ≤ q → A q := fun q h => by rw [← hAe]; exact Or.inr h
  have hS : va_S A s.heap s.heap [] := va_S.rf
  have hP : va_P G vwCl [((b 0), .inr (3, [.ref (b 1), .ref (b 2), .ref (b 3), .ref (b 4), .ref (b 5), .int (nI (m_n M)), .int (m_rp M), .int (m_mo M), .int (m_dr M), .int (m_th M), .ref (b 6), .ref (b 7), .ref (b 8), .ref (b 9), .ref (b 10), .ref (b 11), .ref (b 12), .int (nI (m_fm M)), .int (m_ff M)])), ((b 1), .inl (cI, 9, .inl (fN (m_sz M)))), ((b 2), .inl (cI, 9, .inl (fN (m_ac M)))), ((b 3), .inl (cI, 9, .inl (fN (m_li M)))), ((b 4), .inl (cI, 9, .inl (fN (m_pl M)))), ((b 5), .inl (cI, 9, .inl (fN (m_pk M)))), ((b 6), .inl (cI, 36, .inl (fN (m_yd M)))), ((b 7), .inl (cI, 800, .inl (fN (m_fo M)))), ((b 8), .inl (cI, 800, .inl (m_fr M))), ((b 9), .inl (cI, 800, .inl (fN (m_by M)))), ((b 10), .inl (cI, 800, .inl (fN (m_dp M)))), ((b 11), .inl (cI, 2048, .inl (fN (m_sl M)))), ((b 12), .inl (cI, 9, .inl (fN (m_kp M))))] s.heap := hP
  have hl := lv_entry ([.ref (b 0), .int o_g, .int (nI z_g)]) (n := 5) (Nat.le_of_ble_eq_true rfl)
  rw [lg_entry_eq]
  generalize (lg_sl ([.ref (b 0), .int o_g, .int (nI z_g)]) ++ List.replicate (5 - (lg_sl ([.ref (b 0), .int o_g, .int (nI z_g)])).length) Slot.unset).toArray = ls at hl ⊢
  have hl : lv_has ls 5 [(0, .ref (b 0)), (1, .int o_g), (2, .int (nI z_g))] := hl
  have h9 := hok.1
  have hp := pnow_lt hok
  obtain ⟨t1_, t2_, t3_, t4_⟩ := hT
  refine lv_aload_n hx hb dX3_takes_0 rfl (lv_at hl 0 rfl) ?_
  refine ro_i (va_runV (As := []) (rest := []) ⟨hx, hb, hml, hown, hts⟩ ((c_X3_positionNow l G cI cZ cJ b _ M hok)) (cwV 0 hts gX3_takes_X3_positionNow rfl rfl rfl (by decide +kernel) ⟨Nat.le_of_ble_eq_true rfl, Nat.le_of_ble_eq_true rfl⟩) ⟨ro_blind, va_recv hK hP (ci := 3) (q0 := 0) rfl rfl, ro_pre hP hK hN⟩ rfl rfl hl.1 rfl (lv_room (Nat.le_of_ble_eq_true rfl)) dX3_takes_1 ⟨Nat.zero_le _, Nat.zero_le _⟩) hS hA hP (fun H locs hP hS => ?_)
  refine lv_istore_n (lv' := [(3, .int (nI (pnow M))), (0, .ref (b 0)), (1, .int o_g), (2, .int (nI z_g))]) hx hb dX3_takes_4 rfl hl (by decide) rfl (fun ls hl => ?_)
  refine lv_iload_n hx hb dX3_takes_5 rfl (lv_at hl 0 rfl) ?_
  refine lv_sipush (v := 2048) hx hb dX3_takes_6 (by decide) ?_
  refine lv_irem hx hb dX3_takes_9 (by decide) ?_
  rw [show ((nI (pnow M)) - (nI (pnow M)) / 2048 * 2048 : Int32) = (nI ((pnow M) % 2048)) from pk_rem (a := (pnow M)) (d := 2048) (by omega) (by decide) (by decide)]
  refine lv_istore (lv' := [(4, .int (nI ((pnow M) % 2048))), (3, .int (nI (pnow M))), (0, .ref (b 0)), (1, .int o_g), (2, .int (nI z_g))]) hx hb dX3_takes_10 hl (by decide) rfl (fun ls hl => ?_)
  have cut_12 : ∀ (d : Nat) (k_g : Nat) (s_g : Nat), k_g ≤ 2048 → 2048 + 1 ≤ k_g + d → (s_g = (pnow M % 2048 + k_g) % 2048) → (∀ i, i < k_g → ¬ m_sl M ((pnow M % 2048 + i) % 2048) = 0) → (tkL M (pnow M) (2048 - k_g) s_g = tk_slot M) → ∀ (H : Heap) (locs : List Loc), va_P G vwCl [((b 0), .inr (3, [.ref (b 1), .ref (b 2), .ref (b 3), .ref (b 4), .ref (b 5), .int (nI (m_n M)), .int (m_rp M), .int (m_mo M), .int (m_dr M), .int (m_th M), .ref (b 6), .ref (b 7), .ref (b 8), .ref (b 9), .ref (b 10), .ref (b 11), .ref (b 12), .int (nI (m_fm M)), .int (m_ff M)])), ((b 1), .inl (cI, 9, .inl (fN (m_sz M)))), ((b 2), .inl (cI, 9, .inl (fN (m_ac M)))), ((b 3), .inl (cI, 9, .inl (fN (m_li M)))), ((b 4), .inl (cI, 9, .inl (fN (m_pl M)))), ((b 5), .inl (cI, 9, .inl (fN (m_pk M)))), ((b 6), .inl (cI, 36, .inl (fN (m_yd M)))), ((b 7), .inl (cI, 800, .inl (fN (m_fo M)))), ((b 8), .inl (cI, 800, .inl (m_fr M))), ((b 9), .inl (cI, 800, .inl (fN (m_by M)))), ((b 10), .inl (cI, 800, .inl (fN (m_dp M)))), ((b 11), .inl (cI, 2048, .inl (fN (m_sl M)))), ((b 12), .inl (cI, 9, .inl (fN (m_kp M))))] H → va_D A [((b 0), .inr (3, [.ref (b 1), .ref (b 2), .ref (b 3), .ref (b 4), .ref (b 5), .int (nI (m_n M)), .int (m_rp M), .int (m_mo M), .int (m_dr M), .int (m_th M), .ref (b 6), .ref (b 7), .ref (b 8), .ref (b 9), .ref (b 10), .ref (b 11), .ref (b 12), .int (nI (m_fm M)), .int (m_ff M)])), ((b 1), .inl (cI, 9, .inl (fN (m_sz M)))), ((b 2), .inl (cI, 9, .inl (fN (m_ac M)))), ((b 3), .inl (cI, 9, .inl (fN (m_li M)))), ((b 4), .inl (cI, 9, .inl (fN (m_pl M)))), ((b 5), .inl (cI, 9, .inl (fN (m_pk M)))), ((b 6), .inl (cI, 36, .inl (fN (m_yd M)))), ((b 7), .inl (cI, 800, .inl (fN (m_fo M)))), ((b 8), .inl (cI, 800, .inl (m_fr M))), ((b 9), .inl (cI, 800, .inl (fN (m_by M)))), ((b 10), .inl (cI, 800, .inl (fN (m_dp M)))), ((b 11), .inl (cI, 2048, .inl (fN (m_sl M)))), ((b 12), .inl (cI, 9, .inl (fN (m_kp M))))] → va_S A s.heap H locs → ∀ (ls : Array Slot), lv_has ls 5 [(0, .ref (b 0)), (1, .int o_g), (2, .int (nI z_g)), (3, .int (nI (pnow M))), (4, .int (nI s_g))] → W p l e (headSpec wsX3_takes ({ frames := 1, cells := 0, slots := 0, locals := 22 })).room s m ([.ref (b 0), .int o_g, .int (nI z_g)] : List Value).toArray below meth c H locs 0 0 (MQ below (va_Qv (fun u : MS => u = (m_takes M o_g z_g)) (fun (u : MS) (t : State) => va_P G vwCl ((fun u : MS => wM cI b u) u) t.heap ∧ va_D A ((fun u : MS => wM cI b u) u)) A) ([.ref (b 0), .int o_g, .int (nI z_g)] : List Value).toArray s 0 0 A) (F0 m 12 ls []) := by
    intro d
    induction d with
    | zero =>
      intro k_g s_g hk_12 hd_12
      exact absurd hd_12 (by omega)
    | succ d ih_12 =>
      intro k_g s_g hk_12 hd_12 hs hvis hI H locs hP hD hS ls hl
      have hs2 : s_g < 2048 := by omega
      have hsl := t2_ s_g hs2
      refine lv_aload_n hx hb dX3_takes_12 rfl (lv_at hl 0 rfl) ?_
      refine va_get (D := G) (ci := 3) (v := .ref (b 11)) (C := RX3) (T := TX3) (N := 19) hx hb hts in_X3_takes_3 hown hK hP 0 rfl rfl 15 (by decide) (hts (.fieldLink RX3 44 "RampJamModel" "slots" "[I") (by decide +kernel)) (fun _ h9 => h9) rfl dX3_takes_13 ?_
      refine lv_iload hx hb dX3_takes_16 (lv_at hl 4 rfl) ?_
      refine va_iald hx hb hK hP 11 0 rfl rfl (vp_in_nI (by omega) (by decide)) dX3_takes_18 ?_
      rw [show (nI s_g).toNatClampNeg = s_g from nI_clamp (by omega)]
      rw [show fN (m_sl M) s_g = (nI ((m_sl M) s_g)) from rfl]
      refine lv_if_eq (tgt := 53) hx hb dX3_takes_19 (by decide) (fun c_1 => ?_) (fun c_1 => ?_)
      · have c_1 : ((m_sl M) s_g) = 0 := (nI_eq (a := ((m_sl M) s_g)) (b := 0) (by omega) (by omega)).mp c_1
        have hz0 : m_sl M s_g = 0 := c_1
        have htk : tk_slot M = s_g := by rw [← hI]; exact tkL_out (fun h => h.1 hz0) _
        refine lv_aload_n hx hb dX3_takes_53 rfl (lv_at hl 0 rfl) ?_
        refine va_get (D := G) (ci := 3) (v := .ref (b 11)) (C := RX3) (T := TX3) (N := 19) hx hb hts in_X3_takes_3 hown hK hP 0 rfl rfl 15 (by decide) (hts (.fieldLink RX3 44 "RampJamModel" "slots" "[I") (by decide +kernel)) (fun _ h9 => h9) rfl dX3_takes_54 ?_
        refine lv_iload hx hb dX3_takes_57 (lv_at hl 4 rfl) ?_
        refine va_iald hx hb hK hP 11 0 rfl rfl (vp_in_nI (by omega) (by decide)) dX3_takes_59 ?_
        rw [show (nI s_g).toNatClampNeg = s_g from nI_clamp (by omega)]
        rw [show fN (m_sl M) s_g = (nI ((m_sl M) s_g)) from rfl]
        refine lv_if_ne (tgt := 180) hx hb dX3_takes_60 (by decide) (fun c_2 => ?_) (fun c_2 => ?_)
        · have c_2 : ¬ ((m_sl M) s_g) = 0 := fun q => c_2 ((nI_eq (a := ((m_sl M) s_g)) (b := 0) (by omega) (by omega)).mpr q)
          exact absurd hz0 c_2
        · have c_2 : ((m_sl M) s_g) = 0 := (nI_eq (a := ((m_sl M) s_g)) (b := 0) (by omega) (by omega)).mp c_2
          refine lv_aload_n hx hb dX3_takes_63 rfl (lv_at hl 0 rfl) ?_
          refine va_get (D := G) (ci := 3) (v := .int (nI (m_fm M))) (C := RX3) (T := TX3) (N := 19) hx hb hts in_X3_takes_3 hown hK hP 0 rfl rfl 17 (by decide) (hts (.fieldLink RX3 96 "RampJamModel" "foundMany" "I") (by decide +kernel)) (fun _ h9 => h9) rfl dX3_takes_64 ?_
          refine lv_sipush (v := 800) hx hb dX3_takes_67 (by decide) ?_
          refine lv_icmp_ge (tgt := 180) hx hb dX3_takes_70 (by decide) (fun c_3 => ?_) (fun c_3 => ?_)
          · have c_3 : 800 ≤ (m_fm M) := (nI_leI (a := 800) (b := (m_fm M)) (by omega) (by omega)).mp c_3
            have hfull : ¬ m_fm M < 800 := by omega
            have hP9 := hP
            have hD9 := hD
            exact W.vret hx hb hr (fun t ht hW => ⟨⟨M, rfl, by rw [m_takes, htk, if_neg (fun h => hfull h.2)], by rw [ht]; exact hP9, hD9⟩, hS.F ht⟩) hS.2.2 dX3_takes_180
          · have c_3 : (m_fm M) < 800 := Nat.not_le.mp (fun q => c_3 ((nI_leI (a := 800) (b := (m_fm M)) (by omega) (by omega)).mpr q))
            have hroom : m_fm M < 800 := c_3
            refine lv_aload_n hx hb dX3_takes_73 rfl (lv_at hl 0 rfl) ?_
            refine va_get (D := G) (ci := 3) (v := .ref (b 11)) (C := RX3) (T := TX3) (N := 19) hx hb hts in_X3_takes_3 hown hK hP 0 rfl rfl 15 (by decide) (hts (.fieldLink RX3 44 "RampJamModel" "slots" "[I") (by decide +kernel)) (fun _ h9 => h9) rfl dX3_takes_74 ?_
            refine lv_iload hx hb dX3_takes_77 (lv_at hl 4 rfl) ?_
            refine lv_aload_n hx hb dX3_takes_79 rfl (lv_at hl 0 rfl) ?_
            refine va_get (D := G) (ci := 3) (v := .int (nI (m_fm M))) (C := RX3) (T := TX3) (N := 19) hx hb hts in_X3_takes_3 hown hK hP 0 rfl rfl 17 (by decide) (hts (.fieldLink RX3 96 "RampJamModel" "foundMany" "I") (by decide +kernel)) (fun _ h9 => h9) rfl dX3_takes_80 ?_
            refine lv_iconst (v := 1) hx hb dX3_takes_83 (by decide) ?_
            refine lv_iadd hx hb dX3_takes_84 ?_
            rw [show ((nI (m_fm M)) + 1 : Int32) = (nI ((m_fm M) + 1)) from nI_add (m_fm M) 1]
            refine va_iast hx hb hK hP hD hS 11 0 rfl rfl (vp_in_nI (by omega) (by decide)) dX3_takes_85 (fun H locs hP hD hS => ?_)
            rw [show (nI s_g).toNatClampNeg = s_g from nI_clamp (by omega)] at hP hD
            rw [fN_upd] at hP hD
            have hP : va_P G vwCl [((b 0), .inr (3, [.ref (b 1), .ref (b 2), .ref (b 3), .ref (b 4), .ref (b 5), .int (nI (m_n M)), .int (m_rp M), .int (m_mo M), .int (m_dr M), .int (m_th M), .ref (b 6), .ref (b 7), .ref (b 8), .ref (b 9), .ref (b 10), .ref (b 11), .ref (b 12), .int (nI (m_fm M)), .int (m_ff M)])), ((b 1), .inl (cI, 9, .inl (fN (m_sz M)))), ((b 2), .inl (cI, 9, .inl (fN (m_ac M)))), ((b 3), .inl (cI, 9, .inl (fN (m_li M)))), ((b 4), .inl (cI, 9, .inl (fN (m_pl M)))), ((b 5), .inl (cI, 9, .inl (fN (m_pk M)))), ((b 6), .inl (cI, 36, .inl (fN (m_yd M)))), ((b 7), .inl (cI, 800, .inl (fN (m_fo M)))), ((b 8), .inl (cI, 800, .inl (m_fr M))), ((b 9), .inl (cI, 800, .inl (fN (m_by M)))), ((b 10), .inl (cI, 800, .inl (fN (m_dp M)))), ((b 11), .inl (cI, 2048, .inl (fN (updN (m_sl M) s_g ((m_fm M) + 1))))), ((b 12), .inl (cI, 9, .inl (fN (m_kp M))))] H := hP
            have hD : va_D A [((b 0), .inr (3, [.ref (b 1), .ref (b 2), .ref (b 3), .ref (b 4), .ref (b 5), .int (nI (m_n M)), .int (m_rp M), .int (m_mo M), .int (m_dr M), .int (m_th M), .ref (b 6), .ref (b 7), .ref (b 8), .ref (b 9), .ref (b 10), .ref (b 11), .ref (b 12), .int (nI (m_fm M)), .int (m_ff M)])), ((b 1), .inl (cI, 9, .inl (fN (m_sz M)))), ((b 2), .inl (cI, 9, .inl (fN (m_ac M)))), ((b 3), .inl (cI, 9, .inl (fN (m_li M)))), ((b 4), .inl (cI, 9, .inl (fN (m_pl M)))), ((b 5), .inl (cI, 9, .inl (fN (m_pk M)))), ((b 6), .inl (cI, 36, .inl (fN (m_yd M)))), ((b 7), .inl (cI, 800, .inl (fN (m_fo M)))), ((b 8), .inl (cI, 800, .inl (m_fr M))), ((b 9), .inl (cI, 800, .inl (fN (m_by M)))), ((b 10), .inl (cI, 800, .inl (fN (m_dp M)))), ((b 11), .inl (cI, 2048, .inl (fN (updN (m_sl M) s_g ((m_fm M) + 1))))), ((b 12), .inl (cI, 9, .inl (fN (m_kp M))))] := hD
            refine lv_aload_n hx hb dX3_takes_86 rfl (lv_at hl 0 rfl) ?_
            refine va_get (D := G) (ci := 3) (v := .ref (b 7)) (C := RX3) (T := TX3) (N := 19) hx hb hts in_X3_takes_3 hown hK hP 0 rfl rfl 11 (by decide) (hts (.fieldLink RX3 32 "RampJamModel" "found" "[I") (by decide +kernel)) (fun _ h9 => h9) rfl dX3_takes_87 ?_
            refine lv_aload_n hx hb dX3_takes_90 rfl (lv_at hl 0 rfl) ?_
            refine va_get (D := G) (ci := 3) (v := .int (nI (m_fm M))) (C := RX3) (T := TX3) (N := 19) hx hb hts in_X3_takes_3 hown hK hP 0 rfl rfl 17 (by decide) (hts (.fieldLink RX3 96 "RampJamModel" "foundMany" "I") (by decide +kernel)) (fun _ h9 => h9) rfl dX3_takes_91 ?_
            refine lv_iload_n hx hb dX3_takes_94 rfl (lv_at hl 3 rfl) ?_
            refine va_iast hx hb hK hP hD hS 7 0 rfl rfl (vp_in_nI (by omega) (by decide)) dX3_takes_95 (fun H locs hP hD hS => ?_)
            rw [show (nI (m_fm M)).toNatClampNeg = (m_fm M) from nI_clamp (by omega)] at hP hD
            rw [fN_upd] at hP hD
            have hP : va_P G vwCl [((b 0), .inr (3, [.ref (b 1), .ref (b 2), .ref (b 3), .ref (b 4), .ref (b 5), .int (nI (m_n M)), .int (m_rp M), .int (m_mo M), .int (m_dr M), .int (m_th M), .ref (b 6), .ref (b 7), .ref (b 8), .ref (b 9), .ref (b 10), .ref (b 11), .ref (b 12), .int (nI (m_fm M)), .int (m_ff M)])), ((b 1), .inl (cI, 9, .inl (fN (m_sz M)))), ((b 2), .inl (cI, 9, .inl (fN (m_ac M)))), ((b 3), .inl (cI, 9, .inl (fN (m_li M)))), ((b 4), .inl (cI, 9, .inl (fN (m_pl M)))), ((b 5), .inl (cI, 9, .inl (fN (m_pk M)))), ((b 6), .inl (cI, 36, .inl (fN (m_yd M)))), ((b 7), .inl (cI, 800, .inl (fN (updN (m_fo M) (m_fm M) (pnow M))))), ((b 8), .inl (cI, 800, .inl (m_fr M))), ((b 9), .inl (cI, 800, .inl (fN (m_by M)))), ((b 10), .inl (cI, 800, .inl (fN (m_dp M)))), ((b 11), .inl (cI, 2048, .inl (fN (updN (m_sl M) s_g ((m_fm M) + 1))))), ((b 12), .inl (cI, 9, .inl (fN (m_kp M))))] H := hP
            have hD : va_D A [((b 0), .inr (3, [.ref (b 1), .ref (b 2), .ref (b 3), .ref (b 4), .ref (b 5), .int (nI (m_n M)), .int (m_rp M), .int (m_mo M), .int (m_dr M), .int (m_th M), .ref (b 6), .ref (b 7), .ref (b 8), .ref (b 9), .ref (b 10), .ref (b 11), .ref (b 12), .int (nI (m_fm M)), .int (m_ff M)])), ((b 1), .inl (cI, 9, .inl (fN (m_sz M)))), ((b 2), .inl (cI, 9, .inl (fN (m_ac M)))), ((b 3), .inl (cI, 9, .inl (fN (m_li M)))), ((b 4), .inl (cI, 9, .inl (fN (m_pl M)))), ((b 5), .inl (cI, 9, .inl (fN (m_pk M)))), ((b 6), .inl (cI, 36, .inl (fN (m_yd M)))), ((b 7), .inl (cI, 800, .inl (fN (updN (m_fo M) (m_fm M) (pnow M))))), ((b 8), .inl (cI, 800, .inl (m_fr M))), ((b 9), .inl (cI, 800, .inl (fN (m_by M)))), ((b 10), .inl (cI, 800, .inl (fN (m_dp M)))), ((b 11), .inl (cI, 2048, .inl (fN (updN (m_sl M) s_g ((m_fm M) + 1))))), ((b 12), .inl (cI, 9, .inl (fN (m_kp M))))] := hD
            refine lv_aload_n hx hb dX3_takes_96 rfl (lv_at hl 0 rfl) ?_
            refine va_get (D := G) (ci := 3) (v := .ref (b 8)) (C := RX3) (T := TX3) (N := 19) hx hb hts in_X3_takes_3 hown hK hP 0 rfl rfl 12 (by decide) (hts (.fieldLink RX3 35 "RampJamModel" "from" "[I") (by decide +kernel)) (fun _ h9 => h9) rfl dX3_takes_97 ?_
            refine lv_aload_n hx hb dX3_takes_100 rfl (lv_at hl 0 rfl) ?_
            refine va_get (D := G) (ci := 3) (v := .int (nI (m_fm M))) (C := RX3) (T := TX3) (N := 19) hx hb hts in_X3_takes_3 hown hK hP 0 rfl rfl 17 (by decide) (hts (.fieldLink RX3 96 "RampJamModel" "foundMany" "I") (by decide +kernel)) (fun _ h9 => h9) rfl dX3_takes_101 ?_
            refine lv_iload_n hx hb dX3_takes_104 rfl (lv_at hl 1 rfl) ?_
            refine va_iast hx hb hK hP hD hS 8 0 rfl rfl (vp_in_nI (by omega) (by decide)) dX3_takes_105 (fun H locs hP hD hS => ?_)
            rw [show (nI (m_fm M)).toNatClampNeg = (m_fm M) from nI_clamp (by omega)] at hP hD
            have hP : va_P G vwCl [((b 0), .inr (3, [.ref (b 1), .ref (b 2), .ref (b 3), .ref (b 4), .ref (b 5), .int (nI (m_n M)), .int (m_rp M), .int (m_mo M), .int (m_dr M), .int (m_th M), .ref (b 6), .ref (b 7), .ref (b 8), .ref (b 9), .ref (b 10), .ref (b 11), .ref (b 12), .int (nI (m_fm M)), .int (m_ff M)])), ((b 1), .inl (cI, 9, .inl (fN (m_sz M)))), ((b 2), .inl (cI, 9, .inl (fN (m_ac M)))), ((b 3), .inl (cI, 9, .inl (fN (m_li M)))), ((b 4), .inl (cI, 9, .inl (fN (m_pl M)))), ((b 5), .inl (cI, 9, .inl (fN (m_pk M)))), ((b 6), .inl (cI, 36, .inl (fN (m_yd M)))), ((b 7), .inl (cI, 800, .inl (fN (updN (m_fo M) (m_fm M) (pnow M))))), ((b 8), .inl (cI, 800, .inl (upd (m_fr M) (m_fm M) o_g))), ((b 9), .inl (cI, 800, .inl (fN (m_by M)))), ((b 10), .inl (cI, 800, .inl (fN (m_dp M)))), ((b 11), .inl (cI, 2048, .inl (fN (updN (m_sl M) s_g ((m_fm M) + 1))))), ((b 12), .inl (cI, 9, .inl (fN (m_kp M))))] H := hP
            have hD : va_D A [((b 0), .inr (3, [.ref (b 1), .ref (b 2), .ref (b 3), .ref (b 4), .ref (b 5), .int (nI (m_n M)), .int (m_rp M), .int (m_mo M), .int (m_dr M), .int (m_th M), .ref (b 6), .ref (b 7), .ref (b 8), .ref (b 9), .ref (b 10), .ref (b 11), .ref (b 12), .int (nI (m_fm M)), .int (m_ff M)])), ((b 1), .inl (cI, 9, .inl (fN (m_sz M)))), ((b 2), .inl (cI, 9, .inl (fN (m_ac M)))), ((b 3), .inl (cI, 9, .inl (fN (m_li M)))), ((b 4), .inl (cI, 9, .inl (fN (m_pl M)))), ((b 5), .inl (cI, 9, .inl (fN (m_pk M)))), ((b 6), .inl (cI, 36, .inl (fN (m_yd M)))), ((b 7), .inl (cI, 800, .inl (fN (updN (m_fo M) (m_fm M) (pnow M))))), ((b 8), .inl (cI, 800, .inl (upd (m_fr M) (m_fm M) o_g))), ((b 9), .inl (cI, 800, .inl (fN (m_by M)))), ((b 10), .inl (cI, 800, .inl (fN (m_dp M)))), ((b 11), .inl (cI, 2048, .inl (fN (updN (m_sl M) s_g ((m_fm M) + 1))))), ((b 12), .inl (cI, 9, .inl (fN (m_kp M))))] := hD
            refine lv_aload_n hx hb dX3_takes_106 rfl (lv_at hl 0 rfl) ?_
            refine va_get (D := G) (ci := 3) (v := .ref (b 9)) (C := RX3) (T := TX3) (N := 19) hx hb hts in_X3_takes_3 hown hK hP 0 rfl rfl 13 (by decide) (hts (.fieldLink RX3 38 "RampJamModel" "by" "[I") (by decide +kernel)) (fun _ h9 => h9) rfl dX3_takes_107 ?_
            refine lv_aload_n hx hb dX3_takes_110 rfl (lv_at hl 0 rfl) ?_
            refine va_get (D := G) (ci := 3) (v := .int (nI (m_fm M))) (C := RX3) (T := TX3) (N := 19) hx hb hts in_X3_takes_3 hown hK hP 0 rfl rfl 17 (by decide) (hts (.fieldLink RX3 96 "RampJamModel" "foundMany" "I") (by decide +kernel)) (fun _ h9 => h9) rfl dX3_takes_111 ?_
            refine lv_iload_n hx hb dX3_takes_114 rfl (lv_at hl 2 rfl) ?_
            refine va_iast hx hb hK hP hD hS 9 0 rfl rfl (vp_in_nI (by omega) (by decide)) dX3_takes_115 (fun H locs hP hD hS => ?_)
            rw [show (nI (m_fm M)).toNatClampNeg = (m_fm M) from nI_clamp (by omega)] at hP hD
            rw [fN_upd] at hP hD
            have hP : va_P G vwCl [((b 0), .inr (3, [.ref (b 1), .ref (b 2), .ref (b 3), .ref (b 4), .ref (b 5), .int (nI (m_n M)), .int (m_rp M), .int (m_mo M), .int (m_dr M), .int (m_th M), .ref (b 6), .ref (b 7), .ref (b 8), .ref (b 9), .ref (b 10), .ref (b 11), .ref (b 12), .int (nI (m_fm M)), .int (m_ff M)])), ((b 1), .inl (cI, 9, .inl (fN (m_sz M)))), ((b 2), .inl (cI, 9, .inl (fN (m_ac M)))), ((b 3), .inl (cI, 9, .inl (fN (m_li M)))), ((b 4), .inl (cI, 9, .inl (fN (m_pl M)))), ((b 5), .inl (cI, 9, .inl (fN (m_pk M)))), ((b 6), .inl (cI, 36, .inl (fN (m_yd M)))), ((b 7), .inl (cI, 800, .inl (fN (updN (m_fo M) (m_fm M) (pnow M))))), ((b 8), .inl (cI, 800, .inl (upd (m_fr M) (m_fm M) o_g))), ((b 9), .inl (cI, 800, .inl (fN (updN (m_by M) (m_fm M) z_g)))), ((b 10), .inl (cI, 800, .inl (fN (m_dp M)))), ((b 11), .inl (cI, 2048, .inl (fN (updN (m_sl M) s_g ((m_fm M) + 1))))), ((b 12), .inl (cI, 9, .inl (fN (m_kp M))))] H := hP
            have hD : va_D A [((b 0), .inr (3, [.ref (b 1), .ref (b 2), .ref (b 3), .ref (b 4), .ref (b 5), .int (nI (m_n M)), .int (m_rp M), .int (m_mo M), .int (m_dr M), .int (m_th M), .ref (b 6), .ref (b 7), .ref (b 8), .ref (b 9), .ref (b 10), .ref (b 11), .ref (b 12), .int (nI (m_fm M)), .int (m_ff M)])), ((b 1), .inl (cI, 9, .inl (fN (m_sz M)))), ((b 2), .inl (cI, 9, .inl (fN (m_ac M)))), ((b 3), .inl (cI, 9, .inl (fN (m_li M)))), ((b 4), .inl (cI, 9, .inl (fN (m_pl M)))), ((b 5), .inl (cI, 9, .inl (fN (m_pk M)))), ((b 6), .inl (cI, 36, .inl (fN (m_yd M)))), ((b 7), .inl (cI, 800, .inl (fN (updN (m_fo M) (m_fm M) (pnow M))))), ((b 8), .inl (cI, 800, .inl (upd (m_fr M) (m_fm M) o_g))), ((b 9), .inl (cI, 800, .inl (fN (updN (m_by M) (m_fm M) z_g)))), ((b 10), .inl (cI, 800, .inl (fN (m_dp M)))), ((b 11), .inl (cI, 2048, .inl (fN (updN (m_sl M) s_g ((m_fm M) + 1))))), ((b 12), .inl (cI, 9, .inl (fN (m_kp M))))] := hD
            refine lv_aload_n hx hb dX3_takes_116 rfl (lv_at hl 0 rfl) ?_
            refine va_get (D := G) (ci := 3) (v := .ref (b 10)) (C := RX3) (T := TX3) (N := 19) hx hb hts in_X3_takes_3 hown hK hP 0 rfl rfl 14 (by decide) (hts (.fieldLink RX3 41 "RampJamModel" "depth" "[I") (by decide +kernel)) (fun _ h9 => h9) rfl dX3_takes_117 ?_
            refine lv_aload_n hx hb dX3_takes_120 rfl (lv_at hl 0 rfl) ?_
            refine va_get (D := G) (ci := 3) (v := .int (nI (m_fm M))) (C := RX3) (T := TX3) (N := 19) hx hb hts in_X3_takes_3 hown hK hP 0 rfl rfl 17 (by decide) (hts (.fieldLink RX3 96 "RampJamModel" "foundMany" "I") (by decide +kernel)) (fun _ h9 => h9) rfl dX3_takes_121 ?_
            have cut_140 : ∀ (x_g : Nat), (x_g = tk_d M o_g) → ∀ (H : Heap) (locs : List Loc), va_P G vwCl [((b 0), .inr (3, [.ref (b 1), .ref (b 2), .ref (b 3), .ref (b 4), .ref (b 5), .int (nI (m_n M)), .int (m_rp M), .int (m_mo M), .int (m_dr M), .int (m_th M), .ref (b 6), .ref (b 7), .ref (b 8), .ref (b 9), .ref (b 10), .ref (b 11), .ref (b 12), .int (nI (m_fm M)), .int (m_ff M)])), ((b 1), .inl (cI, 9, .inl (fN (m_sz M)))), ((b 2), .inl (cI, 9, .inl (fN (m_ac M)))), ((b 3), .inl (cI, 9, .inl (fN (m_li M)))), ((b 4), .inl (cI, 9, .inl (fN (m_pl M)))), ((b 5), .inl (cI, 9, .inl (fN (m_pk M)))), ((b 6), .inl (cI, 36, .inl (fN (m_yd M)))), ((b 7), .inl (cI, 800, .inl (fN (updN (m_fo M) (m_fm M) (pnow M))))), ((b 8), .inl (cI, 800, .inl (upd (m_fr M) (m_fm M) o_g))), ((b 9), .inl (cI, 800, .inl (fN (updN (m_by M) (m_fm M) z_g)))), ((b 10), .inl (cI, 800, .inl (fN (m_dp M)))), ((b 11), .inl (cI, 2048, .inl (fN (updN (m_sl M) s_g ((m_fm M) + 1))))), ((b 12), .inl (cI, 9, .inl (fN (m_kp M))))] H → va_D A [((b 0), .inr (3, [.ref (b 1), .ref (b 2), .ref (b 3), .ref (b 4), .ref (b 5), .int (nI (m_n M)), .int (m_rp M), .int (m_mo M), .int (m_dr M), .int (m_th M), .ref (b 6), .ref (b 7), .ref (b 8), .ref (b 9), .ref (b 10), .ref (b 11), .ref (b 12), .int (nI (m_fm M)), .int (m_ff M)])), ((b 1), .inl (cI, 9, .inl (fN (m_sz M)))), ((b 2), .inl (cI, 9, .inl (fN (m_ac M)))), ((b 3), .inl (cI, 9, .inl (fN (m_li M)))), ((b 4), .inl (cI, 9, .inl (fN (m_pl M)))), ((b 5), .inl (cI, 9, .inl (fN (m_pk M)))), ((b 6), .inl (cI, 36, .inl (fN (m_yd M)))), ((b 7), .inl (cI, 800, .inl (fN (updN (m_fo M) (m_fm M) (pnow M))))), ((b 8), .inl (cI, 800, .inl (upd (m_fr M) (m_fm M) o_g))), ((b 9), .inl (cI, 800, .inl (fN (updN (m_by M) (m_fm M) z_g)))), ((b 10), .inl (cI, 800, .inl (fN (m_dp M)))), ((b 11), .inl (cI, 2048, .inl (fN (updN (m_sl M) s_g ((m_fm M) + 1))))), ((b 12), .inl (cI, 9, .inl (fN (m_kp M))))] → va_S A s.heap H locs → ∀ (ls : Array Slot), lv_has ls 5 [(0, .ref (b 0)), (1, .int o_g), (2, .int (nI z_g)), (3, .int (nI (pnow M))), (4, .int (nI s_g))] → W p l e (headSpec wsX3_takes ({ frames := 1, cells := 0, slots := 0, locals := 22 })).room s m ([.ref (b 0), .int o_g, .int (nI z_g)] : List Value).toArray below meth c H locs 0 0 (MQ below (va_Qv (fun u : MS => u = (m_takes M o_g z_g)) (fun (u : MS) (t : State) => va_P G vwCl ((fun u : MS => wM cI b u) u) t.heap ∧ va_D A ((fun u : MS => wM cI b u) u)) A) ([.ref (b 0), .int o_g, .int (nI z_g)] : List Value).toArray s 0 0 A) (F0 m 140 ls [.int (nI x_g), .int (nI (m_fm M)), .ref (b 10)]) := by
              intro x_g ex_g H locs hP hD hS ls hl
              subst ex_g
              try have hl : lv_has ls 5 [(0, .ref (b 0)), (1, .int o_g), (2, .int (nI z_g)), (3, .int (nI (pnow M))), (4, .int (nI s_g))] := hl
              refine va_iast hx hb hK hP hD hS 10 0 rfl rfl (vp_in_nI (by omega) (by decide)) dX3_takes_140 (fun H locs hP hD hS => ?_)
              rw [show (nI (m_fm M)).toNatClampNeg = (m_fm M) from nI_clamp (by omega)] at hP hD
              rw [fN_upd] at hP hD
              have hP : va_P G vwCl [((b 0), .inr (3, [.ref (b 1), .ref (b 2), .ref (b 3), .ref (b 4), .ref (b 5), .int (nI (m_n M)), .int (m_rp M), .int (m_mo M), .int (m_dr M), .int (m_th M), .ref (b 6), .ref (b 7), .ref (b 8), .ref (b 9), .ref (b 10), .ref (b 11), .ref (b 12), .int (nI (m_fm M)), .int (m_ff M)])), ((b 1), .inl (cI, 9, .inl (fN (m_sz M)))), ((b 2), .inl (cI, 9, .inl (fN (m_ac M)))), ((b 3), .inl (cI, 9, .inl (fN (m_li M)))), ((b 4), .inl (cI, 9, .inl (fN (m_pl M)))), ((b 5), .inl (cI, 9, .inl (fN (m_pk M)))), ((b 6), .inl (cI, 36, .inl (fN (m_yd M)))), ((b 7), .inl (cI, 800, .inl (fN (updN (m_fo M) (m_fm M) (pnow M))))), ((b 8), .inl (cI, 800, .inl (upd (m_fr M) (m_fm M) o_g))), ((b 9), .inl (cI, 800, .inl (fN (updN (m_by M) (m_fm M) z_g)))), ((b 10), .inl (cI, 800, .inl (fN (updN (m_dp M) (m_fm M) (tk_d M o_g))))), ((b 11), .inl (cI, 2048, .inl (fN (updN (m_sl M) s_g ((m_fm M) + 1))))), ((b 12), .inl (cI, 9, .inl (fN (m_kp M))))] H := hP
              have hD : va_D A [((b 0), .inr (3, [.ref (b 1), .ref (b 2), .ref (b 3), .ref (b 4), .ref (b 5), .int (nI (m_n M)), .int (m_rp M), .int (m_mo M), .int (m_dr M), .int (m_th M), .ref (b 6), .ref (b 7), .ref (b 8), .ref (b 9), .ref (b 10), .ref (b 11), .ref (b 12), .int (nI (m_fm M)), .int (m_ff M)])), ((b 1), .inl (cI, 9, .inl (fN (m_sz M)))), ((b 2), .inl (cI, 9, .inl (fN (m_ac M)))), ((b 3), .inl (cI, 9, .inl (fN (m_li M)))), ((b 4), .inl (cI, 9, .inl (fN (m_pl M)))), ((b 5), .inl (cI, 9, .inl (fN (m_pk M)))), ((b 6), .inl (cI, 36, .inl (fN (m_yd M)))), ((b 7), .inl (cI, 800, .inl (fN (updN (m_fo M) (m_fm M) (pnow M))))), ((b 8), .inl (cI, 800, .inl (upd (m_fr M) (m_fm M) o_g))), ((b 9), .inl (cI, 800, .inl (fN (updN (m_by M) (m_fm M) z_g)))), ((b 10), .inl (cI, 800, .inl (fN (updN (m_dp M) (m_fm M) (tk_d M o_g))))), ((b 11), .inl (cI, 2048, .inl (fN (updN (m_sl M) s_g ((m_fm M) + 1))))), ((b 12), .inl (cI, 9, .inl (fN (m_kp M))))] := hD
              refine lv_aload_n hx hb dX3_takes_141 rfl (lv_at hl 0 rfl) ?_
              have cut_167 : ∀ (x_g : Int32), (x_g = (tk_f M)) → ∀ (H : Heap) (locs : List Loc), va_P G vwCl [((b 0), .inr (3, [.ref (b 1), .ref (b 2), .ref (b 3), .ref (b 4), .ref (b 5), .int (nI (m_n M)), .int (m_rp M), .int (m_mo M), .int (m_dr M), .int (m_th M), .ref (b 6), .ref (b 7), .ref (b 8), .ref (b 9), .ref (b 10), .ref (b 11), .ref (b 12), .int (nI (m_fm M)), .int (m_ff M)])), ((b 1), .inl (cI, 9, .inl (fN (m_sz M)))), ((b 2), .inl (cI, 9, .inl (fN (m_ac M)))), ((b 3), .inl (cI, 9, .inl (fN (m_li M)))), ((b 4), .inl (cI, 9, .inl (fN (m_pl M)))), ((b 5), .inl (cI, 9, .inl (fN (m_pk M)))), ((b 6), .inl (cI, 36, .inl (fN (m_yd M)))), ((b 7), .inl (cI, 800, .inl (fN (updN (m_fo M) (m_fm M) (pnow M))))), ((b 8), .inl (cI, 800, .inl (upd (m_fr M) (m_fm M) o_g))), ((b 9), .inl (cI, 800, .inl (fN (updN (m_by M) (m_fm M) z_g)))), ((b 10), .inl (cI, 800, .inl (fN (updN (m_dp M) (m_fm M) (tk_d M o_g))))), ((b 11), .inl (cI, 2048, .inl (fN (updN (m_sl M) s_g ((m_fm M) + 1))))), ((b 12), .inl (cI, 9, .inl (fN (m_kp M))))] H → va_D A [((b 0), .inr (3, [.ref (b 1), .ref (b 2), .ref (b 3), .ref (b 4), .ref (b 5), .int (nI (m_n M)), .int (m_rp M), .int (m_mo M), .int (m_dr M), .int (m_th M), .ref (b 6), .ref (b 7), .ref (b 8), .ref (b 9), .ref (b 10), .ref (b 11), .ref (b 12), .int (nI (m_fm M)), .int (m_ff M)])), ((b 1), .inl (cI, 9, .inl (fN (m_sz M)))), ((b 2), .inl (cI, 9, .inl (fN (m_ac M)))), ((b 3), .inl (cI, 9, .inl (fN (m_li M)))), ((b 4), .inl (cI, 9, .inl (fN (m_pl M)))), ((b 5), .inl (cI, 9, .inl (fN (m_pk M)))), ((b 6), .inl (cI, 36, .inl (fN (m_yd M)))), ((b 7), .inl (cI, 800, .inl (fN (updN (m_fo M) (m_fm M) (pnow M))))), ((b 8), .inl (cI, 800, .inl (upd (m_fr M) (m_fm M) o_g))), ((b 9), .inl (cI, 800, .inl (fN (updN (m_by M) (m_fm M) z_g)))), ((b 10), .inl (cI, 800, .inl (fN (updN (m_dp M) (m_fm M) (tk_d M o_g))))), ((b 11), .inl (cI, 2048, .inl (fN (updN (m_sl M) s_g ((m_fm M) + 1))))), ((b 12), .inl (cI, 9, .inl (fN (m_kp M))))] → va_S A s.heap H locs → ∀ (ls : Array Slot), lv_has ls 5 [(0, .ref (b 0)), (1, .int o_g), (2, .int (nI z_g)), (3, .int (nI (pnow M))), (4, .int (nI s_g))] → W p l e (headSpec wsX3_takes ({ frames := 1, cells := 0, slots := 0, locals := 22 })).room s m ([.ref (b 0), .int o_g, .int (nI z_g)] : List Value).toArray below meth c H locs 0 0 (MQ below (va_Qv (fun u : MS => u = (m_takes M o_g z_g)) (fun (u : MS) (t : State) => va_P G vwCl ((fun u : MS => wM cI b u) u) t.heap ∧ va_D A ((fun u : MS => wM cI b u) u)) A) ([.ref (b 0), .int o_g, .int (nI z_g)] : List Value).toArray s 0 0 A) (F0 m 167 ls [.int x_g, .ref (b 0)]) := by
                intro x_g ex_g H locs hP hD hS ls hl
                subst ex_g
                try have hl : lv_has ls 5 [(0, .ref (b 0)), (1, .int o_g), (2, .int (nI z_g)), (3, .int (nI (pnow M))), (4, .int (nI s_g))] := hl
                refine va_put (D := G) (ci := 3) (v := .int (tk_f M)) (ty := .int) (C := RX3) (T := TX3) (N := 19) hx hb hts in_X3_takes_3 tyX3 tyX3_ok nmX3 hown hK hP hD hS 0 rfl rfl 18 (by decide) (hts (.fieldLink RX3 99 "RampJamModel" "firstFree" "I") (by decide +kernel)) (fun _ h9 => h9) rfl (by decide +kernel) rfl rfl (Nat.le_of_ble_eq_true rfl) dX3_takes_167 (fun H locs hP hD hS => ?_)
                have hP : va_P G vwCl [((b 0), .inr (3, [.ref (b 1), .ref (b 2), .ref (b 3), .ref (b 4), .ref (b 5), .int (nI (m_n M)), .int (m_rp M), .int (m_mo M), .int (m_dr M), .int (m_th M), .ref (b 6), .ref (b 7), .ref (b 8), .ref (b 9), .ref (b 10), .ref (b 11), .ref (b 12), .int (nI (m_fm M)), .int (tk_f M)])), ((b 1), .inl (cI, 9, .inl (fN (m_sz M)))), ((b 2), .inl (cI, 9, .inl (fN (m_ac M)))), ((b 3), .inl (cI, 9, .inl (fN (m_li M)))), ((b 4), .inl (cI, 9, .inl (fN (m_pl M)))), ((b 5), .inl (cI, 9, .inl (fN (m_pk M)))), ((b 6), .inl (cI, 36, .inl (fN (m_yd M)))), ((b 7), .inl (cI, 800, .inl (fN (updN (m_fo M) (m_fm M) (pnow M))))), ((b 8), .inl (cI, 800, .inl (upd (m_fr M) (m_fm M) o_g))), ((b 9), .inl (cI, 800, .inl (fN (updN (m_by M) (m_fm M) z_g)))), ((b 10), .inl (cI, 800, .inl (fN (updN (m_dp M) (m_fm M) (tk_d M o_g))))), ((b 11), .inl (cI, 2048, .inl (fN (updN (m_sl M) s_g ((m_fm M) + 1))))), ((b 12), .inl (cI, 9, .inl (fN (m_kp M))))] H := hP
                have hD : va_D A [((b 0), .inr (3, [.ref (b 1), .ref (b 2), .ref (b 3), .ref (b 4), .ref (b 5), .int (nI (m_n M)), .int (m_rp M), .int (m_mo M), .int (m_dr M), .int (m_th M), .ref (b 6), .ref (b 7), .ref (b 8), .ref (b 9), .ref (b 10), .ref (b 11), .ref (b 12), .int (nI (m_fm M)), .int (tk_f M)])), ((b 1), .inl (cI, 9, .inl (fN (m_sz M)))), ((b 2), .inl (cI, 9, .inl (fN (m_ac M)))), ((b 3), .inl (cI, 9, .inl (fN (m_li M)))), ((b 4), .inl (cI, 9, .inl (fN (m_pl M)))), ((b 5), .inl (cI, 9, .inl (fN (m_pk M)))), ((b 6), .inl (cI, 36, .inl (fN (m_yd M)))), ((b 7), .inl (cI, 800, .inl (fN (updN (m_fo M) (m_fm M) (pnow M))))), ((b 8), .inl (cI, 800, .inl (upd (m_fr M) (m_fm M) o_g))), ((b 9), .inl (cI, 800, .inl (fN (updN (m_by M) (m_fm M) z_g)))), ((b 10), .inl (cI, 800, .inl (fN (updN (m_dp M) (m_fm M) (tk_d M o_g))))), ((b 11), .inl (cI, 2048, .inl (fN (updN (m_sl M) s_g ((m_fm M) + 1))))), ((b 12), .inl (cI, 9, .inl (fN (m_kp M))))] := hD
                refine lv_aload_n hx hb dX3_takes_170 rfl (lv_at hl 0 rfl) ?_
                refine lv_dup hx hb dX3_takes_171 rfl ?_
                refine va_get (D := G) (ci := 3) (v := .int (nI (m_fm M))) (C := RX3) (T := TX3) (N := 19) hx hb hts in_X3_takes_3 hown hK hP 0 rfl rfl 17 (by decide) (hts (.fieldLink RX3 96 "RampJamModel" "foundMany" "I") (by decide +kernel)) (fun _ h9 => h9) rfl dX3_takes_172 ?_
                refine lv_iconst (v := 1) hx hb dX3_takes_175 (by decide) ?_
                refine lv_iadd hx hb dX3_takes_176 ?_
                rw [show ((nI (m_fm M)) + 1 : Int32) = (nI ((m_fm M) + 1)) from nI_add (m_fm M) 1]
                refine va_put (D := G) (ci := 3) (v := .int (nI ((m_fm M) + 1))) (ty := .int) (C := RX3) (T := TX3) (N := 19) hx hb hts in_X3_takes_3 tyX3 tyX3_ok nmX3 hown hK hP hD hS 0 rfl rfl 17 (by decide) (hts (.fieldLink RX3 96 "RampJamModel" "foundMany" "I") (by decide +kernel)) (fun _ h9 => h9) rfl (by decide +kernel) rfl rfl (Nat.le_of_ble_eq_true rfl) dX3_takes_177 (fun H locs hP hD hS => ?_)
                have hP : va_P G vwCl [((b 0), .inr (3, [.ref (b 1), .ref (b 2), .ref (b 3), .ref (b 4), .ref (b 5), .int (nI (m_n M)), .int (m_rp M), .int (m_mo M), .int (m_dr M), .int (m_th M), .ref (b 6), .ref (b 7), .ref (b 8), .ref (b 9), .ref (b 10), .ref (b 11), .ref (b 12), .int (nI ((m_fm M) + 1)), .int (tk_f M)])), ((b 1), .inl (cI, 9, .inl (fN (m_sz M)))), ((b 2), .inl (cI, 9, .inl (fN (m_ac M)))), ((b 3), .inl (cI, 9, .inl (fN (m_li M)))), ((b 4), .inl (cI, 9, .inl (fN (m_pl M)))), ((b 5), .inl (cI, 9, .inl (fN (m_pk M)))), ((b 6), .inl (cI, 36, .inl (fN (m_yd M)))), ((b 7), .inl (cI, 800, .inl (fN (updN (m_fo M) (m_fm M) (pnow M))))), ((b 8), .inl (cI, 800, .inl (upd (m_fr M) (m_fm M) o_g))), ((b 9), .inl (cI, 800, .inl (fN (updN (m_by M) (m_fm M) z_g)))), ((b 10), .inl (cI, 800, .inl (fN (updN (m_dp M) (m_fm M) (tk_d M o_g))))), ((b 11), .inl (cI, 2048, .inl (fN (updN (m_sl M) s_g ((m_fm M) + 1))))), ((b 12), .inl (cI, 9, .inl (fN (m_kp M))))] H := hP
                have hD : va_D A [((b 0), .inr (3, [.ref (b 1), .ref (b 2), .ref (b 3), .ref (b 4), .ref (b 5), .int (nI (m_n M)), .int (m_rp M), .int (m_mo M), .int (m_dr M), .int (m_th M), .ref (b 6), .ref (b 7), .ref (b 8), .ref (b 9), .ref (b 10), .ref (b 11), .ref (b 12), .int (nI ((m_fm M) + 1)), .int (tk_f M)])), ((b 1), .inl (cI, 9, .inl (fN (m_sz M)))), ((b 2), .inl (cI, 9, .inl (fN (m_ac M)))), ((b 3), .inl (cI, 9, .inl (fN (m_li M)))), ((b 4), .inl (cI, 9, .inl (fN (m_pl M)))), ((b 5), .inl (cI, 9, .inl (fN (m_pk M)))), ((b 6), .inl (cI, 36, .inl (fN (m_yd M)))), ((b 7), .inl (cI, 800, .inl (fN (updN (m_fo M) (m_fm M) (pnow M))))), ((b 8), .inl (cI, 800, .inl (upd (m_fr M) (m_fm M) o_g))), ((b 9), .inl (cI, 800, .inl (fN (updN (m_by M) (m_fm M) z_g)))), ((b 10), .inl (cI, 800, .inl (fN (updN (m_dp M) (m_fm M) (tk_d M o_g))))), ((b 11), .inl (cI, 2048, .inl (fN (updN (m_sl M) s_g ((m_fm M) + 1))))), ((b 12), .inl (cI, 9, .inl (fN (m_kp M))))] := hD
                have hP9 := hP
                have hD9 := hD
                exact W.vret hx hb hr (fun t ht hW => ⟨⟨((m_sz M), (m_ac M), (m_li M), (m_pl M), (m_pk M), (m_n M), (m_rp M), (m_mo M), (m_dr M), (m_th M), (m_yd M), (updN (m_fo M) (m_fm M) (pnow M)), (upd (m_fr M) (m_fm M) o_g), (updN (m_by M) (m_fm M) z_g), (updN (m_dp M) (m_fm M) (tk_d M o_g)), (updN (m_sl M) s_g ((m_fm M) + 1)), (m_kp M), ((m_fm M) + 1), (tk_f M)), rfl, by rw [m_takes, htk, if_pos ⟨hz0, hroom⟩]; rfl, by rw [ht]; exact hP9, hD9⟩, hS.F ht⟩) hS.2.2 dX3_takes_180
              refine lv_aload_n hx hb dX3_takes_142 rfl (lv_at hl 0 rfl) ?_
              refine va_get (D := G) (ci := 3) (v := .int (m_ff M)) (C := RX3) (T := TX3) (N := 19) hx hb hts in_X3_takes_3 hown hK hP 0 rfl rfl 18 (by decide) (hts (.fieldLink RX3 99 "RampJamModel" "firstFree" "I") (by decide +kernel)) (fun _ h9 => h9) rfl dX3_takes_143 ?_
              refine lv_if_ge (tgt := 163) hx hb dX3_takes_146 (by decide) (fun c_4 => ?_) (fun c_4 => ?_)
              · refine lv_aload_n hx hb dX3_takes_163 rfl (lv_at hl 0 rfl) ?_
                refine va_get (D := G) (ci := 3) (v := .int (m_ff M)) (C := RX3) (T := TX3) (N := 19) hx hb hts in_X3_takes_3 hown hK hP 0 rfl rfl 18 (by decide) (hts (.fieldLink RX3 99 "RampJamModel" "firstFree" "I") (by decide +kernel)) (fun _ h9 => h9) rfl dX3_takes_164 ?_
                exact cut_167 (m_ff M) (by first | (rw [tk_f, if_pos]; exact ⟨by assumption, by assumption⟩) | (rw [tk_f, if_neg]; rintro ⟨h1, h2⟩; contradiction)) _ _ hP hD hS _ hl
              · refine lv_aload_n hx hb dX3_takes_149 rfl (lv_at hl 0 rfl) ?_
                refine ro_i (va_runV (As := []) (rest := [.ref (b 0)]) ⟨hx, hb, hml, hown, hts⟩ ((c_X3_isFree l G cI cZ cJ b _ ((m_sz M), (m_ac M), (m_li M), (m_pl M), (m_pk M), (m_n M), (m_rp M), (m_mo M), (m_dr M), (m_th M), (m_yd M), (updN (m_fo M) (m_fm M) (pnow M)), (upd (m_fr M) (m_fm M) o_g), (updN (m_by M) (m_fm M) z_g), (updN (m_dp M) (m_fm M) (tk_d M o_g)), (updN (m_sl M) s_g ((m_fm M) + 1)), (m_kp M), (m_fm M), (m_ff M)) hok)) (cwV 0 hts gX3_takes_X3_isFree rfl rfl rfl (by decide +kernel) ⟨Nat.le_of_ble_eq_true rfl, Nat.le_of_ble_eq_true rfl⟩) ⟨ro_blind, va_recv hK hP (ci := 3) (q0 := 0) rfl rfl, ro_pre hP hK hN⟩ rfl rfl hl.1 rfl (lv_room (Nat.le_of_ble_eq_true rfl)) dX3_takes_150 ⟨Nat.zero_le _, Nat.zero_le _⟩) hS hA hP (fun H locs hP hS => ?_)
                refine lv_if_eq (tgt := 163) hx hb dX3_takes_153 (by decide) (fun c_5 => ?_) (fun c_5 => ?_)
                · have c_5 := b1_f c_5
                  refine lv_aload_n hx hb dX3_takes_163 rfl (lv_at hl 0 rfl) ?_
                  refine va_get (D := G) (ci := 3) (v := .int (m_ff M)) (C := RX3) (T := TX3) (N := 19) hx hb hts in_X3_takes_3 hown hK hP 0 rfl rfl 18 (by decide) (hts (.fieldLink RX3 99 "RampJamModel" "firstFree" "I") (by decide +kernel)) (fun _ h9 => h9) rfl dX3_takes_164 ?_
                  exact cut_167 (m_ff M) (by first | (rw [tk_f, if_pos]; exact ⟨by assumption, by assumption⟩) | (rw [tk_f, if_neg]; rintro ⟨h1, h2⟩; contradiction)) _ _ hP hD hS _ hl
                · have c_5 := b1_t c_5
                  refine lv_aload_n hx hb dX3_takes_156 rfl (lv_at hl 0 rfl) ?_
                  refine va_get (D := G) (ci := 3) (v := .int (nI (m_fm M))) (C := RX3) (T := TX3) (N := 19) hx hb hts in_X3_takes_3 hown hK hP 0 rfl rfl 17 (by decide) (hts (.fieldLink RX3 96 "RampJamModel" "foundMany" "I") (by decide +kernel)) (fun _ h9 => h9) rfl dX3_takes_157 ?_
                  refine lv_goto (tgt := 167) hx hb dX3_takes_160 (by decide) ?_
                  exact cut_167 (nI (m_fm M)) (by first | (rw [tk_f, if_pos]; exact ⟨by assumption, by assumption⟩) | (rw [tk_f, if_neg]; rintro ⟨h1, h2⟩; contradiction)) _ _ hP hD hS _ hl
            refine lv_iload_n hx hb dX3_takes_124 rfl (lv_at hl 1 rfl) ?_
            refine lv_if_ge (tgt := 132) hx hb dX3_takes_125 (by decide) (fun c_6 => ?_) (fun c_6 => ?_)
            · refine lv_aload_n hx hb dX3_takes_132 rfl (lv_at hl 0 rfl) ?_
              refine va_get (D := G) (ci := 3) (v := .ref (b 10)) (C := RX3) (T := TX3) (N := 19) hx hb hts in_X3_takes_3 hown hK hP 0 rfl rfl 14 (by decide) (hts (.fieldLink RX3 41 "RampJamModel" "depth" "[I") (by decide +kernel)) (fun _ h9 => h9) rfl dX3_takes_133 ?_
              refine lv_iload_n hx hb dX3_takes_136 rfl (lv_at hl 1 rfl) ?_
              refine va_iald hx hb hK hP 10 0 rfl rfl (ho (by assumption)) dX3_takes_137 ?_
              rw [show fN (m_dp M) (o_g.toNatClampNeg) = (nI ((m_dp M) (o_g.toNatClampNeg))) from rfl]
              refine lv_iconst (v := 1) hx hb dX3_takes_138 (by decide) ?_
              refine lv_iadd hx hb dX3_takes_139 ?_
              rw [show ((nI ((m_dp M) (o_g.toNatClampNeg))) + 1 : Int32) = (nI (((m_dp M) (o_g.toNatClampNeg)) + 1)) from nI_add ((m_dp M) (o_g.toNatClampNeg)) 1]
              exact cut_140 (((m_dp M) (o_g.toNatClampNeg)) + 1) (by first | rw [tk_d, if_pos (by assumption)] | rw [tk_d, if_neg (by assumption)]) _ _ hP hD hS _ hl
            · refine lv_iconst (v := 0) hx hb dX3_takes_128 (by decide) ?_
              refine lv_goto (tgt := 140) hx hb dX3_takes_129 (by decide) ?_
              exact cut_140 0 (by first | rw [tk_d, if_pos (by assumption)] | rw [tk_d, if_neg (by assumption)]) _ _ hP hD hS _ hl
      · have c_1 : ¬ ((m_sl M) s_g) = 0 := fun q => c_1 ((nI_eq (a := ((m_sl M) s_g)) (b := 0) (by omega) (by omega)).mpr q)
        have hnz : ¬ m_sl M s_g = 0 := c_1
        have hlt : k_g < 2048 := tk_lt ⟨t1_, t2_, t3_, t4_⟩ hk_12 hvis
        have hfo := t4_ (m_sl M s_g - 1) (by omega)
        refine lv_aload_n hx hb dX3_takes_22 rfl (lv_at hl 0 rfl) ?_
        refine va_get (D := G) (ci := 3) (v := .ref (b 7)) (C := RX3) (T := TX3) (N := 19) hx hb hts in_X3_takes_3 hown hK hP 0 rfl rfl 11 (by decide) (hts (.fieldLink RX3 32 "RampJamModel" "found" "[I") (by decide +kernel)) (fun _ h9 => h9) rfl dX3_takes_23 ?_
        refine lv_aload_n hx hb dX3_takes_26 rfl (lv_at hl 0 rfl) ?_
        refine va_get (D := G) (ci := 3) (v := .ref (b 11)) (C := RX3) (T := TX3) (N := 19) hx hb hts in_X3_takes_3 hown hK hP 0 rfl rfl 15 (by decide) (hts (.fieldLink RX3 44 "RampJamModel" "slots" "[I") (by decide +kernel)) (fun _ h9 => h9) rfl dX3_takes_27 ?_
        refine lv_iload hx hb dX3_takes_30 (lv_at hl 4 rfl) ?_
        refine va_iald hx hb hK hP 11 0 rfl rfl (vp_in_nI (by omega) (by decide)) dX3_takes_32 ?_
        rw [show (nI s_g).toNatClampNeg = s_g from nI_clamp (by omega)]
        rw [show fN (m_sl M) s_g = (nI ((m_sl M) s_g)) from rfl]
        refine lv_iconst (v := 1) hx hb dX3_takes_33 (by decide) ?_
        refine lv_isub hx hb dX3_takes_34 ?_
        rw [show ((nI ((m_sl M) s_g)) - 1 : Int32) = (nI (((m_sl M) s_g) - 1)) from pk_sub (a := ((m_sl M) s_g)) (b := 1) (by omega)]
        refine va_iald hx hb hK hP 7 0 rfl rfl (vp_in_nI (by omega) (by decide)) dX3_takes_35 ?_
        rw [show (nI (((m_sl M) s_g) - 1)).toNatClampNeg = (((m_sl M) s_g) - 1) from nI_clamp (by omega)]
        rw [show fN (m_fo M) (((m_sl M) s_g) - 1) = (nI ((m_fo M) (((m_sl M) s_g) - 1))) from rfl]
        refine lv_iload_n hx hb dX3_takes_36 rfl (lv_at hl 3 rfl) ?_
        refine lv_icmp_eq (tgt := 53) hx hb dX3_takes_37 (by decide) (fun c_7 => ?_) (fun c_7 => ?_)
        · have c_7 : ((m_fo M) (((m_sl M) s_g) - 1)) = (pnow M) := (nI_eq (a := ((m_fo M) (((m_sl M) s_g) - 1))) (b := (pnow M)) (by omega) (by omega)).mp c_7
          have htk : tk_slot M = s_g := by rw [← hI]; exact tkL_out (fun h => h.2 c_7) _
          refine lv_aload_n hx hb dX3_takes_53 rfl (lv_at hl 0 rfl) ?_
          refine va_get (D := G) (ci := 3) (v := .ref (b 11)) (C := RX3) (T := TX3) (N := 19) hx hb hts in_X3_takes_3 hown hK hP 0 rfl rfl 15 (by decide) (hts (.fieldLink RX3 44 "RampJamModel" "slots" "[I") (by decide +kernel)) (fun _ h9 => h9) rfl dX3_takes_54 ?_
          refine lv_iload hx hb dX3_takes_57 (lv_at hl 4 rfl) ?_
          refine va_iald hx hb hK hP 11 0 rfl rfl (vp_in_nI (by omega) (by decide)) dX3_takes_59 ?_
          rw [show (nI s_g).toNatClampNeg = s_g from nI_clamp (by omega)]
          rw [show fN (m_sl M) s_g = (nI ((m_sl M) s_g)) from rfl]
          refine lv_if_ne (tgt := 180) hx hb dX3_takes_60 (by decide) (fun c_8 => ?_) (fun c_8 => ?_)
          · have c_8 : ¬ ((m_sl M) s_g) = 0 := fun q => c_8 ((nI_eq (a := ((m_sl M) s_g)) (b := 0) (by omega) (by omega)).mpr q)
            have hP9 := hP
            have hD9 := hD
            exact W.vret hx hb hr (fun t ht hW => ⟨⟨M, rfl, by rw [m_takes, htk, if_neg (fun h => hnz h.1)], by rw [ht]; exact hP9, hD9⟩, hS.F ht⟩) hS.2.2 dX3_takes_180
          · have c_8 : ((m_sl M) s_g) = 0 := (nI_eq (a := ((m_sl M) s_g)) (b := 0) (by omega) (by omega)).mp c_8
            exact absurd c_8 hnz
        · have c_7 : ¬ ((m_fo M) (((m_sl M) s_g) - 1)) = (pnow M) := fun q => c_7 ((nI_eq (a := ((m_fo M) (((m_sl M) s_g) - 1))) (b := (pnow M)) (by omega) (by omega)).mpr q)
          have hnp : ¬ m_fo M (m_sl M s_g - 1) = pnow M := c_7
          refine lv_iload hx hb dX3_takes_40 (lv_at hl 4 rfl) ?_
          refine lv_iconst (v := 1) hx hb dX3_takes_42 (by decide) ?_
          refine lv_iadd hx hb dX3_takes_43 ?_
          rw [show ((nI s_g) + 1 : Int32) = (nI (s_g + 1)) from nI_add s_g 1]
          refine lv_sipush (v := 2048) hx hb dX3_takes_44 (by decide) ?_
          refine lv_irem hx hb dX3_takes_47 (by decide) ?_
          rw [show ((nI (s_g + 1)) - (nI (s_g + 1)) / 2048 * 2048 : Int32) = (nI ((s_g + 1) % 2048)) from pk_rem (a := (s_g + 1)) (d := 2048) (by omega) (by decide) (by decide)]
          refine lv_istore (lv' := [(4, .int (nI ((s_g + 1) % 2048))), (0, .ref (b 0)), (1, .int o_g), (2, .int (nI z_g)), (3, .int (nI (pnow M)))]) hx hb dX3_takes_48 hl (by decide) rfl (fun ls hl => ?_)
          refine lv_goto (tgt := 12) hx hb dX3_takes_50 (by decide) ?_
          exact ih_12 (k_g + 1) ((s_g + 1) % 2048) (by omega) (by omega) (by omega) (fun i hi => by rcases (show i < k_g ∨ i = k_g by omega) with h | h <;> first | exact hvis i h | (rw [h, ← hs]; exact hnz)) (by rw [← hI, tkL_in hlt, if_pos ⟨hnz, hnp⟩]) _ _ hP hD hS _ (lv_sub hl [1, 2, 3, 4, 0] rfl)
  exact cut_12 (2048 + 1) 0 ((pnow M) % 2048) (Nat.zero_le _) (by omega) (by omega) (fun i hi => absurd hi (by omega)) (rfl) _ _ hP hD hS _ (lv_sub hl [2, 3, 4, 1, 0] rfl)

theorem in_X3_tries_3 : ∀ w ∈ wsX30, w ∈ wsX3_tries := by decide +kernel
set_option maxHeartbeats 4000000 in
set_option maxRecDepth 100000 in
/-- RampJamModel.tries -/
theorem c_X3_tries (l : Launch) (G : va_G) (cI cZ cJ : ClassId) (b : Nat → Nat) (sz : Nat) (M : MS) (o_g : Nat) (v_g : Nat) (sg_g : Int32) (hok : m_ok M) (hT : tk_ok M) (hv : v_g < m_n M) (hsg : sg_g = 1 ∨ sg_g = -1) (ho : o_g < 800) : Met l yX3_tries wsX3_tries ({ frames := 3, cells := 0, slots := 0, locals := 68 }) (rw_Pc G [(cI, .int), (cZ, .boolean), (cJ, .long)] (wM cI b M) sz [.ref (b 0), .int (nI o_g), .int (nI v_g), .int sg_g]) (rw_Qv (S := MS) (m_tries M o_g v_g sg_g) (fun u : MS => wM cI b u) G (wM cI b M) sz) 0 0 (va_A (wM cI b M) sz) := by
  refine Met.ofW (cc := cX3_tries) (maxL := 7) (ret := none) (by decide) rfl ?_
  intro p e s m args below meth c s₁ B hml hv
  obtain ⟨rfl, hsz, hP, hK, hD0, hN⟩ := hv
  have hx := B.exec
  have hb := B.bytes
  have hr := B.returns
  have hts := atoms_spec (ws := wsX3_tries) B.pre
  have hown : s.vm.findClass RX3 = some m.cls := findClass_of_methodNamed B.named
  have hlocks := B.notSynchronized
  subst hsz
  have hD0 : va_D (fun _ => True) [((b 0), .inr (3, [.ref (b 1), .ref (b 2), .ref (b 3), .ref (b 4), .ref (b 5), .int (nI (m_n M)), .int (m_rp M), .int (m_mo M), .int (m_dr M), .int (m_th M), .ref (b 6), .ref (b 7), .ref (b 8), .ref (b 9), .ref (b 10), .ref (b 11), .ref (b 12), .int (nI (m_fm M)), .int (m_ff M)])), ((b 1), .inl (cI, 9, .inl (fN (m_sz M)))), ((b 2), .inl (cI, 9, .inl (fN (m_ac M)))), ((b 3), .inl (cI, 9, .inl (fN (m_li M)))), ((b 4), .inl (cI, 9, .inl (fN (m_pl M)))), ((b 5), .inl (cI, 9, .inl (fN (m_pk M)))), ((b 6), .inl (cI, 36, .inl (fN (m_yd M)))), ((b 7), .inl (cI, 800, .inl (fN (m_fo M)))), ((b 8), .inl (cI, 800, .inl (m_fr M))), ((b 9), .inl (cI, 800, .inl (fN (m_by M)))), ((b 10), .inl (cI, 800, .inl (fN (m_dp M)))), ((b 11), .inl (cI, 2048, .inl (fN (m_sl M)))), ((b 12), .inl (cI, 9, .inl (fN (m_kp M))))] := hD0
  have hD := hD0.self (sz := s.heap.size)
  unfold rw_Qv
  generalize hAe : va_A (wM cI b M) s.heap.size = A at hD ⊢
  have hA : ∀ q : Nat, s.heap.size ≤ q → A q := fun q h => by rw [← hAe]; exact Or.inr h
  have hS : va_S A s.heap s.heap [] := va_S.rf
  have hP : va_P G vwCl [((b 0), .inr (3, [.ref (b 1), .ref (b 2), .ref (b 3), .ref (b 4), .ref (b 5), .int (nI (m_n M)), .int (m_rp M), .int (m_mo M), .int (m_dr M), .int (m_th M), .ref (b 6), .ref (b 7), .ref (b 8), .ref (b 9), .ref (b 10), .ref (b 11), .ref (b 12), .int (nI (m_fm M)), .int (m_ff M)])), ((b 1), .inl (cI, 9, .inl (fN (m_sz M)))), ((b 2), .inl (cI, 9, .inl (fN (m_ac M)))), ((b 3), .inl (cI, 9, .inl (fN (m_li M)))), ((b 4), .inl (cI, 9, .inl (fN (m_pl M)))), ((b 5), .inl (cI, 9, .inl (fN (m_pk M)))), ((b 6), .inl (cI, 36, .inl (fN (m_yd M)))), ((b 7), .inl (cI, 800, .inl (fN (m_fo M)))), ((b 8), .inl (cI, 800, .inl (m_fr M))), ((b 9), .inl (cI, 800, .inl (fN (m_by M)))), ((b 10), .inl (cI, 800, .inl (fN (m_dp M)))), ((b 11), .inl (cI, 2048, .inl (fN (m_sl M)))), ((b 12), .inl (cI, 9, .inl (fN (m_kp M))))] s.heap := hP
  have hl := lv_entry ([.ref (b 0), .int (nI o_g), .int (nI v_g), .int sg_g]) (n := 7) (Nat.le_of_ble_eq_true rfl)
  rw [lg_entry_eq]
  generalize (lg_sl ([.ref (b 0), .int (nI o_g), .int (nI v_g), .int sg_g]) ++ List.replicate (7 - (lg_sl ([.ref (b 0), .int (nI o_g), .int (nI v_g), .int sg_g])).length) Slot.unset).toArray = ls at hl ⊢
  have hl : lv_has ls 7 [(0, .ref (b 0)), (1, .int (nI o_g)), (2, .int (nI v_g)), (3, .int sg_g)] := hl
  have h9 := hok.1
  obtain ⟨b1_, b2_, b3_, b4_, b5_, b6_⟩ := hok.2.1 v_g hv
  have hmost : m_wy M v_g (m_fw sg_g) ≤ 7 := m_wy_le7 _ _ _
  refine lv_aload_n hx hb dX3_tries_0 rfl (lv_at hl 0 rfl) ?_
  refine va_get (D := G) (ci := 3) (v := .ref (b 4)) (C := RX3) (T := TX3) (N := 19) hx hb hts in_X3_tries_3 hown hK hP 0 rfl rfl 3 (by decide) (hts (.fieldLink RX3 19 "RampJamModel" "place" "[I") (by decide +kernel)) (fun _ h9 => h9) rfl dX3_tries_1 ?_
  refine lv_iload_n hx hb dX3_tries_4 rfl (lv_at hl 2 rfl) ?_
  refine va_iald hx hb hK hP 4 0 rfl rfl (vp_in_nI (by omega) (by decide)) dX3_tries_5 ?_
  rw [show (nI v_g).toNatClampNeg = v_g from nI_clamp (by omega)]
  rw [show fN (m_pl M) v_g = (nI ((m_pl M) v_g)) from rfl]
  refine lv_istore (lv' := [(4, .int (nI ((m_pl M) v_g))), (0, .ref (b 0)), (1, .int (nI o_g)), (2, .int (nI v_g)), (3, .int sg_g)]) hx hb dX3_tries_6 hl (by decide) rfl (fun ls hl => ?_)
  have cut_19 : ∀ (x_g : Int32), (x_g = (m_fw sg_g)) → ∀ (H : Heap) (locs : List Loc), va_P G vwCl [((b 0), .inr (3, [.ref (b 1), .ref (b 2), .ref (b 3), .ref (b 4), .ref (b 5), .int (nI (m_n M)), .int (m_rp M), .int (m_mo M), .int (m_dr M), .int (m_th M), .ref (b 6), .ref (b 7), .ref (b 8), .ref (b 9), .ref (b 10), .ref (b 11), .ref (b 12), .int (nI (m_fm M)), .int (m_ff M)])), ((b 1), .inl (cI, 9, .inl (fN (m_sz M)))), ((b 2), .inl (cI, 9, .inl (fN (m_ac M)))), ((b 3), .inl (cI, 9, .inl (fN (m_li M)))), ((b 4), .inl (cI, 9, .inl (fN (m_pl M)))), ((b 5), .inl (cI, 9, .inl (fN (m_pk M)))), ((b 6), .inl (cI, 36, .inl (fN (m_yd M)))), ((b 7), .inl (cI, 800, .inl (fN (m_fo M)))), ((b 8), .inl (cI, 800, .inl (m_fr M))), ((b 9), .inl (cI, 800, .inl (fN (m_by M)))), ((b 10), .inl (cI, 800, .inl (fN (m_dp M)))), ((b 11), .inl (cI, 2048, .inl (fN (m_sl M)))), ((b 12), .inl (cI, 9, .inl (fN (m_kp M))))] H → va_D A [((b 0), .inr (3, [.ref (b 1), .ref (b 2), .ref (b 3), .ref (b 4), .ref (b 5), .int (nI (m_n M)), .int (m_rp M), .int (m_mo M), .int (m_dr M), .int (m_th M), .ref (b 6), .ref (b 7), .ref (b 8), .ref (b 9), .ref (b 10), .ref (b 11), .ref (b 12), .int (nI (m_fm M)), .int (m_ff M)])), ((b 1), .inl (cI, 9, .inl (fN (m_sz M)))), ((b 2), .inl (cI, 9, .inl (fN (m_ac M)))), ((b 3), .inl (cI, 9, .inl (fN (m_li M)))), ((b 4), .inl (cI, 9, .inl (fN (m_pl M)))), ((b 5), .inl (cI, 9, .inl (fN (m_pk M)))), ((b 6), .inl (cI, 36, .inl (fN (m_yd M)))), ((b 7), .inl (cI, 800, .inl (fN (m_fo M)))), ((b 8), .inl (cI, 800, .inl (m_fr M))), ((b 9), .inl (cI, 800, .inl (fN (m_by M)))), ((b 10), .inl (cI, 800, .inl (fN (m_dp M)))), ((b 11), .inl (cI, 2048, .inl (fN (m_sl M)))), ((b 12), .inl (cI, 9, .inl (fN (m_kp M))))] → va_S A s.heap H locs → ∀ (ls : Array Slot), lv_has ls 7 [(4, .int (nI ((m_pl M) v_g))), (0, .ref (b 0)), (1, .int (nI o_g)), (2, .int (nI v_g)), (3, .int sg_g)] → W p l e (headSpec wsX3_tries ({ frames := 3, cells := 0, slots := 0, locals := 68 })).room s m ([.ref (b 0), .int (nI o_g), .int (nI v_g), .int sg_g] : List Value).toArray below meth c H locs 0 0 (MQ below (va_Qv (fun u : MS => u = (m_tries M o_g v_g sg_g)) (fun (u : MS) (t : State) => va_P G vwCl ((fun u : MS => wM cI b u) u) t.heap ∧ va_D A ((fun u : MS => wM cI b u) u)) A) ([.ref (b 0), .int (nI o_g), .int (nI v_g), .int sg_g] : List Value).toArray s 0 0 A) (F0 m 19 ls [.int x_g, .int (nI v_g), .ref (b 0)]) := by
    intro x_g ex_g H locs hP hD hS ls hl
    subst ex_g
    try have hl : lv_has ls 7 [(4, .int (nI ((m_pl M) v_g))), (0, .ref (b 0)), (1, .int (nI o_g)), (2, .int (nI v_g)), (3, .int sg_g)] := hl
    refine ro_i (va_runV (As := [.int (nI v_g), .int (m_fw sg_g)]) (rest := []) ⟨hx, hb, hml, hown, hts⟩ ((c_X3_way l G cI cZ cJ b _ M v_g (m_fw sg_g) hok hv)) (cwV 2 hts gX3_tries_X3_way rfl rfl rfl (by decide +kernel) ⟨Nat.le_of_ble_eq_true rfl, Nat.le_of_ble_eq_true rfl⟩) ⟨ro_blind, va_recv hK hP (ci := 3) (q0 := 0) rfl rfl, ro_pre hP hK hN⟩ rfl rfl hl.1 rfl (lv_room (Nat.le_of_ble_eq_true rfl)) dX3_tries_19 ⟨Nat.zero_le _, Nat.zero_le _⟩) hS hA hP (fun H locs hP hS => ?_)
    refine lv_istore (lv' := [(5, .int (nI (m_wy M v_g (m_fw sg_g)))), (4, .int (nI ((m_pl M) v_g))), (0, .ref (b 0)), (1, .int (nI o_g)), (2, .int (nI v_g)), (3, .int sg_g)]) hx hb dX3_tries_22 hl (by decide) rfl (fun ls hl => ?_)
    refine lv_iconst (v := 1) hx hb dX3_tries_24 (by decide) ?_
    refine lv_istore (lv' := [(6, .int 1), (5, .int (nI (m_wy M v_g (m_fw sg_g)))), (4, .int (nI ((m_pl M) v_g))), (0, .ref (b 0)), (1, .int (nI o_g)), (2, .int (nI v_g)), (3, .int sg_g)]) hx hb dX3_tries_25 hl (by decide) rfl (fun ls hl => ?_)
    have cut_27 : ∀ (d : Nat) (k_g : Nat) (S_g : MS), k_g ≤ 9 → 9 + 1 ≤ k_g + d → (m_ok S_g) → (tk_ok S_g) → (m_n S_g = m_n M) → (m_sz S_g = m_sz M) → (trL o_g v_g sg_g (m_pl M v_g) (m_wy M v_g (m_fw sg_g)) (9 - k_g) k_g S_g = trL o_g v_g sg_g (m_pl M v_g) (m_wy M v_g (m_fw sg_g)) 8 1 M) → ∀ (H : Heap) (locs : List Loc), va_P G vwCl [((b 0), .inr (3, [.ref (b 1), .ref (b 2), .ref (b 3), .ref (b 4), .ref (b 5), .int (nI (m_n S_g)), .int (m_rp S_g), .int (m_mo S_g), .int (m_dr S_g), .int (m_th S_g), .ref (b 6), .ref (b 7), .ref (b 8), .ref (b 9), .ref (b 10), .ref (b 11), .ref (b 12), .int (nI (m_fm S_g)), .int (m_ff S_g)])), ((b 1), .inl (cI, 9, .inl (fN (m_sz S_g)))), ((b 2), .inl (cI, 9, .inl (fN (m_ac S_g)))), ((b 3), .inl (cI, 9, .inl (fN (m_li S_g)))), ((b 4), .inl (cI, 9, .inl (fN (m_pl S_g)))), ((b 5), .inl (cI, 9, .inl (fN (m_pk S_g)))), ((b 6), .inl (cI, 36, .inl (fN (m_yd S_g)))), ((b 7), .inl (cI, 800, .inl (fN (m_fo S_g)))), ((b 8), .inl (cI, 800, .inl (m_fr S_g))), ((b 9), .inl (cI, 800, .inl (fN (m_by S_g)))), ((b 10), .inl (cI, 800, .inl (fN (m_dp S_g)))), ((b 11), .inl (cI, 2048, .inl (fN (m_sl S_g)))), ((b 12), .inl (cI, 9, .inl (fN (m_kp S_g))))] H → va_D A [((b 0), .inr (3, [.ref (b 1), .ref (b 2), .ref (b 3), .ref (b 4), .ref (b 5), .int (nI (m_n S_g)), .int (m_rp S_g), .int (m_mo S_g), .int (m_dr S_g), .int (m_th S_g), .ref (b 6), .ref (b 7), .ref (b 8), .ref (b 9), .ref (b 10), .ref (b 11), .ref (b 12), .int (nI (m_fm S_g)), .int (m_ff S_g)])), ((b 1), .inl (cI, 9, .inl (fN (m_sz S_g)))), ((b 2), .inl (cI, 9, .inl (fN (m_ac S_g)))), ((b 3), .inl (cI, 9, .inl (fN (m_li S_g)))), ((b 4), .inl (cI, 9, .inl (fN (m_pl S_g)))), ((b 5), .inl (cI, 9, .inl (fN (m_pk S_g)))), ((b 6), .inl (cI, 36, .inl (fN (m_yd S_g)))), ((b 7), .inl (cI, 800, .inl (fN (m_fo S_g)))), ((b 8), .inl (cI, 800, .inl (m_fr S_g))), ((b 9), .inl (cI, 800, .inl (fN (m_by S_g)))), ((b 10), .inl (cI, 800, .inl (fN (m_dp S_g)))), ((b 11), .inl (cI, 2048, .inl (fN (m_sl S_g)))), ((b 12), .inl (cI, 9, .inl (fN (m_kp S_g))))] → va_S A s.heap H locs → ∀ (ls : Array Slot), lv_has ls 7 [(0, .ref (b 0)), (1, .int (nI o_g)), (2, .int (nI v_g)), (3, .int sg_g), (4, .int (nI (m_pl M v_g))), (5, .int (nI (m_wy M v_g (m_fw sg_g)))), (6, .int (nI k_g))] → W p l e (headSpec wsX3_tries ({ frames := 3, cells := 0, slots := 0, locals := 68 })).room s m ([.ref (b 0), .int (nI o_g), .int (nI v_g), .int sg_g] : List Value).toArray below meth c H locs 0 0 (MQ below (va_Qv (fun u : MS => u = (m_tries M o_g v_g sg_g)) (fun (u : MS) (t : State) => va_P G vwCl ((fun u : MS => wM cI b u) u) t.heap ∧ va_D A ((fun u : MS => wM cI b u) u)) A) ([.ref (b 0), .int (nI o_g), .int (nI v_g), .int sg_g] : List Value).toArray s 0 0 A) (F0 m 27 ls []) := by
      intro d
      induction d with
      | zero =>
        intro k_g S_g hk_27 hd_27
        exact absurd hd_27 (by omega)
      | succ d ih_27 =>
        intro k_g S_g hk_27 hd_27 hS1 hS2 hSn hSz hI H locs hP hD hS ls hl
        refine lv_iload hx hb dX3_tries_27 (lv_at hl 6 rfl) ?_
        refine lv_iload hx hb dX3_tries_29 (lv_at hl 5 rfl) ?_
        refine lv_icmp_gt (tgt := 69) hx hb dX3_tries_31 (by decide) (fun c_1 => ?_) (fun c_1 => ?_)
        · have c_1 : (m_wy M v_g (m_fw sg_g)) < k_g := (nI_ltI (a := (m_wy M v_g (m_fw sg_g))) (b := k_g) (by omega) (by omega)).mp c_1
          have hI2 := hI
          rw [trL_out (by omega)] at hI2
          refine lv_aload_n hx hb dX3_tries_69 rfl (lv_at hl 0 rfl) ?_
          refine va_get (D := G) (ci := 3) (v := .ref (b 4)) (C := RX3) (T := TX3) (N := 19) hx hb hts in_X3_tries_3 hown hK hP 0 rfl rfl 3 (by decide) (hts (.fieldLink RX3 19 "RampJamModel" "place" "[I") (by decide +kernel)) (fun _ h9 => h9) rfl dX3_tries_70 ?_
          refine lv_iload_n hx hb dX3_tries_73 rfl (lv_at hl 2 rfl) ?_
          refine lv_iload hx hb dX3_tries_74 (lv_at hl 4 rfl) ?_
          refine va_iast hx hb hK hP hD hS 4 0 rfl rfl (vp_in_nI (by omega) (by decide)) dX3_tries_76 (fun H locs hP hD hS => ?_)
          rw [show (nI v_g).toNatClampNeg = v_g from nI_clamp (by omega)] at hP hD
          rw [fN_upd] at hP hD
          have hP : va_P G vwCl [((b 0), .inr (3, [.ref (b 1), .ref (b 2), .ref (b 3), .ref (b 4), .ref (b 5), .int (nI (m_n S_g)), .int (m_rp S_g), .int (m_mo S_g), .int (m_dr S_g), .int (m_th S_g), .ref (b 6), .ref (b 7), .ref (b 8), .ref (b 9), .ref (b 10), .ref (b 11), .ref (b 12), .int (nI (m_fm S_g)), .int (m_ff S_g)])), ((b 1), .inl (cI, 9, .inl (fN (m_sz S_g)))), ((b 2), .inl (cI, 9, .inl (fN (m_ac S_g)))), ((b 3), .inl (cI, 9, .inl (fN (m_li S_g)))), ((b 4), .inl (cI, 9, .inl (fN (updN (m_pl S_g) v_g (m_pl M v_g))))), ((b 5), .inl (cI, 9, .inl (fN (m_pk S_g)))), ((b 6), .inl (cI, 36, .inl (fN (m_yd S_g)))), ((b 7), .inl (cI, 800, .inl (fN (m_fo S_g)))), ((b 8), .inl (cI, 800, .inl (m_fr S_g))), ((b 9), .inl (cI, 800, .inl (fN (m_by S_g)))), ((b 10), .inl (cI, 800, .inl (fN (m_dp S_g)))), ((b 11), .inl (cI, 2048, .inl (fN (m_sl S_g)))), ((b 12), .inl (cI, 9, .inl (fN (m_kp S_g))))] H := hP
          have hD : va_D A [((b 0), .inr (3, [.ref (b 1), .ref (b 2), .ref (b 3), .ref (b 4), .ref (b 5), .int (nI (m_n S_g)), .int (m_rp S_g), .int (m_mo S_g), .int (m_dr S_g), .int (m_th S_g), .ref (b 6), .ref (b 7), .ref (b 8), .ref (b 9), .ref (b 10), .ref (b 11), .ref (b 12), .int (nI (m_fm S_g)), .int (m_ff S_g)])), ((b 1), .inl (cI, 9, .inl (fN (m_sz S_g)))), ((b 2), .inl (cI, 9, .inl (fN (m_ac S_g)))), ((b 3), .inl (cI, 9, .inl (fN (m_li S_g)))), ((b 4), .inl (cI, 9, .inl (fN (updN (m_pl S_g) v_g (m_pl M v_g))))), ((b 5), .inl (cI, 9, .inl (fN (m_pk S_g)))), ((b 6), .inl (cI, 36, .inl (fN (m_yd S_g)))), ((b 7), .inl (cI, 800, .inl (fN (m_fo S_g)))), ((b 8), .inl (cI, 800, .inl (m_fr S_g))), ((b 9), .inl (cI, 800, .inl (fN (m_by S_g)))), ((b 10), .inl (cI, 800, .inl (fN (m_dp S_g)))), ((b 11), .inl (cI, 2048, .inl (fN (m_sl S_g)))), ((b 12), .inl (cI, 9, .inl (fN (m_kp S_g))))] := hD
          have hP9 := hP
          have hD9 := hD
          exact W.vret hx hb hr (fun t ht hW => ⟨⟨(m_wPl S_g (updN (m_pl S_g) v_g (m_pl M v_g))), rfl, by rw [m_tries, ← hI2], by rw [ht]; exact hP9, hD9⟩, hS.F ht⟩) hS.2.2 dX3_tries_77
        · have c_1 : k_g ≤ (m_wy M v_g (m_fw sg_g)) := Nat.not_lt.mp (fun q => c_1 ((nI_ltI (a := (m_wy M v_g (m_fw sg_g))) (b := k_g) (by omega) (by omega)).mpr q))
          have hbd := m_tr_b hok hv hsg c_1
          refine lv_aload_n hx hb dX3_tries_34 rfl (lv_at hl 0 rfl) ?_
          refine va_get (D := G) (ci := 3) (v := .ref (b 4)) (C := RX3) (T := TX3) (N := 19) hx hb hts in_X3_tries_3 hown hK hP 0 rfl rfl 3 (by decide) (hts (.fieldLink RX3 19 "RampJamModel" "place" "[I") (by decide +kernel)) (fun _ h9 => h9) rfl dX3_tries_35 ?_
          refine lv_iload_n hx hb dX3_tries_38 rfl (lv_at hl 2 rfl) ?_
          refine lv_iload hx hb dX3_tries_39 (lv_at hl 4 rfl) ?_
          refine lv_iload_n hx hb dX3_tries_41 rfl (lv_at hl 3 rfl) ?_
          refine lv_iload hx hb dX3_tries_42 (lv_at hl 6 rfl) ?_
          refine lv_imul hx hb dX3_tries_44 ?_
          refine lv_iadd hx hb dX3_tries_45 ?_
          rw [show (((nI (m_pl M v_g)) + (sg_g * (nI k_g))) : Int32) = (nI (stp sg_g (m_pl M v_g) k_g)) from stp_nI hsg hbd.1]
          refine va_iast hx hb hK hP hD hS 4 0 rfl rfl (vp_in_nI (by omega) (by decide)) dX3_tries_46 (fun H locs hP hD hS => ?_)
          rw [show (nI v_g).toNatClampNeg = v_g from nI_clamp (by omega)] at hP hD
          rw [fN_upd] at hP hD
          have hP : va_P G vwCl [((b 0), .inr (3, [.ref (b 1), .ref (b 2), .ref (b 3), .ref (b 4), .ref (b 5), .int (nI (m_n S_g)), .int (m_rp S_g), .int (m_mo S_g), .int (m_dr S_g), .int (m_th S_g), .ref (b 6), .ref (b 7), .ref (b 8), .ref (b 9), .ref (b 10), .ref (b 11), .ref (b 12), .int (nI (m_fm S_g)), .int (m_ff S_g)])), ((b 1), .inl (cI, 9, .inl (fN (m_sz S_g)))), ((b 2), .inl (cI, 9, .inl (fN (m_ac S_g)))), ((b 3), .inl (cI, 9, .inl (fN (m_li S_g)))), ((b 4), .inl (cI, 9, .inl (fN (updN (m_pl S_g) v_g (stp sg_g (m_pl M v_g) k_g))))), ((b 5), .inl (cI, 9, .inl (fN (m_pk S_g)))), ((b 6), .inl (cI, 36, .inl (fN (m_yd S_g)))), ((b 7), .inl (cI, 800, .inl (fN (m_fo S_g)))), ((b 8), .inl (cI, 800, .inl (m_fr S_g))), ((b 9), .inl (cI, 800, .inl (fN (m_by S_g)))), ((b 10), .inl (cI, 800, .inl (fN (m_dp S_g)))), ((b 11), .inl (cI, 2048, .inl (fN (m_sl S_g)))), ((b 12), .inl (cI, 9, .inl (fN (m_kp S_g))))] H := hP
          have hD : va_D A [((b 0), .inr (3, [.ref (b 1), .ref (b 2), .ref (b 3), .ref (b 4), .ref (b 5), .int (nI (m_n S_g)), .int (m_rp S_g), .int (m_mo S_g), .int (m_dr S_g), .int (m_th S_g), .ref (b 6), .ref (b 7), .ref (b 8), .ref (b 9), .ref (b 10), .ref (b 11), .ref (b 12), .int (nI (m_fm S_g)), .int (m_ff S_g)])), ((b 1), .inl (cI, 9, .inl (fN (m_sz S_g)))), ((b 2), .inl (cI, 9, .inl (fN (m_ac S_g)))), ((b 3), .inl (cI, 9, .inl (fN (m_li S_g)))), ((b 4), .inl (cI, 9, .inl (fN (updN (m_pl S_g) v_g (stp sg_g (m_pl M v_g) k_g))))), ((b 5), .inl (cI, 9, .inl (fN (m_pk S_g)))), ((b 6), .inl (cI, 36, .inl (fN (m_yd S_g)))), ((b 7), .inl (cI, 800, .inl (fN (m_fo S_g)))), ((b 8), .inl (cI, 800, .inl (m_fr S_g))), ((b 9), .inl (cI, 800, .inl (fN (m_by S_g)))), ((b 10), .inl (cI, 800, .inl (fN (m_dp S_g)))), ((b 11), .inl (cI, 2048, .inl (fN (m_sl S_g)))), ((b 12), .inl (cI, 9, .inl (fN (m_kp S_g))))] := hD
          refine lv_aload_n hx hb dX3_tries_47 rfl (lv_at hl 0 rfl) ?_
          refine lv_iload_n hx hb dX3_tries_48 rfl (lv_at hl 1 rfl) ?_
          refine lv_bipush (v := 10) hx hb dX3_tries_49 (by decide) ?_
          refine lv_iload_n hx hb dX3_tries_51 rfl (lv_at hl 2 rfl) ?_
          refine lv_imul hx hb dX3_tries_52 ?_
          rw [show (10 * (nI v_g) : Int32) = (nI (10 * v_g)) from pk_mul 10 v_g]
          refine lv_iload_n hx hb dX3_tries_53 rfl (lv_at hl 3 rfl) ?_
          refine lv_iload hx hb dX3_tries_54 (lv_at hl 6 rfl) ?_
          refine lv_imul hx hb dX3_tries_56 ?_
          refine lv_iadd hx hb dX3_tries_57 ?_
          refine lv_iconst (v := 4) hx hb dX3_tries_58 (by decide) ?_
          refine lv_iadd hx hb dX3_tries_59 ?_
          rw [show ((((nI (10 * v_g)) + (sg_g * (nI k_g))) + 4) : Int32) = (nI (cdN v_g sg_g k_g)) from cdN_nI hsg hbd.2.2]
          refine rw_v (wr := []) (ws' := [((b 0), .inr (3, [.ref (b 1), .ref (b 2), .ref (b 3), .ref (b 4), .ref (b 5), .int (nI (m_n (m_takes (m_wPl S_g (updN (m_pl S_g) v_g (stp sg_g (m_pl M v_g) k_g))) (nI o_g) (cdN v_g sg_g k_g)))), .int (m_rp (m_takes (m_wPl S_g (updN (m_pl S_g) v_g (stp sg_g (m_pl M v_g) k_g))) (nI o_g) (cdN v_g sg_g k_g))), .int (m_mo (m_takes (m_wPl S_g (updN (m_pl S_g) v_g (stp sg_g (m_pl M v_g) k_g))) (nI o_g) (cdN v_g sg_g k_g))), .int (m_dr (m_takes (m_wPl S_g (updN (m_pl S_g) v_g (stp sg_g (m_pl M v_g) k_g))) (nI o_g) (cdN v_g sg_g k_g))), .int (m_th (m_takes (m_wPl S_g (updN (m_pl S_g) v_g (stp sg_g (m_pl M v_g) k_g))) (nI o_g) (cdN v_g sg_g k_g))), .ref (b 6), .ref (b 7), .ref (b 8), .ref (b 9), .ref (b 10), .ref (b 11), .ref (b 12), .int (nI (m_fm (m_takes (m_wPl S_g (updN (m_pl S_g) v_g (stp sg_g (m_pl M v_g) k_g))) (nI o_g) (cdN v_g sg_g k_g)))), .int (m_ff (m_takes (m_wPl S_g (updN (m_pl S_g) v_g (stp sg_g (m_pl M v_g) k_g))) (nI o_g) (cdN v_g sg_g k_g)))])), ((b 1), .inl (cI, 9, .inl (fN (m_sz (m_takes (m_wPl S_g (updN (m_pl S_g) v_g (stp sg_g (m_pl M v_g) k_g))) (nI o_g) (cdN v_g sg_g k_g)))))), ((b 2), .inl (cI, 9, .inl (fN (m_ac (m_takes (m_wPl S_g (updN (m_pl S_g) v_g (stp sg_g (m_pl M v_g) k_g))) (nI o_g) (cdN v_g sg_g k_g)))))), ((b 3), .inl (cI, 9, .inl (fN (m_li (m_takes (m_wPl S_g (updN (m_pl S_g) v_g (stp sg_g (m_pl M v_g) k_g))) (nI o_g) (cdN v_g sg_g k_g)))))), ((b 4), .inl (cI, 9, .inl (fN (m_pl (m_takes (m_wPl S_g (updN (m_pl S_g) v_g (stp sg_g (m_pl M v_g) k_g))) (nI o_g) (cdN v_g sg_g k_g)))))), ((b 5), .inl (cI, 9, .inl (fN (m_pk (m_takes (m_wPl S_g (updN (m_pl S_g) v_g (stp sg_g (m_pl M v_g) k_g))) (nI o_g) (cdN v_g sg_g k_g)))))), ((b 6), .inl (cI, 36, .inl (fN (m_yd (m_takes (m_wPl S_g (updN (m_pl S_g) v_g (stp sg_g (m_pl M v_g) k_g))) (nI o_g) (cdN v_g sg_g k_g)))))), ((b 7), .inl (cI, 800, .inl (fN (m_fo (m_takes (m_wPl S_g (updN (m_pl S_g) v_g (stp sg_g (m_pl M v_g) k_g))) (nI o_g) (cdN v_g sg_g k_g)))))), ((b 8), .inl (cI, 800, .inl (m_fr (m_takes (m_wPl S_g (updN (m_pl S_g) v_g (stp sg_g (m_pl M v_g) k_g))) (nI o_g) (cdN v_g sg_g k_g))))), ((b 9), .inl (cI, 800, .inl (fN (m_by (m_takes (m_wPl S_g (updN (m_pl S_g) v_g (stp sg_g (m_pl M v_g) k_g))) (nI o_g) (cdN v_g sg_g k_g)))))), ((b 10), .inl (cI, 800, .inl (fN (m_dp (m_takes (m_wPl S_g (updN (m_pl S_g) v_g (stp sg_g (m_pl M v_g) k_g))) (nI o_g) (cdN v_g sg_g k_g)))))), ((b 11), .inl (cI, 2048, .inl (fN (m_sl (m_takes (m_wPl S_g (updN (m_pl S_g) v_g (stp sg_g (m_pl M v_g) k_g))) (nI o_g) (cdN v_g sg_g k_g)))))), ((b 12), .inl (cI, 9, .inl (fN (m_kp (m_takes (m_wPl S_g (updN (m_pl S_g) v_g (stp sg_g (m_pl M v_g) k_g))) (nI o_g) (cdN v_g sg_g k_g))))))]) (va_runV (As := [.int (nI o_g), .int (nI (cdN v_g sg_g k_g))]) (rest := []) ⟨hx, hb, hml, hown, hts⟩ ((c_X3_takes l G cI cZ cJ b _ (m_wPl S_g (updN (m_pl S_g) v_g (stp sg_g (m_pl M v_g) k_g))) (nI o_g) (cdN v_g sg_g k_g) (m_ok_pl hS1 (by rw [hSz]; exact hbd.2.1)) hS2 (fun _ => vp_in_nI ho (by decide)))) (cwV 2 hts gX3_tries_X3_takes rfl rfl rfl (by decide +kernel) ⟨Nat.le_of_ble_eq_true rfl, Nat.le_of_ble_eq_true rfl⟩) ⟨rw_blind, va_recv hK hP (ci := 3) (q0 := 0) rfl rfl, rw_pre hP hD hK hN⟩ rfl rfl hl.1 rfl (lv_room (Nat.le_of_ble_eq_true rfl)) dX3_tries_60 ⟨Nat.zero_le _, Nat.zero_le _⟩) hS hA hP hD [0, 1, 2, 3, 4, 5, 6, 7, 8, 9, 10, 11, 12] [] [0, 1, 2, 3, 4, 5, 6, 7, 8, 9, 10, 11, 12] rfl rfl (by decide) (by decide) rfl (by decide) (fun H locs hP hD hS => ?_)
          refine lv_iinc (v := (nI (k_g + 1))) (lv' := [(6, .int (nI (k_g + 1))), (0, .ref (b 0)), (1, .int (nI o_g)), (2, .int (nI v_g)), (3, .int sg_g), (4, .int (nI (m_pl M v_g))), (5, .int (nI (m_wy M v_g (m_fw sg_g))))]) hx hb dX3_tries_63 hl (k := 6) rfl (nI_1 _) (by decide) rfl (fun ls hl => ?_)
          refine lv_goto (tgt := 27) hx hb dX3_tries_66 (by decide) ?_
          exact ih_27 (k_g + 1) (m_takes (m_wPl S_g (updN (m_pl S_g) v_g (stp sg_g (m_pl M v_g) k_g))) (nI o_g) (cdN v_g sg_g k_g)) (by omega) (by omega) (m_ok_takes (m_ok_pl hS1 (by rw [hSz]; exact hbd.2.1))) (tk_ok_takes (m_ok_pl hS1 (by rw [hSz]; exact hbd.2.1)) hS2) (by rw [m_takes_n]; exact hSn) (by rw [m_takes_sz]; exact hSz) (by rw [← hI, trL_in (k := k_g) (by omega) (by assumption)]) _ _ hP hD hS _ (lv_sub hl [1, 2, 3, 4, 5, 6, 0] rfl)
    exact cut_27 (9 + 1) 1 M (by omega) (by omega) (hok) (hT) (rfl) (rfl) (rfl) _ _ hP hD hS _ (lv_sub hl [3, 4, 5, 6, 2, 1, 0] rfl)
  refine lv_aload_n hx hb dX3_tries_8 rfl (lv_at hl 1 rfl) ?_
  refine lv_iload_n hx hb dX3_tries_9 rfl (lv_at hl 3 rfl) ?_
  refine lv_iload_n hx hb dX3_tries_10 rfl (lv_at hl 4 rfl) ?_
  refine lv_if_le (tgt := 18) hx hb dX3_tries_11 (by decide) (fun c_2 => ?_) (fun c_2 => ?_)
  · refine lv_iconst (v := 0) hx hb dX3_tries_18 (by decide) ?_
    exact cut_19 0 (by first | rw [m_fw, if_pos (by assumption)] | rw [m_fw, if_neg (by assumption)]) _ _ hP hD hS _ hl
  · refine lv_iconst (v := 1) hx hb dX3_tries_14 (by decide) ?_
    refine lv_goto (tgt := 19) hx hb dX3_tries_15 (by decide) ?_
    exact cut_19 1 (by first | rw [m_fw, if_pos (by assumption)] | rw [m_fw, if_neg (by assumption)]) _ _ hP hD hS _ hl
