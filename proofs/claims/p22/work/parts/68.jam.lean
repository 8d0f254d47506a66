theorem c_X0_lookFromZ (l : Launch) (G : va_G) (cI cZ cJ : ClassId) (a : Nat → Nat) (sz : Nat) (S : SS) (Y : YS) (x_g : Int32) (hn : y_n Y ≤ 9) (Z : SS) (hZ : s_look Y S x_g = Z) : Met l yX0_lookFrom wsX0_lookFrom ({ frames := 4, cells := 0, slots := 0, locals := 102 }) (rw_Pc G [(cI, .int), (cZ, .boolean), (cJ, .long)] (wS cI cZ cJ a S Y) sz [.ref (a 1), .int x_g]) (rw_Qv (S := SS) Z (fun u : SS => wS cI cZ cJ a u Y) G (wS cI cZ cJ a S Y) sz) 0 0 (va_A (wS cI cZ cJ a S Y) sz) := by
  subst hZ
  exact c_X0_lookFrom l G cI cZ cJ a sz S Y x_g hn

theorem in_X1_putRamp_1 : ∀ w ∈ wsX10, w ∈ wsX1_putRamp := by decide +kernel
set_option maxHeartbeats 4000000 in
set_option maxRecDepth 100000 in
/-- Yard.putRamp -/
theorem c_X1_putRamp (l : Launch) (G : va_G) (cI cZ cJ : ClassId) (a : Nat → Nat) (sz : Nat) (Y : YS) (w_g : Int64)  : Met l yX1_putRamp wsX1_putRamp ({ frames := 0, cells := 0, slots := 0, locals := 0 }) (rw_Pc G [(cI, .int), (cZ, .boolean), (cJ, .long)] (wY cI cZ cJ a Y) sz [.ref (a 6), .long w_g]) (rw_Qv (S := YS) (y_put Y w_g) (fun u : YS => wY cI cZ cJ a u) G (wY cI cZ cJ a Y) sz) 0 0 (va_A (wY cI cZ cJ a Y) sz) := by
  refine Met.ofW (cc := cX1_putRamp) (maxL := 3) (ret := none) (by decide) rfl ?_
  intro p e s m args below meth c s₁ B hml hv
  obtain ⟨rfl, hsz, hP, hK, hD0, hN⟩ := hv
  have hx := B.exec
  have hb := B.bytes
  have hr := B.returns
  have hts := atoms_spec (ws := wsX1_putRamp) B.pre
  have hown : s.vm.findClass RX1 = some m.cls := findClass_of_methodNamed B.named
  have hlocks := B.notSynchronized
  subst hsz
  have hD0 : va_D (fun _ => True) [((a 6), .inr (1, [.ref (a 7), .ref (a 8), .ref (a 9), .ref (a 10), .int (nI (y_n Y)), .long (y_rp Y)])), ((a 7), .inl (cI, 9, .inl (y_sz Y))), ((a 8), .inl (cZ, 9, .inl (y_ac Y))), ((a 9), .inl (cI, 9, .inl (y_li Y))), ((a 10), .inl (cJ, 9, .inr (.inl (y_sh Y))))] := hD0
  have hD := hD0.self (sz := s.heap.size)
  unfold rw_Qv
  generalize hAe : va_A (wY cI cZ cJ a Y) s.heap.size = A at hD ⊢
  have hA : ∀ q : Nat, s.heap.size ≤ q → A q := fun q h => by rw [← hAe]; exact Or.inr h
  have hS : va_S A s.heap s.heap [] := va_S.rf
  have hP : va_P G vwCl [((a 6), .inr (1, [.ref (a 7), .ref (a 8), .ref (a 9), .ref (a 10), .int (nI (y_n Y)), .long (y_rp Y)])), ((a 7), .inl (cI, 9, .inl (y_sz Y))), ((a 8), .inl (cZ, 9, .inl (y_ac Y))), ((a 9), .inl (cI, 9, .inl (y_li Y))), ((a 10), .inl (cJ, 9, .inr (.inl (y_sh Y))))] s.heap := hP
  have hl := lv_entry ([.ref (a 6), .long w_g]) (n := 3) (Nat.le_of_ble_eq_true rfl)
  rw [lg_entry_eq]
  generalize (lg_sl ([.ref (a 6), .long w_g]) ++ List.replicate (3 - (lg_sl ([.ref (a 6), .long w_g])).length) Slot.unset).toArray = ls at hl ⊢
  have hl : lv_has ls 3 [(0, .ref (a 6)), (1, .long w_g)] := hl
  refine lv_aload_n hx hb dX1_putRamp_0 rfl (lv_at hl 0 rfl) ?_
  refine lv_lload_n hx hb dX1_putRamp_1 rfl (lv_at hl 1 rfl) ?_
  refine va_put (D := G) (ci := 1) (v := .long w_g) (ty := .long) (C := RX1) (T := TX1) (N := 6) hx hb hts in_X1_putRamp_1 tyX1 tyX1_ok nmX1 hown hK hP hD hS 0 rfl rfl 5 (by decide) (hts (.fieldLink RX1 34 "RampJam$Yard" "rampCell" "J") (by decide +kernel)) (fun _ h9 => h9) rfl (by decide +kernel) rfl rfl (Nat.le_of_ble_eq_true rfl) dX1_putRamp_2 (fun H locs hP hD hS => ?_)
  have hP : va_P G vwCl [((a 6), .inr (1, [.ref (a 7), .ref (a 8), .ref (a 9), .ref (a 10), .int (nI (y_n Y)), .long w_g])), ((a 7), .inl (cI, 9, .inl (y_sz Y))), ((a 8), .inl (cZ, 9, .inl (y_ac Y))), ((a 9), .inl (cI, 9, .inl (y_li Y))), ((a 10), .inl (cJ, 9, .inr (.inl (y_sh Y))))] H := hP
  have hD : va_D A [((a 6), .inr (1, [.ref (a 7), .ref (a 8), .ref (a 9), .ref (a 10), .int (nI (y_n Y)), .long w_g])), ((a 7), .inl (cI, 9, .inl (y_sz Y))), ((a 8), .inl (cZ, 9, .inl (y_ac Y))), ((a 9), .inl (cI, 9, .inl (y_li Y))), ((a 10), .inl (cJ, 9, .inr (.inl (y_sh Y))))] := hD
  have hP9 := hP
  have hD9 := hD
  exact W.vret hx hb hr (fun t ht hW => ⟨⟨((y_sz Y), (y_ac Y), (y_li Y), (y_sh Y), (y_n Y), w_g), rfl, rfl, by rw [ht]; exact hP9, hD9⟩, hS.F ht⟩) hS.2.2 dX1_putRamp_5

theorem in_X1_add_1 : ∀ w ∈ wsX10, w ∈ wsX1_add := by decide +kernel
set_option maxHeartbeats 4000000 in
set_option maxRecDepth 100000 in
/-- Yard.add -/
theorem c_X1_add (l : Launch) (G : va_G) (cI cZ cJ : ClassId) (a : Nat → Nat) (sz : Nat) (Y : YS) (c_g : Int32) (b_g : Int32) (q_g : Int32) (hn : y_n Y ≤ 9) : Met l yX1_add wsX1_add ({ frames := 2, cells := 0, slots := 0, locals := 47 }) (rw_Pc G [(cI, .int), (cZ, .boolean), (cJ, .long)] (wY cI cZ cJ a Y) sz [.ref (a 6), .int c_g, .int b_g, .int q_g]) (rw_Qi (S := YS) (y_num Y) (y_add Y c_g b_g q_g) (fun u : YS => wY cI cZ cJ a u) G (wY cI cZ cJ a Y) sz) 0 0 (va_A (wY cI cZ cJ a Y) sz) := by
  refine Met.ofW (cc := cX1_add) (maxL := 5) (ret := (some .int)) (by decide) rfl ?_
  intro p e s m args below meth c s₁ B hml hv
  obtain ⟨rfl, hsz, hP, hK, hD0, hN⟩ := hv
  have hx := B.exec
  have hb := B.bytes
  have hr := B.returns
  have hts := atoms_spec (ws := wsX1_add) B.pre
  have hown : s.vm.findClass RX1 = some m.cls := findClass_of_methodNamed B.named
  have hlocks := B.notSynchronized
  subst hsz
  have hD0 : va_D (fun _ => True) [((a 6), .inr (1, [.ref (a 7), .ref (a 8), .ref (a 9), .ref (a 10), .int (nI (y_n Y)), .long (y_rp Y)])), ((a 7), .inl (cI, 9, .inl (y_sz Y))), ((a 8), .inl (cZ, 9, .inl (y_ac Y))), ((a 9), .inl (cI, 9, .inl (y_li Y))), ((a 10), .inl (cJ, 9, .inr (.inl (y_sh Y))))] := hD0
  have hD := hD0.self (sz := s.heap.size)
  unfold rw_Qi
  generalize hAe : va_A (wY cI cZ cJ a Y) s.heap.size = A at hD ⊢
  have hA : ∀ q : Nat, s.heap.size ≤ q → A q := fun q h => by rw [← hAe]; exact Or.inr h
  have hS : va_S A s.heap s.heap [] := va_S.rf
  have hP : va_P G vwCl [((a 6), .inr (1, [.ref (a 7), .ref (a 8), .ref (a 9), .ref (a 10), .int (nI (y_n Y)), .long (y_rp Y)])), ((a 7), .inl (cI, 9, .inl (y_sz Y))), ((a 8), .inl (cZ, 9, .inl (y_ac Y))), ((a 9), .inl (cI, 9, .inl (y_li Y))), ((a 10), .inl (cJ, 9, .inr (.inl (y_sh Y))))] s.heap := hP
  have hl := lv_entry ([.ref (a 6), .int c_g, .int b_g, .int q_g]) (n := 5) (Nat.le_of_ble_eq_true rfl)
  rw [lg_entry_eq]
  generalize (lg_sl ([.ref (a 6), .int c_g, .int b_g, .int q_g]) ++ List.replicate (5 - (lg_sl ([.ref (a 6), .int c_g, .int b_g, .int q_g])).length) Slot.unset).toArray = ls at hl ⊢
  have hl : lv_has ls 5 [(0, .ref (a 6)), (1, .int c_g), (2, .int b_g), (3, .int q_g)] := hl
  refine lv_aload_n hx hb dX1_add_0 rfl (lv_at hl 0 rfl) ?_
  refine va_get (D := G) (ci := 1) (v := .int (nI (y_n Y))) (C := RX1) (T := TX1) (N := 6) hx hb hts in_X1_add_1 hown hK hP 0 rfl rfl 4 (by decide) (hts (.fieldLink RX1 26 "RampJam$Yard" "vehicleCount" "I") (by decide +kernel)) (fun _ h9 => h9) rfl dX1_add_1 ?_
  refine lv_istore (lv' := [(4, .int (nI (y_n Y))), (0, .ref (a 6)), (1, .int c_g), (2, .int b_g), (3, .int q_g)]) hx hb dX1_add_4 hl (by decide) rfl (fun ls hl => ?_)
  refine lv_iload hx hb dX1_add_6 (lv_at hl 0 rfl) ?_
  refine lv_if_lt (tgt := 18) hx hb dX1_add_8 (by decide) (fun c_1 => ?_) (fun c_1 => ?_)
  · exact absurd c_1 (nI_pos (by omega))
  · refine lv_iload hx hb dX1_add_11 (lv_at hl 0 rfl) ?_
    refine lv_bipush (v := 9) hx hb dX1_add_13 (by decide) ?_
    refine lv_icmp_lt (tgt := 20) hx hb dX1_add_15 (by decide) (fun c_2 => ?_) (fun c_2 => ?_)
    · have h9 : y_n Y < 9 := (nI_ltI (a := y_n Y) (b := 9) (by omega) (by omega)).mp c_2
      refine lv_aload_n hx hb dX1_add_20 rfl (lv_at hl 1 rfl) ?_
      refine va_get (D := G) (ci := 1) (v := .ref (a 7)) (C := RX1) (T := TX1) (N := 6) hx hb hts in_X1_add_1 hown hK hP 0 rfl rfl 0 (by decide) (hts (.fieldLink RX1 9 "RampJam$Yard" "sizes" "[I") (by decide +kernel)) (fun _ h9 => h9) rfl dX1_add_21 ?_
      refine lv_iload hx hb dX1_add_24 (lv_at hl 0 rfl) ?_
      refine lv_iload_n hx hb dX1_add_26 rfl (lv_at hl 2 rfl) ?_
      refine va_iast hx hb hK hP hD hS 1 0 rfl rfl (vp_in_nI (by omega) (by decide)) dX1_add_27 (fun H locs hP hD hS => ?_)
      rw [show (nI (y_n Y)).toNatClampNeg = (y_n Y) from nI_clamp (by omega)] at hP hD
      have hP : va_P G vwCl [((a 6), .inr (1, [.ref (a 7), .ref (a 8), .ref (a 9), .ref (a 10), .int (nI (y_n Y)), .long (y_rp Y)])), ((a 7), .inl (cI, 9, .inl (upd (y_sz Y) (y_n Y) c_g))), ((a 8), .inl (cZ, 9, .inl (y_ac Y))), ((a 9), .inl (cI, 9, .inl (y_li Y))), ((a 10), .inl (cJ, 9, .inr (.inl (y_sh Y))))] H := hP
      have hD : va_D A [((a 6), .inr (1, [.ref (a 7), .ref (a 8), .ref (a 9), .ref (a 10), .int (nI (y_n Y)), .long (y_rp Y)])), ((a 7), .inl (cI, 9, .inl (upd (y_sz Y) (y_n Y) c_g))), ((a 8), .inl (cZ, 9, .inl (y_ac Y))), ((a 9), .inl (cI, 9, .inl (y_li Y))), ((a 10), .inl (cJ, 9, .inr (.inl (y_sh Y))))] := hD
      refine lv_aload_n hx hb dX1_add_28 rfl (lv_at hl 1 rfl) ?_
      refine va_get (D := G) (ci := 1) (v := .ref (a 8)) (C := RX1) (T := TX1) (N := 6) hx hb hts in_X1_add_1 hown hK hP 0 rfl rfl 1 (by decide) (hts (.fieldLink RX1 15 "RampJam$Yard" "acrosses" "[Z") (by decide +kernel)) (fun _ h9 => h9) rfl dX1_add_29 ?_
      refine lv_iload hx hb dX1_add_32 (lv_at hl 0 rfl) ?_
      refine lv_iload_n hx hb dX1_add_34 rfl (lv_at hl 3 rfl) ?_
      refine va_zast hx hb hK hP hD hS 2 1 rfl rfl (vp_in_nI (by omega) (by decide)) dX1_add_35 (fun H locs hP hD hS => ?_)
      rw [show (nI (y_n Y)).toNatClampNeg = (y_n Y) from nI_clamp (by omega)] at hP hD
      have hP : va_P G vwCl [((a 6), .inr (1, [.ref (a 7), .ref (a 8), .ref (a 9), .ref (a 10), .int (nI (y_n Y)), .long (y_rp Y)])), ((a 7), .inl (cI, 9, .inl (upd (y_sz Y) (y_n Y) c_g))), ((a 8), .inl (cZ, 9, .inl (upd (y_ac Y) (y_n Y) (vp_nar .boolean b_g)))), ((a 9), .inl (cI, 9, .inl (y_li Y))), ((a 10), .inl (cJ, 9, .inr (.inl (y_sh Y))))] H := hP
      have hD : va_D A [((a 6), .inr (1, [.ref (a 7), .ref (a 8), .ref (a 9), .ref (a 10), .int (nI (y_n Y)), .long (y_rp Y)])), ((a 7), .inl (cI, 9, .inl (upd (y_sz Y) (y_n Y) c_g))), ((a 8), .inl (cZ, 9, .inl (upd (y_ac Y) (y_n Y) (vp_nar .boolean b_g)))), ((a 9), .inl (cI, 9, .inl (y_li Y))), ((a 10), .inl (cJ, 9, .inr (.inl (y_sh Y))))] := hD
      refine lv_aload_n hx hb dX1_add_36 rfl (lv_at hl 1 rfl) ?_
      refine va_get (D := G) (ci := 1) (v := .ref (a 9)) (C := RX1) (T := TX1) (N := 6) hx hb hts in_X1_add_1 hown hK hP 0 rfl rfl 2 (by decide) (hts (.fieldLink RX1 19 "RampJam$Yard" "lines" "[I") (by decide +kernel)) (fun _ h9 => h9) rfl dX1_add_37 ?_
      refine lv_iload hx hb dX1_add_40 (lv_at hl 0 rfl) ?_
      refine lv_iload_n hx hb dX1_add_42 rfl (lv_at hl 4 rfl) ?_
      refine va_iast hx hb hK hP hD hS 3 0 rfl rfl (vp_in_nI (by omega) (by decide)) dX1_add_43 (fun H locs hP hD hS => ?_)
      rw [show (nI (y_n Y)).toNatClampNeg = (y_n Y) from nI_clamp (by omega)] at hP hD
      have hP : va_P G vwCl [((a 6), .inr (1, [.ref (a 7), .ref (a 8), .ref (a 9), .ref (a 10), .int (nI (y_n Y)), .long (y_rp Y)])), ((a 7), .inl (cI, 9, .inl (upd (y_sz Y) (y_n Y) c_g))), ((a 8), .inl (cZ, 9, .inl (upd (y_ac Y) (y_n Y) (vp_nar .boolean b_g)))), ((a 9), .inl (cI, 9, .inl (upd (y_li Y) (y_n Y) q_g))), ((a 10), .inl (cJ, 9, .inr (.inl (y_sh Y))))] H := hP
      have hD : va_D A [((a 6), .inr (1, [.ref (a 7), .ref (a 8), .ref (a 9), .ref (a 10), .int (nI (y_n Y)), .long (y_rp Y)])), ((a 7), .inl (cI, 9, .inl (upd (y_sz Y) (y_n Y) c_g))), ((a 8), .inl (cZ, 9, .inl (upd (y_ac Y) (y_n Y) (vp_nar .boolean b_g)))), ((a 9), .inl (cI, 9, .inl (upd (y_li Y) (y_n Y) q_g))), ((a 10), .inl (cJ, 9, .inr (.inl (y_sh Y))))] := hD
      refine lv_aload_n hx hb dX1_add_44 rfl (lv_at hl 1 rfl) ?_
      refine va_get (D := G) (ci := 1) (v := .ref (a 10)) (C := RX1) (T := TX1) (N := 6) hx hb hts in_X1_add_1 hown hK hP 0 rfl rfl 3 (by decide) (hts (.fieldLink RX1 22 "RampJam$Yard" "shapes" "[J") (by decide +kernel)) (fun _ h9 => h9) rfl dX1_add_45 ?_
      refine lv_iload hx hb dX1_add_48 (lv_at hl 0 rfl) ?_
      have cut_71 : ∀ (z_g : Int64), (z_g = y_csh c_g b_g q_g) → ∀ (H : Heap) (locs : List Loc), va_P G vwCl [((a 6), .inr (1, [.ref (a 7), .ref (a 8), .ref (a 9), .ref (a 10), .int (nI (y_n Y)), .long (y_rp Y)])), ((a 7), .inl (cI, 9, .inl (upd (y_sz Y) (y_n Y) c_g))), ((a 8), .inl (cZ, 9, .inl (upd (y_ac Y) (y_n Y) (vp_nar .boolean b_g)))), ((a 9), .inl (cI, 9, .inl (upd (y_li Y) (y_n Y) q_g))), ((a 10), .inl (cJ, 9, .inr (.inl (y_sh Y))))] H → va_D A [((a 6), .inr (1, [.ref (a 7), .ref (a 8), .ref (a 9), .ref (a 10), .int (nI (y_n Y)), .long (y_rp Y)])), ((a 7), .inl (cI, 9, .inl (upd (y_sz Y) (y_n Y) c_g))), ((a 8), .inl (cZ, 9, .inl (upd (y_ac Y) (y_n Y) (vp_nar .boolean b_g)))), ((a 9), .inl (cI, 9, .inl (upd (y_li Y) (y_n Y) q_g))), ((a 10), .inl (cJ, 9, .inr (.inl (y_sh Y))))] → va_S A s.heap H locs → ∀ (ls : Array Slot), lv_has ls 5 [(4, .int (nI (y_n Y))), (0, .ref (a 6)), (1, .int c_g), (2, .int b_g), (3, .int q_g)] → W p l e (headSpec wsX1_add ({ frames := 2, cells := 0, slots := 0, locals := 47 })).room s m ([.ref (a 6), .int c_g, .int b_g, .int q_g] : List Value).toArray below meth c H locs 0 0 (MQ below (va_Qi (fun (r : Int32) (u : YS) => r = (y_num Y) ∧ u = (y_add Y c_g b_g q_g)) (fun (u : YS) (t : State) => va_P G vwCl ((fun u : YS => wY cI cZ cJ a u) u) t.heap ∧ va_D A ((fun u : YS => wY cI cZ cJ a u) u)) A) ([.ref (a 6), .int c_g, .int b_g, .int q_g] : List Value).toArray s 0 0 A) (F0 m 71 ls [.long z_g, .int (nI (y_n Y)), .ref (a 10)]) := by
        intro z_g ez_g H locs hP hD hS ls hl
        subst ez_g
        try have hl : lv_has ls 5 [(4, .int (nI (y_n Y))), (0, .ref (a 6)), (1, .int c_g), (2, .int b_g), (3, .int q_g)] := hl
        refine va_last hx hb hK hP hD hS 4 2 rfl rfl (vp_in_nI (by omega) (by decide)) dX1_add_71 (fun H locs hP hD hS => ?_)
        rw [show (nI (y_n Y)).toNatClampNeg = (y_n Y) from nI_clamp (by omega)] at hP hD
        have hP : va_P G vwCl [((a 6), .inr (1, [.ref (a 7), .ref (a 8), .ref (a 9), .ref (a 10), .int (nI (y_n Y)), .long (y_rp Y)])), ((a 7), .inl (cI, 9, .inl (upd (y_sz Y) (y_n Y) c_g))), ((a 8), .inl (cZ, 9, .inl (upd (y_ac Y) (y_n Y) (vp_nar .boolean b_g)))), ((a 9), .inl (cI, 9, .inl (upd (y_li Y) (y_n Y) q_g))), ((a 10), .inl (cJ, 9, .inr (.inl (vp_updL (y_sh Y) (y_n Y) (y_csh c_g b_g q_g)))))] H := hP
        have hD : va_D A [((a 6), .inr (1, [.ref (a 7), .ref (a 8), .ref (a 9), .ref (a 10), .int (nI (y_n Y)), .long (y_rp Y)])), ((a 7), .inl (cI, 9, .inl (upd (y_sz Y) (y_n Y) c_g))), ((a 8), .inl (cZ, 9, .inl (upd (y_ac Y) (y_n Y) (vp_nar .boolean b_g)))), ((a 9), .inl (cI, 9, .inl (upd (y_li Y) (y_n Y) q_g))), ((a 10), .inl (cJ, 9, .inr (.inl (vp_updL (y_sh Y) (y_n Y) (y_csh c_g b_g q_g)))))] := hD
        refine lv_aload_n hx hb dX1_add_72 rfl (lv_at hl 1 rfl) ?_
        refine lv_iload hx hb dX1_add_73 (lv_at hl 0 rfl) ?_
        refine lv_iconst (v := 1) hx hb dX1_add_75 (by decide) ?_
        refine lv_iadd hx hb dX1_add_76 ?_
        rw [show (((nI (y_n Y)) + 1) : Int32) = (nI (y_n Y + 1)) from nI_1 _]
        refine va_put (D := G) (ci := 1) (v := .int (nI (y_n Y + 1))) (ty := .int) (C := RX1) (T := TX1) (N := 6) hx hb hts in_X1_add_1 tyX1 tyX1_ok nmX1 hown hK hP hD hS 0 rfl rfl 4 (by decide) (hts (.fieldLink RX1 26 "RampJam$Yard" "vehicleCount" "I") (by decide +kernel)) (fun _ h9 => h9) rfl (by decide +kernel) rfl rfl (Nat.le_of_ble_eq_true rfl) dX1_add_77 (fun H locs hP hD hS => ?_)
        have hP : va_P G vwCl [((a 6), .inr (1, [.ref (a 7), .ref (a 8), .ref (a 9), .ref (a 10), .int (nI (y_n Y + 1)), .long (y_rp Y)])), ((a 7), .inl (cI, 9, .inl (upd (y_sz Y) (y_n Y) c_g))), ((a 8), .inl (cZ, 9, .inl (upd (y_ac Y) (y_n Y) (vp_nar .boolean b_g)))), ((a 9), .inl (cI, 9, .inl (upd (y_li Y) (y_n Y) q_g))), ((a 10), .inl (cJ, 9, .inr (.inl (vp_updL (y_sh Y) (y_n Y) (y_csh c_g b_g q_g)))))] H := hP
        have hD : va_D A [((a 6), .inr (1, [.ref (a 7), .ref (a 8), .ref (a 9), .ref (a 10), .int (nI (y_n Y + 1)), .long (y_rp Y)])), ((a 7), .inl (cI, 9, .inl (upd (y_sz Y) (y_n Y) c_g))), ((a 8), .inl (cZ, 9, .inl (upd (y_ac Y) (y_n Y) (vp_nar .boolean b_g)))), ((a 9), .inl (cI, 9, .inl (upd (y_li Y) (y_n Y) q_g))), ((a 10), .inl (cJ, 9, .inr (.inl (vp_updL (y_sh Y) (y_n Y) (y_csh c_g b_g q_g)))))] := hD
        refine lv_iload hx hb dX1_add_80 (lv_at hl 0 rfl) ?_
        have hP9 := hP
        have hD9 := hD
        exact W.iret (v := (nI (y_n Y))) hx hb hr (fun t ht hW => ⟨⟨(nI (y_n Y)), ((upd (y_sz Y) (y_n Y) c_g), (upd (y_ac Y) (y_n Y) (vp_nar .boolean b_g)), (upd (y_li Y) (y_n Y) q_g), (vp_updL (y_sh Y) (y_n Y) (y_csh c_g b_g q_g)), (y_n Y + 1), (y_rp Y)), rfl, ⟨by rw [y_num, if_pos h9], by rw [y_add, if_pos h9]⟩, by rw [ht]; exact hP9, hD9⟩, hS.F ht⟩) hS.2.2 dX1_add_82
      refine lv_iload_n hx hb dX1_add_50 rfl (lv_at hl 3 rfl) ?_
      refine lv_if_eq (tgt := 64) hx hb dX1_add_51 (by decide) (fun c_3 => ?_) (fun c_3 => ?_)
      · refine lv_iload_n hx hb dX1_add_64 rfl (lv_at hl 2 rfl) ?_
        refine lv_iconst (v := 0) hx hb dX1_add_65 (by decide) ?_
        refine lv_iconst (v := 0) hx hb dX1_add_66 (by decide) ?_
        refine lv_iload_n hx hb dX1_add_67 rfl (lv_at hl 4 rfl) ?_
        refine ro_l (va_runSN (As := [.int c_g, .int 0, .int 0, .int q_g]) (rest := [.int (nI (y_n Y)), .ref (a 10)]) ⟨hx, hb, hml, hown, hts⟩ ((c_X2_cellsOf l G cI cZ cJ a _ c_g 0 0 q_g)) ⟨va_cnB 4 hts gX1_add_X2_cellsOf_n30 rfl rfl rfl (nx_get hN (k := 4) rfl) (hts (.initialized RX2) (by decide +kernel)) (by decide +kernel) ⟨Nat.le_of_ble_eq_true rfl, Nat.le_of_ble_eq_true rfl⟩, hts (.static yX2_cellsOf) (by decide +kernel), trivial⟩ ⟨ro_blind, ro_pre va_P0 hK hN⟩ rfl rfl hl.1 rfl (lv_room (Nat.le_of_ble_eq_true rfl)) dX1_add_68 ⟨Nat.zero_le _, Nat.zero_le _⟩) hS hA hP (fun H locs hP hS => ?_)
        exact cut_71 (cso (0 : Int32) (0 : Int32) q_g (min c_g.toNatClampNeg 4)) (by simp [y_csh, c_1, c_2, c_3]) _ _ hP hD hS _ hl
      · refine lv_iload_n hx hb dX1_add_54 rfl (lv_at hl 2 rfl) ?_
        refine lv_iconst (v := 1) hx hb dX1_add_55 (by decide) ?_
        refine lv_iload_n hx hb dX1_add_56 rfl (lv_at hl 4 rfl) ?_
        refine lv_iconst (v := 0) hx hb dX1_add_57 (by decide) ?_
        refine ro_l (va_runSN (As := [.int c_g, .int 1, .int q_g, .int 0]) (rest := [.int (nI (y_n Y)), .ref (a 10)]) ⟨hx, hb, hml, hown, hts⟩ ((c_X2_cellsOf l G cI cZ cJ a _ c_g 1 q_g 0)) ⟨va_cnB 4 hts gX1_add_X2_cellsOf_n30 rfl rfl rfl (nx_get hN (k := 4) rfl) (hts (.initialized RX2) (by decide +kernel)) (by decide +kernel) ⟨Nat.le_of_ble_eq_true rfl, Nat.le_of_ble_eq_true rfl⟩, hts (.static yX2_cellsOf) (by decide +kernel), trivial⟩ ⟨ro_blind, ro_pre va_P0 hK hN⟩ rfl rfl hl.1 rfl (lv_room (Nat.le_of_ble_eq_true rfl)) dX1_add_58 ⟨Nat.zero_le _, Nat.zero_le _⟩) hS hA hP (fun H locs hP hS => ?_)
        refine lv_goto (tgt := 71) hx hb dX1_add_61 (by decide) ?_
        exact cut_71 (cso (1 : Int32) q_g (0 : Int32) (min c_g.toNatClampNeg 4)) (by simp [y_csh, c_1, c_2, c_3]) _ _ hP hD hS _ hl
    · have h9 : 9 ≤ y_n Y := Nat.not_lt.mp (fun q => c_2 ((nI_ltI (a := y_n Y) (b := 9) (by omega) (by omega)).mpr q))
      refine lv_iconst (v := (-1)) hx hb dX1_add_18 (by decide) ?_
      have hP9 := hP
      have hD9 := hD
      exact W.iret (v := (-1)) hx hb hr (fun t ht hW => ⟨⟨(-1), Y, rfl, ⟨by rw [y_num, if_neg (by omega)], by rw [y_add, if_neg (by omega)]⟩, by rw [ht]; exact hP9, hD9⟩, hS.F ht⟩) hS.2.2 dX1_add_19

theorem in_X2_standAt_2 : ∀ w ∈ wsX20, w ∈ wsX2_standAt := by decide +kernel
set_option maxHeartbeats 4000000 in
set_option maxRecDepth 100000 in
/-- RampJam.standAt -/
theorem c_X2_standAt (l : Launch) (G : va_G) (cI cZ cJ : ClassId) (a : Nat → Nat) (sz : Nat) (X : XS) (p_g : Int32)  : Met l yX2_standAt wsX2_standAt ({ frames := 0, cells := 0, slots := 0, locals := 0 }) (rw_Pc G [(cI, .int), (cZ, .boolean), (cJ, .long)] (wJ cI cZ cJ a (x_J X) (x_S X) (x_Y X)) sz [.ref (a 0), .int p_g]) (rw_Qv (S := XS) (x_stand X p_g) (fun u : XS => wJ cI cZ cJ a (x_J u) (x_S u) (x_Y u)) G (wJ cI cZ cJ a (x_J X) (x_S X) (x_Y X)) sz) 0 0 (va_A (wJ cI cZ cJ a (x_J X) (x_S X) (x_Y X)) sz) := by
  refine Met.ofW (cc := cX2_standAt) (maxL := 2) (ret := none) (by decide) rfl ?_
  intro p e s m args below meth c s₁ B hml hv
  obtain ⟨rfl, hsz, hP, hK, hD0, hN⟩ := hv
  have hx := B.exec
  have hb := B.bytes
  have hr := B.returns
  have hts := atoms_spec (ws := wsX2_standAt) B.pre
  have hown : s.vm.findClass RX2 = some m.cls := findClass_of_methodNamed B.named
  have hlocks := B.notSynchronized
  subst hsz
  have hD0 : va_D (fun _ => True) [((a 0), .inr (2, [.ref (a 6), .ref (a 1), .int (j_pp (x_J X)), .int (j_po (x_J X)), .int (j_mc (x_J X)), .int (j_dc (x_J X)), .int (j_is (x_J X))])), ((a 1), .inr (0, [.ref (a 6), .ref (a 2), .ref (a 3), .ref (a 4), .ref (a 5), .int (s_fc (x_S X)), .int (s_fs (x_S X)), .int (s_sm (x_S X)), .int (s_sc (x_S X)), .int (s_sf (x_S X))])), ((a 2), .inl (cI, 800, .inl (s_fo (x_S X)))), ((a 3), .inl (cI, 800, .inl (s_or (x_S X)))), ((a 4), .inl (cI, 800, .inl (s_mo (x_S X)))), ((a 5), .inl (cI, 2048, .inl (s_sl (x_S X)))), ((a 6), .inr (1, [.ref (a 7), .ref (a 8), .ref (a 9), .ref (a 10), .int (nI (y_n (x_Y X))), .long (y_rp (x_Y X))])), ((a 7), .inl (cI, 9, .inl (y_sz (x_Y X)))), ((a 8), .inl (cZ, 9, .inl (y_ac (x_Y X)))), ((a 9), .inl (cI, 9, .inl (y_li (x_Y X)))), ((a 10), .inl (cJ, 9, .inr (.inl (y_sh (x_Y X)))))] := hD0
  have hD := hD0.self (sz := s.heap.size)
  unfold rw_Qv
  generalize hAe : va_A (wJ cI cZ cJ a (x_J X) (x_S X) (x_Y X)) s.heap.size = A at hD ⊢
  have hA : ∀ q : Nat, s.heap.size ≤ q → A q := fun q h => by rw [← hAe]; exact Or.inr h
  have hS : va_S A s.heap s.heap [] := va_S.rf
  have hP : va_P G vwCl [((a 0), .inr (2, [.ref (a 6), .ref (a 1), .int (j_pp (x_J X)), .int (j_po (x_J X)), .int (j_mc (x_J X)), .int (j_dc (x_J X)), .int (j_is (x_J X))])), ((a 1), .inr (0, [.ref (a 6), .ref (a 2), .ref (a 3), .ref (a 4), .ref (a 5), .int (s_fc (x_S X)), .int (s_fs (x_S X)), .int (s_sm (x_S X)), .int (s_sc (x_S X)), .int (s_sf (x_S X))])), ((a 2), .inl (cI, 800, .inl (s_fo (x_S X)))), ((a 3), .inl (cI, 800, .inl (s_or (x_S X)))), ((a 4), .inl (cI, 800, .inl (s_mo (x_S X)))), ((a 5), .inl (cI, 2048, .inl (s_sl (x_S X)))), ((a 6), .inr (1, [.ref (a 7), .ref (a 8), .ref (a 9), .ref (a 10), .int (nI (y_n (x_Y X))), .long (y_rp (x_Y X))])), ((a 7), .inl (cI, 9, .inl (y_sz (x_Y X)))), ((a 8), .inl (cZ, 9, .inl (y_ac (x_Y X)))), ((a 9), .inl (cI, 9, .inl (y_li (x_Y X)))), ((a 10), .inl (cJ, 9, .inr (.inl (y_sh (x_Y X)))))] s.heap := hP
  have hl := lv_entry ([.ref (a 0), .int p_g]) (n := 2) (Nat.le_of_ble_eq_true rfl)
  rw [lg_entry_eq]
  generalize (lg_sl ([.ref (a 0), .int p_g]) ++ List.replicate (2 - (lg_sl ([.ref (a 0), .int p_g])).length) Slot.unset).toArray = ls at hl ⊢
  have hl : lv_has ls 2 [(0, .ref (a 0)), (1, .int p_g)] := hl
  refine lv_aload_n hx hb dX2_standAt_0 rfl (lv_at hl 0 rfl) ?_
  refine lv_iload_n hx hb dX2_standAt_1 rfl (lv_at hl 1 rfl) ?_
  refine va_put (D := G) (ci := 2) (v := .int p_g) (ty := .int) (C := RX2) (T := TX2) (N := 7) hx hb hts in_X2_standAt_2 tyX2 tyX2_ok nmX2 hown hK hP hD hS 0 rfl rfl 3 (by decide) (hts (.fieldLink RX2 57 "RampJam" "position" "I") (by decide +kernel)) (fun _ h9 => h9) rfl (by decide +kernel) rfl rfl (Nat.le_of_ble_eq_true rfl) dX2_standAt_2 (fun H locs hP hD hS => ?_)
  have hP : va_P G vwCl [((a 0), .inr (2, [.ref (a 6), .ref (a 1), .int (j_pp (x_J X)), .int p_g, .int (j_mc (x_J X)), .int (j_dc (x_J X)), .int (j_is (x_J X))])), ((a 1), .inr (0, [.ref (a 6), .ref (a 2), .ref (a 3), .ref (a 4), .ref (a 5), .int (s_fc (x_S X)), .int (s_fs (x_S X)), .int (s_sm (x_S X)), .int (s_sc (x_S X)), .int (s_sf (x_S X))])), ((a 2), .inl (cI, 800, .inl (s_fo (x_S X)))), ((a 3), .inl (cI, 800, .inl (s_or (x_S X)))), ((a 4), .inl (cI, 800, .inl (s_mo (x_S X)))), ((a 5), .inl (cI, 2048, .inl (s_sl (x_S X)))), ((a 6), .inr (1, [.ref (a 7), .ref (a 8), .ref (a 9), .ref (a 10), .int (nI (y_n (x_Y X))), .long (y_rp (x_Y X))])), ((a 7), .inl (cI, 9, .inl (y_sz (x_Y X)))), ((a 8), .inl (cZ, 9, .inl (y_ac (x_Y X)))), ((a 9), .inl (cI, 9, .inl (y_li (x_Y X)))), ((a 10), .inl (cJ, 9, .inr (.inl (y_sh (x_Y X)))))] H := hP
  have hD : va_D A [((a 0), .inr (2, [.ref (a 6), .ref (a 1), .int (j_pp (x_J X)), .int p_g, .int (j_mc (x_J X)), .int (j_dc (x_J X)), .int (j_is (x_J X))])), ((a 1), .inr (0, [.ref (a 6), .ref (a 2), .ref (a 3), .ref (a 4), .ref (a 5), .int (s_fc (x_S X)), .int (s_fs (x_S X)), .int (s_sm (x_S X)), .int (s_sc (x_S X)), .int (s_sf (x_S X))])), ((a 2), .inl (cI, 800, .inl (s_fo (x_S X)))), ((a 3), .inl (cI, 800, .inl (s_or (x_S X)))), ((a 4), .inl (cI, 800, .inl (s_mo (x_S X)))), ((a 5), .inl (cI, 2048, .inl (s_sl (x_S X)))), ((a 6), .inr (1, [.ref (a 7), .ref (a 8), .ref (a 9), .ref (a 10), .int (nI (y_n (x_Y X))), .long (y_rp (x_Y X))])), ((a 7), .inl (cI, 9, .inl (y_sz (x_Y X)))), ((a 8), .inl (cZ, 9, .inl (y_ac (x_Y X)))), ((a 9), .inl (cI, 9, .inl (y_li (x_Y X)))), ((a 10), .inl (cJ, 9, .inr (.inl (y_sh (x_Y X)))))] := hD
  refine lv_aload_n hx hb dX2_standAt_5 rfl (lv_at hl 0 rfl) ?_
  refine lv_iconst (v := 0) hx hb dX2_standAt_6 (by decide) ?_
  refine va_put (D := G) (ci := 2) (v := .int 0) (ty := .boolean) (C := RX2) (T := TX2) (N := 7) hx hb hts in_X2_standAt_2 tyX2 tyX2_ok nmX2 hown hK hP hD hS 0 rfl rfl 6 (by decide) (hts (.fieldLink RX2 106 "RampJam" "isSearched" "Z") (by decide +kernel)) (fun _ h9 => h9) rfl (by decide +kernel) rfl rfl (Nat.le_of_ble_eq_true rfl) dX2_standAt_7 (fun H locs hP hD hS => ?_)
  have hP : va_P G vwCl [((a 0), .inr (2, [.ref (a 6), .ref (a 1), .int (j_pp (x_J X)), .int p_g, .int (j_mc (x_J X)), .int (j_dc (x_J X)), .int 0])), ((a 1), .inr (0, [.ref (a 6), .ref (a 2), .ref (a 3), .ref (a 4), .ref (a 5), .int (s_fc (x_S X)), .int (s_fs (x_S X)), .int (s_sm (x_S X)), .int (s_sc (x_S X)), .int (s_sf (x_S X))])), ((a 2), .inl (cI, 800, .inl (s_fo (x_S X)))), ((a 3), .inl (cI, 800, .inl (s_or (x_S X)))), ((a 4), .inl (cI, 800, .inl (s_mo (x_S X)))), ((a 5), .inl (cI, 2048, .inl (s_sl (x_S X)))), ((a 6), .inr (1, [.ref (a 7), .ref (a 8), .ref (a 9), .ref (a 10), .int (nI (y_n (x_Y X))), .long (y_rp (x_Y X))])), ((a 7), .inl (cI, 9, .inl (y_sz (x_Y X)))), ((a 8), .inl (cZ, 9, .inl (y_ac (x_Y X)))), ((a 9), .inl (cI, 9, .inl (y_li (x_Y X)))), ((a 10), .inl (cJ, 9, .inr (.inl (y_sh (x_Y X)))))] H := hP
  have hD : va_D A [((a 0), .inr (2, [.ref (a 6), .ref (a 1), .int (j_pp (x_J X)), .int p_g, .int (j_mc (x_J X)), .int (j_dc (x_J X)), .int 0])), ((a 1), .inr (0, [.ref (a 6), .ref (a 2), .ref (a 3), .ref (a 4), .ref (a 5), .int (s_fc (x_S X)), .int (s_fs (x_S X)), .int (s_sm (x_S X)), .int (s_sc (x_S X)), .int (s_sf (x_S X))])), ((a 2), .inl (cI, 800, .inl (s_fo (x_S X)))), ((a 3), .inl (cI, 800, .inl (s_or (x_S X)))), ((a 4), .inl (cI, 800, .inl (s_mo (x_S X)))), ((a 5), .inl (cI, 2048, .inl (s_sl (x_S X)))), ((a 6), .inr (1, [.ref (a 7), .ref (a 8), .ref (a 9), .ref (a 10), .int (nI (y_n (x_Y X))), .long (y_rp (x_Y X))])), ((a 7), .inl (cI, 9, .inl (y_sz (x_Y X)))), ((a 8), .inl (cZ, 9, .inl (y_ac (x_Y X)))), ((a 9), .inl (cI, 9, .inl (y_li (x_Y X)))), ((a 10), .inl (cJ, 9, .inr (.inl (y_sh (x_Y X)))))] := hD
  have hP9 := hP
  have hD9 := hD
  exact W.vret hx hb hr (fun t ht hW => ⟨⟨(((j_pp (x_J X)), p_g, (j_mc (x_J X)), (j_dc (x_J X)), 0), (x_S X), (x_Y X)), rfl, rfl, by rw [ht]; exact hP9, hD9⟩, hS.F ht⟩) hS.2.2 dX2_standAt_10

theorem in_X2_makeMove_2 : ∀ w ∈ wsX20, w ∈ wsX2_makeMove := by decide +kernel
set_option maxHeartbeats 4000000 in
set_option maxRecDepth 100000 in
/-- RampJam.makeMove -/
theorem c_X2_makeMove (l : Launch) (G : va_G) (cI cZ cJ : ClassId) (a : Nat → Nat) (sz : Nat) (X : XS) (v_g : Int32) (c_g : Int32)  : Met l yX2_makeMove wsX2_makeMove ({ frames := 1, cells := 0, slots := 0, locals := 22 }) (rw_Pc G [(cI, .int), (cZ, .boolean), (cJ, .long)] (wJ cI cZ cJ a (x_J X) (x_S X) (x_Y X)) sz [.ref (a 0), .int v_g, .int c_g]) (rw_Qv (S := XS) (x_move X v_g c_g) (fun u : XS => wJ cI cZ cJ a (x_J u) (x_S u) (x_Y u)) G (wJ cI cZ cJ a (x_J X) (x_S X) (x_Y X)) sz) 0 0 (va_A (wJ cI cZ cJ a (x_J X) (x_S X) (x_Y X)) sz) := by
  refine Met.ofW (cc := cX2_makeMove) (maxL := 3) (ret := none) (by decide) rfl ?_
  intro p e s m args below meth c s₁ B hml hv
  obtain ⟨rfl, hsz, hP, hK, hD0, hN⟩ := hv
  have hx := B.exec
  have hb := B.bytes
  have hr := B.returns
  have hts := atoms_spec (ws := wsX2_makeMove) B.pre
  have hown : s.vm.findClass RX2 = some m.cls := findClass_of_methodNamed B.named
  have hlocks := B.notSynchronized
  subst hsz
  have hD0 : va_D (fun _ => True) [((a 0), .inr (2, [.ref (a 6), .ref (a 1), .int (j_pp (x_J X)), .int (j_po (x_J X)), .int (j_mc (x_J X)), .int (j_dc (x_J X)), .int (j_is (x_J X))])), ((a 1), .inr (0, [.ref (a 6), .ref (a 2), .ref (a 3), .ref (a 4), .ref (a 5), .int (s_fc (x_S X)), .int (s_fs (x_S X)), .int (s_sm (x_S X)), .int (s_sc (x_S X)), .int (s_sf (x_S X))])), ((a 2), .inl (cI, 800, .inl (s_fo (x_S X)))), ((a 3), .inl (cI, 800, .inl (s_or (x_S X)))), ((a 4), .inl (cI, 800, .inl (s_mo (x_S X)))), ((a 5), .inl (cI, 2048, .inl (s_sl (x_S X)))), ((a 6), .inr (1, [.ref (a 7), .ref (a 8), .ref (a 9), .ref (a 10), .int (nI (y_n (x_Y X))), .long (y_rp (x_Y X))])), ((a 7), .inl (cI, 9, .inl (y_sz (x_Y X)))), ((a 8), .inl (cZ, 9, .inl (y_ac (x_Y X)))), ((a 9), .inl (cI, 9, .inl (y_li (x_Y X)))), ((a 10), .inl (cJ, 9, .inr (.inl (y_sh (x_Y X)))))] := hD0
  have hD := hD0.self (sz := s.heap.size)
  unfold rw_Qv
  generalize hAe : va_A (wJ cI cZ cJ a (x_J X) (x_S X) (x_Y X)) s.heap.size = A at hD ⊢
  have hA : ∀ q : Nat, s.heap.size ≤ q → A q := fun q h => by rw [← hAe]; exact Or.inr h
  have hS : va_S A s.heap s.heap [] := va_S.rf
  have hP : va_P G vwCl [((a 0), .inr (2, [.ref (a 6), .ref (a 1), .int (j_pp (x_J X)), .int (j_po (x_J X)), .int (j_mc (x_J X)), .int (j_dc (x_J X)), .int (j_is (x_J X))])), ((a 1), .inr (0, [.ref (a 6), .ref (a 2), .ref (a 3), .ref (a 4), .ref (a 5), .int (s_fc (x_S X)), .int (s_fs (x_S X)), .int (s_sm (x_S X)), .int (s_sc (x_S X)), .int (s_sf (x_S X))])), ((a 2), .inl (cI, 800, .inl (s_fo (x_S X)))), ((a 3), .inl (cI, 800, .inl (s_or (x_S X)))), ((a 4), .inl (cI, 800, .inl (s_mo (x_S X)))), ((a 5), .inl (cI, 2048, .inl (s_sl (x_S X)))), ((a 6), .inr (1, [.ref (a 7), .ref (a 8), .ref (a 9), .ref (a 10), .int (nI (y_n (x_Y X))), .long (y_rp (x_Y X))])), ((a 7), .inl (cI, 9, .inl (y_sz (x_Y X)))), ((a 8), .inl (cZ, 9, .inl (y_ac (x_Y X)))), ((a 9), .inl (cI, 9, .inl (y_li (x_Y X)))), ((a 10), .inl (cJ, 9, .inr (.inl (y_sh (x_Y X)))))] s.heap := hP
  have hl := lv_entry ([.ref (a 0), .int v_g, .int c_g]) (n := 3) (Nat.le_of_ble_eq_true rfl)
  rw [lg_entry_eq]
  generalize (lg_sl ([.ref (a 0), .int v_g, .int c_g]) ++ List.replicate (3 - (lg_sl ([.ref (a 0), .int v_g, .int c_g])).length) Slot.unset).toArray = ls at hl ⊢
  have hl : lv_has ls 3 [(0, .ref (a 0)), (1, .int v_g), (2, .int c_g)] := hl
  refine lv_aload_n hx hb dX2_makeMove_0 rfl (lv_at hl 0 rfl) ?_
  refine lv_aload_n hx hb dX2_makeMove_1 rfl (lv_at hl 0 rfl) ?_
  refine va_get (D := G) (ci := 2) (v := .int (j_po (x_J X))) (C := RX2) (T := TX2) (N := 7) hx hb hts in_X2_makeMove_2 hown hK hP 0 rfl rfl 3 (by decide) (hts (.fieldLink RX2 57 "RampJam" "position" "I") (by decide +kernel)) (fun _ h9 => h9) rfl dX2_makeMove_2 ?_
  refine lv_iload_n hx hb dX2_makeMove_5 rfl (lv_at hl 1 rfl) ?_
  refine lv_iload_n hx hb dX2_makeMove_6 rfl (lv_at hl 2 rfl) ?_
  refine ro_i (va_runS (As := [.int (j_po (x_J X)), .int v_g, .int c_g]) (rest := [.ref (a 0)]) ⟨hx, hb, hml, hown, hts⟩ ((c_X2_moved l G cI cZ cJ a _ (j_po (x_J X)) v_g c_g)) (va_cwS 3 hts gX2_makeMove_X2_moved rfl rfl rfl (by decide +kernel) ⟨Nat.le_of_ble_eq_true rfl, Nat.le_of_ble_eq_true rfl⟩) ⟨ro_blind, ro_pre va_P0 hK hN⟩ rfl rfl hl.1 rfl (lv_room (Nat.le_of_ble_eq_true rfl)) dX2_makeMove_7 ⟨Nat.zero_le _, Nat.zero_le _⟩) hS hA hP (fun H locs hP hS => ?_)
  refine rw_v (wr := []) (ws' := [((a 0), .inr (2, [.ref (a 6), .ref (a 1), .int (j_pp (x_J (x_stand X (mv (j_po (x_J X)) v_g c_g)))), .int (j_po (x_J (x_stand X (mv (j_po (x_J X)) v_g c_g)))), .int (j_mc (x_J (x_stand X (mv (j_po (x_J X)) v_g c_g)))), .int (j_dc (x_J (x_stand X (mv (j_po (x_J X)) v_g c_g)))), .int (j_is (x_J (x_stand X (mv (j_po (x_J X)) v_g c_g))))])), ((a 1), .inr (0, [.ref (a 6), .ref (a 2), .ref (a 3), .ref (a 4), .ref (a 5), .int (s_fc (x_S (x_stand X (mv (j_po (x_J X)) v_g c_g)))), .int (s_fs (x_S (x_stand X (mv (j_po (x_J X)) v_g c_g)))), .int (s_sm (x_S (x_stand X (mv (j_po (x_J X)) v_g c_g)))), .int (s_sc (x_S (x_stand X (mv (j_po (x_J X)) v_g c_g)))), .int (s_sf (x_S (x_stand X (mv (j_po (x_J X)) v_g c_g))))])), ((a 2), .inl (cI, 800, .inl (s_fo (x_S (x_stand X (mv (j_po (x_J X)) v_g c_g)))))), ((a 3), .inl (cI, 800, .inl (s_or (x_S (x_stand X (mv (j_po (x_J X)) v_g c_g)))))), ((a 4), .inl (cI, 800, .inl (s_mo (x_S (x_stand X (mv (j_po (x_J X)) v_g c_g)))))), ((a 5), .inl (cI, 2048, .inl (s_sl (x_S (x_stand X (mv (j_po (x_J X)) v_g c_g)))))), ((a 6), .inr (1, [.ref (a 7), .ref (a 8), .ref (a 9), .ref (a 10), .int (nI (y_n (x_Y (x_stand X (mv (j_po (x_J X)) v_g c_g))))), .long (y_rp (x_Y (x_stand X (mv (j_po (x_J X)) v_g c_g))))])), ((a 7), .inl (cI, 9, .inl (y_sz (x_Y (x_stand X (mv (j_po (x_J X)) v_g c_g)))))), ((a 8), .inl (cZ, 9, .inl (y_ac (x_Y (x_stand X (mv (j_po (x_J X)) v_g c_g)))))), ((a 9), .inl (cI, 9, .inl (y_li (x_Y (x_stand X (mv (j_po (x_J X)) v_g c_g)))))), ((a 10), .inl (cJ, 9, .inr (.inl (y_sh (x_Y (x_stand X (mv (j_po (x_J X)) v_g c_g)))))))]) (va_runV (As := [.int (mv (j_po (x_J X)) v_g c_g)]) (rest := []) ⟨hx, hb, hml, hown, hts⟩ ((c_X2_standAt l G cI cZ cJ a _ X (mv (j_po (x_J X)) v_g c_g))) (cwV 1 hts gX2_makeMove_X2_standAt rfl rfl rfl (by decide +kernel) ⟨Nat.le_of_ble_eq_true rfl, Nat.le_of_ble_eq_true rfl⟩) ⟨rw_blind, va_recv hK hP (ci := 2) (q0 := 0) rfl rfl, rw_pre hP hD hK hN⟩ rfl rfl hl.1 rfl (lv_room (Nat.le_of_ble_eq_true rfl)) dX2_makeMove_10 ⟨Nat.zero_le _, Nat.zero_le _⟩) hS hA hP hD [0, 1, 2, 3, 4, 5, 6, 7, 8, 9, 10] [] [0, 1, 2, 3, 4, 5, 6, 7, 8, 9, 10] rfl rfl (by decide) (by decide) rfl (by decide) (fun H locs hP hD hS => ?_)
  refine lv_aload_n hx hb dX2_makeMove_13 rfl (lv_at hl 0 rfl) ?_
  refine lv_dup hx hb dX2_makeMove_14 rfl ?_
  refine va_get (D := G) (ci := 2) (v := .int (j_mc (x_J (x_stand X (mv (j_po (x_J X)) v_g c_g))))) (C := RX2) (T := TX2) (N := 7) hx hb hts in_X2_makeMove_2 hown hK hP 0 rfl rfl 4 (by decide) (hts (.fieldLink RX2 44 "RampJam" "moveCount" "I") (by decide +kernel)) (fun _ h9 => h9) rfl dX2_makeMove_15 ?_
  refine lv_iconst (v := 1) hx hb dX2_makeMove_18 (by decide) ?_
  refine lv_iadd hx hb dX2_makeMove_19 ?_
  refine va_put (D := G) (ci := 2) (v := .int ((j_mc (x_J (x_stand X (mv (j_po (x_J X)) v_g c_g)))) + 1)) (ty := .int) (C := RX2) (T := TX2) (N := 7) hx hb hts in_X2_makeMove_2 tyX2 tyX2_ok nmX2 hown hK hP hD hS 0 rfl rfl 4 (by decide) (hts (.fieldLink RX2 44 "RampJam" "moveCount" "I") (by decide +kernel)) (fun _ h9 => h9) rfl (by decide +kernel) rfl rfl (Nat.le_of_ble_eq_true rfl) dX2_makeMove_20 (fun H locs hP hD hS => ?_)
  have hP : va_P G vwCl [((a 0), .inr (2, [.ref (a 6), .ref (a 1), .int (j_pp (x_J (x_stand X (mv (j_po (x_J X)) v_g c_g)))), .int (j_po (x_J (x_stand X (mv (j_po (x_J X)) v_g c_g)))), .int ((j_mc (x_J (x_stand X (mv (j_po (x_J X)) v_g c_g)))) + 1), .int (j_dc (x_J (x_stand X (mv (j_po (x_J X)) v_g c_g)))), .int (j_is (x_J (x_stand X (mv (j_po (x_J X)) v_g c_g))))])), ((a 1), .inr (0, [.ref (a 6), .ref (a 2), .ref (a 3), .ref (a 4), .ref (a 5), .int (s_fc (x_S (x_stand X (mv (j_po (x_J X)) v_g c_g)))), .int (s_fs (x_S (x_stand X (mv (j_po (x_J X)) v_g c_g)))), .int (s_sm (x_S (x_stand X (mv (j_po (x_J X)) v_g c_g)))), .int (s_sc (x_S (x_stand X (mv (j_po (x_J X)) v_g c_g)))), .int (s_sf (x_S (x_stand X (mv (j_po (x_J X)) v_g c_g))))])), ((a 2), .inl (cI, 800, .inl (s_fo (x_S (x_stand X (mv (j_po (x_J X)) v_g c_g)))))), ((a 3), .inl (cI, 800, .inl (s_or (x_S (x_stand X (mv (j_po (x_J X)) v_g c_g)))))), ((a 4), .inl (cI, 800, .inl (s_mo (x_S (x_stand X (mv (j_po (x_J X)) v_g c_g)))))), ((a 5), .inl (cI, 2048, .inl (s_sl (x_S (x_stand X (mv (j_po (x_J X)) v_g c_g)))))), ((a 6), .inr (1, [.ref (a 7), .ref (a 8), .ref (a 9), .ref (a 10), .int (nI (y_n (x_Y (x_stand X (mv (j_po (x_J X)) v_g c_g))))), .long (y_rp (x_Y (x_stand X (mv (j_po (x_J X)) v_g c_g))))])), ((a 7), .inl (cI, 9, .inl (y_sz (x_Y (x_stand X (mv (j_po (x_J X)) v_g c_g)))))), ((a 8), .inl (cZ, 9, .inl (y_ac (x_Y (x_stand X (mv (j_po (x_J X)) v_g c_g)))))), ((a 9), .inl (cI, 9, .inl (y_li (x_Y (x_stand X (mv (j_po (x_J X)) v_g c_g)))))), ((a 10), .inl (cJ, 9, .inr (.inl (y_sh (x_Y (x_stand X (mv (j_po (x_J X)) v_g c_g)))))))] H := hP
  have hD : va_D A [((a 0), .inr (2, [.ref (a 6), .ref (a 1), .int (j_pp (x_J (x_stand X (mv (j_po (x_J X)) v_g c_g)))), .int (j_po (x_J (x_stand X (mv (j_po (x_J X)) v_g c_g)))), .int ((j_mc (x_J (x_stand X (mv (j_po (x_J X)) v_g c_g)))) + 1), .int (j_dc (x_J (x_stand X (mv (j_po (x_J X)) v_g c_g)))), .int (j_is (x_J (x_stand X (mv (j_po (x_J X)) v_g c_g))))])), ((a 1), .inr (0, [.ref (a 6), .ref (a 2), .ref (a 3), .ref (a 4), .ref (a 5), .int (s_fc (x_S (x_stand X (mv (j_po (x_J X)) v_g c_g)))), .int (s_fs (x_S (x_stand X (mv (j_po (x_J X)) v_g c_g)))), .int (s_sm (x_S (x_stand X (mv (j_po (x_J X)) v_g c_g)))), .int (s_sc (x_S (x_stand X (mv (j_po (x_J X)) v_g c_g)))), .int (s_sf (x_S (x_stand X (mv (j_po (x_J X)) v_g c_g))))])), ((a 2), .inl (cI, 800, .inl (s_fo (x_S (x_stand X (mv (j_po (x_J X)) v_g c_g)))))), ((a 3), .inl (cI, 800, .inl (s_or (x_S (x_stand X (mv (j_po (x_J X)) v_g c_g)))))), ((a 4), .inl (cI, 800, .inl (s_mo (x_S (x_stand X (mv (j_po (x_J X)) v_g c_g)))))), ((a 5), .inl (cI, 2048, .inl (s_sl (x_S (x_stand X (mv (j_po (x_J X)) v_g c_g)))))), ((a 6), .inr (1, [.ref (a 7), .ref (a 8), .ref (a 9), .ref (a 10), .int (nI (y_n (x_Y (x_stand X (mv (j_po (x_J X)) v_g c_g))))), .long (y_rp (x_Y (x_stand X (mv (j_po (x_J X)) v_g c_g))))])), ((a 7), .inl (cI, 9, .inl (y_sz (x_Y (x_stand X (mv (j_po (x_J X)) v_g c_g)))))), ((a 8), .inl (cZ, 9, .inl (y_ac (x_Y (x_stand X (mv (j_po (x_J X)) v_g c_g)))))), ((a 9), .inl (cI, 9, .inl (y_li (x_Y (x_stand X (mv (j_po (x_J X)) v_g c_g)))))), ((a 10), .inl (cJ, 9, .inr (.inl (y_sh (x_Y (x_stand X (mv (j_po (x_J X)) v_g c_g)))))))] := hD
  refine lv_aload_n hx hb dX2_makeMove_23 rfl (lv_at hl 0 rfl) ?_
  refine lv_dup hx hb dX2_makeMove_24 rfl ?_
  refine va_get (D := G) (ci := 2) (v := .int (j_dc (x_J (x_stand X (mv (j_po (x_J X)) v_g c_g))))) (C := RX2) (T := TX2) (N := 7) hx hb hts in_X2_makeMove_2 hown hK hP 0 rfl rfl 5 (by decide) (hts (.fieldLink RX2 136 "RampJam" "drivenCells" "I") (by decide +kernel)) (fun _ h9 => h9) rfl dX2_makeMove_25 ?_
  refine lv_iload_n hx hb dX2_makeMove_28 rfl (lv_at hl 2 rfl) ?_
  refine va_mabs hx hb (by rw [hml]; exact hl.1.symm) hown (hts (.methodLink RX2 120 Lib.Math.abs.name) (by decide +kernel)) (hts (.static Lib.Math.abs.name) (by decide +kernel)) (hts (.initialized "java/lang/Math") (by decide +kernel)) (hts (.code Lib.Math.abs.name Lib.Math.abs.code 1 (some .int)) (by decide +kernel)) (Nat.le_of_ble_eq_true rfl) (Nat.le_of_ble_eq_true rfl) (Nat.zero_le _) (Nat.zero_le _) dX2_makeMove_29 ?_
  refine lv_iadd hx hb dX2_makeMove_32 ?_
  refine va_put (D := G) (ci := 2) (v := .int ((j_dc (x_J (x_stand X (mv (j_po (x_J X)) v_g c_g)))) + (iabs c_g))) (ty := .int) (C := RX2) (T := TX2) (N := 7) hx hb hts in_X2_makeMove_2 tyX2 tyX2_ok nmX2 hown hK hP hD hS 0 rfl rfl 5 (by decide) (hts (.fieldLink RX2 136 "RampJam" "drivenCells" "I") (by decide +kernel)) (fun _ h9 => h9) rfl (by decide +kernel) rfl rfl (Nat.le_of_ble_eq_true rfl) dX2_makeMove_33 (fun H locs hP hD hS => ?_)
  have hP : va_P G vwCl [((a 0), .inr (2, [.ref (a 6), .ref (a 1), .int (j_pp (x_J (x_stand X (mv (j_po (x_J X)) v_g c_g)))), .int (j_po (x_J (x_stand X (mv (j_po (x_J X)) v_g c_g)))), .int ((j_mc (x_J (x_stand X (mv (j_po (x_J X)) v_g c_g)))) + 1), .int ((j_dc (x_J (x_stand X (mv (j_po (x_J X)) v_g c_g)))) + (iabs c_g)), .int (j_is (x_J (x_stand X (mv (j_po (x_J X)) v_g c_g))))])), ((a 1), .inr (0, [.ref (a 6), .ref (a 2), .ref (a 3), .ref (a 4), .ref (a 5), .int (s_fc (x_S (x_stand X (mv (j_po (x_J X)) v_g c_g)))), .int (s_fs (x_S (x_stand X (mv (j_po (x_J X)) v_g c_g)))), .int (s_sm (x_S (x_stand X (mv (j_po (x_J X)) v_g c_g)))), .int (s_sc (x_S (x_stand X (mv (j_po (x_J X)) v_g c_g)))), .int (s_sf (x_S (x_stand X (mv (j_po (x_J X)) v_g c_g))))])), ((a 2), .inl (cI, 800, .inl (s_fo (x_S (x_stand X (mv (j_po (x_J X)) v_g c_g)))))), ((a 3), .inl (cI, 800, .inl (s_or (x_S (x_stand X (mv (j_po (x_J X)) v_g c_g)))))), ((a 4), .inl (cI, 800, .inl (s_mo (x_S (x_stand X (mv (j_po (x_J X)) v_g c_g)))))), ((a 5), .inl (cI, 2048, .inl (s_sl (x_S (x_stand X (mv (j_po (x_J X)) v_g c_g)))))), ((a 6), .inr (1, [.ref (a 7), .ref (a 8), .ref (a 9), .ref (a 10), .int (nI (y_n (x_Y (x_stand X (mv (j_po (x_J X)) v_g c_g))))), .long (y_rp (x_Y (x_stand X (mv (j_po (x_J X)) v_g c_g))))])), ((a 7), .inl (cI, 9, .inl (y_sz (x_Y (x_stand X (mv (j_po (x_J X)) v_g c_g)))))), ((a 8), .inl (cZ, 9, .inl (y_ac (x_Y (x_stand X (mv (j_po (x_J X)) v_g c_g)))))), ((a 9), .inl (cI, 9, .inl (y_li (x_Y (x_stand X (mv (j_po (x_J X)) v_g c_g)))))), ((a 10), .inl (cJ, 9, .inr (.inl (y_sh (x_Y (x_stand X (mv (j_po (x_J X)) v_g c_g)))))))] H := hP
  have hD : va_D A [((a 0), .inr (2, [.ref (a 6), .ref (a 1), .int (j_pp (x_J (x_stand X (mv (j_po (x_J X)) v_g c_g)))), .int (j_po (x_J (x_stand X (mv (j_po (x_J X)) v_g c_g)))), .int ((j_mc (x_J (x_stand X (mv (j_po (x_J X)) v_g c_g)))) + 1), .int ((j_dc (x_J (x_stand X (mv (j_po (x_J X)) v_g c_g)))) + (iabs c_g)), .int (j_is (x_J (x_stand X (mv (j_po (x_J X)) v_g c_g))))])), ((a 1), .inr (0, [.ref (a 6), .ref (a 2), .ref (a 3), .ref (a 4), .ref (a 5), .int (s_fc (x_S (x_stand X (mv (j_po (x_J X)) v_g c_g)))), .int (s_fs (x_S (x_stand X (mv (j_po (x_J X)) v_g c_g)))), .int (s_sm (x_S (x_stand X (mv (j_po (x_J X)) v_g c_g)))), .int (s_sc (x_S (x_stand X (mv (j_po (x_J X)) v_g c_g)))), .int (s_sf (x_S (x_stand X (mv (j_po (x_J X)) v_g c_g))))])), ((a 2), .inl (cI, 800, .inl (s_fo (x_S (x_stand X (mv (j_po (x_J X)) v_g c_g)))))), ((a 3), .inl (cI, 800, .inl (s_or (x_S (x_stand X (mv (j_po (x_J X)) v_g c_g)))))), ((a 4), .inl (cI, 800, .inl (s_mo (x_S (x_stand X (mv (j_po (x_J X)) v_g c_g)))))), ((a 5), .inl (cI, 2048, .inl (s_sl (x_S (x_stand X (mv (j_po (x_J X)) v_g c_g)))))), ((a 6), .inr (1, [.ref (a 7), .ref (a 8), .ref (a 9), .ref (a 10), .int (nI (y_n (x_Y (x_stand X (mv (j_po (x_J X)) v_g c_g))))), .long (y_rp (x_Y (x_stand X (mv (j_po (x_J X)) v_g c_g))))])), ((a 7), .inl (cI, 9, .inl (y_sz (x_Y (x_stand X (mv (j_po (x_J X)) v_g c_g)))))), ((a 8), .inl (cZ, 9, .inl (y_ac (x_Y (x_stand X (mv (j_po (x_J X)) v_g c_g)))))), ((a 9), .inl (cI, 9, .inl (y_li (x_Y (x_stand X (mv (j_po (x_J X)) v_g c_g)))))), ((a 10), .inl (cJ, 9, .inr (.inl (y_sh (x_Y (x_stand X (mv (j_po (x_J X)) v_g c_g)))))))] := hD
  have hP9 := hP
  have hD9 := hD
  exact W.vret hx hb hr (fun t ht hW => ⟨⟨(((j_pp (x_J (x_stand X (mv (j_po (x_J X)) v_g c_g)))), (j_po (x_J (x_stand X (mv (j_po (x_J X)) v_g c_g)))), ((j_mc (x_J (x_stand X (mv (j_po (x_J X)) v_g c_g)))) + 1), ((j_dc (x_J (x_stand X (mv (j_po (x_J X)) v_g c_g)))) + (iabs c_g)), (j_is (x_J (x_stand X (mv (j_po (x_J X)) v_g c_g))))), (x_S (x_stand X (mv (j_po (x_J X)) v_g c_g))), (x_Y (x_stand X (mv (j_po (x_J X)) v_g c_g)))), rfl, rfl, by rw [ht]; exact hP9, hD9⟩, hS.F ht⟩) hS.2.2 dX2_makeMove_36

theorem in_X2_searchFromNow_2 : ∀ w ∈ wsX20, w ∈ wsX2_searchFromNow := by decide +kernel
set_option maxHeartbeats 4000000 in
set_option maxRecDepth 100000 in
/-- RampJam.searchFromNow -/
theorem c_X2_searchFromNow (l : Launch) (G : va_G) (cI cZ cJ : ClassId) (a : Nat → Nat) (sz : Nat) (X : XS) (hn : y_n (x_Y X) ≤ 9) : Met l yX2_searchFromNow wsX2_searchFromNow ({ frames := 5, cells := 0, slots := 0, locals := 124 }) (rw_Pc G [(cI, .int), (cZ, .boolean), (cJ, .long)] (wJ cI cZ cJ a (x_J X) (x_S X) (x_Y X)) sz [.ref (a 0)]) (rw_Qv (S := XS) (x_srch X) (fun u : XS => wJ cI cZ cJ a (x_J u) (x_S u) (x_Y u)) G (wJ cI cZ cJ a (x_J X) (x_S X) (x_Y X)) sz) 0 0 (va_A (wJ cI cZ cJ a (x_J X) (x_S X) (x_Y X)) sz) := by
  refine Met.ofW (cc := cX2_searchFromNow) (maxL := 1) (ret := none) (by decide) rfl ?_
  intro p e s m args below meth c s₁ B hml hv
  obtain ⟨rfl, hsz, hP, hK, hD0, hN⟩ := hv
  have hx := B.exec
  have hb := B.bytes
  have hr := B.returns
  have hts := atoms_spec (ws := wsX2_searchFromNow) B.pre
  have hown : s.vm.findClass RX2 = some m.cls := findClass_of_methodNamed B.named
  have hlocks := B.notSynchronized
  subst hsz
  have hD0 : va_D (fun _ => True) [((a 0), .inr (2, [.ref (a 6), .ref (a 1), .int (j_pp (x_J X)), .int (j_po (x_J X)), .int (j_mc (x_J X)), .int (j_dc (x_J X)), .int (j_is (x_J X))])), ((a 1), .inr (0, [.ref (a 6), .ref (a 2), .ref (a 3), .ref (a 4), .ref (a 5), .int (s_fc (x_S X)), .int (s_fs (x_S X)), .int (s_sm (x_S X)), .int (s_sc (x_S X)), .int (s_sf (x_S X))])), ((a 2), .inl (cI, 800, .inl (s_fo (x_S X)))), ((a 3), .inl (cI, 800, .inl (s_or (x_S X)))), ((a 4), .inl (cI, 800, .inl (s_mo (x_S X)))), ((a 5), .inl (cI, 2048, .inl (s_sl (x_S X)))), ((a 6), .inr (1, [.ref (a 7), .ref (a 8), .ref (a 9), .ref (a 10), .int (nI (y_n (x_Y X))), .long (y_rp (x_Y X))])), ((a 7), .inl (cI, 9, .inl (y_sz (x_Y X)))), ((a 8), .inl (cZ, 9, .inl (y_ac (x_Y X)))), ((a 9), .inl (cI, 9, .inl (y_li (x_Y X)))), ((a 10), .inl (cJ, 9, .inr (.inl (y_sh (x_Y X)))))] := hD0
  have hD := hD0.self (sz := s.heap.size)
  unfold rw_Qv
  generalize hAe : va_A (wJ cI cZ cJ a (x_J X) (x_S X) (x_Y X)) s.heap.size = A at hD ⊢
  have hA : ∀ q : Nat, s.heap.size ≤ q → A q := fun q h => by rw [← hAe]; exact Or.inr h
  have hS : va_S A s.heap s.heap [] := va_S.rf
  have hP : va_P G vwCl [((a 0), .inr (2, [.ref (a 6), .ref (a 1), .int (j_pp (x_J X)), .int (j_po (x_J X)), .int (j_mc (x_J X)), .int (j_dc (x_J X)), .int (j_is (x_J X))])), ((a 1), .inr (0, [.ref (a 6), .ref (a 2), .ref (a 3), .ref (a 4), .ref (a 5), .int (s_fc (x_S X)), .int (s_fs (x_S X)), .int (s_sm (x_S X)), .int (s_sc (x_S X)), .int (s_sf (x_S X))])), ((a 2), .inl (cI, 800, .inl (s_fo (x_S X)))), ((a 3), .inl (cI, 800, .inl (s_or (x_S X)))), ((a 4), .inl (cI, 800, .inl (s_mo (x_S X)))), ((a 5), .inl (cI, 2048, .inl (s_sl (x_S X)))), ((a 6), .inr (1, [.ref (a 7), .ref (a 8), .ref (a 9), .ref (a 10), .int (nI (y_n (x_Y X))), .long (y_rp (x_Y X))])), ((a 7), .inl (cI, 9, .inl (y_sz (x_Y X)))), ((a 8), .inl (cZ, 9, .inl (y_ac (x_Y X)))), ((a 9), .inl (cI, 9, .inl (y_li (x_Y X)))), ((a 10), .inl (cJ, 9, .inr (.inl (y_sh (x_Y X)))))] s.heap := hP
  have hl := lv_entry ([.ref (a 0)]) (n := 1) (Nat.le_of_ble_eq_true rfl)
  rw [lg_entry_eq]
  generalize (lg_sl ([.ref (a 0)]) ++ List.replicate (1 - (lg_sl ([.ref (a 0)])).length) Slot.unset).toArray = ls at hl ⊢
  have hl : lv_has ls 1 [(0, .ref (a 0))] := hl
  refine lv_aload_n hx hb dX2_searchFromNow_0 rfl (lv_at hl 0 rfl) ?_
  refine va_get (D := G) (ci := 2) (v := .int (j_is (x_J X))) (C := RX2) (T := TX2) (N := 7) hx hb hts in_X2_searchFromNow_2 hown hK hP 0 rfl rfl 6 (by decide) (hts (.fieldLink RX2 106 "RampJam" "isSearched" "Z") (by decide +kernel)) (fun _ h9 => h9) rfl dX2_searchFromNow_1 ?_
  refine lv_if_ne (tgt := 23) hx hb dX2_searchFromNow_4 (by decide) (fun c_1 => ?_) (fun c_1 => ?_)
  · have hP9 := hP
    have hD9 := hD
    exact W.vret hx hb hr (fun t ht hW => ⟨⟨X, rfl, by rw [x_srch, if_neg c_1], by rw [ht]; exact hP9, hD9⟩, hS.F ht⟩) hS.2.2 dX2_searchFromNow_23
  · refine lv_aload_n hx hb dX2_searchFromNow_7 rfl (lv_at hl 0 rfl) ?_
    refine va_get (D := G) (ci := 2) (v := .ref (a 1)) (C := RX2) (T := TX2) (N := 7) hx hb hts in_X2_searchFromNow_2 hown hK hP 0 rfl rfl 1 (by decide) (hts (.fieldLink RX2 21 "RampJam" "search" "LRampJam$Search;") (by decide +kernel)) (fun _ h9 => h9) rfl dX2_searchFromNow_8 ?_
    refine lv_aload_n hx hb dX2_searchFromNow_11 rfl (lv_at hl 0 rfl) ?_
    refine va_get (D := G) (ci := 2) (v := .int (j_po (x_J X))) (C := RX2) (T := TX2) (N := 7) hx hb hts in_X2_searchFromNow_2 hown hK hP 0 rfl rfl 3 (by decide) (hts (.fieldLink RX2 57 "RampJam" "position" "I") (by decide +kernel)) (fun _ h9 => h9) rfl dX2_searchFromNow_12 ?_
    obtain ⟨Z_g, hZ_g⟩ : ∃ Z, s_look (x_Y X) (x_S X) (j_po (x_J X)) = Z := ⟨_, rfl⟩
    have hPc := hP.sub (ws' := [((a 1), .inr (0, [.ref (a 6), .ref (a 2), .ref (a 3), .ref (a 4), .ref (a 5), .int (s_fc (x_S X)), .int (s_fs (x_S X)), .int (s_sm (x_S X)), .int (s_sc (x_S X)), .int (s_sf (x_S X))])), ((a 2), .inl (cI, 800, .inl (s_fo (x_S X)))), ((a 3), .inl (cI, 800, .inl (s_or (x_S X)))), ((a 4), .inl (cI, 800, .inl (s_mo (x_S X)))), ((a 5), .inl (cI, 2048, .inl (s_sl (x_S X)))), ((a 6), .inr (1, [.ref (a 7), .ref (a 8), .ref (a 9), .ref (a 10), .int (nI (y_n (x_Y X))), .long (y_rp (x_Y X))])), ((a 7), .inl (cI, 9, .inl (y_sz (x_Y X)))), ((a 8), .inl (cZ, 9, .inl (y_ac (x_Y X)))), ((a 9), .inl (cI, 9, .inl (y_li (x_Y X)))), ((a 10), .inl (cJ, 9, .inr (.inl (y_sh (x_Y X)))))]) [1, 2, 3, 4, 5, 6, 7, 8, 9, 10] rfl
    have hDc := hD.sub (ws' := [((a 1), .inr (0, [.ref (a 6), .ref (a 2), .ref (a 3), .ref (a 4), .ref (a 5), .int (s_fc (x_S X)), .int (s_fs (x_S X)), .int (s_sm (x_S X)), .int (s_sc (x_S X)), .int (s_sf (x_S X))])), ((a 2), .inl (cI, 800, .inl (s_fo (x_S X)))), ((a 3), .inl (cI, 800, .inl (s_or (x_S X)))), ((a 4), .inl (cI, 800, .inl (s_mo (x_S X)))), ((a 5), .inl (cI, 2048, .inl (s_sl (x_S X)))), ((a 6), .inr (1, [.ref (a 7), .ref (a 8), .ref (a 9), .ref (a 10), .int (nI (y_n (x_Y X))), .long (y_rp (x_Y X))])), ((a 7), .inl (cI, 9, .inl (y_sz (x_Y X)))), ((a 8), .inl (cZ, 9, .inl (y_ac (x_Y X)))), ((a 9), .inl (cI, 9, .inl (y_li (x_Y X)))), ((a 10), .inl (cJ, 9, .inr (.inl (y_sh (x_Y X)))))]) [1, 2, 3, 4, 5, 6, 7, 8, 9, 10] (by decide) rfl
    refine rw_v (wr := [((a 0), .inr (2, [.ref (a 6), .ref (a 1), .int (j_pp (x_J X)), .int (j_po (x_J X)), .int (j_mc (x_J X)), .int (j_dc (x_J X)), .int (j_is (x_J X))]))]) (ws' := [((a 0), .inr (2, [.ref (a 6), .ref (a 1), .int (j_pp (x_J X)), .int (j_po (x_J X)), .int (j_mc (x_J X)), .int (j_dc (x_J X)), .int (j_is (x_J X))])), ((a 1), .inr (0, [.ref (a 6), .ref (a 2), .ref (a 3), .ref (a 4), .ref (a 5), .int (s_fc Z_g), .int (s_fs Z_g), .int (s_sm Z_g), .int (s_sc Z_g), .int (s_sf Z_g)])), ((a 2), .inl (cI, 800, .inl (s_fo Z_g))), ((a 3), .inl (cI, 800, .inl (s_or Z_g))), ((a 4), .inl (cI, 800, .inl (s_mo Z_g))), ((a 5), .inl (cI, 2048, .inl (s_sl Z_g))), ((a 6), .inr (1, [.ref (a 7), .ref (a 8), .ref (a 9), .ref (a 10), .int (nI (y_n (x_Y X))), .long (y_rp (x_Y X))])), ((a 7), .inl (cI, 9, .inl (y_sz (x_Y X)))), ((a 8), .inl (cZ, 9, .inl (y_ac (x_Y X)))), ((a 9), .inl (cI, 9, .inl (y_li (x_Y X)))), ((a 10), .inl (cJ, 9, .inr (.inl (y_sh (x_Y X)))))]) (va_runV (As := [.int (j_po (x_J X))]) (rest := []) ⟨hx, hb, hml, hown, hts⟩ ((c_X0_lookFromZ l G cI cZ cJ a _ (x_S X) (x_Y X) (j_po (x_J X)) hn Z_g hZ_g)) (cwV 1 hts gX2_searchFromNow_X0_lookFrom rfl rfl rfl (by decide +kernel) ⟨Nat.le_of_ble_eq_true rfl, Nat.le_of_ble_eq_true rfl⟩) ⟨rw_blind, va_recv hK hPc (ci := 0) (q0 := 0) rfl rfl, rw_pre hPc hDc hK hN⟩ rfl rfl hl.1 rfl (lv_room (Nat.le_of_ble_eq_true rfl)) dX2_searchFromNow_15 ⟨Nat.zero_le _, Nat.zero_le _⟩) hS hA hP hD [1, 2, 3, 4, 5, 6, 7, 8, 9, 10] [0] [0, 1, 2, 3, 4, 5, 6, 7, 8, 9, 10] rfl rfl (by decide) (by decide) rfl (by decide) (fun H locs hP hD hS => ?_)
    refine lv_aload_n hx hb dX2_searchFromNow_18 rfl (lv_at hl 0 rfl) ?_
    refine lv_iconst (v := 1) hx hb dX2_searchFromNow_19 (by decide) ?_
    refine va_put (D := G) (ci := 2) (v := .int 1) (ty := .boolean) (C := RX2) (T := TX2) (N := 7) hx hb hts in_X2_searchFromNow_2 tyX2 tyX2_ok nmX2 hown hK hP hD hS 0 rfl rfl 6 (by decide) (hts (.fieldLink RX2 106 "RampJam" "isSearched" "Z") (by decide +kernel)) (fun _ h9 => h9) rfl (by decide +kernel) rfl rfl (Nat.le_of_ble_eq_true rfl) dX2_searchFromNow_20 (fun H locs hP hD hS => ?_)
    have hP : va_P G vwCl [((a 0), .inr (2, [.ref (a 6), .ref (a 1), .int (j_pp (x_J X)), .int (j_po (x_J X)), .int (j_mc (x_J X)), .int (j_dc (x_J X)), .int 1])), ((a 1), .inr (0, [.ref (a 6), .ref (a 2), .ref (a 3), .ref (a 4), .ref (a 5), .int (s_fc Z_g), .int (s_fs Z_g), .int (s_sm Z_g), .int (s_sc Z_g), .int (s_sf Z_g)])), ((a 2), .inl (cI, 800, .inl (s_fo Z_g))), ((a 3), .inl (cI, 800, .inl (s_or Z_g))), ((a 4), .inl (cI, 800, .inl (s_mo Z_g))), ((a 5), .inl (cI, 2048, .inl (s_sl Z_g))), ((a 6), .inr (1, [.ref (a 7), .ref (a 8), .ref (a 9), .ref (a 10), .int (nI (y_n (x_Y X))), .long (y_rp (x_Y X))])), ((a 7), .inl (cI, 9, .inl (y_sz (x_Y X)))), ((a 8), .inl (cZ, 9, .inl (y_ac (x_Y X)))), ((a 9), .inl (cI, 9, .inl (y_li (x_Y X)))), ((a 10), .inl (cJ, 9, .inr (.inl (y_sh (x_Y X)))))] H := hP
    have hD : va_D A [((a 0), .inr (2, [.ref (a 6), .ref (a 1), .int (j_pp (x_J X)), .int (j_po (x_J X)), .int (j_mc (x_J X)), .int (j_dc (x_J X)), .int 1])), ((a 1), .inr (0, [.ref (a 6), .ref (a 2), .ref (a 3), .ref (a 4), .ref (a 5), .int (s_fc Z_g), .int (s_fs Z_g), .int (s_sm Z_g), .int (s_sc Z_g), .int (s_sf Z_g)])), ((a 2), .inl (cI, 800, .inl (s_fo Z_g))), ((a 3), .inl (cI, 800, .inl (s_or Z_g))), ((a 4), .inl (cI, 800, .inl (s_mo Z_g))), ((a 5), .inl (cI, 2048, .inl (s_sl Z_g))), ((a 6), .inr (1, [.ref (a 7), .ref (a 8), .ref (a 9), .ref (a 10), .int (nI (y_n (x_Y X))), .long (y_rp (x_Y X))])), ((a 7), .inl (cI, 9, .inl (y_sz (x_Y X)))), ((a 8), .inl (cZ, 9, .inl (y_ac (x_Y X)))), ((a 9), .inl (cI, 9, .inl (y_li (x_Y X)))), ((a 10), .inl (cJ, 9, .inr (.inl (y_sh (x_Y X)))))] := hD
    have hP9 := hP
    have hD9 := hD
    exact W.vret hx hb hr (fun t ht hW => ⟨⟨(((j_pp (x_J X)), (j_po (x_J X)), (j_mc (x_J X)), (j_dc (x_J X)), 1), Z_g, (x_Y X)), rfl, by rw [x_srch, if_pos c_1, hZ_g], by rw [ht]; exact hP9, hD9⟩, hS.F ht⟩) hS.2.2 dX2_searchFromNow_23

theorem in_X2_wayNow_2 : ∀ w ∈ wsX20, w ∈ wsX2_wayNow := by decide +kernel
set_option maxHeartbeats 4000000 in
set_option maxRecDepth 100000 in
/-- RampJam.wayNow -/
theorem c_X2_wayNow (l : Launch) (G : va_G) (cI cZ cJ : ClassId) (a : Nat → Nat) (sz : Nat) (X : XS) (v_g : Int32) (f_g : Int32) (hn : y_n (x_Y X) ≤ 9) : Met l yX2_wayNow wsX2_wayNow ({ frames := 3, cells := 0, slots := 0, locals := 77 }) (ro_Pc G [(cI, .int), (cZ, .boolean), (cJ, .long)] (wJ cI cZ cJ a (x_J X) (x_S X) (x_Y X)) sz [.ref (a 0), .int v_g, .int f_g]) (ro_Qi (j_way X v_g f_g) sz) 0 0 (ro_A sz) := by
  refine Met.ofW (cc := cX2_wayNow) (maxL := 3) (ret := (some .int)) (by decide) rfl ?_
  intro p e s m args below meth c s₁ B hml hv
  obtain ⟨rfl, hsz, hP, hK, hN⟩ := hv
  have hx := B.exec
  have hb := B.bytes
  have hr := B.returns
  have hts := atoms_spec (ws := wsX2_wayNow) B.pre
  have hown : s.vm.findClass RX2 = some m.cls := findClass_of_methodNamed B.named
  have hlocks := B.notSynchronized
  subst hsz
  have hA : ∀ q : Nat, s.heap.size ≤ q → (ro_A s.heap.size) q := fun _ h => h
  have hS : va_S (ro_A s.heap.size) s.heap s.heap [] := va_S.rf
  have hP : va_P G vwCl [((a 0), .inr (2, [.ref (a 6), .ref (a 1), .int (j_pp (x_J X)), .int (j_po (x_J X)), .int (j_mc (x_J X)), .int (j_dc (x_J X)), .int (j_is (x_J X))])), ((a 1), .inr (0, [.ref (a 6), .ref (a 2), .ref (a 3), .ref (a 4), .ref (a 5), .int (s_fc (x_S X)), .int (s_fs (x_S X)), .int (s_sm (x_S X)), .int (s_sc (x_S X)), .int (s_sf (x_S X))])), ((a 2), .inl (cI, 800, .inl (s_fo (x_S X)))), ((a 3), .inl (cI, 800, .inl (s_or (x_S X)))), ((a 4), .inl (cI, 800, .inl (s_mo (x_S X)))), ((a 5), .inl (cI, 2048, .inl (s_sl (x_S X)))), ((a 6), .inr (1, [.ref (a 7), .ref (a 8), .ref (a 9), .ref (a 10), .int (nI (y_n (x_Y X))), .long (y_rp (x_Y X))])), ((a 7), .inl (cI, 9, .inl (y_sz (x_Y X)))), ((a 8), .inl (cZ, 9, .inl (y_ac (x_Y X)))), ((a 9), .inl (cI, 9, .inl (y_li (x_Y X)))), ((a 10), .inl (cJ, 9, .inr (.inl (y_sh (x_Y X)))))] s.heap := hP
  have hl := lv_entry ([.ref (a 0), .int v_g, .int f_g]) (n := 3) (Nat.le_of_ble_eq_true rfl)
  rw [lg_entry_eq]
  generalize (lg_sl ([.ref (a 0), .int v_g, .int f_g]) ++ List.replicate (3 - (lg_sl ([.ref (a 0), .int v_g, .int f_g])).length) Slot.unset).toArray = ls at hl ⊢
  have hl : lv_has ls 3 [(0, .ref (a 0)), (1, .int v_g), (2, .int f_g)] := hl
  refine lv_aload_n hx hb dX2_wayNow_0 rfl (lv_at hl 0 rfl) ?_
  refine va_get (D := G) (ci := 2) (v := .ref (a 6)) (C := RX2) (T := TX2) (N := 7) hx hb hts in_X2_wayNow_2 hown hK hP 0 rfl rfl 0 (by decide) (hts (.fieldLink RX2 10 "RampJam" "yard" "LRampJam$Yard;") (by decide +kernel)) (fun _ h9 => h9) rfl dX2_wayNow_1 ?_
  refine lv_aload_n hx hb dX2_wayNow_4 rfl (lv_at hl 0 rfl) ?_
  refine va_get (D := G) (ci := 2) (v := .int (j_po (x_J X))) (C := RX2) (T := TX2) (N := 7) hx hb hts in_X2_wayNow_2 hown hK hP 0 rfl rfl 3 (by decide) (hts (.fieldLink RX2 57 "RampJam" "position" "I") (by decide +kernel)) (fun _ h9 => h9) rfl dX2_wayNow_5 ?_
  refine lv_aload_n hx hb dX2_wayNow_8 rfl (lv_at hl 0 rfl) ?_
  refine va_get (D := G) (ci := 2) (v := .ref (a 6)) (C := RX2) (T := TX2) (N := 7) hx hb hts in_X2_wayNow_2 hown hK hP 0 rfl rfl 0 (by decide) (hts (.fieldLink RX2 10 "RampJam" "yard" "LRampJam$Yard;") (by decide +kernel)) (fun _ h9 => h9) rfl dX2_wayNow_9 ?_
  refine lv_aload_n hx hb dX2_wayNow_12 rfl (lv_at hl 0 rfl) ?_
  refine va_get (D := G) (ci := 2) (v := .int (j_po (x_J X))) (C := RX2) (T := TX2) (N := 7) hx hb hts in_X2_wayNow_2 hown hK hP 0 rfl rfl 3 (by decide) (hts (.fieldLink RX2 57 "RampJam" "position" "I") (by decide +kernel)) (fun _ h9 => h9) rfl dX2_wayNow_13 ?_
  have hPc := hP.sub (ws' := [((a 6), .inr (1, [.ref (a 7), .ref (a 8), .ref (a 9), .ref (a 10), .int (nI (y_n (x_Y X))), .long (y_rp (x_Y X))])), ((a 7), .inl (cI, 9, .inl (y_sz (x_Y X)))), ((a 8), .inl (cZ, 9, .inl (y_ac (x_Y X)))), ((a 9), .inl (cI, 9, .inl (y_li (x_Y X)))), ((a 10), .inl (cJ, 9, .inr (.inl (y_sh (x_Y X)))))]) [6, 7, 8, 9, 10] rfl
  refine ro_l (va_runV (As := [.int (j_po (x_J X))]) (rest := [.int (j_po (x_J X)), .ref (a 6)]) ⟨hx, hb, hml, hown, hts⟩ ((c_X1_filledIn l G cI cZ cJ a _ (x_Y X) (j_po (x_J X)) hn)) (cwV 1 hts gX2_wayNow_X1_filledIn rfl rfl rfl (by decide +kernel) ⟨Nat.le_of_ble_eq_true rfl, Nat.le_of_ble_eq_true rfl⟩) ⟨ro_blind, va_recv hK hPc (ci := 1) (q0 := 0) rfl rfl, ro_pre hPc hK hN⟩ rfl rfl hl.1 rfl (lv_room (Nat.le_of_ble_eq_true rfl)) dX2_wayNow_16 ⟨Nat.zero_le _, Nat.zero_le _⟩) hS hA hP (fun H locs hP hS => ?_)
  refine lv_iload_n hx hb dX2_wayNow_19 rfl (lv_at hl 1 rfl) ?_
  refine lv_iload_n hx hb dX2_wayNow_20 rfl (lv_at hl 2 rfl) ?_
  refine lv_if_eq (tgt := 28) hx hb dX2_wayNow_21 (by decide) (fun c_1 => ?_) (fun c_1 => ?_)
  · refine lv_iconst (v := (-1)) hx hb dX2_wayNow_28 (by decide) ?_
    have hPc := hP.sub (ws' := [((a 6), .inr (1, [.ref (a 7), .ref (a 8), .ref (a 9), .ref (a 10), .int (nI (y_n (x_Y X))), .long (y_rp (x_Y X))])), ((a 7), .inl (cI, 9, .inl (y_sz (x_Y X)))), ((a 8), .inl (cZ, 9, .inl (y_ac (x_Y X)))), ((a 9), .inl (cI, 9, .inl (y_li (x_Y X)))), ((a 10), .inl (cJ, 9, .inr (.inl (y_sh (x_Y X)))))]) [6, 7, 8, 9, 10] rfl
    refine ro_i (va_runV (As := [.int (j_po (x_J X)), .long (y_fil (x_Y X) (j_po (x_J X)) (y_n (x_Y X))), .int v_g, .int (-1)]) (rest := []) ⟨hx, hb, hml, hown, hts⟩ ((c_X1_wayIn l G cI cZ cJ a _ (x_Y X) (j_po (x_J X)) (y_fil (x_Y X) (j_po (x_J X)) (y_n (x_Y X))) v_g (-1))) (cwV 4 hts gX2_wayNow_X1_wayIn rfl rfl rfl (by decide +kernel) ⟨Nat.le_of_ble_eq_true rfl, Nat.le_of_ble_eq_true rfl⟩) ⟨ro_blind, va_recv hK hPc (ci := 1) (q0 := 0) rfl rfl, ro_pre hPc hK hN⟩ rfl rfl hl.1 rfl (lv_room (Nat.le_of_ble_eq_true rfl)) dX2_wayNow_29 ⟨Nat.zero_le _, Nat.zero_le _⟩) hS hA hP (fun H locs hP hS => ?_)
    exact W.iret (v := (y_way (x_Y X) (j_po (x_J X)) (y_fil (x_Y X) (j_po (x_J X)) (y_n (x_Y X))) v_g (-1))) hx hb hr (fun t ht hW => ⟨⟨(y_way (x_Y X) (j_po (x_J X)) (y_fil (x_Y X) (j_po (x_J X)) (y_n (x_Y X))) v_g (-1)), (), rfl, by simp [j_way, c_1], trivial⟩, hS.F ht⟩) hS.2.2 dX2_wayNow_32
  · refine lv_iconst (v := 1) hx hb dX2_wayNow_24 (by decide) ?_
    refine lv_goto (tgt := 29) hx hb dX2_wayNow_25 (by decide) ?_
    have hPc := hP.sub (ws' := [((a 6), .inr (1, [.ref (a 7), .ref (a 8), .ref (a 9), .ref (a 10), .int (nI (y_n (x_Y X))), .long (y_rp (x_Y X))])), ((a 7), .inl (cI, 9, .inl (y_sz (x_Y X)))), ((a 8), .inl (cZ, 9, .inl (y_ac (x_Y X)))), ((a 9), .inl (cI, 9, .inl (y_li (x_Y X)))), ((a 10), .inl (cJ, 9, .inr (.inl (y_sh (x_Y X)))))]) [6, 7, 8, 9, 10] rfl
    refine ro_i (va_runV (As := [.int (j_po (x_J X)), .long (y_fil (x_Y X) (j_po (x_J X)) (y_n (x_Y X))), .int v_g, .int 1]) (rest := []) ⟨hx, hb, hml, hown, hts⟩ ((c_X1_wayIn l G cI cZ cJ a _ (x_Y X) (j_po (x_J X)) (y_fil (x_Y X) (j_po (x_J X)) (y_n (x_Y X))) v_g 1)) (cwV 4 hts gX2_wayNow_X1_wayIn rfl rfl rfl (by decide +kernel) ⟨Nat.le_of_ble_eq_true rfl, Nat.le_of_ble_eq_true rfl⟩) ⟨ro_blind, va_recv hK hPc (ci := 1) (q0 := 0) rfl rfl, ro_pre hPc hK hN⟩ rfl rfl hl.1 rfl (lv_room (Nat.le_of_ble_eq_true rfl)) dX2_wayNow_29 ⟨Nat.zero_le _, Nat.zero_le _⟩) hS hA hP (fun H locs hP hS => ?_)
    exact W.iret (v := (y_way (x_Y X) (j_po (x_J X)) (y_fil (x_Y X) (j_po (x_J X)) (y_n (x_Y X))) v_g 1)) hx hb hr (fun t ht hW => ⟨⟨(y_way (x_Y X) (j_po (x_J X)) (y_fil (x_Y X) (j_po (x_J X)) (y_n (x_Y X))) v_g 1), (), rfl, by simp [j_way, c_1], trivial⟩, hS.F ht⟩) hS.2.2 dX2_wayNow_32

theorem in_X2_restart_2 : ∀ w ∈ wsX20, w ∈ wsX2_restart := by decide +kernel
set_option maxHeartbeats 4000000 in
set_option maxRecDepth 100000 in
/-- RampJam.restart -/
theorem c_X2_restart (l : Launch) (G : va_G) (cI cZ cJ : ClassId) (a : Nat → Nat) (sz : Nat) (X : XS)  : Met l yX2_restart wsX2_restart ({ frames := 1, cells := 0, slots := 0, locals := 21 }) (rw_Pc G [(cI, .int), (cZ, .boolean), (cJ, .long)] (wJ cI cZ cJ a (x_J X) (x_S X) (x_Y X)) sz [.ref (a 0)]) (rw_Qv (S := XS) (x_rest X) (fun u : XS => wJ cI cZ cJ a (x_J u) (x_S u) (x_Y u)) G (wJ cI cZ cJ a (x_J X) (x_S X) (x_Y X)) sz) 0 0 (va_A (wJ cI cZ cJ a (x_J X) (x_S X) (x_Y X)) sz) := by
  refine Met.ofW (cc := cX2_restart) (maxL := 1) (ret := none) (by decide) rfl ?_
  intro p e s m args below meth c s₁ B hml hv
  obtain ⟨rfl, hsz, hP, hK, hD0, hN⟩ := hv
  have hx := B.exec
  have hb := B.bytes
  have hr := B.returns
  have hts := atoms_spec (ws := wsX2_restart) B.pre
  have hown : s.vm.findClass RX2 = some m.cls := findClass_of_methodNamed B.named
  have hlocks := B.notSynchronized
  subst hsz
  have hD0 : va_D (fun _ => True) [((a 0), .inr (2, [.ref (a 6), .ref (a 1), .int (j_pp (x_J X)), .int (j_po (x_J X)), .int (j_mc (x_J X)), .int (j_dc (x_J X)), .int (j_is (x_J X))])), ((a 1), .inr (0, [.ref (a 6), .ref (a 2), .ref (a 3), .ref (a 4), .ref (a 5), .int (s_fc (x_S X)), .int (s_fs (x_S X)), .int (s_sm (x_S X)), .int (s_sc (x_S X)), .int (s_sf (x_S X))])), ((a 2), .inl (cI, 800, .inl (s_fo (x_S X)))), ((a 3), .inl (cI, 800, .inl (s_or (x_S X)))), ((a 4), .inl (cI, 800, .inl (s_mo (x_S X)))), ((a 5), .inl (cI, 2048, .inl (s_sl (x_S X)))), ((a 6), .inr (1, [.ref (a 7), .ref (a 8), .ref (a 9), .ref (a 10), .int (nI (y_n (x_Y X))), .long (y_rp (x_Y X))])), ((a 7), .inl (cI, 9, .inl (y_sz (x_Y X)))), ((a 8), .inl (cZ, 9, .inl (y_ac (x_Y X)))), ((a 9), .inl (cI, 9, .inl (y_li (x_Y X)))), ((a 10), .inl (cJ, 9, .inr (.inl (y_sh (x_Y X)))))] := hD0
  have hD := hD0.self (sz := s.heap.size)
  unfold rw_Qv
  generalize hAe : va_A (wJ cI cZ cJ a (x_J X) (x_S X) (x_Y X)) s.heap.size = A at hD ⊢
  have hA : ∀ q : Nat, s.heap.size ≤ q → A q := fun q h => by rw [← hAe]; exact Or.inr h
  have hS : va_S A s.heap s.heap [] := va_S.rf
  have hP : va_P G vwCl [((a 0), .inr (2, [.ref (a 6), .ref (a 1), .int (j_pp (x_J X)), .int (j_po (x_J X)), .int (j_mc (x_J X)), .int (j_dc (x_J X)), .int (j_is (x_J X))])), ((a 1), .inr (0, [.ref (a 6), .ref (a 2), .ref (a 3), .ref (a 4), .ref (a 5), .int (s_fc (x_S X)), .int (s_fs (x_S X)), .int (s_sm (x_S X)), .int (s_sc (x_S X)), .int (s_sf (x_S X))])), ((a 2), .inl (cI, 800, .inl (s_fo (x_S X)))), ((a 3), .inl (cI, 800, .inl (s_or (x_S X)))), ((a 4), .inl (cI, 800, .inl (s_mo (x_S X)))), ((a 5), .inl (cI, 2048, .inl (s_sl (x_S X)))), ((a 6), .inr (1, [.ref (a 7), .ref (a 8), .ref (a 9), .ref (a 10), .int (nI (y_n (x_Y X))), .long (y_rp (x_Y X))])), ((a 7), .inl (cI, 9, .inl (y_sz (x_Y X)))), ((a 8), .inl (cZ, 9, .inl (y_ac (x_Y X)))), ((a 9), .inl (cI, 9, .inl (y_li (x_Y X)))), ((a 10), .inl (cJ, 9, .inr (.inl (y_sh (x_Y X)))))] s.heap := hP
  have hl := lv_entry ([.ref (a 0)]) (n := 1) (Nat.le_of_ble_eq_true rfl)
  rw [lg_entry_eq]
  generalize (lg_sl ([.ref (a 0)]) ++ List.replicate (1 - (lg_sl ([.ref (a 0)])).length) Slot.unset).toArray = ls at hl ⊢
  have hl : lv_has ls 1 [(0, .ref (a 0))] := hl
  refine lv_aload_n hx hb dX2_restart_0 rfl (lv_at hl 0 rfl) ?_
  refine lv_aload_n hx hb dX2_restart_1 rfl (lv_at hl 0 rfl) ?_
  refine va_get (D := G) (ci := 2) (v := .int (j_pp (x_J X))) (C := RX2) (T := TX2) (N := 7) hx hb hts in_X2_restart_2 hown hK hP 0 rfl rfl 2 (by decide) (hts (.fieldLink RX2 73 "RampJam" "parkedPosition" "I") (by decide +kernel)) (fun _ h9 => h9) rfl dX2_restart_2 ?_
  refine rw_v (wr := []) (ws' := [((a 0), .inr (2, [.ref (a 6), .ref (a 1), .int (j_pp (x_J (x_stand X (j_pp (x_J X))))), .int (j_po (x_J (x_stand X (j_pp (x_J X))))), .int (j_mc (x_J (x_stand X (j_pp (x_J X))))), .int (j_dc (x_J (x_stand X (j_pp (x_J X))))), .int (j_is (x_J (x_stand X (j_pp (x_J X)))))])), ((a 1), .inr (0, [.ref (a 6), .ref (a 2), .ref (a 3), .ref (a 4), .ref (a 5), .int (s_fc (x_S (x_stand X (j_pp (x_J X))))), .int (s_fs (x_S (x_stand X (j_pp (x_J X))))), .int (s_sm (x_S (x_stand X (j_pp (x_J X))))), .int (s_sc (x_S (x_stand X (j_pp (x_J X))))), .int (s_sf (x_S (x_stand X (j_pp (x_J X)))))])), ((a 2), .inl (cI, 800, .inl (s_fo (x_S (x_stand X (j_pp (x_J X))))))), ((a 3), .inl (cI, 800, .inl (s_or (x_S (x_stand X (j_pp (x_J X))))))), ((a 4), .inl (cI, 800, .inl (s_mo (x_S (x_stand X (j_pp (x_J X))))))), ((a 5), .inl (cI, 2048, .inl (s_sl (x_S (x_stand X (j_pp (x_J X))))))), ((a 6), .inr (1, [.ref (a 7), .ref (a 8), .ref (a 9), .ref (a 10), .int (nI (y_n (x_Y (x_stand X (j_pp (x_J X)))))), .long (y_rp (x_Y (x_stand X (j_pp (x_J X)))))])), ((a 7), .inl (cI, 9, .inl (y_sz (x_Y (x_stand X (j_pp (x_J X))))))), ((a 8), .inl (cZ, 9, .inl (y_ac (x_Y (x_stand X (j_pp (x_J X))))))), ((a 9), .inl (cI, 9, .inl (y_li (x_Y (x_stand X (j_pp (x_J X))))))), ((a 10), .inl (cJ, 9, .inr (.inl (y_sh (x_Y (x_stand X (j_pp (x_J X))))))))]) (va_runV (As := [.int (j_pp (x_J X))]) (rest := []) ⟨hx, hb, hml, hown, hts⟩ ((c_X2_standAt l G cI cZ cJ a _ X (j_pp (x_J X)))) (cwV 1 hts gX2_restart_X2_standAt rfl rfl rfl (by decide +kernel) ⟨Nat.le_of_ble_eq_true rfl, Nat.le_of_ble_eq_true rfl⟩) ⟨rw_blind, va_recv hK hP (ci := 2) (q0 := 0) rfl rfl, rw_pre hP hD hK hN⟩ rfl rfl hl.1 rfl (lv_room (Nat.le_of_ble_eq_true rfl)) dX2_restart_5 ⟨Nat.zero_le _, Nat.zero_le _⟩) hS hA hP hD [0, 1, 2, 3, 4, 5, 6, 7, 8, 9, 10] [] [0, 1, 2, 3, 4, 5, 6, 7, 8, 9, 10] rfl rfl (by decide) (by decide) rfl (by decide) (fun H locs hP hD hS => ?_)
  refine lv_aload_n hx hb dX2_restart_8 rfl (lv_at hl 0 rfl) ?_
  refine lv_iconst (v := 0) hx hb dX2_restart_9 (by decide) ?_
  refine va_put (D := G) (ci := 2) (v := .int 0) (ty := .int) (C := RX2) (T := TX2) (N := 7) hx hb hts in_X2_restart_2 tyX2 tyX2_ok nmX2 hown hK hP hD hS 0 rfl rfl 4 (by decide) (hts (.fieldLink RX2 44 "RampJam" "moveCount" "I") (by decide +kernel)) (fun _ h9 => h9) rfl (by decide +kernel) rfl rfl (Nat.le_of_ble_eq_true rfl) dX2_restart_10 (fun H locs hP hD hS => ?_)
  have hP : va_P G vwCl [((a 0), .inr (2, [.ref (a 6), .ref (a 1), .int (j_pp (x_J (x_stand X (j_pp (x_J X))))), .int (j_po (x_J (x_stand X (j_pp (x_J X))))), .int 0, .int (j_dc (x_J (x_stand X (j_pp (x_J X))))), .int (j_is (x_J (x_stand X (j_pp (x_J X)))))])), ((a 1), .inr (0, [.ref (a 6), .ref (a 2), .ref (a 3), .ref (a 4), .ref (a 5), .int (s_fc (x_S (x_stand X (j_pp (x_J X))))), .int (s_fs (x_S (x_stand X (j_pp (x_J X))))), .int (s_sm (x_S (x_stand X (j_pp (x_J X))))), .int (s_sc (x_S (x_stand X (j_pp (x_J X))))), .int (s_sf (x_S (x_stand X (j_pp (x_J X)))))])), ((a 2), .inl (cI, 800, .inl (s_fo (x_S (x_stand X (j_pp (x_J X))))))), ((a 3), .inl (cI, 800, .inl (s_or (x_S (x_stand X (j_pp (x_J X))))))), ((a 4), .inl (cI, 800, .inl (s_mo (x_S (x_stand X (j_pp (x_J X))))))), ((a 5), .inl (cI, 2048, .inl (s_sl (x_S (x_stand X (j_pp (x_J X))))))), ((a 6), .inr (1, [.ref (a 7), .ref (a 8), .ref (a 9), .ref (a 10), .int (nI (y_n (x_Y (x_stand X (j_pp (x_J X)))))), .long (y_rp (x_Y (x_stand X (j_pp (x_J X)))))])), ((a 7), .inl (cI, 9, .inl (y_sz (x_Y (x_stand X (j_pp (x_J X))))))), ((a 8), .inl (cZ, 9, .inl (y_ac (x_Y (x_stand X (j_pp (x_J X))))))), ((a 9), .inl (cI, 9, .inl (y_li (x_Y (x_stand X (j_pp (x_J X))))))), ((a 10), .inl (cJ, 9, .inr (.inl (y_sh (x_Y (x_stand X (j_pp (x_J X))))))))] H := hP
  have hD : va_D A [((a 0), .inr (2, [.ref (a 6), .ref (a 1), .int (j_pp (x_J (x_stand X (j_pp (x_J X))))), .int (j_po (x_J (x_stand X (j_pp (x_J X))))), .int 0, .int (j_dc (x_J (x_stand X (j_pp (x_J X))))), .int (j_is (x_J (x_stand X (j_pp (x_J X)))))])), ((a 1), .inr (0, [.ref (a 6), .ref (a 2), .ref (a 3), .ref (a 4), .ref (a 5), .int (s_fc (x_S (x_stand X (j_pp (x_J X))))), .int (s_fs (x_S (x_stand X (j_pp (x_J X))))), .int (s_sm (x_S (x_stand X (j_pp (x_J X))))), .int (s_sc (x_S (x_stand X (j_pp (x_J X))))), .int (s_sf (x_S (x_stand X (j_pp (x_J X)))))])), ((a 2), .inl (cI, 800, .inl (s_fo (x_S (x_stand X (j_pp (x_J X))))))), ((a 3), .inl (cI, 800, .inl (s_or (x_S (x_stand X (j_pp (x_J X))))))), ((a 4), .inl (cI, 800, .inl (s_mo (x_S (x_stand X (j_pp (x_J X))))))), ((a 5), .inl (cI, 2048, .inl (s_sl (x_S (x_stand X (j_pp (x_J X))))))), ((a 6), .inr (1, [.ref (a 7), .ref (a 8), .ref (a 9), .ref (a 10), .int (nI (y_n (x_Y (x_stand X (j_pp (x_J X)))))), .long (y_rp (x_Y (x_stand X (j_pp (x_J X)))))])), ((a 7), .inl (cI, 9, .inl (y_sz (x_Y (x_stand X (j_pp (x_J X))))))), ((a 8), .inl (cZ, 9, .inl (y_ac (x_Y (x_stand X (j_pp (x_J X))))))), ((a 9), .inl (cI, 9, .inl (y_li (x_Y (x_stand X (j_pp (x_J X))))))), ((a 10), .inl (cJ, 9, .inr (.inl (y_sh (x_Y (x_stand X (j_pp (x_J X))))))))] := hD
  refine lv_aload_n hx hb dX2_restart_13 rfl (lv_at hl 0 rfl) ?_
  refine lv_iconst (v := 0) hx hb dX2_restart_14 (by decide) ?_
  refine va_put (D := G) (ci := 2) (v := .int 0) (ty := .int) (C := RX2) (T := TX2) (N := 7) hx hb hts in_X2_restart_2 tyX2 tyX2_ok nmX2 hown hK hP hD hS 0 rfl rfl 5 (by decide) (hts (.fieldLink RX2 136 "RampJam" "drivenCells" "I") (by decide +kernel)) (fun _ h9 => h9) rfl (by decide +kernel) rfl rfl (Nat.le_of_ble_eq_true rfl) dX2_restart_15 (fun H locs hP hD hS => ?_)
  have hP : va_P G vwCl [((a 0), .inr (2, [.ref (a 6), .ref (a 1), .int (j_pp (x_J (x_stand X (j_pp (x_J X))))), .int (j_po (x_J (x_stand X (j_pp (x_J X))))), .int 0, .int 0, .int (j_is (x_J (x_stand X (j_pp (x_J X)))))])), ((a 1), .inr (0, [.ref (a 6), .ref (a 2), .ref (a 3), .ref (a 4), .ref (a 5), .int (s_fc (x_S (x_stand X (j_pp (x_J X))))), .int (s_fs (x_S (x_stand X (j_pp (x_J X))))), .int (s_sm (x_S (x_stand X (j_pp (x_J X))))), .int (s_sc (x_S (x_stand X (j_pp (x_J X))))), .int (s_sf (x_S (x_stand X (j_pp (x_J X)))))])), ((a 2), .inl (cI, 800, .inl (s_fo (x_S (x_stand X (j_pp (x_J X))))))), ((a 3), .inl (cI, 800, .inl (s_or (x_S (x_stand X (j_pp (x_J X))))))), ((a 4), .inl (cI, 800, .inl (s_mo (x_S (x_stand X (j_pp (x_J X))))))), ((a 5), .inl (cI, 2048, .inl (s_sl (x_S (x_stand X (j_pp (x_J X))))))), ((a 6), .inr (1, [.ref (a 7), .ref (a 8), .ref (a 9), .ref (a 10), .int (nI (y_n (x_Y (x_stand X (j_pp (x_J X)))))), .long (y_rp (x_Y (x_stand X (j_pp (x_J X)))))])), ((a 7), .inl (cI, 9, .inl (y_sz (x_Y (x_stand X (j_pp (x_J X))))))), ((a 8), .inl (cZ, 9, .inl (y_ac (x_Y (x_stand X (j_pp (x_J X))))))), ((a 9), .inl (cI, 9, .inl (y_li (x_Y (x_stand X (j_pp (x_J X))))))), ((a 10), .inl (cJ, 9, .inr (.inl (y_sh (x_Y (x_stand X (j_pp (x_J X))))))))] H := hP
  have hD : va_D A [((a 0), .inr (2, [.ref (a 6), .ref (a 1), .int (j_pp (x_J (x_stand X (j_pp (x_J X))))), .int (j_po (x_J (x_stand X (j_pp (x_J X))))), .int 0, .int 0, .int (j_is (x_J (x_stand X (j_pp (x_J X)))))])), ((a 1), .inr (0, [.ref (a 6), .ref (a 2), .ref (a 3), .ref (a 4), .ref (a 5), .int (s_fc (x_S (x_stand X (j_pp (x_J X))))), .int (s_fs (x_S (x_stand X (j_pp (x_J X))))), .int (s_sm (x_S (x_stand X (j_pp (x_J X))))), .int (s_sc (x_S (x_stand X (j_pp (x_J X))))), .int (s_sf (x_S (x_stand X (j_pp (x_J X)))))])), ((a 2), .inl (cI, 800, .inl (s_fo (x_S (x_stand X (j_pp (x_J X))))))), ((a 3), .inl (cI, 800, .inl (s_or (x_S (x_stand X (j_pp (x_J X))))))), ((a 4), .inl (cI, 800, .inl (s_mo (x_S (x_stand X (j_pp (x_J X))))))), ((a 5), .inl (cI, 2048, .inl (s_sl (x_S (x_stand X (j_pp (x_J X))))))), ((a 6), .inr (1, [.ref (a 7), .ref (a 8), .ref (a 9), .ref (a 10), .int (nI (y_n (x_Y (x_stand X (j_pp (x_J X)))))), .long (y_rp (x_Y (x_stand X (j_pp (x_J X)))))])), ((a 7), .inl (cI, 9, .inl (y_sz (x_Y (x_stand X (j_pp (x_J X))))))), ((a 8), .inl (cZ, 9, .inl (y_ac (x_Y (x_stand X (j_pp (x_J X))))))), ((a 9), .inl (cI, 9, .inl (y_li (x_Y (x_stand X (j_pp (x_J X))))))), ((a 10), .inl (cJ, 9, .inr (.inl (y_sh (x_Y (x_stand X (j_pp (x_J X))))))))] := hD
  have hP9 := hP
  have hD9 := hD
  exact W.vret hx hb hr (fun t ht hW => ⟨⟨(((j_pp (x_J (x_stand X (j_pp (x_J X))))), (j_po (x_J (x_stand X (j_pp (x_J X))))), 0, 0, (j_is (x_J (x_stand X (j_pp (x_J X)))))), (x_S (x_stand X (j_pp (x_J X)))), (x_Y (x_stand X (j_pp (x_J X))))), rfl, rfl, by rw [ht]; exact hP9, hD9⟩, hS.F ht⟩) hS.2.2 dX2_restart_18

theorem in_X2_vehicles_2 : ∀ w ∈ wsX20, w ∈ wsX2_vehicles := by decide +kernel
set_option maxHeartbeats 4000000 in
set_option maxRecDepth 100000 in
/-- RampJam.vehicles -/
theorem c_X2_vehicles (l : Launch) (G : va_G) (cI cZ cJ : ClassId) (a : Nat → Nat) (sz : Nat) (X : XS)  : Met l yX2_vehicles wsX2_vehicles ({ frames := 1, cells := 0, slots := 0, locals := 20 }) (ro_Pc G [(cI, .int), (cZ, .boolean), (cJ, .long)] (wJ cI cZ cJ a (x_J X) (x_S X) (x_Y X)) sz [.ref (a 0)]) (ro_Qi (nI (y_n (x_Y X))) sz) 0 0 (ro_A sz) := by
  refine Met.ofW (cc := cX2_vehicles) (maxL := 1) (ret := (some .int)) (by decide) rfl ?_
  intro p e s m args below meth c s₁ B hml hv
  obtain ⟨rfl, hsz, hP, hK, hN⟩ := hv
  have hx := B.exec
  have hb := B.bytes
  have hr := B.returns
  have hts := atoms_spec (ws := wsX2_vehicles) B.pre
  have hown : s.vm.findClass RX2 = some m.cls := findClass_of_methodNamed B.named
  have hlocks := B.notSynchronized
  subst hsz
  have hA : ∀ q : Nat, s.heap.size ≤ q → (ro_A s.heap.size) q := fun _ h => h
  have hS : va_S (ro_A s.heap.size) s.heap s.heap [] := va_S.rf
  have hP : va_P G vwCl [((a 0), .inr (2, [.ref (a 6), .ref (a 1), .int (j_pp (x_J X)), .int (j_po (x_J X)), .int (j_mc (x_J X)), .int (j_dc (x_J X)), .int (j_is (x_J X))])), ((a 1), .inr (0, [.ref (a 6), .ref (a 2), .ref (a 3), .ref (a 4), .ref (a 5), .int (s_fc (x_S X)), .int (s_fs (x_S X)), .int (s_sm (x_S X)), .int (s_sc (x_S X)), .int (s_sf (x_S X))])), ((a 2), .inl (cI, 800, .inl (s_fo (x_S X)))), ((a 3), .inl (cI, 800, .inl (s_or (x_S X)))), ((a 4), .inl (cI, 800, .inl (s_mo (x_S X)))), ((a 5), .inl (cI, 2048, .inl (s_sl (x_S X)))), ((a 6), .inr (1, [.ref (a 7), .ref (a 8), .ref (a 9), .ref (a 10), .int (nI (y_n (x_Y X))), .long (y_rp (x_Y X))])), ((a 7), .inl (cI, 9, .inl (y_sz (x_Y X)))), ((a 8), .inl (cZ, 9, .inl (y_ac (x_Y X)))), ((a 9), .inl (cI, 9, .inl (y_li (x_Y X)))), ((a 10), .inl (cJ, 9, .inr (.inl (y_sh (x_Y X)))))] s.heap := hP
  have hl := lv_entry ([.ref (a 0)]) (n := 1) (Nat.le_of_ble_eq_true rfl)
  rw [lg_entry_eq]
  generalize (lg_sl ([.ref (a 0)]) ++ List.replicate (1 - (lg_sl ([.ref (a 0)])).length) Slot.unset).toArray = ls at hl ⊢
  have hl : lv_has ls 1 [(0, .ref (a 0))] := hl
  refine lv_aload_n hx hb dX2_vehicles_0 rfl (lv_at hl 0 rfl) ?_
  refine va_get (D := G) (ci := 2) (v := .ref (a 6)) (C := RX2) (T := TX2) (N := 7) hx hb hts in_X2_vehicles_2 hown hK hP 0 rfl rfl 0 (by decide) (hts (.fieldLink RX2 10 "RampJam" "yard" "LRampJam$Yard;") (by decide +kernel)) (fun _ h9 => h9) rfl dX2_vehicles_1 ?_
  have hPc := hP.sub (ws' := [((a 6), .inr (1, [.ref (a 7), .ref (a 8), .ref (a 9), .ref (a 10), .int (nI (y_n (x_Y X))), .long (y_rp (x_Y X))])), ((a 7), .inl (cI, 9, .inl (y_sz (x_Y X)))), ((a 8), .inl (cZ, 9, .inl (y_ac (x_Y X)))), ((a 9), .inl (cI, 9, .inl (y_li (x_Y X)))), ((a 10), .inl (cJ, 9, .inr (.inl (y_sh (x_Y X)))))]) [6, 7, 8, 9, 10] rfl
  refine ro_i (va_runV (As := []) (rest := []) ⟨hx, hb, hml, hown, hts⟩ ((c_X1_count l G cI cZ cJ a _ (x_Y X))) (cwV 0 hts gX2_vehicles_X1_count rfl rfl rfl (by decide +kernel) ⟨Nat.le_of_ble_eq_true rfl, Nat.le_of_ble_eq_true rfl⟩) ⟨ro_blind, va_recv hK hPc (ci := 1) (q0 := 0) rfl rfl, ro_pre hPc hK hN⟩ rfl rfl hl.1 rfl (lv_room (Nat.le_of_ble_eq_true rfl)) dX2_vehicles_4 ⟨Nat.zero_le _, Nat.zero_le _⟩) hS hA hP (fun H locs hP hS => ?_)
  exact W.iret (v := (nI (y_n (x_Y X)))) hx hb hr (fun t ht hW => ⟨⟨(nI (y_n (x_Y X))), (), rfl, rfl, trivial⟩, hS.F ht⟩) hS.2.2 dX2_vehicles_7

theorem in_X2_moves_2 : ∀ w ∈ wsX20, w ∈ wsX2_moves := by decide +kernel
set_option maxHeartbeats 4000000 in
set_option maxRecDepth 100000 in
/-- RampJam.moves -/
theorem c_X2_moves (l : Launch) (G : va_G) (cI cZ cJ : ClassId) (a : Nat → Nat) (sz : Nat) (X : XS)  : Met l yX2_moves wsX2_moves ({ frames := 0, cells := 0, slots := 0, locals := 0 }) (ro_Pc G [(cI, .int), (cZ, .boolean), (cJ, .long)] (wJ cI cZ cJ a (x_J X) (x_S X) (x_Y X)) sz [.ref (a 0)]) (ro_Qi (j_mc (x_J X)) sz) 0 0 (ro_A sz) := by
  refine Met.ofW (cc := cX2_moves) (maxL := 1) (ret := (some .int)) (by decide) rfl ?_
  intro p e s m args below meth c s₁ B hml hv
  obtain ⟨rfl, hsz, hP, hK, hN⟩ := hv
  have hx := B.exec
  have hb := B.bytes
  have hr := B.returns
  have hts := atoms_spec (ws := wsX2_moves) B.pre
  have hown : s.vm.findClass RX2 = some m.cls := findClass_of_methodNamed B.named
  have hlocks := B.notSynchronized
  subst hsz
  have hA : ∀ q : Nat, s.heap.size ≤ q → (ro_A s.heap.size) q := fun _ h => h
  have hS : va_S (ro_A s.heap.size) s.heap s.heap [] := va_S.rf
  have hP : va_P G vwCl [((a 0), .inr (2, [.ref (a 6), .ref (a 1), .int (j_pp (x_J X)), .int (j_po (x_J X)), .int (j_mc (x_J X)), .int (j_dc (x_J X)), .int (j_is (x_J X))])), ((a 1), .inr (0, [.ref (a 6), .ref (a 2), .ref (a 3), .ref (a 4), .ref (a 5), .int (s_fc (x_S X)), .int (s_fs (x_S X)), .int (s_sm (x_S X)), .int (s_sc (x_S X)), .int (s_sf (x_S X))])), ((a 2), .inl (cI, 800, .inl (s_fo (x_S X)))), ((a 3), .inl (cI, 800, .inl (s_or (x_S X)))), ((a 4), .inl (cI, 800, .inl (s_mo (x_S X)))), ((a 5), .inl (cI, 2048, .inl (s_sl (x_S X)))), ((a 6), .inr (1, [.ref (a 7), .ref (a 8), .ref (a 9), .ref (a 10), .int (nI (y_n (x_Y X))), .long (y_rp (x_Y X))])), ((a 7), .inl (cI, 9, .inl (y_sz (x_Y X)))), ((a 8), .inl (cZ, 9, .inl (y_ac (x_Y X)))), ((a 9), .inl (cI, 9, .inl (y_li (x_Y X)))), ((a 10), .inl (cJ, 9, .inr (.inl (y_sh (x_Y X)))))] s.heap := hP
  have hl := lv_entry ([.ref (a 0)]) (n := 1) (Nat.le_of_ble_eq_true rfl)
  rw [lg_entry_eq]
  generalize (lg_sl ([.ref (a 0)]) ++ List.replicate (1 - (lg_sl ([.ref (a 0)])).length) Slot.unset).toArray = ls at hl ⊢
  have hl : lv_has ls 1 [(0, .ref (a 0))] := hl
  refine lv_aload_n hx hb dX2_moves_0 rfl (lv_at hl 0 rfl) ?_
  refine va_get (D := G) (ci := 2) (v := .int (j_mc (x_J X))) (C := RX2) (T := TX2) (N := 7) hx hb hts in_X2_moves_2 hown hK hP 0 rfl rfl 4 (by decide) (hts (.fieldLink RX2 44 "RampJam" "moveCount" "I") (by decide +kernel)) (fun _ h9 => h9) rfl dX2_moves_1 ?_
  exact W.iret (v := (j_mc (x_J X))) hx hb hr (fun t ht hW => ⟨⟨(j_mc (x_J X)), (), rfl, rfl, trivial⟩, hS.F ht⟩) hS.2.2 dX2_moves_4

theorem in_X2_driven_2 : ∀ w ∈ wsX20, w ∈ wsX2_driven := by decide +kernel
set_option maxHeartbeats 4000000 in
set_option maxRecDepth 100000 in
/-- RampJam.driven -/
theorem c_X2_driven (l : Launch) (G : va_G) (cI cZ cJ : ClassId) (a : Nat → Nat) (sz : Nat) (X : XS)  : Met l yX2_driven wsX2_driven ({ frames := 0, cells := 0, slots := 0, locals := 0 }) (ro_Pc G [(cI, .int), (cZ, .boolean), (cJ, .long)] (wJ cI cZ cJ a (x_J X) (x_S X) (x_Y X)) sz [.ref (a 0)]) (ro_Qi (j_dc (x_J X)) sz) 0 0 (ro_A sz) := by
  refine Met.ofW (cc := cX2_driven) (maxL := 1) (ret := (some .int)) (by decide) rfl ?_
  intro p e s m args below meth c s₁ B hml hv
  obtain ⟨rfl, hsz, hP, hK, hN⟩ := hv
  have hx := B.exec
  have hb := B.bytes
  have hr := B.returns
  have hts := atoms_spec (ws := wsX2_driven) B.pre
  have hown : s.vm.findClass RX2 = some m.cls := findClass_of_methodNamed B.named
  have hlocks := B.notSynchronized
  subst hsz
  have hA : ∀ q : Nat, s.heap.size ≤ q → (ro_A s.heap.size) q := fun _ h => h
  have hS : va_S (ro_A s.heap.size) s.heap s.heap [] := va_S.rf
  have hP : va_P G vwCl [((a 0), .inr (2, [.ref (a 6), .ref (a 1), .int (j_pp (x_J X)), .int (j_po (x_J X)), .int (j_mc (x_J X)), .int (j_dc (x_J X)), .int (j_is (x_J X))])), ((a 1), .inr (0, [.ref (a 6), .ref (a 2), .ref (a 3), .ref (a 4), .ref (a 5), .int (s_fc (x_S X)), .int (s_fs (x_S X)), .int (s_sm (x_S X)), .int (s_sc (x_S X)), .int (s_sf (x_S X))])), ((a 2), .inl (cI, 800, .inl (s_fo (x_S X)))), ((a 3), .inl (cI, 800, .inl (s_or (x_S X)))), ((a 4), .inl (cI, 800, .inl (s_mo (x_S X)))), ((a 5), .inl (cI, 2048, .inl (s_sl (x_S X)))), ((a 6), .inr (1, [.ref (a 7), .ref (a 8), .ref (a 9), .ref (a 10), .int (nI (y_n (x_Y X))), .long (y_rp (x_Y X))])), ((a 7), .inl (cI, 9, .inl (y_sz (x_Y X)))), ((a 8), .inl (cZ, 9, .inl (y_ac (x_Y X)))), ((a 9), .inl (cI, 9, .inl (y_li (x_Y X)))), ((a 10), .inl (cJ, 9, .inr (.inl (y_sh (x_Y X)))))] s.heap := hP
  have hl := lv_entry ([.ref (a 0)]) (n := 1) (Nat.le_of_ble_eq_true rfl)
  rw [lg_entry_eq]
  generalize (lg_sl ([.ref (a 0)]) ++ List.replicate (1 - (lg_sl ([.ref (a 0)])).length) Slot.unset).toArray = ls at hl ⊢
  have hl : lv_has ls 1 [(0, .ref (a 0))] := hl
  refine lv_aload_n hx hb dX2_driven_0 rfl (lv_at hl 0 rfl) ?_
  refine va_get (D := G) (ci := 2) (v := .int (j_dc (x_J X))) (C := RX2) (T := TX2) (N := 7) hx hb hts in_X2_driven_2 hown hK hP 0 rfl rfl 5 (by decide) (hts (.fieldLink RX2 136 "RampJam" "drivenCells" "I") (by decide +kernel)) (fun _ h9 => h9) rfl dX2_driven_1 ?_
  exact W.iret (v := (j_dc (x_J X))) hx hb hr (fun t ht hW => ⟨⟨(j_dc (x_J X)), (), rfl, rfl, trivial⟩, hS.F ht⟩) hS.2.2 dX2_driven_4

theorem in_X2_isSolved_2 : ∀ w ∈ wsX20, w ∈ wsX2_isSolved := by decide +kernel
set_option maxHeartbeats 4000000 in
set_option maxRecDepth 100000 in
/-- RampJam.isSolved -/
theorem c_X2_isSolved (l : Launch) (G : va_G) (cI cZ cJ : ClassId) (a : Nat → Nat) (sz : Nat) (X : XS)  : Met l yX2_isSolved wsX2_isSolved ({ frames := 1, cells := 0, slots := 0, locals := 21 }) (ro_Pc G [(cI, .int), (cZ, .boolean), (cJ, .long)] (wJ cI cZ cJ a (x_J X) (x_S X) (x_Y X)) sz [.ref (a 0)]) (ro_Qi (b1 (pl (j_po (x_J X)) 0 = 4)) sz) 0 0 (ro_A sz) := by
  refine Met.ofW (cc := cX2_isSolved) (maxL := 1) (ret := (some .boolean)) (by decide) rfl ?_
  intro p e s m args below meth c s₁ B hml hv
  obtain ⟨rfl, hsz, hP, hK, hN⟩ := hv
  have hx := B.exec
  have hb := B.bytes
  have hr := B.returns
  have hts := atoms_spec (ws := wsX2_isSolved) B.pre
  have hown : s.vm.findClass RX2 = some m.cls := findClass_of_methodNamed B.named
  have hlocks := B.notSynchronized
  subst hsz
  have hA : ∀ q : Nat, s.heap.size ≤ q → (ro_A s.heap.size) q := fun _ h => h
  have hS : va_S (ro_A s.heap.size) s.heap s.heap [] := va_S.rf
  have hP : va_P G vwCl [((a 0), .inr (2, [.ref (a 6), .ref (a 1), .int (j_pp (x_J X)), .int (j_po (x_J X)), .int (j_mc (x_J X)), .int (j_dc (x_J X)), .int (j_is (x_J X))])), ((a 1), .inr (0, [.ref (a 6), .ref (a 2), .ref (a 3), .ref (a 4), .ref (a 5), .int (s_fc (x_S X)), .int (s_fs (x_S X)), .int (s_sm (x_S X)), .int (s_sc (x_S X)), .int (s_sf (x_S X))])), ((a 2), .inl (cI, 800, .inl (s_fo (x_S X)))), ((a 3), .inl (cI, 800, .inl (s_or (x_S X)))), ((a 4), .inl (cI, 800, .inl (s_mo (x_S X)))), ((a 5), .inl (cI, 2048, .inl (s_sl (x_S X)))), ((a 6), .inr (1, [.ref (a 7), .ref (a 8), .ref (a 9), .ref (a 10), .int (nI (y_n (x_Y X))), .long (y_rp (x_Y X))])), ((a 7), .inl (cI, 9, .inl (y_sz (x_Y X)))), ((a 8), .inl (cZ, 9, .inl (y_ac (x_Y X)))), ((a 9), .inl (cI, 9, .inl (y_li (x_Y X)))), ((a 10), .inl (cJ, 9, .inr (.inl (y_sh (x_Y X)))))] s.heap := hP
  have hl := lv_entry ([.ref (a 0)]) (n := 1) (Nat.le_of_ble_eq_true rfl)
  rw [lg_entry_eq]
  generalize (lg_sl ([.ref (a 0)]) ++ List.replicate (1 - (lg_sl ([.ref (a 0)])).length) Slot.unset).toArray = ls at hl ⊢
  have hl : lv_has ls 1 [(0, .ref (a 0))] := hl
  refine lv_aload_n hx hb dX2_isSolved_0 rfl (lv_at hl 0 rfl) ?_
  refine va_get (D := G) (ci := 2) (v := .int (j_po (x_J X))) (C := RX2) (T := TX2) (N := 7) hx hb hts in_X2_isSolved_2 hown hK hP 0 rfl rfl 3 (by decide) (hts (.fieldLink RX2 57 "RampJam" "position" "I") (by decide +kernel)) (fun _ h9 => h9) rfl dX2_isSolved_1 ?_
  refine lv_iconst (v := 0) hx hb dX2_isSolved_4 (by decide) ?_
  refine ro_i (va_runS (As := [.int (j_po (x_J X)), .int 0]) (rest := []) ⟨hx, hb, hml, hown, hts⟩ ((c_X2_placeIn l G cI cZ cJ a _ (j_po (x_J X)) 0)) (va_cwS 2 hts gX2_isSolved_X2_placeIn rfl rfl rfl (by decide +kernel) ⟨Nat.le_of_ble_eq_true rfl, Nat.le_of_ble_eq_true rfl⟩) ⟨ro_blind, ro_pre va_P0 hK hN⟩ rfl rfl hl.1 rfl (lv_room (Nat.le_of_ble_eq_true rfl)) dX2_isSolved_5 ⟨Nat.zero_le _, Nat.zero_le _⟩) hS hA hP (fun H locs hP hS => ?_)
  refine lv_iconst (v := 4) hx hb dX2_isSolved_8 (by decide) ?_
  refine lv_icmp_ne (tgt := 16) hx hb dX2_isSolved_9 (by decide) (fun c_1 => ?_) (fun c_1 => ?_)
  · refine lv_iconst (v := 0) hx hb dX2_isSolved_16 (by decide) ?_
    exact W.zret (ty := .boolean) (v := 0) hx hb hr (rfl) (fun t ht hW => ⟨⟨0, (), rfl, by simp [c_1], trivial⟩, hS.F ht⟩) hS.2.2 dX2_isSolved_17
  · refine lv_iconst (v := 1) hx hb dX2_isSolved_12 (by decide) ?_
    refine lv_goto (tgt := 17) hx hb dX2_isSolved_13 (by decide) ?_
    exact W.zret (ty := .boolean) (v := 1) hx hb hr (rfl) (fun t ht hW => ⟨⟨1, (), rfl, by simp [c_1], trivial⟩, hS.F ht⟩) hS.2.2 dX2_isSolved_17

theorem in_X2_positions_2 : ∀ w ∈ wsX20, w ∈ wsX2_positions := by decide +kernel
set_option maxHeartbeats 4000000 in
set_option maxRecDepth 100000 in
/-- RampJam.positions -/
theorem c_X2_positions (l : Launch) (G : va_G) (cI cZ cJ : ClassId) (a : Nat → Nat) (sz : Nat) (X : XS) (hn : y_n (x_Y X) ≤ 9) : Met l yX2_positions wsX2_positions ({ frames := 6, cells := 0, slots := 0, locals := 144 }) (rw_Pc G [(cI, .int), (cZ, .boolean), (cJ, .long)] (wJ cI cZ cJ a (x_J X) (x_S X) (x_Y X)) sz [.ref (a 0)]) (rw_Qi (S := XS) (s_fc (x_S (x_srch X))) (x_srch X) (fun u : XS => wJ cI cZ cJ a (x_J u) (x_S u) (x_Y u)) G (wJ cI cZ cJ a (x_J X) (x_S X) (x_Y X)) sz) 0 0 (va_A (wJ cI cZ cJ a (x_J X) (x_S X) (x_Y X)) sz) := by
  refine Met.ofW (cc := cX2_positions) (maxL := 1) (ret := (some .int)) (by decide) rfl ?_
  intro p e s m args below meth c s₁ B hml hv
  obtain ⟨rfl, hsz, hP, hK, hD0, hN⟩ := hv
  have hx := B.exec
  have hb := B.bytes
  have hr := B.returns
  have hts := atoms_spec (ws := wsX2_positions) B.pre
  have hown : s.vm.findClass RX2 = some m.cls := findClass_of_methodNamed B.named
  have hlocks := B.notSynchronized
  subst hsz
  have hD0 : va_D (fun _ => True) [((a 0), .inr (2, [.ref (a 6), .ref (a 1), .int (j_pp (x_J X)), .int (j_po (x_J X)), .int (j_mc (x_J X)), .int (j_dc (x_J X)), .int (j_is (x_J X))])), ((a 1), .inr (0, [.ref (a 6), .ref (a 2), .ref (a 3), .ref (a 4), .ref (a 5), .int (s_fc (x_S X)), .int (s_fs (x_S X)), .int (s_sm (x_S X)), .int (s_sc (x_S X)), .int (s_sf (x_S X))])), ((a 2), .inl (cI, 800, .inl (s_fo (x_S X)))), ((a 3), .inl (cI, 800, .inl (s_or (x_S X)))), ((a 4), .inl (cI, 800, .inl (s_mo (x_S X)))), ((a 5), .inl (cI, 2048, .inl (s_sl (x_S X)))), ((a 6), .inr (1, [.ref (a 7), .ref (a 8), .ref (a 9), .ref (a 10), .int (nI (y_n (x_Y X))), .long (y_rp (x_Y X))])), ((a 7), .inl (cI, 9, .inl (y_sz (x_Y X)))), ((a 8), .inl (cZ, 9, .inl (y_ac (x_Y X)))), ((a 9), .inl (cI, 9, .inl (y_li (x_Y X)))), ((a 10), .inl (cJ, 9, .inr (.inl (y_sh (x_Y X)))))] := hD0
  have hD := hD0.self (sz := s.heap.size)
  unfold rw_Qi
  generalize hAe : va_A (wJ cI cZ cJ a (x_J X) (x_S X) (x_Y X)) s.heap.size = A at hD ⊢
  have hA : ∀ q : Nat, s.heap.size ≤ q → A q := fun q h => by rw [← hAe]; exact Or.inr h
  have hS : va_S A s.heap s.heap [] := va_S.rf
  have hP : va_P G vwCl [((a 0), .inr (2, [.ref (a 6), .ref (a 1), .int (j_pp (x_J X)), .int (j_po (x_J X)), .int (j_mc (x_J X)), .int (j_dc (x_J X)), .int (j_is (x_J X))])), ((a 1), .inr (0, [.ref (a 6), .ref (a 2), .ref (a 3), .ref (a 4), .ref (a 5), .int (s_fc (x_S X)), .int (s_fs (x_S X)), .int (s_sm (x_S X)), .int (s_sc (x_S X)), .int (s_sf (x_S X))])), ((a 2), .inl (cI, 800, .inl (s_fo (x_S X)))), ((a 3), .inl (cI, 800, .inl (s_or (x_S X)))), ((a 4), .inl (cI, 800, .inl (s_mo (x_S X)))), ((a 5), .inl (cI, 2048, .inl (s_sl (x_S X)))), ((a 6), .inr (1, [.ref (a 7), .ref (a 8), .ref (a 9), .ref (a 10), .int (nI (y_n (x_Y X))), .long (y_rp (x_Y X))])), ((a 7), .inl (cI, 9, .inl (y_sz (x_Y X)))), ((a 8), .inl (cZ, 9, .inl (y_ac (x_Y X)))), ((a 9), .inl (cI, 9, .inl (y_li (x_Y X)))), ((a 10), .inl (cJ, 9, .inr (.inl (y_sh (x_Y X)))))] s.heap := hP
  have hl := lv_entry ([.ref (a 0)]) (n := 1) (Nat.le_of_ble_eq_true rfl)
  rw [lg_entry_eq]
  generalize (lg_sl ([.ref (a 0)]) ++ List.replicate (1 - (lg_sl ([.ref (a 0)])).length) Slot.unset).toArray = ls at hl ⊢
  have hl : lv_has ls 1 [(0, .ref (a 0))] := hl
  refine lv_aload_n hx hb dX2_positions_0 rfl (lv_at hl 0 rfl) ?_
  refine rw_v (wr := []) (ws' := [((a 0), .inr (2, [.ref (a 6), .ref (a 1), .int (j_pp (x_J (x_srch X))), .int (j_po (x_J (x_srch X))), .int (j_mc (x_J (x_srch X))), .int (j_dc (x_J (x_srch X))), .int (j_is (x_J (x_srch X)))])), ((a 1), .inr (0, [.ref (a 6), .ref (a 2), .ref (a 3), .ref (a 4), .ref (a 5), .int (s_fc (x_S (x_srch X))), .int (s_fs (x_S (x_srch X))), .int (s_sm (x_S (x_srch X))), .int (s_sc (x_S (x_srch X))), .int (s_sf (x_S (x_srch X)))])), ((a 2), .inl (cI, 800, .inl (s_fo (x_S (x_srch X))))), ((a 3), .inl (cI, 800, .inl (s_or (x_S (x_srch X))))), ((a 4), .inl (cI, 800, .inl (s_mo (x_S (x_srch X))))), ((a 5), .inl (cI, 2048, .inl (s_sl (x_S (x_srch X))))), ((a 6), .inr (1, [.ref (a 7), .ref (a 8), .ref (a 9), .ref (a 10), .int (nI (y_n (x_Y (x_srch X)))), .long (y_rp (x_Y (x_srch X)))])), ((a 7), .inl (cI, 9, .inl (y_sz (x_Y (x_srch X))))), ((a 8), .inl (cZ, 9, .inl (y_ac (x_Y (x_srch X))))), ((a 9), .inl (cI, 9, .inl (y_li (x_Y (x_srch X))))), ((a 10), .inl (cJ, 9, .inr (.inl (y_sh (x_Y (x_srch X))))))]) (va_runV (As := []) (rest := []) ⟨hx, hb, hml, hown, hts⟩ ((c_X2_searchFromNow l G cI cZ cJ a _ X hn)) (cwV 0 hts gX2_positions_X2_searchFromNow rfl rfl rfl (by decide +kernel) ⟨Nat.le_of_ble_eq_true rfl, Nat.le_of_ble_eq_true rfl⟩) ⟨rw_blind, va_recv hK hP (ci := 2) (q0 := 0) rfl rfl, rw_pre hP hD hK hN⟩ rfl rfl hl.1 rfl (lv_room (Nat.le_of_ble_eq_true rfl)) dX2_positions_1 ⟨Nat.zero_le _, Nat.zero_le _⟩) hS hA hP hD [0, 1, 2, 3, 4, 5, 6, 7, 8, 9, 10] [] [0, 1, 2, 3, 4, 5, 6, 7, 8, 9, 10] rfl rfl (by decide) (by decide) rfl (by decide) (fun H locs hP hD hS => ?_)
  refine lv_aload_n hx hb dX2_positions_4 rfl (lv_at hl 0 rfl) ?_
  refine va_get (D := G) (ci := 2) (v := .ref (a 1)) (C := RX2) (T := TX2) (N := 7) hx hb hts in_X2_positions_2 hown hK hP 0 rfl rfl 1 (by decide) (hts (.fieldLink RX2 21 "RampJam" "search" "LRampJam$Search;") (by decide +kernel)) (fun _ h9 => h9) rfl dX2_positions_5 ?_
  have hPc := hP.sub (ws' := [((a 1), .inr (0, [.ref (a 6), .ref (a 2), .ref (a 3), .ref (a 4), .ref (a 5), .int (s_fc (x_S (x_srch X))), .int (s_fs (x_S (x_srch X))), .int (s_sm (x_S (x_srch X))), .int (s_sc (x_S (x_srch X))), .int (s_sf (x_S (x_srch X)))])), ((a 2), .inl (cI, 800, .inl (s_fo (x_S (x_srch X))))), ((a 3), .inl (cI, 800, .inl (s_or (x_S (x_srch X))))), ((a 4), .inl (cI, 800, .inl (s_mo (x_S (x_srch X))))), ((a 5), .inl (cI, 2048, .inl (s_sl (x_S (x_srch X))))), ((a 6), .inr (1, [.ref (a 7), .ref (a 8), .ref (a 9), .ref (a 10), .int (nI (y_n (x_Y (x_srch X)))), .long (y_rp (x_Y (x_srch X)))])), ((a 7), .inl (cI, 9, .inl (y_sz (x_Y (x_srch X))))), ((a 8), .inl (cZ, 9, .inl (y_ac (x_Y (x_srch X))))), ((a 9), .inl (cI, 9, .inl (y_li (x_Y (x_srch X))))), ((a 10), .inl (cJ, 9, .inr (.inl (y_sh (x_Y (x_srch X))))))]) [1, 2, 3, 4, 5, 6, 7, 8, 9, 10] rfl
  refine ro_i (va_runV (As := []) (rest := []) ⟨hx, hb, hml, hown, hts⟩ ((c_X0_count l G cI cZ cJ a _ (x_S (x_srch X)) (x_Y (x_srch X)))) (cwV 0 hts gX2_positions_X0_count rfl rfl rfl (by decide +kernel) ⟨Nat.le_of_ble_eq_true rfl, Nat.le_of_ble_eq_true rfl⟩) ⟨ro_blind, va_recv hK hPc (ci := 0) (q0 := 0) rfl rfl, ro_pre hPc hK hN⟩ rfl rfl hl.1 rfl (lv_room (Nat.le_of_ble_eq_true rfl)) dX2_positions_8 ⟨Nat.zero_le _, Nat.zero_le _⟩) hS hA hP (fun H locs hP hS => ?_)
  have hP9 := hP
  have hD9 := hD
  exact W.iret (v := (s_fc (x_S (x_srch X)))) hx hb hr (fun t ht hW => ⟨⟨(s_fc (x_S (x_srch X))), (x_srch X), rfl, ⟨rfl, rfl⟩, by rw [ht]; exact hP9, hD9⟩, hS.F ht⟩) hS.2.2 dX2_positions_11

theorem in_X2_fewestMoves_2 : ∀ w ∈ wsX20, w ∈ wsX2_fewestMoves := by decide +kernel
set_option maxHeartbeats 4000000 in
set_option maxRecDepth 100000 in
/-- RampJam.fewestMoves -/
theorem c_X2_fewestMoves (l : Launch) (G : va_G) (cI cZ cJ : ClassId) (a : Nat → Nat) (sz : Nat) (X : XS) (hn : y_n (x_Y X) ≤ 9) : Met l yX2_fewestMoves wsX2_fewestMoves ({ frames := 6, cells := 0, slots := 0, locals := 144 }) (rw_Pc G [(cI, .int), (cZ, .boolean), (cJ, .long)] (wJ cI cZ cJ a (x_J X) (x_S X) (x_Y X)) sz [.ref (a 0)]) (rw_Qi (S := XS) (s_sm (x_S (x_srch X))) (x_srch X) (fun u : XS => wJ cI cZ cJ a (x_J u) (x_S u) (x_Y u)) G (wJ cI cZ cJ a (x_J X) (x_S X) (x_Y X)) sz) 0 0 (va_A (wJ cI cZ cJ a (x_J X) (x_S X) (x_Y X)) sz) := by
  refine Met.ofW (cc := cX2_fewestMoves) (maxL := 1) (ret := (some .int)) (by decide) rfl ?_
  intro p e s m args below meth c s₁ B hml hv
  obtain ⟨rfl, hsz, hP, hK, hD0, hN⟩ := hv
  have hx := B.exec
  have hb := B.bytes
  have hr := B.returns
  have hts := atoms_spec (ws := wsX2_fewestMoves) B.pre
  have hown : s.vm.findClass RX2 = some m.cls := findClass_of_methodNamed B.named
  have hlocks := B.notSynchronized
  subst hsz
  have hD0 : va_D (fun _ => True) [((a 0), .inr (2, [.ref (a 6), .ref (a 1), .int (j_pp (x_J X)), .int (j_po (x_J X)), .int (j_mc (x_J X)), .int (j_dc (x_J X)), .int (j_is (x_J X))])), ((a 1), .inr (0, [.ref (a 6), .ref (a 2), .ref (a 3), .ref (a 4), .ref (a 5), .int (s_fc (x_S X)), .int (s_fs (x_S X)), .int (s_sm (x_S X)), .int (s_sc (x_S X)), .int (s_sf (x_S X))])), ((a 2), .inl (cI, 800, .inl (s_fo (x_S X)))), ((a 3), .inl (cI, 800, .inl (s_or (x_S X)))), ((a 4), .inl (cI, 800, .inl (s_mo (x_S X)))), ((a 5), .inl (cI, 2048, .inl (s_sl (x_S X)))), ((a 6), .inr (1, [.ref (a 7), .ref (a 8), .ref (a 9), .ref (a 10), .int (nI (y_n (x_Y X))), .long (y_rp (x_Y X))])), ((a 7), .inl (cI, 9, .inl (y_sz (x_Y X)))), ((a 8), .inl (cZ, 9, .inl (y_ac (x_Y X)))), ((a 9), .inl (cI, 9, .inl (y_li (x_Y X)))), ((a 10), .inl (cJ, 9, .inr (.inl (y_sh (x_Y X)))))] := hD0
  have hD := hD0.self (sz := s.heap.size)
  unfold rw_Qi
  generalize hAe : va_A (wJ cI cZ cJ a (x_J X) (x_S X) (x_Y X)) s.heap.size = A at hD ⊢
  have hA : ∀ q : Nat, s.heap.size ≤ q → A q := fun q h => by rw [← hAe]; exact Or.inr h
  have hS : va_S A s.heap s.heap [] := va_S.rf
  have hP : va_P G vwCl [((a 0), .inr (2, [.ref (a 6), .ref (a 1), .int (j_pp (x_J X)), .int (j_po (x_J X)), .int (j_mc (x_J X)), .int (j_dc (x_J X)), .int (j_is (x_J X))])), ((a 1), .inr (0, [.ref (a 6), .ref (a 2), .ref (a 3), .ref (a 4), .ref (a 5), .int (s_fc (x_S X)), .int (s_fs (x_S X)), .int (s_sm (x_S X)), .int (s_sc (x_S X)), .int (s_sf (x_S X))])), ((a 2), .inl (cI, 800, .inl (s_fo (x_S X)))), ((a 3), .inl (cI, 800, .inl (s_or (x_S X)))), ((a 4), .inl (cI, 800, .inl (s_mo (x_S X)))), ((a 5), .inl (cI, 2048, .inl (s_sl (x_S X)))), ((a 6), .inr (1, [.ref (a 7), .ref (a 8), .ref (a 9), .ref (a 10), .int (nI (y_n (x_Y X))), .long (y_rp (x_Y X))])), ((a 7), .inl (cI, 9, .inl (y_sz (x_Y X)))), ((a 8), .inl (cZ, 9, .inl (y_ac (x_Y X)))), ((a 9), .inl (cI, 9, .inl (y_li (x_Y X)))), ((a 10), .inl (cJ, 9, .inr (.inl (y_sh (x_Y X)))))] s.heap := hP
  have hl := lv_entry ([.ref (a 0)]) (n := 1) (Nat.le_of_ble_eq_true rfl)
  rw [lg_entry_eq]
  generalize (lg_sl ([.ref (a 0)]) ++ List.replicate (1 - (lg_sl ([.ref (a 0)])).length) Slot.unset).toArray = ls at hl ⊢
  have hl : lv_has ls 1 [(0, .ref (a 0))] := hl
  refine lv_aload_n hx hb dX2_fewestMoves_0 rfl (lv_at hl 0 rfl) ?_
  refine rw_v (wr := []) (ws' := [((a 0), .inr (2, [.ref (a 6), .ref (a 1), .int (j_pp (x_J (x_srch X))), .int (j_po (x_J (x_srch X))), .int (j_mc (x_J (x_srch X))), .int (j_dc (x_J (x_srch X))), .int (j_is (x_J (x_srch X)))])), ((a 1), .inr (0, [.ref (a 6), .ref (a 2), .ref (a 3), .ref (a 4), .ref (a 5), .int (s_fc (x_S (x_srch X))), .int (s_fs (x_S (x_srch X))), .int (s_sm (x_S (x_srch X))), .int (s_sc (x_S (x_srch X))), .int (s_sf (x_S (x_srch X)))])), ((a 2), .inl (cI, 800, .inl (s_fo (x_S (x_srch X))))), ((a 3), .inl (cI, 800, .inl (s_or (x_S (x_srch X))))), ((a 4), .inl (cI, 800, .inl (s_mo (x_S (x_srch X))))), ((a 5), .inl (cI, 2048, .inl (s_sl (x_S (x_srch X))))), ((a 6), .inr (1, [.ref (a 7), .ref (a 8), .ref (a 9), .ref (a 10), .int (nI (y_n (x_Y (x_srch X)))), .long (y_rp (x_Y (x_srch X)))])), ((a 7), .inl (cI, 9, .inl (y_sz (x_Y (x_srch X))))), ((a 8), .inl (cZ, 9, .inl (y_ac (x_Y (x_srch X))))), ((a 9), .inl (cI, 9, .inl (y_li (x_Y (x_srch X))))), ((a 10), .inl (cJ, 9, .inr (.inl (y_sh (x_Y (x_srch X))))))]) (va_runV (As := []) (rest := []) ⟨hx, hb, hml, hown, hts⟩ ((c_X2_searchFromNow l G cI cZ cJ a _ X hn)) (cwV 0 hts gX2_fewestMoves_X2_searchFromNow rfl rfl rfl (by decide +kernel) ⟨Nat.le_of_ble_eq_true rfl, Nat.le_of_ble_eq_true rfl⟩) ⟨rw_blind, va_recv hK hP (ci := 2) (q0 := 0) rfl rfl, rw_pre hP hD hK hN⟩ rfl rfl hl.1 rfl (lv_room (Nat.le_of_ble_eq_true rfl)) dX2_fewestMoves_1 ⟨Nat.zero_le _, Nat.zero_le _⟩) hS hA hP hD [0, 1, 2, 3, 4, 5, 6, 7, 8, 9, 10] [] [0, 1, 2, 3, 4, 5, 6, 7, 8, 9, 10] rfl rfl (by decide) (by decide) rfl (by decide) (fun H locs hP hD hS => ?_)
  refine lv_aload_n hx hb dX2_fewestMoves_4 rfl (lv_at hl 0 rfl) ?_
  refine va_get (D := G) (ci := 2) (v := .ref (a 1)) (C := RX2) (T := TX2) (N := 7) hx hb hts in_X2_fewestMoves_2 hown hK hP 0 rfl rfl 1 (by decide) (hts (.fieldLink RX2 21 "RampJam" "search" "LRampJam$Search;") (by decide +kernel)) (fun _ h9 => h9) rfl dX2_fewestMoves_5 ?_
  have hPc := hP.sub (ws' := [((a 1), .inr (0, [.ref (a 6), .ref (a 2), .ref (a 3), .ref (a 4), .ref (a 5), .int (s_fc (x_S (x_srch X))), .int (s_fs (x_S (x_srch X))), .int (s_sm (x_S (x_srch X))), .int (s_sc (x_S (x_srch X))), .int (s_sf (x_S (x_srch X)))])), ((a 2), .inl (cI, 800, .inl (s_fo (x_S (x_srch X))))), ((a 3), .inl (cI, 800, .inl (s_or (x_S (x_srch X))))), ((a 4), .inl (cI, 800, .inl (s_mo (x_S (x_srch X))))), ((a 5), .inl (cI, 2048, .inl (s_sl (x_S (x_srch X))))), ((a 6), .inr (1, [.ref (a 7), .ref (a 8), .ref (a 9), .ref (a 10), .int (nI (y_n (x_Y (x_srch X)))), .long (y_rp (x_Y (x_srch X)))])), ((a 7), .inl (cI, 9, .inl (y_sz (x_Y (x_srch X))))), ((a 8), .inl (cZ, 9, .inl (y_ac (x_Y (x_srch X))))), ((a 9), .inl (cI, 9, .inl (y_li (x_Y (x_srch X))))), ((a 10), .inl (cJ, 9, .inr (.inl (y_sh (x_Y (x_srch X))))))]) [1, 2, 3, 4, 5, 6, 7, 8, 9, 10] rfl
  refine ro_i (va_runV (As := []) (rest := []) ⟨hx, hb, hml, hown, hts⟩ ((c_X0_movesToSolved l G cI cZ cJ a _ (x_S (x_srch X)) (x_Y (x_srch X)))) (cwV 0 hts gX2_fewestMoves_X0_movesToSolved rfl rfl rfl (by decide +kernel) ⟨Nat.le_of_ble_eq_true rfl, Nat.le_of_ble_eq_true rfl⟩) ⟨ro_blind, va_recv hK hPc (ci := 0) (q0 := 0) rfl rfl, ro_pre hPc hK hN⟩ rfl rfl hl.1 rfl (lv_room (Nat.le_of_ble_eq_true rfl)) dX2_fewestMoves_8 ⟨Nat.zero_le _, Nat.zero_le _⟩) hS hA hP (fun H locs hP hS => ?_)
  have hP9 := hP
  have hD9 := hD
  exact W.iret (v := (s_sm (x_S (x_srch X)))) hx hb hr (fun t ht hW => ⟨⟨(s_sm (x_S (x_srch X))), (x_srch X), rfl, ⟨rfl, rfl⟩, by rw [ht]; exact hP9, hD9⟩, hS.F ht⟩) hS.2.2 dX2_fewestMoves_11

theorem in_X2_hint_2 : ∀ w ∈ wsX20, w ∈ wsX2_hint := by decide +kernel
set_option maxHeartbeats 4000000 in
set_option maxRecDepth 100000 in
/-- RampJam.hint -/
theorem c_X2_hint (l : Launch) (G : va_G) (cI cZ cJ : ClassId) (a : Nat → Nat) (sz : Nat) (X : XS) (hn : y_n (x_Y X) ≤ 9) : Met l yX2_hint wsX2_hint ({ frames := 6, cells := 0, slots := 0, locals := 144 }) (rw_Pc G [(cI, .int), (cZ, .boolean), (cJ, .long)] (wJ cI cZ cJ a (x_J X) (x_S X) (x_Y X)) sz [.ref (a 0)]) (rw_Qi (S := XS) (s_sf (x_S (x_srch X))) (x_srch X) (fun u : XS => wJ cI cZ cJ a (x_J u) (x_S u) (x_Y u)) G (wJ cI cZ cJ a (x_J X) (x_S X) (x_Y X)) sz) 0 0 (va_A (wJ cI cZ cJ a (x_J X) (x_S X) (x_Y X)) sz) := by
  refine Met.ofW (cc := cX2_hint) (maxL := 1) (ret := (some .int)) (by decide) rfl ?_
  intro p e s m args below meth c s₁ B hml hv
  obtain ⟨rfl, hsz, hP, hK, hD0, hN⟩ := hv
  have hx := B.exec
  have hb := B.bytes
  have hr := B.returns
  have hts := atoms_spec (ws := wsX2_hint) B.pre
  have hown : s.vm.findClass RX2 = some m.cls := findClass_of_methodNamed B.named
  have hlocks := B.notSynchronized
  subst hsz
  have hD0 : va_D (fun _ => True) [((a 0), .inr (2, [.ref (a 6), .ref (a 1), .int (j_pp (x_J X)), .int (j_po (x_J X)), .int (j_mc (x_J X)), .int (j_dc (x_J X)), .int (j_is (x_J X))])), ((a 1), .inr (0, [.ref (a 6), .ref (a 2), .ref (a 3), .ref (a 4), .ref (a 5), .int (s_fc (x_S X)), .int (s_fs (x_S X)), .int (s_sm (x_S X)), .int (s_sc (x_S X)), .int (s_sf (x_S X))])), ((a 2), .inl (cI, 800, .inl (s_fo (x_S X)))), ((a 3), .inl (cI, 800, .inl (s_or (x_S X)))), ((a 4), .inl (cI, 800, .inl (s_mo (x_S X)))), ((a 5), .inl (cI, 2048, .inl (s_sl (x_S X)))), ((a 6), .inr (1, [.ref (a 7), .ref (a 8), .ref (a 9), .ref (a 10), .int (nI (y_n (x_Y X))), .long (y_rp (x_Y X))])), ((a 7), .inl (cI, 9, .inl (y_sz (x_Y X)))), ((a 8), .inl (cZ, 9, .inl (y_ac (x_Y X)))), ((a 9), .inl (cI, 9, .inl (y_li (x_Y X)))), ((a 10), .inl (cJ, 9, .inr (.inl (y_sh (x_Y X)))))] := hD0
  have hD := hD0.self (sz := s.heap.size)
  unfold rw_Qi
  generalize hAe : va_A (wJ cI cZ cJ a (x_J X) (x_S X) (x_Y X)) s.heap.size = A at hD ⊢
  have hA : ∀ q : Nat, s.heap.size ≤ q → A q := fun q h => by rw [← hAe]; exact Or.inr h
  have hS : va_S A s.heap s.heap [] := va_S.rf
  have hP : va_P G vwCl [((a 0), .inr (2, [.ref (a 6), .ref (a 1), .int (j_pp (x_J X)), .int (j_po (x_J X)), .int (j_mc (x_J X)), .int (j_dc (x_J X)), .int (j_is (x_J X))])), ((a 1), .inr (0, [.ref (a 6), .ref (a 2), .ref (a 3), .ref (a 4), .ref (a 5), .int (s_fc (x_S X)), .int (s_fs (x_S X)), .int (s_sm (x_S X)), .int (s_sc (x_S X)), .int (s_sf (x_S X))])), ((a 2), .inl (cI, 800, .inl (s_fo (x_S X)))), ((a 3), .inl (cI, 800, .inl (s_or (x_S X)))), ((a 4), .inl (cI, 800, .inl (s_mo (x_S X)))), ((a 5), .inl (cI, 2048, .inl (s_sl (x_S X)))), ((a 6), .inr (1, [.ref (a 7), .ref (a 8), .ref (a 9), .ref (a 10), .int (nI (y_n (x_Y X))), .long (y_rp (x_Y X))])), ((a 7), .inl (cI, 9, .inl (y_sz (x_Y X)))), ((a 8), .inl (cZ, 9, .inl (y_ac (x_Y X)))), ((a 9), .inl (cI, 9, .inl (y_li (x_Y X)))), ((a 10), .inl (cJ, 9, .inr (.inl (y_sh (x_Y X)))))] s.heap := hP
  have hl := lv_entry ([.ref (a 0)]) (n := 1) (Nat.le_of_ble_eq_true rfl)
  rw [lg_entry_eq]
  generalize (lg_sl ([.ref (a 0)]) ++ List.replicate (1 - (lg_sl ([.ref (a 0)])).length) Slot.unset).toArray = ls at hl ⊢
  have hl : lv_has ls 1 [(0, .ref (a 0))] := hl
  refine lv_aload_n hx hb dX2_hint_0 rfl (lv_at hl 0 rfl) ?_
  refine rw_v (wr := []) (ws' := [((a 0), .inr (2, [.ref (a 6), .ref (a 1), .int (j_pp (x_J (x_srch X))), .int (j_po (x_J (x_srch X))), .int (j_mc (x_J (x_srch X))), .int (j_dc (x_J (x_srch X))), .int (j_is (x_J (x_srch X)))])), ((a 1), .inr (0, [.ref (a 6), .ref (a 2), .ref (a 3), .ref (a 4), .ref (a 5), .int (s_fc (x_S (x_srch X))), .int (s_fs (x_S (x_srch X))), .int (s_sm (x_S (x_srch X))), .int (s_sc (x_S (x_srch X))), .int (s_sf (x_S (x_srch X)))])), ((a 2), .inl (cI, 800, .inl (s_fo (x_S (x_srch X))))), ((a 3), .inl (cI, 800, .inl (s_or (x_S (x_srch X))))), ((a 4), .inl (cI, 800, .inl (s_mo (x_S (x_srch X))))), ((a 5), .inl (cI, 2048, .inl (s_sl (x_S (x_srch X))))), ((a 6), .inr (1, [.ref (a 7), .ref (a 8), .ref (a 9), .ref (a 10), .int (nI (y_n (x_Y (x_srch X)))), .long (y_rp (x_Y (x_srch X)))])), ((a 7), .inl (cI, 9, .inl (y_sz (x_Y (x_srch X))))), ((a 8), .inl (cZ, 9, .inl (y_ac (x_Y (x_srch X))))), ((a 9), .inl (cI, 9, .inl (y_li (x_Y (x_srch X))))), ((a 10), .inl (cJ, 9, .inr (.inl (y_sh (x_Y (x_srch X))))))]) (va_runV (As := []) (rest := []) ⟨hx, hb, hml, hown, hts⟩ ((c_X2_searchFromNow l G cI cZ cJ a _ X hn)) (cwV 0 hts gX2_hint_X2_searchFromNow rfl rfl rfl (by decide +kernel) ⟨Nat.le_of_ble_eq_true rfl, Nat.le_of_ble_eq_true rfl⟩) ⟨rw_blind, va_recv hK hP (ci := 2) (q0 := 0) rfl rfl, rw_pre hP hD hK hN⟩ rfl rfl hl.1 rfl (lv_room (Nat.le_of_ble_eq_true rfl)) dX2_hint_1 ⟨Nat.zero_le _, Nat.zero_le _⟩) hS hA hP hD [0, 1, 2, 3, 4, 5, 6, 7, 8, 9, 10] [] [0, 1, 2, 3, 4, 5, 6, 7, 8, 9, 10] rfl rfl (by decide) (by decide) rfl (by decide) (fun H locs hP hD hS => ?_)
  refine lv_aload_n hx hb dX2_hint_4 rfl (lv_at hl 0 rfl) ?_
  refine va_get (D := G) (ci := 2) (v := .ref (a 1)) (C := RX2) (T := TX2) (N := 7) hx hb hts in_X2_hint_2 hown hK hP 0 rfl rfl 1 (by decide) (hts (.fieldLink RX2 21 "RampJam" "search" "LRampJam$Search;") (by decide +kernel)) (fun _ h9 => h9) rfl dX2_hint_5 ?_
  have hPc := hP.sub (ws' := [((a 1), .inr (0, [.ref (a 6), .ref (a 2), .ref (a 3), .ref (a 4), .ref (a 5), .int (s_fc (x_S (x_srch X))), .int (s_fs (x_S (x_srch X))), .int (s_sm (x_S (x_srch X))), .int (s_sc (x_S (x_srch X))), .int (s_sf (x_S (x_srch X)))])), ((a 2), .inl (cI, 800, .inl (s_fo (x_S (x_srch X))))), ((a 3), .inl (cI, 800, .inl (s_or (x_S (x_srch X))))), ((a 4), .inl (cI, 800, .inl (s_mo (x_S (x_srch X))))), ((a 5), .inl (cI, 2048, .inl (s_sl (x_S (x_srch X))))), ((a 6), .inr (1, [.ref (a 7), .ref (a 8), .ref (a 9), .ref (a 10), .int (nI (y_n (x_Y (x_srch X)))), .long (y_rp (x_Y (x_srch X)))])), ((a 7), .inl (cI, 9, .inl (y_sz (x_Y (x_srch X))))), ((a 8), .inl (cZ, 9, .inl (y_ac (x_Y (x_srch X))))), ((a 9), .inl (cI, 9, .inl (y_li (x_Y (x_srch X))))), ((a 10), .inl (cJ, 9, .inr (.inl (y_sh (x_Y (x_srch X))))))]) [1, 2, 3, 4, 5, 6, 7, 8, 9, 10] rfl
  refine ro_i (va_runV (As := []) (rest := []) ⟨hx, hb, hml, hown, hts⟩ ((c_X0_firstMoveToSolved l G cI cZ cJ a _ (x_S (x_srch X)) (x_Y (x_srch X)))) (cwV 0 hts gX2_hint_X0_firstMoveToSolved rfl rfl rfl (by decide +kernel) ⟨Nat.le_of_ble_eq_true rfl, Nat.le_of_ble_eq_true rfl⟩) ⟨ro_blind, va_recv hK hPc (ci := 0) (q0 := 0) rfl rfl, ro_pre hPc hK hN⟩ rfl rfl hl.1 rfl (lv_room (Nat.le_of_ble_eq_true rfl)) dX2_hint_8 ⟨Nat.zero_le _, Nat.zero_le _⟩) hS hA hP (fun H locs hP hS => ?_)
  have hP9 := hP
  have hD9 := hD
  exact W.iret (v := (s_sf (x_S (x_srch X)))) hx hb hr (fun t ht hW => ⟨⟨(s_sf (x_S (x_srch X))), (x_srch X), rfl, ⟨rfl, rfl⟩, by rw [ht]; exact hP9, hD9⟩, hS.F ht⟩) hS.2.2 dX2_hint_11

theorem in_X2_inTheWay_2 : ∀ w ∈ wsX20, w ∈ wsX2_inTheWay := by decide +kernel
set_option maxHeartbeats 4000000 in
set_option maxRecDepth 100000 in
/-- RampJam.inTheWay -/
theorem c_X2_inTheWay (l : Launch) (G : va_G) (cI cZ cJ : ClassId) (a : Nat → Nat) (sz : Nat) (X : XS) (hn : y_n (x_Y X) ≤ 9) : Met l yX2_inTheWay wsX2_inTheWay ({ frames := 2, cells := 0, slots := 0, locals := 44 }) (ro_Pc G [(cI, .int), (cZ, .boolean), (cJ, .long)] (wJ cI cZ cJ a (x_J X) (x_S X) (x_Y X)) sz [.ref (a 0)]) (ro_Qi (j_itw X) sz) 0 0 (ro_A sz) := by
  refine Met.ofW (cc := cX2_inTheWay) (maxL := 5) (ret := (some .int)) (by decide) rfl ?_
  intro p e s m args below meth c s₁ B hml hv
  obtain ⟨rfl, hsz, hP, hK, hN⟩ := hv
  have hx := B.exec
  have hb := B.bytes
  have hr := B.returns
  have hts := atoms_spec (ws := wsX2_inTheWay) B.pre
  have hown : s.vm.findClass RX2 = some m.cls := findClass_of_methodNamed B.named
  have hlocks := B.notSynchronized
  subst hsz
  have hA : ∀ q : Nat, s.heap.size ≤ q → (ro_A s.heap.size) q := fun _ h => h
  have hS : va_S (ro_A s.heap.size) s.heap s.heap [] := va_S.rf
  have hP : va_P G vwCl [((a 0), .inr (2, [.ref (a 6), .ref (a 1), .int (j_pp (x_J X)), .int (j_po (x_J X)), .int (j_mc (x_J X)), .int (j_dc (x_J X)), .int (j_is (x_J X))])), ((a 1), .inr (0, [.ref (a 6), .ref (a 2), .ref (a 3), .ref (a 4), .ref (a 5), .int (s_fc (x_S X)), .int (s_fs (x_S X)), .int (s_sm (x_S X)), .int (s_sc (x_S X)), .int (s_sf (x_S X))])), ((a 2), .inl (cI, 800, .inl (s_fo (x_S X)))), ((a 3), .inl (cI, 800, .inl (s_or (x_S X)))), ((a 4), .inl (cI, 800, .inl (s_mo (x_S X)))), ((a 5), .inl (cI, 2048, .inl (s_sl (x_S X)))), ((a 6), .inr (1, [.ref (a 7), .ref (a 8), .ref (a 9), .ref (a 10), .int (nI (y_n (x_Y X))), .long (y_rp (x_Y X))])), ((a 7), .inl (cI, 9, .inl (y_sz (x_Y X)))), ((a 8), .inl (cZ, 9, .inl (y_ac (x_Y X)))), ((a 9), .inl (cI, 9, .inl (y_li (x_Y X)))), ((a 10), .inl (cJ, 9, .inr (.inl (y_sh (x_Y X)))))] s.heap := hP
  have hl := lv_entry ([.ref (a 0)]) (n := 5) (Nat.le_of_ble_eq_true rfl)
  rw [lg_entry_eq]
  generalize (lg_sl ([.ref (a 0)]) ++ List.replicate (5 - (lg_sl ([.ref (a 0)])).length) Slot.unset).toArray = ls at hl ⊢
  have hl : lv_has ls 5 [(0, .ref (a 0))] := hl
  obtain ⟨hp8, hpe⟩ := pl_nI (j_po (x_J X)) 0
  refine lv_lconst (v := 0) hx hb dX2_inTheWay_0 (by decide) ?_
  refine lv_lstore_n (lv' := [(1, .long 0), (0, .ref (a 0))]) hx hb dX2_inTheWay_1 rfl hl (by decide) rfl (fun ls hl => ?_)
  refine lv_aload_n hx hb dX2_inTheWay_2 rfl (lv_at hl 1 rfl) ?_
  refine va_get (D := G) (ci := 2) (v := .int (j_po (x_J X))) (C := RX2) (T := TX2) (N := 7) hx hb hts in_X2_inTheWay_2 hown hK hP 0 rfl rfl 3 (by decide) (hts (.fieldLink RX2 57 "RampJam" "position" "I") (by decide +kernel)) (fun _ h9 => h9) rfl dX2_inTheWay_3 ?_
  refine lv_iconst (v := 0) hx hb dX2_inTheWay_6 (by decide) ?_
  refine ro_i (va_runS (As := [.int (j_po (x_J X)), .int 0]) (rest := []) ⟨hx, hb, hml, hown, hts⟩ ((c_X2_placeIn l G cI cZ cJ a _ (j_po (x_J X)) 0)) (va_cwS 2 hts gX2_inTheWay_X2_placeIn rfl rfl rfl (by decide +kernel) ⟨Nat.le_of_ble_eq_true rfl, Nat.le_of_ble_eq_true rfl⟩) ⟨ro_blind, ro_pre va_P0 hK hN⟩ rfl rfl hl.1 rfl (lv_room (Nat.le_of_ble_eq_true rfl)) dX2_inTheWay_7 ⟨Nat.zero_le _, Nat.zero_le _⟩) hS hA hP (fun H locs hP hS => ?_)
  refine lv_iconst (v := 2) hx hb dX2_inTheWay_10 (by decide) ?_
  refine lv_iadd hx hb dX2_inTheWay_11 ?_
  rw [show (((pl (j_po (x_J X)) 0) + 2) : Int32) = (nI (pl_nat (j_po (x_J X)) 0 + 2)) from by rw [hpe]; exact nI_add _ 2]
  refine lv_istore_n (lv' := [(3, .int (nI (pl_nat (j_po (x_J X)) 0 + 2))), (1, .long 0), (0, .ref (a 0))]) hx hb dX2_inTheWay_12 rfl hl (by decide) rfl (fun ls hl => ?_)
  have cut_13 : ∀ (d : Nat) (k_g : Nat), k_g ≤ (6 - (pl_nat (j_po (x_J X)) 0 + 2)) → (6 - (pl_nat (j_po (x_J X)) 0 + 2)) + 1 ≤ k_g + d → ∀ (H : Heap) (locs : List Loc), va_P G vwCl [((a 0), .inr (2, [.ref (a 6), .ref (a 1), .int (j_pp (x_J X)), .int (j_po (x_J X)), .int (j_mc (x_J X)), .int (j_dc (x_J X)), .int (j_is (x_J X))])), ((a 1), .inr (0, [.ref (a 6), .ref (a 2), .ref (a 3), .ref (a 4), .ref (a 5), .int (s_fc (x_S X)), .int (s_fs (x_S X)), .int (s_sm (x_S X)), .int (s_sc (x_S X)), .int (s_sf (x_S X))])), ((a 2), .inl (cI, 800, .inl (s_fo (x_S X)))), ((a 3), .inl (cI, 800, .inl (s_or (x_S X)))), ((a 4), .inl (cI, 800, .inl (s_mo (x_S X)))), ((a 5), .inl (cI, 2048, .inl (s_sl (x_S X)))), ((a 6), .inr (1, [.ref (a 7), .ref (a 8), .ref (a 9), .ref (a 10), .int (nI (y_n (x_Y X))), .long (y_rp (x_Y X))])), ((a 7), .inl (cI, 9, .inl (y_sz (x_Y X)))), ((a 8), .inl (cZ, 9, .inl (y_ac (x_Y X)))), ((a 9), .inl (cI, 9, .inl (y_li (x_Y X)))), ((a 10), .inl (cJ, 9, .inr (.inl (y_sh (x_Y X)))))] H → va_S (ro_A s.heap.size) s.heap H locs → ∀ (ls : Array Slot), lv_has ls 5 [(0, .ref (a 0)), (1, .long (j_wo (pl_nat (j_po (x_J X)) 0 + 2) k_g)), (3, .int (nI ((pl_nat (j_po (x_J X)) 0 + 2) + k_g)))] → W p l e (headSpec wsX2_inTheWay ({ frames := 2, cells := 0, slots := 0, locals := 44 })).room s m ([.ref (a 0)] : List Value).toArray below meth c H locs 0 0 (MQ below (ro_Qi (j_itw X) s.heap.size) ([.ref (a 0)] : List Value).toArray s 0 0 (ro_A s.heap.size)) (F0 m 13 ls []) := by
    intro d
    induction d with
    | zero =>
      intro k_g hk_13 hd_13
      exact absurd hd_13 (by omega)
    | succ d ih_13 =>
      intro k_g hk_13 hd_13  H locs hP hS ls hl
      refine lv_iload_n hx hb dX2_inTheWay_13 rfl (lv_at hl 2 rfl) ?_
      refine lv_bipush (v := 6) hx hb dX2_inTheWay_14 (by decide) ?_
      refine lv_icmp_ge (tgt := 33) hx hb dX2_inTheWay_16 (by decide) (fun c_1 => ?_) (fun c_1 => ?_)
      · have hkn : k_g = 6 - (pl_nat (j_po (x_J X)) 0 + 2) := by have := nx_ge (n := 6) (by omega) (by omega) c_1; omega
        refine lv_iconst (v := 0) hx hb dX2_inTheWay_33 (by decide) ?_
        refine lv_istore_n (lv' := [(3, .int 0), (0, .ref (a 0)), (1, .long (j_wo (pl_nat (j_po (x_J X)) 0 + 2) k_g))]) hx hb dX2_inTheWay_34 rfl hl (by decide) rfl (fun ls hl => ?_)
        refine lv_iconst (v := 0) hx hb dX2_inTheWay_35 (by decide) ?_
        refine lv_istore (lv' := [(4, .int 0), (3, .int 0), (0, .ref (a 0)), (1, .long (j_wo (pl_nat (j_po (x_J X)) 0 + 2) k_g))]) hx hb dX2_inTheWay_36 hl (by decide) rfl (fun ls hl => ?_)
        have cut_38 : ∀ (d : Nat) (n_g : Nat) (b_g : Int32), n_g ≤ (y_n (x_Y X)) → (y_n (x_Y X)) + 1 ≤ n_g + d → (b_g = j_cnt (x_Y X) (j_po (x_J X)) (j_wo (pl_nat (j_po (x_J X)) 0 + 2) (6 - (pl_nat (j_po (x_J X)) 0 + 2))) n_g) → ∀ (H : Heap) (locs : List Loc), va_P G vwCl [((a 0), .inr (2, [.ref (a 6), .ref (a 1), .int (j_pp (x_J X)), .int (j_po (x_J X)), .int (j_mc (x_J X)), .int (j_dc (x_J X)), .int (j_is (x_J X))])), ((a 1), .inr (0, [.ref (a 6), .ref (a 2), .ref (a 3), .ref (a 4), .ref (a 5), .int (s_fc (x_S X)), .int (s_fs (x_S X)), .int (s_sm (x_S X)), .int (s_sc (x_S X)), .int (s_sf (x_S X))])), ((a 2), .inl (cI, 800, .inl (s_fo (x_S X)))), ((a 3), .inl (cI, 800, .inl (s_or (x_S X)))), ((a 4), .inl (cI, 800, .inl (s_mo (x_S X)))), ((a 5), .inl (cI, 2048, .inl (s_sl (x_S X)))), ((a 6), .inr (1, [.ref (a 7), .ref (a 8), .ref (a 9), .ref (a 10), .int (nI (y_n (x_Y X))), .long (y_rp (x_Y X))])), ((a 7), .inl (cI, 9, .inl (y_sz (x_Y X)))), ((a 8), .inl (cZ, 9, .inl (y_ac (x_Y X)))), ((a 9), .inl (cI, 9, .inl (y_li (x_Y X)))), ((a 10), .inl (cJ, 9, .inr (.inl (y_sh (x_Y X)))))] H → va_S (ro_A s.heap.size) s.heap H locs → ∀ (ls : Array Slot), lv_has ls 5 [(0, .ref (a 0)), (1, .long (j_wo (pl_nat (j_po (x_J X)) 0 + 2) (6 - (pl_nat (j_po (x_J X)) 0 + 2)))), (3, .int b_g), (4, .int (nI n_g))] → W p l e (headSpec wsX2_inTheWay ({ frames := 2, cells := 0, slots := 0, locals := 44 })).room s m ([.ref (a 0)] : List Value).toArray below meth c H locs 0 0 (MQ below (ro_Qi (j_itw X) s.heap.size) ([.ref (a 0)] : List Value).toArray s 0 0 (ro_A s.heap.size)) (F0 m 38 ls []) := by
          intro d
          induction d with
          | zero =>
            intro n_g b_g hk_38 hd_38
            exact absurd hd_38 (by omega)
          | succ d ih_38 =>
            intro n_g b_g hk_38 hd_38 heb H locs hP hS ls hl
            refine lv_iload hx hb dX2_inTheWay_38 (lv_at hl 3 rfl) ?_
            refine lv_aload_n hx hb dX2_inTheWay_40 rfl (lv_at hl 0 rfl) ?_
            refine va_get (D := G) (ci := 2) (v := .ref (a 6)) (C := RX2) (T := TX2) (N := 7) hx hb hts in_X2_inTheWay_2 hown hK hP 0 rfl rfl 0 (by decide) (hts (.fieldLink RX2 10 "RampJam" "yard" "LRampJam$Yard;") (by decide +kernel)) (fun _ h9 => h9) rfl dX2_inTheWay_41 ?_
            have hPc := hP.sub (ws' := [((a 6), .inr (1, [.ref (a 7), .ref (a 8), .ref (a 9), .ref (a 10), .int (nI (y_n (x_Y X))), .long (y_rp (x_Y X))])), ((a 7), .inl (cI, 9, .inl (y_sz (x_Y X)))), ((a 8), .inl (cZ, 9, .inl (y_ac (x_Y X)))), ((a 9), .inl (cI, 9, .inl (y_li (x_Y X)))), ((a 10), .inl (cJ, 9, .inr (.inl (y_sh (x_Y X)))))]) [6, 7, 8, 9, 10] rfl
            refine ro_i (va_runV (As := []) (rest := [.int (nI n_g)]) ⟨hx, hb, hml, hown, hts⟩ ((c_X1_count l G cI cZ cJ a _ (x_Y X))) (cwV 0 hts gX2_inTheWay_X1_count rfl rfl rfl (by decide +kernel) ⟨Nat.le_of_ble_eq_true rfl, Nat.le_of_ble_eq_true rfl⟩) ⟨ro_blind, va_recv hK hPc (ci := 1) (q0 := 0) rfl rfl, ro_pre hPc hK hN⟩ rfl rfl hl.1 rfl (lv_room (Nat.le_of_ble_eq_true rfl)) dX2_inTheWay_44 ⟨Nat.zero_le _, Nat.zero_le _⟩) hS hA hP (fun H locs hP hS => ?_)
            refine lv_icmp_ge (tgt := 79) hx hb dX2_inTheWay_47 (by decide) (fun c_2 => ?_) (fun c_2 => ?_)
            · have hkn2 : n_g = y_n (x_Y X) := Nat.le_antisymm hk_38 (nx_ge (by omega) (by omega) c_2)
              refine lv_iload_n hx hb dX2_inTheWay_79 rfl (lv_at hl 2 rfl) ?_
              exact W.iret (v := b_g) hx hb hr (fun t ht hW => ⟨⟨b_g, (), rfl, by rw [j_itw, ← hkn2, heb], trivial⟩, hS.F ht⟩) hS.2.2 dX2_inTheWay_80
            · have hlt2 : n_g < y_n (x_Y X) := nx_lt (by omega) (by omega) c_2
              refine lv_aload_n hx hb dX2_inTheWay_50 rfl (lv_at hl 0 rfl) ?_
              refine va_get (D := G) (ci := 2) (v := .ref (a 6)) (C := RX2) (T := TX2) (N := 7) hx hb hts in_X2_inTheWay_2 hown hK hP 0 rfl rfl 0 (by decide) (hts (.fieldLink RX2 10 "RampJam" "yard" "LRampJam$Yard;") (by decide +kernel)) (fun _ h9 => h9) rfl dX2_inTheWay_51 ?_
              refine lv_aload_n hx hb dX2_inTheWay_54 rfl (lv_at hl 0 rfl) ?_
              refine va_get (D := G) (ci := 2) (v := .int (j_po (x_J X))) (C := RX2) (T := TX2) (N := 7) hx hb hts in_X2_inTheWay_2 hown hK hP 0 rfl rfl 3 (by decide) (hts (.fieldLink RX2 57 "RampJam" "position" "I") (by decide +kernel)) (fun _ h9 => h9) rfl dX2_inTheWay_55 ?_
              refine lv_iload hx hb dX2_inTheWay_58 (lv_at hl 3 rfl) ?_
              have hPc := hP.sub (ws' := [((a 6), .inr (1, [.ref (a 7), .ref (a 8), .ref (a 9), .ref (a 10), .int (nI (y_n (x_Y X))), .long (y_rp (x_Y X))])), ((a 7), .inl (cI, 9, .inl (y_sz (x_Y X)))), ((a 8), .inl (cZ, 9, .inl (y_ac (x_Y X)))), ((a 9), .inl (cI, 9, .inl (y_li (x_Y X)))), ((a 10), .inl (cJ, 9, .inr (.inl (y_sh (x_Y X)))))]) [6, 7, 8, 9, 10] rfl
              refine ro_l (va_runV (As := [.int (j_po (x_J X)), .int (nI n_g)]) (rest := []) ⟨hx, hb, hml, hown, hts⟩ ((c_X1_cellsIn l G cI cZ cJ a _ (x_Y X) (j_po (x_J X)) (nI n_g))) (cwV 2 hts gX2_inTheWay_X1_cellsIn rfl rfl rfl (by decide +kernel) ⟨Nat.le_of_ble_eq_true rfl, Nat.le_of_ble_eq_true rfl⟩) ⟨ro_blind, va_recv hK hPc (ci := 1) (q0 := 0) rfl rfl, ro_pre hPc hK hN⟩ rfl rfl hl.1 rfl (lv_room (Nat.le_of_ble_eq_true rfl)) dX2_inTheWay_60 ⟨Nat.zero_le _, Nat.zero_le _⟩) hS hA hP (fun H locs hP hS => ?_)
              refine lv_lload_n hx hb dX2_inTheWay_63 rfl (lv_at hl 1 rfl) ?_
              refine lv_land hx hb dX2_inTheWay_64 ?_
              refine lv_lconst (v := 0) hx hb dX2_inTheWay_65 (by decide) ?_
              refine W.lcmp hx hb dX2_inTheWay_66 ?_
              refine lv_if_eq (tgt := 73) hx hb dX2_inTheWay_67 (by decide) (fun c_3 => ?_) (fun c_3 => ?_)
              · have c_3 := lg_t c_3
                have hz := c_3
                refine lv_iinc (v := (nI (n_g + 1))) (lv' := [(4, .int (nI (n_g + 1))), (0, .ref (a 0)), (1, .long (j_wo (pl_nat (j_po (x_J X)) 0 + 2) (6 - (pl_nat (j_po (x_J X)) 0 + 2)))), (3, .int b_g)]) hx hb dX2_inTheWay_73 hl (k := 3) rfl (nI_1 _) (by decide) rfl (fun ls hl => ?_)
                refine lv_goto (tgt := 38) hx hb dX2_inTheWay_76 (by decide) ?_
                exact ih_38 (n_g + 1) b_g (hlt2) (by omega) (by first | rw [j_cnt, if_pos hz, ← heb] | rw [j_cnt, if_neg hz, ← heb]) _ _ hP hS _ (lv_sub hl [1, 2, 3, 0] rfl)
              · have c_3 := lg_f c_3
                have hz := c_3
                refine lv_iinc (v := (b_g + 1)) (lv' := [(3, .int (b_g + 1)), (0, .ref (a 0)), (1, .long (j_wo (pl_nat (j_po (x_J X)) 0 + 2) (6 - (pl_nat (j_po (x_J X)) 0 + 2)))), (4, .int (nI n_g))]) hx hb dX2_inTheWay_70 hl (k := 2) rfl (rfl) (by decide) rfl (fun ls hl => ?_)
                refine lv_iinc (v := (nI (n_g + 1))) (lv' := [(4, .int (nI (n_g + 1))), (3, .int (b_g + 1)), (0, .ref (a 0)), (1, .long (j_wo (pl_nat (j_po (x_J X)) 0 + 2) (6 - (pl_nat (j_po (x_J X)) 0 + 2))))]) hx hb dX2_inTheWay_73 hl (k := 3) rfl (nI_1 _) (by decide) rfl (fun ls hl => ?_)
                refine lv_goto (tgt := 38) hx hb dX2_inTheWay_76 (by decide) ?_
                exact ih_38 (n_g + 1) (b_g + 1) (hlt2) (by omega) (by first | rw [j_cnt, if_pos hz, ← heb] | rw [j_cnt, if_neg hz, ← heb]) _ _ hP hS _ (lv_sub hl [2, 3, 1, 0] rfl)
        rw [hkn] at hl
        exact cut_38 ((y_n (x_Y X)) + 1) 0 0 (Nat.zero_le _) (by omega) (rfl) _ _ hP hS _ (lv_sub hl [2, 3, 1, 0] rfl)
      · have hlt : k_g < 6 - (pl_nat (j_po (x_J X)) 0 + 2) := by have := nx_lt (n := 6) (by omega) (by omega) c_1; omega
        refine lv_lload_n hx hb dX2_inTheWay_19 rfl (lv_at hl 1 rfl) ?_
        refine lv_iconst (v := 2) hx hb dX2_inTheWay_20 (by decide) ?_
        refine lv_iload_n hx hb dX2_inTheWay_21 rfl (lv_at hl 2 rfl) ?_
        refine ro_l (va_runS (As := [.int 2, .int (nI ((pl_nat (j_po (x_J X)) 0 + 2) + k_g))]) (rest := [.long (j_wo (pl_nat (j_po (x_J X)) 0 + 2) k_g)]) ⟨hx, hb, hml, hown, hts⟩ ((c_X2_cellOf l G cI cZ cJ a _ 2 (nI ((pl_nat (j_po (x_J X)) 0 + 2) + k_g)))) (va_cwS 2 hts gX2_inTheWay_X2_cellOf rfl rfl rfl (by decide +kernel) ⟨Nat.le_of_ble_eq_true rfl, Nat.le_of_ble_eq_true rfl⟩) ⟨ro_blind, ro_pre va_P0 hK hN⟩ rfl rfl hl.1 rfl (lv_room (Nat.le_of_ble_eq_true rfl)) dX2_inTheWay_22 ⟨Nat.zero_le _, Nat.zero_le _⟩) hS hA hP (fun H locs hP hS => ?_)
        refine lv_lor hx hb dX2_inTheWay_25 ?_
        refine lv_lstore_n (lv' := [(1, .long ((j_wo (pl_nat (j_po (x_J X)) 0 + 2) k_g) ||| (co 2 (nI ((pl_nat (j_po (x_J X)) 0 + 2) + k_g))))), (0, .ref (a 0)), (3, .int (nI ((pl_nat (j_po (x_J X)) 0 + 2) + k_g)))]) hx hb dX2_inTheWay_26 rfl hl (by decide) rfl (fun ls hl => ?_)
        refine lv_iinc (v := (nI (((pl_nat (j_po (x_J X)) 0 + 2) + k_g) + 1))) (lv' := [(3, .int (nI (((pl_nat (j_po (x_J X)) 0 + 2) + k_g) + 1))), (1, .long ((j_wo (pl_nat (j_po (x_J X)) 0 + 2) k_g) ||| (co 2 (nI ((pl_nat (j_po (x_J X)) 0 + 2) + k_g))))), (0, .ref (a 0))]) hx hb dX2_inTheWay_27 hl (k := 2) rfl (nI_1 _) (by decide) rfl (fun ls hl => ?_)
        refine lv_goto (tgt := 13) hx hb dX2_inTheWay_30 (by decide) ?_
        exact ih_13 (k_g + 1) (hlt) (by omega) _ _ hP hS _ (lv_sub hl [2, 1, 0] rfl)
  exact cut_13 ((6 - (pl_nat (j_po (x_J X)) 0 + 2)) + 1) 0 (Nat.zero_le _) (by omega) _ _ hP hS _ (lv_sub hl [2, 1, 0] rfl)

theorem in_X2_rowOf_2 : ∀ w ∈ wsX20, w ∈ wsX2_rowOf := by decide +kernel
set_option maxHeartbeats 4000000 in
set_option maxRecDepth 100000 in
/-- RampJam.rowOf -/
theorem c_X2_rowOf (l : Launch) (G : va_G) (cI cZ cJ : ClassId) (a : Nat → Nat) (sz : Nat) (X : XS) (v_g : Int32) (hn : y_n (x_Y X) ≤ 9) (hok : has_th X v_g = 0) : Met l yX2_rowOf wsX2_rowOf ({ frames := 2, cells := 0, slots := 0, locals := 42 }) (ro_Pc G [(cI, .int), (cZ, .boolean), (cJ, .long)] (wJ cI cZ cJ a (x_J X) (x_S X) (x_Y X)) sz [.ref (a 0), .int v_g]) (ro_Qi (j_row X v_g) sz) 0 0 (ro_A sz) := by
  refine Met.ofW (cc := cX2_rowOf) (maxL := 2) (ret := (some .int)) (by decide) rfl ?_
  intro p e s m args below meth c s₁ B hml hv
  obtain ⟨rfl, hsz, hP, hK, hN⟩ := hv
  have hx := B.exec
  have hb := B.bytes
  have hr := B.returns
  have hts := atoms_spec (ws := wsX2_rowOf) B.pre
  have hown : s.vm.findClass RX2 = some m.cls := findClass_of_methodNamed B.named
  have hlocks := B.notSynchronized
  subst hsz
  have hA : ∀ q : Nat, s.heap.size ≤ q → (ro_A s.heap.size) q := fun _ h => h
  have hS : va_S (ro_A s.heap.size) s.heap s.heap [] := va_S.rf
  have hP : va_P G vwCl [((a 0), .inr (2, [.ref (a 6), .ref (a 1), .int (j_pp (x_J X)), .int (j_po (x_J X)), .int (j_mc (x_J X)), .int (j_dc (x_J X)), .int (j_is (x_J X))])), ((a 1), .inr (0, [.ref (a 6), .ref (a 2), .ref (a 3), .ref (a 4), .ref (a 5), .int (s_fc (x_S X)), .int (s_fs (x_S X)), .int (s_sm (x_S X)), .int (s_sc (x_S X)), .int (s_sf (x_S X))])), ((a 2), .inl (cI, 800, .inl (s_fo (x_S X)))), ((a 3), .inl (cI, 800, .inl (s_or (x_S X)))), ((a 4), .inl (cI, 800, .inl (s_mo (x_S X)))), ((a 5), .inl (cI, 2048, .inl (s_sl (x_S X)))), ((a 6), .inr (1, [.ref (a 7), .ref (a 8), .ref (a 9), .ref (a 10), .int (nI (y_n (x_Y X))), .long (y_rp (x_Y X))])), ((a 7), .inl (cI, 9, .inl (y_sz (x_Y X)))), ((a 8), .inl (cZ, 9, .inl (y_ac (x_Y X)))), ((a 9), .inl (cI, 9, .inl (y_li (x_Y X)))), ((a 10), .inl (cJ, 9, .inr (.inl (y_sh (x_Y X)))))] s.heap := hP
  have hl := lv_entry ([.ref (a 0), .int v_g]) (n := 2) (Nat.le_of_ble_eq_true rfl)
  rw [lg_entry_eq]
  generalize (lg_sl ([.ref (a 0), .int v_g]) ++ List.replicate (2 - (lg_sl ([.ref (a 0), .int v_g])).length) Slot.unset).toArray = ls at hl ⊢
  have hl : lv_has ls 2 [(0, .ref (a 0)), (1, .int v_g)] := hl
  refine lv_aload_n hx hb dX2_rowOf_0 rfl (lv_at hl 0 rfl) ?_
  refine va_get (D := G) (ci := 2) (v := .ref (a 6)) (C := RX2) (T := TX2) (N := 7) hx hb hts in_X2_rowOf_2 hown hK hP 0 rfl rfl 0 (by decide) (hts (.fieldLink RX2 10 "RampJam" "yard" "LRampJam$Yard;") (by decide +kernel)) (fun _ h9 => h9) rfl dX2_rowOf_1 ?_
  refine lv_iload_n hx hb dX2_rowOf_4 rfl (lv_at hl 1 rfl) ?_
  have hPc := hP.sub (ws' := [((a 6), .inr (1, [.ref (a 7), .ref (a 8), .ref (a 9), .ref (a 10), .int (nI (y_n (x_Y X))), .long (y_rp (x_Y X))])), ((a 7), .inl (cI, 9, .inl (y_sz (x_Y X)))), ((a 8), .inl (cZ, 9, .inl (y_ac (x_Y X)))), ((a 9), .inl (cI, 9, .inl (y_li (x_Y X)))), ((a 10), .inl (cJ, 9, .inr (.inl (y_sh (x_Y X)))))]) [6, 7, 8, 9, 10] rfl
  refine ro_i (va_runV (As := [.int v_g]) (rest := []) ⟨hx, hb, hml, hown, hts⟩ ((c_X1_has l G cI cZ cJ a _ (x_Y X) v_g)) (cwV 1 hts gX2_rowOf_X1_has rfl rfl rfl (by decide +kernel) ⟨Nat.le_of_ble_eq_true rfl, Nat.le_of_ble_eq_true rfl⟩) ⟨ro_blind, va_recv hK hPc (ci := 1) (q0 := 0) rfl rfl, ro_pre hPc hK hN⟩ rfl rfl hl.1 rfl (lv_room (Nat.le_of_ble_eq_true rfl)) dX2_rowOf_5 ⟨Nat.zero_le _, Nat.zero_le _⟩) hS hA hP (fun H locs hP hS => ?_)
  refine lv_if_ne (tgt := 21) hx hb dX2_rowOf_8 (by decide) (fun c_1 => ?_) (fun c_1 => ?_)
  · have c_1 := b1_t c_1
    refine lv_aload_n hx hb dX2_rowOf_21 rfl (lv_at hl 0 rfl) ?_
    refine va_get (D := G) (ci := 2) (v := .ref (a 6)) (C := RX2) (T := TX2) (N := 7) hx hb hts in_X2_rowOf_2 hown hK hP 0 rfl rfl 0 (by decide) (hts (.fieldLink RX2 10 "RampJam" "yard" "LRampJam$Yard;") (by decide +kernel)) (fun _ h9 => h9) rfl dX2_rowOf_22 ?_
    refine lv_iload_n hx hb dX2_rowOf_25 rfl (lv_at hl 1 rfl) ?_
    have hPc := hP.sub (ws' := [((a 6), .inr (1, [.ref (a 7), .ref (a 8), .ref (a 9), .ref (a 10), .int (nI (y_n (x_Y X))), .long (y_rp (x_Y X))])), ((a 7), .inl (cI, 9, .inl (y_sz (x_Y X)))), ((a 8), .inl (cZ, 9, .inl (y_ac (x_Y X)))), ((a 9), .inl (cI, 9, .inl (y_li (x_Y X)))), ((a 10), .inl (cJ, 9, .inr (.inl (y_sh (x_Y X)))))]) [6, 7, 8, 9, 10] rfl
    refine ro_i (va_runV (As := [.int v_g]) (rest := []) ⟨hx, hb, hml, hown, hts⟩ ((c_X1_standsAcross l G cI cZ cJ a _ (x_Y X) v_g)) (cwV 1 hts gX2_rowOf_X1_standsAcross rfl rfl rfl (by decide +kernel) ⟨Nat.le_of_ble_eq_true rfl, Nat.le_of_ble_eq_true rfl⟩) ⟨ro_blind, va_recv hK hPc (ci := 1) (q0 := 0) rfl rfl, ro_pre hPc hK hN⟩ rfl rfl hl.1 rfl (lv_room (Nat.le_of_ble_eq_true rfl)) dX2_rowOf_26 ⟨Nat.zero_le _, Nat.zero_le _⟩) hS hA hP (fun H locs hP hS => ?_)
    refine lv_if_eq (tgt := 43) hx hb dX2_rowOf_29 (by decide) (fun c_2 => ?_) (fun c_2 => ?_)
    · have c_2 := b1_f c_2
      refine lv_aload_n hx hb dX2_rowOf_43 rfl (lv_at hl 0 rfl) ?_
      refine va_get (D := G) (ci := 2) (v := .int (j_po (x_J X))) (C := RX2) (T := TX2) (N := 7) hx hb hts in_X2_rowOf_2 hown hK hP 0 rfl rfl 3 (by decide) (hts (.fieldLink RX2 57 "RampJam" "position" "I") (by decide +kernel)) (fun _ h9 => h9) rfl dX2_rowOf_44 ?_
      refine lv_iload_n hx hb dX2_rowOf_47 rfl (lv_at hl 1 rfl) ?_
      refine ro_i (va_runS (As := [.int (j_po (x_J X)), .int v_g]) (rest := []) ⟨hx, hb, hml, hown, hts⟩ ((c_X2_placeIn l G cI cZ cJ a _ (j_po (x_J X)) v_g)) (va_cwS 2 hts gX2_rowOf_X2_placeIn rfl rfl rfl (by decide +kernel) ⟨Nat.le_of_ble_eq_true rfl, Nat.le_of_ble_eq_true rfl⟩) ⟨ro_blind, ro_pre va_P0 hK hN⟩ rfl rfl hl.1 rfl (lv_room (Nat.le_of_ble_eq_true rfl)) dX2_rowOf_48 ⟨Nat.zero_le _, Nat.zero_le _⟩) hS hA hP (fun H locs hP hS => ?_)
      exact W.iret (v := (pl (j_po (x_J X)) v_g)) hx hb hr (fun t ht hW => ⟨⟨(pl (j_po (x_J X)) v_g), (), rfl, by rw [j_row, if_neg c_2], trivial⟩, hS.F ht⟩) hS.2.2 dX2_rowOf_51
    · have c_2 := b1_t c_2
      refine lv_aload_n hx hb dX2_rowOf_32 rfl (lv_at hl 0 rfl) ?_
      refine va_get (D := G) (ci := 2) (v := .ref (a 6)) (C := RX2) (T := TX2) (N := 7) hx hb hts in_X2_rowOf_2 hown hK hP 0 rfl rfl 0 (by decide) (hts (.fieldLink RX2 10 "RampJam" "yard" "LRampJam$Yard;") (by decide +kernel)) (fun _ h9 => h9) rfl dX2_rowOf_33 ?_
      refine lv_iload_n hx hb dX2_rowOf_36 rfl (lv_at hl 1 rfl) ?_
      have hPc := hP.sub (ws' := [((a 6), .inr (1, [.ref (a 7), .ref (a 8), .ref (a 9), .ref (a 10), .int (nI (y_n (x_Y X))), .long (y_rp (x_Y X))])), ((a 7), .inl (cI, 9, .inl (y_sz (x_Y X)))), ((a 8), .inl (cZ, 9, .inl (y_ac (x_Y X)))), ((a 9), .inl (cI, 9, .inl (y_li (x_Y X)))), ((a 10), .inl (cJ, 9, .inr (.inl (y_sh (x_Y X)))))]) [6, 7, 8, 9, 10] rfl
      refine ro_i (va_runV (As := [.int v_g]) (rest := []) ⟨hx, hb, hml, hown, hts⟩ ((c_X1_lineOf l G cI cZ cJ a _ (x_Y X) v_g)) (cwV 1 hts gX2_rowOf_X1_lineOf rfl rfl rfl (by decide +kernel) ⟨Nat.le_of_ble_eq_true rfl, Nat.le_of_ble_eq_true rfl⟩) ⟨ro_blind, va_recv hK hPc (ci := 1) (q0 := 0) rfl rfl, ro_pre hPc hK hN⟩ rfl rfl hl.1 rfl (lv_room (Nat.le_of_ble_eq_true rfl)) dX2_rowOf_37 ⟨Nat.zero_le _, Nat.zero_le _⟩) hS hA hP (fun H locs hP hS => ?_)
      refine lv_goto (tgt := 51) hx hb dX2_rowOf_40 (by decide) ?_
      exact W.iret (v := (y_line (x_Y X) v_g)) hx hb hr (fun t ht hW => ⟨⟨(y_line (x_Y X) v_g), (), rfl, by rw [j_row, if_pos c_2], trivial⟩, hS.F ht⟩) hS.2.2 dX2_rowOf_51
  · have c_1 := b1_f c_1
    have h9 : has_th X v_g = 1 := by rw [has_th, if_neg c_1]
    exact absurd (h9.symm.trans hok) (by decide)

theorem in_X2_columnOf_2 : ∀ w ∈ wsX20, w ∈ wsX2_columnOf := by decide +kernel
set_option maxHeartbeats 4000000 in
set_option maxRecDepth 100000 in
/-- RampJam.columnOf -/
theorem c_X2_columnOf (l : Launch) (G : va_G) (cI cZ cJ : ClassId) (a : Nat → Nat) (sz : Nat) (X : XS) (v_g : Int32) (hn : y_n (x_Y X) ≤ 9) (hok : has_th X v_g = 0) : Met l yX2_columnOf wsX2_columnOf ({ frames := 2, cells := 0, slots := 0, locals := 42 }) (ro_Pc G [(cI, .int), (cZ, .boolean), (cJ, .long)] (wJ cI cZ cJ a (x_J X) (x_S X) (x_Y X)) sz [.ref (a 0), .int v_g]) (ro_Qi (j_col X v_g) sz) 0 0 (ro_A sz) := by
  refine Met.ofW (cc := cX2_columnOf) (maxL := 2) (ret := (some .int)) (by decide) rfl ?_
  intro p e s m args below meth c s₁ B hml hv
  obtain ⟨rfl, hsz, hP, hK, hN⟩ := hv
  have hx := B.exec
  have hb := B.bytes
  have hr := B.returns
  have hts := atoms_spec (ws := wsX2_columnOf) B.pre
  have hown : s.vm.findClass RX2 = some m.cls := findClass_of_methodNamed B.named
  have hlocks := B.notSynchronized
  subst hsz
  have hA : ∀ q : Nat, s.heap.size ≤ q → (ro_A s.heap.size) q := fun _ h => h
  have hS : va_S (ro_A s.heap.size) s.heap s.heap [] := va_S.rf
  have hP : va_P G vwCl [((a 0), .inr (2, [.ref (a 6), .ref (a 1), .int (j_pp (x_J X)), .int (j_po (x_J X)), .int (j_mc (x_J X)), .int (j_dc (x_J X)), .int (j_is (x_J X))])), ((a 1), .inr (0, [.ref (a 6), .ref (a 2), .ref (a 3), .ref (a 4), .ref (a 5), .int (s_fc (x_S X)), .int (s_fs (x_S X)), .int (s_sm (x_S X)), .int (s_sc (x_S X)), .int (s_sf (x_S X))])), ((a 2), .inl (cI, 800, .inl (s_fo (x_S X)))), ((a 3), .inl (cI, 800, .inl (s_or (x_S X)))), ((a 4), .inl (cI, 800, .inl (s_mo (x_S X)))), ((a 5), .inl (cI, 2048, .inl (s_sl (x_S X)))), ((a 6), .inr (1, [.ref (a 7), .ref (a 8), .ref (a 9), .ref (a 10), .int (nI (y_n (x_Y X))), .long (y_rp (x_Y X))])), ((a 7), .inl (cI, 9, .inl (y_sz (x_Y X)))), ((a 8), .inl (cZ, 9, .inl (y_ac (x_Y X)))), ((a 9), .inl (cI, 9, .inl (y_li (x_Y X)))), ((a 10), .inl (cJ, 9, .inr (.inl (y_sh (x_Y X)))))] s.heap := hP
  have hl := lv_entry ([.ref (a 0), .int v_g]) (n := 2) (Nat.le_of_ble_eq_true rfl)
  rw [lg_entry_eq]
  generalize (lg_sl ([.ref (a 0), .int v_g]) ++ List.replicate (2 - (lg_sl ([.ref (a 0), .int v_g])).length) Slot.unset).toArray = ls at hl ⊢
  have hl : lv_has ls 2 [(0, .ref (a 0)), (1, .int v_g)] := hl
  refine lv_aload_n hx hb dX2_columnOf_0 rfl (lv_at hl 0 rfl) ?_
  refine va_get (D := G) (ci := 2) (v := .ref (a 6)) (C := RX2) (T := TX2) (N := 7) hx hb hts in_X2_columnOf_2 hown hK hP 0 rfl rfl 0 (by decide) (hts (.fieldLink RX2 10 "RampJam" "yard" "LRampJam$Yard;") (by decide +kernel)) (fun _ h9 => h9) rfl dX2_columnOf_1 ?_
  refine lv_iload_n hx hb dX2_columnOf_4 rfl (lv_at hl 1 rfl) ?_
  have hPc := hP.sub (ws' := [((a 6), .inr (1, [.ref (a 7), .ref (a 8), .ref (a 9), .ref (a 10), .int (nI (y_n (x_Y X))), .long (y_rp (x_Y X))])), ((a 7), .inl (cI, 9, .inl (y_sz (x_Y X)))), ((a 8), .inl (cZ, 9, .inl (y_ac (x_Y X)))), ((a 9), .inl (cI, 9, .inl (y_li (x_Y X)))), ((a 10), .inl (cJ, 9, .inr (.inl (y_sh (x_Y X)))))]) [6, 7, 8, 9, 10] rfl
  refine ro_i (va_runV (As := [.int v_g]) (rest := []) ⟨hx, hb, hml, hown, hts⟩ ((c_X1_has l G cI cZ cJ a _ (x_Y X) v_g)) (cwV 1 hts gX2_columnOf_X1_has rfl rfl rfl (by decide +kernel) ⟨Nat.le_of_ble_eq_true rfl, Nat.le_of_ble_eq_true rfl⟩) ⟨ro_blind, va_recv hK hPc (ci := 1) (q0 := 0) rfl rfl, ro_pre hPc hK hN⟩ rfl rfl hl.1 rfl (lv_room (Nat.le_of_ble_eq_true rfl)) dX2_columnOf_5 ⟨Nat.zero_le _, Nat.zero_le _⟩) hS hA hP (fun H locs hP hS => ?_)
  refine lv_if_ne (tgt := 21) hx hb dX2_columnOf_8 (by decide) (fun c_1 => ?_) (fun c_1 => ?_)
  · have c_1 := b1_t c_1
    refine lv_aload_n hx hb dX2_columnOf_21 rfl (lv_at hl 0 rfl) ?_
    refine va_get (D := G) (ci := 2) (v := .ref (a 6)) (C := RX2) (T := TX2) (N := 7) hx hb hts in_X2_columnOf_2 hown hK hP 0 rfl rfl 0 (by decide) (hts (.fieldLink RX2 10 "RampJam" "yard" "LRampJam$Yard;") (by decide +kernel)) (fun _ h9 => h9) rfl dX2_columnOf_22 ?_
    refine lv_iload_n hx hb dX2_columnOf_25 rfl (lv_at hl 1 rfl) ?_
    have hPc := hP.sub (ws' := [((a 6), .inr (1, [.ref (a 7), .ref (a 8), .ref (a 9), .ref (a 10), .int (nI (y_n (x_Y X))), .long (y_rp (x_Y X))])), ((a 7), .inl (cI, 9, .inl (y_sz (x_Y X)))), ((a 8), .inl (cZ, 9, .inl (y_ac (x_Y X)))), ((a 9), .inl (cI, 9, .inl (y_li (x_Y X)))), ((a 10), .inl (cJ, 9, .inr (.inl (y_sh (x_Y X)))))]) [6, 7, 8, 9, 10] rfl
    refine ro_i (va_runV (As := [.int v_g]) (rest := []) ⟨hx, hb, hml, hown, hts⟩ ((c_X1_standsAcross l G cI cZ cJ a _ (x_Y X) v_g)) (cwV 1 hts gX2_columnOf_X1_standsAcross rfl rfl rfl (by decide +kernel) ⟨Nat.le_of_ble_eq_true rfl, Nat.le_of_ble_eq_true rfl⟩) ⟨ro_blind, va_recv hK hPc (ci := 1) (q0 := 0) rfl rfl, ro_pre hPc hK hN⟩ rfl rfl hl.1 rfl (lv_room (Nat.le_of_ble_eq_true rfl)) dX2_columnOf_26 ⟨Nat.zero_le _, Nat.zero_le _⟩) hS hA hP (fun H locs hP hS => ?_)
    refine lv_if_eq (tgt := 43) hx hb dX2_columnOf_29 (by decide) (fun c_2 => ?_) (fun c_2 => ?_)
    · have c_2 := b1_f c_2
      refine lv_aload_n hx hb dX2_columnOf_43 rfl (lv_at hl 0 rfl) ?_
      refine va_get (D := G) (ci := 2) (v := .ref (a 6)) (C := RX2) (T := TX2) (N := 7) hx hb hts in_X2_columnOf_2 hown hK hP 0 rfl rfl 0 (by decide) (hts (.fieldLink RX2 10 "RampJam" "yard" "LRampJam$Yard;") (by decide +kernel)) (fun _ h9 => h9) rfl dX2_columnOf_44 ?_
      refine lv_iload_n hx hb dX2_columnOf_47 rfl (lv_at hl 1 rfl) ?_
      have hPc := hP.sub (ws' := [((a 6), .inr (1, [.ref (a 7), .ref (a 8), .ref (a 9), .ref (a 10), .int (nI (y_n (x_Y X))), .long (y_rp (x_Y X))])), ((a 7), .inl (cI, 9, .inl (y_sz (x_Y X)))), ((a 8), .inl (cZ, 9, .inl (y_ac (x_Y X)))), ((a 9), .inl (cI, 9, .inl (y_li (x_Y X)))), ((a 10), .inl (cJ, 9, .inr (.inl (y_sh (x_Y X)))))]) [6, 7, 8, 9, 10] rfl
      refine ro_i (va_runV (As := [.int v_g]) (rest := []) ⟨hx, hb, hml, hown, hts⟩ ((c_X1_lineOf l G cI cZ cJ a _ (x_Y X) v_g)) (cwV 1 hts gX2_columnOf_X1_lineOf rfl rfl rfl (by decide +kernel) ⟨Nat.le_of_ble_eq_true rfl, Nat.le_of_ble_eq_true rfl⟩) ⟨ro_blind, va_recv hK hPc (ci := 1) (q0 := 0) rfl rfl, ro_pre hPc hK hN⟩ rfl rfl hl.1 rfl (lv_room (Nat.le_of_ble_eq_true rfl)) dX2_columnOf_48 ⟨Nat.zero_le _, Nat.zero_le _⟩) hS hA hP (fun H locs hP hS => ?_)
      exact W.iret (v := (y_line (x_Y X) v_g)) hx hb hr (fun t ht hW => ⟨⟨(y_line (x_Y X) v_g), (), rfl, by rw [j_col, if_neg c_2], trivial⟩, hS.F ht⟩) hS.2.2 dX2_columnOf_51
    · have c_2 := b1_t c_2
      refine lv_aload_n hx hb dX2_columnOf_32 rfl (lv_at hl 0 rfl) ?_
      refine va_get (D := G) (ci := 2) (v := .int (j_po (x_J X))) (C := RX2) (T := TX2) (N := 7) hx hb hts in_X2_columnOf_2 hown hK hP 0 rfl rfl 3 (by decide) (hts (.fieldLink RX2 57 "RampJam" "position" "I") (by decide +kernel)) (fun _ h9 => h9) rfl dX2_columnOf_33 ?_
      refine lv_iload_n hx hb dX2_columnOf_36 rfl (lv_at hl 1 rfl) ?_
      refine ro_i (va_runS (As := [.int (j_po (x_J X)), .int v_g]) (rest := []) ⟨hx, hb, hml, hown, hts⟩ ((c_X2_placeIn l G cI cZ cJ a _ (j_po (x_J X)) v_g)) (va_cwS 2 hts gX2_columnOf_X2_placeIn rfl rfl rfl (by decide +kernel) ⟨Nat.le_of_ble_eq_true rfl, Nat.le_of_ble_eq_true rfl⟩) ⟨ro_blind, ro_pre va_P0 hK hN⟩ rfl rfl hl.1 rfl (lv_room (Nat.le_of_ble_eq_true rfl)) dX2_columnOf_37 ⟨Nat.zero_le _, Nat.zero_le _⟩) hS hA hP (fun H locs hP hS => ?_)
      refine lv_goto (tgt := 51) hx hb dX2_columnOf_40 (by decide) ?_
      exact W.iret (v := (pl (j_po (x_J X)) v_g)) hx hb hr (fun t ht hW => ⟨⟨(pl (j_po (x_J X)) v_g), (), rfl, by rw [j_col, if_pos c_2], trivial⟩, hS.F ht⟩) hS.2.2 dX2_columnOf_51
  · have c_1 := b1_f c_1
    have h9 : has_th X v_g = 1 := by rw [has_th, if_neg c_1]
    exact absurd (h9.symm.trans hok) (by decide)

theorem in_X2_freeWay_2 : ∀ w ∈ wsX20, w ∈ wsX2_freeWay := by decide +kernel
set_option maxHeartbeats 4000000 in
set_option maxRecDepth 100000 in
/-- RampJam.freeWay -/
theorem c_X2_freeWay (l : Launch) (G : va_G) (cI cZ cJ : ClassId) (a : Nat → Nat) (sz : Nat) (X : XS) (v_g : Int32) (f_g : Int32) (hn : y_n (x_Y X) ≤ 9) (hok : has_th X v_g = 0) : Met l yX2_freeWay wsX2_freeWay ({ frames := 4, cells := 0, slots := 0, locals := 99 }) (ro_Pc G [(cI, .int), (cZ, .boolean), (cJ, .long)] (wJ cI cZ cJ a (x_J X) (x_S X) (x_Y X)) sz [.ref (a 0), .int v_g, .int f_g]) (ro_Qi (j_way X v_g f_g) sz) 0 0 (ro_A sz) := by
  refine Met.ofW (cc := cX2_freeWay) (maxL := 3) (ret := (some .int)) (by decide) rfl ?_
  intro p e s m args below meth c s₁ B hml hv
  obtain ⟨rfl, hsz, hP, hK, hN⟩ := hv
  have hx := B.exec
  have hb := B.bytes
  have hr := B.returns
  have hts := atoms_spec (ws := wsX2_freeWay) B.pre
  have hown : s.vm.findClass RX2 = some m.cls := findClass_of_methodNamed B.named
  have hlocks := B.notSynchronized
  subst hsz
  have hA : ∀ q : Nat, s.heap.size ≤ q → (ro_A s.heap.size) q := fun _ h => h
  have hS : va_S (ro_A s.heap.size) s.heap s.heap [] := va_S.rf
  have hP : va_P G vwCl [((a 0), .inr (2, [.ref (a 6), .ref (a 1), .int (j_pp (x_J X)), .int (j_po (x_J X)), .int (j_mc (x_J X)), .int (j_dc (x_J X)), .int (j_is (x_J X))])), ((a 1), .inr (0, [.ref (a 6), .ref (a 2), .ref (a 3), .ref (a 4), .ref (a 5), .int (s_fc (x_S X)), .int (s_fs (x_S X)), .int (s_sm (x_S X)), .int (s_sc (x_S X)), .int (s_sf (x_S X))])), ((a 2), .inl (cI, 800, .inl (s_fo (x_S X)))), ((a 3), .inl (cI, 800, .inl (s_or (x_S X)))), ((a 4), .inl (cI, 800, .inl (s_mo (x_S X)))), ((a 5), .inl (cI, 2048, .inl (s_sl (x_S X)))), ((a 6), .inr (1, [.ref (a 7), .ref (a 8), .ref (a 9), .ref (a 10), .int (nI (y_n (x_Y X))), .long (y_rp (x_Y X))])), ((a 7), .inl (cI, 9, .inl (y_sz (x_Y X)))), ((a 8), .inl (cZ, 9, .inl (y_ac (x_Y X)))), ((a 9), .inl (cI, 9, .inl (y_li (x_Y X)))), ((a 10), .inl (cJ, 9, .inr (.inl (y_sh (x_Y X)))))] s.heap := hP
  have hl := lv_entry ([.ref (a 0), .int v_g, .int f_g]) (n := 3) (Nat.le_of_ble_eq_true rfl)
  rw [lg_entry_eq]
  generalize (lg_sl ([.ref (a 0), .int v_g, .int f_g]) ++ List.replicate (3 - (lg_sl ([.ref (a 0), .int v_g, .int f_g])).length) Slot.unset).toArray = ls at hl ⊢
  have hl : lv_has ls 3 [(0, .ref (a 0)), (1, .int v_g), (2, .int f_g)] := hl
  refine lv_aload_n hx hb dX2_freeWay_0 rfl (lv_at hl 0 rfl) ?_
  refine va_get (D := G) (ci := 2) (v := .ref (a 6)) (C := RX2) (T := TX2) (N := 7) hx hb hts in_X2_freeWay_2 hown hK hP 0 rfl rfl 0 (by decide) (hts (.fieldLink RX2 10 "RampJam" "yard" "LRampJam$Yard;") (by decide +kernel)) (fun _ h9 => h9) rfl dX2_freeWay_1 ?_
  refine lv_iload_n hx hb dX2_freeWay_4 rfl (lv_at hl 1 rfl) ?_
  have hPc := hP.sub (ws' := [((a 6), .inr (1, [.ref (a 7), .ref (a 8), .ref (a 9), .ref (a 10), .int (nI (y_n (x_Y X))), .long (y_rp (x_Y X))])), ((a 7), .inl (cI, 9, .inl (y_sz (x_Y X)))), ((a 8), .inl (cZ, 9, .inl (y_ac (x_Y X)))), ((a 9), .inl (cI, 9, .inl (y_li (x_Y X)))), ((a 10), .inl (cJ, 9, .inr (.inl (y_sh (x_Y X)))))]) [6, 7, 8, 9, 10] rfl
  refine ro_i (va_runV (As := [.int v_g]) (rest := []) ⟨hx, hb, hml, hown, hts⟩ ((c_X1_has l G cI cZ cJ a _ (x_Y X) v_g)) (cwV 1 hts gX2_freeWay_X1_has rfl rfl rfl (by decide +kernel) ⟨Nat.le_of_ble_eq_true rfl, Nat.le_of_ble_eq_true rfl⟩) ⟨ro_blind, va_recv hK hPc (ci := 1) (q0 := 0) rfl rfl, ro_pre hPc hK hN⟩ rfl rfl hl.1 rfl (lv_room (Nat.le_of_ble_eq_true rfl)) dX2_freeWay_5 ⟨Nat.zero_le _, Nat.zero_le _⟩) hS hA hP (fun H locs hP hS => ?_)
  refine lv_if_ne (tgt := 21) hx hb dX2_freeWay_8 (by decide) (fun c_1 => ?_) (fun c_1 => ?_)
  · have c_1 := b1_t c_1
    refine lv_aload_n hx hb dX2_freeWay_21 rfl (lv_at hl 0 rfl) ?_
    refine lv_iload_n hx hb dX2_freeWay_22 rfl (lv_at hl 1 rfl) ?_
    refine lv_iload_n hx hb dX2_freeWay_23 rfl (lv_at hl 2 rfl) ?_
    refine ro_i (va_runV (As := [.int v_g, .int f_g]) (rest := []) ⟨hx, hb, hml, hown, hts⟩ ((c_X2_wayNow l G cI cZ cJ a _ X v_g f_g hn)) (cwV 2 hts gX2_freeWay_X2_wayNow rfl rfl rfl (by decide +kernel) ⟨Nat.le_of_ble_eq_true rfl, Nat.le_of_ble_eq_true rfl⟩) ⟨ro_blind, va_recv hK hP (ci := 2) (q0 := 0) rfl rfl, ro_pre hP hK hN⟩ rfl rfl hl.1 rfl (lv_room (Nat.le_of_ble_eq_true rfl)) dX2_freeWay_24 ⟨Nat.zero_le _, Nat.zero_le _⟩) hS hA hP (fun H locs hP hS => ?_)
    exact W.iret (v := (j_way X v_g f_g)) hx hb hr (fun t ht hW => ⟨⟨(j_way X v_g f_g), (), rfl, rfl, trivial⟩, hS.F ht⟩) hS.2.2 dX2_freeWay_27
  · have c_1 := b1_f c_1
    have h9 : has_th X v_g = 1 := by rw [has_th, if_neg c_1]
    exact absurd (h9.symm.trans hok) (by decide)

theorem in_X2_at_2 : ∀ w ∈ wsX20, w ∈ wsX2_at := by decide +kernel
set_option maxHeartbeats 4000000 in
set_option maxRecDepth 100000 in
/-- RampJam.at -/
theorem c_X2_at (l : Launch) (G : va_G) (cI cZ cJ : ClassId) (a : Nat → Nat) (sz : Nat) (X : XS) (r_g : Int32) (q_g : Int32) (hn : y_n (x_Y X) ≤ 9) (hok : at_th r_g q_g = 0) : Met l yX2_at wsX2_at ({ frames := 3, cells := 0, slots := 0, locals := 68 }) (ro_Pc G [(cI, .int), (cZ, .boolean), (cJ, .long)] (wJ cI cZ cJ a (x_J X) (x_S X) (x_Y X)) sz [.ref (a 0), .int r_g, .int q_g]) (ro_Qi (y_on (x_Y X) (j_po (x_J X)) (co r_g q_g) (y_n (x_Y X)) 0) sz) 0 0 (ro_A sz) := by
  refine Met.ofW (cc := cX2_at) (maxL := 3) (ret := (some .int)) (by decide) rfl ?_
  intro p e s m args below meth c s₁ B hml hv
  obtain ⟨rfl, hsz, hP, hK, hN⟩ := hv
  have hx := B.exec
  have hb := B.bytes
  have hr := B.returns
  have hts := atoms_spec (ws := wsX2_at) B.pre
  have hown : s.vm.findClass RX2 = some m.cls := findClass_of_methodNamed B.named
  have hlocks := B.notSynchronized
  subst hsz
  have hA : ∀ q : Nat, s.heap.size ≤ q → (ro_A s.heap.size) q := fun _ h => h
  have hS : va_S (ro_A s.heap.size) s.heap s.heap [] := va_S.rf
  have hP : va_P G vwCl [((a 0), .inr (2, [.ref (a 6), .ref (a 1), .int (j_pp (x_J X)), .int (j_po (x_J X)), .int (j_mc (x_J X)), .int (j_dc (x_J X)), .int (j_is (x_J X))])), ((a 1), .inr (0, [.ref (a 6), .ref (a 2), .ref (a 3), .ref (a 4), .ref (a 5), .int (s_fc (x_S X)), .int (s_fs (x_S X)), .int (s_sm (x_S X)), .int (s_sc (x_S X)), .int (s_sf (x_S X))])), ((a 2), .inl (cI, 800, .inl (s_fo (x_S X)))), ((a 3), .inl (cI, 800, .inl (s_or (x_S X)))), ((a 4), .inl (cI, 800, .inl (s_mo (x_S X)))), ((a 5), .inl (cI, 2048, .inl (s_sl (x_S X)))), ((a 6), .inr (1, [.ref (a 7), .ref (a 8), .ref (a 9), .ref (a 10), .int (nI (y_n (x_Y X))), .long (y_rp (x_Y X))])), ((a 7), .inl (cI, 9, .inl (y_sz (x_Y X)))), ((a 8), .inl (cZ, 9, .inl (y_ac (x_Y X)))), ((a 9), .inl (cI, 9, .inl (y_li (x_Y X)))), ((a 10), .inl (cJ, 9, .inr (.inl (y_sh (x_Y X)))))] s.heap := hP
  have hl := lv_entry ([.ref (a 0), .int r_g, .int q_g]) (n := 3) (Nat.le_of_ble_eq_true rfl)
  rw [lg_entry_eq]
  generalize (lg_sl ([.ref (a 0), .int r_g, .int q_g]) ++ List.replicate (3 - (lg_sl ([.ref (a 0), .int r_g, .int q_g])).length) Slot.unset).toArray = ls at hl ⊢
  have hl : lv_has ls 3 [(0, .ref (a 0)), (1, .int r_g), (2, .int q_g)] := hl
  refine lv_iload_n hx hb dX2_at_0 rfl (lv_at hl 1 rfl) ?_
  refine lv_iload_n hx hb dX2_at_1 rfl (lv_at hl 2 rfl) ?_
  refine ro_i (va_runS (As := [.int r_g, .int q_g]) (rest := []) ⟨hx, hb, hml, hown, hts⟩ ((c_X2_isInYard l G cI cZ cJ a _ r_g q_g)) (va_cwS 2 hts gX2_at_X2_isInYard rfl rfl rfl (by decide +kernel) ⟨Nat.le_of_ble_eq_true rfl, Nat.le_of_ble_eq_true rfl⟩) ⟨ro_blind, ro_pre va_P0 hK hN⟩ rfl rfl hl.1 rfl (lv_room (Nat.le_of_ble_eq_true rfl)) dX2_at_2 ⟨Nat.zero_le _, Nat.zero_le _⟩) hS hA hP (fun H locs hP hS => ?_)
  refine lv_if_ne (tgt := 18) hx hb dX2_at_5 (by decide) (fun c_1 => ?_) (fun c_1 => ?_)
  · have c_1 := b1_t c_1
    refine lv_aload_n hx hb dX2_at_18 rfl (lv_at hl 0 rfl) ?_
    refine va_get (D := G) (ci := 2) (v := .ref (a 6)) (C := RX2) (T := TX2) (N := 7) hx hb hts in_X2_at_2 hown hK hP 0 rfl rfl 0 (by decide) (hts (.fieldLink RX2 10 "RampJam" "yard" "LRampJam$Yard;") (by decide +kernel)) (fun _ h9 => h9) rfl dX2_at_19 ?_
    refine lv_aload_n hx hb dX2_at_22 rfl (lv_at hl 0 rfl) ?_
    refine va_get (D := G) (ci := 2) (v := .int (j_po (x_J X))) (C := RX2) (T := TX2) (N := 7) hx hb hts in_X2_at_2 hown hK hP 0 rfl rfl 3 (by decide) (hts (.fieldLink RX2 57 "RampJam" "position" "I") (by decide +kernel)) (fun _ h9 => h9) rfl dX2_at_23 ?_
    refine lv_iload_n hx hb dX2_at_26 rfl (lv_at hl 1 rfl) ?_
    refine lv_iload_n hx hb dX2_at_27 rfl (lv_at hl 2 rfl) ?_
    refine ro_l (va_runS (As := [.int r_g, .int q_g]) (rest := [.int (j_po (x_J X)), .ref (a 6)]) ⟨hx, hb, hml, hown, hts⟩ ((c_X2_cellOf l G cI cZ cJ a _ r_g q_g)) (va_cwS 2 hts gX2_at_X2_cellOf rfl rfl rfl (by decide +kernel) ⟨Nat.le_of_ble_eq_true rfl, Nat.le_of_ble_eq_true rfl⟩) ⟨ro_blind, ro_pre va_P0 hK hN⟩ rfl rfl hl.1 rfl (lv_room (Nat.le_of_ble_eq_true rfl)) dX2_at_28 ⟨Nat.zero_le _, Nat.zero_le _⟩) hS hA hP (fun H locs hP hS => ?_)
    have hPc := hP.sub (ws' := [((a 6), .inr (1, [.ref (a 7), .ref (a 8), .ref (a 9), .ref (a 10), .int (nI (y_n (x_Y X))), .long (y_rp (x_Y X))])), ((a 7), .inl (cI, 9, .inl (y_sz (x_Y X)))), ((a 8), .inl (cZ, 9, .inl (y_ac (x_Y X)))), ((a 9), .inl (cI, 9, .inl (y_li (x_Y X)))), ((a 10), .inl (cJ, 9, .inr (.inl (y_sh (x_Y X)))))]) [6, 7, 8, 9, 10] rfl
    refine ro_i (va_runV (As := [.int (j_po (x_J X)), .long (co r_g q_g)]) (rest := []) ⟨hx, hb, hml, hown, hts⟩ ((c_X1_vehicleOn l G cI cZ cJ a _ (x_Y X) (j_po (x_J X)) (co r_g q_g) hn)) (cwV 2 hts gX2_at_X1_vehicleOn rfl rfl rfl (by decide +kernel) ⟨Nat.le_of_ble_eq_true rfl, Nat.le_of_ble_eq_true rfl⟩) ⟨ro_blind, va_recv hK hPc (ci := 1) (q0 := 0) rfl rfl, ro_pre hPc hK hN⟩ rfl rfl hl.1 rfl (lv_room (Nat.le_of_ble_eq_true rfl)) dX2_at_31 ⟨Nat.zero_le _, Nat.zero_le _⟩) hS hA hP (fun H locs hP hS => ?_)
    exact W.iret (v := (y_on (x_Y X) (j_po (x_J X)) (co r_g q_g) (y_n (x_Y X)) 0)) hx hb hr (fun t ht hW => ⟨⟨(y_on (x_Y X) (j_po (x_J X)) (co r_g q_g) (y_n (x_Y X)) 0), (), rfl, rfl, trivial⟩, hS.F ht⟩) hS.2.2 dX2_at_34
  · have c_1 := b1_f c_1
    have h9 : at_th r_g q_g = 1 := by rw [at_th, if_neg c_1]
    exact absurd (h9.symm.trans hok) (by decide)

theorem in_X2_ramp_2 : ∀ w ∈ wsX20, w ∈ wsX2_ramp := by decide +kernel
set_option maxHeartbeats 4000000 in
set_option maxRecDepth 100000 in
/-- RampJam.ramp -/
theorem c_X2_ramp (l : Launch) (G : va_G) (cI cZ cJ : ClassId) (a : Nat → Nat) (sz : Nat) (X : XS) (r_g : Int32) (q_g : Int32) (hn : y_n (x_Y X) ≤ 9) (hok : ramp_th X r_g q_g = 0) : Met l yX2_ramp wsX2_ramp ({ frames := 3, cells := 0, slots := 0, locals := 68 }) (rw_Pc G [(cI, .int), (cZ, .boolean), (cJ, .long)] (wJ cI cZ cJ a (x_J X) (x_S X) (x_Y X)) sz [.ref (a 0), .int r_g, .int q_g]) (rw_Qv (S := XS) (x_ramp X r_g q_g) (fun u : XS => wJ cI cZ cJ a (x_J u) (x_S u) (x_Y u)) G (wJ cI cZ cJ a (x_J X) (x_S X) (x_Y X)) sz) 0 0 (va_A (wJ cI cZ cJ a (x_J X) (x_S X) (x_Y X)) sz) := by
  refine Met.ofW (cc := cX2_ramp) (maxL := 5) (ret := none) (by decide) rfl ?_
  intro p e s m args below meth c s₁ B hml hv
  obtain ⟨rfl, hsz, hP, hK, hD0, hN⟩ := hv
  have hx := B.exec
  have hb := B.bytes
  have hr := B.returns
  have hts := atoms_spec (ws := wsX2_ramp) B.pre
  have hown : s.vm.findClass RX2 = some m.cls := findClass_of_methodNamed B.named
  have hlocks := B.notSynchronized
  subst hsz
  have hD0 : va_D (fun _ => True) [((a 0), .inr (2, [.ref (a 6), .ref (a 1), .int (j_pp (x_J X)), .int (j_po (x_J X)), .int (j_mc (x_J X)), .int (j_dc (x_J X)), .int (j_is (x_J X))])), ((a 1), .inr (0, [.ref (a 6), .ref (a 2), .ref (a 3), .ref (a 4), .ref (a 5), .int (s_fc (x_S X)), .int (s_fs (x_S X)), .int (s_sm (x_S X)), .int (s_sc (x_S X)), .int (s_sf (x_S X))])), ((a 2), .inl (cI, 800, .inl (s_fo (x_S X)))), ((a 3), .inl (cI, 800, .inl (s_or (x_S X)))), ((a 4), .inl (cI, 800, .inl (s_mo (x_S X)))), ((a 5), .inl (cI, 2048, .inl (s_sl (x_S X)))), ((a 6), .inr (1, [.ref (a 7), .ref (a 8), .ref (a 9), .ref (a 10), .int (nI (y_n (x_Y X))), .long (y_rp (x_Y X))])), ((a 7), .inl (cI, 9, .inl (y_sz (x_Y X)))), ((a 8), .inl (cZ, 9, .inl (y_ac (x_Y X)))), ((a 9), .inl (cI, 9, .inl (y_li (x_Y X)))), ((a 10), .inl (cJ, 9, .inr (.inl (y_sh (x_Y X)))))] := hD0
  have hD := hD0.self (sz := s.heap.size)
  unfold rw_Qv
  generalize hAe : va_A (wJ cI cZ cJ a (x_J X) (x_S X) (x_Y X)) s.heap.size = A at hD ⊢
  have hA : ∀ q : Nat, s.heap.size ≤ q → A q := fun q h => by rw [← hAe]; exact Or.inr h
  have hS : va_S A s.heap s.heap [] := va_S.rf
  have hP : va_P G vwCl [((a 0), .inr (2, [.ref (a 6), .ref (a 1), .int (j_pp (x_J X)), .int (j_po (x_J X)), .int (j_mc (x_J X)), .int (j_dc (x_J X)), .int (j_is (x_J X))])), ((a 1), .inr (0, [.ref (a 6), .ref (a 2), .ref (a 3), .ref (a 4), .ref (a 5), .int (s_fc (x_S X)), .int (s_fs (x_S X)), .int (s_sm (x_S X)), .int (s_sc (x_S X)), .int (s_sf (x_S X))])), ((a 2), .inl (cI, 800, .inl (s_fo (x_S X)))), ((a 3), .inl (cI, 800, .inl (s_or (x_S X)))), ((a 4), .inl (cI, 800, .inl (s_mo (x_S X)))), ((a 5), .inl (cI, 2048, .inl (s_sl (x_S X)))), ((a 6), .inr (1, [.ref (a 7), .ref (a 8), .ref (a 9), .ref (a 10), .int (nI (y_n (x_Y X))), .long (y_rp (x_Y X))])), ((a 7), .inl (cI, 9, .inl (y_sz (x_Y X)))), ((a 8), .inl (cZ, 9, .inl (y_ac (x_Y X)))), ((a 9), .inl (cI, 9, .inl (y_li (x_Y X)))), ((a 10), .inl (cJ, 9, .inr (.inl (y_sh (x_Y X)))))] s.heap := hP
  have hl := lv_entry ([.ref (a 0), .int r_g, .int q_g]) (n := 5) (Nat.le_of_ble_eq_true rfl)
  rw [lg_entry_eq]
  generalize (lg_sl ([.ref (a 0), .int r_g, .int q_g]) ++ List.replicate (5 - (lg_sl ([.ref (a 0), .int r_g, .int q_g])).length) Slot.unset).toArray = ls at hl ⊢
  have hl : lv_has ls 5 [(0, .ref (a 0)), (1, .int r_g), (2, .int q_g)] := hl
  refine lv_iload_n hx hb dX2_ramp_0 rfl (lv_at hl 1 rfl) ?_
  refine lv_iload_n hx hb dX2_ramp_1 rfl (lv_at hl 2 rfl) ?_
  refine ro_i (va_runS (As := [.int r_g, .int q_g]) (rest := []) ⟨hx, hb, hml, hown, hts⟩ ((c_X2_isInYard l G cI cZ cJ a _ r_g q_g)) (va_cwS 2 hts gX2_ramp_X2_isInYard rfl rfl rfl (by decide +kernel) ⟨Nat.le_of_ble_eq_true rfl, Nat.le_of_ble_eq_true rfl⟩) ⟨ro_blind, ro_pre va_P0 hK hN⟩ rfl rfl hl.1 rfl (lv_room (Nat.le_of_ble_eq_true rfl)) dX2_ramp_2 ⟨Nat.zero_le _, Nat.zero_le _⟩) hS hA hP (fun H locs hP hS => ?_)
  refine lv_if_ne (tgt := 18) hx hb dX2_ramp_5 (by decide) (fun c_1 => ?_) (fun c_1 => ?_)
  · have c_1 := b1_t c_1
    refine lv_aload_n hx hb dX2_ramp_18 rfl (lv_at hl 0 rfl) ?_
    refine va_get (D := G) (ci := 2) (v := .int (j_mc (x_J X))) (C := RX2) (T := TX2) (N := 7) hx hb hts in_X2_ramp_2 hown hK hP 0 rfl rfl 4 (by decide) (hts (.fieldLink RX2 44 "RampJam" "moveCount" "I") (by decide +kernel)) (fun _ h9 => h9) rfl dX2_ramp_19 ?_
    refine lv_if_le (tgt := 35) hx hb dX2_ramp_22 (by decide) (fun c_2 => ?_) (fun c_2 => ?_)
    · refine lv_iload_n hx hb dX2_ramp_35 rfl (lv_at hl 1 rfl) ?_
      refine lv_iload_n hx hb dX2_ramp_36 rfl (lv_at hl 2 rfl) ?_
      refine ro_l (va_runS (As := [.int r_g, .int q_g]) (rest := []) ⟨hx, hb, hml, hown, hts⟩ ((c_X2_cellOf l G cI cZ cJ a _ r_g q_g)) (va_cwS 2 hts gX2_ramp_X2_cellOf rfl rfl rfl (by decide +kernel) ⟨Nat.le_of_ble_eq_true rfl, Nat.le_of_ble_eq_true rfl⟩) ⟨ro_blind, ro_pre va_P0 hK hN⟩ rfl rfl hl.1 rfl (lv_room (Nat.le_of_ble_eq_true rfl)) dX2_ramp_37 ⟨Nat.zero_le _, Nat.zero_le _⟩) hS hA hP (fun H locs hP hS => ?_)
      refine lv_lstore_n (lv' := [(3, .long (co r_g q_g)), (0, .ref (a 0)), (1, .int r_g), (2, .int q_g)]) hx hb dX2_ramp_40 rfl hl (by decide) rfl (fun ls hl => ?_)
      refine lv_aload_n hx hb dX2_ramp_41 rfl (lv_at hl 1 rfl) ?_
      refine va_get (D := G) (ci := 2) (v := .ref (a 6)) (C := RX2) (T := TX2) (N := 7) hx hb hts in_X2_ramp_2 hown hK hP 0 rfl rfl 0 (by decide) (hts (.fieldLink RX2 10 "RampJam" "yard" "LRampJam$Yard;") (by decide +kernel)) (fun _ h9 => h9) rfl dX2_ramp_42 ?_
      refine lv_aload_n hx hb dX2_ramp_45 rfl (lv_at hl 1 rfl) ?_
      refine va_get (D := G) (ci := 2) (v := .ref (a 6)) (C := RX2) (T := TX2) (N := 7) hx hb hts in_X2_ramp_2 hown hK hP 0 rfl rfl 0 (by decide) (hts (.fieldLink RX2 10 "RampJam" "yard" "LRampJam$Yard;") (by decide +kernel)) (fun _ h9 => h9) rfl dX2_ramp_46 ?_
      refine lv_aload_n hx hb dX2_ramp_49 rfl (lv_at hl 1 rfl) ?_
      refine va_get (D := G) (ci := 2) (v := .int (j_po (x_J X))) (C := RX2) (T := TX2) (N := 7) hx hb hts in_X2_ramp_2 hown hK hP 0 rfl rfl 3 (by decide) (hts (.fieldLink RX2 57 "RampJam" "position" "I") (by decide +kernel)) (fun _ h9 => h9) rfl dX2_ramp_50 ?_
      refine lv_lload_n hx hb dX2_ramp_53 rfl (lv_at hl 0 rfl) ?_
      have hPc := hP.sub (ws' := [((a 6), .inr (1, [.ref (a 7), .ref (a 8), .ref (a 9), .ref (a 10), .int (nI (y_n (x_Y X))), .long (y_rp (x_Y X))])), ((a 7), .inl (cI, 9, .inl (y_sz (x_Y X)))), ((a 8), .inl (cZ, 9, .inl (y_ac (x_Y X)))), ((a 9), .inl (cI, 9, .inl (y_li (x_Y X)))), ((a 10), .inl (cJ, 9, .inr (.inl (y_sh (x_Y X)))))]) [6, 7, 8, 9, 10] rfl
      refine ro_i (va_runV (As := [.int (j_po (x_J X)), .long (co r_g q_g)]) (rest := [.ref (a 6)]) ⟨hx, hb, hml, hown, hts⟩ ((c_X1_vehicleOn l G cI cZ cJ a _ (x_Y X) (j_po (x_J X)) (co r_g q_g) hn)) (cwV 2 hts gX2_ramp_X1_vehicleOn rfl rfl rfl (by decide +kernel) ⟨Nat.le_of_ble_eq_true rfl, Nat.le_of_ble_eq_true rfl⟩) ⟨ro_blind, va_recv hK hPc (ci := 1) (q0 := 0) rfl rfl, ro_pre hPc hK hN⟩ rfl rfl hl.1 rfl (lv_room (Nat.le_of_ble_eq_true rfl)) dX2_ramp_54 ⟨Nat.zero_le _, Nat.zero_le _⟩) hS hA hP (fun H locs hP hS => ?_)
      have hPc := hP.sub (ws' := [((a 6), .inr (1, [.ref (a 7), .ref (a 8), .ref (a 9), .ref (a 10), .int (nI (y_n (x_Y X))), .long (y_rp (x_Y X))])), ((a 7), .inl (cI, 9, .inl (y_sz (x_Y X)))), ((a 8), .inl (cZ, 9, .inl (y_ac (x_Y X)))), ((a 9), .inl (cI, 9, .inl (y_li (x_Y X)))), ((a 10), .inl (cJ, 9, .inr (.inl (y_sh (x_Y X)))))]) [6, 7, 8, 9, 10] rfl
      refine ro_i (va_runV (As := [.int (y_on (x_Y X) (j_po (x_J X)) (co r_g q_g) (y_n (x_Y X)) 0)]) (rest := []) ⟨hx, hb, hml, hown, hts⟩ ((c_X1_isLorry l G cI cZ cJ a _ (x_Y X) (y_on (x_Y X) (j_po (x_J X)) (co r_g q_g) (y_n (x_Y X)) 0))) (cwV 1 hts gX2_ramp_X1_isLorry rfl rfl rfl (by decide +kernel) ⟨Nat.le_of_ble_eq_true rfl, Nat.le_of_ble_eq_true rfl⟩) ⟨ro_blind, va_recv hK hPc (ci := 1) (q0 := 0) rfl rfl, ro_pre hPc hK hN⟩ rfl rfl hl.1 rfl (lv_room (Nat.le_of_ble_eq_true rfl)) dX2_ramp_57 ⟨Nat.zero_le _, Nat.zero_le _⟩) hS hA hP (fun H locs hP hS => ?_)
      refine lv_if_eq (tgt := 73) hx hb dX2_ramp_60 (by decide) (fun c_3 => ?_) (fun c_3 => ?_)
      · have c_3 := b1_f c_3
        refine lv_aload_n hx hb dX2_ramp_73 rfl (lv_at hl 1 rfl) ?_
        refine va_get (D := G) (ci := 2) (v := .ref (a 6)) (C := RX2) (T := TX2) (N := 7) hx hb hts in_X2_ramp_2 hown hK hP 0 rfl rfl 0 (by decide) (hts (.fieldLink RX2 10 "RampJam" "yard" "LRampJam$Yard;") (by decide +kernel)) (fun _ h9 => h9) rfl dX2_ramp_74 ?_
        refine lv_lload_n hx hb dX2_ramp_77 rfl (lv_at hl 0 rfl) ?_
        have hPc := hP.sub (ws' := [((a 6), .inr (1, [.ref (a 7), .ref (a 8), .ref (a 9), .ref (a 10), .int (nI (y_n (x_Y X))), .long (y_rp (x_Y X))])), ((a 7), .inl (cI, 9, .inl (y_sz (x_Y X)))), ((a 8), .inl (cZ, 9, .inl (y_ac (x_Y X)))), ((a 9), .inl (cI, 9, .inl (y_li (x_Y X)))), ((a 10), .inl (cJ, 9, .inr (.inl (y_sh (x_Y X)))))]) [6, 7, 8, 9, 10] rfl
        have hDc := hD.sub (ws' := [((a 6), .inr (1, [.ref (a 7), .ref (a 8), .ref (a 9), .ref (a 10), .int (nI (y_n (x_Y X))), .long (y_rp (x_Y X))])), ((a 7), .inl (cI, 9, .inl (y_sz (x_Y X)))), ((a 8), .inl (cZ, 9, .inl (y_ac (x_Y X)))), ((a 9), .inl (cI, 9, .inl (y_li (x_Y X)))), ((a 10), .inl (cJ, 9, .inr (.inl (y_sh (x_Y X)))))]) [6, 7, 8, 9, 10] (by decide) rfl
        refine rw_v (wr := [((a 0), .inr (2, [.ref (a 6), .ref (a 1), .int (j_pp (x_J X)), .int (j_po (x_J X)), .int (j_mc (x_J X)), .int (j_dc (x_J X)), .int (j_is (x_J X))])), ((a 1), .inr (0, [.ref (a 6), .ref (a 2), .ref (a 3), .ref (a 4), .ref (a 5), .int (s_fc (x_S X)), .int (s_fs (x_S X)), .int (s_sm (x_S X)), .int (s_sc (x_S X)), .int (s_sf (x_S X))])), ((a 2), .inl (cI, 800, .inl (s_fo (x_S X)))), ((a 3), .inl (cI, 800, .inl (s_or (x_S X)))), ((a 4), .inl (cI, 800, .inl (s_mo (x_S X)))), ((a 5), .inl (cI, 2048, .inl (s_sl (x_S X))))]) (ws' := [((a 0), .inr (2, [.ref (a 6), .ref (a 1), .int (j_pp (x_J X)), .int (j_po (x_J X)), .int (j_mc (x_J X)), .int (j_dc (x_J X)), .int (j_is (x_J X))])), ((a 1), .inr (0, [.ref (a 6), .ref (a 2), .ref (a 3), .ref (a 4), .ref (a 5), .int (s_fc (x_S X)), .int (s_fs (x_S X)), .int (s_sm (x_S X)), .int (s_sc (x_S X)), .int (s_sf (x_S X))])), ((a 2), .inl (cI, 800, .inl (s_fo (x_S X)))), ((a 3), .inl (cI, 800, .inl (s_or (x_S X)))), ((a 4), .inl (cI, 800, .inl (s_mo (x_S X)))), ((a 5), .inl (cI, 2048, .inl (s_sl (x_S X)))), ((a 6), .inr (1, [.ref (a 7), .ref (a 8), .ref (a 9), .ref (a 10), .int (nI (y_n (y_put (x_Y X) (co r_g q_g)))), .long (y_rp (y_put (x_Y X) (co r_g q_g)))])), ((a 7), .inl (cI, 9, .inl (y_sz (y_put (x_Y X) (co r_g q_g))))), ((a 8), .inl (cZ, 9, .inl (y_ac (y_put (x_Y X) (co r_g q_g))))), ((a 9), .inl (cI, 9, .inl (y_li (y_put (x_Y X) (co r_g q_g))))), ((a 10), .inl (cJ, 9, .inr (.inl (y_sh (y_put (x_Y X) (co r_g q_g))))))]) (va_runV (As := [.long (co r_g q_g)]) (rest := []) ⟨hx, hb, hml, hown, hts⟩ ((c_X1_putRamp l G cI cZ cJ a _ (x_Y X) (co r_g q_g))) (cwV 1 hts gX2_ramp_X1_putRamp rfl rfl rfl (by decide +kernel) ⟨Nat.le_of_ble_eq_true rfl, Nat.le_of_ble_eq_true rfl⟩) ⟨rw_blind, va_recv hK hPc (ci := 1) (q0 := 0) rfl rfl, rw_pre hPc hDc hK hN⟩ rfl rfl hl.1 rfl (lv_room (Nat.le_of_ble_eq_true rfl)) dX2_ramp_78 ⟨Nat.zero_le _, Nat.zero_le _⟩) hS hA hP hD [6, 7, 8, 9, 10] [0, 1, 2, 3, 4, 5] [0, 1, 2, 3, 4, 5, 6, 7, 8, 9, 10] rfl rfl (by decide) (by decide) rfl (by decide) (fun H locs hP hD hS => ?_)
        refine lv_aload_n hx hb dX2_ramp_81 rfl (lv_at hl 1 rfl) ?_
        refine lv_iconst (v := 0) hx hb dX2_ramp_82 (by decide) ?_
        refine va_put (D := G) (ci := 2) (v := .int 0) (ty := .boolean) (C := RX2) (T := TX2) (N := 7) hx hb hts in_X2_ramp_2 tyX2 tyX2_ok nmX2 hown hK hP hD hS 0 rfl rfl 6 (by decide) (hts (.fieldLink RX2 106 "RampJam" "isSearched" "Z") (by decide +kernel)) (fun _ h9 => h9) rfl (by decide +kernel) rfl rfl (Nat.le_of_ble_eq_true rfl) dX2_ramp_83 (fun H locs hP hD hS => ?_)
        have hP : va_P G vwCl [((a 0), .inr (2, [.ref (a 6), .ref (a 1), .int (j_pp (x_J X)), .int (j_po (x_J X)), .int (j_mc (x_J X)), .int (j_dc (x_J X)), .int 0])), ((a 1), .inr (0, [.ref (a 6), .ref (a 2), .ref (a 3), .ref (a 4), .ref (a 5), .int (s_fc (x_S X)), .int (s_fs (x_S X)), .int (s_sm (x_S X)), .int (s_sc (x_S X)), .int (s_sf (x_S X))])), ((a 2), .inl (cI, 800, .inl (s_fo (x_S X)))), ((a 3), .inl (cI, 800, .inl (s_or (x_S X)))), ((a 4), .inl (cI, 800, .inl (s_mo (x_S X)))), ((a 5), .inl (cI, 2048, .inl (s_sl (x_S X)))), ((a 6), .inr (1, [.ref (a 7), .ref (a 8), .ref (a 9), .ref (a 10), .int (nI (y_n (y_put (x_Y X) (co r_g q_g)))), .long (y_rp (y_put (x_Y X) (co r_g q_g)))])), ((a 7), .inl (cI, 9, .inl (y_sz (y_put (x_Y X) (co r_g q_g))))), ((a 8), .inl (cZ, 9, .inl (y_ac (y_put (x_Y X) (co r_g q_g))))), ((a 9), .inl (cI, 9, .inl (y_li (y_put (x_Y X) (co r_g q_g))))), ((a 10), .inl (cJ, 9, .inr (.inl (y_sh (y_put (x_Y X) (co r_g q_g))))))] H := hP
        have hD : va_D A [((a 0), .inr (2, [.ref (a 6), .ref (a 1), .int (j_pp (x_J X)), .int (j_po (x_J X)), .int (j_mc (x_J X)), .int (j_dc (x_J X)), .int 0])), ((a 1), .inr (0, [.ref (a 6), .ref (a 2), .ref (a 3), .ref (a 4), .ref (a 5), .int (s_fc (x_S X)), .int (s_fs (x_S X)), .int (s_sm (x_S X)), .int (s_sc (x_S X)), .int (s_sf (x_S X))])), ((a 2), .inl (cI, 800, .inl (s_fo (x_S X)))), ((a 3), .inl (cI, 800, .inl (s_or (x_S X)))), ((a 4), .inl (cI, 800, .inl (s_mo (x_S X)))), ((a 5), .inl (cI, 2048, .inl (s_sl (x_S X)))), ((a 6), .inr (1, [.ref (a 7), .ref (a 8), .ref (a 9), .ref (a 10), .int (nI (y_n (y_put (x_Y X) (co r_g q_g)))), .long (y_rp (y_put (x_Y X) (co r_g q_g)))])), ((a 7), .inl (cI, 9, .inl (y_sz (y_put (x_Y X) (co r_g q_g))))), ((a 8), .inl (cZ, 9, .inl (y_ac (y_put (x_Y X) (co r_g q_g))))), ((a 9), .inl (cI, 9, .inl (y_li (y_put (x_Y X) (co r_g q_g))))), ((a 10), .inl (cJ, 9, .inr (.inl (y_sh (y_put (x_Y X) (co r_g q_g))))))] := hD
        have hP9 := hP
        have hD9 := hD
        exact W.vret hx hb hr (fun t ht hW => ⟨⟨(((j_pp (x_J X)), (j_po (x_J X)), (j_mc (x_J X)), (j_dc (x_J X)), 0), (x_S X), (y_put (x_Y X) (co r_g q_g))), rfl, rfl, by rw [ht]; exact hP9, hD9⟩, hS.F ht⟩) hS.2.2 dX2_ramp_86
      · have c_3 := b1_t c_3
        have h9 : ramp_th X r_g q_g = 2 := by rw [ramp_th, if_neg (not_not_intro c_1), if_neg (not_not_intro c_2), if_pos c_3]
        exact absurd (h9.symm.trans hok) (by decide)
    · have h9 : ramp_th X r_g q_g = 2 := by rw [ramp_th, if_neg (not_not_intro c_1), if_pos c_2]
      exact absurd (h9.symm.trans hok) (by decide)
  · have c_1 := b1_f c_1
    have h9 : ramp_th X r_g q_g = 1 := by rw [ramp_th, if_pos c_1]
    exact absurd (h9.symm.trans hok) (by decide)

theorem in_X2_drive_2 : ∀ w ∈ wsX20, w ∈ wsX2_drive := by decide +kernel
set_option maxHeartbeats 4000000 in
set_option maxRecDepth 100000 in
/-- RampJam.drive -/
theorem c_X2_drive (l : Launch) (G : va_G) (cI cZ cJ : ClassId) (a : Nat → Nat) (sz : Nat) (X : XS) (v_g : Int32) (c_g : Int32) (hn : y_n (x_Y X) ≤ 9) (hok : drive_th X v_g c_g = 0) : Met l yX2_drive wsX2_drive ({ frames := 4, cells := 0, slots := 0, locals := 99 }) (rw_Pc G [(cI, .int), (cZ, .boolean), (cJ, .long)] (wJ cI cZ cJ a (x_J X) (x_S X) (x_Y X)) sz [.ref (a 0), .int v_g, .int c_g]) (rw_Qv (S := XS) (x_move X v_g c_g) (fun u : XS => wJ cI cZ cJ a (x_J u) (x_S u) (x_Y u)) G (wJ cI cZ cJ a (x_J X) (x_S X) (x_Y X)) sz) 0 0 (va_A (wJ cI cZ cJ a (x_J X) (x_S X) (x_Y X)) sz) := by
  refine Met.ofW (cc := cX2_drive) (maxL := 3) (ret := none) (by decide) rfl ?_
  intro p e s m args below meth c s₁ B hml hv
  obtain ⟨rfl, hsz, hP, hK, hD0, hN⟩ := hv
  have hx := B.exec
  have hb := B.bytes
  have hr := B.returns
  have hts := atoms_spec (ws := wsX2_drive) B.pre
  have hown : s.vm.findClass RX2 = some m.cls := findClass_of_methodNamed B.named
  have hlocks := B.notSynchronized
  subst hsz
  have hD0 : va_D (fun _ => True) [((a 0), .inr (2, [.ref (a 6), .ref (a 1), .int (j_pp (x_J X)), .int (j_po (x_J X)), .int (j_mc (x_J X)), .int (j_dc (x_J X)), .int (j_is (x_J X))])), ((a 1), .inr (0, [.ref (a 6), .ref (a 2), .ref (a 3), .ref (a 4), .ref (a 5), .int (s_fc (x_S X)), .int (s_fs (x_S X)), .int (s_sm (x_S X)), .int (s_sc (x_S X)), .int (s_sf (x_S X))])), ((a 2), .inl (cI, 800, .inl (s_fo (x_S X)))), ((a 3), .inl (cI, 800, .inl (s_or (x_S X)))), ((a 4), .inl (cI, 800, .inl (s_mo (x_S X)))), ((a 5), .inl (cI, 2048, .inl (s_sl (x_S X)))), ((a 6), .inr (1, [.ref (a 7), .ref (a 8), .ref (a 9), .ref (a 10), .int (nI (y_n (x_Y X))), .long (y_rp (x_Y X))])), ((a 7), .inl (cI, 9, .inl (y_sz (x_Y X)))), ((a 8), .inl (cZ, 9, .inl (y_ac (x_Y X)))), ((a 9), .inl (cI, 9, .inl (y_li (x_Y X)))), ((a 10), .inl (cJ, 9, .inr (.inl (y_sh (x_Y X)))))] := hD0
  have hD := hD0.self (sz := s.heap.size)
  unfold rw_Qv
  generalize hAe : va_A (wJ cI cZ cJ a (x_J X) (x_S X) (x_Y X)) s.heap.size = A at hD ⊢
  have hA : ∀ q : Nat, s.heap.size ≤ q → A q := fun q h => by rw [← hAe]; exact Or.inr h
  have hS : va_S A s.heap s.heap [] := va_S.rf
  have hP : va_P G vwCl [((a 0), .inr (2, [.ref (a 6), .ref (a 1), .int (j_pp (x_J X)), .int (j_po (x_J X)), .int (j_mc (x_J X)), .int (j_dc (x_J X)), .int (j_is (x_J X))])), ((a 1), .inr (0, [.ref (a 6), .ref (a 2), .ref (a 3), .ref (a 4), .ref (a 5), .int (s_fc (x_S X)), .int (s_fs (x_S X)), .int (s_sm (x_S X)), .int (s_sc (x_S X)), .int (s_sf (x_S X))])), ((a 2), .inl (cI, 800, .inl (s_fo (x_S X)))), ((a 3), .inl (cI, 800, .inl (s_or (x_S X)))), ((a 4), .inl (cI, 800, .inl (s_mo (x_S X)))), ((a 5), .inl (cI, 2048, .inl (s_sl (x_S X)))), ((a 6), .inr (1, [.ref (a 7), .ref (a 8), .ref (a 9), .ref (a 10), .int (nI (y_n (x_Y X))), .long (y_rp (x_Y X))])), ((a 7), .inl (cI, 9, .inl (y_sz (x_Y X)))), ((a 8), .inl (cZ, 9, .inl (y_ac (x_Y X)))), ((a 9), .inl (cI, 9, .inl (y_li (x_Y X)))), ((a 10), .inl (cJ, 9, .inr (.inl (y_sh (x_Y X)))))] s.heap := hP
  have hl := lv_entry ([.ref (a 0), .int v_g, .int c_g]) (n := 3) (Nat.le_of_ble_eq_true rfl)
  rw [lg_entry_eq]
  generalize (lg_sl ([.ref (a 0), .int v_g, .int c_g]) ++ List.replicate (3 - (lg_sl ([.ref (a 0), .int v_g, .int c_g])).length) Slot.unset).toArray = ls at hl ⊢
  have hl : lv_has ls 3 [(0, .ref (a 0)), (1, .int v_g), (2, .int c_g)] := hl
  refine lv_aload_n hx hb dX2_drive_0 rfl (lv_at hl 0 rfl) ?_
  refine va_get (D := G) (ci := 2) (v := .ref (a 6)) (C := RX2) (T := TX2) (N := 7) hx hb hts in_X2_drive_2 hown hK hP 0 rfl rfl 0 (by decide) (hts (.fieldLink RX2 10 "RampJam" "yard" "LRampJam$Yard;") (by decide +kernel)) (fun _ h9 => h9) rfl dX2_drive_1 ?_
  refine lv_iload_n hx hb dX2_drive_4 rfl (lv_at hl 1 rfl) ?_
  have hPc := hP.sub (ws' := [((a 6), .inr (1, [.ref (a 7), .ref (a 8), .ref (a 9), .ref (a 10), .int (nI (y_n (x_Y X))), .long (y_rp (x_Y X))])), ((a 7), .inl (cI, 9, .inl (y_sz (x_Y X)))), ((a 8), .inl (cZ, 9, .inl (y_ac (x_Y X)))), ((a 9), .inl (cI, 9, .inl (y_li (x_Y X)))), ((a 10), .inl (cJ, 9, .inr (.inl (y_sh (x_Y X)))))]) [6, 7, 8, 9, 10] rfl
  refine ro_i (va_runV (As := [.int v_g]) (rest := []) ⟨hx, hb, hml, hown, hts⟩ ((c_X1_has l G cI cZ cJ a _ (x_Y X) v_g)) (cwV 1 hts gX2_drive_X1_has rfl rfl rfl (by decide +kernel) ⟨Nat.le_of_ble_eq_true rfl, Nat.le_of_ble_eq_true rfl⟩) ⟨ro_blind, va_recv hK hPc (ci := 1) (q0 := 0) rfl rfl, ro_pre hPc hK hN⟩ rfl rfl hl.1 rfl (lv_room (Nat.le_of_ble_eq_true rfl)) dX2_drive_5 ⟨Nat.zero_le _, Nat.zero_le _⟩) hS hA hP (fun H locs hP hS => ?_)
  refine lv_if_ne (tgt := 21) hx hb dX2_drive_8 (by decide) (fun c_1 => ?_) (fun c_1 => ?_)
  · have c_1 := b1_t c_1
    refine lv_iload_n hx hb dX2_drive_21 rfl (lv_at hl 2 rfl) ?_
    refine lv_bipush (v := (-4)) hx hb dX2_drive_22 (by decide) ?_
    refine lv_icmp_lt (tgt := 36) hx hb dX2_drive_24 (by decide) (fun c_2 => ?_) (fun c_2 => ?_)
    · have h9 : drive_th X v_g c_g = 2 := by rw [drive_th, if_neg (not_not_intro c_1), if_pos (by first | exact Or.inl (by assumption) | exact Or.inr (Or.inl (by assumption)) | exact Or.inr (Or.inr (by assumption)))]
      exact absurd (h9.symm.trans hok) (by decide)
    · refine lv_iload_n hx hb dX2_drive_27 rfl (lv_at hl 2 rfl) ?_
      refine lv_iconst (v := 4) hx hb dX2_drive_28 (by decide) ?_
      refine lv_icmp_gt (tgt := 36) hx hb dX2_drive_29 (by decide) (fun c_3 => ?_) (fun c_3 => ?_)
      · have h9 : drive_th X v_g c_g = 2 := by rw [drive_th, if_neg (not_not_intro c_1), if_pos (by first | exact Or.inl (by assumption) | exact Or.inr (Or.inl (by assumption)) | exact Or.inr (Or.inr (by assumption)))]
        exact absurd (h9.symm.trans hok) (by decide)
      · refine lv_iload_n hx hb dX2_drive_32 rfl (lv_at hl 2 rfl) ?_
        refine lv_if_ne (tgt := 46) hx hb dX2_drive_33 (by decide) (fun c_4 => ?_) (fun c_4 => ?_)
        · refine lv_iload_n hx hb dX2_drive_46 rfl (lv_at hl 2 rfl) ?_
          refine va_mabs hx hb (by rw [hml]; exact hl.1.symm) hown (hts (.methodLink RX2 120 Lib.Math.abs.name) (by decide +kernel)) (hts (.static Lib.Math.abs.name) (by decide +kernel)) (hts (.initialized "java/lang/Math") (by decide +kernel)) (hts (.code Lib.Math.abs.name Lib.Math.abs.code 1 (some .int)) (by decide +kernel)) (Nat.le_of_ble_eq_true rfl) (Nat.le_of_ble_eq_true rfl) (Nat.zero_le _) (Nat.zero_le _) dX2_drive_47 ?_
          have cut_61 : ∀ (f_g : Int32), (f_g = (if c_g ≤ 0 then 0 else 1)) → ∀ (H : Heap) (locs : List Loc), va_P G vwCl [((a 0), .inr (2, [.ref (a 6), .ref (a 1), .int (j_pp (x_J X)), .int (j_po (x_J X)), .int (j_mc (x_J X)), .int (j_dc (x_J X)), .int (j_is (x_J X))])), ((a 1), .inr (0, [.ref (a 6), .ref (a 2), .ref (a 3), .ref (a 4), .ref (a 5), .int (s_fc (x_S X)), .int (s_fs (x_S X)), .int (s_sm (x_S X)), .int (s_sc (x_S X)), .int (s_sf (x_S X))])), ((a 2), .inl (cI, 800, .inl (s_fo (x_S X)))), ((a 3), .inl (cI, 800, .inl (s_or (x_S X)))), ((a 4), .inl (cI, 800, .inl (s_mo (x_S X)))), ((a 5), .inl (cI, 2048, .inl (s_sl (x_S X)))), ((a 6), .inr (1, [.ref (a 7), .ref (a 8), .ref (a 9), .ref (a 10), .int (nI (y_n (x_Y X))), .long (y_rp (x_Y X))])), ((a 7), .inl (cI, 9, .inl (y_sz (x_Y X)))), ((a 8), .inl (cZ, 9, .inl (y_ac (x_Y X)))), ((a 9), .inl (cI, 9, .inl (y_li (x_Y X)))), ((a 10), .inl (cJ, 9, .inr (.inl (y_sh (x_Y X)))))] H → va_D A [((a 0), .inr (2, [.ref (a 6), .ref (a 1), .int (j_pp (x_J X)), .int (j_po (x_J X)), .int (j_mc (x_J X)), .int (j_dc (x_J X)), .int (j_is (x_J X))])), ((a 1), .inr (0, [.ref (a 6), .ref (a 2), .ref (a 3), .ref (a 4), .ref (a 5), .int (s_fc (x_S X)), .int (s_fs (x_S X)), .int (s_sm (x_S X)), .int (s_sc (x_S X)), .int (s_sf (x_S X))])), ((a 2), .inl (cI, 800, .inl (s_fo (x_S X)))), ((a 3), .inl (cI, 800, .inl (s_or (x_S X)))), ((a 4), .inl (cI, 800, .inl (s_mo (x_S X)))), ((a 5), .inl (cI, 2048, .inl (s_sl (x_S X)))), ((a 6), .inr (1, [.ref (a 7), .ref (a 8), .ref (a 9), .ref (a 10), .int (nI (y_n (x_Y X))), .long (y_rp (x_Y X))])), ((a 7), .inl (cI, 9, .inl (y_sz (x_Y X)))), ((a 8), .inl (cZ, 9, .inl (y_ac (x_Y X)))), ((a 9), .inl (cI, 9, .inl (y_li (x_Y X)))), ((a 10), .inl (cJ, 9, .inr (.inl (y_sh (x_Y X)))))] → va_S A s.heap H locs → ∀ (ls : Array Slot), lv_has ls 3 [(0, .ref (a 0)), (1, .int v_g), (2, .int c_g)] → W p l e (headSpec wsX2_drive ({ frames := 4, cells := 0, slots := 0, locals := 99 })).room s m ([.ref (a 0), .int v_g, .int c_g] : List Value).toArray below meth c H locs 0 0 (MQ below (va_Qv (fun u : XS => u = (x_move X v_g c_g)) (fun (u : XS) (t : State) => va_P G vwCl ((fun u : XS => wJ cI cZ cJ a (x_J u) (x_S u) (x_Y u)) u) t.heap ∧ va_D A ((fun u : XS => wJ cI cZ cJ a (x_J u) (x_S u) (x_Y u)) u)) A) ([.ref (a 0), .int v_g, .int c_g] : List Value).toArray s 0 0 A) (F0 m 61 ls [.int f_g, .int v_g, .ref (a 0), .int (iabs c_g)]) := by
            intro f_g ef_g H locs hP hD hS ls hl
            subst ef_g
            try have hl : lv_has ls 3 [(0, .ref (a 0)), (1, .int v_g), (2, .int c_g)] := hl
            refine ro_i (va_runV (As := [.int v_g, .int (if c_g ≤ 0 then 0 else 1)]) (rest := [.int (iabs c_g)]) ⟨hx, hb, hml, hown, hts⟩ ((c_X2_wayNow l G cI cZ cJ a _ X v_g (if c_g ≤ 0 then 0 else 1) hn)) (cwV 2 hts gX2_drive_X2_wayNow rfl rfl rfl (by decide +kernel) ⟨Nat.le_of_ble_eq_true rfl, Nat.le_of_ble_eq_true rfl⟩) ⟨ro_blind, va_recv hK hP (ci := 2) (q0 := 0) rfl rfl, ro_pre hP hK hN⟩ rfl rfl hl.1 rfl (lv_room (Nat.le_of_ble_eq_true rfl)) dX2_drive_61 ⟨Nat.zero_le _, Nat.zero_le _⟩) hS hA hP (fun H locs hP hS => ?_)
            refine lv_icmp_le (tgt := 77) hx hb dX2_drive_64 (by decide) (fun c_5 => ?_) (fun c_5 => ?_)
            · have hz := c_5
              refine lv_aload_n hx hb dX2_drive_77 rfl (lv_at hl 0 rfl) ?_
              refine lv_iload_n hx hb dX2_drive_78 rfl (lv_at hl 1 rfl) ?_
              refine lv_iload_n hx hb dX2_drive_79 rfl (lv_at hl 2 rfl) ?_
              refine rw_v (wr := []) (ws' := [((a 0), .inr (2, [.ref (a 6), .ref (a 1), .int (j_pp (x_J (x_move X v_g c_g))), .int (j_po (x_J (x_move X v_g c_g))), .int (j_mc (x_J (x_move X v_g c_g))), .int (j_dc (x_J (x_move X v_g c_g))), .int (j_is (x_J (x_move X v_g c_g)))])), ((a 1), .inr (0, [.ref (a 6), .ref (a 2), .ref (a 3), .ref (a 4), .ref (a 5), .int (s_fc (x_S (x_move X v_g c_g))), .int (s_fs (x_S (x_move X v_g c_g))), .int (s_sm (x_S (x_move X v_g c_g))), .int (s_sc (x_S (x_move X v_g c_g))), .int (s_sf (x_S (x_move X v_g c_g)))])), ((a 2), .inl (cI, 800, .inl (s_fo (x_S (x_move X v_g c_g))))), ((a 3), .inl (cI, 800, .inl (s_or (x_S (x_move X v_g c_g))))), ((a 4), .inl (cI, 800, .inl (s_mo (x_S (x_move X v_g c_g))))), ((a 5), .inl (cI, 2048, .inl (s_sl (x_S (x_move X v_g c_g))))), ((a 6), .inr (1, [.ref (a 7), .ref (a 8), .ref (a 9), .ref (a 10), .int (nI (y_n (x_Y (x_move X v_g c_g)))), .long (y_rp (x_Y (x_move X v_g c_g)))])), ((a 7), .inl (cI, 9, .inl (y_sz (x_Y (x_move X v_g c_g))))), ((a 8), .inl (cZ, 9, .inl (y_ac (x_Y (x_move X v_g c_g))))), ((a 9), .inl (cI, 9, .inl (y_li (x_Y (x_move X v_g c_g))))), ((a 10), .inl (cJ, 9, .inr (.inl (y_sh (x_Y (x_move X v_g c_g))))))]) (va_runV (As := [.int v_g, .int c_g]) (rest := []) ⟨hx, hb, hml, hown, hts⟩ ((c_X2_makeMove l G cI cZ cJ a _ X v_g c_g)) (cwV 2 hts gX2_drive_X2_makeMove rfl rfl rfl (by decide +kernel) ⟨Nat.le_of_ble_eq_true rfl, Nat.le_of_ble_eq_true rfl⟩) ⟨rw_blind, va_recv hK hP (ci := 2) (q0 := 0) rfl rfl, rw_pre hP hD hK hN⟩ rfl rfl hl.1 rfl (lv_room (Nat.le_of_ble_eq_true rfl)) dX2_drive_80 ⟨Nat.zero_le _, Nat.zero_le _⟩) hS hA hP hD [0, 1, 2, 3, 4, 5, 6, 7, 8, 9, 10] [] [0, 1, 2, 3, 4, 5, 6, 7, 8, 9, 10] rfl rfl (by decide) (by decide) rfl (by decide) (fun H locs hP hD hS => ?_)
              have hP9 := hP
              have hD9 := hD
              exact W.vret hx hb hr (fun t ht hW => ⟨⟨(x_move X v_g c_g), rfl, rfl, by rw [ht]; exact hP9, hD9⟩, hS.F ht⟩) hS.2.2 dX2_drive_83
            · have hz := c_5
              have h9 : drive_th X v_g c_g = 3 := by rw [drive_th, if_neg (not_not_intro c_1), if_neg (by rintro (h | h | h) <;> contradiction), if_pos hz]
              exact absurd (h9.symm.trans hok) (by decide)
          refine lv_aload_n hx hb dX2_drive_50 rfl (lv_at hl 0 rfl) ?_
          refine lv_iload_n hx hb dX2_drive_51 rfl (lv_at hl 1 rfl) ?_
          refine lv_iload_n hx hb dX2_drive_52 rfl (lv_at hl 2 rfl) ?_
          refine lv_if_le (tgt := 60) hx hb dX2_drive_53 (by decide) (fun c_6 => ?_) (fun c_6 => ?_)
          · refine lv_iconst (v := 0) hx hb dX2_drive_60 (by decide) ?_
            exact cut_61 0 (by simp [c_1, c_2, c_3, c_4, c_6]) _ _ hP hD hS _ hl
          · refine lv_iconst (v := 1) hx hb dX2_drive_56 (by decide) ?_
            refine lv_goto (tgt := 61) hx hb dX2_drive_57 (by decide) ?_
            exact cut_61 1 (by simp [c_1, c_2, c_3, c_4, c_6]) _ _ hP hD hS _ hl
        · have h9 : drive_th X v_g c_g = 2 := by rw [drive_th, if_neg (not_not_intro c_1), if_pos (by first | exact Or.inl (by assumption) | exact Or.inr (Or.inl (by assumption)) | exact Or.inr (Or.inr (by assumption)))]
          exact absurd (h9.symm.trans hok) (by decide)
  · have c_1 := b1_f c_1
    have h9 : drive_th X v_g c_g = 1 := by rw [drive_th, if_pos c_1]
    exact absurd (h9.symm.trans hok) (by decide)

theorem in_X2_park_2 : ∀ w ∈ wsX20, w ∈ wsX2_park := by decide +kernel
set_option maxHeartbeats 4000000 in
set_option maxRecDepth 100000 in
/-- RampJam.park -/
theorem c_X2_park (l : Launch) (G : va_G) (cI cZ cJ : ClassId) (a : Nat → Nat) (sz : Nat) (X : XS) (c_g : Int32) (a_g : Int32) (r_g : Int32) (q_g : Int32) (hn : y_n (x_Y X) ≤ 9) (hok : park_th X c_g a_g r_g q_g = 0) : Met l yX2_park wsX2_park ({ frames := 3, cells := 0, slots := 0, locals := 71 }) (rw_Pc G [(cI, .int), (cZ, .boolean), (cJ, .long)] (wJ cI cZ cJ a (x_J X) (x_S X) (x_Y X)) sz [.ref (a 0), .int c_g, .int a_g, .int r_g, .int q_g]) (rw_Qi (S := XS) (y_num (x_Y X)) (x_park X c_g a_g r_g q_g) (fun u : XS => wJ cI cZ cJ a (x_J u) (x_S u) (x_Y u)) G (wJ cI cZ cJ a (x_J X) (x_S X) (x_Y X)) sz) 0 0 (va_A (wJ cI cZ cJ a (x_J X) (x_S X) (x_Y X)) sz) := by
  refine Met.ofW (cc := cX2_park) (maxL := 10) (ret := (some .int)) (by decide) rfl ?_
  intro p e s m args below meth c s₁ B hml hv
  obtain ⟨rfl, hsz, hP, hK, hD0, hN⟩ := hv
  have hx := B.exec
  have hb := B.bytes
  have hr := B.returns
  have hts := atoms_spec (ws := wsX2_park) B.pre
  have hown : s.vm.findClass RX2 = some m.cls := findClass_of_methodNamed B.named
  have hlocks := B.notSynchronized
  subst hsz
  have hD0 : va_D (fun _ => True) [((a 0), .inr (2, [.ref (a 6), .ref (a 1), .int (j_pp (x_J X)), .int (j_po (x_J X)), .int (j_mc (x_J X)), .int (j_dc (x_J X)), .int (j_is (x_J X))])), ((a 1), .inr (0, [.ref (a 6), .ref (a 2), .ref (a 3), .ref (a 4), .ref (a 5), .int (s_fc (x_S X)), .int (s_fs (x_S X)), .int (s_sm (x_S X)), .int (s_sc (x_S X)), .int (s_sf (x_S X))])), ((a 2), .inl (cI, 800, .inl (s_fo (x_S X)))), ((a 3), .inl (cI, 800, .inl (s_or (x_S X)))), ((a 4), .inl (cI, 800, .inl (s_mo (x_S X)))), ((a 5), .inl (cI, 2048, .inl (s_sl (x_S X)))), ((a 6), .inr (1, [.ref (a 7), .ref (a 8), .ref (a 9), .ref (a 10), .int (nI (y_n (x_Y X))), .long (y_rp (x_Y X))])), ((a 7), .inl (cI, 9, .inl (y_sz (x_Y X)))), ((a 8), .inl (cZ, 9, .inl (y_ac (x_Y X)))), ((a 9), .inl (cI, 9, .inl (y_li (x_Y X)))), ((a 10), .inl (cJ, 9, .inr (.inl (y_sh (x_Y X)))))] := hD0
  have hD := hD0.self (sz := s.heap.size)
  unfold rw_Qi
  generalize hAe : va_A (wJ cI cZ cJ a (x_J X) (x_S X) (x_Y X)) s.heap.size = A at hD ⊢
  have hA : ∀ q : Nat, s.heap.size ≤ q → A q := fun q h => by rw [← hAe]; exact Or.inr h
  have hS : va_S A s.heap s.heap [] := va_S.rf
  have hP : va_P G vwCl [((a 0), .inr (2, [.ref (a 6), .ref (a 1), .int (j_pp (x_J X)), .int (j_po (x_J X)), .int (j_mc (x_J X)), .int (j_dc (x_J X)), .int (j_is (x_J X))])), ((a 1), .inr (0, [.ref (a 6), .ref (a 2), .ref (a 3), .ref (a 4), .ref (a 5), .int (s_fc (x_S X)), .int (s_fs (x_S X)), .int (s_sm (x_S X)), .int (s_sc (x_S X)), .int (s_sf (x_S X))])), ((a 2), .inl (cI, 800, .inl (s_fo (x_S X)))), ((a 3), .inl (cI, 800, .inl (s_or (x_S X)))), ((a 4), .inl (cI, 800, .inl (s_mo (x_S X)))), ((a 5), .inl (cI, 2048, .inl (s_sl (x_S X)))), ((a 6), .inr (1, [.ref (a 7), .ref (a 8), .ref (a 9), .ref (a 10), .int (nI (y_n (x_Y X))), .long (y_rp (x_Y X))])), ((a 7), .inl (cI, 9, .inl (y_sz (x_Y X)))), ((a 8), .inl (cZ, 9, .inl (y_ac (x_Y X)))), ((a 9), .inl (cI, 9, .inl (y_li (x_Y X)))), ((a 10), .inl (cJ, 9, .inr (.inl (y_sh (x_Y X)))))] s.heap := hP
  have hl := lv_entry ([.ref (a 0), .int c_g, .int a_g, .int r_g, .int q_g]) (n := 10) (Nat.le_of_ble_eq_true rfl)
  rw [lg_entry_eq]
  generalize (lg_sl ([.ref (a 0), .int c_g, .int a_g, .int r_g, .int q_g]) ++ List.replicate (10 - (lg_sl ([.ref (a 0), .int c_g, .int a_g, .int r_g, .int q_g])).length) Slot.unset).toArray = ls at hl ⊢
  have hl : lv_has ls 10 [(0, .ref (a 0)), (1, .int c_g), (2, .int a_g), (3, .int r_g), (4, .int q_g)] := hl
  refine lv_iload_n hx hb dX2_park_0 rfl (lv_at hl 1 rfl) ?_
  refine lv_iconst (v := 2) hx hb dX2_park_1 (by decide) ?_
  refine lv_icmp_lt (tgt := 19) hx hb dX2_park_2 (by decide) (fun c_1 => ?_) (fun c_1 => ?_)
  · have h9 : park_th X c_g a_g r_g q_g = 1 := by rw [park_th, if_pos (by first | exact Or.inl (by assumption) | exact Or.inr (Or.inl (by assumption)) | exact Or.inr (Or.inr (by assumption)))]
    exact absurd (h9.symm.trans hok) (by decide)
  · refine lv_iload_n hx hb dX2_park_5 rfl (lv_at hl 1 rfl) ?_
    refine lv_iconst (v := 4) hx hb dX2_park_6 (by decide) ?_
    refine lv_icmp_gt (tgt := 19) hx hb dX2_park_7 (by decide) (fun c_2 => ?_) (fun c_2 => ?_)
    · have h9 : park_th X c_g a_g r_g q_g = 1 := by rw [park_th, if_pos (by first | exact Or.inl (by assumption) | exact Or.inr (Or.inl (by assumption)) | exact Or.inr (Or.inr (by assumption)))]
      exact absurd (h9.symm.trans hok) (by decide)
    · refine lv_iload_n hx hb dX2_park_10 rfl (lv_at hl 3 rfl) ?_
      refine lv_iload hx hb dX2_park_11 (lv_at hl 4 rfl) ?_
      refine ro_i (va_runS (As := [.int r_g, .int q_g]) (rest := []) ⟨hx, hb, hml, hown, hts⟩ ((c_X2_isInYard l G cI cZ cJ a _ r_g q_g)) (va_cwS 2 hts gX2_park_X2_isInYard rfl rfl rfl (by decide +kernel) ⟨Nat.le_of_ble_eq_true rfl, Nat.le_of_ble_eq_true rfl⟩) ⟨ro_blind, ro_pre va_P0 hK hN⟩ rfl rfl hl.1 rfl (lv_room (Nat.le_of_ble_eq_true rfl)) dX2_park_13 ⟨Nat.zero_le _, Nat.zero_le _⟩) hS hA hP (fun H locs hP hS => ?_)
      refine lv_if_ne (tgt := 29) hx hb dX2_park_16 (by decide) (fun c_3 => ?_) (fun c_3 => ?_)
      · have c_3 := b1_t c_3
        have cut_39 : ∀ (z_g : Int32), (z_g = p_line a_g r_g q_g) → ∀ (H : Heap) (locs : List Loc), va_P G vwCl [((a 0), .inr (2, [.ref (a 6), .ref (a 1), .int (j_pp (x_J X)), .int (j_po (x_J X)), .int (j_mc (x_J X)), .int (j_dc (x_J X)), .int (j_is (x_J X))])), ((a 1), .inr (0, [.ref (a 6), .ref (a 2), .ref (a 3), .ref (a 4), .ref (a 5), .int (s_fc (x_S X)), .int (s_fs (x_S X)), .int (s_sm (x_S X)), .int (s_sc (x_S X)), .int (s_sf (x_S X))])), ((a 2), .inl (cI, 800, .inl (s_fo (x_S X)))), ((a 3), .inl (cI, 800, .inl (s_or (x_S X)))), ((a 4), .inl (cI, 800, .inl (s_mo (x_S X)))), ((a 5), .inl (cI, 2048, .inl (s_sl (x_S X)))), ((a 6), .inr (1, [.ref (a 7), .ref (a 8), .ref (a 9), .ref (a 10), .int (nI (y_n (x_Y X))), .long (y_rp (x_Y X))])), ((a 7), .inl (cI, 9, .inl (y_sz (x_Y X)))), ((a 8), .inl (cZ, 9, .inl (y_ac (x_Y X)))), ((a 9), .inl (cI, 9, .inl (y_li (x_Y X)))), ((a 10), .inl (cJ, 9, .inr (.inl (y_sh (x_Y X)))))] H → va_D A [((a 0), .inr (2, [.ref (a 6), .ref (a 1), .int (j_pp (x_J X)), .int (j_po (x_J X)), .int (j_mc (x_J X)), .int (j_dc (x_J X)), .int (j_is (x_J X))])), ((a 1), .inr (0, [.ref (a 6), .ref (a 2), .ref (a 3), .ref (a 4), .ref (a 5), .int (s_fc (x_S X)), .int (s_fs (x_S X)), .int (s_sm (x_S X)), .int (s_sc (x_S X)), .int (s_sf (x_S X))])), ((a 2), .inl (cI, 800, .inl (s_fo (x_S X)))), ((a 3), .inl (cI, 800, .inl (s_or (x_S X)))), ((a 4), .inl (cI, 800, .inl (s_mo (x_S X)))), ((a 5), .inl (cI, 2048, .inl (s_sl (x_S X)))), ((a 6), .inr (1, [.ref (a 7), .ref (a 8), .ref (a 9), .ref (a 10), .int (nI (y_n (x_Y X))), .long (y_rp (x_Y X))])), ((a 7), .inl (cI, 9, .inl (y_sz (x_Y X)))), ((a 8), .inl (cZ, 9, .inl (y_ac (x_Y X)))), ((a 9), .inl (cI, 9, .inl (y_li (x_Y X)))), ((a 10), .inl (cJ, 9, .inr (.inl (y_sh (x_Y X)))))] → va_S A s.heap H locs → ∀ (ls : Array Slot), lv_has ls 10 [(0, .ref (a 0)), (1, .int c_g), (2, .int a_g), (3, .int r_g), (4, .int q_g)] → W p l e (headSpec wsX2_park ({ frames := 3, cells := 0, slots := 0, locals := 71 })).room s m ([.ref (a 0), .int c_g, .int a_g, .int r_g, .int q_g] : List Value).toArray below meth c H locs 0 0 (MQ below (va_Qi (fun (r : Int32) (u : XS) => r = (y_num (x_Y X)) ∧ u = (x_park X c_g a_g r_g q_g)) (fun (u : XS) (t : State) => va_P G vwCl ((fun u : XS => wJ cI cZ cJ a (x_J u) (x_S u) (x_Y u)) u) t.heap ∧ va_D A ((fun u : XS => wJ cI cZ cJ a (x_J u) (x_S u) (x_Y u)) u)) A) ([.ref (a 0), .int c_g, .int a_g, .int r_g, .int q_g] : List Value).toArray s 0 0 A) (F0 m 39 ls [.int z_g]) := by
          intro z_g ez_g H locs hP hD hS ls hl
          subst ez_g
          try have hl : lv_has ls 10 [(0, .ref (a 0)), (1, .int c_g), (2, .int a_g), (3, .int r_g), (4, .int q_g)] := hl
          refine lv_istore (lv' := [(5, .int (p_line a_g r_g q_g)), (0, .ref (a 0)), (1, .int c_g), (2, .int a_g), (3, .int r_g), (4, .int q_g)]) hx hb dX2_park_39 hl (by decide) rfl (fun ls hl => ?_)
          have cut_51 : ∀ (z_g : Int32), (z_g = p_plc a_g r_g q_g) → ∀ (H : Heap) (locs : List Loc), va_P G vwCl [((a 0), .inr (2, [.ref (a 6), .ref (a 1), .int (j_pp (x_J X)), .int (j_po (x_J X)), .int (j_mc (x_J X)), .int (j_dc (x_J X)), .int (j_is (x_J X))])), ((a 1), .inr (0, [.ref (a 6), .ref (a 2), .ref (a 3), .ref (a 4), .ref (a 5), .int (s_fc (x_S X)), .int (s_fs (x_S X)), .int (s_sm (x_S X)), .int (s_sc (x_S X)), .int (s_sf (x_S X))])), ((a 2), .inl (cI, 800, .inl (s_fo (x_S X)))), ((a 3), .inl (cI, 800, .inl (s_or (x_S X)))), ((a 4), .inl (cI, 800, .inl (s_mo (x_S X)))), ((a 5), .inl (cI, 2048, .inl (s_sl (x_S X)))), ((a 6), .inr (1, [.ref (a 7), .ref (a 8), .ref (a 9), .ref (a 10), .int (nI (y_n (x_Y X))), .long (y_rp (x_Y X))])), ((a 7), .inl (cI, 9, .inl (y_sz (x_Y X)))), ((a 8), .inl (cZ, 9, .inl (y_ac (x_Y X)))), ((a 9), .inl (cI, 9, .inl (y_li (x_Y X)))), ((a 10), .inl (cJ, 9, .inr (.inl (y_sh (x_Y X)))))] H → va_D A [((a 0), .inr (2, [.ref (a 6), .ref (a 1), .int (j_pp (x_J X)), .int (j_po (x_J X)), .int (j_mc (x_J X)), .int (j_dc (x_J X)), .int (j_is (x_J X))])), ((a 1), .inr (0, [.ref (a 6), .ref (a 2), .ref (a 3), .ref (a 4), .ref (a 5), .int (s_fc (x_S X)), .int (s_fs (x_S X)), .int (s_sm (x_S X)), .int (s_sc (x_S X)), .int (s_sf (x_S X))])), ((a 2), .inl (cI, 800, .inl (s_fo (x_S X)))), ((a 3), .inl (cI, 800, .inl (s_or (x_S X)))), ((a 4), .inl (cI, 800, .inl (s_mo (x_S X)))), ((a 5), .inl (cI, 2048, .inl (s_sl (x_S X)))), ((a 6), .inr (1, [.ref (a 7), .ref (a 8), .ref (a 9), .ref (a 10), .int (nI (y_n (x_Y X))), .long (y_rp (x_Y X))])), ((a 7), .inl (cI, 9, .inl (y_sz (x_Y X)))), ((a 8), .inl (cZ, 9, .inl (y_ac (x_Y X)))), ((a 9), .inl (cI, 9, .inl (y_li (x_Y X)))), ((a 10), .inl (cJ, 9, .inr (.inl (y_sh (x_Y X)))))] → va_S A s.heap H locs → ∀ (ls : Array Slot), lv_has ls 10 [(5, .int (p_line a_g r_g q_g)), (0, .ref (a 0)), (1, .int c_g), (2, .int a_g), (3, .int r_g), (4, .int q_g)] → W p l e (headSpec wsX2_park ({ frames := 3, cells := 0, slots := 0, locals := 71 })).room s m ([.ref (a 0), .int c_g, .int a_g, .int r_g, .int q_g] : List Value).toArray below meth c H locs 0 0 (MQ below (va_Qi (fun (r : Int32) (u : XS) => r = (y_num (x_Y X)) ∧ u = (x_park X c_g a_g r_g q_g)) (fun (u : XS) (t : State) => va_P G vwCl ((fun u : XS => wJ cI cZ cJ a (x_J u) (x_S u) (x_Y u)) u) t.heap ∧ va_D A ((fun u : XS => wJ cI cZ cJ a (x_J u) (x_S u) (x_Y u)) u)) A) ([.ref (a 0), .int c_g, .int a_g, .int r_g, .int q_g] : List Value).toArray s 0 0 A) (F0 m 51 ls [.int z_g]) := by
            intro z_g ez_g H locs hP hD hS ls hl
            subst ez_g
            try have hl : lv_has ls 10 [(5, .int (p_line a_g r_g q_g)), (0, .ref (a 0)), (1, .int c_g), (2, .int a_g), (3, .int r_g), (4, .int q_g)] := hl
            refine lv_istore (lv' := [(6, .int (p_plc a_g r_g q_g)), (5, .int (p_line a_g r_g q_g)), (0, .ref (a 0)), (1, .int c_g), (2, .int a_g), (3, .int r_g), (4, .int q_g)]) hx hb dX2_park_51 hl (by decide) rfl (fun ls hl => ?_)
            refine lv_iload hx hb dX2_park_53 (lv_at hl 0 rfl) ?_
            refine lv_iload_n hx hb dX2_park_55 rfl (lv_at hl 3 rfl) ?_
            refine lv_iadd hx hb dX2_park_56 ?_
            refine lv_bipush (v := 6) hx hb dX2_park_57 (by decide) ?_
            refine lv_icmp_le (tgt := 72) hx hb dX2_park_59 (by decide) (fun c_4 => ?_) (fun c_4 => ?_)
            · have hp := c_4
              have cut_106 : (¬ (nI (y_n (x_Y X)) = 0 ∧ (¬ c_g = 2 ∨ a_g = 0 ∨ ¬ r_g = 2))) → ∀ (H : Heap) (locs : List Loc), va_P G vwCl [((a 0), .inr (2, [.ref (a 6), .ref (a 1), .int (j_pp (x_J X)), .int (j_po (x_J X)), .int (j_mc (x_J X)), .int (j_dc (x_J X)), .int (j_is (x_J X))])), ((a 1), .inr (0, [.ref (a 6), .ref (a 2), .ref (a 3), .ref (a 4), .ref (a 5), .int (s_fc (x_S X)), .int (s_fs (x_S X)), .int (s_sm (x_S X)), .int (s_sc (x_S X)), .int (s_sf (x_S X))])), ((a 2), .inl (cI, 800, .inl (s_fo (x_S X)))), ((a 3), .inl (cI, 800, .inl (s_or (x_S X)))), ((a 4), .inl (cI, 800, .inl (s_mo (x_S X)))), ((a 5), .inl (cI, 2048, .inl (s_sl (x_S X)))), ((a 6), .inr (1, [.ref (a 7), .ref (a 8), .ref (a 9), .ref (a 10), .int (nI (y_n (x_Y X))), .long (y_rp (x_Y X))])), ((a 7), .inl (cI, 9, .inl (y_sz (x_Y X)))), ((a 8), .inl (cZ, 9, .inl (y_ac (x_Y X)))), ((a 9), .inl (cI, 9, .inl (y_li (x_Y X)))), ((a 10), .inl (cJ, 9, .inr (.inl (y_sh (x_Y X)))))] H → va_D A [((a 0), .inr (2, [.ref (a 6), .ref (a 1), .int (j_pp (x_J X)), .int (j_po (x_J X)), .int (j_mc (x_J X)), .int (j_dc (x_J X)), .int (j_is (x_J X))])), ((a 1), .inr (0, [.ref (a 6), .ref (a 2), .ref (a 3), .ref (a 4), .ref (a 5), .int (s_fc (x_S X)), .int (s_fs (x_S X)), .int (s_sm (x_S X)), .int (s_sc (x_S X)), .int (s_sf (x_S X))])), ((a 2), .inl (cI, 800, .inl (s_fo (x_S X)))), ((a 3), .inl (cI, 800, .inl (s_or (x_S X)))), ((a 4), .inl (cI, 800, .inl (s_mo (x_S X)))), ((a 5), .inl (cI, 2048, .inl (s_sl (x_S X)))), ((a 6), .inr (1, [.ref (a 7), .ref (a 8), .ref (a 9), .ref (a 10), .int (nI (y_n (x_Y X))), .long (y_rp (x_Y X))])), ((a 7), .inl (cI, 9, .inl (y_sz (x_Y X)))), ((a 8), .inl (cZ, 9, .inl (y_ac (x_Y X)))), ((a 9), .inl (cI, 9, .inl (y_li (x_Y X)))), ((a 10), .inl (cJ, 9, .inr (.inl (y_sh (x_Y X)))))] → va_S A s.heap H locs → ∀ (ls : Array Slot), lv_has ls 10 [(6, .int (p_plc a_g r_g q_g)), (5, .int (p_line a_g r_g q_g)), (0, .ref (a 0)), (1, .int c_g), (2, .int a_g), (3, .int r_g), (4, .int q_g)] → W p l e (headSpec wsX2_park ({ frames := 3, cells := 0, slots := 0, locals := 71 })).room s m ([.ref (a 0), .int c_g, .int a_g, .int r_g, .int q_g] : List Value).toArray below meth c H locs 0 0 (MQ below (va_Qi (fun (r : Int32) (u : XS) => r = (y_num (x_Y X)) ∧ u = (x_park X c_g a_g r_g q_g)) (fun (u : XS) (t : State) => va_P G vwCl ((fun u : XS => wJ cI cZ cJ a (x_J u) (x_S u) (x_Y u)) u) t.heap ∧ va_D A ((fun u : XS => wJ cI cZ cJ a (x_J u) (x_S u) (x_Y u)) u)) A) ([.ref (a 0), .int c_g, .int a_g, .int r_g, .int q_g] : List Value).toArray s 0 0 A) (F0 m 106 ls []) := by
                intro  h106 H locs hP hD hS ls hl
                refine lv_aload_n hx hb dX2_park_106 rfl (lv_at hl 2 rfl) ?_
                refine va_get (D := G) (ci := 2) (v := .int (j_mc (x_J X))) (C := RX2) (T := TX2) (N := 7) hx hb hts in_X2_park_2 hown hK hP 0 rfl rfl 4 (by decide) (hts (.fieldLink RX2 44 "RampJam" "moveCount" "I") (by decide +kernel)) (fun _ h9 => h9) rfl dX2_park_107 ?_
                refine lv_if_gt (tgt := 125) hx hb dX2_park_110 (by decide) (fun c_5 => ?_) (fun c_5 => ?_)
                · have h9 : park_th X c_g a_g r_g q_g = 2 := by rw [park_th, if_neg (by rintro (h | h | h) <;> contradiction), if_neg (not_not_intro hp), if_neg h106, if_pos (by first | exact Or.inl (by assumption) | exact Or.inr (by assumption))]
                  exact absurd (h9.symm.trans hok) (by decide)
                · refine lv_aload_n hx hb dX2_park_113 rfl (lv_at hl 2 rfl) ?_
                  refine va_get (D := G) (ci := 2) (v := .ref (a 6)) (C := RX2) (T := TX2) (N := 7) hx hb hts in_X2_park_2 hown hK hP 0 rfl rfl 0 (by decide) (hts (.fieldLink RX2 10 "RampJam" "yard" "LRampJam$Yard;") (by decide +kernel)) (fun _ h9 => h9) rfl dX2_park_114 ?_
                  have hPc := hP.sub (ws' := [((a 6), .inr (1, [.ref (a 7), .ref (a 8), .ref (a 9), .ref (a 10), .int (nI (y_n (x_Y X))), .long (y_rp (x_Y X))])), ((a 7), .inl (cI, 9, .inl (y_sz (x_Y X)))), ((a 8), .inl (cZ, 9, .inl (y_ac (x_Y X)))), ((a 9), .inl (cI, 9, .inl (y_li (x_Y X)))), ((a 10), .inl (cJ, 9, .inr (.inl (y_sh (x_Y X)))))]) [6, 7, 8, 9, 10] rfl
                  refine ro_i (va_runV (As := []) (rest := []) ⟨hx, hb, hml, hown, hts⟩ ((c_X1_count l G cI cZ cJ a _ (x_Y X))) (cwV 0 hts gX2_park_X1_count rfl rfl rfl (by decide +kernel) ⟨Nat.le_of_ble_eq_true rfl, Nat.le_of_ble_eq_true rfl⟩) ⟨ro_blind, va_recv hK hPc (ci := 1) (q0 := 0) rfl rfl, ro_pre hPc hK hN⟩ rfl rfl hl.1 rfl (lv_room (Nat.le_of_ble_eq_true rfl)) dX2_park_117 ⟨Nat.zero_le _, Nat.zero_le _⟩) hS hA hP (fun H locs hP hS => ?_)
                  refine lv_bipush (v := 9) hx hb dX2_park_120 (by decide) ?_
                  refine lv_icmp_lt (tgt := 135) hx hb dX2_park_122 (by decide) (fun c_6 => ?_) (fun c_6 => ?_)
                  · refine lv_iload_n hx hb dX2_park_135 rfl (lv_at hl 3 rfl) ?_
                    refine lv_iload_n hx hb dX2_park_136 rfl (lv_at hl 4 rfl) ?_
                    refine lv_iload_n hx hb dX2_park_137 rfl (lv_at hl 5 rfl) ?_
                    refine lv_iload hx hb dX2_park_138 (lv_at hl 6 rfl) ?_
                    refine ro_l (va_runS (As := [.int c_g, .int a_g, .int r_g, .int q_g]) (rest := []) ⟨hx, hb, hml, hown, hts⟩ ((c_X2_cellsOf l G cI cZ cJ a _ c_g a_g r_g q_g)) (va_cwS 4 hts gX2_park_X2_cellsOf rfl rfl rfl (by decide +kernel) ⟨Nat.le_of_ble_eq_true rfl, Nat.le_of_ble_eq_true rfl⟩) ⟨ro_blind, ro_pre va_P0 hK hN⟩ rfl rfl hl.1 rfl (lv_room (Nat.le_of_ble_eq_true rfl)) dX2_park_140 ⟨Nat.zero_le _, Nat.zero_le _⟩) hS hA hP (fun H locs hP hS => ?_)
                    refine lv_lstore (lv' := [(7, .long (cso a_g r_g q_g (min c_g.toNatClampNeg 4))), (6, .int (p_plc a_g r_g q_g)), (5, .int (p_line a_g r_g q_g)), (0, .ref (a 0)), (1, .int c_g), (2, .int a_g), (3, .int r_g), (4, .int q_g)]) hx hb dX2_park_143 hl (by decide) rfl (fun ls hl => ?_)
                    refine lv_lload hx hb dX2_park_145 (lv_at hl 0 rfl) ?_
                    refine lv_aload_n hx hb dX2_park_147 rfl (lv_at hl 3 rfl) ?_
                    refine va_get (D := G) (ci := 2) (v := .ref (a 6)) (C := RX2) (T := TX2) (N := 7) hx hb hts in_X2_park_2 hown hK hP 0 rfl rfl 0 (by decide) (hts (.fieldLink RX2 10 "RampJam" "yard" "LRampJam$Yard;") (by decide +kernel)) (fun _ h9 => h9) rfl dX2_park_148 ?_
                    refine lv_aload_n hx hb dX2_park_151 rfl (lv_at hl 3 rfl) ?_
                    refine va_get (D := G) (ci := 2) (v := .int (j_po (x_J X))) (C := RX2) (T := TX2) (N := 7) hx hb hts in_X2_park_2 hown hK hP 0 rfl rfl 3 (by decide) (hts (.fieldLink RX2 57 "RampJam" "position" "I") (by decide +kernel)) (fun _ h9 => h9) rfl dX2_park_152 ?_
                    have hPc := hP.sub (ws' := [((a 6), .inr (1, [.ref (a 7), .ref (a 8), .ref (a 9), .ref (a 10), .int (nI (y_n (x_Y X))), .long (y_rp (x_Y X))])), ((a 7), .inl (cI, 9, .inl (y_sz (x_Y X)))), ((a 8), .inl (cZ, 9, .inl (y_ac (x_Y X)))), ((a 9), .inl (cI, 9, .inl (y_li (x_Y X)))), ((a 10), .inl (cJ, 9, .inr (.inl (y_sh (x_Y X)))))]) [6, 7, 8, 9, 10] rfl
                    refine ro_l (va_runV (As := [.int (j_po (x_J X))]) (rest := [.long (cso a_g r_g q_g (min c_g.toNatClampNeg 4))]) ⟨hx, hb, hml, hown, hts⟩ ((c_X1_filledIn l G cI cZ cJ a _ (x_Y X) (j_po (x_J X)) hn)) (cwV 1 hts gX2_park_X1_filledIn rfl rfl rfl (by decide +kernel) ⟨Nat.le_of_ble_eq_true rfl, Nat.le_of_ble_eq_true rfl⟩) ⟨ro_blind, va_recv hK hPc (ci := 1) (q0 := 0) rfl rfl, ro_pre hPc hK hN⟩ rfl rfl hl.1 rfl (lv_room (Nat.le_of_ble_eq_true rfl)) dX2_park_155 ⟨Nat.zero_le _, Nat.zero_le _⟩) hS hA hP (fun H locs hP hS => ?_)
                    refine lv_aload_n hx hb dX2_park_158 rfl (lv_at hl 3 rfl) ?_
                    refine va_get (D := G) (ci := 2) (v := .ref (a 6)) (C := RX2) (T := TX2) (N := 7) hx hb hts in_X2_park_2 hown hK hP 0 rfl rfl 0 (by decide) (hts (.fieldLink RX2 10 "RampJam" "yard" "LRampJam$Yard;") (by decide +kernel)) (fun _ h9 => h9) rfl dX2_park_159 ?_
                    refine lv_iload_n hx hb dX2_park_162 rfl (lv_at hl 4 rfl) ?_
                    have hPc := hP.sub (ws' := [((a 6), .inr (1, [.ref (a 7), .ref (a 8), .ref (a 9), .ref (a 10), .int (nI (y_n (x_Y X))), .long (y_rp (x_Y X))])), ((a 7), .inl (cI, 9, .inl (y_sz (x_Y X)))), ((a 8), .inl (cZ, 9, .inl (y_ac (x_Y X)))), ((a 9), .inl (cI, 9, .inl (y_li (x_Y X)))), ((a 10), .inl (cJ, 9, .inr (.inl (y_sh (x_Y X)))))]) [6, 7, 8, 9, 10] rfl
                    refine ro_l (va_runV (As := [.int c_g]) (rest := [.long (y_fil (x_Y X) (j_po (x_J X)) (y_n (x_Y X))), .long (cso a_g r_g q_g (min c_g.toNatClampNeg 4))]) ⟨hx, hb, hml, hown, hts⟩ ((c_X1_barredTo l G cI cZ cJ a _ (x_Y X) c_g)) (cwV 1 hts gX2_park_X1_barredTo rfl rfl rfl (by decide +kernel) ⟨Nat.le_of_ble_eq_true rfl, Nat.le_of_ble_eq_true rfl⟩) ⟨ro_blind, va_recv hK hPc (ci := 1) (q0 := 0) rfl rfl, ro_pre hPc hK hN⟩ rfl rfl hl.1 rfl (lv_room (Nat.le_of_ble_eq_true rfl)) dX2_park_163 ⟨Nat.zero_le _, Nat.zero_le _⟩) hS hA hP (fun H locs hP hS => ?_)
                    refine lv_lor hx hb dX2_park_166 ?_
                    refine lv_land hx hb dX2_park_167 ?_
                    refine lv_lconst (v := 0) hx hb dX2_park_168 (by decide) ?_
                    refine W.lcmp hx hb dX2_park_169 ?_
                    refine lv_if_eq (tgt := 183) hx hb dX2_park_170 (by decide) (fun c_7 => ?_) (fun c_7 => ?_)
                    · have c_7 := lg_t c_7
                      have hz := c_7
                      refine lv_aload_n hx hb dX2_park_183 rfl (lv_at hl 3 rfl) ?_
                      refine va_get (D := G) (ci := 2) (v := .ref (a 6)) (C := RX2) (T := TX2) (N := 7) hx hb hts in_X2_park_2 hown hK hP 0 rfl rfl 0 (by decide) (hts (.fieldLink RX2 10 "RampJam" "yard" "LRampJam$Yard;") (by decide +kernel)) (fun _ h9 => h9) rfl dX2_park_184 ?_
                      refine lv_iload_n hx hb dX2_park_187 rfl (lv_at hl 4 rfl) ?_
                      refine lv_iload_n hx hb dX2_park_188 rfl (lv_at hl 5 rfl) ?_
                      refine lv_iload hx hb dX2_park_189 (lv_at hl 2 rfl) ?_
                      have hPc := hP.sub (ws' := [((a 6), .inr (1, [.ref (a 7), .ref (a 8), .ref (a 9), .ref (a 10), .int (nI (y_n (x_Y X))), .long (y_rp (x_Y X))])), ((a 7), .inl (cI, 9, .inl (y_sz (x_Y X)))), ((a 8), .inl (cZ, 9, .inl (y_ac (x_Y X)))), ((a 9), .inl (cI, 9, .inl (y_li (x_Y X)))), ((a 10), .inl (cJ, 9, .inr (.inl (y_sh (x_Y X)))))]) [6, 7, 8, 9, 10] rfl
                      have hDc := hD.sub (ws' := [((a 6), .inr (1, [.ref (a 7), .ref (a 8), .ref (a 9), .ref (a 10), .int (nI (y_n (x_Y X))), .long (y_rp (x_Y X))])), ((a 7), .inl (cI, 9, .inl (y_sz (x_Y X)))), ((a 8), .inl (cZ, 9, .inl (y_ac (x_Y X)))), ((a 9), .inl (cI, 9, .inl (y_li (x_Y X)))), ((a 10), .inl (cJ, 9, .inr (.inl (y_sh (x_Y X)))))]) [6, 7, 8, 9, 10] (by decide) rfl
                      refine rw_i (wr := [((a 0), .inr (2, [.ref (a 6), .ref (a 1), .int (j_pp (x_J X)), .int (j_po (x_J X)), .int (j_mc (x_J X)), .int (j_dc (x_J X)), .int (j_is (x_J X))])), ((a 1), .inr (0, [.ref (a 6), .ref (a 2), .ref (a 3), .ref (a 4), .ref (a 5), .int (s_fc (x_S X)), .int (s_fs (x_S X)), .int (s_sm (x_S X)), .int (s_sc (x_S X)), .int (s_sf (x_S X))])), ((a 2), .inl (cI, 800, .inl (s_fo (x_S X)))), ((a 3), .inl (cI, 800, .inl (s_or (x_S X)))), ((a 4), .inl (cI, 800, .inl (s_mo (x_S X)))), ((a 5), .inl (cI, 2048, .inl (s_sl (x_S X))))]) (ws' := [((a 0), .inr (2, [.ref (a 6), .ref (a 1), .int (j_pp (x_J X)), .int (j_po (x_J X)), .int (j_mc (x_J X)), .int (j_dc (x_J X)), .int (j_is (x_J X))])), ((a 1), .inr (0, [.ref (a 6), .ref (a 2), .ref (a 3), .ref (a 4), .ref (a 5), .int (s_fc (x_S X)), .int (s_fs (x_S X)), .int (s_sm (x_S X)), .int (s_sc (x_S X)), .int (s_sf (x_S X))])), ((a 2), .inl (cI, 800, .inl (s_fo (x_S X)))), ((a 3), .inl (cI, 800, .inl (s_or (x_S X)))), ((a 4), .inl (cI, 800, .inl (s_mo (x_S X)))), ((a 5), .inl (cI, 2048, .inl (s_sl (x_S X)))), ((a 6), .inr (1, [.ref (a 7), .ref (a 8), .ref (a 9), .ref (a 10), .int (nI (y_n (y_add (x_Y X) c_g a_g (p_line a_g r_g q_g)))), .long (y_rp (y_add (x_Y X) c_g a_g (p_line a_g r_g q_g)))])), ((a 7), .inl (cI, 9, .inl (y_sz (y_add (x_Y X) c_g a_g (p_line a_g r_g q_g))))), ((a 8), .inl (cZ, 9, .inl (y_ac (y_add (x_Y X) c_g a_g (p_line a_g r_g q_g))))), ((a 9), .inl (cI, 9, .inl (y_li (y_add (x_Y X) c_g a_g (p_line a_g r_g q_g))))), ((a 10), .inl (cJ, 9, .inr (.inl (y_sh (y_add (x_Y X) c_g a_g (p_line a_g r_g q_g))))))]) (va_runV (As := [.int c_g, .int a_g, .int (p_line a_g r_g q_g)]) (rest := []) ⟨hx, hb, hml, hown, hts⟩ ((c_X1_add l G cI cZ cJ a _ (x_Y X) c_g a_g (p_line a_g r_g q_g) hn)) (cwV 3 hts gX2_park_X1_add rfl rfl rfl (by decide +kernel) ⟨Nat.le_of_ble_eq_true rfl, Nat.le_of_ble_eq_true rfl⟩) ⟨rw_blind, va_recv hK hPc (ci := 1) (q0 := 0) rfl rfl, rw_pre hPc hDc hK hN⟩ rfl rfl hl.1 rfl (lv_room (Nat.le_of_ble_eq_true rfl)) dX2_park_191 ⟨Nat.zero_le _, Nat.zero_le _⟩) hS hA hP hD [6, 7, 8, 9, 10] [0, 1, 2, 3, 4, 5] [0, 1, 2, 3, 4, 5, 6, 7, 8, 9, 10] rfl rfl (by decide) (by decide) rfl (by decide) (fun H locs hP hD hS => ?_)
                      refine lv_istore (lv' := [(9, .int (y_num (x_Y X))), (7, .long (cso a_g r_g q_g (min c_g.toNatClampNeg 4))), (6, .int (p_plc a_g r_g q_g)), (5, .int (p_line a_g r_g q_g)), (0, .ref (a 0)), (1, .int c_g), (2, .int a_g), (3, .int r_g), (4, .int q_g)]) hx hb dX2_park_194 hl (by decide) rfl (fun ls hl => ?_)
                      refine lv_aload_n hx hb dX2_park_196 rfl (lv_at hl 4 rfl) ?_
                      refine lv_aload_n hx hb dX2_park_197 rfl (lv_at hl 4 rfl) ?_
                      refine va_get (D := G) (ci := 2) (v := .int (j_pp (x_J X))) (C := RX2) (T := TX2) (N := 7) hx hb hts in_X2_park_2 hown hK hP 0 rfl rfl 2 (by decide) (hts (.fieldLink RX2 73 "RampJam" "parkedPosition" "I") (by decide +kernel)) (fun _ h9 => h9) rfl dX2_park_198 ?_
                      refine lv_iload hx hb dX2_park_201 (lv_at hl 0 rfl) ?_
                      refine lv_iload hx hb dX2_park_203 (lv_at hl 2 rfl) ?_
                      refine ro_i (va_runS (As := [.int (j_pp (x_J X)), .int (y_num (x_Y X)), .int (p_plc a_g r_g q_g)]) (rest := [.ref (a 0)]) ⟨hx, hb, hml, hown, hts⟩ ((c_X2_moved l G cI cZ cJ a _ (j_pp (x_J X)) (y_num (x_Y X)) (p_plc a_g r_g q_g))) (va_cwS 3 hts gX2_park_X2_moved rfl rfl rfl (by decide +kernel) ⟨Nat.le_of_ble_eq_true rfl, Nat.le_of_ble_eq_true rfl⟩) ⟨ro_blind, ro_pre va_P0 hK hN⟩ rfl rfl hl.1 rfl (lv_room (Nat.le_of_ble_eq_true rfl)) dX2_park_205 ⟨Nat.zero_le _, Nat.zero_le _⟩) hS hA hP (fun H locs hP hS => ?_)
                      refine va_put (D := G) (ci := 2) (v := .int (mv (j_pp (x_J X)) (y_num (x_Y X)) (p_plc a_g r_g q_g))) (ty := .int) (C := RX2) (T := TX2) (N := 7) hx hb hts in_X2_park_2 tyX2 tyX2_ok nmX2 hown hK hP hD hS 0 rfl rfl 2 (by decide) (hts (.fieldLink RX2 73 "RampJam" "parkedPosition" "I") (by decide +kernel)) (fun _ h9 => h9) rfl (by decide +kernel) rfl rfl (Nat.le_of_ble_eq_true rfl) dX2_park_208 (fun H locs hP hD hS => ?_)
                      have hP : va_P G vwCl [((a 0), .inr (2, [.ref (a 6), .ref (a 1), .int (mv (j_pp (x_J X)) (y_num (x_Y X)) (p_plc a_g r_g q_g)), .int (j_po (x_J X)), .int (j_mc (x_J X)), .int (j_dc (x_J X)), .int (j_is (x_J X))])), ((a 1), .inr (0, [.ref (a 6), .ref (a 2), .ref (a 3), .ref (a 4), .ref (a 5), .int (s_fc (x_S X)), .int (s_fs (x_S X)), .int (s_sm (x_S X)), .int (s_sc (x_S X)), .int (s_sf (x_S X))])), ((a 2), .inl (cI, 800, .inl (s_fo (x_S X)))), ((a 3), .inl (cI, 800, .inl (s_or (x_S X)))), ((a 4), .inl (cI, 800, .inl (s_mo (x_S X)))), ((a 5), .inl (cI, 2048, .inl (s_sl (x_S X)))), ((a 6), .inr (1, [.ref (a 7), .ref (a 8), .ref (a 9), .ref (a 10), .int (nI (y_n (y_add (x_Y X) c_g a_g (p_line a_g r_g q_g)))), .long (y_rp (y_add (x_Y X) c_g a_g (p_line a_g r_g q_g)))])), ((a 7), .inl (cI, 9, .inl (y_sz (y_add (x_Y X) c_g a_g (p_line a_g r_g q_g))))), ((a 8), .inl (cZ, 9, .inl (y_ac (y_add (x_Y X) c_g a_g (p_line a_g r_g q_g))))), ((a 9), .inl (cI, 9, .inl (y_li (y_add (x_Y X) c_g a_g (p_line a_g r_g q_g))))), ((a 10), .inl (cJ, 9, .inr (.inl (y_sh (y_add (x_Y X) c_g a_g (p_line a_g r_g q_g))))))] H := hP
                      have hD : va_D A [((a 0), .inr (2, [.ref (a 6), .ref (a 1), .int (mv (j_pp (x_J X)) (y_num (x_Y X)) (p_plc a_g r_g q_g)), .int (j_po (x_J X)), .int (j_mc (x_J X)), .int (j_dc (x_J X)), .int (j_is (x_J X))])), ((a 1), .inr (0, [.ref (a 6), .ref (a 2), .ref (a 3), .ref (a 4), .ref (a 5), .int (s_fc (x_S X)), .int (s_fs (x_S X)), .int (s_sm (x_S X)), .int (s_sc (x_S X)), .int (s_sf (x_S X))])), ((a 2), .inl (cI, 800, .inl (s_fo (x_S X)))), ((a 3), .inl (cI, 800, .inl (s_or (x_S X)))), ((a 4), .inl (cI, 800, .inl (s_mo (x_S X)))), ((a 5), .inl (cI, 2048, .inl (s_sl (x_S X)))), ((a 6), .inr (1, [.ref (a 7), .ref (a 8), .ref (a 9), .ref (a 10), .int (nI (y_n (y_add (x_Y X) c_g a_g (p_line a_g r_g q_g)))), .long (y_rp (y_add (x_Y X) c_g a_g (p_line a_g r_g q_g)))])), ((a 7), .inl (cI, 9, .inl (y_sz (y_add (x_Y X) c_g a_g (p_line a_g r_g q_g))))), ((a 8), .inl (cZ, 9, .inl (y_ac (y_add (x_Y X) c_g a_g (p_line a_g r_g q_g))))), ((a 9), .inl (cI, 9, .inl (y_li (y_add (x_Y X) c_g a_g (p_line a_g r_g q_g))))), ((a 10), .inl (cJ, 9, .inr (.inl (y_sh (y_add (x_Y X) c_g a_g (p_line a_g r_g q_g))))))] := hD
                      refine lv_aload_n hx hb dX2_park_211 rfl (lv_at hl 4 rfl) ?_
                      refine lv_aload_n hx hb dX2_park_212 rfl (lv_at hl 4 rfl) ?_
                      refine va_get (D := G) (ci := 2) (v := .int (mv (j_pp (x_J X)) (y_num (x_Y X)) (p_plc a_g r_g q_g))) (C := RX2) (T := TX2) (N := 7) hx hb hts in_X2_park_2 hown hK hP 0 rfl rfl 2 (by decide) (hts (.fieldLink RX2 73 "RampJam" "parkedPosition" "I") (by decide +kernel)) (fun _ h9 => h9) rfl dX2_park_213 ?_
                      refine rw_v (wr := []) (ws' := [((a 0), .inr (2, [.ref (a 6), .ref (a 1), .int (j_pp (x_J (x_stand (((mv (j_pp (x_J X)) (y_num (x_Y X)) (p_plc a_g r_g q_g)), (j_po (x_J X)), (j_mc (x_J X)), (j_dc (x_J X)), (j_is (x_J X))), (x_S X), (y_add (x_Y X) c_g a_g (p_line a_g r_g q_g))) (mv (j_pp (x_J X)) (y_num (x_Y X)) (p_plc a_g r_g q_g))))), .int (j_po (x_J (x_stand (((mv (j_pp (x_J X)) (y_num (x_Y X)) (p_plc a_g r_g q_g)), (j_po (x_J X)), (j_mc (x_J X)), (j_dc (x_J X)), (j_is (x_J X))), (x_S X), (y_add (x_Y X) c_g a_g (p_line a_g r_g q_g))) (mv (j_pp (x_J X)) (y_num (x_Y X)) (p_plc a_g r_g q_g))))), .int (j_mc (x_J (x_stand (((mv (j_pp (x_J X)) (y_num (x_Y X)) (p_plc a_g r_g q_g)), (j_po (x_J X)), (j_mc (x_J X)), (j_dc (x_J X)), (j_is (x_J X))), (x_S X), (y_add (x_Y X) c_g a_g (p_line a_g r_g q_g))) (mv (j_pp (x_J X)) (y_num (x_Y X)) (p_plc a_g r_g q_g))))), .int (j_dc (x_J (x_stand (((mv (j_pp (x_J X)) (y_num (x_Y X)) (p_plc a_g r_g q_g)), (j_po (x_J X)), (j_mc (x_J X)), (j_dc (x_J X)), (j_is (x_J X))), (x_S X), (y_add (x_Y X) c_g a_g (p_line a_g r_g q_g))) (mv (j_pp (x_J X)) (y_num (x_Y X)) (p_plc a_g r_g q_g))))), .int (j_is (x_J (x_stand (((mv (j_pp (x_J X)) (y_num (x_Y X)) (p_plc a_g r_g q_g)), (j_po (x_J X)), (j_mc (x_J X)), (j_dc (x_J X)), (j_is (x_J X))), (x_S X), (y_add (x_Y X) c_g a_g (p_line a_g r_g q_g))) (mv (j_pp (x_J X)) (y_num (x_Y X)) (p_plc a_g r_g q_g)))))])), ((a 1), .inr (0, [.ref (a 6), .ref (a 2), .ref (a 3), .ref (a 4), .ref (a 5), .int (s_fc (x_S (x_stand (((mv (j_pp (x_J X)) (y_num (x_Y X)) (p_plc a_g r_g q_g)), (j_po (x_J X)), (j_mc (x_J X)), (j_dc (x_J X)), (j_is (x_J X))), (x_S X), (y_add (x_Y X) c_g a_g (p_line a_g r_g q_g))) (mv (j_pp (x_J X)) (y_num (x_Y X)) (p_plc a_g r_g q_g))))), .int (s_fs (x_S (x_stand (((mv (j_pp (x_J X)) (y_num (x_Y X)) (p_plc a_g r_g q_g)), (j_po (x_J X)), (j_mc (x_J X)), (j_dc (x_J X)), (j_is (x_J X))), (x_S X), (y_add (x_Y X) c_g a_g (p_line a_g r_g q_g))) (mv (j_pp (x_J X)) (y_num (x_Y X)) (p_plc a_g r_g q_g))))), .int (s_sm (x_S (x_stand (((mv (j_pp (x_J X)) (y_num (x_Y X)) (p_plc a_g r_g q_g)), (j_po (x_J X)), (j_mc (x_J X)), (j_dc (x_J X)), (j_is (x_J X))), (x_S X), (y_add (x_Y X) c_g a_g (p_line a_g r_g q_g))) (mv (j_pp (x_J X)) (y_num (x_Y X)) (p_plc a_g r_g q_g))))), .int (s_sc (x_S (x_stand (((mv (j_pp (x_J X)) (y_num (x_Y X)) (p_plc a_g r_g q_g)), (j_po (x_J X)), (j_mc (x_J X)), (j_dc (x_J X)), (j_is (x_J X))), (x_S X), (y_add (x_Y X) c_g a_g (p_line a_g r_g q_g))) (mv (j_pp (x_J X)) (y_num (x_Y X)) (p_plc a_g r_g q_g))))), .int (s_sf (x_S (x_stand (((mv (j_pp (x_J X)) (y_num (x_Y X)) (p_plc a_g r_g q_g)), (j_po (x_J X)), (j_mc (x_J X)), (j_dc (x_J X)), (j_is (x_J X))), (x_S X), (y_add (x_Y X) c_g a_g (p_line a_g r_g q_g))) (mv (j_pp (x_J X)) (y_num (x_Y X)) (p_plc a_g r_g q_g)))))])), ((a 2), .inl (cI, 800, .inl (s_fo (x_S (x_stand (((mv (j_pp (x_J X)) (y_num (x_Y X)) (p_plc a_g r_g q_g)), (j_po (x_J X)), (j_mc (x_J X)), (j_dc (x_J X)), (j_is (x_J X))), (x_S X), (y_add (x_Y X) c_g a_g (p_line a_g r_g q_g))) (mv (j_pp (x_J X)) (y_num (x_Y X)) (p_plc a_g r_g q_g))))))), ((a 3), .inl (cI, 800, .inl (s_or (x_S (x_stand (((mv (j_pp (x_J X)) (y_num (x_Y X)) (p_plc a_g r_g q_g)), (j_po (x_J X)), (j_mc (x_J X)), (j_dc (x_J X)), (j_is (x_J X))), (x_S X), (y_add (x_Y X) c_g a_g (p_line a_g r_g q_g))) (mv (j_pp (x_J X)) (y_num (x_Y X)) (p_plc a_g r_g q_g))))))), ((a 4), .inl (cI, 800, .inl (s_mo (x_S (x_stand (((mv (j_pp (x_J X)) (y_num (x_Y X)) (p_plc a_g r_g q_g)), (j_po (x_J X)), (j_mc (x_J X)), (j_dc (x_J X)), (j_is (x_J X))), (x_S X), (y_add (x_Y X) c_g a_g (p_line a_g r_g q_g))) (mv (j_pp (x_J X)) (y_num (x_Y X)) (p_plc a_g r_g q_g))))))), ((a 5), .inl (cI, 2048, .inl (s_sl (x_S (x_stand (((mv (j_pp (x_J X)) (y_num (x_Y X)) (p_plc a_g r_g q_g)), (j_po (x_J X)), (j_mc (x_J X)), (j_dc (x_J X)), (j_is (x_J X))), (x_S X), (y_add (x_Y X) c_g a_g (p_line a_g r_g q_g))) (mv (j_pp (x_J X)) (y_num (x_Y X)) (p_plc a_g r_g q_g))))))), ((a 6), .inr (1, [.ref (a 7), .ref (a 8), .ref (a 9), .ref (a 10), .int (nI (y_n (x_Y (x_stand (((mv (j_pp (x_J X)) (y_num (x_Y X)) (p_plc a_g r_g q_g)), (j_po (x_J X)), (j_mc (x_J X)), (j_dc (x_J X)), (j_is (x_J X))), (x_S X), (y_add (x_Y X) c_g a_g (p_line a_g r_g q_g))) (mv (j_pp (x_J X)) (y_num (x_Y X)) (p_plc a_g r_g q_g)))))), .long (y_rp (x_Y (x_stand (((mv (j_pp (x_J X)) (y_num (x_Y X)) (p_plc a_g r_g q_g)), (j_po (x_J X)), (j_mc (x_J X)), (j_dc (x_J X)), (j_is (x_J X))), (x_S X), (y_add (x_Y X) c_g a_g (p_line a_g r_g q_g))) (mv (j_pp (x_J X)) (y_num (x_Y X)) (p_plc a_g r_g q_g)))))])), ((a 7), .inl (cI, 9, .inl (y_sz (x_Y (x_stand (((mv (j_pp (x_J X)) (y_num (x_Y X)) (p_plc a_g r_g q_g)), (j_po (x_J X)), (j_mc (x_J X)), (j_dc (x_J X)), (j_is (x_J X))), (x_S X), (y_add (x_Y X) c_g a_g (p_line a_g r_g q_g))) (mv (j_pp (x_J X)) (y_num (x_Y X)) (p_plc a_g r_g q_g))))))), ((a 8), .inl (cZ, 9, .inl (y_ac (x_Y (x_stand (((mv (j_pp (x_J X)) (y_num (x_Y X)) (p_plc a_g r_g q_g)), (j_po (x_J X)), (j_mc (x_J X)), (j_dc (x_J X)), (j_is (x_J X))), (x_S X), (y_add (x_Y X) c_g a_g (p_line a_g r_g q_g))) (mv (j_pp (x_J X)) (y_num (x_Y X)) (p_plc a_g r_g q_g))))))), ((a 9), .inl (cI, 9, .inl (y_li (x_Y (x_stand (((mv (j_pp (x_J X)) (y_num (x_Y X)) (p_plc a_g r_g q_g)), (j_po (x_J X)), (j_mc (x_J X)), (j_dc (x_J X)), (j_is (x_J X))), (x_S X), (y_add (x_Y X) c_g a_g (p_line a_g r_g q_g))) (mv (j_pp (x_J X)) (y_num (x_Y X)) (p_plc a_g r_g q_g))))))), ((a 10), .inl (cJ, 9, .inr (.inl (y_sh (x_Y (x_stand (((mv (j_pp (x_J X)) (y_num (x_Y X)) (p_plc a_g r_g q_g)), (j_po (x_J X)), (j_mc (x_J X)), (j_dc (x_J X)), (j_is (x_J X))), (x_S X), (y_add (x_Y X) c_g a_g (p_line a_g r_g q_g))) (mv (j_pp (x_J X)) (y_num (x_Y X)) (p_plc a_g r_g q_g))))))))]) (va_runV (As := [.int (mv (j_pp (x_J X)) (y_num (x_Y X)) (p_plc a_g r_g q_g))]) (rest := []) ⟨hx, hb, hml, hown, hts⟩ ((c_X2_standAt l G cI cZ cJ a _ (((mv (j_pp (x_J X)) (y_num (x_Y X)) (p_plc a_g r_g q_g)), (j_po (x_J X)), (j_mc (x_J X)), (j_dc (x_J X)), (j_is (x_J X))), (x_S X), (y_add (x_Y X) c_g a_g (p_line a_g r_g q_g))) (mv (j_pp (x_J X)) (y_num (x_Y X)) (p_plc a_g r_g q_g)))) (cwV 1 hts gX2_park_X2_standAt rfl rfl rfl (by decide +kernel) ⟨Nat.le_of_ble_eq_true rfl, Nat.le_of_ble_eq_true rfl⟩) ⟨rw_blind, va_recv hK hP (ci := 2) (q0 := 0) rfl rfl, rw_pre hP hD hK hN⟩ rfl rfl hl.1 rfl (lv_room (Nat.le_of_ble_eq_true rfl)) dX2_park_216 ⟨Nat.zero_le _, Nat.zero_le _⟩) hS hA hP hD [0, 1, 2, 3, 4, 5, 6, 7, 8, 9, 10] [] [0, 1, 2, 3, 4, 5, 6, 7, 8, 9, 10] rfl rfl (by decide) (by decide) rfl (by decide) (fun H locs hP hD hS => ?_)
                      refine lv_iload hx hb dX2_park_219 (lv_at hl 0 rfl) ?_
                      have hP9 := hP
                      have hD9 := hD
                      exact W.iret (v := (y_num (x_Y X))) hx hb hr (fun t ht hW => ⟨⟨(y_num (x_Y X)), (x_stand (((mv (j_pp (x_J X)) (y_num (x_Y X)) (p_plc a_g r_g q_g)), (j_po (x_J X)), (j_mc (x_J X)), (j_dc (x_J X)), (j_is (x_J X))), (x_S X), (y_add (x_Y X) c_g a_g (p_line a_g r_g q_g))) (mv (j_pp (x_J X)) (y_num (x_Y X)) (p_plc a_g r_g q_g))), rfl, ⟨rfl, rfl⟩, by rw [ht]; exact hP9, hD9⟩, hS.F ht⟩) hS.2.2 dX2_park_221
                    · have c_7 := lg_f c_7
                      have hz := c_7
                      have h9 : park_th X c_g a_g r_g q_g = 2 := by rw [park_th, if_neg (by rintro (h | h | h) <;> contradiction), if_neg (not_not_intro hp), if_neg h106, if_neg (by rintro (h | h) <;> contradiction), if_pos hz]
                      exact absurd (h9.symm.trans hok) (by decide)
                  · have h9 : park_th X c_g a_g r_g q_g = 2 := by rw [park_th, if_neg (by rintro (h | h | h) <;> contradiction), if_neg (not_not_intro hp), if_neg h106, if_pos (by first | exact Or.inl (by assumption) | exact Or.inr (by assumption))]
                    exact absurd (h9.symm.trans hok) (by decide)
              refine lv_aload_n hx hb dX2_park_72 rfl (lv_at hl 2 rfl) ?_
              refine va_get (D := G) (ci := 2) (v := .ref (a 6)) (C := RX2) (T := TX2) (N := 7) hx hb hts in_X2_park_2 hown hK hP 0 rfl rfl 0 (by decide) (hts (.fieldLink RX2 10 "RampJam" "yard" "LRampJam$Yard;") (by decide +kernel)) (fun _ h9 => h9) rfl dX2_park_73 ?_
              have hPc := hP.sub (ws' := [((a 6), .inr (1, [.ref (a 7), .ref (a 8), .ref (a 9), .ref (a 10), .int (nI (y_n (x_Y X))), .long (y_rp (x_Y X))])), ((a 7), .inl (cI, 9, .inl (y_sz (x_Y X)))), ((a 8), .inl (cZ, 9, .inl (y_ac (x_Y X)))), ((a 9), .inl (cI, 9, .inl (y_li (x_Y X)))), ((a 10), .inl (cJ, 9, .inr (.inl (y_sh (x_Y X)))))]) [6, 7, 8, 9, 10] rfl
              refine ro_i (va_runV (As := []) (rest := []) ⟨hx, hb, hml, hown, hts⟩ ((c_X1_count l G cI cZ cJ a _ (x_Y X))) (cwV 0 hts gX2_park_X1_count rfl rfl rfl (by decide +kernel) ⟨Nat.le_of_ble_eq_true rfl, Nat.le_of_ble_eq_true rfl⟩) ⟨ro_blind, va_recv hK hPc (ci := 1) (q0 := 0) rfl rfl, ro_pre hPc hK hN⟩ rfl rfl hl.1 rfl (lv_room (Nat.le_of_ble_eq_true rfl)) dX2_park_76 ⟨Nat.zero_le _, Nat.zero_le _⟩) hS hA hP (fun H locs hP hS => ?_)
              refine lv_if_ne (tgt := 106) hx hb dX2_park_79 (by decide) (fun c_8 => ?_) (fun c_8 => ?_)
              · exact cut_106 (by rintro ⟨h1, h2⟩; first | contradiction | (rcases h2 with h | h | h <;> contradiction)) _ _ hP hD hS _ hl
              · refine lv_iload_n hx hb dX2_park_82 rfl (lv_at hl 3 rfl) ?_
                refine lv_iconst (v := 2) hx hb dX2_park_83 (by decide) ?_
                refine lv_icmp_ne (tgt := 96) hx hb dX2_park_84 (by decide) (fun c_9 => ?_) (fun c_9 => ?_)
                · have h9 : park_th X c_g a_g r_g q_g = 1 := by rw [park_th, if_neg (by rintro (h | h | h) <;> contradiction), if_neg (not_not_intro hp), if_pos ⟨by assumption, by first | exact Or.inl (by assumption) | exact Or.inr (Or.inl (by assumption)) | exact Or.inr (Or.inr (by assumption))⟩]
                  exact absurd (h9.symm.trans hok) (by decide)
                · refine lv_iload_n hx hb dX2_park_87 rfl (lv_at hl 4 rfl) ?_
                  refine lv_if_eq (tgt := 96) hx hb dX2_park_88 (by decide) (fun c_10 => ?_) (fun c_10 => ?_)
                  · have h9 : park_th X c_g a_g r_g q_g = 1 := by rw [park_th, if_neg (by rintro (h | h | h) <;> contradiction), if_neg (not_not_intro hp), if_pos ⟨by assumption, by first | exact Or.inl (by assumption) | exact Or.inr (Or.inl (by assumption)) | exact Or.inr (Or.inr (by assumption))⟩]
                    exact absurd (h9.symm.trans hok) (by decide)
                  · refine lv_iload_n hx hb dX2_park_91 rfl (lv_at hl 5 rfl) ?_
                    refine lv_iconst (v := 2) hx hb dX2_park_92 (by decide) ?_
                    refine lv_icmp_eq (tgt := 106) hx hb dX2_park_93 (by decide) (fun c_11 => ?_) (fun c_11 => ?_)
                    · exact cut_106 (by rintro ⟨h1, h2⟩; first | contradiction | (rcases h2 with h | h | h <;> contradiction)) _ _ hP hD hS _ hl
                    · have h9 : park_th X c_g a_g r_g q_g = 1 := by rw [park_th, if_neg (by rintro (h | h | h) <;> contradiction), if_neg (not_not_intro hp), if_pos ⟨by assumption, by first | exact Or.inl (by assumption) | exact Or.inr (Or.inl (by assumption)) | exact Or.inr (Or.inr (by assumption))⟩]
                      exact absurd (h9.symm.trans hok) (by decide)
            · have hp := c_4
              have h9 : park_th X c_g a_g r_g q_g = 1 := by rw [park_th, if_neg (by rintro (h | h | h) <;> contradiction), if_pos hp]
              exact absurd (h9.symm.trans hok) (by decide)
          refine lv_iload_n hx hb dX2_park_41 rfl (lv_at hl 3 rfl) ?_
          refine lv_if_eq (tgt := 50) hx hb dX2_park_42 (by decide) (fun c_12 => ?_) (fun c_12 => ?_)
          · refine lv_iload_n hx hb dX2_park_50 rfl (lv_at hl 4 rfl) ?_
            exact cut_51 r_g (by simp [p_plc, c_1, c_2, c_3, c_12]) _ _ hP hD hS _ hl
          · refine lv_iload hx hb dX2_park_45 (lv_at hl 5 rfl) ?_
            refine lv_goto (tgt := 51) hx hb dX2_park_47 (by decide) ?_
            exact cut_51 q_g (by simp [p_plc, c_1, c_2, c_3, c_12]) _ _ hP hD hS _ hl
        refine lv_iload_n hx hb dX2_park_29 rfl (lv_at hl 2 rfl) ?_
        refine lv_if_eq (tgt := 37) hx hb dX2_park_30 (by decide) (fun c_13 => ?_) (fun c_13 => ?_)
        · refine lv_iload hx hb dX2_park_37 (lv_at hl 4 rfl) ?_
          exact cut_39 q_g (by simp [p_line, c_1, c_2, c_3, c_13]) _ _ hP hD hS _ hl
        · refine lv_iload_n hx hb dX2_park_33 rfl (lv_at hl 3 rfl) ?_
          refine lv_goto (tgt := 39) hx hb dX2_park_34 (by decide) ?_
          exact cut_39 r_g (by simp [p_line, c_1, c_2, c_3, c_13]) _ _ hP hD hS _ hl
      · have c_3 := b1_f c_3
        have h9 : park_th X c_g a_g r_g q_g = 1 := by rw [park_th, if_pos (by first | exact Or.inl (by assumption) | exact Or.inr (Or.inl (by assumption)) | exact Or.inr (Or.inr (by assumption)))]
        exact absurd (h9.symm.trans hok) (by decide)
