abbrev wI (cI cZ cJ : ClassId) (a : Nat → Nat) (ca_g cb_g : Nat) (X : XS) (C_g A_g : Nat → Int32) : va_W := [((a 0), .inr (2, [.ref (a 6), .ref (a 1), .int (j_pp (x_J X)), .int (j_po (x_J X)), .int (j_mc (x_J X)), .int (j_dc (x_J X)), .int (j_is (x_J X))])), ((a 1), .inr (0, [.ref (a 6), .ref (a 2), .ref (a 3), .ref (a 4), .ref (a 5), .int (s_fc (x_S X)), .int (s_fs (x_S X)), .int (s_sm (x_S X)), .int (s_sc (x_S X)), .int (s_sf (x_S X))])), ((a 2), .inl (cI, 800, .inl (s_fo (x_S X)))), ((a 3), .inl (cI, 800, .inl (s_or (x_S X)))), ((a 4), .inl (cI, 800, .inl (s_mo (x_S X)))), ((a 5), .inl (cI, 2048, .inl (s_sl (x_S X)))), ((a 6), .inr (1, [.ref (a 7), .ref (a 8), .ref (a 9), .ref (a 10), .int (nI (y_n (x_Y X))), .long (y_rp (x_Y X))])), ((a 7), .inl (cI, 9, .inl (y_sz (x_Y X)))), ((a 8), .inl (cZ, 9, .inl (y_ac (x_Y X)))), ((a 9), .inl (cI, 9, .inl (y_li (x_Y X)))), ((a 10), .inl (cJ, 9, .inr (.inl (y_sh (x_Y X))))), (ca_g, .inl (cI, 9, .inl C_g)), (cb_g, .inl (cI, 9, .inl A_g))]

set_option maxHeartbeats 4000000 in
set_option maxRecDepth 100000 in
/-- filled -/
theorem c_L_filled (l : Launch) (G : va_G) (cI cZ cJ : ClassId) (a : Nat → Nat) (sz : Nat) (X : XS) (v_g : Int32) (hn : y_n (x_Y X) ≤ 9) : Met l yL_filled wsL_filled ({ frames := 4, cells := 0, slots := 0, locals := 90 }) (ro_Pc G [(cI, .int), (cZ, .boolean), (cJ, .long)] (wJ cI cZ cJ a (x_J X) (x_S X) (x_Y X)) sz [.ref (a 0), .int v_g]) (ro_Qi (nI (fl9 X v_g 36)) sz) 0 0 (ro_A sz) := by
  refine Met.ofW (cc := cL_filled) (maxL := 4) (ret := (some .int)) (by decide) rfl ?_
  intro p e s m args below meth c s₁ B hml hv
  obtain ⟨rfl, hsz, hP, hK, hN⟩ := hv
  have hx := B.exec
  have hb := B.bytes
  have hr := B.returns
  have hts := atoms_spec (ws := wsL_filled) B.pre
  have hown : s.vm.findClass RL = some m.cls := findClass_of_methodNamed B.named
  have hlocks := B.notSynchronized
  subst hsz
  have hA : ∀ q : Nat, s.heap.size ≤ q → (ro_A s.heap.size) q := fun _ h => h
  have hS : va_S (ro_A s.heap.size) s.heap s.heap [] := va_S.rf
  have hP : va_P G vwCl [((a 0), .inr (2, [.ref (a 6), .ref (a 1), .int (j_pp (x_J X)), .int (j_po (x_J X)), .int (j_mc (x_J X)), .int (j_dc (x_J X)), .int (j_is (x_J X))])), ((a 1), .inr (0, [.ref (a 6), .ref (a 2), .ref (a 3), .ref (a 4), .ref (a 5), .int (s_fc (x_S X)), .int (s_fs (x_S X)), .int (s_sm (x_S X)), .int (s_sc (x_S X)), .int (s_sf (x_S X))])), ((a 2), .inl (cI, 800, .inl (s_fo (x_S X)))), ((a 3), .inl (cI, 800, .inl (s_or (x_S X)))), ((a 4), .inl (cI, 800, .inl (s_mo (x_S X)))), ((a 5), .inl (cI, 2048, .inl (s_sl (x_S X)))), ((a 6), .inr (1, [.ref (a 7), .ref (a 8), .ref (a 9), .ref (a 10), .int (nI (y_n (x_Y X))), .long (y_rp (x_Y X))])), ((a 7), .inl (cI, 9, .inl (y_sz (x_Y X)))), ((a 8), .inl (cZ, 9, .inl (y_ac (x_Y X)))), ((a 9), .inl (cI, 9, .inl (y_li (x_Y X)))), ((a 10), .inl (cJ, 9, .inr (.inl (y_sh (x_Y X)))))] s.heap := hP
  have hl := lv_entry ([.ref (a 0), .int v_g]) (n := 4) (Nat.le_of_ble_eq_true rfl)
  rw [lg_entry_eq]
  generalize (lg_sl ([.ref (a 0), .int v_g]) ++ List.replicate (4 - (lg_sl ([.ref (a 0), .int v_g])).length) Slot.unset).toArray = ls at hl ⊢
  have hl : lv_has ls 4 [(0, .ref (a 0)), (1, .int v_g)] := hl
  refine lv_iconst (v := 0) hx hb dL_filled_0 (by decide) ?_
  refine lv_istore_n (lv' := [(2, .int 0), (0, .ref (a 0)), (1, .int v_g)]) hx hb dL_filled_1 rfl hl (by decide) rfl (fun ls hl => ?_)
  refine lv_iconst (v := 0) hx hb dL_filled_2 (by decide) ?_
  refine lv_istore_n (lv' := [(3, .int 0), (2, .int 0), (0, .ref (a 0)), (1, .int v_g)]) hx hb dL_filled_3 rfl hl (by decide) rfl (fun ls hl => ?_)
  have cut_4 : ∀ (d : Nat) (n_g : Nat), n_g ≤ 36 → 36 + 1 ≤ n_g + d → ∀ (H : Heap) (locs : List Loc), va_P G vwCl [((a 0), .inr (2, [.ref (a 6), .ref (a 1), .int (j_pp (x_J X)), .int (j_po (x_J X)), .int (j_mc (x_J X)), .int (j_dc (x_J X)), .int (j_is (x_J X))])), ((a 1), .inr (0, [.ref (a 6), .ref (a 2), .ref (a 3), .ref (a 4), .ref (a 5), .int (s_fc (x_S X)), .int (s_fs (x_S X)), .int (s_sm (x_S X)), .int (s_sc (x_S X)), .int (s_sf (x_S X))])), ((a 2), .inl (cI, 800, .inl (s_fo (x_S X)))), ((a 3), .inl (cI, 800, .inl (s_or (x_S X)))), ((a 4), .inl (cI, 800, .inl (s_mo (x_S X)))), ((a 5), .inl (cI, 2048, .inl (s_sl (x_S X)))), ((a 6), .inr (1, [.ref (a 7), .ref (a 8), .ref (a 9), .ref (a 10), .int (nI (y_n (x_Y X))), .long (y_rp (x_Y X))])), ((a 7), .inl (cI, 9, .inl (y_sz (x_Y X)))), ((a 8), .inl (cZ, 9, .inl (y_ac (x_Y X)))), ((a 9), .inl (cI, 9, .inl (y_li (x_Y X)))), ((a 10), .inl (cJ, 9, .inr (.inl (y_sh (x_Y X)))))] H → va_S (ro_A s.heap.size) s.heap H locs → ∀ (ls : Array Slot), lv_has ls 4 [(0, .ref (a 0)), (1, .int v_g), (2, .int (nI (fl9 X v_g n_g))), (3, .int (nI n_g))] → W p l e (headSpec wsL_filled ({ frames := 4, cells := 0, slots := 0, locals := 90 })).room s m ([.ref (a 0), .int v_g] : List Value).toArray below meth c H locs 0 0 (MQ below (ro_Qi (nI (fl9 X v_g 36)) s.heap.size) ([.ref (a 0), .int v_g] : List Value).toArray s 0 0 (ro_A s.heap.size)) (F0 m 4 ls []) := by
    intro d
    induction d with
    | zero =>
      intro n_g hk_4 hd_4
      exact absurd hd_4 (by omega)
    | succ d ih_4 =>
      intro n_g hk_4 hd_4  H locs hP hS ls hl
      refine lv_iload_n hx hb dL_filled_4 rfl (lv_at hl 3 rfl) ?_
      refine lv_bipush (v := 36) hx hb dL_filled_5 (by decide) ?_
      refine lv_icmp_ge (tgt := 40) hx hb dL_filled_7 (by decide) (fun c_1 => ?_) (fun c_1 => ?_)
      · have c_1 : 36 ≤ n_g := (nI_leI (a := 36) (b := n_g) (by omega) (by omega)).mp c_1
        have h36 : n_g = 36 := by omega
        refine lv_iload_n hx hb dL_filled_40 rfl (lv_at hl 2 rfl) ?_
        exact W.iret (v := (nI (fl9 X v_g n_g))) hx hb hr (fun t ht hW => ⟨⟨(nI (fl9 X v_g n_g)), (), rfl, by rw [h36], trivial⟩, hS.F ht⟩) hS.2.2 dL_filled_41
      · have c_1 : n_g < 36 := Nat.not_le.mp (fun q => c_1 ((nI_leI (a := 36) (b := n_g) (by omega) (by omega)).mpr q))
        refine lv_iload_n hx hb dL_filled_10 rfl (lv_at hl 2 rfl) ?_
        refine lv_aload_n hx hb dL_filled_11 rfl (lv_at hl 0 rfl) ?_
        refine lv_iload_n hx hb dL_filled_12 rfl (lv_at hl 3 rfl) ?_
        refine lv_bipush (v := 6) hx hb dL_filled_13 (by decide) ?_
        refine lv_idiv hx hb dL_filled_15 (by decide) ?_
        rw [show ((nI n_g) / 6 : Int32) = (nI (n_g / 6)) from pk_div (a := n_g) (d := 6) (by omega) (by decide) (by decide)]
        refine lv_iload_n hx hb dL_filled_16 rfl (lv_at hl 3 rfl) ?_
        refine lv_bipush (v := 6) hx hb dL_filled_17 (by decide) ?_
        refine lv_irem hx hb dL_filled_19 (by decide) ?_
        rw [show ((nI n_g) - (nI n_g) / 6 * 6 : Int32) = (nI (n_g % 6)) from pk_rem (a := n_g) (d := 6) (by omega) (by decide) (by decide)]
        refine ro_i (va_runV (As := [.int (nI (n_g / 6)), .int (nI (n_g % 6))]) (rest := [.int (nI (fl9 X v_g n_g))]) ⟨hx, hb, hml, hown, hts⟩ ((c_X2_at l G cI cZ cJ a _ X (nI (n_g / 6)) (nI (n_g % 6)) hn (at_ok (by omega) (by omega)))) (cwV 2 hts gL_filled_X2_at rfl rfl rfl (by decide +kernel) ⟨Nat.le_of_ble_eq_true rfl, Nat.le_of_ble_eq_true rfl⟩) ⟨ro_blind, va_recv hK hP (ci := 2) (q0 := 0) rfl rfl, ro_pre hP hK hN⟩ rfl rfl hl.1 rfl (lv_room (Nat.le_of_ble_eq_true rfl)) dL_filled_20 ⟨Nat.zero_le _, Nat.zero_le _⟩) hS hA hP (fun H locs hP hS => ?_)
        rw [show y_on (x_Y X) (j_po (x_J X)) (co (nI (n_g / 6)) (nI (n_g % 6))) (y_n (x_Y X)) 0 = at9 X (n_g / 6) (n_g % 6) from rfl]
        refine lv_iload_n hx hb dL_filled_23 rfl (lv_at hl 1 rfl) ?_
        refine lv_icmp_ne (tgt := 31) hx hb dL_filled_24 (by decide) (fun c_2 => ?_) (fun c_2 => ?_)
        · refine lv_iconst (v := 0) hx hb dL_filled_31 (by decide) ?_
          refine lv_iadd hx hb dL_filled_32 ?_
          rw [show ((nI (fl9 X v_g n_g)) + 0 : Int32) = (nI ((fl9 X v_g n_g) + 0)) from nI_add (fl9 X v_g n_g) 0]
          rw [show ((nI ((fl9 X v_g n_g) + 0)) : Int32) = (nI (fl9 X v_g (n_g + 1))) from by first | rw [fl9_s, if_pos (by assumption)] | rw [fl9_s, if_neg (by assumption)]]
          refine lv_istore_n (lv' := [(2, .int (nI (fl9 X v_g (n_g + 1)))), (0, .ref (a 0)), (1, .int v_g), (3, .int (nI n_g))]) hx hb dL_filled_33 rfl hl (by decide) rfl (fun ls hl => ?_)
          refine lv_iinc (v := (nI (n_g + 1))) (lv' := [(3, .int (nI (n_g + 1))), (2, .int (nI (fl9 X v_g (n_g + 1)))), (0, .ref (a 0)), (1, .int v_g)]) hx hb dL_filled_34 hl (k := 3) rfl (nI_1 _) (by decide) rfl (fun ls hl => ?_)
          refine lv_goto (tgt := 4) hx hb dL_filled_37 (by decide) ?_
          exact ih_4 (n_g + 1) (by omega) (by omega) _ _ hP hS _ (lv_sub hl [2, 3, 1, 0] rfl)
        · refine lv_iconst (v := 1) hx hb dL_filled_27 (by decide) ?_
          refine lv_goto (tgt := 32) hx hb dL_filled_28 (by decide) ?_
          refine lv_iadd hx hb dL_filled_32 ?_
          rw [show ((nI (fl9 X v_g n_g)) + 1 : Int32) = (nI ((fl9 X v_g n_g) + 1)) from nI_add (fl9 X v_g n_g) 1]
          rw [show ((nI ((fl9 X v_g n_g) + 1)) : Int32) = (nI (fl9 X v_g (n_g + 1))) from by first | rw [fl9_s, if_pos (by assumption)] | rw [fl9_s, if_neg (by assumption)]]
          refine lv_istore_n (lv' := [(2, .int (nI (fl9 X v_g (n_g + 1)))), (0, .ref (a 0)), (1, .int v_g), (3, .int (nI n_g))]) hx hb dL_filled_33 rfl hl (by decide) rfl (fun ls hl => ?_)
          refine lv_iinc (v := (nI (n_g + 1))) (lv' := [(3, .int (nI (n_g + 1))), (2, .int (nI (fl9 X v_g (n_g + 1)))), (0, .ref (a 0)), (1, .int v_g)]) hx hb dL_filled_34 hl (k := 3) rfl (nI_1 _) (by decide) rfl (fun ls hl => ?_)
          refine lv_goto (tgt := 4) hx hb dL_filled_37 (by decide) ?_
          exact ih_4 (n_g + 1) (by omega) (by omega) _ _ hP hS _ (lv_sub hl [2, 3, 1, 0] rfl)
  exact cut_4 (36 + 1) 0 (by omega) (by omega) _ _ hP hS _ (lv_sub hl [2, 3, 1, 0] rfl)

set_option maxHeartbeats 4000000 in
set_option maxRecDepth 100000 in
/-- isWhole -/
theorem c_L_isWhole (l : Launch) (G : va_G) (cI cZ cJ : ClassId) (a : Nat → Nat) (sz : Nat) (X : XS) (ca_g : Nat) (cb_g : Nat) (C_g : Nat → Int32) (A_g : Nat → Int32) (rp_g : Int32) (hW : whO X C_g A_g rp_g) : Met l yL_isWhole wsL_isWhole ({ frames := 5, cells := 0, slots := 0, locals := 121 }) (ro_Pc G [(cI, .int), (cZ, .boolean), (cJ, .long)] (wI cI cZ cJ a ca_g cb_g X C_g A_g) sz [.ref (a 0), .ref ca_g, .ref cb_g, .int rp_g]) (ro_Qi 1 sz) 0 0 (ro_A sz) := by
  refine Met.ofW (cc := cL_isWhole) (maxL := 13) (ret := (some .boolean)) (by decide) rfl ?_
  intro p e s m args below meth c s₁ B hml hv
  obtain ⟨rfl, hsz, hP, hK, hN⟩ := hv
  have hx := B.exec
  have hb := B.bytes
  have hr := B.returns
  have hts := atoms_spec (ws := wsL_isWhole) B.pre
  have hown : s.vm.findClass RL = some m.cls := findClass_of_methodNamed B.named
  have hlocks := B.notSynchronized
  subst hsz
  have hA : ∀ q : Nat, s.heap.size ≤ q → (ro_A s.heap.size) q := fun _ h => h
  have hS : va_S (ro_A s.heap.size) s.heap s.heap [] := va_S.rf
  have hP : va_P G vwCl [((a 0), .inr (2, [.ref (a 6), .ref (a 1), .int (j_pp (x_J X)), .int (j_po (x_J X)), .int (j_mc (x_J X)), .int (j_dc (x_J X)), .int (j_is (x_J X))])), ((a 1), .inr (0, [.ref (a 6), .ref (a 2), .ref (a 3), .ref (a 4), .ref (a 5), .int (s_fc (x_S X)), .int (s_fs (x_S X)), .int (s_sm (x_S X)), .int (s_sc (x_S X)), .int (s_sf (x_S X))])), ((a 2), .inl (cI, 800, .inl (s_fo (x_S X)))), ((a 3), .inl (cI, 800, .inl (s_or (x_S X)))), ((a 4), .inl (cI, 800, .inl (s_mo (x_S X)))), ((a 5), .inl (cI, 2048, .inl (s_sl (x_S X)))), ((a 6), .inr (1, [.ref (a 7), .ref (a 8), .ref (a 9), .ref (a 10), .int (nI (y_n (x_Y X))), .long (y_rp (x_Y X))])), ((a 7), .inl (cI, 9, .inl (y_sz (x_Y X)))), ((a 8), .inl (cZ, 9, .inl (y_ac (x_Y X)))), ((a 9), .inl (cI, 9, .inl (y_li (x_Y X)))), ((a 10), .inl (cJ, 9, .inr (.inl (y_sh (x_Y X))))), (ca_g, .inl (cI, 9, .inl C_g)), (cb_g, .inl (cI, 9, .inl A_g))] s.heap := hP
  have hl := lv_entry ([.ref (a 0), .ref ca_g, .ref cb_g, .int rp_g]) (n := 13) (Nat.le_of_ble_eq_true rfl)
  rw [lg_entry_eq]
  generalize (lg_sl ([.ref (a 0), .ref ca_g, .ref cb_g, .int rp_g]) ++ List.replicate (13 - (lg_sl ([.ref (a 0), .ref ca_g, .ref cb_g, .int rp_g])).length) Slot.unset).toArray = ls at hl ⊢
  have hl : lv_has ls 13 [(0, .ref (a 0)), (1, .ref ca_g), (2, .ref cb_g), (3, .int rp_g)] := hl
  obtain ⟨hn0, hn, hf0, hV, hh0, hs0, hr0, hi0, hi1⟩ := hW
  refine lv_aload_n hx hb dL_isWhole_0 rfl (lv_at hl 0 rfl) ?_
  refine lv_aload_n hx hb dL_isWhole_1 rfl (lv_at hl 0 rfl) ?_
  have hPc := hP.sub (ws' := [((a 0), .inr (2, [.ref (a 6), .ref (a 1), .int (j_pp (x_J X)), .int (j_po (x_J X)), .int (j_mc (x_J X)), .int (j_dc (x_J X)), .int (j_is (x_J X))])), ((a 1), .inr (0, [.ref (a 6), .ref (a 2), .ref (a 3), .ref (a 4), .ref (a 5), .int (s_fc (x_S X)), .int (s_fs (x_S X)), .int (s_sm (x_S X)), .int (s_sc (x_S X)), .int (s_sf (x_S X))])), ((a 2), .inl (cI, 800, .inl (s_fo (x_S X)))), ((a 3), .inl (cI, 800, .inl (s_or (x_S X)))), ((a 4), .inl (cI, 800, .inl (s_mo (x_S X)))), ((a 5), .inl (cI, 2048, .inl (s_sl (x_S X)))), ((a 6), .inr (1, [.ref (a 7), .ref (a 8), .ref (a 9), .ref (a 10), .int (nI (y_n (x_Y X))), .long (y_rp (x_Y X))])), ((a 7), .inl (cI, 9, .inl (y_sz (x_Y X)))), ((a 8), .inl (cZ, 9, .inl (y_ac (x_Y X)))), ((a 9), .inl (cI, 9, .inl (y_li (x_Y X)))), ((a 10), .inl (cJ, 9, .inr (.inl (y_sh (x_Y X)))))]) [0, 1, 2, 3, 4, 5, 6, 7, 8, 9, 10] rfl
  refine ro_i (va_runV (As := []) (rest := [.ref (a 0)]) ⟨hx, hb, hml, hown, hts⟩ ((c_X2_vehicles l G cI cZ cJ a _ X )) (cwV 0 hts gL_isWhole_X2_vehicles rfl rfl rfl (by decide +kernel) ⟨Nat.le_of_ble_eq_true rfl, Nat.le_of_ble_eq_true rfl⟩) ⟨ro_blind, va_recv hK hPc (ci := 2) (q0 := 0) rfl rfl, ro_pre hPc hK hN⟩ rfl rfl hl.1 rfl (lv_room (Nat.le_of_ble_eq_true rfl)) dL_isWhole_2 ⟨Nat.zero_le _, Nat.zero_le _⟩) hS hA hP (fun H locs hP hS => ?_)
  have hPc := hP.sub (ws' := [((a 0), .inr (2, [.ref (a 6), .ref (a 1), .int (j_pp (x_J X)), .int (j_po (x_J X)), .int (j_mc (x_J X)), .int (j_dc (x_J X)), .int (j_is (x_J X))])), ((a 1), .inr (0, [.ref (a 6), .ref (a 2), .ref (a 3), .ref (a 4), .ref (a 5), .int (s_fc (x_S X)), .int (s_fs (x_S X)), .int (s_sm (x_S X)), .int (s_sc (x_S X)), .int (s_sf (x_S X))])), ((a 2), .inl (cI, 800, .inl (s_fo (x_S X)))), ((a 3), .inl (cI, 800, .inl (s_or (x_S X)))), ((a 4), .inl (cI, 800, .inl (s_mo (x_S X)))), ((a 5), .inl (cI, 2048, .inl (s_sl (x_S X)))), ((a 6), .inr (1, [.ref (a 7), .ref (a 8), .ref (a 9), .ref (a 10), .int (nI (y_n (x_Y X))), .long (y_rp (x_Y X))])), ((a 7), .inl (cI, 9, .inl (y_sz (x_Y X)))), ((a 8), .inl (cZ, 9, .inl (y_ac (x_Y X)))), ((a 9), .inl (cI, 9, .inl (y_li (x_Y X)))), ((a 10), .inl (cJ, 9, .inr (.inl (y_sh (x_Y X)))))]) [0, 1, 2, 3, 4, 5, 6, 7, 8, 9, 10] rfl
  refine ro_i (va_runS (As := [.ref (a 0), .int (nI (y_n (x_Y X)))]) (rest := []) ⟨hx, hb, hml, hown, hts⟩ ((c_L_filled l G cI cZ cJ a _ X (nI (y_n (x_Y X))) hn)) (va_cwS 2 hts gL_isWhole_L_filled rfl rfl rfl (by decide +kernel) ⟨Nat.le_of_ble_eq_true rfl, Nat.le_of_ble_eq_true rfl⟩) ⟨ro_blind, ro_pre hPc hK hN⟩ rfl rfl hl.1 rfl (lv_room (Nat.le_of_ble_eq_true rfl)) dL_isWhole_5 ⟨Nat.zero_le _, Nat.zero_le _⟩) hS hA hP (fun H locs hP hS => ?_)
  rw [hf0]
  refine lv_if_ne (tgt := 15) hx hb dL_isWhole_8 (by decide) (fun c_1 => ?_) (fun c_1 => ?_)
  · have c_1 : ¬ 0 = 0 := fun q => c_1 ((nI_eq (a := 0) (b := 0) (by omega) (by omega)).mpr q)
    exact absurd rfl c_1
  · have c_1 : 0 = 0 := (nI_eq (a := 0) (b := 0) (by omega) (by omega)).mp c_1
    refine lv_iconst (v := 1) hx hb dL_isWhole_11 (by decide) ?_
    refine lv_goto (tgt := 16) hx hb dL_isWhole_12 (by decide) ?_
    refine lv_istore (lv' := [(4, .int 1), (0, .ref (a 0)), (1, .ref ca_g), (2, .ref cb_g), (3, .int rp_g)]) hx hb dL_isWhole_16 hl (by decide) rfl (fun ls hl => ?_)
    refine lv_iconst (v := 0) hx hb dL_isWhole_18 (by decide) ?_
    refine lv_istore (lv' := [(5, .int 0), (4, .int 1), (0, .ref (a 0)), (1, .ref ca_g), (2, .ref cb_g), (3, .int rp_g)]) hx hb dL_isWhole_19 hl (by decide) rfl (fun ls hl => ?_)
    have cut_21 : ∀ (d : Nat) (v_g : Nat), v_g ≤ (y_n (x_Y X)) → (y_n (x_Y X)) + 1 ≤ v_g + d → ∀ (H : Heap) (locs : List Loc), va_P G vwCl [((a 0), .inr (2, [.ref (a 6), .ref (a 1), .int (j_pp (x_J X)), .int (j_po (x_J X)), .int (j_mc (x_J X)), .int (j_dc (x_J X)), .int (j_is (x_J X))])), ((a 1), .inr (0, [.ref (a 6), .ref (a 2), .ref (a 3), .ref (a 4), .ref (a 5), .int (s_fc (x_S X)), .int (s_fs (x_S X)), .int (s_sm (x_S X)), .int (s_sc (x_S X)), .int (s_sf (x_S X))])), ((a 2), .inl (cI, 800, .inl (s_fo (x_S X)))), ((a 3), .inl (cI, 800, .inl (s_or (x_S X)))), ((a 4), .inl (cI, 800, .inl (s_mo (x_S X)))), ((a 5), .inl (cI, 2048, .inl (s_sl (x_S X)))), ((a 6), .inr (1, [.ref (a 7), .ref (a 8), .ref (a 9), .ref (a 10), .int (nI (y_n (x_Y X))), .long (y_rp (x_Y X))])), ((a 7), .inl (cI, 9, .inl (y_sz (x_Y X)))), ((a 8), .inl (cZ, 9, .inl (y_ac (x_Y X)))), ((a 9), .inl (cI, 9, .inl (y_li (x_Y X)))), ((a 10), .inl (cJ, 9, .inr (.inl (y_sh (x_Y X))))), (ca_g, .inl (cI, 9, .inl C_g)), (cb_g, .inl (cI, 9, .inl A_g))] H → va_S (ro_A s.heap.size) s.heap H locs → ∀ (ls : Array Slot), lv_has ls 13 [(0, .ref (a 0)), (1, .ref ca_g), (2, .ref cb_g), (3, .int rp_g), (4, .int 1), (5, .int (nI v_g))] → W p l e (headSpec wsL_isWhole ({ frames := 5, cells := 0, slots := 0, locals := 121 })).room s m ([.ref (a 0), .ref ca_g, .ref cb_g, .int rp_g] : List Value).toArray below meth c H locs 0 0 (MQ below (ro_Qi 1 s.heap.size) ([.ref (a 0), .ref ca_g, .ref cb_g, .int rp_g] : List Value).toArray s 0 0 (ro_A s.heap.size)) (F0 m 21 ls []) := by
      intro d
      induction d with
      | zero =>
        intro v_g hk_21 hd_21
        exact absurd hd_21 (by omega)
      | succ d ih_21 =>
        intro v_g hk_21 hd_21  H locs hP hS ls hl
        refine lv_iload hx hb dL_isWhole_21 (lv_at hl 5 rfl) ?_
        refine lv_aload_n hx hb dL_isWhole_23 rfl (lv_at hl 0 rfl) ?_
        have hPc := hP.sub (ws' := [((a 0), .inr (2, [.ref (a 6), .ref (a 1), .int (j_pp (x_J X)), .int (j_po (x_J X)), .int (j_mc (x_J X)), .int (j_dc (x_J X)), .int (j_is (x_J X))])), ((a 1), .inr (0, [.ref (a 6), .ref (a 2), .ref (a 3), .ref (a 4), .ref (a 5), .int (s_fc (x_S X)), .int (s_fs (x_S X)), .int (s_sm (x_S X)), .int (s_sc (x_S X)), .int (s_sf (x_S X))])), ((a 2), .inl (cI, 800, .inl (s_fo (x_S X)))), ((a 3), .inl (cI, 800, .inl (s_or (x_S X)))), ((a 4), .inl (cI, 800, .inl (s_mo (x_S X)))), ((a 5), .inl (cI, 2048, .inl (s_sl (x_S X)))), ((a 6), .inr (1, [.ref (a 7), .ref (a 8), .ref (a 9), .ref (a 10), .int (nI (y_n (x_Y X))), .long (y_rp (x_Y X))])), ((a 7), .inl (cI, 9, .inl (y_sz (x_Y X)))), ((a 8), .inl (cZ, 9, .inl (y_ac (x_Y X)))), ((a 9), .inl (cI, 9, .inl (y_li (x_Y X)))), ((a 10), .inl (cJ, 9, .inr (.inl (y_sh (x_Y X)))))]) [0, 1, 2, 3, 4, 5, 6, 7, 8, 9, 10] rfl
        refine ro_i (va_runV (As := []) (rest := [.int (nI v_g)]) ⟨hx, hb, hml, hown, hts⟩ ((c_X2_vehicles l G cI cZ cJ a _ X )) (cwV 0 hts gL_isWhole_X2_vehicles rfl rfl rfl (by decide +kernel) ⟨Nat.le_of_ble_eq_true rfl, Nat.le_of_ble_eq_true rfl⟩) ⟨ro_blind, va_recv hK hPc (ci := 2) (q0 := 0) rfl rfl, ro_pre hPc hK hN⟩ rfl rfl hl.1 rfl (lv_room (Nat.le_of_ble_eq_true rfl)) dL_isWhole_24 ⟨Nat.zero_le _, Nat.zero_le _⟩) hS hA hP (fun H locs hP hS => ?_)
        refine lv_icmp_ge (tgt := 254) hx hb dL_isWhole_27 (by decide) (fun c_2 => ?_) (fun c_2 => ?_)
        · have c_2 : (y_n (x_Y X)) ≤ v_g := (nI_leI (a := (y_n (x_Y X))) (b := v_g) (by omega) (by omega)).mp c_2
          refine lv_iload hx hb dL_isWhole_254 (lv_at hl 4 rfl) ?_
          refine lv_if_eq (tgt := 318) hx hb dL_isWhole_256 (by decide) (fun c_3 => ?_) (fun c_3 => ?_)
          · exact absurd c_3 (by decide)
          · refine lv_aload_n hx hb dL_isWhole_259 rfl (lv_at hl 0 rfl) ?_
            have hPc := hP.sub (ws' := [((a 0), .inr (2, [.ref (a 6), .ref (a 1), .int (j_pp (x_J X)), .int (j_po (x_J X)), .int (j_mc (x_J X)), .int (j_dc (x_J X)), .int (j_is (x_J X))])), ((a 1), .inr (0, [.ref (a 6), .ref (a 2), .ref (a 3), .ref (a 4), .ref (a 5), .int (s_fc (x_S X)), .int (s_fs (x_S X)), .int (s_sm (x_S X)), .int (s_sc (x_S X)), .int (s_sf (x_S X))])), ((a 2), .inl (cI, 800, .inl (s_fo (x_S X)))), ((a 3), .inl (cI, 800, .inl (s_or (x_S X)))), ((a 4), .inl (cI, 800, .inl (s_mo (x_S X)))), ((a 5), .inl (cI, 2048, .inl (s_sl (x_S X)))), ((a 6), .inr (1, [.ref (a 7), .ref (a 8), .ref (a 9), .ref (a 10), .int (nI (y_n (x_Y X))), .long (y_rp (x_Y X))])), ((a 7), .inl (cI, 9, .inl (y_sz (x_Y X)))), ((a 8), .inl (cZ, 9, .inl (y_ac (x_Y X)))), ((a 9), .inl (cI, 9, .inl (y_li (x_Y X)))), ((a 10), .inl (cJ, 9, .inr (.inl (y_sh (x_Y X)))))]) [0, 1, 2, 3, 4, 5, 6, 7, 8, 9, 10] rfl
            refine ro_i (va_runV (As := []) (rest := []) ⟨hx, hb, hml, hown, hts⟩ ((c_X2_isSolved l G cI cZ cJ a _ X )) (cwV 0 hts gL_isWhole_X2_isSolved rfl rfl rfl (by decide +kernel) ⟨Nat.le_of_ble_eq_true rfl, Nat.le_of_ble_eq_true rfl⟩) ⟨ro_blind, va_recv hK hPc (ci := 2) (q0 := 0) rfl rfl, ro_pre hPc hK hN⟩ rfl rfl hl.1 rfl (lv_room (Nat.le_of_ble_eq_true rfl)) dL_isWhole_260 ⟨Nat.zero_le _, Nat.zero_le _⟩) hS hA hP (fun H locs hP hS => ?_)
            refine lv_aload_n hx hb dL_isWhole_263 rfl (lv_at hl 0 rfl) ?_
            refine lv_iconst (v := 0) hx hb dL_isWhole_264 (by decide) ?_
            have hPc := hP.sub (ws' := [((a 0), .inr (2, [.ref (a 6), .ref (a 1), .int (j_pp (x_J X)), .int (j_po (x_J X)), .int (j_mc (x_J X)), .int (j_dc (x_J X)), .int (j_is (x_J X))])), ((a 1), .inr (0, [.ref (a 6), .ref (a 2), .ref (a 3), .ref (a 4), .ref (a 5), .int (s_fc (x_S X)), .int (s_fs (x_S X)), .int (s_sm (x_S X)), .int (s_sc (x_S X)), .int (s_sf (x_S X))])), ((a 2), .inl (cI, 800, .inl (s_fo (x_S X)))), ((a 3), .inl (cI, 800, .inl (s_or (x_S X)))), ((a 4), .inl (cI, 800, .inl (s_mo (x_S X)))), ((a 5), .inl (cI, 2048, .inl (s_sl (x_S X)))), ((a 6), .inr (1, [.ref (a 7), .ref (a 8), .ref (a 9), .ref (a 10), .int (nI (y_n (x_Y X))), .long (y_rp (x_Y X))])), ((a 7), .inl (cI, 9, .inl (y_sz (x_Y X)))), ((a 8), .inl (cZ, 9, .inl (y_ac (x_Y X)))), ((a 9), .inl (cI, 9, .inl (y_li (x_Y X)))), ((a 10), .inl (cJ, 9, .inr (.inl (y_sh (x_Y X)))))]) [0, 1, 2, 3, 4, 5, 6, 7, 8, 9, 10] rfl
            refine ro_i (va_runV (As := [.int 0]) (rest := [.int (b1 (pl (j_po (x_J X)) 0 = 4))]) ⟨hx, hb, hml, hown, hts⟩ ((c_X2_columnOf l G cI cZ cJ a _ X 0 hn hh0)) (cwV 1 hts gL_isWhole_X2_columnOf rfl rfl rfl (by decide +kernel) ⟨Nat.le_of_ble_eq_true rfl, Nat.le_of_ble_eq_true rfl⟩) ⟨ro_blind, va_recv hK hPc (ci := 2) (q0 := 0) rfl rfl, ro_pre hPc hK hN⟩ rfl rfl hl.1 rfl (lv_room (Nat.le_of_ble_eq_true rfl)) dL_isWhole_265 ⟨Nat.zero_le _, Nat.zero_le _⟩) hS hA hP (fun H locs hP hS => ?_)
            refine lv_iconst (v := 4) hx hb dL_isWhole_268 (by decide) ?_
            refine lv_icmp_ne (tgt := 276) hx hb dL_isWhole_269 (by decide) (fun c_4 => ?_) (fun c_4 => ?_)
            · refine lv_iconst (v := 0) hx hb dL_isWhole_276 (by decide) ?_
              refine lv_icmp_ne (tgt := 318) hx hb dL_isWhole_277 (by decide) (fun c_5 => ?_) (fun c_5 => ?_)
              · exact absurd (by first | exact if_pos (hs0.mpr (by assumption)) | exact if_neg (fun z => absurd (hs0.mp z) (by assumption))) c_5
              · refine lv_aload_n hx hb dL_isWhole_280 rfl (lv_at hl 0 rfl) ?_
                refine lv_iconst (v := 0) hx hb dL_isWhole_281 (by decide) ?_
                have hPc := hP.sub (ws' := [((a 0), .inr (2, [.ref (a 6), .ref (a 1), .int (j_pp (x_J X)), .int (j_po (x_J X)), .int (j_mc (x_J X)), .int (j_dc (x_J X)), .int (j_is (x_J X))])), ((a 1), .inr (0, [.ref (a 6), .ref (a 2), .ref (a 3), .ref (a 4), .ref (a 5), .int (s_fc (x_S X)), .int (s_fs (x_S X)), .int (s_sm (x_S X)), .int (s_sc (x_S X)), .int (s_sf (x_S X))])), ((a 2), .inl (cI, 800, .inl (s_fo (x_S X)))), ((a 3), .inl (cI, 800, .inl (s_or (x_S X)))), ((a 4), .inl (cI, 800, .inl (s_mo (x_S X)))), ((a 5), .inl (cI, 2048, .inl (s_sl (x_S X)))), ((a 6), .inr (1, [.ref (a 7), .ref (a 8), .ref (a 9), .ref (a 10), .int (nI (y_n (x_Y X))), .long (y_rp (x_Y X))])), ((a 7), .inl (cI, 9, .inl (y_sz (x_Y X)))), ((a 8), .inl (cZ, 9, .inl (y_ac (x_Y X)))), ((a 9), .inl (cI, 9, .inl (y_li (x_Y X)))), ((a 10), .inl (cJ, 9, .inr (.inl (y_sh (x_Y X)))))]) [0, 1, 2, 3, 4, 5, 6, 7, 8, 9, 10] rfl
                refine ro_i (va_runV (As := [.int 0]) (rest := []) ⟨hx, hb, hml, hown, hts⟩ ((c_X2_rowOf l G cI cZ cJ a _ X 0 hn hh0)) (cwV 1 hts gL_isWhole_X2_rowOf rfl rfl rfl (by decide +kernel) ⟨Nat.le_of_ble_eq_true rfl, Nat.le_of_ble_eq_true rfl⟩) ⟨ro_blind, va_recv hK hPc (ci := 2) (q0 := 0) rfl rfl, ro_pre hPc hK hN⟩ rfl rfl hl.1 rfl (lv_room (Nat.le_of_ble_eq_true rfl)) dL_isWhole_282 ⟨Nat.zero_le _, Nat.zero_le _⟩) hS hA hP (fun H locs hP hS => ?_)
                rw [show ((j_row X 0) : Int32) = 2 from hr0]
                refine lv_iconst (v := 2) hx hb dL_isWhole_285 (by decide) ?_
                refine lv_icmp_ne (tgt := 318) hx hb dL_isWhole_286 (by decide) (fun c_6 => ?_) (fun c_6 => ?_)
                · exact absurd rfl c_6
                · refine lv_aload_n hx hb dL_isWhole_289 rfl (lv_at hl 0 rfl) ?_
                  have hPc := hP.sub (ws' := [((a 0), .inr (2, [.ref (a 6), .ref (a 1), .int (j_pp (x_J X)), .int (j_po (x_J X)), .int (j_mc (x_J X)), .int (j_dc (x_J X)), .int (j_is (x_J X))])), ((a 1), .inr (0, [.ref (a 6), .ref (a 2), .ref (a 3), .ref (a 4), .ref (a 5), .int (s_fc (x_S X)), .int (s_fs (x_S X)), .int (s_sm (x_S X)), .int (s_sc (x_S X)), .int (s_sf (x_S X))])), ((a 2), .inl (cI, 800, .inl (s_fo (x_S X)))), ((a 3), .inl (cI, 800, .inl (s_or (x_S X)))), ((a 4), .inl (cI, 800, .inl (s_mo (x_S X)))), ((a 5), .inl (cI, 2048, .inl (s_sl (x_S X)))), ((a 6), .inr (1, [.ref (a 7), .ref (a 8), .ref (a 9), .ref (a 10), .int (nI (y_n (x_Y X))), .long (y_rp (x_Y X))])), ((a 7), .inl (cI, 9, .inl (y_sz (x_Y X)))), ((a 8), .inl (cZ, 9, .inl (y_ac (x_Y X)))), ((a 9), .inl (cI, 9, .inl (y_li (x_Y X)))), ((a 10), .inl (cJ, 9, .inr (.inl (y_sh (x_Y X)))))]) [0, 1, 2, 3, 4, 5, 6, 7, 8, 9, 10] rfl
                  refine ro_i (va_runV (As := []) (rest := []) ⟨hx, hb, hml, hown, hts⟩ ((c_X2_inTheWay l G cI cZ cJ a _ X hn)) (cwV 0 hts gL_isWhole_X2_inTheWay rfl rfl rfl (by decide +kernel) ⟨Nat.le_of_ble_eq_true rfl, Nat.le_of_ble_eq_true rfl⟩) ⟨ro_blind, va_recv hK hPc (ci := 2) (q0 := 0) rfl rfl, ro_pre hPc hK hN⟩ rfl rfl hl.1 rfl (lv_room (Nat.le_of_ble_eq_true rfl)) dL_isWhole_290 ⟨Nat.zero_le _, Nat.zero_le _⟩) hS hA hP (fun H locs hP hS => ?_)
                  refine lv_aload_n hx hb dL_isWhole_293 rfl (lv_at hl 0 rfl) ?_
                  have hPc := hP.sub (ws' := [((a 0), .inr (2, [.ref (a 6), .ref (a 1), .int (j_pp (x_J X)), .int (j_po (x_J X)), .int (j_mc (x_J X)), .int (j_dc (x_J X)), .int (j_is (x_J X))])), ((a 1), .inr (0, [.ref (a 6), .ref (a 2), .ref (a 3), .ref (a 4), .ref (a 5), .int (s_fc (x_S X)), .int (s_fs (x_S X)), .int (s_sm (x_S X)), .int (s_sc (x_S X)), .int (s_sf (x_S X))])), ((a 2), .inl (cI, 800, .inl (s_fo (x_S X)))), ((a 3), .inl (cI, 800, .inl (s_or (x_S X)))), ((a 4), .inl (cI, 800, .inl (s_mo (x_S X)))), ((a 5), .inl (cI, 2048, .inl (s_sl (x_S X)))), ((a 6), .inr (1, [.ref (a 7), .ref (a 8), .ref (a 9), .ref (a 10), .int (nI (y_n (x_Y X))), .long (y_rp (x_Y X))])), ((a 7), .inl (cI, 9, .inl (y_sz (x_Y X)))), ((a 8), .inl (cZ, 9, .inl (y_ac (x_Y X)))), ((a 9), .inl (cI, 9, .inl (y_li (x_Y X)))), ((a 10), .inl (cJ, 9, .inr (.inl (y_sh (x_Y X)))))]) [0, 1, 2, 3, 4, 5, 6, 7, 8, 9, 10] rfl
                  refine ro_i (va_runV (As := []) (rest := [.int (j_itw X)]) ⟨hx, hb, hml, hown, hts⟩ ((c_X2_vehicles l G cI cZ cJ a _ X )) (cwV 0 hts gL_isWhole_X2_vehicles rfl rfl rfl (by decide +kernel) ⟨Nat.le_of_ble_eq_true rfl, Nat.le_of_ble_eq_true rfl⟩) ⟨ro_blind, va_recv hK hPc (ci := 2) (q0 := 0) rfl rfl, ro_pre hPc hK hN⟩ rfl rfl hl.1 rfl (lv_room (Nat.le_of_ble_eq_true rfl)) dL_isWhole_294 ⟨Nat.zero_le _, Nat.zero_le _⟩) hS hA hP (fun H locs hP hS => ?_)
                  refine lv_icmp_ge (tgt := 318) hx hb dL_isWhole_297 (by decide) (fun c_7 => ?_) (fun c_7 => ?_)
                  · exact absurd hi0 (Int32.not_lt.mpr c_7)
                  · refine lv_aload_n hx hb dL_isWhole_300 rfl (lv_at hl 0 rfl) ?_
                    have hPc := hP.sub (ws' := [((a 0), .inr (2, [.ref (a 6), .ref (a 1), .int (j_pp (x_J X)), .int (j_po (x_J X)), .int (j_mc (x_J X)), .int (j_dc (x_J X)), .int (j_is (x_J X))])), ((a 1), .inr (0, [.ref (a 6), .ref (a 2), .ref (a 3), .ref (a 4), .ref (a 5), .int (s_fc (x_S X)), .int (s_fs (x_S X)), .int (s_sm (x_S X)), .int (s_sc (x_S X)), .int (s_sf (x_S X))])), ((a 2), .inl (cI, 800, .inl (s_fo (x_S X)))), ((a 3), .inl (cI, 800, .inl (s_or (x_S X)))), ((a 4), .inl (cI, 800, .inl (s_mo (x_S X)))), ((a 5), .inl (cI, 2048, .inl (s_sl (x_S X)))), ((a 6), .inr (1, [.ref (a 7), .ref (a 8), .ref (a 9), .ref (a 10), .int (nI (y_n (x_Y X))), .long (y_rp (x_Y X))])), ((a 7), .inl (cI, 9, .inl (y_sz (x_Y X)))), ((a 8), .inl (cZ, 9, .inl (y_ac (x_Y X)))), ((a 9), .inl (cI, 9, .inl (y_li (x_Y X)))), ((a 10), .inl (cJ, 9, .inr (.inl (y_sh (x_Y X)))))]) [0, 1, 2, 3, 4, 5, 6, 7, 8, 9, 10] rfl
                    refine ro_i (va_runV (As := []) (rest := []) ⟨hx, hb, hml, hown, hts⟩ ((c_X2_isSolved l G cI cZ cJ a _ X )) (cwV 0 hts gL_isWhole_X2_isSolved rfl rfl rfl (by decide +kernel) ⟨Nat.le_of_ble_eq_true rfl, Nat.le_of_ble_eq_true rfl⟩) ⟨ro_blind, va_recv hK hPc (ci := 2) (q0 := 0) rfl rfl, ro_pre hPc hK hN⟩ rfl rfl hl.1 rfl (lv_room (Nat.le_of_ble_eq_true rfl)) dL_isWhole_301 ⟨Nat.zero_le _, Nat.zero_le _⟩) hS hA hP (fun H locs hP hS => ?_)
                    refine lv_if_eq (tgt := 314) hx hb dL_isWhole_304 (by decide) (fun c_8 => ?_) (fun c_8 => ?_)
                    · have c_8 := b1_f c_8
                      refine lv_iconst (v := 1) hx hb dL_isWhole_314 (by decide) ?_
                      refine lv_goto (tgt := 319) hx hb dL_isWhole_315 (by decide) ?_
                      exact W.zret (ty := .boolean) (v := 1) hx hb hr (rfl) (fun t ht hW => ⟨⟨1, (), rfl, rfl, trivial⟩, hS.F ht⟩) hS.2.2 dL_isWhole_319
                    · have c_8 := b1_t c_8
                      refine lv_aload_n hx hb dL_isWhole_307 rfl (lv_at hl 0 rfl) ?_
                      have hPc := hP.sub (ws' := [((a 0), .inr (2, [.ref (a 6), .ref (a 1), .int (j_pp (x_J X)), .int (j_po (x_J X)), .int (j_mc (x_J X)), .int (j_dc (x_J X)), .int (j_is (x_J X))])), ((a 1), .inr (0, [.ref (a 6), .ref (a 2), .ref (a 3), .ref (a 4), .ref (a 5), .int (s_fc (x_S X)), .int (s_fs (x_S X)), .int (s_sm (x_S X)), .int (s_sc (x_S X)), .int (s_sf (x_S X))])), ((a 2), .inl (cI, 800, .inl (s_fo (x_S X)))), ((a 3), .inl (cI, 800, .inl (s_or (x_S X)))), ((a 4), .inl (cI, 800, .inl (s_mo (x_S X)))), ((a 5), .inl (cI, 2048, .inl (s_sl (x_S X)))), ((a 6), .inr (1, [.ref (a 7), .ref (a 8), .ref (a 9), .ref (a 10), .int (nI (y_n (x_Y X))), .long (y_rp (x_Y X))])), ((a 7), .inl (cI, 9, .inl (y_sz (x_Y X)))), ((a 8), .inl (cZ, 9, .inl (y_ac (x_Y X)))), ((a 9), .inl (cI, 9, .inl (y_li (x_Y X)))), ((a 10), .inl (cJ, 9, .inr (.inl (y_sh (x_Y X)))))]) [0, 1, 2, 3, 4, 5, 6, 7, 8, 9, 10] rfl
                      refine ro_i (va_runV (As := []) (rest := []) ⟨hx, hb, hml, hown, hts⟩ ((c_X2_inTheWay l G cI cZ cJ a _ X hn)) (cwV 0 hts gL_isWhole_X2_inTheWay rfl rfl rfl (by decide +kernel) ⟨Nat.le_of_ble_eq_true rfl, Nat.le_of_ble_eq_true rfl⟩) ⟨ro_blind, va_recv hK hPc (ci := 2) (q0 := 0) rfl rfl, ro_pre hPc hK hN⟩ rfl rfl hl.1 rfl (lv_room (Nat.le_of_ble_eq_true rfl)) dL_isWhole_308 ⟨Nat.zero_le _, Nat.zero_le _⟩) hS hA hP (fun H locs hP hS => ?_)
                      rw [show ((j_itw X) : Int32) = 0 from hi1 (by assumption)]
                      refine lv_if_ne (tgt := 318) hx hb dL_isWhole_311 (by decide) (fun c_9 => ?_) (fun c_9 => ?_)
                      · exact absurd rfl c_9
                      · refine lv_iconst (v := 1) hx hb dL_isWhole_314 (by decide) ?_
                        refine lv_goto (tgt := 319) hx hb dL_isWhole_315 (by decide) ?_
                        exact W.zret (ty := .boolean) (v := 1) hx hb hr (rfl) (fun t ht hW => ⟨⟨1, (), rfl, rfl, trivial⟩, hS.F ht⟩) hS.2.2 dL_isWhole_319
            · refine lv_iconst (v := 1) hx hb dL_isWhole_272 (by decide) ?_
              refine lv_goto (tgt := 277) hx hb dL_isWhole_273 (by decide) ?_
              refine lv_icmp_ne (tgt := 318) hx hb dL_isWhole_277 (by decide) (fun c_10 => ?_) (fun c_10 => ?_)
              · exact absurd (by first | exact if_pos (hs0.mpr (by assumption)) | exact if_neg (fun z => absurd (hs0.mp z) (by assumption))) c_10
              · refine lv_aload_n hx hb dL_isWhole_280 rfl (lv_at hl 0 rfl) ?_
                refine lv_iconst (v := 0) hx hb dL_isWhole_281 (by decide) ?_
                have hPc := hP.sub (ws' := [((a 0), .inr (2, [.ref (a 6), .ref (a 1), .int (j_pp (x_J X)), .int (j_po (x_J X)), .int (j_mc (x_J X)), .int (j_dc (x_J X)), .int (j_is (x_J X))])), ((a 1), .inr (0, [.ref (a 6), .ref (a 2), .ref (a 3), .ref (a 4), .ref (a 5), .int (s_fc (x_S X)), .int (s_fs (x_S X)), .int (s_sm (x_S X)), .int (s_sc (x_S X)), .int (s_sf (x_S X))])), ((a 2), .inl (cI, 800, .inl (s_fo (x_S X)))), ((a 3), .inl (cI, 800, .inl (s_or (x_S X)))), ((a 4), .inl (cI, 800, .inl (s_mo (x_S X)))), ((a 5), .inl (cI, 2048, .inl (s_sl (x_S X)))), ((a 6), .inr (1, [.ref (a 7), .ref (a 8), .ref (a 9), .ref (a 10), .int (nI (y_n (x_Y X))), .long (y_rp (x_Y X))])), ((a 7), .inl (cI, 9, .inl (y_sz (x_Y X)))), ((a 8), .inl (cZ, 9, .inl (y_ac (x_Y X)))), ((a 9), .inl (cI, 9, .inl (y_li (x_Y X)))), ((a 10), .inl (cJ, 9, .inr (.inl (y_sh (x_Y X)))))]) [0, 1, 2, 3, 4, 5, 6, 7, 8, 9, 10] rfl
                refine ro_i (va_runV (As := [.int 0]) (rest := []) ⟨hx, hb, hml, hown, hts⟩ ((c_X2_rowOf l G cI cZ cJ a _ X 0 hn hh0)) (cwV 1 hts gL_isWhole_X2_rowOf rfl rfl rfl (by decide +kernel) ⟨Nat.le_of_ble_eq_true rfl, Nat.le_of_ble_eq_true rfl⟩) ⟨ro_blind, va_recv hK hPc (ci := 2) (q0 := 0) rfl rfl, ro_pre hPc hK hN⟩ rfl rfl hl.1 rfl (lv_room (Nat.le_of_ble_eq_true rfl)) dL_isWhole_282 ⟨Nat.zero_le _, Nat.zero_le _⟩) hS hA hP (fun H locs hP hS => ?_)
                rw [show ((j_row X 0) : Int32) = 2 from hr0]
                refine lv_iconst (v := 2) hx hb dL_isWhole_285 (by decide) ?_
                refine lv_icmp_ne (tgt := 318) hx hb dL_isWhole_286 (by decide) (fun c_11 => ?_) (fun c_11 => ?_)
                · exact absurd rfl c_11
                · refine lv_aload_n hx hb dL_isWhole_289 rfl (lv_at hl 0 rfl) ?_
                  have hPc := hP.sub (ws' := [((a 0), .inr (2, [.ref (a 6), .ref (a 1), .int (j_pp (x_J X)), .int (j_po (x_J X)), .int (j_mc (x_J X)), .int (j_dc (x_J X)), .int (j_is (x_J X))])), ((a 1), .inr (0, [.ref (a 6), .ref (a 2), .ref (a 3), .ref (a 4), .ref (a 5), .int (s_fc (x_S X)), .int (s_fs (x_S X)), .int (s_sm (x_S X)), .int (s_sc (x_S X)), .int (s_sf (x_S X))])), ((a 2), .inl (cI, 800, .inl (s_fo (x_S X)))), ((a 3), .inl (cI, 800, .inl (s_or (x_S X)))), ((a 4), .inl (cI, 800, .inl (s_mo (x_S X)))), ((a 5), .inl (cI, 2048, .inl (s_sl (x_S X)))), ((a 6), .inr (1, [.ref (a 7), .ref (a 8), .ref (a 9), .ref (a 10), .int (nI (y_n (x_Y X))), .long (y_rp (x_Y X))])), ((a 7), .inl (cI, 9, .inl (y_sz (x_Y X)))), ((a 8), .inl (cZ, 9, .inl (y_ac (x_Y X)))), ((a 9), .inl (cI, 9, .inl (y_li (x_Y X)))), ((a 10), .inl (cJ, 9, .inr (.inl (y_sh (x_Y X)))))]) [0, 1, 2, 3, 4, 5, 6, 7, 8, 9, 10] rfl
                  refine ro_i (va_runV (As := []) (rest := []) ⟨hx, hb, hml, hown, hts⟩ ((c_X2_inTheWay l G cI cZ cJ a _ X hn)) (cwV 0 hts gL_isWhole_X2_inTheWay rfl rfl rfl (by decide +kernel) ⟨Nat.le_of_ble_eq_true rfl, Nat.le_of_ble_eq_true rfl⟩) ⟨ro_blind, va_recv hK hPc (ci := 2) (q0 := 0) rfl rfl, ro_pre hPc hK hN⟩ rfl rfl hl.1 rfl (lv_room (Nat.le_of_ble_eq_true rfl)) dL_isWhole_290 ⟨Nat.zero_le _, Nat.zero_le _⟩) hS hA hP (fun H locs hP hS => ?_)
                  refine lv_aload_n hx hb dL_isWhole_293 rfl (lv_at hl 0 rfl) ?_
                  have hPc := hP.sub (ws' := [((a 0), .inr (2, [.ref (a 6), .ref (a 1), .int (j_pp (x_J X)), .int (j_po (x_J X)), .int (j_mc (x_J X)), .int (j_dc (x_J X)), .int (j_is (x_J X))])), ((a 1), .inr (0, [.ref (a 6), .ref (a 2), .ref (a 3), .ref (a 4), .ref (a 5), .int (s_fc (x_S X)), .int (s_fs (x_S X)), .int (s_sm (x_S X)), .int (s_sc (x_S X)), .int (s_sf (x_S X))])), ((a 2), .inl (cI, 800, .inl (s_fo (x_S X)))), ((a 3), .inl (cI, 800, .inl (s_or (x_S X)))), ((a 4), .inl (cI, 800, .inl (s_mo (x_S X)))), ((a 5), .inl (cI, 2048, .inl (s_sl (x_S X)))), ((a 6), .inr (1, [.ref (a 7), .ref (a 8), .ref (a 9), .ref (a 10), .int (nI (y_n (x_Y X))), .long (y_rp (x_Y X))])), ((a 7), .inl (cI, 9, .inl (y_sz (x_Y X)))), ((a 8), .inl (cZ, 9, .inl (y_ac (x_Y X)))), ((a 9), .inl (cI, 9, .inl (y_li (x_Y X)))), ((a 10), .inl (cJ, 9, .inr (.inl (y_sh (x_Y X)))))]) [0, 1, 2, 3, 4, 5, 6, 7, 8, 9, 10] rfl
                  refine ro_i (va_runV (As := []) (rest := [.int (j_itw X)]) ⟨hx, hb, hml, hown, hts⟩ ((c_X2_vehicles l G cI cZ cJ a _ X )) (cwV 0 hts gL_isWhole_X2_vehicles rfl rfl rfl (by decide +kernel) ⟨Nat.le_of_ble_eq_true rfl, Nat.le_of_ble_eq_true rfl⟩) ⟨ro_blind, va_recv hK hPc (ci := 2) (q0 := 0) rfl rfl, ro_pre hPc hK hN⟩ rfl rfl hl.1 rfl (lv_room (Nat.le_of_ble_eq_true rfl)) dL_isWhole_294 ⟨Nat.zero_le _, Nat.zero_le _⟩) hS hA hP (fun H locs hP hS => ?_)
                  refine lv_icmp_ge (tgt := 318) hx hb dL_isWhole_297 (by decide) (fun c_12 => ?_) (fun c_12 => ?_)
                  · exact absurd hi0 (Int32.not_lt.mpr c_12)
                  · refine lv_aload_n hx hb dL_isWhole_300 rfl (lv_at hl 0 rfl) ?_
                    have hPc := hP.sub (ws' := [((a 0), .inr (2, [.ref (a 6), .ref (a 1), .int (j_pp (x_J X)), .int (j_po (x_J X)), .int (j_mc (x_J X)), .int (j_dc (x_J X)), .int (j_is (x_J X))])), ((a 1), .inr (0, [.ref (a 6), .ref (a 2), .ref (a 3), .ref (a 4), .ref (a 5), .int (s_fc (x_S X)), .int (s_fs (x_S X)), .int (s_sm (x_S X)), .int (s_sc (x_S X)), .int (s_sf (x_S X))])), ((a 2), .inl (cI, 800, .inl (s_fo (x_S X)))), ((a 3), .inl (cI, 800, .inl (s_or (x_S X)))), ((a 4), .inl (cI, 800, .inl (s_mo (x_S X)))), ((a 5), .inl (cI, 2048, .inl (s_sl (x_S X)))), ((a 6), .inr (1, [.ref (a 7), .ref (a 8), .ref (a 9), .ref (a 10), .int (nI (y_n (x_Y X))), .long (y_rp (x_Y X))])), ((a 7), .inl (cI, 9, .inl (y_sz (x_Y X)))), ((a 8), .inl (cZ, 9, .inl (y_ac (x_Y X)))), ((a 9), .inl (cI, 9, .inl (y_li (x_Y X)))), ((a 10), .inl (cJ, 9, .inr (.inl (y_sh (x_Y X)))))]) [0, 1, 2, 3, 4, 5, 6, 7, 8, 9, 10] rfl
                    refine ro_i (va_runV (As := []) (rest := []) ⟨hx, hb, hml, hown, hts⟩ ((c_X2_isSolved l G cI cZ cJ a _ X )) (cwV 0 hts gL_isWhole_X2_isSolved rfl rfl rfl (by decide +kernel) ⟨Nat.le_of_ble_eq_true rfl, Nat.le_of_ble_eq_true rfl⟩) ⟨ro_blind, va_recv hK hPc (ci := 2) (q0 := 0) rfl rfl, ro_pre hPc hK hN⟩ rfl rfl hl.1 rfl (lv_room (Nat.le_of_ble_eq_true rfl)) dL_isWhole_301 ⟨Nat.zero_le _, Nat.zero_le _⟩) hS hA hP (fun H locs hP hS => ?_)
                    refine lv_if_eq (tgt := 314) hx hb dL_isWhole_304 (by decide) (fun c_13 => ?_) (fun c_13 => ?_)
                    · have c_13 := b1_f c_13
                      refine lv_iconst (v := 1) hx hb dL_isWhole_314 (by decide) ?_
                      refine lv_goto (tgt := 319) hx hb dL_isWhole_315 (by decide) ?_
                      exact W.zret (ty := .boolean) (v := 1) hx hb hr (rfl) (fun t ht hW => ⟨⟨1, (), rfl, rfl, trivial⟩, hS.F ht⟩) hS.2.2 dL_isWhole_319
                    · have c_13 := b1_t c_13
                      refine lv_aload_n hx hb dL_isWhole_307 rfl (lv_at hl 0 rfl) ?_
                      have hPc := hP.sub (ws' := [((a 0), .inr (2, [.ref (a 6), .ref (a 1), .int (j_pp (x_J X)), .int (j_po (x_J X)), .int (j_mc (x_J X)), .int (j_dc (x_J X)), .int (j_is (x_J X))])), ((a 1), .inr (0, [.ref (a 6), .ref (a 2), .ref (a 3), .ref (a 4), .ref (a 5), .int (s_fc (x_S X)), .int (s_fs (x_S X)), .int (s_sm (x_S X)), .int (s_sc (x_S X)), .int (s_sf (x_S X))])), ((a 2), .inl (cI, 800, .inl (s_fo (x_S X)))), ((a 3), .inl (cI, 800, .inl (s_or (x_S X)))), ((a 4), .inl (cI, 800, .inl (s_mo (x_S X)))), ((a 5), .inl (cI, 2048, .inl (s_sl (x_S X)))), ((a 6), .inr (1, [.ref (a 7), .ref (a 8), .ref (a 9), .ref (a 10), .int (nI (y_n (x_Y X))), .long (y_rp (x_Y X))])), ((a 7), .inl (cI, 9, .inl (y_sz (x_Y X)))), ((a 8), .inl (cZ, 9, .inl (y_ac (x_Y X)))), ((a 9), .inl (cI, 9, .inl (y_li (x_Y X)))), ((a 10), .inl (cJ, 9, .inr (.inl (y_sh (x_Y X)))))]) [0, 1, 2, 3, 4, 5, 6, 7, 8, 9, 10] rfl
                      refine ro_i (va_runV (As := []) (rest := []) ⟨hx, hb, hml, hown, hts⟩ ((c_X2_inTheWay l G cI cZ cJ a _ X hn)) (cwV 0 hts gL_isWhole_X2_inTheWay rfl rfl rfl (by decide +kernel) ⟨Nat.le_of_ble_eq_true rfl, Nat.le_of_ble_eq_true rfl⟩) ⟨ro_blind, va_recv hK hPc (ci := 2) (q0 := 0) rfl rfl, ro_pre hPc hK hN⟩ rfl rfl hl.1 rfl (lv_room (Nat.le_of_ble_eq_true rfl)) dL_isWhole_308 ⟨Nat.zero_le _, Nat.zero_le _⟩) hS hA hP (fun H locs hP hS => ?_)
                      rw [show ((j_itw X) : Int32) = 0 from hi1 (by assumption)]
                      refine lv_if_ne (tgt := 318) hx hb dL_isWhole_311 (by decide) (fun c_14 => ?_) (fun c_14 => ?_)
                      · exact absurd rfl c_14
                      · refine lv_iconst (v := 1) hx hb dL_isWhole_314 (by decide) ?_
                        refine lv_goto (tgt := 319) hx hb dL_isWhole_315 (by decide) ?_
                        exact W.zret (ty := .boolean) (v := 1) hx hb hr (rfl) (fun t ht hW => ⟨⟨1, (), rfl, rfl, trivial⟩, hS.F ht⟩) hS.2.2 dL_isWhole_319
        · have c_2 : v_g < (y_n (x_Y X)) := Nat.not_le.mp (fun q => c_2 ((nI_leI (a := (y_n (x_Y X))) (b := v_g) (by omega) (by omega)).mpr q))
          have hv9 : v_g < y_n (x_Y X) := c_2
          obtain ⟨r_g, q_g, bk_g, fw_g, sz_g, f0, f1, f2, f3, f4, f5, f6, f7, f8, f9, hcell⟩ := hV v_g hv9
          refine lv_aload_n hx hb dL_isWhole_30 rfl (lv_at hl 0 rfl) ?_
          refine lv_iload hx hb dL_isWhole_31 (lv_at hl 5 rfl) ?_
          have hPc := hP.sub (ws' := [((a 0), .inr (2, [.ref (a 6), .ref (a 1), .int (j_pp (x_J X)), .int (j_po (x_J X)), .int (j_mc (x_J X)), .int (j_dc (x_J X)), .int (j_is (x_J X))])), ((a 1), .inr (0, [.ref (a 6), .ref (a 2), .ref (a 3), .ref (a 4), .ref (a 5), .int (s_fc (x_S X)), .int (s_fs (x_S X)), .int (s_sm (x_S X)), .int (s_sc (x_S X)), .int (s_sf (x_S X))])), ((a 2), .inl (cI, 800, .inl (s_fo (x_S X)))), ((a 3), .inl (cI, 800, .inl (s_or (x_S X)))), ((a 4), .inl (cI, 800, .inl (s_mo (x_S X)))), ((a 5), .inl (cI, 2048, .inl (s_sl (x_S X)))), ((a 6), .inr (1, [.ref (a 7), .ref (a 8), .ref (a 9), .ref (a 10), .int (nI (y_n (x_Y X))), .long (y_rp (x_Y X))])), ((a 7), .inl (cI, 9, .inl (y_sz (x_Y X)))), ((a 8), .inl (cZ, 9, .inl (y_ac (x_Y X)))), ((a 9), .inl (cI, 9, .inl (y_li (x_Y X)))), ((a 10), .inl (cJ, 9, .inr (.inl (y_sh (x_Y X)))))]) [0, 1, 2, 3, 4, 5, 6, 7, 8, 9, 10] rfl
          refine ro_i (va_runV (As := [.int (nI v_g)]) (rest := []) ⟨hx, hb, hml, hown, hts⟩ ((c_X2_rowOf l G cI cZ cJ a _ X (nI v_g) hn f0)) (cwV 1 hts gL_isWhole_X2_rowOf rfl rfl rfl (by decide +kernel) ⟨Nat.le_of_ble_eq_true rfl, Nat.le_of_ble_eq_true rfl⟩) ⟨ro_blind, va_recv hK hPc (ci := 2) (q0 := 0) rfl rfl, ro_pre hPc hK hN⟩ rfl rfl hl.1 rfl (lv_room (Nat.le_of_ble_eq_true rfl)) dL_isWhole_33 ⟨Nat.zero_le _, Nat.zero_le _⟩) hS hA hP (fun H locs hP hS => ?_)
          rw [f1]
          refine lv_istore (lv' := [(6, .int (nI r_g)), (0, .ref (a 0)), (1, .ref ca_g), (2, .ref cb_g), (3, .int rp_g), (4, .int 1), (5, .int (nI v_g))]) hx hb dL_isWhole_36 hl (by decide) rfl (fun ls hl => ?_)
          refine lv_aload_n hx hb dL_isWhole_38 rfl (lv_at hl 1 rfl) ?_
          refine lv_iload hx hb dL_isWhole_39 (lv_at hl 6 rfl) ?_
          have hPc := hP.sub (ws' := [((a 0), .inr (2, [.ref (a 6), .ref (a 1), .int (j_pp (x_J X)), .int (j_po (x_J X)), .int (j_mc (x_J X)), .int (j_dc (x_J X)), .int (j_is (x_J X))])), ((a 1), .inr (0, [.ref (a 6), .ref (a 2), .ref (a 3), .ref (a 4), .ref (a 5), .int (s_fc (x_S X)), .int (s_fs (x_S X)), .int (s_sm (x_S X)), .int (s_sc (x_S X)), .int (s_sf (x_S X))])), ((a 2), .inl (cI, 800, .inl (s_fo (x_S X)))), ((a 3), .inl (cI, 800, .inl (s_or (x_S X)))), ((a 4), .inl (cI, 800, .inl (s_mo (x_S X)))), ((a 5), .inl (cI, 2048, .inl (s_sl (x_S X)))), ((a 6), .inr (1, [.ref (a 7), .ref (a 8), .ref (a 9), .ref (a 10), .int (nI (y_n (x_Y X))), .long (y_rp (x_Y X))])), ((a 7), .inl (cI, 9, .inl (y_sz (x_Y X)))), ((a 8), .inl (cZ, 9, .inl (y_ac (x_Y X)))), ((a 9), .inl (cI, 9, .inl (y_li (x_Y X)))), ((a 10), .inl (cJ, 9, .inr (.inl (y_sh (x_Y X)))))]) [0, 1, 2, 3, 4, 5, 6, 7, 8, 9, 10] rfl
          refine ro_i (va_runV (As := [.int (nI v_g)]) (rest := []) ⟨hx, hb, hml, hown, hts⟩ ((c_X2_columnOf l G cI cZ cJ a _ X (nI v_g) hn f0)) (cwV 1 hts gL_isWhole_X2_columnOf rfl rfl rfl (by decide +kernel) ⟨Nat.le_of_ble_eq_true rfl, Nat.le_of_ble_eq_true rfl⟩) ⟨ro_blind, va_recv hK hPc (ci := 2) (q0 := 0) rfl rfl, ro_pre hPc hK hN⟩ rfl rfl hl.1 rfl (lv_room (Nat.le_of_ble_eq_true rfl)) dL_isWhole_41 ⟨Nat.zero_le _, Nat.zero_le _⟩) hS hA hP (fun H locs hP hS => ?_)
          rw [f2]
          refine lv_istore (lv' := [(7, .int (nI q_g)), (6, .int (nI r_g)), (0, .ref (a 0)), (1, .ref ca_g), (2, .ref cb_g), (3, .int rp_g), (4, .int 1), (5, .int (nI v_g))]) hx hb dL_isWhole_44 hl (by decide) rfl (fun ls hl => ?_)
          refine lv_aload_n hx hb dL_isWhole_46 rfl (lv_at hl 2 rfl) ?_
          refine lv_iload hx hb dL_isWhole_47 (lv_at hl 7 rfl) ?_
          refine lv_iconst (v := 1) hx hb dL_isWhole_49 (by decide) ?_
          have hPc := hP.sub (ws' := [((a 0), .inr (2, [.ref (a 6), .ref (a 1), .int (j_pp (x_J X)), .int (j_po (x_J X)), .int (j_mc (x_J X)), .int (j_dc (x_J X)), .int (j_is (x_J X))])), ((a 1), .inr (0, [.ref (a 6), .ref (a 2), .ref (a 3), .ref (a 4), .ref (a 5), .int (s_fc (x_S X)), .int (s_fs (x_S X)), .int (s_sm (x_S X)), .int (s_sc (x_S X)), .int (s_sf (x_S X))])), ((a 2), .inl (cI, 800, .inl (s_fo (x_S X)))), ((a 3), .inl (cI, 800, .inl (s_or (x_S X)))), ((a 4), .inl (cI, 800, .inl (s_mo (x_S X)))), ((a 5), .inl (cI, 2048, .inl (s_sl (x_S X)))), ((a 6), .inr (1, [.ref (a 7), .ref (a 8), .ref (a 9), .ref (a 10), .int (nI (y_n (x_Y X))), .long (y_rp (x_Y X))])), ((a 7), .inl (cI, 9, .inl (y_sz (x_Y X)))), ((a 8), .inl (cZ, 9, .inl (y_ac (x_Y X)))), ((a 9), .inl (cI, 9, .inl (y_li (x_Y X)))), ((a 10), .inl (cJ, 9, .inr (.inl (y_sh (x_Y X)))))]) [0, 1, 2, 3, 4, 5, 6, 7, 8, 9, 10] rfl
          refine ro_i (va_runV (As := [.int (nI v_g), .int 1]) (rest := []) ⟨hx, hb, hml, hown, hts⟩ ((c_X2_freeWay l G cI cZ cJ a _ X (nI v_g) 1 hn f0)) (cwV 2 hts gL_isWhole_X2_freeWay rfl rfl rfl (by decide +kernel) ⟨Nat.le_of_ble_eq_true rfl, Nat.le_of_ble_eq_true rfl⟩) ⟨ro_blind, va_recv hK hPc (ci := 2) (q0 := 0) rfl rfl, ro_pre hPc hK hN⟩ rfl rfl hl.1 rfl (lv_room (Nat.le_of_ble_eq_true rfl)) dL_isWhole_50 ⟨Nat.zero_le _, Nat.zero_le _⟩) hS hA hP (fun H locs hP hS => ?_)
          rw [f3]
          refine lv_istore (lv' := [(8, .int (nI fw_g)), (7, .int (nI q_g)), (6, .int (nI r_g)), (0, .ref (a 0)), (1, .ref ca_g), (2, .ref cb_g), (3, .int rp_g), (4, .int 1), (5, .int (nI v_g))]) hx hb dL_isWhole_53 hl (by decide) rfl (fun ls hl => ?_)
          refine lv_aload_n hx hb dL_isWhole_55 rfl (lv_at hl 3 rfl) ?_
          refine lv_iload hx hb dL_isWhole_56 (lv_at hl 8 rfl) ?_
          refine lv_iconst (v := 0) hx hb dL_isWhole_58 (by decide) ?_
          have hPc := hP.sub (ws' := [((a 0), .inr (2, [.ref (a 6), .ref (a 1), .int (j_pp (x_J X)), .int (j_po (x_J X)), .int (j_mc (x_J X)), .int (j_dc (x_J X)), .int (j_is (x_J X))])), ((a 1), .inr (0, [.ref (a 6), .ref (a 2), .ref (a 3), .ref (a 4), .ref (a 5), .int (s_fc (x_S X)), .int (s_fs (x_S X)), .int (s_sm (x_S X)), .int (s_sc (x_S X)), .int (s_sf (x_S X))])), ((a 2), .inl (cI, 800, .inl (s_fo (x_S X)))), ((a 3), .inl (cI, 800, .inl (s_or (x_S X)))), ((a 4), .inl (cI, 800, .inl (s_mo (x_S X)))), ((a 5), .inl (cI, 2048, .inl (s_sl (x_S X)))), ((a 6), .inr (1, [.ref (a 7), .ref (a 8), .ref (a 9), .ref (a 10), .int (nI (y_n (x_Y X))), .long (y_rp (x_Y X))])), ((a 7), .inl (cI, 9, .inl (y_sz (x_Y X)))), ((a 8), .inl (cZ, 9, .inl (y_ac (x_Y X)))), ((a 9), .inl (cI, 9, .inl (y_li (x_Y X)))), ((a 10), .inl (cJ, 9, .inr (.inl (y_sh (x_Y X)))))]) [0, 1, 2, 3, 4, 5, 6, 7, 8, 9, 10] rfl
          refine ro_i (va_runV (As := [.int (nI v_g), .int 0]) (rest := []) ⟨hx, hb, hml, hown, hts⟩ ((c_X2_freeWay l G cI cZ cJ a _ X (nI v_g) 0 hn f0)) (cwV 2 hts gL_isWhole_X2_freeWay rfl rfl rfl (by decide +kernel) ⟨Nat.le_of_ble_eq_true rfl, Nat.le_of_ble_eq_true rfl⟩) ⟨ro_blind, va_recv hK hPc (ci := 2) (q0 := 0) rfl rfl, ro_pre hPc hK hN⟩ rfl rfl hl.1 rfl (lv_room (Nat.le_of_ble_eq_true rfl)) dL_isWhole_59 ⟨Nat.zero_le _, Nat.zero_le _⟩) hS hA hP (fun H locs hP hS => ?_)
          rw [f4]
          refine lv_istore (lv' := [(9, .int (nI bk_g)), (8, .int (nI fw_g)), (7, .int (nI q_g)), (6, .int (nI r_g)), (0, .ref (a 0)), (1, .ref ca_g), (2, .ref cb_g), (3, .int rp_g), (4, .int 1), (5, .int (nI v_g))]) hx hb dL_isWhole_62 hl (by decide) rfl (fun ls hl => ?_)
          refine lv_iload hx hb dL_isWhole_64 (lv_at hl 8 rfl) ?_
          refine lv_if_eq (tgt := 101) hx hb dL_isWhole_66 (by decide) (fun c_15 => ?_) (fun c_15 => ?_)
          · exact absurd c_15 (by decide)
          · refine lv_aload_n hx hb dL_isWhole_69 rfl (lv_at hl 4 rfl) ?_
            refine lv_iload hx hb dL_isWhole_70 (lv_at hl 9 rfl) ?_
            have hPc := hP.sub (ws' := [((a 0), .inr (2, [.ref (a 6), .ref (a 1), .int (j_pp (x_J X)), .int (j_po (x_J X)), .int (j_mc (x_J X)), .int (j_dc (x_J X)), .int (j_is (x_J X))])), ((a 1), .inr (0, [.ref (a 6), .ref (a 2), .ref (a 3), .ref (a 4), .ref (a 5), .int (s_fc (x_S X)), .int (s_fs (x_S X)), .int (s_sm (x_S X)), .int (s_sc (x_S X)), .int (s_sf (x_S X))])), ((a 2), .inl (cI, 800, .inl (s_fo (x_S X)))), ((a 3), .inl (cI, 800, .inl (s_or (x_S X)))), ((a 4), .inl (cI, 800, .inl (s_mo (x_S X)))), ((a 5), .inl (cI, 2048, .inl (s_sl (x_S X)))), ((a 6), .inr (1, [.ref (a 7), .ref (a 8), .ref (a 9), .ref (a 10), .int (nI (y_n (x_Y X))), .long (y_rp (x_Y X))])), ((a 7), .inl (cI, 9, .inl (y_sz (x_Y X)))), ((a 8), .inl (cZ, 9, .inl (y_ac (x_Y X)))), ((a 9), .inl (cI, 9, .inl (y_li (x_Y X)))), ((a 10), .inl (cJ, 9, .inr (.inl (y_sh (x_Y X)))))]) [0, 1, 2, 3, 4, 5, 6, 7, 8, 9, 10] rfl
            refine ro_i (va_runS (As := [.ref (a 0), .int (nI v_g)]) (rest := []) ⟨hx, hb, hml, hown, hts⟩ ((c_L_filled l G cI cZ cJ a _ X (nI v_g) hn)) (va_cwS 2 hts gL_isWhole_L_filled rfl rfl rfl (by decide +kernel) ⟨Nat.le_of_ble_eq_true rfl, Nat.le_of_ble_eq_true rfl⟩) ⟨ro_blind, ro_pre hPc hK hN⟩ rfl rfl hl.1 rfl (lv_room (Nat.le_of_ble_eq_true rfl)) dL_isWhole_72 ⟨Nat.zero_le _, Nat.zero_le _⟩) hS hA hP (fun H locs hP hS => ?_)
            rw [f6]
            refine lv_aload_n hx hb dL_isWhole_75 rfl (lv_at hl 5 rfl) ?_
            refine lv_iload hx hb dL_isWhole_76 (lv_at hl 9 rfl) ?_
            refine va_iald hx hb hK hP 11 0 rfl rfl (vp_in_nI (by omega) (by decide)) dL_isWhole_78 ?_
            rw [show (nI v_g).toNatClampNeg = v_g from nI_clamp (by omega)]
            rw [show ((C_g v_g) : Int32) = (nI sz_g) from f5]
            refine lv_icmp_ne (tgt := 101) hx hb dL_isWhole_79 (by decide) (fun c_16 => ?_) (fun c_16 => ?_)
            · have c_16 : ¬ sz_g = sz_g := fun q => c_16 ((nI_eq (a := sz_g) (b := sz_g) (by omega) (by omega)).mpr q)
              exact absurd rfl c_16
            · have c_16 : sz_g = sz_g := (nI_eq (a := sz_g) (b := sz_g) (by omega) (by omega)).mp c_16
              refine lv_iload hx hb dL_isWhole_82 (lv_at hl 1 rfl) ?_
              refine lv_iload hx hb dL_isWhole_84 (lv_at hl 0 rfl) ?_
              refine lv_iadd hx hb dL_isWhole_86 ?_
              rw [show ((nI fw_g) + (nI bk_g) : Int32) = (nI (fw_g + bk_g)) from nI_add fw_g bk_g]
              refine lv_aload_n hx hb dL_isWhole_87 rfl (lv_at hl 5 rfl) ?_
              refine lv_iload hx hb dL_isWhole_88 (lv_at hl 9 rfl) ?_
              refine va_iald hx hb hK hP 11 0 rfl rfl (vp_in_nI (by omega) (by decide)) dL_isWhole_90 ?_
              rw [show (nI v_g).toNatClampNeg = v_g from nI_clamp (by omega)]
              rw [show ((C_g v_g) : Int32) = (nI sz_g) from f5]
              refine lv_iadd hx hb dL_isWhole_91 ?_
              rw [show ((nI (fw_g + bk_g)) + (nI sz_g) : Int32) = (nI ((fw_g + bk_g) + sz_g)) from nI_add (fw_g + bk_g) sz_g]
              refine lv_bipush (v := 6) hx hb dL_isWhole_92 (by decide) ?_
              refine lv_icmp_gt (tgt := 101) hx hb dL_isWhole_94 (by decide) (fun c_17 => ?_) (fun c_17 => ?_)
              · have c_17 : 6 < ((fw_g + bk_g) + sz_g) := (nI_ltI (a := 6) (b := ((fw_g + bk_g) + sz_g)) (by omega) (by omega)).mp c_17
                exact absurd c_17 (by omega)
              · have c_17 : ((fw_g + bk_g) + sz_g) ≤ 6 := Nat.not_lt.mp (fun q => c_17 ((nI_ltI (a := 6) (b := ((fw_g + bk_g) + sz_g)) (by omega) (by omega)).mpr q))
                refine lv_iconst (v := 1) hx hb dL_isWhole_97 (by decide) ?_
                refine lv_goto (tgt := 102) hx hb dL_isWhole_98 (by decide) ?_
                refine lv_istore (lv' := [(4, .int 1), (9, .int (nI bk_g)), (8, .int (nI fw_g)), (7, .int (nI q_g)), (6, .int (nI r_g)), (0, .ref (a 0)), (1, .ref ca_g), (2, .ref cb_g), (3, .int rp_g), (5, .int (nI v_g))]) hx hb dL_isWhole_102 hl (by decide) rfl (fun ls hl => ?_)
                refine lv_iload hx hb dL_isWhole_104 (lv_at hl 1 rfl) ?_
                refine lv_ineg hx hb dL_isWhole_106 ?_
                refine lv_istore (lv' := [(10, .int (-(nI bk_g))), (4, .int 1), (9, .int (nI bk_g)), (8, .int (nI fw_g)), (7, .int (nI q_g)), (6, .int (nI r_g)), (0, .ref (a 0)), (1, .ref ca_g), (2, .ref cb_g), (3, .int rp_g), (5, .int (nI v_g))]) hx hb dL_isWhole_107 hl (by decide) rfl (fun ls hl => ?_)
                have cut_109 : ∀ (d : Nat) (i_g : Nat) (k_g : Int32), i_g ≤ (bk_g + sz_g + fw_g) → (bk_g + sz_g + fw_g) + 1 ≤ i_g + d → (k_g.toInt = (i_g : Int) - (bk_g : Int)) → ∀ (H : Heap) (locs : List Loc), va_P G vwCl [((a 0), .inr (2, [.ref (a 6), .ref (a 1), .int (j_pp (x_J X)), .int (j_po (x_J X)), .int (j_mc (x_J X)), .int (j_dc (x_J X)), .int (j_is (x_J X))])), ((a 1), .inr (0, [.ref (a 6), .ref (a 2), .ref (a 3), .ref (a 4), .ref (a 5), .int (s_fc (x_S X)), .int (s_fs (x_S X)), .int (s_sm (x_S X)), .int (s_sc (x_S X)), .int (s_sf (x_S X))])), ((a 2), .inl (cI, 800, .inl (s_fo (x_S X)))), ((a 3), .inl (cI, 800, .inl (s_or (x_S X)))), ((a 4), .inl (cI, 800, .inl (s_mo (x_S X)))), ((a 5), .inl (cI, 2048, .inl (s_sl (x_S X)))), ((a 6), .inr (1, [.ref (a 7), .ref (a 8), .ref (a 9), .ref (a 10), .int (nI (y_n (x_Y X))), .long (y_rp (x_Y X))])), ((a 7), .inl (cI, 9, .inl (y_sz (x_Y X)))), ((a 8), .inl (cZ, 9, .inl (y_ac (x_Y X)))), ((a 9), .inl (cI, 9, .inl (y_li (x_Y X)))), ((a 10), .inl (cJ, 9, .inr (.inl (y_sh (x_Y X))))), (ca_g, .inl (cI, 9, .inl C_g)), (cb_g, .inl (cI, 9, .inl A_g))] H → va_S (ro_A s.heap.size) s.heap H locs → ∀ (ls : Array Slot), lv_has ls 13 [(0, .ref (a 0)), (1, .ref ca_g), (2, .ref cb_g), (3, .int rp_g), (4, .int 1), (5, .int (nI v_g)), (6, .int (nI r_g)), (7, .int (nI q_g)), (8, .int (nI fw_g)), (9, .int (nI bk_g)), (10, .int k_g)] → W p l e (headSpec wsL_isWhole ({ frames := 5, cells := 0, slots := 0, locals := 121 })).room s m ([.ref (a 0), .ref ca_g, .ref cb_g, .int rp_g] : List Value).toArray below meth c H locs 0 0 (MQ below (ro_Qi 1 s.heap.size) ([.ref (a 0), .ref ca_g, .ref cb_g, .int rp_g] : List Value).toArray s 0 0 (ro_A s.heap.size)) (F0 m 109 ls []) := by
                  intro d
                  induction d with
                  | zero =>
                    intro i_g k_g hk_109 hd_109
                    exact absurd hd_109 (by omega)
                  | succ d ih_109 =>
                    intro i_g k_g hk_109 hd_109 hki H locs hP hS ls hl
                    refine lv_iload hx hb dL_isWhole_109 (lv_at hl 10 rfl) ?_
                    refine lv_aload_n hx hb dL_isWhole_111 rfl (lv_at hl 1 rfl) ?_
                    refine lv_iload hx hb dL_isWhole_112 (lv_at hl 5 rfl) ?_
                    refine va_iald hx hb hK hP 11 0 rfl rfl (vp_in_nI (by omega) (by decide)) dL_isWhole_114 ?_
                    rw [show (nI v_g).toNatClampNeg = v_g from nI_clamp (by omega)]
                    rw [show ((C_g v_g) : Int32) = (nI sz_g) from f5]
                    refine lv_iload hx hb dL_isWhole_115 (lv_at hl 8 rfl) ?_
                    refine lv_iadd hx hb dL_isWhole_117 ?_
                    rw [show ((nI sz_g) + (nI fw_g) : Int32) = (nI (sz_g + fw_g)) from nI_add sz_g fw_g]
                    refine lv_icmp_ge (tgt := 248) hx hb dL_isWhole_118 (by decide) (fun c_18 => ?_) (fun c_18 => ?_)
                    · refine lv_iinc (v := (nI (v_g + 1))) (lv' := [(5, .int (nI (v_g + 1))), (0, .ref (a 0)), (1, .ref ca_g), (2, .ref cb_g), (3, .int rp_g), (4, .int 1), (6, .int (nI r_g)), (7, .int (nI q_g)), (8, .int (nI fw_g)), (9, .int (nI bk_g)), (10, .int k_g)]) hx hb dL_isWhole_248 hl (k := 5) rfl (nI_1 _) (by decide) rfl (fun ls hl => ?_)
                      refine lv_goto (tgt := 21) hx hb dL_isWhole_251 (by decide) ?_
                      exact ih_21 (v_g + 1) (by omega) (by omega) _ _ hP hS _ (lv_sub hl [1, 2, 3, 4, 5, 0] rfl)
                    · have hlt : i_g < bk_g + sz_g + fw_g := by have := lt_k hki (by omega) c_18; omega
                      obtain ⟨r2_g, q2_g, g1, g2, g3, g4, g5⟩ := hcell i_g hlt
                      have cut_191 : ∀ (cl_g : Nat), (sz_g = 2 ∨ ¬ nI cl_g = rp_g) → ∀ (H : Heap) (locs : List Loc), va_P G vwCl [((a 0), .inr (2, [.ref (a 6), .ref (a 1), .int (j_pp (x_J X)), .int (j_po (x_J X)), .int (j_mc (x_J X)), .int (j_dc (x_J X)), .int (j_is (x_J X))])), ((a 1), .inr (0, [.ref (a 6), .ref (a 2), .ref (a 3), .ref (a 4), .ref (a 5), .int (s_fc (x_S X)), .int (s_fs (x_S X)), .int (s_sm (x_S X)), .int (s_sc (x_S X)), .int (s_sf (x_S X))])), ((a 2), .inl (cI, 800, .inl (s_fo (x_S X)))), ((a 3), .inl (cI, 800, .inl (s_or (x_S X)))), ((a 4), .inl (cI, 800, .inl (s_mo (x_S X)))), ((a 5), .inl (cI, 2048, .inl (s_sl (x_S X)))), ((a 6), .inr (1, [.ref (a 7), .ref (a 8), .ref (a 9), .ref (a 10), .int (nI (y_n (x_Y X))), .long (y_rp (x_Y X))])), ((a 7), .inl (cI, 9, .inl (y_sz (x_Y X)))), ((a 8), .inl (cZ, 9, .inl (y_ac (x_Y X)))), ((a 9), .inl (cI, 9, .inl (y_li (x_Y X)))), ((a 10), .inl (cJ, 9, .inr (.inl (y_sh (x_Y X))))), (ca_g, .inl (cI, 9, .inl C_g)), (cb_g, .inl (cI, 9, .inl A_g))] H → va_S (ro_A s.heap.size) s.heap H locs → ∀ (ls : Array Slot), lv_has ls 13 [(0, .ref (a 0)), (1, .ref ca_g), (2, .ref cb_g), (3, .int rp_g), (4, .int 1), (5, .int (nI v_g)), (6, .int (nI r_g)), (7, .int (nI q_g)), (8, .int (nI fw_g)), (9, .int (nI bk_g)), (10, .int k_g), (11, .int (if i_g < bk_g ∨ bk_g + sz_g ≤ i_g then -1 else nI v_g)), (12, .int (nI cl_g))] → W p l e (headSpec wsL_isWhole ({ frames := 5, cells := 0, slots := 0, locals := 121 })).room s m ([.ref (a 0), .ref ca_g, .ref cb_g, .int rp_g] : List Value).toArray below meth c H locs 0 0 (MQ below (ro_Qi 1 s.heap.size) ([.ref (a 0), .ref ca_g, .ref cb_g, .int rp_g] : List Value).toArray s 0 0 (ro_A s.heap.size)) (F0 m 191 ls []) := by
                        intro cl_g hcl H locs hP hS ls hl
                        refine lv_iload hx hb dL_isWhole_191 (lv_at hl 4 rfl) ?_
                        refine lv_if_eq (tgt := 239) hx hb dL_isWhole_193 (by decide) (fun c_19 => ?_) (fun c_19 => ?_)
                        · exact absurd c_19 (by decide)
                        · refine lv_iload hx hb dL_isWhole_196 (lv_at hl 11 rfl) ?_
                          refine lv_iload hx hb dL_isWhole_198 (lv_at hl 10 rfl) ?_
                          refine lv_if_lt (tgt := 212) hx hb dL_isWhole_200 (by decide) (fun c_20 => ?_) (fun c_20 => ?_)
                          · have hib : i_g < bk_g := (k_neg hki).mp c_20
                            refine lv_iconst (v := (-1)) hx hb dL_isWhole_212 (by decide) ?_
                            refine lv_goto (tgt := 218) hx hb dL_isWhole_213 (by decide) ?_
                            refine lv_icmp_ne (tgt := 239) hx hb dL_isWhole_218 (by decide) (fun c_21 => ?_) (fun c_21 => ?_)
                            · exact absurd (by first | exact if_pos (Or.inl hib) | exact if_pos (Or.inr hib) | exact if_neg hib) c_21
                            · refine lv_aload_n hx hb dL_isWhole_221 rfl (lv_at hl 1 rfl) ?_
                              refine lv_iload hx hb dL_isWhole_222 (lv_at hl 5 rfl) ?_
                              refine va_iald hx hb hK hP 11 0 rfl rfl (vp_in_nI (by omega) (by decide)) dL_isWhole_224 ?_
                              rw [show (nI v_g).toNatClampNeg = v_g from nI_clamp (by omega)]
                              rw [show ((C_g v_g) : Int32) = (nI sz_g) from f5]
                              refine lv_iconst (v := 2) hx hb dL_isWhole_225 (by decide) ?_
                              refine lv_icmp_eq (tgt := 235) hx hb dL_isWhole_226 (by decide) (fun c_22 => ?_) (fun c_22 => ?_)
                              · have c_22 : sz_g = 2 := (nI_eq (a := sz_g) (b := 2) (by omega) (by omega)).mp c_22
                                refine lv_iconst (v := 1) hx hb dL_isWhole_235 (by decide) ?_
                                refine lv_goto (tgt := 240) hx hb dL_isWhole_236 (by decide) ?_
                                refine lv_istore (lv' := [(4, .int 1), (0, .ref (a 0)), (1, .ref ca_g), (2, .ref cb_g), (3, .int rp_g), (5, .int (nI v_g)), (6, .int (nI r_g)), (7, .int (nI q_g)), (8, .int (nI fw_g)), (9, .int (nI bk_g)), (10, .int k_g), (11, .int (if i_g < bk_g ∨ bk_g + sz_g ≤ i_g then -1 else nI v_g)), (12, .int (nI cl_g))]) hx hb dL_isWhole_240 hl (by decide) rfl (fun ls hl => ?_)
                                refine lv_iinc (v := (k_g + 1)) (lv' := [(10, .int (k_g + 1)), (4, .int 1), (0, .ref (a 0)), (1, .ref ca_g), (2, .ref cb_g), (3, .int rp_g), (5, .int (nI v_g)), (6, .int (nI r_g)), (7, .int (nI q_g)), (8, .int (nI fw_g)), (9, .int (nI bk_g)), (11, .int (if i_g < bk_g ∨ bk_g + sz_g ≤ i_g then -1 else nI v_g)), (12, .int (nI cl_g))]) hx hb dL_isWhole_242 hl (k := 10) rfl (rfl) (by decide) rfl (fun ls hl => ?_)
                                refine lv_goto (tgt := 109) hx hb dL_isWhole_245 (by decide) ?_
                                exact ih_109 (i_g + 1) (k_g + 1) (by omega) (by omega) (inc_k hki (by omega) (by omega)) _ _ hP hS _ (lv_sub hl [2, 3, 4, 5, 1, 6, 7, 8, 9, 10, 0] rfl)
                              · have c_22 : ¬ sz_g = 2 := fun q => c_22 ((nI_eq (a := sz_g) (b := 2) (by omega) (by omega)).mpr q)
                                have hs2 := c_22
                                refine lv_iload hx hb dL_isWhole_229 (lv_at hl 12 rfl) ?_
                                refine lv_iload_n hx hb dL_isWhole_231 rfl (lv_at hl 3 rfl) ?_
                                refine lv_icmp_eq (tgt := 239) hx hb dL_isWhole_232 (by decide) (fun c_23 => ?_) (fun c_23 => ?_)
                                · exact absurd c_23 (by rcases hcl with z | z; exact absurd z hs2; exact z)
                                · refine lv_iconst (v := 1) hx hb dL_isWhole_235 (by decide) ?_
                                  refine lv_goto (tgt := 240) hx hb dL_isWhole_236 (by decide) ?_
                                  refine lv_istore (lv' := [(4, .int 1), (0, .ref (a 0)), (1, .ref ca_g), (2, .ref cb_g), (3, .int rp_g), (5, .int (nI v_g)), (6, .int (nI r_g)), (7, .int (nI q_g)), (8, .int (nI fw_g)), (9, .int (nI bk_g)), (10, .int k_g), (11, .int (if i_g < bk_g ∨ bk_g + sz_g ≤ i_g then -1 else nI v_g)), (12, .int (nI cl_g))]) hx hb dL_isWhole_240 hl (by decide) rfl (fun ls hl => ?_)
                                  refine lv_iinc (v := (k_g + 1)) (lv' := [(10, .int (k_g + 1)), (4, .int 1), (0, .ref (a 0)), (1, .ref ca_g), (2, .ref cb_g), (3, .int rp_g), (5, .int (nI v_g)), (6, .int (nI r_g)), (7, .int (nI q_g)), (8, .int (nI fw_g)), (9, .int (nI bk_g)), (11, .int (if i_g < bk_g ∨ bk_g + sz_g ≤ i_g then -1 else nI v_g)), (12, .int (nI cl_g))]) hx hb dL_isWhole_242 hl (k := 10) rfl (rfl) (by decide) rfl (fun ls hl => ?_)
                                  refine lv_goto (tgt := 109) hx hb dL_isWhole_245 (by decide) ?_
                                  exact ih_109 (i_g + 1) (k_g + 1) (by omega) (by omega) (inc_k hki (by omega) (by omega)) _ _ hP hS _ (lv_sub hl [2, 3, 4, 5, 1, 6, 7, 8, 9, 10, 0] rfl)
                          · have hnb : ¬ i_g < bk_g := fun z => c_20 ((k_neg hki).mpr z)
                            refine lv_iload hx hb dL_isWhole_203 (lv_at hl 10 rfl) ?_
                            refine lv_aload_n hx hb dL_isWhole_205 rfl (lv_at hl 1 rfl) ?_
                            refine lv_iload hx hb dL_isWhole_206 (lv_at hl 5 rfl) ?_
                            refine va_iald hx hb hK hP 11 0 rfl rfl (vp_in_nI (by omega) (by decide)) dL_isWhole_208 ?_
                            rw [show (nI v_g).toNatClampNeg = v_g from nI_clamp (by omega)]
                            rw [show ((C_g v_g) : Int32) = (nI sz_g) from f5]
                            refine lv_icmp_lt (tgt := 216) hx hb dL_isWhole_209 (by decide) (fun c_24 => ?_) (fun c_24 => ?_)
                            · have hib : ¬ (i_g < bk_g ∨ bk_g + sz_g ≤ i_g) := by have := (k_lt hki (by omega)).mp c_24; omega
                              refine lv_iload hx hb dL_isWhole_216 (lv_at hl 5 rfl) ?_
                              refine lv_icmp_ne (tgt := 239) hx hb dL_isWhole_218 (by decide) (fun c_25 => ?_) (fun c_25 => ?_)
                              · exact absurd (by first | exact if_pos (Or.inl hib) | exact if_pos (Or.inr hib) | exact if_neg hib) c_25
                              · refine lv_aload_n hx hb dL_isWhole_221 rfl (lv_at hl 1 rfl) ?_
                                refine lv_iload hx hb dL_isWhole_222 (lv_at hl 5 rfl) ?_
                                refine va_iald hx hb hK hP 11 0 rfl rfl (vp_in_nI (by omega) (by decide)) dL_isWhole_224 ?_
                                rw [show (nI v_g).toNatClampNeg = v_g from nI_clamp (by omega)]
                                rw [show ((C_g v_g) : Int32) = (nI sz_g) from f5]
                                refine lv_iconst (v := 2) hx hb dL_isWhole_225 (by decide) ?_
                                refine lv_icmp_eq (tgt := 235) hx hb dL_isWhole_226 (by decide) (fun c_26 => ?_) (fun c_26 => ?_)
                                · have c_26 : sz_g = 2 := (nI_eq (a := sz_g) (b := 2) (by omega) (by omega)).mp c_26
                                  refine lv_iconst (v := 1) hx hb dL_isWhole_235 (by decide) ?_
                                  refine lv_goto (tgt := 240) hx hb dL_isWhole_236 (by decide) ?_
                                  refine lv_istore (lv' := [(4, .int 1), (0, .ref (a 0)), (1, .ref ca_g), (2, .ref cb_g), (3, .int rp_g), (5, .int (nI v_g)), (6, .int (nI r_g)), (7, .int (nI q_g)), (8, .int (nI fw_g)), (9, .int (nI bk_g)), (10, .int k_g), (11, .int (if i_g < bk_g ∨ bk_g + sz_g ≤ i_g then -1 else nI v_g)), (12, .int (nI cl_g))]) hx hb dL_isWhole_240 hl (by decide) rfl (fun ls hl => ?_)
                                  refine lv_iinc (v := (k_g + 1)) (lv' := [(10, .int (k_g + 1)), (4, .int 1), (0, .ref (a 0)), (1, .ref ca_g), (2, .ref cb_g), (3, .int rp_g), (5, .int (nI v_g)), (6, .int (nI r_g)), (7, .int (nI q_g)), (8, .int (nI fw_g)), (9, .int (nI bk_g)), (11, .int (if i_g < bk_g ∨ bk_g + sz_g ≤ i_g then -1 else nI v_g)), (12, .int (nI cl_g))]) hx hb dL_isWhole_242 hl (k := 10) rfl (rfl) (by decide) rfl (fun ls hl => ?_)
                                  refine lv_goto (tgt := 109) hx hb dL_isWhole_245 (by decide) ?_
                                  exact ih_109 (i_g + 1) (k_g + 1) (by omega) (by omega) (inc_k hki (by omega) (by omega)) _ _ hP hS _ (lv_sub hl [2, 3, 4, 5, 1, 6, 7, 8, 9, 10, 0] rfl)
                                · have c_26 : ¬ sz_g = 2 := fun q => c_26 ((nI_eq (a := sz_g) (b := 2) (by omega) (by omega)).mpr q)
                                  have hs2 := c_26
                                  refine lv_iload hx hb dL_isWhole_229 (lv_at hl 12 rfl) ?_
                                  refine lv_iload_n hx hb dL_isWhole_231 rfl (lv_at hl 3 rfl) ?_
                                  refine lv_icmp_eq (tgt := 239) hx hb dL_isWhole_232 (by decide) (fun c_27 => ?_) (fun c_27 => ?_)
                                  · exact absurd c_27 (by rcases hcl with z | z; exact absurd z hs2; exact z)
                                  · refine lv_iconst (v := 1) hx hb dL_isWhole_235 (by decide) ?_
                                    refine lv_goto (tgt := 240) hx hb dL_isWhole_236 (by decide) ?_
                                    refine lv_istore (lv' := [(4, .int 1), (0, .ref (a 0)), (1, .ref ca_g), (2, .ref cb_g), (3, .int rp_g), (5, .int (nI v_g)), (6, .int (nI r_g)), (7, .int (nI q_g)), (8, .int (nI fw_g)), (9, .int (nI bk_g)), (10, .int k_g), (11, .int (if i_g < bk_g ∨ bk_g + sz_g ≤ i_g then -1 else nI v_g)), (12, .int (nI cl_g))]) hx hb dL_isWhole_240 hl (by decide) rfl (fun ls hl => ?_)
                                    refine lv_iinc (v := (k_g + 1)) (lv' := [(10, .int (k_g + 1)), (4, .int 1), (0, .ref (a 0)), (1, .ref ca_g), (2, .ref cb_g), (3, .int rp_g), (5, .int (nI v_g)), (6, .int (nI r_g)), (7, .int (nI q_g)), (8, .int (nI fw_g)), (9, .int (nI bk_g)), (11, .int (if i_g < bk_g ∨ bk_g + sz_g ≤ i_g then -1 else nI v_g)), (12, .int (nI cl_g))]) hx hb dL_isWhole_242 hl (k := 10) rfl (rfl) (by decide) rfl (fun ls hl => ?_)
                                    refine lv_goto (tgt := 109) hx hb dL_isWhole_245 (by decide) ?_
                                    exact ih_109 (i_g + 1) (k_g + 1) (by omega) (by omega) (inc_k hki (by omega) (by omega)) _ _ hP hS _ (lv_sub hl [2, 3, 4, 5, 1, 6, 7, 8, 9, 10, 0] rfl)
                            · have hib : bk_g + sz_g ≤ i_g := Nat.not_lt.mp (fun z => c_24 ((k_lt hki (by omega)).mpr z))
                              refine lv_iconst (v := (-1)) hx hb dL_isWhole_212 (by decide) ?_
                              refine lv_goto (tgt := 218) hx hb dL_isWhole_213 (by decide) ?_
                              refine lv_icmp_ne (tgt := 239) hx hb dL_isWhole_218 (by decide) (fun c_28 => ?_) (fun c_28 => ?_)
                              · exact absurd (by first | exact if_pos (Or.inl hib) | exact if_pos (Or.inr hib) | exact if_neg hib) c_28
                              · refine lv_aload_n hx hb dL_isWhole_221 rfl (lv_at hl 1 rfl) ?_
                                refine lv_iload hx hb dL_isWhole_222 (lv_at hl 5 rfl) ?_
                                refine va_iald hx hb hK hP 11 0 rfl rfl (vp_in_nI (by omega) (by decide)) dL_isWhole_224 ?_
                                rw [show (nI v_g).toNatClampNeg = v_g from nI_clamp (by omega)]
                                rw [show ((C_g v_g) : Int32) = (nI sz_g) from f5]
                                refine lv_iconst (v := 2) hx hb dL_isWhole_225 (by decide) ?_
                                refine lv_icmp_eq (tgt := 235) hx hb dL_isWhole_226 (by decide) (fun c_29 => ?_) (fun c_29 => ?_)
                                · have c_29 : sz_g = 2 := (nI_eq (a := sz_g) (b := 2) (by omega) (by omega)).mp c_29
                                  refine lv_iconst (v := 1) hx hb dL_isWhole_235 (by decide) ?_
                                  refine lv_goto (tgt := 240) hx hb dL_isWhole_236 (by decide) ?_
                                  refine lv_istore (lv' := [(4, .int 1), (0, .ref (a 0)), (1, .ref ca_g), (2, .ref cb_g), (3, .int rp_g), (5, .int (nI v_g)), (6, .int (nI r_g)), (7, .int (nI q_g)), (8, .int (nI fw_g)), (9, .int (nI bk_g)), (10, .int k_g), (11, .int (if i_g < bk_g ∨ bk_g + sz_g ≤ i_g then -1 else nI v_g)), (12, .int (nI cl_g))]) hx hb dL_isWhole_240 hl (by decide) rfl (fun ls hl => ?_)
                                  refine lv_iinc (v := (k_g + 1)) (lv' := [(10, .int (k_g + 1)), (4, .int 1), (0, .ref (a 0)), (1, .ref ca_g), (2, .ref cb_g), (3, .int rp_g), (5, .int (nI v_g)), (6, .int (nI r_g)), (7, .int (nI q_g)), (8, .int (nI fw_g)), (9, .int (nI bk_g)), (11, .int (if i_g < bk_g ∨ bk_g + sz_g ≤ i_g then -1 else nI v_g)), (12, .int (nI cl_g))]) hx hb dL_isWhole_242 hl (k := 10) rfl (rfl) (by decide) rfl (fun ls hl => ?_)
                                  refine lv_goto (tgt := 109) hx hb dL_isWhole_245 (by decide) ?_
                                  exact ih_109 (i_g + 1) (k_g + 1) (by omega) (by omega) (inc_k hki (by omega) (by omega)) _ _ hP hS _ (lv_sub hl [2, 3, 4, 5, 1, 6, 7, 8, 9, 10, 0] rfl)
                                · have c_29 : ¬ sz_g = 2 := fun q => c_29 ((nI_eq (a := sz_g) (b := 2) (by omega) (by omega)).mpr q)
                                  have hs2 := c_29
                                  refine lv_iload hx hb dL_isWhole_229 (lv_at hl 12 rfl) ?_
                                  refine lv_iload_n hx hb dL_isWhole_231 rfl (lv_at hl 3 rfl) ?_
                                  refine lv_icmp_eq (tgt := 239) hx hb dL_isWhole_232 (by decide) (fun c_30 => ?_) (fun c_30 => ?_)
                                  · exact absurd c_30 (by rcases hcl with z | z; exact absurd z hs2; exact z)
                                  · refine lv_iconst (v := 1) hx hb dL_isWhole_235 (by decide) ?_
                                    refine lv_goto (tgt := 240) hx hb dL_isWhole_236 (by decide) ?_
                                    refine lv_istore (lv' := [(4, .int 1), (0, .ref (a 0)), (1, .ref ca_g), (2, .ref cb_g), (3, .int rp_g), (5, .int (nI v_g)), (6, .int (nI r_g)), (7, .int (nI q_g)), (8, .int (nI fw_g)), (9, .int (nI bk_g)), (10, .int k_g), (11, .int (if i_g < bk_g ∨ bk_g + sz_g ≤ i_g then -1 else nI v_g)), (12, .int (nI cl_g))]) hx hb dL_isWhole_240 hl (by decide) rfl (fun ls hl => ?_)
                                    refine lv_iinc (v := (k_g + 1)) (lv' := [(10, .int (k_g + 1)), (4, .int 1), (0, .ref (a 0)), (1, .ref ca_g), (2, .ref cb_g), (3, .int rp_g), (5, .int (nI v_g)), (6, .int (nI r_g)), (7, .int (nI q_g)), (8, .int (nI fw_g)), (9, .int (nI bk_g)), (11, .int (if i_g < bk_g ∨ bk_g + sz_g ≤ i_g then -1 else nI v_g)), (12, .int (nI cl_g))]) hx hb dL_isWhole_242 hl (k := 10) rfl (rfl) (by decide) rfl (fun ls hl => ?_)
                                    refine lv_goto (tgt := 109) hx hb dL_isWhole_245 (by decide) ?_
                                    exact ih_109 (i_g + 1) (k_g + 1) (by omega) (by omega) (inc_k hki (by omega) (by omega)) _ _ hP hS _ (lv_sub hl [2, 3, 4, 5, 1, 6, 7, 8, 9, 10, 0] rfl)
                      refine lv_aload_n hx hb dL_isWhole_121 rfl (lv_at hl 2 rfl) ?_
                      refine lv_iload hx hb dL_isWhole_122 (lv_at hl 5 rfl) ?_
                      refine va_iald hx hb hK hP 12 0 rfl rfl (vp_in_nI (by omega) (by decide)) dL_isWhole_124 ?_
                      rw [show (nI v_g).toNatClampNeg = v_g from nI_clamp (by omega)]
                      refine lv_iconst (v := 1) hx hb dL_isWhole_125 (by decide) ?_
                      refine lv_icmp_ne (tgt := 143) hx hb dL_isWhole_126 (by decide) (fun c_31 => ?_) (fun c_31 => ?_)
                      · have hA9 := c_31
                        obtain ⟨g6, g7⟩ : r2_g + bk_g = r_g + i_g ∧ q2_g = q_g := by rcases g3 with ⟨z, _⟩ | ⟨_, z⟩; exact absurd z hA9; exact z
                        rw [g7] at g2 g4 g5
                        refine lv_aload_n hx hb dL_isWhole_143 rfl (lv_at hl 0 rfl) ?_
                        refine lv_iload hx hb dL_isWhole_144 (lv_at hl 6 rfl) ?_
                        refine lv_iload hx hb dL_isWhole_146 (lv_at hl 10 rfl) ?_
                        refine lv_iadd hx hb dL_isWhole_148 ?_
                        rw [show (((nI r_g) + k_g) : Int32) = (nI r2_g) from add_k hki (by omega) (by omega) (by omega) (by omega)]
                        refine lv_iload hx hb dL_isWhole_149 (lv_at hl 7 rfl) ?_
                        have hPc := hP.sub (ws' := [((a 0), .inr (2, [.ref (a 6), .ref (a 1), .int (j_pp (x_J X)), .int (j_po (x_J X)), .int (j_mc (x_J X)), .int (j_dc (x_J X)), .int (j_is (x_J X))])), ((a 1), .inr (0, [.ref (a 6), .ref (a 2), .ref (a 3), .ref (a 4), .ref (a 5), .int (s_fc (x_S X)), .int (s_fs (x_S X)), .int (s_sm (x_S X)), .int (s_sc (x_S X)), .int (s_sf (x_S X))])), ((a 2), .inl (cI, 800, .inl (s_fo (x_S X)))), ((a 3), .inl (cI, 800, .inl (s_or (x_S X)))), ((a 4), .inl (cI, 800, .inl (s_mo (x_S X)))), ((a 5), .inl (cI, 2048, .inl (s_sl (x_S X)))), ((a 6), .inr (1, [.ref (a 7), .ref (a 8), .ref (a 9), .ref (a 10), .int (nI (y_n (x_Y X))), .long (y_rp (x_Y X))])), ((a 7), .inl (cI, 9, .inl (y_sz (x_Y X)))), ((a 8), .inl (cZ, 9, .inl (y_ac (x_Y X)))), ((a 9), .inl (cI, 9, .inl (y_li (x_Y X)))), ((a 10), .inl (cJ, 9, .inr (.inl (y_sh (x_Y X)))))]) [0, 1, 2, 3, 4, 5, 6, 7, 8, 9, 10] rfl
                        refine ro_i (va_runV (As := [.int (nI r2_g), .int (nI q_g)]) (rest := []) ⟨hx, hb, hml, hown, hts⟩ ((c_X2_at l G cI cZ cJ a _ X (nI r2_g) (nI q_g) hn (at_ok g1 g2))) (cwV 2 hts gL_isWhole_X2_at rfl rfl rfl (by decide +kernel) ⟨Nat.le_of_ble_eq_true rfl, Nat.le_of_ble_eq_true rfl⟩) ⟨ro_blind, va_recv hK hPc (ci := 2) (q0 := 0) rfl rfl, ro_pre hPc hK hN⟩ rfl rfl hl.1 rfl (lv_room (Nat.le_of_ble_eq_true rfl)) dL_isWhole_151 ⟨Nat.zero_le _, Nat.zero_le _⟩) hS hA hP (fun H locs hP hS => ?_)
                        rw [show y_on (x_Y X) (j_po (x_J X)) (co (nI r2_g) (nI q_g)) (y_n (x_Y X)) 0 = if i_g < bk_g ∨ bk_g + sz_g ≤ i_g then -1 else nI v_g from g4]
                        refine lv_istore (lv' := [(11, .int (if i_g < bk_g ∨ bk_g + sz_g ≤ i_g then -1 else nI v_g)), (0, .ref (a 0)), (1, .ref ca_g), (2, .ref cb_g), (3, .int rp_g), (4, .int 1), (5, .int (nI v_g)), (6, .int (nI r_g)), (7, .int (nI q_g)), (8, .int (nI fw_g)), (9, .int (nI bk_g)), (10, .int k_g)]) hx hb dL_isWhole_154 hl (by decide) rfl (fun ls hl => ?_)
                        refine lv_aload_n hx hb dL_isWhole_156 rfl (lv_at hl 3 rfl) ?_
                        refine lv_iload hx hb dL_isWhole_157 (lv_at hl 6 rfl) ?_
                        refine va_iald hx hb hK hP 12 0 rfl rfl (vp_in_nI (by omega) (by decide)) dL_isWhole_159 ?_
                        rw [show (nI v_g).toNatClampNeg = v_g from nI_clamp (by omega)]
                        refine lv_iconst (v := 1) hx hb dL_isWhole_160 (by decide) ?_
                        refine lv_icmp_ne (tgt := 178) hx hb dL_isWhole_161 (by decide) (fun c_32 => ?_) (fun c_32 => ?_)
                        · refine lv_bipush (v := 6) hx hb dL_isWhole_178 (by decide) ?_
                          refine lv_iload hx hb dL_isWhole_180 (lv_at hl 7 rfl) ?_
                          refine lv_iload hx hb dL_isWhole_182 (lv_at hl 11 rfl) ?_
                          refine lv_iadd hx hb dL_isWhole_184 ?_
                          rw [show (((nI r_g) + k_g) : Int32) = (nI r2_g) from add_k hki (by omega) (by omega) (by omega) (by omega)]
                          refine lv_imul hx hb dL_isWhole_185 ?_
                          rw [show (6 * (nI r2_g) : Int32) = (nI (6 * r2_g)) from pk_mul 6 r2_g]
                          refine lv_iload hx hb dL_isWhole_186 (lv_at hl 8 rfl) ?_
                          refine lv_iadd hx hb dL_isWhole_188 ?_
                          rw [show ((nI (6 * r2_g)) + (nI q_g) : Int32) = (nI ((6 * r2_g) + q_g)) from nI_add (6 * r2_g) q_g]
                          rw [show ((nI ((6 * r2_g) + q_g)) : Int32) = (nI ((6 * r2_g) + q_g)) from rfl]
                          refine lv_istore (lv' := [(12, .int (nI ((6 * r2_g) + q_g))), (11, .int (if i_g < bk_g ∨ bk_g + sz_g ≤ i_g then -1 else nI v_g)), (0, .ref (a 0)), (1, .ref ca_g), (2, .ref cb_g), (3, .int rp_g), (4, .int 1), (5, .int (nI v_g)), (6, .int (nI r_g)), (7, .int (nI q_g)), (8, .int (nI fw_g)), (9, .int (nI bk_g)), (10, .int k_g)]) hx hb dL_isWhole_189 hl (by decide) rfl (fun ls hl => ?_)
                          exact cut_191 ((6 * r2_g) + q_g) (g5) _ _ hP hS _ (lv_sub hl [2, 3, 4, 5, 6, 7, 8, 9, 10, 11, 12, 1, 0] rfl)
                        · exact absurd c_32 hA9
                      · have hA9 := c_31
                        obtain ⟨g6, g7⟩ : r2_g = r_g ∧ q2_g + bk_g = q_g + i_g := by rcases g3 with ⟨_, z⟩ | ⟨z, _⟩; exact z; exact absurd hA9 z
                        rw [g6] at g1 g4 g5
                        refine lv_aload_n hx hb dL_isWhole_129 rfl (lv_at hl 0 rfl) ?_
                        refine lv_iload hx hb dL_isWhole_130 (lv_at hl 6 rfl) ?_
                        refine lv_iload hx hb dL_isWhole_132 (lv_at hl 7 rfl) ?_
                        refine lv_iload hx hb dL_isWhole_134 (lv_at hl 10 rfl) ?_
                        refine lv_iadd hx hb dL_isWhole_136 ?_
                        rw [show (((nI q_g) + k_g) : Int32) = (nI q2_g) from add_k hki (by omega) (by omega) (by omega) (by omega)]
                        have hPc := hP.sub (ws' := [((a 0), .inr (2, [.ref (a 6), .ref (a 1), .int (j_pp (x_J X)), .int (j_po (x_J X)), .int (j_mc (x_J X)), .int (j_dc (x_J X)), .int (j_is (x_J X))])), ((a 1), .inr (0, [.ref (a 6), .ref (a 2), .ref (a 3), .ref (a 4), .ref (a 5), .int (s_fc (x_S X)), .int (s_fs (x_S X)), .int (s_sm (x_S X)), .int (s_sc (x_S X)), .int (s_sf (x_S X))])), ((a 2), .inl (cI, 800, .inl (s_fo (x_S X)))), ((a 3), .inl (cI, 800, .inl (s_or (x_S X)))), ((a 4), .inl (cI, 800, .inl (s_mo (x_S X)))), ((a 5), .inl (cI, 2048, .inl (s_sl (x_S X)))), ((a 6), .inr (1, [.ref (a 7), .ref (a 8), .ref (a 9), .ref (a 10), .int (nI (y_n (x_Y X))), .long (y_rp (x_Y X))])), ((a 7), .inl (cI, 9, .inl (y_sz (x_Y X)))), ((a 8), .inl (cZ, 9, .inl (y_ac (x_Y X)))), ((a 9), .inl (cI, 9, .inl (y_li (x_Y X)))), ((a 10), .inl (cJ, 9, .inr (.inl (y_sh (x_Y X)))))]) [0, 1, 2, 3, 4, 5, 6, 7, 8, 9, 10] rfl
                        refine ro_i (va_runV (As := [.int (nI r_g), .int (nI q2_g)]) (rest := []) ⟨hx, hb, hml, hown, hts⟩ ((c_X2_at l G cI cZ cJ a _ X (nI r_g) (nI q2_g) hn (at_ok g1 g2))) (cwV 2 hts gL_isWhole_X2_at rfl rfl rfl (by decide +kernel) ⟨Nat.le_of_ble_eq_true rfl, Nat.le_of_ble_eq_true rfl⟩) ⟨ro_blind, va_recv hK hPc (ci := 2) (q0 := 0) rfl rfl, ro_pre hPc hK hN⟩ rfl rfl hl.1 rfl (lv_room (Nat.le_of_ble_eq_true rfl)) dL_isWhole_137 ⟨Nat.zero_le _, Nat.zero_le _⟩) hS hA hP (fun H locs hP hS => ?_)
                        rw [show y_on (x_Y X) (j_po (x_J X)) (co (nI r_g) (nI q2_g)) (y_n (x_Y X)) 0 = if i_g < bk_g ∨ bk_g + sz_g ≤ i_g then -1 else nI v_g from g4]
                        refine lv_goto (tgt := 154) hx hb dL_isWhole_140 (by decide) ?_
                        refine lv_istore (lv' := [(11, .int (if i_g < bk_g ∨ bk_g + sz_g ≤ i_g then -1 else nI v_g)), (0, .ref (a 0)), (1, .ref ca_g), (2, .ref cb_g), (3, .int rp_g), (4, .int 1), (5, .int (nI v_g)), (6, .int (nI r_g)), (7, .int (nI q_g)), (8, .int (nI fw_g)), (9, .int (nI bk_g)), (10, .int k_g)]) hx hb dL_isWhole_154 hl (by decide) rfl (fun ls hl => ?_)
                        refine lv_aload_n hx hb dL_isWhole_156 rfl (lv_at hl 3 rfl) ?_
                        refine lv_iload hx hb dL_isWhole_157 (lv_at hl 6 rfl) ?_
                        refine va_iald hx hb hK hP 12 0 rfl rfl (vp_in_nI (by omega) (by decide)) dL_isWhole_159 ?_
                        rw [show (nI v_g).toNatClampNeg = v_g from nI_clamp (by omega)]
                        refine lv_iconst (v := 1) hx hb dL_isWhole_160 (by decide) ?_
                        refine lv_icmp_ne (tgt := 178) hx hb dL_isWhole_161 (by decide) (fun c_33 => ?_) (fun c_33 => ?_)
                        · exact absurd hA9 c_33
                        · refine lv_bipush (v := 6) hx hb dL_isWhole_164 (by decide) ?_
                          refine lv_iload hx hb dL_isWhole_166 (lv_at hl 7 rfl) ?_
                          refine lv_imul hx hb dL_isWhole_168 ?_
                          rw [show (6 * (nI r_g) : Int32) = (nI (6 * r_g)) from pk_mul 6 r_g]
                          refine lv_iload hx hb dL_isWhole_169 (lv_at hl 8 rfl) ?_
                          refine lv_iadd hx hb dL_isWhole_171 ?_
                          rw [show ((nI (6 * r_g)) + (nI q_g) : Int32) = (nI ((6 * r_g) + q_g)) from nI_add (6 * r_g) q_g]
                          refine lv_iload hx hb dL_isWhole_172 (lv_at hl 11 rfl) ?_
                          refine lv_iadd hx hb dL_isWhole_174 ?_
                          refine lv_goto (tgt := 189) hx hb dL_isWhole_175 (by decide) ?_
                          rw [show (((nI ((6 * r_g) + q_g)) + k_g) : Int32) = (nI (6 * r_g + q2_g)) from add_k hki (by omega) (by omega) (by omega) (by omega)]
                          refine lv_istore (lv' := [(12, .int (nI (6 * r_g + q2_g))), (11, .int (if i_g < bk_g ∨ bk_g + sz_g ≤ i_g then -1 else nI v_g)), (0, .ref (a 0)), (1, .ref ca_g), (2, .ref cb_g), (3, .int rp_g), (4, .int 1), (5, .int (nI v_g)), (6, .int (nI r_g)), (7, .int (nI q_g)), (8, .int (nI fw_g)), (9, .int (nI bk_g)), (10, .int k_g)]) hx hb dL_isWhole_189 hl (by decide) rfl (fun ls hl => ?_)
                          exact cut_191 (6 * r_g + q2_g) (g5) _ _ hP hS _ (lv_sub hl [2, 3, 4, 5, 6, 7, 8, 9, 10, 11, 12, 1, 0] rfl)
                exact cut_109 ((bk_g + sz_g + fw_g) + 1) 0 (-(nI bk_g)) (by omega) (by omega) (neg_k (by omega)) _ _ hP hS _ (lv_sub hl [6, 7, 8, 9, 1, 10, 5, 4, 3, 2, 0] rfl)
    exact cut_21 ((y_n (x_Y X)) + 1) 0 (by omega) (by omega) _ _ hP hS _ (lv_sub hl [2, 3, 4, 5, 1, 0] rfl)

set_option maxHeartbeats 4000000 in
set_option maxRecDepth 100000 in
/-- isStep -/
theorem c_L_isStep (l : Launch) (G : va_G) (cI cZ cJ : ClassId) (a : Nat → Nat) (sz : Nat) (X : XS) (Z1 : XS) (Z3 : XS) (v_g : Int32) (c_g : Int32) (P_g : Int32) (hn : y_n (x_Y X) ≤ 9) (n1 : y_n (x_Y Z1) ≤ 9) (n3 : y_n (x_Y Z3) ≤ 9) (hZ1 : x_srch X = Z1) (hZ3 : x_srch (x_move Z1 v_g c_g) = Z3) (i3 : x_srch Z3 = Z3) (hdt : drive_th Z1 v_g c_g = 0) (h1 : j_mc (x_J Z3) = j_mc (x_J Z1) + 1) (h2 : j_dc (x_J Z3) = j_dc (x_J Z1) + (if 0 ≤ c_g then c_g else -c_g)) (h3 : ¬ P_g = 800 → s_fc (x_S Z3) = P_g ∧ ap9 (s_sm (x_S Z1)) (s_sm (x_S Z3)) ≤ 1 ∧ (0 ≤ (s_sm (x_S Z1)) ↔ 0 ≤ (s_sm (x_S Z3)))) (h4 : (s_sm (x_S Z3)) = 0 → pl (j_po (x_J Z3)) 0 = 4 ∧ s_sf (x_S Z3) = -1) (h5 : 0 < (s_sm (x_S Z3)) ↔ 0 ≤ s_sf (x_S Z3)) : Met l yL_isStep wsL_isStep ({ frames := 7, cells := 0, slots := 0, locals := 164 }) (rw_Pc G [(cI, .int), (cZ, .boolean), (cJ, .long)] (wJ cI cZ cJ a (x_J X) (x_S X) (x_Y X)) sz [.ref (a 0), .int v_g, .int c_g, .int P_g]) (rw_Qi (S := XS) 1 Z3 (fun u : XS => wJ cI cZ cJ a (x_J u) (x_S u) (x_Y u)) G (wJ cI cZ cJ a (x_J X) (x_S X) (x_Y X)) sz) 0 0 (va_A (wJ cI cZ cJ a (x_J X) (x_S X) (x_Y X)) sz) := by
  refine Met.ofW (cc := cL_isStep) (maxL := 9) (ret := (some .boolean)) (by decide) rfl ?_
  intro p e s m args below meth c s₁ B hml hv
  obtain ⟨rfl, hsz, hP, hK, hD0, hN⟩ := hv
  have hx := B.exec
  have hb := B.bytes
  have hr := B.returns
  have hts := atoms_spec (ws := wsL_isStep) B.pre
  have hown : s.vm.findClass RL = some m.cls := findClass_of_methodNamed B.named
  have hlocks := B.notSynchronized
  subst hsz
  have hD0 : va_D (fun _ => True) [((a 0), .inr (2, [.ref (a 6), .ref (a 1), .int (j_pp (x_J X)), .int (j_po (x_J X)), .int (j_mc (x_J X)), .int (j_dc (x_J X)), .int (j_is (x_J X))])), ((a 1), .inr (0, [.ref (a 6), .ref (a 2), .ref (a 3), .ref (a 4), .ref (a 5), .int (s_fc (x_S X)), .int (s_fs (x_S X)), .int (s_sm (x_S X)), .int (s_sc (x_S X)), .int (s_sf (x_S X))])), ((a 2), .inl (cI, 800, .inl (s_fo (x_S X)))), ((a 3), .inl (cI, 800, .inl (s_or (x_S X)))), ((a 4), .inl (cI, 800, .inl (s_mo (x_S X)))), ((a 5), .inl (cI, 2048, .inl (s_sl (x_S X)))), ((a 6), .inr (1, [.ref (a 7), .ref (a 8), .ref (a 9), .ref (a 10), .int (nI (y_n (x_Y X))), .long (y_rp (x_Y X))])), ((a 7), .inl (cI, 9, .inl (y_sz (x_Y X)))), ((a 8), .inl (cZ, 9, .inl (y_ac (x_Y X)))), ((a 9), .inl (cI, 9, .inl (y_li (x_Y X)))), ((a 10), .inl (cJ, 9, .inr (.inl (y_sh (x_Y X)))))] := hD0
  have hD := hD0.self (sz := s.heap.size)
  unfold rw_Qi
  generalize hAe : va_A (wJ cI cZ cJ a (x_J X) (x_S X) (x_Y X)) s.heap.size = A at hD ⊢
  have hA : ∀ q : Nat, s.heap.size ≤ q → A q := fun q h => by rw [← hAe]; exact Or.inr h
  have hS : va_S A s.heap s.heap [] := va_S.rf
  have hP : va_P G vwCl [((a 0), .inr (2, [.ref (a 6), .ref (a 1), .int (j_pp (x_J X)), .int (j_po (x_J X)), .int (j_mc (x_J X)), .int (j_dc (x_J X)), .int (j_is (x_J X))])), ((a 1), .inr (0, [.ref (a 6), .ref (a 2), .ref (a 3), .ref (a 4), .ref (a 5), .int (s_fc (x_S X)), .int (s_fs (x_S X)), .int (s_sm (x_S X)), .int (s_sc (x_S X)), .int (s_sf (x_S X))])), ((a 2), .inl (cI, 800, .inl (s_fo (x_S X)))), ((a 3), .inl (cI, 800, .inl (s_or (x_S X)))), ((a 4), .inl (cI, 800, .inl (s_mo (x_S X)))), ((a 5), .inl (cI, 2048, .inl (s_sl (x_S X)))), ((a 6), .inr (1, [.ref (a 7), .ref (a 8), .ref (a 9), .ref (a 10), .int (nI (y_n (x_Y X))), .long (y_rp (x_Y X))])), ((a 7), .inl (cI, 9, .inl (y_sz (x_Y X)))), ((a 8), .inl (cZ, 9, .inl (y_ac (x_Y X)))), ((a 9), .inl (cI, 9, .inl (y_li (x_Y X)))), ((a 10), .inl (cJ, 9, .inr (.inl (y_sh (x_Y X)))))] s.heap := hP
  have hl := lv_entry ([.ref (a 0), .int v_g, .int c_g, .int P_g]) (n := 9) (Nat.le_of_ble_eq_true rfl)
  rw [lg_entry_eq]
  generalize (lg_sl ([.ref (a 0), .int v_g, .int c_g, .int P_g]) ++ List.replicate (9 - (lg_sl ([.ref (a 0), .int v_g, .int c_g, .int P_g])).length) Slot.unset).toArray = ls at hl ⊢
  have hl : lv_has ls 9 [(0, .ref (a 0)), (1, .int v_g), (2, .int c_g), (3, .int P_g)] := hl
  refine lv_aload_n hx hb dL_isStep_0 rfl (lv_at hl 0 rfl) ?_
  refine rw_i (wr := []) (ws' := [((a 0), .inr (2, [.ref (a 6), .ref (a 1), .int (j_pp (x_J Z1)), .int (j_po (x_J Z1)), .int (j_mc (x_J Z1)), .int (j_dc (x_J Z1)), .int (j_is (x_J Z1))])), ((a 1), .inr (0, [.ref (a 6), .ref (a 2), .ref (a 3), .ref (a 4), .ref (a 5), .int (s_fc (x_S Z1)), .int (s_fs (x_S Z1)), .int (s_sm (x_S Z1)), .int (s_sc (x_S Z1)), .int (s_sf (x_S Z1))])), ((a 2), .inl (cI, 800, .inl (s_fo (x_S Z1)))), ((a 3), .inl (cI, 800, .inl (s_or (x_S Z1)))), ((a 4), .inl (cI, 800, .inl (s_mo (x_S Z1)))), ((a 5), .inl (cI, 2048, .inl (s_sl (x_S Z1)))), ((a 6), .inr (1, [.ref (a 7), .ref (a 8), .ref (a 9), .ref (a 10), .int (nI (y_n (x_Y Z1))), .long (y_rp (x_Y Z1))])), ((a 7), .inl (cI, 9, .inl (y_sz (x_Y Z1)))), ((a 8), .inl (cZ, 9, .inl (y_ac (x_Y Z1)))), ((a 9), .inl (cI, 9, .inl (y_li (x_Y Z1)))), ((a 10), .inl (cJ, 9, .inr (.inl (y_sh (x_Y Z1)))))]) (va_runV (As := []) (rest := []) ⟨hx, hb, hml, hown, hts⟩ ((c_X2_fewestMovesZ l G cI cZ cJ a _ X Z1 hn hZ1)) (cwV 0 hts gL_isStep_X2_fewestMoves rfl rfl rfl (by decide +kernel) ⟨Nat.le_of_ble_eq_true rfl, Nat.le_of_ble_eq_true rfl⟩) ⟨rw_blind, va_recv hK hP (ci := 2) (q0 := 0) rfl rfl, rw_pre hP hD hK hN⟩ rfl rfl hl.1 rfl (lv_room (Nat.le_of_ble_eq_true rfl)) dL_isStep_1 ⟨Nat.zero_le _, Nat.zero_le _⟩) hS hA hP hD [0, 1, 2, 3, 4, 5, 6, 7, 8, 9, 10] [] [0, 1, 2, 3, 4, 5, 6, 7, 8, 9, 10] rfl rfl (by decide) (by decide) rfl (by decide) (fun H locs hP hD hS => ?_)
  refine lv_istore (lv' := [(4, .int (s_sm (x_S Z1))), (0, .ref (a 0)), (1, .int v_g), (2, .int c_g), (3, .int P_g)]) hx hb dL_isStep_4 hl (by decide) rfl (fun ls hl => ?_)
  refine lv_aload_n hx hb dL_isStep_6 rfl (lv_at hl 1 rfl) ?_
  refine ro_i (va_runV (As := []) (rest := []) ⟨hx, hb, hml, hown, hts⟩ ((c_X2_moves l G cI cZ cJ a _ Z1 )) (cwV 0 hts gL_isStep_X2_moves rfl rfl rfl (by decide +kernel) ⟨Nat.le_of_ble_eq_true rfl, Nat.le_of_ble_eq_true rfl⟩) ⟨ro_blind, va_recv hK hP (ci := 2) (q0 := 0) rfl rfl, ro_pre hP hK hN⟩ rfl rfl hl.1 rfl (lv_room (Nat.le_of_ble_eq_true rfl)) dL_isStep_7 ⟨Nat.zero_le _, Nat.zero_le _⟩) hS hA hP (fun H locs hP hS => ?_)
  refine lv_istore (lv' := [(5, .int (j_mc (x_J Z1))), (4, .int (s_sm (x_S Z1))), (0, .ref (a 0)), (1, .int v_g), (2, .int c_g), (3, .int P_g)]) hx hb dL_isStep_10 hl (by decide) rfl (fun ls hl => ?_)
  refine lv_aload_n hx hb dL_isStep_12 rfl (lv_at hl 2 rfl) ?_
  refine ro_i (va_runV (As := []) (rest := []) ⟨hx, hb, hml, hown, hts⟩ ((c_X2_driven l G cI cZ cJ a _ Z1 )) (cwV 0 hts gL_isStep_X2_driven rfl rfl rfl (by decide +kernel) ⟨Nat.le_of_ble_eq_true rfl, Nat.le_of_ble_eq_true rfl⟩) ⟨ro_blind, va_recv hK hP (ci := 2) (q0 := 0) rfl rfl, ro_pre hP hK hN⟩ rfl rfl hl.1 rfl (lv_room (Nat.le_of_ble_eq_true rfl)) dL_isStep_13 ⟨Nat.zero_le _, Nat.zero_le _⟩) hS hA hP (fun H locs hP hS => ?_)
  refine lv_istore (lv' := [(6, .int (j_dc (x_J Z1))), (5, .int (j_mc (x_J Z1))), (4, .int (s_sm (x_S Z1))), (0, .ref (a 0)), (1, .int v_g), (2, .int c_g), (3, .int P_g)]) hx hb dL_isStep_16 hl (by decide) rfl (fun ls hl => ?_)
  refine lv_aload_n hx hb dL_isStep_18 rfl (lv_at hl 3 rfl) ?_
  refine lv_iload_n hx hb dL_isStep_19 rfl (lv_at hl 4 rfl) ?_
  refine lv_iload_n hx hb dL_isStep_20 rfl (lv_at hl 5 rfl) ?_
  refine rw_v (wr := []) (ws' := [((a 0), .inr (2, [.ref (a 6), .ref (a 1), .int (j_pp (x_J (x_move Z1 v_g c_g))), .int (j_po (x_J (x_move Z1 v_g c_g))), .int (j_mc (x_J (x_move Z1 v_g c_g))), .int (j_dc (x_J (x_move Z1 v_g c_g))), .int (j_is (x_J (x_move Z1 v_g c_g)))])), ((a 1), .inr (0, [.ref (a 6), .ref (a 2), .ref (a 3), .ref (a 4), .ref (a 5), .int (s_fc (x_S (x_move Z1 v_g c_g))), .int (s_fs (x_S (x_move Z1 v_g c_g))), .int (s_sm (x_S (x_move Z1 v_g c_g))), .int (s_sc (x_S (x_move Z1 v_g c_g))), .int (s_sf (x_S (x_move Z1 v_g c_g)))])), ((a 2), .inl (cI, 800, .inl (s_fo (x_S (x_move Z1 v_g c_g))))), ((a 3), .inl (cI, 800, .inl (s_or (x_S (x_move Z1 v_g c_g))))), ((a 4), .inl (cI, 800, .inl (s_mo (x_S (x_move Z1 v_g c_g))))), ((a 5), .inl (cI, 2048, .inl (s_sl (x_S (x_move Z1 v_g c_g))))), ((a 6), .inr (1, [.ref (a 7), .ref (a 8), .ref (a 9), .ref (a 10), .int (nI (y_n (x_Y (x_move Z1 v_g c_g)))), .long (y_rp (x_Y (x_move Z1 v_g c_g)))])), ((a 7), .inl (cI, 9, .inl (y_sz (x_Y (x_move Z1 v_g c_g))))), ((a 8), .inl (cZ, 9, .inl (y_ac (x_Y (x_move Z1 v_g c_g))))), ((a 9), .inl (cI, 9, .inl (y_li (x_Y (x_move Z1 v_g c_g))))), ((a 10), .inl (cJ, 9, .inr (.inl (y_sh (x_Y (x_move Z1 v_g c_g))))))]) (va_runV (As := [.int v_g, .int c_g]) (rest := []) ⟨hx, hb, hml, hown, hts⟩ ((c_X2_drive l G cI cZ cJ a _ Z1 v_g c_g n1 hdt)) (cwV 2 hts gL_isStep_X2_drive rfl rfl rfl (by decide +kernel) ⟨Nat.le_of_ble_eq_true rfl, Nat.le_of_ble_eq_true rfl⟩) ⟨rw_blind, va_recv hK hP (ci := 2) (q0 := 0) rfl rfl, rw_pre hP hD hK hN⟩ rfl rfl hl.1 rfl (lv_room (Nat.le_of_ble_eq_true rfl)) dL_isStep_21 ⟨Nat.zero_le _, Nat.zero_le _⟩) hS hA hP hD [0, 1, 2, 3, 4, 5, 6, 7, 8, 9, 10] [] [0, 1, 2, 3, 4, 5, 6, 7, 8, 9, 10] rfl rfl (by decide) (by decide) rfl (by decide) (fun H locs hP hD hS => ?_)
  refine lv_aload_n hx hb dL_isStep_24 rfl (lv_at hl 3 rfl) ?_
  refine rw_i (wr := []) (ws' := [((a 0), .inr (2, [.ref (a 6), .ref (a 1), .int (j_pp (x_J Z3)), .int (j_po (x_J Z3)), .int (j_mc (x_J Z3)), .int (j_dc (x_J Z3)), .int (j_is (x_J Z3))])), ((a 1), .inr (0, [.ref (a 6), .ref (a 2), .ref (a 3), .ref (a 4), .ref (a 5), .int (s_fc (x_S Z3)), .int (s_fs (x_S Z3)), .int (s_sm (x_S Z3)), .int (s_sc (x_S Z3)), .int (s_sf (x_S Z3))])), ((a 2), .inl (cI, 800, .inl (s_fo (x_S Z3)))), ((a 3), .inl (cI, 800, .inl (s_or (x_S Z3)))), ((a 4), .inl (cI, 800, .inl (s_mo (x_S Z3)))), ((a 5), .inl (cI, 2048, .inl (s_sl (x_S Z3)))), ((a 6), .inr (1, [.ref (a 7), .ref (a 8), .ref (a 9), .ref (a 10), .int (nI (y_n (x_Y Z3))), .long (y_rp (x_Y Z3))])), ((a 7), .inl (cI, 9, .inl (y_sz (x_Y Z3)))), ((a 8), .inl (cZ, 9, .inl (y_ac (x_Y Z3)))), ((a 9), .inl (cI, 9, .inl (y_li (x_Y Z3)))), ((a 10), .inl (cJ, 9, .inr (.inl (y_sh (x_Y Z3)))))]) (va_runV (As := []) (rest := []) ⟨hx, hb, hml, hown, hts⟩ ((c_X2_fewestMovesZ l G cI cZ cJ a _ (x_move Z1 v_g c_g) Z3 n1 hZ3)) (cwV 0 hts gL_isStep_X2_fewestMoves rfl rfl rfl (by decide +kernel) ⟨Nat.le_of_ble_eq_true rfl, Nat.le_of_ble_eq_true rfl⟩) ⟨rw_blind, va_recv hK hP (ci := 2) (q0 := 0) rfl rfl, rw_pre hP hD hK hN⟩ rfl rfl hl.1 rfl (lv_room (Nat.le_of_ble_eq_true rfl)) dL_isStep_25 ⟨Nat.zero_le _, Nat.zero_le _⟩) hS hA hP hD [0, 1, 2, 3, 4, 5, 6, 7, 8, 9, 10] [] [0, 1, 2, 3, 4, 5, 6, 7, 8, 9, 10] rfl rfl (by decide) (by decide) rfl (by decide) (fun H locs hP hD hS => ?_)
  refine lv_istore (lv' := [(7, .int (s_sm (x_S Z3))), (6, .int (j_dc (x_J Z1))), (5, .int (j_mc (x_J Z1))), (4, .int (s_sm (x_S Z1))), (0, .ref (a 0)), (1, .int v_g), (2, .int c_g), (3, .int P_g)]) hx hb dL_isStep_28 hl (by decide) rfl (fun ls hl => ?_)
  have cut_127 : ∀ (H : Heap) (locs : List Loc), va_P G vwCl [((a 0), .inr (2, [.ref (a 6), .ref (a 1), .int (j_pp (x_J Z3)), .int (j_po (x_J Z3)), .int (j_mc (x_J Z3)), .int (j_dc (x_J Z3)), .int (j_is (x_J Z3))])), ((a 1), .inr (0, [.ref (a 6), .ref (a 2), .ref (a 3), .ref (a 4), .ref (a 5), .int (s_fc (x_S Z3)), .int (s_fs (x_S Z3)), .int (s_sm (x_S Z3)), .int (s_sc (x_S Z3)), .int (s_sf (x_S Z3))])), ((a 2), .inl (cI, 800, .inl (s_fo (x_S Z3)))), ((a 3), .inl (cI, 800, .inl (s_or (x_S Z3)))), ((a 4), .inl (cI, 800, .inl (s_mo (x_S Z3)))), ((a 5), .inl (cI, 2048, .inl (s_sl (x_S Z3)))), ((a 6), .inr (1, [.ref (a 7), .ref (a 8), .ref (a 9), .ref (a 10), .int (nI (y_n (x_Y Z3))), .long (y_rp (x_Y Z3))])), ((a 7), .inl (cI, 9, .inl (y_sz (x_Y Z3)))), ((a 8), .inl (cZ, 9, .inl (y_ac (x_Y Z3)))), ((a 9), .inl (cI, 9, .inl (y_li (x_Y Z3)))), ((a 10), .inl (cJ, 9, .inr (.inl (y_sh (x_Y Z3)))))] H → va_D A [((a 0), .inr (2, [.ref (a 6), .ref (a 1), .int (j_pp (x_J Z3)), .int (j_po (x_J Z3)), .int (j_mc (x_J Z3)), .int (j_dc (x_J Z3)), .int (j_is (x_J Z3))])), ((a 1), .inr (0, [.ref (a 6), .ref (a 2), .ref (a 3), .ref (a 4), .ref (a 5), .int (s_fc (x_S Z3)), .int (s_fs (x_S Z3)), .int (s_sm (x_S Z3)), .int (s_sc (x_S Z3)), .int (s_sf (x_S Z3))])), ((a 2), .inl (cI, 800, .inl (s_fo (x_S Z3)))), ((a 3), .inl (cI, 800, .inl (s_or (x_S Z3)))), ((a 4), .inl (cI, 800, .inl (s_mo (x_S Z3)))), ((a 5), .inl (cI, 2048, .inl (s_sl (x_S Z3)))), ((a 6), .inr (1, [.ref (a 7), .ref (a 8), .ref (a 9), .ref (a 10), .int (nI (y_n (x_Y Z3))), .long (y_rp (x_Y Z3))])), ((a 7), .inl (cI, 9, .inl (y_sz (x_Y Z3)))), ((a 8), .inl (cZ, 9, .inl (y_ac (x_Y Z3)))), ((a 9), .inl (cI, 9, .inl (y_li (x_Y Z3)))), ((a 10), .inl (cJ, 9, .inr (.inl (y_sh (x_Y Z3)))))] → va_S A s.heap H locs → ∀ (ls : Array Slot), lv_has ls 9 [(7, .int (s_sm (x_S Z3))), (6, .int (j_dc (x_J Z1))), (5, .int (j_mc (x_J Z1))), (4, .int (s_sm (x_S Z1))), (0, .ref (a 0)), (1, .int v_g), (2, .int c_g), (3, .int P_g), (8, .int (ap9 (s_sm (x_S Z1)) (s_sm (x_S Z3))))] → W p l e (headSpec wsL_isStep ({ frames := 7, cells := 0, slots := 0, locals := 164 })).room s m ([.ref (a 0), .int v_g, .int c_g, .int P_g] : List Value).toArray below meth c H locs 0 0 (MQ below (va_Qi (fun (r : Int32) (u : XS) => r = 1 ∧ u = Z3) (fun (u : XS) (t : State) => va_P G vwCl ((fun u : XS => wJ cI cZ cJ a (x_J u) (x_S u) (x_Y u)) u) t.heap ∧ va_D A ((fun u : XS => wJ cI cZ cJ a (x_J u) (x_S u) (x_Y u)) u)) A) ([.ref (a 0), .int v_g, .int c_g, .int P_g] : List Value).toArray s 0 0 A) (F0 m 127 ls []) := by
    intro   H locs hP hD hS ls hl
    refine lv_iload hx hb dL_isStep_127 (lv_at hl 0 rfl) ?_
    refine lv_if_ne (tgt := 147) hx hb dL_isStep_129 (by decide) (fun c_1 => ?_) (fun c_1 => ?_)
    · refine lv_iload hx hb dL_isStep_147 (lv_at hl 0 rfl) ?_
      refine lv_if_gt (tgt := 156) hx hb dL_isStep_149 (by decide) (fun c_2 => ?_) (fun c_2 => ?_)
      · refine lv_iconst (v := 0) hx hb dL_isStep_156 (by decide) ?_
        refine lv_aload_n hx hb dL_isStep_157 rfl (lv_at hl 4 rfl) ?_
        refine rw_i (wr := []) (ws' := [((a 0), .inr (2, [.ref (a 6), .ref (a 1), .int (j_pp (x_J Z3)), .int (j_po (x_J Z3)), .int (j_mc (x_J Z3)), .int (j_dc (x_J Z3)), .int (j_is (x_J Z3))])), ((a 1), .inr (0, [.ref (a 6), .ref (a 2), .ref (a 3), .ref (a 4), .ref (a 5), .int (s_fc (x_S Z3)), .int (s_fs (x_S Z3)), .int (s_sm (x_S Z3)), .int (s_sc (x_S Z3)), .int (s_sf (x_S Z3))])), ((a 2), .inl (cI, 800, .inl (s_fo (x_S Z3)))), ((a 3), .inl (cI, 800, .inl (s_or (x_S Z3)))), ((a 4), .inl (cI, 800, .inl (s_mo (x_S Z3)))), ((a 5), .inl (cI, 2048, .inl (s_sl (x_S Z3)))), ((a 6), .inr (1, [.ref (a 7), .ref (a 8), .ref (a 9), .ref (a 10), .int (nI (y_n (x_Y Z3))), .long (y_rp (x_Y Z3))])), ((a 7), .inl (cI, 9, .inl (y_sz (x_Y Z3)))), ((a 8), .inl (cZ, 9, .inl (y_ac (x_Y Z3)))), ((a 9), .inl (cI, 9, .inl (y_li (x_Y Z3)))), ((a 10), .inl (cJ, 9, .inr (.inl (y_sh (x_Y Z3)))))]) (va_runV (As := []) (rest := [.int 0]) ⟨hx, hb, hml, hown, hts⟩ ((c_X2_hintZ l G cI cZ cJ a _ Z3 Z3 n3 i3)) (cwV 0 hts gL_isStep_X2_hint rfl rfl rfl (by decide +kernel) ⟨Nat.le_of_ble_eq_true rfl, Nat.le_of_ble_eq_true rfl⟩) ⟨rw_blind, va_recv hK hP (ci := 2) (q0 := 0) rfl rfl, rw_pre hP hD hK hN⟩ rfl rfl hl.1 rfl (lv_room (Nat.le_of_ble_eq_true rfl)) dL_isStep_158 ⟨Nat.zero_le _, Nat.zero_le _⟩) hS hA hP hD [0, 1, 2, 3, 4, 5, 6, 7, 8, 9, 10] [] [0, 1, 2, 3, 4, 5, 6, 7, 8, 9, 10] rfl rfl (by decide) (by decide) rfl (by decide) (fun H locs hP hD hS => ?_)
        refine lv_if_ge (tgt := 168) hx hb dL_isStep_161 (by decide) (fun c_3 => ?_) (fun c_3 => ?_)
        · refine lv_iconst (v := 0) hx hb dL_isStep_168 (by decide) ?_
          refine lv_icmp_ne (tgt := 176) hx hb dL_isStep_169 (by decide) (fun c_4 => ?_) (fun c_4 => ?_)
          · first | exact absurd rfl c_4 | exact absurd (h5.mp (by assumption)) (by assumption) | exact absurd (h5.mpr (by assumption)) (by assumption)
          · refine lv_iconst (v := 1) hx hb dL_isStep_172 (by decide) ?_
            refine lv_goto (tgt := 177) hx hb dL_isStep_173 (by decide) ?_
            have hP9 := hP
            have hD9 := hD
            exact W.zret (ty := .boolean) (v := 1) hx hb hr (rfl) (fun t ht hW => ⟨⟨1, Z3, rfl, ⟨rfl, rfl⟩, by rw [ht]; exact hP9, hD9⟩, hS.F ht⟩) hS.2.2 dL_isStep_177
        · refine lv_iconst (v := 1) hx hb dL_isStep_164 (by decide) ?_
          refine lv_goto (tgt := 169) hx hb dL_isStep_165 (by decide) ?_
          refine lv_icmp_ne (tgt := 176) hx hb dL_isStep_169 (by decide) (fun c_5 => ?_) (fun c_5 => ?_)
          · first | exact absurd rfl c_5 | exact absurd (h5.mp (by assumption)) (by assumption) | exact absurd (h5.mpr (by assumption)) (by assumption)
          · refine lv_iconst (v := 1) hx hb dL_isStep_172 (by decide) ?_
            refine lv_goto (tgt := 177) hx hb dL_isStep_173 (by decide) ?_
            have hP9 := hP
            have hD9 := hD
            exact W.zret (ty := .boolean) (v := 1) hx hb hr (rfl) (fun t ht hW => ⟨⟨1, Z3, rfl, ⟨rfl, rfl⟩, by rw [ht]; exact hP9, hD9⟩, hS.F ht⟩) hS.2.2 dL_isStep_177
      · refine lv_iconst (v := 1) hx hb dL_isStep_152 (by decide) ?_
        refine lv_goto (tgt := 157) hx hb dL_isStep_153 (by decide) ?_
        refine lv_aload_n hx hb dL_isStep_157 rfl (lv_at hl 4 rfl) ?_
        refine rw_i (wr := []) (ws' := [((a 0), .inr (2, [.ref (a 6), .ref (a 1), .int (j_pp (x_J Z3)), .int (j_po (x_J Z3)), .int (j_mc (x_J Z3)), .int (j_dc (x_J Z3)), .int (j_is (x_J Z3))])), ((a 1), .inr (0, [.ref (a 6), .ref (a 2), .ref (a 3), .ref (a 4), .ref (a 5), .int (s_fc (x_S Z3)), .int (s_fs (x_S Z3)), .int (s_sm (x_S Z3)), .int (s_sc (x_S Z3)), .int (s_sf (x_S Z3))])), ((a 2), .inl (cI, 800, .inl (s_fo (x_S Z3)))), ((a 3), .inl (cI, 800, .inl (s_or (x_S Z3)))), ((a 4), .inl (cI, 800, .inl (s_mo (x_S Z3)))), ((a 5), .inl (cI, 2048, .inl (s_sl (x_S Z3)))), ((a 6), .inr (1, [.ref (a 7), .ref (a 8), .ref (a 9), .ref (a 10), .int (nI (y_n (x_Y Z3))), .long (y_rp (x_Y Z3))])), ((a 7), .inl (cI, 9, .inl (y_sz (x_Y Z3)))), ((a 8), .inl (cZ, 9, .inl (y_ac (x_Y Z3)))), ((a 9), .inl (cI, 9, .inl (y_li (x_Y Z3)))), ((a 10), .inl (cJ, 9, .inr (.inl (y_sh (x_Y Z3)))))]) (va_runV (As := []) (rest := [.int 1]) ⟨hx, hb, hml, hown, hts⟩ ((c_X2_hintZ l G cI cZ cJ a _ Z3 Z3 n3 i3)) (cwV 0 hts gL_isStep_X2_hint rfl rfl rfl (by decide +kernel) ⟨Nat.le_of_ble_eq_true rfl, Nat.le_of_ble_eq_true rfl⟩) ⟨rw_blind, va_recv hK hP (ci := 2) (q0 := 0) rfl rfl, rw_pre hP hD hK hN⟩ rfl rfl hl.1 rfl (lv_room (Nat.le_of_ble_eq_true rfl)) dL_isStep_158 ⟨Nat.zero_le _, Nat.zero_le _⟩) hS hA hP hD [0, 1, 2, 3, 4, 5, 6, 7, 8, 9, 10] [] [0, 1, 2, 3, 4, 5, 6, 7, 8, 9, 10] rfl rfl (by decide) (by decide) rfl (by decide) (fun H locs hP hD hS => ?_)
        refine lv_if_ge (tgt := 168) hx hb dL_isStep_161 (by decide) (fun c_6 => ?_) (fun c_6 => ?_)
        · refine lv_iconst (v := 0) hx hb dL_isStep_168 (by decide) ?_
          refine lv_icmp_ne (tgt := 176) hx hb dL_isStep_169 (by decide) (fun c_7 => ?_) (fun c_7 => ?_)
          · first | exact absurd rfl c_7 | exact absurd (h5.mp (by assumption)) (by assumption) | exact absurd (h5.mpr (by assumption)) (by assumption)
          · refine lv_iconst (v := 1) hx hb dL_isStep_172 (by decide) ?_
            refine lv_goto (tgt := 177) hx hb dL_isStep_173 (by decide) ?_
            have hP9 := hP
            have hD9 := hD
            exact W.zret (ty := .boolean) (v := 1) hx hb hr (rfl) (fun t ht hW => ⟨⟨1, Z3, rfl, ⟨rfl, rfl⟩, by rw [ht]; exact hP9, hD9⟩, hS.F ht⟩) hS.2.2 dL_isStep_177
        · refine lv_iconst (v := 1) hx hb dL_isStep_164 (by decide) ?_
          refine lv_goto (tgt := 169) hx hb dL_isStep_165 (by decide) ?_
          refine lv_icmp_ne (tgt := 176) hx hb dL_isStep_169 (by decide) (fun c_8 => ?_) (fun c_8 => ?_)
          · first | exact absurd rfl c_8 | exact absurd (h5.mp (by assumption)) (by assumption) | exact absurd (h5.mpr (by assumption)) (by assumption)
          · refine lv_iconst (v := 1) hx hb dL_isStep_172 (by decide) ?_
            refine lv_goto (tgt := 177) hx hb dL_isStep_173 (by decide) ?_
            have hP9 := hP
            have hD9 := hD
            exact W.zret (ty := .boolean) (v := 1) hx hb hr (rfl) (fun t ht hW => ⟨⟨1, Z3, rfl, ⟨rfl, rfl⟩, by rw [ht]; exact hP9, hD9⟩, hS.F ht⟩) hS.2.2 dL_isStep_177
    · have hz0 := c_1
      refine lv_aload_n hx hb dL_isStep_132 rfl (lv_at hl 4 rfl) ?_
      refine ro_i (va_runV (As := []) (rest := []) ⟨hx, hb, hml, hown, hts⟩ ((c_X2_isSolved l G cI cZ cJ a _ Z3 )) (cwV 0 hts gL_isStep_X2_isSolved rfl rfl rfl (by decide +kernel) ⟨Nat.le_of_ble_eq_true rfl, Nat.le_of_ble_eq_true rfl⟩) ⟨ro_blind, va_recv hK hP (ci := 2) (q0 := 0) rfl rfl, ro_pre hP hK hN⟩ rfl rfl hl.1 rfl (lv_room (Nat.le_of_ble_eq_true rfl)) dL_isStep_133 ⟨Nat.zero_le _, Nat.zero_le _⟩) hS hA hP (fun H locs hP hS => ?_)
      refine lv_if_eq (tgt := 176) hx hb dL_isStep_136 (by decide) (fun c_9 => ?_) (fun c_9 => ?_)
      · have c_9 := b1_f c_9
        exact absurd (h4 hz0).1 c_9
      · have c_9 := b1_t c_9
        refine lv_aload_n hx hb dL_isStep_139 rfl (lv_at hl 4 rfl) ?_
        refine rw_i (wr := []) (ws' := [((a 0), .inr (2, [.ref (a 6), .ref (a 1), .int (j_pp (x_J Z3)), .int (j_po (x_J Z3)), .int (j_mc (x_J Z3)), .int (j_dc (x_J Z3)), .int (j_is (x_J Z3))])), ((a 1), .inr (0, [.ref (a 6), .ref (a 2), .ref (a 3), .ref (a 4), .ref (a 5), .int (s_fc (x_S Z3)), .int (s_fs (x_S Z3)), .int (s_sm (x_S Z3)), .int (s_sc (x_S Z3)), .int (s_sf (x_S Z3))])), ((a 2), .inl (cI, 800, .inl (s_fo (x_S Z3)))), ((a 3), .inl (cI, 800, .inl (s_or (x_S Z3)))), ((a 4), .inl (cI, 800, .inl (s_mo (x_S Z3)))), ((a 5), .inl (cI, 2048, .inl (s_sl (x_S Z3)))), ((a 6), .inr (1, [.ref (a 7), .ref (a 8), .ref (a 9), .ref (a 10), .int (nI (y_n (x_Y Z3))), .long (y_rp (x_Y Z3))])), ((a 7), .inl (cI, 9, .inl (y_sz (x_Y Z3)))), ((a 8), .inl (cZ, 9, .inl (y_ac (x_Y Z3)))), ((a 9), .inl (cI, 9, .inl (y_li (x_Y Z3)))), ((a 10), .inl (cJ, 9, .inr (.inl (y_sh (x_Y Z3)))))]) (va_runV (As := []) (rest := []) ⟨hx, hb, hml, hown, hts⟩ ((c_X2_hintZ l G cI cZ cJ a _ Z3 Z3 n3 i3)) (cwV 0 hts gL_isStep_X2_hint rfl rfl rfl (by decide +kernel) ⟨Nat.le_of_ble_eq_true rfl, Nat.le_of_ble_eq_true rfl⟩) ⟨rw_blind, va_recv hK hP (ci := 2) (q0 := 0) rfl rfl, rw_pre hP hD hK hN⟩ rfl rfl hl.1 rfl (lv_room (Nat.le_of_ble_eq_true rfl)) dL_isStep_140 ⟨Nat.zero_le _, Nat.zero_le _⟩) hS hA hP hD [0, 1, 2, 3, 4, 5, 6, 7, 8, 9, 10] [] [0, 1, 2, 3, 4, 5, 6, 7, 8, 9, 10] rfl rfl (by decide) (by decide) rfl (by decide) (fun H locs hP hD hS => ?_)
        refine lv_iconst (v := (-1)) hx hb dL_isStep_143 (by decide) ?_
        refine lv_icmp_ne (tgt := 176) hx hb dL_isStep_144 (by decide) (fun c_10 => ?_) (fun c_10 => ?_)
        · exact absurd (h4 hz0).2 c_10
        · refine lv_iload hx hb dL_isStep_147 (lv_at hl 0 rfl) ?_
          refine lv_if_gt (tgt := 156) hx hb dL_isStep_149 (by decide) (fun c_11 => ?_) (fun c_11 => ?_)
          · refine lv_iconst (v := 0) hx hb dL_isStep_156 (by decide) ?_
            refine lv_aload_n hx hb dL_isStep_157 rfl (lv_at hl 4 rfl) ?_
            refine rw_i (wr := []) (ws' := [((a 0), .inr (2, [.ref (a 6), .ref (a 1), .int (j_pp (x_J Z3)), .int (j_po (x_J Z3)), .int (j_mc (x_J Z3)), .int (j_dc (x_J Z3)), .int (j_is (x_J Z3))])), ((a 1), .inr (0, [.ref (a 6), .ref (a 2), .ref (a 3), .ref (a 4), .ref (a 5), .int (s_fc (x_S Z3)), .int (s_fs (x_S Z3)), .int (s_sm (x_S Z3)), .int (s_sc (x_S Z3)), .int (s_sf (x_S Z3))])), ((a 2), .inl (cI, 800, .inl (s_fo (x_S Z3)))), ((a 3), .inl (cI, 800, .inl (s_or (x_S Z3)))), ((a 4), .inl (cI, 800, .inl (s_mo (x_S Z3)))), ((a 5), .inl (cI, 2048, .inl (s_sl (x_S Z3)))), ((a 6), .inr (1, [.ref (a 7), .ref (a 8), .ref (a 9), .ref (a 10), .int (nI (y_n (x_Y Z3))), .long (y_rp (x_Y Z3))])), ((a 7), .inl (cI, 9, .inl (y_sz (x_Y Z3)))), ((a 8), .inl (cZ, 9, .inl (y_ac (x_Y Z3)))), ((a 9), .inl (cI, 9, .inl (y_li (x_Y Z3)))), ((a 10), .inl (cJ, 9, .inr (.inl (y_sh (x_Y Z3)))))]) (va_runV (As := []) (rest := [.int 0]) ⟨hx, hb, hml, hown, hts⟩ ((c_X2_hintZ l G cI cZ cJ a _ Z3 Z3 n3 i3)) (cwV 0 hts gL_isStep_X2_hint rfl rfl rfl (by decide +kernel) ⟨Nat.le_of_ble_eq_true rfl, Nat.le_of_ble_eq_true rfl⟩) ⟨rw_blind, va_recv hK hP (ci := 2) (q0 := 0) rfl rfl, rw_pre hP hD hK hN⟩ rfl rfl hl.1 rfl (lv_room (Nat.le_of_ble_eq_true rfl)) dL_isStep_158 ⟨Nat.zero_le _, Nat.zero_le _⟩) hS hA hP hD [0, 1, 2, 3, 4, 5, 6, 7, 8, 9, 10] [] [0, 1, 2, 3, 4, 5, 6, 7, 8, 9, 10] rfl rfl (by decide) (by decide) rfl (by decide) (fun H locs hP hD hS => ?_)
            refine lv_if_ge (tgt := 168) hx hb dL_isStep_161 (by decide) (fun c_12 => ?_) (fun c_12 => ?_)
            · refine lv_iconst (v := 0) hx hb dL_isStep_168 (by decide) ?_
              refine lv_icmp_ne (tgt := 176) hx hb dL_isStep_169 (by decide) (fun c_13 => ?_) (fun c_13 => ?_)
              · first | exact absurd rfl c_13 | exact absurd (h5.mp (by assumption)) (by assumption) | exact absurd (h5.mpr (by assumption)) (by assumption)
              · refine lv_iconst (v := 1) hx hb dL_isStep_172 (by decide) ?_
                refine lv_goto (tgt := 177) hx hb dL_isStep_173 (by decide) ?_
                have hP9 := hP
                have hD9 := hD
                exact W.zret (ty := .boolean) (v := 1) hx hb hr (rfl) (fun t ht hW => ⟨⟨1, Z3, rfl, ⟨rfl, rfl⟩, by rw [ht]; exact hP9, hD9⟩, hS.F ht⟩) hS.2.2 dL_isStep_177
            · refine lv_iconst (v := 1) hx hb dL_isStep_164 (by decide) ?_
              refine lv_goto (tgt := 169) hx hb dL_isStep_165 (by decide) ?_
              refine lv_icmp_ne (tgt := 176) hx hb dL_isStep_169 (by decide) (fun c_14 => ?_) (fun c_14 => ?_)
              · first | exact absurd rfl c_14 | exact absurd (h5.mp (by assumption)) (by assumption) | exact absurd (h5.mpr (by assumption)) (by assumption)
              · refine lv_iconst (v := 1) hx hb dL_isStep_172 (by decide) ?_
                refine lv_goto (tgt := 177) hx hb dL_isStep_173 (by decide) ?_
                have hP9 := hP
                have hD9 := hD
                exact W.zret (ty := .boolean) (v := 1) hx hb hr (rfl) (fun t ht hW => ⟨⟨1, Z3, rfl, ⟨rfl, rfl⟩, by rw [ht]; exact hP9, hD9⟩, hS.F ht⟩) hS.2.2 dL_isStep_177
          · refine lv_iconst (v := 1) hx hb dL_isStep_152 (by decide) ?_
            refine lv_goto (tgt := 157) hx hb dL_isStep_153 (by decide) ?_
            refine lv_aload_n hx hb dL_isStep_157 rfl (lv_at hl 4 rfl) ?_
            refine rw_i (wr := []) (ws' := [((a 0), .inr (2, [.ref (a 6), .ref (a 1), .int (j_pp (x_J Z3)), .int (j_po (x_J Z3)), .int (j_mc (x_J Z3)), .int (j_dc (x_J Z3)), .int (j_is (x_J Z3))])), ((a 1), .inr (0, [.ref (a 6), .ref (a 2), .ref (a 3), .ref (a 4), .ref (a 5), .int (s_fc (x_S Z3)), .int (s_fs (x_S Z3)), .int (s_sm (x_S Z3)), .int (s_sc (x_S Z3)), .int (s_sf (x_S Z3))])), ((a 2), .inl (cI, 800, .inl (s_fo (x_S Z3)))), ((a 3), .inl (cI, 800, .inl (s_or (x_S Z3)))), ((a 4), .inl (cI, 800, .inl (s_mo (x_S Z3)))), ((a 5), .inl (cI, 2048, .inl (s_sl (x_S Z3)))), ((a 6), .inr (1, [.ref (a 7), .ref (a 8), .ref (a 9), .ref (a 10), .int (nI (y_n (x_Y Z3))), .long (y_rp (x_Y Z3))])), ((a 7), .inl (cI, 9, .inl (y_sz (x_Y Z3)))), ((a 8), .inl (cZ, 9, .inl (y_ac (x_Y Z3)))), ((a 9), .inl (cI, 9, .inl (y_li (x_Y Z3)))), ((a 10), .inl (cJ, 9, .inr (.inl (y_sh (x_Y Z3)))))]) (va_runV (As := []) (rest := [.int 1]) ⟨hx, hb, hml, hown, hts⟩ ((c_X2_hintZ l G cI cZ cJ a _ Z3 Z3 n3 i3)) (cwV 0 hts gL_isStep_X2_hint rfl rfl rfl (by decide +kernel) ⟨Nat.le_of_ble_eq_true rfl, Nat.le_of_ble_eq_true rfl⟩) ⟨rw_blind, va_recv hK hP (ci := 2) (q0 := 0) rfl rfl, rw_pre hP hD hK hN⟩ rfl rfl hl.1 rfl (lv_room (Nat.le_of_ble_eq_true rfl)) dL_isStep_158 ⟨Nat.zero_le _, Nat.zero_le _⟩) hS hA hP hD [0, 1, 2, 3, 4, 5, 6, 7, 8, 9, 10] [] [0, 1, 2, 3, 4, 5, 6, 7, 8, 9, 10] rfl rfl (by decide) (by decide) rfl (by decide) (fun H locs hP hD hS => ?_)
            refine lv_if_ge (tgt := 168) hx hb dL_isStep_161 (by decide) (fun c_15 => ?_) (fun c_15 => ?_)
            · refine lv_iconst (v := 0) hx hb dL_isStep_168 (by decide) ?_
              refine lv_icmp_ne (tgt := 176) hx hb dL_isStep_169 (by decide) (fun c_16 => ?_) (fun c_16 => ?_)
              · first | exact absurd rfl c_16 | exact absurd (h5.mp (by assumption)) (by assumption) | exact absurd (h5.mpr (by assumption)) (by assumption)
              · refine lv_iconst (v := 1) hx hb dL_isStep_172 (by decide) ?_
                refine lv_goto (tgt := 177) hx hb dL_isStep_173 (by decide) ?_
                have hP9 := hP
                have hD9 := hD
                exact W.zret (ty := .boolean) (v := 1) hx hb hr (rfl) (fun t ht hW => ⟨⟨1, Z3, rfl, ⟨rfl, rfl⟩, by rw [ht]; exact hP9, hD9⟩, hS.F ht⟩) hS.2.2 dL_isStep_177
            · refine lv_iconst (v := 1) hx hb dL_isStep_164 (by decide) ?_
              refine lv_goto (tgt := 169) hx hb dL_isStep_165 (by decide) ?_
              refine lv_icmp_ne (tgt := 176) hx hb dL_isStep_169 (by decide) (fun c_17 => ?_) (fun c_17 => ?_)
              · first | exact absurd rfl c_17 | exact absurd (h5.mp (by assumption)) (by assumption) | exact absurd (h5.mpr (by assumption)) (by assumption)
              · refine lv_iconst (v := 1) hx hb dL_isStep_172 (by decide) ?_
                refine lv_goto (tgt := 177) hx hb dL_isStep_173 (by decide) ?_
                have hP9 := hP
                have hD9 := hD
                exact W.zret (ty := .boolean) (v := 1) hx hb hr (rfl) (fun t ht hW => ⟨⟨1, Z3, rfl, ⟨rfl, rfl⟩, by rw [ht]; exact hP9, hD9⟩, hS.F ht⟩) hS.2.2 dL_isStep_177
  have cut_83 : ∀ (H : Heap) (locs : List Loc), va_P G vwCl [((a 0), .inr (2, [.ref (a 6), .ref (a 1), .int (j_pp (x_J Z3)), .int (j_po (x_J Z3)), .int (j_mc (x_J Z3)), .int (j_dc (x_J Z3)), .int (j_is (x_J Z3))])), ((a 1), .inr (0, [.ref (a 6), .ref (a 2), .ref (a 3), .ref (a 4), .ref (a 5), .int (s_fc (x_S Z3)), .int (s_fs (x_S Z3)), .int (s_sm (x_S Z3)), .int (s_sc (x_S Z3)), .int (s_sf (x_S Z3))])), ((a 2), .inl (cI, 800, .inl (s_fo (x_S Z3)))), ((a 3), .inl (cI, 800, .inl (s_or (x_S Z3)))), ((a 4), .inl (cI, 800, .inl (s_mo (x_S Z3)))), ((a 5), .inl (cI, 2048, .inl (s_sl (x_S Z3)))), ((a 6), .inr (1, [.ref (a 7), .ref (a 8), .ref (a 9), .ref (a 10), .int (nI (y_n (x_Y Z3))), .long (y_rp (x_Y Z3))])), ((a 7), .inl (cI, 9, .inl (y_sz (x_Y Z3)))), ((a 8), .inl (cZ, 9, .inl (y_ac (x_Y Z3)))), ((a 9), .inl (cI, 9, .inl (y_li (x_Y Z3)))), ((a 10), .inl (cJ, 9, .inr (.inl (y_sh (x_Y Z3)))))] H → va_D A [((a 0), .inr (2, [.ref (a 6), .ref (a 1), .int (j_pp (x_J Z3)), .int (j_po (x_J Z3)), .int (j_mc (x_J Z3)), .int (j_dc (x_J Z3)), .int (j_is (x_J Z3))])), ((a 1), .inr (0, [.ref (a 6), .ref (a 2), .ref (a 3), .ref (a 4), .ref (a 5), .int (s_fc (x_S Z3)), .int (s_fs (x_S Z3)), .int (s_sm (x_S Z3)), .int (s_sc (x_S Z3)), .int (s_sf (x_S Z3))])), ((a 2), .inl (cI, 800, .inl (s_fo (x_S Z3)))), ((a 3), .inl (cI, 800, .inl (s_or (x_S Z3)))), ((a 4), .inl (cI, 800, .inl (s_mo (x_S Z3)))), ((a 5), .inl (cI, 2048, .inl (s_sl (x_S Z3)))), ((a 6), .inr (1, [.ref (a 7), .ref (a 8), .ref (a 9), .ref (a 10), .int (nI (y_n (x_Y Z3))), .long (y_rp (x_Y Z3))])), ((a 7), .inl (cI, 9, .inl (y_sz (x_Y Z3)))), ((a 8), .inl (cZ, 9, .inl (y_ac (x_Y Z3)))), ((a 9), .inl (cI, 9, .inl (y_li (x_Y Z3)))), ((a 10), .inl (cJ, 9, .inr (.inl (y_sh (x_Y Z3)))))] → va_S A s.heap H locs → ∀ (ls : Array Slot), lv_has ls 9 [(7, .int (s_sm (x_S Z3))), (6, .int (j_dc (x_J Z1))), (5, .int (j_mc (x_J Z1))), (4, .int (s_sm (x_S Z1))), (0, .ref (a 0)), (1, .int v_g), (2, .int c_g), (3, .int P_g), (8, .int (ap9 (s_sm (x_S Z1)) (s_sm (x_S Z3))))] → W p l e (headSpec wsL_isStep ({ frames := 7, cells := 0, slots := 0, locals := 164 })).room s m ([.ref (a 0), .int v_g, .int c_g, .int P_g] : List Value).toArray below meth c H locs 0 0 (MQ below (va_Qi (fun (r : Int32) (u : XS) => r = 1 ∧ u = Z3) (fun (u : XS) (t : State) => va_P G vwCl ((fun u : XS => wJ cI cZ cJ a (x_J u) (x_S u) (x_Y u)) u) t.heap ∧ va_D A ((fun u : XS => wJ cI cZ cJ a (x_J u) (x_S u) (x_Y u)) u)) A) ([.ref (a 0), .int v_g, .int c_g, .int P_g] : List Value).toArray s 0 0 A) (F0 m 83 ls []) := by
    intro   H locs hP hD hS ls hl
    refine lv_iload_n hx hb dL_isStep_83 rfl (lv_at hl 7 rfl) ?_
    refine lv_sipush (v := 800) hx hb dL_isStep_84 (by decide) ?_
    refine lv_icmp_eq (tgt := 127) hx hb dL_isStep_87 (by decide) (fun c_18 => ?_) (fun c_18 => ?_)
    · exact cut_127 _ _ hP hD hS _ hl
    · have hP8 := c_18
      refine lv_aload_n hx hb dL_isStep_90 rfl (lv_at hl 4 rfl) ?_
      refine rw_i (wr := []) (ws' := [((a 0), .inr (2, [.ref (a 6), .ref (a 1), .int (j_pp (x_J Z3)), .int (j_po (x_J Z3)), .int (j_mc (x_J Z3)), .int (j_dc (x_J Z3)), .int (j_is (x_J Z3))])), ((a 1), .inr (0, [.ref (a 6), .ref (a 2), .ref (a 3), .ref (a 4), .ref (a 5), .int (s_fc (x_S Z3)), .int (s_fs (x_S Z3)), .int (s_sm (x_S Z3)), .int (s_sc (x_S Z3)), .int (s_sf (x_S Z3))])), ((a 2), .inl (cI, 800, .inl (s_fo (x_S Z3)))), ((a 3), .inl (cI, 800, .inl (s_or (x_S Z3)))), ((a 4), .inl (cI, 800, .inl (s_mo (x_S Z3)))), ((a 5), .inl (cI, 2048, .inl (s_sl (x_S Z3)))), ((a 6), .inr (1, [.ref (a 7), .ref (a 8), .ref (a 9), .ref (a 10), .int (nI (y_n (x_Y Z3))), .long (y_rp (x_Y Z3))])), ((a 7), .inl (cI, 9, .inl (y_sz (x_Y Z3)))), ((a 8), .inl (cZ, 9, .inl (y_ac (x_Y Z3)))), ((a 9), .inl (cI, 9, .inl (y_li (x_Y Z3)))), ((a 10), .inl (cJ, 9, .inr (.inl (y_sh (x_Y Z3)))))]) (va_runV (As := []) (rest := []) ⟨hx, hb, hml, hown, hts⟩ ((c_X2_positionsZ l G cI cZ cJ a _ Z3 Z3 n3 i3)) (cwV 0 hts gL_isStep_X2_positions rfl rfl rfl (by decide +kernel) ⟨Nat.le_of_ble_eq_true rfl, Nat.le_of_ble_eq_true rfl⟩) ⟨rw_blind, va_recv hK hP (ci := 2) (q0 := 0) rfl rfl, rw_pre hP hD hK hN⟩ rfl rfl hl.1 rfl (lv_room (Nat.le_of_ble_eq_true rfl)) dL_isStep_91 ⟨Nat.zero_le _, Nat.zero_le _⟩) hS hA hP hD [0, 1, 2, 3, 4, 5, 6, 7, 8, 9, 10] [] [0, 1, 2, 3, 4, 5, 6, 7, 8, 9, 10] rfl rfl (by decide) (by decide) rfl (by decide) (fun H locs hP hD hS => ?_)
      refine lv_iload_n hx hb dL_isStep_94 rfl (lv_at hl 7 rfl) ?_
      refine lv_icmp_ne (tgt := 176) hx hb dL_isStep_95 (by decide) (fun c_19 => ?_) (fun c_19 => ?_)
      · exact absurd (h3 hP8).1 c_19
      · refine lv_iload hx hb dL_isStep_98 (lv_at hl 8 rfl) ?_
        refine lv_iconst (v := 1) hx hb dL_isStep_100 (by decide) ?_
        refine lv_icmp_gt (tgt := 176) hx hb dL_isStep_101 (by decide) (fun c_20 => ?_) (fun c_20 => ?_)
        · exact absurd c_20 (Int32.not_lt.mpr (h3 hP8).2.1)
        · refine lv_iload hx hb dL_isStep_104 (lv_at hl 3 rfl) ?_
          refine lv_if_ge (tgt := 113) hx hb dL_isStep_106 (by decide) (fun c_21 => ?_) (fun c_21 => ?_)
          · refine lv_iconst (v := 0) hx hb dL_isStep_113 (by decide) ?_
            refine lv_iload hx hb dL_isStep_114 (lv_at hl 0 rfl) ?_
            refine lv_if_ge (tgt := 123) hx hb dL_isStep_116 (by decide) (fun c_22 => ?_) (fun c_22 => ?_)
            · refine lv_iconst (v := 0) hx hb dL_isStep_123 (by decide) ?_
              refine lv_icmp_ne (tgt := 176) hx hb dL_isStep_124 (by decide) (fun c_23 => ?_) (fun c_23 => ?_)
              · first | exact absurd rfl c_23 | exact absurd ((h3 hP8).2.2.mp (by assumption)) (by assumption) | exact absurd ((h3 hP8).2.2.mpr (by assumption)) (by assumption)
              · exact cut_127 _ _ hP hD hS _ hl
            · refine lv_iconst (v := 1) hx hb dL_isStep_119 (by decide) ?_
              refine lv_goto (tgt := 124) hx hb dL_isStep_120 (by decide) ?_
              refine lv_icmp_ne (tgt := 176) hx hb dL_isStep_124 (by decide) (fun c_24 => ?_) (fun c_24 => ?_)
              · first | exact absurd rfl c_24 | exact absurd ((h3 hP8).2.2.mp (by assumption)) (by assumption) | exact absurd ((h3 hP8).2.2.mpr (by assumption)) (by assumption)
              · exact cut_127 _ _ hP hD hS _ hl
          · refine lv_iconst (v := 1) hx hb dL_isStep_109 (by decide) ?_
            refine lv_goto (tgt := 114) hx hb dL_isStep_110 (by decide) ?_
            refine lv_iload hx hb dL_isStep_114 (lv_at hl 0 rfl) ?_
            refine lv_if_ge (tgt := 123) hx hb dL_isStep_116 (by decide) (fun c_25 => ?_) (fun c_25 => ?_)
            · refine lv_iconst (v := 0) hx hb dL_isStep_123 (by decide) ?_
              refine lv_icmp_ne (tgt := 176) hx hb dL_isStep_124 (by decide) (fun c_26 => ?_) (fun c_26 => ?_)
              · first | exact absurd rfl c_26 | exact absurd ((h3 hP8).2.2.mp (by assumption)) (by assumption) | exact absurd ((h3 hP8).2.2.mpr (by assumption)) (by assumption)
              · exact cut_127 _ _ hP hD hS _ hl
            · refine lv_iconst (v := 1) hx hb dL_isStep_119 (by decide) ?_
              refine lv_goto (tgt := 124) hx hb dL_isStep_120 (by decide) ?_
              refine lv_icmp_ne (tgt := 176) hx hb dL_isStep_124 (by decide) (fun c_27 => ?_) (fun c_27 => ?_)
              · first | exact absurd rfl c_27 | exact absurd ((h3 hP8).2.2.mp (by assumption)) (by assumption) | exact absurd ((h3 hP8).2.2.mpr (by assumption)) (by assumption)
              · exact cut_127 _ _ hP hD hS _ hl
  have cut_50 : ∀ (ap_g : Int32), (ap_g = ap9 (s_sm (x_S Z1)) (s_sm (x_S Z3))) → ∀ (H : Heap) (locs : List Loc), va_P G vwCl [((a 0), .inr (2, [.ref (a 6), .ref (a 1), .int (j_pp (x_J Z3)), .int (j_po (x_J Z3)), .int (j_mc (x_J Z3)), .int (j_dc (x_J Z3)), .int (j_is (x_J Z3))])), ((a 1), .inr (0, [.ref (a 6), .ref (a 2), .ref (a 3), .ref (a 4), .ref (a 5), .int (s_fc (x_S Z3)), .int (s_fs (x_S Z3)), .int (s_sm (x_S Z3)), .int (s_sc (x_S Z3)), .int (s_sf (x_S Z3))])), ((a 2), .inl (cI, 800, .inl (s_fo (x_S Z3)))), ((a 3), .inl (cI, 800, .inl (s_or (x_S Z3)))), ((a 4), .inl (cI, 800, .inl (s_mo (x_S Z3)))), ((a 5), .inl (cI, 2048, .inl (s_sl (x_S Z3)))), ((a 6), .inr (1, [.ref (a 7), .ref (a 8), .ref (a 9), .ref (a 10), .int (nI (y_n (x_Y Z3))), .long (y_rp (x_Y Z3))])), ((a 7), .inl (cI, 9, .inl (y_sz (x_Y Z3)))), ((a 8), .inl (cZ, 9, .inl (y_ac (x_Y Z3)))), ((a 9), .inl (cI, 9, .inl (y_li (x_Y Z3)))), ((a 10), .inl (cJ, 9, .inr (.inl (y_sh (x_Y Z3)))))] H → va_D A [((a 0), .inr (2, [.ref (a 6), .ref (a 1), .int (j_pp (x_J Z3)), .int (j_po (x_J Z3)), .int (j_mc (x_J Z3)), .int (j_dc (x_J Z3)), .int (j_is (x_J Z3))])), ((a 1), .inr (0, [.ref (a 6), .ref (a 2), .ref (a 3), .ref (a 4), .ref (a 5), .int (s_fc (x_S Z3)), .int (s_fs (x_S Z3)), .int (s_sm (x_S Z3)), .int (s_sc (x_S Z3)), .int (s_sf (x_S Z3))])), ((a 2), .inl (cI, 800, .inl (s_fo (x_S Z3)))), ((a 3), .inl (cI, 800, .inl (s_or (x_S Z3)))), ((a 4), .inl (cI, 800, .inl (s_mo (x_S Z3)))), ((a 5), .inl (cI, 2048, .inl (s_sl (x_S Z3)))), ((a 6), .inr (1, [.ref (a 7), .ref (a 8), .ref (a 9), .ref (a 10), .int (nI (y_n (x_Y Z3))), .long (y_rp (x_Y Z3))])), ((a 7), .inl (cI, 9, .inl (y_sz (x_Y Z3)))), ((a 8), .inl (cZ, 9, .inl (y_ac (x_Y Z3)))), ((a 9), .inl (cI, 9, .inl (y_li (x_Y Z3)))), ((a 10), .inl (cJ, 9, .inr (.inl (y_sh (x_Y Z3)))))] → va_S A s.heap H locs → ∀ (ls : Array Slot), lv_has ls 9 [(7, .int (s_sm (x_S Z3))), (6, .int (j_dc (x_J Z1))), (5, .int (j_mc (x_J Z1))), (4, .int (s_sm (x_S Z1))), (0, .ref (a 0)), (1, .int v_g), (2, .int c_g), (3, .int P_g)] → W p l e (headSpec wsL_isStep ({ frames := 7, cells := 0, slots := 0, locals := 164 })).room s m ([.ref (a 0), .int v_g, .int c_g, .int P_g] : List Value).toArray below meth c H locs 0 0 (MQ below (va_Qi (fun (r : Int32) (u : XS) => r = 1 ∧ u = Z3) (fun (u : XS) (t : State) => va_P G vwCl ((fun u : XS => wJ cI cZ cJ a (x_J u) (x_S u) (x_Y u)) u) t.heap ∧ va_D A ((fun u : XS => wJ cI cZ cJ a (x_J u) (x_S u) (x_Y u)) u)) A) ([.ref (a 0), .int v_g, .int c_g, .int P_g] : List Value).toArray s 0 0 A) (F0 m 50 ls [.int ap_g]) := by
    intro ap_g eap H locs hP hD hS ls hl
    subst eap
    try have hl : lv_has ls 9 [(7, .int (s_sm (x_S Z3))), (6, .int (j_dc (x_J Z1))), (5, .int (j_mc (x_J Z1))), (4, .int (s_sm (x_S Z1))), (0, .ref (a 0)), (1, .int v_g), (2, .int c_g), (3, .int P_g)] := hl
    refine lv_istore (lv' := [(8, .int (ap9 (s_sm (x_S Z1)) (s_sm (x_S Z3)))), (7, .int (s_sm (x_S Z3))), (6, .int (j_dc (x_J Z1))), (5, .int (j_mc (x_J Z1))), (4, .int (s_sm (x_S Z1))), (0, .ref (a 0)), (1, .int v_g), (2, .int c_g), (3, .int P_g)]) hx hb dL_isStep_50 hl (by decide) rfl (fun ls hl => ?_)
    refine lv_aload_n hx hb dL_isStep_52 rfl (lv_at hl 5 rfl) ?_
    refine ro_i (va_runV (As := []) (rest := []) ⟨hx, hb, hml, hown, hts⟩ ((c_X2_moves l G cI cZ cJ a _ Z3 )) (cwV 0 hts gL_isStep_X2_moves rfl rfl rfl (by decide +kernel) ⟨Nat.le_of_ble_eq_true rfl, Nat.le_of_ble_eq_true rfl⟩) ⟨ro_blind, va_recv hK hP (ci := 2) (q0 := 0) rfl rfl, ro_pre hP hK hN⟩ rfl rfl hl.1 rfl (lv_room (Nat.le_of_ble_eq_true rfl)) dL_isStep_53 ⟨Nat.zero_le _, Nat.zero_le _⟩) hS hA hP (fun H locs hP hS => ?_)
    refine lv_iload hx hb dL_isStep_56 (lv_at hl 3 rfl) ?_
    refine lv_iconst (v := 1) hx hb dL_isStep_58 (by decide) ?_
    refine lv_iadd hx hb dL_isStep_59 ?_
    refine lv_icmp_ne (tgt := 176) hx hb dL_isStep_60 (by decide) (fun c_28 => ?_) (fun c_28 => ?_)
    · exact absurd h1 c_28
    · refine lv_aload_n hx hb dL_isStep_63 rfl (lv_at hl 5 rfl) ?_
      refine ro_i (va_runV (As := []) (rest := []) ⟨hx, hb, hml, hown, hts⟩ ((c_X2_driven l G cI cZ cJ a _ Z3 )) (cwV 0 hts gL_isStep_X2_driven rfl rfl rfl (by decide +kernel) ⟨Nat.le_of_ble_eq_true rfl, Nat.le_of_ble_eq_true rfl⟩) ⟨ro_blind, va_recv hK hP (ci := 2) (q0 := 0) rfl rfl, ro_pre hP hK hN⟩ rfl rfl hl.1 rfl (lv_room (Nat.le_of_ble_eq_true rfl)) dL_isStep_64 ⟨Nat.zero_le _, Nat.zero_le _⟩) hS hA hP (fun H locs hP hS => ?_)
      refine lv_iload hx hb dL_isStep_67 (lv_at hl 2 rfl) ?_
      refine lv_iload_n hx hb dL_isStep_69 rfl (lv_at hl 7 rfl) ?_
      refine lv_if_ge (tgt := 78) hx hb dL_isStep_70 (by decide) (fun c_29 => ?_) (fun c_29 => ?_)
      · refine lv_iload_n hx hb dL_isStep_78 rfl (lv_at hl 7 rfl) ?_
        refine lv_iadd hx hb dL_isStep_79 ?_
        refine lv_icmp_ne (tgt := 176) hx hb dL_isStep_80 (by decide) (fun c_30 => ?_) (fun c_30 => ?_)
        · exact absurd (by first | exact h2.trans (by rw [if_pos (by assumption)]) | exact h2.trans (by rw [if_neg (by assumption)])) c_30
        · exact cut_83 _ _ hP hD hS _ (lv_sub hl [1, 2, 3, 4, 5, 6, 7, 8, 0] rfl)
      · refine lv_iload_n hx hb dL_isStep_73 rfl (lv_at hl 7 rfl) ?_
        refine lv_ineg hx hb dL_isStep_74 ?_
        refine lv_goto (tgt := 79) hx hb dL_isStep_75 (by decide) ?_
        refine lv_iadd hx hb dL_isStep_79 ?_
        refine lv_icmp_ne (tgt := 176) hx hb dL_isStep_80 (by decide) (fun c_31 => ?_) (fun c_31 => ?_)
        · exact absurd (by first | exact h2.trans (by rw [if_pos (by assumption)]) | exact h2.trans (by rw [if_neg (by assumption)])) c_31
        · exact cut_83 _ _ hP hD hS _ (lv_sub hl [1, 2, 3, 4, 5, 6, 7, 8, 0] rfl)
  refine lv_iload hx hb dL_isStep_30 (lv_at hl 0 rfl) ?_
  refine lv_iload hx hb dL_isStep_32 (lv_at hl 3 rfl) ?_
  refine lv_icmp_le (tgt := 45) hx hb dL_isStep_34 (by decide) (fun c_32 => ?_) (fun c_32 => ?_)
  · refine lv_iload hx hb dL_isStep_45 (lv_at hl 3 rfl) ?_
    refine lv_iload hx hb dL_isStep_47 (lv_at hl 0 rfl) ?_
    refine lv_isub hx hb dL_isStep_49 ?_
    exact cut_50 ((s_sm (x_S Z1)) - (s_sm (x_S Z3))) (by first | exact (if_pos (by assumption)).symm | exact (if_neg (by assumption)).symm) _ _ hP hD hS _ hl
  · refine lv_iload hx hb dL_isStep_37 (lv_at hl 0 rfl) ?_
    refine lv_iload hx hb dL_isStep_39 (lv_at hl 3 rfl) ?_
    refine lv_isub hx hb dL_isStep_41 ?_
    refine lv_goto (tgt := 50) hx hb dL_isStep_42 (by decide) ?_
    exact cut_50 ((s_sm (x_S Z3)) - (s_sm (x_S Z1))) (by first | exact (if_pos (by assumption)).symm | exact (if_neg (by assumption)).symm) _ _ hP hD hS _ hl
