/-! THE LAW: its cases 10, 11, 12, 13, 14, 15, 16, 17, 18 -/
set_option maxHeartbeats 4000000 in
set_option maxRecDepth 100000 in
/-- the law's case 10 -/
theorem cs_10 {p : Program} {l : Launch} {e : Env} {s : State} {m : MethodId} {below : List Frame} {meth : Method} {c : Code} {G : va_G} {cI cZ cJ : ClassId} {a bb : Nat → Nat} {q_g b L : Nat} {xs : Nat → Int32} {sa : Nat → Nat} {k : Nat} {X : XS} {o : Nat → Int64} {M : MS} {H : Heap} {locs : List Loc} {ls : Array Slot} {Q : State → Prop} (C : lw_Cx p l s m c b L xs G cI cZ cJ sa) (hk : 5 * k + 5 ≤ L) (hL : L ≤ 2560) (h : rel k X M) (hP : va_P G vwCl (wA cI cZ cJ a q_g bb (X, o) M) H) (hD : va_D (lw_A s) (wA cI cZ cJ a q_g bb (X, o) M)) (hS : va_S (lw_A s) s.heap H locs) (hl : lv_has ls 7 [(0, .ref b), (1, .ref (a 0)), (2, .ref (bb 0)), (3, .ref q_g), (4, .int (nI (5 * k)))]) (kk : ∀ (u : WS) (N : MS) (H : Heap) (locs : List Loc) (ls : Array Slot), rel (k + 1) u.1 N → va_P G vwCl (wA cI cZ cJ a q_g bb u N) H → va_D (lw_A s) (wA cI cZ cJ a q_g bb u N) → va_S (lw_A s) s.heap H locs → lv_has ls 7 [(0, .ref b), (1, .ref (a 0)), (2, .ref (bb 0)), (3, .ref q_g), (4, .int (nI (5 * k)))] → W p l e room_1 s m #[Value.ref b] below meth c H locs (25 + (k + 1)) (9865 + 6 * (k + 1)) Q (F0 m 883 ls [])) : W p l e room_1 s m #[Value.ref b] below meth c H locs (25 + k) (9865 + 6 * k) Q (F0 m 704 ls []) := by
  obtain ⟨hx, hb, hml, hown, hts, hX, hbl, hst, hK, hN, hE, hZ0, hC⟩ := C
  have hA : ∀ q, s.heap.size ≤ q → lw_A s q := fun _ h9 => h9
  have hk9 : k ≤ 1000000 := by omega
  have hn9 : y_n (x_Y X) ≤ 9 := by rw [h.2.2.1.1]; exact h.1.1
  refine lv_aload_n hx hb dL_law_704 rfl (lv_at hl 1 rfl) ?_
  have hPj := hP.sub (ws' := wJ cI cZ cJ a (x_J X) (x_S X) (x_Y X)) [0, 1, 2, 3, 4, 5, 6, 7, 8, 9, 10] rfl
  refine ro_i (va_runV (As := []) (rest := []) ⟨hx, hb, hml, hown, hts⟩ (c_X2_inTheWay l G cI cZ cJ a _ X hn9) (cwV 0 hts gL_law_X2_inTheWay rfl rfl rfl (by decide +kernel) ⟨Nat.le_of_ble_eq_true rfl, Nat.le_of_ble_eq_true rfl⟩) ⟨ro_blind, va_recv hK hPj (ci := 2) (q0 := 0) rfl rfl, ro_pre hPj hK hN⟩ rfl rfl hl.1 rfl (lv_room (Nat.le_of_ble_eq_true rfl)) dL_law_705 ⟨by show _ ≤ 1067; omega, by show _ ≤ 18165; omega⟩) hS hA hP (fun H locs hP hS => ?_)
  refine lv_aload_n hx hb dL_law_708 rfl (lv_at hl 2 rfl) ?_
  have hPm := hP.sub (ws' := wM cI bb M) [12, 13, 14, 15, 16, 17, 18, 19, 20, 21, 22, 23, 24] rfl
  have hDm := hD.sub (ws' := wM cI bb M) [12, 13, 14, 15, 16, 17, 18, 19, 20, 21, 22, 23, 24] (by decide) rfl
  refine lc_Mi (va_runV (As := []) (rest := [.int (j_itw X)]) ⟨hx, hb, hml, hown, hts⟩ (c_X3_inTheWay l G cI cZ cJ bb _ M h.1) (cwV 0 hts gL_law_X3_inTheWay rfl rfl rfl (by decide +kernel) ⟨Nat.le_of_ble_eq_true rfl, Nat.le_of_ble_eq_true rfl⟩) ⟨rw_blind, va_recv hK hPm (ci := 3) (q0 := 0) rfl rfl, rw_pre hPm hDm hK hN⟩ rfl rfl hl.1 rfl (lv_room (Nat.le_of_ble_eq_true rfl)) dL_law_709 ⟨by show _ ≤ 1067; omega, by show _ ≤ 18165; omega⟩) hS hA hP hD (fun r_g N_g H locs hr_g hN_g hP hD hS => ?_)
  have hR : rel (k + 1) (X, o).1 N_g := by rw [← hN_g]; exact rel_mono (Nat.le_succ k) (rel_lay (rel_th 0 h))
  have hV : j_itw X = r_g := by rw [← hr_g]; exact (rel_itw h).symm
  refine lv_icmp_eq (tgt := 883) hx hb dL_law_712 (by decide) (fun _ => ?_) (fun w_g => absurd hV w_g)
  refine W.widen (k := 25 + (k + 1)) (n := 9865 + 6 * (k + 1)) (by omega) (by omega) ?_
  exact kk (X, o) N_g _ _ _ hR hP hD hS hl

set_option maxHeartbeats 4000000 in
set_option maxRecDepth 100000 in
/-- the law's case 11 -/
theorem cs_11 {p : Program} {l : Launch} {e : Env} {s : State} {m : MethodId} {below : List Frame} {meth : Method} {c : Code} {G : va_G} {cI cZ cJ : ClassId} {a bb : Nat → Nat} {q_g b L : Nat} {xs : Nat → Int32} {sa : Nat → Nat} {k : Nat} {X : XS} {o : Nat → Int64} {M : MS} {H : Heap} {locs : List Loc} {ls : Array Slot} {Q : State → Prop} (C : lw_Cx p l s m c b L xs G cI cZ cJ sa) (hk : 5 * k + 5 ≤ L) (hL : L ≤ 2560) (h : rel k X M) (hP : va_P G vwCl (wA cI cZ cJ a q_g bb (X, o) M) H) (hD : va_D (lw_A s) (wA cI cZ cJ a q_g bb (X, o) M)) (hS : va_S (lw_A s) s.heap H locs) (hl : lv_has ls 7 [(0, .ref b), (1, .ref (a 0)), (2, .ref (bb 0)), (3, .ref q_g), (4, .int (nI (5 * k)))]) (kk : ∀ (u : WS) (N : MS) (H : Heap) (locs : List Loc) (ls : Array Slot), rel (k + 1) u.1 N → va_P G vwCl (wA cI cZ cJ a q_g bb u N) H → va_D (lw_A s) (wA cI cZ cJ a q_g bb u N) → va_S (lw_A s) s.heap H locs → lv_has ls 7 [(0, .ref b), (1, .ref (a 0)), (2, .ref (bb 0)), (3, .ref q_g), (4, .int (nI (5 * k)))] → W p l e room_1 s m #[Value.ref b] below meth c H locs (25 + (k + 1)) (9865 + 6 * (k + 1)) Q (F0 m 883 ls [])) : W p l e room_1 s m #[Value.ref b] below meth c H locs (25 + k) (9865 + 6 * k) Q (F0 m 717 ls []) := by
  obtain ⟨hx, hb, hml, hown, hts, hX, hbl, hst, hK, hN, hE, hZ0, hC⟩ := C
  have hA : ∀ q, s.heap.size ≤ q → lw_A s q := fun _ h9 => h9
  have hk9 : k ≤ 1000000 := by omega
  have hn9 : y_n (x_Y X) ≤ 9 := by rw [h.2.2.1.1]; exact h.1.1
  refine lv_aload_n hx hb dL_law_717 rfl (lv_at hl 1 rfl) ?_
  have hPj := hP.sub (ws' := wJ cI cZ cJ a (x_J X) (x_S X) (x_Y X)) [0, 1, 2, 3, 4, 5, 6, 7, 8, 9, 10] rfl
  refine ro_i (va_runV (As := []) (rest := []) ⟨hx, hb, hml, hown, hts⟩ (c_X2_isSolved l G cI cZ cJ a _ X) (cwV 0 hts gL_law_X2_isSolved rfl rfl rfl (by decide +kernel) ⟨Nat.le_of_ble_eq_true rfl, Nat.le_of_ble_eq_true rfl⟩) ⟨ro_blind, va_recv hK hPj (ci := 2) (q0 := 0) rfl rfl, ro_pre hPj hK hN⟩ rfl rfl hl.1 rfl (lv_room (Nat.le_of_ble_eq_true rfl)) dL_law_718 ⟨by show _ ≤ 1067; omega, by show _ ≤ 18165; omega⟩) hS hA hP (fun H locs hP hS => ?_)
  refine lv_aload_n hx hb dL_law_721 rfl (lv_at hl 2 rfl) ?_
  have hPm := hP.sub (ws' := wM cI bb M) [12, 13, 14, 15, 16, 17, 18, 19, 20, 21, 22, 23, 24] rfl
  have hDm := hD.sub (ws' := wM cI bb M) [12, 13, 14, 15, 16, 17, 18, 19, 20, 21, 22, 23, 24] (by decide) rfl
  refine lc_Mi (va_runV (As := []) (rest := [.int (b1 (pl (j_po (x_J X)) 0 = 4))]) ⟨hx, hb, hml, hown, hts⟩ (c_X3_isSolved l G cI cZ cJ bb _ M h.1) (cwV 0 hts gL_law_X3_isSolved rfl rfl rfl (by decide +kernel) ⟨Nat.le_of_ble_eq_true rfl, Nat.le_of_ble_eq_true rfl⟩) ⟨rw_blind, va_recv hK hPm (ci := 3) (q0 := 0) rfl rfl, rw_pre hPm hDm hK hN⟩ rfl rfl hl.1 rfl (lv_room (Nat.le_of_ble_eq_true rfl)) dL_law_722 ⟨by show _ ≤ 1067; omega, by show _ ≤ 18165; omega⟩) hS hA hP hD (fun r_g N_g H locs hr_g hN_g hP hD hS => ?_)
  have hR : rel (k + 1) (X, o).1 N_g := by rw [← hN_g]; exact rel_mono (Nat.le_succ k) (rel_th 0 h)
  have hV : b1 (pl (j_po (x_J X)) 0 = 4) = r_g := by rw [← hr_g]; exact (rel_solved h).symm
  refine lv_icmp_eq (tgt := 883) hx hb dL_law_725 (by decide) (fun _ => ?_) (fun w_g => absurd hV w_g)
  refine W.widen (k := 25 + (k + 1)) (n := 9865 + 6 * (k + 1)) (by omega) (by omega) ?_
  exact kk (X, o) N_g _ _ _ hR hP hD hS hl

set_option maxHeartbeats 4000000 in
set_option maxRecDepth 100000 in
/-- the law's case 12 -/
theorem cs_12 {p : Program} {l : Launch} {e : Env} {s : State} {m : MethodId} {below : List Frame} {meth : Method} {c : Code} {G : va_G} {cI cZ cJ : ClassId} {a bb : Nat → Nat} {q_g b L : Nat} {xs : Nat → Int32} {sa : Nat → Nat} {k : Nat} {X : XS} {o : Nat → Int64} {M : MS} {H : Heap} {locs : List Loc} {ls : Array Slot} {Q : State → Prop} (C : lw_Cx p l s m c b L xs G cI cZ cJ sa) (hk : 5 * k + 5 ≤ L) (hL : L ≤ 2560) (h : rel k X M) (hP : va_P G vwCl (wA cI cZ cJ a q_g bb (X, o) M) H) (hD : va_D (lw_A s) (wA cI cZ cJ a q_g bb (X, o) M)) (hS : va_S (lw_A s) s.heap H locs) (hl : lv_has ls 7 [(0, .ref b), (1, .ref (a 0)), (2, .ref (bb 0)), (3, .ref q_g), (4, .int (nI (5 * k)))]) (kk : ∀ (u : WS) (N : MS) (H : Heap) (locs : List Loc) (ls : Array Slot), rel (k + 1) u.1 N → va_P G vwCl (wA cI cZ cJ a q_g bb u N) H → va_D (lw_A s) (wA cI cZ cJ a q_g bb u N) → va_S (lw_A s) s.heap H locs → lv_has ls 7 [(0, .ref b), (1, .ref (a 0)), (2, .ref (bb 0)), (3, .ref q_g), (4, .int (nI (5 * k)))] → W p l e room_1 s m #[Value.ref b] below meth c H locs (25 + (k + 1)) (9865 + 6 * (k + 1)) Q (F0 m 883 ls [])) : W p l e room_1 s m #[Value.ref b] below meth c H locs (25 + k) (9865 + 6 * k) Q (F0 m 730 ls []) := by
  obtain ⟨hx, hb, hml, hown, hts, hX, hbl, hst, hK, hN, hE, hZ0, hC⟩ := C
  have hA : ∀ q, s.heap.size ≤ q → lw_A s q := fun _ h9 => h9
  have hk9 : k ≤ 1000000 := by omega
  have hn9 : y_n (x_Y X) ≤ 9 := by rw [h.2.2.1.1]; exact h.1.1
  refine lv_aload_n hx hb dL_law_730 rfl (lv_at hl 1 rfl) ?_
  have hPj := hP.sub (ws' := wJ cI cZ cJ a (x_J X) (x_S X) (x_Y X)) [0, 1, 2, 3, 4, 5, 6, 7, 8, 9, 10] rfl
  refine ro_i (va_runV (As := []) (rest := []) ⟨hx, hb, hml, hown, hts⟩ (c_X2_moves l G cI cZ cJ a _ X) (cwV 0 hts gL_law_X2_moves rfl rfl rfl (by decide +kernel) ⟨Nat.le_of_ble_eq_true rfl, Nat.le_of_ble_eq_true rfl⟩) ⟨ro_blind, va_recv hK hPj (ci := 2) (q0 := 0) rfl rfl, ro_pre hPj hK hN⟩ rfl rfl hl.1 rfl (lv_room (Nat.le_of_ble_eq_true rfl)) dL_law_731 ⟨by show _ ≤ 1067; omega, by show _ ≤ 18165; omega⟩) hS hA hP (fun H locs hP hS => ?_)
  refine lv_aload_n hx hb dL_law_734 rfl (lv_at hl 2 rfl) ?_
  have hPm := hP.sub (ws' := wM cI bb M) [12, 13, 14, 15, 16, 17, 18, 19, 20, 21, 22, 23, 24] rfl
  have hDm := hD.sub (ws' := wM cI bb M) [12, 13, 14, 15, 16, 17, 18, 19, 20, 21, 22, 23, 24] (by decide) rfl
  refine lc_Mi (va_runV (As := []) (rest := [.int (j_mc (x_J X))]) ⟨hx, hb, hml, hown, hts⟩ (c_X3_moves l G cI cZ cJ bb _ M ) (cwV 0 hts gL_law_X3_moves rfl rfl rfl (by decide +kernel) ⟨Nat.le_of_ble_eq_true rfl, Nat.le_of_ble_eq_true rfl⟩) ⟨rw_blind, va_recv hK hPm (ci := 3) (q0 := 0) rfl rfl, rw_pre hPm hDm hK hN⟩ rfl rfl hl.1 rfl (lv_room (Nat.le_of_ble_eq_true rfl)) dL_law_735 ⟨by show _ ≤ 1067; omega, by show _ ≤ 18165; omega⟩) hS hA hP hD (fun r_g N_g H locs hr_g hN_g hP hD hS => ?_)
  have hR : rel (k + 1) (X, o).1 N_g := by rw [← hN_g]; exact rel_mono (Nat.le_succ k) (rel_th 0 h)
  have hV : j_mc (x_J X) = r_g := by rw [← hr_g]; exact h.2.2.2.2.2.2.1
  refine lv_icmp_eq (tgt := 883) hx hb dL_law_738 (by decide) (fun _ => ?_) (fun w_g => absurd hV w_g)
  refine W.widen (k := 25 + (k + 1)) (n := 9865 + 6 * (k + 1)) (by omega) (by omega) ?_
  exact kk (X, o) N_g _ _ _ hR hP hD hS hl

set_option maxHeartbeats 4000000 in
set_option maxRecDepth 100000 in
/-- the law's case 13 -/
theorem cs_13 {p : Program} {l : Launch} {e : Env} {s : State} {m : MethodId} {below : List Frame} {meth : Method} {c : Code} {G : va_G} {cI cZ cJ : ClassId} {a bb : Nat → Nat} {q_g b L : Nat} {xs : Nat → Int32} {sa : Nat → Nat} {k : Nat} {X : XS} {o : Nat → Int64} {M : MS} {H : Heap} {locs : List Loc} {ls : Array Slot} {Q : State → Prop} (C : lw_Cx p l s m c b L xs G cI cZ cJ sa) (hk : 5 * k + 5 ≤ L) (hL : L ≤ 2560) (h : rel k X M) (hP : va_P G vwCl (wA cI cZ cJ a q_g bb (X, o) M) H) (hD : va_D (lw_A s) (wA cI cZ cJ a q_g bb (X, o) M)) (hS : va_S (lw_A s) s.heap H locs) (hl : lv_has ls 7 [(0, .ref b), (1, .ref (a 0)), (2, .ref (bb 0)), (3, .ref q_g), (4, .int (nI (5 * k)))]) (kk : ∀ (u : WS) (N : MS) (H : Heap) (locs : List Loc) (ls : Array Slot), rel (k + 1) u.1 N → va_P G vwCl (wA cI cZ cJ a q_g bb u N) H → va_D (lw_A s) (wA cI cZ cJ a q_g bb u N) → va_S (lw_A s) s.heap H locs → lv_has ls 7 [(0, .ref b), (1, .ref (a 0)), (2, .ref (bb 0)), (3, .ref q_g), (4, .int (nI (5 * k)))] → W p l e room_1 s m #[Value.ref b] below meth c H locs (25 + (k + 1)) (9865 + 6 * (k + 1)) Q (F0 m 883 ls [])) : W p l e room_1 s m #[Value.ref b] below meth c H locs (25 + k) (9865 + 6 * k) Q (F0 m 743 ls []) := by
  obtain ⟨hx, hb, hml, hown, hts, hX, hbl, hst, hK, hN, hE, hZ0, hC⟩ := C
  have hA : ∀ q, s.heap.size ≤ q → lw_A s q := fun _ h9 => h9
  have hk9 : k ≤ 1000000 := by omega
  have hn9 : y_n (x_Y X) ≤ 9 := by rw [h.2.2.1.1]; exact h.1.1
  refine lv_aload_n hx hb dL_law_743 rfl (lv_at hl 1 rfl) ?_
  have hPj := hP.sub (ws' := wJ cI cZ cJ a (x_J X) (x_S X) (x_Y X)) [0, 1, 2, 3, 4, 5, 6, 7, 8, 9, 10] rfl
  refine ro_i (va_runV (As := []) (rest := []) ⟨hx, hb, hml, hown, hts⟩ (c_X2_driven l G cI cZ cJ a _ X) (cwV 0 hts gL_law_X2_driven rfl rfl rfl (by decide +kernel) ⟨Nat.le_of_ble_eq_true rfl, Nat.le_of_ble_eq_true rfl⟩) ⟨ro_blind, va_recv hK hPj (ci := 2) (q0 := 0) rfl rfl, ro_pre hPj hK hN⟩ rfl rfl hl.1 rfl (lv_room (Nat.le_of_ble_eq_true rfl)) dL_law_744 ⟨by show _ ≤ 1067; omega, by show _ ≤ 18165; omega⟩) hS hA hP (fun H locs hP hS => ?_)
  refine lv_aload_n hx hb dL_law_747 rfl (lv_at hl 2 rfl) ?_
  have hPm := hP.sub (ws' := wM cI bb M) [12, 13, 14, 15, 16, 17, 18, 19, 20, 21, 22, 23, 24] rfl
  have hDm := hD.sub (ws' := wM cI bb M) [12, 13, 14, 15, 16, 17, 18, 19, 20, 21, 22, 23, 24] (by decide) rfl
  refine lc_Mi (va_runV (As := []) (rest := [.int (j_dc (x_J X))]) ⟨hx, hb, hml, hown, hts⟩ (c_X3_driven l G cI cZ cJ bb _ M ) (cwV 0 hts gL_law_X3_driven rfl rfl rfl (by decide +kernel) ⟨Nat.le_of_ble_eq_true rfl, Nat.le_of_ble_eq_true rfl⟩) ⟨rw_blind, va_recv hK hPm (ci := 3) (q0 := 0) rfl rfl, rw_pre hPm hDm hK hN⟩ rfl rfl hl.1 rfl (lv_room (Nat.le_of_ble_eq_true rfl)) dL_law_748 ⟨by show _ ≤ 1067; omega, by show _ ≤ 18165; omega⟩) hS hA hP hD (fun r_g N_g H locs hr_g hN_g hP hD hS => ?_)
  have hR : rel (k + 1) (X, o).1 N_g := by rw [← hN_g]; exact rel_mono (Nat.le_succ k) (rel_th 0 h)
  have hV : j_dc (x_J X) = r_g := by rw [← hr_g]; exact h.2.2.2.2.2.2.2.1
  refine lv_icmp_eq (tgt := 883) hx hb dL_law_751 (by decide) (fun _ => ?_) (fun w_g => absurd hV w_g)
  refine W.widen (k := 25 + (k + 1)) (n := 9865 + 6 * (k + 1)) (by omega) (by omega) ?_
  exact kk (X, o) N_g _ _ _ hR hP hD hS hl

set_option maxHeartbeats 4000000 in
set_option maxRecDepth 100000 in
/-- the law's case 14 -/
theorem cs_14 {p : Program} {l : Launch} {e : Env} {s : State} {m : MethodId} {below : List Frame} {meth : Method} {c : Code} {G : va_G} {cI cZ cJ : ClassId} {a bb : Nat → Nat} {q_g b L : Nat} {xs : Nat → Int32} {sa : Nat → Nat} {k : Nat} {X : XS} {o : Nat → Int64} {M : MS} {H : Heap} {locs : List Loc} {ls : Array Slot} {Q : State → Prop} (C : lw_Cx p l s m c b L xs G cI cZ cJ sa) (hk : 5 * k + 5 ≤ L) (hL : L ≤ 2560) (h : rel k X M) (hP : va_P G vwCl (wA cI cZ cJ a q_g bb (X, o) M) H) (hD : va_D (lw_A s) (wA cI cZ cJ a q_g bb (X, o) M)) (hS : va_S (lw_A s) s.heap H locs) (hl : lv_has ls 7 [(0, .ref b), (1, .ref (a 0)), (2, .ref (bb 0)), (3, .ref q_g), (4, .int (nI (5 * k)))]) (kk : ∀ (u : WS) (N : MS) (H : Heap) (locs : List Loc) (ls : Array Slot), rel (k + 1) u.1 N → va_P G vwCl (wA cI cZ cJ a q_g bb u N) H → va_D (lw_A s) (wA cI cZ cJ a q_g bb u N) → va_S (lw_A s) s.heap H locs → lv_has ls 7 [(0, .ref b), (1, .ref (a 0)), (2, .ref (bb 0)), (3, .ref q_g), (4, .int (nI (5 * k)))] → W p l e room_1 s m #[Value.ref b] below meth c H locs (25 + (k + 1)) (9865 + 6 * (k + 1)) Q (F0 m 883 ls [])) : W p l e room_1 s m #[Value.ref b] below meth c H locs (25 + k) (9865 + 6 * k) Q (F0 m 756 ls []) := by
  obtain ⟨hx, hb, hml, hown, hts, hX, hbl, hst, hK, hN, hE, hZ0, hC⟩ := C
  have hA : ∀ q, s.heap.size ≤ q → lw_A s q := fun _ h9 => h9
  have hk9 : k ≤ 1000000 := by omega
  have hn9 : y_n (x_Y X) ≤ 9 := by rw [h.2.2.1.1]; exact h.1.1
  obtain ⟨X1, hX1⟩ : ∃ X1 : XS, x_srch X = X1 := ⟨_, rfl⟩
  obtain ⟨Z_g, hZ_g⟩ : ∃ Z : MS, m_look (m_wTh M 0) = Z := ⟨_, rfl⟩
  have hsr := rel_srch h
  rw [hX1, hZ_g] at hsr
  obtain ⟨s1, s2, s3, s4, s5, s6, s7, -⟩ := hsr
  refine lv_aload_n hx hb dL_law_756 rfl (lv_at hl 1 rfl) ?_
  have hPj := hP.sub (ws' := wJ cI cZ cJ a (x_J X) (x_S X) (x_Y X)) [0, 1, 2, 3, 4, 5, 6, 7, 8, 9, 10] rfl
  have hDj := hD.sub (ws' := wJ cI cZ cJ a (x_J X) (x_S X) (x_Y X)) [0, 1, 2, 3, 4, 5, 6, 7, 8, 9, 10] (by decide) rfl
  refine lc_Ji (va_runV (As := []) (rest := []) ⟨hx, hb, hml, hown, hts⟩ (c_X2_positions l G cI cZ cJ a _ X hn9) (cwV 0 hts gL_law_X2_positions rfl rfl rfl (by decide +kernel) ⟨Nat.le_of_ble_eq_true rfl, Nat.le_of_ble_eq_true rfl⟩) ⟨rw_blind, va_recv hK hPj (ci := 2) (q0 := 0) rfl rfl, rw_pre hPj hDj hK hN⟩ rfl rfl hl.1 rfl (lv_room (Nat.le_of_ble_eq_true rfl)) dL_law_757 ⟨by show _ ≤ 1067; omega, by show _ ≤ 18165; omega⟩) hS hA hP hD (fun t_g X_g H locs ht_g hX_g hP hD hS => ?_)
  refine lv_aload_n hx hb dL_law_760 rfl (lv_at hl 2 rfl) ?_
  have hPm := hP.sub (ws' := wM cI bb M) [12, 13, 14, 15, 16, 17, 18, 19, 20, 21, 22, 23, 24] rfl
  have hDm := hD.sub (ws' := wM cI bb M) [12, 13, 14, 15, 16, 17, 18, 19, 20, 21, 22, 23, 24] (by decide) rfl
  refine lc_Mi (va_runV (As := []) (rest := [.int t_g]) ⟨hx, hb, hml, hown, hts⟩ (c_X3_positions l G cI cZ cJ bb _ M Z_g h.1 hZ_g) (cwV 0 hts gL_law_X3_positions rfl rfl rfl (by decide +kernel) ⟨Nat.le_of_ble_eq_true rfl, Nat.le_of_ble_eq_true rfl⟩) ⟨rw_blind, va_recv hK hPm (ci := 3) (q0 := 0) rfl rfl, rw_pre hPm hDm hK hN⟩ rfl rfl hl.1 rfl (lv_room (Nat.le_of_ble_eq_true rfl)) dL_law_761 ⟨by show _ ≤ 1067; omega, by show _ ≤ 18165; omega⟩) hS hA hP hD (fun r_g N_g H locs hr_g hN_g hP hD hS => ?_)
  rw [hX1] at hX_g ht_g
  have hR : rel (k + 1) (X_g, o).1 N_g := by rw [← hN_g, ← hX_g]; exact rel_mono (Nat.le_succ k) s1
  have hV : t_g = r_g := by rw [← ht_g, ← hr_g]; exact s2.1
  refine lv_icmp_eq (tgt := 883) hx hb dL_law_764 (by decide) (fun _ => ?_) (fun w_g => absurd hV w_g)
  refine W.widen (k := 25 + (k + 1)) (n := 9865 + 6 * (k + 1)) (by omega) (by omega) ?_
  exact kk (X_g, o) N_g _ _ _ hR hP hD hS hl

set_option maxHeartbeats 4000000 in
set_option maxRecDepth 100000 in
/-- the law's case 15 -/
theorem cs_15 {p : Program} {l : Launch} {e : Env} {s : State} {m : MethodId} {below : List Frame} {meth : Method} {c : Code} {G : va_G} {cI cZ cJ : ClassId} {a bb : Nat → Nat} {q_g b L : Nat} {xs : Nat → Int32} {sa : Nat → Nat} {k : Nat} {X : XS} {o : Nat → Int64} {M : MS} {H : Heap} {locs : List Loc} {ls : Array Slot} {Q : State → Prop} (C : lw_Cx p l s m c b L xs G cI cZ cJ sa) (hk : 5 * k + 5 ≤ L) (hL : L ≤ 2560) (h : rel k X M) (hP : va_P G vwCl (wA cI cZ cJ a q_g bb (X, o) M) H) (hD : va_D (lw_A s) (wA cI cZ cJ a q_g bb (X, o) M)) (hS : va_S (lw_A s) s.heap H locs) (hl : lv_has ls 7 [(0, .ref b), (1, .ref (a 0)), (2, .ref (bb 0)), (3, .ref q_g), (4, .int (nI (5 * k)))]) (kk : ∀ (u : WS) (N : MS) (H : Heap) (locs : List Loc) (ls : Array Slot), rel (k + 1) u.1 N → va_P G vwCl (wA cI cZ cJ a q_g bb u N) H → va_D (lw_A s) (wA cI cZ cJ a q_g bb u N) → va_S (lw_A s) s.heap H locs → lv_has ls 7 [(0, .ref b), (1, .ref (a 0)), (2, .ref (bb 0)), (3, .ref q_g), (4, .int (nI (5 * k)))] → W p l e room_1 s m #[Value.ref b] below meth c H locs (25 + (k + 1)) (9865 + 6 * (k + 1)) Q (F0 m 883 ls [])) : W p l e room_1 s m #[Value.ref b] below meth c H locs (25 + k) (9865 + 6 * k) Q (F0 m 769 ls []) := by
  obtain ⟨hx, hb, hml, hown, hts, hX, hbl, hst, hK, hN, hE, hZ0, hC⟩ := C
  have hA : ∀ q, s.heap.size ≤ q → lw_A s q := fun _ h9 => h9
  have hk9 : k ≤ 1000000 := by omega
  have hn9 : y_n (x_Y X) ≤ 9 := by rw [h.2.2.1.1]; exact h.1.1
  obtain ⟨X1, hX1⟩ : ∃ X1 : XS, x_srch X = X1 := ⟨_, rfl⟩
  obtain ⟨Z_g, hZ_g⟩ : ∃ Z : MS, m_look (m_wTh M 0) = Z := ⟨_, rfl⟩
  have hsr := rel_srch h
  rw [hX1, hZ_g] at hsr
  obtain ⟨s1, s2, s3, s4, s5, s6, s7, -⟩ := hsr
  refine lv_aload_n hx hb dL_law_769 rfl (lv_at hl 1 rfl) ?_
  have hPj := hP.sub (ws' := wJ cI cZ cJ a (x_J X) (x_S X) (x_Y X)) [0, 1, 2, 3, 4, 5, 6, 7, 8, 9, 10] rfl
  have hDj := hD.sub (ws' := wJ cI cZ cJ a (x_J X) (x_S X) (x_Y X)) [0, 1, 2, 3, 4, 5, 6, 7, 8, 9, 10] (by decide) rfl
  refine lc_Ji (va_runV (As := []) (rest := []) ⟨hx, hb, hml, hown, hts⟩ (c_X2_fewestMoves l G cI cZ cJ a _ X hn9) (cwV 0 hts gL_law_X2_fewestMoves rfl rfl rfl (by decide +kernel) ⟨Nat.le_of_ble_eq_true rfl, Nat.le_of_ble_eq_true rfl⟩) ⟨rw_blind, va_recv hK hPj (ci := 2) (q0 := 0) rfl rfl, rw_pre hPj hDj hK hN⟩ rfl rfl hl.1 rfl (lv_room (Nat.le_of_ble_eq_true rfl)) dL_law_770 ⟨by show _ ≤ 1067; omega, by show _ ≤ 18165; omega⟩) hS hA hP hD (fun t_g X_g H locs ht_g hX_g hP hD hS => ?_)
  refine lv_aload_n hx hb dL_law_773 rfl (lv_at hl 2 rfl) ?_
  have hPm := hP.sub (ws' := wM cI bb M) [12, 13, 14, 15, 16, 17, 18, 19, 20, 21, 22, 23, 24] rfl
  have hDm := hD.sub (ws' := wM cI bb M) [12, 13, 14, 15, 16, 17, 18, 19, 20, 21, 22, 23, 24] (by decide) rfl
  refine lc_Mi (va_runV (As := []) (rest := [.int t_g]) ⟨hx, hb, hml, hown, hts⟩ (c_X3_fewestMoves l G cI cZ cJ bb _ M Z_g h.1 hZ_g (sim_ff s2)) (cwV 0 hts gL_law_X3_fewestMoves rfl rfl rfl (by decide +kernel) ⟨Nat.le_of_ble_eq_true rfl, Nat.le_of_ble_eq_true rfl⟩) ⟨rw_blind, va_recv hK hPm (ci := 3) (q0 := 0) rfl rfl, rw_pre hPm hDm hK hN⟩ rfl rfl hl.1 rfl (lv_room (Nat.le_of_ble_eq_true rfl)) dL_law_774 ⟨by show _ ≤ 1067; omega, by show _ ≤ 18165; omega⟩) hS hA hP hD (fun r_g N_g H locs hr_g hN_g hP hD hS => ?_)
  rw [hX1] at hX_g ht_g
  have hR : rel (k + 1) (X_g, o).1 N_g := by rw [← hN_g, ← hX_g]; exact rel_mono (Nat.le_succ k) s1
  have hV : t_g = r_g := by rw [← ht_g, ← hr_g]; exact s5
  refine lv_icmp_eq (tgt := 883) hx hb dL_law_777 (by decide) (fun _ => ?_) (fun w_g => absurd hV w_g)
  refine W.widen (k := 25 + (k + 1)) (n := 9865 + 6 * (k + 1)) (by omega) (by omega) ?_
  exact kk (X_g, o) N_g _ _ _ hR hP hD hS hl

set_option maxHeartbeats 4000000 in
set_option maxRecDepth 100000 in
/-- the law's case 16 -/
theorem cs_16 {p : Program} {l : Launch} {e : Env} {s : State} {m : MethodId} {below : List Frame} {meth : Method} {c : Code} {G : va_G} {cI cZ cJ : ClassId} {a bb : Nat → Nat} {q_g b L : Nat} {xs : Nat → Int32} {sa : Nat → Nat} {k : Nat} {X : XS} {o : Nat → Int64} {M : MS} {H : Heap} {locs : List Loc} {ls : Array Slot} {Q : State → Prop} (C : lw_Cx p l s m c b L xs G cI cZ cJ sa) (hk : 5 * k + 5 ≤ L) (hL : L ≤ 2560) (h : rel k X M) (hP : va_P G vwCl (wA cI cZ cJ a q_g bb (X, o) M) H) (hD : va_D (lw_A s) (wA cI cZ cJ a q_g bb (X, o) M)) (hS : va_S (lw_A s) s.heap H locs) (hl : lv_has ls 7 [(0, .ref b), (1, .ref (a 0)), (2, .ref (bb 0)), (3, .ref q_g), (4, .int (nI (5 * k)))]) (kk : ∀ (u : WS) (N : MS) (H : Heap) (locs : List Loc) (ls : Array Slot), rel (k + 1) u.1 N → va_P G vwCl (wA cI cZ cJ a q_g bb u N) H → va_D (lw_A s) (wA cI cZ cJ a q_g bb u N) → va_S (lw_A s) s.heap H locs → lv_has ls 7 [(0, .ref b), (1, .ref (a 0)), (2, .ref (bb 0)), (3, .ref q_g), (4, .int (nI (5 * k)))] → W p l e room_1 s m #[Value.ref b] below meth c H locs (25 + (k + 1)) (9865 + 6 * (k + 1)) Q (F0 m 883 ls [])) : W p l e room_1 s m #[Value.ref b] below meth c H locs (25 + k) (9865 + 6 * k) Q (F0 m 782 ls []) := by
  obtain ⟨hx, hb, hml, hown, hts, hX, hbl, hst, hK, hN, hE, hZ0, hC⟩ := C
  have hA : ∀ q, s.heap.size ≤ q → lw_A s q := fun _ h9 => h9
  have hk9 : k ≤ 1000000 := by omega
  have hn9 : y_n (x_Y X) ≤ 9 := by rw [h.2.2.1.1]; exact h.1.1
  obtain ⟨X1, hX1⟩ : ∃ X1 : XS, x_srch X = X1 := ⟨_, rfl⟩
  obtain ⟨Z_g, hZ_g⟩ : ∃ Z : MS, m_look (m_wTh M 0) = Z := ⟨_, rfl⟩
  have hsr := rel_srch h
  rw [hX1, hZ_g] at hsr
  obtain ⟨s1, s2, s3, s4, s5, s6, s7, -⟩ := hsr
  refine lv_aload_n hx hb dL_law_782 rfl (lv_at hl 1 rfl) ?_
  have hPj := hP.sub (ws' := wJ cI cZ cJ a (x_J X) (x_S X) (x_Y X)) [0, 1, 2, 3, 4, 5, 6, 7, 8, 9, 10] rfl
  have hDj := hD.sub (ws' := wJ cI cZ cJ a (x_J X) (x_S X) (x_Y X)) [0, 1, 2, 3, 4, 5, 6, 7, 8, 9, 10] (by decide) rfl
  refine lc_Ji (va_runV (As := []) (rest := []) ⟨hx, hb, hml, hown, hts⟩ (c_X2_hint l G cI cZ cJ a _ X hn9) (cwV 0 hts gL_law_X2_hint rfl rfl rfl (by decide +kernel) ⟨Nat.le_of_ble_eq_true rfl, Nat.le_of_ble_eq_true rfl⟩) ⟨rw_blind, va_recv hK hPj (ci := 2) (q0 := 0) rfl rfl, rw_pre hPj hDj hK hN⟩ rfl rfl hl.1 rfl (lv_room (Nat.le_of_ble_eq_true rfl)) dL_law_783 ⟨by show _ ≤ 1067; omega, by show _ ≤ 18165; omega⟩) hS hA hP hD (fun t_g X_g H locs ht_g hX_g hP hD hS => ?_)
  refine lv_aload_n hx hb dL_law_786 rfl (lv_at hl 2 rfl) ?_
  have hPm := hP.sub (ws' := wM cI bb M) [12, 13, 14, 15, 16, 17, 18, 19, 20, 21, 22, 23, 24] rfl
  have hDm := hD.sub (ws' := wM cI bb M) [12, 13, 14, 15, 16, 17, 18, 19, 20, 21, 22, 23, 24] (by decide) rfl
  refine lc_Mi (va_runV (As := []) (rest := [.int t_g]) ⟨hx, hb, hml, hown, hts⟩ (c_X3_hint l G cI cZ cJ bb _ M Z_g h.1 hZ_g (sim_f0 s2) (sim_fr s2)) (cwV 0 hts gL_law_X3_hint rfl rfl rfl (by decide +kernel) ⟨Nat.le_of_ble_eq_true rfl, Nat.le_of_ble_eq_true rfl⟩) ⟨rw_blind, va_recv hK hPm (ci := 3) (q0 := 0) rfl rfl, rw_pre hPm hDm hK hN⟩ rfl rfl hl.1 rfl (lv_room (Nat.le_of_ble_eq_true rfl)) dL_law_787 ⟨by show _ ≤ 1067; omega, by show _ ≤ 18165; omega⟩) hS hA hP hD (fun r_g N_g H locs hr_g hN_g hP hD hS => ?_)
  rw [hX1] at hX_g ht_g
  have hR : rel (k + 1) (X_g, o).1 N_g := by rw [← hN_g, ← hX_g]; exact rel_mono (Nat.le_succ k) s1
  have hV : t_g = r_g := by rw [← ht_g, ← hr_g]; exact s6
  refine lv_icmp_eq (tgt := 883) hx hb dL_law_790 (by decide) (fun _ => ?_) (fun w_g => absurd hV w_g)
  refine W.widen (k := 25 + (k + 1)) (n := 9865 + 6 * (k + 1)) (by omega) (by omega) ?_
  exact kk (X_g, o) N_g _ _ _ hR hP hD hS hl

set_option maxHeartbeats 4000000 in
set_option maxRecDepth 100000 in
/-- the law's case 17 -/
theorem cs_17 {p : Program} {l : Launch} {e : Env} {s : State} {m : MethodId} {below : List Frame} {meth : Method} {c : Code} {G : va_G} {cI cZ cJ : ClassId} {a bb : Nat → Nat} {q_g b L : Nat} {xs : Nat → Int32} {sa : Nat → Nat} {k : Nat} {X : XS} {o : Nat → Int64} {M : MS} {H : Heap} {locs : List Loc} {ls : Array Slot} {Q : State → Prop} (C : lw_Cx p l s m c b L xs G cI cZ cJ sa) (hk : 5 * k + 5 ≤ L) (hL : L ≤ 2560) (h : rel k X M) (hP : va_P G vwCl (wA cI cZ cJ a q_g bb (X, o) M) H) (hD : va_D (lw_A s) (wA cI cZ cJ a q_g bb (X, o) M)) (hS : va_S (lw_A s) s.heap H locs) (hl : lv_has ls 7 [(0, .ref b), (1, .ref (a 0)), (2, .ref (bb 0)), (3, .ref q_g), (4, .int (nI (5 * k)))]) (kk : ∀ (u : WS) (N : MS) (H : Heap) (locs : List Loc) (ls : Array Slot), rel (k + 1) u.1 N → va_P G vwCl (wA cI cZ cJ a q_g bb u N) H → va_D (lw_A s) (wA cI cZ cJ a q_g bb u N) → va_S (lw_A s) s.heap H locs → lv_has ls 7 [(0, .ref b), (1, .ref (a 0)), (2, .ref (bb 0)), (3, .ref q_g), (4, .int (nI (5 * k)))] → W p l e room_1 s m #[Value.ref b] below meth c H locs (25 + (k + 1)) (9865 + 6 * (k + 1)) Q (F0 m 883 ls [])) : W p l e room_1 s m #[Value.ref b] below meth c H locs (25 + k) (9865 + 6 * k) Q (F0 m 795 ls []) := by
  obtain ⟨hx, hb, hml, hown, hts, hX, hbl, hst, hK, hN, hE, hZ0, hC⟩ := C
  have hA : ∀ q, s.heap.size ≤ q → lw_A s q := fun _ h9 => h9
  have hk9 : k ≤ 1000000 := by omega
  have hn9 : y_n (x_Y X) ≤ 9 := by rw [h.2.2.1.1]; exact h.1.1
  obtain ⟨X1, hX1⟩ : ∃ X1 : XS, x_srch X = X1 := ⟨_, rfl⟩
  obtain ⟨Z_g, hZ_g⟩ : ∃ Z : MS, m_look (m_wTh M 0) = Z := ⟨_, rfl⟩
  have hsr := rel_srch h
  rw [hX1, hZ_g] at hsr
  obtain ⟨s1, s2, s3, s4, s5, s6, s7, -⟩ := hsr
  refine lv_aload_n hx hb dL_law_795 rfl (lv_at hl 1 rfl) ?_
  have hPj := hP.sub (ws' := wJ cI cZ cJ a (x_J X) (x_S X) (x_Y X)) [0, 1, 2, 3, 4, 5, 6, 7, 8, 9, 10] rfl
  have hDj := hD.sub (ws' := wJ cI cZ cJ a (x_J X) (x_S X) (x_Y X)) [0, 1, 2, 3, 4, 5, 6, 7, 8, 9, 10] (by decide) rfl
  refine lc_Ji (va_runV (As := []) (rest := []) ⟨hx, hb, hml, hown, hts⟩ (c_X2_solve l G cI cZ cJ a _ X hn9) (cwV 0 hts gL_law_X2_solve rfl rfl rfl (by decide +kernel) ⟨Nat.le_of_ble_eq_true rfl, Nat.le_of_ble_eq_true rfl⟩) ⟨rw_blind, va_recv hK hPj (ci := 2) (q0 := 0) rfl rfl, rw_pre hPj hDj hK hN⟩ rfl rfl hl.1 rfl (lv_room (Nat.le_of_ble_eq_true rfl)) dL_law_796 ⟨by show _ ≤ 1067; omega, by show _ ≤ 18165; omega⟩) hS hA hP hD (fun t_g X_g H locs ht_g hX_g hP hD hS => ?_)
  refine lv_aload_n hx hb dL_law_799 rfl (lv_at hl 2 rfl) ?_
  have hPm := hP.sub (ws' := wM cI bb M) [12, 13, 14, 15, 16, 17, 18, 19, 20, 21, 22, 23, 24] rfl
  have hDm := hD.sub (ws' := wM cI bb M) [12, 13, 14, 15, 16, 17, 18, 19, 20, 21, 22, 23, 24] (by decide) rfl
  refine lc_Mi (va_runV (As := []) (rest := [.int t_g]) ⟨hx, hb, hml, hown, hts⟩ (c_X3_solve l G cI cZ cJ bb _ M Z_g h.1 hZ_g (sim_sv s2 s3 s4)) (cwV 0 hts gL_law_X3_solve rfl rfl rfl (by decide +kernel) ⟨Nat.le_of_ble_eq_true rfl, Nat.le_of_ble_eq_true rfl⟩) ⟨rw_blind, va_recv hK hPm (ci := 3) (q0 := 0) rfl rfl, rw_pre hPm hDm hK hN⟩ rfl rfl hl.1 rfl (lv_room (Nat.le_of_ble_eq_true rfl)) dL_law_800 ⟨by show _ ≤ 1067; omega, by show _ ≤ 18165; omega⟩) hS hA hP hD (fun r_g N_g H locs hr_g hN_g hP hD hS => ?_)
  rw [hX1] at hX_g ht_g
  have hR : rel (k + 1) (X_g, o).1 N_g := by rw [← hN_g, ← hX_g]; exact rel_solv0 hk9 s1 s2 s3 s4 s5 s7
  have hV : t_g = r_g := by rw [← ht_g, ← hr_g]; exact s5
  refine lv_icmp_eq (tgt := 883) hx hb dL_law_803 (by decide) (fun _ => ?_) (fun w_g => absurd hV w_g)
  refine W.widen (k := 25 + (k + 1)) (n := 9865 + 6 * (k + 1)) (by omega) (by omega) ?_
  exact kk (X_g, o) N_g _ _ _ hR hP hD hS hl

set_option maxHeartbeats 4000000 in
set_option maxRecDepth 100000 in
/-- the law's case 18 -/
theorem cs_18 {p : Program} {l : Launch} {e : Env} {s : State} {m : MethodId} {below : List Frame} {meth : Method} {c : Code} {G : va_G} {cI cZ cJ : ClassId} {a bb : Nat → Nat} {q_g b L : Nat} {xs : Nat → Int32} {sa : Nat → Nat} {k : Nat} {X : XS} {o : Nat → Int64} {M : MS} {H : Heap} {locs : List Loc} {ls : Array Slot} {Q : State → Prop} (C : lw_Cx p l s m c b L xs G cI cZ cJ sa) (hk : 5 * k + 5 ≤ L) (hL : L ≤ 2560) (h : rel k X M) (hP : va_P G vwCl (wA cI cZ cJ a q_g bb (X, o) M) H) (hD : va_D (lw_A s) (wA cI cZ cJ a q_g bb (X, o) M)) (hS : va_S (lw_A s) s.heap H locs) (hl : lv_has ls 7 [(0, .ref b), (1, .ref (a 0)), (2, .ref (bb 0)), (3, .ref q_g), (4, .int (nI (5 * k)))]) (kk : ∀ (u : WS) (N : MS) (H : Heap) (locs : List Loc) (ls : Array Slot), rel (k + 1) u.1 N → va_P G vwCl (wA cI cZ cJ a q_g bb u N) H → va_D (lw_A s) (wA cI cZ cJ a q_g bb u N) → va_S (lw_A s) s.heap H locs → lv_has ls 7 [(0, .ref b), (1, .ref (a 0)), (2, .ref (bb 0)), (3, .ref q_g), (4, .int (nI (5 * k)))] → W p l e room_1 s m #[Value.ref b] below meth c H locs (25 + (k + 1)) (9865 + 6 * (k + 1)) Q (F0 m 883 ls [])) : W p l e room_1 s m #[Value.ref b] below meth c H locs (25 + k) (9865 + 6 * k) Q (F0 m 808 ls []) := by
  obtain ⟨hx, hb, hml, hown, hts, hX, hbl, hst, hK, hN, hE, hZ0, hC⟩ := C
  have hA : ∀ q, s.heap.size ≤ q → lw_A s q := fun _ h9 => h9
  have hk9 : k ≤ 1000000 := by omega
  have hn9 : y_n (x_Y X) ≤ 9 := by rw [h.2.2.1.1]; exact h.1.1
  obtain ⟨X1, hX1⟩ : ∃ X1 : XS, x_srch X = X1 := ⟨_, rfl⟩
  obtain ⟨Z_g, hZ_g⟩ : ∃ Z : MS, m_look (m_wTh M 0) = Z := ⟨_, rfl⟩
  have hsr := rel_srch h
  rw [hX1, hZ_g] at hsr
  obtain ⟨s1, s2, s3, -⟩ := hsr
  have hrr := rel_reach h (xs (5 * k + 1)) (xs (5 * k + 2))
  rw [hX1, hZ_g] at hrr
  obtain ⟨e1, e2, e3⟩ := hrr
  refine lv_aload_n hx hb dL_law_808 rfl (lv_at hl 1 rfl) ?_
  refine lw_rd hx hb hX hbl hS (lv_at hl 0 rfl) (lv_at hl 4 rfl) (j := 1) (by decide) (by omega) hL dL_law_809 dL_law_810 dL_law_812 dL_law_813 dL_law_814 ?_
  refine lw_rd hx hb hX hbl hS (lv_at hl 0 rfl) (lv_at hl 4 rfl) (j := 2) (by decide) (by omega) hL dL_law_815 dL_law_816 dL_law_818 dL_law_819 dL_law_820 ?_
  refine lv_aload_n hx hb dL_law_821 rfl (lv_at hl 3 rfl) ?_
  have hZ : ex_Z (lw_A s) s H := hZ0.kept hS.2.1
  have hPc := hP.sub (ws' := wW cI cZ cJ a q_g (X, o)) [0, 1, 2, 3, 4, 5, 6, 7, 8, 9, 10, 11] rfl
  have hDc := hD.sub (ws' := wW cI cZ cJ a q_g (X, o)) [0, 1, 2, 3, 4, 5, 6, 7, 8, 9, 10, 11] (by decide) rfl
  have hFc := va_free (wc := wW cI cZ cJ a q_g (X, o)) hD hS hA [0, 1, 2, 3, 4, 5, 6, 7, 8, 9, 10, 11] rfl
  refine lc_W (vx_runSW (As := [.ref (a 0), .int (xs (5 * k + 1)), .int (xs (5 * k + 2)), .ref q_g]) (rest := []) ⟨hx, hb, hml, hown, hts⟩ (c_L_canReach l hst G cI cZ cJ a q_g _ sa X o (xs (5 * k + 1)) (xs (5 * k + 2)) hn9) (vx_cwSW 4 hts gL_law_L_canReach rfl rfl rfl (by decide +kernel) ⟨Nat.le_of_ble_eq_true rfl, Nat.le_of_ble_eq_true rfl⟩) ⟨wr_blind, wr_pre hPc hDc hK hN hE hZ hFc hC⟩ rfl rfl hl.1 rfl (lv_room (Nat.le_of_ble_eq_true rfl)) dL_law_822 ⟨by show _ ≤ 1067; omega, by show _ ≤ 18165; omega⟩) hS hA hP hD (fun t_g u_g H locs ht_g hu_g hP hD hS => ?_)
  rw [hX1] at hu_g
  refine lv_istore (lv' := [(5, .int t_g), (0, .ref b), (1, .ref (a 0)), (2, .ref (bb 0)), (3, .ref q_g), (4, .int (nI (5 * k)))]) hx hb dL_law_825 hl (by decide) rfl (fun ls hl => ?_)
  refine lv_aload_n hx hb dL_law_827 rfl (lv_at hl 3 rfl) ?_
  refine lw_rd hx hb hX hbl hS (lv_at hl 1 rfl) (lv_at hl 5 rfl) (j := 1) (by decide) (by omega) hL dL_law_828 dL_law_829 dL_law_831 dL_law_832 dL_law_833 ?_
  refine lw_rd hx hb hX hbl hS (lv_at hl 1 rfl) (lv_at hl 5 rfl) (j := 2) (by decide) (by omega) hL dL_law_834 dL_law_835 dL_law_837 dL_law_838 dL_law_839 ?_
  have hPm := hP.sub (ws' := wM cI bb M) [12, 13, 14, 15, 16, 17, 18, 19, 20, 21, 22, 23, 24] rfl
  have hDm := hD.sub (ws' := wM cI bb M) [12, 13, 14, 15, 16, 17, 18, 19, 20, 21, 22, 23, 24] (by decide) rfl
  refine lc_Mi (va_runV (As := [.int (xs (5 * k + 1)), .int (xs (5 * k + 2))]) (rest := []) ⟨hx, hb, hml, hown, hts⟩ (c_X3_canReach l G cI cZ cJ bb _ M (xs (5 * k + 1)) (xs (5 * k + 2)) Z_g h.1 hZ_g s3.2.1.1 s3.2.1.2.2.2) (cwV 2 hts gL_law_X3_canReach rfl rfl rfl (by decide +kernel) ⟨Nat.le_of_ble_eq_true rfl, Nat.le_of_ble_eq_true rfl⟩) ⟨rw_blind, va_recv hK hPm (ci := 3) (q0 := 0) rfl rfl, rw_pre hPm hDm hK hN⟩ rfl rfl hl.1 rfl (lv_room (Nat.le_of_ble_eq_true rfl)) dL_law_840 ⟨by show _ ≤ 1067; omega, by show _ ≤ 18165; omega⟩) hS hA hP hD (fun r_g N_g H locs hr_g hN_g hP hD hS => ?_)
  refine lv_istore (lv' := [(6, .int r_g), (5, .int t_g), (0, .ref b), (1, .ref (a 0)), (2, .ref (bb 0)), (3, .ref q_g), (4, .int (nI (5 * k)))]) hx hb dL_law_843 hl (by decide) rfl (fun ls hl => ?_)
  have hT : m_th N_g = t_g := by rw [← hN_g, ← ht_g]; exact e1
  have hR : rel (k + 1) u_g.1 N_g := by rw [ws_fst hu_g, ← hN_g]; exact rel_mono (Nat.le_succ k) e2
  have hV : t_g = 0 → u_g.2 0 = (if r_g = 0 then (0 : Int64) else 1) := fun w_g => by
    have w9 := nI_z3 (th_reach X (xs (5 * k + 1)) (xs (5 * k + 2))) (ht_g.trans w_g)
    rw [ws_out hu_g w9, ← hr_g, e3, if_pos w9]
    exact pk_uLs
  refine lw_th hx hb hml hown hts hK hN hS hP hl.1 (lv_at hl 4 rfl) (by omega) (by omega) dL_law_845 dL_law_846 (fun H locs hP hS => ?_)
  refine lw_tv hx hb (lv_at hl 1 rfl) hT dL_law_849 dL_law_851 ?_
  refine lw_tz hx hb hK hP (lv_at hl 5 rfl) (lv_at hl 1 rfl) (lv_at hl 0 rfl) hV dL_law_856 dL_law_858 dL_law_861 dL_law_862 dL_law_863 dL_law_864 dL_law_866 dL_law_869 dL_law_870 dL_law_873 dL_law_874 dL_law_875 dL_law_880 (by decide) ?_
  refine W.widen (k := 25 + (k + 1)) (n := 9865 + 6 * (k + 1)) (by omega) (by omega) ?_
  exact kk u_g N_g _ _ _ hR hP hD hS (lv_sub hl [2, 3, 4, 5, 6] rfl)
