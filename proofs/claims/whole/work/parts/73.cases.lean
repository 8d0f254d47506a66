/-! THE LAW: its cases 4, 5, 6, 7, 8, 9 -/
set_option maxHeartbeats 4000000 in
set_option maxRecDepth 100000 in
/-- the law's case 4 -/
theorem cs_4 {p : Program} {l : Launch} {e : Env} {s : State} {m : MethodId} {below : List Frame} {meth : Method} {c : Code} {G : va_G} {cI cZ cJ : ClassId} {a bb : Nat → Nat} {q_g b L : Nat} {xs : Nat → Int32} {sa : Nat → Nat} {k : Nat} {X : XS} {o : Nat → Int64} {M : MS} {H : Heap} {locs : List Loc} {ls : Array Slot} {Q : State → Prop} (C : lw_Cx p l s m c b L xs G cI cZ cJ sa) (hk : 5 * k + 5 ≤ L) (hL : L ≤ 2560) (h : rel k X M) (hP : va_P G vwCl (wA cI cZ cJ a q_g bb (X, o) M) H) (hD : va_D (lw_A s) (wA cI cZ cJ a q_g bb (X, o) M)) (hS : va_S (lw_A s) s.heap H locs) (hl : lv_has ls 7 [(0, .ref b), (1, .ref (a 0)), (2, .ref (bb 0)), (3, .ref q_g), (4, .int (nI (5 * k)))]) (kk : ∀ (u : WS) (N : MS) (H : Heap) (locs : List Loc) (ls : Array Slot), rel (k + 1) u.1 N → va_P G vwCl (wA cI cZ cJ a q_g bb u N) H → va_D (lw_A s) (wA cI cZ cJ a q_g bb u N) → va_S (lw_A s) s.heap H locs → lv_has ls 7 [(0, .ref b), (1, .ref (a 0)), (2, .ref (bb 0)), (3, .ref q_g), (4, .int (nI (5 * k)))] → W p l e room_1 s m #[Value.ref b] below meth c H locs (25 + (k + 1)) (9865 + 6 * (k + 1)) Q (F0 m 883 ls [])) : W p l e room_1 s m #[Value.ref b] below meth c H locs (25 + k) (9865 + 6 * k) Q (F0 m 416 ls []) := by
  obtain ⟨hx, hb, hml, hown, hts, hX, hbl, hst, hK, hN, hE, hZ0, hC⟩ := C
  have hA : ∀ q, s.heap.size ≤ q → lw_A s q := fun _ h9 => h9
  have hk9 : k ≤ 1000000 := by omega
  have hn9 : y_n (x_Y X) ≤ 9 := by rw [h.2.2.1.1]; exact h.1.1
  refine lv_aload_n hx hb dL_law_416 rfl (lv_at hl 1 rfl) ?_
  have hPj := hP.sub (ws' := wJ cI cZ cJ a (x_J X) (x_S X) (x_Y X)) [0, 1, 2, 3, 4, 5, 6, 7, 8, 9, 10] rfl
  have hDj := hD.sub (ws' := wJ cI cZ cJ a (x_J X) (x_S X) (x_Y X)) [0, 1, 2, 3, 4, 5, 6, 7, 8, 9, 10] (by decide) rfl
  refine lc_Jv (va_runV (As := []) (rest := []) ⟨hx, hb, hml, hown, hts⟩ (c_X2_restart l G cI cZ cJ a _ X) (cwV 0 hts gL_law_X2_restart rfl rfl rfl (by decide +kernel) ⟨Nat.le_of_ble_eq_true rfl, Nat.le_of_ble_eq_true rfl⟩) ⟨rw_blind, va_recv hK hPj (ci := 2) (q0 := 0) rfl rfl, rw_pre hPj hDj hK hN⟩ rfl rfl hl.1 rfl (lv_room (Nat.le_of_ble_eq_true rfl)) dL_law_417 ⟨by show _ ≤ 1067; omega, by show _ ≤ 18165; omega⟩) hS hA hP hD (fun X_g H locs hX_g hP hD hS => ?_)
  refine lv_aload_n hx hb dL_law_420 rfl (lv_at hl 2 rfl) ?_
  have hPm := hP.sub (ws' := wM cI bb M) [12, 13, 14, 15, 16, 17, 18, 19, 20, 21, 22, 23, 24] rfl
  have hDm := hD.sub (ws' := wM cI bb M) [12, 13, 14, 15, 16, 17, 18, 19, 20, 21, 22, 23, 24] (by decide) rfl
  refine lc_Mv (va_runV (As := []) (rest := []) ⟨hx, hb, hml, hown, hts⟩ (c_X3_restart l G cI cZ cJ bb _ M h.1) (cwV 0 hts gL_law_X3_restart rfl rfl rfl (by decide +kernel) ⟨Nat.le_of_ble_eq_true rfl, Nat.le_of_ble_eq_true rfl⟩) ⟨rw_blind, va_recv hK hPm (ci := 3) (q0 := 0) rfl rfl, rw_pre hPm hDm hK hN⟩ rfl rfl hl.1 rfl (lv_room (Nat.le_of_ble_eq_true rfl)) dL_law_421 ⟨by show _ ≤ 1067; omega, by show _ ≤ 18165; omega⟩) hS hA hP hD (fun N_g H locs hN_g hP hD hS => ?_)
  have hR : rel (k + 1) (X_g, o).1 N_g := by rw [← hN_g, ← hX_g]; exact rel_mono (Nat.le_succ k) (rel_rest h)
  refine lv_goto (tgt := 883) hx hb dL_law_424 (by decide) ?_
  refine W.widen (k := 25 + (k + 1)) (n := 9865 + 6 * (k + 1)) (by omega) (by omega) ?_
  exact kk (X_g, o) N_g _ _ _ hR hP hD hS hl

set_option maxHeartbeats 4000000 in
set_option maxRecDepth 100000 in
/-- the law's case 5 -/
theorem cs_5 {p : Program} {l : Launch} {e : Env} {s : State} {m : MethodId} {below : List Frame} {meth : Method} {c : Code} {G : va_G} {cI cZ cJ : ClassId} {a bb : Nat → Nat} {q_g b L : Nat} {xs : Nat → Int32} {sa : Nat → Nat} {k : Nat} {X : XS} {o : Nat → Int64} {M : MS} {H : Heap} {locs : List Loc} {ls : Array Slot} {Q : State → Prop} (C : lw_Cx p l s m c b L xs G cI cZ cJ sa) (hk : 5 * k + 5 ≤ L) (hL : L ≤ 2560) (h : rel k X M) (hP : va_P G vwCl (wA cI cZ cJ a q_g bb (X, o) M) H) (hD : va_D (lw_A s) (wA cI cZ cJ a q_g bb (X, o) M)) (hS : va_S (lw_A s) s.heap H locs) (hl : lv_has ls 7 [(0, .ref b), (1, .ref (a 0)), (2, .ref (bb 0)), (3, .ref q_g), (4, .int (nI (5 * k)))]) (kk : ∀ (u : WS) (N : MS) (H : Heap) (locs : List Loc) (ls : Array Slot), rel (k + 1) u.1 N → va_P G vwCl (wA cI cZ cJ a q_g bb u N) H → va_D (lw_A s) (wA cI cZ cJ a q_g bb u N) → va_S (lw_A s) s.heap H locs → lv_has ls 7 [(0, .ref b), (1, .ref (a 0)), (2, .ref (bb 0)), (3, .ref q_g), (4, .int (nI (5 * k)))] → W p l e room_1 s m #[Value.ref b] below meth c H locs (25 + (k + 1)) (9865 + 6 * (k + 1)) Q (F0 m 883 ls [])) : W p l e room_1 s m #[Value.ref b] below meth c H locs (25 + k) (9865 + 6 * k) Q (F0 m 427 ls []) := by
  obtain ⟨hx, hb, hml, hown, hts, hX, hbl, hst, hK, hN, hE, hZ0, hC⟩ := C
  have hA : ∀ q, s.heap.size ≤ q → lw_A s q := fun _ h9 => h9
  have hk9 : k ≤ 1000000 := by omega
  have hn9 : y_n (x_Y X) ≤ 9 := by rw [h.2.2.1.1]; exact h.1.1
  refine lv_aload_n hx hb dL_law_427 rfl (lv_at hl 1 rfl) ?_
  have hPj := hP.sub (ws' := wJ cI cZ cJ a (x_J X) (x_S X) (x_Y X)) [0, 1, 2, 3, 4, 5, 6, 7, 8, 9, 10] rfl
  refine ro_i (va_runV (As := []) (rest := []) ⟨hx, hb, hml, hown, hts⟩ (c_X2_vehicles l G cI cZ cJ a _ X) (cwV 0 hts gL_law_X2_vehicles rfl rfl rfl (by decide +kernel) ⟨Nat.le_of_ble_eq_true rfl, Nat.le_of_ble_eq_true rfl⟩) ⟨ro_blind, va_recv hK hPj (ci := 2) (q0 := 0) rfl rfl, ro_pre hPj hK hN⟩ rfl rfl hl.1 rfl (lv_room (Nat.le_of_ble_eq_true rfl)) dL_law_428 ⟨by show _ ≤ 1067; omega, by show _ ≤ 18165; omega⟩) hS hA hP (fun H locs hP hS => ?_)
  refine lv_aload_n hx hb dL_law_431 rfl (lv_at hl 2 rfl) ?_
  have hPm := hP.sub (ws' := wM cI bb M) [12, 13, 14, 15, 16, 17, 18, 19, 20, 21, 22, 23, 24] rfl
  have hDm := hD.sub (ws' := wM cI bb M) [12, 13, 14, 15, 16, 17, 18, 19, 20, 21, 22, 23, 24] (by decide) rfl
  refine lc_Mi (va_runV (As := []) (rest := [.int (nI (y_n (x_Y X)))]) ⟨hx, hb, hml, hown, hts⟩ (c_X3_vehicles l G cI cZ cJ bb _ M ) (cwV 0 hts gL_law_X3_vehicles rfl rfl rfl (by decide +kernel) ⟨Nat.le_of_ble_eq_true rfl, Nat.le_of_ble_eq_true rfl⟩) ⟨rw_blind, va_recv hK hPm (ci := 3) (q0 := 0) rfl rfl, rw_pre hPm hDm hK hN⟩ rfl rfl hl.1 rfl (lv_room (Nat.le_of_ble_eq_true rfl)) dL_law_432 ⟨by show _ ≤ 1067; omega, by show _ ≤ 18165; omega⟩) hS hA hP hD (fun r_g N_g H locs hr_g hN_g hP hD hS => ?_)
  have hR : rel (k + 1) (X, o).1 N_g := by rw [← hN_g]; exact rel_mono (Nat.le_succ k) (rel_th 0 h)
  have hV : nI (y_n (x_Y X)) = r_g := by rw [← hr_g, h.2.2.1.1]
  refine lv_icmp_eq (tgt := 883) hx hb dL_law_435 (by decide) (fun _ => ?_) (fun w_g => absurd hV w_g)
  refine W.widen (k := 25 + (k + 1)) (n := 9865 + 6 * (k + 1)) (by omega) (by omega) ?_
  exact kk (X, o) N_g _ _ _ hR hP hD hS hl

set_option maxHeartbeats 4000000 in
set_option maxRecDepth 100000 in
/-- the law's case 6 -/
theorem cs_6 {p : Program} {l : Launch} {e : Env} {s : State} {m : MethodId} {below : List Frame} {meth : Method} {c : Code} {G : va_G} {cI cZ cJ : ClassId} {a bb : Nat → Nat} {q_g b L : Nat} {xs : Nat → Int32} {sa : Nat → Nat} {k : Nat} {X : XS} {o : Nat → Int64} {M : MS} {H : Heap} {locs : List Loc} {ls : Array Slot} {Q : State → Prop} (C : lw_Cx p l s m c b L xs G cI cZ cJ sa) (hk : 5 * k + 5 ≤ L) (hL : L ≤ 2560) (h : rel k X M) (hP : va_P G vwCl (wA cI cZ cJ a q_g bb (X, o) M) H) (hD : va_D (lw_A s) (wA cI cZ cJ a q_g bb (X, o) M)) (hS : va_S (lw_A s) s.heap H locs) (hl : lv_has ls 7 [(0, .ref b), (1, .ref (a 0)), (2, .ref (bb 0)), (3, .ref q_g), (4, .int (nI (5 * k)))]) (kk : ∀ (u : WS) (N : MS) (H : Heap) (locs : List Loc) (ls : Array Slot), rel (k + 1) u.1 N → va_P G vwCl (wA cI cZ cJ a q_g bb u N) H → va_D (lw_A s) (wA cI cZ cJ a q_g bb u N) → va_S (lw_A s) s.heap H locs → lv_has ls 7 [(0, .ref b), (1, .ref (a 0)), (2, .ref (bb 0)), (3, .ref q_g), (4, .int (nI (5 * k)))] → W p l e room_1 s m #[Value.ref b] below meth c H locs (25 + (k + 1)) (9865 + 6 * (k + 1)) Q (F0 m 883 ls [])) : W p l e room_1 s m #[Value.ref b] below meth c H locs (25 + k) (9865 + 6 * k) Q (F0 m 440 ls []) := by
  obtain ⟨hx, hb, hml, hown, hts, hX, hbl, hst, hK, hN, hE, hZ0, hC⟩ := C
  have hA : ∀ q, s.heap.size ≤ q → lw_A s q := fun _ h9 => h9
  have hk9 : k ≤ 1000000 := by omega
  have hn9 : y_n (x_Y X) ≤ 9 := by rw [h.2.2.1.1]; exact h.1.1
  refine lv_aload_n hx hb dL_law_440 rfl (lv_at hl 1 rfl) ?_
  refine lw_rd hx hb hX hbl hS (lv_at hl 0 rfl) (lv_at hl 4 rfl) (j := 1) (by decide) (by omega) hL dL_law_441 dL_law_442 dL_law_444 dL_law_445 dL_law_446 ?_
  refine lv_aload_n hx hb dL_law_447 rfl (lv_at hl 3 rfl) ?_
  have hZ : ex_Z (lw_A s) s H := hZ0.kept hS.2.1
  have hPc := hP.sub (ws' := wW cI cZ cJ a q_g (X, o)) [0, 1, 2, 3, 4, 5, 6, 7, 8, 9, 10, 11] rfl
  have hDc := hD.sub (ws' := wW cI cZ cJ a q_g (X, o)) [0, 1, 2, 3, 4, 5, 6, 7, 8, 9, 10, 11] (by decide) rfl
  have hFc := va_free (wc := wW cI cZ cJ a q_g (X, o)) hD hS hA [0, 1, 2, 3, 4, 5, 6, 7, 8, 9, 10, 11] rfl
  refine lc_W (vx_runSW (As := [.ref (a 0), .int (xs (5 * k + 1)), .ref q_g]) (rest := []) ⟨hx, hb, hml, hown, hts⟩ (c_L_rowOf l hst G cI cZ cJ a q_g _ sa X o (xs (5 * k + 1)) hn9) (vx_cwSW 3 hts gL_law_L_rowOf rfl rfl rfl (by decide +kernel) ⟨Nat.le_of_ble_eq_true rfl, Nat.le_of_ble_eq_true rfl⟩) ⟨wr_blind, wr_pre hPc hDc hK hN hE hZ hFc hC⟩ rfl rfl hl.1 rfl (lv_room (Nat.le_of_ble_eq_true rfl)) dL_law_448 ⟨by show _ ≤ 1067; omega, by show _ ≤ 18165; omega⟩) hS hA hP hD (fun t_g u_g H locs ht_g hu_g hP hD hS => ?_)
  refine lv_istore (lv' := [(5, .int t_g), (0, .ref b), (1, .ref (a 0)), (2, .ref (bb 0)), (3, .ref q_g), (4, .int (nI (5 * k)))]) hx hb dL_law_451 hl (by decide) rfl (fun ls hl => ?_)
  refine lv_aload_n hx hb dL_law_453 rfl (lv_at hl 3 rfl) ?_
  refine lw_rd hx hb hX hbl hS (lv_at hl 1 rfl) (lv_at hl 5 rfl) (j := 1) (by decide) (by omega) hL dL_law_454 dL_law_455 dL_law_457 dL_law_458 dL_law_459 ?_
  have hPm := hP.sub (ws' := wM cI bb M) [12, 13, 14, 15, 16, 17, 18, 19, 20, 21, 22, 23, 24] rfl
  have hDm := hD.sub (ws' := wM cI bb M) [12, 13, 14, 15, 16, 17, 18, 19, 20, 21, 22, 23, 24] (by decide) rfl
  refine lc_Mi (va_runV (As := [.int (xs (5 * k + 1))]) (rest := []) ⟨hx, hb, hml, hown, hts⟩ (c_X3_rowOf l G cI cZ cJ bb _ M (xs (5 * k + 1)) h.1) (cwV 1 hts gL_law_X3_rowOf rfl rfl rfl (by decide +kernel) ⟨Nat.le_of_ble_eq_true rfl, Nat.le_of_ble_eq_true rfl⟩) ⟨rw_blind, va_recv hK hPm (ci := 3) (q0 := 0) rfl rfl, rw_pre hPm hDm hK hN⟩ rfl rfl hl.1 rfl (lv_room (Nat.le_of_ble_eq_true rfl)) dL_law_460 ⟨by show _ ≤ 1067; omega, by show _ ≤ 18165; omega⟩) hS hA hP hD (fun r_g N_g H locs hr_g hN_g hP hD hS => ?_)
  refine lv_istore (lv' := [(6, .int r_g), (5, .int t_g), (0, .ref b), (1, .ref (a 0)), (2, .ref (bb 0)), (3, .ref q_g), (4, .int (nI (5 * k)))]) hx hb dL_law_463 hl (by decide) rfl (fun ls hl => ?_)
  obtain ⟨e1, e2, e3, -⟩ := rel_row h (xs (5 * k + 1))
  have e2 : rel (k + 1) (if has_th X (xs (5 * k + 1)) = 0 then X else X) (m_isv M (xs (5 * k + 1))) := by rw [ite_self]; exact rel_mono (Nat.le_succ k) e2
  have e4 : has_th X (xs (5 * k + 1)) ≤ 3 := th_has _ _
  have hT : m_th N_g = t_g := by rw [← hN_g, ← ht_g]; exact e1
  have hR : rel (k + 1) u_g.1 N_g := by rw [ws_fst hu_g, ← hN_g]; exact e2
  have hV : t_g = 0 → u_g.2 0 = r_g.toInt64 := fun w_g => by
    have w9 := nI_z3 (e4) (ht_g.trans w_g)
    rw [ws_out hu_g w9, ← hr_g, e3, if_pos w9]
    exact pk_uLs
  refine lw_th hx hb hml hown hts hK hN hS hP hl.1 (lv_at hl 4 rfl) (by omega) (by omega) dL_law_465 dL_law_466 (fun H locs hP hS => ?_)
  refine lw_tv hx hb (lv_at hl 1 rfl) hT dL_law_469 dL_law_471 ?_
  refine lw_to hx hb hK hP (lv_at hl 5 rfl) (lv_at hl 1 rfl) (lv_at hl 0 rfl) hV dL_law_476 dL_law_478 dL_law_481 dL_law_482 dL_law_483 dL_law_484 dL_law_486 dL_law_487 dL_law_488 dL_law_493 (by decide) ?_
  refine W.widen (k := 25 + (k + 1)) (n := 9865 + 6 * (k + 1)) (by omega) (by omega) ?_
  exact kk u_g N_g _ _ _ hR hP hD hS (lv_sub hl [2, 3, 4, 5, 6] rfl)

set_option maxHeartbeats 4000000 in
set_option maxRecDepth 100000 in
/-- the law's case 7 -/
theorem cs_7 {p : Program} {l : Launch} {e : Env} {s : State} {m : MethodId} {below : List Frame} {meth : Method} {c : Code} {G : va_G} {cI cZ cJ : ClassId} {a bb : Nat → Nat} {q_g b L : Nat} {xs : Nat → Int32} {sa : Nat → Nat} {k : Nat} {X : XS} {o : Nat → Int64} {M : MS} {H : Heap} {locs : List Loc} {ls : Array Slot} {Q : State → Prop} (C : lw_Cx p l s m c b L xs G cI cZ cJ sa) (hk : 5 * k + 5 ≤ L) (hL : L ≤ 2560) (h : rel k X M) (hP : va_P G vwCl (wA cI cZ cJ a q_g bb (X, o) M) H) (hD : va_D (lw_A s) (wA cI cZ cJ a q_g bb (X, o) M)) (hS : va_S (lw_A s) s.heap H locs) (hl : lv_has ls 7 [(0, .ref b), (1, .ref (a 0)), (2, .ref (bb 0)), (3, .ref q_g), (4, .int (nI (5 * k)))]) (kk : ∀ (u : WS) (N : MS) (H : Heap) (locs : List Loc) (ls : Array Slot), rel (k + 1) u.1 N → va_P G vwCl (wA cI cZ cJ a q_g bb u N) H → va_D (lw_A s) (wA cI cZ cJ a q_g bb u N) → va_S (lw_A s) s.heap H locs → lv_has ls 7 [(0, .ref b), (1, .ref (a 0)), (2, .ref (bb 0)), (3, .ref q_g), (4, .int (nI (5 * k)))] → W p l e room_1 s m #[Value.ref b] below meth c H locs (25 + (k + 1)) (9865 + 6 * (k + 1)) Q (F0 m 883 ls [])) : W p l e room_1 s m #[Value.ref b] below meth c H locs (25 + k) (9865 + 6 * k) Q (F0 m 496 ls []) := by
  obtain ⟨hx, hb, hml, hown, hts, hX, hbl, hst, hK, hN, hE, hZ0, hC⟩ := C
  have hA : ∀ q, s.heap.size ≤ q → lw_A s q := fun _ h9 => h9
  have hk9 : k ≤ 1000000 := by omega
  have hn9 : y_n (x_Y X) ≤ 9 := by rw [h.2.2.1.1]; exact h.1.1
  refine lv_aload_n hx hb dL_law_496 rfl (lv_at hl 1 rfl) ?_
  refine lw_rd hx hb hX hbl hS (lv_at hl 0 rfl) (lv_at hl 4 rfl) (j := 1) (by decide) (by omega) hL dL_law_497 dL_law_498 dL_law_500 dL_law_501 dL_law_502 ?_
  refine lv_aload_n hx hb dL_law_503 rfl (lv_at hl 3 rfl) ?_
  have hZ : ex_Z (lw_A s) s H := hZ0.kept hS.2.1
  have hPc := hP.sub (ws' := wW cI cZ cJ a q_g (X, o)) [0, 1, 2, 3, 4, 5, 6, 7, 8, 9, 10, 11] rfl
  have hDc := hD.sub (ws' := wW cI cZ cJ a q_g (X, o)) [0, 1, 2, 3, 4, 5, 6, 7, 8, 9, 10, 11] (by decide) rfl
  have hFc := va_free (wc := wW cI cZ cJ a q_g (X, o)) hD hS hA [0, 1, 2, 3, 4, 5, 6, 7, 8, 9, 10, 11] rfl
  refine lc_W (vx_runSW (As := [.ref (a 0), .int (xs (5 * k + 1)), .ref q_g]) (rest := []) ⟨hx, hb, hml, hown, hts⟩ (c_L_columnOf l hst G cI cZ cJ a q_g _ sa X o (xs (5 * k + 1)) hn9) (vx_cwSW 3 hts gL_law_L_columnOf rfl rfl rfl (by decide +kernel) ⟨Nat.le_of_ble_eq_true rfl, Nat.le_of_ble_eq_true rfl⟩) ⟨wr_blind, wr_pre hPc hDc hK hN hE hZ hFc hC⟩ rfl rfl hl.1 rfl (lv_room (Nat.le_of_ble_eq_true rfl)) dL_law_504 ⟨by show _ ≤ 1067; omega, by show _ ≤ 18165; omega⟩) hS hA hP hD (fun t_g u_g H locs ht_g hu_g hP hD hS => ?_)
  refine lv_istore (lv' := [(5, .int t_g), (0, .ref b), (1, .ref (a 0)), (2, .ref (bb 0)), (3, .ref q_g), (4, .int (nI (5 * k)))]) hx hb dL_law_507 hl (by decide) rfl (fun ls hl => ?_)
  refine lv_aload_n hx hb dL_law_509 rfl (lv_at hl 3 rfl) ?_
  refine lw_rd hx hb hX hbl hS (lv_at hl 1 rfl) (lv_at hl 5 rfl) (j := 1) (by decide) (by omega) hL dL_law_510 dL_law_511 dL_law_513 dL_law_514 dL_law_515 ?_
  have hPm := hP.sub (ws' := wM cI bb M) [12, 13, 14, 15, 16, 17, 18, 19, 20, 21, 22, 23, 24] rfl
  have hDm := hD.sub (ws' := wM cI bb M) [12, 13, 14, 15, 16, 17, 18, 19, 20, 21, 22, 23, 24] (by decide) rfl
  refine lc_Mi (va_runV (As := [.int (xs (5 * k + 1))]) (rest := []) ⟨hx, hb, hml, hown, hts⟩ (c_X3_columnOf l G cI cZ cJ bb _ M (xs (5 * k + 1)) h.1) (cwV 1 hts gL_law_X3_columnOf rfl rfl rfl (by decide +kernel) ⟨Nat.le_of_ble_eq_true rfl, Nat.le_of_ble_eq_true rfl⟩) ⟨rw_blind, va_recv hK hPm (ci := 3) (q0 := 0) rfl rfl, rw_pre hPm hDm hK hN⟩ rfl rfl hl.1 rfl (lv_room (Nat.le_of_ble_eq_true rfl)) dL_law_516 ⟨by show _ ≤ 1067; omega, by show _ ≤ 18165; omega⟩) hS hA hP hD (fun r_g N_g H locs hr_g hN_g hP hD hS => ?_)
  refine lv_istore (lv' := [(6, .int r_g), (5, .int t_g), (0, .ref b), (1, .ref (a 0)), (2, .ref (bb 0)), (3, .ref q_g), (4, .int (nI (5 * k)))]) hx hb dL_law_519 hl (by decide) rfl (fun ls hl => ?_)
  obtain ⟨e1, e2, -, e3⟩ := rel_row h (xs (5 * k + 1))
  have e2 : rel (k + 1) (if has_th X (xs (5 * k + 1)) = 0 then X else X) (m_isv M (xs (5 * k + 1))) := by rw [ite_self]; exact rel_mono (Nat.le_succ k) e2
  have e4 : has_th X (xs (5 * k + 1)) ≤ 3 := th_has _ _
  have hT : m_th N_g = t_g := by rw [← hN_g, ← ht_g]; exact e1
  have hR : rel (k + 1) u_g.1 N_g := by rw [ws_fst hu_g, ← hN_g]; exact e2
  have hV : t_g = 0 → u_g.2 0 = r_g.toInt64 := fun w_g => by
    have w9 := nI_z3 (e4) (ht_g.trans w_g)
    rw [ws_out hu_g w9, ← hr_g, e3, if_pos w9]
    exact pk_uLs
  refine lw_th hx hb hml hown hts hK hN hS hP hl.1 (lv_at hl 4 rfl) (by omega) (by omega) dL_law_521 dL_law_522 (fun H locs hP hS => ?_)
  refine lw_tv hx hb (lv_at hl 1 rfl) hT dL_law_525 dL_law_527 ?_
  refine lw_to hx hb hK hP (lv_at hl 5 rfl) (lv_at hl 1 rfl) (lv_at hl 0 rfl) hV dL_law_532 dL_law_534 dL_law_537 dL_law_538 dL_law_539 dL_law_540 dL_law_542 dL_law_543 dL_law_544 dL_law_549 (by decide) ?_
  refine W.widen (k := 25 + (k + 1)) (n := 9865 + 6 * (k + 1)) (by omega) (by omega) ?_
  exact kk u_g N_g _ _ _ hR hP hD hS (lv_sub hl [2, 3, 4, 5, 6] rfl)

set_option maxHeartbeats 4000000 in
set_option maxRecDepth 100000 in
/-- the law's case 8 -/
theorem cs_8 {p : Program} {l : Launch} {e : Env} {s : State} {m : MethodId} {below : List Frame} {meth : Method} {c : Code} {G : va_G} {cI cZ cJ : ClassId} {a bb : Nat → Nat} {q_g b L : Nat} {xs : Nat → Int32} {sa : Nat → Nat} {k : Nat} {X : XS} {o : Nat → Int64} {M : MS} {H : Heap} {locs : List Loc} {ls : Array Slot} {Q : State → Prop} (C : lw_Cx p l s m c b L xs G cI cZ cJ sa) (hk : 5 * k + 5 ≤ L) (hL : L ≤ 2560) (h : rel k X M) (hP : va_P G vwCl (wA cI cZ cJ a q_g bb (X, o) M) H) (hD : va_D (lw_A s) (wA cI cZ cJ a q_g bb (X, o) M)) (hS : va_S (lw_A s) s.heap H locs) (hl : lv_has ls 7 [(0, .ref b), (1, .ref (a 0)), (2, .ref (bb 0)), (3, .ref q_g), (4, .int (nI (5 * k)))]) (kk : ∀ (u : WS) (N : MS) (H : Heap) (locs : List Loc) (ls : Array Slot), rel (k + 1) u.1 N → va_P G vwCl (wA cI cZ cJ a q_g bb u N) H → va_D (lw_A s) (wA cI cZ cJ a q_g bb u N) → va_S (lw_A s) s.heap H locs → lv_has ls 7 [(0, .ref b), (1, .ref (a 0)), (2, .ref (bb 0)), (3, .ref q_g), (4, .int (nI (5 * k)))] → W p l e room_1 s m #[Value.ref b] below meth c H locs (25 + (k + 1)) (9865 + 6 * (k + 1)) Q (F0 m 883 ls [])) : W p l e room_1 s m #[Value.ref b] below meth c H locs (25 + k) (9865 + 6 * k) Q (F0 m 552 ls []) := by
  obtain ⟨hx, hb, hml, hown, hts, hX, hbl, hst, hK, hN, hE, hZ0, hC⟩ := C
  have hA : ∀ q, s.heap.size ≤ q → lw_A s q := fun _ h9 => h9
  have hk9 : k ≤ 1000000 := by omega
  have hn9 : y_n (x_Y X) ≤ 9 := by rw [h.2.2.1.1]; exact h.1.1
  refine lv_aload_n hx hb dL_law_552 rfl (lv_at hl 1 rfl) ?_
  refine lw_rd hx hb hX hbl hS (lv_at hl 0 rfl) (lv_at hl 4 rfl) (j := 1) (by decide) (by omega) hL dL_law_553 dL_law_554 dL_law_556 dL_law_557 dL_law_558 ?_
  refine lw_rd hx hb hX hbl hS (lv_at hl 0 rfl) (lv_at hl 4 rfl) (j := 2) (by decide) (by omega) hL dL_law_559 dL_law_560 dL_law_562 dL_law_563 dL_law_564 ?_
  refine lv_aload_n hx hb dL_law_565 rfl (lv_at hl 3 rfl) ?_
  have hZ : ex_Z (lw_A s) s H := hZ0.kept hS.2.1
  have hPc := hP.sub (ws' := wW cI cZ cJ a q_g (X, o)) [0, 1, 2, 3, 4, 5, 6, 7, 8, 9, 10, 11] rfl
  have hDc := hD.sub (ws' := wW cI cZ cJ a q_g (X, o)) [0, 1, 2, 3, 4, 5, 6, 7, 8, 9, 10, 11] (by decide) rfl
  have hFc := va_free (wc := wW cI cZ cJ a q_g (X, o)) hD hS hA [0, 1, 2, 3, 4, 5, 6, 7, 8, 9, 10, 11] rfl
  refine lc_W (vx_runSW (As := [.ref (a 0), .int (xs (5 * k + 1)), .int (xs (5 * k + 2)), .ref q_g]) (rest := []) ⟨hx, hb, hml, hown, hts⟩ (c_L_at l hst G cI cZ cJ a q_g _ sa X o (xs (5 * k + 1)) (xs (5 * k + 2)) hn9) (vx_cwSW 4 hts gL_law_L_at rfl rfl rfl (by decide +kernel) ⟨Nat.le_of_ble_eq_true rfl, Nat.le_of_ble_eq_true rfl⟩) ⟨wr_blind, wr_pre hPc hDc hK hN hE hZ hFc hC⟩ rfl rfl hl.1 rfl (lv_room (Nat.le_of_ble_eq_true rfl)) dL_law_566 ⟨by show _ ≤ 1067; omega, by show _ ≤ 18165; omega⟩) hS hA hP hD (fun t_g u_g H locs ht_g hu_g hP hD hS => ?_)
  refine lv_istore (lv' := [(5, .int t_g), (0, .ref b), (1, .ref (a 0)), (2, .ref (bb 0)), (3, .ref q_g), (4, .int (nI (5 * k)))]) hx hb dL_law_569 hl (by decide) rfl (fun ls hl => ?_)
  refine lv_aload_n hx hb dL_law_571 rfl (lv_at hl 3 rfl) ?_
  refine lw_rd hx hb hX hbl hS (lv_at hl 1 rfl) (lv_at hl 5 rfl) (j := 1) (by decide) (by omega) hL dL_law_572 dL_law_573 dL_law_575 dL_law_576 dL_law_577 ?_
  refine lw_rd hx hb hX hbl hS (lv_at hl 1 rfl) (lv_at hl 5 rfl) (j := 2) (by decide) (by omega) hL dL_law_578 dL_law_579 dL_law_581 dL_law_582 dL_law_583 ?_
  have hPm := hP.sub (ws' := wM cI bb M) [12, 13, 14, 15, 16, 17, 18, 19, 20, 21, 22, 23, 24] rfl
  have hDm := hD.sub (ws' := wM cI bb M) [12, 13, 14, 15, 16, 17, 18, 19, 20, 21, 22, 23, 24] (by decide) rfl
  refine lc_Mi (va_runV (As := [.int (xs (5 * k + 1)), .int (xs (5 * k + 2))]) (rest := []) ⟨hx, hb, hml, hown, hts⟩ (c_X3_at l G cI cZ cJ bb _ M (xs (5 * k + 1)) (xs (5 * k + 2)) h.1) (cwV 2 hts gL_law_X3_at rfl rfl rfl (by decide +kernel) ⟨Nat.le_of_ble_eq_true rfl, Nat.le_of_ble_eq_true rfl⟩) ⟨rw_blind, va_recv hK hPm (ci := 3) (q0 := 0) rfl rfl, rw_pre hPm hDm hK hN⟩ rfl rfl hl.1 rfl (lv_room (Nat.le_of_ble_eq_true rfl)) dL_law_584 ⟨by show _ ≤ 1067; omega, by show _ ≤ 18165; omega⟩) hS hA hP hD (fun r_g N_g H locs hr_g hN_g hP hD hS => ?_)
  refine lv_istore (lv' := [(6, .int r_g), (5, .int t_g), (0, .ref b), (1, .ref (a 0)), (2, .ref (bb 0)), (3, .ref q_g), (4, .int (nI (5 * k)))]) hx hb dL_law_587 hl (by decide) rfl (fun ls hl => ?_)
  obtain ⟨e1, e2, e3⟩ := rel_at h (xs (5 * k + 1)) (xs (5 * k + 2))
  have e2 : rel (k + 1) (if at_th (xs (5 * k + 1)) (xs (5 * k + 2)) = 0 then X else X) (m_lay (m_wTh M (if inL (xs (5 * k + 1)) ∧ inL (xs (5 * k + 2)) then 0 else 1))) := by rw [ite_self]; exact rel_mono (Nat.le_succ k) e2
  have e4 : at_th (xs (5 * k + 1)) (xs (5 * k + 2)) ≤ 3 := th_at _ _
  have hT : m_th N_g = t_g := by rw [← hN_g, ← ht_g]; exact e1
  have hR : rel (k + 1) u_g.1 N_g := by rw [ws_fst hu_g, ← hN_g]; exact e2
  have hV : t_g = 0 → u_g.2 0 = r_g.toInt64 := fun w_g => by
    have w9 := nI_z3 (e4) (ht_g.trans w_g)
    rw [ws_out hu_g w9, ← hr_g, e3, if_pos w9]
    exact pk_uLs
  refine lw_th hx hb hml hown hts hK hN hS hP hl.1 (lv_at hl 4 rfl) (by omega) (by omega) dL_law_589 dL_law_590 (fun H locs hP hS => ?_)
  refine lw_tv hx hb (lv_at hl 1 rfl) hT dL_law_593 dL_law_595 ?_
  refine lw_to hx hb hK hP (lv_at hl 5 rfl) (lv_at hl 1 rfl) (lv_at hl 0 rfl) hV dL_law_600 dL_law_602 dL_law_605 dL_law_606 dL_law_607 dL_law_608 dL_law_610 dL_law_611 dL_law_612 dL_law_617 (by decide) ?_
  refine W.widen (k := 25 + (k + 1)) (n := 9865 + 6 * (k + 1)) (by omega) (by omega) ?_
  exact kk u_g N_g _ _ _ hR hP hD hS (lv_sub hl [2, 3, 4, 5, 6] rfl)

set_option maxHeartbeats 4000000 in
set_option maxRecDepth 100000 in
/-- the law's case 9 -/
theorem cs_9 {p : Program} {l : Launch} {e : Env} {s : State} {m : MethodId} {below : List Frame} {meth : Method} {c : Code} {G : va_G} {cI cZ cJ : ClassId} {a bb : Nat → Nat} {q_g b L : Nat} {xs : Nat → Int32} {sa : Nat → Nat} {k : Nat} {X : XS} {o : Nat → Int64} {M : MS} {H : Heap} {locs : List Loc} {ls : Array Slot} {Q : State → Prop} (C : lw_Cx p l s m c b L xs G cI cZ cJ sa) (hk : 5 * k + 5 ≤ L) (hL : L ≤ 2560) (h : rel k X M) (hP : va_P G vwCl (wA cI cZ cJ a q_g bb (X, o) M) H) (hD : va_D (lw_A s) (wA cI cZ cJ a q_g bb (X, o) M)) (hS : va_S (lw_A s) s.heap H locs) (hl : lv_has ls 7 [(0, .ref b), (1, .ref (a 0)), (2, .ref (bb 0)), (3, .ref q_g), (4, .int (nI (5 * k)))]) (kk : ∀ (u : WS) (N : MS) (H : Heap) (locs : List Loc) (ls : Array Slot), rel (k + 1) u.1 N → va_P G vwCl (wA cI cZ cJ a q_g bb u N) H → va_D (lw_A s) (wA cI cZ cJ a q_g bb u N) → va_S (lw_A s) s.heap H locs → lv_has ls 7 [(0, .ref b), (1, .ref (a 0)), (2, .ref (bb 0)), (3, .ref q_g), (4, .int (nI (5 * k)))] → W p l e room_1 s m #[Value.ref b] below meth c H locs (25 + (k + 1)) (9865 + 6 * (k + 1)) Q (F0 m 883 ls [])) : W p l e room_1 s m #[Value.ref b] below meth c H locs (25 + k) (9865 + 6 * k) Q (F0 m 620 ls []) := by
  obtain ⟨hx, hb, hml, hown, hts, hX, hbl, hst, hK, hN, hE, hZ0, hC⟩ := C
  have hA : ∀ q, s.heap.size ≤ q → lw_A s q := fun _ h9 => h9
  have hk9 : k ≤ 1000000 := by omega
  have hn9 : y_n (x_Y X) ≤ 9 := by rw [h.2.2.1.1]; exact h.1.1
  obtain ⟨z_g, hz⟩ : ∃ z : Int32, (if xs (5 * k + 2) = 0 then (0 : Int32) else 1) = z := ⟨_, rfl⟩
  refine lv_aload_n hx hb dL_law_620 rfl (lv_at hl 1 rfl) ?_
  refine lw_rd hx hb hX hbl hS (lv_at hl 0 rfl) (lv_at hl 4 rfl) (j := 1) (by decide) (by omega) hL dL_law_621 dL_law_622 dL_law_624 dL_law_625 dL_law_626 ?_
  refine lw_rd hx hb hX hbl hS (lv_at hl 0 rfl) (lv_at hl 4 rfl) (j := 2) (by decide) (by omega) hL dL_law_627 dL_law_628 dL_law_630 dL_law_631 dL_law_632 ?_
  refine lw_bz hx hb hz dL_law_633 dL_law_636 dL_law_637 dL_law_640 ?_
  refine lv_aload_n hx hb dL_law_641 rfl (lv_at hl 3 rfl) ?_
  have hZ : ex_Z (lw_A s) s H := hZ0.kept hS.2.1
  have hPc := hP.sub (ws' := wW cI cZ cJ a q_g (X, o)) [0, 1, 2, 3, 4, 5, 6, 7, 8, 9, 10, 11] rfl
  have hDc := hD.sub (ws' := wW cI cZ cJ a q_g (X, o)) [0, 1, 2, 3, 4, 5, 6, 7, 8, 9, 10, 11] (by decide) rfl
  have hFc := va_free (wc := wW cI cZ cJ a q_g (X, o)) hD hS hA [0, 1, 2, 3, 4, 5, 6, 7, 8, 9, 10, 11] rfl
  refine lc_W (vx_runSW (As := [.ref (a 0), .int (xs (5 * k + 1)), .int (z_g), .ref q_g]) (rest := []) ⟨hx, hb, hml, hown, hts⟩ (c_L_freeWay l hst G cI cZ cJ a q_g _ sa X o (xs (5 * k + 1)) (z_g) hn9) (vx_cwSW 4 hts gL_law_L_freeWay rfl rfl rfl (by decide +kernel) ⟨Nat.le_of_ble_eq_true rfl, Nat.le_of_ble_eq_true rfl⟩) ⟨wr_blind, wr_pre hPc hDc hK hN hE hZ hFc hC⟩ rfl rfl hl.1 rfl (lv_room (Nat.le_of_ble_eq_true rfl)) dL_law_642 ⟨by show _ ≤ 1067; omega, by show _ ≤ 18165; omega⟩) hS hA hP hD (fun t_g u_g H locs ht_g hu_g hP hD hS => ?_)
  refine lv_istore (lv' := [(5, .int t_g), (0, .ref b), (1, .ref (a 0)), (2, .ref (bb 0)), (3, .ref q_g), (4, .int (nI (5 * k)))]) hx hb dL_law_645 hl (by decide) rfl (fun ls hl => ?_)
  refine lv_aload_n hx hb dL_law_647 rfl (lv_at hl 3 rfl) ?_
  refine lw_rd hx hb hX hbl hS (lv_at hl 1 rfl) (lv_at hl 5 rfl) (j := 1) (by decide) (by omega) hL dL_law_648 dL_law_649 dL_law_651 dL_law_652 dL_law_653 ?_
  refine lw_rd hx hb hX hbl hS (lv_at hl 1 rfl) (lv_at hl 5 rfl) (j := 2) (by decide) (by omega) hL dL_law_654 dL_law_655 dL_law_657 dL_law_658 dL_law_659 ?_
  refine lw_bz hx hb hz dL_law_660 dL_law_663 dL_law_664 dL_law_667 ?_
  have hPm := hP.sub (ws' := wM cI bb M) [12, 13, 14, 15, 16, 17, 18, 19, 20, 21, 22, 23, 24] rfl
  have hDm := hD.sub (ws' := wM cI bb M) [12, 13, 14, 15, 16, 17, 18, 19, 20, 21, 22, 23, 24] (by decide) rfl
  refine lc_Mi (va_runV (As := [.int (xs (5 * k + 1)), .int (z_g)]) (rest := []) ⟨hx, hb, hml, hown, hts⟩ (c_X3_freeWay l G cI cZ cJ bb _ M (xs (5 * k + 1)) (z_g) h.1) (cwV 2 hts gL_law_X3_freeWay rfl rfl rfl (by decide +kernel) ⟨Nat.le_of_ble_eq_true rfl, Nat.le_of_ble_eq_true rfl⟩) ⟨rw_blind, va_recv hK hPm (ci := 3) (q0 := 0) rfl rfl, rw_pre hPm hDm hK hN⟩ rfl rfl hl.1 rfl (lv_room (Nat.le_of_ble_eq_true rfl)) dL_law_668 ⟨by show _ ≤ 1067; omega, by show _ ≤ 18165; omega⟩) hS hA hP hD (fun r_g N_g H locs hr_g hN_g hP hD hS => ?_)
  refine lv_istore (lv' := [(6, .int r_g), (5, .int t_g), (0, .ref b), (1, .ref (a 0)), (2, .ref (bb 0)), (3, .ref q_g), (4, .int (nI (5 * k)))]) hx hb dL_law_671 hl (by decide) rfl (fun ls hl => ?_)
  obtain ⟨e1, e2, e3⟩ := rel_fway h (xs (5 * k + 1)) (z_g)
  have e2 : rel (k + 1) (if has_th X (xs (5 * k + 1)) = 0 then X else X) (m_isv (m_lay M) (xs (5 * k + 1))) := by rw [ite_self]; exact rel_mono (Nat.le_succ k) e2
  have e4 : has_th X (xs (5 * k + 1)) ≤ 3 := th_has _ _
  have hT : m_th N_g = t_g := by rw [← hN_g, ← ht_g]; exact e1
  have hR : rel (k + 1) u_g.1 N_g := by rw [ws_fst hu_g, ← hN_g]; exact e2
  have hV : t_g = 0 → u_g.2 0 = r_g.toInt64 := fun w_g => by
    have w9 := nI_z3 (e4) (ht_g.trans w_g)
    rw [ws_out hu_g w9, ← hr_g, e3, if_pos w9]
    exact pk_uLs
  refine lw_th hx hb hml hown hts hK hN hS hP hl.1 (lv_at hl 4 rfl) (by omega) (by omega) dL_law_673 dL_law_674 (fun H locs hP hS => ?_)
  refine lw_tv hx hb (lv_at hl 1 rfl) hT dL_law_677 dL_law_679 ?_
  refine lw_to hx hb hK hP (lv_at hl 5 rfl) (lv_at hl 1 rfl) (lv_at hl 0 rfl) hV dL_law_684 dL_law_686 dL_law_689 dL_law_690 dL_law_691 dL_law_692 dL_law_694 dL_law_695 dL_law_696 dL_law_701 (by decide) ?_
  refine W.widen (k := 25 + (k + 1)) (n := 9865 + 6 * (k + 1)) (by omega) (by omega) ?_
  exact kk u_g N_g _ _ _ hR hP hD hS (lv_sub hl [2, 3, 4, 5, 6] rfl)
