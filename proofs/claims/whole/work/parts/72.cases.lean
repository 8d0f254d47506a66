/-! THE LAW: its cases 0, 1, 2, 3 -/
set_option maxHeartbeats 4000000 in
set_option maxRecDepth 100000 in
/-- the law's case 0 -/
theorem cs_0 {p : Program} {l : Launch} {e : Env} {s : State} {m : MethodId} {below : List Frame} {meth : Method} {c : Code} {G : va_G} {cI cZ cJ : ClassId} {a bb : Nat → Nat} {q_g b L : Nat} {xs : Nat → Int32} {sa : Nat → Nat} {k : Nat} {X : XS} {o : Nat → Int64} {M : MS} {H : Heap} {locs : List Loc} {ls : Array Slot} {Q : State → Prop} (C : lw_Cx p l s m c b L xs G cI cZ cJ sa) (hk : 5 * k + 5 ≤ L) (hL : L ≤ 2560) (h : rel k X M) (hP : va_P G vwCl (wA cI cZ cJ a q_g bb (X, o) M) H) (hD : va_D (lw_A s) (wA cI cZ cJ a q_g bb (X, o) M)) (hS : va_S (lw_A s) s.heap H locs) (hl : lv_has ls 7 [(0, .ref b), (1, .ref (a 0)), (2, .ref (bb 0)), (3, .ref q_g), (4, .int (nI (5 * k)))]) (kk : ∀ (u : WS) (N : MS) (H : Heap) (locs : List Loc) (ls : Array Slot), rel (k + 1) u.1 N → va_P G vwCl (wA cI cZ cJ a q_g bb u N) H → va_D (lw_A s) (wA cI cZ cJ a q_g bb u N) → va_S (lw_A s) s.heap H locs → lv_has ls 7 [(0, .ref b), (1, .ref (a 0)), (2, .ref (bb 0)), (3, .ref q_g), (4, .int (nI (5 * k)))] → W p l e room_1 s m #[Value.ref b] below meth c H locs (25 + (k + 1)) (9865 + 6 * (k + 1)) Q (F0 m 883 ls [])) : W p l e room_1 s m #[Value.ref b] below meth c H locs (25 + k) (9865 + 6 * k) Q (F0 m 128 ls []) := by
  obtain ⟨hx, hb, hml, hown, hts, hX, hbl, hst, hK, hN, hE, hZ0, hC⟩ := C
  have hA : ∀ q, s.heap.size ≤ q → lw_A s q := fun _ h9 => h9
  have hk9 : k ≤ 1000000 := by omega
  have hn9 : y_n (x_Y X) ≤ 9 := by rw [h.2.2.1.1]; exact h.1.1
  obtain ⟨z_g, hz⟩ : ∃ z : Int32, (if xs (5 * k + 2) = 0 then (0 : Int32) else 1) = z := ⟨_, rfl⟩
  refine lv_aload_n hx hb dL_law_128 rfl (lv_at hl 1 rfl) ?_
  refine lw_rd hx hb hX hbl hS (lv_at hl 0 rfl) (lv_at hl 4 rfl) (j := 1) (by decide) (by omega) hL dL_law_129 dL_law_130 dL_law_132 dL_law_133 dL_law_134 ?_
  refine lw_rd hx hb hX hbl hS (lv_at hl 0 rfl) (lv_at hl 4 rfl) (j := 2) (by decide) (by omega) hL dL_law_135 dL_law_136 dL_law_138 dL_law_139 dL_law_140 ?_
  refine lw_bz hx hb hz dL_law_141 dL_law_144 dL_law_145 dL_law_148 ?_
  refine lw_rd hx hb hX hbl hS (lv_at hl 0 rfl) (lv_at hl 4 rfl) (j := 3) (by decide) (by omega) hL dL_law_149 dL_law_150 dL_law_152 dL_law_153 dL_law_154 ?_
  refine lw_rd hx hb hX hbl hS (lv_at hl 0 rfl) (lv_at hl 4 rfl) (j := 4) (by decide) (by omega) hL dL_law_155 dL_law_156 dL_law_158 dL_law_159 dL_law_160 ?_
  refine lv_aload_n hx hb dL_law_161 rfl (lv_at hl 3 rfl) ?_
  have hZ : ex_Z (lw_A s) s H := hZ0.kept hS.2.1
  have hPc := hP.sub (ws' := wW cI cZ cJ a q_g (X, o)) [0, 1, 2, 3, 4, 5, 6, 7, 8, 9, 10, 11] rfl
  have hDc := hD.sub (ws' := wW cI cZ cJ a q_g (X, o)) [0, 1, 2, 3, 4, 5, 6, 7, 8, 9, 10, 11] (by decide) rfl
  have hFc := va_free (wc := wW cI cZ cJ a q_g (X, o)) hD hS hA [0, 1, 2, 3, 4, 5, 6, 7, 8, 9, 10, 11] rfl
  refine lc_W (vx_runSW (As := [.ref (a 0), .int (xs (5 * k + 1)), .int (z_g), .int (xs (5 * k + 3)), .int (xs (5 * k + 4)), .ref q_g]) (rest := []) ⟨hx, hb, hml, hown, hts⟩ (c_L_park l hst G cI cZ cJ a q_g _ sa X o (xs (5 * k + 1)) (z_g) (xs (5 * k + 3)) (xs (5 * k + 4)) hn9) (vx_cwSW 6 hts gL_law_L_park rfl rfl rfl (by decide +kernel) ⟨Nat.le_of_ble_eq_true rfl, Nat.le_of_ble_eq_true rfl⟩) ⟨wr_blind, wr_pre hPc hDc hK hN hE hZ hFc hC⟩ rfl rfl hl.1 rfl (lv_room (Nat.le_of_ble_eq_true rfl)) dL_law_162 ⟨by show _ ≤ 1067; omega, by show _ ≤ 18165; omega⟩) hS hA hP hD (fun t_g u_g H locs ht_g hu_g hP hD hS => ?_)
  refine lv_istore (lv' := [(5, .int t_g), (0, .ref b), (1, .ref (a 0)), (2, .ref (bb 0)), (3, .ref q_g), (4, .int (nI (5 * k)))]) hx hb dL_law_165 hl (by decide) rfl (fun ls hl => ?_)
  refine lv_aload_n hx hb dL_law_167 rfl (lv_at hl 3 rfl) ?_
  refine lw_rd hx hb hX hbl hS (lv_at hl 1 rfl) (lv_at hl 5 rfl) (j := 1) (by decide) (by omega) hL dL_law_168 dL_law_169 dL_law_171 dL_law_172 dL_law_173 ?_
  refine lw_rd hx hb hX hbl hS (lv_at hl 1 rfl) (lv_at hl 5 rfl) (j := 2) (by decide) (by omega) hL dL_law_174 dL_law_175 dL_law_177 dL_law_178 dL_law_179 ?_
  refine lw_bz hx hb hz dL_law_180 dL_law_183 dL_law_184 dL_law_187 ?_
  refine lw_rd hx hb hX hbl hS (lv_at hl 1 rfl) (lv_at hl 5 rfl) (j := 3) (by decide) (by omega) hL dL_law_188 dL_law_189 dL_law_191 dL_law_192 dL_law_193 ?_
  refine lw_rd hx hb hX hbl hS (lv_at hl 1 rfl) (lv_at hl 5 rfl) (j := 4) (by decide) (by omega) hL dL_law_194 dL_law_195 dL_law_197 dL_law_198 dL_law_199 ?_
  have hPm := hP.sub (ws' := wM cI bb M) [12, 13, 14, 15, 16, 17, 18, 19, 20, 21, 22, 23, 24] rfl
  have hDm := hD.sub (ws' := wM cI bb M) [12, 13, 14, 15, 16, 17, 18, 19, 20, 21, 22, 23, 24] (by decide) rfl
  refine lc_Mi (va_runV (As := [.int (xs (5 * k + 1)), .int (z_g), .int (xs (5 * k + 3)), .int (xs (5 * k + 4))]) (rest := []) ⟨hx, hb, hml, hown, hts⟩ (c_X3_park l G cI cZ cJ bb _ M (xs (5 * k + 1)) (z_g) (xs (5 * k + 3)) (xs (5 * k + 4)) h.1) (cwV 4 hts gL_law_X3_park rfl rfl rfl (by decide +kernel) ⟨Nat.le_of_ble_eq_true rfl, Nat.le_of_ble_eq_true rfl⟩) ⟨rw_blind, va_recv hK hPm (ci := 3) (q0 := 0) rfl rfl, rw_pre hPm hDm hK hN⟩ rfl rfl hl.1 rfl (lv_room (Nat.le_of_ble_eq_true rfl)) dL_law_200 ⟨by show _ ≤ 1067; omega, by show _ ≤ 18165; omega⟩) hS hA hP hD (fun r_g N_g H locs hr_g hN_g hP hD hS => ?_)
  refine lv_istore (lv' := [(6, .int r_g), (5, .int t_g), (0, .ref b), (1, .ref (a 0)), (2, .ref (bb 0)), (3, .ref q_g), (4, .int (nI (5 * k)))]) hx hb dL_law_203 hl (by decide) rfl (fun ls hl => ?_)
  obtain ⟨e1, e2, e3⟩ := rel_park hk9 h (xs (5 * k + 1)) (z_g) (xs (5 * k + 3)) (xs (5 * k + 4)) (bz_01 hz)
  have e2 := rel_mono (Nat.le_succ k) e2
  have e4 : park_th X (xs (5 * k + 1)) (z_g) (xs (5 * k + 3)) (xs (5 * k + 4)) ≤ 3 := th_park _ _ _ _ _
  have hT : m_th N_g = t_g := by rw [← hN_g, ← ht_g]; exact e1
  have hR : rel (k + 1) u_g.1 N_g := by rw [ws_fst hu_g, ← hN_g]; exact e2
  have hV : t_g = 0 → u_g.2 0 = r_g.toInt64 := fun w_g => by
    have w9 := nI_z3 (e4) (ht_g.trans w_g)
    rw [ws_out hu_g w9, ← hr_g, e3, if_pos w9]
    exact pk_uLs
  refine lw_th hx hb hml hown hts hK hN hS hP hl.1 (lv_at hl 4 rfl) (by omega) (by omega) dL_law_205 dL_law_206 (fun H locs hP hS => ?_)
  refine lw_tv hx hb (lv_at hl 1 rfl) hT dL_law_209 dL_law_211 ?_
  refine lw_to hx hb hK hP (lv_at hl 5 rfl) (lv_at hl 1 rfl) (lv_at hl 0 rfl) hV dL_law_216 dL_law_218 dL_law_221 dL_law_222 dL_law_223 dL_law_224 dL_law_226 dL_law_227 dL_law_228 dL_law_233 (by decide) ?_
  refine W.widen (k := 25 + (k + 1)) (n := 9865 + 6 * (k + 1)) (by omega) (by omega) ?_
  exact kk u_g N_g _ _ _ hR hP hD hS (lv_sub hl [2, 3, 4, 5, 6] rfl)

set_option maxHeartbeats 4000000 in
set_option maxRecDepth 100000 in
/-- the law's case 1 -/
theorem cs_1 {p : Program} {l : Launch} {e : Env} {s : State} {m : MethodId} {below : List Frame} {meth : Method} {c : Code} {G : va_G} {cI cZ cJ : ClassId} {a bb : Nat → Nat} {q_g b L : Nat} {xs : Nat → Int32} {sa : Nat → Nat} {k : Nat} {X : XS} {o : Nat → Int64} {M : MS} {H : Heap} {locs : List Loc} {ls : Array Slot} {Q : State → Prop} (C : lw_Cx p l s m c b L xs G cI cZ cJ sa) (hk : 5 * k + 5 ≤ L) (hL : L ≤ 2560) (h : rel k X M) (hP : va_P G vwCl (wA cI cZ cJ a q_g bb (X, o) M) H) (hD : va_D (lw_A s) (wA cI cZ cJ a q_g bb (X, o) M)) (hS : va_S (lw_A s) s.heap H locs) (hl : lv_has ls 7 [(0, .ref b), (1, .ref (a 0)), (2, .ref (bb 0)), (3, .ref q_g), (4, .int (nI (5 * k)))]) (kk : ∀ (u : WS) (N : MS) (H : Heap) (locs : List Loc) (ls : Array Slot), rel (k + 1) u.1 N → va_P G vwCl (wA cI cZ cJ a q_g bb u N) H → va_D (lw_A s) (wA cI cZ cJ a q_g bb u N) → va_S (lw_A s) s.heap H locs → lv_has ls 7 [(0, .ref b), (1, .ref (a 0)), (2, .ref (bb 0)), (3, .ref q_g), (4, .int (nI (5 * k)))] → W p l e room_1 s m #[Value.ref b] below meth c H locs (25 + (k + 1)) (9865 + 6 * (k + 1)) Q (F0 m 883 ls [])) : W p l e room_1 s m #[Value.ref b] below meth c H locs (25 + k) (9865 + 6 * k) Q (F0 m 236 ls []) := by
  obtain ⟨hx, hb, hml, hown, hts, hX, hbl, hst, hK, hN, hE, hZ0, hC⟩ := C
  have hA : ∀ q, s.heap.size ≤ q → lw_A s q := fun _ h9 => h9
  have hk9 : k ≤ 1000000 := by omega
  have hn9 : y_n (x_Y X) ≤ 9 := by rw [h.2.2.1.1]; exact h.1.1
  refine lv_aload_n hx hb dL_law_236 rfl (lv_at hl 1 rfl) ?_
  refine lw_rd hx hb hX hbl hS (lv_at hl 0 rfl) (lv_at hl 4 rfl) (j := 1) (by decide) (by omega) hL dL_law_237 dL_law_238 dL_law_240 dL_law_241 dL_law_242 ?_
  refine lw_rd hx hb hX hbl hS (lv_at hl 0 rfl) (lv_at hl 4 rfl) (j := 2) (by decide) (by omega) hL dL_law_243 dL_law_244 dL_law_246 dL_law_247 dL_law_248 ?_
  have hZ : ex_Z (lw_A s) s H := hZ0.kept hS.2.1
  have hPc := hP.sub (ws' := wW cI cZ cJ a q_g (X, o)) [0, 1, 2, 3, 4, 5, 6, 7, 8, 9, 10, 11] rfl
  have hDc := hD.sub (ws' := wW cI cZ cJ a q_g (X, o)) [0, 1, 2, 3, 4, 5, 6, 7, 8, 9, 10, 11] (by decide) rfl
  have hFc := va_free (wc := wW cI cZ cJ a q_g (X, o)) hD hS hA [0, 1, 2, 3, 4, 5, 6, 7, 8, 9, 10, 11] rfl
  refine lc_W (vx_runSW (As := [.ref (a 0), .int (xs (5 * k + 1)), .int (xs (5 * k + 2))]) (rest := []) ⟨hx, hb, hml, hown, hts⟩ (c_L_ramp l hst G cI cZ cJ a q_g _ sa X o (xs (5 * k + 1)) (xs (5 * k + 2)) hn9) (vx_cwSW 3 hts gL_law_L_ramp rfl rfl rfl (by decide +kernel) ⟨Nat.le_of_ble_eq_true rfl, Nat.le_of_ble_eq_true rfl⟩) ⟨wr_blind, wr_pre hPc hDc hK hN hE hZ hFc hC⟩ rfl rfl hl.1 rfl (lv_room (Nat.le_of_ble_eq_true rfl)) dL_law_249 ⟨by show _ ≤ 1067; omega, by show _ ≤ 18165; omega⟩) hS hA hP hD (fun t_g u_g H locs ht_g hu_g hP hD hS => ?_)
  refine lv_istore (lv' := [(5, .int t_g), (0, .ref b), (1, .ref (a 0)), (2, .ref (bb 0)), (3, .ref q_g), (4, .int (nI (5 * k)))]) hx hb dL_law_252 hl (by decide) rfl (fun ls hl => ?_)
  refine lv_aload_n hx hb dL_law_254 rfl (lv_at hl 3 rfl) ?_
  refine lw_rd hx hb hX hbl hS (lv_at hl 1 rfl) (lv_at hl 5 rfl) (j := 1) (by decide) (by omega) hL dL_law_255 dL_law_256 dL_law_258 dL_law_259 dL_law_260 ?_
  refine lw_rd hx hb hX hbl hS (lv_at hl 1 rfl) (lv_at hl 5 rfl) (j := 2) (by decide) (by omega) hL dL_law_261 dL_law_262 dL_law_264 dL_law_265 dL_law_266 ?_
  have hPm := hP.sub (ws' := wM cI bb M) [12, 13, 14, 15, 16, 17, 18, 19, 20, 21, 22, 23, 24] rfl
  have hDm := hD.sub (ws' := wM cI bb M) [12, 13, 14, 15, 16, 17, 18, 19, 20, 21, 22, 23, 24] (by decide) rfl
  refine lc_Mv (va_runV (As := [.int (xs (5 * k + 1)), .int (xs (5 * k + 2))]) (rest := []) ⟨hx, hb, hml, hown, hts⟩ (c_X3_ramp l G cI cZ cJ bb _ M (xs (5 * k + 1)) (xs (5 * k + 2)) h.1) (cwV 2 hts gL_law_X3_ramp rfl rfl rfl (by decide +kernel) ⟨Nat.le_of_ble_eq_true rfl, Nat.le_of_ble_eq_true rfl⟩) ⟨rw_blind, va_recv hK hPm (ci := 3) (q0 := 0) rfl rfl, rw_pre hPm hDm hK hN⟩ rfl rfl hl.1 rfl (lv_room (Nat.le_of_ble_eq_true rfl)) dL_law_267 ⟨by show _ ≤ 1067; omega, by show _ ≤ 18165; omega⟩) hS hA hP hD (fun N_g H locs hN_g hP hD hS => ?_)
  obtain ⟨e1, e2⟩ := rel_ramp hk9 h (xs (5 * k + 1)) (xs (5 * k + 2))
  have e2 := rel_mono (Nat.le_succ k) e2
  have hT : m_th N_g = t_g := by rw [← hN_g, ← ht_g]; exact e1
  have hR : rel (k + 1) u_g.1 N_g := by rw [ws_fst hu_g, ← hN_g]; exact e2
  refine lw_th hx hb hml hown hts hK hN hS hP hl.1 (lv_at hl 3 rfl) (by omega) (by omega) dL_law_270 dL_law_271 (fun H locs hP hS => ?_)
  refine lw_tv hx hb (lv_at hl 0 rfl) hT dL_law_274 dL_law_276 ?_
  refine lv_goto (tgt := 883) hx hb dL_law_281 (by decide) ?_
  refine W.widen (k := 25 + (k + 1)) (n := 9865 + 6 * (k + 1)) (by omega) (by omega) ?_
  exact kk u_g N_g _ _ _ hR hP hD hS (lv_sub hl [1, 2, 3, 4, 5] rfl)

set_option maxHeartbeats 4000000 in
set_option maxRecDepth 100000 in
/-- the law's case 2 -/
theorem cs_2 {p : Program} {l : Launch} {e : Env} {s : State} {m : MethodId} {below : List Frame} {meth : Method} {c : Code} {G : va_G} {cI cZ cJ : ClassId} {a bb : Nat → Nat} {q_g b L : Nat} {xs : Nat → Int32} {sa : Nat → Nat} {k : Nat} {X : XS} {o : Nat → Int64} {M : MS} {H : Heap} {locs : List Loc} {ls : Array Slot} {Q : State → Prop} (C : lw_Cx p l s m c b L xs G cI cZ cJ sa) (hk : 5 * k + 5 ≤ L) (hL : L ≤ 2560) (h : rel k X M) (hP : va_P G vwCl (wA cI cZ cJ a q_g bb (X, o) M) H) (hD : va_D (lw_A s) (wA cI cZ cJ a q_g bb (X, o) M)) (hS : va_S (lw_A s) s.heap H locs) (hl : lv_has ls 7 [(0, .ref b), (1, .ref (a 0)), (2, .ref (bb 0)), (3, .ref q_g), (4, .int (nI (5 * k)))]) (kk : ∀ (u : WS) (N : MS) (H : Heap) (locs : List Loc) (ls : Array Slot), rel (k + 1) u.1 N → va_P G vwCl (wA cI cZ cJ a q_g bb u N) H → va_D (lw_A s) (wA cI cZ cJ a q_g bb u N) → va_S (lw_A s) s.heap H locs → lv_has ls 7 [(0, .ref b), (1, .ref (a 0)), (2, .ref (bb 0)), (3, .ref q_g), (4, .int (nI (5 * k)))] → W p l e room_1 s m #[Value.ref b] below meth c H locs (25 + (k + 1)) (9865 + 6 * (k + 1)) Q (F0 m 883 ls [])) : W p l e room_1 s m #[Value.ref b] below meth c H locs (25 + k) (9865 + 6 * k) Q (F0 m 284 ls []) := by
  obtain ⟨hx, hb, hml, hown, hts, hX, hbl, hst, hK, hN, hE, hZ0, hC⟩ := C
  have hA : ∀ q, s.heap.size ≤ q → lw_A s q := fun _ h9 => h9
  have hk9 : k ≤ 1000000 := by omega
  have hn9 : y_n (x_Y X) ≤ 9 := by rw [h.2.2.1.1]; exact h.1.1
  refine lv_aload_n hx hb dL_law_284 rfl (lv_at hl 1 rfl) ?_
  refine lw_rd hx hb hX hbl hS (lv_at hl 0 rfl) (lv_at hl 4 rfl) (j := 1) (by decide) (by omega) hL dL_law_285 dL_law_286 dL_law_288 dL_law_289 dL_law_290 ?_
  refine lw_rd hx hb hX hbl hS (lv_at hl 0 rfl) (lv_at hl 4 rfl) (j := 2) (by decide) (by omega) hL dL_law_291 dL_law_292 dL_law_294 dL_law_295 dL_law_296 ?_
  have hZ : ex_Z (lw_A s) s H := hZ0.kept hS.2.1
  have hPc := hP.sub (ws' := wW cI cZ cJ a q_g (X, o)) [0, 1, 2, 3, 4, 5, 6, 7, 8, 9, 10, 11] rfl
  have hDc := hD.sub (ws' := wW cI cZ cJ a q_g (X, o)) [0, 1, 2, 3, 4, 5, 6, 7, 8, 9, 10, 11] (by decide) rfl
  have hFc := va_free (wc := wW cI cZ cJ a q_g (X, o)) hD hS hA [0, 1, 2, 3, 4, 5, 6, 7, 8, 9, 10, 11] rfl
  refine lc_W (vx_runSW (As := [.ref (a 0), .int (xs (5 * k + 1)), .int (xs (5 * k + 2))]) (rest := []) ⟨hx, hb, hml, hown, hts⟩ (c_L_drive l hst G cI cZ cJ a q_g _ sa X o (xs (5 * k + 1)) (xs (5 * k + 2)) hn9) (vx_cwSW 3 hts gL_law_L_drive rfl rfl rfl (by decide +kernel) ⟨Nat.le_of_ble_eq_true rfl, Nat.le_of_ble_eq_true rfl⟩) ⟨wr_blind, wr_pre hPc hDc hK hN hE hZ hFc hC⟩ rfl rfl hl.1 rfl (lv_room (Nat.le_of_ble_eq_true rfl)) dL_law_297 ⟨by show _ ≤ 1067; omega, by show _ ≤ 18165; omega⟩) hS hA hP hD (fun t_g u_g H locs ht_g hu_g hP hD hS => ?_)
  refine lv_istore (lv' := [(5, .int t_g), (0, .ref b), (1, .ref (a 0)), (2, .ref (bb 0)), (3, .ref q_g), (4, .int (nI (5 * k)))]) hx hb dL_law_300 hl (by decide) rfl (fun ls hl => ?_)
  refine lv_aload_n hx hb dL_law_302 rfl (lv_at hl 3 rfl) ?_
  refine lw_rd hx hb hX hbl hS (lv_at hl 1 rfl) (lv_at hl 5 rfl) (j := 1) (by decide) (by omega) hL dL_law_303 dL_law_304 dL_law_306 dL_law_307 dL_law_308 ?_
  refine lw_rd hx hb hX hbl hS (lv_at hl 1 rfl) (lv_at hl 5 rfl) (j := 2) (by decide) (by omega) hL dL_law_309 dL_law_310 dL_law_312 dL_law_313 dL_law_314 ?_
  have hPm := hP.sub (ws' := wM cI bb M) [12, 13, 14, 15, 16, 17, 18, 19, 20, 21, 22, 23, 24] rfl
  have hDm := hD.sub (ws' := wM cI bb M) [12, 13, 14, 15, 16, 17, 18, 19, 20, 21, 22, 23, 24] (by decide) rfl
  refine lc_Mv (va_runV (As := [.int (xs (5 * k + 1)), .int (xs (5 * k + 2))]) (rest := []) ⟨hx, hb, hml, hown, hts⟩ (c_X3_drive l G cI cZ cJ bb _ M (xs (5 * k + 1)) (xs (5 * k + 2)) h.1) (cwV 2 hts gL_law_X3_drive rfl rfl rfl (by decide +kernel) ⟨Nat.le_of_ble_eq_true rfl, Nat.le_of_ble_eq_true rfl⟩) ⟨rw_blind, va_recv hK hPm (ci := 3) (q0 := 0) rfl rfl, rw_pre hPm hDm hK hN⟩ rfl rfl hl.1 rfl (lv_room (Nat.le_of_ble_eq_true rfl)) dL_law_315 ⟨by show _ ≤ 1067; omega, by show _ ≤ 18165; omega⟩) hS hA hP hD (fun N_g H locs hN_g hP hD hS => ?_)
  obtain ⟨e1, e2⟩ := rel_drive hk9 h (xs (5 * k + 1)) (xs (5 * k + 2))
  have hT : m_th N_g = t_g := by rw [← hN_g, ← ht_g]; exact e1
  have hR : rel (k + 1) u_g.1 N_g := by rw [ws_fst hu_g, ← hN_g]; exact e2
  refine lw_th hx hb hml hown hts hK hN hS hP hl.1 (lv_at hl 3 rfl) (by omega) (by omega) dL_law_318 dL_law_319 (fun H locs hP hS => ?_)
  refine lw_tv hx hb (lv_at hl 0 rfl) hT dL_law_322 dL_law_324 ?_
  refine lv_goto (tgt := 883) hx hb dL_law_329 (by decide) ?_
  refine W.widen (k := 25 + (k + 1)) (n := 9865 + 6 * (k + 1)) (by omega) (by omega) ?_
  exact kk u_g N_g _ _ _ hR hP hD hS (lv_sub hl [1, 2, 3, 4, 5] rfl)

set_option maxHeartbeats 4000000 in
set_option maxRecDepth 100000 in
/-- the law's case 3 -/
theorem cs_3 {p : Program} {l : Launch} {e : Env} {s : State} {m : MethodId} {below : List Frame} {meth : Method} {c : Code} {G : va_G} {cI cZ cJ : ClassId} {a bb : Nat → Nat} {q_g b L : Nat} {xs : Nat → Int32} {sa : Nat → Nat} {k : Nat} {X : XS} {o : Nat → Int64} {M : MS} {H : Heap} {locs : List Loc} {ls : Array Slot} {Q : State → Prop} (C : lw_Cx p l s m c b L xs G cI cZ cJ sa) (hk : 5 * k + 5 ≤ L) (hL : L ≤ 2560) (h : rel k X M) (hP : va_P G vwCl (wA cI cZ cJ a q_g bb (X, o) M) H) (hD : va_D (lw_A s) (wA cI cZ cJ a q_g bb (X, o) M)) (hS : va_S (lw_A s) s.heap H locs) (hl : lv_has ls 7 [(0, .ref b), (1, .ref (a 0)), (2, .ref (bb 0)), (3, .ref q_g), (4, .int (nI (5 * k)))]) (kk : ∀ (u : WS) (N : MS) (H : Heap) (locs : List Loc) (ls : Array Slot), rel (k + 1) u.1 N → va_P G vwCl (wA cI cZ cJ a q_g bb u N) H → va_D (lw_A s) (wA cI cZ cJ a q_g bb u N) → va_S (lw_A s) s.heap H locs → lv_has ls 7 [(0, .ref b), (1, .ref (a 0)), (2, .ref (bb 0)), (3, .ref q_g), (4, .int (nI (5 * k)))] → W p l e room_1 s m #[Value.ref b] below meth c H locs (25 + (k + 1)) (9865 + 6 * (k + 1)) Q (F0 m 883 ls [])) : W p l e room_1 s m #[Value.ref b] below meth c H locs (25 + k) (9865 + 6 * k) Q (F0 m 332 ls []) := by
  obtain ⟨hx, hb, hml, hown, hts, hX, hbl, hst, hK, hN, hE, hZ0, hC⟩ := C
  have hA : ∀ q, s.heap.size ≤ q → lw_A s q := fun _ h9 => h9
  have hk9 : k ≤ 1000000 := by omega
  have hn9 : y_n (x_Y X) ≤ 9 := by rw [h.2.2.1.1]; exact h.1.1
  obtain ⟨z_g, hz⟩ : ∃ z : Int32, (if xs (5 * k + 2) = 0 then (0 : Int32) else 1) = z := ⟨_, rfl⟩
  refine lv_aload_n hx hb dL_law_332 rfl (lv_at hl 1 rfl) ?_
  refine lw_rd hx hb hX hbl hS (lv_at hl 0 rfl) (lv_at hl 4 rfl) (j := 1) (by decide) (by omega) hL dL_law_333 dL_law_334 dL_law_336 dL_law_337 dL_law_338 ?_
  refine lw_rd hx hb hX hbl hS (lv_at hl 0 rfl) (lv_at hl 4 rfl) (j := 2) (by decide) (by omega) hL dL_law_339 dL_law_340 dL_law_342 dL_law_343 dL_law_344 ?_
  refine lw_bz hx hb hz dL_law_345 dL_law_348 dL_law_349 dL_law_352 ?_
  refine lv_aload_n hx hb dL_law_353 rfl (lv_at hl 3 rfl) ?_
  have hZ : ex_Z (lw_A s) s H := hZ0.kept hS.2.1
  have hPc := hP.sub (ws' := wW cI cZ cJ a q_g (X, o)) [0, 1, 2, 3, 4, 5, 6, 7, 8, 9, 10, 11] rfl
  have hDc := hD.sub (ws' := wW cI cZ cJ a q_g (X, o)) [0, 1, 2, 3, 4, 5, 6, 7, 8, 9, 10, 11] (by decide) rfl
  have hFc := va_free (wc := wW cI cZ cJ a q_g (X, o)) hD hS hA [0, 1, 2, 3, 4, 5, 6, 7, 8, 9, 10, 11] rfl
  refine lc_W (vx_runSW (As := [.ref (a 0), .int (xs (5 * k + 1)), .int (z_g), .ref q_g]) (rest := []) ⟨hx, hb, hml, hown, hts⟩ (c_L_driveOn l hst G cI cZ cJ a q_g _ sa X o (xs (5 * k + 1)) (z_g) hn9) (vx_cwSW 4 hts gL_law_L_driveOn rfl rfl rfl (by decide +kernel) ⟨Nat.le_of_ble_eq_true rfl, Nat.le_of_ble_eq_true rfl⟩) ⟨wr_blind, wr_pre hPc hDc hK hN hE hZ hFc hC⟩ rfl rfl hl.1 rfl (lv_room (Nat.le_of_ble_eq_true rfl)) dL_law_354 ⟨by show _ ≤ 1067; omega, by show _ ≤ 18165; omega⟩) hS hA hP hD (fun t_g u_g H locs ht_g hu_g hP hD hS => ?_)
  refine lv_istore (lv' := [(5, .int t_g), (0, .ref b), (1, .ref (a 0)), (2, .ref (bb 0)), (3, .ref q_g), (4, .int (nI (5 * k)))]) hx hb dL_law_357 hl (by decide) rfl (fun ls hl => ?_)
  refine lv_aload_n hx hb dL_law_359 rfl (lv_at hl 3 rfl) ?_
  refine lw_rd hx hb hX hbl hS (lv_at hl 1 rfl) (lv_at hl 5 rfl) (j := 1) (by decide) (by omega) hL dL_law_360 dL_law_361 dL_law_363 dL_law_364 dL_law_365 ?_
  refine lw_rd hx hb hX hbl hS (lv_at hl 1 rfl) (lv_at hl 5 rfl) (j := 2) (by decide) (by omega) hL dL_law_366 dL_law_367 dL_law_369 dL_law_370 dL_law_371 ?_
  refine lw_bz hx hb hz dL_law_372 dL_law_375 dL_law_376 dL_law_379 ?_
  have hPm := hP.sub (ws' := wM cI bb M) [12, 13, 14, 15, 16, 17, 18, 19, 20, 21, 22, 23, 24] rfl
  have hDm := hD.sub (ws' := wM cI bb M) [12, 13, 14, 15, 16, 17, 18, 19, 20, 21, 22, 23, 24] (by decide) rfl
  refine lc_Mi (va_runV (As := [.int (xs (5 * k + 1)), .int (z_g)]) (rest := []) ⟨hx, hb, hml, hown, hts⟩ (c_X3_driveOn l G cI cZ cJ bb _ M (xs (5 * k + 1)) (z_g) h.1) (cwV 2 hts gL_law_X3_driveOn rfl rfl rfl (by decide +kernel) ⟨Nat.le_of_ble_eq_true rfl, Nat.le_of_ble_eq_true rfl⟩) ⟨rw_blind, va_recv hK hPm (ci := 3) (q0 := 0) rfl rfl, rw_pre hPm hDm hK hN⟩ rfl rfl hl.1 rfl (lv_room (Nat.le_of_ble_eq_true rfl)) dL_law_380 ⟨by show _ ≤ 1067; omega, by show _ ≤ 18165; omega⟩) hS hA hP hD (fun r_g N_g H locs hr_g hN_g hP hD hS => ?_)
  refine lv_istore (lv' := [(6, .int r_g), (5, .int t_g), (0, .ref b), (1, .ref (a 0)), (2, .ref (bb 0)), (3, .ref q_g), (4, .int (nI (5 * k)))]) hx hb dL_law_383 hl (by decide) rfl (fun ls hl => ?_)
  obtain ⟨e1, e2, e3⟩ := rel_dron hk9 h (xs (5 * k + 1)) (z_g)
  have e4 : has_th X (xs (5 * k + 1)) ≤ 3 := th_has _ _
  have hT : m_th N_g = t_g := by rw [← hN_g, ← ht_g]; exact e1
  have hR : rel (k + 1) u_g.1 N_g := by rw [ws_fst hu_g, ← hN_g]; exact e2
  have hV : t_g = 0 → u_g.2 0 = r_g.toInt64 := fun w_g => by
    have w9 := nI_z3 (e4) (ht_g.trans w_g)
    rw [ws_out hu_g w9, ← hr_g, e3, if_pos w9]
    exact pk_uLs
  refine lw_th hx hb hml hown hts hK hN hS hP hl.1 (lv_at hl 4 rfl) (by omega) (by omega) dL_law_385 dL_law_386 (fun H locs hP hS => ?_)
  refine lw_tv hx hb (lv_at hl 1 rfl) hT dL_law_389 dL_law_391 ?_
  refine lw_to hx hb hK hP (lv_at hl 5 rfl) (lv_at hl 1 rfl) (lv_at hl 0 rfl) hV dL_law_396 dL_law_398 dL_law_401 dL_law_402 dL_law_403 dL_law_404 dL_law_406 dL_law_407 dL_law_408 dL_law_413 (by decide) ?_
  refine W.widen (k := 25 + (k + 1)) (n := 9865 + 6 * (k + 1)) (by omega) (by omega) ?_
  exact kk u_g N_g _ _ _ hR hP hD hS (lv_sub hl [2, 3, 4, 5, 6] rfl)
