/-! THE LAW: its loop, and its start -/
set_option maxHeartbeats 4000000 in
set_option maxRecDepth 100000 in
theorem law_loop {p : Program} {l : Launch} {e : Env} {s : State} {m : MethodId} {below : List Frame} {meth : Method} {c : Code} {G : va_G} {cI cZ cJ : ClassId} {a bb : Nat → Nat} {q_g b L : Nat} {xs : Nat → Int32} {sa : Nat → Nat} (C : lw_Cx p l s m c b L xs G cI cZ cJ sa) (hr : meth.sig.returnType = ret) (hlocks : meth.locks = false) (hL : L ≤ 2560) :
    ∀ (n k : Nat) (u : WS) (M : MS) (H : Heap) (locs : List Loc) (ls : Array Slot), 5 * k ≤ L → L + 1 ≤ 5 * k + n → rel k u.1 M → va_P G vwCl (wA cI cZ cJ a q_g bb u M) H → va_D (lw_A s) (wA cI cZ cJ a q_g bb u M) → va_S (lw_A s) s.heap H locs → lv_has ls 7 [(0, .ref b), (1, .ref (a 0)), (2, .ref (bb 0)), (3, .ref q_g), (4, .int (nI (5 * k)))] → W p l e room_1 s m #[Value.ref b] below meth c H locs (25 + k) (9865 + 6 * k) (lw_Z below #[Value.ref b] s) (F0 m 23 ls []) := by
  intro n
  induction n with
  | zero =>
    intro k u M H locs ls h1 h2
    exact absurd h2 (by omega)
  | succ n ih =>
    intro k u M H locs ls hkL hn h hP hD hS hl
    obtain ⟨hx, hb, hml, hown, hts, hX, hbl, hst, hK, hN, hE, hZ0, hC⟩ := id C
    obtain ⟨X, o⟩ := u
    refine lv_iload hx hb dL_law_23 (lv_at hl 4 rfl) ?_
    refine lv_aload_n hx hb dL_law_25 rfl (lv_at hl 0 rfl) ?_
    refine va_slen hx hb hX hbl (Nat.not_le.mpr hbl) hS dL_law_26 ?_
    refine lv_iconst (v := 5) hx hb dL_law_27 (by decide) ?_
    refine lv_isub hx hb dL_law_28 ?_
    refine lv_icmp_gt (tgt := 889) hx hb dL_law_29 (by decide) (fun q => ?_) (fun q => ?_)
    · refine lv_iconst (v := 1) hx hb dL_law_889 (by decide) ?_
      refine va_forget (fun q hq => hS.2.2 q hq) ?_
      refine W.widen (k := 1067) (n := 18165) (by omega) (by omega) ?_
      exact lw_ret hx hb hr hlocks dL_law_890
    · have hk : 5 * k + 5 ≤ L := by
        rcases Nat.lt_or_ge L (5 * k + 5) with z | z
        · exact absurd ((lw_ge hL (by omega)).mpr z) q
        · exact z
      have kk : ∀ (u : WS) (N : MS) (H : Heap) (locs : List Loc) (ls : Array Slot), rel (k + 1) u.1 N → va_P G vwCl (wA cI cZ cJ a q_g bb u N) H → va_D (lw_A s) (wA cI cZ cJ a q_g bb u N) → va_S (lw_A s) s.heap H locs → lv_has ls 7 [(0, .ref b), (1, .ref (a 0)), (2, .ref (bb 0)), (3, .ref q_g), (4, .int (nI (5 * k)))] → W p l e room_1 s m #[Value.ref b] below meth c H locs (25 + (k + 1)) (9865 + 6 * (k + 1)) (lw_Z below #[Value.ref b] s) (F0 m 883 ls []) := by
        intro u N H locs ls h hP hD hS hl
        refine lv_iinc (v := nI (5 * (k + 1))) (lv' := [(4, .int (nI (5 * (k + 1)))), (0, .ref b), (1, .ref (a 0)), (2, .ref (bb 0)), (3, .ref q_g)]) hx hb dL_law_883 hl (k := 4) rfl (nI_add (5 * k) 5) (by decide) rfl (fun ls hl => ?_)
        refine lv_goto (tgt := 23) hx hb dL_law_886 (by decide) ?_
        exact ih (k + 1) u N H locs ls (by omega) (by omega) h hP hD hS (lv_sub hl [1, 2, 3, 4, 0] rfl)
      refine lv_aload_n hx hb dL_law_32 rfl (lv_at hl 0 rfl) ?_
      refine lv_iload hx hb dL_law_33 (lv_at hl 4 rfl) ?_
      refine va_sld hx hb hX hbl (Nat.not_le.mpr hbl) hS (vp_in_nI (n := 5 * k) (by omega) (by omega)) dL_law_35 ?_
      refine lv_bipush (v := 31) hx hb dL_law_36 (by decide) ?_
      refine lv_iand hx hb dL_law_38 ?_
      obtain ⟨j, hj, ej⟩ := pk_andE (xs (nI (5 * k)).toNatClampNeg) (m := 31) 5 (by decide)
      rw [ej]
      rcases (show j = 0 ∨ j = 1 ∨ j = 2 ∨ j = 3 ∨ j = 4 ∨ j = 5 ∨ j = 6 ∨ j = 7 ∨ j = 8 ∨ j = 9 ∨ j = 10 ∨ j = 11 ∨ j = 12 ∨ j = 13 ∨ j = 14 ∨ j = 15 ∨ j = 16 ∨ j = 17 ∨ j = 18 ∨ 18 < j by omega) with rfl | rfl | rfl | rfl | rfl | rfl | rfl | rfl | rfl | rfl | rfl | rfl | rfl | rfl | rfl | rfl | rfl | rfl | rfl | hj2
      · exact lv_tableIn (off := 89) (tgt := 128) hx hb dL_law_39 (by decide +kernel) (by decide +kernel) (by decide +kernel) (by decide) (cs_0 C hk hL h hP hD hS hl kk)
      · exact lv_tableIn (off := 197) (tgt := 236) hx hb dL_law_39 (by decide +kernel) (by decide +kernel) (by decide +kernel) (by decide) (cs_1 C hk hL h hP hD hS hl kk)
      · exact lv_tableIn (off := 245) (tgt := 284) hx hb dL_law_39 (by decide +kernel) (by decide +kernel) (by decide +kernel) (by decide) (cs_2 C hk hL h hP hD hS hl kk)
      · exact lv_tableIn (off := 293) (tgt := 332) hx hb dL_law_39 (by decide +kernel) (by decide +kernel) (by decide +kernel) (by decide) (cs_3 C hk hL h hP hD hS hl kk)
      · exact lv_tableIn (off := 377) (tgt := 416) hx hb dL_law_39 (by decide +kernel) (by decide +kernel) (by decide +kernel) (by decide) (cs_4 C hk hL h hP hD hS hl kk)
      · exact lv_tableIn (off := 388) (tgt := 427) hx hb dL_law_39 (by decide +kernel) (by decide +kernel) (by decide +kernel) (by decide) (cs_5 C hk hL h hP hD hS hl kk)
      · exact lv_tableIn (off := 401) (tgt := 440) hx hb dL_law_39 (by decide +kernel) (by decide +kernel) (by decide +kernel) (by decide) (cs_6 C hk hL h hP hD hS hl kk)
      · exact lv_tableIn (off := 457) (tgt := 496) hx hb dL_law_39 (by decide +kernel) (by decide +kernel) (by decide +kernel) (by decide) (cs_7 C hk hL h hP hD hS hl kk)
      · exact lv_tableIn (off := 513) (tgt := 552) hx hb dL_law_39 (by decide +kernel) (by decide +kernel) (by decide +kernel) (by decide) (cs_8 C hk hL h hP hD hS hl kk)
      · exact lv_tableIn (off := 581) (tgt := 620) hx hb dL_law_39 (by decide +kernel) (by decide +kernel) (by decide +kernel) (by decide) (cs_9 C hk hL h hP hD hS hl kk)
      · exact lv_tableIn (off := 665) (tgt := 704) hx hb dL_law_39 (by decide +kernel) (by decide +kernel) (by decide +kernel) (by decide) (cs_10 C hk hL h hP hD hS hl kk)
      · exact lv_tableIn (off := 678) (tgt := 717) hx hb dL_law_39 (by decide +kernel) (by decide +kernel) (by decide +kernel) (by decide) (cs_11 C hk hL h hP hD hS hl kk)
      · exact lv_tableIn (off := 691) (tgt := 730) hx hb dL_law_39 (by decide +kernel) (by decide +kernel) (by decide +kernel) (by decide) (cs_12 C hk hL h hP hD hS hl kk)
      · exact lv_tableIn (off := 704) (tgt := 743) hx hb dL_law_39 (by decide +kernel) (by decide +kernel) (by decide +kernel) (by decide) (cs_13 C hk hL h hP hD hS hl kk)
      · exact lv_tableIn (off := 717) (tgt := 756) hx hb dL_law_39 (by decide +kernel) (by decide +kernel) (by decide +kernel) (by decide) (cs_14 C hk hL h hP hD hS hl kk)
      · exact lv_tableIn (off := 730) (tgt := 769) hx hb dL_law_39 (by decide +kernel) (by decide +kernel) (by decide +kernel) (by decide) (cs_15 C hk hL h hP hD hS hl kk)
      · exact lv_tableIn (off := 743) (tgt := 782) hx hb dL_law_39 (by decide +kernel) (by decide +kernel) (by decide +kernel) (by decide) (cs_16 C hk hL h hP hD hS hl kk)
      · exact lv_tableIn (off := 756) (tgt := 795) hx hb dL_law_39 (by decide +kernel) (by decide +kernel) (by decide +kernel) (by decide) (cs_17 C hk hL h hP hD hS hl kk)
      · exact lv_tableIn (off := 769) (tgt := 808) hx hb dL_law_39 (by decide +kernel) (by decide +kernel) (by decide +kernel) (by decide) (cs_18 C hk hL h hP hD hS hl kk)
      · refine lv_tableOut (tgt := 883) hx hb dL_law_39 (Or.inr (by rw [nI_toInt (by omega)]; omega)) (by decide) ?_
        refine W.widen (k := 25 + (k + 1)) (n := 9865 + 6 * (k + 1)) (by omega) (by omega) ?_
        exact kk (X, o) M _ _ _ (rel_mono (Nat.le_succ k) h) hP hD hS hl
