/-! THE LAW: its start -/
abbrev X_0 : XS := ((0, 0, 0, 0, 0), (fun _ => 0, fun _ => 0, fun _ => 0, fun _ => 0, 0, 0, 0, 0, 0), (fun _ => 0, fun _ => 0, fun _ => 0, fun _ => 0, 0, 0))
abbrev M_0 : MS := (fun _ => 0, fun _ => 0, fun _ => 0, fun _ => 0, fun _ => 0, 0, -1, 0, 0, 0, fun _ => 0, fun _ => 0, fun _ => 0, fun _ => 0, fun _ => 0, fun _ => 0, fun _ => 0, 0, 0)
theorem rel_0 : rel 0 X_0 M_0 := by
  refine ⟨⟨Nat.zero_le _, fun v hv => absurd hv (Nat.not_lt_zero _), fun c _ => Nat.zero_le _⟩, fun i _ => ⟨Nat.zero_le _, (by decide : 0 < 1000), fun h => ?_⟩, ⟨rfl, Nat.zero_le _, fun v hv => absurd hv (Nat.not_lt_zero _)⟩, fun c hc => ?_, rfl, rfl, rfl, rfl, ⟨0, Nat.le_refl _, rfl⟩, fun u w c hu => absurd hu (Nat.not_lt_zero _), fun u w c hu => absurd hu (Nat.not_lt_zero _), fun u hu => absurd hu (Nat.not_lt_zero _), fun u hu => absurd hu (Nat.not_lt_zero _), fun _ u hu => absurd hu (Nat.not_lt_zero _), Or.inl rfl⟩
  · rcases h with h | h
    · exact absurd h (by decide : ¬ (0 : Int32) < 0)
    · exact absurd h (Nat.lt_irrefl 0)
  · show gb 0 c = true ↔ nI c = -1
    rw [gb_0]
    constructor
    · intro z; exact absurd z (by decide)
    · intro z
      have z2 := congrArg Int32.toInt z
      rw [nI_toInt (by omega), show ((-1 : Int32)).toInt = -1 from rfl] at z2
      omega
theorem nx_inT : ∀ w ∈ nx_ws, w ∈ lw_tbl := by decide +kernel
theorem ex_inT : ∀ w ∈ ex_bad, w ∈ lw_tbl := by decide +kernel
def ex_W1 : List Cond := ex_strs.map (fun q => Cond.exactly (.string RX2 q.1) "java/lang/String")
def ex_W2 : List Cond := ex_strs.map (fun q => Cond.stringRef RX2 q.1 q.2)
set_option maxRecDepth 20000 in
theorem ex_W1_in : ∀ w ∈ ex_W1, w ∈ flatC (Jvm.Cond.and given_1 narrow_1) := by decide +kernel
set_option maxRecDepth 20000 in
theorem ex_W2_in : ∀ w ∈ ex_W2, w ∈ lw_tbl := by decide +kernel
theorem st_St {s : State} {args : Array Value} (h1 : ∀ w ∈ flatC (Jvm.Cond.and given_1 narrow_1), w.before args s = true) (h2 : ∀ w ∈ lw_tbl, w.before args s = true) : ∃ sa : Nat → Nat, ex_St sa s := by
  have h : ∀ i : Nat, ∃ a : Nat, ∀ tx : String, (i, tx) ∈ ex_strs → vk_R RX2 i tx a s := by
    intro i
    by_cases hi : ∃ tx : String, (i, tx) ∈ ex_strs
    · obtain ⟨tx, htx⟩ := hi
      have hw := h1 (Cond.exactly (.string RX2 i) "java/lang/String") (ex_W1_in _ (List.mem_map.mpr ⟨(i, tx), htx, rfl⟩))
      obtain ⟨a, c_g, cell, k_g, q1, -⟩ := Cond.exactly_spec (args := args) (first := s) (o := none) (s := s) (idx := []) (t := .string RX2 i) (cls := "java/lang/String") hw
      exact ⟨a, fun tx2 h3 => vk_R.of (h2 (Cond.stringRef RX2 i tx2) (ex_W2_in _ (List.mem_map.mpr ⟨(i, tx2), h3, rfl⟩))) q1⟩
    · exact ⟨0, fun tx htx => absurd ⟨tx, htx⟩ hi⟩
  obtain ⟨sa, hsa⟩ := Classical.axiomOfChoice h
  exact ⟨sa, fun q hq => hsa q.1 q.2 hq, fun w hw => va_Nw.of (ex_bad_tab w hw) (h2 w (ex_inT w hw))⟩
set_option maxRecDepth 20000 in
theorem st_Z {s : State} {args : Array Value} (h1 : ∀ w ∈ flatC (Jvm.Cond.and given_1 narrow_1), w.before args s = true) (h2 : ∀ w ∈ lw_tbl, w.before args s = true) : ex_Z (lw_A s) s s.heap :=
  ⟨vx_Zqof (h2 (.laysStatic Bundle.tN "UNASSIGNED_STACK" Bundle.steD) (by decide +kernel)) (h2 (.initialized Bundle.tN) (by decide +kernel)) (h1 (.isRef (.static Bundle.tN "UNASSIGNED_STACK" Bundle.steD)) (by decide +kernel)) (fun a h => Nat.not_le.mpr h),
   vx_Zqof (h2 (.laysStatic Bundle.tN "SUPPRESSED_SENTINEL" Bundle.listD) (by decide +kernel)) (h2 (.initialized Bundle.tN) (by decide +kernel)) (h1 (.isRef (.static Bundle.tN "SUPPRESSED_SENTINEL" Bundle.listD)) (by decide +kernel)) (fun a h => Nat.not_le.mpr h)⟩
set_option maxRecDepth 20000 in
theorem st_Nc {s : State} {args : Array Value} (h1 : ∀ w ∈ flatC (Jvm.Cond.and given_1 narrow_1), w.before args s = true) : ex_Nc s :=
  ⟨va_Nc.of (h1 (.not (.castable ex_S ex_A)) (by decide +kernel)), va_Nc.of (h1 (.not (.castable ex_A ex_I)) (by decide +kernel)), va_Nc.of (h1 (.not (.castable ex_S ex_I)) (by decide +kernel))⟩
set_option maxRecDepth 20000 in
theorem st_K {s : State} {args : Array Value} (h2 : ∀ w ∈ lw_tbl, w.before args s = true) : ∃ (G : va_G) (cI cZ cJ : ClassId), va_K G vwCl [(cI, .int), (cZ, .boolean), (cJ, .long)] s := by
  obtain ⟨cI, hI⟩ := ar_ex (ty := .int) (h2 (.arrayClass .int) (by decide +kernel)) (fun c h => h)
  obtain ⟨cZ, hZ⟩ := ar_ex (ty := .boolean) (h2 (.arrayClass .boolean) (by decide +kernel)) (fun c h => h)
  obtain ⟨cJ, hJ⟩ := ar_ex (ty := .long) (h2 (.arrayClass .long) (by decide +kernel)) (fun c h => h)
  obtain ⟨c0, i0, k0⟩ := u_known (C := RX0) (T := TX0) (N := 10) (n := 10) h2 inX0 (h2 (.instantiable RX0 10) (by decide +kernel))
  obtain ⟨c1, i1, k1⟩ := u_known (C := RX1) (T := TX1) (N := 6) (n := 6) h2 inX1 (h2 (.instantiable RX1 6) (by decide +kernel))
  obtain ⟨c2, i2, k2⟩ := u_known (C := RX2) (T := TX2) (N := 7) (n := 7) h2 inX2 (h2 (.instantiable RX2 7) (by decide +kernel))
  obtain ⟨c3, i3, k3⟩ := u_known (C := RX3) (T := TX3) (N := 19) (n := 19) h2 inX3 (h2 (.instantiable RX3 19) (by decide +kernel))
  refine ⟨(fun k => if k = 0 then c0 else if k = 1 then c1 else if k = 2 then c2 else c3, fun k => if k = 0 then i0 else if k = 1 then i1 else if k = 2 then i2 else i3), cI, cZ, cJ, fun k q hq => ?_, fun k q hq => ?_⟩
  · match k, hq with
    | 0, hq => cases hq; exact k0
    | 1, hq => cases hq; exact k1
    | 2, hq => cases hq; exact k2
    | 3, hq => cases hq; exact k3
    | k + 4, hq => simp [vwCl] at hq
  · match k, hq with
    | 0, hq => cases hq; exact hI
    | 1, hq => cases hq; exact hZ
    | 2, hq => cases hq; exact hJ
    | k + 3, hq => simp at hq
set_option maxHeartbeats 4000000 in
set_option maxRecDepth 100000 in
/-- THE LAW, from its entry -/
theorem whole_start {p : Program} {e : Env} {s : State} {m : MethodId} {below : List Frame} {meth : Method} {c : Code} (l : Launch) (hflags : l.flags = flags0) {b L : Nat} {xs : Nat → Int32} (hL : L ≤ 2560) (C0 : lw_At p s m meth c b L xs) : W p l e room_1 s m #[Value.ref b] below meth c s.heap [] 0 0 (lw_Z below #[Value.ref b] s) (entryFrame m ([Value.ref b] : List Value).toArray 7) := by
  obtain ⟨hx, hb, hr, hml, hown, hts0, hX, hbl, hlocks, hgv⟩ := C0
  have hs := flat_of_before _ hgv
  have hst : l.stackTraces = false := by
    unfold Launch.stackTraces
    rw [hflags]
    decide +kernel
  have hown : s.vm.findClass RL = some m.cls := hown
  have hb : c.code = cL_law := hb
  have hts : ∀ w ∈ wsL_law, w.before #[Value.ref b] s = true := fun w hw => hts0 w (wsL_law_in w hw)
  obtain ⟨sa, hE⟩ := st_St hs hts0
  obtain ⟨G, cI, cZ, cJ, hK⟩ := st_K hts0
  have hZ := st_Z hs hts0
  have hC := st_Nc hs
  have hN : nx_Ok s := fun w hw => va_Nw.of (nx_tab w hw) (hts0 w (nx_inT w hw))
  have C : lw_Cx p l s m c b L xs G cI cZ cJ sa := ⟨hx, hb, hml, hown, hts, hX, hbl, hst, hK, hN, hE, hZ, hC⟩
  have hA : ∀ q, s.heap.size ≤ q → lw_A s q := fun _ h9 => h9
  have hS : va_S (lw_A s) s.heap s.heap [] := va_S.rf
  have hP : va_P G vwCl [] s.heap := va_P0
  have hD : va_D (lw_A s) [] := ⟨fun i j p q h => by simp at h, fun k q h => by simp at h⟩
  have hl := lv_entry ([.ref b]) (n := 7) (Nat.le_of_ble_eq_true rfl)
  rw [lg_entry_eq]
  generalize (lg_sl ([.ref b]) ++ List.replicate (7 - (lg_sl ([.ref b])).length) Slot.unset).toArray = ls at hl ⊢
  have hl : lv_has ls 7 [(0, .ref b)] := hl
  refine va_new (ci := 2) (fs := [.null, .null, .int 0, .int 0, .int 0, .int 0, .int 0]) (C := RX2) (T := TX2) (N := 7) hx hb hts inlX2 tyX2 tyX2_ok hown (hts (.classLink RL 8 RX2) (by decide +kernel)) (hts (.instantiable RX2 7) (by decide +kernel)) (hts (.initialized RX2) (by decide +kernel)) hK hP hD hS hA rfl (by intro j hj; rcases (show j = 0 ∨ j = 1 ∨ j = 2 ∨ j = 3 ∨ j = 4 ∨ j = 5 ∨ j = 6 by omega) with rfl | rfl | rfl | rfl | rfl | rfl | rfl <;> rfl) (Nat.le_of_ble_eq_true rfl) (Nat.le_of_ble_eq_true rfl) dL_law_0 (fun q0_g H hP hD hS => ?_)
  have hP : va_P G vwCl [(q0_g, .inr (2, [.null, .null, .int 0, .int 0, .int 0, .int 0, .int 0]))] H := hP
  have hD : va_D (lw_A s) [(q0_g, .inr (2, [.null, .null, .int 0, .int 0, .int 0, .int 0, .int 0]))] := hD
  refine W.widen (k := 1) (n := 7) (Nat.le_of_ble_eq_true rfl) (Nat.le_of_ble_eq_true rfl) ?_
  refine lv_dup hx hb dL_law_3 rfl ?_
  refine cn_v (wr := []) (va_runI (As := []) (rest := [.ref q0_g]) ⟨hx, hb, hml, hown, hts⟩ (c_X2_init l G cI cZ cJ q0_g _) (cwI 0 hts gL_law_X2_init rfl rfl rfl (hts (.initialized RX2) (by decide +kernel)) (hts (.methodLink RL 48 yX2_init) (by decide +kernel)) (hts (.instanceMethod yX2_init) (by decide +kernel)) rfl (by decide +kernel) ⟨Nat.le_of_ble_eq_true rfl, Nat.le_of_ble_eq_true rfl⟩) ⟨rw_blind, rw_pre hP hD hK hN⟩ rfl rfl hl.1 rfl (lv_room (Nat.le_of_ble_eq_true rfl)) dL_law_4 ⟨Nat.le_of_ble_eq_true rfl, Nat.le_of_ble_eq_true rfl⟩) hS hA hP hD [0] [] rfl rfl (by decide) (by decide) (fun u H locs hP hD hS => ?_)
  obtain ⟨a, ha⟩ : ∃ a : Nat → Nat, a = fun i => [q0_g, u.2.2.2.2.2.1, u.2.2.2.2.2.2.1, u.2.2.2.2.2.2.2.1, u.2.2.2.2.2.2.2.2.1, u.2.2.2.2.2.2.2.2.2, u.1, u.2.1, u.2.2.1, u.2.2.2.1, u.2.2.2.2.1].getD i 0 := ⟨_, rfl⟩
  have hP : va_P G vwCl (wJ cI cZ cJ a (x_J X_0) (x_S X_0) (x_Y X_0)) H := by rw [ha]; exact hP
  have hD : va_D (lw_A s) (wJ cI cZ cJ a (x_J X_0) (x_S X_0) (x_Y X_0)) := by rw [ha]; exact hD
  have ha0 : a 0 = q0_g := by rw [ha]; rfl
  refine W.widen (k := 11) (n := 4507) (Nat.le_of_ble_eq_true rfl) (Nat.le_of_ble_eq_true rfl) ?_
  rw [← ha0]
  refine lv_astore_n (lv' := [(1, .ref (a 0)), (0, .ref b)]) hx hb dL_law_7 rfl hl (by decide) rfl (fun ls hl => ?_)
  refine va_new (ci := 3) (fs := [.null, .null, .null, .null, .null, .int 0, .int 0, .int 0, .int 0, .int 0, .null, .null, .null, .null, .null, .null, .null, .int 0, .int 0]) (C := RX3) (T := TX3) (N := 19) hx hb hts inlX3 tyX3 tyX3_ok hown (hts (.classLink RL 49 RX3) (by decide +kernel)) (hts (.instantiable RX3 19) (by decide +kernel)) (hts (.initialized RX3) (by decide +kernel)) hK hP hD hS hA rfl (by intro j hj; rcases (show j = 0 ∨ j = 1 ∨ j = 2 ∨ j = 3 ∨ j = 4 ∨ j = 5 ∨ j = 6 ∨ j = 7 ∨ j = 8 ∨ j = 9 ∨ j = 10 ∨ j = 11 ∨ j = 12 ∨ j = 13 ∨ j = 14 ∨ j = 15 ∨ j = 16 ∨ j = 17 ∨ j = 18 by omega) with rfl | rfl | rfl | rfl | rfl | rfl | rfl | rfl | rfl | rfl | rfl | rfl | rfl | rfl | rfl | rfl | rfl | rfl | rfl <;> rfl) (Nat.le_of_ble_eq_true rfl) (Nat.le_of_ble_eq_true rfl) dL_law_8 (fun q1_g H hP hD hS => ?_)
  refine W.widen (k := 12) (n := 4526) (Nat.le_of_ble_eq_true rfl) (Nat.le_of_ble_eq_true rfl) ?_
  refine lv_dup hx hb dL_law_11 rfl ?_
  have hPc := hP.sub (ws' := [(q1_g, .inr (3, [.null, .null, .null, .null, .null, .int 0, .int 0, .int 0, .int 0, .int 0, .null, .null, .null, .null, .null, .null, .null, .int 0, .int 0]))]) [11] rfl
  have hDc := hD.sub (ws' := [(q1_g, .inr (3, [.null, .null, .null, .null, .null, .int 0, .int 0, .int 0, .int 0, .int 0, .null, .null, .null, .null, .null, .null, .null, .int 0, .int 0]))]) [11] (by decide) rfl
  refine cn_v (wr := wJ cI cZ cJ a (x_J X_0) (x_S X_0) (x_Y X_0)) (va_runI (As := []) (rest := [.ref q1_g]) ⟨hx, hb, hml, hown, hts⟩ (c_X3_init l G cI cZ cJ q1_g _) (cwI 0 hts gL_law_X3_init rfl rfl rfl (hts (.initialized RX3) (by decide +kernel)) (hts (.methodLink RL 51 yX3_init) (by decide +kernel)) (hts (.instanceMethod yX3_init) (by decide +kernel)) rfl (by decide +kernel) ⟨Nat.le_of_ble_eq_true rfl, Nat.le_of_ble_eq_true rfl⟩) ⟨rw_blind, rw_pre hPc hDc hK hN⟩ rfl rfl hl.1 rfl (lv_room (Nat.le_of_ble_eq_true rfl)) dL_law_12 ⟨Nat.le_of_ble_eq_true rfl, Nat.le_of_ble_eq_true rfl⟩) hS hA hP hD [11] [0, 1, 2, 3, 4, 5, 6, 7, 8, 9, 10] rfl rfl (by decide) (by decide) (fun w H locs hP hD hS => ?_)
  obtain ⟨bb, hbb⟩ : ∃ bb : Nat → Nat, bb = fun i => [q1_g, w.1, w.2.1, w.2.2.1, w.2.2.2.1, w.2.2.2.2.1, w.2.2.2.2.2.1, w.2.2.2.2.2.2.1, w.2.2.2.2.2.2.2.1, w.2.2.2.2.2.2.2.2.1, w.2.2.2.2.2.2.2.2.2.1, w.2.2.2.2.2.2.2.2.2.2.1, w.2.2.2.2.2.2.2.2.2.2.2].getD i 0 := ⟨_, rfl⟩
  have hP : va_P G vwCl (wJ cI cZ cJ a (x_J X_0) (x_S X_0) (x_Y X_0) ++ wM cI bb M_0) H := by rw [hbb]; exact hP
  have hD : va_D (lw_A s) (wJ cI cZ cJ a (x_J X_0) (x_S X_0) (x_Y X_0) ++ wM cI bb M_0) := by rw [hbb]; exact hD
  have hb0 : bb 0 = q1_g := by rw [hbb]; rfl
  refine W.widen (k := 24) (n := 9864) (Nat.le_of_ble_eq_true rfl) (Nat.le_of_ble_eq_true rfl) ?_
  rw [← hb0]
  refine lv_astore_n (lv' := [(2, .ref (bb 0)), (1, .ref (a 0)), (0, .ref b)]) hx hb dL_law_15 rfl hl (by decide) rfl (fun ls hl => ?_)
  refine lv_iconst (v := 1) hx hb dL_law_16 (by decide) ?_
  refine nw_a (cA := cJ) (a0 := (1, .inr (.inl (fun _ => 0)))) (N' := 1) hx hb (atype := .long) (ty := .long) rfl (hts (.arrayClass .long) (by decide +kernel)) hK hP hD hS hA 2 rfl (fun x h9 => h9) (fun cA => nw_J cA _) nw_1.1 nw_1.2 nw_b1_long (Nat.le_of_ble_eq_true rfl) (Nat.le_of_ble_eq_true rfl) dL_law_17 (fun q_g H hP hD hS => ?_)
  refine W.widen (k := 25) (n := 9865) (Nat.le_of_ble_eq_true rfl) (Nat.le_of_ble_eq_true rfl) ?_
  have hP := hP.subm (ws' := wA cI cZ cJ a q_g bb (X_0, fun _ => 0) M_0) [0, 1, 2, 3, 4, 5, 6, 7, 8, 9, 10, 24, 11, 12, 13, 14, 15, 16, 17, 18, 19, 20, 21, 22, 23] rfl
  have hD := hD.sub (ws' := wA cI cZ cJ a q_g bb (X_0, fun _ => 0) M_0) [0, 1, 2, 3, 4, 5, 6, 7, 8, 9, 10, 24, 11, 12, 13, 14, 15, 16, 17, 18, 19, 20, 21, 22, 23] (by decide) rfl
  refine lv_astore_n (lv' := [(3, .ref q_g), (2, .ref (bb 0)), (1, .ref (a 0)), (0, .ref b)]) hx hb dL_law_19 rfl hl (by decide) rfl (fun ls hl => ?_)
  refine lv_iconst (v := nI (5 * 0)) hx hb dL_law_20 (by decide) ?_
  refine lv_istore (lv' := [(4, .int (nI (5 * 0))), (3, .ref q_g), (2, .ref (bb 0)), (1, .ref (a 0)), (0, .ref b)]) hx hb dL_law_21 hl (by decide) rfl (fun ls hl => ?_)
  exact law_loop C hr hlocks hL (L + 1) 0 (X_0, fun _ => 0) M_0 H locs ls (Nat.zero_le L) (by omega) rel_0 hP hD hS (lv_sub hl [4, 3, 2, 1, 0] rfl)
