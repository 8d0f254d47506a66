/-! THE LAW'S OWN METHODS: drawn, and what their rows need -/
theorem drw_u (x : Int32) : (x.toUInt32 >>> ((1 : Int32).toUInt32 &&& Int32.toUInt32 31)).toInt32 = nI (x.toBitVec.toNat / 2) := by
  apply Int32.toBitVec_inj.mp
  show (x.toUInt32 >>> ((1 : Int32).toUInt32 &&& Int32.toUInt32 31)).toBitVec = BitVec.ofNat 32 (x.toBitVec.toNat / 2)
  rw [UInt32.toBitVec_shiftRight]
  show (x.toBitVec >>> (((1 : Int32).toUInt32 &&& Int32.toUInt32 31).toBitVec % 32).toNat) = _
  rw [show (((1 : Int32).toUInt32 &&& Int32.toUInt32 31).toBitVec % 32).toNat = 1 by decide]
  apply BitVec.eq_of_toNat_eq
  have := x.toBitVec.isLt
  rw [BitVec.toNat_ushiftRight, BitVec.toNat_ofNat, Nat.shiftRight_eq_div_pow, Nat.mod_eq_of_lt (by omega)]
/-- what is drawn -/
def drw (L : Nat) (xs : Nat → Int32) (p c : Nat) : Nat := (if p < L then xs p else 62753 * nI p + 18457).toBitVec.toNat / 2 % c
theorem drw_lt {L : Nat} {xs : Nat → Int32} {p c : Nat} (hc : 0 < c) : drw L xs p c < c := Nat.mod_lt _ hc
def dr_Pc (b L : Nat) (xs : Nat → Int32) (sz : Nat) (av : List Value) : Array Value → State → Prop := va_Pc av (fun U => U.heap.size = sz ∧ va_X b L xs U U.heap ∧ b < U.heap.size)
theorem dr_blind {b L : Nat} {xs : Nat → Int32} {sz : Nat} {av : List Value} : FrameBlind (dr_Pc b L xs sz av) := fun a U g mk q => by
  obtain ⟨q0, q1, qX, qb⟩ := q
  exact ⟨q0, q1, va_X.moved (u := U) (U := U.calling g mk a) (Vm.Alike.refl U.vm) qX, qb⟩
theorem dr_pre {s : State} {b L : Nat} {xs : Nat → Int32} {H : Heap} {A : Nat → Prop} {locs : List Loc} {av : List Value} (hX : va_X b L xs s s.heap) (hbl : b < s.heap.size) (hbA : ¬ A b) (hS : va_S A s.heap H locs) : ∀ U : State, U.heap = H → s.WarmedH U.vm → dr_Pc b L xs H.size av av.toArray U := fun U hU hW =>
  ⟨rfl, by rw [hU], by rw [hU]; exact va_X.moved hW.alike (hX.kept (hS.2.1 b hbl hbA)), by rw [hU]; exact Nat.lt_of_lt_of_le hbl hS.1⟩
set_option maxHeartbeats 4000000 in
set_option maxRecDepth 100000 in
/-- drawn -/
theorem c_L_drawn (l : Launch) (b L sz : Nat) (xs : Nat → Int32) (p_g c_g : Nat) (hL : L ≤ 260) (hp : p_g < 1000) (hc0 : 0 < c_g) (hc : c_g < 1000) : Met l yL_drawn wsL_drawn ({ frames := 0, cells := 0, slots := 0, locals := 0 }) (dr_Pc b L xs sz [.ref b, .int (nI p_g), .int (nI c_g)]) (ro_Qi (nI (drw L xs p_g c_g)) sz) 0 0 (ro_A sz) := by
  refine Met.ofW (cc := cL_drawn) (maxL := 4) (ret := (some .int)) (by decide) rfl ?_
  intro p e s m args below meth c s₁ B hml hv
  obtain ⟨rfl, hsz, hX, hbl⟩ := hv
  have hx := B.exec
  have hb := B.bytes
  have hr := B.returns
  have hts := atoms_spec (ws := wsL_drawn) B.pre
  have hown : s.vm.findClass RL = some m.cls := findClass_of_methodNamed B.named
  subst hsz
  have hS : va_S (ro_A s.heap.size) s.heap s.heap [] := va_S.rf
  have hbA : ¬ (ro_A s.heap.size) b := Nat.not_le.mpr hbl
  have hl := lv_entry ([.ref b, .int (nI p_g), .int (nI c_g)]) (n := 4) (Nat.le_of_ble_eq_true rfl)
  rw [lg_entry_eq]
  generalize (lg_sl ([.ref b, .int (nI p_g), .int (nI c_g)]) ++ List.replicate (4 - (lg_sl ([.ref b, .int (nI p_g), .int (nI c_g)])).length) Slot.unset).toArray = ls at hl ⊢
  have hl : lv_has ls 4 [(0, .ref b), (1, .int (nI p_g)), (2, .int (nI c_g))] := hl
  have tail : ∀ x : Int32, x = (if p_g < L then xs p_g else 62753 * nI p_g + 18457) → W p l e (headSpec wsL_drawn ({ frames := 0, cells := 0, slots := 0, locals := 0 })).room s m ([.ref b, .int (nI p_g), .int (nI c_g)] : List Value).toArray below meth c s.heap [] 0 0 (MQ below (ro_Qi (nI (drw L xs p_g c_g)) s.heap.size) ([.ref b, .int (nI p_g), .int (nI c_g)] : List Value).toArray s 0 0 (ro_A s.heap.size)) (F0 m 20 ls [.int x]) := by
    intro x ex
    refine lv_istore_n (lv' := [(3, .int x), (0, .ref b), (1, .int (nI p_g)), (2, .int (nI c_g))]) hx hb dL_drawn_20 rfl hl (by decide) rfl (fun ls hl => ?_)
    refine lv_iload_n hx hb dL_drawn_21 rfl (lv_at hl 0 rfl) ?_
    refine lv_iconst (v := 1) hx hb dL_drawn_22 (by decide) ?_
    refine lv_iushr (v := ((x.toUInt32 >>> ((1 : Int32).toUInt32 &&& Int32.toUInt32 31)).toInt32)) hx hb dL_drawn_23 rfl ?_
    rw [drw_u x]
    refine lv_iload_n hx hb dL_drawn_24 rfl (lv_at hl 3 rfl) ?_
    refine lv_irem hx hb dL_drawn_25 (nI_ne0 hc0 (by omega)) ?_
    have h32 := x.toBitVec.isLt
    rw [pk_rem (a := x.toBitVec.toNat / 2) (d := c_g) (by omega) hc0 (by omega)]
    have ed : nI (x.toBitVec.toNat / 2 % c_g) = nI (drw L xs p_g c_g) := by rw [drw, ← ex]
    rw [ed]
    exact W.iret (v := nI (drw L xs p_g c_g)) hx hb hr (fun t ht hW => ⟨⟨nI (drw L xs p_g c_g), (), rfl, rfl, trivial⟩, hS.F ht⟩) hS.2.2 dL_drawn_26
  refine lv_iload_n hx hb dL_drawn_0 rfl (lv_at hl 1 rfl) ?_
  refine lv_aload_n hx hb dL_drawn_1 rfl (lv_at hl 0 rfl) ?_
  refine va_slen hx hb hX hbl hbA hS dL_drawn_2 ?_
  refine lv_icmp_ge (tgt := 12) hx hb dL_drawn_3 (by decide) (fun q => ?_) (fun q => ?_)
  · have hq : L ≤ p_g := (nI_leI (a := L) (b := p_g) (by omega) (by omega)).mp q
    refine lv_ldc (own := RL) (index := 7) (v := 62753) hx hb hown (hts (.constant RL 7 62753) (by decide +kernel)) dL_drawn_12 ?_
    refine lv_iload_n hx hb dL_drawn_14 rfl (lv_at hl 1 rfl) ?_
    refine lv_imul hx hb dL_drawn_15 ?_
    refine lv_sipush (v := 18457) hx hb dL_drawn_16 (by decide) ?_
    refine lv_iadd hx hb dL_drawn_19 ?_
    exact tail _ (by rw [if_neg (by omega)])
  · have hq : p_g < L := Nat.not_le.mp (fun z => q ((nI_leI (a := L) (b := p_g) (by omega) (by omega)).mpr z))
    refine lv_aload_n hx hb dL_drawn_6 rfl (lv_at hl 0 rfl) ?_
    refine lv_iload_n hx hb dL_drawn_7 rfl (lv_at hl 1 rfl) ?_
    refine va_sld hx hb hX hbl hbA hS (vp_in_nI (n := p_g) (by omega) (by omega)) dL_drawn_8 ?_
    rw [nI_clamp (by omega)]
    refine lv_goto (tgt := 20) hx hb dL_drawn_9 (by decide) ?_
    exact tail _ (by rw [if_pos hq])
theorem at_ok {r q : Nat} (hr : r < 6) (hq : q < 6) : at_th (nI r) (nI q) = 0 := by
  rw [at_th, if_pos]
  exact ⟨nI_pos (by omega), fun z => absurd ((nI_leI (a := 6) (by omega) (by omega)).mp z) (by omega), nI_pos (by omega), fun z => absurd ((nI_leI (a := 6) (by omega) (by omega)).mp z) (by omega)⟩
theorem add_k {q i bk q2 : Nat} {k : Int32} (h : k.toInt = (i : Int) - (bk : Int)) (hq : q < 1000) (hi : i < 1000) (hb : bk < 1000) (e : q2 + bk = q + i) : nI q + k = nI q2 := by
  apply Int32.toInt_inj.mp
  rw [i_add (nI_toInt (n := q) (by omega)) h (by omega) (by omega) (by omega) (by omega), nI_toInt (by omega)]
  omega
theorem neg_k {bk : Nat} (hb : bk < 1000) : (-(nI bk)).toInt = ((0 : Nat) : Int) - (bk : Int) := by
  have := neg_toInt (nI_toInt (n := bk) (by omega)) (by omega) (by omega)
  omega
theorem inc_k {i bk : Nat} {k : Int32} (h : k.toInt = (i : Int) - (bk : Int)) (hi : i < 1000) (hb : bk < 1000) : (k + 1).toInt = ((i + 1 : Nat) : Int) - (bk : Int) := by
  have := i_add h (show (1 : Int32).toInt = 1 from rfl) (by omega) (by omega) (by omega) (by omega)
  omega
theorem lt_k {i bk n : Nat} {k : Int32} (h : k.toInt = (i : Int) - (bk : Int)) (hn : n < 1000) : ¬ nI n ≤ k → i < bk + n := fun q => by
  rw [Int32.le_iff_toInt_le, h, nI_toInt (by omega)] at q
  omega
theorem k_neg {i bk : Nat} {k : Int32} (h : k.toInt = (i : Int) - (bk : Int)) : k < 0 ↔ i < bk := by
  rw [Int32.lt_iff_toInt_lt, h, show (0 : Int32).toInt = 0 from rfl]
  omega
theorem k_lt {i bk n : Nat} {k : Int32} (h : k.toInt = (i : Int) - (bk : Int)) (hn : n < 1000) : k < nI n ↔ i < bk + n := by
  rw [Int32.lt_iff_toInt_lt, h, nI_toInt (by omega)]
  omega
def ap9 (f t : Int32) : Int32 := if t ≤ f then f - t else t - f
theorem c_X2_fewestMovesZ (l : Launch) (G : va_G) (cI cZ cJ : ClassId) (a : Nat → Nat) (sz : Nat) (X Z : XS) (hn : y_n (x_Y X) ≤ 9) (hZ : x_srch X = Z) : Met l yX2_fewestMoves wsX2_fewestMoves ({ frames := 6, cells := 0, slots := 0, locals := 144 }) (rw_Pc G [(cI, .int), (cZ, .boolean), (cJ, .long)] (wJ cI cZ cJ a (x_J X) (x_S X) (x_Y X)) sz [.ref (a 0)]) (rw_Qi (S := XS) (s_sm (x_S Z)) Z (fun u : XS => wJ cI cZ cJ a (x_J u) (x_S u) (x_Y u)) G (wJ cI cZ cJ a (x_J X) (x_S X) (x_Y X)) sz) 0 0 (va_A (wJ cI cZ cJ a (x_J X) (x_S X) (x_Y X)) sz) := by
  subst hZ
  exact c_X2_fewestMoves l G cI cZ cJ a sz X hn
theorem c_X2_positionsZ (l : Launch) (G : va_G) (cI cZ cJ : ClassId) (a : Nat → Nat) (sz : Nat) (X Z : XS) (hn : y_n (x_Y X) ≤ 9) (hZ : x_srch X = Z) : Met l yX2_positions wsX2_positions ({ frames := 6, cells := 0, slots := 0, locals := 144 }) (rw_Pc G [(cI, .int), (cZ, .boolean), (cJ, .long)] (wJ cI cZ cJ a (x_J X) (x_S X) (x_Y X)) sz [.ref (a 0)]) (rw_Qi (S := XS) (s_fc (x_S Z)) Z (fun u : XS => wJ cI cZ cJ a (x_J u) (x_S u) (x_Y u)) G (wJ cI cZ cJ a (x_J X) (x_S X) (x_Y X)) sz) 0 0 (va_A (wJ cI cZ cJ a (x_J X) (x_S X) (x_Y X)) sz) := by
  subst hZ
  exact c_X2_positions l G cI cZ cJ a sz X hn
theorem c_X2_hintZ (l : Launch) (G : va_G) (cI cZ cJ : ClassId) (a : Nat → Nat) (sz : Nat) (X Z : XS) (hn : y_n (x_Y X) ≤ 9) (hZ : x_srch X = Z) : Met l yX2_hint wsX2_hint ({ frames := 6, cells := 0, slots := 0, locals := 144 }) (rw_Pc G [(cI, .int), (cZ, .boolean), (cJ, .long)] (wJ cI cZ cJ a (x_J X) (x_S X) (x_Y X)) sz [.ref (a 0)]) (rw_Qi (S := XS) (s_sf (x_S Z)) Z (fun u : XS => wJ cI cZ cJ a (x_J u) (x_S u) (x_Y u)) G (wJ cI cZ cJ a (x_J X) (x_S X) (x_Y X)) sz) 0 0 (va_A (wJ cI cZ cJ a (x_J X) (x_S X) (x_Y X)) sz) := by
  subst hZ
  exact c_X2_hint l G cI cZ cJ a sz X hn
