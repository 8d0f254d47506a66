/-! PURE: the walk -/
theorem look_eqs {k : Nat} {X : XS} {M : MS} (h : rel k X M) : stt (m_look (m_wTh M 0)) M ∧ (∀ u, u < m_n M → m_pl (m_look (m_wTh M 0)) u = m_pl M u) ∧ m_pk (m_look (m_wTh M 0)) = m_pk M ∧ m_mo (m_look (m_wTh M 0)) = m_mo M ∧ m_dr (m_look (m_wTh M 0)) = m_dr M := by
  have h0 : rel k X (m_wTh M 0) := h
  obtain ⟨a1, a2, a3, a4, a5, -, -, -, -, a10, -, a12, -⟩ := h0
  obtain ⟨s1, s2, s3, s4, s5, e1, e2, e3, e4, e5, e6, e7, e8, e9⟩ := look_sim (S := x_S X) a3 a4 a1 a2 ⟨a12, a10⟩ a5
  exact ⟨⟨e1, e2, e3, e4, e5⟩, s3, e8, e6, e7⟩
/-- X stands, in the yard V, where f says, behind t moves and D cells -/
def st9 (k : Nat) (X : XS) (V : MS) (f : Nat → Nat) (t D : Nat) : Prop := ∃ M : MS, rel k X M ∧ stt M V ∧ (∀ u, u < m_n V → m_pl M u = f u) ∧ m_pk M = m_pk V ∧ m_mo M = nI t ∧ m_dr M = nI D
theorem st9_f {k : Nat} {X : XS} {V : MS} {f g : Nat → Nat} {t D : Nat} (h : st9 k X V f t D) (hg : ∀ u, u < m_n V → g u = f u) : st9 k X V g t D := by
  obtain ⟨M, h1, h2, h3, h4⟩ := h
  exact ⟨M, h1, h2, fun u hu => (h3 u hu).trans (hg u hu).symm, h4⟩
theorem st9_srch {k : Nat} {X : XS} {V : MS} {f : Nat → Nat} {t D : Nat} (h : st9 k X V f t D) : st9 k (x_srch X) V f t D := by
  obtain ⟨M, h1, h2, h3, h4, h5, h6⟩ := h
  obtain ⟨e1, e2, e3, e4, e5⟩ := look_eqs h1
  exact ⟨_, (rel_srch h1).1, stt_tr e1 h2, fun u hu => (e2 u (by rw [h2.1]; exact hu)).trans (h3 u hu), e3.trans h4, e4.trans h5, e5.trans h6⟩
theorem st9_n {k : Nat} {X : XS} {V : MS} {f : Nat → Nat} {t D : Nat} (h : st9 k X V f t D) : y_n (x_Y X) = m_n V ∧ y_n (x_Y X) ≤ 9 ∧ j_mc (x_J X) = nI t ∧ j_dc (x_J X) = nI D := by
  obtain ⟨M, h1, h2, h3, h4, h5, h6⟩ := h
  have hn := h1.2.2.1.1
  refine ⟨hn.trans h2.1, by rw [hn]; exact h1.1.1, h1.2.2.2.2.2.2.1.trans h5, h1.2.2.2.2.2.2.2.1.trans h6⟩
theorem st9_fit {k : Nat} {X : XS} {V : MS} {f : Nat → Nat} {t D : Nat} (h : st9 k X V f t D) : fit V f ∧ good V f := by
  obtain ⟨M, h1, h2, h3, h4, h5, h6⟩ := h
  refine ⟨fun v hv => ?_, good_stt (stt_sy h2) (fun u hu => (h3 u (by rw [← h2.1]; exact hu)).symm) ⟨h1.2.2.2.2.2.2.2.2.2.2.2.1, h1.2.2.2.2.2.2.2.2.2.1⟩⟩
  have := pl_fit h1.1 v (by rw [h2.1]; exact hv)
  rw [h3 v hv, h2.2.1] at this
  exact this
theorem st9_wh {k : Nat} {X : XS} {V : MS} {f : Nat → Nat} {t D : Nat} (h : st9 k X V f t D) {C A : Nat → Int32} (h0 : 0 < m_n V) (hs : m_sz V 0 = 2) (ha : m_ac V 0 = 1) (hl : m_li V 0 = 2) (hC : ∀ v, v < m_n V → C v = nI (m_sz V v)) (hA : ∀ v, v < m_n V → A v = nI (m_ac V v)) : whO X C A (m_rp V) := by
  obtain ⟨M, h1, ⟨s1, s2, s3, s4, s5⟩, -⟩ := h
  rw [← s1] at h0 hC hA
  rw [← s2] at hs hC
  rw [← s3] at ha hA
  rw [← s4] at hl
  rw [← s5]
  exact whO_of h1 h0 hs ha hl hC hA
theorem lgl_stt {W V : MS} {f g : Nat → Nat} {v k : Nat} {sg : Int32} (h : stt W V) (hv : v < m_n V) (hg : ∀ u, u < m_n V → g u = f u) (hl : lgl V f v sg k) : lgl W g v sg k := by
  unfold lgl
  rw [hg v hv, h.2.1]
  refine ⟨hl.1, hl.2.1, fun j hj => good_stt h (fun u hu => ?_) (hl.2.2 j hj)⟩
  by_cases q : u = v
  · subst q; rw [updN_s, updN_s]
  · rw [updN_n q, updN_n q, hg u hu]
theorem c_facts {sg : Int32} {j : Nat} (hsg : sg = 1 ∨ sg = -1) (h1 : 1 ≤ j) (h4 : j ≤ 4) : ¬ (sg * nI j < -4 ∨ 4 < sg * nI j ∨ sg * nI j = 0) ∧ iabs (sg * nI j) = nI j ∧ (if sg * nI j ≤ 0 then (0 : Int32) else 1) = m_fw sg ∧ (if 0 ≤ sg * nI j then sg * nI j else -(sg * nI j)) = nI j ∧ m_abs (sg * nI j) = nI j := by
  rcases hsg with rfl | rfl <;> rcases (show j = 1 ∨ j = 2 ∨ j = 3 ∨ j = 4 by omega) with rfl | rfl | rfl | rfl <;> decide
theorem x_srch_1 (p q mc dc : Int32) (L : SS) (Y : YS) : x_srch ((p, q, mc, dc, 1), L, Y) = ((p, q, mc, dc, 1), L, Y) := by
  rw [x_srch, if_neg (show ¬ (1 : Int32) = 0 by decide)]
theorem srch_idem (X : XS) : x_srch (x_srch X) = x_srch X := by
  by_cases q : j_is (x_J X) = 0
  · have e : x_srch X = ((j_pp (x_J X), j_po (x_J X), j_mc (x_J X), j_dc (x_J X), 1), s_look (x_Y X) (x_S X) (j_po (x_J X)), x_Y X) := by rw [x_srch, if_pos q]
    generalize s_look (x_Y X) (x_S X) (j_po (x_J X)) = L at e
    rw [e]
    exact x_srch_1 _ _ _ _ _ _
  · have e : x_srch X = X := by rw [x_srch, if_neg q]
    rw [e, e]
/-- a drive in the yard V -/
theorem st9_go {k : Nat} {X : XS} {V : MS} {f : Nat → Nat} {t D v j : Nat} {sg : Int32} (hk : k ≤ 1000000) (h : st9 k X V f t D) (hv : v < m_n V) (hsg : sg = 1 ∨ sg = -1) (h1j : 1 ≤ j) (hl : lgl V f v sg j) :
    drive_th X (nI v) (sg * nI j) = 0 ∧ st9 (k + 1) (x_move X (nI v) (sg * nI j)) V (updN f v (stp sg (f v) j)) (t + 1) (D + j) ∧ j ≤ 4 := by
  obtain ⟨M, h1, h2, h3, h4, h5, h6⟩ := h
  have hvM : v < m_n M := by rw [h2.1]; exact hv
  have h9 := h1.1.1
  obtain ⟨b1_, b2_, b3_, b4_, b5_, b6_⟩ := h1.1.2.1 v hvM
  have hg : good M (m_pl M) := ⟨h1.2.2.2.2.2.2.2.2.2.2.2.1, h1.2.2.2.2.2.2.2.2.2.1⟩
  have hlM : lgl M (m_pl M) v sg j := lgl_stt h2 hv h3 hl
  have hw := lgl_to b3_ b4_ b1_ (pl_fit h1.1) hvM (atf_lay0 M) hsg hlM
  obtain ⟨g1, g2⟩ := rel_go hk h1 hvM hsg h1j hw
  obtain ⟨c1, c2, c3, c4, c5⟩ := c_facts hsg h1j g2
  refine ⟨?_, ⟨_, g1, h2, fun u hu => ?_, h4, ?_, ?_⟩, g2⟩
  · unfold drive_th
    have hy : y_has (x_Y X) (nI v) := y_has_of h1.2.2.1 hvM
    rw [if_neg (not_not_intro hy), if_neg c1, c2, c3, rel_way h1 hvM, if_neg (not_not_intro ((nI_leI (by omega) (by have := m_wy_le7 (m_lay M) v (m_fw sg); omega)).mpr hw))]
  · have htg : m_tgt (m_lay M) v (sg * nI j) = stp sg (f v) j := by
      rw [m_tgt]
      show (nI (m_pl M v) + sg * nI j).toNatClampNeg = _
      have hst := hlM.2.1
      rw [stp_nI hsg hlM.1, nI_clamp (by omega), h3 v hv]
    show updN (m_pl M) v (m_tgt (m_lay M) v (sg * nI j)) u = updN f v (stp sg (f v) j) u
    rw [htg]
    by_cases z : u = v
    · subst z; rw [updN_s, updN_s]
    · rw [updN_n z, updN_n z, h3 u hu]
  · show m_mo M + 1 = nI (t + 1)
    rw [h5, nI_1]
  · show m_dr M + m_abs (sg * nI j) = nI (D + j)
    rw [h6, c5, nI_add]
/-- what the search says, as the reference's numbers -/
theorem st9_see {k : Nat} {X : XS} {V : MS} {f : Nat → Nat} {t D : Nat} (hk : st9 k X V f t D) : ∃ N : MS, m_ok N ∧ good N (m_pl N) ∧ stt N V ∧ (∀ u, u < m_n V → m_pl N u = f u) ∧ s_fc (x_S (x_srch X)) = nI (m_fm (m_look N)) ∧ s_sm (x_S (x_srch X)) = m_few (m_look N) ∧ s_sf (x_S (x_srch X)) = m_hnt (m_look N) ∧ sim (x_S (x_srch X)) (m_look N) := by
  obtain ⟨M, h1, h2, h3, h4, h5, h6⟩ := hk
  obtain ⟨r1, r2, r3, r4, r5, r6, r7, r8⟩ := rel_srch h1
  have h0 : rel k X (m_wTh M 0) := h1
  exact ⟨m_wTh M 0, h0.1, ⟨h0.2.2.2.2.2.2.2.2.2.2.2.1, h0.2.2.2.2.2.2.2.2.2.1⟩, h2, h3, r2.1, r5, r6, r2⟩
theorem fmv_lt {S : SS} {W : MS} (hs : sim S W) : ∀ d i, i < m_fm W → fmvL W d i < m_fm W
  | 0, i, hi => hi
  | d + 1, i, hi => by
    rw [fmvL]
    by_cases q : 0 < m_fr W i
    · rw [if_pos q]
      have h8 : m_fm W ≤ 800 := hs.2.2.1.1
      rcases Nat.eq_zero_or_pos i with w | w
      · subst w
        rw [(lnk_0 (sim_lnk hs hi)).1] at q
        exact absurd q (by decide)
      · obtain ⟨j, v, sg, k, z1, z2, z3, z4, z5, z6, z7, z8, -⟩ := lnk_up (sim_lnk hs hi) w
        rw [z8, nI_clamp (by omega)]
        exact fmv_lt hs d j (by omega)
    · rw [if_neg q]; exact hi
/-- the answers to one search, among themselves -/
theorem see_one {k : Nat} {X : XS} {V : MS} {f : Nat → Nat} {t D : Nat} (h : st9 k X V f t D) : (s_sm (x_S (x_srch X)) = 0 → pl (j_po (x_J (x_srch X))) 0 = 4 ∧ s_sf (x_S (x_srch X)) = -1) ∧ (0 < s_sm (x_S (x_srch X)) ↔ 0 ≤ s_sf (x_S (x_srch X))) := by
  obtain ⟨M, h1, h2, h3, h4, h5, h6⟩ := h
  obtain ⟨r1, r2, r3, r4, r5, r6, r7, r8⟩ := rel_srch h1
  have h0 : rel k X (m_wTh M 0) := h1
  obtain ⟨b1_, b2_, b3_, b4_, b5_⟩ := look_b h0.1 ⟨h0.2.2.2.2.2.2.2.2.2.2.2.1, h0.2.2.2.2.2.2.2.2.2.1⟩
  have hpo : j_po (x_J (x_srch X)) = j_po (x_J X) := (srch_same X h1.2.2.2.2.2.2.2.2.2.2.2.2.2.2).2.1
  rw [r5, r6, hpo]
  have hsv : sv (m_wTh M 0) (pnow (m_wTh M 0)) → pl (j_po (x_J X)) 0 = 4 := fun z => by
    have z1 : 0 < m_n M := z.1
    have z2 : m_pl M 0 = 4 := by
      have := pnow_dg h0.1 (show 0 < m_n (m_wTh M 0) from z1)
      exact this.symm.trans z.2
    rw [h1.2.2.2.2.1, show (0 : Int32) = nI 0 from rfl, pl_p8 h1.1.1 (fitm8 h1.1 (pl_fit h1.1)) z1, z2]; rfl
  generalize m_look (m_wTh M 0) = Z at *
  have h800 := b3_
  rcases b1_.2.2.2.2 with ⟨z1, z2⟩ | ⟨i, z1, z2, z3, z4⟩
  · unfold m_few m_hnt
    rw [z1, if_neg (show ¬ (0 : Int32) ≤ -1 by decide), if_pos (show (-1 : Int32) ≤ 0 by decide)]
    exact ⟨fun z => absurd z (by decide), by decide⟩
  · have hi8 : i < 800 := by omega
    have hst := r2.2.2.2.2.2.2 i hi8
    have hp : (0 : Int32) ≤ nI i := nI_pos' (by omega)
    unfold m_few m_hnt
    rw [z2, if_pos hp, nI_clamp (by omega)]
    rcases Nat.eq_zero_or_pos i with w | w
    · subst w
      rw [bZ_dp0 b1_ b2_, if_pos (by decide)]
      rw [b4_] at z3
      exact ⟨fun _ => ⟨hsv z3, rfl⟩, by decide⟩
    · have hd : 1 ≤ m_dp Z i := by
        rcases b1_.2.2.2.1 i z1 with ⟨q, -⟩ | ⟨j, -, -, q⟩ <;> omega
      have hfl := fmv_lt r2 i i z1
      have hby := (r2.2.2.2.2.2.2 (fmvL Z i i) (by omega)).2.1
      rw [if_neg (nI_nle w (by omega))]
      refine ⟨fun z => absurd z (nI_ne0 (by omega) (by omega)), ⟨fun _ => nI_pos' (by omega), fun _ => nI_lt (a := 0) (by omega) (by omega)⟩⟩
theorem bZ_dple {V Z : MS} (h : bZ V Z) : ∀ n i, i < n → i < m_fm Z → m_dp Z i ≤ i
  | 0, i, hn, _ => absurd hn (Nat.not_lt_zero _)
  | n + 1, i, hn, hi => by
    rcases h.2.2.2.1 i hi with ⟨z1, z2⟩ | ⟨j, z1, z2, z3⟩
    · omega
    · have := bZ_dple h n j (by omega) (by omega)
      omega
theorem pnow_is {N V : MS} {f : Nat → Nat} (h : stt N V) (hf : ∀ u, u < m_n V → m_pl N u = f u) : pnow N = ps (m_n V) f := by
  show ps (m_n N) (m_pl N) = _
  rw [h.1]
  exact ps_ext _ hf
/-- where everything stands alike, as many positions are found -/
theorem cnt_same {k k2 : Nat} {X X2 : XS} {V : MS} {f : Nat → Nat} {t D t2 D2 : Nat} (h : st9 k X V f t D) (g : st9 k2 X2 V f t2 D2) : s_fc (x_S (x_srch X2)) = s_fc (x_S (x_srch X)) := by
  obtain ⟨N, n1, n2, n3, n4, n5, -⟩ := st9_see h
  obtain ⟨O, o1, o2, o3, o4, o5, -⟩ := st9_see g
  have e : pnow O = pnow N := by rw [pnow_is n3 n4, pnow_is o3 o4]
  have l1 := (look_b n1 n2).2.2.1
  have l2 := (look_b o1 o2).2.2.1
  rw [n5, o5]
  have k1 : m_fm (m_look N) < 800 → m_fm (m_look O) = m_fm (m_look N) := fun q => look_cnt n1 n2 o1 o2 (stt_tr o3 (stt_sy n3)) ⟨0, e.symm⟩ q
  have k2 : m_fm (m_look O) < 800 → m_fm (m_look N) = m_fm (m_look O) := fun w => look_cnt o1 o2 n1 n2 (stt_tr n3 (stt_sy o3)) ⟨0, e⟩ w
  refine congrArg nI ?_
  clear n5 o5
  generalize m_fm (m_look N) = x at *
  generalize m_fm (m_look O) = y at *
  omega
theorem ap9_nI {x y : Nat} (hx : x < 1000) (hy : y < 1000) (h1 : x ≤ y + 1) (h2 : y ≤ x + 1) : ap9 (nI x) (nI y) ≤ 1 := by
  unfold ap9
  by_cases q : nI y ≤ nI x
  · have := (nI_leI (by omega) (by omega)).mp q
    rw [if_pos q, pk_sub this]
    exact (nI_leI (b := 1) (by omega) (by omega)).mpr (by omega)
  · have := Nat.not_le.mp (fun z => q ((nI_leI (a := y) (b := x) (by omega) (by omega)).mpr z))
    rw [if_neg q, pk_sub (by omega)]
    exact (nI_leI (b := 1) (by omega) (by omega)).mpr (by omega)
/-- ONE STEP of the walk: all that isStep asks -/
theorem step_9 {k : Nat} {X : XS} {V : MS} {f : Nat → Nat} {t D v j : Nat} {sg P : Int32} (hk : k ≤ 1000000) (hokV : m_ok V) (h : st9 k X V f t D) (hv : v < m_n V) (hsg : sg = 1 ∨ sg = -1) (h1j : 1 ≤ j) (hl : lgl V f v sg j) (hP : P = 800 ∨ P = s_fc (x_S (x_srch X))) :
    drive_th (x_srch X) (nI v) (sg * nI j) = 0 ∧ st9 (k + 1) (x_srch (x_move (x_srch X) (nI v) (sg * nI j))) V (updN f v (stp sg (f v) j)) (t + 1) (D + j) ∧
    j_mc (x_J (x_srch (x_move (x_srch X) (nI v) (sg * nI j)))) = j_mc (x_J (x_srch X)) + 1 ∧
    j_dc (x_J (x_srch (x_move (x_srch X) (nI v) (sg * nI j)))) = j_dc (x_J (x_srch X)) + (if 0 ≤ sg * nI j then sg * nI j else -(sg * nI j)) ∧
    (¬ P = 800 → s_fc (x_S (x_srch (x_move (x_srch X) (nI v) (sg * nI j)))) = P ∧ ap9 (s_sm (x_S (x_srch X))) (s_sm (x_S (x_srch (x_move (x_srch X) (nI v) (sg * nI j))))) ≤ 1 ∧ (0 ≤ s_sm (x_S (x_srch X)) ↔ 0 ≤ s_sm (x_S (x_srch (x_move (x_srch X) (nI v) (sg * nI j)))))) ∧
    (s_sm (x_S (x_srch (x_move (x_srch X) (nI v) (sg * nI j)))) = 0 → pl (j_po (x_J (x_srch (x_move (x_srch X) (nI v) (sg * nI j))))) 0 = 4 ∧ s_sf (x_S (x_srch (x_move (x_srch X) (nI v) (sg * nI j)))) = -1) ∧
    (0 < s_sm (x_S (x_srch (x_move (x_srch X) (nI v) (sg * nI j)))) ↔ 0 ≤ s_sf (x_S (x_srch (x_move (x_srch X) (nI v) (sg * nI j))))) := by
  have h1 := st9_srch h
  obtain ⟨d1, d2, d3⟩ := st9_go hk h1 hv hsg h1j hl
  have h3 := st9_srch d2
  obtain ⟨c1, c2, c3, c4, c5⟩ := c_facts hsg h1j d3
  have hso := see_one d2
  obtain ⟨N, n1, n2, n3, n4, n5, n6, -⟩ := st9_see h
  obtain ⟨O, o1, o2, o3, o4, o5, o6, -⟩ := st9_see d2
  have q1 := st9_n h1
  have q3 := st9_n h3
  refine ⟨d1, h3, ?_, ?_, fun hP8 => ?_, hso.1, hso.2⟩
  · rw [q3.2.2.1, q1.2.2.1, nI_1]
  · rw [q3.2.2.2, q1.2.2.2, c4, nI_add]
  · have hPc : P = s_fc (x_S (x_srch X)) := by
      rcases hP with z | z
      · exact absurd z hP8
      · exact z
    obtain ⟨l1, l2, l3, l4, l5⟩ := look_b n1 n2
    have l3o := (look_b o1 o2).2.2.1
    have h800 : m_fm (m_look N) < 800 := by
      rcases Nat.lt_or_ge (m_fm (m_look N)) 800 with z | z
      · exact z
      · exact absurd (by rw [hPc, n5, show m_fm (m_look N) = 800 by omega]; rfl) hP8
    have hfV := st9_fit h
    have he : edg N (pnow N) (pnow O) := by
      refine edg_stt (stt_sy n3) ?_
      rw [pnow_is n3 n4, pnow_is o3 o4]
      have hd := dgf_ps hokV hfV.1
      refine ⟨v, sg, j, hv, hsg, h1j, lgl_c hv hd hl, ps_ext _ (fun u hu => ?_)⟩
      rw [hd v hv]
      by_cases z : u = v
      · subst z; rw [updN_s, updN_s]
      · rw [updN_n z, updN_n z, hd u hu]
    obtain ⟨w1, w2⟩ := look_few n1 n2 o1 o2 (stt_tr o3 (stt_sy n3)) he h800
    refine ⟨by rw [o5, w1, hPc, n5], ?_⟩
    rw [n6, o6]
    unfold m_few
    rcases w2 with ⟨x1, x2⟩ | ⟨x, y, x1, y1, x2, y2, x3, y3⟩
    · rw [x1, x2, if_neg (show ¬ (0 : Int32) ≤ -1 by decide), if_neg (show ¬ (0 : Int32) ≤ -1 by decide)]; decide
    · have dx : m_dp (m_look N) x ≤ x := by
        exact (bZ_dple (look_b n1 n2).1 _ x (Nat.lt_succ_self x) x1)
      have dy : m_dp (m_look O) y ≤ y := bZ_dple (look_b o1 o2).1 _ y (Nat.lt_succ_self y) y1
      rw [x2, y2, if_pos (nI_pos' (by omega)), if_pos (nI_pos' (by omega)), nI_clamp (by omega), nI_clamp (by omega)]
      exact ⟨ap9_nI (by omega) (by omega) x3 y3, ⟨fun _ => nI_pos' (by omega), fun _ => nI_pos' (by omega)⟩⟩
