/-! PURE: parking by the law, the ramp, the sums, the walk's own record -/
theorem at9_neg {k : Nat} {X : XS} {M : MS} (h : rel k X M) {r q : Nat} (hr : r < 6) (hq : q < 6) (hn : at9 X r q < 0) : ∀ u, u < m_n M → ¬ occV M (m_pl M) u (6 * r + q) := by
  have h9 := h.1.1
  rcases at9_of h hr hq with ⟨z1, z2⟩ | ⟨u, hu, z1, z2⟩
  · exact z2
  · rw [z1] at hn
    exact absurd hn (nI_pos (by omega))
theorem park_ok {k : Nat} {X : XS} {M : MS} {cn rn qn : Nat} {a : Int32} (hk : k ≤ 1000000) (h : rel k X M) (ha : a = 0 ∨ a = 1) (h9 : m_n M < 9) (hmo : m_mo M = 0) (hrp : m_rp M = -1) (hc : 2 ≤ cn ∧ cn ≤ 4) (hr : rn < 6) (hq : qn < 6) (hp : p_plcN a rn qn + cn ≤ 6) (hf : 0 < m_n M ∨ (cn = 2 ∧ a = 1 ∧ rn = 2))
    (hcell : ∀ i, i < cn → at9 X (if a = 1 then rn else rn + i) (if a = 1 then qn + i else qn) < 0) :
    park_th X (nI cn) a (nI rn) (nI qn) = 0 ∧ rel k (x_park X (nI cn) a (nI rn) (nI qn)) (m_wPk M cn (p_ax a) (p_linN a rn qn) (p_plcN a rn qn)) ∧ y_num (x_Y X) = nI (m_n M) := by
  have hn := h.2.2.1.1
  have hfree : ∀ i, i < cn → ¬ ∃ u, u < m_n M ∧ occV M (m_pl M) u (pk_cell a rn qn i) := by
    rintro i hi ⟨u, hu, ho⟩
    have hc1 := hcell i hi
    rcases ha with rfl | rfl
    · rw [if_neg (by decide), if_neg (by decide)] at hc1
      have hp : rn + cn ≤ 6 := hp
      exact at9_neg h (by omega) hq hc1 u hu ho
    · rw [if_pos rfl, if_pos rfl] at hc1
      have hp : qn + cn ≤ 6 := hp
      exact at9_neg h hr (by omega) hc1 u hu ho
  have hl := p_linN_lt (a := a) hr hq
  have hrmp : ∀ i, i < cn → ¬ nI (pk_cell a rn qn i) = m_rp M := fun i hi z => by
    have h36 : pk_cell a rn qn i < 36 := m_cl_lt hl (by omega)
    rw [hrp] at z
    exact nI_m1 (by omega) z.symm
  have hfr := (park_free (a := a) h hc hr hq hp).mpr (fun i hi => ⟨hfree i hi, Or.inr (hrmp i hi)⟩)
  have hmin : min (nI cn).toNatClampNeg 4 = cn := by rw [nI_clamp (by omega)]; omega
  have hin : ∀ x, x < 6 → inL (nI x) := fun x hx => ⟨nI_pos (by omega), fun z => absurd ((nI_leI (a := 6) (by omega) (by omega)).mp z) (by omega)⟩
  have his : pk_is M (nI cn) a (nI rn) (nI qn) := by
    refine ⟨fun z => ?_, fun z => ?_, hin _ hr, hin _ hq, fun z => ?_, ?_⟩
    · have := (nI_ltI (a := cn) (b := 2) (by omega) (by omega)).mp z; omega
    · have := (nI_ltI (a := 4) (b := cn) (by omega) (by omega)).mp z; omega
    · rw [p_plc_nI, nI_add] at z
      have hb : p_plcN a rn qn < 6 := by unfold p_plcN; split <;> assumption
      have := (nI_ltI (a := 6) (b := p_plcN a rn qn + cn) (by omega) (by omega)).mp z; omega
    · rcases hf with z | ⟨rfl, rfl, rfl⟩
      · exact Or.inl z
      · exact Or.inr ⟨rfl, by decide, rfl⟩
  obtain ⟨e1, e2, e3⟩ := (park_is (X := X) hn h.1.1).mp his
  have hmc := mc_pos hk h
  refine ⟨?_, ?_, ?_⟩
  · unfold park_th
    rw [if_neg e1, if_neg (not_not_intro e2), if_neg e3, hmin, if_neg, if_neg (not_not_intro hfr)]
    rintro (z | z)
    · exact hmc.2.1.mp z hmo
    · exact z (by rw [hn]; exact (nI_ltI (a := m_n M) (b := 9) (by omega) (by omega)).mpr h9)
  · refine rel_parked h ha h9 hmo hc hr hq hp ?_ ?_
    · rintro u hu c ⟨i, hi, rfl⟩ ho
      exact hfree i hi ⟨u, hu, ho⟩
    · rintro h2 c ⟨i, hi, rfl⟩ ho
      exact hrmp i hi ho
  · rw [y_num, if_pos (by rw [hn]; exact h9), hn]
/-- while the law parks -/
def PK (X : XS) (M : MS) (C A : Nat → Int32) : Prop := rel 0 X M ∧ m_mo M = 0 ∧ m_dr M = 0 ∧ m_rp M = -1 ∧ 0 < m_n M ∧ m_sz M 0 = 2 ∧ m_ac M 0 = 1 ∧ m_li M 0 = 2 ∧ (∀ v, v < m_n M → C v = nI (m_sz M v)) ∧ ∀ v, v < m_n M → A v = nI (m_ac M v)
theorem PK_n {X : XS} {M : MS} {C A : Nat → Int32} (h : PK X M C A) : y_n (x_Y X) = m_n M ∧ y_n (x_Y X) ≤ 9 ∧ 0 < y_n (x_Y X) := by
  have hn := h.1.2.2.1.1
  exact ⟨hn, by rw [hn]; exact h.1.1.1, by rw [hn]; exact h.2.2.2.2.1⟩
theorem PK_park {X : XS} {M : MS} {C A : Nat → Int32} {cn rn qn : Nat} {a : Int32} (h : PK X M C A) (ha : a = 0 ∨ a = 1) (h9 : y_n (x_Y X) < 9) (hc : 2 ≤ cn ∧ cn ≤ 4) (hr : rn < 6) (hq : qn < 6) (hp : p_plcN a rn qn + cn ≤ 6)
    (hcell : ∀ i, i < cn → at9 X (if a = 1 then rn else rn + i) (if a = 1 then qn + i else qn) < 0) :
    park_th X (nI cn) a (nI rn) (nI qn) = 0 ∧ PK (x_park X (nI cn) a (nI rn) (nI qn)) (m_wPk M cn (p_ax a) (p_linN a rn qn) (p_plcN a rn qn)) (upd C (y_n (x_Y X)) (nI cn)) (upd A (y_n (x_Y X)) a) ∧ y_num (x_Y X) = nI (y_n (x_Y X)) ∧ y_n (x_Y (x_park X (nI cn) a (nI rn) (nI qn))) = y_n (x_Y X) + 1 := by
  obtain ⟨h1, h2, h3, h4, h5, h6, h7, h8, hC, hA⟩ := h
  have hn := h1.2.2.1.1
  rw [hn] at h9 ⊢
  obtain ⟨p1, p2, p3⟩ := park_ok (by omega) h1 ha h9 h2 h4 hc hr hq hp (Or.inl h5) hcell
  have hne : ¬ 0 = m_n M := by omega
  refine ⟨p1, ⟨p2, h2, h3, h4, Nat.succ_pos _, ?_, ?_, ?_, fun v hv => ?_, fun v hv => ?_⟩, p3, ?_⟩
  · show updN (m_sz M) (m_n M) cn 0 = 2
    rw [updN_n hne]; exact h6
  · show updN (m_ac M) (m_n M) (p_ax a) 0 = 1
    rw [updN_n hne]; exact h7
  · show updN (m_li M) (m_n M) (p_linN a rn qn) 0 = 2
    rw [updN_n hne]; exact h8
  · have hv : v < m_n M + 1 := hv
    show upd C (m_n M) (nI cn) v = nI (updN (m_sz M) (m_n M) cn v)
    by_cases z : v = m_n M
    · subst z; rw [pk_us, updN_s]
    · rw [pk_un z, updN_n z]; exact hC v (by omega)
  · have hv : v < m_n M + 1 := hv
    show upd A (m_n M) a v = nI (updN (m_ac M) (m_n M) (p_ax a) v)
    by_cases z : v = m_n M
    · subst z; rw [pk_us, updN_s]; exact (nar_z ha).2
    · rw [pk_un z, updN_n z]; exact hA v (by omega)
  · have := p2.2.2.1.1
    exact this
/-- the yard that stands from now on -/
def yv (V : MS) (C A : Nat → Int32) (rp : Int32) : Prop := m_ok V ∧ 0 < m_n V ∧ m_sz V 0 = 2 ∧ m_ac V 0 = 1 ∧ m_li V 0 = 2 ∧ (∀ v, v < m_n V → C v = nI (m_sz V v)) ∧ (∀ v, v < m_n V → A v = nI (m_ac V v)) ∧ rp = m_rp V ∧ ∀ u, u < m_n V → m_pl V u = m_pk V u
theorem yv_wh {k : Nat} {X : XS} {V : MS} {f : Nat → Nat} {t D : Nat} {C A : Nat → Int32} {rp : Int32} (hy : yv V C A rp) (h : st9 k X V f t D) : whO X C A rp := by
  obtain ⟨y1, y2, y3, y4, y5, y6, y7, y8, y9⟩ := hy
  rw [y8]
  exact st9_wh h y2 y3 y4 y5 y6 y7
/-- a lorry's cell stays without the ramp -/
theorem PK_noramp {X : XS} {M : MS} {C A : Nat → Int32} (h : PK X M C A) : yv M C A (-1) ∧ st9 0 X M (m_pl M) 0 0 := by
  obtain ⟨h1, h2, h3, h4, h5, h6, h7, h8, hC, hA⟩ := h
  exact ⟨⟨h1.1, h5, h6, h7, h8, hC, hA, h4.symm, h1.2.2.2.2.2.2.2.2.2.2.2.2.2.1 h2⟩, M, h1, stt_rfl M, fun _ _ => rfl, rfl, h2, h3⟩
theorem PK_ramp {X : XS} {M : MS} {C A : Nat → Int32} {c : Nat} (h : PK X M C A) (hc : c < 36) (hu : at9 X (c / 6) (c % 6) < 0 ∨ C (at9 X (c / 6) (c % 6)).toNatClampNeg = 2) :
    ramp_th X (nI (c / 6)) (nI (c % 6)) = 0 ∧ ∃ V, yv V C A (nI c) ∧ st9 0 (x_ramp X (nI (c / 6)) (nI (c % 6))) V (m_pl V) 0 0 := by
  obtain ⟨h1, h2, h3, h4, h5, h6, h7, h8, hC, hA⟩ := h
  have hmc := mc_pos (by omega) h1
  have h9 := h1.1.1
  have hth : ramp_th X (nI (c / 6)) (nI (c % 6)) = 0 := by
    unfold ramp_th
    have hin : inY (nI (c / 6)) (nI (c % 6)) := ⟨nI_pos (by omega), fun z => absurd ((nI_leI (a := 6) (by omega) (by omega)).mp z) (by omega), nI_pos (by omega), fun z => absurd ((nI_leI (a := 6) (by omega) (by omega)).mp z) (by omega)⟩
    rw [if_neg (not_not_intro hin), if_neg (not_not_intro (hmc.1.mpr h2)), show y_on (x_Y X) (j_po (x_J X)) (co (nI (c / 6)) (nI (c % 6))) (y_n (x_Y X)) 0 = at9 X (c / 6) (c % 6) from rfl, if_neg]
    rintro ⟨z1, z2⟩
    rcases at9_of h1 (r := c / 6) (q := c % 6) (by omega) (by omega) with ⟨w1, w2⟩ | ⟨u, hu2, w1, w2⟩
    · rw [w1] at z1
      exact absurd (by decide) z1.1
    · rw [w1] at z2 hu
      rcases hu with q | q
      · exact absurd q (nI_pos (by omega))
      · rw [nI_clamp (by omega)] at z2 q
        rw [(h1.2.2.1.2.2 u hu2).2.1, ← hC u hu2, q] at z2
        exact z2 (by decide)
  obtain ⟨r1, r2⟩ := rel_ramp (by omega) h1 (nI (c / 6)) (nI (c % 6))
  rw [hth, if_pos rfl] at r2
  rw [hth] at r1
  have hr0 : m_rth (m_lay M) (nI (c / 6)) (nI (c % 6)) = 0 := r1
  refine ⟨hth, m_ramp (m_lay M) (nI (c / 6)) (nI (c % 6)), ⟨r2.1, h5, h6, h7, h8, hC, hA, ?_, h1.2.2.2.2.2.2.2.2.2.2.2.2.2.1 h2⟩, _, r2, stt_rfl _, fun _ _ => rfl, rfl, h2, h3⟩
  show nI c = (if m_rth (m_lay M) (nI (c / 6)) (nI (c % 6)) = 0 then 6 * nI (c / 6) + nI (c % 6) else m_rp (m_lay M))
  rw [if_pos hr0, n6, show 6 * (c / 6) + c % 6 = c by omega]
/-- the law's sum over all places -/
def hs9 (X : XS) : Nat → Int32
  | 0 => 0
  | v + 1 => 31 * hs9 X v + 6 * j_row X (nI v) + j_col X (nI v)
theorem st9_has {k : Nat} {X : XS} {V : MS} {f : Nat → Nat} {t D v : Nat} (h : st9 k X V f t D) (hv : v < m_n V) : has_th X (nI v) = 0 ∧ j_row X (nI v) = (if m_ac V v = 1 then nI (m_li V v) else nI (f v)) ∧ j_col X (nI v) = (if m_ac V v = 1 then nI (f v) else nI (m_li V v)) := by
  obtain ⟨M, h1, h2, h3, h4, h5, h6⟩ := h
  have e := has_of h1 (v := v) (by rw [h2.1]; exact hv)
  rw [h3 v hv, h2.2.2.1, h2.2.2.2.1] at e
  exact e
theorem hs9_eq {k k2 : Nat} {X X2 : XS} {V : MS} {f : Nat → Nat} {t D t2 D2 : Nat} (h : st9 k X V f t D) (g : st9 k2 X2 V f t2 D2) : ∀ n, n ≤ m_n V → hs9 X n = hs9 X2 n
  | 0, _ => rfl
  | v + 1, hn => by
    have e1 := st9_has h (v := v) (by omega)
    have e2 := st9_has g (v := v) (by omega)
    rw [hs9, hs9, hs9_eq h g v (by omega), e1.2.1, e2.2.1, e1.2.2, e2.2.2]
/-- everything back where it was parked -/
theorem st9_rest {k : Nat} {X : XS} {V : MS} {f : Nat → Nat} {t D : Nat} (h : st9 k X V f t D) (hy : ∀ u, u < m_n V → m_pl V u = m_pk V u) : st9 k (x_rest X) V (m_pl V) 0 0 := by
  obtain ⟨M, h1, h2, h3, h4, h5, h6⟩ := h
  refine ⟨m_rst M, rel_rest h1, h2, fun u hu => ?_, h4, rfl, rfl⟩
  show cpN (m_pl M) (m_pk M) (m_n M) u = m_pl V u
  rw [cpN, if_pos (by rw [h2.1]; exact hu), h4, hy u hu]
/-- how far a vehicle could go -/
theorem st9_way {k : Nat} {X : XS} {V : MS} {f : Nat → Nat} {t D v : Nat} {sg : Int32} (h : st9 k X V f t D) (hv : v < m_n V) (hsg : sg = 1 ∨ sg = -1) : ∃ w, w ≤ 4 ∧ j_way X (nI v) (m_fw sg) = nI w ∧ ∀ j, j ≤ w → lgl V f v sg j := by
  obtain ⟨M, h1, h2, h3, h4, h5, h6⟩ := h
  have hvM : v < m_n M := by rw [h2.1]; exact hv
  have hg : good M (m_pl M) := ⟨h1.2.2.2.2.2.2.2.2.2.2.2.1, h1.2.2.2.2.2.2.2.2.2.1⟩
  refine ⟨m_wy (m_lay M) v (m_fw sg), (m_tr_b (m_ok_lay h1.1) (show v < m_n (m_lay M) from hvM) hsg (Nat.le_refl _)).2.2, rel_way h1 hvM _, fun j hj => ?_⟩
  exact lgl_stt (stt_sy h2) hvM (fun u hu => (h3 u (by rw [← h2.1]; exact hu)).symm) (lgl_of (m_ok_lay h1.1) (pl_fit h1.1) hvM (atf_lay0 M) hg hsg hj)
def sumJ (J : Nat → Nat) : Nat → Nat
  | 0 => 0
  | n + 1 => sumJ J n + J n
theorem sumJ_ext {J K : Nat → Nat} : ∀ n, (∀ i, i < n → J i = K i) → sumJ J n = sumJ K n
  | 0, _ => rfl
  | n + 1, h => by rw [sumJ, sumJ, sumJ_ext n (fun i hi => h i (by omega)), h n (by omega)]
/-- the walk's record: n steps, F i before the step i, J i cells each -/
def trk (V : MS) (Wh Fr : Nat → Int32) (F : Nat → Nat → Nat) (J : Nat → Nat) (n : Nat) : Prop := ∀ i, i < n → ∃ (v : Nat) (sg : Int32), v < m_n V ∧ (sg = 1 ∨ sg = -1) ∧ 1 ≤ J i ∧ lgl V (F i) v sg (J i) ∧ Wh i = nI v ∧ Fr i = sg * nI (J i) ∧ fit V (F i) ∧ ∀ u, u < m_n V → F (i + 1) u = updN (F i) v (stp sg (F i v) (J i)) u
def updF (F : Nat → Nat → Nat) (n : Nat) (g : Nat → Nat) : Nat → Nat → Nat := fun i => if i = n then g else F i
theorem updF_s {F : Nat → Nat → Nat} {n : Nat} {g : Nat → Nat} : updF F n g n = g := if_pos rfl
theorem updF_n {F : Nat → Nat → Nat} {n i : Nat} {g : Nat → Nat} (h : i ≠ n) : updF F n g i = F i := if_neg h
theorem trk_s {V : MS} {Wh Fr : Nat → Int32} {F : Nat → Nat → Nat} {J : Nat → Nat} {n v j : Nat} {sg : Int32} (h : trk V Wh Fr F J n) (hv : v < m_n V) (hsg : sg = 1 ∨ sg = -1) (hj : 1 ≤ j) (hl : lgl V (F n) v sg j) (hf : fit V (F n)) :
    trk V (upd Wh n (nI v)) (upd Fr n (sg * nI j)) (updF F (n + 1) (updN (F n) v (stp sg (F n v) j))) (updN J n j) (n + 1) := by
  intro i hi
  rcases (show i < n ∨ i = n by omega) with q | q
  · obtain ⟨v2, sg2, z1, z2, z3, z4, z5, z6, z7, z8⟩ := h i q
    have hne : i ≠ n := by omega
    have hn1 : i ≠ n + 1 := by omega
    have hn2 : i + 1 ≠ n + 1 := by omega
    refine ⟨v2, sg2, z1, z2, ?_, ?_, ?_, ?_, ?_, ?_⟩
    · rw [updN_n hne]; exact z3
    · rw [updN_n hne, updF_n hn1]; exact z4
    · rw [pk_un hne]; exact z5
    · rw [pk_un hne, updN_n hne]; exact z6
    · rw [updF_n hn1]; exact z7
    · rw [updN_n hne, updF_n hn2, updF_n hn1]; exact z8
  · subst q
    have hn1 : i ≠ i + 1 := by omega
    refine ⟨v, sg, hv, hsg, ?_, ?_, pk_us, ?_, ?_, ?_⟩
    · rw [updN_s]; exact hj
    · rw [updN_s, updF_n hn1]; exact hl
    · rw [pk_us, updN_s]
    · rw [updF_n hn1]; exact hf
    · rw [updN_s, updF_s, updF_n hn1]; exact fun _ _ => rfl
/-- one step back -/
theorem trk_back {V : MS} {Wh Fr : Nat → Int32} {F : Nat → Nat → Nat} {J : Nat → Nat} {n i : Nat} (h : trk V Wh Fr F J n) (hi : i < n) : ∃ (v : Nat) (sg : Int32), v < m_n V ∧ (sg = 1 ∨ sg = -1) ∧ 1 ≤ J i ∧ lgl V (F (i + 1)) v sg (J i) ∧ Wh i = nI v ∧ -(Fr i) = sg * nI (J i) ∧ ∀ u, u < m_n V → F i u = updN (F (i + 1)) v (stp sg (F (i + 1) v) (J i)) u := by
  obtain ⟨v, sg, z1, z2, z3, z4, z5, z6, z7, z8⟩ := h i hi
  refine ⟨v, -sg, z1, neg_sg z2, z3, lgl_c z1 z8 (lgl_rev z2 (z7 v z1) z4), z5, by rw [z6, Int32.neg_mul], fun u hu => ?_⟩
  rw [z8 v z1, updN_s, stp_back z2 z4.1 (Nat.le_refl _), Nat.sub_self, stp_0]
  by_cases q : u = v
  · subst q; rw [updN_s]
  · rw [updN_n q, z8 u hu, updN_n q]
