/-! PURE: the class and the reference stand alike -/
def cach (X : XS) : Prop := j_is (x_J X) = 0 ∨ ∃ S_g, x_S X = s_look (x_Y X) S_g (j_po (x_J X))
def rel (k : Nat) (X : XS) (M : MS) : Prop := m_ok M ∧ stale M ∧ yr (x_Y X) M ∧ rr (x_Y X) M ∧ j_po (x_J X) = nI (p8 (m_n M) (m_pl M)) ∧ j_pp (x_J X) = nI (p8 (m_n M) (m_pk M)) ∧ j_mc (x_J X) = m_mo M ∧ j_dc (x_J X) = m_dr M ∧ (∃ t, t ≤ 800 * k ∧ m_mo M = nI t) ∧
  noO M (m_pl M) ∧ noO M (m_pk M) ∧ offR M (m_pl M) ∧ offR M (m_pk M) ∧ (m_mo M = 0 → ∀ u, u < m_n M → m_pl M u = m_pk M u) ∧ cach X
theorem rel_th {k : Nat} {X : XS} {M : MS} (x : Int32) (h : rel k X M) : rel k X (m_wTh M x) := h
theorem rel_lay {k : Nat} {X : XS} {M : MS} (h : rel k X M) : rel k X (m_lay M) := ⟨m_ok_lay h.1, h.2⟩
theorem rel_isv {k : Nat} {X : XS} {M : MS} (v : Int32) (h : rel k X M) : rel k X (m_isv M v) := h
theorem rel_mono {k K : Nat} {X : XS} {M : MS} (hk : k ≤ K) (h : rel k X M) : rel K X M := by
  obtain ⟨h1, h2, h3, h4, h5, h6, h7, h8, ⟨t, ht, ht2⟩, h10⟩ := h
  exact ⟨h1, h2, h3, h4, h5, h6, h7, h8, ⟨t, by omega, ht2⟩, h10⟩
theorem pk_fit {W : MS} (h : m_ok W) : fit W (m_pk W) := fun v hv => by
  obtain ⟨b1_, b2_, b3_, b4_, b5_, b6_⟩ := h.2.1 v hv
  exact b6_
theorem atf_lay0 (M : MS) : atf M (m_lay M) (m_pl M) := ⟨rfl, rfl, rfl, rfl, rfl, fun _ _ => rfl, fun _ hc => lay_0 M hc⟩
theorem wya_f {X : MS} {v k : Nat} {f : Int32} (h : ¬ f = 0) : m_wya X v f k = m_wya X v 1 k := by
  rw [m_wya, m_wya, if_neg h, if_neg (by decide)]
theorem wyL_f {X : MS} {v : Nat} {f : Int32} (h : ¬ f = 0) : ∀ d k, m_wyL X v f d k = m_wyL X v 1 d k
  | 0, _ => rfl
  | d + 1, k => by rw [m_wyL, m_wyL, wya_f h, wyL_f h d (k + 1)]
theorem wy_f {X : MS} {v : Nat} {f : Int32} (h : ¬ f = 0) : m_wy X v f = m_wy X v 1 := wyL_f h 7 0
theorem rel_way {k : Nat} {X : XS} {M : MS} (h : rel k X M) {v : Nat} (hv : v < m_n M) (f : Int32) : j_way X (nI v) f = nI (m_wy (m_lay M) v f) := by
  obtain ⟨h1, h2, h3, h4, h5, h6, h7, h8, h9, h10, h11, h12, h13, h14, h15⟩ := h
  have hw := way_ok h3 h4 (pl_fit h1) hv (atf_lay0 M) h12
  unfold j_way
  rw [h5, h3.1]
  by_cases q : f = 0
  · rw [if_pos q, hw.2, q]
  · rw [if_neg q, hw.1, wy_f q]
theorem rel_has {k : Nat} {X : XS} {M : MS} (h : rel k X M) (v : Int32) : y_has (x_Y X) v ↔ m_has M v := y_has_iff h.2.2.1 v
theorem rel_rest {k : Nat} {X : XS} {M : MS} (h : rel k X M) : rel k (x_rest X) (m_rst M) := by
  obtain ⟨h1, h2, h3, h4, h5, h6, h7, h8, h9, h10, h11, h12, h13, h14, h15⟩ := h
  have e : ∀ u, u < m_n M → cpN (m_pl M) (m_pk M) (m_n M) u = m_pk M u := fun u hu => by rw [cpN, if_pos hu]
  have hocc : ∀ u c, u < m_n M → (occ (m_ac M u) (m_li M u) (cpN (m_pl M) (m_pk M) (m_n M) u) (m_sz M u) c ↔ occV M (m_pk M) u c) := fun u c hu => by rw [e u hu]
  refine ⟨⟨h1.1, fun v hv => ?_, h1.2.2⟩, h2, h3, h4, ?_, h6, rfl, rfl, ⟨0, Nat.zero_le _, rfl⟩, ?_, h11, ?_, h13, fun _ => e, Or.inl rfl⟩
  · obtain ⟨b1_, b2_, b3_, b4_, b5_, b6_⟩ := h1.2.1 v hv
    refine ⟨b1_, b2_, b3_, b4_, ?_, b6_⟩
    show cpN (m_pl M) (m_pk M) (m_n M) v + m_sz M v ≤ 6
    rw [e v hv]; exact b6_
  · show j_pp (x_J X) = nI (p8 (m_n M) (cpN (m_pl M) (m_pk M) (m_n M)))
    rw [p8_ext (m_n M) e]; exact h6
  · intro u w c hu hw a1 a2
    exact h11 u w c hu hw ((hocc u c hu).mp a1) ((hocc w c hw).mp a2)
  · intro u hu hz c hc
    exact h13 u hu hz c ((hocc u c hu).mp hc)
/-- a vehicle that can go goes -/
theorem rel_go {k : Nat} {X : XS} {M : MS} (hk : k ≤ 1000000) (h : rel k X M) {v j : Nat} {sg : Int32} (hv : v < m_n M) (hsg : sg = 1 ∨ sg = -1) (hj : 1 ≤ j) (hw : j ≤ m_wy (m_lay M) v (m_fw sg)) : rel (k + 1) (x_move X (nI v) (sg * nI j)) (m_go (m_lay M) v (sg * nI j)) ∧ j ≤ 4 := by
  obtain ⟨h1, h2, h3, h4, h5, h6, h7, h8, ⟨t, ht, h9⟩, h10, h11, h12, h13, h14, h15⟩ := h
  have hb := m_tr_b (m_ok_lay h1) (show v < m_n (m_lay M) from hv) hsg hw
  obtain ⟨hb1, hb2, hb3⟩ := hb
  have hb1 : sg = -1 → j ≤ m_pl M v := hb1
  have hb2 : stp sg (m_pl M v) j + m_sz M v ≤ 6 := hb2
  obtain ⟨b1_, b2_, b3_, b4_, b5_, b6_⟩ := h1.2.1 v hv
  have htg : m_tgt (m_lay M) v (sg * nI j) = stp sg (m_pl M v) j := by
    rw [m_tgt]
    show (nI (m_pl M v) + sg * nI j).toNatClampNeg = _
    rw [stp_nI hsg hb1, nI_clamp (by omega)]
  have ego : m_go (m_lay M) v (sg * nI j) = m_wGo (m_lay M) (updN (m_pl M) v (stp sg (m_pl M v) j)) (m_mo M + 1) (m_dr M + m_abs (sg * nI j)) := by
    rw [m_go, htg]; rfl
  rw [ego]
  refine ⟨⟨⟨h1.1, fun u hu => ?_, (m_ok_lay h1).2.2⟩, h2, h3, h4, ?_, h6, ?_, ?_, ⟨t + 1, by omega, ?_⟩, ?_, h11, ?_, h13, ?_, Or.inl rfl⟩, hb3⟩
  · obtain ⟨c1_, c2_, c3_, c4_, c5_, c6_⟩ := h1.2.1 u hu
    refine ⟨c1_, c2_, c3_, c4_, ?_, c6_⟩
    show updN (m_pl M) v (stp sg (m_pl M v) j) u + m_sz M u ≤ 6
    by_cases q : u = v
    · subst q; rw [updN_s]; exact hb2
    · rw [updN_n q]; exact c5_
  · show mv (j_po (x_J X)) (nI v) (sg * nI j) = nI (p8 (m_n M) (updN (m_pl M) v (stp sg (m_pl M v) j)))
    rw [h5, mv_nI h1.1 hv hsg hb1]
  · show j_mc (x_J X) + 1 = m_mo M + 1
    rw [h7]
  · show j_dc (x_J X) + iabs (sg * nI j) = m_dr M + m_abs (sg * nI j)
    rw [h8, abs_iabs]
  · show m_mo M + 1 = nI (t + 1)
    rw [h9, nI_1]
  · exact noO_move (pl_fit h1) b3_ b4_ hv (atf_lay0 M) hsg hw hb1 hb2 h10
  · exact off_move (pl_fit h1) b3_ b4_ hv (atf_lay0 M) hsg hw hb1 hb2 h12
  · intro hz
    exfalso
    have hz : m_mo M + 1 = 0 := hz
    rw [h9, nI_1] at hz
    exact nI_ne0 (by omega) (by omega) hz
