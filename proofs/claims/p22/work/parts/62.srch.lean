/-! PURE: the questions that search -/
theorem yr_c {Y : YS} {M Z : MS} (h1 : m_n Z = m_n M) (h2 : m_sz Z = m_sz M) (h3 : m_ac Z = m_ac M) (h4 : m_li Z = m_li M) (h : yr Y M) : yr Y Z := by
  unfold yr
  rw [h1, h2, h3, h4]
  exact h
theorem rel_eq {k : Nat} {X X2 : XS} {M Z : MS} (h : rel k X M) (hok : m_ok Z) (hst : stale Z) (hpl : ∀ u, u < m_n M → m_pl Z u = m_pl M u)
    (h1 : m_n Z = m_n M) (h2 : m_sz Z = m_sz M) (h3 : m_ac Z = m_ac M) (h4 : m_li Z = m_li M) (h5 : m_rp Z = m_rp M) (h6 : m_mo Z = m_mo M) (h7 : m_dr Z = m_dr M) (h8 : m_pk Z = m_pk M)
    (g1 : x_Y X2 = x_Y X) (g2 : j_po (x_J X2) = j_po (x_J X)) (g3 : j_pp (x_J X2) = j_pp (x_J X)) (g4 : j_mc (x_J X2) = j_mc (x_J X)) (g5 : j_dc (x_J X2) = j_dc (x_J X)) (hc : cach X2) : rel k X2 Z := by
  obtain ⟨a1, a2, a3, a4, a5, a6, a7, a8, a9, a10, a11, a12, a13, a14, a15⟩ := h
  refine ⟨hok, hst, ?_, ?_, ?_, ?_, ?_, ?_, ?_, noO_c h1 h2 h3 h4 hpl a10, ?_, offR_c h1 h2 h3 h4 h5 hpl a12, ?_, ?_, hc⟩
  · rw [g1]; exact yr_c h1 h2 h3 h4 a3
  · rw [g1]; unfold rr; rw [h5]; exact a4
  · rw [g2, h1, p8_ext (m_n M) hpl]; exact a5
  · rw [g3, h1, h8]; exact a6
  · rw [g4, h6]; exact a7
  · rw [g5, h7]; exact a8
  · rw [h6]; exact a9
  · rw [h8]; exact noO_c h1 h2 h3 h4 (fun _ _ => rfl) a11
  · rw [h8]; exact offR_c h1 h2 h3 h4 h5 (fun _ _ => rfl) a13
  · rw [h6, h1, h8]; exact fun q u hu => (hpl u hu).trans (a14 q u hu)
theorem srch_t (X : XS) (L : SS) : x_Y ((j_pp (x_J X), j_po (x_J X), j_mc (x_J X), j_dc (x_J X), 1), L, x_Y X) = x_Y X ∧ j_po (x_J ((j_pp (x_J X), j_po (x_J X), j_mc (x_J X), j_dc (x_J X), 1), L, x_Y X)) = j_po (x_J X) ∧ j_pp (x_J ((j_pp (x_J X), j_po (x_J X), j_mc (x_J X), j_dc (x_J X), 1), L, x_Y X)) = j_pp (x_J X) ∧ j_mc (x_J ((j_pp (x_J X), j_po (x_J X), j_mc (x_J X), j_dc (x_J X), 1), L, x_Y X)) = j_mc (x_J X) ∧ j_dc (x_J ((j_pp (x_J X), j_po (x_J X), j_mc (x_J X), j_dc (x_J X), 1), L, x_Y X)) = j_dc (x_J X) ∧ x_S ((j_pp (x_J X), j_po (x_J X), j_mc (x_J X), j_dc (x_J X), 1), L, x_Y X) = L := ⟨rfl, rfl, rfl, rfl, rfl, rfl⟩
theorem srch_same (X : XS) (h : cach X) : x_Y (x_srch X) = x_Y X ∧ j_po (x_J (x_srch X)) = j_po (x_J X) ∧ j_pp (x_J (x_srch X)) = j_pp (x_J X) ∧ j_mc (x_J (x_srch X)) = j_mc (x_J X) ∧ j_dc (x_J (x_srch X)) = j_dc (x_J X) ∧ ∃ S_g, x_S (x_srch X) = s_look (x_Y X) S_g (j_po (x_J X)) := by
  by_cases q : j_is (x_J X) = 0
  · have e : x_srch X = ((j_pp (x_J X), j_po (x_J X), j_mc (x_J X), j_dc (x_J X), 1), s_look (x_Y X) (x_S X) (j_po (x_J X)), x_Y X) := by rw [x_srch, if_pos q]
    obtain ⟨t1, t2, t3, t4, t5, t6⟩ := srch_t X (s_look (x_Y X) (x_S X) (j_po (x_J X)))
    rw [← e] at t1 t2 t3 t4 t5 t6
    exact ⟨t1, t2, t3, t4, t5, x_S X, t6⟩
  · have e : x_srch X = X := by rw [x_srch, if_neg q]
    rcases h with h | h
    · exact absurd h q
    · rw [e]; exact ⟨rfl, rfl, rfl, rfl, rfl, h⟩
theorem rel_srch {k : Nat} {X : XS} {M : MS} (h : rel k X M) : rel k (x_srch X) (m_look (m_wTh M 0)) ∧ sim (x_S (x_srch X)) (m_look (m_wTh M 0)) ∧ look_ok (m_look (m_wTh M 0)) ∧ (∀ u, u < m_n (m_look (m_wTh M 0)) → m_pl (m_look (m_wTh M 0)) u = lk_g (m_look (m_wTh M 0)) 0 u) ∧
    s_sm (x_S (x_srch X)) = m_few (m_look (m_wTh M 0)) ∧ s_sf (x_S (x_srch X)) = m_hnt (m_look (m_wTh M 0)) ∧ s_sc (x_S (x_srch X)) = s_tcS (m_look (m_wTh M 0)) ∧ m_th (m_look (m_wTh M 0)) = 0 := by
  have h0 : rel k X (m_wTh M 0) := h
  have hcc := h0.2.2.2.2.2.2.2.2.2.2.2.2.2.2
  obtain ⟨g1, g2, g3, g4, g5, S_g, hS⟩ := srch_same X hcc
  obtain ⟨a1, a2, a3, a4, a5, -, -, -, -, a10, -, a12, -⟩ := h0
  obtain ⟨s1, s2, s3, s4, s5, e1, e2, e3, e4, e5, e6, e7, e8, e9⟩ := look_sim (S := S_g) a3 a4 a1 a2 ⟨a12, a10⟩ a5
  have ht := s_trace_ok s1
  have hts := s_trace_sim s1
  have hlk : x_S (x_srch X) = s_trace (s_lookL (x_Y X) 800 0 (s_addN (s_new S_g) (j_po (x_J X)) 0 0)) := hS
  rw [← hlk] at ht hts
  refine ⟨rel_eq (M := m_wTh M 0) h s2.1 hts.2.2.2.2.2.2 s3 e1 e2 e3 e4 e5 e6 e7 e8 g1 g2 g3 g4 g5 (Or.inr ⟨S_g, by rw [g1, g2]; exact hS⟩), hts, s2, fun u hu => ?_, ht.1, ht.2.1, ht.2.2, e9⟩
  rw [e1] at hu
  rw [s3 u hu, s5 u hu]
