/-! PURE: each operation keeps the two alike and answers alike -/
theorem rng_ex {c : Int32} (h : m_rng c) : ∃ (sg : Int32) (j : Nat), (sg = 1 ∨ sg = -1) ∧ 1 ≤ j ∧ j ≤ 4 ∧ c = sg * nI j ∧ m_fw c = m_fw sg ∧ m_abs c = nI j := by
  obtain ⟨h1, h2, h3⟩ := h
  have k4 : (4 : Int32).toInt = 4 := rfl
  have k4' : (-4 : Int32).toInt = -4 := rfl
  have k0 : (0 : Int32).toInt = 0 := rfl
  obtain ⟨z, hz⟩ : ∃ z, z = c.toInt := ⟨_, rfl⟩
  rw [Int32.lt_iff_toInt_lt, k4', ← hz] at h1
  rw [Int32.lt_iff_toInt_lt, k4, ← hz] at h2
  have h3' : z ≠ 0 := fun q => h3 (Int32.toInt_inj.mp (by rw [← hz, q, k0]))
  rcases (show z = -4 ∨ z = -3 ∨ z = -2 ∨ z = -1 ∨ z = 1 ∨ z = 2 ∨ z = 3 ∨ z = 4 by omega) with q | q | q | q | q | q | q | q
  · have : c = -4 := Int32.toInt_inj.mp (by rw [← hz, q]; rfl)
    subst this; exact ⟨-1, 4, Or.inr rfl, by decide, by decide, by decide, by decide, by decide⟩
  · have : c = -3 := Int32.toInt_inj.mp (by rw [← hz, q]; rfl)
    subst this; exact ⟨-1, 3, Or.inr rfl, by decide, by decide, by decide, by decide, by decide⟩
  · have : c = -2 := Int32.toInt_inj.mp (by rw [← hz, q]; rfl)
    subst this; exact ⟨-1, 2, Or.inr rfl, by decide, by decide, by decide, by decide, by decide⟩
  · have : c = -1 := Int32.toInt_inj.mp (by rw [← hz, q]; rfl)
    subst this; exact ⟨-1, 1, Or.inr rfl, by decide, by decide, by decide, by decide, by decide⟩
  · have : c = 1 := Int32.toInt_inj.mp (by rw [← hz, q]; rfl)
    subst this; exact ⟨1, 1, Or.inl rfl, by decide, by decide, by decide, by decide, by decide⟩
  · have : c = 2 := Int32.toInt_inj.mp (by rw [← hz, q]; rfl)
    subst this; exact ⟨1, 2, Or.inl rfl, by decide, by decide, by decide, by decide, by decide⟩
  · have : c = 3 := Int32.toInt_inj.mp (by rw [← hz, q]; rfl)
    subst this; exact ⟨1, 3, Or.inl rfl, by decide, by decide, by decide, by decide, by decide⟩
  · have : c = 4 := Int32.toInt_inj.mp (by rw [← hz, q]; rfl)
    subst this; exact ⟨1, 4, Or.inl rfl, by decide, by decide, by decide, by decide, by decide⟩
theorem isv_has {M : MS} {v : Int32} (h : m_has M v) : m_isv M v = m_wTh M 0 := by rw [m_isv, if_pos h]
theorem isv_not {M : MS} {v : Int32} (h : ¬ m_has M v) : m_isv M v = m_wTh M 1 := by rw [m_isv, if_neg h]
theorem rel_drive {k : Nat} {X : XS} {M : MS} (hk : k ≤ 1000000) (h : rel k X M) (v c : Int32) : m_th (m_drive M v c) = nI (drive_th X v c) ∧ rel (k + 1) (if drive_th X v c = 0 then x_move X v c else X) (m_drive M v c) := by
  have hh := rel_has h v
  unfold m_drive drive_th
  by_cases hv : m_has M v
  · rw [if_pos hv, if_neg (not_not_intro (hh.mpr hv)), isv_has hv]
    obtain ⟨j, hj, rfl⟩ := m_has_ex h.1 hv
    have h9 := h.1.1
    have h0 : rel k X (m_wTh M 0) := h
    have hway := rel_way h0 (v := j) hj (m_fw c)
    rw [nI_clamp (by omega)]
    unfold m_dth
    by_cases hr : m_rng c
    · have hr2 : ¬ (c < -4 ∨ 4 < c ∨ c = 0) := fun q => by
        rcases q with q | q | q
        · exact hr.1 q
        · exact hr.2.1 q
        · exact hr.2.2 q
      rw [if_neg (not_not_intro hr), if_neg hr2, show (if c ≤ 0 then (0 : Int32) else 1) = m_fw c from rfl, hway, ← abs_iabs]
      by_cases hw : m_abs c ≤ nI (m_wy (m_lay (m_wTh M 0)) j (m_fw c))
      · rw [if_neg (not_not_intro hw), if_neg (not_not_intro hw), if_pos rfl, if_pos rfl]
        obtain ⟨sg, n, e1, e2, e3, e4, e5, e6⟩ := rng_ex hr
        rw [e6, e5, nI_leI (by omega) (by have := m_wy_le7 (m_lay (m_wTh M 0)) j (m_fw sg); omega)] at hw
        have hg := (rel_go hk h0 hj e1 e2 hw).1
        rw [← e4] at hg
        exact ⟨rfl, hg⟩
      · rw [if_pos hw, if_pos hw, if_neg (by decide), if_neg (by decide)]
        exact ⟨rfl, rel_mono (by omega) (rel_th 3 (rel_lay h0))⟩
    · have hr2 : c < -4 ∨ 4 < c ∨ c = 0 := by
        by_cases q1 : c < -4
        · exact Or.inl q1
        · by_cases q2 : 4 < c
          · exact Or.inr (Or.inl q2)
          · by_cases q3 : c = 0
            · exact Or.inr (Or.inr q3)
            · exact absurd ⟨q1, q2, q3⟩ hr
      rw [if_pos hr, if_pos hr2, if_neg (by decide), if_neg (by decide)]
      exact ⟨rfl, rel_mono (by omega) (rel_th 2 (rel_lay h0))⟩
  · rw [if_neg hv, if_pos (fun z => hv (hh.mp z)), isv_not hv, if_neg (by decide)]
    exact ⟨rfl, rel_mono (by omega) h⟩
theorem rel_dron {k : Nat} {X : XS} {M : MS} (hk : k ≤ 1000000) (h : rel k X M) (v f : Int32) : m_th (m_dron M v f) = nI (has_th X v) ∧ rel (k + 1) (if has_th X v = 0 then x_dron X v f else X) (m_dron M v f) ∧ m_drw M v f = (if has_th X v = 0 then j_way X v f else 0) := by
  have hh := rel_has h v
  unfold m_dron has_th m_drw
  by_cases hv : m_has M v
  · rw [if_pos hv, if_pos (hh.mpr hv), if_pos hv, isv_has hv, if_pos rfl, if_pos rfl]
    obtain ⟨j, hj, rfl⟩ := m_has_ex h.1 hv
    have h9 := h.1.1
    have h0 : rel k X (m_wTh M 0) := h
    have hway := rel_way h0 (v := j) hj f
    have h7 := m_wy_le7 (m_lay (m_wTh M 0)) j f
    rw [nI_clamp (by omega)]
    unfold x_dron
    rw [hway]
    by_cases hz : m_wy (m_lay (m_wTh M 0)) j f = 0
    · rw [hz, if_pos rfl, if_pos (by decide)]
      exact ⟨rfl, rel_mono (by omega) (rel_lay h0), rfl⟩
    · rw [if_neg hz, if_neg (nI_nle (by omega) (by omega))]
      refine ⟨rfl, ?_, rfl⟩
      by_cases hf : f = 0
      · subst hf
        rw [if_pos rfl]
        have hg := (rel_go hk h0 (v := j) (j := m_wy (m_lay (m_wTh M 0)) j 0) (sg := -1) hj (Or.inr rfl) (by omega) (Nat.le_refl _)).1
        rw [Int32.neg_mul, Int32.one_mul] at hg
        exact hg
      · rw [if_neg hf]
        have hg := (rel_go hk h0 (v := j) (j := m_wy (m_lay (m_wTh M 0)) j f) (sg := 1) hj (Or.inl rfl) (by omega) (by rw [wy_f hf]; exact Nat.le_refl _)).1
        rw [Int32.one_mul] at hg
        exact hg
  · rw [if_neg hv, if_neg (fun z => hv (hh.mp z)), isv_not hv, if_neg hv, if_neg (by decide), if_neg (by decide)]
    exact ⟨rfl, rel_mono (by omega) h, rfl⟩
theorem rel_row {k : Nat} {X : XS} {M : MS} (h : rel k X M) (v : Int32) : m_th (m_isv M v) = nI (has_th X v) ∧ rel k X (m_isv M v) ∧ m_row M v = (if has_th X v = 0 then j_row X v else 0) ∧ m_col M v = (if has_th X v = 0 then j_col X v else 0) := by
  have hh := rel_has h v
  unfold has_th m_row m_col
  by_cases hv : m_has M v
  · rw [if_pos hv, if_pos hv, if_pos (hh.mpr hv), isv_has hv, if_pos rfl, if_pos rfl]
    obtain ⟨j, hj, rfl⟩ := m_has_ex h.1 hv
    have h9 := h.1.1
    have hrel := h
    obtain ⟨h1, h2, h3, h4, h5, -⟩ := h
    obtain ⟨⟨b1_, b2_, b3_, b4_⟩, e1, e2, e3, e4⟩ := h3.2.2 j hj
    have hp := pl_p8 h3.2.1 (fit8 h3 (pl_fit h1)) hj
    have hy := hh.mpr hv
    have hac : y_acr (x_Y X) (nI j) ↔ m_ac M j = 1 := by
      unfold y_acr
      rw [nI_clamp (by omega), e2]
      rcases (show m_ac M j = 0 ∨ m_ac M j = 1 by omega) with q | q
      · rw [q]; exact ⟨fun z => absurd rfl z.2, fun z => by omega⟩
      · rw [q]; exact ⟨fun _ => rfl, fun _ => ⟨hy, by decide⟩⟩
    have hln : y_line (x_Y X) (nI j) = nI (m_li M j) := by rw [y_line, if_pos hy, nI_clamp (by omega), e3]
    rw [nI_clamp (by omega)]
    unfold j_row j_col
    rw [hln, h5, hp]
    refine ⟨rfl, hrel, ?_, ?_⟩
    · by_cases q : m_ac M j = 1
      · rw [if_pos q, if_pos (hac.mpr q)]
      · rw [if_neg q, if_neg (fun z => q (hac.mp z))]
    · by_cases q : m_ac M j = 1
      · rw [if_pos q, if_pos (hac.mpr q)]
      · rw [if_neg q, if_neg (fun z => q (hac.mp z))]
  · rw [if_neg hv, if_neg hv, if_neg (fun z => hv (hh.mp z)), isv_not hv, if_neg (by decide), if_neg (by decide)]
    exact ⟨rfl, h, rfl, rfl⟩
theorem rel_fway {k : Nat} {X : XS} {M : MS} (h : rel k X M) (v f : Int32) : m_th (m_isv (m_lay M) v) = nI (has_th X v) ∧ rel k X (m_isv (m_lay M) v) ∧ m_fway (m_lay M) v f = (if has_th X v = 0 then j_way X v f else 0) := by
  have hh := rel_has h v
  have hl : rel k X (m_lay M) := rel_lay h
  unfold has_th m_fway
  by_cases hv : m_has M v
  · have hv2 : m_has (m_lay M) v := hv
    rw [if_pos hv2, if_pos (hh.mpr hv), isv_has hv2, if_pos rfl]
    obtain ⟨j, hj, rfl⟩ := m_has_ex h.1 hv
    have h9 := h.1.1
    have hway := rel_way h (v := j) hj f
    rw [nI_clamp (by omega), hway]
    refine ⟨rfl, hl, ?_⟩
    have : ∀ d t, m_wyL (m_wTh (m_lay M) 0) j f d t = m_wyL (m_lay M) j f d t := fun d => by
      induction d with
      | zero => intro t; rfl
      | succ d ih => intro t; rw [m_wyL, m_wyL, ih]; rfl
    rw [show m_wy (m_wTh (m_lay M) 0) j f = m_wy (m_lay M) j f from this 7 0]
  · have hv2 : ¬ m_has (m_lay M) v := hv
    rw [if_neg hv2, if_neg (fun z => hv (hh.mp z)), isv_not hv2, if_neg (by decide)]
    exact ⟨rfl, hl, rfl⟩
