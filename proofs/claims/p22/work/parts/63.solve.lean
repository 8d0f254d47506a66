/-! PURE: solve, canReach -/
theorem s_pos_at {S : SS} {Z : MS} {i : Nat} (hs : sim S Z) (hi : i < m_fm Z) (hq : m_ff Z = nI i) : s_pos S = nI (p8 (m_n Z) (lk_g Z i)) := by
  have h8 : m_fm Z ≤ 800 := hs.2.2.1.1
  have hfs : s_fs S = nI i := hs.2.2.2.2.1.trans hq
  rw [s_pos, hfs, if_pos (sim_isF hs hi), nI_clamp (by omega)]
  exact (hs.2.2.2.1 i hi).2.1
theorem rel_solv0 {k : Nat} {X : XS} {Z : MS} (hk : k ≤ 1000000) (h : rel k X Z) (hs : sim (x_S X) Z) (hl : look_ok Z) (hroot : ∀ u, u < m_n Z → m_pl Z u = lk_g Z 0 u) (hsm : s_sm (x_S X) = m_few Z) (hsc : s_sc (x_S X) = s_tcS Z) : rel (k + 1) (x_solv X) (m_solv Z) := by
  have h8 : m_fm Z ≤ 800 := hs.2.2.1.1
  rcases hs.2.2.2.2.2.1 with q | ⟨i, hi, q⟩
  · have e1 : x_solv X = X := by rw [x_solv, hsm, m_few, q, if_neg (show ¬ (0 : Int32) ≤ -1 by decide), if_pos (by decide)]
    have e2 : m_solv Z = Z := by rw [m_solv, q, if_neg (show ¬ (0 : Int32) ≤ -1 by decide)]
    rw [e1, e2]; exact rel_mono (by omega) h
  · have hf : m_f0 Z = i := by rw [m_f0, q, nI_clamp (by omega)]
    have hp : 0 ≤ m_ff Z := by rw [q]; exact nI_pos' (by omega)
    have hfew : m_few Z = nI (m_dp Z i) := by rw [m_few, if_pos hp, show (m_ff Z).toNatClampNeg = i from hf]
    have hdp := (hs.2.2.2.2.2.2 i (by omega)).1
    have e2 : m_solv Z = svS Z (m_dp Z i) := by rw [m_solv, if_pos hp, hf]
    by_cases hD : m_dp Z i = 0
    · have e1 : x_solv X = X := by rw [x_solv, hsm, hfew, hD, if_pos (by decide)]
      rw [e1, e2, hD]; exact rel_mono (by omega) h
    · have e1 : x_solv X = ((j_pp (x_J X), s_pos (x_S X), j_mc (x_J X) + nI (m_dp Z i), j_dc (x_J X) + s_tcS Z, 0), x_S X, x_Y X) := by
        rw [x_solv, hsm, hfew, if_neg (nI_nle (by omega) (by omega)), hsc]
      have hsv := svS_ok hs hl hroot (by omega) (m_dp Z i) (by rw [hf]; exact Nat.le_refl _)
      obtain ⟨v1, v2, v3, -⟩ := hsv
      rw [hf, ancL_out (by omega)] at v1 v3
      obtain ⟨g, a, c, hfr⟩ := svS_frame Z (m_dp Z i)
      rw [hfr] at v1 v2 v3
      rw [e1, e2, hfr]
      have v1 : ∀ u, u < m_n Z → g u = lk_g Z i u := v1
      have v2 : a = m_mo Z + nI (m_dp Z i) := v2
      have v3 : c = m_dr Z + tcL Z 799 i := v3
      obtain ⟨h1, h2, h3, h4, h5, h6, h7, h8', ⟨t, ht, h9⟩, h10, h11, h12, h13, h14, h15⟩ := h
      obtain ⟨f1, f2, f3, f4, f5⟩ := hs.2.2.2.1 i hi
      have hg : good (m_wGo Z g a c) g := good_c (M := Z) rfl rfl rfl rfl rfl v1 f4
      refine ⟨⟨h1.1, fun u hu => ?_, h1.2.2⟩, h2, h3, h4, ?_, h6, ?_, ?_, ⟨t + m_dp Z i, by omega, ?_⟩, hg.2, h11, hg.1, h13, ?_, Or.inl rfl⟩
      · obtain ⟨c1_, c2_, c3_, c4_, c5_, c6_⟩ := h1.2.1 u hu
        refine ⟨c1_, c2_, c3_, c4_, ?_, c6_⟩
        show g u + m_sz Z u ≤ 6
        rw [v1 u hu]; exact hl.2.2 i hi u hu
      · show s_pos (x_S X) = nI (p8 (m_n Z) g)
        rw [s_pos_at hs hi q, p8_ext (m_n Z) v1]
      · show j_mc (x_J X) + nI (m_dp Z i) = a
        rw [v2, h7]
      · show j_dc (x_J X) + s_tcS Z = c
        rw [v3, h8', s_tcS, if_pos hp, hf]
      · show a = nI (t + m_dp Z i)
        rw [v2, h9, nI_add]
      · intro hz
        have hz : a = 0 := hz
        rw [v2, h9, nI_add] at hz
        exact absurd hz (nI_ne0 (by omega) (by omega))
theorem fat_rch {S : SS} {Z : MS} {v p : Nat} (hs : sim S Z) (hl : look_ok Z) (hv : v < m_n Z) : ∀ d t, t + d = 800 → t ≤ m_fm Z → (m_rch Z v (nI p) t = false) → s_fat S (nI v) (nI p) d t = b1 (m_rch Z v (nI p) (m_fm Z) = true)
  | 0, t, hd, ht, h => by
    have h8 : m_fm Z ≤ 800 := hs.2.2.1.1
    rw [s_fat, show m_fm Z = t by omega, h]; rfl
  | d + 1, t, hd, ht, h => by
    have h8 : m_fm Z ≤ 800 := hs.2.2.1.1
    rw [s_fat, hs.1]
    by_cases q : t < m_fm Z
    · rw [if_pos (fun z => absurd ((nI_leI (by omega) (by omega)).mp z) (by omega)), (hs.2.2.2.1 t q).2.1, pl_p8 hl.1.1 (fitm8 hl.1 (lk_fit hl q)) hv]
      have hstep : m_rch Z v (nI p) (t + 1) = (m_rch Z v (nI p) t || decide (nI (dgN (m_fo Z t) v) = nI p)) := rfl
      by_cases w : nI (lk_g Z t v) = nI p
      · rw [if_pos w]
        have hmono : ∀ n, m_rch Z v (nI p) (t + 1 + n) = true := fun n => by
          induction n with
          | zero => show m_rch Z v (nI p) (t + 1) = true
                    rw [hstep, Bool.or_eq_true]; exact Or.inr (decide_eq_true w)
          | succ n ih => show (m_rch Z v (nI p) (t + 1 + n) || _) = true
                         rw [ih]; rfl
        have := hmono (m_fm Z - (t + 1))
        rw [show t + 1 + (m_fm Z - (t + 1)) = m_fm Z by omega] at this
        rw [this]; rfl
      · rw [if_neg w]
        refine fat_rch hs hl hv d (t + 1) (by omega) (by omega) ?_
        rw [hstep, h, Bool.false_or]
        exact decide_eq_false w
    · rw [if_neg (not_not_intro ((nI_leI (by omega) (by omega)).mpr (by omega))), show m_fm Z = t by omega, h]; rfl
