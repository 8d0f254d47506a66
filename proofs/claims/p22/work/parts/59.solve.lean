/-! PURE: replaying the way from the root -/
theorem code_dec {v k : Nat} {sg : Int32} (hv : v < 9) (hk : k ≤ 4) (hsg : sg = 1 ∨ sg = -1) : cdN v sg k / 10 = v ∧ nI (cdN v sg k % 10) - 4 = sg * nI k ∧ m_cells (nI (cdN v sg k)) = sg * nI k := by
  have e2 : nI (cdN v sg k % 10) - 4 = sg * nI k := by
    rcases hsg with rfl | rfl
    · rw [cdN, if_pos rfl, Int32.one_mul, show (10 * v + k + 4) % 10 = k + 4 by omega, show (4 : Int32) = nI 4 from rfl, pk_sub (by omega), Nat.add_sub_cancel]
    · rw [cdN, if_neg (by decide), show (10 * v + 4 - k) % 10 = 4 - k by omega]
      exact (by decide +kernel : ∀ k, k < 5 → nI (4 - k) - 4 = (-1) * nI k) k (by omega)
  have hlt := cdN_lt (sg := sg) hv hk
  refine ⟨?_, e2, ?_⟩
  · unfold cdN; split <;> omega
  · unfold m_cells
    rw [show (10 : Int32) = nI 10 from rfl, pk_rem (by omega) (by omega) (by omega), e2]
theorem abs_iabs (c : Int32) : m_abs c = iabs c := by
  unfold m_abs iabs
  split
  · rfl
  · rw [Int32.zero_sub]
theorem svS_frame (Z : MS) : ∀ n, ∃ g a c, svS Z n = m_wGo Z g a c
  | 0 => ⟨m_pl Z, m_mo Z, m_dr Z, rfl⟩
  | n + 1 => by
    obtain ⟨g, a, c, h⟩ := svS_frame Z n
    rw [svS, h]
    exact ⟨_, _, _, rfl⟩
theorem svS_ok {S : SS} {Z : MS} (hs : sim S Z) (hl : look_ok Z) (hroot : ∀ u, u < m_n Z → m_pl Z u = lk_g Z 0 u) (hf : m_f0 Z < m_fm Z) : ∀ n, n ≤ m_dp Z (m_f0 Z) →
    (∀ u, u < m_n Z → m_pl (svS Z n) u = lk_g Z (ancL Z n (m_f0 Z) (m_f0 Z)) u) ∧ m_mo (svS Z n) = m_mo Z + nI n ∧ m_dr (svS Z n) = m_dr Z + tcL Z 799 (ancL Z n (m_f0 Z) (m_f0 Z)) ∧
    (n < m_dp Z (m_f0 Z) → m_by Z (m_anc Z n) / 10 < 9 ∧ nI (m_pl (svS Z n) (m_by Z (m_anc Z n) / 10)) + (nI (m_by Z (m_anc Z n) % 10) - 4) = nI (m_tgt (svS Z n) (m_by Z (m_anc Z n) / 10) (nI (m_by Z (m_anc Z n) % 10) - 4)) ∧
      (∀ u, u < m_n Z → m_pl (svS Z (n + 1)) u = lk_g Z (ancL Z (n + 1) (m_f0 Z) (m_f0 Z)) u) ∧ m_mo (svS Z (n + 1)) = m_mo Z + nI (n + 1) ∧ m_dr (svS Z (n + 1)) = m_dr Z + tcL Z 799 (ancL Z (n + 1) (m_f0 Z) (m_f0 Z))) := by
  have h8 : m_fm Z ≤ 800 := hs.2.2.1.1
  have h9 := hl.1.1
  have hdp : m_dp Z (m_f0 Z) ≤ m_f0 Z := (hs.2.2.2.2.2.2 _ (by omega)).1
  have step : ∀ n, n < m_dp Z (m_f0 Z) → (∀ u, u < m_n Z → m_pl (svS Z n) u = lk_g Z (ancL Z n (m_f0 Z) (m_f0 Z)) u) → m_mo (svS Z n) = m_mo Z + nI n → m_dr (svS Z n) = m_dr Z + tcL Z 799 (ancL Z n (m_f0 Z) (m_f0 Z)) →
      m_by Z (m_anc Z n) / 10 < 9 ∧ nI (m_pl (svS Z n) (m_by Z (m_anc Z n) / 10)) + (nI (m_by Z (m_anc Z n) % 10) - 4) = nI (m_tgt (svS Z n) (m_by Z (m_anc Z n) / 10) (nI (m_by Z (m_anc Z n) % 10) - 4)) ∧
      (∀ u, u < m_n Z → m_pl (svS Z (n + 1)) u = lk_g Z (ancL Z (n + 1) (m_f0 Z) (m_f0 Z)) u) ∧ m_mo (svS Z (n + 1)) = m_mo Z + nI (n + 1) ∧ m_dr (svS Z (n + 1)) = m_dr Z + tcL Z 799 (ancL Z (n + 1) (m_f0 Z) (m_f0 Z)) := by
    intro n hn h1 h2 h3
    have hB := anc_dp hs (n := n) _ _ hf hdp (by omega)
    have hC := anc_dp hs (n := n + 1) _ _ hf hdp (by omega)
    have hst := anc_step hs (n := n) _ _ hf hdp (by omega)
    have hsv : svS Z (n + 1) = m_go (svS Z n) (m_by Z (m_anc Z n) / 10) (nI (m_by Z (m_anc Z n) % 10) - 4) := rfl
    rw [show m_anc Z n = ancL Z (n + 1) (m_f0 Z) (m_f0 Z) from rfl] at hsv ⊢
    generalize ancL Z n (m_f0 Z) (m_f0 Z) = B at *
    generalize ancL Z (n + 1) (m_f0 Z) (m_f0 Z) = C at *
    have hC0 : 0 < C := by
      rcases Nat.eq_zero_or_pos C with w | w
      · have := hC.2; rw [w, (lnk_0 (sim_lnk hs (by omega))).2.1] at this; omega
      · exact w
    obtain ⟨j, v, sg, k, z1, z2, z3, z4, z5, z6, z7, z8, z9, z10, z11⟩ := lnk_up (sim_lnk hs hC.1) hC0
    rw [z8] at hst
    have hjB : j = B := (nI_eq (by have := hC.1; omega) (by have := hB.1; omega)).mp hst
    subst hjB
    obtain ⟨c1, c2, c3⟩ := code_dec (v := v) (k := k) (sg := sg) (by omega) z5 z3
    rw [z10, c1, c2] at hsv ⊢
    have hfit := lk_fit hl hC.1 v z2
    rw [z11 v z2, updN_s] at hfit
    have htg : m_tgt (svS Z n) v (sg * nI k) = stp sg (lk_g Z j v) k := by
      rw [m_tgt, h1 v z2, stp_nI z3 z6, nI_clamp (by omega)]
    refine ⟨by omega, ?_, ?_, ?_, ?_⟩
    · rw [htg, h1 v z2, stp_nI z3 z6]
    · intro u hu
      rw [hsv]
      show updN (m_pl (svS Z n)) v (m_tgt (svS Z n) v (sg * nI k)) u = _
      rw [z11 u hu, htg]
      by_cases q : u = v
      · subst q; rw [updN_s, updN_s]
      · rw [updN_n q, updN_n q, h1 u hu]
    · rw [hsv]
      show m_mo (svS Z n) + 1 = _
      rw [h2, Int32.add_assoc, nI_1]
    · rw [hsv]
      show m_dr (svS Z n) + m_abs (sg * nI k) = _
      rw [h3, show (799 : Nat) = 798 + 1 from rfl, tcL.eq_2 Z C 798, if_neg (show ¬ C = 0 by omega), z10, c3, z8, nI_clamp (by have := hC.1; omega), abs_iabs, tcL_fuel hs 798 (798 + 1) j (by have := hC.1; omega) (by have := hC.1; omega) hB.1, Int32.add_assoc, Int32.add_comm (iabs _)]
  intro n
  induction n with
  | zero =>
    intro _
    have hB := anc_dp hs (n := 0) _ _ hf hdp (by omega)
    have h0 := dp_0 hs hB.1 hB.2
    have e1 : ∀ u, u < m_n Z → m_pl (svS Z 0) u = lk_g Z (ancL Z 0 (m_f0 Z) (m_f0 Z)) u := by rw [h0]; exact hroot
    have e2 : m_mo (svS Z 0) = m_mo Z + nI 0 := by rw [nI_0, Int32.add_zero]; rfl
    have e3 : m_dr (svS Z 0) = m_dr Z + tcL Z 799 (ancL Z 0 (m_f0 Z) (m_f0 Z)) := by
      rw [h0, show tcL Z 799 0 = 0 from if_pos rfl, Int32.add_zero]; rfl
    exact ⟨e1, e2, e3, fun hn => step 0 hn e1 e2 e3⟩
  | succ n ih =>
    intro hn
    obtain ⟨-, -, -, h⟩ := ih (by omega)
    obtain ⟨-, -, h1, h2, h3⟩ := h (by omega)
    exact ⟨h1, h2, h3, fun hn => step (n + 1) hn h1 h2 h3⟩
theorem sim_sv {S : SS} {Z : MS} (hs : sim S Z) (hl : look_ok Z) (hroot : ∀ u, u < m_n Z → m_pl Z u = lk_g Z 0 u) : sv_ok Z := by
  have h8 : m_fm Z ≤ 800 := hs.2.2.1.1
  have hst := hs.2.2.2.2.2.2
  refine ⟨fun i hi => ⟨by have := (hst i hi).1; omega, (hst i hi).2.1⟩, fun i hi h => (hst i hi).2.2 (Or.inr h), fun hp => ?_, fun hp n hn => ?_⟩
  · rcases hs.2.2.2.2.2.1 with q | ⟨j, hj, q⟩
    · rw [q] at hp; exact absurd hp (by decide)
    · have : m_f0 Z = j := by rw [m_f0, q, nI_clamp (by omega)]
      rw [this]; exact ⟨by omega, q⟩
  · rcases hs.2.2.2.2.2.1 with q | ⟨j, hj, q⟩
    · rw [q] at hp; exact absurd hp (by decide)
    · have hf : m_f0 Z = j := by rw [m_f0, q, nI_clamp (by omega)]
      obtain ⟨-, -, -, h⟩ := svS_ok hs hl hroot (by omega) n (by omega)
      obtain ⟨h1, h2, -⟩ := h hn
      exact ⟨h1, h2⟩
theorem sim_fr {S : SS} {Z : MS} (hs : sim S Z) : fr_ok Z := fun i hi h => (hs.2.2.2.2.2.2 i hi).2.2 (Or.inl h)
