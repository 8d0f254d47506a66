/-! PURE: who stands on a cell -/
theorem p6 {r q : Int32} (h : inL r ∧ inL q) : ∃ rn qn : Nat, rn < 6 ∧ qn < 6 ∧ r = nI rn ∧ q = nI qn ∧ (6 * r + q).toNatClampNeg = 6 * rn + qn := by
  obtain ⟨rn, hr, rfl⟩ := inL_ex h.1
  obtain ⟨qn, hq, rfl⟩ := inL_ex h.2
  exact ⟨rn, qn, hr, hq, rfl, rfl, by rw [n6, nI_clamp (by omega)]⟩
theorem inY_iff (r q : Int32) : inY r q ↔ inL r ∧ inL q := ⟨fun h => ⟨⟨h.1, h.2.1⟩, ⟨h.2.2.1, h.2.2.2⟩⟩, fun h => ⟨h.1.1, h.1.2, h.2.1, h.2.2⟩⟩
theorem cel_on {Y : YS} {M : MS} {f : Nat → Nat} {v rn qn : Nat} (h : yr Y M) (hf : fit M f) (hv : v < m_n M) (hr : rn < 6) (hq : qn < 6) : y_cel Y (nI (p8 (m_n M) f)) (nI v) &&& co (nI rn) (nI qn) = 0 ↔ ¬ occV M f v (6 * rn + qn) := by
  rw [gb_disj]
  constructor
  · intro hd hc
    exact hd (6 * rn + qn) (by omega) ((gb_cel h hf hv (by omega)).mpr hc) ((gb_co hr hq (by omega)).mpr rfl)
  · intro hn c hc h1 h2
    rw [gb_co hr hq hc] at h2
    subst h2
    exact hn ((gb_cel h hf hv hc).mp h1)
/-- the class's search for who stands there, against the laid yard -/
theorem on_at {Y : YS} {M : MS} {rn qn : Nat} (h : yr Y M) (hok : m_ok M) (hno : noO M (m_pl M)) (hr : rn < 6) (hq : qn < 6) : ∀ d t, t + d = m_n M → (∀ u, u < t → ¬ occV M (m_pl M) u (6 * rn + qn)) →
    (y_on Y (nI (p8 (m_n M) (m_pl M))) (co (nI rn) (nI qn)) d t = -1 ∧ m_yd (m_lay M) (6 * rn + qn) = 0) ∨ ∃ u, u < m_n M ∧ y_on Y (nI (p8 (m_n M) (m_pl M))) (co (nI rn) (nI qn)) d t = nI u ∧ m_yd (m_lay M) (6 * rn + qn) = u + 1
  | 0, t, hd, hn => Or.inl ⟨rfl, (lay_0 M (by omega)).mpr (fun ⟨u, hu, hc⟩ => hn u (by omega) hc)⟩
  | d + 1, t, hd, hn => by
    rw [y_on]
    by_cases q : occV M (m_pl M) t (6 * rn + qn)
    · rw [if_neg (fun z => (cel_on h (pl_fit hok) (by omega) hr hq).mp z q)]
      exact Or.inr ⟨t, by omega, rfl, ly_v_at q (fun w hw hw2 hc => by have := hno t w _ (by omega) hw2 q hc; omega) (m_n M) (by omega) (Nat.le_refl _)⟩
    · rw [if_pos ((cel_on h (pl_fit hok) (by omega) hr hq).mpr q)]
      refine on_at h hok hno hr hq d (t + 1) (by omega) (fun u hu => ?_)
      rcases (show u < t ∨ u = t by omega) with z | z
      · exact hn u z
      · subst z; exact q
