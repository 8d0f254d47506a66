/-! PURE: the class's yard and the reference's, and how far a vehicle can go -/
abbrev occV (M : MS) (f : Nat → Nat) (v c : Nat) : Prop := occ (m_ac M v) (m_li M v) (f v) (m_sz M v) c
def yr (Y : YS) (M : MS) : Prop := y_n Y = m_n M ∧ m_n M ≤ 9 ∧ ∀ v, v < m_n M → (2 ≤ m_sz M v ∧ m_sz M v ≤ 4 ∧ m_ac M v ≤ 1 ∧ m_li M v < 6) ∧ y_sz Y v = nI (m_sz M v) ∧ y_ac Y v = nI (m_ac M v) ∧ y_li Y v = nI (m_li M v) ∧ ∀ c, c < 64 → (gb (y_sh Y v) c = true ↔ occ (m_ac M v) (m_li M v) 0 (m_sz M v) c)
def rr (Y : YS) (M : MS) : Prop := ∀ c, c < 64 → (gb (y_rp Y) c = true ↔ nI c = m_rp M)
def fit (M : MS) (f : Nat → Nat) : Prop := ∀ v, v < m_n M → f v + m_sz M v ≤ 6
theorem fit8 {Y : YS} {M : MS} {f : Nat → Nat} (h : yr Y M) (hf : fit M f) : ∀ v, v < m_n M → f v < 8 := fun v hv => by
  have := hf v hv; omega
theorem fit6 {Y : YS} {M : MS} {f : Nat → Nat} (h : yr Y M) (hf : fit M f) : ∀ v, v < m_n M → f v < 6 := fun v hv => by
  have := hf v hv; have := (h.2.2 v hv).1.1; omega
theorem y_has_of {Y : YS} {M : MS} {v : Nat} (h : yr Y M) (hv : v < m_n M) : y_has Y (nI v) := by
  have h9 := h.2.1
  refine ⟨nI_pos (by omega), ?_, ?_⟩
  · rw [h.1]; exact fun q => absurd ((nI_leI (by omega) (by omega)).mp q) (by omega)
  · exact fun q => absurd ((nI_leI (a := 9) (by omega) (by omega)).mp q) (by omega)
theorem y_has_iff {Y : YS} {M : MS} (h : yr Y M) (x : Int32) : y_has Y x ↔ m_has M x := by
  constructor
  · rintro ⟨h1, h2, -⟩; rw [h.1] at h2; exact ⟨h1, h2⟩
  · rintro ⟨h1, h2⟩
    obtain ⟨j, hj, rfl⟩ := vp_in_of (cl_in h1 h2 (by have := h.2.1; omega)) (by have := h.2.1; omega)
    exact y_has_of h hj
theorem m_cl_sh (a l p i : Nat) : m_cl a l (p + i) = m_cl a l (0 + i) + (if a = 1 then p else 6 * p) := by
  unfold m_cl; split <;> omega
theorem gb_cel {Y : YS} {M : MS} {f : Nat → Nat} {v c : Nat} (h : yr Y M) (hf : fit M f) (hv : v < m_n M) (hc : c < 64) : gb (y_cel Y (nI (p8 (m_n M) f)) (nI v)) c = true ↔ occV M f v c := by
  obtain ⟨⟨b1_, b2_, b3_, b4_⟩, e1, e2, e3, e4⟩ := h.2.2 v hv
  have hp := hf v hv
  have h9 := h.2.1
  unfold y_cel
  rw [if_pos (y_has_of h hv), nI_clamp (by omega), pl_p8 h9 (fit8 h hf) hv]
  have es : y_str Y (nI v) * nI (f v) = nI (if m_ac M v = 1 then f v else 6 * f v) := by
    unfold y_str
    rw [nI_clamp (by omega), e2]
    rcases (show m_ac M v = 0 ∨ m_ac M v = 1 by omega) with q | q
    · rw [q, if_pos (by decide), if_neg (by decide)]; exact pk_mul 6 _
    · rw [q, if_neg (by decide), if_pos rfl]; exact Int32.one_mul _
  rw [es]
  have hn : (if m_ac M v = 1 then f v else 6 * f v) < 64 := by split <;> omega
  rw [gb_shl _ hn hc, Bool.and_eq_true, decide_eq_true_iff, e4 _ (by omega)]
  constructor
  · rintro ⟨h1, i, hi, h2⟩
    refine ⟨i, hi, ?_⟩
    rw [m_cl_sh]; omega
  · rintro ⟨i, hi, h2⟩
    rw [m_cl_sh] at h2
    exact ⟨by omega, i, hi, by omega⟩
theorem gb_fil {Y : YS} {M : MS} {f : Nat → Nat} {c : Nat} (h : yr Y M) (hf : fit M f) (hc : c < 64) : ∀ k, k ≤ m_n M → (gb (y_fil Y (nI (p8 (m_n M) f)) k) c = true ↔ ∃ v, v < k ∧ occV M f v c)
  | 0, _ => by
    rw [show y_fil Y (nI (p8 (m_n M) f)) 0 = 0 from rfl, gb_0]
    constructor
    · intro q; exact absurd q (by decide)
    · rintro ⟨v, hv, -⟩; omega
  | k + 1, hk => by
    rw [show y_fil Y (nI (p8 (m_n M) f)) (k + 1) = y_fil Y (nI (p8 (m_n M) f)) k ||| y_cel Y (nI (p8 (m_n M) f)) (nI k) from rfl, gb_or, Bool.or_eq_true, gb_fil h hf hc k (by omega), gb_cel h hf (by omega) hc]
    constructor
    · rintro (⟨v, hv, q⟩ | q)
      · exact ⟨v, by omega, q⟩
      · exact ⟨k, by omega, q⟩
    · rintro ⟨v, hv, q⟩
      rcases (show v < k ∨ v = k by omega) with h1 | h1
      · exact Or.inl ⟨v, h1, q⟩
      · subst h1; exact Or.inr q
theorem y_bar_gb {Y : YS} {M : MS} {v c : Nat} (h : yr Y M) (hr : rr Y M) (hv : v < m_n M) (hc : c < 64) : gb (y_bar Y (y_sz Y v)) c = true ↔ ¬ m_sz M v = 2 ∧ nI c = m_rp M := by
  obtain ⟨⟨b1_, b2_, b3_, b4_⟩, e1, -⟩ := h.2.2 v hv
  unfold y_bar
  rw [e1]
  by_cases q : m_sz M v = 2
  · rw [q, if_pos (by decide), gb_0]
    constructor
    · intro q; exact absurd q (by decide)
    · rintro ⟨q2, -⟩; exact absurd rfl q2
  · rw [if_neg (fun z => q (by have := (nI_leI (a := m_sz M v) (b := 2) (by omega) (by omega)).mp z; omega)), hr c hc]
    exact ⟨fun z => ⟨q, z⟩, fun z => z.2⟩
/-! the reference's laid yard -/
theorem ly_k_in {a l p w : Nat} {g : Nat → Nat} {c : Nat} : ∀ k, (∃ i, i < k ∧ c = m_cl a l (p + i)) → ly_k a l p w g k c = w
  | 0, ⟨i, hi, _⟩ => absurd hi (by omega)
  | k + 1, ⟨i, hi, hc⟩ => by
    show updN (ly_k a l p w g k) (m_cl a l (p + k)) w c = w
    by_cases q : c = m_cl a l (p + k)
    · rw [q, updN_s]
    · rw [updN_n q]
      refine ly_k_in k ⟨i, ?_, hc⟩
      rcases (show i < k ∨ i = k by omega) with h | h
      · exact h
      · subst h; exact absurd hc q
theorem ly_k_out {a l p w : Nat} {g : Nat → Nat} {c : Nat} : ∀ k, (¬ ∃ i, i < k ∧ c = m_cl a l (p + i)) → ly_k a l p w g k c = g c
  | 0, _ => rfl
  | k + 1, h => by
    show updN (ly_k a l p w g k) (m_cl a l (p + k)) w c = g c
    rw [updN_n (fun q => h ⟨k, by omega, q⟩)]
    exact ly_k_out k (fun ⟨i, hi, hc⟩ => h ⟨i, by omega, hc⟩)
theorem ly_v_0 {M : MS} {g : Nat → Nat} {c : Nat} (hg : g c = 0) : ∀ v, (ly_v M g v c = 0 ↔ ¬ ∃ u, u < v ∧ occV M (m_pl M) u c)
  | 0 => ⟨fun _ ⟨u, hu, _⟩ => absurd hu (by omega), fun _ => hg⟩
  | v + 1 => by
    have ih := ly_v_0 (M := M) hg v
    by_cases q : occV M (m_pl M) v c
    · rw [show ly_v M g (v + 1) c = v + 1 from ly_k_in _ q]
      exact ⟨fun z => absurd z (by omega), fun z => absurd ⟨v, by omega, q⟩ z⟩
    · rw [show ly_v M g (v + 1) c = ly_v M g v c from ly_k_out _ q, ih]
      constructor
      · rintro z ⟨u, hu, hc⟩
        rcases (show u < v ∨ u = v by omega) with h | h
        · exact z ⟨u, h, hc⟩
        · subst h; exact q hc
      · rintro z ⟨u, hu, hc⟩
        exact z ⟨u, by omega, hc⟩
/-- with cells apart, the yard tells who stands on a cell -/
theorem ly_v_at {M : MS} {g : Nat → Nat} {c u : Nat} (hu : occV M (m_pl M) u c) (hd : ∀ w, u < w → w < m_n M → ¬ occV M (m_pl M) w c) : ∀ v, u < v → v ≤ m_n M → ly_v M g v c = u + 1
  | 0, h, _ => absurd h (by omega)
  | v + 1, h, hv => by
    rcases (show u = v ∨ u < v by omega) with q | q
    · subst q; exact ly_k_in _ hu
    · rw [show ly_v M g (v + 1) c = ly_v M g v c from ly_k_out _ (hd v q (by omega))]
      exact ly_v_at hu hd v q (by omega)
theorem lay_0 (M : MS) {c : Nat} (hc : c < 36) : m_yd (m_lay M) c = 0 ↔ ¬ ∃ u, u < m_n M ∧ occV M (m_pl M) u c :=
  ly_v_0 (by rw [fillN, if_pos hc]) _
theorem m_cl_inj {a l p q : Nat} (h : m_cl a l p = m_cl a l q) : p = q := by
  unfold m_cl at h; split at h <;> omega
/-- the two ways of looking how far one can go, step by step: P the place behind k steps, fr the cell that comes to be filled -/
theorem way_step {Y : YS} {M : MS} {X : MS} {f : Nat → Nat} {v : Nat} (h : yr Y M) (hr : rr Y M) (hf : fit M f) (hv : v < m_n M)
    (hX : m_n X = m_n M ∧ m_sz X = m_sz M ∧ m_ac X = m_ac M ∧ m_li X = m_li M ∧ m_rp X = m_rp M) (hpl : ∀ u, u < m_n M → m_pl X u = f u) (hyd : ∀ c, c < 36 → (m_yd X c = 0 ↔ ¬ ∃ u, u < m_n M ∧ occV M f u c))
    {P g : Nat} {w1 w2 : Int64} (hw1 : ∀ c, c < 64 → (gb w1 c = true ↔ occ (m_ac M v) (m_li M v) P (m_sz M v) c)) (hw2 : ∀ c, c < 64 → (gb w2 c = true → gb w1 c = true ∨ c = m_cl (m_ac M v) (m_li M v) g))
    (hg : g < 6) (hg2 : gb w2 (m_cl (m_ac M v) (m_li M v) g) = true) (hgo : g < f v ∨ f v + m_sz M v ≤ g) (hclear : w1 &&& y_brd Y (nI (p8 (m_n M) f)) (y_fil Y (nI (p8 (m_n M) f)) (m_n M)) (nI v) = 0) :
    (w2 &&& y_brd Y (nI (p8 (m_n M) f)) (y_fil Y (nI (p8 (m_n M) f)) (m_n M)) (nI v) = 0 ↔ m_opn X v (nI g)) := by
  obtain ⟨⟨b1_, b2_, b3_, b4_⟩, e1, e2, e3, e4⟩ := h.2.2 v hv
  obtain ⟨x1, x2, x3, x4, x5⟩ := hX
  have hfr : m_cl (m_ac M v) (m_li M v) g < 36 := m_cl_lt b4_ hg
  have hbr : ∀ c, c < 64 → (gb (y_brd Y (nI (p8 (m_n M) f)) (y_fil Y (nI (p8 (m_n M) f)) (m_n M)) (nI v)) c = true ↔ ((∃ u, u < m_n M ∧ occV M f u c) ∧ ¬ occV M f v c) ∨ (¬ m_sz M v = 2 ∧ nI c = m_rp M)) := by
    intro c hc
    unfold y_brd
    rw [gb_or, Bool.or_eq_true, gb_and, Bool.and_eq_true, gb_not _ hc, gb_fil h hf hc _ (Nat.le_refl _), nI_clamp (by have := h.2.1; omega), y_bar_gb h hr hv hc, Bool.not_eq_true', ← Bool.not_eq_true, gb_cel h hf hv hc]
  have hown : ¬ occV M f v (m_cl (m_ac M v) (m_li M v) g) := by
    rintro ⟨i, hi, hc⟩
    have := m_cl_inj hc
    omega
  have hin : inL (nI g) := ⟨nI_pos (by omega), fun q => absurd ((nI_leI (a := 6) (by omega) (by omega)).mp q) (by omega)⟩
  have hopn : m_opn X v (nI g) ↔ ¬ gb (y_brd Y (nI (p8 (m_n M) f)) (y_fil Y (nI (p8 (m_n M) f)) (m_n M)) (nI v)) (m_cl (m_ac M v) (m_li M v) g) = true := by
    rw [hbr _ (by omega)]
    unfold m_opn
    rw [x2, x3, x4, x5, m_cli_nI b3_, nI_clamp (by omega), hyd _ hfr]
    constructor
    · rintro ⟨-, h1, h2⟩ (⟨h3, -⟩ | ⟨h3, h4⟩)
      · exact h1 h3
      · rcases h2 with h2 | h2
        · exact h3 h2
        · exact h2 h4
    · intro hn
      refine ⟨hin, fun h1 => hn (Or.inl ⟨h1, hown⟩), ?_⟩
      by_cases q : m_sz M v = 2
      · exact Or.inl q
      · exact Or.inr (fun z => hn (Or.inr ⟨q, z⟩))
  rw [hopn, gb_disj]
  constructor
  · intro hd q
    exact hd _ (by omega) hg2 q
  · intro hn c hc h1 h2
    rcases hw2 c hc h1 with q | q
    · exact gb_disj.mp hclear c hc q h2
    · subst q; exact hn h2
