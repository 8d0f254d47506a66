/-! PURE: the way that the class finds is the way that the reference finds -/
abbrev stpN (a : Nat) : Nat := if a = 1 then 1 else 6
theorem y_str_nI {Y : YS} {M : MS} {v : Nat} (h : yr Y M) (hv : v < m_n M) : y_str Y (nI v) = nI (stpN (m_ac M v)) := by
  obtain ⟨⟨b1_, b2_, b3_, b4_⟩, e1, e2, -⟩ := h.2.2 v hv
  have h9 := h.2.1
  unfold y_str stpN
  rw [nI_clamp (by omega), e2]
  rcases (show m_ac M v = 0 ∨ m_ac M v = 1 by omega) with q | q
  · rw [q, if_pos (by decide), if_neg (by decide)]; rfl
  · rw [q, if_neg (by decide), if_pos rfl]; rfl
theorem m_cl_s1 (a l p : Nat) : m_cl a l (p + 1) = m_cl a l p + stpN a := by
  unfold m_cl stpN; split <;> omega
theorem stpN_le (a : Nat) : 1 ≤ stpN a ∧ stpN a ≤ 6 := by unfold stpN; split <;> omega
theorem shf_f {a l P s : Nat} {w : Int64} (hw : ∀ c, c < 64 → (gb w c = true ↔ occ a l P s c)) : ∀ c, c < 64 → (gb (y_shf 1 (nI (stpN a)) w) c = true ↔ occ a l (P + 1) s c) := fun c hc => by
  have hs := stpN_le a
  unfold y_shf
  rw [if_pos rfl, gb_shl _ (by omega) hc, Bool.and_eq_true, decide_eq_true_iff, hw _ (by omega)]
  constructor
  · rintro ⟨h1, i, hi, h2⟩
    exact ⟨i, hi, by rw [show P + 1 + i = P + i + 1 by omega, m_cl_s1]; omega⟩
  · rintro ⟨i, hi, h2⟩
    rw [show P + 1 + i = P + i + 1 by omega, m_cl_s1] at h2
    exact ⟨by omega, i, hi, by omega⟩
theorem shf_b {a l P s : Nat} {w : Int64} (hl : l < 6) (hp : P + 1 + s ≤ 6) (hw : ∀ c, c < 64 → (gb w c = true ↔ occ a l (P + 1) s c)) : ∀ c, c < 64 → (gb (y_shf (-1) (nI (stpN a)) w) c = true ↔ occ a l P s c) := fun c hc => by
  have hs := stpN_le a
  unfold y_shf
  rw [if_neg (by decide), gb_shr _ (by omega)]
  by_cases hb : stpN a + c < 64
  · rw [hw _ hb]
    constructor
    · rintro ⟨i, hi, h2⟩
      rw [show P + 1 + i = P + i + 1 by omega, m_cl_s1] at h2
      exact ⟨i, hi, by omega⟩
    · rintro ⟨i, hi, h2⟩
      exact ⟨i, hi, by rw [show P + 1 + i = P + i + 1 by omega, m_cl_s1]; omega⟩
  · rw [gb_big (by omega)]
    constructor
    · intro q; exact absurd q (by decide)
    · intro q
      have := occ_lt hl (by omega) q
      omega
/-- X: the reference with the places f and the yard laid -/
def atf (M X : MS) (f : Nat → Nat) : Prop := m_n X = m_n M ∧ m_sz X = m_sz M ∧ m_ac X = m_ac M ∧ m_li X = m_li M ∧ m_rp X = m_rp M ∧ (∀ u, u < m_n M → m_pl X u = f u) ∧ (∀ c, c < 36 → (m_yd X c = 0 ↔ ¬ ∃ u, u < m_n M ∧ occV M f u c))
theorem atf.e1 {M X : MS} {f : Nat → Nat} (h : atf M X f) : m_n X = m_n M := h.1
theorem atf.e2 {M X : MS} {f : Nat → Nat} (h : atf M X f) : m_sz X = m_sz M := h.2.1
theorem atf.e3 {M X : MS} {f : Nat → Nat} (h : atf M X f) : m_ac X = m_ac M := h.2.2.1
theorem atf.e4 {M X : MS} {f : Nat → Nat} (h : atf M X f) : m_li X = m_li M := h.2.2.2.1
theorem atf.e5 {M X : MS} {f : Nat → Nat} (h : atf M X f) : m_rp X = m_rp M := h.2.2.2.2.1
theorem atf.ep {M X : MS} {f : Nat → Nat} (h : atf M X f) : ∀ u, u < m_n M → m_pl X u = f u := h.2.2.2.2.2.1
theorem atf.ey {M X : MS} {f : Nat → Nat} (h : atf M X f) : ∀ c, c < 36 → (m_yd X c = 0 ↔ ¬ ∃ u, u < m_n M ∧ occV M f u c) := h.2.2.2.2.2.2
abbrev offR (M : MS) (f : Nat → Nat) : Prop := ∀ v, v < m_n M → ¬ m_sz M v = 2 → ∀ c, occV M f v c → ¬ nI c = m_rp M
theorem way_f {Y : YS} {M X : MS} {f : Nat → Nat} {v : Nat} (h : yr Y M) (hr : rr Y M) (hf : fit M f) (hv : v < m_n M) (hX : atf M X f) :
    ∀ d k w, k + d = 6 - (f v + m_sz M v) → (∀ c, c < 64 → (gb w c = true ↔ occ (m_ac M v) (m_li M v) (f v + k) (m_sz M v) c)) → w &&& y_brd Y (nI (p8 (m_n M) f)) (y_fil Y (nI (p8 (m_n M) f)) (m_n M)) (nI v) = 0 →
    y_wl (y_brd Y (nI (p8 (m_n M) f)) (y_fil Y (nI (p8 (m_n M) f)) (m_n M)) (nI v)) 1 (nI (stpN (m_ac M v))) (nI (6 - (f v + m_sz M v))) d k w = nI (m_wyL X v 1 (7 - k) k)
  | 0, k, w, hk, _, _ => by
    have hb := hf v hv
    rw [m_wyL_out, y_wl]
    · congr 1; omega
    · rintro ⟨⟨-, q⟩, -⟩
      unfold m_wya at q
      rw [if_neg (by decide), hX.ep v hv, hX.e2] at q
      exact q ((nI_leI (a := 6) (by omega) (by omega)).mpr (by omega))
  | d + 1, k, w, hk, hw, hc => by
    have hb := hf v hv
    obtain ⟨⟨b1_, b2_, b3_, b4_⟩, -⟩ := h.2.2 v hv
    have hw2 := shf_f hw
    have hst := way_step (P := f v + k) (g := f v + m_sz M v + k) (w1 := w) (w2 := y_shf 1 (nI (stpN (m_ac M v))) w) h hr hf hv ⟨hX.e1, hX.e2, hX.e3, hX.e4, hX.e5⟩ hX.ep hX.ey hw
      (fun c hc q => by
        obtain ⟨i, hi, h2⟩ := (hw2 c hc).mp q
        rcases (show i + 1 < m_sz M v ∨ i + 1 = m_sz M v by omega) with z | z
        · exact Or.inl ((hw c hc).mpr ⟨i + 1, z, by rw [h2]; congr 1; omega⟩)
        · exact Or.inr (by rw [h2]; congr 1; omega))
      (by omega) ((hw2 _ (by have := m_cl_lt (a := m_ac M v) b4_ (show f v + m_sz M v + k < 6 by omega); omega)).mpr ⟨m_sz M v - 1, by omega, by congr 1; omega⟩) (Or.inr (by omega)) hc
    have ha : m_wya X v 1 k = nI (f v + m_sz M v + k) := by
      unfold m_wya
      rw [if_neg (by decide), hX.ep v hv, hX.e2]
    rw [m_wyL_in (by omega), ha, y_wl]
    by_cases q : m_opn X v (nI (f v + m_sz M v + k))
    · rw [if_pos q, if_pos (hst.mpr q)]
      exact way_f h hr hf hv hX d (k + 1) _ (by omega) (by rw [show f v + (k + 1) = f v + k + 1 by omega]; exact hw2) (hst.mpr q)
    · rw [if_neg q, if_neg (fun z => q (hst.mp z))]
theorem way_b {Y : YS} {M X : MS} {f : Nat → Nat} {v : Nat} (h : yr Y M) (hr : rr Y M) (hf : fit M f) (hv : v < m_n M) (hX : atf M X f) :
    ∀ d k w, k + d = f v → (∀ c, c < 64 → (gb w c = true ↔ occ (m_ac M v) (m_li M v) (f v - k) (m_sz M v) c)) → w &&& y_brd Y (nI (p8 (m_n M) f)) (y_fil Y (nI (p8 (m_n M) f)) (m_n M)) (nI v) = 0 →
    y_wl (y_brd Y (nI (p8 (m_n M) f)) (y_fil Y (nI (p8 (m_n M) f)) (m_n M)) (nI v)) (-1) (nI (stpN (m_ac M v))) (nI (f v)) d k w = nI (m_wyL X v 0 (7 - k) k)
  | 0, k, w, hk, _, _ => by
    have hb := hf v hv
    rw [m_wyL_out, y_wl]
    · congr 1; omega
    · rintro ⟨⟨q, -⟩, -⟩
      unfold m_wya at q
      rw [if_pos rfl, hX.ep v hv, show f v = k by omega] at q
      refine q ?_
      rw [show nI k - 1 - nI k = (-1 : Int32) by
        apply Int32.toBitVec_inj.mp
        simp only [Int32.toBitVec_sub]
        generalize (nI k).toBitVec = x
        rw [BitVec.sub_sub, BitVec.add_comm, ← BitVec.sub_sub, BitVec.sub_self]
        rfl]
      decide
  | d + 1, k, w, hk, hw, hc => by
    have hb := hf v hv
    obtain ⟨⟨b1_, b2_, b3_, b4_⟩, -⟩ := h.2.2 v hv
    have hw2 := shf_b (a := m_ac M v) (s := m_sz M v) (w := w) (P := f v - (k + 1)) b4_ (by omega) (by rw [show f v - (k + 1) + 1 = f v - k by omega]; exact hw)
    have hst := way_step (P := f v - k) (g := f v - (k + 1)) (w1 := w) (w2 := y_shf (-1) (nI (stpN (m_ac M v))) w) h hr hf hv ⟨hX.e1, hX.e2, hX.e3, hX.e4, hX.e5⟩ hX.ep hX.ey hw
      (fun c hc q => by
        obtain ⟨i, hi, h2⟩ := (hw2 c hc).mp q
        rcases (show i = 0 ∨ 0 < i by omega) with z | z
        · exact Or.inr (by rw [h2]; congr 1; omega)
        · exact Or.inl ((hw c hc).mpr ⟨i - 1, by omega, by rw [h2]; congr 1; omega⟩))
      (by omega) ((hw2 _ (by have := m_cl_lt (a := m_ac M v) b4_ (show f v - (k + 1) < 6 by omega); omega)).mpr ⟨0, by omega, by congr 1⟩) (Or.inl (by omega)) hc
    have ha : m_wya X v 0 k = nI (f v - (k + 1)) := by
      unfold m_wya
      rw [if_pos rfl, hX.ep v hv, show (1 : Int32) = nI 1 from rfl, pk_sub (by omega), pk_sub (by omega)]
      congr 1; omega
    rw [m_wyL_in (by omega), ha, y_wl]
    by_cases q : m_opn X v (nI (f v - (k + 1)))
    · rw [if_pos q, if_pos (hst.mpr q)]
      exact way_b h hr hf hv hX d (k + 1) _ (by omega) hw2 (hst.mpr q)
    · rw [if_neg q, if_neg (fun z => q (hst.mp z))]
theorem way_clear {Y : YS} {M : MS} {f : Nat → Nat} {v : Nat} (h : yr Y M) (hr : rr Y M) (hf : fit M f) (hv : v < m_n M) (ho : offR M f) : y_cel Y (nI (p8 (m_n M) f)) (nI v) &&& y_brd Y (nI (p8 (m_n M) f)) (y_fil Y (nI (p8 (m_n M) f)) (m_n M)) (nI v) = 0 := by
  rw [gb_disj]
  intro c hc h1 h2
  have h3 := (gb_cel h hf hv hc).mp h1
  unfold y_brd at h2
  rw [gb_or, gb_and, gb_not _ hc, h1, nI_clamp (by have := h.2.1; omega), Bool.not_true, Bool.and_false, Bool.false_or, y_bar_gb h hr hv hc] at h2
  exact ho v hv h2.1 c h3 h2.2
theorem way_ok {Y : YS} {M X : MS} {f : Nat → Nat} {v : Nat} (h : yr Y M) (hr : rr Y M) (hf : fit M f) (hv : v < m_n M) (hX : atf M X f) (ho : offR M f) :
    y_way Y (nI (p8 (m_n M) f)) (y_fil Y (nI (p8 (m_n M) f)) (m_n M)) (nI v) 1 = nI (m_wy X v 1) ∧ y_way Y (nI (p8 (m_n M) f)) (y_fil Y (nI (p8 (m_n M) f)) (m_n M)) (nI v) (-1) = nI (m_wy X v 0) := by
  have hb := hf v hv
  have h9 := h.2.1
  obtain ⟨⟨b1_, b2_, b3_, b4_⟩, e1, e2, e3, e4⟩ := h.2.2 v hv
  have hcl := way_clear h hr hf hv ho
  have hcel := fun c hc => gb_cel (c := c) h hf hv hc
  have hpl := pl_p8 h9 (fit8 h hf) hv
  constructor
  · have ht : y_tb Y (nI (p8 (m_n M) f)) (nI v) 1 = nI (6 - (f v + m_sz M v)) := by
      unfold y_tb
      rw [if_pos rfl, nI_clamp (by omega), e1, hpl, show (6 : Int32) = nI 6 from rfl, pk_sub (by omega), pk_sub (by omega)]
      congr 1; omega
    unfold y_way
    rw [if_pos (y_has_of h hv), y_str_nI h hv, ht, nI_clamp (by omega)]
    exact way_f h hr hf hv hX _ 0 _ (by omega) hcel hcl
  · have ht : y_tb Y (nI (p8 (m_n M) f)) (nI v) (-1) = nI (f v) := by
      unfold y_tb
      rw [if_neg (by decide), hpl]
    unfold y_way
    rw [if_pos (y_has_of h hv), y_str_nI h hv, ht, nI_clamp (by omega)]
    exact way_b h hr hf hv hX _ 0 _ (by omega) hcel hcl
