/-! PURE: a table of slots, probed one after the other -/
/-- n entries; T: which entry a slot holds (0: none); st i: where the probing for entry i begins -/
def tab (T : Nat → Nat) (st : Nat → Nat) (n : Nat) : Prop :=
  n ≤ 800 ∧ (∀ j, j < 2048 → T j ≤ n) ∧ cz T 2048 ≤ n ∧ ∀ i, i < n → ∃ t, t < 2048 ∧ T ((st i + t) % 2048) = i + 1 ∧ ∀ u, u < t → ¬ T ((st i + u) % 2048) = 0
/-- the slot r where the probing from s stops; K i: entry i has the key -/
def stopAt (T : Nat → Nat) (K : Nat → Prop) (s r : Nat) : Prop := ∃ k, k < 2048 ∧ r = (s + k) % 2048 ∧ (T r = 0 ∨ K (T r - 1)) ∧ ∀ u, u < k → ¬ T ((s + u) % 2048) = 0 ∧ ¬ K (T ((s + u) % 2048) - 1)
theorem tab_lt {T st : Nat → Nat} {n s k : Nat} (h : tab T st n) (hk : k ≤ 2048) (hv : ∀ i, i < k → ¬ T ((s + i) % 2048) = 0) : k < 2048 := by
  rcases Nat.lt_or_ge k 2048 with q | q
  · exact q
  · exfalso
    obtain ⟨j, h1, h2⟩ := cz_zero (f := T) 2048 (by have := h.1; have := h.2.2.1; omega)
    refine hv ((j + 2048 - s % 2048) % 2048) (by omega) ?_
    rw [show (s + (j + 2048 - s % 2048) % 2048) % 2048 = j by omega]
    exact h2
theorem tab_0 {T st : Nat → Nat} (h : ∀ j, j < 2048 → T j = 0) : tab T st 0 :=
  ⟨Nat.zero_le _, fun j hj => by rw [h j hj]; exact Nat.le_refl _, by rw [cz_0 2048 h]; exact Nat.le_refl _, fun i hi => absurd hi (Nat.not_lt_zero _)⟩
theorem stop_free {T st : Nat → Nat} {n s r : Nat} {K : Nat → Prop} (h : tab T st n) (hs : ∀ i, i < n → K i → st i = s) (hr : stopAt T K s r) : T r = 0 ↔ ∀ i, i < n → ¬ K i := by
  obtain ⟨k, hk, rfl, h1, h2⟩ := hr
  have hlt : (s + k) % 2048 < 2048 := Nat.mod_lt _ (by decide)
  constructor
  · intro h0 i hi hK
    obtain ⟨t, ht, h3, h4⟩ := h.2.2.2 i hi
    rw [hs i hi hK] at h3 h4
    rcases Nat.lt_trichotomy k t with q | q | q
    · exact h4 k q h0
    · subst q; rw [h0] at h3; omega
    · have := (h2 t q).2
      rw [h3] at this
      exact this hK
  · intro hn
    rcases h1 with h1 | h1
    · exact h1
    · by_cases h0 : T ((s + k) % 2048) = 0
      · exact h0
      · have := h.2.1 _ hlt
        exact absurd h1 (hn _ (by omega))
theorem tab_add {T st st2 : Nat → Nat} {n s r : Nat} {K : Nat → Prop} (h : tab T st n) (hn : n < 800) (hr : stopAt T K s r) (h0 : T r = 0) (hst : ∀ i, i < n → st2 i = st i) (hsn : st2 n = s) : tab (updN T r (n + 1)) st2 (n + 1) := by
  obtain ⟨k, hk, hrk, h1, h2⟩ := hr
  have hlt : r < 2048 := by rw [hrk]; exact Nat.mod_lt _ (by decide)
  refine ⟨by omega, fun j hj => ?_, ?_, fun i hi => ?_⟩
  · by_cases q : j = r
    · rw [q, updN_s]; exact Nat.le_refl _
    · rw [updN_n q]; have := h.2.1 j hj; omega
  · have := cz_upd (f := T) (k := r) (x := n + 1) 2048
    have := h.2.2.1
    split at * <;> omega
  · rcases (show i < n ∨ i = n by omega) with q | q
    · obtain ⟨t, ht, h3, h4⟩ := h.2.2.2 i q
      refine ⟨t, ht, ?_, fun u hu => ?_⟩
      · rw [hst i q, updN_n (fun z => by rw [z, h0] at h3; omega), h3]
      · rw [hst i q]
        by_cases z : (st i + u) % 2048 = r
        · rw [z, updN_s]; omega
        · rw [updN_n z]; exact h4 u hu
    · subst q
      refine ⟨k, hk, ?_, fun u hu => ?_⟩
      · rw [hsn, ← hrk, updN_s]
      · rw [hsn, updN_n (fun z => (h2 u hu).1 (by rw [z]; exact h0))]
        exact (h2 u hu).1
/-! the class's probing -/
def h_st (x : Int32) : Nat := (h_first x).toBitVec.toNat % 2048
theorem h_slot_nI (x : Int32) (k : Nat) : h_slot x k = nI ((h_st x + k) % 2048) := by
  unfold h_slot h_st
  rw [pk_and _ (m := 2047) 11 (by decide), Int32.toBitVec_add, BitVec.toNat_add, show (nI k).toBitVec = BitVec.ofNat 32 k from rfl, BitVec.toNat_ofNat]
  congr 1
  omega
theorem s_stop_iff {S : SS} {T : Nat → Nat} {x : Int32} {k : Nat} (hT : ∀ j, j < 2048 → s_sl S j = nI (T j)) (hv : ∀ j, j < 2048 → T j ≤ 800) : s_stop S x k ↔ (T ((h_st x + k) % 2048) = 0 ∨ s_fo S (T ((h_st x + k) % 2048) - 1) = x) := by
  have hlt : (h_st x + k) % 2048 < 2048 := Nat.mod_lt _ (by decide)
  unfold s_stop
  rw [h_slot_nI, nI_clamp (by omega), hT _ hlt]
  have h8 := hv _ hlt
  generalize T ((h_st x + k) % 2048) = t at h8 ⊢
  cases t with
  | zero => exact ⟨fun _ => Or.inl rfl, fun _ => Or.inl (by decide)⟩
  | succ m =>
    rw [nI_pred, nI_clamp (by omega), Nat.add_sub_cancel]
    constructor
    · rintro (q | q | q)
      · exact absurd q (nI_pos (by omega))
      · exact absurd ((nI_leI (a := 800) (by omega) (by omega)).mp q) (by omega)
      · exact Or.inr q
    · rintro (q | q)
      · omega
      · exact Or.inr (Or.inr q)
theorem s_slot_stop {S : SS} {T st : Nat → Nat} {n : Nat} {x : Int32} (hT : ∀ j, j < 2048 → s_sl S j = nI (T j)) (h : tab T st n) : ∀ d k, k + d = 2048 → (∀ u, u < k → ¬ T ((h_st x + u) % 2048) = 0 ∧ ¬ s_fo S (T ((h_st x + u) % 2048) - 1) = x) → ∃ r, r < 2048 ∧ s_slotL S x d k = nI r ∧ stopAt T (fun i => s_fo S i = x) (h_st x) r
  | 0, k, hk, hu => by
    have := tab_lt (s := h_st x) (k := k) h (by omega) (fun i hi => (hu i hi).1)
    omega
  | d + 1, k, hk, hu => by
    rw [s_slotL]
    have hs := s_stop_iff (x := x) (k := k) hT (fun j hj => by have := h.2.1 j hj; have := h.1; omega)
    by_cases q : s_stop S x k
    · rw [if_pos q]
      exact ⟨(h_st x + k) % 2048, Nat.mod_lt _ (by decide), h_slot_nI x k, k, by omega, rfl, hs.mp q, hu⟩
    · rw [if_neg q]
      refine s_slot_stop hT h d (k + 1) (by omega) (fun u hu2 => ?_)
      rcases (show u < k ∨ u = k by omega) with z | z
      · exact hu u z
      · subst z
        exact ⟨fun z => q (hs.mpr (Or.inl z)), fun z => q (hs.mpr (Or.inr z))⟩
/-! the reference's probing -/
theorem tk_stop {M : MS} {st : Nat → Nat} {n p s : Nat} (h : tab (m_sl M) st n) : ∀ d k, k + d = 2048 → (∀ u, u < k → ¬ m_sl M ((s + u) % 2048) = 0 ∧ ¬ m_fo M (m_sl M ((s + u) % 2048) - 1) = p) → stopAt (m_sl M) (fun i => m_fo M i = p) s (tkL M p d ((s + k) % 2048))
  | 0, k, hk, hu => by
    have := tab_lt (s := s) (k := k) h (by omega) (fun i hi => (hu i hi).1)
    omega
  | d + 1, k, hk, hu => by
    rw [tkL]
    by_cases q : ¬ m_sl M ((s + k) % 2048) = 0 ∧ ¬ m_fo M (m_sl M ((s + k) % 2048) - 1) = p
    · rw [if_pos q, show ((s + k) % 2048 + 1) % 2048 = (s + (k + 1)) % 2048 by omega]
      refine tk_stop h d (k + 1) (by omega) (fun u hu2 => ?_)
      rcases (show u < k ∨ u = k by omega) with z | z
      · exact hu u z
      · subst z; exact q
    · rw [if_neg q]
      refine ⟨k, by omega, rfl, ?_, hu⟩
      by_cases z : m_sl M ((s + k) % 2048) = 0
      · exact Or.inl z
      · by_cases w : m_fo M (m_sl M ((s + k) % 2048) - 1) = p
        · exact Or.inr w
        · exact absurd ⟨z, w⟩ q
