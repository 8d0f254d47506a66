/-! PURE: what the law's own methods see -/
/-- who stands on the cell (r, q) -/
def at9 (X : XS) (r q : Nat) : Int32 := y_on (x_Y X) (j_po (x_J X)) (co (nI r) (nI q)) (y_n (x_Y X)) 0
/-- how many of the first cells v fills -/
def fl9 (X : XS) (v : Int32) (n : Nat) : Nat := cB (fun c => decide (at9 X (c / 6) (c % 6) = v)) n
theorem fl9_s (X : XS) (v : Int32) (n : Nat) : fl9 X v (n + 1) = fl9 X v n + (if at9 X (n / 6) (n % 6) = v then 1 else 0) := by
  show cB _ (n + 1) = _
  rw [cB]
  show fl9 X v n + _ = _
  congr 1
  by_cases q : at9 X (n / 6) (n % 6) = v
  · rw [if_pos q, if_pos (decide_eq_true q)]
  · rw [if_neg q, if_neg (by rw [decide_eq_false q]; decide)]
theorem cB_none {P : Nat → Bool} : ∀ k, (∀ i, i < k → P i = false) → cB P k = 0
  | 0, _ => rfl
  | k + 1, h => by rw [cB, cB_none k (fun i hi => h i (by omega)), h k (Nat.lt_succ_self k), if_neg (by decide)]
theorem cB_lt {P : Nat → Bool} (h : P 0 = false) : ∀ k, cB P (k + 1) ≤ k
  | 0 => by rw [cB, cB, h, if_neg (by decide)]; exact Nat.le_refl _
  | k + 1 => by
    have := cB_lt h k
    rw [cB]; split <;> omega
def occB (a l p s c : Nat) : Bool := if a = 1 then decide (c / 6 = l ∧ p ≤ c % 6 ∧ c % 6 < p + s) else decide (c % 6 = l ∧ p ≤ c / 6 ∧ c / 6 < p + s)
theorem occB_iff {a l p s c : Nat} (hl : l < 6) (hp : p + s ≤ 6) : occB a l p s c = true ↔ occ a l p s c := by
  unfold occB occ m_cl
  by_cases q : a = 1
  · rw [if_pos q, decide_eq_true_iff]
    constructor
    · rintro ⟨h1, h2, h3⟩; exact ⟨c % 6 - p, by omega, by rw [if_pos q]; omega⟩
    · rintro ⟨i, hi, h⟩; rw [if_pos q] at h; omega
  · rw [if_neg q, decide_eq_true_iff]
    constructor
    · rintro ⟨h1, h2, h3⟩; exact ⟨c / 6 - p, by omega, by rw [if_neg q]; omega⟩
    · rintro ⟨i, hi, h⟩; rw [if_neg q] at h; omega
set_option maxRecDepth 100000 in
theorem cB_occ : ∀ a, a < 2 → ∀ l, l < 6 → ∀ p, p < 6 → ∀ s, s < 5 → p + s ≤ 6 → cB (occB a l p s) 36 = s := by decide +kernel
theorem at9_of {k : Nat} {X : XS} {M : MS} (h : rel k X M) {r q : Nat} (hr : r < 6) (hq : q < 6) : (at9 X r q = -1 ∧ ∀ u, u < m_n M → ¬ occV M (m_pl M) u (6 * r + q)) ∨ ∃ u, u < m_n M ∧ at9 X r q = nI u ∧ occV M (m_pl M) u (6 * r + q) := by
  obtain ⟨h1, h2, h3, h4, h5, h6, h7, h8, h9, h10, -⟩ := h
  have hon := on_at (Y := x_Y X) h3 h1 h10 hr hq (m_n M) 0 (Nat.zero_add _) (fun u hu => absurd hu (Nat.not_lt_zero _))
  have hw := yd_who (c := 6 * r + q) h10 (by omega)
  unfold at9
  rw [h5, h3.1]
  rcases hon with ⟨z1, z2⟩ | ⟨u, hu, z1, z2⟩
  · rcases hw with ⟨w1, w2⟩ | ⟨t, ht, w1, w2⟩
    · exact Or.inl ⟨z1, w2⟩
    · omega
  · rcases hw with ⟨w1, w2⟩ | ⟨t, ht, w1, w2⟩
    · omega
    · have : t = u := by omega
      subst this
      exact Or.inr ⟨t, ht, z1, w2⟩
theorem nI_m1 {n : Nat} (h : n < 2147483648) : ¬ (-1 : Int32) = nI n := fun z => by
  have := congrArg Int32.toInt z
  rw [nI_toInt h, show ((-1 : Int32)).toInt = -1 from rfl] at this
  omega
theorem at9_is {k : Nat} {X : XS} {M : MS} (h : rel k X M) {r q v : Nat} (hr : r < 6) (hq : q < 6) (hv : v < m_n M) : at9 X r q = nI v ↔ occV M (m_pl M) v (6 * r + q) := by
  have h9 := h.1.1
  rcases at9_of h hr hq with ⟨z1, z2⟩ | ⟨u, hu, z1, z2⟩
  · rw [z1]
    exact ⟨fun z => absurd z (nI_m1 (by omega)), fun z => absurd z (z2 v hv)⟩
  · rw [z1, nI_eq (by omega) (by omega)]
    constructor
    · rintro rfl; exact z2
    · intro z; exact h.2.2.2.2.2.2.2.2.2.1 u v _ hu hv z2 z
theorem fl9_of {k : Nat} {X : XS} {M : MS} (h : rel k X M) {v : Nat} (hv : v < m_n M) : fl9 X (nI v) 36 = m_sz M v := by
  obtain ⟨b1_, b2_, b3_, b4_, b5_, b6_⟩ := h.1.2.1 v hv
  rw [← cB_occ (m_ac M v) (by omega) (m_li M v) b4_ (m_pl M v) (by omega) (m_sz M v) (by omega) b5_]
  refine cB_ext 36 (fun c hc => ?_)
  have e := at9_is h (r := c / 6) (q := c % 6) (v := v) (by omega) (by omega) hv
  rw [show 6 * (c / 6) + c % 6 = c by omega] at e
  have e2 := occB_iff (a := m_ac M v) (c := c) b4_ b5_
  by_cases q : at9 X (c / 6) (c % 6) = nI v
  · rw [decide_eq_true q, e2.mpr (e.mp q)]
  · rw [decide_eq_false q]
    exact (Bool.eq_false_iff.mpr (fun z => q (e.mpr (e2.mp z)))).symm
theorem fl9_n {k : Nat} {X : XS} {M : MS} (h : rel k X M) : fl9 X (nI (m_n M)) 36 = 0 := by
  have h9 := h.1.1
  refine cB_none 36 (fun c hc => decide_eq_false (fun z => ?_))
  rcases at9_of h (r := c / 6) (q := c % 6) (by omega) (by omega) with ⟨z1, z2⟩ | ⟨u, hu, z1, z2⟩
  · rw [z1] at z; exact nI_m1 (by omega) z
  · rw [z1] at z
    have := (nI_eq (by omega) (by omega)).mp z
    omega
def whV (X : XS) (C A : Nat → Int32) (rp : Int32) (v : Nat) : Prop := ∃ r q bk fw sz : Nat, has_th X (nI v) = 0 ∧ j_row X (nI v) = nI r ∧ j_col X (nI v) = nI q ∧ j_way X (nI v) 1 = nI fw ∧ j_way X (nI v) 0 = nI bk ∧ C v = nI sz ∧ fl9 X (nI v) 36 = sz ∧ r < 6 ∧ q < 6 ∧ fw + bk + sz ≤ 6 ∧
  ∀ i, i < bk + sz + fw → ∃ r2 q2 : Nat, r2 < 6 ∧ q2 < 6 ∧ ((A v = 1 ∧ r2 = r ∧ q2 + bk = q + i) ∨ (¬ A v = 1 ∧ r2 + bk = r + i ∧ q2 = q)) ∧ at9 X r2 q2 = (if i < bk ∨ bk + sz ≤ i then -1 else nI v) ∧ (sz = 2 ∨ ¬ nI (6 * r2 + q2) = rp)
theorem cell_of {M : MS} {v g : Nat} {k : Nat} {X : XS} (h : rel k X M) (hv : v < m_n M) {r2 q2 i : Nat} (hr : r2 < 6) (hq : q2 < 6) (hc : 6 * r2 + q2 = m_cl (m_ac M v) (m_li M v) g) (hg : g < 6) (hgi : g + m_wy (m_lay M) v 0 = m_pl M v + i) (hi : i < m_wy (m_lay M) v 0 + m_sz M v + m_wy (m_lay M) v 1) :
    at9 X r2 q2 = (if i < m_wy (m_lay M) v 0 ∨ m_wy (m_lay M) v 0 + m_sz M v ≤ i then -1 else nI v) ∧ (m_sz M v = 2 ∨ ¬ nI (6 * r2 + q2) = m_rp M) := by
  obtain ⟨b1_, b2_, b3_, b4_, b5_, b6_⟩ := h.1.2.1 v hv
  have hok := m_ok_lay h.1
  have hbk := m_wy_back hok (show v < m_n (m_lay M) from hv)
  have hbk : m_wy (m_lay M) v 0 ≤ m_pl M v := hbk
  have free : m_opn (m_lay M) v (nI g) → at9 X r2 q2 = -1 ∧ (m_sz M v = 2 ∨ ¬ nI (6 * r2 + q2) = m_rp M) := fun ho => by
    obtain ⟨o1, o2⟩ := opn_cell b3_ b4_ hg (atf_lay0 M) ho
    rw [← hc] at o1 o2
    refine ⟨?_, o2⟩
    rcases at9_of h hr hq with ⟨z1, z2⟩ | ⟨u, hu, z1, z2⟩
    · exact z1
    · exact absurd ⟨u, hu, z2⟩ o1
  by_cases w1 : i < m_wy (m_lay M) v 0
  · rw [if_pos (Or.inl w1)]
    have ho := wy_opn (X := m_lay M) (v := v) (f := 0) (j := m_wy (m_lay M) v 0 - 1 - i) (by omega)
    rw [m_wya, if_pos rfl, show m_pl (m_lay M) v = m_pl M v from rfl, show (1 : Int32) = nI 1 from rfl, pk_sub (by omega), pk_sub (by omega), show m_pl M v - 1 - (m_wy (m_lay M) v 0 - 1 - i) = g by omega] at ho
    exact free ho
  · by_cases w2 : m_wy (m_lay M) v 0 + m_sz M v ≤ i
    · rw [if_pos (Or.inr w2)]
      have ho := wy_opn (X := m_lay M) (v := v) (f := 1) (j := i - m_wy (m_lay M) v 0 - m_sz M v) (by omega)
      rw [m_wya, if_neg (by decide), show m_pl (m_lay M) v = m_pl M v from rfl, show m_sz (m_lay M) v = m_sz M v from rfl, show m_pl M v + m_sz M v + (i - m_wy (m_lay M) v 0 - m_sz M v) = g by omega] at ho
      exact free ho
    · rw [if_neg (by rintro (z | z) <;> omega)]
      have hocc : occV M (m_pl M) v (6 * r2 + q2) := ⟨i - m_wy (m_lay M) v 0, by omega, by rw [hc]; congr 1; omega⟩
      refine ⟨(at9_is h hr hq hv).mpr hocc, ?_⟩
      by_cases z : m_sz M v = 2
      · exact Or.inl z
      · exact Or.inr (h.2.2.2.2.2.2.2.2.2.2.2.1 v hv z _ hocc)
theorem has_of {k : Nat} {X : XS} {M : MS} (h : rel k X M) {v : Nat} (hv : v < m_n M) : has_th X (nI v) = 0 ∧ j_row X (nI v) = (if m_ac M v = 1 then nI (m_li M v) else nI (m_pl M v)) ∧ j_col X (nI v) = (if m_ac M v = 1 then nI (m_pl M v) else nI (m_li M v)) := by
  have h9 := h.1.1
  have hy : y_has (x_Y X) (nI v) := y_has_of h.2.2.1 hv
  have hm : m_has M (nI v) := (rel_has h (nI v)).mp hy
  have e : has_th X (nI v) = 0 := by rw [has_th, if_pos hy]
  obtain ⟨-, -, e1, e2⟩ := rel_row h (nI v)
  rw [if_pos e] at e1 e2
  refine ⟨e, ?_, ?_⟩
  · rw [← e1, m_row, if_pos hm, nI_clamp (by omega)]
  · rw [← e2, m_col, if_pos hm, nI_clamp (by omega)]
theorem whV_of {k : Nat} {X : XS} {M : MS} (h : rel k X M) {C A : Nat → Int32} {v : Nat} (hv : v < m_n M) (hC : C v = nI (m_sz M v)) (hA : A v = nI (m_ac M v)) : whV X C A (m_rp M) v := by
  obtain ⟨b1_, b2_, b3_, b4_, b5_, b6_⟩ := h.1.2.1 v hv
  obtain ⟨e0, e1, e2⟩ := has_of h hv
  have hok := m_ok_lay h.1
  have hbk : m_wy (m_lay M) v 0 ≤ m_pl M v := m_wy_back hok (show v < m_n (m_lay M) from hv)
  have hfw : m_pl M v + m_sz M v + m_wy (m_lay M) v 1 ≤ 6 := m_wy_fwd (f := 1) (by decide) hok (show v < m_n (m_lay M) from hv)
  have w1 := rel_way h hv 1
  have w0 := rel_way h hv 0
  rcases (show m_ac M v = 1 ∨ m_ac M v = 0 by omega) with q | q
  · rw [if_pos q] at e1 e2
    refine ⟨_, _, _, _, _, e0, e1, e2, w1, w0, hC, fl9_of h hv, b4_, by omega, by omega, fun i hi => ?_⟩
    have hg : m_pl M v + i - m_wy (m_lay M) v 0 < 6 := by omega
    refine ⟨m_li M v, m_pl M v + i - m_wy (m_lay M) v 0, b4_, hg, Or.inl ⟨by rw [hA, q]; rfl, rfl, by omega⟩, ?_⟩
    exact cell_of h hv b4_ hg (by unfold m_cl; rw [if_pos q]) hg (by omega) hi
  · have hne : ¬ m_ac M v = 1 := by omega
    rw [if_neg hne] at e1 e2
    refine ⟨_, _, _, _, _, e0, e1, e2, w1, w0, hC, fl9_of h hv, by omega, b4_, by omega, fun i hi => ?_⟩
    have hg : m_pl M v + i - m_wy (m_lay M) v 0 < 6 := by omega
    refine ⟨m_pl M v + i - m_wy (m_lay M) v 0, m_li M v, hg, b4_, Or.inr ⟨by rw [hA, q]; decide, by omega, rfl⟩, ?_⟩
    exact cell_of h hv hg b4_ (by unfold m_cl; rw [if_neg hne]) hg (by omega) hi
def whO (X : XS) (C A : Nat → Int32) (rp : Int32) : Prop := 0 < y_n (x_Y X) ∧ y_n (x_Y X) ≤ 9 ∧ fl9 X (nI (y_n (x_Y X))) 36 = 0 ∧ (∀ v, v < y_n (x_Y X) → whV X C A rp v) ∧ has_th X 0 = 0 ∧ (pl (j_po (x_J X)) 0 = 4 ↔ j_col X 0 = 4) ∧ j_row X 0 = 2 ∧ j_itw X < nI (y_n (x_Y X)) ∧ (pl (j_po (x_J X)) 0 = 4 → j_itw X = 0)
theorem whO_of {k : Nat} {X : XS} {M : MS} (h : rel k X M) {C A : Nat → Int32} (h0 : 0 < m_n M) (hs : m_sz M 0 = 2) (ha : m_ac M 0 = 1) (hl : m_li M 0 = 2) (hC : ∀ v, v < m_n M → C v = nI (m_sz M v)) (hA : ∀ v, v < m_n M → A v = nI (m_ac M v)) : whO X C A (m_rp M) := by
  have hn : y_n (x_Y X) = m_n M := h.2.2.1.1
  have h9 := h.1.1
  obtain ⟨e0, e1, e2⟩ := has_of h h0
  rw [if_pos ha] at e1 e2
  have hp0 : pl (j_po (x_J X)) 0 = nI (m_pl M 0) := by
    rw [h.2.2.2.2.1, show (0 : Int32) = nI 0 from rfl, pl_p8 h9 (fitm8 h.1 (pl_fit h.1)) h0]
  obtain ⟨b1_, b2_, b3_, b4_, b5_, b6_⟩ := h.1.2.1 0 h0
  have hpn : pl_nat (j_po (x_J X)) 0 = m_pl M 0 := by rw [pl_nat, hp0, nI_clamp (by omega)]
  have hcel : y_cel (x_Y X) (j_po (x_J X)) (nI 0) &&& j_wo (m_pl M 0 + 2) (6 - (m_pl M 0 + 2)) = 0 := by
    rw [gb_disj]
    intro c hc g1 g2
    rw [h.2.2.2.2.1] at g1
    obtain ⟨i, hi, hci⟩ := (gb_cel h.2.2.1 (pl_fit h.1) h0 hc).mp g1
    obtain ⟨j, hj, hcj⟩ := (gb_wo hc _ (by omega)).mp g2
    unfold m_cl at hci
    rw [if_pos ha, hl] at hci
    omega
  have hitw : j_itw X = nI (cB (fun v => decide (¬ y_cel (x_Y X) (j_po (x_J X)) (nI v) &&& j_wo (m_pl M 0 + 2) (6 - (m_pl M 0 + 2)) = 0)) (m_n M)) := by
    rw [j_itw, hpn, j_cnt_cB, hn]
  unfold whO
  rw [hn]
  refine ⟨h0, h9, fl9_n h, fun v hv => whV_of h hv (hC v hv) (hA v hv), e0, ?_, ?_, ?_, ?_⟩
  · rw [hp0, show j_col X 0 = nI (m_pl M 0) from e2]
  · rw [show j_row X 0 = nI (m_li M 0) from e1, hl]; rfl
  · rw [hitw]
    obtain ⟨d, hd⟩ : ∃ d, m_n M = d + 1 := ⟨m_n M - 1, by omega⟩
    rw [hd]
    have := cB_lt (P := fun v => decide (¬ y_cel (x_Y X) (j_po (x_J X)) (nI v) &&& j_wo (m_pl M 0 + 2) (6 - (m_pl M 0 + 2)) = 0)) (decide_eq_false (not_not_intro hcel)) d
    exact nI_lt (by omega) (by omega)
  · intro z
    rw [hp0] at z
    have z4 : m_pl M 0 = 4 := (nI_eq (a := m_pl M 0) (b := 4) (by omega) (by omega)).mp z
    rw [hitw, z4, cB_none]
    · rfl
    · intro i _
      refine decide_eq_false (not_not_intro ?_)
      rw [gb_disj]
      intro c hc _ g2
      obtain ⟨j, hj, -⟩ := (gb_wo hc _ (by omega)).mp g2
      omega
