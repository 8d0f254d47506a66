/-! PURE: tracing back -/
theorem lnk_up {N : Nat} {S : SS} {W : MS} {i : Nat} (h : lnk N S W i) (h0 : 0 < i) : ∃ (j v : Nat) (sg : Int32) (k : Nat), j < i ∧ v < N ∧ (sg = 1 ∨ sg = -1) ∧ 1 ≤ k ∧ k ≤ 4 ∧ (sg = -1 → k ≤ lk_g W j v) ∧ s_or S i = nI j ∧ m_fr W i = nI j ∧ m_dp W i = m_dp W j + 1 ∧ m_by W i = cdN v sg k ∧ ∀ u, u < N → lk_g W i u = updN (lk_g W j) v (stp sg (lk_g W j v) k) u := by
  rcases h with ⟨q, -⟩ | h
  · omega
  · exact h
theorem lnk_0 {N : Nat} {S : SS} {W : MS} (h : lnk N S W 0) : m_fr W 0 = -1 ∧ m_dp W 0 = 0 ∧ m_by W 0 = 0 := by
  rcases h with ⟨-, q⟩ | ⟨j, v, sg, k, q, -⟩
  · exact q
  · omega
theorem sim_lnk {S : SS} {W : MS} (hs : sim S W) {i : Nat} (hi : i < m_fm W) : lnk (m_n W) S W i := (hs.2.2.2.1 i hi).2.2.2.2
def tcL (W : MS) : Nat → Nat → Int32
  | 0, _ => 0
  | d + 1, i => if i = 0 then 0 else iabs (m_cells (nI (m_by W i))) + tcL W d (m_fr W i).toNatClampNeg
theorem tcL_fuel {S : SS} {W : MS} (hs : sim S W) : ∀ d e i, i ≤ d → i ≤ e → i < m_fm W → tcL W d i = tcL W e i
  | 0, 0, _, _, _, _ => rfl
  | 0, e + 1, i, h1, _, _ => by rw [tcL, tcL, if_pos (by omega)]
  | d + 1, 0, i, _, h2, _ => by rw [tcL, tcL, if_pos (by omega)]
  | d + 1, e + 1, i, h1, h2, hi => by
    rw [tcL, tcL]
    by_cases q : i = 0
    · rw [if_pos q, if_pos q]
    · have h8 : m_fm W ≤ 800 := hs.2.2.1.1
      rw [if_neg q, if_neg q]
      obtain ⟨j, v, sg, k, z1, z2, z3, z4, z5, z6, z7, z8, z9, z10, z11⟩ := lnk_up (sim_lnk hs hi) (by omega)
      rw [z8, nI_clamp (by omega), tcL_fuel hs d e j (by omega) (by omega) (by omega)]
theorem fmvL_fuel {S : SS} {W : MS} (hs : sim S W) : ∀ d e i, i ≤ d → i ≤ e → i < m_fm W → fmvL W d i = fmvL W e i
  | 0, 0, _, _, _, _ => rfl
  | 0, e + 1, i, h1, _, hi => by
    have h0 : i = 0 := by omega
    subst h0
    rw [fmvL_out (by rw [(lnk_0 (sim_lnk hs hi)).1]; decide), fmvL_out (by rw [(lnk_0 (sim_lnk hs hi)).1]; decide)]
  | d + 1, 0, i, _, h2, hi => by
    have h0 : i = 0 := by omega
    subst h0
    rw [fmvL_out (by rw [(lnk_0 (sim_lnk hs hi)).1]; decide), fmvL_out (by rw [(lnk_0 (sim_lnk hs hi)).1]; decide)]
  | d + 1, e + 1, i, h1, h2, hi => by
    rw [fmvL, fmvL]
    by_cases q : i = 0
    · subst q
      rw [if_neg (by rw [(lnk_0 (sim_lnk hs hi)).1]; decide), if_neg (by rw [(lnk_0 (sim_lnk hs hi)).1]; decide)]
    · have h8 : m_fm W ≤ 800 := hs.2.2.1.1
      obtain ⟨j, v, sg, k, z1, z2, z3, z4, z5, z6, z7, z8, z9, z10, z11⟩ := lnk_up (sim_lnk hs hi) (by omega)
      rw [z8, nI_clamp (by omega), fmvL_fuel hs d e j (by omega) (by omega) (by omega)]
theorem s_tr_ok {W : MS} : ∀ d k i S, sim S W → i ≤ d → i < m_fm W → 1 ≤ k →
    s_sm (s_trL d k (nI i) S) = (if i = 0 then s_sm S else nI (k - 1 + m_dp W i)) ∧ s_sc (s_trL d k (nI i) S) = s_sc S + tcL W d i ∧ s_sf (s_trL d k (nI i) S) = (if i = 0 then s_sf S else nI (m_by W (fmvL W d i)))
  | 0, k, i, S, hs, h1, hi, hk => by
    have h0 : i = 0 := by omega
    rw [if_pos h0, if_pos h0, s_trL, tcL, Int32.add_zero]
    exact ⟨rfl, rfl, rfl⟩
  | d + 1, k, i, S, hs, h1, hi, hk => by
    have h8 : m_fm W ≤ 800 := hs.2.2.1.1
    by_cases q : i = 0
    · rw [if_pos q, if_pos q, s_trL, tcL, if_pos q, Int32.add_zero, if_neg (fun z => by rw [q] at z; exact z.1 (by decide))]
      exact ⟨rfl, rfl, rfl⟩
    · obtain ⟨j, v, sg, kk, z1, z2, z3, z4, z5, z6, z7, z8, z9, z10, z11⟩ := lnk_up (sim_lnk hs hi) (by omega)
      have hmo := (hs.2.2.2.1 i hi).2.2.1
      have hc : ¬ nI i ≤ 0 ∧ s_isF S (nI i) := ⟨nI_nle (by omega) (by omega), sim_isF hs hi⟩
      rw [if_neg q, if_neg q, s_trL, if_pos hc, nI_clamp (by omega), z7, hmo]
      have ih := s_tr_ok d (k + 1) j (s_fo S, s_or S, s_mo S, s_sl S, s_fc S, s_fs S, nI k, s_sc S + iabs (m_cells (nI (m_by W i))), nI (m_by W i)) (sim_keep ⟨rfl, rfl, rfl, rfl, rfl, rfl⟩ hs) (by omega) (by omega) (by omega)
      obtain ⟨i1, i2, i3⟩ := ih
      refine ⟨?_, ?_, ?_⟩
      · rw [i1]
        by_cases w : j = 0
        · subst w
          rw [if_pos rfl, z9, (lnk_0 (sim_lnk hs (by omega))).2.1]
          show nI k = _
          congr 1; omega
        · rw [if_neg w, z9]; congr 1; omega
      · rw [i2, tcL, if_neg q, z8, nI_clamp (by omega)]
        show s_sc S + iabs (m_cells (nI (m_by W i))) + tcL W d j = _
        rw [Int32.add_assoc]
      · rw [i3, fmvL, z8]
        by_cases w : j = 0
        · subst w
          rw [if_pos rfl, if_neg (by decide)]
        · rw [if_neg w, if_pos (show 0 < nI j from nI_lt (a := 0) (by omega) (by omega)), nI_clamp (by omega)]
theorem s_tr0_sim {S : SS} {W : MS} (hs : sim S W) : sim (s_tr0 S) W := sim_keep ⟨rfl, rfl, rfl, rfl, rfl, rfl⟩ hs
theorem s_trace_sim {S : SS} {W : MS} (hs : sim S W) : sim (s_trace S) W := sim_keep (s_trL_keep _ _ _ _) (s_tr0_sim hs)
def s_tcS (Z : MS) : Int32 := if 0 ≤ m_ff Z then tcL Z 799 (m_f0 Z) else 0
theorem s_trace_ok {S : SS} {W : MS} (hs : sim S W) : s_sm (s_trace S) = m_few W ∧ s_sf (s_trace S) = m_hnt W ∧ s_sc (s_trace S) = s_tcS W := by
  have h8 : m_fm W ≤ 800 := hs.2.2.1.1
  have hff := hs.2.2.2.2.1
  unfold s_trace
  rcases hs.2.2.2.2.2.1 with q | ⟨i, hi, q⟩
  · rw [hff, q, s_trL, if_neg (by rintro ⟨z, -⟩; exact z (by decide))]
    unfold m_few m_hnt s_tcS
    rw [q]
    refine ⟨?_, ?_, ?_⟩
    · show (if s_fs S = -1 then (-1 : Int32) else 0) = _
      rw [hff, q]; rfl
    · rfl
    · rfl
  · obtain ⟨h1, h2, h3⟩ := s_tr_ok 799 1 i (s_tr0 S) (s_tr0_sim hs) (by omega) hi (by omega)
    rw [hff, q, h1, h2, h3]
    have hp : 0 ≤ m_ff W := by rw [q]; exact nI_pos' (by omega)
    have hf0 : m_f0 W = i := by rw [m_f0, q, nI_clamp (by omega)]
    have hne : ¬ s_fs S = -1 := by
      rw [hff, q]
      intro z
      have := congrArg Int32.toInt z
      rw [nI_toInt (by omega)] at this
      exact absurd this (by rw [show ((-1 : Int32)).toInt = -1 from rfl]; omega)
    unfold m_few m_hnt s_tcS
    rw [if_pos hp, if_pos hp, hf0, show (m_ff W).toNatClampNeg = i from hf0]
    refine ⟨?_, ?_, ?_⟩
    · by_cases w : i = 0
      · subst w
        rw [if_pos rfl, (lnk_0 (sim_lnk hs hi)).2.1]
        show (if s_fs S = -1 then (-1 : Int32) else 0) = _
        rw [if_neg hne]; rfl
      · rw [if_neg w]; congr 1; omega
    · by_cases w : i = 0
      · subst w
        rw [if_pos rfl, if_pos (by rw [q]; decide)]; rfl
      · rw [if_neg w, if_neg (by rw [q]; exact nI_nle (by omega) (by omega)), fmvL_fuel hs 799 i i (by omega) (Nat.le_refl _) hi]
    · show 0 + tcL W 799 i = _
      rw [Int32.zero_add]
/-! the way from the root -/
theorem anc_dp {S : SS} {W : MS} (hs : sim S W) {n : Nat} : ∀ d i, i < m_fm W → m_dp W i ≤ d → n ≤ m_dp W i → ancL W n d i < m_fm W ∧ m_dp W (ancL W n d i) = n
  | 0, i, hi, h1, h2 => ⟨hi, by show m_dp W i = n; omega⟩
  | d + 1, i, hi, h1, h2 => by
    rw [ancL]
    by_cases q : n < m_dp W i
    · have h8 : m_fm W ≤ 800 := hs.2.2.1.1
      have h0 : 0 < i := by
        rcases Nat.eq_zero_or_pos i with w | w
        · subst w; rw [(lnk_0 (sim_lnk hs hi)).2.1] at q; omega
        · exact w
      obtain ⟨j, v, sg, k, z1, z2, z3, z4, z5, z6, z7, z8, z9, z10, z11⟩ := lnk_up (sim_lnk hs hi) h0
      rw [if_pos q, z8, nI_clamp (by omega)]
      exact anc_dp hs d j (by omega) (by omega) (by omega)
    · rw [if_neg q]; exact ⟨hi, by omega⟩
theorem anc_step {S : SS} {W : MS} (hs : sim S W) {n : Nat} : ∀ d i, i < m_fm W → m_dp W i ≤ d → n + 1 ≤ m_dp W i → m_fr W (ancL W (n + 1) d i) = nI (ancL W n d i)
  | 0, i, hi, h1, h2 => by omega
  | d + 1, i, hi, h1, h2 => by
    have h8 : m_fm W ≤ 800 := hs.2.2.1.1
    have h0 : 0 < i := by
      rcases Nat.eq_zero_or_pos i with w | w
      · subst w; rw [(lnk_0 (sim_lnk hs hi)).2.1] at h2; omega
      · exact w
    obtain ⟨j, v, sg, k, z1, z2, z3, z4, z5, z6, z7, z8, z9, z10, z11⟩ := lnk_up (sim_lnk hs hi) h0
    rw [ancL, ancL, if_pos (show n < m_dp W i by omega), z8, nI_clamp (by omega)]
    by_cases q : n + 1 < m_dp W i
    · rw [if_pos q]
      exact anc_step hs d j (by omega) (by omega) (by omega)
    · rw [if_neg q, z8, ancL_out (by omega)]
theorem dp_0 {S : SS} {W : MS} (hs : sim S W) {i : Nat} (hi : i < m_fm W) (h : m_dp W i = 0) : i = 0 := by
  rcases Nat.eq_zero_or_pos i with w | w
  · exact w
  · obtain ⟨j, v, sg, k, z1, z2, z3, z4, z5, z6, z7, z8, z9, -⟩ := lnk_up (sim_lnk hs hi) w
    omega
