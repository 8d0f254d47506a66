/-! The reference's looking: what stays in order, and what its last methods answer -/
def look_ok (S : MS) : Prop := m_ok S ∧ tk_ok S ∧ ∀ i, i < m_fm S → ∀ v, v < m_n S → dgN (m_fo S i) v + m_sz S v ≤ 6
theorem pnow_dg {S : MS} (hok : m_ok S) {v : Nat} (hv : v < m_n S) : dgN (pnow S) v = m_pl S v :=
  ps_dg _ (fun i hi => by obtain ⟨b1_, b2_, b3_, b4_, b5_, b6_⟩ := hok.2.1 i hi; omega) hv
theorem look_ok_takes {S : MS} {o : Int32} {x : Nat} (h : look_ok S) : look_ok (m_takes S o x) := by
  refine ⟨m_ok_takes h.1, tk_ok_takes h.1 h.2.1, ?_⟩
  rw [m_takes_n, m_takes_sz]
  have h3 := h.2.2
  unfold m_takes
  split
  · intro i hi v hv
    show dgN (updN (m_fo S) (m_fm S) (pnow S) i) v + m_sz S v ≤ 6
    by_cases q : i = m_fm S
    · subst q
      rw [updN_s, pnow_dg h.1 hv]
      obtain ⟨b1_, b2_, b3_, b4_, b5_, b6_⟩ := h.1.2.1 v hv
      exact b5_
    · rw [updN_n q]
      exact h3 i (by have : i < m_fm S + 1 := hi; omega) v hv
  · exact h3
theorem look_ok_pl {S : MS} {v x : Nat} (h : look_ok S) (hx : x + m_sz S v ≤ 6) : look_ok (m_wPl S (updN (m_pl S) v x)) := ⟨m_ok_pl h.1 hx, h.2.1, h.2.2⟩
theorem trL_ok {o v : Nat} {sg : Int32} {st most : Nat} {sz : Nat → Nat} {n : Nat} (hb : ∀ k, k ≤ most → stp sg st k + sz v ≤ 6) : ∀ (d k : Nat) (S : MS), look_ok S → m_n S = n → m_sz S = sz → look_ok (trL o v sg st most d k S) ∧ m_n (trL o v sg st most d k S) = n ∧ m_sz (trL o v sg st most d k S) = sz
  | 0, _, S, h1, h2, h3 => ⟨h1, h2, h3⟩
  | d + 1, k, S, h1, h2, h3 => by
    rw [trL]
    by_cases hk : k ≤ most
    · rw [if_pos hk]
      refine trL_ok hb d (k + 1) _ (look_ok_takes (look_ok_pl h1 (by rw [h3]; exact hb k hk))) ?_ ?_
      · rw [m_takes_n]; exact h2
      · rw [m_takes_sz]; exact h3
    · rw [if_neg hk]; exact ⟨h1, h2, h3⟩
theorem look_ok_tries {S : MS} {o v : Nat} {sg : Int32} (h : look_ok S) (hv : v < m_n S) (hsg : sg = 1 ∨ sg = -1) : look_ok (m_tries S o v sg) ∧ m_n (m_tries S o v sg) = m_n S ∧ m_sz (m_tries S o v sg) = m_sz S := by
  obtain ⟨b1_, b2_, b3_, b4_, b5_, b6_⟩ := h.1.2.1 v hv
  obtain ⟨h1, h2, h3⟩ := trL_ok (o := o) (v := v) (sg := sg) (st := m_pl S v) (most := m_wy S v (m_fw sg)) (sz := m_sz S) (n := m_n S) (fun k hk => (m_tr_b h.1 hv hsg hk).2.1) 8 1 S h rfl rfl
  unfold m_tries
  generalize trL o v sg (m_pl S v) (m_wy S v (m_fw sg)) 8 1 S = W at h1 h2 h3 ⊢
  exact ⟨look_ok_pl h1 (by rw [h3]; exact b5_), h2, h3⟩
def lk_g (S : MS) (k : Nat) : Nat → Nat := fun v => dgN (m_fo S k) v
def lk_lay (S : MS) (k : Nat) : MS := m_lay (m_wPl S (cpN (m_pl S) (lk_g S k) (m_n S)))
theorem look_ok_dg {S : MS} {k : Nat} (h : look_ok S) (hk : k < m_fm S) : m_ok (m_wPl S (cpN (m_pl S) (lk_g S k) (m_n S))) := by
  refine ⟨h.1.1, fun u hu => ?_, h.1.2.2⟩
  obtain ⟨b1_, b2_, b3_, b4_, b5_, b6_⟩ := h.1.2.1 u hu
  refine ⟨b1_, b2_, b3_, b4_, ?_, b6_⟩
  show cpN (m_pl S) (lk_g S k) (m_n S) u + m_sz S u ≤ 6
  rw [cpN, if_pos (show u < m_n S from hu)]
  exact h.2.2 k hk u hu
theorem look_ok_lay {S : MS} {k : Nat} (h : look_ok S) (hk : k < m_fm S) : look_ok (lk_lay S k) := ⟨m_ok_lay (look_ok_dg h hk), h.2.1, h.2.2⟩
def lk_vL (o : Nat) : Nat → Nat → MS → MS
  | 0, _, S => S
  | d + 1, v, S => lk_vL o d (v + 1) (m_tries (m_tries S o v (-1)) o v 1)
theorem lk_vL_in {o n v : Nat} {S : MS} (h : v < n) : lk_vL o (n - v) v S = lk_vL o (n - (v + 1)) (v + 1) (m_tries (m_tries S o v (-1)) o v 1) := by
  obtain ⟨d, hd⟩ : ∃ d, n - v = d + 1 := ⟨n - v - 1, by omega⟩
  rw [hd, show n - (v + 1) = d by omega]; rfl
def lk_one (S : MS) (k : Nat) : MS := lk_vL k (m_n S) 0 (lk_lay S k)
def lkL : Nat → Nat → MS → MS
  | 0, _, S => S
  | d + 1, k, S => if k < m_fm S ∧ m_fm S < 800 then lkL d (k + 1) (lk_one S k) else S
theorem lkL_in {k : Nat} {S : MS} (h : k < m_fm S ∧ m_fm S < 800) (hk : k < 800) : lkL (800 - k) k S = lkL (800 - (k + 1)) (k + 1) (lk_one S k) := by
  obtain ⟨d, hd⟩ : ∃ d, 800 - k = d + 1 := ⟨800 - k - 1, by omega⟩
  rw [hd, show 800 - (k + 1) = d by omega, lkL, if_pos h]
theorem lkL_out {k : Nat} {S : MS} (h : ¬ (k < m_fm S ∧ m_fm S < 800)) : ∀ d, lkL d k S = S
  | 0 => rfl
  | d + 1 => by rw [lkL, if_neg h]
def m_w0 (M : MS) : MS := m_wSk M (fillN (m_sl M) 2048) (cpN (m_kp M) (m_pl M) (m_n M))
theorem cz_0 {f : Nat → Nat} : ∀ n, (∀ j, j < n → f j = 0) → cz f n = 0
  | 0, _ => rfl
  | n + 1, h => by rw [cz, cz_0 n (fun j hj => h j (by omega)), if_pos (h n (by omega))]
theorem look_ok_w0 {M : MS} (h : m_ok M) : look_ok (m_w0 M) := by
  refine ⟨h, ⟨Nat.zero_le _, fun j hj => ?_, ?_, fun i hi => absurd hi (Nat.not_lt_zero _)⟩, fun i hi => absurd hi (Nat.not_lt_zero _)⟩
  · show fillN (m_sl M) 2048 j ≤ 0
    rw [fillN, if_pos hj]; exact Nat.le_refl _
  · show cz (fillN (m_sl M) 2048) 2048 ≤ 0
    rw [cz_0 2048 (fun j hj => by rw [fillN, if_pos hj])]; exact Nat.le_refl _
def m_fin (S : MS) : MS := m_wPl S (cpN (m_pl S) (m_kp S) (m_n S))
def m_look (M : MS) : MS := m_fin (lkL 800 0 (m_takes (m_w0 M) (-1) 0))
/-- the way back -/
def fmvL (Z : MS) : Nat → Nat → Nat
  | 0, i => i
  | d + 1, i => if 0 < m_fr Z i then fmvL Z d (m_fr Z i).toNatClampNeg else i
def fr_ok (Z : MS) : Prop := ∀ i, i < 800 → 0 < m_fr Z i → ∃ j, j < i ∧ m_fr Z i = nI j
theorem fmvL_out {Z : MS} {i : Nat} (h : ¬ 0 < m_fr Z i) : ∀ d, fmvL Z d i = i
  | 0 => rfl
  | d + 1 => by rw [fmvL, if_neg h]
theorem fmvL_in {Z : MS} {i t N : Nat} (h : 0 < m_fr Z i) (ht : t < N) : fmvL Z (N - t) i = fmvL Z (N - (t + 1)) (m_fr Z i).toNatClampNeg := by
  obtain ⟨d, hd⟩ : ∃ d, N - t = d + 1 := ⟨N - t - 1, by omega⟩
  rw [hd, show N - (t + 1) = d by omega, fmvL, if_pos h]
def m_hnt (Z : MS) : Int32 := if m_ff Z ≤ 0 then -1 else nI (m_by Z (fmvL Z (m_ff Z).toNatClampNeg (m_ff Z).toNatClampNeg))
def m_few (Z : MS) : Int32 := if 0 ≤ m_ff Z then nI (m_dp Z (m_ff Z).toNatClampNeg) else -1
/-- the one of depth at most x on the way from i -/
def ancL (Z : MS) (x : Nat) : Nat → Nat → Nat
  | 0, i => i
  | d + 1, i => if x < m_dp Z i then ancL Z x d (m_fr Z i).toNatClampNeg else i
theorem ancL_out {Z : MS} {x i : Nat} (h : ¬ x < m_dp Z i) : ∀ d, ancL Z x d i = i
  | 0 => rfl
  | d + 1 => by rw [ancL, if_neg h]
theorem ancL_in {Z : MS} {x i t N : Nat} (h : x < m_dp Z i) (ht : t < N) : ancL Z x (N - t) i = ancL Z x (N - (t + 1)) (m_fr Z i).toNatClampNeg := by
  obtain ⟨d, hd⟩ : ∃ d, N - t = d + 1 := ⟨N - t - 1, by omega⟩
  rw [hd, show N - (t + 1) = d by omega, ancL, if_pos h]
def m_f0 (Z : MS) : Nat := (m_ff Z).toNatClampNeg
def m_anc (Z : MS) (n : Nat) : Nat := ancL Z (n + 1) (m_f0 Z) (m_f0 Z)
def svS (Z : MS) : Nat → MS
  | 0 => Z
  | n + 1 => m_go (svS Z n) (m_by Z (m_anc Z n) / 10) (nI (m_by Z (m_anc Z n) % 10) - 4)
def sv_ok (Z : MS) : Prop := (∀ i, i < 800 → m_dp Z i ≤ 800 ∧ m_by Z i < 1000) ∧ (∀ i, i < 800 → 0 < m_dp Z i → ∃ j, j < i ∧ m_fr Z i = nI j) ∧ (0 ≤ m_ff Z → m_f0 Z < 800 ∧ m_ff Z = nI (m_f0 Z)) ∧
  (0 ≤ m_ff Z → ∀ n, n < m_dp Z (m_f0 Z) → m_by Z (m_anc Z n) / 10 < 9 ∧ nI (m_pl (svS Z n) (m_by Z (m_anc Z n) / 10)) + (nI (m_by Z (m_anc Z n) % 10) - 4) = nI (m_tgt (svS Z n) (m_by Z (m_anc Z n) / 10) (nI (m_by Z (m_anc Z n) % 10) - 4)))
def m_solv (Z : MS) : MS := if 0 ≤ m_ff Z then svS Z (m_dp Z (m_f0 Z)) else Z
theorem svS_same (Z : MS) : ∀ n, m_dp (svS Z n) = m_dp Z ∧ m_fr (svS Z n) = m_fr Z ∧ m_by (svS Z n) = m_by Z ∧ m_ff (svS Z n) = m_ff Z
  | 0 => ⟨rfl, rfl, rfl, rfl⟩
  | n + 1 => svS_same Z n
def m_rch (Z : MS) (v : Nat) (p : Int32) : Nat → Bool
  | 0 => false
  | k + 1 => m_rch Z v p k || decide (nI (dgN (m_fo Z k) v) = p)
theorem m_rch_b {Z : MS} {v k : Nat} {p x : Int32} (h : (x = 1 ∧ (m_rch Z v p k = true ∨ nI (dgN (m_fo Z k) v) = p)) ∨ (x = 0 ∧ ¬ (m_rch Z v p k = true ∨ nI (dgN (m_fo Z k) v) = p))) : x = b1 (m_rch Z v p (k + 1) = true) := by
  have e : m_rch Z v p (k + 1) = true ↔ (m_rch Z v p k = true ∨ nI (dgN (m_fo Z k) v) = p) := by
    rw [m_rch, Bool.or_eq_true, decide_eq_true_iff]
  rcases h with ⟨rfl, h⟩ | ⟨rfl, h⟩
  · rw [b1, if_pos (e.mpr h)]
  · rw [b1, if_neg (fun q => h (e.mp q))]
