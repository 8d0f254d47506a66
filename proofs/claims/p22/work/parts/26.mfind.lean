/-! The reference's search: positions as numbers by 6, the table, what its methods answer -/
def dvN (p k : Nat) : Nat := p / 6 ^ k
theorem dvN_0 (p : Nat) : dvN p 0 = p := by simp [dvN]
theorem dvN_s (p k : Nat) : dvN p k / 6 = dvN p (k + 1) := by rw [dvN, dvN, Nat.div_div_eq_div_mul, Nat.pow_succ]
theorem dvN_le (p k : Nat) : dvN p k ≤ p := Nat.div_le_self _ _
def dgN (p v : Nat) : Nat := dvN p v % 6
theorem dgN_lt (p v : Nat) : dgN p v < 6 := Nat.mod_lt _ (by decide)
def ps : Nat → (Nat → Nat) → Nat
  | 0, _ => 0
  | n + 1, f => f 0 + 6 * ps n (fun i => f (i + 1))
theorem ps_ext : ∀ (n : Nat) {f g : Nat → Nat}, (∀ i, i < n → f i = g i) → ps n f = ps n g
  | 0, _, _, _ => rfl
  | n + 1, f, g, h => by
    rw [ps, ps, h 0 (by omega), ps_ext n (fun i hi => h (i + 1) (by omega))]
theorem ps_lt : ∀ (n : Nat) {f : Nat → Nat}, (∀ i, i < n → f i < 6) → ps n f < 6 ^ n
  | 0, _, _ => by simp [ps]
  | n + 1, f, h => by
    have h1 := ps_lt n (f := fun i => f (i + 1)) (fun i hi => h (i + 1) (by omega))
    have h2 := h 0 (by omega)
    rw [ps, Nat.pow_succ]; omega
theorem pow6_le {n : Nat} (h : n ≤ 9) : 6 ^ n ≤ 10077696 := by
  have : 6 ^ n ≤ 6 ^ 9 := Nat.pow_le_pow_right (by decide) h
  exact this
theorem dgN_0 (a x : Nat) (h : a < 6) : dgN (a + 6 * x) 0 = a := by rw [dgN, dvN_0]; omega
theorem dgN_s (a x v : Nat) (h : a < 6) : dgN (a + 6 * x) (v + 1) = dgN x v := by
  have : dvN (a + 6 * x) (v + 1) = dvN x v := by
    rw [dvN, dvN, Nat.pow_succ, Nat.mul_comm (6 ^ v) 6, ← Nat.div_div_eq_div_mul]
    congr 1; omega
  rw [dgN, dgN, this]
theorem ps_dg : ∀ (n : Nat) {f : Nat → Nat} {v : Nat}, (∀ i, i < n → f i < 6) → v < n → dgN (ps n f) v = f v
  | 0, _, _, _, h => absurd h (by omega)
  | n + 1, f, 0, h, _ => by rw [ps, dgN_0 _ _ (h 0 (by omega))]
  | n + 1, f, v + 1, h, hv => by
    rw [ps, dgN_s _ _ _ (h 0 (by omega))]
    exact ps_dg n (fun i hi => h (i + 1) (by omega)) (by omega)
def hrn (f : Nat → Nat) (n : Nat) : Nat → Nat
  | 0 => 0
  | k + 1 => 6 * hrn f n k + f (n - 1 - k)
theorem hrn_ps (f : Nat → Nat) (n : Nat) : ∀ k, k ≤ n → hrn f n k = ps k (fun i => f (n - k + i))
  | 0, _ => rfl
  | k + 1, h => by
    rw [hrn, ps, hrn_ps f n k (by omega), Nat.add_comm]
    congr 1
    · congr 1; omega
    · congr 1
      exact ps_ext k (fun i _ => by congr 1; omega)
def pnow (M : MS) : Nat := ps (m_n M) (m_pl M)
theorem hrn_pnow (M : MS) : hrn (m_pl M) (m_n M) (m_n M) = pnow M := by
  rw [hrn_ps _ _ _ (Nat.le_refl _), pnow]
  exact ps_ext _ (fun i _ => by congr 1; omega)
theorem pnow_lt {M : MS} (hok : m_ok M) : pnow M < 10077696 := by
  have h := ps_lt (m_n M) (f := m_pl M) (fun i hi => by obtain ⟨b1_, b2_, b3_, b4_, b5_, b6_⟩ := hok.2.1 i hi; omega)
  have := pow6_le hok.1
  rw [pnow]; omega
/-- how many of the first n places are taken -/
def cz (f : Nat → Nat) : Nat → Nat
  | 0 => 0
  | n + 1 => cz f n + (if f n = 0 then 0 else 1)
theorem cz_zero {f : Nat → Nat} : ∀ n, cz f n < n → ∃ j, j < n ∧ f j = 0
  | 0, h => absurd h (by omega)
  | n + 1, h => by
    by_cases h0 : f n = 0
    · exact ⟨n, by omega, h0⟩
    · rw [cz, if_neg h0] at h
      obtain ⟨j, h1, h2⟩ := cz_zero (f := f) n (by omega)
      exact ⟨j, by omega, h2⟩
theorem cz_upd {f : Nat → Nat} {k x : Nat} : ∀ n, cz (updN f k x) n ≤ cz f n + (if k < n then 1 else 0)
  | 0 => Nat.zero_le _
  | n + 1 => by
    have h := cz_upd (f := f) (k := k) (x := x) n
    rw [cz, cz]
    by_cases hk : k = n
    · subst hk
      rw [updN_s, if_pos (show k < k + 1 by omega)]
      rw [if_neg (by omega)] at h
      split <;> split <;> omega
    · rw [updN_n (fun q => hk q.symm)]
      by_cases h2 : k < n
      · rw [if_pos h2] at h; rw [if_pos (show k < n + 1 by omega)]; omega
      · rw [if_neg h2] at h; rw [if_neg (show ¬ k < n + 1 by omega)]; omega
/-- the table in order: what the machine needs of it -/
def tk_ok (M : MS) : Prop := m_fm M ≤ 800 ∧ (∀ j, j < 2048 → m_sl M j ≤ m_fm M) ∧ cz (m_sl M) 2048 ≤ m_fm M ∧ ∀ i, i < m_fm M → m_fo M i < 10077696
def tkL (M : MS) (p : Nat) : Nat → Nat → Nat
  | 0, s => s
  | d + 1, s => if ¬ m_sl M s = 0 ∧ ¬ m_fo M (m_sl M s - 1) = p then tkL M p d ((s + 1) % 2048) else s
theorem tkL_in {M : MS} {p k s : Nat} (h : k < 2048) : tkL M p (2048 - k) s = if ¬ m_sl M s = 0 ∧ ¬ m_fo M (m_sl M s - 1) = p then tkL M p (2048 - (k + 1)) ((s + 1) % 2048) else s := by
  obtain ⟨d, hd⟩ : ∃ d, 2048 - k = d + 1 := ⟨2048 - k - 1, by omega⟩
  rw [hd, show 2048 - (k + 1) = d by omega]; rfl
theorem tkL_out {M : MS} {p s : Nat} (h : ¬ (¬ m_sl M s = 0 ∧ ¬ m_fo M (m_sl M s - 1) = p)) : ∀ d, tkL M p d s = s
  | 0 => rfl
  | d + 1 => by rw [tkL, if_neg h]
theorem tk_lt {M : MS} {s0 k : Nat} (hT : tk_ok M) (hk : k ≤ 2048) (hv : ∀ i, i < k → ¬ m_sl M ((s0 + i) % 2048) = 0) : k < 2048 := by
  rcases Nat.lt_or_ge k 2048 with h | h
  · exact h
  · exfalso
    obtain ⟨j, h1, h2⟩ := cz_zero (f := m_sl M) 2048 (by have := hT.2.2.1; have := hT.1; omega)
    refine hv ((j + 2048 - s0 % 2048) % 2048) (by omega) ?_
    rw [show (s0 + (j + 2048 - s0 % 2048) % 2048) % 2048 = j by omega]
    exact h2
def tk_slot (M : MS) : Nat := tkL M (pnow M) 2048 (pnow M % 2048)
def tk_d (M : MS) (o : Int32) : Nat := if 0 ≤ o then m_dp M o.toNatClampNeg + 1 else 0
def tk_f (M : MS) : Int32 := if ¬ 0 ≤ m_ff M ∧ m_free M then nI (m_fm M) else m_ff M
def m_takes (M : MS) (o : Int32) (x : Nat) : MS := if m_sl M (tk_slot M) = 0 ∧ m_fm M < 800 then
  m_wTk M (updN (m_fo M) (m_fm M) (pnow M)) (upd (m_fr M) (m_fm M) o) (updN (m_by M) (m_fm M) x) (updN (m_dp M) (m_fm M) (tk_d M o)) (updN (m_sl M) (tk_slot M) (m_fm M + 1)) (m_fm M + 1) (tk_f M) else M
theorem tkL_lt {M : MS} {p : Nat} : ∀ d s, s < 2048 → tkL M p d s < 2048
  | 0, _, h => h
  | d + 1, s, h => by
    rw [tkL]; split
    · exact tkL_lt d _ (Nat.mod_lt _ (by decide))
    · exact h
theorem tk_slot_lt (M : MS) : tk_slot M < 2048 := tkL_lt _ _ (Nat.mod_lt _ (by decide))
theorem m_ok_takes {M : MS} {o : Int32} {x : Nat} (h : m_ok M) : m_ok (m_takes M o x) := by
  unfold m_takes; split
  · exact h
  · exact h
theorem m_takes_n (M : MS) (o : Int32) (x : Nat) : m_n (m_takes M o x) = m_n M := by
  unfold m_takes; split <;> rfl
theorem m_takes_sz (M : MS) (o : Int32) (x : Nat) : m_sz (m_takes M o x) = m_sz M := by
  unfold m_takes; split <;> rfl
theorem m_takes_pl (M : MS) (o : Int32) (x : Nat) : m_pl (m_takes M o x) = m_pl M := by
  unfold m_takes; split <;> rfl
theorem tk_ok_takes {M : MS} {o : Int32} {x : Nat} (hok : m_ok M) (hT : tk_ok M) : tk_ok (m_takes M o x) := by
  unfold m_takes
  split
  · next h =>
    obtain ⟨t1, t2, t3, t4⟩ := hT
    refine ⟨?_, ?_, ?_, ?_⟩
    · show m_fm M + 1 ≤ 800; omega
    · intro j hj
      show updN (m_sl M) (tk_slot M) (m_fm M + 1) j ≤ m_fm M + 1
      by_cases q : j = tk_slot M
      · subst q; rw [updN_s]; exact Nat.le_refl _
      · rw [updN_n q]; have := t2 j hj; omega
    · show cz (updN (m_sl M) (tk_slot M) (m_fm M + 1)) 2048 ≤ m_fm M + 1
      have := cz_upd (f := m_sl M) (k := tk_slot M) (x := m_fm M + 1) 2048
      rw [if_pos (tk_slot_lt M)] at this; omega
    · intro i hi
      show updN (m_fo M) (m_fm M) (pnow M) i < 10077696
      by_cases q : i = m_fm M
      · subst q; rw [updN_s]; exact pnow_lt hok
      · rw [updN_n q]; exact t4 i (by have : i < m_fm M + 1 := hi; omega)
  · exact hT
def stp (sg : Int32) (st k : Nat) : Nat := if sg = 1 then st + k else st - k
def cdN (v : Nat) (sg : Int32) (k : Nat) : Nat := if sg = 1 then 10 * v + k + 4 else 10 * v + 4 - k
theorem stp_nI {sg : Int32} {st k : Nat} (hsg : sg = 1 ∨ sg = -1) (hk : sg = -1 → k ≤ st) : nI st + sg * nI k = nI (stp sg st k) := by
  rcases hsg with rfl | rfl
  · rw [stp, if_pos rfl, Int32.one_mul, nI_add]
  · rw [stp, if_neg (by decide), Int32.neg_mul, Int32.one_mul, ← Int32.sub_eq_add_neg, pk_sub (hk rfl)]
theorem cdN_nI {sg : Int32} {v k : Nat} (hsg : sg = 1 ∨ sg = -1) (hk : k ≤ 4) : nI (10 * v) + sg * nI k + 4 = nI (cdN v sg k) := by
  rcases hsg with rfl | rfl
  · rw [cdN, if_pos rfl, Int32.one_mul, nI_add]; exact nI_add _ 4
  · rw [cdN, if_neg (by decide), Int32.neg_mul, Int32.one_mul, Int32.add_assoc, Int32.add_comm (-nI k), ← Int32.add_assoc, ← Int32.sub_eq_add_neg, show nI (10 * v) + 4 = nI (10 * v + 4) from nI_add _ 4, pk_sub (by omega)]
def trL (o v : Nat) (sg : Int32) (st most : Nat) : Nat → Nat → MS → MS
  | 0, _, S => S
  | d + 1, k, S => if k ≤ most then trL o v sg st most d (k + 1) (m_takes (m_wPl S (updN (m_pl S) v (stp sg st k))) (nI o) (cdN v sg k)) else S
theorem trL_in {o v st most k : Nat} {sg : Int32} {S : MS} (h : k ≤ 8) (hk : k ≤ most) : trL o v sg st most (9 - k) k S = trL o v sg st most (9 - (k + 1)) (k + 1) (m_takes (m_wPl S (updN (m_pl S) v (stp sg st k))) (nI o) (cdN v sg k)) := by
  obtain ⟨d, hd⟩ : ∃ d, 9 - k = d + 1 := ⟨9 - k - 1, by omega⟩
  rw [hd, show 9 - (k + 1) = d by omega, trL, if_pos hk]
theorem trL_out {o v st most k : Nat} {sg : Int32} {S : MS} (hk : ¬ k ≤ most) : ∀ d, trL o v sg st most d k S = S
  | 0 => rfl
  | d + 1 => by rw [trL, if_neg hk]
def m_tries (M : MS) (o v : Nat) (sg : Int32) : MS :=
  m_wPl (trL o v sg (m_pl M v) (m_wy M v (m_fw sg)) 8 1 M) (updN (m_pl (trL o v sg (m_pl M v) (m_wy M v (m_fw sg)) 8 1 M)) v (m_pl M v))
theorem m_tr_b {M : MS} {v k : Nat} {sg : Int32} (hok : m_ok M) (hv : v < m_n M) (hsg : sg = 1 ∨ sg = -1) (hk : k ≤ m_wy M v (m_fw sg)) : (sg = -1 → k ≤ m_pl M v) ∧ stp sg (m_pl M v) k + m_sz M v ≤ 6 ∧ k ≤ 4 := by
  obtain ⟨b1_, b2_, b3_, b4_, b5_, b6_⟩ := hok.2.1 v hv
  rcases hsg with rfl | rfl
  · have := m_wy_fwd (f := m_fw 1) (by decide) hok hv
    refine ⟨fun h => absurd h (by decide), ?_, by omega⟩
    rw [stp, if_pos rfl]; omega
  · have := m_wy_back hok hv
    rw [show m_fw (-1) = 0 from rfl] at hk
    refine ⟨fun _ => by omega, ?_, by omega⟩
    rw [stp, if_neg (by decide)]; omega
theorem m_ok_pl {S : MS} {v x : Nat} (hok : m_ok S) (hx : x + m_sz S v ≤ 6) : m_ok (m_wPl S (updN (m_pl S) v x)) := by
  refine ⟨hok.1, fun u hu => ?_, hok.2.2⟩
  obtain ⟨b1_, b2_, b3_, b4_, b5_, b6_⟩ := hok.2.1 u hu
  refine ⟨b1_, b2_, b3_, b4_, ?_, b6_⟩
  show updN (m_pl S) v x u + m_sz S u ≤ 6
  by_cases q : u = v
  · subst q; rw [updN_s]; exact hx
  · rw [updN_n q]; exact b5_
