/-! PURE: sets of cells as bits, positions by 8 -/
def gb (w : Int64) (c : Nat) : Bool := w.toBitVec.getLsbD c
theorem gb_ext0 {w : Int64} (h : ∀ c, c < 64 → gb w c = false) : w = 0 :=
  Int64.toBitVec_inj.mp (BitVec.eq_of_getLsbD_eq (fun i hi => by
    rw [show w.toBitVec.getLsbD i = gb w i from rfl, h i hi]; simp))
theorem gb_0 (c : Nat) : gb 0 c = false := by simp [gb]
theorem gb_and (x y : Int64) (c : Nat) : gb (x &&& y) c = (gb x c && gb y c) := by unfold gb; rw [Int64.toBitVec_and, BitVec.getLsbD_and]
theorem gb_or (x y : Int64) (c : Nat) : gb (x ||| y) c = (gb x c || gb y c) := by unfold gb; rw [Int64.toBitVec_or, BitVec.getLsbD_or]
theorem gb_m1 : ∀ c, c < 64 → gb (-1) c = true := by decide +kernel
theorem gb_not (w : Int64) {c : Nat} (hc : c < 64) : gb (w ^^^ (-1)) c = !gb w c := by
  have h := gb_m1 c hc
  unfold gb at h ⊢
  rw [Int64.toBitVec_xor, BitVec.getLsbD_xor, h, Bool.xor_true]
theorem gb_c : ∀ k, k < 64 → (((nI k).toInt64 &&& 63).toBitVec.smod 64).toNat = k := by decide +kernel
theorem gb_cu : ∀ k, k < 64 → (((nI k).toInt64.toUInt64 &&& Int64.toUInt64 63).toBitVec % 64).toNat = k := by decide +kernel
theorem gb_shl (w : Int64) {n c : Nat} (hn : n < 64) (hc : c < 64) : gb (w <<< ((nI n).toInt64 &&& 63)) c = (decide (n ≤ c) && gb w (c - n)) := by
  unfold gb
  rw [Int64.toBitVec_shiftLeft]
  show (w.toBitVec <<< (((nI n).toInt64 &&& 63).toBitVec.smod 64).toNat).getLsbD c = _
  rw [gb_c n hn, BitVec.getLsbD_shiftLeft]
  rcases Nat.lt_or_ge c n with h | h
  · simp [h, Nat.not_le.mpr h]
  · simp [hc, h, Nat.not_lt.mpr h]
theorem gb_shr (w : Int64) {n : Nat} (hn : n < 64) (c : Nat) : gb ((w.toUInt64 >>> ((nI n).toInt64.toUInt64 &&& Int64.toUInt64 63)).toInt64) c = gb w (n + c) := by
  show (w.toUInt64 >>> ((nI n).toInt64.toUInt64 &&& Int64.toUInt64 63)).toBitVec.getLsbD c = w.toUInt64.toBitVec.getLsbD (n + c)
  rw [UInt64.toBitVec_shiftRight]
  show (w.toUInt64.toBitVec >>> (((nI n).toInt64.toUInt64 &&& Int64.toUInt64 63).toBitVec % 64).toNat).getLsbD c = _
  rw [gb_cu n hn, BitVec.getLsbD_ushiftRight]
theorem gb_big {w : Int64} {c : Nat} (h : 64 ≤ c) : gb w c = false := BitVec.getLsbD_of_ge _ _ h
theorem gb_1 (c : Nat) : gb 1 c = decide (c = 0) := by
  rcases Nat.lt_or_ge c 64 with h | h
  · exact (by decide +kernel : ∀ c, c < 64 → gb 1 c = decide (c = 0)) c h
  · rw [gb_big h, decide_eq_false (by omega)]
theorem gb_disj {x y : Int64} : x &&& y = 0 ↔ ∀ c, c < 64 → gb x c = true → gb y c = true → False := by
  constructor
  · intro h c _ h1 h2
    have := gb_0 c
    rw [← h, gb_and, h1, h2] at this
    exact absurd this (by decide)
  · intro h
    refine gb_ext0 (fun c hc => ?_)
    rw [gb_and]
    cases h1 : gb x c
    · rfl
    · cases h2 : gb y c
      · rfl
      · exact (h c hc h1 h2).elim
theorem n6 (x y : Nat) : (6 : Int32) * nI x + nI y = nI (6 * x + y) := by
  rw [show (6 : Int32) * nI x = nI (6 * x) from pk_mul 6 x, nI_add]
theorem gb_co {r q c : Nat} (hr : r < 6) (hq : q < 6) (hc : c < 64) : gb (co (nI r) (nI q)) c = true ↔ c = 6 * r + q := by
  unfold co
  rw [n6, gb_shl _ (by omega) hc, gb_1, Bool.and_eq_true, decide_eq_true_iff, decide_eq_true_iff]
  omega
/-- the cells of a thing of s cells, across (a = 1) or down, on its line l, from p on -/
def occ (a l p s c : Nat) : Prop := ∃ i, i < s ∧ c = m_cl a l (p + i)
theorem occ_lt {a l p s c : Nat} (hl : l < 6) (hp : p + s ≤ 6) (h : occ a l p s c) : c < 36 := by
  obtain ⟨i, hi, rfl⟩ := h
  exact m_cl_lt hl (by omega)
theorem gb_cso {ac : Int32} {r q c : Nat} (hc : c < 64) : ∀ k, (if ac = 0 then r + k ≤ 6 ∧ q < 6 else q + k ≤ 6 ∧ r < 6) →
    (gb (cso ac (nI r) (nI q) k) c = true ↔ ∃ i, i < k ∧ c = (if ac = 0 then 6 * (r + i) + q else 6 * r + (q + i)))
  | 0, _ => by
    rw [show cso ac (nI r) (nI q) 0 = 0 from rfl, gb_0]
    constructor
    · intro h; exact absurd h (by decide)
    · rintro ⟨i, hi, -⟩; omega
  | k + 1, hb => by
    rw [show cso ac (nI r) (nI q) (k + 1) = cso ac (nI r) (nI q) k ||| (if ac = 0 then co (nI r + nI k) (nI q) else co (nI r) (nI q + nI k)) from rfl, gb_or, Bool.or_eq_true]
    have ih := gb_cso (ac := ac) (r := r) (q := q) hc k (by split at hb <;> (try rw [if_pos (by assumption)]) <;> (try rw [if_neg (by assumption)]) <;> omega)
    rw [ih]
    have e : gb (if ac = 0 then co (nI r + nI k) (nI q) else co (nI r) (nI q + nI k)) c = true ↔ c = (if ac = 0 then 6 * (r + k) + q else 6 * r + (q + k)) := by
      by_cases h0 : ac = 0
      · rw [if_pos h0] at hb ⊢
        rw [if_pos h0, nI_add, gb_co (by omega) (by omega) hc]
      · rw [if_neg h0] at hb ⊢
        rw [if_neg h0, nI_add, gb_co (by omega) (by omega) hc]
    rw [e]
    constructor
    · rintro (⟨i, hi, h⟩ | h)
      · exact ⟨i, by omega, h⟩
      · exact ⟨k, by omega, h⟩
    · rintro ⟨i, hi, h⟩
      rcases (show i < k ∨ i = k by omega) with h1 | h1
      · exact Or.inl ⟨i, h1, h⟩
      · subst h1; exact Or.inr h
/-- park's cells -/
theorem gb_park {ac : Int32} {r q s c : Nat} (hr : r < 6) (hq : q < 6) (hs : p_plcN ac r q + s ≤ 6) (hc : c < 64) : gb (cso ac (nI r) (nI q) s) c = true ↔ occ (p_ax ac) (p_linN ac r q) (p_plcN ac r q) s c := by
  unfold p_plcN at hs
  rw [gb_cso hc s (by split <;> (first | rw [if_pos (by assumption)] at hs | rw [if_neg (by assumption)] at hs) <;> omega)]
  unfold occ p_ax p_linN p_plcN m_cl
  by_cases h0 : ac = 0
  · refine exists_congr (fun i => and_congr_right (fun _ => ?_))
    rw [if_pos h0, if_pos h0, if_pos h0, if_pos h0, if_neg (show ¬ (0 : Nat) = 1 by decide)]
  · refine exists_congr (fun i => and_congr_right (fun _ => ?_))
    rw [if_neg h0, if_neg h0, if_neg h0, if_neg h0, if_pos (show (1 : Nat) = 1 from rfl)]
/-- a shape: the cells at the place 0 -/
theorem gb_csh {ac : Int32} {l s c : Nat} (hl : l < 6) (hs : s ≤ 4) (hc : c < 64) : gb (y_csh (nI s) ac (nI l)) c = true ↔ occ (p_ax ac) l 0 s c := by
  have hm : min (nI s).toNatClampNeg 4 = s := by rw [nI_clamp (by omega)]; omega
  unfold y_csh
  rw [hm]
  by_cases h0 : ac = 0
  · rw [if_pos h0]
    have := gb_cso (ac := 0) (r := 0) (q := l) hc s (by rw [if_pos rfl]; omega)
    rw [show cso 0 (nI 0) (nI l) s = cso 0 0 (nI l) s from rfl] at this
    rw [this]
    unfold occ p_ax m_cl
    refine exists_congr (fun i => and_congr_right (fun _ => ?_))
    rw [if_pos h0, if_pos (show (0 : Int32) = 0 from rfl), if_neg (show ¬ (0 : Nat) = 1 by decide)]
  · rw [if_neg h0]
    have := gb_cso (ac := 1) (r := l) (q := 0) hc s (by rw [if_neg (by decide)]; omega)
    rw [show cso 1 (nI l) (nI 0) s = cso 1 (nI l) 0 s from rfl] at this
    rw [this]
    unfold occ p_ax m_cl
    refine exists_congr (fun i => and_congr_right (fun _ => ?_))
    rw [if_neg h0, if_neg (show ¬ (1 : Int32) = 0 by decide), if_pos (show (1 : Nat) = 1 from rfl)]
/-! positions by 8 -/
def p8 : Nat → (Nat → Nat) → Nat
  | 0, _ => 0
  | n + 1, f => f 0 + 8 * p8 n (fun i => f (i + 1))
theorem p8_ext : ∀ (n : Nat) {f g : Nat → Nat}, (∀ i, i < n → f i = g i) → p8 n f = p8 n g
  | 0, _, _, _ => rfl
  | n + 1, f, g, h => by rw [p8, p8, h 0 (by omega), p8_ext n (fun i hi => h (i + 1) (by omega))]
theorem p8_lt : ∀ (n : Nat) {f : Nat → Nat}, (∀ i, i < n → f i < 8) → p8 n f < 8 ^ n
  | 0, _, _ => by simp [p8]
  | n + 1, f, h => by
    have h1 := p8_lt n (f := fun i => f (i + 1)) (fun i hi => h (i + 1) (by omega))
    have h2 := h 0 (by omega)
    rw [p8, Nat.pow_succ]; omega
theorem p8_dg : ∀ (n : Nat) {f : Nat → Nat} {v : Nat}, (∀ i, i < n → f i < 8) → v < n → p8 n f / 8 ^ v % 8 = f v
  | 0, _, _, _, h => absurd h (by omega)
  | n + 1, f, 0, h, _ => by have := h 0 (by omega); rw [p8]; simp; omega
  | n + 1, f, v + 1, h, hv => by
    have h0 := h 0 (by omega)
    have := p8_dg n (f := fun i => f (i + 1)) (v := v) (fun i hi => h (i + 1) (by omega)) (by omega)
    rw [p8, Nat.pow_succ, Nat.mul_comm (8 ^ v) 8, ← Nat.div_div_eq_div_mul, show (f 0 + 8 * p8 n fun i => f (i + 1)) / 8 = p8 n (fun i => f (i + 1)) by omega]
    exact this
theorem p8_upd : ∀ (n : Nat) {f : Nat → Nat} {v x : Nat}, v < n → p8 n (updN f v x) + f v * 8 ^ v = p8 n f + x * 8 ^ v
  | 0, _, _, _, h => absurd h (by omega)
  | n + 1, f, 0, x, _ => by
    rw [p8, p8, updN_s, p8_ext n (f := fun i => updN f 0 x (i + 1)) (g := fun i => f (i + 1)) (fun i _ => updN_n (by omega))]
    simp; omega
  | n + 1, f, v + 1, x, hv => by
    have := p8_upd n (f := fun i => f (i + 1)) (v := v) (x := x) (by omega)
    rw [p8, p8, updN_n (show 0 ≠ v + 1 by omega), p8_ext n (f := fun i => updN f (v + 1) x (i + 1)) (g := updN (fun i => f (i + 1)) v x) (fun i _ => by simp only [updN]; by_cases q : i = v <;> simp [q])]
    rw [Nat.pow_succ, ← Nat.mul_assoc, ← Nat.mul_assoc]
    omega
theorem p8_bd {n : Nat} {f : Nat → Nat} (hn : n ≤ 9) (h : ∀ i, i < n → f i < 8) : p8 n f < 134217728 := by
  have h1 := p8_lt n h
  have h2 : 8 ^ n ≤ 8 ^ 9 := Nat.pow_le_pow_right (by decide) hn
  have h3 : 8 ^ 9 = 134217728 := by decide
  omega
theorem p8_sh : ∀ v, v < 9 → (((3 : Int32) * nI v &&& 31).toBitVec.smod 32).toNat = 3 * v := by decide +kernel
theorem p8_pw : ∀ v, v < 9 → (1 : Int32) <<< ((3 : Int32) * nI v &&& 31) = nI (8 ^ v) := by decide +kernel
theorem pl_p8 {n v : Nat} {f : Nat → Nat} (hn : n ≤ 9) (h : ∀ i, i < n → f i < 8) (hv : v < n) : pl (nI (p8 n f)) (nI v) = nI (f v) := by
  have hb := p8_bd hn h
  unfold pl
  rw [pk_shrN (by omega) _ (3 * v) (p8_sh v (by omega)), pk_andN (m := 7) (Nat.lt_of_le_of_lt (Nat.div_le_self _ _) (by omega)) 3 (by decide)]
  rw [show 2 ^ (3 * v) = 8 ^ v by rw [Nat.pow_mul], show (2 : Nat) ^ 3 = 8 by decide, p8_dg n h hv]
theorem mv_up {n v k : Nat} {f : Nat → Nat} (hn : n ≤ 9) (hv : v < n) : mv (nI (p8 n f)) (nI v) (nI k) = nI (p8 n (updN f v (f v + k))) := by
  unfold mv
  rw [p8_pw v (by omega), pk_mul, nI_add]
  have := p8_upd n (f := f) (v := v) (x := f v + k) hv
  congr 1
  rw [Nat.add_mul] at this; omega
theorem mv_dn {n v k : Nat} {f : Nat → Nat} (hn : n ≤ 9) (hv : v < n) (hk : k ≤ f v) : mv (nI (p8 n f)) (nI v) (-nI k) = nI (p8 n (updN f v (f v - k))) := by
  unfold mv
  have h := p8_upd n (f := f) (v := v) (x := f v - k) hv
  have h2 : f v * 8 ^ v = (f v - k) * 8 ^ v + k * 8 ^ v := by rw [← Nat.add_mul]; congr 1; omega
  rw [p8_pw v (by omega), Int32.neg_mul, pk_mul, ← Int32.sub_eq_add_neg, pk_sub (by omega)]
  congr 1
  omega
theorem p8_inj {n : Nat} {f g : Nat → Nat} (hf : ∀ i, i < n → f i < 8) (hg : ∀ i, i < n → g i < 8) (h : p8 n f = p8 n g) : ∀ v, v < n → f v = g v := fun v hv => by
  rw [← p8_dg n hf hv, ← p8_dg n hg hv, h]
theorem ps_inj {n : Nat} {f g : Nat → Nat} (hf : ∀ i, i < n → f i < 6) (hg : ∀ i, i < n → g i < 6) (h : ps n f = ps n g) : ∀ v, v < n → f v = g v := fun v hv => by
  rw [← ps_dg n hf hv, ← ps_dg n hg hv, h]
