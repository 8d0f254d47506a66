/-- a row of naturals as the machine holds it -/
def fN (f : Nat → Nat) : Nat → Int32 := fun j => nI (f j)
def updN (f : Nat → Nat) (k x : Nat) : Nat → Nat := fun j => if j = k then x else f j
theorem updN_s {f : Nat → Nat} {k x : Nat} : updN f k x k = x := by simp [updN]
theorem updN_n {f : Nat → Nat} {k x j : Nat} (h : j ≠ k) : updN f k x j = f j := by simp [updN, h]
theorem fN_upd {f : Nat → Nat} {k x : Nat} : upd (fN f) k (nI x) = fN (updN f k x) := by
  funext j
  by_cases h : j = k
  · subst h; rw [pk_us]; simp [fN, updN]
  · rw [pk_un h]; simp [fN, updN, h]
def fillN (f : Nat → Nat) (c : Nat) : Nat → Nat := fun j => if j < c then 0 else f j
theorem fillN_0 (f : Nat → Nat) : fillN f 0 = f := by funext j; simp [fillN]
theorem fillN_s {f : Nat → Nat} {k : Nat} : updN (fillN f k) k 0 = fillN f (k + 1) := by
  funext j
  simp only [updN, fillN]
  by_cases h : j = k
  · rw [if_pos h, if_pos (by omega)]
  · rw [if_neg h]
    by_cases h2 : j < k
    · rw [if_pos h2, if_pos (by omega)]
    · rw [if_neg h2, if_neg (by omega)]
def cpN (f g : Nat → Nat) (c : Nat) : Nat → Nat := fun j => if j < c then g j else f j
theorem cpN_0 (f g : Nat → Nat) : cpN f g 0 = f := by funext j; simp [cpN]
theorem cpN_s {f g : Nat → Nat} {k : Nat} : updN (cpN f g k) k (g k) = cpN f g (k + 1) := by
  funext j
  simp only [updN, cpN]
  by_cases h : j = k
  · subst h; rw [if_pos rfl, if_pos (by omega)]
  · rw [if_neg h]
    by_cases h2 : j < k
    · rw [if_pos h2, if_pos (by omega)]
    · rw [if_neg h2, if_neg (by omega)]
/-! The reference's state: cellsOf, isAcross, lineOf, place, parked, many, rampAt, moves, driven, thrown, yard, found, from, by, depth, slots, kept, foundMany, firstFree -/
abbrev MS : Type := (Nat → Nat) × (Nat → Nat) × (Nat → Nat) × (Nat → Nat) × (Nat → Nat) × (Nat) × (Int32) × (Int32) × (Int32) × (Int32) × (Nat → Nat) × (Nat → Nat) × (Nat → Int32) × (Nat → Nat) × (Nat → Nat) × (Nat → Nat) × (Nat → Nat) × (Nat) × (Int32)
abbrev m_sz (M : MS) : Nat → Nat := M.1
abbrev m_ac (M : MS) : Nat → Nat := M.2.1
abbrev m_li (M : MS) : Nat → Nat := M.2.2.1
abbrev m_pl (M : MS) : Nat → Nat := M.2.2.2.1
abbrev m_pk (M : MS) : Nat → Nat := M.2.2.2.2.1
abbrev m_n (M : MS) : Nat := M.2.2.2.2.2.1
abbrev m_rp (M : MS) : Int32 := M.2.2.2.2.2.2.1
abbrev m_mo (M : MS) : Int32 := M.2.2.2.2.2.2.2.1
abbrev m_dr (M : MS) : Int32 := M.2.2.2.2.2.2.2.2.1
abbrev m_th (M : MS) : Int32 := M.2.2.2.2.2.2.2.2.2.1
abbrev m_yd (M : MS) : Nat → Nat := M.2.2.2.2.2.2.2.2.2.2.1
abbrev m_fo (M : MS) : Nat → Nat := M.2.2.2.2.2.2.2.2.2.2.2.1
abbrev m_fr (M : MS) : Nat → Int32 := M.2.2.2.2.2.2.2.2.2.2.2.2.1
abbrev m_by (M : MS) : Nat → Nat := M.2.2.2.2.2.2.2.2.2.2.2.2.2.1
abbrev m_dp (M : MS) : Nat → Nat := M.2.2.2.2.2.2.2.2.2.2.2.2.2.2.1
abbrev m_sl (M : MS) : Nat → Nat := M.2.2.2.2.2.2.2.2.2.2.2.2.2.2.2.1
abbrev m_kp (M : MS) : Nat → Nat := M.2.2.2.2.2.2.2.2.2.2.2.2.2.2.2.2.1
abbrev m_fm (M : MS) : Nat := M.2.2.2.2.2.2.2.2.2.2.2.2.2.2.2.2.2.1
abbrev m_ff (M : MS) : Int32 := M.2.2.2.2.2.2.2.2.2.2.2.2.2.2.2.2.2.2
def m_wTh (M : MS) (x : Int32) : MS := (m_sz M, m_ac M, m_li M, m_pl M, m_pk M, m_n M, m_rp M, m_mo M, m_dr M, x, m_yd M, m_fo M, m_fr M, m_by M, m_dp M, m_sl M, m_kp M, m_fm M, m_ff M)
def m_wYd (M : MS) (f : Nat → Nat) : MS := (m_sz M, m_ac M, m_li M, m_pl M, m_pk M, m_n M, m_rp M, m_mo M, m_dr M, m_th M, f, m_fo M, m_fr M, m_by M, m_dp M, m_sl M, m_kp M, m_fm M, m_ff M)
def m_wPl (M : MS) (f : Nat → Nat) : MS := (m_sz M, m_ac M, m_li M, f, m_pk M, m_n M, m_rp M, m_mo M, m_dr M, m_th M, m_yd M, m_fo M, m_fr M, m_by M, m_dp M, m_sl M, m_kp M, m_fm M, m_ff M)
def m_wGo (M : MS) (f : Nat → Nat) (x y : Int32) : MS := (m_sz M, m_ac M, m_li M, f, m_pk M, m_n M, m_rp M, x, y, m_th M, m_yd M, m_fo M, m_fr M, m_by M, m_dp M, m_sl M, m_kp M, m_fm M, m_ff M)
def m_wTk (M : MS) (fo : Nat → Nat) (fr : Nat → Int32) (bz dp sl : Nat → Nat) (fm : Nat) (ff : Int32) : MS := (m_sz M, m_ac M, m_li M, m_pl M, m_pk M, m_n M, m_rp M, m_mo M, m_dr M, m_th M, m_yd M, fo, fr, bz, dp, sl, m_kp M, fm, ff)
def m_wSk (M : MS) (sl kp : Nat → Nat) : MS := (m_sz M, m_ac M, m_li M, m_pl M, m_pk M, m_n M, m_rp M, m_mo M, m_dr M, m_th M, m_yd M, m_fo M, m_fr M, m_by M, m_dp M, sl, kp, 0, -1)
def m_wRp (M : MS) (x : Int32) : MS := (m_sz M, m_ac M, m_li M, m_pl M, m_pk M, m_n M, x, m_mo M, m_dr M, m_th M, m_yd M, m_fo M, m_fr M, m_by M, m_dp M, m_sl M, m_kp M, m_fm M, m_ff M)
def m_wPk (M : MS) (c a q g : Nat) : MS := (updN (m_sz M) (m_n M) c, updN (m_ac M) (m_n M) a, updN (m_li M) (m_n M) q, updN (m_pl M) (m_n M) g, updN (m_pk M) (m_n M) g, m_n M + 1, m_rp M, m_mo M, m_dr M, m_th M, m_yd M, m_fo M, m_fr M, m_by M, m_dp M, m_sl M, m_kp M, m_fm M, m_ff M)
/-! what the reference's methods answer -/
theorem i_sub {x y : Int32} {a c : Int} (hx : x.toInt = a) (hy : y.toInt = c) (h1 : -1000000000 ≤ a) (h2 : a ≤ 1000000000) (h3 : -1000000000 ≤ c) (h4 : c ≤ 1000000000) : (x - y).toInt = a - c := by
  rw [Int32.toInt_sub, hx, hy]
  exact Int.bmod_eq_of_le (by omega) (by omega)
theorem i_add {x y : Int32} {a c : Int} (hx : x.toInt = a) (hy : y.toInt = c) (h1 : -1000000000 ≤ a) (h2 : a ≤ 1000000000) (h3 : -1000000000 ≤ c) (h4 : c ≤ 1000000000) : (x + y).toInt = a + c := by
  rw [Int32.toInt_add, hx, hy]
  exact Int.bmod_eq_of_le (by omega) (by omega)
theorem i_nn {x : Int32} (h : 0 ≤ x.toInt) : x = nI x.toNatClampNeg := by
  have h1 : x.toInt < 2147483648 := Int32.toInt_lt x
  apply Int32.toInt_inj.mp
  rw [cl_toNat, nI_toInt (by omega)]
  omega
def m_cl (a l g : Nat) : Nat := if a = 1 then 6 * l + g else 6 * g + l
theorem m_cl_lt {a l g : Nat} (hl : l < 6) (hg : g < 6) : m_cl a l g < 36 := by
  unfold m_cl; split <;> omega
def m_cli (a l g : Int32) : Int32 := if a = 1 then 6 * l + g else 6 * g + l
theorem m_cli_nI {a l g : Nat} (ha : a ≤ 1) : m_cli (nI a) (nI l) (nI g) = nI (m_cl a l g) := by
  have h6 : ∀ x y : Nat, (6 : Int32) * nI x + nI y = nI (6 * x + y) := fun x y => by
    rw [show (6 : Int32) * nI x = nI (6 * x) from pk_mul 6 x, nI_add]
  rcases (show a = 0 ∨ a = 1 by omega) with rfl | rfl
  · simp only [m_cli, m_cl]; rw [if_neg (by decide), if_neg (by decide), h6]
  · simp only [m_cli, m_cl]; rw [if_pos (by decide), if_pos trivial, h6]
abbrev inL (x : Int32) : Prop := ¬ x < 0 ∧ ¬ 6 ≤ x
theorem inL_ex {x : Int32} (h : inL x) : ∃ g : Nat, g < 6 ∧ x = nI g := by
  obtain ⟨j, h1, h2⟩ := vp_in_of (cl_in (n := 6) h.1 h.2 (by decide)) (by decide)
  exact ⟨j, h1, h2⟩
theorem m_cli_in {a l : Nat} {x : Int32} (ha : a ≤ 1) (hl : l < 6) (hx : inL x) : vp_in (m_cli (nI a) (nI l) x) 36 := by
  obtain ⟨g, hg, rfl⟩ := inL_ex hx
  rw [m_cli_nI ha]
  exact vp_in_nI (m_cl_lt hl hg) (by decide)
abbrev m_has (M : MS) (v : Int32) : Prop := ¬ v < 0 ∧ ¬ nI (m_n M) ≤ v
def m_ok (M : MS) : Prop := m_n M ≤ 9 ∧ (∀ v, v < m_n M → 2 ≤ m_sz M v ∧ m_sz M v ≤ 4 ∧ m_ac M v ≤ 1 ∧ m_li M v < 6 ∧ m_pl M v + m_sz M v ≤ 6 ∧ m_pk M v + m_sz M v ≤ 6) ∧ ∀ c, c < 36 → m_yd M c ≤ 9
theorem m_has_ex {M : MS} {v : Int32} (hok : m_ok M) (h : m_has M v) : ∃ j : Nat, j < m_n M ∧ v = nI j := by
  have h9 := hok.1
  obtain ⟨j, h1, h2⟩ := vp_in_of (cl_in h.1 h.2 (by omega)) (by omega)
  exact ⟨j, h1, h2⟩
def m_isv (M : MS) (v : Int32) : MS := m_wTh M (if m_has M v then 0 else 1)
def ly_k (a l p w : Nat) (f : Nat → Nat) : Nat → (Nat → Nat)
  | 0 => f
  | k + 1 => updN (ly_k a l p w f k) (m_cl a l (p + k)) w
def ly_v (M : MS) (f : Nat → Nat) : Nat → (Nat → Nat)
  | 0 => f
  | v + 1 => ly_k (m_ac M v) (m_li M v) (m_pl M v) (v + 1) (ly_v M f v) (m_sz M v)
def m_lay (M : MS) : MS := m_wYd M (ly_v M (fillN (m_yd M) 36) (m_n M))
abbrev m_opn (M : MS) (v : Nat) (x : Int32) : Prop := inL x ∧ m_yd M (m_cli (nI (m_ac M v)) (nI (m_li M v)) x).toNatClampNeg = 0 ∧ (m_sz M v = 2 ∨ ¬ m_cli (nI (m_ac M v)) (nI (m_li M v)) x = m_rp M)
def m_wya (M : MS) (v : Nat) (f : Int32) (k : Nat) : Int32 := if f = 0 then nI (m_pl M v) - 1 - nI k else nI (m_pl M v + m_sz M v + k)
theorem m_wya_lt {M : MS} {v k : Nat} {f : Int32} (hok : m_ok M) (hv : v < m_n M) (hk : k ≤ 7) (h : inL (m_wya M v f k)) : k < 7 := by
  obtain ⟨-, -, -, -, h5, -⟩ := hok.2.1 v hv
  have h0 : (0 : Int32).toInt = 0 := rfl
  have h6 : (6 : Int32).toInt = 6 := rfl
  have h1 : (1 : Int32).toInt = 1 := rfl
  obtain ⟨h2, h3⟩ := h
  rw [Int32.lt_iff_toInt_lt, h0] at h2
  rw [Int32.le_iff_toInt_le, h6] at h3
  unfold m_wya at h2 h3
  split at h2
  · have e1 : (nI (m_pl M v)).toInt = m_pl M v := nI_toInt (by omega)
    have e2 : (nI k).toInt = k := nI_toInt (by omega)
    have e3 := i_sub e1 h1 (by omega) (by omega) (by omega) (by omega)
    have e4 := i_sub e3 e2 (by omega) (by omega) (by omega) (by omega)
    rw [e4] at h2
    omega
  · next hf =>
    rw [if_neg hf] at h3
    have e1 : (nI (m_pl M v + m_sz M v + k)).toInt = (m_pl M v + m_sz M v + k : Nat) := nI_toInt (by omega)
    rw [e1] at h3
    omega
def m_wyL (M : MS) (v : Nat) (f : Int32) : Nat → Nat → Nat
  | 0, k => k
  | d + 1, k => if m_opn M v (m_wya M v f k) then m_wyL M v f d (k + 1) else k
theorem m_wyL_in {M : MS} {v k : Nat} {f : Int32} (h : k < 7) : m_wyL M v f (7 - k) k = if m_opn M v (m_wya M v f k) then m_wyL M v f (7 - (k + 1)) (k + 1) else k := by
  obtain ⟨d, hd⟩ : ∃ d, 7 - k = d + 1 := ⟨7 - k - 1, by omega⟩
  rw [hd, show 7 - (k + 1) = d by omega]; rfl
theorem m_wyL_out {M : MS} {v k : Nat} {f : Int32} (h : ¬ m_opn M v (m_wya M v f k)) : m_wyL M v f (7 - k) k = k := by
  cases hd : 7 - k with
  | zero => rfl
  | succ d => rw [m_wyL, if_neg h]
def m_wy (M : MS) (v : Nat) (f : Int32) : Nat := m_wyL M v f 7 0
abbrev m_free (M : MS) : Prop := 0 < m_n M ∧ m_pl M 0 = 4
def m_rst (M : MS) : MS := m_wGo (m_wTh M 0) (cpN (m_pl M) (m_pk M) (m_n M)) 0 0
def m_row (M : MS) (v : Int32) : Int32 := if m_has M v then (if m_ac M v.toNatClampNeg = 1 then nI (m_li M v.toNatClampNeg) else nI (m_pl M v.toNatClampNeg)) else 0
def m_col (M : MS) (v : Int32) : Int32 := if m_has M v then (if m_ac M v.toNatClampNeg = 1 then nI (m_pl M v.toNatClampNeg) else nI (m_li M v.toNatClampNeg)) else 0
theorem m_t01 {P : Prop} [Decidable P] (h : (if P then (0 : Int32) else 1) = 0) : P := by
  by_cases hp : P
  · exact hp
  · rw [if_neg hp] at h; exact absurd h (by decide)
theorem m_t10 {P : Prop} [Decidable P] (h : ¬ (if P then (0 : Int32) else 1) = 0) : ¬ P := fun hp => h (if_pos hp)
