/-! The reference's board: what keeps it in order, and what its remaining methods on the board answer -/
theorem ly_k_le {a l p w B : Nat} {f : Nat → Nat} (hf : ∀ c, c < 36 → f c ≤ B) (hw : w ≤ B) : ∀ k c, c < 36 → ly_k a l p w f k c ≤ B
  | 0, c, hc => hf c hc
  | k + 1, c, hc => by
    show updN (ly_k a l p w f k) (m_cl a l (p + k)) w c ≤ B
    by_cases h : c = m_cl a l (p + k)
    · subst h; rw [updN_s]; exact hw
    · rw [updN_n h]; exact ly_k_le hf hw k c hc
theorem ly_v_le {M : MS} {B : Nat} {f : Nat → Nat} (hf : ∀ c, c < 36 → f c ≤ B) : ∀ v, v ≤ B → ∀ c, c < 36 → ly_v M f v c ≤ B
  | 0, _, c, hc => hf c hc
  | v + 1, hv, c, hc => ly_k_le (ly_v_le hf v (by omega)) hv _ c hc
theorem m_ok_lay {M : MS} (h : m_ok M) : m_ok (m_lay M) :=
  ⟨h.1, h.2.1, fun c hc => ly_v_le (fun c hc => by simp only [fillN]; rw [if_pos hc]; exact Nat.zero_le _) _ h.1 c hc⟩
theorem m_lay_le (M : MS) : ∀ c, c < 36 → m_yd (m_lay M) c ≤ m_n (m_lay M) := fun c hc => ly_v_le (B := m_n M) (fun c hc => by simp only [fillN]; rw [if_pos hc]; exact Nat.zero_le _) _ (Nat.le_refl _) c hc
theorem m_ok_wTh {M : MS} (x : Int32) (h : m_ok M) : m_ok (m_wTh M x) := h
theorem m_ok_isv {M : MS} (v : Int32) (h : m_ok M) : m_ok (m_isv M v) := h
theorem m_wyL_le {M : MS} {v : Nat} {f : Int32} {B : Nat} (h : ∀ k, m_opn M v (m_wya M v f k) → k < 7 → k + 1 ≤ B) : ∀ d k, k + d ≤ 7 → k ≤ B → m_wyL M v f d k ≤ B
  | 0, k, _, hk => hk
  | d + 1, k, hd, hk => by
    rw [m_wyL]
    by_cases hz : m_opn M v (m_wya M v f k)
    · rw [if_pos hz]; exact m_wyL_le h d (k + 1) (by omega) (h k hz (by omega))
    · rw [if_neg hz]; exact hk
theorem m_wy_back {M : MS} {v : Nat} (hok : m_ok M) (hv : v < m_n M) : m_wy M v 0 ≤ m_pl M v := by
  obtain ⟨-, -, -, -, h5, -⟩ := hok.2.1 v hv
  refine m_wyL_le (fun k hz hk => ?_) 7 0 (by omega) (Nat.zero_le _)
  have h0 : (0 : Int32).toInt = 0 := rfl
  have h1 : (1 : Int32).toInt = 1 := rfl
  have h2 := hz.1.1
  rw [Int32.lt_iff_toInt_lt, h0, m_wya, if_pos rfl] at h2
  have e1 : (nI (m_pl M v)).toInt = m_pl M v := nI_toInt (by omega)
  have e2 : (nI k).toInt = k := nI_toInt (by omega)
  have e3 := i_sub e1 h1 (by omega) (by omega) (by omega) (by omega)
  have e4 := i_sub e3 e2 (by omega) (by omega) (by omega) (by omega)
  rw [e4] at h2
  omega
theorem m_wy_fwd {M : MS} {v : Nat} {f : Int32} (hf : ¬ f = 0) (hok : m_ok M) (hv : v < m_n M) : m_pl M v + m_sz M v + m_wy M v f ≤ 6 := by
  obtain ⟨-, -, -, -, h5, -⟩ := hok.2.1 v hv
  have := m_wyL_le (M := M) (v := v) (f := f) (B := 6 - (m_pl M v + m_sz M v)) (fun k hz hk => ?_) 7 0 (by omega) (Nat.zero_le _)
  · rw [m_wy]; omega
  · have h6 : (6 : Int32).toInt = 6 := rfl
    have h3 := hz.1.2
    rw [Int32.le_iff_toInt_le, h6, m_wya, if_neg hf] at h3
    have e1 : (nI (m_pl M v + m_sz M v + k)).toInt = (m_pl M v + m_sz M v + k : Nat) := nI_toInt (by omega)
    rw [e1] at h3
    omega
def m_abs (c : Int32) : Int32 := if 0 ≤ c then c else -c
def m_tgt (M : MS) (v : Nat) (c : Int32) : Nat := (nI (m_pl M v) + c).toNatClampNeg
def m_go (M : MS) (v : Nat) (c : Int32) : MS := m_wGo M (updN (m_pl M) v (m_tgt M v c)) (m_mo M + 1) (m_dr M + m_abs c)
abbrev m_rng (c : Int32) : Prop := ¬ c < -4 ∧ ¬ 4 < c ∧ ¬ c = 0
def m_fw (c : Int32) : Int32 := if c ≤ 0 then 0 else 1
def m_dth (X : MS) (v : Nat) (c : Int32) : Int32 := if ¬ m_rng c then 2 else if ¬ m_abs c ≤ nI (m_wy X v (m_fw c)) then 3 else 0
theorem m_dth_ok {X : MS} {v : Nat} {c : Int32} (h : m_dth X v c = 0) : m_rng c ∧ m_abs c ≤ nI (m_wy X v (m_fw c)) := by
  unfold m_dth at h
  by_cases h1 : m_rng c
  · rw [if_neg (not_not_intro h1)] at h
    by_cases h2 : m_abs c ≤ nI (m_wy X v (m_fw c))
    · exact ⟨h1, h2⟩
    · rw [if_pos h2] at h; exact absurd h (by decide)
  · rw [if_pos h1] at h; exact absurd h (by decide)
/-- a number from -6 to 6 added to a place -/
theorem m_tgt_of {X : MS} {v : Nat} {c : Int32} {z : Int} (hz : c.toInt = z) (hp : m_pl X v ≤ 6) (h1 : -6 ≤ z) (h2 : z ≤ 6) (h3 : 0 ≤ (m_pl X v : Int) + z) : nI (m_pl X v) + c = nI (m_tgt X v c) ∧ (m_tgt X v c : Int) = (m_pl X v : Int) + z := by
  have e1 : (nI (m_pl X v)).toInt = m_pl X v := nI_toInt (by omega)
  have e2 := i_add e1 hz (by omega) (by omega) (by omega) (by omega)
  have e3 : m_tgt X v c = ((m_pl X v : Int) + z).toNat := by rw [m_tgt, cl_toNat, e2]
  refine ⟨i_nn (by rw [e2]; exact h3), ?_⟩
  rw [e3]; omega
theorem neg_toInt {c : Int32} {z : Int} (hz : c.toInt = z) (h1 : -1000 ≤ z) (h2 : z ≤ 1000) : (-c).toInt = -z := by
  rw [Int32.toInt_neg, hz]
  exact Int.bmod_eq_of_le (by omega) (by omega)
theorem m_tgt_ok {X : MS} {v : Nat} {c : Int32} (hok : m_ok X) (hv : v < m_n X) (h : m_dth X v c = 0) : nI (m_pl X v) + c = nI (m_tgt X v c) ∧ m_tgt X v c + m_sz X v ≤ 6 := by
  obtain ⟨b1_, b2_, b3_, b4_, b5_, b6_⟩ := hok.2.1 v hv
  obtain ⟨⟨h1, h2, h3⟩, h4⟩ := m_dth_ok h
  have k4 : (4 : Int32).toInt = 4 := rfl
  have k4' : (-4 : Int32).toInt = -4 := rfl
  have k0 : (0 : Int32).toInt = 0 := rfl
  obtain ⟨z, hz⟩ : ∃ z, z = c.toInt := ⟨_, rfl⟩
  rw [Int32.lt_iff_toInt_lt, k4', ← hz] at h1
  rw [Int32.lt_iff_toInt_lt, k4, ← hz] at h2
  have h3' : z ≠ 0 := fun q => h3 (Int32.toInt_inj.mp (by rw [← hz, q, k0]))
  unfold m_abs m_fw at h4
  by_cases hs : c ≤ 0
  · have hs' := hs
    rw [Int32.le_iff_toInt_le, k0, ← hz] at hs'
    have hn : ¬ 0 ≤ c := by rw [Int32.le_iff_toInt_le, k0, ← hz]; omega
    rw [if_neg hn, if_pos hs, Int32.le_iff_toInt_le, neg_toInt hz.symm (by omega) (by omega)] at h4
    have hb := m_wy_back hok hv
    rw [nI_toInt (by omega)] at h4
    have := m_tgt_of (X := X) (v := v) hz.symm (by omega) (by omega) (by omega) (by omega)
    exact ⟨this.1, by have := this.2; omega⟩
  · have hs' := hs
    rw [Int32.le_iff_toInt_le, k0, ← hz] at hs'
    have hn : 0 ≤ c := by rw [Int32.le_iff_toInt_le, k0, ← hz]; omega
    rw [if_pos hn, if_neg hs, Int32.le_iff_toInt_le, ← hz] at h4
    have hb := m_wy_fwd (f := 1) (by decide) hok hv
    rw [nI_toInt (by omega)] at h4
    have := m_tgt_of (X := X) (v := v) hz.symm (by omega) (by omega) (by omega) (by omega)
    exact ⟨this.1, by have := this.2; omega⟩
def m_drive (M : MS) (v c : Int32) : MS := if m_has M v then
    (if m_dth (m_lay (m_isv M v)) v.toNatClampNeg c = 0 then m_go (m_wTh (m_lay (m_isv M v)) 0) v.toNatClampNeg c else m_wTh (m_lay (m_isv M v)) (m_dth (m_lay (m_isv M v)) v.toNatClampNeg c))
  else m_isv M v
def m_dron (M : MS) (v f : Int32) : MS := if m_has M v then
    (if m_wy (m_lay (m_isv M v)) v.toNatClampNeg f = 0 then m_lay (m_isv M v) else m_go (m_lay (m_isv M v)) v.toNatClampNeg (if f = 0 then -nI (m_wy (m_lay (m_isv M v)) v.toNatClampNeg f) else nI (m_wy (m_lay (m_isv M v)) v.toNatClampNeg f)))
  else m_isv M v
def m_drw (M : MS) (v f : Int32) : Int32 := if m_has M v then nI (m_wy (m_lay (m_isv M v)) v.toNatClampNeg f) else 0
theorem m_tgt_dron {X : MS} {v : Nat} {f : Int32} (hok : m_ok X) (hv : v < m_n X) : nI (m_pl X v) + (if f = 0 then -nI (m_wy X v f) else nI (m_wy X v f)) = nI (m_tgt X v (if f = 0 then -nI (m_wy X v f) else nI (m_wy X v f))) ∧ m_tgt X v (if f = 0 then -nI (m_wy X v f) else nI (m_wy X v f)) + m_sz X v ≤ 6 := by
  obtain ⟨b1_, b2_, b3_, b4_, b5_, b6_⟩ := hok.2.1 v hv
  by_cases hf : f = 0
  · subst hf
    rw [if_pos rfl]
    have hb := m_wy_back hok hv
    have := m_tgt_of (X := X) (v := v) (neg_toInt (nI_toInt (n := m_wy X v 0) (by omega)) (by omega) (by omega)) (by omega) (by omega) (by omega) (by omega)
    exact ⟨this.1, by have := this.2; omega⟩
  · rw [if_neg hf]
    have hb := m_wy_fwd hf hok hv
    have := m_tgt_of (X := X) (v := v) (nI_toInt (n := m_wy X v f) (by omega)) (by omega) (by omega) (by omega) (by omega)
    exact ⟨this.1, by have := this.2; omega⟩
theorem m_rq_in {r q : Int32} (h : inL r ∧ inL q) : vp_in (6 * r + q) 36 := by
  obtain ⟨x, hx, rfl⟩ := inL_ex h.1
  obtain ⟨y, hy, rfl⟩ := inL_ex h.2
  rw [show (6 : Int32) * nI x = nI (6 * x) from pk_mul 6 x, nI_add]
  exact vp_in_nI (by omega) (by decide)
theorem vp_lt {x : Int32} {n : Nat} (h : vp_in x n) : x.toNatClampNeg < n := Nat.not_le.mp fun q => h (Or.inr q)
def m_at (X : MS) (r q : Int32) : Int32 := if inL r ∧ inL q then nI (m_yd X (6 * r + q).toNatClampNeg) - 1 else 0
def m_on (X : MS) (r q : Int32) : Nat := if inL r ∧ inL q then m_yd X (6 * r + q).toNatClampNeg else 0
theorem m_on_le {X : MS} {r q : Int32} (hok : m_ok X) : m_on X r q ≤ 9 := by
  unfold m_on
  split
  · next h => exact hok.2.2 _ (vp_lt (m_rq_in h))
  · exact Nat.zero_le _
theorem m_on_len (M : MS) (r q : Int32) : m_on (m_lay M) r q ≤ m_n (m_lay M) := by
  unfold m_on
  split
  · next h => exact m_lay_le M _ (vp_lt (m_rq_in h))
  · exact Nat.zero_le _
theorem b1_nar (P : Prop) [Decidable P] : narrow .boolean (.int (b1 P)) = .int (b1 P) := by
  by_cases h : P
  · rw [b1, if_pos h]; rfl
  · rw [b1, if_neg h]; rfl
theorem m_wy_le7 (M : MS) (v : Nat) (f : Int32) : m_wy M v f ≤ 7 := m_wyL_le (fun k _ hk => hk) 7 0 (by omega) (Nat.zero_le _)
def m_rth (X : MS) (r q : Int32) : Int32 := if ¬ (inL r ∧ inL q) then 1 else if 0 < m_mo X ∨ (0 < m_on X r q ∧ 2 < m_sz X (m_on X r q - 1)) then 2 else 0
def m_ramp (X : MS) (r q : Int32) : MS := m_wRp (m_wTh X (m_rth X r q)) (if m_rth X r q = 0 then 6 * r + q else m_rp X)
def m_fway (X : MS) (v f : Int32) : Int32 := if m_has X v then nI (m_wy (m_isv X v) v.toNatClampNeg f) else 0
abbrev itw_on (X : MS) (c : Nat) : Int32 := nI (m_yd X (12 + c))
abbrev itw_new (X : MS) (c : Nat) (sn : Int32) : Prop := 0 < m_yd X (12 + c) ∧ (sn >>> (itw_on X c &&& 31)) &&& 1 = 0
def itw (X : MS) : Nat → Nat → Int32 → Int32 → Int32
  | 0, _, _, n => n
  | d + 1, c, sn, n => itw X d (c + 1) (sn ||| (1 <<< (itw_on X c &&& 31))) (n + if itw_new X c sn then 1 else 0)
def itw_c0 (X : MS) : Nat := if m_n X = 0 then 6 else m_pl X 0 + 2
theorem itw_c0_le {X : MS} (hok : m_ok X) : itw_c0 X ≤ 9 := by
  unfold itw_c0
  split
  · omega
  · obtain ⟨b1_, b2_, b3_, b4_, b5_, b6_⟩ := hok.2.1 0 (by omega)
    omega
theorem itw_in {X : MS} {c : Nat} {sn n : Int32} (h : c < 6) : itw X (6 - c) c sn n = itw X (6 - (c + 1)) (c + 1) (sn ||| (1 <<< (itw_on X c &&& 31))) (n + if itw_new X c sn then 1 else 0) := by
  obtain ⟨d, hd⟩ : ∃ d, 6 - c = d + 1 := ⟨6 - c - 1, by omega⟩
  rw [hd, show 6 - (c + 1) = d by omega]; rfl
/-! park -/
def p_plcN (a : Int32) (r q : Nat) : Nat := if a = 0 then r else q
def p_linN (a : Int32) (r q : Nat) : Nat := if a = 0 then q else r
def p_ax (a : Int32) : Nat := if a = 0 then 0 else 1
theorem p_plc_nI (a : Int32) (r q : Nat) : p_plc a (nI r) (nI q) = nI (p_plcN a r q) := by
  unfold p_plc p_plcN; split <;> rfl
theorem p_lin_nI (a : Int32) (r q : Nat) : p_line a (nI r) (nI q) = nI (p_linN a r q) := by
  unfold p_line p_linN; split <;> rfl
abbrev pk_is (M : MS) (c a r q : Int32) : Prop := ¬ c < 2 ∧ ¬ 4 < c ∧ inL r ∧ inL q ∧ ¬ 6 < p_plc a r q + c ∧ (0 < m_n M ∨ (c = 2 ∧ ¬ a = 0 ∧ r = 2))
theorem pk_is_ex {M : MS} {c a r q : Int32} (h : pk_is M c a r q) : ∃ cn rn qn : Nat, 2 ≤ cn ∧ cn ≤ 4 ∧ rn < 6 ∧ qn < 6 ∧ p_plcN a rn qn + cn ≤ 6 ∧ c = nI cn ∧ r = nI rn ∧ q = nI qn := by
  obtain ⟨h1, h2, h3, h4, h5, -⟩ := h
  obtain ⟨rn, hr, rfl⟩ := inL_ex h3
  obtain ⟨qn, hq, rfl⟩ := inL_ex h4
  have k2 : (2 : Int32).toInt = 2 := rfl
  have k4 : (4 : Int32).toInt = 4 := rfl
  have k6 : (6 : Int32).toInt = 6 := rfl
  rw [Int32.lt_iff_toInt_lt, k2] at h1
  rw [Int32.lt_iff_toInt_lt, k4] at h2
  have hc : c = nI c.toNatClampNeg := i_nn (by omega)
  have hcn : (c.toNatClampNeg : Int) = c.toInt := by rw [cl_toNat]; omega
  have hp : p_plcN a rn qn < 6 := by unfold p_plcN; split <;> assumption
  refine ⟨c.toNatClampNeg, rn, qn, by omega, by omega, hr, hq, ?_, hc, rfl, rfl⟩
  rw [p_plc_nI, hc, nI_add, Int32.lt_iff_toInt_lt, k6, nI_toInt (by omega)] at h5
  omega
def pk_cell (a : Int32) (rn qn k : Nat) : Nat := m_cl (p_ax a) (p_linN a rn qn) (p_plcN a rn qn + k)
def pk_can (X : MS) (a : Int32) (cn rn qn : Nat) : Nat → Bool
  | 0 => decide (m_n X < 9 ∧ m_mo X = 0)
  | k + 1 => pk_can X a cn rn qn k && decide (m_yd X (pk_cell a rn qn k) = 0 ∧ (cn = 2 ∨ ¬ nI (pk_cell a rn qn k) = m_rp X))
def m_park (M : MS) (c a r q : Int32) : MS := if pk_is M c a r q then
    (if pk_can (m_lay (m_wTh M 0)) a c.toNatClampNeg r.toNatClampNeg q.toNatClampNeg c.toNatClampNeg = true then m_wPk (m_wTh (m_lay (m_wTh M 0)) 0) c.toNatClampNeg (p_ax a) (p_linN a r.toNatClampNeg q.toNatClampNeg) (p_plcN a r.toNatClampNeg q.toNatClampNeg) else m_wTh (m_lay (m_wTh M 0)) 2)
  else m_wTh M 1
def m_parkr (M : MS) (c a r q : Int32) : Int32 := if pk_is M c a r q then
    (if pk_can (m_lay (m_wTh M 0)) a c.toNatClampNeg r.toNatClampNeg q.toNatClampNeg c.toNatClampNeg = true then nI (m_n M) else 0) else 0
theorem p_ax_le (a : Int32) : p_ax a ≤ 1 := by
  unfold p_ax; split <;> omega
theorem p_linN_lt {a : Int32} {r q : Nat} (hr : r < 6) (hq : q < 6) : p_linN a r q < 6 := by
  unfold p_linN; split <;> assumption
theorem pk_can_9 {X : MS} {a : Int32} {cn rn qn : Nat} : ∀ k, pk_can X a cn rn qn k = true → m_n X < 9
  | 0, h => (of_decide_eq_true h).1
  | k + 1, h => pk_can_9 k (by rw [pk_can, Bool.and_eq_true] at h; exact h.1)
theorem pk_can_b {X : MS} {a : Int32} {cn rn qn k : Nat} {x : Int32} (h : (x = 1 ∧ pk_can X a cn rn qn k = true ∧ m_yd X (m_cl (p_ax a) (p_linN a rn qn) (p_plcN a rn qn + k)) = 0 ∧ (cn = 2 ∨ ¬ nI (m_cl (p_ax a) (p_linN a rn qn) (p_plcN a rn qn + k)) = m_rp X)) ∨ (x = 0 ∧ ¬ (pk_can X a cn rn qn k = true ∧ m_yd X (m_cl (p_ax a) (p_linN a rn qn) (p_plcN a rn qn + k)) = 0 ∧ (cn = 2 ∨ ¬ nI (m_cl (p_ax a) (p_linN a rn qn) (p_plcN a rn qn + k)) = m_rp X)))) : x = b1 (pk_can X a cn rn qn (k + 1) = true) := by
  have e : pk_can X a cn rn qn (k + 1) = true ↔ (pk_can X a cn rn qn k = true ∧ m_yd X (m_cl (p_ax a) (p_linN a rn qn) (p_plcN a rn qn + k)) = 0 ∧ (cn = 2 ∨ ¬ nI (m_cl (p_ax a) (p_linN a rn qn) (p_plcN a rn qn + k)) = m_rp X)) := by
    rw [pk_can, Bool.and_eq_true, decide_eq_true_iff]; exact Iff.rfl
  rcases h with ⟨rfl, h⟩ | ⟨rfl, h⟩
  · rw [b1, if_pos (e.mpr h)]
  · rw [b1, if_neg (fun q => h (e.mp q))]
