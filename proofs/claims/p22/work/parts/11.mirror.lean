/-! What the methods of the class answer, written as functions over the machine's own numbers -/
abbrev b1 (P : Prop) [Decidable P] : Int32 := if P then 1 else 0
theorem b1_t {P : Prop} [Decidable P] (h : ¬ b1 P = 0) : P := by
  by_cases hp : P
  · exact hp
  · exact absurd (by simp [b1, hp]) h
theorem b1_f {P : Prop} [Decidable P] (h : b1 P = 0) : ¬ P := by
  intro hp
  simp [b1, hp] at h
theorem lg_t {x y : Int64} (h : lg_cmp x y = 0) : x = y := (lg_cmp_eq x y).mp h
theorem lg_f {x y : Int64} (h : ¬ lg_cmp x y = 0) : ¬ x = y := fun q => h ((lg_cmp_eq x y).mpr q)
theorem nx_ge {n k : Nat} (hn : n < 2147483648) (hk : k < 2147483648) (h : nI n ≤ nI k) : n ≤ k := (nI_leI hn hk).mp h
theorem nx_lt {n k : Nat} (hn : n < 2147483648) (hk : k < 2147483648) (h : ¬ nI n ≤ nI k) : k < n := Nat.not_le.mp (fun q => h ((nI_leI hn hk).mpr q))
theorem cl_toNat (x : Int32) : x.toNatClampNeg = x.toInt.toNat := rfl
theorem cl_bound (x : Int32) : x.toNatClampNeg < 2147483648 := by
  have := Int32.toInt_lt x
  rw [cl_toNat]; omega
theorem cl_lt {x : Int32} {k : Nat} (hk : k < 2147483648) (h : ¬ x ≤ nI k) : k < x.toNatClampNeg := by
  have h2 : (nI k).toInt = k := nI_toInt hk
  rw [Int32.le_iff_toInt_le, h2] at h
  rw [cl_toNat]; omega
theorem cl_ge {x : Int32} {k : Nat} (hk : k < 2147483648) (h : x ≤ nI k) : x.toNatClampNeg ≤ k := by
  have h2 : (nI k).toInt = k := nI_toInt hk
  rw [Int32.le_iff_toInt_le, h2] at h
  rw [cl_toNat]; omega
theorem nx_nl {x y : Int32} (h : ¬ y < x) : x ≤ y := Int32.not_lt.mp h
theorem nx_le {x y : Int32} (h : y < x) : ¬ x ≤ y := Int32.not_le.mpr h
def pl (x v : Int32) : Int32 := (x >>> ((3 * v) &&& 31)) &&& 7
def mv (x v c : Int32) : Int32 := x + c * (1 <<< ((3 * v) &&& 31))
abbrev inY (r c : Int32) : Prop := ¬ r < 0 ∧ ¬ 6 ≤ r ∧ ¬ c < 0 ∧ ¬ 6 ≤ c
def co (r c : Int32) : Int64 := 1 <<< ((6 * r + c).toInt64 &&& 63)
def cso (ac r c : Int32) : Nat → Int64
  | 0 => 0
  | k + 1 => cso ac r c k ||| (if ac = 0 then co (r + nI k) c else co r (c + nI k))
abbrev y_has (Y : YS) (v : Int32) : Prop := ¬ v < 0 ∧ ¬ nI (y_n Y) ≤ v ∧ ¬ 9 ≤ v
theorem cl_in {v : Int32} {n : Nat} (h0 : ¬ v < 0) (h : ¬ nI n ≤ v) (hn : n < 2147483648) : vp_in v n := by
  have h2 : (nI n).toInt = n := nI_toInt hn
  rw [vp_in_iff]
  rw [Int32.lt_iff_toInt_lt] at h0
  rw [Int32.le_iff_toInt_le, h2] at h
  have : (0 : Int32).toInt = 0 := rfl
  omega
theorem y_has_in {Y : YS} {v : Int32} (h : y_has Y v) : vp_in v 9 := cl_in (n := 9) h.1 h.2.2 (by decide)
abbrev y_lor (Y : YS) (v : Int32) : Prop := y_has Y v ∧ ¬ y_sz Y v.toNatClampNeg ≤ 2
def y_line (Y : YS) (v : Int32) : Int32 := if y_has Y v then y_li Y v.toNatClampNeg else 0
def y_bar (Y : YS) (sz : Int32) : Int64 := if sz ≤ 2 then 0 else y_rp Y
abbrev y_acr (Y : YS) (v : Int32) : Prop := y_has Y v ∧ ¬ y_ac Y v.toNatClampNeg = 0
def y_str (Y : YS) (v : Int32) : Int32 := if y_ac Y v.toNatClampNeg = 0 then 6 else 1
def y_cel (Y : YS) (x v : Int32) : Int64 := if y_has Y v then y_sh Y v.toNatClampNeg <<< ((y_str Y v * pl x v).toInt64 &&& 63) else 0
def y_fil (Y : YS) (x : Int32) : Nat → Int64
  | 0 => 0
  | k + 1 => y_fil Y x k ||| y_cel Y x (nI k)
def y_on (Y : YS) (x : Int32) (cell : Int64) : Nat → Nat → Int32
  | 0, _ => -1
  | d + 1, k => if y_cel Y x (nI k) &&& cell = 0 then y_on Y x cell d (k + 1) else nI k
def y_tb (Y : YS) (x v dir : Int32) : Int32 := if dir = 1 then 6 - y_sz Y v.toNatClampNeg - pl x v else pl x v
def y_shf (dir st : Int32) (c : Int64) : Int64 := if dir = 1 then c <<< (st.toInt64 &&& 63) else (c.toUInt64 >>> (st.toInt64.toUInt64 &&& Int64.toUInt64 63)).toInt64
def y_brd (Y : YS) (x : Int32) (fil : Int64) (v : Int32) : Int64 := (fil &&& (y_cel Y x v ^^^ (-1))) ||| y_bar Y (y_sz Y v.toNatClampNeg)
def y_wl (bar : Int64) (dir st tb : Int32) : Nat → Nat → Int64 → Int32
  | 0, _, _ => tb
  | d + 1, k, c => if y_shf dir st c &&& bar = 0 then y_wl bar dir st tb d (k + 1) (y_shf dir st c) else nI k
def y_way (Y : YS) (x : Int32) (fil : Int64) (v dir : Int32) : Int32 :=
  if y_has Y v then y_wl (y_brd Y x fil v) dir (y_str Y v) (y_tb Y x v dir) (y_tb Y x v dir).toNatClampNeg 0 (y_cel Y x v) else 0
def y_csh (size ac line : Int32) : Int64 := if ac = 0 then cso 0 0 line (min size.toNatClampNeg 4) else cso 1 line 0 (min size.toNatClampNeg 4)
def y_add (Y : YS) (size ac line : Int32) : YS := if y_n Y < 9 then (upd (y_sz Y) (y_n Y) size, upd (y_ac Y) (y_n Y) (vp_nar .boolean ac), upd (y_li Y) (y_n Y) line, vp_updL (y_sh Y) (y_n Y) (y_csh size ac line), y_n Y + 1, y_rp Y) else Y
def y_put (Y : YS) (cell : Int64) : YS := (y_sz Y, y_ac Y, y_li Y, y_sh Y, y_n Y, cell)
theorem y_wl_out {bar : Int64} {dir st tb : Int32} {k : Nat} {c : Int64} (h : tb ≤ nI k) (hk : k < 2147483648) : y_wl bar dir st tb (tb.toNatClampNeg - k) k c = tb := by
  have h2 := cl_ge hk h
  rw [show tb.toNatClampNeg - k = 0 by omega]; rfl
theorem y_wl_in {bar : Int64} {dir st tb : Int32} {k : Nat} {c : Int64} (h : k < tb.toNatClampNeg) : y_wl bar dir st tb (tb.toNatClampNeg - k) k c = if y_shf dir st c &&& bar = 0 then y_wl bar dir st tb (tb.toNatClampNeg - (k + 1)) (k + 1) (y_shf dir st c) else nI k := by
  obtain ⟨d, hd⟩ : ∃ d, tb.toNatClampNeg - k = d + 1 := ⟨tb.toNatClampNeg - k - 1, by omega⟩
  rw [hd, show tb.toNatClampNeg - (k + 1) = d by omega]; rfl
theorem y_on_in {Y : YS} {x : Int32} {cell : Int64} {n k : Nat} (h : k < n) : y_on Y x cell (n - k) k = if y_cel Y x (nI k) &&& cell = 0 then y_on Y x cell (n - (k + 1)) (k + 1) else nI k := by
  obtain ⟨d, hd⟩ : ∃ d, n - k = d + 1 := ⟨n - k - 1, by omega⟩
  rw [hd, show n - (k + 1) = d by omega]; rfl
theorem cl_in800 {v : Int32} (h0 : ¬ v < 0) (h : ¬ 800 ≤ v) : vp_in v 800 := cl_in (n := 800) h0 h (by decide)
theorem cl_in2048 {v : Int32} (h0 : ¬ v < 0) (h : ¬ 2048 ≤ v) : vp_in v 2048 := cl_in (n := 2048) h0 h (by decide)
abbrev iabs (x : Int32) : Int32 := if 0 ≤ x then x else 0 - x
abbrev s_isF (S : SS) (i : Int32) : Prop := ¬ i < 0 ∧ ¬ s_fc S ≤ i ∧ ¬ 800 ≤ i
theorem s_isF_in {S : SS} {i : Int32} (h : s_isF S i) : vp_in i 800 := cl_in800 h.1 h.2.2
def h_first (x : Int32) : Int32 := ((x * (-1640531535)).toUInt32 >>> ((21 : Int32).toUInt32 &&& Int32.toUInt32 31)).toInt32
def h_slot (x : Int32) (k : Nat) : Int32 := (h_first x + nI k) &&& 2047
theorem h_slot_in (y : Int32) : vp_in (y &&& 2047) 2048 := pk_andIn y (m := 2047) 11 (by decide) (by decide)
abbrev s_stop (S : SS) (x : Int32) (k : Nat) : Prop := s_sl S (h_slot x k).toNatClampNeg - 1 < 0 ∨ 800 ≤ s_sl S (h_slot x k).toNatClampNeg - 1 ∨ s_fo S (s_sl S (h_slot x k).toNatClampNeg - 1).toNatClampNeg = x
def s_slotL (S : SS) (x : Int32) : Nat → Nat → Int32
  | 0, _ => -1
  | d + 1, k => if s_stop S x k then h_slot x k else s_slotL S x d (k + 1)
theorem s_slotL_in {S : SS} {x : Int32} {k : Nat} (h : k < 2048) : s_slotL S x (2048 - k) k = if s_stop S x k then h_slot x k else s_slotL S x (2048 - (k + 1)) (k + 1) := by
  obtain ⟨d, hd⟩ : ∃ d, 2048 - k = d + 1 := ⟨2048 - k - 1, by omega⟩
  rw [hd, show 2048 - (k + 1) = d by omega]; rfl
def s_slot (S : SS) (x : Int32) : Int32 := s_slotL S x 2048 0
abbrev s_full (S : SS) (sl : Int32) : Prop := s_fc S < 0 ∨ 800 ≤ s_fc S ∨ sl < 0 ∨ 2048 ≤ sl ∨ ¬ s_sl S sl.toNatClampNeg = 0
def s_addN (S : SS) (x o c : Int32) : SS := if s_full S (s_slot S x) then S else
  (upd (s_fo S) (s_fc S).toNatClampNeg x, upd (s_or S) (s_fc S).toNatClampNeg o, upd (s_mo S) (s_fc S).toNatClampNeg c, upd (s_sl S) (s_slot S x).toNatClampNeg (s_fc S + 1), s_fc S + 1, if s_fs S = -1 ∧ pl x 0 = 4 then s_fc S else s_fs S, s_sm S, s_sc S, s_sf S)
def m_code (v c : Int32) : Int32 := 10 * v + c + 4
def m_cells (x : Int32) : Int32 := x - x / 10 * 10 - 4
def s_drvL (o v dir way : Int32) : Nat → Nat → SS → SS
  | 0, _, S => S
  | d + 1, k, S => if nI k ≤ way ∧ nI k ≤ 4 then s_drvL o v dir way d (k + 1) (s_addN S (mv (s_fo S o.toNatClampNeg) v (dir * nI k)) o (m_code v (dir * nI k))) else S
theorem s_drvL_in {o v dir way : Int32} {k : Nat} {S : SS} (h : k < 5) : s_drvL o v dir way (5 - k) k S = if nI k ≤ way ∧ nI k ≤ 4 then s_drvL o v dir way (5 - (k + 1)) (k + 1) (s_addN S (mv (s_fo S o.toNatClampNeg) v (dir * nI k)) o (m_code v (dir * nI k))) else S := by
  obtain ⟨d, hd⟩ : ∃ d, 5 - k = d + 1 := ⟨5 - k - 1, by omega⟩
  rw [hd, show 5 - (k + 1) = d by omega]; rfl
theorem s_drvL_out {o v dir way : Int32} {k : Nat} {S : SS} (h : ¬ (nI k ≤ way ∧ nI k ≤ 4)) : s_drvL o v dir way (5 - k) k S = S := by
  cases hd : 5 - k with
  | zero => rfl
  | succ d => rw [s_drvL, if_neg h]
def s_drv (S : SS) (o v dir way : Int32) : SS := if s_isF S o then s_drvL o v dir way 4 1 S else S
def s_reachL (Y : YS) (o x : Int32) (fil : Int64) : Nat → Nat → SS → SS
  | 0, _, S => S
  | d + 1, k, S => s_reachL Y o x fil d (k + 1) (s_drv (s_drv S o (nI k) (-1) (y_way Y x fil (nI k) (-1))) o (nI k) 1 (y_way Y x fil (nI k) 1))
theorem s_reachL_in {Y : YS} {o x : Int32} {fil : Int64} {n k : Nat} {S : SS} (h : k < n) : s_reachL Y o x fil (n - k) k S = s_reachL Y o x fil (n - (k + 1)) (k + 1) (s_drv (s_drv S o (nI k) (-1) (y_way Y x fil (nI k) (-1))) o (nI k) 1 (y_way Y x fil (nI k) 1)) := by
  obtain ⟨d, hd⟩ : ∃ d, n - k = d + 1 := ⟨n - k - 1, by omega⟩
  rw [hd, show n - (k + 1) = d by omega]; rfl
def s_reach (Y : YS) (S : SS) (o : Int32) : SS := if s_isF S o then s_reachL Y o (s_fo S o.toNatClampNeg) (y_fil Y (s_fo S o.toNatClampNeg) (y_n Y)) (y_n Y) 0 S else S
def s_lookL (Y : YS) : Nat → Nat → SS → SS
  | 0, _, S => S
  | d + 1, k, S => if ¬ s_fc S ≤ nI k ∧ ¬ 800 ≤ s_fc S then s_lookL Y d (k + 1) (s_reach Y S (nI k)) else S
theorem s_lookL_in {Y : YS} {k : Nat} {S : SS} (h : k < 800) : s_lookL Y (800 - k) k S = if ¬ s_fc S ≤ nI k ∧ ¬ 800 ≤ s_fc S then s_lookL Y (800 - (k + 1)) (k + 1) (s_reach Y S (nI k)) else S := by
  obtain ⟨d, hd⟩ : ∃ d, 800 - k = d + 1 := ⟨800 - k - 1, by omega⟩
  rw [hd, show 800 - (k + 1) = d by omega]; rfl
theorem s_lookL_out {Y : YS} {k : Nat} {S : SS} (h : ¬ (¬ s_fc S ≤ nI k ∧ ¬ 800 ≤ s_fc S)) : s_lookL Y (800 - k) k S = S := by
  cases hd : 800 - k with
  | zero => rfl
  | succ d => rw [s_lookL, if_neg h]
theorem s_look_lt {S : SS} {k : Nat} (hk : k < 2147483648) (h1 : ¬ s_fc S ≤ nI k) (h2 : ¬ 800 ≤ s_fc S) : k < 800 := by
  have e1 : (nI k).toInt = k := nI_toInt hk
  have e2 : (800 : Int32).toInt = 800 := rfl
  rw [Int32.le_iff_toInt_le] at h1 h2
  omega
def s_trL : Nat → Nat → Int32 → SS → SS
  | 0, _, _, S => S
  | d + 1, k, ix, S => if ¬ ix ≤ 0 ∧ s_isF S ix then s_trL d (k + 1) (s_or S ix.toNatClampNeg) (s_fo S, s_or S, s_mo S, s_sl S, s_fc S, s_fs S, nI k, s_sc S + iabs (m_cells (s_mo S ix.toNatClampNeg)), s_mo S ix.toNatClampNeg) else S
theorem s_trL_in {k : Nat} {ix : Int32} {S : SS} (h : k < 800) : s_trL (800 - k) k ix S = if ¬ ix ≤ 0 ∧ s_isF S ix then s_trL (800 - (k + 1)) (k + 1) (s_or S ix.toNatClampNeg) (s_fo S, s_or S, s_mo S, s_sl S, s_fc S, s_fs S, nI k, s_sc S + iabs (m_cells (s_mo S ix.toNatClampNeg)), s_mo S ix.toNatClampNeg) else S := by
  obtain ⟨d, hd⟩ : ∃ d, 800 - k = d + 1 := ⟨800 - k - 1, by omega⟩
  rw [hd, show 800 - (k + 1) = d by omega]; rfl
def s_tr0 (S : SS) : SS := (s_fo S, s_or S, s_mo S, s_sl S, s_fc S, s_fs S, if s_fs S = -1 then -1 else 0, 0, -1)
def s_trace (S : SS) : SS := s_trL 799 1 (s_fs S) (s_tr0 S)
def fillF (f : Nat → Int32) (n : Nat) (v : Int32) : Nat → Int32 := fun j => if j < n then v else f j
theorem fillF_0 (f : Nat → Int32) (v : Int32) : fillF f 0 v = f := by
  funext j; simp [fillF]
theorem fillF_succ {f : Nat → Int32} {k : Nat} {v : Int32} : upd (fillF f k v) k v = fillF f (k + 1) v := by
  funext j
  by_cases h : j = k
  · subst h; rw [pk_us]; simp [fillF]
  · rw [pk_un h]; simp only [fillF]
    by_cases h2 : j < k
    · rw [if_pos h2, if_pos (by omega)]
    · rw [if_neg h2, if_neg (by omega)]
def s_new (S : SS) : SS := (s_fo S, s_or S, s_mo S, fillF (s_sl S) 2048 0, 0, -1, s_sm S, s_sc S, s_sf S)
def s_look (Y : YS) (S : SS) (x : Int32) : SS := s_trace (s_lookL Y 800 0 (s_addN (s_new S) x 0 0))
def s_fat (S : SS) (v p : Int32) : Nat → Nat → Int32
  | 0, _ => 0
  | d + 1, k => if ¬ s_fc S ≤ nI k then (if pl (s_fo S k) v = p then 1 else s_fat S v p d (k + 1)) else 0
theorem s_fat_in {S : SS} {v p : Int32} {k : Nat} (h : k < 800) : s_fat S v p (800 - k) k = if ¬ s_fc S ≤ nI k then (if pl (s_fo S k) v = p then 1 else s_fat S v p (800 - (k + 1)) (k + 1)) else 0 := by
  obtain ⟨d, hd⟩ : ∃ d, 800 - k = d + 1 := ⟨800 - k - 1, by omega⟩
  rw [hd, show 800 - (k + 1) = d by omega]; rfl
theorem s_fat_out {S : SS} {v p : Int32} {k : Nat} (h : s_fc S ≤ nI k) : s_fat S v p (800 - k) k = 0 := by
  cases hd : 800 - k with
  | zero => rfl
  | succ d => rw [s_fat, if_neg (fun q => q h)]
def s_pos (S : SS) : Int32 := if s_isF S (s_fs S) then s_fo S (s_fs S).toNatClampNeg else 0
