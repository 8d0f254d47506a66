/-! PURE: where a vehicle comes to stand -/
theorem wyL_opn {X : MS} {v : Nat} {f : Int32} : ∀ d k j, k ≤ j → j < m_wyL X v f d k → m_opn X v (m_wya X v f j)
  | 0, k, j, h1, h2 => by rw [m_wyL] at h2; omega
  | d + 1, k, j, h1, h2 => by
    rw [m_wyL] at h2
    by_cases q : m_opn X v (m_wya X v f k)
    · rw [if_pos q] at h2
      rcases (show k = j ∨ k + 1 ≤ j by omega) with z | z
      · subst z; exact q
      · exact wyL_opn d (k + 1) j z h2
    · rw [if_neg q] at h2; omega
theorem wy_opn {X : MS} {v j : Nat} {f : Int32} (h : j < m_wy X v f) : m_opn X v (m_wya X v f j) := wyL_opn 7 0 j (Nat.zero_le _) h
theorem opn_cell {M X : MS} {f : Nat → Nat} {v g : Nat} (ha : m_ac M v ≤ 1) (hl : m_li M v < 6) (hg : g < 6) (hX : atf M X f) (h : m_opn X v (nI g)) : (¬ ∃ u, u < m_n M ∧ occV M f u (m_cl (m_ac M v) (m_li M v) g)) ∧ (m_sz M v = 2 ∨ ¬ nI (m_cl (m_ac M v) (m_li M v) g) = m_rp M) := by
  have hc := m_cl_lt (a := m_ac M v) hl hg
  unfold m_opn at h
  rw [hX.e2, hX.e3, hX.e4, hX.e5, m_cli_nI ha, nI_clamp (by omega), hX.ey _ hc] at h
  exact h.2
theorem move_cells {M X : MS} {f : Nat → Nat} {v k : Nat} {sg : Int32} (hf : fit M f) (ha : m_ac M v ≤ 1) (hl : m_li M v < 6) (hv : v < m_n M) (hX : atf M X f) (hsg : sg = 1 ∨ sg = -1) (hk : k ≤ m_wy X v (m_fw sg)) (hb : sg = -1 → k ≤ f v) (hb2 : stp sg (f v) k + m_sz M v ≤ 6)
    {c : Nat} (hc : occ (m_ac M v) (m_li M v) (stp sg (f v) k) (m_sz M v) c) : occV M f v c ∨ ((¬ ∃ u, u < m_n M ∧ occV M f u c) ∧ (m_sz M v = 2 ∨ ¬ nI c = m_rp M)) := by
  obtain ⟨i, hi, rfl⟩ := hc
  have hfv := hf v hv
  rcases hsg with rfl | rfl
  · rw [stp, if_pos rfl] at hb2 ⊢
    by_cases q : k + i < m_sz M v
    · exact Or.inl ⟨k + i, q, by congr 1; omega⟩
    · refine Or.inr ?_
      have h := wy_opn (X := X) (v := v) (f := m_fw 1) (j := k + i - m_sz M v) (by omega)
      rw [m_wya, if_neg (by decide), hX.ep v hv, hX.e2, show f v + m_sz M v + (k + i - m_sz M v) = f v + k + i by omega] at h
      exact opn_cell ha hl (by omega) hX h
  · have hb := hb rfl
    rw [stp, if_neg (by decide)] at hb2 ⊢
    by_cases q : k ≤ i
    · exact Or.inl ⟨i - k, by omega, by congr 1; omega⟩
    · refine Or.inr ?_
      have h := wy_opn (X := X) (v := v) (f := m_fw (-1)) (j := k - 1 - i) (by omega)
      rw [m_wya, if_pos (by decide), hX.ep v hv, show (1 : Int32) = nI 1 from rfl, pk_sub (by omega), pk_sub (by omega), show f v - 1 - (k - 1 - i) = f v - k + i by omega] at h
      exact opn_cell ha hl (by omega) hX h
theorem off_move {M X : MS} {f : Nat → Nat} {v k : Nat} {sg : Int32} (hf : fit M f) (ha : m_ac M v ≤ 1) (hl : m_li M v < 6) (hv : v < m_n M) (hX : atf M X f) (hsg : sg = 1 ∨ sg = -1) (hk : k ≤ m_wy X v (m_fw sg)) (hb : sg = -1 → k ≤ f v) (hb2 : stp sg (f v) k + m_sz M v ≤ 6) (ho : offR M f) : offR M (updN f v (stp sg (f v) k)) := by
  intro u hu hz c hc
  by_cases q : u = v
  · subst q
    unfold occV at hc
    rw [updN_s] at hc
    rcases move_cells hf ha hl hu hX hsg hk hb hb2 hc with h | ⟨-, h⟩
    · exact ho u hu hz c h
    · rcases h with h | h
      · exact absurd h hz
      · exact h
  · unfold occV at hc
    rw [updN_n q] at hc
    exact ho u hu hz c hc
theorem noO_move {M X : MS} {f : Nat → Nat} {v k : Nat} {sg : Int32} (hf : fit M f) (ha : m_ac M v ≤ 1) (hl : m_li M v < 6) (hv : v < m_n M) (hX : atf M X f) (hsg : sg = 1 ∨ sg = -1) (hk : k ≤ m_wy X v (m_fw sg)) (hb : sg = -1 → k ≤ f v) (hb2 : stp sg (f v) k + m_sz M v ≤ 6) (hno : noO M f) : noO M (updN f v (stp sg (f v) k)) := by
  have key : ∀ w c, w < m_n M → ¬ w = v → occ (m_ac M v) (m_li M v) (stp sg (f v) k) (m_sz M v) c → occV M f w c → False := fun w c hw hne h1 h2 => by
    rcases move_cells hf ha hl hv hX hsg hk hb hb2 h1 with h | ⟨h, -⟩
    · exact hne (hno w v c hw hv h2 h)
    · exact h ⟨w, hw, h2⟩
  intro u w c hu hw h1 h2
  unfold occV at h1 h2
  by_cases q1 : u = v
  · by_cases q2 : w = v
    · rw [q1, q2]
    · subst q1
      rw [updN_s] at h1
      rw [updN_n q2] at h2
      exact (key w c hw q2 h1 h2).elim
  · rw [updN_n q1] at h1
    by_cases q2 : w = v
    · subst q2
      rw [updN_s] at h2
      exact (key u c hu q1 h2 h1).elim
    · rw [updN_n q2] at h2
      exact hno u w c hu hw h1 h2
/-- what a search leaves alone -/
def sfr (W V : MS) : Prop := m_n W = m_n V ∧ m_sz W = m_sz V ∧ m_ac W = m_ac V ∧ m_li W = m_li V ∧ m_rp W = m_rp V ∧ m_kp W = m_kp V ∧ m_mo W = m_mo V ∧ m_dr W = m_dr V ∧ m_pk W = m_pk V ∧ m_th W = m_th V
theorem sfr_rfl (W : MS) : sfr W W := ⟨rfl, rfl, rfl, rfl, rfl, rfl, rfl, rfl, rfl, rfl⟩
theorem sfr_tr {W V U : MS} (h1 : sfr W V) (h2 : sfr V U) : sfr W U := by
  obtain ⟨a1, a2, a3, a4, a5, a6, a7, a8, a9, a10⟩ := h1
  obtain ⟨c1, c2, c3, c4, c5, c6, c7, c8, c9, c10⟩ := h2
  exact ⟨a1.trans c1, a2.trans c2, a3.trans c3, a4.trans c4, a5.trans c5, a6.trans c6, a7.trans c7, a8.trans c8, a9.trans c9, a10.trans c10⟩
theorem sfr_takes (W : MS) (o : Int32) (x : Nat) : sfr (m_takes W o x) W := by
  unfold m_takes; split
  · exact sfr_rfl W
  · exact sfr_rfl W
theorem sfr_off {W V : MS} {f : Nat → Nat} (h : sfr W V) (ho : offR V f) : offR W f := by
  obtain ⟨a1, a2, a3, a4, a5, -⟩ := h
  intro v hv hz c hc
  unfold occV at hc
  rw [a1] at hv
  rw [a2] at hz
  rw [a2, a3, a4] at hc
  rw [a5]
  exact ho v hv hz c hc
theorem sfr_fit {W V : MS} {f : Nat → Nat} (h : sfr W V) (hf : fit V f) : fit W f := by
  obtain ⟨a1, a2, a3, a4, a5, -⟩ := h
  intro v hv
  rw [a1] at hv
  rw [a2]
  exact hf v hv
theorem sfr_yr {Y : YS} {W V : MS} (h : sfr W V) (hy : yr Y V) : yr Y W := by
  obtain ⟨a1, a2, a3, a4, a5, -⟩ := h
  unfold yr
  rw [a1, a2, a3, a4]
  exact hy
theorem sfr_rr {Y : YS} {W V : MS} (h : sfr W V) (hy : rr Y V) : rr Y W := by
  obtain ⟨a1, a2, a3, a4, a5, -⟩ := h
  unfold rr
  rw [a5]
  exact hy
/-- what was found stays found -/
def grow (W V : MS) : Prop := sfr W V ∧ m_yd W = m_yd V ∧ m_fm V ≤ m_fm W ∧ ∀ j, j < m_fm V → m_fo W j = m_fo V j
theorem grow_rfl (W : MS) : grow W W := ⟨sfr_rfl W, rfl, Nat.le_refl _, fun _ _ => rfl⟩
theorem grow_tr {W V U : MS} (h1 : grow W V) (h2 : grow V U) : grow W U :=
  ⟨sfr_tr h1.1 h2.1, h1.2.1.trans h2.2.1, Nat.le_trans h2.2.2.1 h1.2.2.1, fun j hj => (h1.2.2.2 j (by have := h2.2.2.1; omega)).trans (h2.2.2.2 j hj)⟩
theorem grow_takes (W : MS) (o : Int32) (x : Nat) : grow (m_takes W o x) W := by
  refine ⟨sfr_takes W o x, ?_⟩
  unfold m_takes; split
  · refine ⟨rfl, Nat.le_succ _, fun j hj => ?_⟩
    show updN (m_fo W) (m_fm W) (pnow W) j = m_fo W j
    exact updN_n (by omega)
  · exact ⟨rfl, Nat.le_refl _, fun _ _ => rfl⟩
theorem grow_pl (W : MS) (g : Nat → Nat) : grow (m_wPl W g) W := ⟨sfr_rfl W, rfl, Nat.le_refl _, fun _ _ => rfl⟩
theorem trL_grow {o v : Nat} {sg : Int32} {st most : Nat} : ∀ d k S, grow (trL o v sg st most d k S) S ∧ ∀ u, ¬ u = v → m_pl (trL o v sg st most d k S) u = m_pl S u
  | 0, _, S => ⟨grow_rfl S, fun _ _ => rfl⟩
  | d + 1, k, S => by
    rw [trL]
    by_cases h : k ≤ most
    · rw [if_pos h]
      obtain ⟨h1, h2⟩ := trL_grow (o := o) (v := v) (sg := sg) (st := st) (most := most) d (k + 1) (m_takes (m_wPl S (updN (m_pl S) v (stp sg st k))) (nI o) (cdN v sg k))
      refine ⟨grow_tr h1 (grow_tr (grow_takes _ _ _) (grow_pl S _)), fun u hu => ?_⟩
      rw [h2 u hu, m_takes_pl]
      exact updN_n hu
    · rw [if_neg h]; exact ⟨grow_rfl S, fun _ _ => rfl⟩
