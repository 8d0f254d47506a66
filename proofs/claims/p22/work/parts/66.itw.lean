/-! PURE: inTheWay -/
def sb (w : Int32) (c : Nat) : Bool := w.toBitVec.getLsbD c
theorem sb_c : ∀ k, k < 32 → ((nI k &&& 31).toBitVec.smod 32).toNat = k := by decide +kernel
theorem sb_1 : ∀ c, c < 32 → sb 1 c = decide (c = 0) := by decide +kernel
theorem sb_bit : ∀ y, y < 32 → ∀ c, c < 32 → sb (1 <<< (nI y &&& 31)) c = decide (c = y) := by decide +kernel
theorem sb_0 (c : Nat) : sb 0 c = false := by simp [sb]
theorem sb_or (x y : Int32) (c : Nat) : sb (x ||| y) c = (sb x c || sb y c) := by unfold sb; rw [Int32.toBitVec_or, BitVec.getLsbD_or]
theorem sb_and (x y : Int32) (c : Nat) : sb (x &&& y) c = (sb x c && sb y c) := by unfold sb; rw [Int32.toBitVec_and, BitVec.getLsbD_and]
theorem sb_ext0 {w : Int32} (h : ∀ c, c < 32 → sb w c = false) : w = 0 :=
  Int32.toBitVec_inj.mp (BitVec.eq_of_getLsbD_eq (fun i hi => by
    rw [show w.toBitVec.getLsbD i = sb w i from rfl, h i hi]; simp))
theorem sb_shr (w : Int32) {n : Nat} (hn : n < 32) : sb (w >>> (nI n &&& 31)) 0 = sb w n := by
  unfold sb
  rw [Int32.toBitVec_shiftRight]
  show (w.toBitVec.sshiftRight ((nI n &&& 31).toBitVec.smod 32).toNat).getLsbD 0 = _
  rw [sb_c n hn, BitVec.getLsbD_sshiftRight]
  simp [hn]
theorem sb_low {w : Int32} : w &&& 1 = 0 ↔ sb w 0 = false := by
  constructor
  · intro h
    have h2 := sb_and w 1 0
    rw [h, sb_0, sb_1 0 (by decide), decide_eq_true rfl, Bool.and_true] at h2
    exact h2.symm
  · intro h
    refine sb_ext0 (fun c hc => ?_)
    rw [sb_and, sb_1 c hc]
    by_cases q : c = 0
    · subst q; rw [h, Bool.false_and]
    · rw [decide_eq_false q, Bool.and_false]
theorem sb_new {sn : Int32} {y : Nat} (hy : y < 32) : (sn >>> (nI y &&& 31)) &&& 1 = 0 ↔ sb sn y = false := by
  rw [sb_low, sb_shr sn hy]
/-- how many below k have P -/
def cB (P : Nat → Bool) : Nat → Nat
  | 0 => 0
  | k + 1 => cB P k + (if P k = true then 1 else 0)
theorem cB_ext {P Q : Nat → Bool} : ∀ k, (∀ i, i < k → P i = Q i) → cB P k = cB Q k
  | 0, _ => rfl
  | k + 1, h => by rw [cB, cB, cB_ext k (fun i hi => h i (by omega)), h k (by omega)]
theorem cB_le (P : Nat → Bool) : ∀ k, cB P k ≤ k
  | 0 => Nat.le_refl _
  | k + 1 => by
    have := cB_le P k
    rw [cB]; split <;> omega
theorem cB_add {P Q : Nat → Bool} {v : Nat} (hp : P v = false) (hq : Q v = true) : ∀ k, v < k → (∀ i, i < k → i ≠ v → Q i = P i) → cB Q k = cB P k + 1
  | 0, h, _ => absurd h (Nat.not_lt_zero _)
  | k + 1, h, hh => by
    rw [cB, cB]
    by_cases q : v = k
    · subst q
      rw [cB_ext (P := Q) (Q := P) v (fun i hi => hh i (by omega) (by omega)), hp, hq, if_pos rfl, if_neg (by decide)]
    · rw [cB_add hp hq k (by omega) (fun i hi hv => hh i (by omega) hv), hh k (by omega) (fun z => q z.symm)]
      omega
/-- who stands on a cell of the laid yard -/
theorem yd_who {M : MS} {c : Nat} (hno : noO M (m_pl M)) (hc : c < 36) : (m_yd (m_lay M) c = 0 ∧ ∀ u, u < m_n M → ¬ occV M (m_pl M) u c) ∨ ∃ u, u < m_n M ∧ m_yd (m_lay M) c = u + 1 ∧ occV M (m_pl M) u c := by
  by_cases h : ∃ u, u < m_n M ∧ occV M (m_pl M) u c
  · obtain ⟨u, hu, q⟩ := h
    exact Or.inr ⟨u, hu, ly_v_at q (fun w hw hw2 hcw => by have := hno u w c hu hw2 q hcw; omega) (m_n M) hu (Nat.le_refl _), q⟩
  · exact Or.inl ⟨(lay_0 M hc).mpr h, fun u hu q => h ⟨u, hu, q⟩⟩
theorem itw_step {X : MS} {d c y : Nat} {sn n : Int32} (hy : m_yd X (12 + c) = y) : itw X (d + 1) c sn n = itw X d (c + 1) (sn ||| (1 <<< (nI y &&& 31))) (n + if 0 < y ∧ (sn >>> (nI y &&& 31)) &&& 1 = 0 then 1 else 0) := by
  subst hy; rfl
theorem itw_loop {M : MS} {c0 : Nat} (h9 : m_n M ≤ 9) (hno : noO M (m_pl M)) : ∀ d c sn n, c + d = 6 → c0 ≤ c → n = nI (cB (fun v => sb sn (v + 1)) (m_n M)) → (∀ v, v < m_n M → (sb sn (v + 1) = true ↔ ∃ e, c0 ≤ e ∧ e < c ∧ occV M (m_pl M) v (12 + e))) →
    ∃ P : Nat → Bool, itw (m_lay M) d c sn n = nI (cB P (m_n M)) ∧ ∀ v, v < m_n M → (P v = true ↔ ∃ e, c0 ≤ e ∧ e < 6 ∧ occV M (m_pl M) v (12 + e))
  | 0, c, sn, n, hd, h0, hn, hv => ⟨fun v => sb sn (v + 1), hn, fun v hvn => by rw [hv v hvn, show c = 6 by omega]⟩
  | d + 1, c, sn, n, hd, h0, hn, hv => by
    rcases yd_who (c := 12 + c) hno (by omega) with ⟨hy, hnone⟩ | ⟨u, hu, hy, hocc⟩
    · rw [itw_step hy]
      have hs : ∀ v, v < m_n M → sb (sn ||| (1 <<< (nI 0 &&& 31))) (v + 1) = sb sn (v + 1) := fun v hv9 => by
        rw [sb_or, sb_bit 0 (by decide) (v + 1) (by omega), decide_eq_false (by omega), Bool.or_false]
      refine itw_loop h9 hno d (c + 1) _ _ (by omega) (by omega) ?_ (fun v hv9 => ?_)
      · rw [if_neg (fun z => by have := z.1; omega), Int32.add_zero, hn, cB_ext (m_n M) (fun i hi => (hs i hi).symm)]
      · rw [hs v hv9, hv v hv9]
        constructor
        · rintro ⟨e, a1, a2, a3⟩; exact ⟨e, a1, by omega, a3⟩
        · rintro ⟨e, a1, a2, a3⟩
          rcases (show e < c ∨ e = c by omega) with q | q
          · exact ⟨e, a1, q, a3⟩
          · subst q; exact absurd a3 (hnone v hv9)
    · rw [itw_step hy]
      have hs : ∀ v, v < m_n M → sb (sn ||| (1 <<< (nI (u + 1) &&& 31))) (v + 1) = (sb sn (v + 1) || decide (v = u)) := fun v hv9 => by
        rw [sb_or, sb_bit (u + 1) (by omega) (v + 1) (by omega)]
        congr 1
        by_cases q : v = u
        · subst q; rw [decide_eq_true rfl, decide_eq_true rfl]
        · rw [decide_eq_false q, decide_eq_false (by omega)]
      have hnew : (0 < u + 1 ∧ (sn >>> (nI (u + 1) &&& 31)) &&& 1 = 0) ↔ sb sn (u + 1) = false := by
        rw [sb_new (by omega)]
        exact ⟨fun z => z.2, fun z => ⟨by omega, z⟩⟩
      refine itw_loop h9 hno d (c + 1) _ _ (by omega) (by omega) ?_ (fun v hv9 => ?_)
      · by_cases q : sb sn (u + 1) = false
        · rw [if_pos (hnew.mpr q), hn, nI_1]
          congr 1
          refine (cB_add (v := u) q (by rw [hs u hu, decide_eq_true rfl, Bool.or_true]) (m_n M) hu (fun i hi hne => ?_)).symm
          rw [hs i hi, decide_eq_false hne, Bool.or_false]
        · rw [if_neg (fun z => q (hnew.mp z)), Int32.add_zero, hn]
          congr 1
          refine cB_ext (m_n M) (fun i hi => ?_)
          rw [hs i hi]
          by_cases w : i = u
          · subst w
            rw [Bool.not_eq_false] at q
            rw [q, Bool.true_or]
          · rw [decide_eq_false w, Bool.or_false]
      · rw [hs v hv9, Bool.or_eq_true, hv v hv9, decide_eq_true_iff]
        constructor
        · rintro (⟨e, a1, a2, a3⟩ | q)
          · exact ⟨e, a1, by omega, a3⟩
          · subst q; exact ⟨c, h0, by omega, hocc⟩
        · rintro ⟨e, a1, a2, a3⟩
          rcases (show e < c ∨ e = c by omega) with q | q
          · exact Or.inl ⟨e, a1, q, a3⟩
          · subst q; exact Or.inr (hno v u _ hv9 hu a3 hocc)
theorem gb_wo {c0 c : Nat} (hc : c < 64) : ∀ k, c0 + k ≤ 6 → (gb (j_wo c0 k) c = true ↔ ∃ i, i < k ∧ c = 12 + (c0 + i))
  | 0, _ => by
    rw [show j_wo c0 0 = 0 from rfl, gb_0]
    constructor
    · intro h; exact absurd h (by decide)
    · rintro ⟨i, hi, -⟩; omega
  | k + 1, hk => by
    rw [show j_wo c0 (k + 1) = j_wo c0 k ||| co 2 (nI (c0 + k)) from rfl, gb_or, Bool.or_eq_true, gb_wo hc k (by omega), show co 2 (nI (c0 + k)) = co (nI 2) (nI (c0 + k)) from rfl, gb_co (by decide) (by omega) hc]
    constructor
    · rintro (⟨i, hi, q⟩ | q)
      · exact ⟨i, by omega, q⟩
      · exact ⟨k, by omega, by omega⟩
    · rintro ⟨i, hi, q⟩
      rcases (show i < k ∨ i = k by omega) with w | w
      · exact Or.inl ⟨i, w, q⟩
      · subst w; exact Or.inr (by omega)
theorem j_cnt_cB (Y : YS) (x : Int32) (wo : Int64) : ∀ k, j_cnt Y x wo k = nI (cB (fun v => decide (¬ y_cel Y x (nI v) &&& wo = 0)) k)
  | 0 => rfl
  | k + 1 => by
    rw [j_cnt, cB, j_cnt_cB Y x wo k]
    by_cases q : y_cel Y x (nI k) &&& wo = 0
    · rw [if_pos q, if_neg (by rw [decide_eq_true_iff]; exact not_not_intro q)]; rfl
    · rw [if_neg q, if_pos (decide_eq_true q), nI_1]
theorem rel_itw {k : Nat} {X : XS} {M : MS} (h : rel k X M) : itw (m_lay (m_wTh M 0)) (6 - itw_c0 (m_lay (m_wTh M 0))) (itw_c0 (m_lay (m_wTh M 0))) 0 0 = j_itw X := by
  obtain ⟨h1, h2, h3, h4, h5, h6, h7, h8, h9, h10, -⟩ := h
  have hn9 := h1.1
  rcases Nat.eq_zero_or_pos (m_n M) with q | q
  · have e1 : itw_c0 (m_lay (m_wTh M 0)) = 6 := by rw [itw_c0, if_pos (show m_n (m_lay (m_wTh M 0)) = 0 from q)]
    have e2 : j_itw X = 0 := by rw [j_itw, h3.1, q]; rfl
    rw [e1, e2]; rfl
  · obtain ⟨b1_, b2_, b3_, b4_, b5_, b6_⟩ := h1.2.1 0 q
    have e1 : itw_c0 (m_lay (m_wTh M 0)) = m_pl M 0 + 2 := by rw [itw_c0, if_neg (show ¬ m_n (m_lay (m_wTh M 0)) = 0 from fun z => by have z : m_n M = 0 := z; omega)]; rfl
    have e2 : pl_nat (j_po (x_J X)) 0 = m_pl M 0 := by
      rw [pl_nat, h5, show (0 : Int32) = nI 0 from rfl, pl_p8 h1.1 (fitm8 h1 (pl_fit h1)) q, nI_clamp (by omega)]
    have h0 : noO (m_wTh M 0) (m_pl (m_wTh M 0)) := h10
    obtain ⟨P, hP1, hP2⟩ := itw_loop (M := m_wTh M 0) (c0 := m_pl M 0 + 2) hn9 h0 (6 - (m_pl M 0 + 2)) (m_pl M 0 + 2) 0 0 (by omega) (Nat.le_refl _)
      (by
        rw [cB_ext (P := fun v => sb 0 (v + 1)) (Q := fun _ => false) _ (fun i _ => sb_0 _)]
        have : ∀ k, cB (fun _ => false) k = 0 := fun k => by
          induction k with
          | zero => rfl
          | succ k ih => rw [cB, ih, if_neg (by decide)]
        rw [this]; rfl)
      (fun v hv => by
        rw [sb_0]
        constructor
        · intro z; exact absurd z (by decide)
        · rintro ⟨e, a1, a2, -⟩; omega)
    rw [e1, hP1, j_itw, e2, j_cnt_cB, h3.1]
    congr 1
    refine cB_ext (m_n M) (fun v hv => ?_)
    have hw : (P v = true) ↔ ¬ y_cel (x_Y X) (j_po (x_J X)) (nI v) &&& j_wo (m_pl M 0 + 2) (6 - (m_pl M 0 + 2)) = 0 := by
      rw [hP2 v hv, gb_disj, h5]
      constructor
      · rintro ⟨e, a1, a2, a3⟩ z
        refine z (12 + e) (by omega) ((gb_cel h3 (pl_fit h1) hv (by omega)).mpr a3) ((gb_wo (by omega) _ (by omega)).mpr ⟨e - (m_pl M 0 + 2), by omega, by omega⟩)
      · intro z
        refine Classical.byContradiction (fun hne => z (fun c hc a1 a2 => ?_))
        obtain ⟨i, hi, rfl⟩ := (gb_wo hc _ (by omega)).mp a2
        exact hne ⟨m_pl M 0 + 2 + i, by omega, by omega, (gb_cel h3 (pl_fit h1) hv hc).mp a1⟩
    by_cases z : P v = true
    · rw [z, decide_eq_true (hw.mp z)]
    · rw [decide_eq_false (fun y => z (hw.mpr y))]
      exact Bool.eq_false_iff.mpr z
