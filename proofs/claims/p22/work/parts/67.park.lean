/-! PURE: park -/
theorem p8_snoc : ∀ (n : Nat) {f : Nat → Nat}, p8 (n + 1) f = p8 n f + f n * 8 ^ n
  | 0, f => by rw [p8, p8, p8]; simp
  | n + 1, f => by
    rw [p8, p8_snoc n (f := fun i => f (i + 1)), show p8 (n + 1) f = f 0 + 8 * p8 n (fun i => f (i + 1)) from rfl]
    rw [Nat.pow_succ, ← Nat.mul_assoc]
    omega
theorem mv_new {n g : Nat} {f : Nat → Nat} (hn : n < 9) : mv (nI (p8 n f)) (nI n) (nI g) = nI (p8 (n + 1) (updN f n g)) := by
  unfold mv
  rw [p8_pw n hn, pk_mul, nI_add, p8_snoc, updN_s, p8_ext n (f := updN f n g) (g := f) (fun i hi => updN_n (by omega))]
section ParkPure
variable {M : MS} {cn a l g : Nat} {f : Nat → Nat}
theorem occ_old {u c : Nat} (hu : u < m_n M) : occV (m_wPk M cn a l g) (updN f (m_n M) g) u c ↔ occV M f u c := by
  have hne : u ≠ m_n M := by omega
  show occ (updN (m_ac M) (m_n M) a u) (updN (m_li M) (m_n M) l u) (updN f (m_n M) g u) (updN (m_sz M) (m_n M) cn u) c ↔ _
  rw [updN_n hne, updN_n hne, updN_n hne, updN_n hne]
theorem occ_new {c : Nat} : occV (m_wPk M cn a l g) (updN f (m_n M) g) (m_n M) c ↔ occ a l g cn c := by
  show occ (updN (m_ac M) (m_n M) a (m_n M)) (updN (m_li M) (m_n M) l (m_n M)) (updN f (m_n M) g (m_n M)) (updN (m_sz M) (m_n M) cn (m_n M)) c ↔ _
  rw [updN_s, updN_s, updN_s, updN_s]
theorem noO_park (h : noO M f) (hc : ∀ u, u < m_n M → ∀ c, occ a l g cn c → ¬ occV M f u c) : noO (m_wPk M cn a l g) (updN f (m_n M) g) := by
  intro u w c hu hw h1 h2
  have hu : u < m_n M + 1 := hu
  have hw : w < m_n M + 1 := hw
  rcases (show u < m_n M ∨ u = m_n M by omega) with q | q
  · rcases (show w < m_n M ∨ w = m_n M by omega) with z | z
    · exact h u w c q z ((occ_old q).mp h1) ((occ_old z).mp h2)
    · subst z; exact absurd ((occ_old q).mp h1) (hc u q c (occ_new.mp h2))
  · rcases (show w < m_n M ∨ w = m_n M by omega) with z | z
    · subst q; exact absurd ((occ_old z).mp h2) (hc w z c (occ_new.mp h1))
    · omega
theorem offR_park (h : offR M f) (hr : ¬ cn = 2 → ∀ c, occ a l g cn c → ¬ nI c = m_rp M) : offR (m_wPk M cn a l g) (updN f (m_n M) g) := by
  intro u hu hz c hc
  have hu : u < m_n M + 1 := hu
  have hz : ¬ updN (m_sz M) (m_n M) cn u = 2 := hz
  show ¬ nI c = m_rp M
  rcases (show u < m_n M ∨ u = m_n M by omega) with q | q
  · rw [updN_n (show u ≠ m_n M by omega)] at hz
    exact h u q hz c ((occ_old q).mp hc)
  · subst q
    rw [updN_s] at hz
    exact hr hz c (occ_new.mp hc)
end ParkPure
theorem nar_z {a : Int32} (h : a = 0 ∨ a = 1) : vp_nar .boolean a = a ∧ a = nI (p_ax a) := by
  rcases h with rfl | rfl
  · exact ⟨rfl, rfl⟩
  · exact ⟨rfl, rfl⟩
theorem yr_park {Y : YS} {M : MS} {cn l g : Nat} {a : Int32} (h : yr Y M) (ha : a = 0 ∨ a = 1) (h9 : m_n M < 9) (hc : 2 ≤ cn ∧ cn ≤ 4) (hl : l < 6) : yr (y_add Y (nI cn) a (nI l)) (m_wPk M cn (p_ax a) l g) := by
  have hn : y_n Y < 9 := by rw [h.1]; exact h9
  unfold y_add
  rw [if_pos hn]
  refine ⟨?_, ?_, ?_⟩
  · show y_n Y + 1 = m_n M + 1
    rw [h.1]
  · show m_n M + 1 ≤ 9
    omega
  · intro v hv
    have hv : v < m_n M + 1 := hv
    show (2 ≤ updN (m_sz M) (m_n M) cn v ∧ updN (m_sz M) (m_n M) cn v ≤ 4 ∧ updN (m_ac M) (m_n M) (p_ax a) v ≤ 1 ∧ updN (m_li M) (m_n M) l v < 6) ∧ upd (y_sz Y) (y_n Y) (nI cn) v = nI (updN (m_sz M) (m_n M) cn v) ∧ upd (y_ac Y) (y_n Y) (vp_nar .boolean a) v = nI (updN (m_ac M) (m_n M) (p_ax a) v) ∧ upd (y_li Y) (y_n Y) (nI l) v = nI (updN (m_li M) (m_n M) l v) ∧ ∀ c, c < 64 → (gb (vp_updL (y_sh Y) (y_n Y) (y_csh (nI cn) a (nI l)) v) c = true ↔ occ (updN (m_ac M) (m_n M) (p_ax a) v) (updN (m_li M) (m_n M) l v) 0 (updN (m_sz M) (m_n M) cn v) c)
    rw [h.1]
    rcases (show v < m_n M ∨ v = m_n M by omega) with q | q
    · have hne : v ≠ m_n M := by omega
      rw [updN_n hne, updN_n hne, updN_n hne, pk_un hne, pk_un hne, pk_un hne, pk_uLn hne]
      exact h.2.2 v q
    · subst q
      rw [updN_s, updN_s, updN_s, pk_us, pk_us, pk_us, pk_uLs, (nar_z ha).1]
      exact ⟨⟨hc.1, hc.2, p_ax_le a, hl⟩, rfl, (nar_z ha).2, rfl, fun c h64 => gb_csh hl hc.2 h64⟩
theorem rel_parked {k : Nat} {X : XS} {M : MS} {cn rn qn : Nat} {a : Int32} (h : rel k X M) (ha : a = 0 ∨ a = 1) (h9 : m_n M < 9) (hmo : m_mo M = 0) (hc : 2 ≤ cn ∧ cn ≤ 4) (hr : rn < 6) (hq : qn < 6) (hp : p_plcN a rn qn + cn ≤ 6)
    (hcell : ∀ u, u < m_n M → ∀ c, occ (p_ax a) (p_linN a rn qn) (p_plcN a rn qn) cn c → ¬ occV M (m_pl M) u c) (hramp : ¬ cn = 2 → ∀ c, occ (p_ax a) (p_linN a rn qn) (p_plcN a rn qn) cn c → ¬ nI c = m_rp M) :
    rel k (x_park X (nI cn) a (nI rn) (nI qn)) (m_wPk M cn (p_ax a) (p_linN a rn qn) (p_plcN a rn qn)) := by
  obtain ⟨h1, h2, h3, h4, h5, h6, h7, h8, hh9, h10, h11, h12, h13, h14, h15⟩ := h
  have hl := p_linN_lt (a := a) hr hq
  have hpk := h14 hmo
  have hy : y_n (x_Y X) < 9 := by rw [h3.1]; exact h9
  have epo : mv (j_pp (x_J X)) (y_num (x_Y X)) (p_plc a (nI rn) (nI qn)) = nI (p8 (m_n M + 1) (updN (m_pk M) (m_n M) (p_plcN a rn qn))) := by
    rw [y_num, if_pos hy, h3.1, h6, p_plc_nI, mv_new h9]
  refine ⟨⟨?_, fun v hv => ?_, h1.2.2⟩, h2, ?_, ?_, ?_, ?_, h7, h8, hh9, ?_, ?_, ?_, ?_, fun _ u hu => ?_, Or.inl rfl⟩
  · show m_n M + 1 ≤ 9
    omega
  · have hv : v < m_n M + 1 := hv
    show 2 ≤ updN (m_sz M) (m_n M) cn v ∧ updN (m_sz M) (m_n M) cn v ≤ 4 ∧ updN (m_ac M) (m_n M) (p_ax a) v ≤ 1 ∧ updN (m_li M) (m_n M) (p_linN a rn qn) v < 6 ∧ updN (m_pl M) (m_n M) (p_plcN a rn qn) v + updN (m_sz M) (m_n M) cn v ≤ 6 ∧ updN (m_pk M) (m_n M) (p_plcN a rn qn) v + updN (m_sz M) (m_n M) cn v ≤ 6
    rcases (show v < m_n M ∨ v = m_n M by omega) with q | q
    · have hne : v ≠ m_n M := by omega
      rw [updN_n hne, updN_n hne, updN_n hne, updN_n hne, updN_n hne]
      exact h1.2.1 v q
    · subst q
      rw [updN_s, updN_s, updN_s, updN_s, updN_s]
      exact ⟨hc.1, hc.2, p_ax_le a, hl, hp, hp⟩
  · show yr (y_add (x_Y X) (nI cn) a (p_line a (nI rn) (nI qn))) _
    rw [p_lin_nI]
    exact yr_park h3 ha h9 hc hl
  · show rr (y_add (x_Y X) (nI cn) a (p_line a (nI rn) (nI qn))) _
    unfold y_add
    rw [if_pos hy]
    exact h4
  · show mv (j_pp (x_J X)) (y_num (x_Y X)) (p_plc a (nI rn) (nI qn)) = nI (p8 (m_n M + 1) (updN (m_pl M) (m_n M) (p_plcN a rn qn)))
    rw [epo]
    congr 1
    refine p8_ext _ (fun i hi => ?_)
    rcases (show i < m_n M ∨ i = m_n M by omega) with q | q
    · have hne : i ≠ m_n M := by omega
      rw [updN_n hne, updN_n hne, hpk i q]
    · subst q; rw [updN_s, updN_s]
  · show mv (j_pp (x_J X)) (y_num (x_Y X)) (p_plc a (nI rn) (nI qn)) = nI (p8 (m_n M + 1) (updN (m_pk M) (m_n M) (p_plcN a rn qn)))
    exact epo
  · exact noO_park (f := m_pl M) h10 hcell
  · refine noO_park (f := m_pk M) h11 (fun u hu c ho hx => hcell u hu c ho ?_)
    unfold occV at hx ⊢
    rw [hpk u hu]; exact hx
  · exact offR_park (f := m_pl M) h12 hramp
  · exact offR_park (f := m_pk M) h13 hramp
  · have hu : u < m_n M + 1 := hu
    show updN (m_pl M) (m_n M) (p_plcN a rn qn) u = updN (m_pk M) (m_n M) (p_plcN a rn qn) u
    rcases (show u < m_n M ∨ u = m_n M by omega) with q | q
    · have hne : u ≠ m_n M := by omega
      rw [updN_n hne, updN_n hne, hpk u q]
    · subst q; rw [updN_s, updN_s]
theorem pk_can_iff {X : MS} {a : Int32} {cn rn qn : Nat} : ∀ k, (pk_can X a cn rn qn k = true ↔ (m_n X < 9 ∧ m_mo X = 0) ∧ ∀ i, i < k → m_yd X (pk_cell a rn qn i) = 0 ∧ (cn = 2 ∨ ¬ nI (pk_cell a rn qn i) = m_rp X))
  | 0 => by
    rw [pk_can, decide_eq_true_iff]
    exact ⟨fun h => ⟨h, fun i hi => absurd hi (Nat.not_lt_zero _)⟩, fun h => h.1⟩
  | k + 1 => by
    rw [pk_can, Bool.and_eq_true, decide_eq_true_iff, pk_can_iff k]
    constructor
    · rintro ⟨⟨h1, h2⟩, h3⟩
      refine ⟨h1, fun i hi => ?_⟩
      rcases (show i < k ∨ i = k by omega) with q | q
      · exact h2 i q
      · subst q; exact h3
    · rintro ⟨h1, h2⟩
      exact ⟨⟨h1, fun i hi => h2 i (by omega)⟩, h2 k (by omega)⟩
theorem park_is {X : XS} {M : MS} {c a r q : Int32} (hn : y_n (x_Y X) = m_n M) (h9 : m_n M ≤ 9) : pk_is M c a r q ↔ ¬ (c < 2 ∨ 4 < c ∨ ¬ inY r q) ∧ p_plc a r q + c ≤ 6 ∧ ¬ (nI (y_n (x_Y X)) = 0 ∧ (¬ c = 2 ∨ a = 0 ∨ ¬ r = 2)) := by
  have h0 : nI (y_n (x_Y X)) = 0 ↔ ¬ 0 < m_n M := by
    rw [hn, show (0 : Int32) = nI 0 from rfl, nI_eq (by omega) (by omega)]
    omega
  unfold pk_is
  rw [h0, inY_iff]
  constructor
  · rintro ⟨a1, a2, a3, a4, a5, a6⟩
    refine ⟨fun z => ?_, Int32.not_lt.mp a5, fun z => ?_⟩
    · rcases z with z | z | z
      · exact a1 z
      · exact a2 z
      · exact z ⟨a3, a4⟩
    · rcases a6 with w | ⟨w1, w2, w3⟩
      · exact z.1 w
      · rcases z.2 with y | y | y
        · exact y w1
        · exact w2 y
        · exact y w3
  · rintro ⟨b1_, b2_, b3_⟩
    have hin : inL r ∧ inL q := Classical.byContradiction (fun z => b1_ (Or.inr (Or.inr z)))
    refine ⟨fun z => b1_ (Or.inl z), fun z => b1_ (Or.inr (Or.inl z)), hin.1, hin.2, Int32.not_lt.mpr b2_, ?_⟩
    by_cases w : 0 < m_n M
    · exact Or.inl w
    · refine Or.inr ⟨Classical.byContradiction (fun z => b3_ ⟨w, Or.inl z⟩), fun z => b3_ ⟨w, Or.inr (Or.inl z)⟩, Classical.byContradiction (fun z => b3_ ⟨w, Or.inr (Or.inr z)⟩)⟩
/-- the class's test of the cells is the reference's -/
theorem park_free {X : XS} {M : MS} {a : Int32} {cn rn qn : Nat} {k : Nat} (h : rel k X M) (hc : 2 ≤ cn ∧ cn ≤ 4) (hr : rn < 6) (hq : qn < 6) (hp : p_plcN a rn qn + cn ≤ 6) :
    cso a (nI rn) (nI qn) cn &&& (y_fil (x_Y X) (j_po (x_J X)) (y_n (x_Y X)) ||| y_bar (x_Y X) (nI cn)) = 0 ↔ ∀ i, i < cn → (¬ ∃ u, u < m_n M ∧ occV M (m_pl M) u (pk_cell a rn qn i)) ∧ (cn = 2 ∨ ¬ nI (pk_cell a rn qn i) = m_rp M) := by
  obtain ⟨h1, h2, h3, h4, h5, -⟩ := h
  have hl := p_linN_lt (a := a) hr hq
  have hb : ∀ c, c < 64 → (gb (y_bar (x_Y X) (nI cn)) c = true ↔ ¬ cn = 2 ∧ nI c = m_rp M) := fun c hc64 => by
    unfold y_bar
    by_cases q : cn = 2
    · rw [q, if_pos (by decide), gb_0]
      exact ⟨fun z => absurd z (by decide), fun z => absurd rfl z.1⟩
    · rw [if_neg (fun z => q (by have := (nI_leI (a := cn) (b := 2) (by omega) (by omega)).mp z; omega)), h4 c hc64]
      exact ⟨fun z => ⟨q, z⟩, fun z => z.2⟩
  rw [gb_disj]
  constructor
  · intro hd i hi
    have h36 : pk_cell a rn qn i < 36 := m_cl_lt hl (by omega)
    have h1' := (gb_park hr hq hp (show pk_cell a rn qn i < 64 by omega)).mpr ⟨i, hi, rfl⟩
    have hn := hd _ (by omega) h1'
    rw [gb_or, Bool.or_eq_true, h5, h3.1, gb_fil h3 (pl_fit h1) (by omega) _ (Nat.le_refl _), hb _ (by omega)] at hn
    refine ⟨fun z => hn (Or.inl z), ?_⟩
    by_cases w : cn = 2
    · exact Or.inl w
    · exact Or.inr (fun z => hn (Or.inr ⟨w, z⟩))
  · intro hall c hc64 g1 g2
    obtain ⟨i, hi, rfl⟩ := (gb_park hr hq hp hc64).mp g1
    obtain ⟨a1, a2⟩ := hall i hi
    rw [gb_or, Bool.or_eq_true, h5, h3.1, gb_fil h3 (pl_fit h1) hc64 _ (Nat.le_refl _), hb _ hc64] at g2
    rcases g2 with z | ⟨z1, z2⟩
    · exact a1 z
    · rcases a2 with w | w
      · exact z1 w
      · exact w z2
theorem rel_park {k : Nat} {X : XS} {M : MS} (hk : k ≤ 1000000) (h : rel k X M) (c a r q : Int32) (ha : a = 0 ∨ a = 1) : m_th (m_park M c a r q) = nI (park_th X c a r q) ∧ rel k (if park_th X c a r q = 0 then x_park X c a r q else X) (m_park M c a r q) ∧
    m_parkr M c a r q = (if park_th X c a r q = 0 then y_num (x_Y X) else 0) := by
  have hn := h.2.2.1.1
  have h9 := h.1.1
  have his := park_is (X := X) (M := M) (c := c) (a := a) (r := r) (q := q) hn h9
  have hmc := mc_pos hk h
  unfold m_park m_parkr
  by_cases hp : pk_is M c a r q
  · rw [if_pos hp, if_pos hp]
    obtain ⟨e1, e2, e3⟩ := his.mp hp
    obtain ⟨cn, rn, qn, c1, c2, hr, hq, hpl, rfl, rfl, rfl⟩ := pk_is_ex hp
    have hM0 : rel k X (m_wTh (m_lay (m_wTh M 0)) 0) := rel_th 0 (rel_lay (rel_th 0 h))
    have hM2 : rel k X (m_wTh (m_lay (m_wTh M 0)) 2) := rel_th 2 (rel_lay (rel_th 0 h))
    have hfree := park_free (a := a) h ⟨c1, c2⟩ hr hq hpl
    have hl := p_linN_lt (a := a) hr hq
    rw [nI_clamp (by omega), nI_clamp (by omega), nI_clamp (by omega)]
    have hcan : pk_can (m_lay (m_wTh M 0)) a cn rn qn cn = true ↔ (m_n M < 9 ∧ m_mo M = 0) ∧ cso a (nI rn) (nI qn) cn &&& (y_fil (x_Y X) (j_po (x_J X)) (y_n (x_Y X)) ||| y_bar (x_Y X) (nI cn)) = 0 := by
      rw [pk_can_iff, hfree]
      refine and_congr_right (fun _ => forall_congr' (fun i => imp_congr_right (fun hi => ?_)))
      have h36 : pk_cell a rn qn i < 36 := m_cl_lt hl (by omega)
      rw [lay_0 (m_wTh M 0) h36]
      exact Iff.rfl
    have hmin : min (nI cn).toNatClampNeg 4 = cn := by rw [nI_clamp (by omega)]; omega
    unfold park_th
    rw [if_neg e1, if_neg (not_not_intro e2), if_neg e3, hmin]
    have hl9 : nI (y_n (x_Y X)) < 9 ↔ m_n M < 9 := by rw [hn]; exact nI_ltI (a := m_n M) (b := 9) (by omega) (by omega)
    by_cases g : m_n M < 9 ∧ m_mo M = 0
    · rw [if_neg (show ¬ (0 < j_mc (x_J X) ∨ ¬ nI (y_n (x_Y X)) < 9) from fun z => by
        rcases z with z | z
        · exact (hmc.2.1.mp z) g.2
        · exact z (hl9.mpr g.1))]
      by_cases w : cso a (nI rn) (nI qn) cn &&& (y_fil (x_Y X) (j_po (x_J X)) (y_n (x_Y X)) ||| y_bar (x_Y X) (nI cn)) = 0
      · rw [if_pos (hcan.mpr ⟨g, w⟩), if_pos (hcan.mpr ⟨g, w⟩), if_neg (not_not_intro w), if_pos rfl, if_pos rfl]
        have hall := hfree.mp w
        refine ⟨rfl, rel_parked hM0 ha g.1 g.2 ⟨c1, c2⟩ hr hq hpl ?_ ?_, ?_⟩
        · rintro u hu c ⟨i, hi, rfl⟩ ho
          exact (hall i hi).1 ⟨u, hu, ho⟩
        · rintro h2 c ⟨i, hi, rfl⟩ ho
          rcases (hall i hi).2 with z | z
          · exact h2 z
          · exact z ho
        · rw [y_num, if_pos (show y_n (x_Y X) < 9 by rw [hn]; exact g.1), hn]
      · rw [if_neg (fun z => w (hcan.mp z).2), if_neg (fun z => w (hcan.mp z).2), if_pos w, if_neg (by decide), if_neg (by decide)]
        exact ⟨rfl, hM2, rfl⟩
    · rw [if_neg (fun z => g (hcan.mp z).1), if_neg (fun z => g (hcan.mp z).1), if_pos (show (0 < j_mc (x_J X) ∨ ¬ nI (y_n (x_Y X)) < 9) from by
        by_cases z : m_n M < 9
        · exact Or.inl (hmc.2.1.mpr (fun y => g ⟨z, y⟩))
        · exact Or.inr (fun y => z (hl9.mp y))), if_neg (by decide), if_neg (by decide)]
      exact ⟨rfl, hM2, rfl⟩
  · rw [if_neg hp, if_neg hp]
    have e : park_th X c a r q = 1 := by
      unfold park_th
      by_cases d1 : c < 2 ∨ 4 < c ∨ ¬ inY r q
      · rw [if_pos d1]
      · rw [if_neg d1]
        by_cases d2 : p_plc a r q + c ≤ 6
        · rw [if_neg (not_not_intro d2)]
          by_cases d3 : nI (y_n (x_Y X)) = 0 ∧ (¬ c = 2 ∨ a = 0 ∨ ¬ r = 2)
          · rw [if_pos d3]
          · exact absurd (his.mpr ⟨d1, d2, d3⟩) hp
        · rw [if_pos d2]
    rw [e, if_neg (by decide), if_neg (by decide)]
    exact ⟨rfl, rel_th 1 h, rfl⟩
