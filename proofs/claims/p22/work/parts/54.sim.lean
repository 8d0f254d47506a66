/-! PURE: the class's list of found positions and the reference's -/
/-- no two on one cell -/
def noO (M : MS) (f : Nat → Nat) : Prop := ∀ u w c, u < m_n M → w < m_n M → occV M f u c → occV M f w c → u = w
theorem noO_c {M Z : MS} {f g : Nat → Nat} (h1 : m_n Z = m_n M) (h2 : m_sz Z = m_sz M) (h3 : m_ac Z = m_ac M) (h4 : m_li Z = m_li M) (hg : ∀ u, u < m_n M → g u = f u) (h : noO M f) : noO Z g := by
  intro u w c hu hw a1 a2
  rw [h1] at hu hw
  unfold occV at a1 a2
  rw [h2, h3, h4, hg u hu] at a1
  rw [h2, h3, h4, hg w hw] at a2
  exact h u w c hu hw a1 a2
theorem offR_c {M Z : MS} {f g : Nat → Nat} (h1 : m_n Z = m_n M) (h2 : m_sz Z = m_sz M) (h3 : m_ac Z = m_ac M) (h4 : m_li Z = m_li M) (h5 : m_rp Z = m_rp M) (hg : ∀ u, u < m_n M → g u = f u) (h : offR M f) : offR Z g := by
  intro u hu hz c hc
  rw [h1] at hu
  rw [h2] at hz
  unfold occV at hc
  rw [h2, h3, h4, hg u hu] at hc
  rw [h5]
  exact h u hu hz c hc
def good (M : MS) (f : Nat → Nat) : Prop := offR M f ∧ noO M f
theorem good_c {M Z : MS} {f g : Nat → Nat} (h1 : m_n Z = m_n M) (h2 : m_sz Z = m_sz M) (h3 : m_ac Z = m_ac M) (h4 : m_li Z = m_li M) (h5 : m_rp Z = m_rp M) (hg : ∀ u, u < m_n M → g u = f u) (h : good M f) : good Z g := ⟨offR_c h1 h2 h3 h4 h5 hg h.1, noO_c h1 h2 h3 h4 hg h.2⟩
def lnk (N : Nat) (S : SS) (W : MS) (i : Nat) : Prop :=
  (i = 0 ∧ m_fr W i = -1 ∧ m_dp W i = 0 ∧ m_by W i = 0) ∨
  (∃ (j v : Nat) (sg : Int32) (k : Nat), j < i ∧ v < N ∧ (sg = 1 ∨ sg = -1) ∧ 1 ≤ k ∧ k ≤ 4 ∧ (sg = -1 → k ≤ lk_g W j v) ∧ s_or S i = nI j ∧ m_fr W i = nI j ∧ m_dp W i = m_dp W j + 1 ∧ m_by W i = cdN v sg k ∧ ∀ u, u < N → lk_g W i u = updN (lk_g W j) v (stp sg (lk_g W j v) k) u)
def fnd (N : Nat) (S : SS) (W : MS) (i : Nat) : Prop := m_fo W i = ps N (lk_g W i) ∧ s_fo S i = nI (p8 N (lk_g W i)) ∧ s_mo S i = nI (m_by W i) ∧ good W (lk_g W i) ∧ lnk N S W i
def stale (W : MS) : Prop := ∀ i, i < 800 → m_dp W i ≤ i ∧ m_by W i < 1000 ∧ (0 < m_fr W i ∨ 0 < m_dp W i → ∃ j, j < i ∧ m_fr W i = nI j)
def sim (S : SS) (W : MS) : Prop := s_fc S = nI (m_fm W) ∧ (∃ T : Nat → Nat, (∀ j, j < 2048 → s_sl S j = nI (T j)) ∧ tab T (fun i => h_st (s_fo S i)) (m_fm W)) ∧ tab (m_sl W) (fun i => m_fo W i % 2048) (m_fm W) ∧ (∀ i, i < m_fm W → fnd (m_n W) S W i) ∧ s_fs S = m_ff W ∧ (m_ff W = -1 ∨ ∃ j, j < m_fm W ∧ m_ff W = nI j) ∧ stale W
theorem lk_fit {W : MS} {i : Nat} (h : look_ok W) (hi : i < m_fm W) : fit W (lk_g W i) := fun v hv => h.2.2 i hi v hv
theorem pl_fit {W : MS} (h : m_ok W) : fit W (m_pl W) := fun v hv => by
  obtain ⟨b1_, b2_, b3_, b4_, b5_, b6_⟩ := h.2.1 v hv
  exact b5_
theorem fitm8 {M : MS} {f : Nat → Nat} (h : m_ok M) (hf : fit M f) : ∀ v, v < m_n M → f v < 8 := fun v hv => by
  have := hf v hv; omega
theorem fitm6 {M : MS} {f : Nat → Nat} (h : m_ok M) (hf : fit M f) : ∀ v, v < m_n M → f v < 6 := fun v hv => by
  have := hf v hv; obtain ⟨b1_, b2_, b3_, b4_, b5_, b6_⟩ := h.2.1 v hv; omega
/-- what is to be taken in: its origin and its move -/
def newE (W : MS) (o c o2 : Int32) (x2 : Nat) : Prop :=
  c = nI x2 ∧ ((m_fm W = 0 ∧ o2 = -1 ∧ x2 = 0) ∨
  (∃ (j v : Nat) (sg : Int32) (k : Nat), j < m_fm W ∧ v < m_n W ∧ (sg = 1 ∨ sg = -1) ∧ 1 ≤ k ∧ k ≤ 4 ∧ (sg = -1 → k ≤ lk_g W j v) ∧ o = nI j ∧ o2 = nI j ∧ x2 = cdN v sg k ∧ ∀ u, u < m_n W → m_pl W u = updN (lk_g W j) v (stp sg (lk_g W j v) k) u))
theorem cdN_lt {v k : Nat} {sg : Int32} (hv : v < 9) (hk : k ≤ 4) : cdN v sg k < 1000 := by
  unfold cdN; split <;> omega
theorem same_key {W : MS} {f g : Nat → Nat} (hok : m_ok W) (hf : fit W f) (hg : fit W g) : nI (p8 (m_n W) f) = nI (p8 (m_n W) g) ↔ ps (m_n W) f = ps (m_n W) g := by
  have h9 := hok.1
  have b1_ := p8_bd h9 (fitm8 hok hf)
  have b2_ := p8_bd h9 (fitm8 hok hg)
  rw [nI_eq (by omega) (by omega)]
  exact ⟨fun h => ps_ext _ (p8_inj (fitm8 hok hf) (fitm8 hok hg) h), fun h => p8_ext _ (ps_inj (fitm6 hok hf) (fitm6 hok hg) h)⟩
theorem ff_same {W : MS} {x : Int32} (hok : m_ok W) (hx : x = nI (p8 (m_n W) (m_pl W))) (hf : m_ff W = -1 ∨ ∃ j, j < m_fm W ∧ m_ff W = nI j) (h8 : m_fm W ≤ 800) : (m_ff W = -1 ∧ pl x 0 = 4) ↔ (¬ 0 ≤ m_ff W ∧ m_free W) := by
  have e1 : m_ff W = -1 ↔ ¬ 0 ≤ m_ff W := by
    rcases hf with h | ⟨j, hj, h⟩
    · rw [h]; decide
    · rw [h]
      constructor
      · intro q
        have := congrArg Int32.toInt q
        rw [nI_toInt (by omega)] at this
        exact absurd this (by rw [show ((-1 : Int32)).toInt = -1 from rfl]; omega)
      · intro q; exact absurd (nI_pos' (by omega)) q
  have e2 : pl x 0 = 4 ↔ m_free W := by
    rw [hx]
    rcases Nat.eq_zero_or_pos (m_n W) with q | q
    · rw [q]
      constructor
      · intro z; exact absurd z (by rw [show p8 0 (m_pl W) = 0 from rfl]; decide)
      · rintro ⟨z, -⟩; omega
    · have hb := fitm8 hok (pl_fit hok) 0 q
      rw [show (0 : Int32) = nI 0 from rfl, pl_p8 hok.1 (fitm8 hok (pl_fit hok)) q, show (4 : Int32) = nI 4 from rfl, nI_eq (by omega) (by omega)]
      exact ⟨fun z => ⟨q, z⟩, fun z => z.2⟩
  rw [e1, e2]
theorem sim_takes {S : SS} {W : MS} {x o c o2 : Int32} {x2 : Nat} (hs : sim S W) (hl : look_ok W) (hx : x = nI (p8 (m_n W) (m_pl W))) (hoff : good W (m_pl W)) (hn : newE W o c o2 x2) : sim (s_addN S x o c) (m_takes W o2 x2) := by
  obtain ⟨s1, ⟨T, hT, s2⟩, s3, s4, s5, s6, s7⟩ := hs
  have hok := hl.1
  have h8 : m_fm W ≤ 800 := s3.1
  obtain ⟨r, hr, hsl, hst⟩ := s_slot_stop (x := x) hT s2 2048 0 rfl (fun u hu => absurd hu (Nat.not_lt_zero _))
  have tst := tk_stop (p := pnow W) (s := pnow W % 2048) s3 2048 0 rfl (fun u hu => absurd hu (Nat.not_lt_zero _))
  rw [show (pnow W % 2048 + 0) % 2048 = pnow W % 2048 by omega, show tkL W (pnow W) 2048 (pnow W % 2048) = tk_slot W from rfl] at tst
  have e1 := stop_free s2 (fun i _ hk => by show h_st (s_fo S i) = h_st x; rw [hk]) hst
  have e2 := stop_free s3 (fun i _ hk => by show m_fo W i % 2048 = pnow W % 2048; rw [hk]) tst
  have e3 : ∀ i, i < m_fm W → (s_fo S i = x ↔ m_fo W i = pnow W) := fun i hi => by
    rw [(s4 i hi).1, (s4 i hi).2.1, hx]
    exact same_key hok (lk_fit hl hi) (pl_fit hok)
  have e4 : T r = 0 ↔ m_sl W (tk_slot W) = 0 := by
    rw [e1, e2]
    exact ⟨fun h i hi q => h i hi ((e3 i hi).mpr q), fun h i hi q => h i hi ((e3 i hi).mp q)⟩
  have e5 : s_slot S x = nI r := hsl
  have e6 : ¬ s_full S (s_slot S x) ↔ (m_sl W (tk_slot W) = 0 ∧ m_fm W < 800) := by
    have hTr := s2.2.1 r hr
    unfold s_full
    rw [e5, s1, nI_clamp (by omega), hT r hr, ← e4]
    constructor
    · intro h
      refine ⟨?_, ?_⟩
      · by_cases q : nI (T r) = 0
        · exact (nI_eq (b := 0) (by omega) (by omega)).mp q
        · exact absurd (Or.inr (Or.inr (Or.inr (Or.inr q)))) h
      · rcases Nat.lt_or_ge (m_fm W) 800 with q | q
        · exact q
        · exact absurd (Or.inr (Or.inl ((nI_leI (a := 800) (by omega) (by omega)).mpr q))) h
    · rintro ⟨q1, q2⟩ (q | q | q | q | q)
      · exact nI_pos (by omega) q
      · exact absurd ((nI_leI (a := 800) (by omega) (by omega)).mp q) (by omega)
      · exact nI_pos (by omega) q
      · exact absurd ((nI_leI (a := 2048) (by omega) (by omega)).mp q) (by omega)
      · rw [q1] at q; exact q rfl
  unfold s_addN m_takes
  by_cases hfull : s_full S (s_slot S x)
  · rw [if_pos hfull, if_neg (fun z => (e6.mpr z) hfull)]
    exact ⟨s1, ⟨T, hT, s2⟩, s3, s4, s5, s6, s7⟩
  · have hin := e6.mp hfull
    rw [if_neg hfull, if_pos hin]
    have hfc : (s_fc S).toNatClampNeg = m_fm W := by rw [s1, nI_clamp (by omega)]
    rw [hfc, e5, nI_clamp (by omega)]
    have hlt : ∀ i, i < m_fm W → ¬ i = m_fm W := fun i hi => by omega
    have hpn : pnow W = ps (m_n W) (m_pl W) := rfl
    have hfo : ∀ i, i < m_fm W → updN (m_fo W) (m_fm W) (pnow W) i = m_fo W i := fun i hi => updN_n (hlt i hi)
    refine ⟨?_, ⟨updN T r (m_fm W + 1), ?_, ?_⟩, ?_, ?_, ?_, ?_, ?_⟩
    · show s_fc S + 1 = nI (m_fm W + 1)
      rw [s1, nI_1]
    · intro j hj
      show upd (s_sl S) r (s_fc S + 1) j = nI (updN T r (m_fm W + 1) j)
      by_cases q : j = r
      · subst q; rw [pk_us, updN_s, s1, nI_1]
      · rw [pk_un q, updN_n q, hT j hj]
    · show tab (updN T r (m_fm W + 1)) (fun i => h_st (upd (s_fo S) (m_fm W) x i)) (m_fm W + 1)
      refine tab_add s2 hin.2 hst (e4.mpr hin.1) (fun i hi => ?_) ?_
      · show h_st (upd (s_fo S) (m_fm W) x i) = h_st (s_fo S i)
        rw [pk_un (hlt i hi)]
      · show h_st (upd (s_fo S) (m_fm W) x (m_fm W)) = h_st x
        rw [pk_us]
    · show tab (updN (m_sl W) (tk_slot W) (m_fm W + 1)) (fun i => updN (m_fo W) (m_fm W) (pnow W) i % 2048) (m_fm W + 1)
      refine tab_add s3 hin.2 tst hin.1 (fun i hi => ?_) ?_
      · show updN (m_fo W) (m_fm W) (pnow W) i % 2048 = m_fo W i % 2048
        rw [hfo i hi]
      · show updN (m_fo W) (m_fm W) (pnow W) (m_fm W) % 2048 = pnow W % 2048
        rw [updN_s]
    · intro i hi
      have hi2 : i < m_fm W + 1 := hi
      have hgo : ∀ j, j < m_fm W → (fun v => dgN (updN (m_fo W) (m_fm W) (pnow W) j) v) = lk_g W j := fun j hj => by
        rw [hfo j hj]; rfl
      have hgn : ∀ u, u < m_n W → dgN (updN (m_fo W) (m_fm W) (pnow W) (m_fm W)) u = m_pl W u := fun u hu => by
        rw [updN_s, pnow_dg hok hu]
      rcases (show i < m_fm W ∨ i = m_fm W by omega) with q | q
      · obtain ⟨f1, f2, f3, f4, f5⟩ := s4 i q
        refine ⟨?_, ?_, ?_, ?_, ?_⟩
        · show updN (m_fo W) (m_fm W) (pnow W) i = ps (m_n W) (fun v => dgN (updN (m_fo W) (m_fm W) (pnow W) i) v)
          rw [hgo i q, hfo i q]; exact f1
        · show upd (s_fo S) (m_fm W) x i = nI (p8 (m_n W) (fun v => dgN (updN (m_fo W) (m_fm W) (pnow W) i) v))
          rw [hgo i q, pk_un (hlt i q)]; exact f2
        · show upd (s_mo S) (m_fm W) c i = nI (updN (m_by W) (m_fm W) x2 i)
          rw [pk_un (hlt i q), updN_n (hlt i q)]; exact f3
        · show good W (fun v => dgN (updN (m_fo W) (m_fm W) (pnow W) i) v)
          rw [hgo i q]; exact f4
        · rcases f5 with ⟨z0, z1, z2, z3⟩ | ⟨j, v, sg, k, z1, z2, z3, z4, z5, z6, z7, z8, z9, z10, z11⟩
          · refine Or.inl ⟨z0, ?_, ?_, ?_⟩
            · show upd (m_fr W) (m_fm W) o2 i = -1
              rw [pk_un (hlt i q)]; exact z1
            · show updN (m_dp W) (m_fm W) (tk_d W o2) i = 0
              rw [updN_n (hlt i q)]; exact z2
            · show updN (m_by W) (m_fm W) x2 i = 0
              rw [updN_n (hlt i q)]; exact z3
          · have hj : j < m_fm W := by omega
            refine Or.inr ⟨j, v, sg, k, z1, z2, z3, z4, z5, ?_, ?_, ?_, ?_, ?_, ?_⟩
            · show sg = -1 → k ≤ (fun v => dgN (updN (m_fo W) (m_fm W) (pnow W) j) v) v
              rw [hgo j hj]; exact z6
            · show upd (s_or S) (m_fm W) o i = nI j
              rw [pk_un (hlt i q)]; exact z7
            · show upd (m_fr W) (m_fm W) o2 i = nI j
              rw [pk_un (hlt i q)]; exact z8
            · show updN (m_dp W) (m_fm W) (tk_d W o2) i = updN (m_dp W) (m_fm W) (tk_d W o2) j + 1
              rw [updN_n (hlt i q), updN_n (hlt j hj)]; exact z9
            · show updN (m_by W) (m_fm W) x2 i = cdN v sg k
              rw [updN_n (hlt i q)]; exact z10
            · intro u hu
              show (fun v => dgN (updN (m_fo W) (m_fm W) (pnow W) i) v) u = updN (fun v => dgN (updN (m_fo W) (m_fm W) (pnow W) j) v) v (stp sg ((fun v => dgN (updN (m_fo W) (m_fm W) (pnow W) j) v) v) k) u
              rw [hgo i q, hgo j hj]; exact z11 u hu
      · rw [q]
        refine ⟨?_, ?_, ?_, ?_, ?_⟩
        · show updN (m_fo W) (m_fm W) (pnow W) (m_fm W) = ps (m_n W) (fun v => dgN (updN (m_fo W) (m_fm W) (pnow W) (m_fm W)) v)
          rw [ps_ext (m_n W) hgn, updN_s]; rfl
        · show upd (s_fo S) (m_fm W) x (m_fm W) = nI (p8 (m_n W) (fun v => dgN (updN (m_fo W) (m_fm W) (pnow W) (m_fm W)) v))
          rw [p8_ext (m_n W) hgn, pk_us]; exact hx
        · show upd (s_mo S) (m_fm W) c (m_fm W) = nI (updN (m_by W) (m_fm W) x2 (m_fm W))
          rw [pk_us, updN_s]; exact hn.1
        · show good W (fun v => dgN (updN (m_fo W) (m_fm W) (pnow W) (m_fm W)) v)
          exact good_c rfl rfl rfl rfl rfl hgn hoff
        · rcases hn.2 with ⟨z0, z1, z2⟩ | ⟨j, v, sg, k, z1, z2, z3, z4, z5, z6, z7, z8, z9, z10⟩
          · refine Or.inl ⟨z0, ?_, ?_, ?_⟩
            · show upd (m_fr W) (m_fm W) o2 (m_fm W) = -1
              rw [pk_us]; exact z1
            · show updN (m_dp W) (m_fm W) (tk_d W o2) (m_fm W) = 0
              rw [updN_s, z1]; rfl
            · show updN (m_by W) (m_fm W) x2 (m_fm W) = 0
              rw [updN_s]; exact z2
          · refine Or.inr ⟨j, v, sg, k, z1, z2, z3, z4, z5, ?_, ?_, ?_, ?_, ?_, ?_⟩
            · show sg = -1 → k ≤ (fun v => dgN (updN (m_fo W) (m_fm W) (pnow W) j) v) v
              rw [hgo j z1]; exact z6
            · show upd (s_or S) (m_fm W) o (m_fm W) = nI j
              rw [pk_us]; exact z7
            · show upd (m_fr W) (m_fm W) o2 (m_fm W) = nI j
              rw [pk_us]; exact z8
            · show updN (m_dp W) (m_fm W) (tk_d W o2) (m_fm W) = updN (m_dp W) (m_fm W) (tk_d W o2) j + 1
              rw [updN_s, updN_n (hlt j z1), tk_d, z8, if_pos (nI_pos' (by omega)), nI_clamp (by omega)]
            · show updN (m_by W) (m_fm W) x2 (m_fm W) = cdN v sg k
              rw [updN_s]; exact z9
            · intro u hu
              show dgN (updN (m_fo W) (m_fm W) (pnow W) (m_fm W)) u = updN (fun v => dgN (updN (m_fo W) (m_fm W) (pnow W) j) v) v (stp sg ((fun v => dgN (updN (m_fo W) (m_fm W) (pnow W) j) v) v) k) u
              rw [hgo j z1, hgn u hu]; exact z10 u hu
    · show (if s_fs S = -1 ∧ pl x 0 = 4 then s_fc S else s_fs S) = tk_f W
      have := ff_same hok hx s6 h8
      unfold tk_f
      rw [s5, s1]
      by_cases q : m_ff W = -1 ∧ pl x 0 = 4
      · rw [if_pos q, if_pos (this.mp q)]
      · rw [if_neg q, if_neg (fun z => q (this.mpr z))]
    · show tk_f W = -1 ∨ ∃ j, j < m_fm W + 1 ∧ tk_f W = nI j
      unfold tk_f
      split
      · exact Or.inr ⟨m_fm W, by omega, rfl⟩
      · rcases s6 with q | ⟨j, hj, q⟩
        · exact Or.inl q
        · exact Or.inr ⟨j, by omega, q⟩
    · intro i hi
      show updN (m_dp W) (m_fm W) (tk_d W o2) i ≤ i ∧ updN (m_by W) (m_fm W) x2 i < 1000 ∧ (0 < upd (m_fr W) (m_fm W) o2 i ∨ 0 < updN (m_dp W) (m_fm W) (tk_d W o2) i → ∃ j, j < i ∧ upd (m_fr W) (m_fm W) o2 i = nI j)
      by_cases q : i = m_fm W
      · subst q
        rw [updN_s, updN_s, pk_us]
        rcases hn.2 with ⟨z0, z1, z2⟩ | ⟨j, v, sg, k, z1, z2, z3, z4, z5, z6, z7, z8, z9, z10⟩
        · rw [z1, z2]
          refine ⟨Nat.zero_le _, by decide, fun z => ?_⟩
          rcases z with z | z
          · exact absurd z (by decide)
          · exact absurd z (by rw [show tk_d W (-1) = 0 from rfl]; decide)
        · rw [z8, z9]
          refine ⟨?_, cdN_lt (by have := hok.1; omega) z5, fun _ => ⟨j, z1, rfl⟩⟩
          rw [tk_d, if_pos (nI_pos' (by omega)), nI_clamp (by omega)]
          have := (s7 j (by omega)).1
          omega
      · rw [updN_n q, updN_n q, pk_un q]
        exact s7 i hi
