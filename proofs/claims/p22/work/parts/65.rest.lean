/-! PURE: at, ramp, isSolved, canReach -/
theorem rel_at {k : Nat} {X : XS} {M : MS} (h : rel k X M) (r q : Int32) : m_th (m_lay (m_wTh M (if inL r ∧ inL q then 0 else 1))) = nI (at_th r q) ∧ rel k X (m_lay (m_wTh M (if inL r ∧ inL q then 0 else 1))) ∧
    m_at (m_lay (m_wTh M (if inL r ∧ inL q then 0 else 1))) r q = (if at_th r q = 0 then y_on (x_Y X) (j_po (x_J X)) (co r q) (y_n (x_Y X)) 0 else 0) := by
  have hl : ∀ x, rel k X (m_lay (m_wTh M x)) := fun x => rel_lay (rel_th x h)
  have hiff := inY_iff r q
  by_cases hin : inL r ∧ inL q
  · rw [if_pos hin, at_th, if_pos (hiff.mpr hin), if_pos rfl]
    refine ⟨rfl, hl 0, ?_⟩
    obtain ⟨h1, h2, h3, h4, h5, h6, h7, h8, h9, h10, -⟩ := h
    rw [m_at, if_pos hin]
    obtain ⟨rn, qn, hr, hq, rfl, rfl, e⟩ := p6 hin
    rw [e, h5, h3.1]
    have h0 : noO (m_wTh M 0) (m_pl (m_wTh M 0)) := h10
    rcases on_at (Y := x_Y X) (M := m_wTh M 0) h3 h1 h0 hr hq (m_n M) 0 (Nat.zero_add _) (fun u hu => absurd hu (Nat.not_lt_zero _)) with ⟨z1, z2⟩ | ⟨u, hu, z1, z2⟩
    · rw [z2]
      refine Eq.trans ?_ z1.symm
      decide
    · rw [z2, nI_pred]
      exact z1.symm
  · rw [if_neg hin, at_th, if_neg (fun z => hin (hiff.mp z)), if_neg (by decide), m_at, if_neg hin]
    exact ⟨rfl, hl 1, rfl⟩
theorem rel_solved {k : Nat} {X : XS} {M : MS} (h : rel k X M) : b1 (m_free (m_wTh M 0)) = b1 (pl (j_po (x_J X)) 0 = 4) := by
  obtain ⟨h1, h2, h3, h4, h5, -⟩ := h
  have e : m_free (m_wTh M 0) ↔ pl (j_po (x_J X)) 0 = 4 := by
    rw [h5]
    rcases Nat.eq_zero_or_pos (m_n M) with q | q
    · rw [q]
      constructor
      · rintro ⟨z, -⟩
        have z : 0 < m_n M := z
        omega
      · intro z; exact absurd z (by rw [show p8 0 (m_pl M) = 0 from rfl]; decide)
    · have hb := fitm8 h1 (pl_fit h1) 0 q
      rw [show (0 : Int32) = nI 0 from rfl, pl_p8 h1.1 (fitm8 h1 (pl_fit h1)) q, show (4 : Int32) = nI 4 from rfl, nI_eq (by omega) (by omega)]
      exact ⟨fun z => z.2, fun z => ⟨q, z⟩⟩
  by_cases q : pl (j_po (x_J X)) 0 = 4
  · rw [b1, b1, if_pos q, if_pos (e.mpr q)]
  · rw [b1, b1, if_neg q, if_neg (fun z => q (e.mp z))]
theorem mc_pos {k : Nat} {X : XS} {M : MS} (hk : k ≤ 1000000) (h : rel k X M) : (j_mc (x_J X) ≤ 0 ↔ m_mo M = 0) ∧ (0 < j_mc (x_J X) ↔ ¬ m_mo M = 0) ∧ (0 < m_mo M ↔ ¬ m_mo M = 0) := by
  obtain ⟨h1, h2, h3, h4, h5, h6, h7, h8, ⟨t, ht, h9⟩, -⟩ := h
  rw [h7, h9]
  rcases Nat.eq_zero_or_pos t with q | q
  · subst q; decide
  · have a1 : ¬ nI t ≤ 0 := nI_nle q (by omega)
    have a2 : ¬ nI t = 0 := nI_ne0 q (by omega)
    have a3 : 0 < nI t := nI_lt (a := 0) q (by omega)
    exact ⟨⟨fun z => absurd z a1, fun z => absurd z a2⟩, ⟨fun _ => a2, fun _ => a3⟩, ⟨fun _ => a2, fun _ => a3⟩⟩
theorem rel_ramp {k : Nat} {X : XS} {M : MS} (hk : k ≤ 1000000) (h : rel k X M) (r q : Int32) : m_th (m_ramp (m_lay M) r q) = nI (ramp_th X r q) ∧ rel k (if ramp_th X r q = 0 then x_ramp X r q else X) (m_ramp (m_lay M) r q) := by
  have hmc := mc_pos hk h
  have hiff := inY_iff r q
  have keep : ∀ x, rel k X (m_wRp (m_wTh (m_lay M) x) (m_rp (m_lay M))) := fun x => rel_lay h
  by_cases hin : inL r ∧ inL q
  · have hin2 := hin
    obtain ⟨rn, qn, hr, hq, rfl, rfl, e⟩ := p6 hin
    obtain ⟨h1, h2, h3, h4, h5, h6, h7, h8, h9, h10, h11, h12, h13, h14, h15⟩ := h
    have hon := on_at (Y := x_Y X) (M := M) h3 h1 h10 hr hq (m_n M) 0 (by rw [Nat.zero_add]) (fun u hu => absurd hu (Nat.not_lt_zero _))
    have hmon : m_on (m_lay M) (nI rn) (nI qn) = m_yd (m_lay M) (6 * rn + qn) := by rw [m_on, if_pos hin2, e]
    unfold m_ramp m_rth ramp_th
    rw [if_neg (not_not_intro hin2), if_neg (not_not_intro (hiff.mpr hin2)), hmon]
    by_cases hm : m_mo M = 0
    · have hm2 : ¬ 0 < m_mo (m_lay M) := fun z => hmc.2.2.mp z hm
      rw [if_neg (not_not_intro (hmc.1.mpr hm))]
      have hlor : (0 < m_yd (m_lay M) (6 * rn + qn) ∧ 2 < m_sz (m_lay M) (m_yd (m_lay M) (6 * rn + qn) - 1)) ↔ y_lor (x_Y X) (y_on (x_Y X) (j_po (x_J X)) (co (nI rn) (nI qn)) (y_n (x_Y X)) 0) := by
        rw [h5, h3.1]
        rcases hon with ⟨z1, z2⟩ | ⟨u, hu, z1, z2⟩
        · rw [z1, z2]
          constructor
          · rintro ⟨w, -⟩; omega
          · rintro ⟨w, -⟩; exact absurd (by decide) w.1
        · rw [z1, z2]
          obtain ⟨⟨b1_, b2_, b3_, b4_⟩, e1, e2, e3, e4⟩ := h3.2.2 u hu
          have h9' := h1.1
          unfold y_lor
          rw [nI_clamp (by omega), e1, Nat.add_sub_cancel]
          constructor
          · rintro ⟨-, w⟩
            exact ⟨y_has_of h3 hu, fun z => by have := (nI_leI (b := 2) (by omega) (by omega)).mp z; have w : 2 < m_sz M u := w; omega⟩
          · rintro ⟨-, w⟩
            refine ⟨by omega, ?_⟩
            show 2 < m_sz M u
            rcases Nat.lt_or_ge 2 (m_sz M u) with z | z
            · exact z
            · exact absurd ((nI_leI (b := 2) (by omega) (by omega)).mpr z) w
      by_cases hL : y_lor (x_Y X) (y_on (x_Y X) (j_po (x_J X)) (co (nI rn) (nI qn)) (y_n (x_Y X)) 0)
      · rw [if_pos hL, if_pos (Or.inr (hlor.mpr hL)), if_neg (by decide), if_neg (by decide)]
        exact ⟨rfl, keep 2⟩
      · have hno : ¬ (0 < m_mo (m_lay M) ∨ (0 < m_yd (m_lay M) (6 * rn + qn) ∧ 2 < m_sz (m_lay M) (m_yd (m_lay M) (6 * rn + qn) - 1))) := fun z => by
          rcases z with z | z
          · exact hm2 z
          · exact hL (hlor.mp z)
        rw [if_neg hL, if_neg hno, if_pos rfl, if_pos rfl]
        have hoff : ∀ u, u < m_n M → ¬ m_sz M u = 2 → ¬ occV M (m_pl M) u (6 * rn + qn) := fun u hu hz hc => by
          have : m_yd (m_lay M) (6 * rn + qn) = u + 1 := ly_v_at hc (fun w hw hw2 hcw => by have := h10 u w _ hu hw2 hc hcw; omega) (m_n M) (by omega) (Nat.le_refl _)
          refine hL (hlor.mp ?_)
          rw [this]
          refine ⟨by omega, ?_⟩
          rw [Nat.add_sub_cancel]
          show 2 < m_sz M u
          have := (h3.2.2 u hu).1.1
          omega
        refine ⟨rfl, ⟨(m_ok_lay h1), h2, h3, ?_, h5, h6, h7, h8, h9, h10, h11, ?_, ?_, h14, Or.inl rfl⟩⟩
        · intro c hc
          show gb (co (nI rn) (nI qn)) c = true ↔ nI c = 6 * nI rn + nI qn
          rw [gb_co hr hq hc, n6, nI_eq (by omega) (by omega)]
        · intro u hu hz c hc
          have hu : u < m_n M := hu
          have hz : ¬ m_sz M u = 2 := hz
          have hc : occV M (m_pl M) u c := hc
          show ¬ nI c = 6 * nI rn + nI qn
          have hc36 := occ_lt (h3.2.2 u hu).1.2.2.2 (pl_fit h1 u hu) hc
          rw [n6, nI_eq (by omega) (by omega)]
          intro w
          subst w
          exact hoff u hu hz hc
        · intro u hu hz c hc
          have hu : u < m_n M := hu
          have hz : ¬ m_sz M u = 2 := hz
          have hc : occV M (m_pk M) u c := hc
          show ¬ nI c = 6 * nI rn + nI qn
          have hc36 := occ_lt (h3.2.2 u hu).1.2.2.2 (pk_fit h1 u hu) hc
          rw [n6, nI_eq (by omega) (by omega)]
          intro w
          subst w
          refine hoff u hu hz ?_
          unfold occV at hc ⊢
          rw [h14 hm u hu]; exact hc
    · have hm2 : 0 < m_mo (m_lay M) := hmc.2.2.mpr hm
      rw [if_pos (fun z => hm (hmc.1.mp z)), if_pos (Or.inl hm2), if_neg (by decide), if_neg (by decide)]
      exact ⟨rfl, keep 2⟩
  · unfold m_ramp m_rth ramp_th
    rw [if_pos hin, if_pos (fun z => hin (hiff.mp z)), if_neg (by decide), if_neg (by decide)]
    exact ⟨rfl, keep 1⟩
theorem rel_reach {k : Nat} {X : XS} {M : MS} (h : rel k X M) (v p : Int32) :
    m_th (if m_has M v then (if inL p then m_look (m_wTh M 0) else m_wTh M 2) else m_isv M v) = nI (reach_th X v p) ∧
    rel k (if reach_th X v p = 0 then x_srch X else X) (if m_has M v then (if inL p then m_look (m_wTh M 0) else m_wTh M 2) else m_isv M v) ∧
    (if m_has M v then (if inL p then b1 (m_rch (m_look (m_wTh M 0)) v.toNatClampNeg p (m_fm (m_look (m_wTh M 0))) = true) else 0) else 0) = (if reach_th X v p = 0 then s_fat (x_S (x_srch X)) v p 800 0 else 0) := by
  have hh := rel_has h v
  have hin : inL p ↔ ¬ (p < 0 ∨ ¬ p < 6) := by
    constructor
    · rintro ⟨a, c⟩ (q | q)
      · exact a q
      · exact q (Int32.not_le.mp c)
    · intro q
      refine ⟨fun z => q (Or.inl z), fun z => q (Or.inr (Int32.not_lt.mpr z))⟩
  unfold reach_th
  by_cases hv : m_has M v
  · rw [if_pos hv, if_pos hv, if_neg (not_not_intro (hh.mpr hv))]
    by_cases hp : inL p
    · rw [if_pos hp, if_pos hp, if_neg (hin.mp hp), if_pos rfl, if_pos rfl]
      obtain ⟨r1, r2, r3, r4, -, -, -, r8⟩ := rel_srch h
      have hn : m_n (m_look (m_wTh M 0)) = m_n M := r1.2.2.1.1.symm.trans ((srch_same X h.2.2.2.2.2.2.2.2.2.2.2.2.2.2).1 ▸ h.2.2.1.1)
      refine ⟨r8, r1, ?_⟩
      obtain ⟨j, hj, rfl⟩ := m_has_ex h.1 hv
      obtain ⟨pn, hpn, rfl⟩ := inL_ex hp
      have h9 := h.1.1
      rw [nI_clamp (by omega)]
      exact (fat_rch r2 r3 (by rw [hn]; exact hj) 800 0 rfl (Nat.zero_le _) rfl).symm
    · rw [if_neg hp, if_neg hp, if_pos (by
        by_cases z : p < 0 ∨ ¬ p < 6
        · exact z
        · exact absurd (hin.mpr z) hp), if_neg (by decide), if_neg (by decide)]
      exact ⟨rfl, h, rfl⟩
  · rw [if_neg hv, if_neg hv, if_pos (fun z => hv (hh.mp z)), if_neg (by decide), if_neg (by decide), isv_not hv]
    exact ⟨rfl, h, rfl⟩
