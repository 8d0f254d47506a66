/-! PURE: how many positions are found, and how far the nearest solved one is -/
theorem php : ∀ (b a : Nat) (c : Nat → Nat), (∀ i, i < a → c i < b) → (∀ i j, i < a → j < a → c i = c j → i = j) → a ≤ b
  | 0, a, c, h1, _ => by
    rcases Nat.eq_zero_or_pos a with q | q
    · omega
    · exact absurd (h1 0 q) (Nat.not_lt_zero _)
  | b + 1, 0, c, _, _ => Nat.zero_le _
  | b + 1, a + 1, c, h1, h2 => by
    have h : a ≤ b := by
      refine php b a (fun i => if c i = b then c a else c i) (fun i hi => ?_) (fun i j hi hj e => ?_)
      · show (if c i = b then c a else c i) < b
        by_cases q : c i = b
        · rw [if_pos q]
          have h3 := h1 a (Nat.lt_succ_self a)
          have h4 : ¬ c a = b := fun z => by
            have := h2 i a (by omega) (Nat.lt_succ_self a) (q.trans z.symm)
            omega
          omega
        · rw [if_neg q]
          have := h1 i (by omega)
          omega
      · have e : (if c i = b then c a else c i) = (if c j = b then c a else c j) := e
        by_cases q : c i = b
        · by_cases w : c j = b
          · exact h2 i j (by omega) (by omega) (q.trans w.symm)
          · rw [if_pos q, if_neg w] at e
            have := h2 a j (Nat.lt_succ_self a) (by omega) e
            omega
        · by_cases w : c j = b
          · rw [if_neg q, if_pos w] at e
            have := h2 i a (by omega) (Nat.lt_succ_self a) e
            omega
          · rw [if_neg q, if_neg w] at e
            exact h2 i j (by omega) (by omega) e
    omega
theorem bZ_pth {V Z : MS} (h : bZ V Z) : ∀ n i, i < n → i < m_fm Z → pth V (m_dp Z i) (m_fo Z 0) (m_fo Z i)
  | 0, i, hn, _ => absurd hn (Nat.not_lt_zero _)
  | n + 1, i, hn, hi => by
    rcases h.2.2.2.1 i hi with ⟨z1, z2⟩ | ⟨j, z1, z2, z3⟩
    · subst z1; rw [z2]; exact rfl
    · rw [z3]; exact pth_snoc z2 _ _ (bZ_pth h n j (by omega) (by omega))
theorem clo_pth {V Z : MS} (hc : clo V Z (m_fm Z)) (h8 : m_fm Z < 800) : ∀ L i q, i < m_fm Z → pth V L (m_fo Z i) q → has Z q (m_dp Z i + L)
  | 0, i, q, hi, h => ⟨i, hi, h, Nat.le_refl _⟩
  | L + 1, i, q, hi, h => by
    obtain ⟨r, h1, h2⟩ := h
    obtain ⟨j, j1, j2, j3⟩ := hc h8 i hi r h1
    rw [← j2] at h2
    exact has_le (by omega) (clo_pth hc h8 L j q j1 h2)
theorem bZ_dp0 {V Z : MS} (h : bZ V Z) (h0 : 0 < m_fm Z) : m_dp Z 0 = 0 := by
  rcases h.2.2.2.1 0 h0 with ⟨_, z⟩ | ⟨j, z, _⟩
  · exact z
  · exact absurd z (Nat.not_lt_zero _)
theorem cnt_le {V Z Y : MS} (h : bZ V Z) (hc : clo V Z (m_fm Z)) (h8 : m_fm Z < 800) (g : bZ V Y) (hp : ∃ L, pth V L (m_fo Z 0) (m_fo Y 0)) (h0 : 0 < m_fm Z) : m_fm Y ≤ m_fm Z := by
  obtain ⟨L, hp⟩ := hp
  have key : ∀ i, ∃ j, i < m_fm Y → j < m_fm Z ∧ m_fo Z j = m_fo Y i := fun i => by
    by_cases hi : i < m_fm Y
    · obtain ⟨j, j1, j2, -⟩ := clo_pth hc h8 _ 0 (m_fo Y i) h0 (pth_app (bZ_pth g _ i (Nat.lt_succ_self i) hi) L _ hp)
      exact ⟨j, fun _ => ⟨j1, j2⟩⟩
    · exact ⟨0, fun z => absurd z hi⟩
  obtain ⟨c, hcc⟩ := Classical.axiomOfChoice key
  refine php _ _ c (fun i hi => (hcc i hi).1) (fun i j hi hj e => ?_)
  have e1 := (hcc i hi).2
  have e2 := (hcc j hj).2
  rw [e] at e1
  have e3 := e1.symm.trans e2
  rcases Nat.lt_trichotomy i j with q | q | q
  · exact absurd e3 (g.2.1 i j q hj)
  · exact q
  · exact absurd e3.symm (g.2.1 j i q hi)
theorem bZ_stt {W V Z : MS} (h : stt W V) (e : bZ W Z) : bZ V Z := by
  obtain ⟨h1, h2, h3, h4, h5⟩ := h
  unfold bZ vtx edg lgl sv good offR noO fit occV at e ⊢
  rw [h1, h2, h3, h4, h5] at e
  exact e
theorem clo_stt {W V Z : MS} {t : Nat} (h : stt W V) (e : clo W Z t) : clo V Z t := fun h8 i hi q hq => e h8 i hi q (edg_stt (stt_sy h) hq)
theorem look_cnt {M N : MS} (hok : m_ok M) (hg : good M (m_pl M)) (hok2 : m_ok N) (hg2 : good N (m_pl N)) (hs : stt N M) (hp : ∃ L, pth M L (pnow M) (pnow N)) (h8 : m_fm (m_look M) < 800) : m_fm (m_look N) = m_fm (m_look M) := by
  obtain ⟨a1, a2, a3, a4, a5⟩ := look_b hok hg
  obtain ⟨c1, c2, c3, c4, c5⟩ := look_b hok2 hg2
  have c1 := bZ_stt hs c1
  have c5 := clo_stt hs c5
  generalize m_look M = Z at *
  generalize m_look N = Y at *
  rw [← a4, ← c4] at hp
  have e1 := cnt_le a1 a5 h8 c1 hp a2
  obtain ⟨L, hp⟩ := hp
  have e2 := cnt_le c1 c5 (by omega) a1 ⟨L, pth_sym hok L _ (a1.1 0 a2) hp⟩ c2
  omega
theorem near {V Z Y : MS} (h : bZ V Z) (hc : clo V Z (m_fm Z)) (h8 : m_fm Z < 800) (h0 : 0 < m_fm Z) (g : bZ V Y) (he : edg V (m_fo Z 0) (m_fo Y 0)) {j : Nat} (hj : j < m_fm Y) (hsv : sv V (m_fo Y j)) : ∃ i, i < m_fm Z ∧ m_ff Z = nI i ∧ m_dp Z i ≤ m_dp Y j + 1 := by
  have hp : pth V (m_dp Y j + 1) (m_fo Z 0) (m_fo Y j) := ⟨m_fo Y 0, he, bZ_pth g _ j (Nat.lt_succ_self j) hj⟩
  obtain ⟨i, x1, x2, x3⟩ := clo_pth hc h8 _ 0 _ h0 hp
  rw [bZ_dp0 h h0] at x3
  rw [← x2] at hsv
  rcases h.2.2.2.2 with ⟨z1, z2⟩ | ⟨t, z1, z2, z3, z4⟩
  · exact absurd hsv (z2 i x1)
  · have ht : t ≤ i := by
      rcases Nat.lt_or_ge i t with q | q
      · exact absurd hsv (z4 i q)
      · exact q
    have := h.2.2.1 t i ht x1
    exact ⟨t, z1, z2, by omega⟩
/-- behind one drive the nearest solved position is at most one nearer or farther -/
theorem look_few {M N : MS} (hok : m_ok M) (hg : good M (m_pl M)) (hok2 : m_ok N) (hg2 : good N (m_pl N)) (hs : stt N M) (he : edg M (pnow M) (pnow N)) (h8 : m_fm (m_look M) < 800) :
    m_fm (m_look N) = m_fm (m_look M) ∧ ((m_ff (m_look M) = -1 ∧ m_ff (m_look N) = -1) ∨ ∃ i j, i < m_fm (m_look M) ∧ j < m_fm (m_look N) ∧ m_ff (m_look M) = nI i ∧ m_ff (m_look N) = nI j ∧ m_dp (m_look M) i ≤ m_dp (m_look N) j + 1 ∧ m_dp (m_look N) j ≤ m_dp (m_look M) i + 1) := by
  have hcn := look_cnt hok hg hok2 hg2 hs ⟨1, pnow N, he, rfl⟩ h8
  obtain ⟨a1, a2, a3, a4, a5⟩ := look_b hok hg
  obtain ⟨c1, c2, c3, c4, c5⟩ := look_b hok2 hg2
  have c1 := bZ_stt hs c1
  have c5 := clo_stt hs c5
  have hv := a1.1 0 a2
  rw [a4] at hv
  have he2 := edg_sym hok hv he
  refine ⟨hcn, ?_⟩
  generalize m_look M = Z at *
  generalize m_look N = Y at *
  rw [← a4, ← c4] at he he2
  rcases a1.2.2.2.2 with ⟨z1, z2⟩ | ⟨i, z1, z2, z3, z4⟩
  · rcases c1.2.2.2.2 with ⟨w1, w2⟩ | ⟨j, w1, w2, w3, w4⟩
    · exact Or.inl ⟨z1, w1⟩
    · obtain ⟨t, t1, t2, t3⟩ := near a1 a5 h8 a2 c1 he w1 w3
      rw [z1] at t2
      have := congrArg Int32.toInt t2
      rw [nI_toInt (by omega), show ((-1 : Int32)).toInt = -1 from rfl] at this
      omega
  · obtain ⟨t, t1, t2, t3⟩ := near c1 c5 (by omega) c2 a1 he2 z1 z3
    rcases c1.2.2.2.2 with ⟨w1, w2⟩ | ⟨j, w1, w2, w3, w4⟩
    · rw [w1] at t2
      have := congrArg Int32.toInt t2
      rw [nI_toInt (by omega), show ((-1 : Int32)).toInt = -1 from rfl] at this
      omega
    · obtain ⟨r, r1, r2, r3⟩ := near a1 a5 h8 a2 c1 he w1 w3
      have e1 : r = i := (nI_eq (by omega) (by omega)).mp (r2.symm.trans z2)
      have e2 : t = j := (nI_eq (by omega) (by omega)).mp (t2.symm.trans w2)
      subst e1 e2
      exact Or.inr ⟨r, t, r1, t1, z2, w2, r3, t3⟩
