/-! PURE: the whole search -/
def kept (W V : MS) : Prop := sfr W V ∧ m_fm V ≤ m_fm W ∧ ∀ j, j < m_fm V → m_fo W j = m_fo V j
theorem kept_rfl (W : MS) : kept W W := ⟨sfr_rfl W, Nat.le_refl _, fun _ _ => rfl⟩
theorem kept_tr {W V U : MS} (h1 : kept W V) (h2 : kept V U) : kept W U :=
  ⟨sfr_tr h1.1 h2.1, Nat.le_trans h2.2.1 h1.2.1, fun j hj => (h1.2.2 j (by have := h2.2.1; omega)).trans (h2.2.2 j hj)⟩
theorem kept_lay (W : MS) (k : Nat) : kept (lk_lay W k) W := ⟨sfr_rfl W, Nat.le_refl _, fun _ _ => rfl⟩
theorem sim_lay {S : SS} {W : MS} (k : Nat) (h : sim S W) : sim S (lk_lay W k) := h
theorem atf_lay {W : MS} {k : Nat} : atf (lk_lay W k) (lk_lay W k) (lk_g W k) := by
  refine ⟨rfl, rfl, rfl, rfl, rfl, fun u hu => ?_, fun c hc => ?_⟩
  · show cpN (m_pl W) (lk_g W k) (m_n W) u = lk_g W k u
    rw [cpN, if_pos (show u < m_n W from hu)]
  · have h := lay_0 (m_wPl W (cpN (m_pl W) (lk_g W k) (m_n W))) hc
    rw [show lk_lay W k = m_lay (m_wPl W (cpN (m_pl W) (lk_g W k) (m_n W))) from rfl, h]
    have e : ∀ u, u < m_n W → (occ (m_ac W u) (m_li W u) (cpN (m_pl W) (lk_g W k) (m_n W) u) (m_sz W u) c ↔ occ (m_ac W u) (m_li W u) (lk_g W k u) (m_sz W u) c) := fun u hu => by
      rw [cpN, if_pos hu]
    constructor
    · rintro hq ⟨u, hu, hc2⟩
      exact hq ⟨u, hu, (e u hu).mpr hc2⟩
    · rintro hq ⟨u, hu, hc2⟩
      exact hq ⟨u, hu, (e u hu).mp hc2⟩
theorem sim_isF {S : SS} {W : MS} {k : Nat} (hs : sim S W) (hk : k < m_fm W) : s_isF S (nI k) := by
  have h8 : m_fm W ≤ 800 := hs.2.2.1.1
  refine ⟨nI_pos (by omega), ?_, ?_⟩
  · rw [hs.1]; exact fun q => absurd ((nI_leI (by omega) (by omega)).mp q) (by omega)
  · exact fun q => absurd ((nI_leI (a := 800) (by omega) (by omega)).mp q) (by omega)
theorem sim_one {Y : YS} {S : SS} {W : MS} {k : Nat} (hs : sim S W) (hl : look_ok W) (hk : k < m_fm W) (hy : yr Y W) (hr : rr Y W) : sim (s_reach Y S (nI k)) (lk_one W k) ∧ look_ok (lk_one W k) ∧ kept (lk_one W k) W := by
  have h8 : m_fm W ≤ 800 := hs.2.2.1.1
  have hl2 := look_ok_lay hl hk
  have hfit : fit (lk_lay W k) (lk_g W k) := fun v hv => hl.2.2 k hk v hv
  obtain ⟨f1, f2, f3, f4, f5⟩ := hs.2.2.2.1 k hk
  have hI : lkI (lk_lay W k) k (lk_g W k) S (lk_lay W k) := ⟨sim_lay k hs, hl2, sfr_rfl _, rfl, hk, fun _ _ => rfl, (atf_lay (W := W) (k := k)).ep⟩
  have hy2 : yr Y (lk_lay W k) := sfr_yr (kept_lay W k).1 hy
  have hr2 : rr Y (lk_lay W k) := sfr_rr (kept_lay W k).1 hr
  have ho2 : good (lk_lay W k) (lk_g W k) := good_c (M := W) rfl rfl rfl rfl rfl (fun _ _ => rfl) f4
  have h := sim_vL (o := k) hy2 hr2 hl2.1 hfit atf_lay ho2 (m_n W) 0 S (lk_lay W k) (Nat.zero_add _) hI
  have e1 : s_reach Y S (nI k) = s_reachL Y (nI k) (nI (p8 (m_n (lk_lay W k)) (lk_g W k))) (y_fil Y (nI (p8 (m_n (lk_lay W k)) (lk_g W k))) (m_n (lk_lay W k))) (m_n W) 0 S := by
    rw [s_reach, if_pos (sim_isF hs hk), nI_clamp (by omega), f2, hy.1]; rfl
  rw [e1, show lk_one W k = lk_vL k (m_n W) 0 (lk_lay W k) from rfl]
  exact ⟨h.1.1, h.1.2.1, kept_tr ⟨h.2.1, h.2.2.2.1, h.2.2.2.2⟩ (kept_lay W k)⟩
theorem sim_lkL {Y : YS} : ∀ d k S W, k + d = 800 → sim S W → look_ok W → yr Y W → rr Y W → sim (s_lookL Y d k S) (lkL d k W) ∧ look_ok (lkL d k W) ∧ kept (lkL d k W) W
  | 0, _, S, W, _, hs, hl, _, _ => ⟨hs, hl, kept_rfl W⟩
  | d + 1, k, S, W, hd, hs, hl, hy, hr => by
    have h8 : m_fm W ≤ 800 := hs.2.2.1.1
    have e : (¬ s_fc S ≤ nI k ∧ ¬ 800 ≤ s_fc S) ↔ (k < m_fm W ∧ m_fm W < 800) := by
      rw [hs.1, nI_leI (by omega) (by omega), show (800 : Int32) = nI 800 from rfl, nI_leI (by omega) (by omega)]
      omega
    rw [s_lookL, lkL]
    by_cases q : k < m_fm W ∧ m_fm W < 800
    · rw [if_pos q, if_pos (e.mpr q)]
      obtain ⟨h1, h2, h3⟩ := sim_one hs hl q.1 hy hr
      obtain ⟨h4, h5, h6⟩ := sim_lkL d (k + 1) _ _ (by omega) h1 h2 (sfr_yr h3.1 hy) (sfr_rr h3.1 hr)
      exact ⟨h4, h5, kept_tr h6 h3⟩
    · rw [if_neg q, if_neg (fun z => q (e.mp z))]
      exact ⟨hs, hl, kept_rfl W⟩
theorem sim_new {S : SS} {M : MS} (hst : stale M) : sim (s_new S) (m_w0 M) := by
  refine ⟨rfl, ⟨fun _ => 0, fun j hj => ?_, tab_0 (fun _ _ => rfl)⟩, tab_0 (fun j hj => ?_), fun i hi => absurd hi (Nat.not_lt_zero _), rfl, Or.inl rfl, hst⟩
  · show fillF (s_sl S) 2048 0 j = nI 0
    rw [fillF, if_pos hj]; rfl
  · show fillN (m_sl M) 2048 j = 0
    rw [fillN, if_pos hj]
theorem takes_root (M : MS) : m_fm (m_takes (m_w0 M) (-1) 0) = 1 ∧ m_fo (m_takes (m_w0 M) (-1) 0) 0 = pnow M := by
  have h : m_sl (m_w0 M) (tk_slot (m_w0 M)) = 0 ∧ m_fm (m_w0 M) < 800 := by
    refine ⟨?_, (by decide : (0 : Nat) < 800)⟩
    show fillN (m_sl M) 2048 (tk_slot (m_w0 M)) = 0
    rw [fillN, if_pos (tk_slot_lt _)]
  rw [m_takes, if_pos h]
  refine ⟨rfl, ?_⟩
  show updN (m_fo (m_w0 M)) 0 (pnow M) 0 = pnow M
  exact updN_s
theorem s_trL_keep : ∀ d k ix S, s_fo (s_trL d k ix S) = s_fo S ∧ s_or (s_trL d k ix S) = s_or S ∧ s_mo (s_trL d k ix S) = s_mo S ∧ s_sl (s_trL d k ix S) = s_sl S ∧ s_fc (s_trL d k ix S) = s_fc S ∧ s_fs (s_trL d k ix S) = s_fs S
  | 0, _, _, _ => ⟨rfl, rfl, rfl, rfl, rfl, rfl⟩
  | d + 1, k, ix, S => by
    rw [s_trL]
    split
    · exact s_trL_keep d (k + 1) _ _
    · exact ⟨rfl, rfl, rfl, rfl, rfl, rfl⟩
theorem sim_keep {S S2 : SS} {W : MS} (h : s_fo S2 = s_fo S ∧ s_or S2 = s_or S ∧ s_mo S2 = s_mo S ∧ s_sl S2 = s_sl S ∧ s_fc S2 = s_fc S ∧ s_fs S2 = s_fs S) (hs : sim S W) : sim S2 W := by
  obtain ⟨h1, h2, h3, h4, h5, h6⟩ := h
  unfold sim fnd lnk at hs ⊢
  rw [h1, h2, h3, h4, h5, h6]
  exact hs
/-- the search, whole: S1 the class's list before tracing back, Z the reference after looking -/
theorem look_sim {Y : YS} {S : SS} {M : MS} {x : Int32} (hy : yr Y M) (hr : rr Y M) (hok : m_ok M) (hst : stale M) (hoff : good M (m_pl M)) (hx : x = nI (p8 (m_n M) (m_pl M))) :
    sim (s_lookL Y 800 0 (s_addN (s_new S) x 0 0)) (m_look M) ∧ look_ok (m_look M) ∧ (∀ u, u < m_n M → m_pl (m_look M) u = m_pl M u) ∧ 0 < m_fm (m_look M) ∧ (∀ u, u < m_n M → lk_g (m_look M) 0 u = m_pl M u) ∧
    m_n (m_look M) = m_n M ∧ m_sz (m_look M) = m_sz M ∧ m_ac (m_look M) = m_ac M ∧ m_li (m_look M) = m_li M ∧ m_rp (m_look M) = m_rp M ∧ m_mo (m_look M) = m_mo M ∧ m_dr (m_look M) = m_dr M ∧ m_pk (m_look M) = m_pk M ∧ m_th (m_look M) = m_th M := by
  have hl0 := look_ok_w0 hok
  have hs0 := sim_takes (o := 0) (c := 0) (o2 := -1) (x2 := 0) (sim_new (S := S) hst) hl0 hx hoff ⟨rfl, Or.inl ⟨rfl, rfl, rfl⟩⟩
  have hl1 := look_ok_takes (o := -1) (x := 0) hl0
  have hsf := sfr_takes (m_w0 M) (-1) 0
  have hy0 : yr Y (m_w0 M) := hy
  have hr0 : rr Y (m_w0 M) := hr
  obtain ⟨h1, h2, h3, h4, h5⟩ := sim_lkL 800 0 _ _ rfl hs0 hl1 (sfr_yr hsf hy0) (sfr_rr hsf hr0)
  obtain ⟨r1, r2⟩ := takes_root M
  rw [r1] at h4 h5
  have h6 := h5 0 (by decide)
  rw [r2] at h6
  have hs9 := sfr_tr h3 hsf
  unfold m_look
  generalize lkL 800 0 (m_takes (m_w0 M) (-1) 0) = Z at h1 h2 h4 h6 hs9 ⊢
  obtain ⟨a1, a2, a3, a4, a5, a6, a7, a8, a9, a10⟩ := hs9
  have ekp : ∀ u, u < m_n M → m_pl (m_fin Z) u = m_pl M u := fun u hu => by
    show cpN (m_pl Z) (m_kp Z) (m_n Z) u = m_pl M u
    rw [cpN, if_pos (by rw [a1]; exact hu), a6]
    show cpN (m_kp M) (m_pl M) (m_n M) u = m_pl M u
    rw [cpN, if_pos hu]
  have hokF : m_ok (m_fin Z) := by
    refine ⟨h2.1.1, fun v hv => ?_, h2.1.2.2⟩
    obtain ⟨b1_, b2_, b3_, b4_, b5_, b6_⟩ := h2.1.2.1 v hv
    refine ⟨b1_, b2_, b3_, b4_, ?_, b6_⟩
    have hv2 : v < m_n M := by have : v < m_n Z := hv; rw [a1] at this; exact this
    rw [ekp v hv2]
    show m_pl M v + m_sz Z v ≤ 6
    rw [a2]
    exact (hok.2.1 v hv2).2.2.2.2.1
  exact ⟨sim_pl _ h1, ⟨hokF, h2.2.1, h2.2.2⟩, ekp, h4, fun u hu => by
    show dgN (m_fo Z 0) u = m_pl M u
    rw [h6, pnow_dg hok hu], a1, a2, a3, a4, a5, a7, a8, a9, a10⟩
