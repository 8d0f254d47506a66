/-! PURE: driving, as ways between positions -/
def stt (W V : MS) : Prop := m_n W = m_n V ∧ m_sz W = m_sz V ∧ m_ac W = m_ac V ∧ m_li W = m_li V ∧ m_rp W = m_rp V
theorem stt_rfl (W : MS) : stt W W := ⟨rfl, rfl, rfl, rfl, rfl⟩
theorem stt_sy {W V : MS} (h : stt W V) : stt V W := ⟨h.1.symm, h.2.1.symm, h.2.2.1.symm, h.2.2.2.1.symm, h.2.2.2.2.symm⟩
theorem stt_tr {W V U : MS} (h : stt W V) (g : stt V U) : stt W U := ⟨h.1.trans g.1, h.2.1.trans g.2.1, h.2.2.1.trans g.2.2.1, h.2.2.2.1.trans g.2.2.2.1, h.2.2.2.2.trans g.2.2.2.2⟩
theorem good_stt {W V : MS} {f g : Nat → Nat} (h : stt W V) (hg : ∀ u, u < m_n V → g u = f u) (hf : good V f) : good W g := good_c h.1 h.2.1 h.2.2.1 h.2.2.2.1 h.2.2.2.2 hg hf
theorem updN_2 {f : Nat → Nat} {v x y : Nat} : updN (updN f v x) v y = updN f v y := by
  funext u
  by_cases q : u = v
  · subst q; rw [updN_s, updN_s]
  · rw [updN_n q, updN_n q, updN_n q]
/-- v can be driven by k from where f has it -/
def lgl (V : MS) (f : Nat → Nat) (v : Nat) (sg : Int32) (k : Nat) : Prop := (sg = -1 → k ≤ f v) ∧ stp sg (f v) k + m_sz V v ≤ 6 ∧ ∀ j, j ≤ k → good V (updN f v (stp sg (f v) j))
theorem lgl_of {V X : MS} {f : Nat → Nat} {v k : Nat} {sg : Int32} (hok : m_ok X) (hf : fit V f) (hv : v < m_n V) (hX : atf V X f) (hg : good V f) (hsg : sg = 1 ∨ sg = -1) (hk : k ≤ m_wy X v (m_fw sg)) : lgl V f v sg k := by
  have hvX : v < m_n X := by rw [hX.e1]; exact hv
  have hb : ∀ j, j ≤ k → (sg = -1 → j ≤ f v) ∧ stp sg (f v) j + m_sz V v ≤ 6 := fun j hj => by
    have h := m_tr_b hok hvX hsg (Nat.le_trans hj hk)
    rw [hX.ep v hv, hX.e2] at h
    exact ⟨h.1, h.2.1⟩
  obtain ⟨c1_, c2_, c3_, c4_, -⟩ := hok.2.1 v hvX
  rw [hX.e3] at c3_
  rw [hX.e4] at c4_
  exact ⟨(hb k (Nat.le_refl _)).1, (hb k (Nat.le_refl _)).2, fun j hj => ⟨off_move hf c3_ c4_ hv hX hsg (Nat.le_trans hj hk) (hb j hj).1 (hb j hj).2 hg.1, noO_move hf c3_ c4_ hv hX hsg (Nat.le_trans hj hk) (hb j hj).1 (hb j hj).2 hg.2⟩⟩
theorem wyL_lo {X : MS} {v : Nat} {f : Int32} : ∀ d t, t ≤ m_wyL X v f d t
  | 0, t => Nat.le_refl _
  | d + 1, t => by
    rw [m_wyL]
    split
    · have := wyL_lo (X := X) (v := v) (f := f) d (t + 1); omega
    · exact Nat.le_refl _
theorem wyL_ge {X : MS} {v k : Nat} {f : Int32} (h : ∀ j, j < k → m_opn X v (m_wya X v f j)) : ∀ d t, t ≤ k → k ≤ t + d → k ≤ m_wyL X v f d t
  | 0, t, h1, h2 => by rw [m_wyL]; omega
  | d + 1, t, h1, h2 => by
    rw [m_wyL]
    by_cases q : m_opn X v (m_wya X v f t)
    · rw [if_pos q]
      rcases (show t < k ∨ t = k by omega) with z | z
      · exact wyL_ge h d (t + 1) (by omega) (by omega)
      · have := wyL_lo (X := X) (v := v) (f := f) d (t + 1); omega
    · rw [if_neg q]
      rcases (show t < k ∨ t = k by omega) with z | z
      · exact absurd (h t z) q
      · omega
theorem lgl_to {V X : MS} {f : Nat → Nat} {v k : Nat} {sg : Int32} (hac : m_ac V v ≤ 1) (hli : m_li V v < 6) (hsz : 2 ≤ m_sz V v) (hf : fit V f) (hv : v < m_n V) (hX : atf V X f) (hsg : sg = 1 ∨ sg = -1) (h : lgl V f v sg k) : k ≤ m_wy X v (m_fw sg) := by
  obtain ⟨h1, h2, h3⟩ := h
  have hfv := hf v hv
  have key : ∀ j g, j < k → g < 6 → (∀ i, i < m_sz V v → ¬ g = f v + i) → (∃ i, i < m_sz V v ∧ g = stp sg (f v) (j + 1) + i) → m_opn X v (nI g) := by
    intro j g hj hg hout hin
    obtain ⟨i, hi, hgi⟩ := hin
    have hc := m_cl_lt (a := m_ac V v) hli hg
    have hgd := h3 (j + 1) hj
    have hoc : occV V (updN f v (stp sg (f v) (j + 1))) v (m_cl (m_ac V v) (m_li V v) g) := by
      unfold occV
      rw [updN_s]
      exact ⟨i, hi, by rw [hgi]⟩
    unfold m_opn
    rw [hX.e2, hX.e3, hX.e4, hX.e5, m_cli_nI hac, nI_clamp (by omega), hX.ey _ hc]
    refine ⟨⟨nI_pos (by omega), fun q => absurd ((nI_leI (a := 6) (by omega) (by omega)).mp q) (by omega)⟩, ?_, ?_⟩
    · rintro ⟨u, hu, hcu⟩
      by_cases q : u = v
      · subst q
        obtain ⟨i2, hi2, e2⟩ := hcu
        exact hout i2 hi2 (m_cl_inj e2)
      · exact q (hgd.2 u v _ hu hv (by unfold occV; rw [updN_n q]; exact hcu) hoc)
    · by_cases z : m_sz V v = 2
      · exact Or.inl z
      · exact Or.inr (hgd.1 v hv z _ hoc)
  rcases hsg with rfl | rfl
  · rw [stp, if_pos rfl] at h2
    refine wyL_ge (fun j hj => ?_) 7 0 (Nat.zero_le _) (by omega)
    rw [m_wya, if_neg (by decide), hX.ep v hv, hX.e2]
    exact key j _ hj (by omega) (fun i hi => by omega) ⟨m_sz V v - 1, by omega, by rw [stp, if_pos rfl]; omega⟩
  · have h1 := h1 rfl
    refine wyL_ge (fun j hj => ?_) 7 0 (Nat.zero_le _) (by omega)
    rw [m_wya, if_pos (by decide), hX.ep v hv, show (1 : Int32) = nI 1 from rfl, pk_sub (by omega), pk_sub (by omega)]
    exact key j _ hj (by omega) (fun i hi => by omega) ⟨0, by omega, by rw [stp, if_neg (by decide)]; omega⟩
theorem lgl_c {V : MS} {f g : Nat → Nat} {v k : Nat} {sg : Int32} (hv : v < m_n V) (h : ∀ u, u < m_n V → g u = f u) (hl : lgl V f v sg k) : lgl V g v sg k := by
  unfold lgl
  rw [h v hv]
  refine ⟨hl.1, hl.2.1, fun j hj => good_stt (stt_rfl V) (fun u hu => ?_) (hl.2.2 j hj)⟩
  by_cases q : u = v
  · subst q; rw [updN_s, updN_s]
  · rw [updN_n q, updN_n q, h u hu]
theorem stp_back {sg : Int32} {a s j : Nat} (hsg : sg = 1 ∨ sg = -1) (h : sg = -1 → s ≤ a) (hj : j ≤ s) : stp (-sg) (stp sg a s) j = stp sg a (s - j) := by
  rcases hsg with rfl | rfl
  · unfold stp
    rw [if_neg (by decide), if_pos rfl, if_pos rfl]; omega
  · have := h rfl
    unfold stp
    rw [if_pos (by decide), if_neg (by decide), if_neg (by decide)]; omega
theorem stp_0 (sg : Int32) (a : Nat) : stp sg a 0 = a := by
  unfold stp; split <;> omega
theorem neg_sg {sg : Int32} (h : sg = 1 ∨ sg = -1) : -sg = 1 ∨ -sg = -1 := by
  rcases h with rfl | rfl
  · exact Or.inr rfl
  · exact Or.inl rfl
/-- what was driven can be driven back -/
theorem lgl_rev {V : MS} {f : Nat → Nat} {v s : Nat} {sg : Int32} (hsg : sg = 1 ∨ sg = -1) (h0 : f v + m_sz V v ≤ 6) (h : lgl V f v sg s) : lgl V (updN f v (stp sg (f v) s)) v (-sg) s := by
  unfold lgl
  rw [updN_s]
  refine ⟨fun q => ?_, ?_, fun j hj => ?_⟩
  · rcases hsg with rfl | rfl
    · rw [stp, if_pos rfl]; omega
    · exact absurd q (by decide)
  · rw [stp_back hsg h.1 (Nat.le_refl _), Nat.sub_self, stp_0]; exact h0
  · rw [updN_2, stp_back hsg h.1 hj]
    exact h.2.2 _ (by omega)
/-! positions as numbers -/
def dgf (p : Nat) : Nat → Nat := fun v => dgN p v
def vtx (V : MS) (p : Nat) : Prop := fit V (dgf p) ∧ p = ps (m_n V) (dgf p) ∧ good V (dgf p)
def edg (V : MS) (p q : Nat) : Prop := ∃ (v : Nat) (sg : Int32) (k : Nat), v < m_n V ∧ (sg = 1 ∨ sg = -1) ∧ 1 ≤ k ∧ lgl V (dgf p) v sg k ∧ q = ps (m_n V) (updN (dgf p) v (stp sg (dgf p v) k))
theorem edg_stt {W V : MS} {p q : Nat} (h : stt W V) (e : edg W p q) : edg V p q := by
  obtain ⟨h1, h2, h3, h4, h5⟩ := h
  unfold edg lgl good offR noO occV at e ⊢
  rw [h1, h2, h3, h4, h5] at e
  exact e
theorem upd_fit {V : MS} {f : Nat → Nat} {v x : Nat} (hf : fit V f) (hx : x + m_sz V v ≤ 6) : fit V (updN f v x) := fun u hu => by
  by_cases q : u = v
  · subst q; rw [updN_s]; exact hx
  · rw [updN_n q]; exact hf u hu
theorem dgf_ps {V : MS} {f : Nat → Nat} (hok : m_ok V) (hf : fit V f) : ∀ u, u < m_n V → dgf (ps (m_n V) f) u = f u := fun u hu => ps_dg _ (fitm6 hok hf) hu
theorem vtx_ps {V : MS} {f : Nat → Nat} (hok : m_ok V) (hf : fit V f) (hg : good V f) : vtx V (ps (m_n V) f) :=
  ⟨fun u hu => by rw [dgf_ps hok hf u hu]; exact hf u hu, (ps_ext _ (dgf_ps hok hf)).symm, good_stt (stt_rfl V) (dgf_ps hok hf) hg⟩
theorem edg_vtx {V : MS} {p q : Nat} (hok : m_ok V) (hp : vtx V p) (e : edg V p q) : vtx V q := by
  obtain ⟨v, sg, k, hv, hsg, hk, hl, rfl⟩ := e
  exact vtx_ps hok (upd_fit hp.1 hl.2.1) (hl.2.2 k (Nat.le_refl _))
theorem edg_sym {V : MS} {p q : Nat} (hok : m_ok V) (hp : vtx V p) (e : edg V p q) : edg V q p := by
  obtain ⟨v, sg, k, hv, hsg, hk, hl, rfl⟩ := e
  have hd := dgf_ps hok (upd_fit hp.1 hl.2.1)
  refine ⟨v, -sg, k, hv, neg_sg hsg, hk, lgl_c hv hd (lgl_rev hsg (hp.1 v hv) hl), ?_⟩
  rw [hd v hv, updN_s, stp_back hsg hl.1 (Nat.le_refl _), Nat.sub_self, stp_0]
  refine hp.2.1.trans (ps_ext _ (fun u hu => ?_))
  by_cases z : u = v
  · subst z; rw [updN_s]
  · rw [updN_n z, hd u hu, updN_n z]
def pth (V : MS) : Nat → Nat → Nat → Prop
  | 0, p, q => p = q
  | L + 1, p, q => ∃ r, edg V p r ∧ pth V L r q
theorem pth_snoc {V : MS} {r q : Nat} (e : edg V q r) : ∀ L p, pth V L p q → pth V (L + 1) p r
  | 0, p, h => by
    have h : p = q := h
    subst h
    exact ⟨r, e, rfl⟩
  | L + 1, p, h => by
    obtain ⟨x, h1, h2⟩ := h
    exact ⟨x, h1, pth_snoc e L x h2⟩
theorem pth_app {V : MS} {r q K : Nat} (e : pth V K q r) : ∀ L p, pth V L p q → pth V (L + K) p r
  | 0, p, h => by
    have h : p = q := h
    subst h
    rw [Nat.zero_add]; exact e
  | L + 1, p, h => by
    obtain ⟨x, h1, h2⟩ := h
    rw [show L + 1 + K = (L + K) + 1 by omega]
    exact ⟨x, h1, pth_app e L x h2⟩
theorem pth_sym {V : MS} {q : Nat} (hok : m_ok V) : ∀ L p, vtx V p → pth V L p q → pth V L q p
  | 0, p, _, h => Eq.symm (show p = q from h)
  | L + 1, p, hp, h => by
    obtain ⟨x, h1, h2⟩ := h
    exact pth_snoc (edg_sym hok hp h1) L q (pth_sym hok L x (edg_vtx hok hp h1) h2)
/-! what a search has found -/
def sv (V : MS) (p : Nat) : Prop := 0 < m_n V ∧ dgf p 0 = 4
def bZ (V W : MS) : Prop := (∀ i, i < m_fm W → vtx V (m_fo W i)) ∧
  (∀ i j, i < j → j < m_fm W → ¬ m_fo W i = m_fo W j) ∧
  (∀ i j, i ≤ j → j < m_fm W → m_dp W i ≤ m_dp W j) ∧
  (∀ i, i < m_fm W → (i = 0 ∧ m_dp W i = 0) ∨ ∃ j, j < i ∧ edg V (m_fo W j) (m_fo W i) ∧ m_dp W i = m_dp W j + 1) ∧
  ((m_ff W = -1 ∧ ∀ i, i < m_fm W → ¬ sv V (m_fo W i)) ∨ ∃ j, j < m_fm W ∧ m_ff W = nI j ∧ sv V (m_fo W j) ∧ ∀ i, i < j → ¬ sv V (m_fo W i))
def bI (V W : MS) : Prop := stt W V ∧ look_ok W ∧ tab (m_sl W) (fun i => m_fo W i % 2048) (m_fm W) ∧ bZ V W
def has (W : MS) (p d : Nat) : Prop := ∃ j, j < m_fm W ∧ m_fo W j = p ∧ m_dp W j ≤ d
def gd (W U : MS) : Prop := grow W U ∧ ∀ j, j < m_fm U → m_dp W j = m_dp U j
theorem gd_rfl (W : MS) : gd W W := ⟨grow_rfl W, fun _ _ => rfl⟩
theorem gd_tr {W V U : MS} (h : gd W V) (g : gd V U) : gd W U := ⟨grow_tr h.1 g.1, fun j hj => (h.2 j (Nat.lt_of_lt_of_le hj g.1.2.2.1)).trans (g.2 j hj)⟩
theorem gd_pl (W : MS) (g : Nat → Nat) : gd (m_wPl W g) W := ⟨grow_pl W g, fun _ _ => rfl⟩
theorem gd_le {W U : MS} (h : gd W U) : m_fm U ≤ m_fm W := h.1.2.2.1
theorem has_gd {W U : MS} {p d : Nat} (h : gd W U) (q : has U p d) : has W p d := by
  obtain ⟨j, h1, h2, h3⟩ := q
  exact ⟨j, Nat.lt_of_lt_of_le h1 (gd_le h), (h.1.2.2.2 j h1).trans h2, by rw [h.2 j h1]; exact h3⟩
theorem has_le {W : MS} {p d e : Nat} (h : d ≤ e) (q : has W p d) : has W p e := by
  obtain ⟨j, h1, h2, h3⟩ := q
  exact ⟨j, h1, h2, Nat.le_trans h3 h⟩
theorem bI_pl {V W : MS} {v x : Nat} (h : bI V W) (hx : x + m_sz V v ≤ 6) : bI V (m_wPl W (updN (m_pl W) v x)) :=
  ⟨h.1, look_ok_pl h.2.1 (by rw [h.1.2.1]; exact hx), h.2.2.1, h.2.2.2⟩
set_option maxHeartbeats 1000000 in
theorem bI_takes {V W : MS} {o : Int32} {x D : Nat} (h : bI V W) (hvt : vtx V (pnow W)) (hn : (m_fm W = 0 ∧ o = -1 ∧ D = 0) ∨ ∃ k, k < m_fm W ∧ o = nI k ∧ edg V (m_fo W k) (pnow W) ∧ D = m_dp W k + 1) (hD : ∀ i, i < m_fm W → m_dp W i ≤ D) :
    bI V (m_takes W o x) ∧ gd (m_takes W o x) W ∧ (∀ i, i < m_fm (m_takes W o x) → m_dp (m_takes W o x) i ≤ D) ∧ (m_fm (m_takes W o x) < 800 → has (m_takes W o x) (pnow W) D) := by
  have hl2 := look_ok_takes (o := o) (x := x) h.2.1
  have hgr := grow_takes W o x
  obtain ⟨a1, a2, a3, a4, a5, a6, a7, a8⟩ := h
  have hok := a2.1
  have h8 : m_fm W ≤ 800 := a3.1
  have tst := tk_stop (p := pnow W) (s := pnow W % 2048) a3 2048 0 rfl (fun u hu => absurd hu (Nat.not_lt_zero _))
  rw [show (pnow W % 2048 + 0) % 2048 = pnow W % 2048 by omega, show tkL W (pnow W) 2048 (pnow W % 2048) = tk_slot W from rfl] at tst
  have e2 := stop_free a3 (fun i _ hk => by show m_fo W i % 2048 = pnow W % 2048; rw [hk]) tst
  unfold m_takes at hl2 hgr ⊢
  by_cases hin : m_sl W (tk_slot W) = 0 ∧ m_fm W < 800
  · rw [if_pos hin] at hl2 hgr ⊢
    have hnew := e2.mp hin.1
    have htk : tk_d W o = D := by
      rcases hn with ⟨-, rfl, rfl⟩ | ⟨k, hk, rfl, -, rfl⟩
      · rfl
      · rw [tk_d, if_pos (nI_pos' (by omega)), nI_clamp (by omega)]
    have hdg : ∀ u, u < m_n V → dgf (pnow W) u = m_pl W u := fun u hu => pnow_dg hok (by rw [a1.1]; exact hu)
    have hF : ∀ i, i < m_fm W → updN (m_fo W) (m_fm W) (pnow W) i = m_fo W i := fun i hi => updN_n (by omega)
    have hE : ∀ i, i < m_fm W → updN (m_dp W) (m_fm W) (tk_d W o) i = m_dp W i := fun i hi => updN_n (by omega)
    have hfree : sv V (pnow W) ↔ m_free W := by
      unfold sv
      rw [← a1.1]
      constructor
      · rintro ⟨z1, z2⟩; exact ⟨z1, by rw [← hdg 0 (by rw [← a1.1]; exact z1)]; exact z2⟩
      · rintro ⟨z1, z2⟩; exact ⟨z1, by rw [hdg 0 (by rw [← a1.1]; exact z1)]; exact z2⟩
    refine ⟨⟨a1, hl2, ?_, ?_, ?_, ?_, ?_, ?_⟩, ⟨hgr, hE⟩, ?_, fun _ => ?_⟩
    · show tab (updN (m_sl W) (tk_slot W) (m_fm W + 1)) (fun i => updN (m_fo W) (m_fm W) (pnow W) i % 2048) (m_fm W + 1)
      refine tab_add a3 hin.2 tst hin.1 (fun i hi => ?_) ?_
      · show updN (m_fo W) (m_fm W) (pnow W) i % 2048 = m_fo W i % 2048
        rw [hF i hi]
      · show updN (m_fo W) (m_fm W) (pnow W) (m_fm W) % 2048 = pnow W % 2048
        rw [updN_s]
    · intro i hi
      have hi : i < m_fm W + 1 := hi
      show vtx V (updN (m_fo W) (m_fm W) (pnow W) i)
      rcases (show i < m_fm W ∨ i = m_fm W by omega) with q | q
      · rw [hF i q]; exact a4 i q
      · rw [q, updN_s]; exact hvt
    · intro i j hij hj
      have hj : j < m_fm W + 1 := hj
      show ¬ updN (m_fo W) (m_fm W) (pnow W) i = updN (m_fo W) (m_fm W) (pnow W) j
      rw [hF i (by omega)]
      rcases (show j < m_fm W ∨ j = m_fm W by omega) with q | q
      · rw [hF j q]; exact a5 i j hij q
      · rw [q, updN_s]; exact hnew i (by omega)
    · intro i j hij hj
      have hj : j < m_fm W + 1 := hj
      show updN (m_dp W) (m_fm W) (tk_d W o) i ≤ updN (m_dp W) (m_fm W) (tk_d W o) j
      rcases (show j < m_fm W ∨ j = m_fm W by omega) with q | q
      · rw [hE j q, hE i (by omega)]; exact a6 i j hij q
      · rw [q, updN_s, htk]
        rcases (show i < m_fm W ∨ i = m_fm W by omega) with w | w
        · rw [← htk, hE i w, htk]; exact hD i w
        · rw [w, ← htk, updN_s]; exact Nat.le_refl _
    · intro i hi
      have hi : i < m_fm W + 1 := hi
      show (i = 0 ∧ updN (m_dp W) (m_fm W) (tk_d W o) i = 0) ∨ ∃ j, j < i ∧ edg V (updN (m_fo W) (m_fm W) (pnow W) j) (updN (m_fo W) (m_fm W) (pnow W) i) ∧ updN (m_dp W) (m_fm W) (tk_d W o) i = updN (m_dp W) (m_fm W) (tk_d W o) j + 1
      rcases (show i < m_fm W ∨ i = m_fm W by omega) with q | q
      · rw [hE i q, hF i q]
        rcases a7 i q with z | ⟨j, z1, z2, z3⟩
        · exact Or.inl z
        · exact Or.inr ⟨j, z1, by rw [hF j (by omega)]; exact z2, by rw [hE j (by omega)]; exact z3⟩
      · rw [q, updN_s, updN_s]
        rcases hn with ⟨z1, z2, z3⟩ | ⟨k, z1, z2, z3, z4⟩
        · exact Or.inl ⟨z1, by rw [htk]; exact z3⟩
        · exact Or.inr ⟨k, z1, by rw [hF k z1]; exact z3, by rw [hE k z1, htk]; exact z4⟩
    · show (tk_f W = -1 ∧ ∀ i, i < m_fm W + 1 → ¬ sv V (updN (m_fo W) (m_fm W) (pnow W) i)) ∨ ∃ j, j < m_fm W + 1 ∧ tk_f W = nI j ∧ sv V (updN (m_fo W) (m_fm W) (pnow W) j) ∧ ∀ i, i < j → ¬ sv V (updN (m_fo W) (m_fm W) (pnow W) i)
      unfold tk_f
      rcases a8 with ⟨z1, z2⟩ | ⟨j, z1, z2, z3, z4⟩
      · by_cases q : m_free W
        · rw [if_pos ⟨by rw [z1]; decide, q⟩]
          exact Or.inr ⟨m_fm W, Nat.lt_succ_self _, rfl, by rw [updN_s]; exact hfree.mpr q, fun i hi => by rw [hF i hi]; exact z2 i hi⟩
        · rw [if_neg (fun z => q z.2)]
          refine Or.inl ⟨z1, fun i hi => ?_⟩
          rcases (show i < m_fm W ∨ i = m_fm W by omega) with w | w
          · rw [hF i w]; exact z2 i w
          · rw [w, updN_s]; exact fun z => q (hfree.mp z)
      · rw [if_neg (fun z => z.1 (by rw [z2]; exact nI_pos' (by omega)))]
        exact Or.inr ⟨j, by omega, z2, by rw [hF j z1]; exact z3, fun i hi => by rw [hF i (by omega)]; exact z4 i hi⟩
    · intro i hi
      have hi : i < m_fm W + 1 := hi
      show updN (m_dp W) (m_fm W) (tk_d W o) i ≤ D
      rcases (show i < m_fm W ∨ i = m_fm W by omega) with q | q
      · rw [hE i q]; exact hD i q
      · rw [q, updN_s, htk]; exact Nat.le_refl _
    · refine ⟨m_fm W, Nat.lt_succ_self _, ?_, ?_⟩
      · show updN (m_fo W) (m_fm W) (pnow W) (m_fm W) = pnow W
        exact updN_s
      · show updN (m_dp W) (m_fm W) (tk_d W o) (m_fm W) ≤ D
        rw [updN_s, htk]; exact Nat.le_refl _
  · rw [if_neg hin] at hl2 hgr ⊢
    refine ⟨⟨a1, a2, a3, a4, a5, a6, a7, a8⟩, gd_rfl W, hD, fun h800 => ?_⟩
    by_cases hex : ∃ i, i < m_fm W ∧ m_fo W i = pnow W
    · obtain ⟨i, hi, e⟩ := hex
      exact ⟨i, hi, e, hD i hi⟩
    · exact absurd ⟨e2.mpr (fun i hi q => hex ⟨i, hi, q⟩), h800⟩ hin
/-- looking on from the found position k, whose number is p0: vehicle v may stand elsewhere -/
def aJ (V : MS) (k p0 D : Nat) (yd : Nat → Nat) (v : Nat) (W : MS) : Prop := bI V W ∧ k < m_fm W ∧ m_fo W k = p0 ∧ m_dp W k = D ∧ (∀ i, i < m_fm W → m_dp W i ≤ D + 1) ∧ m_yd W = yd ∧ ∀ u, u < m_n V → ¬ u = v → m_pl W u = dgf p0 u
def aI (V : MS) (k p0 D : Nat) (yd : Nat → Nat) (W : MS) : Prop := bI V W ∧ k < m_fm W ∧ m_fo W k = p0 ∧ m_dp W k = D ∧ (∀ i, i < m_fm W → m_dp W i ≤ D + 1) ∧ m_yd W = yd ∧ ∀ u, u < m_n V → m_pl W u = dgf p0 u
abbrev goes (V : MS) (p v : Nat) (sg : Int32) (s : Nat) : Nat := ps (m_n V) (updN (dgf p) v (stp sg (dgf p v) s))
theorem trL_b {V : MS} {k p0 D v most : Nat} {sg : Int32} {yd : Nat → Nat} (hok : m_ok V) (hvt : vtx V p0) (hv : v < m_n V) (hsg : sg = 1 ∨ sg = -1) (hl : ∀ t, t ≤ most → lgl V (dgf p0) v sg t) (hm : most ≤ 4) :
    ∀ d t W, 1 ≤ t → t + d = 9 → aJ V k p0 D yd v W → aJ V k p0 D yd v (trL k v sg (dgf p0 v) most d t W) ∧ gd (trL k v sg (dgf p0 v) most d t W) W ∧
      (m_fm (trL k v sg (dgf p0 v) most d t W) < 800 → ∀ s, t ≤ s → s ≤ most → has (trL k v sg (dgf p0 v) most d t W) (goes V p0 v sg s) (D + 1))
  | 0, t, W, h1, h2, h => ⟨h, gd_rfl W, fun _ s hs1 hs2 => by omega⟩
  | d + 1, t, W, h1, h2, h => by
    rw [trL]
    by_cases q : t ≤ most
    · rw [if_pos q]
      obtain ⟨c1, c2, c3, c4, c5, c6, c7⟩ := h
      have hlt := hl t q
      have hb1 := bI_pl (v := v) c1 hlt.2.1
      have epn : pnow (m_wPl W (updN (m_pl W) v (stp sg (dgf p0 v) t))) = goes V p0 v sg t := by
        show ps (m_n W) (updN (m_pl W) v (stp sg (dgf p0 v) t)) = _
        rw [c1.1.1]
        refine ps_ext _ (fun u hu => ?_)
        by_cases z : u = v
        · subst z; rw [updN_s, updN_s]
        · rw [updN_n z, updN_n z, c7 u hu z]
      have ht := bI_takes (o := nI k) (x := cdN v sg t) (D := D + 1) hb1 (by rw [epn]; exact vtx_ps hok (upd_fit hvt.1 hlt.2.1) (hlt.2.2 t (Nat.le_refl _)))
        (Or.inr ⟨k, c2, rfl, by rw [epn]; show edg V (m_fo W k) _; rw [c3]; exact ⟨v, sg, t, hv, hsg, h1, hlt, rfl⟩, by show D + 1 = m_dp W k + 1; rw [c4]⟩) c5
      rw [epn] at ht
      have hpl := m_takes_pl (m_wPl W (updN (m_pl W) v (stp sg (dgf p0 v) t))) (nI k) (cdN v sg t)
      generalize m_takes (m_wPl W (updN (m_pl W) v (stp sg (dgf p0 v) t))) (nI k) (cdN v sg t) = W2 at ht hpl ⊢
      obtain ⟨t1, t2, t3, t4⟩ := ht
      have t2 : gd W2 W := gd_tr t2 (gd_pl W _)
      have hA : aJ V k p0 D yd v W2 := ⟨t1, Nat.lt_of_lt_of_le c2 (gd_le t2), (t2.1.2.2.2 k c2).trans c3, (t2.2 k c2).trans c4, t3, t2.1.2.1.trans c6, fun u hu z => by
        rw [hpl]
        show updN (m_pl W) v (stp sg (dgf p0 v) t) u = dgf p0 u
        rw [updN_n z]; exact c7 u hu z⟩
      obtain ⟨i1, i2, i3⟩ := trL_b hok hvt hv hsg hl hm d (t + 1) W2 (by omega) (by omega) hA
      refine ⟨i1, gd_tr i2 t2, fun h8 s hs1 hs2 => ?_⟩
      rcases (show s = t ∨ t + 1 ≤ s by omega) with z | z
      · rw [z]; exact has_gd i2 (t4 (Nat.lt_of_le_of_lt (gd_le i2) h8))
      · exact i3 h8 s z hs2
    · rw [if_neg q]
      exact ⟨h, gd_rfl W, fun _ s hs1 hs2 => by omega⟩
theorem tries_b {V W : MS} {k p0 D v : Nat} {sg : Int32} {yd : Nat → Nat} (hok : m_ok V) (hvt : vtx V p0) (hyd : ∀ c, c < 36 → (yd c = 0 ↔ ¬ ∃ u, u < m_n V ∧ occV V (dgf p0) u c)) (hv : v < m_n V) (hsg : sg = 1 ∨ sg = -1) (h : aI V k p0 D yd W) :
    aI V k p0 D yd (m_tries W k v sg) ∧ gd (m_tries W k v sg) W ∧ (m_fm (m_tries W k v sg) < 800 → ∀ s, 1 ≤ s → lgl V (dgf p0) v sg s → has (m_tries W k v sg) (goes V p0 v sg s) (D + 1)) := by
  obtain ⟨c1, c2, c3, c4, c5, c6, c7⟩ := h
  have hX : atf V W (dgf p0) := ⟨c1.1.1, c1.1.2.1, c1.1.2.2.1, c1.1.2.2.2.1, c1.1.2.2.2.2, c7, fun c hc => by rw [c6]; exact hyd c hc⟩
  have hokW := c1.2.1.1
  obtain ⟨b1_, b2_, b3_, b4_, b5_, b6_⟩ := hok.2.1 v hv
  have hm : m_wy W v (m_fw sg) ≤ 4 := (m_tr_b hokW (show v < m_n W by rw [c1.1.1]; exact hv) hsg (Nat.le_refl _)).2.2
  have ht := trL_b (k := k) (D := D) (yd := yd) hok hvt hv hsg (fun t ht => lgl_of hokW hvt.1 hv hX hvt.2.2 hsg (k := t) ht) hm 8 1 W (Nat.le_refl _) rfl ⟨c1, c2, c3, c4, c5, c6, fun u hu _ => c7 u hu⟩
  have e : m_tries W k v sg = m_wPl (trL k v sg (dgf p0 v) (m_wy W v (m_fw sg)) 8 1 W) (updN (m_pl (trL k v sg (dgf p0 v) (m_wy W v (m_fw sg)) 8 1 W)) v (dgf p0 v)) := by
    rw [m_tries, c7 v hv]
  rw [e]
  generalize trL k v sg (dgf p0 v) (m_wy W v (m_fw sg)) 8 1 W = Z at ht ⊢
  obtain ⟨⟨z1, z2, z3, z4, z5, z6, z7⟩, t2, t3⟩ := ht
  refine ⟨⟨bI_pl z1 (hvt.1 v hv), z2, z3, z4, z5, z6, fun u hu => ?_⟩, gd_tr (gd_pl Z _) t2, fun h8 s hs1 hs2 => ?_⟩
  · show updN (m_pl Z) v (dgf p0 v) u = dgf p0 u
    by_cases z : u = v
    · subst z; exact updN_s
    · rw [updN_n z]; exact z7 u hu z
  · exact has_gd (gd_pl Z _) (t3 h8 s hs1 (lgl_to b3_ b4_ b1_ hvt.1 hv hX hsg hs2))
theorem vL_b {V : MS} {k p0 D : Nat} {yd : Nat → Nat} (hok : m_ok V) (hvt : vtx V p0) (hyd : ∀ c, c < 36 → (yd c = 0 ↔ ¬ ∃ u, u < m_n V ∧ occV V (dgf p0) u c)) :
    ∀ d v W, v + d = m_n V → aI V k p0 D yd W → aI V k p0 D yd (lk_vL k d v W) ∧ gd (lk_vL k d v W) W ∧
      (m_fm (lk_vL k d v W) < 800 → ∀ w, v ≤ w → w < m_n V → ∀ sg s, (sg = 1 ∨ sg = -1) → 1 ≤ s → lgl V (dgf p0) w sg s → has (lk_vL k d v W) (goes V p0 w sg s) (D + 1))
  | 0, v, W, hd, h => ⟨h, gd_rfl W, fun _ w h1 h2 => by omega⟩
  | d + 1, v, W, hd, h => by
    rw [lk_vL]
    obtain ⟨a1, a2, a3⟩ := tries_b (v := v) hok hvt hyd (by omega) (Or.inr rfl) h
    generalize m_tries W k v (-1) = W1 at a1 a2 a3 ⊢
    obtain ⟨b1_, b2_, b3_⟩ := tries_b (v := v) hok hvt hyd (by omega) (Or.inl rfl) a1
    generalize m_tries W1 k v 1 = W2 at b1_ b2_ b3_ ⊢
    obtain ⟨c1, c2, c3⟩ := vL_b hok hvt hyd d (v + 1) W2 (by omega) b1_
    refine ⟨c1, gd_tr c2 (gd_tr b2_ a2), fun h8 w hw1 hw2 sg s hsg hs hl => ?_⟩
    rcases (show w = v ∨ v + 1 ≤ w by omega) with z | z
    · subst z
      have h82 : m_fm W2 < 800 := Nat.lt_of_le_of_lt (gd_le c2) h8
      rcases hsg with rfl | rfl
      · exact has_gd c2 (b3_ h82 s hs hl)
      · exact has_gd (gd_tr c2 b2_) (a3 (Nat.lt_of_le_of_lt (gd_le b2_) h82) s hs hl)
    · exact c3 h8 w z hw2 sg s hsg hs hl
/-- what a search has found stays found -/
def gf (W U : MS) : Prop := m_fm U ≤ m_fm W ∧ ∀ j, j < m_fm U → m_fo W j = m_fo U j ∧ m_dp W j = m_dp U j
theorem gf_rfl (W : MS) : gf W W := ⟨Nat.le_refl _, fun _ _ => ⟨rfl, rfl⟩⟩
theorem gf_tr {W V U : MS} (h : gf W V) (g : gf V U) : gf W U := ⟨Nat.le_trans g.1 h.1, fun j hj => ⟨(h.2 j (Nat.lt_of_lt_of_le hj g.1)).1.trans (g.2 j hj).1, (h.2 j (Nat.lt_of_lt_of_le hj g.1)).2.trans (g.2 j hj).2⟩⟩
theorem gd_gf {W U : MS} (h : gd W U) : gf W U := ⟨gd_le h, fun j hj => ⟨h.1.2.2.2 j hj, h.2 j hj⟩⟩
theorem has_gf {W U : MS} {p d : Nat} (h : gf W U) (q : has U p d) : has W p d := by
  obtain ⟨j, h1, h2, h3⟩ := q
  exact ⟨j, Nat.lt_of_lt_of_le h1 h.1, (h.2 j h1).1.trans h2, by rw [(h.2 j h1).2]; exact h3⟩
theorem one_b {V W : MS} {k : Nat} (hok : m_ok V) (h : bI V W) (hk : k < m_fm W) (hD : ∀ i, i < m_fm W → m_dp W i ≤ m_dp W k + 1) :
    bI V (lk_one W k) ∧ gf (lk_one W k) W ∧ (∀ i, i < m_fm (lk_one W k) → m_dp (lk_one W k) i ≤ m_dp W k + 1) ∧ (m_fm (lk_one W k) < 800 → ∀ q, edg V (m_fo W k) q → has (lk_one W k) q (m_dp W k + 1)) := by
  have hl2 := look_ok_lay h.2.1 hk
  have hn : m_n W = m_n V := h.1.1
  have hlay := atf_lay (W := W) (k := k)
  have hA : aI V k (m_fo W k) (m_dp W k) (m_yd (lk_lay W k)) (lk_lay W k) := by
    refine ⟨⟨h.1, hl2, h.2.2.1, h.2.2.2⟩, hk, rfl, rfl, hD, rfl, fun u hu => ?_⟩
    exact hlay.ep u (show u < m_n W by rw [hn]; exact hu)
  have hyd : ∀ c, c < 36 → (m_yd (lk_lay W k) c = 0 ↔ ¬ ∃ u, u < m_n V ∧ occV V (dgf (m_fo W k)) u c) := fun c hc => by
    have h9 := hlay.ey c hc
    obtain ⟨s1, s2, s3, s4, s5⟩ := h.1
    have e : (∃ u, u < m_n (lk_lay W k) ∧ occV (lk_lay W k) (lk_g W k) u c) ↔ ∃ u, u < m_n V ∧ occV V (dgf (m_fo W k)) u c := by
      unfold occV
      show (∃ u, u < m_n W ∧ occ (m_ac W u) (m_li W u) (lk_g W k u) (m_sz W u) c) ↔ _
      rw [s1, s2, s3, s4]
      exact Iff.rfl
    rw [h9, e]
  have hvt := h.2.2.2.1 k hk
  obtain ⟨c1, c2, c3⟩ := vL_b hok hvt hyd (m_n V) 0 (lk_lay W k) (Nat.zero_add _) hA
  have e : lk_one W k = lk_vL k (m_n V) 0 (lk_lay W k) := by rw [lk_one, hn]
  rw [← e] at c1 c2 c3
  have hgo : gf (lk_one W k) W := ⟨(show m_fm (lk_lay W k) ≤ m_fm (lk_one W k) from gd_le c2), fun j hj => ⟨c2.1.2.2.2 j hj, c2.2 j hj⟩⟩
  obtain ⟨d1, d2, d3, d4, d5, d6, d7⟩ := c1
  refine ⟨d1, hgo, d5, fun h8 q hq => ?_⟩
  obtain ⟨v, sg, s, z1, z2, z3, z4, rfl⟩ := hq
  exact c3 h8 v (Nat.zero_le _) z1 sg s z2 z3 z4
/-- all that can be driven to from the found ones before t is found -/
def clo (V W : MS) (t : Nat) : Prop := m_fm W < 800 → ∀ i, i < t → ∀ q, edg V (m_fo W i) q → has W q (m_dp W i + 1)
theorem lkL_b {V : MS} (hok : m_ok V) : ∀ d k W, k + d = 800 → bI V W → k ≤ m_fm W → (k < m_fm W → ∀ i, i < m_fm W → m_dp W i ≤ m_dp W k + 1) → clo V W k → bI V (lkL d k W) ∧ gf (lkL d k W) W ∧ clo V (lkL d k W) (m_fm (lkL d k W))
  | 0, k, W, hd, h, h1, h2, h3 => ⟨h, gf_rfl W, fun h8 => absurd (show m_fm (lkL 0 k W) < 800 from h8) (by show ¬ m_fm W < 800; omega)⟩
  | d + 1, k, W, hd, h, h1, h2, h3 => by
    rw [lkL]
    by_cases q : k < m_fm W ∧ m_fm W < 800
    · rw [if_pos q]
      obtain ⟨o1, o2, o3, o4⟩ := one_b hok h q.1 (h2 q.1)
      generalize lk_one W k = Z at o1 o2 o3 o4 ⊢
      have hmono := o1.2.2.2.2.2.1
      have hk := o2.2 k q.1
      obtain ⟨i1, i2, i3⟩ := lkL_b hok d (k + 1) Z (by omega) o1 (by have := o2.1; omega) (fun hk2 i hi => by
        have hA := o3 i hi
        have hB := hmono k (k + 1) (Nat.le_succ k) hk2
        rw [hk.2] at hB
        omega) (fun h8 i hi r he => by
        have hiW : i < m_fm W := by omega
        have hg := o2.2 i hiW
        rw [hg.1] at he
        rw [hg.2]
        rcases (show i < k ∨ i = k by omega) with z | z
        · exact has_gf o2 (h3 (Nat.lt_of_le_of_lt o2.1 h8) i z r he)
        · subst z; exact o4 h8 r he)
      exact ⟨i1, gf_tr i2 o2, i3⟩
    · rw [if_neg q]
      refine ⟨h, gf_rfl W, fun h8 i hi => ?_⟩
      exact h3 h8 i (by omega)
/-- THE SEARCH: what it finds, as positions that can be driven to -/
theorem look_b {M : MS} (hok : m_ok M) (hg : good M (m_pl M)) : bZ M (m_look M) ∧ 0 < m_fm (m_look M) ∧ m_fm (m_look M) ≤ 800 ∧ m_fo (m_look M) 0 = pnow M ∧ clo M (m_look M) (m_fm (m_look M)) := by
  have hb0 : bI M (m_w0 M) := by
    refine ⟨stt_rfl M, look_ok_w0 hok, tab_0 (fun j hj => ?_), fun i hi => absurd hi (Nat.not_lt_zero _), fun i j _ hj => absurd hj (Nat.not_lt_zero _), fun i j _ hj => absurd hj (Nat.not_lt_zero _), fun i hi => absurd hi (Nat.not_lt_zero _), Or.inl ⟨rfl, fun i hi => absurd hi (Nat.not_lt_zero _)⟩⟩
    show fillN (m_sl M) 2048 j = 0
    rw [fillN, if_pos hj]
  have hvt : vtx M (pnow (m_w0 M)) := vtx_ps hok (pl_fit hok) hg
  obtain ⟨t1, t2, t3, t4⟩ := bI_takes (o := -1) (x := 0) (D := 0) hb0 hvt (Or.inl ⟨rfl, rfl, rfl⟩) (fun i hi => absurd hi (Nat.not_lt_zero _))
  obtain ⟨r1, r2⟩ := takes_root M
  have hlk : m_look M = m_fin (lkL 800 0 (m_takes (m_w0 M) (-1) 0)) := rfl
  rw [hlk]
  generalize m_takes (m_w0 M) (-1) 0 = W at t1 t2 t3 t4 r1 r2 ⊢
  obtain ⟨i1, i2, i3⟩ := lkL_b hok 800 0 W rfl t1 (Nat.zero_le _) (fun _ i hi => by have := t3 i hi; omega) (fun _ i hi => absurd hi (Nat.not_lt_zero _))
  generalize lkL 800 0 W = Z at i1 i2 i3 ⊢
  refine ⟨i1.2.2.2, ?_, i1.2.2.1.1, ?_, i3⟩
  · show 0 < m_fm Z
    have := i2.1; omega
  · show m_fo Z 0 = pnow M
    rw [(i2.2 0 (by omega)).1, r2]
