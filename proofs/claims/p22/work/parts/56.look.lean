/-! PURE: looking further from each found position: both in the same order -/
theorem grow_lk {W V : MS} (h : grow W V) {j : Nat} (hj : j < m_fm V) : lk_g W j = lk_g V j := by
  funext u
  show dgN (m_fo W j) u = dgN (m_fo V j) u
  rw [h.2.2.2 j hj]
theorem mv_nI {n v k : Nat} {f : Nat → Nat} {sg : Int32} (hn : n ≤ 9) (hv : v < n) (hsg : sg = 1 ∨ sg = -1) (hb : sg = -1 → k ≤ f v) : mv (nI (p8 n f)) (nI v) (sg * nI k) = nI (p8 n (updN f v (stp sg (f v) k))) := by
  rcases hsg with rfl | rfl
  · rw [Int32.one_mul, mv_up hn hv, stp, if_pos rfl]
  · rw [Int32.neg_mul, Int32.one_mul, mv_dn hn hv (hb rfl), stp, if_neg (by decide)]
theorem code_nI {v k : Nat} {sg : Int32} (hsg : sg = 1 ∨ sg = -1) (hk : k ≤ 4) : m_code (nI v) (sg * nI k) = nI (cdN v sg k) := by
  unfold m_code
  rw [show (10 : Int32) * nI v = nI (10 * v) from pk_mul 10 v]
  exact cdN_nI hsg hk
theorem sim_trL {o v most : Nat} {sg : Int32} {f : Nat → Nat} {V : MS} (hsg : sg = 1 ∨ sg = -1) (hm : most ≤ 4) (hv : v < m_n V) (hb : ∀ k, k ≤ most → (sg = -1 → k ≤ f v) ∧ stp sg (f v) k + m_sz V v ≤ 6) (hoff : ∀ k, k ≤ most → good V (updN f v (stp sg (f v) k))) :
    ∀ d k S W, k + d = 5 → 1 ≤ k → sim S W → look_ok W → sfr W V → o < m_fm W → (∀ u, u < m_n V → lk_g W o u = f u) → (∀ u, u < m_n V → ¬ u = v → m_pl W u = f u) →
      sim (s_drvL (nI o) (nI v) sg (nI most) d k S) (trL o v sg (f v) most (9 - k) k W)
  | 0, k, S, W, hk, h1, hs, hl, hc, ho, hlo, hpl => by
    rw [s_drvL, trL_out (by omega)]; exact hs
  | d + 1, k, S, W, hk, h1, hs, hl, hc, ho, hlo, hpl => by
    have h8 : m_fm W ≤ 800 := hs.2.2.1.1
    have h9 := hl.1.1
    have hn : m_n W = m_n V := hc.1
    have hz : m_sz W = m_sz V := hc.2.1
    have ek : (nI k ≤ nI most ∧ nI k ≤ 4) ↔ k ≤ most := by
      constructor
      · rintro ⟨q, -⟩; exact (nI_leI (by omega) (by omega)).mp q
      · intro q; exact ⟨(nI_leI (by omega) (by omega)).mpr q, (nI_leI (b := 4) (by omega) (by omega)).mpr (by omega)⟩
    rw [s_drvL]
    by_cases q : k ≤ most
    · rw [if_pos (ek.mpr q), trL_in (by omega) q]
      obtain ⟨hb1, hb2⟩ := hb k q
      obtain ⟨f1, f2, -⟩ := hs.2.2.2.1 o ho
      have hlov : lk_g W o v = f v := hlo v hv
      have hl2 : look_ok (m_wPl W (updN (m_pl W) v (stp sg (f v) k))) := look_ok_pl hl (by rw [hz]; exact hb2)
      have hpl2 : ∀ u, u < m_n W → m_pl (m_wPl W (updN (m_pl W) v (stp sg (f v) k))) u = updN (lk_g W o) v (stp sg (lk_g W o v) k) u := fun u hu => by
        show updN (m_pl W) v (stp sg (f v) k) u = _
        by_cases z : u = v
        · subst z; rw [updN_s, updN_s, hlov]
        · rw [updN_n z, updN_n z, hpl u (by omega) z, hlo u (by omega)]
      have hx : mv (s_fo S (nI o).toNatClampNeg) (nI v) (sg * nI k) = nI (p8 (m_n W) (m_pl (m_wPl W (updN (m_pl W) v (stp sg (f v) k))))) := by
        rw [nI_clamp (by omega), f2, mv_nI h9 (by omega) hsg (by rw [hlov]; exact hb1), p8_ext (m_n W) hpl2]
      have hof2 : good (m_wPl W (updN (m_pl W) v (stp sg (f v) k))) (m_pl (m_wPl W (updN (m_pl W) v (stp sg (f v) k)))) := by
        refine good_c (M := V) hc.1 hc.2.1 hc.2.2.1 hc.2.2.2.1 hc.2.2.2.2.1 (fun u hu => ?_) (hoff k q)
        show updN (m_pl W) v (stp sg (f v) k) u = updN f v (stp sg (f v) k) u
        by_cases z : u = v
        · subst z; rw [updN_s, updN_s]
        · rw [updN_n z, updN_n z, hpl u hu z]
      have hnew : newE (m_wPl W (updN (m_pl W) v (stp sg (f v) k))) (nI o) (m_code (nI v) (sg * nI k)) (nI o) (cdN v sg k) :=
        ⟨code_nI hsg (by omega), Or.inr ⟨o, v, sg, k, ho, by rw [← hn] at hv; exact hv, hsg, h1, by omega, (show sg = -1 → k ≤ lk_g W o v by rw [hlov]; exact hb1), rfl, rfl, rfl, hpl2⟩⟩
      have hs2 : sim S (m_wPl W (updN (m_pl W) v (stp sg (f v) k))) := hs
      have hs3 := sim_takes hs2 hl2 hx hof2 hnew
      have hg := grow_tr (grow_takes (m_wPl W (updN (m_pl W) v (stp sg (f v) k))) (nI o) (cdN v sg k)) (grow_pl W _)
      refine sim_trL hsg hm hv hb hoff d (k + 1) _ _ (by omega) (by omega) hs3 (look_ok_takes hl2) (sfr_tr hg.1 hc) (by have := hg.2.2.1; omega) (fun u hu => ?_) (fun u hu hne => ?_)
      · rw [grow_lk hg ho]; exact hlo u hu
      · rw [m_takes_pl]
        show updN (m_pl W) v (stp sg (f v) k) u = f u
        rw [updN_n hne]; exact hpl u hu hne
    · rw [if_neg (fun z => q (ek.mp z)), trL_out q]; exact hs
/-- what holds while looking on from the found position o with the places f -/
def lkI (V : MS) (o : Nat) (f : Nat → Nat) (S : SS) (W : MS) : Prop := sim S W ∧ look_ok W ∧ sfr W V ∧ m_yd W = m_yd V ∧ o < m_fm W ∧ (∀ u, u < m_n V → lk_g W o u = f u) ∧ (∀ u, u < m_n V → m_pl W u = f u)
theorem sim_pl {S : SS} {W : MS} (g : Nat → Nat) (h : sim S W) : sim S (m_wPl W g) := h
theorem sim_tries {o v : Nat} {sg : Int32} {f : Nat → Nat} {V W : MS} {S : SS} (hsg : sg = 1 ∨ sg = -1) (hv : v < m_n V) (hok : m_ok V) (hfit : fit V f) (hlay : atf V V f) (ho : good V f) (h : lkI V o f S W) :
    m_wy W v (m_fw sg) = m_wy V v (m_fw sg) ∧ lkI V o f (s_drv S (nI o) (nI v) sg (nI (m_wy V v (m_fw sg)))) (m_tries W o v sg) ∧ grow (m_tries W o v sg) W := by
  obtain ⟨hs, hl, hc, hyd, hof, hlo, hpl⟩ := h
  have hpv := hpl v hv
  have h8 : m_fm W ≤ 800 := hs.2.2.1.1
  have hn : m_n W = m_n V := hc.1
  have hz : m_sz W = m_sz V := hc.2.1
  have ha : m_ac W = m_ac V := hc.2.2.1
  have hli : m_li W = m_li V := hc.2.2.2.1
  have hrp : m_rp W = m_rp V := hc.2.2.2.2.1
  have hwl : ∀ d k, m_wyL W v (m_fw sg) d k = m_wyL V v (m_fw sg) d k := by
    intro d
    induction d with
    | zero => intro k; rfl
    | succ d ih =>
      intro k
      have e : m_opn W v (m_wya W v (m_fw sg) k) ↔ m_opn V v (m_wya V v (m_fw sg) k) := by
        unfold m_opn m_wya
        rw [hyd, hz, ha, hli, hrp, hpv, hlay.ep v hv]
      rw [m_wyL, m_wyL, ih]
      by_cases q : m_opn V v (m_wya V v (m_fw sg) k)
      · rw [if_pos q, if_pos (e.mpr q)]
      · rw [if_neg q, if_neg (fun z => q (e.mp z))]
  have hw : m_wy W v (m_fw sg) = m_wy V v (m_fw sg) := hwl 7 0
  obtain ⟨b1_, b2_, b3_, b4_, b5_, b6_⟩ := hok.2.1 v hv
  have hb : ∀ k, k ≤ m_wy V v (m_fw sg) → (sg = -1 → k ≤ f v) ∧ stp sg (f v) k + m_sz V v ≤ 6 := fun k hk => by
    have := m_tr_b hok hv hsg hk
    rw [hlay.ep v hv] at this
    exact ⟨this.1, this.2.1⟩
  have hm : m_wy V v (m_fw sg) ≤ 4 := (m_tr_b hok hv hsg (Nat.le_refl _)).2.2
  have hoff : ∀ k, k ≤ m_wy V v (m_fw sg) → good V (updN f v (stp sg (f v) k)) := fun k hk => ⟨off_move hfit b3_ b4_ hv hlay hsg hk (hb k hk).1 (hb k hk).2 ho.1, noO_move hfit b3_ b4_ hv hlay hsg hk (hb k hk).1 (hb k hk).2 ho.2⟩
  have h1 := sim_trL hsg hm hv hb hoff 4 1 S W rfl (Nat.le_refl _) hs hl hc hof hlo (fun u hu _ => hpl u hu)
  have h2 := look_ok_tries (o := o) (v := v) (sg := sg) hl (by rw [hn]; exact hv) hsg
  have h3 := trL_grow (o := o) (v := v) (sg := sg) (st := m_pl W v) (most := m_wy W v (m_fw sg)) 8 1 W
  have h4 : grow (m_tries W o v sg) W := by
    rw [m_tries]
    exact grow_tr (grow_pl _ _) h3.1
  refine ⟨hw, ⟨?_, h2.1, sfr_tr h4.1 hc, h4.2.1.trans hyd, by have := h4.2.2.1; omega, fun u hu => ?_, fun u hu => ?_⟩, h4⟩
  · have hisF : s_isF S (nI o) := by
      refine ⟨nI_pos (by omega), ?_, ?_⟩
      · rw [hs.1]; exact fun q => absurd ((nI_leI (by omega) (by omega)).mp q) (by omega)
      · exact fun q => absurd ((nI_leI (a := 800) (by omega) (by omega)).mp q) (by omega)
    rw [show (9 : Nat) - 1 = 8 from rfl] at h1
    have e1 : s_drv S (nI o) (nI v) sg (nI (m_wy V v (m_fw sg))) = s_drvL (nI o) (nI v) sg (nI (m_wy V v (m_fw sg))) 4 1 S := by
      rw [s_drv, if_pos hisF]
    have e2 : m_tries W o v sg = m_wPl (trL o v sg (f v) (m_wy V v (m_fw sg)) 8 1 W) (updN (m_pl (trL o v sg (f v) (m_wy V v (m_fw sg)) 8 1 W)) v (f v)) := by
      rw [m_tries, hw, hpv]
    rw [e1, e2]
    exact sim_pl _ h1
  · rw [grow_lk h4 hof]; exact hlo u hu
  · rw [m_tries]
    generalize trL o v sg (m_pl W v) (m_wy W v (m_fw sg)) 8 1 W = Z at h3 ⊢
    show updN (m_pl Z) v (m_pl W v) u = f u
    by_cases z : u = v
    · subst z; rw [updN_s]; exact hpv
    · rw [updN_n z, h3.2 u z]; exact hpl u hu
theorem sim_vL {Y : YS} {o : Nat} {f : Nat → Nat} {V : MS} (hy : yr Y V) (hr : rr Y V) (hok : m_ok V) (hfit : fit V f) (hlay : atf V V f) (ho : good V f) :
    ∀ d v S W, v + d = m_n V → lkI V o f S W → lkI V o f (s_reachL Y (nI o) (nI (p8 (m_n V) f)) (y_fil Y (nI (p8 (m_n V) f)) (m_n V)) d v S) (lk_vL o d v W) ∧ grow (lk_vL o d v W) W
  | 0, v, S, W, _, h => ⟨h, grow_rfl W⟩
  | d + 1, v, S, W, hd, h => by
    have hw := way_ok (v := v) hy hr hfit (by omega) hlay ho.1
    rw [s_reachL, lk_vL, hw.1, hw.2]
    obtain ⟨-, h1, g1⟩ := sim_tries (v := v) (sg := -1) (Or.inr rfl) (by omega) hok hfit hlay ho h
    rw [show m_fw (-1) = 0 from rfl] at h1
    obtain ⟨-, h2, g2⟩ := sim_tries (v := v) (sg := 1) (Or.inl rfl) (by omega) hok hfit hlay ho h1
    rw [show m_fw 1 = 1 from rfl] at h2
    have h3 := sim_vL hy hr hok hfit hlay ho d (v + 1) _ _ (by omega) h2
    exact ⟨h3.1, grow_tr h3.2 (grow_tr g2 g1)⟩
