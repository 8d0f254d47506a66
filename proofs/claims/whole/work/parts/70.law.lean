/-! THE CLAIM OUT OF ONE WALK OF THE LAW'S BODY. Your part is whole_start (and what it stands on); all else here is the same for every law, but numbers. -/
def R_law : String := "RampJamLaw"
def lw_P (b : Addr) (xs : List Int32) (args : Array Value) (s : State) : Prop := args = #[.ref b] ∧ s.IntsAt b xs ∧ xs.length ≤ 2560 ∧ (Jvm.Cond.and given_1 narrow_1).before args s = true
def lw_Q (_ : Array Value) (s : State) (o : Outcome) (t : State) : Prop := o = .returned (some (.int 1)) ∧ Framed s o t [] 1067 18165
def lw_Z (below : List Frame) (a : Array Value) (s : State) : State → Prop := fun t => ∃ o, t.status = .running ∧ Ended t below o ∧ lw_Q a s o t
/-- the law's own end, with 1 on the stack, nothing written that was there before, its room as the claim has it -/
theorem lw_ret {p : Program} {l : Launch} {e : Env} {s : State} {m : MethodId} {below : List Frame} {meth : Method} {c : Code} {b : Nat} (hx : p.tables.exec = Jvm.exec) (hb : c.code = code) (hr : meth.sig.returnType = ret) (hlocks : meth.locks = false) {pc : Nat} {H : Heap} {ls : Array Slot} (hdg : decode code pc = .ok (.ireturn, 1)) : W p l e room_1 s m #[Value.ref b] below meth c H [] 1067 18165 (lw_Z below #[Value.ref b] s) (F0 m pc ls [.int 1]) := by
  intro T hT X
  obtain ⟨fs, hret, hrun, hended, hW, hframe⟩ := X.leave (v := some (.int 1)) (hlocks := hlocks) (fun h => by rw [hr] at h; cases h)
  have hmeth' : T.vm.method? m = some meth := X.method'
  refine ⟨T.setFrames fs, ?_, .returned (some (.int 1)), hrun, hended, rfl, ⟨_, rfl⟩, hW, hframe⟩
  jvm_step X.here [X.here.top, hx, hb, hdg, hmeth', hr, ret, narrow_b1]
  (try refine ⟨rfl, ?_⟩); (try refine ⟨rfl, ?_⟩)
  first | (intro acts; rw [hret _ acts rfl rfl rfl]) | rw [hret _ _ rfl rfl rfl]
  exact Steps.refl _
/-- what holds at the law's entry: the machine, the code, the tables' words (any of lw_tbl by 'hts w (by decide +kernel)'), the script of L ints xs at the cell b, what the Statement gives of the start (any of its parts by flat_of_before) -/
def lw_At (p : Program) (s : State) (m : MethodId) (meth : Method) (c : Code) (b L : Nat) (xs : Nat → Int32) : Prop :=
  p.tables.exec = Jvm.exec ∧ c.code = code ∧ meth.sig.returnType = ret ∧ c.maxLocals = 7 ∧ s.vm.findClass R_law = some m.cls ∧ (∀ w ∈ lw_tbl, w.before #[Value.ref b] s = true) ∧ va_X b L xs s s.heap ∧ b < s.heap.size ∧ meth.locks = false ∧ (Jvm.Cond.and given_1 narrow_1).before #[Value.ref b] s = true
/-! THE LAW: its world, and a call of either side in it -/
abbrev wA (cI cZ cJ : ClassId) (a : Nat → Nat) (q_g : Nat) (b : Nat → Nat) (u : WS) (M : MS) : va_W := wW cI cZ cJ a q_g u ++ wM cI b M
abbrev lw_A (s : State) : Nat → Prop := fun q => s.heap.size ≤ q
theorem nI_z3 {n : Nat} (h : n ≤ 3) (hz : nI n = 0) : n = 0 := (nI_eq (a := n) (b := 0) (by omega) (by omega)).mp hz
theorem ws_fst {P : Prop} [Decidable P] {X1 X : XS} {o1 o : Nat → Int64} {u : WS} (h : (if P then (X1, o1) else (X, o)) = u) : u.1 = (if P then X1 else X) := by
  rw [← h]; split <;> rfl
theorem ws_out {P : Prop} [Decidable P] {X1 X : XS} {o1 o : Nat → Int64} {u : WS} (h : (if P then (X1, o1) else (X, o)) = u) (hp : P) : u.2 = o1 := by
  rw [← h, if_pos hp]
theorem lw_ge {L k : Nat} (hL : L ≤ 2560) (hk : 5 * k ≤ 2560) : nI L - 5 < nI (5 * k) ↔ L < 5 * k + 5 := by
  have e1 : (nI L).toInt = L := nI_toInt (by omega)
  have e5 : (5 : Int32).toInt = 5 := rfl
  have e2 := i_sub e1 e5 (by omega) (by omega) (by omega) (by omega)
  rw [Int32.lt_iff_toInt_lt, e2, nI_toInt (by omega)]
  omega
section LwRow
variable {p : Program} {l : Launch} {e : Env} {R : Room} {s : State} {m : MethodId} {args : Array Value} {below : List Frame} {meth : Method} {c : Code} {H : Heap} {locs : List Loc} {cells slots mc ms : Nat} {Q : State → Prop}
variable {A0 : Nat → Prop} {H0 : Heap} {pc : Nat} {ls : Array Slot} {st0 rest : List Value} {D : va_G} {ws wc wr ws' : va_W} {av : Array Value} {cI cZ cJ : ClassId} {a bb : Nat → Nat} {q_g : Nat}
theorem lr_i {S : Type} {g : Int32} {f : S} {w : S → va_W} (hr : va_Run p l e R s m args below meth c H locs cells slots mc ms (F0 m pc ls st0) rest (rw_Qi g f w D wc H.size av) (va_A wc H.size)) (hS : va_S A0 H0 H locs) (hA : ∀ q, H0.size ≤ q → A0 q) (hP : va_P D vwCl ws H) (hD : va_D A0 ws)
    (isC isR perm : List Nat) (hC : isC.map (fun i => ws[i]?) = wc.map some) (hR : isR.map (fun i => ws[i]?) = wr.map some) (hn : va_nd isR = true) (hdis : ∀ i ∈ isR, i ∉ isC) (hperm : perm.map (fun i => (wr ++ w f)[i]?) = ws'.map some) (hpn : va_nd perm = true)
    (kk : ∀ (H1 : Heap) (locs1 : List Loc), va_P D vwCl ws' H1 → va_D A0 ws' → va_S A0 H0 H1 locs1 → W p l e R s m args below meth c H1 locs1 (cells + mc) (slots + ms) Q (F0 m (pc + 3) ls (.int g :: rest))) : W p l e R s m args below meth c H locs cells slots Q (F0 m pc ls st0) := by
  have hF := va_free (wc := wc) hD hS hA isC hC
  refine va_calli hr hS (fun q _ h => hF q h) hF (fun r u t H1 locs1 ht hvm hp hb hz hk hS1 => ?_)
  obtain ⟨rfl, rfl⟩ := hp
  obtain ⟨hP1, hD1⟩ := hb
  rw [ht] at hP1
  obtain ⟨hP2, hD2⟩ := va_join (wr := wr) hP hD isC isR hC hR hn hdis hk hF hP1 hD1
  exact kk H1 locs1 (hP2.subm perm hperm) (hD2.sub perm hpn hperm) hS1
theorem lr_v {S : Type} {f : S} {w : S → va_W} (hr : va_Run p l e R s m args below meth c H locs cells slots mc ms (F0 m pc ls st0) rest (rw_Qv f w D wc H.size av) (va_A wc H.size)) (hS : va_S A0 H0 H locs) (hA : ∀ q, H0.size ≤ q → A0 q) (hP : va_P D vwCl ws H) (hD : va_D A0 ws)
    (isC isR perm : List Nat) (hC : isC.map (fun i => ws[i]?) = wc.map some) (hR : isR.map (fun i => ws[i]?) = wr.map some) (hn : va_nd isR = true) (hdis : ∀ i ∈ isR, i ∉ isC) (hperm : perm.map (fun i => (wr ++ w f)[i]?) = ws'.map some) (hpn : va_nd perm = true)
    (kk : ∀ (H1 : Heap) (locs1 : List Loc), va_P D vwCl ws' H1 → va_D A0 ws' → va_S A0 H0 H1 locs1 → W p l e R s m args below meth c H1 locs1 (cells + mc) (slots + ms) Q (F0 m (pc + 3) ls rest)) : W p l e R s m args below meth c H locs cells slots Q (F0 m pc ls st0) := by
  have hF := va_free (wc := wc) hD hS hA isC hC
  refine va_callv hr hS (fun q _ h => hF q h) hF (fun u t H1 locs1 ht hvm hp hb hz hk hS1 => ?_)
  subst hp
  obtain ⟨hP1, hD1⟩ := hb
  rw [ht] at hP1
  obtain ⟨hP2, hD2⟩ := va_join (wr := wr) hP hD isC isR hC hR hn hdis hk hF hP1 hD1
  exact kk H1 locs1 (hP2.subm perm hperm) (hD2.sub perm hpn hperm) hS1
/-- a call of one of the law's own methods -/
theorem lc_W {u0 : WS} {M : MS} {g : Int32} {f : WS} (hr : va_Run p l e R s m args below meth c H locs cells slots mc ms (F0 m pc ls st0) rest (rw_Qi (S := WS) g f (fun u : WS => wW cI cZ cJ a q_g u) D (wW cI cZ cJ a q_g u0) H.size av) (va_A (wW cI cZ cJ a q_g u0) H.size)) (hS : va_S A0 H0 H locs) (hA : ∀ q, H0.size ≤ q → A0 q) (hP : va_P D vwCl (wA cI cZ cJ a q_g bb u0 M) H) (hD : va_D A0 (wA cI cZ cJ a q_g bb u0 M))
    (kk : ∀ (t : Int32) (u : WS) (H1 : Heap) (locs1 : List Loc), g = t → f = u → va_P D vwCl (wA cI cZ cJ a q_g bb u M) H1 → va_D A0 (wA cI cZ cJ a q_g bb u M) → va_S A0 H0 H1 locs1 → W p l e R s m args below meth c H1 locs1 (cells + mc) (slots + ms) Q (F0 m (pc + 3) ls (.int t :: rest))) : W p l e R s m args below meth c H locs cells slots Q (F0 m pc ls st0) :=
  lr_i (wr := wM cI bb M) (ws' := wA cI cZ cJ a q_g bb f M) hr hS hA hP hD [0, 1, 2, 3, 4, 5, 6, 7, 8, 9, 10, 11] [12, 13, 14, 15, 16, 17, 18, 19, 20, 21, 22, 23, 24] [13, 14, 15, 16, 17, 18, 19, 20, 21, 22, 23, 24, 0, 1, 2, 3, 4, 5, 6, 7, 8, 9, 10, 11, 12] rfl rfl (by decide) (by decide) rfl (by decide) (fun H1 locs1 h1 h2 h3 => kk g f H1 locs1 rfl rfl h1 h2 h3)
/-- a call of the reference -/
theorem lc_Mi {u0 : WS} {M : MS} {g : Int32} {f : MS} (hr : va_Run p l e R s m args below meth c H locs cells slots mc ms (F0 m pc ls st0) rest (rw_Qi (S := MS) g f (fun u : MS => wM cI bb u) D (wM cI bb M) H.size av) (va_A (wM cI bb M) H.size)) (hS : va_S A0 H0 H locs) (hA : ∀ q, H0.size ≤ q → A0 q) (hP : va_P D vwCl (wA cI cZ cJ a q_g bb u0 M) H) (hD : va_D A0 (wA cI cZ cJ a q_g bb u0 M))
    (kk : ∀ (t : Int32) (N : MS) (H1 : Heap) (locs1 : List Loc), g = t → f = N → va_P D vwCl (wA cI cZ cJ a q_g bb u0 N) H1 → va_D A0 (wA cI cZ cJ a q_g bb u0 N) → va_S A0 H0 H1 locs1 → W p l e R s m args below meth c H1 locs1 (cells + mc) (slots + ms) Q (F0 m (pc + 3) ls (.int t :: rest))) : W p l e R s m args below meth c H locs cells slots Q (F0 m pc ls st0) :=
  lr_i (wr := wW cI cZ cJ a q_g u0) (ws' := wA cI cZ cJ a q_g bb u0 f) hr hS hA hP hD [12, 13, 14, 15, 16, 17, 18, 19, 20, 21, 22, 23, 24] [0, 1, 2, 3, 4, 5, 6, 7, 8, 9, 10, 11] [0, 1, 2, 3, 4, 5, 6, 7, 8, 9, 10, 11, 12, 13, 14, 15, 16, 17, 18, 19, 20, 21, 22, 23, 24] rfl rfl (by decide) (by decide) rfl (by decide) (fun H1 locs1 h1 h2 h3 => kk g f H1 locs1 rfl rfl h1 h2 h3)
theorem lc_Mv {u0 : WS} {M : MS} {f : MS} (hr : va_Run p l e R s m args below meth c H locs cells slots mc ms (F0 m pc ls st0) rest (rw_Qv (S := MS) f (fun u : MS => wM cI bb u) D (wM cI bb M) H.size av) (va_A (wM cI bb M) H.size)) (hS : va_S A0 H0 H locs) (hA : ∀ q, H0.size ≤ q → A0 q) (hP : va_P D vwCl (wA cI cZ cJ a q_g bb u0 M) H) (hD : va_D A0 (wA cI cZ cJ a q_g bb u0 M))
    (kk : ∀ (N : MS) (H1 : Heap) (locs1 : List Loc), f = N → va_P D vwCl (wA cI cZ cJ a q_g bb u0 N) H1 → va_D A0 (wA cI cZ cJ a q_g bb u0 N) → va_S A0 H0 H1 locs1 → W p l e R s m args below meth c H1 locs1 (cells + mc) (slots + ms) Q (F0 m (pc + 3) ls rest)) : W p l e R s m args below meth c H locs cells slots Q (F0 m pc ls st0) :=
  lr_v (wr := wW cI cZ cJ a q_g u0) (ws' := wA cI cZ cJ a q_g bb u0 f) hr hS hA hP hD [12, 13, 14, 15, 16, 17, 18, 19, 20, 21, 22, 23, 24] [0, 1, 2, 3, 4, 5, 6, 7, 8, 9, 10, 11] [0, 1, 2, 3, 4, 5, 6, 7, 8, 9, 10, 11, 12, 13, 14, 15, 16, 17, 18, 19, 20, 21, 22, 23, 24] rfl rfl (by decide) (by decide) rfl (by decide) (fun H1 locs1 h1 h2 h3 => kk f H1 locs1 rfl h1 h2 h3)
/-- a call of the class that doesn't throw -/
theorem lc_Ji {X : XS} {o : Nat → Int64} {M : MS} {g : Int32} {f : XS} (hr : va_Run p l e R s m args below meth c H locs cells slots mc ms (F0 m pc ls st0) rest (rw_Qi (S := XS) g f (fun u : XS => wJ cI cZ cJ a (x_J u) (x_S u) (x_Y u)) D (wJ cI cZ cJ a (x_J X) (x_S X) (x_Y X)) H.size av) (va_A (wJ cI cZ cJ a (x_J X) (x_S X) (x_Y X)) H.size)) (hS : va_S A0 H0 H locs) (hA : ∀ q, H0.size ≤ q → A0 q) (hP : va_P D vwCl (wA cI cZ cJ a q_g bb (X, o) M) H) (hD : va_D A0 (wA cI cZ cJ a q_g bb (X, o) M))
    (kk : ∀ (t : Int32) (X1 : XS) (H1 : Heap) (locs1 : List Loc), g = t → f = X1 → va_P D vwCl (wA cI cZ cJ a q_g bb (X1, o) M) H1 → va_D A0 (wA cI cZ cJ a q_g bb (X1, o) M) → va_S A0 H0 H1 locs1 → W p l e R s m args below meth c H1 locs1 (cells + mc) (slots + ms) Q (F0 m (pc + 3) ls (.int t :: rest))) : W p l e R s m args below meth c H locs cells slots Q (F0 m pc ls st0) :=
  lr_i (wr := (q_g, .inl (cJ, 1, .inr (.inl o))) :: wM cI bb M) (ws' := wA cI cZ cJ a q_g bb (f, o) M) hr hS hA hP hD [0, 1, 2, 3, 4, 5, 6, 7, 8, 9, 10] [11, 12, 13, 14, 15, 16, 17, 18, 19, 20, 21, 22, 23, 24] [14, 15, 16, 17, 18, 19, 20, 21, 22, 23, 24, 0, 1, 2, 3, 4, 5, 6, 7, 8, 9, 10, 11, 12, 13] rfl rfl (by decide) (by decide) rfl (by decide) (fun H1 locs1 h1 h2 h3 => kk g f H1 locs1 rfl rfl h1 h2 h3)
theorem lc_Jv {X : XS} {o : Nat → Int64} {M : MS} {f : XS} (hr : va_Run p l e R s m args below meth c H locs cells slots mc ms (F0 m pc ls st0) rest (rw_Qv (S := XS) f (fun u : XS => wJ cI cZ cJ a (x_J u) (x_S u) (x_Y u)) D (wJ cI cZ cJ a (x_J X) (x_S X) (x_Y X)) H.size av) (va_A (wJ cI cZ cJ a (x_J X) (x_S X) (x_Y X)) H.size)) (hS : va_S A0 H0 H locs) (hA : ∀ q, H0.size ≤ q → A0 q) (hP : va_P D vwCl (wA cI cZ cJ a q_g bb (X, o) M) H) (hD : va_D A0 (wA cI cZ cJ a q_g bb (X, o) M))
    (kk : ∀ (X1 : XS) (H1 : Heap) (locs1 : List Loc), f = X1 → va_P D vwCl (wA cI cZ cJ a q_g bb (X1, o) M) H1 → va_D A0 (wA cI cZ cJ a q_g bb (X1, o) M) → va_S A0 H0 H1 locs1 → W p l e R s m args below meth c H1 locs1 (cells + mc) (slots + ms) Q (F0 m (pc + 3) ls rest)) : W p l e R s m args below meth c H locs cells slots Q (F0 m pc ls st0) :=
  lr_v (wr := (q_g, .inl (cJ, 1, .inr (.inl o))) :: wM cI bb M) (ws' := wA cI cZ cJ a q_g bb (f, o) M) hr hS hA hP hD [0, 1, 2, 3, 4, 5, 6, 7, 8, 9, 10] [11, 12, 13, 14, 15, 16, 17, 18, 19, 20, 21, 22, 23, 24] [14, 15, 16, 17, 18, 19, 20, 21, 22, 23, 24, 0, 1, 2, 3, 4, 5, 6, 7, 8, 9, 10, 11, 12, 13] rfl rfl (by decide) (by decide) rfl (by decide) (fun H1 locs1 h1 h2 h3 => kk f H1 locs1 rfl h1 h2 h3)
/-- reading the script at the place 5 k + j -/
theorem lw_rd {b L k j : Nat} {z : Int} {xs : Nat → Int32} (hx : p.tables.exec = Jvm.exec) (hb : c.code = cL_law) (hX : va_X b L xs s s.heap) (hbl : b < s.heap.size) (hS : va_S (lw_A s) s.heap H locs) (h0 : ls[0]? = some (.val (.ref b))) (h4 : ls[4]? = some (.val (.int (nI (5 * k))))) (hj : Int32.ofInt z = nI j) (hin : 5 * k + j < L) (hL : L ≤ 2560)
    (d0 : decode cL_law pc = .ok (.aload_n 0, 1)) (d1 : decode cL_law (pc + 1) = .ok (.iload 4, 2)) (d3 : decode cL_law (pc + 3) = .ok (.iconst z, 1)) (d4 : decode cL_law (pc + 4) = .ok (.iadd, 1)) (d5 : decode cL_law (pc + 5) = .ok (.iaload, 1))
    (kk : W p l e R s m args below meth c H locs cells slots Q (F0 m (pc + 6) ls (.int (xs (5 * k + j)) :: rest))) : W p l e R s m args below meth c H locs cells slots Q (F0 m pc ls rest) := by
  refine lv_aload_n hx hb d0 rfl h0 ?_
  refine lv_iload hx hb d1 h4 ?_
  refine lv_iconst (v := nI j) hx hb d3 hj ?_
  refine lv_iadd hx hb d4 ?_
  rw [nI_add]
  refine va_sld hx hb hX hbl (Nat.not_le.mpr hbl) hS (vp_in_nI hin (by omega)) d5 ?_
  rw [nI_clamp (by omega)]
  exact kk
/-- whether a number isn't 0 -/
theorem lw_bz {x z : Int32} (hx : p.tables.exec = Jvm.exec) (hb : c.code = cL_law) (hz : (if x = 0 then (0 : Int32) else 1) = z) (d0 : decode cL_law pc = .ok (.ifCond .eq 7, 3)) (d3 : decode cL_law (pc + 3) = .ok (.iconst 1, 1)) (d4 : decode cL_law (pc + 4) = .ok (.goto 4, 3)) (d7 : decode cL_law (pc + 7) = .ok (.iconst 0, 1))
    (kk : W p l e R s m args below meth c H locs cells slots Q (F0 m (pc + 8) ls (.int z :: rest))) : W p l e R s m args below meth c H locs cells slots Q (F0 m pc ls (.int x :: rest)) := by
  refine lv_if_eq (tgt := pc + 7) hx hb d0 (by omega) (fun q => ?_) (fun q => ?_)
  · rw [if_pos q] at hz
    refine lv_iconst (v := z) hx hb d7 (by rw [← hz]; rfl) ?_
    exact kk
  · rw [if_neg q] at hz
    refine lv_iconst (v := z) hx hb d3 (by rw [← hz]; rfl) ?_
    refine lv_goto (tgt := pc + 8) hx hb d4 (by omega) ?_
    exact kk
end LwRow
theorem bz_01 {x z : Int32} (hz : (if x = 0 then (0 : Int32) else 1) = z) : z = 0 ∨ z = 1 := by
  rw [← hz]; split
  · exact Or.inl rfl
  · exact Or.inr rfl
section LwTail
variable {p : Program} {l : Launch} {e : Env} {s : State} {m : MethodId} {args : Array Value} {below : List Frame} {meth : Method} {c : Code} {H : Heap} {locs : List Loc} {cells slots : Nat} {Q : State → Prop}
variable {pc : Nat} {ls : Array Slot} {rest : List Value} {G : va_G} {cI cZ cJ : ClassId} {a bb : Nat → Nat} {q_g b : Nat} {u : WS} {M : MS} {off : Int} {t r i4 : Int32}
set_option maxHeartbeats 1000000 in
/-- the reference's thrown() -/
theorem lw_th (hx : p.tables.exec = Jvm.exec) (hb : c.code = cL_law) (hml : c.maxLocals = 7) (hown : s.vm.findClass RL = some m.cls) (hts : ∀ w ∈ wsL_law, w.before args s = true) (hK : va_K G vwCl [(cI, .int), (cZ, .boolean), (cJ, .long)] s) (hN : nx_Ok s) (hS : va_S (lw_A s) s.heap H locs) (hP : va_P G vwCl (wA cI cZ cJ a q_g bb u M) H) (hlz : ls.size = 7) (h2 : ls[2]? = some (.val (.ref (bb 0)))) (hce : cells ≤ 1067) (hsl : slots ≤ 18165)
    (d0 : decode cL_law pc = .ok (.aload_n 2, 1)) (d1 : decode cL_law (pc + 1) = .ok (.invokevirtual 58, 3))
    (kk : ∀ (H : Heap) (locs : List Loc), va_P G vwCl (wA cI cZ cJ a q_g bb u M) H → va_S (lw_A s) s.heap H locs → W p l e room_1 s m args below meth c H locs cells slots Q (F0 m (pc + 4) ls [.int (m_th M)])) : W p l e room_1 s m args below meth c H locs cells slots Q (F0 m pc ls []) := by
  refine lv_aload_n hx hb d0 rfl h2 ?_
  have hPm := hP.sub (ws' := wM cI bb M) [12, 13, 14, 15, 16, 17, 18, 19, 20, 21, 22, 23, 24] rfl
  exact ro_i (va_runV (As := []) (rest := []) ⟨hx, hb, hml, hown, hts⟩ (c_X3_thrown l G cI cZ cJ bb _ M) (cwV 0 hts gL_law_X3_thrown rfl rfl rfl (by decide +kernel) ⟨Nat.le_of_ble_eq_true rfl, Nat.le_of_ble_eq_true rfl⟩) ⟨ro_blind, va_recv hK hPm (ci := 3) (q0 := 0) rfl rfl, ro_pre hPm hK hN⟩ rfl rfl hlz rfl (lv_room (Nat.le_of_ble_eq_true rfl)) d1 ⟨hce, hsl⟩) hS (fun _ h9 => h9) hP (fun H1 locs1 hP1 hS1 => kk H1 locs1 hP1 hS1)
/-- behind a call that answers nothing: the same was thrown -/
theorem lw_tv (hx : p.tables.exec = Jvm.exec) (hb : c.code = cL_law) (h5 : ls[5]? = some (.val (.int t))) (hth : m_th M = t)
    (d4 : decode cL_law pc = .ok (.iload 5, 2)) (d6 : decode cL_law (pc + 2) = .ok (.if_icmp .eq 5, 3))
    (kk : W p l e room_1 s m args below meth c H locs cells slots Q (F0 m (pc + 7) ls [])) : W p l e room_1 s m args below meth c H locs cells slots Q (F0 m pc ls [.int (m_th M)]) := by
  refine lv_iload hx hb d4 h5 ?_
  refine lv_icmp_eq (tgt := pc + 7) hx hb d6 (by omega) (fun _ => kk) (fun q => absurd hth q)
/-- behind a call that answers a number: the same was thrown, and, if nothing was, the same answered -/
theorem lw_to (hx : p.tables.exec = Jvm.exec) (hb : c.code = cL_law) (hK : va_K G vwCl [(cI, .int), (cZ, .boolean), (cJ, .long)] s) (hP : va_P G vwCl (wA cI cZ cJ a q_g bb u M) H) (h3 : ls[3]? = some (.val (.ref q_g))) (h5 : ls[5]? = some (.val (.int t))) (h6 : ls[6]? = some (.val (.int r))) (hv : t = 0 → u.2 0 = r.toInt64)
    (d0 : decode cL_law pc = .ok (.iload 5, 2)) (d2 : decode cL_law (pc + 2) = .ok (.ifCond .ne 15, 3)) (d5 : decode cL_law (pc + 5) = .ok (.aload_n 3, 1)) (d6 : decode cL_law (pc + 6) = .ok (.iconst 0, 1)) (d7 : decode cL_law (pc + 7) = .ok (.laload, 1)) (d8 : decode cL_law (pc + 8) = .ok (.iload 6, 2)) (d10 : decode cL_law (pc + 10) = .ok (.i2l, 1)) (d11 : decode cL_law (pc + 11) = .ok (.lcmp, 1)) (d12 : decode cL_law (pc + 12) = .ok (.ifCond .eq 5, 3)) (d17 : decode cL_law (pc + 17) = .ok (.goto off, 3)) (hoff : ((pc + 17 : Nat) : Int) + off = (883 : Nat))
    (kk : W p l e room_1 s m args below meth c H locs cells slots Q (F0 m 883 ls [])) : W p l e room_1 s m args below meth c H locs cells slots Q (F0 m pc ls []) := by
  refine lv_iload hx hb d0 h5 ?_
  refine lv_if_ne (tgt := pc + 17) hx hb d2 (by omega) (fun q => ?_) (fun q => ?_)
  · exact lv_goto (tgt := 883) hx hb d17 hoff kk
  · refine lv_aload_n hx hb d5 rfl h3 ?_
    refine lv_iconst (v := 0) hx hb d6 (by decide) ?_
    refine va_lald hx hb hK hP 11 2 rfl rfl (vp_in_nI (n := 0) (by decide) (by decide)) d7 ?_
    rw [show (0 : Int32).toNatClampNeg = 0 from rfl]
    refine lv_iload hx hb d8 h6 ?_
    refine lv_i2l (v := r.toInt64) hx hb d10 rfl ?_
    refine W.lcmp hx hb d11 ?_
    refine lv_if_eq (tgt := pc + 17) hx hb d12 (by omega) (fun _ => ?_) (fun w => ?_)
    · exact lv_goto (tgt := 883) hx hb d17 hoff kk
    · exact absurd ((lg_cmp_eq _ _).mpr (hv q)) w
/-- behind a call that answers true or false -/
theorem lw_tz (hx : p.tables.exec = Jvm.exec) (hb : c.code = cL_law) (hK : va_K G vwCl [(cI, .int), (cZ, .boolean), (cJ, .long)] s) (hP : va_P G vwCl (wA cI cZ cJ a q_g bb u M) H) (h3 : ls[3]? = some (.val (.ref q_g))) (h5 : ls[5]? = some (.val (.int t))) (h6 : ls[6]? = some (.val (.int r))) (hv : t = 0 → u.2 0 = (if r = 0 then (0 : Int64) else 1))
    (d0 : decode cL_law pc = .ok (.iload 5, 2)) (d2 : decode cL_law (pc + 2) = .ok (.ifCond .ne 22, 3)) (d5 : decode cL_law (pc + 5) = .ok (.aload_n 3, 1)) (d6 : decode cL_law (pc + 6) = .ok (.iconst 0, 1)) (d7 : decode cL_law (pc + 7) = .ok (.laload, 1)) (d8 : decode cL_law (pc + 8) = .ok (.iload 6, 2)) (d10 : decode cL_law (pc + 10) = .ok (.ifCond .eq 7, 3)) (d13 : decode cL_law (pc + 13) = .ok (.lconst 1, 1)) (d14 : decode cL_law (pc + 14) = .ok (.goto 4, 3)) (d17 : decode cL_law (pc + 17) = .ok (.lconst 0, 1)) (d18 : decode cL_law (pc + 18) = .ok (.lcmp, 1)) (d19 : decode cL_law (pc + 19) = .ok (.ifCond .eq 5, 3)) (d24 : decode cL_law (pc + 24) = .ok (.goto off, 3)) (hoff : ((pc + 24 : Nat) : Int) + off = (883 : Nat))
    (kk : W p l e room_1 s m args below meth c H locs cells slots Q (F0 m 883 ls [])) : W p l e room_1 s m args below meth c H locs cells slots Q (F0 m pc ls []) := by
  refine lv_iload hx hb d0 h5 ?_
  refine lv_if_ne (tgt := pc + 24) hx hb d2 (by omega) (fun q => ?_) (fun q => ?_)
  · exact lv_goto (tgt := 883) hx hb d24 hoff kk
  · refine lv_aload_n hx hb d5 rfl h3 ?_
    refine lv_iconst (v := 0) hx hb d6 (by decide) ?_
    refine va_lald hx hb hK hP 11 2 rfl rfl (vp_in_nI (n := 0) (by decide) (by decide)) d7 ?_
    rw [show (0 : Int32).toNatClampNeg = 0 from rfl]
    refine lv_iload hx hb d8 h6 ?_
    have hq := hv q
    refine lv_if_eq (tgt := pc + 17) hx hb d10 (by omega) (fun z => ?_) (fun z => ?_)
    · rw [if_pos z] at hq
      refine lv_lconst (v := 0) hx hb d17 (by decide) ?_
      refine W.lcmp hx hb d18 ?_
      refine lv_if_eq (tgt := pc + 24) hx hb d19 (by omega) (fun _ => ?_) (fun w => ?_)
      · exact lv_goto (tgt := 883) hx hb d24 hoff kk
      · exact absurd ((lg_cmp_eq _ _).mpr hq) w
    · rw [if_neg z] at hq
      refine lv_lconst (v := 1) hx hb d13 (by decide) ?_
      refine lv_goto (tgt := pc + 18) hx hb d14 (by omega) ?_
      refine W.lcmp hx hb d18 ?_
      refine lv_if_eq (tgt := pc + 24) hx hb d19 (by omega) (fun _ => ?_) (fun w => ?_)
      · exact lv_goto (tgt := 883) hx hb d24 hoff kk
      · exact absurd ((lg_cmp_eq _ _).mpr hq) w
end LwTail
/-- what the walk of the law goes by, all along -/
def lw_Cx (p : Program) (l : Launch) (s : State) (m : MethodId) (c : Code) (b L : Nat) (xs : Nat → Int32) (G : va_G) (cI cZ cJ : ClassId) (sa : Nat → Nat) : Prop :=
  p.tables.exec = Jvm.exec ∧ c.code = cL_law ∧ c.maxLocals = 7 ∧ s.vm.findClass RL = some m.cls ∧ (∀ w ∈ wsL_law, w.before #[Value.ref b] s = true) ∧ va_X b L xs s s.heap ∧ b < s.heap.size ∧ l.stackTraces = false ∧ va_K G vwCl [(cI, .int), (cZ, .boolean), (cJ, .long)] s ∧ nx_Ok s ∧ ex_St sa s ∧ ex_Z (lw_A s) s s.heap ∧ ex_Nc s
theorem th_park (X : XS) (c a r q : Int32) : park_th X c a r q ≤ 3 := by
  unfold park_th
  repeat' split
  all_goals omega
theorem th_has (X : XS) (v : Int32) : has_th X v ≤ 3 := by
  unfold has_th; split <;> omega
theorem th_at (r q : Int32) : at_th r q ≤ 3 := by
  unfold at_th; split <;> omega
theorem th_reach (X : XS) (v p : Int32) : reach_th X v p ≤ 3 := by
  unfold reach_th
  repeat' split
  all_goals omega
theorem sim_f0 {S : SS} {Z : MS} (hs : sim S Z) : 0 ≤ m_ff Z → m_f0 Z < 800 ∧ m_ff Z = nI (m_f0 Z) := by
  intro h
  have h8 : m_fm Z ≤ 800 := hs.2.2.1.1
  rcases hs.2.2.2.2.2.1 with q | ⟨j, hj, q⟩
  · rw [q] at h; exact absurd h (by decide)
  · have e : m_f0 Z = j := by rw [m_f0, q, nI_clamp (by omega)]
    rw [e]; exact ⟨by omega, q⟩
theorem sim_ff {S : SS} {Z : MS} (hs : sim S Z) : 0 ≤ m_ff Z → vp_in (m_ff Z) 800 := by
  intro h
  obtain ⟨h1, h2⟩ := sim_f0 hs h
  rw [h2]; exact vp_in_nI h1 (by decide)
