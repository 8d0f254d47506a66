/-! What every contract here stands on: the nest mates' links, contracts that only read (ro_), contracts that write (rw_) -/
def nx_ws : List Cond := [.methodLinkNest RX2 9 yX1_init RX2, .methodLinkNest RX1 42 yX2_placeIn RX2, .methodLinkNest RX0 65 yX2_placeIn RX2, .methodLinkNest RX0 96 yX2_moved RX2, .methodLinkNest RX1 30 yX2_cellsOf RX2]
def nx_Ok (U : State) : Prop := ∀ w ∈ nx_ws, va_Nw w U
theorem nx_tab : ∀ w ∈ nx_ws, w.onTables = true := by
  intro w hw
  simp only [nx_ws, List.mem_cons, List.not_mem_nil, or_false] at hw
  rcases hw with rfl | rfl | rfl | rfl | rfl <;> rfl
theorem nx_Ok.same {u U : State} (h : u.vm = U.vm) (q : nx_Ok u) : nx_Ok U := fun w hw => va_Nw.same (nx_tab w hw) h (q w hw)
theorem nx_Ok.warm {s U : State} (hW : s.WarmedH U.vm) (q : nx_Ok s) : nx_Ok U := by
  intro w hw
  have h := q w hw
  simp only [nx_ws, List.mem_cons, List.not_mem_nil, or_false] at hw
  rcases hw with rfl | rfl | rfl | rfl | rfl <;> exact va_Nw.warmM hW h
theorem nx_get {U : State} {k : Nat} {w : Cond} (q : nx_Ok U) (h : nx_ws[k]? = some w) : va_Nw w U := q w (List.mem_of_getElem? h)
abbrev ro_A (sz : Nat) : Nat → Prop := fun q => sz ≤ q
def ro_Pc (D : va_G) (tys : List (ClassId × FieldType)) (ws : va_W) (sz : Nat) (av : List Value) : Array Value → State → Prop := va_Pc av (fun U => U.heap.size = sz ∧ va_P D vwCl ws U.heap ∧ va_K D vwCl tys U ∧ nx_Ok U)
theorem ro_blind {D : va_G} {tys : List (ClassId × FieldType)} {ws : va_W} {sz : Nat} {av : List Value} : FrameBlind (ro_Pc D tys ws sz av) := fun a U g mk q => by
  obtain ⟨q0, q1, qP, qK, qN⟩ := q
  exact ⟨q0, q1, qP, va_K.moved (u := U) (U := U.calling g mk a) (Vm.Alike.refl U.vm) qK, nx_Ok.same (u := U) (U := U.calling g mk a) rfl qN⟩
abbrev ro_Qi (f : Int32) (sz : Nat) : Array Value → State → Outcome → State → Prop := va_Qi (fun (r : Int32) (_ : Unit) => r = f) (fun _ _ => True) (ro_A sz)
abbrev ro_Ql (f : Int64) (sz : Nat) : Array Value → State → Outcome → State → Prop := va_Ql (fun (r : Int64) (_ : Unit) => r = f) (fun _ _ => True) (ro_A sz)
theorem ro_pre {s : State} {H : Heap} {D : va_G} {tys : List (ClassId × FieldType)} {wc : va_W} {av : List Value} (hPc : va_P D vwCl wc H) (hK : va_K D vwCl tys s) (hN : nx_Ok s) : ∀ U : State, U.heap = H → s.WarmedH U.vm → ro_Pc D tys wc H.size av av.toArray U := fun U hU hW => ⟨rfl, by rw [hU], by rw [hU]; exact hPc, va_K.moved hW.alike hK, nx_Ok.warm hW hN⟩
def rw_Pc (D : va_G) (tys : List (ClassId × FieldType)) (ws : va_W) (sz : Nat) (av : List Value) : Array Value → State → Prop := va_Pc av (fun U => U.heap.size = sz ∧ va_P D vwCl ws U.heap ∧ va_K D vwCl tys U ∧ va_D (fun _ => True) ws ∧ nx_Ok U)
theorem rw_blind {D : va_G} {tys : List (ClassId × FieldType)} {ws : va_W} {sz : Nat} {av : List Value} : FrameBlind (rw_Pc D tys ws sz av) := fun a U g mk q => by
  obtain ⟨q0, q1, qP, qK, qD, qN⟩ := q
  exact ⟨q0, q1, qP, va_K.moved (u := U) (U := U.calling g mk a) (Vm.Alike.refl U.vm) qK, qD, nx_Ok.same (u := U) (U := U.calling g mk a) rfl qN⟩
theorem rw_pre {s : State} {H : Heap} {D : va_G} {A : Nat → Prop} {tys : List (ClassId × FieldType)} {wc : va_W} {av : List Value} (hPc : va_P D vwCl wc H) (hDc : va_D A wc) (hK : va_K D vwCl tys s) (hN : nx_Ok s) : ∀ U : State, U.heap = H → s.WarmedH U.vm → rw_Pc D tys wc H.size av av.toArray U := fun U hU hW => ⟨rfl, by rw [hU], by rw [hU]; exact hPc, va_K.moved hW.alike hK, hDc.weaken (fun _ _ _ _ => trivial), nx_Ok.warm hW hN⟩
/-- a void method: the state f, held by the cells w f -/
abbrev rw_Qv {S : Type} (f : S) (w : S → va_W) (D : va_G) (ws0 : va_W) (sz : Nat) : Array Value → State → Outcome → State → Prop := va_Qv (fun u : S => u = f) (fun u t => va_P D vwCl (w u) t.heap ∧ va_D (va_A ws0 sz) (w u)) (va_A ws0 sz)
abbrev rw_Qi {S : Type} (g : Int32) (f : S) (w : S → va_W) (D : va_G) (ws0 : va_W) (sz : Nat) : Array Value → State → Outcome → State → Prop := va_Qi (fun (r : Int32) (u : S) => r = g ∧ u = f) (fun u t => va_P D vwCl (w u) t.heap ∧ va_D (va_A ws0 sz) (w u)) (va_A ws0 sz)
theorem va_P0 {D : va_G} {H : Heap} : va_P D vwCl [] H := fun k q h => by simp at h
/-- a part of a world, by places -/
theorem va_P.subm {D : va_G} {cl : List vw_C} {ws ws' : va_W} {H : Heap} (h : va_P D cl ws H) (is : List Nat) (hs : is.map (fun i => ws[i]?) = ws'.map some) : va_P D cl ws' H := by
  intro k q hk
  have h1 : (is.map (fun i => ws[i]?))[k]? = some (some q) := by rw [hs, List.getElem?_map, hk]; rfl
  rw [List.getElem?_map] at h1
  cases hi : is[k]? with
  | none => rw [hi] at h1; cases h1
  | some i => rw [hi] at h1; exact h i q (Option.some.inj h1)
section RoRw
variable {p : Program} {l : Launch} {e : Env} {R : Room} {s : State} {m : MethodId} {args : Array Value} {below : List Frame} {meth : Method} {c : Code} {H : Heap} {locs : List Loc} {cells slots : Nat} {Q : State → Prop}
variable {A0 : Nat → Prop} {H0 : Heap} {pc : Nat} {ls : Array Slot} {st0 rest : List Value} {D : va_G} {ws wc wr ws' : va_W} {av : Array Value}
theorem ro_i {f : Int32} (hr : va_Run p l e R s m args below meth c H locs cells slots 0 0 (F0 m pc ls st0) rest (ro_Qi f H.size av) (ro_A H.size)) (hS : va_S A0 H0 H locs) (hA : ∀ q, H0.size ≤ q → A0 q) (hP : va_P D vwCl ws H)
    (kk : ∀ (H1 : Heap) (locs1 : List Loc), va_P D vwCl ws H1 → va_S A0 H0 H1 locs1 → W p l e R s m args below meth c H1 locs1 cells slots Q (F0 m (pc + 3) ls (.int f :: rest))) : W p l e R s m args below meth c H locs cells slots Q (F0 m pc ls st0) := by
  refine va_calli hr hS (fun q h1 h2 => absurd h1 (Nat.not_lt.mpr h2)) (fun q h => hA q (Nat.le_trans hS.1 h)) (fun r u t H1 locs1 ht hvm hp hb hz hk hS1 => ?_)
  subst hp
  exact kk H1 locs1 (va_P.kept hP (fun k q hq => hk q.1 (hP k q hq).lt (Nat.not_le.mpr (hP k q hq).lt))) hS1
theorem ro_l {f : Int64} (hr : va_Run p l e R s m args below meth c H locs cells slots 0 0 (F0 m pc ls st0) rest (ro_Ql f H.size av) (ro_A H.size)) (hS : va_S A0 H0 H locs) (hA : ∀ q, H0.size ≤ q → A0 q) (hP : va_P D vwCl ws H)
    (kk : ∀ (H1 : Heap) (locs1 : List Loc), va_P D vwCl ws H1 → va_S A0 H0 H1 locs1 → W p l e R s m args below meth c H1 locs1 cells slots Q (F0 m (pc + 3) ls (.long f :: rest))) : W p l e R s m args below meth c H locs cells slots Q (F0 m pc ls st0) := by
  refine va_calll hr hS (fun q h1 h2 => absurd h1 (Nat.not_lt.mpr h2)) (fun q h => hA q (Nat.le_trans hS.1 h)) (fun r u t H1 locs1 ht hvm hp hb hz hk hS1 => ?_)
  subst hp
  exact kk H1 locs1 (va_P.kept hP (fun k q hq => hk q.1 (hP k q hq).lt (Nat.not_le.mpr (hP k q hq).lt))) hS1
theorem rw_v {S : Type} {f : S} {w : S → va_W} (hr : va_Run p l e R s m args below meth c H locs cells slots 0 0 (F0 m pc ls st0) rest (rw_Qv f w D wc H.size av) (va_A wc H.size)) (hS : va_S A0 H0 H locs) (hA : ∀ q, H0.size ≤ q → A0 q) (hP : va_P D vwCl ws H) (hD : va_D A0 ws)
    (isC isR perm : List Nat) (hC : isC.map (fun i => ws[i]?) = wc.map some) (hR : isR.map (fun i => ws[i]?) = wr.map some) (hn : va_nd isR = true) (hdis : ∀ i ∈ isR, i ∉ isC) (hperm : perm.map (fun i => (wr ++ w f)[i]?) = ws'.map some) (hpn : va_nd perm = true)
    (kk : ∀ (H1 : Heap) (locs1 : List Loc), va_P D vwCl ws' H1 → va_D A0 ws' → va_S A0 H0 H1 locs1 → W p l e R s m args below meth c H1 locs1 cells slots Q (F0 m (pc + 3) ls rest)) : W p l e R s m args below meth c H locs cells slots Q (F0 m pc ls st0) := by
  have hF := va_free (wc := wc) hD hS hA isC hC
  refine va_callv hr hS (fun q _ h => hF q h) hF (fun u t H1 locs1 ht hvm hp hb hz hk hS1 => ?_)
  subst hp
  obtain ⟨hP1, hD1⟩ := hb
  rw [ht] at hP1
  obtain ⟨hP2, hD2⟩ := va_join (wr := wr) hP hD isC isR hC hR hn hdis hk hF hP1 hD1
  exact kk H1 locs1 (hP2.subm perm hperm) (hD2.sub perm hpn hperm) hS1
theorem rw_i {S : Type} {g : Int32} {f : S} {w : S → va_W} (hr : va_Run p l e R s m args below meth c H locs cells slots 0 0 (F0 m pc ls st0) rest (rw_Qi g f w D wc H.size av) (va_A wc H.size)) (hS : va_S A0 H0 H locs) (hA : ∀ q, H0.size ≤ q → A0 q) (hP : va_P D vwCl ws H) (hD : va_D A0 ws)
    (isC isR perm : List Nat) (hC : isC.map (fun i => ws[i]?) = wc.map some) (hR : isR.map (fun i => ws[i]?) = wr.map some) (hn : va_nd isR = true) (hdis : ∀ i ∈ isR, i ∉ isC) (hperm : perm.map (fun i => (wr ++ w f)[i]?) = ws'.map some) (hpn : va_nd perm = true)
    (kk : ∀ (H1 : Heap) (locs1 : List Loc), va_P D vwCl ws' H1 → va_D A0 ws' → va_S A0 H0 H1 locs1 → W p l e R s m args below meth c H1 locs1 cells slots Q (F0 m (pc + 3) ls (.int g :: rest))) : W p l e R s m args below meth c H locs cells slots Q (F0 m pc ls st0) := by
  have hF := va_free (wc := wc) hD hS hA isC hC
  refine va_calli hr hS (fun q _ h => hF q h) hF (fun r u t H1 locs1 ht hvm hp hb hz hk hS1 => ?_)
  obtain ⟨rfl, rfl⟩ := hp
  obtain ⟨hP1, hD1⟩ := hb
  rw [ht] at hP1
  obtain ⟨hP2, hD2⟩ := va_join (wr := wr) hP hD isC isR hC hR hn hdis hk hF hP1 hD1
  exact kk H1 locs1 (hP2.subm perm hperm) (hD2.sub perm hpn hperm) hS1
end RoRw
/-! the class's state: Yard (sizes, acrosses, lines, shapes, how many, ramp) -/
abbrev YS : Type := (Nat → Int32) × (Nat → Int32) × (Nat → Int32) × (Nat → Int64) × Nat × Int64
abbrev y_sz (Y : YS) : Nat → Int32 := Y.1
abbrev y_ac (Y : YS) : Nat → Int32 := Y.2.1
abbrev y_li (Y : YS) : Nat → Int32 := Y.2.2.1
abbrev y_sh (Y : YS) : Nat → Int64 := Y.2.2.2.1
abbrev y_n (Y : YS) : Nat := Y.2.2.2.2.1
abbrev y_rp (Y : YS) : Int64 := Y.2.2.2.2.2
/-- Search: found, origins, moveCodes, slots; foundCount, firstSolved, solvedMoves, solvedCells, solvedFirstMove -/
abbrev SS : Type := (Nat → Int32) × (Nat → Int32) × (Nat → Int32) × (Nat → Int32) × Int32 × Int32 × Int32 × Int32 × Int32
abbrev s_fo (S : SS) : Nat → Int32 := S.1
abbrev s_or (S : SS) : Nat → Int32 := S.2.1
abbrev s_mo (S : SS) : Nat → Int32 := S.2.2.1
abbrev s_sl (S : SS) : Nat → Int32 := S.2.2.2.1
abbrev s_fc (S : SS) : Int32 := S.2.2.2.2.1
abbrev s_fs (S : SS) : Int32 := S.2.2.2.2.2.1
abbrev s_sm (S : SS) : Int32 := S.2.2.2.2.2.2.1
abbrev s_sc (S : SS) : Int32 := S.2.2.2.2.2.2.2.1
abbrev s_sf (S : SS) : Int32 := S.2.2.2.2.2.2.2.2
/-- RampJam: parkedPosition, position, moveCount, drivenCells, isSearched -/
abbrev JS : Type := Int32 × Int32 × Int32 × Int32 × Int32
abbrev j_pp (J : JS) : Int32 := J.1
abbrev j_po (J : JS) : Int32 := J.2.1
abbrev j_mc (J : JS) : Int32 := J.2.2.1
abbrev j_dc (J : JS) : Int32 := J.2.2.2.1
abbrev j_is (J : JS) : Int32 := J.2.2.2.2
/-- the cells: a 0 RampJam, a 1 Search and a 2 .. a 5 its rows, a 6 Yard and a 7 .. a 10 its rows -/
abbrev wY (cI cZ cJ : ClassId) (a : Nat → Nat) (Y : YS) : va_W := [(a 6, .inr (1, [.ref (a 7), .ref (a 8), .ref (a 9), .ref (a 10), .int (nI (y_n Y)), .long (y_rp Y)])), (a 7, .inl (cI, 9, .inl (y_sz Y))), (a 8, .inl (cZ, 9, .inl (y_ac Y))), (a 9, .inl (cI, 9, .inl (y_li Y))), (a 10, .inl (cJ, 9, .inr (.inl (y_sh Y))))]
abbrev wS (cI cZ cJ : ClassId) (a : Nat → Nat) (S : SS) (Y : YS) : va_W := [(a 1, .inr (0, [.ref (a 6), .ref (a 2), .ref (a 3), .ref (a 4), .ref (a 5), .int (s_fc S), .int (s_fs S), .int (s_sm S), .int (s_sc S), .int (s_sf S)])), (a 2, .inl (cI, 800, .inl (s_fo S))), (a 3, .inl (cI, 800, .inl (s_or S))), (a 4, .inl (cI, 800, .inl (s_mo S))), (a 5, .inl (cI, 2048, .inl (s_sl S))), (a 6, .inr (1, [.ref (a 7), .ref (a 8), .ref (a 9), .ref (a 10), .int (nI (y_n Y)), .long (y_rp Y)])), (a 7, .inl (cI, 9, .inl (y_sz Y))), (a 8, .inl (cZ, 9, .inl (y_ac Y))), (a 9, .inl (cI, 9, .inl (y_li Y))), (a 10, .inl (cJ, 9, .inr (.inl (y_sh Y))))]
abbrev wJ (cI cZ cJ : ClassId) (a : Nat → Nat) (J : JS) (S : SS) (Y : YS) : va_W := (a 0, .inr (2, [.ref (a 6), .ref (a 1), .int (j_pp J), .int (j_po J), .int (j_mc J), .int (j_dc J), .int (j_is J)])) :: wS cI cZ cJ a S Y
