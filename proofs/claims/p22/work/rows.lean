section
-- ===== PART A: goes FIRST, ahead of the names: the tables' words, and 'selects' of the private methods out of them =====
/-- a private method of a class that the tables say can be made, by its rows of tables_1 -/
def lw_okq (q : MethodName × Nat) : Prop := (q.1.cls ≠ "java/lang/invoke/MethodHandle" ∧ q.1.cls ≠ "java/lang/invoke/VarHandle") ∧ Cond.instantiable q.1.cls q.2 ∈ tables_1 ∧ Cond.privateMethod q.1 ∈ tables_1 ∧ Cond.instanceMethod q.1 ∈ tables_1
theorem lw_p0 : lw_okq (⟨"java/lang/Throwable", "fillInStackTrace", "(I)Ljava/lang/Throwable;"⟩, 6) := ⟨⟨by decide +kernel, by decide +kernel⟩, List.mem_of_getElem? (i := 153) (by decide +kernel), List.mem_of_getElem? (i := 151) (by decide +kernel), List.mem_of_getElem? (i := 152) (by decide +kernel)⟩
theorem lw_p1 : lw_okq (⟨"RampJam", "standAt", "(I)V"⟩, 7) := ⟨⟨by decide +kernel, by decide +kernel⟩, List.mem_of_getElem? (i := 13) (by decide +kernel), List.mem_of_getElem? (i := 239) (by decide +kernel), List.mem_of_getElem? (i := 240) (by decide +kernel)⟩
theorem lw_p2 : lw_okq (⟨"RampJam", "wayNow", "(IZ)I"⟩, 7) := ⟨⟨by decide +kernel, by decide +kernel⟩, List.mem_of_getElem? (i := 13) (by decide +kernel), List.mem_of_getElem? (i := 312) (by decide +kernel), List.mem_of_getElem? (i := 313) (by decide +kernel)⟩
theorem lw_p3 : lw_okq (⟨"RampJam", "searchFromNow", "()V"⟩, 7) := ⟨⟨by decide +kernel, by decide +kernel⟩, List.mem_of_getElem? (i := 13) (by decide +kernel), List.mem_of_getElem? (i := 334) (by decide +kernel), List.mem_of_getElem? (i := 335) (by decide +kernel)⟩
theorem lw_p4 : lw_okq (⟨"RampJam$Search", "addIfNew", "(III)V"⟩, 10) := ⟨⟨by decide +kernel, by decide +kernel⟩, List.mem_of_getElem? (i := 49) (by decide +kernel), List.mem_of_getElem? (i := 345) (by decide +kernel), List.mem_of_getElem? (i := 346) (by decide +kernel)⟩
theorem lw_p5 : lw_okq (⟨"RampJam$Search", "slotFor", "(I)I"⟩, 10) := ⟨⟨by decide +kernel, by decide +kernel⟩, List.mem_of_getElem? (i := 49) (by decide +kernel), List.mem_of_getElem? (i := 349) (by decide +kernel), List.mem_of_getElem? (i := 350) (by decide +kernel)⟩
theorem lw_p6 : lw_okq (⟨"RampJam$Search", "addReachedFrom", "(I)V"⟩, 10) := ⟨⟨by decide +kernel, by decide +kernel⟩, List.mem_of_getElem? (i := 49) (by decide +kernel), List.mem_of_getElem? (i := 355) (by decide +kernel), List.mem_of_getElem? (i := 356) (by decide +kernel)⟩
theorem lw_p7 : lw_okq (⟨"RampJam$Search", "isFound", "(I)Z"⟩, 10) := ⟨⟨by decide +kernel, by decide +kernel⟩, List.mem_of_getElem? (i := 49) (by decide +kernel), List.mem_of_getElem? (i := 359) (by decide +kernel), List.mem_of_getElem? (i := 360) (by decide +kernel)⟩
theorem lw_p8 : lw_okq (⟨"RampJam$Search", "addDriven", "(IIII)V"⟩, 10) := ⟨⟨by decide +kernel, by decide +kernel⟩, List.mem_of_getElem? (i := 49) (by decide +kernel), List.mem_of_getElem? (i := 366) (by decide +kernel), List.mem_of_getElem? (i := 367) (by decide +kernel)⟩
theorem lw_p9 : lw_okq (⟨"RampJam$Search", "traceWay", "()V"⟩, 10) := ⟨⟨by decide +kernel, by decide +kernel⟩, List.mem_of_getElem? (i := 49) (by decide +kernel), List.mem_of_getElem? (i := 374) (by decide +kernel), List.mem_of_getElem? (i := 375) (by decide +kernel)⟩
theorem lw_p10 : lw_okq (⟨"RampJam", "makeMove", "(II)V"⟩, 7) := ⟨⟨by decide +kernel, by decide +kernel⟩, List.mem_of_getElem? (i := 13) (by decide +kernel), List.mem_of_getElem? (i := 425) (by decide +kernel), List.mem_of_getElem? (i := 426) (by decide +kernel)⟩
def lw_privs_1 : List (MethodName × Nat) := [(⟨"java/lang/Throwable", "fillInStackTrace", "(I)Ljava/lang/Throwable;"⟩, 6), (⟨"RampJam", "standAt", "(I)V"⟩, 7), (⟨"RampJam", "wayNow", "(IZ)I"⟩, 7), (⟨"RampJam", "searchFromNow", "()V"⟩, 7), (⟨"RampJam$Search", "addIfNew", "(III)V"⟩, 10), (⟨"RampJam$Search", "slotFor", "(I)I"⟩, 10), (⟨"RampJam$Search", "addReachedFrom", "(I)V"⟩, 10), (⟨"RampJam$Search", "isFound", "(I)Z"⟩, 10), (⟨"RampJam$Search", "addDriven", "(IIII)V"⟩, 10), (⟨"RampJam$Search", "traceWay", "()V"⟩, 10), (⟨"RampJam", "makeMove", "(II)V"⟩, 7)]
theorem lw_r1 : ∀ q ∈ lw_privs_1, lw_okq q := List.forall_mem_cons.mpr ⟨lw_p0, List.forall_mem_cons.mpr ⟨lw_p1, List.forall_mem_cons.mpr ⟨lw_p2, List.forall_mem_cons.mpr ⟨lw_p3, List.forall_mem_cons.mpr ⟨lw_p4, List.forall_mem_cons.mpr ⟨lw_p5, List.forall_mem_cons.mpr ⟨lw_p6, List.forall_mem_cons.mpr ⟨lw_p7, List.forall_mem_cons.mpr ⟨lw_p8, List.forall_mem_cons.mpr ⟨lw_p9, List.forall_mem_cons.mpr ⟨lw_p10, fun _ h => absurd h List.not_mem_nil⟩⟩⟩⟩⟩⟩⟩⟩⟩⟩⟩
def lw_privs : List (MethodName × Nat) := lw_privs_1
def lw_tbl : List Cond := k2_sels lw_privs ++ tables_1
theorem lw_privs_ok : ∀ q ∈ lw_privs, lw_okq q := lw_r1
end
section
/-! ===== BEGIN words of one list among another's, by their places ===== -/
theorem goodIn_r {big : List Cond} (ws : List Cond) (ps : List Nat) (hp : ws = ps.filterMap (fun i => big[i]?)) (h : ws.all goodWord = true) : GoodIn big ws := by
  intro w hw
  have h1 := List.all_eq_true.mp h w hw
  rw [hp] at hw
  obtain ⟨i, -, hi⟩ := List.mem_filterMap.mp hw
  have hm : w ∈ big := by first | exact List.mem_of_getElem? hi | exact List.getElem?_mem hi
  exact ⟨hm, good_of_word h1⟩
theorem goodIn_app {big a b : List Cond} (ha : GoodIn big a) (hb : GoodIn big b) : GoodIn big (a ++ b) := fun w h => (List.mem_append.mp h).elim (ha w) (hb w)
theorem goodIn_ca {big a b : List Cond} {c : Cond} (ha : GoodIn big (c :: a)) (hb : GoodIn big b) : GoodIn big (c :: (a ++ b)) := fun w h => (List.mem_cons.mp h).elim (fun e => ha w (List.mem_cons.mpr (Or.inl e))) (fun h => (List.mem_append.mp h).elim (fun h => ha w (List.mem_cons.mpr (Or.inr h))) (hb w))
theorem goodIn_sub {big ws : List Cond} (hm : ∀ w ∈ ws, w ∈ big) (h : ws.all goodWord = true) : GoodIn big ws := fun w hw => ⟨hm w hw, good_of_word (List.all_eq_true.mp h w hw)⟩
/-! ===== END ===== -/

/-! ===== BEGIN exceptions that leave a method, and their catching by the caller (launches without stack traces) ===== -/
section VXA
/-! The laws vx_back, vx_callV, vx_callS, vx_callSW, vx_throw0, vx_throwS follow proofs of the library, with one case more: JvmDerived/Free/Laws.lean (Back.of_free), Shelf42/LK1.lean (callV, callS), Shelf/KitTraced.lean (throwNew0V, throwNewS). -/
/-- where a method has thrown q: the class by its name, the cell, what was written, the world -/
def vx_T (XC : String → State → State → Prop) (st : State) (q : Addr) (t : State) (mc ms : Nat) (free : Addr → Prop) : Prop :=
  ∃ (E : String) (ce : Cell) (L : List Loc), XC E st t ∧ t.heap[q]? = some ce ∧ ce.vm = .none ∧ st.vm.findClass E = some ce.cls ∧ st.WarmedH t.vm ∧ st.sameButNew ({ t with vm := st.vm } : State) L mc ms ∧ ∀ z ∈ L, free z.base
def vx_Q (Qc : Array Value → State → Outcome → State → Prop) (XC : String → State → State → Prop) (mc ms : Nat) (free : Addr → Prop) : Array Value → State → Outcome → State → Prop := fun a st o t =>
  (Qc a st o t ∧ ∃ L, FrameEnd st o t L mc ms ∧ ∀ q ∈ L, free q.base) ∨ ∃ q, o = .threw q ∧ vx_T XC st q t mc ms free
/-- a callee that returns or throws -/
def vx_Met (l : Launch) (y : MethodName) (ws : List Cond) (rm : Room) (Pc : Array Value → State → Prop) (Qc : Array Value → State → Outcome → State → Prop) (XC : String → State → State → Prop) (mc ms : Nat) (free : Addr → Prop) : Prop :=
  MetFree l y (headSpec ws rm) Pc (fun _ _ _ _ _ => True) (vx_Q Qc XC mc ms free)
def vx_Post (XC : String → State → State → Prop) (mc ms : Nat) (free : Addr → Prop) : Pt → Array Value → Addr → Pt → Prop := fun A a q B =>
  ∃ (g : JFrame) (mk : MethodId) (t : State) (L : List Loc) (E : String) (ce : Cell), B.U.heap = t.heap ∧ B.U.vm = t.vm ∧ XC E (A.U.calling g mk a) t ∧ t.heap[q]? = some ce ∧ ce.vm = .none ∧ A.U.vm.findClass E = some ce.cls ∧ B.locs = A.locs ++ L ∧ (∀ z ∈ L, free z.base) ∧ B.cells = A.cells + mc ∧ B.slots = A.slots + ms
def vx_Back (l : Launch) (R : Room) (p : Program) (e : Env) (below : List Frame) (s : State) (sargs : Array Value) (y : MethodName) (len W9 : Nat)
    (Pre : Pt → Array Value → Prop) (Post : Pt → Array Value → Option Value → Pt → Prop) (PostX : Pt → Array Value → Addr → Pt → Prop) : Prop :=
  ∀ (m : MethodId) (meth : Method) (c : Code) (A : Pt) (g : JFrame) (ig : Instr) (mk : MethodId) (a : Array Value),
    Stand p l e R s m sargs below meth c A.U A.locs A.cells A.slots → g.method = m → g.locals.size = c.maxLocals → decode c.code g.pc = .ok (ig, len) →
    2 * g.monitorRoom + (g.stack.map fun v => v.category).sum ≤ W9 → A.U.methodNamed? y = some mk → Pre A a →
    (∃ (v : Option Value) (B : Pt), Stand p l e R s m sargs below meth c B.U B.locs B.cells B.slots ∧ Post A a v B ∧
      Steps p.tables e below (doInvoke e (A.U.setTop g) [] mk a).1 (B.U.setTop { g with pc := g.pc + len, stack := v.toList ++ g.stack })) ∨
    (∃ (q : Addr) (B : Pt), Stand p l e R s m sargs below meth c B.U B.locs B.cells B.slots ∧ PostX A a q B ∧
      Steps p.tables e below (doInvoke e (A.U.setTop g) [] mk a).1 ((B.U.setTop g).pushFrame (.throwing q)))
section Payer
variable {l : Launch} {R : Room} {p : Program} {e : Env} {below : List Frame} {s : State} {sargs : Array Value} {y : MethodName} {len W9 : Nat}
theorem vx_back {ws : List Cond} {rm : Room} {Pc : Array Value → State → Prop} {Qc : Array Value → State → Outcome → State → Prop} {XC : String → State → State → Prop} {mc ms : Nat} {free : Addr → Prop} {bytes : ByteArray} {maxL : Nat} {ret : Option FieldType}
    (hM : vx_Met l y ws rm Pc Qc XC mc ms free) (hblind : FrameBlind Pc) (hrc : rm.cells = mc) (hrs : rm.slots = ms)
    (hframes : rm.frames + 1 ≤ R.frames) (hlocals : W9 + (maxL + 11) + rm.locals ≤ R.locals)
    (hws : ∀ w ∈ ws, ∀ a' U, s.WarmedH U.vm → w.before a' U = true) (hcode : Cond.code y bytes maxL ret ∈ ws) (hinit : ∀ a' U, s.WarmedH U.vm → (Cond.initialized y.cls).before a' U = true) :
    vx_Back l R p e below s sargs y len W9 (PreOf R mc ms Pc) (PostOf Qc mc ms free) (vx_Post XC mc ms free) := by
  intro m meth c A g ig mk a X hg hsize hdg hW hn hp
  have h1 : (headSpec ws rm).pre.before a A.U = true := atoms_intro fun w hw => hws w hw _ _ X.warmed
  have h2 : (Cond.code y bytes maxL ret).before a A.U = true := hws _ hcode _ _ X.warmed
  have h3 : (Cond.initialized y.cls).before a A.U = true := hinit _ _ X.warmed
  have h4 : A.cells + (headSpec ws rm).room.cells ≤ R.cells := by rw [show (headSpec ws rm).room.cells = mc from hrc]; exact hp.1
  have h5 : A.slots + (headSpec ws rm).room.slots ≤ R.slots := by rw [show (headSpec ws rm).room.slots = ms from hrs]; exact hp.2.1
  have hPc : Pc a (A.U.calling g mk a) := hblind _ _ _ _ hp.2.2
  obtain ⟨U, Ls, c0, s0⟩ := A
  dsimp only [Pt.U, Pt.locs, Pt.cells, Pt.slots] at h1 h2 h3 h4 h5 X hn hPc ⊢
  obtain ⟨methY, cY, hmY, hcY, -, hlY, -, -, -, -⟩ := Cond.code_spec hn h2
  obtain ⟨kY, hkY, -⟩ := className_of_methodNamed hn
  have hinitY : kY.init = .initialized := Cond.initialized_spec (findClass_of_methodNamed hn) hkY h3
  have h : At U g.method c below := by rw [hg]; exact X.here
  have hlocals9 : W9 + (maxL + 11) + (headSpec ws rm).room.locals ≤ R.locals := hlocals
  have happ : (headSpec ws rm).appliesLoose y e.platform (U.calling g mk a) = true :=
    Spec.appliesLoose_calling (g := g) h hdg hn hkY hinitY
      (X.room_calling (g := g) (R' := (headSpec ws rm).room) hsize hmY hcY hframes (by rw [hlY]; omega) h4 h5) h1
  obtain ⟨mid, hmid⟩ := h.above
  have hfr : (U.setTop g).frames = (.java g :: mid) ++ below := by rw [State.frames_setTop' g h.top, hmid]; rfl
  obtain ⟨o, s₂, hsteps, -, hend, hq⟩ := Steps.callFree hM p X.admits X.cas X.clock (acts := []) hfr happ hPc trivial
  have hq' : vx_Q Qc XC mc ms free a (U.calling g mk a) o s₂ := hq
  rw [State.frames_setTop' g h.top] at hend
  obtain ⟨g₀, hg0⟩ := Option.isSome_iff_exists.mp h.top
  obtain ⟨r, hr⟩ := State.topJava?_eq_some.mp hg0
  have hr' : (({ U with heap := s₂.heap, slotsUsed := s₂.slotsUsed } : State).setVm s₂.vm).frames = .java g₀ :: r := hr
  rcases hq' with ⟨hqc, L, hfe, hL⟩ | ⟨q, rfl, E, ce, L, hx, hce, hcv, hcl, hW₂, hsm, hL⟩
  · obtain ⟨⟨v, rfl⟩, hW₂, e2, q2, q3, q4, q5, q6⟩ := id hfe
    have e3 : s₂ = ({ (U.calling g mk a).setFrames s₂.frames with heap := s₂.heap, slotsUsed := s₂.slotsUsed } : State).setVm s₂.vm := by
      have : s₂ = ({ s₂ with vm := (U.calling g mk a).vm } : State).setVm s₂.vm := rfl
      rw [e2] at this
      exact this
    obtain ⟨c₂, i₂, len₂, hc₂, hd₂, hf₂⟩ := hend
    have hW' : U.WarmedH s₂.vm := hW₂
    have hcc : c₂ = c := by
      have h1 : s₂.code? g.method = U.code? g.method := by
        rw [State.code?_eq, State.code?_eq, hW'.alike.method?]
      exact Option.some.inj (hc₂.symm.trans (h1.trans h.code))
    subst hcc
    have hlen : len₂ = len := by rw [hdg] at hd₂; cases hd₂; rfl
    subst hlen
    have hs₂ : s₂ = (({ U with heap := s₂.heap, slotsUsed := s₂.slotsUsed } : State).setVm s₂.vm).setTop { g with pc := g.pc + len₂, stack := v.toList ++ g.stack } := by
      refine e3.trans ?_
      rw [hf₂, State.calling_eq h.top, State.setFrames_setFrames, State.setTop_of_frames _ hr', hr]
      rfl
    have hsame : U.sameButNew ({ U with heap := s₂.heap, slotsUsed := s₂.slotsUsed } : State) L mc ms := by
      refine ⟨?_, q2, q3, q4, q5, q6⟩
      obtain ⟨t, ht, -⟩ := State.frames_cons hr
      show ({ U with heap := s₂.heap, slotsUsed := s₂.slotsUsed } : State) = { U.setFrames U.frames with heap := s₂.heap, slotsUsed := s₂.slotsUsed }
      rw [State.setFrames_self ht]
    subst hg
    refine Or.inl ⟨v, ⟨(({ U with heap := s₂.heap, slotsUsed := s₂.slotsUsed } : State).setVm s₂.vm), Ls ++ L, c0 + mc, s0 + ms⟩,
      ⟨X.admits, X.cas, X.clock, X.frames, X.room, X.hears, X.method, X.code, (X.here.setHeapUsed s₂.heap s₂.slotsUsed).setVm hW'.alike, X.tail, State.WarmedH.trans X.warmed hW', X.limits, X.bytes, X.same.trans (hsame.setVm s.vm)⟩,
      ⟨g, mk, s₂, L, rfl, rfl, hqc, rfl, hL, rfl, rfl⟩, ?_⟩
    show Steps p.tables e below _ ((({ U with heap := s₂.heap, slotsUsed := s₂.slotsUsed } : State).setVm s₂.vm).setTop { g with pc := g.pc + len₂, stack := v.toList ++ g.stack })
    rw [← hs₂]
    exact hsteps
  · obtain ⟨e2, q2, q3, q4, q5, q6⟩ := id hsm
    have e3 : s₂ = ({ (U.calling g mk a).setFrames s₂.frames with heap := s₂.heap, slotsUsed := s₂.slotsUsed } : State).setVm s₂.vm := by
      have : s₂ = ({ s₂ with vm := (U.calling g mk a).vm } : State).setVm s₂.vm := rfl
      rw [e2] at this
      exact this
    have hf₂ : s₂.frames = .throwing q :: .java g :: U.frames.tail := hend
    have hW' : U.WarmedH s₂.vm := hW₂
    have hs₂ : s₂ = ((({ U with heap := s₂.heap, slotsUsed := s₂.slotsUsed } : State).setVm s₂.vm).setTop g).pushFrame (.throwing q) := by
      refine e3.trans ?_
      rw [hf₂, State.calling_eq h.top, State.setFrames_setFrames, State.pushFrame, State.frames_setTop _ hr', State.setTop_of_frames _ hr', State.setFrames_setFrames, hr]
      rfl
    have hsame : U.sameButNew ({ U with heap := s₂.heap, slotsUsed := s₂.slotsUsed } : State) L mc ms := by
      refine ⟨?_, q2, q3, q4, q5, q6⟩
      obtain ⟨t, ht, -⟩ := State.frames_cons hr
      show ({ U with heap := s₂.heap, slotsUsed := s₂.slotsUsed } : State) = { U.setFrames U.frames with heap := s₂.heap, slotsUsed := s₂.slotsUsed }
      rw [State.setFrames_self ht]
    subst hg
    refine Or.inr ⟨q, ⟨(({ U with heap := s₂.heap, slotsUsed := s₂.slotsUsed } : State).setVm s₂.vm), Ls ++ L, c0 + mc, s0 + ms⟩,
      ⟨X.admits, X.cas, X.clock, X.frames, X.room, X.hears, X.method, X.code, (X.here.setHeapUsed s₂.heap s₂.slotsUsed).setVm hW'.alike, X.tail, State.WarmedH.trans X.warmed hW', X.limits, X.bytes, X.same.trans (hsame.setVm s.vm)⟩,
      ⟨g, mk, s₂, L, E, ce, rfl, rfl, hx, hce, hcv, hcl, rfl, hL, rfl, rfl⟩, ?_⟩
    show Steps p.tables e below _ (((({ U with heap := s₂.heap, slotsUsed := s₂.slotsUsed } : State).setVm s₂.vm).setTop g).pushFrame (.throwing q))
    rw [← hs₂]
    exact hsteps
end Payer
section Calls
variable {p : Program} {l : Launch} {e : Env} {R : Room} {s : State} {m : MethodId} {args : Array Value} {below : List Frame} {meth : Method} {c : Code} {T : State} {locs : List Loc} {cells slots : Nat}
theorem vx_callV (X : Stand p l e R s m args below meth c T locs cells slots) (hexec : p.tables.exec = Jvm.exec) {own C : String} {index : Nat} {y : MethodName} {bytes : ByteArray} {maxL : Nat} {ret : Option FieldType}
    (hown : s.vm.findClass own = some m.cls) (hlink : (Cond.methodLink own index y).before args s = true) (hinst : (Cond.instanceMethod y).before args s = true) (hsel : (Cond.selects C y y).before args s = true)
    (hcode : (Cond.code y bytes maxL ret).before args s = true) (hy : y.cls ≠ "java/lang/invoke/MethodHandle" ∧ y.cls ≠ "java/lang/invoke/VarHandle")
    {W9 : Nat} {Pre : Pt → Array Value → Prop} {Post : Pt → Array Value → Option Value → Pt → Prop} {PostX : Pt → Array Value → Addr → Pt → Prop} (hK : vx_Back l R p e below s args y 3 W9 Pre Post PostX)
    {b : Addr} {cellB : Cell} (hcell : T.heap[b]? = some cellB) (hobj : cellB.vm.isStatics = false) (hcls : s.vm.findClass C = some cellB.cls)
    {g : JFrame} (hg : g.method = m) (hsize : g.locals.size = c.maxLocals) {argsL rest : List Value} (hlen : ∀ sig, parseMethodDescriptor y.desc = some sig → argsL.length = sig.parameters.length)
    (hstack : g.stack = argsL.reverse ++ .ref b :: rest) (hW : 2 * g.monitorRoom + (rest.map fun v => v.category).sum ≤ W9) (hdg : decode c.code g.pc = .ok (.invokevirtual index, 3))
    (hpre : ∀ vm₁, s.WarmedH vm₁ → Pre ⟨T.setVm vm₁, locs, cells, slots⟩ (Value.ref b :: argsL).toArray) :
    (∃ (v : Option Value) (vm₁ : Vm) (B : Pt), s.WarmedH vm₁ ∧ Stand p l e R s m args below meth c B.U B.locs B.cells B.slots ∧ Post ⟨T.setVm vm₁, locs, cells, slots⟩ (Value.ref b :: argsL).toArray v B ∧
      ∀ target, Steps p.tables e below (B.U.setTop { g with pc := g.pc + 3, stack := v.toList ++ rest }) target → Steps p.tables e below (T.setTop g) target) ∨
    (∃ (q : Addr) (vm₁ : Vm) (B : Pt), s.WarmedH vm₁ ∧ Stand p l e R s m args below meth c B.U B.locs B.cells B.slots ∧ PostX ⟨T.setVm vm₁, locs, cells, slots⟩ (Value.ref b :: argsL).toArray q B ∧
      Steps p.tables e below (T.setTop g) ((B.U.setTop { g with stack := rest }).pushFrame (.throwing q))) := by
  obtain ⟨mk, methM, hnamed, hmethM, hstM, habM⟩ := Cond.instanceMethod_spec hinst
  obtain ⟨methM', cM, hmethM', -, -, -, -, -, -, hsigM⟩ := Cond.code_spec hnamed hcode
  cases hmethM.symm.trans hmethM'
  obtain ⟨c2, r2, m2, q1, q2, q3, q4, kP, hkP, hkPi⟩ := Cond.selects_spec hsel
  cases hcls.symm.trans q1
  cases (State.methodFound?_of_named hnamed hy).symm.trans q2
  cases hnamed.symm.trans q3
  have hselP : selectMethod e.platform s.vm cellB.cls mk = .method mk := by rw [Launch.admits_selectMethod X.admits]; exact q4
  obtain ⟨vm₁, X₁, hstep₁⟩ := X.invokevirtual hexec hown hlink hnamed hmethM hstM hkP hkPi hy (a := b) (cell := cellB) hcell
    (fun z h => by rw [h] at hobj; cases hobj) hselP hmethM habM hkP hkPi (g := g) hg (argsL := argsL) (rest := rest) (hlen _ hsigM) hstack hdg
  rcases hK m meth c ⟨T.setVm vm₁, locs, cells, slots⟩ { g with stack := rest } (.invokevirtual index) mk (Value.ref b :: argsL).toArray X₁ hg hsize hdg hW (X₁.named hnamed) (hpre vm₁ X₁.warmed) with ⟨v, B, X', hpost, hsteps⟩ | ⟨q, B, X', hpost, hsteps⟩
  · exact Or.inl ⟨v, vm₁, B, X₁.warmed, X', hpost, fun target h => hstep₁ _ fun acts => by rw [doInvoke_state]; exact hsteps.trans h⟩
  · exact Or.inr ⟨q, vm₁, B, X₁.warmed, X', hpost, hstep₁ _ fun acts => by rw [doInvoke_state]; exact hsteps⟩
theorem vx_callS (X : Stand p l e R s m args below meth c T locs cells slots) (hexec : p.tables.exec = Jvm.exec) {own : String} {index : Nat} {y : MethodName} {bytes : ByteArray} {maxL : Nat} {ret : Option FieldType}
    (hown : s.vm.findClass own = some m.cls) (hlink : (Cond.methodLink own index y).before args s = true) (hstat : (Cond.static y).before args s = true) (hinit : (Cond.initialized y.cls).before args s = true)
    (hcode : (Cond.code y bytes maxL ret).before args s = true) (hy : y.cls ≠ "java/lang/invoke/MethodHandle" ∧ y.cls ≠ "java/lang/invoke/VarHandle")
    {W9 : Nat} {Pre : Pt → Array Value → Prop} {Post : Pt → Array Value → Option Value → Pt → Prop} {PostX : Pt → Array Value → Addr → Pt → Prop} (hK : vx_Back l R p e below s args y 3 W9 Pre Post PostX)
    {g : JFrame} (hg : g.method = m) (hsize : g.locals.size = c.maxLocals) {argsL rest : List Value} (hlen : ∀ sig, parseMethodDescriptor y.desc = some sig → argsL.length = sig.parameters.length)
    (hstack : g.stack = argsL.reverse ++ rest) (hW : 2 * g.monitorRoom + (rest.map fun v => v.category).sum ≤ W9) (hdg : decode c.code g.pc = .ok (.invokestatic index, 3))
    (hpre : ∀ vm₁, s.WarmedH vm₁ → Pre ⟨T.setVm vm₁, locs, cells, slots⟩ argsL.toArray) :
    (∃ (v : Option Value) (vm₁ : Vm) (B : Pt), s.WarmedH vm₁ ∧ Stand p l e R s m args below meth c B.U B.locs B.cells B.slots ∧ Post ⟨T.setVm vm₁, locs, cells, slots⟩ argsL.toArray v B ∧
      ∀ target, Steps p.tables e below (B.U.setTop { g with pc := g.pc + 3, stack := v.toList ++ rest }) target → Steps p.tables e below (T.setTop g) target) ∨
    (∃ (q : Addr) (vm₁ : Vm) (B : Pt), s.WarmedH vm₁ ∧ Stand p l e R s m args below meth c B.U B.locs B.cells B.slots ∧ PostX ⟨T.setVm vm₁, locs, cells, slots⟩ argsL.toArray q B ∧
      Steps p.tables e below (T.setTop g) ((B.U.setTop { g with stack := rest }).pushFrame (.throwing q))) := by
  obtain ⟨mk, hnamed⟩ := Cond.code_named hcode
  obtain ⟨methM, cM, hmethM, -, -, -, -, -, -, hsigM⟩ := Cond.code_spec hnamed hcode
  have hstatic : methM.isStatic = true := Cond.static_spec hnamed hmethM hstat
  obtain ⟨kP, hkP, -⟩ := className_of_methodNamed hnamed
  have hinitP : kP.init = .initialized := Cond.initialized_spec (findClass_of_methodNamed hnamed) hkP hinit
  obtain ⟨vm₁, X₁, hstep₁⟩ := X.invokestatic hexec hown hlink hnamed hmethM hstatic hkP hinitP hy (g := g) hg (argsL := argsL) (rest := rest) (hlen _ hsigM) hstack hdg
  rcases hK m meth c ⟨T.setVm vm₁, locs, cells, slots⟩ { g with stack := rest } (.invokestatic index) mk argsL.toArray X₁ hg hsize hdg hW (X₁.named hnamed) (hpre vm₁ X₁.warmed) with ⟨v, B, X', hpost, hsteps⟩ | ⟨q, B, X', hpost, hsteps⟩
  · exact Or.inl ⟨v, vm₁, B, X₁.warmed, X', hpost, fun target h => hstep₁ _ fun acts => by rw [doInvoke_state]; exact hsteps.trans h⟩
  · exact Or.inr ⟨q, vm₁, B, X₁.warmed, X', hpost, hstep₁ _ fun acts => by rw [doInvoke_state]; exact hsteps⟩
end Calls
theorem vx_cls {s : State} {T : State} {vm₁ : Vm} {E : String} {k : ClassId} (hW : s.WarmedH vm₁) (h : (T.setVm vm₁).vm.findClass E = some k) : s.vm.findClass E = some k := by
  have h1 : vm₁.findClass E = some k := h
  rw [hW.alike.findClass] at h1
  exact h1
/-- the method's frame g, with q thrown over it -/
def vx_W (p : Program) (l : Launch) (e : Env) (R : Room) (s : State) (m : MethodId) (args : Array Value) (below : List Frame) (meth : Method) (c : Code) (H : Heap) (locs : List Loc) (cells slots : Nat) (Q : State → Prop) (g : JFrame) (q : Addr) : Prop :=
  ∀ T : State, T.heap = H → Stand p l e R s m args below meth c T locs cells slots → ∃ t, Steps p.tables e below ((T.setTop g).pushFrame (.throwing q)) t ∧ Q t
def vx_Run (p : Program) (l : Launch) (e : Env) (R : Room) (s : State) (m : MethodId) (args : Array Value) (below : List Frame) (meth : Method) (c : Code) (H : Heap) (locs : List Loc) (cells slots mc ms : Nat) (g : JFrame) (rest : List Value) (Qa : State → Outcome → State → Prop) (XC : String → State → State → Prop) (free : Addr → Prop) : Prop :=
  ∀ T : State, T.heap = H → Stand p l e R s m args below meth c T locs cells slots →
    (∃ (v : Option Value) (st₀ t T' : State) (L : List Loc), st₀.heap = H ∧ Stand p l e R s m args below meth c T' (locs ++ L) (cells + mc) (slots + ms) ∧ (∀ q ∈ L, free q.base) ∧ T'.heap = t.heap ∧ T'.vm = t.vm ∧ Qa st₀ (.returned v) t ∧
      Goes p e below T g T' { g with pc := g.pc + 3, stack := v.toList ++ rest }) ∨
    (∃ (q : Addr) (st₀ t T' : State) (L : List Loc) (E : String) (ce : Cell), st₀.heap = H ∧ Stand p l e R s m args below meth c T' (locs ++ L) (cells + mc) (slots + ms) ∧ (∀ z ∈ L, free z.base) ∧ T'.heap = t.heap ∧ T'.vm = t.vm ∧ XC E st₀ t ∧ t.heap[q]? = some ce ∧ ce.vm = .none ∧ s.vm.findClass E = some ce.cls ∧
      Steps p.tables e below (T.setTop g) ((T'.setTop { g with stack := rest }).pushFrame (.throwing q)))
def vx_X {S : Type} (px : S → Prop) (B : String → S → State → Prop) (A : Nat → Prop) : String → State → State → Prop := fun E st t => ∃ u : S, px u ∧ B E u t ∧ va_F A st t
section Runs
variable {p : Program} {l : Launch} {e : Env} {R : Room} {s : State} {m : MethodId} {args : Array Value} {below : List Frame} {meth : Method} {c : Code} {H : Heap} {locs : List Loc} {cells slots : Nat}
variable {y : MethodName} {bytes cc : ByteArray} {maxL nL mc ms n index : Nat} {ret : Option FieldType} {ws : List Cond} {rm : Room} {Pc : Array Value → State → Prop} {Qc : Array Value → State → Outcome → State → Prop} {XC : String → State → State → Prop} {free : Addr → Prop} {Ts : List Cond} {own C : String} {b : Addr} {As rest : List Value} {g : JFrame}
theorem vx_callBack (cb : CallB R s args own index y bytes maxL ret ws rm mc ms n) (hM : vx_Met l y ws rm Pc Qc XC mc ms free) (hbl : FrameBlind Pc) : vx_Back l R p e below s args y 3 8 (PreOf R mc ms Pc) (PostOf Qc mc ms free) (vx_Post XC mc ms free) := by
  obtain ⟨hrc, hrs, hfr, hlo, hws, hcw, -, hini, -⟩ := cb
  exact vx_back (bytes := bytes) (maxL := maxL) (ret := ret) hM hbl hrc hrs hfr hlo hws hcw (fun a' U hW => word_at hW (Or.inl (by first | rfl | simp [Cond.onTables, Cond.keeps, Cond.steady])) hini)
theorem vx_runV (S : CallFix p m c cc nL s args Ts own) (hM : vx_Met l y ws rm Pc Qc XC mc ms free) (cw : CallW R s args own C index y bytes maxL ret ws rm mc ms n) (hp : PreV s H C b Pc As)
    (hg : g.method = m) (hn : As.length = n) (hsize : g.locals.size = nL) (hstack : g.stack = As.reverse ++ .ref b :: rest) (hW : 2 * g.monitorRoom + (rest.map fun v => v.category).sum ≤ 8) (hdg : decode cc g.pc = .ok (.invokevirtual index, 3)) (hf : cells + mc ≤ R.cells ∧ slots + ms ≤ R.slots) :
    vx_Run p l e R s m args below meth c H locs cells slots mc ms g rest (Qc (Value.ref b :: As).toArray) XC free := by
  have hK : vx_Back l R p e below s args y 3 8 (PreOf R mc ms Pc) (PostOf Qc mc ms free) (vx_Post XC mc ms free) := vx_callBack cw.1 hM hp.1
  obtain ⟨⟨-, -, -, -, -, -, hcode, -, hy, hlen, hl⟩, hin, hse⟩ := cw
  obtain ⟨hx, hb, hml, ho, -⟩ := S
  obtain ⟨-, ⟨cellB, hcB, hoB, hclB⟩, hPc⟩ := hp
  intro T hT X
  rcases vx_callV X hx (C := C) (bytes := bytes) (maxL := maxL) (ret := ret) ho hl hin hse hcode hy hK (by rw [hT]; exact hcB) hoB hclB hg (hsize.trans hml.symm) (argsL := As) (rest := rest) (fun sig h => hn.trans (hlen sig h)) hstack hW (by rw [hb]; exact hdg)
    (fun vm₁ hW₁ => ⟨hf.1, hf.2, hPc (T.setVm vm₁) hT hW₁⟩) with ⟨v, vm₁, ⟨U', l2, c2, s2⟩, hW₁, X', ⟨g', mk, t, L, e1, e2, hq, h1, hL, h2, h3⟩, st⟩ | ⟨q, vm₁, ⟨U', l2, c2, s2⟩, hW₁, X', ⟨g', mk, t, L, E, ce, e1, e2, hq, hce, hcv, hcl, h1, hL, h2, h3⟩, st⟩
  · dsimp only [Pt.U, Pt.locs, Pt.cells, Pt.slots] at X' e1 e2 h1 h2 h3 st
    subst h1; subst h2; subst h3
    exact Or.inl ⟨v, (T.setVm vm₁).calling g' mk (Value.ref b :: As).toArray, t, U', L, hT, X', hL, e1, e2, hq, st⟩
  · dsimp only [Pt.U, Pt.locs, Pt.cells, Pt.slots] at X' e1 e2 h1 h2 h3 st hcl
    subst h1; subst h2; subst h3
    exact Or.inr ⟨q, (T.setVm vm₁).calling g' mk (Value.ref b :: As).toArray, t, U', L, E, ce, hT, X', hL, e1, e2, hq, hce, hcv, vx_cls hW₁ hcl, st⟩
theorem vx_runS (S : CallFix p m c cc nL s args Ts own) (hM : vx_Met l y ws rm Pc Qc XC mc ms free) (cw : CallB R s args own index y bytes maxL ret ws rm mc ms n ∧ (Cond.static y).before args s = true) (hp : PreS s H Pc As)
    (hg : g.method = m) (hn : As.length = n) (hsize : g.locals.size = nL) (hstack : g.stack = As.reverse ++ rest) (hW : 2 * g.monitorRoom + (rest.map fun v => v.category).sum ≤ 8) (hdg : decode cc g.pc = .ok (.invokestatic index, 3)) (hf : cells + mc ≤ R.cells ∧ slots + ms ≤ R.slots) :
    vx_Run p l e R s m args below meth c H locs cells slots mc ms g rest (Qc As.toArray) XC free := by
  have hK : vx_Back l R p e below s args y 3 8 (PreOf R mc ms Pc) (PostOf Qc mc ms free) (vx_Post XC mc ms free) := vx_callBack cw.1 hM hp.1
  obtain ⟨⟨-, -, -, -, -, -, hcode, hini, hy, hlen, hl⟩, hstt⟩ := cw
  obtain ⟨hx, hb, hml, ho, -⟩ := S
  intro T hT X
  rcases vx_callS X hx (bytes := bytes) (maxL := maxL) (ret := ret) ho hl hstt hini hcode hy hK hg (hsize.trans hml.symm) (argsL := As) (rest := rest) (fun sig h => hn.trans (hlen sig h)) hstack hW (by rw [hb]; exact hdg)
    (fun vm₁ hW₁ => ⟨hf.1, hf.2, hp.2 (T.setVm vm₁) hT hW₁⟩) with ⟨v, vm₁, ⟨U', l2, c2, s2⟩, hW₁, X', ⟨g', mk, t, L, e1, e2, hq, h1, hL, h2, h3⟩, st⟩ | ⟨q, vm₁, ⟨U', l2, c2, s2⟩, hW₁, X', ⟨g', mk, t, L, E, ce, e1, e2, hq, hce, hcv, hcl, h1, hL, h2, h3⟩, st⟩
  · dsimp only [Pt.U, Pt.locs, Pt.cells, Pt.slots] at X' e1 e2 h1 h2 h3 st
    subst h1; subst h2; subst h3
    exact Or.inl ⟨v, (T.setVm vm₁).calling g' mk As.toArray, t, U', L, hT, X', hL, e1, e2, hq, st⟩
  · dsimp only [Pt.U, Pt.locs, Pt.cells, Pt.slots] at X' e1 e2 h1 h2 h3 st hcl
    subst h1; subst h2; subst h3
    exact Or.inr ⟨q, (T.setVm vm₁).calling g' mk As.toArray, t, U', L, E, ce, hT, X', hL, e1, e2, hq, hce, hcv, vx_cls hW₁ hcl, st⟩
end Runs
section Rows
variable {p : Program} {l : Launch} {e : Env} {R : Room} {s : State} {m : MethodId} {args : Array Value} {below : List Frame} {meth : Method} {c : Code} {H : Heap} {locs : List Loc} {cells slots : Nat} {Q : State → Prop}
variable {mc ms : Nat} {free : Addr → Prop} {A0 A1 : Nat → Prop} {H0 : Heap} {a : Array Value} {pc : Nat} {ls : Array Slot} {st0 rest : List Value}
theorem vx_keep {st₀ t T' : State} {L : List Loc} (h0 : st₀.heap = H) (e1 : T'.heap = t.heap) (hS : va_S A0 H0 H locs) (hA : ∀ q, q < H.size → A1 q → A0 q) (hf : ∀ q, free q → A0 q) (hL : ∀ q ∈ L, free q.base) (hF : va_F A1 st₀ t) :
    H.size ≤ T'.heap.size ∧ (∀ q : Nat, q < H.size → ¬ A1 q → T'.heap[q]? = H[q]?) ∧ va_S A0 H0 T'.heap (locs ++ L) := by
  obtain ⟨hz, hk⟩ := hF
  rw [h0] at hz hk
  exact ⟨by rw [e1]; exact hz, fun q h1 h2 => by rw [e1]; exact hk q h1 h2,
    ⟨Nat.le_trans hS.1 (by rw [e1]; exact hz), fun q h1 h2 => by rw [e1, hk q (Nat.lt_of_lt_of_le h1 hS.1) (fun z => h2 (hA q (Nat.lt_of_lt_of_le h1 hS.1) z))]; exact hS.2.1 q h1 h2, fun q hq => by
      rcases List.mem_append.mp hq with h | h
      · exact hS.2.2 q h
      · exact hf _ (hL q h)⟩⟩
theorem vx_calli {S SX : Type} {post : Int32 → S → Prop} {px : SX → Prop} {B : S → State → Prop} {BX : String → SX → State → Prop} {AX : Nat → Prop} (hr : vx_Run p l e R s m args below meth c H locs cells slots mc ms (F0 m pc ls st0) rest (va_Qi post B A1 a) (vx_X px BX AX) free) (hS : va_S A0 H0 H locs) (hA : ∀ q, q < H.size → A1 q → A0 q) (hf : ∀ q, free q → A0 q) (hAX : ∀ q, q < H.size → AX q → A0 q)
    (kx : ∀ (E : String) (ce : Cell) (q9 : Addr) (u : SX) (t : State) (H1 : Heap) (locs1 : List Loc), t.heap = H1 → s.vm.Alike t.vm → px u → BX E u t → H.size ≤ H1.size → (∀ q : Nat, q < H.size → ¬ AX q → H1[q]? = H[q]?) → va_S A0 H0 H1 locs1 → H1[q9]? = some ce → ce.vm = .none → s.vm.findClass E = some ce.cls → vx_W p l e R s m args below meth c H1 locs1 (cells + mc) (slots + ms) Q (F0 m pc ls rest) q9)
    (kk : ∀ (r : Int32) (u : S) (t : State) (H1 : Heap) (locs1 : List Loc), t.heap = H1 → s.vm.Alike t.vm → post r u → B u t → H.size ≤ H1.size → (∀ q : Nat, q < H.size → ¬ A1 q → H1[q]? = H[q]?) → va_S A0 H0 H1 locs1 → W p l e R s m args below meth c H1 locs1 (cells + mc) (slots + ms) Q (F0 m (pc + 3) ls (.int r :: rest))) : W p l e R s m args below meth c H locs cells slots Q (F0 m pc ls st0) := by
  intro T hT X
  rcases hr T hT X with ⟨v, st₀, t, T', L, h0, X', hL, e1, e2, ⟨⟨r, u, hv, hp, hb⟩, hF⟩, st⟩ | ⟨q, st₀, t, T', L, E, ce, h0, X', hL, e1, e2, ⟨u, hp, hb, hF⟩, hce, hcv, hcl, st⟩
  · cases hv
    obtain ⟨k1, k2, k3⟩ := vx_keep h0 e1 hS hA hf hL hF
    obtain ⟨t2, a1, b1⟩ := kk r u t T'.heap (locs ++ L) e1.symm (by rw [← e2]; exact X'.warmed.alike) hp hb k1 k2 k3 T' rfl X'
    exact ⟨t2, st t2 a1, b1⟩
  · obtain ⟨k1, k2, k3⟩ := vx_keep h0 e1 hS hAX hf hL hF
    obtain ⟨t2, a1, b1⟩ := kx E ce q u t T'.heap (locs ++ L) e1.symm (by rw [← e2]; exact X'.warmed.alike) hp hb k1 k2 k3 (by rw [e1]; exact hce) hcv hcl T' rfl X'
    exact ⟨t2, st.trans a1, b1⟩
theorem vx_calll {S SX : Type} {post : Int64 → S → Prop} {px : SX → Prop} {B : S → State → Prop} {BX : String → SX → State → Prop} {AX : Nat → Prop} (hr : vx_Run p l e R s m args below meth c H locs cells slots mc ms (F0 m pc ls st0) rest (va_Ql post B A1 a) (vx_X px BX AX) free) (hS : va_S A0 H0 H locs) (hA : ∀ q, q < H.size → A1 q → A0 q) (hf : ∀ q, free q → A0 q) (hAX : ∀ q, q < H.size → AX q → A0 q)
    (kx : ∀ (E : String) (ce : Cell) (q9 : Addr) (u : SX) (t : State) (H1 : Heap) (locs1 : List Loc), t.heap = H1 → s.vm.Alike t.vm → px u → BX E u t → H.size ≤ H1.size → (∀ q : Nat, q < H.size → ¬ AX q → H1[q]? = H[q]?) → va_S A0 H0 H1 locs1 → H1[q9]? = some ce → ce.vm = .none → s.vm.findClass E = some ce.cls → vx_W p l e R s m args below meth c H1 locs1 (cells + mc) (slots + ms) Q (F0 m pc ls rest) q9)
    (kk : ∀ (r : Int64) (u : S) (t : State) (H1 : Heap) (locs1 : List Loc), t.heap = H1 → s.vm.Alike t.vm → post r u → B u t → H.size ≤ H1.size → (∀ q : Nat, q < H.size → ¬ A1 q → H1[q]? = H[q]?) → va_S A0 H0 H1 locs1 → W p l e R s m args below meth c H1 locs1 (cells + mc) (slots + ms) Q (F0 m (pc + 3) ls (.long r :: rest))) : W p l e R s m args below meth c H locs cells slots Q (F0 m pc ls st0) := by
  intro T hT X
  rcases hr T hT X with ⟨v, st₀, t, T', L, h0, X', hL, e1, e2, ⟨⟨r, u, hv, hp, hb⟩, hF⟩, st⟩ | ⟨q, st₀, t, T', L, E, ce, h0, X', hL, e1, e2, ⟨u, hp, hb, hF⟩, hce, hcv, hcl, st⟩
  · cases hv
    obtain ⟨k1, k2, k3⟩ := vx_keep h0 e1 hS hA hf hL hF
    obtain ⟨t2, a1, b1⟩ := kk r u t T'.heap (locs ++ L) e1.symm (by rw [← e2]; exact X'.warmed.alike) hp hb k1 k2 k3 T' rfl X'
    exact ⟨t2, st t2 a1, b1⟩
  · obtain ⟨k1, k2, k3⟩ := vx_keep h0 e1 hS hAX hf hL hF
    obtain ⟨t2, a1, b1⟩ := kx E ce q u t T'.heap (locs ++ L) e1.symm (by rw [← e2]; exact X'.warmed.alike) hp hb k1 k2 k3 (by rw [e1]; exact hce) hcv hcl T' rfl X'
    exact ⟨t2, st.trans a1, b1⟩
theorem vx_callf {S SX : Type} {post : UInt32 → S → Prop} {px : SX → Prop} {B : S → State → Prop} {BX : String → SX → State → Prop} {AX : Nat → Prop} (hr : vx_Run p l e R s m args below meth c H locs cells slots mc ms (F0 m pc ls st0) rest (va_Qf post B A1 a) (vx_X px BX AX) free) (hS : va_S A0 H0 H locs) (hA : ∀ q, q < H.size → A1 q → A0 q) (hf : ∀ q, free q → A0 q) (hAX : ∀ q, q < H.size → AX q → A0 q)
    (kx : ∀ (E : String) (ce : Cell) (q9 : Addr) (u : SX) (t : State) (H1 : Heap) (locs1 : List Loc), t.heap = H1 → s.vm.Alike t.vm → px u → BX E u t → H.size ≤ H1.size → (∀ q : Nat, q < H.size → ¬ AX q → H1[q]? = H[q]?) → va_S A0 H0 H1 locs1 → H1[q9]? = some ce → ce.vm = .none → s.vm.findClass E = some ce.cls → vx_W p l e R s m args below meth c H1 locs1 (cells + mc) (slots + ms) Q (F0 m pc ls rest) q9)
    (kk : ∀ (r : UInt32) (u : S) (t : State) (H1 : Heap) (locs1 : List Loc), t.heap = H1 → s.vm.Alike t.vm → post r u → B u t → H.size ≤ H1.size → (∀ q : Nat, q < H.size → ¬ A1 q → H1[q]? = H[q]?) → va_S A0 H0 H1 locs1 → W p l e R s m args below meth c H1 locs1 (cells + mc) (slots + ms) Q (F0 m (pc + 3) ls (.float r :: rest))) : W p l e R s m args below meth c H locs cells slots Q (F0 m pc ls st0) := by
  intro T hT X
  rcases hr T hT X with ⟨v, st₀, t, T', L, h0, X', hL, e1, e2, ⟨⟨r, u, hv, hp, hb⟩, hF⟩, st⟩ | ⟨q, st₀, t, T', L, E, ce, h0, X', hL, e1, e2, ⟨u, hp, hb, hF⟩, hce, hcv, hcl, st⟩
  · cases hv
    obtain ⟨k1, k2, k3⟩ := vx_keep h0 e1 hS hA hf hL hF
    obtain ⟨t2, a1, b1⟩ := kk r u t T'.heap (locs ++ L) e1.symm (by rw [← e2]; exact X'.warmed.alike) hp hb k1 k2 k3 T' rfl X'
    exact ⟨t2, st t2 a1, b1⟩
  · obtain ⟨k1, k2, k3⟩ := vx_keep h0 e1 hS hAX hf hL hF
    obtain ⟨t2, a1, b1⟩ := kx E ce q u t T'.heap (locs ++ L) e1.symm (by rw [← e2]; exact X'.warmed.alike) hp hb k1 k2 k3 (by rw [e1]; exact hce) hcv hcl T' rfl X'
    exact ⟨t2, st.trans a1, b1⟩
theorem vx_calld {S SX : Type} {post : UInt64 → S → Prop} {px : SX → Prop} {B : S → State → Prop} {BX : String → SX → State → Prop} {AX : Nat → Prop} (hr : vx_Run p l e R s m args below meth c H locs cells slots mc ms (F0 m pc ls st0) rest (va_Qd post B A1 a) (vx_X px BX AX) free) (hS : va_S A0 H0 H locs) (hA : ∀ q, q < H.size → A1 q → A0 q) (hf : ∀ q, free q → A0 q) (hAX : ∀ q, q < H.size → AX q → A0 q)
    (kx : ∀ (E : String) (ce : Cell) (q9 : Addr) (u : SX) (t : State) (H1 : Heap) (locs1 : List Loc), t.heap = H1 → s.vm.Alike t.vm → px u → BX E u t → H.size ≤ H1.size → (∀ q : Nat, q < H.size → ¬ AX q → H1[q]? = H[q]?) → va_S A0 H0 H1 locs1 → H1[q9]? = some ce → ce.vm = .none → s.vm.findClass E = some ce.cls → vx_W p l e R s m args below meth c H1 locs1 (cells + mc) (slots + ms) Q (F0 m pc ls rest) q9)
    (kk : ∀ (r : UInt64) (u : S) (t : State) (H1 : Heap) (locs1 : List Loc), t.heap = H1 → s.vm.Alike t.vm → post r u → B u t → H.size ≤ H1.size → (∀ q : Nat, q < H.size → ¬ A1 q → H1[q]? = H[q]?) → va_S A0 H0 H1 locs1 → W p l e R s m args below meth c H1 locs1 (cells + mc) (slots + ms) Q (F0 m (pc + 3) ls (.double r :: rest))) : W p l e R s m args below meth c H locs cells slots Q (F0 m pc ls st0) := by
  intro T hT X
  rcases hr T hT X with ⟨v, st₀, t, T', L, h0, X', hL, e1, e2, ⟨⟨r, u, hv, hp, hb⟩, hF⟩, st⟩ | ⟨q, st₀, t, T', L, E, ce, h0, X', hL, e1, e2, ⟨u, hp, hb, hF⟩, hce, hcv, hcl, st⟩
  · cases hv
    obtain ⟨k1, k2, k3⟩ := vx_keep h0 e1 hS hA hf hL hF
    obtain ⟨t2, a1, b1⟩ := kk r u t T'.heap (locs ++ L) e1.symm (by rw [← e2]; exact X'.warmed.alike) hp hb k1 k2 k3 T' rfl X'
    exact ⟨t2, st t2 a1, b1⟩
  · obtain ⟨k1, k2, k3⟩ := vx_keep h0 e1 hS hAX hf hL hF
    obtain ⟨t2, a1, b1⟩ := kx E ce q u t T'.heap (locs ++ L) e1.symm (by rw [← e2]; exact X'.warmed.alike) hp hb k1 k2 k3 (by rw [e1]; exact hce) hcv hcl T' rfl X'
    exact ⟨t2, st.trans a1, b1⟩
theorem vx_callv {S SX : Type} {post : S → Prop} {px : SX → Prop} {B : S → State → Prop} {BX : String → SX → State → Prop} {AX : Nat → Prop} (hr : vx_Run p l e R s m args below meth c H locs cells slots mc ms (F0 m pc ls st0) rest (va_Qv post B A1 a) (vx_X px BX AX) free) (hS : va_S A0 H0 H locs) (hA : ∀ q, q < H.size → A1 q → A0 q) (hf : ∀ q, free q → A0 q) (hAX : ∀ q, q < H.size → AX q → A0 q)
    (kx : ∀ (E : String) (ce : Cell) (q9 : Addr) (u : SX) (t : State) (H1 : Heap) (locs1 : List Loc), t.heap = H1 → s.vm.Alike t.vm → px u → BX E u t → H.size ≤ H1.size → (∀ q : Nat, q < H.size → ¬ AX q → H1[q]? = H[q]?) → va_S A0 H0 H1 locs1 → H1[q9]? = some ce → ce.vm = .none → s.vm.findClass E = some ce.cls → vx_W p l e R s m args below meth c H1 locs1 (cells + mc) (slots + ms) Q (F0 m pc ls rest) q9)
    (kk : ∀ (u : S) (t : State) (H1 : Heap) (locs1 : List Loc), t.heap = H1 → s.vm.Alike t.vm → post u → B u t → H.size ≤ H1.size → (∀ q : Nat, q < H.size → ¬ A1 q → H1[q]? = H[q]?) → va_S A0 H0 H1 locs1 → W p l e R s m args below meth c H1 locs1 (cells + mc) (slots + ms) Q (F0 m (pc + 3) ls (rest))) : W p l e R s m args below meth c H locs cells slots Q (F0 m pc ls st0) := by
  intro T hT X
  rcases hr T hT X with ⟨v, st₀, t, T', L, h0, X', hL, e1, e2, ⟨⟨u, hv, hp, hb⟩, hF⟩, st⟩ | ⟨q, st₀, t, T', L, E, ce, h0, X', hL, e1, e2, ⟨u, hp, hb, hF⟩, hce, hcv, hcl, st⟩
  · cases hv
    obtain ⟨k1, k2, k3⟩ := vx_keep h0 e1 hS hA hf hL hF
    obtain ⟨t2, a1, b1⟩ := kk u t T'.heap (locs ++ L) e1.symm (by rw [← e2]; exact X'.warmed.alike) hp hb k1 k2 k3 T' rfl X'
    exact ⟨t2, st t2 a1, b1⟩
  · obtain ⟨k1, k2, k3⟩ := vx_keep h0 e1 hS hAX hf hL hF
    obtain ⟨t2, a1, b1⟩ := kx E ce q u t T'.heap (locs ++ L) e1.symm (by rw [← e2]; exact X'.warmed.alike) hp hb k1 k2 k3 (by rw [e1]; exact hce) hcv hcl T' rfl X'
    exact ⟨t2, st.trans a1, b1⟩
/-- caught by the row x of this method's table; the rows ahead don't take it -/
theorem vx_catch {own name : String} {E : String} {ce : Cell} {q : Addr} (hown : s.vm.findClass own = some m.cls) (pre : List ExceptionTableEntry) (x : ExceptionTableEntry) (suf : List ExceptionTableEntry) (hsplit : c.exceptionTable.toList = pre ++ x :: suf)
    (hpass : ∀ z ∈ pre, covers z pc = false ∨ (z.catchType ≠ 0 ∧ ∃ nm : String, (Cond.classLink own z.catchType nm).before args s = true ∧ va_Nc E nm s)) (hx : covers x pc = true) (h0 : x.catchType ≠ 0)
    (hlink : (Cond.classLink own x.catchType name).before args s = true) (hcast : (Cond.castable E name).before args s = true) (hcell : H[q]? = some ce) (hv : ce.vm = .none) (hcl : s.vm.findClass E = some ce.cls)
    (kk : W p l e R s m args below meth c H locs cells slots Q (F0 m x.handlerPc ls [.ref q])) : vx_W p l e R s m args below meth c H locs cells slots Q (F0 m pc ls rest) q := by
  intro T hT X
  have hpl : e.platform.magicAccessors = ({} : Platform).magicAccessors := by rw [X.admits.platform]
  obtain ⟨c3, c4, hc3, hc4, hasg⟩ := Cond.castable_spec hcast
  cases Option.some.inj (hc3.symm.trans hcl)
  obtain ⟨c5, hc5, hcl5⟩ := Cond.classLink_spec hown hlink e.platform hpl
  cases Option.some.inj (hc4.symm.trans hc5)
  obtain ⟨vm', X', st⟩ := X.thenCaughtThrough q (g := F0 m pc ls rest) rfl (Steps.refl _) (by rw [hT]; exact hcell) (by rw [hv]; rfl) (by obtain ⟨k9, h9, -⟩ := Vm.findClass_spec hcl; exact ⟨k9, h9⟩) pre x suf hsplit
    (fun z hz => by
      rcases hpass z hz with h | ⟨hz0, nm, hl1, hn1⟩
      · exact Or.inl h
      · obtain ⟨c6, hc6, hcl6⟩ := Cond.classLink_spec hown hl1 e.platform hpl
        obtain ⟨a8, b8, h1, h2, h3⟩ := hn1
        cases Option.some.inj (h1.symm.trans hcl)
        cases Option.some.inj (h2.symm.trans hc6)
        exact Or.inr ⟨hz0, _, hcl6, h3⟩) hx (Or.inr ⟨h0, c4, hcl5, hasg⟩)
  obtain ⟨t, a1, b1⟩ := kk (T.setVm vm') hT X'
  exact ⟨t, st.trans a1, b1⟩
end Rows
section Ends
variable {p : Program} {l : Launch} {e : Env} {R : Room} {s : State} {m : MethodId} {args : Array Value} {below : List Frame} {meth : Method} {c : Code} {H : Heap} {locs : List Loc} {cells slots : Nat} {Q : State → Prop}
variable {mc ms : Nat} {free : Addr → Prop} {A0 A1 : Nat → Prop} {H0 : Heap} {a : Array Value} {ls : Array Slot} {st0 rest : List Value}
variable {Qc : Array Value → State → Outcome → State → Prop} {XC : String → State → State → Prop}
/-- what a body that may throw owes at its end -/
def vx_MQ (below : List Frame) (Qc : Array Value → State → Outcome → State → Prop) (XC : String → State → State → Prop) (a : Array Value) (s : State) (mc ms : Nat) (free : Addr → Prop) : State → Prop := fun t =>
  ∃ o, t.status = .running ∧ Ended t below o ∧ vx_Q Qc XC mc ms free a s o t
theorem vx_ret {g : JFrame} {mc ms : Nat} (k : W p l e R s m args below meth c H locs cells slots (MQ below Qc args s mc ms free) g) : W p l e R s m args below meth c H locs cells slots (vx_MQ below Qc XC args s mc ms free) g := by
  intro T hT X
  obtain ⟨t, a1, o, b1, b2, b3, b4⟩ := k T hT X
  exact ⟨t, a1, o, b1, b2, Or.inl ⟨b3, b4⟩⟩
/-- not caught here: it goes on to the caller -/
theorem vx_widen {g : JFrame} {q : Addr} {k n : Nat} (h1 : cells ≤ k) (h2 : slots ≤ n) (kk : vx_W p l e R s m args below meth c H locs k n Q g q) : vx_W p l e R s m args below meth c H locs cells slots Q g q := fun T hT X => kk T hT (stand_widen X h1 h2)
theorem vx_out {pc : Nat} {E : String} {ce : Cell} {q : Addr} {mc ms : Nat} (hout : ∀ x ∈ c.exceptionTable.toList, covers x pc = false) (hlocks : meth.locks = false) (hcell : H[q]? = some ce) (hv : ce.vm = .none) (hcl : s.vm.findClass E = some ce.cls)
    (hx : ∀ t : State, t.heap = H → s.vm.Alike t.vm → XC E s t) (hf : ∀ z ∈ locs, free z.base) (hc : cells ≤ mc) (hs : slots ≤ ms) :
    vx_W p l e R s m args below meth c H locs cells slots (vx_MQ below Qc XC args s mc ms free) (F0 m pc ls rest) q := by
  intro T hT X
  obtain ⟨st1, hrun, hend, hW, hsm⟩ := X.leaveThrown q (g := F0 m pc ls rest) rfl rfl rfl hout hlocks
  have hcell9 : (T.setFrames (.throwing q :: below)).heap[q]? = some ce := by
    show T.heap[q]? = some ce
    rw [hT]; exact hcell
  exact ⟨_, st1, .threw q, hrun, hend, Or.inr ⟨q, rfl, E, ce, locs, hx _ hT hW.alike, hcell9, hv, hcl, hW, hsm.mono hc hs, hf⟩⟩
theorem vx_frame {U : State} {k n : Nat} (h : s.sameButNew ({ U with vm := s.vm } : State) locs k n) : s.heap.size ≤ U.heap.size ∧ ∀ q : Nat, q < s.heap.size → (∀ z ∈ locs, z.base ≠ q) → U.heap[q]? = s.heap[q]? := by
  obtain ⟨-, h2, -, -, -, h6⟩ := h
  refine ⟨h2, fun q hq hz => ?_⟩
  obtain ⟨c9, e1, e2, e3, e4⟩ := h6 q _ (Array.getElem?_eq_getElem hq)
  have hs : c9.slots = (s.heap[q]).slots := Array.ext_getElem? fun i => e4 i fun hm => hz _ hm rfl
  have h9 : c9 = s.heap[q] := by
    rw [hs] at e2
    exact e2
  have e5 : U.heap[q]? = some c9 := e1
  rw [e5, h9, Array.getElem?_eq_getElem hq]
/-- the words of a throw but the four that speak of the heap -/
def vx_no (w : Cond) : Bool := decide (w ≠ .isRef (.static Bundle.tN "UNASSIGNED_STACK" Bundle.steD)) && decide (w ≠ .isRef (.static Bundle.tN "SUPPRESSED_SENTINEL" Bundle.listD)) && decide (w ≠ .laysStatic Bundle.tN "UNASSIGNED_STACK" Bundle.steD) && decide (w ≠ .laysStatic Bundle.tN "SUPPRESSED_SENTINEL" Bundle.listD)
def vx_at0 (own : String) (ic : Nat) (X : String) (names : List String) : List Cond := (Bundle.ownAtoms0 own ic X names).filter vx_no
def vx_atS (own : String) (ic : Nat) (X : String) (names : List String) : List Cond := (Bundle.ownAtoms own ic X names).filter vx_no
/-- a word that the tables alone decide, or a good one -/
def vx_ot (w : Cond) : Bool := w.onTables || goodWord w
theorem vx_ot_at {args a' : Array Value} {s U : State} {w : Cond} (hW : s.WarmedH U.vm) (hvm : s.vm = U.vm) (hg : vx_ot w = true) (h : w.before args s = true) : w.before a' U = true := by
  simp only [vx_ot, Bool.or_eq_true] at hg
  rcases hg with hg | hg
  · exact va_tabs hg hvm h
  · exact word_at hW (good_of_word hg) h
/-- a list's words: the good ones out of the method's own list, the others by premises of their own -/
theorem vx_hat {args : Array Value} {s : State} {L B : List Cond} (h1 : ∀ w ∈ L.filter goodWord, w.before args s = true) (h2 : ∀ w ∈ L.filter (fun w => !goodWord w), w ∈ B) (h3 : ∀ w ∈ B, w.before args s = true) : ∀ w ∈ L, w.before args s = true := by
  intro w hw
  by_cases g : goodWord w = true
  · exact h1 w (List.mem_filter.mpr ⟨hw, g⟩)
  · refine h3 w (h2 w (List.mem_filter.mpr ⟨hw, ?_⟩))
    show (!goodWord w) = true
    cases hgw : goodWord w
    · rfl
    · exact absurd hgw g
theorem vx_c {args : Array Value} {s : State} {w : Cond} {B : List Cond} (h : w.before args s = true) (t : ∀ w ∈ B, w.before args s = true) : ∀ w' ∈ w :: B, w'.before args s = true := fun w' h' => (List.mem_cons.mp h').elim (fun e => by rw [e]; exact h) (t w')
theorem vx_n {args : Array Value} {s : State} : ∀ w ∈ ([] : List Cond), w.before args s = true := fun _ h => nomatch h
theorem vx_own {args : Array Value} {s : State} {L : List Cond} (h1 : ∀ w ∈ L.filter vx_no, w.before args s = true)
    (hU : (Cond.isRef (.static Bundle.tN "UNASSIGNED_STACK" Bundle.steD)).before args s = true) (hN : (Cond.isRef (.static Bundle.tN "SUPPRESSED_SENTINEL" Bundle.listD)).before args s = true)
    (lU : (Cond.laysStatic Bundle.tN "UNASSIGNED_STACK" Bundle.steD).before args s = true) (lN : (Cond.laysStatic Bundle.tN "SUPPRESSED_SENTINEL" Bundle.listD).before args s = true) : ∀ w ∈ L, w.before args s = true := by
  intro w hw
  by_cases e1 : w = .isRef (.static Bundle.tN "UNASSIGNED_STACK" Bundle.steD)
  · rw [e1]; exact hU
  · by_cases e2 : w = .isRef (.static Bundle.tN "SUPPRESSED_SENTINEL" Bundle.listD)
    · rw [e2]; exact hN
    · by_cases e3 : w = .laysStatic Bundle.tN "UNASSIGNED_STACK" Bundle.steD
      · rw [e3]; exact lU
      · by_cases e4 : w = .laysStatic Bundle.tN "SUPPRESSED_SENTINEL" Bundle.listD
        · rw [e4]; exact lN
        · exact h1 w (List.mem_filter.mpr ⟨hw, by unfold vx_no; rw [decide_eq_true e1, decide_eq_true e2, decide_eq_true e3, decide_eq_true e4]; rfl⟩)
/-- where a static field lies, its class's statics cell in H -/
def vx_L (C n d : String) (A : Nat → Prop) (U : State) (H : Heap) : Prop := ∃ (c : ClassId) (k : Class) (i : Nat) (f : Field) (a : Nat) (cell : Cell), U.vm.findClass C = some c ∧ U.fieldFound? C n d = some (c, k, i, f) ∧ f.isStatic = true ∧ k.statics = some a ∧ H[a]? = some cell ∧ cell.vm.isStatics = true ∧ cell.cls = c ∧ f.slot < cell.slots.size ∧ k.staticTypes[f.slot]? = some f.type ∧ ¬ A a
theorem vx_L.moved {C n d : String} {A : Nat → Prop} {u U : State} {H : Heap} (hvm : u.vm.Alike U.vm) (h : vx_L C n d A u H) : vx_L C n d A U H := by
  obtain ⟨c, k, i, f, a, cell, h1, h2, h3, h4, h5, h6, h7, h8, h9, h10⟩ := h
  obtain ⟨k', hi', he⟩ := State.fieldFound?_setVm hvm h2
  exact ⟨c, k', i, f, a, cell, by rw [hvm.findClass]; exact h1, hi', h3, by rw [he]; exact h4, h5, h6, h7, h8, by rw [he]; exact h9, h10⟩
theorem vx_L.kept {C n d : String} {A : Nat → Prop} {U : State} {H H1 : Heap} (h : vx_L C n d A U H) (hq : ∀ a : Nat, a < H.size → ¬ A a → H1[a]? = H[a]?) : vx_L C n d A U H1 := by
  obtain ⟨c, k, i, f, a, cell, h1, h2, h3, h4, h5, h6, h7, h8, h9, h10⟩ := h
  exact ⟨c, k, i, f, a, cell, h1, h2, h3, h4, by rw [hq a (Array.getElem?_eq_some_iff.mp h5).1 h10]; exact h5, h6, h7, h8, h9, h10⟩
theorem vx_L.narrow {C n d : String} {A B : Nat → Prop} {U : State} {H : Heap} (h : vx_L C n d A U H) (hAB : ∀ q, B q → A q) : vx_L C n d B U H := by
  obtain ⟨c, k, i, f, a, cell, h1, h2, h3, h4, h5, h6, h7, h8, h9, h10⟩ := h
  exact ⟨c, k, i, f, a, cell, h1, h2, h3, h4, h5, h6, h7, h8, h9, fun z => h10 (hAB _ z)⟩
theorem vx_L.word {C n d : String} {A : Nat → Prop} {s : State} {args : Array Value} (h : vx_L C n d A s s.heap) : (Cond.laysStatic C n d).before args s = true := by
  obtain ⟨c, k, i, f, a, cell, h1, h2, h3, h4, h5, h6, h7, h8, h9, -⟩ := h
  show (Cond.laysStatic C n d).holds args s none s [] = true
  exact Cond.laysStatic_of h1 h2 h3 h4 h5 h6 h7 h8 h9
/-- .. and what it holds: null or some reference -/
def vx_Zq (C n d : String) (A : Nat → Prop) (U : State) (H : Heap) : Prop := va_Zq C n d A U H ∧ vx_L C n d A U H
theorem vx_Zq.moved {C n d : String} {A : Nat → Prop} {u U : State} {H : Heap} (hvm : u.vm.Alike U.vm) (h : vx_Zq C n d A u H) : vx_Zq C n d A U H := ⟨va_Zq.moved hvm h.1, vx_L.moved hvm h.2⟩
theorem vx_Zq.kept {C n d : String} {A : Nat → Prop} {U : State} {H H1 : Heap} (h : vx_Zq C n d A U H) (hq : ∀ a : Nat, a < H.size → ¬ A a → H1[a]? = H[a]?) : vx_Zq C n d A U H1 := ⟨va_Zq.kept h.1 hq, vx_L.kept h.2 hq⟩
theorem vx_Zq.narrow {C n d : String} {A B : Nat → Prop} {U : State} {H : Heap} (h : vx_Zq C n d A U H) (hAB : ∀ q, B q → A q) : vx_Zq C n d B U H := ⟨va_Zq.narrow h.1 hAB, vx_L.narrow h.2 hAB⟩
theorem vx_Zqof {args : Array Value} {s : State} {C n d : String} {A : Nat → Prop} (hl : (Cond.laysStatic C n d).before args s = true) (hini : (Cond.initialized C).before args s = true) (h : (Cond.isRef (.static C n d)).before args s = true) (hA : ∀ a : Nat, a < s.heap.size → ¬ A a) : vx_Zq C n d A s s.heap := by
  refine ⟨va_Zqof hl hini h hA, ?_⟩
  obtain ⟨c, k, i, f, a, cell, h1, h2, h3, h4, h5, h6, h7, h8, h9⟩ := Cond.laysStatic_spec hl
  exact ⟨c, k, i, f, a, cell, h1, h2, h3, h4, h5, h6, h7, h8, h9, hA a (Array.getElem?_eq_some_iff.mp h5).1⟩
theorem vx_isRef {C n d : String} {v : Value} {A : Nat → Prop} {s : State} {args : Array Value} (h : va_Z C n d v A s s.heap) (hv : v.isRef = true) : (Cond.isRef (.static C n d)).before args s = true := by
  obtain ⟨cf, kf, fi, f, a, cell, h1, h2, h3, h4, h5, h6, h7, -⟩ := h
  have he : (Term.static C n d).eval args s none [] s = some v := by
    simp [Term.eval, State.fieldNamed?, h1, h2, h4, h5, h6, h7]
  simp only [Cond.before, Cond.holds, Cond.value, he]
  cases v <;> simp_all [Value.isRef]
theorem vx_isRefq {C n d : String} {A : Nat → Prop} {s : State} {args : Array Value} (h : va_Zq C n d A s s.heap) : (Cond.isRef (.static C n d)).before args s = true := by
  rcases h with h | ⟨t, h⟩
  · exact vx_isRef h rfl
  · exact vx_isRef h rfl
/-- the same frame, seen from here: as if the method were called anew in this heap -/
theorem vx_rebase {T : State} (X : Stand p l e R s m args below meth c T locs cells slots) {R' : Room} (hf : R'.frames ≤ R.frames) (hl : R'.locals ≤ R.locals) (hc : cells + R'.cells ≤ R.cells) (hs : slots + R'.slots ≤ R.slots) :
    Stand p l e R' ((T.setVm s.vm).setFrames (.invoking m args :: below)) m args below meth c T [] 0 0 := by
  have htop : (T.setVm s.vm).topJava?.isSome := X.here.top
  have hF : ((T.setVm s.vm).setFrames (.invoking m args :: below)).frames = .invoking m args :: below := State.frames_setFrames _ (State.cur_lt_of_top htop)
  obtain ⟨g₀, hg0⟩ := Option.isSome_iff_exists.mp htop
  obtain ⟨r, hr⟩ := State.topJava?_eq_some.mp hg0
  have hl9 : e.platform.stackLimits (T.setVm s.vm).me = e.platform.stackLimits s.me := X.limits
  have hb9 : (T.setVm s.vm).me.stackBytes = s.me.stackBytes := X.bytes
  refine ⟨X.admits, X.cas, X.clock, hF, ?_, X.hears, X.method, X.code, X.here, X.tail, X.warmed, ?_, ?_, ?_⟩
  · have h := X.room
    have hU : ((T.setVm s.vm).setFrames (.invoking m args :: below)).localsInUse = s.localsInUse := by
      rw [State.localsInUse_invoking hF (meth := meth) (c := c) X.method X.code, State.localsInUse_invoking X.frames X.method X.code]
    simp only [State.hasRoom, Bool.and_eq_true, decide_eq_true_eq] at h ⊢
    obtain ⟨⟨⟨⟨h1, h2, h3, h4, h5, h6⟩, h7⟩, h8⟩, h9⟩ := h
    rw [X.frames, List.length_cons] at h2 h3
    have q1 := X.heapSize
    have q2 := X.used
    simp only [hF, hU, List.length_cons, State.stackLimits_setFrames, State.stackBytes_setFrames, hl9, hb9]
    refine ⟨⟨⟨⟨by omega, by omega, by omega, by omega, by omega, h6⟩, ?_⟩, ?_⟩, X.book⟩
    · show T.heap.size + R'.cells ≤ e.platform.maxCells
      omega
    · show T.slotsUsed + R'.slots ≤ e.platform.maxSlots
      omega
  · rw [State.stackLimits_setFrames]; rfl
  · rw [State.stackBytes_setFrames]; rfl
  · refine ⟨?_, Nat.le_refl _, Nat.le_refl _, ?_, ?_, fun a c9 h9 => ⟨c9, h9, rfl, rfl, fun _ _ => rfl⟩⟩
    · obtain ⟨t, ht, -⟩ := State.frames_cons hr
      show T.setVm s.vm = { ((T.setVm s.vm).setFrames (.invoking m args :: below)).setFrames (T.setVm s.vm).frames with heap := T.heap, slotsUsed := T.slotsUsed }
      rw [State.setFrames_setFrames, State.setFrames_self ht]
      rfl
    · show T.slotsUsed = T.slotsUsed + ((T.heap.toList.drop T.heap.size).map (·.slots.size)).sum
      rw [List.drop_eq_nil_of_le (Nat.le_of_eq Array.length_toList)]
      rfl
    · show ((T.heap.toList.drop T.heap.size).map (·.slots.size)).sum ≤ 0
      rw [List.drop_eq_nil_of_le (Nat.le_of_eq Array.length_toList)]
      exact Nat.le_refl _
/-- 'throw new E()': new; dup; invokespecial; athrow -/
theorem vx_throw0 {cc : ByteArray} {pc : Nat} (hexec : p.tables.exec = Jvm.exec) (hb : c.code = cc) (hl : l.stackTraces = false) {own cls : String} {names : List String} {ik ic mc ms : Nat} {A : Nat → Prop}
    (hown : s.vm.findClass own = some m.cls) (hcls : Bundle.fit cls = true) (hnames : ∀ n ∈ names, Bundle.fit n = true)
    (hk : (Cond.classLink own ik cls).before args s = true) (hini : (Cond.initialized cls).before args s = true) (hat : ∀ w ∈ vx_at0 own ic cls names, w.before args s = true)
    (hgood : ∀ w ∈ Cond.classLink own ik cls :: Cond.initialized cls :: vx_at0 own ic cls names, vx_ot w = true)
    (hU : vx_Zq Bundle.tN "UNASSIGNED_STACK" Bundle.steD A s s.heap) (hN : vx_Zq Bundle.tN "SUPPRESSED_SENTINEL" Bundle.listD A s s.heap) (hS : va_S A s.heap H locs) (hsize : ls.size = c.maxLocals)
    (d0 : decode cc pc = .ok (.new ik, 3)) (d3 : decode cc (pc + 3) = .ok (.dup, 1)) (d4 : decode cc (pc + 4) = .ok (.invokespecial ic, 3)) (d7 : decode cc (pc + 7) = .ok (.athrow, 1))
    (hout : ∀ x ∈ c.exceptionTable.toList, covers x (pc + 7) = false)
    (hRframes : names.length + 3 < R.frames) (hRlocals : (rest.map fun v => v.category).sum + (13 * (names.length + 1) + 42) ≤ R.locals) (hRcells : cells + 1 ≤ R.cells) (hRslots : slots + 6 ≤ R.slots) (hlocks : meth.locks = false)
    (hx : ∀ t : State, s.vm.Alike t.vm → H.size ≤ t.heap.size → (∀ q : Nat, q < H.size → t.heap[q]? = H[q]?) → XC cls s t)
    (hf : ∀ z ∈ locs, free z.base) (hc : cells + 1 ≤ mc) (hs : slots + 6 ≤ ms) :
    W p l e R s m args below meth c H locs cells slots (vx_MQ below Qc XC args s mc ms free) (F0 m pc ls rest) := by
  intro T hT X
  have htr : e.platform.stackTraces = false := (show e.platform.stackTraces = l.stackTraces by rw [X.admits.platform]).trans hl
  have Y := vx_rebase X (R' := { frames := R.frames, locals := R.locals, cells := 1, slots := 6 }) (Nat.le_refl _) (Nat.le_refl _) hRcells hRslots
  obtain ⟨s', hA⟩ : ∃ z, z = (T.setVm s.vm).setFrames (.invoking m args :: below) := ⟨_, rfl⟩
  rw [← hA] at Y
  have hvm : s'.vm = s.vm := by rw [hA]; rfl
  have hhp : s'.heap = H := by rw [hA]; exact hT
  have hW0 : s.WarmedH s'.vm := by rw [hvm]; exact State.WarmedH.refl s
  have hat' : ∀ w ∈ vx_at0 own ic cls names, w.before args s' = true := fun w hw => vx_ot_at hW0 hvm.symm (hgood w (List.mem_cons_of_mem _ (List.mem_cons_of_mem _ hw))) (hat w hw)
  have hk' : (Cond.classLink own ik cls).before args s' = true := vx_ot_at hW0 hvm.symm (hgood _ List.mem_cons_self) hk
  have hini' : (Cond.initialized cls).before args s' = true := vx_ot_at hW0 hvm.symm (hgood _ (List.mem_cons_of_mem _ List.mem_cons_self)) hini
  have hU' : vx_Zq Bundle.tN "UNASSIGNED_STACK" Bundle.steD A s' s'.heap := by rw [hhp]; exact vx_Zq.moved hW0.alike (hU.kept hS.2.1)
  have hN' : vx_Zq Bundle.tN "SUPPRESSED_SENTINEL" Bundle.listD A s' s'.heap := by rw [hhp]; exact vx_Zq.moved hW0.alike (hN.kept hS.2.1)
  have h : ∀ w ∈ Bundle.ownAtoms0 own ic cls names, w.before args s' = true := vx_own hat' (vx_isRefq hU'.1) (vx_isRefq hN'.1) hU'.2.word hN'.2.word
  have hown' : s'.vm.findClass own = some m.cls := by rw [hvm]; exact hown
  have hins : (Cond.instantiable cls 6).before args s' = true := h _ (by simp [Bundle.ownAtoms0])
  obtain ⟨vm₁, cX, kX, hfX, hkX, -, -, X₁, st1⟩ := Y.newCold hexec (own := own) (C := cls) (index := ik) (n := 6) hown' hk' hins hini'
    (g := F0 m pc ls rest) rfl (by rw [hb]; exact d0) (Nat.le_refl _) (Nat.le_refl _)
  generalize hT1 : (T.setVm vm₁).pushCell { cls := cX, slots := kX.instanceTypes.map defaultValue, vm := .none } = T1 at X₁ st1
  have hcat : (Value.ref T.heap.size).category = 1 := rfl
  have hcellA : T1.heap[T.heap.size]? = some (freshCell cX kX) := by rw [← hT1]; exact State.heap_pushCell_size _ _
  have d3' : decode c.code (pc + 3) = .ok (.dup, 1) := by rw [hb]; exact d3
  obtain ⟨U, hsteps, hrun, hend, hW, hsame, ce, hce, hO⟩ := X₁.ctorThrow0 hexec htr (own := own) (cls := cls) (names := names) (ic := ic) hown' hcls hnames h (fun x hx => nomatch hx) hfX hkX hcellA (by rw [hhp, hT]; exact Nat.le_refl _)
    (g := { method := m, pc := pc + 4, locals := ls, stack := .ref T.heap.size :: .ref T.heap.size :: rest, locked := none }) rfl hsize rfl rfl (rest := rest) rfl
    (by rw [hb]; exact d4) (by rw [hb]; exact d7) hout hRframes (by simp only [List.map_cons, List.sum_cons, hcat]; omega) hlocks
  obtain ⟨f1, f2⟩ := vx_frame hsame
  rw [hhp] at f1 f2
  have hWs : s.WarmedH U.vm := State.WarmedH.trans hW0 hW
  have hcl : s.vm.findClass cls = some ce.cls := by
    have h9 := hO.cls
    rw [hvm] at h9
    exact h9
  have hall : s.sameButNew ({ U with vm := s.vm } : State) locs mc ms := by
    subst hA
    obtain ⟨e1, e2⟩ := hsame
    rw [State.setFrames_setFrames] at e1
    have h2 : (T.setVm s.vm).sameButNew ({ U with vm := s.vm } : State) [] (0 + 1) (0 + 6) := ⟨e1, e2⟩
    have h3 := X.same.trans h2
    rw [List.append_nil] at h3
    exact h3.mono hc hs
  refine ⟨U, ?_, .threw T.heap.size, hrun, hend, Or.inr ⟨T.heap.size, rfl, cls, ce, locs, hx U hWs.alike f1 (fun q hq => f2 q hq (fun z hz => nomatch hz)), hce, hO.vm, hcl, hWs, hall, hf⟩⟩
  refine st1 _ ?_
  show Steps p.tables e below (T1.setTop { method := m, pc := pc + 3, locals := ls, stack := .ref T.heap.size :: rest, locked := none }) _
  jvm_step X₁.here [X₁.here.top, hexec, d3', Value.category]
  exact hsteps
/-- 'throw new E("text")': new; dup; ldc; invokespecial; athrow -/
theorem vx_throwS {cc : ByteArray} {pc : Nat} (hexec : p.tables.exec = Jvm.exec) (hb : c.code = cc) (hl : l.stackTraces = false) {own cls text : String} {names : List String} {ik is ic mc ms sa : Nat} {A : Nat → Prop}
    (hown : s.vm.findClass own = some m.cls) (hcls : Bundle.fit cls = true) (hnames : ∀ n ∈ names, Bundle.fit n = true)
    (hk : (Cond.classLink own ik cls).before args s = true) (hini : (Cond.initialized cls).before args s = true) (hstr : vk_R own is text sa s) (hat : ∀ w ∈ vx_atS own ic cls names, w.before args s = true)
    (hgood : ∀ w ∈ Cond.classLink own ik cls :: Cond.initialized cls :: vx_atS own ic cls names, vx_ot w = true)
    (hU : vx_Zq Bundle.tN "UNASSIGNED_STACK" Bundle.steD A s s.heap) (hN : vx_Zq Bundle.tN "SUPPRESSED_SENTINEL" Bundle.listD A s s.heap) (hS : va_S A s.heap H locs) (hsize : ls.size = c.maxLocals)
    (d0 : decode cc pc = .ok (.new ik, 3)) (d3 : decode cc (pc + 3) = .ok (.dup, 1)) (d4 : decode cc (pc + 4) = .ok (.ldc is, 2)) (d6 : decode cc (pc + 6) = .ok (.invokespecial ic, 3)) (d9 : decode cc (pc + 9) = .ok (.athrow, 1))
    (hout : ∀ x ∈ c.exceptionTable.toList, covers x (pc + 9) = false)
    (hRframes : names.length + 3 < R.frames) (hRlocals : (rest.map fun v => v.category).sum + (13 * (names.length + 1) + 43) ≤ R.locals) (hRcells : cells + 1 ≤ R.cells) (hRslots : slots + 6 ≤ R.slots) (hlocks : meth.locks = false)
    (hx : ∀ t : State, s.vm.Alike t.vm → H.size ≤ t.heap.size → (∀ q : Nat, q < H.size → t.heap[q]? = H[q]?) → XC cls s t)
    (hf : ∀ z ∈ locs, free z.base) (hc : cells + 1 ≤ mc) (hs : slots + 6 ≤ ms) :
    W p l e R s m args below meth c H locs cells slots (vx_MQ below Qc XC args s mc ms free) (F0 m pc ls rest) := by
  intro T hT X
  have htr : e.platform.stackTraces = false := (show e.platform.stackTraces = l.stackTraces by rw [X.admits.platform]).trans hl
  have Y := vx_rebase X (R' := { frames := R.frames, locals := R.locals, cells := 1, slots := 6 }) (Nat.le_refl _) (Nat.le_refl _) hRcells hRslots
  obtain ⟨s', hA⟩ : ∃ z, z = (T.setVm s.vm).setFrames (.invoking m args :: below) := ⟨_, rfl⟩
  rw [← hA] at Y
  have hvm : s'.vm = s.vm := by rw [hA]; rfl
  have hhp : s'.heap = H := by rw [hA]; exact hT
  have hW0 : s.WarmedH s'.vm := by rw [hvm]; exact State.WarmedH.refl s
  have hat' : ∀ w ∈ vx_atS own ic cls names, w.before args s' = true := fun w hw => vx_ot_at hW0 hvm.symm (hgood w (List.mem_cons_of_mem _ (List.mem_cons_of_mem _ hw))) (hat w hw)
  have hk' : (Cond.classLink own ik cls).before args s' = true := vx_ot_at hW0 hvm.symm (hgood _ List.mem_cons_self) hk
  have hini' : (Cond.initialized cls).before args s' = true := vx_ot_at hW0 hvm.symm (hgood _ (List.mem_cons_of_mem _ List.mem_cons_self)) hini
  have hU' : vx_Zq Bundle.tN "UNASSIGNED_STACK" Bundle.steD A s' s'.heap := by rw [hhp]; exact vx_Zq.moved hW0.alike (hU.kept hS.2.1)
  have hN' : vx_Zq Bundle.tN "SUPPRESSED_SENTINEL" Bundle.listD A s' s'.heap := by rw [hhp]; exact vx_Zq.moved hW0.alike (hN.kept hS.2.1)
  have h : ∀ w ∈ Bundle.ownAtoms own ic cls names, w.before args s' = true := vx_own hat' (vx_isRefq hU'.1) (vx_isRefq hN'.1) hU'.2.word hN'.2.word
  have hown' : s'.vm.findClass own = some m.cls := by rw [hvm]; exact hown
  have hins : (Cond.instantiable cls 6).before args s' = true := h _ (by simp [Bundle.ownAtoms])
  obtain ⟨vm₁, cX, kX, hfX, hkX, -, -, X₁, st1⟩ := Y.newCold hexec (own := own) (C := cls) (index := ik) (n := 6) hown' hk' hins hini'
    (g := F0 m pc ls rest) rfl (by rw [hb]; exact d0) (Nat.le_refl _) (Nat.le_refl _)
  generalize hT1 : (T.setVm vm₁).pushCell { cls := cX, slots := kX.instanceTypes.map defaultValue, vm := .none } = T1 at X₁ st1
  have hcat : (Value.ref T.heap.size).category = 1 := rfl
  have hcellA : T1.heap[T.heap.size]? = some (freshCell cX kX) := by rw [← hT1]; exact State.heap_pushCell_size _ _
  have d3' : decode c.code (pc + 3) = .ok (.dup, 1) := by rw [hb]; exact d3
  have d4' : decode c.code (pc + 4) = .ok (.ldc is, 2) := by rw [hb]; exact d4
  have hstr' : vk_R own is text sa s' := vk_R.warm hW0 hstr
  obtain ⟨U, hsteps, hrun, hend, hW, hsame, ce, hce, hO⟩ := X₁.ctorThrowS hexec htr (own := own) (cls := cls) (names := names) (ic := ic) hown' hcls hnames h (fun x hx => nomatch hx) hfX hkX hcellA (by rw [hhp, hT]; exact Nat.le_refl _) (msg := .ref sa) rfl
    (g := { method := m, pc := pc + 6, locals := ls, stack := .ref sa :: .ref T.heap.size :: .ref T.heap.size :: rest, locked := none }) rfl hsize rfl rfl (rest := rest) rfl
    (by rw [hb]; exact d6) (by rw [hb]; exact d9) hout hRframes (by simp only [List.map_cons, List.sum_cons, hcat]; omega) hlocks
  obtain ⟨f1, f2⟩ := vx_frame hsame
  rw [hhp] at f1 f2
  have hWs : s.WarmedH U.vm := State.WarmedH.trans hW0 hW
  have hcl : s.vm.findClass cls = some ce.cls := by
    have h9 := hO.cls
    rw [hvm] at h9
    exact h9
  have hall : s.sameButNew ({ U with vm := s.vm } : State) locs mc ms := by
    subst hA
    obtain ⟨e1, e2⟩ := hsame
    rw [State.setFrames_setFrames] at e1
    have h2 : (T.setVm s.vm).sameButNew ({ U with vm := s.vm } : State) [] (0 + 1) (0 + 6) := ⟨e1, e2⟩
    have h3 := X.same.trans h2
    rw [List.append_nil] at h3
    exact h3.mono hc hs
  refine ⟨U, ?_, .threw T.heap.size, hrun, hend, Or.inr ⟨T.heap.size, rfl, cls, ce, locs, hx U hWs.alike f1 (fun q hq => f2 q hq (fun z hz => nomatch hz)), hce, hO.vm, hcl, hWs, hall, hf⟩⟩
  refine st1 _ ?_
  show Steps p.tables e below (T1.setTop { method := m, pc := pc + 3, locals := ls, stack := .ref T.heap.size :: rest, locked := none }) _
  jvm_step X₁.here [X₁.here.top, hexec, d3', Value.category]
  exact X₁.ldcString hexec (own := own) (text := text) (index := is) (a := sa) hown' hstr'.1 hstr'.2
    (g := { method := m, pc := pc + 4, locals := ls, stack := .ref T.heap.size :: .ref T.heap.size :: rest, locked := none }) rfl d4' _ hsteps
/-- 'throw new E("text")', the text by a wide index -/
theorem vx_throwSW {cc : ByteArray} {pc : Nat} (hexec : p.tables.exec = Jvm.exec) (hb : c.code = cc) (hl : l.stackTraces = false) {own cls text : String} {names : List String} {ik is ic mc ms sa : Nat} {A : Nat → Prop}
    (hown : s.vm.findClass own = some m.cls) (hcls : Bundle.fit cls = true) (hnames : ∀ n ∈ names, Bundle.fit n = true)
    (hk : (Cond.classLink own ik cls).before args s = true) (hini : (Cond.initialized cls).before args s = true) (hstr : vk_R own is text sa s) (hat : ∀ w ∈ vx_atS own ic cls names, w.before args s = true)
    (hgood : ∀ w ∈ Cond.classLink own ik cls :: Cond.initialized cls :: vx_atS own ic cls names, vx_ot w = true)
    (hU : vx_Zq Bundle.tN "UNASSIGNED_STACK" Bundle.steD A s s.heap) (hN : vx_Zq Bundle.tN "SUPPRESSED_SENTINEL" Bundle.listD A s s.heap) (hS : va_S A s.heap H locs) (hsize : ls.size = c.maxLocals)
    (d0 : decode cc pc = .ok (.new ik, 3)) (d3 : decode cc (pc + 3) = .ok (.dup, 1)) (d4 : decode cc (pc + 4) = .ok (.ldc_w is, 3)) (d7 : decode cc (pc + 7) = .ok (.invokespecial ic, 3)) (d10 : decode cc (pc + 10) = .ok (.athrow, 1))
    (hout : ∀ x ∈ c.exceptionTable.toList, covers x (pc + 10) = false)
    (hRframes : names.length + 3 < R.frames) (hRlocals : (rest.map fun v => v.category).sum + (13 * (names.length + 1) + 43) ≤ R.locals) (hRcells : cells + 1 ≤ R.cells) (hRslots : slots + 6 ≤ R.slots) (hlocks : meth.locks = false)
    (hx : ∀ t : State, s.vm.Alike t.vm → H.size ≤ t.heap.size → (∀ q : Nat, q < H.size → t.heap[q]? = H[q]?) → XC cls s t)
    (hf : ∀ z ∈ locs, free z.base) (hc : cells + 1 ≤ mc) (hs : slots + 6 ≤ ms) :
    W p l e R s m args below meth c H locs cells slots (vx_MQ below Qc XC args s mc ms free) (F0 m pc ls rest) := by
  intro T hT X
  have htr : e.platform.stackTraces = false := (show e.platform.stackTraces = l.stackTraces by rw [X.admits.platform]).trans hl
  have Y := vx_rebase X (R' := { frames := R.frames, locals := R.locals, cells := 1, slots := 6 }) (Nat.le_refl _) (Nat.le_refl _) hRcells hRslots
  obtain ⟨s', hA⟩ : ∃ z, z = (T.setVm s.vm).setFrames (.invoking m args :: below) := ⟨_, rfl⟩
  rw [← hA] at Y
  have hvm : s'.vm = s.vm := by rw [hA]; rfl
  have hhp : s'.heap = H := by rw [hA]; exact hT
  have hW0 : s.WarmedH s'.vm := by rw [hvm]; exact State.WarmedH.refl s
  have hat' : ∀ w ∈ vx_atS own ic cls names, w.before args s' = true := fun w hw => vx_ot_at hW0 hvm.symm (hgood w (List.mem_cons_of_mem _ (List.mem_cons_of_mem _ hw))) (hat w hw)
  have hk' : (Cond.classLink own ik cls).before args s' = true := vx_ot_at hW0 hvm.symm (hgood _ List.mem_cons_self) hk
  have hini' : (Cond.initialized cls).before args s' = true := vx_ot_at hW0 hvm.symm (hgood _ (List.mem_cons_of_mem _ List.mem_cons_self)) hini
  have hU' : vx_Zq Bundle.tN "UNASSIGNED_STACK" Bundle.steD A s' s'.heap := by rw [hhp]; exact vx_Zq.moved hW0.alike (hU.kept hS.2.1)
  have hN' : vx_Zq Bundle.tN "SUPPRESSED_SENTINEL" Bundle.listD A s' s'.heap := by rw [hhp]; exact vx_Zq.moved hW0.alike (hN.kept hS.2.1)
  have h : ∀ w ∈ Bundle.ownAtoms own ic cls names, w.before args s' = true := vx_own hat' (vx_isRefq hU'.1) (vx_isRefq hN'.1) hU'.2.word hN'.2.word
  have hown' : s'.vm.findClass own = some m.cls := by rw [hvm]; exact hown
  have hins : (Cond.instantiable cls 6).before args s' = true := h _ (by simp [Bundle.ownAtoms])
  obtain ⟨vm₁, cX, kX, hfX, hkX, -, -, X₁, st1⟩ := Y.newCold hexec (own := own) (C := cls) (index := ik) (n := 6) hown' hk' hins hini'
    (g := F0 m pc ls rest) rfl (by rw [hb]; exact d0) (Nat.le_refl _) (Nat.le_refl _)
  generalize hT1 : (T.setVm vm₁).pushCell { cls := cX, slots := kX.instanceTypes.map defaultValue, vm := .none } = T1 at X₁ st1
  have hcat : (Value.ref T.heap.size).category = 1 := rfl
  have hcellA : T1.heap[T.heap.size]? = some (freshCell cX kX) := by rw [← hT1]; exact State.heap_pushCell_size _ _
  have d3' : decode c.code (pc + 3) = .ok (.dup, 1) := by rw [hb]; exact d3
  have d4' : decode c.code (pc + 4) = .ok (.ldc_w is, 3) := by rw [hb]; exact d4
  have hstr' : vk_R own is text sa s' := vk_R.warm hW0 hstr
  obtain ⟨U, hsteps, hrun, hend, hW, hsame, ce, hce, hO⟩ := X₁.ctorThrowS hexec htr (own := own) (cls := cls) (names := names) (ic := ic) hown' hcls hnames h (fun x hx => nomatch hx) hfX hkX hcellA (by rw [hhp, hT]; exact Nat.le_refl _) (msg := .ref sa) rfl
    (g := { method := m, pc := pc + 7, locals := ls, stack := .ref sa :: .ref T.heap.size :: .ref T.heap.size :: rest, locked := none }) rfl hsize rfl rfl (rest := rest) rfl
    (by rw [hb]; exact d7) (by rw [hb]; exact d10) hout hRframes (by simp only [List.map_cons, List.sum_cons, hcat]; omega) hlocks
  obtain ⟨f1, f2⟩ := vx_frame hsame
  rw [hhp] at f1 f2
  have hWs : s.WarmedH U.vm := State.WarmedH.trans hW0 hW
  have hcl : s.vm.findClass cls = some ce.cls := by
    have h9 := hO.cls
    rw [hvm] at h9
    exact h9
  have hall : s.sameButNew ({ U with vm := s.vm } : State) locs mc ms := by
    subst hA
    obtain ⟨e1, e2⟩ := hsame
    rw [State.setFrames_setFrames] at e1
    have h2 : (T.setVm s.vm).sameButNew ({ U with vm := s.vm } : State) [] (0 + 1) (0 + 6) := ⟨e1, e2⟩
    have h3 := X.same.trans h2
    rw [List.append_nil] at h3
    exact h3.mono hc hs
  refine ⟨U, ?_, .threw T.heap.size, hrun, hend, Or.inr ⟨T.heap.size, rfl, cls, ce, locs, hx U hWs.alike f1 (fun q hq => f2 q hq (fun z hz => nomatch hz)), hce, hO.vm, hcl, hWs, hall, hf⟩⟩
  refine st1 _ ?_
  show Steps p.tables e below (T1.setTop { method := m, pc := pc + 3, locals := ls, stack := .ref T.heap.size :: rest, locked := none }) _
  jvm_step X₁.here [X₁.here.top, hexec, d3', Value.category]
  exact X₁.ldcStringW hexec (own := own) (text := text) (index := is) (a := sa) hown' hstr'.1 hstr'.2
    (g := { method := m, pc := pc + 4, locals := ls, stack := .ref T.heap.size :: .ref T.heap.size :: rest, locked := none }) rfl d4' _ hsteps
end Ends
section Bodies
variable {l : Launch}
theorem vx_ofW {y : MethodName} {ws ws' : List Cond} {rm : Room} {Pc : Array Value → State → Prop} {Qc : Array Value → State → Outcome → State → Prop} {XC : String → State → State → Prop} {mc ms : Nat} {free : Addr → Prop} {cc : ByteArray} {maxL : Nat} {ret : Option FieldType}
    (hy : plainName y.cls = true) (hw : ws = Cond.code y cc maxL ret :: ws')
    (body : ∀ p e s m args below meth c s₁, BodyLoose p l y (headSpec ws rm) cc maxL ret e s m args below meth c s₁ → c.maxLocals = maxL → (∀ x ∈ c.exceptionTable.toList, False) → Pc args s →
      W p l e (headSpec ws rm).room s m args below meth c s.heap [] 0 0 (vx_MQ below Qc XC args s mc ms free) (entryFrame m args maxL)) : vx_Met l y ws rm Pc Qc XC mc ms free := by
  refine MetFree.of_bodyS (code := cc) (maxLocals := maxL) (ret := ret) hy ?_ ?_
  · intro args s m h hn
    obtain ⟨meth, c, h1, h2, h3, h4, h5, h6, -, -⟩ := Cond.code_spec hn (atoms_spec (ws := ws) h _ (by rw [hw]; exact List.mem_cons_self))
    exact ⟨meth, c, h1, h2, h3, h4, h5, h6⟩
  · intro p e s m args below meth c s₁ B hml hP _
    have hh0 : s₁.heap = s.heap := by rw [B.state]; rfl
    have ht : ∀ x ∈ c.exceptionTable.toList, False := by
      obtain ⟨meth9, c9, h1, h2, -, -, -, -, h7, -⟩ := Cond.code_spec B.named (atoms_spec (ws := ws) B.pre _ (by rw [hw]; exact List.mem_cons_self))
      cases Option.some.inj (h1.symm.trans B.method)
      cases Option.some.inj (h2.symm.trans (Stand.of_body B).code)
      intro x hx
      rw [Array.isEmpty_iff.mp h7] at hx
      cases hx
    obtain ⟨t, a1, o, b1, b2, b3⟩ := body p e s m args below meth c s₁ B hml ht hP s₁ hh0 (Stand.of_body B)
    exact ⟨t, o, a1, b1, b2, b3⟩
/-- the table of a body with handlers -/
theorem vx_table {p : Program} {x y : MethodName} {S : Spec} {cc bytes : ByteArray} {maxL maxL' : Nat} {ret ret' : Option FieldType} {e : Env} {s s₁ : State} {m : MethodId} {args : Array Value} {below : List Frame} {meth : Method} {c : Code} {hh : List (Nat × Nat × Nat × Nat)}
    (B : BodyLoose p l y S cc maxL ret e s m args below meth c s₁) (h : (Cond.codeWith y bytes maxL' ret' hh).before args s = true) : c.exceptionTable.toList = tableOf hh := by
  obtain ⟨m9, meth9, c9, hn9, h1, h2, -, -, h6, -⟩ := Cond.codeWith_spec h
  cases Option.some.inj (hn9.symm.trans B.named)
  cases Option.some.inj (h1.symm.trans B.method)
  cases Option.some.inj (h2.symm.trans (Stand.of_body B).code)
  rw [← h6, table_eq]
end Bodies
end VXA
/-! ===== END ===== -/
/-! ===== BEGIN a static call of a method with an exception table ===== -/
section VXS
variable {p : Program} {l : Launch} {e : Env} {R : Room} {s : State} {m : MethodId} {args : Array Value} {below : List Frame} {meth : Method} {c : Code} {T : State} {H : Heap} {locs : List Loc} {cells slots : Nat}
abbrev vx_CSW (R : Room) (s : State) (args : Array Value) (own : String) (index : Nat) (y : MethodName) (bytes : ByteArray) (maxL : Nat) (ret : Option FieldType) (hh : List (Nat × Nat × Nat × Nat)) (ws : List Cond) (rm : Room) (mc ms n : Nat) : Prop :=
  (rm.cells = mc ∧ rm.slots = ms ∧ rm.frames + 1 ≤ R.frames ∧ 8 + (maxL + 11) + rm.locals ≤ R.locals ∧ (∀ w ∈ ws, ∀ (a' : Array Value) (U : State), s.WarmedH U.vm → w.before a' U = true) ∧ Cond.codeWith y bytes maxL ret hh ∈ ws) ∧
  (Cond.codeWith y bytes maxL ret hh).before args s = true ∧ (Cond.initialized y.cls).before args s = true ∧ (y.cls ≠ "java/lang/invoke/MethodHandle" ∧ y.cls ≠ "java/lang/invoke/VarHandle") ∧
  (∀ sig, parseMethodDescriptor y.desc = some sig → n = sig.parameters.length) ∧ (Cond.methodLink own index y).before args s = true ∧ (Cond.static y).before args s = true
theorem vx_cwSW {own : String} {index maxL mc ms : Nat} {y : MethodName} {bytes : ByteArray} {ret : Option FieldType} {hh : List (Nat × Nat × Nat × Nat)} {Ts ws ws' : List Cond} {rm : Room} (n : Nat) (ht : ∀ w ∈ Ts, w.before args s = true) (hT : GoodIn Ts (va_wsS own index y ws)) (hw : ws = Cond.codeWith y bytes maxL ret hh :: ws') (hrc : rm.cells = mc) (hrs : rm.slots = ms)
    (hd : y.cls ≠ "java/lang/invoke/MethodHandle" ∧ y.cls ≠ "java/lang/invoke/VarHandle" ∧ (parseMethodDescriptor y.desc).map (fun d => d.parameters.length) = some n) (hR : rm.frames + 1 ≤ R.frames ∧ 8 + (maxL + 11) + rm.locals ≤ R.locals) :
    vx_CSW R s args own index y bytes maxL ret hh ws rm mc ms n := by
  have ok : ∀ w ∈ va_wsS own index y ws, w.before args s = true := fun w h => ht w (hT w h).1
  have hG : GoodIn Ts ws := fun w h => hT w (by unfold va_wsS; exact List.mem_append_right _ h)
  have hc : Cond.codeWith y bytes maxL ret hh ∈ ws := by rw [hw]; exact List.mem_cons_self
  refine ⟨⟨hrc, hrs, hR.1, hR.2, pay_in ht hG, hc⟩, ht _ (hG _ hc).1, ok _ (by simp [va_wsS]), ⟨hd.1, hd.2.1⟩, fun sig h => ?_, ok _ (by simp [va_wsS]), ok _ (by simp [va_wsS])⟩
  have h2 := hd.2.2
  rw [h] at h2
  exact (Option.some.inj h2).symm
theorem vx_callSW (X : Stand p l e R s m args below meth c T locs cells slots) (hexec : p.tables.exec = Jvm.exec) {own : String} {index : Nat} {y : MethodName} {bytes : ByteArray} {maxL : Nat} {ret : Option FieldType} {hh : List (Nat × Nat × Nat × Nat)}
    (hown : s.vm.findClass own = some m.cls) (hlink : (Cond.methodLink own index y).before args s = true) (hstat : (Cond.static y).before args s = true) (hinit : (Cond.initialized y.cls).before args s = true)
    (hcode : (Cond.codeWith y bytes maxL ret hh).before args s = true) (hy : y.cls ≠ "java/lang/invoke/MethodHandle" ∧ y.cls ≠ "java/lang/invoke/VarHandle")
    {W9 : Nat} {Pre : Pt → Array Value → Prop} {Post : Pt → Array Value → Option Value → Pt → Prop} (hK : Back l R p e below s args y 3 W9 Pre Post)
    {g : JFrame} (hg : g.method = m) (hsize : g.locals.size = c.maxLocals) {argsL rest : List Value} (hlen : ∀ sig, parseMethodDescriptor y.desc = some sig → argsL.length = sig.parameters.length)
    (hstack : g.stack = argsL.reverse ++ rest) (hW : 2 * g.monitorRoom + (rest.map fun v => v.category).sum ≤ W9) (hdg : decode c.code g.pc = .ok (.invokestatic index, 3))
    (hpre : ∀ vm₁, s.WarmedH vm₁ → Pre ⟨T.setVm vm₁, locs, cells, slots⟩ argsL.toArray) :
    ∃ (v : Option Value) (vm₁ : Vm) (B : Pt), s.WarmedH vm₁ ∧ Stand p l e R s m args below meth c B.U B.locs B.cells B.slots ∧ Post ⟨T.setVm vm₁, locs, cells, slots⟩ argsL.toArray v B ∧
      ∀ target, Steps p.tables e below (B.U.setTop { g with pc := g.pc + 3, stack := v.toList ++ rest }) target → Steps p.tables e below (T.setTop g) target := by
  obtain ⟨mk, methM, cM, hnamed, hmethM, -, -, -, -, -, -, hsigM⟩ := Cond.codeWith_spec hcode
  have hstatic : methM.isStatic = true := Cond.static_spec hnamed hmethM hstat
  obtain ⟨kP, hkP, -⟩ := className_of_methodNamed hnamed
  have hinitP : kP.init = .initialized := Cond.initialized_spec (findClass_of_methodNamed hnamed) hkP hinit
  obtain ⟨vm₁, X₁, hstep₁⟩ := X.invokestatic hexec hown hlink hnamed hmethM hstatic hkP hinitP hy (g := g) hg (argsL := argsL) (rest := rest) (hlen _ hsigM) hstack hdg
  obtain ⟨v, B, X', hpost, hsteps⟩ := hK m meth c ⟨T.setVm vm₁, locs, cells, slots⟩ { g with stack := rest } (.invokestatic index) mk argsL.toArray X₁ hg hsize hdg hW (X₁.named hnamed) (hpre vm₁ X₁.warmed)
  exact ⟨v, vm₁, B, X₁.warmed, X', hpost, fun target h => hstep₁ _ fun acts => by rw [doInvoke_state]; exact hsteps.trans h⟩
theorem vx_runSW {y : MethodName} {bytes cc : ByteArray} {maxL nL mc ms n index : Nat} {ret : Option FieldType} {hh : List (Nat × Nat × Nat × Nat)} {ws : List Cond} {rm : Room} {Pc : Array Value → State → Prop} {Qc : Array Value → State → Outcome → State → Prop} {free : Addr → Prop} {Ts : List Cond} {own : String} {As rest : List Value} {g : JFrame}
    (S : CallFix p m c cc nL s args Ts own) (hM : Met l y ws rm Pc Qc mc ms free) (cw : vx_CSW R s args own index y bytes maxL ret hh ws rm mc ms n) (hp : PreS s H Pc As)
    (hg : g.method = m) (hn : As.length = n) (hsize : g.locals.size = nL) (hstack : g.stack = As.reverse ++ rest) (hW : 2 * g.monitorRoom + (rest.map fun v => v.category).sum ≤ 8) (hdg : decode cc g.pc = .ok (.invokestatic index, 3)) (hf : cells + mc ≤ R.cells ∧ slots + ms ≤ R.slots) :
    va_Run p l e R s m args below meth c H locs cells slots mc ms g rest (Qc As.toArray) (free) := by
  obtain ⟨⟨hrc, hrs, hfr, hlo, hws, hcw⟩, hcode, hini, hy, hlen, hl, hstt⟩ := cw
  have hK : Back l R p e below s args y 3 8 (PreOf R mc ms Pc) (PostOf Qc mc ms free) := va_backW (hh := hh) (bytes := bytes) (maxL := maxL) (ret := ret) hM hp.1 hrc hrs hfr hlo hws hcw (fun a' U hW => word_at hW (Or.inl (by first | rfl | simp [Cond.onTables, Cond.keeps, Cond.steady])) hini)
  obtain ⟨hx, hb, hml, ho, -⟩ := S
  intro T hT X
  obtain ⟨v, vm₁, ⟨U', l2, c2, s2⟩, hW₁, X', ⟨g', mk, t, L, e1, e2, hq, h1, hL, h2, h3⟩, st⟩ := vx_callSW X hx (hh := hh) (bytes := bytes) (maxL := maxL) (ret := ret) ho hl hstt hini hcode hy hK hg (hsize.trans hml.symm) (argsL := As) (rest := rest) (fun sig h => hn.trans (hlen sig h)) hstack hW (by rw [hb]; exact hdg)
    (fun vm₁ hW₁ => ⟨hf.1, hf.2, hp.2 (T.setVm vm₁) hT hW₁⟩)
  dsimp only [Pt.U, Pt.locs, Pt.cells, Pt.slots] at X' e1 e2 h1 h2 h3 st
  subst h1; subst h2; subst h3
  exact ⟨v, (T.setVm vm₁).calling g' mk As.toArray, t, U', L, hT, X', hL, e1, e2, hq, st⟩
/-- not caught here, past rows that name other classes: it goes on to the caller -/
theorem vx_outP {p : Program} {l : Launch} {e : Env} {R : Room} {s : State} {m : MethodId} {args : Array Value} {below : List Frame} {meth : Method} {c : Code} {H : Heap} {locs : List Loc} {cells slots : Nat} {free : Addr → Prop} {ls : Array Slot} {rest : List Value} {Qc : Array Value → State → Outcome → State → Prop} {XC : String → State → State → Prop}
    {pc : Nat} {own E : String} {ce : Cell} {q : Addr} {mc ms : Nat} (hown : s.vm.findClass own = some m.cls) (hlocks : meth.locks = false)
    (hpass : ∀ z ∈ c.exceptionTable.toList, covers z pc = false ∨ (z.catchType ≠ 0 ∧ ∃ nm : String, (Cond.classLink own z.catchType nm).before args s = true ∧ va_Nc E nm s)) (hcell : H[q]? = some ce) (hv : ce.vm = .none) (hcl : s.vm.findClass E = some ce.cls)
    (hx : ∀ t : State, t.heap = H → s.vm.Alike t.vm → XC E s t) (hf : ∀ z ∈ locs, free z.base) (hc : cells ≤ mc) (hs : slots ≤ ms) :
    vx_W p l e R s m args below meth c H locs cells slots (vx_MQ below Qc XC args s mc ms free) (F0 m pc ls rest) q := by
  intro T hT X
  have hpl : e.platform.magicAccessors = ({} : Platform).magicAccessors := by rw [X.admits.platform]
  obtain ⟨vm', hW', X', st⟩ := X.outThrough hlocks q (g := F0 m pc ls rest) rfl rfl rfl (cell := ce) (by rw [hT]; exact hcell) (by rw [hv]; rfl)
    (by obtain ⟨k9, h9, -⟩ := Vm.findClass_spec hcl; exact ⟨k9, h9⟩) (fun z hz => by
      rcases hpass z hz with h | ⟨hz0, nm, hl1, hn1⟩
      · exact Or.inl h
      · obtain ⟨c6, hc6, hcl6⟩ := Cond.classLink_spec hown hl1 e.platform hpl
        obtain ⟨a8, b8, h1, h2, h3⟩ := hn1
        cases Option.some.inj (h1.symm.trans hcl)
        cases Option.some.inj (h2.symm.trans hc6)
        exact Or.inr ⟨hz0, _, hcl6, h3⟩)
  obtain ⟨g₀, hfr⟩ := X'.frames_eq
  have hcell9 : ((T.setVm vm').setFrames (.throwing q :: below)).heap[q]? = some ce := by
    show T.heap[q]? = some ce
    rw [hT]; exact hcell
  have hend : Ended ((T.setVm vm').setFrames (.throwing q :: below)) below (.threw q) := State.frames_setFrames _ (State.cur_lt_of_frames hfr)
  refine ⟨(T.setVm vm').setFrames (.throwing q :: below), ?_, .threw q, X'.here.running, hend, Or.inr ⟨q, rfl, E, ce, locs, hx _ hT (X'.ends _).1.alike, hcell9, hv, hcl, (X'.ends _).1, (X'.ends _).2.mono hc hs, hf⟩⟩
  rw [X.pushThrowing_eq]
  exact st
/-- a thing of a world lies in the heap -/
theorem vx_lt {D : va_G} {cl : List vw_C} {ws : va_W} {H1 : Heap} (h : va_P D cl ws H1) {k : Nat} {q : Nat × va_E} (hk : ws[k]? = some q) : q.1 < H1.size := (h k q hk).lt
end VXS
/-! ===== END ===== -/
/-! ===== BEGIN methods with a table of their own: called by a name, returning or throwing ===== -/
section VXH
/-! vx_backW, vx_callVX, vx_callSX, vx_callVW, vx_runVW, vx_runVX, vx_runSX, vx_ofWH follow the same proofs as their sisters above (Free/Laws.lean, Shelf42/LK1.lean); vx_outP calls Shelf42/NT130.lean (outThrough). -/
section
variable {l : Launch} {R : Room} {p : Program} {e : Env} {below : List Frame} {s : State} {sargs : Array Value} {y : MethodName} {len W9 : Nat}
theorem vx_backW {ws : List Cond} {rm : Room} {Pc : Array Value → State → Prop} {Qc : Array Value → State → Outcome → State → Prop} {XC : String → State → State → Prop} {mc ms : Nat} {free : Addr → Prop} {bytes : ByteArray} {maxL : Nat} {ret : Option FieldType} {hh : List (Nat × Nat × Nat × Nat)}
    (hM : vx_Met l y ws rm Pc Qc XC mc ms free) (hblind : FrameBlind Pc) (hrc : rm.cells = mc) (hrs : rm.slots = ms)
    (hframes : rm.frames + 1 ≤ R.frames) (hlocals : W9 + (maxL + 11) + rm.locals ≤ R.locals)
    (hws : ∀ w ∈ ws, ∀ a' U, s.WarmedH U.vm → w.before a' U = true) (hcode : Cond.codeWith y bytes maxL ret hh ∈ ws) (hinit : ∀ a' U, s.WarmedH U.vm → (Cond.initialized y.cls).before a' U = true) :
    vx_Back l R p e below s sargs y len W9 (PreOf R mc ms Pc) (PostOf Qc mc ms free) (vx_Post XC mc ms free) := by
  intro m meth c A g ig mk a X hg hsize hdg hW hn hp
  have h1 : (headSpec ws rm).pre.before a A.U = true := atoms_intro fun w hw => hws w hw _ _ X.warmed
  have h2 : (Cond.codeWith y bytes maxL ret hh).before a A.U = true := hws _ hcode _ _ X.warmed
  have h3 : (Cond.initialized y.cls).before a A.U = true := hinit _ _ X.warmed
  have h4 : A.cells + (headSpec ws rm).room.cells ≤ R.cells := by rw [show (headSpec ws rm).room.cells = mc from hrc]; exact hp.1
  have h5 : A.slots + (headSpec ws rm).room.slots ≤ R.slots := by rw [show (headSpec ws rm).room.slots = ms from hrs]; exact hp.2.1
  have hPc : Pc a (A.U.calling g mk a) := hblind _ _ _ _ hp.2.2
  obtain ⟨U, Ls, c0, s0⟩ := A
  dsimp only [Pt.U, Pt.locs, Pt.cells, Pt.slots] at h1 h2 h3 h4 h5 X hn hPc ⊢
  obtain ⟨m9, methY, cY, hn9, hmY, hcY, -, hlY, -⟩ := Cond.codeWith_spec h2
  cases Option.some.inj (hn9.symm.trans hn)
  obtain ⟨kY, hkY, -⟩ := className_of_methodNamed hn
  have hinitY : kY.init = .initialized := Cond.initialized_spec (findClass_of_methodNamed hn) hkY h3
  have h : At U g.method c below := by rw [hg]; exact X.here
  have hlocals9 : W9 + (maxL + 11) + (headSpec ws rm).room.locals ≤ R.locals := hlocals
  have happ : (headSpec ws rm).appliesLoose y e.platform (U.calling g mk a) = true :=
    Spec.appliesLoose_calling (g := g) h hdg hn hkY hinitY
      (X.room_calling (g := g) (R' := (headSpec ws rm).room) hsize hmY hcY hframes (by rw [hlY]; omega) h4 h5) h1
  obtain ⟨mid, hmid⟩ := h.above
  have hfr : (U.setTop g).frames = (.java g :: mid) ++ below := by rw [State.frames_setTop' g h.top, hmid]; rfl
  obtain ⟨o, s₂, hsteps, -, hend, hq⟩ := Steps.callFree hM p X.admits X.cas X.clock (acts := []) hfr happ hPc trivial
  have hq' : vx_Q Qc XC mc ms free a (U.calling g mk a) o s₂ := hq
  rw [State.frames_setTop' g h.top] at hend
  obtain ⟨g₀, hg0⟩ := Option.isSome_iff_exists.mp h.top
  obtain ⟨r, hr⟩ := State.topJava?_eq_some.mp hg0
  have hr' : (({ U with heap := s₂.heap, slotsUsed := s₂.slotsUsed } : State).setVm s₂.vm).frames = .java g₀ :: r := hr
  rcases hq' with ⟨hqc, L, hfe, hL⟩ | ⟨q, rfl, E, ce, L, hx, hce, hcv, hcl, hW₂, hsm, hL⟩
  · obtain ⟨⟨v, rfl⟩, hW₂, e2, q2, q3, q4, q5, q6⟩ := id hfe
    have e3 : s₂ = ({ (U.calling g mk a).setFrames s₂.frames with heap := s₂.heap, slotsUsed := s₂.slotsUsed } : State).setVm s₂.vm := by
      have : s₂ = ({ s₂ with vm := (U.calling g mk a).vm } : State).setVm s₂.vm := rfl
      rw [e2] at this
      exact this
    obtain ⟨c₂, i₂, len₂, hc₂, hd₂, hf₂⟩ := hend
    have hW' : U.WarmedH s₂.vm := hW₂
    have hcc : c₂ = c := by
      have h1 : s₂.code? g.method = U.code? g.method := by
        rw [State.code?_eq, State.code?_eq, hW'.alike.method?]
      exact Option.some.inj (hc₂.symm.trans (h1.trans h.code))
    subst hcc
    have hlen : len₂ = len := by rw [hdg] at hd₂; cases hd₂; rfl
    subst hlen
    have hs₂ : s₂ = (({ U with heap := s₂.heap, slotsUsed := s₂.slotsUsed } : State).setVm s₂.vm).setTop { g with pc := g.pc + len₂, stack := v.toList ++ g.stack } := by
      refine e3.trans ?_
      rw [hf₂, State.calling_eq h.top, State.setFrames_setFrames, State.setTop_of_frames _ hr', hr]
      rfl
    have hsame : U.sameButNew ({ U with heap := s₂.heap, slotsUsed := s₂.slotsUsed } : State) L mc ms := by
      refine ⟨?_, q2, q3, q4, q5, q6⟩
      obtain ⟨t, ht, -⟩ := State.frames_cons hr
      show ({ U with heap := s₂.heap, slotsUsed := s₂.slotsUsed } : State) = { U.setFrames U.frames with heap := s₂.heap, slotsUsed := s₂.slotsUsed }
      rw [State.setFrames_self ht]
    subst hg
    refine Or.inl ⟨v, ⟨(({ U with heap := s₂.heap, slotsUsed := s₂.slotsUsed } : State).setVm s₂.vm), Ls ++ L, c0 + mc, s0 + ms⟩,
      ⟨X.admits, X.cas, X.clock, X.frames, X.room, X.hears, X.method, X.code, (X.here.setHeapUsed s₂.heap s₂.slotsUsed).setVm hW'.alike, X.tail, State.WarmedH.trans X.warmed hW', X.limits, X.bytes, X.same.trans (hsame.setVm s.vm)⟩,
      ⟨g, mk, s₂, L, rfl, rfl, hqc, rfl, hL, rfl, rfl⟩, ?_⟩
    show Steps p.tables e below _ ((({ U with heap := s₂.heap, slotsUsed := s₂.slotsUsed } : State).setVm s₂.vm).setTop { g with pc := g.pc + len₂, stack := v.toList ++ g.stack })
    rw [← hs₂]
    exact hsteps
  · obtain ⟨e2, q2, q3, q4, q5, q6⟩ := id hsm
    have e3 : s₂ = ({ (U.calling g mk a).setFrames s₂.frames with heap := s₂.heap, slotsUsed := s₂.slotsUsed } : State).setVm s₂.vm := by
      have : s₂ = ({ s₂ with vm := (U.calling g mk a).vm } : State).setVm s₂.vm := rfl
      rw [e2] at this
      exact this
    have hf₂ : s₂.frames = .throwing q :: .java g :: U.frames.tail := hend
    have hW' : U.WarmedH s₂.vm := hW₂
    have hs₂ : s₂ = ((({ U with heap := s₂.heap, slotsUsed := s₂.slotsUsed } : State).setVm s₂.vm).setTop g).pushFrame (.throwing q) := by
      refine e3.trans ?_
      rw [hf₂, State.calling_eq h.top, State.setFrames_setFrames, State.pushFrame, State.frames_setTop _ hr', State.setTop_of_frames _ hr', State.setFrames_setFrames, hr]
      rfl
    have hsame : U.sameButNew ({ U with heap := s₂.heap, slotsUsed := s₂.slotsUsed } : State) L mc ms := by
      refine ⟨?_, q2, q3, q4, q5, q6⟩
      obtain ⟨t, ht, -⟩ := State.frames_cons hr
      show ({ U with heap := s₂.heap, slotsUsed := s₂.slotsUsed } : State) = { U.setFrames U.frames with heap := s₂.heap, slotsUsed := s₂.slotsUsed }
      rw [State.setFrames_self ht]
    subst hg
    refine Or.inr ⟨q, ⟨(({ U with heap := s₂.heap, slotsUsed := s₂.slotsUsed } : State).setVm s₂.vm), Ls ++ L, c0 + mc, s0 + ms⟩,
      ⟨X.admits, X.cas, X.clock, X.frames, X.room, X.hears, X.method, X.code, (X.here.setHeapUsed s₂.heap s₂.slotsUsed).setVm hW'.alike, X.tail, State.WarmedH.trans X.warmed hW', X.limits, X.bytes, X.same.trans (hsame.setVm s.vm)⟩,
      ⟨g, mk, s₂, L, E, ce, rfl, rfl, hx, hce, hcv, hcl, rfl, hL, rfl, rfl⟩, ?_⟩
    show Steps p.tables e below _ (((({ U with heap := s₂.heap, slotsUsed := s₂.slotsUsed } : State).setVm s₂.vm).setTop g).pushFrame (.throwing q))
    rw [← hs₂]
    exact hsteps
end
variable {p : Program} {l : Launch} {e : Env} {R : Room} {s : State} {m : MethodId} {args : Array Value} {below : List Frame} {meth : Method} {c : Code} {T : State} {H : Heap} {locs : List Loc} {cells slots : Nat}
theorem vx_callVX (X : Stand p l e R s m args below meth c T locs cells slots) (hexec : p.tables.exec = Jvm.exec) {own C : String} {index : Nat} {y : MethodName} {bytes : ByteArray} {maxL : Nat} {ret : Option FieldType} {hh : List (Nat × Nat × Nat × Nat)}
    (hown : s.vm.findClass own = some m.cls) (hlink : (Cond.methodLink own index y).before args s = true) (hinst : (Cond.instanceMethod y).before args s = true) (hsel : (Cond.selects C y y).before args s = true)
    (hcode : (Cond.codeWith y bytes maxL ret hh).before args s = true) (hy : y.cls ≠ "java/lang/invoke/MethodHandle" ∧ y.cls ≠ "java/lang/invoke/VarHandle")
    {W9 : Nat} {Pre : Pt → Array Value → Prop} {Post : Pt → Array Value → Option Value → Pt → Prop} {PostX : Pt → Array Value → Addr → Pt → Prop} (hK : vx_Back l R p e below s args y 3 W9 Pre Post PostX)
    {b : Addr} {cellB : Cell} (hcell : T.heap[b]? = some cellB) (hobj : cellB.vm.isStatics = false) (hcls : s.vm.findClass C = some cellB.cls)
    {g : JFrame} (hg : g.method = m) (hsize : g.locals.size = c.maxLocals) {argsL rest : List Value} (hlen : ∀ sig, parseMethodDescriptor y.desc = some sig → argsL.length = sig.parameters.length)
    (hstack : g.stack = argsL.reverse ++ .ref b :: rest) (hW : 2 * g.monitorRoom + (rest.map fun v => v.category).sum ≤ W9) (hdg : decode c.code g.pc = .ok (.invokevirtual index, 3))
    (hpre : ∀ vm₁, s.WarmedH vm₁ → Pre ⟨T.setVm vm₁, locs, cells, slots⟩ (Value.ref b :: argsL).toArray) :
    (∃ (v : Option Value) (vm₁ : Vm) (B : Pt), s.WarmedH vm₁ ∧ Stand p l e R s m args below meth c B.U B.locs B.cells B.slots ∧ Post ⟨T.setVm vm₁, locs, cells, slots⟩ (Value.ref b :: argsL).toArray v B ∧
      ∀ target, Steps p.tables e below (B.U.setTop { g with pc := g.pc + 3, stack := v.toList ++ rest }) target → Steps p.tables e below (T.setTop g) target) ∨
    (∃ (q : Addr) (vm₁ : Vm) (B : Pt), s.WarmedH vm₁ ∧ Stand p l e R s m args below meth c B.U B.locs B.cells B.slots ∧ PostX ⟨T.setVm vm₁, locs, cells, slots⟩ (Value.ref b :: argsL).toArray q B ∧
      Steps p.tables e below (T.setTop g) ((B.U.setTop { g with stack := rest }).pushFrame (.throwing q))) := by
  obtain ⟨mk, methM, hnamed, hmethM, hstM, habM⟩ := Cond.instanceMethod_spec hinst
  obtain ⟨m8, methM', cM, hn8, hmethM', -, -, -, -, -, -, hsigM⟩ := Cond.codeWith_spec hcode
  cases Option.some.inj (hn8.symm.trans hnamed)
  cases hmethM.symm.trans hmethM'
  obtain ⟨c2, r2, m2, q1, q2, q3, q4, kP, hkP, hkPi⟩ := Cond.selects_spec hsel
  cases hcls.symm.trans q1
  cases (State.methodFound?_of_named hnamed hy).symm.trans q2
  cases hnamed.symm.trans q3
  have hselP : selectMethod e.platform s.vm cellB.cls mk = .method mk := by rw [Launch.admits_selectMethod X.admits]; exact q4
  obtain ⟨vm₁, X₁, hstep₁⟩ := X.invokevirtual hexec hown hlink hnamed hmethM hstM hkP hkPi hy (a := b) (cell := cellB) hcell
    (fun z h => by rw [h] at hobj; cases hobj) hselP hmethM habM hkP hkPi (g := g) hg (argsL := argsL) (rest := rest) (hlen _ hsigM) hstack hdg
  rcases hK m meth c ⟨T.setVm vm₁, locs, cells, slots⟩ { g with stack := rest } (.invokevirtual index) mk (Value.ref b :: argsL).toArray X₁ hg hsize hdg hW (X₁.named hnamed) (hpre vm₁ X₁.warmed) with ⟨v, B, X', hpost, hsteps⟩ | ⟨q, B, X', hpost, hsteps⟩
  · exact Or.inl ⟨v, vm₁, B, X₁.warmed, X', hpost, fun target h => hstep₁ _ fun acts => by rw [doInvoke_state]; exact hsteps.trans h⟩
  · exact Or.inr ⟨q, vm₁, B, X₁.warmed, X', hpost, hstep₁ _ fun acts => by rw [doInvoke_state]; exact hsteps⟩
theorem vx_callSX (X : Stand p l e R s m args below meth c T locs cells slots) (hexec : p.tables.exec = Jvm.exec) {own : String} {index : Nat} {y : MethodName} {bytes : ByteArray} {maxL : Nat} {ret : Option FieldType} {hh : List (Nat × Nat × Nat × Nat)}
    (hown : s.vm.findClass own = some m.cls) (hlink : (Cond.methodLink own index y).before args s = true) (hstat : (Cond.static y).before args s = true) (hinit : (Cond.initialized y.cls).before args s = true)
    (hcode : (Cond.codeWith y bytes maxL ret hh).before args s = true) (hy : y.cls ≠ "java/lang/invoke/MethodHandle" ∧ y.cls ≠ "java/lang/invoke/VarHandle")
    {W9 : Nat} {Pre : Pt → Array Value → Prop} {Post : Pt → Array Value → Option Value → Pt → Prop} {PostX : Pt → Array Value → Addr → Pt → Prop} (hK : vx_Back l R p e below s args y 3 W9 Pre Post PostX)
    {g : JFrame} (hg : g.method = m) (hsize : g.locals.size = c.maxLocals) {argsL rest : List Value} (hlen : ∀ sig, parseMethodDescriptor y.desc = some sig → argsL.length = sig.parameters.length)
    (hstack : g.stack = argsL.reverse ++ rest) (hW : 2 * g.monitorRoom + (rest.map fun v => v.category).sum ≤ W9) (hdg : decode c.code g.pc = .ok (.invokestatic index, 3))
    (hpre : ∀ vm₁, s.WarmedH vm₁ → Pre ⟨T.setVm vm₁, locs, cells, slots⟩ argsL.toArray) :
    (∃ (v : Option Value) (vm₁ : Vm) (B : Pt), s.WarmedH vm₁ ∧ Stand p l e R s m args below meth c B.U B.locs B.cells B.slots ∧ Post ⟨T.setVm vm₁, locs, cells, slots⟩ argsL.toArray v B ∧
      ∀ target, Steps p.tables e below (B.U.setTop { g with pc := g.pc + 3, stack := v.toList ++ rest }) target → Steps p.tables e below (T.setTop g) target) ∨
    (∃ (q : Addr) (vm₁ : Vm) (B : Pt), s.WarmedH vm₁ ∧ Stand p l e R s m args below meth c B.U B.locs B.cells B.slots ∧ PostX ⟨T.setVm vm₁, locs, cells, slots⟩ argsL.toArray q B ∧
      Steps p.tables e below (T.setTop g) ((B.U.setTop { g with stack := rest }).pushFrame (.throwing q))) := by
  obtain ⟨mk, methM, cM, hnamed, hmethM, -, -, -, -, -, -, hsigM⟩ := Cond.codeWith_spec hcode
  have hstatic : methM.isStatic = true := Cond.static_spec hnamed hmethM hstat
  obtain ⟨kP, hkP, -⟩ := className_of_methodNamed hnamed
  have hinitP : kP.init = .initialized := Cond.initialized_spec (findClass_of_methodNamed hnamed) hkP hinit
  obtain ⟨vm₁, X₁, hstep₁⟩ := X.invokestatic hexec hown hlink hnamed hmethM hstatic hkP hinitP hy (g := g) hg (argsL := argsL) (rest := rest) (hlen _ hsigM) hstack hdg
  rcases hK m meth c ⟨T.setVm vm₁, locs, cells, slots⟩ { g with stack := rest } (.invokestatic index) mk argsL.toArray X₁ hg hsize hdg hW (X₁.named hnamed) (hpre vm₁ X₁.warmed) with ⟨v, B, X', hpost, hsteps⟩ | ⟨q, B, X', hpost, hsteps⟩
  · exact Or.inl ⟨v, vm₁, B, X₁.warmed, X', hpost, fun target h => hstep₁ _ fun acts => by rw [doInvoke_state]; exact hsteps.trans h⟩
  · exact Or.inr ⟨q, vm₁, B, X₁.warmed, X', hpost, hstep₁ _ fun acts => by rw [doInvoke_state]; exact hsteps⟩
theorem vx_callVW (X : Stand p l e R s m args below meth c T locs cells slots) (hexec : p.tables.exec = Jvm.exec) {own C : String} {index : Nat} {y : MethodName} {bytes : ByteArray} {maxL : Nat} {ret : Option FieldType} {hh : List (Nat × Nat × Nat × Nat)}
    (hown : s.vm.findClass own = some m.cls) (hlink : (Cond.methodLink own index y).before args s = true) (hinst : (Cond.instanceMethod y).before args s = true) (hsel : (Cond.selects C y y).before args s = true)
    (hcode : (Cond.codeWith y bytes maxL ret hh).before args s = true) (hy : y.cls ≠ "java/lang/invoke/MethodHandle" ∧ y.cls ≠ "java/lang/invoke/VarHandle")
    {W9 : Nat} {Pre : Pt → Array Value → Prop} {Post : Pt → Array Value → Option Value → Pt → Prop} (hK : Back l R p e below s args y 3 W9 Pre Post)
    {b : Addr} {cellB : Cell} (hcell : T.heap[b]? = some cellB) (hobj : cellB.vm.isStatics = false) (hcls : s.vm.findClass C = some cellB.cls)
    {g : JFrame} (hg : g.method = m) (hsize : g.locals.size = c.maxLocals) {argsL rest : List Value} (hlen : ∀ sig, parseMethodDescriptor y.desc = some sig → argsL.length = sig.parameters.length)
    (hstack : g.stack = argsL.reverse ++ .ref b :: rest) (hW : 2 * g.monitorRoom + (rest.map fun v => v.category).sum ≤ W9) (hdg : decode c.code g.pc = .ok (.invokevirtual index, 3))
    (hpre : ∀ vm₁, s.WarmedH vm₁ → Pre ⟨T.setVm vm₁, locs, cells, slots⟩ (Value.ref b :: argsL).toArray) :
    ∃ (v : Option Value) (vm₁ : Vm) (B : Pt), s.WarmedH vm₁ ∧ Stand p l e R s m args below meth c B.U B.locs B.cells B.slots ∧ Post ⟨T.setVm vm₁, locs, cells, slots⟩ (Value.ref b :: argsL).toArray v B ∧
      ∀ target, Steps p.tables e below (B.U.setTop { g with pc := g.pc + 3, stack := v.toList ++ rest }) target → Steps p.tables e below (T.setTop g) target := by
  obtain ⟨mk, methM, hnamed, hmethM, hstM, habM⟩ := Cond.instanceMethod_spec hinst
  obtain ⟨m8, methM', cM, hn8, hmethM', -, -, -, -, -, -, hsigM⟩ := Cond.codeWith_spec hcode
  cases Option.some.inj (hn8.symm.trans hnamed)
  cases hmethM.symm.trans hmethM'
  obtain ⟨c2, r2, m2, q1, q2, q3, q4, kP, hkP, hkPi⟩ := Cond.selects_spec hsel
  cases hcls.symm.trans q1
  cases (State.methodFound?_of_named hnamed hy).symm.trans q2
  cases hnamed.symm.trans q3
  have hselP : selectMethod e.platform s.vm cellB.cls mk = .method mk := by rw [Launch.admits_selectMethod X.admits]; exact q4
  obtain ⟨vm₁, X₁, hstep₁⟩ := X.invokevirtual hexec hown hlink hnamed hmethM hstM hkP hkPi hy (a := b) (cell := cellB) hcell
    (fun z h => by rw [h] at hobj; cases hobj) hselP hmethM habM hkP hkPi (g := g) hg (argsL := argsL) (rest := rest) (hlen _ hsigM) hstack hdg
  obtain ⟨v, B, X', hpost, hsteps⟩ := hK m meth c ⟨T.setVm vm₁, locs, cells, slots⟩ { g with stack := rest } (.invokevirtual index) mk (Value.ref b :: argsL).toArray X₁ hg hsize hdg hW (X₁.named hnamed) (hpre vm₁ X₁.warmed)
  exact ⟨v, vm₁, B, X₁.warmed, X', hpost, fun target h => hstep₁ _ fun acts => by rw [doInvoke_state]; exact hsteps.trans h⟩
abbrev vx_CVW (R : Room) (s : State) (args : Array Value) (own C : String) (index : Nat) (y : MethodName) (bytes : ByteArray) (maxL : Nat) (ret : Option FieldType) (hh : List (Nat × Nat × Nat × Nat)) (ws : List Cond) (rm : Room) (mc ms n : Nat) : Prop :=
  (rm.cells = mc ∧ rm.slots = ms ∧ rm.frames + 1 ≤ R.frames ∧ 8 + (maxL + 11) + rm.locals ≤ R.locals ∧ (∀ w ∈ ws, ∀ (a' : Array Value) (U : State), s.WarmedH U.vm → w.before a' U = true) ∧ Cond.codeWith y bytes maxL ret hh ∈ ws) ∧
  (Cond.codeWith y bytes maxL ret hh).before args s = true ∧ (Cond.initialized y.cls).before args s = true ∧ (y.cls ≠ "java/lang/invoke/MethodHandle" ∧ y.cls ≠ "java/lang/invoke/VarHandle") ∧
  (∀ sig, parseMethodDescriptor y.desc = some sig → n = sig.parameters.length) ∧ (Cond.methodLink own index y).before args s = true ∧ (Cond.instanceMethod y).before args s = true ∧ (Cond.selects C y y).before args s = true
theorem vx_cwVW {own C : String} {index maxL mc ms : Nat} {y : MethodName} {bytes : ByteArray} {ret : Option FieldType} {hh : List (Nat × Nat × Nat × Nat)} {Ts ws ws' : List Cond} {rm : Room} (n : Nat) (ht : ∀ w ∈ Ts, w.before args s = true) (hT : GoodIn Ts (wsV own index C y ws)) (hw : ws = Cond.codeWith y bytes maxL ret hh :: ws') (hrc : rm.cells = mc) (hrs : rm.slots = ms)
    (hd : y.cls = C ∧ y.cls ≠ "java/lang/invoke/MethodHandle" ∧ y.cls ≠ "java/lang/invoke/VarHandle" ∧ (parseMethodDescriptor y.desc).map (fun d => d.parameters.length) = some n) (hR : rm.frames + 1 ≤ R.frames ∧ 8 + (maxL + 11) + rm.locals ≤ R.locals) :
    vx_CVW R s args own C index y bytes maxL ret hh ws rm mc ms n := by
  obtain ⟨hC, hd⟩ := hd
  subst hC
  have ok : ∀ w ∈ wsV own index y.cls y ws, w.before args s = true := fun w h => ht w (hT w h).1
  have hG : GoodIn Ts ws := fun w h => hT w (by unfold wsV; exact List.mem_append_right _ h)
  have hc : Cond.codeWith y bytes maxL ret hh ∈ ws := by rw [hw]; exact List.mem_cons_self
  refine ⟨⟨hrc, hrs, hR.1, hR.2, pay_in ht hG, hc⟩, ht _ (hG _ hc).1, ok _ (by simp [wsV]), ⟨hd.1, hd.2.1⟩, fun sig h => ?_, ok _ (by simp [wsV]), ok _ (by simp [wsV]), ok _ (by simp [wsV])⟩
  have h2 := hd.2.2
  rw [h] at h2
  exact (Option.some.inj h2).symm
theorem vx_runVW {y : MethodName} {bytes cc : ByteArray} {maxL nL mc ms n index : Nat} {ret : Option FieldType} {hh : List (Nat × Nat × Nat × Nat)} {ws : List Cond} {rm : Room} {Pc : Array Value → State → Prop} {Qc : Array Value → State → Outcome → State → Prop} {free : Addr → Prop} {Ts : List Cond} {own C : String} {b : Addr} {As rest : List Value} {g : JFrame}
    (S : CallFix p m c cc nL s args Ts own) (hM : Met l y ws rm Pc Qc mc ms free) (cw : vx_CVW R s args own C index y bytes maxL ret hh ws rm mc ms n) (hp : PreV s H C b Pc As)
    (hg : g.method = m) (hn : As.length = n) (hsize : g.locals.size = nL) (hstack : g.stack = As.reverse ++ .ref b :: rest) (hW : 2 * g.monitorRoom + (rest.map fun v => v.category).sum ≤ 8) (hdg : decode cc g.pc = .ok (.invokevirtual index, 3)) (hf : cells + mc ≤ R.cells ∧ slots + ms ≤ R.slots) :
    va_Run p l e R s m args below meth c H locs cells slots mc ms g rest (Qc (Value.ref b :: As).toArray) free := by
  obtain ⟨⟨hrc, hrs, hfr, hlo, hws, hcw⟩, hcode, hini, hy, hlen, hl, hin, hse⟩ := cw
  have hK : Back l R p e below s args y 3 8 (PreOf R mc ms Pc) (PostOf Qc mc ms free) := va_backW (hh := hh) (bytes := bytes) (maxL := maxL) (ret := ret) hM hp.1 hrc hrs hfr hlo hws hcw (fun a' U hW => word_at hW (Or.inl (by first | rfl | simp [Cond.onTables, Cond.keeps, Cond.steady])) hini)
  obtain ⟨hx, hb, hml, ho, -⟩ := S
  obtain ⟨-, ⟨cellB, hcB, hoB, hclB⟩, hPc⟩ := hp
  intro T hT X
  obtain ⟨v, vm₁, ⟨U', l2, c2, s2⟩, hW₁, X', ⟨g', mk, t, L, e1, e2, hq, h1, hL, h2, h3⟩, st⟩ := vx_callVW X hx (C := C) (hh := hh) (bytes := bytes) (maxL := maxL) (ret := ret) ho hl hin hse hcode hy hK (by rw [hT]; exact hcB) hoB hclB hg (hsize.trans hml.symm) (argsL := As) (rest := rest) (fun sig h => hn.trans (hlen sig h)) hstack hW (by rw [hb]; exact hdg)
    (fun vm₁ hW₁ => ⟨hf.1, hf.2, hPc (T.setVm vm₁) hT hW₁⟩)
  dsimp only [Pt.U, Pt.locs, Pt.cells, Pt.slots] at X' e1 e2 h1 h2 h3 st
  subst h1; subst h2; subst h3
  exact ⟨v, (T.setVm vm₁).calling g' mk (Value.ref b :: As).toArray, t, U', L, hT, X', hL, e1, e2, hq, st⟩
section
variable {y : MethodName} {bytes cc : ByteArray} {maxL nL mc ms n index : Nat} {ret : Option FieldType} {ws : List Cond} {rm : Room} {Pc : Array Value → State → Prop} {Qc : Array Value → State → Outcome → State → Prop} {XC : String → State → State → Prop} {free : Addr → Prop} {Ts : List Cond} {own C : String} {b : Addr} {As rest : List Value} {g : JFrame}
theorem vx_runVX {hh : List (Nat × Nat × Nat × Nat)} (S : CallFix p m c cc nL s args Ts own) (hM : vx_Met l y ws rm Pc Qc XC mc ms free) (cw : vx_CVW R s args own C index y bytes maxL ret hh ws rm mc ms n) (hp : PreV s H C b Pc As)
    (hg : g.method = m) (hn : As.length = n) (hsize : g.locals.size = nL) (hstack : g.stack = As.reverse ++ .ref b :: rest) (hW : 2 * g.monitorRoom + (rest.map fun v => v.category).sum ≤ 8) (hdg : decode cc g.pc = .ok (.invokevirtual index, 3)) (hf : cells + mc ≤ R.cells ∧ slots + ms ≤ R.slots) :
    vx_Run p l e R s m args below meth c H locs cells slots mc ms g rest (Qc (Value.ref b :: As).toArray) XC free := by
  obtain ⟨⟨hrc, hrs, hfr, hlo, hws, hcw⟩, hcode, hini, hy, hlen, hl, hin, hse⟩ := cw
  have hK : vx_Back l R p e below s args y 3 8 (PreOf R mc ms Pc) (PostOf Qc mc ms free) (vx_Post XC mc ms free) := vx_backW (hh := hh) (bytes := bytes) (maxL := maxL) (ret := ret) hM hp.1 hrc hrs hfr hlo hws hcw (fun a' U hW => word_at hW (Or.inl (by first | rfl | simp [Cond.onTables, Cond.keeps, Cond.steady])) hini)
  obtain ⟨hx, hb, hml, ho, -⟩ := S
  obtain ⟨-, ⟨cellB, hcB, hoB, hclB⟩, hPc⟩ := hp
  intro T hT X
  rcases vx_callVX X hx (C := C) (hh := hh) (bytes := bytes) (maxL := maxL) (ret := ret) ho hl hin hse hcode hy hK (by rw [hT]; exact hcB) hoB hclB hg (hsize.trans hml.symm) (argsL := As) (rest := rest) (fun sig h => hn.trans (hlen sig h)) hstack hW (by rw [hb]; exact hdg)
    (fun vm₁ hW₁ => ⟨hf.1, hf.2, hPc (T.setVm vm₁) hT hW₁⟩) with ⟨v, vm₁, ⟨U', l2, c2, s2⟩, hW₁, X', ⟨g', mk, t, L, e1, e2, hq, h1, hL, h2, h3⟩, st⟩ | ⟨q, vm₁, ⟨U', l2, c2, s2⟩, hW₁, X', ⟨g', mk, t, L, E, ce, e1, e2, hq, hce, hcv, hcl, h1, hL, h2, h3⟩, st⟩
  · dsimp only [Pt.U, Pt.locs, Pt.cells, Pt.slots] at X' e1 e2 h1 h2 h3 st
    subst h1; subst h2; subst h3
    exact Or.inl ⟨v, (T.setVm vm₁).calling g' mk (Value.ref b :: As).toArray, t, U', L, hT, X', hL, e1, e2, hq, st⟩
  · dsimp only [Pt.U, Pt.locs, Pt.cells, Pt.slots] at X' e1 e2 h1 h2 h3 st hcl
    subst h1; subst h2; subst h3
    exact Or.inr ⟨q, (T.setVm vm₁).calling g' mk (Value.ref b :: As).toArray, t, U', L, E, ce, hT, X', hL, e1, e2, hq, hce, hcv, vx_cls hW₁ hcl, st⟩
theorem vx_runSX {hh : List (Nat × Nat × Nat × Nat)} (S : CallFix p m c cc nL s args Ts own) (hM : vx_Met l y ws rm Pc Qc XC mc ms free) (cw : vx_CSW R s args own index y bytes maxL ret hh ws rm mc ms n) (hp : PreS s H Pc As)
    (hg : g.method = m) (hn : As.length = n) (hsize : g.locals.size = nL) (hstack : g.stack = As.reverse ++ rest) (hW : 2 * g.monitorRoom + (rest.map fun v => v.category).sum ≤ 8) (hdg : decode cc g.pc = .ok (.invokestatic index, 3)) (hf : cells + mc ≤ R.cells ∧ slots + ms ≤ R.slots) :
    vx_Run p l e R s m args below meth c H locs cells slots mc ms g rest (Qc As.toArray) XC free := by
  obtain ⟨⟨hrc, hrs, hfr, hlo, hws, hcw⟩, hcode, hini, hy, hlen, hl, hstt⟩ := cw
  have hK : vx_Back l R p e below s args y 3 8 (PreOf R mc ms Pc) (PostOf Qc mc ms free) (vx_Post XC mc ms free) := vx_backW (hh := hh) (bytes := bytes) (maxL := maxL) (ret := ret) hM hp.1 hrc hrs hfr hlo hws hcw (fun a' U hW => word_at hW (Or.inl (by first | rfl | simp [Cond.onTables, Cond.keeps, Cond.steady])) hini)
  obtain ⟨hx, hb, hml, ho, -⟩ := S
  intro T hT X
  rcases vx_callSX X hx (hh := hh) (bytes := bytes) (maxL := maxL) (ret := ret) ho hl hstt hini hcode hy hK hg (hsize.trans hml.symm) (argsL := As) (rest := rest) (fun sig h => hn.trans (hlen sig h)) hstack hW (by rw [hb]; exact hdg)
    (fun vm₁ hW₁ => ⟨hf.1, hf.2, hp.2 (T.setVm vm₁) hT hW₁⟩) with ⟨v, vm₁, ⟨U', l2, c2, s2⟩, hW₁, X', ⟨g', mk, t, L, e1, e2, hq, h1, hL, h2, h3⟩, st⟩ | ⟨q, vm₁, ⟨U', l2, c2, s2⟩, hW₁, X', ⟨g', mk, t, L, E, ce, e1, e2, hq, hce, hcv, hcl, h1, hL, h2, h3⟩, st⟩
  · dsimp only [Pt.U, Pt.locs, Pt.cells, Pt.slots] at X' e1 e2 h1 h2 h3 st
    subst h1; subst h2; subst h3
    exact Or.inl ⟨v, (T.setVm vm₁).calling g' mk As.toArray, t, U', L, hT, X', hL, e1, e2, hq, st⟩
  · dsimp only [Pt.U, Pt.locs, Pt.cells, Pt.slots] at X' e1 e2 h1 h2 h3 st hcl
    subst h1; subst h2; subst h3
    exact Or.inr ⟨q, (T.setVm vm₁).calling g' mk As.toArray, t, U', L, E, ce, hT, X', hL, e1, e2, hq, hce, hcv, vx_cls hW₁ hcl, st⟩
end
end VXH
theorem vx_ofWH {l : Launch} {y : MethodName} {ws ws' : List Cond} {rm : Room} {Pc : Array Value → State → Prop} {Qc : Array Value → State → Outcome → State → Prop} {XC : String → State → State → Prop} {mc ms : Nat} {free : Addr → Prop} {cc : ByteArray} {maxL : Nat} {ret : Option FieldType} {hh : List (Nat × Nat × Nat × Nat)}
    (hy : plainName y.cls = true) (hw : ws = Cond.codeWith y cc maxL ret hh :: ws')
    (body : ∀ p e s m args below meth c s₁, BodyLoose p l y (headSpec ws rm) cc maxL ret e s m args below meth c s₁ → c.maxLocals = maxL → Pc args s →
      W p l e (headSpec ws rm).room s m args below meth c s.heap [] 0 0 (vx_MQ below Qc XC args s mc ms free) (entryFrame m args maxL)) : vx_Met l y ws rm Pc Qc XC mc ms free := by
  refine MetFree.of_bodyS (code := cc) (maxLocals := maxL) (ret := ret) hy ?_ ?_
  · intro args s m h hn
    obtain ⟨m9, meth, c, hn9, h1, h2, h3, h4, -, h5, h6, -⟩ := Cond.codeWith_spec (atoms_spec (ws := ws) h _ (by rw [hw]; exact List.mem_cons_self))
    cases hn.symm.trans hn9
    exact ⟨meth, c, h1, h2, h3, h4, h5, h6⟩
  · intro p e s m args below meth c s₁ B hml hP _
    have hh0 : s₁.heap = s.heap := by rw [B.state]; rfl
    obtain ⟨t, a1, o, b1, b2, b3⟩ := body p e s m args below meth c s₁ B hml hP s₁ hh0 (Stand.of_body B)
    exact ⟨t, o, a1, b1, b2, b3⟩
/-! ===== END ===== -/
end
section
/-! ===== BEGIN printed: names, fields, word lists, decode rows ===== -/
def RX0 : String := "RampJam$Search"
def TX0 : u_T := fun k => match k with
  | 0 => ("RampJam$Search", "yard", "LRampJam$Yard;", true)
  | 1 => ("RampJam$Search", "found", "[I", true)
  | 2 => ("RampJam$Search", "origins", "[I", true)
  | 3 => ("RampJam$Search", "moveCodes", "[I", true)
  | 4 => ("RampJam$Search", "slots", "[I", true)
  | 5 => ("RampJam$Search", "foundCount", "I", false)
  | 6 => ("RampJam$Search", "firstSolved", "I", false)
  | 7 => ("RampJam$Search", "solvedMoves", "I", false)
  | 8 => ("RampJam$Search", "solvedCells", "I", false)
  | _ => ("RampJam$Search", "solvedFirstMove", "I", false)
def tyX0 : Nat → FieldType := fun k => match k with
  | 0 => .object "RampJam$Yard"
  | 1 => .array .int
  | 2 => .array .int
  | 3 => .array .int
  | 4 => .array .int
  | 5 => .int
  | 6 => .int
  | 7 => .int
  | 8 => .int
  | _ => .int
abbrev wsX00 : List Cond := u_ws RX0 TX0 10
theorem nmX0 : ∀ a, a < 10 → ∀ b, b < 10 → a ≠ b → (TX0 a).2.1 ≠ (TX0 b).2.1 := by decide +kernel
theorem tyX0_ok : ∀ k, k < 10 → parseFieldDescriptor (TX0 k).2.2.1 = some (tyX0 k) := by decide +kernel
abbrev cX0_init : ByteArray := prog_2_method_1_code
def yX0_init : MethodName := ⟨RX0, "<init>", "(LRampJam$Yard;)V"⟩
abbrev cX0_count : ByteArray := prog_2_method_2_code
def yX0_count : MethodName := ⟨RX0, "count", "()I"⟩
abbrev cX0_lookFrom : ByteArray := prog_2_method_3_code
def yX0_lookFrom : MethodName := ⟨RX0, "lookFrom", "(I)V"⟩
abbrev cX0_movesToSolved : ByteArray := prog_2_method_4_code
def yX0_movesToSolved : MethodName := ⟨RX0, "movesToSolved", "()I"⟩
abbrev cX0_firstMoveToSolved : ByteArray := prog_2_method_6_code
def yX0_firstMoveToSolved : MethodName := ⟨RX0, "firstMoveToSolved", "()I"⟩
abbrev cX0_traceWay : ByteArray := prog_2_method_9_code
def yX0_traceWay : MethodName := ⟨RX0, "traceWay", "()V"⟩
abbrev cX0_isFound : ByteArray := prog_2_method_10_code
def yX0_isFound : MethodName := ⟨RX0, "isFound", "(I)Z"⟩
abbrev cX0_addReachedFrom : ByteArray := prog_2_method_11_code
def yX0_addReachedFrom : MethodName := ⟨RX0, "addReachedFrom", "(I)V"⟩
abbrev cX0_addDriven : ByteArray := prog_2_method_12_code
def yX0_addDriven : MethodName := ⟨RX0, "addDriven", "(IIII)V"⟩
abbrev cX0_addIfNew : ByteArray := prog_2_method_13_code
def yX0_addIfNew : MethodName := ⟨RX0, "addIfNew", "(III)V"⟩
abbrev cX0_slotFor : ByteArray := prog_2_method_14_code
def yX0_slotFor : MethodName := ⟨RX0, "slotFor", "(I)I"⟩
abbrev cX0_codeOfMove : ByteArray := prog_2_method_15_code
def yX0_codeOfMove : MethodName := ⟨RX0, "codeOfMove", "(II)I"⟩
abbrev cX0_cellsOfMove : ByteArray := prog_2_method_16_code
def yX0_cellsOfMove : MethodName := ⟨RX0, "cellsOfMove", "(I)I"⟩
def RX1 : String := "RampJam$Yard"
def TX1 : u_T := fun k => match k with
  | 0 => ("RampJam$Yard", "sizes", "[I", true)
  | 1 => ("RampJam$Yard", "acrosses", "[Z", true)
  | 2 => ("RampJam$Yard", "lines", "[I", true)
  | 3 => ("RampJam$Yard", "shapes", "[J", true)
  | 4 => ("RampJam$Yard", "vehicleCount", "I", false)
  | _ => ("RampJam$Yard", "rampCell", "J", false)
def tyX1 : Nat → FieldType := fun k => match k with
  | 0 => .array .int
  | 1 => .array .boolean
  | 2 => .array .int
  | 3 => .array .long
  | 4 => .int
  | _ => .long
abbrev wsX10 : List Cond := u_ws RX1 TX1 6
theorem nmX1 : ∀ a, a < 6 → ∀ b, b < 6 → a ≠ b → (TX1 a).2.1 ≠ (TX1 b).2.1 := by decide +kernel
theorem tyX1_ok : ∀ k, k < 6 → parseFieldDescriptor (TX1 k).2.2.1 = some (tyX1 k) := by decide +kernel
abbrev cX1_init : ByteArray := prog_3_method_1_code
def yX1_init : MethodName := ⟨RX1, "<init>", "()V"⟩
abbrev cX1_count : ByteArray := prog_3_method_2_code
def yX1_count : MethodName := ⟨RX1, "count", "()I"⟩
abbrev cX1_has : ByteArray := prog_3_method_3_code
def yX1_has : MethodName := ⟨RX1, "has", "(I)Z"⟩
abbrev cX1_add : ByteArray := prog_3_method_4_code
def yX1_add : MethodName := ⟨RX1, "add", "(IZI)I"⟩
abbrev cX1_putRamp : ByteArray := prog_3_method_5_code
def yX1_putRamp : MethodName := ⟨RX1, "putRamp", "(J)V"⟩
abbrev cX1_isLorry : ByteArray := prog_3_method_6_code
def yX1_isLorry : MethodName := ⟨RX1, "isLorry", "(I)Z"⟩
abbrev cX1_standsAcross : ByteArray := prog_3_method_7_code
def yX1_standsAcross : MethodName := ⟨RX1, "standsAcross", "(I)Z"⟩
abbrev cX1_lineOf : ByteArray := prog_3_method_8_code
def yX1_lineOf : MethodName := ⟨RX1, "lineOf", "(I)I"⟩
abbrev cX1_barredTo : ByteArray := prog_3_method_9_code
def yX1_barredTo : MethodName := ⟨RX1, "barredTo", "(I)J"⟩
abbrev cX1_cellsIn : ByteArray := prog_3_method_10_code
def yX1_cellsIn : MethodName := ⟨RX1, "cellsIn", "(II)J"⟩
abbrev cX1_filledIn : ByteArray := prog_3_method_11_code
def yX1_filledIn : MethodName := ⟨RX1, "filledIn", "(I)J"⟩
abbrev cX1_vehicleOn : ByteArray := prog_3_method_12_code
def yX1_vehicleOn : MethodName := ⟨RX1, "vehicleOn", "(IJ)I"⟩
abbrev cX1_wayIn : ByteArray := prog_3_method_13_code
def yX1_wayIn : MethodName := ⟨RX1, "wayIn", "(IJII)I"⟩
def RX2 : String := "RampJam"
def TX2 : u_T := fun k => match k with
  | 0 => ("RampJam", "yard", "LRampJam$Yard;", true)
  | 1 => ("RampJam", "search", "LRampJam$Search;", true)
  | 2 => ("RampJam", "parkedPosition", "I", false)
  | 3 => ("RampJam", "position", "I", false)
  | 4 => ("RampJam", "moveCount", "I", false)
  | 5 => ("RampJam", "drivenCells", "I", false)
  | _ => ("RampJam", "isSearched", "Z", false)
def tyX2 : Nat → FieldType := fun k => match k with
  | 0 => .object "RampJam$Yard"
  | 1 => .object "RampJam$Search"
  | 2 => .int
  | 3 => .int
  | 4 => .int
  | 5 => .int
  | _ => .boolean
abbrev wsX20 : List Cond := u_ws RX2 TX2 7
theorem nmX2 : ∀ a, a < 7 → ∀ b, b < 7 → a ≠ b → (TX2 a).2.1 ≠ (TX2 b).2.1 := by decide +kernel
theorem tyX2_ok : ∀ k, k < 7 → parseFieldDescriptor (TX2 k).2.2.1 = some (tyX2 k) := by decide +kernel
abbrev cX2_init : ByteArray := prog_1_method_1_code
def yX2_init : MethodName := ⟨RX2, "<init>", "()V"⟩
abbrev cX2_park : ByteArray := prog_1_method_2_code
def yX2_park : MethodName := ⟨RX2, "park", "(IZII)I"⟩
abbrev cX2_ramp : ByteArray := prog_1_method_3_code
def yX2_ramp : MethodName := ⟨RX2, "ramp", "(II)V"⟩
abbrev cX2_drive : ByteArray := prog_1_method_4_code
def yX2_drive : MethodName := ⟨RX2, "drive", "(II)V"⟩
abbrev cX2_restart : ByteArray := prog_1_method_6_code
def yX2_restart : MethodName := ⟨RX2, "restart", "()V"⟩
abbrev cX2_vehicles : ByteArray := prog_1_method_7_code
def yX2_vehicles : MethodName := ⟨RX2, "vehicles", "()I"⟩
abbrev cX2_rowOf : ByteArray := prog_1_method_8_code
def yX2_rowOf : MethodName := ⟨RX2, "rowOf", "(I)I"⟩
abbrev cX2_columnOf : ByteArray := prog_1_method_9_code
def yX2_columnOf : MethodName := ⟨RX2, "columnOf", "(I)I"⟩
abbrev cX2_at : ByteArray := prog_1_method_10_code
def yX2_at : MethodName := ⟨RX2, "at", "(II)I"⟩
abbrev cX2_freeWay : ByteArray := prog_1_method_11_code
def yX2_freeWay : MethodName := ⟨RX2, "freeWay", "(IZ)I"⟩
abbrev cX2_inTheWay : ByteArray := prog_1_method_12_code
def yX2_inTheWay : MethodName := ⟨RX2, "inTheWay", "()I"⟩
abbrev cX2_isSolved : ByteArray := prog_1_method_13_code
def yX2_isSolved : MethodName := ⟨RX2, "isSolved", "()Z"⟩
abbrev cX2_moves : ByteArray := prog_1_method_14_code
def yX2_moves : MethodName := ⟨RX2, "moves", "()I"⟩
abbrev cX2_driven : ByteArray := prog_1_method_15_code
def yX2_driven : MethodName := ⟨RX2, "driven", "()I"⟩
abbrev cX2_positions : ByteArray := prog_1_method_16_code
def yX2_positions : MethodName := ⟨RX2, "positions", "()I"⟩
abbrev cX2_fewestMoves : ByteArray := prog_1_method_17_code
def yX2_fewestMoves : MethodName := ⟨RX2, "fewestMoves", "()I"⟩
abbrev cX2_hint : ByteArray := prog_1_method_18_code
def yX2_hint : MethodName := ⟨RX2, "hint", "()I"⟩
abbrev cX2_wayNow : ByteArray := prog_1_method_21_code
def yX2_wayNow : MethodName := ⟨RX2, "wayNow", "(IZ)I"⟩
abbrev cX2_makeMove : ByteArray := prog_1_method_22_code
def yX2_makeMove : MethodName := ⟨RX2, "makeMove", "(II)V"⟩
abbrev cX2_standAt : ByteArray := prog_1_method_23_code
def yX2_standAt : MethodName := ⟨RX2, "standAt", "(I)V"⟩
abbrev cX2_searchFromNow : ByteArray := prog_1_method_24_code
def yX2_searchFromNow : MethodName := ⟨RX2, "searchFromNow", "()V"⟩
abbrev cX2_isInYard : ByteArray := prog_1_method_25_code
def yX2_isInYard : MethodName := ⟨RX2, "isInYard", "(II)Z"⟩
abbrev cX2_cellOf : ByteArray := prog_1_method_26_code
def yX2_cellOf : MethodName := ⟨RX2, "cellOf", "(II)J"⟩
abbrev cX2_cellsOf : ByteArray := prog_1_method_27_code
def yX2_cellsOf : MethodName := ⟨RX2, "cellsOf", "(IZII)J"⟩
abbrev cX2_placeIn : ByteArray := prog_1_method_28_code
def yX2_placeIn : MethodName := ⟨RX2, "placeIn", "(II)I"⟩
abbrev cX2_moved : ByteArray := prog_1_method_29_code
def yX2_moved : MethodName := ⟨RX2, "moved", "(III)I"⟩
def RX3 : String := "RampJamModel"
def TX3 : u_T := fun k => match k with
  | _ => ("", "", "", false)
def tyX3 : Nat → FieldType := fun k => match k with
  | _ => .int
abbrev wsX30 : List Cond := u_ws RX3 TX3 0
theorem nmX3 : ∀ a, a < 0 → ∀ b, b < 0 → a ≠ b → (TX3 a).2.1 ≠ (TX3 b).2.1 := by decide +kernel
theorem tyX3_ok : ∀ k, k < 0 → parseFieldDescriptor (TX3 k).2.2.1 = some (tyX3 k) := by decide +kernel
def RJx145de : String := "java/io/Serializable"
def TJx145de : u_T := fun k => match k with
  | _ => ("", "", "", false)
def tyJx145de : Nat → FieldType := fun k => match k with
  | _ => .int
abbrev wsJx145de0 : List Cond := u_ws RJx145de TJx145de 0
theorem nmJx145de : ∀ a, a < 0 → ∀ b, b < 0 → a ≠ b → (TJx145de a).2.1 ≠ (TJx145de b).2.1 := by decide +kernel
theorem tyJx145de_ok : ∀ k, k < 0 → parseFieldDescriptor (TJx145de k).2.2.1 = some (tyJx145de k) := by decide +kernel
def RJ9 : String := "java/lang/Math"
def TJ9 : u_T := fun k => match k with
  | _ => ("", "", "", false)
def tyJ9 : Nat → FieldType := fun k => match k with
  | _ => .int
abbrev wsJ90 : List Cond := u_ws RJ9 TJ9 0
theorem nmJ9 : ∀ a, a < 0 → ∀ b, b < 0 → a ≠ b → (TJ9 a).2.1 ≠ (TJ9 b).2.1 := by decide +kernel
theorem tyJ9_ok : ∀ k, k < 0 → parseFieldDescriptor (TJ9 k).2.2.1 = some (tyJ9 k) := by decide +kernel
abbrev cJ9_abs_0f7a4 : ByteArray := prog_10_method_59_code
def yJ9_abs_0f7a4 : MethodName := ⟨RJ9, "abs", "(I)I"⟩
def RJ0 : String := "java/lang/String"
def TJ0 : u_T := fun k => match k with
  | _ => ("", "", "", false)
def tyJ0 : Nat → FieldType := fun k => match k with
  | _ => .int
abbrev wsJ00 : List Cond := u_ws RJ0 TJ0 0
theorem nmJ0 : ∀ a, a < 0 → ∀ b, b < 0 → a ≠ b → (TJ0 a).2.1 ≠ (TJ0 b).2.1 := by decide +kernel
theorem tyJ0_ok : ∀ k, k < 0 → parseFieldDescriptor (TJ0 k).2.2.1 = some (tyJ0 k) := by decide +kernel
def RJ7 : String := "java/util/Arrays"
def TJ7 : u_T := fun k => match k with
  | _ => ("", "", "", false)
def tyJ7 : Nat → FieldType := fun k => match k with
  | _ => .int
abbrev wsJ70 : List Cond := u_ws RJ7 TJ7 0
theorem nmJ7 : ∀ a, a < 0 → ∀ b, b < 0 → a ≠ b → (TJ7 a).2.1 ≠ (TJ7 b).2.1 := by decide +kernel
theorem tyJ7_ok : ∀ k, k < 0 → parseFieldDescriptor (TJ7 k).2.2.1 = some (tyJ7 k) := by decide +kernel
abbrev cJ7_fill_53178 : ByteArray := prog_14_method_103_code
def yJ7_fill_53178 : MethodName := ⟨RJ7, "fill", "([II)V"⟩
def RL : String := "RampJamLaw"
abbrev cL_drawn : ByteArray := method_2_code
def yL_drawn : MethodName := ⟨RL, "drawn", "([III)I"⟩
abbrev cL_filled : ByteArray := method_3_code
def yL_filled : MethodName := ⟨RL, "filled", "(LRampJam;I)I"⟩
abbrev cL_isWhole : ByteArray := method_4_code
def yL_isWhole : MethodName := ⟨RL, "isWhole", "(LRampJam;[I[II)Z"⟩
abbrev cL_isStep : ByteArray := method_5_code
def yL_isStep : MethodName := ⟨RL, "isStep", "(LRampJam;III)Z"⟩
abbrev cL_law : ByteArray := code
def yL_law : MethodName := ⟨RL, "law", "([I)Z"⟩
def wsX0_init : List Cond := .code yX0_init cX0_init 2 none :: ([.methodLink RX0 3 objectInit, .instanceMethod objectInit, .code objectInit ⟨#[0xb1]⟩ 1 none, .arrayClass .int, .fieldLink RX0 9 "RampJam$Search" "found" "[I", .fieldLink RX0 15 "RampJam$Search" "origins" "[I", .fieldLink RX0 18 "RampJam$Search" "moveCodes" "[I", .fieldLink RX0 21 "RampJam$Search" "slots" "[I", .fieldLink RX0 24 "RampJam$Search" "yard" "LRampJam$Yard;"] ++ wsX00)
def wsX0_count : List Cond := .code yX0_count cX0_count 1 (some .int) :: ([.fieldLink RX0 28 "RampJam$Search" "foundCount" "I"] ++ wsX00)
def wsJ7_fill_53178 : List Cond := .code yJ7_fill_53178 cJ7_fill_53178 4 none :: ([])
def wsX0_slotFor : List Cond := .code yX0_slotFor cX0_slotFor 6 (some .int) :: ([.constant RX0 106 (-1640531535), .fieldLink RX0 21 "RampJam$Search" "slots" "[I", .fieldLink RX0 9 "RampJam$Search" "found" "[I"] ++ wsX00)
def wsX2_placeIn : List Cond := .code yX2_placeIn cX2_placeIn 2 (some .int) :: ([])
def wsX0_addIfNew : List Cond := .code yX0_addIfNew cX0_addIfNew 6 none :: ([.fieldLink RX0 28 "RampJam$Search" "foundCount" "I", .fieldLink RX0 21 "RampJam$Search" "slots" "[I", .fieldLink RX0 9 "RampJam$Search" "found" "[I", .fieldLink RX0 15 "RampJam$Search" "origins" "[I", .fieldLink RX0 18 "RampJam$Search" "moveCodes" "[I", .fieldLink RX0 38 "RampJam$Search" "firstSolved" "I", .methodLink RX0 103 yX0_slotFor, .instanceMethod yX0_slotFor, .selects RX0 yX0_slotFor yX0_slotFor, .initialized RX0, .code yX0_slotFor cX0_slotFor 6 (some .int), .constant RX0 106 (-1640531535), .static yX2_placeIn, .initialized RX2, .code yX2_placeIn cX2_placeIn 2 (some .int)] ++ wsX00)
def wsX0_isFound : List Cond := .code yX0_isFound cX0_isFound 2 (some .boolean) :: ([.fieldLink RX0 28 "RampJam$Search" "foundCount" "I"] ++ wsX00)
def wsX1_has : List Cond := .code yX1_has cX1_has 2 (some .boolean) :: ([.fieldLink RX1 26 "RampJam$Yard" "vehicleCount" "I"] ++ wsX10)
def wsX1_cellsIn : List Cond := .code yX1_cellsIn cX1_cellsIn 4 (some .long) :: ([.fieldLink RX1 15 "RampJam$Yard" "acrosses" "[Z", .fieldLink RX1 22 "RampJam$Yard" "shapes" "[J", .methodLink RX1 38 yX1_has, .instanceMethod yX1_has, .selects RX1 yX1_has yX1_has, .initialized RX1, .code yX1_has cX1_has 2 (some .boolean), .fieldLink RX1 26 "RampJam$Yard" "vehicleCount" "I", .static yX2_placeIn, .initialized RX2, .code yX2_placeIn cX2_placeIn 2 (some .int)] ++ wsX10)
def wsX1_filledIn : List Cond := .code yX1_filledIn cX1_filledIn 5 (some .long) :: ([.fieldLink RX1 26 "RampJam$Yard" "vehicleCount" "I", .methodLink RX1 46 yX1_cellsIn, .instanceMethod yX1_cellsIn, .selects RX1 yX1_cellsIn yX1_cellsIn, .initialized RX1, .code yX1_cellsIn cX1_cellsIn 4 (some .long), .fieldLink RX1 15 "RampJam$Yard" "acrosses" "[Z", .fieldLink RX1 22 "RampJam$Yard" "shapes" "[J", .methodLink RX1 38 yX1_has, .instanceMethod yX1_has, .selects RX1 yX1_has yX1_has, .code yX1_has cX1_has 2 (some .boolean), .static yX2_placeIn, .initialized RX2, .code yX2_placeIn cX2_placeIn 2 (some .int)] ++ wsX10)
def wsX1_count : List Cond := .code yX1_count cX1_count 1 (some .int) :: ([.fieldLink RX1 26 "RampJam$Yard" "vehicleCount" "I"] ++ wsX10)
def wsX1_barredTo : List Cond := .code yX1_barredTo cX1_barredTo 2 (some .long) :: ([.fieldLink RX1 34 "RampJam$Yard" "rampCell" "J"] ++ wsX10)
def wsX1_wayIn : List Cond := .code yX1_wayIn cX1_wayIn 14 (some .int) :: ([.fieldLink RX1 9 "RampJam$Yard" "sizes" "[I", .fieldLink RX1 15 "RampJam$Yard" "acrosses" "[Z", .constantLong RX1 50 (-1), .methodLink RX1 38 yX1_has, .instanceMethod yX1_has, .selects RX1 yX1_has yX1_has, .initialized RX1, .code yX1_has cX1_has 2 (some .boolean), .fieldLink RX1 26 "RampJam$Yard" "vehicleCount" "I", .static yX2_placeIn, .initialized RX2, .code yX2_placeIn cX2_placeIn 2 (some .int), .methodLink RX1 46 yX1_cellsIn, .instanceMethod yX1_cellsIn, .selects RX1 yX1_cellsIn yX1_cellsIn, .code yX1_cellsIn cX1_cellsIn 4 (some .long), .fieldLink RX1 22 "RampJam$Yard" "shapes" "[J", .methodLink RX1 52 yX1_barredTo, .instanceMethod yX1_barredTo, .selects RX1 yX1_barredTo yX1_barredTo, .code yX1_barredTo cX1_barredTo 2 (some .long), .fieldLink RX1 34 "RampJam$Yard" "rampCell" "J"] ++ wsX10)
def wsX2_moved : List Cond := .code yX2_moved cX2_moved 3 (some .int) :: ([])
def wsX0_codeOfMove : List Cond := .code yX0_codeOfMove cX0_codeOfMove 2 (some .int) :: ([])
def wsX0_addDriven_r1 : List Cond := [Cond.fieldLink RX0 9 "RampJam$Search" "found" "[I", Cond.methodLink RX0 61 yX0_isFound, Cond.instanceMethod yX0_isFound, Cond.selects RX0 yX0_isFound yX0_isFound, Cond.initialized RX0, Cond.code yX0_isFound cX0_isFound 2 (some .boolean), Cond.fieldLink RX0 28 "RampJam$Search" "foundCount" "I", Cond.static yX2_moved, Cond.initialized RX2, Cond.code yX2_moved cX2_moved 3 (some .int), Cond.methodLink RX0 100 yX0_codeOfMove, Cond.static yX0_codeOfMove, Cond.code yX0_codeOfMove cX0_codeOfMove 2 (some .int), Cond.methodLink RX0 41 yX0_addIfNew, Cond.instanceMethod yX0_addIfNew, Cond.selects RX0 yX0_addIfNew yX0_addIfNew, Cond.code yX0_addIfNew cX0_addIfNew 6 none, Cond.fieldLink RX0 21 "RampJam$Search" "slots" "[I", Cond.fieldLink RX0 15 "RampJam$Search" "origins" "[I", Cond.fieldLink RX0 18 "RampJam$Search" "moveCodes" "[I", Cond.fieldLink RX0 38 "RampJam$Search" "firstSolved" "I", Cond.methodLink RX0 103 yX0_slotFor, Cond.instanceMethod yX0_slotFor, Cond.selects RX0 yX0_slotFor yX0_slotFor]
def wsX0_addDriven_r2 : List Cond := [Cond.code yX0_slotFor cX0_slotFor 6 (some .int), Cond.constant RX0 106 (-1640531535), Cond.static yX2_placeIn, Cond.code yX2_placeIn cX2_placeIn 2 (some .int)]
def wsX0_addDriven : List Cond := .code yX0_addDriven cX0_addDriven 7 none :: ((wsX0_addDriven_r1 ++ wsX0_addDriven_r2) ++ wsX00)
def wsX0_addReachedFrom_r1 : List Cond := [Cond.fieldLink RX0 9 "RampJam$Search" "found" "[I", Cond.fieldLink RX0 24 "RampJam$Search" "yard" "LRampJam$Yard;", Cond.methodLink RX0 61 yX0_isFound, Cond.instanceMethod yX0_isFound, Cond.selects RX0 yX0_isFound yX0_isFound, Cond.initialized RX0, Cond.code yX0_isFound cX0_isFound 2 (some .boolean), Cond.fieldLink RX0 28 "RampJam$Search" "foundCount" "I", Cond.methodLink RX0 78 yX1_filledIn, Cond.instanceMethod yX1_filledIn, Cond.selects RX1 yX1_filledIn yX1_filledIn, Cond.initialized RX1, Cond.code yX1_filledIn cX1_filledIn 5 (some .long), Cond.fieldLink RX1 26 "RampJam$Yard" "vehicleCount" "I", Cond.methodLink RX1 46 yX1_cellsIn, Cond.instanceMethod yX1_cellsIn, Cond.selects RX1 yX1_cellsIn yX1_cellsIn, Cond.code yX1_cellsIn cX1_cellsIn 4 (some .long), Cond.fieldLink RX1 15 "RampJam$Yard" "acrosses" "[Z", Cond.fieldLink RX1 22 "RampJam$Yard" "shapes" "[J", Cond.methodLink RX1 38 yX1_has, Cond.instanceMethod yX1_has, Cond.selects RX1 yX1_has yX1_has, Cond.code yX1_has cX1_has 2 (some .boolean)]
def wsX0_addReachedFrom_r2 : List Cond := [Cond.static yX2_placeIn, Cond.initialized RX2, Cond.code yX2_placeIn cX2_placeIn 2 (some .int), Cond.methodLink RX0 84 yX1_count, Cond.instanceMethod yX1_count, Cond.selects RX1 yX1_count yX1_count, Cond.code yX1_count cX1_count 1 (some .int), Cond.methodLink RX0 88 yX1_wayIn, Cond.instanceMethod yX1_wayIn, Cond.selects RX1 yX1_wayIn yX1_wayIn, Cond.code yX1_wayIn cX1_wayIn 14 (some .int), Cond.fieldLink RX1 9 "RampJam$Yard" "sizes" "[I", Cond.constantLong RX1 50 (-1), Cond.methodLink RX1 52 yX1_barredTo, Cond.instanceMethod yX1_barredTo, Cond.selects RX1 yX1_barredTo yX1_barredTo, Cond.code yX1_barredTo cX1_barredTo 2 (some .long), Cond.fieldLink RX1 34 "RampJam$Yard" "rampCell" "J", Cond.methodLink RX0 92 yX0_addDriven, Cond.instanceMethod yX0_addDriven, Cond.selects RX0 yX0_addDriven yX0_addDriven, Cond.code yX0_addDriven cX0_addDriven 7 none, Cond.static yX2_moved, Cond.code yX2_moved cX2_moved 3 (some .int)]
def wsX0_addReachedFrom_r3 : List Cond := [Cond.methodLink RX0 100 yX0_codeOfMove, Cond.static yX0_codeOfMove, Cond.code yX0_codeOfMove cX0_codeOfMove 2 (some .int), Cond.methodLink RX0 41 yX0_addIfNew, Cond.instanceMethod yX0_addIfNew, Cond.selects RX0 yX0_addIfNew yX0_addIfNew, Cond.code yX0_addIfNew cX0_addIfNew 6 none, Cond.fieldLink RX0 21 "RampJam$Search" "slots" "[I", Cond.fieldLink RX0 15 "RampJam$Search" "origins" "[I", Cond.fieldLink RX0 18 "RampJam$Search" "moveCodes" "[I", Cond.fieldLink RX0 38 "RampJam$Search" "firstSolved" "I", Cond.methodLink RX0 103 yX0_slotFor, Cond.instanceMethod yX0_slotFor, Cond.selects RX0 yX0_slotFor yX0_slotFor, Cond.code yX0_slotFor cX0_slotFor 6 (some .int), Cond.constant RX0 106 (-1640531535)]
def wsX0_addReachedFrom : List Cond := .code yX0_addReachedFrom cX0_addReachedFrom 6 none :: ((wsX0_addReachedFrom_r1 ++ (wsX0_addReachedFrom_r2 ++ wsX0_addReachedFrom_r3)) ++ wsX00 ++ wsX10)
def wsX0_cellsOfMove : List Cond := .code yX0_cellsOfMove cX0_cellsOfMove 1 (some .int) :: ([])
def wsX0_traceWay : List Cond := .code yX0_traceWay cX0_traceWay 3 none :: ([.fieldLink RX0 38 "RampJam$Search" "firstSolved" "I", .fieldLink RX0 52 "RampJam$Search" "solvedMoves" "I", .fieldLink RX0 55 "RampJam$Search" "solvedCells" "I", .fieldLink RX0 58 "RampJam$Search" "solvedFirstMove" "I", .fieldLink RX0 18 "RampJam$Search" "moveCodes" "[I", .methodLink RX0 73 Lib.Math.abs.name, .static Lib.Math.abs.name, .initialized "java/lang/Math", .code Lib.Math.abs.name Lib.Math.abs.code 1 (some .int), .fieldLink RX0 15 "RampJam$Search" "origins" "[I", .methodLink RX0 61 yX0_isFound, .instanceMethod yX0_isFound, .selects RX0 yX0_isFound yX0_isFound, .initialized RX0, .code yX0_isFound cX0_isFound 2 (some .boolean), .fieldLink RX0 28 "RampJam$Search" "foundCount" "I", .methodLink RX0 69 yX0_cellsOfMove, .static yX0_cellsOfMove, .code yX0_cellsOfMove cX0_cellsOfMove 1 (some .int)] ++ wsX00)
def wsX0_lookFrom_r1 : List Cond := [Cond.fieldLink RX0 21 "RampJam$Search" "slots" "[I", Cond.fieldLink RX0 28 "RampJam$Search" "foundCount" "I", Cond.fieldLink RX0 38 "RampJam$Search" "firstSolved" "I", Cond.methodLink RX0 32 yJ7_fill_53178, Cond.static yJ7_fill_53178, Cond.initialized RJ7, Cond.code yJ7_fill_53178 cJ7_fill_53178 4 none, Cond.methodLink RX0 41 yX0_addIfNew, Cond.instanceMethod yX0_addIfNew, Cond.selects RX0 yX0_addIfNew yX0_addIfNew, Cond.initialized RX0, Cond.code yX0_addIfNew cX0_addIfNew 6 none, Cond.fieldLink RX0 9 "RampJam$Search" "found" "[I", Cond.fieldLink RX0 15 "RampJam$Search" "origins" "[I", Cond.fieldLink RX0 18 "RampJam$Search" "moveCodes" "[I", Cond.methodLink RX0 103 yX0_slotFor, Cond.instanceMethod yX0_slotFor, Cond.selects RX0 yX0_slotFor yX0_slotFor, Cond.code yX0_slotFor cX0_slotFor 6 (some .int), Cond.constant RX0 106 (-1640531535), Cond.static yX2_placeIn, Cond.initialized RX2, Cond.code yX2_placeIn cX2_placeIn 2 (some .int), Cond.methodLink RX0 45 yX0_addReachedFrom]
def wsX0_lookFrom_r2 : List Cond := [Cond.instanceMethod yX0_addReachedFrom, Cond.selects RX0 yX0_addReachedFrom yX0_addReachedFrom, Cond.code yX0_addReachedFrom cX0_addReachedFrom 6 none, Cond.fieldLink RX0 24 "RampJam$Search" "yard" "LRampJam$Yard;", Cond.methodLink RX0 61 yX0_isFound, Cond.instanceMethod yX0_isFound, Cond.selects RX0 yX0_isFound yX0_isFound, Cond.code yX0_isFound cX0_isFound 2 (some .boolean), Cond.methodLink RX0 78 yX1_filledIn, Cond.instanceMethod yX1_filledIn, Cond.selects RX1 yX1_filledIn yX1_filledIn, Cond.initialized RX1, Cond.code yX1_filledIn cX1_filledIn 5 (some .long), Cond.fieldLink RX1 26 "RampJam$Yard" "vehicleCount" "I", Cond.methodLink RX1 46 yX1_cellsIn, Cond.instanceMethod yX1_cellsIn, Cond.selects RX1 yX1_cellsIn yX1_cellsIn, Cond.code yX1_cellsIn cX1_cellsIn 4 (some .long), Cond.fieldLink RX1 15 "RampJam$Yard" "acrosses" "[Z", Cond.fieldLink RX1 22 "RampJam$Yard" "shapes" "[J", Cond.methodLink RX1 38 yX1_has, Cond.instanceMethod yX1_has, Cond.selects RX1 yX1_has yX1_has, Cond.code yX1_has cX1_has 2 (some .boolean)]
def wsX0_lookFrom_r3 : List Cond := [Cond.methodLink RX0 84 yX1_count, Cond.instanceMethod yX1_count, Cond.selects RX1 yX1_count yX1_count, Cond.code yX1_count cX1_count 1 (some .int), Cond.methodLink RX0 88 yX1_wayIn, Cond.instanceMethod yX1_wayIn, Cond.selects RX1 yX1_wayIn yX1_wayIn, Cond.code yX1_wayIn cX1_wayIn 14 (some .int), Cond.fieldLink RX1 9 "RampJam$Yard" "sizes" "[I", Cond.constantLong RX1 50 (-1), Cond.methodLink RX1 52 yX1_barredTo, Cond.instanceMethod yX1_barredTo, Cond.selects RX1 yX1_barredTo yX1_barredTo, Cond.code yX1_barredTo cX1_barredTo 2 (some .long), Cond.fieldLink RX1 34 "RampJam$Yard" "rampCell" "J", Cond.methodLink RX0 92 yX0_addDriven, Cond.instanceMethod yX0_addDriven, Cond.selects RX0 yX0_addDriven yX0_addDriven, Cond.code yX0_addDriven cX0_addDriven 7 none, Cond.static yX2_moved, Cond.code yX2_moved cX2_moved 3 (some .int), Cond.methodLink RX0 100 yX0_codeOfMove, Cond.static yX0_codeOfMove, Cond.code yX0_codeOfMove cX0_codeOfMove 2 (some .int)]
def wsX0_lookFrom_r4 : List Cond := [Cond.methodLink RX0 49 yX0_traceWay, Cond.instanceMethod yX0_traceWay, Cond.selects RX0 yX0_traceWay yX0_traceWay, Cond.code yX0_traceWay cX0_traceWay 3 none, Cond.fieldLink RX0 52 "RampJam$Search" "solvedMoves" "I", Cond.fieldLink RX0 55 "RampJam$Search" "solvedCells" "I", Cond.fieldLink RX0 58 "RampJam$Search" "solvedFirstMove" "I", Cond.methodLink RX0 73 Lib.Math.abs.name, Cond.static Lib.Math.abs.name, Cond.initialized "java/lang/Math", Cond.code Lib.Math.abs.name Lib.Math.abs.code 1 (some .int), Cond.methodLink RX0 69 yX0_cellsOfMove, Cond.static yX0_cellsOfMove, Cond.code yX0_cellsOfMove cX0_cellsOfMove 1 (some .int)]
def wsX0_lookFrom : List Cond := .code yX0_lookFrom cX0_lookFrom 3 none :: ((wsX0_lookFrom_r1 ++ (wsX0_lookFrom_r2 ++ (wsX0_lookFrom_r3 ++ wsX0_lookFrom_r4))) ++ wsX00 ++ wsX10)
def wsX0_movesToSolved : List Cond := .code yX0_movesToSolved cX0_movesToSolved 1 (some .int) :: ([.fieldLink RX0 52 "RampJam$Search" "solvedMoves" "I"] ++ wsX00)
def wsX0_firstMoveToSolved : List Cond := .code yX0_firstMoveToSolved cX0_firstMoveToSolved 1 (some .int) :: ([.fieldLink RX0 58 "RampJam$Search" "solvedFirstMove" "I"] ++ wsX00)
def wsX1_init : List Cond := .code yX1_init cX1_init 1 none :: ([.methodLink RX1 3 objectInit, .instanceMethod objectInit, .code objectInit ⟨#[0xb1]⟩ 1 none, .arrayClass .int, .fieldLink RX1 9 "RampJam$Yard" "sizes" "[I", .arrayClass .boolean, .fieldLink RX1 15 "RampJam$Yard" "acrosses" "[Z", .fieldLink RX1 19 "RampJam$Yard" "lines" "[I", .arrayClass .long, .fieldLink RX1 22 "RampJam$Yard" "shapes" "[J"] ++ wsX10)
def wsX2_cellOf : List Cond := .code yX2_cellOf cX2_cellOf 2 (some .long) :: ([])
def wsX2_cellsOf : List Cond := .code yX2_cellsOf cX2_cellsOf 7 (some .long) :: ([.methodLink RX2 88 yX2_cellOf, .static yX2_cellOf, .initialized RX2, .code yX2_cellOf cX2_cellOf 2 (some .long)])
def wsX1_add : List Cond := .code yX1_add cX1_add 5 (some .int) :: ([.fieldLink RX1 26 "RampJam$Yard" "vehicleCount" "I", .fieldLink RX1 9 "RampJam$Yard" "sizes" "[I", .fieldLink RX1 15 "RampJam$Yard" "acrosses" "[Z", .fieldLink RX1 19 "RampJam$Yard" "lines" "[I", .fieldLink RX1 22 "RampJam$Yard" "shapes" "[J", .static yX2_cellsOf, .initialized RX2, .code yX2_cellsOf cX2_cellsOf 7 (some .long), .methodLink RX2 88 yX2_cellOf, .static yX2_cellOf, .code yX2_cellOf cX2_cellOf 2 (some .long)] ++ wsX10)
def wsX1_putRamp : List Cond := .code yX1_putRamp cX1_putRamp 3 none :: ([.fieldLink RX1 34 "RampJam$Yard" "rampCell" "J"] ++ wsX10)
def wsX1_isLorry : List Cond := .code yX1_isLorry cX1_isLorry 2 (some .boolean) :: ([.fieldLink RX1 9 "RampJam$Yard" "sizes" "[I", .methodLink RX1 38 yX1_has, .instanceMethod yX1_has, .selects RX1 yX1_has yX1_has, .initialized RX1, .code yX1_has cX1_has 2 (some .boolean), .fieldLink RX1 26 "RampJam$Yard" "vehicleCount" "I"] ++ wsX10)
def wsX1_standsAcross : List Cond := .code yX1_standsAcross cX1_standsAcross 2 (some .boolean) :: ([.fieldLink RX1 15 "RampJam$Yard" "acrosses" "[Z", .methodLink RX1 38 yX1_has, .instanceMethod yX1_has, .selects RX1 yX1_has yX1_has, .initialized RX1, .code yX1_has cX1_has 2 (some .boolean), .fieldLink RX1 26 "RampJam$Yard" "vehicleCount" "I"] ++ wsX10)
def wsX1_lineOf : List Cond := .code yX1_lineOf cX1_lineOf 2 (some .int) :: ([.fieldLink RX1 19 "RampJam$Yard" "lines" "[I", .methodLink RX1 38 yX1_has, .instanceMethod yX1_has, .selects RX1 yX1_has yX1_has, .initialized RX1, .code yX1_has cX1_has 2 (some .boolean), .fieldLink RX1 26 "RampJam$Yard" "vehicleCount" "I"] ++ wsX10)
def wsX1_vehicleOn : List Cond := .code yX1_vehicleOn cX1_vehicleOn 5 (some .int) :: ([.fieldLink RX1 26 "RampJam$Yard" "vehicleCount" "I", .methodLink RX1 46 yX1_cellsIn, .instanceMethod yX1_cellsIn, .selects RX1 yX1_cellsIn yX1_cellsIn, .initialized RX1, .code yX1_cellsIn cX1_cellsIn 4 (some .long), .fieldLink RX1 15 "RampJam$Yard" "acrosses" "[Z", .fieldLink RX1 22 "RampJam$Yard" "shapes" "[J", .methodLink RX1 38 yX1_has, .instanceMethod yX1_has, .selects RX1 yX1_has yX1_has, .code yX1_has cX1_has 2 (some .boolean), .static yX2_placeIn, .initialized RX2, .code yX2_placeIn cX2_placeIn 2 (some .int)] ++ wsX10)
def wsX2_init_r1 : List Cond := [Cond.methodLink RX2 1 objectInit, Cond.instanceMethod objectInit, Cond.code objectInit ⟨#[0xb1]⟩ 1 none, Cond.classLink RX2 7 RX1, Cond.instantiable RX1 6, Cond.initialized RX1, Cond.fieldLink RX2 10 "RampJam" "yard" "LRampJam$Yard;", Cond.classLink RX2 16 RX0, Cond.instantiable RX0 10, Cond.initialized RX0, Cond.fieldLink RX2 21 "RampJam" "search" "LRampJam$Search;", Cond.instanceMethod yX1_init, Cond.code yX1_init cX1_init 1 none, Cond.methodLink RX1 3 objectInit, Cond.arrayClass .int, Cond.fieldLink RX1 9 "RampJam$Yard" "sizes" "[I", Cond.arrayClass .boolean, Cond.fieldLink RX1 15 "RampJam$Yard" "acrosses" "[Z", Cond.fieldLink RX1 19 "RampJam$Yard" "lines" "[I", Cond.arrayClass .long, Cond.fieldLink RX1 22 "RampJam$Yard" "shapes" "[J", Cond.methodLink RX2 18 yX0_init, Cond.instanceMethod yX0_init, Cond.code yX0_init cX0_init 2 none]
def wsX2_init_r2 : List Cond := [Cond.methodLink RX0 3 objectInit, Cond.fieldLink RX0 9 "RampJam$Search" "found" "[I", Cond.fieldLink RX0 15 "RampJam$Search" "origins" "[I", Cond.fieldLink RX0 18 "RampJam$Search" "moveCodes" "[I", Cond.fieldLink RX0 21 "RampJam$Search" "slots" "[I", Cond.fieldLink RX0 24 "RampJam$Search" "yard" "LRampJam$Yard;"]
def wsX2_init : List Cond := .code yX2_init cX2_init 1 none :: ((wsX2_init_r1 ++ wsX2_init_r2) ++ wsX10 ++ wsX20 ++ wsX00)
def wsX2_isInYard : List Cond := .code yX2_isInYard cX2_isInYard 2 (some .boolean) :: ([])
def wsX2_standAt : List Cond := .code yX2_standAt cX2_standAt 2 none :: ([.fieldLink RX2 57 "RampJam" "position" "I", .fieldLink RX2 106 "RampJam" "isSearched" "Z"] ++ wsX20)
def wsX2_park_r1 : List Cond := [Cond.classLink RX2 29 "java/lang/IllegalArgumentException", Cond.initialized "java/lang/IllegalArgumentException", Cond.classLink RX2 48 "java/lang/IllegalStateException", Cond.initialized "java/lang/IllegalStateException", Cond.fieldLink RX2 10 "RampJam" "yard" "LRampJam$Yard;", Cond.fieldLink RX2 44 "RampJam" "moveCount" "I", Cond.fieldLink RX2 57 "RampJam" "position" "I", Cond.fieldLink RX2 73 "RampJam" "parkedPosition" "I", Cond.methodLink RX2 25 yX2_isInYard, Cond.static yX2_isInYard, Cond.initialized RX2, Cond.code yX2_isInYard cX2_isInYard 2 (some .boolean), Cond.methodLink RX2 38 yX1_count, Cond.instanceMethod yX1_count, Cond.selects RX1 yX1_count yX1_count, Cond.initialized RX1, Cond.code yX1_count cX1_count 1 (some .int), Cond.fieldLink RX1 26 "RampJam$Yard" "vehicleCount" "I", Cond.methodLink RX2 53 yX2_cellsOf, Cond.static yX2_cellsOf, Cond.code yX2_cellsOf cX2_cellsOf 7 (some .long), Cond.methodLink RX2 88 yX2_cellOf, Cond.static yX2_cellOf, Cond.code yX2_cellOf cX2_cellOf 2 (some .long)]
def wsX2_park_r2 : List Cond := [Cond.methodLink RX2 60 yX1_filledIn, Cond.instanceMethod yX1_filledIn, Cond.selects RX1 yX1_filledIn yX1_filledIn, Cond.code yX1_filledIn cX1_filledIn 5 (some .long), Cond.methodLink RX1 46 yX1_cellsIn, Cond.instanceMethod yX1_cellsIn, Cond.selects RX1 yX1_cellsIn yX1_cellsIn, Cond.code yX1_cellsIn cX1_cellsIn 4 (some .long), Cond.fieldLink RX1 15 "RampJam$Yard" "acrosses" "[Z", Cond.fieldLink RX1 22 "RampJam$Yard" "shapes" "[J", Cond.methodLink RX1 38 yX1_has, Cond.instanceMethod yX1_has, Cond.selects RX1 yX1_has yX1_has, Cond.code yX1_has cX1_has 2 (some .boolean), Cond.static yX2_placeIn, Cond.code yX2_placeIn cX2_placeIn 2 (some .int), Cond.methodLink RX2 64 yX1_barredTo, Cond.instanceMethod yX1_barredTo, Cond.selects RX1 yX1_barredTo yX1_barredTo, Cond.code yX1_barredTo cX1_barredTo 2 (some .long), Cond.fieldLink RX1 34 "RampJam$Yard" "rampCell" "J", Cond.methodLink RX2 69 yX1_add, Cond.instanceMethod yX1_add, Cond.selects RX1 yX1_add yX1_add]
def wsX2_park_r3 : List Cond := [Cond.code yX1_add cX1_add 5 (some .int), Cond.fieldLink RX1 9 "RampJam$Yard" "sizes" "[I", Cond.fieldLink RX1 19 "RampJam$Yard" "lines" "[I", Cond.methodLink RX2 76 yX2_moved, Cond.static yX2_moved, Cond.code yX2_moved cX2_moved 3 (some .int), Cond.methodLink RX2 80 yX2_standAt, Cond.instanceMethod yX2_standAt, Cond.selects RX2 yX2_standAt yX2_standAt, Cond.code yX2_standAt cX2_standAt 2 none, Cond.fieldLink RX2 106 "RampJam" "isSearched" "Z"]
def wsX2_park : List Cond := .code yX2_park cX2_park 10 (some .int) :: ((wsX2_park_r1 ++ (wsX2_park_r2 ++ wsX2_park_r3)) ++ wsX20 ++ wsX10 ++ (vx_atS RX2 33 "java/lang/IllegalArgumentException" ["java/lang/RuntimeException", "java/lang/Exception"]).filter goodWord ++ (vx_atS RX2 52 "java/lang/IllegalStateException" ["java/lang/RuntimeException", "java/lang/Exception"]).filter goodWord)
def wsX2_ramp_r1 : List Cond := [Cond.classLink RX2 29 "java/lang/IllegalArgumentException", Cond.initialized "java/lang/IllegalArgumentException", Cond.classLink RX2 48 "java/lang/IllegalStateException", Cond.initialized "java/lang/IllegalStateException", Cond.fieldLink RX2 44 "RampJam" "moveCount" "I", Cond.fieldLink RX2 10 "RampJam" "yard" "LRampJam$Yard;", Cond.fieldLink RX2 57 "RampJam" "position" "I", Cond.fieldLink RX2 106 "RampJam" "isSearched" "Z", Cond.methodLink RX2 25 yX2_isInYard, Cond.static yX2_isInYard, Cond.initialized RX2, Cond.code yX2_isInYard cX2_isInYard 2 (some .boolean), Cond.methodLink RX2 88 yX2_cellOf, Cond.static yX2_cellOf, Cond.code yX2_cellOf cX2_cellOf 2 (some .long), Cond.methodLink RX2 92 yX1_vehicleOn, Cond.instanceMethod yX1_vehicleOn, Cond.selects RX1 yX1_vehicleOn yX1_vehicleOn, Cond.initialized RX1, Cond.code yX1_vehicleOn cX1_vehicleOn 5 (some .int), Cond.fieldLink RX1 26 "RampJam$Yard" "vehicleCount" "I", Cond.methodLink RX1 46 yX1_cellsIn, Cond.instanceMethod yX1_cellsIn, Cond.selects RX1 yX1_cellsIn yX1_cellsIn]
def wsX2_ramp_r2 : List Cond := [Cond.code yX1_cellsIn cX1_cellsIn 4 (some .long), Cond.fieldLink RX1 15 "RampJam$Yard" "acrosses" "[Z", Cond.fieldLink RX1 22 "RampJam$Yard" "shapes" "[J", Cond.methodLink RX1 38 yX1_has, Cond.instanceMethod yX1_has, Cond.selects RX1 yX1_has yX1_has, Cond.code yX1_has cX1_has 2 (some .boolean), Cond.static yX2_placeIn, Cond.code yX2_placeIn cX2_placeIn 2 (some .int), Cond.methodLink RX2 96 yX1_isLorry, Cond.instanceMethod yX1_isLorry, Cond.selects RX1 yX1_isLorry yX1_isLorry, Cond.code yX1_isLorry cX1_isLorry 2 (some .boolean), Cond.fieldLink RX1 9 "RampJam$Yard" "sizes" "[I", Cond.methodLink RX2 102 yX1_putRamp, Cond.instanceMethod yX1_putRamp, Cond.selects RX1 yX1_putRamp yX1_putRamp, Cond.code yX1_putRamp cX1_putRamp 3 none, Cond.fieldLink RX1 34 "RampJam$Yard" "rampCell" "J"]
def wsX2_ramp : List Cond := .code yX2_ramp cX2_ramp 5 none :: ((wsX2_ramp_r1 ++ wsX2_ramp_r2) ++ wsX20 ++ wsX10 ++ (vx_atS RX2 33 "java/lang/IllegalArgumentException" ["java/lang/RuntimeException", "java/lang/Exception"]).filter goodWord ++ (vx_atS RX2 52 "java/lang/IllegalStateException" ["java/lang/RuntimeException", "java/lang/Exception"]).filter goodWord)
def wsX2_wayNow_r1 : List Cond := [Cond.fieldLink RX2 10 "RampJam" "yard" "LRampJam$Yard;", Cond.fieldLink RX2 57 "RampJam" "position" "I", Cond.methodLink RX2 60 yX1_filledIn, Cond.instanceMethod yX1_filledIn, Cond.selects RX1 yX1_filledIn yX1_filledIn, Cond.initialized RX1, Cond.code yX1_filledIn cX1_filledIn 5 (some .long), Cond.fieldLink RX1 26 "RampJam$Yard" "vehicleCount" "I", Cond.methodLink RX1 46 yX1_cellsIn, Cond.instanceMethod yX1_cellsIn, Cond.selects RX1 yX1_cellsIn yX1_cellsIn, Cond.code yX1_cellsIn cX1_cellsIn 4 (some .long), Cond.fieldLink RX1 15 "RampJam$Yard" "acrosses" "[Z", Cond.fieldLink RX1 22 "RampJam$Yard" "shapes" "[J", Cond.methodLink RX1 38 yX1_has, Cond.instanceMethod yX1_has, Cond.selects RX1 yX1_has yX1_has, Cond.code yX1_has cX1_has 2 (some .boolean), Cond.static yX2_placeIn, Cond.initialized RX2, Cond.code yX2_placeIn cX2_placeIn 2 (some .int), Cond.methodLink RX2 173 yX1_wayIn, Cond.instanceMethod yX1_wayIn, Cond.selects RX1 yX1_wayIn yX1_wayIn]
def wsX2_wayNow_r2 : List Cond := [Cond.code yX1_wayIn cX1_wayIn 14 (some .int), Cond.fieldLink RX1 9 "RampJam$Yard" "sizes" "[I", Cond.constantLong RX1 50 (-1), Cond.methodLink RX1 52 yX1_barredTo, Cond.instanceMethod yX1_barredTo, Cond.selects RX1 yX1_barredTo yX1_barredTo, Cond.code yX1_barredTo cX1_barredTo 2 (some .long), Cond.fieldLink RX1 34 "RampJam$Yard" "rampCell" "J"]
def wsX2_wayNow : List Cond := .code yX2_wayNow cX2_wayNow 3 (some .int) :: ((wsX2_wayNow_r1 ++ wsX2_wayNow_r2) ++ wsX20 ++ wsX10)
def wsX2_makeMove : List Cond := .code yX2_makeMove cX2_makeMove 3 none :: ([.fieldLink RX2 57 "RampJam" "position" "I", .fieldLink RX2 44 "RampJam" "moveCount" "I", .fieldLink RX2 136 "RampJam" "drivenCells" "I", .methodLink RX2 120 Lib.Math.abs.name, .static Lib.Math.abs.name, .initialized "java/lang/Math", .code Lib.Math.abs.name Lib.Math.abs.code 1 (some .int), .methodLink RX2 76 yX2_moved, .static yX2_moved, .initialized RX2, .code yX2_moved cX2_moved 3 (some .int), .methodLink RX2 80 yX2_standAt, .instanceMethod yX2_standAt, .selects RX2 yX2_standAt yX2_standAt, .code yX2_standAt cX2_standAt 2 none, .fieldLink RX2 106 "RampJam" "isSearched" "Z"] ++ wsX20)
def wsX2_drive_r1 : List Cond := [Cond.classLink RX2 113 "java/lang/IndexOutOfBoundsException", Cond.initialized "java/lang/IndexOutOfBoundsException", Cond.classLink RX2 29 "java/lang/IllegalArgumentException", Cond.initialized "java/lang/IllegalArgumentException", Cond.classLink RX2 48 "java/lang/IllegalStateException", Cond.initialized "java/lang/IllegalStateException", Cond.fieldLink RX2 10 "RampJam" "yard" "LRampJam$Yard;", Cond.methodLink RX2 120 Lib.Math.abs.name, Cond.static Lib.Math.abs.name, Cond.initialized "java/lang/Math", Cond.code Lib.Math.abs.name Lib.Math.abs.code 1 (some .int), Cond.methodLink RX2 110 yX1_has, Cond.instanceMethod yX1_has, Cond.selects RX1 yX1_has yX1_has, Cond.initialized RX1, Cond.code yX1_has cX1_has 2 (some .boolean), Cond.fieldLink RX1 26 "RampJam$Yard" "vehicleCount" "I", Cond.methodLink RX2 126 yX2_wayNow, Cond.instanceMethod yX2_wayNow, Cond.selects RX2 yX2_wayNow yX2_wayNow, Cond.initialized RX2, Cond.code yX2_wayNow cX2_wayNow 3 (some .int), Cond.fieldLink RX2 57 "RampJam" "position" "I", Cond.methodLink RX2 60 yX1_filledIn]
def wsX2_drive_r2 : List Cond := [Cond.instanceMethod yX1_filledIn, Cond.selects RX1 yX1_filledIn yX1_filledIn, Cond.code yX1_filledIn cX1_filledIn 5 (some .long), Cond.methodLink RX1 46 yX1_cellsIn, Cond.instanceMethod yX1_cellsIn, Cond.selects RX1 yX1_cellsIn yX1_cellsIn, Cond.code yX1_cellsIn cX1_cellsIn 4 (some .long), Cond.fieldLink RX1 15 "RampJam$Yard" "acrosses" "[Z", Cond.fieldLink RX1 22 "RampJam$Yard" "shapes" "[J", Cond.methodLink RX1 38 yX1_has, Cond.static yX2_placeIn, Cond.code yX2_placeIn cX2_placeIn 2 (some .int), Cond.methodLink RX2 173 yX1_wayIn, Cond.instanceMethod yX1_wayIn, Cond.selects RX1 yX1_wayIn yX1_wayIn, Cond.code yX1_wayIn cX1_wayIn 14 (some .int), Cond.fieldLink RX1 9 "RampJam$Yard" "sizes" "[I", Cond.constantLong RX1 50 (-1), Cond.methodLink RX1 52 yX1_barredTo, Cond.instanceMethod yX1_barredTo, Cond.selects RX1 yX1_barredTo yX1_barredTo, Cond.code yX1_barredTo cX1_barredTo 2 (some .long), Cond.fieldLink RX1 34 "RampJam$Yard" "rampCell" "J", Cond.methodLink RX2 132 yX2_makeMove]
def wsX2_drive_r3 : List Cond := [Cond.instanceMethod yX2_makeMove, Cond.selects RX2 yX2_makeMove yX2_makeMove, Cond.code yX2_makeMove cX2_makeMove 3 none, Cond.fieldLink RX2 44 "RampJam" "moveCount" "I", Cond.fieldLink RX2 136 "RampJam" "drivenCells" "I", Cond.methodLink RX2 76 yX2_moved, Cond.static yX2_moved, Cond.code yX2_moved cX2_moved 3 (some .int), Cond.methodLink RX2 80 yX2_standAt, Cond.instanceMethod yX2_standAt, Cond.selects RX2 yX2_standAt yX2_standAt, Cond.code yX2_standAt cX2_standAt 2 none, Cond.fieldLink RX2 106 "RampJam" "isSearched" "Z"]
def wsX2_drive : List Cond := .code yX2_drive cX2_drive 3 none :: ((wsX2_drive_r1 ++ (wsX2_drive_r2 ++ wsX2_drive_r3)) ++ wsX20 ++ wsX10 ++ (vx_atS RX2 117 "java/lang/IndexOutOfBoundsException" ["java/lang/RuntimeException", "java/lang/Exception"]).filter goodWord ++ (vx_atS RX2 33 "java/lang/IllegalArgumentException" ["java/lang/RuntimeException", "java/lang/Exception"]).filter goodWord ++ (vx_atS RX2 52 "java/lang/IllegalStateException" ["java/lang/RuntimeException", "java/lang/Exception"]).filter goodWord)
def wsX2_restart : List Cond := .code yX2_restart cX2_restart 1 none :: ([.fieldLink RX2 73 "RampJam" "parkedPosition" "I", .fieldLink RX2 44 "RampJam" "moveCount" "I", .fieldLink RX2 136 "RampJam" "drivenCells" "I", .methodLink RX2 80 yX2_standAt, .instanceMethod yX2_standAt, .selects RX2 yX2_standAt yX2_standAt, .initialized RX2, .code yX2_standAt cX2_standAt 2 none, .fieldLink RX2 57 "RampJam" "position" "I", .fieldLink RX2 106 "RampJam" "isSearched" "Z"] ++ wsX20)
def wsX2_vehicles : List Cond := .code yX2_vehicles cX2_vehicles 1 (some .int) :: ([.fieldLink RX2 10 "RampJam" "yard" "LRampJam$Yard;", .methodLink RX2 38 yX1_count, .instanceMethod yX1_count, .selects RX1 yX1_count yX1_count, .initialized RX1, .code yX1_count cX1_count 1 (some .int), .fieldLink RX1 26 "RampJam$Yard" "vehicleCount" "I"] ++ wsX20 ++ wsX10)
def wsX2_rowOf_r1 : List Cond := [Cond.classLink RX2 113 "java/lang/IndexOutOfBoundsException", Cond.initialized "java/lang/IndexOutOfBoundsException", Cond.fieldLink RX2 10 "RampJam" "yard" "LRampJam$Yard;", Cond.fieldLink RX2 57 "RampJam" "position" "I", Cond.methodLink RX2 110 yX1_has, Cond.instanceMethod yX1_has, Cond.selects RX1 yX1_has yX1_has, Cond.initialized RX1, Cond.code yX1_has cX1_has 2 (some .boolean), Cond.fieldLink RX1 26 "RampJam$Yard" "vehicleCount" "I", Cond.methodLink RX2 139 yX1_standsAcross, Cond.instanceMethod yX1_standsAcross, Cond.selects RX1 yX1_standsAcross yX1_standsAcross, Cond.code yX1_standsAcross cX1_standsAcross 2 (some .boolean), Cond.fieldLink RX1 15 "RampJam$Yard" "acrosses" "[Z", Cond.methodLink RX1 38 yX1_has, Cond.methodLink RX2 142 yX1_lineOf, Cond.instanceMethod yX1_lineOf, Cond.selects RX1 yX1_lineOf yX1_lineOf, Cond.code yX1_lineOf cX1_lineOf 2 (some .int), Cond.fieldLink RX1 19 "RampJam$Yard" "lines" "[I", Cond.methodLink RX2 145 yX2_placeIn, Cond.static yX2_placeIn, Cond.initialized RX2]
def wsX2_rowOf_r2 : List Cond := [Cond.code yX2_placeIn cX2_placeIn 2 (some .int)]
def wsX2_rowOf : List Cond := .code yX2_rowOf cX2_rowOf 2 (some .int) :: ((wsX2_rowOf_r1 ++ wsX2_rowOf_r2) ++ wsX20 ++ wsX10 ++ (vx_atS RX2 117 "java/lang/IndexOutOfBoundsException" ["java/lang/RuntimeException", "java/lang/Exception"]).filter goodWord)
def wsX2_columnOf_r1 : List Cond := [Cond.classLink RX2 113 "java/lang/IndexOutOfBoundsException", Cond.initialized "java/lang/IndexOutOfBoundsException", Cond.fieldLink RX2 10 "RampJam" "yard" "LRampJam$Yard;", Cond.fieldLink RX2 57 "RampJam" "position" "I", Cond.methodLink RX2 110 yX1_has, Cond.instanceMethod yX1_has, Cond.selects RX1 yX1_has yX1_has, Cond.initialized RX1, Cond.code yX1_has cX1_has 2 (some .boolean), Cond.fieldLink RX1 26 "RampJam$Yard" "vehicleCount" "I", Cond.methodLink RX2 139 yX1_standsAcross, Cond.instanceMethod yX1_standsAcross, Cond.selects RX1 yX1_standsAcross yX1_standsAcross, Cond.code yX1_standsAcross cX1_standsAcross 2 (some .boolean), Cond.fieldLink RX1 15 "RampJam$Yard" "acrosses" "[Z", Cond.methodLink RX1 38 yX1_has, Cond.methodLink RX2 145 yX2_placeIn, Cond.static yX2_placeIn, Cond.initialized RX2, Cond.code yX2_placeIn cX2_placeIn 2 (some .int), Cond.methodLink RX2 142 yX1_lineOf, Cond.instanceMethod yX1_lineOf, Cond.selects RX1 yX1_lineOf yX1_lineOf, Cond.code yX1_lineOf cX1_lineOf 2 (some .int)]
def wsX2_columnOf_r2 : List Cond := [Cond.fieldLink RX1 19 "RampJam$Yard" "lines" "[I"]
def wsX2_columnOf : List Cond := .code yX2_columnOf cX2_columnOf 2 (some .int) :: ((wsX2_columnOf_r1 ++ wsX2_columnOf_r2) ++ wsX20 ++ wsX10 ++ (vx_atS RX2 117 "java/lang/IndexOutOfBoundsException" ["java/lang/RuntimeException", "java/lang/Exception"]).filter goodWord)
def wsX2_at_r1 : List Cond := [Cond.classLink RX2 29 "java/lang/IllegalArgumentException", Cond.initialized "java/lang/IllegalArgumentException", Cond.fieldLink RX2 10 "RampJam" "yard" "LRampJam$Yard;", Cond.fieldLink RX2 57 "RampJam" "position" "I", Cond.methodLink RX2 25 yX2_isInYard, Cond.static yX2_isInYard, Cond.initialized RX2, Cond.code yX2_isInYard cX2_isInYard 2 (some .boolean), Cond.methodLink RX2 88 yX2_cellOf, Cond.static yX2_cellOf, Cond.code yX2_cellOf cX2_cellOf 2 (some .long), Cond.methodLink RX2 92 yX1_vehicleOn, Cond.instanceMethod yX1_vehicleOn, Cond.selects RX1 yX1_vehicleOn yX1_vehicleOn, Cond.initialized RX1, Cond.code yX1_vehicleOn cX1_vehicleOn 5 (some .int), Cond.fieldLink RX1 26 "RampJam$Yard" "vehicleCount" "I", Cond.methodLink RX1 46 yX1_cellsIn, Cond.instanceMethod yX1_cellsIn, Cond.selects RX1 yX1_cellsIn yX1_cellsIn, Cond.code yX1_cellsIn cX1_cellsIn 4 (some .long), Cond.fieldLink RX1 15 "RampJam$Yard" "acrosses" "[Z", Cond.fieldLink RX1 22 "RampJam$Yard" "shapes" "[J", Cond.methodLink RX1 38 yX1_has]
def wsX2_at_r2 : List Cond := [Cond.instanceMethod yX1_has, Cond.selects RX1 yX1_has yX1_has, Cond.code yX1_has cX1_has 2 (some .boolean), Cond.static yX2_placeIn, Cond.code yX2_placeIn cX2_placeIn 2 (some .int)]
def wsX2_at : List Cond := .code yX2_at cX2_at 3 (some .int) :: ((wsX2_at_r1 ++ wsX2_at_r2) ++ wsX20 ++ wsX10 ++ (vx_atS RX2 33 "java/lang/IllegalArgumentException" ["java/lang/RuntimeException", "java/lang/Exception"]).filter goodWord)
def wsX2_freeWay_r1 : List Cond := [Cond.classLink RX2 113 "java/lang/IndexOutOfBoundsException", Cond.initialized "java/lang/IndexOutOfBoundsException", Cond.fieldLink RX2 10 "RampJam" "yard" "LRampJam$Yard;", Cond.methodLink RX2 110 yX1_has, Cond.instanceMethod yX1_has, Cond.selects RX1 yX1_has yX1_has, Cond.initialized RX1, Cond.code yX1_has cX1_has 2 (some .boolean), Cond.fieldLink RX1 26 "RampJam$Yard" "vehicleCount" "I", Cond.methodLink RX2 126 yX2_wayNow, Cond.instanceMethod yX2_wayNow, Cond.selects RX2 yX2_wayNow yX2_wayNow, Cond.initialized RX2, Cond.code yX2_wayNow cX2_wayNow 3 (some .int), Cond.fieldLink RX2 57 "RampJam" "position" "I", Cond.methodLink RX2 60 yX1_filledIn, Cond.instanceMethod yX1_filledIn, Cond.selects RX1 yX1_filledIn yX1_filledIn, Cond.code yX1_filledIn cX1_filledIn 5 (some .long), Cond.methodLink RX1 46 yX1_cellsIn, Cond.instanceMethod yX1_cellsIn, Cond.selects RX1 yX1_cellsIn yX1_cellsIn, Cond.code yX1_cellsIn cX1_cellsIn 4 (some .long), Cond.fieldLink RX1 15 "RampJam$Yard" "acrosses" "[Z"]
def wsX2_freeWay_r2 : List Cond := [Cond.fieldLink RX1 22 "RampJam$Yard" "shapes" "[J", Cond.methodLink RX1 38 yX1_has, Cond.static yX2_placeIn, Cond.code yX2_placeIn cX2_placeIn 2 (some .int), Cond.methodLink RX2 173 yX1_wayIn, Cond.instanceMethod yX1_wayIn, Cond.selects RX1 yX1_wayIn yX1_wayIn, Cond.code yX1_wayIn cX1_wayIn 14 (some .int), Cond.fieldLink RX1 9 "RampJam$Yard" "sizes" "[I", Cond.constantLong RX1 50 (-1), Cond.methodLink RX1 52 yX1_barredTo, Cond.instanceMethod yX1_barredTo, Cond.selects RX1 yX1_barredTo yX1_barredTo, Cond.code yX1_barredTo cX1_barredTo 2 (some .long), Cond.fieldLink RX1 34 "RampJam$Yard" "rampCell" "J"]
def wsX2_freeWay : List Cond := .code yX2_freeWay cX2_freeWay 3 (some .int) :: ((wsX2_freeWay_r1 ++ wsX2_freeWay_r2) ++ wsX20 ++ wsX10 ++ (vx_atS RX2 117 "java/lang/IndexOutOfBoundsException" ["java/lang/RuntimeException", "java/lang/Exception"]).filter goodWord)
def wsX2_inTheWay_r1 : List Cond := [Cond.fieldLink RX2 57 "RampJam" "position" "I", Cond.fieldLink RX2 10 "RampJam" "yard" "LRampJam$Yard;", Cond.methodLink RX2 145 yX2_placeIn, Cond.static yX2_placeIn, Cond.initialized RX2, Cond.code yX2_placeIn cX2_placeIn 2 (some .int), Cond.methodLink RX2 88 yX2_cellOf, Cond.static yX2_cellOf, Cond.code yX2_cellOf cX2_cellOf 2 (some .long), Cond.methodLink RX2 38 yX1_count, Cond.instanceMethod yX1_count, Cond.selects RX1 yX1_count yX1_count, Cond.initialized RX1, Cond.code yX1_count cX1_count 1 (some .int), Cond.fieldLink RX1 26 "RampJam$Yard" "vehicleCount" "I", Cond.methodLink RX2 149 yX1_cellsIn, Cond.instanceMethod yX1_cellsIn, Cond.selects RX1 yX1_cellsIn yX1_cellsIn, Cond.code yX1_cellsIn cX1_cellsIn 4 (some .long), Cond.fieldLink RX1 15 "RampJam$Yard" "acrosses" "[Z", Cond.fieldLink RX1 22 "RampJam$Yard" "shapes" "[J", Cond.methodLink RX1 38 yX1_has, Cond.instanceMethod yX1_has, Cond.selects RX1 yX1_has yX1_has]
def wsX2_inTheWay_r2 : List Cond := [Cond.code yX1_has cX1_has 2 (some .boolean)]
def wsX2_inTheWay : List Cond := .code yX2_inTheWay cX2_inTheWay 5 (some .int) :: ((wsX2_inTheWay_r1 ++ wsX2_inTheWay_r2) ++ wsX20 ++ wsX10)
def wsX2_isSolved : List Cond := .code yX2_isSolved cX2_isSolved 1 (some .boolean) :: ([.fieldLink RX2 57 "RampJam" "position" "I", .methodLink RX2 145 yX2_placeIn, .static yX2_placeIn, .initialized RX2, .code yX2_placeIn cX2_placeIn 2 (some .int)] ++ wsX20)
def wsX2_moves : List Cond := .code yX2_moves cX2_moves 1 (some .int) :: ([.fieldLink RX2 44 "RampJam" "moveCount" "I"] ++ wsX20)
def wsX2_driven : List Cond := .code yX2_driven cX2_driven 1 (some .int) :: ([.fieldLink RX2 136 "RampJam" "drivenCells" "I"] ++ wsX20)
def wsX2_searchFromNow_r1 : List Cond := [Cond.fieldLink RX2 106 "RampJam" "isSearched" "Z", Cond.fieldLink RX2 21 "RampJam" "search" "LRampJam$Search;", Cond.fieldLink RX2 57 "RampJam" "position" "I", Cond.methodLink RX2 177 yX0_lookFrom, Cond.instanceMethod yX0_lookFrom, Cond.selects RX0 yX0_lookFrom yX0_lookFrom, Cond.initialized RX0, Cond.code yX0_lookFrom cX0_lookFrom 3 none, Cond.fieldLink RX0 21 "RampJam$Search" "slots" "[I", Cond.fieldLink RX0 28 "RampJam$Search" "foundCount" "I", Cond.fieldLink RX0 38 "RampJam$Search" "firstSolved" "I", Cond.methodLink RX0 32 yJ7_fill_53178, Cond.static yJ7_fill_53178, Cond.initialized RJ7, Cond.code yJ7_fill_53178 cJ7_fill_53178 4 none, Cond.methodLink RX0 41 yX0_addIfNew, Cond.instanceMethod yX0_addIfNew, Cond.selects RX0 yX0_addIfNew yX0_addIfNew, Cond.code yX0_addIfNew cX0_addIfNew 6 none, Cond.fieldLink RX0 9 "RampJam$Search" "found" "[I", Cond.fieldLink RX0 15 "RampJam$Search" "origins" "[I", Cond.fieldLink RX0 18 "RampJam$Search" "moveCodes" "[I", Cond.methodLink RX0 103 yX0_slotFor, Cond.instanceMethod yX0_slotFor]
def wsX2_searchFromNow_r2 : List Cond := [Cond.selects RX0 yX0_slotFor yX0_slotFor, Cond.code yX0_slotFor cX0_slotFor 6 (some .int), Cond.constant RX0 106 (-1640531535), Cond.static yX2_placeIn, Cond.initialized RX2, Cond.code yX2_placeIn cX2_placeIn 2 (some .int), Cond.methodLink RX0 45 yX0_addReachedFrom, Cond.instanceMethod yX0_addReachedFrom, Cond.selects RX0 yX0_addReachedFrom yX0_addReachedFrom, Cond.code yX0_addReachedFrom cX0_addReachedFrom 6 none, Cond.fieldLink RX0 24 "RampJam$Search" "yard" "LRampJam$Yard;", Cond.methodLink RX0 61 yX0_isFound, Cond.instanceMethod yX0_isFound, Cond.selects RX0 yX0_isFound yX0_isFound, Cond.code yX0_isFound cX0_isFound 2 (some .boolean), Cond.methodLink RX0 78 yX1_filledIn, Cond.instanceMethod yX1_filledIn, Cond.selects RX1 yX1_filledIn yX1_filledIn, Cond.initialized RX1, Cond.code yX1_filledIn cX1_filledIn 5 (some .long), Cond.fieldLink RX1 26 "RampJam$Yard" "vehicleCount" "I", Cond.methodLink RX1 46 yX1_cellsIn, Cond.instanceMethod yX1_cellsIn, Cond.selects RX1 yX1_cellsIn yX1_cellsIn]
def wsX2_searchFromNow_r3 : List Cond := [Cond.code yX1_cellsIn cX1_cellsIn 4 (some .long), Cond.fieldLink RX1 15 "RampJam$Yard" "acrosses" "[Z", Cond.fieldLink RX1 22 "RampJam$Yard" "shapes" "[J", Cond.methodLink RX1 38 yX1_has, Cond.instanceMethod yX1_has, Cond.selects RX1 yX1_has yX1_has, Cond.code yX1_has cX1_has 2 (some .boolean), Cond.methodLink RX0 84 yX1_count, Cond.instanceMethod yX1_count, Cond.selects RX1 yX1_count yX1_count, Cond.code yX1_count cX1_count 1 (some .int), Cond.methodLink RX0 88 yX1_wayIn, Cond.instanceMethod yX1_wayIn, Cond.selects RX1 yX1_wayIn yX1_wayIn, Cond.code yX1_wayIn cX1_wayIn 14 (some .int), Cond.fieldLink RX1 9 "RampJam$Yard" "sizes" "[I", Cond.constantLong RX1 50 (-1), Cond.methodLink RX1 52 yX1_barredTo, Cond.instanceMethod yX1_barredTo, Cond.selects RX1 yX1_barredTo yX1_barredTo, Cond.code yX1_barredTo cX1_barredTo 2 (some .long), Cond.fieldLink RX1 34 "RampJam$Yard" "rampCell" "J", Cond.methodLink RX0 92 yX0_addDriven, Cond.instanceMethod yX0_addDriven]
def wsX2_searchFromNow_r4 : List Cond := [Cond.selects RX0 yX0_addDriven yX0_addDriven, Cond.code yX0_addDriven cX0_addDriven 7 none, Cond.static yX2_moved, Cond.code yX2_moved cX2_moved 3 (some .int), Cond.methodLink RX0 100 yX0_codeOfMove, Cond.static yX0_codeOfMove, Cond.code yX0_codeOfMove cX0_codeOfMove 2 (some .int), Cond.methodLink RX0 49 yX0_traceWay, Cond.instanceMethod yX0_traceWay, Cond.selects RX0 yX0_traceWay yX0_traceWay, Cond.code yX0_traceWay cX0_traceWay 3 none, Cond.fieldLink RX0 52 "RampJam$Search" "solvedMoves" "I", Cond.fieldLink RX0 55 "RampJam$Search" "solvedCells" "I", Cond.fieldLink RX0 58 "RampJam$Search" "solvedFirstMove" "I", Cond.methodLink RX0 73 Lib.Math.abs.name, Cond.static Lib.Math.abs.name, Cond.initialized "java/lang/Math", Cond.code Lib.Math.abs.name Lib.Math.abs.code 1 (some .int), Cond.methodLink RX0 69 yX0_cellsOfMove, Cond.static yX0_cellsOfMove, Cond.code yX0_cellsOfMove cX0_cellsOfMove 1 (some .int)]
def wsX2_searchFromNow : List Cond := .code yX2_searchFromNow cX2_searchFromNow 1 none :: ((wsX2_searchFromNow_r1 ++ (wsX2_searchFromNow_r2 ++ (wsX2_searchFromNow_r3 ++ wsX2_searchFromNow_r4))) ++ wsX20 ++ wsX00 ++ wsX10)
def wsX2_positions_r1 : List Cond := [Cond.fieldLink RX2 21 "RampJam" "search" "LRampJam$Search;", Cond.methodLink RX2 152 yX2_searchFromNow, Cond.instanceMethod yX2_searchFromNow, Cond.selects RX2 yX2_searchFromNow yX2_searchFromNow, Cond.initialized RX2, Cond.code yX2_searchFromNow cX2_searchFromNow 1 none, Cond.fieldLink RX2 106 "RampJam" "isSearched" "Z", Cond.fieldLink RX2 57 "RampJam" "position" "I", Cond.methodLink RX2 177 yX0_lookFrom, Cond.instanceMethod yX0_lookFrom, Cond.selects RX0 yX0_lookFrom yX0_lookFrom, Cond.initialized RX0, Cond.code yX0_lookFrom cX0_lookFrom 3 none, Cond.fieldLink RX0 21 "RampJam$Search" "slots" "[I", Cond.fieldLink RX0 28 "RampJam$Search" "foundCount" "I", Cond.fieldLink RX0 38 "RampJam$Search" "firstSolved" "I", Cond.methodLink RX0 32 yJ7_fill_53178, Cond.static yJ7_fill_53178, Cond.initialized RJ7, Cond.code yJ7_fill_53178 cJ7_fill_53178 4 none, Cond.methodLink RX0 41 yX0_addIfNew, Cond.instanceMethod yX0_addIfNew, Cond.selects RX0 yX0_addIfNew yX0_addIfNew, Cond.code yX0_addIfNew cX0_addIfNew 6 none]
def wsX2_positions_r2 : List Cond := [Cond.fieldLink RX0 9 "RampJam$Search" "found" "[I", Cond.fieldLink RX0 15 "RampJam$Search" "origins" "[I", Cond.fieldLink RX0 18 "RampJam$Search" "moveCodes" "[I", Cond.methodLink RX0 103 yX0_slotFor, Cond.instanceMethod yX0_slotFor, Cond.selects RX0 yX0_slotFor yX0_slotFor, Cond.code yX0_slotFor cX0_slotFor 6 (some .int), Cond.constant RX0 106 (-1640531535), Cond.static yX2_placeIn, Cond.code yX2_placeIn cX2_placeIn 2 (some .int), Cond.methodLink RX0 45 yX0_addReachedFrom, Cond.instanceMethod yX0_addReachedFrom, Cond.selects RX0 yX0_addReachedFrom yX0_addReachedFrom, Cond.code yX0_addReachedFrom cX0_addReachedFrom 6 none, Cond.fieldLink RX0 24 "RampJam$Search" "yard" "LRampJam$Yard;", Cond.methodLink RX0 61 yX0_isFound, Cond.instanceMethod yX0_isFound, Cond.selects RX0 yX0_isFound yX0_isFound, Cond.code yX0_isFound cX0_isFound 2 (some .boolean), Cond.methodLink RX0 78 yX1_filledIn, Cond.instanceMethod yX1_filledIn, Cond.selects RX1 yX1_filledIn yX1_filledIn, Cond.initialized RX1, Cond.code yX1_filledIn cX1_filledIn 5 (some .long)]
def wsX2_positions_r3 : List Cond := [Cond.fieldLink RX1 26 "RampJam$Yard" "vehicleCount" "I", Cond.methodLink RX1 46 yX1_cellsIn, Cond.instanceMethod yX1_cellsIn, Cond.selects RX1 yX1_cellsIn yX1_cellsIn, Cond.code yX1_cellsIn cX1_cellsIn 4 (some .long), Cond.fieldLink RX1 15 "RampJam$Yard" "acrosses" "[Z", Cond.fieldLink RX1 22 "RampJam$Yard" "shapes" "[J", Cond.methodLink RX1 38 yX1_has, Cond.instanceMethod yX1_has, Cond.selects RX1 yX1_has yX1_has, Cond.code yX1_has cX1_has 2 (some .boolean), Cond.methodLink RX0 84 yX1_count, Cond.instanceMethod yX1_count, Cond.selects RX1 yX1_count yX1_count, Cond.code yX1_count cX1_count 1 (some .int), Cond.methodLink RX0 88 yX1_wayIn, Cond.instanceMethod yX1_wayIn, Cond.selects RX1 yX1_wayIn yX1_wayIn, Cond.code yX1_wayIn cX1_wayIn 14 (some .int), Cond.fieldLink RX1 9 "RampJam$Yard" "sizes" "[I", Cond.constantLong RX1 50 (-1), Cond.methodLink RX1 52 yX1_barredTo, Cond.instanceMethod yX1_barredTo, Cond.selects RX1 yX1_barredTo yX1_barredTo]
def wsX2_positions_r4 : List Cond := [Cond.code yX1_barredTo cX1_barredTo 2 (some .long), Cond.fieldLink RX1 34 "RampJam$Yard" "rampCell" "J", Cond.methodLink RX0 92 yX0_addDriven, Cond.instanceMethod yX0_addDriven, Cond.selects RX0 yX0_addDriven yX0_addDriven, Cond.code yX0_addDriven cX0_addDriven 7 none, Cond.static yX2_moved, Cond.code yX2_moved cX2_moved 3 (some .int), Cond.methodLink RX0 100 yX0_codeOfMove, Cond.static yX0_codeOfMove, Cond.code yX0_codeOfMove cX0_codeOfMove 2 (some .int), Cond.methodLink RX0 49 yX0_traceWay, Cond.instanceMethod yX0_traceWay, Cond.selects RX0 yX0_traceWay yX0_traceWay, Cond.code yX0_traceWay cX0_traceWay 3 none, Cond.fieldLink RX0 52 "RampJam$Search" "solvedMoves" "I", Cond.fieldLink RX0 55 "RampJam$Search" "solvedCells" "I", Cond.fieldLink RX0 58 "RampJam$Search" "solvedFirstMove" "I", Cond.methodLink RX0 73 Lib.Math.abs.name, Cond.static Lib.Math.abs.name, Cond.initialized "java/lang/Math", Cond.code Lib.Math.abs.name Lib.Math.abs.code 1 (some .int), Cond.methodLink RX0 69 yX0_cellsOfMove, Cond.static yX0_cellsOfMove]
def wsX2_positions_r5 : List Cond := [Cond.code yX0_cellsOfMove cX0_cellsOfMove 1 (some .int), Cond.methodLink RX2 155 yX0_count, Cond.instanceMethod yX0_count, Cond.selects RX0 yX0_count yX0_count, Cond.code yX0_count cX0_count 1 (some .int)]
def wsX2_positions : List Cond := .code yX2_positions cX2_positions 1 (some .int) :: ((wsX2_positions_r1 ++ (wsX2_positions_r2 ++ (wsX2_positions_r3 ++ (wsX2_positions_r4 ++ wsX2_positions_r5)))) ++ wsX20 ++ wsX00 ++ wsX10)
def wsX2_fewestMoves_r1 : List Cond := [Cond.fieldLink RX2 21 "RampJam" "search" "LRampJam$Search;", Cond.methodLink RX2 152 yX2_searchFromNow, Cond.instanceMethod yX2_searchFromNow, Cond.selects RX2 yX2_searchFromNow yX2_searchFromNow, Cond.initialized RX2, Cond.code yX2_searchFromNow cX2_searchFromNow 1 none, Cond.fieldLink RX2 106 "RampJam" "isSearched" "Z", Cond.fieldLink RX2 57 "RampJam" "position" "I", Cond.methodLink RX2 177 yX0_lookFrom, Cond.instanceMethod yX0_lookFrom, Cond.selects RX0 yX0_lookFrom yX0_lookFrom, Cond.initialized RX0, Cond.code yX0_lookFrom cX0_lookFrom 3 none, Cond.fieldLink RX0 21 "RampJam$Search" "slots" "[I", Cond.fieldLink RX0 28 "RampJam$Search" "foundCount" "I", Cond.fieldLink RX0 38 "RampJam$Search" "firstSolved" "I", Cond.methodLink RX0 32 yJ7_fill_53178, Cond.static yJ7_fill_53178, Cond.initialized RJ7, Cond.code yJ7_fill_53178 cJ7_fill_53178 4 none, Cond.methodLink RX0 41 yX0_addIfNew, Cond.instanceMethod yX0_addIfNew, Cond.selects RX0 yX0_addIfNew yX0_addIfNew, Cond.code yX0_addIfNew cX0_addIfNew 6 none]
def wsX2_fewestMoves_r2 : List Cond := [Cond.fieldLink RX0 9 "RampJam$Search" "found" "[I", Cond.fieldLink RX0 15 "RampJam$Search" "origins" "[I", Cond.fieldLink RX0 18 "RampJam$Search" "moveCodes" "[I", Cond.methodLink RX0 103 yX0_slotFor, Cond.instanceMethod yX0_slotFor, Cond.selects RX0 yX0_slotFor yX0_slotFor, Cond.code yX0_slotFor cX0_slotFor 6 (some .int), Cond.constant RX0 106 (-1640531535), Cond.static yX2_placeIn, Cond.code yX2_placeIn cX2_placeIn 2 (some .int), Cond.methodLink RX0 45 yX0_addReachedFrom, Cond.instanceMethod yX0_addReachedFrom, Cond.selects RX0 yX0_addReachedFrom yX0_addReachedFrom, Cond.code yX0_addReachedFrom cX0_addReachedFrom 6 none, Cond.fieldLink RX0 24 "RampJam$Search" "yard" "LRampJam$Yard;", Cond.methodLink RX0 61 yX0_isFound, Cond.instanceMethod yX0_isFound, Cond.selects RX0 yX0_isFound yX0_isFound, Cond.code yX0_isFound cX0_isFound 2 (some .boolean), Cond.methodLink RX0 78 yX1_filledIn, Cond.instanceMethod yX1_filledIn, Cond.selects RX1 yX1_filledIn yX1_filledIn, Cond.initialized RX1, Cond.code yX1_filledIn cX1_filledIn 5 (some .long)]
def wsX2_fewestMoves_r3 : List Cond := [Cond.fieldLink RX1 26 "RampJam$Yard" "vehicleCount" "I", Cond.methodLink RX1 46 yX1_cellsIn, Cond.instanceMethod yX1_cellsIn, Cond.selects RX1 yX1_cellsIn yX1_cellsIn, Cond.code yX1_cellsIn cX1_cellsIn 4 (some .long), Cond.fieldLink RX1 15 "RampJam$Yard" "acrosses" "[Z", Cond.fieldLink RX1 22 "RampJam$Yard" "shapes" "[J", Cond.methodLink RX1 38 yX1_has, Cond.instanceMethod yX1_has, Cond.selects RX1 yX1_has yX1_has, Cond.code yX1_has cX1_has 2 (some .boolean), Cond.methodLink RX0 84 yX1_count, Cond.instanceMethod yX1_count, Cond.selects RX1 yX1_count yX1_count, Cond.code yX1_count cX1_count 1 (some .int), Cond.methodLink RX0 88 yX1_wayIn, Cond.instanceMethod yX1_wayIn, Cond.selects RX1 yX1_wayIn yX1_wayIn, Cond.code yX1_wayIn cX1_wayIn 14 (some .int), Cond.fieldLink RX1 9 "RampJam$Yard" "sizes" "[I", Cond.constantLong RX1 50 (-1), Cond.methodLink RX1 52 yX1_barredTo, Cond.instanceMethod yX1_barredTo, Cond.selects RX1 yX1_barredTo yX1_barredTo]
def wsX2_fewestMoves_r4 : List Cond := [Cond.code yX1_barredTo cX1_barredTo 2 (some .long), Cond.fieldLink RX1 34 "RampJam$Yard" "rampCell" "J", Cond.methodLink RX0 92 yX0_addDriven, Cond.instanceMethod yX0_addDriven, Cond.selects RX0 yX0_addDriven yX0_addDriven, Cond.code yX0_addDriven cX0_addDriven 7 none, Cond.static yX2_moved, Cond.code yX2_moved cX2_moved 3 (some .int), Cond.methodLink RX0 100 yX0_codeOfMove, Cond.static yX0_codeOfMove, Cond.code yX0_codeOfMove cX0_codeOfMove 2 (some .int), Cond.methodLink RX0 49 yX0_traceWay, Cond.instanceMethod yX0_traceWay, Cond.selects RX0 yX0_traceWay yX0_traceWay, Cond.code yX0_traceWay cX0_traceWay 3 none, Cond.fieldLink RX0 52 "RampJam$Search" "solvedMoves" "I", Cond.fieldLink RX0 55 "RampJam$Search" "solvedCells" "I", Cond.fieldLink RX0 58 "RampJam$Search" "solvedFirstMove" "I", Cond.methodLink RX0 73 Lib.Math.abs.name, Cond.static Lib.Math.abs.name, Cond.initialized "java/lang/Math", Cond.code Lib.Math.abs.name Lib.Math.abs.code 1 (some .int), Cond.methodLink RX0 69 yX0_cellsOfMove, Cond.static yX0_cellsOfMove]
def wsX2_fewestMoves_r5 : List Cond := [Cond.code yX0_cellsOfMove cX0_cellsOfMove 1 (some .int), Cond.methodLink RX2 156 yX0_movesToSolved, Cond.instanceMethod yX0_movesToSolved, Cond.selects RX0 yX0_movesToSolved yX0_movesToSolved, Cond.code yX0_movesToSolved cX0_movesToSolved 1 (some .int)]
def wsX2_fewestMoves : List Cond := .code yX2_fewestMoves cX2_fewestMoves 1 (some .int) :: ((wsX2_fewestMoves_r1 ++ (wsX2_fewestMoves_r2 ++ (wsX2_fewestMoves_r3 ++ (wsX2_fewestMoves_r4 ++ wsX2_fewestMoves_r5)))) ++ wsX20 ++ wsX00 ++ wsX10)
def wsX2_hint_r1 : List Cond := [Cond.fieldLink RX2 21 "RampJam" "search" "LRampJam$Search;", Cond.methodLink RX2 152 yX2_searchFromNow, Cond.instanceMethod yX2_searchFromNow, Cond.selects RX2 yX2_searchFromNow yX2_searchFromNow, Cond.initialized RX2, Cond.code yX2_searchFromNow cX2_searchFromNow 1 none, Cond.fieldLink RX2 106 "RampJam" "isSearched" "Z", Cond.fieldLink RX2 57 "RampJam" "position" "I", Cond.methodLink RX2 177 yX0_lookFrom, Cond.instanceMethod yX0_lookFrom, Cond.selects RX0 yX0_lookFrom yX0_lookFrom, Cond.initialized RX0, Cond.code yX0_lookFrom cX0_lookFrom 3 none, Cond.fieldLink RX0 21 "RampJam$Search" "slots" "[I", Cond.fieldLink RX0 28 "RampJam$Search" "foundCount" "I", Cond.fieldLink RX0 38 "RampJam$Search" "firstSolved" "I", Cond.methodLink RX0 32 yJ7_fill_53178, Cond.static yJ7_fill_53178, Cond.initialized RJ7, Cond.code yJ7_fill_53178 cJ7_fill_53178 4 none, Cond.methodLink RX0 41 yX0_addIfNew, Cond.instanceMethod yX0_addIfNew, Cond.selects RX0 yX0_addIfNew yX0_addIfNew, Cond.code yX0_addIfNew cX0_addIfNew 6 none]
def wsX2_hint_r2 : List Cond := [Cond.fieldLink RX0 9 "RampJam$Search" "found" "[I", Cond.fieldLink RX0 15 "RampJam$Search" "origins" "[I", Cond.fieldLink RX0 18 "RampJam$Search" "moveCodes" "[I", Cond.methodLink RX0 103 yX0_slotFor, Cond.instanceMethod yX0_slotFor, Cond.selects RX0 yX0_slotFor yX0_slotFor, Cond.code yX0_slotFor cX0_slotFor 6 (some .int), Cond.constant RX0 106 (-1640531535), Cond.static yX2_placeIn, Cond.code yX2_placeIn cX2_placeIn 2 (some .int), Cond.methodLink RX0 45 yX0_addReachedFrom, Cond.instanceMethod yX0_addReachedFrom, Cond.selects RX0 yX0_addReachedFrom yX0_addReachedFrom, Cond.code yX0_addReachedFrom cX0_addReachedFrom 6 none, Cond.fieldLink RX0 24 "RampJam$Search" "yard" "LRampJam$Yard;", Cond.methodLink RX0 61 yX0_isFound, Cond.instanceMethod yX0_isFound, Cond.selects RX0 yX0_isFound yX0_isFound, Cond.code yX0_isFound cX0_isFound 2 (some .boolean), Cond.methodLink RX0 78 yX1_filledIn, Cond.instanceMethod yX1_filledIn, Cond.selects RX1 yX1_filledIn yX1_filledIn, Cond.initialized RX1, Cond.code yX1_filledIn cX1_filledIn 5 (some .long)]
def wsX2_hint_r3 : List Cond := [Cond.fieldLink RX1 26 "RampJam$Yard" "vehicleCount" "I", Cond.methodLink RX1 46 yX1_cellsIn, Cond.instanceMethod yX1_cellsIn, Cond.selects RX1 yX1_cellsIn yX1_cellsIn, Cond.code yX1_cellsIn cX1_cellsIn 4 (some .long), Cond.fieldLink RX1 15 "RampJam$Yard" "acrosses" "[Z", Cond.fieldLink RX1 22 "RampJam$Yard" "shapes" "[J", Cond.methodLink RX1 38 yX1_has, Cond.instanceMethod yX1_has, Cond.selects RX1 yX1_has yX1_has, Cond.code yX1_has cX1_has 2 (some .boolean), Cond.methodLink RX0 84 yX1_count, Cond.instanceMethod yX1_count, Cond.selects RX1 yX1_count yX1_count, Cond.code yX1_count cX1_count 1 (some .int), Cond.methodLink RX0 88 yX1_wayIn, Cond.instanceMethod yX1_wayIn, Cond.selects RX1 yX1_wayIn yX1_wayIn, Cond.code yX1_wayIn cX1_wayIn 14 (some .int), Cond.fieldLink RX1 9 "RampJam$Yard" "sizes" "[I", Cond.constantLong RX1 50 (-1), Cond.methodLink RX1 52 yX1_barredTo, Cond.instanceMethod yX1_barredTo, Cond.selects RX1 yX1_barredTo yX1_barredTo]
def wsX2_hint_r4 : List Cond := [Cond.code yX1_barredTo cX1_barredTo 2 (some .long), Cond.fieldLink RX1 34 "RampJam$Yard" "rampCell" "J", Cond.methodLink RX0 92 yX0_addDriven, Cond.instanceMethod yX0_addDriven, Cond.selects RX0 yX0_addDriven yX0_addDriven, Cond.code yX0_addDriven cX0_addDriven 7 none, Cond.static yX2_moved, Cond.code yX2_moved cX2_moved 3 (some .int), Cond.methodLink RX0 100 yX0_codeOfMove, Cond.static yX0_codeOfMove, Cond.code yX0_codeOfMove cX0_codeOfMove 2 (some .int), Cond.methodLink RX0 49 yX0_traceWay, Cond.instanceMethod yX0_traceWay, Cond.selects RX0 yX0_traceWay yX0_traceWay, Cond.code yX0_traceWay cX0_traceWay 3 none, Cond.fieldLink RX0 52 "RampJam$Search" "solvedMoves" "I", Cond.fieldLink RX0 55 "RampJam$Search" "solvedCells" "I", Cond.fieldLink RX0 58 "RampJam$Search" "solvedFirstMove" "I", Cond.methodLink RX0 73 Lib.Math.abs.name, Cond.static Lib.Math.abs.name, Cond.initialized "java/lang/Math", Cond.code Lib.Math.abs.name Lib.Math.abs.code 1 (some .int), Cond.methodLink RX0 69 yX0_cellsOfMove, Cond.static yX0_cellsOfMove]
def wsX2_hint_r5 : List Cond := [Cond.code yX0_cellsOfMove cX0_cellsOfMove 1 (some .int), Cond.methodLink RX2 159 yX0_firstMoveToSolved, Cond.instanceMethod yX0_firstMoveToSolved, Cond.selects RX0 yX0_firstMoveToSolved yX0_firstMoveToSolved, Cond.code yX0_firstMoveToSolved cX0_firstMoveToSolved 1 (some .int)]
def wsX2_hint : List Cond := .code yX2_hint cX2_hint 1 (some .int) :: ((wsX2_hint_r1 ++ (wsX2_hint_r2 ++ (wsX2_hint_r3 ++ (wsX2_hint_r4 ++ wsX2_hint_r5)))) ++ wsX20 ++ wsX00 ++ wsX10)
def wsJ9_abs_0f7a4 : List Cond := .code yJ9_abs_0f7a4 cJ9_abs_0f7a4 1 (some .int) :: ([])
def wsL_drawn : List Cond := .code yL_drawn cL_drawn 4 (some .int) :: ([.constant RL 7 (62753)])
def wsL_filled_r1 : List Cond := [Cond.methodLink RL 8 yX2_at, Cond.instanceMethod yX2_at, Cond.selects RX2 yX2_at yX2_at, Cond.initialized RX2, Cond.code yX2_at cX2_at 3 (some .int), Cond.classLink RX2 29 "java/lang/IllegalArgumentException", Cond.initialized "java/lang/IllegalArgumentException", Cond.fieldLink RX2 10 "RampJam" "yard" "LRampJam$Yard;", Cond.fieldLink RX2 57 "RampJam" "position" "I", Cond.methodLink RX2 25 yX2_isInYard, Cond.static yX2_isInYard, Cond.code yX2_isInYard cX2_isInYard 2 (some .boolean), Cond.methodLink RX2 88 yX2_cellOf, Cond.static yX2_cellOf, Cond.code yX2_cellOf cX2_cellOf 2 (some .long), Cond.methodLink RX2 92 yX1_vehicleOn, Cond.instanceMethod yX1_vehicleOn, Cond.selects RX1 yX1_vehicleOn yX1_vehicleOn, Cond.initialized RX1, Cond.code yX1_vehicleOn cX1_vehicleOn 5 (some .int), Cond.fieldLink RX1 26 "RampJam$Yard" "vehicleCount" "I", Cond.methodLink RX1 46 yX1_cellsIn, Cond.instanceMethod yX1_cellsIn, Cond.selects RX1 yX1_cellsIn yX1_cellsIn]
def wsL_filled_r2 : List Cond := [Cond.code yX1_cellsIn cX1_cellsIn 4 (some .long), Cond.fieldLink RX1 15 "RampJam$Yard" "acrosses" "[Z", Cond.fieldLink RX1 22 "RampJam$Yard" "shapes" "[J", Cond.methodLink RX1 38 yX1_has, Cond.instanceMethod yX1_has, Cond.selects RX1 yX1_has yX1_has, Cond.code yX1_has cX1_has 2 (some .boolean), Cond.static yX2_placeIn, Cond.code yX2_placeIn cX2_placeIn 2 (some .int)]
def wsL_filled : List Cond := .code yL_filled cL_filled 4 (some .int) :: ((wsL_filled_r1 ++ wsL_filled_r2) ++ wsX20 ++ wsX10 ++ (vx_atS RX2 33 "java/lang/IllegalArgumentException" ["java/lang/RuntimeException", "java/lang/Exception"]).filter goodWord)
def wsL_isWhole_r1 : List Cond := [Cond.methodLink RL 14 yX2_vehicles, Cond.instanceMethod yX2_vehicles, Cond.selects RX2 yX2_vehicles yX2_vehicles, Cond.initialized RX2, Cond.code yX2_vehicles cX2_vehicles 1 (some .int), Cond.fieldLink RX2 10 "RampJam" "yard" "LRampJam$Yard;", Cond.methodLink RX2 38 yX1_count, Cond.instanceMethod yX1_count, Cond.selects RX1 yX1_count yX1_count, Cond.initialized RX1, Cond.code yX1_count cX1_count 1 (some .int), Cond.fieldLink RX1 26 "RampJam$Yard" "vehicleCount" "I", Cond.methodLink RL 18 yL_filled, Cond.static yL_filled, Cond.initialized RL, Cond.code yL_filled cL_filled 4 (some .int), Cond.methodLink RL 8 yX2_at, Cond.instanceMethod yX2_at, Cond.selects RX2 yX2_at yX2_at, Cond.code yX2_at cX2_at 3 (some .int), Cond.classLink RX2 29 "java/lang/IllegalArgumentException", Cond.initialized "java/lang/IllegalArgumentException", Cond.fieldLink RX2 57 "RampJam" "position" "I", Cond.methodLink RX2 25 yX2_isInYard]
def wsL_isWhole_r2 : List Cond := [Cond.static yX2_isInYard, Cond.code yX2_isInYard cX2_isInYard 2 (some .boolean), Cond.methodLink RX2 88 yX2_cellOf, Cond.static yX2_cellOf, Cond.code yX2_cellOf cX2_cellOf 2 (some .long), Cond.methodLink RX2 92 yX1_vehicleOn, Cond.instanceMethod yX1_vehicleOn, Cond.selects RX1 yX1_vehicleOn yX1_vehicleOn, Cond.code yX1_vehicleOn cX1_vehicleOn 5 (some .int), Cond.methodLink RX1 46 yX1_cellsIn, Cond.instanceMethod yX1_cellsIn, Cond.selects RX1 yX1_cellsIn yX1_cellsIn, Cond.code yX1_cellsIn cX1_cellsIn 4 (some .long), Cond.fieldLink RX1 15 "RampJam$Yard" "acrosses" "[Z", Cond.fieldLink RX1 22 "RampJam$Yard" "shapes" "[J", Cond.methodLink RX1 38 yX1_has, Cond.instanceMethod yX1_has, Cond.selects RX1 yX1_has yX1_has, Cond.code yX1_has cX1_has 2 (some .boolean), Cond.static yX2_placeIn, Cond.code yX2_placeIn cX2_placeIn 2 (some .int), Cond.methodLink RL 24 yX2_rowOf, Cond.instanceMethod yX2_rowOf, Cond.selects RX2 yX2_rowOf yX2_rowOf]
def wsL_isWhole_r3 : List Cond := [Cond.code yX2_rowOf cX2_rowOf 2 (some .int), Cond.classLink RX2 113 "java/lang/IndexOutOfBoundsException", Cond.initialized "java/lang/IndexOutOfBoundsException", Cond.methodLink RX2 110 yX1_has, Cond.methodLink RX2 139 yX1_standsAcross, Cond.instanceMethod yX1_standsAcross, Cond.selects RX1 yX1_standsAcross yX1_standsAcross, Cond.code yX1_standsAcross cX1_standsAcross 2 (some .boolean), Cond.methodLink RX2 142 yX1_lineOf, Cond.instanceMethod yX1_lineOf, Cond.selects RX1 yX1_lineOf yX1_lineOf, Cond.code yX1_lineOf cX1_lineOf 2 (some .int), Cond.fieldLink RX1 19 "RampJam$Yard" "lines" "[I", Cond.methodLink RX2 145 yX2_placeIn, Cond.methodLink RL 28 yX2_columnOf, Cond.instanceMethod yX2_columnOf, Cond.selects RX2 yX2_columnOf yX2_columnOf, Cond.code yX2_columnOf cX2_columnOf 2 (some .int), Cond.methodLink RL 31 yX2_freeWay, Cond.instanceMethod yX2_freeWay, Cond.selects RX2 yX2_freeWay yX2_freeWay, Cond.code yX2_freeWay cX2_freeWay 3 (some .int), Cond.methodLink RX2 126 yX2_wayNow, Cond.instanceMethod yX2_wayNow]
def wsL_isWhole_r4 : List Cond := [Cond.selects RX2 yX2_wayNow yX2_wayNow, Cond.code yX2_wayNow cX2_wayNow 3 (some .int), Cond.methodLink RX2 60 yX1_filledIn, Cond.instanceMethod yX1_filledIn, Cond.selects RX1 yX1_filledIn yX1_filledIn, Cond.code yX1_filledIn cX1_filledIn 5 (some .long), Cond.methodLink RX2 173 yX1_wayIn, Cond.instanceMethod yX1_wayIn, Cond.selects RX1 yX1_wayIn yX1_wayIn, Cond.code yX1_wayIn cX1_wayIn 14 (some .int), Cond.fieldLink RX1 9 "RampJam$Yard" "sizes" "[I", Cond.constantLong RX1 50 (-1), Cond.methodLink RX1 52 yX1_barredTo, Cond.instanceMethod yX1_barredTo, Cond.selects RX1 yX1_barredTo yX1_barredTo, Cond.code yX1_barredTo cX1_barredTo 2 (some .long), Cond.fieldLink RX1 34 "RampJam$Yard" "rampCell" "J", Cond.methodLink RL 35 yX2_isSolved, Cond.instanceMethod yX2_isSolved, Cond.selects RX2 yX2_isSolved yX2_isSolved, Cond.code yX2_isSolved cX2_isSolved 1 (some .boolean), Cond.methodLink RL 39 yX2_inTheWay, Cond.instanceMethod yX2_inTheWay, Cond.selects RX2 yX2_inTheWay yX2_inTheWay]
def wsL_isWhole_r5 : List Cond := [Cond.code yX2_inTheWay cX2_inTheWay 5 (some .int), Cond.methodLink RX2 149 yX1_cellsIn]
def wsL_isWhole : List Cond := .code yL_isWhole cL_isWhole 13 (some .boolean) :: ((wsL_isWhole_r1 ++ (wsL_isWhole_r2 ++ (wsL_isWhole_r3 ++ (wsL_isWhole_r4 ++ wsL_isWhole_r5)))) ++ wsX20 ++ wsX10 ++ (vx_atS RX2 33 "java/lang/IllegalArgumentException" ["java/lang/RuntimeException", "java/lang/Exception"]).filter goodWord ++ (vx_atS RX2 117 "java/lang/IndexOutOfBoundsException" ["java/lang/RuntimeException", "java/lang/Exception"]).filter goodWord)
def wsL_isStep_r1 : List Cond := [Cond.methodLink RL 42 yX2_fewestMoves, Cond.instanceMethod yX2_fewestMoves, Cond.selects RX2 yX2_fewestMoves yX2_fewestMoves, Cond.initialized RX2, Cond.code yX2_fewestMoves cX2_fewestMoves 1 (some .int), Cond.fieldLink RX2 21 "RampJam" "search" "LRampJam$Search;", Cond.methodLink RX2 152 yX2_searchFromNow, Cond.instanceMethod yX2_searchFromNow, Cond.selects RX2 yX2_searchFromNow yX2_searchFromNow, Cond.code yX2_searchFromNow cX2_searchFromNow 1 none, Cond.fieldLink RX2 106 "RampJam" "isSearched" "Z", Cond.fieldLink RX2 57 "RampJam" "position" "I", Cond.methodLink RX2 177 yX0_lookFrom, Cond.instanceMethod yX0_lookFrom, Cond.selects RX0 yX0_lookFrom yX0_lookFrom, Cond.initialized RX0, Cond.code yX0_lookFrom cX0_lookFrom 3 none, Cond.fieldLink RX0 21 "RampJam$Search" "slots" "[I", Cond.fieldLink RX0 28 "RampJam$Search" "foundCount" "I", Cond.fieldLink RX0 38 "RampJam$Search" "firstSolved" "I", Cond.methodLink RX0 32 yJ7_fill_53178, Cond.static yJ7_fill_53178, Cond.initialized RJ7, Cond.code yJ7_fill_53178 cJ7_fill_53178 4 none]
def wsL_isStep_r2 : List Cond := [Cond.methodLink RX0 41 yX0_addIfNew, Cond.instanceMethod yX0_addIfNew, Cond.selects RX0 yX0_addIfNew yX0_addIfNew, Cond.code yX0_addIfNew cX0_addIfNew 6 none, Cond.fieldLink RX0 9 "RampJam$Search" "found" "[I", Cond.fieldLink RX0 15 "RampJam$Search" "origins" "[I", Cond.fieldLink RX0 18 "RampJam$Search" "moveCodes" "[I", Cond.methodLink RX0 103 yX0_slotFor, Cond.instanceMethod yX0_slotFor, Cond.selects RX0 yX0_slotFor yX0_slotFor, Cond.code yX0_slotFor cX0_slotFor 6 (some .int), Cond.constant RX0 106 (-1640531535), Cond.static yX2_placeIn, Cond.code yX2_placeIn cX2_placeIn 2 (some .int), Cond.methodLink RX0 45 yX0_addReachedFrom, Cond.instanceMethod yX0_addReachedFrom, Cond.selects RX0 yX0_addReachedFrom yX0_addReachedFrom, Cond.code yX0_addReachedFrom cX0_addReachedFrom 6 none, Cond.fieldLink RX0 24 "RampJam$Search" "yard" "LRampJam$Yard;", Cond.methodLink RX0 61 yX0_isFound, Cond.instanceMethod yX0_isFound, Cond.selects RX0 yX0_isFound yX0_isFound, Cond.code yX0_isFound cX0_isFound 2 (some .boolean), Cond.methodLink RX0 78 yX1_filledIn]
def wsL_isStep_r3 : List Cond := [Cond.instanceMethod yX1_filledIn, Cond.selects RX1 yX1_filledIn yX1_filledIn, Cond.initialized RX1, Cond.code yX1_filledIn cX1_filledIn 5 (some .long), Cond.fieldLink RX1 26 "RampJam$Yard" "vehicleCount" "I", Cond.methodLink RX1 46 yX1_cellsIn, Cond.instanceMethod yX1_cellsIn, Cond.selects RX1 yX1_cellsIn yX1_cellsIn, Cond.code yX1_cellsIn cX1_cellsIn 4 (some .long), Cond.fieldLink RX1 15 "RampJam$Yard" "acrosses" "[Z", Cond.fieldLink RX1 22 "RampJam$Yard" "shapes" "[J", Cond.methodLink RX1 38 yX1_has, Cond.instanceMethod yX1_has, Cond.selects RX1 yX1_has yX1_has, Cond.code yX1_has cX1_has 2 (some .boolean), Cond.methodLink RX0 84 yX1_count, Cond.instanceMethod yX1_count, Cond.selects RX1 yX1_count yX1_count, Cond.code yX1_count cX1_count 1 (some .int), Cond.methodLink RX0 88 yX1_wayIn, Cond.instanceMethod yX1_wayIn, Cond.selects RX1 yX1_wayIn yX1_wayIn, Cond.code yX1_wayIn cX1_wayIn 14 (some .int), Cond.fieldLink RX1 9 "RampJam$Yard" "sizes" "[I"]
def wsL_isStep_r4 : List Cond := [Cond.constantLong RX1 50 (-1), Cond.methodLink RX1 52 yX1_barredTo, Cond.instanceMethod yX1_barredTo, Cond.selects RX1 yX1_barredTo yX1_barredTo, Cond.code yX1_barredTo cX1_barredTo 2 (some .long), Cond.fieldLink RX1 34 "RampJam$Yard" "rampCell" "J", Cond.methodLink RX0 92 yX0_addDriven, Cond.instanceMethod yX0_addDriven, Cond.selects RX0 yX0_addDriven yX0_addDriven, Cond.code yX0_addDriven cX0_addDriven 7 none, Cond.static yX2_moved, Cond.code yX2_moved cX2_moved 3 (some .int), Cond.methodLink RX0 100 yX0_codeOfMove, Cond.static yX0_codeOfMove, Cond.code yX0_codeOfMove cX0_codeOfMove 2 (some .int), Cond.methodLink RX0 49 yX0_traceWay, Cond.instanceMethod yX0_traceWay, Cond.selects RX0 yX0_traceWay yX0_traceWay, Cond.code yX0_traceWay cX0_traceWay 3 none, Cond.fieldLink RX0 52 "RampJam$Search" "solvedMoves" "I", Cond.fieldLink RX0 55 "RampJam$Search" "solvedCells" "I", Cond.fieldLink RX0 58 "RampJam$Search" "solvedFirstMove" "I", Cond.methodLink RX0 73 Lib.Math.abs.name, Cond.static Lib.Math.abs.name]
def wsL_isStep_r5 : List Cond := [Cond.initialized "java/lang/Math", Cond.code Lib.Math.abs.name Lib.Math.abs.code 1 (some .int), Cond.methodLink RX0 69 yX0_cellsOfMove, Cond.static yX0_cellsOfMove, Cond.code yX0_cellsOfMove cX0_cellsOfMove 1 (some .int), Cond.methodLink RX2 156 yX0_movesToSolved, Cond.instanceMethod yX0_movesToSolved, Cond.selects RX0 yX0_movesToSolved yX0_movesToSolved, Cond.code yX0_movesToSolved cX0_movesToSolved 1 (some .int), Cond.methodLink RL 45 yX2_moves, Cond.instanceMethod yX2_moves, Cond.selects RX2 yX2_moves yX2_moves, Cond.code yX2_moves cX2_moves 1 (some .int), Cond.fieldLink RX2 44 "RampJam" "moveCount" "I", Cond.methodLink RL 48 yX2_driven, Cond.instanceMethod yX2_driven, Cond.selects RX2 yX2_driven yX2_driven, Cond.code yX2_driven cX2_driven 1 (some .int), Cond.fieldLink RX2 136 "RampJam" "drivenCells" "I", Cond.methodLink RL 51 yX2_drive, Cond.instanceMethod yX2_drive, Cond.selects RX2 yX2_drive yX2_drive, Cond.code yX2_drive cX2_drive 3 none, Cond.classLink RX2 113 "java/lang/IndexOutOfBoundsException"]
def wsL_isStep_r6 : List Cond := [Cond.initialized "java/lang/IndexOutOfBoundsException", Cond.classLink RX2 29 "java/lang/IllegalArgumentException", Cond.initialized "java/lang/IllegalArgumentException", Cond.classLink RX2 48 "java/lang/IllegalStateException", Cond.initialized "java/lang/IllegalStateException", Cond.fieldLink RX2 10 "RampJam" "yard" "LRampJam$Yard;", Cond.methodLink RX2 120 Lib.Math.abs.name, Cond.methodLink RX2 110 yX1_has, Cond.methodLink RX2 126 yX2_wayNow, Cond.instanceMethod yX2_wayNow, Cond.selects RX2 yX2_wayNow yX2_wayNow, Cond.code yX2_wayNow cX2_wayNow 3 (some .int), Cond.methodLink RX2 60 yX1_filledIn, Cond.methodLink RX2 173 yX1_wayIn, Cond.methodLink RX2 132 yX2_makeMove, Cond.instanceMethod yX2_makeMove, Cond.selects RX2 yX2_makeMove yX2_makeMove, Cond.code yX2_makeMove cX2_makeMove 3 none, Cond.methodLink RX2 76 yX2_moved, Cond.methodLink RX2 80 yX2_standAt, Cond.instanceMethod yX2_standAt, Cond.selects RX2 yX2_standAt yX2_standAt, Cond.code yX2_standAt cX2_standAt 2 none, Cond.methodLink RL 55 yX2_positions]
def wsL_isStep_r7 : List Cond := [Cond.instanceMethod yX2_positions, Cond.selects RX2 yX2_positions yX2_positions, Cond.code yX2_positions cX2_positions 1 (some .int), Cond.methodLink RX2 155 yX0_count, Cond.instanceMethod yX0_count, Cond.selects RX0 yX0_count yX0_count, Cond.code yX0_count cX0_count 1 (some .int), Cond.methodLink RL 35 yX2_isSolved, Cond.instanceMethod yX2_isSolved, Cond.selects RX2 yX2_isSolved yX2_isSolved, Cond.code yX2_isSolved cX2_isSolved 1 (some .boolean), Cond.methodLink RX2 145 yX2_placeIn, Cond.methodLink RL 58 yX2_hint, Cond.instanceMethod yX2_hint, Cond.selects RX2 yX2_hint yX2_hint, Cond.code yX2_hint cX2_hint 1 (some .int), Cond.methodLink RX2 159 yX0_firstMoveToSolved, Cond.instanceMethod yX0_firstMoveToSolved, Cond.selects RX0 yX0_firstMoveToSolved yX0_firstMoveToSolved, Cond.code yX0_firstMoveToSolved cX0_firstMoveToSolved 1 (some .int)]
def wsL_isStep : List Cond := .code yL_isStep cL_isStep 9 (some .boolean) :: ((wsL_isStep_r1 ++ (wsL_isStep_r2 ++ (wsL_isStep_r3 ++ (wsL_isStep_r4 ++ (wsL_isStep_r5 ++ (wsL_isStep_r6 ++ wsL_isStep_r7)))))) ++ wsX20 ++ wsX00 ++ wsX10 ++ (vx_atS RX2 117 "java/lang/IndexOutOfBoundsException" ["java/lang/RuntimeException", "java/lang/Exception"]).filter goodWord ++ (vx_atS RX2 33 "java/lang/IllegalArgumentException" ["java/lang/RuntimeException", "java/lang/Exception"]).filter goodWord ++ (vx_atS RX2 52 "java/lang/IllegalStateException" ["java/lang/RuntimeException", "java/lang/Exception"]).filter goodWord)
def wsL_law0_r1 : List Cond := [Cond.classLink RL 9 RX2, Cond.instantiable RX2 7, Cond.initialized RX2, Cond.arrayClass .int, Cond.methodLink RL 61 yX2_init, Cond.instanceMethod yX2_init, Cond.code yX2_init cX2_init 1 none, Cond.methodLink RX2 1 objectInit, Cond.instanceMethod objectInit, Cond.code objectInit ⟨#[0xb1]⟩ 1 none, Cond.classLink RX2 7 RX1, Cond.instantiable RX1 6, Cond.initialized RX1, Cond.fieldLink RX2 10 "RampJam" "yard" "LRampJam$Yard;", Cond.classLink RX2 16 RX0, Cond.instantiable RX0 10, Cond.initialized RX0, Cond.fieldLink RX2 21 "RampJam" "search" "LRampJam$Search;", Cond.instanceMethod yX1_init, Cond.code yX1_init cX1_init 1 none, Cond.methodLink RX1 3 objectInit, Cond.fieldLink RX1 9 "RampJam$Yard" "sizes" "[I", Cond.arrayClass .boolean, Cond.fieldLink RX1 15 "RampJam$Yard" "acrosses" "[Z"]
def wsL_law0_r2 : List Cond := [Cond.fieldLink RX1 19 "RampJam$Yard" "lines" "[I", Cond.arrayClass .long, Cond.fieldLink RX1 22 "RampJam$Yard" "shapes" "[J", Cond.methodLink RX2 18 yX0_init, Cond.instanceMethod yX0_init, Cond.code yX0_init cX0_init 2 none, Cond.methodLink RX0 3 objectInit, Cond.fieldLink RX0 9 "RampJam$Search" "found" "[I", Cond.fieldLink RX0 15 "RampJam$Search" "origins" "[I", Cond.fieldLink RX0 18 "RampJam$Search" "moveCodes" "[I", Cond.fieldLink RX0 21 "RampJam$Search" "slots" "[I", Cond.fieldLink RX0 24 "RampJam$Search" "yard" "LRampJam$Yard;", Cond.methodLink RL 62 yL_drawn, Cond.static yL_drawn, Cond.initialized RL, Cond.code yL_drawn cL_drawn 4 (some .int), Cond.constant RL 7 (62753), Cond.methodLink RL 66 yX2_park, Cond.instanceMethod yX2_park, Cond.selects RX2 yX2_park yX2_park, Cond.code yX2_park cX2_park 10 (some .int), Cond.classLink RX2 29 "java/lang/IllegalArgumentException", Cond.initialized "java/lang/IllegalArgumentException", Cond.classLink RX2 48 "java/lang/IllegalStateException"]
def wsL_law0_r3 : List Cond := [Cond.initialized "java/lang/IllegalStateException", Cond.fieldLink RX2 44 "RampJam" "moveCount" "I", Cond.fieldLink RX2 57 "RampJam" "position" "I", Cond.fieldLink RX2 73 "RampJam" "parkedPosition" "I", Cond.methodLink RX2 25 yX2_isInYard, Cond.static yX2_isInYard, Cond.code yX2_isInYard cX2_isInYard 2 (some .boolean), Cond.methodLink RX2 38 yX1_count, Cond.instanceMethod yX1_count, Cond.selects RX1 yX1_count yX1_count, Cond.code yX1_count cX1_count 1 (some .int), Cond.fieldLink RX1 26 "RampJam$Yard" "vehicleCount" "I", Cond.methodLink RX2 53 yX2_cellsOf, Cond.static yX2_cellsOf, Cond.code yX2_cellsOf cX2_cellsOf 7 (some .long), Cond.methodLink RX2 88 yX2_cellOf, Cond.static yX2_cellOf, Cond.code yX2_cellOf cX2_cellOf 2 (some .long), Cond.methodLink RX2 60 yX1_filledIn, Cond.instanceMethod yX1_filledIn, Cond.selects RX1 yX1_filledIn yX1_filledIn, Cond.code yX1_filledIn cX1_filledIn 5 (some .long), Cond.methodLink RX1 46 yX1_cellsIn, Cond.instanceMethod yX1_cellsIn]
def wsL_law0_r4 : List Cond := [Cond.selects RX1 yX1_cellsIn yX1_cellsIn, Cond.code yX1_cellsIn cX1_cellsIn 4 (some .long), Cond.methodLink RX1 38 yX1_has, Cond.instanceMethod yX1_has, Cond.selects RX1 yX1_has yX1_has, Cond.code yX1_has cX1_has 2 (some .boolean), Cond.static yX2_placeIn, Cond.code yX2_placeIn cX2_placeIn 2 (some .int), Cond.methodLink RX2 64 yX1_barredTo, Cond.instanceMethod yX1_barredTo, Cond.selects RX1 yX1_barredTo yX1_barredTo, Cond.code yX1_barredTo cX1_barredTo 2 (some .long), Cond.fieldLink RX1 34 "RampJam$Yard" "rampCell" "J", Cond.methodLink RX2 69 yX1_add, Cond.instanceMethod yX1_add, Cond.selects RX1 yX1_add yX1_add, Cond.code yX1_add cX1_add 5 (some .int), Cond.methodLink RX2 76 yX2_moved, Cond.static yX2_moved, Cond.code yX2_moved cX2_moved 3 (some .int), Cond.methodLink RX2 80 yX2_standAt, Cond.instanceMethod yX2_standAt, Cond.selects RX2 yX2_standAt yX2_standAt, Cond.code yX2_standAt cX2_standAt 2 none]
def wsL_law0_r5 : List Cond := [Cond.fieldLink RX2 106 "RampJam" "isSearched" "Z", Cond.methodLink RL 14 yX2_vehicles, Cond.instanceMethod yX2_vehicles, Cond.selects RX2 yX2_vehicles yX2_vehicles, Cond.code yX2_vehicles cX2_vehicles 1 (some .int), Cond.methodLink RL 8 yX2_at, Cond.instanceMethod yX2_at, Cond.selects RX2 yX2_at yX2_at, Cond.code yX2_at cX2_at 3 (some .int), Cond.methodLink RX2 92 yX1_vehicleOn, Cond.instanceMethod yX1_vehicleOn, Cond.selects RX1 yX1_vehicleOn yX1_vehicleOn, Cond.code yX1_vehicleOn cX1_vehicleOn 5 (some .int), Cond.methodLink RL 70 yX2_ramp, Cond.instanceMethod yX2_ramp, Cond.selects RX2 yX2_ramp yX2_ramp, Cond.code yX2_ramp cX2_ramp 5 none, Cond.methodLink RX2 96 yX1_isLorry, Cond.instanceMethod yX1_isLorry, Cond.selects RX1 yX1_isLorry yX1_isLorry, Cond.code yX1_isLorry cX1_isLorry 2 (some .boolean), Cond.methodLink RX2 102 yX1_putRamp, Cond.instanceMethod yX1_putRamp, Cond.selects RX1 yX1_putRamp yX1_putRamp]
def wsL_law0_r6 : List Cond := [Cond.code yX1_putRamp cX1_putRamp 3 none, Cond.methodLink RL 55 yX2_positions, Cond.instanceMethod yX2_positions, Cond.selects RX2 yX2_positions yX2_positions, Cond.code yX2_positions cX2_positions 1 (some .int), Cond.methodLink RX2 152 yX2_searchFromNow, Cond.instanceMethod yX2_searchFromNow, Cond.selects RX2 yX2_searchFromNow yX2_searchFromNow, Cond.code yX2_searchFromNow cX2_searchFromNow 1 none, Cond.methodLink RX2 177 yX0_lookFrom, Cond.instanceMethod yX0_lookFrom, Cond.selects RX0 yX0_lookFrom yX0_lookFrom, Cond.code yX0_lookFrom cX0_lookFrom 3 none, Cond.fieldLink RX0 28 "RampJam$Search" "foundCount" "I", Cond.fieldLink RX0 38 "RampJam$Search" "firstSolved" "I", Cond.methodLink RX0 32 yJ7_fill_53178, Cond.static yJ7_fill_53178, Cond.initialized RJ7, Cond.code yJ7_fill_53178 cJ7_fill_53178 4 none, Cond.methodLink RX0 41 yX0_addIfNew, Cond.instanceMethod yX0_addIfNew, Cond.selects RX0 yX0_addIfNew yX0_addIfNew, Cond.code yX0_addIfNew cX0_addIfNew 6 none, Cond.methodLink RX0 103 yX0_slotFor]
def wsL_law0_r7 : List Cond := [Cond.instanceMethod yX0_slotFor, Cond.selects RX0 yX0_slotFor yX0_slotFor, Cond.code yX0_slotFor cX0_slotFor 6 (some .int), Cond.constant RX0 106 (-1640531535), Cond.methodLink RX0 45 yX0_addReachedFrom, Cond.instanceMethod yX0_addReachedFrom, Cond.selects RX0 yX0_addReachedFrom yX0_addReachedFrom, Cond.code yX0_addReachedFrom cX0_addReachedFrom 6 none, Cond.methodLink RX0 61 yX0_isFound, Cond.instanceMethod yX0_isFound, Cond.selects RX0 yX0_isFound yX0_isFound, Cond.code yX0_isFound cX0_isFound 2 (some .boolean), Cond.methodLink RX0 78 yX1_filledIn, Cond.methodLink RX0 84 yX1_count, Cond.methodLink RX0 88 yX1_wayIn, Cond.instanceMethod yX1_wayIn, Cond.selects RX1 yX1_wayIn yX1_wayIn, Cond.code yX1_wayIn cX1_wayIn 14 (some .int), Cond.constantLong RX1 50 (-1), Cond.methodLink RX1 52 yX1_barredTo, Cond.methodLink RX0 92 yX0_addDriven, Cond.instanceMethod yX0_addDriven, Cond.selects RX0 yX0_addDriven yX0_addDriven, Cond.code yX0_addDriven cX0_addDriven 7 none]
def wsL_law0_r8 : List Cond := [Cond.methodLink RX0 100 yX0_codeOfMove, Cond.static yX0_codeOfMove, Cond.code yX0_codeOfMove cX0_codeOfMove 2 (some .int), Cond.methodLink RX0 49 yX0_traceWay, Cond.instanceMethod yX0_traceWay, Cond.selects RX0 yX0_traceWay yX0_traceWay, Cond.code yX0_traceWay cX0_traceWay 3 none, Cond.fieldLink RX0 52 "RampJam$Search" "solvedMoves" "I", Cond.fieldLink RX0 55 "RampJam$Search" "solvedCells" "I", Cond.fieldLink RX0 58 "RampJam$Search" "solvedFirstMove" "I", Cond.methodLink RX0 73 Lib.Math.abs.name, Cond.static Lib.Math.abs.name, Cond.initialized "java/lang/Math", Cond.code Lib.Math.abs.name Lib.Math.abs.code 1 (some .int), Cond.methodLink RX0 69 yX0_cellsOfMove, Cond.static yX0_cellsOfMove, Cond.code yX0_cellsOfMove cX0_cellsOfMove 1 (some .int), Cond.methodLink RX2 155 yX0_count, Cond.instanceMethod yX0_count, Cond.selects RX0 yX0_count yX0_count, Cond.code yX0_count cX0_count 1 (some .int), Cond.methodLink RL 24 yX2_rowOf, Cond.instanceMethod yX2_rowOf, Cond.selects RX2 yX2_rowOf yX2_rowOf]
def wsL_law0_r9 : List Cond := [Cond.code yX2_rowOf cX2_rowOf 2 (some .int), Cond.classLink RX2 113 "java/lang/IndexOutOfBoundsException", Cond.initialized "java/lang/IndexOutOfBoundsException", Cond.methodLink RX2 110 yX1_has, Cond.methodLink RX2 139 yX1_standsAcross, Cond.instanceMethod yX1_standsAcross, Cond.selects RX1 yX1_standsAcross yX1_standsAcross, Cond.code yX1_standsAcross cX1_standsAcross 2 (some .boolean), Cond.methodLink RX2 142 yX1_lineOf, Cond.instanceMethod yX1_lineOf, Cond.selects RX1 yX1_lineOf yX1_lineOf, Cond.code yX1_lineOf cX1_lineOf 2 (some .int), Cond.methodLink RX2 145 yX2_placeIn, Cond.methodLink RL 28 yX2_columnOf, Cond.instanceMethod yX2_columnOf, Cond.selects RX2 yX2_columnOf yX2_columnOf, Cond.code yX2_columnOf cX2_columnOf 2 (some .int), Cond.methodLink RL 73 yL_isWhole, Cond.static yL_isWhole, Cond.code yL_isWhole cL_isWhole 13 (some .boolean), Cond.methodLink RL 18 yL_filled, Cond.static yL_filled, Cond.code yL_filled cL_filled 4 (some .int), Cond.methodLink RL 31 yX2_freeWay]
def wsL_law0_r10 : List Cond := [Cond.instanceMethod yX2_freeWay, Cond.selects RX2 yX2_freeWay yX2_freeWay, Cond.code yX2_freeWay cX2_freeWay 3 (some .int), Cond.methodLink RX2 126 yX2_wayNow, Cond.instanceMethod yX2_wayNow, Cond.selects RX2 yX2_wayNow yX2_wayNow, Cond.code yX2_wayNow cX2_wayNow 3 (some .int), Cond.methodLink RX2 173 yX1_wayIn, Cond.methodLink RL 35 yX2_isSolved, Cond.instanceMethod yX2_isSolved, Cond.selects RX2 yX2_isSolved yX2_isSolved, Cond.code yX2_isSolved cX2_isSolved 1 (some .boolean), Cond.methodLink RL 39 yX2_inTheWay, Cond.instanceMethod yX2_inTheWay, Cond.selects RX2 yX2_inTheWay yX2_inTheWay, Cond.code yX2_inTheWay cX2_inTheWay 5 (some .int), Cond.methodLink RX2 149 yX1_cellsIn, Cond.methodLink RL 77 yL_isStep, Cond.static yL_isStep, Cond.code yL_isStep cL_isStep 9 (some .boolean), Cond.methodLink RL 42 yX2_fewestMoves, Cond.instanceMethod yX2_fewestMoves, Cond.selects RX2 yX2_fewestMoves yX2_fewestMoves, Cond.code yX2_fewestMoves cX2_fewestMoves 1 (some .int)]
def wsL_law0_r11 : List Cond := [Cond.methodLink RX2 156 yX0_movesToSolved, Cond.instanceMethod yX0_movesToSolved, Cond.selects RX0 yX0_movesToSolved yX0_movesToSolved, Cond.code yX0_movesToSolved cX0_movesToSolved 1 (some .int), Cond.methodLink RL 45 yX2_moves, Cond.instanceMethod yX2_moves, Cond.selects RX2 yX2_moves yX2_moves, Cond.code yX2_moves cX2_moves 1 (some .int), Cond.methodLink RL 48 yX2_driven, Cond.instanceMethod yX2_driven, Cond.selects RX2 yX2_driven yX2_driven, Cond.code yX2_driven cX2_driven 1 (some .int), Cond.fieldLink RX2 136 "RampJam" "drivenCells" "I", Cond.methodLink RL 51 yX2_drive, Cond.instanceMethod yX2_drive, Cond.selects RX2 yX2_drive yX2_drive, Cond.code yX2_drive cX2_drive 3 none, Cond.methodLink RX2 120 Lib.Math.abs.name, Cond.methodLink RX2 132 yX2_makeMove, Cond.instanceMethod yX2_makeMove, Cond.selects RX2 yX2_makeMove yX2_makeMove, Cond.code yX2_makeMove cX2_makeMove 3 none, Cond.methodLink RL 58 yX2_hint, Cond.instanceMethod yX2_hint]
def wsL_law0_r12 : List Cond := [Cond.selects RX2 yX2_hint yX2_hint, Cond.code yX2_hint cX2_hint 1 (some .int), Cond.methodLink RX2 159 yX0_firstMoveToSolved, Cond.instanceMethod yX0_firstMoveToSolved, Cond.selects RX0 yX0_firstMoveToSolved yX0_firstMoveToSolved, Cond.code yX0_firstMoveToSolved cX0_firstMoveToSolved 1 (some .int), Cond.methodLink RL 81 yX2_restart, Cond.instanceMethod yX2_restart, Cond.selects RX2 yX2_restart yX2_restart, Cond.code yX2_restart cX2_restart 1 none]
def wsL_law0 : List Cond := (wsL_law0_r1 ++ (wsL_law0_r2 ++ (wsL_law0_r3 ++ (wsL_law0_r4 ++ (wsL_law0_r5 ++ (wsL_law0_r6 ++ (wsL_law0_r7 ++ (wsL_law0_r8 ++ (wsL_law0_r9 ++ (wsL_law0_r10 ++ (wsL_law0_r11 ++ wsL_law0_r12))))))))))) ++ wsX20 ++ wsX10 ++ wsX00 ++ ([] : List Cond)
def wsL_law : List Cond := wsL_law0 ++ (vx_atS RX2 33 "java/lang/IllegalArgumentException" ["java/lang/RuntimeException", "java/lang/Exception"]).filter goodWord ++ (vx_atS RX2 52 "java/lang/IllegalStateException" ["java/lang/RuntimeException", "java/lang/Exception"]).filter goodWord ++ (vx_atS RX2 117 "java/lang/IndexOutOfBoundsException" ["java/lang/RuntimeException", "java/lang/Exception"]).filter goodWord
set_option maxRecDepth 20000 in
theorem wsL_law_in0 : ∀ w ∈ wsL_law0, w ∈ lw_tbl := fun w h => (goodIn_p wsL_law0 [27, 30, 35, 63, 400, 121, 124, 197, 217, 220, 224, 228, 232, 235, 239, 244, 248, 252, 279, 317, 262, 256, 266, 271, 343, 347, 351, 354, 358, 362, 368, 372, 329, 379, 383, 387, 393, 390, 397, 283, 304, 308, 313, 404, 407, 321, 325, 411, 415, 419, 423, 427, 335, 339, 431, 438, 442, 446, 275] (by decide +kernel) (by decide +kernel) w h).1
theorem wsL_law_x0 : ∀ w ∈ (vx_atS RX2 33 "java/lang/IllegalArgumentException" ["java/lang/RuntimeException", "java/lang/Exception"]).filter goodWord, w ∈ lw_tbl := by decide +kernel
theorem wsL_law_x1 : ∀ w ∈ (vx_atS RX2 52 "java/lang/IllegalStateException" ["java/lang/RuntimeException", "java/lang/Exception"]).filter goodWord, w ∈ lw_tbl := by decide +kernel
theorem wsL_law_x2 : ∀ w ∈ (vx_atS RX2 117 "java/lang/IndexOutOfBoundsException" ["java/lang/RuntimeException", "java/lang/Exception"]).filter goodWord, w ∈ lw_tbl := by decide +kernel
theorem wsL_law_in : ∀ w ∈ wsL_law, w ∈ lw_tbl := fun w h => (List.mem_append.mp h).elim (fun h => (List.mem_append.mp h).elim (fun h => (List.mem_append.mp h).elim (fun h => wsL_law_in0 w h) (fun h => wsL_law_x0 w h)) (fun h => wsL_law_x1 w h)) (fun h => wsL_law_x2 w h)
theorem inlX0 : ∀ w ∈ wsX00, w ∈ wsL_law := fun _ h => List.mem_append_left _ (List.mem_append_left _ (List.mem_append_left _ (List.mem_append_left _ (List.mem_append_right _ h))))
theorem inX0 : ∀ w ∈ wsX00, w ∈ lw_tbl := fun w h => wsL_law_in w (inlX0 w h)
theorem inlX1 : ∀ w ∈ wsX10, w ∈ wsL_law := fun _ h => List.mem_append_left _ (List.mem_append_left _ (List.mem_append_left _ (List.mem_append_left _ (List.mem_append_left _ (List.mem_append_right _ h)))))
theorem inX1 : ∀ w ∈ wsX10, w ∈ lw_tbl := fun w h => wsL_law_in w (inlX1 w h)
theorem inlX2 : ∀ w ∈ wsX20, w ∈ wsL_law := fun _ h => List.mem_append_left _ (List.mem_append_left _ (List.mem_append_left _ (List.mem_append_left _ (List.mem_append_left _ (List.mem_append_left _ (List.mem_append_right _ h))))))
theorem inX2 : ∀ w ∈ wsX20, w ∈ lw_tbl := fun w h => wsL_law_in w (inlX2 w h)
theorem inX3 : ∀ w ∈ wsX30, w ∈ lw_tbl := by decide +kernel
theorem inJx145de : ∀ w ∈ wsJx145de0, w ∈ lw_tbl := by decide +kernel
theorem inJ9 : ∀ w ∈ wsJ90, w ∈ lw_tbl := by decide +kernel
theorem inJ0 : ∀ w ∈ wsJ00, w ∈ lw_tbl := by decide +kernel
theorem inJ7 : ∀ w ∈ wsJ70, w ∈ lw_tbl := by decide +kernel
abbrev vwCl : List vw_C := [(RX0, TX0, 10), (RX1, TX1, 6), (RX2, TX2, 7)]
end
section
theorem dX0_init_0 : decode cX0_init 0 = .ok (.aload_n 0, 1) := by decide +kernel
theorem dX0_init_1 : decode cX0_init 1 = .ok (.invokespecial 3, 3) := by decide +kernel
theorem dX0_init_4 : decode cX0_init 4 = .ok (.aload_n 0, 1) := by decide +kernel
theorem dX0_init_5 : decode cX0_init 5 = .ok (.sipush 800, 3) := by decide +kernel
theorem dX0_init_8 : decode cX0_init 8 = .ok (.newarray .int, 2) := by decide +kernel
theorem dX0_init_10 : decode cX0_init 10 = .ok (.putfield 9, 3) := by decide +kernel
theorem dX0_init_13 : decode cX0_init 13 = .ok (.aload_n 0, 1) := by decide +kernel
theorem dX0_init_14 : decode cX0_init 14 = .ok (.sipush 800, 3) := by decide +kernel
theorem dX0_init_17 : decode cX0_init 17 = .ok (.newarray .int, 2) := by decide +kernel
theorem dX0_init_19 : decode cX0_init 19 = .ok (.putfield 15, 3) := by decide +kernel
theorem dX0_init_22 : decode cX0_init 22 = .ok (.aload_n 0, 1) := by decide +kernel
theorem dX0_init_23 : decode cX0_init 23 = .ok (.sipush 800, 3) := by decide +kernel
theorem dX0_init_26 : decode cX0_init 26 = .ok (.newarray .int, 2) := by decide +kernel
theorem dX0_init_28 : decode cX0_init 28 = .ok (.putfield 18, 3) := by decide +kernel
theorem dX0_init_31 : decode cX0_init 31 = .ok (.aload_n 0, 1) := by decide +kernel
theorem dX0_init_32 : decode cX0_init 32 = .ok (.sipush 2048, 3) := by decide +kernel
theorem dX0_init_35 : decode cX0_init 35 = .ok (.newarray .int, 2) := by decide +kernel
theorem dX0_init_37 : decode cX0_init 37 = .ok (.putfield 21, 3) := by decide +kernel
theorem dX0_init_40 : decode cX0_init 40 = .ok (.aload_n 0, 1) := by decide +kernel
theorem dX0_init_41 : decode cX0_init 41 = .ok (.aload_n 1, 1) := by decide +kernel
theorem dX0_init_42 : decode cX0_init 42 = .ok (.putfield 24, 3) := by decide +kernel
theorem dX0_init_45 : decode cX0_init 45 = .ok (.return_, 1) := by decide +kernel
theorem dX0_count_0 : decode cX0_count 0 = .ok (.aload_n 0, 1) := by decide +kernel
theorem dX0_count_1 : decode cX0_count 1 = .ok (.getfield 28, 3) := by decide +kernel
theorem dX0_count_4 : decode cX0_count 4 = .ok (.ireturn, 1) := by decide +kernel
set_option maxRecDepth 20000 in
theorem ggX0_lookFrom_J7_fill_53178 : GoodIn wsX0_lookFrom wsJ7_fill_53178 := goodIn_r _ [7] (by decide +kernel) (by decide +kernel)
set_option maxRecDepth 20000 in
theorem gX0_lookFrom_J7_fill_53178 : GoodIn wsX0_lookFrom (va_wsS RX0 32 yJ7_fill_53178 wsJ7_fill_53178) := goodIn_app (goodIn_of _ (by decide +kernel)) ggX0_lookFrom_J7_fill_53178
set_option maxRecDepth 20000 in
theorem ggX0_lookFrom_X0_addIfNew : GoodIn wsX0_lookFrom wsX0_addIfNew := goodIn_r _ [12, 2, 1, 13, 14, 15, 3, 16, 17, 18, 11, 19, 20, 21, 22, 23, 87, 88, 89, 90, 91, 92, 93, 94, 95, 96] (by decide +kernel) (by decide +kernel)
set_option maxRecDepth 20000 in
theorem gX0_lookFrom_X0_addIfNew : GoodIn wsX0_lookFrom (wsV RX0 41 RX0 yX0_addIfNew wsX0_addIfNew) := goodIn_app (goodIn_of _ (by decide +kernel)) ggX0_lookFrom_X0_addIfNew
set_option maxRecDepth 20000 in
theorem ggX0_lookFrom_X0_addReachedFrom : GoodIn wsX0_lookFrom wsX0_addReachedFrom := goodIn_r _ [27, 13, 28, 29, 30, 31, 11, 32, 2, 33, 34, 35, 36, 37, 38, 39, 40, 41, 42, 43, 44, 45, 46, 47, 48, 21, 22, 23, 49, 50, 51, 52, 53, 54, 55, 56, 57, 58, 59, 60, 61, 62, 63, 64, 65, 66, 67, 68, 69, 70, 71, 72, 8, 9, 10, 12, 1, 14, 15, 3, 16, 17, 18, 19, 20, 87, 88, 89, 90, 91, 92, 93, 94, 95, 96, 97, 98, 99, 100, 101, 102] (by decide +kernel) (by decide +kernel)
set_option maxRecDepth 20000 in
theorem gX0_lookFrom_X0_addReachedFrom : GoodIn wsX0_lookFrom (wsV RX0 45 RX0 yX0_addReachedFrom wsX0_addReachedFrom) := goodIn_app (goodIn_of _ (by decide +kernel)) ggX0_lookFrom_X0_addReachedFrom
set_option maxRecDepth 20000 in
theorem ggX0_lookFrom_X0_traceWay : GoodIn wsX0_lookFrom wsX0_traceWay := goodIn_r _ [76, 3, 77, 78, 79, 15, 80, 81, 82, 83, 14, 29, 30, 31, 11, 32, 2, 84, 85, 86, 87, 88, 89, 90, 91, 92, 93, 94, 95, 96] (by decide +kernel) (by decide +kernel)
set_option maxRecDepth 20000 in
theorem gX0_lookFrom_X0_traceWay : GoodIn wsX0_lookFrom (wsV RX0 49 RX0 yX0_traceWay wsX0_traceWay) := goodIn_app (goodIn_of _ (by decide +kernel)) ggX0_lookFrom_X0_traceWay
theorem dX0_lookFrom_0 : decode cX0_lookFrom 0 = .ok (.aload_n 0, 1) := by decide +kernel
theorem dX0_lookFrom_1 : decode cX0_lookFrom 1 = .ok (.getfield 21, 3) := by decide +kernel
theorem dX0_lookFrom_4 : decode cX0_lookFrom 4 = .ok (.iconst 0, 1) := by decide +kernel
theorem dX0_lookFrom_5 : decode cX0_lookFrom 5 = .ok (.invokestatic 32, 3) := by decide +kernel
theorem dX0_lookFrom_8 : decode cX0_lookFrom 8 = .ok (.aload_n 0, 1) := by decide +kernel
theorem dX0_lookFrom_9 : decode cX0_lookFrom 9 = .ok (.iconst 0, 1) := by decide +kernel
theorem dX0_lookFrom_10 : decode cX0_lookFrom 10 = .ok (.putfield 28, 3) := by decide +kernel
theorem dX0_lookFrom_13 : decode cX0_lookFrom 13 = .ok (.aload_n 0, 1) := by decide +kernel
theorem dX0_lookFrom_14 : decode cX0_lookFrom 14 = .ok (.iconst (-1), 1) := by decide +kernel
theorem dX0_lookFrom_15 : decode cX0_lookFrom 15 = .ok (.putfield 38, 3) := by decide +kernel
theorem dX0_lookFrom_18 : decode cX0_lookFrom 18 = .ok (.aload_n 0, 1) := by decide +kernel
theorem dX0_lookFrom_19 : decode cX0_lookFrom 19 = .ok (.iload_n 1, 1) := by decide +kernel
theorem dX0_lookFrom_20 : decode cX0_lookFrom 20 = .ok (.iconst 0, 1) := by decide +kernel
theorem dX0_lookFrom_21 : decode cX0_lookFrom 21 = .ok (.iconst 0, 1) := by decide +kernel
theorem dX0_lookFrom_22 : decode cX0_lookFrom 22 = .ok (.invokevirtual 41, 3) := by decide +kernel
theorem dX0_lookFrom_25 : decode cX0_lookFrom 25 = .ok (.iconst 0, 1) := by decide +kernel
theorem dX0_lookFrom_26 : decode cX0_lookFrom 26 = .ok (.istore_n 2, 1) := by decide +kernel
theorem dX0_lookFrom_27 : decode cX0_lookFrom 27 = .ok (.iload_n 2, 1) := by decide +kernel
theorem dX0_lookFrom_28 : decode cX0_lookFrom 28 = .ok (.aload_n 0, 1) := by decide +kernel
theorem dX0_lookFrom_29 : decode cX0_lookFrom 29 = .ok (.getfield 28, 3) := by decide +kernel
theorem dX0_lookFrom_32 : decode cX0_lookFrom 32 = .ok (.if_icmp .ge 24, 3) := by decide +kernel
theorem dX0_lookFrom_35 : decode cX0_lookFrom 35 = .ok (.aload_n 0, 1) := by decide +kernel
theorem dX0_lookFrom_36 : decode cX0_lookFrom 36 = .ok (.getfield 28, 3) := by decide +kernel
theorem dX0_lookFrom_39 : decode cX0_lookFrom 39 = .ok (.sipush 800, 3) := by decide +kernel
theorem dX0_lookFrom_42 : decode cX0_lookFrom 42 = .ok (.if_icmp .ge 14, 3) := by decide +kernel
theorem dX0_lookFrom_45 : decode cX0_lookFrom 45 = .ok (.aload_n 0, 1) := by decide +kernel
theorem dX0_lookFrom_46 : decode cX0_lookFrom 46 = .ok (.iload_n 2, 1) := by decide +kernel
theorem dX0_lookFrom_47 : decode cX0_lookFrom 47 = .ok (.invokevirtual 45, 3) := by decide +kernel
theorem dX0_lookFrom_50 : decode cX0_lookFrom 50 = .ok (.iinc 2 1, 3) := by decide +kernel
theorem dX0_lookFrom_53 : decode cX0_lookFrom 53 = .ok (.goto (-26), 3) := by decide +kernel
theorem dX0_lookFrom_56 : decode cX0_lookFrom 56 = .ok (.aload_n 0, 1) := by decide +kernel
theorem dX0_lookFrom_57 : decode cX0_lookFrom 57 = .ok (.invokevirtual 49, 3) := by decide +kernel
theorem dX0_lookFrom_60 : decode cX0_lookFrom 60 = .ok (.return_, 1) := by decide +kernel
theorem dX0_movesToSolved_0 : decode cX0_movesToSolved 0 = .ok (.aload_n 0, 1) := by decide +kernel
theorem dX0_movesToSolved_1 : decode cX0_movesToSolved 1 = .ok (.getfield 52, 3) := by decide +kernel
theorem dX0_movesToSolved_4 : decode cX0_movesToSolved 4 = .ok (.ireturn, 1) := by decide +kernel
theorem dX0_firstMoveToSolved_0 : decode cX0_firstMoveToSolved 0 = .ok (.aload_n 0, 1) := by decide +kernel
theorem dX0_firstMoveToSolved_1 : decode cX0_firstMoveToSolved 1 = .ok (.getfield 58, 3) := by decide +kernel
theorem dX0_firstMoveToSolved_4 : decode cX0_firstMoveToSolved 4 = .ok (.ireturn, 1) := by decide +kernel
set_option maxRecDepth 20000 in
theorem ggX0_traceWay_X0_isFound : GoodIn wsX0_traceWay wsX0_isFound := goodIn_r _ [15, 16, 20, 21, 22, 23, 24, 25, 26, 27, 28, 29] (by decide +kernel) (by decide +kernel)
set_option maxRecDepth 20000 in
theorem gX0_traceWay_X0_isFound : GoodIn wsX0_traceWay (wsV RX0 61 RX0 yX0_isFound wsX0_isFound) := goodIn_app (goodIn_of _ (by decide +kernel)) ggX0_traceWay_X0_isFound
set_option maxRecDepth 20000 in
theorem ggX0_traceWay_X0_cellsOfMove : GoodIn wsX0_traceWay wsX0_cellsOfMove := goodIn_r _ [19] (by decide +kernel) (by decide +kernel)
set_option maxRecDepth 20000 in
theorem gX0_traceWay_X0_cellsOfMove : GoodIn wsX0_traceWay (va_wsS RX0 69 yX0_cellsOfMove wsX0_cellsOfMove) := goodIn_app (goodIn_of _ (by decide +kernel)) ggX0_traceWay_X0_cellsOfMove
theorem dX0_traceWay_0 : decode cX0_traceWay 0 = .ok (.aload_n 0, 1) := by decide +kernel
theorem dX0_traceWay_1 : decode cX0_traceWay 1 = .ok (.aload_n 0, 1) := by decide +kernel
theorem dX0_traceWay_2 : decode cX0_traceWay 2 = .ok (.getfield 38, 3) := by decide +kernel
theorem dX0_traceWay_5 : decode cX0_traceWay 5 = .ok (.iconst (-1), 1) := by decide +kernel
theorem dX0_traceWay_6 : decode cX0_traceWay 6 = .ok (.if_icmp .ne 7, 3) := by decide +kernel
theorem dX0_traceWay_9 : decode cX0_traceWay 9 = .ok (.iconst (-1), 1) := by decide +kernel
theorem dX0_traceWay_10 : decode cX0_traceWay 10 = .ok (.goto 4, 3) := by decide +kernel
theorem dX0_traceWay_13 : decode cX0_traceWay 13 = .ok (.iconst 0, 1) := by decide +kernel
theorem dX0_traceWay_14 : decode cX0_traceWay 14 = .ok (.putfield 52, 3) := by decide +kernel
theorem dX0_traceWay_17 : decode cX0_traceWay 17 = .ok (.aload_n 0, 1) := by decide +kernel
theorem dX0_traceWay_18 : decode cX0_traceWay 18 = .ok (.iconst 0, 1) := by decide +kernel
theorem dX0_traceWay_19 : decode cX0_traceWay 19 = .ok (.putfield 55, 3) := by decide +kernel
theorem dX0_traceWay_22 : decode cX0_traceWay 22 = .ok (.aload_n 0, 1) := by decide +kernel
theorem dX0_traceWay_23 : decode cX0_traceWay 23 = .ok (.iconst (-1), 1) := by decide +kernel
theorem dX0_traceWay_24 : decode cX0_traceWay 24 = .ok (.putfield 58, 3) := by decide +kernel
theorem dX0_traceWay_27 : decode cX0_traceWay 27 = .ok (.aload_n 0, 1) := by decide +kernel
theorem dX0_traceWay_28 : decode cX0_traceWay 28 = .ok (.getfield 38, 3) := by decide +kernel
theorem dX0_traceWay_31 : decode cX0_traceWay 31 = .ok (.istore_n 1, 1) := by decide +kernel
theorem dX0_traceWay_32 : decode cX0_traceWay 32 = .ok (.iconst 1, 1) := by decide +kernel
theorem dX0_traceWay_33 : decode cX0_traceWay 33 = .ok (.istore_n 2, 1) := by decide +kernel
theorem dX0_traceWay_34 : decode cX0_traceWay 34 = .ok (.iload_n 2, 1) := by decide +kernel
theorem dX0_traceWay_35 : decode cX0_traceWay 35 = .ok (.sipush 800, 3) := by decide +kernel
theorem dX0_traceWay_38 : decode cX0_traceWay 38 = .ok (.if_icmp .ge 64, 3) := by decide +kernel
theorem dX0_traceWay_41 : decode cX0_traceWay 41 = .ok (.iload_n 1, 1) := by decide +kernel
theorem dX0_traceWay_42 : decode cX0_traceWay 42 = .ok (.ifCond .le 60, 3) := by decide +kernel
theorem dX0_traceWay_45 : decode cX0_traceWay 45 = .ok (.aload_n 0, 1) := by decide +kernel
theorem dX0_traceWay_46 : decode cX0_traceWay 46 = .ok (.iload_n 1, 1) := by decide +kernel
theorem dX0_traceWay_47 : decode cX0_traceWay 47 = .ok (.invokevirtual 61, 3) := by decide +kernel
theorem dX0_traceWay_50 : decode cX0_traceWay 50 = .ok (.ifCond .eq 52, 3) := by decide +kernel
theorem dX0_traceWay_53 : decode cX0_traceWay 53 = .ok (.aload_n 0, 1) := by decide +kernel
theorem dX0_traceWay_54 : decode cX0_traceWay 54 = .ok (.iload_n 2, 1) := by decide +kernel
theorem dX0_traceWay_55 : decode cX0_traceWay 55 = .ok (.putfield 52, 3) := by decide +kernel
theorem dX0_traceWay_58 : decode cX0_traceWay 58 = .ok (.aload_n 0, 1) := by decide +kernel
theorem dX0_traceWay_59 : decode cX0_traceWay 59 = .ok (.dup, 1) := by decide +kernel
theorem dX0_traceWay_60 : decode cX0_traceWay 60 = .ok (.getfield 55, 3) := by decide +kernel
theorem dX0_traceWay_63 : decode cX0_traceWay 63 = .ok (.aload_n 0, 1) := by decide +kernel
theorem dX0_traceWay_64 : decode cX0_traceWay 64 = .ok (.getfield 18, 3) := by decide +kernel
theorem dX0_traceWay_67 : decode cX0_traceWay 67 = .ok (.iload_n 1, 1) := by decide +kernel
theorem dX0_traceWay_68 : decode cX0_traceWay 68 = .ok (.iaload, 1) := by decide +kernel
theorem dX0_traceWay_69 : decode cX0_traceWay 69 = .ok (.invokestatic 69, 3) := by decide +kernel
theorem dX0_traceWay_72 : decode cX0_traceWay 72 = .ok (.invokestatic 73, 3) := by decide +kernel
theorem dX0_traceWay_75 : decode cX0_traceWay 75 = .ok (.iadd, 1) := by decide +kernel
theorem dX0_traceWay_76 : decode cX0_traceWay 76 = .ok (.putfield 55, 3) := by decide +kernel
theorem dX0_traceWay_79 : decode cX0_traceWay 79 = .ok (.aload_n 0, 1) := by decide +kernel
theorem dX0_traceWay_80 : decode cX0_traceWay 80 = .ok (.aload_n 0, 1) := by decide +kernel
theorem dX0_traceWay_81 : decode cX0_traceWay 81 = .ok (.getfield 18, 3) := by decide +kernel
theorem dX0_traceWay_84 : decode cX0_traceWay 84 = .ok (.iload_n 1, 1) := by decide +kernel
theorem dX0_traceWay_85 : decode cX0_traceWay 85 = .ok (.iaload, 1) := by decide +kernel
theorem dX0_traceWay_86 : decode cX0_traceWay 86 = .ok (.putfield 58, 3) := by decide +kernel
theorem dX0_traceWay_89 : decode cX0_traceWay 89 = .ok (.aload_n 0, 1) := by decide +kernel
theorem dX0_traceWay_90 : decode cX0_traceWay 90 = .ok (.getfield 15, 3) := by decide +kernel
theorem dX0_traceWay_93 : decode cX0_traceWay 93 = .ok (.iload_n 1, 1) := by decide +kernel
theorem dX0_traceWay_94 : decode cX0_traceWay 94 = .ok (.iaload, 1) := by decide +kernel
theorem dX0_traceWay_95 : decode cX0_traceWay 95 = .ok (.istore_n 1, 1) := by decide +kernel
theorem dX0_traceWay_96 : decode cX0_traceWay 96 = .ok (.iinc 2 1, 3) := by decide +kernel
theorem dX0_traceWay_99 : decode cX0_traceWay 99 = .ok (.goto (-65), 3) := by decide +kernel
theorem dX0_traceWay_102 : decode cX0_traceWay 102 = .ok (.return_, 1) := by decide +kernel
theorem dX0_isFound_0 : decode cX0_isFound 0 = .ok (.iload_n 1, 1) := by decide +kernel
theorem dX0_isFound_1 : decode cX0_isFound 1 = .ok (.ifCond .lt 22, 3) := by decide +kernel
theorem dX0_isFound_4 : decode cX0_isFound 4 = .ok (.iload_n 1, 1) := by decide +kernel
theorem dX0_isFound_5 : decode cX0_isFound 5 = .ok (.aload_n 0, 1) := by decide +kernel
theorem dX0_isFound_6 : decode cX0_isFound 6 = .ok (.getfield 28, 3) := by decide +kernel
theorem dX0_isFound_9 : decode cX0_isFound 9 = .ok (.if_icmp .ge 14, 3) := by decide +kernel
theorem dX0_isFound_12 : decode cX0_isFound 12 = .ok (.iload_n 1, 1) := by decide +kernel
theorem dX0_isFound_13 : decode cX0_isFound 13 = .ok (.sipush 800, 3) := by decide +kernel
theorem dX0_isFound_16 : decode cX0_isFound 16 = .ok (.if_icmp .ge 7, 3) := by decide +kernel
theorem dX0_isFound_19 : decode cX0_isFound 19 = .ok (.iconst 1, 1) := by decide +kernel
theorem dX0_isFound_20 : decode cX0_isFound 20 = .ok (.goto 4, 3) := by decide +kernel
theorem dX0_isFound_23 : decode cX0_isFound 23 = .ok (.iconst 0, 1) := by decide +kernel
theorem dX0_isFound_24 : decode cX0_isFound 24 = .ok (.ireturn, 1) := by decide +kernel
set_option maxRecDepth 20000 in
theorem ggX0_addReachedFrom_X0_isFound : GoodIn wsX0_addReachedFrom wsX0_isFound := goodIn_r _ [7, 8, 65, 66, 67, 68, 69, 70, 71, 72, 73, 74] (by decide +kernel) (by decide +kernel)
set_option maxRecDepth 20000 in
theorem gX0_addReachedFrom_X0_isFound : GoodIn wsX0_addReachedFrom (wsV RX0 61 RX0 yX0_isFound wsX0_isFound) := goodIn_app (goodIn_of _ (by decide +kernel)) ggX0_addReachedFrom_X0_isFound
set_option maxRecDepth 20000 in
theorem ggX0_addReachedFrom_X1_filledIn : GoodIn wsX0_addReachedFrom wsX1_filledIn := goodIn_r _ [13, 14, 15, 16, 17, 12, 18, 19, 20, 21, 22, 23, 24, 25, 26, 27, 75, 76, 77, 78, 79, 80] (by decide +kernel) (by decide +kernel)
set_option maxRecDepth 20000 in
theorem gX0_addReachedFrom_X1_filledIn : GoodIn wsX0_addReachedFrom (wsV RX0 78 RX1 yX1_filledIn wsX1_filledIn) := goodIn_app (goodIn_of _ (by decide +kernel)) ggX0_addReachedFrom_X1_filledIn
set_option maxRecDepth 20000 in
theorem ggX0_addReachedFrom_X1_count : GoodIn wsX0_addReachedFrom wsX1_count := goodIn_r _ [31, 14, 75, 76, 77, 78, 79, 80] (by decide +kernel) (by decide +kernel)
set_option maxRecDepth 20000 in
theorem gX0_addReachedFrom_X1_count : GoodIn wsX0_addReachedFrom (wsV RX0 84 RX1 yX1_count wsX1_count) := goodIn_app (goodIn_of _ (by decide +kernel)) ggX0_addReachedFrom_X1_count
set_option maxRecDepth 20000 in
theorem ggX0_addReachedFrom_X1_wayIn : GoodIn wsX0_addReachedFrom wsX1_wayIn := goodIn_r _ [35, 36, 19, 37, 21, 22, 23, 12, 24, 14, 25, 26, 27, 15, 16, 17, 18, 20, 38, 39, 40, 41, 42, 75, 76, 77, 78, 79, 80] (by decide +kernel) (by decide +kernel)
set_option maxRecDepth 20000 in
theorem gX0_addReachedFrom_X1_wayIn : GoodIn wsX0_addReachedFrom (wsV RX0 88 RX1 yX1_wayIn wsX1_wayIn) := goodIn_app (goodIn_of _ (by decide +kernel)) ggX0_addReachedFrom_X1_wayIn
set_option maxRecDepth 20000 in
theorem ggX0_addReachedFrom_X0_addDriven : GoodIn wsX0_addReachedFrom wsX0_addDriven := goodIn_r _ [46, 1, 3, 4, 5, 6, 7, 8, 47, 26, 48, 49, 50, 51, 52, 53, 54, 55, 56, 57, 58, 59, 60, 61, 62, 63, 64, 25, 27, 65, 66, 67, 68, 69, 70, 71, 72, 73, 74] (by decide +kernel) (by decide +kernel)
set_option maxRecDepth 20000 in
theorem gX0_addReachedFrom_X0_addDriven : GoodIn wsX0_addReachedFrom (wsV RX0 92 RX0 yX0_addDriven wsX0_addDriven) := goodIn_app (goodIn_of _ (by decide +kernel)) ggX0_addReachedFrom_X0_addDriven
theorem dX0_addReachedFrom_0 : decode cX0_addReachedFrom 0 = .ok (.aload_n 0, 1) := by decide +kernel
theorem dX0_addReachedFrom_1 : decode cX0_addReachedFrom 1 = .ok (.iload_n 1, 1) := by decide +kernel
theorem dX0_addReachedFrom_2 : decode cX0_addReachedFrom 2 = .ok (.invokevirtual 61, 3) := by decide +kernel
theorem dX0_addReachedFrom_5 : decode cX0_addReachedFrom 5 = .ok (.ifCond .ne 4, 3) := by decide +kernel
theorem dX0_addReachedFrom_8 : decode cX0_addReachedFrom 8 = .ok (.return_, 1) := by decide +kernel
theorem dX0_addReachedFrom_9 : decode cX0_addReachedFrom 9 = .ok (.aload_n 0, 1) := by decide +kernel
theorem dX0_addReachedFrom_10 : decode cX0_addReachedFrom 10 = .ok (.getfield 9, 3) := by decide +kernel
theorem dX0_addReachedFrom_13 : decode cX0_addReachedFrom 13 = .ok (.iload_n 1, 1) := by decide +kernel
theorem dX0_addReachedFrom_14 : decode cX0_addReachedFrom 14 = .ok (.iaload, 1) := by decide +kernel
theorem dX0_addReachedFrom_15 : decode cX0_addReachedFrom 15 = .ok (.istore_n 2, 1) := by decide +kernel
theorem dX0_addReachedFrom_16 : decode cX0_addReachedFrom 16 = .ok (.aload_n 0, 1) := by decide +kernel
theorem dX0_addReachedFrom_17 : decode cX0_addReachedFrom 17 = .ok (.getfield 24, 3) := by decide +kernel
theorem dX0_addReachedFrom_20 : decode cX0_addReachedFrom 20 = .ok (.iload_n 2, 1) := by decide +kernel
theorem dX0_addReachedFrom_21 : decode cX0_addReachedFrom 21 = .ok (.invokevirtual 78, 3) := by decide +kernel
theorem dX0_addReachedFrom_24 : decode cX0_addReachedFrom 24 = .ok (.lstore_n 3, 1) := by decide +kernel
theorem dX0_addReachedFrom_25 : decode cX0_addReachedFrom 25 = .ok (.iconst 0, 1) := by decide +kernel
theorem dX0_addReachedFrom_26 : decode cX0_addReachedFrom 26 = .ok (.istore 5, 2) := by decide +kernel
theorem dX0_addReachedFrom_28 : decode cX0_addReachedFrom 28 = .ok (.iload 5, 2) := by decide +kernel
theorem dX0_addReachedFrom_30 : decode cX0_addReachedFrom 30 = .ok (.aload_n 0, 1) := by decide +kernel
theorem dX0_addReachedFrom_31 : decode cX0_addReachedFrom 31 = .ok (.getfield 24, 3) := by decide +kernel
theorem dX0_addReachedFrom_34 : decode cX0_addReachedFrom 34 = .ok (.invokevirtual 84, 3) := by decide +kernel
theorem dX0_addReachedFrom_37 : decode cX0_addReachedFrom 37 = .ok (.if_icmp .ge 49, 3) := by decide +kernel
theorem dX0_addReachedFrom_40 : decode cX0_addReachedFrom 40 = .ok (.aload_n 0, 1) := by decide +kernel
theorem dX0_addReachedFrom_41 : decode cX0_addReachedFrom 41 = .ok (.iload_n 1, 1) := by decide +kernel
theorem dX0_addReachedFrom_42 : decode cX0_addReachedFrom 42 = .ok (.iload 5, 2) := by decide +kernel
theorem dX0_addReachedFrom_44 : decode cX0_addReachedFrom 44 = .ok (.iconst (-1), 1) := by decide +kernel
theorem dX0_addReachedFrom_45 : decode cX0_addReachedFrom 45 = .ok (.aload_n 0, 1) := by decide +kernel
theorem dX0_addReachedFrom_46 : decode cX0_addReachedFrom 46 = .ok (.getfield 24, 3) := by decide +kernel
theorem dX0_addReachedFrom_49 : decode cX0_addReachedFrom 49 = .ok (.iload_n 2, 1) := by decide +kernel
theorem dX0_addReachedFrom_50 : decode cX0_addReachedFrom 50 = .ok (.lload_n 3, 1) := by decide +kernel
theorem dX0_addReachedFrom_51 : decode cX0_addReachedFrom 51 = .ok (.iload 5, 2) := by decide +kernel
theorem dX0_addReachedFrom_53 : decode cX0_addReachedFrom 53 = .ok (.iconst (-1), 1) := by decide +kernel
theorem dX0_addReachedFrom_54 : decode cX0_addReachedFrom 54 = .ok (.invokevirtual 88, 3) := by decide +kernel
theorem dX0_addReachedFrom_57 : decode cX0_addReachedFrom 57 = .ok (.invokevirtual 92, 3) := by decide +kernel
theorem dX0_addReachedFrom_60 : decode cX0_addReachedFrom 60 = .ok (.aload_n 0, 1) := by decide +kernel
theorem dX0_addReachedFrom_61 : decode cX0_addReachedFrom 61 = .ok (.iload_n 1, 1) := by decide +kernel
theorem dX0_addReachedFrom_62 : decode cX0_addReachedFrom 62 = .ok (.iload 5, 2) := by decide +kernel
theorem dX0_addReachedFrom_64 : decode cX0_addReachedFrom 64 = .ok (.iconst 1, 1) := by decide +kernel
theorem dX0_addReachedFrom_65 : decode cX0_addReachedFrom 65 = .ok (.aload_n 0, 1) := by decide +kernel
theorem dX0_addReachedFrom_66 : decode cX0_addReachedFrom 66 = .ok (.getfield 24, 3) := by decide +kernel
theorem dX0_addReachedFrom_69 : decode cX0_addReachedFrom 69 = .ok (.iload_n 2, 1) := by decide +kernel
theorem dX0_addReachedFrom_70 : decode cX0_addReachedFrom 70 = .ok (.lload_n 3, 1) := by decide +kernel
theorem dX0_addReachedFrom_71 : decode cX0_addReachedFrom 71 = .ok (.iload 5, 2) := by decide +kernel
theorem dX0_addReachedFrom_73 : decode cX0_addReachedFrom 73 = .ok (.iconst 1, 1) := by decide +kernel
theorem dX0_addReachedFrom_74 : decode cX0_addReachedFrom 74 = .ok (.invokevirtual 88, 3) := by decide +kernel
theorem dX0_addReachedFrom_77 : decode cX0_addReachedFrom 77 = .ok (.invokevirtual 92, 3) := by decide +kernel
theorem dX0_addReachedFrom_80 : decode cX0_addReachedFrom 80 = .ok (.iinc 5 1, 3) := by decide +kernel
theorem dX0_addReachedFrom_83 : decode cX0_addReachedFrom 83 = .ok (.goto (-55), 3) := by decide +kernel
theorem dX0_addReachedFrom_86 : decode cX0_addReachedFrom 86 = .ok (.return_, 1) := by decide +kernel
set_option maxRecDepth 20000 in
theorem ggX0_addDriven_X0_isFound : GoodIn wsX0_addDriven wsX0_isFound := goodIn_r _ [6, 7, 29, 30, 31, 32, 33, 34, 35, 36, 37, 38] (by decide +kernel) (by decide +kernel)
set_option maxRecDepth 20000 in
theorem gX0_addDriven_X0_isFound : GoodIn wsX0_addDriven (wsV RX0 61 RX0 yX0_isFound wsX0_isFound) := goodIn_app (goodIn_of _ (by decide +kernel)) ggX0_addDriven_X0_isFound
set_option maxRecDepth 20000 in
theorem ggX0_addDriven_X2_moved : GoodIn wsX0_addDriven wsX2_moved := goodIn_r _ [10] (by decide +kernel) (by decide +kernel)
set_option maxRecDepth 20000 in
theorem gX0_addDriven_X2_moved_n96 : GoodIn wsX0_addDriven (wsX2_moved) := ggX0_addDriven_X2_moved
set_option maxRecDepth 20000 in
theorem ggX0_addDriven_X0_codeOfMove : GoodIn wsX0_addDriven wsX0_codeOfMove := goodIn_r _ [13] (by decide +kernel) (by decide +kernel)
set_option maxRecDepth 20000 in
theorem gX0_addDriven_X0_codeOfMove : GoodIn wsX0_addDriven (va_wsS RX0 100 yX0_codeOfMove wsX0_codeOfMove) := goodIn_app (goodIn_of _ (by decide +kernel)) ggX0_addDriven_X0_codeOfMove
set_option maxRecDepth 20000 in
theorem ggX0_addDriven_X0_addIfNew : GoodIn wsX0_addDriven wsX0_addIfNew := goodIn_r _ [17, 7, 18, 1, 19, 20, 21, 22, 23, 24, 5, 25, 26, 27, 9, 28, 29, 30, 31, 32, 33, 34, 35, 36, 37, 38] (by decide +kernel) (by decide +kernel)
set_option maxRecDepth 20000 in
theorem gX0_addDriven_X0_addIfNew : GoodIn wsX0_addDriven (wsV RX0 41 RX0 yX0_addIfNew wsX0_addIfNew) := goodIn_app (goodIn_of _ (by decide +kernel)) ggX0_addDriven_X0_addIfNew
theorem dX0_addDriven_0 : decode cX0_addDriven 0 = .ok (.aload_n 0, 1) := by decide +kernel
theorem dX0_addDriven_1 : decode cX0_addDriven 1 = .ok (.iload_n 1, 1) := by decide +kernel
theorem dX0_addDriven_2 : decode cX0_addDriven 2 = .ok (.invokevirtual 61, 3) := by decide +kernel
theorem dX0_addDriven_5 : decode cX0_addDriven 5 = .ok (.ifCond .ne 4, 3) := by decide +kernel
theorem dX0_addDriven_8 : decode cX0_addDriven 8 = .ok (.return_, 1) := by decide +kernel
theorem dX0_addDriven_9 : decode cX0_addDriven 9 = .ok (.iconst 1, 1) := by decide +kernel
theorem dX0_addDriven_10 : decode cX0_addDriven 10 = .ok (.istore 5, 2) := by decide +kernel
theorem dX0_addDriven_12 : decode cX0_addDriven 12 = .ok (.iload 5, 2) := by decide +kernel
theorem dX0_addDriven_14 : decode cX0_addDriven 14 = .ok (.iload 4, 2) := by decide +kernel
theorem dX0_addDriven_16 : decode cX0_addDriven 16 = .ok (.if_icmp .gt 44, 3) := by decide +kernel
theorem dX0_addDriven_19 : decode cX0_addDriven 19 = .ok (.iload 5, 2) := by decide +kernel
theorem dX0_addDriven_21 : decode cX0_addDriven 21 = .ok (.iconst 4, 1) := by decide +kernel
theorem dX0_addDriven_22 : decode cX0_addDriven 22 = .ok (.if_icmp .gt 38, 3) := by decide +kernel
theorem dX0_addDriven_25 : decode cX0_addDriven 25 = .ok (.iload_n 3, 1) := by decide +kernel
theorem dX0_addDriven_26 : decode cX0_addDriven 26 = .ok (.iload 5, 2) := by decide +kernel
theorem dX0_addDriven_28 : decode cX0_addDriven 28 = .ok (.imul, 1) := by decide +kernel
theorem dX0_addDriven_29 : decode cX0_addDriven 29 = .ok (.istore 6, 2) := by decide +kernel
theorem dX0_addDriven_31 : decode cX0_addDriven 31 = .ok (.aload_n 0, 1) := by decide +kernel
theorem dX0_addDriven_32 : decode cX0_addDriven 32 = .ok (.aload_n 0, 1) := by decide +kernel
theorem dX0_addDriven_33 : decode cX0_addDriven 33 = .ok (.getfield 9, 3) := by decide +kernel
theorem dX0_addDriven_36 : decode cX0_addDriven 36 = .ok (.iload_n 1, 1) := by decide +kernel
theorem dX0_addDriven_37 : decode cX0_addDriven 37 = .ok (.iaload, 1) := by decide +kernel
theorem dX0_addDriven_38 : decode cX0_addDriven 38 = .ok (.iload_n 2, 1) := by decide +kernel
theorem dX0_addDriven_39 : decode cX0_addDriven 39 = .ok (.iload 6, 2) := by decide +kernel
theorem dX0_addDriven_41 : decode cX0_addDriven 41 = .ok (.invokestatic 96, 3) := by decide +kernel
theorem dX0_addDriven_44 : decode cX0_addDriven 44 = .ok (.iload_n 1, 1) := by decide +kernel
theorem dX0_addDriven_45 : decode cX0_addDriven 45 = .ok (.iload_n 2, 1) := by decide +kernel
theorem dX0_addDriven_46 : decode cX0_addDriven 46 = .ok (.iload 6, 2) := by decide +kernel
theorem dX0_addDriven_48 : decode cX0_addDriven 48 = .ok (.invokestatic 100, 3) := by decide +kernel
theorem dX0_addDriven_51 : decode cX0_addDriven 51 = .ok (.invokevirtual 41, 3) := by decide +kernel
theorem dX0_addDriven_54 : decode cX0_addDriven 54 = .ok (.iinc 5 1, 3) := by decide +kernel
theorem dX0_addDriven_57 : decode cX0_addDriven 57 = .ok (.goto (-45), 3) := by decide +kernel
theorem dX0_addDriven_60 : decode cX0_addDriven 60 = .ok (.return_, 1) := by decide +kernel
set_option maxRecDepth 20000 in
theorem ggX0_addIfNew_X0_slotFor : GoodIn wsX0_addIfNew wsX0_slotFor := goodIn_r _ [11, 12, 2, 3, 16, 17, 18, 19, 20, 21, 22, 23, 24, 25] (by decide +kernel) (by decide +kernel)
set_option maxRecDepth 20000 in
theorem gX0_addIfNew_X0_slotFor : GoodIn wsX0_addIfNew (wsV RX0 103 RX0 yX0_slotFor wsX0_slotFor) := goodIn_app (goodIn_of _ (by decide +kernel)) ggX0_addIfNew_X0_slotFor
set_option maxRecDepth 20000 in
theorem ggX0_addIfNew_X2_placeIn : GoodIn wsX0_addIfNew wsX2_placeIn := goodIn_r _ [15] (by decide +kernel) (by decide +kernel)
set_option maxRecDepth 20000 in
theorem gX0_addIfNew_X2_placeIn_n65 : GoodIn wsX0_addIfNew (wsX2_placeIn) := ggX0_addIfNew_X2_placeIn
theorem dX0_addIfNew_0 : decode cX0_addIfNew 0 = .ok (.aload_n 0, 1) := by decide +kernel
theorem dX0_addIfNew_1 : decode cX0_addIfNew 1 = .ok (.getfield 28, 3) := by decide +kernel
theorem dX0_addIfNew_4 : decode cX0_addIfNew 4 = .ok (.istore 4, 2) := by decide +kernel
theorem dX0_addIfNew_6 : decode cX0_addIfNew 6 = .ok (.aload_n 0, 1) := by decide +kernel
theorem dX0_addIfNew_7 : decode cX0_addIfNew 7 = .ok (.iload_n 1, 1) := by decide +kernel
theorem dX0_addIfNew_8 : decode cX0_addIfNew 8 = .ok (.invokevirtual 103, 3) := by decide +kernel
theorem dX0_addIfNew_11 : decode cX0_addIfNew 11 = .ok (.istore 5, 2) := by decide +kernel
theorem dX0_addIfNew_13 : decode cX0_addIfNew 13 = .ok (.iload 4, 2) := by decide +kernel
theorem dX0_addIfNew_15 : decode cX0_addIfNew 15 = .ok (.ifCond .lt 34, 3) := by decide +kernel
theorem dX0_addIfNew_18 : decode cX0_addIfNew 18 = .ok (.iload 4, 2) := by decide +kernel
theorem dX0_addIfNew_20 : decode cX0_addIfNew 20 = .ok (.sipush 800, 3) := by decide +kernel
theorem dX0_addIfNew_23 : decode cX0_addIfNew 23 = .ok (.if_icmp .ge 26, 3) := by decide +kernel
theorem dX0_addIfNew_26 : decode cX0_addIfNew 26 = .ok (.iload 5, 2) := by decide +kernel
theorem dX0_addIfNew_28 : decode cX0_addIfNew 28 = .ok (.ifCond .lt 21, 3) := by decide +kernel
theorem dX0_addIfNew_31 : decode cX0_addIfNew 31 = .ok (.iload 5, 2) := by decide +kernel
theorem dX0_addIfNew_33 : decode cX0_addIfNew 33 = .ok (.sipush 2048, 3) := by decide +kernel
theorem dX0_addIfNew_36 : decode cX0_addIfNew 36 = .ok (.if_icmp .ge 13, 3) := by decide +kernel
theorem dX0_addIfNew_39 : decode cX0_addIfNew 39 = .ok (.aload_n 0, 1) := by decide +kernel
theorem dX0_addIfNew_40 : decode cX0_addIfNew 40 = .ok (.getfield 21, 3) := by decide +kernel
theorem dX0_addIfNew_43 : decode cX0_addIfNew 43 = .ok (.iload 5, 2) := by decide +kernel
theorem dX0_addIfNew_45 : decode cX0_addIfNew 45 = .ok (.iaload, 1) := by decide +kernel
theorem dX0_addIfNew_46 : decode cX0_addIfNew 46 = .ok (.ifCond .eq 4, 3) := by decide +kernel
theorem dX0_addIfNew_49 : decode cX0_addIfNew 49 = .ok (.return_, 1) := by decide +kernel
theorem dX0_addIfNew_50 : decode cX0_addIfNew 50 = .ok (.aload_n 0, 1) := by decide +kernel
theorem dX0_addIfNew_51 : decode cX0_addIfNew 51 = .ok (.getfield 21, 3) := by decide +kernel
theorem dX0_addIfNew_54 : decode cX0_addIfNew 54 = .ok (.iload 5, 2) := by decide +kernel
theorem dX0_addIfNew_56 : decode cX0_addIfNew 56 = .ok (.iload 4, 2) := by decide +kernel
theorem dX0_addIfNew_58 : decode cX0_addIfNew 58 = .ok (.iconst 1, 1) := by decide +kernel
theorem dX0_addIfNew_59 : decode cX0_addIfNew 59 = .ok (.iadd, 1) := by decide +kernel
theorem dX0_addIfNew_60 : decode cX0_addIfNew 60 = .ok (.iastore, 1) := by decide +kernel
theorem dX0_addIfNew_61 : decode cX0_addIfNew 61 = .ok (.aload_n 0, 1) := by decide +kernel
theorem dX0_addIfNew_62 : decode cX0_addIfNew 62 = .ok (.getfield 9, 3) := by decide +kernel
theorem dX0_addIfNew_65 : decode cX0_addIfNew 65 = .ok (.iload 4, 2) := by decide +kernel
theorem dX0_addIfNew_67 : decode cX0_addIfNew 67 = .ok (.iload_n 1, 1) := by decide +kernel
theorem dX0_addIfNew_68 : decode cX0_addIfNew 68 = .ok (.iastore, 1) := by decide +kernel
theorem dX0_addIfNew_69 : decode cX0_addIfNew 69 = .ok (.aload_n 0, 1) := by decide +kernel
theorem dX0_addIfNew_70 : decode cX0_addIfNew 70 = .ok (.getfield 15, 3) := by decide +kernel
theorem dX0_addIfNew_73 : decode cX0_addIfNew 73 = .ok (.iload 4, 2) := by decide +kernel
theorem dX0_addIfNew_75 : decode cX0_addIfNew 75 = .ok (.iload_n 2, 1) := by decide +kernel
theorem dX0_addIfNew_76 : decode cX0_addIfNew 76 = .ok (.iastore, 1) := by decide +kernel
theorem dX0_addIfNew_77 : decode cX0_addIfNew 77 = .ok (.aload_n 0, 1) := by decide +kernel
theorem dX0_addIfNew_78 : decode cX0_addIfNew 78 = .ok (.getfield 18, 3) := by decide +kernel
theorem dX0_addIfNew_81 : decode cX0_addIfNew 81 = .ok (.iload 4, 2) := by decide +kernel
theorem dX0_addIfNew_83 : decode cX0_addIfNew 83 = .ok (.iload_n 3, 1) := by decide +kernel
theorem dX0_addIfNew_84 : decode cX0_addIfNew 84 = .ok (.iastore, 1) := by decide +kernel
theorem dX0_addIfNew_85 : decode cX0_addIfNew 85 = .ok (.aload_n 0, 1) := by decide +kernel
theorem dX0_addIfNew_86 : decode cX0_addIfNew 86 = .ok (.iload 4, 2) := by decide +kernel
theorem dX0_addIfNew_88 : decode cX0_addIfNew 88 = .ok (.iconst 1, 1) := by decide +kernel
theorem dX0_addIfNew_89 : decode cX0_addIfNew 89 = .ok (.iadd, 1) := by decide +kernel
theorem dX0_addIfNew_90 : decode cX0_addIfNew 90 = .ok (.putfield 28, 3) := by decide +kernel
theorem dX0_addIfNew_93 : decode cX0_addIfNew 93 = .ok (.aload_n 0, 1) := by decide +kernel
theorem dX0_addIfNew_94 : decode cX0_addIfNew 94 = .ok (.getfield 38, 3) := by decide +kernel
theorem dX0_addIfNew_97 : decode cX0_addIfNew 97 = .ok (.iconst (-1), 1) := by decide +kernel
theorem dX0_addIfNew_98 : decode cX0_addIfNew 98 = .ok (.if_icmp .ne 18, 3) := by decide +kernel
theorem dX0_addIfNew_101 : decode cX0_addIfNew 101 = .ok (.iload_n 1, 1) := by decide +kernel
theorem dX0_addIfNew_102 : decode cX0_addIfNew 102 = .ok (.iconst 0, 1) := by decide +kernel
theorem dX0_addIfNew_103 : decode cX0_addIfNew 103 = .ok (.invokestatic 65, 3) := by decide +kernel
theorem dX0_addIfNew_106 : decode cX0_addIfNew 106 = .ok (.iconst 4, 1) := by decide +kernel
theorem dX0_addIfNew_107 : decode cX0_addIfNew 107 = .ok (.if_icmp .ne 9, 3) := by decide +kernel
theorem dX0_addIfNew_110 : decode cX0_addIfNew 110 = .ok (.aload_n 0, 1) := by decide +kernel
theorem dX0_addIfNew_111 : decode cX0_addIfNew 111 = .ok (.iload 4, 2) := by decide +kernel
theorem dX0_addIfNew_113 : decode cX0_addIfNew 113 = .ok (.putfield 38, 3) := by decide +kernel
theorem dX0_addIfNew_116 : decode cX0_addIfNew 116 = .ok (.return_, 1) := by decide +kernel
theorem dX0_slotFor_0 : decode cX0_slotFor 0 = .ok (.iload_n 1, 1) := by decide +kernel
theorem dX0_slotFor_1 : decode cX0_slotFor 1 = .ok (.ldc 106, 2) := by decide +kernel
theorem dX0_slotFor_3 : decode cX0_slotFor 3 = .ok (.imul, 1) := by decide +kernel
theorem dX0_slotFor_4 : decode cX0_slotFor 4 = .ok (.bipush 21, 2) := by decide +kernel
theorem dX0_slotFor_6 : decode cX0_slotFor 6 = .ok (.iushr, 1) := by decide +kernel
theorem dX0_slotFor_7 : decode cX0_slotFor 7 = .ok (.istore_n 2, 1) := by decide +kernel
theorem dX0_slotFor_8 : decode cX0_slotFor 8 = .ok (.iconst 0, 1) := by decide +kernel
theorem dX0_slotFor_9 : decode cX0_slotFor 9 = .ok (.istore_n 3, 1) := by decide +kernel
theorem dX0_slotFor_10 : decode cX0_slotFor 10 = .ok (.iload_n 3, 1) := by decide +kernel
theorem dX0_slotFor_11 : decode cX0_slotFor 11 = .ok (.sipush 2048, 3) := by decide +kernel
theorem dX0_slotFor_14 : decode cX0_slotFor 14 = .ok (.if_icmp .ge 56, 3) := by decide +kernel
theorem dX0_slotFor_17 : decode cX0_slotFor 17 = .ok (.iload_n 2, 1) := by decide +kernel
theorem dX0_slotFor_18 : decode cX0_slotFor 18 = .ok (.iload_n 3, 1) := by decide +kernel
theorem dX0_slotFor_19 : decode cX0_slotFor 19 = .ok (.iadd, 1) := by decide +kernel
theorem dX0_slotFor_20 : decode cX0_slotFor 20 = .ok (.sipush 2047, 3) := by decide +kernel
theorem dX0_slotFor_23 : decode cX0_slotFor 23 = .ok (.iand, 1) := by decide +kernel
theorem dX0_slotFor_24 : decode cX0_slotFor 24 = .ok (.istore 4, 2) := by decide +kernel
theorem dX0_slotFor_26 : decode cX0_slotFor 26 = .ok (.aload_n 0, 1) := by decide +kernel
theorem dX0_slotFor_27 : decode cX0_slotFor 27 = .ok (.getfield 21, 3) := by decide +kernel
theorem dX0_slotFor_30 : decode cX0_slotFor 30 = .ok (.iload 4, 2) := by decide +kernel
theorem dX0_slotFor_32 : decode cX0_slotFor 32 = .ok (.iaload, 1) := by decide +kernel
theorem dX0_slotFor_33 : decode cX0_slotFor 33 = .ok (.iconst 1, 1) := by decide +kernel
theorem dX0_slotFor_34 : decode cX0_slotFor 34 = .ok (.isub, 1) := by decide +kernel
theorem dX0_slotFor_35 : decode cX0_slotFor 35 = .ok (.istore 5, 2) := by decide +kernel
theorem dX0_slotFor_37 : decode cX0_slotFor 37 = .ok (.iload 5, 2) := by decide +kernel
theorem dX0_slotFor_39 : decode cX0_slotFor 39 = .ok (.ifCond .lt 22, 3) := by decide +kernel
theorem dX0_slotFor_42 : decode cX0_slotFor 42 = .ok (.iload 5, 2) := by decide +kernel
theorem dX0_slotFor_44 : decode cX0_slotFor 44 = .ok (.sipush 800, 3) := by decide +kernel
theorem dX0_slotFor_47 : decode cX0_slotFor 47 = .ok (.if_icmp .ge 14, 3) := by decide +kernel
theorem dX0_slotFor_50 : decode cX0_slotFor 50 = .ok (.aload_n 0, 1) := by decide +kernel
theorem dX0_slotFor_51 : decode cX0_slotFor 51 = .ok (.getfield 9, 3) := by decide +kernel
theorem dX0_slotFor_54 : decode cX0_slotFor 54 = .ok (.iload 5, 2) := by decide +kernel
theorem dX0_slotFor_56 : decode cX0_slotFor 56 = .ok (.iaload, 1) := by decide +kernel
theorem dX0_slotFor_57 : decode cX0_slotFor 57 = .ok (.iload_n 1, 1) := by decide +kernel
theorem dX0_slotFor_58 : decode cX0_slotFor 58 = .ok (.if_icmp .ne 6, 3) := by decide +kernel
theorem dX0_slotFor_61 : decode cX0_slotFor 61 = .ok (.iload 4, 2) := by decide +kernel
theorem dX0_slotFor_63 : decode cX0_slotFor 63 = .ok (.ireturn, 1) := by decide +kernel
theorem dX0_slotFor_64 : decode cX0_slotFor 64 = .ok (.iinc 3 1, 3) := by decide +kernel
theorem dX0_slotFor_67 : decode cX0_slotFor 67 = .ok (.goto (-57), 3) := by decide +kernel
theorem dX0_slotFor_70 : decode cX0_slotFor 70 = .ok (.iconst (-1), 1) := by decide +kernel
theorem dX0_slotFor_71 : decode cX0_slotFor 71 = .ok (.ireturn, 1) := by decide +kernel
theorem dX0_codeOfMove_0 : decode cX0_codeOfMove 0 = .ok (.bipush 10, 2) := by decide +kernel
theorem dX0_codeOfMove_2 : decode cX0_codeOfMove 2 = .ok (.iload_n 0, 1) := by decide +kernel
theorem dX0_codeOfMove_3 : decode cX0_codeOfMove 3 = .ok (.imul, 1) := by decide +kernel
theorem dX0_codeOfMove_4 : decode cX0_codeOfMove 4 = .ok (.iload_n 1, 1) := by decide +kernel
theorem dX0_codeOfMove_5 : decode cX0_codeOfMove 5 = .ok (.iadd, 1) := by decide +kernel
theorem dX0_codeOfMove_6 : decode cX0_codeOfMove 6 = .ok (.iconst 4, 1) := by decide +kernel
theorem dX0_codeOfMove_7 : decode cX0_codeOfMove 7 = .ok (.iadd, 1) := by decide +kernel
theorem dX0_codeOfMove_8 : decode cX0_codeOfMove 8 = .ok (.ireturn, 1) := by decide +kernel
theorem dX0_cellsOfMove_0 : decode cX0_cellsOfMove 0 = .ok (.iload_n 0, 1) := by decide +kernel
theorem dX0_cellsOfMove_1 : decode cX0_cellsOfMove 1 = .ok (.bipush 10, 2) := by decide +kernel
theorem dX0_cellsOfMove_3 : decode cX0_cellsOfMove 3 = .ok (.irem, 1) := by decide +kernel
theorem dX0_cellsOfMove_4 : decode cX0_cellsOfMove 4 = .ok (.iconst 4, 1) := by decide +kernel
theorem dX0_cellsOfMove_5 : decode cX0_cellsOfMove 5 = .ok (.isub, 1) := by decide +kernel
theorem dX0_cellsOfMove_6 : decode cX0_cellsOfMove 6 = .ok (.ireturn, 1) := by decide +kernel
theorem dX1_init_0 : decode cX1_init 0 = .ok (.aload_n 0, 1) := by decide +kernel
theorem dX1_init_1 : decode cX1_init 1 = .ok (.invokespecial 3, 3) := by decide +kernel
theorem dX1_init_4 : decode cX1_init 4 = .ok (.aload_n 0, 1) := by decide +kernel
theorem dX1_init_5 : decode cX1_init 5 = .ok (.bipush 9, 2) := by decide +kernel
theorem dX1_init_7 : decode cX1_init 7 = .ok (.newarray .int, 2) := by decide +kernel
theorem dX1_init_9 : decode cX1_init 9 = .ok (.putfield 9, 3) := by decide +kernel
theorem dX1_init_12 : decode cX1_init 12 = .ok (.aload_n 0, 1) := by decide +kernel
theorem dX1_init_13 : decode cX1_init 13 = .ok (.bipush 9, 2) := by decide +kernel
theorem dX1_init_15 : decode cX1_init 15 = .ok (.newarray .boolean, 2) := by decide +kernel
theorem dX1_init_17 : decode cX1_init 17 = .ok (.putfield 15, 3) := by decide +kernel
theorem dX1_init_20 : decode cX1_init 20 = .ok (.aload_n 0, 1) := by decide +kernel
theorem dX1_init_21 : decode cX1_init 21 = .ok (.bipush 9, 2) := by decide +kernel
theorem dX1_init_23 : decode cX1_init 23 = .ok (.newarray .int, 2) := by decide +kernel
theorem dX1_init_25 : decode cX1_init 25 = .ok (.putfield 19, 3) := by decide +kernel
theorem dX1_init_28 : decode cX1_init 28 = .ok (.aload_n 0, 1) := by decide +kernel
theorem dX1_init_29 : decode cX1_init 29 = .ok (.bipush 9, 2) := by decide +kernel
theorem dX1_init_31 : decode cX1_init 31 = .ok (.newarray .long, 2) := by decide +kernel
theorem dX1_init_33 : decode cX1_init 33 = .ok (.putfield 22, 3) := by decide +kernel
theorem dX1_init_36 : decode cX1_init 36 = .ok (.return_, 1) := by decide +kernel
theorem dX1_count_0 : decode cX1_count 0 = .ok (.aload_n 0, 1) := by decide +kernel
theorem dX1_count_1 : decode cX1_count 1 = .ok (.getfield 26, 3) := by decide +kernel
theorem dX1_count_4 : decode cX1_count 4 = .ok (.ireturn, 1) := by decide +kernel
theorem dX1_has_0 : decode cX1_has 0 = .ok (.iload_n 1, 1) := by decide +kernel
theorem dX1_has_1 : decode cX1_has 1 = .ok (.ifCond .lt 21, 3) := by decide +kernel
theorem dX1_has_4 : decode cX1_has 4 = .ok (.iload_n 1, 1) := by decide +kernel
theorem dX1_has_5 : decode cX1_has 5 = .ok (.aload_n 0, 1) := by decide +kernel
theorem dX1_has_6 : decode cX1_has 6 = .ok (.getfield 26, 3) := by decide +kernel
theorem dX1_has_9 : decode cX1_has 9 = .ok (.if_icmp .ge 13, 3) := by decide +kernel
theorem dX1_has_12 : decode cX1_has 12 = .ok (.iload_n 1, 1) := by decide +kernel
theorem dX1_has_13 : decode cX1_has 13 = .ok (.bipush 9, 2) := by decide +kernel
theorem dX1_has_15 : decode cX1_has 15 = .ok (.if_icmp .ge 7, 3) := by decide +kernel
theorem dX1_has_18 : decode cX1_has 18 = .ok (.iconst 1, 1) := by decide +kernel
theorem dX1_has_19 : decode cX1_has 19 = .ok (.goto 4, 3) := by decide +kernel
theorem dX1_has_22 : decode cX1_has 22 = .ok (.iconst 0, 1) := by decide +kernel
theorem dX1_has_23 : decode cX1_has 23 = .ok (.ireturn, 1) := by decide +kernel
set_option maxRecDepth 20000 in
theorem ggX1_add_X2_cellsOf : GoodIn wsX1_add wsX2_cellsOf := goodIn_r _ [8, 9, 10, 7, 11] (by decide +kernel) (by decide +kernel)
set_option maxRecDepth 20000 in
theorem gX1_add_X2_cellsOf_n30 : GoodIn wsX1_add (wsX2_cellsOf) := ggX1_add_X2_cellsOf
theorem dX1_add_0 : decode cX1_add 0 = .ok (.aload_n 0, 1) := by decide +kernel
theorem dX1_add_1 : decode cX1_add 1 = .ok (.getfield 26, 3) := by decide +kernel
theorem dX1_add_4 : decode cX1_add 4 = .ok (.istore 4, 2) := by decide +kernel
theorem dX1_add_6 : decode cX1_add 6 = .ok (.iload 4, 2) := by decide +kernel
theorem dX1_add_8 : decode cX1_add 8 = .ok (.ifCond .lt 10, 3) := by decide +kernel
theorem dX1_add_11 : decode cX1_add 11 = .ok (.iload 4, 2) := by decide +kernel
theorem dX1_add_13 : decode cX1_add 13 = .ok (.bipush 9, 2) := by decide +kernel
theorem dX1_add_15 : decode cX1_add 15 = .ok (.if_icmp .lt 5, 3) := by decide +kernel
theorem dX1_add_18 : decode cX1_add 18 = .ok (.iconst (-1), 1) := by decide +kernel
theorem dX1_add_19 : decode cX1_add 19 = .ok (.ireturn, 1) := by decide +kernel
theorem dX1_add_20 : decode cX1_add 20 = .ok (.aload_n 0, 1) := by decide +kernel
theorem dX1_add_21 : decode cX1_add 21 = .ok (.getfield 9, 3) := by decide +kernel
theorem dX1_add_24 : decode cX1_add 24 = .ok (.iload 4, 2) := by decide +kernel
theorem dX1_add_26 : decode cX1_add 26 = .ok (.iload_n 1, 1) := by decide +kernel
theorem dX1_add_27 : decode cX1_add 27 = .ok (.iastore, 1) := by decide +kernel
theorem dX1_add_28 : decode cX1_add 28 = .ok (.aload_n 0, 1) := by decide +kernel
theorem dX1_add_29 : decode cX1_add 29 = .ok (.getfield 15, 3) := by decide +kernel
theorem dX1_add_32 : decode cX1_add 32 = .ok (.iload 4, 2) := by decide +kernel
theorem dX1_add_34 : decode cX1_add 34 = .ok (.iload_n 2, 1) := by decide +kernel
theorem dX1_add_35 : decode cX1_add 35 = .ok (.bastore, 1) := by decide +kernel
theorem dX1_add_36 : decode cX1_add 36 = .ok (.aload_n 0, 1) := by decide +kernel
theorem dX1_add_37 : decode cX1_add 37 = .ok (.getfield 19, 3) := by decide +kernel
theorem dX1_add_40 : decode cX1_add 40 = .ok (.iload 4, 2) := by decide +kernel
theorem dX1_add_42 : decode cX1_add 42 = .ok (.iload_n 3, 1) := by decide +kernel
theorem dX1_add_43 : decode cX1_add 43 = .ok (.iastore, 1) := by decide +kernel
theorem dX1_add_44 : decode cX1_add 44 = .ok (.aload_n 0, 1) := by decide +kernel
theorem dX1_add_45 : decode cX1_add 45 = .ok (.getfield 22, 3) := by decide +kernel
theorem dX1_add_48 : decode cX1_add 48 = .ok (.iload 4, 2) := by decide +kernel
theorem dX1_add_50 : decode cX1_add 50 = .ok (.iload_n 2, 1) := by decide +kernel
theorem dX1_add_51 : decode cX1_add 51 = .ok (.ifCond .eq 13, 3) := by decide +kernel
theorem dX1_add_54 : decode cX1_add 54 = .ok (.iload_n 1, 1) := by decide +kernel
theorem dX1_add_55 : decode cX1_add 55 = .ok (.iconst 1, 1) := by decide +kernel
theorem dX1_add_56 : decode cX1_add 56 = .ok (.iload_n 3, 1) := by decide +kernel
theorem dX1_add_57 : decode cX1_add 57 = .ok (.iconst 0, 1) := by decide +kernel
theorem dX1_add_58 : decode cX1_add 58 = .ok (.invokestatic 30, 3) := by decide +kernel
theorem dX1_add_61 : decode cX1_add 61 = .ok (.goto 10, 3) := by decide +kernel
theorem dX1_add_64 : decode cX1_add 64 = .ok (.iload_n 1, 1) := by decide +kernel
theorem dX1_add_65 : decode cX1_add 65 = .ok (.iconst 0, 1) := by decide +kernel
theorem dX1_add_66 : decode cX1_add 66 = .ok (.iconst 0, 1) := by decide +kernel
theorem dX1_add_67 : decode cX1_add 67 = .ok (.iload_n 3, 1) := by decide +kernel
theorem dX1_add_68 : decode cX1_add 68 = .ok (.invokestatic 30, 3) := by decide +kernel
theorem dX1_add_71 : decode cX1_add 71 = .ok (.lastore, 1) := by decide +kernel
theorem dX1_add_72 : decode cX1_add 72 = .ok (.aload_n 0, 1) := by decide +kernel
theorem dX1_add_73 : decode cX1_add 73 = .ok (.iload 4, 2) := by decide +kernel
theorem dX1_add_75 : decode cX1_add 75 = .ok (.iconst 1, 1) := by decide +kernel
theorem dX1_add_76 : decode cX1_add 76 = .ok (.iadd, 1) := by decide +kernel
theorem dX1_add_77 : decode cX1_add 77 = .ok (.putfield 26, 3) := by decide +kernel
theorem dX1_add_80 : decode cX1_add 80 = .ok (.iload 4, 2) := by decide +kernel
theorem dX1_add_82 : decode cX1_add 82 = .ok (.ireturn, 1) := by decide +kernel
theorem dX1_putRamp_0 : decode cX1_putRamp 0 = .ok (.aload_n 0, 1) := by decide +kernel
theorem dX1_putRamp_1 : decode cX1_putRamp 1 = .ok (.lload_n 1, 1) := by decide +kernel
theorem dX1_putRamp_2 : decode cX1_putRamp 2 = .ok (.putfield 34, 3) := by decide +kernel
theorem dX1_putRamp_5 : decode cX1_putRamp 5 = .ok (.return_, 1) := by decide +kernel
set_option maxRecDepth 20000 in
theorem ggX1_isLorry_X1_has : GoodIn wsX1_isLorry wsX1_has := goodIn_r _ [6, 7, 8, 9, 10, 11, 12, 13] (by decide +kernel) (by decide +kernel)
set_option maxRecDepth 20000 in
theorem gX1_isLorry_X1_has : GoodIn wsX1_isLorry (wsV RX1 38 RX1 yX1_has wsX1_has) := goodIn_app (goodIn_of _ (by decide +kernel)) ggX1_isLorry_X1_has
theorem dX1_isLorry_0 : decode cX1_isLorry 0 = .ok (.aload_n 0, 1) := by decide +kernel
theorem dX1_isLorry_1 : decode cX1_isLorry 1 = .ok (.iload_n 1, 1) := by decide +kernel
theorem dX1_isLorry_2 : decode cX1_isLorry 2 = .ok (.invokevirtual 38, 3) := by decide +kernel
theorem dX1_isLorry_5 : decode cX1_isLorry 5 = .ok (.ifCond .eq 17, 3) := by decide +kernel
theorem dX1_isLorry_8 : decode cX1_isLorry 8 = .ok (.aload_n 0, 1) := by decide +kernel
theorem dX1_isLorry_9 : decode cX1_isLorry 9 = .ok (.getfield 9, 3) := by decide +kernel
theorem dX1_isLorry_12 : decode cX1_isLorry 12 = .ok (.iload_n 1, 1) := by decide +kernel
theorem dX1_isLorry_13 : decode cX1_isLorry 13 = .ok (.iaload, 1) := by decide +kernel
theorem dX1_isLorry_14 : decode cX1_isLorry 14 = .ok (.iconst 2, 1) := by decide +kernel
theorem dX1_isLorry_15 : decode cX1_isLorry 15 = .ok (.if_icmp .le 7, 3) := by decide +kernel
theorem dX1_isLorry_18 : decode cX1_isLorry 18 = .ok (.iconst 1, 1) := by decide +kernel
theorem dX1_isLorry_19 : decode cX1_isLorry 19 = .ok (.goto 4, 3) := by decide +kernel
theorem dX1_isLorry_22 : decode cX1_isLorry 22 = .ok (.iconst 0, 1) := by decide +kernel
theorem dX1_isLorry_23 : decode cX1_isLorry 23 = .ok (.ireturn, 1) := by decide +kernel
set_option maxRecDepth 20000 in
theorem ggX1_standsAcross_X1_has : GoodIn wsX1_standsAcross wsX1_has := goodIn_r _ [6, 7, 8, 9, 10, 11, 12, 13] (by decide +kernel) (by decide +kernel)
set_option maxRecDepth 20000 in
theorem gX1_standsAcross_X1_has : GoodIn wsX1_standsAcross (wsV RX1 38 RX1 yX1_has wsX1_has) := goodIn_app (goodIn_of _ (by decide +kernel)) ggX1_standsAcross_X1_has
theorem dX1_standsAcross_0 : decode cX1_standsAcross 0 = .ok (.aload_n 0, 1) := by decide +kernel
theorem dX1_standsAcross_1 : decode cX1_standsAcross 1 = .ok (.iload_n 1, 1) := by decide +kernel
theorem dX1_standsAcross_2 : decode cX1_standsAcross 2 = .ok (.invokevirtual 38, 3) := by decide +kernel
theorem dX1_standsAcross_5 : decode cX1_standsAcross 5 = .ok (.ifCond .eq 16, 3) := by decide +kernel
theorem dX1_standsAcross_8 : decode cX1_standsAcross 8 = .ok (.aload_n 0, 1) := by decide +kernel
theorem dX1_standsAcross_9 : decode cX1_standsAcross 9 = .ok (.getfield 15, 3) := by decide +kernel
theorem dX1_standsAcross_12 : decode cX1_standsAcross 12 = .ok (.iload_n 1, 1) := by decide +kernel
theorem dX1_standsAcross_13 : decode cX1_standsAcross 13 = .ok (.baload, 1) := by decide +kernel
theorem dX1_standsAcross_14 : decode cX1_standsAcross 14 = .ok (.ifCond .eq 7, 3) := by decide +kernel
theorem dX1_standsAcross_17 : decode cX1_standsAcross 17 = .ok (.iconst 1, 1) := by decide +kernel
theorem dX1_standsAcross_18 : decode cX1_standsAcross 18 = .ok (.goto 4, 3) := by decide +kernel
theorem dX1_standsAcross_21 : decode cX1_standsAcross 21 = .ok (.iconst 0, 1) := by decide +kernel
theorem dX1_standsAcross_22 : decode cX1_standsAcross 22 = .ok (.ireturn, 1) := by decide +kernel
set_option maxRecDepth 20000 in
theorem ggX1_lineOf_X1_has : GoodIn wsX1_lineOf wsX1_has := goodIn_r _ [6, 7, 8, 9, 10, 11, 12, 13] (by decide +kernel) (by decide +kernel)
set_option maxRecDepth 20000 in
theorem gX1_lineOf_X1_has : GoodIn wsX1_lineOf (wsV RX1 38 RX1 yX1_has wsX1_has) := goodIn_app (goodIn_of _ (by decide +kernel)) ggX1_lineOf_X1_has
theorem dX1_lineOf_0 : decode cX1_lineOf 0 = .ok (.aload_n 0, 1) := by decide +kernel
theorem dX1_lineOf_1 : decode cX1_lineOf 1 = .ok (.iload_n 1, 1) := by decide +kernel
theorem dX1_lineOf_2 : decode cX1_lineOf 2 = .ok (.invokevirtual 38, 3) := by decide +kernel
theorem dX1_lineOf_5 : decode cX1_lineOf 5 = .ok (.ifCond .eq 12, 3) := by decide +kernel
theorem dX1_lineOf_8 : decode cX1_lineOf 8 = .ok (.aload_n 0, 1) := by decide +kernel
theorem dX1_lineOf_9 : decode cX1_lineOf 9 = .ok (.getfield 19, 3) := by decide +kernel
theorem dX1_lineOf_12 : decode cX1_lineOf 12 = .ok (.iload_n 1, 1) := by decide +kernel
theorem dX1_lineOf_13 : decode cX1_lineOf 13 = .ok (.iaload, 1) := by decide +kernel
theorem dX1_lineOf_14 : decode cX1_lineOf 14 = .ok (.goto 4, 3) := by decide +kernel
theorem dX1_lineOf_17 : decode cX1_lineOf 17 = .ok (.iconst 0, 1) := by decide +kernel
theorem dX1_lineOf_18 : decode cX1_lineOf 18 = .ok (.ireturn, 1) := by decide +kernel
theorem dX1_barredTo_0 : decode cX1_barredTo 0 = .ok (.iload_n 1, 1) := by decide +kernel
theorem dX1_barredTo_1 : decode cX1_barredTo 1 = .ok (.iconst 2, 1) := by decide +kernel
theorem dX1_barredTo_2 : decode cX1_barredTo 2 = .ok (.if_icmp .le 10, 3) := by decide +kernel
theorem dX1_barredTo_5 : decode cX1_barredTo 5 = .ok (.aload_n 0, 1) := by decide +kernel
theorem dX1_barredTo_6 : decode cX1_barredTo 6 = .ok (.getfield 34, 3) := by decide +kernel
theorem dX1_barredTo_9 : decode cX1_barredTo 9 = .ok (.goto 4, 3) := by decide +kernel
theorem dX1_barredTo_12 : decode cX1_barredTo 12 = .ok (.lconst 0, 1) := by decide +kernel
theorem dX1_barredTo_13 : decode cX1_barredTo 13 = .ok (.lreturn, 1) := by decide +kernel
set_option maxRecDepth 20000 in
theorem ggX1_cellsIn_X1_has : GoodIn wsX1_cellsIn wsX1_has := goodIn_r _ [7, 8, 12, 13, 14, 15, 16, 17] (by decide +kernel) (by decide +kernel)
set_option maxRecDepth 20000 in
theorem gX1_cellsIn_X1_has : GoodIn wsX1_cellsIn (wsV RX1 38 RX1 yX1_has wsX1_has) := goodIn_app (goodIn_of _ (by decide +kernel)) ggX1_cellsIn_X1_has
set_option maxRecDepth 20000 in
theorem ggX1_cellsIn_X2_placeIn : GoodIn wsX1_cellsIn wsX2_placeIn := goodIn_r _ [11] (by decide +kernel) (by decide +kernel)
set_option maxRecDepth 20000 in
theorem gX1_cellsIn_X2_placeIn_n42 : GoodIn wsX1_cellsIn (wsX2_placeIn) := ggX1_cellsIn_X2_placeIn
theorem dX1_cellsIn_0 : decode cX1_cellsIn 0 = .ok (.aload_n 0, 1) := by decide +kernel
theorem dX1_cellsIn_1 : decode cX1_cellsIn 1 = .ok (.iload_n 2, 1) := by decide +kernel
theorem dX1_cellsIn_2 : decode cX1_cellsIn 2 = .ok (.invokevirtual 38, 3) := by decide +kernel
theorem dX1_cellsIn_5 : decode cX1_cellsIn 5 = .ok (.ifCond .ne 5, 3) := by decide +kernel
theorem dX1_cellsIn_8 : decode cX1_cellsIn 8 = .ok (.lconst 0, 1) := by decide +kernel
theorem dX1_cellsIn_9 : decode cX1_cellsIn 9 = .ok (.lreturn, 1) := by decide +kernel
theorem dX1_cellsIn_10 : decode cX1_cellsIn 10 = .ok (.aload_n 0, 1) := by decide +kernel
theorem dX1_cellsIn_11 : decode cX1_cellsIn 11 = .ok (.getfield 15, 3) := by decide +kernel
theorem dX1_cellsIn_14 : decode cX1_cellsIn 14 = .ok (.iload_n 2, 1) := by decide +kernel
theorem dX1_cellsIn_15 : decode cX1_cellsIn 15 = .ok (.baload, 1) := by decide +kernel
theorem dX1_cellsIn_16 : decode cX1_cellsIn 16 = .ok (.ifCond .eq 7, 3) := by decide +kernel
theorem dX1_cellsIn_19 : decode cX1_cellsIn 19 = .ok (.iconst 1, 1) := by decide +kernel
theorem dX1_cellsIn_20 : decode cX1_cellsIn 20 = .ok (.goto 5, 3) := by decide +kernel
theorem dX1_cellsIn_23 : decode cX1_cellsIn 23 = .ok (.bipush 6, 2) := by decide +kernel
theorem dX1_cellsIn_25 : decode cX1_cellsIn 25 = .ok (.istore_n 3, 1) := by decide +kernel
theorem dX1_cellsIn_26 : decode cX1_cellsIn 26 = .ok (.aload_n 0, 1) := by decide +kernel
theorem dX1_cellsIn_27 : decode cX1_cellsIn 27 = .ok (.getfield 22, 3) := by decide +kernel
theorem dX1_cellsIn_30 : decode cX1_cellsIn 30 = .ok (.iload_n 2, 1) := by decide +kernel
theorem dX1_cellsIn_31 : decode cX1_cellsIn 31 = .ok (.laload, 1) := by decide +kernel
theorem dX1_cellsIn_32 : decode cX1_cellsIn 32 = .ok (.iload_n 3, 1) := by decide +kernel
theorem dX1_cellsIn_33 : decode cX1_cellsIn 33 = .ok (.iload_n 1, 1) := by decide +kernel
theorem dX1_cellsIn_34 : decode cX1_cellsIn 34 = .ok (.iload_n 2, 1) := by decide +kernel
theorem dX1_cellsIn_35 : decode cX1_cellsIn 35 = .ok (.invokestatic 42, 3) := by decide +kernel
theorem dX1_cellsIn_38 : decode cX1_cellsIn 38 = .ok (.imul, 1) := by decide +kernel
theorem dX1_cellsIn_39 : decode cX1_cellsIn 39 = .ok (.lshl, 1) := by decide +kernel
theorem dX1_cellsIn_40 : decode cX1_cellsIn 40 = .ok (.lreturn, 1) := by decide +kernel
set_option maxRecDepth 20000 in
theorem ggX1_filledIn_X1_cellsIn : GoodIn wsX1_filledIn wsX1_cellsIn := goodIn_r _ [6, 7, 8, 9, 10, 11, 5, 12, 1, 13, 14, 15, 16, 17, 18, 19, 20, 21] (by decide +kernel) (by decide +kernel)
set_option maxRecDepth 20000 in
theorem gX1_filledIn_X1_cellsIn : GoodIn wsX1_filledIn (wsV RX1 46 RX1 yX1_cellsIn wsX1_cellsIn) := goodIn_app (goodIn_of _ (by decide +kernel)) ggX1_filledIn_X1_cellsIn
theorem dX1_filledIn_0 : decode cX1_filledIn 0 = .ok (.lconst 0, 1) := by decide +kernel
theorem dX1_filledIn_1 : decode cX1_filledIn 1 = .ok (.lstore_n 2, 1) := by decide +kernel
theorem dX1_filledIn_2 : decode cX1_filledIn 2 = .ok (.iconst 0, 1) := by decide +kernel
theorem dX1_filledIn_3 : decode cX1_filledIn 3 = .ok (.istore 4, 2) := by decide +kernel
theorem dX1_filledIn_5 : decode cX1_filledIn 5 = .ok (.iload 4, 2) := by decide +kernel
theorem dX1_filledIn_7 : decode cX1_filledIn 7 = .ok (.aload_n 0, 1) := by decide +kernel
theorem dX1_filledIn_8 : decode cX1_filledIn 8 = .ok (.getfield 26, 3) := by decide +kernel
theorem dX1_filledIn_11 : decode cX1_filledIn 11 = .ok (.if_icmp .ge 19, 3) := by decide +kernel
theorem dX1_filledIn_14 : decode cX1_filledIn 14 = .ok (.lload_n 2, 1) := by decide +kernel
theorem dX1_filledIn_15 : decode cX1_filledIn 15 = .ok (.aload_n 0, 1) := by decide +kernel
theorem dX1_filledIn_16 : decode cX1_filledIn 16 = .ok (.iload_n 1, 1) := by decide +kernel
theorem dX1_filledIn_17 : decode cX1_filledIn 17 = .ok (.iload 4, 2) := by decide +kernel
theorem dX1_filledIn_19 : decode cX1_filledIn 19 = .ok (.invokevirtual 46, 3) := by decide +kernel
theorem dX1_filledIn_22 : decode cX1_filledIn 22 = .ok (.lor, 1) := by decide +kernel
theorem dX1_filledIn_23 : decode cX1_filledIn 23 = .ok (.lstore_n 2, 1) := by decide +kernel
theorem dX1_filledIn_24 : decode cX1_filledIn 24 = .ok (.iinc 4 1, 3) := by decide +kernel
theorem dX1_filledIn_27 : decode cX1_filledIn 27 = .ok (.goto (-22), 3) := by decide +kernel
theorem dX1_filledIn_30 : decode cX1_filledIn 30 = .ok (.lload_n 2, 1) := by decide +kernel
theorem dX1_filledIn_31 : decode cX1_filledIn 31 = .ok (.lreturn, 1) := by decide +kernel
set_option maxRecDepth 20000 in
theorem ggX1_vehicleOn_X1_cellsIn : GoodIn wsX1_vehicleOn wsX1_cellsIn := goodIn_r _ [6, 7, 8, 9, 10, 11, 5, 12, 1, 13, 14, 15, 16, 17, 18, 19, 20, 21] (by decide +kernel) (by decide +kernel)
set_option maxRecDepth 20000 in
theorem gX1_vehicleOn_X1_cellsIn : GoodIn wsX1_vehicleOn (wsV RX1 46 RX1 yX1_cellsIn wsX1_cellsIn) := goodIn_app (goodIn_of _ (by decide +kernel)) ggX1_vehicleOn_X1_cellsIn
theorem dX1_vehicleOn_0 : decode cX1_vehicleOn 0 = .ok (.iconst 0, 1) := by decide +kernel
theorem dX1_vehicleOn_1 : decode cX1_vehicleOn 1 = .ok (.istore 4, 2) := by decide +kernel
theorem dX1_vehicleOn_3 : decode cX1_vehicleOn 3 = .ok (.iload 4, 2) := by decide +kernel
theorem dX1_vehicleOn_5 : decode cX1_vehicleOn 5 = .ok (.aload_n 0, 1) := by decide +kernel
theorem dX1_vehicleOn_6 : decode cX1_vehicleOn 6 = .ok (.getfield 26, 3) := by decide +kernel
theorem dX1_vehicleOn_9 : decode cX1_vehicleOn 9 = .ok (.if_icmp .ge 26, 3) := by decide +kernel
theorem dX1_vehicleOn_12 : decode cX1_vehicleOn 12 = .ok (.aload_n 0, 1) := by decide +kernel
theorem dX1_vehicleOn_13 : decode cX1_vehicleOn 13 = .ok (.iload_n 1, 1) := by decide +kernel
theorem dX1_vehicleOn_14 : decode cX1_vehicleOn 14 = .ok (.iload 4, 2) := by decide +kernel
theorem dX1_vehicleOn_16 : decode cX1_vehicleOn 16 = .ok (.invokevirtual 46, 3) := by decide +kernel
theorem dX1_vehicleOn_19 : decode cX1_vehicleOn 19 = .ok (.lload_n 2, 1) := by decide +kernel
theorem dX1_vehicleOn_20 : decode cX1_vehicleOn 20 = .ok (.land, 1) := by decide +kernel
theorem dX1_vehicleOn_21 : decode cX1_vehicleOn 21 = .ok (.lconst 0, 1) := by decide +kernel
theorem dX1_vehicleOn_22 : decode cX1_vehicleOn 22 = .ok (.lcmp, 1) := by decide +kernel
theorem dX1_vehicleOn_23 : decode cX1_vehicleOn 23 = .ok (.ifCond .eq 6, 3) := by decide +kernel
theorem dX1_vehicleOn_26 : decode cX1_vehicleOn 26 = .ok (.iload 4, 2) := by decide +kernel
theorem dX1_vehicleOn_28 : decode cX1_vehicleOn 28 = .ok (.ireturn, 1) := by decide +kernel
theorem dX1_vehicleOn_29 : decode cX1_vehicleOn 29 = .ok (.iinc 4 1, 3) := by decide +kernel
theorem dX1_vehicleOn_32 : decode cX1_vehicleOn 32 = .ok (.goto (-29), 3) := by decide +kernel
theorem dX1_vehicleOn_35 : decode cX1_vehicleOn 35 = .ok (.iconst (-1), 1) := by decide +kernel
theorem dX1_vehicleOn_36 : decode cX1_vehicleOn 36 = .ok (.ireturn, 1) := by decide +kernel
set_option maxRecDepth 20000 in
theorem ggX1_wayIn_X1_has : GoodIn wsX1_wayIn wsX1_has := goodIn_r _ [8, 9, 23, 24, 25, 26, 27, 28] (by decide +kernel) (by decide +kernel)
set_option maxRecDepth 20000 in
theorem gX1_wayIn_X1_has : GoodIn wsX1_wayIn (wsV RX1 38 RX1 yX1_has wsX1_has) := goodIn_app (goodIn_of _ (by decide +kernel)) ggX1_wayIn_X1_has
set_option maxRecDepth 20000 in
theorem ggX1_wayIn_X2_placeIn : GoodIn wsX1_wayIn wsX2_placeIn := goodIn_r _ [12] (by decide +kernel) (by decide +kernel)
set_option maxRecDepth 20000 in
theorem gX1_wayIn_X2_placeIn_n42 : GoodIn wsX1_wayIn (wsX2_placeIn) := ggX1_wayIn_X2_placeIn
set_option maxRecDepth 20000 in
theorem ggX1_wayIn_X1_cellsIn : GoodIn wsX1_wayIn wsX1_cellsIn := goodIn_r _ [16, 2, 17, 4, 5, 6, 7, 8, 9, 10, 11, 12, 23, 24, 25, 26, 27, 28] (by decide +kernel) (by decide +kernel)
set_option maxRecDepth 20000 in
theorem gX1_wayIn_X1_cellsIn : GoodIn wsX1_wayIn (wsV RX1 46 RX1 yX1_cellsIn wsX1_cellsIn) := goodIn_app (goodIn_of _ (by decide +kernel)) ggX1_wayIn_X1_cellsIn
set_option maxRecDepth 20000 in
theorem ggX1_wayIn_X1_barredTo : GoodIn wsX1_wayIn wsX1_barredTo := goodIn_r _ [21, 22, 23, 24, 25, 26, 27, 28] (by decide +kernel) (by decide +kernel)
set_option maxRecDepth 20000 in
theorem gX1_wayIn_X1_barredTo : GoodIn wsX1_wayIn (wsV RX1 52 RX1 yX1_barredTo wsX1_barredTo) := goodIn_app (goodIn_of _ (by decide +kernel)) ggX1_wayIn_X1_barredTo
theorem dX1_wayIn_0 : decode cX1_wayIn 0 = .ok (.aload_n 0, 1) := by decide +kernel
theorem dX1_wayIn_1 : decode cX1_wayIn 1 = .ok (.iload 4, 2) := by decide +kernel
theorem dX1_wayIn_3 : decode cX1_wayIn 3 = .ok (.invokevirtual 38, 3) := by decide +kernel
theorem dX1_wayIn_6 : decode cX1_wayIn 6 = .ok (.ifCond .ne 5, 3) := by decide +kernel
theorem dX1_wayIn_9 : decode cX1_wayIn 9 = .ok (.iconst 0, 1) := by decide +kernel
theorem dX1_wayIn_10 : decode cX1_wayIn 10 = .ok (.ireturn, 1) := by decide +kernel
theorem dX1_wayIn_11 : decode cX1_wayIn 11 = .ok (.iload_n 1, 1) := by decide +kernel
theorem dX1_wayIn_12 : decode cX1_wayIn 12 = .ok (.iload 4, 2) := by decide +kernel
theorem dX1_wayIn_14 : decode cX1_wayIn 14 = .ok (.invokestatic 42, 3) := by decide +kernel
theorem dX1_wayIn_17 : decode cX1_wayIn 17 = .ok (.istore 6, 2) := by decide +kernel
theorem dX1_wayIn_19 : decode cX1_wayIn 19 = .ok (.iload 5, 2) := by decide +kernel
theorem dX1_wayIn_21 : decode cX1_wayIn 21 = .ok (.iconst 1, 1) := by decide +kernel
theorem dX1_wayIn_22 : decode cX1_wayIn 22 = .ok (.if_icmp .ne 19, 3) := by decide +kernel
theorem dX1_wayIn_25 : decode cX1_wayIn 25 = .ok (.bipush 6, 2) := by decide +kernel
theorem dX1_wayIn_27 : decode cX1_wayIn 27 = .ok (.aload_n 0, 1) := by decide +kernel
theorem dX1_wayIn_28 : decode cX1_wayIn 28 = .ok (.getfield 9, 3) := by decide +kernel
theorem dX1_wayIn_31 : decode cX1_wayIn 31 = .ok (.iload 4, 2) := by decide +kernel
theorem dX1_wayIn_33 : decode cX1_wayIn 33 = .ok (.iaload, 1) := by decide +kernel
theorem dX1_wayIn_34 : decode cX1_wayIn 34 = .ok (.isub, 1) := by decide +kernel
theorem dX1_wayIn_35 : decode cX1_wayIn 35 = .ok (.iload 6, 2) := by decide +kernel
theorem dX1_wayIn_37 : decode cX1_wayIn 37 = .ok (.isub, 1) := by decide +kernel
theorem dX1_wayIn_38 : decode cX1_wayIn 38 = .ok (.goto 5, 3) := by decide +kernel
theorem dX1_wayIn_41 : decode cX1_wayIn 41 = .ok (.iload 6, 2) := by decide +kernel
theorem dX1_wayIn_43 : decode cX1_wayIn 43 = .ok (.istore 7, 2) := by decide +kernel
theorem dX1_wayIn_45 : decode cX1_wayIn 45 = .ok (.aload_n 0, 1) := by decide +kernel
theorem dX1_wayIn_46 : decode cX1_wayIn 46 = .ok (.getfield 15, 3) := by decide +kernel
theorem dX1_wayIn_49 : decode cX1_wayIn 49 = .ok (.iload 4, 2) := by decide +kernel
theorem dX1_wayIn_51 : decode cX1_wayIn 51 = .ok (.baload, 1) := by decide +kernel
theorem dX1_wayIn_52 : decode cX1_wayIn 52 = .ok (.ifCond .eq 7, 3) := by decide +kernel
theorem dX1_wayIn_55 : decode cX1_wayIn 55 = .ok (.iconst 1, 1) := by decide +kernel
theorem dX1_wayIn_56 : decode cX1_wayIn 56 = .ok (.goto 5, 3) := by decide +kernel
theorem dX1_wayIn_59 : decode cX1_wayIn 59 = .ok (.bipush 6, 2) := by decide +kernel
theorem dX1_wayIn_61 : decode cX1_wayIn 61 = .ok (.istore 8, 2) := by decide +kernel
theorem dX1_wayIn_63 : decode cX1_wayIn 63 = .ok (.aload_n 0, 1) := by decide +kernel
theorem dX1_wayIn_64 : decode cX1_wayIn 64 = .ok (.iload_n 1, 1) := by decide +kernel
theorem dX1_wayIn_65 : decode cX1_wayIn 65 = .ok (.iload 4, 2) := by decide +kernel
theorem dX1_wayIn_67 : decode cX1_wayIn 67 = .ok (.invokevirtual 46, 3) := by decide +kernel
theorem dX1_wayIn_70 : decode cX1_wayIn 70 = .ok (.lstore 9, 2) := by decide +kernel
theorem dX1_wayIn_72 : decode cX1_wayIn 72 = .ok (.lload_n 2, 1) := by decide +kernel
theorem dX1_wayIn_73 : decode cX1_wayIn 73 = .ok (.lload 9, 2) := by decide +kernel
theorem dX1_wayIn_75 : decode cX1_wayIn 75 = .ok (.ldc2_w 50, 3) := by decide +kernel
theorem dX1_wayIn_78 : decode cX1_wayIn 78 = .ok (.lxor, 1) := by decide +kernel
theorem dX1_wayIn_79 : decode cX1_wayIn 79 = .ok (.land, 1) := by decide +kernel
theorem dX1_wayIn_80 : decode cX1_wayIn 80 = .ok (.aload_n 0, 1) := by decide +kernel
theorem dX1_wayIn_81 : decode cX1_wayIn 81 = .ok (.aload_n 0, 1) := by decide +kernel
theorem dX1_wayIn_82 : decode cX1_wayIn 82 = .ok (.getfield 9, 3) := by decide +kernel
theorem dX1_wayIn_85 : decode cX1_wayIn 85 = .ok (.iload 4, 2) := by decide +kernel
theorem dX1_wayIn_87 : decode cX1_wayIn 87 = .ok (.iaload, 1) := by decide +kernel
theorem dX1_wayIn_88 : decode cX1_wayIn 88 = .ok (.invokevirtual 52, 3) := by decide +kernel
theorem dX1_wayIn_91 : decode cX1_wayIn 91 = .ok (.lor, 1) := by decide +kernel
theorem dX1_wayIn_92 : decode cX1_wayIn 92 = .ok (.lstore 11, 2) := by decide +kernel
theorem dX1_wayIn_94 : decode cX1_wayIn 94 = .ok (.iconst 0, 1) := by decide +kernel
theorem dX1_wayIn_95 : decode cX1_wayIn 95 = .ok (.istore 13, 2) := by decide +kernel
theorem dX1_wayIn_97 : decode cX1_wayIn 97 = .ok (.iload 13, 2) := by decide +kernel
theorem dX1_wayIn_99 : decode cX1_wayIn 99 = .ok (.iload 7, 2) := by decide +kernel
theorem dX1_wayIn_101 : decode cX1_wayIn 101 = .ok (.if_icmp .ge 43, 3) := by decide +kernel
theorem dX1_wayIn_104 : decode cX1_wayIn 104 = .ok (.iload 5, 2) := by decide +kernel
theorem dX1_wayIn_106 : decode cX1_wayIn 106 = .ok (.iconst 1, 1) := by decide +kernel
theorem dX1_wayIn_107 : decode cX1_wayIn 107 = .ok (.if_icmp .ne 11, 3) := by decide +kernel
theorem dX1_wayIn_110 : decode cX1_wayIn 110 = .ok (.lload 9, 2) := by decide +kernel
theorem dX1_wayIn_112 : decode cX1_wayIn 112 = .ok (.iload 8, 2) := by decide +kernel
theorem dX1_wayIn_114 : decode cX1_wayIn 114 = .ok (.lshl, 1) := by decide +kernel
theorem dX1_wayIn_115 : decode cX1_wayIn 115 = .ok (.goto 8, 3) := by decide +kernel
theorem dX1_wayIn_118 : decode cX1_wayIn 118 = .ok (.lload 9, 2) := by decide +kernel
theorem dX1_wayIn_120 : decode cX1_wayIn 120 = .ok (.iload 8, 2) := by decide +kernel
theorem dX1_wayIn_122 : decode cX1_wayIn 122 = .ok (.lushr, 1) := by decide +kernel
theorem dX1_wayIn_123 : decode cX1_wayIn 123 = .ok (.lstore 9, 2) := by decide +kernel
theorem dX1_wayIn_125 : decode cX1_wayIn 125 = .ok (.lload 9, 2) := by decide +kernel
theorem dX1_wayIn_127 : decode cX1_wayIn 127 = .ok (.lload 11, 2) := by decide +kernel
theorem dX1_wayIn_129 : decode cX1_wayIn 129 = .ok (.land, 1) := by decide +kernel
theorem dX1_wayIn_130 : decode cX1_wayIn 130 = .ok (.lconst 0, 1) := by decide +kernel
theorem dX1_wayIn_131 : decode cX1_wayIn 131 = .ok (.lcmp, 1) := by decide +kernel
theorem dX1_wayIn_132 : decode cX1_wayIn 132 = .ok (.ifCond .eq 6, 3) := by decide +kernel
theorem dX1_wayIn_135 : decode cX1_wayIn 135 = .ok (.iload 13, 2) := by decide +kernel
theorem dX1_wayIn_137 : decode cX1_wayIn 137 = .ok (.ireturn, 1) := by decide +kernel
theorem dX1_wayIn_138 : decode cX1_wayIn 138 = .ok (.iinc 13 1, 3) := by decide +kernel
theorem dX1_wayIn_141 : decode cX1_wayIn 141 = .ok (.goto (-44), 3) := by decide +kernel
theorem dX1_wayIn_144 : decode cX1_wayIn 144 = .ok (.iload 7, 2) := by decide +kernel
theorem dX1_wayIn_146 : decode cX1_wayIn 146 = .ok (.ireturn, 1) := by decide +kernel
end
section
set_option maxRecDepth 20000 in
theorem ggX2_init_X1_init : GoodIn wsX2_init wsX1_init := goodIn_r _ [13, 14, 2, 3, 15, 16, 17, 18, 19, 20, 21, 31, 32, 33, 34, 35, 36] (by decide +kernel) (by decide +kernel)
set_option maxRecDepth 20000 in
theorem gX2_init_X1_init_n9 : GoodIn wsX2_init (wsX1_init) := ggX2_init_X1_init
set_option maxRecDepth 20000 in
theorem ggX2_init_X0_init : GoodIn wsX2_init wsX0_init := goodIn_r _ [24, 25, 2, 3, 15, 26, 27, 28, 29, 30, 44, 45, 46, 47, 48, 49, 50, 51, 52, 53] (by decide +kernel) (by decide +kernel)
set_option maxRecDepth 20000 in
theorem gX2_init_X0_init : GoodIn wsX2_init (wsX0_init) := ggX2_init_X0_init
theorem dX2_init_0 : decode cX2_init 0 = .ok (.aload_n 0, 1) := by decide +kernel
theorem dX2_init_1 : decode cX2_init 1 = .ok (.invokespecial 1, 3) := by decide +kernel
theorem dX2_init_4 : decode cX2_init 4 = .ok (.aload_n 0, 1) := by decide +kernel
theorem dX2_init_5 : decode cX2_init 5 = .ok (.new 7, 3) := by decide +kernel
theorem dX2_init_8 : decode cX2_init 8 = .ok (.dup, 1) := by decide +kernel
theorem dX2_init_9 : decode cX2_init 9 = .ok (.invokespecial 9, 3) := by decide +kernel
theorem dX2_init_12 : decode cX2_init 12 = .ok (.putfield 10, 3) := by decide +kernel
theorem dX2_init_15 : decode cX2_init 15 = .ok (.aload_n 0, 1) := by decide +kernel
theorem dX2_init_16 : decode cX2_init 16 = .ok (.new 16, 3) := by decide +kernel
theorem dX2_init_19 : decode cX2_init 19 = .ok (.dup, 1) := by decide +kernel
theorem dX2_init_20 : decode cX2_init 20 = .ok (.aload_n 0, 1) := by decide +kernel
theorem dX2_init_21 : decode cX2_init 21 = .ok (.getfield 10, 3) := by decide +kernel
theorem dX2_init_24 : decode cX2_init 24 = .ok (.invokespecial 18, 3) := by decide +kernel
theorem dX2_init_27 : decode cX2_init 27 = .ok (.putfield 21, 3) := by decide +kernel
theorem dX2_init_30 : decode cX2_init 30 = .ok (.return_, 1) := by decide +kernel
set_option maxRecDepth 20000 in
theorem ggX2_park_X2_isInYard : GoodIn wsX2_park wsX2_isInYard := goodIn_r _ [12] (by decide +kernel) (by decide +kernel)
set_option maxRecDepth 20000 in
theorem gX2_park_X2_isInYard : GoodIn wsX2_park (va_wsS RX2 25 yX2_isInYard wsX2_isInYard) := goodIn_app (goodIn_of _ (by decide +kernel)) ggX2_park_X2_isInYard
set_option maxRecDepth 20000 in
theorem ggX2_park_X1_count : GoodIn wsX2_park wsX1_count := goodIn_r _ [17, 18, 67, 68, 69, 70, 71, 72] (by decide +kernel) (by decide +kernel)
set_option maxRecDepth 20000 in
theorem gX2_park_X1_count : GoodIn wsX2_park (wsV RX2 38 RX1 yX1_count wsX1_count) := goodIn_app (goodIn_of _ (by decide +kernel)) ggX2_park_X1_count
set_option maxRecDepth 20000 in
theorem ggX2_park_X2_cellsOf : GoodIn wsX2_park wsX2_cellsOf := goodIn_r _ [21, 22, 23, 11, 24] (by decide +kernel) (by decide +kernel)
set_option maxRecDepth 20000 in
theorem gX2_park_X2_cellsOf : GoodIn wsX2_park (va_wsS RX2 53 yX2_cellsOf wsX2_cellsOf) := goodIn_app (goodIn_of _ (by decide +kernel)) ggX2_park_X2_cellsOf
set_option maxRecDepth 20000 in
theorem ggX2_park_X1_filledIn : GoodIn wsX2_park wsX1_filledIn := goodIn_r _ [28, 18, 29, 30, 31, 16, 32, 33, 34, 35, 36, 37, 38, 39, 11, 40, 67, 68, 69, 70, 71, 72] (by decide +kernel) (by decide +kernel)
set_option maxRecDepth 20000 in
theorem gX2_park_X1_filledIn : GoodIn wsX2_park (wsV RX2 60 RX1 yX1_filledIn wsX1_filledIn) := goodIn_app (goodIn_of _ (by decide +kernel)) ggX2_park_X1_filledIn
set_option maxRecDepth 20000 in
theorem ggX2_park_X1_barredTo : GoodIn wsX2_park wsX1_barredTo := goodIn_r _ [44, 45, 67, 68, 69, 70, 71, 72] (by decide +kernel) (by decide +kernel)
set_option maxRecDepth 20000 in
theorem gX2_park_X1_barredTo : GoodIn wsX2_park (wsV RX2 64 RX1 yX1_barredTo wsX1_barredTo) := goodIn_app (goodIn_of _ (by decide +kernel)) ggX2_park_X1_barredTo
set_option maxRecDepth 20000 in
theorem ggX2_park_X1_add : GoodIn wsX2_park wsX1_add := goodIn_r _ [49, 18, 50, 33, 51, 34, 20, 11, 21, 22, 23, 24, 67, 68, 69, 70, 71, 72] (by decide +kernel) (by decide +kernel)
set_option maxRecDepth 20000 in
theorem gX2_park_X1_add : GoodIn wsX2_park (wsV RX2 69 RX1 yX1_add wsX1_add) := goodIn_app (goodIn_of _ (by decide +kernel)) ggX2_park_X1_add
set_option maxRecDepth 20000 in
theorem ggX2_park_X2_moved : GoodIn wsX2_park wsX2_moved := goodIn_r _ [54] (by decide +kernel) (by decide +kernel)
set_option maxRecDepth 20000 in
theorem gX2_park_X2_moved : GoodIn wsX2_park (va_wsS RX2 76 yX2_moved wsX2_moved) := goodIn_app (goodIn_of _ (by decide +kernel)) ggX2_park_X2_moved
set_option maxRecDepth 20000 in
theorem ggX2_park_X2_standAt : GoodIn wsX2_park wsX2_standAt := goodIn_r _ [58, 7, 59, 60, 61, 62, 63, 64, 65, 66] (by decide +kernel) (by decide +kernel)
set_option maxRecDepth 20000 in
theorem gX2_park_X2_standAt : GoodIn wsX2_park (wsV RX2 80 RX2 yX2_standAt wsX2_standAt) := goodIn_app (goodIn_of _ (by decide +kernel)) ggX2_park_X2_standAt
theorem dX2_park_0 : decode cX2_park 0 = .ok (.iload_n 1, 1) := by decide +kernel
theorem dX2_park_1 : decode cX2_park 1 = .ok (.iconst 2, 1) := by decide +kernel
theorem dX2_park_2 : decode cX2_park 2 = .ok (.if_icmp .lt 17, 3) := by decide +kernel
theorem dX2_park_5 : decode cX2_park 5 = .ok (.iload_n 1, 1) := by decide +kernel
theorem dX2_park_6 : decode cX2_park 6 = .ok (.iconst 4, 1) := by decide +kernel
theorem dX2_park_7 : decode cX2_park 7 = .ok (.if_icmp .gt 12, 3) := by decide +kernel
theorem dX2_park_10 : decode cX2_park 10 = .ok (.iload_n 3, 1) := by decide +kernel
theorem dX2_park_11 : decode cX2_park 11 = .ok (.iload 4, 2) := by decide +kernel
theorem dX2_park_13 : decode cX2_park 13 = .ok (.invokestatic 25, 3) := by decide +kernel
theorem dX2_park_16 : decode cX2_park 16 = .ok (.ifCond .ne 13, 3) := by decide +kernel
theorem dX2_park_19 : decode cX2_park 19 = .ok (.new 29, 3) := by decide +kernel
theorem dX2_park_22 : decode cX2_park 22 = .ok (.dup, 1) := by decide +kernel
theorem dX2_park_23 : decode cX2_park 23 = .ok (.ldc 31, 2) := by decide +kernel
theorem dX2_park_25 : decode cX2_park 25 = .ok (.invokespecial 33, 3) := by decide +kernel
theorem dX2_park_28 : decode cX2_park 28 = .ok (.athrow, 1) := by decide +kernel
theorem dX2_park_29 : decode cX2_park 29 = .ok (.iload_n 2, 1) := by decide +kernel
theorem dX2_park_30 : decode cX2_park 30 = .ok (.ifCond .eq 7, 3) := by decide +kernel
theorem dX2_park_33 : decode cX2_park 33 = .ok (.iload_n 3, 1) := by decide +kernel
theorem dX2_park_34 : decode cX2_park 34 = .ok (.goto 5, 3) := by decide +kernel
theorem dX2_park_37 : decode cX2_park 37 = .ok (.iload 4, 2) := by decide +kernel
theorem dX2_park_39 : decode cX2_park 39 = .ok (.istore 5, 2) := by decide +kernel
theorem dX2_park_41 : decode cX2_park 41 = .ok (.iload_n 2, 1) := by decide +kernel
theorem dX2_park_42 : decode cX2_park 42 = .ok (.ifCond .eq 8, 3) := by decide +kernel
theorem dX2_park_45 : decode cX2_park 45 = .ok (.iload 4, 2) := by decide +kernel
theorem dX2_park_47 : decode cX2_park 47 = .ok (.goto 4, 3) := by decide +kernel
theorem dX2_park_50 : decode cX2_park 50 = .ok (.iload_n 3, 1) := by decide +kernel
theorem dX2_park_51 : decode cX2_park 51 = .ok (.istore 6, 2) := by decide +kernel
theorem dX2_park_53 : decode cX2_park 53 = .ok (.iload 6, 2) := by decide +kernel
theorem dX2_park_55 : decode cX2_park 55 = .ok (.iload_n 1, 1) := by decide +kernel
theorem dX2_park_56 : decode cX2_park 56 = .ok (.iadd, 1) := by decide +kernel
theorem dX2_park_57 : decode cX2_park 57 = .ok (.bipush 6, 2) := by decide +kernel
theorem dX2_park_59 : decode cX2_park 59 = .ok (.if_icmp .le 13, 3) := by decide +kernel
theorem dX2_park_62 : decode cX2_park 62 = .ok (.new 29, 3) := by decide +kernel
theorem dX2_park_65 : decode cX2_park 65 = .ok (.dup, 1) := by decide +kernel
theorem dX2_park_66 : decode cX2_park 66 = .ok (.ldc 36, 2) := by decide +kernel
theorem dX2_park_68 : decode cX2_park 68 = .ok (.invokespecial 33, 3) := by decide +kernel
theorem dX2_park_71 : decode cX2_park 71 = .ok (.athrow, 1) := by decide +kernel
theorem dX2_park_72 : decode cX2_park 72 = .ok (.aload_n 0, 1) := by decide +kernel
theorem dX2_park_73 : decode cX2_park 73 = .ok (.getfield 10, 3) := by decide +kernel
theorem dX2_park_76 : decode cX2_park 76 = .ok (.invokevirtual 38, 3) := by decide +kernel
theorem dX2_park_79 : decode cX2_park 79 = .ok (.ifCond .ne 27, 3) := by decide +kernel
theorem dX2_park_82 : decode cX2_park 82 = .ok (.iload_n 1, 1) := by decide +kernel
theorem dX2_park_83 : decode cX2_park 83 = .ok (.iconst 2, 1) := by decide +kernel
theorem dX2_park_84 : decode cX2_park 84 = .ok (.if_icmp .ne 12, 3) := by decide +kernel
theorem dX2_park_87 : decode cX2_park 87 = .ok (.iload_n 2, 1) := by decide +kernel
theorem dX2_park_88 : decode cX2_park 88 = .ok (.ifCond .eq 8, 3) := by decide +kernel
theorem dX2_park_91 : decode cX2_park 91 = .ok (.iload_n 3, 1) := by decide +kernel
theorem dX2_park_92 : decode cX2_park 92 = .ok (.iconst 2, 1) := by decide +kernel
theorem dX2_park_93 : decode cX2_park 93 = .ok (.if_icmp .eq 13, 3) := by decide +kernel
theorem dX2_park_96 : decode cX2_park 96 = .ok (.new 29, 3) := by decide +kernel
theorem dX2_park_99 : decode cX2_park 99 = .ok (.dup, 1) := by decide +kernel
theorem dX2_park_100 : decode cX2_park 100 = .ok (.ldc 42, 2) := by decide +kernel
theorem dX2_park_102 : decode cX2_park 102 = .ok (.invokespecial 33, 3) := by decide +kernel
theorem dX2_park_105 : decode cX2_park 105 = .ok (.athrow, 1) := by decide +kernel
theorem dX2_park_106 : decode cX2_park 106 = .ok (.aload_n 0, 1) := by decide +kernel
theorem dX2_park_107 : decode cX2_park 107 = .ok (.getfield 44, 3) := by decide +kernel
theorem dX2_park_110 : decode cX2_park 110 = .ok (.ifCond .gt 15, 3) := by decide +kernel
theorem dX2_park_113 : decode cX2_park 113 = .ok (.aload_n 0, 1) := by decide +kernel
theorem dX2_park_114 : decode cX2_park 114 = .ok (.getfield 10, 3) := by decide +kernel
theorem dX2_park_117 : decode cX2_park 117 = .ok (.invokevirtual 38, 3) := by decide +kernel
theorem dX2_park_120 : decode cX2_park 120 = .ok (.bipush 9, 2) := by decide +kernel
theorem dX2_park_122 : decode cX2_park 122 = .ok (.if_icmp .lt 13, 3) := by decide +kernel
theorem dX2_park_125 : decode cX2_park 125 = .ok (.new 48, 3) := by decide +kernel
theorem dX2_park_128 : decode cX2_park 128 = .ok (.dup, 1) := by decide +kernel
theorem dX2_park_129 : decode cX2_park 129 = .ok (.ldc 50, 2) := by decide +kernel
theorem dX2_park_131 : decode cX2_park 131 = .ok (.invokespecial 52, 3) := by decide +kernel
theorem dX2_park_134 : decode cX2_park 134 = .ok (.athrow, 1) := by decide +kernel
theorem dX2_park_135 : decode cX2_park 135 = .ok (.iload_n 1, 1) := by decide +kernel
theorem dX2_park_136 : decode cX2_park 136 = .ok (.iload_n 2, 1) := by decide +kernel
theorem dX2_park_137 : decode cX2_park 137 = .ok (.iload_n 3, 1) := by decide +kernel
theorem dX2_park_138 : decode cX2_park 138 = .ok (.iload 4, 2) := by decide +kernel
theorem dX2_park_140 : decode cX2_park 140 = .ok (.invokestatic 53, 3) := by decide +kernel
theorem dX2_park_143 : decode cX2_park 143 = .ok (.lstore 7, 2) := by decide +kernel
theorem dX2_park_145 : decode cX2_park 145 = .ok (.lload 7, 2) := by decide +kernel
theorem dX2_park_147 : decode cX2_park 147 = .ok (.aload_n 0, 1) := by decide +kernel
theorem dX2_park_148 : decode cX2_park 148 = .ok (.getfield 10, 3) := by decide +kernel
theorem dX2_park_151 : decode cX2_park 151 = .ok (.aload_n 0, 1) := by decide +kernel
theorem dX2_park_152 : decode cX2_park 152 = .ok (.getfield 57, 3) := by decide +kernel
theorem dX2_park_155 : decode cX2_park 155 = .ok (.invokevirtual 60, 3) := by decide +kernel
theorem dX2_park_158 : decode cX2_park 158 = .ok (.aload_n 0, 1) := by decide +kernel
theorem dX2_park_159 : decode cX2_park 159 = .ok (.getfield 10, 3) := by decide +kernel
theorem dX2_park_162 : decode cX2_park 162 = .ok (.iload_n 1, 1) := by decide +kernel
theorem dX2_park_163 : decode cX2_park 163 = .ok (.invokevirtual 64, 3) := by decide +kernel
theorem dX2_park_166 : decode cX2_park 166 = .ok (.lor, 1) := by decide +kernel
theorem dX2_park_167 : decode cX2_park 167 = .ok (.land, 1) := by decide +kernel
theorem dX2_park_168 : decode cX2_park 168 = .ok (.lconst 0, 1) := by decide +kernel
theorem dX2_park_169 : decode cX2_park 169 = .ok (.lcmp, 1) := by decide +kernel
theorem dX2_park_170 : decode cX2_park 170 = .ok (.ifCond .eq 13, 3) := by decide +kernel
theorem dX2_park_173 : decode cX2_park 173 = .ok (.new 48, 3) := by decide +kernel
theorem dX2_park_176 : decode cX2_park 176 = .ok (.dup, 1) := by decide +kernel
theorem dX2_park_177 : decode cX2_park 177 = .ok (.ldc 67, 2) := by decide +kernel
theorem dX2_park_179 : decode cX2_park 179 = .ok (.invokespecial 52, 3) := by decide +kernel
theorem dX2_park_182 : decode cX2_park 182 = .ok (.athrow, 1) := by decide +kernel
theorem dX2_park_183 : decode cX2_park 183 = .ok (.aload_n 0, 1) := by decide +kernel
theorem dX2_park_184 : decode cX2_park 184 = .ok (.getfield 10, 3) := by decide +kernel
theorem dX2_park_187 : decode cX2_park 187 = .ok (.iload_n 1, 1) := by decide +kernel
theorem dX2_park_188 : decode cX2_park 188 = .ok (.iload_n 2, 1) := by decide +kernel
theorem dX2_park_189 : decode cX2_park 189 = .ok (.iload 5, 2) := by decide +kernel
theorem dX2_park_191 : decode cX2_park 191 = .ok (.invokevirtual 69, 3) := by decide +kernel
theorem dX2_park_194 : decode cX2_park 194 = .ok (.istore 9, 2) := by decide +kernel
theorem dX2_park_196 : decode cX2_park 196 = .ok (.aload_n 0, 1) := by decide +kernel
theorem dX2_park_197 : decode cX2_park 197 = .ok (.aload_n 0, 1) := by decide +kernel
theorem dX2_park_198 : decode cX2_park 198 = .ok (.getfield 73, 3) := by decide +kernel
theorem dX2_park_201 : decode cX2_park 201 = .ok (.iload 9, 2) := by decide +kernel
theorem dX2_park_203 : decode cX2_park 203 = .ok (.iload 6, 2) := by decide +kernel
theorem dX2_park_205 : decode cX2_park 205 = .ok (.invokestatic 76, 3) := by decide +kernel
theorem dX2_park_208 : decode cX2_park 208 = .ok (.putfield 73, 3) := by decide +kernel
theorem dX2_park_211 : decode cX2_park 211 = .ok (.aload_n 0, 1) := by decide +kernel
theorem dX2_park_212 : decode cX2_park 212 = .ok (.aload_n 0, 1) := by decide +kernel
theorem dX2_park_213 : decode cX2_park 213 = .ok (.getfield 73, 3) := by decide +kernel
theorem dX2_park_216 : decode cX2_park 216 = .ok (.invokevirtual 80, 3) := by decide +kernel
theorem dX2_park_219 : decode cX2_park 219 = .ok (.iload 9, 2) := by decide +kernel
theorem dX2_park_221 : decode cX2_park 221 = .ok (.ireturn, 1) := by decide +kernel
set_option maxRecDepth 20000 in
theorem ggX2_ramp_X2_isInYard : GoodIn wsX2_ramp wsX2_isInYard := goodIn_r _ [12] (by decide +kernel) (by decide +kernel)
set_option maxRecDepth 20000 in
theorem gX2_ramp_X2_isInYard : GoodIn wsX2_ramp (va_wsS RX2 25 yX2_isInYard wsX2_isInYard) := goodIn_app (goodIn_of _ (by decide +kernel)) ggX2_ramp_X2_isInYard
set_option maxRecDepth 20000 in
theorem ggX2_ramp_X2_cellOf : GoodIn wsX2_ramp wsX2_cellOf := goodIn_r _ [15] (by decide +kernel) (by decide +kernel)
set_option maxRecDepth 20000 in
theorem gX2_ramp_X2_cellOf : GoodIn wsX2_ramp (va_wsS RX2 88 yX2_cellOf wsX2_cellOf) := goodIn_app (goodIn_of _ (by decide +kernel)) ggX2_ramp_X2_cellOf
set_option maxRecDepth 20000 in
theorem ggX2_ramp_X1_vehicleOn : GoodIn wsX2_ramp wsX1_vehicleOn := goodIn_r _ [20, 21, 22, 23, 24, 19, 25, 26, 27, 28, 29, 30, 31, 32, 11, 33, 51, 52, 53, 54, 55, 56] (by decide +kernel) (by decide +kernel)
set_option maxRecDepth 20000 in
theorem gX2_ramp_X1_vehicleOn : GoodIn wsX2_ramp (wsV RX2 92 RX1 yX1_vehicleOn wsX1_vehicleOn) := goodIn_app (goodIn_of _ (by decide +kernel)) ggX2_ramp_X1_vehicleOn
set_option maxRecDepth 20000 in
theorem ggX2_ramp_X1_isLorry : GoodIn wsX2_ramp wsX1_isLorry := goodIn_r _ [37, 38, 28, 29, 30, 19, 31, 21, 51, 52, 53, 54, 55, 56] (by decide +kernel) (by decide +kernel)
set_option maxRecDepth 20000 in
theorem gX2_ramp_X1_isLorry : GoodIn wsX2_ramp (wsV RX2 96 RX1 yX1_isLorry wsX1_isLorry) := goodIn_app (goodIn_of _ (by decide +kernel)) ggX2_ramp_X1_isLorry
set_option maxRecDepth 20000 in
theorem ggX2_ramp_X1_putRamp : GoodIn wsX2_ramp wsX1_putRamp := goodIn_r _ [42, 43, 51, 52, 53, 54, 55, 56] (by decide +kernel) (by decide +kernel)
set_option maxRecDepth 20000 in
theorem gX2_ramp_X1_putRamp : GoodIn wsX2_ramp (wsV RX2 102 RX1 yX1_putRamp wsX1_putRamp) := goodIn_app (goodIn_of _ (by decide +kernel)) ggX2_ramp_X1_putRamp
theorem dX2_ramp_0 : decode cX2_ramp 0 = .ok (.iload_n 1, 1) := by decide +kernel
theorem dX2_ramp_1 : decode cX2_ramp 1 = .ok (.iload_n 2, 1) := by decide +kernel
theorem dX2_ramp_2 : decode cX2_ramp 2 = .ok (.invokestatic 25, 3) := by decide +kernel
theorem dX2_ramp_5 : decode cX2_ramp 5 = .ok (.ifCond .ne 13, 3) := by decide +kernel
theorem dX2_ramp_8 : decode cX2_ramp 8 = .ok (.new 29, 3) := by decide +kernel
theorem dX2_ramp_11 : decode cX2_ramp 11 = .ok (.dup, 1) := by decide +kernel
theorem dX2_ramp_12 : decode cX2_ramp 12 = .ok (.ldc 84, 2) := by decide +kernel
theorem dX2_ramp_14 : decode cX2_ramp 14 = .ok (.invokespecial 33, 3) := by decide +kernel
theorem dX2_ramp_17 : decode cX2_ramp 17 = .ok (.athrow, 1) := by decide +kernel
theorem dX2_ramp_18 : decode cX2_ramp 18 = .ok (.aload_n 0, 1) := by decide +kernel
theorem dX2_ramp_19 : decode cX2_ramp 19 = .ok (.getfield 44, 3) := by decide +kernel
theorem dX2_ramp_22 : decode cX2_ramp 22 = .ok (.ifCond .le 13, 3) := by decide +kernel
theorem dX2_ramp_25 : decode cX2_ramp 25 = .ok (.new 48, 3) := by decide +kernel
theorem dX2_ramp_28 : decode cX2_ramp 28 = .ok (.dup, 1) := by decide +kernel
theorem dX2_ramp_29 : decode cX2_ramp 29 = .ok (.ldc 86, 2) := by decide +kernel
theorem dX2_ramp_31 : decode cX2_ramp 31 = .ok (.invokespecial 52, 3) := by decide +kernel
theorem dX2_ramp_34 : decode cX2_ramp 34 = .ok (.athrow, 1) := by decide +kernel
theorem dX2_ramp_35 : decode cX2_ramp 35 = .ok (.iload_n 1, 1) := by decide +kernel
theorem dX2_ramp_36 : decode cX2_ramp 36 = .ok (.iload_n 2, 1) := by decide +kernel
theorem dX2_ramp_37 : decode cX2_ramp 37 = .ok (.invokestatic 88, 3) := by decide +kernel
theorem dX2_ramp_40 : decode cX2_ramp 40 = .ok (.lstore_n 3, 1) := by decide +kernel
theorem dX2_ramp_41 : decode cX2_ramp 41 = .ok (.aload_n 0, 1) := by decide +kernel
theorem dX2_ramp_42 : decode cX2_ramp 42 = .ok (.getfield 10, 3) := by decide +kernel
theorem dX2_ramp_45 : decode cX2_ramp 45 = .ok (.aload_n 0, 1) := by decide +kernel
theorem dX2_ramp_46 : decode cX2_ramp 46 = .ok (.getfield 10, 3) := by decide +kernel
theorem dX2_ramp_49 : decode cX2_ramp 49 = .ok (.aload_n 0, 1) := by decide +kernel
theorem dX2_ramp_50 : decode cX2_ramp 50 = .ok (.getfield 57, 3) := by decide +kernel
theorem dX2_ramp_53 : decode cX2_ramp 53 = .ok (.lload_n 3, 1) := by decide +kernel
theorem dX2_ramp_54 : decode cX2_ramp 54 = .ok (.invokevirtual 92, 3) := by decide +kernel
theorem dX2_ramp_57 : decode cX2_ramp 57 = .ok (.invokevirtual 96, 3) := by decide +kernel
theorem dX2_ramp_60 : decode cX2_ramp 60 = .ok (.ifCond .eq 13, 3) := by decide +kernel
theorem dX2_ramp_63 : decode cX2_ramp 63 = .ok (.new 48, 3) := by decide +kernel
theorem dX2_ramp_66 : decode cX2_ramp 66 = .ok (.dup, 1) := by decide +kernel
theorem dX2_ramp_67 : decode cX2_ramp 67 = .ok (.ldc 100, 2) := by decide +kernel
theorem dX2_ramp_69 : decode cX2_ramp 69 = .ok (.invokespecial 52, 3) := by decide +kernel
theorem dX2_ramp_72 : decode cX2_ramp 72 = .ok (.athrow, 1) := by decide +kernel
theorem dX2_ramp_73 : decode cX2_ramp 73 = .ok (.aload_n 0, 1) := by decide +kernel
theorem dX2_ramp_74 : decode cX2_ramp 74 = .ok (.getfield 10, 3) := by decide +kernel
theorem dX2_ramp_77 : decode cX2_ramp 77 = .ok (.lload_n 3, 1) := by decide +kernel
theorem dX2_ramp_78 : decode cX2_ramp 78 = .ok (.invokevirtual 102, 3) := by decide +kernel
theorem dX2_ramp_81 : decode cX2_ramp 81 = .ok (.aload_n 0, 1) := by decide +kernel
theorem dX2_ramp_82 : decode cX2_ramp 82 = .ok (.iconst 0, 1) := by decide +kernel
theorem dX2_ramp_83 : decode cX2_ramp 83 = .ok (.putfield 106, 3) := by decide +kernel
theorem dX2_ramp_86 : decode cX2_ramp 86 = .ok (.return_, 1) := by decide +kernel
set_option maxRecDepth 20000 in
theorem ggX2_drive_X1_has : GoodIn wsX2_drive wsX1_has := goodIn_r _ [16, 17, 69, 70, 71, 72, 73, 74] (by decide +kernel) (by decide +kernel)
set_option maxRecDepth 20000 in
theorem gX2_drive_X1_has : GoodIn wsX2_drive (wsV RX2 110 RX1 yX1_has wsX1_has) := goodIn_app (goodIn_of _ (by decide +kernel)) ggX2_drive_X1_has
set_option maxRecDepth 20000 in
theorem ggX2_drive_X2_wayNow : GoodIn wsX2_drive wsX2_wayNow := goodIn_r _ [22, 7, 23, 24, 25, 26, 15, 27, 17, 28, 29, 30, 31, 32, 33, 34, 13, 14, 16, 35, 21, 36, 37, 38, 39, 40, 41, 42, 43, 44, 45, 46, 47, 62, 63, 64, 65, 66, 67, 68, 69, 70, 71, 72, 73, 74] (by decide +kernel) (by decide +kernel)
set_option maxRecDepth 20000 in
theorem gX2_drive_X2_wayNow : GoodIn wsX2_drive (wsV RX2 126 RX2 yX2_wayNow wsX2_wayNow) := goodIn_app (goodIn_of _ (by decide +kernel)) ggX2_drive_X2_wayNow
set_option maxRecDepth 20000 in
theorem ggX2_drive_X2_makeMove : GoodIn wsX2_drive wsX2_makeMove := goodIn_r _ [51, 23, 52, 53, 8, 9, 10, 11, 54, 55, 21, 56, 57, 58, 59, 60, 61, 62, 63, 64, 65, 66, 67, 68] (by decide +kernel) (by decide +kernel)
set_option maxRecDepth 20000 in
theorem gX2_drive_X2_makeMove : GoodIn wsX2_drive (wsV RX2 132 RX2 yX2_makeMove wsX2_makeMove) := goodIn_app (goodIn_of _ (by decide +kernel)) ggX2_drive_X2_makeMove
theorem dX2_drive_0 : decode cX2_drive 0 = .ok (.aload_n 0, 1) := by decide +kernel
theorem dX2_drive_1 : decode cX2_drive 1 = .ok (.getfield 10, 3) := by decide +kernel
theorem dX2_drive_4 : decode cX2_drive 4 = .ok (.iload_n 1, 1) := by decide +kernel
theorem dX2_drive_5 : decode cX2_drive 5 = .ok (.invokevirtual 110, 3) := by decide +kernel
theorem dX2_drive_8 : decode cX2_drive 8 = .ok (.ifCond .ne 13, 3) := by decide +kernel
theorem dX2_drive_11 : decode cX2_drive 11 = .ok (.new 113, 3) := by decide +kernel
theorem dX2_drive_14 : decode cX2_drive 14 = .ok (.dup, 1) := by decide +kernel
theorem dX2_drive_15 : decode cX2_drive 15 = .ok (.ldc 115, 2) := by decide +kernel
theorem dX2_drive_17 : decode cX2_drive 17 = .ok (.invokespecial 117, 3) := by decide +kernel
theorem dX2_drive_20 : decode cX2_drive 20 = .ok (.athrow, 1) := by decide +kernel
theorem dX2_drive_21 : decode cX2_drive 21 = .ok (.iload_n 2, 1) := by decide +kernel
theorem dX2_drive_22 : decode cX2_drive 22 = .ok (.bipush (-4), 2) := by decide +kernel
theorem dX2_drive_24 : decode cX2_drive 24 = .ok (.if_icmp .lt 12, 3) := by decide +kernel
theorem dX2_drive_27 : decode cX2_drive 27 = .ok (.iload_n 2, 1) := by decide +kernel
theorem dX2_drive_28 : decode cX2_drive 28 = .ok (.iconst 4, 1) := by decide +kernel
theorem dX2_drive_29 : decode cX2_drive 29 = .ok (.if_icmp .gt 7, 3) := by decide +kernel
theorem dX2_drive_32 : decode cX2_drive 32 = .ok (.iload_n 2, 1) := by decide +kernel
theorem dX2_drive_33 : decode cX2_drive 33 = .ok (.ifCond .ne 13, 3) := by decide +kernel
theorem dX2_drive_36 : decode cX2_drive 36 = .ok (.new 29, 3) := by decide +kernel
theorem dX2_drive_39 : decode cX2_drive 39 = .ok (.dup, 1) := by decide +kernel
theorem dX2_drive_40 : decode cX2_drive 40 = .ok (.ldc 118, 2) := by decide +kernel
theorem dX2_drive_42 : decode cX2_drive 42 = .ok (.invokespecial 33, 3) := by decide +kernel
theorem dX2_drive_45 : decode cX2_drive 45 = .ok (.athrow, 1) := by decide +kernel
theorem dX2_drive_46 : decode cX2_drive 46 = .ok (.iload_n 2, 1) := by decide +kernel
theorem dX2_drive_47 : decode cX2_drive 47 = .ok (.invokestatic 120, 3) := by decide +kernel
theorem dX2_drive_50 : decode cX2_drive 50 = .ok (.aload_n 0, 1) := by decide +kernel
theorem dX2_drive_51 : decode cX2_drive 51 = .ok (.iload_n 1, 1) := by decide +kernel
theorem dX2_drive_52 : decode cX2_drive 52 = .ok (.iload_n 2, 1) := by decide +kernel
theorem dX2_drive_53 : decode cX2_drive 53 = .ok (.ifCond .le 7, 3) := by decide +kernel
theorem dX2_drive_56 : decode cX2_drive 56 = .ok (.iconst 1, 1) := by decide +kernel
theorem dX2_drive_57 : decode cX2_drive 57 = .ok (.goto 4, 3) := by decide +kernel
theorem dX2_drive_60 : decode cX2_drive 60 = .ok (.iconst 0, 1) := by decide +kernel
theorem dX2_drive_61 : decode cX2_drive 61 = .ok (.invokevirtual 126, 3) := by decide +kernel
theorem dX2_drive_64 : decode cX2_drive 64 = .ok (.if_icmp .le 13, 3) := by decide +kernel
theorem dX2_drive_67 : decode cX2_drive 67 = .ok (.new 48, 3) := by decide +kernel
theorem dX2_drive_70 : decode cX2_drive 70 = .ok (.dup, 1) := by decide +kernel
theorem dX2_drive_71 : decode cX2_drive 71 = .ok (.ldc 130, 2) := by decide +kernel
theorem dX2_drive_73 : decode cX2_drive 73 = .ok (.invokespecial 52, 3) := by decide +kernel
theorem dX2_drive_76 : decode cX2_drive 76 = .ok (.athrow, 1) := by decide +kernel
theorem dX2_drive_77 : decode cX2_drive 77 = .ok (.aload_n 0, 1) := by decide +kernel
theorem dX2_drive_78 : decode cX2_drive 78 = .ok (.iload_n 1, 1) := by decide +kernel
theorem dX2_drive_79 : decode cX2_drive 79 = .ok (.iload_n 2, 1) := by decide +kernel
theorem dX2_drive_80 : decode cX2_drive 80 = .ok (.invokevirtual 132, 3) := by decide +kernel
theorem dX2_drive_83 : decode cX2_drive 83 = .ok (.return_, 1) := by decide +kernel
set_option maxRecDepth 20000 in
theorem ggX2_restart_X2_standAt : GoodIn wsX2_restart wsX2_standAt := goodIn_r _ [8, 9, 10, 11, 12, 13, 14, 15, 16, 17] (by decide +kernel) (by decide +kernel)
set_option maxRecDepth 20000 in
theorem gX2_restart_X2_standAt : GoodIn wsX2_restart (wsV RX2 80 RX2 yX2_standAt wsX2_standAt) := goodIn_app (goodIn_of _ (by decide +kernel)) ggX2_restart_X2_standAt
theorem dX2_restart_0 : decode cX2_restart 0 = .ok (.aload_n 0, 1) := by decide +kernel
theorem dX2_restart_1 : decode cX2_restart 1 = .ok (.aload_n 0, 1) := by decide +kernel
theorem dX2_restart_2 : decode cX2_restart 2 = .ok (.getfield 73, 3) := by decide +kernel
theorem dX2_restart_5 : decode cX2_restart 5 = .ok (.invokevirtual 80, 3) := by decide +kernel
theorem dX2_restart_8 : decode cX2_restart 8 = .ok (.aload_n 0, 1) := by decide +kernel
theorem dX2_restart_9 : decode cX2_restart 9 = .ok (.iconst 0, 1) := by decide +kernel
theorem dX2_restart_10 : decode cX2_restart 10 = .ok (.putfield 44, 3) := by decide +kernel
theorem dX2_restart_13 : decode cX2_restart 13 = .ok (.aload_n 0, 1) := by decide +kernel
theorem dX2_restart_14 : decode cX2_restart 14 = .ok (.iconst 0, 1) := by decide +kernel
theorem dX2_restart_15 : decode cX2_restart 15 = .ok (.putfield 136, 3) := by decide +kernel
theorem dX2_restart_18 : decode cX2_restart 18 = .ok (.return_, 1) := by decide +kernel
set_option maxRecDepth 20000 in
theorem ggX2_vehicles_X1_count : GoodIn wsX2_vehicles wsX1_count := goodIn_r _ [6, 7, 15, 16, 17, 18, 19, 20] (by decide +kernel) (by decide +kernel)
set_option maxRecDepth 20000 in
theorem gX2_vehicles_X1_count : GoodIn wsX2_vehicles (wsV RX2 38 RX1 yX1_count wsX1_count) := goodIn_app (goodIn_of _ (by decide +kernel)) ggX2_vehicles_X1_count
theorem dX2_vehicles_0 : decode cX2_vehicles 0 = .ok (.aload_n 0, 1) := by decide +kernel
theorem dX2_vehicles_1 : decode cX2_vehicles 1 = .ok (.getfield 10, 3) := by decide +kernel
theorem dX2_vehicles_4 : decode cX2_vehicles 4 = .ok (.invokevirtual 38, 3) := by decide +kernel
theorem dX2_vehicles_7 : decode cX2_vehicles 7 = .ok (.ireturn, 1) := by decide +kernel
set_option maxRecDepth 20000 in
theorem ggX2_rowOf_X1_has : GoodIn wsX2_rowOf wsX1_has := goodIn_r _ [9, 10, 33, 34, 35, 36, 37, 38] (by decide +kernel) (by decide +kernel)
set_option maxRecDepth 20000 in
theorem gX2_rowOf_X1_has : GoodIn wsX2_rowOf (wsV RX2 110 RX1 yX1_has wsX1_has) := goodIn_app (goodIn_of _ (by decide +kernel)) ggX2_rowOf_X1_has
set_option maxRecDepth 20000 in
theorem ggX2_rowOf_X1_standsAcross : GoodIn wsX2_rowOf wsX1_standsAcross := goodIn_r _ [14, 15, 16, 6, 7, 8, 9, 10, 33, 34, 35, 36, 37, 38] (by decide +kernel) (by decide +kernel)
set_option maxRecDepth 20000 in
theorem gX2_rowOf_X1_standsAcross : GoodIn wsX2_rowOf (wsV RX2 139 RX1 yX1_standsAcross wsX1_standsAcross) := goodIn_app (goodIn_of _ (by decide +kernel)) ggX2_rowOf_X1_standsAcross
set_option maxRecDepth 20000 in
theorem ggX2_rowOf_X1_lineOf : GoodIn wsX2_rowOf wsX1_lineOf := goodIn_r _ [20, 21, 16, 6, 7, 8, 9, 10, 33, 34, 35, 36, 37, 38] (by decide +kernel) (by decide +kernel)
set_option maxRecDepth 20000 in
theorem gX2_rowOf_X1_lineOf : GoodIn wsX2_rowOf (wsV RX2 142 RX1 yX1_lineOf wsX1_lineOf) := goodIn_app (goodIn_of _ (by decide +kernel)) ggX2_rowOf_X1_lineOf
set_option maxRecDepth 20000 in
theorem ggX2_rowOf_X2_placeIn : GoodIn wsX2_rowOf wsX2_placeIn := goodIn_r _ [25] (by decide +kernel) (by decide +kernel)
set_option maxRecDepth 20000 in
theorem gX2_rowOf_X2_placeIn : GoodIn wsX2_rowOf (va_wsS RX2 145 yX2_placeIn wsX2_placeIn) := goodIn_app (goodIn_of _ (by decide +kernel)) ggX2_rowOf_X2_placeIn
theorem dX2_rowOf_0 : decode cX2_rowOf 0 = .ok (.aload_n 0, 1) := by decide +kernel
theorem dX2_rowOf_1 : decode cX2_rowOf 1 = .ok (.getfield 10, 3) := by decide +kernel
theorem dX2_rowOf_4 : decode cX2_rowOf 4 = .ok (.iload_n 1, 1) := by decide +kernel
theorem dX2_rowOf_5 : decode cX2_rowOf 5 = .ok (.invokevirtual 110, 3) := by decide +kernel
theorem dX2_rowOf_8 : decode cX2_rowOf 8 = .ok (.ifCond .ne 13, 3) := by decide +kernel
theorem dX2_rowOf_11 : decode cX2_rowOf 11 = .ok (.new 113, 3) := by decide +kernel
theorem dX2_rowOf_14 : decode cX2_rowOf 14 = .ok (.dup, 1) := by decide +kernel
theorem dX2_rowOf_15 : decode cX2_rowOf 15 = .ok (.ldc 115, 2) := by decide +kernel
theorem dX2_rowOf_17 : decode cX2_rowOf 17 = .ok (.invokespecial 117, 3) := by decide +kernel
theorem dX2_rowOf_20 : decode cX2_rowOf 20 = .ok (.athrow, 1) := by decide +kernel
theorem dX2_rowOf_21 : decode cX2_rowOf 21 = .ok (.aload_n 0, 1) := by decide +kernel
theorem dX2_rowOf_22 : decode cX2_rowOf 22 = .ok (.getfield 10, 3) := by decide +kernel
theorem dX2_rowOf_25 : decode cX2_rowOf 25 = .ok (.iload_n 1, 1) := by decide +kernel
theorem dX2_rowOf_26 : decode cX2_rowOf 26 = .ok (.invokevirtual 139, 3) := by decide +kernel
theorem dX2_rowOf_29 : decode cX2_rowOf 29 = .ok (.ifCond .eq 14, 3) := by decide +kernel
theorem dX2_rowOf_32 : decode cX2_rowOf 32 = .ok (.aload_n 0, 1) := by decide +kernel
theorem dX2_rowOf_33 : decode cX2_rowOf 33 = .ok (.getfield 10, 3) := by decide +kernel
theorem dX2_rowOf_36 : decode cX2_rowOf 36 = .ok (.iload_n 1, 1) := by decide +kernel
theorem dX2_rowOf_37 : decode cX2_rowOf 37 = .ok (.invokevirtual 142, 3) := by decide +kernel
theorem dX2_rowOf_40 : decode cX2_rowOf 40 = .ok (.goto 11, 3) := by decide +kernel
theorem dX2_rowOf_43 : decode cX2_rowOf 43 = .ok (.aload_n 0, 1) := by decide +kernel
theorem dX2_rowOf_44 : decode cX2_rowOf 44 = .ok (.getfield 57, 3) := by decide +kernel
theorem dX2_rowOf_47 : decode cX2_rowOf 47 = .ok (.iload_n 1, 1) := by decide +kernel
theorem dX2_rowOf_48 : decode cX2_rowOf 48 = .ok (.invokestatic 145, 3) := by decide +kernel
theorem dX2_rowOf_51 : decode cX2_rowOf 51 = .ok (.ireturn, 1) := by decide +kernel
set_option maxRecDepth 20000 in
theorem ggX2_columnOf_X1_has : GoodIn wsX2_columnOf wsX1_has := goodIn_r _ [9, 10, 33, 34, 35, 36, 37, 38] (by decide +kernel) (by decide +kernel)
set_option maxRecDepth 20000 in
theorem gX2_columnOf_X1_has : GoodIn wsX2_columnOf (wsV RX2 110 RX1 yX1_has wsX1_has) := goodIn_app (goodIn_of _ (by decide +kernel)) ggX2_columnOf_X1_has
set_option maxRecDepth 20000 in
theorem ggX2_columnOf_X1_standsAcross : GoodIn wsX2_columnOf wsX1_standsAcross := goodIn_r _ [14, 15, 16, 6, 7, 8, 9, 10, 33, 34, 35, 36, 37, 38] (by decide +kernel) (by decide +kernel)
set_option maxRecDepth 20000 in
theorem gX2_columnOf_X1_standsAcross : GoodIn wsX2_columnOf (wsV RX2 139 RX1 yX1_standsAcross wsX1_standsAcross) := goodIn_app (goodIn_of _ (by decide +kernel)) ggX2_columnOf_X1_standsAcross
set_option maxRecDepth 20000 in
theorem ggX2_columnOf_X2_placeIn : GoodIn wsX2_columnOf wsX2_placeIn := goodIn_r _ [20] (by decide +kernel) (by decide +kernel)
set_option maxRecDepth 20000 in
theorem gX2_columnOf_X2_placeIn : GoodIn wsX2_columnOf (va_wsS RX2 145 yX2_placeIn wsX2_placeIn) := goodIn_app (goodIn_of _ (by decide +kernel)) ggX2_columnOf_X2_placeIn
set_option maxRecDepth 20000 in
theorem ggX2_columnOf_X1_lineOf : GoodIn wsX2_columnOf wsX1_lineOf := goodIn_r _ [24, 25, 16, 6, 7, 8, 9, 10, 33, 34, 35, 36, 37, 38] (by decide +kernel) (by decide +kernel)
set_option maxRecDepth 20000 in
theorem gX2_columnOf_X1_lineOf : GoodIn wsX2_columnOf (wsV RX2 142 RX1 yX1_lineOf wsX1_lineOf) := goodIn_app (goodIn_of _ (by decide +kernel)) ggX2_columnOf_X1_lineOf
theorem dX2_columnOf_0 : decode cX2_columnOf 0 = .ok (.aload_n 0, 1) := by decide +kernel
theorem dX2_columnOf_1 : decode cX2_columnOf 1 = .ok (.getfield 10, 3) := by decide +kernel
theorem dX2_columnOf_4 : decode cX2_columnOf 4 = .ok (.iload_n 1, 1) := by decide +kernel
theorem dX2_columnOf_5 : decode cX2_columnOf 5 = .ok (.invokevirtual 110, 3) := by decide +kernel
theorem dX2_columnOf_8 : decode cX2_columnOf 8 = .ok (.ifCond .ne 13, 3) := by decide +kernel
theorem dX2_columnOf_11 : decode cX2_columnOf 11 = .ok (.new 113, 3) := by decide +kernel
theorem dX2_columnOf_14 : decode cX2_columnOf 14 = .ok (.dup, 1) := by decide +kernel
theorem dX2_columnOf_15 : decode cX2_columnOf 15 = .ok (.ldc 115, 2) := by decide +kernel
theorem dX2_columnOf_17 : decode cX2_columnOf 17 = .ok (.invokespecial 117, 3) := by decide +kernel
theorem dX2_columnOf_20 : decode cX2_columnOf 20 = .ok (.athrow, 1) := by decide +kernel
theorem dX2_columnOf_21 : decode cX2_columnOf 21 = .ok (.aload_n 0, 1) := by decide +kernel
theorem dX2_columnOf_22 : decode cX2_columnOf 22 = .ok (.getfield 10, 3) := by decide +kernel
theorem dX2_columnOf_25 : decode cX2_columnOf 25 = .ok (.iload_n 1, 1) := by decide +kernel
theorem dX2_columnOf_26 : decode cX2_columnOf 26 = .ok (.invokevirtual 139, 3) := by decide +kernel
theorem dX2_columnOf_29 : decode cX2_columnOf 29 = .ok (.ifCond .eq 14, 3) := by decide +kernel
theorem dX2_columnOf_32 : decode cX2_columnOf 32 = .ok (.aload_n 0, 1) := by decide +kernel
theorem dX2_columnOf_33 : decode cX2_columnOf 33 = .ok (.getfield 57, 3) := by decide +kernel
theorem dX2_columnOf_36 : decode cX2_columnOf 36 = .ok (.iload_n 1, 1) := by decide +kernel
theorem dX2_columnOf_37 : decode cX2_columnOf 37 = .ok (.invokestatic 145, 3) := by decide +kernel
theorem dX2_columnOf_40 : decode cX2_columnOf 40 = .ok (.goto 11, 3) := by decide +kernel
theorem dX2_columnOf_43 : decode cX2_columnOf 43 = .ok (.aload_n 0, 1) := by decide +kernel
theorem dX2_columnOf_44 : decode cX2_columnOf 44 = .ok (.getfield 10, 3) := by decide +kernel
theorem dX2_columnOf_47 : decode cX2_columnOf 47 = .ok (.iload_n 1, 1) := by decide +kernel
theorem dX2_columnOf_48 : decode cX2_columnOf 48 = .ok (.invokevirtual 142, 3) := by decide +kernel
theorem dX2_columnOf_51 : decode cX2_columnOf 51 = .ok (.ireturn, 1) := by decide +kernel
set_option maxRecDepth 20000 in
theorem ggX2_at_X2_isInYard : GoodIn wsX2_at wsX2_isInYard := goodIn_r _ [8] (by decide +kernel) (by decide +kernel)
set_option maxRecDepth 20000 in
theorem gX2_at_X2_isInYard : GoodIn wsX2_at (va_wsS RX2 25 yX2_isInYard wsX2_isInYard) := goodIn_app (goodIn_of _ (by decide +kernel)) ggX2_at_X2_isInYard
set_option maxRecDepth 20000 in
theorem ggX2_at_X2_cellOf : GoodIn wsX2_at wsX2_cellOf := goodIn_r _ [11] (by decide +kernel) (by decide +kernel)
set_option maxRecDepth 20000 in
theorem gX2_at_X2_cellOf : GoodIn wsX2_at (va_wsS RX2 88 yX2_cellOf wsX2_cellOf) := goodIn_app (goodIn_of _ (by decide +kernel)) ggX2_at_X2_cellOf
set_option maxRecDepth 20000 in
theorem ggX2_at_X1_vehicleOn : GoodIn wsX2_at wsX1_vehicleOn := goodIn_r _ [16, 17, 18, 19, 20, 15, 21, 22, 23, 24, 25, 26, 27, 28, 7, 29, 37, 38, 39, 40, 41, 42] (by decide +kernel) (by decide +kernel)
set_option maxRecDepth 20000 in
theorem gX2_at_X1_vehicleOn : GoodIn wsX2_at (wsV RX2 92 RX1 yX1_vehicleOn wsX1_vehicleOn) := goodIn_app (goodIn_of _ (by decide +kernel)) ggX2_at_X1_vehicleOn
theorem dX2_at_0 : decode cX2_at 0 = .ok (.iload_n 1, 1) := by decide +kernel
theorem dX2_at_1 : decode cX2_at 1 = .ok (.iload_n 2, 1) := by decide +kernel
theorem dX2_at_2 : decode cX2_at 2 = .ok (.invokestatic 25, 3) := by decide +kernel
theorem dX2_at_5 : decode cX2_at 5 = .ok (.ifCond .ne 13, 3) := by decide +kernel
theorem dX2_at_8 : decode cX2_at 8 = .ok (.new 29, 3) := by decide +kernel
theorem dX2_at_11 : decode cX2_at 11 = .ok (.dup, 1) := by decide +kernel
theorem dX2_at_12 : decode cX2_at 12 = .ok (.ldc 84, 2) := by decide +kernel
theorem dX2_at_14 : decode cX2_at 14 = .ok (.invokespecial 33, 3) := by decide +kernel
theorem dX2_at_17 : decode cX2_at 17 = .ok (.athrow, 1) := by decide +kernel
theorem dX2_at_18 : decode cX2_at 18 = .ok (.aload_n 0, 1) := by decide +kernel
theorem dX2_at_19 : decode cX2_at 19 = .ok (.getfield 10, 3) := by decide +kernel
theorem dX2_at_22 : decode cX2_at 22 = .ok (.aload_n 0, 1) := by decide +kernel
theorem dX2_at_23 : decode cX2_at 23 = .ok (.getfield 57, 3) := by decide +kernel
theorem dX2_at_26 : decode cX2_at 26 = .ok (.iload_n 1, 1) := by decide +kernel
theorem dX2_at_27 : decode cX2_at 27 = .ok (.iload_n 2, 1) := by decide +kernel
theorem dX2_at_28 : decode cX2_at 28 = .ok (.invokestatic 88, 3) := by decide +kernel
theorem dX2_at_31 : decode cX2_at 31 = .ok (.invokevirtual 92, 3) := by decide +kernel
theorem dX2_at_34 : decode cX2_at 34 = .ok (.ireturn, 1) := by decide +kernel
set_option maxRecDepth 20000 in
theorem ggX2_freeWay_X1_has : GoodIn wsX2_freeWay wsX1_has := goodIn_r _ [8, 9, 47, 48, 49, 50, 51, 52] (by decide +kernel) (by decide +kernel)
set_option maxRecDepth 20000 in
theorem gX2_freeWay_X1_has : GoodIn wsX2_freeWay (wsV RX2 110 RX1 yX1_has wsX1_has) := goodIn_app (goodIn_of _ (by decide +kernel)) ggX2_freeWay_X1_has
set_option maxRecDepth 20000 in
theorem ggX2_freeWay_X2_wayNow : GoodIn wsX2_freeWay wsX2_wayNow := goodIn_r _ [14, 3, 15, 16, 17, 18, 7, 19, 9, 20, 21, 22, 23, 24, 25, 26, 5, 6, 8, 27, 13, 28, 29, 30, 31, 32, 33, 34, 35, 36, 37, 38, 39, 40, 41, 42, 43, 44, 45, 46, 47, 48, 49, 50, 51, 52] (by decide +kernel) (by decide +kernel)
set_option maxRecDepth 20000 in
theorem gX2_freeWay_X2_wayNow : GoodIn wsX2_freeWay (wsV RX2 126 RX2 yX2_wayNow wsX2_wayNow) := goodIn_app (goodIn_of _ (by decide +kernel)) ggX2_freeWay_X2_wayNow
theorem dX2_freeWay_0 : decode cX2_freeWay 0 = .ok (.aload_n 0, 1) := by decide +kernel
theorem dX2_freeWay_1 : decode cX2_freeWay 1 = .ok (.getfield 10, 3) := by decide +kernel
theorem dX2_freeWay_4 : decode cX2_freeWay 4 = .ok (.iload_n 1, 1) := by decide +kernel
theorem dX2_freeWay_5 : decode cX2_freeWay 5 = .ok (.invokevirtual 110, 3) := by decide +kernel
theorem dX2_freeWay_8 : decode cX2_freeWay 8 = .ok (.ifCond .ne 13, 3) := by decide +kernel
theorem dX2_freeWay_11 : decode cX2_freeWay 11 = .ok (.new 113, 3) := by decide +kernel
theorem dX2_freeWay_14 : decode cX2_freeWay 14 = .ok (.dup, 1) := by decide +kernel
theorem dX2_freeWay_15 : decode cX2_freeWay 15 = .ok (.ldc 115, 2) := by decide +kernel
theorem dX2_freeWay_17 : decode cX2_freeWay 17 = .ok (.invokespecial 117, 3) := by decide +kernel
theorem dX2_freeWay_20 : decode cX2_freeWay 20 = .ok (.athrow, 1) := by decide +kernel
theorem dX2_freeWay_21 : decode cX2_freeWay 21 = .ok (.aload_n 0, 1) := by decide +kernel
theorem dX2_freeWay_22 : decode cX2_freeWay 22 = .ok (.iload_n 1, 1) := by decide +kernel
theorem dX2_freeWay_23 : decode cX2_freeWay 23 = .ok (.iload_n 2, 1) := by decide +kernel
theorem dX2_freeWay_24 : decode cX2_freeWay 24 = .ok (.invokevirtual 126, 3) := by decide +kernel
theorem dX2_freeWay_27 : decode cX2_freeWay 27 = .ok (.ireturn, 1) := by decide +kernel
set_option maxRecDepth 20000 in
theorem ggX2_inTheWay_X2_placeIn : GoodIn wsX2_inTheWay wsX2_placeIn := goodIn_r _ [6] (by decide +kernel) (by decide +kernel)
set_option maxRecDepth 20000 in
theorem gX2_inTheWay_X2_placeIn : GoodIn wsX2_inTheWay (va_wsS RX2 145 yX2_placeIn wsX2_placeIn) := goodIn_app (goodIn_of _ (by decide +kernel)) ggX2_inTheWay_X2_placeIn
set_option maxRecDepth 20000 in
theorem ggX2_inTheWay_X2_cellOf : GoodIn wsX2_inTheWay wsX2_cellOf := goodIn_r _ [9] (by decide +kernel) (by decide +kernel)
set_option maxRecDepth 20000 in
theorem gX2_inTheWay_X2_cellOf : GoodIn wsX2_inTheWay (va_wsS RX2 88 yX2_cellOf wsX2_cellOf) := goodIn_app (goodIn_of _ (by decide +kernel)) ggX2_inTheWay_X2_cellOf
set_option maxRecDepth 20000 in
theorem ggX2_inTheWay_X1_count : GoodIn wsX2_inTheWay wsX1_count := goodIn_r _ [14, 15, 33, 34, 35, 36, 37, 38] (by decide +kernel) (by decide +kernel)
set_option maxRecDepth 20000 in
theorem gX2_inTheWay_X1_count : GoodIn wsX2_inTheWay (wsV RX2 38 RX1 yX1_count wsX1_count) := goodIn_app (goodIn_of _ (by decide +kernel)) ggX2_inTheWay_X1_count
set_option maxRecDepth 20000 in
theorem ggX2_inTheWay_X1_cellsIn : GoodIn wsX2_inTheWay wsX1_cellsIn := goodIn_r _ [19, 20, 21, 22, 23, 24, 13, 25, 15, 4, 5, 6, 33, 34, 35, 36, 37, 38] (by decide +kernel) (by decide +kernel)
set_option maxRecDepth 20000 in
theorem gX2_inTheWay_X1_cellsIn : GoodIn wsX2_inTheWay (wsV RX2 149 RX1 yX1_cellsIn wsX1_cellsIn) := goodIn_app (goodIn_of _ (by decide +kernel)) ggX2_inTheWay_X1_cellsIn
theorem dX2_inTheWay_0 : decode cX2_inTheWay 0 = .ok (.lconst 0, 1) := by decide +kernel
theorem dX2_inTheWay_1 : decode cX2_inTheWay 1 = .ok (.lstore_n 1, 1) := by decide +kernel
theorem dX2_inTheWay_2 : decode cX2_inTheWay 2 = .ok (.aload_n 0, 1) := by decide +kernel
theorem dX2_inTheWay_3 : decode cX2_inTheWay 3 = .ok (.getfield 57, 3) := by decide +kernel
theorem dX2_inTheWay_6 : decode cX2_inTheWay 6 = .ok (.iconst 0, 1) := by decide +kernel
theorem dX2_inTheWay_7 : decode cX2_inTheWay 7 = .ok (.invokestatic 145, 3) := by decide +kernel
theorem dX2_inTheWay_10 : decode cX2_inTheWay 10 = .ok (.iconst 2, 1) := by decide +kernel
theorem dX2_inTheWay_11 : decode cX2_inTheWay 11 = .ok (.iadd, 1) := by decide +kernel
theorem dX2_inTheWay_12 : decode cX2_inTheWay 12 = .ok (.istore_n 3, 1) := by decide +kernel
theorem dX2_inTheWay_13 : decode cX2_inTheWay 13 = .ok (.iload_n 3, 1) := by decide +kernel
theorem dX2_inTheWay_14 : decode cX2_inTheWay 14 = .ok (.bipush 6, 2) := by decide +kernel
theorem dX2_inTheWay_16 : decode cX2_inTheWay 16 = .ok (.if_icmp .ge 17, 3) := by decide +kernel
theorem dX2_inTheWay_19 : decode cX2_inTheWay 19 = .ok (.lload_n 1, 1) := by decide +kernel
theorem dX2_inTheWay_20 : decode cX2_inTheWay 20 = .ok (.iconst 2, 1) := by decide +kernel
theorem dX2_inTheWay_21 : decode cX2_inTheWay 21 = .ok (.iload_n 3, 1) := by decide +kernel
theorem dX2_inTheWay_22 : decode cX2_inTheWay 22 = .ok (.invokestatic 88, 3) := by decide +kernel
theorem dX2_inTheWay_25 : decode cX2_inTheWay 25 = .ok (.lor, 1) := by decide +kernel
theorem dX2_inTheWay_26 : decode cX2_inTheWay 26 = .ok (.lstore_n 1, 1) := by decide +kernel
theorem dX2_inTheWay_27 : decode cX2_inTheWay 27 = .ok (.iinc 3 1, 3) := by decide +kernel
theorem dX2_inTheWay_30 : decode cX2_inTheWay 30 = .ok (.goto (-17), 3) := by decide +kernel
theorem dX2_inTheWay_33 : decode cX2_inTheWay 33 = .ok (.iconst 0, 1) := by decide +kernel
theorem dX2_inTheWay_34 : decode cX2_inTheWay 34 = .ok (.istore_n 3, 1) := by decide +kernel
theorem dX2_inTheWay_35 : decode cX2_inTheWay 35 = .ok (.iconst 0, 1) := by decide +kernel
theorem dX2_inTheWay_36 : decode cX2_inTheWay 36 = .ok (.istore 4, 2) := by decide +kernel
theorem dX2_inTheWay_38 : decode cX2_inTheWay 38 = .ok (.iload 4, 2) := by decide +kernel
theorem dX2_inTheWay_40 : decode cX2_inTheWay 40 = .ok (.aload_n 0, 1) := by decide +kernel
theorem dX2_inTheWay_41 : decode cX2_inTheWay 41 = .ok (.getfield 10, 3) := by decide +kernel
theorem dX2_inTheWay_44 : decode cX2_inTheWay 44 = .ok (.invokevirtual 38, 3) := by decide +kernel
theorem dX2_inTheWay_47 : decode cX2_inTheWay 47 = .ok (.if_icmp .ge 32, 3) := by decide +kernel
theorem dX2_inTheWay_50 : decode cX2_inTheWay 50 = .ok (.aload_n 0, 1) := by decide +kernel
theorem dX2_inTheWay_51 : decode cX2_inTheWay 51 = .ok (.getfield 10, 3) := by decide +kernel
theorem dX2_inTheWay_54 : decode cX2_inTheWay 54 = .ok (.aload_n 0, 1) := by decide +kernel
theorem dX2_inTheWay_55 : decode cX2_inTheWay 55 = .ok (.getfield 57, 3) := by decide +kernel
theorem dX2_inTheWay_58 : decode cX2_inTheWay 58 = .ok (.iload 4, 2) := by decide +kernel
theorem dX2_inTheWay_60 : decode cX2_inTheWay 60 = .ok (.invokevirtual 149, 3) := by decide +kernel
theorem dX2_inTheWay_63 : decode cX2_inTheWay 63 = .ok (.lload_n 1, 1) := by decide +kernel
theorem dX2_inTheWay_64 : decode cX2_inTheWay 64 = .ok (.land, 1) := by decide +kernel
theorem dX2_inTheWay_65 : decode cX2_inTheWay 65 = .ok (.lconst 0, 1) := by decide +kernel
theorem dX2_inTheWay_66 : decode cX2_inTheWay 66 = .ok (.lcmp, 1) := by decide +kernel
theorem dX2_inTheWay_67 : decode cX2_inTheWay 67 = .ok (.ifCond .eq 6, 3) := by decide +kernel
theorem dX2_inTheWay_70 : decode cX2_inTheWay 70 = .ok (.iinc 3 1, 3) := by decide +kernel
theorem dX2_inTheWay_73 : decode cX2_inTheWay 73 = .ok (.iinc 4 1, 3) := by decide +kernel
theorem dX2_inTheWay_76 : decode cX2_inTheWay 76 = .ok (.goto (-38), 3) := by decide +kernel
theorem dX2_inTheWay_79 : decode cX2_inTheWay 79 = .ok (.iload_n 3, 1) := by decide +kernel
theorem dX2_inTheWay_80 : decode cX2_inTheWay 80 = .ok (.ireturn, 1) := by decide +kernel
set_option maxRecDepth 20000 in
theorem ggX2_isSolved_X2_placeIn : GoodIn wsX2_isSolved wsX2_placeIn := goodIn_r _ [5] (by decide +kernel) (by decide +kernel)
set_option maxRecDepth 20000 in
theorem gX2_isSolved_X2_placeIn : GoodIn wsX2_isSolved (va_wsS RX2 145 yX2_placeIn wsX2_placeIn) := goodIn_app (goodIn_of _ (by decide +kernel)) ggX2_isSolved_X2_placeIn
theorem dX2_isSolved_0 : decode cX2_isSolved 0 = .ok (.aload_n 0, 1) := by decide +kernel
theorem dX2_isSolved_1 : decode cX2_isSolved 1 = .ok (.getfield 57, 3) := by decide +kernel
theorem dX2_isSolved_4 : decode cX2_isSolved 4 = .ok (.iconst 0, 1) := by decide +kernel
theorem dX2_isSolved_5 : decode cX2_isSolved 5 = .ok (.invokestatic 145, 3) := by decide +kernel
theorem dX2_isSolved_8 : decode cX2_isSolved 8 = .ok (.iconst 4, 1) := by decide +kernel
theorem dX2_isSolved_9 : decode cX2_isSolved 9 = .ok (.if_icmp .ne 7, 3) := by decide +kernel
theorem dX2_isSolved_12 : decode cX2_isSolved 12 = .ok (.iconst 1, 1) := by decide +kernel
theorem dX2_isSolved_13 : decode cX2_isSolved 13 = .ok (.goto 4, 3) := by decide +kernel
theorem dX2_isSolved_16 : decode cX2_isSolved 16 = .ok (.iconst 0, 1) := by decide +kernel
theorem dX2_isSolved_17 : decode cX2_isSolved 17 = .ok (.ireturn, 1) := by decide +kernel
theorem dX2_moves_0 : decode cX2_moves 0 = .ok (.aload_n 0, 1) := by decide +kernel
theorem dX2_moves_1 : decode cX2_moves 1 = .ok (.getfield 44, 3) := by decide +kernel
theorem dX2_moves_4 : decode cX2_moves 4 = .ok (.ireturn, 1) := by decide +kernel
theorem dX2_driven_0 : decode cX2_driven 0 = .ok (.aload_n 0, 1) := by decide +kernel
theorem dX2_driven_1 : decode cX2_driven 1 = .ok (.getfield 136, 3) := by decide +kernel
theorem dX2_driven_4 : decode cX2_driven 4 = .ok (.ireturn, 1) := by decide +kernel
set_option maxRecDepth 20000 in
theorem ggX2_positions_X2_searchFromNow : GoodIn wsX2_positions wsX2_searchFromNow := goodIn_r _ [6, 7, 1, 8, 9, 10, 11, 12, 13, 14, 15, 16, 17, 18, 19, 20, 21, 22, 23, 24, 25, 26, 27, 28, 29, 30, 31, 32, 33, 5, 34, 35, 36, 37, 38, 39, 40, 41, 42, 43, 44, 45, 46, 47, 48, 49, 50, 51, 52, 53, 54, 55, 56, 57, 58, 59, 60, 61, 62, 63, 64, 65, 66, 67, 68, 69, 70, 71, 72, 73, 74, 75, 76, 77, 78, 79, 80, 81, 82, 83, 84, 85, 86, 87, 88, 89, 90, 91, 92, 93, 94, 95, 96, 97, 102, 103, 104, 105, 106, 107, 108, 109, 110, 111, 112, 113, 114, 115, 116, 117, 118, 119, 120, 121, 122, 123, 124] (by decide +kernel) (by decide +kernel)
set_option maxRecDepth 20000 in
theorem gX2_positions_X2_searchFromNow : GoodIn wsX2_positions (wsV RX2 152 RX2 yX2_searchFromNow wsX2_searchFromNow) := goodIn_app (goodIn_of _ (by decide +kernel)) ggX2_positions_X2_searchFromNow
set_option maxRecDepth 20000 in
theorem ggX2_positions_X0_count : GoodIn wsX2_positions wsX0_count := goodIn_r _ [101, 15, 109, 110, 111, 112, 113, 114, 115, 116, 117, 118] (by decide +kernel) (by decide +kernel)
set_option maxRecDepth 20000 in
theorem gX2_positions_X0_count : GoodIn wsX2_positions (wsV RX2 155 RX0 yX0_count wsX0_count) := goodIn_app (goodIn_of _ (by decide +kernel)) ggX2_positions_X0_count
theorem dX2_positions_0 : decode cX2_positions 0 = .ok (.aload_n 0, 1) := by decide +kernel
theorem dX2_positions_1 : decode cX2_positions 1 = .ok (.invokevirtual 152, 3) := by decide +kernel
theorem dX2_positions_4 : decode cX2_positions 4 = .ok (.aload_n 0, 1) := by decide +kernel
theorem dX2_positions_5 : decode cX2_positions 5 = .ok (.getfield 21, 3) := by decide +kernel
theorem dX2_positions_8 : decode cX2_positions 8 = .ok (.invokevirtual 155, 3) := by decide +kernel
theorem dX2_positions_11 : decode cX2_positions 11 = .ok (.ireturn, 1) := by decide +kernel
set_option maxRecDepth 20000 in
theorem ggX2_fewestMoves_X2_searchFromNow : GoodIn wsX2_fewestMoves wsX2_searchFromNow := goodIn_r _ [6, 7, 1, 8, 9, 10, 11, 12, 13, 14, 15, 16, 17, 18, 19, 20, 21, 22, 23, 24, 25, 26, 27, 28, 29, 30, 31, 32, 33, 5, 34, 35, 36, 37, 38, 39, 40, 41, 42, 43, 44, 45, 46, 47, 48, 49, 50, 51, 52, 53, 54, 55, 56, 57, 58, 59, 60, 61, 62, 63, 64, 65, 66, 67, 68, 69, 70, 71, 72, 73, 74, 75, 76, 77, 78, 79, 80, 81, 82, 83, 84, 85, 86, 87, 88, 89, 90, 91, 92, 93, 94, 95, 96, 97, 102, 103, 104, 105, 106, 107, 108, 109, 110, 111, 112, 113, 114, 115, 116, 117, 118, 119, 120, 121, 122, 123, 124] (by decide +kernel) (by decide +kernel)
set_option maxRecDepth 20000 in
theorem gX2_fewestMoves_X2_searchFromNow : GoodIn wsX2_fewestMoves (wsV RX2 152 RX2 yX2_searchFromNow wsX2_searchFromNow) := goodIn_app (goodIn_of _ (by decide +kernel)) ggX2_fewestMoves_X2_searchFromNow
set_option maxRecDepth 20000 in
theorem ggX2_fewestMoves_X0_movesToSolved : GoodIn wsX2_fewestMoves wsX0_movesToSolved := goodIn_r _ [101, 88, 109, 110, 111, 112, 113, 114, 115, 116, 117, 118] (by decide +kernel) (by decide +kernel)
set_option maxRecDepth 20000 in
theorem gX2_fewestMoves_X0_movesToSolved : GoodIn wsX2_fewestMoves (wsV RX2 156 RX0 yX0_movesToSolved wsX0_movesToSolved) := goodIn_app (goodIn_of _ (by decide +kernel)) ggX2_fewestMoves_X0_movesToSolved
theorem dX2_fewestMoves_0 : decode cX2_fewestMoves 0 = .ok (.aload_n 0, 1) := by decide +kernel
theorem dX2_fewestMoves_1 : decode cX2_fewestMoves 1 = .ok (.invokevirtual 152, 3) := by decide +kernel
theorem dX2_fewestMoves_4 : decode cX2_fewestMoves 4 = .ok (.aload_n 0, 1) := by decide +kernel
theorem dX2_fewestMoves_5 : decode cX2_fewestMoves 5 = .ok (.getfield 21, 3) := by decide +kernel
theorem dX2_fewestMoves_8 : decode cX2_fewestMoves 8 = .ok (.invokevirtual 156, 3) := by decide +kernel
theorem dX2_fewestMoves_11 : decode cX2_fewestMoves 11 = .ok (.ireturn, 1) := by decide +kernel
set_option maxRecDepth 20000 in
theorem ggX2_hint_X2_searchFromNow : GoodIn wsX2_hint wsX2_searchFromNow := goodIn_r _ [6, 7, 1, 8, 9, 10, 11, 12, 13, 14, 15, 16, 17, 18, 19, 20, 21, 22, 23, 24, 25, 26, 27, 28, 29, 30, 31, 32, 33, 5, 34, 35, 36, 37, 38, 39, 40, 41, 42, 43, 44, 45, 46, 47, 48, 49, 50, 51, 52, 53, 54, 55, 56, 57, 58, 59, 60, 61, 62, 63, 64, 65, 66, 67, 68, 69, 70, 71, 72, 73, 74, 75, 76, 77, 78, 79, 80, 81, 82, 83, 84, 85, 86, 87, 88, 89, 90, 91, 92, 93, 94, 95, 96, 97, 102, 103, 104, 105, 106, 107, 108, 109, 110, 111, 112, 113, 114, 115, 116, 117, 118, 119, 120, 121, 122, 123, 124] (by decide +kernel) (by decide +kernel)
set_option maxRecDepth 20000 in
theorem gX2_hint_X2_searchFromNow : GoodIn wsX2_hint (wsV RX2 152 RX2 yX2_searchFromNow wsX2_searchFromNow) := goodIn_app (goodIn_of _ (by decide +kernel)) ggX2_hint_X2_searchFromNow
set_option maxRecDepth 20000 in
theorem ggX2_hint_X0_firstMoveToSolved : GoodIn wsX2_hint wsX0_firstMoveToSolved := goodIn_r _ [101, 90, 109, 110, 111, 112, 113, 114, 115, 116, 117, 118] (by decide +kernel) (by decide +kernel)
set_option maxRecDepth 20000 in
theorem gX2_hint_X0_firstMoveToSolved : GoodIn wsX2_hint (wsV RX2 159 RX0 yX0_firstMoveToSolved wsX0_firstMoveToSolved) := goodIn_app (goodIn_of _ (by decide +kernel)) ggX2_hint_X0_firstMoveToSolved
theorem dX2_hint_0 : decode cX2_hint 0 = .ok (.aload_n 0, 1) := by decide +kernel
theorem dX2_hint_1 : decode cX2_hint 1 = .ok (.invokevirtual 152, 3) := by decide +kernel
theorem dX2_hint_4 : decode cX2_hint 4 = .ok (.aload_n 0, 1) := by decide +kernel
theorem dX2_hint_5 : decode cX2_hint 5 = .ok (.getfield 21, 3) := by decide +kernel
theorem dX2_hint_8 : decode cX2_hint 8 = .ok (.invokevirtual 159, 3) := by decide +kernel
theorem dX2_hint_11 : decode cX2_hint 11 = .ok (.ireturn, 1) := by decide +kernel
set_option maxRecDepth 20000 in
theorem ggX2_wayNow_X1_filledIn : GoodIn wsX2_wayNow wsX1_filledIn := goodIn_r _ [7, 8, 9, 10, 11, 6, 12, 13, 14, 15, 16, 17, 18, 19, 20, 21, 40, 41, 42, 43, 44, 45] (by decide +kernel) (by decide +kernel)
set_option maxRecDepth 20000 in
theorem gX2_wayNow_X1_filledIn : GoodIn wsX2_wayNow (wsV RX2 60 RX1 yX1_filledIn wsX1_filledIn) := goodIn_app (goodIn_of _ (by decide +kernel)) ggX2_wayNow_X1_filledIn
set_option maxRecDepth 20000 in
theorem ggX2_wayNow_X1_wayIn : GoodIn wsX2_wayNow wsX1_wayIn := goodIn_r _ [25, 26, 13, 27, 15, 16, 17, 6, 18, 8, 19, 20, 21, 9, 10, 11, 12, 14, 28, 29, 30, 31, 32, 40, 41, 42, 43, 44, 45] (by decide +kernel) (by decide +kernel)
set_option maxRecDepth 20000 in
theorem gX2_wayNow_X1_wayIn : GoodIn wsX2_wayNow (wsV RX2 173 RX1 yX1_wayIn wsX1_wayIn) := goodIn_app (goodIn_of _ (by decide +kernel)) ggX2_wayNow_X1_wayIn
theorem dX2_wayNow_0 : decode cX2_wayNow 0 = .ok (.aload_n 0, 1) := by decide +kernel
theorem dX2_wayNow_1 : decode cX2_wayNow 1 = .ok (.getfield 10, 3) := by decide +kernel
theorem dX2_wayNow_4 : decode cX2_wayNow 4 = .ok (.aload_n 0, 1) := by decide +kernel
theorem dX2_wayNow_5 : decode cX2_wayNow 5 = .ok (.getfield 57, 3) := by decide +kernel
theorem dX2_wayNow_8 : decode cX2_wayNow 8 = .ok (.aload_n 0, 1) := by decide +kernel
theorem dX2_wayNow_9 : decode cX2_wayNow 9 = .ok (.getfield 10, 3) := by decide +kernel
theorem dX2_wayNow_12 : decode cX2_wayNow 12 = .ok (.aload_n 0, 1) := by decide +kernel
theorem dX2_wayNow_13 : decode cX2_wayNow 13 = .ok (.getfield 57, 3) := by decide +kernel
theorem dX2_wayNow_16 : decode cX2_wayNow 16 = .ok (.invokevirtual 60, 3) := by decide +kernel
theorem dX2_wayNow_19 : decode cX2_wayNow 19 = .ok (.iload_n 1, 1) := by decide +kernel
theorem dX2_wayNow_20 : decode cX2_wayNow 20 = .ok (.iload_n 2, 1) := by decide +kernel
theorem dX2_wayNow_21 : decode cX2_wayNow 21 = .ok (.ifCond .eq 7, 3) := by decide +kernel
theorem dX2_wayNow_24 : decode cX2_wayNow 24 = .ok (.iconst 1, 1) := by decide +kernel
theorem dX2_wayNow_25 : decode cX2_wayNow 25 = .ok (.goto 4, 3) := by decide +kernel
theorem dX2_wayNow_28 : decode cX2_wayNow 28 = .ok (.iconst (-1), 1) := by decide +kernel
theorem dX2_wayNow_29 : decode cX2_wayNow 29 = .ok (.invokevirtual 173, 3) := by decide +kernel
theorem dX2_wayNow_32 : decode cX2_wayNow 32 = .ok (.ireturn, 1) := by decide +kernel
set_option maxRecDepth 20000 in
theorem ggX2_makeMove_X2_moved : GoodIn wsX2_makeMove wsX2_moved := goodIn_r _ [11] (by decide +kernel) (by decide +kernel)
set_option maxRecDepth 20000 in
theorem gX2_makeMove_X2_moved : GoodIn wsX2_makeMove (va_wsS RX2 76 yX2_moved wsX2_moved) := goodIn_app (goodIn_of _ (by decide +kernel)) ggX2_makeMove_X2_moved
set_option maxRecDepth 20000 in
theorem ggX2_makeMove_X2_standAt : GoodIn wsX2_makeMove wsX2_standAt := goodIn_r _ [15, 1, 16, 17, 18, 19, 20, 21, 22, 23] (by decide +kernel) (by decide +kernel)
set_option maxRecDepth 20000 in
theorem gX2_makeMove_X2_standAt : GoodIn wsX2_makeMove (wsV RX2 80 RX2 yX2_standAt wsX2_standAt) := goodIn_app (goodIn_of _ (by decide +kernel)) ggX2_makeMove_X2_standAt
theorem dX2_makeMove_0 : decode cX2_makeMove 0 = .ok (.aload_n 0, 1) := by decide +kernel
theorem dX2_makeMove_1 : decode cX2_makeMove 1 = .ok (.aload_n 0, 1) := by decide +kernel
theorem dX2_makeMove_2 : decode cX2_makeMove 2 = .ok (.getfield 57, 3) := by decide +kernel
theorem dX2_makeMove_5 : decode cX2_makeMove 5 = .ok (.iload_n 1, 1) := by decide +kernel
theorem dX2_makeMove_6 : decode cX2_makeMove 6 = .ok (.iload_n 2, 1) := by decide +kernel
theorem dX2_makeMove_7 : decode cX2_makeMove 7 = .ok (.invokestatic 76, 3) := by decide +kernel
theorem dX2_makeMove_10 : decode cX2_makeMove 10 = .ok (.invokevirtual 80, 3) := by decide +kernel
theorem dX2_makeMove_13 : decode cX2_makeMove 13 = .ok (.aload_n 0, 1) := by decide +kernel
theorem dX2_makeMove_14 : decode cX2_makeMove 14 = .ok (.dup, 1) := by decide +kernel
theorem dX2_makeMove_15 : decode cX2_makeMove 15 = .ok (.getfield 44, 3) := by decide +kernel
theorem dX2_makeMove_18 : decode cX2_makeMove 18 = .ok (.iconst 1, 1) := by decide +kernel
theorem dX2_makeMove_19 : decode cX2_makeMove 19 = .ok (.iadd, 1) := by decide +kernel
theorem dX2_makeMove_20 : decode cX2_makeMove 20 = .ok (.putfield 44, 3) := by decide +kernel
theorem dX2_makeMove_23 : decode cX2_makeMove 23 = .ok (.aload_n 0, 1) := by decide +kernel
theorem dX2_makeMove_24 : decode cX2_makeMove 24 = .ok (.dup, 1) := by decide +kernel
theorem dX2_makeMove_25 : decode cX2_makeMove 25 = .ok (.getfield 136, 3) := by decide +kernel
theorem dX2_makeMove_28 : decode cX2_makeMove 28 = .ok (.iload_n 2, 1) := by decide +kernel
theorem dX2_makeMove_29 : decode cX2_makeMove 29 = .ok (.invokestatic 120, 3) := by decide +kernel
theorem dX2_makeMove_32 : decode cX2_makeMove 32 = .ok (.iadd, 1) := by decide +kernel
theorem dX2_makeMove_33 : decode cX2_makeMove 33 = .ok (.putfield 136, 3) := by decide +kernel
theorem dX2_makeMove_36 : decode cX2_makeMove 36 = .ok (.return_, 1) := by decide +kernel
theorem dX2_standAt_0 : decode cX2_standAt 0 = .ok (.aload_n 0, 1) := by decide +kernel
theorem dX2_standAt_1 : decode cX2_standAt 1 = .ok (.iload_n 1, 1) := by decide +kernel
theorem dX2_standAt_2 : decode cX2_standAt 2 = .ok (.putfield 57, 3) := by decide +kernel
theorem dX2_standAt_5 : decode cX2_standAt 5 = .ok (.aload_n 0, 1) := by decide +kernel
theorem dX2_standAt_6 : decode cX2_standAt 6 = .ok (.iconst 0, 1) := by decide +kernel
theorem dX2_standAt_7 : decode cX2_standAt 7 = .ok (.putfield 106, 3) := by decide +kernel
theorem dX2_standAt_10 : decode cX2_standAt 10 = .ok (.return_, 1) := by decide +kernel
set_option maxRecDepth 20000 in
theorem ggX2_searchFromNow_X0_lookFrom : GoodIn wsX2_searchFromNow wsX0_lookFrom := goodIn_r _ [8, 9, 10, 11, 12, 13, 14, 15, 16, 17, 18, 7, 19, 20, 21, 22, 23, 24, 25, 26, 27, 28, 29, 30, 31, 32, 33, 34, 35, 36, 37, 38, 39, 40, 41, 42, 43, 44, 45, 46, 47, 48, 49, 50, 51, 52, 53, 54, 55, 56, 57, 58, 59, 60, 61, 62, 63, 64, 65, 66, 67, 68, 69, 70, 71, 72, 73, 74, 75, 76, 77, 78, 79, 80, 81, 82, 83, 84, 85, 86, 87, 88, 89, 90, 91, 92, 93, 101, 102, 103, 104, 105, 106, 107, 108, 109, 110, 111, 112, 113, 114, 115, 116] (by decide +kernel) (by decide +kernel)
set_option maxRecDepth 20000 in
theorem gX2_searchFromNow_X0_lookFrom : GoodIn wsX2_searchFromNow (wsV RX2 177 RX0 yX0_lookFrom wsX0_lookFrom) := goodIn_app (goodIn_of _ (by decide +kernel)) ggX2_searchFromNow_X0_lookFrom
theorem dX2_searchFromNow_0 : decode cX2_searchFromNow 0 = .ok (.aload_n 0, 1) := by decide +kernel
theorem dX2_searchFromNow_1 : decode cX2_searchFromNow 1 = .ok (.getfield 106, 3) := by decide +kernel
theorem dX2_searchFromNow_4 : decode cX2_searchFromNow 4 = .ok (.ifCond .ne 19, 3) := by decide +kernel
theorem dX2_searchFromNow_7 : decode cX2_searchFromNow 7 = .ok (.aload_n 0, 1) := by decide +kernel
theorem dX2_searchFromNow_8 : decode cX2_searchFromNow 8 = .ok (.getfield 21, 3) := by decide +kernel
theorem dX2_searchFromNow_11 : decode cX2_searchFromNow 11 = .ok (.aload_n 0, 1) := by decide +kernel
theorem dX2_searchFromNow_12 : decode cX2_searchFromNow 12 = .ok (.getfield 57, 3) := by decide +kernel
theorem dX2_searchFromNow_15 : decode cX2_searchFromNow 15 = .ok (.invokevirtual 177, 3) := by decide +kernel
theorem dX2_searchFromNow_18 : decode cX2_searchFromNow 18 = .ok (.aload_n 0, 1) := by decide +kernel
theorem dX2_searchFromNow_19 : decode cX2_searchFromNow 19 = .ok (.iconst 1, 1) := by decide +kernel
theorem dX2_searchFromNow_20 : decode cX2_searchFromNow 20 = .ok (.putfield 106, 3) := by decide +kernel
theorem dX2_searchFromNow_23 : decode cX2_searchFromNow 23 = .ok (.return_, 1) := by decide +kernel
theorem dX2_isInYard_0 : decode cX2_isInYard 0 = .ok (.iload_n 0, 1) := by decide +kernel
theorem dX2_isInYard_1 : decode cX2_isInYard 1 = .ok (.ifCond .lt 23, 3) := by decide +kernel
theorem dX2_isInYard_4 : decode cX2_isInYard 4 = .ok (.iload_n 0, 1) := by decide +kernel
theorem dX2_isInYard_5 : decode cX2_isInYard 5 = .ok (.bipush 6, 2) := by decide +kernel
theorem dX2_isInYard_7 : decode cX2_isInYard 7 = .ok (.if_icmp .ge 17, 3) := by decide +kernel
theorem dX2_isInYard_10 : decode cX2_isInYard 10 = .ok (.iload_n 1, 1) := by decide +kernel
theorem dX2_isInYard_11 : decode cX2_isInYard 11 = .ok (.ifCond .lt 13, 3) := by decide +kernel
theorem dX2_isInYard_14 : decode cX2_isInYard 14 = .ok (.iload_n 1, 1) := by decide +kernel
theorem dX2_isInYard_15 : decode cX2_isInYard 15 = .ok (.bipush 6, 2) := by decide +kernel
theorem dX2_isInYard_17 : decode cX2_isInYard 17 = .ok (.if_icmp .ge 7, 3) := by decide +kernel
theorem dX2_isInYard_20 : decode cX2_isInYard 20 = .ok (.iconst 1, 1) := by decide +kernel
theorem dX2_isInYard_21 : decode cX2_isInYard 21 = .ok (.goto 4, 3) := by decide +kernel
theorem dX2_isInYard_24 : decode cX2_isInYard 24 = .ok (.iconst 0, 1) := by decide +kernel
theorem dX2_isInYard_25 : decode cX2_isInYard 25 = .ok (.ireturn, 1) := by decide +kernel
theorem dX2_cellOf_0 : decode cX2_cellOf 0 = .ok (.lconst 1, 1) := by decide +kernel
theorem dX2_cellOf_1 : decode cX2_cellOf 1 = .ok (.bipush 6, 2) := by decide +kernel
theorem dX2_cellOf_3 : decode cX2_cellOf 3 = .ok (.iload_n 0, 1) := by decide +kernel
theorem dX2_cellOf_4 : decode cX2_cellOf 4 = .ok (.imul, 1) := by decide +kernel
theorem dX2_cellOf_5 : decode cX2_cellOf 5 = .ok (.iload_n 1, 1) := by decide +kernel
theorem dX2_cellOf_6 : decode cX2_cellOf 6 = .ok (.iadd, 1) := by decide +kernel
theorem dX2_cellOf_7 : decode cX2_cellOf 7 = .ok (.lshl, 1) := by decide +kernel
theorem dX2_cellOf_8 : decode cX2_cellOf 8 = .ok (.lreturn, 1) := by decide +kernel
set_option maxRecDepth 20000 in
theorem ggX2_cellsOf_X2_cellOf : GoodIn wsX2_cellsOf wsX2_cellOf := goodIn_r _ [4] (by decide +kernel) (by decide +kernel)
set_option maxRecDepth 20000 in
theorem gX2_cellsOf_X2_cellOf : GoodIn wsX2_cellsOf (va_wsS RX2 88 yX2_cellOf wsX2_cellOf) := goodIn_app (goodIn_of _ (by decide +kernel)) ggX2_cellsOf_X2_cellOf
theorem dX2_cellsOf_0 : decode cX2_cellsOf 0 = .ok (.lconst 0, 1) := by decide +kernel
theorem dX2_cellsOf_1 : decode cX2_cellsOf 1 = .ok (.lstore 4, 2) := by decide +kernel
theorem dX2_cellsOf_3 : decode cX2_cellsOf 3 = .ok (.iconst 0, 1) := by decide +kernel
theorem dX2_cellsOf_4 : decode cX2_cellsOf 4 = .ok (.istore 6, 2) := by decide +kernel
theorem dX2_cellsOf_6 : decode cX2_cellsOf 6 = .ok (.iload 6, 2) := by decide +kernel
theorem dX2_cellsOf_8 : decode cX2_cellsOf 8 = .ok (.iload_n 0, 1) := by decide +kernel
theorem dX2_cellsOf_9 : decode cX2_cellsOf 9 = .ok (.if_icmp .ge 43, 3) := by decide +kernel
theorem dX2_cellsOf_12 : decode cX2_cellsOf 12 = .ok (.iload 6, 2) := by decide +kernel
theorem dX2_cellsOf_14 : decode cX2_cellsOf 14 = .ok (.iconst 4, 1) := by decide +kernel
theorem dX2_cellsOf_15 : decode cX2_cellsOf 15 = .ok (.if_icmp .ge 37, 3) := by decide +kernel
theorem dX2_cellsOf_18 : decode cX2_cellsOf 18 = .ok (.lload 4, 2) := by decide +kernel
theorem dX2_cellsOf_20 : decode cX2_cellsOf 20 = .ok (.iload_n 1, 1) := by decide +kernel
theorem dX2_cellsOf_21 : decode cX2_cellsOf 21 = .ok (.ifCond .eq 14, 3) := by decide +kernel
theorem dX2_cellsOf_24 : decode cX2_cellsOf 24 = .ok (.iload_n 2, 1) := by decide +kernel
theorem dX2_cellsOf_25 : decode cX2_cellsOf 25 = .ok (.iload_n 3, 1) := by decide +kernel
theorem dX2_cellsOf_26 : decode cX2_cellsOf 26 = .ok (.iload 6, 2) := by decide +kernel
theorem dX2_cellsOf_28 : decode cX2_cellsOf 28 = .ok (.iadd, 1) := by decide +kernel
theorem dX2_cellsOf_29 : decode cX2_cellsOf 29 = .ok (.invokestatic 88, 3) := by decide +kernel
theorem dX2_cellsOf_32 : decode cX2_cellsOf 32 = .ok (.goto 11, 3) := by decide +kernel
theorem dX2_cellsOf_35 : decode cX2_cellsOf 35 = .ok (.iload_n 2, 1) := by decide +kernel
theorem dX2_cellsOf_36 : decode cX2_cellsOf 36 = .ok (.iload 6, 2) := by decide +kernel
theorem dX2_cellsOf_38 : decode cX2_cellsOf 38 = .ok (.iadd, 1) := by decide +kernel
theorem dX2_cellsOf_39 : decode cX2_cellsOf 39 = .ok (.iload_n 3, 1) := by decide +kernel
theorem dX2_cellsOf_40 : decode cX2_cellsOf 40 = .ok (.invokestatic 88, 3) := by decide +kernel
theorem dX2_cellsOf_43 : decode cX2_cellsOf 43 = .ok (.lor, 1) := by decide +kernel
theorem dX2_cellsOf_44 : decode cX2_cellsOf 44 = .ok (.lstore 4, 2) := by decide +kernel
theorem dX2_cellsOf_46 : decode cX2_cellsOf 46 = .ok (.iinc 6 1, 3) := by decide +kernel
theorem dX2_cellsOf_49 : decode cX2_cellsOf 49 = .ok (.goto (-43), 3) := by decide +kernel
theorem dX2_cellsOf_52 : decode cX2_cellsOf 52 = .ok (.lload 4, 2) := by decide +kernel
theorem dX2_cellsOf_54 : decode cX2_cellsOf 54 = .ok (.lreturn, 1) := by decide +kernel
theorem dX2_placeIn_0 : decode cX2_placeIn 0 = .ok (.iload_n 0, 1) := by decide +kernel
theorem dX2_placeIn_1 : decode cX2_placeIn 1 = .ok (.iconst 3, 1) := by decide +kernel
theorem dX2_placeIn_2 : decode cX2_placeIn 2 = .ok (.iload_n 1, 1) := by decide +kernel
theorem dX2_placeIn_3 : decode cX2_placeIn 3 = .ok (.imul, 1) := by decide +kernel
theorem dX2_placeIn_4 : decode cX2_placeIn 4 = .ok (.ishr, 1) := by decide +kernel
theorem dX2_placeIn_5 : decode cX2_placeIn 5 = .ok (.bipush 7, 2) := by decide +kernel
theorem dX2_placeIn_7 : decode cX2_placeIn 7 = .ok (.iand, 1) := by decide +kernel
theorem dX2_placeIn_8 : decode cX2_placeIn 8 = .ok (.ireturn, 1) := by decide +kernel
theorem dX2_moved_0 : decode cX2_moved 0 = .ok (.iload_n 0, 1) := by decide +kernel
theorem dX2_moved_1 : decode cX2_moved 1 = .ok (.iload_n 2, 1) := by decide +kernel
theorem dX2_moved_2 : decode cX2_moved 2 = .ok (.iconst 1, 1) := by decide +kernel
theorem dX2_moved_3 : decode cX2_moved 3 = .ok (.iconst 3, 1) := by decide +kernel
theorem dX2_moved_4 : decode cX2_moved 4 = .ok (.iload_n 1, 1) := by decide +kernel
theorem dX2_moved_5 : decode cX2_moved 5 = .ok (.imul, 1) := by decide +kernel
theorem dX2_moved_6 : decode cX2_moved 6 = .ok (.ishl, 1) := by decide +kernel
theorem dX2_moved_7 : decode cX2_moved 7 = .ok (.imul, 1) := by decide +kernel
theorem dX2_moved_8 : decode cX2_moved 8 = .ok (.iadd, 1) := by decide +kernel
theorem dX2_moved_9 : decode cX2_moved 9 = .ok (.ireturn, 1) := by decide +kernel
end
section
theorem dJ9_abs_0f7a4_0 : decode cJ9_abs_0f7a4 0 = .ok (.iload_n 0, 1) := by decide +kernel
theorem dJ9_abs_0f7a4_1 : decode cJ9_abs_0f7a4 1 = .ok (.ifCond .ge 8, 3) := by decide +kernel
theorem dJ9_abs_0f7a4_4 : decode cJ9_abs_0f7a4 4 = .ok (.iload_n 0, 1) := by decide +kernel
theorem dJ9_abs_0f7a4_5 : decode cJ9_abs_0f7a4 5 = .ok (.ineg, 1) := by decide +kernel
theorem dJ9_abs_0f7a4_6 : decode cJ9_abs_0f7a4 6 = .ok (.goto 4, 3) := by decide +kernel
theorem dJ9_abs_0f7a4_9 : decode cJ9_abs_0f7a4 9 = .ok (.iload_n 0, 1) := by decide +kernel
theorem dJ9_abs_0f7a4_10 : decode cJ9_abs_0f7a4 10 = .ok (.ireturn, 1) := by decide +kernel
theorem dJ7_fill_53178_0 : decode cJ7_fill_53178 0 = .ok (.iconst 0, 1) := by decide +kernel
theorem dJ7_fill_53178_1 : decode cJ7_fill_53178 1 = .ok (.istore_n 2, 1) := by decide +kernel
theorem dJ7_fill_53178_2 : decode cJ7_fill_53178 2 = .ok (.aload_n 0, 1) := by decide +kernel
theorem dJ7_fill_53178_3 : decode cJ7_fill_53178 3 = .ok (.arraylength, 1) := by decide +kernel
theorem dJ7_fill_53178_4 : decode cJ7_fill_53178 4 = .ok (.istore_n 3, 1) := by decide +kernel
theorem dJ7_fill_53178_5 : decode cJ7_fill_53178 5 = .ok (.iload_n 2, 1) := by decide +kernel
theorem dJ7_fill_53178_6 : decode cJ7_fill_53178 6 = .ok (.iload_n 3, 1) := by decide +kernel
theorem dJ7_fill_53178_7 : decode cJ7_fill_53178 7 = .ok (.if_icmp .ge 13, 3) := by decide +kernel
theorem dJ7_fill_53178_10 : decode cJ7_fill_53178 10 = .ok (.aload_n 0, 1) := by decide +kernel
theorem dJ7_fill_53178_11 : decode cJ7_fill_53178 11 = .ok (.iload_n 2, 1) := by decide +kernel
theorem dJ7_fill_53178_12 : decode cJ7_fill_53178 12 = .ok (.iload_n 1, 1) := by decide +kernel
theorem dJ7_fill_53178_13 : decode cJ7_fill_53178 13 = .ok (.iastore, 1) := by decide +kernel
theorem dJ7_fill_53178_14 : decode cJ7_fill_53178 14 = .ok (.iinc 2 1, 3) := by decide +kernel
theorem dJ7_fill_53178_17 : decode cJ7_fill_53178 17 = .ok (.goto (-12), 3) := by decide +kernel
theorem dJ7_fill_53178_20 : decode cJ7_fill_53178 20 = .ok (.return_, 1) := by decide +kernel
end
section
/-! What every contract here stands on: the nest mates' links, contracts that only read (ro_), contracts that write (rw_) -/
def nx_ws : List Cond := [.methodLinkNest RX2 9 yX1_init RX2, .methodLinkNest RX1 42 yX2_placeIn RX2, .methodLinkNest RX0 65 yX2_placeIn RX2, .methodLinkNest RX0 96 yX2_moved RX2, .methodLinkNest RX1 30 yX2_cellsOf RX2]
def nx_Ok (U : State) : Prop := ∀ w ∈ nx_ws, va_Nw w U
theorem nx_tab : ∀ w ∈ nx_ws, w.onTables = true := by
  intro w hw
  simp only [nx_ws, List.mem_cons, List.not_mem_nil, or_false] at hw
  rcases hw with rfl | rfl | rfl | rfl | rfl <;> rfl
theorem nx_Ok.same {u U : State} (h : u.vm = U.vm) (q : nx_Ok u) : nx_Ok U := fun w hw => va_Nw.same (nx_tab w hw) h (q w hw)
theorem nx_Ok.warm {s U : State} (hW : s.WarmedH U.vm) (q : nx_Ok s) : nx_Ok U := by
  intro w hw
  have h := q w hw
  simp only [nx_ws, List.mem_cons, List.not_mem_nil, or_false] at hw
  rcases hw with rfl | rfl | rfl | rfl | rfl <;> exact va_Nw.warmM hW h
theorem nx_get {U : State} {k : Nat} {w : Cond} (q : nx_Ok U) (h : nx_ws[k]? = some w) : va_Nw w U := q w (List.mem_of_getElem? h)
abbrev ro_A (sz : Nat) : Nat → Prop := fun q => sz ≤ q
def ro_Pc (D : va_G) (tys : List (ClassId × FieldType)) (ws : va_W) (sz : Nat) (av : List Value) : Array Value → State → Prop := va_Pc av (fun U => U.heap.size = sz ∧ va_P D vwCl ws U.heap ∧ va_K D vwCl tys U ∧ nx_Ok U)
theorem ro_blind {D : va_G} {tys : List (ClassId × FieldType)} {ws : va_W} {sz : Nat} {av : List Value} : FrameBlind (ro_Pc D tys ws sz av) := fun a U g mk q => by
  obtain ⟨q0, q1, qP, qK, qN⟩ := q
  exact ⟨q0, q1, qP, va_K.moved (u := U) (U := U.calling g mk a) (Vm.Alike.refl U.vm) qK, nx_Ok.same (u := U) (U := U.calling g mk a) rfl qN⟩
abbrev ro_Qi (f : Int32) (sz : Nat) : Array Value → State → Outcome → State → Prop := va_Qi (fun (r : Int32) (_ : Unit) => r = f) (fun _ _ => True) (ro_A sz)
abbrev ro_Ql (f : Int64) (sz : Nat) : Array Value → State → Outcome → State → Prop := va_Ql (fun (r : Int64) (_ : Unit) => r = f) (fun _ _ => True) (ro_A sz)
theorem ro_pre {s : State} {H : Heap} {D : va_G} {tys : List (ClassId × FieldType)} {wc : va_W} {av : List Value} (hPc : va_P D vwCl wc H) (hK : va_K D vwCl tys s) (hN : nx_Ok s) : ∀ U : State, U.heap = H → s.WarmedH U.vm → ro_Pc D tys wc H.size av av.toArray U := fun U hU hW => ⟨rfl, by rw [hU], by rw [hU]; exact hPc, va_K.moved hW.alike hK, nx_Ok.warm hW hN⟩
def rw_Pc (D : va_G) (tys : List (ClassId × FieldType)) (ws : va_W) (sz : Nat) (av : List Value) : Array Value → State → Prop := va_Pc av (fun U => U.heap.size = sz ∧ va_P D vwCl ws U.heap ∧ va_K D vwCl tys U ∧ va_D (fun _ => True) ws ∧ nx_Ok U)
theorem rw_blind {D : va_G} {tys : List (ClassId × FieldType)} {ws : va_W} {sz : Nat} {av : List Value} : FrameBlind (rw_Pc D tys ws sz av) := fun a U g mk q => by
  obtain ⟨q0, q1, qP, qK, qD, qN⟩ := q
  exact ⟨q0, q1, qP, va_K.moved (u := U) (U := U.calling g mk a) (Vm.Alike.refl U.vm) qK, qD, nx_Ok.same (u := U) (U := U.calling g mk a) rfl qN⟩
theorem rw_pre {s : State} {H : Heap} {D : va_G} {A : Nat → Prop} {tys : List (ClassId × FieldType)} {wc : va_W} {av : List Value} (hPc : va_P D vwCl wc H) (hDc : va_D A wc) (hK : va_K D vwCl tys s) (hN : nx_Ok s) : ∀ U : State, U.heap = H → s.WarmedH U.vm → rw_Pc D tys wc H.size av av.toArray U := fun U hU hW => ⟨rfl, by rw [hU], by rw [hU]; exact hPc, va_K.moved hW.alike hK, hDc.weaken (fun _ _ _ _ => trivial), nx_Ok.warm hW hN⟩
/-- a void method: the state f, held by the cells w f -/
abbrev rw_Qv {S : Type} (f : S) (w : S → va_W) (D : va_G) (ws0 : va_W) (sz : Nat) : Array Value → State → Outcome → State → Prop := va_Qv (fun u : S => u = f) (fun u t => va_P D vwCl (w u) t.heap ∧ va_D (va_A ws0 sz) (w u)) (va_A ws0 sz)
abbrev rw_Qi {S : Type} (g : Int32) (f : S) (w : S → va_W) (D : va_G) (ws0 : va_W) (sz : Nat) : Array Value → State → Outcome → State → Prop := va_Qi (fun (r : Int32) (u : S) => r = g ∧ u = f) (fun u t => va_P D vwCl (w u) t.heap ∧ va_D (va_A ws0 sz) (w u)) (va_A ws0 sz)
theorem va_P0 {D : va_G} {H : Heap} : va_P D vwCl [] H := fun k q h => by simp at h
/-- a part of a world, by places -/
theorem va_P.subm {D : va_G} {cl : List vw_C} {ws ws' : va_W} {H : Heap} (h : va_P D cl ws H) (is : List Nat) (hs : is.map (fun i => ws[i]?) = ws'.map some) : va_P D cl ws' H := by
  intro k q hk
  have h1 : (is.map (fun i => ws[i]?))[k]? = some (some q) := by rw [hs, List.getElem?_map, hk]; rfl
  rw [List.getElem?_map] at h1
  cases hi : is[k]? with
  | none => rw [hi] at h1; cases h1
  | some i => rw [hi] at h1; exact h i q (Option.some.inj h1)
section RoRw
variable {p : Program} {l : Launch} {e : Env} {R : Room} {s : State} {m : MethodId} {args : Array Value} {below : List Frame} {meth : Method} {c : Code} {H : Heap} {locs : List Loc} {cells slots : Nat} {Q : State → Prop}
variable {A0 : Nat → Prop} {H0 : Heap} {pc : Nat} {ls : Array Slot} {st0 rest : List Value} {D : va_G} {ws wc wr ws' : va_W} {av : Array Value}
theorem ro_i {f : Int32} (hr : va_Run p l e R s m args below meth c H locs cells slots 0 0 (F0 m pc ls st0) rest (ro_Qi f H.size av) (ro_A H.size)) (hS : va_S A0 H0 H locs) (hA : ∀ q, H0.size ≤ q → A0 q) (hP : va_P D vwCl ws H)
    (kk : ∀ (H1 : Heap) (locs1 : List Loc), va_P D vwCl ws H1 → va_S A0 H0 H1 locs1 → W p l e R s m args below meth c H1 locs1 cells slots Q (F0 m (pc + 3) ls (.int f :: rest))) : W p l e R s m args below meth c H locs cells slots Q (F0 m pc ls st0) := by
  refine va_calli hr hS (fun q h1 h2 => absurd h1 (Nat.not_lt.mpr h2)) (fun q h => hA q (Nat.le_trans hS.1 h)) (fun r u t H1 locs1 ht hvm hp hb hz hk hS1 => ?_)
  subst hp
  exact kk H1 locs1 (va_P.kept hP (fun k q hq => hk q.1 (hP k q hq).lt (Nat.not_le.mpr (hP k q hq).lt))) hS1
theorem ro_l {f : Int64} (hr : va_Run p l e R s m args below meth c H locs cells slots 0 0 (F0 m pc ls st0) rest (ro_Ql f H.size av) (ro_A H.size)) (hS : va_S A0 H0 H locs) (hA : ∀ q, H0.size ≤ q → A0 q) (hP : va_P D vwCl ws H)
    (kk : ∀ (H1 : Heap) (locs1 : List Loc), va_P D vwCl ws H1 → va_S A0 H0 H1 locs1 → W p l e R s m args below meth c H1 locs1 cells slots Q (F0 m (pc + 3) ls (.long f :: rest))) : W p l e R s m args below meth c H locs cells slots Q (F0 m pc ls st0) := by
  refine va_calll hr hS (fun q h1 h2 => absurd h1 (Nat.not_lt.mpr h2)) (fun q h => hA q (Nat.le_trans hS.1 h)) (fun r u t H1 locs1 ht hvm hp hb hz hk hS1 => ?_)
  subst hp
  exact kk H1 locs1 (va_P.kept hP (fun k q hq => hk q.1 (hP k q hq).lt (Nat.not_le.mpr (hP k q hq).lt))) hS1
theorem rw_v {S : Type} {f : S} {w : S → va_W} (hr : va_Run p l e R s m args below meth c H locs cells slots 0 0 (F0 m pc ls st0) rest (rw_Qv f w D wc H.size av) (va_A wc H.size)) (hS : va_S A0 H0 H locs) (hA : ∀ q, H0.size ≤ q → A0 q) (hP : va_P D vwCl ws H) (hD : va_D A0 ws)
    (isC isR perm : List Nat) (hC : isC.map (fun i => ws[i]?) = wc.map some) (hR : isR.map (fun i => ws[i]?) = wr.map some) (hn : va_nd isR = true) (hdis : ∀ i ∈ isR, i ∉ isC) (hperm : perm.map (fun i => (wr ++ w f)[i]?) = ws'.map some) (hpn : va_nd perm = true)
    (kk : ∀ (H1 : Heap) (locs1 : List Loc), va_P D vwCl ws' H1 → va_D A0 ws' → va_S A0 H0 H1 locs1 → W p l e R s m args below meth c H1 locs1 cells slots Q (F0 m (pc + 3) ls rest)) : W p l e R s m args below meth c H locs cells slots Q (F0 m pc ls st0) := by
  have hF := va_free (wc := wc) hD hS hA isC hC
  refine va_callv hr hS (fun q _ h => hF q h) hF (fun u t H1 locs1 ht hvm hp hb hz hk hS1 => ?_)
  subst hp
  obtain ⟨hP1, hD1⟩ := hb
  rw [ht] at hP1
  obtain ⟨hP2, hD2⟩ := va_join (wr := wr) hP hD isC isR hC hR hn hdis hk hF hP1 hD1
  exact kk H1 locs1 (hP2.subm perm hperm) (hD2.sub perm hpn hperm) hS1
theorem rw_i {S : Type} {g : Int32} {f : S} {w : S → va_W} (hr : va_Run p l e R s m args below meth c H locs cells slots 0 0 (F0 m pc ls st0) rest (rw_Qi g f w D wc H.size av) (va_A wc H.size)) (hS : va_S A0 H0 H locs) (hA : ∀ q, H0.size ≤ q → A0 q) (hP : va_P D vwCl ws H) (hD : va_D A0 ws)
    (isC isR perm : List Nat) (hC : isC.map (fun i => ws[i]?) = wc.map some) (hR : isR.map (fun i => ws[i]?) = wr.map some) (hn : va_nd isR = true) (hdis : ∀ i ∈ isR, i ∉ isC) (hperm : perm.map (fun i => (wr ++ w f)[i]?) = ws'.map some) (hpn : va_nd perm = true)
    (kk : ∀ (H1 : Heap) (locs1 : List Loc), va_P D vwCl ws' H1 → va_D A0 ws' → va_S A0 H0 H1 locs1 → W p l e R s m args below meth c H1 locs1 cells slots Q (F0 m (pc + 3) ls (.int g :: rest))) : W p l e R s m args below meth c H locs cells slots Q (F0 m pc ls st0) := by
  have hF := va_free (wc := wc) hD hS hA isC hC
  refine va_calli hr hS (fun q _ h => hF q h) hF (fun r u t H1 locs1 ht hvm hp hb hz hk hS1 => ?_)
  obtain ⟨rfl, rfl⟩ := hp
  obtain ⟨hP1, hD1⟩ := hb
  rw [ht] at hP1
  obtain ⟨hP2, hD2⟩ := va_join (wr := wr) hP hD isC isR hC hR hn hdis hk hF hP1 hD1
  exact kk H1 locs1 (hP2.subm perm hperm) (hD2.sub perm hpn hperm) hS1
end RoRw
/-! the class's state: Yard (sizes, acrosses, lines, shapes, how many, ramp) -/
abbrev YS : Type := (Nat → Int32) × (Nat → Int32) × (Nat → Int32) × (Nat → Int64) × Nat × Int64
abbrev y_sz (Y : YS) : Nat → Int32 := Y.1
abbrev y_ac (Y : YS) : Nat → Int32 := Y.2.1
abbrev y_li (Y : YS) : Nat → Int32 := Y.2.2.1
abbrev y_sh (Y : YS) : Nat → Int64 := Y.2.2.2.1
abbrev y_n (Y : YS) : Nat := Y.2.2.2.2.1
abbrev y_rp (Y : YS) : Int64 := Y.2.2.2.2.2
/-- Search: found, origins, moveCodes, slots; foundCount, firstSolved, solvedMoves, solvedCells, solvedFirstMove -/
abbrev SS : Type := (Nat → Int32) × (Nat → Int32) × (Nat → Int32) × (Nat → Int32) × Int32 × Int32 × Int32 × Int32 × Int32
abbrev s_fo (S : SS) : Nat → Int32 := S.1
abbrev s_or (S : SS) : Nat → Int32 := S.2.1
abbrev s_mo (S : SS) : Nat → Int32 := S.2.2.1
abbrev s_sl (S : SS) : Nat → Int32 := S.2.2.2.1
abbrev s_fc (S : SS) : Int32 := S.2.2.2.2.1
abbrev s_fs (S : SS) : Int32 := S.2.2.2.2.2.1
abbrev s_sm (S : SS) : Int32 := S.2.2.2.2.2.2.1
abbrev s_sc (S : SS) : Int32 := S.2.2.2.2.2.2.2.1
abbrev s_sf (S : SS) : Int32 := S.2.2.2.2.2.2.2.2
/-- RampJam: parkedPosition, position, moveCount, drivenCells, isSearched -/
abbrev JS : Type := Int32 × Int32 × Int32 × Int32 × Int32
abbrev j_pp (J : JS) : Int32 := J.1
abbrev j_po (J : JS) : Int32 := J.2.1
abbrev j_mc (J : JS) : Int32 := J.2.2.1
abbrev j_dc (J : JS) : Int32 := J.2.2.2.1
abbrev j_is (J : JS) : Int32 := J.2.2.2.2
/-- the cells: a 0 RampJam, a 1 Search and a 2 .. a 5 its rows, a 6 Yard and a 7 .. a 10 its rows -/
abbrev wY (cI cZ cJ : ClassId) (a : Nat → Nat) (Y : YS) : va_W := [(a 6, .inr (1, [.ref (a 7), .ref (a 8), .ref (a 9), .ref (a 10), .int (nI (y_n Y)), .long (y_rp Y)])), (a 7, .inl (cI, 9, .inl (y_sz Y))), (a 8, .inl (cZ, 9, .inl (y_ac Y))), (a 9, .inl (cI, 9, .inl (y_li Y))), (a 10, .inl (cJ, 9, .inr (.inl (y_sh Y))))]
abbrev wS (cI cZ cJ : ClassId) (a : Nat → Nat) (S : SS) (Y : YS) : va_W := [(a 1, .inr (0, [.ref (a 6), .ref (a 2), .ref (a 3), .ref (a 4), .ref (a 5), .int (s_fc S), .int (s_fs S), .int (s_sm S), .int (s_sc S), .int (s_sf S)])), (a 2, .inl (cI, 800, .inl (s_fo S))), (a 3, .inl (cI, 800, .inl (s_or S))), (a 4, .inl (cI, 800, .inl (s_mo S))), (a 5, .inl (cI, 2048, .inl (s_sl S))), (a 6, .inr (1, [.ref (a 7), .ref (a 8), .ref (a 9), .ref (a 10), .int (nI (y_n Y)), .long (y_rp Y)])), (a 7, .inl (cI, 9, .inl (y_sz Y))), (a 8, .inl (cZ, 9, .inl (y_ac Y))), (a 9, .inl (cI, 9, .inl (y_li Y))), (a 10, .inl (cJ, 9, .inr (.inl (y_sh Y))))]
abbrev wJ (cI cZ cJ : ClassId) (a : Nat → Nat) (J : JS) (S : SS) (Y : YS) : va_W := (a 0, .inr (2, [.ref (a 6), .ref (a 1), .int (j_pp J), .int (j_po J), .int (j_mc J), .int (j_dc J), .int (j_is J)])) :: wS cI cZ cJ a S Y
end
section
/-! What the methods of the class answer, written as functions over the machine's own numbers -/
abbrev b1 (P : Prop) [Decidable P] : Int32 := if P then 1 else 0
theorem b1_t {P : Prop} [Decidable P] (h : ¬ b1 P = 0) : P := by
  by_cases hp : P
  · exact hp
  · exact absurd (by simp [b1, hp]) h
theorem b1_f {P : Prop} [Decidable P] (h : b1 P = 0) : ¬ P := by
  intro hp
  simp [b1, hp] at h
theorem lg_t {x y : Int64} (h : lg_cmp x y = 0) : x = y := (lg_cmp_eq x y).mp h
theorem lg_f {x y : Int64} (h : ¬ lg_cmp x y = 0) : ¬ x = y := fun q => h ((lg_cmp_eq x y).mpr q)
theorem nx_ge {n k : Nat} (hn : n < 2147483648) (hk : k < 2147483648) (h : nI n ≤ nI k) : n ≤ k := (nI_leI hn hk).mp h
theorem nx_lt {n k : Nat} (hn : n < 2147483648) (hk : k < 2147483648) (h : ¬ nI n ≤ nI k) : k < n := Nat.not_le.mp (fun q => h ((nI_leI hn hk).mpr q))
theorem cl_toNat (x : Int32) : x.toNatClampNeg = x.toInt.toNat := rfl
theorem cl_bound (x : Int32) : x.toNatClampNeg < 2147483648 := by
  have := Int32.toInt_lt x
  rw [cl_toNat]; omega
theorem cl_lt {x : Int32} {k : Nat} (hk : k < 2147483648) (h : ¬ x ≤ nI k) : k < x.toNatClampNeg := by
  have h2 : (nI k).toInt = k := nI_toInt hk
  rw [Int32.le_iff_toInt_le, h2] at h
  rw [cl_toNat]; omega
theorem cl_ge {x : Int32} {k : Nat} (hk : k < 2147483648) (h : x ≤ nI k) : x.toNatClampNeg ≤ k := by
  have h2 : (nI k).toInt = k := nI_toInt hk
  rw [Int32.le_iff_toInt_le, h2] at h
  rw [cl_toNat]; omega
theorem nx_nl {x y : Int32} (h : ¬ y < x) : x ≤ y := Int32.not_lt.mp h
theorem nx_le {x y : Int32} (h : y < x) : ¬ x ≤ y := Int32.not_le.mpr h
def pl (x v : Int32) : Int32 := (x >>> ((3 * v) &&& 31)) &&& 7
def mv (x v c : Int32) : Int32 := x + c * (1 <<< ((3 * v) &&& 31))
abbrev inY (r c : Int32) : Prop := ¬ r < 0 ∧ ¬ 6 ≤ r ∧ ¬ c < 0 ∧ ¬ 6 ≤ c
def co (r c : Int32) : Int64 := 1 <<< ((6 * r + c).toInt64 &&& 63)
def cso (ac r c : Int32) : Nat → Int64
  | 0 => 0
  | k + 1 => cso ac r c k ||| (if ac = 0 then co (r + nI k) c else co r (c + nI k))
abbrev y_has (Y : YS) (v : Int32) : Prop := ¬ v < 0 ∧ ¬ nI (y_n Y) ≤ v ∧ ¬ 9 ≤ v
theorem cl_in {v : Int32} {n : Nat} (h0 : ¬ v < 0) (h : ¬ nI n ≤ v) (hn : n < 2147483648) : vp_in v n := by
  have h2 : (nI n).toInt = n := nI_toInt hn
  rw [vp_in_iff]
  rw [Int32.lt_iff_toInt_lt] at h0
  rw [Int32.le_iff_toInt_le, h2] at h
  have : (0 : Int32).toInt = 0 := rfl
  omega
theorem y_has_in {Y : YS} {v : Int32} (h : y_has Y v) : vp_in v 9 := cl_in (n := 9) h.1 h.2.2 (by decide)
abbrev y_lor (Y : YS) (v : Int32) : Prop := y_has Y v ∧ ¬ y_sz Y v.toNatClampNeg ≤ 2
def y_line (Y : YS) (v : Int32) : Int32 := if y_has Y v then y_li Y v.toNatClampNeg else 0
def y_bar (Y : YS) (sz : Int32) : Int64 := if sz ≤ 2 then 0 else y_rp Y
abbrev y_acr (Y : YS) (v : Int32) : Prop := y_has Y v ∧ ¬ y_ac Y v.toNatClampNeg = 0
def y_str (Y : YS) (v : Int32) : Int32 := if y_ac Y v.toNatClampNeg = 0 then 6 else 1
def y_cel (Y : YS) (x v : Int32) : Int64 := if y_has Y v then y_sh Y v.toNatClampNeg <<< ((y_str Y v * pl x v).toInt64 &&& 63) else 0
def y_fil (Y : YS) (x : Int32) : Nat → Int64
  | 0 => 0
  | k + 1 => y_fil Y x k ||| y_cel Y x (nI k)
def y_on (Y : YS) (x : Int32) (cell : Int64) : Nat → Nat → Int32
  | 0, _ => -1
  | d + 1, k => if y_cel Y x (nI k) &&& cell = 0 then y_on Y x cell d (k + 1) else nI k
def y_tb (Y : YS) (x v dir : Int32) : Int32 := if dir = 1 then 6 - y_sz Y v.toNatClampNeg - pl x v else pl x v
def y_shf (dir st : Int32) (c : Int64) : Int64 := if dir = 1 then c <<< (st.toInt64 &&& 63) else (c.toUInt64 >>> (st.toInt64.toUInt64 &&& Int64.toUInt64 63)).toInt64
def y_brd (Y : YS) (x : Int32) (fil : Int64) (v : Int32) : Int64 := (fil &&& (y_cel Y x v ^^^ (-1))) ||| y_bar Y (y_sz Y v.toNatClampNeg)
def y_wl (bar : Int64) (dir st tb : Int32) : Nat → Nat → Int64 → Int32
  | 0, _, _ => tb
  | d + 1, k, c => if y_shf dir st c &&& bar = 0 then y_wl bar dir st tb d (k + 1) (y_shf dir st c) else nI k
def y_way (Y : YS) (x : Int32) (fil : Int64) (v dir : Int32) : Int32 :=
  if y_has Y v then y_wl (y_brd Y x fil v) dir (y_str Y v) (y_tb Y x v dir) (y_tb Y x v dir).toNatClampNeg 0 (y_cel Y x v) else 0
def y_csh (size ac line : Int32) : Int64 := if ac = 0 then cso 0 0 line (min size.toNatClampNeg 4) else cso 1 line 0 (min size.toNatClampNeg 4)
def y_add (Y : YS) (size ac line : Int32) : YS := if y_n Y < 9 then (upd (y_sz Y) (y_n Y) size, upd (y_ac Y) (y_n Y) (vp_nar .boolean ac), upd (y_li Y) (y_n Y) line, vp_updL (y_sh Y) (y_n Y) (y_csh size ac line), y_n Y + 1, y_rp Y) else Y
def y_put (Y : YS) (cell : Int64) : YS := (y_sz Y, y_ac Y, y_li Y, y_sh Y, y_n Y, cell)
theorem y_wl_out {bar : Int64} {dir st tb : Int32} {k : Nat} {c : Int64} (h : tb ≤ nI k) (hk : k < 2147483648) : y_wl bar dir st tb (tb.toNatClampNeg - k) k c = tb := by
  have h2 := cl_ge hk h
  rw [show tb.toNatClampNeg - k = 0 by omega]; rfl
theorem y_wl_in {bar : Int64} {dir st tb : Int32} {k : Nat} {c : Int64} (h : k < tb.toNatClampNeg) : y_wl bar dir st tb (tb.toNatClampNeg - k) k c = if y_shf dir st c &&& bar = 0 then y_wl bar dir st tb (tb.toNatClampNeg - (k + 1)) (k + 1) (y_shf dir st c) else nI k := by
  obtain ⟨d, hd⟩ : ∃ d, tb.toNatClampNeg - k = d + 1 := ⟨tb.toNatClampNeg - k - 1, by omega⟩
  rw [hd, show tb.toNatClampNeg - (k + 1) = d by omega]; rfl
theorem y_on_in {Y : YS} {x : Int32} {cell : Int64} {n k : Nat} (h : k < n) : y_on Y x cell (n - k) k = if y_cel Y x (nI k) &&& cell = 0 then y_on Y x cell (n - (k + 1)) (k + 1) else nI k := by
  obtain ⟨d, hd⟩ : ∃ d, n - k = d + 1 := ⟨n - k - 1, by omega⟩
  rw [hd, show n - (k + 1) = d by omega]; rfl
theorem cl_in800 {v : Int32} (h0 : ¬ v < 0) (h : ¬ 800 ≤ v) : vp_in v 800 := cl_in (n := 800) h0 h (by decide)
theorem cl_in2048 {v : Int32} (h0 : ¬ v < 0) (h : ¬ 2048 ≤ v) : vp_in v 2048 := cl_in (n := 2048) h0 h (by decide)
abbrev iabs (x : Int32) : Int32 := if 0 ≤ x then x else 0 - x
abbrev s_isF (S : SS) (i : Int32) : Prop := ¬ i < 0 ∧ ¬ s_fc S ≤ i ∧ ¬ 800 ≤ i
theorem s_isF_in {S : SS} {i : Int32} (h : s_isF S i) : vp_in i 800 := cl_in800 h.1 h.2.2
def h_first (x : Int32) : Int32 := ((x * (-1640531535)).toUInt32 >>> ((21 : Int32).toUInt32 &&& Int32.toUInt32 31)).toInt32
def h_slot (x : Int32) (k : Nat) : Int32 := (h_first x + nI k) &&& 2047
theorem h_slot_in (y : Int32) : vp_in (y &&& 2047) 2048 := pk_andIn y (m := 2047) 11 (by decide) (by decide)
abbrev s_stop (S : SS) (x : Int32) (k : Nat) : Prop := s_sl S (h_slot x k).toNatClampNeg - 1 < 0 ∨ 800 ≤ s_sl S (h_slot x k).toNatClampNeg - 1 ∨ s_fo S (s_sl S (h_slot x k).toNatClampNeg - 1).toNatClampNeg = x
def s_slotL (S : SS) (x : Int32) : Nat → Nat → Int32
  | 0, _ => -1
  | d + 1, k => if s_stop S x k then h_slot x k else s_slotL S x d (k + 1)
theorem s_slotL_in {S : SS} {x : Int32} {k : Nat} (h : k < 2048) : s_slotL S x (2048 - k) k = if s_stop S x k then h_slot x k else s_slotL S x (2048 - (k + 1)) (k + 1) := by
  obtain ⟨d, hd⟩ : ∃ d, 2048 - k = d + 1 := ⟨2048 - k - 1, by omega⟩
  rw [hd, show 2048 - (k + 1) = d by omega]; rfl
def s_slot (S : SS) (x : Int32) : Int32 := s_slotL S x 2048 0
abbrev s_full (S : SS) (sl : Int32) : Prop := s_fc S < 0 ∨ 800 ≤ s_fc S ∨ sl < 0 ∨ 2048 ≤ sl ∨ ¬ s_sl S sl.toNatClampNeg = 0
def s_addN (S : SS) (x o c : Int32) : SS := if s_full S (s_slot S x) then S else
  (upd (s_fo S) (s_fc S).toNatClampNeg x, upd (s_or S) (s_fc S).toNatClampNeg o, upd (s_mo S) (s_fc S).toNatClampNeg c, upd (s_sl S) (s_slot S x).toNatClampNeg (s_fc S + 1), s_fc S + 1, if s_fs S = -1 ∧ pl x 0 = 4 then s_fc S else s_fs S, s_sm S, s_sc S, s_sf S)
def m_code (v c : Int32) : Int32 := 10 * v + c + 4
def m_cells (x : Int32) : Int32 := x - x / 10 * 10 - 4
def s_drvL (o v dir way : Int32) : Nat → Nat → SS → SS
  | 0, _, S => S
  | d + 1, k, S => if nI k ≤ way ∧ nI k ≤ 4 then s_drvL o v dir way d (k + 1) (s_addN S (mv (s_fo S o.toNatClampNeg) v (dir * nI k)) o (m_code v (dir * nI k))) else S
theorem s_drvL_in {o v dir way : Int32} {k : Nat} {S : SS} (h : k < 5) : s_drvL o v dir way (5 - k) k S = if nI k ≤ way ∧ nI k ≤ 4 then s_drvL o v dir way (5 - (k + 1)) (k + 1) (s_addN S (mv (s_fo S o.toNatClampNeg) v (dir * nI k)) o (m_code v (dir * nI k))) else S := by
  obtain ⟨d, hd⟩ : ∃ d, 5 - k = d + 1 := ⟨5 - k - 1, by omega⟩
  rw [hd, show 5 - (k + 1) = d by omega]; rfl
theorem s_drvL_out {o v dir way : Int32} {k : Nat} {S : SS} (h : ¬ (nI k ≤ way ∧ nI k ≤ 4)) : s_drvL o v dir way (5 - k) k S = S := by
  cases hd : 5 - k with
  | zero => rfl
  | succ d => rw [s_drvL, if_neg h]
def s_drv (S : SS) (o v dir way : Int32) : SS := if s_isF S o then s_drvL o v dir way 4 1 S else S
def s_reachL (Y : YS) (o x : Int32) (fil : Int64) : Nat → Nat → SS → SS
  | 0, _, S => S
  | d + 1, k, S => s_reachL Y o x fil d (k + 1) (s_drv (s_drv S o (nI k) (-1) (y_way Y x fil (nI k) (-1))) o (nI k) 1 (y_way Y x fil (nI k) 1))
theorem s_reachL_in {Y : YS} {o x : Int32} {fil : Int64} {n k : Nat} {S : SS} (h : k < n) : s_reachL Y o x fil (n - k) k S = s_reachL Y o x fil (n - (k + 1)) (k + 1) (s_drv (s_drv S o (nI k) (-1) (y_way Y x fil (nI k) (-1))) o (nI k) 1 (y_way Y x fil (nI k) 1)) := by
  obtain ⟨d, hd⟩ : ∃ d, n - k = d + 1 := ⟨n - k - 1, by omega⟩
  rw [hd, show n - (k + 1) = d by omega]; rfl
def s_reach (Y : YS) (S : SS) (o : Int32) : SS := if s_isF S o then s_reachL Y o (s_fo S o.toNatClampNeg) (y_fil Y (s_fo S o.toNatClampNeg) (y_n Y)) (y_n Y) 0 S else S
def s_lookL (Y : YS) : Nat → Nat → SS → SS
  | 0, _, S => S
  | d + 1, k, S => if ¬ s_fc S ≤ nI k ∧ ¬ 800 ≤ s_fc S then s_lookL Y d (k + 1) (s_reach Y S (nI k)) else S
theorem s_lookL_in {Y : YS} {k : Nat} {S : SS} (h : k < 800) : s_lookL Y (800 - k) k S = if ¬ s_fc S ≤ nI k ∧ ¬ 800 ≤ s_fc S then s_lookL Y (800 - (k + 1)) (k + 1) (s_reach Y S (nI k)) else S := by
  obtain ⟨d, hd⟩ : ∃ d, 800 - k = d + 1 := ⟨800 - k - 1, by omega⟩
  rw [hd, show 800 - (k + 1) = d by omega]; rfl
theorem s_lookL_out {Y : YS} {k : Nat} {S : SS} (h : ¬ (¬ s_fc S ≤ nI k ∧ ¬ 800 ≤ s_fc S)) : s_lookL Y (800 - k) k S = S := by
  cases hd : 800 - k with
  | zero => rfl
  | succ d => rw [s_lookL, if_neg h]
theorem s_look_lt {S : SS} {k : Nat} (hk : k < 2147483648) (h1 : ¬ s_fc S ≤ nI k) (h2 : ¬ 800 ≤ s_fc S) : k < 800 := by
  have e1 : (nI k).toInt = k := nI_toInt hk
  have e2 : (800 : Int32).toInt = 800 := rfl
  rw [Int32.le_iff_toInt_le] at h1 h2
  omega
def s_trL : Nat → Nat → Int32 → SS → SS
  | 0, _, _, S => S
  | d + 1, k, ix, S => if ¬ ix ≤ 0 ∧ s_isF S ix then s_trL d (k + 1) (s_or S ix.toNatClampNeg) (s_fo S, s_or S, s_mo S, s_sl S, s_fc S, s_fs S, nI k, s_sc S + iabs (m_cells (s_mo S ix.toNatClampNeg)), s_mo S ix.toNatClampNeg) else S
theorem s_trL_in {k : Nat} {ix : Int32} {S : SS} (h : k < 800) : s_trL (800 - k) k ix S = if ¬ ix ≤ 0 ∧ s_isF S ix then s_trL (800 - (k + 1)) (k + 1) (s_or S ix.toNatClampNeg) (s_fo S, s_or S, s_mo S, s_sl S, s_fc S, s_fs S, nI k, s_sc S + iabs (m_cells (s_mo S ix.toNatClampNeg)), s_mo S ix.toNatClampNeg) else S := by
  obtain ⟨d, hd⟩ : ∃ d, 800 - k = d + 1 := ⟨800 - k - 1, by omega⟩
  rw [hd, show 800 - (k + 1) = d by omega]; rfl
def s_tr0 (S : SS) : SS := (s_fo S, s_or S, s_mo S, s_sl S, s_fc S, s_fs S, if s_fs S = -1 then -1 else 0, 0, -1)
def s_trace (S : SS) : SS := s_trL 799 1 (s_fs S) (s_tr0 S)
def fillF (f : Nat → Int32) (n : Nat) (v : Int32) : Nat → Int32 := fun j => if j < n then v else f j
theorem fillF_0 (f : Nat → Int32) (v : Int32) : fillF f 0 v = f := by
  funext j; simp [fillF]
theorem fillF_succ {f : Nat → Int32} {k : Nat} {v : Int32} : upd (fillF f k v) k v = fillF f (k + 1) v := by
  funext j
  by_cases h : j = k
  · subst h; rw [pk_us]; simp [fillF]
  · rw [pk_un h]; simp only [fillF]
    by_cases h2 : j < k
    · rw [if_pos h2, if_pos (by omega)]
    · rw [if_neg h2, if_neg (by omega)]
def s_new (S : SS) : SS := (s_fo S, s_or S, s_mo S, fillF (s_sl S) 2048 0, 0, -1, s_sm S, s_sc S, s_sf S)
def s_look (Y : YS) (S : SS) (x : Int32) : SS := s_trace (s_lookL Y 800 0 (s_addN (s_new S) x 0 0))
def s_fat (S : SS) (v p : Int32) : Nat → Nat → Int32
  | 0, _ => 0
  | d + 1, k => if ¬ s_fc S ≤ nI k then (if pl (s_fo S k) v = p then 1 else s_fat S v p d (k + 1)) else 0
theorem s_fat_in {S : SS} {v p : Int32} {k : Nat} (h : k < 800) : s_fat S v p (800 - k) k = if ¬ s_fc S ≤ nI k then (if pl (s_fo S k) v = p then 1 else s_fat S v p (800 - (k + 1)) (k + 1)) else 0 := by
  obtain ⟨d, hd⟩ : ∃ d, 800 - k = d + 1 := ⟨800 - k - 1, by omega⟩
  rw [hd, show 800 - (k + 1) = d by omega]; rfl
theorem s_fat_out {S : SS} {v p : Int32} {k : Nat} (h : s_fc S ≤ nI k) : s_fat S v p (800 - k) k = 0 := by
  cases hd : 800 - k with
  | zero => rfl
  | succ d => rw [s_fat, if_neg (fun q => q h)]
def s_pos (S : SS) : Int32 := if s_isF S (s_fs S) then s_fo S (s_fs S).toNatClampNeg else 0
end
section
set_option maxHeartbeats 4000000 in
set_option maxRecDepth 100000 in
/-- placeIn -/
theorem c_X2_placeIn (l : Launch) (G : va_G) (cI cZ cJ : ClassId) (a : Nat → Nat) (sz : Nat) (x0 : Int32) (x1 : Int32)  : Met l yX2_placeIn wsX2_placeIn ({ frames := 0, cells := 0, slots := 0, locals := 0 }) (ro_Pc G [(cI, .int), (cZ, .boolean), (cJ, .long)] [] sz [.int x0, .int x1]) (ro_Qi (pl x0 x1) sz) 0 0 (ro_A sz) := by
  refine Met.ofW (cc := cX2_placeIn) (maxL := 2) (ret := (some .int)) (by decide) rfl ?_
  intro p e s m args below meth c s₁ B hml hv
  obtain ⟨rfl, hsz, hP, hK, hN⟩ := hv
  have hx := B.exec
  have hb := B.bytes
  have hr := B.returns
  have hts := atoms_spec (ws := wsX2_placeIn) B.pre
  have hown : s.vm.findClass RX2 = some m.cls := findClass_of_methodNamed B.named
  have hlocks := B.notSynchronized
  subst hsz
  have hA : ∀ q : Nat, s.heap.size ≤ q → (ro_A s.heap.size) q := fun _ h => h
  have hS : va_S (ro_A s.heap.size) s.heap s.heap [] := va_S.rf
  have hP : va_P G vwCl [] s.heap := hP
  have hl := lv_entry ([.int x0, .int x1]) (n := 2) (Nat.le_of_ble_eq_true rfl)
  rw [lg_entry_eq]
  generalize (lg_sl ([.int x0, .int x1]) ++ List.replicate (2 - (lg_sl ([.int x0, .int x1])).length) Slot.unset).toArray = ls at hl ⊢
  have hl : lv_has ls 2 [(0, .int x0), (1, .int x1)] := hl
  refine lv_iload_n hx hb dX2_placeIn_0 rfl (lv_at hl 0 rfl) ?_
  refine lv_iconst (v := 3) hx hb dX2_placeIn_1 (by decide) ?_
  refine lv_iload_n hx hb dX2_placeIn_2 rfl (lv_at hl 1 rfl) ?_
  refine lv_imul hx hb dX2_placeIn_3 ?_
  refine lv_ishr hx hb dX2_placeIn_4 ?_
  refine lv_bipush (v := 7) hx hb dX2_placeIn_5 (by decide) ?_
  refine lv_iand hx hb dX2_placeIn_7 ?_
  exact W.iret (v := ((x0 >>> ((3 * x1) &&& 31)) &&& 7)) hx hb hr (fun t ht hW => ⟨⟨((x0 >>> ((3 * x1) &&& 31)) &&& 7), (), rfl, rfl, trivial⟩, hS.F ht⟩) hS.2.2 dX2_placeIn_8

set_option maxHeartbeats 4000000 in
set_option maxRecDepth 100000 in
/-- moved -/
theorem c_X2_moved (l : Launch) (G : va_G) (cI cZ cJ : ClassId) (a : Nat → Nat) (sz : Nat) (x0 : Int32) (x1 : Int32) (x2 : Int32)  : Met l yX2_moved wsX2_moved ({ frames := 0, cells := 0, slots := 0, locals := 0 }) (ro_Pc G [(cI, .int), (cZ, .boolean), (cJ, .long)] [] sz [.int x0, .int x1, .int x2]) (ro_Qi (mv x0 x1 x2) sz) 0 0 (ro_A sz) := by
  refine Met.ofW (cc := cX2_moved) (maxL := 3) (ret := (some .int)) (by decide) rfl ?_
  intro p e s m args below meth c s₁ B hml hv
  obtain ⟨rfl, hsz, hP, hK, hN⟩ := hv
  have hx := B.exec
  have hb := B.bytes
  have hr := B.returns
  have hts := atoms_spec (ws := wsX2_moved) B.pre
  have hown : s.vm.findClass RX2 = some m.cls := findClass_of_methodNamed B.named
  have hlocks := B.notSynchronized
  subst hsz
  have hA : ∀ q : Nat, s.heap.size ≤ q → (ro_A s.heap.size) q := fun _ h => h
  have hS : va_S (ro_A s.heap.size) s.heap s.heap [] := va_S.rf
  have hP : va_P G vwCl [] s.heap := hP
  have hl := lv_entry ([.int x0, .int x1, .int x2]) (n := 3) (Nat.le_of_ble_eq_true rfl)
  rw [lg_entry_eq]
  generalize (lg_sl ([.int x0, .int x1, .int x2]) ++ List.replicate (3 - (lg_sl ([.int x0, .int x1, .int x2])).length) Slot.unset).toArray = ls at hl ⊢
  have hl : lv_has ls 3 [(0, .int x0), (1, .int x1), (2, .int x2)] := hl
  refine lv_iload_n hx hb dX2_moved_0 rfl (lv_at hl 0 rfl) ?_
  refine lv_iload_n hx hb dX2_moved_1 rfl (lv_at hl 2 rfl) ?_
  refine lv_iconst (v := 1) hx hb dX2_moved_2 (by decide) ?_
  refine lv_iconst (v := 3) hx hb dX2_moved_3 (by decide) ?_
  refine lv_iload_n hx hb dX2_moved_4 rfl (lv_at hl 1 rfl) ?_
  refine lv_imul hx hb dX2_moved_5 ?_
  refine lv_ishl hx hb dX2_moved_6 ?_
  refine lv_imul hx hb dX2_moved_7 ?_
  refine lv_iadd hx hb dX2_moved_8 ?_
  exact W.iret (v := (x0 + (x2 * (1 <<< ((3 * x1) &&& 31))))) hx hb hr (fun t ht hW => ⟨⟨(x0 + (x2 * (1 <<< ((3 * x1) &&& 31)))), (), rfl, rfl, trivial⟩, hS.F ht⟩) hS.2.2 dX2_moved_9

set_option maxHeartbeats 4000000 in
set_option maxRecDepth 100000 in
/-- isInYard -/
theorem c_X2_isInYard (l : Launch) (G : va_G) (cI cZ cJ : ClassId) (a : Nat → Nat) (sz : Nat) (x0 : Int32) (x1 : Int32)  : Met l yX2_isInYard wsX2_isInYard ({ frames := 0, cells := 0, slots := 0, locals := 0 }) (ro_Pc G [(cI, .int), (cZ, .boolean), (cJ, .long)] [] sz [.int x0, .int x1]) (ro_Qi (b1 (inY x0 x1)) sz) 0 0 (ro_A sz) := by
  refine Met.ofW (cc := cX2_isInYard) (maxL := 2) (ret := (some .boolean)) (by decide) rfl ?_
  intro p e s m args below meth c s₁ B hml hv
  obtain ⟨rfl, hsz, hP, hK, hN⟩ := hv
  have hx := B.exec
  have hb := B.bytes
  have hr := B.returns
  have hts := atoms_spec (ws := wsX2_isInYard) B.pre
  have hown : s.vm.findClass RX2 = some m.cls := findClass_of_methodNamed B.named
  have hlocks := B.notSynchronized
  subst hsz
  have hA : ∀ q : Nat, s.heap.size ≤ q → (ro_A s.heap.size) q := fun _ h => h
  have hS : va_S (ro_A s.heap.size) s.heap s.heap [] := va_S.rf
  have hP : va_P G vwCl [] s.heap := hP
  have hl := lv_entry ([.int x0, .int x1]) (n := 2) (Nat.le_of_ble_eq_true rfl)
  rw [lg_entry_eq]
  generalize (lg_sl ([.int x0, .int x1]) ++ List.replicate (2 - (lg_sl ([.int x0, .int x1])).length) Slot.unset).toArray = ls at hl ⊢
  have hl : lv_has ls 2 [(0, .int x0), (1, .int x1)] := hl
  refine lv_iload_n hx hb dX2_isInYard_0 rfl (lv_at hl 0 rfl) ?_
  refine lv_if_lt (tgt := 24) hx hb dX2_isInYard_1 (by decide) (fun c_1 => ?_) (fun c_1 => ?_)
  · refine lv_iconst (v := 0) hx hb dX2_isInYard_24 (by decide) ?_
    exact W.zret (ty := .boolean) (v := 0) hx hb hr (rfl) (fun t ht hW => ⟨⟨0, (), rfl, by simp [inY, c_1], trivial⟩, hS.F ht⟩) hS.2.2 dX2_isInYard_25
  · refine lv_iload_n hx hb dX2_isInYard_4 rfl (lv_at hl 0 rfl) ?_
    refine lv_bipush (v := 6) hx hb dX2_isInYard_5 (by decide) ?_
    refine lv_icmp_ge (tgt := 24) hx hb dX2_isInYard_7 (by decide) (fun c_2 => ?_) (fun c_2 => ?_)
    · refine lv_iconst (v := 0) hx hb dX2_isInYard_24 (by decide) ?_
      exact W.zret (ty := .boolean) (v := 0) hx hb hr (rfl) (fun t ht hW => ⟨⟨0, (), rfl, by simp [inY, c_1, c_2], trivial⟩, hS.F ht⟩) hS.2.2 dX2_isInYard_25
    · refine lv_iload_n hx hb dX2_isInYard_10 rfl (lv_at hl 1 rfl) ?_
      refine lv_if_lt (tgt := 24) hx hb dX2_isInYard_11 (by decide) (fun c_3 => ?_) (fun c_3 => ?_)
      · refine lv_iconst (v := 0) hx hb dX2_isInYard_24 (by decide) ?_
        exact W.zret (ty := .boolean) (v := 0) hx hb hr (rfl) (fun t ht hW => ⟨⟨0, (), rfl, by simp [inY, c_1, c_2, c_3], trivial⟩, hS.F ht⟩) hS.2.2 dX2_isInYard_25
      · refine lv_iload_n hx hb dX2_isInYard_14 rfl (lv_at hl 1 rfl) ?_
        refine lv_bipush (v := 6) hx hb dX2_isInYard_15 (by decide) ?_
        refine lv_icmp_ge (tgt := 24) hx hb dX2_isInYard_17 (by decide) (fun c_4 => ?_) (fun c_4 => ?_)
        · refine lv_iconst (v := 0) hx hb dX2_isInYard_24 (by decide) ?_
          exact W.zret (ty := .boolean) (v := 0) hx hb hr (rfl) (fun t ht hW => ⟨⟨0, (), rfl, by simp [inY, c_1, c_2, c_3, c_4], trivial⟩, hS.F ht⟩) hS.2.2 dX2_isInYard_25
        · refine lv_iconst (v := 1) hx hb dX2_isInYard_20 (by decide) ?_
          refine lv_goto (tgt := 25) hx hb dX2_isInYard_21 (by decide) ?_
          exact W.zret (ty := .boolean) (v := 1) hx hb hr (rfl) (fun t ht hW => ⟨⟨1, (), rfl, by simp [inY, c_1, c_2, c_3, c_4], trivial⟩, hS.F ht⟩) hS.2.2 dX2_isInYard_25

set_option maxHeartbeats 4000000 in
set_option maxRecDepth 100000 in
/-- cellOf -/
theorem c_X2_cellOf (l : Launch) (G : va_G) (cI cZ cJ : ClassId) (a : Nat → Nat) (sz : Nat) (x0 : Int32) (x1 : Int32)  : Met l yX2_cellOf wsX2_cellOf ({ frames := 0, cells := 0, slots := 0, locals := 0 }) (ro_Pc G [(cI, .int), (cZ, .boolean), (cJ, .long)] [] sz [.int x0, .int x1]) (ro_Ql (co x0 x1) sz) 0 0 (ro_A sz) := by
  refine Met.ofW (cc := cX2_cellOf) (maxL := 2) (ret := (some .long)) (by decide) rfl ?_
  intro p e s m args below meth c s₁ B hml hv
  obtain ⟨rfl, hsz, hP, hK, hN⟩ := hv
  have hx := B.exec
  have hb := B.bytes
  have hr := B.returns
  have hts := atoms_spec (ws := wsX2_cellOf) B.pre
  have hown : s.vm.findClass RX2 = some m.cls := findClass_of_methodNamed B.named
  have hlocks := B.notSynchronized
  subst hsz
  have hA : ∀ q : Nat, s.heap.size ≤ q → (ro_A s.heap.size) q := fun _ h => h
  have hS : va_S (ro_A s.heap.size) s.heap s.heap [] := va_S.rf
  have hP : va_P G vwCl [] s.heap := hP
  have hl := lv_entry ([.int x0, .int x1]) (n := 2) (Nat.le_of_ble_eq_true rfl)
  rw [lg_entry_eq]
  generalize (lg_sl ([.int x0, .int x1]) ++ List.replicate (2 - (lg_sl ([.int x0, .int x1])).length) Slot.unset).toArray = ls at hl ⊢
  have hl : lv_has ls 2 [(0, .int x0), (1, .int x1)] := hl
  refine lv_lconst (v := 1) hx hb dX2_cellOf_0 (by decide) ?_
  refine lv_bipush (v := 6) hx hb dX2_cellOf_1 (by decide) ?_
  refine lv_iload_n hx hb dX2_cellOf_3 rfl (lv_at hl 0 rfl) ?_
  refine lv_imul hx hb dX2_cellOf_4 ?_
  refine lv_iload_n hx hb dX2_cellOf_5 rfl (lv_at hl 1 rfl) ?_
  refine lv_iadd hx hb dX2_cellOf_6 ?_
  refine lv_lshl (v := (1 <<< (((6 * x0) + x1).toInt64 &&& 63))) hx hb dX2_cellOf_7 rfl ?_
  exact W.lret (v := (1 <<< (((6 * x0) + x1).toInt64 &&& 63))) hx hb hr (fun t ht hW => ⟨⟨(1 <<< (((6 * x0) + x1).toInt64 &&& 63)), (), rfl, rfl, trivial⟩, hS.F ht⟩) hS.2.2 dX2_cellOf_8

theorem in_X1_count_1 : ∀ w ∈ wsX10, w ∈ wsX1_count := by decide +kernel
set_option maxHeartbeats 4000000 in
set_option maxRecDepth 100000 in
/-- Yard.count -/
theorem c_X1_count (l : Launch) (G : va_G) (cI cZ cJ : ClassId) (a : Nat → Nat) (sz : Nat) (Y : YS)  : Met l yX1_count wsX1_count ({ frames := 0, cells := 0, slots := 0, locals := 0 }) (ro_Pc G [(cI, .int), (cZ, .boolean), (cJ, .long)] (wY cI cZ cJ a Y) sz [.ref (a 6)]) (ro_Qi (nI (y_n Y)) sz) 0 0 (ro_A sz) := by
  refine Met.ofW (cc := cX1_count) (maxL := 1) (ret := (some .int)) (by decide) rfl ?_
  intro p e s m args below meth c s₁ B hml hv
  obtain ⟨rfl, hsz, hP, hK, hN⟩ := hv
  have hx := B.exec
  have hb := B.bytes
  have hr := B.returns
  have hts := atoms_spec (ws := wsX1_count) B.pre
  have hown : s.vm.findClass RX1 = some m.cls := findClass_of_methodNamed B.named
  have hlocks := B.notSynchronized
  subst hsz
  have hA : ∀ q : Nat, s.heap.size ≤ q → (ro_A s.heap.size) q := fun _ h => h
  have hS : va_S (ro_A s.heap.size) s.heap s.heap [] := va_S.rf
  have hP : va_P G vwCl [((a 6), .inr (1, [.ref (a 7), .ref (a 8), .ref (a 9), .ref (a 10), .int (nI (y_n Y)), .long (y_rp Y)])), ((a 7), .inl (cI, 9, .inl (y_sz Y))), ((a 8), .inl (cZ, 9, .inl (y_ac Y))), ((a 9), .inl (cI, 9, .inl (y_li Y))), ((a 10), .inl (cJ, 9, .inr (.inl (y_sh Y))))] s.heap := hP
  have hl := lv_entry ([.ref (a 6)]) (n := 1) (Nat.le_of_ble_eq_true rfl)
  rw [lg_entry_eq]
  generalize (lg_sl ([.ref (a 6)]) ++ List.replicate (1 - (lg_sl ([.ref (a 6)])).length) Slot.unset).toArray = ls at hl ⊢
  have hl : lv_has ls 1 [(0, .ref (a 6))] := hl
  refine lv_aload_n hx hb dX1_count_0 rfl (lv_at hl 0 rfl) ?_
  refine va_get (D := G) (ci := 1) (v := .int (nI (y_n Y))) (C := RX1) (T := TX1) (N := 6) hx hb hts in_X1_count_1 hown hK hP 0 rfl rfl 4 (by decide) (hts (.fieldLink RX1 26 "RampJam$Yard" "vehicleCount" "I") (by decide +kernel)) (fun _ h9 => h9) rfl dX1_count_1 ?_
  exact W.iret (v := (nI (y_n Y))) hx hb hr (fun t ht hW => ⟨⟨(nI (y_n Y)), (), rfl, rfl, trivial⟩, hS.F ht⟩) hS.2.2 dX1_count_4

theorem in_X1_has_1 : ∀ w ∈ wsX10, w ∈ wsX1_has := by decide +kernel
set_option maxHeartbeats 4000000 in
set_option maxRecDepth 100000 in
/-- Yard.has -/
theorem c_X1_has (l : Launch) (G : va_G) (cI cZ cJ : ClassId) (a : Nat → Nat) (sz : Nat) (Y : YS) (v : Int32)  : Met l yX1_has wsX1_has ({ frames := 0, cells := 0, slots := 0, locals := 0 }) (ro_Pc G [(cI, .int), (cZ, .boolean), (cJ, .long)] (wY cI cZ cJ a Y) sz [.ref (a 6), .int v]) (ro_Qi (b1 (y_has Y v)) sz) 0 0 (ro_A sz) := by
  refine Met.ofW (cc := cX1_has) (maxL := 2) (ret := (some .boolean)) (by decide) rfl ?_
  intro p e s m args below meth c s₁ B hml hv
  obtain ⟨rfl, hsz, hP, hK, hN⟩ := hv
  have hx := B.exec
  have hb := B.bytes
  have hr := B.returns
  have hts := atoms_spec (ws := wsX1_has) B.pre
  have hown : s.vm.findClass RX1 = some m.cls := findClass_of_methodNamed B.named
  have hlocks := B.notSynchronized
  subst hsz
  have hA : ∀ q : Nat, s.heap.size ≤ q → (ro_A s.heap.size) q := fun _ h => h
  have hS : va_S (ro_A s.heap.size) s.heap s.heap [] := va_S.rf
  have hP : va_P G vwCl [((a 6), .inr (1, [.ref (a 7), .ref (a 8), .ref (a 9), .ref (a 10), .int (nI (y_n Y)), .long (y_rp Y)])), ((a 7), .inl (cI, 9, .inl (y_sz Y))), ((a 8), .inl (cZ, 9, .inl (y_ac Y))), ((a 9), .inl (cI, 9, .inl (y_li Y))), ((a 10), .inl (cJ, 9, .inr (.inl (y_sh Y))))] s.heap := hP
  have hl := lv_entry ([.ref (a 6), .int v]) (n := 2) (Nat.le_of_ble_eq_true rfl)
  rw [lg_entry_eq]
  generalize (lg_sl ([.ref (a 6), .int v]) ++ List.replicate (2 - (lg_sl ([.ref (a 6), .int v])).length) Slot.unset).toArray = ls at hl ⊢
  have hl : lv_has ls 2 [(0, .ref (a 6)), (1, .int v)] := hl
  refine lv_iload_n hx hb dX1_has_0 rfl (lv_at hl 1 rfl) ?_
  refine lv_if_lt (tgt := 22) hx hb dX1_has_1 (by decide) (fun c_1 => ?_) (fun c_1 => ?_)
  · refine lv_iconst (v := 0) hx hb dX1_has_22 (by decide) ?_
    exact W.zret (ty := .boolean) (v := 0) hx hb hr (rfl) (fun t ht hW => ⟨⟨0, (), rfl, by simp [y_has, c_1], trivial⟩, hS.F ht⟩) hS.2.2 dX1_has_23
  · refine lv_iload_n hx hb dX1_has_4 rfl (lv_at hl 1 rfl) ?_
    refine lv_aload_n hx hb dX1_has_5 rfl (lv_at hl 0 rfl) ?_
    refine va_get (D := G) (ci := 1) (v := .int (nI (y_n Y))) (C := RX1) (T := TX1) (N := 6) hx hb hts in_X1_has_1 hown hK hP 0 rfl rfl 4 (by decide) (hts (.fieldLink RX1 26 "RampJam$Yard" "vehicleCount" "I") (by decide +kernel)) (fun _ h9 => h9) rfl dX1_has_6 ?_
    refine lv_icmp_ge (tgt := 22) hx hb dX1_has_9 (by decide) (fun c_2 => ?_) (fun c_2 => ?_)
    · refine lv_iconst (v := 0) hx hb dX1_has_22 (by decide) ?_
      exact W.zret (ty := .boolean) (v := 0) hx hb hr (rfl) (fun t ht hW => ⟨⟨0, (), rfl, by simp [y_has, c_1, c_2], trivial⟩, hS.F ht⟩) hS.2.2 dX1_has_23
    · refine lv_iload_n hx hb dX1_has_12 rfl (lv_at hl 1 rfl) ?_
      refine lv_bipush (v := 9) hx hb dX1_has_13 (by decide) ?_
      refine lv_icmp_ge (tgt := 22) hx hb dX1_has_15 (by decide) (fun c_3 => ?_) (fun c_3 => ?_)
      · refine lv_iconst (v := 0) hx hb dX1_has_22 (by decide) ?_
        exact W.zret (ty := .boolean) (v := 0) hx hb hr (rfl) (fun t ht hW => ⟨⟨0, (), rfl, by simp [y_has, c_1, c_2, c_3], trivial⟩, hS.F ht⟩) hS.2.2 dX1_has_23
      · refine lv_iconst (v := 1) hx hb dX1_has_18 (by decide) ?_
        refine lv_goto (tgt := 23) hx hb dX1_has_19 (by decide) ?_
        exact W.zret (ty := .boolean) (v := 1) hx hb hr (rfl) (fun t ht hW => ⟨⟨1, (), rfl, by simp [y_has, c_1, c_2, c_3], trivial⟩, hS.F ht⟩) hS.2.2 dX1_has_23

theorem in_X1_isLorry_1 : ∀ w ∈ wsX10, w ∈ wsX1_isLorry := by decide +kernel
set_option maxHeartbeats 4000000 in
set_option maxRecDepth 100000 in
/-- Yard.isLorry -/
theorem c_X1_isLorry (l : Launch) (G : va_G) (cI cZ cJ : ClassId) (a : Nat → Nat) (sz : Nat) (Y : YS) (v : Int32)  : Met l yX1_isLorry wsX1_isLorry ({ frames := 1, cells := 0, slots := 0, locals := 21 }) (ro_Pc G [(cI, .int), (cZ, .boolean), (cJ, .long)] (wY cI cZ cJ a Y) sz [.ref (a 6), .int v]) (ro_Qi (b1 (y_lor Y v)) sz) 0 0 (ro_A sz) := by
  refine Met.ofW (cc := cX1_isLorry) (maxL := 2) (ret := (some .boolean)) (by decide) rfl ?_
  intro p e s m args below meth c s₁ B hml hv
  obtain ⟨rfl, hsz, hP, hK, hN⟩ := hv
  have hx := B.exec
  have hb := B.bytes
  have hr := B.returns
  have hts := atoms_spec (ws := wsX1_isLorry) B.pre
  have hown : s.vm.findClass RX1 = some m.cls := findClass_of_methodNamed B.named
  have hlocks := B.notSynchronized
  subst hsz
  have hA : ∀ q : Nat, s.heap.size ≤ q → (ro_A s.heap.size) q := fun _ h => h
  have hS : va_S (ro_A s.heap.size) s.heap s.heap [] := va_S.rf
  have hP : va_P G vwCl [((a 6), .inr (1, [.ref (a 7), .ref (a 8), .ref (a 9), .ref (a 10), .int (nI (y_n Y)), .long (y_rp Y)])), ((a 7), .inl (cI, 9, .inl (y_sz Y))), ((a 8), .inl (cZ, 9, .inl (y_ac Y))), ((a 9), .inl (cI, 9, .inl (y_li Y))), ((a 10), .inl (cJ, 9, .inr (.inl (y_sh Y))))] s.heap := hP
  have hl := lv_entry ([.ref (a 6), .int v]) (n := 2) (Nat.le_of_ble_eq_true rfl)
  rw [lg_entry_eq]
  generalize (lg_sl ([.ref (a 6), .int v]) ++ List.replicate (2 - (lg_sl ([.ref (a 6), .int v])).length) Slot.unset).toArray = ls at hl ⊢
  have hl : lv_has ls 2 [(0, .ref (a 6)), (1, .int v)] := hl
  refine lv_aload_n hx hb dX1_isLorry_0 rfl (lv_at hl 0 rfl) ?_
  refine lv_iload_n hx hb dX1_isLorry_1 rfl (lv_at hl 1 rfl) ?_
  refine ro_i (va_runV (As := [.int v]) (rest := []) ⟨hx, hb, hml, hown, hts⟩ ((c_X1_has l G cI cZ cJ a _ Y v)) (cwV 1 hts gX1_isLorry_X1_has rfl rfl rfl (by decide +kernel) ⟨Nat.le_of_ble_eq_true rfl, Nat.le_of_ble_eq_true rfl⟩) ⟨ro_blind, va_recv hK hP (ci := 1) (q0 := 0) rfl rfl, ro_pre hP hK hN⟩ rfl rfl hl.1 rfl (lv_room (Nat.le_of_ble_eq_true rfl)) dX1_isLorry_2 ⟨Nat.zero_le _, Nat.zero_le _⟩) hS hA hP (fun H locs hP hS => ?_)
  refine lv_if_eq (tgt := 22) hx hb dX1_isLorry_5 (by decide) (fun c_1 => ?_) (fun c_1 => ?_)
  · have c_1 := b1_f c_1
    refine lv_iconst (v := 0) hx hb dX1_isLorry_22 (by decide) ?_
    exact W.zret (ty := .boolean) (v := 0) hx hb hr (rfl) (fun t ht hW => ⟨⟨0, (), rfl, by simp [y_lor, c_1], trivial⟩, hS.F ht⟩) hS.2.2 dX1_isLorry_23
  · have c_1 := b1_t c_1
    refine lv_aload_n hx hb dX1_isLorry_8 rfl (lv_at hl 0 rfl) ?_
    refine va_get (D := G) (ci := 1) (v := .ref (a 7)) (C := RX1) (T := TX1) (N := 6) hx hb hts in_X1_isLorry_1 hown hK hP 0 rfl rfl 0 (by decide) (hts (.fieldLink RX1 9 "RampJam$Yard" "sizes" "[I") (by decide +kernel)) (fun _ h9 => h9) rfl dX1_isLorry_9 ?_
    refine lv_iload_n hx hb dX1_isLorry_12 rfl (lv_at hl 1 rfl) ?_
    refine va_iald hx hb hK hP 1 0 rfl rfl (y_has_in (by assumption)) dX1_isLorry_13 ?_
    refine lv_iconst (v := 2) hx hb dX1_isLorry_14 (by decide) ?_
    refine lv_icmp_le (tgt := 22) hx hb dX1_isLorry_15 (by decide) (fun c_2 => ?_) (fun c_2 => ?_)
    · refine lv_iconst (v := 0) hx hb dX1_isLorry_22 (by decide) ?_
      exact W.zret (ty := .boolean) (v := 0) hx hb hr (rfl) (fun t ht hW => ⟨⟨0, (), rfl, by simp [y_lor, c_1, c_2], trivial⟩, hS.F ht⟩) hS.2.2 dX1_isLorry_23
    · refine lv_iconst (v := 1) hx hb dX1_isLorry_18 (by decide) ?_
      refine lv_goto (tgt := 23) hx hb dX1_isLorry_19 (by decide) ?_
      exact W.zret (ty := .boolean) (v := 1) hx hb hr (rfl) (fun t ht hW => ⟨⟨1, (), rfl, by simp [y_lor, c_1, c_2], trivial⟩, hS.F ht⟩) hS.2.2 dX1_isLorry_23

theorem in_X1_lineOf_1 : ∀ w ∈ wsX10, w ∈ wsX1_lineOf := by decide +kernel
set_option maxHeartbeats 4000000 in
set_option maxRecDepth 100000 in
/-- Yard.lineOf -/
theorem c_X1_lineOf (l : Launch) (G : va_G) (cI cZ cJ : ClassId) (a : Nat → Nat) (sz : Nat) (Y : YS) (v : Int32)  : Met l yX1_lineOf wsX1_lineOf ({ frames := 1, cells := 0, slots := 0, locals := 21 }) (ro_Pc G [(cI, .int), (cZ, .boolean), (cJ, .long)] (wY cI cZ cJ a Y) sz [.ref (a 6), .int v]) (ro_Qi (y_line Y v) sz) 0 0 (ro_A sz) := by
  refine Met.ofW (cc := cX1_lineOf) (maxL := 2) (ret := (some .int)) (by decide) rfl ?_
  intro p e s m args below meth c s₁ B hml hv
  obtain ⟨rfl, hsz, hP, hK, hN⟩ := hv
  have hx := B.exec
  have hb := B.bytes
  have hr := B.returns
  have hts := atoms_spec (ws := wsX1_lineOf) B.pre
  have hown : s.vm.findClass RX1 = some m.cls := findClass_of_methodNamed B.named
  have hlocks := B.notSynchronized
  subst hsz
  have hA : ∀ q : Nat, s.heap.size ≤ q → (ro_A s.heap.size) q := fun _ h => h
  have hS : va_S (ro_A s.heap.size) s.heap s.heap [] := va_S.rf
  have hP : va_P G vwCl [((a 6), .inr (1, [.ref (a 7), .ref (a 8), .ref (a 9), .ref (a 10), .int (nI (y_n Y)), .long (y_rp Y)])), ((a 7), .inl (cI, 9, .inl (y_sz Y))), ((a 8), .inl (cZ, 9, .inl (y_ac Y))), ((a 9), .inl (cI, 9, .inl (y_li Y))), ((a 10), .inl (cJ, 9, .inr (.inl (y_sh Y))))] s.heap := hP
  have hl := lv_entry ([.ref (a 6), .int v]) (n := 2) (Nat.le_of_ble_eq_true rfl)
  rw [lg_entry_eq]
  generalize (lg_sl ([.ref (a 6), .int v]) ++ List.replicate (2 - (lg_sl ([.ref (a 6), .int v])).length) Slot.unset).toArray = ls at hl ⊢
  have hl : lv_has ls 2 [(0, .ref (a 6)), (1, .int v)] := hl
  refine lv_aload_n hx hb dX1_lineOf_0 rfl (lv_at hl 0 rfl) ?_
  refine lv_iload_n hx hb dX1_lineOf_1 rfl (lv_at hl 1 rfl) ?_
  refine ro_i (va_runV (As := [.int v]) (rest := []) ⟨hx, hb, hml, hown, hts⟩ ((c_X1_has l G cI cZ cJ a _ Y v)) (cwV 1 hts gX1_lineOf_X1_has rfl rfl rfl (by decide +kernel) ⟨Nat.le_of_ble_eq_true rfl, Nat.le_of_ble_eq_true rfl⟩) ⟨ro_blind, va_recv hK hP (ci := 1) (q0 := 0) rfl rfl, ro_pre hP hK hN⟩ rfl rfl hl.1 rfl (lv_room (Nat.le_of_ble_eq_true rfl)) dX1_lineOf_2 ⟨Nat.zero_le _, Nat.zero_le _⟩) hS hA hP (fun H locs hP hS => ?_)
  refine lv_if_eq (tgt := 17) hx hb dX1_lineOf_5 (by decide) (fun c_1 => ?_) (fun c_1 => ?_)
  · have c_1 := b1_f c_1
    refine lv_iconst (v := 0) hx hb dX1_lineOf_17 (by decide) ?_
    exact W.iret (v := 0) hx hb hr (fun t ht hW => ⟨⟨0, (), rfl, by simp [y_line, c_1], trivial⟩, hS.F ht⟩) hS.2.2 dX1_lineOf_18
  · have c_1 := b1_t c_1
    refine lv_aload_n hx hb dX1_lineOf_8 rfl (lv_at hl 0 rfl) ?_
    refine va_get (D := G) (ci := 1) (v := .ref (a 9)) (C := RX1) (T := TX1) (N := 6) hx hb hts in_X1_lineOf_1 hown hK hP 0 rfl rfl 2 (by decide) (hts (.fieldLink RX1 19 "RampJam$Yard" "lines" "[I") (by decide +kernel)) (fun _ h9 => h9) rfl dX1_lineOf_9 ?_
    refine lv_iload_n hx hb dX1_lineOf_12 rfl (lv_at hl 1 rfl) ?_
    refine va_iald hx hb hK hP 3 0 rfl rfl (y_has_in c_1) dX1_lineOf_13 ?_
    refine lv_goto (tgt := 18) hx hb dX1_lineOf_14 (by decide) ?_
    exact W.iret (v := ((y_li Y) (v.toNatClampNeg))) hx hb hr (fun t ht hW => ⟨⟨((y_li Y) (v.toNatClampNeg)), (), rfl, by simp [y_line, c_1], trivial⟩, hS.F ht⟩) hS.2.2 dX1_lineOf_18

theorem in_X1_barredTo_1 : ∀ w ∈ wsX10, w ∈ wsX1_barredTo := by decide +kernel
set_option maxHeartbeats 4000000 in
set_option maxRecDepth 100000 in
/-- Yard.barredTo -/
theorem c_X1_barredTo (l : Launch) (G : va_G) (cI cZ cJ : ClassId) (a : Nat → Nat) (sz : Nat) (Y : YS) (v : Int32)  : Met l yX1_barredTo wsX1_barredTo ({ frames := 0, cells := 0, slots := 0, locals := 0 }) (ro_Pc G [(cI, .int), (cZ, .boolean), (cJ, .long)] (wY cI cZ cJ a Y) sz [.ref (a 6), .int v]) (ro_Ql (y_bar Y v) sz) 0 0 (ro_A sz) := by
  refine Met.ofW (cc := cX1_barredTo) (maxL := 2) (ret := (some .long)) (by decide) rfl ?_
  intro p e s m args below meth c s₁ B hml hv
  obtain ⟨rfl, hsz, hP, hK, hN⟩ := hv
  have hx := B.exec
  have hb := B.bytes
  have hr := B.returns
  have hts := atoms_spec (ws := wsX1_barredTo) B.pre
  have hown : s.vm.findClass RX1 = some m.cls := findClass_of_methodNamed B.named
  have hlocks := B.notSynchronized
  subst hsz
  have hA : ∀ q : Nat, s.heap.size ≤ q → (ro_A s.heap.size) q := fun _ h => h
  have hS : va_S (ro_A s.heap.size) s.heap s.heap [] := va_S.rf
  have hP : va_P G vwCl [((a 6), .inr (1, [.ref (a 7), .ref (a 8), .ref (a 9), .ref (a 10), .int (nI (y_n Y)), .long (y_rp Y)])), ((a 7), .inl (cI, 9, .inl (y_sz Y))), ((a 8), .inl (cZ, 9, .inl (y_ac Y))), ((a 9), .inl (cI, 9, .inl (y_li Y))), ((a 10), .inl (cJ, 9, .inr (.inl (y_sh Y))))] s.heap := hP
  have hl := lv_entry ([.ref (a 6), .int v]) (n := 2) (Nat.le_of_ble_eq_true rfl)
  rw [lg_entry_eq]
  generalize (lg_sl ([.ref (a 6), .int v]) ++ List.replicate (2 - (lg_sl ([.ref (a 6), .int v])).length) Slot.unset).toArray = ls at hl ⊢
  have hl : lv_has ls 2 [(0, .ref (a 6)), (1, .int v)] := hl
  refine lv_iload_n hx hb dX1_barredTo_0 rfl (lv_at hl 1 rfl) ?_
  refine lv_iconst (v := 2) hx hb dX1_barredTo_1 (by decide) ?_
  refine lv_icmp_le (tgt := 12) hx hb dX1_barredTo_2 (by decide) (fun c_1 => ?_) (fun c_1 => ?_)
  · refine lv_lconst (v := 0) hx hb dX1_barredTo_12 (by decide) ?_
    exact W.lret (v := 0) hx hb hr (fun t ht hW => ⟨⟨0, (), rfl, by simp [y_bar, c_1], trivial⟩, hS.F ht⟩) hS.2.2 dX1_barredTo_13
  · refine lv_aload_n hx hb dX1_barredTo_5 rfl (lv_at hl 0 rfl) ?_
    refine va_get (D := G) (ci := 1) (v := .long (y_rp Y)) (C := RX1) (T := TX1) (N := 6) hx hb hts in_X1_barredTo_1 hown hK hP 0 rfl rfl 5 (by decide) (hts (.fieldLink RX1 34 "RampJam$Yard" "rampCell" "J") (by decide +kernel)) (fun _ h9 => h9) rfl dX1_barredTo_6 ?_
    refine lv_goto (tgt := 13) hx hb dX1_barredTo_9 (by decide) ?_
    exact W.lret (v := (y_rp Y)) hx hb hr (fun t ht hW => ⟨⟨(y_rp Y), (), rfl, by simp [y_bar, c_1], trivial⟩, hS.F ht⟩) hS.2.2 dX1_barredTo_13

theorem in_X1_standsAcross_1 : ∀ w ∈ wsX10, w ∈ wsX1_standsAcross := by decide +kernel
set_option maxHeartbeats 4000000 in
set_option maxRecDepth 100000 in
/-- Yard.standsAcross -/
theorem c_X1_standsAcross (l : Launch) (G : va_G) (cI cZ cJ : ClassId) (a : Nat → Nat) (sz : Nat) (Y : YS) (v : Int32)  : Met l yX1_standsAcross wsX1_standsAcross ({ frames := 1, cells := 0, slots := 0, locals := 21 }) (ro_Pc G [(cI, .int), (cZ, .boolean), (cJ, .long)] (wY cI cZ cJ a Y) sz [.ref (a 6), .int v]) (ro_Qi (b1 (y_acr Y v)) sz) 0 0 (ro_A sz) := by
  refine Met.ofW (cc := cX1_standsAcross) (maxL := 2) (ret := (some .boolean)) (by decide) rfl ?_
  intro p e s m args below meth c s₁ B hml hv
  obtain ⟨rfl, hsz, hP, hK, hN⟩ := hv
  have hx := B.exec
  have hb := B.bytes
  have hr := B.returns
  have hts := atoms_spec (ws := wsX1_standsAcross) B.pre
  have hown : s.vm.findClass RX1 = some m.cls := findClass_of_methodNamed B.named
  have hlocks := B.notSynchronized
  subst hsz
  have hA : ∀ q : Nat, s.heap.size ≤ q → (ro_A s.heap.size) q := fun _ h => h
  have hS : va_S (ro_A s.heap.size) s.heap s.heap [] := va_S.rf
  have hP : va_P G vwCl [((a 6), .inr (1, [.ref (a 7), .ref (a 8), .ref (a 9), .ref (a 10), .int (nI (y_n Y)), .long (y_rp Y)])), ((a 7), .inl (cI, 9, .inl (y_sz Y))), ((a 8), .inl (cZ, 9, .inl (y_ac Y))), ((a 9), .inl (cI, 9, .inl (y_li Y))), ((a 10), .inl (cJ, 9, .inr (.inl (y_sh Y))))] s.heap := hP
  have hl := lv_entry ([.ref (a 6), .int v]) (n := 2) (Nat.le_of_ble_eq_true rfl)
  rw [lg_entry_eq]
  generalize (lg_sl ([.ref (a 6), .int v]) ++ List.replicate (2 - (lg_sl ([.ref (a 6), .int v])).length) Slot.unset).toArray = ls at hl ⊢
  have hl : lv_has ls 2 [(0, .ref (a 6)), (1, .int v)] := hl
  refine lv_aload_n hx hb dX1_standsAcross_0 rfl (lv_at hl 0 rfl) ?_
  refine lv_iload_n hx hb dX1_standsAcross_1 rfl (lv_at hl 1 rfl) ?_
  refine ro_i (va_runV (As := [.int v]) (rest := []) ⟨hx, hb, hml, hown, hts⟩ ((c_X1_has l G cI cZ cJ a _ Y v)) (cwV 1 hts gX1_standsAcross_X1_has rfl rfl rfl (by decide +kernel) ⟨Nat.le_of_ble_eq_true rfl, Nat.le_of_ble_eq_true rfl⟩) ⟨ro_blind, va_recv hK hP (ci := 1) (q0 := 0) rfl rfl, ro_pre hP hK hN⟩ rfl rfl hl.1 rfl (lv_room (Nat.le_of_ble_eq_true rfl)) dX1_standsAcross_2 ⟨Nat.zero_le _, Nat.zero_le _⟩) hS hA hP (fun H locs hP hS => ?_)
  refine lv_if_eq (tgt := 21) hx hb dX1_standsAcross_5 (by decide) (fun c_1 => ?_) (fun c_1 => ?_)
  · have c_1 := b1_f c_1
    refine lv_iconst (v := 0) hx hb dX1_standsAcross_21 (by decide) ?_
    exact W.zret (ty := .boolean) (v := 0) hx hb hr (rfl) (fun t ht hW => ⟨⟨0, (), rfl, by simp [y_acr, c_1], trivial⟩, hS.F ht⟩) hS.2.2 dX1_standsAcross_22
  · have c_1 := b1_t c_1
    refine lv_aload_n hx hb dX1_standsAcross_8 rfl (lv_at hl 0 rfl) ?_
    refine va_get (D := G) (ci := 1) (v := .ref (a 8)) (C := RX1) (T := TX1) (N := 6) hx hb hts in_X1_standsAcross_1 hown hK hP 0 rfl rfl 1 (by decide) (hts (.fieldLink RX1 15 "RampJam$Yard" "acrosses" "[Z") (by decide +kernel)) (fun _ h9 => h9) rfl dX1_standsAcross_9 ?_
    refine lv_iload_n hx hb dX1_standsAcross_12 rfl (lv_at hl 1 rfl) ?_
    refine va_zald hx hb hK hP 2 1 rfl rfl (y_has_in (by assumption)) dX1_standsAcross_13 ?_
    refine lv_if_eq (tgt := 21) hx hb dX1_standsAcross_14 (by decide) (fun c_2 => ?_) (fun c_2 => ?_)
    · refine lv_iconst (v := 0) hx hb dX1_standsAcross_21 (by decide) ?_
      exact W.zret (ty := .boolean) (v := 0) hx hb hr (rfl) (fun t ht hW => ⟨⟨0, (), rfl, by simp [y_acr, c_1, c_2], trivial⟩, hS.F ht⟩) hS.2.2 dX1_standsAcross_22
    · refine lv_iconst (v := 1) hx hb dX1_standsAcross_17 (by decide) ?_
      refine lv_goto (tgt := 22) hx hb dX1_standsAcross_18 (by decide) ?_
      exact W.zret (ty := .boolean) (v := 1) hx hb hr (rfl) (fun t ht hW => ⟨⟨1, (), rfl, by simp [y_acr, c_1, c_2], trivial⟩, hS.F ht⟩) hS.2.2 dX1_standsAcross_22

theorem in_X1_cellsIn_1 : ∀ w ∈ wsX10, w ∈ wsX1_cellsIn := by decide +kernel
set_option maxHeartbeats 4000000 in
set_option maxRecDepth 100000 in
/-- Yard.cellsIn -/
theorem c_X1_cellsIn (l : Launch) (G : va_G) (cI cZ cJ : ClassId) (a : Nat → Nat) (sz : Nat) (Y : YS) (x : Int32) (v : Int32)  : Met l yX1_cellsIn wsX1_cellsIn ({ frames := 1, cells := 0, slots := 0, locals := 21 }) (ro_Pc G [(cI, .int), (cZ, .boolean), (cJ, .long)] (wY cI cZ cJ a Y) sz [.ref (a 6), .int x, .int v]) (ro_Ql (y_cel Y x v) sz) 0 0 (ro_A sz) := by
  refine Met.ofW (cc := cX1_cellsIn) (maxL := 4) (ret := (some .long)) (by decide) rfl ?_
  intro p e s m args below meth c s₁ B hml hv
  obtain ⟨rfl, hsz, hP, hK, hN⟩ := hv
  have hx := B.exec
  have hb := B.bytes
  have hr := B.returns
  have hts := atoms_spec (ws := wsX1_cellsIn) B.pre
  have hown : s.vm.findClass RX1 = some m.cls := findClass_of_methodNamed B.named
  have hlocks := B.notSynchronized
  subst hsz
  have hA : ∀ q : Nat, s.heap.size ≤ q → (ro_A s.heap.size) q := fun _ h => h
  have hS : va_S (ro_A s.heap.size) s.heap s.heap [] := va_S.rf
  have hP : va_P G vwCl [((a 6), .inr (1, [.ref (a 7), .ref (a 8), .ref (a 9), .ref (a 10), .int (nI (y_n Y)), .long (y_rp Y)])), ((a 7), .inl (cI, 9, .inl (y_sz Y))), ((a 8), .inl (cZ, 9, .inl (y_ac Y))), ((a 9), .inl (cI, 9, .inl (y_li Y))), ((a 10), .inl (cJ, 9, .inr (.inl (y_sh Y))))] s.heap := hP
  have hl := lv_entry ([.ref (a 6), .int x, .int v]) (n := 4) (Nat.le_of_ble_eq_true rfl)
  rw [lg_entry_eq]
  generalize (lg_sl ([.ref (a 6), .int x, .int v]) ++ List.replicate (4 - (lg_sl ([.ref (a 6), .int x, .int v])).length) Slot.unset).toArray = ls at hl ⊢
  have hl : lv_has ls 4 [(0, .ref (a 6)), (1, .int x), (2, .int v)] := hl
  refine lv_aload_n hx hb dX1_cellsIn_0 rfl (lv_at hl 0 rfl) ?_
  refine lv_iload_n hx hb dX1_cellsIn_1 rfl (lv_at hl 2 rfl) ?_
  refine ro_i (va_runV (As := [.int v]) (rest := []) ⟨hx, hb, hml, hown, hts⟩ ((c_X1_has l G cI cZ cJ a _ Y v)) (cwV 1 hts gX1_cellsIn_X1_has rfl rfl rfl (by decide +kernel) ⟨Nat.le_of_ble_eq_true rfl, Nat.le_of_ble_eq_true rfl⟩) ⟨ro_blind, va_recv hK hP (ci := 1) (q0 := 0) rfl rfl, ro_pre hP hK hN⟩ rfl rfl hl.1 rfl (lv_room (Nat.le_of_ble_eq_true rfl)) dX1_cellsIn_2 ⟨Nat.zero_le _, Nat.zero_le _⟩) hS hA hP (fun H locs hP hS => ?_)
  refine lv_if_ne (tgt := 10) hx hb dX1_cellsIn_5 (by decide) (fun c_1 => ?_) (fun c_1 => ?_)
  · have c_1 := b1_t c_1
    refine lv_aload_n hx hb dX1_cellsIn_10 rfl (lv_at hl 0 rfl) ?_
    refine va_get (D := G) (ci := 1) (v := .ref (a 8)) (C := RX1) (T := TX1) (N := 6) hx hb hts in_X1_cellsIn_1 hown hK hP 0 rfl rfl 1 (by decide) (hts (.fieldLink RX1 15 "RampJam$Yard" "acrosses" "[Z") (by decide +kernel)) (fun _ h9 => h9) rfl dX1_cellsIn_11 ?_
    refine lv_iload_n hx hb dX1_cellsIn_14 rfl (lv_at hl 2 rfl) ?_
    refine va_zald hx hb hK hP 2 1 rfl rfl (y_has_in (by assumption)) dX1_cellsIn_15 ?_
    refine lv_if_eq (tgt := 23) hx hb dX1_cellsIn_16 (by decide) (fun c_2 => ?_) (fun c_2 => ?_)
    · refine lv_bipush (v := 6) hx hb dX1_cellsIn_23 (by decide) ?_
      refine lv_istore_n (lv' := [(3, .int 6), (0, .ref (a 6)), (1, .int x), (2, .int v)]) hx hb dX1_cellsIn_25 rfl hl (by decide) rfl (fun ls hl => ?_)
      refine lv_aload_n hx hb dX1_cellsIn_26 rfl (lv_at hl 1 rfl) ?_
      refine va_get (D := G) (ci := 1) (v := .ref (a 10)) (C := RX1) (T := TX1) (N := 6) hx hb hts in_X1_cellsIn_1 hown hK hP 0 rfl rfl 3 (by decide) (hts (.fieldLink RX1 22 "RampJam$Yard" "shapes" "[J") (by decide +kernel)) (fun _ h9 => h9) rfl dX1_cellsIn_27 ?_
      refine lv_iload_n hx hb dX1_cellsIn_30 rfl (lv_at hl 3 rfl) ?_
      refine va_lald hx hb hK hP 4 2 rfl rfl (y_has_in (by assumption)) dX1_cellsIn_31 ?_
      refine lv_iload_n hx hb dX1_cellsIn_32 rfl (lv_at hl 0 rfl) ?_
      refine lv_iload_n hx hb dX1_cellsIn_33 rfl (lv_at hl 2 rfl) ?_
      refine lv_iload_n hx hb dX1_cellsIn_34 rfl (lv_at hl 3 rfl) ?_
      refine ro_i (va_runSN (As := [.int x, .int v]) (rest := [.int 6, .long ((y_sh Y) (v.toNatClampNeg))]) ⟨hx, hb, hml, hown, hts⟩ ((c_X2_placeIn l G cI cZ cJ a _ x v)) ⟨va_cnB 2 hts gX1_cellsIn_X2_placeIn_n42 rfl rfl rfl (nx_get hN (k := 1) rfl) (hts (.initialized RX2) (by decide +kernel)) (by decide +kernel) ⟨Nat.le_of_ble_eq_true rfl, Nat.le_of_ble_eq_true rfl⟩, hts (.static yX2_placeIn) (by decide +kernel), trivial⟩ ⟨ro_blind, ro_pre va_P0 hK hN⟩ rfl rfl hl.1 rfl (lv_room (Nat.le_of_ble_eq_true rfl)) dX1_cellsIn_35 ⟨Nat.zero_le _, Nat.zero_le _⟩) hS hA hP (fun H locs hP hS => ?_)
      refine lv_imul hx hb dX1_cellsIn_38 ?_
      refine lv_lshl (v := (((y_sh Y) (v.toNatClampNeg)) <<< ((6 * (pl x v)).toInt64 &&& 63))) hx hb dX1_cellsIn_39 rfl ?_
      exact W.lret (v := (((y_sh Y) (v.toNatClampNeg)) <<< ((6 * (pl x v)).toInt64 &&& 63))) hx hb hr (fun t ht hW => ⟨⟨(((y_sh Y) (v.toNatClampNeg)) <<< ((6 * (pl x v)).toInt64 &&& 63)), (), rfl, by rw [y_cel, if_pos c_1, y_str, if_pos c_2], trivial⟩, hS.F ht⟩) hS.2.2 dX1_cellsIn_40
    · refine lv_iconst (v := 1) hx hb dX1_cellsIn_19 (by decide) ?_
      refine lv_goto (tgt := 25) hx hb dX1_cellsIn_20 (by decide) ?_
      refine lv_istore_n (lv' := [(3, .int 1), (0, .ref (a 6)), (1, .int x), (2, .int v)]) hx hb dX1_cellsIn_25 rfl hl (by decide) rfl (fun ls hl => ?_)
      refine lv_aload_n hx hb dX1_cellsIn_26 rfl (lv_at hl 1 rfl) ?_
      refine va_get (D := G) (ci := 1) (v := .ref (a 10)) (C := RX1) (T := TX1) (N := 6) hx hb hts in_X1_cellsIn_1 hown hK hP 0 rfl rfl 3 (by decide) (hts (.fieldLink RX1 22 "RampJam$Yard" "shapes" "[J") (by decide +kernel)) (fun _ h9 => h9) rfl dX1_cellsIn_27 ?_
      refine lv_iload_n hx hb dX1_cellsIn_30 rfl (lv_at hl 3 rfl) ?_
      refine va_lald hx hb hK hP 4 2 rfl rfl (y_has_in (by assumption)) dX1_cellsIn_31 ?_
      refine lv_iload_n hx hb dX1_cellsIn_32 rfl (lv_at hl 0 rfl) ?_
      refine lv_iload_n hx hb dX1_cellsIn_33 rfl (lv_at hl 2 rfl) ?_
      refine lv_iload_n hx hb dX1_cellsIn_34 rfl (lv_at hl 3 rfl) ?_
      refine ro_i (va_runSN (As := [.int x, .int v]) (rest := [.int 1, .long ((y_sh Y) (v.toNatClampNeg))]) ⟨hx, hb, hml, hown, hts⟩ ((c_X2_placeIn l G cI cZ cJ a _ x v)) ⟨va_cnB 2 hts gX1_cellsIn_X2_placeIn_n42 rfl rfl rfl (nx_get hN (k := 1) rfl) (hts (.initialized RX2) (by decide +kernel)) (by decide +kernel) ⟨Nat.le_of_ble_eq_true rfl, Nat.le_of_ble_eq_true rfl⟩, hts (.static yX2_placeIn) (by decide +kernel), trivial⟩ ⟨ro_blind, ro_pre va_P0 hK hN⟩ rfl rfl hl.1 rfl (lv_room (Nat.le_of_ble_eq_true rfl)) dX1_cellsIn_35 ⟨Nat.zero_le _, Nat.zero_le _⟩) hS hA hP (fun H locs hP hS => ?_)
      refine lv_imul hx hb dX1_cellsIn_38 ?_
      refine lv_lshl (v := (((y_sh Y) (v.toNatClampNeg)) <<< ((1 * (pl x v)).toInt64 &&& 63))) hx hb dX1_cellsIn_39 rfl ?_
      exact W.lret (v := (((y_sh Y) (v.toNatClampNeg)) <<< ((1 * (pl x v)).toInt64 &&& 63))) hx hb hr (fun t ht hW => ⟨⟨(((y_sh Y) (v.toNatClampNeg)) <<< ((1 * (pl x v)).toInt64 &&& 63)), (), rfl, by rw [y_cel, if_pos c_1, y_str, if_neg c_2], trivial⟩, hS.F ht⟩) hS.2.2 dX1_cellsIn_40
  · have c_1 := b1_f c_1
    refine lv_lconst (v := 0) hx hb dX1_cellsIn_8 (by decide) ?_
    exact W.lret (v := 0) hx hb hr (fun t ht hW => ⟨⟨0, (), rfl, by rw [y_cel, if_neg c_1], trivial⟩, hS.F ht⟩) hS.2.2 dX1_cellsIn_9

theorem in_X1_filledIn_1 : ∀ w ∈ wsX10, w ∈ wsX1_filledIn := by decide +kernel
set_option maxHeartbeats 4000000 in
set_option maxRecDepth 100000 in
/-- Yard.filledIn -/
theorem c_X1_filledIn (l : Launch) (G : va_G) (cI cZ cJ : ClassId) (a : Nat → Nat) (sz : Nat) (Y : YS) (x : Int32) (hn : y_n Y ≤ 9) : Met l yX1_filledIn wsX1_filledIn ({ frames := 2, cells := 0, slots := 0, locals := 44 }) (ro_Pc G [(cI, .int), (cZ, .boolean), (cJ, .long)] (wY cI cZ cJ a Y) sz [.ref (a 6), .int x]) (ro_Ql (y_fil Y x (y_n Y)) sz) 0 0 (ro_A sz) := by
  refine Met.ofW (cc := cX1_filledIn) (maxL := 5) (ret := (some .long)) (by decide) rfl ?_
  intro p e s m args below meth c s₁ B hml hv
  obtain ⟨rfl, hsz, hP, hK, hN⟩ := hv
  have hx := B.exec
  have hb := B.bytes
  have hr := B.returns
  have hts := atoms_spec (ws := wsX1_filledIn) B.pre
  have hown : s.vm.findClass RX1 = some m.cls := findClass_of_methodNamed B.named
  have hlocks := B.notSynchronized
  subst hsz
  have hA : ∀ q : Nat, s.heap.size ≤ q → (ro_A s.heap.size) q := fun _ h => h
  have hS : va_S (ro_A s.heap.size) s.heap s.heap [] := va_S.rf
  have hP : va_P G vwCl [((a 6), .inr (1, [.ref (a 7), .ref (a 8), .ref (a 9), .ref (a 10), .int (nI (y_n Y)), .long (y_rp Y)])), ((a 7), .inl (cI, 9, .inl (y_sz Y))), ((a 8), .inl (cZ, 9, .inl (y_ac Y))), ((a 9), .inl (cI, 9, .inl (y_li Y))), ((a 10), .inl (cJ, 9, .inr (.inl (y_sh Y))))] s.heap := hP
  have hl := lv_entry ([.ref (a 6), .int x]) (n := 5) (Nat.le_of_ble_eq_true rfl)
  rw [lg_entry_eq]
  generalize (lg_sl ([.ref (a 6), .int x]) ++ List.replicate (5 - (lg_sl ([.ref (a 6), .int x])).length) Slot.unset).toArray = ls at hl ⊢
  have hl : lv_has ls 5 [(0, .ref (a 6)), (1, .int x)] := hl
  refine lv_lconst (v := 0) hx hb dX1_filledIn_0 (by decide) ?_
  refine lv_lstore_n (lv' := [(2, .long 0), (0, .ref (a 6)), (1, .int x)]) hx hb dX1_filledIn_1 rfl hl (by decide) rfl (fun ls hl => ?_)
  refine lv_iconst (v := 0) hx hb dX1_filledIn_2 (by decide) ?_
  refine lv_istore (lv' := [(4, .int 0), (2, .long 0), (0, .ref (a 6)), (1, .int x)]) hx hb dX1_filledIn_3 hl (by decide) rfl (fun ls hl => ?_)
  have cut_5 : ∀ (d : Nat) (k : Nat), k ≤ y_n Y → y_n Y + 1 ≤ k + d → ∀ (H : Heap) (locs : List Loc), va_P G vwCl [((a 6), .inr (1, [.ref (a 7), .ref (a 8), .ref (a 9), .ref (a 10), .int (nI (y_n Y)), .long (y_rp Y)])), ((a 7), .inl (cI, 9, .inl (y_sz Y))), ((a 8), .inl (cZ, 9, .inl (y_ac Y))), ((a 9), .inl (cI, 9, .inl (y_li Y))), ((a 10), .inl (cJ, 9, .inr (.inl (y_sh Y))))] H → va_S (ro_A s.heap.size) s.heap H locs → ∀ (ls : Array Slot), lv_has ls 5 [(0, .ref (a 6)), (1, .int x), (2, .long (y_fil Y x k)), (4, .int (nI k))] → W p l e (headSpec wsX1_filledIn ({ frames := 2, cells := 0, slots := 0, locals := 44 })).room s m ([.ref (a 6), .int x] : List Value).toArray below meth c H locs 0 0 (MQ below (ro_Ql (y_fil Y x (y_n Y)) s.heap.size) ([.ref (a 6), .int x] : List Value).toArray s 0 0 (ro_A s.heap.size)) (F0 m 5 ls []) := by
    intro d
    induction d with
    | zero =>
      intro k hk_5 hd_5
      exact absurd hd_5 (by omega)
    | succ d ih_5 =>
      intro k hk_5 hd_5  H locs hP hS ls hl
      refine lv_iload hx hb dX1_filledIn_5 (lv_at hl 3 rfl) ?_
      refine lv_aload_n hx hb dX1_filledIn_7 rfl (lv_at hl 0 rfl) ?_
      refine va_get (D := G) (ci := 1) (v := .int (nI (y_n Y))) (C := RX1) (T := TX1) (N := 6) hx hb hts in_X1_filledIn_1 hown hK hP 0 rfl rfl 4 (by decide) (hts (.fieldLink RX1 26 "RampJam$Yard" "vehicleCount" "I") (by decide +kernel)) (fun _ h9 => h9) rfl dX1_filledIn_8 ?_
      refine lv_icmp_ge (tgt := 30) hx hb dX1_filledIn_11 (by decide) (fun c_1 => ?_) (fun c_1 => ?_)
      · have hkn : k = y_n Y := Nat.le_antisymm hk_5 (nx_ge (by omega) (by omega) c_1)
        refine lv_lload_n hx hb dX1_filledIn_30 rfl (lv_at hl 2 rfl) ?_
        exact W.lret (v := (y_fil Y x k)) hx hb hr (fun t ht hW => ⟨⟨(y_fil Y x k), (), rfl, by rw [hkn], trivial⟩, hS.F ht⟩) hS.2.2 dX1_filledIn_31
      · have hlt : k < y_n Y := nx_lt (by omega) (by omega) c_1
        refine lv_lload_n hx hb dX1_filledIn_14 rfl (lv_at hl 2 rfl) ?_
        refine lv_aload_n hx hb dX1_filledIn_15 rfl (lv_at hl 0 rfl) ?_
        refine lv_iload_n hx hb dX1_filledIn_16 rfl (lv_at hl 1 rfl) ?_
        refine lv_iload hx hb dX1_filledIn_17 (lv_at hl 3 rfl) ?_
        refine ro_l (va_runV (As := [.int x, .int (nI k)]) (rest := [.long (y_fil Y x k)]) ⟨hx, hb, hml, hown, hts⟩ ((c_X1_cellsIn l G cI cZ cJ a _ Y x (nI k))) (cwV 2 hts gX1_filledIn_X1_cellsIn rfl rfl rfl (by decide +kernel) ⟨Nat.le_of_ble_eq_true rfl, Nat.le_of_ble_eq_true rfl⟩) ⟨ro_blind, va_recv hK hP (ci := 1) (q0 := 0) rfl rfl, ro_pre hP hK hN⟩ rfl rfl hl.1 rfl (lv_room (Nat.le_of_ble_eq_true rfl)) dX1_filledIn_19 ⟨Nat.zero_le _, Nat.zero_le _⟩) hS hA hP (fun H locs hP hS => ?_)
        refine lv_lor hx hb dX1_filledIn_22 ?_
        refine lv_lstore_n (lv' := [(2, .long ((y_fil Y x k) ||| (y_cel Y x (nI k)))), (0, .ref (a 6)), (1, .int x), (4, .int (nI k))]) hx hb dX1_filledIn_23 rfl hl (by decide) rfl (fun ls hl => ?_)
        refine lv_iinc (v := (nI (k + 1))) (lv' := [(4, .int (nI (k + 1))), (2, .long ((y_fil Y x k) ||| (y_cel Y x (nI k)))), (0, .ref (a 6)), (1, .int x)]) hx hb dX1_filledIn_24 hl (k := 3) rfl (nI_1 _) (by decide) rfl (fun ls hl => ?_)
        refine lv_goto (tgt := 5) hx hb dX1_filledIn_27 (by decide) ?_
        exact ih_5 (k + 1) (hlt) (by omega) _ _ hP hS _ (lv_sub hl [2, 3, 1, 0] rfl)
  exact cut_5 (y_n Y + 1) 0 (Nat.zero_le _) (by omega) _ _ hP hS _ (lv_sub hl [2, 3, 1, 0] rfl)

theorem in_X1_vehicleOn_1 : ∀ w ∈ wsX10, w ∈ wsX1_vehicleOn := by decide +kernel
set_option maxHeartbeats 4000000 in
set_option maxRecDepth 100000 in
/-- Yard.vehicleOn -/
theorem c_X1_vehicleOn (l : Launch) (G : va_G) (cI cZ cJ : ClassId) (a : Nat → Nat) (sz : Nat) (Y : YS) (x : Int32) (w : Int64) (hn : y_n Y ≤ 9) : Met l yX1_vehicleOn wsX1_vehicleOn ({ frames := 2, cells := 0, slots := 0, locals := 44 }) (ro_Pc G [(cI, .int), (cZ, .boolean), (cJ, .long)] (wY cI cZ cJ a Y) sz [.ref (a 6), .int x, .long w]) (ro_Qi (y_on Y x w (y_n Y) 0) sz) 0 0 (ro_A sz) := by
  refine Met.ofW (cc := cX1_vehicleOn) (maxL := 5) (ret := (some .int)) (by decide) rfl ?_
  intro p e s m args below meth c s₁ B hml hv
  obtain ⟨rfl, hsz, hP, hK, hN⟩ := hv
  have hx := B.exec
  have hb := B.bytes
  have hr := B.returns
  have hts := atoms_spec (ws := wsX1_vehicleOn) B.pre
  have hown : s.vm.findClass RX1 = some m.cls := findClass_of_methodNamed B.named
  have hlocks := B.notSynchronized
  subst hsz
  have hA : ∀ q : Nat, s.heap.size ≤ q → (ro_A s.heap.size) q := fun _ h => h
  have hS : va_S (ro_A s.heap.size) s.heap s.heap [] := va_S.rf
  have hP : va_P G vwCl [((a 6), .inr (1, [.ref (a 7), .ref (a 8), .ref (a 9), .ref (a 10), .int (nI (y_n Y)), .long (y_rp Y)])), ((a 7), .inl (cI, 9, .inl (y_sz Y))), ((a 8), .inl (cZ, 9, .inl (y_ac Y))), ((a 9), .inl (cI, 9, .inl (y_li Y))), ((a 10), .inl (cJ, 9, .inr (.inl (y_sh Y))))] s.heap := hP
  have hl := lv_entry ([.ref (a 6), .int x, .long w]) (n := 5) (Nat.le_of_ble_eq_true rfl)
  rw [lg_entry_eq]
  generalize (lg_sl ([.ref (a 6), .int x, .long w]) ++ List.replicate (5 - (lg_sl ([.ref (a 6), .int x, .long w])).length) Slot.unset).toArray = ls at hl ⊢
  have hl : lv_has ls 5 [(0, .ref (a 6)), (1, .int x), (2, .long w)] := hl
  refine lv_iconst (v := 0) hx hb dX1_vehicleOn_0 (by decide) ?_
  refine lv_istore (lv' := [(4, .int 0), (0, .ref (a 6)), (1, .int x), (2, .long w)]) hx hb dX1_vehicleOn_1 hl (by decide) rfl (fun ls hl => ?_)
  have cut_3 : ∀ (d : Nat) (k : Nat), k ≤ y_n Y → y_n Y + 1 ≤ k + d → (y_on Y x w (y_n Y - k) k = y_on Y x w (y_n Y) 0) → ∀ (H : Heap) (locs : List Loc), va_P G vwCl [((a 6), .inr (1, [.ref (a 7), .ref (a 8), .ref (a 9), .ref (a 10), .int (nI (y_n Y)), .long (y_rp Y)])), ((a 7), .inl (cI, 9, .inl (y_sz Y))), ((a 8), .inl (cZ, 9, .inl (y_ac Y))), ((a 9), .inl (cI, 9, .inl (y_li Y))), ((a 10), .inl (cJ, 9, .inr (.inl (y_sh Y))))] H → va_S (ro_A s.heap.size) s.heap H locs → ∀ (ls : Array Slot), lv_has ls 5 [(0, .ref (a 6)), (1, .int x), (2, .long w), (4, .int (nI k))] → W p l e (headSpec wsX1_vehicleOn ({ frames := 2, cells := 0, slots := 0, locals := 44 })).room s m ([.ref (a 6), .int x, .long w] : List Value).toArray below meth c H locs 0 0 (MQ below (ro_Qi (y_on Y x w (y_n Y) 0) s.heap.size) ([.ref (a 6), .int x, .long w] : List Value).toArray s 0 0 (ro_A s.heap.size)) (F0 m 3 ls []) := by
    intro d
    induction d with
    | zero =>
      intro k hk_3 hd_3
      exact absurd hd_3 (by omega)
    | succ d ih_3 =>
      intro k hk_3 hd_3 hI H locs hP hS ls hl
      refine lv_iload hx hb dX1_vehicleOn_3 (lv_at hl 3 rfl) ?_
      refine lv_aload_n hx hb dX1_vehicleOn_5 rfl (lv_at hl 0 rfl) ?_
      refine va_get (D := G) (ci := 1) (v := .int (nI (y_n Y))) (C := RX1) (T := TX1) (N := 6) hx hb hts in_X1_vehicleOn_1 hown hK hP 0 rfl rfl 4 (by decide) (hts (.fieldLink RX1 26 "RampJam$Yard" "vehicleCount" "I") (by decide +kernel)) (fun _ h9 => h9) rfl dX1_vehicleOn_6 ?_
      refine lv_icmp_ge (tgt := 35) hx hb dX1_vehicleOn_9 (by decide) (fun c_1 => ?_) (fun c_1 => ?_)
      · have hkn : k = y_n Y := Nat.le_antisymm hk_3 (nx_ge (by omega) (by omega) c_1)
        refine lv_iconst (v := (-1)) hx hb dX1_vehicleOn_35 (by decide) ?_
        exact W.iret (v := (-1)) hx hb hr (fun t ht hW => ⟨⟨(-1), (), rfl, by rw [← hI, hkn, Nat.sub_self]; rfl, trivial⟩, hS.F ht⟩) hS.2.2 dX1_vehicleOn_36
      · have hlt : k < y_n Y := nx_lt (by omega) (by omega) c_1
        refine lv_aload_n hx hb dX1_vehicleOn_12 rfl (lv_at hl 0 rfl) ?_
        refine lv_iload_n hx hb dX1_vehicleOn_13 rfl (lv_at hl 1 rfl) ?_
        refine lv_iload hx hb dX1_vehicleOn_14 (lv_at hl 3 rfl) ?_
        refine ro_l (va_runV (As := [.int x, .int (nI k)]) (rest := []) ⟨hx, hb, hml, hown, hts⟩ ((c_X1_cellsIn l G cI cZ cJ a _ Y x (nI k))) (cwV 2 hts gX1_vehicleOn_X1_cellsIn rfl rfl rfl (by decide +kernel) ⟨Nat.le_of_ble_eq_true rfl, Nat.le_of_ble_eq_true rfl⟩) ⟨ro_blind, va_recv hK hP (ci := 1) (q0 := 0) rfl rfl, ro_pre hP hK hN⟩ rfl rfl hl.1 rfl (lv_room (Nat.le_of_ble_eq_true rfl)) dX1_vehicleOn_16 ⟨Nat.zero_le _, Nat.zero_le _⟩) hS hA hP (fun H locs hP hS => ?_)
        refine lv_lload_n hx hb dX1_vehicleOn_19 rfl (lv_at hl 2 rfl) ?_
        refine lv_land hx hb dX1_vehicleOn_20 ?_
        refine lv_lconst (v := 0) hx hb dX1_vehicleOn_21 (by decide) ?_
        refine W.lcmp hx hb dX1_vehicleOn_22 ?_
        refine lv_if_eq (tgt := 29) hx hb dX1_vehicleOn_23 (by decide) (fun c_2 => ?_) (fun c_2 => ?_)
        · have c_2 := lg_t c_2
          have hz := c_2
          refine lv_iinc (v := (nI (k + 1))) (lv' := [(4, .int (nI (k + 1))), (0, .ref (a 6)), (1, .int x), (2, .long w)]) hx hb dX1_vehicleOn_29 hl (k := 3) rfl (nI_1 _) (by decide) rfl (fun ls hl => ?_)
          refine lv_goto (tgt := 3) hx hb dX1_vehicleOn_32 (by decide) ?_
          exact ih_3 (k + 1) (hlt) (by omega) (by rw [← hI, y_on_in hlt, if_pos hz]) _ _ hP hS _ (lv_sub hl [1, 2, 3, 0] rfl)
        · have c_2 := lg_f c_2
          have hz := c_2
          refine lv_iload hx hb dX1_vehicleOn_26 (lv_at hl 3 rfl) ?_
          exact W.iret (v := (nI k)) hx hb hr (fun t ht hW => ⟨⟨(nI k), (), rfl, by rw [← hI, y_on_in hlt, if_neg hz], trivial⟩, hS.F ht⟩) hS.2.2 dX1_vehicleOn_28
  exact cut_3 (y_n Y + 1) 0 (Nat.zero_le _) (by omega) (rfl) _ _ hP hS _ (lv_sub hl [1, 2, 3, 0] rfl)

theorem in_X1_wayIn_1 : ∀ w ∈ wsX10, w ∈ wsX1_wayIn := by decide +kernel
set_option maxHeartbeats 4000000 in
set_option maxRecDepth 100000 in
/-- Yard.wayIn -/
theorem c_X1_wayIn (l : Launch) (G : va_G) (cI cZ cJ : ClassId) (a : Nat → Nat) (sz : Nat) (Y : YS) (x : Int32) (w : Int64) (v : Int32) (dir : Int32)  : Met l yX1_wayIn wsX1_wayIn ({ frames := 2, cells := 0, slots := 0, locals := 44 }) (ro_Pc G [(cI, .int), (cZ, .boolean), (cJ, .long)] (wY cI cZ cJ a Y) sz [.ref (a 6), .int x, .long w, .int v, .int dir]) (ro_Qi (y_way Y x w v dir) sz) 0 0 (ro_A sz) := by
  refine Met.ofW (cc := cX1_wayIn) (maxL := 14) (ret := (some .int)) (by decide) rfl ?_
  intro p e s m args below meth c s₁ B hml hv
  obtain ⟨rfl, hsz, hP, hK, hN⟩ := hv
  have hx := B.exec
  have hb := B.bytes
  have hr := B.returns
  have hts := atoms_spec (ws := wsX1_wayIn) B.pre
  have hown : s.vm.findClass RX1 = some m.cls := findClass_of_methodNamed B.named
  have hlocks := B.notSynchronized
  subst hsz
  have hA : ∀ q : Nat, s.heap.size ≤ q → (ro_A s.heap.size) q := fun _ h => h
  have hS : va_S (ro_A s.heap.size) s.heap s.heap [] := va_S.rf
  have hP : va_P G vwCl [((a 6), .inr (1, [.ref (a 7), .ref (a 8), .ref (a 9), .ref (a 10), .int (nI (y_n Y)), .long (y_rp Y)])), ((a 7), .inl (cI, 9, .inl (y_sz Y))), ((a 8), .inl (cZ, 9, .inl (y_ac Y))), ((a 9), .inl (cI, 9, .inl (y_li Y))), ((a 10), .inl (cJ, 9, .inr (.inl (y_sh Y))))] s.heap := hP
  have hl := lv_entry ([.ref (a 6), .int x, .long w, .int v, .int dir]) (n := 14) (Nat.le_of_ble_eq_true rfl)
  rw [lg_entry_eq]
  generalize (lg_sl ([.ref (a 6), .int x, .long w, .int v, .int dir]) ++ List.replicate (14 - (lg_sl ([.ref (a 6), .int x, .long w, .int v, .int dir])).length) Slot.unset).toArray = ls at hl ⊢
  have hl : lv_has ls 14 [(0, .ref (a 6)), (1, .int x), (2, .long w), (4, .int v), (5, .int dir)] := hl
  refine lv_aload_n hx hb dX1_wayIn_0 rfl (lv_at hl 0 rfl) ?_
  refine lv_iload hx hb dX1_wayIn_1 (lv_at hl 3 rfl) ?_
  refine ro_i (va_runV (As := [.int v]) (rest := []) ⟨hx, hb, hml, hown, hts⟩ ((c_X1_has l G cI cZ cJ a _ Y v)) (cwV 1 hts gX1_wayIn_X1_has rfl rfl rfl (by decide +kernel) ⟨Nat.le_of_ble_eq_true rfl, Nat.le_of_ble_eq_true rfl⟩) ⟨ro_blind, va_recv hK hP (ci := 1) (q0 := 0) rfl rfl, ro_pre hP hK hN⟩ rfl rfl hl.1 rfl (lv_room (Nat.le_of_ble_eq_true rfl)) dX1_wayIn_3 ⟨Nat.zero_le _, Nat.zero_le _⟩) hS hA hP (fun H locs hP hS => ?_)
  refine lv_if_ne (tgt := 11) hx hb dX1_wayIn_6 (by decide) (fun c_1 => ?_) (fun c_1 => ?_)
  · have c_1 := b1_t c_1
    refine lv_iload_n hx hb dX1_wayIn_11 rfl (lv_at hl 1 rfl) ?_
    refine lv_iload hx hb dX1_wayIn_12 (lv_at hl 3 rfl) ?_
    refine ro_i (va_runSN (As := [.int x, .int v]) (rest := []) ⟨hx, hb, hml, hown, hts⟩ ((c_X2_placeIn l G cI cZ cJ a _ x v)) ⟨va_cnB 2 hts gX1_wayIn_X2_placeIn_n42 rfl rfl rfl (nx_get hN (k := 1) rfl) (hts (.initialized RX2) (by decide +kernel)) (by decide +kernel) ⟨Nat.le_of_ble_eq_true rfl, Nat.le_of_ble_eq_true rfl⟩, hts (.static yX2_placeIn) (by decide +kernel), trivial⟩ ⟨ro_blind, ro_pre va_P0 hK hN⟩ rfl rfl hl.1 rfl (lv_room (Nat.le_of_ble_eq_true rfl)) dX1_wayIn_14 ⟨Nat.zero_le _, Nat.zero_le _⟩) hS hA hP (fun H locs hP hS => ?_)
    refine lv_istore (lv' := [(6, .int (pl x v)), (0, .ref (a 6)), (1, .int x), (2, .long w), (4, .int v), (5, .int dir)]) hx hb dX1_wayIn_17 hl (by decide) rfl (fun ls hl => ?_)
    have cut_43 : ∀ (tb_g : Int32), (tb_g = y_tb Y x v dir) → ∀ (H : Heap) (locs : List Loc), va_P G vwCl [((a 6), .inr (1, [.ref (a 7), .ref (a 8), .ref (a 9), .ref (a 10), .int (nI (y_n Y)), .long (y_rp Y)])), ((a 7), .inl (cI, 9, .inl (y_sz Y))), ((a 8), .inl (cZ, 9, .inl (y_ac Y))), ((a 9), .inl (cI, 9, .inl (y_li Y))), ((a 10), .inl (cJ, 9, .inr (.inl (y_sh Y))))] H → va_S (ro_A s.heap.size) s.heap H locs → ∀ (ls : Array Slot), lv_has ls 14 [(6, .int (pl x v)), (0, .ref (a 6)), (1, .int x), (2, .long w), (4, .int v), (5, .int dir)] → W p l e (headSpec wsX1_wayIn ({ frames := 2, cells := 0, slots := 0, locals := 44 })).room s m ([.ref (a 6), .int x, .long w, .int v, .int dir] : List Value).toArray below meth c H locs 0 0 (MQ below (ro_Qi (y_way Y x w v dir) s.heap.size) ([.ref (a 6), .int x, .long w, .int v, .int dir] : List Value).toArray s 0 0 (ro_A s.heap.size)) (F0 m 43 ls [.int tb_g]) := by
      intro tb_g etb H locs hP hS ls hl
      subst etb
      try have hl : lv_has ls 14 [(6, .int (pl x v)), (0, .ref (a 6)), (1, .int x), (2, .long w), (4, .int v), (5, .int dir)] := hl
      refine lv_istore (lv' := [(7, .int (y_tb Y x v dir)), (6, .int (pl x v)), (0, .ref (a 6)), (1, .int x), (2, .long w), (4, .int v), (5, .int dir)]) hx hb dX1_wayIn_43 hl (by decide) rfl (fun ls hl => ?_)
      have cut_61 : ∀ (sd_g : Int32), (sd_g = y_str Y v) → ∀ (H : Heap) (locs : List Loc), va_P G vwCl [((a 6), .inr (1, [.ref (a 7), .ref (a 8), .ref (a 9), .ref (a 10), .int (nI (y_n Y)), .long (y_rp Y)])), ((a 7), .inl (cI, 9, .inl (y_sz Y))), ((a 8), .inl (cZ, 9, .inl (y_ac Y))), ((a 9), .inl (cI, 9, .inl (y_li Y))), ((a 10), .inl (cJ, 9, .inr (.inl (y_sh Y))))] H → va_S (ro_A s.heap.size) s.heap H locs → ∀ (ls : Array Slot), lv_has ls 14 [(7, .int (y_tb Y x v dir)), (6, .int (pl x v)), (0, .ref (a 6)), (1, .int x), (2, .long w), (4, .int v), (5, .int dir)] → W p l e (headSpec wsX1_wayIn ({ frames := 2, cells := 0, slots := 0, locals := 44 })).room s m ([.ref (a 6), .int x, .long w, .int v, .int dir] : List Value).toArray below meth c H locs 0 0 (MQ below (ro_Qi (y_way Y x w v dir) s.heap.size) ([.ref (a 6), .int x, .long w, .int v, .int dir] : List Value).toArray s 0 0 (ro_A s.heap.size)) (F0 m 61 ls [.int sd_g]) := by
        intro sd_g esd H locs hP hS ls hl
        subst esd
        try have hl : lv_has ls 14 [(7, .int (y_tb Y x v dir)), (6, .int (pl x v)), (0, .ref (a 6)), (1, .int x), (2, .long w), (4, .int v), (5, .int dir)] := hl
        refine lv_istore (lv' := [(8, .int (y_str Y v)), (7, .int (y_tb Y x v dir)), (6, .int (pl x v)), (0, .ref (a 6)), (1, .int x), (2, .long w), (4, .int v), (5, .int dir)]) hx hb dX1_wayIn_61 hl (by decide) rfl (fun ls hl => ?_)
        refine lv_aload_n hx hb dX1_wayIn_63 rfl (lv_at hl 3 rfl) ?_
        refine lv_iload_n hx hb dX1_wayIn_64 rfl (lv_at hl 4 rfl) ?_
        refine lv_iload hx hb dX1_wayIn_65 (lv_at hl 6 rfl) ?_
        refine ro_l (va_runV (As := [.int x, .int v]) (rest := []) ⟨hx, hb, hml, hown, hts⟩ ((c_X1_cellsIn l G cI cZ cJ a _ Y x v)) (cwV 2 hts gX1_wayIn_X1_cellsIn rfl rfl rfl (by decide +kernel) ⟨Nat.le_of_ble_eq_true rfl, Nat.le_of_ble_eq_true rfl⟩) ⟨ro_blind, va_recv hK hP (ci := 1) (q0 := 0) rfl rfl, ro_pre hP hK hN⟩ rfl rfl hl.1 rfl (lv_room (Nat.le_of_ble_eq_true rfl)) dX1_wayIn_67 ⟨Nat.zero_le _, Nat.zero_le _⟩) hS hA hP (fun H locs hP hS => ?_)
        refine lv_lstore (lv' := [(9, .long (y_cel Y x v)), (8, .int (y_str Y v)), (7, .int (y_tb Y x v dir)), (6, .int (pl x v)), (0, .ref (a 6)), (1, .int x), (2, .long w), (4, .int v), (5, .int dir)]) hx hb dX1_wayIn_70 hl (by decide) rfl (fun ls hl => ?_)
        refine lv_lload_n hx hb dX1_wayIn_72 rfl (lv_at hl 6 rfl) ?_
        refine lv_lload hx hb dX1_wayIn_73 (lv_at hl 0 rfl) ?_
        refine lv_ldc2 (own := RX1) (index := 50) (v := (-1)) hx hb hown (hts (.constantLong RX1 50 (-1)) (by decide +kernel)) dX1_wayIn_75 ?_
        refine lv_lxor hx hb dX1_wayIn_78 ?_
        refine lv_land hx hb dX1_wayIn_79 ?_
        refine lv_aload_n hx hb dX1_wayIn_80 rfl (lv_at hl 4 rfl) ?_
        refine lv_aload_n hx hb dX1_wayIn_81 rfl (lv_at hl 4 rfl) ?_
        refine va_get (D := G) (ci := 1) (v := .ref (a 7)) (C := RX1) (T := TX1) (N := 6) hx hb hts in_X1_wayIn_1 hown hK hP 0 rfl rfl 0 (by decide) (hts (.fieldLink RX1 9 "RampJam$Yard" "sizes" "[I") (by decide +kernel)) (fun _ h9 => h9) rfl dX1_wayIn_82 ?_
        refine lv_iload hx hb dX1_wayIn_85 (lv_at hl 7 rfl) ?_
        refine va_iald hx hb hK hP 1 0 rfl rfl (y_has_in (by assumption)) dX1_wayIn_87 ?_
        refine ro_l (va_runV (As := [.int ((y_sz Y) (v.toNatClampNeg))]) (rest := [.long (w &&& ((y_cel Y x v) ^^^ (-1)))]) ⟨hx, hb, hml, hown, hts⟩ ((c_X1_barredTo l G cI cZ cJ a _ Y ((y_sz Y) (v.toNatClampNeg)))) (cwV 1 hts gX1_wayIn_X1_barredTo rfl rfl rfl (by decide +kernel) ⟨Nat.le_of_ble_eq_true rfl, Nat.le_of_ble_eq_true rfl⟩) ⟨ro_blind, va_recv hK hP (ci := 1) (q0 := 0) rfl rfl, ro_pre hP hK hN⟩ rfl rfl hl.1 rfl (lv_room (Nat.le_of_ble_eq_true rfl)) dX1_wayIn_88 ⟨Nat.zero_le _, Nat.zero_le _⟩) hS hA hP (fun H locs hP hS => ?_)
        refine lv_lor hx hb dX1_wayIn_91 ?_
        refine lv_lstore (lv' := [(11, .long ((w &&& ((y_cel Y x v) ^^^ (-1))) ||| (y_bar Y ((y_sz Y) (v.toNatClampNeg))))), (9, .long (y_cel Y x v)), (8, .int (y_str Y v)), (7, .int (y_tb Y x v dir)), (6, .int (pl x v)), (0, .ref (a 6)), (1, .int x), (2, .long w), (4, .int v), (5, .int dir)]) hx hb dX1_wayIn_92 hl (by decide) rfl (fun ls hl => ?_)
        refine lv_iconst (v := 0) hx hb dX1_wayIn_94 (by decide) ?_
        refine lv_istore (lv' := [(13, .int 0), (11, .long ((w &&& ((y_cel Y x v) ^^^ (-1))) ||| (y_bar Y ((y_sz Y) (v.toNatClampNeg))))), (9, .long (y_cel Y x v)), (8, .int (y_str Y v)), (7, .int (y_tb Y x v dir)), (6, .int (pl x v)), (0, .ref (a 6)), (1, .int x), (2, .long w), (4, .int v), (5, .int dir)]) hx hb dX1_wayIn_95 hl (by decide) rfl (fun ls hl => ?_)
        have cut_97 : ∀ (d : Nat) (k : Nat) (z_g : Int64), k ≤ (y_tb Y x v dir).toNatClampNeg → (y_tb Y x v dir).toNatClampNeg + 1 ≤ k + d → (y_wl (y_brd Y x w v) dir (y_str Y v) (y_tb Y x v dir) ((y_tb Y x v dir).toNatClampNeg - k) k z_g = y_wl (y_brd Y x w v) dir (y_str Y v) (y_tb Y x v dir) (y_tb Y x v dir).toNatClampNeg 0 (y_cel Y x v)) → ∀ (H : Heap) (locs : List Loc), va_P G vwCl [((a 6), .inr (1, [.ref (a 7), .ref (a 8), .ref (a 9), .ref (a 10), .int (nI (y_n Y)), .long (y_rp Y)])), ((a 7), .inl (cI, 9, .inl (y_sz Y))), ((a 8), .inl (cZ, 9, .inl (y_ac Y))), ((a 9), .inl (cI, 9, .inl (y_li Y))), ((a 10), .inl (cJ, 9, .inr (.inl (y_sh Y))))] H → va_S (ro_A s.heap.size) s.heap H locs → ∀ (ls : Array Slot), lv_has ls 14 [(0, .ref (a 6)), (1, .int x), (2, .long w), (4, .int v), (5, .int dir), (7, .int (y_tb Y x v dir)), (8, .int (y_str Y v)), (9, .long z_g), (11, .long (y_brd Y x w v)), (13, .int (nI k))] → W p l e (headSpec wsX1_wayIn ({ frames := 2, cells := 0, slots := 0, locals := 44 })).room s m ([.ref (a 6), .int x, .long w, .int v, .int dir] : List Value).toArray below meth c H locs 0 0 (MQ below (ro_Qi (y_way Y x w v dir) s.heap.size) ([.ref (a 6), .int x, .long w, .int v, .int dir] : List Value).toArray s 0 0 (ro_A s.heap.size)) (F0 m 97 ls []) := by
          intro d
          induction d with
          | zero =>
            intro k z_g hk_97 hd_97
            exact absurd hd_97 (by omega)
          | succ d ih_97 =>
            intro k z_g hk_97 hd_97 hI H locs hP hS ls hl
            refine lv_iload hx hb dX1_wayIn_97 (lv_at hl 9 rfl) ?_
            refine lv_iload hx hb dX1_wayIn_99 (lv_at hl 5 rfl) ?_
            refine lv_icmp_ge (tgt := 144) hx hb dX1_wayIn_101 (by decide) (fun c_2 => ?_) (fun c_2 => ?_)
            · have hout := c_2
              refine lv_iload hx hb dX1_wayIn_144 (lv_at hl 5 rfl) ?_
              exact W.iret (v := (y_tb Y x v dir)) hx hb hr (fun t ht hW => ⟨⟨(y_tb Y x v dir), (), rfl, by rw [y_way, if_pos c_1, ← hI, y_wl_out hout (by have := cl_bound (y_tb Y x v dir); omega)], trivial⟩, hS.F ht⟩) hS.2.2 dX1_wayIn_146
            · have hlt : k < (y_tb Y x v dir).toNatClampNeg := cl_lt (by have := cl_bound (y_tb Y x v dir); omega) c_2
              have cut_123 : ∀ (z2_g : Int64), (z2_g = y_shf dir (y_str Y v) z_g) → ∀ (H : Heap) (locs : List Loc), va_P G vwCl [((a 6), .inr (1, [.ref (a 7), .ref (a 8), .ref (a 9), .ref (a 10), .int (nI (y_n Y)), .long (y_rp Y)])), ((a 7), .inl (cI, 9, .inl (y_sz Y))), ((a 8), .inl (cZ, 9, .inl (y_ac Y))), ((a 9), .inl (cI, 9, .inl (y_li Y))), ((a 10), .inl (cJ, 9, .inr (.inl (y_sh Y))))] H → va_S (ro_A s.heap.size) s.heap H locs → ∀ (ls : Array Slot), lv_has ls 14 [(0, .ref (a 6)), (1, .int x), (2, .long w), (4, .int v), (5, .int dir), (7, .int (y_tb Y x v dir)), (8, .int (y_str Y v)), (9, .long z_g), (11, .long (y_brd Y x w v)), (13, .int (nI k))] → W p l e (headSpec wsX1_wayIn ({ frames := 2, cells := 0, slots := 0, locals := 44 })).room s m ([.ref (a 6), .int x, .long w, .int v, .int dir] : List Value).toArray below meth c H locs 0 0 (MQ below (ro_Qi (y_way Y x w v dir) s.heap.size) ([.ref (a 6), .int x, .long w, .int v, .int dir] : List Value).toArray s 0 0 (ro_A s.heap.size)) (F0 m 123 ls [.long z2_g]) := by
                intro z2_g ez H locs hP hS ls hl
                refine lv_lstore (lv' := [(9, .long z2_g), (0, .ref (a 6)), (1, .int x), (2, .long w), (4, .int v), (5, .int dir), (7, .int (y_tb Y x v dir)), (8, .int (y_str Y v)), (11, .long (y_brd Y x w v)), (13, .int (nI k))]) hx hb dX1_wayIn_123 hl (by decide) rfl (fun ls hl => ?_)
                refine lv_lload hx hb dX1_wayIn_125 (lv_at hl 0 rfl) ?_
                refine lv_lload hx hb dX1_wayIn_127 (lv_at hl 8 rfl) ?_
                refine lv_land hx hb dX1_wayIn_129 ?_
                refine lv_lconst (v := 0) hx hb dX1_wayIn_130 (by decide) ?_
                refine W.lcmp hx hb dX1_wayIn_131 ?_
                refine lv_if_eq (tgt := 138) hx hb dX1_wayIn_132 (by decide) (fun c_3 => ?_) (fun c_3 => ?_)
                · have c_3 := lg_t c_3
                  have hz := c_3
                  refine lv_iinc (v := (nI (k + 1))) (lv' := [(13, .int (nI (k + 1))), (9, .long z2_g), (0, .ref (a 6)), (1, .int x), (2, .long w), (4, .int v), (5, .int dir), (7, .int (y_tb Y x v dir)), (8, .int (y_str Y v)), (11, .long (y_brd Y x w v))]) hx hb dX1_wayIn_138 hl (k := 9) rfl (nI_1 _) (by decide) rfl (fun ls hl => ?_)
                  refine lv_goto (tgt := 97) hx hb dX1_wayIn_141 (by decide) ?_
                  exact ih_97 (k + 1) z2_g (hlt) (by omega) (by rw [← hI, y_wl_in hlt, ← ez, if_pos hz]) _ _ hP hS _ (lv_sub hl [2, 3, 4, 5, 6, 7, 8, 1, 9, 0] rfl)
                · have c_3 := lg_f c_3
                  have hz := c_3
                  refine lv_iload hx hb dX1_wayIn_135 (lv_at hl 9 rfl) ?_
                  exact W.iret (v := (nI k)) hx hb hr (fun t ht hW => ⟨⟨(nI k), (), rfl, by rw [y_way, if_pos c_1, ← hI, y_wl_in hlt, ← ez, if_neg hz], trivial⟩, hS.F ht⟩) hS.2.2 dX1_wayIn_137
              refine lv_iload hx hb dX1_wayIn_104 (lv_at hl 4 rfl) ?_
              refine lv_iconst (v := 1) hx hb dX1_wayIn_106 (by decide) ?_
              refine lv_icmp_ne (tgt := 118) hx hb dX1_wayIn_107 (by decide) (fun c_4 => ?_) (fun c_4 => ?_)
              · refine lv_lload hx hb dX1_wayIn_118 (lv_at hl 7 rfl) ?_
                refine lv_iload hx hb dX1_wayIn_120 (lv_at hl 6 rfl) ?_
                refine lv_lushr (v := ((z_g.toUInt64 >>> ((y_str Y v).toInt64.toUInt64 &&& Int64.toUInt64 63)).toInt64)) hx hb dX1_wayIn_122 rfl ?_
                exact cut_123 ((z_g.toUInt64 >>> ((y_str Y v).toInt64.toUInt64 &&& Int64.toUInt64 63)).toInt64) (by simp [y_shf, c_1, hI, c_2, c_4]) _ _ hP hS _ hl
              · refine lv_lload hx hb dX1_wayIn_110 (lv_at hl 7 rfl) ?_
                refine lv_iload hx hb dX1_wayIn_112 (lv_at hl 6 rfl) ?_
                refine lv_lshl (v := (z_g <<< ((y_str Y v).toInt64 &&& 63))) hx hb dX1_wayIn_114 rfl ?_
                refine lv_goto (tgt := 123) hx hb dX1_wayIn_115 (by decide) ?_
                exact cut_123 (z_g <<< ((y_str Y v).toInt64 &&& 63)) (by simp [y_shf, c_1, hI, c_2, c_4]) _ _ hP hS _ hl
        exact cut_97 ((y_tb Y x v dir).toNatClampNeg + 1) 0 (y_cel Y x v) (Nat.zero_le _) (by omega) (rfl) _ _ hP hS _ (lv_sub hl [6, 7, 8, 9, 10, 4, 3, 2, 1, 0] rfl)
      refine lv_aload_n hx hb dX1_wayIn_45 rfl (lv_at hl 2 rfl) ?_
      refine va_get (D := G) (ci := 1) (v := .ref (a 8)) (C := RX1) (T := TX1) (N := 6) hx hb hts in_X1_wayIn_1 hown hK hP 0 rfl rfl 1 (by decide) (hts (.fieldLink RX1 15 "RampJam$Yard" "acrosses" "[Z") (by decide +kernel)) (fun _ h9 => h9) rfl dX1_wayIn_46 ?_
      refine lv_iload hx hb dX1_wayIn_49 (lv_at hl 5 rfl) ?_
      refine va_zald hx hb hK hP 2 1 rfl rfl (y_has_in (by assumption)) dX1_wayIn_51 ?_
      refine lv_if_eq (tgt := 59) hx hb dX1_wayIn_52 (by decide) (fun c_5 => ?_) (fun c_5 => ?_)
      · refine lv_bipush (v := 6) hx hb dX1_wayIn_59 (by decide) ?_
        exact cut_61 6 (by simp [y_str, c_1, c_5]) _ _ hP hS _ hl
      · refine lv_iconst (v := 1) hx hb dX1_wayIn_55 (by decide) ?_
        refine lv_goto (tgt := 61) hx hb dX1_wayIn_56 (by decide) ?_
        exact cut_61 1 (by simp [y_str, c_1, c_5]) _ _ hP hS _ hl
    refine lv_iload hx hb dX1_wayIn_19 (lv_at hl 5 rfl) ?_
    refine lv_iconst (v := 1) hx hb dX1_wayIn_21 (by decide) ?_
    refine lv_icmp_ne (tgt := 41) hx hb dX1_wayIn_22 (by decide) (fun c_6 => ?_) (fun c_6 => ?_)
    · refine lv_iload hx hb dX1_wayIn_41 (lv_at hl 0 rfl) ?_
      exact cut_43 (pl x v) (by simp [y_tb, c_1, c_6]) _ _ hP hS _ hl
    · refine lv_bipush (v := 6) hx hb dX1_wayIn_25 (by decide) ?_
      refine lv_aload_n hx hb dX1_wayIn_27 rfl (lv_at hl 1 rfl) ?_
      refine va_get (D := G) (ci := 1) (v := .ref (a 7)) (C := RX1) (T := TX1) (N := 6) hx hb hts in_X1_wayIn_1 hown hK hP 0 rfl rfl 0 (by decide) (hts (.fieldLink RX1 9 "RampJam$Yard" "sizes" "[I") (by decide +kernel)) (fun _ h9 => h9) rfl dX1_wayIn_28 ?_
      refine lv_iload hx hb dX1_wayIn_31 (lv_at hl 4 rfl) ?_
      refine va_iald hx hb hK hP 1 0 rfl rfl (y_has_in (by assumption)) dX1_wayIn_33 ?_
      refine lv_isub hx hb dX1_wayIn_34 ?_
      refine lv_iload hx hb dX1_wayIn_35 (lv_at hl 0 rfl) ?_
      refine lv_isub hx hb dX1_wayIn_37 ?_
      refine lv_goto (tgt := 43) hx hb dX1_wayIn_38 (by decide) ?_
      exact cut_43 ((6 - ((y_sz Y) (v.toNatClampNeg))) - (pl x v)) (by simp [y_tb, c_1, c_6]) _ _ hP hS _ hl
  · have c_1 := b1_f c_1
    refine lv_iconst (v := 0) hx hb dX1_wayIn_9 (by decide) ?_
    exact W.iret (v := 0) hx hb hr (fun t ht hW => ⟨⟨0, (), rfl, by simp [y_way, c_1], trivial⟩, hS.F ht⟩) hS.2.2 dX1_wayIn_10

set_option maxHeartbeats 4000000 in
set_option maxRecDepth 100000 in
/-- cellsOf -/
theorem c_X2_cellsOf (l : Launch) (G : va_G) (cI cZ cJ : ClassId) (a : Nat → Nat) (sz : Nat) (sz0 : Int32) (ac : Int32) (r : Int32) (q : Int32)  : Met l yX2_cellsOf wsX2_cellsOf ({ frames := 1, cells := 0, slots := 0, locals := 21 }) (ro_Pc G [(cI, .int), (cZ, .boolean), (cJ, .long)] [] sz [.int sz0, .int ac, .int r, .int q]) (ro_Ql (cso ac r q (min sz0.toNatClampNeg 4)) sz) 0 0 (ro_A sz) := by
  refine Met.ofW (cc := cX2_cellsOf) (maxL := 7) (ret := (some .long)) (by decide) rfl ?_
  intro p e s m args below meth c s₁ B hml hv
  obtain ⟨rfl, hsz, hP, hK, hN⟩ := hv
  have hx := B.exec
  have hb := B.bytes
  have hr := B.returns
  have hts := atoms_spec (ws := wsX2_cellsOf) B.pre
  have hown : s.vm.findClass RX2 = some m.cls := findClass_of_methodNamed B.named
  have hlocks := B.notSynchronized
  subst hsz
  have hA : ∀ q : Nat, s.heap.size ≤ q → (ro_A s.heap.size) q := fun _ h => h
  have hS : va_S (ro_A s.heap.size) s.heap s.heap [] := va_S.rf
  have hP : va_P G vwCl [] s.heap := hP
  have hl := lv_entry ([.int sz0, .int ac, .int r, .int q]) (n := 7) (Nat.le_of_ble_eq_true rfl)
  rw [lg_entry_eq]
  generalize (lg_sl ([.int sz0, .int ac, .int r, .int q]) ++ List.replicate (7 - (lg_sl ([.int sz0, .int ac, .int r, .int q])).length) Slot.unset).toArray = ls at hl ⊢
  have hl : lv_has ls 7 [(0, .int sz0), (1, .int ac), (2, .int r), (3, .int q)] := hl
  refine lv_lconst (v := 0) hx hb dX2_cellsOf_0 (by decide) ?_
  refine lv_lstore (lv' := [(4, .long 0), (0, .int sz0), (1, .int ac), (2, .int r), (3, .int q)]) hx hb dX2_cellsOf_1 hl (by decide) rfl (fun ls hl => ?_)
  refine lv_iconst (v := 0) hx hb dX2_cellsOf_3 (by decide) ?_
  refine lv_istore (lv' := [(6, .int 0), (4, .long 0), (0, .int sz0), (1, .int ac), (2, .int r), (3, .int q)]) hx hb dX2_cellsOf_4 hl (by decide) rfl (fun ls hl => ?_)
  have cut_6 : ∀ (d : Nat) (k : Nat), k ≤ (min sz0.toNatClampNeg 4) → (min sz0.toNatClampNeg 4) + 1 ≤ k + d → ∀ (H : Heap) (locs : List Loc), va_P G vwCl [] H → va_S (ro_A s.heap.size) s.heap H locs → ∀ (ls : Array Slot), lv_has ls 7 [(0, .int sz0), (1, .int ac), (2, .int r), (3, .int q), (4, .long (cso ac r q k)), (6, .int (nI k))] → W p l e (headSpec wsX2_cellsOf ({ frames := 1, cells := 0, slots := 0, locals := 21 })).room s m ([.int sz0, .int ac, .int r, .int q] : List Value).toArray below meth c H locs 0 0 (MQ below (ro_Ql (cso ac r q (min sz0.toNatClampNeg 4)) s.heap.size) ([.int sz0, .int ac, .int r, .int q] : List Value).toArray s 0 0 (ro_A s.heap.size)) (F0 m 6 ls []) := by
    intro d
    induction d with
    | zero =>
      intro k hk_6 hd_6
      exact absurd hd_6 (by omega)
    | succ d ih_6 =>
      intro k hk_6 hd_6  H locs hP hS ls hl
      refine lv_iload hx hb dX2_cellsOf_6 (lv_at hl 5 rfl) ?_
      refine lv_iload_n hx hb dX2_cellsOf_8 rfl (lv_at hl 0 rfl) ?_
      refine lv_icmp_ge (tgt := 52) hx hb dX2_cellsOf_9 (by decide) (fun c_1 => ?_) (fun c_1 => ?_)
      · have hkn : k = min sz0.toNatClampNeg 4 := by have := cl_ge (by omega) c_1; omega
        refine lv_lload hx hb dX2_cellsOf_52 (lv_at hl 4 rfl) ?_
        exact W.lret (v := (cso ac r q k)) hx hb hr (fun t ht hW => ⟨⟨(cso ac r q k), (), rfl, by rw [hkn], trivial⟩, hS.F ht⟩) hS.2.2 dX2_cellsOf_54
      · have hl1 : k < sz0.toNatClampNeg := cl_lt (by omega) c_1
        refine lv_iload hx hb dX2_cellsOf_12 (lv_at hl 5 rfl) ?_
        refine lv_iconst (v := 4) hx hb dX2_cellsOf_14 (by decide) ?_
        refine lv_icmp_ge (tgt := 52) hx hb dX2_cellsOf_15 (by decide) (fun c_2 => ?_) (fun c_2 => ?_)
        · have hkn : k = min sz0.toNatClampNeg 4 := by have := nx_ge (n := 4) (by omega) (by omega) c_2; omega
          refine lv_lload hx hb dX2_cellsOf_52 (lv_at hl 4 rfl) ?_
          exact W.lret (v := (cso ac r q k)) hx hb hr (fun t ht hW => ⟨⟨(cso ac r q k), (), rfl, by rw [hkn], trivial⟩, hS.F ht⟩) hS.2.2 dX2_cellsOf_54
        · have hlt : k < min sz0.toNatClampNeg 4 := by have := nx_lt (n := 4) (by omega) (by omega) c_2; omega
          refine lv_lload hx hb dX2_cellsOf_18 (lv_at hl 4 rfl) ?_
          have cut_43 : ∀ (z_g : Int64), (z_g = if ac = 0 then co (r + nI k) q else co r (q + nI k)) → ∀ (H : Heap) (locs : List Loc), va_P G vwCl [] H → va_S (ro_A s.heap.size) s.heap H locs → ∀ (ls : Array Slot), lv_has ls 7 [(0, .int sz0), (1, .int ac), (2, .int r), (3, .int q), (4, .long (cso ac r q k)), (6, .int (nI k))] → W p l e (headSpec wsX2_cellsOf ({ frames := 1, cells := 0, slots := 0, locals := 21 })).room s m ([.int sz0, .int ac, .int r, .int q] : List Value).toArray below meth c H locs 0 0 (MQ below (ro_Ql (cso ac r q (min sz0.toNatClampNeg 4)) s.heap.size) ([.int sz0, .int ac, .int r, .int q] : List Value).toArray s 0 0 (ro_A s.heap.size)) (F0 m 43 ls [.long z_g, .long (cso ac r q k)]) := by
            intro z_g ez H locs hP hS ls hl
            subst ez
            try have hl : lv_has ls 7 [(0, .int sz0), (1, .int ac), (2, .int r), (3, .int q), (4, .long (cso ac r q k)), (6, .int (nI k))] := hl
            refine lv_lor hx hb dX2_cellsOf_43 ?_
            refine lv_lstore (lv' := [(4, .long ((cso ac r q k) ||| (if ac = 0 then co (r + nI k) q else co r (q + nI k)))), (0, .int sz0), (1, .int ac), (2, .int r), (3, .int q), (6, .int (nI k))]) hx hb dX2_cellsOf_44 hl (by decide) rfl (fun ls hl => ?_)
            refine lv_iinc (v := (nI (k + 1))) (lv' := [(6, .int (nI (k + 1))), (4, .long ((cso ac r q k) ||| (if ac = 0 then co (r + nI k) q else co r (q + nI k)))), (0, .int sz0), (1, .int ac), (2, .int r), (3, .int q)]) hx hb dX2_cellsOf_46 hl (k := 5) rfl (nI_1 _) (by decide) rfl (fun ls hl => ?_)
            refine lv_goto (tgt := 6) hx hb dX2_cellsOf_49 (by decide) ?_
            exact ih_6 (k + 1) (hlt) (by omega) _ _ hP hS _ (lv_sub hl [2, 3, 4, 5, 1, 0] rfl)
          refine lv_iload_n hx hb dX2_cellsOf_20 rfl (lv_at hl 1 rfl) ?_
          refine lv_if_eq (tgt := 35) hx hb dX2_cellsOf_21 (by decide) (fun c_3 => ?_) (fun c_3 => ?_)
          · refine lv_iload_n hx hb dX2_cellsOf_35 rfl (lv_at hl 2 rfl) ?_
            refine lv_iload hx hb dX2_cellsOf_36 (lv_at hl 5 rfl) ?_
            refine lv_iadd hx hb dX2_cellsOf_38 ?_
            refine lv_iload_n hx hb dX2_cellsOf_39 rfl (lv_at hl 3 rfl) ?_
            refine ro_l (va_runS (As := [.int (r + (nI k)), .int q]) (rest := [.long (cso ac r q k)]) ⟨hx, hb, hml, hown, hts⟩ ((c_X2_cellOf l G cI cZ cJ a _ (r + (nI k)) q)) (va_cwS 2 hts gX2_cellsOf_X2_cellOf rfl rfl rfl (by decide +kernel) ⟨Nat.le_of_ble_eq_true rfl, Nat.le_of_ble_eq_true rfl⟩) ⟨ro_blind, ro_pre va_P0 hK hN⟩ rfl rfl hl.1 rfl (lv_room (Nat.le_of_ble_eq_true rfl)) dX2_cellsOf_40 ⟨Nat.zero_le _, Nat.zero_le _⟩) hS hA hP (fun H locs hP hS => ?_)
            exact cut_43 (co (r + (nI k)) q) (by simp [c_1, c_2, c_3]) _ _ hP hS _ hl
          · refine lv_iload_n hx hb dX2_cellsOf_24 rfl (lv_at hl 2 rfl) ?_
            refine lv_iload_n hx hb dX2_cellsOf_25 rfl (lv_at hl 3 rfl) ?_
            refine lv_iload hx hb dX2_cellsOf_26 (lv_at hl 5 rfl) ?_
            refine lv_iadd hx hb dX2_cellsOf_28 ?_
            refine ro_l (va_runS (As := [.int r, .int (q + (nI k))]) (rest := [.long (cso ac r q k)]) ⟨hx, hb, hml, hown, hts⟩ ((c_X2_cellOf l G cI cZ cJ a _ r (q + (nI k)))) (va_cwS 2 hts gX2_cellsOf_X2_cellOf rfl rfl rfl (by decide +kernel) ⟨Nat.le_of_ble_eq_true rfl, Nat.le_of_ble_eq_true rfl⟩) ⟨ro_blind, ro_pre va_P0 hK hN⟩ rfl rfl hl.1 rfl (lv_room (Nat.le_of_ble_eq_true rfl)) dX2_cellsOf_29 ⟨Nat.zero_le _, Nat.zero_le _⟩) hS hA hP (fun H locs hP hS => ?_)
            refine lv_goto (tgt := 43) hx hb dX2_cellsOf_32 (by decide) ?_
            exact cut_43 (co r (q + (nI k))) (by simp [c_1, c_2, c_3]) _ _ hP hS _ hl
  exact cut_6 ((min sz0.toNatClampNeg 4) + 1) 0 (Nat.zero_le _) (by omega) _ _ hP hS _ (lv_sub hl [2, 3, 4, 5, 1, 0] rfl)
end
section
set_option maxHeartbeats 4000000 in
set_option maxRecDepth 100000 in
/-- cX0_codeOfMove -/
theorem c_X0_codeOfMove (l : Launch) (G : va_G) (cI cZ cJ : ClassId) (a : Nat → Nat) (sz : Nat) (x0 : Int32) (x1 : Int32)  : Met l yX0_codeOfMove wsX0_codeOfMove ({ frames := 0, cells := 0, slots := 0, locals := 0 }) (ro_Pc G [(cI, .int), (cZ, .boolean), (cJ, .long)] [] sz [.int x0, .int x1]) (ro_Qi (m_code x0 x1) sz) 0 0 (ro_A sz) := by
  refine Met.ofW (cc := cX0_codeOfMove) (maxL := 2) (ret := (some .int)) (by decide) rfl ?_
  intro p e s m args below meth c s₁ B hml hv
  obtain ⟨rfl, hsz, hP, hK, hN⟩ := hv
  have hx := B.exec
  have hb := B.bytes
  have hr := B.returns
  have hts := atoms_spec (ws := wsX0_codeOfMove) B.pre
  have hown : s.vm.findClass RX0 = some m.cls := findClass_of_methodNamed B.named
  have hlocks := B.notSynchronized
  subst hsz
  have hA : ∀ q : Nat, s.heap.size ≤ q → (ro_A s.heap.size) q := fun _ h => h
  have hS : va_S (ro_A s.heap.size) s.heap s.heap [] := va_S.rf
  have hP : va_P G vwCl [] s.heap := hP
  have hl := lv_entry ([.int x0, .int x1]) (n := 2) (Nat.le_of_ble_eq_true rfl)
  rw [lg_entry_eq]
  generalize (lg_sl ([.int x0, .int x1]) ++ List.replicate (2 - (lg_sl ([.int x0, .int x1])).length) Slot.unset).toArray = ls at hl ⊢
  have hl : lv_has ls 2 [(0, .int x0), (1, .int x1)] := hl
  refine lv_bipush (v := 10) hx hb dX0_codeOfMove_0 (by decide) ?_
  refine lv_iload_n hx hb dX0_codeOfMove_2 rfl (lv_at hl 0 rfl) ?_
  refine lv_imul hx hb dX0_codeOfMove_3 ?_
  refine lv_iload_n hx hb dX0_codeOfMove_4 rfl (lv_at hl 1 rfl) ?_
  refine lv_iadd hx hb dX0_codeOfMove_5 ?_
  refine lv_iconst (v := 4) hx hb dX0_codeOfMove_6 (by decide) ?_
  refine lv_iadd hx hb dX0_codeOfMove_7 ?_
  exact W.iret (v := (((10 * x0) + x1) + 4)) hx hb hr (fun t ht hW => ⟨⟨(((10 * x0) + x1) + 4), (), rfl, rfl, trivial⟩, hS.F ht⟩) hS.2.2 dX0_codeOfMove_8

set_option maxHeartbeats 4000000 in
set_option maxRecDepth 100000 in
/-- cX0_cellsOfMove -/
theorem c_X0_cellsOfMove (l : Launch) (G : va_G) (cI cZ cJ : ClassId) (a : Nat → Nat) (sz : Nat) (x0 : Int32)  : Met l yX0_cellsOfMove wsX0_cellsOfMove ({ frames := 0, cells := 0, slots := 0, locals := 0 }) (ro_Pc G [(cI, .int), (cZ, .boolean), (cJ, .long)] [] sz [.int x0]) (ro_Qi (m_cells x0) sz) 0 0 (ro_A sz) := by
  refine Met.ofW (cc := cX0_cellsOfMove) (maxL := 1) (ret := (some .int)) (by decide) rfl ?_
  intro p e s m args below meth c s₁ B hml hv
  obtain ⟨rfl, hsz, hP, hK, hN⟩ := hv
  have hx := B.exec
  have hb := B.bytes
  have hr := B.returns
  have hts := atoms_spec (ws := wsX0_cellsOfMove) B.pre
  have hown : s.vm.findClass RX0 = some m.cls := findClass_of_methodNamed B.named
  have hlocks := B.notSynchronized
  subst hsz
  have hA : ∀ q : Nat, s.heap.size ≤ q → (ro_A s.heap.size) q := fun _ h => h
  have hS : va_S (ro_A s.heap.size) s.heap s.heap [] := va_S.rf
  have hP : va_P G vwCl [] s.heap := hP
  have hl := lv_entry ([.int x0]) (n := 1) (Nat.le_of_ble_eq_true rfl)
  rw [lg_entry_eq]
  generalize (lg_sl ([.int x0]) ++ List.replicate (1 - (lg_sl ([.int x0])).length) Slot.unset).toArray = ls at hl ⊢
  have hl : lv_has ls 1 [(0, .int x0)] := hl
  refine lv_iload_n hx hb dX0_cellsOfMove_0 rfl (lv_at hl 0 rfl) ?_
  refine lv_bipush (v := 10) hx hb dX0_cellsOfMove_1 (by decide) ?_
  refine lv_irem hx hb dX0_cellsOfMove_3 (by decide) ?_
  refine lv_iconst (v := 4) hx hb dX0_cellsOfMove_4 (by decide) ?_
  refine lv_isub hx hb dX0_cellsOfMove_5 ?_
  exact W.iret (v := ((x0 - x0 / 10 * 10) - 4)) hx hb hr (fun t ht hW => ⟨⟨((x0 - x0 / 10 * 10) - 4), (), rfl, rfl, trivial⟩, hS.F ht⟩) hS.2.2 dX0_cellsOfMove_6

theorem in_X0_count_0 : ∀ w ∈ wsX00, w ∈ wsX0_count := by decide +kernel
set_option maxHeartbeats 4000000 in
set_option maxRecDepth 100000 in
/-- Search.count -/
theorem c_X0_count (l : Launch) (G : va_G) (cI cZ cJ : ClassId) (a : Nat → Nat) (sz : Nat) (S : SS) (Y : YS)  : Met l yX0_count wsX0_count ({ frames := 0, cells := 0, slots := 0, locals := 0 }) (ro_Pc G [(cI, .int), (cZ, .boolean), (cJ, .long)] (wS cI cZ cJ a S Y) sz [.ref (a 1)]) (ro_Qi (s_fc S) sz) 0 0 (ro_A sz) := by
  refine Met.ofW (cc := cX0_count) (maxL := 1) (ret := (some .int)) (by decide) rfl ?_
  intro p e s m args below meth c s₁ B hml hv
  obtain ⟨rfl, hsz, hP, hK, hN⟩ := hv
  have hx := B.exec
  have hb := B.bytes
  have hr := B.returns
  have hts := atoms_spec (ws := wsX0_count) B.pre
  have hown : s.vm.findClass RX0 = some m.cls := findClass_of_methodNamed B.named
  have hlocks := B.notSynchronized
  subst hsz
  have hA : ∀ q : Nat, s.heap.size ≤ q → (ro_A s.heap.size) q := fun _ h => h
  have hS : va_S (ro_A s.heap.size) s.heap s.heap [] := va_S.rf
  have hP : va_P G vwCl [((a 1), .inr (0, [.ref (a 6), .ref (a 2), .ref (a 3), .ref (a 4), .ref (a 5), .int (s_fc S), .int (s_fs S), .int (s_sm S), .int (s_sc S), .int (s_sf S)])), ((a 2), .inl (cI, 800, .inl (s_fo S))), ((a 3), .inl (cI, 800, .inl (s_or S))), ((a 4), .inl (cI, 800, .inl (s_mo S))), ((a 5), .inl (cI, 2048, .inl (s_sl S))), ((a 6), .inr (1, [.ref (a 7), .ref (a 8), .ref (a 9), .ref (a 10), .int (nI (y_n Y)), .long (y_rp Y)])), ((a 7), .inl (cI, 9, .inl (y_sz Y))), ((a 8), .inl (cZ, 9, .inl (y_ac Y))), ((a 9), .inl (cI, 9, .inl (y_li Y))), ((a 10), .inl (cJ, 9, .inr (.inl (y_sh Y))))] s.heap := hP
  have hl := lv_entry ([.ref (a 1)]) (n := 1) (Nat.le_of_ble_eq_true rfl)
  rw [lg_entry_eq]
  generalize (lg_sl ([.ref (a 1)]) ++ List.replicate (1 - (lg_sl ([.ref (a 1)])).length) Slot.unset).toArray = ls at hl ⊢
  have hl : lv_has ls 1 [(0, .ref (a 1))] := hl
  refine lv_aload_n hx hb dX0_count_0 rfl (lv_at hl 0 rfl) ?_
  refine va_get (D := G) (ci := 0) (v := .int (s_fc S)) (C := RX0) (T := TX0) (N := 10) hx hb hts in_X0_count_0 hown hK hP 0 rfl rfl 5 (by decide) (hts (.fieldLink RX0 28 "RampJam$Search" "foundCount" "I") (by decide +kernel)) (fun _ h9 => h9) rfl dX0_count_1 ?_
  exact W.iret (v := (s_fc S)) hx hb hr (fun t ht hW => ⟨⟨(s_fc S), (), rfl, rfl, trivial⟩, hS.F ht⟩) hS.2.2 dX0_count_4

theorem in_X0_movesToSolved_0 : ∀ w ∈ wsX00, w ∈ wsX0_movesToSolved := by decide +kernel
set_option maxHeartbeats 4000000 in
set_option maxRecDepth 100000 in
/-- Search.movesToSolved -/
theorem c_X0_movesToSolved (l : Launch) (G : va_G) (cI cZ cJ : ClassId) (a : Nat → Nat) (sz : Nat) (S : SS) (Y : YS)  : Met l yX0_movesToSolved wsX0_movesToSolved ({ frames := 0, cells := 0, slots := 0, locals := 0 }) (ro_Pc G [(cI, .int), (cZ, .boolean), (cJ, .long)] (wS cI cZ cJ a S Y) sz [.ref (a 1)]) (ro_Qi (s_sm S) sz) 0 0 (ro_A sz) := by
  refine Met.ofW (cc := cX0_movesToSolved) (maxL := 1) (ret := (some .int)) (by decide) rfl ?_
  intro p e s m args below meth c s₁ B hml hv
  obtain ⟨rfl, hsz, hP, hK, hN⟩ := hv
  have hx := B.exec
  have hb := B.bytes
  have hr := B.returns
  have hts := atoms_spec (ws := wsX0_movesToSolved) B.pre
  have hown : s.vm.findClass RX0 = some m.cls := findClass_of_methodNamed B.named
  have hlocks := B.notSynchronized
  subst hsz
  have hA : ∀ q : Nat, s.heap.size ≤ q → (ro_A s.heap.size) q := fun _ h => h
  have hS : va_S (ro_A s.heap.size) s.heap s.heap [] := va_S.rf
  have hP : va_P G vwCl [((a 1), .inr (0, [.ref (a 6), .ref (a 2), .ref (a 3), .ref (a 4), .ref (a 5), .int (s_fc S), .int (s_fs S), .int (s_sm S), .int (s_sc S), .int (s_sf S)])), ((a 2), .inl (cI, 800, .inl (s_fo S))), ((a 3), .inl (cI, 800, .inl (s_or S))), ((a 4), .inl (cI, 800, .inl (s_mo S))), ((a 5), .inl (cI, 2048, .inl (s_sl S))), ((a 6), .inr (1, [.ref (a 7), .ref (a 8), .ref (a 9), .ref (a 10), .int (nI (y_n Y)), .long (y_rp Y)])), ((a 7), .inl (cI, 9, .inl (y_sz Y))), ((a 8), .inl (cZ, 9, .inl (y_ac Y))), ((a 9), .inl (cI, 9, .inl (y_li Y))), ((a 10), .inl (cJ, 9, .inr (.inl (y_sh Y))))] s.heap := hP
  have hl := lv_entry ([.ref (a 1)]) (n := 1) (Nat.le_of_ble_eq_true rfl)
  rw [lg_entry_eq]
  generalize (lg_sl ([.ref (a 1)]) ++ List.replicate (1 - (lg_sl ([.ref (a 1)])).length) Slot.unset).toArray = ls at hl ⊢
  have hl : lv_has ls 1 [(0, .ref (a 1))] := hl
  refine lv_aload_n hx hb dX0_movesToSolved_0 rfl (lv_at hl 0 rfl) ?_
  refine va_get (D := G) (ci := 0) (v := .int (s_sm S)) (C := RX0) (T := TX0) (N := 10) hx hb hts in_X0_movesToSolved_0 hown hK hP 0 rfl rfl 7 (by decide) (hts (.fieldLink RX0 52 "RampJam$Search" "solvedMoves" "I") (by decide +kernel)) (fun _ h9 => h9) rfl dX0_movesToSolved_1 ?_
  exact W.iret (v := (s_sm S)) hx hb hr (fun t ht hW => ⟨⟨(s_sm S), (), rfl, rfl, trivial⟩, hS.F ht⟩) hS.2.2 dX0_movesToSolved_4

theorem in_X0_firstMoveToSolved_0 : ∀ w ∈ wsX00, w ∈ wsX0_firstMoveToSolved := by decide +kernel
set_option maxHeartbeats 4000000 in
set_option maxRecDepth 100000 in
/-- Search.firstMoveToSolved -/
theorem c_X0_firstMoveToSolved (l : Launch) (G : va_G) (cI cZ cJ : ClassId) (a : Nat → Nat) (sz : Nat) (S : SS) (Y : YS)  : Met l yX0_firstMoveToSolved wsX0_firstMoveToSolved ({ frames := 0, cells := 0, slots := 0, locals := 0 }) (ro_Pc G [(cI, .int), (cZ, .boolean), (cJ, .long)] (wS cI cZ cJ a S Y) sz [.ref (a 1)]) (ro_Qi (s_sf S) sz) 0 0 (ro_A sz) := by
  refine Met.ofW (cc := cX0_firstMoveToSolved) (maxL := 1) (ret := (some .int)) (by decide) rfl ?_
  intro p e s m args below meth c s₁ B hml hv
  obtain ⟨rfl, hsz, hP, hK, hN⟩ := hv
  have hx := B.exec
  have hb := B.bytes
  have hr := B.returns
  have hts := atoms_spec (ws := wsX0_firstMoveToSolved) B.pre
  have hown : s.vm.findClass RX0 = some m.cls := findClass_of_methodNamed B.named
  have hlocks := B.notSynchronized
  subst hsz
  have hA : ∀ q : Nat, s.heap.size ≤ q → (ro_A s.heap.size) q := fun _ h => h
  have hS : va_S (ro_A s.heap.size) s.heap s.heap [] := va_S.rf
  have hP : va_P G vwCl [((a 1), .inr (0, [.ref (a 6), .ref (a 2), .ref (a 3), .ref (a 4), .ref (a 5), .int (s_fc S), .int (s_fs S), .int (s_sm S), .int (s_sc S), .int (s_sf S)])), ((a 2), .inl (cI, 800, .inl (s_fo S))), ((a 3), .inl (cI, 800, .inl (s_or S))), ((a 4), .inl (cI, 800, .inl (s_mo S))), ((a 5), .inl (cI, 2048, .inl (s_sl S))), ((a 6), .inr (1, [.ref (a 7), .ref (a 8), .ref (a 9), .ref (a 10), .int (nI (y_n Y)), .long (y_rp Y)])), ((a 7), .inl (cI, 9, .inl (y_sz Y))), ((a 8), .inl (cZ, 9, .inl (y_ac Y))), ((a 9), .inl (cI, 9, .inl (y_li Y))), ((a 10), .inl (cJ, 9, .inr (.inl (y_sh Y))))] s.heap := hP
  have hl := lv_entry ([.ref (a 1)]) (n := 1) (Nat.le_of_ble_eq_true rfl)
  rw [lg_entry_eq]
  generalize (lg_sl ([.ref (a 1)]) ++ List.replicate (1 - (lg_sl ([.ref (a 1)])).length) Slot.unset).toArray = ls at hl ⊢
  have hl : lv_has ls 1 [(0, .ref (a 1))] := hl
  refine lv_aload_n hx hb dX0_firstMoveToSolved_0 rfl (lv_at hl 0 rfl) ?_
  refine va_get (D := G) (ci := 0) (v := .int (s_sf S)) (C := RX0) (T := TX0) (N := 10) hx hb hts in_X0_firstMoveToSolved_0 hown hK hP 0 rfl rfl 9 (by decide) (hts (.fieldLink RX0 58 "RampJam$Search" "solvedFirstMove" "I") (by decide +kernel)) (fun _ h9 => h9) rfl dX0_firstMoveToSolved_1 ?_
  exact W.iret (v := (s_sf S)) hx hb hr (fun t ht hW => ⟨⟨(s_sf S), (), rfl, rfl, trivial⟩, hS.F ht⟩) hS.2.2 dX0_firstMoveToSolved_4

theorem in_X0_isFound_0 : ∀ w ∈ wsX00, w ∈ wsX0_isFound := by decide +kernel
set_option maxHeartbeats 4000000 in
set_option maxRecDepth 100000 in
/-- Search.isFound -/
theorem c_X0_isFound (l : Launch) (G : va_G) (cI cZ cJ : ClassId) (a : Nat → Nat) (sz : Nat) (S : SS) (Y : YS) (i_g : Int32)  : Met l yX0_isFound wsX0_isFound ({ frames := 0, cells := 0, slots := 0, locals := 0 }) (ro_Pc G [(cI, .int), (cZ, .boolean), (cJ, .long)] (wS cI cZ cJ a S Y) sz [.ref (a 1), .int i_g]) (ro_Qi (b1 (s_isF S i_g)) sz) 0 0 (ro_A sz) := by
  refine Met.ofW (cc := cX0_isFound) (maxL := 2) (ret := (some .boolean)) (by decide) rfl ?_
  intro p e s m args below meth c s₁ B hml hv
  obtain ⟨rfl, hsz, hP, hK, hN⟩ := hv
  have hx := B.exec
  have hb := B.bytes
  have hr := B.returns
  have hts := atoms_spec (ws := wsX0_isFound) B.pre
  have hown : s.vm.findClass RX0 = some m.cls := findClass_of_methodNamed B.named
  have hlocks := B.notSynchronized
  subst hsz
  have hA : ∀ q : Nat, s.heap.size ≤ q → (ro_A s.heap.size) q := fun _ h => h
  have hS : va_S (ro_A s.heap.size) s.heap s.heap [] := va_S.rf
  have hP : va_P G vwCl [((a 1), .inr (0, [.ref (a 6), .ref (a 2), .ref (a 3), .ref (a 4), .ref (a 5), .int (s_fc S), .int (s_fs S), .int (s_sm S), .int (s_sc S), .int (s_sf S)])), ((a 2), .inl (cI, 800, .inl (s_fo S))), ((a 3), .inl (cI, 800, .inl (s_or S))), ((a 4), .inl (cI, 800, .inl (s_mo S))), ((a 5), .inl (cI, 2048, .inl (s_sl S))), ((a 6), .inr (1, [.ref (a 7), .ref (a 8), .ref (a 9), .ref (a 10), .int (nI (y_n Y)), .long (y_rp Y)])), ((a 7), .inl (cI, 9, .inl (y_sz Y))), ((a 8), .inl (cZ, 9, .inl (y_ac Y))), ((a 9), .inl (cI, 9, .inl (y_li Y))), ((a 10), .inl (cJ, 9, .inr (.inl (y_sh Y))))] s.heap := hP
  have hl := lv_entry ([.ref (a 1), .int i_g]) (n := 2) (Nat.le_of_ble_eq_true rfl)
  rw [lg_entry_eq]
  generalize (lg_sl ([.ref (a 1), .int i_g]) ++ List.replicate (2 - (lg_sl ([.ref (a 1), .int i_g])).length) Slot.unset).toArray = ls at hl ⊢
  have hl : lv_has ls 2 [(0, .ref (a 1)), (1, .int i_g)] := hl
  refine lv_iload_n hx hb dX0_isFound_0 rfl (lv_at hl 1 rfl) ?_
  refine lv_if_lt (tgt := 23) hx hb dX0_isFound_1 (by decide) (fun c_1 => ?_) (fun c_1 => ?_)
  · refine lv_iconst (v := 0) hx hb dX0_isFound_23 (by decide) ?_
    exact W.zret (ty := .boolean) (v := 0) hx hb hr (rfl) (fun t ht hW => ⟨⟨0, (), rfl, by simp [s_isF, c_1], trivial⟩, hS.F ht⟩) hS.2.2 dX0_isFound_24
  · refine lv_iload_n hx hb dX0_isFound_4 rfl (lv_at hl 1 rfl) ?_
    refine lv_aload_n hx hb dX0_isFound_5 rfl (lv_at hl 0 rfl) ?_
    refine va_get (D := G) (ci := 0) (v := .int (s_fc S)) (C := RX0) (T := TX0) (N := 10) hx hb hts in_X0_isFound_0 hown hK hP 0 rfl rfl 5 (by decide) (hts (.fieldLink RX0 28 "RampJam$Search" "foundCount" "I") (by decide +kernel)) (fun _ h9 => h9) rfl dX0_isFound_6 ?_
    refine lv_icmp_ge (tgt := 23) hx hb dX0_isFound_9 (by decide) (fun c_2 => ?_) (fun c_2 => ?_)
    · refine lv_iconst (v := 0) hx hb dX0_isFound_23 (by decide) ?_
      exact W.zret (ty := .boolean) (v := 0) hx hb hr (rfl) (fun t ht hW => ⟨⟨0, (), rfl, by simp [s_isF, c_1, c_2], trivial⟩, hS.F ht⟩) hS.2.2 dX0_isFound_24
    · refine lv_iload_n hx hb dX0_isFound_12 rfl (lv_at hl 1 rfl) ?_
      refine lv_sipush (v := 800) hx hb dX0_isFound_13 (by decide) ?_
      refine lv_icmp_ge (tgt := 23) hx hb dX0_isFound_16 (by decide) (fun c_3 => ?_) (fun c_3 => ?_)
      · refine lv_iconst (v := 0) hx hb dX0_isFound_23 (by decide) ?_
        exact W.zret (ty := .boolean) (v := 0) hx hb hr (rfl) (fun t ht hW => ⟨⟨0, (), rfl, by simp [s_isF, c_1, c_2, c_3], trivial⟩, hS.F ht⟩) hS.2.2 dX0_isFound_24
      · refine lv_iconst (v := 1) hx hb dX0_isFound_19 (by decide) ?_
        refine lv_goto (tgt := 24) hx hb dX0_isFound_20 (by decide) ?_
        exact W.zret (ty := .boolean) (v := 1) hx hb hr (rfl) (fun t ht hW => ⟨⟨1, (), rfl, by simp [s_isF, c_1, c_2, c_3], trivial⟩, hS.F ht⟩) hS.2.2 dX0_isFound_24

theorem in_X0_slotFor_0 : ∀ w ∈ wsX00, w ∈ wsX0_slotFor := by decide +kernel
set_option maxHeartbeats 4000000 in
set_option maxRecDepth 100000 in
/-- Search.slotFor -/
theorem c_X0_slotFor (l : Launch) (G : va_G) (cI cZ cJ : ClassId) (a : Nat → Nat) (sz : Nat) (S : SS) (Y : YS) (x_g : Int32)  : Met l yX0_slotFor wsX0_slotFor ({ frames := 0, cells := 0, slots := 0, locals := 0 }) (ro_Pc G [(cI, .int), (cZ, .boolean), (cJ, .long)] (wS cI cZ cJ a S Y) sz [.ref (a 1), .int x_g]) (ro_Qi (s_slot S x_g) sz) 0 0 (ro_A sz) := by
  refine Met.ofW (cc := cX0_slotFor) (maxL := 6) (ret := (some .int)) (by decide) rfl ?_
  intro p e s m args below meth c s₁ B hml hv
  obtain ⟨rfl, hsz, hP, hK, hN⟩ := hv
  have hx := B.exec
  have hb := B.bytes
  have hr := B.returns
  have hts := atoms_spec (ws := wsX0_slotFor) B.pre
  have hown : s.vm.findClass RX0 = some m.cls := findClass_of_methodNamed B.named
  have hlocks := B.notSynchronized
  subst hsz
  have hA : ∀ q : Nat, s.heap.size ≤ q → (ro_A s.heap.size) q := fun _ h => h
  have hS : va_S (ro_A s.heap.size) s.heap s.heap [] := va_S.rf
  have hP : va_P G vwCl [((a 1), .inr (0, [.ref (a 6), .ref (a 2), .ref (a 3), .ref (a 4), .ref (a 5), .int (s_fc S), .int (s_fs S), .int (s_sm S), .int (s_sc S), .int (s_sf S)])), ((a 2), .inl (cI, 800, .inl (s_fo S))), ((a 3), .inl (cI, 800, .inl (s_or S))), ((a 4), .inl (cI, 800, .inl (s_mo S))), ((a 5), .inl (cI, 2048, .inl (s_sl S))), ((a 6), .inr (1, [.ref (a 7), .ref (a 8), .ref (a 9), .ref (a 10), .int (nI (y_n Y)), .long (y_rp Y)])), ((a 7), .inl (cI, 9, .inl (y_sz Y))), ((a 8), .inl (cZ, 9, .inl (y_ac Y))), ((a 9), .inl (cI, 9, .inl (y_li Y))), ((a 10), .inl (cJ, 9, .inr (.inl (y_sh Y))))] s.heap := hP
  have hl := lv_entry ([.ref (a 1), .int x_g]) (n := 6) (Nat.le_of_ble_eq_true rfl)
  rw [lg_entry_eq]
  generalize (lg_sl ([.ref (a 1), .int x_g]) ++ List.replicate (6 - (lg_sl ([.ref (a 1), .int x_g])).length) Slot.unset).toArray = ls at hl ⊢
  have hl : lv_has ls 6 [(0, .ref (a 1)), (1, .int x_g)] := hl
  refine lv_iload_n hx hb dX0_slotFor_0 rfl (lv_at hl 1 rfl) ?_
  refine lv_ldc (own := RX0) (index := 106) (v := (-1640531535)) hx hb hown (hts (.constant RX0 106 (-1640531535)) (by decide +kernel)) dX0_slotFor_1 ?_
  refine lv_imul hx hb dX0_slotFor_3 ?_
  refine lv_bipush (v := 21) hx hb dX0_slotFor_4 (by decide) ?_
  refine lv_iushr (v := (((x_g * (-1640531535)).toUInt32 >>> ((21 : Int32).toUInt32 &&& Int32.toUInt32 31)).toInt32)) hx hb dX0_slotFor_6 rfl ?_
  refine lv_istore_n (lv' := [(2, .int (((x_g * (-1640531535)).toUInt32 >>> ((21 : Int32).toUInt32 &&& Int32.toUInt32 31)).toInt32)), (0, .ref (a 1)), (1, .int x_g)]) hx hb dX0_slotFor_7 rfl hl (by decide) rfl (fun ls hl => ?_)
  refine lv_iconst (v := 0) hx hb dX0_slotFor_8 (by decide) ?_
  refine lv_istore_n (lv' := [(3, .int 0), (2, .int (((x_g * (-1640531535)).toUInt32 >>> ((21 : Int32).toUInt32 &&& Int32.toUInt32 31)).toInt32)), (0, .ref (a 1)), (1, .int x_g)]) hx hb dX0_slotFor_9 rfl hl (by decide) rfl (fun ls hl => ?_)
  have cut_10 : ∀ (d : Nat) (k_g : Nat), k_g ≤ 2048 → 2048 + 1 ≤ k_g + d → (s_slotL S x_g (2048 - k_g) k_g = s_slotL S x_g 2048 0) → ∀ (H : Heap) (locs : List Loc), va_P G vwCl [((a 1), .inr (0, [.ref (a 6), .ref (a 2), .ref (a 3), .ref (a 4), .ref (a 5), .int (s_fc S), .int (s_fs S), .int (s_sm S), .int (s_sc S), .int (s_sf S)])), ((a 2), .inl (cI, 800, .inl (s_fo S))), ((a 3), .inl (cI, 800, .inl (s_or S))), ((a 4), .inl (cI, 800, .inl (s_mo S))), ((a 5), .inl (cI, 2048, .inl (s_sl S))), ((a 6), .inr (1, [.ref (a 7), .ref (a 8), .ref (a 9), .ref (a 10), .int (nI (y_n Y)), .long (y_rp Y)])), ((a 7), .inl (cI, 9, .inl (y_sz Y))), ((a 8), .inl (cZ, 9, .inl (y_ac Y))), ((a 9), .inl (cI, 9, .inl (y_li Y))), ((a 10), .inl (cJ, 9, .inr (.inl (y_sh Y))))] H → va_S (ro_A s.heap.size) s.heap H locs → ∀ (ls : Array Slot), lv_has ls 6 [(0, .ref (a 1)), (1, .int x_g), (2, .int (h_first x_g)), (3, .int (nI k_g))] → W p l e (headSpec wsX0_slotFor ({ frames := 0, cells := 0, slots := 0, locals := 0 })).room s m ([.ref (a 1), .int x_g] : List Value).toArray below meth c H locs 0 0 (MQ below (ro_Qi (s_slot S x_g) s.heap.size) ([.ref (a 1), .int x_g] : List Value).toArray s 0 0 (ro_A s.heap.size)) (F0 m 10 ls []) := by
    intro d
    induction d with
    | zero =>
      intro k_g hk_10 hd_10
      exact absurd hd_10 (by omega)
    | succ d ih_10 =>
      intro k_g hk_10 hd_10 hI H locs hP hS ls hl
      refine lv_iload_n hx hb dX0_slotFor_10 rfl (lv_at hl 3 rfl) ?_
      refine lv_sipush (v := 2048) hx hb dX0_slotFor_11 (by decide) ?_
      refine lv_icmp_ge (tgt := 70) hx hb dX0_slotFor_14 (by decide) (fun c_1 => ?_) (fun c_1 => ?_)
      · have hk8 := nx_ge (n := 2048) (by omega) (by omega) c_1
        refine lv_iconst (v := (-1)) hx hb dX0_slotFor_70 (by decide) ?_
        exact W.iret (v := (-1)) hx hb hr (fun t ht hW => ⟨⟨(-1), (), rfl, by rw [s_slot, ← hI, show 2048 - k_g = 0 by omega]; rfl, trivial⟩, hS.F ht⟩) hS.2.2 dX0_slotFor_71
      · have hlt : k_g < 2048 := nx_lt (n := 2048) (by omega) (by omega) c_1
        refine lv_iload_n hx hb dX0_slotFor_17 rfl (lv_at hl 2 rfl) ?_
        refine lv_iload_n hx hb dX0_slotFor_18 rfl (lv_at hl 3 rfl) ?_
        refine lv_iadd hx hb dX0_slotFor_19 ?_
        refine lv_sipush (v := 2047) hx hb dX0_slotFor_20 (by decide) ?_
        refine lv_iand hx hb dX0_slotFor_23 ?_
        refine lv_istore (lv' := [(4, .int (((h_first x_g) + (nI k_g)) &&& 2047)), (0, .ref (a 1)), (1, .int x_g), (2, .int (h_first x_g)), (3, .int (nI k_g))]) hx hb dX0_slotFor_24 hl (by decide) rfl (fun ls hl => ?_)
        refine lv_aload_n hx hb dX0_slotFor_26 rfl (lv_at hl 1 rfl) ?_
        refine va_get (D := G) (ci := 0) (v := .ref (a 5)) (C := RX0) (T := TX0) (N := 10) hx hb hts in_X0_slotFor_0 hown hK hP 0 rfl rfl 4 (by decide) (hts (.fieldLink RX0 21 "RampJam$Search" "slots" "[I") (by decide +kernel)) (fun _ h9 => h9) rfl dX0_slotFor_27 ?_
        refine lv_iload hx hb dX0_slotFor_30 (lv_at hl 0 rfl) ?_
        refine va_iald hx hb hK hP 4 0 rfl rfl (h_slot_in _) dX0_slotFor_32 ?_
        refine lv_iconst (v := 1) hx hb dX0_slotFor_33 (by decide) ?_
        refine lv_isub hx hb dX0_slotFor_34 ?_
        refine lv_istore (lv' := [(5, .int (((s_sl S) ((((h_first x_g) + (nI k_g)) &&& 2047).toNatClampNeg)) - 1)), (4, .int (((h_first x_g) + (nI k_g)) &&& 2047)), (0, .ref (a 1)), (1, .int x_g), (2, .int (h_first x_g)), (3, .int (nI k_g))]) hx hb dX0_slotFor_35 hl (by decide) rfl (fun ls hl => ?_)
        refine lv_iload hx hb dX0_slotFor_37 (lv_at hl 0 rfl) ?_
        refine lv_if_lt (tgt := 61) hx hb dX0_slotFor_39 (by decide) (fun c_2 => ?_) (fun c_2 => ?_)
        · refine lv_iload hx hb dX0_slotFor_61 (lv_at hl 1 rfl) ?_
          exact W.iret (v := (((h_first x_g) + (nI k_g)) &&& 2047)) hx hb hr (fun t ht hW => ⟨⟨(((h_first x_g) + (nI k_g)) &&& 2047), (), rfl, by rw [s_slot, ← hI, s_slotL_in hlt, if_pos (by first | exact Or.inl (by assumption) | exact Or.inr (Or.inl (by assumption)) | exact Or.inr (Or.inr (by assumption)))]; rfl, trivial⟩, hS.F ht⟩) hS.2.2 dX0_slotFor_63
        · refine lv_iload hx hb dX0_slotFor_42 (lv_at hl 0 rfl) ?_
          refine lv_sipush (v := 800) hx hb dX0_slotFor_44 (by decide) ?_
          refine lv_icmp_ge (tgt := 61) hx hb dX0_slotFor_47 (by decide) (fun c_3 => ?_) (fun c_3 => ?_)
          · refine lv_iload hx hb dX0_slotFor_61 (lv_at hl 1 rfl) ?_
            exact W.iret (v := (((h_first x_g) + (nI k_g)) &&& 2047)) hx hb hr (fun t ht hW => ⟨⟨(((h_first x_g) + (nI k_g)) &&& 2047), (), rfl, by rw [s_slot, ← hI, s_slotL_in hlt, if_pos (by first | exact Or.inl (by assumption) | exact Or.inr (Or.inl (by assumption)) | exact Or.inr (Or.inr (by assumption)))]; rfl, trivial⟩, hS.F ht⟩) hS.2.2 dX0_slotFor_63
          · refine lv_aload_n hx hb dX0_slotFor_50 rfl (lv_at hl 2 rfl) ?_
            refine va_get (D := G) (ci := 0) (v := .ref (a 2)) (C := RX0) (T := TX0) (N := 10) hx hb hts in_X0_slotFor_0 hown hK hP 0 rfl rfl 1 (by decide) (hts (.fieldLink RX0 9 "RampJam$Search" "found" "[I") (by decide +kernel)) (fun _ h9 => h9) rfl dX0_slotFor_51 ?_
            refine lv_iload hx hb dX0_slotFor_54 (lv_at hl 0 rfl) ?_
            refine va_iald hx hb hK hP 1 0 rfl rfl (cl_in800 (by assumption) (by assumption)) dX0_slotFor_56 ?_
            refine lv_iload_n hx hb dX0_slotFor_57 rfl (lv_at hl 3 rfl) ?_
            refine lv_icmp_ne (tgt := 64) hx hb dX0_slotFor_58 (by decide) (fun c_4 => ?_) (fun c_4 => ?_)
            · refine lv_iinc (v := (nI (k_g + 1))) (lv' := [(3, .int (nI (k_g + 1))), (5, .int (((s_sl S) ((((h_first x_g) + (nI k_g)) &&& 2047).toNatClampNeg)) - 1)), (4, .int (((h_first x_g) + (nI k_g)) &&& 2047)), (0, .ref (a 1)), (1, .int x_g), (2, .int (h_first x_g))]) hx hb dX0_slotFor_64 hl (k := 5) rfl (nI_1 _) (by decide) rfl (fun ls hl => ?_)
              refine lv_goto (tgt := 10) hx hb dX0_slotFor_67 (by decide) ?_
              exact ih_10 (k_g + 1) (hlt) (by omega) (by rw [← hI, s_slotL_in hlt, if_neg (by rintro (h | h | h) <;> contradiction)]) _ _ hP hS _ (lv_sub hl [3, 4, 5, 0] rfl)
            · refine lv_iload hx hb dX0_slotFor_61 (lv_at hl 1 rfl) ?_
              exact W.iret (v := (((h_first x_g) + (nI k_g)) &&& 2047)) hx hb hr (fun t ht hW => ⟨⟨(((h_first x_g) + (nI k_g)) &&& 2047), (), rfl, by rw [s_slot, ← hI, s_slotL_in hlt, if_pos (by first | exact Or.inl (by assumption) | exact Or.inr (Or.inl (by assumption)) | exact Or.inr (Or.inr (by assumption)))]; rfl, trivial⟩, hS.F ht⟩) hS.2.2 dX0_slotFor_63
  exact cut_10 (2048 + 1) 0 (Nat.zero_le _) (by omega) (rfl) _ _ hP hS _ (lv_sub hl [2, 3, 1, 0] rfl)

theorem in_X0_addIfNew_0 : ∀ w ∈ wsX00, w ∈ wsX0_addIfNew := by decide +kernel
set_option maxHeartbeats 4000000 in
set_option maxRecDepth 100000 in
/-- Search.addIfNew -/
theorem c_X0_addIfNew (l : Launch) (G : va_G) (cI cZ cJ : ClassId) (a : Nat → Nat) (sz : Nat) (S : SS) (Y : YS) (x_g : Int32) (o_g : Int32) (c_g : Int32)  : Met l yX0_addIfNew wsX0_addIfNew ({ frames := 1, cells := 0, slots := 0, locals := 25 }) (rw_Pc G [(cI, .int), (cZ, .boolean), (cJ, .long)] (wS cI cZ cJ a S Y) sz [.ref (a 1), .int x_g, .int o_g, .int c_g]) (rw_Qv (S := SS) (s_addN S x_g o_g c_g) (fun u : SS => wS cI cZ cJ a u Y) G (wS cI cZ cJ a S Y) sz) 0 0 (va_A (wS cI cZ cJ a S Y) sz) := by
  refine Met.ofW (cc := cX0_addIfNew) (maxL := 6) (ret := none) (by decide) rfl ?_
  intro p e s m args below meth c s₁ B hml hv
  obtain ⟨rfl, hsz, hP, hK, hD0, hN⟩ := hv
  have hx := B.exec
  have hb := B.bytes
  have hr := B.returns
  have hts := atoms_spec (ws := wsX0_addIfNew) B.pre
  have hown : s.vm.findClass RX0 = some m.cls := findClass_of_methodNamed B.named
  have hlocks := B.notSynchronized
  subst hsz
  have hD0 : va_D (fun _ => True) [((a 1), .inr (0, [.ref (a 6), .ref (a 2), .ref (a 3), .ref (a 4), .ref (a 5), .int (s_fc S), .int (s_fs S), .int (s_sm S), .int (s_sc S), .int (s_sf S)])), ((a 2), .inl (cI, 800, .inl (s_fo S))), ((a 3), .inl (cI, 800, .inl (s_or S))), ((a 4), .inl (cI, 800, .inl (s_mo S))), ((a 5), .inl (cI, 2048, .inl (s_sl S))), ((a 6), .inr (1, [.ref (a 7), .ref (a 8), .ref (a 9), .ref (a 10), .int (nI (y_n Y)), .long (y_rp Y)])), ((a 7), .inl (cI, 9, .inl (y_sz Y))), ((a 8), .inl (cZ, 9, .inl (y_ac Y))), ((a 9), .inl (cI, 9, .inl (y_li Y))), ((a 10), .inl (cJ, 9, .inr (.inl (y_sh Y))))] := hD0
  have hD := hD0.self (sz := s.heap.size)
  unfold rw_Qv
  generalize hAe : va_A (wS cI cZ cJ a S Y) s.heap.size = A at hD ⊢
  have hA : ∀ q : Nat, s.heap.size ≤ q → A q := fun q h => by rw [← hAe]; exact Or.inr h
  have hS : va_S A s.heap s.heap [] := va_S.rf
  have hP : va_P G vwCl [((a 1), .inr (0, [.ref (a 6), .ref (a 2), .ref (a 3), .ref (a 4), .ref (a 5), .int (s_fc S), .int (s_fs S), .int (s_sm S), .int (s_sc S), .int (s_sf S)])), ((a 2), .inl (cI, 800, .inl (s_fo S))), ((a 3), .inl (cI, 800, .inl (s_or S))), ((a 4), .inl (cI, 800, .inl (s_mo S))), ((a 5), .inl (cI, 2048, .inl (s_sl S))), ((a 6), .inr (1, [.ref (a 7), .ref (a 8), .ref (a 9), .ref (a 10), .int (nI (y_n Y)), .long (y_rp Y)])), ((a 7), .inl (cI, 9, .inl (y_sz Y))), ((a 8), .inl (cZ, 9, .inl (y_ac Y))), ((a 9), .inl (cI, 9, .inl (y_li Y))), ((a 10), .inl (cJ, 9, .inr (.inl (y_sh Y))))] s.heap := hP
  have hl := lv_entry ([.ref (a 1), .int x_g, .int o_g, .int c_g]) (n := 6) (Nat.le_of_ble_eq_true rfl)
  rw [lg_entry_eq]
  generalize (lg_sl ([.ref (a 1), .int x_g, .int o_g, .int c_g]) ++ List.replicate (6 - (lg_sl ([.ref (a 1), .int x_g, .int o_g, .int c_g])).length) Slot.unset).toArray = ls at hl ⊢
  have hl : lv_has ls 6 [(0, .ref (a 1)), (1, .int x_g), (2, .int o_g), (3, .int c_g)] := hl
  refine lv_aload_n hx hb dX0_addIfNew_0 rfl (lv_at hl 0 rfl) ?_
  refine va_get (D := G) (ci := 0) (v := .int (s_fc S)) (C := RX0) (T := TX0) (N := 10) hx hb hts in_X0_addIfNew_0 hown hK hP 0 rfl rfl 5 (by decide) (hts (.fieldLink RX0 28 "RampJam$Search" "foundCount" "I") (by decide +kernel)) (fun _ h9 => h9) rfl dX0_addIfNew_1 ?_
  refine lv_istore (lv' := [(4, .int (s_fc S)), (0, .ref (a 1)), (1, .int x_g), (2, .int o_g), (3, .int c_g)]) hx hb dX0_addIfNew_4 hl (by decide) rfl (fun ls hl => ?_)
  refine lv_aload_n hx hb dX0_addIfNew_6 rfl (lv_at hl 1 rfl) ?_
  refine lv_iload_n hx hb dX0_addIfNew_7 rfl (lv_at hl 2 rfl) ?_
  refine ro_i (va_runV (As := [.int x_g]) (rest := []) ⟨hx, hb, hml, hown, hts⟩ ((c_X0_slotFor l G cI cZ cJ a _ S Y x_g)) (cwV 1 hts gX0_addIfNew_X0_slotFor rfl rfl rfl (by decide +kernel) ⟨Nat.le_of_ble_eq_true rfl, Nat.le_of_ble_eq_true rfl⟩) ⟨ro_blind, va_recv hK hP (ci := 0) (q0 := 0) rfl rfl, ro_pre hP hK hN⟩ rfl rfl hl.1 rfl (lv_room (Nat.le_of_ble_eq_true rfl)) dX0_addIfNew_8 ⟨Nat.zero_le _, Nat.zero_le _⟩) hS hA hP (fun H locs hP hS => ?_)
  refine lv_istore (lv' := [(5, .int (s_slot S x_g)), (4, .int (s_fc S)), (0, .ref (a 1)), (1, .int x_g), (2, .int o_g), (3, .int c_g)]) hx hb dX0_addIfNew_11 hl (by decide) rfl (fun ls hl => ?_)
  refine lv_iload hx hb dX0_addIfNew_13 (lv_at hl 1 rfl) ?_
  refine lv_if_lt (tgt := 49) hx hb dX0_addIfNew_15 (by decide) (fun c_1 => ?_) (fun c_1 => ?_)
  · have hP9 := hP
    have hD9 := hD
    exact W.vret hx hb hr (fun t ht hW => ⟨⟨S, rfl, by rw [s_addN, if_pos (by first | exact Or.inl (by assumption) | exact Or.inr (Or.inl (by assumption)) | exact Or.inr (Or.inr (Or.inl (by assumption))) | exact Or.inr (Or.inr (Or.inr (Or.inl (by assumption)))) | exact Or.inr (Or.inr (Or.inr (Or.inr (by assumption)))))], by rw [ht]; exact hP9, hD9⟩, hS.F ht⟩) hS.2.2 dX0_addIfNew_49
  · refine lv_iload hx hb dX0_addIfNew_18 (lv_at hl 1 rfl) ?_
    refine lv_sipush (v := 800) hx hb dX0_addIfNew_20 (by decide) ?_
    refine lv_icmp_ge (tgt := 49) hx hb dX0_addIfNew_23 (by decide) (fun c_2 => ?_) (fun c_2 => ?_)
    · have hP9 := hP
      have hD9 := hD
      exact W.vret hx hb hr (fun t ht hW => ⟨⟨S, rfl, by rw [s_addN, if_pos (by first | exact Or.inl (by assumption) | exact Or.inr (Or.inl (by assumption)) | exact Or.inr (Or.inr (Or.inl (by assumption))) | exact Or.inr (Or.inr (Or.inr (Or.inl (by assumption)))) | exact Or.inr (Or.inr (Or.inr (Or.inr (by assumption)))))], by rw [ht]; exact hP9, hD9⟩, hS.F ht⟩) hS.2.2 dX0_addIfNew_49
    · refine lv_iload hx hb dX0_addIfNew_26 (lv_at hl 0 rfl) ?_
      refine lv_if_lt (tgt := 49) hx hb dX0_addIfNew_28 (by decide) (fun c_3 => ?_) (fun c_3 => ?_)
      · have hP9 := hP
        have hD9 := hD
        exact W.vret hx hb hr (fun t ht hW => ⟨⟨S, rfl, by rw [s_addN, if_pos (by first | exact Or.inl (by assumption) | exact Or.inr (Or.inl (by assumption)) | exact Or.inr (Or.inr (Or.inl (by assumption))) | exact Or.inr (Or.inr (Or.inr (Or.inl (by assumption)))) | exact Or.inr (Or.inr (Or.inr (Or.inr (by assumption)))))], by rw [ht]; exact hP9, hD9⟩, hS.F ht⟩) hS.2.2 dX0_addIfNew_49
      · refine lv_iload hx hb dX0_addIfNew_31 (lv_at hl 0 rfl) ?_
        refine lv_sipush (v := 2048) hx hb dX0_addIfNew_33 (by decide) ?_
        refine lv_icmp_ge (tgt := 49) hx hb dX0_addIfNew_36 (by decide) (fun c_4 => ?_) (fun c_4 => ?_)
        · have hP9 := hP
          have hD9 := hD
          exact W.vret hx hb hr (fun t ht hW => ⟨⟨S, rfl, by rw [s_addN, if_pos (by first | exact Or.inl (by assumption) | exact Or.inr (Or.inl (by assumption)) | exact Or.inr (Or.inr (Or.inl (by assumption))) | exact Or.inr (Or.inr (Or.inr (Or.inl (by assumption)))) | exact Or.inr (Or.inr (Or.inr (Or.inr (by assumption)))))], by rw [ht]; exact hP9, hD9⟩, hS.F ht⟩) hS.2.2 dX0_addIfNew_49
        · refine lv_aload_n hx hb dX0_addIfNew_39 rfl (lv_at hl 2 rfl) ?_
          refine va_get (D := G) (ci := 0) (v := .ref (a 5)) (C := RX0) (T := TX0) (N := 10) hx hb hts in_X0_addIfNew_0 hown hK hP 0 rfl rfl 4 (by decide) (hts (.fieldLink RX0 21 "RampJam$Search" "slots" "[I") (by decide +kernel)) (fun _ h9 => h9) rfl dX0_addIfNew_40 ?_
          refine lv_iload hx hb dX0_addIfNew_43 (lv_at hl 0 rfl) ?_
          refine va_iald hx hb hK hP 4 0 rfl rfl (cl_in2048 (by assumption) (by assumption)) dX0_addIfNew_45 ?_
          refine lv_if_eq (tgt := 50) hx hb dX0_addIfNew_46 (by decide) (fun c_5 => ?_) (fun c_5 => ?_)
          · refine lv_aload_n hx hb dX0_addIfNew_50 rfl (lv_at hl 2 rfl) ?_
            refine va_get (D := G) (ci := 0) (v := .ref (a 5)) (C := RX0) (T := TX0) (N := 10) hx hb hts in_X0_addIfNew_0 hown hK hP 0 rfl rfl 4 (by decide) (hts (.fieldLink RX0 21 "RampJam$Search" "slots" "[I") (by decide +kernel)) (fun _ h9 => h9) rfl dX0_addIfNew_51 ?_
            refine lv_iload hx hb dX0_addIfNew_54 (lv_at hl 0 rfl) ?_
            refine lv_iload hx hb dX0_addIfNew_56 (lv_at hl 1 rfl) ?_
            refine lv_iconst (v := 1) hx hb dX0_addIfNew_58 (by decide) ?_
            refine lv_iadd hx hb dX0_addIfNew_59 ?_
            refine va_iast hx hb hK hP hD hS 4 0 rfl rfl (cl_in2048 (by assumption) (by assumption)) dX0_addIfNew_60 (fun H locs hP hD hS => ?_)
            have hP : va_P G vwCl [((a 1), .inr (0, [.ref (a 6), .ref (a 2), .ref (a 3), .ref (a 4), .ref (a 5), .int (s_fc S), .int (s_fs S), .int (s_sm S), .int (s_sc S), .int (s_sf S)])), ((a 2), .inl (cI, 800, .inl (s_fo S))), ((a 3), .inl (cI, 800, .inl (s_or S))), ((a 4), .inl (cI, 800, .inl (s_mo S))), ((a 5), .inl (cI, 2048, .inl (upd (s_sl S) ((s_slot S x_g).toNatClampNeg) ((s_fc S) + 1)))), ((a 6), .inr (1, [.ref (a 7), .ref (a 8), .ref (a 9), .ref (a 10), .int (nI (y_n Y)), .long (y_rp Y)])), ((a 7), .inl (cI, 9, .inl (y_sz Y))), ((a 8), .inl (cZ, 9, .inl (y_ac Y))), ((a 9), .inl (cI, 9, .inl (y_li Y))), ((a 10), .inl (cJ, 9, .inr (.inl (y_sh Y))))] H := hP
            have hD : va_D A [((a 1), .inr (0, [.ref (a 6), .ref (a 2), .ref (a 3), .ref (a 4), .ref (a 5), .int (s_fc S), .int (s_fs S), .int (s_sm S), .int (s_sc S), .int (s_sf S)])), ((a 2), .inl (cI, 800, .inl (s_fo S))), ((a 3), .inl (cI, 800, .inl (s_or S))), ((a 4), .inl (cI, 800, .inl (s_mo S))), ((a 5), .inl (cI, 2048, .inl (upd (s_sl S) ((s_slot S x_g).toNatClampNeg) ((s_fc S) + 1)))), ((a 6), .inr (1, [.ref (a 7), .ref (a 8), .ref (a 9), .ref (a 10), .int (nI (y_n Y)), .long (y_rp Y)])), ((a 7), .inl (cI, 9, .inl (y_sz Y))), ((a 8), .inl (cZ, 9, .inl (y_ac Y))), ((a 9), .inl (cI, 9, .inl (y_li Y))), ((a 10), .inl (cJ, 9, .inr (.inl (y_sh Y))))] := hD
            refine lv_aload_n hx hb dX0_addIfNew_61 rfl (lv_at hl 2 rfl) ?_
            refine va_get (D := G) (ci := 0) (v := .ref (a 2)) (C := RX0) (T := TX0) (N := 10) hx hb hts in_X0_addIfNew_0 hown hK hP 0 rfl rfl 1 (by decide) (hts (.fieldLink RX0 9 "RampJam$Search" "found" "[I") (by decide +kernel)) (fun _ h9 => h9) rfl dX0_addIfNew_62 ?_
            refine lv_iload hx hb dX0_addIfNew_65 (lv_at hl 1 rfl) ?_
            refine lv_iload_n hx hb dX0_addIfNew_67 rfl (lv_at hl 3 rfl) ?_
            refine va_iast hx hb hK hP hD hS 1 0 rfl rfl (cl_in800 (by assumption) (by assumption)) dX0_addIfNew_68 (fun H locs hP hD hS => ?_)
            have hP : va_P G vwCl [((a 1), .inr (0, [.ref (a 6), .ref (a 2), .ref (a 3), .ref (a 4), .ref (a 5), .int (s_fc S), .int (s_fs S), .int (s_sm S), .int (s_sc S), .int (s_sf S)])), ((a 2), .inl (cI, 800, .inl (upd (s_fo S) ((s_fc S).toNatClampNeg) x_g))), ((a 3), .inl (cI, 800, .inl (s_or S))), ((a 4), .inl (cI, 800, .inl (s_mo S))), ((a 5), .inl (cI, 2048, .inl (upd (s_sl S) ((s_slot S x_g).toNatClampNeg) ((s_fc S) + 1)))), ((a 6), .inr (1, [.ref (a 7), .ref (a 8), .ref (a 9), .ref (a 10), .int (nI (y_n Y)), .long (y_rp Y)])), ((a 7), .inl (cI, 9, .inl (y_sz Y))), ((a 8), .inl (cZ, 9, .inl (y_ac Y))), ((a 9), .inl (cI, 9, .inl (y_li Y))), ((a 10), .inl (cJ, 9, .inr (.inl (y_sh Y))))] H := hP
            have hD : va_D A [((a 1), .inr (0, [.ref (a 6), .ref (a 2), .ref (a 3), .ref (a 4), .ref (a 5), .int (s_fc S), .int (s_fs S), .int (s_sm S), .int (s_sc S), .int (s_sf S)])), ((a 2), .inl (cI, 800, .inl (upd (s_fo S) ((s_fc S).toNatClampNeg) x_g))), ((a 3), .inl (cI, 800, .inl (s_or S))), ((a 4), .inl (cI, 800, .inl (s_mo S))), ((a 5), .inl (cI, 2048, .inl (upd (s_sl S) ((s_slot S x_g).toNatClampNeg) ((s_fc S) + 1)))), ((a 6), .inr (1, [.ref (a 7), .ref (a 8), .ref (a 9), .ref (a 10), .int (nI (y_n Y)), .long (y_rp Y)])), ((a 7), .inl (cI, 9, .inl (y_sz Y))), ((a 8), .inl (cZ, 9, .inl (y_ac Y))), ((a 9), .inl (cI, 9, .inl (y_li Y))), ((a 10), .inl (cJ, 9, .inr (.inl (y_sh Y))))] := hD
            refine lv_aload_n hx hb dX0_addIfNew_69 rfl (lv_at hl 2 rfl) ?_
            refine va_get (D := G) (ci := 0) (v := .ref (a 3)) (C := RX0) (T := TX0) (N := 10) hx hb hts in_X0_addIfNew_0 hown hK hP 0 rfl rfl 2 (by decide) (hts (.fieldLink RX0 15 "RampJam$Search" "origins" "[I") (by decide +kernel)) (fun _ h9 => h9) rfl dX0_addIfNew_70 ?_
            refine lv_iload hx hb dX0_addIfNew_73 (lv_at hl 1 rfl) ?_
            refine lv_iload_n hx hb dX0_addIfNew_75 rfl (lv_at hl 4 rfl) ?_
            refine va_iast hx hb hK hP hD hS 2 0 rfl rfl (cl_in800 (by assumption) (by assumption)) dX0_addIfNew_76 (fun H locs hP hD hS => ?_)
            have hP : va_P G vwCl [((a 1), .inr (0, [.ref (a 6), .ref (a 2), .ref (a 3), .ref (a 4), .ref (a 5), .int (s_fc S), .int (s_fs S), .int (s_sm S), .int (s_sc S), .int (s_sf S)])), ((a 2), .inl (cI, 800, .inl (upd (s_fo S) ((s_fc S).toNatClampNeg) x_g))), ((a 3), .inl (cI, 800, .inl (upd (s_or S) ((s_fc S).toNatClampNeg) o_g))), ((a 4), .inl (cI, 800, .inl (s_mo S))), ((a 5), .inl (cI, 2048, .inl (upd (s_sl S) ((s_slot S x_g).toNatClampNeg) ((s_fc S) + 1)))), ((a 6), .inr (1, [.ref (a 7), .ref (a 8), .ref (a 9), .ref (a 10), .int (nI (y_n Y)), .long (y_rp Y)])), ((a 7), .inl (cI, 9, .inl (y_sz Y))), ((a 8), .inl (cZ, 9, .inl (y_ac Y))), ((a 9), .inl (cI, 9, .inl (y_li Y))), ((a 10), .inl (cJ, 9, .inr (.inl (y_sh Y))))] H := hP
            have hD : va_D A [((a 1), .inr (0, [.ref (a 6), .ref (a 2), .ref (a 3), .ref (a 4), .ref (a 5), .int (s_fc S), .int (s_fs S), .int (s_sm S), .int (s_sc S), .int (s_sf S)])), ((a 2), .inl (cI, 800, .inl (upd (s_fo S) ((s_fc S).toNatClampNeg) x_g))), ((a 3), .inl (cI, 800, .inl (upd (s_or S) ((s_fc S).toNatClampNeg) o_g))), ((a 4), .inl (cI, 800, .inl (s_mo S))), ((a 5), .inl (cI, 2048, .inl (upd (s_sl S) ((s_slot S x_g).toNatClampNeg) ((s_fc S) + 1)))), ((a 6), .inr (1, [.ref (a 7), .ref (a 8), .ref (a 9), .ref (a 10), .int (nI (y_n Y)), .long (y_rp Y)])), ((a 7), .inl (cI, 9, .inl (y_sz Y))), ((a 8), .inl (cZ, 9, .inl (y_ac Y))), ((a 9), .inl (cI, 9, .inl (y_li Y))), ((a 10), .inl (cJ, 9, .inr (.inl (y_sh Y))))] := hD
            refine lv_aload_n hx hb dX0_addIfNew_77 rfl (lv_at hl 2 rfl) ?_
            refine va_get (D := G) (ci := 0) (v := .ref (a 4)) (C := RX0) (T := TX0) (N := 10) hx hb hts in_X0_addIfNew_0 hown hK hP 0 rfl rfl 3 (by decide) (hts (.fieldLink RX0 18 "RampJam$Search" "moveCodes" "[I") (by decide +kernel)) (fun _ h9 => h9) rfl dX0_addIfNew_78 ?_
            refine lv_iload hx hb dX0_addIfNew_81 (lv_at hl 1 rfl) ?_
            refine lv_iload_n hx hb dX0_addIfNew_83 rfl (lv_at hl 5 rfl) ?_
            refine va_iast hx hb hK hP hD hS 3 0 rfl rfl (cl_in800 (by assumption) (by assumption)) dX0_addIfNew_84 (fun H locs hP hD hS => ?_)
            have hP : va_P G vwCl [((a 1), .inr (0, [.ref (a 6), .ref (a 2), .ref (a 3), .ref (a 4), .ref (a 5), .int (s_fc S), .int (s_fs S), .int (s_sm S), .int (s_sc S), .int (s_sf S)])), ((a 2), .inl (cI, 800, .inl (upd (s_fo S) ((s_fc S).toNatClampNeg) x_g))), ((a 3), .inl (cI, 800, .inl (upd (s_or S) ((s_fc S).toNatClampNeg) o_g))), ((a 4), .inl (cI, 800, .inl (upd (s_mo S) ((s_fc S).toNatClampNeg) c_g))), ((a 5), .inl (cI, 2048, .inl (upd (s_sl S) ((s_slot S x_g).toNatClampNeg) ((s_fc S) + 1)))), ((a 6), .inr (1, [.ref (a 7), .ref (a 8), .ref (a 9), .ref (a 10), .int (nI (y_n Y)), .long (y_rp Y)])), ((a 7), .inl (cI, 9, .inl (y_sz Y))), ((a 8), .inl (cZ, 9, .inl (y_ac Y))), ((a 9), .inl (cI, 9, .inl (y_li Y))), ((a 10), .inl (cJ, 9, .inr (.inl (y_sh Y))))] H := hP
            have hD : va_D A [((a 1), .inr (0, [.ref (a 6), .ref (a 2), .ref (a 3), .ref (a 4), .ref (a 5), .int (s_fc S), .int (s_fs S), .int (s_sm S), .int (s_sc S), .int (s_sf S)])), ((a 2), .inl (cI, 800, .inl (upd (s_fo S) ((s_fc S).toNatClampNeg) x_g))), ((a 3), .inl (cI, 800, .inl (upd (s_or S) ((s_fc S).toNatClampNeg) o_g))), ((a 4), .inl (cI, 800, .inl (upd (s_mo S) ((s_fc S).toNatClampNeg) c_g))), ((a 5), .inl (cI, 2048, .inl (upd (s_sl S) ((s_slot S x_g).toNatClampNeg) ((s_fc S) + 1)))), ((a 6), .inr (1, [.ref (a 7), .ref (a 8), .ref (a 9), .ref (a 10), .int (nI (y_n Y)), .long (y_rp Y)])), ((a 7), .inl (cI, 9, .inl (y_sz Y))), ((a 8), .inl (cZ, 9, .inl (y_ac Y))), ((a 9), .inl (cI, 9, .inl (y_li Y))), ((a 10), .inl (cJ, 9, .inr (.inl (y_sh Y))))] := hD
            refine lv_aload_n hx hb dX0_addIfNew_85 rfl (lv_at hl 2 rfl) ?_
            refine lv_iload hx hb dX0_addIfNew_86 (lv_at hl 1 rfl) ?_
            refine lv_iconst (v := 1) hx hb dX0_addIfNew_88 (by decide) ?_
            refine lv_iadd hx hb dX0_addIfNew_89 ?_
            refine va_put (D := G) (ci := 0) (v := .int ((s_fc S) + 1)) (ty := .int) (C := RX0) (T := TX0) (N := 10) hx hb hts in_X0_addIfNew_0 tyX0 tyX0_ok nmX0 hown hK hP hD hS 0 rfl rfl 5 (by decide) (hts (.fieldLink RX0 28 "RampJam$Search" "foundCount" "I") (by decide +kernel)) (fun _ h9 => h9) rfl (by decide +kernel) rfl rfl (Nat.le_of_ble_eq_true rfl) dX0_addIfNew_90 (fun H locs hP hD hS => ?_)
            have hP : va_P G vwCl [((a 1), .inr (0, [.ref (a 6), .ref (a 2), .ref (a 3), .ref (a 4), .ref (a 5), .int ((s_fc S) + 1), .int (s_fs S), .int (s_sm S), .int (s_sc S), .int (s_sf S)])), ((a 2), .inl (cI, 800, .inl (upd (s_fo S) ((s_fc S).toNatClampNeg) x_g))), ((a 3), .inl (cI, 800, .inl (upd (s_or S) ((s_fc S).toNatClampNeg) o_g))), ((a 4), .inl (cI, 800, .inl (upd (s_mo S) ((s_fc S).toNatClampNeg) c_g))), ((a 5), .inl (cI, 2048, .inl (upd (s_sl S) ((s_slot S x_g).toNatClampNeg) ((s_fc S) + 1)))), ((a 6), .inr (1, [.ref (a 7), .ref (a 8), .ref (a 9), .ref (a 10), .int (nI (y_n Y)), .long (y_rp Y)])), ((a 7), .inl (cI, 9, .inl (y_sz Y))), ((a 8), .inl (cZ, 9, .inl (y_ac Y))), ((a 9), .inl (cI, 9, .inl (y_li Y))), ((a 10), .inl (cJ, 9, .inr (.inl (y_sh Y))))] H := hP
            have hD : va_D A [((a 1), .inr (0, [.ref (a 6), .ref (a 2), .ref (a 3), .ref (a 4), .ref (a 5), .int ((s_fc S) + 1), .int (s_fs S), .int (s_sm S), .int (s_sc S), .int (s_sf S)])), ((a 2), .inl (cI, 800, .inl (upd (s_fo S) ((s_fc S).toNatClampNeg) x_g))), ((a 3), .inl (cI, 800, .inl (upd (s_or S) ((s_fc S).toNatClampNeg) o_g))), ((a 4), .inl (cI, 800, .inl (upd (s_mo S) ((s_fc S).toNatClampNeg) c_g))), ((a 5), .inl (cI, 2048, .inl (upd (s_sl S) ((s_slot S x_g).toNatClampNeg) ((s_fc S) + 1)))), ((a 6), .inr (1, [.ref (a 7), .ref (a 8), .ref (a 9), .ref (a 10), .int (nI (y_n Y)), .long (y_rp Y)])), ((a 7), .inl (cI, 9, .inl (y_sz Y))), ((a 8), .inl (cZ, 9, .inl (y_ac Y))), ((a 9), .inl (cI, 9, .inl (y_li Y))), ((a 10), .inl (cJ, 9, .inr (.inl (y_sh Y))))] := hD
            refine lv_aload_n hx hb dX0_addIfNew_93 rfl (lv_at hl 2 rfl) ?_
            refine va_get (D := G) (ci := 0) (v := .int (s_fs S)) (C := RX0) (T := TX0) (N := 10) hx hb hts in_X0_addIfNew_0 hown hK hP 0 rfl rfl 6 (by decide) (hts (.fieldLink RX0 38 "RampJam$Search" "firstSolved" "I") (by decide +kernel)) (fun _ h9 => h9) rfl dX0_addIfNew_94 ?_
            refine lv_iconst (v := (-1)) hx hb dX0_addIfNew_97 (by decide) ?_
            refine lv_icmp_ne (tgt := 116) hx hb dX0_addIfNew_98 (by decide) (fun c_6 => ?_) (fun c_6 => ?_)
            · have hP9 := hP
              have hD9 := hD
              exact W.vret hx hb hr (fun t ht hW => ⟨⟨((upd (s_fo S) ((s_fc S).toNatClampNeg) x_g), (upd (s_or S) ((s_fc S).toNatClampNeg) o_g), (upd (s_mo S) ((s_fc S).toNatClampNeg) c_g), (upd (s_sl S) ((s_slot S x_g).toNatClampNeg) ((s_fc S) + 1)), ((s_fc S) + 1), (s_fs S), (s_sm S), (s_sc S), (s_sf S)), rfl, by rw [s_addN, if_neg (by rintro (h | h | h | h | h) <;> contradiction)]; first | rw [if_pos ⟨by assumption, by assumption⟩] | rw [if_neg (by rintro ⟨h1, h2⟩; contradiction)], by rw [ht]; exact hP9, hD9⟩, hS.F ht⟩) hS.2.2 dX0_addIfNew_116
            · refine lv_iload_n hx hb dX0_addIfNew_101 rfl (lv_at hl 3 rfl) ?_
              refine lv_iconst (v := 0) hx hb dX0_addIfNew_102 (by decide) ?_
              refine ro_i (va_runSN (As := [.int x_g, .int 0]) (rest := []) ⟨hx, hb, hml, hown, hts⟩ ((c_X2_placeIn l G cI cZ cJ a _ x_g 0)) ⟨va_cnB 2 hts gX0_addIfNew_X2_placeIn_n65 rfl rfl rfl (nx_get hN (k := 2) rfl) (hts (.initialized RX2) (by decide +kernel)) (by decide +kernel) ⟨Nat.le_of_ble_eq_true rfl, Nat.le_of_ble_eq_true rfl⟩, hts (.static yX2_placeIn) (by decide +kernel), trivial⟩ ⟨ro_blind, ro_pre va_P0 hK hN⟩ rfl rfl hl.1 rfl (lv_room (Nat.le_of_ble_eq_true rfl)) dX0_addIfNew_103 ⟨Nat.zero_le _, Nat.zero_le _⟩) hS hA hP (fun H locs hP hS => ?_)
              refine lv_iconst (v := 4) hx hb dX0_addIfNew_106 (by decide) ?_
              refine lv_icmp_ne (tgt := 116) hx hb dX0_addIfNew_107 (by decide) (fun c_7 => ?_) (fun c_7 => ?_)
              · have hP9 := hP
                have hD9 := hD
                exact W.vret hx hb hr (fun t ht hW => ⟨⟨((upd (s_fo S) ((s_fc S).toNatClampNeg) x_g), (upd (s_or S) ((s_fc S).toNatClampNeg) o_g), (upd (s_mo S) ((s_fc S).toNatClampNeg) c_g), (upd (s_sl S) ((s_slot S x_g).toNatClampNeg) ((s_fc S) + 1)), ((s_fc S) + 1), (s_fs S), (s_sm S), (s_sc S), (s_sf S)), rfl, by rw [s_addN, if_neg (by rintro (h | h | h | h | h) <;> contradiction)]; first | rw [if_pos ⟨by assumption, by assumption⟩] | rw [if_neg (by rintro ⟨h1, h2⟩; contradiction)], by rw [ht]; exact hP9, hD9⟩, hS.F ht⟩) hS.2.2 dX0_addIfNew_116
              · refine lv_aload_n hx hb dX0_addIfNew_110 rfl (lv_at hl 2 rfl) ?_
                refine lv_iload hx hb dX0_addIfNew_111 (lv_at hl 1 rfl) ?_
                refine va_put (D := G) (ci := 0) (v := .int (s_fc S)) (ty := .int) (C := RX0) (T := TX0) (N := 10) hx hb hts in_X0_addIfNew_0 tyX0 tyX0_ok nmX0 hown hK hP hD hS 0 rfl rfl 6 (by decide) (hts (.fieldLink RX0 38 "RampJam$Search" "firstSolved" "I") (by decide +kernel)) (fun _ h9 => h9) rfl (by decide +kernel) rfl rfl (Nat.le_of_ble_eq_true rfl) dX0_addIfNew_113 (fun H locs hP hD hS => ?_)
                have hP : va_P G vwCl [((a 1), .inr (0, [.ref (a 6), .ref (a 2), .ref (a 3), .ref (a 4), .ref (a 5), .int ((s_fc S) + 1), .int (s_fc S), .int (s_sm S), .int (s_sc S), .int (s_sf S)])), ((a 2), .inl (cI, 800, .inl (upd (s_fo S) ((s_fc S).toNatClampNeg) x_g))), ((a 3), .inl (cI, 800, .inl (upd (s_or S) ((s_fc S).toNatClampNeg) o_g))), ((a 4), .inl (cI, 800, .inl (upd (s_mo S) ((s_fc S).toNatClampNeg) c_g))), ((a 5), .inl (cI, 2048, .inl (upd (s_sl S) ((s_slot S x_g).toNatClampNeg) ((s_fc S) + 1)))), ((a 6), .inr (1, [.ref (a 7), .ref (a 8), .ref (a 9), .ref (a 10), .int (nI (y_n Y)), .long (y_rp Y)])), ((a 7), .inl (cI, 9, .inl (y_sz Y))), ((a 8), .inl (cZ, 9, .inl (y_ac Y))), ((a 9), .inl (cI, 9, .inl (y_li Y))), ((a 10), .inl (cJ, 9, .inr (.inl (y_sh Y))))] H := hP
                have hD : va_D A [((a 1), .inr (0, [.ref (a 6), .ref (a 2), .ref (a 3), .ref (a 4), .ref (a 5), .int ((s_fc S) + 1), .int (s_fc S), .int (s_sm S), .int (s_sc S), .int (s_sf S)])), ((a 2), .inl (cI, 800, .inl (upd (s_fo S) ((s_fc S).toNatClampNeg) x_g))), ((a 3), .inl (cI, 800, .inl (upd (s_or S) ((s_fc S).toNatClampNeg) o_g))), ((a 4), .inl (cI, 800, .inl (upd (s_mo S) ((s_fc S).toNatClampNeg) c_g))), ((a 5), .inl (cI, 2048, .inl (upd (s_sl S) ((s_slot S x_g).toNatClampNeg) ((s_fc S) + 1)))), ((a 6), .inr (1, [.ref (a 7), .ref (a 8), .ref (a 9), .ref (a 10), .int (nI (y_n Y)), .long (y_rp Y)])), ((a 7), .inl (cI, 9, .inl (y_sz Y))), ((a 8), .inl (cZ, 9, .inl (y_ac Y))), ((a 9), .inl (cI, 9, .inl (y_li Y))), ((a 10), .inl (cJ, 9, .inr (.inl (y_sh Y))))] := hD
                have hP9 := hP
                have hD9 := hD
                exact W.vret hx hb hr (fun t ht hW => ⟨⟨((upd (s_fo S) ((s_fc S).toNatClampNeg) x_g), (upd (s_or S) ((s_fc S).toNatClampNeg) o_g), (upd (s_mo S) ((s_fc S).toNatClampNeg) c_g), (upd (s_sl S) ((s_slot S x_g).toNatClampNeg) ((s_fc S) + 1)), ((s_fc S) + 1), (s_fc S), (s_sm S), (s_sc S), (s_sf S)), rfl, by rw [s_addN, if_neg (by rintro (h | h | h | h | h) <;> contradiction)]; first | rw [if_pos ⟨by assumption, by assumption⟩] | rw [if_neg (by rintro ⟨h1, h2⟩; contradiction)], by rw [ht]; exact hP9, hD9⟩, hS.F ht⟩) hS.2.2 dX0_addIfNew_116
          · have hP9 := hP
            have hD9 := hD
            exact W.vret hx hb hr (fun t ht hW => ⟨⟨S, rfl, by rw [s_addN, if_pos (by first | exact Or.inl (by assumption) | exact Or.inr (Or.inl (by assumption)) | exact Or.inr (Or.inr (Or.inl (by assumption))) | exact Or.inr (Or.inr (Or.inr (Or.inl (by assumption)))) | exact Or.inr (Or.inr (Or.inr (Or.inr (by assumption)))))], by rw [ht]; exact hP9, hD9⟩, hS.F ht⟩) hS.2.2 dX0_addIfNew_49

theorem in_X0_addDriven_0 : ∀ w ∈ wsX00, w ∈ wsX0_addDriven := by decide +kernel
set_option maxHeartbeats 4000000 in
set_option maxRecDepth 100000 in
/-- Search.addDriven -/
theorem c_X0_addDriven (l : Launch) (G : va_G) (cI cZ cJ : ClassId) (a : Nat → Nat) (sz : Nat) (S : SS) (Y : YS) (o_g : Int32) (v_g : Int32) (r_g : Int32) (w_g : Int32)  : Met l yX0_addDriven wsX0_addDriven ({ frames := 2, cells := 0, slots := 0, locals := 50 }) (rw_Pc G [(cI, .int), (cZ, .boolean), (cJ, .long)] (wS cI cZ cJ a S Y) sz [.ref (a 1), .int o_g, .int v_g, .int r_g, .int w_g]) (rw_Qv (S := SS) (s_drv S o_g v_g r_g w_g) (fun u : SS => wS cI cZ cJ a u Y) G (wS cI cZ cJ a S Y) sz) 0 0 (va_A (wS cI cZ cJ a S Y) sz) := by
  refine Met.ofW (cc := cX0_addDriven) (maxL := 7) (ret := none) (by decide) rfl ?_
  intro p e s m args below meth c s₁ B hml hv
  obtain ⟨rfl, hsz, hP, hK, hD0, hN⟩ := hv
  have hx := B.exec
  have hb := B.bytes
  have hr := B.returns
  have hts := atoms_spec (ws := wsX0_addDriven) B.pre
  have hown : s.vm.findClass RX0 = some m.cls := findClass_of_methodNamed B.named
  have hlocks := B.notSynchronized
  subst hsz
  have hD0 : va_D (fun _ => True) [((a 1), .inr (0, [.ref (a 6), .ref (a 2), .ref (a 3), .ref (a 4), .ref (a 5), .int (s_fc S), .int (s_fs S), .int (s_sm S), .int (s_sc S), .int (s_sf S)])), ((a 2), .inl (cI, 800, .inl (s_fo S))), ((a 3), .inl (cI, 800, .inl (s_or S))), ((a 4), .inl (cI, 800, .inl (s_mo S))), ((a 5), .inl (cI, 2048, .inl (s_sl S))), ((a 6), .inr (1, [.ref (a 7), .ref (a 8), .ref (a 9), .ref (a 10), .int (nI (y_n Y)), .long (y_rp Y)])), ((a 7), .inl (cI, 9, .inl (y_sz Y))), ((a 8), .inl (cZ, 9, .inl (y_ac Y))), ((a 9), .inl (cI, 9, .inl (y_li Y))), ((a 10), .inl (cJ, 9, .inr (.inl (y_sh Y))))] := hD0
  have hD := hD0.self (sz := s.heap.size)
  unfold rw_Qv
  generalize hAe : va_A (wS cI cZ cJ a S Y) s.heap.size = A at hD ⊢
  have hA : ∀ q : Nat, s.heap.size ≤ q → A q := fun q h => by rw [← hAe]; exact Or.inr h
  have hS : va_S A s.heap s.heap [] := va_S.rf
  have hP : va_P G vwCl [((a 1), .inr (0, [.ref (a 6), .ref (a 2), .ref (a 3), .ref (a 4), .ref (a 5), .int (s_fc S), .int (s_fs S), .int (s_sm S), .int (s_sc S), .int (s_sf S)])), ((a 2), .inl (cI, 800, .inl (s_fo S))), ((a 3), .inl (cI, 800, .inl (s_or S))), ((a 4), .inl (cI, 800, .inl (s_mo S))), ((a 5), .inl (cI, 2048, .inl (s_sl S))), ((a 6), .inr (1, [.ref (a 7), .ref (a 8), .ref (a 9), .ref (a 10), .int (nI (y_n Y)), .long (y_rp Y)])), ((a 7), .inl (cI, 9, .inl (y_sz Y))), ((a 8), .inl (cZ, 9, .inl (y_ac Y))), ((a 9), .inl (cI, 9, .inl (y_li Y))), ((a 10), .inl (cJ, 9, .inr (.inl (y_sh Y))))] s.heap := hP
  have hl := lv_entry ([.ref (a 1), .int o_g, .int v_g, .int r_g, .int w_g]) (n := 7) (Nat.le_of_ble_eq_true rfl)
  rw [lg_entry_eq]
  generalize (lg_sl ([.ref (a 1), .int o_g, .int v_g, .int r_g, .int w_g]) ++ List.replicate (7 - (lg_sl ([.ref (a 1), .int o_g, .int v_g, .int r_g, .int w_g])).length) Slot.unset).toArray = ls at hl ⊢
  have hl : lv_has ls 7 [(0, .ref (a 1)), (1, .int o_g), (2, .int v_g), (3, .int r_g), (4, .int w_g)] := hl
  refine lv_aload_n hx hb dX0_addDriven_0 rfl (lv_at hl 0 rfl) ?_
  refine lv_iload_n hx hb dX0_addDriven_1 rfl (lv_at hl 1 rfl) ?_
  refine ro_i (va_runV (As := [.int o_g]) (rest := []) ⟨hx, hb, hml, hown, hts⟩ ((c_X0_isFound l G cI cZ cJ a _ S Y o_g)) (cwV 1 hts gX0_addDriven_X0_isFound rfl rfl rfl (by decide +kernel) ⟨Nat.le_of_ble_eq_true rfl, Nat.le_of_ble_eq_true rfl⟩) ⟨ro_blind, va_recv hK hP (ci := 0) (q0 := 0) rfl rfl, ro_pre hP hK hN⟩ rfl rfl hl.1 rfl (lv_room (Nat.le_of_ble_eq_true rfl)) dX0_addDriven_2 ⟨Nat.zero_le _, Nat.zero_le _⟩) hS hA hP (fun H locs hP hS => ?_)
  refine lv_if_ne (tgt := 9) hx hb dX0_addDriven_5 (by decide) (fun c_1 => ?_) (fun c_1 => ?_)
  · have c_1 := b1_t c_1
    refine lv_iconst (v := 1) hx hb dX0_addDriven_9 (by decide) ?_
    refine lv_istore (lv' := [(5, .int 1), (0, .ref (a 1)), (1, .int o_g), (2, .int v_g), (3, .int r_g), (4, .int w_g)]) hx hb dX0_addDriven_10 hl (by decide) rfl (fun ls hl => ?_)
    have cut_12 : ∀ (d : Nat) (k_g : Nat) (S_g : SS), k_g ≤ 5 → 5 + 1 ≤ k_g + d → (s_drvL o_g v_g r_g w_g (5 - k_g) k_g S_g = s_drvL o_g v_g r_g w_g 4 1 S) → ∀ (H : Heap) (locs : List Loc), va_P G vwCl [((a 1), .inr (0, [.ref (a 6), .ref (a 2), .ref (a 3), .ref (a 4), .ref (a 5), .int (s_fc S_g), .int (s_fs S_g), .int (s_sm S_g), .int (s_sc S_g), .int (s_sf S_g)])), ((a 2), .inl (cI, 800, .inl (s_fo S_g))), ((a 3), .inl (cI, 800, .inl (s_or S_g))), ((a 4), .inl (cI, 800, .inl (s_mo S_g))), ((a 5), .inl (cI, 2048, .inl (s_sl S_g))), ((a 6), .inr (1, [.ref (a 7), .ref (a 8), .ref (a 9), .ref (a 10), .int (nI (y_n Y)), .long (y_rp Y)])), ((a 7), .inl (cI, 9, .inl (y_sz Y))), ((a 8), .inl (cZ, 9, .inl (y_ac Y))), ((a 9), .inl (cI, 9, .inl (y_li Y))), ((a 10), .inl (cJ, 9, .inr (.inl (y_sh Y))))] H → va_D A [((a 1), .inr (0, [.ref (a 6), .ref (a 2), .ref (a 3), .ref (a 4), .ref (a 5), .int (s_fc S_g), .int (s_fs S_g), .int (s_sm S_g), .int (s_sc S_g), .int (s_sf S_g)])), ((a 2), .inl (cI, 800, .inl (s_fo S_g))), ((a 3), .inl (cI, 800, .inl (s_or S_g))), ((a 4), .inl (cI, 800, .inl (s_mo S_g))), ((a 5), .inl (cI, 2048, .inl (s_sl S_g))), ((a 6), .inr (1, [.ref (a 7), .ref (a 8), .ref (a 9), .ref (a 10), .int (nI (y_n Y)), .long (y_rp Y)])), ((a 7), .inl (cI, 9, .inl (y_sz Y))), ((a 8), .inl (cZ, 9, .inl (y_ac Y))), ((a 9), .inl (cI, 9, .inl (y_li Y))), ((a 10), .inl (cJ, 9, .inr (.inl (y_sh Y))))] → va_S A s.heap H locs → ∀ (ls : Array Slot), lv_has ls 7 [(0, .ref (a 1)), (1, .int o_g), (2, .int v_g), (3, .int r_g), (4, .int w_g), (5, .int (nI k_g))] → W p l e (headSpec wsX0_addDriven ({ frames := 2, cells := 0, slots := 0, locals := 50 })).room s m ([.ref (a 1), .int o_g, .int v_g, .int r_g, .int w_g] : List Value).toArray below meth c H locs 0 0 (MQ below (va_Qv (fun u : SS => u = (s_drv S o_g v_g r_g w_g)) (fun (u : SS) (t : State) => va_P G vwCl ((fun u : SS => wS cI cZ cJ a u Y) u) t.heap ∧ va_D A ((fun u : SS => wS cI cZ cJ a u Y) u)) A) ([.ref (a 1), .int o_g, .int v_g, .int r_g, .int w_g] : List Value).toArray s 0 0 A) (F0 m 12 ls []) := by
      intro d
      induction d with
      | zero =>
        intro k_g S_g hk_12 hd_12
        exact absurd hd_12 (by omega)
      | succ d ih_12 =>
        intro k_g S_g hk_12 hd_12 hI H locs hP hD hS ls hl
        refine lv_iload hx hb dX0_addDriven_12 (lv_at hl 5 rfl) ?_
        refine lv_iload hx hb dX0_addDriven_14 (lv_at hl 4 rfl) ?_
        refine lv_icmp_gt (tgt := 60) hx hb dX0_addDriven_16 (by decide) (fun c_2 => ?_) (fun c_2 => ?_)
        · have hout : ¬ nI k_g ≤ w_g ∨ ¬ nI k_g ≤ 4 := Or.inl (nx_le c_2)
          have hP9 := hP
          have hD9 := hD
          exact W.vret hx hb hr (fun t ht hW => ⟨⟨S_g, rfl, by rw [s_drv, if_pos c_1, ← hI, s_drvL_out (fun h => by have h1 := h.1; have h2 := h.2; rcases hout with q | q <;> exact q (by assumption))], by rw [ht]; exact hP9, hD9⟩, hS.F ht⟩) hS.2.2 dX0_addDriven_60
        · have hw := nx_nl c_2
          refine lv_iload hx hb dX0_addDriven_19 (lv_at hl 5 rfl) ?_
          refine lv_iconst (v := 4) hx hb dX0_addDriven_21 (by decide) ?_
          refine lv_icmp_gt (tgt := 60) hx hb dX0_addDriven_22 (by decide) (fun c_3 => ?_) (fun c_3 => ?_)
          · have hout : ¬ nI k_g ≤ w_g ∨ ¬ nI k_g ≤ 4 := Or.inr (nx_le c_3)
            have hP9 := hP
            have hD9 := hD
            exact W.vret hx hb hr (fun t ht hW => ⟨⟨S_g, rfl, by rw [s_drv, if_pos c_1, ← hI, s_drvL_out (fun h => by have h1 := h.1; have h2 := h.2; rcases hout with q | q <;> exact q (by assumption))], by rw [ht]; exact hP9, hD9⟩, hS.F ht⟩) hS.2.2 dX0_addDriven_60
          · have h4 := nx_nl c_3
            have hlt : k_g ≤ 4 := (nI_leI (a := k_g) (b := 4) (by omega) (by omega)).mp h4
            refine lv_iload_n hx hb dX0_addDriven_25 rfl (lv_at hl 3 rfl) ?_
            refine lv_iload hx hb dX0_addDriven_26 (lv_at hl 5 rfl) ?_
            refine lv_imul hx hb dX0_addDriven_28 ?_
            refine lv_istore (lv' := [(6, .int (r_g * (nI k_g))), (0, .ref (a 1)), (1, .int o_g), (2, .int v_g), (3, .int r_g), (4, .int w_g), (5, .int (nI k_g))]) hx hb dX0_addDriven_29 hl (by decide) rfl (fun ls hl => ?_)
            refine lv_aload_n hx hb dX0_addDriven_31 rfl (lv_at hl 1 rfl) ?_
            refine lv_aload_n hx hb dX0_addDriven_32 rfl (lv_at hl 1 rfl) ?_
            refine va_get (D := G) (ci := 0) (v := .ref (a 2)) (C := RX0) (T := TX0) (N := 10) hx hb hts in_X0_addDriven_0 hown hK hP 0 rfl rfl 1 (by decide) (hts (.fieldLink RX0 9 "RampJam$Search" "found" "[I") (by decide +kernel)) (fun _ h9 => h9) rfl dX0_addDriven_33 ?_
            refine lv_iload_n hx hb dX0_addDriven_36 rfl (lv_at hl 2 rfl) ?_
            refine va_iald hx hb hK hP 1 0 rfl rfl (s_isF_in c_1) dX0_addDriven_37 ?_
            refine lv_iload_n hx hb dX0_addDriven_38 rfl (lv_at hl 3 rfl) ?_
            refine lv_iload hx hb dX0_addDriven_39 (lv_at hl 0 rfl) ?_
            refine ro_i (va_runSN (As := [.int ((s_fo S_g) (o_g.toNatClampNeg)), .int v_g, .int (r_g * (nI k_g))]) (rest := [.ref (a 1)]) ⟨hx, hb, hml, hown, hts⟩ ((c_X2_moved l G cI cZ cJ a _ ((s_fo S_g) (o_g.toNatClampNeg)) v_g (r_g * (nI k_g)))) ⟨va_cnB 3 hts gX0_addDriven_X2_moved_n96 rfl rfl rfl (nx_get hN (k := 3) rfl) (hts (.initialized RX2) (by decide +kernel)) (by decide +kernel) ⟨Nat.le_of_ble_eq_true rfl, Nat.le_of_ble_eq_true rfl⟩, hts (.static yX2_moved) (by decide +kernel), trivial⟩ ⟨ro_blind, ro_pre va_P0 hK hN⟩ rfl rfl hl.1 rfl (lv_room (Nat.le_of_ble_eq_true rfl)) dX0_addDriven_41 ⟨Nat.zero_le _, Nat.zero_le _⟩) hS hA hP (fun H locs hP hS => ?_)
            refine lv_iload_n hx hb dX0_addDriven_44 rfl (lv_at hl 2 rfl) ?_
            refine lv_iload_n hx hb dX0_addDriven_45 rfl (lv_at hl 3 rfl) ?_
            refine lv_iload hx hb dX0_addDriven_46 (lv_at hl 0 rfl) ?_
            refine ro_i (va_runS (As := [.int v_g, .int (r_g * (nI k_g))]) (rest := [.int o_g, .int (mv ((s_fo S_g) (o_g.toNatClampNeg)) v_g (r_g * (nI k_g))), .ref (a 1)]) ⟨hx, hb, hml, hown, hts⟩ ((c_X0_codeOfMove l G cI cZ cJ a _ v_g (r_g * (nI k_g)))) (va_cwS 2 hts gX0_addDriven_X0_codeOfMove rfl rfl rfl (by decide +kernel) ⟨Nat.le_of_ble_eq_true rfl, Nat.le_of_ble_eq_true rfl⟩) ⟨ro_blind, ro_pre va_P0 hK hN⟩ rfl rfl hl.1 rfl (lv_room (Nat.le_of_ble_eq_true rfl)) dX0_addDriven_48 ⟨Nat.zero_le _, Nat.zero_le _⟩) hS hA hP (fun H locs hP hS => ?_)
            refine rw_v (wr := []) (ws' := [((a 1), .inr (0, [.ref (a 6), .ref (a 2), .ref (a 3), .ref (a 4), .ref (a 5), .int (s_fc (s_addN S_g (mv ((s_fo S_g) (o_g.toNatClampNeg)) v_g (r_g * (nI k_g))) o_g (m_code v_g (r_g * (nI k_g))))), .int (s_fs (s_addN S_g (mv ((s_fo S_g) (o_g.toNatClampNeg)) v_g (r_g * (nI k_g))) o_g (m_code v_g (r_g * (nI k_g))))), .int (s_sm (s_addN S_g (mv ((s_fo S_g) (o_g.toNatClampNeg)) v_g (r_g * (nI k_g))) o_g (m_code v_g (r_g * (nI k_g))))), .int (s_sc (s_addN S_g (mv ((s_fo S_g) (o_g.toNatClampNeg)) v_g (r_g * (nI k_g))) o_g (m_code v_g (r_g * (nI k_g))))), .int (s_sf (s_addN S_g (mv ((s_fo S_g) (o_g.toNatClampNeg)) v_g (r_g * (nI k_g))) o_g (m_code v_g (r_g * (nI k_g)))))])), ((a 2), .inl (cI, 800, .inl (s_fo (s_addN S_g (mv ((s_fo S_g) (o_g.toNatClampNeg)) v_g (r_g * (nI k_g))) o_g (m_code v_g (r_g * (nI k_g))))))), ((a 3), .inl (cI, 800, .inl (s_or (s_addN S_g (mv ((s_fo S_g) (o_g.toNatClampNeg)) v_g (r_g * (nI k_g))) o_g (m_code v_g (r_g * (nI k_g))))))), ((a 4), .inl (cI, 800, .inl (s_mo (s_addN S_g (mv ((s_fo S_g) (o_g.toNatClampNeg)) v_g (r_g * (nI k_g))) o_g (m_code v_g (r_g * (nI k_g))))))), ((a 5), .inl (cI, 2048, .inl (s_sl (s_addN S_g (mv ((s_fo S_g) (o_g.toNatClampNeg)) v_g (r_g * (nI k_g))) o_g (m_code v_g (r_g * (nI k_g))))))), ((a 6), .inr (1, [.ref (a 7), .ref (a 8), .ref (a 9), .ref (a 10), .int (nI (y_n Y)), .long (y_rp Y)])), ((a 7), .inl (cI, 9, .inl (y_sz Y))), ((a 8), .inl (cZ, 9, .inl (y_ac Y))), ((a 9), .inl (cI, 9, .inl (y_li Y))), ((a 10), .inl (cJ, 9, .inr (.inl (y_sh Y))))]) (va_runV (As := [.int (mv ((s_fo S_g) (o_g.toNatClampNeg)) v_g (r_g * (nI k_g))), .int o_g, .int (m_code v_g (r_g * (nI k_g)))]) (rest := []) ⟨hx, hb, hml, hown, hts⟩ ((c_X0_addIfNew l G cI cZ cJ a _ S_g Y (mv ((s_fo S_g) (o_g.toNatClampNeg)) v_g (r_g * (nI k_g))) o_g (m_code v_g (r_g * (nI k_g))))) (cwV 3 hts gX0_addDriven_X0_addIfNew rfl rfl rfl (by decide +kernel) ⟨Nat.le_of_ble_eq_true rfl, Nat.le_of_ble_eq_true rfl⟩) ⟨rw_blind, va_recv hK hP (ci := 0) (q0 := 0) rfl rfl, rw_pre hP hD hK hN⟩ rfl rfl hl.1 rfl (lv_room (Nat.le_of_ble_eq_true rfl)) dX0_addDriven_51 ⟨Nat.zero_le _, Nat.zero_le _⟩) hS hA hP hD [0, 1, 2, 3, 4, 5, 6, 7, 8, 9] [] [0, 1, 2, 3, 4, 5, 6, 7, 8, 9] rfl rfl (by decide) (by decide) rfl (by decide) (fun H locs hP hD hS => ?_)
            refine lv_iinc (v := (nI (k_g + 1))) (lv' := [(5, .int (nI (k_g + 1))), (6, .int (r_g * (nI k_g))), (0, .ref (a 1)), (1, .int o_g), (2, .int v_g), (3, .int r_g), (4, .int w_g)]) hx hb dX0_addDriven_54 hl (k := 6) rfl (nI_1 _) (by decide) rfl (fun ls hl => ?_)
            refine lv_goto (tgt := 12) hx hb dX0_addDriven_57 (by decide) ?_
            exact ih_12 (k_g + 1) (s_addN S_g (mv ((s_fo S_g) (o_g.toNatClampNeg)) v_g (r_g * (nI k_g))) o_g (m_code v_g (r_g * (nI k_g)))) (by omega) (by omega) (by rw [← hI, s_drvL_in (k := k_g) (by omega), if_pos ⟨hw, h4⟩]) _ _ hP hD hS _ (lv_sub hl [2, 3, 4, 5, 6, 0] rfl)
    exact cut_12 (5 + 1) 1 S (by omega) (by omega) (rfl) _ _ hP hD hS _ (lv_sub hl [1, 2, 3, 4, 5, 0] rfl)
  · have c_1 := b1_f c_1
    have hP9 := hP
    have hD9 := hD
    exact W.vret hx hb hr (fun t ht hW => ⟨⟨S, rfl, by rw [s_drv, if_neg c_1], by rw [ht]; exact hP9, hD9⟩, hS.F ht⟩) hS.2.2 dX0_addDriven_8

theorem in_X0_addReachedFrom_0 : ∀ w ∈ wsX00, w ∈ wsX0_addReachedFrom := by decide +kernel
set_option maxHeartbeats 4000000 in
set_option maxRecDepth 100000 in
/-- Search.addReachedFrom -/
theorem c_X0_addReachedFrom (l : Launch) (G : va_G) (cI cZ cJ : ClassId) (a : Nat → Nat) (sz : Nat) (S : SS) (Y : YS) (o_g : Int32) (hn : y_n Y ≤ 9) : Met l yX0_addReachedFrom wsX0_addReachedFrom ({ frames := 3, cells := 0, slots := 0, locals := 77 }) (rw_Pc G [(cI, .int), (cZ, .boolean), (cJ, .long)] (wS cI cZ cJ a S Y) sz [.ref (a 1), .int o_g]) (rw_Qv (S := SS) (s_reach Y S o_g) (fun u : SS => wS cI cZ cJ a u Y) G (wS cI cZ cJ a S Y) sz) 0 0 (va_A (wS cI cZ cJ a S Y) sz) := by
  refine Met.ofW (cc := cX0_addReachedFrom) (maxL := 6) (ret := none) (by decide) rfl ?_
  intro p e s m args below meth c s₁ B hml hv
  obtain ⟨rfl, hsz, hP, hK, hD0, hN⟩ := hv
  have hx := B.exec
  have hb := B.bytes
  have hr := B.returns
  have hts := atoms_spec (ws := wsX0_addReachedFrom) B.pre
  have hown : s.vm.findClass RX0 = some m.cls := findClass_of_methodNamed B.named
  have hlocks := B.notSynchronized
  subst hsz
  have hD0 : va_D (fun _ => True) [((a 1), .inr (0, [.ref (a 6), .ref (a 2), .ref (a 3), .ref (a 4), .ref (a 5), .int (s_fc S), .int (s_fs S), .int (s_sm S), .int (s_sc S), .int (s_sf S)])), ((a 2), .inl (cI, 800, .inl (s_fo S))), ((a 3), .inl (cI, 800, .inl (s_or S))), ((a 4), .inl (cI, 800, .inl (s_mo S))), ((a 5), .inl (cI, 2048, .inl (s_sl S))), ((a 6), .inr (1, [.ref (a 7), .ref (a 8), .ref (a 9), .ref (a 10), .int (nI (y_n Y)), .long (y_rp Y)])), ((a 7), .inl (cI, 9, .inl (y_sz Y))), ((a 8), .inl (cZ, 9, .inl (y_ac Y))), ((a 9), .inl (cI, 9, .inl (y_li Y))), ((a 10), .inl (cJ, 9, .inr (.inl (y_sh Y))))] := hD0
  have hD := hD0.self (sz := s.heap.size)
  unfold rw_Qv
  generalize hAe : va_A (wS cI cZ cJ a S Y) s.heap.size = A at hD ⊢
  have hA : ∀ q : Nat, s.heap.size ≤ q → A q := fun q h => by rw [← hAe]; exact Or.inr h
  have hS : va_S A s.heap s.heap [] := va_S.rf
  have hP : va_P G vwCl [((a 1), .inr (0, [.ref (a 6), .ref (a 2), .ref (a 3), .ref (a 4), .ref (a 5), .int (s_fc S), .int (s_fs S), .int (s_sm S), .int (s_sc S), .int (s_sf S)])), ((a 2), .inl (cI, 800, .inl (s_fo S))), ((a 3), .inl (cI, 800, .inl (s_or S))), ((a 4), .inl (cI, 800, .inl (s_mo S))), ((a 5), .inl (cI, 2048, .inl (s_sl S))), ((a 6), .inr (1, [.ref (a 7), .ref (a 8), .ref (a 9), .ref (a 10), .int (nI (y_n Y)), .long (y_rp Y)])), ((a 7), .inl (cI, 9, .inl (y_sz Y))), ((a 8), .inl (cZ, 9, .inl (y_ac Y))), ((a 9), .inl (cI, 9, .inl (y_li Y))), ((a 10), .inl (cJ, 9, .inr (.inl (y_sh Y))))] s.heap := hP
  have hl := lv_entry ([.ref (a 1), .int o_g]) (n := 6) (Nat.le_of_ble_eq_true rfl)
  rw [lg_entry_eq]
  generalize (lg_sl ([.ref (a 1), .int o_g]) ++ List.replicate (6 - (lg_sl ([.ref (a 1), .int o_g])).length) Slot.unset).toArray = ls at hl ⊢
  have hl : lv_has ls 6 [(0, .ref (a 1)), (1, .int o_g)] := hl
  refine lv_aload_n hx hb dX0_addReachedFrom_0 rfl (lv_at hl 0 rfl) ?_
  refine lv_iload_n hx hb dX0_addReachedFrom_1 rfl (lv_at hl 1 rfl) ?_
  refine ro_i (va_runV (As := [.int o_g]) (rest := []) ⟨hx, hb, hml, hown, hts⟩ ((c_X0_isFound l G cI cZ cJ a _ S Y o_g)) (cwV 1 hts gX0_addReachedFrom_X0_isFound rfl rfl rfl (by decide +kernel) ⟨Nat.le_of_ble_eq_true rfl, Nat.le_of_ble_eq_true rfl⟩) ⟨ro_blind, va_recv hK hP (ci := 0) (q0 := 0) rfl rfl, ro_pre hP hK hN⟩ rfl rfl hl.1 rfl (lv_room (Nat.le_of_ble_eq_true rfl)) dX0_addReachedFrom_2 ⟨Nat.zero_le _, Nat.zero_le _⟩) hS hA hP (fun H locs hP hS => ?_)
  refine lv_if_ne (tgt := 9) hx hb dX0_addReachedFrom_5 (by decide) (fun c_1 => ?_) (fun c_1 => ?_)
  · have c_1 := b1_t c_1
    refine lv_aload_n hx hb dX0_addReachedFrom_9 rfl (lv_at hl 0 rfl) ?_
    refine va_get (D := G) (ci := 0) (v := .ref (a 2)) (C := RX0) (T := TX0) (N := 10) hx hb hts in_X0_addReachedFrom_0 hown hK hP 0 rfl rfl 1 (by decide) (hts (.fieldLink RX0 9 "RampJam$Search" "found" "[I") (by decide +kernel)) (fun _ h9 => h9) rfl dX0_addReachedFrom_10 ?_
    refine lv_iload_n hx hb dX0_addReachedFrom_13 rfl (lv_at hl 1 rfl) ?_
    refine va_iald hx hb hK hP 1 0 rfl rfl (s_isF_in c_1) dX0_addReachedFrom_14 ?_
    refine lv_istore_n (lv' := [(2, .int ((s_fo S) (o_g.toNatClampNeg))), (0, .ref (a 1)), (1, .int o_g)]) hx hb dX0_addReachedFrom_15 rfl hl (by decide) rfl (fun ls hl => ?_)
    refine lv_aload_n hx hb dX0_addReachedFrom_16 rfl (lv_at hl 1 rfl) ?_
    refine va_get (D := G) (ci := 0) (v := .ref (a 6)) (C := RX0) (T := TX0) (N := 10) hx hb hts in_X0_addReachedFrom_0 hown hK hP 0 rfl rfl 0 (by decide) (hts (.fieldLink RX0 24 "RampJam$Search" "yard" "LRampJam$Yard;") (by decide +kernel)) (fun _ h9 => h9) rfl dX0_addReachedFrom_17 ?_
    refine lv_iload_n hx hb dX0_addReachedFrom_20 rfl (lv_at hl 0 rfl) ?_
    have hPc := hP.sub (ws' := [((a 6), .inr (1, [.ref (a 7), .ref (a 8), .ref (a 9), .ref (a 10), .int (nI (y_n Y)), .long (y_rp Y)])), ((a 7), .inl (cI, 9, .inl (y_sz Y))), ((a 8), .inl (cZ, 9, .inl (y_ac Y))), ((a 9), .inl (cI, 9, .inl (y_li Y))), ((a 10), .inl (cJ, 9, .inr (.inl (y_sh Y))))]) [5, 6, 7, 8, 9] rfl
    refine ro_l (va_runV (As := [.int ((s_fo S) (o_g.toNatClampNeg))]) (rest := []) ⟨hx, hb, hml, hown, hts⟩ ((c_X1_filledIn l G cI cZ cJ a _ Y ((s_fo S) (o_g.toNatClampNeg)) hn)) (cwV 1 hts gX0_addReachedFrom_X1_filledIn rfl rfl rfl (by decide +kernel) ⟨Nat.le_of_ble_eq_true rfl, Nat.le_of_ble_eq_true rfl⟩) ⟨ro_blind, va_recv hK hPc (ci := 1) (q0 := 0) rfl rfl, ro_pre hPc hK hN⟩ rfl rfl hl.1 rfl (lv_room (Nat.le_of_ble_eq_true rfl)) dX0_addReachedFrom_21 ⟨Nat.zero_le _, Nat.zero_le _⟩) hS hA hP (fun H locs hP hS => ?_)
    refine lv_lstore_n (lv' := [(3, .long (y_fil Y ((s_fo S) (o_g.toNatClampNeg)) (y_n Y))), (2, .int ((s_fo S) (o_g.toNatClampNeg))), (0, .ref (a 1)), (1, .int o_g)]) hx hb dX0_addReachedFrom_24 rfl hl (by decide) rfl (fun ls hl => ?_)
    refine lv_iconst (v := 0) hx hb dX0_addReachedFrom_25 (by decide) ?_
    refine lv_istore (lv' := [(5, .int 0), (3, .long (y_fil Y ((s_fo S) (o_g.toNatClampNeg)) (y_n Y))), (2, .int ((s_fo S) (o_g.toNatClampNeg))), (0, .ref (a 1)), (1, .int o_g)]) hx hb dX0_addReachedFrom_26 hl (by decide) rfl (fun ls hl => ?_)
    have cut_28 : ∀ (d : Nat) (k_g : Nat) (S_g : SS), k_g ≤ y_n Y → y_n Y + 1 ≤ k_g + d → (s_reachL Y o_g (s_fo S o_g.toNatClampNeg) (y_fil Y (s_fo S o_g.toNatClampNeg) (y_n Y)) (y_n Y - k_g) k_g S_g = s_reachL Y o_g (s_fo S o_g.toNatClampNeg) (y_fil Y (s_fo S o_g.toNatClampNeg) (y_n Y)) (y_n Y) 0 S) → ∀ (H : Heap) (locs : List Loc), va_P G vwCl [((a 1), .inr (0, [.ref (a 6), .ref (a 2), .ref (a 3), .ref (a 4), .ref (a 5), .int (s_fc S_g), .int (s_fs S_g), .int (s_sm S_g), .int (s_sc S_g), .int (s_sf S_g)])), ((a 2), .inl (cI, 800, .inl (s_fo S_g))), ((a 3), .inl (cI, 800, .inl (s_or S_g))), ((a 4), .inl (cI, 800, .inl (s_mo S_g))), ((a 5), .inl (cI, 2048, .inl (s_sl S_g))), ((a 6), .inr (1, [.ref (a 7), .ref (a 8), .ref (a 9), .ref (a 10), .int (nI (y_n Y)), .long (y_rp Y)])), ((a 7), .inl (cI, 9, .inl (y_sz Y))), ((a 8), .inl (cZ, 9, .inl (y_ac Y))), ((a 9), .inl (cI, 9, .inl (y_li Y))), ((a 10), .inl (cJ, 9, .inr (.inl (y_sh Y))))] H → va_D A [((a 1), .inr (0, [.ref (a 6), .ref (a 2), .ref (a 3), .ref (a 4), .ref (a 5), .int (s_fc S_g), .int (s_fs S_g), .int (s_sm S_g), .int (s_sc S_g), .int (s_sf S_g)])), ((a 2), .inl (cI, 800, .inl (s_fo S_g))), ((a 3), .inl (cI, 800, .inl (s_or S_g))), ((a 4), .inl (cI, 800, .inl (s_mo S_g))), ((a 5), .inl (cI, 2048, .inl (s_sl S_g))), ((a 6), .inr (1, [.ref (a 7), .ref (a 8), .ref (a 9), .ref (a 10), .int (nI (y_n Y)), .long (y_rp Y)])), ((a 7), .inl (cI, 9, .inl (y_sz Y))), ((a 8), .inl (cZ, 9, .inl (y_ac Y))), ((a 9), .inl (cI, 9, .inl (y_li Y))), ((a 10), .inl (cJ, 9, .inr (.inl (y_sh Y))))] → va_S A s.heap H locs → ∀ (ls : Array Slot), lv_has ls 6 [(0, .ref (a 1)), (1, .int o_g), (2, .int (s_fo S o_g.toNatClampNeg)), (3, .long (y_fil Y (s_fo S o_g.toNatClampNeg) (y_n Y))), (5, .int (nI k_g))] → W p l e (headSpec wsX0_addReachedFrom ({ frames := 3, cells := 0, slots := 0, locals := 77 })).room s m ([.ref (a 1), .int o_g] : List Value).toArray below meth c H locs 0 0 (MQ below (va_Qv (fun u : SS => u = (s_reach Y S o_g)) (fun (u : SS) (t : State) => va_P G vwCl ((fun u : SS => wS cI cZ cJ a u Y) u) t.heap ∧ va_D A ((fun u : SS => wS cI cZ cJ a u Y) u)) A) ([.ref (a 1), .int o_g] : List Value).toArray s 0 0 A) (F0 m 28 ls []) := by
      intro d
      induction d with
      | zero =>
        intro k_g S_g hk_28 hd_28
        exact absurd hd_28 (by omega)
      | succ d ih_28 =>
        intro k_g S_g hk_28 hd_28 hI H locs hP hD hS ls hl
        refine lv_iload hx hb dX0_addReachedFrom_28 (lv_at hl 4 rfl) ?_
        refine lv_aload_n hx hb dX0_addReachedFrom_30 rfl (lv_at hl 0 rfl) ?_
        refine va_get (D := G) (ci := 0) (v := .ref (a 6)) (C := RX0) (T := TX0) (N := 10) hx hb hts in_X0_addReachedFrom_0 hown hK hP 0 rfl rfl 0 (by decide) (hts (.fieldLink RX0 24 "RampJam$Search" "yard" "LRampJam$Yard;") (by decide +kernel)) (fun _ h9 => h9) rfl dX0_addReachedFrom_31 ?_
        have hPc := hP.sub (ws' := [((a 6), .inr (1, [.ref (a 7), .ref (a 8), .ref (a 9), .ref (a 10), .int (nI (y_n Y)), .long (y_rp Y)])), ((a 7), .inl (cI, 9, .inl (y_sz Y))), ((a 8), .inl (cZ, 9, .inl (y_ac Y))), ((a 9), .inl (cI, 9, .inl (y_li Y))), ((a 10), .inl (cJ, 9, .inr (.inl (y_sh Y))))]) [5, 6, 7, 8, 9] rfl
        refine ro_i (va_runV (As := []) (rest := [.int (nI k_g)]) ⟨hx, hb, hml, hown, hts⟩ ((c_X1_count l G cI cZ cJ a _ Y)) (cwV 0 hts gX0_addReachedFrom_X1_count rfl rfl rfl (by decide +kernel) ⟨Nat.le_of_ble_eq_true rfl, Nat.le_of_ble_eq_true rfl⟩) ⟨ro_blind, va_recv hK hPc (ci := 1) (q0 := 0) rfl rfl, ro_pre hPc hK hN⟩ rfl rfl hl.1 rfl (lv_room (Nat.le_of_ble_eq_true rfl)) dX0_addReachedFrom_34 ⟨Nat.zero_le _, Nat.zero_le _⟩) hS hA hP (fun H locs hP hS => ?_)
        refine lv_icmp_ge (tgt := 86) hx hb dX0_addReachedFrom_37 (by decide) (fun c_2 => ?_) (fun c_2 => ?_)
        · have hkn : k_g = y_n Y := Nat.le_antisymm hk_28 (nx_ge (by omega) (by omega) c_2)
          have hP9 := hP
          have hD9 := hD
          exact W.vret hx hb hr (fun t ht hW => ⟨⟨S_g, rfl, by rw [s_reach, if_pos c_1, ← hI, hkn, Nat.sub_self]; rfl, by rw [ht]; exact hP9, hD9⟩, hS.F ht⟩) hS.2.2 dX0_addReachedFrom_86
        · have hlt : k_g < y_n Y := nx_lt (by omega) (by omega) c_2
          refine lv_aload_n hx hb dX0_addReachedFrom_40 rfl (lv_at hl 0 rfl) ?_
          refine lv_iload_n hx hb dX0_addReachedFrom_41 rfl (lv_at hl 1 rfl) ?_
          refine lv_iload hx hb dX0_addReachedFrom_42 (lv_at hl 4 rfl) ?_
          refine lv_iconst (v := (-1)) hx hb dX0_addReachedFrom_44 (by decide) ?_
          refine lv_aload_n hx hb dX0_addReachedFrom_45 rfl (lv_at hl 0 rfl) ?_
          refine va_get (D := G) (ci := 0) (v := .ref (a 6)) (C := RX0) (T := TX0) (N := 10) hx hb hts in_X0_addReachedFrom_0 hown hK hP 0 rfl rfl 0 (by decide) (hts (.fieldLink RX0 24 "RampJam$Search" "yard" "LRampJam$Yard;") (by decide +kernel)) (fun _ h9 => h9) rfl dX0_addReachedFrom_46 ?_
          refine lv_iload_n hx hb dX0_addReachedFrom_49 rfl (lv_at hl 2 rfl) ?_
          refine lv_lload_n hx hb dX0_addReachedFrom_50 rfl (lv_at hl 3 rfl) ?_
          refine lv_iload hx hb dX0_addReachedFrom_51 (lv_at hl 4 rfl) ?_
          refine lv_iconst (v := (-1)) hx hb dX0_addReachedFrom_53 (by decide) ?_
          have hPc := hP.sub (ws' := [((a 6), .inr (1, [.ref (a 7), .ref (a 8), .ref (a 9), .ref (a 10), .int (nI (y_n Y)), .long (y_rp Y)])), ((a 7), .inl (cI, 9, .inl (y_sz Y))), ((a 8), .inl (cZ, 9, .inl (y_ac Y))), ((a 9), .inl (cI, 9, .inl (y_li Y))), ((a 10), .inl (cJ, 9, .inr (.inl (y_sh Y))))]) [5, 6, 7, 8, 9] rfl
          refine ro_i (va_runV (As := [.int (s_fo S o_g.toNatClampNeg), .long (y_fil Y (s_fo S o_g.toNatClampNeg) (y_n Y)), .int (nI k_g), .int (-1)]) (rest := [.int (-1), .int (nI k_g), .int o_g, .ref (a 1)]) ⟨hx, hb, hml, hown, hts⟩ ((c_X1_wayIn l G cI cZ cJ a _ Y (s_fo S o_g.toNatClampNeg) (y_fil Y (s_fo S o_g.toNatClampNeg) (y_n Y)) (nI k_g) (-1))) (cwV 4 hts gX0_addReachedFrom_X1_wayIn rfl rfl rfl (by decide +kernel) ⟨Nat.le_of_ble_eq_true rfl, Nat.le_of_ble_eq_true rfl⟩) ⟨ro_blind, va_recv hK hPc (ci := 1) (q0 := 0) rfl rfl, ro_pre hPc hK hN⟩ rfl rfl hl.1 rfl (lv_room (Nat.le_of_ble_eq_true rfl)) dX0_addReachedFrom_54 ⟨Nat.zero_le _, Nat.zero_le _⟩) hS hA hP (fun H locs hP hS => ?_)
          refine rw_v (wr := []) (ws' := [((a 1), .inr (0, [.ref (a 6), .ref (a 2), .ref (a 3), .ref (a 4), .ref (a 5), .int (s_fc (s_drv S_g o_g (nI k_g) (-1 : Int32) (y_way Y (s_fo S o_g.toNatClampNeg) (y_fil Y (s_fo S o_g.toNatClampNeg) (y_n Y)) (nI k_g) (-1)))), .int (s_fs (s_drv S_g o_g (nI k_g) (-1 : Int32) (y_way Y (s_fo S o_g.toNatClampNeg) (y_fil Y (s_fo S o_g.toNatClampNeg) (y_n Y)) (nI k_g) (-1)))), .int (s_sm (s_drv S_g o_g (nI k_g) (-1 : Int32) (y_way Y (s_fo S o_g.toNatClampNeg) (y_fil Y (s_fo S o_g.toNatClampNeg) (y_n Y)) (nI k_g) (-1)))), .int (s_sc (s_drv S_g o_g (nI k_g) (-1 : Int32) (y_way Y (s_fo S o_g.toNatClampNeg) (y_fil Y (s_fo S o_g.toNatClampNeg) (y_n Y)) (nI k_g) (-1)))), .int (s_sf (s_drv S_g o_g (nI k_g) (-1 : Int32) (y_way Y (s_fo S o_g.toNatClampNeg) (y_fil Y (s_fo S o_g.toNatClampNeg) (y_n Y)) (nI k_g) (-1))))])), ((a 2), .inl (cI, 800, .inl (s_fo (s_drv S_g o_g (nI k_g) (-1 : Int32) (y_way Y (s_fo S o_g.toNatClampNeg) (y_fil Y (s_fo S o_g.toNatClampNeg) (y_n Y)) (nI k_g) (-1)))))), ((a 3), .inl (cI, 800, .inl (s_or (s_drv S_g o_g (nI k_g) (-1 : Int32) (y_way Y (s_fo S o_g.toNatClampNeg) (y_fil Y (s_fo S o_g.toNatClampNeg) (y_n Y)) (nI k_g) (-1)))))), ((a 4), .inl (cI, 800, .inl (s_mo (s_drv S_g o_g (nI k_g) (-1 : Int32) (y_way Y (s_fo S o_g.toNatClampNeg) (y_fil Y (s_fo S o_g.toNatClampNeg) (y_n Y)) (nI k_g) (-1)))))), ((a 5), .inl (cI, 2048, .inl (s_sl (s_drv S_g o_g (nI k_g) (-1 : Int32) (y_way Y (s_fo S o_g.toNatClampNeg) (y_fil Y (s_fo S o_g.toNatClampNeg) (y_n Y)) (nI k_g) (-1)))))), ((a 6), .inr (1, [.ref (a 7), .ref (a 8), .ref (a 9), .ref (a 10), .int (nI (y_n Y)), .long (y_rp Y)])), ((a 7), .inl (cI, 9, .inl (y_sz Y))), ((a 8), .inl (cZ, 9, .inl (y_ac Y))), ((a 9), .inl (cI, 9, .inl (y_li Y))), ((a 10), .inl (cJ, 9, .inr (.inl (y_sh Y))))]) (va_runV (As := [.int o_g, .int (nI k_g), .int (-1), .int (y_way Y (s_fo S o_g.toNatClampNeg) (y_fil Y (s_fo S o_g.toNatClampNeg) (y_n Y)) (nI k_g) (-1))]) (rest := []) ⟨hx, hb, hml, hown, hts⟩ ((c_X0_addDriven l G cI cZ cJ a _ S_g Y o_g (nI k_g) (-1) (y_way Y (s_fo S o_g.toNatClampNeg) (y_fil Y (s_fo S o_g.toNatClampNeg) (y_n Y)) (nI k_g) (-1)))) (cwV 4 hts gX0_addReachedFrom_X0_addDriven rfl rfl rfl (by decide +kernel) ⟨Nat.le_of_ble_eq_true rfl, Nat.le_of_ble_eq_true rfl⟩) ⟨rw_blind, va_recv hK hP (ci := 0) (q0 := 0) rfl rfl, rw_pre hP hD hK hN⟩ rfl rfl hl.1 rfl (lv_room (Nat.le_of_ble_eq_true rfl)) dX0_addReachedFrom_57 ⟨Nat.zero_le _, Nat.zero_le _⟩) hS hA hP hD [0, 1, 2, 3, 4, 5, 6, 7, 8, 9] [] [0, 1, 2, 3, 4, 5, 6, 7, 8, 9] rfl rfl (by decide) (by decide) rfl (by decide) (fun H locs hP hD hS => ?_)
          refine lv_aload_n hx hb dX0_addReachedFrom_60 rfl (lv_at hl 0 rfl) ?_
          refine lv_iload_n hx hb dX0_addReachedFrom_61 rfl (lv_at hl 1 rfl) ?_
          refine lv_iload hx hb dX0_addReachedFrom_62 (lv_at hl 4 rfl) ?_
          refine lv_iconst (v := 1) hx hb dX0_addReachedFrom_64 (by decide) ?_
          refine lv_aload_n hx hb dX0_addReachedFrom_65 rfl (lv_at hl 0 rfl) ?_
          refine va_get (D := G) (ci := 0) (v := .ref (a 6)) (C := RX0) (T := TX0) (N := 10) hx hb hts in_X0_addReachedFrom_0 hown hK hP 0 rfl rfl 0 (by decide) (hts (.fieldLink RX0 24 "RampJam$Search" "yard" "LRampJam$Yard;") (by decide +kernel)) (fun _ h9 => h9) rfl dX0_addReachedFrom_66 ?_
          refine lv_iload_n hx hb dX0_addReachedFrom_69 rfl (lv_at hl 2 rfl) ?_
          refine lv_lload_n hx hb dX0_addReachedFrom_70 rfl (lv_at hl 3 rfl) ?_
          refine lv_iload hx hb dX0_addReachedFrom_71 (lv_at hl 4 rfl) ?_
          refine lv_iconst (v := 1) hx hb dX0_addReachedFrom_73 (by decide) ?_
          have hPc := hP.sub (ws' := [((a 6), .inr (1, [.ref (a 7), .ref (a 8), .ref (a 9), .ref (a 10), .int (nI (y_n Y)), .long (y_rp Y)])), ((a 7), .inl (cI, 9, .inl (y_sz Y))), ((a 8), .inl (cZ, 9, .inl (y_ac Y))), ((a 9), .inl (cI, 9, .inl (y_li Y))), ((a 10), .inl (cJ, 9, .inr (.inl (y_sh Y))))]) [5, 6, 7, 8, 9] rfl
          refine ro_i (va_runV (As := [.int (s_fo S o_g.toNatClampNeg), .long (y_fil Y (s_fo S o_g.toNatClampNeg) (y_n Y)), .int (nI k_g), .int 1]) (rest := [.int 1, .int (nI k_g), .int o_g, .ref (a 1)]) ⟨hx, hb, hml, hown, hts⟩ ((c_X1_wayIn l G cI cZ cJ a _ Y (s_fo S o_g.toNatClampNeg) (y_fil Y (s_fo S o_g.toNatClampNeg) (y_n Y)) (nI k_g) 1)) (cwV 4 hts gX0_addReachedFrom_X1_wayIn rfl rfl rfl (by decide +kernel) ⟨Nat.le_of_ble_eq_true rfl, Nat.le_of_ble_eq_true rfl⟩) ⟨ro_blind, va_recv hK hPc (ci := 1) (q0 := 0) rfl rfl, ro_pre hPc hK hN⟩ rfl rfl hl.1 rfl (lv_room (Nat.le_of_ble_eq_true rfl)) dX0_addReachedFrom_74 ⟨Nat.zero_le _, Nat.zero_le _⟩) hS hA hP (fun H locs hP hS => ?_)
          refine rw_v (wr := []) (ws' := [((a 1), .inr (0, [.ref (a 6), .ref (a 2), .ref (a 3), .ref (a 4), .ref (a 5), .int (s_fc (s_drv (s_drv S_g o_g (nI k_g) (-1 : Int32) (y_way Y (s_fo S o_g.toNatClampNeg) (y_fil Y (s_fo S o_g.toNatClampNeg) (y_n Y)) (nI k_g) (-1))) o_g (nI k_g) (1 : Int32) (y_way Y (s_fo S o_g.toNatClampNeg) (y_fil Y (s_fo S o_g.toNatClampNeg) (y_n Y)) (nI k_g) 1))), .int (s_fs (s_drv (s_drv S_g o_g (nI k_g) (-1 : Int32) (y_way Y (s_fo S o_g.toNatClampNeg) (y_fil Y (s_fo S o_g.toNatClampNeg) (y_n Y)) (nI k_g) (-1))) o_g (nI k_g) (1 : Int32) (y_way Y (s_fo S o_g.toNatClampNeg) (y_fil Y (s_fo S o_g.toNatClampNeg) (y_n Y)) (nI k_g) 1))), .int (s_sm (s_drv (s_drv S_g o_g (nI k_g) (-1 : Int32) (y_way Y (s_fo S o_g.toNatClampNeg) (y_fil Y (s_fo S o_g.toNatClampNeg) (y_n Y)) (nI k_g) (-1))) o_g (nI k_g) (1 : Int32) (y_way Y (s_fo S o_g.toNatClampNeg) (y_fil Y (s_fo S o_g.toNatClampNeg) (y_n Y)) (nI k_g) 1))), .int (s_sc (s_drv (s_drv S_g o_g (nI k_g) (-1 : Int32) (y_way Y (s_fo S o_g.toNatClampNeg) (y_fil Y (s_fo S o_g.toNatClampNeg) (y_n Y)) (nI k_g) (-1))) o_g (nI k_g) (1 : Int32) (y_way Y (s_fo S o_g.toNatClampNeg) (y_fil Y (s_fo S o_g.toNatClampNeg) (y_n Y)) (nI k_g) 1))), .int (s_sf (s_drv (s_drv S_g o_g (nI k_g) (-1 : Int32) (y_way Y (s_fo S o_g.toNatClampNeg) (y_fil Y (s_fo S o_g.toNatClampNeg) (y_n Y)) (nI k_g) (-1))) o_g (nI k_g) (1 : Int32) (y_way Y (s_fo S o_g.toNatClampNeg) (y_fil Y (s_fo S o_g.toNatClampNeg) (y_n Y)) (nI k_g) 1)))])), ((a 2), .inl (cI, 800, .inl (s_fo (s_drv (s_drv S_g o_g (nI k_g) (-1 : Int32) (y_way Y (s_fo S o_g.toNatClampNeg) (y_fil Y (s_fo S o_g.toNatClampNeg) (y_n Y)) (nI k_g) (-1))) o_g (nI k_g) (1 : Int32) (y_way Y (s_fo S o_g.toNatClampNeg) (y_fil Y (s_fo S o_g.toNatClampNeg) (y_n Y)) (nI k_g) 1))))), ((a 3), .inl (cI, 800, .inl (s_or (s_drv (s_drv S_g o_g (nI k_g) (-1 : Int32) (y_way Y (s_fo S o_g.toNatClampNeg) (y_fil Y (s_fo S o_g.toNatClampNeg) (y_n Y)) (nI k_g) (-1))) o_g (nI k_g) (1 : Int32) (y_way Y (s_fo S o_g.toNatClampNeg) (y_fil Y (s_fo S o_g.toNatClampNeg) (y_n Y)) (nI k_g) 1))))), ((a 4), .inl (cI, 800, .inl (s_mo (s_drv (s_drv S_g o_g (nI k_g) (-1 : Int32) (y_way Y (s_fo S o_g.toNatClampNeg) (y_fil Y (s_fo S o_g.toNatClampNeg) (y_n Y)) (nI k_g) (-1))) o_g (nI k_g) (1 : Int32) (y_way Y (s_fo S o_g.toNatClampNeg) (y_fil Y (s_fo S o_g.toNatClampNeg) (y_n Y)) (nI k_g) 1))))), ((a 5), .inl (cI, 2048, .inl (s_sl (s_drv (s_drv S_g o_g (nI k_g) (-1 : Int32) (y_way Y (s_fo S o_g.toNatClampNeg) (y_fil Y (s_fo S o_g.toNatClampNeg) (y_n Y)) (nI k_g) (-1))) o_g (nI k_g) (1 : Int32) (y_way Y (s_fo S o_g.toNatClampNeg) (y_fil Y (s_fo S o_g.toNatClampNeg) (y_n Y)) (nI k_g) 1))))), ((a 6), .inr (1, [.ref (a 7), .ref (a 8), .ref (a 9), .ref (a 10), .int (nI (y_n Y)), .long (y_rp Y)])), ((a 7), .inl (cI, 9, .inl (y_sz Y))), ((a 8), .inl (cZ, 9, .inl (y_ac Y))), ((a 9), .inl (cI, 9, .inl (y_li Y))), ((a 10), .inl (cJ, 9, .inr (.inl (y_sh Y))))]) (va_runV (As := [.int o_g, .int (nI k_g), .int 1, .int (y_way Y (s_fo S o_g.toNatClampNeg) (y_fil Y (s_fo S o_g.toNatClampNeg) (y_n Y)) (nI k_g) 1)]) (rest := []) ⟨hx, hb, hml, hown, hts⟩ ((c_X0_addDriven l G cI cZ cJ a _ (s_drv S_g o_g (nI k_g) (-1 : Int32) (y_way Y (s_fo S o_g.toNatClampNeg) (y_fil Y (s_fo S o_g.toNatClampNeg) (y_n Y)) (nI k_g) (-1))) Y o_g (nI k_g) 1 (y_way Y (s_fo S o_g.toNatClampNeg) (y_fil Y (s_fo S o_g.toNatClampNeg) (y_n Y)) (nI k_g) 1))) (cwV 4 hts gX0_addReachedFrom_X0_addDriven rfl rfl rfl (by decide +kernel) ⟨Nat.le_of_ble_eq_true rfl, Nat.le_of_ble_eq_true rfl⟩) ⟨rw_blind, va_recv hK hP (ci := 0) (q0 := 0) rfl rfl, rw_pre hP hD hK hN⟩ rfl rfl hl.1 rfl (lv_room (Nat.le_of_ble_eq_true rfl)) dX0_addReachedFrom_77 ⟨Nat.zero_le _, Nat.zero_le _⟩) hS hA hP hD [0, 1, 2, 3, 4, 5, 6, 7, 8, 9] [] [0, 1, 2, 3, 4, 5, 6, 7, 8, 9] rfl rfl (by decide) (by decide) rfl (by decide) (fun H locs hP hD hS => ?_)
          refine lv_iinc (v := (nI (k_g + 1))) (lv' := [(5, .int (nI (k_g + 1))), (0, .ref (a 1)), (1, .int o_g), (2, .int (s_fo S o_g.toNatClampNeg)), (3, .long (y_fil Y (s_fo S o_g.toNatClampNeg) (y_n Y)))]) hx hb dX0_addReachedFrom_80 hl (k := 4) rfl (nI_1 _) (by decide) rfl (fun ls hl => ?_)
          refine lv_goto (tgt := 28) hx hb dX0_addReachedFrom_83 (by decide) ?_
          exact ih_28 (k_g + 1) (s_drv (s_drv S_g o_g (nI k_g) (-1 : Int32) (y_way Y (s_fo S o_g.toNatClampNeg) (y_fil Y (s_fo S o_g.toNatClampNeg) (y_n Y)) (nI k_g) (-1))) o_g (nI k_g) (1 : Int32) (y_way Y (s_fo S o_g.toNatClampNeg) (y_fil Y (s_fo S o_g.toNatClampNeg) (y_n Y)) (nI k_g) 1)) (hlt) (by omega) (by rw [← hI, s_reachL_in hlt]) _ _ hP hD hS _ (lv_sub hl [1, 2, 3, 4, 0] rfl)
    exact cut_28 (y_n Y + 1) 0 S (Nat.zero_le _) (by omega) (rfl) _ _ hP hD hS _ (lv_sub hl [3, 4, 2, 1, 0] rfl)
  · have c_1 := b1_f c_1
    have hP9 := hP
    have hD9 := hD
    exact W.vret hx hb hr (fun t ht hW => ⟨⟨S, rfl, by rw [s_reach, if_neg c_1], by rw [ht]; exact hP9, hD9⟩, hS.F ht⟩) hS.2.2 dX0_addReachedFrom_8

theorem in_X0_traceWay_0 : ∀ w ∈ wsX00, w ∈ wsX0_traceWay := by decide +kernel
set_option maxHeartbeats 4000000 in
set_option maxRecDepth 100000 in
/-- Search.traceWay -/
theorem c_X0_traceWay (l : Launch) (G : va_G) (cI cZ cJ : ClassId) (a : Nat → Nat) (sz : Nat) (S : SS) (Y : YS)  : Met l yX0_traceWay wsX0_traceWay ({ frames := 1, cells := 0, slots := 0, locals := 21 }) (rw_Pc G [(cI, .int), (cZ, .boolean), (cJ, .long)] (wS cI cZ cJ a S Y) sz [.ref (a 1)]) (rw_Qv (S := SS) (s_trace S) (fun u : SS => wS cI cZ cJ a u Y) G (wS cI cZ cJ a S Y) sz) 0 0 (va_A (wS cI cZ cJ a S Y) sz) := by
  refine Met.ofW (cc := cX0_traceWay) (maxL := 3) (ret := none) (by decide) rfl ?_
  intro p e s m args below meth c s₁ B hml hv
  obtain ⟨rfl, hsz, hP, hK, hD0, hN⟩ := hv
  have hx := B.exec
  have hb := B.bytes
  have hr := B.returns
  have hts := atoms_spec (ws := wsX0_traceWay) B.pre
  have hown : s.vm.findClass RX0 = some m.cls := findClass_of_methodNamed B.named
  have hlocks := B.notSynchronized
  subst hsz
  have hD0 : va_D (fun _ => True) [((a 1), .inr (0, [.ref (a 6), .ref (a 2), .ref (a 3), .ref (a 4), .ref (a 5), .int (s_fc S), .int (s_fs S), .int (s_sm S), .int (s_sc S), .int (s_sf S)])), ((a 2), .inl (cI, 800, .inl (s_fo S))), ((a 3), .inl (cI, 800, .inl (s_or S))), ((a 4), .inl (cI, 800, .inl (s_mo S))), ((a 5), .inl (cI, 2048, .inl (s_sl S))), ((a 6), .inr (1, [.ref (a 7), .ref (a 8), .ref (a 9), .ref (a 10), .int (nI (y_n Y)), .long (y_rp Y)])), ((a 7), .inl (cI, 9, .inl (y_sz Y))), ((a 8), .inl (cZ, 9, .inl (y_ac Y))), ((a 9), .inl (cI, 9, .inl (y_li Y))), ((a 10), .inl (cJ, 9, .inr (.inl (y_sh Y))))] := hD0
  have hD := hD0.self (sz := s.heap.size)
  unfold rw_Qv
  generalize hAe : va_A (wS cI cZ cJ a S Y) s.heap.size = A at hD ⊢
  have hA : ∀ q : Nat, s.heap.size ≤ q → A q := fun q h => by rw [← hAe]; exact Or.inr h
  have hS : va_S A s.heap s.heap [] := va_S.rf
  have hP : va_P G vwCl [((a 1), .inr (0, [.ref (a 6), .ref (a 2), .ref (a 3), .ref (a 4), .ref (a 5), .int (s_fc S), .int (s_fs S), .int (s_sm S), .int (s_sc S), .int (s_sf S)])), ((a 2), .inl (cI, 800, .inl (s_fo S))), ((a 3), .inl (cI, 800, .inl (s_or S))), ((a 4), .inl (cI, 800, .inl (s_mo S))), ((a 5), .inl (cI, 2048, .inl (s_sl S))), ((a 6), .inr (1, [.ref (a 7), .ref (a 8), .ref (a 9), .ref (a 10), .int (nI (y_n Y)), .long (y_rp Y)])), ((a 7), .inl (cI, 9, .inl (y_sz Y))), ((a 8), .inl (cZ, 9, .inl (y_ac Y))), ((a 9), .inl (cI, 9, .inl (y_li Y))), ((a 10), .inl (cJ, 9, .inr (.inl (y_sh Y))))] s.heap := hP
  have hl := lv_entry ([.ref (a 1)]) (n := 3) (Nat.le_of_ble_eq_true rfl)
  rw [lg_entry_eq]
  generalize (lg_sl ([.ref (a 1)]) ++ List.replicate (3 - (lg_sl ([.ref (a 1)])).length) Slot.unset).toArray = ls at hl ⊢
  have hl : lv_has ls 3 [(0, .ref (a 1))] := hl
  refine lv_aload_n hx hb dX0_traceWay_0 rfl (lv_at hl 0 rfl) ?_
  have cut_14 : ∀ (q_g : Int32), (q_g = if s_fs S = -1 then -1 else 0) → ∀ (H : Heap) (locs : List Loc), va_P G vwCl [((a 1), .inr (0, [.ref (a 6), .ref (a 2), .ref (a 3), .ref (a 4), .ref (a 5), .int (s_fc S), .int (s_fs S), .int (s_sm S), .int (s_sc S), .int (s_sf S)])), ((a 2), .inl (cI, 800, .inl (s_fo S))), ((a 3), .inl (cI, 800, .inl (s_or S))), ((a 4), .inl (cI, 800, .inl (s_mo S))), ((a 5), .inl (cI, 2048, .inl (s_sl S))), ((a 6), .inr (1, [.ref (a 7), .ref (a 8), .ref (a 9), .ref (a 10), .int (nI (y_n Y)), .long (y_rp Y)])), ((a 7), .inl (cI, 9, .inl (y_sz Y))), ((a 8), .inl (cZ, 9, .inl (y_ac Y))), ((a 9), .inl (cI, 9, .inl (y_li Y))), ((a 10), .inl (cJ, 9, .inr (.inl (y_sh Y))))] H → va_D A [((a 1), .inr (0, [.ref (a 6), .ref (a 2), .ref (a 3), .ref (a 4), .ref (a 5), .int (s_fc S), .int (s_fs S), .int (s_sm S), .int (s_sc S), .int (s_sf S)])), ((a 2), .inl (cI, 800, .inl (s_fo S))), ((a 3), .inl (cI, 800, .inl (s_or S))), ((a 4), .inl (cI, 800, .inl (s_mo S))), ((a 5), .inl (cI, 2048, .inl (s_sl S))), ((a 6), .inr (1, [.ref (a 7), .ref (a 8), .ref (a 9), .ref (a 10), .int (nI (y_n Y)), .long (y_rp Y)])), ((a 7), .inl (cI, 9, .inl (y_sz Y))), ((a 8), .inl (cZ, 9, .inl (y_ac Y))), ((a 9), .inl (cI, 9, .inl (y_li Y))), ((a 10), .inl (cJ, 9, .inr (.inl (y_sh Y))))] → va_S A s.heap H locs → ∀ (ls : Array Slot), lv_has ls 3 [(0, .ref (a 1))] → W p l e (headSpec wsX0_traceWay ({ frames := 1, cells := 0, slots := 0, locals := 21 })).room s m ([.ref (a 1)] : List Value).toArray below meth c H locs 0 0 (MQ below (va_Qv (fun u : SS => u = (s_trace S)) (fun (u : SS) (t : State) => va_P G vwCl ((fun u : SS => wS cI cZ cJ a u Y) u) t.heap ∧ va_D A ((fun u : SS => wS cI cZ cJ a u Y) u)) A) ([.ref (a 1)] : List Value).toArray s 0 0 A) (F0 m 14 ls [.int q_g, .ref (a 1)]) := by
    intro q_g eq_g H locs hP hD hS ls hl
    subst eq_g
    try have hl : lv_has ls 3 [(0, .ref (a 1))] := hl
    refine va_put (D := G) (ci := 0) (v := .int (if s_fs S = -1 then -1 else 0)) (ty := .int) (C := RX0) (T := TX0) (N := 10) hx hb hts in_X0_traceWay_0 tyX0 tyX0_ok nmX0 hown hK hP hD hS 0 rfl rfl 7 (by decide) (hts (.fieldLink RX0 52 "RampJam$Search" "solvedMoves" "I") (by decide +kernel)) (fun _ h9 => h9) rfl (by decide +kernel) rfl rfl (Nat.le_of_ble_eq_true rfl) dX0_traceWay_14 (fun H locs hP hD hS => ?_)
    have hP : va_P G vwCl [((a 1), .inr (0, [.ref (a 6), .ref (a 2), .ref (a 3), .ref (a 4), .ref (a 5), .int (s_fc S), .int (s_fs S), .int (if s_fs S = -1 then -1 else 0), .int (s_sc S), .int (s_sf S)])), ((a 2), .inl (cI, 800, .inl (s_fo S))), ((a 3), .inl (cI, 800, .inl (s_or S))), ((a 4), .inl (cI, 800, .inl (s_mo S))), ((a 5), .inl (cI, 2048, .inl (s_sl S))), ((a 6), .inr (1, [.ref (a 7), .ref (a 8), .ref (a 9), .ref (a 10), .int (nI (y_n Y)), .long (y_rp Y)])), ((a 7), .inl (cI, 9, .inl (y_sz Y))), ((a 8), .inl (cZ, 9, .inl (y_ac Y))), ((a 9), .inl (cI, 9, .inl (y_li Y))), ((a 10), .inl (cJ, 9, .inr (.inl (y_sh Y))))] H := hP
    have hD : va_D A [((a 1), .inr (0, [.ref (a 6), .ref (a 2), .ref (a 3), .ref (a 4), .ref (a 5), .int (s_fc S), .int (s_fs S), .int (if s_fs S = -1 then -1 else 0), .int (s_sc S), .int (s_sf S)])), ((a 2), .inl (cI, 800, .inl (s_fo S))), ((a 3), .inl (cI, 800, .inl (s_or S))), ((a 4), .inl (cI, 800, .inl (s_mo S))), ((a 5), .inl (cI, 2048, .inl (s_sl S))), ((a 6), .inr (1, [.ref (a 7), .ref (a 8), .ref (a 9), .ref (a 10), .int (nI (y_n Y)), .long (y_rp Y)])), ((a 7), .inl (cI, 9, .inl (y_sz Y))), ((a 8), .inl (cZ, 9, .inl (y_ac Y))), ((a 9), .inl (cI, 9, .inl (y_li Y))), ((a 10), .inl (cJ, 9, .inr (.inl (y_sh Y))))] := hD
    refine lv_aload_n hx hb dX0_traceWay_17 rfl (lv_at hl 0 rfl) ?_
    refine lv_iconst (v := 0) hx hb dX0_traceWay_18 (by decide) ?_
    refine va_put (D := G) (ci := 0) (v := .int 0) (ty := .int) (C := RX0) (T := TX0) (N := 10) hx hb hts in_X0_traceWay_0 tyX0 tyX0_ok nmX0 hown hK hP hD hS 0 rfl rfl 8 (by decide) (hts (.fieldLink RX0 55 "RampJam$Search" "solvedCells" "I") (by decide +kernel)) (fun _ h9 => h9) rfl (by decide +kernel) rfl rfl (Nat.le_of_ble_eq_true rfl) dX0_traceWay_19 (fun H locs hP hD hS => ?_)
    have hP : va_P G vwCl [((a 1), .inr (0, [.ref (a 6), .ref (a 2), .ref (a 3), .ref (a 4), .ref (a 5), .int (s_fc S), .int (s_fs S), .int (if s_fs S = -1 then -1 else 0), .int 0, .int (s_sf S)])), ((a 2), .inl (cI, 800, .inl (s_fo S))), ((a 3), .inl (cI, 800, .inl (s_or S))), ((a 4), .inl (cI, 800, .inl (s_mo S))), ((a 5), .inl (cI, 2048, .inl (s_sl S))), ((a 6), .inr (1, [.ref (a 7), .ref (a 8), .ref (a 9), .ref (a 10), .int (nI (y_n Y)), .long (y_rp Y)])), ((a 7), .inl (cI, 9, .inl (y_sz Y))), ((a 8), .inl (cZ, 9, .inl (y_ac Y))), ((a 9), .inl (cI, 9, .inl (y_li Y))), ((a 10), .inl (cJ, 9, .inr (.inl (y_sh Y))))] H := hP
    have hD : va_D A [((a 1), .inr (0, [.ref (a 6), .ref (a 2), .ref (a 3), .ref (a 4), .ref (a 5), .int (s_fc S), .int (s_fs S), .int (if s_fs S = -1 then -1 else 0), .int 0, .int (s_sf S)])), ((a 2), .inl (cI, 800, .inl (s_fo S))), ((a 3), .inl (cI, 800, .inl (s_or S))), ((a 4), .inl (cI, 800, .inl (s_mo S))), ((a 5), .inl (cI, 2048, .inl (s_sl S))), ((a 6), .inr (1, [.ref (a 7), .ref (a 8), .ref (a 9), .ref (a 10), .int (nI (y_n Y)), .long (y_rp Y)])), ((a 7), .inl (cI, 9, .inl (y_sz Y))), ((a 8), .inl (cZ, 9, .inl (y_ac Y))), ((a 9), .inl (cI, 9, .inl (y_li Y))), ((a 10), .inl (cJ, 9, .inr (.inl (y_sh Y))))] := hD
    refine lv_aload_n hx hb dX0_traceWay_22 rfl (lv_at hl 0 rfl) ?_
    refine lv_iconst (v := (-1)) hx hb dX0_traceWay_23 (by decide) ?_
    refine va_put (D := G) (ci := 0) (v := .int (-1)) (ty := .int) (C := RX0) (T := TX0) (N := 10) hx hb hts in_X0_traceWay_0 tyX0 tyX0_ok nmX0 hown hK hP hD hS 0 rfl rfl 9 (by decide) (hts (.fieldLink RX0 58 "RampJam$Search" "solvedFirstMove" "I") (by decide +kernel)) (fun _ h9 => h9) rfl (by decide +kernel) rfl rfl (Nat.le_of_ble_eq_true rfl) dX0_traceWay_24 (fun H locs hP hD hS => ?_)
    have hP : va_P G vwCl [((a 1), .inr (0, [.ref (a 6), .ref (a 2), .ref (a 3), .ref (a 4), .ref (a 5), .int (s_fc S), .int (s_fs S), .int (if s_fs S = -1 then -1 else 0), .int 0, .int (-1)])), ((a 2), .inl (cI, 800, .inl (s_fo S))), ((a 3), .inl (cI, 800, .inl (s_or S))), ((a 4), .inl (cI, 800, .inl (s_mo S))), ((a 5), .inl (cI, 2048, .inl (s_sl S))), ((a 6), .inr (1, [.ref (a 7), .ref (a 8), .ref (a 9), .ref (a 10), .int (nI (y_n Y)), .long (y_rp Y)])), ((a 7), .inl (cI, 9, .inl (y_sz Y))), ((a 8), .inl (cZ, 9, .inl (y_ac Y))), ((a 9), .inl (cI, 9, .inl (y_li Y))), ((a 10), .inl (cJ, 9, .inr (.inl (y_sh Y))))] H := hP
    have hD : va_D A [((a 1), .inr (0, [.ref (a 6), .ref (a 2), .ref (a 3), .ref (a 4), .ref (a 5), .int (s_fc S), .int (s_fs S), .int (if s_fs S = -1 then -1 else 0), .int 0, .int (-1)])), ((a 2), .inl (cI, 800, .inl (s_fo S))), ((a 3), .inl (cI, 800, .inl (s_or S))), ((a 4), .inl (cI, 800, .inl (s_mo S))), ((a 5), .inl (cI, 2048, .inl (s_sl S))), ((a 6), .inr (1, [.ref (a 7), .ref (a 8), .ref (a 9), .ref (a 10), .int (nI (y_n Y)), .long (y_rp Y)])), ((a 7), .inl (cI, 9, .inl (y_sz Y))), ((a 8), .inl (cZ, 9, .inl (y_ac Y))), ((a 9), .inl (cI, 9, .inl (y_li Y))), ((a 10), .inl (cJ, 9, .inr (.inl (y_sh Y))))] := hD
    refine lv_aload_n hx hb dX0_traceWay_27 rfl (lv_at hl 0 rfl) ?_
    refine va_get (D := G) (ci := 0) (v := .int (s_fs S)) (C := RX0) (T := TX0) (N := 10) hx hb hts in_X0_traceWay_0 hown hK hP 0 rfl rfl 6 (by decide) (hts (.fieldLink RX0 38 "RampJam$Search" "firstSolved" "I") (by decide +kernel)) (fun _ h9 => h9) rfl dX0_traceWay_28 ?_
    refine lv_istore_n (lv' := [(1, .int (s_fs S)), (0, .ref (a 1))]) hx hb dX0_traceWay_31 rfl hl (by decide) rfl (fun ls hl => ?_)
    refine lv_iconst (v := 1) hx hb dX0_traceWay_32 (by decide) ?_
    refine lv_istore_n (lv' := [(2, .int 1), (1, .int (s_fs S)), (0, .ref (a 1))]) hx hb dX0_traceWay_33 rfl hl (by decide) rfl (fun ls hl => ?_)
    have cut_34 : ∀ (d : Nat) (k_g : Nat) (j_g : Int32) (S_g : SS), k_g ≤ 800 → 800 + 1 ≤ k_g + d → (s_trL (800 - k_g) k_g j_g S_g = s_trL 799 1 (s_fs S) (s_tr0 S)) → ∀ (H : Heap) (locs : List Loc), va_P G vwCl [((a 1), .inr (0, [.ref (a 6), .ref (a 2), .ref (a 3), .ref (a 4), .ref (a 5), .int (s_fc S_g), .int (s_fs S_g), .int (s_sm S_g), .int (s_sc S_g), .int (s_sf S_g)])), ((a 2), .inl (cI, 800, .inl (s_fo S_g))), ((a 3), .inl (cI, 800, .inl (s_or S_g))), ((a 4), .inl (cI, 800, .inl (s_mo S_g))), ((a 5), .inl (cI, 2048, .inl (s_sl S_g))), ((a 6), .inr (1, [.ref (a 7), .ref (a 8), .ref (a 9), .ref (a 10), .int (nI (y_n Y)), .long (y_rp Y)])), ((a 7), .inl (cI, 9, .inl (y_sz Y))), ((a 8), .inl (cZ, 9, .inl (y_ac Y))), ((a 9), .inl (cI, 9, .inl (y_li Y))), ((a 10), .inl (cJ, 9, .inr (.inl (y_sh Y))))] H → va_D A [((a 1), .inr (0, [.ref (a 6), .ref (a 2), .ref (a 3), .ref (a 4), .ref (a 5), .int (s_fc S_g), .int (s_fs S_g), .int (s_sm S_g), .int (s_sc S_g), .int (s_sf S_g)])), ((a 2), .inl (cI, 800, .inl (s_fo S_g))), ((a 3), .inl (cI, 800, .inl (s_or S_g))), ((a 4), .inl (cI, 800, .inl (s_mo S_g))), ((a 5), .inl (cI, 2048, .inl (s_sl S_g))), ((a 6), .inr (1, [.ref (a 7), .ref (a 8), .ref (a 9), .ref (a 10), .int (nI (y_n Y)), .long (y_rp Y)])), ((a 7), .inl (cI, 9, .inl (y_sz Y))), ((a 8), .inl (cZ, 9, .inl (y_ac Y))), ((a 9), .inl (cI, 9, .inl (y_li Y))), ((a 10), .inl (cJ, 9, .inr (.inl (y_sh Y))))] → va_S A s.heap H locs → ∀ (ls : Array Slot), lv_has ls 3 [(0, .ref (a 1)), (1, .int j_g), (2, .int (nI k_g))] → W p l e (headSpec wsX0_traceWay ({ frames := 1, cells := 0, slots := 0, locals := 21 })).room s m ([.ref (a 1)] : List Value).toArray below meth c H locs 0 0 (MQ below (va_Qv (fun u : SS => u = (s_trace S)) (fun (u : SS) (t : State) => va_P G vwCl ((fun u : SS => wS cI cZ cJ a u Y) u) t.heap ∧ va_D A ((fun u : SS => wS cI cZ cJ a u Y) u)) A) ([.ref (a 1)] : List Value).toArray s 0 0 A) (F0 m 34 ls []) := by
      intro d
      induction d with
      | zero =>
        intro k_g j_g S_g hk_34 hd_34
        exact absurd hd_34 (by omega)
      | succ d ih_34 =>
        intro k_g j_g S_g hk_34 hd_34 hI H locs hP hD hS ls hl
        refine lv_iload_n hx hb dX0_traceWay_34 rfl (lv_at hl 2 rfl) ?_
        refine lv_sipush (v := 800) hx hb dX0_traceWay_35 (by decide) ?_
        refine lv_icmp_ge (tgt := 102) hx hb dX0_traceWay_38 (by decide) (fun c_1 => ?_) (fun c_1 => ?_)
        · have hk8 := nx_ge (n := 800) (by omega) (by omega) c_1
          have hres : S_g = s_trL (800 - k_g) k_g j_g S_g := by rw [show 800 - k_g = 0 by omega]; rfl
          have hP9 := hP
          have hD9 := hD
          exact W.vret hx hb hr (fun t ht hW => ⟨⟨S_g, rfl, by rw [s_trace, ← hI]; exact hres, by rw [ht]; exact hP9, hD9⟩, hS.F ht⟩) hS.2.2 dX0_traceWay_102
        · have hlt : k_g < 800 := nx_lt (n := 800) (by omega) (by omega) c_1
          refine lv_iload_n hx hb dX0_traceWay_41 rfl (lv_at hl 1 rfl) ?_
          refine lv_if_le (tgt := 102) hx hb dX0_traceWay_42 (by decide) (fun c_2 => ?_) (fun c_2 => ?_)
          · have hres : S_g = s_trL (800 - k_g) k_g j_g S_g := by rw [s_trL_in hlt, if_neg (fun h => h.1 c_2)]
            have hP9 := hP
            have hD9 := hD
            exact W.vret hx hb hr (fun t ht hW => ⟨⟨S_g, rfl, by rw [s_trace, ← hI]; exact hres, by rw [ht]; exact hP9, hD9⟩, hS.F ht⟩) hS.2.2 dX0_traceWay_102
          · have hj := c_2
            refine lv_aload_n hx hb dX0_traceWay_45 rfl (lv_at hl 0 rfl) ?_
            refine lv_iload_n hx hb dX0_traceWay_46 rfl (lv_at hl 1 rfl) ?_
            refine ro_i (va_runV (As := [.int j_g]) (rest := []) ⟨hx, hb, hml, hown, hts⟩ ((c_X0_isFound l G cI cZ cJ a _ S_g Y j_g)) (cwV 1 hts gX0_traceWay_X0_isFound rfl rfl rfl (by decide +kernel) ⟨Nat.le_of_ble_eq_true rfl, Nat.le_of_ble_eq_true rfl⟩) ⟨ro_blind, va_recv hK hP (ci := 0) (q0 := 0) rfl rfl, ro_pre hP hK hN⟩ rfl rfl hl.1 rfl (lv_room (Nat.le_of_ble_eq_true rfl)) dX0_traceWay_47 ⟨Nat.zero_le _, Nat.zero_le _⟩) hS hA hP (fun H locs hP hS => ?_)
            refine lv_if_eq (tgt := 102) hx hb dX0_traceWay_50 (by decide) (fun c_3 => ?_) (fun c_3 => ?_)
            · have c_3 := b1_f c_3
              have hres : S_g = s_trL (800 - k_g) k_g j_g S_g := by rw [s_trL_in hlt, if_neg (fun h => c_3 h.2)]
              have hP9 := hP
              have hD9 := hD
              exact W.vret hx hb hr (fun t ht hW => ⟨⟨S_g, rfl, by rw [s_trace, ← hI]; exact hres, by rw [ht]; exact hP9, hD9⟩, hS.F ht⟩) hS.2.2 dX0_traceWay_102
            · have c_3 := b1_t c_3
              have hf := c_3
              refine lv_aload_n hx hb dX0_traceWay_53 rfl (lv_at hl 0 rfl) ?_
              refine lv_iload_n hx hb dX0_traceWay_54 rfl (lv_at hl 2 rfl) ?_
              refine va_put (D := G) (ci := 0) (v := .int (nI k_g)) (ty := .int) (C := RX0) (T := TX0) (N := 10) hx hb hts in_X0_traceWay_0 tyX0 tyX0_ok nmX0 hown hK hP hD hS 0 rfl rfl 7 (by decide) (hts (.fieldLink RX0 52 "RampJam$Search" "solvedMoves" "I") (by decide +kernel)) (fun _ h9 => h9) rfl (by decide +kernel) rfl rfl (Nat.le_of_ble_eq_true rfl) dX0_traceWay_55 (fun H locs hP hD hS => ?_)
              have hP : va_P G vwCl [((a 1), .inr (0, [.ref (a 6), .ref (a 2), .ref (a 3), .ref (a 4), .ref (a 5), .int (s_fc S_g), .int (s_fs S_g), .int (nI k_g), .int (s_sc S_g), .int (s_sf S_g)])), ((a 2), .inl (cI, 800, .inl (s_fo S_g))), ((a 3), .inl (cI, 800, .inl (s_or S_g))), ((a 4), .inl (cI, 800, .inl (s_mo S_g))), ((a 5), .inl (cI, 2048, .inl (s_sl S_g))), ((a 6), .inr (1, [.ref (a 7), .ref (a 8), .ref (a 9), .ref (a 10), .int (nI (y_n Y)), .long (y_rp Y)])), ((a 7), .inl (cI, 9, .inl (y_sz Y))), ((a 8), .inl (cZ, 9, .inl (y_ac Y))), ((a 9), .inl (cI, 9, .inl (y_li Y))), ((a 10), .inl (cJ, 9, .inr (.inl (y_sh Y))))] H := hP
              have hD : va_D A [((a 1), .inr (0, [.ref (a 6), .ref (a 2), .ref (a 3), .ref (a 4), .ref (a 5), .int (s_fc S_g), .int (s_fs S_g), .int (nI k_g), .int (s_sc S_g), .int (s_sf S_g)])), ((a 2), .inl (cI, 800, .inl (s_fo S_g))), ((a 3), .inl (cI, 800, .inl (s_or S_g))), ((a 4), .inl (cI, 800, .inl (s_mo S_g))), ((a 5), .inl (cI, 2048, .inl (s_sl S_g))), ((a 6), .inr (1, [.ref (a 7), .ref (a 8), .ref (a 9), .ref (a 10), .int (nI (y_n Y)), .long (y_rp Y)])), ((a 7), .inl (cI, 9, .inl (y_sz Y))), ((a 8), .inl (cZ, 9, .inl (y_ac Y))), ((a 9), .inl (cI, 9, .inl (y_li Y))), ((a 10), .inl (cJ, 9, .inr (.inl (y_sh Y))))] := hD
              refine lv_aload_n hx hb dX0_traceWay_58 rfl (lv_at hl 0 rfl) ?_
              refine lv_dup hx hb dX0_traceWay_59 rfl ?_
              refine va_get (D := G) (ci := 0) (v := .int (s_sc S_g)) (C := RX0) (T := TX0) (N := 10) hx hb hts in_X0_traceWay_0 hown hK hP 0 rfl rfl 8 (by decide) (hts (.fieldLink RX0 55 "RampJam$Search" "solvedCells" "I") (by decide +kernel)) (fun _ h9 => h9) rfl dX0_traceWay_60 ?_
              refine lv_aload_n hx hb dX0_traceWay_63 rfl (lv_at hl 0 rfl) ?_
              refine va_get (D := G) (ci := 0) (v := .ref (a 4)) (C := RX0) (T := TX0) (N := 10) hx hb hts in_X0_traceWay_0 hown hK hP 0 rfl rfl 3 (by decide) (hts (.fieldLink RX0 18 "RampJam$Search" "moveCodes" "[I") (by decide +kernel)) (fun _ h9 => h9) rfl dX0_traceWay_64 ?_
              refine lv_iload_n hx hb dX0_traceWay_67 rfl (lv_at hl 1 rfl) ?_
              refine va_iald hx hb hK hP 3 0 rfl rfl (s_isF_in (by assumption)) dX0_traceWay_68 ?_
              refine ro_i (va_runS (As := [.int ((s_mo S_g) (j_g.toNatClampNeg))]) (rest := [.int (s_sc S_g), .ref (a 1)]) ⟨hx, hb, hml, hown, hts⟩ ((c_X0_cellsOfMove l G cI cZ cJ a _ ((s_mo S_g) (j_g.toNatClampNeg)))) (va_cwS 1 hts gX0_traceWay_X0_cellsOfMove rfl rfl rfl (by decide +kernel) ⟨Nat.le_of_ble_eq_true rfl, Nat.le_of_ble_eq_true rfl⟩) ⟨ro_blind, ro_pre va_P0 hK hN⟩ rfl rfl hl.1 rfl (lv_room (Nat.le_of_ble_eq_true rfl)) dX0_traceWay_69 ⟨Nat.zero_le _, Nat.zero_le _⟩) hS hA hP (fun H locs hP hS => ?_)
              refine va_mabs hx hb (by rw [hml]; exact hl.1.symm) hown (hts (.methodLink RX0 73 Lib.Math.abs.name) (by decide +kernel)) (hts (.static Lib.Math.abs.name) (by decide +kernel)) (hts (.initialized "java/lang/Math") (by decide +kernel)) (hts (.code Lib.Math.abs.name Lib.Math.abs.code 1 (some .int)) (by decide +kernel)) (Nat.le_of_ble_eq_true rfl) (Nat.le_of_ble_eq_true rfl) (Nat.zero_le _) (Nat.zero_le _) dX0_traceWay_72 ?_
              refine lv_iadd hx hb dX0_traceWay_75 ?_
              refine va_put (D := G) (ci := 0) (v := .int ((s_sc S_g) + (iabs (m_cells ((s_mo S_g) (j_g.toNatClampNeg)))))) (ty := .int) (C := RX0) (T := TX0) (N := 10) hx hb hts in_X0_traceWay_0 tyX0 tyX0_ok nmX0 hown hK hP hD hS 0 rfl rfl 8 (by decide) (hts (.fieldLink RX0 55 "RampJam$Search" "solvedCells" "I") (by decide +kernel)) (fun _ h9 => h9) rfl (by decide +kernel) rfl rfl (Nat.le_of_ble_eq_true rfl) dX0_traceWay_76 (fun H locs hP hD hS => ?_)
              have hP : va_P G vwCl [((a 1), .inr (0, [.ref (a 6), .ref (a 2), .ref (a 3), .ref (a 4), .ref (a 5), .int (s_fc S_g), .int (s_fs S_g), .int (nI k_g), .int ((s_sc S_g) + (iabs (m_cells ((s_mo S_g) (j_g.toNatClampNeg))))), .int (s_sf S_g)])), ((a 2), .inl (cI, 800, .inl (s_fo S_g))), ((a 3), .inl (cI, 800, .inl (s_or S_g))), ((a 4), .inl (cI, 800, .inl (s_mo S_g))), ((a 5), .inl (cI, 2048, .inl (s_sl S_g))), ((a 6), .inr (1, [.ref (a 7), .ref (a 8), .ref (a 9), .ref (a 10), .int (nI (y_n Y)), .long (y_rp Y)])), ((a 7), .inl (cI, 9, .inl (y_sz Y))), ((a 8), .inl (cZ, 9, .inl (y_ac Y))), ((a 9), .inl (cI, 9, .inl (y_li Y))), ((a 10), .inl (cJ, 9, .inr (.inl (y_sh Y))))] H := hP
              have hD : va_D A [((a 1), .inr (0, [.ref (a 6), .ref (a 2), .ref (a 3), .ref (a 4), .ref (a 5), .int (s_fc S_g), .int (s_fs S_g), .int (nI k_g), .int ((s_sc S_g) + (iabs (m_cells ((s_mo S_g) (j_g.toNatClampNeg))))), .int (s_sf S_g)])), ((a 2), .inl (cI, 800, .inl (s_fo S_g))), ((a 3), .inl (cI, 800, .inl (s_or S_g))), ((a 4), .inl (cI, 800, .inl (s_mo S_g))), ((a 5), .inl (cI, 2048, .inl (s_sl S_g))), ((a 6), .inr (1, [.ref (a 7), .ref (a 8), .ref (a 9), .ref (a 10), .int (nI (y_n Y)), .long (y_rp Y)])), ((a 7), .inl (cI, 9, .inl (y_sz Y))), ((a 8), .inl (cZ, 9, .inl (y_ac Y))), ((a 9), .inl (cI, 9, .inl (y_li Y))), ((a 10), .inl (cJ, 9, .inr (.inl (y_sh Y))))] := hD
              refine lv_aload_n hx hb dX0_traceWay_79 rfl (lv_at hl 0 rfl) ?_
              refine lv_aload_n hx hb dX0_traceWay_80 rfl (lv_at hl 0 rfl) ?_
              refine va_get (D := G) (ci := 0) (v := .ref (a 4)) (C := RX0) (T := TX0) (N := 10) hx hb hts in_X0_traceWay_0 hown hK hP 0 rfl rfl 3 (by decide) (hts (.fieldLink RX0 18 "RampJam$Search" "moveCodes" "[I") (by decide +kernel)) (fun _ h9 => h9) rfl dX0_traceWay_81 ?_
              refine lv_iload_n hx hb dX0_traceWay_84 rfl (lv_at hl 1 rfl) ?_
              refine va_iald hx hb hK hP 3 0 rfl rfl (s_isF_in (by assumption)) dX0_traceWay_85 ?_
              refine va_put (D := G) (ci := 0) (v := .int ((s_mo S_g) (j_g.toNatClampNeg))) (ty := .int) (C := RX0) (T := TX0) (N := 10) hx hb hts in_X0_traceWay_0 tyX0 tyX0_ok nmX0 hown hK hP hD hS 0 rfl rfl 9 (by decide) (hts (.fieldLink RX0 58 "RampJam$Search" "solvedFirstMove" "I") (by decide +kernel)) (fun _ h9 => h9) rfl (by decide +kernel) rfl rfl (Nat.le_of_ble_eq_true rfl) dX0_traceWay_86 (fun H locs hP hD hS => ?_)
              have hP : va_P G vwCl [((a 1), .inr (0, [.ref (a 6), .ref (a 2), .ref (a 3), .ref (a 4), .ref (a 5), .int (s_fc S_g), .int (s_fs S_g), .int (nI k_g), .int ((s_sc S_g) + (iabs (m_cells ((s_mo S_g) (j_g.toNatClampNeg))))), .int ((s_mo S_g) (j_g.toNatClampNeg))])), ((a 2), .inl (cI, 800, .inl (s_fo S_g))), ((a 3), .inl (cI, 800, .inl (s_or S_g))), ((a 4), .inl (cI, 800, .inl (s_mo S_g))), ((a 5), .inl (cI, 2048, .inl (s_sl S_g))), ((a 6), .inr (1, [.ref (a 7), .ref (a 8), .ref (a 9), .ref (a 10), .int (nI (y_n Y)), .long (y_rp Y)])), ((a 7), .inl (cI, 9, .inl (y_sz Y))), ((a 8), .inl (cZ, 9, .inl (y_ac Y))), ((a 9), .inl (cI, 9, .inl (y_li Y))), ((a 10), .inl (cJ, 9, .inr (.inl (y_sh Y))))] H := hP
              have hD : va_D A [((a 1), .inr (0, [.ref (a 6), .ref (a 2), .ref (a 3), .ref (a 4), .ref (a 5), .int (s_fc S_g), .int (s_fs S_g), .int (nI k_g), .int ((s_sc S_g) + (iabs (m_cells ((s_mo S_g) (j_g.toNatClampNeg))))), .int ((s_mo S_g) (j_g.toNatClampNeg))])), ((a 2), .inl (cI, 800, .inl (s_fo S_g))), ((a 3), .inl (cI, 800, .inl (s_or S_g))), ((a 4), .inl (cI, 800, .inl (s_mo S_g))), ((a 5), .inl (cI, 2048, .inl (s_sl S_g))), ((a 6), .inr (1, [.ref (a 7), .ref (a 8), .ref (a 9), .ref (a 10), .int (nI (y_n Y)), .long (y_rp Y)])), ((a 7), .inl (cI, 9, .inl (y_sz Y))), ((a 8), .inl (cZ, 9, .inl (y_ac Y))), ((a 9), .inl (cI, 9, .inl (y_li Y))), ((a 10), .inl (cJ, 9, .inr (.inl (y_sh Y))))] := hD
              refine lv_aload_n hx hb dX0_traceWay_89 rfl (lv_at hl 0 rfl) ?_
              refine va_get (D := G) (ci := 0) (v := .ref (a 3)) (C := RX0) (T := TX0) (N := 10) hx hb hts in_X0_traceWay_0 hown hK hP 0 rfl rfl 2 (by decide) (hts (.fieldLink RX0 15 "RampJam$Search" "origins" "[I") (by decide +kernel)) (fun _ h9 => h9) rfl dX0_traceWay_90 ?_
              refine lv_iload_n hx hb dX0_traceWay_93 rfl (lv_at hl 1 rfl) ?_
              refine va_iald hx hb hK hP 2 0 rfl rfl (s_isF_in (by assumption)) dX0_traceWay_94 ?_
              refine lv_istore_n (lv' := [(1, .int ((s_or S_g) (j_g.toNatClampNeg))), (0, .ref (a 1)), (2, .int (nI k_g))]) hx hb dX0_traceWay_95 rfl hl (by decide) rfl (fun ls hl => ?_)
              refine lv_iinc (v := (nI (k_g + 1))) (lv' := [(2, .int (nI (k_g + 1))), (1, .int ((s_or S_g) (j_g.toNatClampNeg))), (0, .ref (a 1))]) hx hb dX0_traceWay_96 hl (k := 2) rfl (nI_1 _) (by decide) rfl (fun ls hl => ?_)
              refine lv_goto (tgt := 34) hx hb dX0_traceWay_99 (by decide) ?_
              exact ih_34 (k_g + 1) ((s_or S_g) (j_g.toNatClampNeg)) ((s_fo S_g), (s_or S_g), (s_mo S_g), (s_sl S_g), (s_fc S_g), (s_fs S_g), (nI k_g), ((s_sc S_g) + (iabs (m_cells ((s_mo S_g) (j_g.toNatClampNeg))))), ((s_mo S_g) (j_g.toNatClampNeg))) (hlt) (by omega) (by rw [← hI, s_trL_in hlt, if_pos ⟨hj, hf⟩]) _ _ hP hD hS _ (lv_sub hl [2, 1, 0] rfl)
    exact cut_34 (800 + 1) 1 (s_fs S) ((s_fo S), (s_or S), (s_mo S), (s_sl S), (s_fc S), (s_fs S), (if s_fs S = -1 then -1 else 0), 0, (-1)) (by omega) (by omega) (rfl) _ _ hP hD hS _ (lv_sub hl [2, 1, 0] rfl)
  refine lv_aload_n hx hb dX0_traceWay_1 rfl (lv_at hl 0 rfl) ?_
  refine va_get (D := G) (ci := 0) (v := .int (s_fs S)) (C := RX0) (T := TX0) (N := 10) hx hb hts in_X0_traceWay_0 hown hK hP 0 rfl rfl 6 (by decide) (hts (.fieldLink RX0 38 "RampJam$Search" "firstSolved" "I") (by decide +kernel)) (fun _ h9 => h9) rfl dX0_traceWay_2 ?_
  refine lv_iconst (v := (-1)) hx hb dX0_traceWay_5 (by decide) ?_
  refine lv_icmp_ne (tgt := 13) hx hb dX0_traceWay_6 (by decide) (fun c_4 => ?_) (fun c_4 => ?_)
  · refine lv_iconst (v := 0) hx hb dX0_traceWay_13 (by decide) ?_
    exact cut_14 0 (by simp [c_4]) _ _ hP hD hS _ hl
  · refine lv_iconst (v := (-1)) hx hb dX0_traceWay_9 (by decide) ?_
    refine lv_goto (tgt := 14) hx hb dX0_traceWay_10 (by decide) ?_
    exact cut_14 (-1) (by simp [c_4]) _ _ hP hD hS _ hl

set_option maxHeartbeats 4000000 in
set_option maxRecDepth 100000 in
/-- Arrays.fill -/
theorem c_J7_fill_53178 (l : Launch) (G : va_G) (cI cZ cJ : ClassId) (a : Nat → Nat) (sz : Nat) (q_g : Nat) (N_g : Nat) (f_g : Nat → Int32) (v_g : Int32) (hN_g : N_g < 2147483648) : Met l yJ7_fill_53178 wsJ7_fill_53178 ({ frames := 0, cells := 0, slots := 0, locals := 0 }) (rw_Pc G [(cI, .int), (cZ, .boolean), (cJ, .long)] [(q_g, .inl (cI, N_g, .inl f_g))] sz [.ref q_g, .int v_g]) (rw_Qv (S := Nat → Int32) (fillF f_g N_g v_g) (fun u : Nat → Int32 => [(q_g, .inl (cI, N_g, .inl u))]) G [(q_g, .inl (cI, N_g, .inl f_g))] sz) 0 0 (va_A [(q_g, .inl (cI, N_g, .inl f_g))] sz) := by
  refine Met.ofW (cc := cJ7_fill_53178) (maxL := 4) (ret := none) (by decide) rfl ?_
  intro p e s m args below meth c s₁ B hml hv
  obtain ⟨rfl, hsz, hP, hK, hD0, hN⟩ := hv
  have hx := B.exec
  have hb := B.bytes
  have hr := B.returns
  have hts := atoms_spec (ws := wsJ7_fill_53178) B.pre
  have hown : s.vm.findClass RJ7 = some m.cls := findClass_of_methodNamed B.named
  have hlocks := B.notSynchronized
  subst hsz
  have hD0 : va_D (fun _ => True) [(q_g, .inl (cI, N_g, .inl f_g))] := hD0
  have hD := hD0.self (sz := s.heap.size)
  unfold rw_Qv
  generalize hAe : va_A [(q_g, .inl (cI, N_g, .inl f_g))] s.heap.size = A at hD ⊢
  have hA : ∀ q : Nat, s.heap.size ≤ q → A q := fun q h => by rw [← hAe]; exact Or.inr h
  have hS : va_S A s.heap s.heap [] := va_S.rf
  have hP : va_P G vwCl [(q_g, .inl (cI, N_g, .inl f_g))] s.heap := hP
  have hl := lv_entry ([.ref q_g, .int v_g]) (n := 4) (Nat.le_of_ble_eq_true rfl)
  rw [lg_entry_eq]
  generalize (lg_sl ([.ref q_g, .int v_g]) ++ List.replicate (4 - (lg_sl ([.ref q_g, .int v_g])).length) Slot.unset).toArray = ls at hl ⊢
  have hl : lv_has ls 4 [(0, .ref q_g), (1, .int v_g)] := hl
  refine lv_iconst (v := 0) hx hb dJ7_fill_53178_0 (by decide) ?_
  refine lv_istore_n (lv' := [(2, .int 0), (0, .ref q_g), (1, .int v_g)]) hx hb dJ7_fill_53178_1 rfl hl (by decide) rfl (fun ls hl => ?_)
  refine lv_aload_n hx hb dJ7_fill_53178_2 rfl (lv_at hl 1 rfl) ?_
  refine va_alen (v := nI N_g) hx hb hK hP 0 0 rfl rfl rfl dJ7_fill_53178_3 ?_
  refine lv_istore_n (lv' := [(3, .int (nI N_g)), (2, .int 0), (0, .ref q_g), (1, .int v_g)]) hx hb dJ7_fill_53178_4 rfl hl (by decide) rfl (fun ls hl => ?_)
  have cut_5 : ∀ (d : Nat) (k_g : Nat), k_g ≤ N_g → N_g + 1 ≤ k_g + d → ∀ (H : Heap) (locs : List Loc), va_P G vwCl [(q_g, .inl (cI, N_g, .inl (fillF f_g k_g v_g)))] H → va_D A [(q_g, .inl (cI, N_g, .inl (fillF f_g k_g v_g)))] → va_S A s.heap H locs → ∀ (ls : Array Slot), lv_has ls 4 [(0, .ref q_g), (1, .int v_g), (2, .int (nI k_g)), (3, .int (nI N_g))] → W p l e (headSpec wsJ7_fill_53178 ({ frames := 0, cells := 0, slots := 0, locals := 0 })).room s m ([.ref q_g, .int v_g] : List Value).toArray below meth c H locs 0 0 (MQ below (va_Qv (fun u : Nat → Int32 => u = (fillF f_g N_g v_g)) (fun (u : Nat → Int32) (t : State) => va_P G vwCl ((fun u : Nat → Int32 => [(q_g, .inl (cI, N_g, .inl u))]) u) t.heap ∧ va_D A ((fun u : Nat → Int32 => [(q_g, .inl (cI, N_g, .inl u))]) u)) A) ([.ref q_g, .int v_g] : List Value).toArray s 0 0 A) (F0 m 5 ls []) := by
    intro d
    induction d with
    | zero =>
      intro k_g hk_5 hd_5
      exact absurd hd_5 (by omega)
    | succ d ih_5 =>
      intro k_g hk_5 hd_5  H locs hP hD hS ls hl
      refine lv_iload_n hx hb dJ7_fill_53178_5 rfl (lv_at hl 2 rfl) ?_
      refine lv_iload_n hx hb dJ7_fill_53178_6 rfl (lv_at hl 3 rfl) ?_
      refine lv_icmp_ge (tgt := 20) hx hb dJ7_fill_53178_7 (by decide) (fun c_1 => ?_) (fun c_1 => ?_)
      · have hkn : k_g = N_g := Nat.le_antisymm hk_5 (nx_ge (by omega) (by omega) c_1)
        have hP9 := hP
        have hD9 := hD
        exact W.vret hx hb hr (fun t ht hW => ⟨⟨(fillF f_g k_g v_g), rfl, by rw [hkn], by rw [ht]; exact hP9, hD9⟩, hS.F ht⟩) hS.2.2 dJ7_fill_53178_20
      · have hlt : k_g < N_g := nx_lt (by omega) (by omega) c_1
        refine lv_aload_n hx hb dJ7_fill_53178_10 rfl (lv_at hl 0 rfl) ?_
        refine lv_iload_n hx hb dJ7_fill_53178_11 rfl (lv_at hl 2 rfl) ?_
        refine lv_iload_n hx hb dJ7_fill_53178_12 rfl (lv_at hl 1 rfl) ?_
        refine va_iast hx hb hK hP hD hS 0 0 rfl rfl (vp_in_nI (by omega) (by omega)) dJ7_fill_53178_13 (fun H locs hP hD hS => ?_)
        rw [show (nI k_g).toNatClampNeg = k_g from nI_clamp (by omega)] at hP hD
        have hP : va_P G vwCl [(q_g, .inl (cI, N_g, .inl (upd (fillF f_g k_g v_g) k_g v_g)))] H := hP
        have hD : va_D A [(q_g, .inl (cI, N_g, .inl (upd (fillF f_g k_g v_g) k_g v_g)))] := hD
        refine lv_iinc (v := (nI (k_g + 1))) (lv' := [(2, .int (nI (k_g + 1))), (0, .ref q_g), (1, .int v_g), (3, .int (nI N_g))]) hx hb dJ7_fill_53178_14 hl (k := 2) rfl (nI_1 _) (by decide) rfl (fun ls hl => ?_)
        refine lv_goto (tgt := 5) hx hb dJ7_fill_53178_17 (by decide) ?_
        rw [fillF_succ] at hP hD
        exact ih_5 (k_g + 1) (hlt) (by omega) _ _ hP hD hS _ (lv_sub hl [1, 2, 0, 3] rfl)
  rw [← fillF_0 f_g v_g] at hP hD
  exact cut_5 (N_g + 1) 0 (Nat.zero_le _) (by omega) _ _ hP hD hS _ (lv_sub hl [2, 3, 1, 0] rfl)

theorem in_X0_lookFrom_0 : ∀ w ∈ wsX00, w ∈ wsX0_lookFrom := by decide +kernel
set_option maxHeartbeats 4000000 in
set_option maxRecDepth 100000 in
/-- Search.lookFrom -/
theorem c_X0_lookFrom (l : Launch) (G : va_G) (cI cZ cJ : ClassId) (a : Nat → Nat) (sz : Nat) (S : SS) (Y : YS) (x_g : Int32) (hn : y_n Y ≤ 9) : Met l yX0_lookFrom wsX0_lookFrom ({ frames := 4, cells := 0, slots := 0, locals := 102 }) (rw_Pc G [(cI, .int), (cZ, .boolean), (cJ, .long)] (wS cI cZ cJ a S Y) sz [.ref (a 1), .int x_g]) (rw_Qv (S := SS) (s_look Y S x_g) (fun u : SS => wS cI cZ cJ a u Y) G (wS cI cZ cJ a S Y) sz) 0 0 (va_A (wS cI cZ cJ a S Y) sz) := by
  refine Met.ofW (cc := cX0_lookFrom) (maxL := 3) (ret := none) (by decide) rfl ?_
  intro p e s m args below meth c s₁ B hml hv
  obtain ⟨rfl, hsz, hP, hK, hD0, hN⟩ := hv
  have hx := B.exec
  have hb := B.bytes
  have hr := B.returns
  have hts := atoms_spec (ws := wsX0_lookFrom) B.pre
  have hown : s.vm.findClass RX0 = some m.cls := findClass_of_methodNamed B.named
  have hlocks := B.notSynchronized
  subst hsz
  have hD0 : va_D (fun _ => True) [((a 1), .inr (0, [.ref (a 6), .ref (a 2), .ref (a 3), .ref (a 4), .ref (a 5), .int (s_fc S), .int (s_fs S), .int (s_sm S), .int (s_sc S), .int (s_sf S)])), ((a 2), .inl (cI, 800, .inl (s_fo S))), ((a 3), .inl (cI, 800, .inl (s_or S))), ((a 4), .inl (cI, 800, .inl (s_mo S))), ((a 5), .inl (cI, 2048, .inl (s_sl S))), ((a 6), .inr (1, [.ref (a 7), .ref (a 8), .ref (a 9), .ref (a 10), .int (nI (y_n Y)), .long (y_rp Y)])), ((a 7), .inl (cI, 9, .inl (y_sz Y))), ((a 8), .inl (cZ, 9, .inl (y_ac Y))), ((a 9), .inl (cI, 9, .inl (y_li Y))), ((a 10), .inl (cJ, 9, .inr (.inl (y_sh Y))))] := hD0
  have hD := hD0.self (sz := s.heap.size)
  unfold rw_Qv
  generalize hAe : va_A (wS cI cZ cJ a S Y) s.heap.size = A at hD ⊢
  have hA : ∀ q : Nat, s.heap.size ≤ q → A q := fun q h => by rw [← hAe]; exact Or.inr h
  have hS : va_S A s.heap s.heap [] := va_S.rf
  have hP : va_P G vwCl [((a 1), .inr (0, [.ref (a 6), .ref (a 2), .ref (a 3), .ref (a 4), .ref (a 5), .int (s_fc S), .int (s_fs S), .int (s_sm S), .int (s_sc S), .int (s_sf S)])), ((a 2), .inl (cI, 800, .inl (s_fo S))), ((a 3), .inl (cI, 800, .inl (s_or S))), ((a 4), .inl (cI, 800, .inl (s_mo S))), ((a 5), .inl (cI, 2048, .inl (s_sl S))), ((a 6), .inr (1, [.ref (a 7), .ref (a 8), .ref (a 9), .ref (a 10), .int (nI (y_n Y)), .long (y_rp Y)])), ((a 7), .inl (cI, 9, .inl (y_sz Y))), ((a 8), .inl (cZ, 9, .inl (y_ac Y))), ((a 9), .inl (cI, 9, .inl (y_li Y))), ((a 10), .inl (cJ, 9, .inr (.inl (y_sh Y))))] s.heap := hP
  have hl := lv_entry ([.ref (a 1), .int x_g]) (n := 3) (Nat.le_of_ble_eq_true rfl)
  rw [lg_entry_eq]
  generalize (lg_sl ([.ref (a 1), .int x_g]) ++ List.replicate (3 - (lg_sl ([.ref (a 1), .int x_g])).length) Slot.unset).toArray = ls at hl ⊢
  have hl : lv_has ls 3 [(0, .ref (a 1)), (1, .int x_g)] := hl
  refine lv_aload_n hx hb dX0_lookFrom_0 rfl (lv_at hl 0 rfl) ?_
  refine va_get (D := G) (ci := 0) (v := .ref (a 5)) (C := RX0) (T := TX0) (N := 10) hx hb hts in_X0_lookFrom_0 hown hK hP 0 rfl rfl 4 (by decide) (hts (.fieldLink RX0 21 "RampJam$Search" "slots" "[I") (by decide +kernel)) (fun _ h9 => h9) rfl dX0_lookFrom_1 ?_
  refine lv_iconst (v := 0) hx hb dX0_lookFrom_4 (by decide) ?_
  have hPc := hP.sub (ws' := [((a 5), .inl (cI, 2048, .inl (s_sl S)))]) [4] rfl
  have hDc := hD.sub (ws' := [((a 5), .inl (cI, 2048, .inl (s_sl S)))]) [4] (by decide) rfl
  refine rw_v (wr := [((a 1), .inr (0, [.ref (a 6), .ref (a 2), .ref (a 3), .ref (a 4), .ref (a 5), .int (s_fc S), .int (s_fs S), .int (s_sm S), .int (s_sc S), .int (s_sf S)])), ((a 2), .inl (cI, 800, .inl (s_fo S))), ((a 3), .inl (cI, 800, .inl (s_or S))), ((a 4), .inl (cI, 800, .inl (s_mo S))), ((a 6), .inr (1, [.ref (a 7), .ref (a 8), .ref (a 9), .ref (a 10), .int (nI (y_n Y)), .long (y_rp Y)])), ((a 7), .inl (cI, 9, .inl (y_sz Y))), ((a 8), .inl (cZ, 9, .inl (y_ac Y))), ((a 9), .inl (cI, 9, .inl (y_li Y))), ((a 10), .inl (cJ, 9, .inr (.inl (y_sh Y))))]) (ws' := [((a 1), .inr (0, [.ref (a 6), .ref (a 2), .ref (a 3), .ref (a 4), .ref (a 5), .int (s_fc S), .int (s_fs S), .int (s_sm S), .int (s_sc S), .int (s_sf S)])), ((a 2), .inl (cI, 800, .inl (s_fo S))), ((a 3), .inl (cI, 800, .inl (s_or S))), ((a 4), .inl (cI, 800, .inl (s_mo S))), ((a 5), .inl (cI, 2048, .inl (fillF (s_sl S) 2048 0))), ((a 6), .inr (1, [.ref (a 7), .ref (a 8), .ref (a 9), .ref (a 10), .int (nI (y_n Y)), .long (y_rp Y)])), ((a 7), .inl (cI, 9, .inl (y_sz Y))), ((a 8), .inl (cZ, 9, .inl (y_ac Y))), ((a 9), .inl (cI, 9, .inl (y_li Y))), ((a 10), .inl (cJ, 9, .inr (.inl (y_sh Y))))]) (va_runS (As := [.ref (a 5), .int 0]) (rest := []) ⟨hx, hb, hml, hown, hts⟩ ((c_J7_fill_53178 l G cI cZ cJ a _ (a 5) 2048 (s_sl S) 0 (by decide))) (va_cwS 2 hts gX0_lookFrom_J7_fill_53178 rfl rfl rfl (by decide +kernel) ⟨Nat.le_of_ble_eq_true rfl, Nat.le_of_ble_eq_true rfl⟩) ⟨rw_blind, rw_pre hPc hDc hK hN⟩ rfl rfl hl.1 rfl (lv_room (Nat.le_of_ble_eq_true rfl)) dX0_lookFrom_5 ⟨Nat.zero_le _, Nat.zero_le _⟩) hS hA hP hD [4] [0, 1, 2, 3, 5, 6, 7, 8, 9] [0, 1, 2, 3, 9, 4, 5, 6, 7, 8] rfl rfl (by decide) (by decide) rfl (by decide) (fun H locs hP hD hS => ?_)
  refine lv_aload_n hx hb dX0_lookFrom_8 rfl (lv_at hl 0 rfl) ?_
  refine lv_iconst (v := 0) hx hb dX0_lookFrom_9 (by decide) ?_
  refine va_put (D := G) (ci := 0) (v := .int 0) (ty := .int) (C := RX0) (T := TX0) (N := 10) hx hb hts in_X0_lookFrom_0 tyX0 tyX0_ok nmX0 hown hK hP hD hS 0 rfl rfl 5 (by decide) (hts (.fieldLink RX0 28 "RampJam$Search" "foundCount" "I") (by decide +kernel)) (fun _ h9 => h9) rfl (by decide +kernel) rfl rfl (Nat.le_of_ble_eq_true rfl) dX0_lookFrom_10 (fun H locs hP hD hS => ?_)
  have hP : va_P G vwCl [((a 1), .inr (0, [.ref (a 6), .ref (a 2), .ref (a 3), .ref (a 4), .ref (a 5), .int 0, .int (s_fs S), .int (s_sm S), .int (s_sc S), .int (s_sf S)])), ((a 2), .inl (cI, 800, .inl (s_fo S))), ((a 3), .inl (cI, 800, .inl (s_or S))), ((a 4), .inl (cI, 800, .inl (s_mo S))), ((a 5), .inl (cI, 2048, .inl (fillF (s_sl S) 2048 0))), ((a 6), .inr (1, [.ref (a 7), .ref (a 8), .ref (a 9), .ref (a 10), .int (nI (y_n Y)), .long (y_rp Y)])), ((a 7), .inl (cI, 9, .inl (y_sz Y))), ((a 8), .inl (cZ, 9, .inl (y_ac Y))), ((a 9), .inl (cI, 9, .inl (y_li Y))), ((a 10), .inl (cJ, 9, .inr (.inl (y_sh Y))))] H := hP
  have hD : va_D A [((a 1), .inr (0, [.ref (a 6), .ref (a 2), .ref (a 3), .ref (a 4), .ref (a 5), .int 0, .int (s_fs S), .int (s_sm S), .int (s_sc S), .int (s_sf S)])), ((a 2), .inl (cI, 800, .inl (s_fo S))), ((a 3), .inl (cI, 800, .inl (s_or S))), ((a 4), .inl (cI, 800, .inl (s_mo S))), ((a 5), .inl (cI, 2048, .inl (fillF (s_sl S) 2048 0))), ((a 6), .inr (1, [.ref (a 7), .ref (a 8), .ref (a 9), .ref (a 10), .int (nI (y_n Y)), .long (y_rp Y)])), ((a 7), .inl (cI, 9, .inl (y_sz Y))), ((a 8), .inl (cZ, 9, .inl (y_ac Y))), ((a 9), .inl (cI, 9, .inl (y_li Y))), ((a 10), .inl (cJ, 9, .inr (.inl (y_sh Y))))] := hD
  refine lv_aload_n hx hb dX0_lookFrom_13 rfl (lv_at hl 0 rfl) ?_
  refine lv_iconst (v := (-1)) hx hb dX0_lookFrom_14 (by decide) ?_
  refine va_put (D := G) (ci := 0) (v := .int (-1)) (ty := .int) (C := RX0) (T := TX0) (N := 10) hx hb hts in_X0_lookFrom_0 tyX0 tyX0_ok nmX0 hown hK hP hD hS 0 rfl rfl 6 (by decide) (hts (.fieldLink RX0 38 "RampJam$Search" "firstSolved" "I") (by decide +kernel)) (fun _ h9 => h9) rfl (by decide +kernel) rfl rfl (Nat.le_of_ble_eq_true rfl) dX0_lookFrom_15 (fun H locs hP hD hS => ?_)
  have hP : va_P G vwCl [((a 1), .inr (0, [.ref (a 6), .ref (a 2), .ref (a 3), .ref (a 4), .ref (a 5), .int 0, .int (-1), .int (s_sm S), .int (s_sc S), .int (s_sf S)])), ((a 2), .inl (cI, 800, .inl (s_fo S))), ((a 3), .inl (cI, 800, .inl (s_or S))), ((a 4), .inl (cI, 800, .inl (s_mo S))), ((a 5), .inl (cI, 2048, .inl (fillF (s_sl S) 2048 0))), ((a 6), .inr (1, [.ref (a 7), .ref (a 8), .ref (a 9), .ref (a 10), .int (nI (y_n Y)), .long (y_rp Y)])), ((a 7), .inl (cI, 9, .inl (y_sz Y))), ((a 8), .inl (cZ, 9, .inl (y_ac Y))), ((a 9), .inl (cI, 9, .inl (y_li Y))), ((a 10), .inl (cJ, 9, .inr (.inl (y_sh Y))))] H := hP
  have hD : va_D A [((a 1), .inr (0, [.ref (a 6), .ref (a 2), .ref (a 3), .ref (a 4), .ref (a 5), .int 0, .int (-1), .int (s_sm S), .int (s_sc S), .int (s_sf S)])), ((a 2), .inl (cI, 800, .inl (s_fo S))), ((a 3), .inl (cI, 800, .inl (s_or S))), ((a 4), .inl (cI, 800, .inl (s_mo S))), ((a 5), .inl (cI, 2048, .inl (fillF (s_sl S) 2048 0))), ((a 6), .inr (1, [.ref (a 7), .ref (a 8), .ref (a 9), .ref (a 10), .int (nI (y_n Y)), .long (y_rp Y)])), ((a 7), .inl (cI, 9, .inl (y_sz Y))), ((a 8), .inl (cZ, 9, .inl (y_ac Y))), ((a 9), .inl (cI, 9, .inl (y_li Y))), ((a 10), .inl (cJ, 9, .inr (.inl (y_sh Y))))] := hD
  refine lv_aload_n hx hb dX0_lookFrom_18 rfl (lv_at hl 0 rfl) ?_
  refine lv_iload_n hx hb dX0_lookFrom_19 rfl (lv_at hl 1 rfl) ?_
  refine lv_iconst (v := 0) hx hb dX0_lookFrom_20 (by decide) ?_
  refine lv_iconst (v := 0) hx hb dX0_lookFrom_21 (by decide) ?_
  refine rw_v (wr := []) (ws' := [((a 1), .inr (0, [.ref (a 6), .ref (a 2), .ref (a 3), .ref (a 4), .ref (a 5), .int (s_fc (s_addN ((s_fo S), (s_or S), (s_mo S), (fillF (s_sl S) 2048 0), 0, (-1), (s_sm S), (s_sc S), (s_sf S)) x_g 0 0)), .int (s_fs (s_addN ((s_fo S), (s_or S), (s_mo S), (fillF (s_sl S) 2048 0), 0, (-1), (s_sm S), (s_sc S), (s_sf S)) x_g 0 0)), .int (s_sm (s_addN ((s_fo S), (s_or S), (s_mo S), (fillF (s_sl S) 2048 0), 0, (-1), (s_sm S), (s_sc S), (s_sf S)) x_g 0 0)), .int (s_sc (s_addN ((s_fo S), (s_or S), (s_mo S), (fillF (s_sl S) 2048 0), 0, (-1), (s_sm S), (s_sc S), (s_sf S)) x_g 0 0)), .int (s_sf (s_addN ((s_fo S), (s_or S), (s_mo S), (fillF (s_sl S) 2048 0), 0, (-1), (s_sm S), (s_sc S), (s_sf S)) x_g 0 0))])), ((a 2), .inl (cI, 800, .inl (s_fo (s_addN ((s_fo S), (s_or S), (s_mo S), (fillF (s_sl S) 2048 0), 0, (-1), (s_sm S), (s_sc S), (s_sf S)) x_g 0 0)))), ((a 3), .inl (cI, 800, .inl (s_or (s_addN ((s_fo S), (s_or S), (s_mo S), (fillF (s_sl S) 2048 0), 0, (-1), (s_sm S), (s_sc S), (s_sf S)) x_g 0 0)))), ((a 4), .inl (cI, 800, .inl (s_mo (s_addN ((s_fo S), (s_or S), (s_mo S), (fillF (s_sl S) 2048 0), 0, (-1), (s_sm S), (s_sc S), (s_sf S)) x_g 0 0)))), ((a 5), .inl (cI, 2048, .inl (s_sl (s_addN ((s_fo S), (s_or S), (s_mo S), (fillF (s_sl S) 2048 0), 0, (-1), (s_sm S), (s_sc S), (s_sf S)) x_g 0 0)))), ((a 6), .inr (1, [.ref (a 7), .ref (a 8), .ref (a 9), .ref (a 10), .int (nI (y_n Y)), .long (y_rp Y)])), ((a 7), .inl (cI, 9, .inl (y_sz Y))), ((a 8), .inl (cZ, 9, .inl (y_ac Y))), ((a 9), .inl (cI, 9, .inl (y_li Y))), ((a 10), .inl (cJ, 9, .inr (.inl (y_sh Y))))]) (va_runV (As := [.int x_g, .int 0, .int 0]) (rest := []) ⟨hx, hb, hml, hown, hts⟩ ((c_X0_addIfNew l G cI cZ cJ a _ ((s_fo S), (s_or S), (s_mo S), (fillF (s_sl S) 2048 0), 0, (-1), (s_sm S), (s_sc S), (s_sf S)) Y x_g 0 0)) (cwV 3 hts gX0_lookFrom_X0_addIfNew rfl rfl rfl (by decide +kernel) ⟨Nat.le_of_ble_eq_true rfl, Nat.le_of_ble_eq_true rfl⟩) ⟨rw_blind, va_recv hK hP (ci := 0) (q0 := 0) rfl rfl, rw_pre hP hD hK hN⟩ rfl rfl hl.1 rfl (lv_room (Nat.le_of_ble_eq_true rfl)) dX0_lookFrom_22 ⟨Nat.zero_le _, Nat.zero_le _⟩) hS hA hP hD [0, 1, 2, 3, 4, 5, 6, 7, 8, 9] [] [0, 1, 2, 3, 4, 5, 6, 7, 8, 9] rfl rfl (by decide) (by decide) rfl (by decide) (fun H locs hP hD hS => ?_)
  refine lv_iconst (v := 0) hx hb dX0_lookFrom_25 (by decide) ?_
  refine lv_istore_n (lv' := [(2, .int 0), (0, .ref (a 1)), (1, .int x_g)]) hx hb dX0_lookFrom_26 rfl hl (by decide) rfl (fun ls hl => ?_)
  have cut_27 : ∀ (d : Nat) (k_g : Nat) (S_g : SS), k_g ≤ 800 → 800 + 1 ≤ k_g + d → (s_lookL Y (800 - k_g) k_g S_g = s_lookL Y 800 0 (s_addN (s_new S) x_g 0 0)) → ∀ (H : Heap) (locs : List Loc), va_P G vwCl [((a 1), .inr (0, [.ref (a 6), .ref (a 2), .ref (a 3), .ref (a 4), .ref (a 5), .int (s_fc S_g), .int (s_fs S_g), .int (s_sm S_g), .int (s_sc S_g), .int (s_sf S_g)])), ((a 2), .inl (cI, 800, .inl (s_fo S_g))), ((a 3), .inl (cI, 800, .inl (s_or S_g))), ((a 4), .inl (cI, 800, .inl (s_mo S_g))), ((a 5), .inl (cI, 2048, .inl (s_sl S_g))), ((a 6), .inr (1, [.ref (a 7), .ref (a 8), .ref (a 9), .ref (a 10), .int (nI (y_n Y)), .long (y_rp Y)])), ((a 7), .inl (cI, 9, .inl (y_sz Y))), ((a 8), .inl (cZ, 9, .inl (y_ac Y))), ((a 9), .inl (cI, 9, .inl (y_li Y))), ((a 10), .inl (cJ, 9, .inr (.inl (y_sh Y))))] H → va_D A [((a 1), .inr (0, [.ref (a 6), .ref (a 2), .ref (a 3), .ref (a 4), .ref (a 5), .int (s_fc S_g), .int (s_fs S_g), .int (s_sm S_g), .int (s_sc S_g), .int (s_sf S_g)])), ((a 2), .inl (cI, 800, .inl (s_fo S_g))), ((a 3), .inl (cI, 800, .inl (s_or S_g))), ((a 4), .inl (cI, 800, .inl (s_mo S_g))), ((a 5), .inl (cI, 2048, .inl (s_sl S_g))), ((a 6), .inr (1, [.ref (a 7), .ref (a 8), .ref (a 9), .ref (a 10), .int (nI (y_n Y)), .long (y_rp Y)])), ((a 7), .inl (cI, 9, .inl (y_sz Y))), ((a 8), .inl (cZ, 9, .inl (y_ac Y))), ((a 9), .inl (cI, 9, .inl (y_li Y))), ((a 10), .inl (cJ, 9, .inr (.inl (y_sh Y))))] → va_S A s.heap H locs → ∀ (ls : Array Slot), lv_has ls 3 [(0, .ref (a 1)), (1, .int x_g), (2, .int (nI k_g))] → W p l e (headSpec wsX0_lookFrom ({ frames := 4, cells := 0, slots := 0, locals := 102 })).room s m ([.ref (a 1), .int x_g] : List Value).toArray below meth c H locs 0 0 (MQ below (va_Qv (fun u : SS => u = (s_look Y S x_g)) (fun (u : SS) (t : State) => va_P G vwCl ((fun u : SS => wS cI cZ cJ a u Y) u) t.heap ∧ va_D A ((fun u : SS => wS cI cZ cJ a u Y) u)) A) ([.ref (a 1), .int x_g] : List Value).toArray s 0 0 A) (F0 m 27 ls []) := by
    intro d
    induction d with
    | zero =>
      intro k_g S_g hk_27 hd_27
      exact absurd hd_27 (by omega)
    | succ d ih_27 =>
      intro k_g S_g hk_27 hd_27 hI H locs hP hD hS ls hl
      refine lv_iload_n hx hb dX0_lookFrom_27 rfl (lv_at hl 2 rfl) ?_
      refine lv_aload_n hx hb dX0_lookFrom_28 rfl (lv_at hl 0 rfl) ?_
      refine va_get (D := G) (ci := 0) (v := .int (s_fc S_g)) (C := RX0) (T := TX0) (N := 10) hx hb hts in_X0_lookFrom_0 hown hK hP 0 rfl rfl 5 (by decide) (hts (.fieldLink RX0 28 "RampJam$Search" "foundCount" "I") (by decide +kernel)) (fun _ h9 => h9) rfl dX0_lookFrom_29 ?_
      refine lv_icmp_ge (tgt := 56) hx hb dX0_lookFrom_32 (by decide) (fun c_1 => ?_) (fun c_1 => ?_)
      · have hres := s_lookL_out (Y := Y) (k := k_g) (fun h => h.1 c_1)
        refine lv_aload_n hx hb dX0_lookFrom_56 rfl (lv_at hl 0 rfl) ?_
        refine rw_v (wr := []) (ws' := [((a 1), .inr (0, [.ref (a 6), .ref (a 2), .ref (a 3), .ref (a 4), .ref (a 5), .int (s_fc (s_trace S_g)), .int (s_fs (s_trace S_g)), .int (s_sm (s_trace S_g)), .int (s_sc (s_trace S_g)), .int (s_sf (s_trace S_g))])), ((a 2), .inl (cI, 800, .inl (s_fo (s_trace S_g)))), ((a 3), .inl (cI, 800, .inl (s_or (s_trace S_g)))), ((a 4), .inl (cI, 800, .inl (s_mo (s_trace S_g)))), ((a 5), .inl (cI, 2048, .inl (s_sl (s_trace S_g)))), ((a 6), .inr (1, [.ref (a 7), .ref (a 8), .ref (a 9), .ref (a 10), .int (nI (y_n Y)), .long (y_rp Y)])), ((a 7), .inl (cI, 9, .inl (y_sz Y))), ((a 8), .inl (cZ, 9, .inl (y_ac Y))), ((a 9), .inl (cI, 9, .inl (y_li Y))), ((a 10), .inl (cJ, 9, .inr (.inl (y_sh Y))))]) (va_runV (As := []) (rest := []) ⟨hx, hb, hml, hown, hts⟩ ((c_X0_traceWay l G cI cZ cJ a _ S_g Y)) (cwV 0 hts gX0_lookFrom_X0_traceWay rfl rfl rfl (by decide +kernel) ⟨Nat.le_of_ble_eq_true rfl, Nat.le_of_ble_eq_true rfl⟩) ⟨rw_blind, va_recv hK hP (ci := 0) (q0 := 0) rfl rfl, rw_pre hP hD hK hN⟩ rfl rfl hl.1 rfl (lv_room (Nat.le_of_ble_eq_true rfl)) dX0_lookFrom_57 ⟨Nat.zero_le _, Nat.zero_le _⟩) hS hA hP hD [0, 1, 2, 3, 4, 5, 6, 7, 8, 9] [] [0, 1, 2, 3, 4, 5, 6, 7, 8, 9] rfl rfl (by decide) (by decide) rfl (by decide) (fun H locs hP hD hS => ?_)
        have hP9 := hP
        have hD9 := hD
        exact W.vret hx hb hr (fun t ht hW => ⟨⟨(s_trace S_g), rfl, by rw [s_look, ← hI, hres], by rw [ht]; exact hP9, hD9⟩, hS.F ht⟩) hS.2.2 dX0_lookFrom_60
      · have hc1 := c_1
        refine lv_aload_n hx hb dX0_lookFrom_35 rfl (lv_at hl 0 rfl) ?_
        refine va_get (D := G) (ci := 0) (v := .int (s_fc S_g)) (C := RX0) (T := TX0) (N := 10) hx hb hts in_X0_lookFrom_0 hown hK hP 0 rfl rfl 5 (by decide) (hts (.fieldLink RX0 28 "RampJam$Search" "foundCount" "I") (by decide +kernel)) (fun _ h9 => h9) rfl dX0_lookFrom_36 ?_
        refine lv_sipush (v := 800) hx hb dX0_lookFrom_39 (by decide) ?_
        refine lv_icmp_ge (tgt := 56) hx hb dX0_lookFrom_42 (by decide) (fun c_2 => ?_) (fun c_2 => ?_)
        · have hres := s_lookL_out (Y := Y) (k := k_g) (fun h => h.2 c_2)
          refine lv_aload_n hx hb dX0_lookFrom_56 rfl (lv_at hl 0 rfl) ?_
          refine rw_v (wr := []) (ws' := [((a 1), .inr (0, [.ref (a 6), .ref (a 2), .ref (a 3), .ref (a 4), .ref (a 5), .int (s_fc (s_trace S_g)), .int (s_fs (s_trace S_g)), .int (s_sm (s_trace S_g)), .int (s_sc (s_trace S_g)), .int (s_sf (s_trace S_g))])), ((a 2), .inl (cI, 800, .inl (s_fo (s_trace S_g)))), ((a 3), .inl (cI, 800, .inl (s_or (s_trace S_g)))), ((a 4), .inl (cI, 800, .inl (s_mo (s_trace S_g)))), ((a 5), .inl (cI, 2048, .inl (s_sl (s_trace S_g)))), ((a 6), .inr (1, [.ref (a 7), .ref (a 8), .ref (a 9), .ref (a 10), .int (nI (y_n Y)), .long (y_rp Y)])), ((a 7), .inl (cI, 9, .inl (y_sz Y))), ((a 8), .inl (cZ, 9, .inl (y_ac Y))), ((a 9), .inl (cI, 9, .inl (y_li Y))), ((a 10), .inl (cJ, 9, .inr (.inl (y_sh Y))))]) (va_runV (As := []) (rest := []) ⟨hx, hb, hml, hown, hts⟩ ((c_X0_traceWay l G cI cZ cJ a _ S_g Y)) (cwV 0 hts gX0_lookFrom_X0_traceWay rfl rfl rfl (by decide +kernel) ⟨Nat.le_of_ble_eq_true rfl, Nat.le_of_ble_eq_true rfl⟩) ⟨rw_blind, va_recv hK hP (ci := 0) (q0 := 0) rfl rfl, rw_pre hP hD hK hN⟩ rfl rfl hl.1 rfl (lv_room (Nat.le_of_ble_eq_true rfl)) dX0_lookFrom_57 ⟨Nat.zero_le _, Nat.zero_le _⟩) hS hA hP hD [0, 1, 2, 3, 4, 5, 6, 7, 8, 9] [] [0, 1, 2, 3, 4, 5, 6, 7, 8, 9] rfl rfl (by decide) (by decide) rfl (by decide) (fun H locs hP hD hS => ?_)
          have hP9 := hP
          have hD9 := hD
          exact W.vret hx hb hr (fun t ht hW => ⟨⟨(s_trace S_g), rfl, by rw [s_look, ← hI, hres], by rw [ht]; exact hP9, hD9⟩, hS.F ht⟩) hS.2.2 dX0_lookFrom_60
        · have hc2 := c_2
          have hlt : k_g < 800 := s_look_lt (by omega) hc1 hc2
          refine lv_aload_n hx hb dX0_lookFrom_45 rfl (lv_at hl 0 rfl) ?_
          refine lv_iload_n hx hb dX0_lookFrom_46 rfl (lv_at hl 2 rfl) ?_
          refine rw_v (wr := []) (ws' := [((a 1), .inr (0, [.ref (a 6), .ref (a 2), .ref (a 3), .ref (a 4), .ref (a 5), .int (s_fc (s_reach Y S_g (nI k_g))), .int (s_fs (s_reach Y S_g (nI k_g))), .int (s_sm (s_reach Y S_g (nI k_g))), .int (s_sc (s_reach Y S_g (nI k_g))), .int (s_sf (s_reach Y S_g (nI k_g)))])), ((a 2), .inl (cI, 800, .inl (s_fo (s_reach Y S_g (nI k_g))))), ((a 3), .inl (cI, 800, .inl (s_or (s_reach Y S_g (nI k_g))))), ((a 4), .inl (cI, 800, .inl (s_mo (s_reach Y S_g (nI k_g))))), ((a 5), .inl (cI, 2048, .inl (s_sl (s_reach Y S_g (nI k_g))))), ((a 6), .inr (1, [.ref (a 7), .ref (a 8), .ref (a 9), .ref (a 10), .int (nI (y_n Y)), .long (y_rp Y)])), ((a 7), .inl (cI, 9, .inl (y_sz Y))), ((a 8), .inl (cZ, 9, .inl (y_ac Y))), ((a 9), .inl (cI, 9, .inl (y_li Y))), ((a 10), .inl (cJ, 9, .inr (.inl (y_sh Y))))]) (va_runV (As := [.int (nI k_g)]) (rest := []) ⟨hx, hb, hml, hown, hts⟩ ((c_X0_addReachedFrom l G cI cZ cJ a _ S_g Y (nI k_g) hn)) (cwV 1 hts gX0_lookFrom_X0_addReachedFrom rfl rfl rfl (by decide +kernel) ⟨Nat.le_of_ble_eq_true rfl, Nat.le_of_ble_eq_true rfl⟩) ⟨rw_blind, va_recv hK hP (ci := 0) (q0 := 0) rfl rfl, rw_pre hP hD hK hN⟩ rfl rfl hl.1 rfl (lv_room (Nat.le_of_ble_eq_true rfl)) dX0_lookFrom_47 ⟨Nat.zero_le _, Nat.zero_le _⟩) hS hA hP hD [0, 1, 2, 3, 4, 5, 6, 7, 8, 9] [] [0, 1, 2, 3, 4, 5, 6, 7, 8, 9] rfl rfl (by decide) (by decide) rfl (by decide) (fun H locs hP hD hS => ?_)
          refine lv_iinc (v := (nI (k_g + 1))) (lv' := [(2, .int (nI (k_g + 1))), (0, .ref (a 1)), (1, .int x_g)]) hx hb dX0_lookFrom_50 hl (k := 2) rfl (nI_1 _) (by decide) rfl (fun ls hl => ?_)
          refine lv_goto (tgt := 27) hx hb dX0_lookFrom_53 (by decide) ?_
          exact ih_27 (k_g + 1) (s_reach Y S_g (nI k_g)) (hlt) (by omega) (by rw [← hI, s_lookL_in hlt, if_pos ⟨hc1, hc2⟩]) _ _ hP hD hS _ (lv_sub hl [1, 2, 0] rfl)
  exact cut_27 (800 + 1) 0 (s_addN ((s_fo S), (s_or S), (s_mo S), (fillF (s_sl S) 2048 0), 0, (-1), (s_sm S), (s_sc S), (s_sf S)) x_g 0 0) (Nat.zero_le _) (by omega) (rfl) _ _ hP hD hS _ (lv_sub hl [1, 2, 0] rfl)
end
section
/-! Throwing: what a method that may throw asks of its start beside its world, and what stands where it has thrown -/
def ex_names : List String := ["java/lang/RuntimeException", "java/lang/Exception"]
abbrev ex_A : String := "java/lang/IllegalArgumentException"
abbrev ex_S : String := "java/lang/IllegalStateException"
abbrev ex_I : String := "java/lang/IndexOutOfBoundsException"
def ex_strs : List (Nat × String) := [(31, "cells, row or column is out of range"), (36, "it would not stand within the yard"), (42, "the first vehicle is a car along the row 2"), (50, "no vehicle can be parked now"), (67, "it cannot stand on these cells"), (84, "row or column is out of range"), (86, "moves were made"), (100, "a lorry fills that cell"), (115, "no such vehicle"), (118, "cells is out of range"), (130, "it cannot go so far"), (168, "place is out of range")]
def ex_bad : List Cond := [.castable ex_A ex_A, .castable ex_S ex_S, .castable ex_I ex_I, .declares (Bundle.initS "java/lang/RuntimeException"), .declares (Bundle.initS "java/lang/Exception"), .declares (Bundle.initS Bundle.tN)]
/-- the text constants' addresses, and the classes' words -/
def ex_St (sa : Nat → Nat) (U : State) : Prop := (∀ q ∈ ex_strs, vk_R RX2 q.1 q.2 (sa q.1) U) ∧ ∀ w ∈ ex_bad, va_Nw w U
theorem ex_bad_tab : ∀ w ∈ ex_bad, w.onTables = true := by
  intro w hw
  simp only [ex_bad, List.mem_cons, List.not_mem_nil, or_false] at hw
  rcases hw with rfl | rfl | rfl | rfl | rfl | rfl <;> rfl
theorem ex_St.same {sa : Nat → Nat} {u U : State} (h : U.vm = u.vm) (q : ex_St sa u) : ex_St sa U := ⟨fun x hx => vk_R.same h (q.1 x hx), fun w hw => va_Nw.same (ex_bad_tab w hw) h.symm (q.2 w hw)⟩
theorem ex_St.warm {sa : Nat → Nat} {s U : State} (hW : s.WarmedH U.vm) (q : ex_St sa s) : ex_St sa U := by
  refine ⟨fun x hx => vk_R.warm hW (q.1 x hx), fun w hw => ?_⟩
  have h := q.2 w hw
  simp only [ex_bad, List.mem_cons, List.not_mem_nil, or_false] at hw
  rcases hw with rfl | rfl | rfl | rfl | rfl | rfl <;> first | exact va_Nw.warmC hW h | exact va_Nw.warmD hW h
theorem ex_get {sa : Nat → Nat} {U : State} {k i : Nat} {tx : String} (q : ex_St sa U) (h : ex_strs[k]? = some (i, tx)) : vk_R RX2 i tx (sa i) U := q.1 (i, tx) (List.mem_of_getElem? h)
theorem ex_words {sa : Nat → Nat} {s : State} {args : Array Value} (q : ex_St sa s) : ∀ w ∈ ex_bad, w.before args s = true := fun w hw => va_Nw.use (ex_bad_tab w hw) (q.2 w hw)
/-- the two static fields that Throwable's constructor reads -/
def ex_Z (A : Nat → Prop) (U : State) (H : Heap) : Prop := vx_Zq Bundle.tN "UNASSIGNED_STACK" Bundle.steD A U H ∧ vx_Zq Bundle.tN "SUPPRESSED_SENTINEL" Bundle.listD A U H
theorem ex_Z.moved {A : Nat → Prop} {u U : State} {H : Heap} (hvm : u.vm.Alike U.vm) (h : ex_Z A u H) : ex_Z A U H := ⟨vx_Zq.moved hvm h.1, vx_Zq.moved hvm h.2⟩
theorem ex_Z.kept {A : Nat → Prop} {U : State} {H H1 : Heap} (h : ex_Z A U H) (hq : ∀ a : Nat, a < H.size → ¬ A a → H1[a]? = H[a]?) : ex_Z A U H1 := ⟨vx_Zq.kept h.1 hq, vx_Zq.kept h.2 hq⟩
theorem ex_Z.narrow {A B : Nat → Prop} {U : State} {H : Heap} (h : ex_Z A U H) (hAB : ∀ q, B q → A q) : ex_Z B U H := ⟨vx_Zq.narrow h.1 hAB, vx_Zq.narrow h.2 hAB⟩
def xx_Pc (D : va_G) (tys : List (ClassId × FieldType)) (ws : va_W) (sz : Nat) (sa : Nat → Nat) (av : List Value) : Array Value → State → Prop := va_Pc av (fun U => U.heap.size = sz ∧ va_P D vwCl ws U.heap ∧ va_K D vwCl tys U ∧ va_D (fun _ => True) ws ∧ nx_Ok U ∧ ex_St sa U ∧ ex_Z (va_A ws sz) U U.heap)
theorem xx_blind {D : va_G} {tys : List (ClassId × FieldType)} {ws : va_W} {sz : Nat} {sa : Nat → Nat} {av : List Value} : FrameBlind (xx_Pc D tys ws sz sa av) := fun a U g mk q => by
  obtain ⟨q0, q1, qP, qK, qD, qN, qE, qZ⟩ := q
  exact ⟨q0, q1, qP, va_K.moved (u := U) (U := U.calling g mk a) (Vm.Alike.refl U.vm) qK, qD, nx_Ok.same (u := U) (U := U.calling g mk a) rfl qN, ex_St.same (u := U) (U := U.calling g mk a) rfl qE, ex_Z.moved (u := U) (U := U.calling g mk a) (Vm.Alike.refl U.vm) qZ⟩
theorem xx_pre {s : State} {H H0 : Heap} {D : va_G} {A : Nat → Prop} {tys : List (ClassId × FieldType)} {wc : va_W} {sa : Nat → Nat} {av : List Value} (hPc : va_P D vwCl wc H) (hDc : va_D A wc) (hK : va_K D vwCl tys s) (hN : nx_Ok s) (hE : ex_St sa s) (hZ : ex_Z A s H) (hF : ∀ q, va_A wc H.size q → A q) : ∀ U : State, U.heap = H → s.WarmedH U.vm → xx_Pc D tys wc H.size sa av av.toArray U := fun U hU hW => ⟨rfl, by rw [hU], by rw [hU]; exact hPc, va_K.moved hW.alike hK, hDc.weaken (fun _ _ _ _ => trivial), nx_Ok.warm hW hN, ex_St.warm hW hE, by rw [hU]; exact (hZ.narrow hF).moved hW.alike⟩
/-- it returned: ok says for which arguments it does -/
abbrev xx_Qi {S : Type} (ok : Prop) (g : Int32) (f : S) (w : S → va_W) (D : va_G) (ws0 : va_W) (sz : Nat) : Array Value → State → Outcome → State → Prop := va_Qi (fun (r : Int32) (u : S) => ok ∧ r = g ∧ u = f) (fun u t => va_P D vwCl (w u) t.heap ∧ va_D (va_A ws0 sz) (w u)) (va_A ws0 sz)
abbrev xx_Qv {S : Type} (ok : Prop) (f : S) (w : S → va_W) (D : va_G) (ws0 : va_W) (sz : Nat) : Array Value → State → Outcome → State → Prop := va_Qv (fun (u : S) => ok ∧ u = f) (fun u t => va_P D vwCl (w u) t.heap ∧ va_D (va_A ws0 sz) (w u)) (va_A ws0 sz)
/-- it threw: which exception by the arguments; its world is as it was -/
abbrev xx_X (P : String → Prop) (D : va_G) (ws0 : va_W) (A : Nat → Prop) : String → State → State → Prop := vx_X (fun _ : Unit => True) (fun E _ t => P E ∧ va_P D vwCl ws0 t.heap) A
theorem xx_x {s : State} {H : Heap} {D : va_G} {A : Nat → Prop} {ws : va_W} {locs : List Loc} {P : String → Prop} {E : String} (hP : va_P D vwCl ws H) (hS : va_S A s.heap H locs) (hp : P E) : ∀ t : State, s.vm.Alike t.vm → H.size ≤ t.heap.size → (∀ q : Nat, q < H.size → t.heap[q]? = H[q]?) → xx_X P D ws A E s t :=
  fun t _ hz hk => ⟨(), trivial, ⟨hp, va_P.kept hP (fun k q hq => hk q.1 (hP k q hq).lt)⟩, Nat.le_trans hS.1 hz, fun q h1 h2 => (hk q (Nat.lt_of_lt_of_le h1 hS.1)).trans (hS.2.1 q h1 h2)⟩
theorem ex_bA : ∀ w ∈ (vx_atS RX2 33 ex_A ex_names).filter (fun w => !goodWord w), w ∈ ex_bad := by decide +kernel
theorem ex_bS : ∀ w ∈ (vx_atS RX2 52 ex_S ex_names).filter (fun w => !goodWord w), w ∈ ex_bad := by decide +kernel
theorem ex_bI : ∀ w ∈ (vx_atS RX2 117 ex_I ex_names).filter (fun w => !goodWord w), w ∈ ex_bad := by decide +kernel
theorem ex_gA : ∀ w ∈ Cond.classLink RX2 29 ex_A :: Cond.initialized ex_A :: vx_atS RX2 33 ex_A ex_names, vx_ot w = true := by decide +kernel
theorem ex_gS : ∀ w ∈ Cond.classLink RX2 48 ex_S :: Cond.initialized ex_S :: vx_atS RX2 52 ex_S ex_names, vx_ot w = true := by decide +kernel
theorem ex_gI : ∀ w ∈ Cond.classLink RX2 113 ex_I :: Cond.initialized ex_I :: vx_atS RX2 117 ex_I ex_names, vx_ot w = true := by decide +kernel
theorem ex_fit : ∀ n ∈ ex_names, Bundle.fit n = true := by decide +kernel
/-! RampJam: its state, and what its methods answer -/
abbrev XS : Type := JS × SS × YS
abbrev x_J (X : XS) : JS := X.1
abbrev x_S (X : XS) : SS := X.2.1
abbrev x_Y (X : XS) : YS := X.2.2
def y_num (Y : YS) : Int32 := if y_n Y < 9 then nI (y_n Y) else -1
def j_way (X : XS) (v f : Int32) : Int32 := y_way (x_Y X) (j_po (x_J X)) (y_fil (x_Y X) (j_po (x_J X)) (y_n (x_Y X))) v (if f = 0 then -1 else 1)
def x_stand (X : XS) (p : Int32) : XS := ((j_pp (x_J X), p, j_mc (x_J X), j_dc (x_J X), 0), x_S X, x_Y X)
def x_move (X : XS) (v c : Int32) : XS := ((j_pp (x_J X), mv (j_po (x_J X)) v c, j_mc (x_J X) + 1, j_dc (x_J X) + iabs c, 0), x_S X, x_Y X)
def x_srch (X : XS) : XS := if j_is (x_J X) = 0 then ((j_pp (x_J X), j_po (x_J X), j_mc (x_J X), j_dc (x_J X), 1), s_look (x_Y X) (x_S X) (j_po (x_J X)), x_Y X) else X
def x_rest (X : XS) : XS := ((j_pp (x_J X), j_pp (x_J X), 0, 0, 0), x_S X, x_Y X)
def x_solv (Z : XS) : XS := if s_sm (x_S Z) ≤ 0 then Z else ((j_pp (x_J Z), s_pos (x_S Z), j_mc (x_J Z) + s_sm (x_S Z), j_dc (x_J Z) + s_sc (x_S Z), 0), x_S Z, x_Y Z)
theorem xs_ite2 (c : Prop) [Decidable c] (A B : XS) (C : YS) (h1 : A.2.2 = C) (h2 : B.2.2 = C) : (if c then A else B).2.2 = C := by
  by_cases hc : c
  · rw [if_pos hc]; exact h1
  · rw [if_neg hc]; exact h2
theorem xs_t3 {α β γ : Type} (x : α) (y : β) (z : γ) : (x, y, z).2.2 = z := rfl
theorem x_srch_Y (X : XS) : (x_srch X).2.2 = X.2.2 := xs_ite2 _ _ _ _ (xs_t3 _ _ _) rfl
def j_wo (c0 : Nat) : Nat → Int64
  | 0 => 0
  | k + 1 => j_wo c0 k ||| co 2 (nI (c0 + k))
def j_cnt (Y : YS) (x : Int32) (wo : Int64) : Nat → Int32
  | 0 => 0
  | k + 1 => if y_cel Y x (nI k) &&& wo = 0 then j_cnt Y x wo k else j_cnt Y x wo k + 1
theorem pl_ex (x v : Int32) : ∃ j : Nat, j < 8 ∧ pl x v = nI j := pk_andE _ (m := 7) 3 (by decide)
def pl_nat (x v : Int32) : Nat := (pl x v).toNatClampNeg
theorem pl_nI (x v : Int32) : pl_nat x v < 8 ∧ pl x v = nI (pl_nat x v) := by
  obtain ⟨j, h1, h2⟩ := pl_ex x v
  have h3 : pl_nat x v = j := by rw [pl_nat, h2]; exact nI_clamp (by omega)
  rw [h3]; exact ⟨h1, h2⟩
def j_itw (X : XS) : Int32 := j_cnt (x_Y X) (j_po (x_J X)) (j_wo (pl_nat (j_po (x_J X)) 0 + 2) (6 - (pl_nat (j_po (x_J X)) 0 + 2))) (y_n (x_Y X))
def p_line (a r q : Int32) : Int32 := if a = 0 then q else r
def p_plc (a r q : Int32) : Int32 := if a = 0 then r else q
def park_th (X : XS) (c a r q : Int32) : Nat :=
  if c < 2 ∨ 4 < c ∨ ¬ inY r q then 1
  else if ¬ p_plc a r q + c ≤ 6 then 1
  else if nI (y_n (x_Y X)) = 0 ∧ (¬ c = 2 ∨ a = 0 ∨ ¬ r = 2) then 1
  else if 0 < j_mc (x_J X) ∨ ¬ nI (y_n (x_Y X)) < 9 then 2
  else if ¬ cso a r q (min c.toNatClampNeg 4) &&& (y_fil (x_Y X) (j_po (x_J X)) (y_n (x_Y X)) ||| y_bar (x_Y X) c) = 0 then 2 else 0
def x_park (X : XS) (c a r q : Int32) : XS := ((mv (j_pp (x_J X)) (y_num (x_Y X)) (p_plc a r q), mv (j_pp (x_J X)) (y_num (x_Y X)) (p_plc a r q), j_mc (x_J X), j_dc (x_J X), 0), x_S X, y_add (x_Y X) c a (p_line a r q))
def ramp_th (X : XS) (r q : Int32) : Nat :=
  if ¬ inY r q then 1 else if ¬ j_mc (x_J X) ≤ 0 then 2
  else if y_lor (x_Y X) (y_on (x_Y X) (j_po (x_J X)) (co r q) (y_n (x_Y X)) 0) then 2 else 0
def x_ramp (X : XS) (r q : Int32) : XS := ((j_pp (x_J X), j_po (x_J X), j_mc (x_J X), j_dc (x_J X), 0), x_S X, y_put (x_Y X) (co r q))
def drive_th (X : XS) (v c : Int32) : Nat :=
  if ¬ y_has (x_Y X) v then 1 else if c < -4 ∨ 4 < c ∨ c = 0 then 2
  else if ¬ iabs c ≤ j_way X v (if c ≤ 0 then 0 else 1) then 3 else 0
def has_th (X : XS) (v : Int32) : Nat := if y_has (x_Y X) v then 0 else 1
def x_dron (X : XS) (v f : Int32) : XS := if j_way X v f ≤ 0 then X else x_move X v (if f = 0 then -j_way X v f else j_way X v f)
def j_row (X : XS) (v : Int32) : Int32 := if y_acr (x_Y X) v then y_line (x_Y X) v else pl (j_po (x_J X)) v
def j_col (X : XS) (v : Int32) : Int32 := if y_acr (x_Y X) v then pl (j_po (x_J X)) v else y_line (x_Y X) v
def at_th (r q : Int32) : Nat := if inY r q then 0 else 1
def reach_th (X : XS) (v p : Int32) : Nat := if ¬ y_has (x_Y X) v then 1 else if p < 0 ∨ ¬ p < 6 then 2 else 0
theorem s_fat_z (S : SS) (v p : Int32) : ∀ (d k : Nat), narrow .boolean (.int (s_fat S v p d k)) = .int (s_fat S v p d k)
  | 0, _ => by
    rw [s_fat]; rfl
  | d + 1, k => by
    rw [s_fat]
    split
    · split
      · rfl
      · exact s_fat_z S v p d (k + 1)
    · rfl
end
section
/-- a row of naturals as the machine holds it -/
def fN (f : Nat → Nat) : Nat → Int32 := fun j => nI (f j)
def updN (f : Nat → Nat) (k x : Nat) : Nat → Nat := fun j => if j = k then x else f j
theorem updN_s {f : Nat → Nat} {k x : Nat} : updN f k x k = x := by simp [updN]
theorem updN_n {f : Nat → Nat} {k x j : Nat} (h : j ≠ k) : updN f k x j = f j := by simp [updN, h]
theorem fN_upd {f : Nat → Nat} {k x : Nat} : upd (fN f) k (nI x) = fN (updN f k x) := by
  funext j
  by_cases h : j = k
  · subst h; rw [pk_us]; simp [fN, updN]
  · rw [pk_un h]; simp [fN, updN, h]
def fillN (f : Nat → Nat) (c : Nat) : Nat → Nat := fun j => if j < c then 0 else f j
theorem fillN_0 (f : Nat → Nat) : fillN f 0 = f := by funext j; simp [fillN]
theorem fillN_s {f : Nat → Nat} {k : Nat} : updN (fillN f k) k 0 = fillN f (k + 1) := by
  funext j
  simp only [updN, fillN]
  by_cases h : j = k
  · rw [if_pos h, if_pos (by omega)]
  · rw [if_neg h]
    by_cases h2 : j < k
    · rw [if_pos h2, if_pos (by omega)]
    · rw [if_neg h2, if_neg (by omega)]
def cpN (f g : Nat → Nat) (c : Nat) : Nat → Nat := fun j => if j < c then g j else f j
theorem cpN_0 (f g : Nat → Nat) : cpN f g 0 = f := by funext j; simp [cpN]
theorem cpN_s {f g : Nat → Nat} {k : Nat} : updN (cpN f g k) k (g k) = cpN f g (k + 1) := by
  funext j
  simp only [updN, cpN]
  by_cases h : j = k
  · subst h; rw [if_pos rfl, if_pos (by omega)]
  · rw [if_neg h]
    by_cases h2 : j < k
    · rw [if_pos h2, if_pos (by omega)]
    · rw [if_neg h2, if_neg (by omega)]
/-! The reference's state: cellsOf, isAcross, lineOf, place, parked, many, rampAt, moves, driven, thrown, yard, found, from, by, depth, slots, kept, foundMany, firstFree -/
abbrev MS : Type := (Nat → Nat) × (Nat → Nat) × (Nat → Nat) × (Nat → Nat) × (Nat → Nat) × (Nat) × (Int32) × (Int32) × (Int32) × (Int32) × (Nat → Nat) × (Nat → Nat) × (Nat → Int32) × (Nat → Nat) × (Nat → Nat) × (Nat → Nat) × (Nat → Nat) × (Nat) × (Int32)
abbrev m_sz (M : MS) : Nat → Nat := M.1
abbrev m_ac (M : MS) : Nat → Nat := M.2.1
abbrev m_li (M : MS) : Nat → Nat := M.2.2.1
abbrev m_pl (M : MS) : Nat → Nat := M.2.2.2.1
abbrev m_pk (M : MS) : Nat → Nat := M.2.2.2.2.1
abbrev m_n (M : MS) : Nat := M.2.2.2.2.2.1
abbrev m_rp (M : MS) : Int32 := M.2.2.2.2.2.2.1
abbrev m_mo (M : MS) : Int32 := M.2.2.2.2.2.2.2.1
abbrev m_dr (M : MS) : Int32 := M.2.2.2.2.2.2.2.2.1
abbrev m_th (M : MS) : Int32 := M.2.2.2.2.2.2.2.2.2.1
abbrev m_yd (M : MS) : Nat → Nat := M.2.2.2.2.2.2.2.2.2.2.1
abbrev m_fo (M : MS) : Nat → Nat := M.2.2.2.2.2.2.2.2.2.2.2.1
abbrev m_fr (M : MS) : Nat → Int32 := M.2.2.2.2.2.2.2.2.2.2.2.2.1
abbrev m_by (M : MS) : Nat → Nat := M.2.2.2.2.2.2.2.2.2.2.2.2.2.1
abbrev m_dp (M : MS) : Nat → Nat := M.2.2.2.2.2.2.2.2.2.2.2.2.2.2.1
abbrev m_sl (M : MS) : Nat → Nat := M.2.2.2.2.2.2.2.2.2.2.2.2.2.2.2.1
abbrev m_kp (M : MS) : Nat → Nat := M.2.2.2.2.2.2.2.2.2.2.2.2.2.2.2.2.1
abbrev m_fm (M : MS) : Nat := M.2.2.2.2.2.2.2.2.2.2.2.2.2.2.2.2.2.1
abbrev m_ff (M : MS) : Int32 := M.2.2.2.2.2.2.2.2.2.2.2.2.2.2.2.2.2.2
def m_wTh (M : MS) (x : Int32) : MS := (m_sz M, m_ac M, m_li M, m_pl M, m_pk M, m_n M, m_rp M, m_mo M, m_dr M, x, m_yd M, m_fo M, m_fr M, m_by M, m_dp M, m_sl M, m_kp M, m_fm M, m_ff M)
def m_wYd (M : MS) (f : Nat → Nat) : MS := (m_sz M, m_ac M, m_li M, m_pl M, m_pk M, m_n M, m_rp M, m_mo M, m_dr M, m_th M, f, m_fo M, m_fr M, m_by M, m_dp M, m_sl M, m_kp M, m_fm M, m_ff M)
def m_wPl (M : MS) (f : Nat → Nat) : MS := (m_sz M, m_ac M, m_li M, f, m_pk M, m_n M, m_rp M, m_mo M, m_dr M, m_th M, m_yd M, m_fo M, m_fr M, m_by M, m_dp M, m_sl M, m_kp M, m_fm M, m_ff M)
def m_wGo (M : MS) (f : Nat → Nat) (x y : Int32) : MS := (m_sz M, m_ac M, m_li M, f, m_pk M, m_n M, m_rp M, x, y, m_th M, m_yd M, m_fo M, m_fr M, m_by M, m_dp M, m_sl M, m_kp M, m_fm M, m_ff M)
def m_wTk (M : MS) (fo : Nat → Nat) (fr : Nat → Int32) (bz dp sl : Nat → Nat) (fm : Nat) (ff : Int32) : MS := (m_sz M, m_ac M, m_li M, m_pl M, m_pk M, m_n M, m_rp M, m_mo M, m_dr M, m_th M, m_yd M, fo, fr, bz, dp, sl, m_kp M, fm, ff)
def m_wSk (M : MS) (sl kp : Nat → Nat) : MS := (m_sz M, m_ac M, m_li M, m_pl M, m_pk M, m_n M, m_rp M, m_mo M, m_dr M, m_th M, m_yd M, m_fo M, m_fr M, m_by M, m_dp M, sl, kp, 0, -1)
def m_wRp (M : MS) (x : Int32) : MS := (m_sz M, m_ac M, m_li M, m_pl M, m_pk M, m_n M, x, m_mo M, m_dr M, m_th M, m_yd M, m_fo M, m_fr M, m_by M, m_dp M, m_sl M, m_kp M, m_fm M, m_ff M)
def m_wPk (M : MS) (c a q g : Nat) : MS := (updN (m_sz M) (m_n M) c, updN (m_ac M) (m_n M) a, updN (m_li M) (m_n M) q, updN (m_pl M) (m_n M) g, updN (m_pk M) (m_n M) g, m_n M + 1, m_rp M, m_mo M, m_dr M, m_th M, m_yd M, m_fo M, m_fr M, m_by M, m_dp M, m_sl M, m_kp M, m_fm M, m_ff M)
/-! what the reference's methods answer -/
theorem i_sub {x y : Int32} {a c : Int} (hx : x.toInt = a) (hy : y.toInt = c) (h1 : -1000000000 ≤ a) (h2 : a ≤ 1000000000) (h3 : -1000000000 ≤ c) (h4 : c ≤ 1000000000) : (x - y).toInt = a - c := by
  rw [Int32.toInt_sub, hx, hy]
  exact Int.bmod_eq_of_le (by omega) (by omega)
theorem i_add {x y : Int32} {a c : Int} (hx : x.toInt = a) (hy : y.toInt = c) (h1 : -1000000000 ≤ a) (h2 : a ≤ 1000000000) (h3 : -1000000000 ≤ c) (h4 : c ≤ 1000000000) : (x + y).toInt = a + c := by
  rw [Int32.toInt_add, hx, hy]
  exact Int.bmod_eq_of_le (by omega) (by omega)
theorem i_nn {x : Int32} (h : 0 ≤ x.toInt) : x = nI x.toNatClampNeg := by
  have h1 : x.toInt < 2147483648 := Int32.toInt_lt x
  apply Int32.toInt_inj.mp
  rw [cl_toNat, nI_toInt (by omega)]
  omega
def m_cl (a l g : Nat) : Nat := if a = 1 then 6 * l + g else 6 * g + l
theorem m_cl_lt {a l g : Nat} (hl : l < 6) (hg : g < 6) : m_cl a l g < 36 := by
  unfold m_cl; split <;> omega
def m_cli (a l g : Int32) : Int32 := if a = 1 then 6 * l + g else 6 * g + l
theorem m_cli_nI {a l g : Nat} (ha : a ≤ 1) : m_cli (nI a) (nI l) (nI g) = nI (m_cl a l g) := by
  have h6 : ∀ x y : Nat, (6 : Int32) * nI x + nI y = nI (6 * x + y) := fun x y => by
    rw [show (6 : Int32) * nI x = nI (6 * x) from pk_mul 6 x, nI_add]
  rcases (show a = 0 ∨ a = 1 by omega) with rfl | rfl
  · simp only [m_cli, m_cl]; rw [if_neg (by decide), if_neg (by decide), h6]
  · simp only [m_cli, m_cl]; rw [if_pos (by decide), if_pos trivial, h6]
abbrev inL (x : Int32) : Prop := ¬ x < 0 ∧ ¬ 6 ≤ x
theorem inL_ex {x : Int32} (h : inL x) : ∃ g : Nat, g < 6 ∧ x = nI g := by
  obtain ⟨j, h1, h2⟩ := vp_in_of (cl_in (n := 6) h.1 h.2 (by decide)) (by decide)
  exact ⟨j, h1, h2⟩
theorem m_cli_in {a l : Nat} {x : Int32} (ha : a ≤ 1) (hl : l < 6) (hx : inL x) : vp_in (m_cli (nI a) (nI l) x) 36 := by
  obtain ⟨g, hg, rfl⟩ := inL_ex hx
  rw [m_cli_nI ha]
  exact vp_in_nI (m_cl_lt hl hg) (by decide)
abbrev m_has (M : MS) (v : Int32) : Prop := ¬ v < 0 ∧ ¬ nI (m_n M) ≤ v
def m_ok (M : MS) : Prop := m_n M ≤ 9 ∧ (∀ v, v < m_n M → 2 ≤ m_sz M v ∧ m_sz M v ≤ 4 ∧ m_ac M v ≤ 1 ∧ m_li M v < 6 ∧ m_pl M v + m_sz M v ≤ 6 ∧ m_pk M v + m_sz M v ≤ 6) ∧ ∀ c, c < 36 → m_yd M c ≤ 9
theorem m_has_ex {M : MS} {v : Int32} (hok : m_ok M) (h : m_has M v) : ∃ j : Nat, j < m_n M ∧ v = nI j := by
  have h9 := hok.1
  obtain ⟨j, h1, h2⟩ := vp_in_of (cl_in h.1 h.2 (by omega)) (by omega)
  exact ⟨j, h1, h2⟩
def m_isv (M : MS) (v : Int32) : MS := m_wTh M (if m_has M v then 0 else 1)
def ly_k (a l p w : Nat) (f : Nat → Nat) : Nat → (Nat → Nat)
  | 0 => f
  | k + 1 => updN (ly_k a l p w f k) (m_cl a l (p + k)) w
def ly_v (M : MS) (f : Nat → Nat) : Nat → (Nat → Nat)
  | 0 => f
  | v + 1 => ly_k (m_ac M v) (m_li M v) (m_pl M v) (v + 1) (ly_v M f v) (m_sz M v)
def m_lay (M : MS) : MS := m_wYd M (ly_v M (fillN (m_yd M) 36) (m_n M))
abbrev m_opn (M : MS) (v : Nat) (x : Int32) : Prop := inL x ∧ m_yd M (m_cli (nI (m_ac M v)) (nI (m_li M v)) x).toNatClampNeg = 0 ∧ (m_sz M v = 2 ∨ ¬ m_cli (nI (m_ac M v)) (nI (m_li M v)) x = m_rp M)
def m_wya (M : MS) (v : Nat) (f : Int32) (k : Nat) : Int32 := if f = 0 then nI (m_pl M v) - 1 - nI k else nI (m_pl M v + m_sz M v + k)
theorem m_wya_lt {M : MS} {v k : Nat} {f : Int32} (hok : m_ok M) (hv : v < m_n M) (hk : k ≤ 7) (h : inL (m_wya M v f k)) : k < 7 := by
  obtain ⟨-, -, -, -, h5, -⟩ := hok.2.1 v hv
  have h0 : (0 : Int32).toInt = 0 := rfl
  have h6 : (6 : Int32).toInt = 6 := rfl
  have h1 : (1 : Int32).toInt = 1 := rfl
  obtain ⟨h2, h3⟩ := h
  rw [Int32.lt_iff_toInt_lt, h0] at h2
  rw [Int32.le_iff_toInt_le, h6] at h3
  unfold m_wya at h2 h3
  split at h2
  · have e1 : (nI (m_pl M v)).toInt = m_pl M v := nI_toInt (by omega)
    have e2 : (nI k).toInt = k := nI_toInt (by omega)
    have e3 := i_sub e1 h1 (by omega) (by omega) (by omega) (by omega)
    have e4 := i_sub e3 e2 (by omega) (by omega) (by omega) (by omega)
    rw [e4] at h2
    omega
  · next hf =>
    rw [if_neg hf] at h3
    have e1 : (nI (m_pl M v + m_sz M v + k)).toInt = (m_pl M v + m_sz M v + k : Nat) := nI_toInt (by omega)
    rw [e1] at h3
    omega
def m_wyL (M : MS) (v : Nat) (f : Int32) : Nat → Nat → Nat
  | 0, k => k
  | d + 1, k => if m_opn M v (m_wya M v f k) then m_wyL M v f d (k + 1) else k
theorem m_wyL_in {M : MS} {v k : Nat} {f : Int32} (h : k < 7) : m_wyL M v f (7 - k) k = if m_opn M v (m_wya M v f k) then m_wyL M v f (7 - (k + 1)) (k + 1) else k := by
  obtain ⟨d, hd⟩ : ∃ d, 7 - k = d + 1 := ⟨7 - k - 1, by omega⟩
  rw [hd, show 7 - (k + 1) = d by omega]; rfl
theorem m_wyL_out {M : MS} {v k : Nat} {f : Int32} (h : ¬ m_opn M v (m_wya M v f k)) : m_wyL M v f (7 - k) k = k := by
  cases hd : 7 - k with
  | zero => rfl
  | succ d => rw [m_wyL, if_neg h]
def m_wy (M : MS) (v : Nat) (f : Int32) : Nat := m_wyL M v f 7 0
abbrev m_free (M : MS) : Prop := 0 < m_n M ∧ m_pl M 0 = 4
def m_rst (M : MS) : MS := m_wGo (m_wTh M 0) (cpN (m_pl M) (m_pk M) (m_n M)) 0 0
def m_row (M : MS) (v : Int32) : Int32 := if m_has M v then (if m_ac M v.toNatClampNeg = 1 then nI (m_li M v.toNatClampNeg) else nI (m_pl M v.toNatClampNeg)) else 0
def m_col (M : MS) (v : Int32) : Int32 := if m_has M v then (if m_ac M v.toNatClampNeg = 1 then nI (m_pl M v.toNatClampNeg) else nI (m_li M v.toNatClampNeg)) else 0
theorem m_t01 {P : Prop} [Decidable P] (h : (if P then (0 : Int32) else 1) = 0) : P := by
  by_cases hp : P
  · exact hp
  · rw [if_neg hp] at h; exact absurd h (by decide)
theorem m_t10 {P : Prop} [Decidable P] (h : ¬ (if P then (0 : Int32) else 1) = 0) : ¬ P := fun hp => h (if_pos hp)
end
section
/-! The reference's board: what keeps it in order, and what its remaining methods on the board answer -/
theorem ly_k_le {a l p w B : Nat} {f : Nat → Nat} (hf : ∀ c, c < 36 → f c ≤ B) (hw : w ≤ B) : ∀ k c, c < 36 → ly_k a l p w f k c ≤ B
  | 0, c, hc => hf c hc
  | k + 1, c, hc => by
    show updN (ly_k a l p w f k) (m_cl a l (p + k)) w c ≤ B
    by_cases h : c = m_cl a l (p + k)
    · subst h; rw [updN_s]; exact hw
    · rw [updN_n h]; exact ly_k_le hf hw k c hc
theorem ly_v_le {M : MS} {B : Nat} {f : Nat → Nat} (hf : ∀ c, c < 36 → f c ≤ B) : ∀ v, v ≤ B → ∀ c, c < 36 → ly_v M f v c ≤ B
  | 0, _, c, hc => hf c hc
  | v + 1, hv, c, hc => ly_k_le (ly_v_le hf v (by omega)) hv _ c hc
theorem m_ok_lay {M : MS} (h : m_ok M) : m_ok (m_lay M) :=
  ⟨h.1, h.2.1, fun c hc => ly_v_le (fun c hc => by simp only [fillN]; rw [if_pos hc]; exact Nat.zero_le _) _ h.1 c hc⟩
theorem m_lay_le (M : MS) : ∀ c, c < 36 → m_yd (m_lay M) c ≤ m_n (m_lay M) := fun c hc => ly_v_le (B := m_n M) (fun c hc => by simp only [fillN]; rw [if_pos hc]; exact Nat.zero_le _) _ (Nat.le_refl _) c hc
theorem m_ok_wTh {M : MS} (x : Int32) (h : m_ok M) : m_ok (m_wTh M x) := h
theorem m_ok_isv {M : MS} (v : Int32) (h : m_ok M) : m_ok (m_isv M v) := h
theorem m_wyL_le {M : MS} {v : Nat} {f : Int32} {B : Nat} (h : ∀ k, m_opn M v (m_wya M v f k) → k < 7 → k + 1 ≤ B) : ∀ d k, k + d ≤ 7 → k ≤ B → m_wyL M v f d k ≤ B
  | 0, k, _, hk => hk
  | d + 1, k, hd, hk => by
    rw [m_wyL]
    by_cases hz : m_opn M v (m_wya M v f k)
    · rw [if_pos hz]; exact m_wyL_le h d (k + 1) (by omega) (h k hz (by omega))
    · rw [if_neg hz]; exact hk
theorem m_wy_back {M : MS} {v : Nat} (hok : m_ok M) (hv : v < m_n M) : m_wy M v 0 ≤ m_pl M v := by
  obtain ⟨-, -, -, -, h5, -⟩ := hok.2.1 v hv
  refine m_wyL_le (fun k hz hk => ?_) 7 0 (by omega) (Nat.zero_le _)
  have h0 : (0 : Int32).toInt = 0 := rfl
  have h1 : (1 : Int32).toInt = 1 := rfl
  have h2 := hz.1.1
  rw [Int32.lt_iff_toInt_lt, h0, m_wya, if_pos rfl] at h2
  have e1 : (nI (m_pl M v)).toInt = m_pl M v := nI_toInt (by omega)
  have e2 : (nI k).toInt = k := nI_toInt (by omega)
  have e3 := i_sub e1 h1 (by omega) (by omega) (by omega) (by omega)
  have e4 := i_sub e3 e2 (by omega) (by omega) (by omega) (by omega)
  rw [e4] at h2
  omega
theorem m_wy_fwd {M : MS} {v : Nat} {f : Int32} (hf : ¬ f = 0) (hok : m_ok M) (hv : v < m_n M) : m_pl M v + m_sz M v + m_wy M v f ≤ 6 := by
  obtain ⟨-, -, -, -, h5, -⟩ := hok.2.1 v hv
  have := m_wyL_le (M := M) (v := v) (f := f) (B := 6 - (m_pl M v + m_sz M v)) (fun k hz hk => ?_) 7 0 (by omega) (Nat.zero_le _)
  · rw [m_wy]; omega
  · have h6 : (6 : Int32).toInt = 6 := rfl
    have h3 := hz.1.2
    rw [Int32.le_iff_toInt_le, h6, m_wya, if_neg hf] at h3
    have e1 : (nI (m_pl M v + m_sz M v + k)).toInt = (m_pl M v + m_sz M v + k : Nat) := nI_toInt (by omega)
    rw [e1] at h3
    omega
def m_abs (c : Int32) : Int32 := if 0 ≤ c then c else -c
def m_tgt (M : MS) (v : Nat) (c : Int32) : Nat := (nI (m_pl M v) + c).toNatClampNeg
def m_go (M : MS) (v : Nat) (c : Int32) : MS := m_wGo M (updN (m_pl M) v (m_tgt M v c)) (m_mo M + 1) (m_dr M + m_abs c)
abbrev m_rng (c : Int32) : Prop := ¬ c < -4 ∧ ¬ 4 < c ∧ ¬ c = 0
def m_fw (c : Int32) : Int32 := if c ≤ 0 then 0 else 1
def m_dth (X : MS) (v : Nat) (c : Int32) : Int32 := if ¬ m_rng c then 2 else if ¬ m_abs c ≤ nI (m_wy X v (m_fw c)) then 3 else 0
theorem m_dth_ok {X : MS} {v : Nat} {c : Int32} (h : m_dth X v c = 0) : m_rng c ∧ m_abs c ≤ nI (m_wy X v (m_fw c)) := by
  unfold m_dth at h
  by_cases h1 : m_rng c
  · rw [if_neg (not_not_intro h1)] at h
    by_cases h2 : m_abs c ≤ nI (m_wy X v (m_fw c))
    · exact ⟨h1, h2⟩
    · rw [if_pos h2] at h; exact absurd h (by decide)
  · rw [if_pos h1] at h; exact absurd h (by decide)
/-- a number from -6 to 6 added to a place -/
theorem m_tgt_of {X : MS} {v : Nat} {c : Int32} {z : Int} (hz : c.toInt = z) (hp : m_pl X v ≤ 6) (h1 : -6 ≤ z) (h2 : z ≤ 6) (h3 : 0 ≤ (m_pl X v : Int) + z) : nI (m_pl X v) + c = nI (m_tgt X v c) ∧ (m_tgt X v c : Int) = (m_pl X v : Int) + z := by
  have e1 : (nI (m_pl X v)).toInt = m_pl X v := nI_toInt (by omega)
  have e2 := i_add e1 hz (by omega) (by omega) (by omega) (by omega)
  have e3 : m_tgt X v c = ((m_pl X v : Int) + z).toNat := by rw [m_tgt, cl_toNat, e2]
  refine ⟨i_nn (by rw [e2]; exact h3), ?_⟩
  rw [e3]; omega
theorem neg_toInt {c : Int32} {z : Int} (hz : c.toInt = z) (h1 : -1000 ≤ z) (h2 : z ≤ 1000) : (-c).toInt = -z := by
  rw [Int32.toInt_neg, hz]
  exact Int.bmod_eq_of_le (by omega) (by omega)
theorem m_tgt_ok {X : MS} {v : Nat} {c : Int32} (hok : m_ok X) (hv : v < m_n X) (h : m_dth X v c = 0) : nI (m_pl X v) + c = nI (m_tgt X v c) ∧ m_tgt X v c + m_sz X v ≤ 6 := by
  obtain ⟨b1_, b2_, b3_, b4_, b5_, b6_⟩ := hok.2.1 v hv
  obtain ⟨⟨h1, h2, h3⟩, h4⟩ := m_dth_ok h
  have k4 : (4 : Int32).toInt = 4 := rfl
  have k4' : (-4 : Int32).toInt = -4 := rfl
  have k0 : (0 : Int32).toInt = 0 := rfl
  obtain ⟨z, hz⟩ : ∃ z, z = c.toInt := ⟨_, rfl⟩
  rw [Int32.lt_iff_toInt_lt, k4', ← hz] at h1
  rw [Int32.lt_iff_toInt_lt, k4, ← hz] at h2
  have h3' : z ≠ 0 := fun q => h3 (Int32.toInt_inj.mp (by rw [← hz, q, k0]))
  unfold m_abs m_fw at h4
  by_cases hs : c ≤ 0
  · have hs' := hs
    rw [Int32.le_iff_toInt_le, k0, ← hz] at hs'
    have hn : ¬ 0 ≤ c := by rw [Int32.le_iff_toInt_le, k0, ← hz]; omega
    rw [if_neg hn, if_pos hs, Int32.le_iff_toInt_le, neg_toInt hz.symm (by omega) (by omega)] at h4
    have hb := m_wy_back hok hv
    rw [nI_toInt (by omega)] at h4
    have := m_tgt_of (X := X) (v := v) hz.symm (by omega) (by omega) (by omega) (by omega)
    exact ⟨this.1, by have := this.2; omega⟩
  · have hs' := hs
    rw [Int32.le_iff_toInt_le, k0, ← hz] at hs'
    have hn : 0 ≤ c := by rw [Int32.le_iff_toInt_le, k0, ← hz]; omega
    rw [if_pos hn, if_neg hs, Int32.le_iff_toInt_le, ← hz] at h4
    have hb := m_wy_fwd (f := 1) (by decide) hok hv
    rw [nI_toInt (by omega)] at h4
    have := m_tgt_of (X := X) (v := v) hz.symm (by omega) (by omega) (by omega) (by omega)
    exact ⟨this.1, by have := this.2; omega⟩
def m_drive (M : MS) (v c : Int32) : MS := if m_has M v then
    (if m_dth (m_lay (m_isv M v)) v.toNatClampNeg c = 0 then m_go (m_wTh (m_lay (m_isv M v)) 0) v.toNatClampNeg c else m_wTh (m_lay (m_isv M v)) (m_dth (m_lay (m_isv M v)) v.toNatClampNeg c))
  else m_isv M v
def m_dron (M : MS) (v f : Int32) : MS := if m_has M v then
    (if m_wy (m_lay (m_isv M v)) v.toNatClampNeg f = 0 then m_lay (m_isv M v) else m_go (m_lay (m_isv M v)) v.toNatClampNeg (if f = 0 then -nI (m_wy (m_lay (m_isv M v)) v.toNatClampNeg f) else nI (m_wy (m_lay (m_isv M v)) v.toNatClampNeg f)))
  else m_isv M v
def m_drw (M : MS) (v f : Int32) : Int32 := if m_has M v then nI (m_wy (m_lay (m_isv M v)) v.toNatClampNeg f) else 0
theorem m_tgt_dron {X : MS} {v : Nat} {f : Int32} (hok : m_ok X) (hv : v < m_n X) : nI (m_pl X v) + (if f = 0 then -nI (m_wy X v f) else nI (m_wy X v f)) = nI (m_tgt X v (if f = 0 then -nI (m_wy X v f) else nI (m_wy X v f))) ∧ m_tgt X v (if f = 0 then -nI (m_wy X v f) else nI (m_wy X v f)) + m_sz X v ≤ 6 := by
  obtain ⟨b1_, b2_, b3_, b4_, b5_, b6_⟩ := hok.2.1 v hv
  by_cases hf : f = 0
  · subst hf
    rw [if_pos rfl]
    have hb := m_wy_back hok hv
    have := m_tgt_of (X := X) (v := v) (neg_toInt (nI_toInt (n := m_wy X v 0) (by omega)) (by omega) (by omega)) (by omega) (by omega) (by omega) (by omega)
    exact ⟨this.1, by have := this.2; omega⟩
  · rw [if_neg hf]
    have hb := m_wy_fwd hf hok hv
    have := m_tgt_of (X := X) (v := v) (nI_toInt (n := m_wy X v f) (by omega)) (by omega) (by omega) (by omega) (by omega)
    exact ⟨this.1, by have := this.2; omega⟩
theorem m_rq_in {r q : Int32} (h : inL r ∧ inL q) : vp_in (6 * r + q) 36 := by
  obtain ⟨x, hx, rfl⟩ := inL_ex h.1
  obtain ⟨y, hy, rfl⟩ := inL_ex h.2
  rw [show (6 : Int32) * nI x = nI (6 * x) from pk_mul 6 x, nI_add]
  exact vp_in_nI (by omega) (by decide)
theorem vp_lt {x : Int32} {n : Nat} (h : vp_in x n) : x.toNatClampNeg < n := Nat.not_le.mp fun q => h (Or.inr q)
def m_at (X : MS) (r q : Int32) : Int32 := if inL r ∧ inL q then nI (m_yd X (6 * r + q).toNatClampNeg) - 1 else 0
def m_on (X : MS) (r q : Int32) : Nat := if inL r ∧ inL q then m_yd X (6 * r + q).toNatClampNeg else 0
theorem m_on_le {X : MS} {r q : Int32} (hok : m_ok X) : m_on X r q ≤ 9 := by
  unfold m_on
  split
  · next h => exact hok.2.2 _ (vp_lt (m_rq_in h))
  · exact Nat.zero_le _
theorem m_on_len (M : MS) (r q : Int32) : m_on (m_lay M) r q ≤ m_n (m_lay M) := by
  unfold m_on
  split
  · next h => exact m_lay_le M _ (vp_lt (m_rq_in h))
  · exact Nat.zero_le _
theorem b1_nar (P : Prop) [Decidable P] : narrow .boolean (.int (b1 P)) = .int (b1 P) := by
  by_cases h : P
  · rw [b1, if_pos h]; rfl
  · rw [b1, if_neg h]; rfl
theorem m_wy_le7 (M : MS) (v : Nat) (f : Int32) : m_wy M v f ≤ 7 := m_wyL_le (fun k _ hk => hk) 7 0 (by omega) (Nat.zero_le _)
def m_rth (X : MS) (r q : Int32) : Int32 := if ¬ (inL r ∧ inL q) then 1 else if 0 < m_mo X ∨ (0 < m_on X r q ∧ 2 < m_sz X (m_on X r q - 1)) then 2 else 0
def m_ramp (X : MS) (r q : Int32) : MS := m_wRp (m_wTh X (m_rth X r q)) (if m_rth X r q = 0 then 6 * r + q else m_rp X)
def m_fway (X : MS) (v f : Int32) : Int32 := if m_has X v then nI (m_wy (m_isv X v) v.toNatClampNeg f) else 0
abbrev itw_on (X : MS) (c : Nat) : Int32 := nI (m_yd X (12 + c))
abbrev itw_new (X : MS) (c : Nat) (sn : Int32) : Prop := 0 < m_yd X (12 + c) ∧ (sn >>> (itw_on X c &&& 31)) &&& 1 = 0
def itw (X : MS) : Nat → Nat → Int32 → Int32 → Int32
  | 0, _, _, n => n
  | d + 1, c, sn, n => itw X d (c + 1) (sn ||| (1 <<< (itw_on X c &&& 31))) (n + if itw_new X c sn then 1 else 0)
def itw_c0 (X : MS) : Nat := if m_n X = 0 then 6 else m_pl X 0 + 2
theorem itw_c0_le {X : MS} (hok : m_ok X) : itw_c0 X ≤ 9 := by
  unfold itw_c0
  split
  · omega
  · obtain ⟨b1_, b2_, b3_, b4_, b5_, b6_⟩ := hok.2.1 0 (by omega)
    omega
theorem itw_in {X : MS} {c : Nat} {sn n : Int32} (h : c < 6) : itw X (6 - c) c sn n = itw X (6 - (c + 1)) (c + 1) (sn ||| (1 <<< (itw_on X c &&& 31))) (n + if itw_new X c sn then 1 else 0) := by
  obtain ⟨d, hd⟩ : ∃ d, 6 - c = d + 1 := ⟨6 - c - 1, by omega⟩
  rw [hd, show 6 - (c + 1) = d by omega]; rfl
/-! park -/
def p_plcN (a : Int32) (r q : Nat) : Nat := if a = 0 then r else q
def p_linN (a : Int32) (r q : Nat) : Nat := if a = 0 then q else r
def p_ax (a : Int32) : Nat := if a = 0 then 0 else 1
theorem p_plc_nI (a : Int32) (r q : Nat) : p_plc a (nI r) (nI q) = nI (p_plcN a r q) := by
  unfold p_plc p_plcN; split <;> rfl
theorem p_lin_nI (a : Int32) (r q : Nat) : p_line a (nI r) (nI q) = nI (p_linN a r q) := by
  unfold p_line p_linN; split <;> rfl
abbrev pk_is (M : MS) (c a r q : Int32) : Prop := ¬ c < 2 ∧ ¬ 4 < c ∧ inL r ∧ inL q ∧ ¬ 6 < p_plc a r q + c ∧ (0 < m_n M ∨ (c = 2 ∧ ¬ a = 0 ∧ r = 2))
theorem pk_is_ex {M : MS} {c a r q : Int32} (h : pk_is M c a r q) : ∃ cn rn qn : Nat, 2 ≤ cn ∧ cn ≤ 4 ∧ rn < 6 ∧ qn < 6 ∧ p_plcN a rn qn + cn ≤ 6 ∧ c = nI cn ∧ r = nI rn ∧ q = nI qn := by
  obtain ⟨h1, h2, h3, h4, h5, -⟩ := h
  obtain ⟨rn, hr, rfl⟩ := inL_ex h3
  obtain ⟨qn, hq, rfl⟩ := inL_ex h4
  have k2 : (2 : Int32).toInt = 2 := rfl
  have k4 : (4 : Int32).toInt = 4 := rfl
  have k6 : (6 : Int32).toInt = 6 := rfl
  rw [Int32.lt_iff_toInt_lt, k2] at h1
  rw [Int32.lt_iff_toInt_lt, k4] at h2
  have hc : c = nI c.toNatClampNeg := i_nn (by omega)
  have hcn : (c.toNatClampNeg : Int) = c.toInt := by rw [cl_toNat]; omega
  have hp : p_plcN a rn qn < 6 := by unfold p_plcN; split <;> assumption
  refine ⟨c.toNatClampNeg, rn, qn, by omega, by omega, hr, hq, ?_, hc, rfl, rfl⟩
  rw [p_plc_nI, hc, nI_add, Int32.lt_iff_toInt_lt, k6, nI_toInt (by omega)] at h5
  omega
def pk_cell (a : Int32) (rn qn k : Nat) : Nat := m_cl (p_ax a) (p_linN a rn qn) (p_plcN a rn qn + k)
def pk_can (X : MS) (a : Int32) (cn rn qn : Nat) : Nat → Bool
  | 0 => decide (m_n X < 9 ∧ m_mo X = 0)
  | k + 1 => pk_can X a cn rn qn k && decide (m_yd X (pk_cell a rn qn k) = 0 ∧ (cn = 2 ∨ ¬ nI (pk_cell a rn qn k) = m_rp X))
def m_park (M : MS) (c a r q : Int32) : MS := if pk_is M c a r q then
    (if pk_can (m_lay (m_wTh M 0)) a c.toNatClampNeg r.toNatClampNeg q.toNatClampNeg c.toNatClampNeg = true then m_wPk (m_wTh (m_lay (m_wTh M 0)) 0) c.toNatClampNeg (p_ax a) (p_linN a r.toNatClampNeg q.toNatClampNeg) (p_plcN a r.toNatClampNeg q.toNatClampNeg) else m_wTh (m_lay (m_wTh M 0)) 2)
  else m_wTh M 1
def m_parkr (M : MS) (c a r q : Int32) : Int32 := if pk_is M c a r q then
    (if pk_can (m_lay (m_wTh M 0)) a c.toNatClampNeg r.toNatClampNeg q.toNatClampNeg c.toNatClampNeg = true then nI (m_n M) else 0) else 0
theorem p_ax_le (a : Int32) : p_ax a ≤ 1 := by
  unfold p_ax; split <;> omega
theorem p_linN_lt {a : Int32} {r q : Nat} (hr : r < 6) (hq : q < 6) : p_linN a r q < 6 := by
  unfold p_linN; split <;> assumption
theorem pk_can_9 {X : MS} {a : Int32} {cn rn qn : Nat} : ∀ k, pk_can X a cn rn qn k = true → m_n X < 9
  | 0, h => (of_decide_eq_true h).1
  | k + 1, h => pk_can_9 k (by rw [pk_can, Bool.and_eq_true] at h; exact h.1)
theorem pk_can_b {X : MS} {a : Int32} {cn rn qn k : Nat} {x : Int32} (h : (x = 1 ∧ pk_can X a cn rn qn k = true ∧ m_yd X (m_cl (p_ax a) (p_linN a rn qn) (p_plcN a rn qn + k)) = 0 ∧ (cn = 2 ∨ ¬ nI (m_cl (p_ax a) (p_linN a rn qn) (p_plcN a rn qn + k)) = m_rp X)) ∨ (x = 0 ∧ ¬ (pk_can X a cn rn qn k = true ∧ m_yd X (m_cl (p_ax a) (p_linN a rn qn) (p_plcN a rn qn + k)) = 0 ∧ (cn = 2 ∨ ¬ nI (m_cl (p_ax a) (p_linN a rn qn) (p_plcN a rn qn + k)) = m_rp X)))) : x = b1 (pk_can X a cn rn qn (k + 1) = true) := by
  have e : pk_can X a cn rn qn (k + 1) = true ↔ (pk_can X a cn rn qn k = true ∧ m_yd X (m_cl (p_ax a) (p_linN a rn qn) (p_plcN a rn qn + k)) = 0 ∧ (cn = 2 ∨ ¬ nI (m_cl (p_ax a) (p_linN a rn qn) (p_plcN a rn qn + k)) = m_rp X)) := by
    rw [pk_can, Bool.and_eq_true, decide_eq_true_iff]; exact Iff.rfl
  rcases h with ⟨rfl, h⟩ | ⟨rfl, h⟩
  · rw [b1, if_pos (e.mpr h)]
  · rw [b1, if_neg (fun q => h (e.mp q))]
end
section
/-! The reference's search: positions as numbers by 6, the table, what its methods answer -/
def dvN (p k : Nat) : Nat := p / 6 ^ k
theorem dvN_0 (p : Nat) : dvN p 0 = p := by simp [dvN]
theorem dvN_s (p k : Nat) : dvN p k / 6 = dvN p (k + 1) := by rw [dvN, dvN, Nat.div_div_eq_div_mul, Nat.pow_succ]
theorem dvN_le (p k : Nat) : dvN p k ≤ p := Nat.div_le_self _ _
def dgN (p v : Nat) : Nat := dvN p v % 6
theorem dgN_lt (p v : Nat) : dgN p v < 6 := Nat.mod_lt _ (by decide)
def ps : Nat → (Nat → Nat) → Nat
  | 0, _ => 0
  | n + 1, f => f 0 + 6 * ps n (fun i => f (i + 1))
theorem ps_ext : ∀ (n : Nat) {f g : Nat → Nat}, (∀ i, i < n → f i = g i) → ps n f = ps n g
  | 0, _, _, _ => rfl
  | n + 1, f, g, h => by
    rw [ps, ps, h 0 (by omega), ps_ext n (fun i hi => h (i + 1) (by omega))]
theorem ps_lt : ∀ (n : Nat) {f : Nat → Nat}, (∀ i, i < n → f i < 6) → ps n f < 6 ^ n
  | 0, _, _ => by simp [ps]
  | n + 1, f, h => by
    have h1 := ps_lt n (f := fun i => f (i + 1)) (fun i hi => h (i + 1) (by omega))
    have h2 := h 0 (by omega)
    rw [ps, Nat.pow_succ]; omega
theorem pow6_le {n : Nat} (h : n ≤ 9) : 6 ^ n ≤ 10077696 := by
  have : 6 ^ n ≤ 6 ^ 9 := Nat.pow_le_pow_right (by decide) h
  exact this
theorem dgN_0 (a x : Nat) (h : a < 6) : dgN (a + 6 * x) 0 = a := by rw [dgN, dvN_0]; omega
theorem dgN_s (a x v : Nat) (h : a < 6) : dgN (a + 6 * x) (v + 1) = dgN x v := by
  have : dvN (a + 6 * x) (v + 1) = dvN x v := by
    rw [dvN, dvN, Nat.pow_succ, Nat.mul_comm (6 ^ v) 6, ← Nat.div_div_eq_div_mul]
    congr 1; omega
  rw [dgN, dgN, this]
theorem ps_dg : ∀ (n : Nat) {f : Nat → Nat} {v : Nat}, (∀ i, i < n → f i < 6) → v < n → dgN (ps n f) v = f v
  | 0, _, _, _, h => absurd h (by omega)
  | n + 1, f, 0, h, _ => by rw [ps, dgN_0 _ _ (h 0 (by omega))]
  | n + 1, f, v + 1, h, hv => by
    rw [ps, dgN_s _ _ _ (h 0 (by omega))]
    exact ps_dg n (fun i hi => h (i + 1) (by omega)) (by omega)
def hrn (f : Nat → Nat) (n : Nat) : Nat → Nat
  | 0 => 0
  | k + 1 => 6 * hrn f n k + f (n - 1 - k)
theorem hrn_ps (f : Nat → Nat) (n : Nat) : ∀ k, k ≤ n → hrn f n k = ps k (fun i => f (n - k + i))
  | 0, _ => rfl
  | k + 1, h => by
    rw [hrn, ps, hrn_ps f n k (by omega), Nat.add_comm]
    congr 1
    · congr 1; omega
    · congr 1
      exact ps_ext k (fun i _ => by congr 1; omega)
def pnow (M : MS) : Nat := ps (m_n M) (m_pl M)
theorem hrn_pnow (M : MS) : hrn (m_pl M) (m_n M) (m_n M) = pnow M := by
  rw [hrn_ps _ _ _ (Nat.le_refl _), pnow]
  exact ps_ext _ (fun i _ => by congr 1; omega)
theorem pnow_lt {M : MS} (hok : m_ok M) : pnow M < 10077696 := by
  have h := ps_lt (m_n M) (f := m_pl M) (fun i hi => by obtain ⟨b1_, b2_, b3_, b4_, b5_, b6_⟩ := hok.2.1 i hi; omega)
  have := pow6_le hok.1
  rw [pnow]; omega
/-- how many of the first n places are taken -/
def cz (f : Nat → Nat) : Nat → Nat
  | 0 => 0
  | n + 1 => cz f n + (if f n = 0 then 0 else 1)
theorem cz_zero {f : Nat → Nat} : ∀ n, cz f n < n → ∃ j, j < n ∧ f j = 0
  | 0, h => absurd h (by omega)
  | n + 1, h => by
    by_cases h0 : f n = 0
    · exact ⟨n, by omega, h0⟩
    · rw [cz, if_neg h0] at h
      obtain ⟨j, h1, h2⟩ := cz_zero (f := f) n (by omega)
      exact ⟨j, by omega, h2⟩
theorem cz_upd {f : Nat → Nat} {k x : Nat} : ∀ n, cz (updN f k x) n ≤ cz f n + (if k < n then 1 else 0)
  | 0 => Nat.zero_le _
  | n + 1 => by
    have h := cz_upd (f := f) (k := k) (x := x) n
    rw [cz, cz]
    by_cases hk : k = n
    · subst hk
      rw [updN_s, if_pos (show k < k + 1 by omega)]
      rw [if_neg (by omega)] at h
      split <;> split <;> omega
    · rw [updN_n (fun q => hk q.symm)]
      by_cases h2 : k < n
      · rw [if_pos h2] at h; rw [if_pos (show k < n + 1 by omega)]; omega
      · rw [if_neg h2] at h; rw [if_neg (show ¬ k < n + 1 by omega)]; omega
/-- the table in order: what the machine needs of it -/
def tk_ok (M : MS) : Prop := m_fm M ≤ 800 ∧ (∀ j, j < 2048 → m_sl M j ≤ m_fm M) ∧ cz (m_sl M) 2048 ≤ m_fm M ∧ ∀ i, i < m_fm M → m_fo M i < 10077696
def tkL (M : MS) (p : Nat) : Nat → Nat → Nat
  | 0, s => s
  | d + 1, s => if ¬ m_sl M s = 0 ∧ ¬ m_fo M (m_sl M s - 1) = p then tkL M p d ((s + 1) % 2048) else s
theorem tkL_in {M : MS} {p k s : Nat} (h : k < 2048) : tkL M p (2048 - k) s = if ¬ m_sl M s = 0 ∧ ¬ m_fo M (m_sl M s - 1) = p then tkL M p (2048 - (k + 1)) ((s + 1) % 2048) else s := by
  obtain ⟨d, hd⟩ : ∃ d, 2048 - k = d + 1 := ⟨2048 - k - 1, by omega⟩
  rw [hd, show 2048 - (k + 1) = d by omega]; rfl
theorem tkL_out {M : MS} {p s : Nat} (h : ¬ (¬ m_sl M s = 0 ∧ ¬ m_fo M (m_sl M s - 1) = p)) : ∀ d, tkL M p d s = s
  | 0 => rfl
  | d + 1 => by rw [tkL, if_neg h]
theorem tk_lt {M : MS} {s0 k : Nat} (hT : tk_ok M) (hk : k ≤ 2048) (hv : ∀ i, i < k → ¬ m_sl M ((s0 + i) % 2048) = 0) : k < 2048 := by
  rcases Nat.lt_or_ge k 2048 with h | h
  · exact h
  · exfalso
    obtain ⟨j, h1, h2⟩ := cz_zero (f := m_sl M) 2048 (by have := hT.2.2.1; have := hT.1; omega)
    refine hv ((j + 2048 - s0 % 2048) % 2048) (by omega) ?_
    rw [show (s0 + (j + 2048 - s0 % 2048) % 2048) % 2048 = j by omega]
    exact h2
def tk_slot (M : MS) : Nat := tkL M (pnow M) 2048 (pnow M % 2048)
def tk_d (M : MS) (o : Int32) : Nat := if 0 ≤ o then m_dp M o.toNatClampNeg + 1 else 0
def tk_f (M : MS) : Int32 := if ¬ 0 ≤ m_ff M ∧ m_free M then nI (m_fm M) else m_ff M
def m_takes (M : MS) (o : Int32) (x : Nat) : MS := if m_sl M (tk_slot M) = 0 ∧ m_fm M < 800 then
  m_wTk M (updN (m_fo M) (m_fm M) (pnow M)) (upd (m_fr M) (m_fm M) o) (updN (m_by M) (m_fm M) x) (updN (m_dp M) (m_fm M) (tk_d M o)) (updN (m_sl M) (tk_slot M) (m_fm M + 1)) (m_fm M + 1) (tk_f M) else M
theorem tkL_lt {M : MS} {p : Nat} : ∀ d s, s < 2048 → tkL M p d s < 2048
  | 0, _, h => h
  | d + 1, s, h => by
    rw [tkL]; split
    · exact tkL_lt d _ (Nat.mod_lt _ (by decide))
    · exact h
theorem tk_slot_lt (M : MS) : tk_slot M < 2048 := tkL_lt _ _ (Nat.mod_lt _ (by decide))
theorem m_ok_takes {M : MS} {o : Int32} {x : Nat} (h : m_ok M) : m_ok (m_takes M o x) := by
  unfold m_takes; split
  · exact h
  · exact h
theorem m_takes_n (M : MS) (o : Int32) (x : Nat) : m_n (m_takes M o x) = m_n M := by
  unfold m_takes; split <;> rfl
theorem m_takes_sz (M : MS) (o : Int32) (x : Nat) : m_sz (m_takes M o x) = m_sz M := by
  unfold m_takes; split <;> rfl
theorem m_takes_pl (M : MS) (o : Int32) (x : Nat) : m_pl (m_takes M o x) = m_pl M := by
  unfold m_takes; split <;> rfl
theorem tk_ok_takes {M : MS} {o : Int32} {x : Nat} (hok : m_ok M) (hT : tk_ok M) : tk_ok (m_takes M o x) := by
  unfold m_takes
  split
  · next h =>
    obtain ⟨t1, t2, t3, t4⟩ := hT
    refine ⟨?_, ?_, ?_, ?_⟩
    · show m_fm M + 1 ≤ 800; omega
    · intro j hj
      show updN (m_sl M) (tk_slot M) (m_fm M + 1) j ≤ m_fm M + 1
      by_cases q : j = tk_slot M
      · subst q; rw [updN_s]; exact Nat.le_refl _
      · rw [updN_n q]; have := t2 j hj; omega
    · show cz (updN (m_sl M) (tk_slot M) (m_fm M + 1)) 2048 ≤ m_fm M + 1
      have := cz_upd (f := m_sl M) (k := tk_slot M) (x := m_fm M + 1) 2048
      rw [if_pos (tk_slot_lt M)] at this; omega
    · intro i hi
      show updN (m_fo M) (m_fm M) (pnow M) i < 10077696
      by_cases q : i = m_fm M
      · subst q; rw [updN_s]; exact pnow_lt hok
      · rw [updN_n q]; exact t4 i (by have : i < m_fm M + 1 := hi; omega)
  · exact hT
def stp (sg : Int32) (st k : Nat) : Nat := if sg = 1 then st + k else st - k
def cdN (v : Nat) (sg : Int32) (k : Nat) : Nat := if sg = 1 then 10 * v + k + 4 else 10 * v + 4 - k
theorem stp_nI {sg : Int32} {st k : Nat} (hsg : sg = 1 ∨ sg = -1) (hk : sg = -1 → k ≤ st) : nI st + sg * nI k = nI (stp sg st k) := by
  rcases hsg with rfl | rfl
  · rw [stp, if_pos rfl, Int32.one_mul, nI_add]
  · rw [stp, if_neg (by decide), Int32.neg_mul, Int32.one_mul, ← Int32.sub_eq_add_neg, pk_sub (hk rfl)]
theorem cdN_nI {sg : Int32} {v k : Nat} (hsg : sg = 1 ∨ sg = -1) (hk : k ≤ 4) : nI (10 * v) + sg * nI k + 4 = nI (cdN v sg k) := by
  rcases hsg with rfl | rfl
  · rw [cdN, if_pos rfl, Int32.one_mul, nI_add]; exact nI_add _ 4
  · rw [cdN, if_neg (by decide), Int32.neg_mul, Int32.one_mul, Int32.add_assoc, Int32.add_comm (-nI k), ← Int32.add_assoc, ← Int32.sub_eq_add_neg, show nI (10 * v) + 4 = nI (10 * v + 4) from nI_add _ 4, pk_sub (by omega)]
def trL (o v : Nat) (sg : Int32) (st most : Nat) : Nat → Nat → MS → MS
  | 0, _, S => S
  | d + 1, k, S => if k ≤ most then trL o v sg st most d (k + 1) (m_takes (m_wPl S (updN (m_pl S) v (stp sg st k))) (nI o) (cdN v sg k)) else S
theorem trL_in {o v st most k : Nat} {sg : Int32} {S : MS} (h : k ≤ 8) (hk : k ≤ most) : trL o v sg st most (9 - k) k S = trL o v sg st most (9 - (k + 1)) (k + 1) (m_takes (m_wPl S (updN (m_pl S) v (stp sg st k))) (nI o) (cdN v sg k)) := by
  obtain ⟨d, hd⟩ : ∃ d, 9 - k = d + 1 := ⟨9 - k - 1, by omega⟩
  rw [hd, show 9 - (k + 1) = d by omega, trL, if_pos hk]
theorem trL_out {o v st most k : Nat} {sg : Int32} {S : MS} (hk : ¬ k ≤ most) : ∀ d, trL o v sg st most d k S = S
  | 0 => rfl
  | d + 1 => by rw [trL, if_neg hk]
def m_tries (M : MS) (o v : Nat) (sg : Int32) : MS :=
  m_wPl (trL o v sg (m_pl M v) (m_wy M v (m_fw sg)) 8 1 M) (updN (m_pl (trL o v sg (m_pl M v) (m_wy M v (m_fw sg)) 8 1 M)) v (m_pl M v))
theorem m_tr_b {M : MS} {v k : Nat} {sg : Int32} (hok : m_ok M) (hv : v < m_n M) (hsg : sg = 1 ∨ sg = -1) (hk : k ≤ m_wy M v (m_fw sg)) : (sg = -1 → k ≤ m_pl M v) ∧ stp sg (m_pl M v) k + m_sz M v ≤ 6 ∧ k ≤ 4 := by
  obtain ⟨b1_, b2_, b3_, b4_, b5_, b6_⟩ := hok.2.1 v hv
  rcases hsg with rfl | rfl
  · have := m_wy_fwd (f := m_fw 1) (by decide) hok hv
    refine ⟨fun h => absurd h (by decide), ?_, by omega⟩
    rw [stp, if_pos rfl]; omega
  · have := m_wy_back hok hv
    rw [show m_fw (-1) = 0 from rfl] at hk
    refine ⟨fun _ => by omega, ?_, by omega⟩
    rw [stp, if_neg (by decide)]; omega
theorem m_ok_pl {S : MS} {v x : Nat} (hok : m_ok S) (hx : x + m_sz S v ≤ 6) : m_ok (m_wPl S (updN (m_pl S) v x)) := by
  refine ⟨hok.1, fun u hu => ?_, hok.2.2⟩
  obtain ⟨b1_, b2_, b3_, b4_, b5_, b6_⟩ := hok.2.1 u hu
  refine ⟨b1_, b2_, b3_, b4_, ?_, b6_⟩
  show updN (m_pl S) v x u + m_sz S u ≤ 6
  by_cases q : u = v
  · subst q; rw [updN_s]; exact hx
  · rw [updN_n q]; exact b5_
end
section
/-! The reference's looking: what stays in order, and what its last methods answer -/
def look_ok (S : MS) : Prop := m_ok S ∧ tk_ok S ∧ ∀ i, i < m_fm S → ∀ v, v < m_n S → dgN (m_fo S i) v + m_sz S v ≤ 6
theorem pnow_dg {S : MS} (hok : m_ok S) {v : Nat} (hv : v < m_n S) : dgN (pnow S) v = m_pl S v :=
  ps_dg _ (fun i hi => by obtain ⟨b1_, b2_, b3_, b4_, b5_, b6_⟩ := hok.2.1 i hi; omega) hv
theorem look_ok_takes {S : MS} {o : Int32} {x : Nat} (h : look_ok S) : look_ok (m_takes S o x) := by
  refine ⟨m_ok_takes h.1, tk_ok_takes h.1 h.2.1, ?_⟩
  rw [m_takes_n, m_takes_sz]
  have h3 := h.2.2
  unfold m_takes
  split
  · intro i hi v hv
    show dgN (updN (m_fo S) (m_fm S) (pnow S) i) v + m_sz S v ≤ 6
    by_cases q : i = m_fm S
    · subst q
      rw [updN_s, pnow_dg h.1 hv]
      obtain ⟨b1_, b2_, b3_, b4_, b5_, b6_⟩ := h.1.2.1 v hv
      exact b5_
    · rw [updN_n q]
      exact h3 i (by have : i < m_fm S + 1 := hi; omega) v hv
  · exact h3
theorem look_ok_pl {S : MS} {v x : Nat} (h : look_ok S) (hx : x + m_sz S v ≤ 6) : look_ok (m_wPl S (updN (m_pl S) v x)) := ⟨m_ok_pl h.1 hx, h.2.1, h.2.2⟩
theorem trL_ok {o v : Nat} {sg : Int32} {st most : Nat} {sz : Nat → Nat} {n : Nat} (hb : ∀ k, k ≤ most → stp sg st k + sz v ≤ 6) : ∀ (d k : Nat) (S : MS), look_ok S → m_n S = n → m_sz S = sz → look_ok (trL o v sg st most d k S) ∧ m_n (trL o v sg st most d k S) = n ∧ m_sz (trL o v sg st most d k S) = sz
  | 0, _, S, h1, h2, h3 => ⟨h1, h2, h3⟩
  | d + 1, k, S, h1, h2, h3 => by
    rw [trL]
    by_cases hk : k ≤ most
    · rw [if_pos hk]
      refine trL_ok hb d (k + 1) _ (look_ok_takes (look_ok_pl h1 (by rw [h3]; exact hb k hk))) ?_ ?_
      · rw [m_takes_n]; exact h2
      · rw [m_takes_sz]; exact h3
    · rw [if_neg hk]; exact ⟨h1, h2, h3⟩
theorem look_ok_tries {S : MS} {o v : Nat} {sg : Int32} (h : look_ok S) (hv : v < m_n S) (hsg : sg = 1 ∨ sg = -1) : look_ok (m_tries S o v sg) ∧ m_n (m_tries S o v sg) = m_n S ∧ m_sz (m_tries S o v sg) = m_sz S := by
  obtain ⟨b1_, b2_, b3_, b4_, b5_, b6_⟩ := h.1.2.1 v hv
  obtain ⟨h1, h2, h3⟩ := trL_ok (o := o) (v := v) (sg := sg) (st := m_pl S v) (most := m_wy S v (m_fw sg)) (sz := m_sz S) (n := m_n S) (fun k hk => (m_tr_b h.1 hv hsg hk).2.1) 8 1 S h rfl rfl
  unfold m_tries
  generalize trL o v sg (m_pl S v) (m_wy S v (m_fw sg)) 8 1 S = W at h1 h2 h3 ⊢
  exact ⟨look_ok_pl h1 (by rw [h3]; exact b5_), h2, h3⟩
def lk_g (S : MS) (k : Nat) : Nat → Nat := fun v => dgN (m_fo S k) v
def lk_lay (S : MS) (k : Nat) : MS := m_lay (m_wPl S (cpN (m_pl S) (lk_g S k) (m_n S)))
theorem look_ok_dg {S : MS} {k : Nat} (h : look_ok S) (hk : k < m_fm S) : m_ok (m_wPl S (cpN (m_pl S) (lk_g S k) (m_n S))) := by
  refine ⟨h.1.1, fun u hu => ?_, h.1.2.2⟩
  obtain ⟨b1_, b2_, b3_, b4_, b5_, b6_⟩ := h.1.2.1 u hu
  refine ⟨b1_, b2_, b3_, b4_, ?_, b6_⟩
  show cpN (m_pl S) (lk_g S k) (m_n S) u + m_sz S u ≤ 6
  rw [cpN, if_pos (show u < m_n S from hu)]
  exact h.2.2 k hk u hu
theorem look_ok_lay {S : MS} {k : Nat} (h : look_ok S) (hk : k < m_fm S) : look_ok (lk_lay S k) := ⟨m_ok_lay (look_ok_dg h hk), h.2.1, h.2.2⟩
def lk_vL (o : Nat) : Nat → Nat → MS → MS
  | 0, _, S => S
  | d + 1, v, S => lk_vL o d (v + 1) (m_tries (m_tries S o v (-1)) o v 1)
theorem lk_vL_in {o n v : Nat} {S : MS} (h : v < n) : lk_vL o (n - v) v S = lk_vL o (n - (v + 1)) (v + 1) (m_tries (m_tries S o v (-1)) o v 1) := by
  obtain ⟨d, hd⟩ : ∃ d, n - v = d + 1 := ⟨n - v - 1, by omega⟩
  rw [hd, show n - (v + 1) = d by omega]; rfl
def lk_one (S : MS) (k : Nat) : MS := lk_vL k (m_n S) 0 (lk_lay S k)
def lkL : Nat → Nat → MS → MS
  | 0, _, S => S
  | d + 1, k, S => if k < m_fm S ∧ m_fm S < 800 then lkL d (k + 1) (lk_one S k) else S
theorem lkL_in {k : Nat} {S : MS} (h : k < m_fm S ∧ m_fm S < 800) (hk : k < 800) : lkL (800 - k) k S = lkL (800 - (k + 1)) (k + 1) (lk_one S k) := by
  obtain ⟨d, hd⟩ : ∃ d, 800 - k = d + 1 := ⟨800 - k - 1, by omega⟩
  rw [hd, show 800 - (k + 1) = d by omega, lkL, if_pos h]
theorem lkL_out {k : Nat} {S : MS} (h : ¬ (k < m_fm S ∧ m_fm S < 800)) : ∀ d, lkL d k S = S
  | 0 => rfl
  | d + 1 => by rw [lkL, if_neg h]
def m_w0 (M : MS) : MS := m_wSk M (fillN (m_sl M) 2048) (cpN (m_kp M) (m_pl M) (m_n M))
theorem cz_0 {f : Nat → Nat} : ∀ n, (∀ j, j < n → f j = 0) → cz f n = 0
  | 0, _ => rfl
  | n + 1, h => by rw [cz, cz_0 n (fun j hj => h j (by omega)), if_pos (h n (by omega))]
theorem look_ok_w0 {M : MS} (h : m_ok M) : look_ok (m_w0 M) := by
  refine ⟨h, ⟨Nat.zero_le _, fun j hj => ?_, ?_, fun i hi => absurd hi (Nat.not_lt_zero _)⟩, fun i hi => absurd hi (Nat.not_lt_zero _)⟩
  · show fillN (m_sl M) 2048 j ≤ 0
    rw [fillN, if_pos hj]; exact Nat.le_refl _
  · show cz (fillN (m_sl M) 2048) 2048 ≤ 0
    rw [cz_0 2048 (fun j hj => by rw [fillN, if_pos hj])]; exact Nat.le_refl _
def m_fin (S : MS) : MS := m_wPl S (cpN (m_pl S) (m_kp S) (m_n S))
def m_look (M : MS) : MS := m_fin (lkL 800 0 (m_takes (m_w0 M) (-1) 0))
/-- the way back -/
def fmvL (Z : MS) : Nat → Nat → Nat
  | 0, i => i
  | d + 1, i => if 0 < m_fr Z i then fmvL Z d (m_fr Z i).toNatClampNeg else i
def fr_ok (Z : MS) : Prop := ∀ i, i < 800 → 0 < m_fr Z i → ∃ j, j < i ∧ m_fr Z i = nI j
theorem fmvL_out {Z : MS} {i : Nat} (h : ¬ 0 < m_fr Z i) : ∀ d, fmvL Z d i = i
  | 0 => rfl
  | d + 1 => by rw [fmvL, if_neg h]
theorem fmvL_in {Z : MS} {i t N : Nat} (h : 0 < m_fr Z i) (ht : t < N) : fmvL Z (N - t) i = fmvL Z (N - (t + 1)) (m_fr Z i).toNatClampNeg := by
  obtain ⟨d, hd⟩ : ∃ d, N - t = d + 1 := ⟨N - t - 1, by omega⟩
  rw [hd, show N - (t + 1) = d by omega, fmvL, if_pos h]
def m_hnt (Z : MS) : Int32 := if m_ff Z ≤ 0 then -1 else nI (m_by Z (fmvL Z (m_ff Z).toNatClampNeg (m_ff Z).toNatClampNeg))
def m_few (Z : MS) : Int32 := if 0 ≤ m_ff Z then nI (m_dp Z (m_ff Z).toNatClampNeg) else -1
/-- the one of depth at most x on the way from i -/
def ancL (Z : MS) (x : Nat) : Nat → Nat → Nat
  | 0, i => i
  | d + 1, i => if x < m_dp Z i then ancL Z x d (m_fr Z i).toNatClampNeg else i
theorem ancL_out {Z : MS} {x i : Nat} (h : ¬ x < m_dp Z i) : ∀ d, ancL Z x d i = i
  | 0 => rfl
  | d + 1 => by rw [ancL, if_neg h]
theorem ancL_in {Z : MS} {x i t N : Nat} (h : x < m_dp Z i) (ht : t < N) : ancL Z x (N - t) i = ancL Z x (N - (t + 1)) (m_fr Z i).toNatClampNeg := by
  obtain ⟨d, hd⟩ : ∃ d, N - t = d + 1 := ⟨N - t - 1, by omega⟩
  rw [hd, show N - (t + 1) = d by omega, ancL, if_pos h]
def m_f0 (Z : MS) : Nat := (m_ff Z).toNatClampNeg
def m_anc (Z : MS) (n : Nat) : Nat := ancL Z (n + 1) (m_f0 Z) (m_f0 Z)
def svS (Z : MS) : Nat → MS
  | 0 => Z
  | n + 1 => m_go (svS Z n) (m_by Z (m_anc Z n) / 10) (nI (m_by Z (m_anc Z n) % 10) - 4)
def sv_ok (Z : MS) : Prop := (∀ i, i < 800 → m_dp Z i ≤ 800 ∧ m_by Z i < 1000) ∧ (∀ i, i < 800 → 0 < m_dp Z i → ∃ j, j < i ∧ m_fr Z i = nI j) ∧ (0 ≤ m_ff Z → m_f0 Z < 800 ∧ m_ff Z = nI (m_f0 Z)) ∧
  (0 ≤ m_ff Z → ∀ n, n < m_dp Z (m_f0 Z) → m_by Z (m_anc Z n) / 10 < 9 ∧ nI (m_pl (svS Z n) (m_by Z (m_anc Z n) / 10)) + (nI (m_by Z (m_anc Z n) % 10) - 4) = nI (m_tgt (svS Z n) (m_by Z (m_anc Z n) / 10) (nI (m_by Z (m_anc Z n) % 10) - 4)))
def m_solv (Z : MS) : MS := if 0 ≤ m_ff Z then svS Z (m_dp Z (m_f0 Z)) else Z
theorem svS_same (Z : MS) : ∀ n, m_dp (svS Z n) = m_dp Z ∧ m_fr (svS Z n) = m_fr Z ∧ m_by (svS Z n) = m_by Z ∧ m_ff (svS Z n) = m_ff Z
  | 0 => ⟨rfl, rfl, rfl, rfl⟩
  | n + 1 => svS_same Z n
def m_rch (Z : MS) (v : Nat) (p : Int32) : Nat → Bool
  | 0 => false
  | k + 1 => m_rch Z v p k || decide (nI (dgN (m_fo Z k) v) = p)
theorem m_rch_b {Z : MS} {v k : Nat} {p x : Int32} (h : (x = 1 ∧ (m_rch Z v p k = true ∨ nI (dgN (m_fo Z k) v) = p)) ∨ (x = 0 ∧ ¬ (m_rch Z v p k = true ∨ nI (dgN (m_fo Z k) v) = p))) : x = b1 (m_rch Z v p (k + 1) = true) := by
  have e : m_rch Z v p (k + 1) = true ↔ (m_rch Z v p k = true ∨ nI (dgN (m_fo Z k) v) = p) := by
    rw [m_rch, Bool.or_eq_true, decide_eq_true_iff]
  rcases h with ⟨rfl, h⟩ | ⟨rfl, h⟩
  · rw [b1, if_pos (e.mpr h)]
  · rw [b1, if_neg (fun q => h (e.mp q))]
end
section
/-! PURE: sets of cells as bits, positions by 8 -/
def gb (w : Int64) (c : Nat) : Bool := w.toBitVec.getLsbD c
theorem gb_ext0 {w : Int64} (h : ∀ c, c < 64 → gb w c = false) : w = 0 :=
  Int64.toBitVec_inj.mp (BitVec.eq_of_getLsbD_eq (fun i hi => by
    rw [show w.toBitVec.getLsbD i = gb w i from rfl, h i hi]; simp))
theorem gb_0 (c : Nat) : gb 0 c = false := by simp [gb]
theorem gb_and (x y : Int64) (c : Nat) : gb (x &&& y) c = (gb x c && gb y c) := by unfold gb; rw [Int64.toBitVec_and, BitVec.getLsbD_and]
theorem gb_or (x y : Int64) (c : Nat) : gb (x ||| y) c = (gb x c || gb y c) := by unfold gb; rw [Int64.toBitVec_or, BitVec.getLsbD_or]
theorem gb_m1 : ∀ c, c < 64 → gb (-1) c = true := by decide +kernel
theorem gb_not (w : Int64) {c : Nat} (hc : c < 64) : gb (w ^^^ (-1)) c = !gb w c := by
  have h := gb_m1 c hc
  unfold gb at h ⊢
  rw [Int64.toBitVec_xor, BitVec.getLsbD_xor, h, Bool.xor_true]
theorem gb_c : ∀ k, k < 64 → (((nI k).toInt64 &&& 63).toBitVec.smod 64).toNat = k := by decide +kernel
theorem gb_cu : ∀ k, k < 64 → (((nI k).toInt64.toUInt64 &&& Int64.toUInt64 63).toBitVec % 64).toNat = k := by decide +kernel
theorem gb_shl (w : Int64) {n c : Nat} (hn : n < 64) (hc : c < 64) : gb (w <<< ((nI n).toInt64 &&& 63)) c = (decide (n ≤ c) && gb w (c - n)) := by
  unfold gb
  rw [Int64.toBitVec_shiftLeft]
  show (w.toBitVec <<< (((nI n).toInt64 &&& 63).toBitVec.smod 64).toNat).getLsbD c = _
  rw [gb_c n hn, BitVec.getLsbD_shiftLeft]
  rcases Nat.lt_or_ge c n with h | h
  · simp [h, Nat.not_le.mpr h]
  · simp [hc, h, Nat.not_lt.mpr h]
theorem gb_shr (w : Int64) {n : Nat} (hn : n < 64) (c : Nat) : gb ((w.toUInt64 >>> ((nI n).toInt64.toUInt64 &&& Int64.toUInt64 63)).toInt64) c = gb w (n + c) := by
  show (w.toUInt64 >>> ((nI n).toInt64.toUInt64 &&& Int64.toUInt64 63)).toBitVec.getLsbD c = w.toUInt64.toBitVec.getLsbD (n + c)
  rw [UInt64.toBitVec_shiftRight]
  show (w.toUInt64.toBitVec >>> (((nI n).toInt64.toUInt64 &&& Int64.toUInt64 63).toBitVec % 64).toNat).getLsbD c = _
  rw [gb_cu n hn, BitVec.getLsbD_ushiftRight]
theorem gb_big {w : Int64} {c : Nat} (h : 64 ≤ c) : gb w c = false := BitVec.getLsbD_of_ge _ _ h
theorem gb_1 (c : Nat) : gb 1 c = decide (c = 0) := by
  rcases Nat.lt_or_ge c 64 with h | h
  · exact (by decide +kernel : ∀ c, c < 64 → gb 1 c = decide (c = 0)) c h
  · rw [gb_big h, decide_eq_false (by omega)]
theorem gb_disj {x y : Int64} : x &&& y = 0 ↔ ∀ c, c < 64 → gb x c = true → gb y c = true → False := by
  constructor
  · intro h c _ h1 h2
    have := gb_0 c
    rw [← h, gb_and, h1, h2] at this
    exact absurd this (by decide)
  · intro h
    refine gb_ext0 (fun c hc => ?_)
    rw [gb_and]
    cases h1 : gb x c
    · rfl
    · cases h2 : gb y c
      · rfl
      · exact (h c hc h1 h2).elim
theorem n6 (x y : Nat) : (6 : Int32) * nI x + nI y = nI (6 * x + y) := by
  rw [show (6 : Int32) * nI x = nI (6 * x) from pk_mul 6 x, nI_add]
theorem gb_co {r q c : Nat} (hr : r < 6) (hq : q < 6) (hc : c < 64) : gb (co (nI r) (nI q)) c = true ↔ c = 6 * r + q := by
  unfold co
  rw [n6, gb_shl _ (by omega) hc, gb_1, Bool.and_eq_true, decide_eq_true_iff, decide_eq_true_iff]
  omega
/-- the cells of a thing of s cells, across (a = 1) or down, on its line l, from p on -/
def occ (a l p s c : Nat) : Prop := ∃ i, i < s ∧ c = m_cl a l (p + i)
theorem occ_lt {a l p s c : Nat} (hl : l < 6) (hp : p + s ≤ 6) (h : occ a l p s c) : c < 36 := by
  obtain ⟨i, hi, rfl⟩ := h
  exact m_cl_lt hl (by omega)
theorem gb_cso {ac : Int32} {r q c : Nat} (hc : c < 64) : ∀ k, (if ac = 0 then r + k ≤ 6 ∧ q < 6 else q + k ≤ 6 ∧ r < 6) →
    (gb (cso ac (nI r) (nI q) k) c = true ↔ ∃ i, i < k ∧ c = (if ac = 0 then 6 * (r + i) + q else 6 * r + (q + i)))
  | 0, _ => by
    rw [show cso ac (nI r) (nI q) 0 = 0 from rfl, gb_0]
    constructor
    · intro h; exact absurd h (by decide)
    · rintro ⟨i, hi, -⟩; omega
  | k + 1, hb => by
    rw [show cso ac (nI r) (nI q) (k + 1) = cso ac (nI r) (nI q) k ||| (if ac = 0 then co (nI r + nI k) (nI q) else co (nI r) (nI q + nI k)) from rfl, gb_or, Bool.or_eq_true]
    have ih := gb_cso (ac := ac) (r := r) (q := q) hc k (by split at hb <;> (try rw [if_pos (by assumption)]) <;> (try rw [if_neg (by assumption)]) <;> omega)
    rw [ih]
    have e : gb (if ac = 0 then co (nI r + nI k) (nI q) else co (nI r) (nI q + nI k)) c = true ↔ c = (if ac = 0 then 6 * (r + k) + q else 6 * r + (q + k)) := by
      by_cases h0 : ac = 0
      · rw [if_pos h0] at hb ⊢
        rw [if_pos h0, nI_add, gb_co (by omega) (by omega) hc]
      · rw [if_neg h0] at hb ⊢
        rw [if_neg h0, nI_add, gb_co (by omega) (by omega) hc]
    rw [e]
    constructor
    · rintro (⟨i, hi, h⟩ | h)
      · exact ⟨i, by omega, h⟩
      · exact ⟨k, by omega, h⟩
    · rintro ⟨i, hi, h⟩
      rcases (show i < k ∨ i = k by omega) with h1 | h1
      · exact Or.inl ⟨i, h1, h⟩
      · subst h1; exact Or.inr h
/-- park's cells -/
theorem gb_park {ac : Int32} {r q s c : Nat} (hr : r < 6) (hq : q < 6) (hs : p_plcN ac r q + s ≤ 6) (hc : c < 64) : gb (cso ac (nI r) (nI q) s) c = true ↔ occ (p_ax ac) (p_linN ac r q) (p_plcN ac r q) s c := by
  unfold p_plcN at hs
  rw [gb_cso hc s (by split <;> (first | rw [if_pos (by assumption)] at hs | rw [if_neg (by assumption)] at hs) <;> omega)]
  unfold occ p_ax p_linN p_plcN m_cl
  by_cases h0 : ac = 0
  · refine exists_congr (fun i => and_congr_right (fun _ => ?_))
    rw [if_pos h0, if_pos h0, if_pos h0, if_pos h0, if_neg (show ¬ (0 : Nat) = 1 by decide)]
  · refine exists_congr (fun i => and_congr_right (fun _ => ?_))
    rw [if_neg h0, if_neg h0, if_neg h0, if_neg h0, if_pos (show (1 : Nat) = 1 from rfl)]
/-- a shape: the cells at the place 0 -/
theorem gb_csh {ac : Int32} {l s c : Nat} (hl : l < 6) (hs : s ≤ 4) (hc : c < 64) : gb (y_csh (nI s) ac (nI l)) c = true ↔ occ (p_ax ac) l 0 s c := by
  have hm : min (nI s).toNatClampNeg 4 = s := by rw [nI_clamp (by omega)]; omega
  unfold y_csh
  rw [hm]
  by_cases h0 : ac = 0
  · rw [if_pos h0]
    have := gb_cso (ac := 0) (r := 0) (q := l) hc s (by rw [if_pos rfl]; omega)
    rw [show cso 0 (nI 0) (nI l) s = cso 0 0 (nI l) s from rfl] at this
    rw [this]
    unfold occ p_ax m_cl
    refine exists_congr (fun i => and_congr_right (fun _ => ?_))
    rw [if_pos h0, if_pos (show (0 : Int32) = 0 from rfl), if_neg (show ¬ (0 : Nat) = 1 by decide)]
  · rw [if_neg h0]
    have := gb_cso (ac := 1) (r := l) (q := 0) hc s (by rw [if_neg (by decide)]; omega)
    rw [show cso 1 (nI l) (nI 0) s = cso 1 (nI l) 0 s from rfl] at this
    rw [this]
    unfold occ p_ax m_cl
    refine exists_congr (fun i => and_congr_right (fun _ => ?_))
    rw [if_neg h0, if_neg (show ¬ (1 : Int32) = 0 by decide), if_pos (show (1 : Nat) = 1 from rfl)]
/-! positions by 8 -/
def p8 : Nat → (Nat → Nat) → Nat
  | 0, _ => 0
  | n + 1, f => f 0 + 8 * p8 n (fun i => f (i + 1))
theorem p8_ext : ∀ (n : Nat) {f g : Nat → Nat}, (∀ i, i < n → f i = g i) → p8 n f = p8 n g
  | 0, _, _, _ => rfl
  | n + 1, f, g, h => by rw [p8, p8, h 0 (by omega), p8_ext n (fun i hi => h (i + 1) (by omega))]
theorem p8_lt : ∀ (n : Nat) {f : Nat → Nat}, (∀ i, i < n → f i < 8) → p8 n f < 8 ^ n
  | 0, _, _ => by simp [p8]
  | n + 1, f, h => by
    have h1 := p8_lt n (f := fun i => f (i + 1)) (fun i hi => h (i + 1) (by omega))
    have h2 := h 0 (by omega)
    rw [p8, Nat.pow_succ]; omega
theorem p8_dg : ∀ (n : Nat) {f : Nat → Nat} {v : Nat}, (∀ i, i < n → f i < 8) → v < n → p8 n f / 8 ^ v % 8 = f v
  | 0, _, _, _, h => absurd h (by omega)
  | n + 1, f, 0, h, _ => by have := h 0 (by omega); rw [p8]; simp; omega
  | n + 1, f, v + 1, h, hv => by
    have h0 := h 0 (by omega)
    have := p8_dg n (f := fun i => f (i + 1)) (v := v) (fun i hi => h (i + 1) (by omega)) (by omega)
    rw [p8, Nat.pow_succ, Nat.mul_comm (8 ^ v) 8, ← Nat.div_div_eq_div_mul, show (f 0 + 8 * p8 n fun i => f (i + 1)) / 8 = p8 n (fun i => f (i + 1)) by omega]
    exact this
theorem p8_upd : ∀ (n : Nat) {f : Nat → Nat} {v x : Nat}, v < n → p8 n (updN f v x) + f v * 8 ^ v = p8 n f + x * 8 ^ v
  | 0, _, _, _, h => absurd h (by omega)
  | n + 1, f, 0, x, _ => by
    rw [p8, p8, updN_s, p8_ext n (f := fun i => updN f 0 x (i + 1)) (g := fun i => f (i + 1)) (fun i _ => updN_n (by omega))]
    simp; omega
  | n + 1, f, v + 1, x, hv => by
    have := p8_upd n (f := fun i => f (i + 1)) (v := v) (x := x) (by omega)
    rw [p8, p8, updN_n (show 0 ≠ v + 1 by omega), p8_ext n (f := fun i => updN f (v + 1) x (i + 1)) (g := updN (fun i => f (i + 1)) v x) (fun i _ => by simp only [updN]; by_cases q : i = v <;> simp [q])]
    rw [Nat.pow_succ, ← Nat.mul_assoc, ← Nat.mul_assoc]
    omega
theorem p8_bd {n : Nat} {f : Nat → Nat} (hn : n ≤ 9) (h : ∀ i, i < n → f i < 8) : p8 n f < 134217728 := by
  have h1 := p8_lt n h
  have h2 : 8 ^ n ≤ 8 ^ 9 := Nat.pow_le_pow_right (by decide) hn
  have h3 : 8 ^ 9 = 134217728 := by decide
  omega
theorem p8_sh : ∀ v, v < 9 → (((3 : Int32) * nI v &&& 31).toBitVec.smod 32).toNat = 3 * v := by decide +kernel
theorem p8_pw : ∀ v, v < 9 → (1 : Int32) <<< ((3 : Int32) * nI v &&& 31) = nI (8 ^ v) := by decide +kernel
theorem pl_p8 {n v : Nat} {f : Nat → Nat} (hn : n ≤ 9) (h : ∀ i, i < n → f i < 8) (hv : v < n) : pl (nI (p8 n f)) (nI v) = nI (f v) := by
  have hb := p8_bd hn h
  unfold pl
  rw [pk_shrN (by omega) _ (3 * v) (p8_sh v (by omega)), pk_andN (m := 7) (Nat.lt_of_le_of_lt (Nat.div_le_self _ _) (by omega)) 3 (by decide)]
  rw [show 2 ^ (3 * v) = 8 ^ v by rw [Nat.pow_mul], show (2 : Nat) ^ 3 = 8 by decide, p8_dg n h hv]
theorem mv_up {n v k : Nat} {f : Nat → Nat} (hn : n ≤ 9) (hv : v < n) : mv (nI (p8 n f)) (nI v) (nI k) = nI (p8 n (updN f v (f v + k))) := by
  unfold mv
  rw [p8_pw v (by omega), pk_mul, nI_add]
  have := p8_upd n (f := f) (v := v) (x := f v + k) hv
  congr 1
  rw [Nat.add_mul] at this; omega
theorem mv_dn {n v k : Nat} {f : Nat → Nat} (hn : n ≤ 9) (hv : v < n) (hk : k ≤ f v) : mv (nI (p8 n f)) (nI v) (-nI k) = nI (p8 n (updN f v (f v - k))) := by
  unfold mv
  have h := p8_upd n (f := f) (v := v) (x := f v - k) hv
  have h2 : f v * 8 ^ v = (f v - k) * 8 ^ v + k * 8 ^ v := by rw [← Nat.add_mul]; congr 1; omega
  rw [p8_pw v (by omega), Int32.neg_mul, pk_mul, ← Int32.sub_eq_add_neg, pk_sub (by omega)]
  congr 1
  omega
theorem p8_inj {n : Nat} {f g : Nat → Nat} (hf : ∀ i, i < n → f i < 8) (hg : ∀ i, i < n → g i < 8) (h : p8 n f = p8 n g) : ∀ v, v < n → f v = g v := fun v hv => by
  rw [← p8_dg n hf hv, ← p8_dg n hg hv, h]
theorem ps_inj {n : Nat} {f g : Nat → Nat} (hf : ∀ i, i < n → f i < 6) (hg : ∀ i, i < n → g i < 6) (h : ps n f = ps n g) : ∀ v, v < n → f v = g v := fun v hv => by
  rw [← ps_dg n hf hv, ← ps_dg n hg hv, h]
end
section
/-! PURE: the class's yard and the reference's, and how far a vehicle can go -/
abbrev occV (M : MS) (f : Nat → Nat) (v c : Nat) : Prop := occ (m_ac M v) (m_li M v) (f v) (m_sz M v) c
def yr (Y : YS) (M : MS) : Prop := y_n Y = m_n M ∧ m_n M ≤ 9 ∧ ∀ v, v < m_n M → (2 ≤ m_sz M v ∧ m_sz M v ≤ 4 ∧ m_ac M v ≤ 1 ∧ m_li M v < 6) ∧ y_sz Y v = nI (m_sz M v) ∧ y_ac Y v = nI (m_ac M v) ∧ y_li Y v = nI (m_li M v) ∧ ∀ c, c < 64 → (gb (y_sh Y v) c = true ↔ occ (m_ac M v) (m_li M v) 0 (m_sz M v) c)
def rr (Y : YS) (M : MS) : Prop := ∀ c, c < 64 → (gb (y_rp Y) c = true ↔ nI c = m_rp M)
def fit (M : MS) (f : Nat → Nat) : Prop := ∀ v, v < m_n M → f v + m_sz M v ≤ 6
theorem fit8 {Y : YS} {M : MS} {f : Nat → Nat} (h : yr Y M) (hf : fit M f) : ∀ v, v < m_n M → f v < 8 := fun v hv => by
  have := hf v hv; omega
theorem fit6 {Y : YS} {M : MS} {f : Nat → Nat} (h : yr Y M) (hf : fit M f) : ∀ v, v < m_n M → f v < 6 := fun v hv => by
  have := hf v hv; have := (h.2.2 v hv).1.1; omega
theorem y_has_of {Y : YS} {M : MS} {v : Nat} (h : yr Y M) (hv : v < m_n M) : y_has Y (nI v) := by
  have h9 := h.2.1
  refine ⟨nI_pos (by omega), ?_, ?_⟩
  · rw [h.1]; exact fun q => absurd ((nI_leI (by omega) (by omega)).mp q) (by omega)
  · exact fun q => absurd ((nI_leI (a := 9) (by omega) (by omega)).mp q) (by omega)
theorem y_has_iff {Y : YS} {M : MS} (h : yr Y M) (x : Int32) : y_has Y x ↔ m_has M x := by
  constructor
  · rintro ⟨h1, h2, -⟩; rw [h.1] at h2; exact ⟨h1, h2⟩
  · rintro ⟨h1, h2⟩
    obtain ⟨j, hj, rfl⟩ := vp_in_of (cl_in h1 h2 (by have := h.2.1; omega)) (by have := h.2.1; omega)
    exact y_has_of h hj
theorem m_cl_sh (a l p i : Nat) : m_cl a l (p + i) = m_cl a l (0 + i) + (if a = 1 then p else 6 * p) := by
  unfold m_cl; split <;> omega
theorem gb_cel {Y : YS} {M : MS} {f : Nat → Nat} {v c : Nat} (h : yr Y M) (hf : fit M f) (hv : v < m_n M) (hc : c < 64) : gb (y_cel Y (nI (p8 (m_n M) f)) (nI v)) c = true ↔ occV M f v c := by
  obtain ⟨⟨b1_, b2_, b3_, b4_⟩, e1, e2, e3, e4⟩ := h.2.2 v hv
  have hp := hf v hv
  have h9 := h.2.1
  unfold y_cel
  rw [if_pos (y_has_of h hv), nI_clamp (by omega), pl_p8 h9 (fit8 h hf) hv]
  have es : y_str Y (nI v) * nI (f v) = nI (if m_ac M v = 1 then f v else 6 * f v) := by
    unfold y_str
    rw [nI_clamp (by omega), e2]
    rcases (show m_ac M v = 0 ∨ m_ac M v = 1 by omega) with q | q
    · rw [q, if_pos (by decide), if_neg (by decide)]; exact pk_mul 6 _
    · rw [q, if_neg (by decide), if_pos rfl]; exact Int32.one_mul _
  rw [es]
  have hn : (if m_ac M v = 1 then f v else 6 * f v) < 64 := by split <;> omega
  rw [gb_shl _ hn hc, Bool.and_eq_true, decide_eq_true_iff, e4 _ (by omega)]
  constructor
  · rintro ⟨h1, i, hi, h2⟩
    refine ⟨i, hi, ?_⟩
    rw [m_cl_sh]; omega
  · rintro ⟨i, hi, h2⟩
    rw [m_cl_sh] at h2
    exact ⟨by omega, i, hi, by omega⟩
theorem gb_fil {Y : YS} {M : MS} {f : Nat → Nat} {c : Nat} (h : yr Y M) (hf : fit M f) (hc : c < 64) : ∀ k, k ≤ m_n M → (gb (y_fil Y (nI (p8 (m_n M) f)) k) c = true ↔ ∃ v, v < k ∧ occV M f v c)
  | 0, _ => by
    rw [show y_fil Y (nI (p8 (m_n M) f)) 0 = 0 from rfl, gb_0]
    constructor
    · intro q; exact absurd q (by decide)
    · rintro ⟨v, hv, -⟩; omega
  | k + 1, hk => by
    rw [show y_fil Y (nI (p8 (m_n M) f)) (k + 1) = y_fil Y (nI (p8 (m_n M) f)) k ||| y_cel Y (nI (p8 (m_n M) f)) (nI k) from rfl, gb_or, Bool.or_eq_true, gb_fil h hf hc k (by omega), gb_cel h hf (by omega) hc]
    constructor
    · rintro (⟨v, hv, q⟩ | q)
      · exact ⟨v, by omega, q⟩
      · exact ⟨k, by omega, q⟩
    · rintro ⟨v, hv, q⟩
      rcases (show v < k ∨ v = k by omega) with h1 | h1
      · exact Or.inl ⟨v, h1, q⟩
      · subst h1; exact Or.inr q
theorem y_bar_gb {Y : YS} {M : MS} {v c : Nat} (h : yr Y M) (hr : rr Y M) (hv : v < m_n M) (hc : c < 64) : gb (y_bar Y (y_sz Y v)) c = true ↔ ¬ m_sz M v = 2 ∧ nI c = m_rp M := by
  obtain ⟨⟨b1_, b2_, b3_, b4_⟩, e1, -⟩ := h.2.2 v hv
  unfold y_bar
  rw [e1]
  by_cases q : m_sz M v = 2
  · rw [q, if_pos (by decide), gb_0]
    constructor
    · intro q; exact absurd q (by decide)
    · rintro ⟨q2, -⟩; exact absurd rfl q2
  · rw [if_neg (fun z => q (by have := (nI_leI (a := m_sz M v) (b := 2) (by omega) (by omega)).mp z; omega)), hr c hc]
    exact ⟨fun z => ⟨q, z⟩, fun z => z.2⟩
/-! the reference's laid yard -/
theorem ly_k_in {a l p w : Nat} {g : Nat → Nat} {c : Nat} : ∀ k, (∃ i, i < k ∧ c = m_cl a l (p + i)) → ly_k a l p w g k c = w
  | 0, ⟨i, hi, _⟩ => absurd hi (by omega)
  | k + 1, ⟨i, hi, hc⟩ => by
    show updN (ly_k a l p w g k) (m_cl a l (p + k)) w c = w
    by_cases q : c = m_cl a l (p + k)
    · rw [q, updN_s]
    · rw [updN_n q]
      refine ly_k_in k ⟨i, ?_, hc⟩
      rcases (show i < k ∨ i = k by omega) with h | h
      · exact h
      · subst h; exact absurd hc q
theorem ly_k_out {a l p w : Nat} {g : Nat → Nat} {c : Nat} : ∀ k, (¬ ∃ i, i < k ∧ c = m_cl a l (p + i)) → ly_k a l p w g k c = g c
  | 0, _ => rfl
  | k + 1, h => by
    show updN (ly_k a l p w g k) (m_cl a l (p + k)) w c = g c
    rw [updN_n (fun q => h ⟨k, by omega, q⟩)]
    exact ly_k_out k (fun ⟨i, hi, hc⟩ => h ⟨i, by omega, hc⟩)
theorem ly_v_0 {M : MS} {g : Nat → Nat} {c : Nat} (hg : g c = 0) : ∀ v, (ly_v M g v c = 0 ↔ ¬ ∃ u, u < v ∧ occV M (m_pl M) u c)
  | 0 => ⟨fun _ ⟨u, hu, _⟩ => absurd hu (by omega), fun _ => hg⟩
  | v + 1 => by
    have ih := ly_v_0 (M := M) hg v
    by_cases q : occV M (m_pl M) v c
    · rw [show ly_v M g (v + 1) c = v + 1 from ly_k_in _ q]
      exact ⟨fun z => absurd z (by omega), fun z => absurd ⟨v, by omega, q⟩ z⟩
    · rw [show ly_v M g (v + 1) c = ly_v M g v c from ly_k_out _ q, ih]
      constructor
      · rintro z ⟨u, hu, hc⟩
        rcases (show u < v ∨ u = v by omega) with h | h
        · exact z ⟨u, h, hc⟩
        · subst h; exact q hc
      · rintro z ⟨u, hu, hc⟩
        exact z ⟨u, by omega, hc⟩
/-- with cells apart, the yard tells who stands on a cell -/
theorem ly_v_at {M : MS} {g : Nat → Nat} {c u : Nat} (hu : occV M (m_pl M) u c) (hd : ∀ w, u < w → w < m_n M → ¬ occV M (m_pl M) w c) : ∀ v, u < v → v ≤ m_n M → ly_v M g v c = u + 1
  | 0, h, _ => absurd h (by omega)
  | v + 1, h, hv => by
    rcases (show u = v ∨ u < v by omega) with q | q
    · subst q; exact ly_k_in _ hu
    · rw [show ly_v M g (v + 1) c = ly_v M g v c from ly_k_out _ (hd v q (by omega))]
      exact ly_v_at hu hd v q (by omega)
theorem lay_0 (M : MS) {c : Nat} (hc : c < 36) : m_yd (m_lay M) c = 0 ↔ ¬ ∃ u, u < m_n M ∧ occV M (m_pl M) u c :=
  ly_v_0 (by rw [fillN, if_pos hc]) _
theorem m_cl_inj {a l p q : Nat} (h : m_cl a l p = m_cl a l q) : p = q := by
  unfold m_cl at h; split at h <;> omega
/-- the two ways of looking how far one can go, step by step: P the place behind k steps, fr the cell that comes to be filled -/
theorem way_step {Y : YS} {M : MS} {X : MS} {f : Nat → Nat} {v : Nat} (h : yr Y M) (hr : rr Y M) (hf : fit M f) (hv : v < m_n M)
    (hX : m_n X = m_n M ∧ m_sz X = m_sz M ∧ m_ac X = m_ac M ∧ m_li X = m_li M ∧ m_rp X = m_rp M) (hpl : ∀ u, u < m_n M → m_pl X u = f u) (hyd : ∀ c, c < 36 → (m_yd X c = 0 ↔ ¬ ∃ u, u < m_n M ∧ occV M f u c))
    {P g : Nat} {w1 w2 : Int64} (hw1 : ∀ c, c < 64 → (gb w1 c = true ↔ occ (m_ac M v) (m_li M v) P (m_sz M v) c)) (hw2 : ∀ c, c < 64 → (gb w2 c = true → gb w1 c = true ∨ c = m_cl (m_ac M v) (m_li M v) g))
    (hg : g < 6) (hg2 : gb w2 (m_cl (m_ac M v) (m_li M v) g) = true) (hgo : g < f v ∨ f v + m_sz M v ≤ g) (hclear : w1 &&& y_brd Y (nI (p8 (m_n M) f)) (y_fil Y (nI (p8 (m_n M) f)) (m_n M)) (nI v) = 0) :
    (w2 &&& y_brd Y (nI (p8 (m_n M) f)) (y_fil Y (nI (p8 (m_n M) f)) (m_n M)) (nI v) = 0 ↔ m_opn X v (nI g)) := by
  obtain ⟨⟨b1_, b2_, b3_, b4_⟩, e1, e2, e3, e4⟩ := h.2.2 v hv
  obtain ⟨x1, x2, x3, x4, x5⟩ := hX
  have hfr : m_cl (m_ac M v) (m_li M v) g < 36 := m_cl_lt b4_ hg
  have hbr : ∀ c, c < 64 → (gb (y_brd Y (nI (p8 (m_n M) f)) (y_fil Y (nI (p8 (m_n M) f)) (m_n M)) (nI v)) c = true ↔ ((∃ u, u < m_n M ∧ occV M f u c) ∧ ¬ occV M f v c) ∨ (¬ m_sz M v = 2 ∧ nI c = m_rp M)) := by
    intro c hc
    unfold y_brd
    rw [gb_or, Bool.or_eq_true, gb_and, Bool.and_eq_true, gb_not _ hc, gb_fil h hf hc _ (Nat.le_refl _), nI_clamp (by have := h.2.1; omega), y_bar_gb h hr hv hc, Bool.not_eq_true', ← Bool.not_eq_true, gb_cel h hf hv hc]
  have hown : ¬ occV M f v (m_cl (m_ac M v) (m_li M v) g) := by
    rintro ⟨i, hi, hc⟩
    have := m_cl_inj hc
    omega
  have hin : inL (nI g) := ⟨nI_pos (by omega), fun q => absurd ((nI_leI (a := 6) (by omega) (by omega)).mp q) (by omega)⟩
  have hopn : m_opn X v (nI g) ↔ ¬ gb (y_brd Y (nI (p8 (m_n M) f)) (y_fil Y (nI (p8 (m_n M) f)) (m_n M)) (nI v)) (m_cl (m_ac M v) (m_li M v) g) = true := by
    rw [hbr _ (by omega)]
    unfold m_opn
    rw [x2, x3, x4, x5, m_cli_nI b3_, nI_clamp (by omega), hyd _ hfr]
    constructor
    · rintro ⟨-, h1, h2⟩ (⟨h3, -⟩ | ⟨h3, h4⟩)
      · exact h1 h3
      · rcases h2 with h2 | h2
        · exact h3 h2
        · exact h2 h4
    · intro hn
      refine ⟨hin, fun h1 => hn (Or.inl ⟨h1, hown⟩), ?_⟩
      by_cases q : m_sz M v = 2
      · exact Or.inl q
      · exact Or.inr (fun z => hn (Or.inr ⟨q, z⟩))
  rw [hopn, gb_disj]
  constructor
  · intro hd q
    exact hd _ (by omega) hg2 q
  · intro hn c hc h1 h2
    rcases hw2 c hc h1 with q | q
    · exact gb_disj.mp hclear c hc q h2
    · subst q; exact hn h2
end
section
/-! PURE: the way that the class finds is the way that the reference finds -/
abbrev stpN (a : Nat) : Nat := if a = 1 then 1 else 6
theorem y_str_nI {Y : YS} {M : MS} {v : Nat} (h : yr Y M) (hv : v < m_n M) : y_str Y (nI v) = nI (stpN (m_ac M v)) := by
  obtain ⟨⟨b1_, b2_, b3_, b4_⟩, e1, e2, -⟩ := h.2.2 v hv
  have h9 := h.2.1
  unfold y_str stpN
  rw [nI_clamp (by omega), e2]
  rcases (show m_ac M v = 0 ∨ m_ac M v = 1 by omega) with q | q
  · rw [q, if_pos (by decide), if_neg (by decide)]; rfl
  · rw [q, if_neg (by decide), if_pos rfl]; rfl
theorem m_cl_s1 (a l p : Nat) : m_cl a l (p + 1) = m_cl a l p + stpN a := by
  unfold m_cl stpN; split <;> omega
theorem stpN_le (a : Nat) : 1 ≤ stpN a ∧ stpN a ≤ 6 := by unfold stpN; split <;> omega
theorem shf_f {a l P s : Nat} {w : Int64} (hw : ∀ c, c < 64 → (gb w c = true ↔ occ a l P s c)) : ∀ c, c < 64 → (gb (y_shf 1 (nI (stpN a)) w) c = true ↔ occ a l (P + 1) s c) := fun c hc => by
  have hs := stpN_le a
  unfold y_shf
  rw [if_pos rfl, gb_shl _ (by omega) hc, Bool.and_eq_true, decide_eq_true_iff, hw _ (by omega)]
  constructor
  · rintro ⟨h1, i, hi, h2⟩
    exact ⟨i, hi, by rw [show P + 1 + i = P + i + 1 by omega, m_cl_s1]; omega⟩
  · rintro ⟨i, hi, h2⟩
    rw [show P + 1 + i = P + i + 1 by omega, m_cl_s1] at h2
    exact ⟨by omega, i, hi, by omega⟩
theorem shf_b {a l P s : Nat} {w : Int64} (hl : l < 6) (hp : P + 1 + s ≤ 6) (hw : ∀ c, c < 64 → (gb w c = true ↔ occ a l (P + 1) s c)) : ∀ c, c < 64 → (gb (y_shf (-1) (nI (stpN a)) w) c = true ↔ occ a l P s c) := fun c hc => by
  have hs := stpN_le a
  unfold y_shf
  rw [if_neg (by decide), gb_shr _ (by omega)]
  by_cases hb : stpN a + c < 64
  · rw [hw _ hb]
    constructor
    · rintro ⟨i, hi, h2⟩
      rw [show P + 1 + i = P + i + 1 by omega, m_cl_s1] at h2
      exact ⟨i, hi, by omega⟩
    · rintro ⟨i, hi, h2⟩
      exact ⟨i, hi, by rw [show P + 1 + i = P + i + 1 by omega, m_cl_s1]; omega⟩
  · rw [gb_big (by omega)]
    constructor
    · intro q; exact absurd q (by decide)
    · intro q
      have := occ_lt hl (by omega) q
      omega
/-- X: the reference with the places f and the yard laid -/
def atf (M X : MS) (f : Nat → Nat) : Prop := m_n X = m_n M ∧ m_sz X = m_sz M ∧ m_ac X = m_ac M ∧ m_li X = m_li M ∧ m_rp X = m_rp M ∧ (∀ u, u < m_n M → m_pl X u = f u) ∧ (∀ c, c < 36 → (m_yd X c = 0 ↔ ¬ ∃ u, u < m_n M ∧ occV M f u c))
theorem atf.e1 {M X : MS} {f : Nat → Nat} (h : atf M X f) : m_n X = m_n M := h.1
theorem atf.e2 {M X : MS} {f : Nat → Nat} (h : atf M X f) : m_sz X = m_sz M := h.2.1
theorem atf.e3 {M X : MS} {f : Nat → Nat} (h : atf M X f) : m_ac X = m_ac M := h.2.2.1
theorem atf.e4 {M X : MS} {f : Nat → Nat} (h : atf M X f) : m_li X = m_li M := h.2.2.2.1
theorem atf.e5 {M X : MS} {f : Nat → Nat} (h : atf M X f) : m_rp X = m_rp M := h.2.2.2.2.1
theorem atf.ep {M X : MS} {f : Nat → Nat} (h : atf M X f) : ∀ u, u < m_n M → m_pl X u = f u := h.2.2.2.2.2.1
theorem atf.ey {M X : MS} {f : Nat → Nat} (h : atf M X f) : ∀ c, c < 36 → (m_yd X c = 0 ↔ ¬ ∃ u, u < m_n M ∧ occV M f u c) := h.2.2.2.2.2.2
abbrev offR (M : MS) (f : Nat → Nat) : Prop := ∀ v, v < m_n M → ¬ m_sz M v = 2 → ∀ c, occV M f v c → ¬ nI c = m_rp M
theorem way_f {Y : YS} {M X : MS} {f : Nat → Nat} {v : Nat} (h : yr Y M) (hr : rr Y M) (hf : fit M f) (hv : v < m_n M) (hX : atf M X f) :
    ∀ d k w, k + d = 6 - (f v + m_sz M v) → (∀ c, c < 64 → (gb w c = true ↔ occ (m_ac M v) (m_li M v) (f v + k) (m_sz M v) c)) → w &&& y_brd Y (nI (p8 (m_n M) f)) (y_fil Y (nI (p8 (m_n M) f)) (m_n M)) (nI v) = 0 →
    y_wl (y_brd Y (nI (p8 (m_n M) f)) (y_fil Y (nI (p8 (m_n M) f)) (m_n M)) (nI v)) 1 (nI (stpN (m_ac M v))) (nI (6 - (f v + m_sz M v))) d k w = nI (m_wyL X v 1 (7 - k) k)
  | 0, k, w, hk, _, _ => by
    have hb := hf v hv
    rw [m_wyL_out, y_wl]
    · congr 1; omega
    · rintro ⟨⟨-, q⟩, -⟩
      unfold m_wya at q
      rw [if_neg (by decide), hX.ep v hv, hX.e2] at q
      exact q ((nI_leI (a := 6) (by omega) (by omega)).mpr (by omega))
  | d + 1, k, w, hk, hw, hc => by
    have hb := hf v hv
    obtain ⟨⟨b1_, b2_, b3_, b4_⟩, -⟩ := h.2.2 v hv
    have hw2 := shf_f hw
    have hst := way_step (P := f v + k) (g := f v + m_sz M v + k) (w1 := w) (w2 := y_shf 1 (nI (stpN (m_ac M v))) w) h hr hf hv ⟨hX.e1, hX.e2, hX.e3, hX.e4, hX.e5⟩ hX.ep hX.ey hw
      (fun c hc q => by
        obtain ⟨i, hi, h2⟩ := (hw2 c hc).mp q
        rcases (show i + 1 < m_sz M v ∨ i + 1 = m_sz M v by omega) with z | z
        · exact Or.inl ((hw c hc).mpr ⟨i + 1, z, by rw [h2]; congr 1; omega⟩)
        · exact Or.inr (by rw [h2]; congr 1; omega))
      (by omega) ((hw2 _ (by have := m_cl_lt (a := m_ac M v) b4_ (show f v + m_sz M v + k < 6 by omega); omega)).mpr ⟨m_sz M v - 1, by omega, by congr 1; omega⟩) (Or.inr (by omega)) hc
    have ha : m_wya X v 1 k = nI (f v + m_sz M v + k) := by
      unfold m_wya
      rw [if_neg (by decide), hX.ep v hv, hX.e2]
    rw [m_wyL_in (by omega), ha, y_wl]
    by_cases q : m_opn X v (nI (f v + m_sz M v + k))
    · rw [if_pos q, if_pos (hst.mpr q)]
      exact way_f h hr hf hv hX d (k + 1) _ (by omega) (by rw [show f v + (k + 1) = f v + k + 1 by omega]; exact hw2) (hst.mpr q)
    · rw [if_neg q, if_neg (fun z => q (hst.mp z))]
theorem way_b {Y : YS} {M X : MS} {f : Nat → Nat} {v : Nat} (h : yr Y M) (hr : rr Y M) (hf : fit M f) (hv : v < m_n M) (hX : atf M X f) :
    ∀ d k w, k + d = f v → (∀ c, c < 64 → (gb w c = true ↔ occ (m_ac M v) (m_li M v) (f v - k) (m_sz M v) c)) → w &&& y_brd Y (nI (p8 (m_n M) f)) (y_fil Y (nI (p8 (m_n M) f)) (m_n M)) (nI v) = 0 →
    y_wl (y_brd Y (nI (p8 (m_n M) f)) (y_fil Y (nI (p8 (m_n M) f)) (m_n M)) (nI v)) (-1) (nI (stpN (m_ac M v))) (nI (f v)) d k w = nI (m_wyL X v 0 (7 - k) k)
  | 0, k, w, hk, _, _ => by
    have hb := hf v hv
    rw [m_wyL_out, y_wl]
    · congr 1; omega
    · rintro ⟨⟨q, -⟩, -⟩
      unfold m_wya at q
      rw [if_pos rfl, hX.ep v hv, show f v = k by omega] at q
      refine q ?_
      rw [show nI k - 1 - nI k = (-1 : Int32) by
        apply Int32.toBitVec_inj.mp
        simp only [Int32.toBitVec_sub]
        generalize (nI k).toBitVec = x
        rw [BitVec.sub_sub, BitVec.add_comm, ← BitVec.sub_sub, BitVec.sub_self]
        rfl]
      decide
  | d + 1, k, w, hk, hw, hc => by
    have hb := hf v hv
    obtain ⟨⟨b1_, b2_, b3_, b4_⟩, -⟩ := h.2.2 v hv
    have hw2 := shf_b (a := m_ac M v) (s := m_sz M v) (w := w) (P := f v - (k + 1)) b4_ (by omega) (by rw [show f v - (k + 1) + 1 = f v - k by omega]; exact hw)
    have hst := way_step (P := f v - k) (g := f v - (k + 1)) (w1 := w) (w2 := y_shf (-1) (nI (stpN (m_ac M v))) w) h hr hf hv ⟨hX.e1, hX.e2, hX.e3, hX.e4, hX.e5⟩ hX.ep hX.ey hw
      (fun c hc q => by
        obtain ⟨i, hi, h2⟩ := (hw2 c hc).mp q
        rcases (show i = 0 ∨ 0 < i by omega) with z | z
        · exact Or.inr (by rw [h2]; congr 1; omega)
        · exact Or.inl ((hw c hc).mpr ⟨i - 1, by omega, by rw [h2]; congr 1; omega⟩))
      (by omega) ((hw2 _ (by have := m_cl_lt (a := m_ac M v) b4_ (show f v - (k + 1) < 6 by omega); omega)).mpr ⟨0, by omega, by congr 1⟩) (Or.inl (by omega)) hc
    have ha : m_wya X v 0 k = nI (f v - (k + 1)) := by
      unfold m_wya
      rw [if_pos rfl, hX.ep v hv, show (1 : Int32) = nI 1 from rfl, pk_sub (by omega), pk_sub (by omega)]
      congr 1; omega
    rw [m_wyL_in (by omega), ha, y_wl]
    by_cases q : m_opn X v (nI (f v - (k + 1)))
    · rw [if_pos q, if_pos (hst.mpr q)]
      exact way_b h hr hf hv hX d (k + 1) _ (by omega) hw2 (hst.mpr q)
    · rw [if_neg q, if_neg (fun z => q (hst.mp z))]
theorem way_clear {Y : YS} {M : MS} {f : Nat → Nat} {v : Nat} (h : yr Y M) (hr : rr Y M) (hf : fit M f) (hv : v < m_n M) (ho : offR M f) : y_cel Y (nI (p8 (m_n M) f)) (nI v) &&& y_brd Y (nI (p8 (m_n M) f)) (y_fil Y (nI (p8 (m_n M) f)) (m_n M)) (nI v) = 0 := by
  rw [gb_disj]
  intro c hc h1 h2
  have h3 := (gb_cel h hf hv hc).mp h1
  unfold y_brd at h2
  rw [gb_or, gb_and, gb_not _ hc, h1, nI_clamp (by have := h.2.1; omega), Bool.not_true, Bool.and_false, Bool.false_or, y_bar_gb h hr hv hc] at h2
  exact ho v hv h2.1 c h3 h2.2
theorem way_ok {Y : YS} {M X : MS} {f : Nat → Nat} {v : Nat} (h : yr Y M) (hr : rr Y M) (hf : fit M f) (hv : v < m_n M) (hX : atf M X f) (ho : offR M f) :
    y_way Y (nI (p8 (m_n M) f)) (y_fil Y (nI (p8 (m_n M) f)) (m_n M)) (nI v) 1 = nI (m_wy X v 1) ∧ y_way Y (nI (p8 (m_n M) f)) (y_fil Y (nI (p8 (m_n M) f)) (m_n M)) (nI v) (-1) = nI (m_wy X v 0) := by
  have hb := hf v hv
  have h9 := h.2.1
  obtain ⟨⟨b1_, b2_, b3_, b4_⟩, e1, e2, e3, e4⟩ := h.2.2 v hv
  have hcl := way_clear h hr hf hv ho
  have hcel := fun c hc => gb_cel (c := c) h hf hv hc
  have hpl := pl_p8 h9 (fit8 h hf) hv
  constructor
  · have ht : y_tb Y (nI (p8 (m_n M) f)) (nI v) 1 = nI (6 - (f v + m_sz M v)) := by
      unfold y_tb
      rw [if_pos rfl, nI_clamp (by omega), e1, hpl, show (6 : Int32) = nI 6 from rfl, pk_sub (by omega), pk_sub (by omega)]
      congr 1; omega
    unfold y_way
    rw [if_pos (y_has_of h hv), y_str_nI h hv, ht, nI_clamp (by omega)]
    exact way_f h hr hf hv hX _ 0 _ (by omega) hcel hcl
  · have ht : y_tb Y (nI (p8 (m_n M) f)) (nI v) (-1) = nI (f v) := by
      unfold y_tb
      rw [if_neg (by decide), hpl]
    unfold y_way
    rw [if_pos (y_has_of h hv), y_str_nI h hv, ht, nI_clamp (by omega)]
    exact way_b h hr hf hv hX _ 0 _ (by omega) hcel hcl
end
section
/-! PURE: a table of slots, probed one after the other -/
/-- n entries; T: which entry a slot holds (0: none); st i: where the probing for entry i begins -/
def tab (T : Nat → Nat) (st : Nat → Nat) (n : Nat) : Prop :=
  n ≤ 800 ∧ (∀ j, j < 2048 → T j ≤ n) ∧ cz T 2048 ≤ n ∧ ∀ i, i < n → ∃ t, t < 2048 ∧ T ((st i + t) % 2048) = i + 1 ∧ ∀ u, u < t → ¬ T ((st i + u) % 2048) = 0
/-- the slot r where the probing from s stops; K i: entry i has the key -/
def stopAt (T : Nat → Nat) (K : Nat → Prop) (s r : Nat) : Prop := ∃ k, k < 2048 ∧ r = (s + k) % 2048 ∧ (T r = 0 ∨ K (T r - 1)) ∧ ∀ u, u < k → ¬ T ((s + u) % 2048) = 0 ∧ ¬ K (T ((s + u) % 2048) - 1)
theorem tab_lt {T st : Nat → Nat} {n s k : Nat} (h : tab T st n) (hk : k ≤ 2048) (hv : ∀ i, i < k → ¬ T ((s + i) % 2048) = 0) : k < 2048 := by
  rcases Nat.lt_or_ge k 2048 with q | q
  · exact q
  · exfalso
    obtain ⟨j, h1, h2⟩ := cz_zero (f := T) 2048 (by have := h.1; have := h.2.2.1; omega)
    refine hv ((j + 2048 - s % 2048) % 2048) (by omega) ?_
    rw [show (s + (j + 2048 - s % 2048) % 2048) % 2048 = j by omega]
    exact h2
theorem tab_0 {T st : Nat → Nat} (h : ∀ j, j < 2048 → T j = 0) : tab T st 0 :=
  ⟨Nat.zero_le _, fun j hj => by rw [h j hj]; exact Nat.le_refl _, by rw [cz_0 2048 h]; exact Nat.le_refl _, fun i hi => absurd hi (Nat.not_lt_zero _)⟩
theorem stop_free {T st : Nat → Nat} {n s r : Nat} {K : Nat → Prop} (h : tab T st n) (hs : ∀ i, i < n → K i → st i = s) (hr : stopAt T K s r) : T r = 0 ↔ ∀ i, i < n → ¬ K i := by
  obtain ⟨k, hk, rfl, h1, h2⟩ := hr
  have hlt : (s + k) % 2048 < 2048 := Nat.mod_lt _ (by decide)
  constructor
  · intro h0 i hi hK
    obtain ⟨t, ht, h3, h4⟩ := h.2.2.2 i hi
    rw [hs i hi hK] at h3 h4
    rcases Nat.lt_trichotomy k t with q | q | q
    · exact h4 k q h0
    · subst q; rw [h0] at h3; omega
    · have := (h2 t q).2
      rw [h3] at this
      exact this hK
  · intro hn
    rcases h1 with h1 | h1
    · exact h1
    · by_cases h0 : T ((s + k) % 2048) = 0
      · exact h0
      · have := h.2.1 _ hlt
        exact absurd h1 (hn _ (by omega))
theorem tab_add {T st st2 : Nat → Nat} {n s r : Nat} {K : Nat → Prop} (h : tab T st n) (hn : n < 800) (hr : stopAt T K s r) (h0 : T r = 0) (hst : ∀ i, i < n → st2 i = st i) (hsn : st2 n = s) : tab (updN T r (n + 1)) st2 (n + 1) := by
  obtain ⟨k, hk, hrk, h1, h2⟩ := hr
  have hlt : r < 2048 := by rw [hrk]; exact Nat.mod_lt _ (by decide)
  refine ⟨by omega, fun j hj => ?_, ?_, fun i hi => ?_⟩
  · by_cases q : j = r
    · rw [q, updN_s]; exact Nat.le_refl _
    · rw [updN_n q]; have := h.2.1 j hj; omega
  · have := cz_upd (f := T) (k := r) (x := n + 1) 2048
    have := h.2.2.1
    split at * <;> omega
  · rcases (show i < n ∨ i = n by omega) with q | q
    · obtain ⟨t, ht, h3, h4⟩ := h.2.2.2 i q
      refine ⟨t, ht, ?_, fun u hu => ?_⟩
      · rw [hst i q, updN_n (fun z => by rw [z, h0] at h3; omega), h3]
      · rw [hst i q]
        by_cases z : (st i + u) % 2048 = r
        · rw [z, updN_s]; omega
        · rw [updN_n z]; exact h4 u hu
    · subst q
      refine ⟨k, hk, ?_, fun u hu => ?_⟩
      · rw [hsn, ← hrk, updN_s]
      · rw [hsn, updN_n (fun z => (h2 u hu).1 (by rw [z]; exact h0))]
        exact (h2 u hu).1
/-! the class's probing -/
def h_st (x : Int32) : Nat := (h_first x).toBitVec.toNat % 2048
theorem h_slot_nI (x : Int32) (k : Nat) : h_slot x k = nI ((h_st x + k) % 2048) := by
  unfold h_slot h_st
  rw [pk_and _ (m := 2047) 11 (by decide), Int32.toBitVec_add, BitVec.toNat_add, show (nI k).toBitVec = BitVec.ofNat 32 k from rfl, BitVec.toNat_ofNat]
  congr 1
  omega
theorem s_stop_iff {S : SS} {T : Nat → Nat} {x : Int32} {k : Nat} (hT : ∀ j, j < 2048 → s_sl S j = nI (T j)) (hv : ∀ j, j < 2048 → T j ≤ 800) : s_stop S x k ↔ (T ((h_st x + k) % 2048) = 0 ∨ s_fo S (T ((h_st x + k) % 2048) - 1) = x) := by
  have hlt : (h_st x + k) % 2048 < 2048 := Nat.mod_lt _ (by decide)
  unfold s_stop
  rw [h_slot_nI, nI_clamp (by omega), hT _ hlt]
  have h8 := hv _ hlt
  generalize T ((h_st x + k) % 2048) = t at h8 ⊢
  cases t with
  | zero => exact ⟨fun _ => Or.inl rfl, fun _ => Or.inl (by decide)⟩
  | succ m =>
    rw [nI_pred, nI_clamp (by omega), Nat.add_sub_cancel]
    constructor
    · rintro (q | q | q)
      · exact absurd q (nI_pos (by omega))
      · exact absurd ((nI_leI (a := 800) (by omega) (by omega)).mp q) (by omega)
      · exact Or.inr q
    · rintro (q | q)
      · omega
      · exact Or.inr (Or.inr q)
theorem s_slot_stop {S : SS} {T st : Nat → Nat} {n : Nat} {x : Int32} (hT : ∀ j, j < 2048 → s_sl S j = nI (T j)) (h : tab T st n) : ∀ d k, k + d = 2048 → (∀ u, u < k → ¬ T ((h_st x + u) % 2048) = 0 ∧ ¬ s_fo S (T ((h_st x + u) % 2048) - 1) = x) → ∃ r, r < 2048 ∧ s_slotL S x d k = nI r ∧ stopAt T (fun i => s_fo S i = x) (h_st x) r
  | 0, k, hk, hu => by
    have := tab_lt (s := h_st x) (k := k) h (by omega) (fun i hi => (hu i hi).1)
    omega
  | d + 1, k, hk, hu => by
    rw [s_slotL]
    have hs := s_stop_iff (x := x) (k := k) hT (fun j hj => by have := h.2.1 j hj; have := h.1; omega)
    by_cases q : s_stop S x k
    · rw [if_pos q]
      exact ⟨(h_st x + k) % 2048, Nat.mod_lt _ (by decide), h_slot_nI x k, k, by omega, rfl, hs.mp q, hu⟩
    · rw [if_neg q]
      refine s_slot_stop hT h d (k + 1) (by omega) (fun u hu2 => ?_)
      rcases (show u < k ∨ u = k by omega) with z | z
      · exact hu u z
      · subst z
        exact ⟨fun z => q (hs.mpr (Or.inl z)), fun z => q (hs.mpr (Or.inr z))⟩
/-! the reference's probing -/
theorem tk_stop {M : MS} {st : Nat → Nat} {n p s : Nat} (h : tab (m_sl M) st n) : ∀ d k, k + d = 2048 → (∀ u, u < k → ¬ m_sl M ((s + u) % 2048) = 0 ∧ ¬ m_fo M (m_sl M ((s + u) % 2048) - 1) = p) → stopAt (m_sl M) (fun i => m_fo M i = p) s (tkL M p d ((s + k) % 2048))
  | 0, k, hk, hu => by
    have := tab_lt (s := s) (k := k) h (by omega) (fun i hi => (hu i hi).1)
    omega
  | d + 1, k, hk, hu => by
    rw [tkL]
    by_cases q : ¬ m_sl M ((s + k) % 2048) = 0 ∧ ¬ m_fo M (m_sl M ((s + k) % 2048) - 1) = p
    · rw [if_pos q, show ((s + k) % 2048 + 1) % 2048 = (s + (k + 1)) % 2048 by omega]
      refine tk_stop h d (k + 1) (by omega) (fun u hu2 => ?_)
      rcases (show u < k ∨ u = k by omega) with z | z
      · exact hu u z
      · subst z; exact q
    · rw [if_neg q]
      refine ⟨k, by omega, rfl, ?_, hu⟩
      by_cases z : m_sl M ((s + k) % 2048) = 0
      · exact Or.inl z
      · by_cases w : m_fo M (m_sl M ((s + k) % 2048) - 1) = p
        · exact Or.inr w
        · exact absurd ⟨z, w⟩ q
end
section
/-! PURE: the class's list of found positions and the reference's -/
/-- no two on one cell -/
def noO (M : MS) (f : Nat → Nat) : Prop := ∀ u w c, u < m_n M → w < m_n M → occV M f u c → occV M f w c → u = w
theorem noO_c {M Z : MS} {f g : Nat → Nat} (h1 : m_n Z = m_n M) (h2 : m_sz Z = m_sz M) (h3 : m_ac Z = m_ac M) (h4 : m_li Z = m_li M) (hg : ∀ u, u < m_n M → g u = f u) (h : noO M f) : noO Z g := by
  intro u w c hu hw a1 a2
  rw [h1] at hu hw
  unfold occV at a1 a2
  rw [h2, h3, h4, hg u hu] at a1
  rw [h2, h3, h4, hg w hw] at a2
  exact h u w c hu hw a1 a2
theorem offR_c {M Z : MS} {f g : Nat → Nat} (h1 : m_n Z = m_n M) (h2 : m_sz Z = m_sz M) (h3 : m_ac Z = m_ac M) (h4 : m_li Z = m_li M) (h5 : m_rp Z = m_rp M) (hg : ∀ u, u < m_n M → g u = f u) (h : offR M f) : offR Z g := by
  intro u hu hz c hc
  rw [h1] at hu
  rw [h2] at hz
  unfold occV at hc
  rw [h2, h3, h4, hg u hu] at hc
  rw [h5]
  exact h u hu hz c hc
def good (M : MS) (f : Nat → Nat) : Prop := offR M f ∧ noO M f
theorem good_c {M Z : MS} {f g : Nat → Nat} (h1 : m_n Z = m_n M) (h2 : m_sz Z = m_sz M) (h3 : m_ac Z = m_ac M) (h4 : m_li Z = m_li M) (h5 : m_rp Z = m_rp M) (hg : ∀ u, u < m_n M → g u = f u) (h : good M f) : good Z g := ⟨offR_c h1 h2 h3 h4 h5 hg h.1, noO_c h1 h2 h3 h4 hg h.2⟩
def lnk (N : Nat) (S : SS) (W : MS) (i : Nat) : Prop :=
  (i = 0 ∧ m_fr W i = -1 ∧ m_dp W i = 0 ∧ m_by W i = 0) ∨
  (∃ (j v : Nat) (sg : Int32) (k : Nat), j < i ∧ v < N ∧ (sg = 1 ∨ sg = -1) ∧ 1 ≤ k ∧ k ≤ 4 ∧ (sg = -1 → k ≤ lk_g W j v) ∧ s_or S i = nI j ∧ m_fr W i = nI j ∧ m_dp W i = m_dp W j + 1 ∧ m_by W i = cdN v sg k ∧ ∀ u, u < N → lk_g W i u = updN (lk_g W j) v (stp sg (lk_g W j v) k) u)
def fnd (N : Nat) (S : SS) (W : MS) (i : Nat) : Prop := m_fo W i = ps N (lk_g W i) ∧ s_fo S i = nI (p8 N (lk_g W i)) ∧ s_mo S i = nI (m_by W i) ∧ good W (lk_g W i) ∧ lnk N S W i
def stale (W : MS) : Prop := ∀ i, i < 800 → m_dp W i ≤ i ∧ m_by W i < 1000 ∧ (0 < m_fr W i ∨ 0 < m_dp W i → ∃ j, j < i ∧ m_fr W i = nI j)
def sim (S : SS) (W : MS) : Prop := s_fc S = nI (m_fm W) ∧ (∃ T : Nat → Nat, (∀ j, j < 2048 → s_sl S j = nI (T j)) ∧ tab T (fun i => h_st (s_fo S i)) (m_fm W)) ∧ tab (m_sl W) (fun i => m_fo W i % 2048) (m_fm W) ∧ (∀ i, i < m_fm W → fnd (m_n W) S W i) ∧ s_fs S = m_ff W ∧ (m_ff W = -1 ∨ ∃ j, j < m_fm W ∧ m_ff W = nI j) ∧ stale W
theorem lk_fit {W : MS} {i : Nat} (h : look_ok W) (hi : i < m_fm W) : fit W (lk_g W i) := fun v hv => h.2.2 i hi v hv
theorem pl_fit {W : MS} (h : m_ok W) : fit W (m_pl W) := fun v hv => by
  obtain ⟨b1_, b2_, b3_, b4_, b5_, b6_⟩ := h.2.1 v hv
  exact b5_
theorem fitm8 {M : MS} {f : Nat → Nat} (h : m_ok M) (hf : fit M f) : ∀ v, v < m_n M → f v < 8 := fun v hv => by
  have := hf v hv; omega
theorem fitm6 {M : MS} {f : Nat → Nat} (h : m_ok M) (hf : fit M f) : ∀ v, v < m_n M → f v < 6 := fun v hv => by
  have := hf v hv; obtain ⟨b1_, b2_, b3_, b4_, b5_, b6_⟩ := h.2.1 v hv; omega
/-- what is to be taken in: its origin and its move -/
def newE (W : MS) (o c o2 : Int32) (x2 : Nat) : Prop :=
  c = nI x2 ∧ ((m_fm W = 0 ∧ o2 = -1 ∧ x2 = 0) ∨
  (∃ (j v : Nat) (sg : Int32) (k : Nat), j < m_fm W ∧ v < m_n W ∧ (sg = 1 ∨ sg = -1) ∧ 1 ≤ k ∧ k ≤ 4 ∧ (sg = -1 → k ≤ lk_g W j v) ∧ o = nI j ∧ o2 = nI j ∧ x2 = cdN v sg k ∧ ∀ u, u < m_n W → m_pl W u = updN (lk_g W j) v (stp sg (lk_g W j v) k) u))
theorem cdN_lt {v k : Nat} {sg : Int32} (hv : v < 9) (hk : k ≤ 4) : cdN v sg k < 1000 := by
  unfold cdN; split <;> omega
theorem same_key {W : MS} {f g : Nat → Nat} (hok : m_ok W) (hf : fit W f) (hg : fit W g) : nI (p8 (m_n W) f) = nI (p8 (m_n W) g) ↔ ps (m_n W) f = ps (m_n W) g := by
  have h9 := hok.1
  have b1_ := p8_bd h9 (fitm8 hok hf)
  have b2_ := p8_bd h9 (fitm8 hok hg)
  rw [nI_eq (by omega) (by omega)]
  exact ⟨fun h => ps_ext _ (p8_inj (fitm8 hok hf) (fitm8 hok hg) h), fun h => p8_ext _ (ps_inj (fitm6 hok hf) (fitm6 hok hg) h)⟩
theorem ff_same {W : MS} {x : Int32} (hok : m_ok W) (hx : x = nI (p8 (m_n W) (m_pl W))) (hf : m_ff W = -1 ∨ ∃ j, j < m_fm W ∧ m_ff W = nI j) (h8 : m_fm W ≤ 800) : (m_ff W = -1 ∧ pl x 0 = 4) ↔ (¬ 0 ≤ m_ff W ∧ m_free W) := by
  have e1 : m_ff W = -1 ↔ ¬ 0 ≤ m_ff W := by
    rcases hf with h | ⟨j, hj, h⟩
    · rw [h]; decide
    · rw [h]
      constructor
      · intro q
        have := congrArg Int32.toInt q
        rw [nI_toInt (by omega)] at this
        exact absurd this (by rw [show ((-1 : Int32)).toInt = -1 from rfl]; omega)
      · intro q; exact absurd (nI_pos' (by omega)) q
  have e2 : pl x 0 = 4 ↔ m_free W := by
    rw [hx]
    rcases Nat.eq_zero_or_pos (m_n W) with q | q
    · rw [q]
      constructor
      · intro z; exact absurd z (by rw [show p8 0 (m_pl W) = 0 from rfl]; decide)
      · rintro ⟨z, -⟩; omega
    · have hb := fitm8 hok (pl_fit hok) 0 q
      rw [show (0 : Int32) = nI 0 from rfl, pl_p8 hok.1 (fitm8 hok (pl_fit hok)) q, show (4 : Int32) = nI 4 from rfl, nI_eq (by omega) (by omega)]
      exact ⟨fun z => ⟨q, z⟩, fun z => z.2⟩
  rw [e1, e2]
theorem sim_takes {S : SS} {W : MS} {x o c o2 : Int32} {x2 : Nat} (hs : sim S W) (hl : look_ok W) (hx : x = nI (p8 (m_n W) (m_pl W))) (hoff : good W (m_pl W)) (hn : newE W o c o2 x2) : sim (s_addN S x o c) (m_takes W o2 x2) := by
  obtain ⟨s1, ⟨T, hT, s2⟩, s3, s4, s5, s6, s7⟩ := hs
  have hok := hl.1
  have h8 : m_fm W ≤ 800 := s3.1
  obtain ⟨r, hr, hsl, hst⟩ := s_slot_stop (x := x) hT s2 2048 0 rfl (fun u hu => absurd hu (Nat.not_lt_zero _))
  have tst := tk_stop (p := pnow W) (s := pnow W % 2048) s3 2048 0 rfl (fun u hu => absurd hu (Nat.not_lt_zero _))
  rw [show (pnow W % 2048 + 0) % 2048 = pnow W % 2048 by omega, show tkL W (pnow W) 2048 (pnow W % 2048) = tk_slot W from rfl] at tst
  have e1 := stop_free s2 (fun i _ hk => by show h_st (s_fo S i) = h_st x; rw [hk]) hst
  have e2 := stop_free s3 (fun i _ hk => by show m_fo W i % 2048 = pnow W % 2048; rw [hk]) tst
  have e3 : ∀ i, i < m_fm W → (s_fo S i = x ↔ m_fo W i = pnow W) := fun i hi => by
    rw [(s4 i hi).1, (s4 i hi).2.1, hx]
    exact same_key hok (lk_fit hl hi) (pl_fit hok)
  have e4 : T r = 0 ↔ m_sl W (tk_slot W) = 0 := by
    rw [e1, e2]
    exact ⟨fun h i hi q => h i hi ((e3 i hi).mpr q), fun h i hi q => h i hi ((e3 i hi).mp q)⟩
  have e5 : s_slot S x = nI r := hsl
  have e6 : ¬ s_full S (s_slot S x) ↔ (m_sl W (tk_slot W) = 0 ∧ m_fm W < 800) := by
    have hTr := s2.2.1 r hr
    unfold s_full
    rw [e5, s1, nI_clamp (by omega), hT r hr, ← e4]
    constructor
    · intro h
      refine ⟨?_, ?_⟩
      · by_cases q : nI (T r) = 0
        · exact (nI_eq (b := 0) (by omega) (by omega)).mp q
        · exact absurd (Or.inr (Or.inr (Or.inr (Or.inr q)))) h
      · rcases Nat.lt_or_ge (m_fm W) 800 with q | q
        · exact q
        · exact absurd (Or.inr (Or.inl ((nI_leI (a := 800) (by omega) (by omega)).mpr q))) h
    · rintro ⟨q1, q2⟩ (q | q | q | q | q)
      · exact nI_pos (by omega) q
      · exact absurd ((nI_leI (a := 800) (by omega) (by omega)).mp q) (by omega)
      · exact nI_pos (by omega) q
      · exact absurd ((nI_leI (a := 2048) (by omega) (by omega)).mp q) (by omega)
      · rw [q1] at q; exact q rfl
  unfold s_addN m_takes
  by_cases hfull : s_full S (s_slot S x)
  · rw [if_pos hfull, if_neg (fun z => (e6.mpr z) hfull)]
    exact ⟨s1, ⟨T, hT, s2⟩, s3, s4, s5, s6, s7⟩
  · have hin := e6.mp hfull
    rw [if_neg hfull, if_pos hin]
    have hfc : (s_fc S).toNatClampNeg = m_fm W := by rw [s1, nI_clamp (by omega)]
    rw [hfc, e5, nI_clamp (by omega)]
    have hlt : ∀ i, i < m_fm W → ¬ i = m_fm W := fun i hi => by omega
    have hpn : pnow W = ps (m_n W) (m_pl W) := rfl
    have hfo : ∀ i, i < m_fm W → updN (m_fo W) (m_fm W) (pnow W) i = m_fo W i := fun i hi => updN_n (hlt i hi)
    refine ⟨?_, ⟨updN T r (m_fm W + 1), ?_, ?_⟩, ?_, ?_, ?_, ?_, ?_⟩
    · show s_fc S + 1 = nI (m_fm W + 1)
      rw [s1, nI_1]
    · intro j hj
      show upd (s_sl S) r (s_fc S + 1) j = nI (updN T r (m_fm W + 1) j)
      by_cases q : j = r
      · subst q; rw [pk_us, updN_s, s1, nI_1]
      · rw [pk_un q, updN_n q, hT j hj]
    · show tab (updN T r (m_fm W + 1)) (fun i => h_st (upd (s_fo S) (m_fm W) x i)) (m_fm W + 1)
      refine tab_add s2 hin.2 hst (e4.mpr hin.1) (fun i hi => ?_) ?_
      · show h_st (upd (s_fo S) (m_fm W) x i) = h_st (s_fo S i)
        rw [pk_un (hlt i hi)]
      · show h_st (upd (s_fo S) (m_fm W) x (m_fm W)) = h_st x
        rw [pk_us]
    · show tab (updN (m_sl W) (tk_slot W) (m_fm W + 1)) (fun i => updN (m_fo W) (m_fm W) (pnow W) i % 2048) (m_fm W + 1)
      refine tab_add s3 hin.2 tst hin.1 (fun i hi => ?_) ?_
      · show updN (m_fo W) (m_fm W) (pnow W) i % 2048 = m_fo W i % 2048
        rw [hfo i hi]
      · show updN (m_fo W) (m_fm W) (pnow W) (m_fm W) % 2048 = pnow W % 2048
        rw [updN_s]
    · intro i hi
      have hi2 : i < m_fm W + 1 := hi
      have hgo : ∀ j, j < m_fm W → (fun v => dgN (updN (m_fo W) (m_fm W) (pnow W) j) v) = lk_g W j := fun j hj => by
        rw [hfo j hj]; rfl
      have hgn : ∀ u, u < m_n W → dgN (updN (m_fo W) (m_fm W) (pnow W) (m_fm W)) u = m_pl W u := fun u hu => by
        rw [updN_s, pnow_dg hok hu]
      rcases (show i < m_fm W ∨ i = m_fm W by omega) with q | q
      · obtain ⟨f1, f2, f3, f4, f5⟩ := s4 i q
        refine ⟨?_, ?_, ?_, ?_, ?_⟩
        · show updN (m_fo W) (m_fm W) (pnow W) i = ps (m_n W) (fun v => dgN (updN (m_fo W) (m_fm W) (pnow W) i) v)
          rw [hgo i q, hfo i q]; exact f1
        · show upd (s_fo S) (m_fm W) x i = nI (p8 (m_n W) (fun v => dgN (updN (m_fo W) (m_fm W) (pnow W) i) v))
          rw [hgo i q, pk_un (hlt i q)]; exact f2
        · show upd (s_mo S) (m_fm W) c i = nI (updN (m_by W) (m_fm W) x2 i)
          rw [pk_un (hlt i q), updN_n (hlt i q)]; exact f3
        · show good W (fun v => dgN (updN (m_fo W) (m_fm W) (pnow W) i) v)
          rw [hgo i q]; exact f4
        · rcases f5 with ⟨z0, z1, z2, z3⟩ | ⟨j, v, sg, k, z1, z2, z3, z4, z5, z6, z7, z8, z9, z10, z11⟩
          · refine Or.inl ⟨z0, ?_, ?_, ?_⟩
            · show upd (m_fr W) (m_fm W) o2 i = -1
              rw [pk_un (hlt i q)]; exact z1
            · show updN (m_dp W) (m_fm W) (tk_d W o2) i = 0
              rw [updN_n (hlt i q)]; exact z2
            · show updN (m_by W) (m_fm W) x2 i = 0
              rw [updN_n (hlt i q)]; exact z3
          · have hj : j < m_fm W := by omega
            refine Or.inr ⟨j, v, sg, k, z1, z2, z3, z4, z5, ?_, ?_, ?_, ?_, ?_, ?_⟩
            · show sg = -1 → k ≤ (fun v => dgN (updN (m_fo W) (m_fm W) (pnow W) j) v) v
              rw [hgo j hj]; exact z6
            · show upd (s_or S) (m_fm W) o i = nI j
              rw [pk_un (hlt i q)]; exact z7
            · show upd (m_fr W) (m_fm W) o2 i = nI j
              rw [pk_un (hlt i q)]; exact z8
            · show updN (m_dp W) (m_fm W) (tk_d W o2) i = updN (m_dp W) (m_fm W) (tk_d W o2) j + 1
              rw [updN_n (hlt i q), updN_n (hlt j hj)]; exact z9
            · show updN (m_by W) (m_fm W) x2 i = cdN v sg k
              rw [updN_n (hlt i q)]; exact z10
            · intro u hu
              show (fun v => dgN (updN (m_fo W) (m_fm W) (pnow W) i) v) u = updN (fun v => dgN (updN (m_fo W) (m_fm W) (pnow W) j) v) v (stp sg ((fun v => dgN (updN (m_fo W) (m_fm W) (pnow W) j) v) v) k) u
              rw [hgo i q, hgo j hj]; exact z11 u hu
      · rw [q]
        refine ⟨?_, ?_, ?_, ?_, ?_⟩
        · show updN (m_fo W) (m_fm W) (pnow W) (m_fm W) = ps (m_n W) (fun v => dgN (updN (m_fo W) (m_fm W) (pnow W) (m_fm W)) v)
          rw [ps_ext (m_n W) hgn, updN_s]; rfl
        · show upd (s_fo S) (m_fm W) x (m_fm W) = nI (p8 (m_n W) (fun v => dgN (updN (m_fo W) (m_fm W) (pnow W) (m_fm W)) v))
          rw [p8_ext (m_n W) hgn, pk_us]; exact hx
        · show upd (s_mo S) (m_fm W) c (m_fm W) = nI (updN (m_by W) (m_fm W) x2 (m_fm W))
          rw [pk_us, updN_s]; exact hn.1
        · show good W (fun v => dgN (updN (m_fo W) (m_fm W) (pnow W) (m_fm W)) v)
          exact good_c rfl rfl rfl rfl rfl hgn hoff
        · rcases hn.2 with ⟨z0, z1, z2⟩ | ⟨j, v, sg, k, z1, z2, z3, z4, z5, z6, z7, z8, z9, z10⟩
          · refine Or.inl ⟨z0, ?_, ?_, ?_⟩
            · show upd (m_fr W) (m_fm W) o2 (m_fm W) = -1
              rw [pk_us]; exact z1
            · show updN (m_dp W) (m_fm W) (tk_d W o2) (m_fm W) = 0
              rw [updN_s, z1]; rfl
            · show updN (m_by W) (m_fm W) x2 (m_fm W) = 0
              rw [updN_s]; exact z2
          · refine Or.inr ⟨j, v, sg, k, z1, z2, z3, z4, z5, ?_, ?_, ?_, ?_, ?_, ?_⟩
            · show sg = -1 → k ≤ (fun v => dgN (updN (m_fo W) (m_fm W) (pnow W) j) v) v
              rw [hgo j z1]; exact z6
            · show upd (s_or S) (m_fm W) o (m_fm W) = nI j
              rw [pk_us]; exact z7
            · show upd (m_fr W) (m_fm W) o2 (m_fm W) = nI j
              rw [pk_us]; exact z8
            · show updN (m_dp W) (m_fm W) (tk_d W o2) (m_fm W) = updN (m_dp W) (m_fm W) (tk_d W o2) j + 1
              rw [updN_s, updN_n (hlt j z1), tk_d, z8, if_pos (nI_pos' (by omega)), nI_clamp (by omega)]
            · show updN (m_by W) (m_fm W) x2 (m_fm W) = cdN v sg k
              rw [updN_s]; exact z9
            · intro u hu
              show dgN (updN (m_fo W) (m_fm W) (pnow W) (m_fm W)) u = updN (fun v => dgN (updN (m_fo W) (m_fm W) (pnow W) j) v) v (stp sg ((fun v => dgN (updN (m_fo W) (m_fm W) (pnow W) j) v) v) k) u
              rw [hgo j z1, hgn u hu]; exact z10 u hu
    · show (if s_fs S = -1 ∧ pl x 0 = 4 then s_fc S else s_fs S) = tk_f W
      have := ff_same hok hx s6 h8
      unfold tk_f
      rw [s5, s1]
      by_cases q : m_ff W = -1 ∧ pl x 0 = 4
      · rw [if_pos q, if_pos (this.mp q)]
      · rw [if_neg q, if_neg (fun z => q (this.mpr z))]
    · show tk_f W = -1 ∨ ∃ j, j < m_fm W + 1 ∧ tk_f W = nI j
      unfold tk_f
      split
      · exact Or.inr ⟨m_fm W, by omega, rfl⟩
      · rcases s6 with q | ⟨j, hj, q⟩
        · exact Or.inl q
        · exact Or.inr ⟨j, by omega, q⟩
    · intro i hi
      show updN (m_dp W) (m_fm W) (tk_d W o2) i ≤ i ∧ updN (m_by W) (m_fm W) x2 i < 1000 ∧ (0 < upd (m_fr W) (m_fm W) o2 i ∨ 0 < updN (m_dp W) (m_fm W) (tk_d W o2) i → ∃ j, j < i ∧ upd (m_fr W) (m_fm W) o2 i = nI j)
      by_cases q : i = m_fm W
      · subst q
        rw [updN_s, updN_s, pk_us]
        rcases hn.2 with ⟨z0, z1, z2⟩ | ⟨j, v, sg, k, z1, z2, z3, z4, z5, z6, z7, z8, z9, z10⟩
        · rw [z1, z2]
          refine ⟨Nat.zero_le _, by decide, fun z => ?_⟩
          rcases z with z | z
          · exact absurd z (by decide)
          · exact absurd z (by rw [show tk_d W (-1) = 0 from rfl]; decide)
        · rw [z8, z9]
          refine ⟨?_, cdN_lt (by have := hok.1; omega) z5, fun _ => ⟨j, z1, rfl⟩⟩
          rw [tk_d, if_pos (nI_pos' (by omega)), nI_clamp (by omega)]
          have := (s7 j (by omega)).1
          omega
      · rw [updN_n q, updN_n q, pk_un q]
        exact s7 i hi
end
section
/-! PURE: where a vehicle comes to stand -/
theorem wyL_opn {X : MS} {v : Nat} {f : Int32} : ∀ d k j, k ≤ j → j < m_wyL X v f d k → m_opn X v (m_wya X v f j)
  | 0, k, j, h1, h2 => by rw [m_wyL] at h2; omega
  | d + 1, k, j, h1, h2 => by
    rw [m_wyL] at h2
    by_cases q : m_opn X v (m_wya X v f k)
    · rw [if_pos q] at h2
      rcases (show k = j ∨ k + 1 ≤ j by omega) with z | z
      · subst z; exact q
      · exact wyL_opn d (k + 1) j z h2
    · rw [if_neg q] at h2; omega
theorem wy_opn {X : MS} {v j : Nat} {f : Int32} (h : j < m_wy X v f) : m_opn X v (m_wya X v f j) := wyL_opn 7 0 j (Nat.zero_le _) h
theorem opn_cell {M X : MS} {f : Nat → Nat} {v g : Nat} (ha : m_ac M v ≤ 1) (hl : m_li M v < 6) (hg : g < 6) (hX : atf M X f) (h : m_opn X v (nI g)) : (¬ ∃ u, u < m_n M ∧ occV M f u (m_cl (m_ac M v) (m_li M v) g)) ∧ (m_sz M v = 2 ∨ ¬ nI (m_cl (m_ac M v) (m_li M v) g) = m_rp M) := by
  have hc := m_cl_lt (a := m_ac M v) hl hg
  unfold m_opn at h
  rw [hX.e2, hX.e3, hX.e4, hX.e5, m_cli_nI ha, nI_clamp (by omega), hX.ey _ hc] at h
  exact h.2
theorem move_cells {M X : MS} {f : Nat → Nat} {v k : Nat} {sg : Int32} (hf : fit M f) (ha : m_ac M v ≤ 1) (hl : m_li M v < 6) (hv : v < m_n M) (hX : atf M X f) (hsg : sg = 1 ∨ sg = -1) (hk : k ≤ m_wy X v (m_fw sg)) (hb : sg = -1 → k ≤ f v) (hb2 : stp sg (f v) k + m_sz M v ≤ 6)
    {c : Nat} (hc : occ (m_ac M v) (m_li M v) (stp sg (f v) k) (m_sz M v) c) : occV M f v c ∨ ((¬ ∃ u, u < m_n M ∧ occV M f u c) ∧ (m_sz M v = 2 ∨ ¬ nI c = m_rp M)) := by
  obtain ⟨i, hi, rfl⟩ := hc
  have hfv := hf v hv
  rcases hsg with rfl | rfl
  · rw [stp, if_pos rfl] at hb2 ⊢
    by_cases q : k + i < m_sz M v
    · exact Or.inl ⟨k + i, q, by congr 1; omega⟩
    · refine Or.inr ?_
      have h := wy_opn (X := X) (v := v) (f := m_fw 1) (j := k + i - m_sz M v) (by omega)
      rw [m_wya, if_neg (by decide), hX.ep v hv, hX.e2, show f v + m_sz M v + (k + i - m_sz M v) = f v + k + i by omega] at h
      exact opn_cell ha hl (by omega) hX h
  · have hb := hb rfl
    rw [stp, if_neg (by decide)] at hb2 ⊢
    by_cases q : k ≤ i
    · exact Or.inl ⟨i - k, by omega, by congr 1; omega⟩
    · refine Or.inr ?_
      have h := wy_opn (X := X) (v := v) (f := m_fw (-1)) (j := k - 1 - i) (by omega)
      rw [m_wya, if_pos (by decide), hX.ep v hv, show (1 : Int32) = nI 1 from rfl, pk_sub (by omega), pk_sub (by omega), show f v - 1 - (k - 1 - i) = f v - k + i by omega] at h
      exact opn_cell ha hl (by omega) hX h
theorem off_move {M X : MS} {f : Nat → Nat} {v k : Nat} {sg : Int32} (hf : fit M f) (ha : m_ac M v ≤ 1) (hl : m_li M v < 6) (hv : v < m_n M) (hX : atf M X f) (hsg : sg = 1 ∨ sg = -1) (hk : k ≤ m_wy X v (m_fw sg)) (hb : sg = -1 → k ≤ f v) (hb2 : stp sg (f v) k + m_sz M v ≤ 6) (ho : offR M f) : offR M (updN f v (stp sg (f v) k)) := by
  intro u hu hz c hc
  by_cases q : u = v
  · subst q
    unfold occV at hc
    rw [updN_s] at hc
    rcases move_cells hf ha hl hu hX hsg hk hb hb2 hc with h | ⟨-, h⟩
    · exact ho u hu hz c h
    · rcases h with h | h
      · exact absurd h hz
      · exact h
  · unfold occV at hc
    rw [updN_n q] at hc
    exact ho u hu hz c hc
theorem noO_move {M X : MS} {f : Nat → Nat} {v k : Nat} {sg : Int32} (hf : fit M f) (ha : m_ac M v ≤ 1) (hl : m_li M v < 6) (hv : v < m_n M) (hX : atf M X f) (hsg : sg = 1 ∨ sg = -1) (hk : k ≤ m_wy X v (m_fw sg)) (hb : sg = -1 → k ≤ f v) (hb2 : stp sg (f v) k + m_sz M v ≤ 6) (hno : noO M f) : noO M (updN f v (stp sg (f v) k)) := by
  have key : ∀ w c, w < m_n M → ¬ w = v → occ (m_ac M v) (m_li M v) (stp sg (f v) k) (m_sz M v) c → occV M f w c → False := fun w c hw hne h1 h2 => by
    rcases move_cells hf ha hl hv hX hsg hk hb hb2 h1 with h | ⟨h, -⟩
    · exact hne (hno w v c hw hv h2 h)
    · exact h ⟨w, hw, h2⟩
  intro u w c hu hw h1 h2
  unfold occV at h1 h2
  by_cases q1 : u = v
  · by_cases q2 : w = v
    · rw [q1, q2]
    · subst q1
      rw [updN_s] at h1
      rw [updN_n q2] at h2
      exact (key w c hw q2 h1 h2).elim
  · rw [updN_n q1] at h1
    by_cases q2 : w = v
    · subst q2
      rw [updN_s] at h2
      exact (key u c hu q1 h2 h1).elim
    · rw [updN_n q2] at h2
      exact hno u w c hu hw h1 h2
/-- what a search leaves alone -/
def sfr (W V : MS) : Prop := m_n W = m_n V ∧ m_sz W = m_sz V ∧ m_ac W = m_ac V ∧ m_li W = m_li V ∧ m_rp W = m_rp V ∧ m_kp W = m_kp V ∧ m_mo W = m_mo V ∧ m_dr W = m_dr V ∧ m_pk W = m_pk V ∧ m_th W = m_th V
theorem sfr_rfl (W : MS) : sfr W W := ⟨rfl, rfl, rfl, rfl, rfl, rfl, rfl, rfl, rfl, rfl⟩
theorem sfr_tr {W V U : MS} (h1 : sfr W V) (h2 : sfr V U) : sfr W U := by
  obtain ⟨a1, a2, a3, a4, a5, a6, a7, a8, a9, a10⟩ := h1
  obtain ⟨c1, c2, c3, c4, c5, c6, c7, c8, c9, c10⟩ := h2
  exact ⟨a1.trans c1, a2.trans c2, a3.trans c3, a4.trans c4, a5.trans c5, a6.trans c6, a7.trans c7, a8.trans c8, a9.trans c9, a10.trans c10⟩
theorem sfr_takes (W : MS) (o : Int32) (x : Nat) : sfr (m_takes W o x) W := by
  unfold m_takes; split
  · exact sfr_rfl W
  · exact sfr_rfl W
theorem sfr_off {W V : MS} {f : Nat → Nat} (h : sfr W V) (ho : offR V f) : offR W f := by
  obtain ⟨a1, a2, a3, a4, a5, -⟩ := h
  intro v hv hz c hc
  unfold occV at hc
  rw [a1] at hv
  rw [a2] at hz
  rw [a2, a3, a4] at hc
  rw [a5]
  exact ho v hv hz c hc
theorem sfr_fit {W V : MS} {f : Nat → Nat} (h : sfr W V) (hf : fit V f) : fit W f := by
  obtain ⟨a1, a2, a3, a4, a5, -⟩ := h
  intro v hv
  rw [a1] at hv
  rw [a2]
  exact hf v hv
theorem sfr_yr {Y : YS} {W V : MS} (h : sfr W V) (hy : yr Y V) : yr Y W := by
  obtain ⟨a1, a2, a3, a4, a5, -⟩ := h
  unfold yr
  rw [a1, a2, a3, a4]
  exact hy
theorem sfr_rr {Y : YS} {W V : MS} (h : sfr W V) (hy : rr Y V) : rr Y W := by
  obtain ⟨a1, a2, a3, a4, a5, -⟩ := h
  unfold rr
  rw [a5]
  exact hy
/-- what was found stays found -/
def grow (W V : MS) : Prop := sfr W V ∧ m_yd W = m_yd V ∧ m_fm V ≤ m_fm W ∧ ∀ j, j < m_fm V → m_fo W j = m_fo V j
theorem grow_rfl (W : MS) : grow W W := ⟨sfr_rfl W, rfl, Nat.le_refl _, fun _ _ => rfl⟩
theorem grow_tr {W V U : MS} (h1 : grow W V) (h2 : grow V U) : grow W U :=
  ⟨sfr_tr h1.1 h2.1, h1.2.1.trans h2.2.1, Nat.le_trans h2.2.2.1 h1.2.2.1, fun j hj => (h1.2.2.2 j (by have := h2.2.2.1; omega)).trans (h2.2.2.2 j hj)⟩
theorem grow_takes (W : MS) (o : Int32) (x : Nat) : grow (m_takes W o x) W := by
  refine ⟨sfr_takes W o x, ?_⟩
  unfold m_takes; split
  · refine ⟨rfl, Nat.le_succ _, fun j hj => ?_⟩
    show updN (m_fo W) (m_fm W) (pnow W) j = m_fo W j
    exact updN_n (by omega)
  · exact ⟨rfl, Nat.le_refl _, fun _ _ => rfl⟩
theorem grow_pl (W : MS) (g : Nat → Nat) : grow (m_wPl W g) W := ⟨sfr_rfl W, rfl, Nat.le_refl _, fun _ _ => rfl⟩
theorem trL_grow {o v : Nat} {sg : Int32} {st most : Nat} : ∀ d k S, grow (trL o v sg st most d k S) S ∧ ∀ u, ¬ u = v → m_pl (trL o v sg st most d k S) u = m_pl S u
  | 0, _, S => ⟨grow_rfl S, fun _ _ => rfl⟩
  | d + 1, k, S => by
    rw [trL]
    by_cases h : k ≤ most
    · rw [if_pos h]
      obtain ⟨h1, h2⟩ := trL_grow (o := o) (v := v) (sg := sg) (st := st) (most := most) d (k + 1) (m_takes (m_wPl S (updN (m_pl S) v (stp sg st k))) (nI o) (cdN v sg k))
      refine ⟨grow_tr h1 (grow_tr (grow_takes _ _ _) (grow_pl S _)), fun u hu => ?_⟩
      rw [h2 u hu, m_takes_pl]
      exact updN_n hu
    · rw [if_neg h]; exact ⟨grow_rfl S, fun _ _ => rfl⟩
end
section
/-! PURE: looking further from each found position: both in the same order -/
theorem grow_lk {W V : MS} (h : grow W V) {j : Nat} (hj : j < m_fm V) : lk_g W j = lk_g V j := by
  funext u
  show dgN (m_fo W j) u = dgN (m_fo V j) u
  rw [h.2.2.2 j hj]
theorem mv_nI {n v k : Nat} {f : Nat → Nat} {sg : Int32} (hn : n ≤ 9) (hv : v < n) (hsg : sg = 1 ∨ sg = -1) (hb : sg = -1 → k ≤ f v) : mv (nI (p8 n f)) (nI v) (sg * nI k) = nI (p8 n (updN f v (stp sg (f v) k))) := by
  rcases hsg with rfl | rfl
  · rw [Int32.one_mul, mv_up hn hv, stp, if_pos rfl]
  · rw [Int32.neg_mul, Int32.one_mul, mv_dn hn hv (hb rfl), stp, if_neg (by decide)]
theorem code_nI {v k : Nat} {sg : Int32} (hsg : sg = 1 ∨ sg = -1) (hk : k ≤ 4) : m_code (nI v) (sg * nI k) = nI (cdN v sg k) := by
  unfold m_code
  rw [show (10 : Int32) * nI v = nI (10 * v) from pk_mul 10 v]
  exact cdN_nI hsg hk
theorem sim_trL {o v most : Nat} {sg : Int32} {f : Nat → Nat} {V : MS} (hsg : sg = 1 ∨ sg = -1) (hm : most ≤ 4) (hv : v < m_n V) (hb : ∀ k, k ≤ most → (sg = -1 → k ≤ f v) ∧ stp sg (f v) k + m_sz V v ≤ 6) (hoff : ∀ k, k ≤ most → good V (updN f v (stp sg (f v) k))) :
    ∀ d k S W, k + d = 5 → 1 ≤ k → sim S W → look_ok W → sfr W V → o < m_fm W → (∀ u, u < m_n V → lk_g W o u = f u) → (∀ u, u < m_n V → ¬ u = v → m_pl W u = f u) →
      sim (s_drvL (nI o) (nI v) sg (nI most) d k S) (trL o v sg (f v) most (9 - k) k W)
  | 0, k, S, W, hk, h1, hs, hl, hc, ho, hlo, hpl => by
    rw [s_drvL, trL_out (by omega)]; exact hs
  | d + 1, k, S, W, hk, h1, hs, hl, hc, ho, hlo, hpl => by
    have h8 : m_fm W ≤ 800 := hs.2.2.1.1
    have h9 := hl.1.1
    have hn : m_n W = m_n V := hc.1
    have hz : m_sz W = m_sz V := hc.2.1
    have ek : (nI k ≤ nI most ∧ nI k ≤ 4) ↔ k ≤ most := by
      constructor
      · rintro ⟨q, -⟩; exact (nI_leI (by omega) (by omega)).mp q
      · intro q; exact ⟨(nI_leI (by omega) (by omega)).mpr q, (nI_leI (b := 4) (by omega) (by omega)).mpr (by omega)⟩
    rw [s_drvL]
    by_cases q : k ≤ most
    · rw [if_pos (ek.mpr q), trL_in (by omega) q]
      obtain ⟨hb1, hb2⟩ := hb k q
      obtain ⟨f1, f2, -⟩ := hs.2.2.2.1 o ho
      have hlov : lk_g W o v = f v := hlo v hv
      have hl2 : look_ok (m_wPl W (updN (m_pl W) v (stp sg (f v) k))) := look_ok_pl hl (by rw [hz]; exact hb2)
      have hpl2 : ∀ u, u < m_n W → m_pl (m_wPl W (updN (m_pl W) v (stp sg (f v) k))) u = updN (lk_g W o) v (stp sg (lk_g W o v) k) u := fun u hu => by
        show updN (m_pl W) v (stp sg (f v) k) u = _
        by_cases z : u = v
        · subst z; rw [updN_s, updN_s, hlov]
        · rw [updN_n z, updN_n z, hpl u (by omega) z, hlo u (by omega)]
      have hx : mv (s_fo S (nI o).toNatClampNeg) (nI v) (sg * nI k) = nI (p8 (m_n W) (m_pl (m_wPl W (updN (m_pl W) v (stp sg (f v) k))))) := by
        rw [nI_clamp (by omega), f2, mv_nI h9 (by omega) hsg (by rw [hlov]; exact hb1), p8_ext (m_n W) hpl2]
      have hof2 : good (m_wPl W (updN (m_pl W) v (stp sg (f v) k))) (m_pl (m_wPl W (updN (m_pl W) v (stp sg (f v) k)))) := by
        refine good_c (M := V) hc.1 hc.2.1 hc.2.2.1 hc.2.2.2.1 hc.2.2.2.2.1 (fun u hu => ?_) (hoff k q)
        show updN (m_pl W) v (stp sg (f v) k) u = updN f v (stp sg (f v) k) u
        by_cases z : u = v
        · subst z; rw [updN_s, updN_s]
        · rw [updN_n z, updN_n z, hpl u hu z]
      have hnew : newE (m_wPl W (updN (m_pl W) v (stp sg (f v) k))) (nI o) (m_code (nI v) (sg * nI k)) (nI o) (cdN v sg k) :=
        ⟨code_nI hsg (by omega), Or.inr ⟨o, v, sg, k, ho, by rw [← hn] at hv; exact hv, hsg, h1, by omega, (show sg = -1 → k ≤ lk_g W o v by rw [hlov]; exact hb1), rfl, rfl, rfl, hpl2⟩⟩
      have hs2 : sim S (m_wPl W (updN (m_pl W) v (stp sg (f v) k))) := hs
      have hs3 := sim_takes hs2 hl2 hx hof2 hnew
      have hg := grow_tr (grow_takes (m_wPl W (updN (m_pl W) v (stp sg (f v) k))) (nI o) (cdN v sg k)) (grow_pl W _)
      refine sim_trL hsg hm hv hb hoff d (k + 1) _ _ (by omega) (by omega) hs3 (look_ok_takes hl2) (sfr_tr hg.1 hc) (by have := hg.2.2.1; omega) (fun u hu => ?_) (fun u hu hne => ?_)
      · rw [grow_lk hg ho]; exact hlo u hu
      · rw [m_takes_pl]
        show updN (m_pl W) v (stp sg (f v) k) u = f u
        rw [updN_n hne]; exact hpl u hu hne
    · rw [if_neg (fun z => q (ek.mp z)), trL_out q]; exact hs
/-- what holds while looking on from the found position o with the places f -/
def lkI (V : MS) (o : Nat) (f : Nat → Nat) (S : SS) (W : MS) : Prop := sim S W ∧ look_ok W ∧ sfr W V ∧ m_yd W = m_yd V ∧ o < m_fm W ∧ (∀ u, u < m_n V → lk_g W o u = f u) ∧ (∀ u, u < m_n V → m_pl W u = f u)
theorem sim_pl {S : SS} {W : MS} (g : Nat → Nat) (h : sim S W) : sim S (m_wPl W g) := h
theorem sim_tries {o v : Nat} {sg : Int32} {f : Nat → Nat} {V W : MS} {S : SS} (hsg : sg = 1 ∨ sg = -1) (hv : v < m_n V) (hok : m_ok V) (hfit : fit V f) (hlay : atf V V f) (ho : good V f) (h : lkI V o f S W) :
    m_wy W v (m_fw sg) = m_wy V v (m_fw sg) ∧ lkI V o f (s_drv S (nI o) (nI v) sg (nI (m_wy V v (m_fw sg)))) (m_tries W o v sg) ∧ grow (m_tries W o v sg) W := by
  obtain ⟨hs, hl, hc, hyd, hof, hlo, hpl⟩ := h
  have hpv := hpl v hv
  have h8 : m_fm W ≤ 800 := hs.2.2.1.1
  have hn : m_n W = m_n V := hc.1
  have hz : m_sz W = m_sz V := hc.2.1
  have ha : m_ac W = m_ac V := hc.2.2.1
  have hli : m_li W = m_li V := hc.2.2.2.1
  have hrp : m_rp W = m_rp V := hc.2.2.2.2.1
  have hwl : ∀ d k, m_wyL W v (m_fw sg) d k = m_wyL V v (m_fw sg) d k := by
    intro d
    induction d with
    | zero => intro k; rfl
    | succ d ih =>
      intro k
      have e : m_opn W v (m_wya W v (m_fw sg) k) ↔ m_opn V v (m_wya V v (m_fw sg) k) := by
        unfold m_opn m_wya
        rw [hyd, hz, ha, hli, hrp, hpv, hlay.ep v hv]
      rw [m_wyL, m_wyL, ih]
      by_cases q : m_opn V v (m_wya V v (m_fw sg) k)
      · rw [if_pos q, if_pos (e.mpr q)]
      · rw [if_neg q, if_neg (fun z => q (e.mp z))]
  have hw : m_wy W v (m_fw sg) = m_wy V v (m_fw sg) := hwl 7 0
  obtain ⟨b1_, b2_, b3_, b4_, b5_, b6_⟩ := hok.2.1 v hv
  have hb : ∀ k, k ≤ m_wy V v (m_fw sg) → (sg = -1 → k ≤ f v) ∧ stp sg (f v) k + m_sz V v ≤ 6 := fun k hk => by
    have := m_tr_b hok hv hsg hk
    rw [hlay.ep v hv] at this
    exact ⟨this.1, this.2.1⟩
  have hm : m_wy V v (m_fw sg) ≤ 4 := (m_tr_b hok hv hsg (Nat.le_refl _)).2.2
  have hoff : ∀ k, k ≤ m_wy V v (m_fw sg) → good V (updN f v (stp sg (f v) k)) := fun k hk => ⟨off_move hfit b3_ b4_ hv hlay hsg hk (hb k hk).1 (hb k hk).2 ho.1, noO_move hfit b3_ b4_ hv hlay hsg hk (hb k hk).1 (hb k hk).2 ho.2⟩
  have h1 := sim_trL hsg hm hv hb hoff 4 1 S W rfl (Nat.le_refl _) hs hl hc hof hlo (fun u hu _ => hpl u hu)
  have h2 := look_ok_tries (o := o) (v := v) (sg := sg) hl (by rw [hn]; exact hv) hsg
  have h3 := trL_grow (o := o) (v := v) (sg := sg) (st := m_pl W v) (most := m_wy W v (m_fw sg)) 8 1 W
  have h4 : grow (m_tries W o v sg) W := by
    rw [m_tries]
    exact grow_tr (grow_pl _ _) h3.1
  refine ⟨hw, ⟨?_, h2.1, sfr_tr h4.1 hc, h4.2.1.trans hyd, by have := h4.2.2.1; omega, fun u hu => ?_, fun u hu => ?_⟩, h4⟩
  · have hisF : s_isF S (nI o) := by
      refine ⟨nI_pos (by omega), ?_, ?_⟩
      · rw [hs.1]; exact fun q => absurd ((nI_leI (by omega) (by omega)).mp q) (by omega)
      · exact fun q => absurd ((nI_leI (a := 800) (by omega) (by omega)).mp q) (by omega)
    rw [show (9 : Nat) - 1 = 8 from rfl] at h1
    have e1 : s_drv S (nI o) (nI v) sg (nI (m_wy V v (m_fw sg))) = s_drvL (nI o) (nI v) sg (nI (m_wy V v (m_fw sg))) 4 1 S := by
      rw [s_drv, if_pos hisF]
    have e2 : m_tries W o v sg = m_wPl (trL o v sg (f v) (m_wy V v (m_fw sg)) 8 1 W) (updN (m_pl (trL o v sg (f v) (m_wy V v (m_fw sg)) 8 1 W)) v (f v)) := by
      rw [m_tries, hw, hpv]
    rw [e1, e2]
    exact sim_pl _ h1
  · rw [grow_lk h4 hof]; exact hlo u hu
  · rw [m_tries]
    generalize trL o v sg (m_pl W v) (m_wy W v (m_fw sg)) 8 1 W = Z at h3 ⊢
    show updN (m_pl Z) v (m_pl W v) u = f u
    by_cases z : u = v
    · subst z; rw [updN_s]; exact hpv
    · rw [updN_n z, h3.2 u z]; exact hpl u hu
theorem sim_vL {Y : YS} {o : Nat} {f : Nat → Nat} {V : MS} (hy : yr Y V) (hr : rr Y V) (hok : m_ok V) (hfit : fit V f) (hlay : atf V V f) (ho : good V f) :
    ∀ d v S W, v + d = m_n V → lkI V o f S W → lkI V o f (s_reachL Y (nI o) (nI (p8 (m_n V) f)) (y_fil Y (nI (p8 (m_n V) f)) (m_n V)) d v S) (lk_vL o d v W) ∧ grow (lk_vL o d v W) W
  | 0, v, S, W, _, h => ⟨h, grow_rfl W⟩
  | d + 1, v, S, W, hd, h => by
    have hw := way_ok (v := v) hy hr hfit (by omega) hlay ho.1
    rw [s_reachL, lk_vL, hw.1, hw.2]
    obtain ⟨-, h1, g1⟩ := sim_tries (v := v) (sg := -1) (Or.inr rfl) (by omega) hok hfit hlay ho h
    rw [show m_fw (-1) = 0 from rfl] at h1
    obtain ⟨-, h2, g2⟩ := sim_tries (v := v) (sg := 1) (Or.inl rfl) (by omega) hok hfit hlay ho h1
    rw [show m_fw 1 = 1 from rfl] at h2
    have h3 := sim_vL hy hr hok hfit hlay ho d (v + 1) _ _ (by omega) h2
    exact ⟨h3.1, grow_tr h3.2 (grow_tr g2 g1)⟩
end
section
/-! PURE: the whole search -/
def kept (W V : MS) : Prop := sfr W V ∧ m_fm V ≤ m_fm W ∧ ∀ j, j < m_fm V → m_fo W j = m_fo V j
theorem kept_rfl (W : MS) : kept W W := ⟨sfr_rfl W, Nat.le_refl _, fun _ _ => rfl⟩
theorem kept_tr {W V U : MS} (h1 : kept W V) (h2 : kept V U) : kept W U :=
  ⟨sfr_tr h1.1 h2.1, Nat.le_trans h2.2.1 h1.2.1, fun j hj => (h1.2.2 j (by have := h2.2.1; omega)).trans (h2.2.2 j hj)⟩
theorem kept_lay (W : MS) (k : Nat) : kept (lk_lay W k) W := ⟨sfr_rfl W, Nat.le_refl _, fun _ _ => rfl⟩
theorem sim_lay {S : SS} {W : MS} (k : Nat) (h : sim S W) : sim S (lk_lay W k) := h
theorem atf_lay {W : MS} {k : Nat} : atf (lk_lay W k) (lk_lay W k) (lk_g W k) := by
  refine ⟨rfl, rfl, rfl, rfl, rfl, fun u hu => ?_, fun c hc => ?_⟩
  · show cpN (m_pl W) (lk_g W k) (m_n W) u = lk_g W k u
    rw [cpN, if_pos (show u < m_n W from hu)]
  · have h := lay_0 (m_wPl W (cpN (m_pl W) (lk_g W k) (m_n W))) hc
    rw [show lk_lay W k = m_lay (m_wPl W (cpN (m_pl W) (lk_g W k) (m_n W))) from rfl, h]
    have e : ∀ u, u < m_n W → (occ (m_ac W u) (m_li W u) (cpN (m_pl W) (lk_g W k) (m_n W) u) (m_sz W u) c ↔ occ (m_ac W u) (m_li W u) (lk_g W k u) (m_sz W u) c) := fun u hu => by
      rw [cpN, if_pos hu]
    constructor
    · rintro hq ⟨u, hu, hc2⟩
      exact hq ⟨u, hu, (e u hu).mpr hc2⟩
    · rintro hq ⟨u, hu, hc2⟩
      exact hq ⟨u, hu, (e u hu).mp hc2⟩
theorem sim_isF {S : SS} {W : MS} {k : Nat} (hs : sim S W) (hk : k < m_fm W) : s_isF S (nI k) := by
  have h8 : m_fm W ≤ 800 := hs.2.2.1.1
  refine ⟨nI_pos (by omega), ?_, ?_⟩
  · rw [hs.1]; exact fun q => absurd ((nI_leI (by omega) (by omega)).mp q) (by omega)
  · exact fun q => absurd ((nI_leI (a := 800) (by omega) (by omega)).mp q) (by omega)
theorem sim_one {Y : YS} {S : SS} {W : MS} {k : Nat} (hs : sim S W) (hl : look_ok W) (hk : k < m_fm W) (hy : yr Y W) (hr : rr Y W) : sim (s_reach Y S (nI k)) (lk_one W k) ∧ look_ok (lk_one W k) ∧ kept (lk_one W k) W := by
  have h8 : m_fm W ≤ 800 := hs.2.2.1.1
  have hl2 := look_ok_lay hl hk
  have hfit : fit (lk_lay W k) (lk_g W k) := fun v hv => hl.2.2 k hk v hv
  obtain ⟨f1, f2, f3, f4, f5⟩ := hs.2.2.2.1 k hk
  have hI : lkI (lk_lay W k) k (lk_g W k) S (lk_lay W k) := ⟨sim_lay k hs, hl2, sfr_rfl _, rfl, hk, fun _ _ => rfl, (atf_lay (W := W) (k := k)).ep⟩
  have hy2 : yr Y (lk_lay W k) := sfr_yr (kept_lay W k).1 hy
  have hr2 : rr Y (lk_lay W k) := sfr_rr (kept_lay W k).1 hr
  have ho2 : good (lk_lay W k) (lk_g W k) := good_c (M := W) rfl rfl rfl rfl rfl (fun _ _ => rfl) f4
  have h := sim_vL (o := k) hy2 hr2 hl2.1 hfit atf_lay ho2 (m_n W) 0 S (lk_lay W k) (Nat.zero_add _) hI
  have e1 : s_reach Y S (nI k) = s_reachL Y (nI k) (nI (p8 (m_n (lk_lay W k)) (lk_g W k))) (y_fil Y (nI (p8 (m_n (lk_lay W k)) (lk_g W k))) (m_n (lk_lay W k))) (m_n W) 0 S := by
    rw [s_reach, if_pos (sim_isF hs hk), nI_clamp (by omega), f2, hy.1]; rfl
  rw [e1, show lk_one W k = lk_vL k (m_n W) 0 (lk_lay W k) from rfl]
  exact ⟨h.1.1, h.1.2.1, kept_tr ⟨h.2.1, h.2.2.2.1, h.2.2.2.2⟩ (kept_lay W k)⟩
theorem sim_lkL {Y : YS} : ∀ d k S W, k + d = 800 → sim S W → look_ok W → yr Y W → rr Y W → sim (s_lookL Y d k S) (lkL d k W) ∧ look_ok (lkL d k W) ∧ kept (lkL d k W) W
  | 0, _, S, W, _, hs, hl, _, _ => ⟨hs, hl, kept_rfl W⟩
  | d + 1, k, S, W, hd, hs, hl, hy, hr => by
    have h8 : m_fm W ≤ 800 := hs.2.2.1.1
    have e : (¬ s_fc S ≤ nI k ∧ ¬ 800 ≤ s_fc S) ↔ (k < m_fm W ∧ m_fm W < 800) := by
      rw [hs.1, nI_leI (by omega) (by omega), show (800 : Int32) = nI 800 from rfl, nI_leI (by omega) (by omega)]
      omega
    rw [s_lookL, lkL]
    by_cases q : k < m_fm W ∧ m_fm W < 800
    · rw [if_pos q, if_pos (e.mpr q)]
      obtain ⟨h1, h2, h3⟩ := sim_one hs hl q.1 hy hr
      obtain ⟨h4, h5, h6⟩ := sim_lkL d (k + 1) _ _ (by omega) h1 h2 (sfr_yr h3.1 hy) (sfr_rr h3.1 hr)
      exact ⟨h4, h5, kept_tr h6 h3⟩
    · rw [if_neg q, if_neg (fun z => q (e.mp z))]
      exact ⟨hs, hl, kept_rfl W⟩
theorem sim_new {S : SS} {M : MS} (hst : stale M) : sim (s_new S) (m_w0 M) := by
  refine ⟨rfl, ⟨fun _ => 0, fun j hj => ?_, tab_0 (fun _ _ => rfl)⟩, tab_0 (fun j hj => ?_), fun i hi => absurd hi (Nat.not_lt_zero _), rfl, Or.inl rfl, hst⟩
  · show fillF (s_sl S) 2048 0 j = nI 0
    rw [fillF, if_pos hj]; rfl
  · show fillN (m_sl M) 2048 j = 0
    rw [fillN, if_pos hj]
theorem takes_root (M : MS) : m_fm (m_takes (m_w0 M) (-1) 0) = 1 ∧ m_fo (m_takes (m_w0 M) (-1) 0) 0 = pnow M := by
  have h : m_sl (m_w0 M) (tk_slot (m_w0 M)) = 0 ∧ m_fm (m_w0 M) < 800 := by
    refine ⟨?_, (by decide : (0 : Nat) < 800)⟩
    show fillN (m_sl M) 2048 (tk_slot (m_w0 M)) = 0
    rw [fillN, if_pos (tk_slot_lt _)]
  rw [m_takes, if_pos h]
  refine ⟨rfl, ?_⟩
  show updN (m_fo (m_w0 M)) 0 (pnow M) 0 = pnow M
  exact updN_s
theorem s_trL_keep : ∀ d k ix S, s_fo (s_trL d k ix S) = s_fo S ∧ s_or (s_trL d k ix S) = s_or S ∧ s_mo (s_trL d k ix S) = s_mo S ∧ s_sl (s_trL d k ix S) = s_sl S ∧ s_fc (s_trL d k ix S) = s_fc S ∧ s_fs (s_trL d k ix S) = s_fs S
  | 0, _, _, _ => ⟨rfl, rfl, rfl, rfl, rfl, rfl⟩
  | d + 1, k, ix, S => by
    rw [s_trL]
    split
    · exact s_trL_keep d (k + 1) _ _
    · exact ⟨rfl, rfl, rfl, rfl, rfl, rfl⟩
theorem sim_keep {S S2 : SS} {W : MS} (h : s_fo S2 = s_fo S ∧ s_or S2 = s_or S ∧ s_mo S2 = s_mo S ∧ s_sl S2 = s_sl S ∧ s_fc S2 = s_fc S ∧ s_fs S2 = s_fs S) (hs : sim S W) : sim S2 W := by
  obtain ⟨h1, h2, h3, h4, h5, h6⟩ := h
  unfold sim fnd lnk at hs ⊢
  rw [h1, h2, h3, h4, h5, h6]
  exact hs
/-- the search, whole: S1 the class's list before tracing back, Z the reference after looking -/
theorem look_sim {Y : YS} {S : SS} {M : MS} {x : Int32} (hy : yr Y M) (hr : rr Y M) (hok : m_ok M) (hst : stale M) (hoff : good M (m_pl M)) (hx : x = nI (p8 (m_n M) (m_pl M))) :
    sim (s_lookL Y 800 0 (s_addN (s_new S) x 0 0)) (m_look M) ∧ look_ok (m_look M) ∧ (∀ u, u < m_n M → m_pl (m_look M) u = m_pl M u) ∧ 0 < m_fm (m_look M) ∧ (∀ u, u < m_n M → lk_g (m_look M) 0 u = m_pl M u) ∧
    m_n (m_look M) = m_n M ∧ m_sz (m_look M) = m_sz M ∧ m_ac (m_look M) = m_ac M ∧ m_li (m_look M) = m_li M ∧ m_rp (m_look M) = m_rp M ∧ m_mo (m_look M) = m_mo M ∧ m_dr (m_look M) = m_dr M ∧ m_pk (m_look M) = m_pk M ∧ m_th (m_look M) = m_th M := by
  have hl0 := look_ok_w0 hok
  have hs0 := sim_takes (o := 0) (c := 0) (o2 := -1) (x2 := 0) (sim_new (S := S) hst) hl0 hx hoff ⟨rfl, Or.inl ⟨rfl, rfl, rfl⟩⟩
  have hl1 := look_ok_takes (o := -1) (x := 0) hl0
  have hsf := sfr_takes (m_w0 M) (-1) 0
  have hy0 : yr Y (m_w0 M) := hy
  have hr0 : rr Y (m_w0 M) := hr
  obtain ⟨h1, h2, h3, h4, h5⟩ := sim_lkL 800 0 _ _ rfl hs0 hl1 (sfr_yr hsf hy0) (sfr_rr hsf hr0)
  obtain ⟨r1, r2⟩ := takes_root M
  rw [r1] at h4 h5
  have h6 := h5 0 (by decide)
  rw [r2] at h6
  have hs9 := sfr_tr h3 hsf
  unfold m_look
  generalize lkL 800 0 (m_takes (m_w0 M) (-1) 0) = Z at h1 h2 h4 h6 hs9 ⊢
  obtain ⟨a1, a2, a3, a4, a5, a6, a7, a8, a9, a10⟩ := hs9
  have ekp : ∀ u, u < m_n M → m_pl (m_fin Z) u = m_pl M u := fun u hu => by
    show cpN (m_pl Z) (m_kp Z) (m_n Z) u = m_pl M u
    rw [cpN, if_pos (by rw [a1]; exact hu), a6]
    show cpN (m_kp M) (m_pl M) (m_n M) u = m_pl M u
    rw [cpN, if_pos hu]
  have hokF : m_ok (m_fin Z) := by
    refine ⟨h2.1.1, fun v hv => ?_, h2.1.2.2⟩
    obtain ⟨b1_, b2_, b3_, b4_, b5_, b6_⟩ := h2.1.2.1 v hv
    refine ⟨b1_, b2_, b3_, b4_, ?_, b6_⟩
    have hv2 : v < m_n M := by have : v < m_n Z := hv; rw [a1] at this; exact this
    rw [ekp v hv2]
    show m_pl M v + m_sz Z v ≤ 6
    rw [a2]
    exact (hok.2.1 v hv2).2.2.2.2.1
  exact ⟨sim_pl _ h1, ⟨hokF, h2.2.1, h2.2.2⟩, ekp, h4, fun u hu => by
    show dgN (m_fo Z 0) u = m_pl M u
    rw [h6, pnow_dg hok hu], a1, a2, a3, a4, a5, a7, a8, a9, a10⟩
end
section
/-! PURE: tracing back -/
theorem lnk_up {N : Nat} {S : SS} {W : MS} {i : Nat} (h : lnk N S W i) (h0 : 0 < i) : ∃ (j v : Nat) (sg : Int32) (k : Nat), j < i ∧ v < N ∧ (sg = 1 ∨ sg = -1) ∧ 1 ≤ k ∧ k ≤ 4 ∧ (sg = -1 → k ≤ lk_g W j v) ∧ s_or S i = nI j ∧ m_fr W i = nI j ∧ m_dp W i = m_dp W j + 1 ∧ m_by W i = cdN v sg k ∧ ∀ u, u < N → lk_g W i u = updN (lk_g W j) v (stp sg (lk_g W j v) k) u := by
  rcases h with ⟨q, -⟩ | h
  · omega
  · exact h
theorem lnk_0 {N : Nat} {S : SS} {W : MS} (h : lnk N S W 0) : m_fr W 0 = -1 ∧ m_dp W 0 = 0 ∧ m_by W 0 = 0 := by
  rcases h with ⟨-, q⟩ | ⟨j, v, sg, k, q, -⟩
  · exact q
  · omega
theorem sim_lnk {S : SS} {W : MS} (hs : sim S W) {i : Nat} (hi : i < m_fm W) : lnk (m_n W) S W i := (hs.2.2.2.1 i hi).2.2.2.2
def tcL (W : MS) : Nat → Nat → Int32
  | 0, _ => 0
  | d + 1, i => if i = 0 then 0 else iabs (m_cells (nI (m_by W i))) + tcL W d (m_fr W i).toNatClampNeg
theorem tcL_fuel {S : SS} {W : MS} (hs : sim S W) : ∀ d e i, i ≤ d → i ≤ e → i < m_fm W → tcL W d i = tcL W e i
  | 0, 0, _, _, _, _ => rfl
  | 0, e + 1, i, h1, _, _ => by rw [tcL, tcL, if_pos (by omega)]
  | d + 1, 0, i, _, h2, _ => by rw [tcL, tcL, if_pos (by omega)]
  | d + 1, e + 1, i, h1, h2, hi => by
    rw [tcL, tcL]
    by_cases q : i = 0
    · rw [if_pos q, if_pos q]
    · have h8 : m_fm W ≤ 800 := hs.2.2.1.1
      rw [if_neg q, if_neg q]
      obtain ⟨j, v, sg, k, z1, z2, z3, z4, z5, z6, z7, z8, z9, z10, z11⟩ := lnk_up (sim_lnk hs hi) (by omega)
      rw [z8, nI_clamp (by omega), tcL_fuel hs d e j (by omega) (by omega) (by omega)]
theorem fmvL_fuel {S : SS} {W : MS} (hs : sim S W) : ∀ d e i, i ≤ d → i ≤ e → i < m_fm W → fmvL W d i = fmvL W e i
  | 0, 0, _, _, _, _ => rfl
  | 0, e + 1, i, h1, _, hi => by
    have h0 : i = 0 := by omega
    subst h0
    rw [fmvL_out (by rw [(lnk_0 (sim_lnk hs hi)).1]; decide), fmvL_out (by rw [(lnk_0 (sim_lnk hs hi)).1]; decide)]
  | d + 1, 0, i, _, h2, hi => by
    have h0 : i = 0 := by omega
    subst h0
    rw [fmvL_out (by rw [(lnk_0 (sim_lnk hs hi)).1]; decide), fmvL_out (by rw [(lnk_0 (sim_lnk hs hi)).1]; decide)]
  | d + 1, e + 1, i, h1, h2, hi => by
    rw [fmvL, fmvL]
    by_cases q : i = 0
    · subst q
      rw [if_neg (by rw [(lnk_0 (sim_lnk hs hi)).1]; decide), if_neg (by rw [(lnk_0 (sim_lnk hs hi)).1]; decide)]
    · have h8 : m_fm W ≤ 800 := hs.2.2.1.1
      obtain ⟨j, v, sg, k, z1, z2, z3, z4, z5, z6, z7, z8, z9, z10, z11⟩ := lnk_up (sim_lnk hs hi) (by omega)
      rw [z8, nI_clamp (by omega), fmvL_fuel hs d e j (by omega) (by omega) (by omega)]
theorem s_tr_ok {W : MS} : ∀ d k i S, sim S W → i ≤ d → i < m_fm W → 1 ≤ k →
    s_sm (s_trL d k (nI i) S) = (if i = 0 then s_sm S else nI (k - 1 + m_dp W i)) ∧ s_sc (s_trL d k (nI i) S) = s_sc S + tcL W d i ∧ s_sf (s_trL d k (nI i) S) = (if i = 0 then s_sf S else nI (m_by W (fmvL W d i)))
  | 0, k, i, S, hs, h1, hi, hk => by
    have h0 : i = 0 := by omega
    rw [if_pos h0, if_pos h0, s_trL, tcL, Int32.add_zero]
    exact ⟨rfl, rfl, rfl⟩
  | d + 1, k, i, S, hs, h1, hi, hk => by
    have h8 : m_fm W ≤ 800 := hs.2.2.1.1
    by_cases q : i = 0
    · rw [if_pos q, if_pos q, s_trL, tcL, if_pos q, Int32.add_zero, if_neg (fun z => by rw [q] at z; exact z.1 (by decide))]
      exact ⟨rfl, rfl, rfl⟩
    · obtain ⟨j, v, sg, kk, z1, z2, z3, z4, z5, z6, z7, z8, z9, z10, z11⟩ := lnk_up (sim_lnk hs hi) (by omega)
      have hmo := (hs.2.2.2.1 i hi).2.2.1
      have hc : ¬ nI i ≤ 0 ∧ s_isF S (nI i) := ⟨nI_nle (by omega) (by omega), sim_isF hs hi⟩
      rw [if_neg q, if_neg q, s_trL, if_pos hc, nI_clamp (by omega), z7, hmo]
      have ih := s_tr_ok d (k + 1) j (s_fo S, s_or S, s_mo S, s_sl S, s_fc S, s_fs S, nI k, s_sc S + iabs (m_cells (nI (m_by W i))), nI (m_by W i)) (sim_keep ⟨rfl, rfl, rfl, rfl, rfl, rfl⟩ hs) (by omega) (by omega) (by omega)
      obtain ⟨i1, i2, i3⟩ := ih
      refine ⟨?_, ?_, ?_⟩
      · rw [i1]
        by_cases w : j = 0
        · subst w
          rw [if_pos rfl, z9, (lnk_0 (sim_lnk hs (by omega))).2.1]
          show nI k = _
          congr 1; omega
        · rw [if_neg w, z9]; congr 1; omega
      · rw [i2, tcL, if_neg q, z8, nI_clamp (by omega)]
        show s_sc S + iabs (m_cells (nI (m_by W i))) + tcL W d j = _
        rw [Int32.add_assoc]
      · rw [i3, fmvL, z8]
        by_cases w : j = 0
        · subst w
          rw [if_pos rfl, if_neg (by decide)]
        · rw [if_neg w, if_pos (show 0 < nI j from nI_lt (a := 0) (by omega) (by omega)), nI_clamp (by omega)]
theorem s_tr0_sim {S : SS} {W : MS} (hs : sim S W) : sim (s_tr0 S) W := sim_keep ⟨rfl, rfl, rfl, rfl, rfl, rfl⟩ hs
theorem s_trace_sim {S : SS} {W : MS} (hs : sim S W) : sim (s_trace S) W := sim_keep (s_trL_keep _ _ _ _) (s_tr0_sim hs)
def s_tcS (Z : MS) : Int32 := if 0 ≤ m_ff Z then tcL Z 799 (m_f0 Z) else 0
theorem s_trace_ok {S : SS} {W : MS} (hs : sim S W) : s_sm (s_trace S) = m_few W ∧ s_sf (s_trace S) = m_hnt W ∧ s_sc (s_trace S) = s_tcS W := by
  have h8 : m_fm W ≤ 800 := hs.2.2.1.1
  have hff := hs.2.2.2.2.1
  unfold s_trace
  rcases hs.2.2.2.2.2.1 with q | ⟨i, hi, q⟩
  · rw [hff, q, s_trL, if_neg (by rintro ⟨z, -⟩; exact z (by decide))]
    unfold m_few m_hnt s_tcS
    rw [q]
    refine ⟨?_, ?_, ?_⟩
    · show (if s_fs S = -1 then (-1 : Int32) else 0) = _
      rw [hff, q]; rfl
    · rfl
    · rfl
  · obtain ⟨h1, h2, h3⟩ := s_tr_ok 799 1 i (s_tr0 S) (s_tr0_sim hs) (by omega) hi (by omega)
    rw [hff, q, h1, h2, h3]
    have hp : 0 ≤ m_ff W := by rw [q]; exact nI_pos' (by omega)
    have hf0 : m_f0 W = i := by rw [m_f0, q, nI_clamp (by omega)]
    have hne : ¬ s_fs S = -1 := by
      rw [hff, q]
      intro z
      have := congrArg Int32.toInt z
      rw [nI_toInt (by omega)] at this
      exact absurd this (by rw [show ((-1 : Int32)).toInt = -1 from rfl]; omega)
    unfold m_few m_hnt s_tcS
    rw [if_pos hp, if_pos hp, hf0, show (m_ff W).toNatClampNeg = i from hf0]
    refine ⟨?_, ?_, ?_⟩
    · by_cases w : i = 0
      · subst w
        rw [if_pos rfl, (lnk_0 (sim_lnk hs hi)).2.1]
        show (if s_fs S = -1 then (-1 : Int32) else 0) = _
        rw [if_neg hne]; rfl
      · rw [if_neg w]; congr 1; omega
    · by_cases w : i = 0
      · subst w
        rw [if_pos rfl, if_pos (by rw [q]; decide)]; rfl
      · rw [if_neg w, if_neg (by rw [q]; exact nI_nle (by omega) (by omega)), fmvL_fuel hs 799 i i (by omega) (Nat.le_refl _) hi]
    · show 0 + tcL W 799 i = _
      rw [Int32.zero_add]
/-! the way from the root -/
theorem anc_dp {S : SS} {W : MS} (hs : sim S W) {n : Nat} : ∀ d i, i < m_fm W → m_dp W i ≤ d → n ≤ m_dp W i → ancL W n d i < m_fm W ∧ m_dp W (ancL W n d i) = n
  | 0, i, hi, h1, h2 => ⟨hi, by show m_dp W i = n; omega⟩
  | d + 1, i, hi, h1, h2 => by
    rw [ancL]
    by_cases q : n < m_dp W i
    · have h8 : m_fm W ≤ 800 := hs.2.2.1.1
      have h0 : 0 < i := by
        rcases Nat.eq_zero_or_pos i with w | w
        · subst w; rw [(lnk_0 (sim_lnk hs hi)).2.1] at q; omega
        · exact w
      obtain ⟨j, v, sg, k, z1, z2, z3, z4, z5, z6, z7, z8, z9, z10, z11⟩ := lnk_up (sim_lnk hs hi) h0
      rw [if_pos q, z8, nI_clamp (by omega)]
      exact anc_dp hs d j (by omega) (by omega) (by omega)
    · rw [if_neg q]; exact ⟨hi, by omega⟩
theorem anc_step {S : SS} {W : MS} (hs : sim S W) {n : Nat} : ∀ d i, i < m_fm W → m_dp W i ≤ d → n + 1 ≤ m_dp W i → m_fr W (ancL W (n + 1) d i) = nI (ancL W n d i)
  | 0, i, hi, h1, h2 => by omega
  | d + 1, i, hi, h1, h2 => by
    have h8 : m_fm W ≤ 800 := hs.2.2.1.1
    have h0 : 0 < i := by
      rcases Nat.eq_zero_or_pos i with w | w
      · subst w; rw [(lnk_0 (sim_lnk hs hi)).2.1] at h2; omega
      · exact w
    obtain ⟨j, v, sg, k, z1, z2, z3, z4, z5, z6, z7, z8, z9, z10, z11⟩ := lnk_up (sim_lnk hs hi) h0
    rw [ancL, ancL, if_pos (show n < m_dp W i by omega), z8, nI_clamp (by omega)]
    by_cases q : n + 1 < m_dp W i
    · rw [if_pos q]
      exact anc_step hs d j (by omega) (by omega) (by omega)
    · rw [if_neg q, z8, ancL_out (by omega)]
theorem dp_0 {S : SS} {W : MS} (hs : sim S W) {i : Nat} (hi : i < m_fm W) (h : m_dp W i = 0) : i = 0 := by
  rcases Nat.eq_zero_or_pos i with w | w
  · exact w
  · obtain ⟨j, v, sg, k, z1, z2, z3, z4, z5, z6, z7, z8, z9, -⟩ := lnk_up (sim_lnk hs hi) w
    omega
end
section
/-! PURE: replaying the way from the root -/
theorem code_dec {v k : Nat} {sg : Int32} (hv : v < 9) (hk : k ≤ 4) (hsg : sg = 1 ∨ sg = -1) : cdN v sg k / 10 = v ∧ nI (cdN v sg k % 10) - 4 = sg * nI k ∧ m_cells (nI (cdN v sg k)) = sg * nI k := by
  have e2 : nI (cdN v sg k % 10) - 4 = sg * nI k := by
    rcases hsg with rfl | rfl
    · rw [cdN, if_pos rfl, Int32.one_mul, show (10 * v + k + 4) % 10 = k + 4 by omega, show (4 : Int32) = nI 4 from rfl, pk_sub (by omega), Nat.add_sub_cancel]
    · rw [cdN, if_neg (by decide), show (10 * v + 4 - k) % 10 = 4 - k by omega]
      exact (by decide +kernel : ∀ k, k < 5 → nI (4 - k) - 4 = (-1) * nI k) k (by omega)
  have hlt := cdN_lt (sg := sg) hv hk
  refine ⟨?_, e2, ?_⟩
  · unfold cdN; split <;> omega
  · unfold m_cells
    rw [show (10 : Int32) = nI 10 from rfl, pk_rem (by omega) (by omega) (by omega), e2]
theorem abs_iabs (c : Int32) : m_abs c = iabs c := by
  unfold m_abs iabs
  split
  · rfl
  · rw [Int32.zero_sub]
theorem svS_frame (Z : MS) : ∀ n, ∃ g a c, svS Z n = m_wGo Z g a c
  | 0 => ⟨m_pl Z, m_mo Z, m_dr Z, rfl⟩
  | n + 1 => by
    obtain ⟨g, a, c, h⟩ := svS_frame Z n
    rw [svS, h]
    exact ⟨_, _, _, rfl⟩
theorem svS_ok {S : SS} {Z : MS} (hs : sim S Z) (hl : look_ok Z) (hroot : ∀ u, u < m_n Z → m_pl Z u = lk_g Z 0 u) (hf : m_f0 Z < m_fm Z) : ∀ n, n ≤ m_dp Z (m_f0 Z) →
    (∀ u, u < m_n Z → m_pl (svS Z n) u = lk_g Z (ancL Z n (m_f0 Z) (m_f0 Z)) u) ∧ m_mo (svS Z n) = m_mo Z + nI n ∧ m_dr (svS Z n) = m_dr Z + tcL Z 799 (ancL Z n (m_f0 Z) (m_f0 Z)) ∧
    (n < m_dp Z (m_f0 Z) → m_by Z (m_anc Z n) / 10 < 9 ∧ nI (m_pl (svS Z n) (m_by Z (m_anc Z n) / 10)) + (nI (m_by Z (m_anc Z n) % 10) - 4) = nI (m_tgt (svS Z n) (m_by Z (m_anc Z n) / 10) (nI (m_by Z (m_anc Z n) % 10) - 4)) ∧
      (∀ u, u < m_n Z → m_pl (svS Z (n + 1)) u = lk_g Z (ancL Z (n + 1) (m_f0 Z) (m_f0 Z)) u) ∧ m_mo (svS Z (n + 1)) = m_mo Z + nI (n + 1) ∧ m_dr (svS Z (n + 1)) = m_dr Z + tcL Z 799 (ancL Z (n + 1) (m_f0 Z) (m_f0 Z))) := by
  have h8 : m_fm Z ≤ 800 := hs.2.2.1.1
  have h9 := hl.1.1
  have hdp : m_dp Z (m_f0 Z) ≤ m_f0 Z := (hs.2.2.2.2.2.2 _ (by omega)).1
  have step : ∀ n, n < m_dp Z (m_f0 Z) → (∀ u, u < m_n Z → m_pl (svS Z n) u = lk_g Z (ancL Z n (m_f0 Z) (m_f0 Z)) u) → m_mo (svS Z n) = m_mo Z + nI n → m_dr (svS Z n) = m_dr Z + tcL Z 799 (ancL Z n (m_f0 Z) (m_f0 Z)) →
      m_by Z (m_anc Z n) / 10 < 9 ∧ nI (m_pl (svS Z n) (m_by Z (m_anc Z n) / 10)) + (nI (m_by Z (m_anc Z n) % 10) - 4) = nI (m_tgt (svS Z n) (m_by Z (m_anc Z n) / 10) (nI (m_by Z (m_anc Z n) % 10) - 4)) ∧
      (∀ u, u < m_n Z → m_pl (svS Z (n + 1)) u = lk_g Z (ancL Z (n + 1) (m_f0 Z) (m_f0 Z)) u) ∧ m_mo (svS Z (n + 1)) = m_mo Z + nI (n + 1) ∧ m_dr (svS Z (n + 1)) = m_dr Z + tcL Z 799 (ancL Z (n + 1) (m_f0 Z) (m_f0 Z)) := by
    intro n hn h1 h2 h3
    have hB := anc_dp hs (n := n) _ _ hf hdp (by omega)
    have hC := anc_dp hs (n := n + 1) _ _ hf hdp (by omega)
    have hst := anc_step hs (n := n) _ _ hf hdp (by omega)
    have hsv : svS Z (n + 1) = m_go (svS Z n) (m_by Z (m_anc Z n) / 10) (nI (m_by Z (m_anc Z n) % 10) - 4) := rfl
    rw [show m_anc Z n = ancL Z (n + 1) (m_f0 Z) (m_f0 Z) from rfl] at hsv ⊢
    generalize ancL Z n (m_f0 Z) (m_f0 Z) = B at *
    generalize ancL Z (n + 1) (m_f0 Z) (m_f0 Z) = C at *
    have hC0 : 0 < C := by
      rcases Nat.eq_zero_or_pos C with w | w
      · have := hC.2; rw [w, (lnk_0 (sim_lnk hs (by omega))).2.1] at this; omega
      · exact w
    obtain ⟨j, v, sg, k, z1, z2, z3, z4, z5, z6, z7, z8, z9, z10, z11⟩ := lnk_up (sim_lnk hs hC.1) hC0
    rw [z8] at hst
    have hjB : j = B := (nI_eq (by have := hC.1; omega) (by have := hB.1; omega)).mp hst
    subst hjB
    obtain ⟨c1, c2, c3⟩ := code_dec (v := v) (k := k) (sg := sg) (by omega) z5 z3
    rw [z10, c1, c2] at hsv ⊢
    have hfit := lk_fit hl hC.1 v z2
    rw [z11 v z2, updN_s] at hfit
    have htg : m_tgt (svS Z n) v (sg * nI k) = stp sg (lk_g Z j v) k := by
      rw [m_tgt, h1 v z2, stp_nI z3 z6, nI_clamp (by omega)]
    refine ⟨by omega, ?_, ?_, ?_, ?_⟩
    · rw [htg, h1 v z2, stp_nI z3 z6]
    · intro u hu
      rw [hsv]
      show updN (m_pl (svS Z n)) v (m_tgt (svS Z n) v (sg * nI k)) u = _
      rw [z11 u hu, htg]
      by_cases q : u = v
      · subst q; rw [updN_s, updN_s]
      · rw [updN_n q, updN_n q, h1 u hu]
    · rw [hsv]
      show m_mo (svS Z n) + 1 = _
      rw [h2, Int32.add_assoc, nI_1]
    · rw [hsv]
      show m_dr (svS Z n) + m_abs (sg * nI k) = _
      rw [h3, show (799 : Nat) = 798 + 1 from rfl, tcL.eq_2 Z C 798, if_neg (show ¬ C = 0 by omega), z10, c3, z8, nI_clamp (by have := hC.1; omega), abs_iabs, tcL_fuel hs 798 (798 + 1) j (by have := hC.1; omega) (by have := hC.1; omega) hB.1, Int32.add_assoc, Int32.add_comm (iabs _)]
  intro n
  induction n with
  | zero =>
    intro _
    have hB := anc_dp hs (n := 0) _ _ hf hdp (by omega)
    have h0 := dp_0 hs hB.1 hB.2
    have e1 : ∀ u, u < m_n Z → m_pl (svS Z 0) u = lk_g Z (ancL Z 0 (m_f0 Z) (m_f0 Z)) u := by rw [h0]; exact hroot
    have e2 : m_mo (svS Z 0) = m_mo Z + nI 0 := by rw [nI_0, Int32.add_zero]; rfl
    have e3 : m_dr (svS Z 0) = m_dr Z + tcL Z 799 (ancL Z 0 (m_f0 Z) (m_f0 Z)) := by
      rw [h0, show tcL Z 799 0 = 0 from if_pos rfl, Int32.add_zero]; rfl
    exact ⟨e1, e2, e3, fun hn => step 0 hn e1 e2 e3⟩
  | succ n ih =>
    intro hn
    obtain ⟨-, -, -, h⟩ := ih (by omega)
    obtain ⟨-, -, h1, h2, h3⟩ := h (by omega)
    exact ⟨h1, h2, h3, fun hn => step (n + 1) hn h1 h2 h3⟩
theorem sim_sv {S : SS} {Z : MS} (hs : sim S Z) (hl : look_ok Z) (hroot : ∀ u, u < m_n Z → m_pl Z u = lk_g Z 0 u) : sv_ok Z := by
  have h8 : m_fm Z ≤ 800 := hs.2.2.1.1
  have hst := hs.2.2.2.2.2.2
  refine ⟨fun i hi => ⟨by have := (hst i hi).1; omega, (hst i hi).2.1⟩, fun i hi h => (hst i hi).2.2 (Or.inr h), fun hp => ?_, fun hp n hn => ?_⟩
  · rcases hs.2.2.2.2.2.1 with q | ⟨j, hj, q⟩
    · rw [q] at hp; exact absurd hp (by decide)
    · have : m_f0 Z = j := by rw [m_f0, q, nI_clamp (by omega)]
      rw [this]; exact ⟨by omega, q⟩
  · rcases hs.2.2.2.2.2.1 with q | ⟨j, hj, q⟩
    · rw [q] at hp; exact absurd hp (by decide)
    · have hf : m_f0 Z = j := by rw [m_f0, q, nI_clamp (by omega)]
      obtain ⟨-, -, -, h⟩ := svS_ok hs hl hroot (by omega) n (by omega)
      obtain ⟨h1, h2, -⟩ := h hn
      exact ⟨h1, h2⟩
theorem sim_fr {S : SS} {Z : MS} (hs : sim S Z) : fr_ok Z := fun i hi h => (hs.2.2.2.2.2.2 i hi).2.2 (Or.inl h)
end
section
/-! PURE: the class and the reference stand alike -/
def cach (X : XS) : Prop := j_is (x_J X) = 0 ∨ ∃ S_g, x_S X = s_look (x_Y X) S_g (j_po (x_J X))
def rel (k : Nat) (X : XS) (M : MS) : Prop := m_ok M ∧ stale M ∧ yr (x_Y X) M ∧ rr (x_Y X) M ∧ j_po (x_J X) = nI (p8 (m_n M) (m_pl M)) ∧ j_pp (x_J X) = nI (p8 (m_n M) (m_pk M)) ∧ j_mc (x_J X) = m_mo M ∧ j_dc (x_J X) = m_dr M ∧ (∃ t, t ≤ 800 * k ∧ m_mo M = nI t) ∧
  noO M (m_pl M) ∧ noO M (m_pk M) ∧ offR M (m_pl M) ∧ offR M (m_pk M) ∧ (m_mo M = 0 → ∀ u, u < m_n M → m_pl M u = m_pk M u) ∧ cach X
theorem rel_th {k : Nat} {X : XS} {M : MS} (x : Int32) (h : rel k X M) : rel k X (m_wTh M x) := h
theorem rel_lay {k : Nat} {X : XS} {M : MS} (h : rel k X M) : rel k X (m_lay M) := ⟨m_ok_lay h.1, h.2⟩
theorem rel_isv {k : Nat} {X : XS} {M : MS} (v : Int32) (h : rel k X M) : rel k X (m_isv M v) := h
theorem rel_mono {k K : Nat} {X : XS} {M : MS} (hk : k ≤ K) (h : rel k X M) : rel K X M := by
  obtain ⟨h1, h2, h3, h4, h5, h6, h7, h8, ⟨t, ht, ht2⟩, h10⟩ := h
  exact ⟨h1, h2, h3, h4, h5, h6, h7, h8, ⟨t, by omega, ht2⟩, h10⟩
theorem pk_fit {W : MS} (h : m_ok W) : fit W (m_pk W) := fun v hv => by
  obtain ⟨b1_, b2_, b3_, b4_, b5_, b6_⟩ := h.2.1 v hv
  exact b6_
theorem atf_lay0 (M : MS) : atf M (m_lay M) (m_pl M) := ⟨rfl, rfl, rfl, rfl, rfl, fun _ _ => rfl, fun _ hc => lay_0 M hc⟩
theorem wya_f {X : MS} {v k : Nat} {f : Int32} (h : ¬ f = 0) : m_wya X v f k = m_wya X v 1 k := by
  rw [m_wya, m_wya, if_neg h, if_neg (by decide)]
theorem wyL_f {X : MS} {v : Nat} {f : Int32} (h : ¬ f = 0) : ∀ d k, m_wyL X v f d k = m_wyL X v 1 d k
  | 0, _ => rfl
  | d + 1, k => by rw [m_wyL, m_wyL, wya_f h, wyL_f h d (k + 1)]
theorem wy_f {X : MS} {v : Nat} {f : Int32} (h : ¬ f = 0) : m_wy X v f = m_wy X v 1 := wyL_f h 7 0
theorem rel_way {k : Nat} {X : XS} {M : MS} (h : rel k X M) {v : Nat} (hv : v < m_n M) (f : Int32) : j_way X (nI v) f = nI (m_wy (m_lay M) v f) := by
  obtain ⟨h1, h2, h3, h4, h5, h6, h7, h8, h9, h10, h11, h12, h13, h14, h15⟩ := h
  have hw := way_ok h3 h4 (pl_fit h1) hv (atf_lay0 M) h12
  unfold j_way
  rw [h5, h3.1]
  by_cases q : f = 0
  · rw [if_pos q, hw.2, q]
  · rw [if_neg q, hw.1, wy_f q]
theorem rel_has {k : Nat} {X : XS} {M : MS} (h : rel k X M) (v : Int32) : y_has (x_Y X) v ↔ m_has M v := y_has_iff h.2.2.1 v
theorem rel_rest {k : Nat} {X : XS} {M : MS} (h : rel k X M) : rel k (x_rest X) (m_rst M) := by
  obtain ⟨h1, h2, h3, h4, h5, h6, h7, h8, h9, h10, h11, h12, h13, h14, h15⟩ := h
  have e : ∀ u, u < m_n M → cpN (m_pl M) (m_pk M) (m_n M) u = m_pk M u := fun u hu => by rw [cpN, if_pos hu]
  have hocc : ∀ u c, u < m_n M → (occ (m_ac M u) (m_li M u) (cpN (m_pl M) (m_pk M) (m_n M) u) (m_sz M u) c ↔ occV M (m_pk M) u c) := fun u c hu => by rw [e u hu]
  refine ⟨⟨h1.1, fun v hv => ?_, h1.2.2⟩, h2, h3, h4, ?_, h6, rfl, rfl, ⟨0, Nat.zero_le _, rfl⟩, ?_, h11, ?_, h13, fun _ => e, Or.inl rfl⟩
  · obtain ⟨b1_, b2_, b3_, b4_, b5_, b6_⟩ := h1.2.1 v hv
    refine ⟨b1_, b2_, b3_, b4_, ?_, b6_⟩
    show cpN (m_pl M) (m_pk M) (m_n M) v + m_sz M v ≤ 6
    rw [e v hv]; exact b6_
  · show j_pp (x_J X) = nI (p8 (m_n M) (cpN (m_pl M) (m_pk M) (m_n M)))
    rw [p8_ext (m_n M) e]; exact h6
  · intro u w c hu hw a1 a2
    exact h11 u w c hu hw ((hocc u c hu).mp a1) ((hocc w c hw).mp a2)
  · intro u hu hz c hc
    exact h13 u hu hz c ((hocc u c hu).mp hc)
/-- a vehicle that can go goes -/
theorem rel_go {k : Nat} {X : XS} {M : MS} (hk : k ≤ 1000000) (h : rel k X M) {v j : Nat} {sg : Int32} (hv : v < m_n M) (hsg : sg = 1 ∨ sg = -1) (hj : 1 ≤ j) (hw : j ≤ m_wy (m_lay M) v (m_fw sg)) : rel (k + 1) (x_move X (nI v) (sg * nI j)) (m_go (m_lay M) v (sg * nI j)) ∧ j ≤ 4 := by
  obtain ⟨h1, h2, h3, h4, h5, h6, h7, h8, ⟨t, ht, h9⟩, h10, h11, h12, h13, h14, h15⟩ := h
  have hb := m_tr_b (m_ok_lay h1) (show v < m_n (m_lay M) from hv) hsg hw
  obtain ⟨hb1, hb2, hb3⟩ := hb
  have hb1 : sg = -1 → j ≤ m_pl M v := hb1
  have hb2 : stp sg (m_pl M v) j + m_sz M v ≤ 6 := hb2
  obtain ⟨b1_, b2_, b3_, b4_, b5_, b6_⟩ := h1.2.1 v hv
  have htg : m_tgt (m_lay M) v (sg * nI j) = stp sg (m_pl M v) j := by
    rw [m_tgt]
    show (nI (m_pl M v) + sg * nI j).toNatClampNeg = _
    rw [stp_nI hsg hb1, nI_clamp (by omega)]
  have ego : m_go (m_lay M) v (sg * nI j) = m_wGo (m_lay M) (updN (m_pl M) v (stp sg (m_pl M v) j)) (m_mo M + 1) (m_dr M + m_abs (sg * nI j)) := by
    rw [m_go, htg]; rfl
  rw [ego]
  refine ⟨⟨⟨h1.1, fun u hu => ?_, (m_ok_lay h1).2.2⟩, h2, h3, h4, ?_, h6, ?_, ?_, ⟨t + 1, by omega, ?_⟩, ?_, h11, ?_, h13, ?_, Or.inl rfl⟩, hb3⟩
  · obtain ⟨c1_, c2_, c3_, c4_, c5_, c6_⟩ := h1.2.1 u hu
    refine ⟨c1_, c2_, c3_, c4_, ?_, c6_⟩
    show updN (m_pl M) v (stp sg (m_pl M v) j) u + m_sz M u ≤ 6
    by_cases q : u = v
    · subst q; rw [updN_s]; exact hb2
    · rw [updN_n q]; exact c5_
  · show mv (j_po (x_J X)) (nI v) (sg * nI j) = nI (p8 (m_n M) (updN (m_pl M) v (stp sg (m_pl M v) j)))
    rw [h5, mv_nI h1.1 hv hsg hb1]
  · show j_mc (x_J X) + 1 = m_mo M + 1
    rw [h7]
  · show j_dc (x_J X) + iabs (sg * nI j) = m_dr M + m_abs (sg * nI j)
    rw [h8, abs_iabs]
  · show m_mo M + 1 = nI (t + 1)
    rw [h9, nI_1]
  · exact noO_move (pl_fit h1) b3_ b4_ hv (atf_lay0 M) hsg hw hb1 hb2 h10
  · exact off_move (pl_fit h1) b3_ b4_ hv (atf_lay0 M) hsg hw hb1 hb2 h12
  · intro hz
    exfalso
    have hz : m_mo M + 1 = 0 := hz
    rw [h9, nI_1] at hz
    exact nI_ne0 (by omega) (by omega) hz
end
section
/-! PURE: each operation keeps the two alike and answers alike -/
theorem rng_ex {c : Int32} (h : m_rng c) : ∃ (sg : Int32) (j : Nat), (sg = 1 ∨ sg = -1) ∧ 1 ≤ j ∧ j ≤ 4 ∧ c = sg * nI j ∧ m_fw c = m_fw sg ∧ m_abs c = nI j := by
  obtain ⟨h1, h2, h3⟩ := h
  have k4 : (4 : Int32).toInt = 4 := rfl
  have k4' : (-4 : Int32).toInt = -4 := rfl
  have k0 : (0 : Int32).toInt = 0 := rfl
  obtain ⟨z, hz⟩ : ∃ z, z = c.toInt := ⟨_, rfl⟩
  rw [Int32.lt_iff_toInt_lt, k4', ← hz] at h1
  rw [Int32.lt_iff_toInt_lt, k4, ← hz] at h2
  have h3' : z ≠ 0 := fun q => h3 (Int32.toInt_inj.mp (by rw [← hz, q, k0]))
  rcases (show z = -4 ∨ z = -3 ∨ z = -2 ∨ z = -1 ∨ z = 1 ∨ z = 2 ∨ z = 3 ∨ z = 4 by omega) with q | q | q | q | q | q | q | q
  · have : c = -4 := Int32.toInt_inj.mp (by rw [← hz, q]; rfl)
    subst this; exact ⟨-1, 4, Or.inr rfl, by decide, by decide, by decide, by decide, by decide⟩
  · have : c = -3 := Int32.toInt_inj.mp (by rw [← hz, q]; rfl)
    subst this; exact ⟨-1, 3, Or.inr rfl, by decide, by decide, by decide, by decide, by decide⟩
  · have : c = -2 := Int32.toInt_inj.mp (by rw [← hz, q]; rfl)
    subst this; exact ⟨-1, 2, Or.inr rfl, by decide, by decide, by decide, by decide, by decide⟩
  · have : c = -1 := Int32.toInt_inj.mp (by rw [← hz, q]; rfl)
    subst this; exact ⟨-1, 1, Or.inr rfl, by decide, by decide, by decide, by decide, by decide⟩
  · have : c = 1 := Int32.toInt_inj.mp (by rw [← hz, q]; rfl)
    subst this; exact ⟨1, 1, Or.inl rfl, by decide, by decide, by decide, by decide, by decide⟩
  · have : c = 2 := Int32.toInt_inj.mp (by rw [← hz, q]; rfl)
    subst this; exact ⟨1, 2, Or.inl rfl, by decide, by decide, by decide, by decide, by decide⟩
  · have : c = 3 := Int32.toInt_inj.mp (by rw [← hz, q]; rfl)
    subst this; exact ⟨1, 3, Or.inl rfl, by decide, by decide, by decide, by decide, by decide⟩
  · have : c = 4 := Int32.toInt_inj.mp (by rw [← hz, q]; rfl)
    subst this; exact ⟨1, 4, Or.inl rfl, by decide, by decide, by decide, by decide, by decide⟩
theorem isv_has {M : MS} {v : Int32} (h : m_has M v) : m_isv M v = m_wTh M 0 := by rw [m_isv, if_pos h]
theorem isv_not {M : MS} {v : Int32} (h : ¬ m_has M v) : m_isv M v = m_wTh M 1 := by rw [m_isv, if_neg h]
theorem rel_drive {k : Nat} {X : XS} {M : MS} (hk : k ≤ 1000000) (h : rel k X M) (v c : Int32) : m_th (m_drive M v c) = nI (drive_th X v c) ∧ rel (k + 1) (if drive_th X v c = 0 then x_move X v c else X) (m_drive M v c) := by
  have hh := rel_has h v
  unfold m_drive drive_th
  by_cases hv : m_has M v
  · rw [if_pos hv, if_neg (not_not_intro (hh.mpr hv)), isv_has hv]
    obtain ⟨j, hj, rfl⟩ := m_has_ex h.1 hv
    have h9 := h.1.1
    have h0 : rel k X (m_wTh M 0) := h
    have hway := rel_way h0 (v := j) hj (m_fw c)
    rw [nI_clamp (by omega)]
    unfold m_dth
    by_cases hr : m_rng c
    · have hr2 : ¬ (c < -4 ∨ 4 < c ∨ c = 0) := fun q => by
        rcases q with q | q | q
        · exact hr.1 q
        · exact hr.2.1 q
        · exact hr.2.2 q
      rw [if_neg (not_not_intro hr), if_neg hr2, show (if c ≤ 0 then (0 : Int32) else 1) = m_fw c from rfl, hway, ← abs_iabs]
      by_cases hw : m_abs c ≤ nI (m_wy (m_lay (m_wTh M 0)) j (m_fw c))
      · rw [if_neg (not_not_intro hw), if_neg (not_not_intro hw), if_pos rfl, if_pos rfl]
        obtain ⟨sg, n, e1, e2, e3, e4, e5, e6⟩ := rng_ex hr
        rw [e6, e5, nI_leI (by omega) (by have := m_wy_le7 (m_lay (m_wTh M 0)) j (m_fw sg); omega)] at hw
        have hg := (rel_go hk h0 hj e1 e2 hw).1
        rw [← e4] at hg
        exact ⟨rfl, hg⟩
      · rw [if_pos hw, if_pos hw, if_neg (by decide), if_neg (by decide)]
        exact ⟨rfl, rel_mono (by omega) (rel_th 3 (rel_lay h0))⟩
    · have hr2 : c < -4 ∨ 4 < c ∨ c = 0 := by
        by_cases q1 : c < -4
        · exact Or.inl q1
        · by_cases q2 : 4 < c
          · exact Or.inr (Or.inl q2)
          · by_cases q3 : c = 0
            · exact Or.inr (Or.inr q3)
            · exact absurd ⟨q1, q2, q3⟩ hr
      rw [if_pos hr, if_pos hr2, if_neg (by decide), if_neg (by decide)]
      exact ⟨rfl, rel_mono (by omega) (rel_th 2 (rel_lay h0))⟩
  · rw [if_neg hv, if_pos (fun z => hv (hh.mp z)), isv_not hv, if_neg (by decide)]
    exact ⟨rfl, rel_mono (by omega) h⟩
theorem rel_dron {k : Nat} {X : XS} {M : MS} (hk : k ≤ 1000000) (h : rel k X M) (v f : Int32) : m_th (m_dron M v f) = nI (has_th X v) ∧ rel (k + 1) (if has_th X v = 0 then x_dron X v f else X) (m_dron M v f) ∧ m_drw M v f = (if has_th X v = 0 then j_way X v f else 0) := by
  have hh := rel_has h v
  unfold m_dron has_th m_drw
  by_cases hv : m_has M v
  · rw [if_pos hv, if_pos (hh.mpr hv), if_pos hv, isv_has hv, if_pos rfl, if_pos rfl]
    obtain ⟨j, hj, rfl⟩ := m_has_ex h.1 hv
    have h9 := h.1.1
    have h0 : rel k X (m_wTh M 0) := h
    have hway := rel_way h0 (v := j) hj f
    have h7 := m_wy_le7 (m_lay (m_wTh M 0)) j f
    rw [nI_clamp (by omega)]
    unfold x_dron
    rw [hway]
    by_cases hz : m_wy (m_lay (m_wTh M 0)) j f = 0
    · rw [hz, if_pos rfl, if_pos (by decide)]
      exact ⟨rfl, rel_mono (by omega) (rel_lay h0), rfl⟩
    · rw [if_neg hz, if_neg (nI_nle (by omega) (by omega))]
      refine ⟨rfl, ?_, rfl⟩
      by_cases hf : f = 0
      · subst hf
        rw [if_pos rfl]
        have hg := (rel_go hk h0 (v := j) (j := m_wy (m_lay (m_wTh M 0)) j 0) (sg := -1) hj (Or.inr rfl) (by omega) (Nat.le_refl _)).1
        rw [Int32.neg_mul, Int32.one_mul] at hg
        exact hg
      · rw [if_neg hf]
        have hg := (rel_go hk h0 (v := j) (j := m_wy (m_lay (m_wTh M 0)) j f) (sg := 1) hj (Or.inl rfl) (by omega) (by rw [wy_f hf]; exact Nat.le_refl _)).1
        rw [Int32.one_mul] at hg
        exact hg
  · rw [if_neg hv, if_neg (fun z => hv (hh.mp z)), isv_not hv, if_neg hv, if_neg (by decide), if_neg (by decide)]
    exact ⟨rfl, rel_mono (by omega) h, rfl⟩
theorem rel_row {k : Nat} {X : XS} {M : MS} (h : rel k X M) (v : Int32) : m_th (m_isv M v) = nI (has_th X v) ∧ rel k X (m_isv M v) ∧ m_row M v = (if has_th X v = 0 then j_row X v else 0) ∧ m_col M v = (if has_th X v = 0 then j_col X v else 0) := by
  have hh := rel_has h v
  unfold has_th m_row m_col
  by_cases hv : m_has M v
  · rw [if_pos hv, if_pos hv, if_pos (hh.mpr hv), isv_has hv, if_pos rfl, if_pos rfl]
    obtain ⟨j, hj, rfl⟩ := m_has_ex h.1 hv
    have h9 := h.1.1
    have hrel := h
    obtain ⟨h1, h2, h3, h4, h5, -⟩ := h
    obtain ⟨⟨b1_, b2_, b3_, b4_⟩, e1, e2, e3, e4⟩ := h3.2.2 j hj
    have hp := pl_p8 h3.2.1 (fit8 h3 (pl_fit h1)) hj
    have hy := hh.mpr hv
    have hac : y_acr (x_Y X) (nI j) ↔ m_ac M j = 1 := by
      unfold y_acr
      rw [nI_clamp (by omega), e2]
      rcases (show m_ac M j = 0 ∨ m_ac M j = 1 by omega) with q | q
      · rw [q]; exact ⟨fun z => absurd rfl z.2, fun z => by omega⟩
      · rw [q]; exact ⟨fun _ => rfl, fun _ => ⟨hy, by decide⟩⟩
    have hln : y_line (x_Y X) (nI j) = nI (m_li M j) := by rw [y_line, if_pos hy, nI_clamp (by omega), e3]
    rw [nI_clamp (by omega)]
    unfold j_row j_col
    rw [hln, h5, hp]
    refine ⟨rfl, hrel, ?_, ?_⟩
    · by_cases q : m_ac M j = 1
      · rw [if_pos q, if_pos (hac.mpr q)]
      · rw [if_neg q, if_neg (fun z => q (hac.mp z))]
    · by_cases q : m_ac M j = 1
      · rw [if_pos q, if_pos (hac.mpr q)]
      · rw [if_neg q, if_neg (fun z => q (hac.mp z))]
  · rw [if_neg hv, if_neg hv, if_neg (fun z => hv (hh.mp z)), isv_not hv, if_neg (by decide), if_neg (by decide)]
    exact ⟨rfl, h, rfl, rfl⟩
theorem rel_fway {k : Nat} {X : XS} {M : MS} (h : rel k X M) (v f : Int32) : m_th (m_isv (m_lay M) v) = nI (has_th X v) ∧ rel k X (m_isv (m_lay M) v) ∧ m_fway (m_lay M) v f = (if has_th X v = 0 then j_way X v f else 0) := by
  have hh := rel_has h v
  have hl : rel k X (m_lay M) := rel_lay h
  unfold has_th m_fway
  by_cases hv : m_has M v
  · have hv2 : m_has (m_lay M) v := hv
    rw [if_pos hv2, if_pos (hh.mpr hv), isv_has hv2, if_pos rfl]
    obtain ⟨j, hj, rfl⟩ := m_has_ex h.1 hv
    have h9 := h.1.1
    have hway := rel_way h (v := j) hj f
    rw [nI_clamp (by omega), hway]
    refine ⟨rfl, hl, ?_⟩
    have : ∀ d t, m_wyL (m_wTh (m_lay M) 0) j f d t = m_wyL (m_lay M) j f d t := fun d => by
      induction d with
      | zero => intro t; rfl
      | succ d ih => intro t; rw [m_wyL, m_wyL, ih]; rfl
    rw [show m_wy (m_wTh (m_lay M) 0) j f = m_wy (m_lay M) j f from this 7 0]
  · have hv2 : ¬ m_has (m_lay M) v := hv
    rw [if_neg hv2, if_neg (fun z => hv (hh.mp z)), isv_not hv2, if_neg (by decide)]
    exact ⟨rfl, hl, rfl⟩
end
section
/-! PURE: the questions that search -/
theorem yr_c {Y : YS} {M Z : MS} (h1 : m_n Z = m_n M) (h2 : m_sz Z = m_sz M) (h3 : m_ac Z = m_ac M) (h4 : m_li Z = m_li M) (h : yr Y M) : yr Y Z := by
  unfold yr
  rw [h1, h2, h3, h4]
  exact h
theorem rel_eq {k : Nat} {X X2 : XS} {M Z : MS} (h : rel k X M) (hok : m_ok Z) (hst : stale Z) (hpl : ∀ u, u < m_n M → m_pl Z u = m_pl M u)
    (h1 : m_n Z = m_n M) (h2 : m_sz Z = m_sz M) (h3 : m_ac Z = m_ac M) (h4 : m_li Z = m_li M) (h5 : m_rp Z = m_rp M) (h6 : m_mo Z = m_mo M) (h7 : m_dr Z = m_dr M) (h8 : m_pk Z = m_pk M)
    (g1 : x_Y X2 = x_Y X) (g2 : j_po (x_J X2) = j_po (x_J X)) (g3 : j_pp (x_J X2) = j_pp (x_J X)) (g4 : j_mc (x_J X2) = j_mc (x_J X)) (g5 : j_dc (x_J X2) = j_dc (x_J X)) (hc : cach X2) : rel k X2 Z := by
  obtain ⟨a1, a2, a3, a4, a5, a6, a7, a8, a9, a10, a11, a12, a13, a14, a15⟩ := h
  refine ⟨hok, hst, ?_, ?_, ?_, ?_, ?_, ?_, ?_, noO_c h1 h2 h3 h4 hpl a10, ?_, offR_c h1 h2 h3 h4 h5 hpl a12, ?_, ?_, hc⟩
  · rw [g1]; exact yr_c h1 h2 h3 h4 a3
  · rw [g1]; unfold rr; rw [h5]; exact a4
  · rw [g2, h1, p8_ext (m_n M) hpl]; exact a5
  · rw [g3, h1, h8]; exact a6
  · rw [g4, h6]; exact a7
  · rw [g5, h7]; exact a8
  · rw [h6]; exact a9
  · rw [h8]; exact noO_c h1 h2 h3 h4 (fun _ _ => rfl) a11
  · rw [h8]; exact offR_c h1 h2 h3 h4 h5 (fun _ _ => rfl) a13
  · rw [h6, h1, h8]; exact fun q u hu => (hpl u hu).trans (a14 q u hu)
theorem srch_t (X : XS) (L : SS) : x_Y ((j_pp (x_J X), j_po (x_J X), j_mc (x_J X), j_dc (x_J X), 1), L, x_Y X) = x_Y X ∧ j_po (x_J ((j_pp (x_J X), j_po (x_J X), j_mc (x_J X), j_dc (x_J X), 1), L, x_Y X)) = j_po (x_J X) ∧ j_pp (x_J ((j_pp (x_J X), j_po (x_J X), j_mc (x_J X), j_dc (x_J X), 1), L, x_Y X)) = j_pp (x_J X) ∧ j_mc (x_J ((j_pp (x_J X), j_po (x_J X), j_mc (x_J X), j_dc (x_J X), 1), L, x_Y X)) = j_mc (x_J X) ∧ j_dc (x_J ((j_pp (x_J X), j_po (x_J X), j_mc (x_J X), j_dc (x_J X), 1), L, x_Y X)) = j_dc (x_J X) ∧ x_S ((j_pp (x_J X), j_po (x_J X), j_mc (x_J X), j_dc (x_J X), 1), L, x_Y X) = L := ⟨rfl, rfl, rfl, rfl, rfl, rfl⟩
theorem srch_same (X : XS) (h : cach X) : x_Y (x_srch X) = x_Y X ∧ j_po (x_J (x_srch X)) = j_po (x_J X) ∧ j_pp (x_J (x_srch X)) = j_pp (x_J X) ∧ j_mc (x_J (x_srch X)) = j_mc (x_J X) ∧ j_dc (x_J (x_srch X)) = j_dc (x_J X) ∧ ∃ S_g, x_S (x_srch X) = s_look (x_Y X) S_g (j_po (x_J X)) := by
  by_cases q : j_is (x_J X) = 0
  · have e : x_srch X = ((j_pp (x_J X), j_po (x_J X), j_mc (x_J X), j_dc (x_J X), 1), s_look (x_Y X) (x_S X) (j_po (x_J X)), x_Y X) := by rw [x_srch, if_pos q]
    obtain ⟨t1, t2, t3, t4, t5, t6⟩ := srch_t X (s_look (x_Y X) (x_S X) (j_po (x_J X)))
    rw [← e] at t1 t2 t3 t4 t5 t6
    exact ⟨t1, t2, t3, t4, t5, x_S X, t6⟩
  · have e : x_srch X = X := by rw [x_srch, if_neg q]
    rcases h with h | h
    · exact absurd h q
    · rw [e]; exact ⟨rfl, rfl, rfl, rfl, rfl, h⟩
theorem rel_srch {k : Nat} {X : XS} {M : MS} (h : rel k X M) : rel k (x_srch X) (m_look (m_wTh M 0)) ∧ sim (x_S (x_srch X)) (m_look (m_wTh M 0)) ∧ look_ok (m_look (m_wTh M 0)) ∧ (∀ u, u < m_n (m_look (m_wTh M 0)) → m_pl (m_look (m_wTh M 0)) u = lk_g (m_look (m_wTh M 0)) 0 u) ∧
    s_sm (x_S (x_srch X)) = m_few (m_look (m_wTh M 0)) ∧ s_sf (x_S (x_srch X)) = m_hnt (m_look (m_wTh M 0)) ∧ s_sc (x_S (x_srch X)) = s_tcS (m_look (m_wTh M 0)) ∧ m_th (m_look (m_wTh M 0)) = 0 := by
  have h0 : rel k X (m_wTh M 0) := h
  have hcc := h0.2.2.2.2.2.2.2.2.2.2.2.2.2.2
  obtain ⟨g1, g2, g3, g4, g5, S_g, hS⟩ := srch_same X hcc
  obtain ⟨a1, a2, a3, a4, a5, -, -, -, -, a10, -, a12, -⟩ := h0
  obtain ⟨s1, s2, s3, s4, s5, e1, e2, e3, e4, e5, e6, e7, e8, e9⟩ := look_sim (S := S_g) a3 a4 a1 a2 ⟨a12, a10⟩ a5
  have ht := s_trace_ok s1
  have hts := s_trace_sim s1
  have hlk : x_S (x_srch X) = s_trace (s_lookL (x_Y X) 800 0 (s_addN (s_new S_g) (j_po (x_J X)) 0 0)) := hS
  rw [← hlk] at ht hts
  refine ⟨rel_eq (M := m_wTh M 0) h s2.1 hts.2.2.2.2.2.2 s3 e1 e2 e3 e4 e5 e6 e7 e8 g1 g2 g3 g4 g5 (Or.inr ⟨S_g, by rw [g1, g2]; exact hS⟩), hts, s2, fun u hu => ?_, ht.1, ht.2.1, ht.2.2, e9⟩
  rw [e1] at hu
  rw [s3 u hu, s5 u hu]
end
section
/-! PURE: solve, canReach -/
theorem s_pos_at {S : SS} {Z : MS} {i : Nat} (hs : sim S Z) (hi : i < m_fm Z) (hq : m_ff Z = nI i) : s_pos S = nI (p8 (m_n Z) (lk_g Z i)) := by
  have h8 : m_fm Z ≤ 800 := hs.2.2.1.1
  have hfs : s_fs S = nI i := hs.2.2.2.2.1.trans hq
  rw [s_pos, hfs, if_pos (sim_isF hs hi), nI_clamp (by omega)]
  exact (hs.2.2.2.1 i hi).2.1
theorem rel_solv0 {k : Nat} {X : XS} {Z : MS} (hk : k ≤ 1000000) (h : rel k X Z) (hs : sim (x_S X) Z) (hl : look_ok Z) (hroot : ∀ u, u < m_n Z → m_pl Z u = lk_g Z 0 u) (hsm : s_sm (x_S X) = m_few Z) (hsc : s_sc (x_S X) = s_tcS Z) : rel (k + 1) (x_solv X) (m_solv Z) := by
  have h8 : m_fm Z ≤ 800 := hs.2.2.1.1
  rcases hs.2.2.2.2.2.1 with q | ⟨i, hi, q⟩
  · have e1 : x_solv X = X := by rw [x_solv, hsm, m_few, q, if_neg (show ¬ (0 : Int32) ≤ -1 by decide), if_pos (by decide)]
    have e2 : m_solv Z = Z := by rw [m_solv, q, if_neg (show ¬ (0 : Int32) ≤ -1 by decide)]
    rw [e1, e2]; exact rel_mono (by omega) h
  · have hf : m_f0 Z = i := by rw [m_f0, q, nI_clamp (by omega)]
    have hp : 0 ≤ m_ff Z := by rw [q]; exact nI_pos' (by omega)
    have hfew : m_few Z = nI (m_dp Z i) := by rw [m_few, if_pos hp, show (m_ff Z).toNatClampNeg = i from hf]
    have hdp := (hs.2.2.2.2.2.2 i (by omega)).1
    have e2 : m_solv Z = svS Z (m_dp Z i) := by rw [m_solv, if_pos hp, hf]
    by_cases hD : m_dp Z i = 0
    · have e1 : x_solv X = X := by rw [x_solv, hsm, hfew, hD, if_pos (by decide)]
      rw [e1, e2, hD]; exact rel_mono (by omega) h
    · have e1 : x_solv X = ((j_pp (x_J X), s_pos (x_S X), j_mc (x_J X) + nI (m_dp Z i), j_dc (x_J X) + s_tcS Z, 0), x_S X, x_Y X) := by
        rw [x_solv, hsm, hfew, if_neg (nI_nle (by omega) (by omega)), hsc]
      have hsv := svS_ok hs hl hroot (by omega) (m_dp Z i) (by rw [hf]; exact Nat.le_refl _)
      obtain ⟨v1, v2, v3, -⟩ := hsv
      rw [hf, ancL_out (by omega)] at v1 v3
      obtain ⟨g, a, c, hfr⟩ := svS_frame Z (m_dp Z i)
      rw [hfr] at v1 v2 v3
      rw [e1, e2, hfr]
      have v1 : ∀ u, u < m_n Z → g u = lk_g Z i u := v1
      have v2 : a = m_mo Z + nI (m_dp Z i) := v2
      have v3 : c = m_dr Z + tcL Z 799 i := v3
      obtain ⟨h1, h2, h3, h4, h5, h6, h7, h8', ⟨t, ht, h9⟩, h10, h11, h12, h13, h14, h15⟩ := h
      obtain ⟨f1, f2, f3, f4, f5⟩ := hs.2.2.2.1 i hi
      have hg : good (m_wGo Z g a c) g := good_c (M := Z) rfl rfl rfl rfl rfl v1 f4
      refine ⟨⟨h1.1, fun u hu => ?_, h1.2.2⟩, h2, h3, h4, ?_, h6, ?_, ?_, ⟨t + m_dp Z i, by omega, ?_⟩, hg.2, h11, hg.1, h13, ?_, Or.inl rfl⟩
      · obtain ⟨c1_, c2_, c3_, c4_, c5_, c6_⟩ := h1.2.1 u hu
        refine ⟨c1_, c2_, c3_, c4_, ?_, c6_⟩
        show g u + m_sz Z u ≤ 6
        rw [v1 u hu]; exact hl.2.2 i hi u hu
      · show s_pos (x_S X) = nI (p8 (m_n Z) g)
        rw [s_pos_at hs hi q, p8_ext (m_n Z) v1]
      · show j_mc (x_J X) + nI (m_dp Z i) = a
        rw [v2, h7]
      · show j_dc (x_J X) + s_tcS Z = c
        rw [v3, h8', s_tcS, if_pos hp, hf]
      · show a = nI (t + m_dp Z i)
        rw [v2, h9, nI_add]
      · intro hz
        have hz : a = 0 := hz
        rw [v2, h9, nI_add] at hz
        exact absurd hz (nI_ne0 (by omega) (by omega))
theorem fat_rch {S : SS} {Z : MS} {v p : Nat} (hs : sim S Z) (hl : look_ok Z) (hv : v < m_n Z) : ∀ d t, t + d = 800 → t ≤ m_fm Z → (m_rch Z v (nI p) t = false) → s_fat S (nI v) (nI p) d t = b1 (m_rch Z v (nI p) (m_fm Z) = true)
  | 0, t, hd, ht, h => by
    have h8 : m_fm Z ≤ 800 := hs.2.2.1.1
    rw [s_fat, show m_fm Z = t by omega, h]; rfl
  | d + 1, t, hd, ht, h => by
    have h8 : m_fm Z ≤ 800 := hs.2.2.1.1
    rw [s_fat, hs.1]
    by_cases q : t < m_fm Z
    · rw [if_pos (fun z => absurd ((nI_leI (by omega) (by omega)).mp z) (by omega)), (hs.2.2.2.1 t q).2.1, pl_p8 hl.1.1 (fitm8 hl.1 (lk_fit hl q)) hv]
      have hstep : m_rch Z v (nI p) (t + 1) = (m_rch Z v (nI p) t || decide (nI (dgN (m_fo Z t) v) = nI p)) := rfl
      by_cases w : nI (lk_g Z t v) = nI p
      · rw [if_pos w]
        have hmono : ∀ n, m_rch Z v (nI p) (t + 1 + n) = true := fun n => by
          induction n with
          | zero => show m_rch Z v (nI p) (t + 1) = true
                    rw [hstep, Bool.or_eq_true]; exact Or.inr (decide_eq_true w)
          | succ n ih => show (m_rch Z v (nI p) (t + 1 + n) || _) = true
                         rw [ih]; rfl
        have := hmono (m_fm Z - (t + 1))
        rw [show t + 1 + (m_fm Z - (t + 1)) = m_fm Z by omega] at this
        rw [this]; rfl
      · rw [if_neg w]
        refine fat_rch hs hl hv d (t + 1) (by omega) (by omega) ?_
        rw [hstep, h, Bool.false_or]
        exact decide_eq_false w
    · rw [if_neg (not_not_intro ((nI_leI (by omega) (by omega)).mpr (by omega))), show m_fm Z = t by omega, h]; rfl
end
section
/-! PURE: who stands on a cell -/
theorem p6 {r q : Int32} (h : inL r ∧ inL q) : ∃ rn qn : Nat, rn < 6 ∧ qn < 6 ∧ r = nI rn ∧ q = nI qn ∧ (6 * r + q).toNatClampNeg = 6 * rn + qn := by
  obtain ⟨rn, hr, rfl⟩ := inL_ex h.1
  obtain ⟨qn, hq, rfl⟩ := inL_ex h.2
  exact ⟨rn, qn, hr, hq, rfl, rfl, by rw [n6, nI_clamp (by omega)]⟩
theorem inY_iff (r q : Int32) : inY r q ↔ inL r ∧ inL q := ⟨fun h => ⟨⟨h.1, h.2.1⟩, ⟨h.2.2.1, h.2.2.2⟩⟩, fun h => ⟨h.1.1, h.1.2, h.2.1, h.2.2⟩⟩
theorem cel_on {Y : YS} {M : MS} {f : Nat → Nat} {v rn qn : Nat} (h : yr Y M) (hf : fit M f) (hv : v < m_n M) (hr : rn < 6) (hq : qn < 6) : y_cel Y (nI (p8 (m_n M) f)) (nI v) &&& co (nI rn) (nI qn) = 0 ↔ ¬ occV M f v (6 * rn + qn) := by
  rw [gb_disj]
  constructor
  · intro hd hc
    exact hd (6 * rn + qn) (by omega) ((gb_cel h hf hv (by omega)).mpr hc) ((gb_co hr hq (by omega)).mpr rfl)
  · intro hn c hc h1 h2
    rw [gb_co hr hq hc] at h2
    subst h2
    exact hn ((gb_cel h hf hv hc).mp h1)
/-- the class's search for who stands there, against the laid yard -/
theorem on_at {Y : YS} {M : MS} {rn qn : Nat} (h : yr Y M) (hok : m_ok M) (hno : noO M (m_pl M)) (hr : rn < 6) (hq : qn < 6) : ∀ d t, t + d = m_n M → (∀ u, u < t → ¬ occV M (m_pl M) u (6 * rn + qn)) →
    (y_on Y (nI (p8 (m_n M) (m_pl M))) (co (nI rn) (nI qn)) d t = -1 ∧ m_yd (m_lay M) (6 * rn + qn) = 0) ∨ ∃ u, u < m_n M ∧ y_on Y (nI (p8 (m_n M) (m_pl M))) (co (nI rn) (nI qn)) d t = nI u ∧ m_yd (m_lay M) (6 * rn + qn) = u + 1
  | 0, t, hd, hn => Or.inl ⟨rfl, (lay_0 M (by omega)).mpr (fun ⟨u, hu, hc⟩ => hn u (by omega) hc)⟩
  | d + 1, t, hd, hn => by
    rw [y_on]
    by_cases q : occV M (m_pl M) t (6 * rn + qn)
    · rw [if_neg (fun z => (cel_on h (pl_fit hok) (by omega) hr hq).mp z q)]
      exact Or.inr ⟨t, by omega, rfl, ly_v_at q (fun w hw hw2 hc => by have := hno t w _ (by omega) hw2 q hc; omega) (m_n M) (by omega) (Nat.le_refl _)⟩
    · rw [if_pos ((cel_on h (pl_fit hok) (by omega) hr hq).mpr q)]
      refine on_at h hok hno hr hq d (t + 1) (by omega) (fun u hu => ?_)
      rcases (show u < t ∨ u = t by omega) with z | z
      · exact hn u z
      · subst z; exact q
end
section
/-! PURE: at, ramp, isSolved, canReach -/
theorem rel_at {k : Nat} {X : XS} {M : MS} (h : rel k X M) (r q : Int32) : m_th (m_lay (m_wTh M (if inL r ∧ inL q then 0 else 1))) = nI (at_th r q) ∧ rel k X (m_lay (m_wTh M (if inL r ∧ inL q then 0 else 1))) ∧
    m_at (m_lay (m_wTh M (if inL r ∧ inL q then 0 else 1))) r q = (if at_th r q = 0 then y_on (x_Y X) (j_po (x_J X)) (co r q) (y_n (x_Y X)) 0 else 0) := by
  have hl : ∀ x, rel k X (m_lay (m_wTh M x)) := fun x => rel_lay (rel_th x h)
  have hiff := inY_iff r q
  by_cases hin : inL r ∧ inL q
  · rw [if_pos hin, at_th, if_pos (hiff.mpr hin), if_pos rfl]
    refine ⟨rfl, hl 0, ?_⟩
    obtain ⟨h1, h2, h3, h4, h5, h6, h7, h8, h9, h10, -⟩ := h
    rw [m_at, if_pos hin]
    obtain ⟨rn, qn, hr, hq, rfl, rfl, e⟩ := p6 hin
    rw [e, h5, h3.1]
    have h0 : noO (m_wTh M 0) (m_pl (m_wTh M 0)) := h10
    rcases on_at (Y := x_Y X) (M := m_wTh M 0) h3 h1 h0 hr hq (m_n M) 0 (Nat.zero_add _) (fun u hu => absurd hu (Nat.not_lt_zero _)) with ⟨z1, z2⟩ | ⟨u, hu, z1, z2⟩
    · rw [z2]
      refine Eq.trans ?_ z1.symm
      decide
    · rw [z2, nI_pred]
      exact z1.symm
  · rw [if_neg hin, at_th, if_neg (fun z => hin (hiff.mp z)), if_neg (by decide), m_at, if_neg hin]
    exact ⟨rfl, hl 1, rfl⟩
theorem rel_solved {k : Nat} {X : XS} {M : MS} (h : rel k X M) : b1 (m_free (m_wTh M 0)) = b1 (pl (j_po (x_J X)) 0 = 4) := by
  obtain ⟨h1, h2, h3, h4, h5, -⟩ := h
  have e : m_free (m_wTh M 0) ↔ pl (j_po (x_J X)) 0 = 4 := by
    rw [h5]
    rcases Nat.eq_zero_or_pos (m_n M) with q | q
    · rw [q]
      constructor
      · rintro ⟨z, -⟩
        have z : 0 < m_n M := z
        omega
      · intro z; exact absurd z (by rw [show p8 0 (m_pl M) = 0 from rfl]; decide)
    · have hb := fitm8 h1 (pl_fit h1) 0 q
      rw [show (0 : Int32) = nI 0 from rfl, pl_p8 h1.1 (fitm8 h1 (pl_fit h1)) q, show (4 : Int32) = nI 4 from rfl, nI_eq (by omega) (by omega)]
      exact ⟨fun z => z.2, fun z => ⟨q, z⟩⟩
  by_cases q : pl (j_po (x_J X)) 0 = 4
  · rw [b1, b1, if_pos q, if_pos (e.mpr q)]
  · rw [b1, b1, if_neg q, if_neg (fun z => q (e.mp z))]
theorem mc_pos {k : Nat} {X : XS} {M : MS} (hk : k ≤ 1000000) (h : rel k X M) : (j_mc (x_J X) ≤ 0 ↔ m_mo M = 0) ∧ (0 < j_mc (x_J X) ↔ ¬ m_mo M = 0) ∧ (0 < m_mo M ↔ ¬ m_mo M = 0) := by
  obtain ⟨h1, h2, h3, h4, h5, h6, h7, h8, ⟨t, ht, h9⟩, -⟩ := h
  rw [h7, h9]
  rcases Nat.eq_zero_or_pos t with q | q
  · subst q; decide
  · have a1 : ¬ nI t ≤ 0 := nI_nle q (by omega)
    have a2 : ¬ nI t = 0 := nI_ne0 q (by omega)
    have a3 : 0 < nI t := nI_lt (a := 0) q (by omega)
    exact ⟨⟨fun z => absurd z a1, fun z => absurd z a2⟩, ⟨fun _ => a2, fun _ => a3⟩, ⟨fun _ => a2, fun _ => a3⟩⟩
theorem rel_ramp {k : Nat} {X : XS} {M : MS} (hk : k ≤ 1000000) (h : rel k X M) (r q : Int32) : m_th (m_ramp (m_lay M) r q) = nI (ramp_th X r q) ∧ rel k (if ramp_th X r q = 0 then x_ramp X r q else X) (m_ramp (m_lay M) r q) := by
  have hmc := mc_pos hk h
  have hiff := inY_iff r q
  have keep : ∀ x, rel k X (m_wRp (m_wTh (m_lay M) x) (m_rp (m_lay M))) := fun x => rel_lay h
  by_cases hin : inL r ∧ inL q
  · have hin2 := hin
    obtain ⟨rn, qn, hr, hq, rfl, rfl, e⟩ := p6 hin
    obtain ⟨h1, h2, h3, h4, h5, h6, h7, h8, h9, h10, h11, h12, h13, h14, h15⟩ := h
    have hon := on_at (Y := x_Y X) (M := M) h3 h1 h10 hr hq (m_n M) 0 (by rw [Nat.zero_add]) (fun u hu => absurd hu (Nat.not_lt_zero _))
    have hmon : m_on (m_lay M) (nI rn) (nI qn) = m_yd (m_lay M) (6 * rn + qn) := by rw [m_on, if_pos hin2, e]
    unfold m_ramp m_rth ramp_th
    rw [if_neg (not_not_intro hin2), if_neg (not_not_intro (hiff.mpr hin2)), hmon]
    by_cases hm : m_mo M = 0
    · have hm2 : ¬ 0 < m_mo (m_lay M) := fun z => hmc.2.2.mp z hm
      rw [if_neg (not_not_intro (hmc.1.mpr hm))]
      have hlor : (0 < m_yd (m_lay M) (6 * rn + qn) ∧ 2 < m_sz (m_lay M) (m_yd (m_lay M) (6 * rn + qn) - 1)) ↔ y_lor (x_Y X) (y_on (x_Y X) (j_po (x_J X)) (co (nI rn) (nI qn)) (y_n (x_Y X)) 0) := by
        rw [h5, h3.1]
        rcases hon with ⟨z1, z2⟩ | ⟨u, hu, z1, z2⟩
        · rw [z1, z2]
          constructor
          · rintro ⟨w, -⟩; omega
          · rintro ⟨w, -⟩; exact absurd (by decide) w.1
        · rw [z1, z2]
          obtain ⟨⟨b1_, b2_, b3_, b4_⟩, e1, e2, e3, e4⟩ := h3.2.2 u hu
          have h9' := h1.1
          unfold y_lor
          rw [nI_clamp (by omega), e1, Nat.add_sub_cancel]
          constructor
          · rintro ⟨-, w⟩
            exact ⟨y_has_of h3 hu, fun z => by have := (nI_leI (b := 2) (by omega) (by omega)).mp z; have w : 2 < m_sz M u := w; omega⟩
          · rintro ⟨-, w⟩
            refine ⟨by omega, ?_⟩
            show 2 < m_sz M u
            rcases Nat.lt_or_ge 2 (m_sz M u) with z | z
            · exact z
            · exact absurd ((nI_leI (b := 2) (by omega) (by omega)).mpr z) w
      by_cases hL : y_lor (x_Y X) (y_on (x_Y X) (j_po (x_J X)) (co (nI rn) (nI qn)) (y_n (x_Y X)) 0)
      · rw [if_pos hL, if_pos (Or.inr (hlor.mpr hL)), if_neg (by decide), if_neg (by decide)]
        exact ⟨rfl, keep 2⟩
      · have hno : ¬ (0 < m_mo (m_lay M) ∨ (0 < m_yd (m_lay M) (6 * rn + qn) ∧ 2 < m_sz (m_lay M) (m_yd (m_lay M) (6 * rn + qn) - 1))) := fun z => by
          rcases z with z | z
          · exact hm2 z
          · exact hL (hlor.mp z)
        rw [if_neg hL, if_neg hno, if_pos rfl, if_pos rfl]
        have hoff : ∀ u, u < m_n M → ¬ m_sz M u = 2 → ¬ occV M (m_pl M) u (6 * rn + qn) := fun u hu hz hc => by
          have : m_yd (m_lay M) (6 * rn + qn) = u + 1 := ly_v_at hc (fun w hw hw2 hcw => by have := h10 u w _ hu hw2 hc hcw; omega) (m_n M) (by omega) (Nat.le_refl _)
          refine hL (hlor.mp ?_)
          rw [this]
          refine ⟨by omega, ?_⟩
          rw [Nat.add_sub_cancel]
          show 2 < m_sz M u
          have := (h3.2.2 u hu).1.1
          omega
        refine ⟨rfl, ⟨(m_ok_lay h1), h2, h3, ?_, h5, h6, h7, h8, h9, h10, h11, ?_, ?_, h14, Or.inl rfl⟩⟩
        · intro c hc
          show gb (co (nI rn) (nI qn)) c = true ↔ nI c = 6 * nI rn + nI qn
          rw [gb_co hr hq hc, n6, nI_eq (by omega) (by omega)]
        · intro u hu hz c hc
          have hu : u < m_n M := hu
          have hz : ¬ m_sz M u = 2 := hz
          have hc : occV M (m_pl M) u c := hc
          show ¬ nI c = 6 * nI rn + nI qn
          have hc36 := occ_lt (h3.2.2 u hu).1.2.2.2 (pl_fit h1 u hu) hc
          rw [n6, nI_eq (by omega) (by omega)]
          intro w
          subst w
          exact hoff u hu hz hc
        · intro u hu hz c hc
          have hu : u < m_n M := hu
          have hz : ¬ m_sz M u = 2 := hz
          have hc : occV M (m_pk M) u c := hc
          show ¬ nI c = 6 * nI rn + nI qn
          have hc36 := occ_lt (h3.2.2 u hu).1.2.2.2 (pk_fit h1 u hu) hc
          rw [n6, nI_eq (by omega) (by omega)]
          intro w
          subst w
          refine hoff u hu hz ?_
          unfold occV at hc ⊢
          rw [h14 hm u hu]; exact hc
    · have hm2 : 0 < m_mo (m_lay M) := hmc.2.2.mpr hm
      rw [if_pos (fun z => hm (hmc.1.mp z)), if_pos (Or.inl hm2), if_neg (by decide), if_neg (by decide)]
      exact ⟨rfl, keep 2⟩
  · unfold m_ramp m_rth ramp_th
    rw [if_pos hin, if_pos (fun z => hin (hiff.mp z)), if_neg (by decide), if_neg (by decide)]
    exact ⟨rfl, keep 1⟩
theorem rel_reach {k : Nat} {X : XS} {M : MS} (h : rel k X M) (v p : Int32) :
    m_th (if m_has M v then (if inL p then m_look (m_wTh M 0) else m_wTh M 2) else m_isv M v) = nI (reach_th X v p) ∧
    rel k (if reach_th X v p = 0 then x_srch X else X) (if m_has M v then (if inL p then m_look (m_wTh M 0) else m_wTh M 2) else m_isv M v) ∧
    (if m_has M v then (if inL p then b1 (m_rch (m_look (m_wTh M 0)) v.toNatClampNeg p (m_fm (m_look (m_wTh M 0))) = true) else 0) else 0) = (if reach_th X v p = 0 then s_fat (x_S (x_srch X)) v p 800 0 else 0) := by
  have hh := rel_has h v
  have hin : inL p ↔ ¬ (p < 0 ∨ ¬ p < 6) := by
    constructor
    · rintro ⟨a, c⟩ (q | q)
      · exact a q
      · exact q (Int32.not_le.mp c)
    · intro q
      refine ⟨fun z => q (Or.inl z), fun z => q (Or.inr (Int32.not_lt.mpr z))⟩
  unfold reach_th
  by_cases hv : m_has M v
  · rw [if_pos hv, if_pos hv, if_neg (not_not_intro (hh.mpr hv))]
    by_cases hp : inL p
    · rw [if_pos hp, if_pos hp, if_neg (hin.mp hp), if_pos rfl, if_pos rfl]
      obtain ⟨r1, r2, r3, r4, -, -, -, r8⟩ := rel_srch h
      have hn : m_n (m_look (m_wTh M 0)) = m_n M := r1.2.2.1.1.symm.trans ((srch_same X h.2.2.2.2.2.2.2.2.2.2.2.2.2.2).1 ▸ h.2.2.1.1)
      refine ⟨r8, r1, ?_⟩
      obtain ⟨j, hj, rfl⟩ := m_has_ex h.1 hv
      obtain ⟨pn, hpn, rfl⟩ := inL_ex hp
      have h9 := h.1.1
      rw [nI_clamp (by omega)]
      exact (fat_rch r2 r3 (by rw [hn]; exact hj) 800 0 rfl (Nat.zero_le _) rfl).symm
    · rw [if_neg hp, if_neg hp, if_pos (by
        by_cases z : p < 0 ∨ ¬ p < 6
        · exact z
        · exact absurd (hin.mpr z) hp), if_neg (by decide), if_neg (by decide)]
      exact ⟨rfl, h, rfl⟩
  · rw [if_neg hv, if_neg hv, if_pos (fun z => hv (hh.mp z)), if_neg (by decide), if_neg (by decide), isv_not hv]
    exact ⟨rfl, h, rfl⟩
end
section
/-! PURE: inTheWay -/
def sb (w : Int32) (c : Nat) : Bool := w.toBitVec.getLsbD c
theorem sb_c : ∀ k, k < 32 → ((nI k &&& 31).toBitVec.smod 32).toNat = k := by decide +kernel
theorem sb_1 : ∀ c, c < 32 → sb 1 c = decide (c = 0) := by decide +kernel
theorem sb_bit : ∀ y, y < 32 → ∀ c, c < 32 → sb (1 <<< (nI y &&& 31)) c = decide (c = y) := by decide +kernel
theorem sb_0 (c : Nat) : sb 0 c = false := by simp [sb]
theorem sb_or (x y : Int32) (c : Nat) : sb (x ||| y) c = (sb x c || sb y c) := by unfold sb; rw [Int32.toBitVec_or, BitVec.getLsbD_or]
theorem sb_and (x y : Int32) (c : Nat) : sb (x &&& y) c = (sb x c && sb y c) := by unfold sb; rw [Int32.toBitVec_and, BitVec.getLsbD_and]
theorem sb_ext0 {w : Int32} (h : ∀ c, c < 32 → sb w c = false) : w = 0 :=
  Int32.toBitVec_inj.mp (BitVec.eq_of_getLsbD_eq (fun i hi => by
    rw [show w.toBitVec.getLsbD i = sb w i from rfl, h i hi]; simp))
theorem sb_shr (w : Int32) {n : Nat} (hn : n < 32) : sb (w >>> (nI n &&& 31)) 0 = sb w n := by
  unfold sb
  rw [Int32.toBitVec_shiftRight]
  show (w.toBitVec.sshiftRight ((nI n &&& 31).toBitVec.smod 32).toNat).getLsbD 0 = _
  rw [sb_c n hn, BitVec.getLsbD_sshiftRight]
  simp [hn]
theorem sb_low {w : Int32} : w &&& 1 = 0 ↔ sb w 0 = false := by
  constructor
  · intro h
    have h2 := sb_and w 1 0
    rw [h, sb_0, sb_1 0 (by decide), decide_eq_true rfl, Bool.and_true] at h2
    exact h2.symm
  · intro h
    refine sb_ext0 (fun c hc => ?_)
    rw [sb_and, sb_1 c hc]
    by_cases q : c = 0
    · subst q; rw [h, Bool.false_and]
    · rw [decide_eq_false q, Bool.and_false]
theorem sb_new {sn : Int32} {y : Nat} (hy : y < 32) : (sn >>> (nI y &&& 31)) &&& 1 = 0 ↔ sb sn y = false := by
  rw [sb_low, sb_shr sn hy]
/-- how many below k have P -/
def cB (P : Nat → Bool) : Nat → Nat
  | 0 => 0
  | k + 1 => cB P k + (if P k = true then 1 else 0)
theorem cB_ext {P Q : Nat → Bool} : ∀ k, (∀ i, i < k → P i = Q i) → cB P k = cB Q k
  | 0, _ => rfl
  | k + 1, h => by rw [cB, cB, cB_ext k (fun i hi => h i (by omega)), h k (by omega)]
theorem cB_le (P : Nat → Bool) : ∀ k, cB P k ≤ k
  | 0 => Nat.le_refl _
  | k + 1 => by
    have := cB_le P k
    rw [cB]; split <;> omega
theorem cB_add {P Q : Nat → Bool} {v : Nat} (hp : P v = false) (hq : Q v = true) : ∀ k, v < k → (∀ i, i < k → i ≠ v → Q i = P i) → cB Q k = cB P k + 1
  | 0, h, _ => absurd h (Nat.not_lt_zero _)
  | k + 1, h, hh => by
    rw [cB, cB]
    by_cases q : v = k
    · subst q
      rw [cB_ext (P := Q) (Q := P) v (fun i hi => hh i (by omega) (by omega)), hp, hq, if_pos rfl, if_neg (by decide)]
    · rw [cB_add hp hq k (by omega) (fun i hi hv => hh i (by omega) hv), hh k (by omega) (fun z => q z.symm)]
      omega
/-- who stands on a cell of the laid yard -/
theorem yd_who {M : MS} {c : Nat} (hno : noO M (m_pl M)) (hc : c < 36) : (m_yd (m_lay M) c = 0 ∧ ∀ u, u < m_n M → ¬ occV M (m_pl M) u c) ∨ ∃ u, u < m_n M ∧ m_yd (m_lay M) c = u + 1 ∧ occV M (m_pl M) u c := by
  by_cases h : ∃ u, u < m_n M ∧ occV M (m_pl M) u c
  · obtain ⟨u, hu, q⟩ := h
    exact Or.inr ⟨u, hu, ly_v_at q (fun w hw hw2 hcw => by have := hno u w c hu hw2 q hcw; omega) (m_n M) hu (Nat.le_refl _), q⟩
  · exact Or.inl ⟨(lay_0 M hc).mpr h, fun u hu q => h ⟨u, hu, q⟩⟩
theorem itw_step {X : MS} {d c y : Nat} {sn n : Int32} (hy : m_yd X (12 + c) = y) : itw X (d + 1) c sn n = itw X d (c + 1) (sn ||| (1 <<< (nI y &&& 31))) (n + if 0 < y ∧ (sn >>> (nI y &&& 31)) &&& 1 = 0 then 1 else 0) := by
  subst hy; rfl
theorem itw_loop {M : MS} {c0 : Nat} (h9 : m_n M ≤ 9) (hno : noO M (m_pl M)) : ∀ d c sn n, c + d = 6 → c0 ≤ c → n = nI (cB (fun v => sb sn (v + 1)) (m_n M)) → (∀ v, v < m_n M → (sb sn (v + 1) = true ↔ ∃ e, c0 ≤ e ∧ e < c ∧ occV M (m_pl M) v (12 + e))) →
    ∃ P : Nat → Bool, itw (m_lay M) d c sn n = nI (cB P (m_n M)) ∧ ∀ v, v < m_n M → (P v = true ↔ ∃ e, c0 ≤ e ∧ e < 6 ∧ occV M (m_pl M) v (12 + e))
  | 0, c, sn, n, hd, h0, hn, hv => ⟨fun v => sb sn (v + 1), hn, fun v hvn => by rw [hv v hvn, show c = 6 by omega]⟩
  | d + 1, c, sn, n, hd, h0, hn, hv => by
    rcases yd_who (c := 12 + c) hno (by omega) with ⟨hy, hnone⟩ | ⟨u, hu, hy, hocc⟩
    · rw [itw_step hy]
      have hs : ∀ v, v < m_n M → sb (sn ||| (1 <<< (nI 0 &&& 31))) (v + 1) = sb sn (v + 1) := fun v hv9 => by
        rw [sb_or, sb_bit 0 (by decide) (v + 1) (by omega), decide_eq_false (by omega), Bool.or_false]
      refine itw_loop h9 hno d (c + 1) _ _ (by omega) (by omega) ?_ (fun v hv9 => ?_)
      · rw [if_neg (fun z => by have := z.1; omega), Int32.add_zero, hn, cB_ext (m_n M) (fun i hi => (hs i hi).symm)]
      · rw [hs v hv9, hv v hv9]
        constructor
        · rintro ⟨e, a1, a2, a3⟩; exact ⟨e, a1, by omega, a3⟩
        · rintro ⟨e, a1, a2, a3⟩
          rcases (show e < c ∨ e = c by omega) with q | q
          · exact ⟨e, a1, q, a3⟩
          · subst q; exact absurd a3 (hnone v hv9)
    · rw [itw_step hy]
      have hs : ∀ v, v < m_n M → sb (sn ||| (1 <<< (nI (u + 1) &&& 31))) (v + 1) = (sb sn (v + 1) || decide (v = u)) := fun v hv9 => by
        rw [sb_or, sb_bit (u + 1) (by omega) (v + 1) (by omega)]
        congr 1
        by_cases q : v = u
        · subst q; rw [decide_eq_true rfl, decide_eq_true rfl]
        · rw [decide_eq_false q, decide_eq_false (by omega)]
      have hnew : (0 < u + 1 ∧ (sn >>> (nI (u + 1) &&& 31)) &&& 1 = 0) ↔ sb sn (u + 1) = false := by
        rw [sb_new (by omega)]
        exact ⟨fun z => z.2, fun z => ⟨by omega, z⟩⟩
      refine itw_loop h9 hno d (c + 1) _ _ (by omega) (by omega) ?_ (fun v hv9 => ?_)
      · by_cases q : sb sn (u + 1) = false
        · rw [if_pos (hnew.mpr q), hn, nI_1]
          congr 1
          refine (cB_add (v := u) q (by rw [hs u hu, decide_eq_true rfl, Bool.or_true]) (m_n M) hu (fun i hi hne => ?_)).symm
          rw [hs i hi, decide_eq_false hne, Bool.or_false]
        · rw [if_neg (fun z => q (hnew.mp z)), Int32.add_zero, hn]
          congr 1
          refine cB_ext (m_n M) (fun i hi => ?_)
          rw [hs i hi]
          by_cases w : i = u
          · subst w
            rw [Bool.not_eq_false] at q
            rw [q, Bool.true_or]
          · rw [decide_eq_false w, Bool.or_false]
      · rw [hs v hv9, Bool.or_eq_true, hv v hv9, decide_eq_true_iff]
        constructor
        · rintro (⟨e, a1, a2, a3⟩ | q)
          · exact ⟨e, a1, by omega, a3⟩
          · subst q; exact ⟨c, h0, by omega, hocc⟩
        · rintro ⟨e, a1, a2, a3⟩
          rcases (show e < c ∨ e = c by omega) with q | q
          · exact Or.inl ⟨e, a1, q, a3⟩
          · subst q; exact Or.inr (hno v u _ hv9 hu a3 hocc)
theorem gb_wo {c0 c : Nat} (hc : c < 64) : ∀ k, c0 + k ≤ 6 → (gb (j_wo c0 k) c = true ↔ ∃ i, i < k ∧ c = 12 + (c0 + i))
  | 0, _ => by
    rw [show j_wo c0 0 = 0 from rfl, gb_0]
    constructor
    · intro h; exact absurd h (by decide)
    · rintro ⟨i, hi, -⟩; omega
  | k + 1, hk => by
    rw [show j_wo c0 (k + 1) = j_wo c0 k ||| co 2 (nI (c0 + k)) from rfl, gb_or, Bool.or_eq_true, gb_wo hc k (by omega), show co 2 (nI (c0 + k)) = co (nI 2) (nI (c0 + k)) from rfl, gb_co (by decide) (by omega) hc]
    constructor
    · rintro (⟨i, hi, q⟩ | q)
      · exact ⟨i, by omega, q⟩
      · exact ⟨k, by omega, by omega⟩
    · rintro ⟨i, hi, q⟩
      rcases (show i < k ∨ i = k by omega) with w | w
      · exact Or.inl ⟨i, w, q⟩
      · subst w; exact Or.inr (by omega)
theorem j_cnt_cB (Y : YS) (x : Int32) (wo : Int64) : ∀ k, j_cnt Y x wo k = nI (cB (fun v => decide (¬ y_cel Y x (nI v) &&& wo = 0)) k)
  | 0 => rfl
  | k + 1 => by
    rw [j_cnt, cB, j_cnt_cB Y x wo k]
    by_cases q : y_cel Y x (nI k) &&& wo = 0
    · rw [if_pos q, if_neg (by rw [decide_eq_true_iff]; exact not_not_intro q)]; rfl
    · rw [if_neg q, if_pos (decide_eq_true q), nI_1]
theorem rel_itw {k : Nat} {X : XS} {M : MS} (h : rel k X M) : itw (m_lay (m_wTh M 0)) (6 - itw_c0 (m_lay (m_wTh M 0))) (itw_c0 (m_lay (m_wTh M 0))) 0 0 = j_itw X := by
  obtain ⟨h1, h2, h3, h4, h5, h6, h7, h8, h9, h10, -⟩ := h
  have hn9 := h1.1
  rcases Nat.eq_zero_or_pos (m_n M) with q | q
  · have e1 : itw_c0 (m_lay (m_wTh M 0)) = 6 := by rw [itw_c0, if_pos (show m_n (m_lay (m_wTh M 0)) = 0 from q)]
    have e2 : j_itw X = 0 := by rw [j_itw, h3.1, q]; rfl
    rw [e1, e2]; rfl
  · obtain ⟨b1_, b2_, b3_, b4_, b5_, b6_⟩ := h1.2.1 0 q
    have e1 : itw_c0 (m_lay (m_wTh M 0)) = m_pl M 0 + 2 := by rw [itw_c0, if_neg (show ¬ m_n (m_lay (m_wTh M 0)) = 0 from fun z => by have z : m_n M = 0 := z; omega)]; rfl
    have e2 : pl_nat (j_po (x_J X)) 0 = m_pl M 0 := by
      rw [pl_nat, h5, show (0 : Int32) = nI 0 from rfl, pl_p8 h1.1 (fitm8 h1 (pl_fit h1)) q, nI_clamp (by omega)]
    have h0 : noO (m_wTh M 0) (m_pl (m_wTh M 0)) := h10
    obtain ⟨P, hP1, hP2⟩ := itw_loop (M := m_wTh M 0) (c0 := m_pl M 0 + 2) hn9 h0 (6 - (m_pl M 0 + 2)) (m_pl M 0 + 2) 0 0 (by omega) (Nat.le_refl _)
      (by
        rw [cB_ext (P := fun v => sb 0 (v + 1)) (Q := fun _ => false) _ (fun i _ => sb_0 _)]
        have : ∀ k, cB (fun _ => false) k = 0 := fun k => by
          induction k with
          | zero => rfl
          | succ k ih => rw [cB, ih, if_neg (by decide)]
        rw [this]; rfl)
      (fun v hv => by
        rw [sb_0]
        constructor
        · intro z; exact absurd z (by decide)
        · rintro ⟨e, a1, a2, -⟩; omega)
    rw [e1, hP1, j_itw, e2, j_cnt_cB, h3.1]
    congr 1
    refine cB_ext (m_n M) (fun v hv => ?_)
    have hw : (P v = true) ↔ ¬ y_cel (x_Y X) (j_po (x_J X)) (nI v) &&& j_wo (m_pl M 0 + 2) (6 - (m_pl M 0 + 2)) = 0 := by
      rw [hP2 v hv, gb_disj, h5]
      constructor
      · rintro ⟨e, a1, a2, a3⟩ z
        refine z (12 + e) (by omega) ((gb_cel h3 (pl_fit h1) hv (by omega)).mpr a3) ((gb_wo (by omega) _ (by omega)).mpr ⟨e - (m_pl M 0 + 2), by omega, by omega⟩)
      · intro z
        refine Classical.byContradiction (fun hne => z (fun c hc a1 a2 => ?_))
        obtain ⟨i, hi, rfl⟩ := (gb_wo hc _ (by omega)).mp a2
        exact hne ⟨m_pl M 0 + 2 + i, by omega, by omega, (gb_cel h3 (pl_fit h1) hv hc).mp a1⟩
    by_cases z : P v = true
    · rw [z, decide_eq_true (hw.mp z)]
    · rw [decide_eq_false (fun y => z (hw.mpr y))]
      exact Bool.eq_false_iff.mpr z
end
section
/-! PURE: park -/
theorem p8_snoc : ∀ (n : Nat) {f : Nat → Nat}, p8 (n + 1) f = p8 n f + f n * 8 ^ n
  | 0, f => by rw [p8, p8, p8]; simp
  | n + 1, f => by
    rw [p8, p8_snoc n (f := fun i => f (i + 1)), show p8 (n + 1) f = f 0 + 8 * p8 n (fun i => f (i + 1)) from rfl]
    rw [Nat.pow_succ, ← Nat.mul_assoc]
    omega
theorem mv_new {n g : Nat} {f : Nat → Nat} (hn : n < 9) : mv (nI (p8 n f)) (nI n) (nI g) = nI (p8 (n + 1) (updN f n g)) := by
  unfold mv
  rw [p8_pw n hn, pk_mul, nI_add, p8_snoc, updN_s, p8_ext n (f := updN f n g) (g := f) (fun i hi => updN_n (by omega))]
section ParkPure
variable {M : MS} {cn a l g : Nat} {f : Nat → Nat}
theorem occ_old {u c : Nat} (hu : u < m_n M) : occV (m_wPk M cn a l g) (updN f (m_n M) g) u c ↔ occV M f u c := by
  have hne : u ≠ m_n M := by omega
  show occ (updN (m_ac M) (m_n M) a u) (updN (m_li M) (m_n M) l u) (updN f (m_n M) g u) (updN (m_sz M) (m_n M) cn u) c ↔ _
  rw [updN_n hne, updN_n hne, updN_n hne, updN_n hne]
theorem occ_new {c : Nat} : occV (m_wPk M cn a l g) (updN f (m_n M) g) (m_n M) c ↔ occ a l g cn c := by
  show occ (updN (m_ac M) (m_n M) a (m_n M)) (updN (m_li M) (m_n M) l (m_n M)) (updN f (m_n M) g (m_n M)) (updN (m_sz M) (m_n M) cn (m_n M)) c ↔ _
  rw [updN_s, updN_s, updN_s, updN_s]
theorem noO_park (h : noO M f) (hc : ∀ u, u < m_n M → ∀ c, occ a l g cn c → ¬ occV M f u c) : noO (m_wPk M cn a l g) (updN f (m_n M) g) := by
  intro u w c hu hw h1 h2
  have hu : u < m_n M + 1 := hu
  have hw : w < m_n M + 1 := hw
  rcases (show u < m_n M ∨ u = m_n M by omega) with q | q
  · rcases (show w < m_n M ∨ w = m_n M by omega) with z | z
    · exact h u w c q z ((occ_old q).mp h1) ((occ_old z).mp h2)
    · subst z; exact absurd ((occ_old q).mp h1) (hc u q c (occ_new.mp h2))
  · rcases (show w < m_n M ∨ w = m_n M by omega) with z | z
    · subst q; exact absurd ((occ_old z).mp h2) (hc w z c (occ_new.mp h1))
    · omega
theorem offR_park (h : offR M f) (hr : ¬ cn = 2 → ∀ c, occ a l g cn c → ¬ nI c = m_rp M) : offR (m_wPk M cn a l g) (updN f (m_n M) g) := by
  intro u hu hz c hc
  have hu : u < m_n M + 1 := hu
  have hz : ¬ updN (m_sz M) (m_n M) cn u = 2 := hz
  show ¬ nI c = m_rp M
  rcases (show u < m_n M ∨ u = m_n M by omega) with q | q
  · rw [updN_n (show u ≠ m_n M by omega)] at hz
    exact h u q hz c ((occ_old q).mp hc)
  · subst q
    rw [updN_s] at hz
    exact hr hz c (occ_new.mp hc)
end ParkPure
theorem nar_z {a : Int32} (h : a = 0 ∨ a = 1) : vp_nar .boolean a = a ∧ a = nI (p_ax a) := by
  rcases h with rfl | rfl
  · exact ⟨rfl, rfl⟩
  · exact ⟨rfl, rfl⟩
theorem yr_park {Y : YS} {M : MS} {cn l g : Nat} {a : Int32} (h : yr Y M) (ha : a = 0 ∨ a = 1) (h9 : m_n M < 9) (hc : 2 ≤ cn ∧ cn ≤ 4) (hl : l < 6) : yr (y_add Y (nI cn) a (nI l)) (m_wPk M cn (p_ax a) l g) := by
  have hn : y_n Y < 9 := by rw [h.1]; exact h9
  unfold y_add
  rw [if_pos hn]
  refine ⟨?_, ?_, ?_⟩
  · show y_n Y + 1 = m_n M + 1
    rw [h.1]
  · show m_n M + 1 ≤ 9
    omega
  · intro v hv
    have hv : v < m_n M + 1 := hv
    show (2 ≤ updN (m_sz M) (m_n M) cn v ∧ updN (m_sz M) (m_n M) cn v ≤ 4 ∧ updN (m_ac M) (m_n M) (p_ax a) v ≤ 1 ∧ updN (m_li M) (m_n M) l v < 6) ∧ upd (y_sz Y) (y_n Y) (nI cn) v = nI (updN (m_sz M) (m_n M) cn v) ∧ upd (y_ac Y) (y_n Y) (vp_nar .boolean a) v = nI (updN (m_ac M) (m_n M) (p_ax a) v) ∧ upd (y_li Y) (y_n Y) (nI l) v = nI (updN (m_li M) (m_n M) l v) ∧ ∀ c, c < 64 → (gb (vp_updL (y_sh Y) (y_n Y) (y_csh (nI cn) a (nI l)) v) c = true ↔ occ (updN (m_ac M) (m_n M) (p_ax a) v) (updN (m_li M) (m_n M) l v) 0 (updN (m_sz M) (m_n M) cn v) c)
    rw [h.1]
    rcases (show v < m_n M ∨ v = m_n M by omega) with q | q
    · have hne : v ≠ m_n M := by omega
      rw [updN_n hne, updN_n hne, updN_n hne, pk_un hne, pk_un hne, pk_un hne, pk_uLn hne]
      exact h.2.2 v q
    · subst q
      rw [updN_s, updN_s, updN_s, pk_us, pk_us, pk_us, pk_uLs, (nar_z ha).1]
      exact ⟨⟨hc.1, hc.2, p_ax_le a, hl⟩, rfl, (nar_z ha).2, rfl, fun c h64 => gb_csh hl hc.2 h64⟩
theorem rel_parked {k : Nat} {X : XS} {M : MS} {cn rn qn : Nat} {a : Int32} (h : rel k X M) (ha : a = 0 ∨ a = 1) (h9 : m_n M < 9) (hmo : m_mo M = 0) (hc : 2 ≤ cn ∧ cn ≤ 4) (hr : rn < 6) (hq : qn < 6) (hp : p_plcN a rn qn + cn ≤ 6)
    (hcell : ∀ u, u < m_n M → ∀ c, occ (p_ax a) (p_linN a rn qn) (p_plcN a rn qn) cn c → ¬ occV M (m_pl M) u c) (hramp : ¬ cn = 2 → ∀ c, occ (p_ax a) (p_linN a rn qn) (p_plcN a rn qn) cn c → ¬ nI c = m_rp M) :
    rel k (x_park X (nI cn) a (nI rn) (nI qn)) (m_wPk M cn (p_ax a) (p_linN a rn qn) (p_plcN a rn qn)) := by
  obtain ⟨h1, h2, h3, h4, h5, h6, h7, h8, hh9, h10, h11, h12, h13, h14, h15⟩ := h
  have hl := p_linN_lt (a := a) hr hq
  have hpk := h14 hmo
  have hy : y_n (x_Y X) < 9 := by rw [h3.1]; exact h9
  have epo : mv (j_pp (x_J X)) (y_num (x_Y X)) (p_plc a (nI rn) (nI qn)) = nI (p8 (m_n M + 1) (updN (m_pk M) (m_n M) (p_plcN a rn qn))) := by
    rw [y_num, if_pos hy, h3.1, h6, p_plc_nI, mv_new h9]
  refine ⟨⟨?_, fun v hv => ?_, h1.2.2⟩, h2, ?_, ?_, ?_, ?_, h7, h8, hh9, ?_, ?_, ?_, ?_, fun _ u hu => ?_, Or.inl rfl⟩
  · show m_n M + 1 ≤ 9
    omega
  · have hv : v < m_n M + 1 := hv
    show 2 ≤ updN (m_sz M) (m_n M) cn v ∧ updN (m_sz M) (m_n M) cn v ≤ 4 ∧ updN (m_ac M) (m_n M) (p_ax a) v ≤ 1 ∧ updN (m_li M) (m_n M) (p_linN a rn qn) v < 6 ∧ updN (m_pl M) (m_n M) (p_plcN a rn qn) v + updN (m_sz M) (m_n M) cn v ≤ 6 ∧ updN (m_pk M) (m_n M) (p_plcN a rn qn) v + updN (m_sz M) (m_n M) cn v ≤ 6
    rcases (show v < m_n M ∨ v = m_n M by omega) with q | q
    · have hne : v ≠ m_n M := by omega
      rw [updN_n hne, updN_n hne, updN_n hne, updN_n hne, updN_n hne]
      exact h1.2.1 v q
    · subst q
      rw [updN_s, updN_s, updN_s, updN_s, updN_s]
      exact ⟨hc.1, hc.2, p_ax_le a, hl, hp, hp⟩
  · show yr (y_add (x_Y X) (nI cn) a (p_line a (nI rn) (nI qn))) _
    rw [p_lin_nI]
    exact yr_park h3 ha h9 hc hl
  · show rr (y_add (x_Y X) (nI cn) a (p_line a (nI rn) (nI qn))) _
    unfold y_add
    rw [if_pos hy]
    exact h4
  · show mv (j_pp (x_J X)) (y_num (x_Y X)) (p_plc a (nI rn) (nI qn)) = nI (p8 (m_n M + 1) (updN (m_pl M) (m_n M) (p_plcN a rn qn)))
    rw [epo]
    congr 1
    refine p8_ext _ (fun i hi => ?_)
    rcases (show i < m_n M ∨ i = m_n M by omega) with q | q
    · have hne : i ≠ m_n M := by omega
      rw [updN_n hne, updN_n hne, hpk i q]
    · subst q; rw [updN_s, updN_s]
  · show mv (j_pp (x_J X)) (y_num (x_Y X)) (p_plc a (nI rn) (nI qn)) = nI (p8 (m_n M + 1) (updN (m_pk M) (m_n M) (p_plcN a rn qn)))
    exact epo
  · exact noO_park (f := m_pl M) h10 hcell
  · refine noO_park (f := m_pk M) h11 (fun u hu c ho hx => hcell u hu c ho ?_)
    unfold occV at hx ⊢
    rw [hpk u hu]; exact hx
  · exact offR_park (f := m_pl M) h12 hramp
  · exact offR_park (f := m_pk M) h13 hramp
  · have hu : u < m_n M + 1 := hu
    show updN (m_pl M) (m_n M) (p_plcN a rn qn) u = updN (m_pk M) (m_n M) (p_plcN a rn qn) u
    rcases (show u < m_n M ∨ u = m_n M by omega) with q | q
    · have hne : u ≠ m_n M := by omega
      rw [updN_n hne, updN_n hne, hpk u q]
    · subst q; rw [updN_s, updN_s]
theorem pk_can_iff {X : MS} {a : Int32} {cn rn qn : Nat} : ∀ k, (pk_can X a cn rn qn k = true ↔ (m_n X < 9 ∧ m_mo X = 0) ∧ ∀ i, i < k → m_yd X (pk_cell a rn qn i) = 0 ∧ (cn = 2 ∨ ¬ nI (pk_cell a rn qn i) = m_rp X))
  | 0 => by
    rw [pk_can, decide_eq_true_iff]
    exact ⟨fun h => ⟨h, fun i hi => absurd hi (Nat.not_lt_zero _)⟩, fun h => h.1⟩
  | k + 1 => by
    rw [pk_can, Bool.and_eq_true, decide_eq_true_iff, pk_can_iff k]
    constructor
    · rintro ⟨⟨h1, h2⟩, h3⟩
      refine ⟨h1, fun i hi => ?_⟩
      rcases (show i < k ∨ i = k by omega) with q | q
      · exact h2 i q
      · subst q; exact h3
    · rintro ⟨h1, h2⟩
      exact ⟨⟨h1, fun i hi => h2 i (by omega)⟩, h2 k (by omega)⟩
theorem park_is {X : XS} {M : MS} {c a r q : Int32} (hn : y_n (x_Y X) = m_n M) (h9 : m_n M ≤ 9) : pk_is M c a r q ↔ ¬ (c < 2 ∨ 4 < c ∨ ¬ inY r q) ∧ p_plc a r q + c ≤ 6 ∧ ¬ (nI (y_n (x_Y X)) = 0 ∧ (¬ c = 2 ∨ a = 0 ∨ ¬ r = 2)) := by
  have h0 : nI (y_n (x_Y X)) = 0 ↔ ¬ 0 < m_n M := by
    rw [hn, show (0 : Int32) = nI 0 from rfl, nI_eq (by omega) (by omega)]
    omega
  unfold pk_is
  rw [h0, inY_iff]
  constructor
  · rintro ⟨a1, a2, a3, a4, a5, a6⟩
    refine ⟨fun z => ?_, Int32.not_lt.mp a5, fun z => ?_⟩
    · rcases z with z | z | z
      · exact a1 z
      · exact a2 z
      · exact z ⟨a3, a4⟩
    · rcases a6 with w | ⟨w1, w2, w3⟩
      · exact z.1 w
      · rcases z.2 with y | y | y
        · exact y w1
        · exact w2 y
        · exact y w3
  · rintro ⟨b1_, b2_, b3_⟩
    have hin : inL r ∧ inL q := Classical.byContradiction (fun z => b1_ (Or.inr (Or.inr z)))
    refine ⟨fun z => b1_ (Or.inl z), fun z => b1_ (Or.inr (Or.inl z)), hin.1, hin.2, Int32.not_lt.mpr b2_, ?_⟩
    by_cases w : 0 < m_n M
    · exact Or.inl w
    · refine Or.inr ⟨Classical.byContradiction (fun z => b3_ ⟨w, Or.inl z⟩), fun z => b3_ ⟨w, Or.inr (Or.inl z)⟩, Classical.byContradiction (fun z => b3_ ⟨w, Or.inr (Or.inr z)⟩)⟩
/-- the class's test of the cells is the reference's -/
theorem park_free {X : XS} {M : MS} {a : Int32} {cn rn qn : Nat} {k : Nat} (h : rel k X M) (hc : 2 ≤ cn ∧ cn ≤ 4) (hr : rn < 6) (hq : qn < 6) (hp : p_plcN a rn qn + cn ≤ 6) :
    cso a (nI rn) (nI qn) cn &&& (y_fil (x_Y X) (j_po (x_J X)) (y_n (x_Y X)) ||| y_bar (x_Y X) (nI cn)) = 0 ↔ ∀ i, i < cn → (¬ ∃ u, u < m_n M ∧ occV M (m_pl M) u (pk_cell a rn qn i)) ∧ (cn = 2 ∨ ¬ nI (pk_cell a rn qn i) = m_rp M) := by
  obtain ⟨h1, h2, h3, h4, h5, -⟩ := h
  have hl := p_linN_lt (a := a) hr hq
  have hb : ∀ c, c < 64 → (gb (y_bar (x_Y X) (nI cn)) c = true ↔ ¬ cn = 2 ∧ nI c = m_rp M) := fun c hc64 => by
    unfold y_bar
    by_cases q : cn = 2
    · rw [q, if_pos (by decide), gb_0]
      exact ⟨fun z => absurd z (by decide), fun z => absurd rfl z.1⟩
    · rw [if_neg (fun z => q (by have := (nI_leI (a := cn) (b := 2) (by omega) (by omega)).mp z; omega)), h4 c hc64]
      exact ⟨fun z => ⟨q, z⟩, fun z => z.2⟩
  rw [gb_disj]
  constructor
  · intro hd i hi
    have h36 : pk_cell a rn qn i < 36 := m_cl_lt hl (by omega)
    have h1' := (gb_park hr hq hp (show pk_cell a rn qn i < 64 by omega)).mpr ⟨i, hi, rfl⟩
    have hn := hd _ (by omega) h1'
    rw [gb_or, Bool.or_eq_true, h5, h3.1, gb_fil h3 (pl_fit h1) (by omega) _ (Nat.le_refl _), hb _ (by omega)] at hn
    refine ⟨fun z => hn (Or.inl z), ?_⟩
    by_cases w : cn = 2
    · exact Or.inl w
    · exact Or.inr (fun z => hn (Or.inr ⟨w, z⟩))
  · intro hall c hc64 g1 g2
    obtain ⟨i, hi, rfl⟩ := (gb_park hr hq hp hc64).mp g1
    obtain ⟨a1, a2⟩ := hall i hi
    rw [gb_or, Bool.or_eq_true, h5, h3.1, gb_fil h3 (pl_fit h1) hc64 _ (Nat.le_refl _), hb _ hc64] at g2
    rcases g2 with z | ⟨z1, z2⟩
    · exact a1 z
    · rcases a2 with w | w
      · exact z1 w
      · exact w z2
theorem rel_park {k : Nat} {X : XS} {M : MS} (hk : k ≤ 1000000) (h : rel k X M) (c a r q : Int32) (ha : a = 0 ∨ a = 1) : m_th (m_park M c a r q) = nI (park_th X c a r q) ∧ rel k (if park_th X c a r q = 0 then x_park X c a r q else X) (m_park M c a r q) ∧
    m_parkr M c a r q = (if park_th X c a r q = 0 then y_num (x_Y X) else 0) := by
  have hn := h.2.2.1.1
  have h9 := h.1.1
  have his := park_is (X := X) (M := M) (c := c) (a := a) (r := r) (q := q) hn h9
  have hmc := mc_pos hk h
  unfold m_park m_parkr
  by_cases hp : pk_is M c a r q
  · rw [if_pos hp, if_pos hp]
    obtain ⟨e1, e2, e3⟩ := his.mp hp
    obtain ⟨cn, rn, qn, c1, c2, hr, hq, hpl, rfl, rfl, rfl⟩ := pk_is_ex hp
    have hM0 : rel k X (m_wTh (m_lay (m_wTh M 0)) 0) := rel_th 0 (rel_lay (rel_th 0 h))
    have hM2 : rel k X (m_wTh (m_lay (m_wTh M 0)) 2) := rel_th 2 (rel_lay (rel_th 0 h))
    have hfree := park_free (a := a) h ⟨c1, c2⟩ hr hq hpl
    have hl := p_linN_lt (a := a) hr hq
    rw [nI_clamp (by omega), nI_clamp (by omega), nI_clamp (by omega)]
    have hcan : pk_can (m_lay (m_wTh M 0)) a cn rn qn cn = true ↔ (m_n M < 9 ∧ m_mo M = 0) ∧ cso a (nI rn) (nI qn) cn &&& (y_fil (x_Y X) (j_po (x_J X)) (y_n (x_Y X)) ||| y_bar (x_Y X) (nI cn)) = 0 := by
      rw [pk_can_iff, hfree]
      refine and_congr_right (fun _ => forall_congr' (fun i => imp_congr_right (fun hi => ?_)))
      have h36 : pk_cell a rn qn i < 36 := m_cl_lt hl (by omega)
      rw [lay_0 (m_wTh M 0) h36]
      exact Iff.rfl
    have hmin : min (nI cn).toNatClampNeg 4 = cn := by rw [nI_clamp (by omega)]; omega
    unfold park_th
    rw [if_neg e1, if_neg (not_not_intro e2), if_neg e3, hmin]
    have hl9 : nI (y_n (x_Y X)) < 9 ↔ m_n M < 9 := by rw [hn]; exact nI_ltI (a := m_n M) (b := 9) (by omega) (by omega)
    by_cases g : m_n M < 9 ∧ m_mo M = 0
    · rw [if_neg (show ¬ (0 < j_mc (x_J X) ∨ ¬ nI (y_n (x_Y X)) < 9) from fun z => by
        rcases z with z | z
        · exact (hmc.2.1.mp z) g.2
        · exact z (hl9.mpr g.1))]
      by_cases w : cso a (nI rn) (nI qn) cn &&& (y_fil (x_Y X) (j_po (x_J X)) (y_n (x_Y X)) ||| y_bar (x_Y X) (nI cn)) = 0
      · rw [if_pos (hcan.mpr ⟨g, w⟩), if_pos (hcan.mpr ⟨g, w⟩), if_neg (not_not_intro w), if_pos rfl, if_pos rfl]
        have hall := hfree.mp w
        refine ⟨rfl, rel_parked hM0 ha g.1 g.2 ⟨c1, c2⟩ hr hq hpl ?_ ?_, ?_⟩
        · rintro u hu c ⟨i, hi, rfl⟩ ho
          exact (hall i hi).1 ⟨u, hu, ho⟩
        · rintro h2 c ⟨i, hi, rfl⟩ ho
          rcases (hall i hi).2 with z | z
          · exact h2 z
          · exact z ho
        · rw [y_num, if_pos (show y_n (x_Y X) < 9 by rw [hn]; exact g.1), hn]
      · rw [if_neg (fun z => w (hcan.mp z).2), if_neg (fun z => w (hcan.mp z).2), if_pos w, if_neg (by decide), if_neg (by decide)]
        exact ⟨rfl, hM2, rfl⟩
    · rw [if_neg (fun z => g (hcan.mp z).1), if_neg (fun z => g (hcan.mp z).1), if_pos (show (0 < j_mc (x_J X) ∨ ¬ nI (y_n (x_Y X)) < 9) from by
        by_cases z : m_n M < 9
        · exact Or.inl (hmc.2.1.mpr (fun y => g ⟨z, y⟩))
        · exact Or.inr (fun y => z (hl9.mp y))), if_neg (by decide), if_neg (by decide)]
      exact ⟨rfl, hM2, rfl⟩
  · rw [if_neg hp, if_neg hp]
    have e : park_th X c a r q = 1 := by
      unfold park_th
      by_cases d1 : c < 2 ∨ 4 < c ∨ ¬ inY r q
      · rw [if_pos d1]
      · rw [if_neg d1]
        by_cases d2 : p_plc a r q + c ≤ 6
        · rw [if_neg (not_not_intro d2)]
          by_cases d3 : nI (y_n (x_Y X)) = 0 ∧ (¬ c = 2 ∨ a = 0 ∨ ¬ r = 2)
          · rw [if_pos d3]
          · exact absurd (his.mpr ⟨d1, d2, d3⟩) hp
        · rw [if_pos d2]
    rw [e, if_neg (by decide), if_neg (by decide)]
    exact ⟨rfl, rel_th 1 h, rfl⟩
end
