section
-- ===== PART A: goes FIRST, ahead of the names: the tables' words, and 'selects' of the private methods out of them =====
/-- a private method of a class that the tables say can be made, by its rows of tables_1 -/
def lw_okq (q : MethodName × Nat) : Prop := (q.1.cls ≠ "java/lang/invoke/MethodHandle" ∧ q.1.cls ≠ "java/lang/invoke/VarHandle") ∧ Cond.instantiable q.1.cls q.2 ∈ tables_1 ∧ Cond.privateMethod q.1 ∈ tables_1 ∧ Cond.instanceMethod q.1 ∈ tables_1
theorem lw_p0 : lw_okq (⟨"RampJam", "standAt", "(I)V"⟩, 7) := ⟨⟨by decide +kernel, by decide +kernel⟩, List.mem_of_getElem? (i := 14) (by decide +kernel), List.mem_of_getElem? (i := 113) (by decide +kernel), List.mem_of_getElem? (i := 114) (by decide +kernel)⟩
theorem lw_p1 : lw_okq (⟨"RampJam", "searchFromNow", "()V"⟩, 7) := ⟨⟨by decide +kernel, by decide +kernel⟩, List.mem_of_getElem? (i := 14) (by decide +kernel), List.mem_of_getElem? (i := 160) (by decide +kernel), List.mem_of_getElem? (i := 161) (by decide +kernel)⟩
theorem lw_p2 : lw_okq (⟨"RampJam$Search", "addIfNew", "(III)V"⟩, 10) := ⟨⟨by decide +kernel, by decide +kernel⟩, List.mem_of_getElem? (i := 50) (by decide +kernel), List.mem_of_getElem? (i := 171) (by decide +kernel), List.mem_of_getElem? (i := 172) (by decide +kernel)⟩
theorem lw_p3 : lw_okq (⟨"RampJam$Search", "slotFor", "(I)I"⟩, 10) := ⟨⟨by decide +kernel, by decide +kernel⟩, List.mem_of_getElem? (i := 50) (by decide +kernel), List.mem_of_getElem? (i := 175) (by decide +kernel), List.mem_of_getElem? (i := 176) (by decide +kernel)⟩
theorem lw_p4 : lw_okq (⟨"RampJam$Search", "addReachedFrom", "(I)V"⟩, 10) := ⟨⟨by decide +kernel, by decide +kernel⟩, List.mem_of_getElem? (i := 50) (by decide +kernel), List.mem_of_getElem? (i := 181) (by decide +kernel), List.mem_of_getElem? (i := 182) (by decide +kernel)⟩
theorem lw_p5 : lw_okq (⟨"RampJam$Search", "isFound", "(I)Z"⟩, 10) := ⟨⟨by decide +kernel, by decide +kernel⟩, List.mem_of_getElem? (i := 50) (by decide +kernel), List.mem_of_getElem? (i := 185) (by decide +kernel), List.mem_of_getElem? (i := 186) (by decide +kernel)⟩
theorem lw_p6 : lw_okq (⟨"RampJam$Search", "addDriven", "(IIII)V"⟩, 10) := ⟨⟨by decide +kernel, by decide +kernel⟩, List.mem_of_getElem? (i := 50) (by decide +kernel), List.mem_of_getElem? (i := 204) (by decide +kernel), List.mem_of_getElem? (i := 205) (by decide +kernel)⟩
theorem lw_p7 : lw_okq (⟨"RampJam$Search", "traceWay", "()V"⟩, 10) := ⟨⟨by decide +kernel, by decide +kernel⟩, List.mem_of_getElem? (i := 50) (by decide +kernel), List.mem_of_getElem? (i := 214) (by decide +kernel), List.mem_of_getElem? (i := 215) (by decide +kernel)⟩
theorem lw_p8 : lw_okq (⟨"java/lang/Throwable", "fillInStackTrace", "(I)Ljava/lang/Throwable;"⟩, 6) := ⟨⟨by decide +kernel, by decide +kernel⟩, List.mem_of_getElem? (i := 306) (by decide +kernel), List.mem_of_getElem? (i := 304) (by decide +kernel), List.mem_of_getElem? (i := 305) (by decide +kernel)⟩
theorem lw_p9 : lw_okq (⟨"RampJam", "wayNow", "(IZ)I"⟩, 7) := ⟨⟨by decide +kernel, by decide +kernel⟩, List.mem_of_getElem? (i := 14) (by decide +kernel), List.mem_of_getElem? (i := 415) (by decide +kernel), List.mem_of_getElem? (i := 416) (by decide +kernel)⟩
theorem lw_p10 : lw_okq (⟨"RampJam", "makeMove", "(II)V"⟩, 7) := ⟨⟨by decide +kernel, by decide +kernel⟩, List.mem_of_getElem? (i := 14) (by decide +kernel), List.mem_of_getElem? (i := 421) (by decide +kernel), List.mem_of_getElem? (i := 422) (by decide +kernel)⟩
theorem lw_p11 : lw_okq (⟨"RampJamModel", "laysYard", "()V"⟩, 19) := ⟨⟨by decide +kernel, by decide +kernel⟩, List.mem_of_getElem? (i := 480) (by decide +kernel), List.mem_of_getElem? (i := 555) (by decide +kernel), List.mem_of_getElem? (i := 556) (by decide +kernel)⟩
theorem lw_p12 : lw_okq (⟨"RampJamModel", "isVehicle", "(I)Z"⟩, 19) := ⟨⟨by decide +kernel, by decide +kernel⟩, List.mem_of_getElem? (i := 480) (by decide +kernel), List.mem_of_getElem? (i := 570) (by decide +kernel), List.mem_of_getElem? (i := 571) (by decide +kernel)⟩
theorem lw_p13 : lw_okq (⟨"RampJamModel", "way", "(IZ)I"⟩, 19) := ⟨⟨by decide +kernel, by decide +kernel⟩, List.mem_of_getElem? (i := 480) (by decide +kernel), List.mem_of_getElem? (i := 574) (by decide +kernel), List.mem_of_getElem? (i := 575) (by decide +kernel)⟩
theorem lw_p14 : lw_okq (⟨"RampJamModel", "isOpen", "(II)Z"⟩, 19) := ⟨⟨by decide +kernel, by decide +kernel⟩, List.mem_of_getElem? (i := 480) (by decide +kernel), List.mem_of_getElem? (i := 578) (by decide +kernel), List.mem_of_getElem? (i := 579) (by decide +kernel)⟩
theorem lw_p15 : lw_okq (⟨"RampJamModel", "goes", "(II)V"⟩, 19) := ⟨⟨by decide +kernel, by decide +kernel⟩, List.mem_of_getElem? (i := 480) (by decide +kernel), List.mem_of_getElem? (i := 582) (by decide +kernel), List.mem_of_getElem? (i := 583) (by decide +kernel)⟩
def lw_privs_1 : List (MethodName × Nat) := [(⟨"RampJam", "standAt", "(I)V"⟩, 7), (⟨"RampJam", "searchFromNow", "()V"⟩, 7), (⟨"RampJam$Search", "addIfNew", "(III)V"⟩, 10), (⟨"RampJam$Search", "slotFor", "(I)I"⟩, 10), (⟨"RampJam$Search", "addReachedFrom", "(I)V"⟩, 10), (⟨"RampJam$Search", "isFound", "(I)Z"⟩, 10), (⟨"RampJam$Search", "addDriven", "(IIII)V"⟩, 10), (⟨"RampJam$Search", "traceWay", "()V"⟩, 10), (⟨"java/lang/Throwable", "fillInStackTrace", "(I)Ljava/lang/Throwable;"⟩, 6), (⟨"RampJam", "wayNow", "(IZ)I"⟩, 7), (⟨"RampJam", "makeMove", "(II)V"⟩, 7), (⟨"RampJamModel", "laysYard", "()V"⟩, 19), (⟨"RampJamModel", "isVehicle", "(I)Z"⟩, 19), (⟨"RampJamModel", "way", "(IZ)I"⟩, 19), (⟨"RampJamModel", "isOpen", "(II)Z"⟩, 19), (⟨"RampJamModel", "goes", "(II)V"⟩, 19)]
theorem lw_r1 : ∀ q ∈ lw_privs_1, lw_okq q := List.forall_mem_cons.mpr ⟨lw_p0, List.forall_mem_cons.mpr ⟨lw_p1, List.forall_mem_cons.mpr ⟨lw_p2, List.forall_mem_cons.mpr ⟨lw_p3, List.forall_mem_cons.mpr ⟨lw_p4, List.forall_mem_cons.mpr ⟨lw_p5, List.forall_mem_cons.mpr ⟨lw_p6, List.forall_mem_cons.mpr ⟨lw_p7, List.forall_mem_cons.mpr ⟨lw_p8, List.forall_mem_cons.mpr ⟨lw_p9, List.forall_mem_cons.mpr ⟨lw_p10, List.forall_mem_cons.mpr ⟨lw_p11, List.forall_mem_cons.mpr ⟨lw_p12, List.forall_mem_cons.mpr ⟨lw_p13, List.forall_mem_cons.mpr ⟨lw_p14, List.forall_mem_cons.mpr ⟨lw_p15, fun _ h => absurd h List.not_mem_nil⟩⟩⟩⟩⟩⟩⟩⟩⟩⟩⟩⟩⟩⟩⟩⟩
theorem lw_p16 : lw_okq (⟨"RampJamModel", "isFree", "()Z"⟩, 19) := ⟨⟨by decide +kernel, by decide +kernel⟩, List.mem_of_getElem? (i := 480) (by decide +kernel), List.mem_of_getElem? (i := 622) (by decide +kernel), List.mem_of_getElem? (i := 623) (by decide +kernel)⟩
theorem lw_p17 : lw_okq (⟨"RampJamModel", "looks", "()V"⟩, 19) := ⟨⟨by decide +kernel, by decide +kernel⟩, List.mem_of_getElem? (i := 480) (by decide +kernel), List.mem_of_getElem? (i := 638) (by decide +kernel), List.mem_of_getElem? (i := 639) (by decide +kernel)⟩
theorem lw_p18 : lw_okq (⟨"RampJamModel", "takes", "(II)V"⟩, 19) := ⟨⟨by decide +kernel, by decide +kernel⟩, List.mem_of_getElem? (i := 480) (by decide +kernel), List.mem_of_getElem? (i := 642) (by decide +kernel), List.mem_of_getElem? (i := 643) (by decide +kernel)⟩
theorem lw_p19 : lw_okq (⟨"RampJamModel", "positionNow", "()I"⟩, 19) := ⟨⟨by decide +kernel, by decide +kernel⟩, List.mem_of_getElem? (i := 480) (by decide +kernel), List.mem_of_getElem? (i := 646) (by decide +kernel), List.mem_of_getElem? (i := 647) (by decide +kernel)⟩
theorem lw_p20 : lw_okq (⟨"RampJamModel", "tries", "(III)V"⟩, 19) := ⟨⟨by decide +kernel, by decide +kernel⟩, List.mem_of_getElem? (i := 480) (by decide +kernel), List.mem_of_getElem? (i := 653) (by decide +kernel), List.mem_of_getElem? (i := 654) (by decide +kernel)⟩
theorem lw_p21 : lw_okq (⟨"RampJamModel", "firstMoveTo", "(I)I"⟩, 19) := ⟨⟨by decide +kernel, by decide +kernel⟩, List.mem_of_getElem? (i := 480) (by decide +kernel), List.mem_of_getElem? (i := 665) (by decide +kernel), List.mem_of_getElem? (i := 666) (by decide +kernel)⟩
def lw_privs_2 : List (MethodName × Nat) := [(⟨"RampJamModel", "isFree", "()Z"⟩, 19), (⟨"RampJamModel", "looks", "()V"⟩, 19), (⟨"RampJamModel", "takes", "(II)V"⟩, 19), (⟨"RampJamModel", "positionNow", "()I"⟩, 19), (⟨"RampJamModel", "tries", "(III)V"⟩, 19), (⟨"RampJamModel", "firstMoveTo", "(I)I"⟩, 19)]
theorem lw_r2 : ∀ q ∈ lw_privs_2, lw_okq q := List.forall_mem_cons.mpr ⟨lw_p16, List.forall_mem_cons.mpr ⟨lw_p17, List.forall_mem_cons.mpr ⟨lw_p18, List.forall_mem_cons.mpr ⟨lw_p19, List.forall_mem_cons.mpr ⟨lw_p20, List.forall_mem_cons.mpr ⟨lw_p21, fun _ h => absurd h List.not_mem_nil⟩⟩⟩⟩⟩⟩
def lw_privs : List (MethodName × Nat) := lw_privs_1 ++ (lw_privs_2)
def lw_tbl : List Cond := k2_sels lw_privs ++ tables_1
theorem lw_privs_ok : ∀ q ∈ lw_privs, lw_okq q := by
  show ∀ q ∈ lw_privs_1 ++ (lw_privs_2), lw_okq q
  exact List.forall_mem_append.mpr ⟨lw_r1, lw_r2⟩
end
section
/-! ===== BEGIN words of one list among another's, by their places ===== -/
theorem goodIn_r {big : List Cond} (ws : List Cond) (ps : List Nat) (hp : ws = ps.filterMap (fun i => big[i]?)) (h : ws.all goodWord = true) : GoodIn big ws := by
  intro w hw
  have h1 := List.all_eq_true.mp h w hw
  rw [hp] at hw
  obtain ⟨i, -, hi⟩ := List.mem_filterMap.mp hw
  have hm : w ∈ big := by first | exact List.mem_of_getElem? hi | exact List.getElem?_mem hi
  exact ⟨hm, good_of_word h1⟩
theorem goodIn_app {big a b : List Cond} (ha : GoodIn big a) (hb : GoodIn big b) : GoodIn big (a ++ b) := fun w h => (List.mem_append.mp h).elim (ha w) (hb w)
theorem goodIn_ca {big a b : List Cond} {c : Cond} (ha : GoodIn big (c :: a)) (hb : GoodIn big b) : GoodIn big (c :: (a ++ b)) := fun w h => (List.mem_cons.mp h).elim (fun e => ha w (List.mem_cons.mpr (Or.inl e))) (fun h => (List.mem_append.mp h).elim (fun h => ha w (List.mem_cons.mpr (Or.inr h))) (hb w))
theorem goodIn_sub {big ws : List Cond} (hm : ∀ w ∈ ws, w ∈ big) (h : ws.all goodWord = true) : GoodIn big ws := fun w hw => ⟨hm w hw, good_of_word (List.all_eq_true.mp h w hw)⟩
/-! ===== END ===== -/

/-! ===== BEGIN exceptions that leave a method, and their catching by the caller (launches without stack traces) ===== -/
section VXA
/-! The laws vx_back, vx_callV, vx_callS, vx_callSW, vx_throw0, vx_throwS follow proofs of the library, with one case more: JvmDerived/Free/Laws.lean (Back.of_free), Shelf42/LK1.lean (callV, callS), Shelf/KitTraced.lean (throwNew0V, throwNewS). -/
/-- where a method has thrown q: the class by its name, the cell, what was written, the world -/
def vx_T (XC : String → State → State → Prop) (st : State) (q : Addr) (t : State) (mc ms : Nat) (free : Addr → Prop) : Prop :=
  ∃ (E : String) (ce : Cell) (L : List Loc), XC E st t ∧ t.heap[q]? = some ce ∧ ce.vm = .none ∧ st.vm.findClass E = some ce.cls ∧ st.WarmedH t.vm ∧ st.sameButNew ({ t with vm := st.vm } : State) L mc ms ∧ ∀ z ∈ L, free z.base
def vx_Q (Qc : Array Value → State → Outcome → State → Prop) (XC : String → State → State → Prop) (mc ms : Nat) (free : Addr → Prop) : Array Value → State → Outcome → State → Prop := fun a st o t =>
  (Qc a st o t ∧ ∃ L, FrameEnd st o t L mc ms ∧ ∀ q ∈ L, free q.base) ∨ ∃ q, o = .threw q ∧ vx_T XC st q t mc ms free
/-- a callee that returns or throws -/
def vx_Met (l : Launch) (y : MethodName) (ws : List Cond) (rm : Room) (Pc : Array Value → State → Prop) (Qc : Array Value → State → Outcome → State → Prop) (XC : String → State → State → Prop) (mc ms : Nat) (free : Addr → Prop) : Prop :=
  MetFree l y (headSpec ws rm) Pc (fun _ _ _ _ _ => True) (vx_Q Qc XC mc ms free)
def vx_Post (XC : String → State → State → Prop) (mc ms : Nat) (free : Addr → Prop) : Pt → Array Value → Addr → Pt → Prop := fun A a q B =>
  ∃ (g : JFrame) (mk : MethodId) (t : State) (L : List Loc) (E : String) (ce : Cell), B.U.heap = t.heap ∧ B.U.vm = t.vm ∧ XC E (A.U.calling g mk a) t ∧ t.heap[q]? = some ce ∧ ce.vm = .none ∧ A.U.vm.findClass E = some ce.cls ∧ B.locs = A.locs ++ L ∧ (∀ z ∈ L, free z.base) ∧ B.cells = A.cells + mc ∧ B.slots = A.slots + ms
def vx_Back (l : Launch) (R : Room) (p : Program) (e : Env) (below : List Frame) (s : State) (sargs : Array Value) (y : MethodName) (len W9 : Nat)
    (Pre : Pt → Array Value → Prop) (Post : Pt → Array Value → Option Value → Pt → Prop) (PostX : Pt → Array Value → Addr → Pt → Prop) : Prop :=
  ∀ (m : MethodId) (meth : Method) (c : Code) (A : Pt) (g : JFrame) (ig : Instr) (mk : MethodId) (a : Array Value),
    Stand p l e R s m sargs below meth c A.U A.locs A.cells A.slots → g.method = m → g.locals.size = c.maxLocals → decode c.code g.pc = .ok (ig, len) →
    2 * g.monitorRoom + (g.stack.map fun v => v.category).sum ≤ W9 → A.U.methodNamed? y = some mk → Pre A a →
    (∃ (v : Option Value) (B : Pt), Stand p l e R s m sargs below meth c B.U B.locs B.cells B.slots ∧ Post A a v B ∧
      Steps p.tables e below (doInvoke e (A.U.setTop g) [] mk a).1 (B.U.setTop { g with pc := g.pc + len, stack := v.toList ++ g.stack })) ∨
    (∃ (q : Addr) (B : Pt), Stand p l e R s m sargs below meth c B.U B.locs B.cells B.slots ∧ PostX A a q B ∧
      Steps p.tables e below (doInvoke e (A.U.setTop g) [] mk a).1 ((B.U.setTop g).pushFrame (.throwing q)))
section Payer
variable {l : Launch} {R : Room} {p : Program} {e : Env} {below : List Frame} {s : State} {sargs : Array Value} {y : MethodName} {len W9 : Nat}
theorem vx_back {ws : List Cond} {rm : Room} {Pc : Array Value → State → Prop} {Qc : Array Value → State → Outcome → State → Prop} {XC : String → State → State → Prop} {mc ms : Nat} {free : Addr → Prop} {bytes : ByteArray} {maxL : Nat} {ret : Option FieldType}
    (hM : vx_Met l y ws rm Pc Qc XC mc ms free) (hblind : FrameBlind Pc) (hrc : rm.cells = mc) (hrs : rm.slots = ms)
    (hframes : rm.frames + 1 ≤ R.frames) (hlocals : W9 + (maxL + 11) + rm.locals ≤ R.locals)
    (hws : ∀ w ∈ ws, ∀ a' U, s.WarmedH U.vm → w.before a' U = true) (hcode : Cond.code y bytes maxL ret ∈ ws) (hinit : ∀ a' U, s.WarmedH U.vm → (Cond.initialized y.cls).before a' U = true) :
    vx_Back l R p e below s sargs y len W9 (PreOf R mc ms Pc) (PostOf Qc mc ms free) (vx_Post XC mc ms free) := by
  intro m meth c A g ig mk a X hg hsize hdg hW hn hp
  have h1 : (headSpec ws rm).pre.before a A.U = true := atoms_intro fun w hw => hws w hw _ _ X.warmed
  have h2 : (Cond.code y bytes maxL ret).before a A.U = true := hws _ hcode _ _ X.warmed
  have h3 : (Cond.initialized y.cls).before a A.U = true := hinit _ _ X.warmed
  have h4 : A.cells + (headSpec ws rm).room.cells ≤ R.cells := by rw [show (headSpec ws rm).room.cells = mc from hrc]; exact hp.1
  have h5 : A.slots + (headSpec ws rm).room.slots ≤ R.slots := by rw [show (headSpec ws rm).room.slots = ms from hrs]; exact hp.2.1
  have hPc : Pc a (A.U.calling g mk a) := hblind _ _ _ _ hp.2.2
  obtain ⟨U, Ls, c0, s0⟩ := A
  dsimp only [Pt.U, Pt.locs, Pt.cells, Pt.slots] at h1 h2 h3 h4 h5 X hn hPc ⊢
  obtain ⟨methY, cY, hmY, hcY, -, hlY, -, -, -, -⟩ := Cond.code_spec hn h2
  obtain ⟨kY, hkY, -⟩ := className_of_methodNamed hn
  have hinitY : kY.init = .initialized := Cond.initialized_spec (findClass_of_methodNamed hn) hkY h3
  have h : At U g.method c below := by rw [hg]; exact X.here
  have hlocals9 : W9 + (maxL + 11) + (headSpec ws rm).room.locals ≤ R.locals := hlocals
  have happ : (headSpec ws rm).appliesLoose y e.platform (U.calling g mk a) = true :=
    Spec.appliesLoose_calling (g := g) h hdg hn hkY hinitY
      (X.room_calling (g := g) (R' := (headSpec ws rm).room) hsize hmY hcY hframes (by rw [hlY]; omega) h4 h5) h1
  obtain ⟨mid, hmid⟩ := h.above
  have hfr : (U.setTop g).frames = (.java g :: mid) ++ below := by rw [State.frames_setTop' g h.top, hmid]; rfl
  obtain ⟨o, s₂, hsteps, -, hend, hq⟩ := Steps.callFree hM p X.admits X.cas X.clock (acts := []) hfr happ hPc trivial
  have hq' : vx_Q Qc XC mc ms free a (U.calling g mk a) o s₂ := hq
  rw [State.frames_setTop' g h.top] at hend
  obtain ⟨g₀, hg0⟩ := Option.isSome_iff_exists.mp h.top
  obtain ⟨r, hr⟩ := State.topJava?_eq_some.mp hg0
  have hr' : (({ U with heap := s₂.heap, slotsUsed := s₂.slotsUsed } : State).setVm s₂.vm).frames = .java g₀ :: r := hr
  rcases hq' with ⟨hqc, L, hfe, hL⟩ | ⟨q, rfl, E, ce, L, hx, hce, hcv, hcl, hW₂, hsm, hL⟩
  · obtain ⟨⟨v, rfl⟩, hW₂, e2, q2, q3, q4, q5, q6⟩ := id hfe
    have e3 : s₂ = ({ (U.calling g mk a).setFrames s₂.frames with heap := s₂.heap, slotsUsed := s₂.slotsUsed } : State).setVm s₂.vm := by
      have : s₂ = ({ s₂ with vm := (U.calling g mk a).vm } : State).setVm s₂.vm := rfl
      rw [e2] at this
      exact this
    obtain ⟨c₂, i₂, len₂, hc₂, hd₂, hf₂⟩ := hend
    have hW' : U.WarmedH s₂.vm := hW₂
    have hcc : c₂ = c := by
      have h1 : s₂.code? g.method = U.code? g.method := by
        rw [State.code?_eq, State.code?_eq, hW'.alike.method?]
      exact Option.some.inj (hc₂.symm.trans (h1.trans h.code))
    subst hcc
    have hlen : len₂ = len := by rw [hdg] at hd₂; cases hd₂; rfl
    subst hlen
    have hs₂ : s₂ = (({ U with heap := s₂.heap, slotsUsed := s₂.slotsUsed } : State).setVm s₂.vm).setTop { g with pc := g.pc + len₂, stack := v.toList ++ g.stack } := by
      refine e3.trans ?_
      rw [hf₂, State.calling_eq h.top, State.setFrames_setFrames, State.setTop_of_frames _ hr', hr]
      rfl
    have hsame : U.sameButNew ({ U with heap := s₂.heap, slotsUsed := s₂.slotsUsed } : State) L mc ms := by
      refine ⟨?_, q2, q3, q4, q5, q6⟩
      obtain ⟨t, ht, -⟩ := State.frames_cons hr
      show ({ U with heap := s₂.heap, slotsUsed := s₂.slotsUsed } : State) = { U.setFrames U.frames with heap := s₂.heap, slotsUsed := s₂.slotsUsed }
      rw [State.setFrames_self ht]
    subst hg
    refine Or.inl ⟨v, ⟨(({ U with heap := s₂.heap, slotsUsed := s₂.slotsUsed } : State).setVm s₂.vm), Ls ++ L, c0 + mc, s0 + ms⟩,
      ⟨X.admits, X.cas, X.clock, X.frames, X.room, X.hears, X.method, X.code, (X.here.setHeapUsed s₂.heap s₂.slotsUsed).setVm hW'.alike, X.tail, State.WarmedH.trans X.warmed hW', X.limits, X.bytes, X.same.trans (hsame.setVm s.vm)⟩,
      ⟨g, mk, s₂, L, rfl, rfl, hqc, rfl, hL, rfl, rfl⟩, ?_⟩
    show Steps p.tables e below _ ((({ U with heap := s₂.heap, slotsUsed := s₂.slotsUsed } : State).setVm s₂.vm).setTop { g with pc := g.pc + len₂, stack := v.toList ++ g.stack })
    rw [← hs₂]
    exact hsteps
  · obtain ⟨e2, q2, q3, q4, q5, q6⟩ := id hsm
    have e3 : s₂ = ({ (U.calling g mk a).setFrames s₂.frames with heap := s₂.heap, slotsUsed := s₂.slotsUsed } : State).setVm s₂.vm := by
      have : s₂ = ({ s₂ with vm := (U.calling g mk a).vm } : State).setVm s₂.vm := rfl
      rw [e2] at this
      exact this
    have hf₂ : s₂.frames = .throwing q :: .java g :: U.frames.tail := hend
    have hW' : U.WarmedH s₂.vm := hW₂
    have hs₂ : s₂ = ((({ U with heap := s₂.heap, slotsUsed := s₂.slotsUsed } : State).setVm s₂.vm).setTop g).pushFrame (.throwing q) := by
      refine e3.trans ?_
      rw [hf₂, State.calling_eq h.top, State.setFrames_setFrames, State.pushFrame, State.frames_setTop _ hr', State.setTop_of_frames _ hr', State.setFrames_setFrames, hr]
      rfl
    have hsame : U.sameButNew ({ U with heap := s₂.heap, slotsUsed := s₂.slotsUsed } : State) L mc ms := by
      refine ⟨?_, q2, q3, q4, q5, q6⟩
      obtain ⟨t, ht, -⟩ := State.frames_cons hr
      show ({ U with heap := s₂.heap, slotsUsed := s₂.slotsUsed } : State) = { U.setFrames U.frames with heap := s₂.heap, slotsUsed := s₂.slotsUsed }
      rw [State.setFrames_self ht]
    subst hg
    refine Or.inr ⟨q, ⟨(({ U with heap := s₂.heap, slotsUsed := s₂.slotsUsed } : State).setVm s₂.vm), Ls ++ L, c0 + mc, s0 + ms⟩,
      ⟨X.admits, X.cas, X.clock, X.frames, X.room, X.hears, X.method, X.code, (X.here.setHeapUsed s₂.heap s₂.slotsUsed).setVm hW'.alike, X.tail, State.WarmedH.trans X.warmed hW', X.limits, X.bytes, X.same.trans (hsame.setVm s.vm)⟩,
      ⟨g, mk, s₂, L, E, ce, rfl, rfl, hx, hce, hcv, hcl, rfl, hL, rfl, rfl⟩, ?_⟩
    show Steps p.tables e below _ (((({ U with heap := s₂.heap, slotsUsed := s₂.slotsUsed } : State).setVm s₂.vm).setTop g).pushFrame (.throwing q))
    rw [← hs₂]
    exact hsteps
end Payer
section Calls
variable {p : Program} {l : Launch} {e : Env} {R : Room} {s : State} {m : MethodId} {args : Array Value} {below : List Frame} {meth : Method} {c : Code} {T : State} {locs : List Loc} {cells slots : Nat}
theorem vx_callV (X : Stand p l e R s m args below meth c T locs cells slots) (hexec : p.tables.exec = Jvm.exec) {own C : String} {index : Nat} {y : MethodName} {bytes : ByteArray} {maxL : Nat} {ret : Option FieldType}
    (hown : s.vm.findClass own = some m.cls) (hlink : (Cond.methodLink own index y).before args s = true) (hinst : (Cond.instanceMethod y).before args s = true) (hsel : (Cond.selects C y y).before args s = true)
    (hcode : (Cond.code y bytes maxL ret).before args s = true) (hy : y.cls ≠ "java/lang/invoke/MethodHandle" ∧ y.cls ≠ "java/lang/invoke/VarHandle")
    {W9 : Nat} {Pre : Pt → Array Value → Prop} {Post : Pt → Array Value → Option Value → Pt → Prop} {PostX : Pt → Array Value → Addr → Pt → Prop} (hK : vx_Back l R p e below s args y 3 W9 Pre Post PostX)
    {b : Addr} {cellB : Cell} (hcell : T.heap[b]? = some cellB) (hobj : cellB.vm.isStatics = false) (hcls : s.vm.findClass C = some cellB.cls)
    {g : JFrame} (hg : g.method = m) (hsize : g.locals.size = c.maxLocals) {argsL rest : List Value} (hlen : ∀ sig, parseMethodDescriptor y.desc = some sig → argsL.length = sig.parameters.length)
    (hstack : g.stack = argsL.reverse ++ .ref b :: rest) (hW : 2 * g.monitorRoom + (rest.map fun v => v.category).sum ≤ W9) (hdg : decode c.code g.pc = .ok (.invokevirtual index, 3))
    (hpre : ∀ vm₁, s.WarmedH vm₁ → Pre ⟨T.setVm vm₁, locs, cells, slots⟩ (Value.ref b :: argsL).toArray) :
    (∃ (v : Option Value) (vm₁ : Vm) (B : Pt), s.WarmedH vm₁ ∧ Stand p l e R s m args below meth c B.U B.locs B.cells B.slots ∧ Post ⟨T.setVm vm₁, locs, cells, slots⟩ (Value.ref b :: argsL).toArray v B ∧
      ∀ target, Steps p.tables e below (B.U.setTop { g with pc := g.pc + 3, stack := v.toList ++ rest }) target → Steps p.tables e below (T.setTop g) target) ∨
    (∃ (q : Addr) (vm₁ : Vm) (B : Pt), s.WarmedH vm₁ ∧ Stand p l e R s m args below meth c B.U B.locs B.cells B.slots ∧ PostX ⟨T.setVm vm₁, locs, cells, slots⟩ (Value.ref b :: argsL).toArray q B ∧
      Steps p.tables e below (T.setTop g) ((B.U.setTop { g with stack := rest }).pushFrame (.throwing q))) := by
  obtain ⟨mk, methM, hnamed, hmethM, hstM, habM⟩ := Cond.instanceMethod_spec hinst
  obtain ⟨methM', cM, hmethM', -, -, -, -, -, -, hsigM⟩ := Cond.code_spec hnamed hcode
  cases hmethM.symm.trans hmethM'
  obtain ⟨c2, r2, m2, q1, q2, q3, q4, kP, hkP, hkPi⟩ := Cond.selects_spec hsel
  cases hcls.symm.trans q1
  cases (State.methodFound?_of_named hnamed hy).symm.trans q2
  cases hnamed.symm.trans q3
  have hselP : selectMethod e.platform s.vm cellB.cls mk = .method mk := by rw [Launch.admits_selectMethod X.admits]; exact q4
  obtain ⟨vm₁, X₁, hstep₁⟩ := X.invokevirtual hexec hown hlink hnamed hmethM hstM hkP hkPi hy (a := b) (cell := cellB) hcell
    (fun z h => by rw [h] at hobj; cases hobj) hselP hmethM habM hkP hkPi (g := g) hg (argsL := argsL) (rest := rest) (hlen _ hsigM) hstack hdg
  rcases hK m meth c ⟨T.setVm vm₁, locs, cells, slots⟩ { g with stack := rest } (.invokevirtual index) mk (Value.ref b :: argsL).toArray X₁ hg hsize hdg hW (X₁.named hnamed) (hpre vm₁ X₁.warmed) with ⟨v, B, X', hpost, hsteps⟩ | ⟨q, B, X', hpost, hsteps⟩
  · exact Or.inl ⟨v, vm₁, B, X₁.warmed, X', hpost, fun target h => hstep₁ _ fun acts => by rw [doInvoke_state]; exact hsteps.trans h⟩
  · exact Or.inr ⟨q, vm₁, B, X₁.warmed, X', hpost, hstep₁ _ fun acts => by rw [doInvoke_state]; exact hsteps⟩
theorem vx_callS (X : Stand p l e R s m args below meth c T locs cells slots) (hexec : p.tables.exec = Jvm.exec) {own : String} {index : Nat} {y : MethodName} {bytes : ByteArray} {maxL : Nat} {ret : Option FieldType}
    (hown : s.vm.findClass own = some m.cls) (hlink : (Cond.methodLink own index y).before args s = true) (hstat : (Cond.static y).before args s = true) (hinit : (Cond.initialized y.cls).before args s = true)
    (hcode : (Cond.code y bytes maxL ret).before args s = true) (hy : y.cls ≠ "java/lang/invoke/MethodHandle" ∧ y.cls ≠ "java/lang/invoke/VarHandle")
    {W9 : Nat} {Pre : Pt → Array Value → Prop} {Post : Pt → Array Value → Option Value → Pt → Prop} {PostX : Pt → Array Value → Addr → Pt → Prop} (hK : vx_Back l R p e below s args y 3 W9 Pre Post PostX)
    {g : JFrame} (hg : g.method = m) (hsize : g.locals.size = c.maxLocals) {argsL rest : List Value} (hlen : ∀ sig, parseMethodDescriptor y.desc = some sig → argsL.length = sig.parameters.length)
    (hstack : g.stack = argsL.reverse ++ rest) (hW : 2 * g.monitorRoom + (rest.map fun v => v.category).sum ≤ W9) (hdg : decode c.code g.pc = .ok (.invokestatic index, 3))
    (hpre : ∀ vm₁, s.WarmedH vm₁ → Pre ⟨T.setVm vm₁, locs, cells, slots⟩ argsL.toArray) :
    (∃ (v : Option Value) (vm₁ : Vm) (B : Pt), s.WarmedH vm₁ ∧ Stand p l e R s m args below meth c B.U B.locs B.cells B.slots ∧ Post ⟨T.setVm vm₁, locs, cells, slots⟩ argsL.toArray v B ∧
      ∀ target, Steps p.tables e below (B.U.setTop { g with pc := g.pc + 3, stack := v.toList ++ rest }) target → Steps p.tables e below (T.setTop g) target) ∨
    (∃ (q : Addr) (vm₁ : Vm) (B : Pt), s.WarmedH vm₁ ∧ Stand p l e R s m args below meth c B.U B.locs B.cells B.slots ∧ PostX ⟨T.setVm vm₁, locs, cells, slots⟩ argsL.toArray q B ∧
      Steps p.tables e below (T.setTop g) ((B.U.setTop { g with stack := rest }).pushFrame (.throwing q))) := by
  obtain ⟨mk, hnamed⟩ := Cond.code_named hcode
  obtain ⟨methM, cM, hmethM, -, -, -, -, -, -, hsigM⟩ := Cond.code_spec hnamed hcode
  have hstatic : methM.isStatic = true := Cond.static_spec hnamed hmethM hstat
  obtain ⟨kP, hkP, -⟩ := className_of_methodNamed hnamed
  have hinitP : kP.init = .initialized := Cond.initialized_spec (findClass_of_methodNamed hnamed) hkP hinit
  obtain ⟨vm₁, X₁, hstep₁⟩ := X.invokestatic hexec hown hlink hnamed hmethM hstatic hkP hinitP hy (g := g) hg (argsL := argsL) (rest := rest) (hlen _ hsigM) hstack hdg
  rcases hK m meth c ⟨T.setVm vm₁, locs, cells, slots⟩ { g with stack := rest } (.invokestatic index) mk argsL.toArray X₁ hg hsize hdg hW (X₁.named hnamed) (hpre vm₁ X₁.warmed) with ⟨v, B, X', hpost, hsteps⟩ | ⟨q, B, X', hpost, hsteps⟩
  · exact Or.inl ⟨v, vm₁, B, X₁.warmed, X', hpost, fun target h => hstep₁ _ fun acts => by rw [doInvoke_state]; exact hsteps.trans h⟩
  · exact Or.inr ⟨q, vm₁, B, X₁.warmed, X', hpost, hstep₁ _ fun acts => by rw [doInvoke_state]; exact hsteps⟩
end Calls
theorem vx_cls {s : State} {T : State} {vm₁ : Vm} {E : String} {k : ClassId} (hW : s.WarmedH vm₁) (h : (T.setVm vm₁).vm.findClass E = some k) : s.vm.findClass E = some k := by
  have h1 : vm₁.findClass E = some k := h
  rw [hW.alike.findClass] at h1
  exact h1
/-- the method's frame g, with q thrown over it -/
def vx_W (p : Program) (l : Launch) (e : Env) (R : Room) (s : State) (m : MethodId) (args : Array Value) (below : List Frame) (meth : Method) (c : Code) (H : Heap) (locs : List Loc) (cells slots : Nat) (Q : State → Prop) (g : JFrame) (q : Addr) : Prop :=
  ∀ T : State, T.heap = H → Stand p l e R s m args below meth c T locs cells slots → ∃ t, Steps p.tables e below ((T.setTop g).pushFrame (.throwing q)) t ∧ Q t
def vx_Run (p : Program) (l : Launch) (e : Env) (R : Room) (s : State) (m : MethodId) (args : Array Value) (below : List Frame) (meth : Method) (c : Code) (H : Heap) (locs : List Loc) (cells slots mc ms : Nat) (g : JFrame) (rest : List Value) (Qa : State → Outcome → State → Prop) (XC : String → State → State → Prop) (free : Addr → Prop) : Prop :=
  ∀ T : State, T.heap = H → Stand p l e R s m args below meth c T locs cells slots →
    (∃ (v : Option Value) (st₀ t T' : State) (L : List Loc), st₀.heap = H ∧ Stand p l e R s m args below meth c T' (locs ++ L) (cells + mc) (slots + ms) ∧ (∀ q ∈ L, free q.base) ∧ T'.heap = t.heap ∧ T'.vm = t.vm ∧ Qa st₀ (.returned v) t ∧
      Goes p e below T g T' { g with pc := g.pc + 3, stack := v.toList ++ rest }) ∨
    (∃ (q : Addr) (st₀ t T' : State) (L : List Loc) (E : String) (ce : Cell), st₀.heap = H ∧ Stand p l e R s m args below meth c T' (locs ++ L) (cells + mc) (slots + ms) ∧ (∀ z ∈ L, free z.base) ∧ T'.heap = t.heap ∧ T'.vm = t.vm ∧ XC E st₀ t ∧ t.heap[q]? = some ce ∧ ce.vm = .none ∧ s.vm.findClass E = some ce.cls ∧
      Steps p.tables e below (T.setTop g) ((T'.setTop { g with stack := rest }).pushFrame (.throwing q)))
def vx_X {S : Type} (px : S → Prop) (B : String → S → State → Prop) (A : Nat → Prop) : String → State → State → Prop := fun E st t => ∃ u : S, px u ∧ B E u t ∧ va_F A st t
section Runs
variable {p : Program} {l : Launch} {e : Env} {R : Room} {s : State} {m : MethodId} {args : Array Value} {below : List Frame} {meth : Method} {c : Code} {H : Heap} {locs : List Loc} {cells slots : Nat}
variable {y : MethodName} {bytes cc : ByteArray} {maxL nL mc ms n index : Nat} {ret : Option FieldType} {ws : List Cond} {rm : Room} {Pc : Array Value → State → Prop} {Qc : Array Value → State → Outcome → State → Prop} {XC : String → State → State → Prop} {free : Addr → Prop} {Ts : List Cond} {own C : String} {b : Addr} {As rest : List Value} {g : JFrame}
theorem vx_callBack (cb : CallB R s args own index y bytes maxL ret ws rm mc ms n) (hM : vx_Met l y ws rm Pc Qc XC mc ms free) (hbl : FrameBlind Pc) : vx_Back l R p e below s args y 3 8 (PreOf R mc ms Pc) (PostOf Qc mc ms free) (vx_Post XC mc ms free) := by
  obtain ⟨hrc, hrs, hfr, hlo, hws, hcw, -, hini, -⟩ := cb
  exact vx_back (bytes := bytes) (maxL := maxL) (ret := ret) hM hbl hrc hrs hfr hlo hws hcw (fun a' U hW => word_at hW (Or.inl (by first | rfl | simp [Cond.onTables, Cond.keeps, Cond.steady])) hini)
theorem vx_runV (S : CallFix p m c cc nL s args Ts own) (hM : vx_Met l y ws rm Pc Qc XC mc ms free) (cw : CallW R s args own C index y bytes maxL ret ws rm mc ms n) (hp : PreV s H C b Pc As)
    (hg : g.method = m) (hn : As.length = n) (hsize : g.locals.size = nL) (hstack : g.stack = As.reverse ++ .ref b :: rest) (hW : 2 * g.monitorRoom + (rest.map fun v => v.category).sum ≤ 8) (hdg : decode cc g.pc = .ok (.invokevirtual index, 3)) (hf : cells + mc ≤ R.cells ∧ slots + ms ≤ R.slots) :
    vx_Run p l e R s m args below meth c H locs cells slots mc ms g rest (Qc (Value.ref b :: As).toArray) XC free := by
  have hK : vx_Back l R p e below s args y 3 8 (PreOf R mc ms Pc) (PostOf Qc mc ms free) (vx_Post XC mc ms free) := vx_callBack cw.1 hM hp.1
  obtain ⟨⟨-, -, -, -, -, -, hcode, -, hy, hlen, hl⟩, hin, hse⟩ := cw
  obtain ⟨hx, hb, hml, ho, -⟩ := S
  obtain ⟨-, ⟨cellB, hcB, hoB, hclB⟩, hPc⟩ := hp
  intro T hT X
  rcases vx_callV X hx (C := C) (bytes := bytes) (maxL := maxL) (ret := ret) ho hl hin hse hcode hy hK (by rw [hT]; exact hcB) hoB hclB hg (hsize.trans hml.symm) (argsL := As) (rest := rest) (fun sig h => hn.trans (hlen sig h)) hstack hW (by rw [hb]; exact hdg)
    (fun vm₁ hW₁ => ⟨hf.1, hf.2, hPc (T.setVm vm₁) hT hW₁⟩) with ⟨v, vm₁, ⟨U', l2, c2, s2⟩, hW₁, X', ⟨g', mk, t, L, e1, e2, hq, h1, hL, h2, h3⟩, st⟩ | ⟨q, vm₁, ⟨U', l2, c2, s2⟩, hW₁, X', ⟨g', mk, t, L, E, ce, e1, e2, hq, hce, hcv, hcl, h1, hL, h2, h3⟩, st⟩
  · dsimp only [Pt.U, Pt.locs, Pt.cells, Pt.slots] at X' e1 e2 h1 h2 h3 st
    subst h1; subst h2; subst h3
    exact Or.inl ⟨v, (T.setVm vm₁).calling g' mk (Value.ref b :: As).toArray, t, U', L, hT, X', hL, e1, e2, hq, st⟩
  · dsimp only [Pt.U, Pt.locs, Pt.cells, Pt.slots] at X' e1 e2 h1 h2 h3 st hcl
    subst h1; subst h2; subst h3
    exact Or.inr ⟨q, (T.setVm vm₁).calling g' mk (Value.ref b :: As).toArray, t, U', L, E, ce, hT, X', hL, e1, e2, hq, hce, hcv, vx_cls hW₁ hcl, st⟩
theorem vx_runS (S : CallFix p m c cc nL s args Ts own) (hM : vx_Met l y ws rm Pc Qc XC mc ms free) (cw : CallB R s args own index y bytes maxL ret ws rm mc ms n ∧ (Cond.static y).before args s = true) (hp : PreS s H Pc As)
    (hg : g.method = m) (hn : As.length = n) (hsize : g.locals.size = nL) (hstack : g.stack = As.reverse ++ rest) (hW : 2 * g.monitorRoom + (rest.map fun v => v.category).sum ≤ 8) (hdg : decode cc g.pc = .ok (.invokestatic index, 3)) (hf : cells + mc ≤ R.cells ∧ slots + ms ≤ R.slots) :
    vx_Run p l e R s m args below meth c H locs cells slots mc ms g rest (Qc As.toArray) XC free := by
  have hK : vx_Back l R p e below s args y 3 8 (PreOf R mc ms Pc) (PostOf Qc mc ms free) (vx_Post XC mc ms free) := vx_callBack cw.1 hM hp.1
  obtain ⟨⟨-, -, -, -, -, -, hcode, hini, hy, hlen, hl⟩, hstt⟩ := cw
  obtain ⟨hx, hb, hml, ho, -⟩ := S
  intro T hT X
  rcases vx_callS X hx (bytes := bytes) (maxL := maxL) (ret := ret) ho hl hstt hini hcode hy hK hg (hsize.trans hml.symm) (argsL := As) (rest := rest) (fun sig h => hn.trans (hlen sig h)) hstack hW (by rw [hb]; exact hdg)
    (fun vm₁ hW₁ => ⟨hf.1, hf.2, hp.2 (T.setVm vm₁) hT hW₁⟩) with ⟨v, vm₁, ⟨U', l2, c2, s2⟩, hW₁, X', ⟨g', mk, t, L, e1, e2, hq, h1, hL, h2, h3⟩, st⟩ | ⟨q, vm₁, ⟨U', l2, c2, s2⟩, hW₁, X', ⟨g', mk, t, L, E, ce, e1, e2, hq, hce, hcv, hcl, h1, hL, h2, h3⟩, st⟩
  · dsimp only [Pt.U, Pt.locs, Pt.cells, Pt.slots] at X' e1 e2 h1 h2 h3 st
    subst h1; subst h2; subst h3
    exact Or.inl ⟨v, (T.setVm vm₁).calling g' mk As.toArray, t, U', L, hT, X', hL, e1, e2, hq, st⟩
  · dsimp only [Pt.U, Pt.locs, Pt.cells, Pt.slots] at X' e1 e2 h1 h2 h3 st hcl
    subst h1; subst h2; subst h3
    exact Or.inr ⟨q, (T.setVm vm₁).calling g' mk As.toArray, t, U', L, E, ce, hT, X', hL, e1, e2, hq, hce, hcv, vx_cls hW₁ hcl, st⟩
end Runs
section Rows
variable {p : Program} {l : Launch} {e : Env} {R : Room} {s : State} {m : MethodId} {args : Array Value} {below : List Frame} {meth : Method} {c : Code} {H : Heap} {locs : List Loc} {cells slots : Nat} {Q : State → Prop}
variable {mc ms : Nat} {free : Addr → Prop} {A0 A1 : Nat → Prop} {H0 : Heap} {a : Array Value} {pc : Nat} {ls : Array Slot} {st0 rest : List Value}
theorem vx_keep {st₀ t T' : State} {L : List Loc} (h0 : st₀.heap = H) (e1 : T'.heap = t.heap) (hS : va_S A0 H0 H locs) (hA : ∀ q, q < H.size → A1 q → A0 q) (hf : ∀ q, free q → A0 q) (hL : ∀ q ∈ L, free q.base) (hF : va_F A1 st₀ t) :
    H.size ≤ T'.heap.size ∧ (∀ q : Nat, q < H.size → ¬ A1 q → T'.heap[q]? = H[q]?) ∧ va_S A0 H0 T'.heap (locs ++ L) := by
  obtain ⟨hz, hk⟩ := hF
  rw [h0] at hz hk
  exact ⟨by rw [e1]; exact hz, fun q h1 h2 => by rw [e1]; exact hk q h1 h2,
    ⟨Nat.le_trans hS.1 (by rw [e1]; exact hz), fun q h1 h2 => by rw [e1, hk q (Nat.lt_of_lt_of_le h1 hS.1) (fun z => h2 (hA q (Nat.lt_of_lt_of_le h1 hS.1) z))]; exact hS.2.1 q h1 h2, fun q hq => by
      rcases List.mem_append.mp hq with h | h
      · exact hS.2.2 q h
      · exact hf _ (hL q h)⟩⟩
theorem vx_calli {S SX : Type} {post : Int32 → S → Prop} {px : SX → Prop} {B : S → State → Prop} {BX : String → SX → State → Prop} {AX : Nat → Prop} (hr : vx_Run p l e R s m args below meth c H locs cells slots mc ms (F0 m pc ls st0) rest (va_Qi post B A1 a) (vx_X px BX AX) free) (hS : va_S A0 H0 H locs) (hA : ∀ q, q < H.size → A1 q → A0 q) (hf : ∀ q, free q → A0 q) (hAX : ∀ q, q < H.size → AX q → A0 q)
    (kx : ∀ (E : String) (ce : Cell) (q9 : Addr) (u : SX) (t : State) (H1 : Heap) (locs1 : List Loc), t.heap = H1 → s.vm.Alike t.vm → px u → BX E u t → H.size ≤ H1.size → (∀ q : Nat, q < H.size → ¬ AX q → H1[q]? = H[q]?) → va_S A0 H0 H1 locs1 → H1[q9]? = some ce → ce.vm = .none → s.vm.findClass E = some ce.cls → vx_W p l e R s m args below meth c H1 locs1 (cells + mc) (slots + ms) Q (F0 m pc ls rest) q9)
    (kk : ∀ (r : Int32) (u : S) (t : State) (H1 : Heap) (locs1 : List Loc), t.heap = H1 → s.vm.Alike t.vm → post r u → B u t → H.size ≤ H1.size → (∀ q : Nat, q < H.size → ¬ A1 q → H1[q]? = H[q]?) → va_S A0 H0 H1 locs1 → W p l e R s m args below meth c H1 locs1 (cells + mc) (slots + ms) Q (F0 m (pc + 3) ls (.int r :: rest))) : W p l e R s m args below meth c H locs cells slots Q (F0 m pc ls st0) := by
  intro T hT X
  rcases hr T hT X with ⟨v, st₀, t, T', L, h0, X', hL, e1, e2, ⟨⟨r, u, hv, hp, hb⟩, hF⟩, st⟩ | ⟨q, st₀, t, T', L, E, ce, h0, X', hL, e1, e2, ⟨u, hp, hb, hF⟩, hce, hcv, hcl, st⟩
  · cases hv
    obtain ⟨k1, k2, k3⟩ := vx_keep h0 e1 hS hA hf hL hF
    obtain ⟨t2, a1, b1⟩ := kk r u t T'.heap (locs ++ L) e1.symm (by rw [← e2]; exact X'.warmed.alike) hp hb k1 k2 k3 T' rfl X'
    exact ⟨t2, st t2 a1, b1⟩
  · obtain ⟨k1, k2, k3⟩ := vx_keep h0 e1 hS hAX hf hL hF
    obtain ⟨t2, a1, b1⟩ := kx E ce q u t T'.heap (locs ++ L) e1.symm (by rw [← e2]; exact X'.warmed.alike) hp hb k1 k2 k3 (by rw [e1]; exact hce) hcv hcl T' rfl X'
    exact ⟨t2, st.trans a1, b1⟩
theorem vx_calll {S SX : Type} {post : Int64 → S → Prop} {px : SX → Prop} {B : S → State → Prop} {BX : String → SX → State → Prop} {AX : Nat → Prop} (hr : vx_Run p l e R s m args below meth c H locs cells slots mc ms (F0 m pc ls st0) rest (va_Ql post B A1 a) (vx_X px BX AX) free) (hS : va_S A0 H0 H locs) (hA : ∀ q, q < H.size → A1 q → A0 q) (hf : ∀ q, free q → A0 q) (hAX : ∀ q, q < H.size → AX q → A0 q)
    (kx : ∀ (E : String) (ce : Cell) (q9 : Addr) (u : SX) (t : State) (H1 : Heap) (locs1 : List Loc), t.heap = H1 → s.vm.Alike t.vm → px u → BX E u t → H.size ≤ H1.size → (∀ q : Nat, q < H.size → ¬ AX q → H1[q]? = H[q]?) → va_S A0 H0 H1 locs1 → H1[q9]? = some ce → ce.vm = .none → s.vm.findClass E = some ce.cls → vx_W p l e R s m args below meth c H1 locs1 (cells + mc) (slots + ms) Q (F0 m pc ls rest) q9)
    (kk : ∀ (r : Int64) (u : S) (t : State) (H1 : Heap) (locs1 : List Loc), t.heap = H1 → s.vm.Alike t.vm → post r u → B u t → H.size ≤ H1.size → (∀ q : Nat, q < H.size → ¬ A1 q → H1[q]? = H[q]?) → va_S A0 H0 H1 locs1 → W p l e R s m args below meth c H1 locs1 (cells + mc) (slots + ms) Q (F0 m (pc + 3) ls (.long r :: rest))) : W p l e R s m args below meth c H locs cells slots Q (F0 m pc ls st0) := by
  intro T hT X
  rcases hr T hT X with ⟨v, st₀, t, T', L, h0, X', hL, e1, e2, ⟨⟨r, u, hv, hp, hb⟩, hF⟩, st⟩ | ⟨q, st₀, t, T', L, E, ce, h0, X', hL, e1, e2, ⟨u, hp, hb, hF⟩, hce, hcv, hcl, st⟩
  · cases hv
    obtain ⟨k1, k2, k3⟩ := vx_keep h0 e1 hS hA hf hL hF
    obtain ⟨t2, a1, b1⟩ := kk r u t T'.heap (locs ++ L) e1.symm (by rw [← e2]; exact X'.warmed.alike) hp hb k1 k2 k3 T' rfl X'
    exact ⟨t2, st t2 a1, b1⟩
  · obtain ⟨k1, k2, k3⟩ := vx_keep h0 e1 hS hAX hf hL hF
    obtain ⟨t2, a1, b1⟩ := kx E ce q u t T'.heap (locs ++ L) e1.symm (by rw [← e2]; exact X'.warmed.alike) hp hb k1 k2 k3 (by rw [e1]; exact hce) hcv hcl T' rfl X'
    exact ⟨t2, st.trans a1, b1⟩
theorem vx_callf {S SX : Type} {post : UInt32 → S → Prop} {px : SX → Prop} {B : S → State → Prop} {BX : String → SX → State → Prop} {AX : Nat → Prop} (hr : vx_Run p l e R s m args below meth c H locs cells slots mc ms (F0 m pc ls st0) rest (va_Qf post B A1 a) (vx_X px BX AX) free) (hS : va_S A0 H0 H locs) (hA : ∀ q, q < H.size → A1 q → A0 q) (hf : ∀ q, free q → A0 q) (hAX : ∀ q, q < H.size → AX q → A0 q)
    (kx : ∀ (E : String) (ce : Cell) (q9 : Addr) (u : SX) (t : State) (H1 : Heap) (locs1 : List Loc), t.heap = H1 → s.vm.Alike t.vm → px u → BX E u t → H.size ≤ H1.size → (∀ q : Nat, q < H.size → ¬ AX q → H1[q]? = H[q]?) → va_S A0 H0 H1 locs1 → H1[q9]? = some ce → ce.vm = .none → s.vm.findClass E = some ce.cls → vx_W p l e R s m args below meth c H1 locs1 (cells + mc) (slots + ms) Q (F0 m pc ls rest) q9)
    (kk : ∀ (r : UInt32) (u : S) (t : State) (H1 : Heap) (locs1 : List Loc), t.heap = H1 → s.vm.Alike t.vm → post r u → B u t → H.size ≤ H1.size → (∀ q : Nat, q < H.size → ¬ A1 q → H1[q]? = H[q]?) → va_S A0 H0 H1 locs1 → W p l e R s m args below meth c H1 locs1 (cells + mc) (slots + ms) Q (F0 m (pc + 3) ls (.float r :: rest))) : W p l e R s m args below meth c H locs cells slots Q (F0 m pc ls st0) := by
  intro T hT X
  rcases hr T hT X with ⟨v, st₀, t, T', L, h0, X', hL, e1, e2, ⟨⟨r, u, hv, hp, hb⟩, hF⟩, st⟩ | ⟨q, st₀, t, T', L, E, ce, h0, X', hL, e1, e2, ⟨u, hp, hb, hF⟩, hce, hcv, hcl, st⟩
  · cases hv
    obtain ⟨k1, k2, k3⟩ := vx_keep h0 e1 hS hA hf hL hF
    obtain ⟨t2, a1, b1⟩ := kk r u t T'.heap (locs ++ L) e1.symm (by rw [← e2]; exact X'.warmed.alike) hp hb k1 k2 k3 T' rfl X'
    exact ⟨t2, st t2 a1, b1⟩
  · obtain ⟨k1, k2, k3⟩ := vx_keep h0 e1 hS hAX hf hL hF
    obtain ⟨t2, a1, b1⟩ := kx E ce q u t T'.heap (locs ++ L) e1.symm (by rw [← e2]; exact X'.warmed.alike) hp hb k1 k2 k3 (by rw [e1]; exact hce) hcv hcl T' rfl X'
    exact ⟨t2, st.trans a1, b1⟩
theorem vx_calld {S SX : Type} {post : UInt64 → S → Prop} {px : SX → Prop} {B : S → State → Prop} {BX : String → SX → State → Prop} {AX : Nat → Prop} (hr : vx_Run p l e R s m args below meth c H locs cells slots mc ms (F0 m pc ls st0) rest (va_Qd post B A1 a) (vx_X px BX AX) free) (hS : va_S A0 H0 H locs) (hA : ∀ q, q < H.size → A1 q → A0 q) (hf : ∀ q, free q → A0 q) (hAX : ∀ q, q < H.size → AX q → A0 q)
    (kx : ∀ (E : String) (ce : Cell) (q9 : Addr) (u : SX) (t : State) (H1 : Heap) (locs1 : List Loc), t.heap = H1 → s.vm.Alike t.vm → px u → BX E u t → H.size ≤ H1.size → (∀ q : Nat, q < H.size → ¬ AX q → H1[q]? = H[q]?) → va_S A0 H0 H1 locs1 → H1[q9]? = some ce → ce.vm = .none → s.vm.findClass E = some ce.cls → vx_W p l e R s m args below meth c H1 locs1 (cells + mc) (slots + ms) Q (F0 m pc ls rest) q9)
    (kk : ∀ (r : UInt64) (u : S) (t : State) (H1 : Heap) (locs1 : List Loc), t.heap = H1 → s.vm.Alike t.vm → post r u → B u t → H.size ≤ H1.size → (∀ q : Nat, q < H.size → ¬ A1 q → H1[q]? = H[q]?) → va_S A0 H0 H1 locs1 → W p l e R s m args below meth c H1 locs1 (cells + mc) (slots + ms) Q (F0 m (pc + 3) ls (.double r :: rest))) : W p l e R s m args below meth c H locs cells slots Q (F0 m pc ls st0) := by
  intro T hT X
  rcases hr T hT X with ⟨v, st₀, t, T', L, h0, X', hL, e1, e2, ⟨⟨r, u, hv, hp, hb⟩, hF⟩, st⟩ | ⟨q, st₀, t, T', L, E, ce, h0, X', hL, e1, e2, ⟨u, hp, hb, hF⟩, hce, hcv, hcl, st⟩
  · cases hv
    obtain ⟨k1, k2, k3⟩ := vx_keep h0 e1 hS hA hf hL hF
    obtain ⟨t2, a1, b1⟩ := kk r u t T'.heap (locs ++ L) e1.symm (by rw [← e2]; exact X'.warmed.alike) hp hb k1 k2 k3 T' rfl X'
    exact ⟨t2, st t2 a1, b1⟩
  · obtain ⟨k1, k2, k3⟩ := vx_keep h0 e1 hS hAX hf hL hF
    obtain ⟨t2, a1, b1⟩ := kx E ce q u t T'.heap (locs ++ L) e1.symm (by rw [← e2]; exact X'.warmed.alike) hp hb k1 k2 k3 (by rw [e1]; exact hce) hcv hcl T' rfl X'
    exact ⟨t2, st.trans a1, b1⟩
theorem vx_callv {S SX : Type} {post : S → Prop} {px : SX → Prop} {B : S → State → Prop} {BX : String → SX → State → Prop} {AX : Nat → Prop} (hr : vx_Run p l e R s m args below meth c H locs cells slots mc ms (F0 m pc ls st0) rest (va_Qv post B A1 a) (vx_X px BX AX) free) (hS : va_S A0 H0 H locs) (hA : ∀ q, q < H.size → A1 q → A0 q) (hf : ∀ q, free q → A0 q) (hAX : ∀ q, q < H.size → AX q → A0 q)
    (kx : ∀ (E : String) (ce : Cell) (q9 : Addr) (u : SX) (t : State) (H1 : Heap) (locs1 : List Loc), t.heap = H1 → s.vm.Alike t.vm → px u → BX E u t → H.size ≤ H1.size → (∀ q : Nat, q < H.size → ¬ AX q → H1[q]? = H[q]?) → va_S A0 H0 H1 locs1 → H1[q9]? = some ce → ce.vm = .none → s.vm.findClass E = some ce.cls → vx_W p l e R s m args below meth c H1 locs1 (cells + mc) (slots + ms) Q (F0 m pc ls rest) q9)
    (kk : ∀ (u : S) (t : State) (H1 : Heap) (locs1 : List Loc), t.heap = H1 → s.vm.Alike t.vm → post u → B u t → H.size ≤ H1.size → (∀ q : Nat, q < H.size → ¬ A1 q → H1[q]? = H[q]?) → va_S A0 H0 H1 locs1 → W p l e R s m args below meth c H1 locs1 (cells + mc) (slots + ms) Q (F0 m (pc + 3) ls (rest))) : W p l e R s m args below meth c H locs cells slots Q (F0 m pc ls st0) := by
  intro T hT X
  rcases hr T hT X with ⟨v, st₀, t, T', L, h0, X', hL, e1, e2, ⟨⟨u, hv, hp, hb⟩, hF⟩, st⟩ | ⟨q, st₀, t, T', L, E, ce, h0, X', hL, e1, e2, ⟨u, hp, hb, hF⟩, hce, hcv, hcl, st⟩
  · cases hv
    obtain ⟨k1, k2, k3⟩ := vx_keep h0 e1 hS hA hf hL hF
    obtain ⟨t2, a1, b1⟩ := kk u t T'.heap (locs ++ L) e1.symm (by rw [← e2]; exact X'.warmed.alike) hp hb k1 k2 k3 T' rfl X'
    exact ⟨t2, st t2 a1, b1⟩
  · obtain ⟨k1, k2, k3⟩ := vx_keep h0 e1 hS hAX hf hL hF
    obtain ⟨t2, a1, b1⟩ := kx E ce q u t T'.heap (locs ++ L) e1.symm (by rw [← e2]; exact X'.warmed.alike) hp hb k1 k2 k3 (by rw [e1]; exact hce) hcv hcl T' rfl X'
    exact ⟨t2, st.trans a1, b1⟩
/-- caught by the row x of this method's table; the rows ahead don't take it -/
theorem vx_catch {own name : String} {E : String} {ce : Cell} {q : Addr} (hown : s.vm.findClass own = some m.cls) (pre : List ExceptionTableEntry) (x : ExceptionTableEntry) (suf : List ExceptionTableEntry) (hsplit : c.exceptionTable.toList = pre ++ x :: suf)
    (hpass : ∀ z ∈ pre, covers z pc = false ∨ (z.catchType ≠ 0 ∧ ∃ nm : String, (Cond.classLink own z.catchType nm).before args s = true ∧ va_Nc E nm s)) (hx : covers x pc = true) (h0 : x.catchType ≠ 0)
    (hlink : (Cond.classLink own x.catchType name).before args s = true) (hcast : (Cond.castable E name).before args s = true) (hcell : H[q]? = some ce) (hv : ce.vm = .none) (hcl : s.vm.findClass E = some ce.cls)
    (kk : W p l e R s m args below meth c H locs cells slots Q (F0 m x.handlerPc ls [.ref q])) : vx_W p l e R s m args below meth c H locs cells slots Q (F0 m pc ls rest) q := by
  intro T hT X
  have hpl : e.platform.magicAccessors = ({} : Platform).magicAccessors := by rw [X.admits.platform]
  obtain ⟨c3, c4, hc3, hc4, hasg⟩ := Cond.castable_spec hcast
  cases Option.some.inj (hc3.symm.trans hcl)
  obtain ⟨c5, hc5, hcl5⟩ := Cond.classLink_spec hown hlink e.platform hpl
  cases Option.some.inj (hc4.symm.trans hc5)
  obtain ⟨vm', X', st⟩ := X.thenCaughtThrough q (g := F0 m pc ls rest) rfl (Steps.refl _) (by rw [hT]; exact hcell) (by rw [hv]; rfl) (by obtain ⟨k9, h9, -⟩ := Vm.findClass_spec hcl; exact ⟨k9, h9⟩) pre x suf hsplit
    (fun z hz => by
      rcases hpass z hz with h | ⟨hz0, nm, hl1, hn1⟩
      · exact Or.inl h
      · obtain ⟨c6, hc6, hcl6⟩ := Cond.classLink_spec hown hl1 e.platform hpl
        obtain ⟨a8, b8, h1, h2, h3⟩ := hn1
        cases Option.some.inj (h1.symm.trans hcl)
        cases Option.some.inj (h2.symm.trans hc6)
        exact Or.inr ⟨hz0, _, hcl6, h3⟩) hx (Or.inr ⟨h0, c4, hcl5, hasg⟩)
  obtain ⟨t, a1, b1⟩ := kk (T.setVm vm') hT X'
  exact ⟨t, st.trans a1, b1⟩
end Rows
section Ends
variable {p : Program} {l : Launch} {e : Env} {R : Room} {s : State} {m : MethodId} {args : Array Value} {below : List Frame} {meth : Method} {c : Code} {H : Heap} {locs : List Loc} {cells slots : Nat} {Q : State → Prop}
variable {mc ms : Nat} {free : Addr → Prop} {A0 A1 : Nat → Prop} {H0 : Heap} {a : Array Value} {ls : Array Slot} {st0 rest : List Value}
variable {Qc : Array Value → State → Outcome → State → Prop} {XC : String → State → State → Prop}
/-- what a body that may throw owes at its end -/
def vx_MQ (below : List Frame) (Qc : Array Value → State → Outcome → State → Prop) (XC : String → State → State → Prop) (a : Array Value) (s : State) (mc ms : Nat) (free : Addr → Prop) : State → Prop := fun t =>
  ∃ o, t.status = .running ∧ Ended t below o ∧ vx_Q Qc XC mc ms free a s o t
theorem vx_ret {g : JFrame} {mc ms : Nat} (k : W p l e R s m args below meth c H locs cells slots (MQ below Qc args s mc ms free) g) : W p l e R s m args below meth c H locs cells slots (vx_MQ below Qc XC args s mc ms free) g := by
  intro T hT X
  obtain ⟨t, a1, o, b1, b2, b3, b4⟩ := k T hT X
  exact ⟨t, a1, o, b1, b2, Or.inl ⟨b3, b4⟩⟩
/-- not caught here: it goes on to the caller -/
theorem vx_widen {g : JFrame} {q : Addr} {k n : Nat} (h1 : cells ≤ k) (h2 : slots ≤ n) (kk : vx_W p l e R s m args below meth c H locs k n Q g q) : vx_W p l e R s m args below meth c H locs cells slots Q g q := fun T hT X => kk T hT (stand_widen X h1 h2)
theorem vx_out {pc : Nat} {E : String} {ce : Cell} {q : Addr} {mc ms : Nat} (hout : ∀ x ∈ c.exceptionTable.toList, covers x pc = false) (hlocks : meth.locks = false) (hcell : H[q]? = some ce) (hv : ce.vm = .none) (hcl : s.vm.findClass E = some ce.cls)
    (hx : ∀ t : State, t.heap = H → s.vm.Alike t.vm → XC E s t) (hf : ∀ z ∈ locs, free z.base) (hc : cells ≤ mc) (hs : slots ≤ ms) :
    vx_W p l e R s m args below meth c H locs cells slots (vx_MQ below Qc XC args s mc ms free) (F0 m pc ls rest) q := by
  intro T hT X
  obtain ⟨st1, hrun, hend, hW, hsm⟩ := X.leaveThrown q (g := F0 m pc ls rest) rfl rfl rfl hout hlocks
  have hcell9 : (T.setFrames (.throwing q :: below)).heap[q]? = some ce := by
    show T.heap[q]? = some ce
    rw [hT]; exact hcell
  exact ⟨_, st1, .threw q, hrun, hend, Or.inr ⟨q, rfl, E, ce, locs, hx _ hT hW.alike, hcell9, hv, hcl, hW, hsm.mono hc hs, hf⟩⟩
theorem vx_frame {U : State} {k n : Nat} (h : s.sameButNew ({ U with vm := s.vm } : State) locs k n) : s.heap.size ≤ U.heap.size ∧ ∀ q : Nat, q < s.heap.size → (∀ z ∈ locs, z.base ≠ q) → U.heap[q]? = s.heap[q]? := by
  obtain ⟨-, h2, -, -, -, h6⟩ := h
  refine ⟨h2, fun q hq hz => ?_⟩
  obtain ⟨c9, e1, e2, e3, e4⟩ := h6 q _ (Array.getElem?_eq_getElem hq)
  have hs : c9.slots = (s.heap[q]).slots := Array.ext_getElem? fun i => e4 i fun hm => hz _ hm rfl
  have h9 : c9 = s.heap[q] := by
    rw [hs] at e2
    exact e2
  have e5 : U.heap[q]? = some c9 := e1
  rw [e5, h9, Array.getElem?_eq_getElem hq]
/-- the words of a throw but the four that speak of the heap -/
def vx_no (w : Cond) : Bool := decide (w ≠ .isRef (.static Bundle.tN "UNASSIGNED_STACK" Bundle.steD)) && decide (w ≠ .isRef (.static Bundle.tN "SUPPRESSED_SENTINEL" Bundle.listD)) && decide (w ≠ .laysStatic Bundle.tN "UNASSIGNED_STACK" Bundle.steD) && decide (w ≠ .laysStatic Bundle.tN "SUPPRESSED_SENTINEL" Bundle.listD)
def vx_at0 (own : String) (ic : Nat) (X : String) (names : List String) : List Cond := (Bundle.ownAtoms0 own ic X names).filter vx_no
def vx_atS (own : String) (ic : Nat) (X : String) (names : List String) : List Cond := (Bundle.ownAtoms own ic X names).filter vx_no
/-- a word that the tables alone decide, or a good one -/
def vx_ot (w : Cond) : Bool := w.onTables || goodWord w
theorem vx_ot_at {args a' : Array Value} {s U : State} {w : Cond} (hW : s.WarmedH U.vm) (hvm : s.vm = U.vm) (hg : vx_ot w = true) (h : w.before args s = true) : w.before a' U = true := by
  simp only [vx_ot, Bool.or_eq_true] at hg
  rcases hg with hg | hg
  · exact va_tabs hg hvm h
  · exact word_at hW (good_of_word hg) h
/-- a list's words: the good ones out of the method's own list, the others by premises of their own -/
theorem vx_hat {args : Array Value} {s : State} {L B : List Cond} (h1 : ∀ w ∈ L.filter goodWord, w.before args s = true) (h2 : ∀ w ∈ L.filter (fun w => !goodWord w), w ∈ B) (h3 : ∀ w ∈ B, w.before args s = true) : ∀ w ∈ L, w.before args s = true := by
  intro w hw
  by_cases g : goodWord w = true
  · exact h1 w (List.mem_filter.mpr ⟨hw, g⟩)
  · refine h3 w (h2 w (List.mem_filter.mpr ⟨hw, ?_⟩))
    show (!goodWord w) = true
    cases hgw : goodWord w
    · rfl
    · exact absurd hgw g
theorem vx_c {args : Array Value} {s : State} {w : Cond} {B : List Cond} (h : w.before args s = true) (t : ∀ w ∈ B, w.before args s = true) : ∀ w' ∈ w :: B, w'.before args s = true := fun w' h' => (List.mem_cons.mp h').elim (fun e => by rw [e]; exact h) (t w')
theorem vx_n {args : Array Value} {s : State} : ∀ w ∈ ([] : List Cond), w.before args s = true := fun _ h => nomatch h
theorem vx_own {args : Array Value} {s : State} {L : List Cond} (h1 : ∀ w ∈ L.filter vx_no, w.before args s = true)
    (hU : (Cond.isRef (.static Bundle.tN "UNASSIGNED_STACK" Bundle.steD)).before args s = true) (hN : (Cond.isRef (.static Bundle.tN "SUPPRESSED_SENTINEL" Bundle.listD)).before args s = true)
    (lU : (Cond.laysStatic Bundle.tN "UNASSIGNED_STACK" Bundle.steD).before args s = true) (lN : (Cond.laysStatic Bundle.tN "SUPPRESSED_SENTINEL" Bundle.listD).before args s = true) : ∀ w ∈ L, w.before args s = true := by
  intro w hw
  by_cases e1 : w = .isRef (.static Bundle.tN "UNASSIGNED_STACK" Bundle.steD)
  · rw [e1]; exact hU
  · by_cases e2 : w = .isRef (.static Bundle.tN "SUPPRESSED_SENTINEL" Bundle.listD)
    · rw [e2]; exact hN
    · by_cases e3 : w = .laysStatic Bundle.tN "UNASSIGNED_STACK" Bundle.steD
      · rw [e3]; exact lU
      · by_cases e4 : w = .laysStatic Bundle.tN "SUPPRESSED_SENTINEL" Bundle.listD
        · rw [e4]; exact lN
        · exact h1 w (List.mem_filter.mpr ⟨hw, by unfold vx_no; rw [decide_eq_true e1, decide_eq_true e2, decide_eq_true e3, decide_eq_true e4]; rfl⟩)
/-- where a static field lies, its class's statics cell in H -/
def vx_L (C n d : String) (A : Nat → Prop) (U : State) (H : Heap) : Prop := ∃ (c : ClassId) (k : Class) (i : Nat) (f : Field) (a : Nat) (cell : Cell), U.vm.findClass C = some c ∧ U.fieldFound? C n d = some (c, k, i, f) ∧ f.isStatic = true ∧ k.statics = some a ∧ H[a]? = some cell ∧ cell.vm.isStatics = true ∧ cell.cls = c ∧ f.slot < cell.slots.size ∧ k.staticTypes[f.slot]? = some f.type ∧ ¬ A a
theorem vx_L.moved {C n d : String} {A : Nat → Prop} {u U : State} {H : Heap} (hvm : u.vm.Alike U.vm) (h : vx_L C n d A u H) : vx_L C n d A U H := by
  obtain ⟨c, k, i, f, a, cell, h1, h2, h3, h4, h5, h6, h7, h8, h9, h10⟩ := h
  obtain ⟨k', hi', he⟩ := State.fieldFound?_setVm hvm h2
  exact ⟨c, k', i, f, a, cell, by rw [hvm.findClass]; exact h1, hi', h3, by rw [he]; exact h4, h5, h6, h7, h8, by rw [he]; exact h9, h10⟩
theorem vx_L.kept {C n d : String} {A : Nat → Prop} {U : State} {H H1 : Heap} (h : vx_L C n d A U H) (hq : ∀ a : Nat, a < H.size → ¬ A a → H1[a]? = H[a]?) : vx_L C n d A U H1 := by
  obtain ⟨c, k, i, f, a, cell, h1, h2, h3, h4, h5, h6, h7, h8, h9, h10⟩ := h
  exact ⟨c, k, i, f, a, cell, h1, h2, h3, h4, by rw [hq a (Array.getElem?_eq_some_iff.mp h5).1 h10]; exact h5, h6, h7, h8, h9, h10⟩
theorem vx_L.narrow {C n d : String} {A B : Nat → Prop} {U : State} {H : Heap} (h : vx_L C n d A U H) (hAB : ∀ q, B q → A q) : vx_L C n d B U H := by
  obtain ⟨c, k, i, f, a, cell, h1, h2, h3, h4, h5, h6, h7, h8, h9, h10⟩ := h
  exact ⟨c, k, i, f, a, cell, h1, h2, h3, h4, h5, h6, h7, h8, h9, fun z => h10 (hAB _ z)⟩
theorem vx_L.word {C n d : String} {A : Nat → Prop} {s : State} {args : Array Value} (h : vx_L C n d A s s.heap) : (Cond.laysStatic C n d).before args s = true := by
  obtain ⟨c, k, i, f, a, cell, h1, h2, h3, h4, h5, h6, h7, h8, h9, -⟩ := h
  show (Cond.laysStatic C n d).holds args s none s [] = true
  exact Cond.laysStatic_of h1 h2 h3 h4 h5 h6 h7 h8 h9
/-- .. and what it holds: null or some reference -/
def vx_Zq (C n d : String) (A : Nat → Prop) (U : State) (H : Heap) : Prop := va_Zq C n d A U H ∧ vx_L C n d A U H
theorem vx_Zq.moved {C n d : String} {A : Nat → Prop} {u U : State} {H : Heap} (hvm : u.vm.Alike U.vm) (h : vx_Zq C n d A u H) : vx_Zq C n d A U H := ⟨va_Zq.moved hvm h.1, vx_L.moved hvm h.2⟩
theorem vx_Zq.kept {C n d : String} {A : Nat → Prop} {U : State} {H H1 : Heap} (h : vx_Zq C n d A U H) (hq : ∀ a : Nat, a < H.size → ¬ A a → H1[a]? = H[a]?) : vx_Zq C n d A U H1 := ⟨va_Zq.kept h.1 hq, vx_L.kept h.2 hq⟩
theorem vx_Zq.narrow {C n d : String} {A B : Nat → Prop} {U : State} {H : Heap} (h : vx_Zq C n d A U H) (hAB : ∀ q, B q → A q) : vx_Zq C n d B U H := ⟨va_Zq.narrow h.1 hAB, vx_L.narrow h.2 hAB⟩
theorem vx_Zqof {args : Array Value} {s : State} {C n d : String} {A : Nat → Prop} (hl : (Cond.laysStatic C n d).before args s = true) (hini : (Cond.initialized C).before args s = true) (h : (Cond.isRef (.static C n d)).before args s = true) (hA : ∀ a : Nat, a < s.heap.size → ¬ A a) : vx_Zq C n d A s s.heap := by
  refine ⟨va_Zqof hl hini h hA, ?_⟩
  obtain ⟨c, k, i, f, a, cell, h1, h2, h3, h4, h5, h6, h7, h8, h9⟩ := Cond.laysStatic_spec hl
  exact ⟨c, k, i, f, a, cell, h1, h2, h3, h4, h5, h6, h7, h8, h9, hA a (Array.getElem?_eq_some_iff.mp h5).1⟩
theorem vx_isRef {C n d : String} {v : Value} {A : Nat → Prop} {s : State} {args : Array Value} (h : va_Z C n d v A s s.heap) (hv : v.isRef = true) : (Cond.isRef (.static C n d)).before args s = true := by
  obtain ⟨cf, kf, fi, f, a, cell, h1, h2, h3, h4, h5, h6, h7, -⟩ := h
  have he : (Term.static C n d).eval args s none [] s = some v := by
    simp [Term.eval, State.fieldNamed?, h1, h2, h4, h5, h6, h7]
  simp only [Cond.before, Cond.holds, Cond.value, he]
  cases v <;> simp_all [Value.isRef]
theorem vx_isRefq {C n d : String} {A : Nat → Prop} {s : State} {args : Array Value} (h : va_Zq C n d A s s.heap) : (Cond.isRef (.static C n d)).before args s = true := by
  rcases h with h | ⟨t, h⟩
  · exact vx_isRef h rfl
  · exact vx_isRef h rfl
/-- the same frame, seen from here: as if the method were called anew in this heap -/
theorem vx_rebase {T : State} (X : Stand p l e R s m args below meth c T locs cells slots) {R' : Room} (hf : R'.frames ≤ R.frames) (hl : R'.locals ≤ R.locals) (hc : cells + R'.cells ≤ R.cells) (hs : slots + R'.slots ≤ R.slots) :
    Stand p l e R' ((T.setVm s.vm).setFrames (.invoking m args :: below)) m args below meth c T [] 0 0 := by
  have htop : (T.setVm s.vm).topJava?.isSome := X.here.top
  have hF : ((T.setVm s.vm).setFrames (.invoking m args :: below)).frames = .invoking m args :: below := State.frames_setFrames _ (State.cur_lt_of_top htop)
  obtain ⟨g₀, hg0⟩ := Option.isSome_iff_exists.mp htop
  obtain ⟨r, hr⟩ := State.topJava?_eq_some.mp hg0
  have hl9 : e.platform.stackLimits (T.setVm s.vm).me = e.platform.stackLimits s.me := X.limits
  have hb9 : (T.setVm s.vm).me.stackBytes = s.me.stackBytes := X.bytes
  refine ⟨X.admits, X.cas, X.clock, hF, ?_, X.hears, X.method, X.code, X.here, X.tail, X.warmed, ?_, ?_, ?_⟩
  · have h := X.room
    have hU : ((T.setVm s.vm).setFrames (.invoking m args :: below)).localsInUse = s.localsInUse := by
      rw [State.localsInUse_invoking hF (meth := meth) (c := c) X.method X.code, State.localsInUse_invoking X.frames X.method X.code]
    simp only [State.hasRoom, Bool.and_eq_true, decide_eq_true_eq] at h ⊢
    obtain ⟨⟨⟨⟨h1, h2, h3, h4, h5, h6⟩, h7⟩, h8⟩, h9⟩ := h
    rw [X.frames, List.length_cons] at h2 h3
    have q1 := X.heapSize
    have q2 := X.used
    simp only [hF, hU, List.length_cons, State.stackLimits_setFrames, State.stackBytes_setFrames, hl9, hb9]
    refine ⟨⟨⟨⟨by omega, by omega, by omega, by omega, by omega, h6⟩, ?_⟩, ?_⟩, X.book⟩
    · show T.heap.size + R'.cells ≤ e.platform.maxCells
      omega
    · show T.slotsUsed + R'.slots ≤ e.platform.maxSlots
      omega
  · rw [State.stackLimits_setFrames]; rfl
  · rw [State.stackBytes_setFrames]; rfl
  · refine ⟨?_, Nat.le_refl _, Nat.le_refl _, ?_, ?_, fun a c9 h9 => ⟨c9, h9, rfl, rfl, fun _ _ => rfl⟩⟩
    · obtain ⟨t, ht, -⟩ := State.frames_cons hr
      show T.setVm s.vm = { ((T.setVm s.vm).setFrames (.invoking m args :: below)).setFrames (T.setVm s.vm).frames with heap := T.heap, slotsUsed := T.slotsUsed }
      rw [State.setFrames_setFrames, State.setFrames_self ht]
      rfl
    · show T.slotsUsed = T.slotsUsed + ((T.heap.toList.drop T.heap.size).map (·.slots.size)).sum
      rw [List.drop_eq_nil_of_le (Nat.le_of_eq Array.length_toList)]
      rfl
    · show ((T.heap.toList.drop T.heap.size).map (·.slots.size)).sum ≤ 0
      rw [List.drop_eq_nil_of_le (Nat.le_of_eq Array.length_toList)]
      exact Nat.le_refl _
/-- 'throw new E()': new; dup; invokespecial; athrow -/
theorem vx_throw0 {cc : ByteArray} {pc : Nat} (hexec : p.tables.exec = Jvm.exec) (hb : c.code = cc) (hl : l.stackTraces = false) {own cls : String} {names : List String} {ik ic mc ms : Nat} {A : Nat → Prop}
    (hown : s.vm.findClass own = some m.cls) (hcls : Bundle.fit cls = true) (hnames : ∀ n ∈ names, Bundle.fit n = true)
    (hk : (Cond.classLink own ik cls).before args s = true) (hini : (Cond.initialized cls).before args s = true) (hat : ∀ w ∈ vx_at0 own ic cls names, w.before args s = true)
    (hgood : ∀ w ∈ Cond.classLink own ik cls :: Cond.initialized cls :: vx_at0 own ic cls names, vx_ot w = true)
    (hU : vx_Zq Bundle.tN "UNASSIGNED_STACK" Bundle.steD A s s.heap) (hN : vx_Zq Bundle.tN "SUPPRESSED_SENTINEL" Bundle.listD A s s.heap) (hS : va_S A s.heap H locs) (hsize : ls.size = c.maxLocals)
    (d0 : decode cc pc = .ok (.new ik, 3)) (d3 : decode cc (pc + 3) = .ok (.dup, 1)) (d4 : decode cc (pc + 4) = .ok (.invokespecial ic, 3)) (d7 : decode cc (pc + 7) = .ok (.athrow, 1))
    (hout : ∀ x ∈ c.exceptionTable.toList, covers x (pc + 7) = false)
    (hRframes : names.length + 3 < R.frames) (hRlocals : (rest.map fun v => v.category).sum + (13 * (names.length + 1) + 42) ≤ R.locals) (hRcells : cells + 1 ≤ R.cells) (hRslots : slots + 6 ≤ R.slots) (hlocks : meth.locks = false)
    (hx : ∀ t : State, s.vm.Alike t.vm → H.size ≤ t.heap.size → (∀ q : Nat, q < H.size → t.heap[q]? = H[q]?) → XC cls s t)
    (hf : ∀ z ∈ locs, free z.base) (hc : cells + 1 ≤ mc) (hs : slots + 6 ≤ ms) :
    W p l e R s m args below meth c H locs cells slots (vx_MQ below Qc XC args s mc ms free) (F0 m pc ls rest) := by
  intro T hT X
  have htr : e.platform.stackTraces = false := (show e.platform.stackTraces = l.stackTraces by rw [X.admits.platform]).trans hl
  have Y := vx_rebase X (R' := { frames := R.frames, locals := R.locals, cells := 1, slots := 6 }) (Nat.le_refl _) (Nat.le_refl _) hRcells hRslots
  obtain ⟨s', hA⟩ : ∃ z, z = (T.setVm s.vm).setFrames (.invoking m args :: below) := ⟨_, rfl⟩
  rw [← hA] at Y
  have hvm : s'.vm = s.vm := by rw [hA]; rfl
  have hhp : s'.heap = H := by rw [hA]; exact hT
  have hW0 : s.WarmedH s'.vm := by rw [hvm]; exact State.WarmedH.refl s
  have hat' : ∀ w ∈ vx_at0 own ic cls names, w.before args s' = true := fun w hw => vx_ot_at hW0 hvm.symm (hgood w (List.mem_cons_of_mem _ (List.mem_cons_of_mem _ hw))) (hat w hw)
  have hk' : (Cond.classLink own ik cls).before args s' = true := vx_ot_at hW0 hvm.symm (hgood _ List.mem_cons_self) hk
  have hini' : (Cond.initialized cls).before args s' = true := vx_ot_at hW0 hvm.symm (hgood _ (List.mem_cons_of_mem _ List.mem_cons_self)) hini
  have hU' : vx_Zq Bundle.tN "UNASSIGNED_STACK" Bundle.steD A s' s'.heap := by rw [hhp]; exact vx_Zq.moved hW0.alike (hU.kept hS.2.1)
  have hN' : vx_Zq Bundle.tN "SUPPRESSED_SENTINEL" Bundle.listD A s' s'.heap := by rw [hhp]; exact vx_Zq.moved hW0.alike (hN.kept hS.2.1)
  have h : ∀ w ∈ Bundle.ownAtoms0 own ic cls names, w.before args s' = true := vx_own hat' (vx_isRefq hU'.1) (vx_isRefq hN'.1) hU'.2.word hN'.2.word
  have hown' : s'.vm.findClass own = some m.cls := by rw [hvm]; exact hown
  have hins : (Cond.instantiable cls 6).before args s' = true := h _ (by simp [Bundle.ownAtoms0])
  obtain ⟨vm₁, cX, kX, hfX, hkX, -, -, X₁, st1⟩ := Y.newCold hexec (own := own) (C := cls) (index := ik) (n := 6) hown' hk' hins hini'
    (g := F0 m pc ls rest) rfl (by rw [hb]; exact d0) (Nat.le_refl _) (Nat.le_refl _)
  generalize hT1 : (T.setVm vm₁).pushCell { cls := cX, slots := kX.instanceTypes.map defaultValue, vm := .none } = T1 at X₁ st1
  have hcat : (Value.ref T.heap.size).category = 1 := rfl
  have hcellA : T1.heap[T.heap.size]? = some (freshCell cX kX) := by rw [← hT1]; exact State.heap_pushCell_size _ _
  have d3' : decode c.code (pc + 3) = .ok (.dup, 1) := by rw [hb]; exact d3
  obtain ⟨U, hsteps, hrun, hend, hW, hsame, ce, hce, hO⟩ := X₁.ctorThrow0 hexec htr (own := own) (cls := cls) (names := names) (ic := ic) hown' hcls hnames h (fun x hx => nomatch hx) hfX hkX hcellA (by rw [hhp, hT]; exact Nat.le_refl _)
    (g := { method := m, pc := pc + 4, locals := ls, stack := .ref T.heap.size :: .ref T.heap.size :: rest, locked := none }) rfl hsize rfl rfl (rest := rest) rfl
    (by rw [hb]; exact d4) (by rw [hb]; exact d7) hout hRframes (by simp only [List.map_cons, List.sum_cons, hcat]; omega) hlocks
  obtain ⟨f1, f2⟩ := vx_frame hsame
  rw [hhp] at f1 f2
  have hWs : s.WarmedH U.vm := State.WarmedH.trans hW0 hW
  have hcl : s.vm.findClass cls = some ce.cls := by
    have h9 := hO.cls
    rw [hvm] at h9
    exact h9
  have hall : s.sameButNew ({ U with vm := s.vm } : State) locs mc ms := by
    subst hA
    obtain ⟨e1, e2⟩ := hsame
    rw [State.setFrames_setFrames] at e1
    have h2 : (T.setVm s.vm).sameButNew ({ U with vm := s.vm } : State) [] (0 + 1) (0 + 6) := ⟨e1, e2⟩
    have h3 := X.same.trans h2
    rw [List.append_nil] at h3
    exact h3.mono hc hs
  refine ⟨U, ?_, .threw T.heap.size, hrun, hend, Or.inr ⟨T.heap.size, rfl, cls, ce, locs, hx U hWs.alike f1 (fun q hq => f2 q hq (fun z hz => nomatch hz)), hce, hO.vm, hcl, hWs, hall, hf⟩⟩
  refine st1 _ ?_
  show Steps p.tables e below (T1.setTop { method := m, pc := pc + 3, locals := ls, stack := .ref T.heap.size :: rest, locked := none }) _
  jvm_step X₁.here [X₁.here.top, hexec, d3', Value.category]
  exact hsteps
/-- 'throw new E("text")': new; dup; ldc; invokespecial; athrow -/
theorem vx_throwS {cc : ByteArray} {pc : Nat} (hexec : p.tables.exec = Jvm.exec) (hb : c.code = cc) (hl : l.stackTraces = false) {own cls text : String} {names : List String} {ik is ic mc ms sa : Nat} {A : Nat → Prop}
    (hown : s.vm.findClass own = some m.cls) (hcls : Bundle.fit cls = true) (hnames : ∀ n ∈ names, Bundle.fit n = true)
    (hk : (Cond.classLink own ik cls).before args s = true) (hini : (Cond.initialized cls).before args s = true) (hstr : vk_R own is text sa s) (hat : ∀ w ∈ vx_atS own ic cls names, w.before args s = true)
    (hgood : ∀ w ∈ Cond.classLink own ik cls :: Cond.initialized cls :: vx_atS own ic cls names, vx_ot w = true)
    (hU : vx_Zq Bundle.tN "UNASSIGNED_STACK" Bundle.steD A s s.heap) (hN : vx_Zq Bundle.tN "SUPPRESSED_SENTINEL" Bundle.listD A s s.heap) (hS : va_S A s.heap H locs) (hsize : ls.size = c.maxLocals)
    (d0 : decode cc pc = .ok (.new ik, 3)) (d3 : decode cc (pc + 3) = .ok (.dup, 1)) (d4 : decode cc (pc + 4) = .ok (.ldc is, 2)) (d6 : decode cc (pc + 6) = .ok (.invokespecial ic, 3)) (d9 : decode cc (pc + 9) = .ok (.athrow, 1))
    (hout : ∀ x ∈ c.exceptionTable.toList, covers x (pc + 9) = false)
    (hRframes : names.length + 3 < R.frames) (hRlocals : (rest.map fun v => v.category).sum + (13 * (names.length + 1) + 43) ≤ R.locals) (hRcells : cells + 1 ≤ R.cells) (hRslots : slots + 6 ≤ R.slots) (hlocks : meth.locks = false)
    (hx : ∀ t : State, s.vm.Alike t.vm → H.size ≤ t.heap.size → (∀ q : Nat, q < H.size → t.heap[q]? = H[q]?) → XC cls s t)
    (hf : ∀ z ∈ locs, free z.base) (hc : cells + 1 ≤ mc) (hs : slots + 6 ≤ ms) :
    W p l e R s m args below meth c H locs cells slots (vx_MQ below Qc XC args s mc ms free) (F0 m pc ls rest) := by
  intro T hT X
  have htr : e.platform.stackTraces = false := (show e.platform.stackTraces = l.stackTraces by rw [X.admits.platform]).trans hl
  have Y := vx_rebase X (R' := { frames := R.frames, locals := R.locals, cells := 1, slots := 6 }) (Nat.le_refl _) (Nat.le_refl _) hRcells hRslots
  obtain ⟨s', hA⟩ : ∃ z, z = (T.setVm s.vm).setFrames (.invoking m args :: below) := ⟨_, rfl⟩
  rw [← hA] at Y
  have hvm : s'.vm = s.vm := by rw [hA]; rfl
  have hhp : s'.heap = H := by rw [hA]; exact hT
  have hW0 : s.WarmedH s'.vm := by rw [hvm]; exact State.WarmedH.refl s
  have hat' : ∀ w ∈ vx_atS own ic cls names, w.before args s' = true := fun w hw => vx_ot_at hW0 hvm.symm (hgood w (List.mem_cons_of_mem _ (List.mem_cons_of_mem _ hw))) (hat w hw)
  have hk' : (Cond.classLink own ik cls).before args s' = true := vx_ot_at hW0 hvm.symm (hgood _ List.mem_cons_self) hk
  have hini' : (Cond.initialized cls).before args s' = true := vx_ot_at hW0 hvm.symm (hgood _ (List.mem_cons_of_mem _ List.mem_cons_self)) hini
  have hU' : vx_Zq Bundle.tN "UNASSIGNED_STACK" Bundle.steD A s' s'.heap := by rw [hhp]; exact vx_Zq.moved hW0.alike (hU.kept hS.2.1)
  have hN' : vx_Zq Bundle.tN "SUPPRESSED_SENTINEL" Bundle.listD A s' s'.heap := by rw [hhp]; exact vx_Zq.moved hW0.alike (hN.kept hS.2.1)
  have h : ∀ w ∈ Bundle.ownAtoms own ic cls names, w.before args s' = true := vx_own hat' (vx_isRefq hU'.1) (vx_isRefq hN'.1) hU'.2.word hN'.2.word
  have hown' : s'.vm.findClass own = some m.cls := by rw [hvm]; exact hown
  have hins : (Cond.instantiable cls 6).before args s' = true := h _ (by simp [Bundle.ownAtoms])
  obtain ⟨vm₁, cX, kX, hfX, hkX, -, -, X₁, st1⟩ := Y.newCold hexec (own := own) (C := cls) (index := ik) (n := 6) hown' hk' hins hini'
    (g := F0 m pc ls rest) rfl (by rw [hb]; exact d0) (Nat.le_refl _) (Nat.le_refl _)
  generalize hT1 : (T.setVm vm₁).pushCell { cls := cX, slots := kX.instanceTypes.map defaultValue, vm := .none } = T1 at X₁ st1
  have hcat : (Value.ref T.heap.size).category = 1 := rfl
  have hcellA : T1.heap[T.heap.size]? = some (freshCell cX kX) := by rw [← hT1]; exact State.heap_pushCell_size _ _
  have d3' : decode c.code (pc + 3) = .ok (.dup, 1) := by rw [hb]; exact d3
  have d4' : decode c.code (pc + 4) = .ok (.ldc is, 2) := by rw [hb]; exact d4
  have hstr' : vk_R own is text sa s' := vk_R.warm hW0 hstr
  obtain ⟨U, hsteps, hrun, hend, hW, hsame, ce, hce, hO⟩ := X₁.ctorThrowS hexec htr (own := own) (cls := cls) (names := names) (ic := ic) hown' hcls hnames h (fun x hx => nomatch hx) hfX hkX hcellA (by rw [hhp, hT]; exact Nat.le_refl _) (msg := .ref sa) rfl
    (g := { method := m, pc := pc + 6, locals := ls, stack := .ref sa :: .ref T.heap.size :: .ref T.heap.size :: rest, locked := none }) rfl hsize rfl rfl (rest := rest) rfl
    (by rw [hb]; exact d6) (by rw [hb]; exact d9) hout hRframes (by simp only [List.map_cons, List.sum_cons, hcat]; omega) hlocks
  obtain ⟨f1, f2⟩ := vx_frame hsame
  rw [hhp] at f1 f2
  have hWs : s.WarmedH U.vm := State.WarmedH.trans hW0 hW
  have hcl : s.vm.findClass cls = some ce.cls := by
    have h9 := hO.cls
    rw [hvm] at h9
    exact h9
  have hall : s.sameButNew ({ U with vm := s.vm } : State) locs mc ms := by
    subst hA
    obtain ⟨e1, e2⟩ := hsame
    rw [State.setFrames_setFrames] at e1
    have h2 : (T.setVm s.vm).sameButNew ({ U with vm := s.vm } : State) [] (0 + 1) (0 + 6) := ⟨e1, e2⟩
    have h3 := X.same.trans h2
    rw [List.append_nil] at h3
    exact h3.mono hc hs
  refine ⟨U, ?_, .threw T.heap.size, hrun, hend, Or.inr ⟨T.heap.size, rfl, cls, ce, locs, hx U hWs.alike f1 (fun q hq => f2 q hq (fun z hz => nomatch hz)), hce, hO.vm, hcl, hWs, hall, hf⟩⟩
  refine st1 _ ?_
  show Steps p.tables e below (T1.setTop { method := m, pc := pc + 3, locals := ls, stack := .ref T.heap.size :: rest, locked := none }) _
  jvm_step X₁.here [X₁.here.top, hexec, d3', Value.category]
  exact X₁.ldcString hexec (own := own) (text := text) (index := is) (a := sa) hown' hstr'.1 hstr'.2
    (g := { method := m, pc := pc + 4, locals := ls, stack := .ref T.heap.size :: .ref T.heap.size :: rest, locked := none }) rfl d4' _ hsteps
/-- 'throw new E("text")', the text by a wide index -/
theorem vx_throwSW {cc : ByteArray} {pc : Nat} (hexec : p.tables.exec = Jvm.exec) (hb : c.code = cc) (hl : l.stackTraces = false) {own cls text : String} {names : List String} {ik is ic mc ms sa : Nat} {A : Nat → Prop}
    (hown : s.vm.findClass own = some m.cls) (hcls : Bundle.fit cls = true) (hnames : ∀ n ∈ names, Bundle.fit n = true)
    (hk : (Cond.classLink own ik cls).before args s = true) (hini : (Cond.initialized cls).before args s = true) (hstr : vk_R own is text sa s) (hat : ∀ w ∈ vx_atS own ic cls names, w.before args s = true)
    (hgood : ∀ w ∈ Cond.classLink own ik cls :: Cond.initialized cls :: vx_atS own ic cls names, vx_ot w = true)
    (hU : vx_Zq Bundle.tN "UNASSIGNED_STACK" Bundle.steD A s s.heap) (hN : vx_Zq Bundle.tN "SUPPRESSED_SENTINEL" Bundle.listD A s s.heap) (hS : va_S A s.heap H locs) (hsize : ls.size = c.maxLocals)
    (d0 : decode cc pc = .ok (.new ik, 3)) (d3 : decode cc (pc + 3) = .ok (.dup, 1)) (d4 : decode cc (pc + 4) = .ok (.ldc_w is, 3)) (d7 : decode cc (pc + 7) = .ok (.invokespecial ic, 3)) (d10 : decode cc (pc + 10) = .ok (.athrow, 1))
    (hout : ∀ x ∈ c.exceptionTable.toList, covers x (pc + 10) = false)
    (hRframes : names.length + 3 < R.frames) (hRlocals : (rest.map fun v => v.category).sum + (13 * (names.length + 1) + 43) ≤ R.locals) (hRcells : cells + 1 ≤ R.cells) (hRslots : slots + 6 ≤ R.slots) (hlocks : meth.locks = false)
    (hx : ∀ t : State, s.vm.Alike t.vm → H.size ≤ t.heap.size → (∀ q : Nat, q < H.size → t.heap[q]? = H[q]?) → XC cls s t)
    (hf : ∀ z ∈ locs, free z.base) (hc : cells + 1 ≤ mc) (hs : slots + 6 ≤ ms) :
    W p l e R s m args below meth c H locs cells slots (vx_MQ below Qc XC args s mc ms free) (F0 m pc ls rest) := by
  intro T hT X
  have htr : e.platform.stackTraces = false := (show e.platform.stackTraces = l.stackTraces by rw [X.admits.platform]).trans hl
  have Y := vx_rebase X (R' := { frames := R.frames, locals := R.locals, cells := 1, slots := 6 }) (Nat.le_refl _) (Nat.le_refl _) hRcells hRslots
  obtain ⟨s', hA⟩ : ∃ z, z = (T.setVm s.vm).setFrames (.invoking m args :: below) := ⟨_, rfl⟩
  rw [← hA] at Y
  have hvm : s'.vm = s.vm := by rw [hA]; rfl
  have hhp : s'.heap = H := by rw [hA]; exact hT
  have hW0 : s.WarmedH s'.vm := by rw [hvm]; exact State.WarmedH.refl s
  have hat' : ∀ w ∈ vx_atS own ic cls names, w.before args s' = true := fun w hw => vx_ot_at hW0 hvm.symm (hgood w (List.mem_cons_of_mem _ (List.mem_cons_of_mem _ hw))) (hat w hw)
  have hk' : (Cond.classLink own ik cls).before args s' = true := vx_ot_at hW0 hvm.symm (hgood _ List.mem_cons_self) hk
  have hini' : (Cond.initialized cls).before args s' = true := vx_ot_at hW0 hvm.symm (hgood _ (List.mem_cons_of_mem _ List.mem_cons_self)) hini
  have hU' : vx_Zq Bundle.tN "UNASSIGNED_STACK" Bundle.steD A s' s'.heap := by rw [hhp]; exact vx_Zq.moved hW0.alike (hU.kept hS.2.1)
  have hN' : vx_Zq Bundle.tN "SUPPRESSED_SENTINEL" Bundle.listD A s' s'.heap := by rw [hhp]; exact vx_Zq.moved hW0.alike (hN.kept hS.2.1)
  have h : ∀ w ∈ Bundle.ownAtoms own ic cls names, w.before args s' = true := vx_own hat' (vx_isRefq hU'.1) (vx_isRefq hN'.1) hU'.2.word hN'.2.word
  have hown' : s'.vm.findClass own = some m.cls := by rw [hvm]; exact hown
  have hins : (Cond.instantiable cls 6).before args s' = true := h _ (by simp [Bundle.ownAtoms])
  obtain ⟨vm₁, cX, kX, hfX, hkX, -, -, X₁, st1⟩ := Y.newCold hexec (own := own) (C := cls) (index := ik) (n := 6) hown' hk' hins hini'
    (g := F0 m pc ls rest) rfl (by rw [hb]; exact d0) (Nat.le_refl _) (Nat.le_refl _)
  generalize hT1 : (T.setVm vm₁).pushCell { cls := cX, slots := kX.instanceTypes.map defaultValue, vm := .none } = T1 at X₁ st1
  have hcat : (Value.ref T.heap.size).category = 1 := rfl
  have hcellA : T1.heap[T.heap.size]? = some (freshCell cX kX) := by rw [← hT1]; exact State.heap_pushCell_size _ _
  have d3' : decode c.code (pc + 3) = .ok (.dup, 1) := by rw [hb]; exact d3
  have d4' : decode c.code (pc + 4) = .ok (.ldc_w is, 3) := by rw [hb]; exact d4
  have hstr' : vk_R own is text sa s' := vk_R.warm hW0 hstr
  obtain ⟨U, hsteps, hrun, hend, hW, hsame, ce, hce, hO⟩ := X₁.ctorThrowS hexec htr (own := own) (cls := cls) (names := names) (ic := ic) hown' hcls hnames h (fun x hx => nomatch hx) hfX hkX hcellA (by rw [hhp, hT]; exact Nat.le_refl _) (msg := .ref sa) rfl
    (g := { method := m, pc := pc + 7, locals := ls, stack := .ref sa :: .ref T.heap.size :: .ref T.heap.size :: rest, locked := none }) rfl hsize rfl rfl (rest := rest) rfl
    (by rw [hb]; exact d7) (by rw [hb]; exact d10) hout hRframes (by simp only [List.map_cons, List.sum_cons, hcat]; omega) hlocks
  obtain ⟨f1, f2⟩ := vx_frame hsame
  rw [hhp] at f1 f2
  have hWs : s.WarmedH U.vm := State.WarmedH.trans hW0 hW
  have hcl : s.vm.findClass cls = some ce.cls := by
    have h9 := hO.cls
    rw [hvm] at h9
    exact h9
  have hall : s.sameButNew ({ U with vm := s.vm } : State) locs mc ms := by
    subst hA
    obtain ⟨e1, e2⟩ := hsame
    rw [State.setFrames_setFrames] at e1
    have h2 : (T.setVm s.vm).sameButNew ({ U with vm := s.vm } : State) [] (0 + 1) (0 + 6) := ⟨e1, e2⟩
    have h3 := X.same.trans h2
    rw [List.append_nil] at h3
    exact h3.mono hc hs
  refine ⟨U, ?_, .threw T.heap.size, hrun, hend, Or.inr ⟨T.heap.size, rfl, cls, ce, locs, hx U hWs.alike f1 (fun q hq => f2 q hq (fun z hz => nomatch hz)), hce, hO.vm, hcl, hWs, hall, hf⟩⟩
  refine st1 _ ?_
  show Steps p.tables e below (T1.setTop { method := m, pc := pc + 3, locals := ls, stack := .ref T.heap.size :: rest, locked := none }) _
  jvm_step X₁.here [X₁.here.top, hexec, d3', Value.category]
  exact X₁.ldcStringW hexec (own := own) (text := text) (index := is) (a := sa) hown' hstr'.1 hstr'.2
    (g := { method := m, pc := pc + 4, locals := ls, stack := .ref T.heap.size :: .ref T.heap.size :: rest, locked := none }) rfl d4' _ hsteps
end Ends
section Bodies
variable {l : Launch}
theorem vx_ofW {y : MethodName} {ws ws' : List Cond} {rm : Room} {Pc : Array Value → State → Prop} {Qc : Array Value → State → Outcome → State → Prop} {XC : String → State → State → Prop} {mc ms : Nat} {free : Addr → Prop} {cc : ByteArray} {maxL : Nat} {ret : Option FieldType}
    (hy : plainName y.cls = true) (hw : ws = Cond.code y cc maxL ret :: ws')
    (body : ∀ p e s m args below meth c s₁, BodyLoose p l y (headSpec ws rm) cc maxL ret e s m args below meth c s₁ → c.maxLocals = maxL → (∀ x ∈ c.exceptionTable.toList, False) → Pc args s →
      W p l e (headSpec ws rm).room s m args below meth c s.heap [] 0 0 (vx_MQ below Qc XC args s mc ms free) (entryFrame m args maxL)) : vx_Met l y ws rm Pc Qc XC mc ms free := by
  refine MetFree.of_bodyS (code := cc) (maxLocals := maxL) (ret := ret) hy ?_ ?_
  · intro args s m h hn
    obtain ⟨meth, c, h1, h2, h3, h4, h5, h6, -, -⟩ := Cond.code_spec hn (atoms_spec (ws := ws) h _ (by rw [hw]; exact List.mem_cons_self))
    exact ⟨meth, c, h1, h2, h3, h4, h5, h6⟩
  · intro p e s m args below meth c s₁ B hml hP _
    have hh0 : s₁.heap = s.heap := by rw [B.state]; rfl
    have ht : ∀ x ∈ c.exceptionTable.toList, False := by
      obtain ⟨meth9, c9, h1, h2, -, -, -, -, h7, -⟩ := Cond.code_spec B.named (atoms_spec (ws := ws) B.pre _ (by rw [hw]; exact List.mem_cons_self))
      cases Option.some.inj (h1.symm.trans B.method)
      cases Option.some.inj (h2.symm.trans (Stand.of_body B).code)
      intro x hx
      rw [Array.isEmpty_iff.mp h7] at hx
      cases hx
    obtain ⟨t, a1, o, b1, b2, b3⟩ := body p e s m args below meth c s₁ B hml ht hP s₁ hh0 (Stand.of_body B)
    exact ⟨t, o, a1, b1, b2, b3⟩
/-- the table of a body with handlers -/
theorem vx_table {p : Program} {x y : MethodName} {S : Spec} {cc bytes : ByteArray} {maxL maxL' : Nat} {ret ret' : Option FieldType} {e : Env} {s s₁ : State} {m : MethodId} {args : Array Value} {below : List Frame} {meth : Method} {c : Code} {hh : List (Nat × Nat × Nat × Nat)}
    (B : BodyLoose p l y S cc maxL ret e s m args below meth c s₁) (h : (Cond.codeWith y bytes maxL' ret' hh).before args s = true) : c.exceptionTable.toList = tableOf hh := by
  obtain ⟨m9, meth9, c9, hn9, h1, h2, -, -, h6, -⟩ := Cond.codeWith_spec h
  cases Option.some.inj (hn9.symm.trans B.named)
  cases Option.some.inj (h1.symm.trans B.method)
  cases Option.some.inj (h2.symm.trans (Stand.of_body B).code)
  rw [← h6, table_eq]
end Bodies
end VXA
/-! ===== END ===== -/
/-! ===== BEGIN a static call of a method with an exception table ===== -/
section VXS
variable {p : Program} {l : Launch} {e : Env} {R : Room} {s : State} {m : MethodId} {args : Array Value} {below : List Frame} {meth : Method} {c : Code} {T : State} {H : Heap} {locs : List Loc} {cells slots : Nat}
abbrev vx_CSW (R : Room) (s : State) (args : Array Value) (own : String) (index : Nat) (y : MethodName) (bytes : ByteArray) (maxL : Nat) (ret : Option FieldType) (hh : List (Nat × Nat × Nat × Nat)) (ws : List Cond) (rm : Room) (mc ms n : Nat) : Prop :=
  (rm.cells = mc ∧ rm.slots = ms ∧ rm.frames + 1 ≤ R.frames ∧ 8 + (maxL + 11) + rm.locals ≤ R.locals ∧ (∀ w ∈ ws, ∀ (a' : Array Value) (U : State), s.WarmedH U.vm → w.before a' U = true) ∧ Cond.codeWith y bytes maxL ret hh ∈ ws) ∧
  (Cond.codeWith y bytes maxL ret hh).before args s = true ∧ (Cond.initialized y.cls).before args s = true ∧ (y.cls ≠ "java/lang/invoke/MethodHandle" ∧ y.cls ≠ "java/lang/invoke/VarHandle") ∧
  (∀ sig, parseMethodDescriptor y.desc = some sig → n = sig.parameters.length) ∧ (Cond.methodLink own index y).before args s = true ∧ (Cond.static y).before args s = true
theorem vx_cwSW {own : String} {index maxL mc ms : Nat} {y : MethodName} {bytes : ByteArray} {ret : Option FieldType} {hh : List (Nat × Nat × Nat × Nat)} {Ts ws ws' : List Cond} {rm : Room} (n : Nat) (ht : ∀ w ∈ Ts, w.before args s = true) (hT : GoodIn Ts (va_wsS own index y ws)) (hw : ws = Cond.codeWith y bytes maxL ret hh :: ws') (hrc : rm.cells = mc) (hrs : rm.slots = ms)
    (hd : y.cls ≠ "java/lang/invoke/MethodHandle" ∧ y.cls ≠ "java/lang/invoke/VarHandle" ∧ (parseMethodDescriptor y.desc).map (fun d => d.parameters.length) = some n) (hR : rm.frames + 1 ≤ R.frames ∧ 8 + (maxL + 11) + rm.locals ≤ R.locals) :
    vx_CSW R s args own index y bytes maxL ret hh ws rm mc ms n := by
  have ok : ∀ w ∈ va_wsS own index y ws, w.before args s = true := fun w h => ht w (hT w h).1
  have hG : GoodIn Ts ws := fun w h => hT w (by unfold va_wsS; exact List.mem_append_right _ h)
  have hc : Cond.codeWith y bytes maxL ret hh ∈ ws := by rw [hw]; exact List.mem_cons_self
  refine ⟨⟨hrc, hrs, hR.1, hR.2, pay_in ht hG, hc⟩, ht _ (hG _ hc).1, ok _ (by simp [va_wsS]), ⟨hd.1, hd.2.1⟩, fun sig h => ?_, ok _ (by simp [va_wsS]), ok _ (by simp [va_wsS])⟩
  have h2 := hd.2.2
  rw [h] at h2
  exact (Option.some.inj h2).symm
theorem vx_callSW (X : Stand p l e R s m args below meth c T locs cells slots) (hexec : p.tables.exec = Jvm.exec) {own : String} {index : Nat} {y : MethodName} {bytes : ByteArray} {maxL : Nat} {ret : Option FieldType} {hh : List (Nat × Nat × Nat × Nat)}
    (hown : s.vm.findClass own = some m.cls) (hlink : (Cond.methodLink own index y).before args s = true) (hstat : (Cond.static y).before args s = true) (hinit : (Cond.initialized y.cls).before args s = true)
    (hcode : (Cond.codeWith y bytes maxL ret hh).before args s = true) (hy : y.cls ≠ "java/lang/invoke/MethodHandle" ∧ y.cls ≠ "java/lang/invoke/VarHandle")
    {W9 : Nat} {Pre : Pt → Array Value → Prop} {Post : Pt → Array Value → Option Value → Pt → Prop} (hK : Back l R p e below s args y 3 W9 Pre Post)
    {g : JFrame} (hg : g.method = m) (hsize : g.locals.size = c.maxLocals) {argsL rest : List Value} (hlen : ∀ sig, parseMethodDescriptor y.desc = some sig → argsL.length = sig.parameters.length)
    (hstack : g.stack = argsL.reverse ++ rest) (hW : 2 * g.monitorRoom + (rest.map fun v => v.category).sum ≤ W9) (hdg : decode c.code g.pc = .ok (.invokestatic index, 3))
    (hpre : ∀ vm₁, s.WarmedH vm₁ → Pre ⟨T.setVm vm₁, locs, cells, slots⟩ argsL.toArray) :
    ∃ (v : Option Value) (vm₁ : Vm) (B : Pt), s.WarmedH vm₁ ∧ Stand p l e R s m args below meth c B.U B.locs B.cells B.slots ∧ Post ⟨T.setVm vm₁, locs, cells, slots⟩ argsL.toArray v B ∧
      ∀ target, Steps p.tables e below (B.U.setTop { g with pc := g.pc + 3, stack := v.toList ++ rest }) target → Steps p.tables e below (T.setTop g) target := by
  obtain ⟨mk, methM, cM, hnamed, hmethM, -, -, -, -, -, -, hsigM⟩ := Cond.codeWith_spec hcode
  have hstatic : methM.isStatic = true := Cond.static_spec hnamed hmethM hstat
  obtain ⟨kP, hkP, -⟩ := className_of_methodNamed hnamed
  have hinitP : kP.init = .initialized := Cond.initialized_spec (findClass_of_methodNamed hnamed) hkP hinit
  obtain ⟨vm₁, X₁, hstep₁⟩ := X.invokestatic hexec hown hlink hnamed hmethM hstatic hkP hinitP hy (g := g) hg (argsL := argsL) (rest := rest) (hlen _ hsigM) hstack hdg
  obtain ⟨v, B, X', hpost, hsteps⟩ := hK m meth c ⟨T.setVm vm₁, locs, cells, slots⟩ { g with stack := rest } (.invokestatic index) mk argsL.toArray X₁ hg hsize hdg hW (X₁.named hnamed) (hpre vm₁ X₁.warmed)
  exact ⟨v, vm₁, B, X₁.warmed, X', hpost, fun target h => hstep₁ _ fun acts => by rw [doInvoke_state]; exact hsteps.trans h⟩
theorem vx_runSW {y : MethodName} {bytes cc : ByteArray} {maxL nL mc ms n index : Nat} {ret : Option FieldType} {hh : List (Nat × Nat × Nat × Nat)} {ws : List Cond} {rm : Room} {Pc : Array Value → State → Prop} {Qc : Array Value → State → Outcome → State → Prop} {free : Addr → Prop} {Ts : List Cond} {own : String} {As rest : List Value} {g : JFrame}
    (S : CallFix p m c cc nL s args Ts own) (hM : Met l y ws rm Pc Qc mc ms free) (cw : vx_CSW R s args own index y bytes maxL ret hh ws rm mc ms n) (hp : PreS s H Pc As)
    (hg : g.method = m) (hn : As.length = n) (hsize : g.locals.size = nL) (hstack : g.stack = As.reverse ++ rest) (hW : 2 * g.monitorRoom + (rest.map fun v => v.category).sum ≤ 8) (hdg : decode cc g.pc = .ok (.invokestatic index, 3)) (hf : cells + mc ≤ R.cells ∧ slots + ms ≤ R.slots) :
    va_Run p l e R s m args below meth c H locs cells slots mc ms g rest (Qc As.toArray) (free) := by
  obtain ⟨⟨hrc, hrs, hfr, hlo, hws, hcw⟩, hcode, hini, hy, hlen, hl, hstt⟩ := cw
  have hK : Back l R p e below s args y 3 8 (PreOf R mc ms Pc) (PostOf Qc mc ms free) := va_backW (hh := hh) (bytes := bytes) (maxL := maxL) (ret := ret) hM hp.1 hrc hrs hfr hlo hws hcw (fun a' U hW => word_at hW (Or.inl (by first | rfl | simp [Cond.onTables, Cond.keeps, Cond.steady])) hini)
  obtain ⟨hx, hb, hml, ho, -⟩ := S
  intro T hT X
  obtain ⟨v, vm₁, ⟨U', l2, c2, s2⟩, hW₁, X', ⟨g', mk, t, L, e1, e2, hq, h1, hL, h2, h3⟩, st⟩ := vx_callSW X hx (hh := hh) (bytes := bytes) (maxL := maxL) (ret := ret) ho hl hstt hini hcode hy hK hg (hsize.trans hml.symm) (argsL := As) (rest := rest) (fun sig h => hn.trans (hlen sig h)) hstack hW (by rw [hb]; exact hdg)
    (fun vm₁ hW₁ => ⟨hf.1, hf.2, hp.2 (T.setVm vm₁) hT hW₁⟩)
  dsimp only [Pt.U, Pt.locs, Pt.cells, Pt.slots] at X' e1 e2 h1 h2 h3 st
  subst h1; subst h2; subst h3
  exact ⟨v, (T.setVm vm₁).calling g' mk As.toArray, t, U', L, hT, X', hL, e1, e2, hq, st⟩
/-- not caught here, past rows that name other classes: it goes on to the caller -/
theorem vx_outP {p : Program} {l : Launch} {e : Env} {R : Room} {s : State} {m : MethodId} {args : Array Value} {below : List Frame} {meth : Method} {c : Code} {H : Heap} {locs : List Loc} {cells slots : Nat} {free : Addr → Prop} {ls : Array Slot} {rest : List Value} {Qc : Array Value → State → Outcome → State → Prop} {XC : String → State → State → Prop}
    {pc : Nat} {own E : String} {ce : Cell} {q : Addr} {mc ms : Nat} (hown : s.vm.findClass own = some m.cls) (hlocks : meth.locks = false)
    (hpass : ∀ z ∈ c.exceptionTable.toList, covers z pc = false ∨ (z.catchType ≠ 0 ∧ ∃ nm : String, (Cond.classLink own z.catchType nm).before args s = true ∧ va_Nc E nm s)) (hcell : H[q]? = some ce) (hv : ce.vm = .none) (hcl : s.vm.findClass E = some ce.cls)
    (hx : ∀ t : State, t.heap = H → s.vm.Alike t.vm → XC E s t) (hf : ∀ z ∈ locs, free z.base) (hc : cells ≤ mc) (hs : slots ≤ ms) :
    vx_W p l e R s m args below meth c H locs cells slots (vx_MQ below Qc XC args s mc ms free) (F0 m pc ls rest) q := by
  intro T hT X
  have hpl : e.platform.magicAccessors = ({} : Platform).magicAccessors := by rw [X.admits.platform]
  obtain ⟨vm', hW', X', st⟩ := X.outThrough hlocks q (g := F0 m pc ls rest) rfl rfl rfl (cell := ce) (by rw [hT]; exact hcell) (by rw [hv]; rfl)
    (by obtain ⟨k9, h9, -⟩ := Vm.findClass_spec hcl; exact ⟨k9, h9⟩) (fun z hz => by
      rcases hpass z hz with h | ⟨hz0, nm, hl1, hn1⟩
      · exact Or.inl h
      · obtain ⟨c6, hc6, hcl6⟩ := Cond.classLink_spec hown hl1 e.platform hpl
        obtain ⟨a8, b8, h1, h2, h3⟩ := hn1
        cases Option.some.inj (h1.symm.trans hcl)
        cases Option.some.inj (h2.symm.trans hc6)
        exact Or.inr ⟨hz0, _, hcl6, h3⟩)
  obtain ⟨g₀, hfr⟩ := X'.frames_eq
  have hcell9 : ((T.setVm vm').setFrames (.throwing q :: below)).heap[q]? = some ce := by
    show T.heap[q]? = some ce
    rw [hT]; exact hcell
  have hend : Ended ((T.setVm vm').setFrames (.throwing q :: below)) below (.threw q) := State.frames_setFrames _ (State.cur_lt_of_frames hfr)
  refine ⟨(T.setVm vm').setFrames (.throwing q :: below), ?_, .threw q, X'.here.running, hend, Or.inr ⟨q, rfl, E, ce, locs, hx _ hT (X'.ends _).1.alike, hcell9, hv, hcl, (X'.ends _).1, (X'.ends _).2.mono hc hs, hf⟩⟩
  rw [X.pushThrowing_eq]
  exact st
/-- a thing of a world lies in the heap -/
theorem vx_lt {D : va_G} {cl : List vw_C} {ws : va_W} {H1 : Heap} (h : va_P D cl ws H1) {k : Nat} {q : Nat × va_E} (hk : ws[k]? = some q) : q.1 < H1.size := (h k q hk).lt
end VXS
/-! ===== END ===== -/
/-! ===== BEGIN methods with a table of their own: called by a name, returning or throwing ===== -/
section VXH
/-! vx_backW, vx_callVX, vx_callSX, vx_callVW, vx_runVW, vx_runVX, vx_runSX, vx_ofWH follow the same proofs as their sisters above (Free/Laws.lean, Shelf42/LK1.lean); vx_outP calls Shelf42/NT130.lean (outThrough). -/
section
variable {l : Launch} {R : Room} {p : Program} {e : Env} {below : List Frame} {s : State} {sargs : Array Value} {y : MethodName} {len W9 : Nat}
theorem vx_backW {ws : List Cond} {rm : Room} {Pc : Array Value → State → Prop} {Qc : Array Value → State → Outcome → State → Prop} {XC : String → State → State → Prop} {mc ms : Nat} {free : Addr → Prop} {bytes : ByteArray} {maxL : Nat} {ret : Option FieldType} {hh : List (Nat × Nat × Nat × Nat)}
    (hM : vx_Met l y ws rm Pc Qc XC mc ms free) (hblind : FrameBlind Pc) (hrc : rm.cells = mc) (hrs : rm.slots = ms)
    (hframes : rm.frames + 1 ≤ R.frames) (hlocals : W9 + (maxL + 11) + rm.locals ≤ R.locals)
    (hws : ∀ w ∈ ws, ∀ a' U, s.WarmedH U.vm → w.before a' U = true) (hcode : Cond.codeWith y bytes maxL ret hh ∈ ws) (hinit : ∀ a' U, s.WarmedH U.vm → (Cond.initialized y.cls).before a' U = true) :
    vx_Back l R p e below s sargs y len W9 (PreOf R mc ms Pc) (PostOf Qc mc ms free) (vx_Post XC mc ms free) := by
  intro m meth c A g ig mk a X hg hsize hdg hW hn hp
  have h1 : (headSpec ws rm).pre.before a A.U = true := atoms_intro fun w hw => hws w hw _ _ X.warmed
  have h2 : (Cond.codeWith y bytes maxL ret hh).before a A.U = true := hws _ hcode _ _ X.warmed
  have h3 : (Cond.initialized y.cls).before a A.U = true := hinit _ _ X.warmed
  have h4 : A.cells + (headSpec ws rm).room.cells ≤ R.cells := by rw [show (headSpec ws rm).room.cells = mc from hrc]; exact hp.1
  have h5 : A.slots + (headSpec ws rm).room.slots ≤ R.slots := by rw [show (headSpec ws rm).room.slots = ms from hrs]; exact hp.2.1
  have hPc : Pc a (A.U.calling g mk a) := hblind _ _ _ _ hp.2.2
  obtain ⟨U, Ls, c0, s0⟩ := A
  dsimp only [Pt.U, Pt.locs, Pt.cells, Pt.slots] at h1 h2 h3 h4 h5 X hn hPc ⊢
  obtain ⟨m9, methY, cY, hn9, hmY, hcY, -, hlY, -⟩ := Cond.codeWith_spec h2
  cases Option.some.inj (hn9.symm.trans hn)
  obtain ⟨kY, hkY, -⟩ := className_of_methodNamed hn
  have hinitY : kY.init = .initialized := Cond.initialized_spec (findClass_of_methodNamed hn) hkY h3
  have h : At U g.method c below := by rw [hg]; exact X.here
  have hlocals9 : W9 + (maxL + 11) + (headSpec ws rm).room.locals ≤ R.locals := hlocals
  have happ : (headSpec ws rm).appliesLoose y e.platform (U.calling g mk a) = true :=
    Spec.appliesLoose_calling (g := g) h hdg hn hkY hinitY
      (X.room_calling (g := g) (R' := (headSpec ws rm).room) hsize hmY hcY hframes (by rw [hlY]; omega) h4 h5) h1
  obtain ⟨mid, hmid⟩ := h.above
  have hfr : (U.setTop g).frames = (.java g :: mid) ++ below := by rw [State.frames_setTop' g h.top, hmid]; rfl
  obtain ⟨o, s₂, hsteps, -, hend, hq⟩ := Steps.callFree hM p X.admits X.cas X.clock (acts := []) hfr happ hPc trivial
  have hq' : vx_Q Qc XC mc ms free a (U.calling g mk a) o s₂ := hq
  rw [State.frames_setTop' g h.top] at hend
  obtain ⟨g₀, hg0⟩ := Option.isSome_iff_exists.mp h.top
  obtain ⟨r, hr⟩ := State.topJava?_eq_some.mp hg0
  have hr' : (({ U with heap := s₂.heap, slotsUsed := s₂.slotsUsed } : State).setVm s₂.vm).frames = .java g₀ :: r := hr
  rcases hq' with ⟨hqc, L, hfe, hL⟩ | ⟨q, rfl, E, ce, L, hx, hce, hcv, hcl, hW₂, hsm, hL⟩
  · obtain ⟨⟨v, rfl⟩, hW₂, e2, q2, q3, q4, q5, q6⟩ := id hfe
    have e3 : s₂ = ({ (U.calling g mk a).setFrames s₂.frames with heap := s₂.heap, slotsUsed := s₂.slotsUsed } : State).setVm s₂.vm := by
      have : s₂ = ({ s₂ with vm := (U.calling g mk a).vm } : State).setVm s₂.vm := rfl
      rw [e2] at this
      exact this
    obtain ⟨c₂, i₂, len₂, hc₂, hd₂, hf₂⟩ := hend
    have hW' : U.WarmedH s₂.vm := hW₂
    have hcc : c₂ = c := by
      have h1 : s₂.code? g.method = U.code? g.method := by
        rw [State.code?_eq, State.code?_eq, hW'.alike.method?]
      exact Option.some.inj (hc₂.symm.trans (h1.trans h.code))
    subst hcc
    have hlen : len₂ = len := by rw [hdg] at hd₂; cases hd₂; rfl
    subst hlen
    have hs₂ : s₂ = (({ U with heap := s₂.heap, slotsUsed := s₂.slotsUsed } : State).setVm s₂.vm).setTop { g with pc := g.pc + len₂, stack := v.toList ++ g.stack } := by
      refine e3.trans ?_
      rw [hf₂, State.calling_eq h.top, State.setFrames_setFrames, State.setTop_of_frames _ hr', hr]
      rfl
    have hsame : U.sameButNew ({ U with heap := s₂.heap, slotsUsed := s₂.slotsUsed } : State) L mc ms := by
      refine ⟨?_, q2, q3, q4, q5, q6⟩
      obtain ⟨t, ht, -⟩ := State.frames_cons hr
      show ({ U with heap := s₂.heap, slotsUsed := s₂.slotsUsed } : State) = { U.setFrames U.frames with heap := s₂.heap, slotsUsed := s₂.slotsUsed }
      rw [State.setFrames_self ht]
    subst hg
    refine Or.inl ⟨v, ⟨(({ U with heap := s₂.heap, slotsUsed := s₂.slotsUsed } : State).setVm s₂.vm), Ls ++ L, c0 + mc, s0 + ms⟩,
      ⟨X.admits, X.cas, X.clock, X.frames, X.room, X.hears, X.method, X.code, (X.here.setHeapUsed s₂.heap s₂.slotsUsed).setVm hW'.alike, X.tail, State.WarmedH.trans X.warmed hW', X.limits, X.bytes, X.same.trans (hsame.setVm s.vm)⟩,
      ⟨g, mk, s₂, L, rfl, rfl, hqc, rfl, hL, rfl, rfl⟩, ?_⟩
    show Steps p.tables e below _ ((({ U with heap := s₂.heap, slotsUsed := s₂.slotsUsed } : State).setVm s₂.vm).setTop { g with pc := g.pc + len₂, stack := v.toList ++ g.stack })
    rw [← hs₂]
    exact hsteps
  · obtain ⟨e2, q2, q3, q4, q5, q6⟩ := id hsm
    have e3 : s₂ = ({ (U.calling g mk a).setFrames s₂.frames with heap := s₂.heap, slotsUsed := s₂.slotsUsed } : State).setVm s₂.vm := by
      have : s₂ = ({ s₂ with vm := (U.calling g mk a).vm } : State).setVm s₂.vm := rfl
      rw [e2] at this
      exact this
    have hf₂ : s₂.frames = .throwing q :: .java g :: U.frames.tail := hend
    have hW' : U.WarmedH s₂.vm := hW₂
    have hs₂ : s₂ = ((({ U with heap := s₂.heap, slotsUsed := s₂.slotsUsed } : State).setVm s₂.vm).setTop g).pushFrame (.throwing q) := by
      refine e3.trans ?_
      rw [hf₂, State.calling_eq h.top, State.setFrames_setFrames, State.pushFrame, State.frames_setTop _ hr', State.setTop_of_frames _ hr', State.setFrames_setFrames, hr]
      rfl
    have hsame : U.sameButNew ({ U with heap := s₂.heap, slotsUsed := s₂.slotsUsed } : State) L mc ms := by
      refine ⟨?_, q2, q3, q4, q5, q6⟩
      obtain ⟨t, ht, -⟩ := State.frames_cons hr
      show ({ U with heap := s₂.heap, slotsUsed := s₂.slotsUsed } : State) = { U.setFrames U.frames with heap := s₂.heap, slotsUsed := s₂.slotsUsed }
      rw [State.setFrames_self ht]
    subst hg
    refine Or.inr ⟨q, ⟨(({ U with heap := s₂.heap, slotsUsed := s₂.slotsUsed } : State).setVm s₂.vm), Ls ++ L, c0 + mc, s0 + ms⟩,
      ⟨X.admits, X.cas, X.clock, X.frames, X.room, X.hears, X.method, X.code, (X.here.setHeapUsed s₂.heap s₂.slotsUsed).setVm hW'.alike, X.tail, State.WarmedH.trans X.warmed hW', X.limits, X.bytes, X.same.trans (hsame.setVm s.vm)⟩,
      ⟨g, mk, s₂, L, E, ce, rfl, rfl, hx, hce, hcv, hcl, rfl, hL, rfl, rfl⟩, ?_⟩
    show Steps p.tables e below _ (((({ U with heap := s₂.heap, slotsUsed := s₂.slotsUsed } : State).setVm s₂.vm).setTop g).pushFrame (.throwing q))
    rw [← hs₂]
    exact hsteps
end
variable {p : Program} {l : Launch} {e : Env} {R : Room} {s : State} {m : MethodId} {args : Array Value} {below : List Frame} {meth : Method} {c : Code} {T : State} {H : Heap} {locs : List Loc} {cells slots : Nat}
theorem vx_callVX (X : Stand p l e R s m args below meth c T locs cells slots) (hexec : p.tables.exec = Jvm.exec) {own C : String} {index : Nat} {y : MethodName} {bytes : ByteArray} {maxL : Nat} {ret : Option FieldType} {hh : List (Nat × Nat × Nat × Nat)}
    (hown : s.vm.findClass own = some m.cls) (hlink : (Cond.methodLink own index y).before args s = true) (hinst : (Cond.instanceMethod y).before args s = true) (hsel : (Cond.selects C y y).before args s = true)
    (hcode : (Cond.codeWith y bytes maxL ret hh).before args s = true) (hy : y.cls ≠ "java/lang/invoke/MethodHandle" ∧ y.cls ≠ "java/lang/invoke/VarHandle")
    {W9 : Nat} {Pre : Pt → Array Value → Prop} {Post : Pt → Array Value → Option Value → Pt → Prop} {PostX : Pt → Array Value → Addr → Pt → Prop} (hK : vx_Back l R p e below s args y 3 W9 Pre Post PostX)
    {b : Addr} {cellB : Cell} (hcell : T.heap[b]? = some cellB) (hobj : cellB.vm.isStatics = false) (hcls : s.vm.findClass C = some cellB.cls)
    {g : JFrame} (hg : g.method = m) (hsize : g.locals.size = c.maxLocals) {argsL rest : List Value} (hlen : ∀ sig, parseMethodDescriptor y.desc = some sig → argsL.length = sig.parameters.length)
    (hstack : g.stack = argsL.reverse ++ .ref b :: rest) (hW : 2 * g.monitorRoom + (rest.map fun v => v.category).sum ≤ W9) (hdg : decode c.code g.pc = .ok (.invokevirtual index, 3))
    (hpre : ∀ vm₁, s.WarmedH vm₁ → Pre ⟨T.setVm vm₁, locs, cells, slots⟩ (Value.ref b :: argsL).toArray) :
    (∃ (v : Option Value) (vm₁ : Vm) (B : Pt), s.WarmedH vm₁ ∧ Stand p l e R s m args below meth c B.U B.locs B.cells B.slots ∧ Post ⟨T.setVm vm₁, locs, cells, slots⟩ (Value.ref b :: argsL).toArray v B ∧
      ∀ target, Steps p.tables e below (B.U.setTop { g with pc := g.pc + 3, stack := v.toList ++ rest }) target → Steps p.tables e below (T.setTop g) target) ∨
    (∃ (q : Addr) (vm₁ : Vm) (B : Pt), s.WarmedH vm₁ ∧ Stand p l e R s m args below meth c B.U B.locs B.cells B.slots ∧ PostX ⟨T.setVm vm₁, locs, cells, slots⟩ (Value.ref b :: argsL).toArray q B ∧
      Steps p.tables e below (T.setTop g) ((B.U.setTop { g with stack := rest }).pushFrame (.throwing q))) := by
  obtain ⟨mk, methM, hnamed, hmethM, hstM, habM⟩ := Cond.instanceMethod_spec hinst
  obtain ⟨m8, methM', cM, hn8, hmethM', -, -, -, -, -, -, hsigM⟩ := Cond.codeWith_spec hcode
  cases Option.some.inj (hn8.symm.trans hnamed)
  cases hmethM.symm.trans hmethM'
  obtain ⟨c2, r2, m2, q1, q2, q3, q4, kP, hkP, hkPi⟩ := Cond.selects_spec hsel
  cases hcls.symm.trans q1
  cases (State.methodFound?_of_named hnamed hy).symm.trans q2
  cases hnamed.symm.trans q3
  have hselP : selectMethod e.platform s.vm cellB.cls mk = .method mk := by rw [Launch.admits_selectMethod X.admits]; exact q4
  obtain ⟨vm₁, X₁, hstep₁⟩ := X.invokevirtual hexec hown hlink hnamed hmethM hstM hkP hkPi hy (a := b) (cell := cellB) hcell
    (fun z h => by rw [h] at hobj; cases hobj) hselP hmethM habM hkP hkPi (g := g) hg (argsL := argsL) (rest := rest) (hlen _ hsigM) hstack hdg
  rcases hK m meth c ⟨T.setVm vm₁, locs, cells, slots⟩ { g with stack := rest } (.invokevirtual index) mk (Value.ref b :: argsL).toArray X₁ hg hsize hdg hW (X₁.named hnamed) (hpre vm₁ X₁.warmed) with ⟨v, B, X', hpost, hsteps⟩ | ⟨q, B, X', hpost, hsteps⟩
  · exact Or.inl ⟨v, vm₁, B, X₁.warmed, X', hpost, fun target h => hstep₁ _ fun acts => by rw [doInvoke_state]; exact hsteps.trans h⟩
  · exact Or.inr ⟨q, vm₁, B, X₁.warmed, X', hpost, hstep₁ _ fun acts => by rw [doInvoke_state]; exact hsteps⟩
theorem vx_callSX (X : Stand p l e R s m args below meth c T locs cells slots) (hexec : p.tables.exec = Jvm.exec) {own : String} {index : Nat} {y : MethodName} {bytes : ByteArray} {maxL : Nat} {ret : Option FieldType} {hh : List (Nat × Nat × Nat × Nat)}
    (hown : s.vm.findClass own = some m.cls) (hlink : (Cond.methodLink own index y).before args s = true) (hstat : (Cond.static y).before args s = true) (hinit : (Cond.initialized y.cls).before args s = true)
    (hcode : (Cond.codeWith y bytes maxL ret hh).before args s = true) (hy : y.cls ≠ "java/lang/invoke/MethodHandle" ∧ y.cls ≠ "java/lang/invoke/VarHandle")
    {W9 : Nat} {Pre : Pt → Array Value → Prop} {Post : Pt → Array Value → Option Value → Pt → Prop} {PostX : Pt → Array Value → Addr → Pt → Prop} (hK : vx_Back l R p e below s args y 3 W9 Pre Post PostX)
    {g : JFrame} (hg : g.method = m) (hsize : g.locals.size = c.maxLocals) {argsL rest : List Value} (hlen : ∀ sig, parseMethodDescriptor y.desc = some sig → argsL.length = sig.parameters.length)
    (hstack : g.stack = argsL.reverse ++ rest) (hW : 2 * g.monitorRoom + (rest.map fun v => v.category).sum ≤ W9) (hdg : decode c.code g.pc = .ok (.invokestatic index, 3))
    (hpre : ∀ vm₁, s.WarmedH vm₁ → Pre ⟨T.setVm vm₁, locs, cells, slots⟩ argsL.toArray) :
    (∃ (v : Option Value) (vm₁ : Vm) (B : Pt), s.WarmedH vm₁ ∧ Stand p l e R s m args below meth c B.U B.locs B.cells B.slots ∧ Post ⟨T.setVm vm₁, locs, cells, slots⟩ argsL.toArray v B ∧
      ∀ target, Steps p.tables e below (B.U.setTop { g with pc := g.pc + 3, stack := v.toList ++ rest }) target → Steps p.tables e below (T.setTop g) target) ∨
    (∃ (q : Addr) (vm₁ : Vm) (B : Pt), s.WarmedH vm₁ ∧ Stand p l e R s m args below meth c B.U B.locs B.cells B.slots ∧ PostX ⟨T.setVm vm₁, locs, cells, slots⟩ argsL.toArray q B ∧
      Steps p.tables e below (T.setTop g) ((B.U.setTop { g with stack := rest }).pushFrame (.throwing q))) := by
  obtain ⟨mk, methM, cM, hnamed, hmethM, -, -, -, -, -, -, hsigM⟩ := Cond.codeWith_spec hcode
  have hstatic : methM.isStatic = true := Cond.static_spec hnamed hmethM hstat
  obtain ⟨kP, hkP, -⟩ := className_of_methodNamed hnamed
  have hinitP : kP.init = .initialized := Cond.initialized_spec (findClass_of_methodNamed hnamed) hkP hinit
  obtain ⟨vm₁, X₁, hstep₁⟩ := X.invokestatic hexec hown hlink hnamed hmethM hstatic hkP hinitP hy (g := g) hg (argsL := argsL) (rest := rest) (hlen _ hsigM) hstack hdg
  rcases hK m meth c ⟨T.setVm vm₁, locs, cells, slots⟩ { g with stack := rest } (.invokestatic index) mk argsL.toArray X₁ hg hsize hdg hW (X₁.named hnamed) (hpre vm₁ X₁.warmed) with ⟨v, B, X', hpost, hsteps⟩ | ⟨q, B, X', hpost, hsteps⟩
  · exact Or.inl ⟨v, vm₁, B, X₁.warmed, X', hpost, fun target h => hstep₁ _ fun acts => by rw [doInvoke_state]; exact hsteps.trans h⟩
  · exact Or.inr ⟨q, vm₁, B, X₁.warmed, X', hpost, hstep₁ _ fun acts => by rw [doInvoke_state]; exact hsteps⟩
theorem vx_callVW (X : Stand p l e R s m args below meth c T locs cells slots) (hexec : p.tables.exec = Jvm.exec) {own C : String} {index : Nat} {y : MethodName} {bytes : ByteArray} {maxL : Nat} {ret : Option FieldType} {hh : List (Nat × Nat × Nat × Nat)}
    (hown : s.vm.findClass own = some m.cls) (hlink : (Cond.methodLink own index y).before args s = true) (hinst : (Cond.instanceMethod y).before args s = true) (hsel : (Cond.selects C y y).before args s = true)
    (hcode : (Cond.codeWith y bytes maxL ret hh).before args s = true) (hy : y.cls ≠ "java/lang/invoke/MethodHandle" ∧ y.cls ≠ "java/lang/invoke/VarHandle")
    {W9 : Nat} {Pre : Pt → Array Value → Prop} {Post : Pt → Array Value → Option Value → Pt → Prop} (hK : Back l R p e below s args y 3 W9 Pre Post)
    {b : Addr} {cellB : Cell} (hcell : T.heap[b]? = some cellB) (hobj : cellB.vm.isStatics = false) (hcls : s.vm.findClass C = some cellB.cls)
    {g : JFrame} (hg : g.method = m) (hsize : g.locals.size = c.maxLocals) {argsL rest : List Value} (hlen : ∀ sig, parseMethodDescriptor y.desc = some sig → argsL.length = sig.parameters.length)
    (hstack : g.stack = argsL.reverse ++ .ref b :: rest) (hW : 2 * g.monitorRoom + (rest.map fun v => v.category).sum ≤ W9) (hdg : decode c.code g.pc = .ok (.invokevirtual index, 3))
    (hpre : ∀ vm₁, s.WarmedH vm₁ → Pre ⟨T.setVm vm₁, locs, cells, slots⟩ (Value.ref b :: argsL).toArray) :
    ∃ (v : Option Value) (vm₁ : Vm) (B : Pt), s.WarmedH vm₁ ∧ Stand p l e R s m args below meth c B.U B.locs B.cells B.slots ∧ Post ⟨T.setVm vm₁, locs, cells, slots⟩ (Value.ref b :: argsL).toArray v B ∧
      ∀ target, Steps p.tables e below (B.U.setTop { g with pc := g.pc + 3, stack := v.toList ++ rest }) target → Steps p.tables e below (T.setTop g) target := by
  obtain ⟨mk, methM, hnamed, hmethM, hstM, habM⟩ := Cond.instanceMethod_spec hinst
  obtain ⟨m8, methM', cM, hn8, hmethM', -, -, -, -, -, -, hsigM⟩ := Cond.codeWith_spec hcode
  cases Option.some.inj (hn8.symm.trans hnamed)
  cases hmethM.symm.trans hmethM'
  obtain ⟨c2, r2, m2, q1, q2, q3, q4, kP, hkP, hkPi⟩ := Cond.selects_spec hsel
  cases hcls.symm.trans q1
  cases (State.methodFound?_of_named hnamed hy).symm.trans q2
  cases hnamed.symm.trans q3
  have hselP : selectMethod e.platform s.vm cellB.cls mk = .method mk := by rw [Launch.admits_selectMethod X.admits]; exact q4
  obtain ⟨vm₁, X₁, hstep₁⟩ := X.invokevirtual hexec hown hlink hnamed hmethM hstM hkP hkPi hy (a := b) (cell := cellB) hcell
    (fun z h => by rw [h] at hobj; cases hobj) hselP hmethM habM hkP hkPi (g := g) hg (argsL := argsL) (rest := rest) (hlen _ hsigM) hstack hdg
  obtain ⟨v, B, X', hpost, hsteps⟩ := hK m meth c ⟨T.setVm vm₁, locs, cells, slots⟩ { g with stack := rest } (.invokevirtual index) mk (Value.ref b :: argsL).toArray X₁ hg hsize hdg hW (X₁.named hnamed) (hpre vm₁ X₁.warmed)
  exact ⟨v, vm₁, B, X₁.warmed, X', hpost, fun target h => hstep₁ _ fun acts => by rw [doInvoke_state]; exact hsteps.trans h⟩
abbrev vx_CVW (R : Room) (s : State) (args : Array Value) (own C : String) (index : Nat) (y : MethodName) (bytes : ByteArray) (maxL : Nat) (ret : Option FieldType) (hh : List (Nat × Nat × Nat × Nat)) (ws : List Cond) (rm : Room) (mc ms n : Nat) : Prop :=
  (rm.cells = mc ∧ rm.slots = ms ∧ rm.frames + 1 ≤ R.frames ∧ 8 + (maxL + 11) + rm.locals ≤ R.locals ∧ (∀ w ∈ ws, ∀ (a' : Array Value) (U : State), s.WarmedH U.vm → w.before a' U = true) ∧ Cond.codeWith y bytes maxL ret hh ∈ ws) ∧
  (Cond.codeWith y bytes maxL ret hh).before args s = true ∧ (Cond.initialized y.cls).before args s = true ∧ (y.cls ≠ "java/lang/invoke/MethodHandle" ∧ y.cls ≠ "java/lang/invoke/VarHandle") ∧
  (∀ sig, parseMethodDescriptor y.desc = some sig → n = sig.parameters.length) ∧ (Cond.methodLink own index y).before args s = true ∧ (Cond.instanceMethod y).before args s = true ∧ (Cond.selects C y y).before args s = true
theorem vx_cwVW {own C : String} {index maxL mc ms : Nat} {y : MethodName} {bytes : ByteArray} {ret : Option FieldType} {hh : List (Nat × Nat × Nat × Nat)} {Ts ws ws' : List Cond} {rm : Room} (n : Nat) (ht : ∀ w ∈ Ts, w.before args s = true) (hT : GoodIn Ts (wsV own index C y ws)) (hw : ws = Cond.codeWith y bytes maxL ret hh :: ws') (hrc : rm.cells = mc) (hrs : rm.slots = ms)
    (hd : y.cls = C ∧ y.cls ≠ "java/lang/invoke/MethodHandle" ∧ y.cls ≠ "java/lang/invoke/VarHandle" ∧ (parseMethodDescriptor y.desc).map (fun d => d.parameters.length) = some n) (hR : rm.frames + 1 ≤ R.frames ∧ 8 + (maxL + 11) + rm.locals ≤ R.locals) :
    vx_CVW R s args own C index y bytes maxL ret hh ws rm mc ms n := by
  obtain ⟨hC, hd⟩ := hd
  subst hC
  have ok : ∀ w ∈ wsV own index y.cls y ws, w.before args s = true := fun w h => ht w (hT w h).1
  have hG : GoodIn Ts ws := fun w h => hT w (by unfold wsV; exact List.mem_append_right _ h)
  have hc : Cond.codeWith y bytes maxL ret hh ∈ ws := by rw [hw]; exact List.mem_cons_self
  refine ⟨⟨hrc, hrs, hR.1, hR.2, pay_in ht hG, hc⟩, ht _ (hG _ hc).1, ok _ (by simp [wsV]), ⟨hd.1, hd.2.1⟩, fun sig h => ?_, ok _ (by simp [wsV]), ok _ (by simp [wsV]), ok _ (by simp [wsV])⟩
  have h2 := hd.2.2
  rw [h] at h2
  exact (Option.some.inj h2).symm
theorem vx_runVW {y : MethodName} {bytes cc : ByteArray} {maxL nL mc ms n index : Nat} {ret : Option FieldType} {hh : List (Nat × Nat × Nat × Nat)} {ws : List Cond} {rm : Room} {Pc : Array Value → State → Prop} {Qc : Array Value → State → Outcome → State → Prop} {free : Addr → Prop} {Ts : List Cond} {own C : String} {b : Addr} {As rest : List Value} {g : JFrame}
    (S : CallFix p m c cc nL s args Ts own) (hM : Met l y ws rm Pc Qc mc ms free) (cw : vx_CVW R s args own C index y bytes maxL ret hh ws rm mc ms n) (hp : PreV s H C b Pc As)
    (hg : g.method = m) (hn : As.length = n) (hsize : g.locals.size = nL) (hstack : g.stack = As.reverse ++ .ref b :: rest) (hW : 2 * g.monitorRoom + (rest.map fun v => v.category).sum ≤ 8) (hdg : decode cc g.pc = .ok (.invokevirtual index, 3)) (hf : cells + mc ≤ R.cells ∧ slots + ms ≤ R.slots) :
    va_Run p l e R s m args below meth c H locs cells slots mc ms g rest (Qc (Value.ref b :: As).toArray) free := by
  obtain ⟨⟨hrc, hrs, hfr, hlo, hws, hcw⟩, hcode, hini, hy, hlen, hl, hin, hse⟩ := cw
  have hK : Back l R p e below s args y 3 8 (PreOf R mc ms Pc) (PostOf Qc mc ms free) := va_backW (hh := hh) (bytes := bytes) (maxL := maxL) (ret := ret) hM hp.1 hrc hrs hfr hlo hws hcw (fun a' U hW => word_at hW (Or.inl (by first | rfl | simp [Cond.onTables, Cond.keeps, Cond.steady])) hini)
  obtain ⟨hx, hb, hml, ho, -⟩ := S
  obtain ⟨-, ⟨cellB, hcB, hoB, hclB⟩, hPc⟩ := hp
  intro T hT X
  obtain ⟨v, vm₁, ⟨U', l2, c2, s2⟩, hW₁, X', ⟨g', mk, t, L, e1, e2, hq, h1, hL, h2, h3⟩, st⟩ := vx_callVW X hx (C := C) (hh := hh) (bytes := bytes) (maxL := maxL) (ret := ret) ho hl hin hse hcode hy hK (by rw [hT]; exact hcB) hoB hclB hg (hsize.trans hml.symm) (argsL := As) (rest := rest) (fun sig h => hn.trans (hlen sig h)) hstack hW (by rw [hb]; exact hdg)
    (fun vm₁ hW₁ => ⟨hf.1, hf.2, hPc (T.setVm vm₁) hT hW₁⟩)
  dsimp only [Pt.U, Pt.locs, Pt.cells, Pt.slots] at X' e1 e2 h1 h2 h3 st
  subst h1; subst h2; subst h3
  exact ⟨v, (T.setVm vm₁).calling g' mk (Value.ref b :: As).toArray, t, U', L, hT, X', hL, e1, e2, hq, st⟩
section
variable {y : MethodName} {bytes cc : ByteArray} {maxL nL mc ms n index : Nat} {ret : Option FieldType} {ws : List Cond} {rm : Room} {Pc : Array Value → State → Prop} {Qc : Array Value → State → Outcome → State → Prop} {XC : String → State → State → Prop} {free : Addr → Prop} {Ts : List Cond} {own C : String} {b : Addr} {As rest : List Value} {g : JFrame}
theorem vx_runVX {hh : List (Nat × Nat × Nat × Nat)} (S : CallFix p m c cc nL s args Ts own) (hM : vx_Met l y ws rm Pc Qc XC mc ms free) (cw : vx_CVW R s args own C index y bytes maxL ret hh ws rm mc ms n) (hp : PreV s H C b Pc As)
    (hg : g.method = m) (hn : As.length = n) (hsize : g.locals.size = nL) (hstack : g.stack = As.reverse ++ .ref b :: rest) (hW : 2 * g.monitorRoom + (rest.map fun v => v.category).sum ≤ 8) (hdg : decode cc g.pc = .ok (.invokevirtual index, 3)) (hf : cells + mc ≤ R.cells ∧ slots + ms ≤ R.slots) :
    vx_Run p l e R s m args below meth c H locs cells slots mc ms g rest (Qc (Value.ref b :: As).toArray) XC free := by
  obtain ⟨⟨hrc, hrs, hfr, hlo, hws, hcw⟩, hcode, hini, hy, hlen, hl, hin, hse⟩ := cw
  have hK : vx_Back l R p e below s args y 3 8 (PreOf R mc ms Pc) (PostOf Qc mc ms free) (vx_Post XC mc ms free) := vx_backW (hh := hh) (bytes := bytes) (maxL := maxL) (ret := ret) hM hp.1 hrc hrs hfr hlo hws hcw (fun a' U hW => word_at hW (Or.inl (by first | rfl | simp [Cond.onTables, Cond.keeps, Cond.steady])) hini)
  obtain ⟨hx, hb, hml, ho, -⟩ := S
  obtain ⟨-, ⟨cellB, hcB, hoB, hclB⟩, hPc⟩ := hp
  intro T hT X
  rcases vx_callVX X hx (C := C) (hh := hh) (bytes := bytes) (maxL := maxL) (ret := ret) ho hl hin hse hcode hy hK (by rw [hT]; exact hcB) hoB hclB hg (hsize.trans hml.symm) (argsL := As) (rest := rest) (fun sig h => hn.trans (hlen sig h)) hstack hW (by rw [hb]; exact hdg)
    (fun vm₁ hW₁ => ⟨hf.1, hf.2, hPc (T.setVm vm₁) hT hW₁⟩) with ⟨v, vm₁, ⟨U', l2, c2, s2⟩, hW₁, X', ⟨g', mk, t, L, e1, e2, hq, h1, hL, h2, h3⟩, st⟩ | ⟨q, vm₁, ⟨U', l2, c2, s2⟩, hW₁, X', ⟨g', mk, t, L, E, ce, e1, e2, hq, hce, hcv, hcl, h1, hL, h2, h3⟩, st⟩
  · dsimp only [Pt.U, Pt.locs, Pt.cells, Pt.slots] at X' e1 e2 h1 h2 h3 st
    subst h1; subst h2; subst h3
    exact Or.inl ⟨v, (T.setVm vm₁).calling g' mk (Value.ref b :: As).toArray, t, U', L, hT, X', hL, e1, e2, hq, st⟩
  · dsimp only [Pt.U, Pt.locs, Pt.cells, Pt.slots] at X' e1 e2 h1 h2 h3 st hcl
    subst h1; subst h2; subst h3
    exact Or.inr ⟨q, (T.setVm vm₁).calling g' mk (Value.ref b :: As).toArray, t, U', L, E, ce, hT, X', hL, e1, e2, hq, hce, hcv, vx_cls hW₁ hcl, st⟩
theorem vx_runSX {hh : List (Nat × Nat × Nat × Nat)} (S : CallFix p m c cc nL s args Ts own) (hM : vx_Met l y ws rm Pc Qc XC mc ms free) (cw : vx_CSW R s args own index y bytes maxL ret hh ws rm mc ms n) (hp : PreS s H Pc As)
    (hg : g.method = m) (hn : As.length = n) (hsize : g.locals.size = nL) (hstack : g.stack = As.reverse ++ rest) (hW : 2 * g.monitorRoom + (rest.map fun v => v.category).sum ≤ 8) (hdg : decode cc g.pc = .ok (.invokestatic index, 3)) (hf : cells + mc ≤ R.cells ∧ slots + ms ≤ R.slots) :
    vx_Run p l e R s m args below meth c H locs cells slots mc ms g rest (Qc As.toArray) XC free := by
  obtain ⟨⟨hrc, hrs, hfr, hlo, hws, hcw⟩, hcode, hini, hy, hlen, hl, hstt⟩ := cw
  have hK : vx_Back l R p e below s args y 3 8 (PreOf R mc ms Pc) (PostOf Qc mc ms free) (vx_Post XC mc ms free) := vx_backW (hh := hh) (bytes := bytes) (maxL := maxL) (ret := ret) hM hp.1 hrc hrs hfr hlo hws hcw (fun a' U hW => word_at hW (Or.inl (by first | rfl | simp [Cond.onTables, Cond.keeps, Cond.steady])) hini)
  obtain ⟨hx, hb, hml, ho, -⟩ := S
  intro T hT X
  rcases vx_callSX X hx (hh := hh) (bytes := bytes) (maxL := maxL) (ret := ret) ho hl hstt hini hcode hy hK hg (hsize.trans hml.symm) (argsL := As) (rest := rest) (fun sig h => hn.trans (hlen sig h)) hstack hW (by rw [hb]; exact hdg)
    (fun vm₁ hW₁ => ⟨hf.1, hf.2, hp.2 (T.setVm vm₁) hT hW₁⟩) with ⟨v, vm₁, ⟨U', l2, c2, s2⟩, hW₁, X', ⟨g', mk, t, L, e1, e2, hq, h1, hL, h2, h3⟩, st⟩ | ⟨q, vm₁, ⟨U', l2, c2, s2⟩, hW₁, X', ⟨g', mk, t, L, E, ce, e1, e2, hq, hce, hcv, hcl, h1, hL, h2, h3⟩, st⟩
  · dsimp only [Pt.U, Pt.locs, Pt.cells, Pt.slots] at X' e1 e2 h1 h2 h3 st
    subst h1; subst h2; subst h3
    exact Or.inl ⟨v, (T.setVm vm₁).calling g' mk As.toArray, t, U', L, hT, X', hL, e1, e2, hq, st⟩
  · dsimp only [Pt.U, Pt.locs, Pt.cells, Pt.slots] at X' e1 e2 h1 h2 h3 st hcl
    subst h1; subst h2; subst h3
    exact Or.inr ⟨q, (T.setVm vm₁).calling g' mk As.toArray, t, U', L, E, ce, hT, X', hL, e1, e2, hq, hce, hcv, vx_cls hW₁ hcl, st⟩
end
end VXH
theorem vx_ofWH {l : Launch} {y : MethodName} {ws ws' : List Cond} {rm : Room} {Pc : Array Value → State → Prop} {Qc : Array Value → State → Outcome → State → Prop} {XC : String → State → State → Prop} {mc ms : Nat} {free : Addr → Prop} {cc : ByteArray} {maxL : Nat} {ret : Option FieldType} {hh : List (Nat × Nat × Nat × Nat)}
    (hy : plainName y.cls = true) (hw : ws = Cond.codeWith y cc maxL ret hh :: ws')
    (body : ∀ p e s m args below meth c s₁, BodyLoose p l y (headSpec ws rm) cc maxL ret e s m args below meth c s₁ → c.maxLocals = maxL → Pc args s →
      W p l e (headSpec ws rm).room s m args below meth c s.heap [] 0 0 (vx_MQ below Qc XC args s mc ms free) (entryFrame m args maxL)) : vx_Met l y ws rm Pc Qc XC mc ms free := by
  refine MetFree.of_bodyS (code := cc) (maxLocals := maxL) (ret := ret) hy ?_ ?_
  · intro args s m h hn
    obtain ⟨m9, meth, c, hn9, h1, h2, h3, h4, -, h5, h6, -⟩ := Cond.codeWith_spec (atoms_spec (ws := ws) h _ (by rw [hw]; exact List.mem_cons_self))
    cases hn.symm.trans hn9
    exact ⟨meth, c, h1, h2, h3, h4, h5, h6⟩
  · intro p e s m args below meth c s₁ B hml hP _
    have hh0 : s₁.heap = s.heap := by rw [B.state]; rfl
    obtain ⟨t, a1, o, b1, b2, b3⟩ := body p e s m args below meth c s₁ B hml hP s₁ hh0 (Stand.of_body B)
    exact ⟨t, o, a1, b1, b2, b3⟩
/-! ===== END ===== -/
end
section
/-! ===== BEGIN printed: names, fields, word lists, decode rows ===== -/
def RX0 : String := "RampJam$Search"
def TX0 : u_T := fun k => match k with
  | 0 => ("RampJam$Search", "yard", "LRampJam$Yard;", true)
  | 1 => ("RampJam$Search", "found", "[I", true)
  | 2 => ("RampJam$Search", "origins", "[I", true)
  | 3 => ("RampJam$Search", "moveCodes", "[I", true)
  | 4 => ("RampJam$Search", "slots", "[I", true)
  | 5 => ("RampJam$Search", "foundCount", "I", false)
  | 6 => ("RampJam$Search", "firstSolved", "I", false)
  | 7 => ("RampJam$Search", "solvedMoves", "I", false)
  | 8 => ("RampJam$Search", "solvedCells", "I", false)
  | _ => ("RampJam$Search", "solvedFirstMove", "I", false)
def tyX0 : Nat → FieldType := fun k => match k with
  | 0 => .object "RampJam$Yard"
  | 1 => .array .int
  | 2 => .array .int
  | 3 => .array .int
  | 4 => .array .int
  | 5 => .int
  | 6 => .int
  | 7 => .int
  | 8 => .int
  | _ => .int
abbrev wsX00 : List Cond := u_ws RX0 TX0 10
theorem nmX0 : ∀ a, a < 10 → ∀ b, b < 10 → a ≠ b → (TX0 a).2.1 ≠ (TX0 b).2.1 := by decide +kernel
theorem tyX0_ok : ∀ k, k < 10 → parseFieldDescriptor (TX0 k).2.2.1 = some (tyX0 k) := by decide +kernel
abbrev cX0_init : ByteArray := prog_2_method_1_code
def yX0_init : MethodName := ⟨RX0, "<init>", "(LRampJam$Yard;)V"⟩
abbrev cX0_count : ByteArray := prog_2_method_2_code
def yX0_count : MethodName := ⟨RX0, "count", "()I"⟩
abbrev cX0_lookFrom : ByteArray := prog_2_method_3_code
def yX0_lookFrom : MethodName := ⟨RX0, "lookFrom", "(I)V"⟩
abbrev cX0_movesToSolved : ByteArray := prog_2_method_4_code
def yX0_movesToSolved : MethodName := ⟨RX0, "movesToSolved", "()I"⟩
abbrev cX0_cellsToSolved : ByteArray := prog_2_method_5_code
def yX0_cellsToSolved : MethodName := ⟨RX0, "cellsToSolved", "()I"⟩
abbrev cX0_firstMoveToSolved : ByteArray := prog_2_method_6_code
def yX0_firstMoveToSolved : MethodName := ⟨RX0, "firstMoveToSolved", "()I"⟩
abbrev cX0_solvedPosition : ByteArray := prog_2_method_7_code
def yX0_solvedPosition : MethodName := ⟨RX0, "solvedPosition", "()I"⟩
abbrev cX0_findsAt : ByteArray := prog_2_method_8_code
def yX0_findsAt : MethodName := ⟨RX0, "findsAt", "(II)Z"⟩
abbrev cX0_traceWay : ByteArray := prog_2_method_9_code
def yX0_traceWay : MethodName := ⟨RX0, "traceWay", "()V"⟩
abbrev cX0_isFound : ByteArray := prog_2_method_10_code
def yX0_isFound : MethodName := ⟨RX0, "isFound", "(I)Z"⟩
abbrev cX0_addReachedFrom : ByteArray := prog_2_method_11_code
def yX0_addReachedFrom : MethodName := ⟨RX0, "addReachedFrom", "(I)V"⟩
abbrev cX0_addDriven : ByteArray := prog_2_method_12_code
def yX0_addDriven : MethodName := ⟨RX0, "addDriven", "(IIII)V"⟩
abbrev cX0_addIfNew : ByteArray := prog_2_method_13_code
def yX0_addIfNew : MethodName := ⟨RX0, "addIfNew", "(III)V"⟩
abbrev cX0_slotFor : ByteArray := prog_2_method_14_code
def yX0_slotFor : MethodName := ⟨RX0, "slotFor", "(I)I"⟩
abbrev cX0_codeOfMove : ByteArray := prog_2_method_15_code
def yX0_codeOfMove : MethodName := ⟨RX0, "codeOfMove", "(II)I"⟩
abbrev cX0_cellsOfMove : ByteArray := prog_2_method_16_code
def yX0_cellsOfMove : MethodName := ⟨RX0, "cellsOfMove", "(I)I"⟩
def RX1 : String := "RampJam$Yard"
def TX1 : u_T := fun k => match k with
  | 0 => ("RampJam$Yard", "sizes", "[I", true)
  | 1 => ("RampJam$Yard", "acrosses", "[Z", true)
  | 2 => ("RampJam$Yard", "lines", "[I", true)
  | 3 => ("RampJam$Yard", "shapes", "[J", true)
  | 4 => ("RampJam$Yard", "vehicleCount", "I", false)
  | _ => ("RampJam$Yard", "rampCell", "J", false)
def tyX1 : Nat → FieldType := fun k => match k with
  | 0 => .array .int
  | 1 => .array .boolean
  | 2 => .array .int
  | 3 => .array .long
  | 4 => .int
  | _ => .long
abbrev wsX10 : List Cond := u_ws RX1 TX1 6
theorem nmX1 : ∀ a, a < 6 → ∀ b, b < 6 → a ≠ b → (TX1 a).2.1 ≠ (TX1 b).2.1 := by decide +kernel
theorem tyX1_ok : ∀ k, k < 6 → parseFieldDescriptor (TX1 k).2.2.1 = some (tyX1 k) := by decide +kernel
abbrev cX1_init : ByteArray := prog_3_method_1_code
def yX1_init : MethodName := ⟨RX1, "<init>", "()V"⟩
abbrev cX1_count : ByteArray := prog_3_method_2_code
def yX1_count : MethodName := ⟨RX1, "count", "()I"⟩
abbrev cX1_has : ByteArray := prog_3_method_3_code
def yX1_has : MethodName := ⟨RX1, "has", "(I)Z"⟩
abbrev cX1_add : ByteArray := prog_3_method_4_code
def yX1_add : MethodName := ⟨RX1, "add", "(IZI)I"⟩
abbrev cX1_putRamp : ByteArray := prog_3_method_5_code
def yX1_putRamp : MethodName := ⟨RX1, "putRamp", "(J)V"⟩
abbrev cX1_isLorry : ByteArray := prog_3_method_6_code
def yX1_isLorry : MethodName := ⟨RX1, "isLorry", "(I)Z"⟩
abbrev cX1_standsAcross : ByteArray := prog_3_method_7_code
def yX1_standsAcross : MethodName := ⟨RX1, "standsAcross", "(I)Z"⟩
abbrev cX1_lineOf : ByteArray := prog_3_method_8_code
def yX1_lineOf : MethodName := ⟨RX1, "lineOf", "(I)I"⟩
abbrev cX1_barredTo : ByteArray := prog_3_method_9_code
def yX1_barredTo : MethodName := ⟨RX1, "barredTo", "(I)J"⟩
abbrev cX1_cellsIn : ByteArray := prog_3_method_10_code
def yX1_cellsIn : MethodName := ⟨RX1, "cellsIn", "(II)J"⟩
abbrev cX1_filledIn : ByteArray := prog_3_method_11_code
def yX1_filledIn : MethodName := ⟨RX1, "filledIn", "(I)J"⟩
abbrev cX1_vehicleOn : ByteArray := prog_3_method_12_code
def yX1_vehicleOn : MethodName := ⟨RX1, "vehicleOn", "(IJ)I"⟩
abbrev cX1_wayIn : ByteArray := prog_3_method_13_code
def yX1_wayIn : MethodName := ⟨RX1, "wayIn", "(IJII)I"⟩
def RX2 : String := "RampJam"
def TX2 : u_T := fun k => match k with
  | 0 => ("RampJam", "yard", "LRampJam$Yard;", true)
  | 1 => ("RampJam", "search", "LRampJam$Search;", true)
  | 2 => ("RampJam", "parkedPosition", "I", false)
  | 3 => ("RampJam", "position", "I", false)
  | 4 => ("RampJam", "moveCount", "I", false)
  | 5 => ("RampJam", "drivenCells", "I", false)
  | _ => ("RampJam", "isSearched", "Z", false)
def tyX2 : Nat → FieldType := fun k => match k with
  | 0 => .object "RampJam$Yard"
  | 1 => .object "RampJam$Search"
  | 2 => .int
  | 3 => .int
  | 4 => .int
  | 5 => .int
  | _ => .boolean
abbrev wsX20 : List Cond := u_ws RX2 TX2 7
theorem nmX2 : ∀ a, a < 7 → ∀ b, b < 7 → a ≠ b → (TX2 a).2.1 ≠ (TX2 b).2.1 := by decide +kernel
theorem tyX2_ok : ∀ k, k < 7 → parseFieldDescriptor (TX2 k).2.2.1 = some (tyX2 k) := by decide +kernel
abbrev cX2_init : ByteArray := prog_1_method_1_code
def yX2_init : MethodName := ⟨RX2, "<init>", "()V"⟩
abbrev cX2_park : ByteArray := prog_1_method_2_code
def yX2_park : MethodName := ⟨RX2, "park", "(IZII)I"⟩
abbrev cX2_ramp : ByteArray := prog_1_method_3_code
def yX2_ramp : MethodName := ⟨RX2, "ramp", "(II)V"⟩
abbrev cX2_drive : ByteArray := prog_1_method_4_code
def yX2_drive : MethodName := ⟨RX2, "drive", "(II)V"⟩
abbrev cX2_driveOn : ByteArray := prog_1_method_5_code
def yX2_driveOn : MethodName := ⟨RX2, "driveOn", "(IZ)I"⟩
abbrev cX2_restart : ByteArray := prog_1_method_6_code
def yX2_restart : MethodName := ⟨RX2, "restart", "()V"⟩
abbrev cX2_vehicles : ByteArray := prog_1_method_7_code
def yX2_vehicles : MethodName := ⟨RX2, "vehicles", "()I"⟩
abbrev cX2_rowOf : ByteArray := prog_1_method_8_code
def yX2_rowOf : MethodName := ⟨RX2, "rowOf", "(I)I"⟩
abbrev cX2_columnOf : ByteArray := prog_1_method_9_code
def yX2_columnOf : MethodName := ⟨RX2, "columnOf", "(I)I"⟩
abbrev cX2_at : ByteArray := prog_1_method_10_code
def yX2_at : MethodName := ⟨RX2, "at", "(II)I"⟩
abbrev cX2_freeWay : ByteArray := prog_1_method_11_code
def yX2_freeWay : MethodName := ⟨RX2, "freeWay", "(IZ)I"⟩
abbrev cX2_inTheWay : ByteArray := prog_1_method_12_code
def yX2_inTheWay : MethodName := ⟨RX2, "inTheWay", "()I"⟩
abbrev cX2_isSolved : ByteArray := prog_1_method_13_code
def yX2_isSolved : MethodName := ⟨RX2, "isSolved", "()Z"⟩
abbrev cX2_moves : ByteArray := prog_1_method_14_code
def yX2_moves : MethodName := ⟨RX2, "moves", "()I"⟩
abbrev cX2_driven : ByteArray := prog_1_method_15_code
def yX2_driven : MethodName := ⟨RX2, "driven", "()I"⟩
abbrev cX2_positions : ByteArray := prog_1_method_16_code
def yX2_positions : MethodName := ⟨RX2, "positions", "()I"⟩
abbrev cX2_fewestMoves : ByteArray := prog_1_method_17_code
def yX2_fewestMoves : MethodName := ⟨RX2, "fewestMoves", "()I"⟩
abbrev cX2_hint : ByteArray := prog_1_method_18_code
def yX2_hint : MethodName := ⟨RX2, "hint", "()I"⟩
abbrev cX2_solve : ByteArray := prog_1_method_19_code
def yX2_solve : MethodName := ⟨RX2, "solve", "()I"⟩
abbrev cX2_canReach : ByteArray := prog_1_method_20_code
def yX2_canReach : MethodName := ⟨RX2, "canReach", "(II)Z"⟩
abbrev cX2_wayNow : ByteArray := prog_1_method_21_code
def yX2_wayNow : MethodName := ⟨RX2, "wayNow", "(IZ)I"⟩
abbrev cX2_makeMove : ByteArray := prog_1_method_22_code
def yX2_makeMove : MethodName := ⟨RX2, "makeMove", "(II)V"⟩
abbrev cX2_standAt : ByteArray := prog_1_method_23_code
def yX2_standAt : MethodName := ⟨RX2, "standAt", "(I)V"⟩
abbrev cX2_searchFromNow : ByteArray := prog_1_method_24_code
def yX2_searchFromNow : MethodName := ⟨RX2, "searchFromNow", "()V"⟩
abbrev cX2_isInYard : ByteArray := prog_1_method_25_code
def yX2_isInYard : MethodName := ⟨RX2, "isInYard", "(II)Z"⟩
abbrev cX2_cellOf : ByteArray := prog_1_method_26_code
def yX2_cellOf : MethodName := ⟨RX2, "cellOf", "(II)J"⟩
abbrev cX2_cellsOf : ByteArray := prog_1_method_27_code
def yX2_cellsOf : MethodName := ⟨RX2, "cellsOf", "(IZII)J"⟩
abbrev cX2_placeIn : ByteArray := prog_1_method_28_code
def yX2_placeIn : MethodName := ⟨RX2, "placeIn", "(II)I"⟩
abbrev cX2_moved : ByteArray := prog_1_method_29_code
def yX2_moved : MethodName := ⟨RX2, "moved", "(III)I"⟩
def RX3 : String := "RampJamModel"
def TX3 : u_T := fun k => match k with
  | 0 => ("RampJamModel", "cellsOf", "[I", true)
  | 1 => ("RampJamModel", "isAcross", "[I", true)
  | 2 => ("RampJamModel", "lineOf", "[I", true)
  | 3 => ("RampJamModel", "place", "[I", true)
  | 4 => ("RampJamModel", "parked", "[I", true)
  | 5 => ("RampJamModel", "many", "I", false)
  | 6 => ("RampJamModel", "rampAt", "I", false)
  | 7 => ("RampJamModel", "moves", "I", false)
  | 8 => ("RampJamModel", "driven", "I", false)
  | 9 => ("RampJamModel", "thrown", "I", false)
  | 10 => ("RampJamModel", "yard", "[I", true)
  | 11 => ("RampJamModel", "found", "[I", true)
  | 12 => ("RampJamModel", "from", "[I", true)
  | 13 => ("RampJamModel", "by", "[I", true)
  | 14 => ("RampJamModel", "depth", "[I", true)
  | 15 => ("RampJamModel", "slots", "[I", true)
  | 16 => ("RampJamModel", "kept", "[I", true)
  | 17 => ("RampJamModel", "foundMany", "I", false)
  | _ => ("RampJamModel", "firstFree", "I", false)
def tyX3 : Nat → FieldType := fun k => match k with
  | 0 => .array .int
  | 1 => .array .int
  | 2 => .array .int
  | 3 => .array .int
  | 4 => .array .int
  | 5 => .int
  | 6 => .int
  | 7 => .int
  | 8 => .int
  | 9 => .int
  | 10 => .array .int
  | 11 => .array .int
  | 12 => .array .int
  | 13 => .array .int
  | 14 => .array .int
  | 15 => .array .int
  | 16 => .array .int
  | 17 => .int
  | _ => .int
abbrev wsX30 : List Cond := u_ws RX3 TX3 19
theorem nmX3 : ∀ a, a < 19 → ∀ b, b < 19 → a ≠ b → (TX3 a).2.1 ≠ (TX3 b).2.1 := by decide +kernel
theorem tyX3_ok : ∀ k, k < 19 → parseFieldDescriptor (TX3 k).2.2.1 = some (tyX3 k) := by decide +kernel
abbrev cX3_init : ByteArray := prog_5_method_1_code
def yX3_init : MethodName := ⟨RX3, "<init>", "()V"⟩
abbrev cX3_thrown : ByteArray := prog_5_method_2_code
def yX3_thrown : MethodName := ⟨RX3, "thrown", "()I"⟩
abbrev cX3_isLine : ByteArray := prog_5_method_3_code
def yX3_isLine : MethodName := ⟨RX3, "isLine", "(I)Z"⟩
abbrev cX3_isVehicle : ByteArray := prog_5_method_4_code
def yX3_isVehicle : MethodName := ⟨RX3, "isVehicle", "(I)Z"⟩
abbrev cX3_cell : ByteArray := prog_5_method_5_code
def yX3_cell : MethodName := ⟨RX3, "cell", "(III)I"⟩
abbrev cX3_laysYard : ByteArray := prog_5_method_6_code
def yX3_laysYard : MethodName := ⟨RX3, "laysYard", "()V"⟩
abbrev cX3_isOpen : ByteArray := prog_5_method_7_code
def yX3_isOpen : MethodName := ⟨RX3, "isOpen", "(II)Z"⟩
abbrev cX3_way : ByteArray := prog_5_method_8_code
def yX3_way : MethodName := ⟨RX3, "way", "(IZ)I"⟩
abbrev cX3_park : ByteArray := prog_5_method_9_code
def yX3_park : MethodName := ⟨RX3, "park", "(IZII)I"⟩
abbrev cX3_ramp : ByteArray := prog_5_method_10_code
def yX3_ramp : MethodName := ⟨RX3, "ramp", "(II)V"⟩
abbrev cX3_goes : ByteArray := prog_5_method_11_code
def yX3_goes : MethodName := ⟨RX3, "goes", "(II)V"⟩
abbrev cX3_drive : ByteArray := prog_5_method_12_code
def yX3_drive : MethodName := ⟨RX3, "drive", "(II)V"⟩
abbrev cX3_driveOn : ByteArray := prog_5_method_13_code
def yX3_driveOn : MethodName := ⟨RX3, "driveOn", "(IZ)I"⟩
abbrev cX3_restart : ByteArray := prog_5_method_14_code
def yX3_restart : MethodName := ⟨RX3, "restart", "()V"⟩
abbrev cX3_vehicles : ByteArray := prog_5_method_15_code
def yX3_vehicles : MethodName := ⟨RX3, "vehicles", "()I"⟩
abbrev cX3_rowOf : ByteArray := prog_5_method_16_code
def yX3_rowOf : MethodName := ⟨RX3, "rowOf", "(I)I"⟩
abbrev cX3_columnOf : ByteArray := prog_5_method_17_code
def yX3_columnOf : MethodName := ⟨RX3, "columnOf", "(I)I"⟩
abbrev cX3_at : ByteArray := prog_5_method_18_code
def yX3_at : MethodName := ⟨RX3, "at", "(II)I"⟩
abbrev cX3_freeWay : ByteArray := prog_5_method_19_code
def yX3_freeWay : MethodName := ⟨RX3, "freeWay", "(IZ)I"⟩
abbrev cX3_inTheWay : ByteArray := prog_5_method_20_code
def yX3_inTheWay : MethodName := ⟨RX3, "inTheWay", "()I"⟩
abbrev cX3_isFree : ByteArray := prog_5_method_21_code
def yX3_isFree : MethodName := ⟨RX3, "isFree", "()Z"⟩
abbrev cX3_isSolved : ByteArray := prog_5_method_22_code
def yX3_isSolved : MethodName := ⟨RX3, "isSolved", "()Z"⟩
abbrev cX3_moves : ByteArray := prog_5_method_23_code
def yX3_moves : MethodName := ⟨RX3, "moves", "()I"⟩
abbrev cX3_driven : ByteArray := prog_5_method_24_code
def yX3_driven : MethodName := ⟨RX3, "driven", "()I"⟩
abbrev cX3_digit : ByteArray := prog_5_method_25_code
def yX3_digit : MethodName := ⟨RX3, "digit", "(II)I"⟩
abbrev cX3_positionNow : ByteArray := prog_5_method_26_code
def yX3_positionNow : MethodName := ⟨RX3, "positionNow", "()I"⟩
abbrev cX3_takes : ByteArray := prog_5_method_27_code
def yX3_takes : MethodName := ⟨RX3, "takes", "(II)V"⟩
abbrev cX3_tries : ByteArray := prog_5_method_28_code
def yX3_tries : MethodName := ⟨RX3, "tries", "(III)V"⟩
abbrev cX3_looks : ByteArray := prog_5_method_29_code
def yX3_looks : MethodName := ⟨RX3, "looks", "()V"⟩
abbrev cX3_positions : ByteArray := prog_5_method_30_code
def yX3_positions : MethodName := ⟨RX3, "positions", "()I"⟩
abbrev cX3_fewestMoves : ByteArray := prog_5_method_31_code
def yX3_fewestMoves : MethodName := ⟨RX3, "fewestMoves", "()I"⟩
abbrev cX3_firstMoveTo : ByteArray := prog_5_method_32_code
def yX3_firstMoveTo : MethodName := ⟨RX3, "firstMoveTo", "(I)I"⟩
abbrev cX3_hint : ByteArray := prog_5_method_33_code
def yX3_hint : MethodName := ⟨RX3, "hint", "()I"⟩
abbrev cX3_solve : ByteArray := prog_5_method_34_code
def yX3_solve : MethodName := ⟨RX3, "solve", "()I"⟩
abbrev cX3_canReach : ByteArray := prog_5_method_35_code
def yX3_canReach : MethodName := ⟨RX3, "canReach", "(II)Z"⟩
def RJx145de : String := "java/io/Serializable"
def TJx145de : u_T := fun k => match k with
  | _ => ("", "", "", false)
def tyJx145de : Nat → FieldType := fun k => match k with
  | _ => .int
abbrev wsJx145de0 : List Cond := u_ws RJx145de TJx145de 0
theorem nmJx145de : ∀ a, a < 0 → ∀ b, b < 0 → a ≠ b → (TJx145de a).2.1 ≠ (TJx145de b).2.1 := by decide +kernel
theorem tyJx145de_ok : ∀ k, k < 0 → parseFieldDescriptor (TJx145de k).2.2.1 = some (tyJx145de k) := by decide +kernel
def RJ9 : String := "java/lang/Math"
def TJ9 : u_T := fun k => match k with
  | _ => ("", "", "", false)
def tyJ9 : Nat → FieldType := fun k => match k with
  | _ => .int
abbrev wsJ90 : List Cond := u_ws RJ9 TJ9 0
theorem nmJ9 : ∀ a, a < 0 → ∀ b, b < 0 → a ≠ b → (TJ9 a).2.1 ≠ (TJ9 b).2.1 := by decide +kernel
theorem tyJ9_ok : ∀ k, k < 0 → parseFieldDescriptor (TJ9 k).2.2.1 = some (tyJ9 k) := by decide +kernel
abbrev cJ9_abs_0f7a4 : ByteArray := prog_10_method_59_code
def yJ9_abs_0f7a4 : MethodName := ⟨RJ9, "abs", "(I)I"⟩
def RJ0 : String := "java/lang/String"
def TJ0 : u_T := fun k => match k with
  | _ => ("", "", "", false)
def tyJ0 : Nat → FieldType := fun k => match k with
  | _ => .int
abbrev wsJ00 : List Cond := u_ws RJ0 TJ0 0
theorem nmJ0 : ∀ a, a < 0 → ∀ b, b < 0 → a ≠ b → (TJ0 a).2.1 ≠ (TJ0 b).2.1 := by decide +kernel
theorem tyJ0_ok : ∀ k, k < 0 → parseFieldDescriptor (TJ0 k).2.2.1 = some (tyJ0 k) := by decide +kernel
def RJ7 : String := "java/util/Arrays"
def TJ7 : u_T := fun k => match k with
  | _ => ("", "", "", false)
def tyJ7 : Nat → FieldType := fun k => match k with
  | _ => .int
abbrev wsJ70 : List Cond := u_ws RJ7 TJ7 0
theorem nmJ7 : ∀ a, a < 0 → ∀ b, b < 0 → a ≠ b → (TJ7 a).2.1 ≠ (TJ7 b).2.1 := by decide +kernel
theorem tyJ7_ok : ∀ k, k < 0 → parseFieldDescriptor (TJ7 k).2.2.1 = some (tyJ7 k) := by decide +kernel
abbrev cJ7_fill_53178 : ByteArray := prog_14_method_103_code
def yJ7_fill_53178 : MethodName := ⟨RJ7, "fill", "([II)V"⟩
def RL : String := "RampJamLaw"
abbrev cL_park : ByteArray := method_3_code
def yL_park : MethodName := ⟨RL, "park", "(LRampJam;IZII[J)I"⟩
abbrev cL_ramp : ByteArray := method_4_code
def yL_ramp : MethodName := ⟨RL, "ramp", "(LRampJam;II)I"⟩
abbrev cL_drive : ByteArray := method_5_code
def yL_drive : MethodName := ⟨RL, "drive", "(LRampJam;II)I"⟩
abbrev cL_driveOn : ByteArray := method_6_code
def yL_driveOn : MethodName := ⟨RL, "driveOn", "(LRampJam;IZ[J)I"⟩
abbrev cL_rowOf : ByteArray := method_7_code
def yL_rowOf : MethodName := ⟨RL, "rowOf", "(LRampJam;I[J)I"⟩
abbrev cL_columnOf : ByteArray := method_8_code
def yL_columnOf : MethodName := ⟨RL, "columnOf", "(LRampJam;I[J)I"⟩
abbrev cL_at : ByteArray := method_9_code
def yL_at : MethodName := ⟨RL, "at", "(LRampJam;II[J)I"⟩
abbrev cL_freeWay : ByteArray := method_10_code
def yL_freeWay : MethodName := ⟨RL, "freeWay", "(LRampJam;IZ[J)I"⟩
abbrev cL_canReach : ByteArray := method_11_code
def yL_canReach : MethodName := ⟨RL, "canReach", "(LRampJam;II[J)I"⟩
abbrev cL_law : ByteArray := code
def yL_law : MethodName := ⟨RL, "law", "([I)Z"⟩
def wsX0_init : List Cond := .code yX0_init cX0_init 2 none :: ([.methodLink RX0 3 objectInit, .instanceMethod objectInit, .code objectInit ⟨#[0xb1]⟩ 1 none, .arrayClass .int, .fieldLink RX0 9 "RampJam$Search" "found" "[I", .fieldLink RX0 15 "RampJam$Search" "origins" "[I", .fieldLink RX0 18 "RampJam$Search" "moveCodes" "[I", .fieldLink RX0 21 "RampJam$Search" "slots" "[I", .fieldLink RX0 24 "RampJam$Search" "yard" "LRampJam$Yard;"] ++ wsX00)
def wsX0_count : List Cond := .code yX0_count cX0_count 1 (some .int) :: ([.fieldLink RX0 28 "RampJam$Search" "foundCount" "I"] ++ wsX00)
def wsJ7_fill_53178 : List Cond := .code yJ7_fill_53178 cJ7_fill_53178 4 none :: ([])
def wsX0_slotFor : List Cond := .code yX0_slotFor cX0_slotFor 6 (some .int) :: ([.constant RX0 106 (-1640531535), .fieldLink RX0 21 "RampJam$Search" "slots" "[I", .fieldLink RX0 9 "RampJam$Search" "found" "[I"] ++ wsX00)
def wsX2_placeIn : List Cond := .code yX2_placeIn cX2_placeIn 2 (some .int) :: ([])
def wsX0_addIfNew : List Cond := .code yX0_addIfNew cX0_addIfNew 6 none :: ([.fieldLink RX0 28 "RampJam$Search" "foundCount" "I", .fieldLink RX0 21 "RampJam$Search" "slots" "[I", .fieldLink RX0 9 "RampJam$Search" "found" "[I", .fieldLink RX0 15 "RampJam$Search" "origins" "[I", .fieldLink RX0 18 "RampJam$Search" "moveCodes" "[I", .fieldLink RX0 38 "RampJam$Search" "firstSolved" "I", .methodLink RX0 103 yX0_slotFor, .instanceMethod yX0_slotFor, .selects RX0 yX0_slotFor yX0_slotFor, .initialized RX0, .code yX0_slotFor cX0_slotFor 6 (some .int), .constant RX0 106 (-1640531535), .static yX2_placeIn, .initialized RX2, .code yX2_placeIn cX2_placeIn 2 (some .int)] ++ wsX00)
def wsX0_isFound : List Cond := .code yX0_isFound cX0_isFound 2 (some .boolean) :: ([.fieldLink RX0 28 "RampJam$Search" "foundCount" "I"] ++ wsX00)
def wsX1_has : List Cond := .code yX1_has cX1_has 2 (some .boolean) :: ([.fieldLink RX1 26 "RampJam$Yard" "vehicleCount" "I"] ++ wsX10)
def wsX1_cellsIn : List Cond := .code yX1_cellsIn cX1_cellsIn 4 (some .long) :: ([.fieldLink RX1 15 "RampJam$Yard" "acrosses" "[Z", .fieldLink RX1 22 "RampJam$Yard" "shapes" "[J", .methodLink RX1 38 yX1_has, .instanceMethod yX1_has, .selects RX1 yX1_has yX1_has, .initialized RX1, .code yX1_has cX1_has 2 (some .boolean), .fieldLink RX1 26 "RampJam$Yard" "vehicleCount" "I", .static yX2_placeIn, .initialized RX2, .code yX2_placeIn cX2_placeIn 2 (some .int)] ++ wsX10)
def wsX1_filledIn : List Cond := .code yX1_filledIn cX1_filledIn 5 (some .long) :: ([.fieldLink RX1 26 "RampJam$Yard" "vehicleCount" "I", .methodLink RX1 46 yX1_cellsIn, .instanceMethod yX1_cellsIn, .selects RX1 yX1_cellsIn yX1_cellsIn, .initialized RX1, .code yX1_cellsIn cX1_cellsIn 4 (some .long), .fieldLink RX1 15 "RampJam$Yard" "acrosses" "[Z", .fieldLink RX1 22 "RampJam$Yard" "shapes" "[J", .methodLink RX1 38 yX1_has, .instanceMethod yX1_has, .selects RX1 yX1_has yX1_has, .code yX1_has cX1_has 2 (some .boolean), .static yX2_placeIn, .initialized RX2, .code yX2_placeIn cX2_placeIn 2 (some .int)] ++ wsX10)
def wsX1_count : List Cond := .code yX1_count cX1_count 1 (some .int) :: ([.fieldLink RX1 26 "RampJam$Yard" "vehicleCount" "I"] ++ wsX10)
def wsX1_barredTo : List Cond := .code yX1_barredTo cX1_barredTo 2 (some .long) :: ([.fieldLink RX1 34 "RampJam$Yard" "rampCell" "J"] ++ wsX10)
def wsX1_wayIn : List Cond := .code yX1_wayIn cX1_wayIn 14 (some .int) :: ([.fieldLink RX1 9 "RampJam$Yard" "sizes" "[I", .fieldLink RX1 15 "RampJam$Yard" "acrosses" "[Z", .constantLong RX1 50 (-1), .methodLink RX1 38 yX1_has, .instanceMethod yX1_has, .selects RX1 yX1_has yX1_has, .initialized RX1, .code yX1_has cX1_has 2 (some .boolean), .fieldLink RX1 26 "RampJam$Yard" "vehicleCount" "I", .static yX2_placeIn, .initialized RX2, .code yX2_placeIn cX2_placeIn 2 (some .int), .methodLink RX1 46 yX1_cellsIn, .instanceMethod yX1_cellsIn, .selects RX1 yX1_cellsIn yX1_cellsIn, .code yX1_cellsIn cX1_cellsIn 4 (some .long), .fieldLink RX1 22 "RampJam$Yard" "shapes" "[J", .methodLink RX1 52 yX1_barredTo, .instanceMethod yX1_barredTo, .selects RX1 yX1_barredTo yX1_barredTo, .code yX1_barredTo cX1_barredTo 2 (some .long), .fieldLink RX1 34 "RampJam$Yard" "rampCell" "J"] ++ wsX10)
def wsX2_moved : List Cond := .code yX2_moved cX2_moved 3 (some .int) :: ([])
def wsX0_codeOfMove : List Cond := .code yX0_codeOfMove cX0_codeOfMove 2 (some .int) :: ([])
def wsX0_addDriven_r1 : List Cond := [Cond.fieldLink RX0 9 "RampJam$Search" "found" "[I", Cond.methodLink RX0 61 yX0_isFound, Cond.instanceMethod yX0_isFound, Cond.selects RX0 yX0_isFound yX0_isFound, Cond.initialized RX0, Cond.code yX0_isFound cX0_isFound 2 (some .boolean), Cond.fieldLink RX0 28 "RampJam$Search" "foundCount" "I", Cond.static yX2_moved, Cond.initialized RX2, Cond.code yX2_moved cX2_moved 3 (some .int), Cond.methodLink RX0 100 yX0_codeOfMove, Cond.static yX0_codeOfMove, Cond.code yX0_codeOfMove cX0_codeOfMove 2 (some .int), Cond.methodLink RX0 41 yX0_addIfNew, Cond.instanceMethod yX0_addIfNew, Cond.selects RX0 yX0_addIfNew yX0_addIfNew, Cond.code yX0_addIfNew cX0_addIfNew 6 none, Cond.fieldLink RX0 21 "RampJam$Search" "slots" "[I", Cond.fieldLink RX0 15 "RampJam$Search" "origins" "[I", Cond.fieldLink RX0 18 "RampJam$Search" "moveCodes" "[I", Cond.fieldLink RX0 38 "RampJam$Search" "firstSolved" "I", Cond.methodLink RX0 103 yX0_slotFor, Cond.instanceMethod yX0_slotFor, Cond.selects RX0 yX0_slotFor yX0_slotFor]
def wsX0_addDriven_r2 : List Cond := [Cond.code yX0_slotFor cX0_slotFor 6 (some .int), Cond.constant RX0 106 (-1640531535), Cond.static yX2_placeIn, Cond.code yX2_placeIn cX2_placeIn 2 (some .int)]
def wsX0_addDriven : List Cond := .code yX0_addDriven cX0_addDriven 7 none :: ((wsX0_addDriven_r1 ++ wsX0_addDriven_r2) ++ wsX00)
def wsX0_addReachedFrom_r1 : List Cond := [Cond.fieldLink RX0 9 "RampJam$Search" "found" "[I", Cond.fieldLink RX0 24 "RampJam$Search" "yard" "LRampJam$Yard;", Cond.methodLink RX0 61 yX0_isFound, Cond.instanceMethod yX0_isFound, Cond.selects RX0 yX0_isFound yX0_isFound, Cond.initialized RX0, Cond.code yX0_isFound cX0_isFound 2 (some .boolean), Cond.fieldLink RX0 28 "RampJam$Search" "foundCount" "I", Cond.methodLink RX0 78 yX1_filledIn, Cond.instanceMethod yX1_filledIn, Cond.selects RX1 yX1_filledIn yX1_filledIn, Cond.initialized RX1, Cond.code yX1_filledIn cX1_filledIn 5 (some .long), Cond.fieldLink RX1 26 "RampJam$Yard" "vehicleCount" "I", Cond.methodLink RX1 46 yX1_cellsIn, Cond.instanceMethod yX1_cellsIn, Cond.selects RX1 yX1_cellsIn yX1_cellsIn, Cond.code yX1_cellsIn cX1_cellsIn 4 (some .long), Cond.fieldLink RX1 15 "RampJam$Yard" "acrosses" "[Z", Cond.fieldLink RX1 22 "RampJam$Yard" "shapes" "[J", Cond.methodLink RX1 38 yX1_has, Cond.instanceMethod yX1_has, Cond.selects RX1 yX1_has yX1_has, Cond.code yX1_has cX1_has 2 (some .boolean)]
def wsX0_addReachedFrom_r2 : List Cond := [Cond.static yX2_placeIn, Cond.initialized RX2, Cond.code yX2_placeIn cX2_placeIn 2 (some .int), Cond.methodLink RX0 84 yX1_count, Cond.instanceMethod yX1_count, Cond.selects RX1 yX1_count yX1_count, Cond.code yX1_count cX1_count 1 (some .int), Cond.methodLink RX0 88 yX1_wayIn, Cond.instanceMethod yX1_wayIn, Cond.selects RX1 yX1_wayIn yX1_wayIn, Cond.code yX1_wayIn cX1_wayIn 14 (some .int), Cond.fieldLink RX1 9 "RampJam$Yard" "sizes" "[I", Cond.constantLong RX1 50 (-1), Cond.methodLink RX1 52 yX1_barredTo, Cond.instanceMethod yX1_barredTo, Cond.selects RX1 yX1_barredTo yX1_barredTo, Cond.code yX1_barredTo cX1_barredTo 2 (some .long), Cond.fieldLink RX1 34 "RampJam$Yard" "rampCell" "J", Cond.methodLink RX0 92 yX0_addDriven, Cond.instanceMethod yX0_addDriven, Cond.selects RX0 yX0_addDriven yX0_addDriven, Cond.code yX0_addDriven cX0_addDriven 7 none, Cond.static yX2_moved, Cond.code yX2_moved cX2_moved 3 (some .int)]
def wsX0_addReachedFrom_r3 : List Cond := [Cond.methodLink RX0 100 yX0_codeOfMove, Cond.static yX0_codeOfMove, Cond.code yX0_codeOfMove cX0_codeOfMove 2 (some .int), Cond.methodLink RX0 41 yX0_addIfNew, Cond.instanceMethod yX0_addIfNew, Cond.selects RX0 yX0_addIfNew yX0_addIfNew, Cond.code yX0_addIfNew cX0_addIfNew 6 none, Cond.fieldLink RX0 21 "RampJam$Search" "slots" "[I", Cond.fieldLink RX0 15 "RampJam$Search" "origins" "[I", Cond.fieldLink RX0 18 "RampJam$Search" "moveCodes" "[I", Cond.fieldLink RX0 38 "RampJam$Search" "firstSolved" "I", Cond.methodLink RX0 103 yX0_slotFor, Cond.instanceMethod yX0_slotFor, Cond.selects RX0 yX0_slotFor yX0_slotFor, Cond.code yX0_slotFor cX0_slotFor 6 (some .int), Cond.constant RX0 106 (-1640531535)]
def wsX0_addReachedFrom : List Cond := .code yX0_addReachedFrom cX0_addReachedFrom 6 none :: ((wsX0_addReachedFrom_r1 ++ (wsX0_addReachedFrom_r2 ++ wsX0_addReachedFrom_r3)) ++ wsX00 ++ wsX10)
def wsX0_cellsOfMove : List Cond := .code yX0_cellsOfMove cX0_cellsOfMove 1 (some .int) :: ([])
def wsX0_traceWay : List Cond := .code yX0_traceWay cX0_traceWay 3 none :: ([.fieldLink RX0 38 "RampJam$Search" "firstSolved" "I", .fieldLink RX0 52 "RampJam$Search" "solvedMoves" "I", .fieldLink RX0 55 "RampJam$Search" "solvedCells" "I", .fieldLink RX0 58 "RampJam$Search" "solvedFirstMove" "I", .fieldLink RX0 18 "RampJam$Search" "moveCodes" "[I", .methodLink RX0 73 Lib.Math.abs.name, .static Lib.Math.abs.name, .initialized "java/lang/Math", .code Lib.Math.abs.name Lib.Math.abs.code 1 (some .int), .fieldLink RX0 15 "RampJam$Search" "origins" "[I", .methodLink RX0 61 yX0_isFound, .instanceMethod yX0_isFound, .selects RX0 yX0_isFound yX0_isFound, .initialized RX0, .code yX0_isFound cX0_isFound 2 (some .boolean), .fieldLink RX0 28 "RampJam$Search" "foundCount" "I", .methodLink RX0 69 yX0_cellsOfMove, .static yX0_cellsOfMove, .code yX0_cellsOfMove cX0_cellsOfMove 1 (some .int)] ++ wsX00)
def wsX0_lookFrom_r1 : List Cond := [Cond.fieldLink RX0 21 "RampJam$Search" "slots" "[I", Cond.fieldLink RX0 28 "RampJam$Search" "foundCount" "I", Cond.fieldLink RX0 38 "RampJam$Search" "firstSolved" "I", Cond.methodLink RX0 32 yJ7_fill_53178, Cond.static yJ7_fill_53178, Cond.initialized RJ7, Cond.code yJ7_fill_53178 cJ7_fill_53178 4 none, Cond.methodLink RX0 41 yX0_addIfNew, Cond.instanceMethod yX0_addIfNew, Cond.selects RX0 yX0_addIfNew yX0_addIfNew, Cond.initialized RX0, Cond.code yX0_addIfNew cX0_addIfNew 6 none, Cond.fieldLink RX0 9 "RampJam$Search" "found" "[I", Cond.fieldLink RX0 15 "RampJam$Search" "origins" "[I", Cond.fieldLink RX0 18 "RampJam$Search" "moveCodes" "[I", Cond.methodLink RX0 103 yX0_slotFor, Cond.instanceMethod yX0_slotFor, Cond.selects RX0 yX0_slotFor yX0_slotFor, Cond.code yX0_slotFor cX0_slotFor 6 (some .int), Cond.constant RX0 106 (-1640531535), Cond.static yX2_placeIn, Cond.initialized RX2, Cond.code yX2_placeIn cX2_placeIn 2 (some .int), Cond.methodLink RX0 45 yX0_addReachedFrom]
def wsX0_lookFrom_r2 : List Cond := [Cond.instanceMethod yX0_addReachedFrom, Cond.selects RX0 yX0_addReachedFrom yX0_addReachedFrom, Cond.code yX0_addReachedFrom cX0_addReachedFrom 6 none, Cond.fieldLink RX0 24 "RampJam$Search" "yard" "LRampJam$Yard;", Cond.methodLink RX0 61 yX0_isFound, Cond.instanceMethod yX0_isFound, Cond.selects RX0 yX0_isFound yX0_isFound, Cond.code yX0_isFound cX0_isFound 2 (some .boolean), Cond.methodLink RX0 78 yX1_filledIn, Cond.instanceMethod yX1_filledIn, Cond.selects RX1 yX1_filledIn yX1_filledIn, Cond.initialized RX1, Cond.code yX1_filledIn cX1_filledIn 5 (some .long), Cond.fieldLink RX1 26 "RampJam$Yard" "vehicleCount" "I", Cond.methodLink RX1 46 yX1_cellsIn, Cond.instanceMethod yX1_cellsIn, Cond.selects RX1 yX1_cellsIn yX1_cellsIn, Cond.code yX1_cellsIn cX1_cellsIn 4 (some .long), Cond.fieldLink RX1 15 "RampJam$Yard" "acrosses" "[Z", Cond.fieldLink RX1 22 "RampJam$Yard" "shapes" "[J", Cond.methodLink RX1 38 yX1_has, Cond.instanceMethod yX1_has, Cond.selects RX1 yX1_has yX1_has, Cond.code yX1_has cX1_has 2 (some .boolean)]
def wsX0_lookFrom_r3 : List Cond := [Cond.methodLink RX0 84 yX1_count, Cond.instanceMethod yX1_count, Cond.selects RX1 yX1_count yX1_count, Cond.code yX1_count cX1_count 1 (some .int), Cond.methodLink RX0 88 yX1_wayIn, Cond.instanceMethod yX1_wayIn, Cond.selects RX1 yX1_wayIn yX1_wayIn, Cond.code yX1_wayIn cX1_wayIn 14 (some .int), Cond.fieldLink RX1 9 "RampJam$Yard" "sizes" "[I", Cond.constantLong RX1 50 (-1), Cond.methodLink RX1 52 yX1_barredTo, Cond.instanceMethod yX1_barredTo, Cond.selects RX1 yX1_barredTo yX1_barredTo, Cond.code yX1_barredTo cX1_barredTo 2 (some .long), Cond.fieldLink RX1 34 "RampJam$Yard" "rampCell" "J", Cond.methodLink RX0 92 yX0_addDriven, Cond.instanceMethod yX0_addDriven, Cond.selects RX0 yX0_addDriven yX0_addDriven, Cond.code yX0_addDriven cX0_addDriven 7 none, Cond.static yX2_moved, Cond.code yX2_moved cX2_moved 3 (some .int), Cond.methodLink RX0 100 yX0_codeOfMove, Cond.static yX0_codeOfMove, Cond.code yX0_codeOfMove cX0_codeOfMove 2 (some .int)]
def wsX0_lookFrom_r4 : List Cond := [Cond.methodLink RX0 49 yX0_traceWay, Cond.instanceMethod yX0_traceWay, Cond.selects RX0 yX0_traceWay yX0_traceWay, Cond.code yX0_traceWay cX0_traceWay 3 none, Cond.fieldLink RX0 52 "RampJam$Search" "solvedMoves" "I", Cond.fieldLink RX0 55 "RampJam$Search" "solvedCells" "I", Cond.fieldLink RX0 58 "RampJam$Search" "solvedFirstMove" "I", Cond.methodLink RX0 73 Lib.Math.abs.name, Cond.static Lib.Math.abs.name, Cond.initialized "java/lang/Math", Cond.code Lib.Math.abs.name Lib.Math.abs.code 1 (some .int), Cond.methodLink RX0 69 yX0_cellsOfMove, Cond.static yX0_cellsOfMove, Cond.code yX0_cellsOfMove cX0_cellsOfMove 1 (some .int)]
def wsX0_lookFrom : List Cond := .code yX0_lookFrom cX0_lookFrom 3 none :: ((wsX0_lookFrom_r1 ++ (wsX0_lookFrom_r2 ++ (wsX0_lookFrom_r3 ++ wsX0_lookFrom_r4))) ++ wsX00 ++ wsX10)
def wsX0_movesToSolved : List Cond := .code yX0_movesToSolved cX0_movesToSolved 1 (some .int) :: ([.fieldLink RX0 52 "RampJam$Search" "solvedMoves" "I"] ++ wsX00)
def wsX0_cellsToSolved : List Cond := .code yX0_cellsToSolved cX0_cellsToSolved 1 (some .int) :: ([.fieldLink RX0 55 "RampJam$Search" "solvedCells" "I"] ++ wsX00)
def wsX0_firstMoveToSolved : List Cond := .code yX0_firstMoveToSolved cX0_firstMoveToSolved 1 (some .int) :: ([.fieldLink RX0 58 "RampJam$Search" "solvedFirstMove" "I"] ++ wsX00)
def wsX0_solvedPosition : List Cond := .code yX0_solvedPosition cX0_solvedPosition 1 (some .int) :: ([.fieldLink RX0 38 "RampJam$Search" "firstSolved" "I", .fieldLink RX0 9 "RampJam$Search" "found" "[I", .methodLink RX0 61 yX0_isFound, .instanceMethod yX0_isFound, .selects RX0 yX0_isFound yX0_isFound, .initialized RX0, .code yX0_isFound cX0_isFound 2 (some .boolean), .fieldLink RX0 28 "RampJam$Search" "foundCount" "I"] ++ wsX00)
def wsX0_findsAt : List Cond := .code yX0_findsAt cX0_findsAt 4 (some .boolean) :: ([.fieldLink RX0 28 "RampJam$Search" "foundCount" "I", .fieldLink RX0 9 "RampJam$Search" "found" "[I", .static yX2_placeIn, .initialized RX2, .code yX2_placeIn cX2_placeIn 2 (some .int)] ++ wsX00)
def wsX1_init : List Cond := .code yX1_init cX1_init 1 none :: ([.methodLink RX1 3 objectInit, .instanceMethod objectInit, .code objectInit ⟨#[0xb1]⟩ 1 none, .arrayClass .int, .fieldLink RX1 9 "RampJam$Yard" "sizes" "[I", .arrayClass .boolean, .fieldLink RX1 15 "RampJam$Yard" "acrosses" "[Z", .fieldLink RX1 19 "RampJam$Yard" "lines" "[I", .arrayClass .long, .fieldLink RX1 22 "RampJam$Yard" "shapes" "[J"] ++ wsX10)
def wsX2_cellOf : List Cond := .code yX2_cellOf cX2_cellOf 2 (some .long) :: ([])
def wsX2_cellsOf : List Cond := .code yX2_cellsOf cX2_cellsOf 7 (some .long) :: ([.methodLink RX2 88 yX2_cellOf, .static yX2_cellOf, .initialized RX2, .code yX2_cellOf cX2_cellOf 2 (some .long)])
def wsX1_add : List Cond := .code yX1_add cX1_add 5 (some .int) :: ([.fieldLink RX1 26 "RampJam$Yard" "vehicleCount" "I", .fieldLink RX1 9 "RampJam$Yard" "sizes" "[I", .fieldLink RX1 15 "RampJam$Yard" "acrosses" "[Z", .fieldLink RX1 19 "RampJam$Yard" "lines" "[I", .fieldLink RX1 22 "RampJam$Yard" "shapes" "[J", .static yX2_cellsOf, .initialized RX2, .code yX2_cellsOf cX2_cellsOf 7 (some .long), .methodLink RX2 88 yX2_cellOf, .static yX2_cellOf, .code yX2_cellOf cX2_cellOf 2 (some .long)] ++ wsX10)
def wsX1_putRamp : List Cond := .code yX1_putRamp cX1_putRamp 3 none :: ([.fieldLink RX1 34 "RampJam$Yard" "rampCell" "J"] ++ wsX10)
def wsX1_isLorry : List Cond := .code yX1_isLorry cX1_isLorry 2 (some .boolean) :: ([.fieldLink RX1 9 "RampJam$Yard" "sizes" "[I", .methodLink RX1 38 yX1_has, .instanceMethod yX1_has, .selects RX1 yX1_has yX1_has, .initialized RX1, .code yX1_has cX1_has 2 (some .boolean), .fieldLink RX1 26 "RampJam$Yard" "vehicleCount" "I"] ++ wsX10)
def wsX1_standsAcross : List Cond := .code yX1_standsAcross cX1_standsAcross 2 (some .boolean) :: ([.fieldLink RX1 15 "RampJam$Yard" "acrosses" "[Z", .methodLink RX1 38 yX1_has, .instanceMethod yX1_has, .selects RX1 yX1_has yX1_has, .initialized RX1, .code yX1_has cX1_has 2 (some .boolean), .fieldLink RX1 26 "RampJam$Yard" "vehicleCount" "I"] ++ wsX10)
def wsX1_lineOf : List Cond := .code yX1_lineOf cX1_lineOf 2 (some .int) :: ([.fieldLink RX1 19 "RampJam$Yard" "lines" "[I", .methodLink RX1 38 yX1_has, .instanceMethod yX1_has, .selects RX1 yX1_has yX1_has, .initialized RX1, .code yX1_has cX1_has 2 (some .boolean), .fieldLink RX1 26 "RampJam$Yard" "vehicleCount" "I"] ++ wsX10)
def wsX1_vehicleOn : List Cond := .code yX1_vehicleOn cX1_vehicleOn 5 (some .int) :: ([.fieldLink RX1 26 "RampJam$Yard" "vehicleCount" "I", .methodLink RX1 46 yX1_cellsIn, .instanceMethod yX1_cellsIn, .selects RX1 yX1_cellsIn yX1_cellsIn, .initialized RX1, .code yX1_cellsIn cX1_cellsIn 4 (some .long), .fieldLink RX1 15 "RampJam$Yard" "acrosses" "[Z", .fieldLink RX1 22 "RampJam$Yard" "shapes" "[J", .methodLink RX1 38 yX1_has, .instanceMethod yX1_has, .selects RX1 yX1_has yX1_has, .code yX1_has cX1_has 2 (some .boolean), .static yX2_placeIn, .initialized RX2, .code yX2_placeIn cX2_placeIn 2 (some .int)] ++ wsX10)
def wsX2_init_r1 : List Cond := [Cond.methodLink RX2 1 objectInit, Cond.instanceMethod objectInit, Cond.code objectInit ⟨#[0xb1]⟩ 1 none, Cond.classLink RX2 7 RX1, Cond.instantiable RX1 6, Cond.initialized RX1, Cond.fieldLink RX2 10 "RampJam" "yard" "LRampJam$Yard;", Cond.classLink RX2 16 RX0, Cond.instantiable RX0 10, Cond.initialized RX0, Cond.fieldLink RX2 21 "RampJam" "search" "LRampJam$Search;", Cond.instanceMethod yX1_init, Cond.code yX1_init cX1_init 1 none, Cond.methodLink RX1 3 objectInit, Cond.arrayClass .int, Cond.fieldLink RX1 9 "RampJam$Yard" "sizes" "[I", Cond.arrayClass .boolean, Cond.fieldLink RX1 15 "RampJam$Yard" "acrosses" "[Z", Cond.fieldLink RX1 19 "RampJam$Yard" "lines" "[I", Cond.arrayClass .long, Cond.fieldLink RX1 22 "RampJam$Yard" "shapes" "[J", Cond.methodLink RX2 18 yX0_init, Cond.instanceMethod yX0_init, Cond.code yX0_init cX0_init 2 none]
def wsX2_init_r2 : List Cond := [Cond.methodLink RX0 3 objectInit, Cond.fieldLink RX0 9 "RampJam$Search" "found" "[I", Cond.fieldLink RX0 15 "RampJam$Search" "origins" "[I", Cond.fieldLink RX0 18 "RampJam$Search" "moveCodes" "[I", Cond.fieldLink RX0 21 "RampJam$Search" "slots" "[I", Cond.fieldLink RX0 24 "RampJam$Search" "yard" "LRampJam$Yard;"]
def wsX2_init : List Cond := .code yX2_init cX2_init 1 none :: ((wsX2_init_r1 ++ wsX2_init_r2) ++ wsX10 ++ wsX20 ++ wsX00)
def wsX2_isInYard : List Cond := .code yX2_isInYard cX2_isInYard 2 (some .boolean) :: ([])
def wsX2_standAt : List Cond := .code yX2_standAt cX2_standAt 2 none :: ([.fieldLink RX2 57 "RampJam" "position" "I", .fieldLink RX2 106 "RampJam" "isSearched" "Z"] ++ wsX20)
def wsX2_park_r1 : List Cond := [Cond.classLink RX2 29 "java/lang/IllegalArgumentException", Cond.initialized "java/lang/IllegalArgumentException", Cond.classLink RX2 48 "java/lang/IllegalStateException", Cond.initialized "java/lang/IllegalStateException", Cond.fieldLink RX2 10 "RampJam" "yard" "LRampJam$Yard;", Cond.fieldLink RX2 44 "RampJam" "moveCount" "I", Cond.fieldLink RX2 57 "RampJam" "position" "I", Cond.fieldLink RX2 73 "RampJam" "parkedPosition" "I", Cond.methodLink RX2 25 yX2_isInYard, Cond.static yX2_isInYard, Cond.initialized RX2, Cond.code yX2_isInYard cX2_isInYard 2 (some .boolean), Cond.methodLink RX2 38 yX1_count, Cond.instanceMethod yX1_count, Cond.selects RX1 yX1_count yX1_count, Cond.initialized RX1, Cond.code yX1_count cX1_count 1 (some .int), Cond.fieldLink RX1 26 "RampJam$Yard" "vehicleCount" "I", Cond.methodLink RX2 53 yX2_cellsOf, Cond.static yX2_cellsOf, Cond.code yX2_cellsOf cX2_cellsOf 7 (some .long), Cond.methodLink RX2 88 yX2_cellOf, Cond.static yX2_cellOf, Cond.code yX2_cellOf cX2_cellOf 2 (some .long)]
def wsX2_park_r2 : List Cond := [Cond.methodLink RX2 60 yX1_filledIn, Cond.instanceMethod yX1_filledIn, Cond.selects RX1 yX1_filledIn yX1_filledIn, Cond.code yX1_filledIn cX1_filledIn 5 (some .long), Cond.methodLink RX1 46 yX1_cellsIn, Cond.instanceMethod yX1_cellsIn, Cond.selects RX1 yX1_cellsIn yX1_cellsIn, Cond.code yX1_cellsIn cX1_cellsIn 4 (some .long), Cond.fieldLink RX1 15 "RampJam$Yard" "acrosses" "[Z", Cond.fieldLink RX1 22 "RampJam$Yard" "shapes" "[J", Cond.methodLink RX1 38 yX1_has, Cond.instanceMethod yX1_has, Cond.selects RX1 yX1_has yX1_has, Cond.code yX1_has cX1_has 2 (some .boolean), Cond.static yX2_placeIn, Cond.code yX2_placeIn cX2_placeIn 2 (some .int), Cond.methodLink RX2 64 yX1_barredTo, Cond.instanceMethod yX1_barredTo, Cond.selects RX1 yX1_barredTo yX1_barredTo, Cond.code yX1_barredTo cX1_barredTo 2 (some .long), Cond.fieldLink RX1 34 "RampJam$Yard" "rampCell" "J", Cond.methodLink RX2 69 yX1_add, Cond.instanceMethod yX1_add, Cond.selects RX1 yX1_add yX1_add]
def wsX2_park_r3 : List Cond := [Cond.code yX1_add cX1_add 5 (some .int), Cond.fieldLink RX1 9 "RampJam$Yard" "sizes" "[I", Cond.fieldLink RX1 19 "RampJam$Yard" "lines" "[I", Cond.methodLink RX2 76 yX2_moved, Cond.static yX2_moved, Cond.code yX2_moved cX2_moved 3 (some .int), Cond.methodLink RX2 80 yX2_standAt, Cond.instanceMethod yX2_standAt, Cond.selects RX2 yX2_standAt yX2_standAt, Cond.code yX2_standAt cX2_standAt 2 none, Cond.fieldLink RX2 106 "RampJam" "isSearched" "Z"]
def wsX2_park : List Cond := .code yX2_park cX2_park 10 (some .int) :: ((wsX2_park_r1 ++ (wsX2_park_r2 ++ wsX2_park_r3)) ++ wsX20 ++ wsX10 ++ (vx_atS RX2 33 "java/lang/IllegalArgumentException" ["java/lang/RuntimeException", "java/lang/Exception"]).filter goodWord ++ (vx_atS RX2 52 "java/lang/IllegalStateException" ["java/lang/RuntimeException", "java/lang/Exception"]).filter goodWord)
def wsX2_ramp_r1 : List Cond := [Cond.classLink RX2 29 "java/lang/IllegalArgumentException", Cond.initialized "java/lang/IllegalArgumentException", Cond.classLink RX2 48 "java/lang/IllegalStateException", Cond.initialized "java/lang/IllegalStateException", Cond.fieldLink RX2 44 "RampJam" "moveCount" "I", Cond.fieldLink RX2 10 "RampJam" "yard" "LRampJam$Yard;", Cond.fieldLink RX2 57 "RampJam" "position" "I", Cond.fieldLink RX2 106 "RampJam" "isSearched" "Z", Cond.methodLink RX2 25 yX2_isInYard, Cond.static yX2_isInYard, Cond.initialized RX2, Cond.code yX2_isInYard cX2_isInYard 2 (some .boolean), Cond.methodLink RX2 88 yX2_cellOf, Cond.static yX2_cellOf, Cond.code yX2_cellOf cX2_cellOf 2 (some .long), Cond.methodLink RX2 92 yX1_vehicleOn, Cond.instanceMethod yX1_vehicleOn, Cond.selects RX1 yX1_vehicleOn yX1_vehicleOn, Cond.initialized RX1, Cond.code yX1_vehicleOn cX1_vehicleOn 5 (some .int), Cond.fieldLink RX1 26 "RampJam$Yard" "vehicleCount" "I", Cond.methodLink RX1 46 yX1_cellsIn, Cond.instanceMethod yX1_cellsIn, Cond.selects RX1 yX1_cellsIn yX1_cellsIn]
def wsX2_ramp_r2 : List Cond := [Cond.code yX1_cellsIn cX1_cellsIn 4 (some .long), Cond.fieldLink RX1 15 "RampJam$Yard" "acrosses" "[Z", Cond.fieldLink RX1 22 "RampJam$Yard" "shapes" "[J", Cond.methodLink RX1 38 yX1_has, Cond.instanceMethod yX1_has, Cond.selects RX1 yX1_has yX1_has, Cond.code yX1_has cX1_has 2 (some .boolean), Cond.static yX2_placeIn, Cond.code yX2_placeIn cX2_placeIn 2 (some .int), Cond.methodLink RX2 96 yX1_isLorry, Cond.instanceMethod yX1_isLorry, Cond.selects RX1 yX1_isLorry yX1_isLorry, Cond.code yX1_isLorry cX1_isLorry 2 (some .boolean), Cond.fieldLink RX1 9 "RampJam$Yard" "sizes" "[I", Cond.methodLink RX2 102 yX1_putRamp, Cond.instanceMethod yX1_putRamp, Cond.selects RX1 yX1_putRamp yX1_putRamp, Cond.code yX1_putRamp cX1_putRamp 3 none, Cond.fieldLink RX1 34 "RampJam$Yard" "rampCell" "J"]
def wsX2_ramp : List Cond := .code yX2_ramp cX2_ramp 5 none :: ((wsX2_ramp_r1 ++ wsX2_ramp_r2) ++ wsX20 ++ wsX10 ++ (vx_atS RX2 33 "java/lang/IllegalArgumentException" ["java/lang/RuntimeException", "java/lang/Exception"]).filter goodWord ++ (vx_atS RX2 52 "java/lang/IllegalStateException" ["java/lang/RuntimeException", "java/lang/Exception"]).filter goodWord)
def wsX2_wayNow_r1 : List Cond := [Cond.fieldLink RX2 10 "RampJam" "yard" "LRampJam$Yard;", Cond.fieldLink RX2 57 "RampJam" "position" "I", Cond.methodLink RX2 60 yX1_filledIn, Cond.instanceMethod yX1_filledIn, Cond.selects RX1 yX1_filledIn yX1_filledIn, Cond.initialized RX1, Cond.code yX1_filledIn cX1_filledIn 5 (some .long), Cond.fieldLink RX1 26 "RampJam$Yard" "vehicleCount" "I", Cond.methodLink RX1 46 yX1_cellsIn, Cond.instanceMethod yX1_cellsIn, Cond.selects RX1 yX1_cellsIn yX1_cellsIn, Cond.code yX1_cellsIn cX1_cellsIn 4 (some .long), Cond.fieldLink RX1 15 "RampJam$Yard" "acrosses" "[Z", Cond.fieldLink RX1 22 "RampJam$Yard" "shapes" "[J", Cond.methodLink RX1 38 yX1_has, Cond.instanceMethod yX1_has, Cond.selects RX1 yX1_has yX1_has, Cond.code yX1_has cX1_has 2 (some .boolean), Cond.static yX2_placeIn, Cond.initialized RX2, Cond.code yX2_placeIn cX2_placeIn 2 (some .int), Cond.methodLink RX2 173 yX1_wayIn, Cond.instanceMethod yX1_wayIn, Cond.selects RX1 yX1_wayIn yX1_wayIn]
def wsX2_wayNow_r2 : List Cond := [Cond.code yX1_wayIn cX1_wayIn 14 (some .int), Cond.fieldLink RX1 9 "RampJam$Yard" "sizes" "[I", Cond.constantLong RX1 50 (-1), Cond.methodLink RX1 52 yX1_barredTo, Cond.instanceMethod yX1_barredTo, Cond.selects RX1 yX1_barredTo yX1_barredTo, Cond.code yX1_barredTo cX1_barredTo 2 (some .long), Cond.fieldLink RX1 34 "RampJam$Yard" "rampCell" "J"]
def wsX2_wayNow : List Cond := .code yX2_wayNow cX2_wayNow 3 (some .int) :: ((wsX2_wayNow_r1 ++ wsX2_wayNow_r2) ++ wsX20 ++ wsX10)
def wsX2_makeMove : List Cond := .code yX2_makeMove cX2_makeMove 3 none :: ([.fieldLink RX2 57 "RampJam" "position" "I", .fieldLink RX2 44 "RampJam" "moveCount" "I", .fieldLink RX2 136 "RampJam" "drivenCells" "I", .methodLink RX2 120 Lib.Math.abs.name, .static Lib.Math.abs.name, .initialized "java/lang/Math", .code Lib.Math.abs.name Lib.Math.abs.code 1 (some .int), .methodLink RX2 76 yX2_moved, .static yX2_moved, .initialized RX2, .code yX2_moved cX2_moved 3 (some .int), .methodLink RX2 80 yX2_standAt, .instanceMethod yX2_standAt, .selects RX2 yX2_standAt yX2_standAt, .code yX2_standAt cX2_standAt 2 none, .fieldLink RX2 106 "RampJam" "isSearched" "Z"] ++ wsX20)
def wsX2_drive_r1 : List Cond := [Cond.classLink RX2 113 "java/lang/IndexOutOfBoundsException", Cond.initialized "java/lang/IndexOutOfBoundsException", Cond.classLink RX2 29 "java/lang/IllegalArgumentException", Cond.initialized "java/lang/IllegalArgumentException", Cond.classLink RX2 48 "java/lang/IllegalStateException", Cond.initialized "java/lang/IllegalStateException", Cond.fieldLink RX2 10 "RampJam" "yard" "LRampJam$Yard;", Cond.methodLink RX2 120 Lib.Math.abs.name, Cond.static Lib.Math.abs.name, Cond.initialized "java/lang/Math", Cond.code Lib.Math.abs.name Lib.Math.abs.code 1 (some .int), Cond.methodLink RX2 110 yX1_has, Cond.instanceMethod yX1_has, Cond.selects RX1 yX1_has yX1_has, Cond.initialized RX1, Cond.code yX1_has cX1_has 2 (some .boolean), Cond.fieldLink RX1 26 "RampJam$Yard" "vehicleCount" "I", Cond.methodLink RX2 126 yX2_wayNow, Cond.instanceMethod yX2_wayNow, Cond.selects RX2 yX2_wayNow yX2_wayNow, Cond.initialized RX2, Cond.code yX2_wayNow cX2_wayNow 3 (some .int), Cond.fieldLink RX2 57 "RampJam" "position" "I", Cond.methodLink RX2 60 yX1_filledIn]
def wsX2_drive_r2 : List Cond := [Cond.instanceMethod yX1_filledIn, Cond.selects RX1 yX1_filledIn yX1_filledIn, Cond.code yX1_filledIn cX1_filledIn 5 (some .long), Cond.methodLink RX1 46 yX1_cellsIn, Cond.instanceMethod yX1_cellsIn, Cond.selects RX1 yX1_cellsIn yX1_cellsIn, Cond.code yX1_cellsIn cX1_cellsIn 4 (some .long), Cond.fieldLink RX1 15 "RampJam$Yard" "acrosses" "[Z", Cond.fieldLink RX1 22 "RampJam$Yard" "shapes" "[J", Cond.methodLink RX1 38 yX1_has, Cond.static yX2_placeIn, Cond.code yX2_placeIn cX2_placeIn 2 (some .int), Cond.methodLink RX2 173 yX1_wayIn, Cond.instanceMethod yX1_wayIn, Cond.selects RX1 yX1_wayIn yX1_wayIn, Cond.code yX1_wayIn cX1_wayIn 14 (some .int), Cond.fieldLink RX1 9 "RampJam$Yard" "sizes" "[I", Cond.constantLong RX1 50 (-1), Cond.methodLink RX1 52 yX1_barredTo, Cond.instanceMethod yX1_barredTo, Cond.selects RX1 yX1_barredTo yX1_barredTo, Cond.code yX1_barredTo cX1_barredTo 2 (some .long), Cond.fieldLink RX1 34 "RampJam$Yard" "rampCell" "J", Cond.methodLink RX2 132 yX2_makeMove]
def wsX2_drive_r3 : List Cond := [Cond.instanceMethod yX2_makeMove, Cond.selects RX2 yX2_makeMove yX2_makeMove, Cond.code yX2_makeMove cX2_makeMove 3 none, Cond.fieldLink RX2 44 "RampJam" "moveCount" "I", Cond.fieldLink RX2 136 "RampJam" "drivenCells" "I", Cond.methodLink RX2 76 yX2_moved, Cond.static yX2_moved, Cond.code yX2_moved cX2_moved 3 (some .int), Cond.methodLink RX2 80 yX2_standAt, Cond.instanceMethod yX2_standAt, Cond.selects RX2 yX2_standAt yX2_standAt, Cond.code yX2_standAt cX2_standAt 2 none, Cond.fieldLink RX2 106 "RampJam" "isSearched" "Z"]
def wsX2_drive : List Cond := .code yX2_drive cX2_drive 3 none :: ((wsX2_drive_r1 ++ (wsX2_drive_r2 ++ wsX2_drive_r3)) ++ wsX20 ++ wsX10 ++ (vx_atS RX2 117 "java/lang/IndexOutOfBoundsException" ["java/lang/RuntimeException", "java/lang/Exception"]).filter goodWord ++ (vx_atS RX2 33 "java/lang/IllegalArgumentException" ["java/lang/RuntimeException", "java/lang/Exception"]).filter goodWord ++ (vx_atS RX2 52 "java/lang/IllegalStateException" ["java/lang/RuntimeException", "java/lang/Exception"]).filter goodWord)
def wsX2_driveOn_r1 : List Cond := [Cond.classLink RX2 113 "java/lang/IndexOutOfBoundsException", Cond.initialized "java/lang/IndexOutOfBoundsException", Cond.fieldLink RX2 10 "RampJam" "yard" "LRampJam$Yard;", Cond.methodLink RX2 110 yX1_has, Cond.instanceMethod yX1_has, Cond.selects RX1 yX1_has yX1_has, Cond.initialized RX1, Cond.code yX1_has cX1_has 2 (some .boolean), Cond.fieldLink RX1 26 "RampJam$Yard" "vehicleCount" "I", Cond.methodLink RX2 126 yX2_wayNow, Cond.instanceMethod yX2_wayNow, Cond.selects RX2 yX2_wayNow yX2_wayNow, Cond.initialized RX2, Cond.code yX2_wayNow cX2_wayNow 3 (some .int), Cond.fieldLink RX2 57 "RampJam" "position" "I", Cond.methodLink RX2 60 yX1_filledIn, Cond.instanceMethod yX1_filledIn, Cond.selects RX1 yX1_filledIn yX1_filledIn, Cond.code yX1_filledIn cX1_filledIn 5 (some .long), Cond.methodLink RX1 46 yX1_cellsIn, Cond.instanceMethod yX1_cellsIn, Cond.selects RX1 yX1_cellsIn yX1_cellsIn, Cond.code yX1_cellsIn cX1_cellsIn 4 (some .long), Cond.fieldLink RX1 15 "RampJam$Yard" "acrosses" "[Z"]
def wsX2_driveOn_r2 : List Cond := [Cond.fieldLink RX1 22 "RampJam$Yard" "shapes" "[J", Cond.methodLink RX1 38 yX1_has, Cond.static yX2_placeIn, Cond.code yX2_placeIn cX2_placeIn 2 (some .int), Cond.methodLink RX2 173 yX1_wayIn, Cond.instanceMethod yX1_wayIn, Cond.selects RX1 yX1_wayIn yX1_wayIn, Cond.code yX1_wayIn cX1_wayIn 14 (some .int), Cond.fieldLink RX1 9 "RampJam$Yard" "sizes" "[I", Cond.constantLong RX1 50 (-1), Cond.methodLink RX1 52 yX1_barredTo, Cond.instanceMethod yX1_barredTo, Cond.selects RX1 yX1_barredTo yX1_barredTo, Cond.code yX1_barredTo cX1_barredTo 2 (some .long), Cond.fieldLink RX1 34 "RampJam$Yard" "rampCell" "J", Cond.methodLink RX2 132 yX2_makeMove, Cond.instanceMethod yX2_makeMove, Cond.selects RX2 yX2_makeMove yX2_makeMove, Cond.code yX2_makeMove cX2_makeMove 3 none, Cond.fieldLink RX2 44 "RampJam" "moveCount" "I", Cond.fieldLink RX2 136 "RampJam" "drivenCells" "I", Cond.methodLink RX2 120 Lib.Math.abs.name, Cond.static Lib.Math.abs.name, Cond.initialized "java/lang/Math"]
def wsX2_driveOn_r3 : List Cond := [Cond.code Lib.Math.abs.name Lib.Math.abs.code 1 (some .int), Cond.methodLink RX2 76 yX2_moved, Cond.static yX2_moved, Cond.code yX2_moved cX2_moved 3 (some .int), Cond.methodLink RX2 80 yX2_standAt, Cond.instanceMethod yX2_standAt, Cond.selects RX2 yX2_standAt yX2_standAt, Cond.code yX2_standAt cX2_standAt 2 none, Cond.fieldLink RX2 106 "RampJam" "isSearched" "Z"]
def wsX2_driveOn : List Cond := .code yX2_driveOn cX2_driveOn 4 (some .int) :: ((wsX2_driveOn_r1 ++ (wsX2_driveOn_r2 ++ wsX2_driveOn_r3)) ++ wsX20 ++ wsX10 ++ (vx_atS RX2 117 "java/lang/IndexOutOfBoundsException" ["java/lang/RuntimeException", "java/lang/Exception"]).filter goodWord)
def wsX2_restart : List Cond := .code yX2_restart cX2_restart 1 none :: ([.fieldLink RX2 73 "RampJam" "parkedPosition" "I", .fieldLink RX2 44 "RampJam" "moveCount" "I", .fieldLink RX2 136 "RampJam" "drivenCells" "I", .methodLink RX2 80 yX2_standAt, .instanceMethod yX2_standAt, .selects RX2 yX2_standAt yX2_standAt, .initialized RX2, .code yX2_standAt cX2_standAt 2 none, .fieldLink RX2 57 "RampJam" "position" "I", .fieldLink RX2 106 "RampJam" "isSearched" "Z"] ++ wsX20)
def wsX2_vehicles : List Cond := .code yX2_vehicles cX2_vehicles 1 (some .int) :: ([.fieldLink RX2 10 "RampJam" "yard" "LRampJam$Yard;", .methodLink RX2 38 yX1_count, .instanceMethod yX1_count, .selects RX1 yX1_count yX1_count, .initialized RX1, .code yX1_count cX1_count 1 (some .int), .fieldLink RX1 26 "RampJam$Yard" "vehicleCount" "I"] ++ wsX20 ++ wsX10)
def wsX2_rowOf_r1 : List Cond := [Cond.classLink RX2 113 "java/lang/IndexOutOfBoundsException", Cond.initialized "java/lang/IndexOutOfBoundsException", Cond.fieldLink RX2 10 "RampJam" "yard" "LRampJam$Yard;", Cond.fieldLink RX2 57 "RampJam" "position" "I", Cond.methodLink RX2 110 yX1_has, Cond.instanceMethod yX1_has, Cond.selects RX1 yX1_has yX1_has, Cond.initialized RX1, Cond.code yX1_has cX1_has 2 (some .boolean), Cond.fieldLink RX1 26 "RampJam$Yard" "vehicleCount" "I", Cond.methodLink RX2 139 yX1_standsAcross, Cond.instanceMethod yX1_standsAcross, Cond.selects RX1 yX1_standsAcross yX1_standsAcross, Cond.code yX1_standsAcross cX1_standsAcross 2 (some .boolean), Cond.fieldLink RX1 15 "RampJam$Yard" "acrosses" "[Z", Cond.methodLink RX1 38 yX1_has, Cond.methodLink RX2 142 yX1_lineOf, Cond.instanceMethod yX1_lineOf, Cond.selects RX1 yX1_lineOf yX1_lineOf, Cond.code yX1_lineOf cX1_lineOf 2 (some .int), Cond.fieldLink RX1 19 "RampJam$Yard" "lines" "[I", Cond.methodLink RX2 145 yX2_placeIn, Cond.static yX2_placeIn, Cond.initialized RX2]
def wsX2_rowOf_r2 : List Cond := [Cond.code yX2_placeIn cX2_placeIn 2 (some .int)]
def wsX2_rowOf : List Cond := .code yX2_rowOf cX2_rowOf 2 (some .int) :: ((wsX2_rowOf_r1 ++ wsX2_rowOf_r2) ++ wsX20 ++ wsX10 ++ (vx_atS RX2 117 "java/lang/IndexOutOfBoundsException" ["java/lang/RuntimeException", "java/lang/Exception"]).filter goodWord)
def wsX2_columnOf_r1 : List Cond := [Cond.classLink RX2 113 "java/lang/IndexOutOfBoundsException", Cond.initialized "java/lang/IndexOutOfBoundsException", Cond.fieldLink RX2 10 "RampJam" "yard" "LRampJam$Yard;", Cond.fieldLink RX2 57 "RampJam" "position" "I", Cond.methodLink RX2 110 yX1_has, Cond.instanceMethod yX1_has, Cond.selects RX1 yX1_has yX1_has, Cond.initialized RX1, Cond.code yX1_has cX1_has 2 (some .boolean), Cond.fieldLink RX1 26 "RampJam$Yard" "vehicleCount" "I", Cond.methodLink RX2 139 yX1_standsAcross, Cond.instanceMethod yX1_standsAcross, Cond.selects RX1 yX1_standsAcross yX1_standsAcross, Cond.code yX1_standsAcross cX1_standsAcross 2 (some .boolean), Cond.fieldLink RX1 15 "RampJam$Yard" "acrosses" "[Z", Cond.methodLink RX1 38 yX1_has, Cond.methodLink RX2 145 yX2_placeIn, Cond.static yX2_placeIn, Cond.initialized RX2, Cond.code yX2_placeIn cX2_placeIn 2 (some .int), Cond.methodLink RX2 142 yX1_lineOf, Cond.instanceMethod yX1_lineOf, Cond.selects RX1 yX1_lineOf yX1_lineOf, Cond.code yX1_lineOf cX1_lineOf 2 (some .int)]
def wsX2_columnOf_r2 : List Cond := [Cond.fieldLink RX1 19 "RampJam$Yard" "lines" "[I"]
def wsX2_columnOf : List Cond := .code yX2_columnOf cX2_columnOf 2 (some .int) :: ((wsX2_columnOf_r1 ++ wsX2_columnOf_r2) ++ wsX20 ++ wsX10 ++ (vx_atS RX2 117 "java/lang/IndexOutOfBoundsException" ["java/lang/RuntimeException", "java/lang/Exception"]).filter goodWord)
def wsX2_at_r1 : List Cond := [Cond.classLink RX2 29 "java/lang/IllegalArgumentException", Cond.initialized "java/lang/IllegalArgumentException", Cond.fieldLink RX2 10 "RampJam" "yard" "LRampJam$Yard;", Cond.fieldLink RX2 57 "RampJam" "position" "I", Cond.methodLink RX2 25 yX2_isInYard, Cond.static yX2_isInYard, Cond.initialized RX2, Cond.code yX2_isInYard cX2_isInYard 2 (some .boolean), Cond.methodLink RX2 88 yX2_cellOf, Cond.static yX2_cellOf, Cond.code yX2_cellOf cX2_cellOf 2 (some .long), Cond.methodLink RX2 92 yX1_vehicleOn, Cond.instanceMethod yX1_vehicleOn, Cond.selects RX1 yX1_vehicleOn yX1_vehicleOn, Cond.initialized RX1, Cond.code yX1_vehicleOn cX1_vehicleOn 5 (some .int), Cond.fieldLink RX1 26 "RampJam$Yard" "vehicleCount" "I", Cond.methodLink RX1 46 yX1_cellsIn, Cond.instanceMethod yX1_cellsIn, Cond.selects RX1 yX1_cellsIn yX1_cellsIn, Cond.code yX1_cellsIn cX1_cellsIn 4 (some .long), Cond.fieldLink RX1 15 "RampJam$Yard" "acrosses" "[Z", Cond.fieldLink RX1 22 "RampJam$Yard" "shapes" "[J", Cond.methodLink RX1 38 yX1_has]
def wsX2_at_r2 : List Cond := [Cond.instanceMethod yX1_has, Cond.selects RX1 yX1_has yX1_has, Cond.code yX1_has cX1_has 2 (some .boolean), Cond.static yX2_placeIn, Cond.code yX2_placeIn cX2_placeIn 2 (some .int)]
def wsX2_at : List Cond := .code yX2_at cX2_at 3 (some .int) :: ((wsX2_at_r1 ++ wsX2_at_r2) ++ wsX20 ++ wsX10 ++ (vx_atS RX2 33 "java/lang/IllegalArgumentException" ["java/lang/RuntimeException", "java/lang/Exception"]).filter goodWord)
def wsX2_freeWay_r1 : List Cond := [Cond.classLink RX2 113 "java/lang/IndexOutOfBoundsException", Cond.initialized "java/lang/IndexOutOfBoundsException", Cond.fieldLink RX2 10 "RampJam" "yard" "LRampJam$Yard;", Cond.methodLink RX2 110 yX1_has, Cond.instanceMethod yX1_has, Cond.selects RX1 yX1_has yX1_has, Cond.initialized RX1, Cond.code yX1_has cX1_has 2 (some .boolean), Cond.fieldLink RX1 26 "RampJam$Yard" "vehicleCount" "I", Cond.methodLink RX2 126 yX2_wayNow, Cond.instanceMethod yX2_wayNow, Cond.selects RX2 yX2_wayNow yX2_wayNow, Cond.initialized RX2, Cond.code yX2_wayNow cX2_wayNow 3 (some .int), Cond.fieldLink RX2 57 "RampJam" "position" "I", Cond.methodLink RX2 60 yX1_filledIn, Cond.instanceMethod yX1_filledIn, Cond.selects RX1 yX1_filledIn yX1_filledIn, Cond.code yX1_filledIn cX1_filledIn 5 (some .long), Cond.methodLink RX1 46 yX1_cellsIn, Cond.instanceMethod yX1_cellsIn, Cond.selects RX1 yX1_cellsIn yX1_cellsIn, Cond.code yX1_cellsIn cX1_cellsIn 4 (some .long), Cond.fieldLink RX1 15 "RampJam$Yard" "acrosses" "[Z"]
def wsX2_freeWay_r2 : List Cond := [Cond.fieldLink RX1 22 "RampJam$Yard" "shapes" "[J", Cond.methodLink RX1 38 yX1_has, Cond.static yX2_placeIn, Cond.code yX2_placeIn cX2_placeIn 2 (some .int), Cond.methodLink RX2 173 yX1_wayIn, Cond.instanceMethod yX1_wayIn, Cond.selects RX1 yX1_wayIn yX1_wayIn, Cond.code yX1_wayIn cX1_wayIn 14 (some .int), Cond.fieldLink RX1 9 "RampJam$Yard" "sizes" "[I", Cond.constantLong RX1 50 (-1), Cond.methodLink RX1 52 yX1_barredTo, Cond.instanceMethod yX1_barredTo, Cond.selects RX1 yX1_barredTo yX1_barredTo, Cond.code yX1_barredTo cX1_barredTo 2 (some .long), Cond.fieldLink RX1 34 "RampJam$Yard" "rampCell" "J"]
def wsX2_freeWay : List Cond := .code yX2_freeWay cX2_freeWay 3 (some .int) :: ((wsX2_freeWay_r1 ++ wsX2_freeWay_r2) ++ wsX20 ++ wsX10 ++ (vx_atS RX2 117 "java/lang/IndexOutOfBoundsException" ["java/lang/RuntimeException", "java/lang/Exception"]).filter goodWord)
def wsX2_inTheWay_r1 : List Cond := [Cond.fieldLink RX2 57 "RampJam" "position" "I", Cond.fieldLink RX2 10 "RampJam" "yard" "LRampJam$Yard;", Cond.methodLink RX2 145 yX2_placeIn, Cond.static yX2_placeIn, Cond.initialized RX2, Cond.code yX2_placeIn cX2_placeIn 2 (some .int), Cond.methodLink RX2 88 yX2_cellOf, Cond.static yX2_cellOf, Cond.code yX2_cellOf cX2_cellOf 2 (some .long), Cond.methodLink RX2 38 yX1_count, Cond.instanceMethod yX1_count, Cond.selects RX1 yX1_count yX1_count, Cond.initialized RX1, Cond.code yX1_count cX1_count 1 (some .int), Cond.fieldLink RX1 26 "RampJam$Yard" "vehicleCount" "I", Cond.methodLink RX2 149 yX1_cellsIn, Cond.instanceMethod yX1_cellsIn, Cond.selects RX1 yX1_cellsIn yX1_cellsIn, Cond.code yX1_cellsIn cX1_cellsIn 4 (some .long), Cond.fieldLink RX1 15 "RampJam$Yard" "acrosses" "[Z", Cond.fieldLink RX1 22 "RampJam$Yard" "shapes" "[J", Cond.methodLink RX1 38 yX1_has, Cond.instanceMethod yX1_has, Cond.selects RX1 yX1_has yX1_has]
def wsX2_inTheWay_r2 : List Cond := [Cond.code yX1_has cX1_has 2 (some .boolean)]
def wsX2_inTheWay : List Cond := .code yX2_inTheWay cX2_inTheWay 5 (some .int) :: ((wsX2_inTheWay_r1 ++ wsX2_inTheWay_r2) ++ wsX20 ++ wsX10)
def wsX2_isSolved : List Cond := .code yX2_isSolved cX2_isSolved 1 (some .boolean) :: ([.fieldLink RX2 57 "RampJam" "position" "I", .methodLink RX2 145 yX2_placeIn, .static yX2_placeIn, .initialized RX2, .code yX2_placeIn cX2_placeIn 2 (some .int)] ++ wsX20)
def wsX2_moves : List Cond := .code yX2_moves cX2_moves 1 (some .int) :: ([.fieldLink RX2 44 "RampJam" "moveCount" "I"] ++ wsX20)
def wsX2_driven : List Cond := .code yX2_driven cX2_driven 1 (some .int) :: ([.fieldLink RX2 136 "RampJam" "drivenCells" "I"] ++ wsX20)
def wsX2_searchFromNow_r1 : List Cond := [Cond.fieldLink RX2 106 "RampJam" "isSearched" "Z", Cond.fieldLink RX2 21 "RampJam" "search" "LRampJam$Search;", Cond.fieldLink RX2 57 "RampJam" "position" "I", Cond.methodLink RX2 177 yX0_lookFrom, Cond.instanceMethod yX0_lookFrom, Cond.selects RX0 yX0_lookFrom yX0_lookFrom, Cond.initialized RX0, Cond.code yX0_lookFrom cX0_lookFrom 3 none, Cond.fieldLink RX0 21 "RampJam$Search" "slots" "[I", Cond.fieldLink RX0 28 "RampJam$Search" "foundCount" "I", Cond.fieldLink RX0 38 "RampJam$Search" "firstSolved" "I", Cond.methodLink RX0 32 yJ7_fill_53178, Cond.static yJ7_fill_53178, Cond.initialized RJ7, Cond.code yJ7_fill_53178 cJ7_fill_53178 4 none, Cond.methodLink RX0 41 yX0_addIfNew, Cond.instanceMethod yX0_addIfNew, Cond.selects RX0 yX0_addIfNew yX0_addIfNew, Cond.code yX0_addIfNew cX0_addIfNew 6 none, Cond.fieldLink RX0 9 "RampJam$Search" "found" "[I", Cond.fieldLink RX0 15 "RampJam$Search" "origins" "[I", Cond.fieldLink RX0 18 "RampJam$Search" "moveCodes" "[I", Cond.methodLink RX0 103 yX0_slotFor, Cond.instanceMethod yX0_slotFor]
def wsX2_searchFromNow_r2 : List Cond := [Cond.selects RX0 yX0_slotFor yX0_slotFor, Cond.code yX0_slotFor cX0_slotFor 6 (some .int), Cond.constant RX0 106 (-1640531535), Cond.static yX2_placeIn, Cond.initialized RX2, Cond.code yX2_placeIn cX2_placeIn 2 (some .int), Cond.methodLink RX0 45 yX0_addReachedFrom, Cond.instanceMethod yX0_addReachedFrom, Cond.selects RX0 yX0_addReachedFrom yX0_addReachedFrom, Cond.code yX0_addReachedFrom cX0_addReachedFrom 6 none, Cond.fieldLink RX0 24 "RampJam$Search" "yard" "LRampJam$Yard;", Cond.methodLink RX0 61 yX0_isFound, Cond.instanceMethod yX0_isFound, Cond.selects RX0 yX0_isFound yX0_isFound, Cond.code yX0_isFound cX0_isFound 2 (some .boolean), Cond.methodLink RX0 78 yX1_filledIn, Cond.instanceMethod yX1_filledIn, Cond.selects RX1 yX1_filledIn yX1_filledIn, Cond.initialized RX1, Cond.code yX1_filledIn cX1_filledIn 5 (some .long), Cond.fieldLink RX1 26 "RampJam$Yard" "vehicleCount" "I", Cond.methodLink RX1 46 yX1_cellsIn, Cond.instanceMethod yX1_cellsIn, Cond.selects RX1 yX1_cellsIn yX1_cellsIn]
def wsX2_searchFromNow_r3 : List Cond := [Cond.code yX1_cellsIn cX1_cellsIn 4 (some .long), Cond.fieldLink RX1 15 "RampJam$Yard" "acrosses" "[Z", Cond.fieldLink RX1 22 "RampJam$Yard" "shapes" "[J", Cond.methodLink RX1 38 yX1_has, Cond.instanceMethod yX1_has, Cond.selects RX1 yX1_has yX1_has, Cond.code yX1_has cX1_has 2 (some .boolean), Cond.methodLink RX0 84 yX1_count, Cond.instanceMethod yX1_count, Cond.selects RX1 yX1_count yX1_count, Cond.code yX1_count cX1_count 1 (some .int), Cond.methodLink RX0 88 yX1_wayIn, Cond.instanceMethod yX1_wayIn, Cond.selects RX1 yX1_wayIn yX1_wayIn, Cond.code yX1_wayIn cX1_wayIn 14 (some .int), Cond.fieldLink RX1 9 "RampJam$Yard" "sizes" "[I", Cond.constantLong RX1 50 (-1), Cond.methodLink RX1 52 yX1_barredTo, Cond.instanceMethod yX1_barredTo, Cond.selects RX1 yX1_barredTo yX1_barredTo, Cond.code yX1_barredTo cX1_barredTo 2 (some .long), Cond.fieldLink RX1 34 "RampJam$Yard" "rampCell" "J", Cond.methodLink RX0 92 yX0_addDriven, Cond.instanceMethod yX0_addDriven]
def wsX2_searchFromNow_r4 : List Cond := [Cond.selects RX0 yX0_addDriven yX0_addDriven, Cond.code yX0_addDriven cX0_addDriven 7 none, Cond.static yX2_moved, Cond.code yX2_moved cX2_moved 3 (some .int), Cond.methodLink RX0 100 yX0_codeOfMove, Cond.static yX0_codeOfMove, Cond.code yX0_codeOfMove cX0_codeOfMove 2 (some .int), Cond.methodLink RX0 49 yX0_traceWay, Cond.instanceMethod yX0_traceWay, Cond.selects RX0 yX0_traceWay yX0_traceWay, Cond.code yX0_traceWay cX0_traceWay 3 none, Cond.fieldLink RX0 52 "RampJam$Search" "solvedMoves" "I", Cond.fieldLink RX0 55 "RampJam$Search" "solvedCells" "I", Cond.fieldLink RX0 58 "RampJam$Search" "solvedFirstMove" "I", Cond.methodLink RX0 73 Lib.Math.abs.name, Cond.static Lib.Math.abs.name, Cond.initialized "java/lang/Math", Cond.code Lib.Math.abs.name Lib.Math.abs.code 1 (some .int), Cond.methodLink RX0 69 yX0_cellsOfMove, Cond.static yX0_cellsOfMove, Cond.code yX0_cellsOfMove cX0_cellsOfMove 1 (some .int)]
def wsX2_searchFromNow : List Cond := .code yX2_searchFromNow cX2_searchFromNow 1 none :: ((wsX2_searchFromNow_r1 ++ (wsX2_searchFromNow_r2 ++ (wsX2_searchFromNow_r3 ++ wsX2_searchFromNow_r4))) ++ wsX20 ++ wsX00 ++ wsX10)
def wsX2_positions_r1 : List Cond := [Cond.fieldLink RX2 21 "RampJam" "search" "LRampJam$Search;", Cond.methodLink RX2 152 yX2_searchFromNow, Cond.instanceMethod yX2_searchFromNow, Cond.selects RX2 yX2_searchFromNow yX2_searchFromNow, Cond.initialized RX2, Cond.code yX2_searchFromNow cX2_searchFromNow 1 none, Cond.fieldLink RX2 106 "RampJam" "isSearched" "Z", Cond.fieldLink RX2 57 "RampJam" "position" "I", Cond.methodLink RX2 177 yX0_lookFrom, Cond.instanceMethod yX0_lookFrom, Cond.selects RX0 yX0_lookFrom yX0_lookFrom, Cond.initialized RX0, Cond.code yX0_lookFrom cX0_lookFrom 3 none, Cond.fieldLink RX0 21 "RampJam$Search" "slots" "[I", Cond.fieldLink RX0 28 "RampJam$Search" "foundCount" "I", Cond.fieldLink RX0 38 "RampJam$Search" "firstSolved" "I", Cond.methodLink RX0 32 yJ7_fill_53178, Cond.static yJ7_fill_53178, Cond.initialized RJ7, Cond.code yJ7_fill_53178 cJ7_fill_53178 4 none, Cond.methodLink RX0 41 yX0_addIfNew, Cond.instanceMethod yX0_addIfNew, Cond.selects RX0 yX0_addIfNew yX0_addIfNew, Cond.code yX0_addIfNew cX0_addIfNew 6 none]
def wsX2_positions_r2 : List Cond := [Cond.fieldLink RX0 9 "RampJam$Search" "found" "[I", Cond.fieldLink RX0 15 "RampJam$Search" "origins" "[I", Cond.fieldLink RX0 18 "RampJam$Search" "moveCodes" "[I", Cond.methodLink RX0 103 yX0_slotFor, Cond.instanceMethod yX0_slotFor, Cond.selects RX0 yX0_slotFor yX0_slotFor, Cond.code yX0_slotFor cX0_slotFor 6 (some .int), Cond.constant RX0 106 (-1640531535), Cond.static yX2_placeIn, Cond.code yX2_placeIn cX2_placeIn 2 (some .int), Cond.methodLink RX0 45 yX0_addReachedFrom, Cond.instanceMethod yX0_addReachedFrom, Cond.selects RX0 yX0_addReachedFrom yX0_addReachedFrom, Cond.code yX0_addReachedFrom cX0_addReachedFrom 6 none, Cond.fieldLink RX0 24 "RampJam$Search" "yard" "LRampJam$Yard;", Cond.methodLink RX0 61 yX0_isFound, Cond.instanceMethod yX0_isFound, Cond.selects RX0 yX0_isFound yX0_isFound, Cond.code yX0_isFound cX0_isFound 2 (some .boolean), Cond.methodLink RX0 78 yX1_filledIn, Cond.instanceMethod yX1_filledIn, Cond.selects RX1 yX1_filledIn yX1_filledIn, Cond.initialized RX1, Cond.code yX1_filledIn cX1_filledIn 5 (some .long)]
def wsX2_positions_r3 : List Cond := [Cond.fieldLink RX1 26 "RampJam$Yard" "vehicleCount" "I", Cond.methodLink RX1 46 yX1_cellsIn, Cond.instanceMethod yX1_cellsIn, Cond.selects RX1 yX1_cellsIn yX1_cellsIn, Cond.code yX1_cellsIn cX1_cellsIn 4 (some .long), Cond.fieldLink RX1 15 "RampJam$Yard" "acrosses" "[Z", Cond.fieldLink RX1 22 "RampJam$Yard" "shapes" "[J", Cond.methodLink RX1 38 yX1_has, Cond.instanceMethod yX1_has, Cond.selects RX1 yX1_has yX1_has, Cond.code yX1_has cX1_has 2 (some .boolean), Cond.methodLink RX0 84 yX1_count, Cond.instanceMethod yX1_count, Cond.selects RX1 yX1_count yX1_count, Cond.code yX1_count cX1_count 1 (some .int), Cond.methodLink RX0 88 yX1_wayIn, Cond.instanceMethod yX1_wayIn, Cond.selects RX1 yX1_wayIn yX1_wayIn, Cond.code yX1_wayIn cX1_wayIn 14 (some .int), Cond.fieldLink RX1 9 "RampJam$Yard" "sizes" "[I", Cond.constantLong RX1 50 (-1), Cond.methodLink RX1 52 yX1_barredTo, Cond.instanceMethod yX1_barredTo, Cond.selects RX1 yX1_barredTo yX1_barredTo]
def wsX2_positions_r4 : List Cond := [Cond.code yX1_barredTo cX1_barredTo 2 (some .long), Cond.fieldLink RX1 34 "RampJam$Yard" "rampCell" "J", Cond.methodLink RX0 92 yX0_addDriven, Cond.instanceMethod yX0_addDriven, Cond.selects RX0 yX0_addDriven yX0_addDriven, Cond.code yX0_addDriven cX0_addDriven 7 none, Cond.static yX2_moved, Cond.code yX2_moved cX2_moved 3 (some .int), Cond.methodLink RX0 100 yX0_codeOfMove, Cond.static yX0_codeOfMove, Cond.code yX0_codeOfMove cX0_codeOfMove 2 (some .int), Cond.methodLink RX0 49 yX0_traceWay, Cond.instanceMethod yX0_traceWay, Cond.selects RX0 yX0_traceWay yX0_traceWay, Cond.code yX0_traceWay cX0_traceWay 3 none, Cond.fieldLink RX0 52 "RampJam$Search" "solvedMoves" "I", Cond.fieldLink RX0 55 "RampJam$Search" "solvedCells" "I", Cond.fieldLink RX0 58 "RampJam$Search" "solvedFirstMove" "I", Cond.methodLink RX0 73 Lib.Math.abs.name, Cond.static Lib.Math.abs.name, Cond.initialized "java/lang/Math", Cond.code Lib.Math.abs.name Lib.Math.abs.code 1 (some .int), Cond.methodLink RX0 69 yX0_cellsOfMove, Cond.static yX0_cellsOfMove]
def wsX2_positions_r5 : List Cond := [Cond.code yX0_cellsOfMove cX0_cellsOfMove 1 (some .int), Cond.methodLink RX2 155 yX0_count, Cond.instanceMethod yX0_count, Cond.selects RX0 yX0_count yX0_count, Cond.code yX0_count cX0_count 1 (some .int)]
def wsX2_positions : List Cond := .code yX2_positions cX2_positions 1 (some .int) :: ((wsX2_positions_r1 ++ (wsX2_positions_r2 ++ (wsX2_positions_r3 ++ (wsX2_positions_r4 ++ wsX2_positions_r5)))) ++ wsX20 ++ wsX00 ++ wsX10)
def wsX2_fewestMoves_r1 : List Cond := [Cond.fieldLink RX2 21 "RampJam" "search" "LRampJam$Search;", Cond.methodLink RX2 152 yX2_searchFromNow, Cond.instanceMethod yX2_searchFromNow, Cond.selects RX2 yX2_searchFromNow yX2_searchFromNow, Cond.initialized RX2, Cond.code yX2_searchFromNow cX2_searchFromNow 1 none, Cond.fieldLink RX2 106 "RampJam" "isSearched" "Z", Cond.fieldLink RX2 57 "RampJam" "position" "I", Cond.methodLink RX2 177 yX0_lookFrom, Cond.instanceMethod yX0_lookFrom, Cond.selects RX0 yX0_lookFrom yX0_lookFrom, Cond.initialized RX0, Cond.code yX0_lookFrom cX0_lookFrom 3 none, Cond.fieldLink RX0 21 "RampJam$Search" "slots" "[I", Cond.fieldLink RX0 28 "RampJam$Search" "foundCount" "I", Cond.fieldLink RX0 38 "RampJam$Search" "firstSolved" "I", Cond.methodLink RX0 32 yJ7_fill_53178, Cond.static yJ7_fill_53178, Cond.initialized RJ7, Cond.code yJ7_fill_53178 cJ7_fill_53178 4 none, Cond.methodLink RX0 41 yX0_addIfNew, Cond.instanceMethod yX0_addIfNew, Cond.selects RX0 yX0_addIfNew yX0_addIfNew, Cond.code yX0_addIfNew cX0_addIfNew 6 none]
def wsX2_fewestMoves_r2 : List Cond := [Cond.fieldLink RX0 9 "RampJam$Search" "found" "[I", Cond.fieldLink RX0 15 "RampJam$Search" "origins" "[I", Cond.fieldLink RX0 18 "RampJam$Search" "moveCodes" "[I", Cond.methodLink RX0 103 yX0_slotFor, Cond.instanceMethod yX0_slotFor, Cond.selects RX0 yX0_slotFor yX0_slotFor, Cond.code yX0_slotFor cX0_slotFor 6 (some .int), Cond.constant RX0 106 (-1640531535), Cond.static yX2_placeIn, Cond.code yX2_placeIn cX2_placeIn 2 (some .int), Cond.methodLink RX0 45 yX0_addReachedFrom, Cond.instanceMethod yX0_addReachedFrom, Cond.selects RX0 yX0_addReachedFrom yX0_addReachedFrom, Cond.code yX0_addReachedFrom cX0_addReachedFrom 6 none, Cond.fieldLink RX0 24 "RampJam$Search" "yard" "LRampJam$Yard;", Cond.methodLink RX0 61 yX0_isFound, Cond.instanceMethod yX0_isFound, Cond.selects RX0 yX0_isFound yX0_isFound, Cond.code yX0_isFound cX0_isFound 2 (some .boolean), Cond.methodLink RX0 78 yX1_filledIn, Cond.instanceMethod yX1_filledIn, Cond.selects RX1 yX1_filledIn yX1_filledIn, Cond.initialized RX1, Cond.code yX1_filledIn cX1_filledIn 5 (some .long)]
def wsX2_fewestMoves_r3 : List Cond := [Cond.fieldLink RX1 26 "RampJam$Yard" "vehicleCount" "I", Cond.methodLink RX1 46 yX1_cellsIn, Cond.instanceMethod yX1_cellsIn, Cond.selects RX1 yX1_cellsIn yX1_cellsIn, Cond.code yX1_cellsIn cX1_cellsIn 4 (some .long), Cond.fieldLink RX1 15 "RampJam$Yard" "acrosses" "[Z", Cond.fieldLink RX1 22 "RampJam$Yard" "shapes" "[J", Cond.methodLink RX1 38 yX1_has, Cond.instanceMethod yX1_has, Cond.selects RX1 yX1_has yX1_has, Cond.code yX1_has cX1_has 2 (some .boolean), Cond.methodLink RX0 84 yX1_count, Cond.instanceMethod yX1_count, Cond.selects RX1 yX1_count yX1_count, Cond.code yX1_count cX1_count 1 (some .int), Cond.methodLink RX0 88 yX1_wayIn, Cond.instanceMethod yX1_wayIn, Cond.selects RX1 yX1_wayIn yX1_wayIn, Cond.code yX1_wayIn cX1_wayIn 14 (some .int), Cond.fieldLink RX1 9 "RampJam$Yard" "sizes" "[I", Cond.constantLong RX1 50 (-1), Cond.methodLink RX1 52 yX1_barredTo, Cond.instanceMethod yX1_barredTo, Cond.selects RX1 yX1_barredTo yX1_barredTo]
def wsX2_fewestMoves_r4 : List Cond := [Cond.code yX1_barredTo cX1_barredTo 2 (some .long), Cond.fieldLink RX1 34 "RampJam$Yard" "rampCell" "J", Cond.methodLink RX0 92 yX0_addDriven, Cond.instanceMethod yX0_addDriven, Cond.selects RX0 yX0_addDriven yX0_addDriven, Cond.code yX0_addDriven cX0_addDriven 7 none, Cond.static yX2_moved, Cond.code yX2_moved cX2_moved 3 (some .int), Cond.methodLink RX0 100 yX0_codeOfMove, Cond.static yX0_codeOfMove, Cond.code yX0_codeOfMove cX0_codeOfMove 2 (some .int), Cond.methodLink RX0 49 yX0_traceWay, Cond.instanceMethod yX0_traceWay, Cond.selects RX0 yX0_traceWay yX0_traceWay, Cond.code yX0_traceWay cX0_traceWay 3 none, Cond.fieldLink RX0 52 "RampJam$Search" "solvedMoves" "I", Cond.fieldLink RX0 55 "RampJam$Search" "solvedCells" "I", Cond.fieldLink RX0 58 "RampJam$Search" "solvedFirstMove" "I", Cond.methodLink RX0 73 Lib.Math.abs.name, Cond.static Lib.Math.abs.name, Cond.initialized "java/lang/Math", Cond.code Lib.Math.abs.name Lib.Math.abs.code 1 (some .int), Cond.methodLink RX0 69 yX0_cellsOfMove, Cond.static yX0_cellsOfMove]
def wsX2_fewestMoves_r5 : List Cond := [Cond.code yX0_cellsOfMove cX0_cellsOfMove 1 (some .int), Cond.methodLink RX2 156 yX0_movesToSolved, Cond.instanceMethod yX0_movesToSolved, Cond.selects RX0 yX0_movesToSolved yX0_movesToSolved, Cond.code yX0_movesToSolved cX0_movesToSolved 1 (some .int)]
def wsX2_fewestMoves : List Cond := .code yX2_fewestMoves cX2_fewestMoves 1 (some .int) :: ((wsX2_fewestMoves_r1 ++ (wsX2_fewestMoves_r2 ++ (wsX2_fewestMoves_r3 ++ (wsX2_fewestMoves_r4 ++ wsX2_fewestMoves_r5)))) ++ wsX20 ++ wsX00 ++ wsX10)
def wsX2_hint_r1 : List Cond := [Cond.fieldLink RX2 21 "RampJam" "search" "LRampJam$Search;", Cond.methodLink RX2 152 yX2_searchFromNow, Cond.instanceMethod yX2_searchFromNow, Cond.selects RX2 yX2_searchFromNow yX2_searchFromNow, Cond.initialized RX2, Cond.code yX2_searchFromNow cX2_searchFromNow 1 none, Cond.fieldLink RX2 106 "RampJam" "isSearched" "Z", Cond.fieldLink RX2 57 "RampJam" "position" "I", Cond.methodLink RX2 177 yX0_lookFrom, Cond.instanceMethod yX0_lookFrom, Cond.selects RX0 yX0_lookFrom yX0_lookFrom, Cond.initialized RX0, Cond.code yX0_lookFrom cX0_lookFrom 3 none, Cond.fieldLink RX0 21 "RampJam$Search" "slots" "[I", Cond.fieldLink RX0 28 "RampJam$Search" "foundCount" "I", Cond.fieldLink RX0 38 "RampJam$Search" "firstSolved" "I", Cond.methodLink RX0 32 yJ7_fill_53178, Cond.static yJ7_fill_53178, Cond.initialized RJ7, Cond.code yJ7_fill_53178 cJ7_fill_53178 4 none, Cond.methodLink RX0 41 yX0_addIfNew, Cond.instanceMethod yX0_addIfNew, Cond.selects RX0 yX0_addIfNew yX0_addIfNew, Cond.code yX0_addIfNew cX0_addIfNew 6 none]
def wsX2_hint_r2 : List Cond := [Cond.fieldLink RX0 9 "RampJam$Search" "found" "[I", Cond.fieldLink RX0 15 "RampJam$Search" "origins" "[I", Cond.fieldLink RX0 18 "RampJam$Search" "moveCodes" "[I", Cond.methodLink RX0 103 yX0_slotFor, Cond.instanceMethod yX0_slotFor, Cond.selects RX0 yX0_slotFor yX0_slotFor, Cond.code yX0_slotFor cX0_slotFor 6 (some .int), Cond.constant RX0 106 (-1640531535), Cond.static yX2_placeIn, Cond.code yX2_placeIn cX2_placeIn 2 (some .int), Cond.methodLink RX0 45 yX0_addReachedFrom, Cond.instanceMethod yX0_addReachedFrom, Cond.selects RX0 yX0_addReachedFrom yX0_addReachedFrom, Cond.code yX0_addReachedFrom cX0_addReachedFrom 6 none, Cond.fieldLink RX0 24 "RampJam$Search" "yard" "LRampJam$Yard;", Cond.methodLink RX0 61 yX0_isFound, Cond.instanceMethod yX0_isFound, Cond.selects RX0 yX0_isFound yX0_isFound, Cond.code yX0_isFound cX0_isFound 2 (some .boolean), Cond.methodLink RX0 78 yX1_filledIn, Cond.instanceMethod yX1_filledIn, Cond.selects RX1 yX1_filledIn yX1_filledIn, Cond.initialized RX1, Cond.code yX1_filledIn cX1_filledIn 5 (some .long)]
def wsX2_hint_r3 : List Cond := [Cond.fieldLink RX1 26 "RampJam$Yard" "vehicleCount" "I", Cond.methodLink RX1 46 yX1_cellsIn, Cond.instanceMethod yX1_cellsIn, Cond.selects RX1 yX1_cellsIn yX1_cellsIn, Cond.code yX1_cellsIn cX1_cellsIn 4 (some .long), Cond.fieldLink RX1 15 "RampJam$Yard" "acrosses" "[Z", Cond.fieldLink RX1 22 "RampJam$Yard" "shapes" "[J", Cond.methodLink RX1 38 yX1_has, Cond.instanceMethod yX1_has, Cond.selects RX1 yX1_has yX1_has, Cond.code yX1_has cX1_has 2 (some .boolean), Cond.methodLink RX0 84 yX1_count, Cond.instanceMethod yX1_count, Cond.selects RX1 yX1_count yX1_count, Cond.code yX1_count cX1_count 1 (some .int), Cond.methodLink RX0 88 yX1_wayIn, Cond.instanceMethod yX1_wayIn, Cond.selects RX1 yX1_wayIn yX1_wayIn, Cond.code yX1_wayIn cX1_wayIn 14 (some .int), Cond.fieldLink RX1 9 "RampJam$Yard" "sizes" "[I", Cond.constantLong RX1 50 (-1), Cond.methodLink RX1 52 yX1_barredTo, Cond.instanceMethod yX1_barredTo, Cond.selects RX1 yX1_barredTo yX1_barredTo]
def wsX2_hint_r4 : List Cond := [Cond.code yX1_barredTo cX1_barredTo 2 (some .long), Cond.fieldLink RX1 34 "RampJam$Yard" "rampCell" "J", Cond.methodLink RX0 92 yX0_addDriven, Cond.instanceMethod yX0_addDriven, Cond.selects RX0 yX0_addDriven yX0_addDriven, Cond.code yX0_addDriven cX0_addDriven 7 none, Cond.static yX2_moved, Cond.code yX2_moved cX2_moved 3 (some .int), Cond.methodLink RX0 100 yX0_codeOfMove, Cond.static yX0_codeOfMove, Cond.code yX0_codeOfMove cX0_codeOfMove 2 (some .int), Cond.methodLink RX0 49 yX0_traceWay, Cond.instanceMethod yX0_traceWay, Cond.selects RX0 yX0_traceWay yX0_traceWay, Cond.code yX0_traceWay cX0_traceWay 3 none, Cond.fieldLink RX0 52 "RampJam$Search" "solvedMoves" "I", Cond.fieldLink RX0 55 "RampJam$Search" "solvedCells" "I", Cond.fieldLink RX0 58 "RampJam$Search" "solvedFirstMove" "I", Cond.methodLink RX0 73 Lib.Math.abs.name, Cond.static Lib.Math.abs.name, Cond.initialized "java/lang/Math", Cond.code Lib.Math.abs.name Lib.Math.abs.code 1 (some .int), Cond.methodLink RX0 69 yX0_cellsOfMove, Cond.static yX0_cellsOfMove]
def wsX2_hint_r5 : List Cond := [Cond.code yX0_cellsOfMove cX0_cellsOfMove 1 (some .int), Cond.methodLink RX2 159 yX0_firstMoveToSolved, Cond.instanceMethod yX0_firstMoveToSolved, Cond.selects RX0 yX0_firstMoveToSolved yX0_firstMoveToSolved, Cond.code yX0_firstMoveToSolved cX0_firstMoveToSolved 1 (some .int)]
def wsX2_hint : List Cond := .code yX2_hint cX2_hint 1 (some .int) :: ((wsX2_hint_r1 ++ (wsX2_hint_r2 ++ (wsX2_hint_r3 ++ (wsX2_hint_r4 ++ wsX2_hint_r5)))) ++ wsX20 ++ wsX00 ++ wsX10)
def wsX2_solve_r1 : List Cond := [Cond.fieldLink RX2 21 "RampJam" "search" "LRampJam$Search;", Cond.fieldLink RX2 44 "RampJam" "moveCount" "I", Cond.fieldLink RX2 136 "RampJam" "drivenCells" "I", Cond.methodLink RX2 152 yX2_searchFromNow, Cond.instanceMethod yX2_searchFromNow, Cond.selects RX2 yX2_searchFromNow yX2_searchFromNow, Cond.initialized RX2, Cond.code yX2_searchFromNow cX2_searchFromNow 1 none, Cond.fieldLink RX2 106 "RampJam" "isSearched" "Z", Cond.fieldLink RX2 57 "RampJam" "position" "I", Cond.methodLink RX2 177 yX0_lookFrom, Cond.instanceMethod yX0_lookFrom, Cond.selects RX0 yX0_lookFrom yX0_lookFrom, Cond.initialized RX0, Cond.code yX0_lookFrom cX0_lookFrom 3 none, Cond.fieldLink RX0 21 "RampJam$Search" "slots" "[I", Cond.fieldLink RX0 28 "RampJam$Search" "foundCount" "I", Cond.fieldLink RX0 38 "RampJam$Search" "firstSolved" "I", Cond.methodLink RX0 32 yJ7_fill_53178, Cond.static yJ7_fill_53178, Cond.initialized RJ7, Cond.code yJ7_fill_53178 cJ7_fill_53178 4 none, Cond.methodLink RX0 41 yX0_addIfNew, Cond.instanceMethod yX0_addIfNew]
def wsX2_solve_r2 : List Cond := [Cond.selects RX0 yX0_addIfNew yX0_addIfNew, Cond.code yX0_addIfNew cX0_addIfNew 6 none, Cond.fieldLink RX0 9 "RampJam$Search" "found" "[I", Cond.fieldLink RX0 15 "RampJam$Search" "origins" "[I", Cond.fieldLink RX0 18 "RampJam$Search" "moveCodes" "[I", Cond.methodLink RX0 103 yX0_slotFor, Cond.instanceMethod yX0_slotFor, Cond.selects RX0 yX0_slotFor yX0_slotFor, Cond.code yX0_slotFor cX0_slotFor 6 (some .int), Cond.constant RX0 106 (-1640531535), Cond.static yX2_placeIn, Cond.code yX2_placeIn cX2_placeIn 2 (some .int), Cond.methodLink RX0 45 yX0_addReachedFrom, Cond.instanceMethod yX0_addReachedFrom, Cond.selects RX0 yX0_addReachedFrom yX0_addReachedFrom, Cond.code yX0_addReachedFrom cX0_addReachedFrom 6 none, Cond.fieldLink RX0 24 "RampJam$Search" "yard" "LRampJam$Yard;", Cond.methodLink RX0 61 yX0_isFound, Cond.instanceMethod yX0_isFound, Cond.selects RX0 yX0_isFound yX0_isFound, Cond.code yX0_isFound cX0_isFound 2 (some .boolean), Cond.methodLink RX0 78 yX1_filledIn, Cond.instanceMethod yX1_filledIn, Cond.selects RX1 yX1_filledIn yX1_filledIn]
def wsX2_solve_r3 : List Cond := [Cond.initialized RX1, Cond.code yX1_filledIn cX1_filledIn 5 (some .long), Cond.fieldLink RX1 26 "RampJam$Yard" "vehicleCount" "I", Cond.methodLink RX1 46 yX1_cellsIn, Cond.instanceMethod yX1_cellsIn, Cond.selects RX1 yX1_cellsIn yX1_cellsIn, Cond.code yX1_cellsIn cX1_cellsIn 4 (some .long), Cond.fieldLink RX1 15 "RampJam$Yard" "acrosses" "[Z", Cond.fieldLink RX1 22 "RampJam$Yard" "shapes" "[J", Cond.methodLink RX1 38 yX1_has, Cond.instanceMethod yX1_has, Cond.selects RX1 yX1_has yX1_has, Cond.code yX1_has cX1_has 2 (some .boolean), Cond.methodLink RX0 84 yX1_count, Cond.instanceMethod yX1_count, Cond.selects RX1 yX1_count yX1_count, Cond.code yX1_count cX1_count 1 (some .int), Cond.methodLink RX0 88 yX1_wayIn, Cond.instanceMethod yX1_wayIn, Cond.selects RX1 yX1_wayIn yX1_wayIn, Cond.code yX1_wayIn cX1_wayIn 14 (some .int), Cond.fieldLink RX1 9 "RampJam$Yard" "sizes" "[I", Cond.constantLong RX1 50 (-1), Cond.methodLink RX1 52 yX1_barredTo]
def wsX2_solve_r4 : List Cond := [Cond.instanceMethod yX1_barredTo, Cond.selects RX1 yX1_barredTo yX1_barredTo, Cond.code yX1_barredTo cX1_barredTo 2 (some .long), Cond.fieldLink RX1 34 "RampJam$Yard" "rampCell" "J", Cond.methodLink RX0 92 yX0_addDriven, Cond.instanceMethod yX0_addDriven, Cond.selects RX0 yX0_addDriven yX0_addDriven, Cond.code yX0_addDriven cX0_addDriven 7 none, Cond.static yX2_moved, Cond.code yX2_moved cX2_moved 3 (some .int), Cond.methodLink RX0 100 yX0_codeOfMove, Cond.static yX0_codeOfMove, Cond.code yX0_codeOfMove cX0_codeOfMove 2 (some .int), Cond.methodLink RX0 49 yX0_traceWay, Cond.instanceMethod yX0_traceWay, Cond.selects RX0 yX0_traceWay yX0_traceWay, Cond.code yX0_traceWay cX0_traceWay 3 none, Cond.fieldLink RX0 52 "RampJam$Search" "solvedMoves" "I", Cond.fieldLink RX0 55 "RampJam$Search" "solvedCells" "I", Cond.fieldLink RX0 58 "RampJam$Search" "solvedFirstMove" "I", Cond.methodLink RX0 73 Lib.Math.abs.name, Cond.static Lib.Math.abs.name, Cond.initialized "java/lang/Math", Cond.code Lib.Math.abs.name Lib.Math.abs.code 1 (some .int)]
def wsX2_solve_r5 : List Cond := [Cond.methodLink RX0 69 yX0_cellsOfMove, Cond.static yX0_cellsOfMove, Cond.code yX0_cellsOfMove cX0_cellsOfMove 1 (some .int), Cond.methodLink RX2 156 yX0_movesToSolved, Cond.instanceMethod yX0_movesToSolved, Cond.selects RX0 yX0_movesToSolved yX0_movesToSolved, Cond.code yX0_movesToSolved cX0_movesToSolved 1 (some .int), Cond.methodLink RX2 162 yX0_cellsToSolved, Cond.instanceMethod yX0_cellsToSolved, Cond.selects RX0 yX0_cellsToSolved yX0_cellsToSolved, Cond.code yX0_cellsToSolved cX0_cellsToSolved 1 (some .int), Cond.methodLink RX2 165 yX0_solvedPosition, Cond.instanceMethod yX0_solvedPosition, Cond.selects RX0 yX0_solvedPosition yX0_solvedPosition, Cond.code yX0_solvedPosition cX0_solvedPosition 1 (some .int), Cond.methodLink RX2 80 yX2_standAt, Cond.instanceMethod yX2_standAt, Cond.selects RX2 yX2_standAt yX2_standAt, Cond.code yX2_standAt cX2_standAt 2 none]
def wsX2_solve : List Cond := .code yX2_solve cX2_solve 2 (some .int) :: ((wsX2_solve_r1 ++ (wsX2_solve_r2 ++ (wsX2_solve_r3 ++ (wsX2_solve_r4 ++ wsX2_solve_r5)))) ++ wsX20 ++ wsX00 ++ wsX10)
def wsX2_canReach_r1 : List Cond := [Cond.classLink RX2 113 "java/lang/IndexOutOfBoundsException", Cond.initialized "java/lang/IndexOutOfBoundsException", Cond.classLink RX2 29 "java/lang/IllegalArgumentException", Cond.initialized "java/lang/IllegalArgumentException", Cond.fieldLink RX2 10 "RampJam" "yard" "LRampJam$Yard;", Cond.fieldLink RX2 21 "RampJam" "search" "LRampJam$Search;", Cond.methodLink RX2 110 yX1_has, Cond.instanceMethod yX1_has, Cond.selects RX1 yX1_has yX1_has, Cond.initialized RX1, Cond.code yX1_has cX1_has 2 (some .boolean), Cond.fieldLink RX1 26 "RampJam$Yard" "vehicleCount" "I", Cond.methodLink RX2 152 yX2_searchFromNow, Cond.instanceMethod yX2_searchFromNow, Cond.selects RX2 yX2_searchFromNow yX2_searchFromNow, Cond.initialized RX2, Cond.code yX2_searchFromNow cX2_searchFromNow 1 none, Cond.fieldLink RX2 106 "RampJam" "isSearched" "Z", Cond.fieldLink RX2 57 "RampJam" "position" "I", Cond.methodLink RX2 177 yX0_lookFrom, Cond.instanceMethod yX0_lookFrom, Cond.selects RX0 yX0_lookFrom yX0_lookFrom, Cond.initialized RX0, Cond.code yX0_lookFrom cX0_lookFrom 3 none]
def wsX2_canReach_r2 : List Cond := [Cond.fieldLink RX0 21 "RampJam$Search" "slots" "[I", Cond.fieldLink RX0 28 "RampJam$Search" "foundCount" "I", Cond.fieldLink RX0 38 "RampJam$Search" "firstSolved" "I", Cond.methodLink RX0 32 yJ7_fill_53178, Cond.static yJ7_fill_53178, Cond.initialized RJ7, Cond.code yJ7_fill_53178 cJ7_fill_53178 4 none, Cond.methodLink RX0 41 yX0_addIfNew, Cond.instanceMethod yX0_addIfNew, Cond.selects RX0 yX0_addIfNew yX0_addIfNew, Cond.code yX0_addIfNew cX0_addIfNew 6 none, Cond.fieldLink RX0 9 "RampJam$Search" "found" "[I", Cond.fieldLink RX0 15 "RampJam$Search" "origins" "[I", Cond.fieldLink RX0 18 "RampJam$Search" "moveCodes" "[I", Cond.methodLink RX0 103 yX0_slotFor, Cond.instanceMethod yX0_slotFor, Cond.selects RX0 yX0_slotFor yX0_slotFor, Cond.code yX0_slotFor cX0_slotFor 6 (some .int), Cond.constant RX0 106 (-1640531535), Cond.static yX2_placeIn, Cond.code yX2_placeIn cX2_placeIn 2 (some .int), Cond.methodLink RX0 45 yX0_addReachedFrom, Cond.instanceMethod yX0_addReachedFrom, Cond.selects RX0 yX0_addReachedFrom yX0_addReachedFrom]
def wsX2_canReach_r3 : List Cond := [Cond.code yX0_addReachedFrom cX0_addReachedFrom 6 none, Cond.fieldLink RX0 24 "RampJam$Search" "yard" "LRampJam$Yard;", Cond.methodLink RX0 61 yX0_isFound, Cond.instanceMethod yX0_isFound, Cond.selects RX0 yX0_isFound yX0_isFound, Cond.code yX0_isFound cX0_isFound 2 (some .boolean), Cond.methodLink RX0 78 yX1_filledIn, Cond.instanceMethod yX1_filledIn, Cond.selects RX1 yX1_filledIn yX1_filledIn, Cond.code yX1_filledIn cX1_filledIn 5 (some .long), Cond.methodLink RX1 46 yX1_cellsIn, Cond.instanceMethod yX1_cellsIn, Cond.selects RX1 yX1_cellsIn yX1_cellsIn, Cond.code yX1_cellsIn cX1_cellsIn 4 (some .long), Cond.fieldLink RX1 15 "RampJam$Yard" "acrosses" "[Z", Cond.fieldLink RX1 22 "RampJam$Yard" "shapes" "[J", Cond.methodLink RX1 38 yX1_has, Cond.methodLink RX0 84 yX1_count, Cond.instanceMethod yX1_count, Cond.selects RX1 yX1_count yX1_count, Cond.code yX1_count cX1_count 1 (some .int), Cond.methodLink RX0 88 yX1_wayIn, Cond.instanceMethod yX1_wayIn, Cond.selects RX1 yX1_wayIn yX1_wayIn]
def wsX2_canReach_r4 : List Cond := [Cond.code yX1_wayIn cX1_wayIn 14 (some .int), Cond.fieldLink RX1 9 "RampJam$Yard" "sizes" "[I", Cond.constantLong RX1 50 (-1), Cond.methodLink RX1 52 yX1_barredTo, Cond.instanceMethod yX1_barredTo, Cond.selects RX1 yX1_barredTo yX1_barredTo, Cond.code yX1_barredTo cX1_barredTo 2 (some .long), Cond.fieldLink RX1 34 "RampJam$Yard" "rampCell" "J", Cond.methodLink RX0 92 yX0_addDriven, Cond.instanceMethod yX0_addDriven, Cond.selects RX0 yX0_addDriven yX0_addDriven, Cond.code yX0_addDriven cX0_addDriven 7 none, Cond.static yX2_moved, Cond.code yX2_moved cX2_moved 3 (some .int), Cond.methodLink RX0 100 yX0_codeOfMove, Cond.static yX0_codeOfMove, Cond.code yX0_codeOfMove cX0_codeOfMove 2 (some .int), Cond.methodLink RX0 49 yX0_traceWay, Cond.instanceMethod yX0_traceWay, Cond.selects RX0 yX0_traceWay yX0_traceWay, Cond.code yX0_traceWay cX0_traceWay 3 none, Cond.fieldLink RX0 52 "RampJam$Search" "solvedMoves" "I", Cond.fieldLink RX0 55 "RampJam$Search" "solvedCells" "I", Cond.fieldLink RX0 58 "RampJam$Search" "solvedFirstMove" "I"]
def wsX2_canReach_r5 : List Cond := [Cond.methodLink RX0 73 Lib.Math.abs.name, Cond.static Lib.Math.abs.name, Cond.initialized "java/lang/Math", Cond.code Lib.Math.abs.name Lib.Math.abs.code 1 (some .int), Cond.methodLink RX0 69 yX0_cellsOfMove, Cond.static yX0_cellsOfMove, Cond.code yX0_cellsOfMove cX0_cellsOfMove 1 (some .int), Cond.methodLink RX2 170 yX0_findsAt, Cond.instanceMethod yX0_findsAt, Cond.selects RX0 yX0_findsAt yX0_findsAt, Cond.code yX0_findsAt cX0_findsAt 4 (some .boolean)]
def wsX2_canReach : List Cond := .code yX2_canReach cX2_canReach 3 (some .boolean) :: ((wsX2_canReach_r1 ++ (wsX2_canReach_r2 ++ (wsX2_canReach_r3 ++ (wsX2_canReach_r4 ++ wsX2_canReach_r5)))) ++ wsX20 ++ wsX10 ++ wsX00 ++ (vx_atS RX2 117 "java/lang/IndexOutOfBoundsException" ["java/lang/RuntimeException", "java/lang/Exception"]).filter goodWord ++ (vx_atS RX2 33 "java/lang/IllegalArgumentException" ["java/lang/RuntimeException", "java/lang/Exception"]).filter goodWord)
def wsX3_init : List Cond := .code yX3_init cX3_init 1 none :: ([.methodLink RX3 1 objectInit, .instanceMethod objectInit, .code objectInit ⟨#[0xb1]⟩ 1 none, .arrayClass .int, .fieldLink RX3 7 "RampJamModel" "cellsOf" "[I", .fieldLink RX3 13 "RampJamModel" "isAcross" "[I", .fieldLink RX3 16 "RampJamModel" "lineOf" "[I", .fieldLink RX3 19 "RampJamModel" "place" "[I", .fieldLink RX3 22 "RampJamModel" "parked" "[I", .fieldLink RX3 25 "RampJamModel" "rampAt" "I", .fieldLink RX3 29 "RampJamModel" "yard" "[I", .fieldLink RX3 32 "RampJamModel" "found" "[I", .fieldLink RX3 35 "RampJamModel" "from" "[I", .fieldLink RX3 38 "RampJamModel" "by" "[I", .fieldLink RX3 41 "RampJamModel" "depth" "[I", .fieldLink RX3 44 "RampJamModel" "slots" "[I", .fieldLink RX3 47 "RampJamModel" "kept" "[I"] ++ wsX30)
def wsX3_thrown : List Cond := .code yX3_thrown cX3_thrown 1 (some .int) :: ([.fieldLink RX3 50 "RampJamModel" "thrown" "I"] ++ wsX30)
def wsX3_isLine : List Cond := .code yX3_isLine cX3_isLine 1 (some .boolean) :: ([])
def wsX3_isVehicle : List Cond := .code yX3_isVehicle cX3_isVehicle 2 (some .boolean) :: ([.fieldLink RX3 53 "RampJamModel" "many" "I", .fieldLink RX3 50 "RampJamModel" "thrown" "I"] ++ wsX30)
def wsX3_cell : List Cond := .code yX3_cell cX3_cell 3 (some .int) :: ([])
def wsX3_laysYard : List Cond := .code yX3_laysYard cX3_laysYard 3 none :: ([.fieldLink RX3 29 "RampJamModel" "yard" "[I", .fieldLink RX3 53 "RampJamModel" "many" "I", .fieldLink RX3 7 "RampJamModel" "cellsOf" "[I", .fieldLink RX3 13 "RampJamModel" "isAcross" "[I", .fieldLink RX3 16 "RampJamModel" "lineOf" "[I", .fieldLink RX3 19 "RampJamModel" "place" "[I", .methodLink RX3 56 yX3_cell, .static yX3_cell, .initialized RX3, .code yX3_cell cX3_cell 3 (some .int)] ++ wsX30)
def wsX3_isOpen : List Cond := .code yX3_isOpen cX3_isOpen 4 (some .boolean) :: ([.fieldLink RX3 13 "RampJamModel" "isAcross" "[I", .fieldLink RX3 16 "RampJamModel" "lineOf" "[I", .fieldLink RX3 29 "RampJamModel" "yard" "[I", .fieldLink RX3 7 "RampJamModel" "cellsOf" "[I", .fieldLink RX3 25 "RampJamModel" "rampAt" "I", .methodLink RX3 60 yX3_isLine, .static yX3_isLine, .initialized RX3, .code yX3_isLine cX3_isLine 1 (some .boolean), .methodLink RX3 56 yX3_cell, .static yX3_cell, .code yX3_cell cX3_cell 3 (some .int)] ++ wsX30)
def wsX3_way : List Cond := .code yX3_way cX3_way 4 (some .int) :: ([.fieldLink RX3 19 "RampJamModel" "place" "[I", .fieldLink RX3 7 "RampJamModel" "cellsOf" "[I", .methodLink RX3 64 yX3_isOpen, .instanceMethod yX3_isOpen, .selects RX3 yX3_isOpen yX3_isOpen, .initialized RX3, .code yX3_isOpen cX3_isOpen 4 (some .boolean), .fieldLink RX3 13 "RampJamModel" "isAcross" "[I", .fieldLink RX3 16 "RampJamModel" "lineOf" "[I", .fieldLink RX3 29 "RampJamModel" "yard" "[I", .fieldLink RX3 25 "RampJamModel" "rampAt" "I", .methodLink RX3 60 yX3_isLine, .static yX3_isLine, .code yX3_isLine cX3_isLine 1 (some .boolean), .methodLink RX3 56 yX3_cell, .static yX3_cell, .code yX3_cell cX3_cell 3 (some .int)] ++ wsX30)
def wsX3_park : List Cond := .code yX3_park cX3_park 12 (some .int) :: ([.fieldLink RX3 53 "RampJamModel" "many" "I", .fieldLink RX3 50 "RampJamModel" "thrown" "I", .fieldLink RX3 71 "RampJamModel" "moves" "I", .fieldLink RX3 29 "RampJamModel" "yard" "[I", .fieldLink RX3 25 "RampJamModel" "rampAt" "I", .fieldLink RX3 7 "RampJamModel" "cellsOf" "[I", .fieldLink RX3 13 "RampJamModel" "isAcross" "[I", .fieldLink RX3 16 "RampJamModel" "lineOf" "[I", .fieldLink RX3 19 "RampJamModel" "place" "[I", .fieldLink RX3 22 "RampJamModel" "parked" "[I", .methodLink RX3 60 yX3_isLine, .static yX3_isLine, .initialized RX3, .code yX3_isLine cX3_isLine 1 (some .boolean), .methodLink RX3 68 yX3_laysYard, .instanceMethod yX3_laysYard, .selects RX3 yX3_laysYard yX3_laysYard, .code yX3_laysYard cX3_laysYard 3 none, .methodLink RX3 56 yX3_cell, .static yX3_cell, .code yX3_cell cX3_cell 3 (some .int)] ++ wsX30)
def wsX3_ramp : List Cond := .code yX3_ramp cX3_ramp 5 none :: ([.fieldLink RX3 29 "RampJamModel" "yard" "[I", .fieldLink RX3 71 "RampJamModel" "moves" "I", .fieldLink RX3 7 "RampJamModel" "cellsOf" "[I", .fieldLink RX3 50 "RampJamModel" "thrown" "I", .fieldLink RX3 25 "RampJamModel" "rampAt" "I", .methodLink RX3 60 yX3_isLine, .static yX3_isLine, .initialized RX3, .code yX3_isLine cX3_isLine 1 (some .boolean), .methodLink RX3 68 yX3_laysYard, .instanceMethod yX3_laysYard, .selects RX3 yX3_laysYard yX3_laysYard, .code yX3_laysYard cX3_laysYard 3 none, .fieldLink RX3 53 "RampJamModel" "many" "I", .fieldLink RX3 13 "RampJamModel" "isAcross" "[I", .fieldLink RX3 16 "RampJamModel" "lineOf" "[I", .fieldLink RX3 19 "RampJamModel" "place" "[I", .methodLink RX3 56 yX3_cell, .static yX3_cell, .code yX3_cell cX3_cell 3 (some .int)] ++ wsX30)
def wsX3_goes : List Cond := .code yX3_goes cX3_goes 3 none :: ([.fieldLink RX3 19 "RampJamModel" "place" "[I", .fieldLink RX3 71 "RampJamModel" "moves" "I", .fieldLink RX3 74 "RampJamModel" "driven" "I"] ++ wsX30)
def wsX3_drive_r1 : List Cond := [Cond.fieldLink RX3 50 "RampJamModel" "thrown" "I", Cond.methodLink RX3 77 yX3_isVehicle, Cond.instanceMethod yX3_isVehicle, Cond.selects RX3 yX3_isVehicle yX3_isVehicle, Cond.initialized RX3, Cond.code yX3_isVehicle cX3_isVehicle 2 (some .boolean), Cond.fieldLink RX3 53 "RampJamModel" "many" "I", Cond.methodLink RX3 68 yX3_laysYard, Cond.instanceMethod yX3_laysYard, Cond.selects RX3 yX3_laysYard yX3_laysYard, Cond.code yX3_laysYard cX3_laysYard 3 none, Cond.fieldLink RX3 29 "RampJamModel" "yard" "[I", Cond.fieldLink RX3 7 "RampJamModel" "cellsOf" "[I", Cond.fieldLink RX3 13 "RampJamModel" "isAcross" "[I", Cond.fieldLink RX3 16 "RampJamModel" "lineOf" "[I", Cond.fieldLink RX3 19 "RampJamModel" "place" "[I", Cond.methodLink RX3 56 yX3_cell, Cond.static yX3_cell, Cond.code yX3_cell cX3_cell 3 (some .int), Cond.methodLink RX3 80 yX3_way, Cond.instanceMethod yX3_way, Cond.selects RX3 yX3_way yX3_way, Cond.code yX3_way cX3_way 4 (some .int), Cond.methodLink RX3 64 yX3_isOpen]
def wsX3_drive_r2 : List Cond := [Cond.instanceMethod yX3_isOpen, Cond.selects RX3 yX3_isOpen yX3_isOpen, Cond.code yX3_isOpen cX3_isOpen 4 (some .boolean), Cond.fieldLink RX3 25 "RampJamModel" "rampAt" "I", Cond.methodLink RX3 60 yX3_isLine, Cond.static yX3_isLine, Cond.code yX3_isLine cX3_isLine 1 (some .boolean), Cond.methodLink RX3 84 yX3_goes, Cond.instanceMethod yX3_goes, Cond.selects RX3 yX3_goes yX3_goes, Cond.code yX3_goes cX3_goes 3 none, Cond.fieldLink RX3 71 "RampJamModel" "moves" "I", Cond.fieldLink RX3 74 "RampJamModel" "driven" "I"]
def wsX3_drive : List Cond := .code yX3_drive cX3_drive 5 none :: ((wsX3_drive_r1 ++ wsX3_drive_r2) ++ wsX30)
def wsX3_driveOn_r1 : List Cond := [Cond.methodLink RX3 77 yX3_isVehicle, Cond.instanceMethod yX3_isVehicle, Cond.selects RX3 yX3_isVehicle yX3_isVehicle, Cond.initialized RX3, Cond.code yX3_isVehicle cX3_isVehicle 2 (some .boolean), Cond.fieldLink RX3 53 "RampJamModel" "many" "I", Cond.fieldLink RX3 50 "RampJamModel" "thrown" "I", Cond.methodLink RX3 68 yX3_laysYard, Cond.instanceMethod yX3_laysYard, Cond.selects RX3 yX3_laysYard yX3_laysYard, Cond.code yX3_laysYard cX3_laysYard 3 none, Cond.fieldLink RX3 29 "RampJamModel" "yard" "[I", Cond.fieldLink RX3 7 "RampJamModel" "cellsOf" "[I", Cond.fieldLink RX3 13 "RampJamModel" "isAcross" "[I", Cond.fieldLink RX3 16 "RampJamModel" "lineOf" "[I", Cond.fieldLink RX3 19 "RampJamModel" "place" "[I", Cond.methodLink RX3 56 yX3_cell, Cond.static yX3_cell, Cond.code yX3_cell cX3_cell 3 (some .int), Cond.methodLink RX3 80 yX3_way, Cond.instanceMethod yX3_way, Cond.selects RX3 yX3_way yX3_way, Cond.code yX3_way cX3_way 4 (some .int), Cond.methodLink RX3 64 yX3_isOpen]
def wsX3_driveOn_r2 : List Cond := [Cond.instanceMethod yX3_isOpen, Cond.selects RX3 yX3_isOpen yX3_isOpen, Cond.code yX3_isOpen cX3_isOpen 4 (some .boolean), Cond.fieldLink RX3 25 "RampJamModel" "rampAt" "I", Cond.methodLink RX3 60 yX3_isLine, Cond.static yX3_isLine, Cond.code yX3_isLine cX3_isLine 1 (some .boolean), Cond.methodLink RX3 84 yX3_goes, Cond.instanceMethod yX3_goes, Cond.selects RX3 yX3_goes yX3_goes, Cond.code yX3_goes cX3_goes 3 none, Cond.fieldLink RX3 71 "RampJamModel" "moves" "I", Cond.fieldLink RX3 74 "RampJamModel" "driven" "I"]
def wsX3_driveOn : List Cond := .code yX3_driveOn cX3_driveOn 4 (some .int) :: ((wsX3_driveOn_r1 ++ wsX3_driveOn_r2) ++ wsX30)
def wsX3_restart : List Cond := .code yX3_restart cX3_restart 2 none :: ([.fieldLink RX3 50 "RampJamModel" "thrown" "I", .fieldLink RX3 53 "RampJamModel" "many" "I", .fieldLink RX3 19 "RampJamModel" "place" "[I", .fieldLink RX3 22 "RampJamModel" "parked" "[I", .fieldLink RX3 71 "RampJamModel" "moves" "I", .fieldLink RX3 74 "RampJamModel" "driven" "I"] ++ wsX30)
def wsX3_vehicles : List Cond := .code yX3_vehicles cX3_vehicles 1 (some .int) :: ([.fieldLink RX3 50 "RampJamModel" "thrown" "I", .fieldLink RX3 53 "RampJamModel" "many" "I"] ++ wsX30)
def wsX3_rowOf : List Cond := .code yX3_rowOf cX3_rowOf 2 (some .int) :: ([.fieldLink RX3 13 "RampJamModel" "isAcross" "[I", .fieldLink RX3 16 "RampJamModel" "lineOf" "[I", .fieldLink RX3 19 "RampJamModel" "place" "[I", .methodLink RX3 77 yX3_isVehicle, .instanceMethod yX3_isVehicle, .selects RX3 yX3_isVehicle yX3_isVehicle, .initialized RX3, .code yX3_isVehicle cX3_isVehicle 2 (some .boolean), .fieldLink RX3 53 "RampJamModel" "many" "I", .fieldLink RX3 50 "RampJamModel" "thrown" "I"] ++ wsX30)
def wsX3_columnOf : List Cond := .code yX3_columnOf cX3_columnOf 2 (some .int) :: ([.fieldLink RX3 13 "RampJamModel" "isAcross" "[I", .fieldLink RX3 19 "RampJamModel" "place" "[I", .fieldLink RX3 16 "RampJamModel" "lineOf" "[I", .methodLink RX3 77 yX3_isVehicle, .instanceMethod yX3_isVehicle, .selects RX3 yX3_isVehicle yX3_isVehicle, .initialized RX3, .code yX3_isVehicle cX3_isVehicle 2 (some .boolean), .fieldLink RX3 53 "RampJamModel" "many" "I", .fieldLink RX3 50 "RampJamModel" "thrown" "I"] ++ wsX30)
def wsX3_at : List Cond := .code yX3_at cX3_at 3 (some .int) :: ([.fieldLink RX3 50 "RampJamModel" "thrown" "I", .fieldLink RX3 29 "RampJamModel" "yard" "[I", .methodLink RX3 60 yX3_isLine, .static yX3_isLine, .initialized RX3, .code yX3_isLine cX3_isLine 1 (some .boolean), .methodLink RX3 68 yX3_laysYard, .instanceMethod yX3_laysYard, .selects RX3 yX3_laysYard yX3_laysYard, .code yX3_laysYard cX3_laysYard 3 none, .fieldLink RX3 53 "RampJamModel" "many" "I", .fieldLink RX3 7 "RampJamModel" "cellsOf" "[I", .fieldLink RX3 13 "RampJamModel" "isAcross" "[I", .fieldLink RX3 16 "RampJamModel" "lineOf" "[I", .fieldLink RX3 19 "RampJamModel" "place" "[I", .methodLink RX3 56 yX3_cell, .static yX3_cell, .code yX3_cell cX3_cell 3 (some .int)] ++ wsX30)
def wsX3_freeWay_r1 : List Cond := [Cond.methodLink RX3 68 yX3_laysYard, Cond.instanceMethod yX3_laysYard, Cond.selects RX3 yX3_laysYard yX3_laysYard, Cond.initialized RX3, Cond.code yX3_laysYard cX3_laysYard 3 none, Cond.fieldLink RX3 29 "RampJamModel" "yard" "[I", Cond.fieldLink RX3 53 "RampJamModel" "many" "I", Cond.fieldLink RX3 7 "RampJamModel" "cellsOf" "[I", Cond.fieldLink RX3 13 "RampJamModel" "isAcross" "[I", Cond.fieldLink RX3 16 "RampJamModel" "lineOf" "[I", Cond.fieldLink RX3 19 "RampJamModel" "place" "[I", Cond.methodLink RX3 56 yX3_cell, Cond.static yX3_cell, Cond.code yX3_cell cX3_cell 3 (some .int), Cond.methodLink RX3 77 yX3_isVehicle, Cond.instanceMethod yX3_isVehicle, Cond.selects RX3 yX3_isVehicle yX3_isVehicle, Cond.code yX3_isVehicle cX3_isVehicle 2 (some .boolean), Cond.fieldLink RX3 50 "RampJamModel" "thrown" "I", Cond.methodLink RX3 80 yX3_way, Cond.instanceMethod yX3_way, Cond.selects RX3 yX3_way yX3_way, Cond.code yX3_way cX3_way 4 (some .int), Cond.methodLink RX3 64 yX3_isOpen]
def wsX3_freeWay_r2 : List Cond := [Cond.instanceMethod yX3_isOpen, Cond.selects RX3 yX3_isOpen yX3_isOpen, Cond.code yX3_isOpen cX3_isOpen 4 (some .boolean), Cond.fieldLink RX3 25 "RampJamModel" "rampAt" "I", Cond.methodLink RX3 60 yX3_isLine, Cond.static yX3_isLine, Cond.code yX3_isLine cX3_isLine 1 (some .boolean)]
def wsX3_freeWay : List Cond := .code yX3_freeWay cX3_freeWay 3 (some .int) :: ((wsX3_freeWay_r1 ++ wsX3_freeWay_r2) ++ wsX30)
def wsX3_inTheWay : List Cond := .code yX3_inTheWay cX3_inTheWay 6 (some .int) :: ([.fieldLink RX3 50 "RampJamModel" "thrown" "I", .fieldLink RX3 53 "RampJamModel" "many" "I", .fieldLink RX3 19 "RampJamModel" "place" "[I", .fieldLink RX3 29 "RampJamModel" "yard" "[I", .methodLink RX3 68 yX3_laysYard, .instanceMethod yX3_laysYard, .selects RX3 yX3_laysYard yX3_laysYard, .initialized RX3, .code yX3_laysYard cX3_laysYard 3 none, .fieldLink RX3 7 "RampJamModel" "cellsOf" "[I", .fieldLink RX3 13 "RampJamModel" "isAcross" "[I", .fieldLink RX3 16 "RampJamModel" "lineOf" "[I", .methodLink RX3 56 yX3_cell, .static yX3_cell, .code yX3_cell cX3_cell 3 (some .int)] ++ wsX30)
def wsX3_isFree : List Cond := .code yX3_isFree cX3_isFree 1 (some .boolean) :: ([.fieldLink RX3 53 "RampJamModel" "many" "I", .fieldLink RX3 19 "RampJamModel" "place" "[I"] ++ wsX30)
def wsX3_isSolved : List Cond := .code yX3_isSolved cX3_isSolved 1 (some .boolean) :: ([.fieldLink RX3 50 "RampJamModel" "thrown" "I", .methodLink RX3 88 yX3_isFree, .instanceMethod yX3_isFree, .selects RX3 yX3_isFree yX3_isFree, .initialized RX3, .code yX3_isFree cX3_isFree 1 (some .boolean), .fieldLink RX3 53 "RampJamModel" "many" "I", .fieldLink RX3 19 "RampJamModel" "place" "[I"] ++ wsX30)
def wsX3_moves : List Cond := .code yX3_moves cX3_moves 1 (some .int) :: ([.fieldLink RX3 50 "RampJamModel" "thrown" "I", .fieldLink RX3 71 "RampJamModel" "moves" "I"] ++ wsX30)
def wsX3_driven : List Cond := .code yX3_driven cX3_driven 1 (some .int) :: ([.fieldLink RX3 50 "RampJamModel" "thrown" "I", .fieldLink RX3 74 "RampJamModel" "driven" "I"] ++ wsX30)
def wsX3_digit : List Cond := .code yX3_digit cX3_digit 4 (some .int) :: ([])
def wsX3_positionNow : List Cond := .code yX3_positionNow cX3_positionNow 3 (some .int) :: ([.fieldLink RX3 53 "RampJamModel" "many" "I", .fieldLink RX3 19 "RampJamModel" "place" "[I"] ++ wsX30)
def wsX3_takes : List Cond := .code yX3_takes cX3_takes 5 none :: ([.fieldLink RX3 44 "RampJamModel" "slots" "[I", .fieldLink RX3 32 "RampJamModel" "found" "[I", .fieldLink RX3 96 "RampJamModel" "foundMany" "I", .fieldLink RX3 35 "RampJamModel" "from" "[I", .fieldLink RX3 38 "RampJamModel" "by" "[I", .fieldLink RX3 41 "RampJamModel" "depth" "[I", .fieldLink RX3 99 "RampJamModel" "firstFree" "I", .methodLink RX3 92 yX3_positionNow, .instanceMethod yX3_positionNow, .selects RX3 yX3_positionNow yX3_positionNow, .initialized RX3, .code yX3_positionNow cX3_positionNow 3 (some .int), .fieldLink RX3 53 "RampJamModel" "many" "I", .fieldLink RX3 19 "RampJamModel" "place" "[I", .methodLink RX3 88 yX3_isFree, .instanceMethod yX3_isFree, .selects RX3 yX3_isFree yX3_isFree, .code yX3_isFree cX3_isFree 1 (some .boolean)] ++ wsX30)
def wsX3_tries_r1 : List Cond := [Cond.fieldLink RX3 19 "RampJamModel" "place" "[I", Cond.methodLink RX3 80 yX3_way, Cond.instanceMethod yX3_way, Cond.selects RX3 yX3_way yX3_way, Cond.initialized RX3, Cond.code yX3_way cX3_way 4 (some .int), Cond.fieldLink RX3 7 "RampJamModel" "cellsOf" "[I", Cond.methodLink RX3 64 yX3_isOpen, Cond.instanceMethod yX3_isOpen, Cond.selects RX3 yX3_isOpen yX3_isOpen, Cond.code yX3_isOpen cX3_isOpen 4 (some .boolean), Cond.fieldLink RX3 13 "RampJamModel" "isAcross" "[I", Cond.fieldLink RX3 16 "RampJamModel" "lineOf" "[I", Cond.fieldLink RX3 29 "RampJamModel" "yard" "[I", Cond.fieldLink RX3 25 "RampJamModel" "rampAt" "I", Cond.methodLink RX3 60 yX3_isLine, Cond.static yX3_isLine, Cond.code yX3_isLine cX3_isLine 1 (some .boolean), Cond.methodLink RX3 56 yX3_cell, Cond.static yX3_cell, Cond.code yX3_cell cX3_cell 3 (some .int), Cond.methodLink RX3 102 yX3_takes, Cond.instanceMethod yX3_takes, Cond.selects RX3 yX3_takes yX3_takes]
def wsX3_tries_r2 : List Cond := [Cond.code yX3_takes cX3_takes 5 none, Cond.fieldLink RX3 44 "RampJamModel" "slots" "[I", Cond.fieldLink RX3 32 "RampJamModel" "found" "[I", Cond.fieldLink RX3 96 "RampJamModel" "foundMany" "I", Cond.fieldLink RX3 35 "RampJamModel" "from" "[I", Cond.fieldLink RX3 38 "RampJamModel" "by" "[I", Cond.fieldLink RX3 41 "RampJamModel" "depth" "[I", Cond.fieldLink RX3 99 "RampJamModel" "firstFree" "I", Cond.methodLink RX3 92 yX3_positionNow, Cond.instanceMethod yX3_positionNow, Cond.selects RX3 yX3_positionNow yX3_positionNow, Cond.code yX3_positionNow cX3_positionNow 3 (some .int), Cond.fieldLink RX3 53 "RampJamModel" "many" "I", Cond.methodLink RX3 88 yX3_isFree, Cond.instanceMethod yX3_isFree, Cond.selects RX3 yX3_isFree yX3_isFree, Cond.code yX3_isFree cX3_isFree 1 (some .boolean)]
def wsX3_tries : List Cond := .code yX3_tries cX3_tries 7 none :: ((wsX3_tries_r1 ++ wsX3_tries_r2) ++ wsX30)
def wsX3_looks_r1 : List Cond := [Cond.fieldLink RX3 44 "RampJamModel" "slots" "[I", Cond.fieldLink RX3 53 "RampJamModel" "many" "I", Cond.fieldLink RX3 47 "RampJamModel" "kept" "[I", Cond.fieldLink RX3 19 "RampJamModel" "place" "[I", Cond.fieldLink RX3 96 "RampJamModel" "foundMany" "I", Cond.fieldLink RX3 99 "RampJamModel" "firstFree" "I", Cond.fieldLink RX3 32 "RampJamModel" "found" "[I", Cond.methodLink RX3 102 yX3_takes, Cond.instanceMethod yX3_takes, Cond.selects RX3 yX3_takes yX3_takes, Cond.initialized RX3, Cond.code yX3_takes cX3_takes 5 none, Cond.fieldLink RX3 35 "RampJamModel" "from" "[I", Cond.fieldLink RX3 38 "RampJamModel" "by" "[I", Cond.fieldLink RX3 41 "RampJamModel" "depth" "[I", Cond.methodLink RX3 92 yX3_positionNow, Cond.instanceMethod yX3_positionNow, Cond.selects RX3 yX3_positionNow yX3_positionNow, Cond.code yX3_positionNow cX3_positionNow 3 (some .int), Cond.methodLink RX3 88 yX3_isFree, Cond.instanceMethod yX3_isFree, Cond.selects RX3 yX3_isFree yX3_isFree, Cond.code yX3_isFree cX3_isFree 1 (some .boolean), Cond.methodLink RX3 105 yX3_digit]
def wsX3_looks_r2 : List Cond := [Cond.static yX3_digit, Cond.code yX3_digit cX3_digit 4 (some .int), Cond.methodLink RX3 68 yX3_laysYard, Cond.instanceMethod yX3_laysYard, Cond.selects RX3 yX3_laysYard yX3_laysYard, Cond.code yX3_laysYard cX3_laysYard 3 none, Cond.fieldLink RX3 29 "RampJamModel" "yard" "[I", Cond.fieldLink RX3 7 "RampJamModel" "cellsOf" "[I", Cond.fieldLink RX3 13 "RampJamModel" "isAcross" "[I", Cond.fieldLink RX3 16 "RampJamModel" "lineOf" "[I", Cond.methodLink RX3 56 yX3_cell, Cond.static yX3_cell, Cond.code yX3_cell cX3_cell 3 (some .int), Cond.methodLink RX3 109 yX3_tries, Cond.instanceMethod yX3_tries, Cond.selects RX3 yX3_tries yX3_tries, Cond.code yX3_tries cX3_tries 7 none, Cond.methodLink RX3 80 yX3_way, Cond.instanceMethod yX3_way, Cond.selects RX3 yX3_way yX3_way, Cond.code yX3_way cX3_way 4 (some .int), Cond.methodLink RX3 64 yX3_isOpen, Cond.instanceMethod yX3_isOpen, Cond.selects RX3 yX3_isOpen yX3_isOpen]
def wsX3_looks_r3 : List Cond := [Cond.code yX3_isOpen cX3_isOpen 4 (some .boolean), Cond.fieldLink RX3 25 "RampJamModel" "rampAt" "I", Cond.methodLink RX3 60 yX3_isLine, Cond.static yX3_isLine, Cond.code yX3_isLine cX3_isLine 1 (some .boolean)]
def wsX3_looks : List Cond := .code yX3_looks cX3_looks 3 none :: ((wsX3_looks_r1 ++ (wsX3_looks_r2 ++ wsX3_looks_r3)) ++ wsX30)
def wsX3_positions_r1 : List Cond := [Cond.fieldLink RX3 50 "RampJamModel" "thrown" "I", Cond.fieldLink RX3 96 "RampJamModel" "foundMany" "I", Cond.methodLink RX3 113 yX3_looks, Cond.instanceMethod yX3_looks, Cond.selects RX3 yX3_looks yX3_looks, Cond.initialized RX3, Cond.code yX3_looks cX3_looks 3 none, Cond.fieldLink RX3 44 "RampJamModel" "slots" "[I", Cond.fieldLink RX3 53 "RampJamModel" "many" "I", Cond.fieldLink RX3 47 "RampJamModel" "kept" "[I", Cond.fieldLink RX3 19 "RampJamModel" "place" "[I", Cond.fieldLink RX3 99 "RampJamModel" "firstFree" "I", Cond.fieldLink RX3 32 "RampJamModel" "found" "[I", Cond.methodLink RX3 102 yX3_takes, Cond.instanceMethod yX3_takes, Cond.selects RX3 yX3_takes yX3_takes, Cond.code yX3_takes cX3_takes 5 none, Cond.fieldLink RX3 35 "RampJamModel" "from" "[I", Cond.fieldLink RX3 38 "RampJamModel" "by" "[I", Cond.fieldLink RX3 41 "RampJamModel" "depth" "[I", Cond.methodLink RX3 92 yX3_positionNow, Cond.instanceMethod yX3_positionNow, Cond.selects RX3 yX3_positionNow yX3_positionNow, Cond.code yX3_positionNow cX3_positionNow 3 (some .int)]
def wsX3_positions_r2 : List Cond := [Cond.methodLink RX3 88 yX3_isFree, Cond.instanceMethod yX3_isFree, Cond.selects RX3 yX3_isFree yX3_isFree, Cond.code yX3_isFree cX3_isFree 1 (some .boolean), Cond.methodLink RX3 105 yX3_digit, Cond.static yX3_digit, Cond.code yX3_digit cX3_digit 4 (some .int), Cond.methodLink RX3 68 yX3_laysYard, Cond.instanceMethod yX3_laysYard, Cond.selects RX3 yX3_laysYard yX3_laysYard, Cond.code yX3_laysYard cX3_laysYard 3 none, Cond.fieldLink RX3 29 "RampJamModel" "yard" "[I", Cond.fieldLink RX3 7 "RampJamModel" "cellsOf" "[I", Cond.fieldLink RX3 13 "RampJamModel" "isAcross" "[I", Cond.fieldLink RX3 16 "RampJamModel" "lineOf" "[I", Cond.methodLink RX3 56 yX3_cell, Cond.static yX3_cell, Cond.code yX3_cell cX3_cell 3 (some .int), Cond.methodLink RX3 109 yX3_tries, Cond.instanceMethod yX3_tries, Cond.selects RX3 yX3_tries yX3_tries, Cond.code yX3_tries cX3_tries 7 none, Cond.methodLink RX3 80 yX3_way, Cond.instanceMethod yX3_way]
def wsX3_positions_r3 : List Cond := [Cond.selects RX3 yX3_way yX3_way, Cond.code yX3_way cX3_way 4 (some .int), Cond.methodLink RX3 64 yX3_isOpen, Cond.instanceMethod yX3_isOpen, Cond.selects RX3 yX3_isOpen yX3_isOpen, Cond.code yX3_isOpen cX3_isOpen 4 (some .boolean), Cond.fieldLink RX3 25 "RampJamModel" "rampAt" "I", Cond.methodLink RX3 60 yX3_isLine, Cond.static yX3_isLine, Cond.code yX3_isLine cX3_isLine 1 (some .boolean)]
def wsX3_positions : List Cond := .code yX3_positions cX3_positions 1 (some .int) :: ((wsX3_positions_r1 ++ (wsX3_positions_r2 ++ wsX3_positions_r3)) ++ wsX30)
def wsX3_fewestMoves_r1 : List Cond := [Cond.fieldLink RX3 50 "RampJamModel" "thrown" "I", Cond.fieldLink RX3 99 "RampJamModel" "firstFree" "I", Cond.fieldLink RX3 41 "RampJamModel" "depth" "[I", Cond.methodLink RX3 113 yX3_looks, Cond.instanceMethod yX3_looks, Cond.selects RX3 yX3_looks yX3_looks, Cond.initialized RX3, Cond.code yX3_looks cX3_looks 3 none, Cond.fieldLink RX3 44 "RampJamModel" "slots" "[I", Cond.fieldLink RX3 53 "RampJamModel" "many" "I", Cond.fieldLink RX3 47 "RampJamModel" "kept" "[I", Cond.fieldLink RX3 19 "RampJamModel" "place" "[I", Cond.fieldLink RX3 96 "RampJamModel" "foundMany" "I", Cond.fieldLink RX3 32 "RampJamModel" "found" "[I", Cond.methodLink RX3 102 yX3_takes, Cond.instanceMethod yX3_takes, Cond.selects RX3 yX3_takes yX3_takes, Cond.code yX3_takes cX3_takes 5 none, Cond.fieldLink RX3 35 "RampJamModel" "from" "[I", Cond.fieldLink RX3 38 "RampJamModel" "by" "[I", Cond.methodLink RX3 92 yX3_positionNow, Cond.instanceMethod yX3_positionNow, Cond.selects RX3 yX3_positionNow yX3_positionNow, Cond.code yX3_positionNow cX3_positionNow 3 (some .int)]
def wsX3_fewestMoves_r2 : List Cond := [Cond.methodLink RX3 88 yX3_isFree, Cond.instanceMethod yX3_isFree, Cond.selects RX3 yX3_isFree yX3_isFree, Cond.code yX3_isFree cX3_isFree 1 (some .boolean), Cond.methodLink RX3 105 yX3_digit, Cond.static yX3_digit, Cond.code yX3_digit cX3_digit 4 (some .int), Cond.methodLink RX3 68 yX3_laysYard, Cond.instanceMethod yX3_laysYard, Cond.selects RX3 yX3_laysYard yX3_laysYard, Cond.code yX3_laysYard cX3_laysYard 3 none, Cond.fieldLink RX3 29 "RampJamModel" "yard" "[I", Cond.fieldLink RX3 7 "RampJamModel" "cellsOf" "[I", Cond.fieldLink RX3 13 "RampJamModel" "isAcross" "[I", Cond.fieldLink RX3 16 "RampJamModel" "lineOf" "[I", Cond.methodLink RX3 56 yX3_cell, Cond.static yX3_cell, Cond.code yX3_cell cX3_cell 3 (some .int), Cond.methodLink RX3 109 yX3_tries, Cond.instanceMethod yX3_tries, Cond.selects RX3 yX3_tries yX3_tries, Cond.code yX3_tries cX3_tries 7 none, Cond.methodLink RX3 80 yX3_way, Cond.instanceMethod yX3_way]
def wsX3_fewestMoves_r3 : List Cond := [Cond.selects RX3 yX3_way yX3_way, Cond.code yX3_way cX3_way 4 (some .int), Cond.methodLink RX3 64 yX3_isOpen, Cond.instanceMethod yX3_isOpen, Cond.selects RX3 yX3_isOpen yX3_isOpen, Cond.code yX3_isOpen cX3_isOpen 4 (some .boolean), Cond.fieldLink RX3 25 "RampJamModel" "rampAt" "I", Cond.methodLink RX3 60 yX3_isLine, Cond.static yX3_isLine, Cond.code yX3_isLine cX3_isLine 1 (some .boolean)]
def wsX3_fewestMoves : List Cond := .code yX3_fewestMoves cX3_fewestMoves 1 (some .int) :: ((wsX3_fewestMoves_r1 ++ (wsX3_fewestMoves_r2 ++ wsX3_fewestMoves_r3)) ++ wsX30)
def wsX3_firstMoveTo : List Cond := .code yX3_firstMoveTo cX3_firstMoveTo 3 (some .int) :: ([.fieldLink RX3 35 "RampJamModel" "from" "[I", .fieldLink RX3 38 "RampJamModel" "by" "[I"] ++ wsX30)
def wsX3_hint_r1 : List Cond := [Cond.fieldLink RX3 50 "RampJamModel" "thrown" "I", Cond.fieldLink RX3 99 "RampJamModel" "firstFree" "I", Cond.methodLink RX3 113 yX3_looks, Cond.instanceMethod yX3_looks, Cond.selects RX3 yX3_looks yX3_looks, Cond.initialized RX3, Cond.code yX3_looks cX3_looks 3 none, Cond.fieldLink RX3 44 "RampJamModel" "slots" "[I", Cond.fieldLink RX3 53 "RampJamModel" "many" "I", Cond.fieldLink RX3 47 "RampJamModel" "kept" "[I", Cond.fieldLink RX3 19 "RampJamModel" "place" "[I", Cond.fieldLink RX3 96 "RampJamModel" "foundMany" "I", Cond.fieldLink RX3 32 "RampJamModel" "found" "[I", Cond.methodLink RX3 102 yX3_takes, Cond.instanceMethod yX3_takes, Cond.selects RX3 yX3_takes yX3_takes, Cond.code yX3_takes cX3_takes 5 none, Cond.fieldLink RX3 35 "RampJamModel" "from" "[I", Cond.fieldLink RX3 38 "RampJamModel" "by" "[I", Cond.fieldLink RX3 41 "RampJamModel" "depth" "[I", Cond.methodLink RX3 92 yX3_positionNow, Cond.instanceMethod yX3_positionNow, Cond.selects RX3 yX3_positionNow yX3_positionNow, Cond.code yX3_positionNow cX3_positionNow 3 (some .int)]
def wsX3_hint_r2 : List Cond := [Cond.methodLink RX3 88 yX3_isFree, Cond.instanceMethod yX3_isFree, Cond.selects RX3 yX3_isFree yX3_isFree, Cond.code yX3_isFree cX3_isFree 1 (some .boolean), Cond.methodLink RX3 105 yX3_digit, Cond.static yX3_digit, Cond.code yX3_digit cX3_digit 4 (some .int), Cond.methodLink RX3 68 yX3_laysYard, Cond.instanceMethod yX3_laysYard, Cond.selects RX3 yX3_laysYard yX3_laysYard, Cond.code yX3_laysYard cX3_laysYard 3 none, Cond.fieldLink RX3 29 "RampJamModel" "yard" "[I", Cond.fieldLink RX3 7 "RampJamModel" "cellsOf" "[I", Cond.fieldLink RX3 13 "RampJamModel" "isAcross" "[I", Cond.fieldLink RX3 16 "RampJamModel" "lineOf" "[I", Cond.methodLink RX3 56 yX3_cell, Cond.static yX3_cell, Cond.code yX3_cell cX3_cell 3 (some .int), Cond.methodLink RX3 109 yX3_tries, Cond.instanceMethod yX3_tries, Cond.selects RX3 yX3_tries yX3_tries, Cond.code yX3_tries cX3_tries 7 none, Cond.methodLink RX3 80 yX3_way, Cond.instanceMethod yX3_way]
def wsX3_hint_r3 : List Cond := [Cond.selects RX3 yX3_way yX3_way, Cond.code yX3_way cX3_way 4 (some .int), Cond.methodLink RX3 64 yX3_isOpen, Cond.instanceMethod yX3_isOpen, Cond.selects RX3 yX3_isOpen yX3_isOpen, Cond.code yX3_isOpen cX3_isOpen 4 (some .boolean), Cond.fieldLink RX3 25 "RampJamModel" "rampAt" "I", Cond.methodLink RX3 60 yX3_isLine, Cond.static yX3_isLine, Cond.code yX3_isLine cX3_isLine 1 (some .boolean), Cond.methodLink RX3 116 yX3_firstMoveTo, Cond.instanceMethod yX3_firstMoveTo, Cond.selects RX3 yX3_firstMoveTo yX3_firstMoveTo, Cond.code yX3_firstMoveTo cX3_firstMoveTo 3 (some .int)]
def wsX3_hint : List Cond := .code yX3_hint cX3_hint 1 (some .int) :: ((wsX3_hint_r1 ++ (wsX3_hint_r2 ++ wsX3_hint_r3)) ++ wsX30)
def wsX3_solve_r1 : List Cond := [Cond.fieldLink RX3 50 "RampJamModel" "thrown" "I", Cond.fieldLink RX3 99 "RampJamModel" "firstFree" "I", Cond.fieldLink RX3 41 "RampJamModel" "depth" "[I", Cond.fieldLink RX3 35 "RampJamModel" "from" "[I", Cond.fieldLink RX3 38 "RampJamModel" "by" "[I", Cond.methodLink RX3 113 yX3_looks, Cond.instanceMethod yX3_looks, Cond.selects RX3 yX3_looks yX3_looks, Cond.initialized RX3, Cond.code yX3_looks cX3_looks 3 none, Cond.fieldLink RX3 44 "RampJamModel" "slots" "[I", Cond.fieldLink RX3 53 "RampJamModel" "many" "I", Cond.fieldLink RX3 47 "RampJamModel" "kept" "[I", Cond.fieldLink RX3 19 "RampJamModel" "place" "[I", Cond.fieldLink RX3 96 "RampJamModel" "foundMany" "I", Cond.fieldLink RX3 32 "RampJamModel" "found" "[I", Cond.methodLink RX3 102 yX3_takes, Cond.instanceMethod yX3_takes, Cond.selects RX3 yX3_takes yX3_takes, Cond.code yX3_takes cX3_takes 5 none, Cond.methodLink RX3 92 yX3_positionNow, Cond.instanceMethod yX3_positionNow, Cond.selects RX3 yX3_positionNow yX3_positionNow, Cond.code yX3_positionNow cX3_positionNow 3 (some .int)]
def wsX3_solve_r2 : List Cond := [Cond.methodLink RX3 88 yX3_isFree, Cond.instanceMethod yX3_isFree, Cond.selects RX3 yX3_isFree yX3_isFree, Cond.code yX3_isFree cX3_isFree 1 (some .boolean), Cond.methodLink RX3 105 yX3_digit, Cond.static yX3_digit, Cond.code yX3_digit cX3_digit 4 (some .int), Cond.methodLink RX3 68 yX3_laysYard, Cond.instanceMethod yX3_laysYard, Cond.selects RX3 yX3_laysYard yX3_laysYard, Cond.code yX3_laysYard cX3_laysYard 3 none, Cond.fieldLink RX3 29 "RampJamModel" "yard" "[I", Cond.fieldLink RX3 7 "RampJamModel" "cellsOf" "[I", Cond.fieldLink RX3 13 "RampJamModel" "isAcross" "[I", Cond.fieldLink RX3 16 "RampJamModel" "lineOf" "[I", Cond.methodLink RX3 56 yX3_cell, Cond.static yX3_cell, Cond.code yX3_cell cX3_cell 3 (some .int), Cond.methodLink RX3 109 yX3_tries, Cond.instanceMethod yX3_tries, Cond.selects RX3 yX3_tries yX3_tries, Cond.code yX3_tries cX3_tries 7 none, Cond.methodLink RX3 80 yX3_way, Cond.instanceMethod yX3_way]
def wsX3_solve_r3 : List Cond := [Cond.selects RX3 yX3_way yX3_way, Cond.code yX3_way cX3_way 4 (some .int), Cond.methodLink RX3 64 yX3_isOpen, Cond.instanceMethod yX3_isOpen, Cond.selects RX3 yX3_isOpen yX3_isOpen, Cond.code yX3_isOpen cX3_isOpen 4 (some .boolean), Cond.fieldLink RX3 25 "RampJamModel" "rampAt" "I", Cond.methodLink RX3 60 yX3_isLine, Cond.static yX3_isLine, Cond.code yX3_isLine cX3_isLine 1 (some .boolean), Cond.methodLink RX3 84 yX3_goes, Cond.instanceMethod yX3_goes, Cond.selects RX3 yX3_goes yX3_goes, Cond.code yX3_goes cX3_goes 3 none, Cond.fieldLink RX3 71 "RampJamModel" "moves" "I", Cond.fieldLink RX3 74 "RampJamModel" "driven" "I"]
def wsX3_solve : List Cond := .code yX3_solve cX3_solve 4 (some .int) :: ((wsX3_solve_r1 ++ (wsX3_solve_r2 ++ wsX3_solve_r3)) ++ wsX30)
def wsX3_canReach_r1 : List Cond := [Cond.fieldLink RX3 50 "RampJamModel" "thrown" "I", Cond.fieldLink RX3 96 "RampJamModel" "foundMany" "I", Cond.fieldLink RX3 32 "RampJamModel" "found" "[I", Cond.methodLink RX3 77 yX3_isVehicle, Cond.instanceMethod yX3_isVehicle, Cond.selects RX3 yX3_isVehicle yX3_isVehicle, Cond.initialized RX3, Cond.code yX3_isVehicle cX3_isVehicle 2 (some .boolean), Cond.fieldLink RX3 53 "RampJamModel" "many" "I", Cond.methodLink RX3 60 yX3_isLine, Cond.static yX3_isLine, Cond.code yX3_isLine cX3_isLine 1 (some .boolean), Cond.methodLink RX3 113 yX3_looks, Cond.instanceMethod yX3_looks, Cond.selects RX3 yX3_looks yX3_looks, Cond.code yX3_looks cX3_looks 3 none, Cond.fieldLink RX3 44 "RampJamModel" "slots" "[I", Cond.fieldLink RX3 47 "RampJamModel" "kept" "[I", Cond.fieldLink RX3 19 "RampJamModel" "place" "[I", Cond.fieldLink RX3 99 "RampJamModel" "firstFree" "I", Cond.methodLink RX3 102 yX3_takes, Cond.instanceMethod yX3_takes, Cond.selects RX3 yX3_takes yX3_takes, Cond.code yX3_takes cX3_takes 5 none]
def wsX3_canReach_r2 : List Cond := [Cond.fieldLink RX3 35 "RampJamModel" "from" "[I", Cond.fieldLink RX3 38 "RampJamModel" "by" "[I", Cond.fieldLink RX3 41 "RampJamModel" "depth" "[I", Cond.methodLink RX3 92 yX3_positionNow, Cond.instanceMethod yX3_positionNow, Cond.selects RX3 yX3_positionNow yX3_positionNow, Cond.code yX3_positionNow cX3_positionNow 3 (some .int), Cond.methodLink RX3 88 yX3_isFree, Cond.instanceMethod yX3_isFree, Cond.selects RX3 yX3_isFree yX3_isFree, Cond.code yX3_isFree cX3_isFree 1 (some .boolean), Cond.methodLink RX3 105 yX3_digit, Cond.static yX3_digit, Cond.code yX3_digit cX3_digit 4 (some .int), Cond.methodLink RX3 68 yX3_laysYard, Cond.instanceMethod yX3_laysYard, Cond.selects RX3 yX3_laysYard yX3_laysYard, Cond.code yX3_laysYard cX3_laysYard 3 none, Cond.fieldLink RX3 29 "RampJamModel" "yard" "[I", Cond.fieldLink RX3 7 "RampJamModel" "cellsOf" "[I", Cond.fieldLink RX3 13 "RampJamModel" "isAcross" "[I", Cond.fieldLink RX3 16 "RampJamModel" "lineOf" "[I", Cond.methodLink RX3 56 yX3_cell, Cond.static yX3_cell]
def wsX3_canReach_r3 : List Cond := [Cond.code yX3_cell cX3_cell 3 (some .int), Cond.methodLink RX3 109 yX3_tries, Cond.instanceMethod yX3_tries, Cond.selects RX3 yX3_tries yX3_tries, Cond.code yX3_tries cX3_tries 7 none, Cond.methodLink RX3 80 yX3_way, Cond.instanceMethod yX3_way, Cond.selects RX3 yX3_way yX3_way, Cond.code yX3_way cX3_way 4 (some .int), Cond.methodLink RX3 64 yX3_isOpen, Cond.instanceMethod yX3_isOpen, Cond.selects RX3 yX3_isOpen yX3_isOpen, Cond.code yX3_isOpen cX3_isOpen 4 (some .boolean), Cond.fieldLink RX3 25 "RampJamModel" "rampAt" "I"]
def wsX3_canReach : List Cond := .code yX3_canReach cX3_canReach 5 (some .boolean) :: ((wsX3_canReach_r1 ++ (wsX3_canReach_r2 ++ wsX3_canReach_r3)) ++ wsX30)
def wsJ9_abs_0f7a4 : List Cond := .code yJ9_abs_0f7a4 cJ9_abs_0f7a4 1 (some .int) :: ([])
def wsL_park_r1 : List Cond := [Cond.classLink RL 13 "java/lang/IllegalArgumentException", Cond.classLink RL 15 "java/lang/IllegalStateException", Cond.methodLink RL 7 yX2_park, Cond.instanceMethod yX2_park, Cond.selects RX2 yX2_park yX2_park, Cond.initialized RX2, Cond.code yX2_park cX2_park 10 (some .int), Cond.classLink RX2 29 "java/lang/IllegalArgumentException", Cond.initialized "java/lang/IllegalArgumentException", Cond.classLink RX2 48 "java/lang/IllegalStateException", Cond.initialized "java/lang/IllegalStateException", Cond.fieldLink RX2 10 "RampJam" "yard" "LRampJam$Yard;", Cond.fieldLink RX2 44 "RampJam" "moveCount" "I", Cond.fieldLink RX2 57 "RampJam" "position" "I", Cond.fieldLink RX2 73 "RampJam" "parkedPosition" "I", Cond.methodLink RX2 25 yX2_isInYard, Cond.static yX2_isInYard, Cond.code yX2_isInYard cX2_isInYard 2 (some .boolean), Cond.methodLink RX2 38 yX1_count, Cond.instanceMethod yX1_count, Cond.selects RX1 yX1_count yX1_count, Cond.initialized RX1, Cond.code yX1_count cX1_count 1 (some .int), Cond.fieldLink RX1 26 "RampJam$Yard" "vehicleCount" "I"]
def wsL_park_r2 : List Cond := [Cond.methodLink RX2 53 yX2_cellsOf, Cond.static yX2_cellsOf, Cond.code yX2_cellsOf cX2_cellsOf 7 (some .long), Cond.methodLink RX2 88 yX2_cellOf, Cond.static yX2_cellOf, Cond.code yX2_cellOf cX2_cellOf 2 (some .long), Cond.methodLink RX2 60 yX1_filledIn, Cond.instanceMethod yX1_filledIn, Cond.selects RX1 yX1_filledIn yX1_filledIn, Cond.code yX1_filledIn cX1_filledIn 5 (some .long), Cond.methodLink RX1 46 yX1_cellsIn, Cond.instanceMethod yX1_cellsIn, Cond.selects RX1 yX1_cellsIn yX1_cellsIn, Cond.code yX1_cellsIn cX1_cellsIn 4 (some .long), Cond.fieldLink RX1 15 "RampJam$Yard" "acrosses" "[Z", Cond.fieldLink RX1 22 "RampJam$Yard" "shapes" "[J", Cond.methodLink RX1 38 yX1_has, Cond.instanceMethod yX1_has, Cond.selects RX1 yX1_has yX1_has, Cond.code yX1_has cX1_has 2 (some .boolean), Cond.static yX2_placeIn, Cond.code yX2_placeIn cX2_placeIn 2 (some .int), Cond.methodLink RX2 64 yX1_barredTo, Cond.instanceMethod yX1_barredTo]
def wsL_park_r3 : List Cond := [Cond.selects RX1 yX1_barredTo yX1_barredTo, Cond.code yX1_barredTo cX1_barredTo 2 (some .long), Cond.fieldLink RX1 34 "RampJam$Yard" "rampCell" "J", Cond.methodLink RX2 69 yX1_add, Cond.instanceMethod yX1_add, Cond.selects RX1 yX1_add yX1_add, Cond.code yX1_add cX1_add 5 (some .int), Cond.fieldLink RX1 9 "RampJam$Yard" "sizes" "[I", Cond.fieldLink RX1 19 "RampJam$Yard" "lines" "[I", Cond.methodLink RX2 76 yX2_moved, Cond.static yX2_moved, Cond.code yX2_moved cX2_moved 3 (some .int), Cond.methodLink RX2 80 yX2_standAt, Cond.instanceMethod yX2_standAt, Cond.selects RX2 yX2_standAt yX2_standAt, Cond.code yX2_standAt cX2_standAt 2 none, Cond.fieldLink RX2 106 "RampJam" "isSearched" "Z"]
def wsL_park : List Cond := .codeWith yL_park cL_park 7 (some .int) [(0, 14, 17, 13), (0, 14, 21, 15)] :: ((wsL_park_r1 ++ (wsL_park_r2 ++ wsL_park_r3)) ++ wsX20 ++ wsX10 ++ (vx_atS RX2 33 "java/lang/IllegalArgumentException" ["java/lang/RuntimeException", "java/lang/Exception"]).filter goodWord ++ (vx_atS RX2 52 "java/lang/IllegalStateException" ["java/lang/RuntimeException", "java/lang/Exception"]).filter goodWord)
def wsL_ramp_r1 : List Cond := [Cond.classLink RL 13 "java/lang/IllegalArgumentException", Cond.classLink RL 15 "java/lang/IllegalStateException", Cond.methodLink RL 17 yX2_ramp, Cond.instanceMethod yX2_ramp, Cond.selects RX2 yX2_ramp yX2_ramp, Cond.initialized RX2, Cond.code yX2_ramp cX2_ramp 5 none, Cond.classLink RX2 29 "java/lang/IllegalArgumentException", Cond.initialized "java/lang/IllegalArgumentException", Cond.classLink RX2 48 "java/lang/IllegalStateException", Cond.initialized "java/lang/IllegalStateException", Cond.fieldLink RX2 44 "RampJam" "moveCount" "I", Cond.fieldLink RX2 10 "RampJam" "yard" "LRampJam$Yard;", Cond.fieldLink RX2 57 "RampJam" "position" "I", Cond.fieldLink RX2 106 "RampJam" "isSearched" "Z", Cond.methodLink RX2 25 yX2_isInYard, Cond.static yX2_isInYard, Cond.code yX2_isInYard cX2_isInYard 2 (some .boolean), Cond.methodLink RX2 88 yX2_cellOf, Cond.static yX2_cellOf, Cond.code yX2_cellOf cX2_cellOf 2 (some .long), Cond.methodLink RX2 92 yX1_vehicleOn, Cond.instanceMethod yX1_vehicleOn, Cond.selects RX1 yX1_vehicleOn yX1_vehicleOn]
def wsL_ramp_r2 : List Cond := [Cond.initialized RX1, Cond.code yX1_vehicleOn cX1_vehicleOn 5 (some .int), Cond.fieldLink RX1 26 "RampJam$Yard" "vehicleCount" "I", Cond.methodLink RX1 46 yX1_cellsIn, Cond.instanceMethod yX1_cellsIn, Cond.selects RX1 yX1_cellsIn yX1_cellsIn, Cond.code yX1_cellsIn cX1_cellsIn 4 (some .long), Cond.fieldLink RX1 15 "RampJam$Yard" "acrosses" "[Z", Cond.fieldLink RX1 22 "RampJam$Yard" "shapes" "[J", Cond.methodLink RX1 38 yX1_has, Cond.instanceMethod yX1_has, Cond.selects RX1 yX1_has yX1_has, Cond.code yX1_has cX1_has 2 (some .boolean), Cond.static yX2_placeIn, Cond.code yX2_placeIn cX2_placeIn 2 (some .int), Cond.methodLink RX2 96 yX1_isLorry, Cond.instanceMethod yX1_isLorry, Cond.selects RX1 yX1_isLorry yX1_isLorry, Cond.code yX1_isLorry cX1_isLorry 2 (some .boolean), Cond.fieldLink RX1 9 "RampJam$Yard" "sizes" "[I", Cond.methodLink RX2 102 yX1_putRamp, Cond.instanceMethod yX1_putRamp, Cond.selects RX1 yX1_putRamp yX1_putRamp, Cond.code yX1_putRamp cX1_putRamp 3 none]
def wsL_ramp_r3 : List Cond := [Cond.fieldLink RX1 34 "RampJam$Yard" "rampCell" "J"]
def wsL_ramp : List Cond := .codeWith yL_ramp cL_ramp 4 (some .int) [(0, 6, 9, 13), (0, 6, 12, 15)] :: ((wsL_ramp_r1 ++ (wsL_ramp_r2 ++ wsL_ramp_r3)) ++ wsX20 ++ wsX10 ++ (vx_atS RX2 33 "java/lang/IllegalArgumentException" ["java/lang/RuntimeException", "java/lang/Exception"]).filter goodWord ++ (vx_atS RX2 52 "java/lang/IllegalStateException" ["java/lang/RuntimeException", "java/lang/Exception"]).filter goodWord)
def wsL_drive_r1 : List Cond := [Cond.classLink RL 24 "java/lang/IndexOutOfBoundsException", Cond.classLink RL 13 "java/lang/IllegalArgumentException", Cond.classLink RL 15 "java/lang/IllegalStateException", Cond.methodLink RL 21 yX2_drive, Cond.instanceMethod yX2_drive, Cond.selects RX2 yX2_drive yX2_drive, Cond.initialized RX2, Cond.code yX2_drive cX2_drive 3 none, Cond.classLink RX2 113 "java/lang/IndexOutOfBoundsException", Cond.initialized "java/lang/IndexOutOfBoundsException", Cond.classLink RX2 29 "java/lang/IllegalArgumentException", Cond.initialized "java/lang/IllegalArgumentException", Cond.classLink RX2 48 "java/lang/IllegalStateException", Cond.initialized "java/lang/IllegalStateException", Cond.fieldLink RX2 10 "RampJam" "yard" "LRampJam$Yard;", Cond.methodLink RX2 120 Lib.Math.abs.name, Cond.static Lib.Math.abs.name, Cond.initialized "java/lang/Math", Cond.code Lib.Math.abs.name Lib.Math.abs.code 1 (some .int), Cond.methodLink RX2 110 yX1_has, Cond.instanceMethod yX1_has, Cond.selects RX1 yX1_has yX1_has, Cond.initialized RX1, Cond.code yX1_has cX1_has 2 (some .boolean)]
def wsL_drive_r2 : List Cond := [Cond.fieldLink RX1 26 "RampJam$Yard" "vehicleCount" "I", Cond.methodLink RX2 126 yX2_wayNow, Cond.instanceMethod yX2_wayNow, Cond.selects RX2 yX2_wayNow yX2_wayNow, Cond.code yX2_wayNow cX2_wayNow 3 (some .int), Cond.fieldLink RX2 57 "RampJam" "position" "I", Cond.methodLink RX2 60 yX1_filledIn, Cond.instanceMethod yX1_filledIn, Cond.selects RX1 yX1_filledIn yX1_filledIn, Cond.code yX1_filledIn cX1_filledIn 5 (some .long), Cond.methodLink RX1 46 yX1_cellsIn, Cond.instanceMethod yX1_cellsIn, Cond.selects RX1 yX1_cellsIn yX1_cellsIn, Cond.code yX1_cellsIn cX1_cellsIn 4 (some .long), Cond.fieldLink RX1 15 "RampJam$Yard" "acrosses" "[Z", Cond.fieldLink RX1 22 "RampJam$Yard" "shapes" "[J", Cond.methodLink RX1 38 yX1_has, Cond.static yX2_placeIn, Cond.code yX2_placeIn cX2_placeIn 2 (some .int), Cond.methodLink RX2 173 yX1_wayIn, Cond.instanceMethod yX1_wayIn, Cond.selects RX1 yX1_wayIn yX1_wayIn, Cond.code yX1_wayIn cX1_wayIn 14 (some .int), Cond.fieldLink RX1 9 "RampJam$Yard" "sizes" "[I"]
def wsL_drive_r3 : List Cond := [Cond.constantLong RX1 50 (-1), Cond.methodLink RX1 52 yX1_barredTo, Cond.instanceMethod yX1_barredTo, Cond.selects RX1 yX1_barredTo yX1_barredTo, Cond.code yX1_barredTo cX1_barredTo 2 (some .long), Cond.fieldLink RX1 34 "RampJam$Yard" "rampCell" "J", Cond.methodLink RX2 132 yX2_makeMove, Cond.instanceMethod yX2_makeMove, Cond.selects RX2 yX2_makeMove yX2_makeMove, Cond.code yX2_makeMove cX2_makeMove 3 none, Cond.fieldLink RX2 44 "RampJam" "moveCount" "I", Cond.fieldLink RX2 136 "RampJam" "drivenCells" "I", Cond.methodLink RX2 76 yX2_moved, Cond.static yX2_moved, Cond.code yX2_moved cX2_moved 3 (some .int), Cond.methodLink RX2 80 yX2_standAt, Cond.instanceMethod yX2_standAt, Cond.selects RX2 yX2_standAt yX2_standAt, Cond.code yX2_standAt cX2_standAt 2 none, Cond.fieldLink RX2 106 "RampJam" "isSearched" "Z"]
def wsL_drive : List Cond := .codeWith yL_drive cL_drive 4 (some .int) [(0, 6, 9, 24), (0, 6, 12, 13), (0, 6, 15, 15)] :: ((wsL_drive_r1 ++ (wsL_drive_r2 ++ wsL_drive_r3)) ++ wsX20 ++ wsX10 ++ (vx_atS RX2 117 "java/lang/IndexOutOfBoundsException" ["java/lang/RuntimeException", "java/lang/Exception"]).filter goodWord ++ (vx_atS RX2 33 "java/lang/IllegalArgumentException" ["java/lang/RuntimeException", "java/lang/Exception"]).filter goodWord ++ (vx_atS RX2 52 "java/lang/IllegalStateException" ["java/lang/RuntimeException", "java/lang/Exception"]).filter goodWord)
def wsL_driveOn_r1 : List Cond := [Cond.classLink RL 24 "java/lang/IndexOutOfBoundsException", Cond.methodLink RL 26 yX2_driveOn, Cond.instanceMethod yX2_driveOn, Cond.selects RX2 yX2_driveOn yX2_driveOn, Cond.initialized RX2, Cond.code yX2_driveOn cX2_driveOn 4 (some .int), Cond.classLink RX2 113 "java/lang/IndexOutOfBoundsException", Cond.initialized "java/lang/IndexOutOfBoundsException", Cond.fieldLink RX2 10 "RampJam" "yard" "LRampJam$Yard;", Cond.methodLink RX2 110 yX1_has, Cond.instanceMethod yX1_has, Cond.selects RX1 yX1_has yX1_has, Cond.initialized RX1, Cond.code yX1_has cX1_has 2 (some .boolean), Cond.fieldLink RX1 26 "RampJam$Yard" "vehicleCount" "I", Cond.methodLink RX2 126 yX2_wayNow, Cond.instanceMethod yX2_wayNow, Cond.selects RX2 yX2_wayNow yX2_wayNow, Cond.code yX2_wayNow cX2_wayNow 3 (some .int), Cond.fieldLink RX2 57 "RampJam" "position" "I", Cond.methodLink RX2 60 yX1_filledIn, Cond.instanceMethod yX1_filledIn, Cond.selects RX1 yX1_filledIn yX1_filledIn, Cond.code yX1_filledIn cX1_filledIn 5 (some .long)]
def wsL_driveOn_r2 : List Cond := [Cond.methodLink RX1 46 yX1_cellsIn, Cond.instanceMethod yX1_cellsIn, Cond.selects RX1 yX1_cellsIn yX1_cellsIn, Cond.code yX1_cellsIn cX1_cellsIn 4 (some .long), Cond.fieldLink RX1 15 "RampJam$Yard" "acrosses" "[Z", Cond.fieldLink RX1 22 "RampJam$Yard" "shapes" "[J", Cond.methodLink RX1 38 yX1_has, Cond.static yX2_placeIn, Cond.code yX2_placeIn cX2_placeIn 2 (some .int), Cond.methodLink RX2 173 yX1_wayIn, Cond.instanceMethod yX1_wayIn, Cond.selects RX1 yX1_wayIn yX1_wayIn, Cond.code yX1_wayIn cX1_wayIn 14 (some .int), Cond.fieldLink RX1 9 "RampJam$Yard" "sizes" "[I", Cond.constantLong RX1 50 (-1), Cond.methodLink RX1 52 yX1_barredTo, Cond.instanceMethod yX1_barredTo, Cond.selects RX1 yX1_barredTo yX1_barredTo, Cond.code yX1_barredTo cX1_barredTo 2 (some .long), Cond.fieldLink RX1 34 "RampJam$Yard" "rampCell" "J", Cond.methodLink RX2 132 yX2_makeMove, Cond.instanceMethod yX2_makeMove, Cond.selects RX2 yX2_makeMove yX2_makeMove, Cond.code yX2_makeMove cX2_makeMove 3 none]
def wsL_driveOn_r3 : List Cond := [Cond.fieldLink RX2 44 "RampJam" "moveCount" "I", Cond.fieldLink RX2 136 "RampJam" "drivenCells" "I", Cond.methodLink RX2 120 Lib.Math.abs.name, Cond.static Lib.Math.abs.name, Cond.initialized "java/lang/Math", Cond.code Lib.Math.abs.name Lib.Math.abs.code 1 (some .int), Cond.methodLink RX2 76 yX2_moved, Cond.static yX2_moved, Cond.code yX2_moved cX2_moved 3 (some .int), Cond.methodLink RX2 80 yX2_standAt, Cond.instanceMethod yX2_standAt, Cond.selects RX2 yX2_standAt yX2_standAt, Cond.code yX2_standAt cX2_standAt 2 none, Cond.fieldLink RX2 106 "RampJam" "isSearched" "Z"]
def wsL_driveOn : List Cond := .codeWith yL_driveOn cL_driveOn 5 (some .int) [(0, 10, 13, 24)] :: ((wsL_driveOn_r1 ++ (wsL_driveOn_r2 ++ wsL_driveOn_r3)) ++ wsX20 ++ wsX10 ++ (vx_atS RX2 117 "java/lang/IndexOutOfBoundsException" ["java/lang/RuntimeException", "java/lang/Exception"]).filter goodWord)
def wsL_rowOf_r1 : List Cond := [Cond.classLink RL 24 "java/lang/IndexOutOfBoundsException", Cond.methodLink RL 30 yX2_rowOf, Cond.instanceMethod yX2_rowOf, Cond.selects RX2 yX2_rowOf yX2_rowOf, Cond.initialized RX2, Cond.code yX2_rowOf cX2_rowOf 2 (some .int), Cond.classLink RX2 113 "java/lang/IndexOutOfBoundsException", Cond.initialized "java/lang/IndexOutOfBoundsException", Cond.fieldLink RX2 10 "RampJam" "yard" "LRampJam$Yard;", Cond.fieldLink RX2 57 "RampJam" "position" "I", Cond.methodLink RX2 110 yX1_has, Cond.instanceMethod yX1_has, Cond.selects RX1 yX1_has yX1_has, Cond.initialized RX1, Cond.code yX1_has cX1_has 2 (some .boolean), Cond.fieldLink RX1 26 "RampJam$Yard" "vehicleCount" "I", Cond.methodLink RX2 139 yX1_standsAcross, Cond.instanceMethod yX1_standsAcross, Cond.selects RX1 yX1_standsAcross yX1_standsAcross, Cond.code yX1_standsAcross cX1_standsAcross 2 (some .boolean), Cond.fieldLink RX1 15 "RampJam$Yard" "acrosses" "[Z", Cond.methodLink RX1 38 yX1_has, Cond.methodLink RX2 142 yX1_lineOf, Cond.instanceMethod yX1_lineOf]
def wsL_rowOf_r2 : List Cond := [Cond.selects RX1 yX1_lineOf yX1_lineOf, Cond.code yX1_lineOf cX1_lineOf 2 (some .int), Cond.fieldLink RX1 19 "RampJam$Yard" "lines" "[I", Cond.methodLink RX2 145 yX2_placeIn, Cond.static yX2_placeIn, Cond.code yX2_placeIn cX2_placeIn 2 (some .int)]
def wsL_rowOf : List Cond := .codeWith yL_rowOf cL_rowOf 4 (some .int) [(0, 9, 12, 24)] :: ((wsL_rowOf_r1 ++ wsL_rowOf_r2) ++ wsX20 ++ wsX10 ++ (vx_atS RX2 117 "java/lang/IndexOutOfBoundsException" ["java/lang/RuntimeException", "java/lang/Exception"]).filter goodWord)
def wsL_columnOf_r1 : List Cond := [Cond.classLink RL 24 "java/lang/IndexOutOfBoundsException", Cond.methodLink RL 34 yX2_columnOf, Cond.instanceMethod yX2_columnOf, Cond.selects RX2 yX2_columnOf yX2_columnOf, Cond.initialized RX2, Cond.code yX2_columnOf cX2_columnOf 2 (some .int), Cond.classLink RX2 113 "java/lang/IndexOutOfBoundsException", Cond.initialized "java/lang/IndexOutOfBoundsException", Cond.fieldLink RX2 10 "RampJam" "yard" "LRampJam$Yard;", Cond.fieldLink RX2 57 "RampJam" "position" "I", Cond.methodLink RX2 110 yX1_has, Cond.instanceMethod yX1_has, Cond.selects RX1 yX1_has yX1_has, Cond.initialized RX1, Cond.code yX1_has cX1_has 2 (some .boolean), Cond.fieldLink RX1 26 "RampJam$Yard" "vehicleCount" "I", Cond.methodLink RX2 139 yX1_standsAcross, Cond.instanceMethod yX1_standsAcross, Cond.selects RX1 yX1_standsAcross yX1_standsAcross, Cond.code yX1_standsAcross cX1_standsAcross 2 (some .boolean), Cond.fieldLink RX1 15 "RampJam$Yard" "acrosses" "[Z", Cond.methodLink RX1 38 yX1_has, Cond.methodLink RX2 145 yX2_placeIn, Cond.static yX2_placeIn]
def wsL_columnOf_r2 : List Cond := [Cond.code yX2_placeIn cX2_placeIn 2 (some .int), Cond.methodLink RX2 142 yX1_lineOf, Cond.instanceMethod yX1_lineOf, Cond.selects RX1 yX1_lineOf yX1_lineOf, Cond.code yX1_lineOf cX1_lineOf 2 (some .int), Cond.fieldLink RX1 19 "RampJam$Yard" "lines" "[I"]
def wsL_columnOf : List Cond := .codeWith yL_columnOf cL_columnOf 4 (some .int) [(0, 9, 12, 24)] :: ((wsL_columnOf_r1 ++ wsL_columnOf_r2) ++ wsX20 ++ wsX10 ++ (vx_atS RX2 117 "java/lang/IndexOutOfBoundsException" ["java/lang/RuntimeException", "java/lang/Exception"]).filter goodWord)
def wsL_at_r1 : List Cond := [Cond.classLink RL 13 "java/lang/IllegalArgumentException", Cond.methodLink RL 37 yX2_at, Cond.instanceMethod yX2_at, Cond.selects RX2 yX2_at yX2_at, Cond.initialized RX2, Cond.code yX2_at cX2_at 3 (some .int), Cond.classLink RX2 29 "java/lang/IllegalArgumentException", Cond.initialized "java/lang/IllegalArgumentException", Cond.fieldLink RX2 10 "RampJam" "yard" "LRampJam$Yard;", Cond.fieldLink RX2 57 "RampJam" "position" "I", Cond.methodLink RX2 25 yX2_isInYard, Cond.static yX2_isInYard, Cond.code yX2_isInYard cX2_isInYard 2 (some .boolean), Cond.methodLink RX2 88 yX2_cellOf, Cond.static yX2_cellOf, Cond.code yX2_cellOf cX2_cellOf 2 (some .long), Cond.methodLink RX2 92 yX1_vehicleOn, Cond.instanceMethod yX1_vehicleOn, Cond.selects RX1 yX1_vehicleOn yX1_vehicleOn, Cond.initialized RX1, Cond.code yX1_vehicleOn cX1_vehicleOn 5 (some .int), Cond.fieldLink RX1 26 "RampJam$Yard" "vehicleCount" "I", Cond.methodLink RX1 46 yX1_cellsIn, Cond.instanceMethod yX1_cellsIn]
def wsL_at_r2 : List Cond := [Cond.selects RX1 yX1_cellsIn yX1_cellsIn, Cond.code yX1_cellsIn cX1_cellsIn 4 (some .long), Cond.fieldLink RX1 15 "RampJam$Yard" "acrosses" "[Z", Cond.fieldLink RX1 22 "RampJam$Yard" "shapes" "[J", Cond.methodLink RX1 38 yX1_has, Cond.instanceMethod yX1_has, Cond.selects RX1 yX1_has yX1_has, Cond.code yX1_has cX1_has 2 (some .boolean), Cond.static yX2_placeIn, Cond.code yX2_placeIn cX2_placeIn 2 (some .int)]
def wsL_at : List Cond := .codeWith yL_at cL_at 5 (some .int) [(0, 10, 13, 13)] :: ((wsL_at_r1 ++ wsL_at_r2) ++ wsX20 ++ wsX10 ++ (vx_atS RX2 33 "java/lang/IllegalArgumentException" ["java/lang/RuntimeException", "java/lang/Exception"]).filter goodWord)
def wsL_freeWay_r1 : List Cond := [Cond.classLink RL 24 "java/lang/IndexOutOfBoundsException", Cond.methodLink RL 41 yX2_freeWay, Cond.instanceMethod yX2_freeWay, Cond.selects RX2 yX2_freeWay yX2_freeWay, Cond.initialized RX2, Cond.code yX2_freeWay cX2_freeWay 3 (some .int), Cond.classLink RX2 113 "java/lang/IndexOutOfBoundsException", Cond.initialized "java/lang/IndexOutOfBoundsException", Cond.fieldLink RX2 10 "RampJam" "yard" "LRampJam$Yard;", Cond.methodLink RX2 110 yX1_has, Cond.instanceMethod yX1_has, Cond.selects RX1 yX1_has yX1_has, Cond.initialized RX1, Cond.code yX1_has cX1_has 2 (some .boolean), Cond.fieldLink RX1 26 "RampJam$Yard" "vehicleCount" "I", Cond.methodLink RX2 126 yX2_wayNow, Cond.instanceMethod yX2_wayNow, Cond.selects RX2 yX2_wayNow yX2_wayNow, Cond.code yX2_wayNow cX2_wayNow 3 (some .int), Cond.fieldLink RX2 57 "RampJam" "position" "I", Cond.methodLink RX2 60 yX1_filledIn, Cond.instanceMethod yX1_filledIn, Cond.selects RX1 yX1_filledIn yX1_filledIn, Cond.code yX1_filledIn cX1_filledIn 5 (some .long)]
def wsL_freeWay_r2 : List Cond := [Cond.methodLink RX1 46 yX1_cellsIn, Cond.instanceMethod yX1_cellsIn, Cond.selects RX1 yX1_cellsIn yX1_cellsIn, Cond.code yX1_cellsIn cX1_cellsIn 4 (some .long), Cond.fieldLink RX1 15 "RampJam$Yard" "acrosses" "[Z", Cond.fieldLink RX1 22 "RampJam$Yard" "shapes" "[J", Cond.methodLink RX1 38 yX1_has, Cond.static yX2_placeIn, Cond.code yX2_placeIn cX2_placeIn 2 (some .int), Cond.methodLink RX2 173 yX1_wayIn, Cond.instanceMethod yX1_wayIn, Cond.selects RX1 yX1_wayIn yX1_wayIn, Cond.code yX1_wayIn cX1_wayIn 14 (some .int), Cond.fieldLink RX1 9 "RampJam$Yard" "sizes" "[I", Cond.constantLong RX1 50 (-1), Cond.methodLink RX1 52 yX1_barredTo, Cond.instanceMethod yX1_barredTo, Cond.selects RX1 yX1_barredTo yX1_barredTo, Cond.code yX1_barredTo cX1_barredTo 2 (some .long), Cond.fieldLink RX1 34 "RampJam$Yard" "rampCell" "J"]
def wsL_freeWay : List Cond := .codeWith yL_freeWay cL_freeWay 5 (some .int) [(0, 10, 13, 24)] :: ((wsL_freeWay_r1 ++ wsL_freeWay_r2) ++ wsX20 ++ wsX10 ++ (vx_atS RX2 117 "java/lang/IndexOutOfBoundsException" ["java/lang/RuntimeException", "java/lang/Exception"]).filter goodWord)
def wsL_canReach_r1 : List Cond := [Cond.classLink RL 24 "java/lang/IndexOutOfBoundsException", Cond.classLink RL 13 "java/lang/IllegalArgumentException", Cond.methodLink RL 44 yX2_canReach, Cond.instanceMethod yX2_canReach, Cond.selects RX2 yX2_canReach yX2_canReach, Cond.initialized RX2, Cond.code yX2_canReach cX2_canReach 3 (some .boolean), Cond.classLink RX2 113 "java/lang/IndexOutOfBoundsException", Cond.initialized "java/lang/IndexOutOfBoundsException", Cond.classLink RX2 29 "java/lang/IllegalArgumentException", Cond.initialized "java/lang/IllegalArgumentException", Cond.fieldLink RX2 10 "RampJam" "yard" "LRampJam$Yard;", Cond.fieldLink RX2 21 "RampJam" "search" "LRampJam$Search;", Cond.methodLink RX2 110 yX1_has, Cond.instanceMethod yX1_has, Cond.selects RX1 yX1_has yX1_has, Cond.initialized RX1, Cond.code yX1_has cX1_has 2 (some .boolean), Cond.fieldLink RX1 26 "RampJam$Yard" "vehicleCount" "I", Cond.methodLink RX2 152 yX2_searchFromNow, Cond.instanceMethod yX2_searchFromNow, Cond.selects RX2 yX2_searchFromNow yX2_searchFromNow, Cond.code yX2_searchFromNow cX2_searchFromNow 1 none, Cond.fieldLink RX2 106 "RampJam" "isSearched" "Z"]
def wsL_canReach_r2 : List Cond := [Cond.fieldLink RX2 57 "RampJam" "position" "I", Cond.methodLink RX2 177 yX0_lookFrom, Cond.instanceMethod yX0_lookFrom, Cond.selects RX0 yX0_lookFrom yX0_lookFrom, Cond.initialized RX0, Cond.code yX0_lookFrom cX0_lookFrom 3 none, Cond.fieldLink RX0 21 "RampJam$Search" "slots" "[I", Cond.fieldLink RX0 28 "RampJam$Search" "foundCount" "I", Cond.fieldLink RX0 38 "RampJam$Search" "firstSolved" "I", Cond.methodLink RX0 32 yJ7_fill_53178, Cond.static yJ7_fill_53178, Cond.initialized RJ7, Cond.code yJ7_fill_53178 cJ7_fill_53178 4 none, Cond.methodLink RX0 41 yX0_addIfNew, Cond.instanceMethod yX0_addIfNew, Cond.selects RX0 yX0_addIfNew yX0_addIfNew, Cond.code yX0_addIfNew cX0_addIfNew 6 none, Cond.fieldLink RX0 9 "RampJam$Search" "found" "[I", Cond.fieldLink RX0 15 "RampJam$Search" "origins" "[I", Cond.fieldLink RX0 18 "RampJam$Search" "moveCodes" "[I", Cond.methodLink RX0 103 yX0_slotFor, Cond.instanceMethod yX0_slotFor, Cond.selects RX0 yX0_slotFor yX0_slotFor, Cond.code yX0_slotFor cX0_slotFor 6 (some .int)]
def wsL_canReach_r3 : List Cond := [Cond.constant RX0 106 (-1640531535), Cond.static yX2_placeIn, Cond.code yX2_placeIn cX2_placeIn 2 (some .int), Cond.methodLink RX0 45 yX0_addReachedFrom, Cond.instanceMethod yX0_addReachedFrom, Cond.selects RX0 yX0_addReachedFrom yX0_addReachedFrom, Cond.code yX0_addReachedFrom cX0_addReachedFrom 6 none, Cond.fieldLink RX0 24 "RampJam$Search" "yard" "LRampJam$Yard;", Cond.methodLink RX0 61 yX0_isFound, Cond.instanceMethod yX0_isFound, Cond.selects RX0 yX0_isFound yX0_isFound, Cond.code yX0_isFound cX0_isFound 2 (some .boolean), Cond.methodLink RX0 78 yX1_filledIn, Cond.instanceMethod yX1_filledIn, Cond.selects RX1 yX1_filledIn yX1_filledIn, Cond.code yX1_filledIn cX1_filledIn 5 (some .long), Cond.methodLink RX1 46 yX1_cellsIn, Cond.instanceMethod yX1_cellsIn, Cond.selects RX1 yX1_cellsIn yX1_cellsIn, Cond.code yX1_cellsIn cX1_cellsIn 4 (some .long), Cond.fieldLink RX1 15 "RampJam$Yard" "acrosses" "[Z", Cond.fieldLink RX1 22 "RampJam$Yard" "shapes" "[J", Cond.methodLink RX1 38 yX1_has, Cond.methodLink RX0 84 yX1_count]
def wsL_canReach_r4 : List Cond := [Cond.instanceMethod yX1_count, Cond.selects RX1 yX1_count yX1_count, Cond.code yX1_count cX1_count 1 (some .int), Cond.methodLink RX0 88 yX1_wayIn, Cond.instanceMethod yX1_wayIn, Cond.selects RX1 yX1_wayIn yX1_wayIn, Cond.code yX1_wayIn cX1_wayIn 14 (some .int), Cond.fieldLink RX1 9 "RampJam$Yard" "sizes" "[I", Cond.constantLong RX1 50 (-1), Cond.methodLink RX1 52 yX1_barredTo, Cond.instanceMethod yX1_barredTo, Cond.selects RX1 yX1_barredTo yX1_barredTo, Cond.code yX1_barredTo cX1_barredTo 2 (some .long), Cond.fieldLink RX1 34 "RampJam$Yard" "rampCell" "J", Cond.methodLink RX0 92 yX0_addDriven, Cond.instanceMethod yX0_addDriven, Cond.selects RX0 yX0_addDriven yX0_addDriven, Cond.code yX0_addDriven cX0_addDriven 7 none, Cond.static yX2_moved, Cond.code yX2_moved cX2_moved 3 (some .int), Cond.methodLink RX0 100 yX0_codeOfMove, Cond.static yX0_codeOfMove, Cond.code yX0_codeOfMove cX0_codeOfMove 2 (some .int), Cond.methodLink RX0 49 yX0_traceWay]
def wsL_canReach_r5 : List Cond := [Cond.instanceMethod yX0_traceWay, Cond.selects RX0 yX0_traceWay yX0_traceWay, Cond.code yX0_traceWay cX0_traceWay 3 none, Cond.fieldLink RX0 52 "RampJam$Search" "solvedMoves" "I", Cond.fieldLink RX0 55 "RampJam$Search" "solvedCells" "I", Cond.fieldLink RX0 58 "RampJam$Search" "solvedFirstMove" "I", Cond.methodLink RX0 73 Lib.Math.abs.name, Cond.static Lib.Math.abs.name, Cond.initialized "java/lang/Math", Cond.code Lib.Math.abs.name Lib.Math.abs.code 1 (some .int), Cond.methodLink RX0 69 yX0_cellsOfMove, Cond.static yX0_cellsOfMove, Cond.code yX0_cellsOfMove cX0_cellsOfMove 1 (some .int), Cond.methodLink RX2 170 yX0_findsAt, Cond.instanceMethod yX0_findsAt, Cond.selects RX0 yX0_findsAt yX0_findsAt, Cond.code yX0_findsAt cX0_findsAt 4 (some .boolean)]
def wsL_canReach : List Cond := .codeWith yL_canReach cL_canReach 5 (some .int) [(0, 17, 20, 24), (0, 17, 24, 13)] :: ((wsL_canReach_r1 ++ (wsL_canReach_r2 ++ (wsL_canReach_r3 ++ (wsL_canReach_r4 ++ wsL_canReach_r5)))) ++ wsX20 ++ wsX10 ++ wsX00 ++ (vx_atS RX2 117 "java/lang/IndexOutOfBoundsException" ["java/lang/RuntimeException", "java/lang/Exception"]).filter goodWord ++ (vx_atS RX2 33 "java/lang/IllegalArgumentException" ["java/lang/RuntimeException", "java/lang/Exception"]).filter goodWord)
def wsL_law0_r1 : List Cond := [Cond.classLink RL 8 RX2, Cond.instantiable RX2 7, Cond.initialized RX2, Cond.classLink RL 49 RX3, Cond.instantiable RX3 19, Cond.initialized RX3, Cond.arrayClass .long, Cond.methodLink RL 48 yX2_init, Cond.instanceMethod yX2_init, Cond.code yX2_init cX2_init 1 none, Cond.methodLink RX2 1 objectInit, Cond.instanceMethod objectInit, Cond.code objectInit ⟨#[0xb1]⟩ 1 none, Cond.classLink RX2 7 RX1, Cond.instantiable RX1 6, Cond.initialized RX1, Cond.fieldLink RX2 10 "RampJam" "yard" "LRampJam$Yard;", Cond.classLink RX2 16 RX0, Cond.instantiable RX0 10, Cond.initialized RX0, Cond.fieldLink RX2 21 "RampJam" "search" "LRampJam$Search;", Cond.instanceMethod yX1_init, Cond.code yX1_init cX1_init 1 none, Cond.methodLink RX1 3 objectInit]
def wsL_law0_r2 : List Cond := [Cond.arrayClass .int, Cond.fieldLink RX1 9 "RampJam$Yard" "sizes" "[I", Cond.arrayClass .boolean, Cond.fieldLink RX1 15 "RampJam$Yard" "acrosses" "[Z", Cond.fieldLink RX1 19 "RampJam$Yard" "lines" "[I", Cond.fieldLink RX1 22 "RampJam$Yard" "shapes" "[J", Cond.methodLink RX2 18 yX0_init, Cond.instanceMethod yX0_init, Cond.code yX0_init cX0_init 2 none, Cond.methodLink RX0 3 objectInit, Cond.fieldLink RX0 9 "RampJam$Search" "found" "[I", Cond.fieldLink RX0 15 "RampJam$Search" "origins" "[I", Cond.fieldLink RX0 18 "RampJam$Search" "moveCodes" "[I", Cond.fieldLink RX0 21 "RampJam$Search" "slots" "[I", Cond.fieldLink RX0 24 "RampJam$Search" "yard" "LRampJam$Yard;", Cond.methodLink RL 51 yX3_init, Cond.instanceMethod yX3_init, Cond.code yX3_init cX3_init 1 none, Cond.methodLink RX3 1 objectInit, Cond.fieldLink RX3 7 "RampJamModel" "cellsOf" "[I", Cond.fieldLink RX3 13 "RampJamModel" "isAcross" "[I", Cond.fieldLink RX3 16 "RampJamModel" "lineOf" "[I", Cond.fieldLink RX3 19 "RampJamModel" "place" "[I", Cond.fieldLink RX3 22 "RampJamModel" "parked" "[I"]
def wsL_law0_r3 : List Cond := [Cond.fieldLink RX3 25 "RampJamModel" "rampAt" "I", Cond.fieldLink RX3 29 "RampJamModel" "yard" "[I", Cond.fieldLink RX3 32 "RampJamModel" "found" "[I", Cond.fieldLink RX3 35 "RampJamModel" "from" "[I", Cond.fieldLink RX3 38 "RampJamModel" "by" "[I", Cond.fieldLink RX3 41 "RampJamModel" "depth" "[I", Cond.fieldLink RX3 44 "RampJamModel" "slots" "[I", Cond.fieldLink RX3 47 "RampJamModel" "kept" "[I", Cond.methodLink RL 52 yL_park, Cond.static yL_park, Cond.initialized RL, Cond.codeWith yL_park cL_park 7 (some .int) [(0, 14, 17, 13), (0, 14, 21, 15)], Cond.classLink RL 13 "java/lang/IllegalArgumentException", Cond.classLink RL 15 "java/lang/IllegalStateException", Cond.methodLink RL 7 yX2_park, Cond.instanceMethod yX2_park, Cond.selects RX2 yX2_park yX2_park, Cond.code yX2_park cX2_park 10 (some .int), Cond.classLink RX2 29 "java/lang/IllegalArgumentException", Cond.initialized "java/lang/IllegalArgumentException", Cond.classLink RX2 48 "java/lang/IllegalStateException", Cond.initialized "java/lang/IllegalStateException", Cond.fieldLink RX2 44 "RampJam" "moveCount" "I", Cond.fieldLink RX2 57 "RampJam" "position" "I"]
def wsL_law0_r4 : List Cond := [Cond.fieldLink RX2 73 "RampJam" "parkedPosition" "I", Cond.methodLink RX2 25 yX2_isInYard, Cond.static yX2_isInYard, Cond.code yX2_isInYard cX2_isInYard 2 (some .boolean), Cond.methodLink RX2 38 yX1_count, Cond.instanceMethod yX1_count, Cond.selects RX1 yX1_count yX1_count, Cond.code yX1_count cX1_count 1 (some .int), Cond.fieldLink RX1 26 "RampJam$Yard" "vehicleCount" "I", Cond.methodLink RX2 53 yX2_cellsOf, Cond.static yX2_cellsOf, Cond.code yX2_cellsOf cX2_cellsOf 7 (some .long), Cond.methodLink RX2 88 yX2_cellOf, Cond.static yX2_cellOf, Cond.code yX2_cellOf cX2_cellOf 2 (some .long), Cond.methodLink RX2 60 yX1_filledIn, Cond.instanceMethod yX1_filledIn, Cond.selects RX1 yX1_filledIn yX1_filledIn, Cond.code yX1_filledIn cX1_filledIn 5 (some .long), Cond.methodLink RX1 46 yX1_cellsIn, Cond.instanceMethod yX1_cellsIn, Cond.selects RX1 yX1_cellsIn yX1_cellsIn, Cond.code yX1_cellsIn cX1_cellsIn 4 (some .long), Cond.methodLink RX1 38 yX1_has]
def wsL_law0_r5 : List Cond := [Cond.instanceMethod yX1_has, Cond.selects RX1 yX1_has yX1_has, Cond.code yX1_has cX1_has 2 (some .boolean), Cond.static yX2_placeIn, Cond.code yX2_placeIn cX2_placeIn 2 (some .int), Cond.methodLink RX2 64 yX1_barredTo, Cond.instanceMethod yX1_barredTo, Cond.selects RX1 yX1_barredTo yX1_barredTo, Cond.code yX1_barredTo cX1_barredTo 2 (some .long), Cond.fieldLink RX1 34 "RampJam$Yard" "rampCell" "J", Cond.methodLink RX2 69 yX1_add, Cond.instanceMethod yX1_add, Cond.selects RX1 yX1_add yX1_add, Cond.code yX1_add cX1_add 5 (some .int), Cond.methodLink RX2 76 yX2_moved, Cond.static yX2_moved, Cond.code yX2_moved cX2_moved 3 (some .int), Cond.methodLink RX2 80 yX2_standAt, Cond.instanceMethod yX2_standAt, Cond.selects RX2 yX2_standAt yX2_standAt, Cond.code yX2_standAt cX2_standAt 2 none, Cond.fieldLink RX2 106 "RampJam" "isSearched" "Z", Cond.methodLink RL 57 yX3_park, Cond.instanceMethod yX3_park]
def wsL_law0_r6 : List Cond := [Cond.selects RX3 yX3_park yX3_park, Cond.code yX3_park cX3_park 12 (some .int), Cond.fieldLink RX3 53 "RampJamModel" "many" "I", Cond.fieldLink RX3 50 "RampJamModel" "thrown" "I", Cond.fieldLink RX3 71 "RampJamModel" "moves" "I", Cond.methodLink RX3 60 yX3_isLine, Cond.static yX3_isLine, Cond.code yX3_isLine cX3_isLine 1 (some .boolean), Cond.methodLink RX3 68 yX3_laysYard, Cond.instanceMethod yX3_laysYard, Cond.selects RX3 yX3_laysYard yX3_laysYard, Cond.code yX3_laysYard cX3_laysYard 3 none, Cond.methodLink RX3 56 yX3_cell, Cond.static yX3_cell, Cond.code yX3_cell cX3_cell 3 (some .int), Cond.methodLink RL 58 yX3_thrown, Cond.instanceMethod yX3_thrown, Cond.selects RX3 yX3_thrown yX3_thrown, Cond.code yX3_thrown cX3_thrown 1 (some .int), Cond.methodLink RL 62 yL_ramp, Cond.static yL_ramp, Cond.codeWith yL_ramp cL_ramp 4 (some .int) [(0, 6, 9, 13), (0, 6, 12, 15)], Cond.methodLink RL 17 yX2_ramp, Cond.instanceMethod yX2_ramp]
def wsL_law0_r7 : List Cond := [Cond.selects RX2 yX2_ramp yX2_ramp, Cond.code yX2_ramp cX2_ramp 5 none, Cond.methodLink RX2 92 yX1_vehicleOn, Cond.instanceMethod yX1_vehicleOn, Cond.selects RX1 yX1_vehicleOn yX1_vehicleOn, Cond.code yX1_vehicleOn cX1_vehicleOn 5 (some .int), Cond.methodLink RX2 96 yX1_isLorry, Cond.instanceMethod yX1_isLorry, Cond.selects RX1 yX1_isLorry yX1_isLorry, Cond.code yX1_isLorry cX1_isLorry 2 (some .boolean), Cond.methodLink RX2 102 yX1_putRamp, Cond.instanceMethod yX1_putRamp, Cond.selects RX1 yX1_putRamp yX1_putRamp, Cond.code yX1_putRamp cX1_putRamp 3 none, Cond.methodLink RL 65 yX3_ramp, Cond.instanceMethod yX3_ramp, Cond.selects RX3 yX3_ramp yX3_ramp, Cond.code yX3_ramp cX3_ramp 5 none, Cond.methodLink RL 66 yL_drive, Cond.static yL_drive, Cond.codeWith yL_drive cL_drive 4 (some .int) [(0, 6, 9, 24), (0, 6, 12, 13), (0, 6, 15, 15)], Cond.classLink RL 24 "java/lang/IndexOutOfBoundsException", Cond.methodLink RL 21 yX2_drive, Cond.instanceMethod yX2_drive]
def wsL_law0_r8 : List Cond := [Cond.selects RX2 yX2_drive yX2_drive, Cond.code yX2_drive cX2_drive 3 none, Cond.classLink RX2 113 "java/lang/IndexOutOfBoundsException", Cond.initialized "java/lang/IndexOutOfBoundsException", Cond.methodLink RX2 120 Lib.Math.abs.name, Cond.static Lib.Math.abs.name, Cond.initialized "java/lang/Math", Cond.code Lib.Math.abs.name Lib.Math.abs.code 1 (some .int), Cond.methodLink RX2 110 yX1_has, Cond.methodLink RX2 126 yX2_wayNow, Cond.instanceMethod yX2_wayNow, Cond.selects RX2 yX2_wayNow yX2_wayNow, Cond.code yX2_wayNow cX2_wayNow 3 (some .int), Cond.methodLink RX2 173 yX1_wayIn, Cond.instanceMethod yX1_wayIn, Cond.selects RX1 yX1_wayIn yX1_wayIn, Cond.code yX1_wayIn cX1_wayIn 14 (some .int), Cond.constantLong RX1 50 (-1), Cond.methodLink RX1 52 yX1_barredTo, Cond.methodLink RX2 132 yX2_makeMove, Cond.instanceMethod yX2_makeMove, Cond.selects RX2 yX2_makeMove yX2_makeMove, Cond.code yX2_makeMove cX2_makeMove 3 none, Cond.fieldLink RX2 136 "RampJam" "drivenCells" "I"]
def wsL_law0_r9 : List Cond := [Cond.methodLink RL 68 yX3_drive, Cond.instanceMethod yX3_drive, Cond.selects RX3 yX3_drive yX3_drive, Cond.code yX3_drive cX3_drive 5 none, Cond.methodLink RX3 77 yX3_isVehicle, Cond.instanceMethod yX3_isVehicle, Cond.selects RX3 yX3_isVehicle yX3_isVehicle, Cond.code yX3_isVehicle cX3_isVehicle 2 (some .boolean), Cond.methodLink RX3 80 yX3_way, Cond.instanceMethod yX3_way, Cond.selects RX3 yX3_way yX3_way, Cond.code yX3_way cX3_way 4 (some .int), Cond.methodLink RX3 64 yX3_isOpen, Cond.instanceMethod yX3_isOpen, Cond.selects RX3 yX3_isOpen yX3_isOpen, Cond.code yX3_isOpen cX3_isOpen 4 (some .boolean), Cond.methodLink RX3 84 yX3_goes, Cond.instanceMethod yX3_goes, Cond.selects RX3 yX3_goes yX3_goes, Cond.code yX3_goes cX3_goes 3 none, Cond.fieldLink RX3 74 "RampJamModel" "driven" "I", Cond.methodLink RL 69 yL_driveOn, Cond.static yL_driveOn, Cond.codeWith yL_driveOn cL_driveOn 5 (some .int) [(0, 10, 13, 24)]]
def wsL_law0_r10 : List Cond := [Cond.methodLink RL 26 yX2_driveOn, Cond.instanceMethod yX2_driveOn, Cond.selects RX2 yX2_driveOn yX2_driveOn, Cond.code yX2_driveOn cX2_driveOn 4 (some .int), Cond.methodLink RL 72 yX3_driveOn, Cond.instanceMethod yX3_driveOn, Cond.selects RX3 yX3_driveOn yX3_driveOn, Cond.code yX3_driveOn cX3_driveOn 4 (some .int), Cond.methodLink RL 73 yX2_restart, Cond.instanceMethod yX2_restart, Cond.selects RX2 yX2_restart yX2_restart, Cond.code yX2_restart cX2_restart 1 none, Cond.methodLink RL 76 yX3_restart, Cond.instanceMethod yX3_restart, Cond.selects RX3 yX3_restart yX3_restart, Cond.code yX3_restart cX3_restart 2 none, Cond.methodLink RL 77 yX2_vehicles, Cond.instanceMethod yX2_vehicles, Cond.selects RX2 yX2_vehicles yX2_vehicles, Cond.code yX2_vehicles cX2_vehicles 1 (some .int), Cond.methodLink RL 80 yX3_vehicles, Cond.instanceMethod yX3_vehicles, Cond.selects RX3 yX3_vehicles yX3_vehicles, Cond.code yX3_vehicles cX3_vehicles 1 (some .int)]
def wsL_law0_r11 : List Cond := [Cond.methodLink RL 81 yL_rowOf, Cond.static yL_rowOf, Cond.codeWith yL_rowOf cL_rowOf 4 (some .int) [(0, 9, 12, 24)], Cond.methodLink RL 30 yX2_rowOf, Cond.instanceMethod yX2_rowOf, Cond.selects RX2 yX2_rowOf yX2_rowOf, Cond.code yX2_rowOf cX2_rowOf 2 (some .int), Cond.methodLink RX2 139 yX1_standsAcross, Cond.instanceMethod yX1_standsAcross, Cond.selects RX1 yX1_standsAcross yX1_standsAcross, Cond.code yX1_standsAcross cX1_standsAcross 2 (some .boolean), Cond.methodLink RX2 142 yX1_lineOf, Cond.instanceMethod yX1_lineOf, Cond.selects RX1 yX1_lineOf yX1_lineOf, Cond.code yX1_lineOf cX1_lineOf 2 (some .int), Cond.methodLink RX2 145 yX2_placeIn, Cond.methodLink RL 84 yX3_rowOf, Cond.instanceMethod yX3_rowOf, Cond.selects RX3 yX3_rowOf yX3_rowOf, Cond.code yX3_rowOf cX3_rowOf 2 (some .int), Cond.methodLink RL 85 yL_columnOf, Cond.static yL_columnOf, Cond.codeWith yL_columnOf cL_columnOf 4 (some .int) [(0, 9, 12, 24)], Cond.methodLink RL 34 yX2_columnOf]
def wsL_law0_r12 : List Cond := [Cond.instanceMethod yX2_columnOf, Cond.selects RX2 yX2_columnOf yX2_columnOf, Cond.code yX2_columnOf cX2_columnOf 2 (some .int), Cond.methodLink RL 87 yX3_columnOf, Cond.instanceMethod yX3_columnOf, Cond.selects RX3 yX3_columnOf yX3_columnOf, Cond.code yX3_columnOf cX3_columnOf 2 (some .int), Cond.methodLink RL 88 yL_at, Cond.static yL_at, Cond.codeWith yL_at cL_at 5 (some .int) [(0, 10, 13, 13)], Cond.methodLink RL 37 yX2_at, Cond.instanceMethod yX2_at, Cond.selects RX2 yX2_at yX2_at, Cond.code yX2_at cX2_at 3 (some .int), Cond.methodLink RL 91 yX3_at, Cond.instanceMethod yX3_at, Cond.selects RX3 yX3_at yX3_at, Cond.code yX3_at cX3_at 3 (some .int), Cond.methodLink RL 92 yL_freeWay, Cond.static yL_freeWay, Cond.codeWith yL_freeWay cL_freeWay 5 (some .int) [(0, 10, 13, 24)], Cond.methodLink RL 41 yX2_freeWay, Cond.instanceMethod yX2_freeWay, Cond.selects RX2 yX2_freeWay yX2_freeWay]
def wsL_law0_r13 : List Cond := [Cond.code yX2_freeWay cX2_freeWay 3 (some .int), Cond.methodLink RL 94 yX3_freeWay, Cond.instanceMethod yX3_freeWay, Cond.selects RX3 yX3_freeWay yX3_freeWay, Cond.code yX3_freeWay cX3_freeWay 3 (some .int), Cond.methodLink RL 95 yX2_inTheWay, Cond.instanceMethod yX2_inTheWay, Cond.selects RX2 yX2_inTheWay yX2_inTheWay, Cond.code yX2_inTheWay cX2_inTheWay 5 (some .int), Cond.methodLink RX2 149 yX1_cellsIn, Cond.methodLink RL 98 yX3_inTheWay, Cond.instanceMethod yX3_inTheWay, Cond.selects RX3 yX3_inTheWay yX3_inTheWay, Cond.code yX3_inTheWay cX3_inTheWay 6 (some .int), Cond.methodLink RL 99 yX2_isSolved, Cond.instanceMethod yX2_isSolved, Cond.selects RX2 yX2_isSolved yX2_isSolved, Cond.code yX2_isSolved cX2_isSolved 1 (some .boolean), Cond.methodLink RL 103 yX3_isSolved, Cond.instanceMethod yX3_isSolved, Cond.selects RX3 yX3_isSolved yX3_isSolved, Cond.code yX3_isSolved cX3_isSolved 1 (some .boolean), Cond.methodLink RX3 88 yX3_isFree, Cond.instanceMethod yX3_isFree]
def wsL_law0_r14 : List Cond := [Cond.selects RX3 yX3_isFree yX3_isFree, Cond.code yX3_isFree cX3_isFree 1 (some .boolean), Cond.methodLink RL 104 yX2_moves, Cond.instanceMethod yX2_moves, Cond.selects RX2 yX2_moves yX2_moves, Cond.code yX2_moves cX2_moves 1 (some .int), Cond.methodLink RL 107 yX3_moves, Cond.instanceMethod yX3_moves, Cond.selects RX3 yX3_moves yX3_moves, Cond.code yX3_moves cX3_moves 1 (some .int), Cond.methodLink RL 108 yX2_driven, Cond.instanceMethod yX2_driven, Cond.selects RX2 yX2_driven yX2_driven, Cond.code yX2_driven cX2_driven 1 (some .int), Cond.methodLink RL 111 yX3_driven, Cond.instanceMethod yX3_driven, Cond.selects RX3 yX3_driven yX3_driven, Cond.code yX3_driven cX3_driven 1 (some .int), Cond.methodLink RL 112 yX2_positions, Cond.instanceMethod yX2_positions, Cond.selects RX2 yX2_positions yX2_positions, Cond.code yX2_positions cX2_positions 1 (some .int), Cond.methodLink RX2 152 yX2_searchFromNow, Cond.instanceMethod yX2_searchFromNow]
def wsL_law0_r15 : List Cond := [Cond.selects RX2 yX2_searchFromNow yX2_searchFromNow, Cond.code yX2_searchFromNow cX2_searchFromNow 1 none, Cond.methodLink RX2 177 yX0_lookFrom, Cond.instanceMethod yX0_lookFrom, Cond.selects RX0 yX0_lookFrom yX0_lookFrom, Cond.code yX0_lookFrom cX0_lookFrom 3 none, Cond.fieldLink RX0 28 "RampJam$Search" "foundCount" "I", Cond.fieldLink RX0 38 "RampJam$Search" "firstSolved" "I", Cond.methodLink RX0 32 yJ7_fill_53178, Cond.static yJ7_fill_53178, Cond.initialized RJ7, Cond.code yJ7_fill_53178 cJ7_fill_53178 4 none, Cond.methodLink RX0 41 yX0_addIfNew, Cond.instanceMethod yX0_addIfNew, Cond.selects RX0 yX0_addIfNew yX0_addIfNew, Cond.code yX0_addIfNew cX0_addIfNew 6 none, Cond.methodLink RX0 103 yX0_slotFor, Cond.instanceMethod yX0_slotFor, Cond.selects RX0 yX0_slotFor yX0_slotFor, Cond.code yX0_slotFor cX0_slotFor 6 (some .int), Cond.constant RX0 106 (-1640531535), Cond.methodLink RX0 45 yX0_addReachedFrom, Cond.instanceMethod yX0_addReachedFrom, Cond.selects RX0 yX0_addReachedFrom yX0_addReachedFrom]
def wsL_law0_r16 : List Cond := [Cond.code yX0_addReachedFrom cX0_addReachedFrom 6 none, Cond.methodLink RX0 61 yX0_isFound, Cond.instanceMethod yX0_isFound, Cond.selects RX0 yX0_isFound yX0_isFound, Cond.code yX0_isFound cX0_isFound 2 (some .boolean), Cond.methodLink RX0 78 yX1_filledIn, Cond.methodLink RX0 84 yX1_count, Cond.methodLink RX0 88 yX1_wayIn, Cond.methodLink RX0 92 yX0_addDriven, Cond.instanceMethod yX0_addDriven, Cond.selects RX0 yX0_addDriven yX0_addDriven, Cond.code yX0_addDriven cX0_addDriven 7 none, Cond.methodLink RX0 100 yX0_codeOfMove, Cond.static yX0_codeOfMove, Cond.code yX0_codeOfMove cX0_codeOfMove 2 (some .int), Cond.methodLink RX0 49 yX0_traceWay, Cond.instanceMethod yX0_traceWay, Cond.selects RX0 yX0_traceWay yX0_traceWay, Cond.code yX0_traceWay cX0_traceWay 3 none, Cond.fieldLink RX0 52 "RampJam$Search" "solvedMoves" "I", Cond.fieldLink RX0 55 "RampJam$Search" "solvedCells" "I", Cond.fieldLink RX0 58 "RampJam$Search" "solvedFirstMove" "I", Cond.methodLink RX0 73 Lib.Math.abs.name, Cond.methodLink RX0 69 yX0_cellsOfMove]
def wsL_law0_r17 : List Cond := [Cond.static yX0_cellsOfMove, Cond.code yX0_cellsOfMove cX0_cellsOfMove 1 (some .int), Cond.methodLink RX2 155 yX0_count, Cond.instanceMethod yX0_count, Cond.selects RX0 yX0_count yX0_count, Cond.code yX0_count cX0_count 1 (some .int), Cond.methodLink RL 115 yX3_positions, Cond.instanceMethod yX3_positions, Cond.selects RX3 yX3_positions yX3_positions, Cond.code yX3_positions cX3_positions 1 (some .int), Cond.fieldLink RX3 96 "RampJamModel" "foundMany" "I", Cond.methodLink RX3 113 yX3_looks, Cond.instanceMethod yX3_looks, Cond.selects RX3 yX3_looks yX3_looks, Cond.code yX3_looks cX3_looks 3 none, Cond.fieldLink RX3 99 "RampJamModel" "firstFree" "I", Cond.methodLink RX3 102 yX3_takes, Cond.instanceMethod yX3_takes, Cond.selects RX3 yX3_takes yX3_takes, Cond.code yX3_takes cX3_takes 5 none, Cond.methodLink RX3 92 yX3_positionNow, Cond.instanceMethod yX3_positionNow, Cond.selects RX3 yX3_positionNow yX3_positionNow, Cond.code yX3_positionNow cX3_positionNow 3 (some .int)]
def wsL_law0_r18 : List Cond := [Cond.methodLink RX3 105 yX3_digit, Cond.static yX3_digit, Cond.code yX3_digit cX3_digit 4 (some .int), Cond.methodLink RX3 109 yX3_tries, Cond.instanceMethod yX3_tries, Cond.selects RX3 yX3_tries yX3_tries, Cond.code yX3_tries cX3_tries 7 none, Cond.methodLink RL 116 yX2_fewestMoves, Cond.instanceMethod yX2_fewestMoves, Cond.selects RX2 yX2_fewestMoves yX2_fewestMoves, Cond.code yX2_fewestMoves cX2_fewestMoves 1 (some .int), Cond.methodLink RX2 156 yX0_movesToSolved, Cond.instanceMethod yX0_movesToSolved, Cond.selects RX0 yX0_movesToSolved yX0_movesToSolved, Cond.code yX0_movesToSolved cX0_movesToSolved 1 (some .int), Cond.methodLink RL 119 yX3_fewestMoves, Cond.instanceMethod yX3_fewestMoves, Cond.selects RX3 yX3_fewestMoves yX3_fewestMoves, Cond.code yX3_fewestMoves cX3_fewestMoves 1 (some .int), Cond.methodLink RL 120 yX2_hint, Cond.instanceMethod yX2_hint, Cond.selects RX2 yX2_hint yX2_hint, Cond.code yX2_hint cX2_hint 1 (some .int), Cond.methodLink RX2 159 yX0_firstMoveToSolved]
def wsL_law0_r19 : List Cond := [Cond.instanceMethod yX0_firstMoveToSolved, Cond.selects RX0 yX0_firstMoveToSolved yX0_firstMoveToSolved, Cond.code yX0_firstMoveToSolved cX0_firstMoveToSolved 1 (some .int), Cond.methodLink RL 123 yX3_hint, Cond.instanceMethod yX3_hint, Cond.selects RX3 yX3_hint yX3_hint, Cond.code yX3_hint cX3_hint 1 (some .int), Cond.methodLink RX3 116 yX3_firstMoveTo, Cond.instanceMethod yX3_firstMoveTo, Cond.selects RX3 yX3_firstMoveTo yX3_firstMoveTo, Cond.code yX3_firstMoveTo cX3_firstMoveTo 3 (some .int), Cond.methodLink RL 124 yX2_solve, Cond.instanceMethod yX2_solve, Cond.selects RX2 yX2_solve yX2_solve, Cond.code yX2_solve cX2_solve 2 (some .int), Cond.methodLink RX2 162 yX0_cellsToSolved, Cond.instanceMethod yX0_cellsToSolved, Cond.selects RX0 yX0_cellsToSolved yX0_cellsToSolved, Cond.code yX0_cellsToSolved cX0_cellsToSolved 1 (some .int), Cond.methodLink RX2 165 yX0_solvedPosition, Cond.instanceMethod yX0_solvedPosition, Cond.selects RX0 yX0_solvedPosition yX0_solvedPosition, Cond.code yX0_solvedPosition cX0_solvedPosition 1 (some .int), Cond.methodLink RL 127 yX3_solve]
def wsL_law0_r20 : List Cond := [Cond.instanceMethod yX3_solve, Cond.selects RX3 yX3_solve yX3_solve, Cond.code yX3_solve cX3_solve 4 (some .int), Cond.methodLink RL 128 yL_canReach, Cond.static yL_canReach, Cond.codeWith yL_canReach cL_canReach 5 (some .int) [(0, 17, 20, 24), (0, 17, 24, 13)], Cond.methodLink RL 44 yX2_canReach, Cond.instanceMethod yX2_canReach, Cond.selects RX2 yX2_canReach yX2_canReach, Cond.code yX2_canReach cX2_canReach 3 (some .boolean), Cond.methodLink RX2 170 yX0_findsAt, Cond.instanceMethod yX0_findsAt, Cond.selects RX0 yX0_findsAt yX0_findsAt, Cond.code yX0_findsAt cX0_findsAt 4 (some .boolean), Cond.methodLink RL 130 yX3_canReach, Cond.instanceMethod yX3_canReach, Cond.selects RX3 yX3_canReach yX3_canReach, Cond.code yX3_canReach cX3_canReach 5 (some .boolean)]
def wsL_law0 : List Cond := (wsL_law0_r1 ++ (wsL_law0_r2 ++ (wsL_law0_r3 ++ (wsL_law0_r4 ++ (wsL_law0_r5 ++ (wsL_law0_r6 ++ (wsL_law0_r7 ++ (wsL_law0_r8 ++ (wsL_law0_r9 ++ (wsL_law0_r10 ++ (wsL_law0_r11 ++ (wsL_law0_r12 ++ (wsL_law0_r13 ++ (wsL_law0_r14 ++ (wsL_law0_r15 ++ (wsL_law0_r16 ++ (wsL_law0_r17 ++ (wsL_law0_r18 ++ (wsL_law0_r19 ++ wsL_law0_r20))))))))))))))))))) ++ wsX20 ++ wsX30 ++ wsX10 ++ wsX00 ++ ([] : List Cond)
def wsL_law : List Cond := wsL_law0 ++ (vx_atS RX2 33 "java/lang/IllegalArgumentException" ["java/lang/RuntimeException", "java/lang/Exception"]).filter goodWord ++ (vx_atS RX2 52 "java/lang/IllegalStateException" ["java/lang/RuntimeException", "java/lang/Exception"]).filter goodWord ++ (vx_atS RX2 117 "java/lang/IndexOutOfBoundsException" ["java/lang/RuntimeException", "java/lang/Exception"]).filter goodWord
abbrev vwCl : List vw_C := [(RX0, TX0, 10), (RX1, TX1, 6), (RX2, TX2, 7), (RX3, TX3, 19)]
end
section
theorem dX0_init_0 : decode cX0_init 0 = .ok (.aload_n 0, 1) := by decide +kernel
theorem dX0_init_1 : decode cX0_init 1 = .ok (.invokespecial 3, 3) := by decide +kernel
theorem dX0_init_4 : decode cX0_init 4 = .ok (.aload_n 0, 1) := by decide +kernel
theorem dX0_init_5 : decode cX0_init 5 = .ok (.sipush 800, 3) := by decide +kernel
theorem dX0_init_8 : decode cX0_init 8 = .ok (.newarray .int, 2) := by decide +kernel
theorem dX0_init_10 : decode cX0_init 10 = .ok (.putfield 9, 3) := by decide +kernel
theorem dX0_init_13 : decode cX0_init 13 = .ok (.aload_n 0, 1) := by decide +kernel
theorem dX0_init_14 : decode cX0_init 14 = .ok (.sipush 800, 3) := by decide +kernel
theorem dX0_init_17 : decode cX0_init 17 = .ok (.newarray .int, 2) := by decide +kernel
theorem dX0_init_19 : decode cX0_init 19 = .ok (.putfield 15, 3) := by decide +kernel
theorem dX0_init_22 : decode cX0_init 22 = .ok (.aload_n 0, 1) := by decide +kernel
theorem dX0_init_23 : decode cX0_init 23 = .ok (.sipush 800, 3) := by decide +kernel
theorem dX0_init_26 : decode cX0_init 26 = .ok (.newarray .int, 2) := by decide +kernel
theorem dX0_init_28 : decode cX0_init 28 = .ok (.putfield 18, 3) := by decide +kernel
theorem dX0_init_31 : decode cX0_init 31 = .ok (.aload_n 0, 1) := by decide +kernel
theorem dX0_init_32 : decode cX0_init 32 = .ok (.sipush 2048, 3) := by decide +kernel
theorem dX0_init_35 : decode cX0_init 35 = .ok (.newarray .int, 2) := by decide +kernel
theorem dX0_init_37 : decode cX0_init 37 = .ok (.putfield 21, 3) := by decide +kernel
theorem dX0_init_40 : decode cX0_init 40 = .ok (.aload_n 0, 1) := by decide +kernel
theorem dX0_init_41 : decode cX0_init 41 = .ok (.aload_n 1, 1) := by decide +kernel
theorem dX0_init_42 : decode cX0_init 42 = .ok (.putfield 24, 3) := by decide +kernel
theorem dX0_init_45 : decode cX0_init 45 = .ok (.return_, 1) := by decide +kernel
theorem dX0_count_0 : decode cX0_count 0 = .ok (.aload_n 0, 1) := by decide +kernel
theorem dX0_count_1 : decode cX0_count 1 = .ok (.getfield 28, 3) := by decide +kernel
theorem dX0_count_4 : decode cX0_count 4 = .ok (.ireturn, 1) := by decide +kernel
set_option maxRecDepth 20000 in
theorem ggX0_lookFrom_J7_fill_53178 : GoodIn wsX0_lookFrom wsJ7_fill_53178 := goodIn_r _ [7] (by decide +kernel) (by decide +kernel)
set_option maxRecDepth 20000 in
theorem gX0_lookFrom_J7_fill_53178 : GoodIn wsX0_lookFrom (va_wsS RX0 32 yJ7_fill_53178 wsJ7_fill_53178) := goodIn_app (goodIn_of _ (by decide +kernel)) ggX0_lookFrom_J7_fill_53178
set_option maxRecDepth 20000 in
theorem ggX0_lookFrom_X0_addIfNew : GoodIn wsX0_lookFrom wsX0_addIfNew := goodIn_r _ [12, 2, 1, 13, 14, 15, 3, 16, 17, 18, 11, 19, 20, 21, 22, 23, 87, 88, 89, 90, 91, 92, 93, 94, 95, 96] (by decide +kernel) (by decide +kernel)
set_option maxRecDepth 20000 in
theorem gX0_lookFrom_X0_addIfNew : GoodIn wsX0_lookFrom (wsV RX0 41 RX0 yX0_addIfNew wsX0_addIfNew) := goodIn_app (goodIn_of _ (by decide +kernel)) ggX0_lookFrom_X0_addIfNew
set_option maxRecDepth 20000 in
theorem ggX0_lookFrom_X0_addReachedFrom : GoodIn wsX0_lookFrom wsX0_addReachedFrom := goodIn_r _ [27, 13, 28, 29, 30, 31, 11, 32, 2, 33, 34, 35, 36, 37, 38, 39, 40, 41, 42, 43, 44, 45, 46, 47, 48, 21, 22, 23, 49, 50, 51, 52, 53, 54, 55, 56, 57, 58, 59, 60, 61, 62, 63, 64, 65, 66, 67, 68, 69, 70, 71, 72, 8, 9, 10, 12, 1, 14, 15, 3, 16, 17, 18, 19, 20, 87, 88, 89, 90, 91, 92, 93, 94, 95, 96, 97, 98, 99, 100, 101, 102] (by decide +kernel) (by decide +kernel)
set_option maxRecDepth 20000 in
theorem gX0_lookFrom_X0_addReachedFrom : GoodIn wsX0_lookFrom (wsV RX0 45 RX0 yX0_addReachedFrom wsX0_addReachedFrom) := goodIn_app (goodIn_of _ (by decide +kernel)) ggX0_lookFrom_X0_addReachedFrom
set_option maxRecDepth 20000 in
theorem ggX0_lookFrom_X0_traceWay : GoodIn wsX0_lookFrom wsX0_traceWay := goodIn_r _ [76, 3, 77, 78, 79, 15, 80, 81, 82, 83, 14, 29, 30, 31, 11, 32, 2, 84, 85, 86, 87, 88, 89, 90, 91, 92, 93, 94, 95, 96] (by decide +kernel) (by decide +kernel)
set_option maxRecDepth 20000 in
theorem gX0_lookFrom_X0_traceWay : GoodIn wsX0_lookFrom (wsV RX0 49 RX0 yX0_traceWay wsX0_traceWay) := goodIn_app (goodIn_of _ (by decide +kernel)) ggX0_lookFrom_X0_traceWay
theorem dX0_lookFrom_0 : decode cX0_lookFrom 0 = .ok (.aload_n 0, 1) := by decide +kernel
theorem dX0_lookFrom_1 : decode cX0_lookFrom 1 = .ok (.getfield 21, 3) := by decide +kernel
theorem dX0_lookFrom_4 : decode cX0_lookFrom 4 = .ok (.iconst 0, 1) := by decide +kernel
theorem dX0_lookFrom_5 : decode cX0_lookFrom 5 = .ok (.invokestatic 32, 3) := by decide +kernel
theorem dX0_lookFrom_8 : decode cX0_lookFrom 8 = .ok (.aload_n 0, 1) := by decide +kernel
theorem dX0_lookFrom_9 : decode cX0_lookFrom 9 = .ok (.iconst 0, 1) := by decide +kernel
theorem dX0_lookFrom_10 : decode cX0_lookFrom 10 = .ok (.putfield 28, 3) := by decide +kernel
theorem dX0_lookFrom_13 : decode cX0_lookFrom 13 = .ok (.aload_n 0, 1) := by decide +kernel
theorem dX0_lookFrom_14 : decode cX0_lookFrom 14 = .ok (.iconst (-1), 1) := by decide +kernel
theorem dX0_lookFrom_15 : decode cX0_lookFrom 15 = .ok (.putfield 38, 3) := by decide +kernel
theorem dX0_lookFrom_18 : decode cX0_lookFrom 18 = .ok (.aload_n 0, 1) := by decide +kernel
theorem dX0_lookFrom_19 : decode cX0_lookFrom 19 = .ok (.iload_n 1, 1) := by decide +kernel
theorem dX0_lookFrom_20 : decode cX0_lookFrom 20 = .ok (.iconst 0, 1) := by decide +kernel
theorem dX0_lookFrom_21 : decode cX0_lookFrom 21 = .ok (.iconst 0, 1) := by decide +kernel
theorem dX0_lookFrom_22 : decode cX0_lookFrom 22 = .ok (.invokevirtual 41, 3) := by decide +kernel
theorem dX0_lookFrom_25 : decode cX0_lookFrom 25 = .ok (.iconst 0, 1) := by decide +kernel
theorem dX0_lookFrom_26 : decode cX0_lookFrom 26 = .ok (.istore_n 2, 1) := by decide +kernel
theorem dX0_lookFrom_27 : decode cX0_lookFrom 27 = .ok (.iload_n 2, 1) := by decide +kernel
theorem dX0_lookFrom_28 : decode cX0_lookFrom 28 = .ok (.aload_n 0, 1) := by decide +kernel
theorem dX0_lookFrom_29 : decode cX0_lookFrom 29 = .ok (.getfield 28, 3) := by decide +kernel
theorem dX0_lookFrom_32 : decode cX0_lookFrom 32 = .ok (.if_icmp .ge 24, 3) := by decide +kernel
theorem dX0_lookFrom_35 : decode cX0_lookFrom 35 = .ok (.aload_n 0, 1) := by decide +kernel
theorem dX0_lookFrom_36 : decode cX0_lookFrom 36 = .ok (.getfield 28, 3) := by decide +kernel
theorem dX0_lookFrom_39 : decode cX0_lookFrom 39 = .ok (.sipush 800, 3) := by decide +kernel
theorem dX0_lookFrom_42 : decode cX0_lookFrom 42 = .ok (.if_icmp .ge 14, 3) := by decide +kernel
theorem dX0_lookFrom_45 : decode cX0_lookFrom 45 = .ok (.aload_n 0, 1) := by decide +kernel
theorem dX0_lookFrom_46 : decode cX0_lookFrom 46 = .ok (.iload_n 2, 1) := by decide +kernel
theorem dX0_lookFrom_47 : decode cX0_lookFrom 47 = .ok (.invokevirtual 45, 3) := by decide +kernel
theorem dX0_lookFrom_50 : decode cX0_lookFrom 50 = .ok (.iinc 2 1, 3) := by decide +kernel
theorem dX0_lookFrom_53 : decode cX0_lookFrom 53 = .ok (.goto (-26), 3) := by decide +kernel
theorem dX0_lookFrom_56 : decode cX0_lookFrom 56 = .ok (.aload_n 0, 1) := by decide +kernel
theorem dX0_lookFrom_57 : decode cX0_lookFrom 57 = .ok (.invokevirtual 49, 3) := by decide +kernel
theorem dX0_lookFrom_60 : decode cX0_lookFrom 60 = .ok (.return_, 1) := by decide +kernel
theorem dX0_movesToSolved_0 : decode cX0_movesToSolved 0 = .ok (.aload_n 0, 1) := by decide +kernel
theorem dX0_movesToSolved_1 : decode cX0_movesToSolved 1 = .ok (.getfield 52, 3) := by decide +kernel
theorem dX0_movesToSolved_4 : decode cX0_movesToSolved 4 = .ok (.ireturn, 1) := by decide +kernel
theorem dX0_cellsToSolved_0 : decode cX0_cellsToSolved 0 = .ok (.aload_n 0, 1) := by decide +kernel
theorem dX0_cellsToSolved_1 : decode cX0_cellsToSolved 1 = .ok (.getfield 55, 3) := by decide +kernel
theorem dX0_cellsToSolved_4 : decode cX0_cellsToSolved 4 = .ok (.ireturn, 1) := by decide +kernel
theorem dX0_firstMoveToSolved_0 : decode cX0_firstMoveToSolved 0 = .ok (.aload_n 0, 1) := by decide +kernel
theorem dX0_firstMoveToSolved_1 : decode cX0_firstMoveToSolved 1 = .ok (.getfield 58, 3) := by decide +kernel
theorem dX0_firstMoveToSolved_4 : decode cX0_firstMoveToSolved 4 = .ok (.ireturn, 1) := by decide +kernel
set_option maxRecDepth 20000 in
theorem ggX0_solvedPosition_X0_isFound : GoodIn wsX0_solvedPosition wsX0_isFound := goodIn_r _ [7, 8, 9, 10, 11, 12, 13, 14, 15, 16, 17, 18] (by decide +kernel) (by decide +kernel)
set_option maxRecDepth 20000 in
theorem gX0_solvedPosition_X0_isFound : GoodIn wsX0_solvedPosition (wsV RX0 61 RX0 yX0_isFound wsX0_isFound) := goodIn_app (goodIn_of _ (by decide +kernel)) ggX0_solvedPosition_X0_isFound
theorem dX0_solvedPosition_0 : decode cX0_solvedPosition 0 = .ok (.aload_n 0, 1) := by decide +kernel
theorem dX0_solvedPosition_1 : decode cX0_solvedPosition 1 = .ok (.aload_n 0, 1) := by decide +kernel
theorem dX0_solvedPosition_2 : decode cX0_solvedPosition 2 = .ok (.getfield 38, 3) := by decide +kernel
theorem dX0_solvedPosition_5 : decode cX0_solvedPosition 5 = .ok (.invokevirtual 61, 3) := by decide +kernel
theorem dX0_solvedPosition_8 : decode cX0_solvedPosition 8 = .ok (.ifCond .eq 15, 3) := by decide +kernel
theorem dX0_solvedPosition_11 : decode cX0_solvedPosition 11 = .ok (.aload_n 0, 1) := by decide +kernel
theorem dX0_solvedPosition_12 : decode cX0_solvedPosition 12 = .ok (.getfield 9, 3) := by decide +kernel
theorem dX0_solvedPosition_15 : decode cX0_solvedPosition 15 = .ok (.aload_n 0, 1) := by decide +kernel
theorem dX0_solvedPosition_16 : decode cX0_solvedPosition 16 = .ok (.getfield 38, 3) := by decide +kernel
theorem dX0_solvedPosition_19 : decode cX0_solvedPosition 19 = .ok (.iaload, 1) := by decide +kernel
theorem dX0_solvedPosition_20 : decode cX0_solvedPosition 20 = .ok (.goto 4, 3) := by decide +kernel
theorem dX0_solvedPosition_23 : decode cX0_solvedPosition 23 = .ok (.iconst 0, 1) := by decide +kernel
theorem dX0_solvedPosition_24 : decode cX0_solvedPosition 24 = .ok (.ireturn, 1) := by decide +kernel
set_option maxRecDepth 20000 in
theorem ggX0_findsAt_X2_placeIn : GoodIn wsX0_findsAt wsX2_placeIn := goodIn_r _ [5] (by decide +kernel) (by decide +kernel)
set_option maxRecDepth 20000 in
theorem gX0_findsAt_X2_placeIn_n65 : GoodIn wsX0_findsAt (wsX2_placeIn) := ggX0_findsAt_X2_placeIn
theorem dX0_findsAt_0 : decode cX0_findsAt 0 = .ok (.iconst 0, 1) := by decide +kernel
theorem dX0_findsAt_1 : decode cX0_findsAt 1 = .ok (.istore_n 3, 1) := by decide +kernel
theorem dX0_findsAt_2 : decode cX0_findsAt 2 = .ok (.iload_n 3, 1) := by decide +kernel
theorem dX0_findsAt_3 : decode cX0_findsAt 3 = .ok (.aload_n 0, 1) := by decide +kernel
theorem dX0_findsAt_4 : decode cX0_findsAt 4 = .ok (.getfield 28, 3) := by decide +kernel
theorem dX0_findsAt_7 : decode cX0_findsAt 7 = .ok (.if_icmp .ge 32, 3) := by decide +kernel
theorem dX0_findsAt_10 : decode cX0_findsAt 10 = .ok (.iload_n 3, 1) := by decide +kernel
theorem dX0_findsAt_11 : decode cX0_findsAt 11 = .ok (.sipush 800, 3) := by decide +kernel
theorem dX0_findsAt_14 : decode cX0_findsAt 14 = .ok (.if_icmp .ge 25, 3) := by decide +kernel
theorem dX0_findsAt_17 : decode cX0_findsAt 17 = .ok (.aload_n 0, 1) := by decide +kernel
theorem dX0_findsAt_18 : decode cX0_findsAt 18 = .ok (.getfield 9, 3) := by decide +kernel
theorem dX0_findsAt_21 : decode cX0_findsAt 21 = .ok (.iload_n 3, 1) := by decide +kernel
theorem dX0_findsAt_22 : decode cX0_findsAt 22 = .ok (.iaload, 1) := by decide +kernel
theorem dX0_findsAt_23 : decode cX0_findsAt 23 = .ok (.iload_n 1, 1) := by decide +kernel
theorem dX0_findsAt_24 : decode cX0_findsAt 24 = .ok (.invokestatic 65, 3) := by decide +kernel
theorem dX0_findsAt_27 : decode cX0_findsAt 27 = .ok (.iload_n 2, 1) := by decide +kernel
theorem dX0_findsAt_28 : decode cX0_findsAt 28 = .ok (.if_icmp .ne 5, 3) := by decide +kernel
theorem dX0_findsAt_31 : decode cX0_findsAt 31 = .ok (.iconst 1, 1) := by decide +kernel
theorem dX0_findsAt_32 : decode cX0_findsAt 32 = .ok (.ireturn, 1) := by decide +kernel
theorem dX0_findsAt_33 : decode cX0_findsAt 33 = .ok (.iinc 3 1, 3) := by decide +kernel
theorem dX0_findsAt_36 : decode cX0_findsAt 36 = .ok (.goto (-34), 3) := by decide +kernel
theorem dX0_findsAt_39 : decode cX0_findsAt 39 = .ok (.iconst 0, 1) := by decide +kernel
theorem dX0_findsAt_40 : decode cX0_findsAt 40 = .ok (.ireturn, 1) := by decide +kernel
set_option maxRecDepth 20000 in
theorem ggX0_traceWay_X0_isFound : GoodIn wsX0_traceWay wsX0_isFound := goodIn_r _ [15, 16, 20, 21, 22, 23, 24, 25, 26, 27, 28, 29] (by decide +kernel) (by decide +kernel)
set_option maxRecDepth 20000 in
theorem gX0_traceWay_X0_isFound : GoodIn wsX0_traceWay (wsV RX0 61 RX0 yX0_isFound wsX0_isFound) := goodIn_app (goodIn_of _ (by decide +kernel)) ggX0_traceWay_X0_isFound
set_option maxRecDepth 20000 in
theorem ggX0_traceWay_X0_cellsOfMove : GoodIn wsX0_traceWay wsX0_cellsOfMove := goodIn_r _ [19] (by decide +kernel) (by decide +kernel)
set_option maxRecDepth 20000 in
theorem gX0_traceWay_X0_cellsOfMove : GoodIn wsX0_traceWay (va_wsS RX0 69 yX0_cellsOfMove wsX0_cellsOfMove) := goodIn_app (goodIn_of _ (by decide +kernel)) ggX0_traceWay_X0_cellsOfMove
theorem dX0_traceWay_0 : decode cX0_traceWay 0 = .ok (.aload_n 0, 1) := by decide +kernel
theorem dX0_traceWay_1 : decode cX0_traceWay 1 = .ok (.aload_n 0, 1) := by decide +kernel
theorem dX0_traceWay_2 : decode cX0_traceWay 2 = .ok (.getfield 38, 3) := by decide +kernel
theorem dX0_traceWay_5 : decode cX0_traceWay 5 = .ok (.iconst (-1), 1) := by decide +kernel
theorem dX0_traceWay_6 : decode cX0_traceWay 6 = .ok (.if_icmp .ne 7, 3) := by decide +kernel
theorem dX0_traceWay_9 : decode cX0_traceWay 9 = .ok (.iconst (-1), 1) := by decide +kernel
theorem dX0_traceWay_10 : decode cX0_traceWay 10 = .ok (.goto 4, 3) := by decide +kernel
theorem dX0_traceWay_13 : decode cX0_traceWay 13 = .ok (.iconst 0, 1) := by decide +kernel
theorem dX0_traceWay_14 : decode cX0_traceWay 14 = .ok (.putfield 52, 3) := by decide +kernel
theorem dX0_traceWay_17 : decode cX0_traceWay 17 = .ok (.aload_n 0, 1) := by decide +kernel
theorem dX0_traceWay_18 : decode cX0_traceWay 18 = .ok (.iconst 0, 1) := by decide +kernel
theorem dX0_traceWay_19 : decode cX0_traceWay 19 = .ok (.putfield 55, 3) := by decide +kernel
theorem dX0_traceWay_22 : decode cX0_traceWay 22 = .ok (.aload_n 0, 1) := by decide +kernel
theorem dX0_traceWay_23 : decode cX0_traceWay 23 = .ok (.iconst (-1), 1) := by decide +kernel
theorem dX0_traceWay_24 : decode cX0_traceWay 24 = .ok (.putfield 58, 3) := by decide +kernel
theorem dX0_traceWay_27 : decode cX0_traceWay 27 = .ok (.aload_n 0, 1) := by decide +kernel
theorem dX0_traceWay_28 : decode cX0_traceWay 28 = .ok (.getfield 38, 3) := by decide +kernel
theorem dX0_traceWay_31 : decode cX0_traceWay 31 = .ok (.istore_n 1, 1) := by decide +kernel
theorem dX0_traceWay_32 : decode cX0_traceWay 32 = .ok (.iconst 1, 1) := by decide +kernel
theorem dX0_traceWay_33 : decode cX0_traceWay 33 = .ok (.istore_n 2, 1) := by decide +kernel
theorem dX0_traceWay_34 : decode cX0_traceWay 34 = .ok (.iload_n 2, 1) := by decide +kernel
theorem dX0_traceWay_35 : decode cX0_traceWay 35 = .ok (.sipush 800, 3) := by decide +kernel
theorem dX0_traceWay_38 : decode cX0_traceWay 38 = .ok (.if_icmp .ge 64, 3) := by decide +kernel
theorem dX0_traceWay_41 : decode cX0_traceWay 41 = .ok (.iload_n 1, 1) := by decide +kernel
theorem dX0_traceWay_42 : decode cX0_traceWay 42 = .ok (.ifCond .le 60, 3) := by decide +kernel
theorem dX0_traceWay_45 : decode cX0_traceWay 45 = .ok (.aload_n 0, 1) := by decide +kernel
theorem dX0_traceWay_46 : decode cX0_traceWay 46 = .ok (.iload_n 1, 1) := by decide +kernel
theorem dX0_traceWay_47 : decode cX0_traceWay 47 = .ok (.invokevirtual 61, 3) := by decide +kernel
theorem dX0_traceWay_50 : decode cX0_traceWay 50 = .ok (.ifCond .eq 52, 3) := by decide +kernel
theorem dX0_traceWay_53 : decode cX0_traceWay 53 = .ok (.aload_n 0, 1) := by decide +kernel
theorem dX0_traceWay_54 : decode cX0_traceWay 54 = .ok (.iload_n 2, 1) := by decide +kernel
theorem dX0_traceWay_55 : decode cX0_traceWay 55 = .ok (.putfield 52, 3) := by decide +kernel
theorem dX0_traceWay_58 : decode cX0_traceWay 58 = .ok (.aload_n 0, 1) := by decide +kernel
theorem dX0_traceWay_59 : decode cX0_traceWay 59 = .ok (.dup, 1) := by decide +kernel
theorem dX0_traceWay_60 : decode cX0_traceWay 60 = .ok (.getfield 55, 3) := by decide +kernel
theorem dX0_traceWay_63 : decode cX0_traceWay 63 = .ok (.aload_n 0, 1) := by decide +kernel
theorem dX0_traceWay_64 : decode cX0_traceWay 64 = .ok (.getfield 18, 3) := by decide +kernel
theorem dX0_traceWay_67 : decode cX0_traceWay 67 = .ok (.iload_n 1, 1) := by decide +kernel
theorem dX0_traceWay_68 : decode cX0_traceWay 68 = .ok (.iaload, 1) := by decide +kernel
theorem dX0_traceWay_69 : decode cX0_traceWay 69 = .ok (.invokestatic 69, 3) := by decide +kernel
theorem dX0_traceWay_72 : decode cX0_traceWay 72 = .ok (.invokestatic 73, 3) := by decide +kernel
theorem dX0_traceWay_75 : decode cX0_traceWay 75 = .ok (.iadd, 1) := by decide +kernel
theorem dX0_traceWay_76 : decode cX0_traceWay 76 = .ok (.putfield 55, 3) := by decide +kernel
theorem dX0_traceWay_79 : decode cX0_traceWay 79 = .ok (.aload_n 0, 1) := by decide +kernel
theorem dX0_traceWay_80 : decode cX0_traceWay 80 = .ok (.aload_n 0, 1) := by decide +kernel
theorem dX0_traceWay_81 : decode cX0_traceWay 81 = .ok (.getfield 18, 3) := by decide +kernel
theorem dX0_traceWay_84 : decode cX0_traceWay 84 = .ok (.iload_n 1, 1) := by decide +kernel
theorem dX0_traceWay_85 : decode cX0_traceWay 85 = .ok (.iaload, 1) := by decide +kernel
theorem dX0_traceWay_86 : decode cX0_traceWay 86 = .ok (.putfield 58, 3) := by decide +kernel
theorem dX0_traceWay_89 : decode cX0_traceWay 89 = .ok (.aload_n 0, 1) := by decide +kernel
theorem dX0_traceWay_90 : decode cX0_traceWay 90 = .ok (.getfield 15, 3) := by decide +kernel
theorem dX0_traceWay_93 : decode cX0_traceWay 93 = .ok (.iload_n 1, 1) := by decide +kernel
theorem dX0_traceWay_94 : decode cX0_traceWay 94 = .ok (.iaload, 1) := by decide +kernel
theorem dX0_traceWay_95 : decode cX0_traceWay 95 = .ok (.istore_n 1, 1) := by decide +kernel
theorem dX0_traceWay_96 : decode cX0_traceWay 96 = .ok (.iinc 2 1, 3) := by decide +kernel
theorem dX0_traceWay_99 : decode cX0_traceWay 99 = .ok (.goto (-65), 3) := by decide +kernel
theorem dX0_traceWay_102 : decode cX0_traceWay 102 = .ok (.return_, 1) := by decide +kernel
theorem dX0_isFound_0 : decode cX0_isFound 0 = .ok (.iload_n 1, 1) := by decide +kernel
theorem dX0_isFound_1 : decode cX0_isFound 1 = .ok (.ifCond .lt 22, 3) := by decide +kernel
theorem dX0_isFound_4 : decode cX0_isFound 4 = .ok (.iload_n 1, 1) := by decide +kernel
theorem dX0_isFound_5 : decode cX0_isFound 5 = .ok (.aload_n 0, 1) := by decide +kernel
theorem dX0_isFound_6 : decode cX0_isFound 6 = .ok (.getfield 28, 3) := by decide +kernel
theorem dX0_isFound_9 : decode cX0_isFound 9 = .ok (.if_icmp .ge 14, 3) := by decide +kernel
theorem dX0_isFound_12 : decode cX0_isFound 12 = .ok (.iload_n 1, 1) := by decide +kernel
theorem dX0_isFound_13 : decode cX0_isFound 13 = .ok (.sipush 800, 3) := by decide +kernel
theorem dX0_isFound_16 : decode cX0_isFound 16 = .ok (.if_icmp .ge 7, 3) := by decide +kernel
theorem dX0_isFound_19 : decode cX0_isFound 19 = .ok (.iconst 1, 1) := by decide +kernel
theorem dX0_isFound_20 : decode cX0_isFound 20 = .ok (.goto 4, 3) := by decide +kernel
theorem dX0_isFound_23 : decode cX0_isFound 23 = .ok (.iconst 0, 1) := by decide +kernel
theorem dX0_isFound_24 : decode cX0_isFound 24 = .ok (.ireturn, 1) := by decide +kernel
set_option maxRecDepth 20000 in
theorem ggX0_addReachedFrom_X0_isFound : GoodIn wsX0_addReachedFrom wsX0_isFound := goodIn_r _ [7, 8, 65, 66, 67, 68, 69, 70, 71, 72, 73, 74] (by decide +kernel) (by decide +kernel)
set_option maxRecDepth 20000 in
theorem gX0_addReachedFrom_X0_isFound : GoodIn wsX0_addReachedFrom (wsV RX0 61 RX0 yX0_isFound wsX0_isFound) := goodIn_app (goodIn_of _ (by decide +kernel)) ggX0_addReachedFrom_X0_isFound
set_option maxRecDepth 20000 in
theorem ggX0_addReachedFrom_X1_filledIn : GoodIn wsX0_addReachedFrom wsX1_filledIn := goodIn_r _ [13, 14, 15, 16, 17, 12, 18, 19, 20, 21, 22, 23, 24, 25, 26, 27, 75, 76, 77, 78, 79, 80] (by decide +kernel) (by decide +kernel)
set_option maxRecDepth 20000 in
theorem gX0_addReachedFrom_X1_filledIn : GoodIn wsX0_addReachedFrom (wsV RX0 78 RX1 yX1_filledIn wsX1_filledIn) := goodIn_app (goodIn_of _ (by decide +kernel)) ggX0_addReachedFrom_X1_filledIn
set_option maxRecDepth 20000 in
theorem ggX0_addReachedFrom_X1_count : GoodIn wsX0_addReachedFrom wsX1_count := goodIn_r _ [31, 14, 75, 76, 77, 78, 79, 80] (by decide +kernel) (by decide +kernel)
set_option maxRecDepth 20000 in
theorem gX0_addReachedFrom_X1_count : GoodIn wsX0_addReachedFrom (wsV RX0 84 RX1 yX1_count wsX1_count) := goodIn_app (goodIn_of _ (by decide +kernel)) ggX0_addReachedFrom_X1_count
set_option maxRecDepth 20000 in
theorem ggX0_addReachedFrom_X1_wayIn : GoodIn wsX0_addReachedFrom wsX1_wayIn := goodIn_r _ [35, 36, 19, 37, 21, 22, 23, 12, 24, 14, 25, 26, 27, 15, 16, 17, 18, 20, 38, 39, 40, 41, 42, 75, 76, 77, 78, 79, 80] (by decide +kernel) (by decide +kernel)
set_option maxRecDepth 20000 in
theorem gX0_addReachedFrom_X1_wayIn : GoodIn wsX0_addReachedFrom (wsV RX0 88 RX1 yX1_wayIn wsX1_wayIn) := goodIn_app (goodIn_of _ (by decide +kernel)) ggX0_addReachedFrom_X1_wayIn
set_option maxRecDepth 20000 in
theorem ggX0_addReachedFrom_X0_addDriven : GoodIn wsX0_addReachedFrom wsX0_addDriven := goodIn_r _ [46, 1, 3, 4, 5, 6, 7, 8, 47, 26, 48, 49, 50, 51, 52, 53, 54, 55, 56, 57, 58, 59, 60, 61, 62, 63, 64, 25, 27, 65, 66, 67, 68, 69, 70, 71, 72, 73, 74] (by decide +kernel) (by decide +kernel)
set_option maxRecDepth 20000 in
theorem gX0_addReachedFrom_X0_addDriven : GoodIn wsX0_addReachedFrom (wsV RX0 92 RX0 yX0_addDriven wsX0_addDriven) := goodIn_app (goodIn_of _ (by decide +kernel)) ggX0_addReachedFrom_X0_addDriven
theorem dX0_addReachedFrom_0 : decode cX0_addReachedFrom 0 = .ok (.aload_n 0, 1) := by decide +kernel
theorem dX0_addReachedFrom_1 : decode cX0_addReachedFrom 1 = .ok (.iload_n 1, 1) := by decide +kernel
theorem dX0_addReachedFrom_2 : decode cX0_addReachedFrom 2 = .ok (.invokevirtual 61, 3) := by decide +kernel
theorem dX0_addReachedFrom_5 : decode cX0_addReachedFrom 5 = .ok (.ifCond .ne 4, 3) := by decide +kernel
theorem dX0_addReachedFrom_8 : decode cX0_addReachedFrom 8 = .ok (.return_, 1) := by decide +kernel
theorem dX0_addReachedFrom_9 : decode cX0_addReachedFrom 9 = .ok (.aload_n 0, 1) := by decide +kernel
theorem dX0_addReachedFrom_10 : decode cX0_addReachedFrom 10 = .ok (.getfield 9, 3) := by decide +kernel
theorem dX0_addReachedFrom_13 : decode cX0_addReachedFrom 13 = .ok (.iload_n 1, 1) := by decide +kernel
theorem dX0_addReachedFrom_14 : decode cX0_addReachedFrom 14 = .ok (.iaload, 1) := by decide +kernel
theorem dX0_addReachedFrom_15 : decode cX0_addReachedFrom 15 = .ok (.istore_n 2, 1) := by decide +kernel
theorem dX0_addReachedFrom_16 : decode cX0_addReachedFrom 16 = .ok (.aload_n 0, 1) := by decide +kernel
theorem dX0_addReachedFrom_17 : decode cX0_addReachedFrom 17 = .ok (.getfield 24, 3) := by decide +kernel
theorem dX0_addReachedFrom_20 : decode cX0_addReachedFrom 20 = .ok (.iload_n 2, 1) := by decide +kernel
theorem dX0_addReachedFrom_21 : decode cX0_addReachedFrom 21 = .ok (.invokevirtual 78, 3) := by decide +kernel
theorem dX0_addReachedFrom_24 : decode cX0_addReachedFrom 24 = .ok (.lstore_n 3, 1) := by decide +kernel
theorem dX0_addReachedFrom_25 : decode cX0_addReachedFrom 25 = .ok (.iconst 0, 1) := by decide +kernel
theorem dX0_addReachedFrom_26 : decode cX0_addReachedFrom 26 = .ok (.istore 5, 2) := by decide +kernel
theorem dX0_addReachedFrom_28 : decode cX0_addReachedFrom 28 = .ok (.iload 5, 2) := by decide +kernel
theorem dX0_addReachedFrom_30 : decode cX0_addReachedFrom 30 = .ok (.aload_n 0, 1) := by decide +kernel
theorem dX0_addReachedFrom_31 : decode cX0_addReachedFrom 31 = .ok (.getfield 24, 3) := by decide +kernel
theorem dX0_addReachedFrom_34 : decode cX0_addReachedFrom 34 = .ok (.invokevirtual 84, 3) := by decide +kernel
theorem dX0_addReachedFrom_37 : decode cX0_addReachedFrom 37 = .ok (.if_icmp .ge 49, 3) := by decide +kernel
theorem dX0_addReachedFrom_40 : decode cX0_addReachedFrom 40 = .ok (.aload_n 0, 1) := by decide +kernel
theorem dX0_addReachedFrom_41 : decode cX0_addReachedFrom 41 = .ok (.iload_n 1, 1) := by decide +kernel
theorem dX0_addReachedFrom_42 : decode cX0_addReachedFrom 42 = .ok (.iload 5, 2) := by decide +kernel
theorem dX0_addReachedFrom_44 : decode cX0_addReachedFrom 44 = .ok (.iconst (-1), 1) := by decide +kernel
theorem dX0_addReachedFrom_45 : decode cX0_addReachedFrom 45 = .ok (.aload_n 0, 1) := by decide +kernel
theorem dX0_addReachedFrom_46 : decode cX0_addReachedFrom 46 = .ok (.getfield 24, 3) := by decide +kernel
theorem dX0_addReachedFrom_49 : decode cX0_addReachedFrom 49 = .ok (.iload_n 2, 1) := by decide +kernel
theorem dX0_addReachedFrom_50 : decode cX0_addReachedFrom 50 = .ok (.lload_n 3, 1) := by decide +kernel
theorem dX0_addReachedFrom_51 : decode cX0_addReachedFrom 51 = .ok (.iload 5, 2) := by decide +kernel
theorem dX0_addReachedFrom_53 : decode cX0_addReachedFrom 53 = .ok (.iconst (-1), 1) := by decide +kernel
theorem dX0_addReachedFrom_54 : decode cX0_addReachedFrom 54 = .ok (.invokevirtual 88, 3) := by decide +kernel
theorem dX0_addReachedFrom_57 : decode cX0_addReachedFrom 57 = .ok (.invokevirtual 92, 3) := by decide +kernel
theorem dX0_addReachedFrom_60 : decode cX0_addReachedFrom 60 = .ok (.aload_n 0, 1) := by decide +kernel
theorem dX0_addReachedFrom_61 : decode cX0_addReachedFrom 61 = .ok (.iload_n 1, 1) := by decide +kernel
theorem dX0_addReachedFrom_62 : decode cX0_addReachedFrom 62 = .ok (.iload 5, 2) := by decide +kernel
theorem dX0_addReachedFrom_64 : decode cX0_addReachedFrom 64 = .ok (.iconst 1, 1) := by decide +kernel
theorem dX0_addReachedFrom_65 : decode cX0_addReachedFrom 65 = .ok (.aload_n 0, 1) := by decide +kernel
theorem dX0_addReachedFrom_66 : decode cX0_addReachedFrom 66 = .ok (.getfield 24, 3) := by decide +kernel
theorem dX0_addReachedFrom_69 : decode cX0_addReachedFrom 69 = .ok (.iload_n 2, 1) := by decide +kernel
theorem dX0_addReachedFrom_70 : decode cX0_addReachedFrom 70 = .ok (.lload_n 3, 1) := by decide +kernel
theorem dX0_addReachedFrom_71 : decode cX0_addReachedFrom 71 = .ok (.iload 5, 2) := by decide +kernel
theorem dX0_addReachedFrom_73 : decode cX0_addReachedFrom 73 = .ok (.iconst 1, 1) := by decide +kernel
theorem dX0_addReachedFrom_74 : decode cX0_addReachedFrom 74 = .ok (.invokevirtual 88, 3) := by decide +kernel
theorem dX0_addReachedFrom_77 : decode cX0_addReachedFrom 77 = .ok (.invokevirtual 92, 3) := by decide +kernel
theorem dX0_addReachedFrom_80 : decode cX0_addReachedFrom 80 = .ok (.iinc 5 1, 3) := by decide +kernel
theorem dX0_addReachedFrom_83 : decode cX0_addReachedFrom 83 = .ok (.goto (-55), 3) := by decide +kernel
theorem dX0_addReachedFrom_86 : decode cX0_addReachedFrom 86 = .ok (.return_, 1) := by decide +kernel
set_option maxRecDepth 20000 in
theorem ggX0_addDriven_X0_isFound : GoodIn wsX0_addDriven wsX0_isFound := goodIn_r _ [6, 7, 29, 30, 31, 32, 33, 34, 35, 36, 37, 38] (by decide +kernel) (by decide +kernel)
set_option maxRecDepth 20000 in
theorem gX0_addDriven_X0_isFound : GoodIn wsX0_addDriven (wsV RX0 61 RX0 yX0_isFound wsX0_isFound) := goodIn_app (goodIn_of _ (by decide +kernel)) ggX0_addDriven_X0_isFound
set_option maxRecDepth 20000 in
theorem ggX0_addDriven_X2_moved : GoodIn wsX0_addDriven wsX2_moved := goodIn_r _ [10] (by decide +kernel) (by decide +kernel)
set_option maxRecDepth 20000 in
theorem gX0_addDriven_X2_moved_n96 : GoodIn wsX0_addDriven (wsX2_moved) := ggX0_addDriven_X2_moved
set_option maxRecDepth 20000 in
theorem ggX0_addDriven_X0_codeOfMove : GoodIn wsX0_addDriven wsX0_codeOfMove := goodIn_r _ [13] (by decide +kernel) (by decide +kernel)
set_option maxRecDepth 20000 in
theorem gX0_addDriven_X0_codeOfMove : GoodIn wsX0_addDriven (va_wsS RX0 100 yX0_codeOfMove wsX0_codeOfMove) := goodIn_app (goodIn_of _ (by decide +kernel)) ggX0_addDriven_X0_codeOfMove
set_option maxRecDepth 20000 in
theorem ggX0_addDriven_X0_addIfNew : GoodIn wsX0_addDriven wsX0_addIfNew := goodIn_r _ [17, 7, 18, 1, 19, 20, 21, 22, 23, 24, 5, 25, 26, 27, 9, 28, 29, 30, 31, 32, 33, 34, 35, 36, 37, 38] (by decide +kernel) (by decide +kernel)
set_option maxRecDepth 20000 in
theorem gX0_addDriven_X0_addIfNew : GoodIn wsX0_addDriven (wsV RX0 41 RX0 yX0_addIfNew wsX0_addIfNew) := goodIn_app (goodIn_of _ (by decide +kernel)) ggX0_addDriven_X0_addIfNew
theorem dX0_addDriven_0 : decode cX0_addDriven 0 = .ok (.aload_n 0, 1) := by decide +kernel
theorem dX0_addDriven_1 : decode cX0_addDriven 1 = .ok (.iload_n 1, 1) := by decide +kernel
theorem dX0_addDriven_2 : decode cX0_addDriven 2 = .ok (.invokevirtual 61, 3) := by decide +kernel
theorem dX0_addDriven_5 : decode cX0_addDriven 5 = .ok (.ifCond .ne 4, 3) := by decide +kernel
theorem dX0_addDriven_8 : decode cX0_addDriven 8 = .ok (.return_, 1) := by decide +kernel
theorem dX0_addDriven_9 : decode cX0_addDriven 9 = .ok (.iconst 1, 1) := by decide +kernel
theorem dX0_addDriven_10 : decode cX0_addDriven 10 = .ok (.istore 5, 2) := by decide +kernel
theorem dX0_addDriven_12 : decode cX0_addDriven 12 = .ok (.iload 5, 2) := by decide +kernel
theorem dX0_addDriven_14 : decode cX0_addDriven 14 = .ok (.iload 4, 2) := by decide +kernel
theorem dX0_addDriven_16 : decode cX0_addDriven 16 = .ok (.if_icmp .gt 44, 3) := by decide +kernel
theorem dX0_addDriven_19 : decode cX0_addDriven 19 = .ok (.iload 5, 2) := by decide +kernel
theorem dX0_addDriven_21 : decode cX0_addDriven 21 = .ok (.iconst 4, 1) := by decide +kernel
theorem dX0_addDriven_22 : decode cX0_addDriven 22 = .ok (.if_icmp .gt 38, 3) := by decide +kernel
theorem dX0_addDriven_25 : decode cX0_addDriven 25 = .ok (.iload_n 3, 1) := by decide +kernel
theorem dX0_addDriven_26 : decode cX0_addDriven 26 = .ok (.iload 5, 2) := by decide +kernel
theorem dX0_addDriven_28 : decode cX0_addDriven 28 = .ok (.imul, 1) := by decide +kernel
theorem dX0_addDriven_29 : decode cX0_addDriven 29 = .ok (.istore 6, 2) := by decide +kernel
theorem dX0_addDriven_31 : decode cX0_addDriven 31 = .ok (.aload_n 0, 1) := by decide +kernel
theorem dX0_addDriven_32 : decode cX0_addDriven 32 = .ok (.aload_n 0, 1) := by decide +kernel
theorem dX0_addDriven_33 : decode cX0_addDriven 33 = .ok (.getfield 9, 3) := by decide +kernel
theorem dX0_addDriven_36 : decode cX0_addDriven 36 = .ok (.iload_n 1, 1) := by decide +kernel
theorem dX0_addDriven_37 : decode cX0_addDriven 37 = .ok (.iaload, 1) := by decide +kernel
theorem dX0_addDriven_38 : decode cX0_addDriven 38 = .ok (.iload_n 2, 1) := by decide +kernel
theorem dX0_addDriven_39 : decode cX0_addDriven 39 = .ok (.iload 6, 2) := by decide +kernel
theorem dX0_addDriven_41 : decode cX0_addDriven 41 = .ok (.invokestatic 96, 3) := by decide +kernel
theorem dX0_addDriven_44 : decode cX0_addDriven 44 = .ok (.iload_n 1, 1) := by decide +kernel
theorem dX0_addDriven_45 : decode cX0_addDriven 45 = .ok (.iload_n 2, 1) := by decide +kernel
theorem dX0_addDriven_46 : decode cX0_addDriven 46 = .ok (.iload 6, 2) := by decide +kernel
theorem dX0_addDriven_48 : decode cX0_addDriven 48 = .ok (.invokestatic 100, 3) := by decide +kernel
theorem dX0_addDriven_51 : decode cX0_addDriven 51 = .ok (.invokevirtual 41, 3) := by decide +kernel
theorem dX0_addDriven_54 : decode cX0_addDriven 54 = .ok (.iinc 5 1, 3) := by decide +kernel
theorem dX0_addDriven_57 : decode cX0_addDriven 57 = .ok (.goto (-45), 3) := by decide +kernel
theorem dX0_addDriven_60 : decode cX0_addDriven 60 = .ok (.return_, 1) := by decide +kernel
set_option maxRecDepth 20000 in
theorem ggX0_addIfNew_X0_slotFor : GoodIn wsX0_addIfNew wsX0_slotFor := goodIn_r _ [11, 12, 2, 3, 16, 17, 18, 19, 20, 21, 22, 23, 24, 25] (by decide +kernel) (by decide +kernel)
set_option maxRecDepth 20000 in
theorem gX0_addIfNew_X0_slotFor : GoodIn wsX0_addIfNew (wsV RX0 103 RX0 yX0_slotFor wsX0_slotFor) := goodIn_app (goodIn_of _ (by decide +kernel)) ggX0_addIfNew_X0_slotFor
set_option maxRecDepth 20000 in
theorem ggX0_addIfNew_X2_placeIn : GoodIn wsX0_addIfNew wsX2_placeIn := goodIn_r _ [15] (by decide +kernel) (by decide +kernel)
set_option maxRecDepth 20000 in
theorem gX0_addIfNew_X2_placeIn_n65 : GoodIn wsX0_addIfNew (wsX2_placeIn) := ggX0_addIfNew_X2_placeIn
theorem dX0_addIfNew_0 : decode cX0_addIfNew 0 = .ok (.aload_n 0, 1) := by decide +kernel
theorem dX0_addIfNew_1 : decode cX0_addIfNew 1 = .ok (.getfield 28, 3) := by decide +kernel
theorem dX0_addIfNew_4 : decode cX0_addIfNew 4 = .ok (.istore 4, 2) := by decide +kernel
theorem dX0_addIfNew_6 : decode cX0_addIfNew 6 = .ok (.aload_n 0, 1) := by decide +kernel
theorem dX0_addIfNew_7 : decode cX0_addIfNew 7 = .ok (.iload_n 1, 1) := by decide +kernel
theorem dX0_addIfNew_8 : decode cX0_addIfNew 8 = .ok (.invokevirtual 103, 3) := by decide +kernel
theorem dX0_addIfNew_11 : decode cX0_addIfNew 11 = .ok (.istore 5, 2) := by decide +kernel
theorem dX0_addIfNew_13 : decode cX0_addIfNew 13 = .ok (.iload 4, 2) := by decide +kernel
theorem dX0_addIfNew_15 : decode cX0_addIfNew 15 = .ok (.ifCond .lt 34, 3) := by decide +kernel
theorem dX0_addIfNew_18 : decode cX0_addIfNew 18 = .ok (.iload 4, 2) := by decide +kernel
theorem dX0_addIfNew_20 : decode cX0_addIfNew 20 = .ok (.sipush 800, 3) := by decide +kernel
theorem dX0_addIfNew_23 : decode cX0_addIfNew 23 = .ok (.if_icmp .ge 26, 3) := by decide +kernel
theorem dX0_addIfNew_26 : decode cX0_addIfNew 26 = .ok (.iload 5, 2) := by decide +kernel
theorem dX0_addIfNew_28 : decode cX0_addIfNew 28 = .ok (.ifCond .lt 21, 3) := by decide +kernel
theorem dX0_addIfNew_31 : decode cX0_addIfNew 31 = .ok (.iload 5, 2) := by decide +kernel
theorem dX0_addIfNew_33 : decode cX0_addIfNew 33 = .ok (.sipush 2048, 3) := by decide +kernel
theorem dX0_addIfNew_36 : decode cX0_addIfNew 36 = .ok (.if_icmp .ge 13, 3) := by decide +kernel
theorem dX0_addIfNew_39 : decode cX0_addIfNew 39 = .ok (.aload_n 0, 1) := by decide +kernel
theorem dX0_addIfNew_40 : decode cX0_addIfNew 40 = .ok (.getfield 21, 3) := by decide +kernel
theorem dX0_addIfNew_43 : decode cX0_addIfNew 43 = .ok (.iload 5, 2) := by decide +kernel
theorem dX0_addIfNew_45 : decode cX0_addIfNew 45 = .ok (.iaload, 1) := by decide +kernel
theorem dX0_addIfNew_46 : decode cX0_addIfNew 46 = .ok (.ifCond .eq 4, 3) := by decide +kernel
theorem dX0_addIfNew_49 : decode cX0_addIfNew 49 = .ok (.return_, 1) := by decide +kernel
theorem dX0_addIfNew_50 : decode cX0_addIfNew 50 = .ok (.aload_n 0, 1) := by decide +kernel
theorem dX0_addIfNew_51 : decode cX0_addIfNew 51 = .ok (.getfield 21, 3) := by decide +kernel
theorem dX0_addIfNew_54 : decode cX0_addIfNew 54 = .ok (.iload 5, 2) := by decide +kernel
theorem dX0_addIfNew_56 : decode cX0_addIfNew 56 = .ok (.iload 4, 2) := by decide +kernel
theorem dX0_addIfNew_58 : decode cX0_addIfNew 58 = .ok (.iconst 1, 1) := by decide +kernel
theorem dX0_addIfNew_59 : decode cX0_addIfNew 59 = .ok (.iadd, 1) := by decide +kernel
theorem dX0_addIfNew_60 : decode cX0_addIfNew 60 = .ok (.iastore, 1) := by decide +kernel
theorem dX0_addIfNew_61 : decode cX0_addIfNew 61 = .ok (.aload_n 0, 1) := by decide +kernel
theorem dX0_addIfNew_62 : decode cX0_addIfNew 62 = .ok (.getfield 9, 3) := by decide +kernel
theorem dX0_addIfNew_65 : decode cX0_addIfNew 65 = .ok (.iload 4, 2) := by decide +kernel
theorem dX0_addIfNew_67 : decode cX0_addIfNew 67 = .ok (.iload_n 1, 1) := by decide +kernel
theorem dX0_addIfNew_68 : decode cX0_addIfNew 68 = .ok (.iastore, 1) := by decide +kernel
theorem dX0_addIfNew_69 : decode cX0_addIfNew 69 = .ok (.aload_n 0, 1) := by decide +kernel
theorem dX0_addIfNew_70 : decode cX0_addIfNew 70 = .ok (.getfield 15, 3) := by decide +kernel
theorem dX0_addIfNew_73 : decode cX0_addIfNew 73 = .ok (.iload 4, 2) := by decide +kernel
theorem dX0_addIfNew_75 : decode cX0_addIfNew 75 = .ok (.iload_n 2, 1) := by decide +kernel
theorem dX0_addIfNew_76 : decode cX0_addIfNew 76 = .ok (.iastore, 1) := by decide +kernel
theorem dX0_addIfNew_77 : decode cX0_addIfNew 77 = .ok (.aload_n 0, 1) := by decide +kernel
theorem dX0_addIfNew_78 : decode cX0_addIfNew 78 = .ok (.getfield 18, 3) := by decide +kernel
theorem dX0_addIfNew_81 : decode cX0_addIfNew 81 = .ok (.iload 4, 2) := by decide +kernel
theorem dX0_addIfNew_83 : decode cX0_addIfNew 83 = .ok (.iload_n 3, 1) := by decide +kernel
theorem dX0_addIfNew_84 : decode cX0_addIfNew 84 = .ok (.iastore, 1) := by decide +kernel
theorem dX0_addIfNew_85 : decode cX0_addIfNew 85 = .ok (.aload_n 0, 1) := by decide +kernel
theorem dX0_addIfNew_86 : decode cX0_addIfNew 86 = .ok (.iload 4, 2) := by decide +kernel
theorem dX0_addIfNew_88 : decode cX0_addIfNew 88 = .ok (.iconst 1, 1) := by decide +kernel
theorem dX0_addIfNew_89 : decode cX0_addIfNew 89 = .ok (.iadd, 1) := by decide +kernel
theorem dX0_addIfNew_90 : decode cX0_addIfNew 90 = .ok (.putfield 28, 3) := by decide +kernel
theorem dX0_addIfNew_93 : decode cX0_addIfNew 93 = .ok (.aload_n 0, 1) := by decide +kernel
theorem dX0_addIfNew_94 : decode cX0_addIfNew 94 = .ok (.getfield 38, 3) := by decide +kernel
theorem dX0_addIfNew_97 : decode cX0_addIfNew 97 = .ok (.iconst (-1), 1) := by decide +kernel
theorem dX0_addIfNew_98 : decode cX0_addIfNew 98 = .ok (.if_icmp .ne 18, 3) := by decide +kernel
theorem dX0_addIfNew_101 : decode cX0_addIfNew 101 = .ok (.iload_n 1, 1) := by decide +kernel
theorem dX0_addIfNew_102 : decode cX0_addIfNew 102 = .ok (.iconst 0, 1) := by decide +kernel
theorem dX0_addIfNew_103 : decode cX0_addIfNew 103 = .ok (.invokestatic 65, 3) := by decide +kernel
theorem dX0_addIfNew_106 : decode cX0_addIfNew 106 = .ok (.iconst 4, 1) := by decide +kernel
theorem dX0_addIfNew_107 : decode cX0_addIfNew 107 = .ok (.if_icmp .ne 9, 3) := by decide +kernel
theorem dX0_addIfNew_110 : decode cX0_addIfNew 110 = .ok (.aload_n 0, 1) := by decide +kernel
theorem dX0_addIfNew_111 : decode cX0_addIfNew 111 = .ok (.iload 4, 2) := by decide +kernel
theorem dX0_addIfNew_113 : decode cX0_addIfNew 113 = .ok (.putfield 38, 3) := by decide +kernel
theorem dX0_addIfNew_116 : decode cX0_addIfNew 116 = .ok (.return_, 1) := by decide +kernel
theorem dX0_slotFor_0 : decode cX0_slotFor 0 = .ok (.iload_n 1, 1) := by decide +kernel
theorem dX0_slotFor_1 : decode cX0_slotFor 1 = .ok (.ldc 106, 2) := by decide +kernel
theorem dX0_slotFor_3 : decode cX0_slotFor 3 = .ok (.imul, 1) := by decide +kernel
theorem dX0_slotFor_4 : decode cX0_slotFor 4 = .ok (.bipush 21, 2) := by decide +kernel
theorem dX0_slotFor_6 : decode cX0_slotFor 6 = .ok (.iushr, 1) := by decide +kernel
theorem dX0_slotFor_7 : decode cX0_slotFor 7 = .ok (.istore_n 2, 1) := by decide +kernel
theorem dX0_slotFor_8 : decode cX0_slotFor 8 = .ok (.iconst 0, 1) := by decide +kernel
theorem dX0_slotFor_9 : decode cX0_slotFor 9 = .ok (.istore_n 3, 1) := by decide +kernel
theorem dX0_slotFor_10 : decode cX0_slotFor 10 = .ok (.iload_n 3, 1) := by decide +kernel
theorem dX0_slotFor_11 : decode cX0_slotFor 11 = .ok (.sipush 2048, 3) := by decide +kernel
theorem dX0_slotFor_14 : decode cX0_slotFor 14 = .ok (.if_icmp .ge 56, 3) := by decide +kernel
theorem dX0_slotFor_17 : decode cX0_slotFor 17 = .ok (.iload_n 2, 1) := by decide +kernel
theorem dX0_slotFor_18 : decode cX0_slotFor 18 = .ok (.iload_n 3, 1) := by decide +kernel
theorem dX0_slotFor_19 : decode cX0_slotFor 19 = .ok (.iadd, 1) := by decide +kernel
theorem dX0_slotFor_20 : decode cX0_slotFor 20 = .ok (.sipush 2047, 3) := by decide +kernel
theorem dX0_slotFor_23 : decode cX0_slotFor 23 = .ok (.iand, 1) := by decide +kernel
theorem dX0_slotFor_24 : decode cX0_slotFor 24 = .ok (.istore 4, 2) := by decide +kernel
theorem dX0_slotFor_26 : decode cX0_slotFor 26 = .ok (.aload_n 0, 1) := by decide +kernel
theorem dX0_slotFor_27 : decode cX0_slotFor 27 = .ok (.getfield 21, 3) := by decide +kernel
theorem dX0_slotFor_30 : decode cX0_slotFor 30 = .ok (.iload 4, 2) := by decide +kernel
theorem dX0_slotFor_32 : decode cX0_slotFor 32 = .ok (.iaload, 1) := by decide +kernel
theorem dX0_slotFor_33 : decode cX0_slotFor 33 = .ok (.iconst 1, 1) := by decide +kernel
theorem dX0_slotFor_34 : decode cX0_slotFor 34 = .ok (.isub, 1) := by decide +kernel
theorem dX0_slotFor_35 : decode cX0_slotFor 35 = .ok (.istore 5, 2) := by decide +kernel
theorem dX0_slotFor_37 : decode cX0_slotFor 37 = .ok (.iload 5, 2) := by decide +kernel
theorem dX0_slotFor_39 : decode cX0_slotFor 39 = .ok (.ifCond .lt 22, 3) := by decide +kernel
theorem dX0_slotFor_42 : decode cX0_slotFor 42 = .ok (.iload 5, 2) := by decide +kernel
theorem dX0_slotFor_44 : decode cX0_slotFor 44 = .ok (.sipush 800, 3) := by decide +kernel
theorem dX0_slotFor_47 : decode cX0_slotFor 47 = .ok (.if_icmp .ge 14, 3) := by decide +kernel
theorem dX0_slotFor_50 : decode cX0_slotFor 50 = .ok (.aload_n 0, 1) := by decide +kernel
theorem dX0_slotFor_51 : decode cX0_slotFor 51 = .ok (.getfield 9, 3) := by decide +kernel
theorem dX0_slotFor_54 : decode cX0_slotFor 54 = .ok (.iload 5, 2) := by decide +kernel
theorem dX0_slotFor_56 : decode cX0_slotFor 56 = .ok (.iaload, 1) := by decide +kernel
theorem dX0_slotFor_57 : decode cX0_slotFor 57 = .ok (.iload_n 1, 1) := by decide +kernel
theorem dX0_slotFor_58 : decode cX0_slotFor 58 = .ok (.if_icmp .ne 6, 3) := by decide +kernel
theorem dX0_slotFor_61 : decode cX0_slotFor 61 = .ok (.iload 4, 2) := by decide +kernel
theorem dX0_slotFor_63 : decode cX0_slotFor 63 = .ok (.ireturn, 1) := by decide +kernel
theorem dX0_slotFor_64 : decode cX0_slotFor 64 = .ok (.iinc 3 1, 3) := by decide +kernel
theorem dX0_slotFor_67 : decode cX0_slotFor 67 = .ok (.goto (-57), 3) := by decide +kernel
theorem dX0_slotFor_70 : decode cX0_slotFor 70 = .ok (.iconst (-1), 1) := by decide +kernel
theorem dX0_slotFor_71 : decode cX0_slotFor 71 = .ok (.ireturn, 1) := by decide +kernel
theorem dX0_codeOfMove_0 : decode cX0_codeOfMove 0 = .ok (.bipush 10, 2) := by decide +kernel
theorem dX0_codeOfMove_2 : decode cX0_codeOfMove 2 = .ok (.iload_n 0, 1) := by decide +kernel
theorem dX0_codeOfMove_3 : decode cX0_codeOfMove 3 = .ok (.imul, 1) := by decide +kernel
theorem dX0_codeOfMove_4 : decode cX0_codeOfMove 4 = .ok (.iload_n 1, 1) := by decide +kernel
theorem dX0_codeOfMove_5 : decode cX0_codeOfMove 5 = .ok (.iadd, 1) := by decide +kernel
theorem dX0_codeOfMove_6 : decode cX0_codeOfMove 6 = .ok (.iconst 4, 1) := by decide +kernel
theorem dX0_codeOfMove_7 : decode cX0_codeOfMove 7 = .ok (.iadd, 1) := by decide +kernel
theorem dX0_codeOfMove_8 : decode cX0_codeOfMove 8 = .ok (.ireturn, 1) := by decide +kernel
theorem dX0_cellsOfMove_0 : decode cX0_cellsOfMove 0 = .ok (.iload_n 0, 1) := by decide +kernel
theorem dX0_cellsOfMove_1 : decode cX0_cellsOfMove 1 = .ok (.bipush 10, 2) := by decide +kernel
theorem dX0_cellsOfMove_3 : decode cX0_cellsOfMove 3 = .ok (.irem, 1) := by decide +kernel
theorem dX0_cellsOfMove_4 : decode cX0_cellsOfMove 4 = .ok (.iconst 4, 1) := by decide +kernel
theorem dX0_cellsOfMove_5 : decode cX0_cellsOfMove 5 = .ok (.isub, 1) := by decide +kernel
theorem dX0_cellsOfMove_6 : decode cX0_cellsOfMove 6 = .ok (.ireturn, 1) := by decide +kernel
theorem dX1_init_0 : decode cX1_init 0 = .ok (.aload_n 0, 1) := by decide +kernel
theorem dX1_init_1 : decode cX1_init 1 = .ok (.invokespecial 3, 3) := by decide +kernel
theorem dX1_init_4 : decode cX1_init 4 = .ok (.aload_n 0, 1) := by decide +kernel
theorem dX1_init_5 : decode cX1_init 5 = .ok (.bipush 9, 2) := by decide +kernel
theorem dX1_init_7 : decode cX1_init 7 = .ok (.newarray .int, 2) := by decide +kernel
theorem dX1_init_9 : decode cX1_init 9 = .ok (.putfield 9, 3) := by decide +kernel
theorem dX1_init_12 : decode cX1_init 12 = .ok (.aload_n 0, 1) := by decide +kernel
theorem dX1_init_13 : decode cX1_init 13 = .ok (.bipush 9, 2) := by decide +kernel
theorem dX1_init_15 : decode cX1_init 15 = .ok (.newarray .boolean, 2) := by decide +kernel
theorem dX1_init_17 : decode cX1_init 17 = .ok (.putfield 15, 3) := by decide +kernel
theorem dX1_init_20 : decode cX1_init 20 = .ok (.aload_n 0, 1) := by decide +kernel
theorem dX1_init_21 : decode cX1_init 21 = .ok (.bipush 9, 2) := by decide +kernel
theorem dX1_init_23 : decode cX1_init 23 = .ok (.newarray .int, 2) := by decide +kernel
theorem dX1_init_25 : decode cX1_init 25 = .ok (.putfield 19, 3) := by decide +kernel
theorem dX1_init_28 : decode cX1_init 28 = .ok (.aload_n 0, 1) := by decide +kernel
theorem dX1_init_29 : decode cX1_init 29 = .ok (.bipush 9, 2) := by decide +kernel
theorem dX1_init_31 : decode cX1_init 31 = .ok (.newarray .long, 2) := by decide +kernel
theorem dX1_init_33 : decode cX1_init 33 = .ok (.putfield 22, 3) := by decide +kernel
theorem dX1_init_36 : decode cX1_init 36 = .ok (.return_, 1) := by decide +kernel
theorem dX1_count_0 : decode cX1_count 0 = .ok (.aload_n 0, 1) := by decide +kernel
theorem dX1_count_1 : decode cX1_count 1 = .ok (.getfield 26, 3) := by decide +kernel
theorem dX1_count_4 : decode cX1_count 4 = .ok (.ireturn, 1) := by decide +kernel
theorem dX1_has_0 : decode cX1_has 0 = .ok (.iload_n 1, 1) := by decide +kernel
theorem dX1_has_1 : decode cX1_has 1 = .ok (.ifCond .lt 21, 3) := by decide +kernel
theorem dX1_has_4 : decode cX1_has 4 = .ok (.iload_n 1, 1) := by decide +kernel
theorem dX1_has_5 : decode cX1_has 5 = .ok (.aload_n 0, 1) := by decide +kernel
theorem dX1_has_6 : decode cX1_has 6 = .ok (.getfield 26, 3) := by decide +kernel
theorem dX1_has_9 : decode cX1_has 9 = .ok (.if_icmp .ge 13, 3) := by decide +kernel
theorem dX1_has_12 : decode cX1_has 12 = .ok (.iload_n 1, 1) := by decide +kernel
theorem dX1_has_13 : decode cX1_has 13 = .ok (.bipush 9, 2) := by decide +kernel
theorem dX1_has_15 : decode cX1_has 15 = .ok (.if_icmp .ge 7, 3) := by decide +kernel
theorem dX1_has_18 : decode cX1_has 18 = .ok (.iconst 1, 1) := by decide +kernel
theorem dX1_has_19 : decode cX1_has 19 = .ok (.goto 4, 3) := by decide +kernel
theorem dX1_has_22 : decode cX1_has 22 = .ok (.iconst 0, 1) := by decide +kernel
theorem dX1_has_23 : decode cX1_has 23 = .ok (.ireturn, 1) := by decide +kernel
set_option maxRecDepth 20000 in
theorem ggX1_add_X2_cellsOf : GoodIn wsX1_add wsX2_cellsOf := goodIn_r _ [8, 9, 10, 7, 11] (by decide +kernel) (by decide +kernel)
set_option maxRecDepth 20000 in
theorem gX1_add_X2_cellsOf_n30 : GoodIn wsX1_add (wsX2_cellsOf) := ggX1_add_X2_cellsOf
theorem dX1_add_0 : decode cX1_add 0 = .ok (.aload_n 0, 1) := by decide +kernel
theorem dX1_add_1 : decode cX1_add 1 = .ok (.getfield 26, 3) := by decide +kernel
theorem dX1_add_4 : decode cX1_add 4 = .ok (.istore 4, 2) := by decide +kernel
theorem dX1_add_6 : decode cX1_add 6 = .ok (.iload 4, 2) := by decide +kernel
theorem dX1_add_8 : decode cX1_add 8 = .ok (.ifCond .lt 10, 3) := by decide +kernel
theorem dX1_add_11 : decode cX1_add 11 = .ok (.iload 4, 2) := by decide +kernel
theorem dX1_add_13 : decode cX1_add 13 = .ok (.bipush 9, 2) := by decide +kernel
theorem dX1_add_15 : decode cX1_add 15 = .ok (.if_icmp .lt 5, 3) := by decide +kernel
theorem dX1_add_18 : decode cX1_add 18 = .ok (.iconst (-1), 1) := by decide +kernel
theorem dX1_add_19 : decode cX1_add 19 = .ok (.ireturn, 1) := by decide +kernel
theorem dX1_add_20 : decode cX1_add 20 = .ok (.aload_n 0, 1) := by decide +kernel
theorem dX1_add_21 : decode cX1_add 21 = .ok (.getfield 9, 3) := by decide +kernel
theorem dX1_add_24 : decode cX1_add 24 = .ok (.iload 4, 2) := by decide +kernel
theorem dX1_add_26 : decode cX1_add 26 = .ok (.iload_n 1, 1) := by decide +kernel
theorem dX1_add_27 : decode cX1_add 27 = .ok (.iastore, 1) := by decide +kernel
theorem dX1_add_28 : decode cX1_add 28 = .ok (.aload_n 0, 1) := by decide +kernel
theorem dX1_add_29 : decode cX1_add 29 = .ok (.getfield 15, 3) := by decide +kernel
theorem dX1_add_32 : decode cX1_add 32 = .ok (.iload 4, 2) := by decide +kernel
theorem dX1_add_34 : decode cX1_add 34 = .ok (.iload_n 2, 1) := by decide +kernel
theorem dX1_add_35 : decode cX1_add 35 = .ok (.bastore, 1) := by decide +kernel
theorem dX1_add_36 : decode cX1_add 36 = .ok (.aload_n 0, 1) := by decide +kernel
theorem dX1_add_37 : decode cX1_add 37 = .ok (.getfield 19, 3) := by decide +kernel
theorem dX1_add_40 : decode cX1_add 40 = .ok (.iload 4, 2) := by decide +kernel
theorem dX1_add_42 : decode cX1_add 42 = .ok (.iload_n 3, 1) := by decide +kernel
theorem dX1_add_43 : decode cX1_add 43 = .ok (.iastore, 1) := by decide +kernel
theorem dX1_add_44 : decode cX1_add 44 = .ok (.aload_n 0, 1) := by decide +kernel
theorem dX1_add_45 : decode cX1_add 45 = .ok (.getfield 22, 3) := by decide +kernel
theorem dX1_add_48 : decode cX1_add 48 = .ok (.iload 4, 2) := by decide +kernel
theorem dX1_add_50 : decode cX1_add 50 = .ok (.iload_n 2, 1) := by decide +kernel
theorem dX1_add_51 : decode cX1_add 51 = .ok (.ifCond .eq 13, 3) := by decide +kernel
theorem dX1_add_54 : decode cX1_add 54 = .ok (.iload_n 1, 1) := by decide +kernel
theorem dX1_add_55 : decode cX1_add 55 = .ok (.iconst 1, 1) := by decide +kernel
theorem dX1_add_56 : decode cX1_add 56 = .ok (.iload_n 3, 1) := by decide +kernel
theorem dX1_add_57 : decode cX1_add 57 = .ok (.iconst 0, 1) := by decide +kernel
theorem dX1_add_58 : decode cX1_add 58 = .ok (.invokestatic 30, 3) := by decide +kernel
theorem dX1_add_61 : decode cX1_add 61 = .ok (.goto 10, 3) := by decide +kernel
theorem dX1_add_64 : decode cX1_add 64 = .ok (.iload_n 1, 1) := by decide +kernel
theorem dX1_add_65 : decode cX1_add 65 = .ok (.iconst 0, 1) := by decide +kernel
theorem dX1_add_66 : decode cX1_add 66 = .ok (.iconst 0, 1) := by decide +kernel
theorem dX1_add_67 : decode cX1_add 67 = .ok (.iload_n 3, 1) := by decide +kernel
theorem dX1_add_68 : decode cX1_add 68 = .ok (.invokestatic 30, 3) := by decide +kernel
theorem dX1_add_71 : decode cX1_add 71 = .ok (.lastore, 1) := by decide +kernel
theorem dX1_add_72 : decode cX1_add 72 = .ok (.aload_n 0, 1) := by decide +kernel
theorem dX1_add_73 : decode cX1_add 73 = .ok (.iload 4, 2) := by decide +kernel
theorem dX1_add_75 : decode cX1_add 75 = .ok (.iconst 1, 1) := by decide +kernel
theorem dX1_add_76 : decode cX1_add 76 = .ok (.iadd, 1) := by decide +kernel
theorem dX1_add_77 : decode cX1_add 77 = .ok (.putfield 26, 3) := by decide +kernel
theorem dX1_add_80 : decode cX1_add 80 = .ok (.iload 4, 2) := by decide +kernel
theorem dX1_add_82 : decode cX1_add 82 = .ok (.ireturn, 1) := by decide +kernel
theorem dX1_putRamp_0 : decode cX1_putRamp 0 = .ok (.aload_n 0, 1) := by decide +kernel
theorem dX1_putRamp_1 : decode cX1_putRamp 1 = .ok (.lload_n 1, 1) := by decide +kernel
theorem dX1_putRamp_2 : decode cX1_putRamp 2 = .ok (.putfield 34, 3) := by decide +kernel
theorem dX1_putRamp_5 : decode cX1_putRamp 5 = .ok (.return_, 1) := by decide +kernel
set_option maxRecDepth 20000 in
theorem ggX1_isLorry_X1_has : GoodIn wsX1_isLorry wsX1_has := goodIn_r _ [6, 7, 8, 9, 10, 11, 12, 13] (by decide +kernel) (by decide +kernel)
set_option maxRecDepth 20000 in
theorem gX1_isLorry_X1_has : GoodIn wsX1_isLorry (wsV RX1 38 RX1 yX1_has wsX1_has) := goodIn_app (goodIn_of _ (by decide +kernel)) ggX1_isLorry_X1_has
theorem dX1_isLorry_0 : decode cX1_isLorry 0 = .ok (.aload_n 0, 1) := by decide +kernel
theorem dX1_isLorry_1 : decode cX1_isLorry 1 = .ok (.iload_n 1, 1) := by decide +kernel
theorem dX1_isLorry_2 : decode cX1_isLorry 2 = .ok (.invokevirtual 38, 3) := by decide +kernel
theorem dX1_isLorry_5 : decode cX1_isLorry 5 = .ok (.ifCond .eq 17, 3) := by decide +kernel
theorem dX1_isLorry_8 : decode cX1_isLorry 8 = .ok (.aload_n 0, 1) := by decide +kernel
theorem dX1_isLorry_9 : decode cX1_isLorry 9 = .ok (.getfield 9, 3) := by decide +kernel
theorem dX1_isLorry_12 : decode cX1_isLorry 12 = .ok (.iload_n 1, 1) := by decide +kernel
theorem dX1_isLorry_13 : decode cX1_isLorry 13 = .ok (.iaload, 1) := by decide +kernel
theorem dX1_isLorry_14 : decode cX1_isLorry 14 = .ok (.iconst 2, 1) := by decide +kernel
theorem dX1_isLorry_15 : decode cX1_isLorry 15 = .ok (.if_icmp .le 7, 3) := by decide +kernel
theorem dX1_isLorry_18 : decode cX1_isLorry 18 = .ok (.iconst 1, 1) := by decide +kernel
theorem dX1_isLorry_19 : decode cX1_isLorry 19 = .ok (.goto 4, 3) := by decide +kernel
theorem dX1_isLorry_22 : decode cX1_isLorry 22 = .ok (.iconst 0, 1) := by decide +kernel
theorem dX1_isLorry_23 : decode cX1_isLorry 23 = .ok (.ireturn, 1) := by decide +kernel
set_option maxRecDepth 20000 in
theorem ggX1_standsAcross_X1_has : GoodIn wsX1_standsAcross wsX1_has := goodIn_r _ [6, 7, 8, 9, 10, 11, 12, 13] (by decide +kernel) (by decide +kernel)
set_option maxRecDepth 20000 in
theorem gX1_standsAcross_X1_has : GoodIn wsX1_standsAcross (wsV RX1 38 RX1 yX1_has wsX1_has) := goodIn_app (goodIn_of _ (by decide +kernel)) ggX1_standsAcross_X1_has
theorem dX1_standsAcross_0 : decode cX1_standsAcross 0 = .ok (.aload_n 0, 1) := by decide +kernel
theorem dX1_standsAcross_1 : decode cX1_standsAcross 1 = .ok (.iload_n 1, 1) := by decide +kernel
theorem dX1_standsAcross_2 : decode cX1_standsAcross 2 = .ok (.invokevirtual 38, 3) := by decide +kernel
theorem dX1_standsAcross_5 : decode cX1_standsAcross 5 = .ok (.ifCond .eq 16, 3) := by decide +kernel
theorem dX1_standsAcross_8 : decode cX1_standsAcross 8 = .ok (.aload_n 0, 1) := by decide +kernel
theorem dX1_standsAcross_9 : decode cX1_standsAcross 9 = .ok (.getfield 15, 3) := by decide +kernel
theorem dX1_standsAcross_12 : decode cX1_standsAcross 12 = .ok (.iload_n 1, 1) := by decide +kernel
theorem dX1_standsAcross_13 : decode cX1_standsAcross 13 = .ok (.baload, 1) := by decide +kernel
theorem dX1_standsAcross_14 : decode cX1_standsAcross 14 = .ok (.ifCond .eq 7, 3) := by decide +kernel
theorem dX1_standsAcross_17 : decode cX1_standsAcross 17 = .ok (.iconst 1, 1) := by decide +kernel
theorem dX1_standsAcross_18 : decode cX1_standsAcross 18 = .ok (.goto 4, 3) := by decide +kernel
theorem dX1_standsAcross_21 : decode cX1_standsAcross 21 = .ok (.iconst 0, 1) := by decide +kernel
theorem dX1_standsAcross_22 : decode cX1_standsAcross 22 = .ok (.ireturn, 1) := by decide +kernel
set_option maxRecDepth 20000 in
theorem ggX1_lineOf_X1_has : GoodIn wsX1_lineOf wsX1_has := goodIn_r _ [6, 7, 8, 9, 10, 11, 12, 13] (by decide +kernel) (by decide +kernel)
set_option maxRecDepth 20000 in
theorem gX1_lineOf_X1_has : GoodIn wsX1_lineOf (wsV RX1 38 RX1 yX1_has wsX1_has) := goodIn_app (goodIn_of _ (by decide +kernel)) ggX1_lineOf_X1_has
theorem dX1_lineOf_0 : decode cX1_lineOf 0 = .ok (.aload_n 0, 1) := by decide +kernel
theorem dX1_lineOf_1 : decode cX1_lineOf 1 = .ok (.iload_n 1, 1) := by decide +kernel
theorem dX1_lineOf_2 : decode cX1_lineOf 2 = .ok (.invokevirtual 38, 3) := by decide +kernel
theorem dX1_lineOf_5 : decode cX1_lineOf 5 = .ok (.ifCond .eq 12, 3) := by decide +kernel
theorem dX1_lineOf_8 : decode cX1_lineOf 8 = .ok (.aload_n 0, 1) := by decide +kernel
theorem dX1_lineOf_9 : decode cX1_lineOf 9 = .ok (.getfield 19, 3) := by decide +kernel
theorem dX1_lineOf_12 : decode cX1_lineOf 12 = .ok (.iload_n 1, 1) := by decide +kernel
theorem dX1_lineOf_13 : decode cX1_lineOf 13 = .ok (.iaload, 1) := by decide +kernel
theorem dX1_lineOf_14 : decode cX1_lineOf 14 = .ok (.goto 4, 3) := by decide +kernel
theorem dX1_lineOf_17 : decode cX1_lineOf 17 = .ok (.iconst 0, 1) := by decide +kernel
theorem dX1_lineOf_18 : decode cX1_lineOf 18 = .ok (.ireturn, 1) := by decide +kernel
theorem dX1_barredTo_0 : decode cX1_barredTo 0 = .ok (.iload_n 1, 1) := by decide +kernel
theorem dX1_barredTo_1 : decode cX1_barredTo 1 = .ok (.iconst 2, 1) := by decide +kernel
theorem dX1_barredTo_2 : decode cX1_barredTo 2 = .ok (.if_icmp .le 10, 3) := by decide +kernel
theorem dX1_barredTo_5 : decode cX1_barredTo 5 = .ok (.aload_n 0, 1) := by decide +kernel
theorem dX1_barredTo_6 : decode cX1_barredTo 6 = .ok (.getfield 34, 3) := by decide +kernel
theorem dX1_barredTo_9 : decode cX1_barredTo 9 = .ok (.goto 4, 3) := by decide +kernel
theorem dX1_barredTo_12 : decode cX1_barredTo 12 = .ok (.lconst 0, 1) := by decide +kernel
theorem dX1_barredTo_13 : decode cX1_barredTo 13 = .ok (.lreturn, 1) := by decide +kernel
set_option maxRecDepth 20000 in
theorem ggX1_cellsIn_X1_has : GoodIn wsX1_cellsIn wsX1_has := goodIn_r _ [7, 8, 12, 13, 14, 15, 16, 17] (by decide +kernel) (by decide +kernel)
set_option maxRecDepth 20000 in
theorem gX1_cellsIn_X1_has : GoodIn wsX1_cellsIn (wsV RX1 38 RX1 yX1_has wsX1_has) := goodIn_app (goodIn_of _ (by decide +kernel)) ggX1_cellsIn_X1_has
set_option maxRecDepth 20000 in
theorem ggX1_cellsIn_X2_placeIn : GoodIn wsX1_cellsIn wsX2_placeIn := goodIn_r _ [11] (by decide +kernel) (by decide +kernel)
set_option maxRecDepth 20000 in
theorem gX1_cellsIn_X2_placeIn_n42 : GoodIn wsX1_cellsIn (wsX2_placeIn) := ggX1_cellsIn_X2_placeIn
theorem dX1_cellsIn_0 : decode cX1_cellsIn 0 = .ok (.aload_n 0, 1) := by decide +kernel
theorem dX1_cellsIn_1 : decode cX1_cellsIn 1 = .ok (.iload_n 2, 1) := by decide +kernel
theorem dX1_cellsIn_2 : decode cX1_cellsIn 2 = .ok (.invokevirtual 38, 3) := by decide +kernel
theorem dX1_cellsIn_5 : decode cX1_cellsIn 5 = .ok (.ifCond .ne 5, 3) := by decide +kernel
theorem dX1_cellsIn_8 : decode cX1_cellsIn 8 = .ok (.lconst 0, 1) := by decide +kernel
theorem dX1_cellsIn_9 : decode cX1_cellsIn 9 = .ok (.lreturn, 1) := by decide +kernel
theorem dX1_cellsIn_10 : decode cX1_cellsIn 10 = .ok (.aload_n 0, 1) := by decide +kernel
theorem dX1_cellsIn_11 : decode cX1_cellsIn 11 = .ok (.getfield 15, 3) := by decide +kernel
theorem dX1_cellsIn_14 : decode cX1_cellsIn 14 = .ok (.iload_n 2, 1) := by decide +kernel
theorem dX1_cellsIn_15 : decode cX1_cellsIn 15 = .ok (.baload, 1) := by decide +kernel
theorem dX1_cellsIn_16 : decode cX1_cellsIn 16 = .ok (.ifCond .eq 7, 3) := by decide +kernel
theorem dX1_cellsIn_19 : decode cX1_cellsIn 19 = .ok (.iconst 1, 1) := by decide +kernel
theorem dX1_cellsIn_20 : decode cX1_cellsIn 20 = .ok (.goto 5, 3) := by decide +kernel
theorem dX1_cellsIn_23 : decode cX1_cellsIn 23 = .ok (.bipush 6, 2) := by decide +kernel
theorem dX1_cellsIn_25 : decode cX1_cellsIn 25 = .ok (.istore_n 3, 1) := by decide +kernel
theorem dX1_cellsIn_26 : decode cX1_cellsIn 26 = .ok (.aload_n 0, 1) := by decide +kernel
theorem dX1_cellsIn_27 : decode cX1_cellsIn 27 = .ok (.getfield 22, 3) := by decide +kernel
theorem dX1_cellsIn_30 : decode cX1_cellsIn 30 = .ok (.iload_n 2, 1) := by decide +kernel
theorem dX1_cellsIn_31 : decode cX1_cellsIn 31 = .ok (.laload, 1) := by decide +kernel
theorem dX1_cellsIn_32 : decode cX1_cellsIn 32 = .ok (.iload_n 3, 1) := by decide +kernel
theorem dX1_cellsIn_33 : decode cX1_cellsIn 33 = .ok (.iload_n 1, 1) := by decide +kernel
theorem dX1_cellsIn_34 : decode cX1_cellsIn 34 = .ok (.iload_n 2, 1) := by decide +kernel
theorem dX1_cellsIn_35 : decode cX1_cellsIn 35 = .ok (.invokestatic 42, 3) := by decide +kernel
theorem dX1_cellsIn_38 : decode cX1_cellsIn 38 = .ok (.imul, 1) := by decide +kernel
theorem dX1_cellsIn_39 : decode cX1_cellsIn 39 = .ok (.lshl, 1) := by decide +kernel
theorem dX1_cellsIn_40 : decode cX1_cellsIn 40 = .ok (.lreturn, 1) := by decide +kernel
set_option maxRecDepth 20000 in
theorem ggX1_filledIn_X1_cellsIn : GoodIn wsX1_filledIn wsX1_cellsIn := goodIn_r _ [6, 7, 8, 9, 10, 11, 5, 12, 1, 13, 14, 15, 16, 17, 18, 19, 20, 21] (by decide +kernel) (by decide +kernel)
set_option maxRecDepth 20000 in
theorem gX1_filledIn_X1_cellsIn : GoodIn wsX1_filledIn (wsV RX1 46 RX1 yX1_cellsIn wsX1_cellsIn) := goodIn_app (goodIn_of _ (by decide +kernel)) ggX1_filledIn_X1_cellsIn
theorem dX1_filledIn_0 : decode cX1_filledIn 0 = .ok (.lconst 0, 1) := by decide +kernel
theorem dX1_filledIn_1 : decode cX1_filledIn 1 = .ok (.lstore_n 2, 1) := by decide +kernel
theorem dX1_filledIn_2 : decode cX1_filledIn 2 = .ok (.iconst 0, 1) := by decide +kernel
theorem dX1_filledIn_3 : decode cX1_filledIn 3 = .ok (.istore 4, 2) := by decide +kernel
theorem dX1_filledIn_5 : decode cX1_filledIn 5 = .ok (.iload 4, 2) := by decide +kernel
theorem dX1_filledIn_7 : decode cX1_filledIn 7 = .ok (.aload_n 0, 1) := by decide +kernel
theorem dX1_filledIn_8 : decode cX1_filledIn 8 = .ok (.getfield 26, 3) := by decide +kernel
theorem dX1_filledIn_11 : decode cX1_filledIn 11 = .ok (.if_icmp .ge 19, 3) := by decide +kernel
theorem dX1_filledIn_14 : decode cX1_filledIn 14 = .ok (.lload_n 2, 1) := by decide +kernel
theorem dX1_filledIn_15 : decode cX1_filledIn 15 = .ok (.aload_n 0, 1) := by decide +kernel
theorem dX1_filledIn_16 : decode cX1_filledIn 16 = .ok (.iload_n 1, 1) := by decide +kernel
theorem dX1_filledIn_17 : decode cX1_filledIn 17 = .ok (.iload 4, 2) := by decide +kernel
theorem dX1_filledIn_19 : decode cX1_filledIn 19 = .ok (.invokevirtual 46, 3) := by decide +kernel
theorem dX1_filledIn_22 : decode cX1_filledIn 22 = .ok (.lor, 1) := by decide +kernel
theorem dX1_filledIn_23 : decode cX1_filledIn 23 = .ok (.lstore_n 2, 1) := by decide +kernel
theorem dX1_filledIn_24 : decode cX1_filledIn 24 = .ok (.iinc 4 1, 3) := by decide +kernel
theorem dX1_filledIn_27 : decode cX1_filledIn 27 = .ok (.goto (-22), 3) := by decide +kernel
theorem dX1_filledIn_30 : decode cX1_filledIn 30 = .ok (.lload_n 2, 1) := by decide +kernel
theorem dX1_filledIn_31 : decode cX1_filledIn 31 = .ok (.lreturn, 1) := by decide +kernel
set_option maxRecDepth 20000 in
theorem ggX1_vehicleOn_X1_cellsIn : GoodIn wsX1_vehicleOn wsX1_cellsIn := goodIn_r _ [6, 7, 8, 9, 10, 11, 5, 12, 1, 13, 14, 15, 16, 17, 18, 19, 20, 21] (by decide +kernel) (by decide +kernel)
set_option maxRecDepth 20000 in
theorem gX1_vehicleOn_X1_cellsIn : GoodIn wsX1_vehicleOn (wsV RX1 46 RX1 yX1_cellsIn wsX1_cellsIn) := goodIn_app (goodIn_of _ (by decide +kernel)) ggX1_vehicleOn_X1_cellsIn
theorem dX1_vehicleOn_0 : decode cX1_vehicleOn 0 = .ok (.iconst 0, 1) := by decide +kernel
theorem dX1_vehicleOn_1 : decode cX1_vehicleOn 1 = .ok (.istore 4, 2) := by decide +kernel
theorem dX1_vehicleOn_3 : decode cX1_vehicleOn 3 = .ok (.iload 4, 2) := by decide +kernel
theorem dX1_vehicleOn_5 : decode cX1_vehicleOn 5 = .ok (.aload_n 0, 1) := by decide +kernel
theorem dX1_vehicleOn_6 : decode cX1_vehicleOn 6 = .ok (.getfield 26, 3) := by decide +kernel
theorem dX1_vehicleOn_9 : decode cX1_vehicleOn 9 = .ok (.if_icmp .ge 26, 3) := by decide +kernel
theorem dX1_vehicleOn_12 : decode cX1_vehicleOn 12 = .ok (.aload_n 0, 1) := by decide +kernel
theorem dX1_vehicleOn_13 : decode cX1_vehicleOn 13 = .ok (.iload_n 1, 1) := by decide +kernel
theorem dX1_vehicleOn_14 : decode cX1_vehicleOn 14 = .ok (.iload 4, 2) := by decide +kernel
theorem dX1_vehicleOn_16 : decode cX1_vehicleOn 16 = .ok (.invokevirtual 46, 3) := by decide +kernel
theorem dX1_vehicleOn_19 : decode cX1_vehicleOn 19 = .ok (.lload_n 2, 1) := by decide +kernel
theorem dX1_vehicleOn_20 : decode cX1_vehicleOn 20 = .ok (.land, 1) := by decide +kernel
theorem dX1_vehicleOn_21 : decode cX1_vehicleOn 21 = .ok (.lconst 0, 1) := by decide +kernel
theorem dX1_vehicleOn_22 : decode cX1_vehicleOn 22 = .ok (.lcmp, 1) := by decide +kernel
theorem dX1_vehicleOn_23 : decode cX1_vehicleOn 23 = .ok (.ifCond .eq 6, 3) := by decide +kernel
theorem dX1_vehicleOn_26 : decode cX1_vehicleOn 26 = .ok (.iload 4, 2) := by decide +kernel
theorem dX1_vehicleOn_28 : decode cX1_vehicleOn 28 = .ok (.ireturn, 1) := by decide +kernel
theorem dX1_vehicleOn_29 : decode cX1_vehicleOn 29 = .ok (.iinc 4 1, 3) := by decide +kernel
theorem dX1_vehicleOn_32 : decode cX1_vehicleOn 32 = .ok (.goto (-29), 3) := by decide +kernel
theorem dX1_vehicleOn_35 : decode cX1_vehicleOn 35 = .ok (.iconst (-1), 1) := by decide +kernel
theorem dX1_vehicleOn_36 : decode cX1_vehicleOn 36 = .ok (.ireturn, 1) := by decide +kernel
set_option maxRecDepth 20000 in
theorem ggX1_wayIn_X1_has : GoodIn wsX1_wayIn wsX1_has := goodIn_r _ [8, 9, 23, 24, 25, 26, 27, 28] (by decide +kernel) (by decide +kernel)
set_option maxRecDepth 20000 in
theorem gX1_wayIn_X1_has : GoodIn wsX1_wayIn (wsV RX1 38 RX1 yX1_has wsX1_has) := goodIn_app (goodIn_of _ (by decide +kernel)) ggX1_wayIn_X1_has
set_option maxRecDepth 20000 in
theorem ggX1_wayIn_X2_placeIn : GoodIn wsX1_wayIn wsX2_placeIn := goodIn_r _ [12] (by decide +kernel) (by decide +kernel)
set_option maxRecDepth 20000 in
theorem gX1_wayIn_X2_placeIn_n42 : GoodIn wsX1_wayIn (wsX2_placeIn) := ggX1_wayIn_X2_placeIn
set_option maxRecDepth 20000 in
theorem ggX1_wayIn_X1_cellsIn : GoodIn wsX1_wayIn wsX1_cellsIn := goodIn_r _ [16, 2, 17, 4, 5, 6, 7, 8, 9, 10, 11, 12, 23, 24, 25, 26, 27, 28] (by decide +kernel) (by decide +kernel)
set_option maxRecDepth 20000 in
theorem gX1_wayIn_X1_cellsIn : GoodIn wsX1_wayIn (wsV RX1 46 RX1 yX1_cellsIn wsX1_cellsIn) := goodIn_app (goodIn_of _ (by decide +kernel)) ggX1_wayIn_X1_cellsIn
set_option maxRecDepth 20000 in
theorem ggX1_wayIn_X1_barredTo : GoodIn wsX1_wayIn wsX1_barredTo := goodIn_r _ [21, 22, 23, 24, 25, 26, 27, 28] (by decide +kernel) (by decide +kernel)
set_option maxRecDepth 20000 in
theorem gX1_wayIn_X1_barredTo : GoodIn wsX1_wayIn (wsV RX1 52 RX1 yX1_barredTo wsX1_barredTo) := goodIn_app (goodIn_of _ (by decide +kernel)) ggX1_wayIn_X1_barredTo
theorem dX1_wayIn_0 : decode cX1_wayIn 0 = .ok (.aload_n 0, 1) := by decide +kernel
theorem dX1_wayIn_1 : decode cX1_wayIn 1 = .ok (.iload 4, 2) := by decide +kernel
theorem dX1_wayIn_3 : decode cX1_wayIn 3 = .ok (.invokevirtual 38, 3) := by decide +kernel
theorem dX1_wayIn_6 : decode cX1_wayIn 6 = .ok (.ifCond .ne 5, 3) := by decide +kernel
theorem dX1_wayIn_9 : decode cX1_wayIn 9 = .ok (.iconst 0, 1) := by decide +kernel
theorem dX1_wayIn_10 : decode cX1_wayIn 10 = .ok (.ireturn, 1) := by decide +kernel
theorem dX1_wayIn_11 : decode cX1_wayIn 11 = .ok (.iload_n 1, 1) := by decide +kernel
theorem dX1_wayIn_12 : decode cX1_wayIn 12 = .ok (.iload 4, 2) := by decide +kernel
theorem dX1_wayIn_14 : decode cX1_wayIn 14 = .ok (.invokestatic 42, 3) := by decide +kernel
theorem dX1_wayIn_17 : decode cX1_wayIn 17 = .ok (.istore 6, 2) := by decide +kernel
theorem dX1_wayIn_19 : decode cX1_wayIn 19 = .ok (.iload 5, 2) := by decide +kernel
theorem dX1_wayIn_21 : decode cX1_wayIn 21 = .ok (.iconst 1, 1) := by decide +kernel
theorem dX1_wayIn_22 : decode cX1_wayIn 22 = .ok (.if_icmp .ne 19, 3) := by decide +kernel
theorem dX1_wayIn_25 : decode cX1_wayIn 25 = .ok (.bipush 6, 2) := by decide +kernel
theorem dX1_wayIn_27 : decode cX1_wayIn 27 = .ok (.aload_n 0, 1) := by decide +kernel
theorem dX1_wayIn_28 : decode cX1_wayIn 28 = .ok (.getfield 9, 3) := by decide +kernel
theorem dX1_wayIn_31 : decode cX1_wayIn 31 = .ok (.iload 4, 2) := by decide +kernel
theorem dX1_wayIn_33 : decode cX1_wayIn 33 = .ok (.iaload, 1) := by decide +kernel
theorem dX1_wayIn_34 : decode cX1_wayIn 34 = .ok (.isub, 1) := by decide +kernel
theorem dX1_wayIn_35 : decode cX1_wayIn 35 = .ok (.iload 6, 2) := by decide +kernel
theorem dX1_wayIn_37 : decode cX1_wayIn 37 = .ok (.isub, 1) := by decide +kernel
theorem dX1_wayIn_38 : decode cX1_wayIn 38 = .ok (.goto 5, 3) := by decide +kernel
theorem dX1_wayIn_41 : decode cX1_wayIn 41 = .ok (.iload 6, 2) := by decide +kernel
theorem dX1_wayIn_43 : decode cX1_wayIn 43 = .ok (.istore 7, 2) := by decide +kernel
theorem dX1_wayIn_45 : decode cX1_wayIn 45 = .ok (.aload_n 0, 1) := by decide +kernel
theorem dX1_wayIn_46 : decode cX1_wayIn 46 = .ok (.getfield 15, 3) := by decide +kernel
theorem dX1_wayIn_49 : decode cX1_wayIn 49 = .ok (.iload 4, 2) := by decide +kernel
theorem dX1_wayIn_51 : decode cX1_wayIn 51 = .ok (.baload, 1) := by decide +kernel
theorem dX1_wayIn_52 : decode cX1_wayIn 52 = .ok (.ifCond .eq 7, 3) := by decide +kernel
theorem dX1_wayIn_55 : decode cX1_wayIn 55 = .ok (.iconst 1, 1) := by decide +kernel
theorem dX1_wayIn_56 : decode cX1_wayIn 56 = .ok (.goto 5, 3) := by decide +kernel
theorem dX1_wayIn_59 : decode cX1_wayIn 59 = .ok (.bipush 6, 2) := by decide +kernel
theorem dX1_wayIn_61 : decode cX1_wayIn 61 = .ok (.istore 8, 2) := by decide +kernel
theorem dX1_wayIn_63 : decode cX1_wayIn 63 = .ok (.aload_n 0, 1) := by decide +kernel
theorem dX1_wayIn_64 : decode cX1_wayIn 64 = .ok (.iload_n 1, 1) := by decide +kernel
theorem dX1_wayIn_65 : decode cX1_wayIn 65 = .ok (.iload 4, 2) := by decide +kernel
theorem dX1_wayIn_67 : decode cX1_wayIn 67 = .ok (.invokevirtual 46, 3) := by decide +kernel
theorem dX1_wayIn_70 : decode cX1_wayIn 70 = .ok (.lstore 9, 2) := by decide +kernel
theorem dX1_wayIn_72 : decode cX1_wayIn 72 = .ok (.lload_n 2, 1) := by decide +kernel
theorem dX1_wayIn_73 : decode cX1_wayIn 73 = .ok (.lload 9, 2) := by decide +kernel
theorem dX1_wayIn_75 : decode cX1_wayIn 75 = .ok (.ldc2_w 50, 3) := by decide +kernel
theorem dX1_wayIn_78 : decode cX1_wayIn 78 = .ok (.lxor, 1) := by decide +kernel
theorem dX1_wayIn_79 : decode cX1_wayIn 79 = .ok (.land, 1) := by decide +kernel
theorem dX1_wayIn_80 : decode cX1_wayIn 80 = .ok (.aload_n 0, 1) := by decide +kernel
theorem dX1_wayIn_81 : decode cX1_wayIn 81 = .ok (.aload_n 0, 1) := by decide +kernel
theorem dX1_wayIn_82 : decode cX1_wayIn 82 = .ok (.getfield 9, 3) := by decide +kernel
theorem dX1_wayIn_85 : decode cX1_wayIn 85 = .ok (.iload 4, 2) := by decide +kernel
theorem dX1_wayIn_87 : decode cX1_wayIn 87 = .ok (.iaload, 1) := by decide +kernel
theorem dX1_wayIn_88 : decode cX1_wayIn 88 = .ok (.invokevirtual 52, 3) := by decide +kernel
theorem dX1_wayIn_91 : decode cX1_wayIn 91 = .ok (.lor, 1) := by decide +kernel
theorem dX1_wayIn_92 : decode cX1_wayIn 92 = .ok (.lstore 11, 2) := by decide +kernel
theorem dX1_wayIn_94 : decode cX1_wayIn 94 = .ok (.iconst 0, 1) := by decide +kernel
theorem dX1_wayIn_95 : decode cX1_wayIn 95 = .ok (.istore 13, 2) := by decide +kernel
theorem dX1_wayIn_97 : decode cX1_wayIn 97 = .ok (.iload 13, 2) := by decide +kernel
theorem dX1_wayIn_99 : decode cX1_wayIn 99 = .ok (.iload 7, 2) := by decide +kernel
theorem dX1_wayIn_101 : decode cX1_wayIn 101 = .ok (.if_icmp .ge 43, 3) := by decide +kernel
theorem dX1_wayIn_104 : decode cX1_wayIn 104 = .ok (.iload 5, 2) := by decide +kernel
theorem dX1_wayIn_106 : decode cX1_wayIn 106 = .ok (.iconst 1, 1) := by decide +kernel
theorem dX1_wayIn_107 : decode cX1_wayIn 107 = .ok (.if_icmp .ne 11, 3) := by decide +kernel
theorem dX1_wayIn_110 : decode cX1_wayIn 110 = .ok (.lload 9, 2) := by decide +kernel
theorem dX1_wayIn_112 : decode cX1_wayIn 112 = .ok (.iload 8, 2) := by decide +kernel
theorem dX1_wayIn_114 : decode cX1_wayIn 114 = .ok (.lshl, 1) := by decide +kernel
theorem dX1_wayIn_115 : decode cX1_wayIn 115 = .ok (.goto 8, 3) := by decide +kernel
theorem dX1_wayIn_118 : decode cX1_wayIn 118 = .ok (.lload 9, 2) := by decide +kernel
theorem dX1_wayIn_120 : decode cX1_wayIn 120 = .ok (.iload 8, 2) := by decide +kernel
theorem dX1_wayIn_122 : decode cX1_wayIn 122 = .ok (.lushr, 1) := by decide +kernel
theorem dX1_wayIn_123 : decode cX1_wayIn 123 = .ok (.lstore 9, 2) := by decide +kernel
theorem dX1_wayIn_125 : decode cX1_wayIn 125 = .ok (.lload 9, 2) := by decide +kernel
theorem dX1_wayIn_127 : decode cX1_wayIn 127 = .ok (.lload 11, 2) := by decide +kernel
theorem dX1_wayIn_129 : decode cX1_wayIn 129 = .ok (.land, 1) := by decide +kernel
theorem dX1_wayIn_130 : decode cX1_wayIn 130 = .ok (.lconst 0, 1) := by decide +kernel
theorem dX1_wayIn_131 : decode cX1_wayIn 131 = .ok (.lcmp, 1) := by decide +kernel
theorem dX1_wayIn_132 : decode cX1_wayIn 132 = .ok (.ifCond .eq 6, 3) := by decide +kernel
theorem dX1_wayIn_135 : decode cX1_wayIn 135 = .ok (.iload 13, 2) := by decide +kernel
theorem dX1_wayIn_137 : decode cX1_wayIn 137 = .ok (.ireturn, 1) := by decide +kernel
theorem dX1_wayIn_138 : decode cX1_wayIn 138 = .ok (.iinc 13 1, 3) := by decide +kernel
theorem dX1_wayIn_141 : decode cX1_wayIn 141 = .ok (.goto (-44), 3) := by decide +kernel
theorem dX1_wayIn_144 : decode cX1_wayIn 144 = .ok (.iload 7, 2) := by decide +kernel
theorem dX1_wayIn_146 : decode cX1_wayIn 146 = .ok (.ireturn, 1) := by decide +kernel
end
section
set_option maxRecDepth 20000 in
theorem ggX2_init_X1_init : GoodIn wsX2_init wsX1_init := goodIn_r _ [13, 14, 2, 3, 15, 16, 17, 18, 19, 20, 21, 31, 32, 33, 34, 35, 36] (by decide +kernel) (by decide +kernel)
set_option maxRecDepth 20000 in
theorem gX2_init_X1_init_n9 : GoodIn wsX2_init (wsX1_init) := ggX2_init_X1_init
set_option maxRecDepth 20000 in
theorem ggX2_init_X0_init : GoodIn wsX2_init wsX0_init := goodIn_r _ [24, 25, 2, 3, 15, 26, 27, 28, 29, 30, 44, 45, 46, 47, 48, 49, 50, 51, 52, 53] (by decide +kernel) (by decide +kernel)
set_option maxRecDepth 20000 in
theorem gX2_init_X0_init : GoodIn wsX2_init (wsX0_init) := ggX2_init_X0_init
theorem dX2_init_0 : decode cX2_init 0 = .ok (.aload_n 0, 1) := by decide +kernel
theorem dX2_init_1 : decode cX2_init 1 = .ok (.invokespecial 1, 3) := by decide +kernel
theorem dX2_init_4 : decode cX2_init 4 = .ok (.aload_n 0, 1) := by decide +kernel
theorem dX2_init_5 : decode cX2_init 5 = .ok (.new 7, 3) := by decide +kernel
theorem dX2_init_8 : decode cX2_init 8 = .ok (.dup, 1) := by decide +kernel
theorem dX2_init_9 : decode cX2_init 9 = .ok (.invokespecial 9, 3) := by decide +kernel
theorem dX2_init_12 : decode cX2_init 12 = .ok (.putfield 10, 3) := by decide +kernel
theorem dX2_init_15 : decode cX2_init 15 = .ok (.aload_n 0, 1) := by decide +kernel
theorem dX2_init_16 : decode cX2_init 16 = .ok (.new 16, 3) := by decide +kernel
theorem dX2_init_19 : decode cX2_init 19 = .ok (.dup, 1) := by decide +kernel
theorem dX2_init_20 : decode cX2_init 20 = .ok (.aload_n 0, 1) := by decide +kernel
theorem dX2_init_21 : decode cX2_init 21 = .ok (.getfield 10, 3) := by decide +kernel
theorem dX2_init_24 : decode cX2_init 24 = .ok (.invokespecial 18, 3) := by decide +kernel
theorem dX2_init_27 : decode cX2_init 27 = .ok (.putfield 21, 3) := by decide +kernel
theorem dX2_init_30 : decode cX2_init 30 = .ok (.return_, 1) := by decide +kernel
set_option maxRecDepth 20000 in
theorem ggX2_park_X2_isInYard : GoodIn wsX2_park wsX2_isInYard := goodIn_r _ [12] (by decide +kernel) (by decide +kernel)
set_option maxRecDepth 20000 in
theorem gX2_park_X2_isInYard : GoodIn wsX2_park (va_wsS RX2 25 yX2_isInYard wsX2_isInYard) := goodIn_app (goodIn_of _ (by decide +kernel)) ggX2_park_X2_isInYard
set_option maxRecDepth 20000 in
theorem ggX2_park_X1_count : GoodIn wsX2_park wsX1_count := goodIn_r _ [17, 18, 67, 68, 69, 70, 71, 72] (by decide +kernel) (by decide +kernel)
set_option maxRecDepth 20000 in
theorem gX2_park_X1_count : GoodIn wsX2_park (wsV RX2 38 RX1 yX1_count wsX1_count) := goodIn_app (goodIn_of _ (by decide +kernel)) ggX2_park_X1_count
set_option maxRecDepth 20000 in
theorem ggX2_park_X2_cellsOf : GoodIn wsX2_park wsX2_cellsOf := goodIn_r _ [21, 22, 23, 11, 24] (by decide +kernel) (by decide +kernel)
set_option maxRecDepth 20000 in
theorem gX2_park_X2_cellsOf : GoodIn wsX2_park (va_wsS RX2 53 yX2_cellsOf wsX2_cellsOf) := goodIn_app (goodIn_of _ (by decide +kernel)) ggX2_park_X2_cellsOf
set_option maxRecDepth 20000 in
theorem ggX2_park_X1_filledIn : GoodIn wsX2_park wsX1_filledIn := goodIn_r _ [28, 18, 29, 30, 31, 16, 32, 33, 34, 35, 36, 37, 38, 39, 11, 40, 67, 68, 69, 70, 71, 72] (by decide +kernel) (by decide +kernel)
set_option maxRecDepth 20000 in
theorem gX2_park_X1_filledIn : GoodIn wsX2_park (wsV RX2 60 RX1 yX1_filledIn wsX1_filledIn) := goodIn_app (goodIn_of _ (by decide +kernel)) ggX2_park_X1_filledIn
set_option maxRecDepth 20000 in
theorem ggX2_park_X1_barredTo : GoodIn wsX2_park wsX1_barredTo := goodIn_r _ [44, 45, 67, 68, 69, 70, 71, 72] (by decide +kernel) (by decide +kernel)
set_option maxRecDepth 20000 in
theorem gX2_park_X1_barredTo : GoodIn wsX2_park (wsV RX2 64 RX1 yX1_barredTo wsX1_barredTo) := goodIn_app (goodIn_of _ (by decide +kernel)) ggX2_park_X1_barredTo
set_option maxRecDepth 20000 in
theorem ggX2_park_X1_add : GoodIn wsX2_park wsX1_add := goodIn_r _ [49, 18, 50, 33, 51, 34, 20, 11, 21, 22, 23, 24, 67, 68, 69, 70, 71, 72] (by decide +kernel) (by decide +kernel)
set_option maxRecDepth 20000 in
theorem gX2_park_X1_add : GoodIn wsX2_park (wsV RX2 69 RX1 yX1_add wsX1_add) := goodIn_app (goodIn_of _ (by decide +kernel)) ggX2_park_X1_add
set_option maxRecDepth 20000 in
theorem ggX2_park_X2_moved : GoodIn wsX2_park wsX2_moved := goodIn_r _ [54] (by decide +kernel) (by decide +kernel)
set_option maxRecDepth 20000 in
theorem gX2_park_X2_moved : GoodIn wsX2_park (va_wsS RX2 76 yX2_moved wsX2_moved) := goodIn_app (goodIn_of _ (by decide +kernel)) ggX2_park_X2_moved
set_option maxRecDepth 20000 in
theorem ggX2_park_X2_standAt : GoodIn wsX2_park wsX2_standAt := goodIn_r _ [58, 7, 59, 60, 61, 62, 63, 64, 65, 66] (by decide +kernel) (by decide +kernel)
set_option maxRecDepth 20000 in
theorem gX2_park_X2_standAt : GoodIn wsX2_park (wsV RX2 80 RX2 yX2_standAt wsX2_standAt) := goodIn_app (goodIn_of _ (by decide +kernel)) ggX2_park_X2_standAt
theorem dX2_park_0 : decode cX2_park 0 = .ok (.iload_n 1, 1) := by decide +kernel
theorem dX2_park_1 : decode cX2_park 1 = .ok (.iconst 2, 1) := by decide +kernel
theorem dX2_park_2 : decode cX2_park 2 = .ok (.if_icmp .lt 17, 3) := by decide +kernel
theorem dX2_park_5 : decode cX2_park 5 = .ok (.iload_n 1, 1) := by decide +kernel
theorem dX2_park_6 : decode cX2_park 6 = .ok (.iconst 4, 1) := by decide +kernel
theorem dX2_park_7 : decode cX2_park 7 = .ok (.if_icmp .gt 12, 3) := by decide +kernel
theorem dX2_park_10 : decode cX2_park 10 = .ok (.iload_n 3, 1) := by decide +kernel
theorem dX2_park_11 : decode cX2_park 11 = .ok (.iload 4, 2) := by decide +kernel
theorem dX2_park_13 : decode cX2_park 13 = .ok (.invokestatic 25, 3) := by decide +kernel
theorem dX2_park_16 : decode cX2_park 16 = .ok (.ifCond .ne 13, 3) := by decide +kernel
theorem dX2_park_19 : decode cX2_park 19 = .ok (.new 29, 3) := by decide +kernel
theorem dX2_park_22 : decode cX2_park 22 = .ok (.dup, 1) := by decide +kernel
theorem dX2_park_23 : decode cX2_park 23 = .ok (.ldc 31, 2) := by decide +kernel
theorem dX2_park_25 : decode cX2_park 25 = .ok (.invokespecial 33, 3) := by decide +kernel
theorem dX2_park_28 : decode cX2_park 28 = .ok (.athrow, 1) := by decide +kernel
theorem dX2_park_29 : decode cX2_park 29 = .ok (.iload_n 2, 1) := by decide +kernel
theorem dX2_park_30 : decode cX2_park 30 = .ok (.ifCond .eq 7, 3) := by decide +kernel
theorem dX2_park_33 : decode cX2_park 33 = .ok (.iload_n 3, 1) := by decide +kernel
theorem dX2_park_34 : decode cX2_park 34 = .ok (.goto 5, 3) := by decide +kernel
theorem dX2_park_37 : decode cX2_park 37 = .ok (.iload 4, 2) := by decide +kernel
theorem dX2_park_39 : decode cX2_park 39 = .ok (.istore 5, 2) := by decide +kernel
theorem dX2_park_41 : decode cX2_park 41 = .ok (.iload_n 2, 1) := by decide +kernel
theorem dX2_park_42 : decode cX2_park 42 = .ok (.ifCond .eq 8, 3) := by decide +kernel
theorem dX2_park_45 : decode cX2_park 45 = .ok (.iload 4, 2) := by decide +kernel
theorem dX2_park_47 : decode cX2_park 47 = .ok (.goto 4, 3) := by decide +kernel
theorem dX2_park_50 : decode cX2_park 50 = .ok (.iload_n 3, 1) := by decide +kernel
theorem dX2_park_51 : decode cX2_park 51 = .ok (.istore 6, 2) := by decide +kernel
theorem dX2_park_53 : decode cX2_park 53 = .ok (.iload 6, 2) := by decide +kernel
theorem dX2_park_55 : decode cX2_park 55 = .ok (.iload_n 1, 1) := by decide +kernel
theorem dX2_park_56 : decode cX2_park 56 = .ok (.iadd, 1) := by decide +kernel
theorem dX2_park_57 : decode cX2_park 57 = .ok (.bipush 6, 2) := by decide +kernel
theorem dX2_park_59 : decode cX2_park 59 = .ok (.if_icmp .le 13, 3) := by decide +kernel
theorem dX2_park_62 : decode cX2_park 62 = .ok (.new 29, 3) := by decide +kernel
theorem dX2_park_65 : decode cX2_park 65 = .ok (.dup, 1) := by decide +kernel
theorem dX2_park_66 : decode cX2_park 66 = .ok (.ldc 36, 2) := by decide +kernel
theorem dX2_park_68 : decode cX2_park 68 = .ok (.invokespecial 33, 3) := by decide +kernel
theorem dX2_park_71 : decode cX2_park 71 = .ok (.athrow, 1) := by decide +kernel
theorem dX2_park_72 : decode cX2_park 72 = .ok (.aload_n 0, 1) := by decide +kernel
theorem dX2_park_73 : decode cX2_park 73 = .ok (.getfield 10, 3) := by decide +kernel
theorem dX2_park_76 : decode cX2_park 76 = .ok (.invokevirtual 38, 3) := by decide +kernel
theorem dX2_park_79 : decode cX2_park 79 = .ok (.ifCond .ne 27, 3) := by decide +kernel
theorem dX2_park_82 : decode cX2_park 82 = .ok (.iload_n 1, 1) := by decide +kernel
theorem dX2_park_83 : decode cX2_park 83 = .ok (.iconst 2, 1) := by decide +kernel
theorem dX2_park_84 : decode cX2_park 84 = .ok (.if_icmp .ne 12, 3) := by decide +kernel
theorem dX2_park_87 : decode cX2_park 87 = .ok (.iload_n 2, 1) := by decide +kernel
theorem dX2_park_88 : decode cX2_park 88 = .ok (.ifCond .eq 8, 3) := by decide +kernel
theorem dX2_park_91 : decode cX2_park 91 = .ok (.iload_n 3, 1) := by decide +kernel
theorem dX2_park_92 : decode cX2_park 92 = .ok (.iconst 2, 1) := by decide +kernel
theorem dX2_park_93 : decode cX2_park 93 = .ok (.if_icmp .eq 13, 3) := by decide +kernel
theorem dX2_park_96 : decode cX2_park 96 = .ok (.new 29, 3) := by decide +kernel
theorem dX2_park_99 : decode cX2_park 99 = .ok (.dup, 1) := by decide +kernel
theorem dX2_park_100 : decode cX2_park 100 = .ok (.ldc 42, 2) := by decide +kernel
theorem dX2_park_102 : decode cX2_park 102 = .ok (.invokespecial 33, 3) := by decide +kernel
theorem dX2_park_105 : decode cX2_park 105 = .ok (.athrow, 1) := by decide +kernel
theorem dX2_park_106 : decode cX2_park 106 = .ok (.aload_n 0, 1) := by decide +kernel
theorem dX2_park_107 : decode cX2_park 107 = .ok (.getfield 44, 3) := by decide +kernel
theorem dX2_park_110 : decode cX2_park 110 = .ok (.ifCond .gt 15, 3) := by decide +kernel
theorem dX2_park_113 : decode cX2_park 113 = .ok (.aload_n 0, 1) := by decide +kernel
theorem dX2_park_114 : decode cX2_park 114 = .ok (.getfield 10, 3) := by decide +kernel
theorem dX2_park_117 : decode cX2_park 117 = .ok (.invokevirtual 38, 3) := by decide +kernel
theorem dX2_park_120 : decode cX2_park 120 = .ok (.bipush 9, 2) := by decide +kernel
theorem dX2_park_122 : decode cX2_park 122 = .ok (.if_icmp .lt 13, 3) := by decide +kernel
theorem dX2_park_125 : decode cX2_park 125 = .ok (.new 48, 3) := by decide +kernel
theorem dX2_park_128 : decode cX2_park 128 = .ok (.dup, 1) := by decide +kernel
theorem dX2_park_129 : decode cX2_park 129 = .ok (.ldc 50, 2) := by decide +kernel
theorem dX2_park_131 : decode cX2_park 131 = .ok (.invokespecial 52, 3) := by decide +kernel
theorem dX2_park_134 : decode cX2_park 134 = .ok (.athrow, 1) := by decide +kernel
theorem dX2_park_135 : decode cX2_park 135 = .ok (.iload_n 1, 1) := by decide +kernel
theorem dX2_park_136 : decode cX2_park 136 = .ok (.iload_n 2, 1) := by decide +kernel
theorem dX2_park_137 : decode cX2_park 137 = .ok (.iload_n 3, 1) := by decide +kernel
theorem dX2_park_138 : decode cX2_park 138 = .ok (.iload 4, 2) := by decide +kernel
theorem dX2_park_140 : decode cX2_park 140 = .ok (.invokestatic 53, 3) := by decide +kernel
theorem dX2_park_143 : decode cX2_park 143 = .ok (.lstore 7, 2) := by decide +kernel
theorem dX2_park_145 : decode cX2_park 145 = .ok (.lload 7, 2) := by decide +kernel
theorem dX2_park_147 : decode cX2_park 147 = .ok (.aload_n 0, 1) := by decide +kernel
theorem dX2_park_148 : decode cX2_park 148 = .ok (.getfield 10, 3) := by decide +kernel
theorem dX2_park_151 : decode cX2_park 151 = .ok (.aload_n 0, 1) := by decide +kernel
theorem dX2_park_152 : decode cX2_park 152 = .ok (.getfield 57, 3) := by decide +kernel
theorem dX2_park_155 : decode cX2_park 155 = .ok (.invokevirtual 60, 3) := by decide +kernel
theorem dX2_park_158 : decode cX2_park 158 = .ok (.aload_n 0, 1) := by decide +kernel
theorem dX2_park_159 : decode cX2_park 159 = .ok (.getfield 10, 3) := by decide +kernel
theorem dX2_park_162 : decode cX2_park 162 = .ok (.iload_n 1, 1) := by decide +kernel
theorem dX2_park_163 : decode cX2_park 163 = .ok (.invokevirtual 64, 3) := by decide +kernel
theorem dX2_park_166 : decode cX2_park 166 = .ok (.lor, 1) := by decide +kernel
theorem dX2_park_167 : decode cX2_park 167 = .ok (.land, 1) := by decide +kernel
theorem dX2_park_168 : decode cX2_park 168 = .ok (.lconst 0, 1) := by decide +kernel
theorem dX2_park_169 : decode cX2_park 169 = .ok (.lcmp, 1) := by decide +kernel
theorem dX2_park_170 : decode cX2_park 170 = .ok (.ifCond .eq 13, 3) := by decide +kernel
theorem dX2_park_173 : decode cX2_park 173 = .ok (.new 48, 3) := by decide +kernel
theorem dX2_park_176 : decode cX2_park 176 = .ok (.dup, 1) := by decide +kernel
theorem dX2_park_177 : decode cX2_park 177 = .ok (.ldc 67, 2) := by decide +kernel
theorem dX2_park_179 : decode cX2_park 179 = .ok (.invokespecial 52, 3) := by decide +kernel
theorem dX2_park_182 : decode cX2_park 182 = .ok (.athrow, 1) := by decide +kernel
theorem dX2_park_183 : decode cX2_park 183 = .ok (.aload_n 0, 1) := by decide +kernel
theorem dX2_park_184 : decode cX2_park 184 = .ok (.getfield 10, 3) := by decide +kernel
theorem dX2_park_187 : decode cX2_park 187 = .ok (.iload_n 1, 1) := by decide +kernel
theorem dX2_park_188 : decode cX2_park 188 = .ok (.iload_n 2, 1) := by decide +kernel
theorem dX2_park_189 : decode cX2_park 189 = .ok (.iload 5, 2) := by decide +kernel
theorem dX2_park_191 : decode cX2_park 191 = .ok (.invokevirtual 69, 3) := by decide +kernel
theorem dX2_park_194 : decode cX2_park 194 = .ok (.istore 9, 2) := by decide +kernel
theorem dX2_park_196 : decode cX2_park 196 = .ok (.aload_n 0, 1) := by decide +kernel
theorem dX2_park_197 : decode cX2_park 197 = .ok (.aload_n 0, 1) := by decide +kernel
theorem dX2_park_198 : decode cX2_park 198 = .ok (.getfield 73, 3) := by decide +kernel
theorem dX2_park_201 : decode cX2_park 201 = .ok (.iload 9, 2) := by decide +kernel
theorem dX2_park_203 : decode cX2_park 203 = .ok (.iload 6, 2) := by decide +kernel
theorem dX2_park_205 : decode cX2_park 205 = .ok (.invokestatic 76, 3) := by decide +kernel
theorem dX2_park_208 : decode cX2_park 208 = .ok (.putfield 73, 3) := by decide +kernel
theorem dX2_park_211 : decode cX2_park 211 = .ok (.aload_n 0, 1) := by decide +kernel
theorem dX2_park_212 : decode cX2_park 212 = .ok (.aload_n 0, 1) := by decide +kernel
theorem dX2_park_213 : decode cX2_park 213 = .ok (.getfield 73, 3) := by decide +kernel
theorem dX2_park_216 : decode cX2_park 216 = .ok (.invokevirtual 80, 3) := by decide +kernel
theorem dX2_park_219 : decode cX2_park 219 = .ok (.iload 9, 2) := by decide +kernel
theorem dX2_park_221 : decode cX2_park 221 = .ok (.ireturn, 1) := by decide +kernel
set_option maxRecDepth 20000 in
theorem ggX2_ramp_X2_isInYard : GoodIn wsX2_ramp wsX2_isInYard := goodIn_r _ [12] (by decide +kernel) (by decide +kernel)
set_option maxRecDepth 20000 in
theorem gX2_ramp_X2_isInYard : GoodIn wsX2_ramp (va_wsS RX2 25 yX2_isInYard wsX2_isInYard) := goodIn_app (goodIn_of _ (by decide +kernel)) ggX2_ramp_X2_isInYard
set_option maxRecDepth 20000 in
theorem ggX2_ramp_X2_cellOf : GoodIn wsX2_ramp wsX2_cellOf := goodIn_r _ [15] (by decide +kernel) (by decide +kernel)
set_option maxRecDepth 20000 in
theorem gX2_ramp_X2_cellOf : GoodIn wsX2_ramp (va_wsS RX2 88 yX2_cellOf wsX2_cellOf) := goodIn_app (goodIn_of _ (by decide +kernel)) ggX2_ramp_X2_cellOf
set_option maxRecDepth 20000 in
theorem ggX2_ramp_X1_vehicleOn : GoodIn wsX2_ramp wsX1_vehicleOn := goodIn_r _ [20, 21, 22, 23, 24, 19, 25, 26, 27, 28, 29, 30, 31, 32, 11, 33, 51, 52, 53, 54, 55, 56] (by decide +kernel) (by decide +kernel)
set_option maxRecDepth 20000 in
theorem gX2_ramp_X1_vehicleOn : GoodIn wsX2_ramp (wsV RX2 92 RX1 yX1_vehicleOn wsX1_vehicleOn) := goodIn_app (goodIn_of _ (by decide +kernel)) ggX2_ramp_X1_vehicleOn
set_option maxRecDepth 20000 in
theorem ggX2_ramp_X1_isLorry : GoodIn wsX2_ramp wsX1_isLorry := goodIn_r _ [37, 38, 28, 29, 30, 19, 31, 21, 51, 52, 53, 54, 55, 56] (by decide +kernel) (by decide +kernel)
set_option maxRecDepth 20000 in
theorem gX2_ramp_X1_isLorry : GoodIn wsX2_ramp (wsV RX2 96 RX1 yX1_isLorry wsX1_isLorry) := goodIn_app (goodIn_of _ (by decide +kernel)) ggX2_ramp_X1_isLorry
set_option maxRecDepth 20000 in
theorem ggX2_ramp_X1_putRamp : GoodIn wsX2_ramp wsX1_putRamp := goodIn_r _ [42, 43, 51, 52, 53, 54, 55, 56] (by decide +kernel) (by decide +kernel)
set_option maxRecDepth 20000 in
theorem gX2_ramp_X1_putRamp : GoodIn wsX2_ramp (wsV RX2 102 RX1 yX1_putRamp wsX1_putRamp) := goodIn_app (goodIn_of _ (by decide +kernel)) ggX2_ramp_X1_putRamp
theorem dX2_ramp_0 : decode cX2_ramp 0 = .ok (.iload_n 1, 1) := by decide +kernel
theorem dX2_ramp_1 : decode cX2_ramp 1 = .ok (.iload_n 2, 1) := by decide +kernel
theorem dX2_ramp_2 : decode cX2_ramp 2 = .ok (.invokestatic 25, 3) := by decide +kernel
theorem dX2_ramp_5 : decode cX2_ramp 5 = .ok (.ifCond .ne 13, 3) := by decide +kernel
theorem dX2_ramp_8 : decode cX2_ramp 8 = .ok (.new 29, 3) := by decide +kernel
theorem dX2_ramp_11 : decode cX2_ramp 11 = .ok (.dup, 1) := by decide +kernel
theorem dX2_ramp_12 : decode cX2_ramp 12 = .ok (.ldc 84, 2) := by decide +kernel
theorem dX2_ramp_14 : decode cX2_ramp 14 = .ok (.invokespecial 33, 3) := by decide +kernel
theorem dX2_ramp_17 : decode cX2_ramp 17 = .ok (.athrow, 1) := by decide +kernel
theorem dX2_ramp_18 : decode cX2_ramp 18 = .ok (.aload_n 0, 1) := by decide +kernel
theorem dX2_ramp_19 : decode cX2_ramp 19 = .ok (.getfield 44, 3) := by decide +kernel
theorem dX2_ramp_22 : decode cX2_ramp 22 = .ok (.ifCond .le 13, 3) := by decide +kernel
theorem dX2_ramp_25 : decode cX2_ramp 25 = .ok (.new 48, 3) := by decide +kernel
theorem dX2_ramp_28 : decode cX2_ramp 28 = .ok (.dup, 1) := by decide +kernel
theorem dX2_ramp_29 : decode cX2_ramp 29 = .ok (.ldc 86, 2) := by decide +kernel
theorem dX2_ramp_31 : decode cX2_ramp 31 = .ok (.invokespecial 52, 3) := by decide +kernel
theorem dX2_ramp_34 : decode cX2_ramp 34 = .ok (.athrow, 1) := by decide +kernel
theorem dX2_ramp_35 : decode cX2_ramp 35 = .ok (.iload_n 1, 1) := by decide +kernel
theorem dX2_ramp_36 : decode cX2_ramp 36 = .ok (.iload_n 2, 1) := by decide +kernel
theorem dX2_ramp_37 : decode cX2_ramp 37 = .ok (.invokestatic 88, 3) := by decide +kernel
theorem dX2_ramp_40 : decode cX2_ramp 40 = .ok (.lstore_n 3, 1) := by decide +kernel
theorem dX2_ramp_41 : decode cX2_ramp 41 = .ok (.aload_n 0, 1) := by decide +kernel
theorem dX2_ramp_42 : decode cX2_ramp 42 = .ok (.getfield 10, 3) := by decide +kernel
theorem dX2_ramp_45 : decode cX2_ramp 45 = .ok (.aload_n 0, 1) := by decide +kernel
theorem dX2_ramp_46 : decode cX2_ramp 46 = .ok (.getfield 10, 3) := by decide +kernel
theorem dX2_ramp_49 : decode cX2_ramp 49 = .ok (.aload_n 0, 1) := by decide +kernel
theorem dX2_ramp_50 : decode cX2_ramp 50 = .ok (.getfield 57, 3) := by decide +kernel
theorem dX2_ramp_53 : decode cX2_ramp 53 = .ok (.lload_n 3, 1) := by decide +kernel
theorem dX2_ramp_54 : decode cX2_ramp 54 = .ok (.invokevirtual 92, 3) := by decide +kernel
theorem dX2_ramp_57 : decode cX2_ramp 57 = .ok (.invokevirtual 96, 3) := by decide +kernel
theorem dX2_ramp_60 : decode cX2_ramp 60 = .ok (.ifCond .eq 13, 3) := by decide +kernel
theorem dX2_ramp_63 : decode cX2_ramp 63 = .ok (.new 48, 3) := by decide +kernel
theorem dX2_ramp_66 : decode cX2_ramp 66 = .ok (.dup, 1) := by decide +kernel
theorem dX2_ramp_67 : decode cX2_ramp 67 = .ok (.ldc 100, 2) := by decide +kernel
theorem dX2_ramp_69 : decode cX2_ramp 69 = .ok (.invokespecial 52, 3) := by decide +kernel
theorem dX2_ramp_72 : decode cX2_ramp 72 = .ok (.athrow, 1) := by decide +kernel
theorem dX2_ramp_73 : decode cX2_ramp 73 = .ok (.aload_n 0, 1) := by decide +kernel
theorem dX2_ramp_74 : decode cX2_ramp 74 = .ok (.getfield 10, 3) := by decide +kernel
theorem dX2_ramp_77 : decode cX2_ramp 77 = .ok (.lload_n 3, 1) := by decide +kernel
theorem dX2_ramp_78 : decode cX2_ramp 78 = .ok (.invokevirtual 102, 3) := by decide +kernel
theorem dX2_ramp_81 : decode cX2_ramp 81 = .ok (.aload_n 0, 1) := by decide +kernel
theorem dX2_ramp_82 : decode cX2_ramp 82 = .ok (.iconst 0, 1) := by decide +kernel
theorem dX2_ramp_83 : decode cX2_ramp 83 = .ok (.putfield 106, 3) := by decide +kernel
theorem dX2_ramp_86 : decode cX2_ramp 86 = .ok (.return_, 1) := by decide +kernel
set_option maxRecDepth 20000 in
theorem ggX2_drive_X1_has : GoodIn wsX2_drive wsX1_has := goodIn_r _ [16, 17, 69, 70, 71, 72, 73, 74] (by decide +kernel) (by decide +kernel)
set_option maxRecDepth 20000 in
theorem gX2_drive_X1_has : GoodIn wsX2_drive (wsV RX2 110 RX1 yX1_has wsX1_has) := goodIn_app (goodIn_of _ (by decide +kernel)) ggX2_drive_X1_has
set_option maxRecDepth 20000 in
theorem ggX2_drive_X2_wayNow : GoodIn wsX2_drive wsX2_wayNow := goodIn_r _ [22, 7, 23, 24, 25, 26, 15, 27, 17, 28, 29, 30, 31, 32, 33, 34, 13, 14, 16, 35, 21, 36, 37, 38, 39, 40, 41, 42, 43, 44, 45, 46, 47, 62, 63, 64, 65, 66, 67, 68, 69, 70, 71, 72, 73, 74] (by decide +kernel) (by decide +kernel)
set_option maxRecDepth 20000 in
theorem gX2_drive_X2_wayNow : GoodIn wsX2_drive (wsV RX2 126 RX2 yX2_wayNow wsX2_wayNow) := goodIn_app (goodIn_of _ (by decide +kernel)) ggX2_drive_X2_wayNow
set_option maxRecDepth 20000 in
theorem ggX2_drive_X2_makeMove : GoodIn wsX2_drive wsX2_makeMove := goodIn_r _ [51, 23, 52, 53, 8, 9, 10, 11, 54, 55, 21, 56, 57, 58, 59, 60, 61, 62, 63, 64, 65, 66, 67, 68] (by decide +kernel) (by decide +kernel)
set_option maxRecDepth 20000 in
theorem gX2_drive_X2_makeMove : GoodIn wsX2_drive (wsV RX2 132 RX2 yX2_makeMove wsX2_makeMove) := goodIn_app (goodIn_of _ (by decide +kernel)) ggX2_drive_X2_makeMove
theorem dX2_drive_0 : decode cX2_drive 0 = .ok (.aload_n 0, 1) := by decide +kernel
theorem dX2_drive_1 : decode cX2_drive 1 = .ok (.getfield 10, 3) := by decide +kernel
theorem dX2_drive_4 : decode cX2_drive 4 = .ok (.iload_n 1, 1) := by decide +kernel
theorem dX2_drive_5 : decode cX2_drive 5 = .ok (.invokevirtual 110, 3) := by decide +kernel
theorem dX2_drive_8 : decode cX2_drive 8 = .ok (.ifCond .ne 13, 3) := by decide +kernel
theorem dX2_drive_11 : decode cX2_drive 11 = .ok (.new 113, 3) := by decide +kernel
theorem dX2_drive_14 : decode cX2_drive 14 = .ok (.dup, 1) := by decide +kernel
theorem dX2_drive_15 : decode cX2_drive 15 = .ok (.ldc 115, 2) := by decide +kernel
theorem dX2_drive_17 : decode cX2_drive 17 = .ok (.invokespecial 117, 3) := by decide +kernel
theorem dX2_drive_20 : decode cX2_drive 20 = .ok (.athrow, 1) := by decide +kernel
theorem dX2_drive_21 : decode cX2_drive 21 = .ok (.iload_n 2, 1) := by decide +kernel
theorem dX2_drive_22 : decode cX2_drive 22 = .ok (.bipush (-4), 2) := by decide +kernel
theorem dX2_drive_24 : decode cX2_drive 24 = .ok (.if_icmp .lt 12, 3) := by decide +kernel
theorem dX2_drive_27 : decode cX2_drive 27 = .ok (.iload_n 2, 1) := by decide +kernel
theorem dX2_drive_28 : decode cX2_drive 28 = .ok (.iconst 4, 1) := by decide +kernel
theorem dX2_drive_29 : decode cX2_drive 29 = .ok (.if_icmp .gt 7, 3) := by decide +kernel
theorem dX2_drive_32 : decode cX2_drive 32 = .ok (.iload_n 2, 1) := by decide +kernel
theorem dX2_drive_33 : decode cX2_drive 33 = .ok (.ifCond .ne 13, 3) := by decide +kernel
theorem dX2_drive_36 : decode cX2_drive 36 = .ok (.new 29, 3) := by decide +kernel
theorem dX2_drive_39 : decode cX2_drive 39 = .ok (.dup, 1) := by decide +kernel
theorem dX2_drive_40 : decode cX2_drive 40 = .ok (.ldc 118, 2) := by decide +kernel
theorem dX2_drive_42 : decode cX2_drive 42 = .ok (.invokespecial 33, 3) := by decide +kernel
theorem dX2_drive_45 : decode cX2_drive 45 = .ok (.athrow, 1) := by decide +kernel
theorem dX2_drive_46 : decode cX2_drive 46 = .ok (.iload_n 2, 1) := by decide +kernel
theorem dX2_drive_47 : decode cX2_drive 47 = .ok (.invokestatic 120, 3) := by decide +kernel
theorem dX2_drive_50 : decode cX2_drive 50 = .ok (.aload_n 0, 1) := by decide +kernel
theorem dX2_drive_51 : decode cX2_drive 51 = .ok (.iload_n 1, 1) := by decide +kernel
theorem dX2_drive_52 : decode cX2_drive 52 = .ok (.iload_n 2, 1) := by decide +kernel
theorem dX2_drive_53 : decode cX2_drive 53 = .ok (.ifCond .le 7, 3) := by decide +kernel
theorem dX2_drive_56 : decode cX2_drive 56 = .ok (.iconst 1, 1) := by decide +kernel
theorem dX2_drive_57 : decode cX2_drive 57 = .ok (.goto 4, 3) := by decide +kernel
theorem dX2_drive_60 : decode cX2_drive 60 = .ok (.iconst 0, 1) := by decide +kernel
theorem dX2_drive_61 : decode cX2_drive 61 = .ok (.invokevirtual 126, 3) := by decide +kernel
theorem dX2_drive_64 : decode cX2_drive 64 = .ok (.if_icmp .le 13, 3) := by decide +kernel
theorem dX2_drive_67 : decode cX2_drive 67 = .ok (.new 48, 3) := by decide +kernel
theorem dX2_drive_70 : decode cX2_drive 70 = .ok (.dup, 1) := by decide +kernel
theorem dX2_drive_71 : decode cX2_drive 71 = .ok (.ldc 130, 2) := by decide +kernel
theorem dX2_drive_73 : decode cX2_drive 73 = .ok (.invokespecial 52, 3) := by decide +kernel
theorem dX2_drive_76 : decode cX2_drive 76 = .ok (.athrow, 1) := by decide +kernel
theorem dX2_drive_77 : decode cX2_drive 77 = .ok (.aload_n 0, 1) := by decide +kernel
theorem dX2_drive_78 : decode cX2_drive 78 = .ok (.iload_n 1, 1) := by decide +kernel
theorem dX2_drive_79 : decode cX2_drive 79 = .ok (.iload_n 2, 1) := by decide +kernel
theorem dX2_drive_80 : decode cX2_drive 80 = .ok (.invokevirtual 132, 3) := by decide +kernel
theorem dX2_drive_83 : decode cX2_drive 83 = .ok (.return_, 1) := by decide +kernel
set_option maxRecDepth 20000 in
theorem ggX2_driveOn_X1_has : GoodIn wsX2_driveOn wsX1_has := goodIn_r _ [8, 9, 65, 66, 67, 68, 69, 70] (by decide +kernel) (by decide +kernel)
set_option maxRecDepth 20000 in
theorem gX2_driveOn_X1_has : GoodIn wsX2_driveOn (wsV RX2 110 RX1 yX1_has wsX1_has) := goodIn_app (goodIn_of _ (by decide +kernel)) ggX2_driveOn_X1_has
set_option maxRecDepth 20000 in
theorem ggX2_driveOn_X2_wayNow : GoodIn wsX2_driveOn wsX2_wayNow := goodIn_r _ [14, 3, 15, 16, 17, 18, 7, 19, 9, 20, 21, 22, 23, 24, 25, 26, 5, 6, 8, 27, 13, 28, 29, 30, 31, 32, 33, 34, 35, 36, 37, 38, 39, 58, 59, 60, 61, 62, 63, 64, 65, 66, 67, 68, 69, 70] (by decide +kernel) (by decide +kernel)
set_option maxRecDepth 20000 in
theorem gX2_driveOn_X2_wayNow : GoodIn wsX2_driveOn (wsV RX2 126 RX2 yX2_wayNow wsX2_wayNow) := goodIn_app (goodIn_of _ (by decide +kernel)) ggX2_driveOn_X2_wayNow
set_option maxRecDepth 20000 in
theorem ggX2_driveOn_X2_makeMove : GoodIn wsX2_driveOn wsX2_makeMove := goodIn_r _ [43, 15, 44, 45, 46, 47, 48, 49, 50, 51, 13, 52, 53, 54, 55, 56, 57, 58, 59, 60, 61, 62, 63, 64] (by decide +kernel) (by decide +kernel)
set_option maxRecDepth 20000 in
theorem gX2_driveOn_X2_makeMove : GoodIn wsX2_driveOn (wsV RX2 132 RX2 yX2_makeMove wsX2_makeMove) := goodIn_app (goodIn_of _ (by decide +kernel)) ggX2_driveOn_X2_makeMove
theorem dX2_driveOn_0 : decode cX2_driveOn 0 = .ok (.aload_n 0, 1) := by decide +kernel
theorem dX2_driveOn_1 : decode cX2_driveOn 1 = .ok (.getfield 10, 3) := by decide +kernel
theorem dX2_driveOn_4 : decode cX2_driveOn 4 = .ok (.iload_n 1, 1) := by decide +kernel
theorem dX2_driveOn_5 : decode cX2_driveOn 5 = .ok (.invokevirtual 110, 3) := by decide +kernel
theorem dX2_driveOn_8 : decode cX2_driveOn 8 = .ok (.ifCond .ne 13, 3) := by decide +kernel
theorem dX2_driveOn_11 : decode cX2_driveOn 11 = .ok (.new 113, 3) := by decide +kernel
theorem dX2_driveOn_14 : decode cX2_driveOn 14 = .ok (.dup, 1) := by decide +kernel
theorem dX2_driveOn_15 : decode cX2_driveOn 15 = .ok (.ldc 115, 2) := by decide +kernel
theorem dX2_driveOn_17 : decode cX2_driveOn 17 = .ok (.invokespecial 117, 3) := by decide +kernel
theorem dX2_driveOn_20 : decode cX2_driveOn 20 = .ok (.athrow, 1) := by decide +kernel
theorem dX2_driveOn_21 : decode cX2_driveOn 21 = .ok (.aload_n 0, 1) := by decide +kernel
theorem dX2_driveOn_22 : decode cX2_driveOn 22 = .ok (.iload_n 1, 1) := by decide +kernel
theorem dX2_driveOn_23 : decode cX2_driveOn 23 = .ok (.iload_n 2, 1) := by decide +kernel
theorem dX2_driveOn_24 : decode cX2_driveOn 24 = .ok (.invokevirtual 126, 3) := by decide +kernel
theorem dX2_driveOn_27 : decode cX2_driveOn 27 = .ok (.istore_n 3, 1) := by decide +kernel
theorem dX2_driveOn_28 : decode cX2_driveOn 28 = .ok (.iload_n 3, 1) := by decide +kernel
theorem dX2_driveOn_29 : decode cX2_driveOn 29 = .ok (.ifCond .le 18, 3) := by decide +kernel
theorem dX2_driveOn_32 : decode cX2_driveOn 32 = .ok (.aload_n 0, 1) := by decide +kernel
theorem dX2_driveOn_33 : decode cX2_driveOn 33 = .ok (.iload_n 1, 1) := by decide +kernel
theorem dX2_driveOn_34 : decode cX2_driveOn 34 = .ok (.iload_n 2, 1) := by decide +kernel
theorem dX2_driveOn_35 : decode cX2_driveOn 35 = .ok (.ifCond .eq 7, 3) := by decide +kernel
theorem dX2_driveOn_38 : decode cX2_driveOn 38 = .ok (.iload_n 3, 1) := by decide +kernel
theorem dX2_driveOn_39 : decode cX2_driveOn 39 = .ok (.goto 5, 3) := by decide +kernel
theorem dX2_driveOn_42 : decode cX2_driveOn 42 = .ok (.iload_n 3, 1) := by decide +kernel
theorem dX2_driveOn_43 : decode cX2_driveOn 43 = .ok (.ineg, 1) := by decide +kernel
theorem dX2_driveOn_44 : decode cX2_driveOn 44 = .ok (.invokevirtual 132, 3) := by decide +kernel
theorem dX2_driveOn_47 : decode cX2_driveOn 47 = .ok (.iload_n 3, 1) := by decide +kernel
theorem dX2_driveOn_48 : decode cX2_driveOn 48 = .ok (.ireturn, 1) := by decide +kernel
set_option maxRecDepth 20000 in
theorem ggX2_restart_X2_standAt : GoodIn wsX2_restart wsX2_standAt := goodIn_r _ [8, 9, 10, 11, 12, 13, 14, 15, 16, 17] (by decide +kernel) (by decide +kernel)
set_option maxRecDepth 20000 in
theorem gX2_restart_X2_standAt : GoodIn wsX2_restart (wsV RX2 80 RX2 yX2_standAt wsX2_standAt) := goodIn_app (goodIn_of _ (by decide +kernel)) ggX2_restart_X2_standAt
theorem dX2_restart_0 : decode cX2_restart 0 = .ok (.aload_n 0, 1) := by decide +kernel
theorem dX2_restart_1 : decode cX2_restart 1 = .ok (.aload_n 0, 1) := by decide +kernel
theorem dX2_restart_2 : decode cX2_restart 2 = .ok (.getfield 73, 3) := by decide +kernel
theorem dX2_restart_5 : decode cX2_restart 5 = .ok (.invokevirtual 80, 3) := by decide +kernel
theorem dX2_restart_8 : decode cX2_restart 8 = .ok (.aload_n 0, 1) := by decide +kernel
theorem dX2_restart_9 : decode cX2_restart 9 = .ok (.iconst 0, 1) := by decide +kernel
theorem dX2_restart_10 : decode cX2_restart 10 = .ok (.putfield 44, 3) := by decide +kernel
theorem dX2_restart_13 : decode cX2_restart 13 = .ok (.aload_n 0, 1) := by decide +kernel
theorem dX2_restart_14 : decode cX2_restart 14 = .ok (.iconst 0, 1) := by decide +kernel
theorem dX2_restart_15 : decode cX2_restart 15 = .ok (.putfield 136, 3) := by decide +kernel
theorem dX2_restart_18 : decode cX2_restart 18 = .ok (.return_, 1) := by decide +kernel
set_option maxRecDepth 20000 in
theorem ggX2_vehicles_X1_count : GoodIn wsX2_vehicles wsX1_count := goodIn_r _ [6, 7, 15, 16, 17, 18, 19, 20] (by decide +kernel) (by decide +kernel)
set_option maxRecDepth 20000 in
theorem gX2_vehicles_X1_count : GoodIn wsX2_vehicles (wsV RX2 38 RX1 yX1_count wsX1_count) := goodIn_app (goodIn_of _ (by decide +kernel)) ggX2_vehicles_X1_count
theorem dX2_vehicles_0 : decode cX2_vehicles 0 = .ok (.aload_n 0, 1) := by decide +kernel
theorem dX2_vehicles_1 : decode cX2_vehicles 1 = .ok (.getfield 10, 3) := by decide +kernel
theorem dX2_vehicles_4 : decode cX2_vehicles 4 = .ok (.invokevirtual 38, 3) := by decide +kernel
theorem dX2_vehicles_7 : decode cX2_vehicles 7 = .ok (.ireturn, 1) := by decide +kernel
set_option maxRecDepth 20000 in
theorem ggX2_rowOf_X1_has : GoodIn wsX2_rowOf wsX1_has := goodIn_r _ [9, 10, 33, 34, 35, 36, 37, 38] (by decide +kernel) (by decide +kernel)
set_option maxRecDepth 20000 in
theorem gX2_rowOf_X1_has : GoodIn wsX2_rowOf (wsV RX2 110 RX1 yX1_has wsX1_has) := goodIn_app (goodIn_of _ (by decide +kernel)) ggX2_rowOf_X1_has
set_option maxRecDepth 20000 in
theorem ggX2_rowOf_X1_standsAcross : GoodIn wsX2_rowOf wsX1_standsAcross := goodIn_r _ [14, 15, 16, 6, 7, 8, 9, 10, 33, 34, 35, 36, 37, 38] (by decide +kernel) (by decide +kernel)
set_option maxRecDepth 20000 in
theorem gX2_rowOf_X1_standsAcross : GoodIn wsX2_rowOf (wsV RX2 139 RX1 yX1_standsAcross wsX1_standsAcross) := goodIn_app (goodIn_of _ (by decide +kernel)) ggX2_rowOf_X1_standsAcross
set_option maxRecDepth 20000 in
theorem ggX2_rowOf_X1_lineOf : GoodIn wsX2_rowOf wsX1_lineOf := goodIn_r _ [20, 21, 16, 6, 7, 8, 9, 10, 33, 34, 35, 36, 37, 38] (by decide +kernel) (by decide +kernel)
set_option maxRecDepth 20000 in
theorem gX2_rowOf_X1_lineOf : GoodIn wsX2_rowOf (wsV RX2 142 RX1 yX1_lineOf wsX1_lineOf) := goodIn_app (goodIn_of _ (by decide +kernel)) ggX2_rowOf_X1_lineOf
set_option maxRecDepth 20000 in
theorem ggX2_rowOf_X2_placeIn : GoodIn wsX2_rowOf wsX2_placeIn := goodIn_r _ [25] (by decide +kernel) (by decide +kernel)
set_option maxRecDepth 20000 in
theorem gX2_rowOf_X2_placeIn : GoodIn wsX2_rowOf (va_wsS RX2 145 yX2_placeIn wsX2_placeIn) := goodIn_app (goodIn_of _ (by decide +kernel)) ggX2_rowOf_X2_placeIn
theorem dX2_rowOf_0 : decode cX2_rowOf 0 = .ok (.aload_n 0, 1) := by decide +kernel
theorem dX2_rowOf_1 : decode cX2_rowOf 1 = .ok (.getfield 10, 3) := by decide +kernel
theorem dX2_rowOf_4 : decode cX2_rowOf 4 = .ok (.iload_n 1, 1) := by decide +kernel
theorem dX2_rowOf_5 : decode cX2_rowOf 5 = .ok (.invokevirtual 110, 3) := by decide +kernel
theorem dX2_rowOf_8 : decode cX2_rowOf 8 = .ok (.ifCond .ne 13, 3) := by decide +kernel
theorem dX2_rowOf_11 : decode cX2_rowOf 11 = .ok (.new 113, 3) := by decide +kernel
theorem dX2_rowOf_14 : decode cX2_rowOf 14 = .ok (.dup, 1) := by decide +kernel
theorem dX2_rowOf_15 : decode cX2_rowOf 15 = .ok (.ldc 115, 2) := by decide +kernel
theorem dX2_rowOf_17 : decode cX2_rowOf 17 = .ok (.invokespecial 117, 3) := by decide +kernel
theorem dX2_rowOf_20 : decode cX2_rowOf 20 = .ok (.athrow, 1) := by decide +kernel
theorem dX2_rowOf_21 : decode cX2_rowOf 21 = .ok (.aload_n 0, 1) := by decide +kernel
theorem dX2_rowOf_22 : decode cX2_rowOf 22 = .ok (.getfield 10, 3) := by decide +kernel
theorem dX2_rowOf_25 : decode cX2_rowOf 25 = .ok (.iload_n 1, 1) := by decide +kernel
theorem dX2_rowOf_26 : decode cX2_rowOf 26 = .ok (.invokevirtual 139, 3) := by decide +kernel
theorem dX2_rowOf_29 : decode cX2_rowOf 29 = .ok (.ifCond .eq 14, 3) := by decide +kernel
theorem dX2_rowOf_32 : decode cX2_rowOf 32 = .ok (.aload_n 0, 1) := by decide +kernel
theorem dX2_rowOf_33 : decode cX2_rowOf 33 = .ok (.getfield 10, 3) := by decide +kernel
theorem dX2_rowOf_36 : decode cX2_rowOf 36 = .ok (.iload_n 1, 1) := by decide +kernel
theorem dX2_rowOf_37 : decode cX2_rowOf 37 = .ok (.invokevirtual 142, 3) := by decide +kernel
theorem dX2_rowOf_40 : decode cX2_rowOf 40 = .ok (.goto 11, 3) := by decide +kernel
theorem dX2_rowOf_43 : decode cX2_rowOf 43 = .ok (.aload_n 0, 1) := by decide +kernel
theorem dX2_rowOf_44 : decode cX2_rowOf 44 = .ok (.getfield 57, 3) := by decide +kernel
theorem dX2_rowOf_47 : decode cX2_rowOf 47 = .ok (.iload_n 1, 1) := by decide +kernel
theorem dX2_rowOf_48 : decode cX2_rowOf 48 = .ok (.invokestatic 145, 3) := by decide +kernel
theorem dX2_rowOf_51 : decode cX2_rowOf 51 = .ok (.ireturn, 1) := by decide +kernel
set_option maxRecDepth 20000 in
theorem ggX2_columnOf_X1_has : GoodIn wsX2_columnOf wsX1_has := goodIn_r _ [9, 10, 33, 34, 35, 36, 37, 38] (by decide +kernel) (by decide +kernel)
set_option maxRecDepth 20000 in
theorem gX2_columnOf_X1_has : GoodIn wsX2_columnOf (wsV RX2 110 RX1 yX1_has wsX1_has) := goodIn_app (goodIn_of _ (by decide +kernel)) ggX2_columnOf_X1_has
set_option maxRecDepth 20000 in
theorem ggX2_columnOf_X1_standsAcross : GoodIn wsX2_columnOf wsX1_standsAcross := goodIn_r _ [14, 15, 16, 6, 7, 8, 9, 10, 33, 34, 35, 36, 37, 38] (by decide +kernel) (by decide +kernel)
set_option maxRecDepth 20000 in
theorem gX2_columnOf_X1_standsAcross : GoodIn wsX2_columnOf (wsV RX2 139 RX1 yX1_standsAcross wsX1_standsAcross) := goodIn_app (goodIn_of _ (by decide +kernel)) ggX2_columnOf_X1_standsAcross
set_option maxRecDepth 20000 in
theorem ggX2_columnOf_X2_placeIn : GoodIn wsX2_columnOf wsX2_placeIn := goodIn_r _ [20] (by decide +kernel) (by decide +kernel)
set_option maxRecDepth 20000 in
theorem gX2_columnOf_X2_placeIn : GoodIn wsX2_columnOf (va_wsS RX2 145 yX2_placeIn wsX2_placeIn) := goodIn_app (goodIn_of _ (by decide +kernel)) ggX2_columnOf_X2_placeIn
set_option maxRecDepth 20000 in
theorem ggX2_columnOf_X1_lineOf : GoodIn wsX2_columnOf wsX1_lineOf := goodIn_r _ [24, 25, 16, 6, 7, 8, 9, 10, 33, 34, 35, 36, 37, 38] (by decide +kernel) (by decide +kernel)
set_option maxRecDepth 20000 in
theorem gX2_columnOf_X1_lineOf : GoodIn wsX2_columnOf (wsV RX2 142 RX1 yX1_lineOf wsX1_lineOf) := goodIn_app (goodIn_of _ (by decide +kernel)) ggX2_columnOf_X1_lineOf
theorem dX2_columnOf_0 : decode cX2_columnOf 0 = .ok (.aload_n 0, 1) := by decide +kernel
theorem dX2_columnOf_1 : decode cX2_columnOf 1 = .ok (.getfield 10, 3) := by decide +kernel
theorem dX2_columnOf_4 : decode cX2_columnOf 4 = .ok (.iload_n 1, 1) := by decide +kernel
theorem dX2_columnOf_5 : decode cX2_columnOf 5 = .ok (.invokevirtual 110, 3) := by decide +kernel
theorem dX2_columnOf_8 : decode cX2_columnOf 8 = .ok (.ifCond .ne 13, 3) := by decide +kernel
theorem dX2_columnOf_11 : decode cX2_columnOf 11 = .ok (.new 113, 3) := by decide +kernel
theorem dX2_columnOf_14 : decode cX2_columnOf 14 = .ok (.dup, 1) := by decide +kernel
theorem dX2_columnOf_15 : decode cX2_columnOf 15 = .ok (.ldc 115, 2) := by decide +kernel
theorem dX2_columnOf_17 : decode cX2_columnOf 17 = .ok (.invokespecial 117, 3) := by decide +kernel
theorem dX2_columnOf_20 : decode cX2_columnOf 20 = .ok (.athrow, 1) := by decide +kernel
theorem dX2_columnOf_21 : decode cX2_columnOf 21 = .ok (.aload_n 0, 1) := by decide +kernel
theorem dX2_columnOf_22 : decode cX2_columnOf 22 = .ok (.getfield 10, 3) := by decide +kernel
theorem dX2_columnOf_25 : decode cX2_columnOf 25 = .ok (.iload_n 1, 1) := by decide +kernel
theorem dX2_columnOf_26 : decode cX2_columnOf 26 = .ok (.invokevirtual 139, 3) := by decide +kernel
theorem dX2_columnOf_29 : decode cX2_columnOf 29 = .ok (.ifCond .eq 14, 3) := by decide +kernel
theorem dX2_columnOf_32 : decode cX2_columnOf 32 = .ok (.aload_n 0, 1) := by decide +kernel
theorem dX2_columnOf_33 : decode cX2_columnOf 33 = .ok (.getfield 57, 3) := by decide +kernel
theorem dX2_columnOf_36 : decode cX2_columnOf 36 = .ok (.iload_n 1, 1) := by decide +kernel
theorem dX2_columnOf_37 : decode cX2_columnOf 37 = .ok (.invokestatic 145, 3) := by decide +kernel
theorem dX2_columnOf_40 : decode cX2_columnOf 40 = .ok (.goto 11, 3) := by decide +kernel
theorem dX2_columnOf_43 : decode cX2_columnOf 43 = .ok (.aload_n 0, 1) := by decide +kernel
theorem dX2_columnOf_44 : decode cX2_columnOf 44 = .ok (.getfield 10, 3) := by decide +kernel
theorem dX2_columnOf_47 : decode cX2_columnOf 47 = .ok (.iload_n 1, 1) := by decide +kernel
theorem dX2_columnOf_48 : decode cX2_columnOf 48 = .ok (.invokevirtual 142, 3) := by decide +kernel
theorem dX2_columnOf_51 : decode cX2_columnOf 51 = .ok (.ireturn, 1) := by decide +kernel
set_option maxRecDepth 20000 in
theorem ggX2_at_X2_isInYard : GoodIn wsX2_at wsX2_isInYard := goodIn_r _ [8] (by decide +kernel) (by decide +kernel)
set_option maxRecDepth 20000 in
theorem gX2_at_X2_isInYard : GoodIn wsX2_at (va_wsS RX2 25 yX2_isInYard wsX2_isInYard) := goodIn_app (goodIn_of _ (by decide +kernel)) ggX2_at_X2_isInYard
set_option maxRecDepth 20000 in
theorem ggX2_at_X2_cellOf : GoodIn wsX2_at wsX2_cellOf := goodIn_r _ [11] (by decide +kernel) (by decide +kernel)
set_option maxRecDepth 20000 in
theorem gX2_at_X2_cellOf : GoodIn wsX2_at (va_wsS RX2 88 yX2_cellOf wsX2_cellOf) := goodIn_app (goodIn_of _ (by decide +kernel)) ggX2_at_X2_cellOf
set_option maxRecDepth 20000 in
theorem ggX2_at_X1_vehicleOn : GoodIn wsX2_at wsX1_vehicleOn := goodIn_r _ [16, 17, 18, 19, 20, 15, 21, 22, 23, 24, 25, 26, 27, 28, 7, 29, 37, 38, 39, 40, 41, 42] (by decide +kernel) (by decide +kernel)
set_option maxRecDepth 20000 in
theorem gX2_at_X1_vehicleOn : GoodIn wsX2_at (wsV RX2 92 RX1 yX1_vehicleOn wsX1_vehicleOn) := goodIn_app (goodIn_of _ (by decide +kernel)) ggX2_at_X1_vehicleOn
theorem dX2_at_0 : decode cX2_at 0 = .ok (.iload_n 1, 1) := by decide +kernel
theorem dX2_at_1 : decode cX2_at 1 = .ok (.iload_n 2, 1) := by decide +kernel
theorem dX2_at_2 : decode cX2_at 2 = .ok (.invokestatic 25, 3) := by decide +kernel
theorem dX2_at_5 : decode cX2_at 5 = .ok (.ifCond .ne 13, 3) := by decide +kernel
theorem dX2_at_8 : decode cX2_at 8 = .ok (.new 29, 3) := by decide +kernel
theorem dX2_at_11 : decode cX2_at 11 = .ok (.dup, 1) := by decide +kernel
theorem dX2_at_12 : decode cX2_at 12 = .ok (.ldc 84, 2) := by decide +kernel
theorem dX2_at_14 : decode cX2_at 14 = .ok (.invokespecial 33, 3) := by decide +kernel
theorem dX2_at_17 : decode cX2_at 17 = .ok (.athrow, 1) := by decide +kernel
theorem dX2_at_18 : decode cX2_at 18 = .ok (.aload_n 0, 1) := by decide +kernel
theorem dX2_at_19 : decode cX2_at 19 = .ok (.getfield 10, 3) := by decide +kernel
theorem dX2_at_22 : decode cX2_at 22 = .ok (.aload_n 0, 1) := by decide +kernel
theorem dX2_at_23 : decode cX2_at 23 = .ok (.getfield 57, 3) := by decide +kernel
theorem dX2_at_26 : decode cX2_at 26 = .ok (.iload_n 1, 1) := by decide +kernel
theorem dX2_at_27 : decode cX2_at 27 = .ok (.iload_n 2, 1) := by decide +kernel
theorem dX2_at_28 : decode cX2_at 28 = .ok (.invokestatic 88, 3) := by decide +kernel
theorem dX2_at_31 : decode cX2_at 31 = .ok (.invokevirtual 92, 3) := by decide +kernel
theorem dX2_at_34 : decode cX2_at 34 = .ok (.ireturn, 1) := by decide +kernel
set_option maxRecDepth 20000 in
theorem ggX2_freeWay_X1_has : GoodIn wsX2_freeWay wsX1_has := goodIn_r _ [8, 9, 47, 48, 49, 50, 51, 52] (by decide +kernel) (by decide +kernel)
set_option maxRecDepth 20000 in
theorem gX2_freeWay_X1_has : GoodIn wsX2_freeWay (wsV RX2 110 RX1 yX1_has wsX1_has) := goodIn_app (goodIn_of _ (by decide +kernel)) ggX2_freeWay_X1_has
set_option maxRecDepth 20000 in
theorem ggX2_freeWay_X2_wayNow : GoodIn wsX2_freeWay wsX2_wayNow := goodIn_r _ [14, 3, 15, 16, 17, 18, 7, 19, 9, 20, 21, 22, 23, 24, 25, 26, 5, 6, 8, 27, 13, 28, 29, 30, 31, 32, 33, 34, 35, 36, 37, 38, 39, 40, 41, 42, 43, 44, 45, 46, 47, 48, 49, 50, 51, 52] (by decide +kernel) (by decide +kernel)
set_option maxRecDepth 20000 in
theorem gX2_freeWay_X2_wayNow : GoodIn wsX2_freeWay (wsV RX2 126 RX2 yX2_wayNow wsX2_wayNow) := goodIn_app (goodIn_of _ (by decide +kernel)) ggX2_freeWay_X2_wayNow
theorem dX2_freeWay_0 : decode cX2_freeWay 0 = .ok (.aload_n 0, 1) := by decide +kernel
theorem dX2_freeWay_1 : decode cX2_freeWay 1 = .ok (.getfield 10, 3) := by decide +kernel
theorem dX2_freeWay_4 : decode cX2_freeWay 4 = .ok (.iload_n 1, 1) := by decide +kernel
theorem dX2_freeWay_5 : decode cX2_freeWay 5 = .ok (.invokevirtual 110, 3) := by decide +kernel
theorem dX2_freeWay_8 : decode cX2_freeWay 8 = .ok (.ifCond .ne 13, 3) := by decide +kernel
theorem dX2_freeWay_11 : decode cX2_freeWay 11 = .ok (.new 113, 3) := by decide +kernel
theorem dX2_freeWay_14 : decode cX2_freeWay 14 = .ok (.dup, 1) := by decide +kernel
theorem dX2_freeWay_15 : decode cX2_freeWay 15 = .ok (.ldc 115, 2) := by decide +kernel
theorem dX2_freeWay_17 : decode cX2_freeWay 17 = .ok (.invokespecial 117, 3) := by decide +kernel
theorem dX2_freeWay_20 : decode cX2_freeWay 20 = .ok (.athrow, 1) := by decide +kernel
theorem dX2_freeWay_21 : decode cX2_freeWay 21 = .ok (.aload_n 0, 1) := by decide +kernel
theorem dX2_freeWay_22 : decode cX2_freeWay 22 = .ok (.iload_n 1, 1) := by decide +kernel
theorem dX2_freeWay_23 : decode cX2_freeWay 23 = .ok (.iload_n 2, 1) := by decide +kernel
theorem dX2_freeWay_24 : decode cX2_freeWay 24 = .ok (.invokevirtual 126, 3) := by decide +kernel
theorem dX2_freeWay_27 : decode cX2_freeWay 27 = .ok (.ireturn, 1) := by decide +kernel
set_option maxRecDepth 20000 in
theorem ggX2_inTheWay_X2_placeIn : GoodIn wsX2_inTheWay wsX2_placeIn := goodIn_r _ [6] (by decide +kernel) (by decide +kernel)
set_option maxRecDepth 20000 in
theorem gX2_inTheWay_X2_placeIn : GoodIn wsX2_inTheWay (va_wsS RX2 145 yX2_placeIn wsX2_placeIn) := goodIn_app (goodIn_of _ (by decide +kernel)) ggX2_inTheWay_X2_placeIn
set_option maxRecDepth 20000 in
theorem ggX2_inTheWay_X2_cellOf : GoodIn wsX2_inTheWay wsX2_cellOf := goodIn_r _ [9] (by decide +kernel) (by decide +kernel)
set_option maxRecDepth 20000 in
theorem gX2_inTheWay_X2_cellOf : GoodIn wsX2_inTheWay (va_wsS RX2 88 yX2_cellOf wsX2_cellOf) := goodIn_app (goodIn_of _ (by decide +kernel)) ggX2_inTheWay_X2_cellOf
set_option maxRecDepth 20000 in
theorem ggX2_inTheWay_X1_count : GoodIn wsX2_inTheWay wsX1_count := goodIn_r _ [14, 15, 33, 34, 35, 36, 37, 38] (by decide +kernel) (by decide +kernel)
set_option maxRecDepth 20000 in
theorem gX2_inTheWay_X1_count : GoodIn wsX2_inTheWay (wsV RX2 38 RX1 yX1_count wsX1_count) := goodIn_app (goodIn_of _ (by decide +kernel)) ggX2_inTheWay_X1_count
set_option maxRecDepth 20000 in
theorem ggX2_inTheWay_X1_cellsIn : GoodIn wsX2_inTheWay wsX1_cellsIn := goodIn_r _ [19, 20, 21, 22, 23, 24, 13, 25, 15, 4, 5, 6, 33, 34, 35, 36, 37, 38] (by decide +kernel) (by decide +kernel)
set_option maxRecDepth 20000 in
theorem gX2_inTheWay_X1_cellsIn : GoodIn wsX2_inTheWay (wsV RX2 149 RX1 yX1_cellsIn wsX1_cellsIn) := goodIn_app (goodIn_of _ (by decide +kernel)) ggX2_inTheWay_X1_cellsIn
theorem dX2_inTheWay_0 : decode cX2_inTheWay 0 = .ok (.lconst 0, 1) := by decide +kernel
theorem dX2_inTheWay_1 : decode cX2_inTheWay 1 = .ok (.lstore_n 1, 1) := by decide +kernel
theorem dX2_inTheWay_2 : decode cX2_inTheWay 2 = .ok (.aload_n 0, 1) := by decide +kernel
theorem dX2_inTheWay_3 : decode cX2_inTheWay 3 = .ok (.getfield 57, 3) := by decide +kernel
theorem dX2_inTheWay_6 : decode cX2_inTheWay 6 = .ok (.iconst 0, 1) := by decide +kernel
theorem dX2_inTheWay_7 : decode cX2_inTheWay 7 = .ok (.invokestatic 145, 3) := by decide +kernel
theorem dX2_inTheWay_10 : decode cX2_inTheWay 10 = .ok (.iconst 2, 1) := by decide +kernel
theorem dX2_inTheWay_11 : decode cX2_inTheWay 11 = .ok (.iadd, 1) := by decide +kernel
theorem dX2_inTheWay_12 : decode cX2_inTheWay 12 = .ok (.istore_n 3, 1) := by decide +kernel
theorem dX2_inTheWay_13 : decode cX2_inTheWay 13 = .ok (.iload_n 3, 1) := by decide +kernel
theorem dX2_inTheWay_14 : decode cX2_inTheWay 14 = .ok (.bipush 6, 2) := by decide +kernel
theorem dX2_inTheWay_16 : decode cX2_inTheWay 16 = .ok (.if_icmp .ge 17, 3) := by decide +kernel
theorem dX2_inTheWay_19 : decode cX2_inTheWay 19 = .ok (.lload_n 1, 1) := by decide +kernel
theorem dX2_inTheWay_20 : decode cX2_inTheWay 20 = .ok (.iconst 2, 1) := by decide +kernel
theorem dX2_inTheWay_21 : decode cX2_inTheWay 21 = .ok (.iload_n 3, 1) := by decide +kernel
theorem dX2_inTheWay_22 : decode cX2_inTheWay 22 = .ok (.invokestatic 88, 3) := by decide +kernel
theorem dX2_inTheWay_25 : decode cX2_inTheWay 25 = .ok (.lor, 1) := by decide +kernel
theorem dX2_inTheWay_26 : decode cX2_inTheWay 26 = .ok (.lstore_n 1, 1) := by decide +kernel
theorem dX2_inTheWay_27 : decode cX2_inTheWay 27 = .ok (.iinc 3 1, 3) := by decide +kernel
theorem dX2_inTheWay_30 : decode cX2_inTheWay 30 = .ok (.goto (-17), 3) := by decide +kernel
theorem dX2_inTheWay_33 : decode cX2_inTheWay 33 = .ok (.iconst 0, 1) := by decide +kernel
theorem dX2_inTheWay_34 : decode cX2_inTheWay 34 = .ok (.istore_n 3, 1) := by decide +kernel
theorem dX2_inTheWay_35 : decode cX2_inTheWay 35 = .ok (.iconst 0, 1) := by decide +kernel
theorem dX2_inTheWay_36 : decode cX2_inTheWay 36 = .ok (.istore 4, 2) := by decide +kernel
theorem dX2_inTheWay_38 : decode cX2_inTheWay 38 = .ok (.iload 4, 2) := by decide +kernel
theorem dX2_inTheWay_40 : decode cX2_inTheWay 40 = .ok (.aload_n 0, 1) := by decide +kernel
theorem dX2_inTheWay_41 : decode cX2_inTheWay 41 = .ok (.getfield 10, 3) := by decide +kernel
theorem dX2_inTheWay_44 : decode cX2_inTheWay 44 = .ok (.invokevirtual 38, 3) := by decide +kernel
theorem dX2_inTheWay_47 : decode cX2_inTheWay 47 = .ok (.if_icmp .ge 32, 3) := by decide +kernel
theorem dX2_inTheWay_50 : decode cX2_inTheWay 50 = .ok (.aload_n 0, 1) := by decide +kernel
theorem dX2_inTheWay_51 : decode cX2_inTheWay 51 = .ok (.getfield 10, 3) := by decide +kernel
theorem dX2_inTheWay_54 : decode cX2_inTheWay 54 = .ok (.aload_n 0, 1) := by decide +kernel
theorem dX2_inTheWay_55 : decode cX2_inTheWay 55 = .ok (.getfield 57, 3) := by decide +kernel
theorem dX2_inTheWay_58 : decode cX2_inTheWay 58 = .ok (.iload 4, 2) := by decide +kernel
theorem dX2_inTheWay_60 : decode cX2_inTheWay 60 = .ok (.invokevirtual 149, 3) := by decide +kernel
theorem dX2_inTheWay_63 : decode cX2_inTheWay 63 = .ok (.lload_n 1, 1) := by decide +kernel
theorem dX2_inTheWay_64 : decode cX2_inTheWay 64 = .ok (.land, 1) := by decide +kernel
theorem dX2_inTheWay_65 : decode cX2_inTheWay 65 = .ok (.lconst 0, 1) := by decide +kernel
theorem dX2_inTheWay_66 : decode cX2_inTheWay 66 = .ok (.lcmp, 1) := by decide +kernel
theorem dX2_inTheWay_67 : decode cX2_inTheWay 67 = .ok (.ifCond .eq 6, 3) := by decide +kernel
theorem dX2_inTheWay_70 : decode cX2_inTheWay 70 = .ok (.iinc 3 1, 3) := by decide +kernel
theorem dX2_inTheWay_73 : decode cX2_inTheWay 73 = .ok (.iinc 4 1, 3) := by decide +kernel
theorem dX2_inTheWay_76 : decode cX2_inTheWay 76 = .ok (.goto (-38), 3) := by decide +kernel
theorem dX2_inTheWay_79 : decode cX2_inTheWay 79 = .ok (.iload_n 3, 1) := by decide +kernel
theorem dX2_inTheWay_80 : decode cX2_inTheWay 80 = .ok (.ireturn, 1) := by decide +kernel
set_option maxRecDepth 20000 in
theorem ggX2_isSolved_X2_placeIn : GoodIn wsX2_isSolved wsX2_placeIn := goodIn_r _ [5] (by decide +kernel) (by decide +kernel)
set_option maxRecDepth 20000 in
theorem gX2_isSolved_X2_placeIn : GoodIn wsX2_isSolved (va_wsS RX2 145 yX2_placeIn wsX2_placeIn) := goodIn_app (goodIn_of _ (by decide +kernel)) ggX2_isSolved_X2_placeIn
theorem dX2_isSolved_0 : decode cX2_isSolved 0 = .ok (.aload_n 0, 1) := by decide +kernel
theorem dX2_isSolved_1 : decode cX2_isSolved 1 = .ok (.getfield 57, 3) := by decide +kernel
theorem dX2_isSolved_4 : decode cX2_isSolved 4 = .ok (.iconst 0, 1) := by decide +kernel
theorem dX2_isSolved_5 : decode cX2_isSolved 5 = .ok (.invokestatic 145, 3) := by decide +kernel
theorem dX2_isSolved_8 : decode cX2_isSolved 8 = .ok (.iconst 4, 1) := by decide +kernel
theorem dX2_isSolved_9 : decode cX2_isSolved 9 = .ok (.if_icmp .ne 7, 3) := by decide +kernel
theorem dX2_isSolved_12 : decode cX2_isSolved 12 = .ok (.iconst 1, 1) := by decide +kernel
theorem dX2_isSolved_13 : decode cX2_isSolved 13 = .ok (.goto 4, 3) := by decide +kernel
theorem dX2_isSolved_16 : decode cX2_isSolved 16 = .ok (.iconst 0, 1) := by decide +kernel
theorem dX2_isSolved_17 : decode cX2_isSolved 17 = .ok (.ireturn, 1) := by decide +kernel
theorem dX2_moves_0 : decode cX2_moves 0 = .ok (.aload_n 0, 1) := by decide +kernel
theorem dX2_moves_1 : decode cX2_moves 1 = .ok (.getfield 44, 3) := by decide +kernel
theorem dX2_moves_4 : decode cX2_moves 4 = .ok (.ireturn, 1) := by decide +kernel
theorem dX2_driven_0 : decode cX2_driven 0 = .ok (.aload_n 0, 1) := by decide +kernel
theorem dX2_driven_1 : decode cX2_driven 1 = .ok (.getfield 136, 3) := by decide +kernel
theorem dX2_driven_4 : decode cX2_driven 4 = .ok (.ireturn, 1) := by decide +kernel
set_option maxRecDepth 20000 in
theorem ggX2_positions_X2_searchFromNow : GoodIn wsX2_positions wsX2_searchFromNow := goodIn_r _ [6, 7, 1, 8, 9, 10, 11, 12, 13, 14, 15, 16, 17, 18, 19, 20, 21, 22, 23, 24, 25, 26, 27, 28, 29, 30, 31, 32, 33, 5, 34, 35, 36, 37, 38, 39, 40, 41, 42, 43, 44, 45, 46, 47, 48, 49, 50, 51, 52, 53, 54, 55, 56, 57, 58, 59, 60, 61, 62, 63, 64, 65, 66, 67, 68, 69, 70, 71, 72, 73, 74, 75, 76, 77, 78, 79, 80, 81, 82, 83, 84, 85, 86, 87, 88, 89, 90, 91, 92, 93, 94, 95, 96, 97, 102, 103, 104, 105, 106, 107, 108, 109, 110, 111, 112, 113, 114, 115, 116, 117, 118, 119, 120, 121, 122, 123, 124] (by decide +kernel) (by decide +kernel)
set_option maxRecDepth 20000 in
theorem gX2_positions_X2_searchFromNow : GoodIn wsX2_positions (wsV RX2 152 RX2 yX2_searchFromNow wsX2_searchFromNow) := goodIn_app (goodIn_of _ (by decide +kernel)) ggX2_positions_X2_searchFromNow
set_option maxRecDepth 20000 in
theorem ggX2_positions_X0_count : GoodIn wsX2_positions wsX0_count := goodIn_r _ [101, 15, 109, 110, 111, 112, 113, 114, 115, 116, 117, 118] (by decide +kernel) (by decide +kernel)
set_option maxRecDepth 20000 in
theorem gX2_positions_X0_count : GoodIn wsX2_positions (wsV RX2 155 RX0 yX0_count wsX0_count) := goodIn_app (goodIn_of _ (by decide +kernel)) ggX2_positions_X0_count
theorem dX2_positions_0 : decode cX2_positions 0 = .ok (.aload_n 0, 1) := by decide +kernel
theorem dX2_positions_1 : decode cX2_positions 1 = .ok (.invokevirtual 152, 3) := by decide +kernel
theorem dX2_positions_4 : decode cX2_positions 4 = .ok (.aload_n 0, 1) := by decide +kernel
theorem dX2_positions_5 : decode cX2_positions 5 = .ok (.getfield 21, 3) := by decide +kernel
theorem dX2_positions_8 : decode cX2_positions 8 = .ok (.invokevirtual 155, 3) := by decide +kernel
theorem dX2_positions_11 : decode cX2_positions 11 = .ok (.ireturn, 1) := by decide +kernel
set_option maxRecDepth 20000 in
theorem ggX2_fewestMoves_X2_searchFromNow : GoodIn wsX2_fewestMoves wsX2_searchFromNow := goodIn_r _ [6, 7, 1, 8, 9, 10, 11, 12, 13, 14, 15, 16, 17, 18, 19, 20, 21, 22, 23, 24, 25, 26, 27, 28, 29, 30, 31, 32, 33, 5, 34, 35, 36, 37, 38, 39, 40, 41, 42, 43, 44, 45, 46, 47, 48, 49, 50, 51, 52, 53, 54, 55, 56, 57, 58, 59, 60, 61, 62, 63, 64, 65, 66, 67, 68, 69, 70, 71, 72, 73, 74, 75, 76, 77, 78, 79, 80, 81, 82, 83, 84, 85, 86, 87, 88, 89, 90, 91, 92, 93, 94, 95, 96, 97, 102, 103, 104, 105, 106, 107, 108, 109, 110, 111, 112, 113, 114, 115, 116, 117, 118, 119, 120, 121, 122, 123, 124] (by decide +kernel) (by decide +kernel)
set_option maxRecDepth 20000 in
theorem gX2_fewestMoves_X2_searchFromNow : GoodIn wsX2_fewestMoves (wsV RX2 152 RX2 yX2_searchFromNow wsX2_searchFromNow) := goodIn_app (goodIn_of _ (by decide +kernel)) ggX2_fewestMoves_X2_searchFromNow
set_option maxRecDepth 20000 in
theorem ggX2_fewestMoves_X0_movesToSolved : GoodIn wsX2_fewestMoves wsX0_movesToSolved := goodIn_r _ [101, 88, 109, 110, 111, 112, 113, 114, 115, 116, 117, 118] (by decide +kernel) (by decide +kernel)
set_option maxRecDepth 20000 in
theorem gX2_fewestMoves_X0_movesToSolved : GoodIn wsX2_fewestMoves (wsV RX2 156 RX0 yX0_movesToSolved wsX0_movesToSolved) := goodIn_app (goodIn_of _ (by decide +kernel)) ggX2_fewestMoves_X0_movesToSolved
theorem dX2_fewestMoves_0 : decode cX2_fewestMoves 0 = .ok (.aload_n 0, 1) := by decide +kernel
theorem dX2_fewestMoves_1 : decode cX2_fewestMoves 1 = .ok (.invokevirtual 152, 3) := by decide +kernel
theorem dX2_fewestMoves_4 : decode cX2_fewestMoves 4 = .ok (.aload_n 0, 1) := by decide +kernel
theorem dX2_fewestMoves_5 : decode cX2_fewestMoves 5 = .ok (.getfield 21, 3) := by decide +kernel
theorem dX2_fewestMoves_8 : decode cX2_fewestMoves 8 = .ok (.invokevirtual 156, 3) := by decide +kernel
theorem dX2_fewestMoves_11 : decode cX2_fewestMoves 11 = .ok (.ireturn, 1) := by decide +kernel
set_option maxRecDepth 20000 in
theorem ggX2_hint_X2_searchFromNow : GoodIn wsX2_hint wsX2_searchFromNow := goodIn_r _ [6, 7, 1, 8, 9, 10, 11, 12, 13, 14, 15, 16, 17, 18, 19, 20, 21, 22, 23, 24, 25, 26, 27, 28, 29, 30, 31, 32, 33, 5, 34, 35, 36, 37, 38, 39, 40, 41, 42, 43, 44, 45, 46, 47, 48, 49, 50, 51, 52, 53, 54, 55, 56, 57, 58, 59, 60, 61, 62, 63, 64, 65, 66, 67, 68, 69, 70, 71, 72, 73, 74, 75, 76, 77, 78, 79, 80, 81, 82, 83, 84, 85, 86, 87, 88, 89, 90, 91, 92, 93, 94, 95, 96, 97, 102, 103, 104, 105, 106, 107, 108, 109, 110, 111, 112, 113, 114, 115, 116, 117, 118, 119, 120, 121, 122, 123, 124] (by decide +kernel) (by decide +kernel)
set_option maxRecDepth 20000 in
theorem gX2_hint_X2_searchFromNow : GoodIn wsX2_hint (wsV RX2 152 RX2 yX2_searchFromNow wsX2_searchFromNow) := goodIn_app (goodIn_of _ (by decide +kernel)) ggX2_hint_X2_searchFromNow
set_option maxRecDepth 20000 in
theorem ggX2_hint_X0_firstMoveToSolved : GoodIn wsX2_hint wsX0_firstMoveToSolved := goodIn_r _ [101, 90, 109, 110, 111, 112, 113, 114, 115, 116, 117, 118] (by decide +kernel) (by decide +kernel)
set_option maxRecDepth 20000 in
theorem gX2_hint_X0_firstMoveToSolved : GoodIn wsX2_hint (wsV RX2 159 RX0 yX0_firstMoveToSolved wsX0_firstMoveToSolved) := goodIn_app (goodIn_of _ (by decide +kernel)) ggX2_hint_X0_firstMoveToSolved
theorem dX2_hint_0 : decode cX2_hint 0 = .ok (.aload_n 0, 1) := by decide +kernel
theorem dX2_hint_1 : decode cX2_hint 1 = .ok (.invokevirtual 152, 3) := by decide +kernel
theorem dX2_hint_4 : decode cX2_hint 4 = .ok (.aload_n 0, 1) := by decide +kernel
theorem dX2_hint_5 : decode cX2_hint 5 = .ok (.getfield 21, 3) := by decide +kernel
theorem dX2_hint_8 : decode cX2_hint 8 = .ok (.invokevirtual 159, 3) := by decide +kernel
theorem dX2_hint_11 : decode cX2_hint 11 = .ok (.ireturn, 1) := by decide +kernel
set_option maxRecDepth 20000 in
theorem ggX2_solve_X2_searchFromNow : GoodIn wsX2_solve wsX2_searchFromNow := goodIn_r _ [8, 9, 1, 10, 11, 12, 13, 14, 15, 16, 17, 18, 19, 20, 21, 22, 23, 24, 25, 26, 27, 28, 29, 30, 31, 32, 33, 34, 35, 7, 36, 37, 38, 39, 40, 41, 42, 43, 44, 45, 46, 47, 48, 49, 50, 51, 52, 53, 54, 55, 56, 57, 58, 59, 60, 61, 62, 63, 64, 65, 66, 67, 68, 69, 70, 71, 72, 73, 74, 75, 76, 77, 78, 79, 80, 81, 82, 83, 84, 85, 86, 87, 88, 89, 90, 91, 92, 93, 94, 95, 96, 97, 98, 99, 116, 117, 118, 119, 120, 121, 122, 123, 124, 125, 126, 127, 128, 129, 130, 131, 132, 133, 134, 135, 136, 137, 138] (by decide +kernel) (by decide +kernel)
set_option maxRecDepth 20000 in
theorem gX2_solve_X2_searchFromNow : GoodIn wsX2_solve (wsV RX2 152 RX2 yX2_searchFromNow wsX2_searchFromNow) := goodIn_app (goodIn_of _ (by decide +kernel)) ggX2_solve_X2_searchFromNow
set_option maxRecDepth 20000 in
theorem ggX2_solve_X0_movesToSolved : GoodIn wsX2_solve wsX0_movesToSolved := goodIn_r _ [103, 90, 123, 124, 125, 126, 127, 128, 129, 130, 131, 132] (by decide +kernel) (by decide +kernel)
set_option maxRecDepth 20000 in
theorem gX2_solve_X0_movesToSolved : GoodIn wsX2_solve (wsV RX2 156 RX0 yX0_movesToSolved wsX0_movesToSolved) := goodIn_app (goodIn_of _ (by decide +kernel)) ggX2_solve_X0_movesToSolved
set_option maxRecDepth 20000 in
theorem ggX2_solve_X0_cellsToSolved : GoodIn wsX2_solve wsX0_cellsToSolved := goodIn_r _ [107, 91, 123, 124, 125, 126, 127, 128, 129, 130, 131, 132] (by decide +kernel) (by decide +kernel)
set_option maxRecDepth 20000 in
theorem gX2_solve_X0_cellsToSolved : GoodIn wsX2_solve (wsV RX2 162 RX0 yX0_cellsToSolved wsX0_cellsToSolved) := goodIn_app (goodIn_of _ (by decide +kernel)) ggX2_solve_X0_cellsToSolved
set_option maxRecDepth 20000 in
theorem ggX2_solve_X0_solvedPosition : GoodIn wsX2_solve wsX0_solvedPosition := goodIn_r _ [111, 18, 27, 42, 43, 44, 14, 45, 17, 123, 124, 125, 126, 127, 128, 129, 130, 131, 132] (by decide +kernel) (by decide +kernel)
set_option maxRecDepth 20000 in
theorem gX2_solve_X0_solvedPosition : GoodIn wsX2_solve (wsV RX2 165 RX0 yX0_solvedPosition wsX0_solvedPosition) := goodIn_app (goodIn_of _ (by decide +kernel)) ggX2_solve_X0_solvedPosition
set_option maxRecDepth 20000 in
theorem ggX2_solve_X2_standAt : GoodIn wsX2_solve wsX2_standAt := goodIn_r _ [115, 10, 9, 116, 117, 118, 119, 120, 121, 122] (by decide +kernel) (by decide +kernel)
set_option maxRecDepth 20000 in
theorem gX2_solve_X2_standAt : GoodIn wsX2_solve (wsV RX2 80 RX2 yX2_standAt wsX2_standAt) := goodIn_app (goodIn_of _ (by decide +kernel)) ggX2_solve_X2_standAt
theorem dX2_solve_0 : decode cX2_solve 0 = .ok (.aload_n 0, 1) := by decide +kernel
theorem dX2_solve_1 : decode cX2_solve 1 = .ok (.invokevirtual 152, 3) := by decide +kernel
theorem dX2_solve_4 : decode cX2_solve 4 = .ok (.aload_n 0, 1) := by decide +kernel
theorem dX2_solve_5 : decode cX2_solve 5 = .ok (.getfield 21, 3) := by decide +kernel
theorem dX2_solve_8 : decode cX2_solve 8 = .ok (.invokevirtual 156, 3) := by decide +kernel
theorem dX2_solve_11 : decode cX2_solve 11 = .ok (.istore_n 1, 1) := by decide +kernel
theorem dX2_solve_12 : decode cX2_solve 12 = .ok (.iload_n 1, 1) := by decide +kernel
theorem dX2_solve_13 : decode cX2_solve 13 = .ok (.ifCond .le 40, 3) := by decide +kernel
theorem dX2_solve_16 : decode cX2_solve 16 = .ok (.aload_n 0, 1) := by decide +kernel
theorem dX2_solve_17 : decode cX2_solve 17 = .ok (.dup, 1) := by decide +kernel
theorem dX2_solve_18 : decode cX2_solve 18 = .ok (.getfield 44, 3) := by decide +kernel
theorem dX2_solve_21 : decode cX2_solve 21 = .ok (.iload_n 1, 1) := by decide +kernel
theorem dX2_solve_22 : decode cX2_solve 22 = .ok (.iadd, 1) := by decide +kernel
theorem dX2_solve_23 : decode cX2_solve 23 = .ok (.putfield 44, 3) := by decide +kernel
theorem dX2_solve_26 : decode cX2_solve 26 = .ok (.aload_n 0, 1) := by decide +kernel
theorem dX2_solve_27 : decode cX2_solve 27 = .ok (.dup, 1) := by decide +kernel
theorem dX2_solve_28 : decode cX2_solve 28 = .ok (.getfield 136, 3) := by decide +kernel
theorem dX2_solve_31 : decode cX2_solve 31 = .ok (.aload_n 0, 1) := by decide +kernel
theorem dX2_solve_32 : decode cX2_solve 32 = .ok (.getfield 21, 3) := by decide +kernel
theorem dX2_solve_35 : decode cX2_solve 35 = .ok (.invokevirtual 162, 3) := by decide +kernel
theorem dX2_solve_38 : decode cX2_solve 38 = .ok (.iadd, 1) := by decide +kernel
theorem dX2_solve_39 : decode cX2_solve 39 = .ok (.putfield 136, 3) := by decide +kernel
theorem dX2_solve_42 : decode cX2_solve 42 = .ok (.aload_n 0, 1) := by decide +kernel
theorem dX2_solve_43 : decode cX2_solve 43 = .ok (.aload_n 0, 1) := by decide +kernel
theorem dX2_solve_44 : decode cX2_solve 44 = .ok (.getfield 21, 3) := by decide +kernel
theorem dX2_solve_47 : decode cX2_solve 47 = .ok (.invokevirtual 165, 3) := by decide +kernel
theorem dX2_solve_50 : decode cX2_solve 50 = .ok (.invokevirtual 80, 3) := by decide +kernel
theorem dX2_solve_53 : decode cX2_solve 53 = .ok (.iload_n 1, 1) := by decide +kernel
theorem dX2_solve_54 : decode cX2_solve 54 = .ok (.ireturn, 1) := by decide +kernel
set_option maxRecDepth 20000 in
theorem ggX2_canReach_X1_has : GoodIn wsX2_canReach wsX1_has := goodIn_r _ [11, 12, 115, 116, 117, 118, 119, 120] (by decide +kernel) (by decide +kernel)
set_option maxRecDepth 20000 in
theorem gX2_canReach_X1_has : GoodIn wsX2_canReach (wsV RX2 110 RX1 yX1_has wsX1_has) := goodIn_app (goodIn_of _ (by decide +kernel)) ggX2_canReach_X1_has
set_option maxRecDepth 20000 in
theorem ggX2_canReach_X2_searchFromNow : GoodIn wsX2_canReach wsX2_searchFromNow := goodIn_r _ [17, 18, 6, 19, 20, 21, 22, 23, 24, 25, 26, 27, 28, 29, 30, 31, 32, 33, 34, 35, 36, 37, 38, 39, 40, 41, 42, 43, 44, 16, 45, 46, 47, 48, 49, 50, 51, 52, 53, 54, 55, 56, 57, 10, 58, 12, 59, 60, 61, 62, 63, 64, 65, 8, 9, 11, 66, 67, 68, 69, 70, 71, 72, 73, 74, 75, 76, 77, 78, 79, 80, 81, 82, 83, 84, 85, 86, 87, 88, 89, 90, 91, 92, 93, 94, 95, 96, 97, 98, 99, 100, 101, 102, 103, 108, 109, 110, 111, 112, 113, 114, 121, 122, 123, 124, 125, 126, 127, 128, 129, 130, 115, 116, 117, 118, 119, 120] (by decide +kernel) (by decide +kernel)
set_option maxRecDepth 20000 in
theorem gX2_canReach_X2_searchFromNow : GoodIn wsX2_canReach (wsV RX2 152 RX2 yX2_searchFromNow wsX2_searchFromNow) := goodIn_app (goodIn_of _ (by decide +kernel)) ggX2_canReach_X2_searchFromNow
set_option maxRecDepth 20000 in
theorem ggX2_canReach_X0_findsAt : GoodIn wsX2_canReach wsX0_findsAt := goodIn_r _ [107, 26, 36, 44, 16, 45, 121, 122, 123, 124, 125, 126, 127, 128, 129, 130] (by decide +kernel) (by decide +kernel)
set_option maxRecDepth 20000 in
theorem gX2_canReach_X0_findsAt : GoodIn wsX2_canReach (wsV RX2 170 RX0 yX0_findsAt wsX0_findsAt) := goodIn_app (goodIn_of _ (by decide +kernel)) ggX2_canReach_X0_findsAt
theorem dX2_canReach_0 : decode cX2_canReach 0 = .ok (.aload_n 0, 1) := by decide +kernel
theorem dX2_canReach_1 : decode cX2_canReach 1 = .ok (.getfield 10, 3) := by decide +kernel
theorem dX2_canReach_4 : decode cX2_canReach 4 = .ok (.iload_n 1, 1) := by decide +kernel
theorem dX2_canReach_5 : decode cX2_canReach 5 = .ok (.invokevirtual 110, 3) := by decide +kernel
theorem dX2_canReach_8 : decode cX2_canReach 8 = .ok (.ifCond .ne 13, 3) := by decide +kernel
theorem dX2_canReach_11 : decode cX2_canReach 11 = .ok (.new 113, 3) := by decide +kernel
theorem dX2_canReach_14 : decode cX2_canReach 14 = .ok (.dup, 1) := by decide +kernel
theorem dX2_canReach_15 : decode cX2_canReach 15 = .ok (.ldc 115, 2) := by decide +kernel
theorem dX2_canReach_17 : decode cX2_canReach 17 = .ok (.invokespecial 117, 3) := by decide +kernel
theorem dX2_canReach_20 : decode cX2_canReach 20 = .ok (.athrow, 1) := by decide +kernel
theorem dX2_canReach_21 : decode cX2_canReach 21 = .ok (.iload_n 2, 1) := by decide +kernel
theorem dX2_canReach_22 : decode cX2_canReach 22 = .ok (.ifCond .lt 9, 3) := by decide +kernel
theorem dX2_canReach_25 : decode cX2_canReach 25 = .ok (.iload_n 2, 1) := by decide +kernel
theorem dX2_canReach_26 : decode cX2_canReach 26 = .ok (.bipush 6, 2) := by decide +kernel
theorem dX2_canReach_28 : decode cX2_canReach 28 = .ok (.if_icmp .lt 13, 3) := by decide +kernel
theorem dX2_canReach_31 : decode cX2_canReach 31 = .ok (.new 29, 3) := by decide +kernel
theorem dX2_canReach_34 : decode cX2_canReach 34 = .ok (.dup, 1) := by decide +kernel
theorem dX2_canReach_35 : decode cX2_canReach 35 = .ok (.ldc 168, 2) := by decide +kernel
theorem dX2_canReach_37 : decode cX2_canReach 37 = .ok (.invokespecial 33, 3) := by decide +kernel
theorem dX2_canReach_40 : decode cX2_canReach 40 = .ok (.athrow, 1) := by decide +kernel
theorem dX2_canReach_41 : decode cX2_canReach 41 = .ok (.aload_n 0, 1) := by decide +kernel
theorem dX2_canReach_42 : decode cX2_canReach 42 = .ok (.invokevirtual 152, 3) := by decide +kernel
theorem dX2_canReach_45 : decode cX2_canReach 45 = .ok (.aload_n 0, 1) := by decide +kernel
theorem dX2_canReach_46 : decode cX2_canReach 46 = .ok (.getfield 21, 3) := by decide +kernel
theorem dX2_canReach_49 : decode cX2_canReach 49 = .ok (.iload_n 1, 1) := by decide +kernel
theorem dX2_canReach_50 : decode cX2_canReach 50 = .ok (.iload_n 2, 1) := by decide +kernel
theorem dX2_canReach_51 : decode cX2_canReach 51 = .ok (.invokevirtual 170, 3) := by decide +kernel
theorem dX2_canReach_54 : decode cX2_canReach 54 = .ok (.ireturn, 1) := by decide +kernel
set_option maxRecDepth 20000 in
theorem ggX2_wayNow_X1_filledIn : GoodIn wsX2_wayNow wsX1_filledIn := goodIn_r _ [7, 8, 9, 10, 11, 6, 12, 13, 14, 15, 16, 17, 18, 19, 20, 21, 40, 41, 42, 43, 44, 45] (by decide +kernel) (by decide +kernel)
set_option maxRecDepth 20000 in
theorem gX2_wayNow_X1_filledIn : GoodIn wsX2_wayNow (wsV RX2 60 RX1 yX1_filledIn wsX1_filledIn) := goodIn_app (goodIn_of _ (by decide +kernel)) ggX2_wayNow_X1_filledIn
set_option maxRecDepth 20000 in
theorem ggX2_wayNow_X1_wayIn : GoodIn wsX2_wayNow wsX1_wayIn := goodIn_r _ [25, 26, 13, 27, 15, 16, 17, 6, 18, 8, 19, 20, 21, 9, 10, 11, 12, 14, 28, 29, 30, 31, 32, 40, 41, 42, 43, 44, 45] (by decide +kernel) (by decide +kernel)
set_option maxRecDepth 20000 in
theorem gX2_wayNow_X1_wayIn : GoodIn wsX2_wayNow (wsV RX2 173 RX1 yX1_wayIn wsX1_wayIn) := goodIn_app (goodIn_of _ (by decide +kernel)) ggX2_wayNow_X1_wayIn
theorem dX2_wayNow_0 : decode cX2_wayNow 0 = .ok (.aload_n 0, 1) := by decide +kernel
theorem dX2_wayNow_1 : decode cX2_wayNow 1 = .ok (.getfield 10, 3) := by decide +kernel
theorem dX2_wayNow_4 : decode cX2_wayNow 4 = .ok (.aload_n 0, 1) := by decide +kernel
theorem dX2_wayNow_5 : decode cX2_wayNow 5 = .ok (.getfield 57, 3) := by decide +kernel
theorem dX2_wayNow_8 : decode cX2_wayNow 8 = .ok (.aload_n 0, 1) := by decide +kernel
theorem dX2_wayNow_9 : decode cX2_wayNow 9 = .ok (.getfield 10, 3) := by decide +kernel
theorem dX2_wayNow_12 : decode cX2_wayNow 12 = .ok (.aload_n 0, 1) := by decide +kernel
theorem dX2_wayNow_13 : decode cX2_wayNow 13 = .ok (.getfield 57, 3) := by decide +kernel
theorem dX2_wayNow_16 : decode cX2_wayNow 16 = .ok (.invokevirtual 60, 3) := by decide +kernel
theorem dX2_wayNow_19 : decode cX2_wayNow 19 = .ok (.iload_n 1, 1) := by decide +kernel
theorem dX2_wayNow_20 : decode cX2_wayNow 20 = .ok (.iload_n 2, 1) := by decide +kernel
theorem dX2_wayNow_21 : decode cX2_wayNow 21 = .ok (.ifCond .eq 7, 3) := by decide +kernel
theorem dX2_wayNow_24 : decode cX2_wayNow 24 = .ok (.iconst 1, 1) := by decide +kernel
theorem dX2_wayNow_25 : decode cX2_wayNow 25 = .ok (.goto 4, 3) := by decide +kernel
theorem dX2_wayNow_28 : decode cX2_wayNow 28 = .ok (.iconst (-1), 1) := by decide +kernel
theorem dX2_wayNow_29 : decode cX2_wayNow 29 = .ok (.invokevirtual 173, 3) := by decide +kernel
theorem dX2_wayNow_32 : decode cX2_wayNow 32 = .ok (.ireturn, 1) := by decide +kernel
set_option maxRecDepth 20000 in
theorem ggX2_makeMove_X2_moved : GoodIn wsX2_makeMove wsX2_moved := goodIn_r _ [11] (by decide +kernel) (by decide +kernel)
set_option maxRecDepth 20000 in
theorem gX2_makeMove_X2_moved : GoodIn wsX2_makeMove (va_wsS RX2 76 yX2_moved wsX2_moved) := goodIn_app (goodIn_of _ (by decide +kernel)) ggX2_makeMove_X2_moved
set_option maxRecDepth 20000 in
theorem ggX2_makeMove_X2_standAt : GoodIn wsX2_makeMove wsX2_standAt := goodIn_r _ [15, 1, 16, 17, 18, 19, 20, 21, 22, 23] (by decide +kernel) (by decide +kernel)
set_option maxRecDepth 20000 in
theorem gX2_makeMove_X2_standAt : GoodIn wsX2_makeMove (wsV RX2 80 RX2 yX2_standAt wsX2_standAt) := goodIn_app (goodIn_of _ (by decide +kernel)) ggX2_makeMove_X2_standAt
theorem dX2_makeMove_0 : decode cX2_makeMove 0 = .ok (.aload_n 0, 1) := by decide +kernel
theorem dX2_makeMove_1 : decode cX2_makeMove 1 = .ok (.aload_n 0, 1) := by decide +kernel
theorem dX2_makeMove_2 : decode cX2_makeMove 2 = .ok (.getfield 57, 3) := by decide +kernel
theorem dX2_makeMove_5 : decode cX2_makeMove 5 = .ok (.iload_n 1, 1) := by decide +kernel
theorem dX2_makeMove_6 : decode cX2_makeMove 6 = .ok (.iload_n 2, 1) := by decide +kernel
theorem dX2_makeMove_7 : decode cX2_makeMove 7 = .ok (.invokestatic 76, 3) := by decide +kernel
theorem dX2_makeMove_10 : decode cX2_makeMove 10 = .ok (.invokevirtual 80, 3) := by decide +kernel
theorem dX2_makeMove_13 : decode cX2_makeMove 13 = .ok (.aload_n 0, 1) := by decide +kernel
theorem dX2_makeMove_14 : decode cX2_makeMove 14 = .ok (.dup, 1) := by decide +kernel
theorem dX2_makeMove_15 : decode cX2_makeMove 15 = .ok (.getfield 44, 3) := by decide +kernel
theorem dX2_makeMove_18 : decode cX2_makeMove 18 = .ok (.iconst 1, 1) := by decide +kernel
theorem dX2_makeMove_19 : decode cX2_makeMove 19 = .ok (.iadd, 1) := by decide +kernel
theorem dX2_makeMove_20 : decode cX2_makeMove 20 = .ok (.putfield 44, 3) := by decide +kernel
theorem dX2_makeMove_23 : decode cX2_makeMove 23 = .ok (.aload_n 0, 1) := by decide +kernel
theorem dX2_makeMove_24 : decode cX2_makeMove 24 = .ok (.dup, 1) := by decide +kernel
theorem dX2_makeMove_25 : decode cX2_makeMove 25 = .ok (.getfield 136, 3) := by decide +kernel
theorem dX2_makeMove_28 : decode cX2_makeMove 28 = .ok (.iload_n 2, 1) := by decide +kernel
theorem dX2_makeMove_29 : decode cX2_makeMove 29 = .ok (.invokestatic 120, 3) := by decide +kernel
theorem dX2_makeMove_32 : decode cX2_makeMove 32 = .ok (.iadd, 1) := by decide +kernel
theorem dX2_makeMove_33 : decode cX2_makeMove 33 = .ok (.putfield 136, 3) := by decide +kernel
theorem dX2_makeMove_36 : decode cX2_makeMove 36 = .ok (.return_, 1) := by decide +kernel
theorem dX2_standAt_0 : decode cX2_standAt 0 = .ok (.aload_n 0, 1) := by decide +kernel
theorem dX2_standAt_1 : decode cX2_standAt 1 = .ok (.iload_n 1, 1) := by decide +kernel
theorem dX2_standAt_2 : decode cX2_standAt 2 = .ok (.putfield 57, 3) := by decide +kernel
theorem dX2_standAt_5 : decode cX2_standAt 5 = .ok (.aload_n 0, 1) := by decide +kernel
theorem dX2_standAt_6 : decode cX2_standAt 6 = .ok (.iconst 0, 1) := by decide +kernel
theorem dX2_standAt_7 : decode cX2_standAt 7 = .ok (.putfield 106, 3) := by decide +kernel
theorem dX2_standAt_10 : decode cX2_standAt 10 = .ok (.return_, 1) := by decide +kernel
set_option maxRecDepth 20000 in
theorem ggX2_searchFromNow_X0_lookFrom : GoodIn wsX2_searchFromNow wsX0_lookFrom := goodIn_r _ [8, 9, 10, 11, 12, 13, 14, 15, 16, 17, 18, 7, 19, 20, 21, 22, 23, 24, 25, 26, 27, 28, 29, 30, 31, 32, 33, 34, 35, 36, 37, 38, 39, 40, 41, 42, 43, 44, 45, 46, 47, 48, 49, 50, 51, 52, 53, 54, 55, 56, 57, 58, 59, 60, 61, 62, 63, 64, 65, 66, 67, 68, 69, 70, 71, 72, 73, 74, 75, 76, 77, 78, 79, 80, 81, 82, 83, 84, 85, 86, 87, 88, 89, 90, 91, 92, 93, 101, 102, 103, 104, 105, 106, 107, 108, 109, 110, 111, 112, 113, 114, 115, 116] (by decide +kernel) (by decide +kernel)
set_option maxRecDepth 20000 in
theorem gX2_searchFromNow_X0_lookFrom : GoodIn wsX2_searchFromNow (wsV RX2 177 RX0 yX0_lookFrom wsX0_lookFrom) := goodIn_app (goodIn_of _ (by decide +kernel)) ggX2_searchFromNow_X0_lookFrom
theorem dX2_searchFromNow_0 : decode cX2_searchFromNow 0 = .ok (.aload_n 0, 1) := by decide +kernel
theorem dX2_searchFromNow_1 : decode cX2_searchFromNow 1 = .ok (.getfield 106, 3) := by decide +kernel
theorem dX2_searchFromNow_4 : decode cX2_searchFromNow 4 = .ok (.ifCond .ne 19, 3) := by decide +kernel
theorem dX2_searchFromNow_7 : decode cX2_searchFromNow 7 = .ok (.aload_n 0, 1) := by decide +kernel
theorem dX2_searchFromNow_8 : decode cX2_searchFromNow 8 = .ok (.getfield 21, 3) := by decide +kernel
theorem dX2_searchFromNow_11 : decode cX2_searchFromNow 11 = .ok (.aload_n 0, 1) := by decide +kernel
theorem dX2_searchFromNow_12 : decode cX2_searchFromNow 12 = .ok (.getfield 57, 3) := by decide +kernel
theorem dX2_searchFromNow_15 : decode cX2_searchFromNow 15 = .ok (.invokevirtual 177, 3) := by decide +kernel
theorem dX2_searchFromNow_18 : decode cX2_searchFromNow 18 = .ok (.aload_n 0, 1) := by decide +kernel
theorem dX2_searchFromNow_19 : decode cX2_searchFromNow 19 = .ok (.iconst 1, 1) := by decide +kernel
theorem dX2_searchFromNow_20 : decode cX2_searchFromNow 20 = .ok (.putfield 106, 3) := by decide +kernel
theorem dX2_searchFromNow_23 : decode cX2_searchFromNow 23 = .ok (.return_, 1) := by decide +kernel
theorem dX2_isInYard_0 : decode cX2_isInYard 0 = .ok (.iload_n 0, 1) := by decide +kernel
theorem dX2_isInYard_1 : decode cX2_isInYard 1 = .ok (.ifCond .lt 23, 3) := by decide +kernel
theorem dX2_isInYard_4 : decode cX2_isInYard 4 = .ok (.iload_n 0, 1) := by decide +kernel
theorem dX2_isInYard_5 : decode cX2_isInYard 5 = .ok (.bipush 6, 2) := by decide +kernel
theorem dX2_isInYard_7 : decode cX2_isInYard 7 = .ok (.if_icmp .ge 17, 3) := by decide +kernel
theorem dX2_isInYard_10 : decode cX2_isInYard 10 = .ok (.iload_n 1, 1) := by decide +kernel
theorem dX2_isInYard_11 : decode cX2_isInYard 11 = .ok (.ifCond .lt 13, 3) := by decide +kernel
theorem dX2_isInYard_14 : decode cX2_isInYard 14 = .ok (.iload_n 1, 1) := by decide +kernel
theorem dX2_isInYard_15 : decode cX2_isInYard 15 = .ok (.bipush 6, 2) := by decide +kernel
theorem dX2_isInYard_17 : decode cX2_isInYard 17 = .ok (.if_icmp .ge 7, 3) := by decide +kernel
theorem dX2_isInYard_20 : decode cX2_isInYard 20 = .ok (.iconst 1, 1) := by decide +kernel
theorem dX2_isInYard_21 : decode cX2_isInYard 21 = .ok (.goto 4, 3) := by decide +kernel
theorem dX2_isInYard_24 : decode cX2_isInYard 24 = .ok (.iconst 0, 1) := by decide +kernel
theorem dX2_isInYard_25 : decode cX2_isInYard 25 = .ok (.ireturn, 1) := by decide +kernel
theorem dX2_cellOf_0 : decode cX2_cellOf 0 = .ok (.lconst 1, 1) := by decide +kernel
theorem dX2_cellOf_1 : decode cX2_cellOf 1 = .ok (.bipush 6, 2) := by decide +kernel
theorem dX2_cellOf_3 : decode cX2_cellOf 3 = .ok (.iload_n 0, 1) := by decide +kernel
theorem dX2_cellOf_4 : decode cX2_cellOf 4 = .ok (.imul, 1) := by decide +kernel
theorem dX2_cellOf_5 : decode cX2_cellOf 5 = .ok (.iload_n 1, 1) := by decide +kernel
theorem dX2_cellOf_6 : decode cX2_cellOf 6 = .ok (.iadd, 1) := by decide +kernel
theorem dX2_cellOf_7 : decode cX2_cellOf 7 = .ok (.lshl, 1) := by decide +kernel
theorem dX2_cellOf_8 : decode cX2_cellOf 8 = .ok (.lreturn, 1) := by decide +kernel
set_option maxRecDepth 20000 in
theorem ggX2_cellsOf_X2_cellOf : GoodIn wsX2_cellsOf wsX2_cellOf := goodIn_r _ [4] (by decide +kernel) (by decide +kernel)
set_option maxRecDepth 20000 in
theorem gX2_cellsOf_X2_cellOf : GoodIn wsX2_cellsOf (va_wsS RX2 88 yX2_cellOf wsX2_cellOf) := goodIn_app (goodIn_of _ (by decide +kernel)) ggX2_cellsOf_X2_cellOf
theorem dX2_cellsOf_0 : decode cX2_cellsOf 0 = .ok (.lconst 0, 1) := by decide +kernel
theorem dX2_cellsOf_1 : decode cX2_cellsOf 1 = .ok (.lstore 4, 2) := by decide +kernel
theorem dX2_cellsOf_3 : decode cX2_cellsOf 3 = .ok (.iconst 0, 1) := by decide +kernel
theorem dX2_cellsOf_4 : decode cX2_cellsOf 4 = .ok (.istore 6, 2) := by decide +kernel
theorem dX2_cellsOf_6 : decode cX2_cellsOf 6 = .ok (.iload 6, 2) := by decide +kernel
theorem dX2_cellsOf_8 : decode cX2_cellsOf 8 = .ok (.iload_n 0, 1) := by decide +kernel
theorem dX2_cellsOf_9 : decode cX2_cellsOf 9 = .ok (.if_icmp .ge 43, 3) := by decide +kernel
theorem dX2_cellsOf_12 : decode cX2_cellsOf 12 = .ok (.iload 6, 2) := by decide +kernel
theorem dX2_cellsOf_14 : decode cX2_cellsOf 14 = .ok (.iconst 4, 1) := by decide +kernel
theorem dX2_cellsOf_15 : decode cX2_cellsOf 15 = .ok (.if_icmp .ge 37, 3) := by decide +kernel
theorem dX2_cellsOf_18 : decode cX2_cellsOf 18 = .ok (.lload 4, 2) := by decide +kernel
theorem dX2_cellsOf_20 : decode cX2_cellsOf 20 = .ok (.iload_n 1, 1) := by decide +kernel
theorem dX2_cellsOf_21 : decode cX2_cellsOf 21 = .ok (.ifCond .eq 14, 3) := by decide +kernel
theorem dX2_cellsOf_24 : decode cX2_cellsOf 24 = .ok (.iload_n 2, 1) := by decide +kernel
theorem dX2_cellsOf_25 : decode cX2_cellsOf 25 = .ok (.iload_n 3, 1) := by decide +kernel
theorem dX2_cellsOf_26 : decode cX2_cellsOf 26 = .ok (.iload 6, 2) := by decide +kernel
theorem dX2_cellsOf_28 : decode cX2_cellsOf 28 = .ok (.iadd, 1) := by decide +kernel
theorem dX2_cellsOf_29 : decode cX2_cellsOf 29 = .ok (.invokestatic 88, 3) := by decide +kernel
theorem dX2_cellsOf_32 : decode cX2_cellsOf 32 = .ok (.goto 11, 3) := by decide +kernel
theorem dX2_cellsOf_35 : decode cX2_cellsOf 35 = .ok (.iload_n 2, 1) := by decide +kernel
theorem dX2_cellsOf_36 : decode cX2_cellsOf 36 = .ok (.iload 6, 2) := by decide +kernel
theorem dX2_cellsOf_38 : decode cX2_cellsOf 38 = .ok (.iadd, 1) := by decide +kernel
theorem dX2_cellsOf_39 : decode cX2_cellsOf 39 = .ok (.iload_n 3, 1) := by decide +kernel
theorem dX2_cellsOf_40 : decode cX2_cellsOf 40 = .ok (.invokestatic 88, 3) := by decide +kernel
theorem dX2_cellsOf_43 : decode cX2_cellsOf 43 = .ok (.lor, 1) := by decide +kernel
theorem dX2_cellsOf_44 : decode cX2_cellsOf 44 = .ok (.lstore 4, 2) := by decide +kernel
theorem dX2_cellsOf_46 : decode cX2_cellsOf 46 = .ok (.iinc 6 1, 3) := by decide +kernel
theorem dX2_cellsOf_49 : decode cX2_cellsOf 49 = .ok (.goto (-43), 3) := by decide +kernel
theorem dX2_cellsOf_52 : decode cX2_cellsOf 52 = .ok (.lload 4, 2) := by decide +kernel
theorem dX2_cellsOf_54 : decode cX2_cellsOf 54 = .ok (.lreturn, 1) := by decide +kernel
theorem dX2_placeIn_0 : decode cX2_placeIn 0 = .ok (.iload_n 0, 1) := by decide +kernel
theorem dX2_placeIn_1 : decode cX2_placeIn 1 = .ok (.iconst 3, 1) := by decide +kernel
theorem dX2_placeIn_2 : decode cX2_placeIn 2 = .ok (.iload_n 1, 1) := by decide +kernel
theorem dX2_placeIn_3 : decode cX2_placeIn 3 = .ok (.imul, 1) := by decide +kernel
theorem dX2_placeIn_4 : decode cX2_placeIn 4 = .ok (.ishr, 1) := by decide +kernel
theorem dX2_placeIn_5 : decode cX2_placeIn 5 = .ok (.bipush 7, 2) := by decide +kernel
theorem dX2_placeIn_7 : decode cX2_placeIn 7 = .ok (.iand, 1) := by decide +kernel
theorem dX2_placeIn_8 : decode cX2_placeIn 8 = .ok (.ireturn, 1) := by decide +kernel
theorem dX2_moved_0 : decode cX2_moved 0 = .ok (.iload_n 0, 1) := by decide +kernel
theorem dX2_moved_1 : decode cX2_moved 1 = .ok (.iload_n 2, 1) := by decide +kernel
theorem dX2_moved_2 : decode cX2_moved 2 = .ok (.iconst 1, 1) := by decide +kernel
theorem dX2_moved_3 : decode cX2_moved 3 = .ok (.iconst 3, 1) := by decide +kernel
theorem dX2_moved_4 : decode cX2_moved 4 = .ok (.iload_n 1, 1) := by decide +kernel
theorem dX2_moved_5 : decode cX2_moved 5 = .ok (.imul, 1) := by decide +kernel
theorem dX2_moved_6 : decode cX2_moved 6 = .ok (.ishl, 1) := by decide +kernel
theorem dX2_moved_7 : decode cX2_moved 7 = .ok (.imul, 1) := by decide +kernel
theorem dX2_moved_8 : decode cX2_moved 8 = .ok (.iadd, 1) := by decide +kernel
theorem dX2_moved_9 : decode cX2_moved 9 = .ok (.ireturn, 1) := by decide +kernel
end
section
theorem dJ9_abs_0f7a4_0 : decode cJ9_abs_0f7a4 0 = .ok (.iload_n 0, 1) := by decide +kernel
theorem dJ9_abs_0f7a4_1 : decode cJ9_abs_0f7a4 1 = .ok (.ifCond .ge 8, 3) := by decide +kernel
theorem dJ9_abs_0f7a4_4 : decode cJ9_abs_0f7a4 4 = .ok (.iload_n 0, 1) := by decide +kernel
theorem dJ9_abs_0f7a4_5 : decode cJ9_abs_0f7a4 5 = .ok (.ineg, 1) := by decide +kernel
theorem dJ9_abs_0f7a4_6 : decode cJ9_abs_0f7a4 6 = .ok (.goto 4, 3) := by decide +kernel
theorem dJ9_abs_0f7a4_9 : decode cJ9_abs_0f7a4 9 = .ok (.iload_n 0, 1) := by decide +kernel
theorem dJ9_abs_0f7a4_10 : decode cJ9_abs_0f7a4 10 = .ok (.ireturn, 1) := by decide +kernel
theorem dJ7_fill_53178_0 : decode cJ7_fill_53178 0 = .ok (.iconst 0, 1) := by decide +kernel
theorem dJ7_fill_53178_1 : decode cJ7_fill_53178 1 = .ok (.istore_n 2, 1) := by decide +kernel
theorem dJ7_fill_53178_2 : decode cJ7_fill_53178 2 = .ok (.aload_n 0, 1) := by decide +kernel
theorem dJ7_fill_53178_3 : decode cJ7_fill_53178 3 = .ok (.arraylength, 1) := by decide +kernel
theorem dJ7_fill_53178_4 : decode cJ7_fill_53178 4 = .ok (.istore_n 3, 1) := by decide +kernel
theorem dJ7_fill_53178_5 : decode cJ7_fill_53178 5 = .ok (.iload_n 2, 1) := by decide +kernel
theorem dJ7_fill_53178_6 : decode cJ7_fill_53178 6 = .ok (.iload_n 3, 1) := by decide +kernel
theorem dJ7_fill_53178_7 : decode cJ7_fill_53178 7 = .ok (.if_icmp .ge 13, 3) := by decide +kernel
theorem dJ7_fill_53178_10 : decode cJ7_fill_53178 10 = .ok (.aload_n 0, 1) := by decide +kernel
theorem dJ7_fill_53178_11 : decode cJ7_fill_53178 11 = .ok (.iload_n 2, 1) := by decide +kernel
theorem dJ7_fill_53178_12 : decode cJ7_fill_53178 12 = .ok (.iload_n 1, 1) := by decide +kernel
theorem dJ7_fill_53178_13 : decode cJ7_fill_53178 13 = .ok (.iastore, 1) := by decide +kernel
theorem dJ7_fill_53178_14 : decode cJ7_fill_53178 14 = .ok (.iinc 2 1, 3) := by decide +kernel
theorem dJ7_fill_53178_17 : decode cJ7_fill_53178 17 = .ok (.goto (-12), 3) := by decide +kernel
theorem dJ7_fill_53178_20 : decode cJ7_fill_53178 20 = .ok (.return_, 1) := by decide +kernel
end
section
/-! What every contract here stands on: the nest mates' links, contracts that only read (ro_), contracts that write (rw_) -/
def nx_ws : List Cond := [.methodLinkNest RX2 9 yX1_init RX2, .methodLinkNest RX1 42 yX2_placeIn RX2, .methodLinkNest RX0 65 yX2_placeIn RX2, .methodLinkNest RX0 96 yX2_moved RX2, .methodLinkNest RX1 30 yX2_cellsOf RX2]
def nx_Ok (U : State) : Prop := ∀ w ∈ nx_ws, va_Nw w U
theorem nx_tab : ∀ w ∈ nx_ws, w.onTables = true := by
  intro w hw
  simp only [nx_ws, List.mem_cons, List.not_mem_nil, or_false] at hw
  rcases hw with rfl | rfl | rfl | rfl | rfl <;> rfl
theorem nx_Ok.same {u U : State} (h : u.vm = U.vm) (q : nx_Ok u) : nx_Ok U := fun w hw => va_Nw.same (nx_tab w hw) h (q w hw)
theorem nx_Ok.warm {s U : State} (hW : s.WarmedH U.vm) (q : nx_Ok s) : nx_Ok U := by
  intro w hw
  have h := q w hw
  simp only [nx_ws, List.mem_cons, List.not_mem_nil, or_false] at hw
  rcases hw with rfl | rfl | rfl | rfl | rfl <;> exact va_Nw.warmM hW h
theorem nx_get {U : State} {k : Nat} {w : Cond} (q : nx_Ok U) (h : nx_ws[k]? = some w) : va_Nw w U := q w (List.mem_of_getElem? h)
abbrev ro_A (sz : Nat) : Nat → Prop := fun q => sz ≤ q
def ro_Pc (D : va_G) (tys : List (ClassId × FieldType)) (ws : va_W) (sz : Nat) (av : List Value) : Array Value → State → Prop := va_Pc av (fun U => U.heap.size = sz ∧ va_P D vwCl ws U.heap ∧ va_K D vwCl tys U ∧ nx_Ok U)
theorem ro_blind {D : va_G} {tys : List (ClassId × FieldType)} {ws : va_W} {sz : Nat} {av : List Value} : FrameBlind (ro_Pc D tys ws sz av) := fun a U g mk q => by
  obtain ⟨q0, q1, qP, qK, qN⟩ := q
  exact ⟨q0, q1, qP, va_K.moved (u := U) (U := U.calling g mk a) (Vm.Alike.refl U.vm) qK, nx_Ok.same (u := U) (U := U.calling g mk a) rfl qN⟩
abbrev ro_Qi (f : Int32) (sz : Nat) : Array Value → State → Outcome → State → Prop := va_Qi (fun (r : Int32) (_ : Unit) => r = f) (fun _ _ => True) (ro_A sz)
abbrev ro_Ql (f : Int64) (sz : Nat) : Array Value → State → Outcome → State → Prop := va_Ql (fun (r : Int64) (_ : Unit) => r = f) (fun _ _ => True) (ro_A sz)
theorem ro_pre {s : State} {H : Heap} {D : va_G} {tys : List (ClassId × FieldType)} {wc : va_W} {av : List Value} (hPc : va_P D vwCl wc H) (hK : va_K D vwCl tys s) (hN : nx_Ok s) : ∀ U : State, U.heap = H → s.WarmedH U.vm → ro_Pc D tys wc H.size av av.toArray U := fun U hU hW => ⟨rfl, by rw [hU], by rw [hU]; exact hPc, va_K.moved hW.alike hK, nx_Ok.warm hW hN⟩
def rw_Pc (D : va_G) (tys : List (ClassId × FieldType)) (ws : va_W) (sz : Nat) (av : List Value) : Array Value → State → Prop := va_Pc av (fun U => U.heap.size = sz ∧ va_P D vwCl ws U.heap ∧ va_K D vwCl tys U ∧ va_D (fun _ => True) ws ∧ nx_Ok U)
theorem rw_blind {D : va_G} {tys : List (ClassId × FieldType)} {ws : va_W} {sz : Nat} {av : List Value} : FrameBlind (rw_Pc D tys ws sz av) := fun a U g mk q => by
  obtain ⟨q0, q1, qP, qK, qD, qN⟩ := q
  exact ⟨q0, q1, qP, va_K.moved (u := U) (U := U.calling g mk a) (Vm.Alike.refl U.vm) qK, qD, nx_Ok.same (u := U) (U := U.calling g mk a) rfl qN⟩
theorem rw_pre {s : State} {H : Heap} {D : va_G} {A : Nat → Prop} {tys : List (ClassId × FieldType)} {wc : va_W} {av : List Value} (hPc : va_P D vwCl wc H) (hDc : va_D A wc) (hK : va_K D vwCl tys s) (hN : nx_Ok s) : ∀ U : State, U.heap = H → s.WarmedH U.vm → rw_Pc D tys wc H.size av av.toArray U := fun U hU hW => ⟨rfl, by rw [hU], by rw [hU]; exact hPc, va_K.moved hW.alike hK, hDc.weaken (fun _ _ _ _ => trivial), nx_Ok.warm hW hN⟩
/-- a void method: the state f, held by the cells w f -/
abbrev rw_Qv {S : Type} (f : S) (w : S → va_W) (D : va_G) (ws0 : va_W) (sz : Nat) : Array Value → State → Outcome → State → Prop := va_Qv (fun u : S => u = f) (fun u t => va_P D vwCl (w u) t.heap ∧ va_D (va_A ws0 sz) (w u)) (va_A ws0 sz)
abbrev rw_Qi {S : Type} (g : Int32) (f : S) (w : S → va_W) (D : va_G) (ws0 : va_W) (sz : Nat) : Array Value → State → Outcome → State → Prop := va_Qi (fun (r : Int32) (u : S) => r = g ∧ u = f) (fun u t => va_P D vwCl (w u) t.heap ∧ va_D (va_A ws0 sz) (w u)) (va_A ws0 sz)
theorem va_P0 {D : va_G} {H : Heap} : va_P D vwCl [] H := fun k q h => by simp at h
/-- a part of a world, by places -/
theorem va_P.subm {D : va_G} {cl : List vw_C} {ws ws' : va_W} {H : Heap} (h : va_P D cl ws H) (is : List Nat) (hs : is.map (fun i => ws[i]?) = ws'.map some) : va_P D cl ws' H := by
  intro k q hk
  have h1 : (is.map (fun i => ws[i]?))[k]? = some (some q) := by rw [hs, List.getElem?_map, hk]; rfl
  rw [List.getElem?_map] at h1
  cases hi : is[k]? with
  | none => rw [hi] at h1; cases h1
  | some i => rw [hi] at h1; exact h i q (Option.some.inj h1)
section RoRw
variable {p : Program} {l : Launch} {e : Env} {R : Room} {s : State} {m : MethodId} {args : Array Value} {below : List Frame} {meth : Method} {c : Code} {H : Heap} {locs : List Loc} {cells slots : Nat} {Q : State → Prop}
variable {A0 : Nat → Prop} {H0 : Heap} {pc : Nat} {ls : Array Slot} {st0 rest : List Value} {D : va_G} {ws wc wr ws' : va_W} {av : Array Value}
theorem ro_i {f : Int32} (hr : va_Run p l e R s m args below meth c H locs cells slots 0 0 (F0 m pc ls st0) rest (ro_Qi f H.size av) (ro_A H.size)) (hS : va_S A0 H0 H locs) (hA : ∀ q, H0.size ≤ q → A0 q) (hP : va_P D vwCl ws H)
    (kk : ∀ (H1 : Heap) (locs1 : List Loc), va_P D vwCl ws H1 → va_S A0 H0 H1 locs1 → W p l e R s m args below meth c H1 locs1 cells slots Q (F0 m (pc + 3) ls (.int f :: rest))) : W p l e R s m args below meth c H locs cells slots Q (F0 m pc ls st0) := by
  refine va_calli hr hS (fun q h1 h2 => absurd h1 (Nat.not_lt.mpr h2)) (fun q h => hA q (Nat.le_trans hS.1 h)) (fun r u t H1 locs1 ht hvm hp hb hz hk hS1 => ?_)
  subst hp
  exact kk H1 locs1 (va_P.kept hP (fun k q hq => hk q.1 (hP k q hq).lt (Nat.not_le.mpr (hP k q hq).lt))) hS1
theorem ro_l {f : Int64} (hr : va_Run p l e R s m args below meth c H locs cells slots 0 0 (F0 m pc ls st0) rest (ro_Ql f H.size av) (ro_A H.size)) (hS : va_S A0 H0 H locs) (hA : ∀ q, H0.size ≤ q → A0 q) (hP : va_P D vwCl ws H)
    (kk : ∀ (H1 : Heap) (locs1 : List Loc), va_P D vwCl ws H1 → va_S A0 H0 H1 locs1 → W p l e R s m args below meth c H1 locs1 cells slots Q (F0 m (pc + 3) ls (.long f :: rest))) : W p l e R s m args below meth c H locs cells slots Q (F0 m pc ls st0) := by
  refine va_calll hr hS (fun q h1 h2 => absurd h1 (Nat.not_lt.mpr h2)) (fun q h => hA q (Nat.le_trans hS.1 h)) (fun r u t H1 locs1 ht hvm hp hb hz hk hS1 => ?_)
  subst hp
  exact kk H1 locs1 (va_P.kept hP (fun k q hq => hk q.1 (hP k q hq).lt (Nat.not_le.mpr (hP k q hq).lt))) hS1
theorem rw_v {S : Type} {f : S} {w : S → va_W} (hr : va_Run p l e R s m args below meth c H locs cells slots 0 0 (F0 m pc ls st0) rest (rw_Qv f w D wc H.size av) (va_A wc H.size)) (hS : va_S A0 H0 H locs) (hA : ∀ q, H0.size ≤ q → A0 q) (hP : va_P D vwCl ws H) (hD : va_D A0 ws)
    (isC isR perm : List Nat) (hC : isC.map (fun i => ws[i]?) = wc.map some) (hR : isR.map (fun i => ws[i]?) = wr.map some) (hn : va_nd isR = true) (hdis : ∀ i ∈ isR, i ∉ isC) (hperm : perm.map (fun i => (wr ++ w f)[i]?) = ws'.map some) (hpn : va_nd perm = true)
    (kk : ∀ (H1 : Heap) (locs1 : List Loc), va_P D vwCl ws' H1 → va_D A0 ws' → va_S A0 H0 H1 locs1 → W p l e R s m args below meth c H1 locs1 cells slots Q (F0 m (pc + 3) ls rest)) : W p l e R s m args below meth c H locs cells slots Q (F0 m pc ls st0) := by
  have hF := va_free (wc := wc) hD hS hA isC hC
  refine va_callv hr hS (fun q _ h => hF q h) hF (fun u t H1 locs1 ht hvm hp hb hz hk hS1 => ?_)
  subst hp
  obtain ⟨hP1, hD1⟩ := hb
  rw [ht] at hP1
  obtain ⟨hP2, hD2⟩ := va_join (wr := wr) hP hD isC isR hC hR hn hdis hk hF hP1 hD1
  exact kk H1 locs1 (hP2.subm perm hperm) (hD2.sub perm hpn hperm) hS1
theorem rw_i {S : Type} {g : Int32} {f : S} {w : S → va_W} (hr : va_Run p l e R s m args below meth c H locs cells slots 0 0 (F0 m pc ls st0) rest (rw_Qi g f w D wc H.size av) (va_A wc H.size)) (hS : va_S A0 H0 H locs) (hA : ∀ q, H0.size ≤ q → A0 q) (hP : va_P D vwCl ws H) (hD : va_D A0 ws)
    (isC isR perm : List Nat) (hC : isC.map (fun i => ws[i]?) = wc.map some) (hR : isR.map (fun i => ws[i]?) = wr.map some) (hn : va_nd isR = true) (hdis : ∀ i ∈ isR, i ∉ isC) (hperm : perm.map (fun i => (wr ++ w f)[i]?) = ws'.map some) (hpn : va_nd perm = true)
    (kk : ∀ (H1 : Heap) (locs1 : List Loc), va_P D vwCl ws' H1 → va_D A0 ws' → va_S A0 H0 H1 locs1 → W p l e R s m args below meth c H1 locs1 cells slots Q (F0 m (pc + 3) ls (.int g :: rest))) : W p l e R s m args below meth c H locs cells slots Q (F0 m pc ls st0) := by
  have hF := va_free (wc := wc) hD hS hA isC hC
  refine va_calli hr hS (fun q _ h => hF q h) hF (fun r u t H1 locs1 ht hvm hp hb hz hk hS1 => ?_)
  obtain ⟨rfl, rfl⟩ := hp
  obtain ⟨hP1, hD1⟩ := hb
  rw [ht] at hP1
  obtain ⟨hP2, hD2⟩ := va_join (wr := wr) hP hD isC isR hC hR hn hdis hk hF hP1 hD1
  exact kk H1 locs1 (hP2.subm perm hperm) (hD2.sub perm hpn hperm) hS1
end RoRw
/-! the class's state: Yard (sizes, acrosses, lines, shapes, how many, ramp) -/
abbrev YS : Type := (Nat → Int32) × (Nat → Int32) × (Nat → Int32) × (Nat → Int64) × Nat × Int64
abbrev y_sz (Y : YS) : Nat → Int32 := Y.1
abbrev y_ac (Y : YS) : Nat → Int32 := Y.2.1
abbrev y_li (Y : YS) : Nat → Int32 := Y.2.2.1
abbrev y_sh (Y : YS) : Nat → Int64 := Y.2.2.2.1
abbrev y_n (Y : YS) : Nat := Y.2.2.2.2.1
abbrev y_rp (Y : YS) : Int64 := Y.2.2.2.2.2
/-- Search: found, origins, moveCodes, slots; foundCount, firstSolved, solvedMoves, solvedCells, solvedFirstMove -/
abbrev SS : Type := (Nat → Int32) × (Nat → Int32) × (Nat → Int32) × (Nat → Int32) × Int32 × Int32 × Int32 × Int32 × Int32
abbrev s_fo (S : SS) : Nat → Int32 := S.1
abbrev s_or (S : SS) : Nat → Int32 := S.2.1
abbrev s_mo (S : SS) : Nat → Int32 := S.2.2.1
abbrev s_sl (S : SS) : Nat → Int32 := S.2.2.2.1
abbrev s_fc (S : SS) : Int32 := S.2.2.2.2.1
abbrev s_fs (S : SS) : Int32 := S.2.2.2.2.2.1
abbrev s_sm (S : SS) : Int32 := S.2.2.2.2.2.2.1
abbrev s_sc (S : SS) : Int32 := S.2.2.2.2.2.2.2.1
abbrev s_sf (S : SS) : Int32 := S.2.2.2.2.2.2.2.2
/-- RampJam: parkedPosition, position, moveCount, drivenCells, isSearched -/
abbrev JS : Type := Int32 × Int32 × Int32 × Int32 × Int32
abbrev j_pp (J : JS) : Int32 := J.1
abbrev j_po (J : JS) : Int32 := J.2.1
abbrev j_mc (J : JS) : Int32 := J.2.2.1
abbrev j_dc (J : JS) : Int32 := J.2.2.2.1
abbrev j_is (J : JS) : Int32 := J.2.2.2.2
/-- the cells: a 0 RampJam, a 1 Search and a 2 .. a 5 its rows, a 6 Yard and a 7 .. a 10 its rows -/
abbrev wY (cI cZ cJ : ClassId) (a : Nat → Nat) (Y : YS) : va_W := [(a 6, .inr (1, [.ref (a 7), .ref (a 8), .ref (a 9), .ref (a 10), .int (nI (y_n Y)), .long (y_rp Y)])), (a 7, .inl (cI, 9, .inl (y_sz Y))), (a 8, .inl (cZ, 9, .inl (y_ac Y))), (a 9, .inl (cI, 9, .inl (y_li Y))), (a 10, .inl (cJ, 9, .inr (.inl (y_sh Y))))]
abbrev wS (cI cZ cJ : ClassId) (a : Nat → Nat) (S : SS) (Y : YS) : va_W := [(a 1, .inr (0, [.ref (a 6), .ref (a 2), .ref (a 3), .ref (a 4), .ref (a 5), .int (s_fc S), .int (s_fs S), .int (s_sm S), .int (s_sc S), .int (s_sf S)])), (a 2, .inl (cI, 800, .inl (s_fo S))), (a 3, .inl (cI, 800, .inl (s_or S))), (a 4, .inl (cI, 800, .inl (s_mo S))), (a 5, .inl (cI, 2048, .inl (s_sl S))), (a 6, .inr (1, [.ref (a 7), .ref (a 8), .ref (a 9), .ref (a 10), .int (nI (y_n Y)), .long (y_rp Y)])), (a 7, .inl (cI, 9, .inl (y_sz Y))), (a 8, .inl (cZ, 9, .inl (y_ac Y))), (a 9, .inl (cI, 9, .inl (y_li Y))), (a 10, .inl (cJ, 9, .inr (.inl (y_sh Y))))]
abbrev wJ (cI cZ cJ : ClassId) (a : Nat → Nat) (J : JS) (S : SS) (Y : YS) : va_W := (a 0, .inr (2, [.ref (a 6), .ref (a 1), .int (j_pp J), .int (j_po J), .int (j_mc J), .int (j_dc J), .int (j_is J)])) :: wS cI cZ cJ a S Y
end
section
/-! What the methods of the class answer, written as functions over the machine's own numbers -/
abbrev b1 (P : Prop) [Decidable P] : Int32 := if P then 1 else 0
theorem b1_t {P : Prop} [Decidable P] (h : ¬ b1 P = 0) : P := by
  by_cases hp : P
  · exact hp
  · exact absurd (by simp [b1, hp]) h
theorem b1_f {P : Prop} [Decidable P] (h : b1 P = 0) : ¬ P := by
  intro hp
  simp [b1, hp] at h
theorem lg_t {x y : Int64} (h : lg_cmp x y = 0) : x = y := (lg_cmp_eq x y).mp h
theorem lg_f {x y : Int64} (h : ¬ lg_cmp x y = 0) : ¬ x = y := fun q => h ((lg_cmp_eq x y).mpr q)
theorem nx_ge {n k : Nat} (hn : n < 2147483648) (hk : k < 2147483648) (h : nI n ≤ nI k) : n ≤ k := (nI_leI hn hk).mp h
theorem nx_lt {n k : Nat} (hn : n < 2147483648) (hk : k < 2147483648) (h : ¬ nI n ≤ nI k) : k < n := Nat.not_le.mp (fun q => h ((nI_leI hn hk).mpr q))
theorem cl_toNat (x : Int32) : x.toNatClampNeg = x.toInt.toNat := rfl
theorem cl_bound (x : Int32) : x.toNatClampNeg < 2147483648 := by
  have := Int32.toInt_lt x
  rw [cl_toNat]; omega
theorem cl_lt {x : Int32} {k : Nat} (hk : k < 2147483648) (h : ¬ x ≤ nI k) : k < x.toNatClampNeg := by
  have h2 : (nI k).toInt = k := nI_toInt hk
  rw [Int32.le_iff_toInt_le, h2] at h
  rw [cl_toNat]; omega
theorem cl_ge {x : Int32} {k : Nat} (hk : k < 2147483648) (h : x ≤ nI k) : x.toNatClampNeg ≤ k := by
  have h2 : (nI k).toInt = k := nI_toInt hk
  rw [Int32.le_iff_toInt_le, h2] at h
  rw [cl_toNat]; omega
theorem nx_nl {x y : Int32} (h : ¬ y < x) : x ≤ y := Int32.not_lt.mp h
theorem nx_le {x y : Int32} (h : y < x) : ¬ x ≤ y := Int32.not_le.mpr h
def pl (x v : Int32) : Int32 := (x >>> ((3 * v) &&& 31)) &&& 7
def mv (x v c : Int32) : Int32 := x + c * (1 <<< ((3 * v) &&& 31))
abbrev inY (r c : Int32) : Prop := ¬ r < 0 ∧ ¬ 6 ≤ r ∧ ¬ c < 0 ∧ ¬ 6 ≤ c
def co (r c : Int32) : Int64 := 1 <<< ((6 * r + c).toInt64 &&& 63)
def cso (ac r c : Int32) : Nat → Int64
  | 0 => 0
  | k + 1 => cso ac r c k ||| (if ac = 0 then co (r + nI k) c else co r (c + nI k))
abbrev y_has (Y : YS) (v : Int32) : Prop := ¬ v < 0 ∧ ¬ nI (y_n Y) ≤ v ∧ ¬ 9 ≤ v
theorem cl_in {v : Int32} {n : Nat} (h0 : ¬ v < 0) (h : ¬ nI n ≤ v) (hn : n < 2147483648) : vp_in v n := by
  have h2 : (nI n).toInt = n := nI_toInt hn
  rw [vp_in_iff]
  rw [Int32.lt_iff_toInt_lt] at h0
  rw [Int32.le_iff_toInt_le, h2] at h
  have : (0 : Int32).toInt = 0 := rfl
  omega
theorem y_has_in {Y : YS} {v : Int32} (h : y_has Y v) : vp_in v 9 := cl_in (n := 9) h.1 h.2.2 (by decide)
abbrev y_lor (Y : YS) (v : Int32) : Prop := y_has Y v ∧ ¬ y_sz Y v.toNatClampNeg ≤ 2
def y_line (Y : YS) (v : Int32) : Int32 := if y_has Y v then y_li Y v.toNatClampNeg else 0
def y_bar (Y : YS) (sz : Int32) : Int64 := if sz ≤ 2 then 0 else y_rp Y
abbrev y_acr (Y : YS) (v : Int32) : Prop := y_has Y v ∧ ¬ y_ac Y v.toNatClampNeg = 0
def y_str (Y : YS) (v : Int32) : Int32 := if y_ac Y v.toNatClampNeg = 0 then 6 else 1
def y_cel (Y : YS) (x v : Int32) : Int64 := if y_has Y v then y_sh Y v.toNatClampNeg <<< ((y_str Y v * pl x v).toInt64 &&& 63) else 0
def y_fil (Y : YS) (x : Int32) : Nat → Int64
  | 0 => 0
  | k + 1 => y_fil Y x k ||| y_cel Y x (nI k)
def y_on (Y : YS) (x : Int32) (cell : Int64) : Nat → Nat → Int32
  | 0, _ => -1
  | d + 1, k => if y_cel Y x (nI k) &&& cell = 0 then y_on Y x cell d (k + 1) else nI k
def y_tb (Y : YS) (x v dir : Int32) : Int32 := if dir = 1 then 6 - y_sz Y v.toNatClampNeg - pl x v else pl x v
def y_shf (dir st : Int32) (c : Int64) : Int64 := if dir = 1 then c <<< (st.toInt64 &&& 63) else (c.toUInt64 >>> (st.toInt64.toUInt64 &&& Int64.toUInt64 63)).toInt64
def y_brd (Y : YS) (x : Int32) (fil : Int64) (v : Int32) : Int64 := (fil &&& (y_cel Y x v ^^^ (-1))) ||| y_bar Y (y_sz Y v.toNatClampNeg)
def y_wl (bar : Int64) (dir st tb : Int32) : Nat → Nat → Int64 → Int32
  | 0, _, _ => tb
  | d + 1, k, c => if y_shf dir st c &&& bar = 0 then y_wl bar dir st tb d (k + 1) (y_shf dir st c) else nI k
def y_way (Y : YS) (x : Int32) (fil : Int64) (v dir : Int32) : Int32 :=
  if y_has Y v then y_wl (y_brd Y x fil v) dir (y_str Y v) (y_tb Y x v dir) (y_tb Y x v dir).toNatClampNeg 0 (y_cel Y x v) else 0
def y_csh (size ac line : Int32) : Int64 := if ac = 0 then cso 0 0 line (min size.toNatClampNeg 4) else cso 1 line 0 (min size.toNatClampNeg 4)
def y_add (Y : YS) (size ac line : Int32) : YS := if y_n Y < 9 then (upd (y_sz Y) (y_n Y) size, upd (y_ac Y) (y_n Y) (vp_nar .boolean ac), upd (y_li Y) (y_n Y) line, vp_updL (y_sh Y) (y_n Y) (y_csh size ac line), y_n Y + 1, y_rp Y) else Y
def y_put (Y : YS) (cell : Int64) : YS := (y_sz Y, y_ac Y, y_li Y, y_sh Y, y_n Y, cell)
theorem y_wl_out {bar : Int64} {dir st tb : Int32} {k : Nat} {c : Int64} (h : tb ≤ nI k) (hk : k < 2147483648) : y_wl bar dir st tb (tb.toNatClampNeg - k) k c = tb := by
  have h2 := cl_ge hk h
  rw [show tb.toNatClampNeg - k = 0 by omega]; rfl
theorem y_wl_in {bar : Int64} {dir st tb : Int32} {k : Nat} {c : Int64} (h : k < tb.toNatClampNeg) : y_wl bar dir st tb (tb.toNatClampNeg - k) k c = if y_shf dir st c &&& bar = 0 then y_wl bar dir st tb (tb.toNatClampNeg - (k + 1)) (k + 1) (y_shf dir st c) else nI k := by
  obtain ⟨d, hd⟩ : ∃ d, tb.toNatClampNeg - k = d + 1 := ⟨tb.toNatClampNeg - k - 1, by omega⟩
  rw [hd, show tb.toNatClampNeg - (k + 1) = d by omega]; rfl
theorem y_on_in {Y : YS} {x : Int32} {cell : Int64} {n k : Nat} (h : k < n) : y_on Y x cell (n - k) k = if y_cel Y x (nI k) &&& cell = 0 then y_on Y x cell (n - (k + 1)) (k + 1) else nI k := by
  obtain ⟨d, hd⟩ : ∃ d, n - k = d + 1 := ⟨n - k - 1, by omega⟩
  rw [hd, show n - (k + 1) = d by omega]; rfl
theorem cl_in800 {v : Int32} (h0 : ¬ v < 0) (h : ¬ 800 ≤ v) : vp_in v 800 := cl_in (n := 800) h0 h (by decide)
theorem cl_in2048 {v : Int32} (h0 : ¬ v < 0) (h : ¬ 2048 ≤ v) : vp_in v 2048 := cl_in (n := 2048) h0 h (by decide)
abbrev iabs (x : Int32) : Int32 := if 0 ≤ x then x else 0 - x
abbrev s_isF (S : SS) (i : Int32) : Prop := ¬ i < 0 ∧ ¬ s_fc S ≤ i ∧ ¬ 800 ≤ i
theorem s_isF_in {S : SS} {i : Int32} (h : s_isF S i) : vp_in i 800 := cl_in800 h.1 h.2.2
def h_first (x : Int32) : Int32 := ((x * (-1640531535)).toUInt32 >>> ((21 : Int32).toUInt32 &&& Int32.toUInt32 31)).toInt32
def h_slot (x : Int32) (k : Nat) : Int32 := (h_first x + nI k) &&& 2047
theorem h_slot_in (y : Int32) : vp_in (y &&& 2047) 2048 := pk_andIn y (m := 2047) 11 (by decide) (by decide)
abbrev s_stop (S : SS) (x : Int32) (k : Nat) : Prop := s_sl S (h_slot x k).toNatClampNeg - 1 < 0 ∨ 800 ≤ s_sl S (h_slot x k).toNatClampNeg - 1 ∨ s_fo S (s_sl S (h_slot x k).toNatClampNeg - 1).toNatClampNeg = x
def s_slotL (S : SS) (x : Int32) : Nat → Nat → Int32
  | 0, _ => -1
  | d + 1, k => if s_stop S x k then h_slot x k else s_slotL S x d (k + 1)
theorem s_slotL_in {S : SS} {x : Int32} {k : Nat} (h : k < 2048) : s_slotL S x (2048 - k) k = if s_stop S x k then h_slot x k else s_slotL S x (2048 - (k + 1)) (k + 1) := by
  obtain ⟨d, hd⟩ : ∃ d, 2048 - k = d + 1 := ⟨2048 - k - 1, by omega⟩
  rw [hd, show 2048 - (k + 1) = d by omega]; rfl
def s_slot (S : SS) (x : Int32) : Int32 := s_slotL S x 2048 0
abbrev s_full (S : SS) (sl : Int32) : Prop := s_fc S < 0 ∨ 800 ≤ s_fc S ∨ sl < 0 ∨ 2048 ≤ sl ∨ ¬ s_sl S sl.toNatClampNeg = 0
def s_addN (S : SS) (x o c : Int32) : SS := if s_full S (s_slot S x) then S else
  (upd (s_fo S) (s_fc S).toNatClampNeg x, upd (s_or S) (s_fc S).toNatClampNeg o, upd (s_mo S) (s_fc S).toNatClampNeg c, upd (s_sl S) (s_slot S x).toNatClampNeg (s_fc S + 1), s_fc S + 1, if s_fs S = -1 ∧ pl x 0 = 4 then s_fc S else s_fs S, s_sm S, s_sc S, s_sf S)
def m_code (v c : Int32) : Int32 := 10 * v + c + 4
def m_cells (x : Int32) : Int32 := x - x / 10 * 10 - 4
def s_drvL (o v dir way : Int32) : Nat → Nat → SS → SS
  | 0, _, S => S
  | d + 1, k, S => if nI k ≤ way ∧ nI k ≤ 4 then s_drvL o v dir way d (k + 1) (s_addN S (mv (s_fo S o.toNatClampNeg) v (dir * nI k)) o (m_code v (dir * nI k))) else S
theorem s_drvL_in {o v dir way : Int32} {k : Nat} {S : SS} (h : k < 5) : s_drvL o v dir way (5 - k) k S = if nI k ≤ way ∧ nI k ≤ 4 then s_drvL o v dir way (5 - (k + 1)) (k + 1) (s_addN S (mv (s_fo S o.toNatClampNeg) v (dir * nI k)) o (m_code v (dir * nI k))) else S := by
  obtain ⟨d, hd⟩ : ∃ d, 5 - k = d + 1 := ⟨5 - k - 1, by omega⟩
  rw [hd, show 5 - (k + 1) = d by omega]; rfl
theorem s_drvL_out {o v dir way : Int32} {k : Nat} {S : SS} (h : ¬ (nI k ≤ way ∧ nI k ≤ 4)) : s_drvL o v dir way (5 - k) k S = S := by
  cases hd : 5 - k with
  | zero => rfl
  | succ d => rw [s_drvL, if_neg h]
def s_drv (S : SS) (o v dir way : Int32) : SS := if s_isF S o then s_drvL o v dir way 4 1 S else S
def s_reachL (Y : YS) (o x : Int32) (fil : Int64) : Nat → Nat → SS → SS
  | 0, _, S => S
  | d + 1, k, S => s_reachL Y o x fil d (k + 1) (s_drv (s_drv S o (nI k) (-1) (y_way Y x fil (nI k) (-1))) o (nI k) 1 (y_way Y x fil (nI k) 1))
theorem s_reachL_in {Y : YS} {o x : Int32} {fil : Int64} {n k : Nat} {S : SS} (h : k < n) : s_reachL Y o x fil (n - k) k S = s_reachL Y o x fil (n - (k + 1)) (k + 1) (s_drv (s_drv S o (nI k) (-1) (y_way Y x fil (nI k) (-1))) o (nI k) 1 (y_way Y x fil (nI k) 1)) := by
  obtain ⟨d, hd⟩ : ∃ d, n - k = d + 1 := ⟨n - k - 1, by omega⟩
  rw [hd, show n - (k + 1) = d by omega]; rfl
def s_reach (Y : YS) (S : SS) (o : Int32) : SS := if s_isF S o then s_reachL Y o (s_fo S o.toNatClampNeg) (y_fil Y (s_fo S o.toNatClampNeg) (y_n Y)) (y_n Y) 0 S else S
def s_lookL (Y : YS) : Nat → Nat → SS → SS
  | 0, _, S => S
  | d + 1, k, S => if ¬ s_fc S ≤ nI k ∧ ¬ 800 ≤ s_fc S then s_lookL Y d (k + 1) (s_reach Y S (nI k)) else S
theorem s_lookL_in {Y : YS} {k : Nat} {S : SS} (h : k < 800) : s_lookL Y (800 - k) k S = if ¬ s_fc S ≤ nI k ∧ ¬ 800 ≤ s_fc S then s_lookL Y (800 - (k + 1)) (k + 1) (s_reach Y S (nI k)) else S := by
  obtain ⟨d, hd⟩ : ∃ d, 800 - k = d + 1 := ⟨800 - k - 1, by omega⟩
  rw [hd, show 800 - (k + 1) = d by omega]; rfl
theorem s_lookL_out {Y : YS} {k : Nat} {S : SS} (h : ¬ (¬ s_fc S ≤ nI k ∧ ¬ 800 ≤ s_fc S)) : s_lookL Y (800 - k) k S = S := by
  cases hd : 800 - k with
  | zero => rfl
  | succ d => rw [s_lookL, if_neg h]
theorem s_look_lt {S : SS} {k : Nat} (hk : k < 2147483648) (h1 : ¬ s_fc S ≤ nI k) (h2 : ¬ 800 ≤ s_fc S) : k < 800 := by
  have e1 : (nI k).toInt = k := nI_toInt hk
  have e2 : (800 : Int32).toInt = 800 := rfl
  rw [Int32.le_iff_toInt_le] at h1 h2
  omega
def s_trL : Nat → Nat → Int32 → SS → SS
  | 0, _, _, S => S
  | d + 1, k, ix, S => if ¬ ix ≤ 0 ∧ s_isF S ix then s_trL d (k + 1) (s_or S ix.toNatClampNeg) (s_fo S, s_or S, s_mo S, s_sl S, s_fc S, s_fs S, nI k, s_sc S + iabs (m_cells (s_mo S ix.toNatClampNeg)), s_mo S ix.toNatClampNeg) else S
theorem s_trL_in {k : Nat} {ix : Int32} {S : SS} (h : k < 800) : s_trL (800 - k) k ix S = if ¬ ix ≤ 0 ∧ s_isF S ix then s_trL (800 - (k + 1)) (k + 1) (s_or S ix.toNatClampNeg) (s_fo S, s_or S, s_mo S, s_sl S, s_fc S, s_fs S, nI k, s_sc S + iabs (m_cells (s_mo S ix.toNatClampNeg)), s_mo S ix.toNatClampNeg) else S := by
  obtain ⟨d, hd⟩ : ∃ d, 800 - k = d + 1 := ⟨800 - k - 1, by omega⟩
  rw [hd, show 800 - (k + 1) = d by omega]; rfl
def s_tr0 (S : SS) : SS := (s_fo S, s_or S, s_mo S, s_sl S, s_fc S, s_fs S, if s_fs S = -1 then -1 else 0, 0, -1)
def s_trace (S : SS) : SS := s_trL 799 1 (s_fs S) (s_tr0 S)
def fillF (f : Nat → Int32) (n : Nat) (v : Int32) : Nat → Int32 := fun j => if j < n then v else f j
theorem fillF_0 (f : Nat → Int32) (v : Int32) : fillF f 0 v = f := by
  funext j; simp [fillF]
theorem fillF_succ {f : Nat → Int32} {k : Nat} {v : Int32} : upd (fillF f k v) k v = fillF f (k + 1) v := by
  funext j
  by_cases h : j = k
  · subst h; rw [pk_us]; simp [fillF]
  · rw [pk_un h]; simp only [fillF]
    by_cases h2 : j < k
    · rw [if_pos h2, if_pos (by omega)]
    · rw [if_neg h2, if_neg (by omega)]
def s_new (S : SS) : SS := (s_fo S, s_or S, s_mo S, fillF (s_sl S) 2048 0, 0, -1, s_sm S, s_sc S, s_sf S)
def s_look (Y : YS) (S : SS) (x : Int32) : SS := s_trace (s_lookL Y 800 0 (s_addN (s_new S) x 0 0))
def s_fat (S : SS) (v p : Int32) : Nat → Nat → Int32
  | 0, _ => 0
  | d + 1, k => if ¬ s_fc S ≤ nI k then (if pl (s_fo S k) v = p then 1 else s_fat S v p d (k + 1)) else 0
theorem s_fat_in {S : SS} {v p : Int32} {k : Nat} (h : k < 800) : s_fat S v p (800 - k) k = if ¬ s_fc S ≤ nI k then (if pl (s_fo S k) v = p then 1 else s_fat S v p (800 - (k + 1)) (k + 1)) else 0 := by
  obtain ⟨d, hd⟩ : ∃ d, 800 - k = d + 1 := ⟨800 - k - 1, by omega⟩
  rw [hd, show 800 - (k + 1) = d by omega]; rfl
theorem s_fat_out {S : SS} {v p : Int32} {k : Nat} (h : s_fc S ≤ nI k) : s_fat S v p (800 - k) k = 0 := by
  cases hd : 800 - k with
  | zero => rfl
  | succ d => rw [s_fat, if_neg (fun q => q h)]
def s_pos (S : SS) : Int32 := if s_isF S (s_fs S) then s_fo S (s_fs S).toNatClampNeg else 0
end
section
set_option maxHeartbeats 4000000 in
set_option maxRecDepth 100000 in
/-- placeIn -/
theorem c_X2_placeIn (l : Launch) (G : va_G) (cI cZ cJ : ClassId) (a : Nat → Nat) (sz : Nat) (x0 : Int32) (x1 : Int32)  : Met l yX2_placeIn wsX2_placeIn ({ frames := 0, cells := 0, slots := 0, locals := 0 }) (ro_Pc G [(cI, .int), (cZ, .boolean), (cJ, .long)] [] sz [.int x0, .int x1]) (ro_Qi (pl x0 x1) sz) 0 0 (ro_A sz) := by
  refine Met.ofW (cc := cX2_placeIn) (maxL := 2) (ret := (some .int)) (by decide) rfl ?_
  intro p e s m args below meth c s₁ B hml hv
  obtain ⟨rfl, hsz, hP, hK, hN⟩ := hv
  have hx := B.exec
  have hb := B.bytes
  have hr := B.returns
  have hts := atoms_spec (ws := wsX2_placeIn) B.pre
  have hown : s.vm.findClass RX2 = some m.cls := findClass_of_methodNamed B.named
  have hlocks := B.notSynchronized
  subst hsz
  have hA : ∀ q : Nat, s.heap.size ≤ q → (ro_A s.heap.size) q := fun _ h => h
  have hS : va_S (ro_A s.heap.size) s.heap s.heap [] := va_S.rf
  have hP : va_P G vwCl [] s.heap := hP
  have hl := lv_entry ([.int x0, .int x1]) (n := 2) (Nat.le_of_ble_eq_true rfl)
  rw [lg_entry_eq]
  generalize (lg_sl ([.int x0, .int x1]) ++ List.replicate (2 - (lg_sl ([.int x0, .int x1])).length) Slot.unset).toArray = ls at hl ⊢
  have hl : lv_has ls 2 [(0, .int x0), (1, .int x1)] := hl
  refine lv_iload_n hx hb dX2_placeIn_0 rfl (lv_at hl 0 rfl) ?_
  refine lv_iconst (v := 3) hx hb dX2_placeIn_1 (by decide) ?_
  refine lv_iload_n hx hb dX2_placeIn_2 rfl (lv_at hl 1 rfl) ?_
  refine lv_imul hx hb dX2_placeIn_3 ?_
  refine lv_ishr hx hb dX2_placeIn_4 ?_
  refine lv_bipush (v := 7) hx hb dX2_placeIn_5 (by decide) ?_
  refine lv_iand hx hb dX2_placeIn_7 ?_
  exact W.iret (v := ((x0 >>> ((3 * x1) &&& 31)) &&& 7)) hx hb hr (fun t ht hW => ⟨⟨((x0 >>> ((3 * x1) &&& 31)) &&& 7), (), rfl, rfl, trivial⟩, hS.F ht⟩) hS.2.2 dX2_placeIn_8

set_option maxHeartbeats 4000000 in
set_option maxRecDepth 100000 in
/-- moved -/
theorem c_X2_moved (l : Launch) (G : va_G) (cI cZ cJ : ClassId) (a : Nat → Nat) (sz : Nat) (x0 : Int32) (x1 : Int32) (x2 : Int32)  : Met l yX2_moved wsX2_moved ({ frames := 0, cells := 0, slots := 0, locals := 0 }) (ro_Pc G [(cI, .int), (cZ, .boolean), (cJ, .long)] [] sz [.int x0, .int x1, .int x2]) (ro_Qi (mv x0 x1 x2) sz) 0 0 (ro_A sz) := by
  refine Met.ofW (cc := cX2_moved) (maxL := 3) (ret := (some .int)) (by decide) rfl ?_
  intro p e s m args below meth c s₁ B hml hv
  obtain ⟨rfl, hsz, hP, hK, hN⟩ := hv
  have hx := B.exec
  have hb := B.bytes
  have hr := B.returns
  have hts := atoms_spec (ws := wsX2_moved) B.pre
  have hown : s.vm.findClass RX2 = some m.cls := findClass_of_methodNamed B.named
  have hlocks := B.notSynchronized
  subst hsz
  have hA : ∀ q : Nat, s.heap.size ≤ q → (ro_A s.heap.size) q := fun _ h => h
  have hS : va_S (ro_A s.heap.size) s.heap s.heap [] := va_S.rf
  have hP : va_P G vwCl [] s.heap := hP
  have hl := lv_entry ([.int x0, .int x1, .int x2]) (n := 3) (Nat.le_of_ble_eq_true rfl)
  rw [lg_entry_eq]
  generalize (lg_sl ([.int x0, .int x1, .int x2]) ++ List.replicate (3 - (lg_sl ([.int x0, .int x1, .int x2])).length) Slot.unset).toArray = ls at hl ⊢
  have hl : lv_has ls 3 [(0, .int x0), (1, .int x1), (2, .int x2)] := hl
  refine lv_iload_n hx hb dX2_moved_0 rfl (lv_at hl 0 rfl) ?_
  refine lv_iload_n hx hb dX2_moved_1 rfl (lv_at hl 2 rfl) ?_
  refine lv_iconst (v := 1) hx hb dX2_moved_2 (by decide) ?_
  refine lv_iconst (v := 3) hx hb dX2_moved_3 (by decide) ?_
  refine lv_iload_n hx hb dX2_moved_4 rfl (lv_at hl 1 rfl) ?_
  refine lv_imul hx hb dX2_moved_5 ?_
  refine lv_ishl hx hb dX2_moved_6 ?_
  refine lv_imul hx hb dX2_moved_7 ?_
  refine lv_iadd hx hb dX2_moved_8 ?_
  exact W.iret (v := (x0 + (x2 * (1 <<< ((3 * x1) &&& 31))))) hx hb hr (fun t ht hW => ⟨⟨(x0 + (x2 * (1 <<< ((3 * x1) &&& 31)))), (), rfl, rfl, trivial⟩, hS.F ht⟩) hS.2.2 dX2_moved_9

set_option maxHeartbeats 4000000 in
set_option maxRecDepth 100000 in
/-- isInYard -/
theorem c_X2_isInYard (l : Launch) (G : va_G) (cI cZ cJ : ClassId) (a : Nat → Nat) (sz : Nat) (x0 : Int32) (x1 : Int32)  : Met l yX2_isInYard wsX2_isInYard ({ frames := 0, cells := 0, slots := 0, locals := 0 }) (ro_Pc G [(cI, .int), (cZ, .boolean), (cJ, .long)] [] sz [.int x0, .int x1]) (ro_Qi (b1 (inY x0 x1)) sz) 0 0 (ro_A sz) := by
  refine Met.ofW (cc := cX2_isInYard) (maxL := 2) (ret := (some .boolean)) (by decide) rfl ?_
  intro p e s m args below meth c s₁ B hml hv
  obtain ⟨rfl, hsz, hP, hK, hN⟩ := hv
  have hx := B.exec
  have hb := B.bytes
  have hr := B.returns
  have hts := atoms_spec (ws := wsX2_isInYard) B.pre
  have hown : s.vm.findClass RX2 = some m.cls := findClass_of_methodNamed B.named
  have hlocks := B.notSynchronized
  subst hsz
  have hA : ∀ q : Nat, s.heap.size ≤ q → (ro_A s.heap.size) q := fun _ h => h
  have hS : va_S (ro_A s.heap.size) s.heap s.heap [] := va_S.rf
  have hP : va_P G vwCl [] s.heap := hP
  have hl := lv_entry ([.int x0, .int x1]) (n := 2) (Nat.le_of_ble_eq_true rfl)
  rw [lg_entry_eq]
  generalize (lg_sl ([.int x0, .int x1]) ++ List.replicate (2 - (lg_sl ([.int x0, .int x1])).length) Slot.unset).toArray = ls at hl ⊢
  have hl : lv_has ls 2 [(0, .int x0), (1, .int x1)] := hl
  refine lv_iload_n hx hb dX2_isInYard_0 rfl (lv_at hl 0 rfl) ?_
  refine lv_if_lt (tgt := 24) hx hb dX2_isInYard_1 (by decide) (fun c_1 => ?_) (fun c_1 => ?_)
  · refine lv_iconst (v := 0) hx hb dX2_isInYard_24 (by decide) ?_
    exact W.zret (ty := .boolean) (v := 0) hx hb hr (rfl) (fun t ht hW => ⟨⟨0, (), rfl, by simp [inY, c_1], trivial⟩, hS.F ht⟩) hS.2.2 dX2_isInYard_25
  · refine lv_iload_n hx hb dX2_isInYard_4 rfl (lv_at hl 0 rfl) ?_
    refine lv_bipush (v := 6) hx hb dX2_isInYard_5 (by decide) ?_
    refine lv_icmp_ge (tgt := 24) hx hb dX2_isInYard_7 (by decide) (fun c_2 => ?_) (fun c_2 => ?_)
    · refine lv_iconst (v := 0) hx hb dX2_isInYard_24 (by decide) ?_
      exact W.zret (ty := .boolean) (v := 0) hx hb hr (rfl) (fun t ht hW => ⟨⟨0, (), rfl, by simp [inY, c_1, c_2], trivial⟩, hS.F ht⟩) hS.2.2 dX2_isInYard_25
    · refine lv_iload_n hx hb dX2_isInYard_10 rfl (lv_at hl 1 rfl) ?_
      refine lv_if_lt (tgt := 24) hx hb dX2_isInYard_11 (by decide) (fun c_3 => ?_) (fun c_3 => ?_)
      · refine lv_iconst (v := 0) hx hb dX2_isInYard_24 (by decide) ?_
        exact W.zret (ty := .boolean) (v := 0) hx hb hr (rfl) (fun t ht hW => ⟨⟨0, (), rfl, by simp [inY, c_1, c_2, c_3], trivial⟩, hS.F ht⟩) hS.2.2 dX2_isInYard_25
      · refine lv_iload_n hx hb dX2_isInYard_14 rfl (lv_at hl 1 rfl) ?_
        refine lv_bipush (v := 6) hx hb dX2_isInYard_15 (by decide) ?_
        refine lv_icmp_ge (tgt := 24) hx hb dX2_isInYard_17 (by decide) (fun c_4 => ?_) (fun c_4 => ?_)
        · refine lv_iconst (v := 0) hx hb dX2_isInYard_24 (by decide) ?_
          exact W.zret (ty := .boolean) (v := 0) hx hb hr (rfl) (fun t ht hW => ⟨⟨0, (), rfl, by simp [inY, c_1, c_2, c_3, c_4], trivial⟩, hS.F ht⟩) hS.2.2 dX2_isInYard_25
        · refine lv_iconst (v := 1) hx hb dX2_isInYard_20 (by decide) ?_
          refine lv_goto (tgt := 25) hx hb dX2_isInYard_21 (by decide) ?_
          exact W.zret (ty := .boolean) (v := 1) hx hb hr (rfl) (fun t ht hW => ⟨⟨1, (), rfl, by simp [inY, c_1, c_2, c_3, c_4], trivial⟩, hS.F ht⟩) hS.2.2 dX2_isInYard_25

set_option maxHeartbeats 4000000 in
set_option maxRecDepth 100000 in
/-- cellOf -/
theorem c_X2_cellOf (l : Launch) (G : va_G) (cI cZ cJ : ClassId) (a : Nat → Nat) (sz : Nat) (x0 : Int32) (x1 : Int32)  : Met l yX2_cellOf wsX2_cellOf ({ frames := 0, cells := 0, slots := 0, locals := 0 }) (ro_Pc G [(cI, .int), (cZ, .boolean), (cJ, .long)] [] sz [.int x0, .int x1]) (ro_Ql (co x0 x1) sz) 0 0 (ro_A sz) := by
  refine Met.ofW (cc := cX2_cellOf) (maxL := 2) (ret := (some .long)) (by decide) rfl ?_
  intro p e s m args below meth c s₁ B hml hv
  obtain ⟨rfl, hsz, hP, hK, hN⟩ := hv
  have hx := B.exec
  have hb := B.bytes
  have hr := B.returns
  have hts := atoms_spec (ws := wsX2_cellOf) B.pre
  have hown : s.vm.findClass RX2 = some m.cls := findClass_of_methodNamed B.named
  have hlocks := B.notSynchronized
  subst hsz
  have hA : ∀ q : Nat, s.heap.size ≤ q → (ro_A s.heap.size) q := fun _ h => h
  have hS : va_S (ro_A s.heap.size) s.heap s.heap [] := va_S.rf
  have hP : va_P G vwCl [] s.heap := hP
  have hl := lv_entry ([.int x0, .int x1]) (n := 2) (Nat.le_of_ble_eq_true rfl)
  rw [lg_entry_eq]
  generalize (lg_sl ([.int x0, .int x1]) ++ List.replicate (2 - (lg_sl ([.int x0, .int x1])).length) Slot.unset).toArray = ls at hl ⊢
  have hl : lv_has ls 2 [(0, .int x0), (1, .int x1)] := hl
  refine lv_lconst (v := 1) hx hb dX2_cellOf_0 (by decide) ?_
  refine lv_bipush (v := 6) hx hb dX2_cellOf_1 (by decide) ?_
  refine lv_iload_n hx hb dX2_cellOf_3 rfl (lv_at hl 0 rfl) ?_
  refine lv_imul hx hb dX2_cellOf_4 ?_
  refine lv_iload_n hx hb dX2_cellOf_5 rfl (lv_at hl 1 rfl) ?_
  refine lv_iadd hx hb dX2_cellOf_6 ?_
  refine lv_lshl (v := (1 <<< (((6 * x0) + x1).toInt64 &&& 63))) hx hb dX2_cellOf_7 rfl ?_
  exact W.lret (v := (1 <<< (((6 * x0) + x1).toInt64 &&& 63))) hx hb hr (fun t ht hW => ⟨⟨(1 <<< (((6 * x0) + x1).toInt64 &&& 63)), (), rfl, rfl, trivial⟩, hS.F ht⟩) hS.2.2 dX2_cellOf_8

theorem in_X1_count_1 : ∀ w ∈ wsX10, w ∈ wsX1_count := by decide +kernel
set_option maxHeartbeats 4000000 in
set_option maxRecDepth 100000 in
/-- Yard.count -/
theorem c_X1_count (l : Launch) (G : va_G) (cI cZ cJ : ClassId) (a : Nat → Nat) (sz : Nat) (Y : YS)  : Met l yX1_count wsX1_count ({ frames := 0, cells := 0, slots := 0, locals := 0 }) (ro_Pc G [(cI, .int), (cZ, .boolean), (cJ, .long)] (wY cI cZ cJ a Y) sz [.ref (a 6)]) (ro_Qi (nI (y_n Y)) sz) 0 0 (ro_A sz) := by
  refine Met.ofW (cc := cX1_count) (maxL := 1) (ret := (some .int)) (by decide) rfl ?_
  intro p e s m args below meth c s₁ B hml hv
  obtain ⟨rfl, hsz, hP, hK, hN⟩ := hv
  have hx := B.exec
  have hb := B.bytes
  have hr := B.returns
  have hts := atoms_spec (ws := wsX1_count) B.pre
  have hown : s.vm.findClass RX1 = some m.cls := findClass_of_methodNamed B.named
  have hlocks := B.notSynchronized
  subst hsz
  have hA : ∀ q : Nat, s.heap.size ≤ q → (ro_A s.heap.size) q := fun _ h => h
  have hS : va_S (ro_A s.heap.size) s.heap s.heap [] := va_S.rf
  have hP : va_P G vwCl [((a 6), .inr (1, [.ref (a 7), .ref (a 8), .ref (a 9), .ref (a 10), .int (nI (y_n Y)), .long (y_rp Y)])), ((a 7), .inl (cI, 9, .inl (y_sz Y))), ((a 8), .inl (cZ, 9, .inl (y_ac Y))), ((a 9), .inl (cI, 9, .inl (y_li Y))), ((a 10), .inl (cJ, 9, .inr (.inl (y_sh Y))))] s.heap := hP
  have hl := lv_entry ([.ref (a 6)]) (n := 1) (Nat.le_of_ble_eq_true rfl)
  rw [lg_entry_eq]
  generalize (lg_sl ([.ref (a 6)]) ++ List.replicate (1 - (lg_sl ([.ref (a 6)])).length) Slot.unset).toArray = ls at hl ⊢
  have hl : lv_has ls 1 [(0, .ref (a 6))] := hl
  refine lv_aload_n hx hb dX1_count_0 rfl (lv_at hl 0 rfl) ?_
  refine va_get (D := G) (ci := 1) (v := .int (nI (y_n Y))) (C := RX1) (T := TX1) (N := 6) hx hb hts in_X1_count_1 hown hK hP 0 rfl rfl 4 (by decide) (hts (.fieldLink RX1 26 "RampJam$Yard" "vehicleCount" "I") (by decide +kernel)) (fun _ h9 => h9) rfl dX1_count_1 ?_
  exact W.iret (v := (nI (y_n Y))) hx hb hr (fun t ht hW => ⟨⟨(nI (y_n Y)), (), rfl, rfl, trivial⟩, hS.F ht⟩) hS.2.2 dX1_count_4

theorem in_X1_has_1 : ∀ w ∈ wsX10, w ∈ wsX1_has := by decide +kernel
set_option maxHeartbeats 4000000 in
set_option maxRecDepth 100000 in
/-- Yard.has -/
theorem c_X1_has (l : Launch) (G : va_G) (cI cZ cJ : ClassId) (a : Nat → Nat) (sz : Nat) (Y : YS) (v : Int32)  : Met l yX1_has wsX1_has ({ frames := 0, cells := 0, slots := 0, locals := 0 }) (ro_Pc G [(cI, .int), (cZ, .boolean), (cJ, .long)] (wY cI cZ cJ a Y) sz [.ref (a 6), .int v]) (ro_Qi (b1 (y_has Y v)) sz) 0 0 (ro_A sz) := by
  refine Met.ofW (cc := cX1_has) (maxL := 2) (ret := (some .boolean)) (by decide) rfl ?_
  intro p e s m args below meth c s₁ B hml hv
  obtain ⟨rfl, hsz, hP, hK, hN⟩ := hv
  have hx := B.exec
  have hb := B.bytes
  have hr := B.returns
  have hts := atoms_spec (ws := wsX1_has) B.pre
  have hown : s.vm.findClass RX1 = some m.cls := findClass_of_methodNamed B.named
  have hlocks := B.notSynchronized
  subst hsz
  have hA : ∀ q : Nat, s.heap.size ≤ q → (ro_A s.heap.size) q := fun _ h => h
  have hS : va_S (ro_A s.heap.size) s.heap s.heap [] := va_S.rf
  have hP : va_P G vwCl [((a 6), .inr (1, [.ref (a 7), .ref (a 8), .ref (a 9), .ref (a 10), .int (nI (y_n Y)), .long (y_rp Y)])), ((a 7), .inl (cI, 9, .inl (y_sz Y))), ((a 8), .inl (cZ, 9, .inl (y_ac Y))), ((a 9), .inl (cI, 9, .inl (y_li Y))), ((a 10), .inl (cJ, 9, .inr (.inl (y_sh Y))))] s.heap := hP
  have hl := lv_entry ([.ref (a 6), .int v]) (n := 2) (Nat.le_of_ble_eq_true rfl)
  rw [lg_entry_eq]
  generalize (lg_sl ([.ref (a 6), .int v]) ++ List.replicate (2 - (lg_sl ([.ref (a 6), .int v])).length) Slot.unset).toArray = ls at hl ⊢
  have hl : lv_has ls 2 [(0, .ref (a 6)), (1, .int v)] := hl
  refine lv_iload_n hx hb dX1_has_0 rfl (lv_at hl 1 rfl) ?_
  refine lv_if_lt (tgt := 22) hx hb dX1_has_1 (by decide) (fun c_1 => ?_) (fun c_1 => ?_)
  · refine lv_iconst (v := 0) hx hb dX1_has_22 (by decide) ?_
    exact W.zret (ty := .boolean) (v := 0) hx hb hr (rfl) (fun t ht hW => ⟨⟨0, (), rfl, by simp [y_has, c_1], trivial⟩, hS.F ht⟩) hS.2.2 dX1_has_23
  · refine lv_iload_n hx hb dX1_has_4 rfl (lv_at hl 1 rfl) ?_
    refine lv_aload_n hx hb dX1_has_5 rfl (lv_at hl 0 rfl) ?_
    refine va_get (D := G) (ci := 1) (v := .int (nI (y_n Y))) (C := RX1) (T := TX1) (N := 6) hx hb hts in_X1_has_1 hown hK hP 0 rfl rfl 4 (by decide) (hts (.fieldLink RX1 26 "RampJam$Yard" "vehicleCount" "I") (by decide +kernel)) (fun _ h9 => h9) rfl dX1_has_6 ?_
    refine lv_icmp_ge (tgt := 22) hx hb dX1_has_9 (by decide) (fun c_2 => ?_) (fun c_2 => ?_)
    · refine lv_iconst (v := 0) hx hb dX1_has_22 (by decide) ?_
      exact W.zret (ty := .boolean) (v := 0) hx hb hr (rfl) (fun t ht hW => ⟨⟨0, (), rfl, by simp [y_has, c_1, c_2], trivial⟩, hS.F ht⟩) hS.2.2 dX1_has_23
    · refine lv_iload_n hx hb dX1_has_12 rfl (lv_at hl 1 rfl) ?_
      refine lv_bipush (v := 9) hx hb dX1_has_13 (by decide) ?_
      refine lv_icmp_ge (tgt := 22) hx hb dX1_has_15 (by decide) (fun c_3 => ?_) (fun c_3 => ?_)
      · refine lv_iconst (v := 0) hx hb dX1_has_22 (by decide) ?_
        exact W.zret (ty := .boolean) (v := 0) hx hb hr (rfl) (fun t ht hW => ⟨⟨0, (), rfl, by simp [y_has, c_1, c_2, c_3], trivial⟩, hS.F ht⟩) hS.2.2 dX1_has_23
      · refine lv_iconst (v := 1) hx hb dX1_has_18 (by decide) ?_
        refine lv_goto (tgt := 23) hx hb dX1_has_19 (by decide) ?_
        exact W.zret (ty := .boolean) (v := 1) hx hb hr (rfl) (fun t ht hW => ⟨⟨1, (), rfl, by simp [y_has, c_1, c_2, c_3], trivial⟩, hS.F ht⟩) hS.2.2 dX1_has_23

theorem in_X1_isLorry_1 : ∀ w ∈ wsX10, w ∈ wsX1_isLorry := by decide +kernel
set_option maxHeartbeats 4000000 in
set_option maxRecDepth 100000 in
/-- Yard.isLorry -/
theorem c_X1_isLorry (l : Launch) (G : va_G) (cI cZ cJ : ClassId) (a : Nat → Nat) (sz : Nat) (Y : YS) (v : Int32)  : Met l yX1_isLorry wsX1_isLorry ({ frames := 1, cells := 0, slots := 0, locals := 21 }) (ro_Pc G [(cI, .int), (cZ, .boolean), (cJ, .long)] (wY cI cZ cJ a Y) sz [.ref (a 6), .int v]) (ro_Qi (b1 (y_lor Y v)) sz) 0 0 (ro_A sz) := by
  refine Met.ofW (cc := cX1_isLorry) (maxL := 2) (ret := (some .boolean)) (by decide) rfl ?_
  intro p e s m args below meth c s₁ B hml hv
  obtain ⟨rfl, hsz, hP, hK, hN⟩ := hv
  have hx := B.exec
  have hb := B.bytes
  have hr := B.returns
  have hts := atoms_spec (ws := wsX1_isLorry) B.pre
  have hown : s.vm.findClass RX1 = some m.cls := findClass_of_methodNamed B.named
  have hlocks := B.notSynchronized
  subst hsz
  have hA : ∀ q : Nat, s.heap.size ≤ q → (ro_A s.heap.size) q := fun _ h => h
  have hS : va_S (ro_A s.heap.size) s.heap s.heap [] := va_S.rf
  have hP : va_P G vwCl [((a 6), .inr (1, [.ref (a 7), .ref (a 8), .ref (a 9), .ref (a 10), .int (nI (y_n Y)), .long (y_rp Y)])), ((a 7), .inl (cI, 9, .inl (y_sz Y))), ((a 8), .inl (cZ, 9, .inl (y_ac Y))), ((a 9), .inl (cI, 9, .inl (y_li Y))), ((a 10), .inl (cJ, 9, .inr (.inl (y_sh Y))))] s.heap := hP
  have hl := lv_entry ([.ref (a 6), .int v]) (n := 2) (Nat.le_of_ble_eq_true rfl)
  rw [lg_entry_eq]
  generalize (lg_sl ([.ref (a 6), .int v]) ++ List.replicate (2 - (lg_sl ([.ref (a 6), .int v])).length) Slot.unset).toArray = ls at hl ⊢
  have hl : lv_has ls 2 [(0, .ref (a 6)), (1, .int v)] := hl
  refine lv_aload_n hx hb dX1_isLorry_0 rfl (lv_at hl 0 rfl) ?_
  refine lv_iload_n hx hb dX1_isLorry_1 rfl (lv_at hl 1 rfl) ?_
  refine ro_i (va_runV (As := [.int v]) (rest := []) ⟨hx, hb, hml, hown, hts⟩ ((c_X1_has l G cI cZ cJ a _ Y v)) (cwV 1 hts gX1_isLorry_X1_has rfl rfl rfl (by decide +kernel) ⟨Nat.le_of_ble_eq_true rfl, Nat.le_of_ble_eq_true rfl⟩) ⟨ro_blind, va_recv hK hP (ci := 1) (q0 := 0) rfl rfl, ro_pre hP hK hN⟩ rfl rfl hl.1 rfl (lv_room (Nat.le_of_ble_eq_true rfl)) dX1_isLorry_2 ⟨Nat.zero_le _, Nat.zero_le _⟩) hS hA hP (fun H locs hP hS => ?_)
  refine lv_if_eq (tgt := 22) hx hb dX1_isLorry_5 (by decide) (fun c_1 => ?_) (fun c_1 => ?_)
  · have c_1 := b1_f c_1
    refine lv_iconst (v := 0) hx hb dX1_isLorry_22 (by decide) ?_
    exact W.zret (ty := .boolean) (v := 0) hx hb hr (rfl) (fun t ht hW => ⟨⟨0, (), rfl, by simp [y_lor, c_1], trivial⟩, hS.F ht⟩) hS.2.2 dX1_isLorry_23
  · have c_1 := b1_t c_1
    refine lv_aload_n hx hb dX1_isLorry_8 rfl (lv_at hl 0 rfl) ?_
    refine va_get (D := G) (ci := 1) (v := .ref (a 7)) (C := RX1) (T := TX1) (N := 6) hx hb hts in_X1_isLorry_1 hown hK hP 0 rfl rfl 0 (by decide) (hts (.fieldLink RX1 9 "RampJam$Yard" "sizes" "[I") (by decide +kernel)) (fun _ h9 => h9) rfl dX1_isLorry_9 ?_
    refine lv_iload_n hx hb dX1_isLorry_12 rfl (lv_at hl 1 rfl) ?_
    refine va_iald hx hb hK hP 1 0 rfl rfl (y_has_in (by assumption)) dX1_isLorry_13 ?_
    refine lv_iconst (v := 2) hx hb dX1_isLorry_14 (by decide) ?_
    refine lv_icmp_le (tgt := 22) hx hb dX1_isLorry_15 (by decide) (fun c_2 => ?_) (fun c_2 => ?_)
    · refine lv_iconst (v := 0) hx hb dX1_isLorry_22 (by decide) ?_
      exact W.zret (ty := .boolean) (v := 0) hx hb hr (rfl) (fun t ht hW => ⟨⟨0, (), rfl, by simp [y_lor, c_1, c_2], trivial⟩, hS.F ht⟩) hS.2.2 dX1_isLorry_23
    · refine lv_iconst (v := 1) hx hb dX1_isLorry_18 (by decide) ?_
      refine lv_goto (tgt := 23) hx hb dX1_isLorry_19 (by decide) ?_
      exact W.zret (ty := .boolean) (v := 1) hx hb hr (rfl) (fun t ht hW => ⟨⟨1, (), rfl, by simp [y_lor, c_1, c_2], trivial⟩, hS.F ht⟩) hS.2.2 dX1_isLorry_23

theorem in_X1_lineOf_1 : ∀ w ∈ wsX10, w ∈ wsX1_lineOf := by decide +kernel
set_option maxHeartbeats 4000000 in
set_option maxRecDepth 100000 in
/-- Yard.lineOf -/
theorem c_X1_lineOf (l : Launch) (G : va_G) (cI cZ cJ : ClassId) (a : Nat → Nat) (sz : Nat) (Y : YS) (v : Int32)  : Met l yX1_lineOf wsX1_lineOf ({ frames := 1, cells := 0, slots := 0, locals := 21 }) (ro_Pc G [(cI, .int), (cZ, .boolean), (cJ, .long)] (wY cI cZ cJ a Y) sz [.ref (a 6), .int v]) (ro_Qi (y_line Y v) sz) 0 0 (ro_A sz) := by
  refine Met.ofW (cc := cX1_lineOf) (maxL := 2) (ret := (some .int)) (by decide) rfl ?_
  intro p e s m args below meth c s₁ B hml hv
  obtain ⟨rfl, hsz, hP, hK, hN⟩ := hv
  have hx := B.exec
  have hb := B.bytes
  have hr := B.returns
  have hts := atoms_spec (ws := wsX1_lineOf) B.pre
  have hown : s.vm.findClass RX1 = some m.cls := findClass_of_methodNamed B.named
  have hlocks := B.notSynchronized
  subst hsz
  have hA : ∀ q : Nat, s.heap.size ≤ q → (ro_A s.heap.size) q := fun _ h => h
  have hS : va_S (ro_A s.heap.size) s.heap s.heap [] := va_S.rf
  have hP : va_P G vwCl [((a 6), .inr (1, [.ref (a 7), .ref (a 8), .ref (a 9), .ref (a 10), .int (nI (y_n Y)), .long (y_rp Y)])), ((a 7), .inl (cI, 9, .inl (y_sz Y))), ((a 8), .inl (cZ, 9, .inl (y_ac Y))), ((a 9), .inl (cI, 9, .inl (y_li Y))), ((a 10), .inl (cJ, 9, .inr (.inl (y_sh Y))))] s.heap := hP
  have hl := lv_entry ([.ref (a 6), .int v]) (n := 2) (Nat.le_of_ble_eq_true rfl)
  rw [lg_entry_eq]
  generalize (lg_sl ([.ref (a 6), .int v]) ++ List.replicate (2 - (lg_sl ([.ref (a 6), .int v])).length) Slot.unset).toArray = ls at hl ⊢
  have hl : lv_has ls 2 [(0, .ref (a 6)), (1, .int v)] := hl
  refine lv_aload_n hx hb dX1_lineOf_0 rfl (lv_at hl 0 rfl) ?_
  refine lv_iload_n hx hb dX1_lineOf_1 rfl (lv_at hl 1 rfl) ?_
  refine ro_i (va_runV (As := [.int v]) (rest := []) ⟨hx, hb, hml, hown, hts⟩ ((c_X1_has l G cI cZ cJ a _ Y v)) (cwV 1 hts gX1_lineOf_X1_has rfl rfl rfl (by decide +kernel) ⟨Nat.le_of_ble_eq_true rfl, Nat.le_of_ble_eq_true rfl⟩) ⟨ro_blind, va_recv hK hP (ci := 1) (q0 := 0) rfl rfl, ro_pre hP hK hN⟩ rfl rfl hl.1 rfl (lv_room (Nat.le_of_ble_eq_true rfl)) dX1_lineOf_2 ⟨Nat.zero_le _, Nat.zero_le _⟩) hS hA hP (fun H locs hP hS => ?_)
  refine lv_if_eq (tgt := 17) hx hb dX1_lineOf_5 (by decide) (fun c_1 => ?_) (fun c_1 => ?_)
  · have c_1 := b1_f c_1
    refine lv_iconst (v := 0) hx hb dX1_lineOf_17 (by decide) ?_
    exact W.iret (v := 0) hx hb hr (fun t ht hW => ⟨⟨0, (), rfl, by simp [y_line, c_1], trivial⟩, hS.F ht⟩) hS.2.2 dX1_lineOf_18
  · have c_1 := b1_t c_1
    refine lv_aload_n hx hb dX1_lineOf_8 rfl (lv_at hl 0 rfl) ?_
    refine va_get (D := G) (ci := 1) (v := .ref (a 9)) (C := RX1) (T := TX1) (N := 6) hx hb hts in_X1_lineOf_1 hown hK hP 0 rfl rfl 2 (by decide) (hts (.fieldLink RX1 19 "RampJam$Yard" "lines" "[I") (by decide +kernel)) (fun _ h9 => h9) rfl dX1_lineOf_9 ?_
    refine lv_iload_n hx hb dX1_lineOf_12 rfl (lv_at hl 1 rfl) ?_
    refine va_iald hx hb hK hP 3 0 rfl rfl (y_has_in c_1) dX1_lineOf_13 ?_
    refine lv_goto (tgt := 18) hx hb dX1_lineOf_14 (by decide) ?_
    exact W.iret (v := ((y_li Y) (v.toNatClampNeg))) hx hb hr (fun t ht hW => ⟨⟨((y_li Y) (v.toNatClampNeg)), (), rfl, by simp [y_line, c_1], trivial⟩, hS.F ht⟩) hS.2.2 dX1_lineOf_18

theorem in_X1_barredTo_1 : ∀ w ∈ wsX10, w ∈ wsX1_barredTo := by decide +kernel
set_option maxHeartbeats 4000000 in
set_option maxRecDepth 100000 in
/-- Yard.barredTo -/
theorem c_X1_barredTo (l : Launch) (G : va_G) (cI cZ cJ : ClassId) (a : Nat → Nat) (sz : Nat) (Y : YS) (v : Int32)  : Met l yX1_barredTo wsX1_barredTo ({ frames := 0, cells := 0, slots := 0, locals := 0 }) (ro_Pc G [(cI, .int), (cZ, .boolean), (cJ, .long)] (wY cI cZ cJ a Y) sz [.ref (a 6), .int v]) (ro_Ql (y_bar Y v) sz) 0 0 (ro_A sz) := by
  refine Met.ofW (cc := cX1_barredTo) (maxL := 2) (ret := (some .long)) (by decide) rfl ?_
  intro p e s m args below meth c s₁ B hml hv
  obtain ⟨rfl, hsz, hP, hK, hN⟩ := hv
  have hx := B.exec
  have hb := B.bytes
  have hr := B.returns
  have hts := atoms_spec (ws := wsX1_barredTo) B.pre
  have hown : s.vm.findClass RX1 = some m.cls := findClass_of_methodNamed B.named
  have hlocks := B.notSynchronized
  subst hsz
  have hA : ∀ q : Nat, s.heap.size ≤ q → (ro_A s.heap.size) q := fun _ h => h
  have hS : va_S (ro_A s.heap.size) s.heap s.heap [] := va_S.rf
  have hP : va_P G vwCl [((a 6), .inr (1, [.ref (a 7), .ref (a 8), .ref (a 9), .ref (a 10), .int (nI (y_n Y)), .long (y_rp Y)])), ((a 7), .inl (cI, 9, .inl (y_sz Y))), ((a 8), .inl (cZ, 9, .inl (y_ac Y))), ((a 9), .inl (cI, 9, .inl (y_li Y))), ((a 10), .inl (cJ, 9, .inr (.inl (y_sh Y))))] s.heap := hP
  have hl := lv_entry ([.ref (a 6), .int v]) (n := 2) (Nat.le_of_ble_eq_true rfl)
  rw [lg_entry_eq]
  generalize (lg_sl ([.ref (a 6), .int v]) ++ List.replicate (2 - (lg_sl ([.ref (a 6), .int v])).length) Slot.unset).toArray = ls at hl ⊢
  have hl : lv_has ls 2 [(0, .ref (a 6)), (1, .int v)] := hl
  refine lv_iload_n hx hb dX1_barredTo_0 rfl (lv_at hl 1 rfl) ?_
  refine lv_iconst (v := 2) hx hb dX1_barredTo_1 (by decide) ?_
  refine lv_icmp_le (tgt := 12) hx hb dX1_barredTo_2 (by decide) (fun c_1 => ?_) (fun c_1 => ?_)
  · refine lv_lconst (v := 0) hx hb dX1_barredTo_12 (by decide) ?_
    exact W.lret (v := 0) hx hb hr (fun t ht hW => ⟨⟨0, (), rfl, by simp [y_bar, c_1], trivial⟩, hS.F ht⟩) hS.2.2 dX1_barredTo_13
  · refine lv_aload_n hx hb dX1_barredTo_5 rfl (lv_at hl 0 rfl) ?_
    refine va_get (D := G) (ci := 1) (v := .long (y_rp Y)) (C := RX1) (T := TX1) (N := 6) hx hb hts in_X1_barredTo_1 hown hK hP 0 rfl rfl 5 (by decide) (hts (.fieldLink RX1 34 "RampJam$Yard" "rampCell" "J") (by decide +kernel)) (fun _ h9 => h9) rfl dX1_barredTo_6 ?_
    refine lv_goto (tgt := 13) hx hb dX1_barredTo_9 (by decide) ?_
    exact W.lret (v := (y_rp Y)) hx hb hr (fun t ht hW => ⟨⟨(y_rp Y), (), rfl, by simp [y_bar, c_1], trivial⟩, hS.F ht⟩) hS.2.2 dX1_barredTo_13

theorem in_X1_standsAcross_1 : ∀ w ∈ wsX10, w ∈ wsX1_standsAcross := by decide +kernel
set_option maxHeartbeats 4000000 in
set_option maxRecDepth 100000 in
/-- Yard.standsAcross -/
theorem c_X1_standsAcross (l : Launch) (G : va_G) (cI cZ cJ : ClassId) (a : Nat → Nat) (sz : Nat) (Y : YS) (v : Int32)  : Met l yX1_standsAcross wsX1_standsAcross ({ frames := 1, cells := 0, slots := 0, locals := 21 }) (ro_Pc G [(cI, .int), (cZ, .boolean), (cJ, .long)] (wY cI cZ cJ a Y) sz [.ref (a 6), .int v]) (ro_Qi (b1 (y_acr Y v)) sz) 0 0 (ro_A sz) := by
  refine Met.ofW (cc := cX1_standsAcross) (maxL := 2) (ret := (some .boolean)) (by decide) rfl ?_
  intro p e s m args below meth c s₁ B hml hv
  obtain ⟨rfl, hsz, hP, hK, hN⟩ := hv
  have hx := B.exec
  have hb := B.bytes
  have hr := B.returns
  have hts := atoms_spec (ws := wsX1_standsAcross) B.pre
  have hown : s.vm.findClass RX1 = some m.cls := findClass_of_methodNamed B.named
  have hlocks := B.notSynchronized
  subst hsz
  have hA : ∀ q : Nat, s.heap.size ≤ q → (ro_A s.heap.size) q := fun _ h => h
  have hS : va_S (ro_A s.heap.size) s.heap s.heap [] := va_S.rf
  have hP : va_P G vwCl [((a 6), .inr (1, [.ref (a 7), .ref (a 8), .ref (a 9), .ref (a 10), .int (nI (y_n Y)), .long (y_rp Y)])), ((a 7), .inl (cI, 9, .inl (y_sz Y))), ((a 8), .inl (cZ, 9, .inl (y_ac Y))), ((a 9), .inl (cI, 9, .inl (y_li Y))), ((a 10), .inl (cJ, 9, .inr (.inl (y_sh Y))))] s.heap := hP
  have hl := lv_entry ([.ref (a 6), .int v]) (n := 2) (Nat.le_of_ble_eq_true rfl)
  rw [lg_entry_eq]
  generalize (lg_sl ([.ref (a 6), .int v]) ++ List.replicate (2 - (lg_sl ([.ref (a 6), .int v])).length) Slot.unset).toArray = ls at hl ⊢
  have hl : lv_has ls 2 [(0, .ref (a 6)), (1, .int v)] := hl
  refine lv_aload_n hx hb dX1_standsAcross_0 rfl (lv_at hl 0 rfl) ?_
  refine lv_iload_n hx hb dX1_standsAcross_1 rfl (lv_at hl 1 rfl) ?_
  refine ro_i (va_runV (As := [.int v]) (rest := []) ⟨hx, hb, hml, hown, hts⟩ ((c_X1_has l G cI cZ cJ a _ Y v)) (cwV 1 hts gX1_standsAcross_X1_has rfl rfl rfl (by decide +kernel) ⟨Nat.le_of_ble_eq_true rfl, Nat.le_of_ble_eq_true rfl⟩) ⟨ro_blind, va_recv hK hP (ci := 1) (q0 := 0) rfl rfl, ro_pre hP hK hN⟩ rfl rfl hl.1 rfl (lv_room (Nat.le_of_ble_eq_true rfl)) dX1_standsAcross_2 ⟨Nat.zero_le _, Nat.zero_le _⟩) hS hA hP (fun H locs hP hS => ?_)
  refine lv_if_eq (tgt := 21) hx hb dX1_standsAcross_5 (by decide) (fun c_1 => ?_) (fun c_1 => ?_)
  · have c_1 := b1_f c_1
    refine lv_iconst (v := 0) hx hb dX1_standsAcross_21 (by decide) ?_
    exact W.zret (ty := .boolean) (v := 0) hx hb hr (rfl) (fun t ht hW => ⟨⟨0, (), rfl, by simp [y_acr, c_1], trivial⟩, hS.F ht⟩) hS.2.2 dX1_standsAcross_22
  · have c_1 := b1_t c_1
    refine lv_aload_n hx hb dX1_standsAcross_8 rfl (lv_at hl 0 rfl) ?_
    refine va_get (D := G) (ci := 1) (v := .ref (a 8)) (C := RX1) (T := TX1) (N := 6) hx hb hts in_X1_standsAcross_1 hown hK hP 0 rfl rfl 1 (by decide) (hts (.fieldLink RX1 15 "RampJam$Yard" "acrosses" "[Z") (by decide +kernel)) (fun _ h9 => h9) rfl dX1_standsAcross_9 ?_
    refine lv_iload_n hx hb dX1_standsAcross_12 rfl (lv_at hl 1 rfl) ?_
    refine va_zald hx hb hK hP 2 1 rfl rfl (y_has_in (by assumption)) dX1_standsAcross_13 ?_
    refine lv_if_eq (tgt := 21) hx hb dX1_standsAcross_14 (by decide) (fun c_2 => ?_) (fun c_2 => ?_)
    · refine lv_iconst (v := 0) hx hb dX1_standsAcross_21 (by decide) ?_
      exact W.zret (ty := .boolean) (v := 0) hx hb hr (rfl) (fun t ht hW => ⟨⟨0, (), rfl, by simp [y_acr, c_1, c_2], trivial⟩, hS.F ht⟩) hS.2.2 dX1_standsAcross_22
    · refine lv_iconst (v := 1) hx hb dX1_standsAcross_17 (by decide) ?_
      refine lv_goto (tgt := 22) hx hb dX1_standsAcross_18 (by decide) ?_
      exact W.zret (ty := .boolean) (v := 1) hx hb hr (rfl) (fun t ht hW => ⟨⟨1, (), rfl, by simp [y_acr, c_1, c_2], trivial⟩, hS.F ht⟩) hS.2.2 dX1_standsAcross_22

theorem in_X1_cellsIn_1 : ∀ w ∈ wsX10, w ∈ wsX1_cellsIn := by decide +kernel
set_option maxHeartbeats 4000000 in
set_option maxRecDepth 100000 in
/-- Yard.cellsIn -/
theorem c_X1_cellsIn (l : Launch) (G : va_G) (cI cZ cJ : ClassId) (a : Nat → Nat) (sz : Nat) (Y : YS) (x : Int32) (v : Int32)  : Met l yX1_cellsIn wsX1_cellsIn ({ frames := 1, cells := 0, slots := 0, locals := 21 }) (ro_Pc G [(cI, .int), (cZ, .boolean), (cJ, .long)] (wY cI cZ cJ a Y) sz [.ref (a 6), .int x, .int v]) (ro_Ql (y_cel Y x v) sz) 0 0 (ro_A sz) := by
  refine Met.ofW (cc := cX1_cellsIn) (maxL := 4) (ret := (some .long)) (by decide) rfl ?_
  intro p e s m args below meth c s₁ B hml hv
  obtain ⟨rfl, hsz, hP, hK, hN⟩ := hv
  have hx := B.exec
  have hb := B.bytes
  have hr := B.returns
  have hts := atoms_spec (ws := wsX1_cellsIn) B.pre
  have hown : s.vm.findClass RX1 = some m.cls := findClass_of_methodNamed B.named
  have hlocks := B.notSynchronized
  subst hsz
  have hA : ∀ q : Nat, s.heap.size ≤ q → (ro_A s.heap.size) q := fun _ h => h
  have hS : va_S (ro_A s.heap.size) s.heap s.heap [] := va_S.rf
  have hP : va_P G vwCl [((a 6), .inr (1, [.ref (a 7), .ref (a 8), .ref (a 9), .ref (a 10), .int (nI (y_n Y)), .long (y_rp Y)])), ((a 7), .inl (cI, 9, .inl (y_sz Y))), ((a 8), .inl (cZ, 9, .inl (y_ac Y))), ((a 9), .inl (cI, 9, .inl (y_li Y))), ((a 10), .inl (cJ, 9, .inr (.inl (y_sh Y))))] s.heap := hP
  have hl := lv_entry ([.ref (a 6), .int x, .int v]) (n := 4) (Nat.le_of_ble_eq_true rfl)
  rw [lg_entry_eq]
  generalize (lg_sl ([.ref (a 6), .int x, .int v]) ++ List.replicate (4 - (lg_sl ([.ref (a 6), .int x, .int v])).length) Slot.unset).toArray = ls at hl ⊢
  have hl : lv_has ls 4 [(0, .ref (a 6)), (1, .int x), (2, .int v)] := hl
  refine lv_aload_n hx hb dX1_cellsIn_0 rfl (lv_at hl 0 rfl) ?_
  refine lv_iload_n hx hb dX1_cellsIn_1 rfl (lv_at hl 2 rfl) ?_
  refine ro_i (va_runV (As := [.int v]) (rest := []) ⟨hx, hb, hml, hown, hts⟩ ((c_X1_has l G cI cZ cJ a _ Y v)) (cwV 1 hts gX1_cellsIn_X1_has rfl rfl rfl (by decide +kernel) ⟨Nat.le_of_ble_eq_true rfl, Nat.le_of_ble_eq_true rfl⟩) ⟨ro_blind, va_recv hK hP (ci := 1) (q0 := 0) rfl rfl, ro_pre hP hK hN⟩ rfl rfl hl.1 rfl (lv_room (Nat.le_of_ble_eq_true rfl)) dX1_cellsIn_2 ⟨Nat.zero_le _, Nat.zero_le _⟩) hS hA hP (fun H locs hP hS => ?_)
  refine lv_if_ne (tgt := 10) hx hb dX1_cellsIn_5 (by decide) (fun c_1 => ?_) (fun c_1 => ?_)
  · have c_1 := b1_t c_1
    refine lv_aload_n hx hb dX1_cellsIn_10 rfl (lv_at hl 0 rfl) ?_
    refine va_get (D := G) (ci := 1) (v := .ref (a 8)) (C := RX1) (T := TX1) (N := 6) hx hb hts in_X1_cellsIn_1 hown hK hP 0 rfl rfl 1 (by decide) (hts (.fieldLink RX1 15 "RampJam$Yard" "acrosses" "[Z") (by decide +kernel)) (fun _ h9 => h9) rfl dX1_cellsIn_11 ?_
    refine lv_iload_n hx hb dX1_cellsIn_14 rfl (lv_at hl 2 rfl) ?_
    refine va_zald hx hb hK hP 2 1 rfl rfl (y_has_in (by assumption)) dX1_cellsIn_15 ?_
    refine lv_if_eq (tgt := 23) hx hb dX1_cellsIn_16 (by decide) (fun c_2 => ?_) (fun c_2 => ?_)
    · refine lv_bipush (v := 6) hx hb dX1_cellsIn_23 (by decide) ?_
      refine lv_istore_n (lv' := [(3, .int 6), (0, .ref (a 6)), (1, .int x), (2, .int v)]) hx hb dX1_cellsIn_25 rfl hl (by decide) rfl (fun ls hl => ?_)
      refine lv_aload_n hx hb dX1_cellsIn_26 rfl (lv_at hl 1 rfl) ?_
      refine va_get (D := G) (ci := 1) (v := .ref (a 10)) (C := RX1) (T := TX1) (N := 6) hx hb hts in_X1_cellsIn_1 hown hK hP 0 rfl rfl 3 (by decide) (hts (.fieldLink RX1 22 "RampJam$Yard" "shapes" "[J") (by decide +kernel)) (fun _ h9 => h9) rfl dX1_cellsIn_27 ?_
      refine lv_iload_n hx hb dX1_cellsIn_30 rfl (lv_at hl 3 rfl) ?_
      refine va_lald hx hb hK hP 4 2 rfl rfl (y_has_in (by assumption)) dX1_cellsIn_31 ?_
      refine lv_iload_n hx hb dX1_cellsIn_32 rfl (lv_at hl 0 rfl) ?_
      refine lv_iload_n hx hb dX1_cellsIn_33 rfl (lv_at hl 2 rfl) ?_
      refine lv_iload_n hx hb dX1_cellsIn_34 rfl (lv_at hl 3 rfl) ?_
      refine ro_i (va_runSN (As := [.int x, .int v]) (rest := [.int 6, .long ((y_sh Y) (v.toNatClampNeg))]) ⟨hx, hb, hml, hown, hts⟩ ((c_X2_placeIn l G cI cZ cJ a _ x v)) ⟨va_cnB 2 hts gX1_cellsIn_X2_placeIn_n42 rfl rfl rfl (nx_get hN (k := 1) rfl) (hts (.initialized RX2) (by decide +kernel)) (by decide +kernel) ⟨Nat.le_of_ble_eq_true rfl, Nat.le_of_ble_eq_true rfl⟩, hts (.static yX2_placeIn) (by decide +kernel), trivial⟩ ⟨ro_blind, ro_pre va_P0 hK hN⟩ rfl rfl hl.1 rfl (lv_room (Nat.le_of_ble_eq_true rfl)) dX1_cellsIn_35 ⟨Nat.zero_le _, Nat.zero_le _⟩) hS hA hP (fun H locs hP hS => ?_)
      refine lv_imul hx hb dX1_cellsIn_38 ?_
      refine lv_lshl (v := (((y_sh Y) (v.toNatClampNeg)) <<< ((6 * (pl x v)).toInt64 &&& 63))) hx hb dX1_cellsIn_39 rfl ?_
      exact W.lret (v := (((y_sh Y) (v.toNatClampNeg)) <<< ((6 * (pl x v)).toInt64 &&& 63))) hx hb hr (fun t ht hW => ⟨⟨(((y_sh Y) (v.toNatClampNeg)) <<< ((6 * (pl x v)).toInt64 &&& 63)), (), rfl, by rw [y_cel, if_pos c_1, y_str, if_pos c_2], trivial⟩, hS.F ht⟩) hS.2.2 dX1_cellsIn_40
    · refine lv_iconst (v := 1) hx hb dX1_cellsIn_19 (by decide) ?_
      refine lv_goto (tgt := 25) hx hb dX1_cellsIn_20 (by decide) ?_
      refine lv_istore_n (lv' := [(3, .int 1), (0, .ref (a 6)), (1, .int x), (2, .int v)]) hx hb dX1_cellsIn_25 rfl hl (by decide) rfl (fun ls hl => ?_)
      refine lv_aload_n hx hb dX1_cellsIn_26 rfl (lv_at hl 1 rfl) ?_
      refine va_get (D := G) (ci := 1) (v := .ref (a 10)) (C := RX1) (T := TX1) (N := 6) hx hb hts in_X1_cellsIn_1 hown hK hP 0 rfl rfl 3 (by decide) (hts (.fieldLink RX1 22 "RampJam$Yard" "shapes" "[J") (by decide +kernel)) (fun _ h9 => h9) rfl dX1_cellsIn_27 ?_
      refine lv_iload_n hx hb dX1_cellsIn_30 rfl (lv_at hl 3 rfl) ?_
      refine va_lald hx hb hK hP 4 2 rfl rfl (y_has_in (by assumption)) dX1_cellsIn_31 ?_
      refine lv_iload_n hx hb dX1_cellsIn_32 rfl (lv_at hl 0 rfl) ?_
      refine lv_iload_n hx hb dX1_cellsIn_33 rfl (lv_at hl 2 rfl) ?_
      refine lv_iload_n hx hb dX1_cellsIn_34 rfl (lv_at hl 3 rfl) ?_
      refine ro_i (va_runSN (As := [.int x, .int v]) (rest := [.int 1, .long ((y_sh Y) (v.toNatClampNeg))]) ⟨hx, hb, hml, hown, hts⟩ ((c_X2_placeIn l G cI cZ cJ a _ x v)) ⟨va_cnB 2 hts gX1_cellsIn_X2_placeIn_n42 rfl rfl rfl (nx_get hN (k := 1) rfl) (hts (.initialized RX2) (by decide +kernel)) (by decide +kernel) ⟨Nat.le_of_ble_eq_true rfl, Nat.le_of_ble_eq_true rfl⟩, hts (.static yX2_placeIn) (by decide +kernel), trivial⟩ ⟨ro_blind, ro_pre va_P0 hK hN⟩ rfl rfl hl.1 rfl (lv_room (Nat.le_of_ble_eq_true rfl)) dX1_cellsIn_35 ⟨Nat.zero_le _, Nat.zero_le _⟩) hS hA hP (fun H locs hP hS => ?_)
      refine lv_imul hx hb dX1_cellsIn_38 ?_
      refine lv_lshl (v := (((y_sh Y) (v.toNatClampNeg)) <<< ((1 * (pl x v)).toInt64 &&& 63))) hx hb dX1_cellsIn_39 rfl ?_
      exact W.lret (v := (((y_sh Y) (v.toNatClampNeg)) <<< ((1 * (pl x v)).toInt64 &&& 63))) hx hb hr (fun t ht hW => ⟨⟨(((y_sh Y) (v.toNatClampNeg)) <<< ((1 * (pl x v)).toInt64 &&& 63)), (), rfl, by rw [y_cel, if_pos c_1, y_str, if_neg c_2], trivial⟩, hS.F ht⟩) hS.2.2 dX1_cellsIn_40
  · have c_1 := b1_f c_1
    refine lv_lconst (v := 0) hx hb dX1_cellsIn_8 (by decide) ?_
    exact W.lret (v := 0) hx hb hr (fun t ht hW => ⟨⟨0, (), rfl, by rw [y_cel, if_neg c_1], trivial⟩, hS.F ht⟩) hS.2.2 dX1_cellsIn_9

theorem in_X1_filledIn_1 : ∀ w ∈ wsX10, w ∈ wsX1_filledIn := by decide +kernel
set_option maxHeartbeats 4000000 in
set_option maxRecDepth 100000 in
/-- Yard.filledIn -/
theorem c_X1_filledIn (l : Launch) (G : va_G) (cI cZ cJ : ClassId) (a : Nat → Nat) (sz : Nat) (Y : YS) (x : Int32) (hn : y_n Y ≤ 9) : Met l yX1_filledIn wsX1_filledIn ({ frames := 2, cells := 0, slots := 0, locals := 44 }) (ro_Pc G [(cI, .int), (cZ, .boolean), (cJ, .long)] (wY cI cZ cJ a Y) sz [.ref (a 6), .int x]) (ro_Ql (y_fil Y x (y_n Y)) sz) 0 0 (ro_A sz) := by
  refine Met.ofW (cc := cX1_filledIn) (maxL := 5) (ret := (some .long)) (by decide) rfl ?_
  intro p e s m args below meth c s₁ B hml hv
  obtain ⟨rfl, hsz, hP, hK, hN⟩ := hv
  have hx := B.exec
  have hb := B.bytes
  have hr := B.returns
  have hts := atoms_spec (ws := wsX1_filledIn) B.pre
  have hown : s.vm.findClass RX1 = some m.cls := findClass_of_methodNamed B.named
  have hlocks := B.notSynchronized
  subst hsz
  have hA : ∀ q : Nat, s.heap.size ≤ q → (ro_A s.heap.size) q := fun _ h => h
  have hS : va_S (ro_A s.heap.size) s.heap s.heap [] := va_S.rf
  have hP : va_P G vwCl [((a 6), .inr (1, [.ref (a 7), .ref (a 8), .ref (a 9), .ref (a 10), .int (nI (y_n Y)), .long (y_rp Y)])), ((a 7), .inl (cI, 9, .inl (y_sz Y))), ((a 8), .inl (cZ, 9, .inl (y_ac Y))), ((a 9), .inl (cI, 9, .inl (y_li Y))), ((a 10), .inl (cJ, 9, .inr (.inl (y_sh Y))))] s.heap := hP
  have hl := lv_entry ([.ref (a 6), .int x]) (n := 5) (Nat.le_of_ble_eq_true rfl)
  rw [lg_entry_eq]
  generalize (lg_sl ([.ref (a 6), .int x]) ++ List.replicate (5 - (lg_sl ([.ref (a 6), .int x])).length) Slot.unset).toArray = ls at hl ⊢
  have hl : lv_has ls 5 [(0, .ref (a 6)), (1, .int x)] := hl
  refine lv_lconst (v := 0) hx hb dX1_filledIn_0 (by decide) ?_
  refine lv_lstore_n (lv' := [(2, .long 0), (0, .ref (a 6)), (1, .int x)]) hx hb dX1_filledIn_1 rfl hl (by decide) rfl (fun ls hl => ?_)
  refine lv_iconst (v := 0) hx hb dX1_filledIn_2 (by decide) ?_
  refine lv_istore (lv' := [(4, .int 0), (2, .long 0), (0, .ref (a 6)), (1, .int x)]) hx hb dX1_filledIn_3 hl (by decide) rfl (fun ls hl => ?_)
  have cut_5 : ∀ (d : Nat) (k : Nat), k ≤ y_n Y → y_n Y + 1 ≤ k + d → ∀ (H : Heap) (locs : List Loc), va_P G vwCl [((a 6), .inr (1, [.ref (a 7), .ref (a 8), .ref (a 9), .ref (a 10), .int (nI (y_n Y)), .long (y_rp Y)])), ((a 7), .inl (cI, 9, .inl (y_sz Y))), ((a 8), .inl (cZ, 9, .inl (y_ac Y))), ((a 9), .inl (cI, 9, .inl (y_li Y))), ((a 10), .inl (cJ, 9, .inr (.inl (y_sh Y))))] H → va_S (ro_A s.heap.size) s.heap H locs → ∀ (ls : Array Slot), lv_has ls 5 [(0, .ref (a 6)), (1, .int x), (2, .long (y_fil Y x k)), (4, .int (nI k))] → W p l e (headSpec wsX1_filledIn ({ frames := 2, cells := 0, slots := 0, locals := 44 })).room s m ([.ref (a 6), .int x] : List Value).toArray below meth c H locs 0 0 (MQ below (ro_Ql (y_fil Y x (y_n Y)) s.heap.size) ([.ref (a 6), .int x] : List Value).toArray s 0 0 (ro_A s.heap.size)) (F0 m 5 ls []) := by
    intro d
    induction d with
    | zero =>
      intro k hk_5 hd_5
      exact absurd hd_5 (by omega)
    | succ d ih_5 =>
      intro k hk_5 hd_5  H locs hP hS ls hl
      refine lv_iload hx hb dX1_filledIn_5 (lv_at hl 3 rfl) ?_
      refine lv_aload_n hx hb dX1_filledIn_7 rfl (lv_at hl 0 rfl) ?_
      refine va_get (D := G) (ci := 1) (v := .int (nI (y_n Y))) (C := RX1) (T := TX1) (N := 6) hx hb hts in_X1_filledIn_1 hown hK hP 0 rfl rfl 4 (by decide) (hts (.fieldLink RX1 26 "RampJam$Yard" "vehicleCount" "I") (by decide +kernel)) (fun _ h9 => h9) rfl dX1_filledIn_8 ?_
      refine lv_icmp_ge (tgt := 30) hx hb dX1_filledIn_11 (by decide) (fun c_1 => ?_) (fun c_1 => ?_)
      · have hkn : k = y_n Y := Nat.le_antisymm hk_5 (nx_ge (by omega) (by omega) c_1)
        refine lv_lload_n hx hb dX1_filledIn_30 rfl (lv_at hl 2 rfl) ?_
        exact W.lret (v := (y_fil Y x k)) hx hb hr (fun t ht hW => ⟨⟨(y_fil Y x k), (), rfl, by rw [hkn], trivial⟩, hS.F ht⟩) hS.2.2 dX1_filledIn_31
      · have hlt : k < y_n Y := nx_lt (by omega) (by omega) c_1
        refine lv_lload_n hx hb dX1_filledIn_14 rfl (lv_at hl 2 rfl) ?_
        refine lv_aload_n hx hb dX1_filledIn_15 rfl (lv_at hl 0 rfl) ?_
        refine lv_iload_n hx hb dX1_filledIn_16 rfl (lv_at hl 1 rfl) ?_
        refine lv_iload hx hb dX1_filledIn_17 (lv_at hl 3 rfl) ?_
        refine ro_l (va_runV (As := [.int x, .int (nI k)]) (rest := [.long (y_fil Y x k)]) ⟨hx, hb, hml, hown, hts⟩ ((c_X1_cellsIn l G cI cZ cJ a _ Y x (nI k))) (cwV 2 hts gX1_filledIn_X1_cellsIn rfl rfl rfl (by decide +kernel) ⟨Nat.le_of_ble_eq_true rfl, Nat.le_of_ble_eq_true rfl⟩) ⟨ro_blind, va_recv hK hP (ci := 1) (q0 := 0) rfl rfl, ro_pre hP hK hN⟩ rfl rfl hl.1 rfl (lv_room (Nat.le_of_ble_eq_true rfl)) dX1_filledIn_19 ⟨Nat.zero_le _, Nat.zero_le _⟩) hS hA hP (fun H locs hP hS => ?_)
        refine lv_lor hx hb dX1_filledIn_22 ?_
        refine lv_lstore_n (lv' := [(2, .long ((y_fil Y x k) ||| (y_cel Y x (nI k)))), (0, .ref (a 6)), (1, .int x), (4, .int (nI k))]) hx hb dX1_filledIn_23 rfl hl (by decide) rfl (fun ls hl => ?_)
        refine lv_iinc (v := (nI (k + 1))) (lv' := [(4, .int (nI (k + 1))), (2, .long ((y_fil Y x k) ||| (y_cel Y x (nI k)))), (0, .ref (a 6)), (1, .int x)]) hx hb dX1_filledIn_24 hl (k := 3) rfl (nI_1 _) (by decide) rfl (fun ls hl => ?_)
        refine lv_goto (tgt := 5) hx hb dX1_filledIn_27 (by decide) ?_
        exact ih_5 (k + 1) (hlt) (by omega) _ _ hP hS _ (lv_sub hl [2, 3, 1, 0] rfl)
  exact cut_5 (y_n Y + 1) 0 (Nat.zero_le _) (by omega) _ _ hP hS _ (lv_sub hl [2, 3, 1, 0] rfl)

theorem in_X1_vehicleOn_1 : ∀ w ∈ wsX10, w ∈ wsX1_vehicleOn := by decide +kernel
set_option maxHeartbeats 4000000 in
set_option maxRecDepth 100000 in
/-- Yard.vehicleOn -/
theorem c_X1_vehicleOn (l : Launch) (G : va_G) (cI cZ cJ : ClassId) (a : Nat → Nat) (sz : Nat) (Y : YS) (x : Int32) (w : Int64) (hn : y_n Y ≤ 9) : Met l yX1_vehicleOn wsX1_vehicleOn ({ frames := 2, cells := 0, slots := 0, locals := 44 }) (ro_Pc G [(cI, .int), (cZ, .boolean), (cJ, .long)] (wY cI cZ cJ a Y) sz [.ref (a 6), .int x, .long w]) (ro_Qi (y_on Y x w (y_n Y) 0) sz) 0 0 (ro_A sz) := by
  refine Met.ofW (cc := cX1_vehicleOn) (maxL := 5) (ret := (some .int)) (by decide) rfl ?_
  intro p e s m args below meth c s₁ B hml hv
  obtain ⟨rfl, hsz, hP, hK, hN⟩ := hv
  have hx := B.exec
  have hb := B.bytes
  have hr := B.returns
  have hts := atoms_spec (ws := wsX1_vehicleOn) B.pre
  have hown : s.vm.findClass RX1 = some m.cls := findClass_of_methodNamed B.named
  have hlocks := B.notSynchronized
  subst hsz
  have hA : ∀ q : Nat, s.heap.size ≤ q → (ro_A s.heap.size) q := fun _ h => h
  have hS : va_S (ro_A s.heap.size) s.heap s.heap [] := va_S.rf
  have hP : va_P G vwCl [((a 6), .inr (1, [.ref (a 7), .ref (a 8), .ref (a 9), .ref (a 10), .int (nI (y_n Y)), .long (y_rp Y)])), ((a 7), .inl (cI, 9, .inl (y_sz Y))), ((a 8), .inl (cZ, 9, .inl (y_ac Y))), ((a 9), .inl (cI, 9, .inl (y_li Y))), ((a 10), .inl (cJ, 9, .inr (.inl (y_sh Y))))] s.heap := hP
  have hl := lv_entry ([.ref (a 6), .int x, .long w]) (n := 5) (Nat.le_of_ble_eq_true rfl)
  rw [lg_entry_eq]
  generalize (lg_sl ([.ref (a 6), .int x, .long w]) ++ List.replicate (5 - (lg_sl ([.ref (a 6), .int x, .long w])).length) Slot.unset).toArray = ls at hl ⊢
  have hl : lv_has ls 5 [(0, .ref (a 6)), (1, .int x), (2, .long w)] := hl
  refine lv_iconst (v := 0) hx hb dX1_vehicleOn_0 (by decide) ?_
  refine lv_istore (lv' := [(4, .int 0), (0, .ref (a 6)), (1, .int x), (2, .long w)]) hx hb dX1_vehicleOn_1 hl (by decide) rfl (fun ls hl => ?_)
  have cut_3 : ∀ (d : Nat) (k : Nat), k ≤ y_n Y → y_n Y + 1 ≤ k + d → (y_on Y x w (y_n Y - k) k = y_on Y x w (y_n Y) 0) → ∀ (H : Heap) (locs : List Loc), va_P G vwCl [((a 6), .inr (1, [.ref (a 7), .ref (a 8), .ref (a 9), .ref (a 10), .int (nI (y_n Y)), .long (y_rp Y)])), ((a 7), .inl (cI, 9, .inl (y_sz Y))), ((a 8), .inl (cZ, 9, .inl (y_ac Y))), ((a 9), .inl (cI, 9, .inl (y_li Y))), ((a 10), .inl (cJ, 9, .inr (.inl (y_sh Y))))] H → va_S (ro_A s.heap.size) s.heap H locs → ∀ (ls : Array Slot), lv_has ls 5 [(0, .ref (a 6)), (1, .int x), (2, .long w), (4, .int (nI k))] → W p l e (headSpec wsX1_vehicleOn ({ frames := 2, cells := 0, slots := 0, locals := 44 })).room s m ([.ref (a 6), .int x, .long w] : List Value).toArray below meth c H locs 0 0 (MQ below (ro_Qi (y_on Y x w (y_n Y) 0) s.heap.size) ([.ref (a 6), .int x, .long w] : List Value).toArray s 0 0 (ro_A s.heap.size)) (F0 m 3 ls []) := by
    intro d
    induction d with
    | zero =>
      intro k hk_3 hd_3
      exact absurd hd_3 (by omega)
    | succ d ih_3 =>
      intro k hk_3 hd_3 hI H locs hP hS ls hl
      refine lv_iload hx hb dX1_vehicleOn_3 (lv_at hl 3 rfl) ?_
      refine lv_aload_n hx hb dX1_vehicleOn_5 rfl (lv_at hl 0 rfl) ?_
      refine va_get (D := G) (ci := 1) (v := .int (nI (y_n Y))) (C := RX1) (T := TX1) (N := 6) hx hb hts in_X1_vehicleOn_1 hown hK hP 0 rfl rfl 4 (by decide) (hts (.fieldLink RX1 26 "RampJam$Yard" "vehicleCount" "I") (by decide +kernel)) (fun _ h9 => h9) rfl dX1_vehicleOn_6 ?_
      refine lv_icmp_ge (tgt := 35) hx hb dX1_vehicleOn_9 (by decide) (fun c_1 => ?_) (fun c_1 => ?_)
      · have hkn : k = y_n Y := Nat.le_antisymm hk_3 (nx_ge (by omega) (by omega) c_1)
        refine lv_iconst (v := (-1)) hx hb dX1_vehicleOn_35 (by decide) ?_
        exact W.iret (v := (-1)) hx hb hr (fun t ht hW => ⟨⟨(-1), (), rfl, by rw [← hI, hkn, Nat.sub_self]; rfl, trivial⟩, hS.F ht⟩) hS.2.2 dX1_vehicleOn_36
      · have hlt : k < y_n Y := nx_lt (by omega) (by omega) c_1
        refine lv_aload_n hx hb dX1_vehicleOn_12 rfl (lv_at hl 0 rfl) ?_
        refine lv_iload_n hx hb dX1_vehicleOn_13 rfl (lv_at hl 1 rfl) ?_
        refine lv_iload hx hb dX1_vehicleOn_14 (lv_at hl 3 rfl) ?_
        refine ro_l (va_runV (As := [.int x, .int (nI k)]) (rest := []) ⟨hx, hb, hml, hown, hts⟩ ((c_X1_cellsIn l G cI cZ cJ a _ Y x (nI k))) (cwV 2 hts gX1_vehicleOn_X1_cellsIn rfl rfl rfl (by decide +kernel) ⟨Nat.le_of_ble_eq_true rfl, Nat.le_of_ble_eq_true rfl⟩) ⟨ro_blind, va_recv hK hP (ci := 1) (q0 := 0) rfl rfl, ro_pre hP hK hN⟩ rfl rfl hl.1 rfl (lv_room (Nat.le_of_ble_eq_true rfl)) dX1_vehicleOn_16 ⟨Nat.zero_le _, Nat.zero_le _⟩) hS hA hP (fun H locs hP hS => ?_)
        refine lv_lload_n hx hb dX1_vehicleOn_19 rfl (lv_at hl 2 rfl) ?_
        refine lv_land hx hb dX1_vehicleOn_20 ?_
        refine lv_lconst (v := 0) hx hb dX1_vehicleOn_21 (by decide) ?_
        refine W.lcmp hx hb dX1_vehicleOn_22 ?_
        refine lv_if_eq (tgt := 29) hx hb dX1_vehicleOn_23 (by decide) (fun c_2 => ?_) (fun c_2 => ?_)
        · have c_2 := lg_t c_2
          have hz := c_2
          refine lv_iinc (v := (nI (k + 1))) (lv' := [(4, .int (nI (k + 1))), (0, .ref (a 6)), (1, .int x), (2, .long w)]) hx hb dX1_vehicleOn_29 hl (k := 3) rfl (nI_1 _) (by decide) rfl (fun ls hl => ?_)
          refine lv_goto (tgt := 3) hx hb dX1_vehicleOn_32 (by decide) ?_
          exact ih_3 (k + 1) (hlt) (by omega) (by rw [← hI, y_on_in hlt, if_pos hz]) _ _ hP hS _ (lv_sub hl [1, 2, 3, 0] rfl)
        · have c_2 := lg_f c_2
          have hz := c_2
          refine lv_iload hx hb dX1_vehicleOn_26 (lv_at hl 3 rfl) ?_
          exact W.iret (v := (nI k)) hx hb hr (fun t ht hW => ⟨⟨(nI k), (), rfl, by rw [← hI, y_on_in hlt, if_neg hz], trivial⟩, hS.F ht⟩) hS.2.2 dX1_vehicleOn_28
  exact cut_3 (y_n Y + 1) 0 (Nat.zero_le _) (by omega) (rfl) _ _ hP hS _ (lv_sub hl [1, 2, 3, 0] rfl)

theorem in_X1_wayIn_1 : ∀ w ∈ wsX10, w ∈ wsX1_wayIn := by decide +kernel
set_option maxHeartbeats 4000000 in
set_option maxRecDepth 100000 in
/-- Yard.wayIn -/
theorem c_X1_wayIn (l : Launch) (G : va_G) (cI cZ cJ : ClassId) (a : Nat → Nat) (sz : Nat) (Y : YS) (x : Int32) (w : Int64) (v : Int32) (dir : Int32)  : Met l yX1_wayIn wsX1_wayIn ({ frames := 2, cells := 0, slots := 0, locals := 44 }) (ro_Pc G [(cI, .int), (cZ, .boolean), (cJ, .long)] (wY cI cZ cJ a Y) sz [.ref (a 6), .int x, .long w, .int v, .int dir]) (ro_Qi (y_way Y x w v dir) sz) 0 0 (ro_A sz) := by
  refine Met.ofW (cc := cX1_wayIn) (maxL := 14) (ret := (some .int)) (by decide) rfl ?_
  intro p e s m args below meth c s₁ B hml hv
  obtain ⟨rfl, hsz, hP, hK, hN⟩ := hv
  have hx := B.exec
  have hb := B.bytes
  have hr := B.returns
  have hts := atoms_spec (ws := wsX1_wayIn) B.pre
  have hown : s.vm.findClass RX1 = some m.cls := findClass_of_methodNamed B.named
  have hlocks := B.notSynchronized
  subst hsz
  have hA : ∀ q : Nat, s.heap.size ≤ q → (ro_A s.heap.size) q := fun _ h => h
  have hS : va_S (ro_A s.heap.size) s.heap s.heap [] := va_S.rf
  have hP : va_P G vwCl [((a 6), .inr (1, [.ref (a 7), .ref (a 8), .ref (a 9), .ref (a 10), .int (nI (y_n Y)), .long (y_rp Y)])), ((a 7), .inl (cI, 9, .inl (y_sz Y))), ((a 8), .inl (cZ, 9, .inl (y_ac Y))), ((a 9), .inl (cI, 9, .inl (y_li Y))), ((a 10), .inl (cJ, 9, .inr (.inl (y_sh Y))))] s.heap := hP
  have hl := lv_entry ([.ref (a 6), .int x, .long w, .int v, .int dir]) (n := 14) (Nat.le_of_ble_eq_true rfl)
  rw [lg_entry_eq]
  generalize (lg_sl ([.ref (a 6), .int x, .long w, .int v, .int dir]) ++ List.replicate (14 - (lg_sl ([.ref (a 6), .int x, .long w, .int v, .int dir])).length) Slot.unset).toArray = ls at hl ⊢
  have hl : lv_has ls 14 [(0, .ref (a 6)), (1, .int x), (2, .long w), (4, .int v), (5, .int dir)] := hl
  refine lv_aload_n hx hb dX1_wayIn_0 rfl (lv_at hl 0 rfl) ?_
  refine lv_iload hx hb dX1_wayIn_1 (lv_at hl 3 rfl) ?_
  refine ro_i (va_runV (As := [.int v]) (rest := []) ⟨hx, hb, hml, hown, hts⟩ ((c_X1_has l G cI cZ cJ a _ Y v)) (cwV 1 hts gX1_wayIn_X1_has rfl rfl rfl (by decide +kernel) ⟨Nat.le_of_ble_eq_true rfl, Nat.le_of_ble_eq_true rfl⟩) ⟨ro_blind, va_recv hK hP (ci := 1) (q0 := 0) rfl rfl, ro_pre hP hK hN⟩ rfl rfl hl.1 rfl (lv_room (Nat.le_of_ble_eq_true rfl)) dX1_wayIn_3 ⟨Nat.zero_le _, Nat.zero_le _⟩) hS hA hP (fun H locs hP hS => ?_)
  refine lv_if_ne (tgt := 11) hx hb dX1_wayIn_6 (by decide) (fun c_1 => ?_) (fun c_1 => ?_)
  · have c_1 := b1_t c_1
    refine lv_iload_n hx hb dX1_wayIn_11 rfl (lv_at hl 1 rfl) ?_
    refine lv_iload hx hb dX1_wayIn_12 (lv_at hl 3 rfl) ?_
    refine ro_i (va_runSN (As := [.int x, .int v]) (rest := []) ⟨hx, hb, hml, hown, hts⟩ ((c_X2_placeIn l G cI cZ cJ a _ x v)) ⟨va_cnB 2 hts gX1_wayIn_X2_placeIn_n42 rfl rfl rfl (nx_get hN (k := 1) rfl) (hts (.initialized RX2) (by decide +kernel)) (by decide +kernel) ⟨Nat.le_of_ble_eq_true rfl, Nat.le_of_ble_eq_true rfl⟩, hts (.static yX2_placeIn) (by decide +kernel), trivial⟩ ⟨ro_blind, ro_pre va_P0 hK hN⟩ rfl rfl hl.1 rfl (lv_room (Nat.le_of_ble_eq_true rfl)) dX1_wayIn_14 ⟨Nat.zero_le _, Nat.zero_le _⟩) hS hA hP (fun H locs hP hS => ?_)
    refine lv_istore (lv' := [(6, .int (pl x v)), (0, .ref (a 6)), (1, .int x), (2, .long w), (4, .int v), (5, .int dir)]) hx hb dX1_wayIn_17 hl (by decide) rfl (fun ls hl => ?_)
    have cut_43 : ∀ (tb_g : Int32), (tb_g = y_tb Y x v dir) → ∀ (H : Heap) (locs : List Loc), va_P G vwCl [((a 6), .inr (1, [.ref (a 7), .ref (a 8), .ref (a 9), .ref (a 10), .int (nI (y_n Y)), .long (y_rp Y)])), ((a 7), .inl (cI, 9, .inl (y_sz Y))), ((a 8), .inl (cZ, 9, .inl (y_ac Y))), ((a 9), .inl (cI, 9, .inl (y_li Y))), ((a 10), .inl (cJ, 9, .inr (.inl (y_sh Y))))] H → va_S (ro_A s.heap.size) s.heap H locs → ∀ (ls : Array Slot), lv_has ls 14 [(6, .int (pl x v)), (0, .ref (a 6)), (1, .int x), (2, .long w), (4, .int v), (5, .int dir)] → W p l e (headSpec wsX1_wayIn ({ frames := 2, cells := 0, slots := 0, locals := 44 })).room s m ([.ref (a 6), .int x, .long w, .int v, .int dir] : List Value).toArray below meth c H locs 0 0 (MQ below (ro_Qi (y_way Y x w v dir) s.heap.size) ([.ref (a 6), .int x, .long w, .int v, .int dir] : List Value).toArray s 0 0 (ro_A s.heap.size)) (F0 m 43 ls [.int tb_g]) := by
      intro tb_g etb H locs hP hS ls hl
      subst etb
      try have hl : lv_has ls 14 [(6, .int (pl x v)), (0, .ref (a 6)), (1, .int x), (2, .long w), (4, .int v), (5, .int dir)] := hl
      refine lv_istore (lv' := [(7, .int (y_tb Y x v dir)), (6, .int (pl x v)), (0, .ref (a 6)), (1, .int x), (2, .long w), (4, .int v), (5, .int dir)]) hx hb dX1_wayIn_43 hl (by decide) rfl (fun ls hl => ?_)
      have cut_61 : ∀ (sd_g : Int32), (sd_g = y_str Y v) → ∀ (H : Heap) (locs : List Loc), va_P G vwCl [((a 6), .inr (1, [.ref (a 7), .ref (a 8), .ref (a 9), .ref (a 10), .int (nI (y_n Y)), .long (y_rp Y)])), ((a 7), .inl (cI, 9, .inl (y_sz Y))), ((a 8), .inl (cZ, 9, .inl (y_ac Y))), ((a 9), .inl (cI, 9, .inl (y_li Y))), ((a 10), .inl (cJ, 9, .inr (.inl (y_sh Y))))] H → va_S (ro_A s.heap.size) s.heap H locs → ∀ (ls : Array Slot), lv_has ls 14 [(7, .int (y_tb Y x v dir)), (6, .int (pl x v)), (0, .ref (a 6)), (1, .int x), (2, .long w), (4, .int v), (5, .int dir)] → W p l e (headSpec wsX1_wayIn ({ frames := 2, cells := 0, slots := 0, locals := 44 })).room s m ([.ref (a 6), .int x, .long w, .int v, .int dir] : List Value).toArray below meth c H locs 0 0 (MQ below (ro_Qi (y_way Y x w v dir) s.heap.size) ([.ref (a 6), .int x, .long w, .int v, .int dir] : List Value).toArray s 0 0 (ro_A s.heap.size)) (F0 m 61 ls [.int sd_g]) := by
        intro sd_g esd H locs hP hS ls hl
        subst esd
        try have hl : lv_has ls 14 [(7, .int (y_tb Y x v dir)), (6, .int (pl x v)), (0, .ref (a 6)), (1, .int x), (2, .long w), (4, .int v), (5, .int dir)] := hl
        refine lv_istore (lv' := [(8, .int (y_str Y v)), (7, .int (y_tb Y x v dir)), (6, .int (pl x v)), (0, .ref (a 6)), (1, .int x), (2, .long w), (4, .int v), (5, .int dir)]) hx hb dX1_wayIn_61 hl (by decide) rfl (fun ls hl => ?_)
        refine lv_aload_n hx hb dX1_wayIn_63 rfl (lv_at hl 3 rfl) ?_
        refine lv_iload_n hx hb dX1_wayIn_64 rfl (lv_at hl 4 rfl) ?_
        refine lv_iload hx hb dX1_wayIn_65 (lv_at hl 6 rfl) ?_
        refine ro_l (va_runV (As := [.int x, .int v]) (rest := []) ⟨hx, hb, hml, hown, hts⟩ ((c_X1_cellsIn l G cI cZ cJ a _ Y x v)) (cwV 2 hts gX1_wayIn_X1_cellsIn rfl rfl rfl (by decide +kernel) ⟨Nat.le_of_ble_eq_true rfl, Nat.le_of_ble_eq_true rfl⟩) ⟨ro_blind, va_recv hK hP (ci := 1) (q0 := 0) rfl rfl, ro_pre hP hK hN⟩ rfl rfl hl.1 rfl (lv_room (Nat.le_of_ble_eq_true rfl)) dX1_wayIn_67 ⟨Nat.zero_le _, Nat.zero_le _⟩) hS hA hP (fun H locs hP hS => ?_)
        refine lv_lstore (lv' := [(9, .long (y_cel Y x v)), (8, .int (y_str Y v)), (7, .int (y_tb Y x v dir)), (6, .int (pl x v)), (0, .ref (a 6)), (1, .int x), (2, .long w), (4, .int v), (5, .int dir)]) hx hb dX1_wayIn_70 hl (by decide) rfl (fun ls hl => ?_)
        refine lv_lload_n hx hb dX1_wayIn_72 rfl (lv_at hl 6 rfl) ?_
        refine lv_lload hx hb dX1_wayIn_73 (lv_at hl 0 rfl) ?_
        refine lv_ldc2 (own := RX1) (index := 50) (v := (-1)) hx hb hown (hts (.constantLong RX1 50 (-1)) (by decide +kernel)) dX1_wayIn_75 ?_
        refine lv_lxor hx hb dX1_wayIn_78 ?_
        refine lv_land hx hb dX1_wayIn_79 ?_
        refine lv_aload_n hx hb dX1_wayIn_80 rfl (lv_at hl 4 rfl) ?_
        refine lv_aload_n hx hb dX1_wayIn_81 rfl (lv_at hl 4 rfl) ?_
        refine va_get (D := G) (ci := 1) (v := .ref (a 7)) (C := RX1) (T := TX1) (N := 6) hx hb hts in_X1_wayIn_1 hown hK hP 0 rfl rfl 0 (by decide) (hts (.fieldLink RX1 9 "RampJam$Yard" "sizes" "[I") (by decide +kernel)) (fun _ h9 => h9) rfl dX1_wayIn_82 ?_
        refine lv_iload hx hb dX1_wayIn_85 (lv_at hl 7 rfl) ?_
        refine va_iald hx hb hK hP 1 0 rfl rfl (y_has_in (by assumption)) dX1_wayIn_87 ?_
        refine ro_l (va_runV (As := [.int ((y_sz Y) (v.toNatClampNeg))]) (rest := [.long (w &&& ((y_cel Y x v) ^^^ (-1)))]) ⟨hx, hb, hml, hown, hts⟩ ((c_X1_barredTo l G cI cZ cJ a _ Y ((y_sz Y) (v.toNatClampNeg)))) (cwV 1 hts gX1_wayIn_X1_barredTo rfl rfl rfl (by decide +kernel) ⟨Nat.le_of_ble_eq_true rfl, Nat.le_of_ble_eq_true rfl⟩) ⟨ro_blind, va_recv hK hP (ci := 1) (q0 := 0) rfl rfl, ro_pre hP hK hN⟩ rfl rfl hl.1 rfl (lv_room (Nat.le_of_ble_eq_true rfl)) dX1_wayIn_88 ⟨Nat.zero_le _, Nat.zero_le _⟩) hS hA hP (fun H locs hP hS => ?_)
        refine lv_lor hx hb dX1_wayIn_91 ?_
        refine lv_lstore (lv' := [(11, .long ((w &&& ((y_cel Y x v) ^^^ (-1))) ||| (y_bar Y ((y_sz Y) (v.toNatClampNeg))))), (9, .long (y_cel Y x v)), (8, .int (y_str Y v)), (7, .int (y_tb Y x v dir)), (6, .int (pl x v)), (0, .ref (a 6)), (1, .int x), (2, .long w), (4, .int v), (5, .int dir)]) hx hb dX1_wayIn_92 hl (by decide) rfl (fun ls hl => ?_)
        refine lv_iconst (v := 0) hx hb dX1_wayIn_94 (by decide) ?_
        refine lv_istore (lv' := [(13, .int 0), (11, .long ((w &&& ((y_cel Y x v) ^^^ (-1))) ||| (y_bar Y ((y_sz Y) (v.toNatClampNeg))))), (9, .long (y_cel Y x v)), (8, .int (y_str Y v)), (7, .int (y_tb Y x v dir)), (6, .int (pl x v)), (0, .ref (a 6)), (1, .int x), (2, .long w), (4, .int v), (5, .int dir)]) hx hb dX1_wayIn_95 hl (by decide) rfl (fun ls hl => ?_)
        have cut_97 : ∀ (d : Nat) (k : Nat) (z_g : Int64), k ≤ (y_tb Y x v dir).toNatClampNeg → (y_tb Y x v dir).toNatClampNeg + 1 ≤ k + d → (y_wl (y_brd Y x w v) dir (y_str Y v) (y_tb Y x v dir) ((y_tb Y x v dir).toNatClampNeg - k) k z_g = y_wl (y_brd Y x w v) dir (y_str Y v) (y_tb Y x v dir) (y_tb Y x v dir).toNatClampNeg 0 (y_cel Y x v)) → ∀ (H : Heap) (locs : List Loc), va_P G vwCl [((a 6), .inr (1, [.ref (a 7), .ref (a 8), .ref (a 9), .ref (a 10), .int (nI (y_n Y)), .long (y_rp Y)])), ((a 7), .inl (cI, 9, .inl (y_sz Y))), ((a 8), .inl (cZ, 9, .inl (y_ac Y))), ((a 9), .inl (cI, 9, .inl (y_li Y))), ((a 10), .inl (cJ, 9, .inr (.inl (y_sh Y))))] H → va_S (ro_A s.heap.size) s.heap H locs → ∀ (ls : Array Slot), lv_has ls 14 [(0, .ref (a 6)), (1, .int x), (2, .long w), (4, .int v), (5, .int dir), (7, .int (y_tb Y x v dir)), (8, .int (y_str Y v)), (9, .long z_g), (11, .long (y_brd Y x w v)), (13, .int (nI k))] → W p l e (headSpec wsX1_wayIn ({ frames := 2, cells := 0, slots := 0, locals := 44 })).room s m ([.ref (a 6), .int x, .long w, .int v, .int dir] : List Value).toArray below meth c H locs 0 0 (MQ below (ro_Qi (y_way Y x w v dir) s.heap.size) ([.ref (a 6), .int x, .long w, .int v, .int dir] : List Value).toArray s 0 0 (ro_A s.heap.size)) (F0 m 97 ls []) := by
          intro d
          induction d with
          | zero =>
            intro k z_g hk_97 hd_97
            exact absurd hd_97 (by omega)
          | succ d ih_97 =>
            intro k z_g hk_97 hd_97 hI H locs hP hS ls hl
            refine lv_iload hx hb dX1_wayIn_97 (lv_at hl 9 rfl) ?_
            refine lv_iload hx hb dX1_wayIn_99 (lv_at hl 5 rfl) ?_
            refine lv_icmp_ge (tgt := 144) hx hb dX1_wayIn_101 (by decide) (fun c_2 => ?_) (fun c_2 => ?_)
            · have hout := c_2
              refine lv_iload hx hb dX1_wayIn_144 (lv_at hl 5 rfl) ?_
              exact W.iret (v := (y_tb Y x v dir)) hx hb hr (fun t ht hW => ⟨⟨(y_tb Y x v dir), (), rfl, by rw [y_way, if_pos c_1, ← hI, y_wl_out hout (by have := cl_bound (y_tb Y x v dir); omega)], trivial⟩, hS.F ht⟩) hS.2.2 dX1_wayIn_146
            · have hlt : k < (y_tb Y x v dir).toNatClampNeg := cl_lt (by have := cl_bound (y_tb Y x v dir); omega) c_2
              have cut_123 : ∀ (z2_g : Int64), (z2_g = y_shf dir (y_str Y v) z_g) → ∀ (H : Heap) (locs : List Loc), va_P G vwCl [((a 6), .inr (1, [.ref (a 7), .ref (a 8), .ref (a 9), .ref (a 10), .int (nI (y_n Y)), .long (y_rp Y)])), ((a 7), .inl (cI, 9, .inl (y_sz Y))), ((a 8), .inl (cZ, 9, .inl (y_ac Y))), ((a 9), .inl (cI, 9, .inl (y_li Y))), ((a 10), .inl (cJ, 9, .inr (.inl (y_sh Y))))] H → va_S (ro_A s.heap.size) s.heap H locs → ∀ (ls : Array Slot), lv_has ls 14 [(0, .ref (a 6)), (1, .int x), (2, .long w), (4, .int v), (5, .int dir), (7, .int (y_tb Y x v dir)), (8, .int (y_str Y v)), (9, .long z_g), (11, .long (y_brd Y x w v)), (13, .int (nI k))] → W p l e (headSpec wsX1_wayIn ({ frames := 2, cells := 0, slots := 0, locals := 44 })).room s m ([.ref (a 6), .int x, .long w, .int v, .int dir] : List Value).toArray below meth c H locs 0 0 (MQ below (ro_Qi (y_way Y x w v dir) s.heap.size) ([.ref (a 6), .int x, .long w, .int v, .int dir] : List Value).toArray s 0 0 (ro_A s.heap.size)) (F0 m 123 ls [.long z2_g]) := by
                intro z2_g ez H locs hP hS ls hl
                refine lv_lstore (lv' := [(9, .long z2_g), (0, .ref (a 6)), (1, .int x), (2, .long w), (4, .int v), (5, .int dir), (7, .int (y_tb Y x v dir)), (8, .int (y_str Y v)), (11, .long (y_brd Y x w v)), (13, .int (nI k))]) hx hb dX1_wayIn_123 hl (by decide) rfl (fun ls hl => ?_)
                refine lv_lload hx hb dX1_wayIn_125 (lv_at hl 0 rfl) ?_
                refine lv_lload hx hb dX1_wayIn_127 (lv_at hl 8 rfl) ?_
                refine lv_land hx hb dX1_wayIn_129 ?_
                refine lv_lconst (v := 0) hx hb dX1_wayIn_130 (by decide) ?_
                refine W.lcmp hx hb dX1_wayIn_131 ?_
                refine lv_if_eq (tgt := 138) hx hb dX1_wayIn_132 (by decide) (fun c_3 => ?_) (fun c_3 => ?_)
                · have c_3 := lg_t c_3
                  have hz := c_3
                  refine lv_iinc (v := (nI (k + 1))) (lv' := [(13, .int (nI (k + 1))), (9, .long z2_g), (0, .ref (a 6)), (1, .int x), (2, .long w), (4, .int v), (5, .int dir), (7, .int (y_tb Y x v dir)), (8, .int (y_str Y v)), (11, .long (y_brd Y x w v))]) hx hb dX1_wayIn_138 hl (k := 9) rfl (nI_1 _) (by decide) rfl (fun ls hl => ?_)
                  refine lv_goto (tgt := 97) hx hb dX1_wayIn_141 (by decide) ?_
                  exact ih_97 (k + 1) z2_g (hlt) (by omega) (by rw [← hI, y_wl_in hlt, ← ez, if_pos hz]) _ _ hP hS _ (lv_sub hl [2, 3, 4, 5, 6, 7, 8, 1, 9, 0] rfl)
                · have c_3 := lg_f c_3
                  have hz := c_3
                  refine lv_iload hx hb dX1_wayIn_135 (lv_at hl 9 rfl) ?_
                  exact W.iret (v := (nI k)) hx hb hr (fun t ht hW => ⟨⟨(nI k), (), rfl, by rw [y_way, if_pos c_1, ← hI, y_wl_in hlt, ← ez, if_neg hz], trivial⟩, hS.F ht⟩) hS.2.2 dX1_wayIn_137
              refine lv_iload hx hb dX1_wayIn_104 (lv_at hl 4 rfl) ?_
              refine lv_iconst (v := 1) hx hb dX1_wayIn_106 (by decide) ?_
              refine lv_icmp_ne (tgt := 118) hx hb dX1_wayIn_107 (by decide) (fun c_4 => ?_) (fun c_4 => ?_)
              · refine lv_lload hx hb dX1_wayIn_118 (lv_at hl 7 rfl) ?_
                refine lv_iload hx hb dX1_wayIn_120 (lv_at hl 6 rfl) ?_
                refine lv_lushr (v := ((z_g.toUInt64 >>> ((y_str Y v).toInt64.toUInt64 &&& Int64.toUInt64 63)).toInt64)) hx hb dX1_wayIn_122 rfl ?_
                exact cut_123 ((z_g.toUInt64 >>> ((y_str Y v).toInt64.toUInt64 &&& Int64.toUInt64 63)).toInt64) (by simp [y_shf, c_1, hI, c_2, c_4]) _ _ hP hS _ hl
              · refine lv_lload hx hb dX1_wayIn_110 (lv_at hl 7 rfl) ?_
                refine lv_iload hx hb dX1_wayIn_112 (lv_at hl 6 rfl) ?_
                refine lv_lshl (v := (z_g <<< ((y_str Y v).toInt64 &&& 63))) hx hb dX1_wayIn_114 rfl ?_
                refine lv_goto (tgt := 123) hx hb dX1_wayIn_115 (by decide) ?_
                exact cut_123 (z_g <<< ((y_str Y v).toInt64 &&& 63)) (by simp [y_shf, c_1, hI, c_2, c_4]) _ _ hP hS _ hl
        exact cut_97 ((y_tb Y x v dir).toNatClampNeg + 1) 0 (y_cel Y x v) (Nat.zero_le _) (by omega) (rfl) _ _ hP hS _ (lv_sub hl [6, 7, 8, 9, 10, 4, 3, 2, 1, 0] rfl)
      refine lv_aload_n hx hb dX1_wayIn_45 rfl (lv_at hl 2 rfl) ?_
      refine va_get (D := G) (ci := 1) (v := .ref (a 8)) (C := RX1) (T := TX1) (N := 6) hx hb hts in_X1_wayIn_1 hown hK hP 0 rfl rfl 1 (by decide) (hts (.fieldLink RX1 15 "RampJam$Yard" "acrosses" "[Z") (by decide +kernel)) (fun _ h9 => h9) rfl dX1_wayIn_46 ?_
      refine lv_iload hx hb dX1_wayIn_49 (lv_at hl 5 rfl) ?_
      refine va_zald hx hb hK hP 2 1 rfl rfl (y_has_in (by assumption)) dX1_wayIn_51 ?_
      refine lv_if_eq (tgt := 59) hx hb dX1_wayIn_52 (by decide) (fun c_5 => ?_) (fun c_5 => ?_)
      · refine lv_bipush (v := 6) hx hb dX1_wayIn_59 (by decide) ?_
        exact cut_61 6 (by simp [y_str, c_1, c_5]) _ _ hP hS _ hl
      · refine lv_iconst (v := 1) hx hb dX1_wayIn_55 (by decide) ?_
        refine lv_goto (tgt := 61) hx hb dX1_wayIn_56 (by decide) ?_
        exact cut_61 1 (by simp [y_str, c_1, c_5]) _ _ hP hS _ hl
    refine lv_iload hx hb dX1_wayIn_19 (lv_at hl 5 rfl) ?_
    refine lv_iconst (v := 1) hx hb dX1_wayIn_21 (by decide) ?_
    refine lv_icmp_ne (tgt := 41) hx hb dX1_wayIn_22 (by decide) (fun c_6 => ?_) (fun c_6 => ?_)
    · refine lv_iload hx hb dX1_wayIn_41 (lv_at hl 0 rfl) ?_
      exact cut_43 (pl x v) (by simp [y_tb, c_1, c_6]) _ _ hP hS _ hl
    · refine lv_bipush (v := 6) hx hb dX1_wayIn_25 (by decide) ?_
      refine lv_aload_n hx hb dX1_wayIn_27 rfl (lv_at hl 1 rfl) ?_
      refine va_get (D := G) (ci := 1) (v := .ref (a 7)) (C := RX1) (T := TX1) (N := 6) hx hb hts in_X1_wayIn_1 hown hK hP 0 rfl rfl 0 (by decide) (hts (.fieldLink RX1 9 "RampJam$Yard" "sizes" "[I") (by decide +kernel)) (fun _ h9 => h9) rfl dX1_wayIn_28 ?_
      refine lv_iload hx hb dX1_wayIn_31 (lv_at hl 4 rfl) ?_
      refine va_iald hx hb hK hP 1 0 rfl rfl (y_has_in (by assumption)) dX1_wayIn_33 ?_
      refine lv_isub hx hb dX1_wayIn_34 ?_
      refine lv_iload hx hb dX1_wayIn_35 (lv_at hl 0 rfl) ?_
      refine lv_isub hx hb dX1_wayIn_37 ?_
      refine lv_goto (tgt := 43) hx hb dX1_wayIn_38 (by decide) ?_
      exact cut_43 ((6 - ((y_sz Y) (v.toNatClampNeg))) - (pl x v)) (by simp [y_tb, c_1, c_6]) _ _ hP hS _ hl
  · have c_1 := b1_f c_1
    refine lv_iconst (v := 0) hx hb dX1_wayIn_9 (by decide) ?_
    exact W.iret (v := 0) hx hb hr (fun t ht hW => ⟨⟨0, (), rfl, by simp [y_way, c_1], trivial⟩, hS.F ht⟩) hS.2.2 dX1_wayIn_10

set_option maxHeartbeats 4000000 in
set_option maxRecDepth 100000 in
/-- cellsOf -/
theorem c_X2_cellsOf (l : Launch) (G : va_G) (cI cZ cJ : ClassId) (a : Nat → Nat) (sz : Nat) (sz0 : Int32) (ac : Int32) (r : Int32) (q : Int32)  : Met l yX2_cellsOf wsX2_cellsOf ({ frames := 1, cells := 0, slots := 0, locals := 21 }) (ro_Pc G [(cI, .int), (cZ, .boolean), (cJ, .long)] [] sz [.int sz0, .int ac, .int r, .int q]) (ro_Ql (cso ac r q (min sz0.toNatClampNeg 4)) sz) 0 0 (ro_A sz) := by
  refine Met.ofW (cc := cX2_cellsOf) (maxL := 7) (ret := (some .long)) (by decide) rfl ?_
  intro p e s m args below meth c s₁ B hml hv
  obtain ⟨rfl, hsz, hP, hK, hN⟩ := hv
  have hx := B.exec
  have hb := B.bytes
  have hr := B.returns
  have hts := atoms_spec (ws := wsX2_cellsOf) B.pre
  have hown : s.vm.findClass RX2 = some m.cls := findClass_of_methodNamed B.named
  have hlocks := B.notSynchronized
  subst hsz
  have hA : ∀ q : Nat, s.heap.size ≤ q → (ro_A s.heap.size) q := fun _ h => h
  have hS : va_S (ro_A s.heap.size) s.heap s.heap [] := va_S.rf
  have hP : va_P G vwCl [] s.heap := hP
  have hl := lv_entry ([.int sz0, .int ac, .int r, .int q]) (n := 7) (Nat.le_of_ble_eq_true rfl)
  rw [lg_entry_eq]
  generalize (lg_sl ([.int sz0, .int ac, .int r, .int q]) ++ List.replicate (7 - (lg_sl ([.int sz0, .int ac, .int r, .int q])).length) Slot.unset).toArray = ls at hl ⊢
  have hl : lv_has ls 7 [(0, .int sz0), (1, .int ac), (2, .int r), (3, .int q)] := hl
  refine lv_lconst (v := 0) hx hb dX2_cellsOf_0 (by decide) ?_
  refine lv_lstore (lv' := [(4, .long 0), (0, .int sz0), (1, .int ac), (2, .int r), (3, .int q)]) hx hb dX2_cellsOf_1 hl (by decide) rfl (fun ls hl => ?_)
  refine lv_iconst (v := 0) hx hb dX2_cellsOf_3 (by decide) ?_
  refine lv_istore (lv' := [(6, .int 0), (4, .long 0), (0, .int sz0), (1, .int ac), (2, .int r), (3, .int q)]) hx hb dX2_cellsOf_4 hl (by decide) rfl (fun ls hl => ?_)
  have cut_6 : ∀ (d : Nat) (k : Nat), k ≤ (min sz0.toNatClampNeg 4) → (min sz0.toNatClampNeg 4) + 1 ≤ k + d → ∀ (H : Heap) (locs : List Loc), va_P G vwCl [] H → va_S (ro_A s.heap.size) s.heap H locs → ∀ (ls : Array Slot), lv_has ls 7 [(0, .int sz0), (1, .int ac), (2, .int r), (3, .int q), (4, .long (cso ac r q k)), (6, .int (nI k))] → W p l e (headSpec wsX2_cellsOf ({ frames := 1, cells := 0, slots := 0, locals := 21 })).room s m ([.int sz0, .int ac, .int r, .int q] : List Value).toArray below meth c H locs 0 0 (MQ below (ro_Ql (cso ac r q (min sz0.toNatClampNeg 4)) s.heap.size) ([.int sz0, .int ac, .int r, .int q] : List Value).toArray s 0 0 (ro_A s.heap.size)) (F0 m 6 ls []) := by
    intro d
    induction d with
    | zero =>
      intro k hk_6 hd_6
      exact absurd hd_6 (by omega)
    | succ d ih_6 =>
      intro k hk_6 hd_6  H locs hP hS ls hl
      refine lv_iload hx hb dX2_cellsOf_6 (lv_at hl 5 rfl) ?_
      refine lv_iload_n hx hb dX2_cellsOf_8 rfl (lv_at hl 0 rfl) ?_
      refine lv_icmp_ge (tgt := 52) hx hb dX2_cellsOf_9 (by decide) (fun c_1 => ?_) (fun c_1 => ?_)
      · have hkn : k = min sz0.toNatClampNeg 4 := by have := cl_ge (by omega) c_1; omega
        refine lv_lload hx hb dX2_cellsOf_52 (lv_at hl 4 rfl) ?_
        exact W.lret (v := (cso ac r q k)) hx hb hr (fun t ht hW => ⟨⟨(cso ac r q k), (), rfl, by rw [hkn], trivial⟩, hS.F ht⟩) hS.2.2 dX2_cellsOf_54
      · have hl1 : k < sz0.toNatClampNeg := cl_lt (by omega) c_1
        refine lv_iload hx hb dX2_cellsOf_12 (lv_at hl 5 rfl) ?_
        refine lv_iconst (v := 4) hx hb dX2_cellsOf_14 (by decide) ?_
        refine lv_icmp_ge (tgt := 52) hx hb dX2_cellsOf_15 (by decide) (fun c_2 => ?_) (fun c_2 => ?_)
        · have hkn : k = min sz0.toNatClampNeg 4 := by have := nx_ge (n := 4) (by omega) (by omega) c_2; omega
          refine lv_lload hx hb dX2_cellsOf_52 (lv_at hl 4 rfl) ?_
          exact W.lret (v := (cso ac r q k)) hx hb hr (fun t ht hW => ⟨⟨(cso ac r q k), (), rfl, by rw [hkn], trivial⟩, hS.F ht⟩) hS.2.2 dX2_cellsOf_54
        · have hlt : k < min sz0.toNatClampNeg 4 := by have := nx_lt (n := 4) (by omega) (by omega) c_2; omega
          refine lv_lload hx hb dX2_cellsOf_18 (lv_at hl 4 rfl) ?_
          have cut_43 : ∀ (z_g : Int64), (z_g = if ac = 0 then co (r + nI k) q else co r (q + nI k)) → ∀ (H : Heap) (locs : List Loc), va_P G vwCl [] H → va_S (ro_A s.heap.size) s.heap H locs → ∀ (ls : Array Slot), lv_has ls 7 [(0, .int sz0), (1, .int ac), (2, .int r), (3, .int q), (4, .long (cso ac r q k)), (6, .int (nI k))] → W p l e (headSpec wsX2_cellsOf ({ frames := 1, cells := 0, slots := 0, locals := 21 })).room s m ([.int sz0, .int ac, .int r, .int q] : List Value).toArray below meth c H locs 0 0 (MQ below (ro_Ql (cso ac r q (min sz0.toNatClampNeg 4)) s.heap.size) ([.int sz0, .int ac, .int r, .int q] : List Value).toArray s 0 0 (ro_A s.heap.size)) (F0 m 43 ls [.long z_g, .long (cso ac r q k)]) := by
            intro z_g ez H locs hP hS ls hl
            subst ez
            try have hl : lv_has ls 7 [(0, .int sz0), (1, .int ac), (2, .int r), (3, .int q), (4, .long (cso ac r q k)), (6, .int (nI k))] := hl
            refine lv_lor hx hb dX2_cellsOf_43 ?_
            refine lv_lstore (lv' := [(4, .long ((cso ac r q k) ||| (if ac = 0 then co (r + nI k) q else co r (q + nI k)))), (0, .int sz0), (1, .int ac), (2, .int r), (3, .int q), (6, .int (nI k))]) hx hb dX2_cellsOf_44 hl (by decide) rfl (fun ls hl => ?_)
            refine lv_iinc (v := (nI (k + 1))) (lv' := [(6, .int (nI (k + 1))), (4, .long ((cso ac r q k) ||| (if ac = 0 then co (r + nI k) q else co r (q + nI k)))), (0, .int sz0), (1, .int ac), (2, .int r), (3, .int q)]) hx hb dX2_cellsOf_46 hl (k := 5) rfl (nI_1 _) (by decide) rfl (fun ls hl => ?_)
            refine lv_goto (tgt := 6) hx hb dX2_cellsOf_49 (by decide) ?_
            exact ih_6 (k + 1) (hlt) (by omega) _ _ hP hS _ (lv_sub hl [2, 3, 4, 5, 1, 0] rfl)
          refine lv_iload_n hx hb dX2_cellsOf_20 rfl (lv_at hl 1 rfl) ?_
          refine lv_if_eq (tgt := 35) hx hb dX2_cellsOf_21 (by decide) (fun c_3 => ?_) (fun c_3 => ?_)
          · refine lv_iload_n hx hb dX2_cellsOf_35 rfl (lv_at hl 2 rfl) ?_
            refine lv_iload hx hb dX2_cellsOf_36 (lv_at hl 5 rfl) ?_
            refine lv_iadd hx hb dX2_cellsOf_38 ?_
            refine lv_iload_n hx hb dX2_cellsOf_39 rfl (lv_at hl 3 rfl) ?_
            refine ro_l (va_runS (As := [.int (r + (nI k)), .int q]) (rest := [.long (cso ac r q k)]) ⟨hx, hb, hml, hown, hts⟩ ((c_X2_cellOf l G cI cZ cJ a _ (r + (nI k)) q)) (va_cwS 2 hts gX2_cellsOf_X2_cellOf rfl rfl rfl (by decide +kernel) ⟨Nat.le_of_ble_eq_true rfl, Nat.le_of_ble_eq_true rfl⟩) ⟨ro_blind, ro_pre va_P0 hK hN⟩ rfl rfl hl.1 rfl (lv_room (Nat.le_of_ble_eq_true rfl)) dX2_cellsOf_40 ⟨Nat.zero_le _, Nat.zero_le _⟩) hS hA hP (fun H locs hP hS => ?_)
            exact cut_43 (co (r + (nI k)) q) (by simp [c_1, c_2, c_3]) _ _ hP hS _ hl
          · refine lv_iload_n hx hb dX2_cellsOf_24 rfl (lv_at hl 2 rfl) ?_
            refine lv_iload_n hx hb dX2_cellsOf_25 rfl (lv_at hl 3 rfl) ?_
            refine lv_iload hx hb dX2_cellsOf_26 (lv_at hl 5 rfl) ?_
            refine lv_iadd hx hb dX2_cellsOf_28 ?_
            refine ro_l (va_runS (As := [.int r, .int (q + (nI k))]) (rest := [.long (cso ac r q k)]) ⟨hx, hb, hml, hown, hts⟩ ((c_X2_cellOf l G cI cZ cJ a _ r (q + (nI k)))) (va_cwS 2 hts gX2_cellsOf_X2_cellOf rfl rfl rfl (by decide +kernel) ⟨Nat.le_of_ble_eq_true rfl, Nat.le_of_ble_eq_true rfl⟩) ⟨ro_blind, ro_pre va_P0 hK hN⟩ rfl rfl hl.1 rfl (lv_room (Nat.le_of_ble_eq_true rfl)) dX2_cellsOf_29 ⟨Nat.zero_le _, Nat.zero_le _⟩) hS hA hP (fun H locs hP hS => ?_)
            refine lv_goto (tgt := 43) hx hb dX2_cellsOf_32 (by decide) ?_
            exact cut_43 (co r (q + (nI k))) (by simp [c_1, c_2, c_3]) _ _ hP hS _ hl
  exact cut_6 ((min sz0.toNatClampNeg 4) + 1) 0 (Nat.zero_le _) (by omega) _ _ hP hS _ (lv_sub hl [2, 3, 4, 5, 1, 0] rfl)
end
section
set_option maxHeartbeats 4000000 in
set_option maxRecDepth 100000 in
/-- cX0_codeOfMove -/
theorem c_X0_codeOfMove (l : Launch) (G : va_G) (cI cZ cJ : ClassId) (a : Nat → Nat) (sz : Nat) (x0 : Int32) (x1 : Int32)  : Met l yX0_codeOfMove wsX0_codeOfMove ({ frames := 0, cells := 0, slots := 0, locals := 0 }) (ro_Pc G [(cI, .int), (cZ, .boolean), (cJ, .long)] [] sz [.int x0, .int x1]) (ro_Qi (m_code x0 x1) sz) 0 0 (ro_A sz) := by
  refine Met.ofW (cc := cX0_codeOfMove) (maxL := 2) (ret := (some .int)) (by decide) rfl ?_
  intro p e s m args below meth c s₁ B hml hv
  obtain ⟨rfl, hsz, hP, hK, hN⟩ := hv
  have hx := B.exec
  have hb := B.bytes
  have hr := B.returns
  have hts := atoms_spec (ws := wsX0_codeOfMove) B.pre
  have hown : s.vm.findClass RX0 = some m.cls := findClass_of_methodNamed B.named
  have hlocks := B.notSynchronized
  subst hsz
  have hA : ∀ q : Nat, s.heap.size ≤ q → (ro_A s.heap.size) q := fun _ h => h
  have hS : va_S (ro_A s.heap.size) s.heap s.heap [] := va_S.rf
  have hP : va_P G vwCl [] s.heap := hP
  have hl := lv_entry ([.int x0, .int x1]) (n := 2) (Nat.le_of_ble_eq_true rfl)
  rw [lg_entry_eq]
  generalize (lg_sl ([.int x0, .int x1]) ++ List.replicate (2 - (lg_sl ([.int x0, .int x1])).length) Slot.unset).toArray = ls at hl ⊢
  have hl : lv_has ls 2 [(0, .int x0), (1, .int x1)] := hl
  refine lv_bipush (v := 10) hx hb dX0_codeOfMove_0 (by decide) ?_
  refine lv_iload_n hx hb dX0_codeOfMove_2 rfl (lv_at hl 0 rfl) ?_
  refine lv_imul hx hb dX0_codeOfMove_3 ?_
  refine lv_iload_n hx hb dX0_codeOfMove_4 rfl (lv_at hl 1 rfl) ?_
  refine lv_iadd hx hb dX0_codeOfMove_5 ?_
  refine lv_iconst (v := 4) hx hb dX0_codeOfMove_6 (by decide) ?_
  refine lv_iadd hx hb dX0_codeOfMove_7 ?_
  exact W.iret (v := (((10 * x0) + x1) + 4)) hx hb hr (fun t ht hW => ⟨⟨(((10 * x0) + x1) + 4), (), rfl, rfl, trivial⟩, hS.F ht⟩) hS.2.2 dX0_codeOfMove_8

set_option maxHeartbeats 4000000 in
set_option maxRecDepth 100000 in
/-- cX0_cellsOfMove -/
theorem c_X0_cellsOfMove (l : Launch) (G : va_G) (cI cZ cJ : ClassId) (a : Nat → Nat) (sz : Nat) (x0 : Int32)  : Met l yX0_cellsOfMove wsX0_cellsOfMove ({ frames := 0, cells := 0, slots := 0, locals := 0 }) (ro_Pc G [(cI, .int), (cZ, .boolean), (cJ, .long)] [] sz [.int x0]) (ro_Qi (m_cells x0) sz) 0 0 (ro_A sz) := by
  refine Met.ofW (cc := cX0_cellsOfMove) (maxL := 1) (ret := (some .int)) (by decide) rfl ?_
  intro p e s m args below meth c s₁ B hml hv
  obtain ⟨rfl, hsz, hP, hK, hN⟩ := hv
  have hx := B.exec
  have hb := B.bytes
  have hr := B.returns
  have hts := atoms_spec (ws := wsX0_cellsOfMove) B.pre
  have hown : s.vm.findClass RX0 = some m.cls := findClass_of_methodNamed B.named
  have hlocks := B.notSynchronized
  subst hsz
  have hA : ∀ q : Nat, s.heap.size ≤ q → (ro_A s.heap.size) q := fun _ h => h
  have hS : va_S (ro_A s.heap.size) s.heap s.heap [] := va_S.rf
  have hP : va_P G vwCl [] s.heap := hP
  have hl := lv_entry ([.int x0]) (n := 1) (Nat.le_of_ble_eq_true rfl)
  rw [lg_entry_eq]
  generalize (lg_sl ([.int x0]) ++ List.replicate (1 - (lg_sl ([.int x0])).length) Slot.unset).toArray = ls at hl ⊢
  have hl : lv_has ls 1 [(0, .int x0)] := hl
  refine lv_iload_n hx hb dX0_cellsOfMove_0 rfl (lv_at hl 0 rfl) ?_
  refine lv_bipush (v := 10) hx hb dX0_cellsOfMove_1 (by decide) ?_
  refine lv_irem hx hb dX0_cellsOfMove_3 (by decide) ?_
  refine lv_iconst (v := 4) hx hb dX0_cellsOfMove_4 (by decide) ?_
  refine lv_isub hx hb dX0_cellsOfMove_5 ?_
  exact W.iret (v := ((x0 - x0 / 10 * 10) - 4)) hx hb hr (fun t ht hW => ⟨⟨((x0 - x0 / 10 * 10) - 4), (), rfl, rfl, trivial⟩, hS.F ht⟩) hS.2.2 dX0_cellsOfMove_6

theorem in_X0_count_0 : ∀ w ∈ wsX00, w ∈ wsX0_count := by decide +kernel
set_option maxHeartbeats 4000000 in
set_option maxRecDepth 100000 in
/-- Search.count -/
theorem c_X0_count (l : Launch) (G : va_G) (cI cZ cJ : ClassId) (a : Nat → Nat) (sz : Nat) (S : SS) (Y : YS)  : Met l yX0_count wsX0_count ({ frames := 0, cells := 0, slots := 0, locals := 0 }) (ro_Pc G [(cI, .int), (cZ, .boolean), (cJ, .long)] (wS cI cZ cJ a S Y) sz [.ref (a 1)]) (ro_Qi (s_fc S) sz) 0 0 (ro_A sz) := by
  refine Met.ofW (cc := cX0_count) (maxL := 1) (ret := (some .int)) (by decide) rfl ?_
  intro p e s m args below meth c s₁ B hml hv
  obtain ⟨rfl, hsz, hP, hK, hN⟩ := hv
  have hx := B.exec
  have hb := B.bytes
  have hr := B.returns
  have hts := atoms_spec (ws := wsX0_count) B.pre
  have hown : s.vm.findClass RX0 = some m.cls := findClass_of_methodNamed B.named
  have hlocks := B.notSynchronized
  subst hsz
  have hA : ∀ q : Nat, s.heap.size ≤ q → (ro_A s.heap.size) q := fun _ h => h
  have hS : va_S (ro_A s.heap.size) s.heap s.heap [] := va_S.rf
  have hP : va_P G vwCl [((a 1), .inr (0, [.ref (a 6), .ref (a 2), .ref (a 3), .ref (a 4), .ref (a 5), .int (s_fc S), .int (s_fs S), .int (s_sm S), .int (s_sc S), .int (s_sf S)])), ((a 2), .inl (cI, 800, .inl (s_fo S))), ((a 3), .inl (cI, 800, .inl (s_or S))), ((a 4), .inl (cI, 800, .inl (s_mo S))), ((a 5), .inl (cI, 2048, .inl (s_sl S))), ((a 6), .inr (1, [.ref (a 7), .ref (a 8), .ref (a 9), .ref (a 10), .int (nI (y_n Y)), .long (y_rp Y)])), ((a 7), .inl (cI, 9, .inl (y_sz Y))), ((a 8), .inl (cZ, 9, .inl (y_ac Y))), ((a 9), .inl (cI, 9, .inl (y_li Y))), ((a 10), .inl (cJ, 9, .inr (.inl (y_sh Y))))] s.heap := hP
  have hl := lv_entry ([.ref (a 1)]) (n := 1) (Nat.le_of_ble_eq_true rfl)
  rw [lg_entry_eq]
  generalize (lg_sl ([.ref (a 1)]) ++ List.replicate (1 - (lg_sl ([.ref (a 1)])).length) Slot.unset).toArray = ls at hl ⊢
  have hl : lv_has ls 1 [(0, .ref (a 1))] := hl
  refine lv_aload_n hx hb dX0_count_0 rfl (lv_at hl 0 rfl) ?_
  refine va_get (D := G) (ci := 0) (v := .int (s_fc S)) (C := RX0) (T := TX0) (N := 10) hx hb hts in_X0_count_0 hown hK hP 0 rfl rfl 5 (by decide) (hts (.fieldLink RX0 28 "RampJam$Search" "foundCount" "I") (by decide +kernel)) (fun _ h9 => h9) rfl dX0_count_1 ?_
  exact W.iret (v := (s_fc S)) hx hb hr (fun t ht hW => ⟨⟨(s_fc S), (), rfl, rfl, trivial⟩, hS.F ht⟩) hS.2.2 dX0_count_4

theorem in_X0_movesToSolved_0 : ∀ w ∈ wsX00, w ∈ wsX0_movesToSolved := by decide +kernel
set_option maxHeartbeats 4000000 in
set_option maxRecDepth 100000 in
/-- Search.movesToSolved -/
theorem c_X0_movesToSolved (l : Launch) (G : va_G) (cI cZ cJ : ClassId) (a : Nat → Nat) (sz : Nat) (S : SS) (Y : YS)  : Met l yX0_movesToSolved wsX0_movesToSolved ({ frames := 0, cells := 0, slots := 0, locals := 0 }) (ro_Pc G [(cI, .int), (cZ, .boolean), (cJ, .long)] (wS cI cZ cJ a S Y) sz [.ref (a 1)]) (ro_Qi (s_sm S) sz) 0 0 (ro_A sz) := by
  refine Met.ofW (cc := cX0_movesToSolved) (maxL := 1) (ret := (some .int)) (by decide) rfl ?_
  intro p e s m args below meth c s₁ B hml hv
  obtain ⟨rfl, hsz, hP, hK, hN⟩ := hv
  have hx := B.exec
  have hb := B.bytes
  have hr := B.returns
  have hts := atoms_spec (ws := wsX0_movesToSolved) B.pre
  have hown : s.vm.findClass RX0 = some m.cls := findClass_of_methodNamed B.named
  have hlocks := B.notSynchronized
  subst hsz
  have hA : ∀ q : Nat, s.heap.size ≤ q → (ro_A s.heap.size) q := fun _ h => h
  have hS : va_S (ro_A s.heap.size) s.heap s.heap [] := va_S.rf
  have hP : va_P G vwCl [((a 1), .inr (0, [.ref (a 6), .ref (a 2), .ref (a 3), .ref (a 4), .ref (a 5), .int (s_fc S), .int (s_fs S), .int (s_sm S), .int (s_sc S), .int (s_sf S)])), ((a 2), .inl (cI, 800, .inl (s_fo S))), ((a 3), .inl (cI, 800, .inl (s_or S))), ((a 4), .inl (cI, 800, .inl (s_mo S))), ((a 5), .inl (cI, 2048, .inl (s_sl S))), ((a 6), .inr (1, [.ref (a 7), .ref (a 8), .ref (a 9), .ref (a 10), .int (nI (y_n Y)), .long (y_rp Y)])), ((a 7), .inl (cI, 9, .inl (y_sz Y))), ((a 8), .inl (cZ, 9, .inl (y_ac Y))), ((a 9), .inl (cI, 9, .inl (y_li Y))), ((a 10), .inl (cJ, 9, .inr (.inl (y_sh Y))))] s.heap := hP
  have hl := lv_entry ([.ref (a 1)]) (n := 1) (Nat.le_of_ble_eq_true rfl)
  rw [lg_entry_eq]
  generalize (lg_sl ([.ref (a 1)]) ++ List.replicate (1 - (lg_sl ([.ref (a 1)])).length) Slot.unset).toArray = ls at hl ⊢
  have hl : lv_has ls 1 [(0, .ref (a 1))] := hl
  refine lv_aload_n hx hb dX0_movesToSolved_0 rfl (lv_at hl 0 rfl) ?_
  refine va_get (D := G) (ci := 0) (v := .int (s_sm S)) (C := RX0) (T := TX0) (N := 10) hx hb hts in_X0_movesToSolved_0 hown hK hP 0 rfl rfl 7 (by decide) (hts (.fieldLink RX0 52 "RampJam$Search" "solvedMoves" "I") (by decide +kernel)) (fun _ h9 => h9) rfl dX0_movesToSolved_1 ?_
  exact W.iret (v := (s_sm S)) hx hb hr (fun t ht hW => ⟨⟨(s_sm S), (), rfl, rfl, trivial⟩, hS.F ht⟩) hS.2.2 dX0_movesToSolved_4

theorem in_X0_cellsToSolved_0 : ∀ w ∈ wsX00, w ∈ wsX0_cellsToSolved := by decide +kernel
set_option maxHeartbeats 4000000 in
set_option maxRecDepth 100000 in
/-- Search.cellsToSolved -/
theorem c_X0_cellsToSolved (l : Launch) (G : va_G) (cI cZ cJ : ClassId) (a : Nat → Nat) (sz : Nat) (S : SS) (Y : YS)  : Met l yX0_cellsToSolved wsX0_cellsToSolved ({ frames := 0, cells := 0, slots := 0, locals := 0 }) (ro_Pc G [(cI, .int), (cZ, .boolean), (cJ, .long)] (wS cI cZ cJ a S Y) sz [.ref (a 1)]) (ro_Qi (s_sc S) sz) 0 0 (ro_A sz) := by
  refine Met.ofW (cc := cX0_cellsToSolved) (maxL := 1) (ret := (some .int)) (by decide) rfl ?_
  intro p e s m args below meth c s₁ B hml hv
  obtain ⟨rfl, hsz, hP, hK, hN⟩ := hv
  have hx := B.exec
  have hb := B.bytes
  have hr := B.returns
  have hts := atoms_spec (ws := wsX0_cellsToSolved) B.pre
  have hown : s.vm.findClass RX0 = some m.cls := findClass_of_methodNamed B.named
  have hlocks := B.notSynchronized
  subst hsz
  have hA : ∀ q : Nat, s.heap.size ≤ q → (ro_A s.heap.size) q := fun _ h => h
  have hS : va_S (ro_A s.heap.size) s.heap s.heap [] := va_S.rf
  have hP : va_P G vwCl [((a 1), .inr (0, [.ref (a 6), .ref (a 2), .ref (a 3), .ref (a 4), .ref (a 5), .int (s_fc S), .int (s_fs S), .int (s_sm S), .int (s_sc S), .int (s_sf S)])), ((a 2), .inl (cI, 800, .inl (s_fo S))), ((a 3), .inl (cI, 800, .inl (s_or S))), ((a 4), .inl (cI, 800, .inl (s_mo S))), ((a 5), .inl (cI, 2048, .inl (s_sl S))), ((a 6), .inr (1, [.ref (a 7), .ref (a 8), .ref (a 9), .ref (a 10), .int (nI (y_n Y)), .long (y_rp Y)])), ((a 7), .inl (cI, 9, .inl (y_sz Y))), ((a 8), .inl (cZ, 9, .inl (y_ac Y))), ((a 9), .inl (cI, 9, .inl (y_li Y))), ((a 10), .inl (cJ, 9, .inr (.inl (y_sh Y))))] s.heap := hP
  have hl := lv_entry ([.ref (a 1)]) (n := 1) (Nat.le_of_ble_eq_true rfl)
  rw [lg_entry_eq]
  generalize (lg_sl ([.ref (a 1)]) ++ List.replicate (1 - (lg_sl ([.ref (a 1)])).length) Slot.unset).toArray = ls at hl ⊢
  have hl : lv_has ls 1 [(0, .ref (a 1))] := hl
  refine lv_aload_n hx hb dX0_cellsToSolved_0 rfl (lv_at hl 0 rfl) ?_
  refine va_get (D := G) (ci := 0) (v := .int (s_sc S)) (C := RX0) (T := TX0) (N := 10) hx hb hts in_X0_cellsToSolved_0 hown hK hP 0 rfl rfl 8 (by decide) (hts (.fieldLink RX0 55 "RampJam$Search" "solvedCells" "I") (by decide +kernel)) (fun _ h9 => h9) rfl dX0_cellsToSolved_1 ?_
  exact W.iret (v := (s_sc S)) hx hb hr (fun t ht hW => ⟨⟨(s_sc S), (), rfl, rfl, trivial⟩, hS.F ht⟩) hS.2.2 dX0_cellsToSolved_4

theorem in_X0_firstMoveToSolved_0 : ∀ w ∈ wsX00, w ∈ wsX0_firstMoveToSolved := by decide +kernel
set_option maxHeartbeats 4000000 in
set_option maxRecDepth 100000 in
/-- Search.firstMoveToSolved -/
theorem c_X0_firstMoveToSolved (l : Launch) (G : va_G) (cI cZ cJ : ClassId) (a : Nat → Nat) (sz : Nat) (S : SS) (Y : YS)  : Met l yX0_firstMoveToSolved wsX0_firstMoveToSolved ({ frames := 0, cells := 0, slots := 0, locals := 0 }) (ro_Pc G [(cI, .int), (cZ, .boolean), (cJ, .long)] (wS cI cZ cJ a S Y) sz [.ref (a 1)]) (ro_Qi (s_sf S) sz) 0 0 (ro_A sz) := by
  refine Met.ofW (cc := cX0_firstMoveToSolved) (maxL := 1) (ret := (some .int)) (by decide) rfl ?_
  intro p e s m args below meth c s₁ B hml hv
  obtain ⟨rfl, hsz, hP, hK, hN⟩ := hv
  have hx := B.exec
  have hb := B.bytes
  have hr := B.returns
  have hts := atoms_spec (ws := wsX0_firstMoveToSolved) B.pre
  have hown : s.vm.findClass RX0 = some m.cls := findClass_of_methodNamed B.named
  have hlocks := B.notSynchronized
  subst hsz
  have hA : ∀ q : Nat, s.heap.size ≤ q → (ro_A s.heap.size) q := fun _ h => h
  have hS : va_S (ro_A s.heap.size) s.heap s.heap [] := va_S.rf
  have hP : va_P G vwCl [((a 1), .inr (0, [.ref (a 6), .ref (a 2), .ref (a 3), .ref (a 4), .ref (a 5), .int (s_fc S), .int (s_fs S), .int (s_sm S), .int (s_sc S), .int (s_sf S)])), ((a 2), .inl (cI, 800, .inl (s_fo S))), ((a 3), .inl (cI, 800, .inl (s_or S))), ((a 4), .inl (cI, 800, .inl (s_mo S))), ((a 5), .inl (cI, 2048, .inl (s_sl S))), ((a 6), .inr (1, [.ref (a 7), .ref (a 8), .ref (a 9), .ref (a 10), .int (nI (y_n Y)), .long (y_rp Y)])), ((a 7), .inl (cI, 9, .inl (y_sz Y))), ((a 8), .inl (cZ, 9, .inl (y_ac Y))), ((a 9), .inl (cI, 9, .inl (y_li Y))), ((a 10), .inl (cJ, 9, .inr (.inl (y_sh Y))))] s.heap := hP
  have hl := lv_entry ([.ref (a 1)]) (n := 1) (Nat.le_of_ble_eq_true rfl)
  rw [lg_entry_eq]
  generalize (lg_sl ([.ref (a 1)]) ++ List.replicate (1 - (lg_sl ([.ref (a 1)])).length) Slot.unset).toArray = ls at hl ⊢
  have hl : lv_has ls 1 [(0, .ref (a 1))] := hl
  refine lv_aload_n hx hb dX0_firstMoveToSolved_0 rfl (lv_at hl 0 rfl) ?_
  refine va_get (D := G) (ci := 0) (v := .int (s_sf S)) (C := RX0) (T := TX0) (N := 10) hx hb hts in_X0_firstMoveToSolved_0 hown hK hP 0 rfl rfl 9 (by decide) (hts (.fieldLink RX0 58 "RampJam$Search" "solvedFirstMove" "I") (by decide +kernel)) (fun _ h9 => h9) rfl dX0_firstMoveToSolved_1 ?_
  exact W.iret (v := (s_sf S)) hx hb hr (fun t ht hW => ⟨⟨(s_sf S), (), rfl, rfl, trivial⟩, hS.F ht⟩) hS.2.2 dX0_firstMoveToSolved_4

theorem in_X0_isFound_0 : ∀ w ∈ wsX00, w ∈ wsX0_isFound := by decide +kernel
set_option maxHeartbeats 4000000 in
set_option maxRecDepth 100000 in
/-- Search.isFound -/
theorem c_X0_isFound (l : Launch) (G : va_G) (cI cZ cJ : ClassId) (a : Nat → Nat) (sz : Nat) (S : SS) (Y : YS) (i_g : Int32)  : Met l yX0_isFound wsX0_isFound ({ frames := 0, cells := 0, slots := 0, locals := 0 }) (ro_Pc G [(cI, .int), (cZ, .boolean), (cJ, .long)] (wS cI cZ cJ a S Y) sz [.ref (a 1), .int i_g]) (ro_Qi (b1 (s_isF S i_g)) sz) 0 0 (ro_A sz) := by
  refine Met.ofW (cc := cX0_isFound) (maxL := 2) (ret := (some .boolean)) (by decide) rfl ?_
  intro p e s m args below meth c s₁ B hml hv
  obtain ⟨rfl, hsz, hP, hK, hN⟩ := hv
  have hx := B.exec
  have hb := B.bytes
  have hr := B.returns
  have hts := atoms_spec (ws := wsX0_isFound) B.pre
  have hown : s.vm.findClass RX0 = some m.cls := findClass_of_methodNamed B.named
  have hlocks := B.notSynchronized
  subst hsz
  have hA : ∀ q : Nat, s.heap.size ≤ q → (ro_A s.heap.size) q := fun _ h => h
  have hS : va_S (ro_A s.heap.size) s.heap s.heap [] := va_S.rf
  have hP : va_P G vwCl [((a 1), .inr (0, [.ref (a 6), .ref (a 2), .ref (a 3), .ref (a 4), .ref (a 5), .int (s_fc S), .int (s_fs S), .int (s_sm S), .int (s_sc S), .int (s_sf S)])), ((a 2), .inl (cI, 800, .inl (s_fo S))), ((a 3), .inl (cI, 800, .inl (s_or S))), ((a 4), .inl (cI, 800, .inl (s_mo S))), ((a 5), .inl (cI, 2048, .inl (s_sl S))), ((a 6), .inr (1, [.ref (a 7), .ref (a 8), .ref (a 9), .ref (a 10), .int (nI (y_n Y)), .long (y_rp Y)])), ((a 7), .inl (cI, 9, .inl (y_sz Y))), ((a 8), .inl (cZ, 9, .inl (y_ac Y))), ((a 9), .inl (cI, 9, .inl (y_li Y))), ((a 10), .inl (cJ, 9, .inr (.inl (y_sh Y))))] s.heap := hP
  have hl := lv_entry ([.ref (a 1), .int i_g]) (n := 2) (Nat.le_of_ble_eq_true rfl)
  rw [lg_entry_eq]
  generalize (lg_sl ([.ref (a 1), .int i_g]) ++ List.replicate (2 - (lg_sl ([.ref (a 1), .int i_g])).length) Slot.unset).toArray = ls at hl ⊢
  have hl : lv_has ls 2 [(0, .ref (a 1)), (1, .int i_g)] := hl
  refine lv_iload_n hx hb dX0_isFound_0 rfl (lv_at hl 1 rfl) ?_
  refine lv_if_lt (tgt := 23) hx hb dX0_isFound_1 (by decide) (fun c_1 => ?_) (fun c_1 => ?_)
  · refine lv_iconst (v := 0) hx hb dX0_isFound_23 (by decide) ?_
    exact W.zret (ty := .boolean) (v := 0) hx hb hr (rfl) (fun t ht hW => ⟨⟨0, (), rfl, by simp [s_isF, c_1], trivial⟩, hS.F ht⟩) hS.2.2 dX0_isFound_24
  · refine lv_iload_n hx hb dX0_isFound_4 rfl (lv_at hl 1 rfl) ?_
    refine lv_aload_n hx hb dX0_isFound_5 rfl (lv_at hl 0 rfl) ?_
    refine va_get (D := G) (ci := 0) (v := .int (s_fc S)) (C := RX0) (T := TX0) (N := 10) hx hb hts in_X0_isFound_0 hown hK hP 0 rfl rfl 5 (by decide) (hts (.fieldLink RX0 28 "RampJam$Search" "foundCount" "I") (by decide +kernel)) (fun _ h9 => h9) rfl dX0_isFound_6 ?_
    refine lv_icmp_ge (tgt := 23) hx hb dX0_isFound_9 (by decide) (fun c_2 => ?_) (fun c_2 => ?_)
    · refine lv_iconst (v := 0) hx hb dX0_isFound_23 (by decide) ?_
      exact W.zret (ty := .boolean) (v := 0) hx hb hr (rfl) (fun t ht hW => ⟨⟨0, (), rfl, by simp [s_isF, c_1, c_2], trivial⟩, hS.F ht⟩) hS.2.2 dX0_isFound_24
    · refine lv_iload_n hx hb dX0_isFound_12 rfl (lv_at hl 1 rfl) ?_
      refine lv_sipush (v := 800) hx hb dX0_isFound_13 (by decide) ?_
      refine lv_icmp_ge (tgt := 23) hx hb dX0_isFound_16 (by decide) (fun c_3 => ?_) (fun c_3 => ?_)
      · refine lv_iconst (v := 0) hx hb dX0_isFound_23 (by decide) ?_
        exact W.zret (ty := .boolean) (v := 0) hx hb hr (rfl) (fun t ht hW => ⟨⟨0, (), rfl, by simp [s_isF, c_1, c_2, c_3], trivial⟩, hS.F ht⟩) hS.2.2 dX0_isFound_24
      · refine lv_iconst (v := 1) hx hb dX0_isFound_19 (by decide) ?_
        refine lv_goto (tgt := 24) hx hb dX0_isFound_20 (by decide) ?_
        exact W.zret (ty := .boolean) (v := 1) hx hb hr (rfl) (fun t ht hW => ⟨⟨1, (), rfl, by simp [s_isF, c_1, c_2, c_3], trivial⟩, hS.F ht⟩) hS.2.2 dX0_isFound_24

theorem in_X0_solvedPosition_0 : ∀ w ∈ wsX00, w ∈ wsX0_solvedPosition := by decide +kernel
set_option maxHeartbeats 4000000 in
set_option maxRecDepth 100000 in
/-- Search.solvedPosition -/
theorem c_X0_solvedPosition (l : Launch) (G : va_G) (cI cZ cJ : ClassId) (a : Nat → Nat) (sz : Nat) (S : SS) (Y : YS)  : Met l yX0_solvedPosition wsX0_solvedPosition ({ frames := 1, cells := 0, slots := 0, locals := 21 }) (ro_Pc G [(cI, .int), (cZ, .boolean), (cJ, .long)] (wS cI cZ cJ a S Y) sz [.ref (a 1)]) (ro_Qi (s_pos S) sz) 0 0 (ro_A sz) := by
  refine Met.ofW (cc := cX0_solvedPosition) (maxL := 1) (ret := (some .int)) (by decide) rfl ?_
  intro p e s m args below meth c s₁ B hml hv
  obtain ⟨rfl, hsz, hP, hK, hN⟩ := hv
  have hx := B.exec
  have hb := B.bytes
  have hr := B.returns
  have hts := atoms_spec (ws := wsX0_solvedPosition) B.pre
  have hown : s.vm.findClass RX0 = some m.cls := findClass_of_methodNamed B.named
  have hlocks := B.notSynchronized
  subst hsz
  have hA : ∀ q : Nat, s.heap.size ≤ q → (ro_A s.heap.size) q := fun _ h => h
  have hS : va_S (ro_A s.heap.size) s.heap s.heap [] := va_S.rf
  have hP : va_P G vwCl [((a 1), .inr (0, [.ref (a 6), .ref (a 2), .ref (a 3), .ref (a 4), .ref (a 5), .int (s_fc S), .int (s_fs S), .int (s_sm S), .int (s_sc S), .int (s_sf S)])), ((a 2), .inl (cI, 800, .inl (s_fo S))), ((a 3), .inl (cI, 800, .inl (s_or S))), ((a 4), .inl (cI, 800, .inl (s_mo S))), ((a 5), .inl (cI, 2048, .inl (s_sl S))), ((a 6), .inr (1, [.ref (a 7), .ref (a 8), .ref (a 9), .ref (a 10), .int (nI (y_n Y)), .long (y_rp Y)])), ((a 7), .inl (cI, 9, .inl (y_sz Y))), ((a 8), .inl (cZ, 9, .inl (y_ac Y))), ((a 9), .inl (cI, 9, .inl (y_li Y))), ((a 10), .inl (cJ, 9, .inr (.inl (y_sh Y))))] s.heap := hP
  have hl := lv_entry ([.ref (a 1)]) (n := 1) (Nat.le_of_ble_eq_true rfl)
  rw [lg_entry_eq]
  generalize (lg_sl ([.ref (a 1)]) ++ List.replicate (1 - (lg_sl ([.ref (a 1)])).length) Slot.unset).toArray = ls at hl ⊢
  have hl : lv_has ls 1 [(0, .ref (a 1))] := hl
  refine lv_aload_n hx hb dX0_solvedPosition_0 rfl (lv_at hl 0 rfl) ?_
  refine lv_aload_n hx hb dX0_solvedPosition_1 rfl (lv_at hl 0 rfl) ?_
  refine va_get (D := G) (ci := 0) (v := .int (s_fs S)) (C := RX0) (T := TX0) (N := 10) hx hb hts in_X0_solvedPosition_0 hown hK hP 0 rfl rfl 6 (by decide) (hts (.fieldLink RX0 38 "RampJam$Search" "firstSolved" "I") (by decide +kernel)) (fun _ h9 => h9) rfl dX0_solvedPosition_2 ?_
  refine ro_i (va_runV (As := [.int (s_fs S)]) (rest := []) ⟨hx, hb, hml, hown, hts⟩ ((c_X0_isFound l G cI cZ cJ a _ S Y (s_fs S))) (cwV 1 hts gX0_solvedPosition_X0_isFound rfl rfl rfl (by decide +kernel) ⟨Nat.le_of_ble_eq_true rfl, Nat.le_of_ble_eq_true rfl⟩) ⟨ro_blind, va_recv hK hP (ci := 0) (q0 := 0) rfl rfl, ro_pre hP hK hN⟩ rfl rfl hl.1 rfl (lv_room (Nat.le_of_ble_eq_true rfl)) dX0_solvedPosition_5 ⟨Nat.zero_le _, Nat.zero_le _⟩) hS hA hP (fun H locs hP hS => ?_)
  refine lv_if_eq (tgt := 23) hx hb dX0_solvedPosition_8 (by decide) (fun c_1 => ?_) (fun c_1 => ?_)
  · have c_1 := b1_f c_1
    refine lv_iconst (v := 0) hx hb dX0_solvedPosition_23 (by decide) ?_
    exact W.iret (v := 0) hx hb hr (fun t ht hW => ⟨⟨0, (), rfl, by rw [s_pos, if_neg c_1], trivial⟩, hS.F ht⟩) hS.2.2 dX0_solvedPosition_24
  · have c_1 := b1_t c_1
    refine lv_aload_n hx hb dX0_solvedPosition_11 rfl (lv_at hl 0 rfl) ?_
    refine va_get (D := G) (ci := 0) (v := .ref (a 2)) (C := RX0) (T := TX0) (N := 10) hx hb hts in_X0_solvedPosition_0 hown hK hP 0 rfl rfl 1 (by decide) (hts (.fieldLink RX0 9 "RampJam$Search" "found" "[I") (by decide +kernel)) (fun _ h9 => h9) rfl dX0_solvedPosition_12 ?_
    refine lv_aload_n hx hb dX0_solvedPosition_15 rfl (lv_at hl 0 rfl) ?_
    refine va_get (D := G) (ci := 0) (v := .int (s_fs S)) (C := RX0) (T := TX0) (N := 10) hx hb hts in_X0_solvedPosition_0 hown hK hP 0 rfl rfl 6 (by decide) (hts (.fieldLink RX0 38 "RampJam$Search" "firstSolved" "I") (by decide +kernel)) (fun _ h9 => h9) rfl dX0_solvedPosition_16 ?_
    refine va_iald hx hb hK hP 1 0 rfl rfl (s_isF_in (by assumption)) dX0_solvedPosition_19 ?_
    refine lv_goto (tgt := 24) hx hb dX0_solvedPosition_20 (by decide) ?_
    exact W.iret (v := ((s_fo S) ((s_fs S).toNatClampNeg))) hx hb hr (fun t ht hW => ⟨⟨((s_fo S) ((s_fs S).toNatClampNeg)), (), rfl, by rw [s_pos, if_pos c_1], trivial⟩, hS.F ht⟩) hS.2.2 dX0_solvedPosition_24

theorem in_X0_findsAt_0 : ∀ w ∈ wsX00, w ∈ wsX0_findsAt := by decide +kernel
set_option maxHeartbeats 4000000 in
set_option maxRecDepth 100000 in
/-- Search.findsAt -/
theorem c_X0_findsAt (l : Launch) (G : va_G) (cI cZ cJ : ClassId) (a : Nat → Nat) (sz : Nat) (S : SS) (Y : YS) (v_g : Int32) (p_g : Int32)  : Met l yX0_findsAt wsX0_findsAt ({ frames := 1, cells := 0, slots := 0, locals := 21 }) (ro_Pc G [(cI, .int), (cZ, .boolean), (cJ, .long)] (wS cI cZ cJ a S Y) sz [.ref (a 1), .int v_g, .int p_g]) (ro_Qi (s_fat S v_g p_g 800 0) sz) 0 0 (ro_A sz) := by
  refine Met.ofW (cc := cX0_findsAt) (maxL := 4) (ret := (some .boolean)) (by decide) rfl ?_
  intro p e s m args below meth c s₁ B hml hv
  obtain ⟨rfl, hsz, hP, hK, hN⟩ := hv
  have hx := B.exec
  have hb := B.bytes
  have hr := B.returns
  have hts := atoms_spec (ws := wsX0_findsAt) B.pre
  have hown : s.vm.findClass RX0 = some m.cls := findClass_of_methodNamed B.named
  have hlocks := B.notSynchronized
  subst hsz
  have hA : ∀ q : Nat, s.heap.size ≤ q → (ro_A s.heap.size) q := fun _ h => h
  have hS : va_S (ro_A s.heap.size) s.heap s.heap [] := va_S.rf
  have hP : va_P G vwCl [((a 1), .inr (0, [.ref (a 6), .ref (a 2), .ref (a 3), .ref (a 4), .ref (a 5), .int (s_fc S), .int (s_fs S), .int (s_sm S), .int (s_sc S), .int (s_sf S)])), ((a 2), .inl (cI, 800, .inl (s_fo S))), ((a 3), .inl (cI, 800, .inl (s_or S))), ((a 4), .inl (cI, 800, .inl (s_mo S))), ((a 5), .inl (cI, 2048, .inl (s_sl S))), ((a 6), .inr (1, [.ref (a 7), .ref (a 8), .ref (a 9), .ref (a 10), .int (nI (y_n Y)), .long (y_rp Y)])), ((a 7), .inl (cI, 9, .inl (y_sz Y))), ((a 8), .inl (cZ, 9, .inl (y_ac Y))), ((a 9), .inl (cI, 9, .inl (y_li Y))), ((a 10), .inl (cJ, 9, .inr (.inl (y_sh Y))))] s.heap := hP
  have hl := lv_entry ([.ref (a 1), .int v_g, .int p_g]) (n := 4) (Nat.le_of_ble_eq_true rfl)
  rw [lg_entry_eq]
  generalize (lg_sl ([.ref (a 1), .int v_g, .int p_g]) ++ List.replicate (4 - (lg_sl ([.ref (a 1), .int v_g, .int p_g])).length) Slot.unset).toArray = ls at hl ⊢
  have hl : lv_has ls 4 [(0, .ref (a 1)), (1, .int v_g), (2, .int p_g)] := hl
  refine lv_iconst (v := 0) hx hb dX0_findsAt_0 (by decide) ?_
  refine lv_istore_n (lv' := [(3, .int 0), (0, .ref (a 1)), (1, .int v_g), (2, .int p_g)]) hx hb dX0_findsAt_1 rfl hl (by decide) rfl (fun ls hl => ?_)
  have cut_2 : ∀ (d : Nat) (k_g : Nat), k_g ≤ 800 → 800 + 1 ≤ k_g + d → (s_fat S v_g p_g (800 - k_g) k_g = s_fat S v_g p_g 800 0) → ∀ (H : Heap) (locs : List Loc), va_P G vwCl [((a 1), .inr (0, [.ref (a 6), .ref (a 2), .ref (a 3), .ref (a 4), .ref (a 5), .int (s_fc S), .int (s_fs S), .int (s_sm S), .int (s_sc S), .int (s_sf S)])), ((a 2), .inl (cI, 800, .inl (s_fo S))), ((a 3), .inl (cI, 800, .inl (s_or S))), ((a 4), .inl (cI, 800, .inl (s_mo S))), ((a 5), .inl (cI, 2048, .inl (s_sl S))), ((a 6), .inr (1, [.ref (a 7), .ref (a 8), .ref (a 9), .ref (a 10), .int (nI (y_n Y)), .long (y_rp Y)])), ((a 7), .inl (cI, 9, .inl (y_sz Y))), ((a 8), .inl (cZ, 9, .inl (y_ac Y))), ((a 9), .inl (cI, 9, .inl (y_li Y))), ((a 10), .inl (cJ, 9, .inr (.inl (y_sh Y))))] H → va_S (ro_A s.heap.size) s.heap H locs → ∀ (ls : Array Slot), lv_has ls 4 [(0, .ref (a 1)), (1, .int v_g), (2, .int p_g), (3, .int (nI k_g))] → W p l e (headSpec wsX0_findsAt ({ frames := 1, cells := 0, slots := 0, locals := 21 })).room s m ([.ref (a 1), .int v_g, .int p_g] : List Value).toArray below meth c H locs 0 0 (MQ below (ro_Qi (s_fat S v_g p_g 800 0) s.heap.size) ([.ref (a 1), .int v_g, .int p_g] : List Value).toArray s 0 0 (ro_A s.heap.size)) (F0 m 2 ls []) := by
    intro d
    induction d with
    | zero =>
      intro k_g hk_2 hd_2
      exact absurd hd_2 (by omega)
    | succ d ih_2 =>
      intro k_g hk_2 hd_2 hI H locs hP hS ls hl
      refine lv_iload_n hx hb dX0_findsAt_2 rfl (lv_at hl 3 rfl) ?_
      refine lv_aload_n hx hb dX0_findsAt_3 rfl (lv_at hl 0 rfl) ?_
      refine va_get (D := G) (ci := 0) (v := .int (s_fc S)) (C := RX0) (T := TX0) (N := 10) hx hb hts in_X0_findsAt_0 hown hK hP 0 rfl rfl 5 (by decide) (hts (.fieldLink RX0 28 "RampJam$Search" "foundCount" "I") (by decide +kernel)) (fun _ h9 => h9) rfl dX0_findsAt_4 ?_
      refine lv_icmp_ge (tgt := 39) hx hb dX0_findsAt_7 (by decide) (fun c_1 => ?_) (fun c_1 => ?_)
      · have hres := (s_fat_out (v := v_g) (p := p_g) c_1).symm
        refine lv_iconst (v := 0) hx hb dX0_findsAt_39 (by decide) ?_
        exact W.zret (ty := .boolean) (v := 0) hx hb hr (rfl) (fun t ht hW => ⟨⟨0, (), rfl, by rw [← hI]; exact hres, trivial⟩, hS.F ht⟩) hS.2.2 dX0_findsAt_40
      · have hlc := c_1
        refine lv_iload_n hx hb dX0_findsAt_10 rfl (lv_at hl 3 rfl) ?_
        refine lv_sipush (v := 800) hx hb dX0_findsAt_11 (by decide) ?_
        refine lv_icmp_ge (tgt := 39) hx hb dX0_findsAt_14 (by decide) (fun c_2 => ?_) (fun c_2 => ?_)
        · have hk8 := nx_ge (n := 800) (by omega) (by omega) c_2
          have hres : (0 : Int32) = s_fat S v_g p_g (800 - k_g) k_g := by rw [show 800 - k_g = 0 by omega]; rfl
          refine lv_iconst (v := 0) hx hb dX0_findsAt_39 (by decide) ?_
          exact W.zret (ty := .boolean) (v := 0) hx hb hr (rfl) (fun t ht hW => ⟨⟨0, (), rfl, by rw [← hI]; exact hres, trivial⟩, hS.F ht⟩) hS.2.2 dX0_findsAt_40
        · have hlt : k_g < 800 := nx_lt (n := 800) (by omega) (by omega) c_2
          refine lv_aload_n hx hb dX0_findsAt_17 rfl (lv_at hl 0 rfl) ?_
          refine va_get (D := G) (ci := 0) (v := .ref (a 2)) (C := RX0) (T := TX0) (N := 10) hx hb hts in_X0_findsAt_0 hown hK hP 0 rfl rfl 1 (by decide) (hts (.fieldLink RX0 9 "RampJam$Search" "found" "[I") (by decide +kernel)) (fun _ h9 => h9) rfl dX0_findsAt_18 ?_
          refine lv_iload_n hx hb dX0_findsAt_21 rfl (lv_at hl 3 rfl) ?_
          refine va_iald hx hb hK hP 1 0 rfl rfl (vp_in_nI (by omega) (by decide)) dX0_findsAt_22 ?_
          rw [show (nI k_g).toNatClampNeg = k_g from nI_clamp (by omega)]
          refine lv_iload_n hx hb dX0_findsAt_23 rfl (lv_at hl 1 rfl) ?_
          refine ro_i (va_runSN (As := [.int ((s_fo S) k_g), .int v_g]) (rest := []) ⟨hx, hb, hml, hown, hts⟩ ((c_X2_placeIn l G cI cZ cJ a _ ((s_fo S) k_g) v_g)) ⟨va_cnB 2 hts gX0_findsAt_X2_placeIn_n65 rfl rfl rfl (nx_get hN (k := 2) rfl) (hts (.initialized RX2) (by decide +kernel)) (by decide +kernel) ⟨Nat.le_of_ble_eq_true rfl, Nat.le_of_ble_eq_true rfl⟩, hts (.static yX2_placeIn) (by decide +kernel), trivial⟩ ⟨ro_blind, ro_pre va_P0 hK hN⟩ rfl rfl hl.1 rfl (lv_room (Nat.le_of_ble_eq_true rfl)) dX0_findsAt_24 ⟨Nat.zero_le _, Nat.zero_le _⟩) hS hA hP (fun H locs hP hS => ?_)
          refine lv_iload_n hx hb dX0_findsAt_27 rfl (lv_at hl 2 rfl) ?_
          refine lv_icmp_ne (tgt := 33) hx hb dX0_findsAt_28 (by decide) (fun c_3 => ?_) (fun c_3 => ?_)
          · have hz := c_3
            refine lv_iinc (v := (nI (k_g + 1))) (lv' := [(3, .int (nI (k_g + 1))), (0, .ref (a 1)), (1, .int v_g), (2, .int p_g)]) hx hb dX0_findsAt_33 hl (k := 3) rfl (nI_1 _) (by decide) rfl (fun ls hl => ?_)
            refine lv_goto (tgt := 2) hx hb dX0_findsAt_36 (by decide) ?_
            exact ih_2 (k_g + 1) (hlt) (by omega) (by rw [← hI, s_fat_in hlt, if_pos hlc, if_neg hz]) _ _ hP hS _ (lv_sub hl [1, 2, 3, 0] rfl)
          · have hres : (1 : Int32) = s_fat S v_g p_g (800 - k_g) k_g := by rw [s_fat_in hlt, if_pos hlc, if_pos c_3]
            refine lv_iconst (v := 1) hx hb dX0_findsAt_31 (by decide) ?_
            exact W.zret (ty := .boolean) (v := 1) hx hb hr (rfl) (fun t ht hW => ⟨⟨1, (), rfl, by rw [← hI]; exact hres, trivial⟩, hS.F ht⟩) hS.2.2 dX0_findsAt_32
  exact cut_2 (800 + 1) 0 (Nat.zero_le _) (by omega) (rfl) _ _ hP hS _ (lv_sub hl [1, 2, 3, 0] rfl)

theorem in_X0_slotFor_0 : ∀ w ∈ wsX00, w ∈ wsX0_slotFor := by decide +kernel
set_option maxHeartbeats 4000000 in
set_option maxRecDepth 100000 in
/-- Search.slotFor -/
theorem c_X0_slotFor (l : Launch) (G : va_G) (cI cZ cJ : ClassId) (a : Nat → Nat) (sz : Nat) (S : SS) (Y : YS) (x_g : Int32)  : Met l yX0_slotFor wsX0_slotFor ({ frames := 0, cells := 0, slots := 0, locals := 0 }) (ro_Pc G [(cI, .int), (cZ, .boolean), (cJ, .long)] (wS cI cZ cJ a S Y) sz [.ref (a 1), .int x_g]) (ro_Qi (s_slot S x_g) sz) 0 0 (ro_A sz) := by
  refine Met.ofW (cc := cX0_slotFor) (maxL := 6) (ret := (some .int)) (by decide) rfl ?_
  intro p e s m args below meth c s₁ B hml hv
  obtain ⟨rfl, hsz, hP, hK, hN⟩ := hv
  have hx := B.exec
  have hb := B.bytes
  have hr := B.returns
  have hts := atoms_spec (ws := wsX0_slotFor) B.pre
  have hown : s.vm.findClass RX0 = some m.cls := findClass_of_methodNamed B.named
  have hlocks := B.notSynchronized
  subst hsz
  have hA : ∀ q : Nat, s.heap.size ≤ q → (ro_A s.heap.size) q := fun _ h => h
  have hS : va_S (ro_A s.heap.size) s.heap s.heap [] := va_S.rf
  have hP : va_P G vwCl [((a 1), .inr (0, [.ref (a 6), .ref (a 2), .ref (a 3), .ref (a 4), .ref (a 5), .int (s_fc S), .int (s_fs S), .int (s_sm S), .int (s_sc S), .int (s_sf S)])), ((a 2), .inl (cI, 800, .inl (s_fo S))), ((a 3), .inl (cI, 800, .inl (s_or S))), ((a 4), .inl (cI, 800, .inl (s_mo S))), ((a 5), .inl (cI, 2048, .inl (s_sl S))), ((a 6), .inr (1, [.ref (a 7), .ref (a 8), .ref (a 9), .ref (a 10), .int (nI (y_n Y)), .long (y_rp Y)])), ((a 7), .inl (cI, 9, .inl (y_sz Y))), ((a 8), .inl (cZ, 9, .inl (y_ac Y))), ((a 9), .inl (cI, 9, .inl (y_li Y))), ((a 10), .inl (cJ, 9, .inr (.inl (y_sh Y))))] s.heap := hP
  have hl := lv_entry ([.ref (a 1), .int x_g]) (n := 6) (Nat.le_of_ble_eq_true rfl)
  rw [lg_entry_eq]
  generalize (lg_sl ([.ref (a 1), .int x_g]) ++ List.replicate (6 - (lg_sl ([.ref (a 1), .int x_g])).length) Slot.unset).toArray = ls at hl ⊢
  have hl : lv_has ls 6 [(0, .ref (a 1)), (1, .int x_g)] := hl
  refine lv_iload_n hx hb dX0_slotFor_0 rfl (lv_at hl 1 rfl) ?_
  refine lv_ldc (own := RX0) (index := 106) (v := (-1640531535)) hx hb hown (hts (.constant RX0 106 (-1640531535)) (by decide +kernel)) dX0_slotFor_1 ?_
  refine lv_imul hx hb dX0_slotFor_3 ?_
  refine lv_bipush (v := 21) hx hb dX0_slotFor_4 (by decide) ?_
  refine lv_iushr (v := (((x_g * (-1640531535)).toUInt32 >>> ((21 : Int32).toUInt32 &&& Int32.toUInt32 31)).toInt32)) hx hb dX0_slotFor_6 rfl ?_
  refine lv_istore_n (lv' := [(2, .int (((x_g * (-1640531535)).toUInt32 >>> ((21 : Int32).toUInt32 &&& Int32.toUInt32 31)).toInt32)), (0, .ref (a 1)), (1, .int x_g)]) hx hb dX0_slotFor_7 rfl hl (by decide) rfl (fun ls hl => ?_)
  refine lv_iconst (v := 0) hx hb dX0_slotFor_8 (by decide) ?_
  refine lv_istore_n (lv' := [(3, .int 0), (2, .int (((x_g * (-1640531535)).toUInt32 >>> ((21 : Int32).toUInt32 &&& Int32.toUInt32 31)).toInt32)), (0, .ref (a 1)), (1, .int x_g)]) hx hb dX0_slotFor_9 rfl hl (by decide) rfl (fun ls hl => ?_)
  have cut_10 : ∀ (d : Nat) (k_g : Nat), k_g ≤ 2048 → 2048 + 1 ≤ k_g + d → (s_slotL S x_g (2048 - k_g) k_g = s_slotL S x_g 2048 0) → ∀ (H : Heap) (locs : List Loc), va_P G vwCl [((a 1), .inr (0, [.ref (a 6), .ref (a 2), .ref (a 3), .ref (a 4), .ref (a 5), .int (s_fc S), .int (s_fs S), .int (s_sm S), .int (s_sc S), .int (s_sf S)])), ((a 2), .inl (cI, 800, .inl (s_fo S))), ((a 3), .inl (cI, 800, .inl (s_or S))), ((a 4), .inl (cI, 800, .inl (s_mo S))), ((a 5), .inl (cI, 2048, .inl (s_sl S))), ((a 6), .inr (1, [.ref (a 7), .ref (a 8), .ref (a 9), .ref (a 10), .int (nI (y_n Y)), .long (y_rp Y)])), ((a 7), .inl (cI, 9, .inl (y_sz Y))), ((a 8), .inl (cZ, 9, .inl (y_ac Y))), ((a 9), .inl (cI, 9, .inl (y_li Y))), ((a 10), .inl (cJ, 9, .inr (.inl (y_sh Y))))] H → va_S (ro_A s.heap.size) s.heap H locs → ∀ (ls : Array Slot), lv_has ls 6 [(0, .ref (a 1)), (1, .int x_g), (2, .int (h_first x_g)), (3, .int (nI k_g))] → W p l e (headSpec wsX0_slotFor ({ frames := 0, cells := 0, slots := 0, locals := 0 })).room s m ([.ref (a 1), .int x_g] : List Value).toArray below meth c H locs 0 0 (MQ below (ro_Qi (s_slot S x_g) s.heap.size) ([.ref (a 1), .int x_g] : List Value).toArray s 0 0 (ro_A s.heap.size)) (F0 m 10 ls []) := by
    intro d
    induction d with
    | zero =>
      intro k_g hk_10 hd_10
      exact absurd hd_10 (by omega)
    | succ d ih_10 =>
      intro k_g hk_10 hd_10 hI H locs hP hS ls hl
      refine lv_iload_n hx hb dX0_slotFor_10 rfl (lv_at hl 3 rfl) ?_
      refine lv_sipush (v := 2048) hx hb dX0_slotFor_11 (by decide) ?_
      refine lv_icmp_ge (tgt := 70) hx hb dX0_slotFor_14 (by decide) (fun c_1 => ?_) (fun c_1 => ?_)
      · have hk8 := nx_ge (n := 2048) (by omega) (by omega) c_1
        refine lv_iconst (v := (-1)) hx hb dX0_slotFor_70 (by decide) ?_
        exact W.iret (v := (-1)) hx hb hr (fun t ht hW => ⟨⟨(-1), (), rfl, by rw [s_slot, ← hI, show 2048 - k_g = 0 by omega]; rfl, trivial⟩, hS.F ht⟩) hS.2.2 dX0_slotFor_71
      · have hlt : k_g < 2048 := nx_lt (n := 2048) (by omega) (by omega) c_1
        refine lv_iload_n hx hb dX0_slotFor_17 rfl (lv_at hl 2 rfl) ?_
        refine lv_iload_n hx hb dX0_slotFor_18 rfl (lv_at hl 3 rfl) ?_
        refine lv_iadd hx hb dX0_slotFor_19 ?_
        refine lv_sipush (v := 2047) hx hb dX0_slotFor_20 (by decide) ?_
        refine lv_iand hx hb dX0_slotFor_23 ?_
        refine lv_istore (lv' := [(4, .int (((h_first x_g) + (nI k_g)) &&& 2047)), (0, .ref (a 1)), (1, .int x_g), (2, .int (h_first x_g)), (3, .int (nI k_g))]) hx hb dX0_slotFor_24 hl (by decide) rfl (fun ls hl => ?_)
        refine lv_aload_n hx hb dX0_slotFor_26 rfl (lv_at hl 1 rfl) ?_
        refine va_get (D := G) (ci := 0) (v := .ref (a 5)) (C := RX0) (T := TX0) (N := 10) hx hb hts in_X0_slotFor_0 hown hK hP 0 rfl rfl 4 (by decide) (hts (.fieldLink RX0 21 "RampJam$Search" "slots" "[I") (by decide +kernel)) (fun _ h9 => h9) rfl dX0_slotFor_27 ?_
        refine lv_iload hx hb dX0_slotFor_30 (lv_at hl 0 rfl) ?_
        refine va_iald hx hb hK hP 4 0 rfl rfl (h_slot_in _) dX0_slotFor_32 ?_
        refine lv_iconst (v := 1) hx hb dX0_slotFor_33 (by decide) ?_
        refine lv_isub hx hb dX0_slotFor_34 ?_
        refine lv_istore (lv' := [(5, .int (((s_sl S) ((((h_first x_g) + (nI k_g)) &&& 2047).toNatClampNeg)) - 1)), (4, .int (((h_first x_g) + (nI k_g)) &&& 2047)), (0, .ref (a 1)), (1, .int x_g), (2, .int (h_first x_g)), (3, .int (nI k_g))]) hx hb dX0_slotFor_35 hl (by decide) rfl (fun ls hl => ?_)
        refine lv_iload hx hb dX0_slotFor_37 (lv_at hl 0 rfl) ?_
        refine lv_if_lt (tgt := 61) hx hb dX0_slotFor_39 (by decide) (fun c_2 => ?_) (fun c_2 => ?_)
        · refine lv_iload hx hb dX0_slotFor_61 (lv_at hl 1 rfl) ?_
          exact W.iret (v := (((h_first x_g) + (nI k_g)) &&& 2047)) hx hb hr (fun t ht hW => ⟨⟨(((h_first x_g) + (nI k_g)) &&& 2047), (), rfl, by rw [s_slot, ← hI, s_slotL_in hlt, if_pos (by first | exact Or.inl (by assumption) | exact Or.inr (Or.inl (by assumption)) | exact Or.inr (Or.inr (by assumption)))]; rfl, trivial⟩, hS.F ht⟩) hS.2.2 dX0_slotFor_63
        · refine lv_iload hx hb dX0_slotFor_42 (lv_at hl 0 rfl) ?_
          refine lv_sipush (v := 800) hx hb dX0_slotFor_44 (by decide) ?_
          refine lv_icmp_ge (tgt := 61) hx hb dX0_slotFor_47 (by decide) (fun c_3 => ?_) (fun c_3 => ?_)
          · refine lv_iload hx hb dX0_slotFor_61 (lv_at hl 1 rfl) ?_
            exact W.iret (v := (((h_first x_g) + (nI k_g)) &&& 2047)) hx hb hr (fun t ht hW => ⟨⟨(((h_first x_g) + (nI k_g)) &&& 2047), (), rfl, by rw [s_slot, ← hI, s_slotL_in hlt, if_pos (by first | exact Or.inl (by assumption) | exact Or.inr (Or.inl (by assumption)) | exact Or.inr (Or.inr (by assumption)))]; rfl, trivial⟩, hS.F ht⟩) hS.2.2 dX0_slotFor_63
          · refine lv_aload_n hx hb dX0_slotFor_50 rfl (lv_at hl 2 rfl) ?_
            refine va_get (D := G) (ci := 0) (v := .ref (a 2)) (C := RX0) (T := TX0) (N := 10) hx hb hts in_X0_slotFor_0 hown hK hP 0 rfl rfl 1 (by decide) (hts (.fieldLink RX0 9 "RampJam$Search" "found" "[I") (by decide +kernel)) (fun _ h9 => h9) rfl dX0_slotFor_51 ?_
            refine lv_iload hx hb dX0_slotFor_54 (lv_at hl 0 rfl) ?_
            refine va_iald hx hb hK hP 1 0 rfl rfl (cl_in800 (by assumption) (by assumption)) dX0_slotFor_56 ?_
            refine lv_iload_n hx hb dX0_slotFor_57 rfl (lv_at hl 3 rfl) ?_
            refine lv_icmp_ne (tgt := 64) hx hb dX0_slotFor_58 (by decide) (fun c_4 => ?_) (fun c_4 => ?_)
            · refine lv_iinc (v := (nI (k_g + 1))) (lv' := [(3, .int (nI (k_g + 1))), (5, .int (((s_sl S) ((((h_first x_g) + (nI k_g)) &&& 2047).toNatClampNeg)) - 1)), (4, .int (((h_first x_g) + (nI k_g)) &&& 2047)), (0, .ref (a 1)), (1, .int x_g), (2, .int (h_first x_g))]) hx hb dX0_slotFor_64 hl (k := 5) rfl (nI_1 _) (by decide) rfl (fun ls hl => ?_)
              refine lv_goto (tgt := 10) hx hb dX0_slotFor_67 (by decide) ?_
              exact ih_10 (k_g + 1) (hlt) (by omega) (by rw [← hI, s_slotL_in hlt, if_neg (by rintro (h | h | h) <;> contradiction)]) _ _ hP hS _ (lv_sub hl [3, 4, 5, 0] rfl)
            · refine lv_iload hx hb dX0_slotFor_61 (lv_at hl 1 rfl) ?_
              exact W.iret (v := (((h_first x_g) + (nI k_g)) &&& 2047)) hx hb hr (fun t ht hW => ⟨⟨(((h_first x_g) + (nI k_g)) &&& 2047), (), rfl, by rw [s_slot, ← hI, s_slotL_in hlt, if_pos (by first | exact Or.inl (by assumption) | exact Or.inr (Or.inl (by assumption)) | exact Or.inr (Or.inr (by assumption)))]; rfl, trivial⟩, hS.F ht⟩) hS.2.2 dX0_slotFor_63
  exact cut_10 (2048 + 1) 0 (Nat.zero_le _) (by omega) (rfl) _ _ hP hS _ (lv_sub hl [2, 3, 1, 0] rfl)

theorem in_X0_addIfNew_0 : ∀ w ∈ wsX00, w ∈ wsX0_addIfNew := by decide +kernel
set_option maxHeartbeats 4000000 in
set_option maxRecDepth 100000 in
/-- Search.addIfNew -/
theorem c_X0_addIfNew (l : Launch) (G : va_G) (cI cZ cJ : ClassId) (a : Nat → Nat) (sz : Nat) (S : SS) (Y : YS) (x_g : Int32) (o_g : Int32) (c_g : Int32)  : Met l yX0_addIfNew wsX0_addIfNew ({ frames := 1, cells := 0, slots := 0, locals := 25 }) (rw_Pc G [(cI, .int), (cZ, .boolean), (cJ, .long)] (wS cI cZ cJ a S Y) sz [.ref (a 1), .int x_g, .int o_g, .int c_g]) (rw_Qv (S := SS) (s_addN S x_g o_g c_g) (fun u : SS => wS cI cZ cJ a u Y) G (wS cI cZ cJ a S Y) sz) 0 0 (va_A (wS cI cZ cJ a S Y) sz) := by
  refine Met.ofW (cc := cX0_addIfNew) (maxL := 6) (ret := none) (by decide) rfl ?_
  intro p e s m args below meth c s₁ B hml hv
  obtain ⟨rfl, hsz, hP, hK, hD0, hN⟩ := hv
  have hx := B.exec
  have hb := B.bytes
  have hr := B.returns
  have hts := atoms_spec (ws := wsX0_addIfNew) B.pre
  have hown : s.vm.findClass RX0 = some m.cls := findClass_of_methodNamed B.named
  have hlocks := B.notSynchronized
  subst hsz
  have hD0 : va_D (fun _ => True) [((a 1), .inr (0, [.ref (a 6), .ref (a 2), .ref (a 3), .ref (a 4), .ref (a 5), .int (s_fc S), .int (s_fs S), .int (s_sm S), .int (s_sc S), .int (s_sf S)])), ((a 2), .inl (cI, 800, .inl (s_fo S))), ((a 3), .inl (cI, 800, .inl (s_or S))), ((a 4), .inl (cI, 800, .inl (s_mo S))), ((a 5), .inl (cI, 2048, .inl (s_sl S))), ((a 6), .inr (1, [.ref (a 7), .ref (a 8), .ref (a 9), .ref (a 10), .int (nI (y_n Y)), .long (y_rp Y)])), ((a 7), .inl (cI, 9, .inl (y_sz Y))), ((a 8), .inl (cZ, 9, .inl (y_ac Y))), ((a 9), .inl (cI, 9, .inl (y_li Y))), ((a 10), .inl (cJ, 9, .inr (.inl (y_sh Y))))] := hD0
  have hD := hD0.self (sz := s.heap.size)
  unfold rw_Qv
  generalize hAe : va_A (wS cI cZ cJ a S Y) s.heap.size = A at hD ⊢
  have hA : ∀ q : Nat, s.heap.size ≤ q → A q := fun q h => by rw [← hAe]; exact Or.inr h
  have hS : va_S A s.heap s.heap [] := va_S.rf
  have hP : va_P G vwCl [((a 1), .inr (0, [.ref (a 6), .ref (a 2), .ref (a 3), .ref (a 4), .ref (a 5), .int (s_fc S), .int (s_fs S), .int (s_sm S), .int (s_sc S), .int (s_sf S)])), ((a 2), .inl (cI, 800, .inl (s_fo S))), ((a 3), .inl (cI, 800, .inl (s_or S))), ((a 4), .inl (cI, 800, .inl (s_mo S))), ((a 5), .inl (cI, 2048, .inl (s_sl S))), ((a 6), .inr (1, [.ref (a 7), .ref (a 8), .ref (a 9), .ref (a 10), .int (nI (y_n Y)), .long (y_rp Y)])), ((a 7), .inl (cI, 9, .inl (y_sz Y))), ((a 8), .inl (cZ, 9, .inl (y_ac Y))), ((a 9), .inl (cI, 9, .inl (y_li Y))), ((a 10), .inl (cJ, 9, .inr (.inl (y_sh Y))))] s.heap := hP
  have hl := lv_entry ([.ref (a 1), .int x_g, .int o_g, .int c_g]) (n := 6) (Nat.le_of_ble_eq_true rfl)
  rw [lg_entry_eq]
  generalize (lg_sl ([.ref (a 1), .int x_g, .int o_g, .int c_g]) ++ List.replicate (6 - (lg_sl ([.ref (a 1), .int x_g, .int o_g, .int c_g])).length) Slot.unset).toArray = ls at hl ⊢
  have hl : lv_has ls 6 [(0, .ref (a 1)), (1, .int x_g), (2, .int o_g), (3, .int c_g)] := hl
  refine lv_aload_n hx hb dX0_addIfNew_0 rfl (lv_at hl 0 rfl) ?_
  refine va_get (D := G) (ci := 0) (v := .int (s_fc S)) (C := RX0) (T := TX0) (N := 10) hx hb hts in_X0_addIfNew_0 hown hK hP 0 rfl rfl 5 (by decide) (hts (.fieldLink RX0 28 "RampJam$Search" "foundCount" "I") (by decide +kernel)) (fun _ h9 => h9) rfl dX0_addIfNew_1 ?_
  refine lv_istore (lv' := [(4, .int (s_fc S)), (0, .ref (a 1)), (1, .int x_g), (2, .int o_g), (3, .int c_g)]) hx hb dX0_addIfNew_4 hl (by decide) rfl (fun ls hl => ?_)
  refine lv_aload_n hx hb dX0_addIfNew_6 rfl (lv_at hl 1 rfl) ?_
  refine lv_iload_n hx hb dX0_addIfNew_7 rfl (lv_at hl 2 rfl) ?_
  refine ro_i (va_runV (As := [.int x_g]) (rest := []) ⟨hx, hb, hml, hown, hts⟩ ((c_X0_slotFor l G cI cZ cJ a _ S Y x_g)) (cwV 1 hts gX0_addIfNew_X0_slotFor rfl rfl rfl (by decide +kernel) ⟨Nat.le_of_ble_eq_true rfl, Nat.le_of_ble_eq_true rfl⟩) ⟨ro_blind, va_recv hK hP (ci := 0) (q0 := 0) rfl rfl, ro_pre hP hK hN⟩ rfl rfl hl.1 rfl (lv_room (Nat.le_of_ble_eq_true rfl)) dX0_addIfNew_8 ⟨Nat.zero_le _, Nat.zero_le _⟩) hS hA hP (fun H locs hP hS => ?_)
  refine lv_istore (lv' := [(5, .int (s_slot S x_g)), (4, .int (s_fc S)), (0, .ref (a 1)), (1, .int x_g), (2, .int o_g), (3, .int c_g)]) hx hb dX0_addIfNew_11 hl (by decide) rfl (fun ls hl => ?_)
  refine lv_iload hx hb dX0_addIfNew_13 (lv_at hl 1 rfl) ?_
  refine lv_if_lt (tgt := 49) hx hb dX0_addIfNew_15 (by decide) (fun c_1 => ?_) (fun c_1 => ?_)
  · have hP9 := hP
    have hD9 := hD
    exact W.vret hx hb hr (fun t ht hW => ⟨⟨S, rfl, by rw [s_addN, if_pos (by first | exact Or.inl (by assumption) | exact Or.inr (Or.inl (by assumption)) | exact Or.inr (Or.inr (Or.inl (by assumption))) | exact Or.inr (Or.inr (Or.inr (Or.inl (by assumption)))) | exact Or.inr (Or.inr (Or.inr (Or.inr (by assumption)))))], by rw [ht]; exact hP9, hD9⟩, hS.F ht⟩) hS.2.2 dX0_addIfNew_49
  · refine lv_iload hx hb dX0_addIfNew_18 (lv_at hl 1 rfl) ?_
    refine lv_sipush (v := 800) hx hb dX0_addIfNew_20 (by decide) ?_
    refine lv_icmp_ge (tgt := 49) hx hb dX0_addIfNew_23 (by decide) (fun c_2 => ?_) (fun c_2 => ?_)
    · have hP9 := hP
      have hD9 := hD
      exact W.vret hx hb hr (fun t ht hW => ⟨⟨S, rfl, by rw [s_addN, if_pos (by first | exact Or.inl (by assumption) | exact Or.inr (Or.inl (by assumption)) | exact Or.inr (Or.inr (Or.inl (by assumption))) | exact Or.inr (Or.inr (Or.inr (Or.inl (by assumption)))) | exact Or.inr (Or.inr (Or.inr (Or.inr (by assumption)))))], by rw [ht]; exact hP9, hD9⟩, hS.F ht⟩) hS.2.2 dX0_addIfNew_49
    · refine lv_iload hx hb dX0_addIfNew_26 (lv_at hl 0 rfl) ?_
      refine lv_if_lt (tgt := 49) hx hb dX0_addIfNew_28 (by decide) (fun c_3 => ?_) (fun c_3 => ?_)
      · have hP9 := hP
        have hD9 := hD
        exact W.vret hx hb hr (fun t ht hW => ⟨⟨S, rfl, by rw [s_addN, if_pos (by first | exact Or.inl (by assumption) | exact Or.inr (Or.inl (by assumption)) | exact Or.inr (Or.inr (Or.inl (by assumption))) | exact Or.inr (Or.inr (Or.inr (Or.inl (by assumption)))) | exact Or.inr (Or.inr (Or.inr (Or.inr (by assumption)))))], by rw [ht]; exact hP9, hD9⟩, hS.F ht⟩) hS.2.2 dX0_addIfNew_49
      · refine lv_iload hx hb dX0_addIfNew_31 (lv_at hl 0 rfl) ?_
        refine lv_sipush (v := 2048) hx hb dX0_addIfNew_33 (by decide) ?_
        refine lv_icmp_ge (tgt := 49) hx hb dX0_addIfNew_36 (by decide) (fun c_4 => ?_) (fun c_4 => ?_)
        · have hP9 := hP
          have hD9 := hD
          exact W.vret hx hb hr (fun t ht hW => ⟨⟨S, rfl, by rw [s_addN, if_pos (by first | exact Or.inl (by assumption) | exact Or.inr (Or.inl (by assumption)) | exact Or.inr (Or.inr (Or.inl (by assumption))) | exact Or.inr (Or.inr (Or.inr (Or.inl (by assumption)))) | exact Or.inr (Or.inr (Or.inr (Or.inr (by assumption)))))], by rw [ht]; exact hP9, hD9⟩, hS.F ht⟩) hS.2.2 dX0_addIfNew_49
        · refine lv_aload_n hx hb dX0_addIfNew_39 rfl (lv_at hl 2 rfl) ?_
          refine va_get (D := G) (ci := 0) (v := .ref (a 5)) (C := RX0) (T := TX0) (N := 10) hx hb hts in_X0_addIfNew_0 hown hK hP 0 rfl rfl 4 (by decide) (hts (.fieldLink RX0 21 "RampJam$Search" "slots" "[I") (by decide +kernel)) (fun _ h9 => h9) rfl dX0_addIfNew_40 ?_
          refine lv_iload hx hb dX0_addIfNew_43 (lv_at hl 0 rfl) ?_
          refine va_iald hx hb hK hP 4 0 rfl rfl (cl_in2048 (by assumption) (by assumption)) dX0_addIfNew_45 ?_
          refine lv_if_eq (tgt := 50) hx hb dX0_addIfNew_46 (by decide) (fun c_5 => ?_) (fun c_5 => ?_)
          · refine lv_aload_n hx hb dX0_addIfNew_50 rfl (lv_at hl 2 rfl) ?_
            refine va_get (D := G) (ci := 0) (v := .ref (a 5)) (C := RX0) (T := TX0) (N := 10) hx hb hts in_X0_addIfNew_0 hown hK hP 0 rfl rfl 4 (by decide) (hts (.fieldLink RX0 21 "RampJam$Search" "slots" "[I") (by decide +kernel)) (fun _ h9 => h9) rfl dX0_addIfNew_51 ?_
            refine lv_iload hx hb dX0_addIfNew_54 (lv_at hl 0 rfl) ?_
            refine lv_iload hx hb dX0_addIfNew_56 (lv_at hl 1 rfl) ?_
            refine lv_iconst (v := 1) hx hb dX0_addIfNew_58 (by decide) ?_
            refine lv_iadd hx hb dX0_addIfNew_59 ?_
            refine va_iast hx hb hK hP hD hS 4 0 rfl rfl (cl_in2048 (by assumption) (by assumption)) dX0_addIfNew_60 (fun H locs hP hD hS => ?_)
            have hP : va_P G vwCl [((a 1), .inr (0, [.ref (a 6), .ref (a 2), .ref (a 3), .ref (a 4), .ref (a 5), .int (s_fc S), .int (s_fs S), .int (s_sm S), .int (s_sc S), .int (s_sf S)])), ((a 2), .inl (cI, 800, .inl (s_fo S))), ((a 3), .inl (cI, 800, .inl (s_or S))), ((a 4), .inl (cI, 800, .inl (s_mo S))), ((a 5), .inl (cI, 2048, .inl (upd (s_sl S) ((s_slot S x_g).toNatClampNeg) ((s_fc S) + 1)))), ((a 6), .inr (1, [.ref (a 7), .ref (a 8), .ref (a 9), .ref (a 10), .int (nI (y_n Y)), .long (y_rp Y)])), ((a 7), .inl (cI, 9, .inl (y_sz Y))), ((a 8), .inl (cZ, 9, .inl (y_ac Y))), ((a 9), .inl (cI, 9, .inl (y_li Y))), ((a 10), .inl (cJ, 9, .inr (.inl (y_sh Y))))] H := hP
            have hD : va_D A [((a 1), .inr (0, [.ref (a 6), .ref (a 2), .ref (a 3), .ref (a 4), .ref (a 5), .int (s_fc S), .int (s_fs S), .int (s_sm S), .int (s_sc S), .int (s_sf S)])), ((a 2), .inl (cI, 800, .inl (s_fo S))), ((a 3), .inl (cI, 800, .inl (s_or S))), ((a 4), .inl (cI, 800, .inl (s_mo S))), ((a 5), .inl (cI, 2048, .inl (upd (s_sl S) ((s_slot S x_g).toNatClampNeg) ((s_fc S) + 1)))), ((a 6), .inr (1, [.ref (a 7), .ref (a 8), .ref (a 9), .ref (a 10), .int (nI (y_n Y)), .long (y_rp Y)])), ((a 7), .inl (cI, 9, .inl (y_sz Y))), ((a 8), .inl (cZ, 9, .inl (y_ac Y))), ((a 9), .inl (cI, 9, .inl (y_li Y))), ((a 10), .inl (cJ, 9, .inr (.inl (y_sh Y))))] := hD
            refine lv_aload_n hx hb dX0_addIfNew_61 rfl (lv_at hl 2 rfl) ?_
            refine va_get (D := G) (ci := 0) (v := .ref (a 2)) (C := RX0) (T := TX0) (N := 10) hx hb hts in_X0_addIfNew_0 hown hK hP 0 rfl rfl 1 (by decide) (hts (.fieldLink RX0 9 "RampJam$Search" "found" "[I") (by decide +kernel)) (fun _ h9 => h9) rfl dX0_addIfNew_62 ?_
            refine lv_iload hx hb dX0_addIfNew_65 (lv_at hl 1 rfl) ?_
            refine lv_iload_n hx hb dX0_addIfNew_67 rfl (lv_at hl 3 rfl) ?_
            refine va_iast hx hb hK hP hD hS 1 0 rfl rfl (cl_in800 (by assumption) (by assumption)) dX0_addIfNew_68 (fun H locs hP hD hS => ?_)
            have hP : va_P G vwCl [((a 1), .inr (0, [.ref (a 6), .ref (a 2), .ref (a 3), .ref (a 4), .ref (a 5), .int (s_fc S), .int (s_fs S), .int (s_sm S), .int (s_sc S), .int (s_sf S)])), ((a 2), .inl (cI, 800, .inl (upd (s_fo S) ((s_fc S).toNatClampNeg) x_g))), ((a 3), .inl (cI, 800, .inl (s_or S))), ((a 4), .inl (cI, 800, .inl (s_mo S))), ((a 5), .inl (cI, 2048, .inl (upd (s_sl S) ((s_slot S x_g).toNatClampNeg) ((s_fc S) + 1)))), ((a 6), .inr (1, [.ref (a 7), .ref (a 8), .ref (a 9), .ref (a 10), .int (nI (y_n Y)), .long (y_rp Y)])), ((a 7), .inl (cI, 9, .inl (y_sz Y))), ((a 8), .inl (cZ, 9, .inl (y_ac Y))), ((a 9), .inl (cI, 9, .inl (y_li Y))), ((a 10), .inl (cJ, 9, .inr (.inl (y_sh Y))))] H := hP
            have hD : va_D A [((a 1), .inr (0, [.ref (a 6), .ref (a 2), .ref (a 3), .ref (a 4), .ref (a 5), .int (s_fc S), .int (s_fs S), .int (s_sm S), .int (s_sc S), .int (s_sf S)])), ((a 2), .inl (cI, 800, .inl (upd (s_fo S) ((s_fc S).toNatClampNeg) x_g))), ((a 3), .inl (cI, 800, .inl (s_or S))), ((a 4), .inl (cI, 800, .inl (s_mo S))), ((a 5), .inl (cI, 2048, .inl (upd (s_sl S) ((s_slot S x_g).toNatClampNeg) ((s_fc S) + 1)))), ((a 6), .inr (1, [.ref (a 7), .ref (a 8), .ref (a 9), .ref (a 10), .int (nI (y_n Y)), .long (y_rp Y)])), ((a 7), .inl (cI, 9, .inl (y_sz Y))), ((a 8), .inl (cZ, 9, .inl (y_ac Y))), ((a 9), .inl (cI, 9, .inl (y_li Y))), ((a 10), .inl (cJ, 9, .inr (.inl (y_sh Y))))] := hD
            refine lv_aload_n hx hb dX0_addIfNew_69 rfl (lv_at hl 2 rfl) ?_
            refine va_get (D := G) (ci := 0) (v := .ref (a 3)) (C := RX0) (T := TX0) (N := 10) hx hb hts in_X0_addIfNew_0 hown hK hP 0 rfl rfl 2 (by decide) (hts (.fieldLink RX0 15 "RampJam$Search" "origins" "[I") (by decide +kernel)) (fun _ h9 => h9) rfl dX0_addIfNew_70 ?_
            refine lv_iload hx hb dX0_addIfNew_73 (lv_at hl 1 rfl) ?_
            refine lv_iload_n hx hb dX0_addIfNew_75 rfl (lv_at hl 4 rfl) ?_
            refine va_iast hx hb hK hP hD hS 2 0 rfl rfl (cl_in800 (by assumption) (by assumption)) dX0_addIfNew_76 (fun H locs hP hD hS => ?_)
            have hP : va_P G vwCl [((a 1), .inr (0, [.ref (a 6), .ref (a 2), .ref (a 3), .ref (a 4), .ref (a 5), .int (s_fc S), .int (s_fs S), .int (s_sm S), .int (s_sc S), .int (s_sf S)])), ((a 2), .inl (cI, 800, .inl (upd (s_fo S) ((s_fc S).toNatClampNeg) x_g))), ((a 3), .inl (cI, 800, .inl (upd (s_or S) ((s_fc S).toNatClampNeg) o_g))), ((a 4), .inl (cI, 800, .inl (s_mo S))), ((a 5), .inl (cI, 2048, .inl (upd (s_sl S) ((s_slot S x_g).toNatClampNeg) ((s_fc S) + 1)))), ((a 6), .inr (1, [.ref (a 7), .ref (a 8), .ref (a 9), .ref (a 10), .int (nI (y_n Y)), .long (y_rp Y)])), ((a 7), .inl (cI, 9, .inl (y_sz Y))), ((a 8), .inl (cZ, 9, .inl (y_ac Y))), ((a 9), .inl (cI, 9, .inl (y_li Y))), ((a 10), .inl (cJ, 9, .inr (.inl (y_sh Y))))] H := hP
            have hD : va_D A [((a 1), .inr (0, [.ref (a 6), .ref (a 2), .ref (a 3), .ref (a 4), .ref (a 5), .int (s_fc S), .int (s_fs S), .int (s_sm S), .int (s_sc S), .int (s_sf S)])), ((a 2), .inl (cI, 800, .inl (upd (s_fo S) ((s_fc S).toNatClampNeg) x_g))), ((a 3), .inl (cI, 800, .inl (upd (s_or S) ((s_fc S).toNatClampNeg) o_g))), ((a 4), .inl (cI, 800, .inl (s_mo S))), ((a 5), .inl (cI, 2048, .inl (upd (s_sl S) ((s_slot S x_g).toNatClampNeg) ((s_fc S) + 1)))), ((a 6), .inr (1, [.ref (a 7), .ref (a 8), .ref (a 9), .ref (a 10), .int (nI (y_n Y)), .long (y_rp Y)])), ((a 7), .inl (cI, 9, .inl (y_sz Y))), ((a 8), .inl (cZ, 9, .inl (y_ac Y))), ((a 9), .inl (cI, 9, .inl (y_li Y))), ((a 10), .inl (cJ, 9, .inr (.inl (y_sh Y))))] := hD
            refine lv_aload_n hx hb dX0_addIfNew_77 rfl (lv_at hl 2 rfl) ?_
            refine va_get (D := G) (ci := 0) (v := .ref (a 4)) (C := RX0) (T := TX0) (N := 10) hx hb hts in_X0_addIfNew_0 hown hK hP 0 rfl rfl 3 (by decide) (hts (.fieldLink RX0 18 "RampJam$Search" "moveCodes" "[I") (by decide +kernel)) (fun _ h9 => h9) rfl dX0_addIfNew_78 ?_
            refine lv_iload hx hb dX0_addIfNew_81 (lv_at hl 1 rfl) ?_
            refine lv_iload_n hx hb dX0_addIfNew_83 rfl (lv_at hl 5 rfl) ?_
            refine va_iast hx hb hK hP hD hS 3 0 rfl rfl (cl_in800 (by assumption) (by assumption)) dX0_addIfNew_84 (fun H locs hP hD hS => ?_)
            have hP : va_P G vwCl [((a 1), .inr (0, [.ref (a 6), .ref (a 2), .ref (a 3), .ref (a 4), .ref (a 5), .int (s_fc S), .int (s_fs S), .int (s_sm S), .int (s_sc S), .int (s_sf S)])), ((a 2), .inl (cI, 800, .inl (upd (s_fo S) ((s_fc S).toNatClampNeg) x_g))), ((a 3), .inl (cI, 800, .inl (upd (s_or S) ((s_fc S).toNatClampNeg) o_g))), ((a 4), .inl (cI, 800, .inl (upd (s_mo S) ((s_fc S).toNatClampNeg) c_g))), ((a 5), .inl (cI, 2048, .inl (upd (s_sl S) ((s_slot S x_g).toNatClampNeg) ((s_fc S) + 1)))), ((a 6), .inr (1, [.ref (a 7), .ref (a 8), .ref (a 9), .ref (a 10), .int (nI (y_n Y)), .long (y_rp Y)])), ((a 7), .inl (cI, 9, .inl (y_sz Y))), ((a 8), .inl (cZ, 9, .inl (y_ac Y))), ((a 9), .inl (cI, 9, .inl (y_li Y))), ((a 10), .inl (cJ, 9, .inr (.inl (y_sh Y))))] H := hP
            have hD : va_D A [((a 1), .inr (0, [.ref (a 6), .ref (a 2), .ref (a 3), .ref (a 4), .ref (a 5), .int (s_fc S), .int (s_fs S), .int (s_sm S), .int (s_sc S), .int (s_sf S)])), ((a 2), .inl (cI, 800, .inl (upd (s_fo S) ((s_fc S).toNatClampNeg) x_g))), ((a 3), .inl (cI, 800, .inl (upd (s_or S) ((s_fc S).toNatClampNeg) o_g))), ((a 4), .inl (cI, 800, .inl (upd (s_mo S) ((s_fc S).toNatClampNeg) c_g))), ((a 5), .inl (cI, 2048, .inl (upd (s_sl S) ((s_slot S x_g).toNatClampNeg) ((s_fc S) + 1)))), ((a 6), .inr (1, [.ref (a 7), .ref (a 8), .ref (a 9), .ref (a 10), .int (nI (y_n Y)), .long (y_rp Y)])), ((a 7), .inl (cI, 9, .inl (y_sz Y))), ((a 8), .inl (cZ, 9, .inl (y_ac Y))), ((a 9), .inl (cI, 9, .inl (y_li Y))), ((a 10), .inl (cJ, 9, .inr (.inl (y_sh Y))))] := hD
            refine lv_aload_n hx hb dX0_addIfNew_85 rfl (lv_at hl 2 rfl) ?_
            refine lv_iload hx hb dX0_addIfNew_86 (lv_at hl 1 rfl) ?_
            refine lv_iconst (v := 1) hx hb dX0_addIfNew_88 (by decide) ?_
            refine lv_iadd hx hb dX0_addIfNew_89 ?_
            refine va_put (D := G) (ci := 0) (v := .int ((s_fc S) + 1)) (ty := .int) (C := RX0) (T := TX0) (N := 10) hx hb hts in_X0_addIfNew_0 tyX0 tyX0_ok nmX0 hown hK hP hD hS 0 rfl rfl 5 (by decide) (hts (.fieldLink RX0 28 "RampJam$Search" "foundCount" "I") (by decide +kernel)) (fun _ h9 => h9) rfl (by decide +kernel) rfl rfl (Nat.le_of_ble_eq_true rfl) dX0_addIfNew_90 (fun H locs hP hD hS => ?_)
            have hP : va_P G vwCl [((a 1), .inr (0, [.ref (a 6), .ref (a 2), .ref (a 3), .ref (a 4), .ref (a 5), .int ((s_fc S) + 1), .int (s_fs S), .int (s_sm S), .int (s_sc S), .int (s_sf S)])), ((a 2), .inl (cI, 800, .inl (upd (s_fo S) ((s_fc S).toNatClampNeg) x_g))), ((a 3), .inl (cI, 800, .inl (upd (s_or S) ((s_fc S).toNatClampNeg) o_g))), ((a 4), .inl (cI, 800, .inl (upd (s_mo S) ((s_fc S).toNatClampNeg) c_g))), ((a 5), .inl (cI, 2048, .inl (upd (s_sl S) ((s_slot S x_g).toNatClampNeg) ((s_fc S) + 1)))), ((a 6), .inr (1, [.ref (a 7), .ref (a 8), .ref (a 9), .ref (a 10), .int (nI (y_n Y)), .long (y_rp Y)])), ((a 7), .inl (cI, 9, .inl (y_sz Y))), ((a 8), .inl (cZ, 9, .inl (y_ac Y))), ((a 9), .inl (cI, 9, .inl (y_li Y))), ((a 10), .inl (cJ, 9, .inr (.inl (y_sh Y))))] H := hP
            have hD : va_D A [((a 1), .inr (0, [.ref (a 6), .ref (a 2), .ref (a 3), .ref (a 4), .ref (a 5), .int ((s_fc S) + 1), .int (s_fs S), .int (s_sm S), .int (s_sc S), .int (s_sf S)])), ((a 2), .inl (cI, 800, .inl (upd (s_fo S) ((s_fc S).toNatClampNeg) x_g))), ((a 3), .inl (cI, 800, .inl (upd (s_or S) ((s_fc S).toNatClampNeg) o_g))), ((a 4), .inl (cI, 800, .inl (upd (s_mo S) ((s_fc S).toNatClampNeg) c_g))), ((a 5), .inl (cI, 2048, .inl (upd (s_sl S) ((s_slot S x_g).toNatClampNeg) ((s_fc S) + 1)))), ((a 6), .inr (1, [.ref (a 7), .ref (a 8), .ref (a 9), .ref (a 10), .int (nI (y_n Y)), .long (y_rp Y)])), ((a 7), .inl (cI, 9, .inl (y_sz Y))), ((a 8), .inl (cZ, 9, .inl (y_ac Y))), ((a 9), .inl (cI, 9, .inl (y_li Y))), ((a 10), .inl (cJ, 9, .inr (.inl (y_sh Y))))] := hD
            refine lv_aload_n hx hb dX0_addIfNew_93 rfl (lv_at hl 2 rfl) ?_
            refine va_get (D := G) (ci := 0) (v := .int (s_fs S)) (C := RX0) (T := TX0) (N := 10) hx hb hts in_X0_addIfNew_0 hown hK hP 0 rfl rfl 6 (by decide) (hts (.fieldLink RX0 38 "RampJam$Search" "firstSolved" "I") (by decide +kernel)) (fun _ h9 => h9) rfl dX0_addIfNew_94 ?_
            refine lv_iconst (v := (-1)) hx hb dX0_addIfNew_97 (by decide) ?_
            refine lv_icmp_ne (tgt := 116) hx hb dX0_addIfNew_98 (by decide) (fun c_6 => ?_) (fun c_6 => ?_)
            · have hP9 := hP
              have hD9 := hD
              exact W.vret hx hb hr (fun t ht hW => ⟨⟨((upd (s_fo S) ((s_fc S).toNatClampNeg) x_g), (upd (s_or S) ((s_fc S).toNatClampNeg) o_g), (upd (s_mo S) ((s_fc S).toNatClampNeg) c_g), (upd (s_sl S) ((s_slot S x_g).toNatClampNeg) ((s_fc S) + 1)), ((s_fc S) + 1), (s_fs S), (s_sm S), (s_sc S), (s_sf S)), rfl, by rw [s_addN, if_neg (by rintro (h | h | h | h | h) <;> contradiction)]; first | rw [if_pos ⟨by assumption, by assumption⟩] | rw [if_neg (by rintro ⟨h1, h2⟩; contradiction)], by rw [ht]; exact hP9, hD9⟩, hS.F ht⟩) hS.2.2 dX0_addIfNew_116
            · refine lv_iload_n hx hb dX0_addIfNew_101 rfl (lv_at hl 3 rfl) ?_
              refine lv_iconst (v := 0) hx hb dX0_addIfNew_102 (by decide) ?_
              refine ro_i (va_runSN (As := [.int x_g, .int 0]) (rest := []) ⟨hx, hb, hml, hown, hts⟩ ((c_X2_placeIn l G cI cZ cJ a _ x_g 0)) ⟨va_cnB 2 hts gX0_addIfNew_X2_placeIn_n65 rfl rfl rfl (nx_get hN (k := 2) rfl) (hts (.initialized RX2) (by decide +kernel)) (by decide +kernel) ⟨Nat.le_of_ble_eq_true rfl, Nat.le_of_ble_eq_true rfl⟩, hts (.static yX2_placeIn) (by decide +kernel), trivial⟩ ⟨ro_blind, ro_pre va_P0 hK hN⟩ rfl rfl hl.1 rfl (lv_room (Nat.le_of_ble_eq_true rfl)) dX0_addIfNew_103 ⟨Nat.zero_le _, Nat.zero_le _⟩) hS hA hP (fun H locs hP hS => ?_)
              refine lv_iconst (v := 4) hx hb dX0_addIfNew_106 (by decide) ?_
              refine lv_icmp_ne (tgt := 116) hx hb dX0_addIfNew_107 (by decide) (fun c_7 => ?_) (fun c_7 => ?_)
              · have hP9 := hP
                have hD9 := hD
                exact W.vret hx hb hr (fun t ht hW => ⟨⟨((upd (s_fo S) ((s_fc S).toNatClampNeg) x_g), (upd (s_or S) ((s_fc S).toNatClampNeg) o_g), (upd (s_mo S) ((s_fc S).toNatClampNeg) c_g), (upd (s_sl S) ((s_slot S x_g).toNatClampNeg) ((s_fc S) + 1)), ((s_fc S) + 1), (s_fs S), (s_sm S), (s_sc S), (s_sf S)), rfl, by rw [s_addN, if_neg (by rintro (h | h | h | h | h) <;> contradiction)]; first | rw [if_pos ⟨by assumption, by assumption⟩] | rw [if_neg (by rintro ⟨h1, h2⟩; contradiction)], by rw [ht]; exact hP9, hD9⟩, hS.F ht⟩) hS.2.2 dX0_addIfNew_116
              · refine lv_aload_n hx hb dX0_addIfNew_110 rfl (lv_at hl 2 rfl) ?_
                refine lv_iload hx hb dX0_addIfNew_111 (lv_at hl 1 rfl) ?_
                refine va_put (D := G) (ci := 0) (v := .int (s_fc S)) (ty := .int) (C := RX0) (T := TX0) (N := 10) hx hb hts in_X0_addIfNew_0 tyX0 tyX0_ok nmX0 hown hK hP hD hS 0 rfl rfl 6 (by decide) (hts (.fieldLink RX0 38 "RampJam$Search" "firstSolved" "I") (by decide +kernel)) (fun _ h9 => h9) rfl (by decide +kernel) rfl rfl (Nat.le_of_ble_eq_true rfl) dX0_addIfNew_113 (fun H locs hP hD hS => ?_)
                have hP : va_P G vwCl [((a 1), .inr (0, [.ref (a 6), .ref (a 2), .ref (a 3), .ref (a 4), .ref (a 5), .int ((s_fc S) + 1), .int (s_fc S), .int (s_sm S), .int (s_sc S), .int (s_sf S)])), ((a 2), .inl (cI, 800, .inl (upd (s_fo S) ((s_fc S).toNatClampNeg) x_g))), ((a 3), .inl (cI, 800, .inl (upd (s_or S) ((s_fc S).toNatClampNeg) o_g))), ((a 4), .inl (cI, 800, .inl (upd (s_mo S) ((s_fc S).toNatClampNeg) c_g))), ((a 5), .inl (cI, 2048, .inl (upd (s_sl S) ((s_slot S x_g).toNatClampNeg) ((s_fc S) + 1)))), ((a 6), .inr (1, [.ref (a 7), .ref (a 8), .ref (a 9), .ref (a 10), .int (nI (y_n Y)), .long (y_rp Y)])), ((a 7), .inl (cI, 9, .inl (y_sz Y))), ((a 8), .inl (cZ, 9, .inl (y_ac Y))), ((a 9), .inl (cI, 9, .inl (y_li Y))), ((a 10), .inl (cJ, 9, .inr (.inl (y_sh Y))))] H := hP
                have hD : va_D A [((a 1), .inr (0, [.ref (a 6), .ref (a 2), .ref (a 3), .ref (a 4), .ref (a 5), .int ((s_fc S) + 1), .int (s_fc S), .int (s_sm S), .int (s_sc S), .int (s_sf S)])), ((a 2), .inl (cI, 800, .inl (upd (s_fo S) ((s_fc S).toNatClampNeg) x_g))), ((a 3), .inl (cI, 800, .inl (upd (s_or S) ((s_fc S).toNatClampNeg) o_g))), ((a 4), .inl (cI, 800, .inl (upd (s_mo S) ((s_fc S).toNatClampNeg) c_g))), ((a 5), .inl (cI, 2048, .inl (upd (s_sl S) ((s_slot S x_g).toNatClampNeg) ((s_fc S) + 1)))), ((a 6), .inr (1, [.ref (a 7), .ref (a 8), .ref (a 9), .ref (a 10), .int (nI (y_n Y)), .long (y_rp Y)])), ((a 7), .inl (cI, 9, .inl (y_sz Y))), ((a 8), .inl (cZ, 9, .inl (y_ac Y))), ((a 9), .inl (cI, 9, .inl (y_li Y))), ((a 10), .inl (cJ, 9, .inr (.inl (y_sh Y))))] := hD
                have hP9 := hP
                have hD9 := hD
                exact W.vret hx hb hr (fun t ht hW => ⟨⟨((upd (s_fo S) ((s_fc S).toNatClampNeg) x_g), (upd (s_or S) ((s_fc S).toNatClampNeg) o_g), (upd (s_mo S) ((s_fc S).toNatClampNeg) c_g), (upd (s_sl S) ((s_slot S x_g).toNatClampNeg) ((s_fc S) + 1)), ((s_fc S) + 1), (s_fc S), (s_sm S), (s_sc S), (s_sf S)), rfl, by rw [s_addN, if_neg (by rintro (h | h | h | h | h) <;> contradiction)]; first | rw [if_pos ⟨by assumption, by assumption⟩] | rw [if_neg (by rintro ⟨h1, h2⟩; contradiction)], by rw [ht]; exact hP9, hD9⟩, hS.F ht⟩) hS.2.2 dX0_addIfNew_116
          · have hP9 := hP
            have hD9 := hD
            exact W.vret hx hb hr (fun t ht hW => ⟨⟨S, rfl, by rw [s_addN, if_pos (by first | exact Or.inl (by assumption) | exact Or.inr (Or.inl (by assumption)) | exact Or.inr (Or.inr (Or.inl (by assumption))) | exact Or.inr (Or.inr (Or.inr (Or.inl (by assumption)))) | exact Or.inr (Or.inr (Or.inr (Or.inr (by assumption)))))], by rw [ht]; exact hP9, hD9⟩, hS.F ht⟩) hS.2.2 dX0_addIfNew_49

theorem in_X0_addDriven_0 : ∀ w ∈ wsX00, w ∈ wsX0_addDriven := by decide +kernel
set_option maxHeartbeats 4000000 in
set_option maxRecDepth 100000 in
/-- Search.addDriven -/
theorem c_X0_addDriven (l : Launch) (G : va_G) (cI cZ cJ : ClassId) (a : Nat → Nat) (sz : Nat) (S : SS) (Y : YS) (o_g : Int32) (v_g : Int32) (r_g : Int32) (w_g : Int32)  : Met l yX0_addDriven wsX0_addDriven ({ frames := 2, cells := 0, slots := 0, locals := 50 }) (rw_Pc G [(cI, .int), (cZ, .boolean), (cJ, .long)] (wS cI cZ cJ a S Y) sz [.ref (a 1), .int o_g, .int v_g, .int r_g, .int w_g]) (rw_Qv (S := SS) (s_drv S o_g v_g r_g w_g) (fun u : SS => wS cI cZ cJ a u Y) G (wS cI cZ cJ a S Y) sz) 0 0 (va_A (wS cI cZ cJ a S Y) sz) := by
  refine Met.ofW (cc := cX0_addDriven) (maxL := 7) (ret := none) (by decide) rfl ?_
  intro p e s m args below meth c s₁ B hml hv
  obtain ⟨rfl, hsz, hP, hK, hD0, hN⟩ := hv
  have hx := B.exec
  have hb := B.bytes
  have hr := B.returns
  have hts := atoms_spec (ws := wsX0_addDriven) B.pre
  have hown : s.vm.findClass RX0 = some m.cls := findClass_of_methodNamed B.named
  have hlocks := B.notSynchronized
  subst hsz
  have hD0 : va_D (fun _ => True) [((a 1), .inr (0, [.ref (a 6), .ref (a 2), .ref (a 3), .ref (a 4), .ref (a 5), .int (s_fc S), .int (s_fs S), .int (s_sm S), .int (s_sc S), .int (s_sf S)])), ((a 2), .inl (cI, 800, .inl (s_fo S))), ((a 3), .inl (cI, 800, .inl (s_or S))), ((a 4), .inl (cI, 800, .inl (s_mo S))), ((a 5), .inl (cI, 2048, .inl (s_sl S))), ((a 6), .inr (1, [.ref (a 7), .ref (a 8), .ref (a 9), .ref (a 10), .int (nI (y_n Y)), .long (y_rp Y)])), ((a 7), .inl (cI, 9, .inl (y_sz Y))), ((a 8), .inl (cZ, 9, .inl (y_ac Y))), ((a 9), .inl (cI, 9, .inl (y_li Y))), ((a 10), .inl (cJ, 9, .inr (.inl (y_sh Y))))] := hD0
  have hD := hD0.self (sz := s.heap.size)
  unfold rw_Qv
  generalize hAe : va_A (wS cI cZ cJ a S Y) s.heap.size = A at hD ⊢
  have hA : ∀ q : Nat, s.heap.size ≤ q → A q := fun q h => by rw [← hAe]; exact Or.inr h
  have hS : va_S A s.heap s.heap [] := va_S.rf
  have hP : va_P G vwCl [((a 1), .inr (0, [.ref (a 6), .ref (a 2), .ref (a 3), .ref (a 4), .ref (a 5), .int (s_fc S), .int (s_fs S), .int (s_sm S), .int (s_sc S), .int (s_sf S)])), ((a 2), .inl (cI, 800, .inl (s_fo S))), ((a 3), .inl (cI, 800, .inl (s_or S))), ((a 4), .inl (cI, 800, .inl (s_mo S))), ((a 5), .inl (cI, 2048, .inl (s_sl S))), ((a 6), .inr (1, [.ref (a 7), .ref (a 8), .ref (a 9), .ref (a 10), .int (nI (y_n Y)), .long (y_rp Y)])), ((a 7), .inl (cI, 9, .inl (y_sz Y))), ((a 8), .inl (cZ, 9, .inl (y_ac Y))), ((a 9), .inl (cI, 9, .inl (y_li Y))), ((a 10), .inl (cJ, 9, .inr (.inl (y_sh Y))))] s.heap := hP
  have hl := lv_entry ([.ref (a 1), .int o_g, .int v_g, .int r_g, .int w_g]) (n := 7) (Nat.le_of_ble_eq_true rfl)
  rw [lg_entry_eq]
  generalize (lg_sl ([.ref (a 1), .int o_g, .int v_g, .int r_g, .int w_g]) ++ List.replicate (7 - (lg_sl ([.ref (a 1), .int o_g, .int v_g, .int r_g, .int w_g])).length) Slot.unset).toArray = ls at hl ⊢
  have hl : lv_has ls 7 [(0, .ref (a 1)), (1, .int o_g), (2, .int v_g), (3, .int r_g), (4, .int w_g)] := hl
  refine lv_aload_n hx hb dX0_addDriven_0 rfl (lv_at hl 0 rfl) ?_
  refine lv_iload_n hx hb dX0_addDriven_1 rfl (lv_at hl 1 rfl) ?_
  refine ro_i (va_runV (As := [.int o_g]) (rest := []) ⟨hx, hb, hml, hown, hts⟩ ((c_X0_isFound l G cI cZ cJ a _ S Y o_g)) (cwV 1 hts gX0_addDriven_X0_isFound rfl rfl rfl (by decide +kernel) ⟨Nat.le_of_ble_eq_true rfl, Nat.le_of_ble_eq_true rfl⟩) ⟨ro_blind, va_recv hK hP (ci := 0) (q0 := 0) rfl rfl, ro_pre hP hK hN⟩ rfl rfl hl.1 rfl (lv_room (Nat.le_of_ble_eq_true rfl)) dX0_addDriven_2 ⟨Nat.zero_le _, Nat.zero_le _⟩) hS hA hP (fun H locs hP hS => ?_)
  refine lv_if_ne (tgt := 9) hx hb dX0_addDriven_5 (by decide) (fun c_1 => ?_) (fun c_1 => ?_)
  · have c_1 := b1_t c_1
    refine lv_iconst (v := 1) hx hb dX0_addDriven_9 (by decide) ?_
    refine lv_istore (lv' := [(5, .int 1), (0, .ref (a 1)), (1, .int o_g), (2, .int v_g), (3, .int r_g), (4, .int w_g)]) hx hb dX0_addDriven_10 hl (by decide) rfl (fun ls hl => ?_)
    have cut_12 : ∀ (d : Nat) (k_g : Nat) (S_g : SS), k_g ≤ 5 → 5 + 1 ≤ k_g + d → (s_drvL o_g v_g r_g w_g (5 - k_g) k_g S_g = s_drvL o_g v_g r_g w_g 4 1 S) → ∀ (H : Heap) (locs : List Loc), va_P G vwCl [((a 1), .inr (0, [.ref (a 6), .ref (a 2), .ref (a 3), .ref (a 4), .ref (a 5), .int (s_fc S_g), .int (s_fs S_g), .int (s_sm S_g), .int (s_sc S_g), .int (s_sf S_g)])), ((a 2), .inl (cI, 800, .inl (s_fo S_g))), ((a 3), .inl (cI, 800, .inl (s_or S_g))), ((a 4), .inl (cI, 800, .inl (s_mo S_g))), ((a 5), .inl (cI, 2048, .inl (s_sl S_g))), ((a 6), .inr (1, [.ref (a 7), .ref (a 8), .ref (a 9), .ref (a 10), .int (nI (y_n Y)), .long (y_rp Y)])), ((a 7), .inl (cI, 9, .inl (y_sz Y))), ((a 8), .inl (cZ, 9, .inl (y_ac Y))), ((a 9), .inl (cI, 9, .inl (y_li Y))), ((a 10), .inl (cJ, 9, .inr (.inl (y_sh Y))))] H → va_D A [((a 1), .inr (0, [.ref (a 6), .ref (a 2), .ref (a 3), .ref (a 4), .ref (a 5), .int (s_fc S_g), .int (s_fs S_g), .int (s_sm S_g), .int (s_sc S_g), .int (s_sf S_g)])), ((a 2), .inl (cI, 800, .inl (s_fo S_g))), ((a 3), .inl (cI, 800, .inl (s_or S_g))), ((a 4), .inl (cI, 800, .inl (s_mo S_g))), ((a 5), .inl (cI, 2048, .inl (s_sl S_g))), ((a 6), .inr (1, [.ref (a 7), .ref (a 8), .ref (a 9), .ref (a 10), .int (nI (y_n Y)), .long (y_rp Y)])), ((a 7), .inl (cI, 9, .inl (y_sz Y))), ((a 8), .inl (cZ, 9, .inl (y_ac Y))), ((a 9), .inl (cI, 9, .inl (y_li Y))), ((a 10), .inl (cJ, 9, .inr (.inl (y_sh Y))))] → va_S A s.heap H locs → ∀ (ls : Array Slot), lv_has ls 7 [(0, .ref (a 1)), (1, .int o_g), (2, .int v_g), (3, .int r_g), (4, .int w_g), (5, .int (nI k_g))] → W p l e (headSpec wsX0_addDriven ({ frames := 2, cells := 0, slots := 0, locals := 50 })).room s m ([.ref (a 1), .int o_g, .int v_g, .int r_g, .int w_g] : List Value).toArray below meth c H locs 0 0 (MQ below (va_Qv (fun u : SS => u = (s_drv S o_g v_g r_g w_g)) (fun (u : SS) (t : State) => va_P G vwCl ((fun u : SS => wS cI cZ cJ a u Y) u) t.heap ∧ va_D A ((fun u : SS => wS cI cZ cJ a u Y) u)) A) ([.ref (a 1), .int o_g, .int v_g, .int r_g, .int w_g] : List Value).toArray s 0 0 A) (F0 m 12 ls []) := by
      intro d
      induction d with
      | zero =>
        intro k_g S_g hk_12 hd_12
        exact absurd hd_12 (by omega)
      | succ d ih_12 =>
        intro k_g S_g hk_12 hd_12 hI H locs hP hD hS ls hl
        refine lv_iload hx hb dX0_addDriven_12 (lv_at hl 5 rfl) ?_
        refine lv_iload hx hb dX0_addDriven_14 (lv_at hl 4 rfl) ?_
        refine lv_icmp_gt (tgt := 60) hx hb dX0_addDriven_16 (by decide) (fun c_2 => ?_) (fun c_2 => ?_)
        · have hout : ¬ nI k_g ≤ w_g ∨ ¬ nI k_g ≤ 4 := Or.inl (nx_le c_2)
          have hP9 := hP
          have hD9 := hD
          exact W.vret hx hb hr (fun t ht hW => ⟨⟨S_g, rfl, by rw [s_drv, if_pos c_1, ← hI, s_drvL_out (fun h => by have h1 := h.1; have h2 := h.2; rcases hout with q | q <;> exact q (by assumption))], by rw [ht]; exact hP9, hD9⟩, hS.F ht⟩) hS.2.2 dX0_addDriven_60
        · have hw := nx_nl c_2
          refine lv_iload hx hb dX0_addDriven_19 (lv_at hl 5 rfl) ?_
          refine lv_iconst (v := 4) hx hb dX0_addDriven_21 (by decide) ?_
          refine lv_icmp_gt (tgt := 60) hx hb dX0_addDriven_22 (by decide) (fun c_3 => ?_) (fun c_3 => ?_)
          · have hout : ¬ nI k_g ≤ w_g ∨ ¬ nI k_g ≤ 4 := Or.inr (nx_le c_3)
            have hP9 := hP
            have hD9 := hD
            exact W.vret hx hb hr (fun t ht hW => ⟨⟨S_g, rfl, by rw [s_drv, if_pos c_1, ← hI, s_drvL_out (fun h => by have h1 := h.1; have h2 := h.2; rcases hout with q | q <;> exact q (by assumption))], by rw [ht]; exact hP9, hD9⟩, hS.F ht⟩) hS.2.2 dX0_addDriven_60
          · have h4 := nx_nl c_3
            have hlt : k_g ≤ 4 := (nI_leI (a := k_g) (b := 4) (by omega) (by omega)).mp h4
            refine lv_iload_n hx hb dX0_addDriven_25 rfl (lv_at hl 3 rfl) ?_
            refine lv_iload hx hb dX0_addDriven_26 (lv_at hl 5 rfl) ?_
            refine lv_imul hx hb dX0_addDriven_28 ?_
            refine lv_istore (lv' := [(6, .int (r_g * (nI k_g))), (0, .ref (a 1)), (1, .int o_g), (2, .int v_g), (3, .int r_g), (4, .int w_g), (5, .int (nI k_g))]) hx hb dX0_addDriven_29 hl (by decide) rfl (fun ls hl => ?_)
            refine lv_aload_n hx hb dX0_addDriven_31 rfl (lv_at hl 1 rfl) ?_
            refine lv_aload_n hx hb dX0_addDriven_32 rfl (lv_at hl 1 rfl) ?_
            refine va_get (D := G) (ci := 0) (v := .ref (a 2)) (C := RX0) (T := TX0) (N := 10) hx hb hts in_X0_addDriven_0 hown hK hP 0 rfl rfl 1 (by decide) (hts (.fieldLink RX0 9 "RampJam$Search" "found" "[I") (by decide +kernel)) (fun _ h9 => h9) rfl dX0_addDriven_33 ?_
            refine lv_iload_n hx hb dX0_addDriven_36 rfl (lv_at hl 2 rfl) ?_
            refine va_iald hx hb hK hP 1 0 rfl rfl (s_isF_in c_1) dX0_addDriven_37 ?_
            refine lv_iload_n hx hb dX0_addDriven_38 rfl (lv_at hl 3 rfl) ?_
            refine lv_iload hx hb dX0_addDriven_39 (lv_at hl 0 rfl) ?_
            refine ro_i (va_runSN (As := [.int ((s_fo S_g) (o_g.toNatClampNeg)), .int v_g, .int (r_g * (nI k_g))]) (rest := [.ref (a 1)]) ⟨hx, hb, hml, hown, hts⟩ ((c_X2_moved l G cI cZ cJ a _ ((s_fo S_g) (o_g.toNatClampNeg)) v_g (r_g * (nI k_g)))) ⟨va_cnB 3 hts gX0_addDriven_X2_moved_n96 rfl rfl rfl (nx_get hN (k := 3) rfl) (hts (.initialized RX2) (by decide +kernel)) (by decide +kernel) ⟨Nat.le_of_ble_eq_true rfl, Nat.le_of_ble_eq_true rfl⟩, hts (.static yX2_moved) (by decide +kernel), trivial⟩ ⟨ro_blind, ro_pre va_P0 hK hN⟩ rfl rfl hl.1 rfl (lv_room (Nat.le_of_ble_eq_true rfl)) dX0_addDriven_41 ⟨Nat.zero_le _, Nat.zero_le _⟩) hS hA hP (fun H locs hP hS => ?_)
            refine lv_iload_n hx hb dX0_addDriven_44 rfl (lv_at hl 2 rfl) ?_
            refine lv_iload_n hx hb dX0_addDriven_45 rfl (lv_at hl 3 rfl) ?_
            refine lv_iload hx hb dX0_addDriven_46 (lv_at hl 0 rfl) ?_
            refine ro_i (va_runS (As := [.int v_g, .int (r_g * (nI k_g))]) (rest := [.int o_g, .int (mv ((s_fo S_g) (o_g.toNatClampNeg)) v_g (r_g * (nI k_g))), .ref (a 1)]) ⟨hx, hb, hml, hown, hts⟩ ((c_X0_codeOfMove l G cI cZ cJ a _ v_g (r_g * (nI k_g)))) (va_cwS 2 hts gX0_addDriven_X0_codeOfMove rfl rfl rfl (by decide +kernel) ⟨Nat.le_of_ble_eq_true rfl, Nat.le_of_ble_eq_true rfl⟩) ⟨ro_blind, ro_pre va_P0 hK hN⟩ rfl rfl hl.1 rfl (lv_room (Nat.le_of_ble_eq_true rfl)) dX0_addDriven_48 ⟨Nat.zero_le _, Nat.zero_le _⟩) hS hA hP (fun H locs hP hS => ?_)
            refine rw_v (wr := []) (ws' := [((a 1), .inr (0, [.ref (a 6), .ref (a 2), .ref (a 3), .ref (a 4), .ref (a 5), .int (s_fc (s_addN S_g (mv ((s_fo S_g) (o_g.toNatClampNeg)) v_g (r_g * (nI k_g))) o_g (m_code v_g (r_g * (nI k_g))))), .int (s_fs (s_addN S_g (mv ((s_fo S_g) (o_g.toNatClampNeg)) v_g (r_g * (nI k_g))) o_g (m_code v_g (r_g * (nI k_g))))), .int (s_sm (s_addN S_g (mv ((s_fo S_g) (o_g.toNatClampNeg)) v_g (r_g * (nI k_g))) o_g (m_code v_g (r_g * (nI k_g))))), .int (s_sc (s_addN S_g (mv ((s_fo S_g) (o_g.toNatClampNeg)) v_g (r_g * (nI k_g))) o_g (m_code v_g (r_g * (nI k_g))))), .int (s_sf (s_addN S_g (mv ((s_fo S_g) (o_g.toNatClampNeg)) v_g (r_g * (nI k_g))) o_g (m_code v_g (r_g * (nI k_g)))))])), ((a 2), .inl (cI, 800, .inl (s_fo (s_addN S_g (mv ((s_fo S_g) (o_g.toNatClampNeg)) v_g (r_g * (nI k_g))) o_g (m_code v_g (r_g * (nI k_g))))))), ((a 3), .inl (cI, 800, .inl (s_or (s_addN S_g (mv ((s_fo S_g) (o_g.toNatClampNeg)) v_g (r_g * (nI k_g))) o_g (m_code v_g (r_g * (nI k_g))))))), ((a 4), .inl (cI, 800, .inl (s_mo (s_addN S_g (mv ((s_fo S_g) (o_g.toNatClampNeg)) v_g (r_g * (nI k_g))) o_g (m_code v_g (r_g * (nI k_g))))))), ((a 5), .inl (cI, 2048, .inl (s_sl (s_addN S_g (mv ((s_fo S_g) (o_g.toNatClampNeg)) v_g (r_g * (nI k_g))) o_g (m_code v_g (r_g * (nI k_g))))))), ((a 6), .inr (1, [.ref (a 7), .ref (a 8), .ref (a 9), .ref (a 10), .int (nI (y_n Y)), .long (y_rp Y)])), ((a 7), .inl (cI, 9, .inl (y_sz Y))), ((a 8), .inl (cZ, 9, .inl (y_ac Y))), ((a 9), .inl (cI, 9, .inl (y_li Y))), ((a 10), .inl (cJ, 9, .inr (.inl (y_sh Y))))]) (va_runV (As := [.int (mv ((s_fo S_g) (o_g.toNatClampNeg)) v_g (r_g * (nI k_g))), .int o_g, .int (m_code v_g (r_g * (nI k_g)))]) (rest := []) ⟨hx, hb, hml, hown, hts⟩ ((c_X0_addIfNew l G cI cZ cJ a _ S_g Y (mv ((s_fo S_g) (o_g.toNatClampNeg)) v_g (r_g * (nI k_g))) o_g (m_code v_g (r_g * (nI k_g))))) (cwV 3 hts gX0_addDriven_X0_addIfNew rfl rfl rfl (by decide +kernel) ⟨Nat.le_of_ble_eq_true rfl, Nat.le_of_ble_eq_true rfl⟩) ⟨rw_blind, va_recv hK hP (ci := 0) (q0 := 0) rfl rfl, rw_pre hP hD hK hN⟩ rfl rfl hl.1 rfl (lv_room (Nat.le_of_ble_eq_true rfl)) dX0_addDriven_51 ⟨Nat.zero_le _, Nat.zero_le _⟩) hS hA hP hD [0, 1, 2, 3, 4, 5, 6, 7, 8, 9] [] [0, 1, 2, 3, 4, 5, 6, 7, 8, 9] rfl rfl (by decide) (by decide) rfl (by decide) (fun H locs hP hD hS => ?_)
            refine lv_iinc (v := (nI (k_g + 1))) (lv' := [(5, .int (nI (k_g + 1))), (6, .int (r_g * (nI k_g))), (0, .ref (a 1)), (1, .int o_g), (2, .int v_g), (3, .int r_g), (4, .int w_g)]) hx hb dX0_addDriven_54 hl (k := 6) rfl (nI_1 _) (by decide) rfl (fun ls hl => ?_)
            refine lv_goto (tgt := 12) hx hb dX0_addDriven_57 (by decide) ?_
            exact ih_12 (k_g + 1) (s_addN S_g (mv ((s_fo S_g) (o_g.toNatClampNeg)) v_g (r_g * (nI k_g))) o_g (m_code v_g (r_g * (nI k_g)))) (by omega) (by omega) (by rw [← hI, s_drvL_in (k := k_g) (by omega), if_pos ⟨hw, h4⟩]) _ _ hP hD hS _ (lv_sub hl [2, 3, 4, 5, 6, 0] rfl)
    exact cut_12 (5 + 1) 1 S (by omega) (by omega) (rfl) _ _ hP hD hS _ (lv_sub hl [1, 2, 3, 4, 5, 0] rfl)
  · have c_1 := b1_f c_1
    have hP9 := hP
    have hD9 := hD
    exact W.vret hx hb hr (fun t ht hW => ⟨⟨S, rfl, by rw [s_drv, if_neg c_1], by rw [ht]; exact hP9, hD9⟩, hS.F ht⟩) hS.2.2 dX0_addDriven_8

theorem in_X0_addReachedFrom_0 : ∀ w ∈ wsX00, w ∈ wsX0_addReachedFrom := by decide +kernel
set_option maxHeartbeats 4000000 in
set_option maxRecDepth 100000 in
/-- Search.addReachedFrom -/
theorem c_X0_addReachedFrom (l : Launch) (G : va_G) (cI cZ cJ : ClassId) (a : Nat → Nat) (sz : Nat) (S : SS) (Y : YS) (o_g : Int32) (hn : y_n Y ≤ 9) : Met l yX0_addReachedFrom wsX0_addReachedFrom ({ frames := 3, cells := 0, slots := 0, locals := 77 }) (rw_Pc G [(cI, .int), (cZ, .boolean), (cJ, .long)] (wS cI cZ cJ a S Y) sz [.ref (a 1), .int o_g]) (rw_Qv (S := SS) (s_reach Y S o_g) (fun u : SS => wS cI cZ cJ a u Y) G (wS cI cZ cJ a S Y) sz) 0 0 (va_A (wS cI cZ cJ a S Y) sz) := by
  refine Met.ofW (cc := cX0_addReachedFrom) (maxL := 6) (ret := none) (by decide) rfl ?_
  intro p e s m args below meth c s₁ B hml hv
  obtain ⟨rfl, hsz, hP, hK, hD0, hN⟩ := hv
  have hx := B.exec
  have hb := B.bytes
  have hr := B.returns
  have hts := atoms_spec (ws := wsX0_addReachedFrom) B.pre
  have hown : s.vm.findClass RX0 = some m.cls := findClass_of_methodNamed B.named
  have hlocks := B.notSynchronized
  subst hsz
  have hD0 : va_D (fun _ => True) [((a 1), .inr (0, [.ref (a 6), .ref (a 2), .ref (a 3), .ref (a 4), .ref (a 5), .int (s_fc S), .int (s_fs S), .int (s_sm S), .int (s_sc S), .int (s_sf S)])), ((a 2), .inl (cI, 800, .inl (s_fo S))), ((a 3), .inl (cI, 800, .inl (s_or S))), ((a 4), .inl (cI, 800, .inl (s_mo S))), ((a 5), .inl (cI, 2048, .inl (s_sl S))), ((a 6), .inr (1, [.ref (a 7), .ref (a 8), .ref (a 9), .ref (a 10), .int (nI (y_n Y)), .long (y_rp Y)])), ((a 7), .inl (cI, 9, .inl (y_sz Y))), ((a 8), .inl (cZ, 9, .inl (y_ac Y))), ((a 9), .inl (cI, 9, .inl (y_li Y))), ((a 10), .inl (cJ, 9, .inr (.inl (y_sh Y))))] := hD0
  have hD := hD0.self (sz := s.heap.size)
  unfold rw_Qv
  generalize hAe : va_A (wS cI cZ cJ a S Y) s.heap.size = A at hD ⊢
  have hA : ∀ q : Nat, s.heap.size ≤ q → A q := fun q h => by rw [← hAe]; exact Or.inr h
  have hS : va_S A s.heap s.heap [] := va_S.rf
  have hP : va_P G vwCl [((a 1), .inr (0, [.ref (a 6), .ref (a 2), .ref (a 3), .ref (a 4), .ref (a 5), .int (s_fc S), .int (s_fs S), .int (s_sm S), .int (s_sc S), .int (s_sf S)])), ((a 2), .inl (cI, 800, .inl (s_fo S))), ((a 3), .inl (cI, 800, .inl (s_or S))), ((a 4), .inl (cI, 800, .inl (s_mo S))), ((a 5), .inl (cI, 2048, .inl (s_sl S))), ((a 6), .inr (1, [.ref (a 7), .ref (a 8), .ref (a 9), .ref (a 10), .int (nI (y_n Y)), .long (y_rp Y)])), ((a 7), .inl (cI, 9, .inl (y_sz Y))), ((a 8), .inl (cZ, 9, .inl (y_ac Y))), ((a 9), .inl (cI, 9, .inl (y_li Y))), ((a 10), .inl (cJ, 9, .inr (.inl (y_sh Y))))] s.heap := hP
  have hl := lv_entry ([.ref (a 1), .int o_g]) (n := 6) (Nat.le_of_ble_eq_true rfl)
  rw [lg_entry_eq]
  generalize (lg_sl ([.ref (a 1), .int o_g]) ++ List.replicate (6 - (lg_sl ([.ref (a 1), .int o_g])).length) Slot.unset).toArray = ls at hl ⊢
  have hl : lv_has ls 6 [(0, .ref (a 1)), (1, .int o_g)] := hl
  refine lv_aload_n hx hb dX0_addReachedFrom_0 rfl (lv_at hl 0 rfl) ?_
  refine lv_iload_n hx hb dX0_addReachedFrom_1 rfl (lv_at hl 1 rfl) ?_
  refine ro_i (va_runV (As := [.int o_g]) (rest := []) ⟨hx, hb, hml, hown, hts⟩ ((c_X0_isFound l G cI cZ cJ a _ S Y o_g)) (cwV 1 hts gX0_addReachedFrom_X0_isFound rfl rfl rfl (by decide +kernel) ⟨Nat.le_of_ble_eq_true rfl, Nat.le_of_ble_eq_true rfl⟩) ⟨ro_blind, va_recv hK hP (ci := 0) (q0 := 0) rfl rfl, ro_pre hP hK hN⟩ rfl rfl hl.1 rfl (lv_room (Nat.le_of_ble_eq_true rfl)) dX0_addReachedFrom_2 ⟨Nat.zero_le _, Nat.zero_le _⟩) hS hA hP (fun H locs hP hS => ?_)
  refine lv_if_ne (tgt := 9) hx hb dX0_addReachedFrom_5 (by decide) (fun c_1 => ?_) (fun c_1 => ?_)
  · have c_1 := b1_t c_1
    refine lv_aload_n hx hb dX0_addReachedFrom_9 rfl (lv_at hl 0 rfl) ?_
    refine va_get (D := G) (ci := 0) (v := .ref (a 2)) (C := RX0) (T := TX0) (N := 10) hx hb hts in_X0_addReachedFrom_0 hown hK hP 0 rfl rfl 1 (by decide) (hts (.fieldLink RX0 9 "RampJam$Search" "found" "[I") (by decide +kernel)) (fun _ h9 => h9) rfl dX0_addReachedFrom_10 ?_
    refine lv_iload_n hx hb dX0_addReachedFrom_13 rfl (lv_at hl 1 rfl) ?_
    refine va_iald hx hb hK hP 1 0 rfl rfl (s_isF_in c_1) dX0_addReachedFrom_14 ?_
    refine lv_istore_n (lv' := [(2, .int ((s_fo S) (o_g.toNatClampNeg))), (0, .ref (a 1)), (1, .int o_g)]) hx hb dX0_addReachedFrom_15 rfl hl (by decide) rfl (fun ls hl => ?_)
    refine lv_aload_n hx hb dX0_addReachedFrom_16 rfl (lv_at hl 1 rfl) ?_
    refine va_get (D := G) (ci := 0) (v := .ref (a 6)) (C := RX0) (T := TX0) (N := 10) hx hb hts in_X0_addReachedFrom_0 hown hK hP 0 rfl rfl 0 (by decide) (hts (.fieldLink RX0 24 "RampJam$Search" "yard" "LRampJam$Yard;") (by decide +kernel)) (fun _ h9 => h9) rfl dX0_addReachedFrom_17 ?_
    refine lv_iload_n hx hb dX0_addReachedFrom_20 rfl (lv_at hl 0 rfl) ?_
    have hPc := hP.sub (ws' := [((a 6), .inr (1, [.ref (a 7), .ref (a 8), .ref (a 9), .ref (a 10), .int (nI (y_n Y)), .long (y_rp Y)])), ((a 7), .inl (cI, 9, .inl (y_sz Y))), ((a 8), .inl (cZ, 9, .inl (y_ac Y))), ((a 9), .inl (cI, 9, .inl (y_li Y))), ((a 10), .inl (cJ, 9, .inr (.inl (y_sh Y))))]) [5, 6, 7, 8, 9] rfl
    refine ro_l (va_runV (As := [.int ((s_fo S) (o_g.toNatClampNeg))]) (rest := []) ⟨hx, hb, hml, hown, hts⟩ ((c_X1_filledIn l G cI cZ cJ a _ Y ((s_fo S) (o_g.toNatClampNeg)) hn)) (cwV 1 hts gX0_addReachedFrom_X1_filledIn rfl rfl rfl (by decide +kernel) ⟨Nat.le_of_ble_eq_true rfl, Nat.le_of_ble_eq_true rfl⟩) ⟨ro_blind, va_recv hK hPc (ci := 1) (q0 := 0) rfl rfl, ro_pre hPc hK hN⟩ rfl rfl hl.1 rfl (lv_room (Nat.le_of_ble_eq_true rfl)) dX0_addReachedFrom_21 ⟨Nat.zero_le _, Nat.zero_le _⟩) hS hA hP (fun H locs hP hS => ?_)
    refine lv_lstore_n (lv' := [(3, .long (y_fil Y ((s_fo S) (o_g.toNatClampNeg)) (y_n Y))), (2, .int ((s_fo S) (o_g.toNatClampNeg))), (0, .ref (a 1)), (1, .int o_g)]) hx hb dX0_addReachedFrom_24 rfl hl (by decide) rfl (fun ls hl => ?_)
    refine lv_iconst (v := 0) hx hb dX0_addReachedFrom_25 (by decide) ?_
    refine lv_istore (lv' := [(5, .int 0), (3, .long (y_fil Y ((s_fo S) (o_g.toNatClampNeg)) (y_n Y))), (2, .int ((s_fo S) (o_g.toNatClampNeg))), (0, .ref (a 1)), (1, .int o_g)]) hx hb dX0_addReachedFrom_26 hl (by decide) rfl (fun ls hl => ?_)
    have cut_28 : ∀ (d : Nat) (k_g : Nat) (S_g : SS), k_g ≤ y_n Y → y_n Y + 1 ≤ k_g + d → (s_reachL Y o_g (s_fo S o_g.toNatClampNeg) (y_fil Y (s_fo S o_g.toNatClampNeg) (y_n Y)) (y_n Y - k_g) k_g S_g = s_reachL Y o_g (s_fo S o_g.toNatClampNeg) (y_fil Y (s_fo S o_g.toNatClampNeg) (y_n Y)) (y_n Y) 0 S) → ∀ (H : Heap) (locs : List Loc), va_P G vwCl [((a 1), .inr (0, [.ref (a 6), .ref (a 2), .ref (a 3), .ref (a 4), .ref (a 5), .int (s_fc S_g), .int (s_fs S_g), .int (s_sm S_g), .int (s_sc S_g), .int (s_sf S_g)])), ((a 2), .inl (cI, 800, .inl (s_fo S_g))), ((a 3), .inl (cI, 800, .inl (s_or S_g))), ((a 4), .inl (cI, 800, .inl (s_mo S_g))), ((a 5), .inl (cI, 2048, .inl (s_sl S_g))), ((a 6), .inr (1, [.ref (a 7), .ref (a 8), .ref (a 9), .ref (a 10), .int (nI (y_n Y)), .long (y_rp Y)])), ((a 7), .inl (cI, 9, .inl (y_sz Y))), ((a 8), .inl (cZ, 9, .inl (y_ac Y))), ((a 9), .inl (cI, 9, .inl (y_li Y))), ((a 10), .inl (cJ, 9, .inr (.inl (y_sh Y))))] H → va_D A [((a 1), .inr (0, [.ref (a 6), .ref (a 2), .ref (a 3), .ref (a 4), .ref (a 5), .int (s_fc S_g), .int (s_fs S_g), .int (s_sm S_g), .int (s_sc S_g), .int (s_sf S_g)])), ((a 2), .inl (cI, 800, .inl (s_fo S_g))), ((a 3), .inl (cI, 800, .inl (s_or S_g))), ((a 4), .inl (cI, 800, .inl (s_mo S_g))), ((a 5), .inl (cI, 2048, .inl (s_sl S_g))), ((a 6), .inr (1, [.ref (a 7), .ref (a 8), .ref (a 9), .ref (a 10), .int (nI (y_n Y)), .long (y_rp Y)])), ((a 7), .inl (cI, 9, .inl (y_sz Y))), ((a 8), .inl (cZ, 9, .inl (y_ac Y))), ((a 9), .inl (cI, 9, .inl (y_li Y))), ((a 10), .inl (cJ, 9, .inr (.inl (y_sh Y))))] → va_S A s.heap H locs → ∀ (ls : Array Slot), lv_has ls 6 [(0, .ref (a 1)), (1, .int o_g), (2, .int (s_fo S o_g.toNatClampNeg)), (3, .long (y_fil Y (s_fo S o_g.toNatClampNeg) (y_n Y))), (5, .int (nI k_g))] → W p l e (headSpec wsX0_addReachedFrom ({ frames := 3, cells := 0, slots := 0, locals := 77 })).room s m ([.ref (a 1), .int o_g] : List Value).toArray below meth c H locs 0 0 (MQ below (va_Qv (fun u : SS => u = (s_reach Y S o_g)) (fun (u : SS) (t : State) => va_P G vwCl ((fun u : SS => wS cI cZ cJ a u Y) u) t.heap ∧ va_D A ((fun u : SS => wS cI cZ cJ a u Y) u)) A) ([.ref (a 1), .int o_g] : List Value).toArray s 0 0 A) (F0 m 28 ls []) := by
      intro d
      induction d with
      | zero =>
        intro k_g S_g hk_28 hd_28
        exact absurd hd_28 (by omega)
      | succ d ih_28 =>
        intro k_g S_g hk_28 hd_28 hI H locs hP hD hS ls hl
        refine lv_iload hx hb dX0_addReachedFrom_28 (lv_at hl 4 rfl) ?_
        refine lv_aload_n hx hb dX0_addReachedFrom_30 rfl (lv_at hl 0 rfl) ?_
        refine va_get (D := G) (ci := 0) (v := .ref (a 6)) (C := RX0) (T := TX0) (N := 10) hx hb hts in_X0_addReachedFrom_0 hown hK hP 0 rfl rfl 0 (by decide) (hts (.fieldLink RX0 24 "RampJam$Search" "yard" "LRampJam$Yard;") (by decide +kernel)) (fun _ h9 => h9) rfl dX0_addReachedFrom_31 ?_
        have hPc := hP.sub (ws' := [((a 6), .inr (1, [.ref (a 7), .ref (a 8), .ref (a 9), .ref (a 10), .int (nI (y_n Y)), .long (y_rp Y)])), ((a 7), .inl (cI, 9, .inl (y_sz Y))), ((a 8), .inl (cZ, 9, .inl (y_ac Y))), ((a 9), .inl (cI, 9, .inl (y_li Y))), ((a 10), .inl (cJ, 9, .inr (.inl (y_sh Y))))]) [5, 6, 7, 8, 9] rfl
        refine ro_i (va_runV (As := []) (rest := [.int (nI k_g)]) ⟨hx, hb, hml, hown, hts⟩ ((c_X1_count l G cI cZ cJ a _ Y)) (cwV 0 hts gX0_addReachedFrom_X1_count rfl rfl rfl (by decide +kernel) ⟨Nat.le_of_ble_eq_true rfl, Nat.le_of_ble_eq_true rfl⟩) ⟨ro_blind, va_recv hK hPc (ci := 1) (q0 := 0) rfl rfl, ro_pre hPc hK hN⟩ rfl rfl hl.1 rfl (lv_room (Nat.le_of_ble_eq_true rfl)) dX0_addReachedFrom_34 ⟨Nat.zero_le _, Nat.zero_le _⟩) hS hA hP (fun H locs hP hS => ?_)
        refine lv_icmp_ge (tgt := 86) hx hb dX0_addReachedFrom_37 (by decide) (fun c_2 => ?_) (fun c_2 => ?_)
        · have hkn : k_g = y_n Y := Nat.le_antisymm hk_28 (nx_ge (by omega) (by omega) c_2)
          have hP9 := hP
          have hD9 := hD
          exact W.vret hx hb hr (fun t ht hW => ⟨⟨S_g, rfl, by rw [s_reach, if_pos c_1, ← hI, hkn, Nat.sub_self]; rfl, by rw [ht]; exact hP9, hD9⟩, hS.F ht⟩) hS.2.2 dX0_addReachedFrom_86
        · have hlt : k_g < y_n Y := nx_lt (by omega) (by omega) c_2
          refine lv_aload_n hx hb dX0_addReachedFrom_40 rfl (lv_at hl 0 rfl) ?_
          refine lv_iload_n hx hb dX0_addReachedFrom_41 rfl (lv_at hl 1 rfl) ?_
          refine lv_iload hx hb dX0_addReachedFrom_42 (lv_at hl 4 rfl) ?_
          refine lv_iconst (v := (-1)) hx hb dX0_addReachedFrom_44 (by decide) ?_
          refine lv_aload_n hx hb dX0_addReachedFrom_45 rfl (lv_at hl 0 rfl) ?_
          refine va_get (D := G) (ci := 0) (v := .ref (a 6)) (C := RX0) (T := TX0) (N := 10) hx hb hts in_X0_addReachedFrom_0 hown hK hP 0 rfl rfl 0 (by decide) (hts (.fieldLink RX0 24 "RampJam$Search" "yard" "LRampJam$Yard;") (by decide +kernel)) (fun _ h9 => h9) rfl dX0_addReachedFrom_46 ?_
          refine lv_iload_n hx hb dX0_addReachedFrom_49 rfl (lv_at hl 2 rfl) ?_
          refine lv_lload_n hx hb dX0_addReachedFrom_50 rfl (lv_at hl 3 rfl) ?_
          refine lv_iload hx hb dX0_addReachedFrom_51 (lv_at hl 4 rfl) ?_
          refine lv_iconst (v := (-1)) hx hb dX0_addReachedFrom_53 (by decide) ?_
          have hPc := hP.sub (ws' := [((a 6), .inr (1, [.ref (a 7), .ref (a 8), .ref (a 9), .ref (a 10), .int (nI (y_n Y)), .long (y_rp Y)])), ((a 7), .inl (cI, 9, .inl (y_sz Y))), ((a 8), .inl (cZ, 9, .inl (y_ac Y))), ((a 9), .inl (cI, 9, .inl (y_li Y))), ((a 10), .inl (cJ, 9, .inr (.inl (y_sh Y))))]) [5, 6, 7, 8, 9] rfl
          refine ro_i (va_runV (As := [.int (s_fo S o_g.toNatClampNeg), .long (y_fil Y (s_fo S o_g.toNatClampNeg) (y_n Y)), .int (nI k_g), .int (-1)]) (rest := [.int (-1), .int (nI k_g), .int o_g, .ref (a 1)]) ⟨hx, hb, hml, hown, hts⟩ ((c_X1_wayIn l G cI cZ cJ a _ Y (s_fo S o_g.toNatClampNeg) (y_fil Y (s_fo S o_g.toNatClampNeg) (y_n Y)) (nI k_g) (-1))) (cwV 4 hts gX0_addReachedFrom_X1_wayIn rfl rfl rfl (by decide +kernel) ⟨Nat.le_of_ble_eq_true rfl, Nat.le_of_ble_eq_true rfl⟩) ⟨ro_blind, va_recv hK hPc (ci := 1) (q0 := 0) rfl rfl, ro_pre hPc hK hN⟩ rfl rfl hl.1 rfl (lv_room (Nat.le_of_ble_eq_true rfl)) dX0_addReachedFrom_54 ⟨Nat.zero_le _, Nat.zero_le _⟩) hS hA hP (fun H locs hP hS => ?_)
          refine rw_v (wr := []) (ws' := [((a 1), .inr (0, [.ref (a 6), .ref (a 2), .ref (a 3), .ref (a 4), .ref (a 5), .int (s_fc (s_drv S_g o_g (nI k_g) (-1 : Int32) (y_way Y (s_fo S o_g.toNatClampNeg) (y_fil Y (s_fo S o_g.toNatClampNeg) (y_n Y)) (nI k_g) (-1)))), .int (s_fs (s_drv S_g o_g (nI k_g) (-1 : Int32) (y_way Y (s_fo S o_g.toNatClampNeg) (y_fil Y (s_fo S o_g.toNatClampNeg) (y_n Y)) (nI k_g) (-1)))), .int (s_sm (s_drv S_g o_g (nI k_g) (-1 : Int32) (y_way Y (s_fo S o_g.toNatClampNeg) (y_fil Y (s_fo S o_g.toNatClampNeg) (y_n Y)) (nI k_g) (-1)))), .int (s_sc (s_drv S_g o_g (nI k_g) (-1 : Int32) (y_way Y (s_fo S o_g.toNatClampNeg) (y_fil Y (s_fo S o_g.toNatClampNeg) (y_n Y)) (nI k_g) (-1)))), .int (s_sf (s_drv S_g o_g (nI k_g) (-1 : Int32) (y_way Y (s_fo S o_g.toNatClampNeg) (y_fil Y (s_fo S o_g.toNatClampNeg) (y_n Y)) (nI k_g) (-1))))])), ((a 2), .inl (cI, 800, .inl (s_fo (s_drv S_g o_g (nI k_g) (-1 : Int32) (y_way Y (s_fo S o_g.toNatClampNeg) (y_fil Y (s_fo S o_g.toNatClampNeg) (y_n Y)) (nI k_g) (-1)))))), ((a 3), .inl (cI, 800, .inl (s_or (s_drv S_g o_g (nI k_g) (-1 : Int32) (y_way Y (s_fo S o_g.toNatClampNeg) (y_fil Y (s_fo S o_g.toNatClampNeg) (y_n Y)) (nI k_g) (-1)))))), ((a 4), .inl (cI, 800, .inl (s_mo (s_drv S_g o_g (nI k_g) (-1 : Int32) (y_way Y (s_fo S o_g.toNatClampNeg) (y_fil Y (s_fo S o_g.toNatClampNeg) (y_n Y)) (nI k_g) (-1)))))), ((a 5), .inl (cI, 2048, .inl (s_sl (s_drv S_g o_g (nI k_g) (-1 : Int32) (y_way Y (s_fo S o_g.toNatClampNeg) (y_fil Y (s_fo S o_g.toNatClampNeg) (y_n Y)) (nI k_g) (-1)))))), ((a 6), .inr (1, [.ref (a 7), .ref (a 8), .ref (a 9), .ref (a 10), .int (nI (y_n Y)), .long (y_rp Y)])), ((a 7), .inl (cI, 9, .inl (y_sz Y))), ((a 8), .inl (cZ, 9, .inl (y_ac Y))), ((a 9), .inl (cI, 9, .inl (y_li Y))), ((a 10), .inl (cJ, 9, .inr (.inl (y_sh Y))))]) (va_runV (As := [.int o_g, .int (nI k_g), .int (-1), .int (y_way Y (s_fo S o_g.toNatClampNeg) (y_fil Y (s_fo S o_g.toNatClampNeg) (y_n Y)) (nI k_g) (-1))]) (rest := []) ⟨hx, hb, hml, hown, hts⟩ ((c_X0_addDriven l G cI cZ cJ a _ S_g Y o_g (nI k_g) (-1) (y_way Y (s_fo S o_g.toNatClampNeg) (y_fil Y (s_fo S o_g.toNatClampNeg) (y_n Y)) (nI k_g) (-1)))) (cwV 4 hts gX0_addReachedFrom_X0_addDriven rfl rfl rfl (by decide +kernel) ⟨Nat.le_of_ble_eq_true rfl, Nat.le_of_ble_eq_true rfl⟩) ⟨rw_blind, va_recv hK hP (ci := 0) (q0 := 0) rfl rfl, rw_pre hP hD hK hN⟩ rfl rfl hl.1 rfl (lv_room (Nat.le_of_ble_eq_true rfl)) dX0_addReachedFrom_57 ⟨Nat.zero_le _, Nat.zero_le _⟩) hS hA hP hD [0, 1, 2, 3, 4, 5, 6, 7, 8, 9] [] [0, 1, 2, 3, 4, 5, 6, 7, 8, 9] rfl rfl (by decide) (by decide) rfl (by decide) (fun H locs hP hD hS => ?_)
          refine lv_aload_n hx hb dX0_addReachedFrom_60 rfl (lv_at hl 0 rfl) ?_
          refine lv_iload_n hx hb dX0_addReachedFrom_61 rfl (lv_at hl 1 rfl) ?_
          refine lv_iload hx hb dX0_addReachedFrom_62 (lv_at hl 4 rfl) ?_
          refine lv_iconst (v := 1) hx hb dX0_addReachedFrom_64 (by decide) ?_
          refine lv_aload_n hx hb dX0_addReachedFrom_65 rfl (lv_at hl 0 rfl) ?_
          refine va_get (D := G) (ci := 0) (v := .ref (a 6)) (C := RX0) (T := TX0) (N := 10) hx hb hts in_X0_addReachedFrom_0 hown hK hP 0 rfl rfl 0 (by decide) (hts (.fieldLink RX0 24 "RampJam$Search" "yard" "LRampJam$Yard;") (by decide +kernel)) (fun _ h9 => h9) rfl dX0_addReachedFrom_66 ?_
          refine lv_iload_n hx hb dX0_addReachedFrom_69 rfl (lv_at hl 2 rfl) ?_
          refine lv_lload_n hx hb dX0_addReachedFrom_70 rfl (lv_at hl 3 rfl) ?_
          refine lv_iload hx hb dX0_addReachedFrom_71 (lv_at hl 4 rfl) ?_
          refine lv_iconst (v := 1) hx hb dX0_addReachedFrom_73 (by decide) ?_
          have hPc := hP.sub (ws' := [((a 6), .inr (1, [.ref (a 7), .ref (a 8), .ref (a 9), .ref (a 10), .int (nI (y_n Y)), .long (y_rp Y)])), ((a 7), .inl (cI, 9, .inl (y_sz Y))), ((a 8), .inl (cZ, 9, .inl (y_ac Y))), ((a 9), .inl (cI, 9, .inl (y_li Y))), ((a 10), .inl (cJ, 9, .inr (.inl (y_sh Y))))]) [5, 6, 7, 8, 9] rfl
          refine ro_i (va_runV (As := [.int (s_fo S o_g.toNatClampNeg), .long (y_fil Y (s_fo S o_g.toNatClampNeg) (y_n Y)), .int (nI k_g), .int 1]) (rest := [.int 1, .int (nI k_g), .int o_g, .ref (a 1)]) ⟨hx, hb, hml, hown, hts⟩ ((c_X1_wayIn l G cI cZ cJ a _ Y (s_fo S o_g.toNatClampNeg) (y_fil Y (s_fo S o_g.toNatClampNeg) (y_n Y)) (nI k_g) 1)) (cwV 4 hts gX0_addReachedFrom_X1_wayIn rfl rfl rfl (by decide +kernel) ⟨Nat.le_of_ble_eq_true rfl, Nat.le_of_ble_eq_true rfl⟩) ⟨ro_blind, va_recv hK hPc (ci := 1) (q0 := 0) rfl rfl, ro_pre hPc hK hN⟩ rfl rfl hl.1 rfl (lv_room (Nat.le_of_ble_eq_true rfl)) dX0_addReachedFrom_74 ⟨Nat.zero_le _, Nat.zero_le _⟩) hS hA hP (fun H locs hP hS => ?_)
          refine rw_v (wr := []) (ws' := [((a 1), .inr (0, [.ref (a 6), .ref (a 2), .ref (a 3), .ref (a 4), .ref (a 5), .int (s_fc (s_drv (s_drv S_g o_g (nI k_g) (-1 : Int32) (y_way Y (s_fo S o_g.toNatClampNeg) (y_fil Y (s_fo S o_g.toNatClampNeg) (y_n Y)) (nI k_g) (-1))) o_g (nI k_g) (1 : Int32) (y_way Y (s_fo S o_g.toNatClampNeg) (y_fil Y (s_fo S o_g.toNatClampNeg) (y_n Y)) (nI k_g) 1))), .int (s_fs (s_drv (s_drv S_g o_g (nI k_g) (-1 : Int32) (y_way Y (s_fo S o_g.toNatClampNeg) (y_fil Y (s_fo S o_g.toNatClampNeg) (y_n Y)) (nI k_g) (-1))) o_g (nI k_g) (1 : Int32) (y_way Y (s_fo S o_g.toNatClampNeg) (y_fil Y (s_fo S o_g.toNatClampNeg) (y_n Y)) (nI k_g) 1))), .int (s_sm (s_drv (s_drv S_g o_g (nI k_g) (-1 : Int32) (y_way Y (s_fo S o_g.toNatClampNeg) (y_fil Y (s_fo S o_g.toNatClampNeg) (y_n Y)) (nI k_g) (-1))) o_g (nI k_g) (1 : Int32) (y_way Y (s_fo S o_g.toNatClampNeg) (y_fil Y (s_fo S o_g.toNatClampNeg) (y_n Y)) (nI k_g) 1))), .int (s_sc (s_drv (s_drv S_g o_g (nI k_g) (-1 : Int32) (y_way Y (s_fo S o_g.toNatClampNeg) (y_fil Y (s_fo S o_g.toNatClampNeg) (y_n Y)) (nI k_g) (-1))) o_g (nI k_g) (1 : Int32) (y_way Y (s_fo S o_g.toNatClampNeg) (y_fil Y (s_fo S o_g.toNatClampNeg) (y_n Y)) (nI k_g) 1))), .int (s_sf (s_drv (s_drv S_g o_g (nI k_g) (-1 : Int32) (y_way Y (s_fo S o_g.toNatClampNeg) (y_fil Y (s_fo S o_g.toNatClampNeg) (y_n Y)) (nI k_g) (-1))) o_g (nI k_g) (1 : Int32) (y_way Y (s_fo S o_g.toNatClampNeg) (y_fil Y (s_fo S o_g.toNatClampNeg) (y_n Y)) (nI k_g) 1)))])), ((a 2), .inl (cI, 800, .inl (s_fo (s_drv (s_drv S_g o_g (nI k_g) (-1 : Int32) (y_way Y (s_fo S o_g.toNatClampNeg) (y_fil Y (s_fo S o_g.toNatClampNeg) (y_n Y)) (nI k_g) (-1))) o_g (nI k_g) (1 : Int32) (y_way Y (s_fo S o_g.toNatClampNeg) (y_fil Y (s_fo S o_g.toNatClampNeg) (y_n Y)) (nI k_g) 1))))), ((a 3), .inl (cI, 800, .inl (s_or (s_drv (s_drv S_g o_g (nI k_g) (-1 : Int32) (y_way Y (s_fo S o_g.toNatClampNeg) (y_fil Y (s_fo S o_g.toNatClampNeg) (y_n Y)) (nI k_g) (-1))) o_g (nI k_g) (1 : Int32) (y_way Y (s_fo S o_g.toNatClampNeg) (y_fil Y (s_fo S o_g.toNatClampNeg) (y_n Y)) (nI k_g) 1))))), ((a 4), .inl (cI, 800, .inl (s_mo (s_drv (s_drv S_g o_g (nI k_g) (-1 : Int32) (y_way Y (s_fo S o_g.toNatClampNeg) (y_fil Y (s_fo S o_g.toNatClampNeg) (y_n Y)) (nI k_g) (-1))) o_g (nI k_g) (1 : Int32) (y_way Y (s_fo S o_g.toNatClampNeg) (y_fil Y (s_fo S o_g.toNatClampNeg) (y_n Y)) (nI k_g) 1))))), ((a 5), .inl (cI, 2048, .inl (s_sl (s_drv (s_drv S_g o_g (nI k_g) (-1 : Int32) (y_way Y (s_fo S o_g.toNatClampNeg) (y_fil Y (s_fo S o_g.toNatClampNeg) (y_n Y)) (nI k_g) (-1))) o_g (nI k_g) (1 : Int32) (y_way Y (s_fo S o_g.toNatClampNeg) (y_fil Y (s_fo S o_g.toNatClampNeg) (y_n Y)) (nI k_g) 1))))), ((a 6), .inr (1, [.ref (a 7), .ref (a 8), .ref (a 9), .ref (a 10), .int (nI (y_n Y)), .long (y_rp Y)])), ((a 7), .inl (cI, 9, .inl (y_sz Y))), ((a 8), .inl (cZ, 9, .inl (y_ac Y))), ((a 9), .inl (cI, 9, .inl (y_li Y))), ((a 10), .inl (cJ, 9, .inr (.inl (y_sh Y))))]) (va_runV (As := [.int o_g, .int (nI k_g), .int 1, .int (y_way Y (s_fo S o_g.toNatClampNeg) (y_fil Y (s_fo S o_g.toNatClampNeg) (y_n Y)) (nI k_g) 1)]) (rest := []) ⟨hx, hb, hml, hown, hts⟩ ((c_X0_addDriven l G cI cZ cJ a _ (s_drv S_g o_g (nI k_g) (-1 : Int32) (y_way Y (s_fo S o_g.toNatClampNeg) (y_fil Y (s_fo S o_g.toNatClampNeg) (y_n Y)) (nI k_g) (-1))) Y o_g (nI k_g) 1 (y_way Y (s_fo S o_g.toNatClampNeg) (y_fil Y (s_fo S o_g.toNatClampNeg) (y_n Y)) (nI k_g) 1))) (cwV 4 hts gX0_addReachedFrom_X0_addDriven rfl rfl rfl (by decide +kernel) ⟨Nat.le_of_ble_eq_true rfl, Nat.le_of_ble_eq_true rfl⟩) ⟨rw_blind, va_recv hK hP (ci := 0) (q0 := 0) rfl rfl, rw_pre hP hD hK hN⟩ rfl rfl hl.1 rfl (lv_room (Nat.le_of_ble_eq_true rfl)) dX0_addReachedFrom_77 ⟨Nat.zero_le _, Nat.zero_le _⟩) hS hA hP hD [0, 1, 2, 3, 4, 5, 6, 7, 8, 9] [] [0, 1, 2, 3, 4, 5, 6, 7, 8, 9] rfl rfl (by decide) (by decide) rfl (by decide) (fun H locs hP hD hS => ?_)
          refine lv_iinc (v := (nI (k_g + 1))) (lv' := [(5, .int (nI (k_g + 1))), (0, .ref (a 1)), (1, .int o_g), (2, .int (s_fo S o_g.toNatClampNeg)), (3, .long (y_fil Y (s_fo S o_g.toNatClampNeg) (y_n Y)))]) hx hb dX0_addReachedFrom_80 hl (k := 4) rfl (nI_1 _) (by decide) rfl (fun ls hl => ?_)
          refine lv_goto (tgt := 28) hx hb dX0_addReachedFrom_83 (by decide) ?_
          exact ih_28 (k_g + 1) (s_drv (s_drv S_g o_g (nI k_g) (-1 : Int32) (y_way Y (s_fo S o_g.toNatClampNeg) (y_fil Y (s_fo S o_g.toNatClampNeg) (y_n Y)) (nI k_g) (-1))) o_g (nI k_g) (1 : Int32) (y_way Y (s_fo S o_g.toNatClampNeg) (y_fil Y (s_fo S o_g.toNatClampNeg) (y_n Y)) (nI k_g) 1)) (hlt) (by omega) (by rw [← hI, s_reachL_in hlt]) _ _ hP hD hS _ (lv_sub hl [1, 2, 3, 4, 0] rfl)
    exact cut_28 (y_n Y + 1) 0 S (Nat.zero_le _) (by omega) (rfl) _ _ hP hD hS _ (lv_sub hl [3, 4, 2, 1, 0] rfl)
  · have c_1 := b1_f c_1
    have hP9 := hP
    have hD9 := hD
    exact W.vret hx hb hr (fun t ht hW => ⟨⟨S, rfl, by rw [s_reach, if_neg c_1], by rw [ht]; exact hP9, hD9⟩, hS.F ht⟩) hS.2.2 dX0_addReachedFrom_8

theorem in_X0_traceWay_0 : ∀ w ∈ wsX00, w ∈ wsX0_traceWay := by decide +kernel
set_option maxHeartbeats 4000000 in
set_option maxRecDepth 100000 in
/-- Search.traceWay -/
theorem c_X0_traceWay (l : Launch) (G : va_G) (cI cZ cJ : ClassId) (a : Nat → Nat) (sz : Nat) (S : SS) (Y : YS)  : Met l yX0_traceWay wsX0_traceWay ({ frames := 1, cells := 0, slots := 0, locals := 21 }) (rw_Pc G [(cI, .int), (cZ, .boolean), (cJ, .long)] (wS cI cZ cJ a S Y) sz [.ref (a 1)]) (rw_Qv (S := SS) (s_trace S) (fun u : SS => wS cI cZ cJ a u Y) G (wS cI cZ cJ a S Y) sz) 0 0 (va_A (wS cI cZ cJ a S Y) sz) := by
  refine Met.ofW (cc := cX0_traceWay) (maxL := 3) (ret := none) (by decide) rfl ?_
  intro p e s m args below meth c s₁ B hml hv
  obtain ⟨rfl, hsz, hP, hK, hD0, hN⟩ := hv
  have hx := B.exec
  have hb := B.bytes
  have hr := B.returns
  have hts := atoms_spec (ws := wsX0_traceWay) B.pre
  have hown : s.vm.findClass RX0 = some m.cls := findClass_of_methodNamed B.named
  have hlocks := B.notSynchronized
  subst hsz
  have hD0 : va_D (fun _ => True) [((a 1), .inr (0, [.ref (a 6), .ref (a 2), .ref (a 3), .ref (a 4), .ref (a 5), .int (s_fc S), .int (s_fs S), .int (s_sm S), .int (s_sc S), .int (s_sf S)])), ((a 2), .inl (cI, 800, .inl (s_fo S))), ((a 3), .inl (cI, 800, .inl (s_or S))), ((a 4), .inl (cI, 800, .inl (s_mo S))), ((a 5), .inl (cI, 2048, .inl (s_sl S))), ((a 6), .inr (1, [.ref (a 7), .ref (a 8), .ref (a 9), .ref (a 10), .int (nI (y_n Y)), .long (y_rp Y)])), ((a 7), .inl (cI, 9, .inl (y_sz Y))), ((a 8), .inl (cZ, 9, .inl (y_ac Y))), ((a 9), .inl (cI, 9, .inl (y_li Y))), ((a 10), .inl (cJ, 9, .inr (.inl (y_sh Y))))] := hD0
  have hD := hD0.self (sz := s.heap.size)
  unfold rw_Qv
  generalize hAe : va_A (wS cI cZ cJ a S Y) s.heap.size = A at hD ⊢
  have hA : ∀ q : Nat, s.heap.size ≤ q → A q := fun q h => by rw [← hAe]; exact Or.inr h
  have hS : va_S A s.heap s.heap [] := va_S.rf
  have hP : va_P G vwCl [((a 1), .inr (0, [.ref (a 6), .ref (a 2), .ref (a 3), .ref (a 4), .ref (a 5), .int (s_fc S), .int (s_fs S), .int (s_sm S), .int (s_sc S), .int (s_sf S)])), ((a 2), .inl (cI, 800, .inl (s_fo S))), ((a 3), .inl (cI, 800, .inl (s_or S))), ((a 4), .inl (cI, 800, .inl (s_mo S))), ((a 5), .inl (cI, 2048, .inl (s_sl S))), ((a 6), .inr (1, [.ref (a 7), .ref (a 8), .ref (a 9), .ref (a 10), .int (nI (y_n Y)), .long (y_rp Y)])), ((a 7), .inl (cI, 9, .inl (y_sz Y))), ((a 8), .inl (cZ, 9, .inl (y_ac Y))), ((a 9), .inl (cI, 9, .inl (y_li Y))), ((a 10), .inl (cJ, 9, .inr (.inl (y_sh Y))))] s.heap := hP
  have hl := lv_entry ([.ref (a 1)]) (n := 3) (Nat.le_of_ble_eq_true rfl)
  rw [lg_entry_eq]
  generalize (lg_sl ([.ref (a 1)]) ++ List.replicate (3 - (lg_sl ([.ref (a 1)])).length) Slot.unset).toArray = ls at hl ⊢
  have hl : lv_has ls 3 [(0, .ref (a 1))] := hl
  refine lv_aload_n hx hb dX0_traceWay_0 rfl (lv_at hl 0 rfl) ?_
  have cut_14 : ∀ (q_g : Int32), (q_g = if s_fs S = -1 then -1 else 0) → ∀ (H : Heap) (locs : List Loc), va_P G vwCl [((a 1), .inr (0, [.ref (a 6), .ref (a 2), .ref (a 3), .ref (a 4), .ref (a 5), .int (s_fc S), .int (s_fs S), .int (s_sm S), .int (s_sc S), .int (s_sf S)])), ((a 2), .inl (cI, 800, .inl (s_fo S))), ((a 3), .inl (cI, 800, .inl (s_or S))), ((a 4), .inl (cI, 800, .inl (s_mo S))), ((a 5), .inl (cI, 2048, .inl (s_sl S))), ((a 6), .inr (1, [.ref (a 7), .ref (a 8), .ref (a 9), .ref (a 10), .int (nI (y_n Y)), .long (y_rp Y)])), ((a 7), .inl (cI, 9, .inl (y_sz Y))), ((a 8), .inl (cZ, 9, .inl (y_ac Y))), ((a 9), .inl (cI, 9, .inl (y_li Y))), ((a 10), .inl (cJ, 9, .inr (.inl (y_sh Y))))] H → va_D A [((a 1), .inr (0, [.ref (a 6), .ref (a 2), .ref (a 3), .ref (a 4), .ref (a 5), .int (s_fc S), .int (s_fs S), .int (s_sm S), .int (s_sc S), .int (s_sf S)])), ((a 2), .inl (cI, 800, .inl (s_fo S))), ((a 3), .inl (cI, 800, .inl (s_or S))), ((a 4), .inl (cI, 800, .inl (s_mo S))), ((a 5), .inl (cI, 2048, .inl (s_sl S))), ((a 6), .inr (1, [.ref (a 7), .ref (a 8), .ref (a 9), .ref (a 10), .int (nI (y_n Y)), .long (y_rp Y)])), ((a 7), .inl (cI, 9, .inl (y_sz Y))), ((a 8), .inl (cZ, 9, .inl (y_ac Y))), ((a 9), .inl (cI, 9, .inl (y_li Y))), ((a 10), .inl (cJ, 9, .inr (.inl (y_sh Y))))] → va_S A s.heap H locs → ∀ (ls : Array Slot), lv_has ls 3 [(0, .ref (a 1))] → W p l e (headSpec wsX0_traceWay ({ frames := 1, cells := 0, slots := 0, locals := 21 })).room s m ([.ref (a 1)] : List Value).toArray below meth c H locs 0 0 (MQ below (va_Qv (fun u : SS => u = (s_trace S)) (fun (u : SS) (t : State) => va_P G vwCl ((fun u : SS => wS cI cZ cJ a u Y) u) t.heap ∧ va_D A ((fun u : SS => wS cI cZ cJ a u Y) u)) A) ([.ref (a 1)] : List Value).toArray s 0 0 A) (F0 m 14 ls [.int q_g, .ref (a 1)]) := by
    intro q_g eq_g H locs hP hD hS ls hl
    subst eq_g
    try have hl : lv_has ls 3 [(0, .ref (a 1))] := hl
    refine va_put (D := G) (ci := 0) (v := .int (if s_fs S = -1 then -1 else 0)) (ty := .int) (C := RX0) (T := TX0) (N := 10) hx hb hts in_X0_traceWay_0 tyX0 tyX0_ok nmX0 hown hK hP hD hS 0 rfl rfl 7 (by decide) (hts (.fieldLink RX0 52 "RampJam$Search" "solvedMoves" "I") (by decide +kernel)) (fun _ h9 => h9) rfl (by decide +kernel) rfl rfl (Nat.le_of_ble_eq_true rfl) dX0_traceWay_14 (fun H locs hP hD hS => ?_)
    have hP : va_P G vwCl [((a 1), .inr (0, [.ref (a 6), .ref (a 2), .ref (a 3), .ref (a 4), .ref (a 5), .int (s_fc S), .int (s_fs S), .int (if s_fs S = -1 then -1 else 0), .int (s_sc S), .int (s_sf S)])), ((a 2), .inl (cI, 800, .inl (s_fo S))), ((a 3), .inl (cI, 800, .inl (s_or S))), ((a 4), .inl (cI, 800, .inl (s_mo S))), ((a 5), .inl (cI, 2048, .inl (s_sl S))), ((a 6), .inr (1, [.ref (a 7), .ref (a 8), .ref (a 9), .ref (a 10), .int (nI (y_n Y)), .long (y_rp Y)])), ((a 7), .inl (cI, 9, .inl (y_sz Y))), ((a 8), .inl (cZ, 9, .inl (y_ac Y))), ((a 9), .inl (cI, 9, .inl (y_li Y))), ((a 10), .inl (cJ, 9, .inr (.inl (y_sh Y))))] H := hP
    have hD : va_D A [((a 1), .inr (0, [.ref (a 6), .ref (a 2), .ref (a 3), .ref (a 4), .ref (a 5), .int (s_fc S), .int (s_fs S), .int (if s_fs S = -1 then -1 else 0), .int (s_sc S), .int (s_sf S)])), ((a 2), .inl (cI, 800, .inl (s_fo S))), ((a 3), .inl (cI, 800, .inl (s_or S))), ((a 4), .inl (cI, 800, .inl (s_mo S))), ((a 5), .inl (cI, 2048, .inl (s_sl S))), ((a 6), .inr (1, [.ref (a 7), .ref (a 8), .ref (a 9), .ref (a 10), .int (nI (y_n Y)), .long (y_rp Y)])), ((a 7), .inl (cI, 9, .inl (y_sz Y))), ((a 8), .inl (cZ, 9, .inl (y_ac Y))), ((a 9), .inl (cI, 9, .inl (y_li Y))), ((a 10), .inl (cJ, 9, .inr (.inl (y_sh Y))))] := hD
    refine lv_aload_n hx hb dX0_traceWay_17 rfl (lv_at hl 0 rfl) ?_
    refine lv_iconst (v := 0) hx hb dX0_traceWay_18 (by decide) ?_
    refine va_put (D := G) (ci := 0) (v := .int 0) (ty := .int) (C := RX0) (T := TX0) (N := 10) hx hb hts in_X0_traceWay_0 tyX0 tyX0_ok nmX0 hown hK hP hD hS 0 rfl rfl 8 (by decide) (hts (.fieldLink RX0 55 "RampJam$Search" "solvedCells" "I") (by decide +kernel)) (fun _ h9 => h9) rfl (by decide +kernel) rfl rfl (Nat.le_of_ble_eq_true rfl) dX0_traceWay_19 (fun H locs hP hD hS => ?_)
    have hP : va_P G vwCl [((a 1), .inr (0, [.ref (a 6), .ref (a 2), .ref (a 3), .ref (a 4), .ref (a 5), .int (s_fc S), .int (s_fs S), .int (if s_fs S = -1 then -1 else 0), .int 0, .int (s_sf S)])), ((a 2), .inl (cI, 800, .inl (s_fo S))), ((a 3), .inl (cI, 800, .inl (s_or S))), ((a 4), .inl (cI, 800, .inl (s_mo S))), ((a 5), .inl (cI, 2048, .inl (s_sl S))), ((a 6), .inr (1, [.ref (a 7), .ref (a 8), .ref (a 9), .ref (a 10), .int (nI (y_n Y)), .long (y_rp Y)])), ((a 7), .inl (cI, 9, .inl (y_sz Y))), ((a 8), .inl (cZ, 9, .inl (y_ac Y))), ((a 9), .inl (cI, 9, .inl (y_li Y))), ((a 10), .inl (cJ, 9, .inr (.inl (y_sh Y))))] H := hP
    have hD : va_D A [((a 1), .inr (0, [.ref (a 6), .ref (a 2), .ref (a 3), .ref (a 4), .ref (a 5), .int (s_fc S), .int (s_fs S), .int (if s_fs S = -1 then -1 else 0), .int 0, .int (s_sf S)])), ((a 2), .inl (cI, 800, .inl (s_fo S))), ((a 3), .inl (cI, 800, .inl (s_or S))), ((a 4), .inl (cI, 800, .inl (s_mo S))), ((a 5), .inl (cI, 2048, .inl (s_sl S))), ((a 6), .inr (1, [.ref (a 7), .ref (a 8), .ref (a 9), .ref (a 10), .int (nI (y_n Y)), .long (y_rp Y)])), ((a 7), .inl (cI, 9, .inl (y_sz Y))), ((a 8), .inl (cZ, 9, .inl (y_ac Y))), ((a 9), .inl (cI, 9, .inl (y_li Y))), ((a 10), .inl (cJ, 9, .inr (.inl (y_sh Y))))] := hD
    refine lv_aload_n hx hb dX0_traceWay_22 rfl (lv_at hl 0 rfl) ?_
    refine lv_iconst (v := (-1)) hx hb dX0_traceWay_23 (by decide) ?_
    refine va_put (D := G) (ci := 0) (v := .int (-1)) (ty := .int) (C := RX0) (T := TX0) (N := 10) hx hb hts in_X0_traceWay_0 tyX0 tyX0_ok nmX0 hown hK hP hD hS 0 rfl rfl 9 (by decide) (hts (.fieldLink RX0 58 "RampJam$Search" "solvedFirstMove" "I") (by decide +kernel)) (fun _ h9 => h9) rfl (by decide +kernel) rfl rfl (Nat.le_of_ble_eq_true rfl) dX0_traceWay_24 (fun H locs hP hD hS => ?_)
    have hP : va_P G vwCl [((a 1), .inr (0, [.ref (a 6), .ref (a 2), .ref (a 3), .ref (a 4), .ref (a 5), .int (s_fc S), .int (s_fs S), .int (if s_fs S = -1 then -1 else 0), .int 0, .int (-1)])), ((a 2), .inl (cI, 800, .inl (s_fo S))), ((a 3), .inl (cI, 800, .inl (s_or S))), ((a 4), .inl (cI, 800, .inl (s_mo S))), ((a 5), .inl (cI, 2048, .inl (s_sl S))), ((a 6), .inr (1, [.ref (a 7), .ref (a 8), .ref (a 9), .ref (a 10), .int (nI (y_n Y)), .long (y_rp Y)])), ((a 7), .inl (cI, 9, .inl (y_sz Y))), ((a 8), .inl (cZ, 9, .inl (y_ac Y))), ((a 9), .inl (cI, 9, .inl (y_li Y))), ((a 10), .inl (cJ, 9, .inr (.inl (y_sh Y))))] H := hP
    have hD : va_D A [((a 1), .inr (0, [.ref (a 6), .ref (a 2), .ref (a 3), .ref (a 4), .ref (a 5), .int (s_fc S), .int (s_fs S), .int (if s_fs S = -1 then -1 else 0), .int 0, .int (-1)])), ((a 2), .inl (cI, 800, .inl (s_fo S))), ((a 3), .inl (cI, 800, .inl (s_or S))), ((a 4), .inl (cI, 800, .inl (s_mo S))), ((a 5), .inl (cI, 2048, .inl (s_sl S))), ((a 6), .inr (1, [.ref (a 7), .ref (a 8), .ref (a 9), .ref (a 10), .int (nI (y_n Y)), .long (y_rp Y)])), ((a 7), .inl (cI, 9, .inl (y_sz Y))), ((a 8), .inl (cZ, 9, .inl (y_ac Y))), ((a 9), .inl (cI, 9, .inl (y_li Y))), ((a 10), .inl (cJ, 9, .inr (.inl (y_sh Y))))] := hD
    refine lv_aload_n hx hb dX0_traceWay_27 rfl (lv_at hl 0 rfl) ?_
    refine va_get (D := G) (ci := 0) (v := .int (s_fs S)) (C := RX0) (T := TX0) (N := 10) hx hb hts in_X0_traceWay_0 hown hK hP 0 rfl rfl 6 (by decide) (hts (.fieldLink RX0 38 "RampJam$Search" "firstSolved" "I") (by decide +kernel)) (fun _ h9 => h9) rfl dX0_traceWay_28 ?_
    refine lv_istore_n (lv' := [(1, .int (s_fs S)), (0, .ref (a 1))]) hx hb dX0_traceWay_31 rfl hl (by decide) rfl (fun ls hl => ?_)
    refine lv_iconst (v := 1) hx hb dX0_traceWay_32 (by decide) ?_
    refine lv_istore_n (lv' := [(2, .int 1), (1, .int (s_fs S)), (0, .ref (a 1))]) hx hb dX0_traceWay_33 rfl hl (by decide) rfl (fun ls hl => ?_)
    have cut_34 : ∀ (d : Nat) (k_g : Nat) (j_g : Int32) (S_g : SS), k_g ≤ 800 → 800 + 1 ≤ k_g + d → (s_trL (800 - k_g) k_g j_g S_g = s_trL 799 1 (s_fs S) (s_tr0 S)) → ∀ (H : Heap) (locs : List Loc), va_P G vwCl [((a 1), .inr (0, [.ref (a 6), .ref (a 2), .ref (a 3), .ref (a 4), .ref (a 5), .int (s_fc S_g), .int (s_fs S_g), .int (s_sm S_g), .int (s_sc S_g), .int (s_sf S_g)])), ((a 2), .inl (cI, 800, .inl (s_fo S_g))), ((a 3), .inl (cI, 800, .inl (s_or S_g))), ((a 4), .inl (cI, 800, .inl (s_mo S_g))), ((a 5), .inl (cI, 2048, .inl (s_sl S_g))), ((a 6), .inr (1, [.ref (a 7), .ref (a 8), .ref (a 9), .ref (a 10), .int (nI (y_n Y)), .long (y_rp Y)])), ((a 7), .inl (cI, 9, .inl (y_sz Y))), ((a 8), .inl (cZ, 9, .inl (y_ac Y))), ((a 9), .inl (cI, 9, .inl (y_li Y))), ((a 10), .inl (cJ, 9, .inr (.inl (y_sh Y))))] H → va_D A [((a 1), .inr (0, [.ref (a 6), .ref (a 2), .ref (a 3), .ref (a 4), .ref (a 5), .int (s_fc S_g), .int (s_fs S_g), .int (s_sm S_g), .int (s_sc S_g), .int (s_sf S_g)])), ((a 2), .inl (cI, 800, .inl (s_fo S_g))), ((a 3), .inl (cI, 800, .inl (s_or S_g))), ((a 4), .inl (cI, 800, .inl (s_mo S_g))), ((a 5), .inl (cI, 2048, .inl (s_sl S_g))), ((a 6), .inr (1, [.ref (a 7), .ref (a 8), .ref (a 9), .ref (a 10), .int (nI (y_n Y)), .long (y_rp Y)])), ((a 7), .inl (cI, 9, .inl (y_sz Y))), ((a 8), .inl (cZ, 9, .inl (y_ac Y))), ((a 9), .inl (cI, 9, .inl (y_li Y))), ((a 10), .inl (cJ, 9, .inr (.inl (y_sh Y))))] → va_S A s.heap H locs → ∀ (ls : Array Slot), lv_has ls 3 [(0, .ref (a 1)), (1, .int j_g), (2, .int (nI k_g))] → W p l e (headSpec wsX0_traceWay ({ frames := 1, cells := 0, slots := 0, locals := 21 })).room s m ([.ref (a 1)] : List Value).toArray below meth c H locs 0 0 (MQ below (va_Qv (fun u : SS => u = (s_trace S)) (fun (u : SS) (t : State) => va_P G vwCl ((fun u : SS => wS cI cZ cJ a u Y) u) t.heap ∧ va_D A ((fun u : SS => wS cI cZ cJ a u Y) u)) A) ([.ref (a 1)] : List Value).toArray s 0 0 A) (F0 m 34 ls []) := by
      intro d
      induction d with
      | zero =>
        intro k_g j_g S_g hk_34 hd_34
        exact absurd hd_34 (by omega)
      | succ d ih_34 =>
        intro k_g j_g S_g hk_34 hd_34 hI H locs hP hD hS ls hl
        refine lv_iload_n hx hb dX0_traceWay_34 rfl (lv_at hl 2 rfl) ?_
        refine lv_sipush (v := 800) hx hb dX0_traceWay_35 (by decide) ?_
        refine lv_icmp_ge (tgt := 102) hx hb dX0_traceWay_38 (by decide) (fun c_1 => ?_) (fun c_1 => ?_)
        · have hk8 := nx_ge (n := 800) (by omega) (by omega) c_1
          have hres : S_g = s_trL (800 - k_g) k_g j_g S_g := by rw [show 800 - k_g = 0 by omega]; rfl
          have hP9 := hP
          have hD9 := hD
          exact W.vret hx hb hr (fun t ht hW => ⟨⟨S_g, rfl, by rw [s_trace, ← hI]; exact hres, by rw [ht]; exact hP9, hD9⟩, hS.F ht⟩) hS.2.2 dX0_traceWay_102
        · have hlt : k_g < 800 := nx_lt (n := 800) (by omega) (by omega) c_1
          refine lv_iload_n hx hb dX0_traceWay_41 rfl (lv_at hl 1 rfl) ?_
          refine lv_if_le (tgt := 102) hx hb dX0_traceWay_42 (by decide) (fun c_2 => ?_) (fun c_2 => ?_)
          · have hres : S_g = s_trL (800 - k_g) k_g j_g S_g := by rw [s_trL_in hlt, if_neg (fun h => h.1 c_2)]
            have hP9 := hP
            have hD9 := hD
            exact W.vret hx hb hr (fun t ht hW => ⟨⟨S_g, rfl, by rw [s_trace, ← hI]; exact hres, by rw [ht]; exact hP9, hD9⟩, hS.F ht⟩) hS.2.2 dX0_traceWay_102
          · have hj := c_2
            refine lv_aload_n hx hb dX0_traceWay_45 rfl (lv_at hl 0 rfl) ?_
            refine lv_iload_n hx hb dX0_traceWay_46 rfl (lv_at hl 1 rfl) ?_
            refine ro_i (va_runV (As := [.int j_g]) (rest := []) ⟨hx, hb, hml, hown, hts⟩ ((c_X0_isFound l G cI cZ cJ a _ S_g Y j_g)) (cwV 1 hts gX0_traceWay_X0_isFound rfl rfl rfl (by decide +kernel) ⟨Nat.le_of_ble_eq_true rfl, Nat.le_of_ble_eq_true rfl⟩) ⟨ro_blind, va_recv hK hP (ci := 0) (q0 := 0) rfl rfl, ro_pre hP hK hN⟩ rfl rfl hl.1 rfl (lv_room (Nat.le_of_ble_eq_true rfl)) dX0_traceWay_47 ⟨Nat.zero_le _, Nat.zero_le _⟩) hS hA hP (fun H locs hP hS => ?_)
            refine lv_if_eq (tgt := 102) hx hb dX0_traceWay_50 (by decide) (fun c_3 => ?_) (fun c_3 => ?_)
            · have c_3 := b1_f c_3
              have hres : S_g = s_trL (800 - k_g) k_g j_g S_g := by rw [s_trL_in hlt, if_neg (fun h => c_3 h.2)]
              have hP9 := hP
              have hD9 := hD
              exact W.vret hx hb hr (fun t ht hW => ⟨⟨S_g, rfl, by rw [s_trace, ← hI]; exact hres, by rw [ht]; exact hP9, hD9⟩, hS.F ht⟩) hS.2.2 dX0_traceWay_102
            · have c_3 := b1_t c_3
              have hf := c_3
              refine lv_aload_n hx hb dX0_traceWay_53 rfl (lv_at hl 0 rfl) ?_
              refine lv_iload_n hx hb dX0_traceWay_54 rfl (lv_at hl 2 rfl) ?_
              refine va_put (D := G) (ci := 0) (v := .int (nI k_g)) (ty := .int) (C := RX0) (T := TX0) (N := 10) hx hb hts in_X0_traceWay_0 tyX0 tyX0_ok nmX0 hown hK hP hD hS 0 rfl rfl 7 (by decide) (hts (.fieldLink RX0 52 "RampJam$Search" "solvedMoves" "I") (by decide +kernel)) (fun _ h9 => h9) rfl (by decide +kernel) rfl rfl (Nat.le_of_ble_eq_true rfl) dX0_traceWay_55 (fun H locs hP hD hS => ?_)
              have hP : va_P G vwCl [((a 1), .inr (0, [.ref (a 6), .ref (a 2), .ref (a 3), .ref (a 4), .ref (a 5), .int (s_fc S_g), .int (s_fs S_g), .int (nI k_g), .int (s_sc S_g), .int (s_sf S_g)])), ((a 2), .inl (cI, 800, .inl (s_fo S_g))), ((a 3), .inl (cI, 800, .inl (s_or S_g))), ((a 4), .inl (cI, 800, .inl (s_mo S_g))), ((a 5), .inl (cI, 2048, .inl (s_sl S_g))), ((a 6), .inr (1, [.ref (a 7), .ref (a 8), .ref (a 9), .ref (a 10), .int (nI (y_n Y)), .long (y_rp Y)])), ((a 7), .inl (cI, 9, .inl (y_sz Y))), ((a 8), .inl (cZ, 9, .inl (y_ac Y))), ((a 9), .inl (cI, 9, .inl (y_li Y))), ((a 10), .inl (cJ, 9, .inr (.inl (y_sh Y))))] H := hP
              have hD : va_D A [((a 1), .inr (0, [.ref (a 6), .ref (a 2), .ref (a 3), .ref (a 4), .ref (a 5), .int (s_fc S_g), .int (s_fs S_g), .int (nI k_g), .int (s_sc S_g), .int (s_sf S_g)])), ((a 2), .inl (cI, 800, .inl (s_fo S_g))), ((a 3), .inl (cI, 800, .inl (s_or S_g))), ((a 4), .inl (cI, 800, .inl (s_mo S_g))), ((a 5), .inl (cI, 2048, .inl (s_sl S_g))), ((a 6), .inr (1, [.ref (a 7), .ref (a 8), .ref (a 9), .ref (a 10), .int (nI (y_n Y)), .long (y_rp Y)])), ((a 7), .inl (cI, 9, .inl (y_sz Y))), ((a 8), .inl (cZ, 9, .inl (y_ac Y))), ((a 9), .inl (cI, 9, .inl (y_li Y))), ((a 10), .inl (cJ, 9, .inr (.inl (y_sh Y))))] := hD
              refine lv_aload_n hx hb dX0_traceWay_58 rfl (lv_at hl 0 rfl) ?_
              refine lv_dup hx hb dX0_traceWay_59 rfl ?_
              refine va_get (D := G) (ci := 0) (v := .int (s_sc S_g)) (C := RX0) (T := TX0) (N := 10) hx hb hts in_X0_traceWay_0 hown hK hP 0 rfl rfl 8 (by decide) (hts (.fieldLink RX0 55 "RampJam$Search" "solvedCells" "I") (by decide +kernel)) (fun _ h9 => h9) rfl dX0_traceWay_60 ?_
              refine lv_aload_n hx hb dX0_traceWay_63 rfl (lv_at hl 0 rfl) ?_
              refine va_get (D := G) (ci := 0) (v := .ref (a 4)) (C := RX0) (T := TX0) (N := 10) hx hb hts in_X0_traceWay_0 hown hK hP 0 rfl rfl 3 (by decide) (hts (.fieldLink RX0 18 "RampJam$Search" "moveCodes" "[I") (by decide +kernel)) (fun _ h9 => h9) rfl dX0_traceWay_64 ?_
              refine lv_iload_n hx hb dX0_traceWay_67 rfl (lv_at hl 1 rfl) ?_
              refine va_iald hx hb hK hP 3 0 rfl rfl (s_isF_in (by assumption)) dX0_traceWay_68 ?_
              refine ro_i (va_runS (As := [.int ((s_mo S_g) (j_g.toNatClampNeg))]) (rest := [.int (s_sc S_g), .ref (a 1)]) ⟨hx, hb, hml, hown, hts⟩ ((c_X0_cellsOfMove l G cI cZ cJ a _ ((s_mo S_g) (j_g.toNatClampNeg)))) (va_cwS 1 hts gX0_traceWay_X0_cellsOfMove rfl rfl rfl (by decide +kernel) ⟨Nat.le_of_ble_eq_true rfl, Nat.le_of_ble_eq_true rfl⟩) ⟨ro_blind, ro_pre va_P0 hK hN⟩ rfl rfl hl.1 rfl (lv_room (Nat.le_of_ble_eq_true rfl)) dX0_traceWay_69 ⟨Nat.zero_le _, Nat.zero_le _⟩) hS hA hP (fun H locs hP hS => ?_)
              refine va_mabs hx hb (by rw [hml]; exact hl.1.symm) hown (hts (.methodLink RX0 73 Lib.Math.abs.name) (by decide +kernel)) (hts (.static Lib.Math.abs.name) (by decide +kernel)) (hts (.initialized "java/lang/Math") (by decide +kernel)) (hts (.code Lib.Math.abs.name Lib.Math.abs.code 1 (some .int)) (by decide +kernel)) (Nat.le_of_ble_eq_true rfl) (Nat.le_of_ble_eq_true rfl) (Nat.zero_le _) (Nat.zero_le _) dX0_traceWay_72 ?_
              refine lv_iadd hx hb dX0_traceWay_75 ?_
              refine va_put (D := G) (ci := 0) (v := .int ((s_sc S_g) + (iabs (m_cells ((s_mo S_g) (j_g.toNatClampNeg)))))) (ty := .int) (C := RX0) (T := TX0) (N := 10) hx hb hts in_X0_traceWay_0 tyX0 tyX0_ok nmX0 hown hK hP hD hS 0 rfl rfl 8 (by decide) (hts (.fieldLink RX0 55 "RampJam$Search" "solvedCells" "I") (by decide +kernel)) (fun _ h9 => h9) rfl (by decide +kernel) rfl rfl (Nat.le_of_ble_eq_true rfl) dX0_traceWay_76 (fun H locs hP hD hS => ?_)
              have hP : va_P G vwCl [((a 1), .inr (0, [.ref (a 6), .ref (a 2), .ref (a 3), .ref (a 4), .ref (a 5), .int (s_fc S_g), .int (s_fs S_g), .int (nI k_g), .int ((s_sc S_g) + (iabs (m_cells ((s_mo S_g) (j_g.toNatClampNeg))))), .int (s_sf S_g)])), ((a 2), .inl (cI, 800, .inl (s_fo S_g))), ((a 3), .inl (cI, 800, .inl (s_or S_g))), ((a 4), .inl (cI, 800, .inl (s_mo S_g))), ((a 5), .inl (cI, 2048, .inl (s_sl S_g))), ((a 6), .inr (1, [.ref (a 7), .ref (a 8), .ref (a 9), .ref (a 10), .int (nI (y_n Y)), .long (y_rp Y)])), ((a 7), .inl (cI, 9, .inl (y_sz Y))), ((a 8), .inl (cZ, 9, .inl (y_ac Y))), ((a 9), .inl (cI, 9, .inl (y_li Y))), ((a 10), .inl (cJ, 9, .inr (.inl (y_sh Y))))] H := hP
              have hD : va_D A [((a 1), .inr (0, [.ref (a 6), .ref (a 2), .ref (a 3), .ref (a 4), .ref (a 5), .int (s_fc S_g), .int (s_fs S_g), .int (nI k_g), .int ((s_sc S_g) + (iabs (m_cells ((s_mo S_g) (j_g.toNatClampNeg))))), .int (s_sf S_g)])), ((a 2), .inl (cI, 800, .inl (s_fo S_g))), ((a 3), .inl (cI, 800, .inl (s_or S_g))), ((a 4), .inl (cI, 800, .inl (s_mo S_g))), ((a 5), .inl (cI, 2048, .inl (s_sl S_g))), ((a 6), .inr (1, [.ref (a 7), .ref (a 8), .ref (a 9), .ref (a 10), .int (nI (y_n Y)), .long (y_rp Y)])), ((a 7), .inl (cI, 9, .inl (y_sz Y))), ((a 8), .inl (cZ, 9, .inl (y_ac Y))), ((a 9), .inl (cI, 9, .inl (y_li Y))), ((a 10), .inl (cJ, 9, .inr (.inl (y_sh Y))))] := hD
              refine lv_aload_n hx hb dX0_traceWay_79 rfl (lv_at hl 0 rfl) ?_
              refine lv_aload_n hx hb dX0_traceWay_80 rfl (lv_at hl 0 rfl) ?_
              refine va_get (D := G) (ci := 0) (v := .ref (a 4)) (C := RX0) (T := TX0) (N := 10) hx hb hts in_X0_traceWay_0 hown hK hP 0 rfl rfl 3 (by decide) (hts (.fieldLink RX0 18 "RampJam$Search" "moveCodes" "[I") (by decide +kernel)) (fun _ h9 => h9) rfl dX0_traceWay_81 ?_
              refine lv_iload_n hx hb dX0_traceWay_84 rfl (lv_at hl 1 rfl) ?_
              refine va_iald hx hb hK hP 3 0 rfl rfl (s_isF_in (by assumption)) dX0_traceWay_85 ?_
              refine va_put (D := G) (ci := 0) (v := .int ((s_mo S_g) (j_g.toNatClampNeg))) (ty := .int) (C := RX0) (T := TX0) (N := 10) hx hb hts in_X0_traceWay_0 tyX0 tyX0_ok nmX0 hown hK hP hD hS 0 rfl rfl 9 (by decide) (hts (.fieldLink RX0 58 "RampJam$Search" "solvedFirstMove" "I") (by decide +kernel)) (fun _ h9 => h9) rfl (by decide +kernel) rfl rfl (Nat.le_of_ble_eq_true rfl) dX0_traceWay_86 (fun H locs hP hD hS => ?_)
              have hP : va_P G vwCl [((a 1), .inr (0, [.ref (a 6), .ref (a 2), .ref (a 3), .ref (a 4), .ref (a 5), .int (s_fc S_g), .int (s_fs S_g), .int (nI k_g), .int ((s_sc S_g) + (iabs (m_cells ((s_mo S_g) (j_g.toNatClampNeg))))), .int ((s_mo S_g) (j_g.toNatClampNeg))])), ((a 2), .inl (cI, 800, .inl (s_fo S_g))), ((a 3), .inl (cI, 800, .inl (s_or S_g))), ((a 4), .inl (cI, 800, .inl (s_mo S_g))), ((a 5), .inl (cI, 2048, .inl (s_sl S_g))), ((a 6), .inr (1, [.ref (a 7), .ref (a 8), .ref (a 9), .ref (a 10), .int (nI (y_n Y)), .long (y_rp Y)])), ((a 7), .inl (cI, 9, .inl (y_sz Y))), ((a 8), .inl (cZ, 9, .inl (y_ac Y))), ((a 9), .inl (cI, 9, .inl (y_li Y))), ((a 10), .inl (cJ, 9, .inr (.inl (y_sh Y))))] H := hP
              have hD : va_D A [((a 1), .inr (0, [.ref (a 6), .ref (a 2), .ref (a 3), .ref (a 4), .ref (a 5), .int (s_fc S_g), .int (s_fs S_g), .int (nI k_g), .int ((s_sc S_g) + (iabs (m_cells ((s_mo S_g) (j_g.toNatClampNeg))))), .int ((s_mo S_g) (j_g.toNatClampNeg))])), ((a 2), .inl (cI, 800, .inl (s_fo S_g))), ((a 3), .inl (cI, 800, .inl (s_or S_g))), ((a 4), .inl (cI, 800, .inl (s_mo S_g))), ((a 5), .inl (cI, 2048, .inl (s_sl S_g))), ((a 6), .inr (1, [.ref (a 7), .ref (a 8), .ref (a 9), .ref (a 10), .int (nI (y_n Y)), .long (y_rp Y)])), ((a 7), .inl (cI, 9, .inl (y_sz Y))), ((a 8), .inl (cZ, 9, .inl (y_ac Y))), ((a 9), .inl (cI, 9, .inl (y_li Y))), ((a 10), .inl (cJ, 9, .inr (.inl (y_sh Y))))] := hD
              refine lv_aload_n hx hb dX0_traceWay_89 rfl (lv_at hl 0 rfl) ?_
              refine va_get (D := G) (ci := 0) (v := .ref (a 3)) (C := RX0) (T := TX0) (N := 10) hx hb hts in_X0_traceWay_0 hown hK hP 0 rfl rfl 2 (by decide) (hts (.fieldLink RX0 15 "RampJam$Search" "origins" "[I") (by decide +kernel)) (fun _ h9 => h9) rfl dX0_traceWay_90 ?_
              refine lv_iload_n hx hb dX0_traceWay_93 rfl (lv_at hl 1 rfl) ?_
              refine va_iald hx hb hK hP 2 0 rfl rfl (s_isF_in (by assumption)) dX0_traceWay_94 ?_
              refine lv_istore_n (lv' := [(1, .int ((s_or S_g) (j_g.toNatClampNeg))), (0, .ref (a 1)), (2, .int (nI k_g))]) hx hb dX0_traceWay_95 rfl hl (by decide) rfl (fun ls hl => ?_)
              refine lv_iinc (v := (nI (k_g + 1))) (lv' := [(2, .int (nI (k_g + 1))), (1, .int ((s_or S_g) (j_g.toNatClampNeg))), (0, .ref (a 1))]) hx hb dX0_traceWay_96 hl (k := 2) rfl (nI_1 _) (by decide) rfl (fun ls hl => ?_)
              refine lv_goto (tgt := 34) hx hb dX0_traceWay_99 (by decide) ?_
              exact ih_34 (k_g + 1) ((s_or S_g) (j_g.toNatClampNeg)) ((s_fo S_g), (s_or S_g), (s_mo S_g), (s_sl S_g), (s_fc S_g), (s_fs S_g), (nI k_g), ((s_sc S_g) + (iabs (m_cells ((s_mo S_g) (j_g.toNatClampNeg))))), ((s_mo S_g) (j_g.toNatClampNeg))) (hlt) (by omega) (by rw [← hI, s_trL_in hlt, if_pos ⟨hj, hf⟩]) _ _ hP hD hS _ (lv_sub hl [2, 1, 0] rfl)
    exact cut_34 (800 + 1) 1 (s_fs S) ((s_fo S), (s_or S), (s_mo S), (s_sl S), (s_fc S), (s_fs S), (if s_fs S = -1 then -1 else 0), 0, (-1)) (by omega) (by omega) (rfl) _ _ hP hD hS _ (lv_sub hl [2, 1, 0] rfl)
  refine lv_aload_n hx hb dX0_traceWay_1 rfl (lv_at hl 0 rfl) ?_
  refine va_get (D := G) (ci := 0) (v := .int (s_fs S)) (C := RX0) (T := TX0) (N := 10) hx hb hts in_X0_traceWay_0 hown hK hP 0 rfl rfl 6 (by decide) (hts (.fieldLink RX0 38 "RampJam$Search" "firstSolved" "I") (by decide +kernel)) (fun _ h9 => h9) rfl dX0_traceWay_2 ?_
  refine lv_iconst (v := (-1)) hx hb dX0_traceWay_5 (by decide) ?_
  refine lv_icmp_ne (tgt := 13) hx hb dX0_traceWay_6 (by decide) (fun c_4 => ?_) (fun c_4 => ?_)
  · refine lv_iconst (v := 0) hx hb dX0_traceWay_13 (by decide) ?_
    exact cut_14 0 (by simp [c_4]) _ _ hP hD hS _ hl
  · refine lv_iconst (v := (-1)) hx hb dX0_traceWay_9 (by decide) ?_
    refine lv_goto (tgt := 14) hx hb dX0_traceWay_10 (by decide) ?_
    exact cut_14 (-1) (by simp [c_4]) _ _ hP hD hS _ hl

set_option maxHeartbeats 4000000 in
set_option maxRecDepth 100000 in
/-- Arrays.fill -/
theorem c_J7_fill_53178 (l : Launch) (G : va_G) (cI cZ cJ : ClassId) (a : Nat → Nat) (sz : Nat) (q_g : Nat) (N_g : Nat) (f_g : Nat → Int32) (v_g : Int32) (hN_g : N_g < 2147483648) : Met l yJ7_fill_53178 wsJ7_fill_53178 ({ frames := 0, cells := 0, slots := 0, locals := 0 }) (rw_Pc G [(cI, .int), (cZ, .boolean), (cJ, .long)] [(q_g, .inl (cI, N_g, .inl f_g))] sz [.ref q_g, .int v_g]) (rw_Qv (S := Nat → Int32) (fillF f_g N_g v_g) (fun u : Nat → Int32 => [(q_g, .inl (cI, N_g, .inl u))]) G [(q_g, .inl (cI, N_g, .inl f_g))] sz) 0 0 (va_A [(q_g, .inl (cI, N_g, .inl f_g))] sz) := by
  refine Met.ofW (cc := cJ7_fill_53178) (maxL := 4) (ret := none) (by decide) rfl ?_
  intro p e s m args below meth c s₁ B hml hv
  obtain ⟨rfl, hsz, hP, hK, hD0, hN⟩ := hv
  have hx := B.exec
  have hb := B.bytes
  have hr := B.returns
  have hts := atoms_spec (ws := wsJ7_fill_53178) B.pre
  have hown : s.vm.findClass RJ7 = some m.cls := findClass_of_methodNamed B.named
  have hlocks := B.notSynchronized
  subst hsz
  have hD0 : va_D (fun _ => True) [(q_g, .inl (cI, N_g, .inl f_g))] := hD0
  have hD := hD0.self (sz := s.heap.size)
  unfold rw_Qv
  generalize hAe : va_A [(q_g, .inl (cI, N_g, .inl f_g))] s.heap.size = A at hD ⊢
  have hA : ∀ q : Nat, s.heap.size ≤ q → A q := fun q h => by rw [← hAe]; exact Or.inr h
  have hS : va_S A s.heap s.heap [] := va_S.rf
  have hP : va_P G vwCl [(q_g, .inl (cI, N_g, .inl f_g))] s.heap := hP
  have hl := lv_entry ([.ref q_g, .int v_g]) (n := 4) (Nat.le_of_ble_eq_true rfl)
  rw [lg_entry_eq]
  generalize (lg_sl ([.ref q_g, .int v_g]) ++ List.replicate (4 - (lg_sl ([.ref q_g, .int v_g])).length) Slot.unset).toArray = ls at hl ⊢
  have hl : lv_has ls 4 [(0, .ref q_g), (1, .int v_g)] := hl
  refine lv_iconst (v := 0) hx hb dJ7_fill_53178_0 (by decide) ?_
  refine lv_istore_n (lv' := [(2, .int 0), (0, .ref q_g), (1, .int v_g)]) hx hb dJ7_fill_53178_1 rfl hl (by decide) rfl (fun ls hl => ?_)
  refine lv_aload_n hx hb dJ7_fill_53178_2 rfl (lv_at hl 1 rfl) ?_
  refine va_alen (v := nI N_g) hx hb hK hP 0 0 rfl rfl rfl dJ7_fill_53178_3 ?_
  refine lv_istore_n (lv' := [(3, .int (nI N_g)), (2, .int 0), (0, .ref q_g), (1, .int v_g)]) hx hb dJ7_fill_53178_4 rfl hl (by decide) rfl (fun ls hl => ?_)
  have cut_5 : ∀ (d : Nat) (k_g : Nat), k_g ≤ N_g → N_g + 1 ≤ k_g + d → ∀ (H : Heap) (locs : List Loc), va_P G vwCl [(q_g, .inl (cI, N_g, .inl (fillF f_g k_g v_g)))] H → va_D A [(q_g, .inl (cI, N_g, .inl (fillF f_g k_g v_g)))] → va_S A s.heap H locs → ∀ (ls : Array Slot), lv_has ls 4 [(0, .ref q_g), (1, .int v_g), (2, .int (nI k_g)), (3, .int (nI N_g))] → W p l e (headSpec wsJ7_fill_53178 ({ frames := 0, cells := 0, slots := 0, locals := 0 })).room s m ([.ref q_g, .int v_g] : List Value).toArray below meth c H locs 0 0 (MQ below (va_Qv (fun u : Nat → Int32 => u = (fillF f_g N_g v_g)) (fun (u : Nat → Int32) (t : State) => va_P G vwCl ((fun u : Nat → Int32 => [(q_g, .inl (cI, N_g, .inl u))]) u) t.heap ∧ va_D A ((fun u : Nat → Int32 => [(q_g, .inl (cI, N_g, .inl u))]) u)) A) ([.ref q_g, .int v_g] : List Value).toArray s 0 0 A) (F0 m 5 ls []) := by
    intro d
    induction d with
    | zero =>
      intro k_g hk_5 hd_5
      exact absurd hd_5 (by omega)
    | succ d ih_5 =>
      intro k_g hk_5 hd_5  H locs hP hD hS ls hl
      refine lv_iload_n hx hb dJ7_fill_53178_5 rfl (lv_at hl 2 rfl) ?_
      refine lv_iload_n hx hb dJ7_fill_53178_6 rfl (lv_at hl 3 rfl) ?_
      refine lv_icmp_ge (tgt := 20) hx hb dJ7_fill_53178_7 (by decide) (fun c_1 => ?_) (fun c_1 => ?_)
      · have hkn : k_g = N_g := Nat.le_antisymm hk_5 (nx_ge (by omega) (by omega) c_1)
        have hP9 := hP
        have hD9 := hD
        exact W.vret hx hb hr (fun t ht hW => ⟨⟨(fillF f_g k_g v_g), rfl, by rw [hkn], by rw [ht]; exact hP9, hD9⟩, hS.F ht⟩) hS.2.2 dJ7_fill_53178_20
      · have hlt : k_g < N_g := nx_lt (by omega) (by omega) c_1
        refine lv_aload_n hx hb dJ7_fill_53178_10 rfl (lv_at hl 0 rfl) ?_
        refine lv_iload_n hx hb dJ7_fill_53178_11 rfl (lv_at hl 2 rfl) ?_
        refine lv_iload_n hx hb dJ7_fill_53178_12 rfl (lv_at hl 1 rfl) ?_
        refine va_iast hx hb hK hP hD hS 0 0 rfl rfl (vp_in_nI (by omega) (by omega)) dJ7_fill_53178_13 (fun H locs hP hD hS => ?_)
        rw [show (nI k_g).toNatClampNeg = k_g from nI_clamp (by omega)] at hP hD
        have hP : va_P G vwCl [(q_g, .inl (cI, N_g, .inl (upd (fillF f_g k_g v_g) k_g v_g)))] H := hP
        have hD : va_D A [(q_g, .inl (cI, N_g, .inl (upd (fillF f_g k_g v_g) k_g v_g)))] := hD
        refine lv_iinc (v := (nI (k_g + 1))) (lv' := [(2, .int (nI (k_g + 1))), (0, .ref q_g), (1, .int v_g), (3, .int (nI N_g))]) hx hb dJ7_fill_53178_14 hl (k := 2) rfl (nI_1 _) (by decide) rfl (fun ls hl => ?_)
        refine lv_goto (tgt := 5) hx hb dJ7_fill_53178_17 (by decide) ?_
        rw [fillF_succ] at hP hD
        exact ih_5 (k_g + 1) (hlt) (by omega) _ _ hP hD hS _ (lv_sub hl [1, 2, 0, 3] rfl)
  rw [← fillF_0 f_g v_g] at hP hD
  exact cut_5 (N_g + 1) 0 (Nat.zero_le _) (by omega) _ _ hP hD hS _ (lv_sub hl [2, 3, 1, 0] rfl)

theorem in_X0_lookFrom_0 : ∀ w ∈ wsX00, w ∈ wsX0_lookFrom := by decide +kernel
set_option maxHeartbeats 4000000 in
set_option maxRecDepth 100000 in
/-- Search.lookFrom -/
theorem c_X0_lookFrom (l : Launch) (G : va_G) (cI cZ cJ : ClassId) (a : Nat → Nat) (sz : Nat) (S : SS) (Y : YS) (x_g : Int32) (hn : y_n Y ≤ 9) : Met l yX0_lookFrom wsX0_lookFrom ({ frames := 4, cells := 0, slots := 0, locals := 102 }) (rw_Pc G [(cI, .int), (cZ, .boolean), (cJ, .long)] (wS cI cZ cJ a S Y) sz [.ref (a 1), .int x_g]) (rw_Qv (S := SS) (s_look Y S x_g) (fun u : SS => wS cI cZ cJ a u Y) G (wS cI cZ cJ a S Y) sz) 0 0 (va_A (wS cI cZ cJ a S Y) sz) := by
  refine Met.ofW (cc := cX0_lookFrom) (maxL := 3) (ret := none) (by decide) rfl ?_
  intro p e s m args below meth c s₁ B hml hv
  obtain ⟨rfl, hsz, hP, hK, hD0, hN⟩ := hv
  have hx := B.exec
  have hb := B.bytes
  have hr := B.returns
  have hts := atoms_spec (ws := wsX0_lookFrom) B.pre
  have hown : s.vm.findClass RX0 = some m.cls := findClass_of_methodNamed B.named
  have hlocks := B.notSynchronized
  subst hsz
  have hD0 : va_D (fun _ => True) [((a 1), .inr (0, [.ref (a 6), .ref (a 2), .ref (a 3), .ref (a 4), .ref (a 5), .int (s_fc S), .int (s_fs S), .int (s_sm S), .int (s_sc S), .int (s_sf S)])), ((a 2), .inl (cI, 800, .inl (s_fo S))), ((a 3), .inl (cI, 800, .inl (s_or S))), ((a 4), .inl (cI, 800, .inl (s_mo S))), ((a 5), .inl (cI, 2048, .inl (s_sl S))), ((a 6), .inr (1, [.ref (a 7), .ref (a 8), .ref (a 9), .ref (a 10), .int (nI (y_n Y)), .long (y_rp Y)])), ((a 7), .inl (cI, 9, .inl (y_sz Y))), ((a 8), .inl (cZ, 9, .inl (y_ac Y))), ((a 9), .inl (cI, 9, .inl (y_li Y))), ((a 10), .inl (cJ, 9, .inr (.inl (y_sh Y))))] := hD0
  have hD := hD0.self (sz := s.heap.size)
  unfold rw_Qv
  generalize hAe : va_A (wS cI cZ cJ a S Y) s.heap.size = A at hD ⊢
  have hA : ∀ q : Nat, s.heap.size ≤ q → A q := fun q h => by rw [← hAe]; exact Or.inr h
  have hS : va_S A s.heap s.heap [] := va_S.rf
  have hP : va_P G vwCl [((a 1), .inr (0, [.ref (a 6), .ref (a 2), .ref (a 3), .ref (a 4), .ref (a 5), .int (s_fc S), .int (s_fs S), .int (s_sm S), .int (s_sc S), .int (s_sf S)])), ((a 2), .inl (cI, 800, .inl (s_fo S))), ((a 3), .inl (cI, 800, .inl (s_or S))), ((a 4), .inl (cI, 800, .inl (s_mo S))), ((a 5), .inl (cI, 2048, .inl (s_sl S))), ((a 6), .inr (1, [.ref (a 7), .ref (a 8), .ref (a 9), .ref (a 10), .int (nI (y_n Y)), .long (y_rp Y)])), ((a 7), .inl (cI, 9, .inl (y_sz Y))), ((a 8), .inl (cZ, 9, .inl (y_ac Y))), ((a 9), .inl (cI, 9, .inl (y_li Y))), ((a 10), .inl (cJ, 9, .inr (.inl (y_sh Y))))] s.heap := hP
  have hl := lv_entry ([.ref (a 1), .int x_g]) (n := 3) (Nat.le_of_ble_eq_true rfl)
  rw [lg_entry_eq]
  generalize (lg_sl ([.ref (a 1), .int x_g]) ++ List.replicate (3 - (lg_sl ([.ref (a 1), .int x_g])).length) Slot.unset).toArray = ls at hl ⊢
  have hl : lv_has ls 3 [(0, .ref (a 1)), (1, .int x_g)] := hl
  refine lv_aload_n hx hb dX0_lookFrom_0 rfl (lv_at hl 0 rfl) ?_
  refine va_get (D := G) (ci := 0) (v := .ref (a 5)) (C := RX0) (T := TX0) (N := 10) hx hb hts in_X0_lookFrom_0 hown hK hP 0 rfl rfl 4 (by decide) (hts (.fieldLink RX0 21 "RampJam$Search" "slots" "[I") (by decide +kernel)) (fun _ h9 => h9) rfl dX0_lookFrom_1 ?_
  refine lv_iconst (v := 0) hx hb dX0_lookFrom_4 (by decide) ?_
  have hPc := hP.sub (ws' := [((a 5), .inl (cI, 2048, .inl (s_sl S)))]) [4] rfl
  have hDc := hD.sub (ws' := [((a 5), .inl (cI, 2048, .inl (s_sl S)))]) [4] (by decide) rfl
  refine rw_v (wr := [((a 1), .inr (0, [.ref (a 6), .ref (a 2), .ref (a 3), .ref (a 4), .ref (a 5), .int (s_fc S), .int (s_fs S), .int (s_sm S), .int (s_sc S), .int (s_sf S)])), ((a 2), .inl (cI, 800, .inl (s_fo S))), ((a 3), .inl (cI, 800, .inl (s_or S))), ((a 4), .inl (cI, 800, .inl (s_mo S))), ((a 6), .inr (1, [.ref (a 7), .ref (a 8), .ref (a 9), .ref (a 10), .int (nI (y_n Y)), .long (y_rp Y)])), ((a 7), .inl (cI, 9, .inl (y_sz Y))), ((a 8), .inl (cZ, 9, .inl (y_ac Y))), ((a 9), .inl (cI, 9, .inl (y_li Y))), ((a 10), .inl (cJ, 9, .inr (.inl (y_sh Y))))]) (ws' := [((a 1), .inr (0, [.ref (a 6), .ref (a 2), .ref (a 3), .ref (a 4), .ref (a 5), .int (s_fc S), .int (s_fs S), .int (s_sm S), .int (s_sc S), .int (s_sf S)])), ((a 2), .inl (cI, 800, .inl (s_fo S))), ((a 3), .inl (cI, 800, .inl (s_or S))), ((a 4), .inl (cI, 800, .inl (s_mo S))), ((a 5), .inl (cI, 2048, .inl (fillF (s_sl S) 2048 0))), ((a 6), .inr (1, [.ref (a 7), .ref (a 8), .ref (a 9), .ref (a 10), .int (nI (y_n Y)), .long (y_rp Y)])), ((a 7), .inl (cI, 9, .inl (y_sz Y))), ((a 8), .inl (cZ, 9, .inl (y_ac Y))), ((a 9), .inl (cI, 9, .inl (y_li Y))), ((a 10), .inl (cJ, 9, .inr (.inl (y_sh Y))))]) (va_runS (As := [.ref (a 5), .int 0]) (rest := []) ⟨hx, hb, hml, hown, hts⟩ ((c_J7_fill_53178 l G cI cZ cJ a _ (a 5) 2048 (s_sl S) 0 (by decide))) (va_cwS 2 hts gX0_lookFrom_J7_fill_53178 rfl rfl rfl (by decide +kernel) ⟨Nat.le_of_ble_eq_true rfl, Nat.le_of_ble_eq_true rfl⟩) ⟨rw_blind, rw_pre hPc hDc hK hN⟩ rfl rfl hl.1 rfl (lv_room (Nat.le_of_ble_eq_true rfl)) dX0_lookFrom_5 ⟨Nat.zero_le _, Nat.zero_le _⟩) hS hA hP hD [4] [0, 1, 2, 3, 5, 6, 7, 8, 9] [0, 1, 2, 3, 9, 4, 5, 6, 7, 8] rfl rfl (by decide) (by decide) rfl (by decide) (fun H locs hP hD hS => ?_)
  refine lv_aload_n hx hb dX0_lookFrom_8 rfl (lv_at hl 0 rfl) ?_
  refine lv_iconst (v := 0) hx hb dX0_lookFrom_9 (by decide) ?_
  refine va_put (D := G) (ci := 0) (v := .int 0) (ty := .int) (C := RX0) (T := TX0) (N := 10) hx hb hts in_X0_lookFrom_0 tyX0 tyX0_ok nmX0 hown hK hP hD hS 0 rfl rfl 5 (by decide) (hts (.fieldLink RX0 28 "RampJam$Search" "foundCount" "I") (by decide +kernel)) (fun _ h9 => h9) rfl (by decide +kernel) rfl rfl (Nat.le_of_ble_eq_true rfl) dX0_lookFrom_10 (fun H locs hP hD hS => ?_)
  have hP : va_P G vwCl [((a 1), .inr (0, [.ref (a 6), .ref (a 2), .ref (a 3), .ref (a 4), .ref (a 5), .int 0, .int (s_fs S), .int (s_sm S), .int (s_sc S), .int (s_sf S)])), ((a 2), .inl (cI, 800, .inl (s_fo S))), ((a 3), .inl (cI, 800, .inl (s_or S))), ((a 4), .inl (cI, 800, .inl (s_mo S))), ((a 5), .inl (cI, 2048, .inl (fillF (s_sl S) 2048 0))), ((a 6), .inr (1, [.ref (a 7), .ref (a 8), .ref (a 9), .ref (a 10), .int (nI (y_n Y)), .long (y_rp Y)])), ((a 7), .inl (cI, 9, .inl (y_sz Y))), ((a 8), .inl (cZ, 9, .inl (y_ac Y))), ((a 9), .inl (cI, 9, .inl (y_li Y))), ((a 10), .inl (cJ, 9, .inr (.inl (y_sh Y))))] H := hP
  have hD : va_D A [((a 1), .inr (0, [.ref (a 6), .ref (a 2), .ref (a 3), .ref (a 4), .ref (a 5), .int 0, .int (s_fs S), .int (s_sm S), .int (s_sc S), .int (s_sf S)])), ((a 2), .inl (cI, 800, .inl (s_fo S))), ((a 3), .inl (cI, 800, .inl (s_or S))), ((a 4), .inl (cI, 800, .inl (s_mo S))), ((a 5), .inl (cI, 2048, .inl (fillF (s_sl S) 2048 0))), ((a 6), .inr (1, [.ref (a 7), .ref (a 8), .ref (a 9), .ref (a 10), .int (nI (y_n Y)), .long (y_rp Y)])), ((a 7), .inl (cI, 9, .inl (y_sz Y))), ((a 8), .inl (cZ, 9, .inl (y_ac Y))), ((a 9), .inl (cI, 9, .inl (y_li Y))), ((a 10), .inl (cJ, 9, .inr (.inl (y_sh Y))))] := hD
  refine lv_aload_n hx hb dX0_lookFrom_13 rfl (lv_at hl 0 rfl) ?_
  refine lv_iconst (v := (-1)) hx hb dX0_lookFrom_14 (by decide) ?_
  refine va_put (D := G) (ci := 0) (v := .int (-1)) (ty := .int) (C := RX0) (T := TX0) (N := 10) hx hb hts in_X0_lookFrom_0 tyX0 tyX0_ok nmX0 hown hK hP hD hS 0 rfl rfl 6 (by decide) (hts (.fieldLink RX0 38 "RampJam$Search" "firstSolved" "I") (by decide +kernel)) (fun _ h9 => h9) rfl (by decide +kernel) rfl rfl (Nat.le_of_ble_eq_true rfl) dX0_lookFrom_15 (fun H locs hP hD hS => ?_)
  have hP : va_P G vwCl [((a 1), .inr (0, [.ref (a 6), .ref (a 2), .ref (a 3), .ref (a 4), .ref (a 5), .int 0, .int (-1), .int (s_sm S), .int (s_sc S), .int (s_sf S)])), ((a 2), .inl (cI, 800, .inl (s_fo S))), ((a 3), .inl (cI, 800, .inl (s_or S))), ((a 4), .inl (cI, 800, .inl (s_mo S))), ((a 5), .inl (cI, 2048, .inl (fillF (s_sl S) 2048 0))), ((a 6), .inr (1, [.ref (a 7), .ref (a 8), .ref (a 9), .ref (a 10), .int (nI (y_n Y)), .long (y_rp Y)])), ((a 7), .inl (cI, 9, .inl (y_sz Y))), ((a 8), .inl (cZ, 9, .inl (y_ac Y))), ((a 9), .inl (cI, 9, .inl (y_li Y))), ((a 10), .inl (cJ, 9, .inr (.inl (y_sh Y))))] H := hP
  have hD : va_D A [((a 1), .inr (0, [.ref (a 6), .ref (a 2), .ref (a 3), .ref (a 4), .ref (a 5), .int 0, .int (-1), .int (s_sm S), .int (s_sc S), .int (s_sf S)])), ((a 2), .inl (cI, 800, .inl (s_fo S))), ((a 3), .inl (cI, 800, .inl (s_or S))), ((a 4), .inl (cI, 800, .inl (s_mo S))), ((a 5), .inl (cI, 2048, .inl (fillF (s_sl S) 2048 0))), ((a 6), .inr (1, [.ref (a 7), .ref (a 8), .ref (a 9), .ref (a 10), .int (nI (y_n Y)), .long (y_rp Y)])), ((a 7), .inl (cI, 9, .inl (y_sz Y))), ((a 8), .inl (cZ, 9, .inl (y_ac Y))), ((a 9), .inl (cI, 9, .inl (y_li Y))), ((a 10), .inl (cJ, 9, .inr (.inl (y_sh Y))))] := hD
  refine lv_aload_n hx hb dX0_lookFrom_18 rfl (lv_at hl 0 rfl) ?_
  refine lv_iload_n hx hb dX0_lookFrom_19 rfl (lv_at hl 1 rfl) ?_
  refine lv_iconst (v := 0) hx hb dX0_lookFrom_20 (by decide) ?_
  refine lv_iconst (v := 0) hx hb dX0_lookFrom_21 (by decide) ?_
  refine rw_v (wr := []) (ws' := [((a 1), .inr (0, [.ref (a 6), .ref (a 2), .ref (a 3), .ref (a 4), .ref (a 5), .int (s_fc (s_addN ((s_fo S), (s_or S), (s_mo S), (fillF (s_sl S) 2048 0), 0, (-1), (s_sm S), (s_sc S), (s_sf S)) x_g 0 0)), .int (s_fs (s_addN ((s_fo S), (s_or S), (s_mo S), (fillF (s_sl S) 2048 0), 0, (-1), (s_sm S), (s_sc S), (s_sf S)) x_g 0 0)), .int (s_sm (s_addN ((s_fo S), (s_or S), (s_mo S), (fillF (s_sl S) 2048 0), 0, (-1), (s_sm S), (s_sc S), (s_sf S)) x_g 0 0)), .int (s_sc (s_addN ((s_fo S), (s_or S), (s_mo S), (fillF (s_sl S) 2048 0), 0, (-1), (s_sm S), (s_sc S), (s_sf S)) x_g 0 0)), .int (s_sf (s_addN ((s_fo S), (s_or S), (s_mo S), (fillF (s_sl S) 2048 0), 0, (-1), (s_sm S), (s_sc S), (s_sf S)) x_g 0 0))])), ((a 2), .inl (cI, 800, .inl (s_fo (s_addN ((s_fo S), (s_or S), (s_mo S), (fillF (s_sl S) 2048 0), 0, (-1), (s_sm S), (s_sc S), (s_sf S)) x_g 0 0)))), ((a 3), .inl (cI, 800, .inl (s_or (s_addN ((s_fo S), (s_or S), (s_mo S), (fillF (s_sl S) 2048 0), 0, (-1), (s_sm S), (s_sc S), (s_sf S)) x_g 0 0)))), ((a 4), .inl (cI, 800, .inl (s_mo (s_addN ((s_fo S), (s_or S), (s_mo S), (fillF (s_sl S) 2048 0), 0, (-1), (s_sm S), (s_sc S), (s_sf S)) x_g 0 0)))), ((a 5), .inl (cI, 2048, .inl (s_sl (s_addN ((s_fo S), (s_or S), (s_mo S), (fillF (s_sl S) 2048 0), 0, (-1), (s_sm S), (s_sc S), (s_sf S)) x_g 0 0)))), ((a 6), .inr (1, [.ref (a 7), .ref (a 8), .ref (a 9), .ref (a 10), .int (nI (y_n Y)), .long (y_rp Y)])), ((a 7), .inl (cI, 9, .inl (y_sz Y))), ((a 8), .inl (cZ, 9, .inl (y_ac Y))), ((a 9), .inl (cI, 9, .inl (y_li Y))), ((a 10), .inl (cJ, 9, .inr (.inl (y_sh Y))))]) (va_runV (As := [.int x_g, .int 0, .int 0]) (rest := []) ⟨hx, hb, hml, hown, hts⟩ ((c_X0_addIfNew l G cI cZ cJ a _ ((s_fo S), (s_or S), (s_mo S), (fillF (s_sl S) 2048 0), 0, (-1), (s_sm S), (s_sc S), (s_sf S)) Y x_g 0 0)) (cwV 3 hts gX0_lookFrom_X0_addIfNew rfl rfl rfl (by decide +kernel) ⟨Nat.le_of_ble_eq_true rfl, Nat.le_of_ble_eq_true rfl⟩) ⟨rw_blind, va_recv hK hP (ci := 0) (q0 := 0) rfl rfl, rw_pre hP hD hK hN⟩ rfl rfl hl.1 rfl (lv_room (Nat.le_of_ble_eq_true rfl)) dX0_lookFrom_22 ⟨Nat.zero_le _, Nat.zero_le _⟩) hS hA hP hD [0, 1, 2, 3, 4, 5, 6, 7, 8, 9] [] [0, 1, 2, 3, 4, 5, 6, 7, 8, 9] rfl rfl (by decide) (by decide) rfl (by decide) (fun H locs hP hD hS => ?_)
  refine lv_iconst (v := 0) hx hb dX0_lookFrom_25 (by decide) ?_
  refine lv_istore_n (lv' := [(2, .int 0), (0, .ref (a 1)), (1, .int x_g)]) hx hb dX0_lookFrom_26 rfl hl (by decide) rfl (fun ls hl => ?_)
  have cut_27 : ∀ (d : Nat) (k_g : Nat) (S_g : SS), k_g ≤ 800 → 800 + 1 ≤ k_g + d → (s_lookL Y (800 - k_g) k_g S_g = s_lookL Y 800 0 (s_addN (s_new S) x_g 0 0)) → ∀ (H : Heap) (locs : List Loc), va_P G vwCl [((a 1), .inr (0, [.ref (a 6), .ref (a 2), .ref (a 3), .ref (a 4), .ref (a 5), .int (s_fc S_g), .int (s_fs S_g), .int (s_sm S_g), .int (s_sc S_g), .int (s_sf S_g)])), ((a 2), .inl (cI, 800, .inl (s_fo S_g))), ((a 3), .inl (cI, 800, .inl (s_or S_g))), ((a 4), .inl (cI, 800, .inl (s_mo S_g))), ((a 5), .inl (cI, 2048, .inl (s_sl S_g))), ((a 6), .inr (1, [.ref (a 7), .ref (a 8), .ref (a 9), .ref (a 10), .int (nI (y_n Y)), .long (y_rp Y)])), ((a 7), .inl (cI, 9, .inl (y_sz Y))), ((a 8), .inl (cZ, 9, .inl (y_ac Y))), ((a 9), .inl (cI, 9, .inl (y_li Y))), ((a 10), .inl (cJ, 9, .inr (.inl (y_sh Y))))] H → va_D A [((a 1), .inr (0, [.ref (a 6), .ref (a 2), .ref (a 3), .ref (a 4), .ref (a 5), .int (s_fc S_g), .int (s_fs S_g), .int (s_sm S_g), .int (s_sc S_g), .int (s_sf S_g)])), ((a 2), .inl (cI, 800, .inl (s_fo S_g))), ((a 3), .inl (cI, 800, .inl (s_or S_g))), ((a 4), .inl (cI, 800, .inl (s_mo S_g))), ((a 5), .inl (cI, 2048, .inl (s_sl S_g))), ((a 6), .inr (1, [.ref (a 7), .ref (a 8), .ref (a 9), .ref (a 10), .int (nI (y_n Y)), .long (y_rp Y)])), ((a 7), .inl (cI, 9, .inl (y_sz Y))), ((a 8), .inl (cZ, 9, .inl (y_ac Y))), ((a 9), .inl (cI, 9, .inl (y_li Y))), ((a 10), .inl (cJ, 9, .inr (.inl (y_sh Y))))] → va_S A s.heap H locs → ∀ (ls : Array Slot), lv_has ls 3 [(0, .ref (a 1)), (1, .int x_g), (2, .int (nI k_g))] → W p l e (headSpec wsX0_lookFrom ({ frames := 4, cells := 0, slots := 0, locals := 102 })).room s m ([.ref (a 1), .int x_g] : List Value).toArray below meth c H locs 0 0 (MQ below (va_Qv (fun u : SS => u = (s_look Y S x_g)) (fun (u : SS) (t : State) => va_P G vwCl ((fun u : SS => wS cI cZ cJ a u Y) u) t.heap ∧ va_D A ((fun u : SS => wS cI cZ cJ a u Y) u)) A) ([.ref (a 1), .int x_g] : List Value).toArray s 0 0 A) (F0 m 27 ls []) := by
    intro d
    induction d with
    | zero =>
      intro k_g S_g hk_27 hd_27
      exact absurd hd_27 (by omega)
    | succ d ih_27 =>
      intro k_g S_g hk_27 hd_27 hI H locs hP hD hS ls hl
      refine lv_iload_n hx hb dX0_lookFrom_27 rfl (lv_at hl 2 rfl) ?_
      refine lv_aload_n hx hb dX0_lookFrom_28 rfl (lv_at hl 0 rfl) ?_
      refine va_get (D := G) (ci := 0) (v := .int (s_fc S_g)) (C := RX0) (T := TX0) (N := 10) hx hb hts in_X0_lookFrom_0 hown hK hP 0 rfl rfl 5 (by decide) (hts (.fieldLink RX0 28 "RampJam$Search" "foundCount" "I") (by decide +kernel)) (fun _ h9 => h9) rfl dX0_lookFrom_29 ?_
      refine lv_icmp_ge (tgt := 56) hx hb dX0_lookFrom_32 (by decide) (fun c_1 => ?_) (fun c_1 => ?_)
      · have hres := s_lookL_out (Y := Y) (k := k_g) (fun h => h.1 c_1)
        refine lv_aload_n hx hb dX0_lookFrom_56 rfl (lv_at hl 0 rfl) ?_
        refine rw_v (wr := []) (ws' := [((a 1), .inr (0, [.ref (a 6), .ref (a 2), .ref (a 3), .ref (a 4), .ref (a 5), .int (s_fc (s_trace S_g)), .int (s_fs (s_trace S_g)), .int (s_sm (s_trace S_g)), .int (s_sc (s_trace S_g)), .int (s_sf (s_trace S_g))])), ((a 2), .inl (cI, 800, .inl (s_fo (s_trace S_g)))), ((a 3), .inl (cI, 800, .inl (s_or (s_trace S_g)))), ((a 4), .inl (cI, 800, .inl (s_mo (s_trace S_g)))), ((a 5), .inl (cI, 2048, .inl (s_sl (s_trace S_g)))), ((a 6), .inr (1, [.ref (a 7), .ref (a 8), .ref (a 9), .ref (a 10), .int (nI (y_n Y)), .long (y_rp Y)])), ((a 7), .inl (cI, 9, .inl (y_sz Y))), ((a 8), .inl (cZ, 9, .inl (y_ac Y))), ((a 9), .inl (cI, 9, .inl (y_li Y))), ((a 10), .inl (cJ, 9, .inr (.inl (y_sh Y))))]) (va_runV (As := []) (rest := []) ⟨hx, hb, hml, hown, hts⟩ ((c_X0_traceWay l G cI cZ cJ a _ S_g Y)) (cwV 0 hts gX0_lookFrom_X0_traceWay rfl rfl rfl (by decide +kernel) ⟨Nat.le_of_ble_eq_true rfl, Nat.le_of_ble_eq_true rfl⟩) ⟨rw_blind, va_recv hK hP (ci := 0) (q0 := 0) rfl rfl, rw_pre hP hD hK hN⟩ rfl rfl hl.1 rfl (lv_room (Nat.le_of_ble_eq_true rfl)) dX0_lookFrom_57 ⟨Nat.zero_le _, Nat.zero_le _⟩) hS hA hP hD [0, 1, 2, 3, 4, 5, 6, 7, 8, 9] [] [0, 1, 2, 3, 4, 5, 6, 7, 8, 9] rfl rfl (by decide) (by decide) rfl (by decide) (fun H locs hP hD hS => ?_)
        have hP9 := hP
        have hD9 := hD
        exact W.vret hx hb hr (fun t ht hW => ⟨⟨(s_trace S_g), rfl, by rw [s_look, ← hI, hres], by rw [ht]; exact hP9, hD9⟩, hS.F ht⟩) hS.2.2 dX0_lookFrom_60
      · have hc1 := c_1
        refine lv_aload_n hx hb dX0_lookFrom_35 rfl (lv_at hl 0 rfl) ?_
        refine va_get (D := G) (ci := 0) (v := .int (s_fc S_g)) (C := RX0) (T := TX0) (N := 10) hx hb hts in_X0_lookFrom_0 hown hK hP 0 rfl rfl 5 (by decide) (hts (.fieldLink RX0 28 "RampJam$Search" "foundCount" "I") (by decide +kernel)) (fun _ h9 => h9) rfl dX0_lookFrom_36 ?_
        refine lv_sipush (v := 800) hx hb dX0_lookFrom_39 (by decide) ?_
        refine lv_icmp_ge (tgt := 56) hx hb dX0_lookFrom_42 (by decide) (fun c_2 => ?_) (fun c_2 => ?_)
        · have hres := s_lookL_out (Y := Y) (k := k_g) (fun h => h.2 c_2)
          refine lv_aload_n hx hb dX0_lookFrom_56 rfl (lv_at hl 0 rfl) ?_
          refine rw_v (wr := []) (ws' := [((a 1), .inr (0, [.ref (a 6), .ref (a 2), .ref (a 3), .ref (a 4), .ref (a 5), .int (s_fc (s_trace S_g)), .int (s_fs (s_trace S_g)), .int (s_sm (s_trace S_g)), .int (s_sc (s_trace S_g)), .int (s_sf (s_trace S_g))])), ((a 2), .inl (cI, 800, .inl (s_fo (s_trace S_g)))), ((a 3), .inl (cI, 800, .inl (s_or (s_trace S_g)))), ((a 4), .inl (cI, 800, .inl (s_mo (s_trace S_g)))), ((a 5), .inl (cI, 2048, .inl (s_sl (s_trace S_g)))), ((a 6), .inr (1, [.ref (a 7), .ref (a 8), .ref (a 9), .ref (a 10), .int (nI (y_n Y)), .long (y_rp Y)])), ((a 7), .inl (cI, 9, .inl (y_sz Y))), ((a 8), .inl (cZ, 9, .inl (y_ac Y))), ((a 9), .inl (cI, 9, .inl (y_li Y))), ((a 10), .inl (cJ, 9, .inr (.inl (y_sh Y))))]) (va_runV (As := []) (rest := []) ⟨hx, hb, hml, hown, hts⟩ ((c_X0_traceWay l G cI cZ cJ a _ S_g Y)) (cwV 0 hts gX0_lookFrom_X0_traceWay rfl rfl rfl (by decide +kernel) ⟨Nat.le_of_ble_eq_true rfl, Nat.le_of_ble_eq_true rfl⟩) ⟨rw_blind, va_recv hK hP (ci := 0) (q0 := 0) rfl rfl, rw_pre hP hD hK hN⟩ rfl rfl hl.1 rfl (lv_room (Nat.le_of_ble_eq_true rfl)) dX0_lookFrom_57 ⟨Nat.zero_le _, Nat.zero_le _⟩) hS hA hP hD [0, 1, 2, 3, 4, 5, 6, 7, 8, 9] [] [0, 1, 2, 3, 4, 5, 6, 7, 8, 9] rfl rfl (by decide) (by decide) rfl (by decide) (fun H locs hP hD hS => ?_)
          have hP9 := hP
          have hD9 := hD
          exact W.vret hx hb hr (fun t ht hW => ⟨⟨(s_trace S_g), rfl, by rw [s_look, ← hI, hres], by rw [ht]; exact hP9, hD9⟩, hS.F ht⟩) hS.2.2 dX0_lookFrom_60
        · have hc2 := c_2
          have hlt : k_g < 800 := s_look_lt (by omega) hc1 hc2
          refine lv_aload_n hx hb dX0_lookFrom_45 rfl (lv_at hl 0 rfl) ?_
          refine lv_iload_n hx hb dX0_lookFrom_46 rfl (lv_at hl 2 rfl) ?_
          refine rw_v (wr := []) (ws' := [((a 1), .inr (0, [.ref (a 6), .ref (a 2), .ref (a 3), .ref (a 4), .ref (a 5), .int (s_fc (s_reach Y S_g (nI k_g))), .int (s_fs (s_reach Y S_g (nI k_g))), .int (s_sm (s_reach Y S_g (nI k_g))), .int (s_sc (s_reach Y S_g (nI k_g))), .int (s_sf (s_reach Y S_g (nI k_g)))])), ((a 2), .inl (cI, 800, .inl (s_fo (s_reach Y S_g (nI k_g))))), ((a 3), .inl (cI, 800, .inl (s_or (s_reach Y S_g (nI k_g))))), ((a 4), .inl (cI, 800, .inl (s_mo (s_reach Y S_g (nI k_g))))), ((a 5), .inl (cI, 2048, .inl (s_sl (s_reach Y S_g (nI k_g))))), ((a 6), .inr (1, [.ref (a 7), .ref (a 8), .ref (a 9), .ref (a 10), .int (nI (y_n Y)), .long (y_rp Y)])), ((a 7), .inl (cI, 9, .inl (y_sz Y))), ((a 8), .inl (cZ, 9, .inl (y_ac Y))), ((a 9), .inl (cI, 9, .inl (y_li Y))), ((a 10), .inl (cJ, 9, .inr (.inl (y_sh Y))))]) (va_runV (As := [.int (nI k_g)]) (rest := []) ⟨hx, hb, hml, hown, hts⟩ ((c_X0_addReachedFrom l G cI cZ cJ a _ S_g Y (nI k_g) hn)) (cwV 1 hts gX0_lookFrom_X0_addReachedFrom rfl rfl rfl (by decide +kernel) ⟨Nat.le_of_ble_eq_true rfl, Nat.le_of_ble_eq_true rfl⟩) ⟨rw_blind, va_recv hK hP (ci := 0) (q0 := 0) rfl rfl, rw_pre hP hD hK hN⟩ rfl rfl hl.1 rfl (lv_room (Nat.le_of_ble_eq_true rfl)) dX0_lookFrom_47 ⟨Nat.zero_le _, Nat.zero_le _⟩) hS hA hP hD [0, 1, 2, 3, 4, 5, 6, 7, 8, 9] [] [0, 1, 2, 3, 4, 5, 6, 7, 8, 9] rfl rfl (by decide) (by decide) rfl (by decide) (fun H locs hP hD hS => ?_)
          refine lv_iinc (v := (nI (k_g + 1))) (lv' := [(2, .int (nI (k_g + 1))), (0, .ref (a 1)), (1, .int x_g)]) hx hb dX0_lookFrom_50 hl (k := 2) rfl (nI_1 _) (by decide) rfl (fun ls hl => ?_)
          refine lv_goto (tgt := 27) hx hb dX0_lookFrom_53 (by decide) ?_
          exact ih_27 (k_g + 1) (s_reach Y S_g (nI k_g)) (hlt) (by omega) (by rw [← hI, s_lookL_in hlt, if_pos ⟨hc1, hc2⟩]) _ _ hP hD hS _ (lv_sub hl [1, 2, 0] rfl)
  exact cut_27 (800 + 1) 0 (s_addN ((s_fo S), (s_or S), (s_mo S), (fillF (s_sl S) 2048 0), 0, (-1), (s_sm S), (s_sc S), (s_sf S)) x_g 0 0) (Nat.zero_le _) (by omega) (rfl) _ _ hP hD hS _ (lv_sub hl [1, 2, 0] rfl)
end
section
/-! Throwing: what a method that may throw asks of its start beside its world, and what stands where it has thrown -/
def ex_names : List String := ["java/lang/RuntimeException", "java/lang/Exception"]
abbrev ex_A : String := "java/lang/IllegalArgumentException"
abbrev ex_S : String := "java/lang/IllegalStateException"
abbrev ex_I : String := "java/lang/IndexOutOfBoundsException"
def ex_strs : List (Nat × String) := [(31, "cells, row or column is out of range"), (36, "it would not stand within the yard"), (42, "the first vehicle is a car along the row 2"), (50, "no vehicle can be parked now"), (67, "it cannot stand on these cells"), (84, "row or column is out of range"), (86, "moves were made"), (100, "a lorry fills that cell"), (115, "no such vehicle"), (118, "cells is out of range"), (130, "it cannot go so far"), (168, "place is out of range")]
def ex_bad : List Cond := [.castable ex_A ex_A, .castable ex_S ex_S, .castable ex_I ex_I, .declares (Bundle.initS "java/lang/RuntimeException"), .declares (Bundle.initS "java/lang/Exception"), .declares (Bundle.initS Bundle.tN)]
/-- the text constants' addresses, and the classes' words -/
def ex_St (sa : Nat → Nat) (U : State) : Prop := (∀ q ∈ ex_strs, vk_R RX2 q.1 q.2 (sa q.1) U) ∧ ∀ w ∈ ex_bad, va_Nw w U
theorem ex_bad_tab : ∀ w ∈ ex_bad, w.onTables = true := by
  intro w hw
  simp only [ex_bad, List.mem_cons, List.not_mem_nil, or_false] at hw
  rcases hw with rfl | rfl | rfl | rfl | rfl | rfl <;> rfl
theorem ex_St.same {sa : Nat → Nat} {u U : State} (h : U.vm = u.vm) (q : ex_St sa u) : ex_St sa U := ⟨fun x hx => vk_R.same h (q.1 x hx), fun w hw => va_Nw.same (ex_bad_tab w hw) h.symm (q.2 w hw)⟩
theorem ex_St.warm {sa : Nat → Nat} {s U : State} (hW : s.WarmedH U.vm) (q : ex_St sa s) : ex_St sa U := by
  refine ⟨fun x hx => vk_R.warm hW (q.1 x hx), fun w hw => ?_⟩
  have h := q.2 w hw
  simp only [ex_bad, List.mem_cons, List.not_mem_nil, or_false] at hw
  rcases hw with rfl | rfl | rfl | rfl | rfl | rfl <;> first | exact va_Nw.warmC hW h | exact va_Nw.warmD hW h
theorem ex_get {sa : Nat → Nat} {U : State} {k i : Nat} {tx : String} (q : ex_St sa U) (h : ex_strs[k]? = some (i, tx)) : vk_R RX2 i tx (sa i) U := q.1 (i, tx) (List.mem_of_getElem? h)
theorem ex_words {sa : Nat → Nat} {s : State} {args : Array Value} (q : ex_St sa s) : ∀ w ∈ ex_bad, w.before args s = true := fun w hw => va_Nw.use (ex_bad_tab w hw) (q.2 w hw)
/-- the two static fields that Throwable's constructor reads -/
def ex_Z (A : Nat → Prop) (U : State) (H : Heap) : Prop := vx_Zq Bundle.tN "UNASSIGNED_STACK" Bundle.steD A U H ∧ vx_Zq Bundle.tN "SUPPRESSED_SENTINEL" Bundle.listD A U H
theorem ex_Z.moved {A : Nat → Prop} {u U : State} {H : Heap} (hvm : u.vm.Alike U.vm) (h : ex_Z A u H) : ex_Z A U H := ⟨vx_Zq.moved hvm h.1, vx_Zq.moved hvm h.2⟩
theorem ex_Z.kept {A : Nat → Prop} {U : State} {H H1 : Heap} (h : ex_Z A U H) (hq : ∀ a : Nat, a < H.size → ¬ A a → H1[a]? = H[a]?) : ex_Z A U H1 := ⟨vx_Zq.kept h.1 hq, vx_Zq.kept h.2 hq⟩
theorem ex_Z.narrow {A B : Nat → Prop} {U : State} {H : Heap} (h : ex_Z A U H) (hAB : ∀ q, B q → A q) : ex_Z B U H := ⟨vx_Zq.narrow h.1 hAB, vx_Zq.narrow h.2 hAB⟩
def xx_Pc (D : va_G) (tys : List (ClassId × FieldType)) (ws : va_W) (sz : Nat) (sa : Nat → Nat) (av : List Value) : Array Value → State → Prop := va_Pc av (fun U => U.heap.size = sz ∧ va_P D vwCl ws U.heap ∧ va_K D vwCl tys U ∧ va_D (fun _ => True) ws ∧ nx_Ok U ∧ ex_St sa U ∧ ex_Z (va_A ws sz) U U.heap)
theorem xx_blind {D : va_G} {tys : List (ClassId × FieldType)} {ws : va_W} {sz : Nat} {sa : Nat → Nat} {av : List Value} : FrameBlind (xx_Pc D tys ws sz sa av) := fun a U g mk q => by
  obtain ⟨q0, q1, qP, qK, qD, qN, qE, qZ⟩ := q
  exact ⟨q0, q1, qP, va_K.moved (u := U) (U := U.calling g mk a) (Vm.Alike.refl U.vm) qK, qD, nx_Ok.same (u := U) (U := U.calling g mk a) rfl qN, ex_St.same (u := U) (U := U.calling g mk a) rfl qE, ex_Z.moved (u := U) (U := U.calling g mk a) (Vm.Alike.refl U.vm) qZ⟩
theorem xx_pre {s : State} {H H0 : Heap} {D : va_G} {A : Nat → Prop} {tys : List (ClassId × FieldType)} {wc : va_W} {sa : Nat → Nat} {av : List Value} (hPc : va_P D vwCl wc H) (hDc : va_D A wc) (hK : va_K D vwCl tys s) (hN : nx_Ok s) (hE : ex_St sa s) (hZ : ex_Z A s H) (hF : ∀ q, va_A wc H.size q → A q) : ∀ U : State, U.heap = H → s.WarmedH U.vm → xx_Pc D tys wc H.size sa av av.toArray U := fun U hU hW => ⟨rfl, by rw [hU], by rw [hU]; exact hPc, va_K.moved hW.alike hK, hDc.weaken (fun _ _ _ _ => trivial), nx_Ok.warm hW hN, ex_St.warm hW hE, by rw [hU]; exact (hZ.narrow hF).moved hW.alike⟩
/-- it returned: ok says for which arguments it does -/
abbrev xx_Qi {S : Type} (ok : Prop) (g : Int32) (f : S) (w : S → va_W) (D : va_G) (ws0 : va_W) (sz : Nat) : Array Value → State → Outcome → State → Prop := va_Qi (fun (r : Int32) (u : S) => ok ∧ r = g ∧ u = f) (fun u t => va_P D vwCl (w u) t.heap ∧ va_D (va_A ws0 sz) (w u)) (va_A ws0 sz)
abbrev xx_Qv {S : Type} (ok : Prop) (f : S) (w : S → va_W) (D : va_G) (ws0 : va_W) (sz : Nat) : Array Value → State → Outcome → State → Prop := va_Qv (fun (u : S) => ok ∧ u = f) (fun u t => va_P D vwCl (w u) t.heap ∧ va_D (va_A ws0 sz) (w u)) (va_A ws0 sz)
/-- it threw: which exception by the arguments; its world is as it was -/
abbrev xx_X (P : String → Prop) (D : va_G) (ws0 : va_W) (A : Nat → Prop) : String → State → State → Prop := vx_X (fun _ : Unit => True) (fun E _ t => P E ∧ va_P D vwCl ws0 t.heap) A
theorem xx_x {s : State} {H : Heap} {D : va_G} {A : Nat → Prop} {ws : va_W} {locs : List Loc} {P : String → Prop} {E : String} (hP : va_P D vwCl ws H) (hS : va_S A s.heap H locs) (hp : P E) : ∀ t : State, s.vm.Alike t.vm → H.size ≤ t.heap.size → (∀ q : Nat, q < H.size → t.heap[q]? = H[q]?) → xx_X P D ws A E s t :=
  fun t _ hz hk => ⟨(), trivial, ⟨hp, va_P.kept hP (fun k q hq => hk q.1 (hP k q hq).lt)⟩, Nat.le_trans hS.1 hz, fun q h1 h2 => (hk q (Nat.lt_of_lt_of_le h1 hS.1)).trans (hS.2.1 q h1 h2)⟩
theorem ex_bA : ∀ w ∈ (vx_atS RX2 33 ex_A ex_names).filter (fun w => !goodWord w), w ∈ ex_bad := by decide +kernel
theorem ex_bS : ∀ w ∈ (vx_atS RX2 52 ex_S ex_names).filter (fun w => !goodWord w), w ∈ ex_bad := by decide +kernel
theorem ex_bI : ∀ w ∈ (vx_atS RX2 117 ex_I ex_names).filter (fun w => !goodWord w), w ∈ ex_bad := by decide +kernel
theorem ex_gA : ∀ w ∈ Cond.classLink RX2 29 ex_A :: Cond.initialized ex_A :: vx_atS RX2 33 ex_A ex_names, vx_ot w = true := by decide +kernel
theorem ex_gS : ∀ w ∈ Cond.classLink RX2 48 ex_S :: Cond.initialized ex_S :: vx_atS RX2 52 ex_S ex_names, vx_ot w = true := by decide +kernel
theorem ex_gI : ∀ w ∈ Cond.classLink RX2 113 ex_I :: Cond.initialized ex_I :: vx_atS RX2 117 ex_I ex_names, vx_ot w = true := by decide +kernel
theorem ex_fit : ∀ n ∈ ex_names, Bundle.fit n = true := by decide +kernel
/-! RampJam: its state, and what its methods answer -/
abbrev XS : Type := JS × SS × YS
abbrev x_J (X : XS) : JS := X.1
abbrev x_S (X : XS) : SS := X.2.1
abbrev x_Y (X : XS) : YS := X.2.2
def y_num (Y : YS) : Int32 := if y_n Y < 9 then nI (y_n Y) else -1
def j_way (X : XS) (v f : Int32) : Int32 := y_way (x_Y X) (j_po (x_J X)) (y_fil (x_Y X) (j_po (x_J X)) (y_n (x_Y X))) v (if f = 0 then -1 else 1)
def x_stand (X : XS) (p : Int32) : XS := ((j_pp (x_J X), p, j_mc (x_J X), j_dc (x_J X), 0), x_S X, x_Y X)
def x_move (X : XS) (v c : Int32) : XS := ((j_pp (x_J X), mv (j_po (x_J X)) v c, j_mc (x_J X) + 1, j_dc (x_J X) + iabs c, 0), x_S X, x_Y X)
def x_srch (X : XS) : XS := if j_is (x_J X) = 0 then ((j_pp (x_J X), j_po (x_J X), j_mc (x_J X), j_dc (x_J X), 1), s_look (x_Y X) (x_S X) (j_po (x_J X)), x_Y X) else X
def x_rest (X : XS) : XS := ((j_pp (x_J X), j_pp (x_J X), 0, 0, 0), x_S X, x_Y X)
def x_solv (Z : XS) : XS := if s_sm (x_S Z) ≤ 0 then Z else ((j_pp (x_J Z), s_pos (x_S Z), j_mc (x_J Z) + s_sm (x_S Z), j_dc (x_J Z) + s_sc (x_S Z), 0), x_S Z, x_Y Z)
theorem xs_ite2 (c : Prop) [Decidable c] (A B : XS) (C : YS) (h1 : A.2.2 = C) (h2 : B.2.2 = C) : (if c then A else B).2.2 = C := by
  by_cases hc : c
  · rw [if_pos hc]; exact h1
  · rw [if_neg hc]; exact h2
theorem xs_t3 {α β γ : Type} (x : α) (y : β) (z : γ) : (x, y, z).2.2 = z := rfl
theorem x_srch_Y (X : XS) : (x_srch X).2.2 = X.2.2 := xs_ite2 _ _ _ _ (xs_t3 _ _ _) rfl
def j_wo (c0 : Nat) : Nat → Int64
  | 0 => 0
  | k + 1 => j_wo c0 k ||| co 2 (nI (c0 + k))
def j_cnt (Y : YS) (x : Int32) (wo : Int64) : Nat → Int32
  | 0 => 0
  | k + 1 => if y_cel Y x (nI k) &&& wo = 0 then j_cnt Y x wo k else j_cnt Y x wo k + 1
theorem pl_ex (x v : Int32) : ∃ j : Nat, j < 8 ∧ pl x v = nI j := pk_andE _ (m := 7) 3 (by decide)
def pl_nat (x v : Int32) : Nat := (pl x v).toNatClampNeg
theorem pl_nI (x v : Int32) : pl_nat x v < 8 ∧ pl x v = nI (pl_nat x v) := by
  obtain ⟨j, h1, h2⟩ := pl_ex x v
  have h3 : pl_nat x v = j := by rw [pl_nat, h2]; exact nI_clamp (by omega)
  rw [h3]; exact ⟨h1, h2⟩
def j_itw (X : XS) : Int32 := j_cnt (x_Y X) (j_po (x_J X)) (j_wo (pl_nat (j_po (x_J X)) 0 + 2) (6 - (pl_nat (j_po (x_J X)) 0 + 2))) (y_n (x_Y X))
def p_line (a r q : Int32) : Int32 := if a = 0 then q else r
def p_plc (a r q : Int32) : Int32 := if a = 0 then r else q
def park_th (X : XS) (c a r q : Int32) : Nat :=
  if c < 2 ∨ 4 < c ∨ ¬ inY r q then 1
  else if ¬ p_plc a r q + c ≤ 6 then 1
  else if nI (y_n (x_Y X)) = 0 ∧ (¬ c = 2 ∨ a = 0 ∨ ¬ r = 2) then 1
  else if 0 < j_mc (x_J X) ∨ ¬ nI (y_n (x_Y X)) < 9 then 2
  else if ¬ cso a r q (min c.toNatClampNeg 4) &&& (y_fil (x_Y X) (j_po (x_J X)) (y_n (x_Y X)) ||| y_bar (x_Y X) c) = 0 then 2 else 0
def x_park (X : XS) (c a r q : Int32) : XS := ((mv (j_pp (x_J X)) (y_num (x_Y X)) (p_plc a r q), mv (j_pp (x_J X)) (y_num (x_Y X)) (p_plc a r q), j_mc (x_J X), j_dc (x_J X), 0), x_S X, y_add (x_Y X) c a (p_line a r q))
def ramp_th (X : XS) (r q : Int32) : Nat :=
  if ¬ inY r q then 1 else if ¬ j_mc (x_J X) ≤ 0 then 2
  else if y_lor (x_Y X) (y_on (x_Y X) (j_po (x_J X)) (co r q) (y_n (x_Y X)) 0) then 2 else 0
def x_ramp (X : XS) (r q : Int32) : XS := ((j_pp (x_J X), j_po (x_J X), j_mc (x_J X), j_dc (x_J X), 0), x_S X, y_put (x_Y X) (co r q))
def drive_th (X : XS) (v c : Int32) : Nat :=
  if ¬ y_has (x_Y X) v then 1 else if c < -4 ∨ 4 < c ∨ c = 0 then 2
  else if ¬ iabs c ≤ j_way X v (if c ≤ 0 then 0 else 1) then 3 else 0
def has_th (X : XS) (v : Int32) : Nat := if y_has (x_Y X) v then 0 else 1
def x_dron (X : XS) (v f : Int32) : XS := if j_way X v f ≤ 0 then X else x_move X v (if f = 0 then -j_way X v f else j_way X v f)
def j_row (X : XS) (v : Int32) : Int32 := if y_acr (x_Y X) v then y_line (x_Y X) v else pl (j_po (x_J X)) v
def j_col (X : XS) (v : Int32) : Int32 := if y_acr (x_Y X) v then pl (j_po (x_J X)) v else y_line (x_Y X) v
def at_th (r q : Int32) : Nat := if inY r q then 0 else 1
def reach_th (X : XS) (v p : Int32) : Nat := if ¬ y_has (x_Y X) v then 1 else if p < 0 ∨ ¬ p < 6 then 2 else 0
theorem s_fat_z (S : SS) (v p : Int32) : ∀ (d k : Nat), narrow .boolean (.int (s_fat S v p d k)) = .int (s_fat S v p d k)
  | 0, _ => by
    rw [s_fat]; rfl
  | d + 1, k => by
    rw [s_fat]
    split
    · split
      · rfl
      · exact s_fat_z S v p d (k + 1)
    · rfl
end
section
theorem c_X0_lookFromZ (l : Launch) (G : va_G) (cI cZ cJ : ClassId) (a : Nat → Nat) (sz : Nat) (S : SS) (Y : YS) (x_g : Int32) (hn : y_n Y ≤ 9) (Z : SS) (hZ : s_look Y S x_g = Z) : Met l yX0_lookFrom wsX0_lookFrom ({ frames := 4, cells := 0, slots := 0, locals := 102 }) (rw_Pc G [(cI, .int), (cZ, .boolean), (cJ, .long)] (wS cI cZ cJ a S Y) sz [.ref (a 1), .int x_g]) (rw_Qv (S := SS) Z (fun u : SS => wS cI cZ cJ a u Y) G (wS cI cZ cJ a S Y) sz) 0 0 (va_A (wS cI cZ cJ a S Y) sz) := by
  subst hZ
  exact c_X0_lookFrom l G cI cZ cJ a sz S Y x_g hn

theorem in_X1_putRamp_1 : ∀ w ∈ wsX10, w ∈ wsX1_putRamp := by decide +kernel
set_option maxHeartbeats 4000000 in
set_option maxRecDepth 100000 in
/-- Yard.putRamp -/
theorem c_X1_putRamp (l : Launch) (G : va_G) (cI cZ cJ : ClassId) (a : Nat → Nat) (sz : Nat) (Y : YS) (w_g : Int64)  : Met l yX1_putRamp wsX1_putRamp ({ frames := 0, cells := 0, slots := 0, locals := 0 }) (rw_Pc G [(cI, .int), (cZ, .boolean), (cJ, .long)] (wY cI cZ cJ a Y) sz [.ref (a 6), .long w_g]) (rw_Qv (S := YS) (y_put Y w_g) (fun u : YS => wY cI cZ cJ a u) G (wY cI cZ cJ a Y) sz) 0 0 (va_A (wY cI cZ cJ a Y) sz) := by
  refine Met.ofW (cc := cX1_putRamp) (maxL := 3) (ret := none) (by decide) rfl ?_
  intro p e s m args below meth c s₁ B hml hv
  obtain ⟨rfl, hsz, hP, hK, hD0, hN⟩ := hv
  have hx := B.exec
  have hb := B.bytes
  have hr := B.returns
  have hts := atoms_spec (ws := wsX1_putRamp) B.pre
  have hown : s.vm.findClass RX1 = some m.cls := findClass_of_methodNamed B.named
  have hlocks := B.notSynchronized
  subst hsz
  have hD0 : va_D (fun _ => True) [((a 6), .inr (1, [.ref (a 7), .ref (a 8), .ref (a 9), .ref (a 10), .int (nI (y_n Y)), .long (y_rp Y)])), ((a 7), .inl (cI, 9, .inl (y_sz Y))), ((a 8), .inl (cZ, 9, .inl (y_ac Y))), ((a 9), .inl (cI, 9, .inl (y_li Y))), ((a 10), .inl (cJ, 9, .inr (.inl (y_sh Y))))] := hD0
  have hD := hD0.self (sz := s.heap.size)
  unfold rw_Qv
  generalize hAe : va_A (wY cI cZ cJ a Y) s.heap.size = A at hD ⊢
  have hA : ∀ q : Nat, s.heap.size ≤ q → A q := fun q h => by rw [← hAe]; exact Or.inr h
  have hS : va_S A s.heap s.heap [] := va_S.rf
  have hP : va_P G vwCl [((a 6), .inr (1, [.ref (a 7), .ref (a 8), .ref (a 9), .ref (a 10), .int (nI (y_n Y)), .long (y_rp Y)])), ((a 7), .inl (cI, 9, .inl (y_sz Y))), ((a 8), .inl (cZ, 9, .inl (y_ac Y))), ((a 9), .inl (cI, 9, .inl (y_li Y))), ((a 10), .inl (cJ, 9, .inr (.inl (y_sh Y))))] s.heap := hP
  have hl := lv_entry ([.ref (a 6), .long w_g]) (n := 3) (Nat.le_of_ble_eq_true rfl)
  rw [lg_entry_eq]
  generalize (lg_sl ([.ref (a 6), .long w_g]) ++ List.replicate (3 - (lg_sl ([.ref (a 6), .long w_g])).length) Slot.unset).toArray = ls at hl ⊢
  have hl : lv_has ls 3 [(0, .ref (a 6)), (1, .long w_g)] := hl
  refine lv_aload_n hx hb dX1_putRamp_0 rfl (lv_at hl 0 rfl) ?_
  refine lv_lload_n hx hb dX1_putRamp_1 rfl (lv_at hl 1 rfl) ?_
  refine va_put (D := G) (ci := 1) (v := .long w_g) (ty := .long) (C := RX1) (T := TX1) (N := 6) hx hb hts in_X1_putRamp_1 tyX1 tyX1_ok nmX1 hown hK hP hD hS 0 rfl rfl 5 (by decide) (hts (.fieldLink RX1 34 "RampJam$Yard" "rampCell" "J") (by decide +kernel)) (fun _ h9 => h9) rfl (by decide +kernel) rfl rfl (Nat.le_of_ble_eq_true rfl) dX1_putRamp_2 (fun H locs hP hD hS => ?_)
  have hP : va_P G vwCl [((a 6), .inr (1, [.ref (a 7), .ref (a 8), .ref (a 9), .ref (a 10), .int (nI (y_n Y)), .long w_g])), ((a 7), .inl (cI, 9, .inl (y_sz Y))), ((a 8), .inl (cZ, 9, .inl (y_ac Y))), ((a 9), .inl (cI, 9, .inl (y_li Y))), ((a 10), .inl (cJ, 9, .inr (.inl (y_sh Y))))] H := hP
  have hD : va_D A [((a 6), .inr (1, [.ref (a 7), .ref (a 8), .ref (a 9), .ref (a 10), .int (nI (y_n Y)), .long w_g])), ((a 7), .inl (cI, 9, .inl (y_sz Y))), ((a 8), .inl (cZ, 9, .inl (y_ac Y))), ((a 9), .inl (cI, 9, .inl (y_li Y))), ((a 10), .inl (cJ, 9, .inr (.inl (y_sh Y))))] := hD
  have hP9 := hP
  have hD9 := hD
  exact W.vret hx hb hr (fun t ht hW => ⟨⟨((y_sz Y), (y_ac Y), (y_li Y), (y_sh Y), (y_n Y), w_g), rfl, rfl, by rw [ht]; exact hP9, hD9⟩, hS.F ht⟩) hS.2.2 dX1_putRamp_5

theorem in_X1_add_1 : ∀ w ∈ wsX10, w ∈ wsX1_add := by decide +kernel
set_option maxHeartbeats 4000000 in
set_option maxRecDepth 100000 in
/-- Yard.add -/
theorem c_X1_add (l : Launch) (G : va_G) (cI cZ cJ : ClassId) (a : Nat → Nat) (sz : Nat) (Y : YS) (c_g : Int32) (b_g : Int32) (q_g : Int32) (hn : y_n Y ≤ 9) : Met l yX1_add wsX1_add ({ frames := 2, cells := 0, slots := 0, locals := 47 }) (rw_Pc G [(cI, .int), (cZ, .boolean), (cJ, .long)] (wY cI cZ cJ a Y) sz [.ref (a 6), .int c_g, .int b_g, .int q_g]) (rw_Qi (S := YS) (y_num Y) (y_add Y c_g b_g q_g) (fun u : YS => wY cI cZ cJ a u) G (wY cI cZ cJ a Y) sz) 0 0 (va_A (wY cI cZ cJ a Y) sz) := by
  refine Met.ofW (cc := cX1_add) (maxL := 5) (ret := (some .int)) (by decide) rfl ?_
  intro p e s m args below meth c s₁ B hml hv
  obtain ⟨rfl, hsz, hP, hK, hD0, hN⟩ := hv
  have hx := B.exec
  have hb := B.bytes
  have hr := B.returns
  have hts := atoms_spec (ws := wsX1_add) B.pre
  have hown : s.vm.findClass RX1 = some m.cls := findClass_of_methodNamed B.named
  have hlocks := B.notSynchronized
  subst hsz
  have hD0 : va_D (fun _ => True) [((a 6), .inr (1, [.ref (a 7), .ref (a 8), .ref (a 9), .ref (a 10), .int (nI (y_n Y)), .long (y_rp Y)])), ((a 7), .inl (cI, 9, .inl (y_sz Y))), ((a 8), .inl (cZ, 9, .inl (y_ac Y))), ((a 9), .inl (cI, 9, .inl (y_li Y))), ((a 10), .inl (cJ, 9, .inr (.inl (y_sh Y))))] := hD0
  have hD := hD0.self (sz := s.heap.size)
  unfold rw_Qi
  generalize hAe : va_A (wY cI cZ cJ a Y) s.heap.size = A at hD ⊢
  have hA : ∀ q : Nat, s.heap.size ≤ q → A q := fun q h => by rw [← hAe]; exact Or.inr h
  have hS : va_S A s.heap s.heap [] := va_S.rf
  have hP : va_P G vwCl [((a 6), .inr (1, [.ref (a 7), .ref (a 8), .ref (a 9), .ref (a 10), .int (nI (y_n Y)), .long (y_rp Y)])), ((a 7), .inl (cI, 9, .inl (y_sz Y))), ((a 8), .inl (cZ, 9, .inl (y_ac Y))), ((a 9), .inl (cI, 9, .inl (y_li Y))), ((a 10), .inl (cJ, 9, .inr (.inl (y_sh Y))))] s.heap := hP
  have hl := lv_entry ([.ref (a 6), .int c_g, .int b_g, .int q_g]) (n := 5) (Nat.le_of_ble_eq_true rfl)
  rw [lg_entry_eq]
  generalize (lg_sl ([.ref (a 6), .int c_g, .int b_g, .int q_g]) ++ List.replicate (5 - (lg_sl ([.ref (a 6), .int c_g, .int b_g, .int q_g])).length) Slot.unset).toArray = ls at hl ⊢
  have hl : lv_has ls 5 [(0, .ref (a 6)), (1, .int c_g), (2, .int b_g), (3, .int q_g)] := hl
  refine lv_aload_n hx hb dX1_add_0 rfl (lv_at hl 0 rfl) ?_
  refine va_get (D := G) (ci := 1) (v := .int (nI (y_n Y))) (C := RX1) (T := TX1) (N := 6) hx hb hts in_X1_add_1 hown hK hP 0 rfl rfl 4 (by decide) (hts (.fieldLink RX1 26 "RampJam$Yard" "vehicleCount" "I") (by decide +kernel)) (fun _ h9 => h9) rfl dX1_add_1 ?_
  refine lv_istore (lv' := [(4, .int (nI (y_n Y))), (0, .ref (a 6)), (1, .int c_g), (2, .int b_g), (3, .int q_g)]) hx hb dX1_add_4 hl (by decide) rfl (fun ls hl => ?_)
  refine lv_iload hx hb dX1_add_6 (lv_at hl 0 rfl) ?_
  refine lv_if_lt (tgt := 18) hx hb dX1_add_8 (by decide) (fun c_1 => ?_) (fun c_1 => ?_)
  · exact absurd c_1 (nI_pos (by omega))
  · refine lv_iload hx hb dX1_add_11 (lv_at hl 0 rfl) ?_
    refine lv_bipush (v := 9) hx hb dX1_add_13 (by decide) ?_
    refine lv_icmp_lt (tgt := 20) hx hb dX1_add_15 (by decide) (fun c_2 => ?_) (fun c_2 => ?_)
    · have h9 : y_n Y < 9 := (nI_ltI (a := y_n Y) (b := 9) (by omega) (by omega)).mp c_2
      refine lv_aload_n hx hb dX1_add_20 rfl (lv_at hl 1 rfl) ?_
      refine va_get (D := G) (ci := 1) (v := .ref (a 7)) (C := RX1) (T := TX1) (N := 6) hx hb hts in_X1_add_1 hown hK hP 0 rfl rfl 0 (by decide) (hts (.fieldLink RX1 9 "RampJam$Yard" "sizes" "[I") (by decide +kernel)) (fun _ h9 => h9) rfl dX1_add_21 ?_
      refine lv_iload hx hb dX1_add_24 (lv_at hl 0 rfl) ?_
      refine lv_iload_n hx hb dX1_add_26 rfl (lv_at hl 2 rfl) ?_
      refine va_iast hx hb hK hP hD hS 1 0 rfl rfl (vp_in_nI (by omega) (by decide)) dX1_add_27 (fun H locs hP hD hS => ?_)
      rw [show (nI (y_n Y)).toNatClampNeg = (y_n Y) from nI_clamp (by omega)] at hP hD
      have hP : va_P G vwCl [((a 6), .inr (1, [.ref (a 7), .ref (a 8), .ref (a 9), .ref (a 10), .int (nI (y_n Y)), .long (y_rp Y)])), ((a 7), .inl (cI, 9, .inl (upd (y_sz Y) (y_n Y) c_g))), ((a 8), .inl (cZ, 9, .inl (y_ac Y))), ((a 9), .inl (cI, 9, .inl (y_li Y))), ((a 10), .inl (cJ, 9, .inr (.inl (y_sh Y))))] H := hP
      have hD : va_D A [((a 6), .inr (1, [.ref (a 7), .ref (a 8), .ref (a 9), .ref (a 10), .int (nI (y_n Y)), .long (y_rp Y)])), ((a 7), .inl (cI, 9, .inl (upd (y_sz Y) (y_n Y) c_g))), ((a 8), .inl (cZ, 9, .inl (y_ac Y))), ((a 9), .inl (cI, 9, .inl (y_li Y))), ((a 10), .inl (cJ, 9, .inr (.inl (y_sh Y))))] := hD
      refine lv_aload_n hx hb dX1_add_28 rfl (lv_at hl 1 rfl) ?_
      refine va_get (D := G) (ci := 1) (v := .ref (a 8)) (C := RX1) (T := TX1) (N := 6) hx hb hts in_X1_add_1 hown hK hP 0 rfl rfl 1 (by decide) (hts (.fieldLink RX1 15 "RampJam$Yard" "acrosses" "[Z") (by decide +kernel)) (fun _ h9 => h9) rfl dX1_add_29 ?_
      refine lv_iload hx hb dX1_add_32 (lv_at hl 0 rfl) ?_
      refine lv_iload_n hx hb dX1_add_34 rfl (lv_at hl 3 rfl) ?_
      refine va_zast hx hb hK hP hD hS 2 1 rfl rfl (vp_in_nI (by omega) (by decide)) dX1_add_35 (fun H locs hP hD hS => ?_)
      rw [show (nI (y_n Y)).toNatClampNeg = (y_n Y) from nI_clamp (by omega)] at hP hD
      have hP : va_P G vwCl [((a 6), .inr (1, [.ref (a 7), .ref (a 8), .ref (a 9), .ref (a 10), .int (nI (y_n Y)), .long (y_rp Y)])), ((a 7), .inl (cI, 9, .inl (upd (y_sz Y) (y_n Y) c_g))), ((a 8), .inl (cZ, 9, .inl (upd (y_ac Y) (y_n Y) (vp_nar .boolean b_g)))), ((a 9), .inl (cI, 9, .inl (y_li Y))), ((a 10), .inl (cJ, 9, .inr (.inl (y_sh Y))))] H := hP
      have hD : va_D A [((a 6), .inr (1, [.ref (a 7), .ref (a 8), .ref (a 9), .ref (a 10), .int (nI (y_n Y)), .long (y_rp Y)])), ((a 7), .inl (cI, 9, .inl (upd (y_sz Y) (y_n Y) c_g))), ((a 8), .inl (cZ, 9, .inl (upd (y_ac Y) (y_n Y) (vp_nar .boolean b_g)))), ((a 9), .inl (cI, 9, .inl (y_li Y))), ((a 10), .inl (cJ, 9, .inr (.inl (y_sh Y))))] := hD
      refine lv_aload_n hx hb dX1_add_36 rfl (lv_at hl 1 rfl) ?_
      refine va_get (D := G) (ci := 1) (v := .ref (a 9)) (C := RX1) (T := TX1) (N := 6) hx hb hts in_X1_add_1 hown hK hP 0 rfl rfl 2 (by decide) (hts (.fieldLink RX1 19 "RampJam$Yard" "lines" "[I") (by decide +kernel)) (fun _ h9 => h9) rfl dX1_add_37 ?_
      refine lv_iload hx hb dX1_add_40 (lv_at hl 0 rfl) ?_
      refine lv_iload_n hx hb dX1_add_42 rfl (lv_at hl 4 rfl) ?_
      refine va_iast hx hb hK hP hD hS 3 0 rfl rfl (vp_in_nI (by omega) (by decide)) dX1_add_43 (fun H locs hP hD hS => ?_)
      rw [show (nI (y_n Y)).toNatClampNeg = (y_n Y) from nI_clamp (by omega)] at hP hD
      have hP : va_P G vwCl [((a 6), .inr (1, [.ref (a 7), .ref (a 8), .ref (a 9), .ref (a 10), .int (nI (y_n Y)), .long (y_rp Y)])), ((a 7), .inl (cI, 9, .inl (upd (y_sz Y) (y_n Y) c_g))), ((a 8), .inl (cZ, 9, .inl (upd (y_ac Y) (y_n Y) (vp_nar .boolean b_g)))), ((a 9), .inl (cI, 9, .inl (upd (y_li Y) (y_n Y) q_g))), ((a 10), .inl (cJ, 9, .inr (.inl (y_sh Y))))] H := hP
      have hD : va_D A [((a 6), .inr (1, [.ref (a 7), .ref (a 8), .ref (a 9), .ref (a 10), .int (nI (y_n Y)), .long (y_rp Y)])), ((a 7), .inl (cI, 9, .inl (upd (y_sz Y) (y_n Y) c_g))), ((a 8), .inl (cZ, 9, .inl (upd (y_ac Y) (y_n Y) (vp_nar .boolean b_g)))), ((a 9), .inl (cI, 9, .inl (upd (y_li Y) (y_n Y) q_g))), ((a 10), .inl (cJ, 9, .inr (.inl (y_sh Y))))] := hD
      refine lv_aload_n hx hb dX1_add_44 rfl (lv_at hl 1 rfl) ?_
      refine va_get (D := G) (ci := 1) (v := .ref (a 10)) (C := RX1) (T := TX1) (N := 6) hx hb hts in_X1_add_1 hown hK hP 0 rfl rfl 3 (by decide) (hts (.fieldLink RX1 22 "RampJam$Yard" "shapes" "[J") (by decide +kernel)) (fun _ h9 => h9) rfl dX1_add_45 ?_
      refine lv_iload hx hb dX1_add_48 (lv_at hl 0 rfl) ?_
      have cut_71 : ∀ (z_g : Int64), (z_g = y_csh c_g b_g q_g) → ∀ (H : Heap) (locs : List Loc), va_P G vwCl [((a 6), .inr (1, [.ref (a 7), .ref (a 8), .ref (a 9), .ref (a 10), .int (nI (y_n Y)), .long (y_rp Y)])), ((a 7), .inl (cI, 9, .inl (upd (y_sz Y) (y_n Y) c_g))), ((a 8), .inl (cZ, 9, .inl (upd (y_ac Y) (y_n Y) (vp_nar .boolean b_g)))), ((a 9), .inl (cI, 9, .inl (upd (y_li Y) (y_n Y) q_g))), ((a 10), .inl (cJ, 9, .inr (.inl (y_sh Y))))] H → va_D A [((a 6), .inr (1, [.ref (a 7), .ref (a 8), .ref (a 9), .ref (a 10), .int (nI (y_n Y)), .long (y_rp Y)])), ((a 7), .inl (cI, 9, .inl (upd (y_sz Y) (y_n Y) c_g))), ((a 8), .inl (cZ, 9, .inl (upd (y_ac Y) (y_n Y) (vp_nar .boolean b_g)))), ((a 9), .inl (cI, 9, .inl (upd (y_li Y) (y_n Y) q_g))), ((a 10), .inl (cJ, 9, .inr (.inl (y_sh Y))))] → va_S A s.heap H locs → ∀ (ls : Array Slot), lv_has ls 5 [(4, .int (nI (y_n Y))), (0, .ref (a 6)), (1, .int c_g), (2, .int b_g), (3, .int q_g)] → W p l e (headSpec wsX1_add ({ frames := 2, cells := 0, slots := 0, locals := 47 })).room s m ([.ref (a 6), .int c_g, .int b_g, .int q_g] : List Value).toArray below meth c H locs 0 0 (MQ below (va_Qi (fun (r : Int32) (u : YS) => r = (y_num Y) ∧ u = (y_add Y c_g b_g q_g)) (fun (u : YS) (t : State) => va_P G vwCl ((fun u : YS => wY cI cZ cJ a u) u) t.heap ∧ va_D A ((fun u : YS => wY cI cZ cJ a u) u)) A) ([.ref (a 6), .int c_g, .int b_g, .int q_g] : List Value).toArray s 0 0 A) (F0 m 71 ls [.long z_g, .int (nI (y_n Y)), .ref (a 10)]) := by
        intro z_g ez_g H locs hP hD hS ls hl
        subst ez_g
        try have hl : lv_has ls 5 [(4, .int (nI (y_n Y))), (0, .ref (a 6)), (1, .int c_g), (2, .int b_g), (3, .int q_g)] := hl
        refine va_last hx hb hK hP hD hS 4 2 rfl rfl (vp_in_nI (by omega) (by decide)) dX1_add_71 (fun H locs hP hD hS => ?_)
        rw [show (nI (y_n Y)).toNatClampNeg = (y_n Y) from nI_clamp (by omega)] at hP hD
        have hP : va_P G vwCl [((a 6), .inr (1, [.ref (a 7), .ref (a 8), .ref (a 9), .ref (a 10), .int (nI (y_n Y)), .long (y_rp Y)])), ((a 7), .inl (cI, 9, .inl (upd (y_sz Y) (y_n Y) c_g))), ((a 8), .inl (cZ, 9, .inl (upd (y_ac Y) (y_n Y) (vp_nar .boolean b_g)))), ((a 9), .inl (cI, 9, .inl (upd (y_li Y) (y_n Y) q_g))), ((a 10), .inl (cJ, 9, .inr (.inl (vp_updL (y_sh Y) (y_n Y) (y_csh c_g b_g q_g)))))] H := hP
        have hD : va_D A [((a 6), .inr (1, [.ref (a 7), .ref (a 8), .ref (a 9), .ref (a 10), .int (nI (y_n Y)), .long (y_rp Y)])), ((a 7), .inl (cI, 9, .inl (upd (y_sz Y) (y_n Y) c_g))), ((a 8), .inl (cZ, 9, .inl (upd (y_ac Y) (y_n Y) (vp_nar .boolean b_g)))), ((a 9), .inl (cI, 9, .inl (upd (y_li Y) (y_n Y) q_g))), ((a 10), .inl (cJ, 9, .inr (.inl (vp_updL (y_sh Y) (y_n Y) (y_csh c_g b_g q_g)))))] := hD
        refine lv_aload_n hx hb dX1_add_72 rfl (lv_at hl 1 rfl) ?_
        refine lv_iload hx hb dX1_add_73 (lv_at hl 0 rfl) ?_
        refine lv_iconst (v := 1) hx hb dX1_add_75 (by decide) ?_
        refine lv_iadd hx hb dX1_add_76 ?_
        rw [show (((nI (y_n Y)) + 1) : Int32) = (nI (y_n Y + 1)) from nI_1 _]
        refine va_put (D := G) (ci := 1) (v := .int (nI (y_n Y + 1))) (ty := .int) (C := RX1) (T := TX1) (N := 6) hx hb hts in_X1_add_1 tyX1 tyX1_ok nmX1 hown hK hP hD hS 0 rfl rfl 4 (by decide) (hts (.fieldLink RX1 26 "RampJam$Yard" "vehicleCount" "I") (by decide +kernel)) (fun _ h9 => h9) rfl (by decide +kernel) rfl rfl (Nat.le_of_ble_eq_true rfl) dX1_add_77 (fun H locs hP hD hS => ?_)
        have hP : va_P G vwCl [((a 6), .inr (1, [.ref (a 7), .ref (a 8), .ref (a 9), .ref (a 10), .int (nI (y_n Y + 1)), .long (y_rp Y)])), ((a 7), .inl (cI, 9, .inl (upd (y_sz Y) (y_n Y) c_g))), ((a 8), .inl (cZ, 9, .inl (upd (y_ac Y) (y_n Y) (vp_nar .boolean b_g)))), ((a 9), .inl (cI, 9, .inl (upd (y_li Y) (y_n Y) q_g))), ((a 10), .inl (cJ, 9, .inr (.inl (vp_updL (y_sh Y) (y_n Y) (y_csh c_g b_g q_g)))))] H := hP
        have hD : va_D A [((a 6), .inr (1, [.ref (a 7), .ref (a 8), .ref (a 9), .ref (a 10), .int (nI (y_n Y + 1)), .long (y_rp Y)])), ((a 7), .inl (cI, 9, .inl (upd (y_sz Y) (y_n Y) c_g))), ((a 8), .inl (cZ, 9, .inl (upd (y_ac Y) (y_n Y) (vp_nar .boolean b_g)))), ((a 9), .inl (cI, 9, .inl (upd (y_li Y) (y_n Y) q_g))), ((a 10), .inl (cJ, 9, .inr (.inl (vp_updL (y_sh Y) (y_n Y) (y_csh c_g b_g q_g)))))] := hD
        refine lv_iload hx hb dX1_add_80 (lv_at hl 0 rfl) ?_
        have hP9 := hP
        have hD9 := hD
        exact W.iret (v := (nI (y_n Y))) hx hb hr (fun t ht hW => ⟨⟨(nI (y_n Y)), ((upd (y_sz Y) (y_n Y) c_g), (upd (y_ac Y) (y_n Y) (vp_nar .boolean b_g)), (upd (y_li Y) (y_n Y) q_g), (vp_updL (y_sh Y) (y_n Y) (y_csh c_g b_g q_g)), (y_n Y + 1), (y_rp Y)), rfl, ⟨by rw [y_num, if_pos h9], by rw [y_add, if_pos h9]⟩, by rw [ht]; exact hP9, hD9⟩, hS.F ht⟩) hS.2.2 dX1_add_82
      refine lv_iload_n hx hb dX1_add_50 rfl (lv_at hl 3 rfl) ?_
      refine lv_if_eq (tgt := 64) hx hb dX1_add_51 (by decide) (fun c_3 => ?_) (fun c_3 => ?_)
      · refine lv_iload_n hx hb dX1_add_64 rfl (lv_at hl 2 rfl) ?_
        refine lv_iconst (v := 0) hx hb dX1_add_65 (by decide) ?_
        refine lv_iconst (v := 0) hx hb dX1_add_66 (by decide) ?_
        refine lv_iload_n hx hb dX1_add_67 rfl (lv_at hl 4 rfl) ?_
        refine ro_l (va_runSN (As := [.int c_g, .int 0, .int 0, .int q_g]) (rest := [.int (nI (y_n Y)), .ref (a 10)]) ⟨hx, hb, hml, hown, hts⟩ ((c_X2_cellsOf l G cI cZ cJ a _ c_g 0 0 q_g)) ⟨va_cnB 4 hts gX1_add_X2_cellsOf_n30 rfl rfl rfl (nx_get hN (k := 4) rfl) (hts (.initialized RX2) (by decide +kernel)) (by decide +kernel) ⟨Nat.le_of_ble_eq_true rfl, Nat.le_of_ble_eq_true rfl⟩, hts (.static yX2_cellsOf) (by decide +kernel), trivial⟩ ⟨ro_blind, ro_pre va_P0 hK hN⟩ rfl rfl hl.1 rfl (lv_room (Nat.le_of_ble_eq_true rfl)) dX1_add_68 ⟨Nat.zero_le _, Nat.zero_le _⟩) hS hA hP (fun H locs hP hS => ?_)
        exact cut_71 (cso (0 : Int32) (0 : Int32) q_g (min c_g.toNatClampNeg 4)) (by simp [y_csh, c_1, c_2, c_3]) _ _ hP hD hS _ hl
      · refine lv_iload_n hx hb dX1_add_54 rfl (lv_at hl 2 rfl) ?_
        refine lv_iconst (v := 1) hx hb dX1_add_55 (by decide) ?_
        refine lv_iload_n hx hb dX1_add_56 rfl (lv_at hl 4 rfl) ?_
        refine lv_iconst (v := 0) hx hb dX1_add_57 (by decide) ?_
        refine ro_l (va_runSN (As := [.int c_g, .int 1, .int q_g, .int 0]) (rest := [.int (nI (y_n Y)), .ref (a 10)]) ⟨hx, hb, hml, hown, hts⟩ ((c_X2_cellsOf l G cI cZ cJ a _ c_g 1 q_g 0)) ⟨va_cnB 4 hts gX1_add_X2_cellsOf_n30 rfl rfl rfl (nx_get hN (k := 4) rfl) (hts (.initialized RX2) (by decide +kernel)) (by decide +kernel) ⟨Nat.le_of_ble_eq_true rfl, Nat.le_of_ble_eq_true rfl⟩, hts (.static yX2_cellsOf) (by decide +kernel), trivial⟩ ⟨ro_blind, ro_pre va_P0 hK hN⟩ rfl rfl hl.1 rfl (lv_room (Nat.le_of_ble_eq_true rfl)) dX1_add_58 ⟨Nat.zero_le _, Nat.zero_le _⟩) hS hA hP (fun H locs hP hS => ?_)
        refine lv_goto (tgt := 71) hx hb dX1_add_61 (by decide) ?_
        exact cut_71 (cso (1 : Int32) q_g (0 : Int32) (min c_g.toNatClampNeg 4)) (by simp [y_csh, c_1, c_2, c_3]) _ _ hP hD hS _ hl
    · have h9 : 9 ≤ y_n Y := Nat.not_lt.mp (fun q => c_2 ((nI_ltI (a := y_n Y) (b := 9) (by omega) (by omega)).mpr q))
      refine lv_iconst (v := (-1)) hx hb dX1_add_18 (by decide) ?_
      have hP9 := hP
      have hD9 := hD
      exact W.iret (v := (-1)) hx hb hr (fun t ht hW => ⟨⟨(-1), Y, rfl, ⟨by rw [y_num, if_neg (by omega)], by rw [y_add, if_neg (by omega)]⟩, by rw [ht]; exact hP9, hD9⟩, hS.F ht⟩) hS.2.2 dX1_add_19

theorem in_X2_standAt_2 : ∀ w ∈ wsX20, w ∈ wsX2_standAt := by decide +kernel
set_option maxHeartbeats 4000000 in
set_option maxRecDepth 100000 in
/-- RampJam.standAt -/
theorem c_X2_standAt (l : Launch) (G : va_G) (cI cZ cJ : ClassId) (a : Nat → Nat) (sz : Nat) (X : XS) (p_g : Int32)  : Met l yX2_standAt wsX2_standAt ({ frames := 0, cells := 0, slots := 0, locals := 0 }) (rw_Pc G [(cI, .int), (cZ, .boolean), (cJ, .long)] (wJ cI cZ cJ a (x_J X) (x_S X) (x_Y X)) sz [.ref (a 0), .int p_g]) (rw_Qv (S := XS) (x_stand X p_g) (fun u : XS => wJ cI cZ cJ a (x_J u) (x_S u) (x_Y u)) G (wJ cI cZ cJ a (x_J X) (x_S X) (x_Y X)) sz) 0 0 (va_A (wJ cI cZ cJ a (x_J X) (x_S X) (x_Y X)) sz) := by
  refine Met.ofW (cc := cX2_standAt) (maxL := 2) (ret := none) (by decide) rfl ?_
  intro p e s m args below meth c s₁ B hml hv
  obtain ⟨rfl, hsz, hP, hK, hD0, hN⟩ := hv
  have hx := B.exec
  have hb := B.bytes
  have hr := B.returns
  have hts := atoms_spec (ws := wsX2_standAt) B.pre
  have hown : s.vm.findClass RX2 = some m.cls := findClass_of_methodNamed B.named
  have hlocks := B.notSynchronized
  subst hsz
  have hD0 : va_D (fun _ => True) [((a 0), .inr (2, [.ref (a 6), .ref (a 1), .int (j_pp (x_J X)), .int (j_po (x_J X)), .int (j_mc (x_J X)), .int (j_dc (x_J X)), .int (j_is (x_J X))])), ((a 1), .inr (0, [.ref (a 6), .ref (a 2), .ref (a 3), .ref (a 4), .ref (a 5), .int (s_fc (x_S X)), .int (s_fs (x_S X)), .int (s_sm (x_S X)), .int (s_sc (x_S X)), .int (s_sf (x_S X))])), ((a 2), .inl (cI, 800, .inl (s_fo (x_S X)))), ((a 3), .inl (cI, 800, .inl (s_or (x_S X)))), ((a 4), .inl (cI, 800, .inl (s_mo (x_S X)))), ((a 5), .inl (cI, 2048, .inl (s_sl (x_S X)))), ((a 6), .inr (1, [.ref (a 7), .ref (a 8), .ref (a 9), .ref (a 10), .int (nI (y_n (x_Y X))), .long (y_rp (x_Y X))])), ((a 7), .inl (cI, 9, .inl (y_sz (x_Y X)))), ((a 8), .inl (cZ, 9, .inl (y_ac (x_Y X)))), ((a 9), .inl (cI, 9, .inl (y_li (x_Y X)))), ((a 10), .inl (cJ, 9, .inr (.inl (y_sh (x_Y X)))))] := hD0
  have hD := hD0.self (sz := s.heap.size)
  unfold rw_Qv
  generalize hAe : va_A (wJ cI cZ cJ a (x_J X) (x_S X) (x_Y X)) s.heap.size = A at hD ⊢
  have hA : ∀ q : Nat, s.heap.size ≤ q → A q := fun q h => by rw [← hAe]; exact Or.inr h
  have hS : va_S A s.heap s.heap [] := va_S.rf
  have hP : va_P G vwCl [((a 0), .inr (2, [.ref (a 6), .ref (a 1), .int (j_pp (x_J X)), .int (j_po (x_J X)), .int (j_mc (x_J X)), .int (j_dc (x_J X)), .int (j_is (x_J X))])), ((a 1), .inr (0, [.ref (a 6), .ref (a 2), .ref (a 3), .ref (a 4), .ref (a 5), .int (s_fc (x_S X)), .int (s_fs (x_S X)), .int (s_sm (x_S X)), .int (s_sc (x_S X)), .int (s_sf (x_S X))])), ((a 2), .inl (cI, 800, .inl (s_fo (x_S X)))), ((a 3), .inl (cI, 800, .inl (s_or (x_S X)))), ((a 4), .inl (cI, 800, .inl (s_mo (x_S X)))), ((a 5), .inl (cI, 2048, .inl (s_sl (x_S X)))), ((a 6), .inr (1, [.ref (a 7), .ref (a 8), .ref (a 9), .ref (a 10), .int (nI (y_n (x_Y X))), .long (y_rp (x_Y X))])), ((a 7), .inl (cI, 9, .inl (y_sz (x_Y X)))), ((a 8), .inl (cZ, 9, .inl (y_ac (x_Y X)))), ((a 9), .inl (cI, 9, .inl (y_li (x_Y X)))), ((a 10), .inl (cJ, 9, .inr (.inl (y_sh (x_Y X)))))] s.heap := hP
  have hl := lv_entry ([.ref (a 0), .int p_g]) (n := 2) (Nat.le_of_ble_eq_true rfl)
  rw [lg_entry_eq]
  generalize (lg_sl ([.ref (a 0), .int p_g]) ++ List.replicate (2 - (lg_sl ([.ref (a 0), .int p_g])).length) Slot.unset).toArray = ls at hl ⊢
  have hl : lv_has ls 2 [(0, .ref (a 0)), (1, .int p_g)] := hl
  refine lv_aload_n hx hb dX2_standAt_0 rfl (lv_at hl 0 rfl) ?_
  refine lv_iload_n hx hb dX2_standAt_1 rfl (lv_at hl 1 rfl) ?_
  refine va_put (D := G) (ci := 2) (v := .int p_g) (ty := .int) (C := RX2) (T := TX2) (N := 7) hx hb hts in_X2_standAt_2 tyX2 tyX2_ok nmX2 hown hK hP hD hS 0 rfl rfl 3 (by decide) (hts (.fieldLink RX2 57 "RampJam" "position" "I") (by decide +kernel)) (fun _ h9 => h9) rfl (by decide +kernel) rfl rfl (Nat.le_of_ble_eq_true rfl) dX2_standAt_2 (fun H locs hP hD hS => ?_)
  have hP : va_P G vwCl [((a 0), .inr (2, [.ref (a 6), .ref (a 1), .int (j_pp (x_J X)), .int p_g, .int (j_mc (x_J X)), .int (j_dc (x_J X)), .int (j_is (x_J X))])), ((a 1), .inr (0, [.ref (a 6), .ref (a 2), .ref (a 3), .ref (a 4), .ref (a 5), .int (s_fc (x_S X)), .int (s_fs (x_S X)), .int (s_sm (x_S X)), .int (s_sc (x_S X)), .int (s_sf (x_S X))])), ((a 2), .inl (cI, 800, .inl (s_fo (x_S X)))), ((a 3), .inl (cI, 800, .inl (s_or (x_S X)))), ((a 4), .inl (cI, 800, .inl (s_mo (x_S X)))), ((a 5), .inl (cI, 2048, .inl (s_sl (x_S X)))), ((a 6), .inr (1, [.ref (a 7), .ref (a 8), .ref (a 9), .ref (a 10), .int (nI (y_n (x_Y X))), .long (y_rp (x_Y X))])), ((a 7), .inl (cI, 9, .inl (y_sz (x_Y X)))), ((a 8), .inl (cZ, 9, .inl (y_ac (x_Y X)))), ((a 9), .inl (cI, 9, .inl (y_li (x_Y X)))), ((a 10), .inl (cJ, 9, .inr (.inl (y_sh (x_Y X)))))] H := hP
  have hD : va_D A [((a 0), .inr (2, [.ref (a 6), .ref (a 1), .int (j_pp (x_J X)), .int p_g, .int (j_mc (x_J X)), .int (j_dc (x_J X)), .int (j_is (x_J X))])), ((a 1), .inr (0, [.ref (a 6), .ref (a 2), .ref (a 3), .ref (a 4), .ref (a 5), .int (s_fc (x_S X)), .int (s_fs (x_S X)), .int (s_sm (x_S X)), .int (s_sc (x_S X)), .int (s_sf (x_S X))])), ((a 2), .inl (cI, 800, .inl (s_fo (x_S X)))), ((a 3), .inl (cI, 800, .inl (s_or (x_S X)))), ((a 4), .inl (cI, 800, .inl (s_mo (x_S X)))), ((a 5), .inl (cI, 2048, .inl (s_sl (x_S X)))), ((a 6), .inr (1, [.ref (a 7), .ref (a 8), .ref (a 9), .ref (a 10), .int (nI (y_n (x_Y X))), .long (y_rp (x_Y X))])), ((a 7), .inl (cI, 9, .inl (y_sz (x_Y X)))), ((a 8), .inl (cZ, 9, .inl (y_ac (x_Y X)))), ((a 9), .inl (cI, 9, .inl (y_li (x_Y X)))), ((a 10), .inl (cJ, 9, .inr (.inl (y_sh (x_Y X)))))] := hD
  refine lv_aload_n hx hb dX2_standAt_5 rfl (lv_at hl 0 rfl) ?_
  refine lv_iconst (v := 0) hx hb dX2_standAt_6 (by decide) ?_
  refine va_put (D := G) (ci := 2) (v := .int 0) (ty := .boolean) (C := RX2) (T := TX2) (N := 7) hx hb hts in_X2_standAt_2 tyX2 tyX2_ok nmX2 hown hK hP hD hS 0 rfl rfl 6 (by decide) (hts (.fieldLink RX2 106 "RampJam" "isSearched" "Z") (by decide +kernel)) (fun _ h9 => h9) rfl (by decide +kernel) rfl rfl (Nat.le_of_ble_eq_true rfl) dX2_standAt_7 (fun H locs hP hD hS => ?_)
  have hP : va_P G vwCl [((a 0), .inr (2, [.ref (a 6), .ref (a 1), .int (j_pp (x_J X)), .int p_g, .int (j_mc (x_J X)), .int (j_dc (x_J X)), .int 0])), ((a 1), .inr (0, [.ref (a 6), .ref (a 2), .ref (a 3), .ref (a 4), .ref (a 5), .int (s_fc (x_S X)), .int (s_fs (x_S X)), .int (s_sm (x_S X)), .int (s_sc (x_S X)), .int (s_sf (x_S X))])), ((a 2), .inl (cI, 800, .inl (s_fo (x_S X)))), ((a 3), .inl (cI, 800, .inl (s_or (x_S X)))), ((a 4), .inl (cI, 800, .inl (s_mo (x_S X)))), ((a 5), .inl (cI, 2048, .inl (s_sl (x_S X)))), ((a 6), .inr (1, [.ref (a 7), .ref (a 8), .ref (a 9), .ref (a 10), .int (nI (y_n (x_Y X))), .long (y_rp (x_Y X))])), ((a 7), .inl (cI, 9, .inl (y_sz (x_Y X)))), ((a 8), .inl (cZ, 9, .inl (y_ac (x_Y X)))), ((a 9), .inl (cI, 9, .inl (y_li (x_Y X)))), ((a 10), .inl (cJ, 9, .inr (.inl (y_sh (x_Y X)))))] H := hP
  have hD : va_D A [((a 0), .inr (2, [.ref (a 6), .ref (a 1), .int (j_pp (x_J X)), .int p_g, .int (j_mc (x_J X)), .int (j_dc (x_J X)), .int 0])), ((a 1), .inr (0, [.ref (a 6), .ref (a 2), .ref (a 3), .ref (a 4), .ref (a 5), .int (s_fc (x_S X)), .int (s_fs (x_S X)), .int (s_sm (x_S X)), .int (s_sc (x_S X)), .int (s_sf (x_S X))])), ((a 2), .inl (cI, 800, .inl (s_fo (x_S X)))), ((a 3), .inl (cI, 800, .inl (s_or (x_S X)))), ((a 4), .inl (cI, 800, .inl (s_mo (x_S X)))), ((a 5), .inl (cI, 2048, .inl (s_sl (x_S X)))), ((a 6), .inr (1, [.ref (a 7), .ref (a 8), .ref (a 9), .ref (a 10), .int (nI (y_n (x_Y X))), .long (y_rp (x_Y X))])), ((a 7), .inl (cI, 9, .inl (y_sz (x_Y X)))), ((a 8), .inl (cZ, 9, .inl (y_ac (x_Y X)))), ((a 9), .inl (cI, 9, .inl (y_li (x_Y X)))), ((a 10), .inl (cJ, 9, .inr (.inl (y_sh (x_Y X)))))] := hD
  have hP9 := hP
  have hD9 := hD
  exact W.vret hx hb hr (fun t ht hW => ⟨⟨(((j_pp (x_J X)), p_g, (j_mc (x_J X)), (j_dc (x_J X)), 0), (x_S X), (x_Y X)), rfl, rfl, by rw [ht]; exact hP9, hD9⟩, hS.F ht⟩) hS.2.2 dX2_standAt_10

theorem in_X2_makeMove_2 : ∀ w ∈ wsX20, w ∈ wsX2_makeMove := by decide +kernel
set_option maxHeartbeats 4000000 in
set_option maxRecDepth 100000 in
/-- RampJam.makeMove -/
theorem c_X2_makeMove (l : Launch) (G : va_G) (cI cZ cJ : ClassId) (a : Nat → Nat) (sz : Nat) (X : XS) (v_g : Int32) (c_g : Int32)  : Met l yX2_makeMove wsX2_makeMove ({ frames := 1, cells := 0, slots := 0, locals := 22 }) (rw_Pc G [(cI, .int), (cZ, .boolean), (cJ, .long)] (wJ cI cZ cJ a (x_J X) (x_S X) (x_Y X)) sz [.ref (a 0), .int v_g, .int c_g]) (rw_Qv (S := XS) (x_move X v_g c_g) (fun u : XS => wJ cI cZ cJ a (x_J u) (x_S u) (x_Y u)) G (wJ cI cZ cJ a (x_J X) (x_S X) (x_Y X)) sz) 0 0 (va_A (wJ cI cZ cJ a (x_J X) (x_S X) (x_Y X)) sz) := by
  refine Met.ofW (cc := cX2_makeMove) (maxL := 3) (ret := none) (by decide) rfl ?_
  intro p e s m args below meth c s₁ B hml hv
  obtain ⟨rfl, hsz, hP, hK, hD0, hN⟩ := hv
  have hx := B.exec
  have hb := B.bytes
  have hr := B.returns
  have hts := atoms_spec (ws := wsX2_makeMove) B.pre
  have hown : s.vm.findClass RX2 = some m.cls := findClass_of_methodNamed B.named
  have hlocks := B.notSynchronized
  subst hsz
  have hD0 : va_D (fun _ => True) [((a 0), .inr (2, [.ref (a 6), .ref (a 1), .int (j_pp (x_J X)), .int (j_po (x_J X)), .int (j_mc (x_J X)), .int (j_dc (x_J X)), .int (j_is (x_J X))])), ((a 1), .inr (0, [.ref (a 6), .ref (a 2), .ref (a 3), .ref (a 4), .ref (a 5), .int (s_fc (x_S X)), .int (s_fs (x_S X)), .int (s_sm (x_S X)), .int (s_sc (x_S X)), .int (s_sf (x_S X))])), ((a 2), .inl (cI, 800, .inl (s_fo (x_S X)))), ((a 3), .inl (cI, 800, .inl (s_or (x_S X)))), ((a 4), .inl (cI, 800, .inl (s_mo (x_S X)))), ((a 5), .inl (cI, 2048, .inl (s_sl (x_S X)))), ((a 6), .inr (1, [.ref (a 7), .ref (a 8), .ref (a 9), .ref (a 10), .int (nI (y_n (x_Y X))), .long (y_rp (x_Y X))])), ((a 7), .inl (cI, 9, .inl (y_sz (x_Y X)))), ((a 8), .inl (cZ, 9, .inl (y_ac (x_Y X)))), ((a 9), .inl (cI, 9, .inl (y_li (x_Y X)))), ((a 10), .inl (cJ, 9, .inr (.inl (y_sh (x_Y X)))))] := hD0
  have hD := hD0.self (sz := s.heap.size)
  unfold rw_Qv
  generalize hAe : va_A (wJ cI cZ cJ a (x_J X) (x_S X) (x_Y X)) s.heap.size = A at hD ⊢
  have hA : ∀ q : Nat, s.heap.size ≤ q → A q := fun q h => by rw [← hAe]; exact Or.inr h
  have hS : va_S A s.heap s.heap [] := va_S.rf
  have hP : va_P G vwCl [((a 0), .inr (2, [.ref (a 6), .ref (a 1), .int (j_pp (x_J X)), .int (j_po (x_J X)), .int (j_mc (x_J X)), .int (j_dc (x_J X)), .int (j_is (x_J X))])), ((a 1), .inr (0, [.ref (a 6), .ref (a 2), .ref (a 3), .ref (a 4), .ref (a 5), .int (s_fc (x_S X)), .int (s_fs (x_S X)), .int (s_sm (x_S X)), .int (s_sc (x_S X)), .int (s_sf (x_S X))])), ((a 2), .inl (cI, 800, .inl (s_fo (x_S X)))), ((a 3), .inl (cI, 800, .inl (s_or (x_S X)))), ((a 4), .inl (cI, 800, .inl (s_mo (x_S X)))), ((a 5), .inl (cI, 2048, .inl (s_sl (x_S X)))), ((a 6), .inr (1, [.ref (a 7), .ref (a 8), .ref (a 9), .ref (a 10), .int (nI (y_n (x_Y X))), .long (y_rp (x_Y X))])), ((a 7), .inl (cI, 9, .inl (y_sz (x_Y X)))), ((a 8), .inl (cZ, 9, .inl (y_ac (x_Y X)))), ((a 9), .inl (cI, 9, .inl (y_li (x_Y X)))), ((a 10), .inl (cJ, 9, .inr (.inl (y_sh (x_Y X)))))] s.heap := hP
  have hl := lv_entry ([.ref (a 0), .int v_g, .int c_g]) (n := 3) (Nat.le_of_ble_eq_true rfl)
  rw [lg_entry_eq]
  generalize (lg_sl ([.ref (a 0), .int v_g, .int c_g]) ++ List.replicate (3 - (lg_sl ([.ref (a 0), .int v_g, .int c_g])).length) Slot.unset).toArray = ls at hl ⊢
  have hl : lv_has ls 3 [(0, .ref (a 0)), (1, .int v_g), (2, .int c_g)] := hl
  refine lv_aload_n hx hb dX2_makeMove_0 rfl (lv_at hl 0 rfl) ?_
  refine lv_aload_n hx hb dX2_makeMove_1 rfl (lv_at hl 0 rfl) ?_
  refine va_get (D := G) (ci := 2) (v := .int (j_po (x_J X))) (C := RX2) (T := TX2) (N := 7) hx hb hts in_X2_makeMove_2 hown hK hP 0 rfl rfl 3 (by decide) (hts (.fieldLink RX2 57 "RampJam" "position" "I") (by decide +kernel)) (fun _ h9 => h9) rfl dX2_makeMove_2 ?_
  refine lv_iload_n hx hb dX2_makeMove_5 rfl (lv_at hl 1 rfl) ?_
  refine lv_iload_n hx hb dX2_makeMove_6 rfl (lv_at hl 2 rfl) ?_
  refine ro_i (va_runS (As := [.int (j_po (x_J X)), .int v_g, .int c_g]) (rest := [.ref (a 0)]) ⟨hx, hb, hml, hown, hts⟩ ((c_X2_moved l G cI cZ cJ a _ (j_po (x_J X)) v_g c_g)) (va_cwS 3 hts gX2_makeMove_X2_moved rfl rfl rfl (by decide +kernel) ⟨Nat.le_of_ble_eq_true rfl, Nat.le_of_ble_eq_true rfl⟩) ⟨ro_blind, ro_pre va_P0 hK hN⟩ rfl rfl hl.1 rfl (lv_room (Nat.le_of_ble_eq_true rfl)) dX2_makeMove_7 ⟨Nat.zero_le _, Nat.zero_le _⟩) hS hA hP (fun H locs hP hS => ?_)
  refine rw_v (wr := []) (ws' := [((a 0), .inr (2, [.ref (a 6), .ref (a 1), .int (j_pp (x_J (x_stand X (mv (j_po (x_J X)) v_g c_g)))), .int (j_po (x_J (x_stand X (mv (j_po (x_J X)) v_g c_g)))), .int (j_mc (x_J (x_stand X (mv (j_po (x_J X)) v_g c_g)))), .int (j_dc (x_J (x_stand X (mv (j_po (x_J X)) v_g c_g)))), .int (j_is (x_J (x_stand X (mv (j_po (x_J X)) v_g c_g))))])), ((a 1), .inr (0, [.ref (a 6), .ref (a 2), .ref (a 3), .ref (a 4), .ref (a 5), .int (s_fc (x_S (x_stand X (mv (j_po (x_J X)) v_g c_g)))), .int (s_fs (x_S (x_stand X (mv (j_po (x_J X)) v_g c_g)))), .int (s_sm (x_S (x_stand X (mv (j_po (x_J X)) v_g c_g)))), .int (s_sc (x_S (x_stand X (mv (j_po (x_J X)) v_g c_g)))), .int (s_sf (x_S (x_stand X (mv (j_po (x_J X)) v_g c_g))))])), ((a 2), .inl (cI, 800, .inl (s_fo (x_S (x_stand X (mv (j_po (x_J X)) v_g c_g)))))), ((a 3), .inl (cI, 800, .inl (s_or (x_S (x_stand X (mv (j_po (x_J X)) v_g c_g)))))), ((a 4), .inl (cI, 800, .inl (s_mo (x_S (x_stand X (mv (j_po (x_J X)) v_g c_g)))))), ((a 5), .inl (cI, 2048, .inl (s_sl (x_S (x_stand X (mv (j_po (x_J X)) v_g c_g)))))), ((a 6), .inr (1, [.ref (a 7), .ref (a 8), .ref (a 9), .ref (a 10), .int (nI (y_n (x_Y (x_stand X (mv (j_po (x_J X)) v_g c_g))))), .long (y_rp (x_Y (x_stand X (mv (j_po (x_J X)) v_g c_g))))])), ((a 7), .inl (cI, 9, .inl (y_sz (x_Y (x_stand X (mv (j_po (x_J X)) v_g c_g)))))), ((a 8), .inl (cZ, 9, .inl (y_ac (x_Y (x_stand X (mv (j_po (x_J X)) v_g c_g)))))), ((a 9), .inl (cI, 9, .inl (y_li (x_Y (x_stand X (mv (j_po (x_J X)) v_g c_g)))))), ((a 10), .inl (cJ, 9, .inr (.inl (y_sh (x_Y (x_stand X (mv (j_po (x_J X)) v_g c_g)))))))]) (va_runV (As := [.int (mv (j_po (x_J X)) v_g c_g)]) (rest := []) ⟨hx, hb, hml, hown, hts⟩ ((c_X2_standAt l G cI cZ cJ a _ X (mv (j_po (x_J X)) v_g c_g))) (cwV 1 hts gX2_makeMove_X2_standAt rfl rfl rfl (by decide +kernel) ⟨Nat.le_of_ble_eq_true rfl, Nat.le_of_ble_eq_true rfl⟩) ⟨rw_blind, va_recv hK hP (ci := 2) (q0 := 0) rfl rfl, rw_pre hP hD hK hN⟩ rfl rfl hl.1 rfl (lv_room (Nat.le_of_ble_eq_true rfl)) dX2_makeMove_10 ⟨Nat.zero_le _, Nat.zero_le _⟩) hS hA hP hD [0, 1, 2, 3, 4, 5, 6, 7, 8, 9, 10] [] [0, 1, 2, 3, 4, 5, 6, 7, 8, 9, 10] rfl rfl (by decide) (by decide) rfl (by decide) (fun H locs hP hD hS => ?_)
  refine lv_aload_n hx hb dX2_makeMove_13 rfl (lv_at hl 0 rfl) ?_
  refine lv_dup hx hb dX2_makeMove_14 rfl ?_
  refine va_get (D := G) (ci := 2) (v := .int (j_mc (x_J (x_stand X (mv (j_po (x_J X)) v_g c_g))))) (C := RX2) (T := TX2) (N := 7) hx hb hts in_X2_makeMove_2 hown hK hP 0 rfl rfl 4 (by decide) (hts (.fieldLink RX2 44 "RampJam" "moveCount" "I") (by decide +kernel)) (fun _ h9 => h9) rfl dX2_makeMove_15 ?_
  refine lv_iconst (v := 1) hx hb dX2_makeMove_18 (by decide) ?_
  refine lv_iadd hx hb dX2_makeMove_19 ?_
  refine va_put (D := G) (ci := 2) (v := .int ((j_mc (x_J (x_stand X (mv (j_po (x_J X)) v_g c_g)))) + 1)) (ty := .int) (C := RX2) (T := TX2) (N := 7) hx hb hts in_X2_makeMove_2 tyX2 tyX2_ok nmX2 hown hK hP hD hS 0 rfl rfl 4 (by decide) (hts (.fieldLink RX2 44 "RampJam" "moveCount" "I") (by decide +kernel)) (fun _ h9 => h9) rfl (by decide +kernel) rfl rfl (Nat.le_of_ble_eq_true rfl) dX2_makeMove_20 (fun H locs hP hD hS => ?_)
  have hP : va_P G vwCl [((a 0), .inr (2, [.ref (a 6), .ref (a 1), .int (j_pp (x_J (x_stand X (mv (j_po (x_J X)) v_g c_g)))), .int (j_po (x_J (x_stand X (mv (j_po (x_J X)) v_g c_g)))), .int ((j_mc (x_J (x_stand X (mv (j_po (x_J X)) v_g c_g)))) + 1), .int (j_dc (x_J (x_stand X (mv (j_po (x_J X)) v_g c_g)))), .int (j_is (x_J (x_stand X (mv (j_po (x_J X)) v_g c_g))))])), ((a 1), .inr (0, [.ref (a 6), .ref (a 2), .ref (a 3), .ref (a 4), .ref (a 5), .int (s_fc (x_S (x_stand X (mv (j_po (x_J X)) v_g c_g)))), .int (s_fs (x_S (x_stand X (mv (j_po (x_J X)) v_g c_g)))), .int (s_sm (x_S (x_stand X (mv (j_po (x_J X)) v_g c_g)))), .int (s_sc (x_S (x_stand X (mv (j_po (x_J X)) v_g c_g)))), .int (s_sf (x_S (x_stand X (mv (j_po (x_J X)) v_g c_g))))])), ((a 2), .inl (cI, 800, .inl (s_fo (x_S (x_stand X (mv (j_po (x_J X)) v_g c_g)))))), ((a 3), .inl (cI, 800, .inl (s_or (x_S (x_stand X (mv (j_po (x_J X)) v_g c_g)))))), ((a 4), .inl (cI, 800, .inl (s_mo (x_S (x_stand X (mv (j_po (x_J X)) v_g c_g)))))), ((a 5), .inl (cI, 2048, .inl (s_sl (x_S (x_stand X (mv (j_po (x_J X)) v_g c_g)))))), ((a 6), .inr (1, [.ref (a 7), .ref (a 8), .ref (a 9), .ref (a 10), .int (nI (y_n (x_Y (x_stand X (mv (j_po (x_J X)) v_g c_g))))), .long (y_rp (x_Y (x_stand X (mv (j_po (x_J X)) v_g c_g))))])), ((a 7), .inl (cI, 9, .inl (y_sz (x_Y (x_stand X (mv (j_po (x_J X)) v_g c_g)))))), ((a 8), .inl (cZ, 9, .inl (y_ac (x_Y (x_stand X (mv (j_po (x_J X)) v_g c_g)))))), ((a 9), .inl (cI, 9, .inl (y_li (x_Y (x_stand X (mv (j_po (x_J X)) v_g c_g)))))), ((a 10), .inl (cJ, 9, .inr (.inl (y_sh (x_Y (x_stand X (mv (j_po (x_J X)) v_g c_g)))))))] H := hP
  have hD : va_D A [((a 0), .inr (2, [.ref (a 6), .ref (a 1), .int (j_pp (x_J (x_stand X (mv (j_po (x_J X)) v_g c_g)))), .int (j_po (x_J (x_stand X (mv (j_po (x_J X)) v_g c_g)))), .int ((j_mc (x_J (x_stand X (mv (j_po (x_J X)) v_g c_g)))) + 1), .int (j_dc (x_J (x_stand X (mv (j_po (x_J X)) v_g c_g)))), .int (j_is (x_J (x_stand X (mv (j_po (x_J X)) v_g c_g))))])), ((a 1), .inr (0, [.ref (a 6), .ref (a 2), .ref (a 3), .ref (a 4), .ref (a 5), .int (s_fc (x_S (x_stand X (mv (j_po (x_J X)) v_g c_g)))), .int (s_fs (x_S (x_stand X (mv (j_po (x_J X)) v_g c_g)))), .int (s_sm (x_S (x_stand X (mv (j_po (x_J X)) v_g c_g)))), .int (s_sc (x_S (x_stand X (mv (j_po (x_J X)) v_g c_g)))), .int (s_sf (x_S (x_stand X (mv (j_po (x_J X)) v_g c_g))))])), ((a 2), .inl (cI, 800, .inl (s_fo (x_S (x_stand X (mv (j_po (x_J X)) v_g c_g)))))), ((a 3), .inl (cI, 800, .inl (s_or (x_S (x_stand X (mv (j_po (x_J X)) v_g c_g)))))), ((a 4), .inl (cI, 800, .inl (s_mo (x_S (x_stand X (mv (j_po (x_J X)) v_g c_g)))))), ((a 5), .inl (cI, 2048, .inl (s_sl (x_S (x_stand X (mv (j_po (x_J X)) v_g c_g)))))), ((a 6), .inr (1, [.ref (a 7), .ref (a 8), .ref (a 9), .ref (a 10), .int (nI (y_n (x_Y (x_stand X (mv (j_po (x_J X)) v_g c_g))))), .long (y_rp (x_Y (x_stand X (mv (j_po (x_J X)) v_g c_g))))])), ((a 7), .inl (cI, 9, .inl (y_sz (x_Y (x_stand X (mv (j_po (x_J X)) v_g c_g)))))), ((a 8), .inl (cZ, 9, .inl (y_ac (x_Y (x_stand X (mv (j_po (x_J X)) v_g c_g)))))), ((a 9), .inl (cI, 9, .inl (y_li (x_Y (x_stand X (mv (j_po (x_J X)) v_g c_g)))))), ((a 10), .inl (cJ, 9, .inr (.inl (y_sh (x_Y (x_stand X (mv (j_po (x_J X)) v_g c_g)))))))] := hD
  refine lv_aload_n hx hb dX2_makeMove_23 rfl (lv_at hl 0 rfl) ?_
  refine lv_dup hx hb dX2_makeMove_24 rfl ?_
  refine va_get (D := G) (ci := 2) (v := .int (j_dc (x_J (x_stand X (mv (j_po (x_J X)) v_g c_g))))) (C := RX2) (T := TX2) (N := 7) hx hb hts in_X2_makeMove_2 hown hK hP 0 rfl rfl 5 (by decide) (hts (.fieldLink RX2 136 "RampJam" "drivenCells" "I") (by decide +kernel)) (fun _ h9 => h9) rfl dX2_makeMove_25 ?_
  refine lv_iload_n hx hb dX2_makeMove_28 rfl (lv_at hl 2 rfl) ?_
  refine va_mabs hx hb (by rw [hml]; exact hl.1.symm) hown (hts (.methodLink RX2 120 Lib.Math.abs.name) (by decide +kernel)) (hts (.static Lib.Math.abs.name) (by decide +kernel)) (hts (.initialized "java/lang/Math") (by decide +kernel)) (hts (.code Lib.Math.abs.name Lib.Math.abs.code 1 (some .int)) (by decide +kernel)) (Nat.le_of_ble_eq_true rfl) (Nat.le_of_ble_eq_true rfl) (Nat.zero_le _) (Nat.zero_le _) dX2_makeMove_29 ?_
  refine lv_iadd hx hb dX2_makeMove_32 ?_
  refine va_put (D := G) (ci := 2) (v := .int ((j_dc (x_J (x_stand X (mv (j_po (x_J X)) v_g c_g)))) + (iabs c_g))) (ty := .int) (C := RX2) (T := TX2) (N := 7) hx hb hts in_X2_makeMove_2 tyX2 tyX2_ok nmX2 hown hK hP hD hS 0 rfl rfl 5 (by decide) (hts (.fieldLink RX2 136 "RampJam" "drivenCells" "I") (by decide +kernel)) (fun _ h9 => h9) rfl (by decide +kernel) rfl rfl (Nat.le_of_ble_eq_true rfl) dX2_makeMove_33 (fun H locs hP hD hS => ?_)
  have hP : va_P G vwCl [((a 0), .inr (2, [.ref (a 6), .ref (a 1), .int (j_pp (x_J (x_stand X (mv (j_po (x_J X)) v_g c_g)))), .int (j_po (x_J (x_stand X (mv (j_po (x_J X)) v_g c_g)))), .int ((j_mc (x_J (x_stand X (mv (j_po (x_J X)) v_g c_g)))) + 1), .int ((j_dc (x_J (x_stand X (mv (j_po (x_J X)) v_g c_g)))) + (iabs c_g)), .int (j_is (x_J (x_stand X (mv (j_po (x_J X)) v_g c_g))))])), ((a 1), .inr (0, [.ref (a 6), .ref (a 2), .ref (a 3), .ref (a 4), .ref (a 5), .int (s_fc (x_S (x_stand X (mv (j_po (x_J X)) v_g c_g)))), .int (s_fs (x_S (x_stand X (mv (j_po (x_J X)) v_g c_g)))), .int (s_sm (x_S (x_stand X (mv (j_po (x_J X)) v_g c_g)))), .int (s_sc (x_S (x_stand X (mv (j_po (x_J X)) v_g c_g)))), .int (s_sf (x_S (x_stand X (mv (j_po (x_J X)) v_g c_g))))])), ((a 2), .inl (cI, 800, .inl (s_fo (x_S (x_stand X (mv (j_po (x_J X)) v_g c_g)))))), ((a 3), .inl (cI, 800, .inl (s_or (x_S (x_stand X (mv (j_po (x_J X)) v_g c_g)))))), ((a 4), .inl (cI, 800, .inl (s_mo (x_S (x_stand X (mv (j_po (x_J X)) v_g c_g)))))), ((a 5), .inl (cI, 2048, .inl (s_sl (x_S (x_stand X (mv (j_po (x_J X)) v_g c_g)))))), ((a 6), .inr (1, [.ref (a 7), .ref (a 8), .ref (a 9), .ref (a 10), .int (nI (y_n (x_Y (x_stand X (mv (j_po (x_J X)) v_g c_g))))), .long (y_rp (x_Y (x_stand X (mv (j_po (x_J X)) v_g c_g))))])), ((a 7), .inl (cI, 9, .inl (y_sz (x_Y (x_stand X (mv (j_po (x_J X)) v_g c_g)))))), ((a 8), .inl (cZ, 9, .inl (y_ac (x_Y (x_stand X (mv (j_po (x_J X)) v_g c_g)))))), ((a 9), .inl (cI, 9, .inl (y_li (x_Y (x_stand X (mv (j_po (x_J X)) v_g c_g)))))), ((a 10), .inl (cJ, 9, .inr (.inl (y_sh (x_Y (x_stand X (mv (j_po (x_J X)) v_g c_g)))))))] H := hP
  have hD : va_D A [((a 0), .inr (2, [.ref (a 6), .ref (a 1), .int (j_pp (x_J (x_stand X (mv (j_po (x_J X)) v_g c_g)))), .int (j_po (x_J (x_stand X (mv (j_po (x_J X)) v_g c_g)))), .int ((j_mc (x_J (x_stand X (mv (j_po (x_J X)) v_g c_g)))) + 1), .int ((j_dc (x_J (x_stand X (mv (j_po (x_J X)) v_g c_g)))) + (iabs c_g)), .int (j_is (x_J (x_stand X (mv (j_po (x_J X)) v_g c_g))))])), ((a 1), .inr (0, [.ref (a 6), .ref (a 2), .ref (a 3), .ref (a 4), .ref (a 5), .int (s_fc (x_S (x_stand X (mv (j_po (x_J X)) v_g c_g)))), .int (s_fs (x_S (x_stand X (mv (j_po (x_J X)) v_g c_g)))), .int (s_sm (x_S (x_stand X (mv (j_po (x_J X)) v_g c_g)))), .int (s_sc (x_S (x_stand X (mv (j_po (x_J X)) v_g c_g)))), .int (s_sf (x_S (x_stand X (mv (j_po (x_J X)) v_g c_g))))])), ((a 2), .inl (cI, 800, .inl (s_fo (x_S (x_stand X (mv (j_po (x_J X)) v_g c_g)))))), ((a 3), .inl (cI, 800, .inl (s_or (x_S (x_stand X (mv (j_po (x_J X)) v_g c_g)))))), ((a 4), .inl (cI, 800, .inl (s_mo (x_S (x_stand X (mv (j_po (x_J X)) v_g c_g)))))), ((a 5), .inl (cI, 2048, .inl (s_sl (x_S (x_stand X (mv (j_po (x_J X)) v_g c_g)))))), ((a 6), .inr (1, [.ref (a 7), .ref (a 8), .ref (a 9), .ref (a 10), .int (nI (y_n (x_Y (x_stand X (mv (j_po (x_J X)) v_g c_g))))), .long (y_rp (x_Y (x_stand X (mv (j_po (x_J X)) v_g c_g))))])), ((a 7), .inl (cI, 9, .inl (y_sz (x_Y (x_stand X (mv (j_po (x_J X)) v_g c_g)))))), ((a 8), .inl (cZ, 9, .inl (y_ac (x_Y (x_stand X (mv (j_po (x_J X)) v_g c_g)))))), ((a 9), .inl (cI, 9, .inl (y_li (x_Y (x_stand X (mv (j_po (x_J X)) v_g c_g)))))), ((a 10), .inl (cJ, 9, .inr (.inl (y_sh (x_Y (x_stand X (mv (j_po (x_J X)) v_g c_g)))))))] := hD
  have hP9 := hP
  have hD9 := hD
  exact W.vret hx hb hr (fun t ht hW => ⟨⟨(((j_pp (x_J (x_stand X (mv (j_po (x_J X)) v_g c_g)))), (j_po (x_J (x_stand X (mv (j_po (x_J X)) v_g c_g)))), ((j_mc (x_J (x_stand X (mv (j_po (x_J X)) v_g c_g)))) + 1), ((j_dc (x_J (x_stand X (mv (j_po (x_J X)) v_g c_g)))) + (iabs c_g)), (j_is (x_J (x_stand X (mv (j_po (x_J X)) v_g c_g))))), (x_S (x_stand X (mv (j_po (x_J X)) v_g c_g))), (x_Y (x_stand X (mv (j_po (x_J X)) v_g c_g)))), rfl, rfl, by rw [ht]; exact hP9, hD9⟩, hS.F ht⟩) hS.2.2 dX2_makeMove_36

theorem in_X2_searchFromNow_2 : ∀ w ∈ wsX20, w ∈ wsX2_searchFromNow := by decide +kernel
set_option maxHeartbeats 4000000 in
set_option maxRecDepth 100000 in
/-- RampJam.searchFromNow -/
theorem c_X2_searchFromNow (l : Launch) (G : va_G) (cI cZ cJ : ClassId) (a : Nat → Nat) (sz : Nat) (X : XS) (hn : y_n (x_Y X) ≤ 9) : Met l yX2_searchFromNow wsX2_searchFromNow ({ frames := 5, cells := 0, slots := 0, locals := 124 }) (rw_Pc G [(cI, .int), (cZ, .boolean), (cJ, .long)] (wJ cI cZ cJ a (x_J X) (x_S X) (x_Y X)) sz [.ref (a 0)]) (rw_Qv (S := XS) (x_srch X) (fun u : XS => wJ cI cZ cJ a (x_J u) (x_S u) (x_Y u)) G (wJ cI cZ cJ a (x_J X) (x_S X) (x_Y X)) sz) 0 0 (va_A (wJ cI cZ cJ a (x_J X) (x_S X) (x_Y X)) sz) := by
  refine Met.ofW (cc := cX2_searchFromNow) (maxL := 1) (ret := none) (by decide) rfl ?_
  intro p e s m args below meth c s₁ B hml hv
  obtain ⟨rfl, hsz, hP, hK, hD0, hN⟩ := hv
  have hx := B.exec
  have hb := B.bytes
  have hr := B.returns
  have hts := atoms_spec (ws := wsX2_searchFromNow) B.pre
  have hown : s.vm.findClass RX2 = some m.cls := findClass_of_methodNamed B.named
  have hlocks := B.notSynchronized
  subst hsz
  have hD0 : va_D (fun _ => True) [((a 0), .inr (2, [.ref (a 6), .ref (a 1), .int (j_pp (x_J X)), .int (j_po (x_J X)), .int (j_mc (x_J X)), .int (j_dc (x_J X)), .int (j_is (x_J X))])), ((a 1), .inr (0, [.ref (a 6), .ref (a 2), .ref (a 3), .ref (a 4), .ref (a 5), .int (s_fc (x_S X)), .int (s_fs (x_S X)), .int (s_sm (x_S X)), .int (s_sc (x_S X)), .int (s_sf (x_S X))])), ((a 2), .inl (cI, 800, .inl (s_fo (x_S X)))), ((a 3), .inl (cI, 800, .inl (s_or (x_S X)))), ((a 4), .inl (cI, 800, .inl (s_mo (x_S X)))), ((a 5), .inl (cI, 2048, .inl (s_sl (x_S X)))), ((a 6), .inr (1, [.ref (a 7), .ref (a 8), .ref (a 9), .ref (a 10), .int (nI (y_n (x_Y X))), .long (y_rp (x_Y X))])), ((a 7), .inl (cI, 9, .inl (y_sz (x_Y X)))), ((a 8), .inl (cZ, 9, .inl (y_ac (x_Y X)))), ((a 9), .inl (cI, 9, .inl (y_li (x_Y X)))), ((a 10), .inl (cJ, 9, .inr (.inl (y_sh (x_Y X)))))] := hD0
  have hD := hD0.self (sz := s.heap.size)
  unfold rw_Qv
  generalize hAe : va_A (wJ cI cZ cJ a (x_J X) (x_S X) (x_Y X)) s.heap.size = A at hD ⊢
  have hA : ∀ q : Nat, s.heap.size ≤ q → A q := fun q h => by rw [← hAe]; exact Or.inr h
  have hS : va_S A s.heap s.heap [] := va_S.rf
  have hP : va_P G vwCl [((a 0), .inr (2, [.ref (a 6), .ref (a 1), .int (j_pp (x_J X)), .int (j_po (x_J X)), .int (j_mc (x_J X)), .int (j_dc (x_J X)), .int (j_is (x_J X))])), ((a 1), .inr (0, [.ref (a 6), .ref (a 2), .ref (a 3), .ref (a 4), .ref (a 5), .int (s_fc (x_S X)), .int (s_fs (x_S X)), .int (s_sm (x_S X)), .int (s_sc (x_S X)), .int (s_sf (x_S X))])), ((a 2), .inl (cI, 800, .inl (s_fo (x_S X)))), ((a 3), .inl (cI, 800, .inl (s_or (x_S X)))), ((a 4), .inl (cI, 800, .inl (s_mo (x_S X)))), ((a 5), .inl (cI, 2048, .inl (s_sl (x_S X)))), ((a 6), .inr (1, [.ref (a 7), .ref (a 8), .ref (a 9), .ref (a 10), .int (nI (y_n (x_Y X))), .long (y_rp (x_Y X))])), ((a 7), .inl (cI, 9, .inl (y_sz (x_Y X)))), ((a 8), .inl (cZ, 9, .inl (y_ac (x_Y X)))), ((a 9), .inl (cI, 9, .inl (y_li (x_Y X)))), ((a 10), .inl (cJ, 9, .inr (.inl (y_sh (x_Y X)))))] s.heap := hP
  have hl := lv_entry ([.ref (a 0)]) (n := 1) (Nat.le_of_ble_eq_true rfl)
  rw [lg_entry_eq]
  generalize (lg_sl ([.ref (a 0)]) ++ List.replicate (1 - (lg_sl ([.ref (a 0)])).length) Slot.unset).toArray = ls at hl ⊢
  have hl : lv_has ls 1 [(0, .ref (a 0))] := hl
  refine lv_aload_n hx hb dX2_searchFromNow_0 rfl (lv_at hl 0 rfl) ?_
  refine va_get (D := G) (ci := 2) (v := .int (j_is (x_J X))) (C := RX2) (T := TX2) (N := 7) hx hb hts in_X2_searchFromNow_2 hown hK hP 0 rfl rfl 6 (by decide) (hts (.fieldLink RX2 106 "RampJam" "isSearched" "Z") (by decide +kernel)) (fun _ h9 => h9) rfl dX2_searchFromNow_1 ?_
  refine lv_if_ne (tgt := 23) hx hb dX2_searchFromNow_4 (by decide) (fun c_1 => ?_) (fun c_1 => ?_)
  · have hP9 := hP
    have hD9 := hD
    exact W.vret hx hb hr (fun t ht hW => ⟨⟨X, rfl, by rw [x_srch, if_neg c_1], by rw [ht]; exact hP9, hD9⟩, hS.F ht⟩) hS.2.2 dX2_searchFromNow_23
  · refine lv_aload_n hx hb dX2_searchFromNow_7 rfl (lv_at hl 0 rfl) ?_
    refine va_get (D := G) (ci := 2) (v := .ref (a 1)) (C := RX2) (T := TX2) (N := 7) hx hb hts in_X2_searchFromNow_2 hown hK hP 0 rfl rfl 1 (by decide) (hts (.fieldLink RX2 21 "RampJam" "search" "LRampJam$Search;") (by decide +kernel)) (fun _ h9 => h9) rfl dX2_searchFromNow_8 ?_
    refine lv_aload_n hx hb dX2_searchFromNow_11 rfl (lv_at hl 0 rfl) ?_
    refine va_get (D := G) (ci := 2) (v := .int (j_po (x_J X))) (C := RX2) (T := TX2) (N := 7) hx hb hts in_X2_searchFromNow_2 hown hK hP 0 rfl rfl 3 (by decide) (hts (.fieldLink RX2 57 "RampJam" "position" "I") (by decide +kernel)) (fun _ h9 => h9) rfl dX2_searchFromNow_12 ?_
    obtain ⟨Z_g, hZ_g⟩ : ∃ Z, s_look (x_Y X) (x_S X) (j_po (x_J X)) = Z := ⟨_, rfl⟩
    have hPc := hP.sub (ws' := [((a 1), .inr (0, [.ref (a 6), .ref (a 2), .ref (a 3), .ref (a 4), .ref (a 5), .int (s_fc (x_S X)), .int (s_fs (x_S X)), .int (s_sm (x_S X)), .int (s_sc (x_S X)), .int (s_sf (x_S X))])), ((a 2), .inl (cI, 800, .inl (s_fo (x_S X)))), ((a 3), .inl (cI, 800, .inl (s_or (x_S X)))), ((a 4), .inl (cI, 800, .inl (s_mo (x_S X)))), ((a 5), .inl (cI, 2048, .inl (s_sl (x_S X)))), ((a 6), .inr (1, [.ref (a 7), .ref (a 8), .ref (a 9), .ref (a 10), .int (nI (y_n (x_Y X))), .long (y_rp (x_Y X))])), ((a 7), .inl (cI, 9, .inl (y_sz (x_Y X)))), ((a 8), .inl (cZ, 9, .inl (y_ac (x_Y X)))), ((a 9), .inl (cI, 9, .inl (y_li (x_Y X)))), ((a 10), .inl (cJ, 9, .inr (.inl (y_sh (x_Y X)))))]) [1, 2, 3, 4, 5, 6, 7, 8, 9, 10] rfl
    have hDc := hD.sub (ws' := [((a 1), .inr (0, [.ref (a 6), .ref (a 2), .ref (a 3), .ref (a 4), .ref (a 5), .int (s_fc (x_S X)), .int (s_fs (x_S X)), .int (s_sm (x_S X)), .int (s_sc (x_S X)), .int (s_sf (x_S X))])), ((a 2), .inl (cI, 800, .inl (s_fo (x_S X)))), ((a 3), .inl (cI, 800, .inl (s_or (x_S X)))), ((a 4), .inl (cI, 800, .inl (s_mo (x_S X)))), ((a 5), .inl (cI, 2048, .inl (s_sl (x_S X)))), ((a 6), .inr (1, [.ref (a 7), .ref (a 8), .ref (a 9), .ref (a 10), .int (nI (y_n (x_Y X))), .long (y_rp (x_Y X))])), ((a 7), .inl (cI, 9, .inl (y_sz (x_Y X)))), ((a 8), .inl (cZ, 9, .inl (y_ac (x_Y X)))), ((a 9), .inl (cI, 9, .inl (y_li (x_Y X)))), ((a 10), .inl (cJ, 9, .inr (.inl (y_sh (x_Y X)))))]) [1, 2, 3, 4, 5, 6, 7, 8, 9, 10] (by decide) rfl
    refine rw_v (wr := [((a 0), .inr (2, [.ref (a 6), .ref (a 1), .int (j_pp (x_J X)), .int (j_po (x_J X)), .int (j_mc (x_J X)), .int (j_dc (x_J X)), .int (j_is (x_J X))]))]) (ws' := [((a 0), .inr (2, [.ref (a 6), .ref (a 1), .int (j_pp (x_J X)), .int (j_po (x_J X)), .int (j_mc (x_J X)), .int (j_dc (x_J X)), .int (j_is (x_J X))])), ((a 1), .inr (0, [.ref (a 6), .ref (a 2), .ref (a 3), .ref (a 4), .ref (a 5), .int (s_fc Z_g), .int (s_fs Z_g), .int (s_sm Z_g), .int (s_sc Z_g), .int (s_sf Z_g)])), ((a 2), .inl (cI, 800, .inl (s_fo Z_g))), ((a 3), .inl (cI, 800, .inl (s_or Z_g))), ((a 4), .inl (cI, 800, .inl (s_mo Z_g))), ((a 5), .inl (cI, 2048, .inl (s_sl Z_g))), ((a 6), .inr (1, [.ref (a 7), .ref (a 8), .ref (a 9), .ref (a 10), .int (nI (y_n (x_Y X))), .long (y_rp (x_Y X))])), ((a 7), .inl (cI, 9, .inl (y_sz (x_Y X)))), ((a 8), .inl (cZ, 9, .inl (y_ac (x_Y X)))), ((a 9), .inl (cI, 9, .inl (y_li (x_Y X)))), ((a 10), .inl (cJ, 9, .inr (.inl (y_sh (x_Y X)))))]) (va_runV (As := [.int (j_po (x_J X))]) (rest := []) ⟨hx, hb, hml, hown, hts⟩ ((c_X0_lookFromZ l G cI cZ cJ a _ (x_S X) (x_Y X) (j_po (x_J X)) hn Z_g hZ_g)) (cwV 1 hts gX2_searchFromNow_X0_lookFrom rfl rfl rfl (by decide +kernel) ⟨Nat.le_of_ble_eq_true rfl, Nat.le_of_ble_eq_true rfl⟩) ⟨rw_blind, va_recv hK hPc (ci := 0) (q0 := 0) rfl rfl, rw_pre hPc hDc hK hN⟩ rfl rfl hl.1 rfl (lv_room (Nat.le_of_ble_eq_true rfl)) dX2_searchFromNow_15 ⟨Nat.zero_le _, Nat.zero_le _⟩) hS hA hP hD [1, 2, 3, 4, 5, 6, 7, 8, 9, 10] [0] [0, 1, 2, 3, 4, 5, 6, 7, 8, 9, 10] rfl rfl (by decide) (by decide) rfl (by decide) (fun H locs hP hD hS => ?_)
    refine lv_aload_n hx hb dX2_searchFromNow_18 rfl (lv_at hl 0 rfl) ?_
    refine lv_iconst (v := 1) hx hb dX2_searchFromNow_19 (by decide) ?_
    refine va_put (D := G) (ci := 2) (v := .int 1) (ty := .boolean) (C := RX2) (T := TX2) (N := 7) hx hb hts in_X2_searchFromNow_2 tyX2 tyX2_ok nmX2 hown hK hP hD hS 0 rfl rfl 6 (by decide) (hts (.fieldLink RX2 106 "RampJam" "isSearched" "Z") (by decide +kernel)) (fun _ h9 => h9) rfl (by decide +kernel) rfl rfl (Nat.le_of_ble_eq_true rfl) dX2_searchFromNow_20 (fun H locs hP hD hS => ?_)
    have hP : va_P G vwCl [((a 0), .inr (2, [.ref (a 6), .ref (a 1), .int (j_pp (x_J X)), .int (j_po (x_J X)), .int (j_mc (x_J X)), .int (j_dc (x_J X)), .int 1])), ((a 1), .inr (0, [.ref (a 6), .ref (a 2), .ref (a 3), .ref (a 4), .ref (a 5), .int (s_fc Z_g), .int (s_fs Z_g), .int (s_sm Z_g), .int (s_sc Z_g), .int (s_sf Z_g)])), ((a 2), .inl (cI, 800, .inl (s_fo Z_g))), ((a 3), .inl (cI, 800, .inl (s_or Z_g))), ((a 4), .inl (cI, 800, .inl (s_mo Z_g))), ((a 5), .inl (cI, 2048, .inl (s_sl Z_g))), ((a 6), .inr (1, [.ref (a 7), .ref (a 8), .ref (a 9), .ref (a 10), .int (nI (y_n (x_Y X))), .long (y_rp (x_Y X))])), ((a 7), .inl (cI, 9, .inl (y_sz (x_Y X)))), ((a 8), .inl (cZ, 9, .inl (y_ac (x_Y X)))), ((a 9), .inl (cI, 9, .inl (y_li (x_Y X)))), ((a 10), .inl (cJ, 9, .inr (.inl (y_sh (x_Y X)))))] H := hP
    have hD : va_D A [((a 0), .inr (2, [.ref (a 6), .ref (a 1), .int (j_pp (x_J X)), .int (j_po (x_J X)), .int (j_mc (x_J X)), .int (j_dc (x_J X)), .int 1])), ((a 1), .inr (0, [.ref (a 6), .ref (a 2), .ref (a 3), .ref (a 4), .ref (a 5), .int (s_fc Z_g), .int (s_fs Z_g), .int (s_sm Z_g), .int (s_sc Z_g), .int (s_sf Z_g)])), ((a 2), .inl (cI, 800, .inl (s_fo Z_g))), ((a 3), .inl (cI, 800, .inl (s_or Z_g))), ((a 4), .inl (cI, 800, .inl (s_mo Z_g))), ((a 5), .inl (cI, 2048, .inl (s_sl Z_g))), ((a 6), .inr (1, [.ref (a 7), .ref (a 8), .ref (a 9), .ref (a 10), .int (nI (y_n (x_Y X))), .long (y_rp (x_Y X))])), ((a 7), .inl (cI, 9, .inl (y_sz (x_Y X)))), ((a 8), .inl (cZ, 9, .inl (y_ac (x_Y X)))), ((a 9), .inl (cI, 9, .inl (y_li (x_Y X)))), ((a 10), .inl (cJ, 9, .inr (.inl (y_sh (x_Y X)))))] := hD
    have hP9 := hP
    have hD9 := hD
    exact W.vret hx hb hr (fun t ht hW => ⟨⟨(((j_pp (x_J X)), (j_po (x_J X)), (j_mc (x_J X)), (j_dc (x_J X)), 1), Z_g, (x_Y X)), rfl, by rw [x_srch, if_pos c_1, hZ_g], by rw [ht]; exact hP9, hD9⟩, hS.F ht⟩) hS.2.2 dX2_searchFromNow_23

theorem in_X2_wayNow_2 : ∀ w ∈ wsX20, w ∈ wsX2_wayNow := by decide +kernel
set_option maxHeartbeats 4000000 in
set_option maxRecDepth 100000 in
/-- RampJam.wayNow -/
theorem c_X2_wayNow (l : Launch) (G : va_G) (cI cZ cJ : ClassId) (a : Nat → Nat) (sz : Nat) (X : XS) (v_g : Int32) (f_g : Int32) (hn : y_n (x_Y X) ≤ 9) : Met l yX2_wayNow wsX2_wayNow ({ frames := 3, cells := 0, slots := 0, locals := 77 }) (ro_Pc G [(cI, .int), (cZ, .boolean), (cJ, .long)] (wJ cI cZ cJ a (x_J X) (x_S X) (x_Y X)) sz [.ref (a 0), .int v_g, .int f_g]) (ro_Qi (j_way X v_g f_g) sz) 0 0 (ro_A sz) := by
  refine Met.ofW (cc := cX2_wayNow) (maxL := 3) (ret := (some .int)) (by decide) rfl ?_
  intro p e s m args below meth c s₁ B hml hv
  obtain ⟨rfl, hsz, hP, hK, hN⟩ := hv
  have hx := B.exec
  have hb := B.bytes
  have hr := B.returns
  have hts := atoms_spec (ws := wsX2_wayNow) B.pre
  have hown : s.vm.findClass RX2 = some m.cls := findClass_of_methodNamed B.named
  have hlocks := B.notSynchronized
  subst hsz
  have hA : ∀ q : Nat, s.heap.size ≤ q → (ro_A s.heap.size) q := fun _ h => h
  have hS : va_S (ro_A s.heap.size) s.heap s.heap [] := va_S.rf
  have hP : va_P G vwCl [((a 0), .inr (2, [.ref (a 6), .ref (a 1), .int (j_pp (x_J X)), .int (j_po (x_J X)), .int (j_mc (x_J X)), .int (j_dc (x_J X)), .int (j_is (x_J X))])), ((a 1), .inr (0, [.ref (a 6), .ref (a 2), .ref (a 3), .ref (a 4), .ref (a 5), .int (s_fc (x_S X)), .int (s_fs (x_S X)), .int (s_sm (x_S X)), .int (s_sc (x_S X)), .int (s_sf (x_S X))])), ((a 2), .inl (cI, 800, .inl (s_fo (x_S X)))), ((a 3), .inl (cI, 800, .inl (s_or (x_S X)))), ((a 4), .inl (cI, 800, .inl (s_mo (x_S X)))), ((a 5), .inl (cI, 2048, .inl (s_sl (x_S X)))), ((a 6), .inr (1, [.ref (a 7), .ref (a 8), .ref (a 9), .ref (a 10), .int (nI (y_n (x_Y X))), .long (y_rp (x_Y X))])), ((a 7), .inl (cI, 9, .inl (y_sz (x_Y X)))), ((a 8), .inl (cZ, 9, .inl (y_ac (x_Y X)))), ((a 9), .inl (cI, 9, .inl (y_li (x_Y X)))), ((a 10), .inl (cJ, 9, .inr (.inl (y_sh (x_Y X)))))] s.heap := hP
  have hl := lv_entry ([.ref (a 0), .int v_g, .int f_g]) (n := 3) (Nat.le_of_ble_eq_true rfl)
  rw [lg_entry_eq]
  generalize (lg_sl ([.ref (a 0), .int v_g, .int f_g]) ++ List.replicate (3 - (lg_sl ([.ref (a 0), .int v_g, .int f_g])).length) Slot.unset).toArray = ls at hl ⊢
  have hl : lv_has ls 3 [(0, .ref (a 0)), (1, .int v_g), (2, .int f_g)] := hl
  refine lv_aload_n hx hb dX2_wayNow_0 rfl (lv_at hl 0 rfl) ?_
  refine va_get (D := G) (ci := 2) (v := .ref (a 6)) (C := RX2) (T := TX2) (N := 7) hx hb hts in_X2_wayNow_2 hown hK hP 0 rfl rfl 0 (by decide) (hts (.fieldLink RX2 10 "RampJam" "yard" "LRampJam$Yard;") (by decide +kernel)) (fun _ h9 => h9) rfl dX2_wayNow_1 ?_
  refine lv_aload_n hx hb dX2_wayNow_4 rfl (lv_at hl 0 rfl) ?_
  refine va_get (D := G) (ci := 2) (v := .int (j_po (x_J X))) (C := RX2) (T := TX2) (N := 7) hx hb hts in_X2_wayNow_2 hown hK hP 0 rfl rfl 3 (by decide) (hts (.fieldLink RX2 57 "RampJam" "position" "I") (by decide +kernel)) (fun _ h9 => h9) rfl dX2_wayNow_5 ?_
  refine lv_aload_n hx hb dX2_wayNow_8 rfl (lv_at hl 0 rfl) ?_
  refine va_get (D := G) (ci := 2) (v := .ref (a 6)) (C := RX2) (T := TX2) (N := 7) hx hb hts in_X2_wayNow_2 hown hK hP 0 rfl rfl 0 (by decide) (hts (.fieldLink RX2 10 "RampJam" "yard" "LRampJam$Yard;") (by decide +kernel)) (fun _ h9 => h9) rfl dX2_wayNow_9 ?_
  refine lv_aload_n hx hb dX2_wayNow_12 rfl (lv_at hl 0 rfl) ?_
  refine va_get (D := G) (ci := 2) (v := .int (j_po (x_J X))) (C := RX2) (T := TX2) (N := 7) hx hb hts in_X2_wayNow_2 hown hK hP 0 rfl rfl 3 (by decide) (hts (.fieldLink RX2 57 "RampJam" "position" "I") (by decide +kernel)) (fun _ h9 => h9) rfl dX2_wayNow_13 ?_
  have hPc := hP.sub (ws' := [((a 6), .inr (1, [.ref (a 7), .ref (a 8), .ref (a 9), .ref (a 10), .int (nI (y_n (x_Y X))), .long (y_rp (x_Y X))])), ((a 7), .inl (cI, 9, .inl (y_sz (x_Y X)))), ((a 8), .inl (cZ, 9, .inl (y_ac (x_Y X)))), ((a 9), .inl (cI, 9, .inl (y_li (x_Y X)))), ((a 10), .inl (cJ, 9, .inr (.inl (y_sh (x_Y X)))))]) [6, 7, 8, 9, 10] rfl
  refine ro_l (va_runV (As := [.int (j_po (x_J X))]) (rest := [.int (j_po (x_J X)), .ref (a 6)]) ⟨hx, hb, hml, hown, hts⟩ ((c_X1_filledIn l G cI cZ cJ a _ (x_Y X) (j_po (x_J X)) hn)) (cwV 1 hts gX2_wayNow_X1_filledIn rfl rfl rfl (by decide +kernel) ⟨Nat.le_of_ble_eq_true rfl, Nat.le_of_ble_eq_true rfl⟩) ⟨ro_blind, va_recv hK hPc (ci := 1) (q0 := 0) rfl rfl, ro_pre hPc hK hN⟩ rfl rfl hl.1 rfl (lv_room (Nat.le_of_ble_eq_true rfl)) dX2_wayNow_16 ⟨Nat.zero_le _, Nat.zero_le _⟩) hS hA hP (fun H locs hP hS => ?_)
  refine lv_iload_n hx hb dX2_wayNow_19 rfl (lv_at hl 1 rfl) ?_
  refine lv_iload_n hx hb dX2_wayNow_20 rfl (lv_at hl 2 rfl) ?_
  refine lv_if_eq (tgt := 28) hx hb dX2_wayNow_21 (by decide) (fun c_1 => ?_) (fun c_1 => ?_)
  · refine lv_iconst (v := (-1)) hx hb dX2_wayNow_28 (by decide) ?_
    have hPc := hP.sub (ws' := [((a 6), .inr (1, [.ref (a 7), .ref (a 8), .ref (a 9), .ref (a 10), .int (nI (y_n (x_Y X))), .long (y_rp (x_Y X))])), ((a 7), .inl (cI, 9, .inl (y_sz (x_Y X)))), ((a 8), .inl (cZ, 9, .inl (y_ac (x_Y X)))), ((a 9), .inl (cI, 9, .inl (y_li (x_Y X)))), ((a 10), .inl (cJ, 9, .inr (.inl (y_sh (x_Y X)))))]) [6, 7, 8, 9, 10] rfl
    refine ro_i (va_runV (As := [.int (j_po (x_J X)), .long (y_fil (x_Y X) (j_po (x_J X)) (y_n (x_Y X))), .int v_g, .int (-1)]) (rest := []) ⟨hx, hb, hml, hown, hts⟩ ((c_X1_wayIn l G cI cZ cJ a _ (x_Y X) (j_po (x_J X)) (y_fil (x_Y X) (j_po (x_J X)) (y_n (x_Y X))) v_g (-1))) (cwV 4 hts gX2_wayNow_X1_wayIn rfl rfl rfl (by decide +kernel) ⟨Nat.le_of_ble_eq_true rfl, Nat.le_of_ble_eq_true rfl⟩) ⟨ro_blind, va_recv hK hPc (ci := 1) (q0 := 0) rfl rfl, ro_pre hPc hK hN⟩ rfl rfl hl.1 rfl (lv_room (Nat.le_of_ble_eq_true rfl)) dX2_wayNow_29 ⟨Nat.zero_le _, Nat.zero_le _⟩) hS hA hP (fun H locs hP hS => ?_)
    exact W.iret (v := (y_way (x_Y X) (j_po (x_J X)) (y_fil (x_Y X) (j_po (x_J X)) (y_n (x_Y X))) v_g (-1))) hx hb hr (fun t ht hW => ⟨⟨(y_way (x_Y X) (j_po (x_J X)) (y_fil (x_Y X) (j_po (x_J X)) (y_n (x_Y X))) v_g (-1)), (), rfl, by simp [j_way, c_1], trivial⟩, hS.F ht⟩) hS.2.2 dX2_wayNow_32
  · refine lv_iconst (v := 1) hx hb dX2_wayNow_24 (by decide) ?_
    refine lv_goto (tgt := 29) hx hb dX2_wayNow_25 (by decide) ?_
    have hPc := hP.sub (ws' := [((a 6), .inr (1, [.ref (a 7), .ref (a 8), .ref (a 9), .ref (a 10), .int (nI (y_n (x_Y X))), .long (y_rp (x_Y X))])), ((a 7), .inl (cI, 9, .inl (y_sz (x_Y X)))), ((a 8), .inl (cZ, 9, .inl (y_ac (x_Y X)))), ((a 9), .inl (cI, 9, .inl (y_li (x_Y X)))), ((a 10), .inl (cJ, 9, .inr (.inl (y_sh (x_Y X)))))]) [6, 7, 8, 9, 10] rfl
    refine ro_i (va_runV (As := [.int (j_po (x_J X)), .long (y_fil (x_Y X) (j_po (x_J X)) (y_n (x_Y X))), .int v_g, .int 1]) (rest := []) ⟨hx, hb, hml, hown, hts⟩ ((c_X1_wayIn l G cI cZ cJ a _ (x_Y X) (j_po (x_J X)) (y_fil (x_Y X) (j_po (x_J X)) (y_n (x_Y X))) v_g 1)) (cwV 4 hts gX2_wayNow_X1_wayIn rfl rfl rfl (by decide +kernel) ⟨Nat.le_of_ble_eq_true rfl, Nat.le_of_ble_eq_true rfl⟩) ⟨ro_blind, va_recv hK hPc (ci := 1) (q0 := 0) rfl rfl, ro_pre hPc hK hN⟩ rfl rfl hl.1 rfl (lv_room (Nat.le_of_ble_eq_true rfl)) dX2_wayNow_29 ⟨Nat.zero_le _, Nat.zero_le _⟩) hS hA hP (fun H locs hP hS => ?_)
    exact W.iret (v := (y_way (x_Y X) (j_po (x_J X)) (y_fil (x_Y X) (j_po (x_J X)) (y_n (x_Y X))) v_g 1)) hx hb hr (fun t ht hW => ⟨⟨(y_way (x_Y X) (j_po (x_J X)) (y_fil (x_Y X) (j_po (x_J X)) (y_n (x_Y X))) v_g 1), (), rfl, by simp [j_way, c_1], trivial⟩, hS.F ht⟩) hS.2.2 dX2_wayNow_32

theorem in_X2_restart_2 : ∀ w ∈ wsX20, w ∈ wsX2_restart := by decide +kernel
set_option maxHeartbeats 4000000 in
set_option maxRecDepth 100000 in
/-- RampJam.restart -/
theorem c_X2_restart (l : Launch) (G : va_G) (cI cZ cJ : ClassId) (a : Nat → Nat) (sz : Nat) (X : XS)  : Met l yX2_restart wsX2_restart ({ frames := 1, cells := 0, slots := 0, locals := 21 }) (rw_Pc G [(cI, .int), (cZ, .boolean), (cJ, .long)] (wJ cI cZ cJ a (x_J X) (x_S X) (x_Y X)) sz [.ref (a 0)]) (rw_Qv (S := XS) (x_rest X) (fun u : XS => wJ cI cZ cJ a (x_J u) (x_S u) (x_Y u)) G (wJ cI cZ cJ a (x_J X) (x_S X) (x_Y X)) sz) 0 0 (va_A (wJ cI cZ cJ a (x_J X) (x_S X) (x_Y X)) sz) := by
  refine Met.ofW (cc := cX2_restart) (maxL := 1) (ret := none) (by decide) rfl ?_
  intro p e s m args below meth c s₁ B hml hv
  obtain ⟨rfl, hsz, hP, hK, hD0, hN⟩ := hv
  have hx := B.exec
  have hb := B.bytes
  have hr := B.returns
  have hts := atoms_spec (ws := wsX2_restart) B.pre
  have hown : s.vm.findClass RX2 = some m.cls := findClass_of_methodNamed B.named
  have hlocks := B.notSynchronized
  subst hsz
  have hD0 : va_D (fun _ => True) [((a 0), .inr (2, [.ref (a 6), .ref (a 1), .int (j_pp (x_J X)), .int (j_po (x_J X)), .int (j_mc (x_J X)), .int (j_dc (x_J X)), .int (j_is (x_J X))])), ((a 1), .inr (0, [.ref (a 6), .ref (a 2), .ref (a 3), .ref (a 4), .ref (a 5), .int (s_fc (x_S X)), .int (s_fs (x_S X)), .int (s_sm (x_S X)), .int (s_sc (x_S X)), .int (s_sf (x_S X))])), ((a 2), .inl (cI, 800, .inl (s_fo (x_S X)))), ((a 3), .inl (cI, 800, .inl (s_or (x_S X)))), ((a 4), .inl (cI, 800, .inl (s_mo (x_S X)))), ((a 5), .inl (cI, 2048, .inl (s_sl (x_S X)))), ((a 6), .inr (1, [.ref (a 7), .ref (a 8), .ref (a 9), .ref (a 10), .int (nI (y_n (x_Y X))), .long (y_rp (x_Y X))])), ((a 7), .inl (cI, 9, .inl (y_sz (x_Y X)))), ((a 8), .inl (cZ, 9, .inl (y_ac (x_Y X)))), ((a 9), .inl (cI, 9, .inl (y_li (x_Y X)))), ((a 10), .inl (cJ, 9, .inr (.inl (y_sh (x_Y X)))))] := hD0
  have hD := hD0.self (sz := s.heap.size)
  unfold rw_Qv
  generalize hAe : va_A (wJ cI cZ cJ a (x_J X) (x_S X) (x_Y X)) s.heap.size = A at hD ⊢
  have hA : ∀ q : Nat, s.heap.size ≤ q → A q := fun q h => by rw [← hAe]; exact Or.inr h
  have hS : va_S A s.heap s.heap [] := va_S.rf
  have hP : va_P G vwCl [((a 0), .inr (2, [.ref (a 6), .ref (a 1), .int (j_pp (x_J X)), .int (j_po (x_J X)), .int (j_mc (x_J X)), .int (j_dc (x_J X)), .int (j_is (x_J X))])), ((a 1), .inr (0, [.ref (a 6), .ref (a 2), .ref (a 3), .ref (a 4), .ref (a 5), .int (s_fc (x_S X)), .int (s_fs (x_S X)), .int (s_sm (x_S X)), .int (s_sc (x_S X)), .int (s_sf (x_S X))])), ((a 2), .inl (cI, 800, .inl (s_fo (x_S X)))), ((a 3), .inl (cI, 800, .inl (s_or (x_S X)))), ((a 4), .inl (cI, 800, .inl (s_mo (x_S X)))), ((a 5), .inl (cI, 2048, .inl (s_sl (x_S X)))), ((a 6), .inr (1, [.ref (a 7), .ref (a 8), .ref (a 9), .ref (a 10), .int (nI (y_n (x_Y X))), .long (y_rp (x_Y X))])), ((a 7), .inl (cI, 9, .inl (y_sz (x_Y X)))), ((a 8), .inl (cZ, 9, .inl (y_ac (x_Y X)))), ((a 9), .inl (cI, 9, .inl (y_li (x_Y X)))), ((a 10), .inl (cJ, 9, .inr (.inl (y_sh (x_Y X)))))] s.heap := hP
  have hl := lv_entry ([.ref (a 0)]) (n := 1) (Nat.le_of_ble_eq_true rfl)
  rw [lg_entry_eq]
  generalize (lg_sl ([.ref (a 0)]) ++ List.replicate (1 - (lg_sl ([.ref (a 0)])).length) Slot.unset).toArray = ls at hl ⊢
  have hl : lv_has ls 1 [(0, .ref (a 0))] := hl
  refine lv_aload_n hx hb dX2_restart_0 rfl (lv_at hl 0 rfl) ?_
  refine lv_aload_n hx hb dX2_restart_1 rfl (lv_at hl 0 rfl) ?_
  refine va_get (D := G) (ci := 2) (v := .int (j_pp (x_J X))) (C := RX2) (T := TX2) (N := 7) hx hb hts in_X2_restart_2 hown hK hP 0 rfl rfl 2 (by decide) (hts (.fieldLink RX2 73 "RampJam" "parkedPosition" "I") (by decide +kernel)) (fun _ h9 => h9) rfl dX2_restart_2 ?_
  refine rw_v (wr := []) (ws' := [((a 0), .inr (2, [.ref (a 6), .ref (a 1), .int (j_pp (x_J (x_stand X (j_pp (x_J X))))), .int (j_po (x_J (x_stand X (j_pp (x_J X))))), .int (j_mc (x_J (x_stand X (j_pp (x_J X))))), .int (j_dc (x_J (x_stand X (j_pp (x_J X))))), .int (j_is (x_J (x_stand X (j_pp (x_J X)))))])), ((a 1), .inr (0, [.ref (a 6), .ref (a 2), .ref (a 3), .ref (a 4), .ref (a 5), .int (s_fc (x_S (x_stand X (j_pp (x_J X))))), .int (s_fs (x_S (x_stand X (j_pp (x_J X))))), .int (s_sm (x_S (x_stand X (j_pp (x_J X))))), .int (s_sc (x_S (x_stand X (j_pp (x_J X))))), .int (s_sf (x_S (x_stand X (j_pp (x_J X)))))])), ((a 2), .inl (cI, 800, .inl (s_fo (x_S (x_stand X (j_pp (x_J X))))))), ((a 3), .inl (cI, 800, .inl (s_or (x_S (x_stand X (j_pp (x_J X))))))), ((a 4), .inl (cI, 800, .inl (s_mo (x_S (x_stand X (j_pp (x_J X))))))), ((a 5), .inl (cI, 2048, .inl (s_sl (x_S (x_stand X (j_pp (x_J X))))))), ((a 6), .inr (1, [.ref (a 7), .ref (a 8), .ref (a 9), .ref (a 10), .int (nI (y_n (x_Y (x_stand X (j_pp (x_J X)))))), .long (y_rp (x_Y (x_stand X (j_pp (x_J X)))))])), ((a 7), .inl (cI, 9, .inl (y_sz (x_Y (x_stand X (j_pp (x_J X))))))), ((a 8), .inl (cZ, 9, .inl (y_ac (x_Y (x_stand X (j_pp (x_J X))))))), ((a 9), .inl (cI, 9, .inl (y_li (x_Y (x_stand X (j_pp (x_J X))))))), ((a 10), .inl (cJ, 9, .inr (.inl (y_sh (x_Y (x_stand X (j_pp (x_J X))))))))]) (va_runV (As := [.int (j_pp (x_J X))]) (rest := []) ⟨hx, hb, hml, hown, hts⟩ ((c_X2_standAt l G cI cZ cJ a _ X (j_pp (x_J X)))) (cwV 1 hts gX2_restart_X2_standAt rfl rfl rfl (by decide +kernel) ⟨Nat.le_of_ble_eq_true rfl, Nat.le_of_ble_eq_true rfl⟩) ⟨rw_blind, va_recv hK hP (ci := 2) (q0 := 0) rfl rfl, rw_pre hP hD hK hN⟩ rfl rfl hl.1 rfl (lv_room (Nat.le_of_ble_eq_true rfl)) dX2_restart_5 ⟨Nat.zero_le _, Nat.zero_le _⟩) hS hA hP hD [0, 1, 2, 3, 4, 5, 6, 7, 8, 9, 10] [] [0, 1, 2, 3, 4, 5, 6, 7, 8, 9, 10] rfl rfl (by decide) (by decide) rfl (by decide) (fun H locs hP hD hS => ?_)
  refine lv_aload_n hx hb dX2_restart_8 rfl (lv_at hl 0 rfl) ?_
  refine lv_iconst (v := 0) hx hb dX2_restart_9 (by decide) ?_
  refine va_put (D := G) (ci := 2) (v := .int 0) (ty := .int) (C := RX2) (T := TX2) (N := 7) hx hb hts in_X2_restart_2 tyX2 tyX2_ok nmX2 hown hK hP hD hS 0 rfl rfl 4 (by decide) (hts (.fieldLink RX2 44 "RampJam" "moveCount" "I") (by decide +kernel)) (fun _ h9 => h9) rfl (by decide +kernel) rfl rfl (Nat.le_of_ble_eq_true rfl) dX2_restart_10 (fun H locs hP hD hS => ?_)
  have hP : va_P G vwCl [((a 0), .inr (2, [.ref (a 6), .ref (a 1), .int (j_pp (x_J (x_stand X (j_pp (x_J X))))), .int (j_po (x_J (x_stand X (j_pp (x_J X))))), .int 0, .int (j_dc (x_J (x_stand X (j_pp (x_J X))))), .int (j_is (x_J (x_stand X (j_pp (x_J X)))))])), ((a 1), .inr (0, [.ref (a 6), .ref (a 2), .ref (a 3), .ref (a 4), .ref (a 5), .int (s_fc (x_S (x_stand X (j_pp (x_J X))))), .int (s_fs (x_S (x_stand X (j_pp (x_J X))))), .int (s_sm (x_S (x_stand X (j_pp (x_J X))))), .int (s_sc (x_S (x_stand X (j_pp (x_J X))))), .int (s_sf (x_S (x_stand X (j_pp (x_J X)))))])), ((a 2), .inl (cI, 800, .inl (s_fo (x_S (x_stand X (j_pp (x_J X))))))), ((a 3), .inl (cI, 800, .inl (s_or (x_S (x_stand X (j_pp (x_J X))))))), ((a 4), .inl (cI, 800, .inl (s_mo (x_S (x_stand X (j_pp (x_J X))))))), ((a 5), .inl (cI, 2048, .inl (s_sl (x_S (x_stand X (j_pp (x_J X))))))), ((a 6), .inr (1, [.ref (a 7), .ref (a 8), .ref (a 9), .ref (a 10), .int (nI (y_n (x_Y (x_stand X (j_pp (x_J X)))))), .long (y_rp (x_Y (x_stand X (j_pp (x_J X)))))])), ((a 7), .inl (cI, 9, .inl (y_sz (x_Y (x_stand X (j_pp (x_J X))))))), ((a 8), .inl (cZ, 9, .inl (y_ac (x_Y (x_stand X (j_pp (x_J X))))))), ((a 9), .inl (cI, 9, .inl (y_li (x_Y (x_stand X (j_pp (x_J X))))))), ((a 10), .inl (cJ, 9, .inr (.inl (y_sh (x_Y (x_stand X (j_pp (x_J X))))))))] H := hP
  have hD : va_D A [((a 0), .inr (2, [.ref (a 6), .ref (a 1), .int (j_pp (x_J (x_stand X (j_pp (x_J X))))), .int (j_po (x_J (x_stand X (j_pp (x_J X))))), .int 0, .int (j_dc (x_J (x_stand X (j_pp (x_J X))))), .int (j_is (x_J (x_stand X (j_pp (x_J X)))))])), ((a 1), .inr (0, [.ref (a 6), .ref (a 2), .ref (a 3), .ref (a 4), .ref (a 5), .int (s_fc (x_S (x_stand X (j_pp (x_J X))))), .int (s_fs (x_S (x_stand X (j_pp (x_J X))))), .int (s_sm (x_S (x_stand X (j_pp (x_J X))))), .int (s_sc (x_S (x_stand X (j_pp (x_J X))))), .int (s_sf (x_S (x_stand X (j_pp (x_J X)))))])), ((a 2), .inl (cI, 800, .inl (s_fo (x_S (x_stand X (j_pp (x_J X))))))), ((a 3), .inl (cI, 800, .inl (s_or (x_S (x_stand X (j_pp (x_J X))))))), ((a 4), .inl (cI, 800, .inl (s_mo (x_S (x_stand X (j_pp (x_J X))))))), ((a 5), .inl (cI, 2048, .inl (s_sl (x_S (x_stand X (j_pp (x_J X))))))), ((a 6), .inr (1, [.ref (a 7), .ref (a 8), .ref (a 9), .ref (a 10), .int (nI (y_n (x_Y (x_stand X (j_pp (x_J X)))))), .long (y_rp (x_Y (x_stand X (j_pp (x_J X)))))])), ((a 7), .inl (cI, 9, .inl (y_sz (x_Y (x_stand X (j_pp (x_J X))))))), ((a 8), .inl (cZ, 9, .inl (y_ac (x_Y (x_stand X (j_pp (x_J X))))))), ((a 9), .inl (cI, 9, .inl (y_li (x_Y (x_stand X (j_pp (x_J X))))))), ((a 10), .inl (cJ, 9, .inr (.inl (y_sh (x_Y (x_stand X (j_pp (x_J X))))))))] := hD
  refine lv_aload_n hx hb dX2_restart_13 rfl (lv_at hl 0 rfl) ?_
  refine lv_iconst (v := 0) hx hb dX2_restart_14 (by decide) ?_
  refine va_put (D := G) (ci := 2) (v := .int 0) (ty := .int) (C := RX2) (T := TX2) (N := 7) hx hb hts in_X2_restart_2 tyX2 tyX2_ok nmX2 hown hK hP hD hS 0 rfl rfl 5 (by decide) (hts (.fieldLink RX2 136 "RampJam" "drivenCells" "I") (by decide +kernel)) (fun _ h9 => h9) rfl (by decide +kernel) rfl rfl (Nat.le_of_ble_eq_true rfl) dX2_restart_15 (fun H locs hP hD hS => ?_)
  have hP : va_P G vwCl [((a 0), .inr (2, [.ref (a 6), .ref (a 1), .int (j_pp (x_J (x_stand X (j_pp (x_J X))))), .int (j_po (x_J (x_stand X (j_pp (x_J X))))), .int 0, .int 0, .int (j_is (x_J (x_stand X (j_pp (x_J X)))))])), ((a 1), .inr (0, [.ref (a 6), .ref (a 2), .ref (a 3), .ref (a 4), .ref (a 5), .int (s_fc (x_S (x_stand X (j_pp (x_J X))))), .int (s_fs (x_S (x_stand X (j_pp (x_J X))))), .int (s_sm (x_S (x_stand X (j_pp (x_J X))))), .int (s_sc (x_S (x_stand X (j_pp (x_J X))))), .int (s_sf (x_S (x_stand X (j_pp (x_J X)))))])), ((a 2), .inl (cI, 800, .inl (s_fo (x_S (x_stand X (j_pp (x_J X))))))), ((a 3), .inl (cI, 800, .inl (s_or (x_S (x_stand X (j_pp (x_J X))))))), ((a 4), .inl (cI, 800, .inl (s_mo (x_S (x_stand X (j_pp (x_J X))))))), ((a 5), .inl (cI, 2048, .inl (s_sl (x_S (x_stand X (j_pp (x_J X))))))), ((a 6), .inr (1, [.ref (a 7), .ref (a 8), .ref (a 9), .ref (a 10), .int (nI (y_n (x_Y (x_stand X (j_pp (x_J X)))))), .long (y_rp (x_Y (x_stand X (j_pp (x_J X)))))])), ((a 7), .inl (cI, 9, .inl (y_sz (x_Y (x_stand X (j_pp (x_J X))))))), ((a 8), .inl (cZ, 9, .inl (y_ac (x_Y (x_stand X (j_pp (x_J X))))))), ((a 9), .inl (cI, 9, .inl (y_li (x_Y (x_stand X (j_pp (x_J X))))))), ((a 10), .inl (cJ, 9, .inr (.inl (y_sh (x_Y (x_stand X (j_pp (x_J X))))))))] H := hP
  have hD : va_D A [((a 0), .inr (2, [.ref (a 6), .ref (a 1), .int (j_pp (x_J (x_stand X (j_pp (x_J X))))), .int (j_po (x_J (x_stand X (j_pp (x_J X))))), .int 0, .int 0, .int (j_is (x_J (x_stand X (j_pp (x_J X)))))])), ((a 1), .inr (0, [.ref (a 6), .ref (a 2), .ref (a 3), .ref (a 4), .ref (a 5), .int (s_fc (x_S (x_stand X (j_pp (x_J X))))), .int (s_fs (x_S (x_stand X (j_pp (x_J X))))), .int (s_sm (x_S (x_stand X (j_pp (x_J X))))), .int (s_sc (x_S (x_stand X (j_pp (x_J X))))), .int (s_sf (x_S (x_stand X (j_pp (x_J X)))))])), ((a 2), .inl (cI, 800, .inl (s_fo (x_S (x_stand X (j_pp (x_J X))))))), ((a 3), .inl (cI, 800, .inl (s_or (x_S (x_stand X (j_pp (x_J X))))))), ((a 4), .inl (cI, 800, .inl (s_mo (x_S (x_stand X (j_pp (x_J X))))))), ((a 5), .inl (cI, 2048, .inl (s_sl (x_S (x_stand X (j_pp (x_J X))))))), ((a 6), .inr (1, [.ref (a 7), .ref (a 8), .ref (a 9), .ref (a 10), .int (nI (y_n (x_Y (x_stand X (j_pp (x_J X)))))), .long (y_rp (x_Y (x_stand X (j_pp (x_J X)))))])), ((a 7), .inl (cI, 9, .inl (y_sz (x_Y (x_stand X (j_pp (x_J X))))))), ((a 8), .inl (cZ, 9, .inl (y_ac (x_Y (x_stand X (j_pp (x_J X))))))), ((a 9), .inl (cI, 9, .inl (y_li (x_Y (x_stand X (j_pp (x_J X))))))), ((a 10), .inl (cJ, 9, .inr (.inl (y_sh (x_Y (x_stand X (j_pp (x_J X))))))))] := hD
  have hP9 := hP
  have hD9 := hD
  exact W.vret hx hb hr (fun t ht hW => ⟨⟨(((j_pp (x_J (x_stand X (j_pp (x_J X))))), (j_po (x_J (x_stand X (j_pp (x_J X))))), 0, 0, (j_is (x_J (x_stand X (j_pp (x_J X)))))), (x_S (x_stand X (j_pp (x_J X)))), (x_Y (x_stand X (j_pp (x_J X))))), rfl, rfl, by rw [ht]; exact hP9, hD9⟩, hS.F ht⟩) hS.2.2 dX2_restart_18

theorem in_X2_vehicles_2 : ∀ w ∈ wsX20, w ∈ wsX2_vehicles := by decide +kernel
set_option maxHeartbeats 4000000 in
set_option maxRecDepth 100000 in
/-- RampJam.vehicles -/
theorem c_X2_vehicles (l : Launch) (G : va_G) (cI cZ cJ : ClassId) (a : Nat → Nat) (sz : Nat) (X : XS)  : Met l yX2_vehicles wsX2_vehicles ({ frames := 1, cells := 0, slots := 0, locals := 20 }) (ro_Pc G [(cI, .int), (cZ, .boolean), (cJ, .long)] (wJ cI cZ cJ a (x_J X) (x_S X) (x_Y X)) sz [.ref (a 0)]) (ro_Qi (nI (y_n (x_Y X))) sz) 0 0 (ro_A sz) := by
  refine Met.ofW (cc := cX2_vehicles) (maxL := 1) (ret := (some .int)) (by decide) rfl ?_
  intro p e s m args below meth c s₁ B hml hv
  obtain ⟨rfl, hsz, hP, hK, hN⟩ := hv
  have hx := B.exec
  have hb := B.bytes
  have hr := B.returns
  have hts := atoms_spec (ws := wsX2_vehicles) B.pre
  have hown : s.vm.findClass RX2 = some m.cls := findClass_of_methodNamed B.named
  have hlocks := B.notSynchronized
  subst hsz
  have hA : ∀ q : Nat, s.heap.size ≤ q → (ro_A s.heap.size) q := fun _ h => h
  have hS : va_S (ro_A s.heap.size) s.heap s.heap [] := va_S.rf
  have hP : va_P G vwCl [((a 0), .inr (2, [.ref (a 6), .ref (a 1), .int (j_pp (x_J X)), .int (j_po (x_J X)), .int (j_mc (x_J X)), .int (j_dc (x_J X)), .int (j_is (x_J X))])), ((a 1), .inr (0, [.ref (a 6), .ref (a 2), .ref (a 3), .ref (a 4), .ref (a 5), .int (s_fc (x_S X)), .int (s_fs (x_S X)), .int (s_sm (x_S X)), .int (s_sc (x_S X)), .int (s_sf (x_S X))])), ((a 2), .inl (cI, 800, .inl (s_fo (x_S X)))), ((a 3), .inl (cI, 800, .inl (s_or (x_S X)))), ((a 4), .inl (cI, 800, .inl (s_mo (x_S X)))), ((a 5), .inl (cI, 2048, .inl (s_sl (x_S X)))), ((a 6), .inr (1, [.ref (a 7), .ref (a 8), .ref (a 9), .ref (a 10), .int (nI (y_n (x_Y X))), .long (y_rp (x_Y X))])), ((a 7), .inl (cI, 9, .inl (y_sz (x_Y X)))), ((a 8), .inl (cZ, 9, .inl (y_ac (x_Y X)))), ((a 9), .inl (cI, 9, .inl (y_li (x_Y X)))), ((a 10), .inl (cJ, 9, .inr (.inl (y_sh (x_Y X)))))] s.heap := hP
  have hl := lv_entry ([.ref (a 0)]) (n := 1) (Nat.le_of_ble_eq_true rfl)
  rw [lg_entry_eq]
  generalize (lg_sl ([.ref (a 0)]) ++ List.replicate (1 - (lg_sl ([.ref (a 0)])).length) Slot.unset).toArray = ls at hl ⊢
  have hl : lv_has ls 1 [(0, .ref (a 0))] := hl
  refine lv_aload_n hx hb dX2_vehicles_0 rfl (lv_at hl 0 rfl) ?_
  refine va_get (D := G) (ci := 2) (v := .ref (a 6)) (C := RX2) (T := TX2) (N := 7) hx hb hts in_X2_vehicles_2 hown hK hP 0 rfl rfl 0 (by decide) (hts (.fieldLink RX2 10 "RampJam" "yard" "LRampJam$Yard;") (by decide +kernel)) (fun _ h9 => h9) rfl dX2_vehicles_1 ?_
  have hPc := hP.sub (ws' := [((a 6), .inr (1, [.ref (a 7), .ref (a 8), .ref (a 9), .ref (a 10), .int (nI (y_n (x_Y X))), .long (y_rp (x_Y X))])), ((a 7), .inl (cI, 9, .inl (y_sz (x_Y X)))), ((a 8), .inl (cZ, 9, .inl (y_ac (x_Y X)))), ((a 9), .inl (cI, 9, .inl (y_li (x_Y X)))), ((a 10), .inl (cJ, 9, .inr (.inl (y_sh (x_Y X)))))]) [6, 7, 8, 9, 10] rfl
  refine ro_i (va_runV (As := []) (rest := []) ⟨hx, hb, hml, hown, hts⟩ ((c_X1_count l G cI cZ cJ a _ (x_Y X))) (cwV 0 hts gX2_vehicles_X1_count rfl rfl rfl (by decide +kernel) ⟨Nat.le_of_ble_eq_true rfl, Nat.le_of_ble_eq_true rfl⟩) ⟨ro_blind, va_recv hK hPc (ci := 1) (q0 := 0) rfl rfl, ro_pre hPc hK hN⟩ rfl rfl hl.1 rfl (lv_room (Nat.le_of_ble_eq_true rfl)) dX2_vehicles_4 ⟨Nat.zero_le _, Nat.zero_le _⟩) hS hA hP (fun H locs hP hS => ?_)
  exact W.iret (v := (nI (y_n (x_Y X)))) hx hb hr (fun t ht hW => ⟨⟨(nI (y_n (x_Y X))), (), rfl, rfl, trivial⟩, hS.F ht⟩) hS.2.2 dX2_vehicles_7

theorem in_X2_moves_2 : ∀ w ∈ wsX20, w ∈ wsX2_moves := by decide +kernel
set_option maxHeartbeats 4000000 in
set_option maxRecDepth 100000 in
/-- RampJam.moves -/
theorem c_X2_moves (l : Launch) (G : va_G) (cI cZ cJ : ClassId) (a : Nat → Nat) (sz : Nat) (X : XS)  : Met l yX2_moves wsX2_moves ({ frames := 0, cells := 0, slots := 0, locals := 0 }) (ro_Pc G [(cI, .int), (cZ, .boolean), (cJ, .long)] (wJ cI cZ cJ a (x_J X) (x_S X) (x_Y X)) sz [.ref (a 0)]) (ro_Qi (j_mc (x_J X)) sz) 0 0 (ro_A sz) := by
  refine Met.ofW (cc := cX2_moves) (maxL := 1) (ret := (some .int)) (by decide) rfl ?_
  intro p e s m args below meth c s₁ B hml hv
  obtain ⟨rfl, hsz, hP, hK, hN⟩ := hv
  have hx := B.exec
  have hb := B.bytes
  have hr := B.returns
  have hts := atoms_spec (ws := wsX2_moves) B.pre
  have hown : s.vm.findClass RX2 = some m.cls := findClass_of_methodNamed B.named
  have hlocks := B.notSynchronized
  subst hsz
  have hA : ∀ q : Nat, s.heap.size ≤ q → (ro_A s.heap.size) q := fun _ h => h
  have hS : va_S (ro_A s.heap.size) s.heap s.heap [] := va_S.rf
  have hP : va_P G vwCl [((a 0), .inr (2, [.ref (a 6), .ref (a 1), .int (j_pp (x_J X)), .int (j_po (x_J X)), .int (j_mc (x_J X)), .int (j_dc (x_J X)), .int (j_is (x_J X))])), ((a 1), .inr (0, [.ref (a 6), .ref (a 2), .ref (a 3), .ref (a 4), .ref (a 5), .int (s_fc (x_S X)), .int (s_fs (x_S X)), .int (s_sm (x_S X)), .int (s_sc (x_S X)), .int (s_sf (x_S X))])), ((a 2), .inl (cI, 800, .inl (s_fo (x_S X)))), ((a 3), .inl (cI, 800, .inl (s_or (x_S X)))), ((a 4), .inl (cI, 800, .inl (s_mo (x_S X)))), ((a 5), .inl (cI, 2048, .inl (s_sl (x_S X)))), ((a 6), .inr (1, [.ref (a 7), .ref (a 8), .ref (a 9), .ref (a 10), .int (nI (y_n (x_Y X))), .long (y_rp (x_Y X))])), ((a 7), .inl (cI, 9, .inl (y_sz (x_Y X)))), ((a 8), .inl (cZ, 9, .inl (y_ac (x_Y X)))), ((a 9), .inl (cI, 9, .inl (y_li (x_Y X)))), ((a 10), .inl (cJ, 9, .inr (.inl (y_sh (x_Y X)))))] s.heap := hP
  have hl := lv_entry ([.ref (a 0)]) (n := 1) (Nat.le_of_ble_eq_true rfl)
  rw [lg_entry_eq]
  generalize (lg_sl ([.ref (a 0)]) ++ List.replicate (1 - (lg_sl ([.ref (a 0)])).length) Slot.unset).toArray = ls at hl ⊢
  have hl : lv_has ls 1 [(0, .ref (a 0))] := hl
  refine lv_aload_n hx hb dX2_moves_0 rfl (lv_at hl 0 rfl) ?_
  refine va_get (D := G) (ci := 2) (v := .int (j_mc (x_J X))) (C := RX2) (T := TX2) (N := 7) hx hb hts in_X2_moves_2 hown hK hP 0 rfl rfl 4 (by decide) (hts (.fieldLink RX2 44 "RampJam" "moveCount" "I") (by decide +kernel)) (fun _ h9 => h9) rfl dX2_moves_1 ?_
  exact W.iret (v := (j_mc (x_J X))) hx hb hr (fun t ht hW => ⟨⟨(j_mc (x_J X)), (), rfl, rfl, trivial⟩, hS.F ht⟩) hS.2.2 dX2_moves_4

theorem in_X2_driven_2 : ∀ w ∈ wsX20, w ∈ wsX2_driven := by decide +kernel
set_option maxHeartbeats 4000000 in
set_option maxRecDepth 100000 in
/-- RampJam.driven -/
theorem c_X2_driven (l : Launch) (G : va_G) (cI cZ cJ : ClassId) (a : Nat → Nat) (sz : Nat) (X : XS)  : Met l yX2_driven wsX2_driven ({ frames := 0, cells := 0, slots := 0, locals := 0 }) (ro_Pc G [(cI, .int), (cZ, .boolean), (cJ, .long)] (wJ cI cZ cJ a (x_J X) (x_S X) (x_Y X)) sz [.ref (a 0)]) (ro_Qi (j_dc (x_J X)) sz) 0 0 (ro_A sz) := by
  refine Met.ofW (cc := cX2_driven) (maxL := 1) (ret := (some .int)) (by decide) rfl ?_
  intro p e s m args below meth c s₁ B hml hv
  obtain ⟨rfl, hsz, hP, hK, hN⟩ := hv
  have hx := B.exec
  have hb := B.bytes
  have hr := B.returns
  have hts := atoms_spec (ws := wsX2_driven) B.pre
  have hown : s.vm.findClass RX2 = some m.cls := findClass_of_methodNamed B.named
  have hlocks := B.notSynchronized
  subst hsz
  have hA : ∀ q : Nat, s.heap.size ≤ q → (ro_A s.heap.size) q := fun _ h => h
  have hS : va_S (ro_A s.heap.size) s.heap s.heap [] := va_S.rf
  have hP : va_P G vwCl [((a 0), .inr (2, [.ref (a 6), .ref (a 1), .int (j_pp (x_J X)), .int (j_po (x_J X)), .int (j_mc (x_J X)), .int (j_dc (x_J X)), .int (j_is (x_J X))])), ((a 1), .inr (0, [.ref (a 6), .ref (a 2), .ref (a 3), .ref (a 4), .ref (a 5), .int (s_fc (x_S X)), .int (s_fs (x_S X)), .int (s_sm (x_S X)), .int (s_sc (x_S X)), .int (s_sf (x_S X))])), ((a 2), .inl (cI, 800, .inl (s_fo (x_S X)))), ((a 3), .inl (cI, 800, .inl (s_or (x_S X)))), ((a 4), .inl (cI, 800, .inl (s_mo (x_S X)))), ((a 5), .inl (cI, 2048, .inl (s_sl (x_S X)))), ((a 6), .inr (1, [.ref (a 7), .ref (a 8), .ref (a 9), .ref (a 10), .int (nI (y_n (x_Y X))), .long (y_rp (x_Y X))])), ((a 7), .inl (cI, 9, .inl (y_sz (x_Y X)))), ((a 8), .inl (cZ, 9, .inl (y_ac (x_Y X)))), ((a 9), .inl (cI, 9, .inl (y_li (x_Y X)))), ((a 10), .inl (cJ, 9, .inr (.inl (y_sh (x_Y X)))))] s.heap := hP
  have hl := lv_entry ([.ref (a 0)]) (n := 1) (Nat.le_of_ble_eq_true rfl)
  rw [lg_entry_eq]
  generalize (lg_sl ([.ref (a 0)]) ++ List.replicate (1 - (lg_sl ([.ref (a 0)])).length) Slot.unset).toArray = ls at hl ⊢
  have hl : lv_has ls 1 [(0, .ref (a 0))] := hl
  refine lv_aload_n hx hb dX2_driven_0 rfl (lv_at hl 0 rfl) ?_
  refine va_get (D := G) (ci := 2) (v := .int (j_dc (x_J X))) (C := RX2) (T := TX2) (N := 7) hx hb hts in_X2_driven_2 hown hK hP 0 rfl rfl 5 (by decide) (hts (.fieldLink RX2 136 "RampJam" "drivenCells" "I") (by decide +kernel)) (fun _ h9 => h9) rfl dX2_driven_1 ?_
  exact W.iret (v := (j_dc (x_J X))) hx hb hr (fun t ht hW => ⟨⟨(j_dc (x_J X)), (), rfl, rfl, trivial⟩, hS.F ht⟩) hS.2.2 dX2_driven_4

theorem in_X2_isSolved_2 : ∀ w ∈ wsX20, w ∈ wsX2_isSolved := by decide +kernel
set_option maxHeartbeats 4000000 in
set_option maxRecDepth 100000 in
/-- RampJam.isSolved -/
theorem c_X2_isSolved (l : Launch) (G : va_G) (cI cZ cJ : ClassId) (a : Nat → Nat) (sz : Nat) (X : XS)  : Met l yX2_isSolved wsX2_isSolved ({ frames := 1, cells := 0, slots := 0, locals := 21 }) (ro_Pc G [(cI, .int), (cZ, .boolean), (cJ, .long)] (wJ cI cZ cJ a (x_J X) (x_S X) (x_Y X)) sz [.ref (a 0)]) (ro_Qi (b1 (pl (j_po (x_J X)) 0 = 4)) sz) 0 0 (ro_A sz) := by
  refine Met.ofW (cc := cX2_isSolved) (maxL := 1) (ret := (some .boolean)) (by decide) rfl ?_
  intro p e s m args below meth c s₁ B hml hv
  obtain ⟨rfl, hsz, hP, hK, hN⟩ := hv
  have hx := B.exec
  have hb := B.bytes
  have hr := B.returns
  have hts := atoms_spec (ws := wsX2_isSolved) B.pre
  have hown : s.vm.findClass RX2 = some m.cls := findClass_of_methodNamed B.named
  have hlocks := B.notSynchronized
  subst hsz
  have hA : ∀ q : Nat, s.heap.size ≤ q → (ro_A s.heap.size) q := fun _ h => h
  have hS : va_S (ro_A s.heap.size) s.heap s.heap [] := va_S.rf
  have hP : va_P G vwCl [((a 0), .inr (2, [.ref (a 6), .ref (a 1), .int (j_pp (x_J X)), .int (j_po (x_J X)), .int (j_mc (x_J X)), .int (j_dc (x_J X)), .int (j_is (x_J X))])), ((a 1), .inr (0, [.ref (a 6), .ref (a 2), .ref (a 3), .ref (a 4), .ref (a 5), .int (s_fc (x_S X)), .int (s_fs (x_S X)), .int (s_sm (x_S X)), .int (s_sc (x_S X)), .int (s_sf (x_S X))])), ((a 2), .inl (cI, 800, .inl (s_fo (x_S X)))), ((a 3), .inl (cI, 800, .inl (s_or (x_S X)))), ((a 4), .inl (cI, 800, .inl (s_mo (x_S X)))), ((a 5), .inl (cI, 2048, .inl (s_sl (x_S X)))), ((a 6), .inr (1, [.ref (a 7), .ref (a 8), .ref (a 9), .ref (a 10), .int (nI (y_n (x_Y X))), .long (y_rp (x_Y X))])), ((a 7), .inl (cI, 9, .inl (y_sz (x_Y X)))), ((a 8), .inl (cZ, 9, .inl (y_ac (x_Y X)))), ((a 9), .inl (cI, 9, .inl (y_li (x_Y X)))), ((a 10), .inl (cJ, 9, .inr (.inl (y_sh (x_Y X)))))] s.heap := hP
  have hl := lv_entry ([.ref (a 0)]) (n := 1) (Nat.le_of_ble_eq_true rfl)
  rw [lg_entry_eq]
  generalize (lg_sl ([.ref (a 0)]) ++ List.replicate (1 - (lg_sl ([.ref (a 0)])).length) Slot.unset).toArray = ls at hl ⊢
  have hl : lv_has ls 1 [(0, .ref (a 0))] := hl
  refine lv_aload_n hx hb dX2_isSolved_0 rfl (lv_at hl 0 rfl) ?_
  refine va_get (D := G) (ci := 2) (v := .int (j_po (x_J X))) (C := RX2) (T := TX2) (N := 7) hx hb hts in_X2_isSolved_2 hown hK hP 0 rfl rfl 3 (by decide) (hts (.fieldLink RX2 57 "RampJam" "position" "I") (by decide +kernel)) (fun _ h9 => h9) rfl dX2_isSolved_1 ?_
  refine lv_iconst (v := 0) hx hb dX2_isSolved_4 (by decide) ?_
  refine ro_i (va_runS (As := [.int (j_po (x_J X)), .int 0]) (rest := []) ⟨hx, hb, hml, hown, hts⟩ ((c_X2_placeIn l G cI cZ cJ a _ (j_po (x_J X)) 0)) (va_cwS 2 hts gX2_isSolved_X2_placeIn rfl rfl rfl (by decide +kernel) ⟨Nat.le_of_ble_eq_true rfl, Nat.le_of_ble_eq_true rfl⟩) ⟨ro_blind, ro_pre va_P0 hK hN⟩ rfl rfl hl.1 rfl (lv_room (Nat.le_of_ble_eq_true rfl)) dX2_isSolved_5 ⟨Nat.zero_le _, Nat.zero_le _⟩) hS hA hP (fun H locs hP hS => ?_)
  refine lv_iconst (v := 4) hx hb dX2_isSolved_8 (by decide) ?_
  refine lv_icmp_ne (tgt := 16) hx hb dX2_isSolved_9 (by decide) (fun c_1 => ?_) (fun c_1 => ?_)
  · refine lv_iconst (v := 0) hx hb dX2_isSolved_16 (by decide) ?_
    exact W.zret (ty := .boolean) (v := 0) hx hb hr (rfl) (fun t ht hW => ⟨⟨0, (), rfl, by simp [c_1], trivial⟩, hS.F ht⟩) hS.2.2 dX2_isSolved_17
  · refine lv_iconst (v := 1) hx hb dX2_isSolved_12 (by decide) ?_
    refine lv_goto (tgt := 17) hx hb dX2_isSolved_13 (by decide) ?_
    exact W.zret (ty := .boolean) (v := 1) hx hb hr (rfl) (fun t ht hW => ⟨⟨1, (), rfl, by simp [c_1], trivial⟩, hS.F ht⟩) hS.2.2 dX2_isSolved_17

theorem in_X2_positions_2 : ∀ w ∈ wsX20, w ∈ wsX2_positions := by decide +kernel
set_option maxHeartbeats 4000000 in
set_option maxRecDepth 100000 in
/-- RampJam.positions -/
theorem c_X2_positions (l : Launch) (G : va_G) (cI cZ cJ : ClassId) (a : Nat → Nat) (sz : Nat) (X : XS) (hn : y_n (x_Y X) ≤ 9) : Met l yX2_positions wsX2_positions ({ frames := 6, cells := 0, slots := 0, locals := 144 }) (rw_Pc G [(cI, .int), (cZ, .boolean), (cJ, .long)] (wJ cI cZ cJ a (x_J X) (x_S X) (x_Y X)) sz [.ref (a 0)]) (rw_Qi (S := XS) (s_fc (x_S (x_srch X))) (x_srch X) (fun u : XS => wJ cI cZ cJ a (x_J u) (x_S u) (x_Y u)) G (wJ cI cZ cJ a (x_J X) (x_S X) (x_Y X)) sz) 0 0 (va_A (wJ cI cZ cJ a (x_J X) (x_S X) (x_Y X)) sz) := by
  refine Met.ofW (cc := cX2_positions) (maxL := 1) (ret := (some .int)) (by decide) rfl ?_
  intro p e s m args below meth c s₁ B hml hv
  obtain ⟨rfl, hsz, hP, hK, hD0, hN⟩ := hv
  have hx := B.exec
  have hb := B.bytes
  have hr := B.returns
  have hts := atoms_spec (ws := wsX2_positions) B.pre
  have hown : s.vm.findClass RX2 = some m.cls := findClass_of_methodNamed B.named
  have hlocks := B.notSynchronized
  subst hsz
  have hD0 : va_D (fun _ => True) [((a 0), .inr (2, [.ref (a 6), .ref (a 1), .int (j_pp (x_J X)), .int (j_po (x_J X)), .int (j_mc (x_J X)), .int (j_dc (x_J X)), .int (j_is (x_J X))])), ((a 1), .inr (0, [.ref (a 6), .ref (a 2), .ref (a 3), .ref (a 4), .ref (a 5), .int (s_fc (x_S X)), .int (s_fs (x_S X)), .int (s_sm (x_S X)), .int (s_sc (x_S X)), .int (s_sf (x_S X))])), ((a 2), .inl (cI, 800, .inl (s_fo (x_S X)))), ((a 3), .inl (cI, 800, .inl (s_or (x_S X)))), ((a 4), .inl (cI, 800, .inl (s_mo (x_S X)))), ((a 5), .inl (cI, 2048, .inl (s_sl (x_S X)))), ((a 6), .inr (1, [.ref (a 7), .ref (a 8), .ref (a 9), .ref (a 10), .int (nI (y_n (x_Y X))), .long (y_rp (x_Y X))])), ((a 7), .inl (cI, 9, .inl (y_sz (x_Y X)))), ((a 8), .inl (cZ, 9, .inl (y_ac (x_Y X)))), ((a 9), .inl (cI, 9, .inl (y_li (x_Y X)))), ((a 10), .inl (cJ, 9, .inr (.inl (y_sh (x_Y X)))))] := hD0
  have hD := hD0.self (sz := s.heap.size)
  unfold rw_Qi
  generalize hAe : va_A (wJ cI cZ cJ a (x_J X) (x_S X) (x_Y X)) s.heap.size = A at hD ⊢
  have hA : ∀ q : Nat, s.heap.size ≤ q → A q := fun q h => by rw [← hAe]; exact Or.inr h
  have hS : va_S A s.heap s.heap [] := va_S.rf
  have hP : va_P G vwCl [((a 0), .inr (2, [.ref (a 6), .ref (a 1), .int (j_pp (x_J X)), .int (j_po (x_J X)), .int (j_mc (x_J X)), .int (j_dc (x_J X)), .int (j_is (x_J X))])), ((a 1), .inr (0, [.ref (a 6), .ref (a 2), .ref (a 3), .ref (a 4), .ref (a 5), .int (s_fc (x_S X)), .int (s_fs (x_S X)), .int (s_sm (x_S X)), .int (s_sc (x_S X)), .int (s_sf (x_S X))])), ((a 2), .inl (cI, 800, .inl (s_fo (x_S X)))), ((a 3), .inl (cI, 800, .inl (s_or (x_S X)))), ((a 4), .inl (cI, 800, .inl (s_mo (x_S X)))), ((a 5), .inl (cI, 2048, .inl (s_sl (x_S X)))), ((a 6), .inr (1, [.ref (a 7), .ref (a 8), .ref (a 9), .ref (a 10), .int (nI (y_n (x_Y X))), .long (y_rp (x_Y X))])), ((a 7), .inl (cI, 9, .inl (y_sz (x_Y X)))), ((a 8), .inl (cZ, 9, .inl (y_ac (x_Y X)))), ((a 9), .inl (cI, 9, .inl (y_li (x_Y X)))), ((a 10), .inl (cJ, 9, .inr (.inl (y_sh (x_Y X)))))] s.heap := hP
  have hl := lv_entry ([.ref (a 0)]) (n := 1) (Nat.le_of_ble_eq_true rfl)
  rw [lg_entry_eq]
  generalize (lg_sl ([.ref (a 0)]) ++ List.replicate (1 - (lg_sl ([.ref (a 0)])).length) Slot.unset).toArray = ls at hl ⊢
  have hl : lv_has ls 1 [(0, .ref (a 0))] := hl
  refine lv_aload_n hx hb dX2_positions_0 rfl (lv_at hl 0 rfl) ?_
  refine rw_v (wr := []) (ws' := [((a 0), .inr (2, [.ref (a 6), .ref (a 1), .int (j_pp (x_J (x_srch X))), .int (j_po (x_J (x_srch X))), .int (j_mc (x_J (x_srch X))), .int (j_dc (x_J (x_srch X))), .int (j_is (x_J (x_srch X)))])), ((a 1), .inr (0, [.ref (a 6), .ref (a 2), .ref (a 3), .ref (a 4), .ref (a 5), .int (s_fc (x_S (x_srch X))), .int (s_fs (x_S (x_srch X))), .int (s_sm (x_S (x_srch X))), .int (s_sc (x_S (x_srch X))), .int (s_sf (x_S (x_srch X)))])), ((a 2), .inl (cI, 800, .inl (s_fo (x_S (x_srch X))))), ((a 3), .inl (cI, 800, .inl (s_or (x_S (x_srch X))))), ((a 4), .inl (cI, 800, .inl (s_mo (x_S (x_srch X))))), ((a 5), .inl (cI, 2048, .inl (s_sl (x_S (x_srch X))))), ((a 6), .inr (1, [.ref (a 7), .ref (a 8), .ref (a 9), .ref (a 10), .int (nI (y_n (x_Y (x_srch X)))), .long (y_rp (x_Y (x_srch X)))])), ((a 7), .inl (cI, 9, .inl (y_sz (x_Y (x_srch X))))), ((a 8), .inl (cZ, 9, .inl (y_ac (x_Y (x_srch X))))), ((a 9), .inl (cI, 9, .inl (y_li (x_Y (x_srch X))))), ((a 10), .inl (cJ, 9, .inr (.inl (y_sh (x_Y (x_srch X))))))]) (va_runV (As := []) (rest := []) ⟨hx, hb, hml, hown, hts⟩ ((c_X2_searchFromNow l G cI cZ cJ a _ X hn)) (cwV 0 hts gX2_positions_X2_searchFromNow rfl rfl rfl (by decide +kernel) ⟨Nat.le_of_ble_eq_true rfl, Nat.le_of_ble_eq_true rfl⟩) ⟨rw_blind, va_recv hK hP (ci := 2) (q0 := 0) rfl rfl, rw_pre hP hD hK hN⟩ rfl rfl hl.1 rfl (lv_room (Nat.le_of_ble_eq_true rfl)) dX2_positions_1 ⟨Nat.zero_le _, Nat.zero_le _⟩) hS hA hP hD [0, 1, 2, 3, 4, 5, 6, 7, 8, 9, 10] [] [0, 1, 2, 3, 4, 5, 6, 7, 8, 9, 10] rfl rfl (by decide) (by decide) rfl (by decide) (fun H locs hP hD hS => ?_)
  refine lv_aload_n hx hb dX2_positions_4 rfl (lv_at hl 0 rfl) ?_
  refine va_get (D := G) (ci := 2) (v := .ref (a 1)) (C := RX2) (T := TX2) (N := 7) hx hb hts in_X2_positions_2 hown hK hP 0 rfl rfl 1 (by decide) (hts (.fieldLink RX2 21 "RampJam" "search" "LRampJam$Search;") (by decide +kernel)) (fun _ h9 => h9) rfl dX2_positions_5 ?_
  have hPc := hP.sub (ws' := [((a 1), .inr (0, [.ref (a 6), .ref (a 2), .ref (a 3), .ref (a 4), .ref (a 5), .int (s_fc (x_S (x_srch X))), .int (s_fs (x_S (x_srch X))), .int (s_sm (x_S (x_srch X))), .int (s_sc (x_S (x_srch X))), .int (s_sf (x_S (x_srch X)))])), ((a 2), .inl (cI, 800, .inl (s_fo (x_S (x_srch X))))), ((a 3), .inl (cI, 800, .inl (s_or (x_S (x_srch X))))), ((a 4), .inl (cI, 800, .inl (s_mo (x_S (x_srch X))))), ((a 5), .inl (cI, 2048, .inl (s_sl (x_S (x_srch X))))), ((a 6), .inr (1, [.ref (a 7), .ref (a 8), .ref (a 9), .ref (a 10), .int (nI (y_n (x_Y (x_srch X)))), .long (y_rp (x_Y (x_srch X)))])), ((a 7), .inl (cI, 9, .inl (y_sz (x_Y (x_srch X))))), ((a 8), .inl (cZ, 9, .inl (y_ac (x_Y (x_srch X))))), ((a 9), .inl (cI, 9, .inl (y_li (x_Y (x_srch X))))), ((a 10), .inl (cJ, 9, .inr (.inl (y_sh (x_Y (x_srch X))))))]) [1, 2, 3, 4, 5, 6, 7, 8, 9, 10] rfl
  refine ro_i (va_runV (As := []) (rest := []) ⟨hx, hb, hml, hown, hts⟩ ((c_X0_count l G cI cZ cJ a _ (x_S (x_srch X)) (x_Y (x_srch X)))) (cwV 0 hts gX2_positions_X0_count rfl rfl rfl (by decide +kernel) ⟨Nat.le_of_ble_eq_true rfl, Nat.le_of_ble_eq_true rfl⟩) ⟨ro_blind, va_recv hK hPc (ci := 0) (q0 := 0) rfl rfl, ro_pre hPc hK hN⟩ rfl rfl hl.1 rfl (lv_room (Nat.le_of_ble_eq_true rfl)) dX2_positions_8 ⟨Nat.zero_le _, Nat.zero_le _⟩) hS hA hP (fun H locs hP hS => ?_)
  have hP9 := hP
  have hD9 := hD
  exact W.iret (v := (s_fc (x_S (x_srch X)))) hx hb hr (fun t ht hW => ⟨⟨(s_fc (x_S (x_srch X))), (x_srch X), rfl, ⟨rfl, rfl⟩, by rw [ht]; exact hP9, hD9⟩, hS.F ht⟩) hS.2.2 dX2_positions_11

theorem in_X2_fewestMoves_2 : ∀ w ∈ wsX20, w ∈ wsX2_fewestMoves := by decide +kernel
set_option maxHeartbeats 4000000 in
set_option maxRecDepth 100000 in
/-- RampJam.fewestMoves -/
theorem c_X2_fewestMoves (l : Launch) (G : va_G) (cI cZ cJ : ClassId) (a : Nat → Nat) (sz : Nat) (X : XS) (hn : y_n (x_Y X) ≤ 9) : Met l yX2_fewestMoves wsX2_fewestMoves ({ frames := 6, cells := 0, slots := 0, locals := 144 }) (rw_Pc G [(cI, .int), (cZ, .boolean), (cJ, .long)] (wJ cI cZ cJ a (x_J X) (x_S X) (x_Y X)) sz [.ref (a 0)]) (rw_Qi (S := XS) (s_sm (x_S (x_srch X))) (x_srch X) (fun u : XS => wJ cI cZ cJ a (x_J u) (x_S u) (x_Y u)) G (wJ cI cZ cJ a (x_J X) (x_S X) (x_Y X)) sz) 0 0 (va_A (wJ cI cZ cJ a (x_J X) (x_S X) (x_Y X)) sz) := by
  refine Met.ofW (cc := cX2_fewestMoves) (maxL := 1) (ret := (some .int)) (by decide) rfl ?_
  intro p e s m args below meth c s₁ B hml hv
  obtain ⟨rfl, hsz, hP, hK, hD0, hN⟩ := hv
  have hx := B.exec
  have hb := B.bytes
  have hr := B.returns
  have hts := atoms_spec (ws := wsX2_fewestMoves) B.pre
  have hown : s.vm.findClass RX2 = some m.cls := findClass_of_methodNamed B.named
  have hlocks := B.notSynchronized
  subst hsz
  have hD0 : va_D (fun _ => True) [((a 0), .inr (2, [.ref (a 6), .ref (a 1), .int (j_pp (x_J X)), .int (j_po (x_J X)), .int (j_mc (x_J X)), .int (j_dc (x_J X)), .int (j_is (x_J X))])), ((a 1), .inr (0, [.ref (a 6), .ref (a 2), .ref (a 3), .ref (a 4), .ref (a 5), .int (s_fc (x_S X)), .int (s_fs (x_S X)), .int (s_sm (x_S X)), .int (s_sc (x_S X)), .int (s_sf (x_S X))])), ((a 2), .inl (cI, 800, .inl (s_fo (x_S X)))), ((a 3), .inl (cI, 800, .inl (s_or (x_S X)))), ((a 4), .inl (cI, 800, .inl (s_mo (x_S X)))), ((a 5), .inl (cI, 2048, .inl (s_sl (x_S X)))), ((a 6), .inr (1, [.ref (a 7), .ref (a 8), .ref (a 9), .ref (a 10), .int (nI (y_n (x_Y X))), .long (y_rp (x_Y X))])), ((a 7), .inl (cI, 9, .inl (y_sz (x_Y X)))), ((a 8), .inl (cZ, 9, .inl (y_ac (x_Y X)))), ((a 9), .inl (cI, 9, .inl (y_li (x_Y X)))), ((a 10), .inl (cJ, 9, .inr (.inl (y_sh (x_Y X)))))] := hD0
  have hD := hD0.self (sz := s.heap.size)
  unfold rw_Qi
  generalize hAe : va_A (wJ cI cZ cJ a (x_J X) (x_S X) (x_Y X)) s.heap.size = A at hD ⊢
  have hA : ∀ q : Nat, s.heap.size ≤ q → A q := fun q h => by rw [← hAe]; exact Or.inr h
  have hS : va_S A s.heap s.heap [] := va_S.rf
  have hP : va_P G vwCl [((a 0), .inr (2, [.ref (a 6), .ref (a 1), .int (j_pp (x_J X)), .int (j_po (x_J X)), .int (j_mc (x_J X)), .int (j_dc (x_J X)), .int (j_is (x_J X))])), ((a 1), .inr (0, [.ref (a 6), .ref (a 2), .ref (a 3), .ref (a 4), .ref (a 5), .int (s_fc (x_S X)), .int (s_fs (x_S X)), .int (s_sm (x_S X)), .int (s_sc (x_S X)), .int (s_sf (x_S X))])), ((a 2), .inl (cI, 800, .inl (s_fo (x_S X)))), ((a 3), .inl (cI, 800, .inl (s_or (x_S X)))), ((a 4), .inl (cI, 800, .inl (s_mo (x_S X)))), ((a 5), .inl (cI, 2048, .inl (s_sl (x_S X)))), ((a 6), .inr (1, [.ref (a 7), .ref (a 8), .ref (a 9), .ref (a 10), .int (nI (y_n (x_Y X))), .long (y_rp (x_Y X))])), ((a 7), .inl (cI, 9, .inl (y_sz (x_Y X)))), ((a 8), .inl (cZ, 9, .inl (y_ac (x_Y X)))), ((a 9), .inl (cI, 9, .inl (y_li (x_Y X)))), ((a 10), .inl (cJ, 9, .inr (.inl (y_sh (x_Y X)))))] s.heap := hP
  have hl := lv_entry ([.ref (a 0)]) (n := 1) (Nat.le_of_ble_eq_true rfl)
  rw [lg_entry_eq]
  generalize (lg_sl ([.ref (a 0)]) ++ List.replicate (1 - (lg_sl ([.ref (a 0)])).length) Slot.unset).toArray = ls at hl ⊢
  have hl : lv_has ls 1 [(0, .ref (a 0))] := hl
  refine lv_aload_n hx hb dX2_fewestMoves_0 rfl (lv_at hl 0 rfl) ?_
  refine rw_v (wr := []) (ws' := [((a 0), .inr (2, [.ref (a 6), .ref (a 1), .int (j_pp (x_J (x_srch X))), .int (j_po (x_J (x_srch X))), .int (j_mc (x_J (x_srch X))), .int (j_dc (x_J (x_srch X))), .int (j_is (x_J (x_srch X)))])), ((a 1), .inr (0, [.ref (a 6), .ref (a 2), .ref (a 3), .ref (a 4), .ref (a 5), .int (s_fc (x_S (x_srch X))), .int (s_fs (x_S (x_srch X))), .int (s_sm (x_S (x_srch X))), .int (s_sc (x_S (x_srch X))), .int (s_sf (x_S (x_srch X)))])), ((a 2), .inl (cI, 800, .inl (s_fo (x_S (x_srch X))))), ((a 3), .inl (cI, 800, .inl (s_or (x_S (x_srch X))))), ((a 4), .inl (cI, 800, .inl (s_mo (x_S (x_srch X))))), ((a 5), .inl (cI, 2048, .inl (s_sl (x_S (x_srch X))))), ((a 6), .inr (1, [.ref (a 7), .ref (a 8), .ref (a 9), .ref (a 10), .int (nI (y_n (x_Y (x_srch X)))), .long (y_rp (x_Y (x_srch X)))])), ((a 7), .inl (cI, 9, .inl (y_sz (x_Y (x_srch X))))), ((a 8), .inl (cZ, 9, .inl (y_ac (x_Y (x_srch X))))), ((a 9), .inl (cI, 9, .inl (y_li (x_Y (x_srch X))))), ((a 10), .inl (cJ, 9, .inr (.inl (y_sh (x_Y (x_srch X))))))]) (va_runV (As := []) (rest := []) ⟨hx, hb, hml, hown, hts⟩ ((c_X2_searchFromNow l G cI cZ cJ a _ X hn)) (cwV 0 hts gX2_fewestMoves_X2_searchFromNow rfl rfl rfl (by decide +kernel) ⟨Nat.le_of_ble_eq_true rfl, Nat.le_of_ble_eq_true rfl⟩) ⟨rw_blind, va_recv hK hP (ci := 2) (q0 := 0) rfl rfl, rw_pre hP hD hK hN⟩ rfl rfl hl.1 rfl (lv_room (Nat.le_of_ble_eq_true rfl)) dX2_fewestMoves_1 ⟨Nat.zero_le _, Nat.zero_le _⟩) hS hA hP hD [0, 1, 2, 3, 4, 5, 6, 7, 8, 9, 10] [] [0, 1, 2, 3, 4, 5, 6, 7, 8, 9, 10] rfl rfl (by decide) (by decide) rfl (by decide) (fun H locs hP hD hS => ?_)
  refine lv_aload_n hx hb dX2_fewestMoves_4 rfl (lv_at hl 0 rfl) ?_
  refine va_get (D := G) (ci := 2) (v := .ref (a 1)) (C := RX2) (T := TX2) (N := 7) hx hb hts in_X2_fewestMoves_2 hown hK hP 0 rfl rfl 1 (by decide) (hts (.fieldLink RX2 21 "RampJam" "search" "LRampJam$Search;") (by decide +kernel)) (fun _ h9 => h9) rfl dX2_fewestMoves_5 ?_
  have hPc := hP.sub (ws' := [((a 1), .inr (0, [.ref (a 6), .ref (a 2), .ref (a 3), .ref (a 4), .ref (a 5), .int (s_fc (x_S (x_srch X))), .int (s_fs (x_S (x_srch X))), .int (s_sm (x_S (x_srch X))), .int (s_sc (x_S (x_srch X))), .int (s_sf (x_S (x_srch X)))])), ((a 2), .inl (cI, 800, .inl (s_fo (x_S (x_srch X))))), ((a 3), .inl (cI, 800, .inl (s_or (x_S (x_srch X))))), ((a 4), .inl (cI, 800, .inl (s_mo (x_S (x_srch X))))), ((a 5), .inl (cI, 2048, .inl (s_sl (x_S (x_srch X))))), ((a 6), .inr (1, [.ref (a 7), .ref (a 8), .ref (a 9), .ref (a 10), .int (nI (y_n (x_Y (x_srch X)))), .long (y_rp (x_Y (x_srch X)))])), ((a 7), .inl (cI, 9, .inl (y_sz (x_Y (x_srch X))))), ((a 8), .inl (cZ, 9, .inl (y_ac (x_Y (x_srch X))))), ((a 9), .inl (cI, 9, .inl (y_li (x_Y (x_srch X))))), ((a 10), .inl (cJ, 9, .inr (.inl (y_sh (x_Y (x_srch X))))))]) [1, 2, 3, 4, 5, 6, 7, 8, 9, 10] rfl
  refine ro_i (va_runV (As := []) (rest := []) ⟨hx, hb, hml, hown, hts⟩ ((c_X0_movesToSolved l G cI cZ cJ a _ (x_S (x_srch X)) (x_Y (x_srch X)))) (cwV 0 hts gX2_fewestMoves_X0_movesToSolved rfl rfl rfl (by decide +kernel) ⟨Nat.le_of_ble_eq_true rfl, Nat.le_of_ble_eq_true rfl⟩) ⟨ro_blind, va_recv hK hPc (ci := 0) (q0 := 0) rfl rfl, ro_pre hPc hK hN⟩ rfl rfl hl.1 rfl (lv_room (Nat.le_of_ble_eq_true rfl)) dX2_fewestMoves_8 ⟨Nat.zero_le _, Nat.zero_le _⟩) hS hA hP (fun H locs hP hS => ?_)
  have hP9 := hP
  have hD9 := hD
  exact W.iret (v := (s_sm (x_S (x_srch X)))) hx hb hr (fun t ht hW => ⟨⟨(s_sm (x_S (x_srch X))), (x_srch X), rfl, ⟨rfl, rfl⟩, by rw [ht]; exact hP9, hD9⟩, hS.F ht⟩) hS.2.2 dX2_fewestMoves_11

theorem in_X2_hint_2 : ∀ w ∈ wsX20, w ∈ wsX2_hint := by decide +kernel
set_option maxHeartbeats 4000000 in
set_option maxRecDepth 100000 in
/-- RampJam.hint -/
theorem c_X2_hint (l : Launch) (G : va_G) (cI cZ cJ : ClassId) (a : Nat → Nat) (sz : Nat) (X : XS) (hn : y_n (x_Y X) ≤ 9) : Met l yX2_hint wsX2_hint ({ frames := 6, cells := 0, slots := 0, locals := 144 }) (rw_Pc G [(cI, .int), (cZ, .boolean), (cJ, .long)] (wJ cI cZ cJ a (x_J X) (x_S X) (x_Y X)) sz [.ref (a 0)]) (rw_Qi (S := XS) (s_sf (x_S (x_srch X))) (x_srch X) (fun u : XS => wJ cI cZ cJ a (x_J u) (x_S u) (x_Y u)) G (wJ cI cZ cJ a (x_J X) (x_S X) (x_Y X)) sz) 0 0 (va_A (wJ cI cZ cJ a (x_J X) (x_S X) (x_Y X)) sz) := by
  refine Met.ofW (cc := cX2_hint) (maxL := 1) (ret := (some .int)) (by decide) rfl ?_
  intro p e s m args below meth c s₁ B hml hv
  obtain ⟨rfl, hsz, hP, hK, hD0, hN⟩ := hv
  have hx := B.exec
  have hb := B.bytes
  have hr := B.returns
  have hts := atoms_spec (ws := wsX2_hint) B.pre
  have hown : s.vm.findClass RX2 = some m.cls := findClass_of_methodNamed B.named
  have hlocks := B.notSynchronized
  subst hsz
  have hD0 : va_D (fun _ => True) [((a 0), .inr (2, [.ref (a 6), .ref (a 1), .int (j_pp (x_J X)), .int (j_po (x_J X)), .int (j_mc (x_J X)), .int (j_dc (x_J X)), .int (j_is (x_J X))])), ((a 1), .inr (0, [.ref (a 6), .ref (a 2), .ref (a 3), .ref (a 4), .ref (a 5), .int (s_fc (x_S X)), .int (s_fs (x_S X)), .int (s_sm (x_S X)), .int (s_sc (x_S X)), .int (s_sf (x_S X))])), ((a 2), .inl (cI, 800, .inl (s_fo (x_S X)))), ((a 3), .inl (cI, 800, .inl (s_or (x_S X)))), ((a 4), .inl (cI, 800, .inl (s_mo (x_S X)))), ((a 5), .inl (cI, 2048, .inl (s_sl (x_S X)))), ((a 6), .inr (1, [.ref (a 7), .ref (a 8), .ref (a 9), .ref (a 10), .int (nI (y_n (x_Y X))), .long (y_rp (x_Y X))])), ((a 7), .inl (cI, 9, .inl (y_sz (x_Y X)))), ((a 8), .inl (cZ, 9, .inl (y_ac (x_Y X)))), ((a 9), .inl (cI, 9, .inl (y_li (x_Y X)))), ((a 10), .inl (cJ, 9, .inr (.inl (y_sh (x_Y X)))))] := hD0
  have hD := hD0.self (sz := s.heap.size)
  unfold rw_Qi
  generalize hAe : va_A (wJ cI cZ cJ a (x_J X) (x_S X) (x_Y X)) s.heap.size = A at hD ⊢
  have hA : ∀ q : Nat, s.heap.size ≤ q → A q := fun q h => by rw [← hAe]; exact Or.inr h
  have hS : va_S A s.heap s.heap [] := va_S.rf
  have hP : va_P G vwCl [((a 0), .inr (2, [.ref (a 6), .ref (a 1), .int (j_pp (x_J X)), .int (j_po (x_J X)), .int (j_mc (x_J X)), .int (j_dc (x_J X)), .int (j_is (x_J X))])), ((a 1), .inr (0, [.ref (a 6), .ref (a 2), .ref (a 3), .ref (a 4), .ref (a 5), .int (s_fc (x_S X)), .int (s_fs (x_S X)), .int (s_sm (x_S X)), .int (s_sc (x_S X)), .int (s_sf (x_S X))])), ((a 2), .inl (cI, 800, .inl (s_fo (x_S X)))), ((a 3), .inl (cI, 800, .inl (s_or (x_S X)))), ((a 4), .inl (cI, 800, .inl (s_mo (x_S X)))), ((a 5), .inl (cI, 2048, .inl (s_sl (x_S X)))), ((a 6), .inr (1, [.ref (a 7), .ref (a 8), .ref (a 9), .ref (a 10), .int (nI (y_n (x_Y X))), .long (y_rp (x_Y X))])), ((a 7), .inl (cI, 9, .inl (y_sz (x_Y X)))), ((a 8), .inl (cZ, 9, .inl (y_ac (x_Y X)))), ((a 9), .inl (cI, 9, .inl (y_li (x_Y X)))), ((a 10), .inl (cJ, 9, .inr (.inl (y_sh (x_Y X)))))] s.heap := hP
  have hl := lv_entry ([.ref (a 0)]) (n := 1) (Nat.le_of_ble_eq_true rfl)
  rw [lg_entry_eq]
  generalize (lg_sl ([.ref (a 0)]) ++ List.replicate (1 - (lg_sl ([.ref (a 0)])).length) Slot.unset).toArray = ls at hl ⊢
  have hl : lv_has ls 1 [(0, .ref (a 0))] := hl
  refine lv_aload_n hx hb dX2_hint_0 rfl (lv_at hl 0 rfl) ?_
  refine rw_v (wr := []) (ws' := [((a 0), .inr (2, [.ref (a 6), .ref (a 1), .int (j_pp (x_J (x_srch X))), .int (j_po (x_J (x_srch X))), .int (j_mc (x_J (x_srch X))), .int (j_dc (x_J (x_srch X))), .int (j_is (x_J (x_srch X)))])), ((a 1), .inr (0, [.ref (a 6), .ref (a 2), .ref (a 3), .ref (a 4), .ref (a 5), .int (s_fc (x_S (x_srch X))), .int (s_fs (x_S (x_srch X))), .int (s_sm (x_S (x_srch X))), .int (s_sc (x_S (x_srch X))), .int (s_sf (x_S (x_srch X)))])), ((a 2), .inl (cI, 800, .inl (s_fo (x_S (x_srch X))))), ((a 3), .inl (cI, 800, .inl (s_or (x_S (x_srch X))))), ((a 4), .inl (cI, 800, .inl (s_mo (x_S (x_srch X))))), ((a 5), .inl (cI, 2048, .inl (s_sl (x_S (x_srch X))))), ((a 6), .inr (1, [.ref (a 7), .ref (a 8), .ref (a 9), .ref (a 10), .int (nI (y_n (x_Y (x_srch X)))), .long (y_rp (x_Y (x_srch X)))])), ((a 7), .inl (cI, 9, .inl (y_sz (x_Y (x_srch X))))), ((a 8), .inl (cZ, 9, .inl (y_ac (x_Y (x_srch X))))), ((a 9), .inl (cI, 9, .inl (y_li (x_Y (x_srch X))))), ((a 10), .inl (cJ, 9, .inr (.inl (y_sh (x_Y (x_srch X))))))]) (va_runV (As := []) (rest := []) ⟨hx, hb, hml, hown, hts⟩ ((c_X2_searchFromNow l G cI cZ cJ a _ X hn)) (cwV 0 hts gX2_hint_X2_searchFromNow rfl rfl rfl (by decide +kernel) ⟨Nat.le_of_ble_eq_true rfl, Nat.le_of_ble_eq_true rfl⟩) ⟨rw_blind, va_recv hK hP (ci := 2) (q0 := 0) rfl rfl, rw_pre hP hD hK hN⟩ rfl rfl hl.1 rfl (lv_room (Nat.le_of_ble_eq_true rfl)) dX2_hint_1 ⟨Nat.zero_le _, Nat.zero_le _⟩) hS hA hP hD [0, 1, 2, 3, 4, 5, 6, 7, 8, 9, 10] [] [0, 1, 2, 3, 4, 5, 6, 7, 8, 9, 10] rfl rfl (by decide) (by decide) rfl (by decide) (fun H locs hP hD hS => ?_)
  refine lv_aload_n hx hb dX2_hint_4 rfl (lv_at hl 0 rfl) ?_
  refine va_get (D := G) (ci := 2) (v := .ref (a 1)) (C := RX2) (T := TX2) (N := 7) hx hb hts in_X2_hint_2 hown hK hP 0 rfl rfl 1 (by decide) (hts (.fieldLink RX2 21 "RampJam" "search" "LRampJam$Search;") (by decide +kernel)) (fun _ h9 => h9) rfl dX2_hint_5 ?_
  have hPc := hP.sub (ws' := [((a 1), .inr (0, [.ref (a 6), .ref (a 2), .ref (a 3), .ref (a 4), .ref (a 5), .int (s_fc (x_S (x_srch X))), .int (s_fs (x_S (x_srch X))), .int (s_sm (x_S (x_srch X))), .int (s_sc (x_S (x_srch X))), .int (s_sf (x_S (x_srch X)))])), ((a 2), .inl (cI, 800, .inl (s_fo (x_S (x_srch X))))), ((a 3), .inl (cI, 800, .inl (s_or (x_S (x_srch X))))), ((a 4), .inl (cI, 800, .inl (s_mo (x_S (x_srch X))))), ((a 5), .inl (cI, 2048, .inl (s_sl (x_S (x_srch X))))), ((a 6), .inr (1, [.ref (a 7), .ref (a 8), .ref (a 9), .ref (a 10), .int (nI (y_n (x_Y (x_srch X)))), .long (y_rp (x_Y (x_srch X)))])), ((a 7), .inl (cI, 9, .inl (y_sz (x_Y (x_srch X))))), ((a 8), .inl (cZ, 9, .inl (y_ac (x_Y (x_srch X))))), ((a 9), .inl (cI, 9, .inl (y_li (x_Y (x_srch X))))), ((a 10), .inl (cJ, 9, .inr (.inl (y_sh (x_Y (x_srch X))))))]) [1, 2, 3, 4, 5, 6, 7, 8, 9, 10] rfl
  refine ro_i (va_runV (As := []) (rest := []) ⟨hx, hb, hml, hown, hts⟩ ((c_X0_firstMoveToSolved l G cI cZ cJ a _ (x_S (x_srch X)) (x_Y (x_srch X)))) (cwV 0 hts gX2_hint_X0_firstMoveToSolved rfl rfl rfl (by decide +kernel) ⟨Nat.le_of_ble_eq_true rfl, Nat.le_of_ble_eq_true rfl⟩) ⟨ro_blind, va_recv hK hPc (ci := 0) (q0 := 0) rfl rfl, ro_pre hPc hK hN⟩ rfl rfl hl.1 rfl (lv_room (Nat.le_of_ble_eq_true rfl)) dX2_hint_8 ⟨Nat.zero_le _, Nat.zero_le _⟩) hS hA hP (fun H locs hP hS => ?_)
  have hP9 := hP
  have hD9 := hD
  exact W.iret (v := (s_sf (x_S (x_srch X)))) hx hb hr (fun t ht hW => ⟨⟨(s_sf (x_S (x_srch X))), (x_srch X), rfl, ⟨rfl, rfl⟩, by rw [ht]; exact hP9, hD9⟩, hS.F ht⟩) hS.2.2 dX2_hint_11

theorem in_X2_solve_2 : ∀ w ∈ wsX20, w ∈ wsX2_solve := by decide +kernel
set_option maxHeartbeats 4000000 in
set_option maxRecDepth 100000 in
/-- RampJam.solve -/
theorem c_X2_solve (l : Launch) (G : va_G) (cI cZ cJ : ClassId) (a : Nat → Nat) (sz : Nat) (X : XS) (hn : y_n (x_Y X) ≤ 9) : Met l yX2_solve wsX2_solve ({ frames := 6, cells := 0, slots := 0, locals := 144 }) (rw_Pc G [(cI, .int), (cZ, .boolean), (cJ, .long)] (wJ cI cZ cJ a (x_J X) (x_S X) (x_Y X)) sz [.ref (a 0)]) (rw_Qi (S := XS) (s_sm (x_S (x_srch X))) (x_solv (x_srch X)) (fun u : XS => wJ cI cZ cJ a (x_J u) (x_S u) (x_Y u)) G (wJ cI cZ cJ a (x_J X) (x_S X) (x_Y X)) sz) 0 0 (va_A (wJ cI cZ cJ a (x_J X) (x_S X) (x_Y X)) sz) := by
  refine Met.ofW (cc := cX2_solve) (maxL := 2) (ret := (some .int)) (by decide) rfl ?_
  intro p e s m args below meth c s₁ B hml hv
  obtain ⟨rfl, hsz, hP, hK, hD0, hN⟩ := hv
  have hx := B.exec
  have hb := B.bytes
  have hr := B.returns
  have hts := atoms_spec (ws := wsX2_solve) B.pre
  have hown : s.vm.findClass RX2 = some m.cls := findClass_of_methodNamed B.named
  have hlocks := B.notSynchronized
  subst hsz
  have hD0 : va_D (fun _ => True) [((a 0), .inr (2, [.ref (a 6), .ref (a 1), .int (j_pp (x_J X)), .int (j_po (x_J X)), .int (j_mc (x_J X)), .int (j_dc (x_J X)), .int (j_is (x_J X))])), ((a 1), .inr (0, [.ref (a 6), .ref (a 2), .ref (a 3), .ref (a 4), .ref (a 5), .int (s_fc (x_S X)), .int (s_fs (x_S X)), .int (s_sm (x_S X)), .int (s_sc (x_S X)), .int (s_sf (x_S X))])), ((a 2), .inl (cI, 800, .inl (s_fo (x_S X)))), ((a 3), .inl (cI, 800, .inl (s_or (x_S X)))), ((a 4), .inl (cI, 800, .inl (s_mo (x_S X)))), ((a 5), .inl (cI, 2048, .inl (s_sl (x_S X)))), ((a 6), .inr (1, [.ref (a 7), .ref (a 8), .ref (a 9), .ref (a 10), .int (nI (y_n (x_Y X))), .long (y_rp (x_Y X))])), ((a 7), .inl (cI, 9, .inl (y_sz (x_Y X)))), ((a 8), .inl (cZ, 9, .inl (y_ac (x_Y X)))), ((a 9), .inl (cI, 9, .inl (y_li (x_Y X)))), ((a 10), .inl (cJ, 9, .inr (.inl (y_sh (x_Y X)))))] := hD0
  have hD := hD0.self (sz := s.heap.size)
  unfold rw_Qi
  generalize hAe : va_A (wJ cI cZ cJ a (x_J X) (x_S X) (x_Y X)) s.heap.size = A at hD ⊢
  have hA : ∀ q : Nat, s.heap.size ≤ q → A q := fun q h => by rw [← hAe]; exact Or.inr h
  have hS : va_S A s.heap s.heap [] := va_S.rf
  have hP : va_P G vwCl [((a 0), .inr (2, [.ref (a 6), .ref (a 1), .int (j_pp (x_J X)), .int (j_po (x_J X)), .int (j_mc (x_J X)), .int (j_dc (x_J X)), .int (j_is (x_J X))])), ((a 1), .inr (0, [.ref (a 6), .ref (a 2), .ref (a 3), .ref (a 4), .ref (a 5), .int (s_fc (x_S X)), .int (s_fs (x_S X)), .int (s_sm (x_S X)), .int (s_sc (x_S X)), .int (s_sf (x_S X))])), ((a 2), .inl (cI, 800, .inl (s_fo (x_S X)))), ((a 3), .inl (cI, 800, .inl (s_or (x_S X)))), ((a 4), .inl (cI, 800, .inl (s_mo (x_S X)))), ((a 5), .inl (cI, 2048, .inl (s_sl (x_S X)))), ((a 6), .inr (1, [.ref (a 7), .ref (a 8), .ref (a 9), .ref (a 10), .int (nI (y_n (x_Y X))), .long (y_rp (x_Y X))])), ((a 7), .inl (cI, 9, .inl (y_sz (x_Y X)))), ((a 8), .inl (cZ, 9, .inl (y_ac (x_Y X)))), ((a 9), .inl (cI, 9, .inl (y_li (x_Y X)))), ((a 10), .inl (cJ, 9, .inr (.inl (y_sh (x_Y X)))))] s.heap := hP
  have hl := lv_entry ([.ref (a 0)]) (n := 2) (Nat.le_of_ble_eq_true rfl)
  rw [lg_entry_eq]
  generalize (lg_sl ([.ref (a 0)]) ++ List.replicate (2 - (lg_sl ([.ref (a 0)])).length) Slot.unset).toArray = ls at hl ⊢
  have hl : lv_has ls 2 [(0, .ref (a 0))] := hl
  refine lv_aload_n hx hb dX2_solve_0 rfl (lv_at hl 0 rfl) ?_
  refine rw_v (wr := []) (ws' := [((a 0), .inr (2, [.ref (a 6), .ref (a 1), .int (j_pp (x_J (x_srch X))), .int (j_po (x_J (x_srch X))), .int (j_mc (x_J (x_srch X))), .int (j_dc (x_J (x_srch X))), .int (j_is (x_J (x_srch X)))])), ((a 1), .inr (0, [.ref (a 6), .ref (a 2), .ref (a 3), .ref (a 4), .ref (a 5), .int (s_fc (x_S (x_srch X))), .int (s_fs (x_S (x_srch X))), .int (s_sm (x_S (x_srch X))), .int (s_sc (x_S (x_srch X))), .int (s_sf (x_S (x_srch X)))])), ((a 2), .inl (cI, 800, .inl (s_fo (x_S (x_srch X))))), ((a 3), .inl (cI, 800, .inl (s_or (x_S (x_srch X))))), ((a 4), .inl (cI, 800, .inl (s_mo (x_S (x_srch X))))), ((a 5), .inl (cI, 2048, .inl (s_sl (x_S (x_srch X))))), ((a 6), .inr (1, [.ref (a 7), .ref (a 8), .ref (a 9), .ref (a 10), .int (nI (y_n (x_Y (x_srch X)))), .long (y_rp (x_Y (x_srch X)))])), ((a 7), .inl (cI, 9, .inl (y_sz (x_Y (x_srch X))))), ((a 8), .inl (cZ, 9, .inl (y_ac (x_Y (x_srch X))))), ((a 9), .inl (cI, 9, .inl (y_li (x_Y (x_srch X))))), ((a 10), .inl (cJ, 9, .inr (.inl (y_sh (x_Y (x_srch X))))))]) (va_runV (As := []) (rest := []) ⟨hx, hb, hml, hown, hts⟩ ((c_X2_searchFromNow l G cI cZ cJ a _ X hn)) (cwV 0 hts gX2_solve_X2_searchFromNow rfl rfl rfl (by decide +kernel) ⟨Nat.le_of_ble_eq_true rfl, Nat.le_of_ble_eq_true rfl⟩) ⟨rw_blind, va_recv hK hP (ci := 2) (q0 := 0) rfl rfl, rw_pre hP hD hK hN⟩ rfl rfl hl.1 rfl (lv_room (Nat.le_of_ble_eq_true rfl)) dX2_solve_1 ⟨Nat.zero_le _, Nat.zero_le _⟩) hS hA hP hD [0, 1, 2, 3, 4, 5, 6, 7, 8, 9, 10] [] [0, 1, 2, 3, 4, 5, 6, 7, 8, 9, 10] rfl rfl (by decide) (by decide) rfl (by decide) (fun H locs hP hD hS => ?_)
  generalize hgen_1 : (x_srch X) = Z_g at hP hD
  refine lv_aload_n hx hb dX2_solve_4 rfl (lv_at hl 0 rfl) ?_
  refine va_get (D := G) (ci := 2) (v := .ref (a 1)) (C := RX2) (T := TX2) (N := 7) hx hb hts in_X2_solve_2 hown hK hP 0 rfl rfl 1 (by decide) (hts (.fieldLink RX2 21 "RampJam" "search" "LRampJam$Search;") (by decide +kernel)) (fun _ h9 => h9) rfl dX2_solve_5 ?_
  have hPc := hP.sub (ws' := [((a 1), .inr (0, [.ref (a 6), .ref (a 2), .ref (a 3), .ref (a 4), .ref (a 5), .int (s_fc (x_S Z_g)), .int (s_fs (x_S Z_g)), .int (s_sm (x_S Z_g)), .int (s_sc (x_S Z_g)), .int (s_sf (x_S Z_g))])), ((a 2), .inl (cI, 800, .inl (s_fo (x_S Z_g)))), ((a 3), .inl (cI, 800, .inl (s_or (x_S Z_g)))), ((a 4), .inl (cI, 800, .inl (s_mo (x_S Z_g)))), ((a 5), .inl (cI, 2048, .inl (s_sl (x_S Z_g)))), ((a 6), .inr (1, [.ref (a 7), .ref (a 8), .ref (a 9), .ref (a 10), .int (nI (y_n (x_Y Z_g))), .long (y_rp (x_Y Z_g))])), ((a 7), .inl (cI, 9, .inl (y_sz (x_Y Z_g)))), ((a 8), .inl (cZ, 9, .inl (y_ac (x_Y Z_g)))), ((a 9), .inl (cI, 9, .inl (y_li (x_Y Z_g)))), ((a 10), .inl (cJ, 9, .inr (.inl (y_sh (x_Y Z_g)))))]) [1, 2, 3, 4, 5, 6, 7, 8, 9, 10] rfl
  refine ro_i (va_runV (As := []) (rest := []) ⟨hx, hb, hml, hown, hts⟩ ((c_X0_movesToSolved l G cI cZ cJ a _ (x_S Z_g) (x_Y Z_g))) (cwV 0 hts gX2_solve_X0_movesToSolved rfl rfl rfl (by decide +kernel) ⟨Nat.le_of_ble_eq_true rfl, Nat.le_of_ble_eq_true rfl⟩) ⟨ro_blind, va_recv hK hPc (ci := 0) (q0 := 0) rfl rfl, ro_pre hPc hK hN⟩ rfl rfl hl.1 rfl (lv_room (Nat.le_of_ble_eq_true rfl)) dX2_solve_8 ⟨Nat.zero_le _, Nat.zero_le _⟩) hS hA hP (fun H locs hP hS => ?_)
  refine lv_istore_n (lv' := [(1, .int (s_sm (x_S Z_g))), (0, .ref (a 0))]) hx hb dX2_solve_11 rfl hl (by decide) rfl (fun ls hl => ?_)
  refine lv_iload_n hx hb dX2_solve_12 rfl (lv_at hl 0 rfl) ?_
  refine lv_if_le (tgt := 53) hx hb dX2_solve_13 (by decide) (fun c_1 => ?_) (fun c_1 => ?_)
  · refine lv_iload_n hx hb dX2_solve_53 rfl (lv_at hl 0 rfl) ?_
    have hP9 := hP
    have hD9 := hD
    exact W.iret (v := (s_sm (x_S Z_g))) hx hb hr (fun t ht hW => ⟨⟨(s_sm (x_S Z_g)), Z_g, rfl, ⟨rfl, by rw [x_solv, if_pos c_1]⟩, by rw [ht]; exact hP9, hD9⟩, hS.F ht⟩) hS.2.2 dX2_solve_54
  · refine lv_aload_n hx hb dX2_solve_16 rfl (lv_at hl 1 rfl) ?_
    refine lv_dup hx hb dX2_solve_17 rfl ?_
    refine va_get (D := G) (ci := 2) (v := .int (j_mc (x_J Z_g))) (C := RX2) (T := TX2) (N := 7) hx hb hts in_X2_solve_2 hown hK hP 0 rfl rfl 4 (by decide) (hts (.fieldLink RX2 44 "RampJam" "moveCount" "I") (by decide +kernel)) (fun _ h9 => h9) rfl dX2_solve_18 ?_
    refine lv_iload_n hx hb dX2_solve_21 rfl (lv_at hl 0 rfl) ?_
    refine lv_iadd hx hb dX2_solve_22 ?_
    refine va_put (D := G) (ci := 2) (v := .int ((j_mc (x_J Z_g)) + (s_sm (x_S Z_g)))) (ty := .int) (C := RX2) (T := TX2) (N := 7) hx hb hts in_X2_solve_2 tyX2 tyX2_ok nmX2 hown hK hP hD hS 0 rfl rfl 4 (by decide) (hts (.fieldLink RX2 44 "RampJam" "moveCount" "I") (by decide +kernel)) (fun _ h9 => h9) rfl (by decide +kernel) rfl rfl (Nat.le_of_ble_eq_true rfl) dX2_solve_23 (fun H locs hP hD hS => ?_)
    have hP : va_P G vwCl [((a 0), .inr (2, [.ref (a 6), .ref (a 1), .int (j_pp (x_J Z_g)), .int (j_po (x_J Z_g)), .int ((j_mc (x_J Z_g)) + (s_sm (x_S Z_g))), .int (j_dc (x_J Z_g)), .int (j_is (x_J Z_g))])), ((a 1), .inr (0, [.ref (a 6), .ref (a 2), .ref (a 3), .ref (a 4), .ref (a 5), .int (s_fc (x_S Z_g)), .int (s_fs (x_S Z_g)), .int (s_sm (x_S Z_g)), .int (s_sc (x_S Z_g)), .int (s_sf (x_S Z_g))])), ((a 2), .inl (cI, 800, .inl (s_fo (x_S Z_g)))), ((a 3), .inl (cI, 800, .inl (s_or (x_S Z_g)))), ((a 4), .inl (cI, 800, .inl (s_mo (x_S Z_g)))), ((a 5), .inl (cI, 2048, .inl (s_sl (x_S Z_g)))), ((a 6), .inr (1, [.ref (a 7), .ref (a 8), .ref (a 9), .ref (a 10), .int (nI (y_n (x_Y Z_g))), .long (y_rp (x_Y Z_g))])), ((a 7), .inl (cI, 9, .inl (y_sz (x_Y Z_g)))), ((a 8), .inl (cZ, 9, .inl (y_ac (x_Y Z_g)))), ((a 9), .inl (cI, 9, .inl (y_li (x_Y Z_g)))), ((a 10), .inl (cJ, 9, .inr (.inl (y_sh (x_Y Z_g)))))] H := hP
    have hD : va_D A [((a 0), .inr (2, [.ref (a 6), .ref (a 1), .int (j_pp (x_J Z_g)), .int (j_po (x_J Z_g)), .int ((j_mc (x_J Z_g)) + (s_sm (x_S Z_g))), .int (j_dc (x_J Z_g)), .int (j_is (x_J Z_g))])), ((a 1), .inr (0, [.ref (a 6), .ref (a 2), .ref (a 3), .ref (a 4), .ref (a 5), .int (s_fc (x_S Z_g)), .int (s_fs (x_S Z_g)), .int (s_sm (x_S Z_g)), .int (s_sc (x_S Z_g)), .int (s_sf (x_S Z_g))])), ((a 2), .inl (cI, 800, .inl (s_fo (x_S Z_g)))), ((a 3), .inl (cI, 800, .inl (s_or (x_S Z_g)))), ((a 4), .inl (cI, 800, .inl (s_mo (x_S Z_g)))), ((a 5), .inl (cI, 2048, .inl (s_sl (x_S Z_g)))), ((a 6), .inr (1, [.ref (a 7), .ref (a 8), .ref (a 9), .ref (a 10), .int (nI (y_n (x_Y Z_g))), .long (y_rp (x_Y Z_g))])), ((a 7), .inl (cI, 9, .inl (y_sz (x_Y Z_g)))), ((a 8), .inl (cZ, 9, .inl (y_ac (x_Y Z_g)))), ((a 9), .inl (cI, 9, .inl (y_li (x_Y Z_g)))), ((a 10), .inl (cJ, 9, .inr (.inl (y_sh (x_Y Z_g)))))] := hD
    refine lv_aload_n hx hb dX2_solve_26 rfl (lv_at hl 1 rfl) ?_
    refine lv_dup hx hb dX2_solve_27 rfl ?_
    refine va_get (D := G) (ci := 2) (v := .int (j_dc (x_J Z_g))) (C := RX2) (T := TX2) (N := 7) hx hb hts in_X2_solve_2 hown hK hP 0 rfl rfl 5 (by decide) (hts (.fieldLink RX2 136 "RampJam" "drivenCells" "I") (by decide +kernel)) (fun _ h9 => h9) rfl dX2_solve_28 ?_
    refine lv_aload_n hx hb dX2_solve_31 rfl (lv_at hl 1 rfl) ?_
    refine va_get (D := G) (ci := 2) (v := .ref (a 1)) (C := RX2) (T := TX2) (N := 7) hx hb hts in_X2_solve_2 hown hK hP 0 rfl rfl 1 (by decide) (hts (.fieldLink RX2 21 "RampJam" "search" "LRampJam$Search;") (by decide +kernel)) (fun _ h9 => h9) rfl dX2_solve_32 ?_
    have hPc := hP.sub (ws' := [((a 1), .inr (0, [.ref (a 6), .ref (a 2), .ref (a 3), .ref (a 4), .ref (a 5), .int (s_fc (x_S Z_g)), .int (s_fs (x_S Z_g)), .int (s_sm (x_S Z_g)), .int (s_sc (x_S Z_g)), .int (s_sf (x_S Z_g))])), ((a 2), .inl (cI, 800, .inl (s_fo (x_S Z_g)))), ((a 3), .inl (cI, 800, .inl (s_or (x_S Z_g)))), ((a 4), .inl (cI, 800, .inl (s_mo (x_S Z_g)))), ((a 5), .inl (cI, 2048, .inl (s_sl (x_S Z_g)))), ((a 6), .inr (1, [.ref (a 7), .ref (a 8), .ref (a 9), .ref (a 10), .int (nI (y_n (x_Y Z_g))), .long (y_rp (x_Y Z_g))])), ((a 7), .inl (cI, 9, .inl (y_sz (x_Y Z_g)))), ((a 8), .inl (cZ, 9, .inl (y_ac (x_Y Z_g)))), ((a 9), .inl (cI, 9, .inl (y_li (x_Y Z_g)))), ((a 10), .inl (cJ, 9, .inr (.inl (y_sh (x_Y Z_g)))))]) [1, 2, 3, 4, 5, 6, 7, 8, 9, 10] rfl
    refine ro_i (va_runV (As := []) (rest := [.int (j_dc (x_J Z_g)), .ref (a 0)]) ⟨hx, hb, hml, hown, hts⟩ ((c_X0_cellsToSolved l G cI cZ cJ a _ (x_S Z_g) (x_Y Z_g))) (cwV 0 hts gX2_solve_X0_cellsToSolved rfl rfl rfl (by decide +kernel) ⟨Nat.le_of_ble_eq_true rfl, Nat.le_of_ble_eq_true rfl⟩) ⟨ro_blind, va_recv hK hPc (ci := 0) (q0 := 0) rfl rfl, ro_pre hPc hK hN⟩ rfl rfl hl.1 rfl (lv_room (Nat.le_of_ble_eq_true rfl)) dX2_solve_35 ⟨Nat.zero_le _, Nat.zero_le _⟩) hS hA hP (fun H locs hP hS => ?_)
    refine lv_iadd hx hb dX2_solve_38 ?_
    refine va_put (D := G) (ci := 2) (v := .int ((j_dc (x_J Z_g)) + (s_sc (x_S Z_g)))) (ty := .int) (C := RX2) (T := TX2) (N := 7) hx hb hts in_X2_solve_2 tyX2 tyX2_ok nmX2 hown hK hP hD hS 0 rfl rfl 5 (by decide) (hts (.fieldLink RX2 136 "RampJam" "drivenCells" "I") (by decide +kernel)) (fun _ h9 => h9) rfl (by decide +kernel) rfl rfl (Nat.le_of_ble_eq_true rfl) dX2_solve_39 (fun H locs hP hD hS => ?_)
    have hP : va_P G vwCl [((a 0), .inr (2, [.ref (a 6), .ref (a 1), .int (j_pp (x_J Z_g)), .int (j_po (x_J Z_g)), .int ((j_mc (x_J Z_g)) + (s_sm (x_S Z_g))), .int ((j_dc (x_J Z_g)) + (s_sc (x_S Z_g))), .int (j_is (x_J Z_g))])), ((a 1), .inr (0, [.ref (a 6), .ref (a 2), .ref (a 3), .ref (a 4), .ref (a 5), .int (s_fc (x_S Z_g)), .int (s_fs (x_S Z_g)), .int (s_sm (x_S Z_g)), .int (s_sc (x_S Z_g)), .int (s_sf (x_S Z_g))])), ((a 2), .inl (cI, 800, .inl (s_fo (x_S Z_g)))), ((a 3), .inl (cI, 800, .inl (s_or (x_S Z_g)))), ((a 4), .inl (cI, 800, .inl (s_mo (x_S Z_g)))), ((a 5), .inl (cI, 2048, .inl (s_sl (x_S Z_g)))), ((a 6), .inr (1, [.ref (a 7), .ref (a 8), .ref (a 9), .ref (a 10), .int (nI (y_n (x_Y Z_g))), .long (y_rp (x_Y Z_g))])), ((a 7), .inl (cI, 9, .inl (y_sz (x_Y Z_g)))), ((a 8), .inl (cZ, 9, .inl (y_ac (x_Y Z_g)))), ((a 9), .inl (cI, 9, .inl (y_li (x_Y Z_g)))), ((a 10), .inl (cJ, 9, .inr (.inl (y_sh (x_Y Z_g)))))] H := hP
    have hD : va_D A [((a 0), .inr (2, [.ref (a 6), .ref (a 1), .int (j_pp (x_J Z_g)), .int (j_po (x_J Z_g)), .int ((j_mc (x_J Z_g)) + (s_sm (x_S Z_g))), .int ((j_dc (x_J Z_g)) + (s_sc (x_S Z_g))), .int (j_is (x_J Z_g))])), ((a 1), .inr (0, [.ref (a 6), .ref (a 2), .ref (a 3), .ref (a 4), .ref (a 5), .int (s_fc (x_S Z_g)), .int (s_fs (x_S Z_g)), .int (s_sm (x_S Z_g)), .int (s_sc (x_S Z_g)), .int (s_sf (x_S Z_g))])), ((a 2), .inl (cI, 800, .inl (s_fo (x_S Z_g)))), ((a 3), .inl (cI, 800, .inl (s_or (x_S Z_g)))), ((a 4), .inl (cI, 800, .inl (s_mo (x_S Z_g)))), ((a 5), .inl (cI, 2048, .inl (s_sl (x_S Z_g)))), ((a 6), .inr (1, [.ref (a 7), .ref (a 8), .ref (a 9), .ref (a 10), .int (nI (y_n (x_Y Z_g))), .long (y_rp (x_Y Z_g))])), ((a 7), .inl (cI, 9, .inl (y_sz (x_Y Z_g)))), ((a 8), .inl (cZ, 9, .inl (y_ac (x_Y Z_g)))), ((a 9), .inl (cI, 9, .inl (y_li (x_Y Z_g)))), ((a 10), .inl (cJ, 9, .inr (.inl (y_sh (x_Y Z_g)))))] := hD
    refine lv_aload_n hx hb dX2_solve_42 rfl (lv_at hl 1 rfl) ?_
    refine lv_aload_n hx hb dX2_solve_43 rfl (lv_at hl 1 rfl) ?_
    refine va_get (D := G) (ci := 2) (v := .ref (a 1)) (C := RX2) (T := TX2) (N := 7) hx hb hts in_X2_solve_2 hown hK hP 0 rfl rfl 1 (by decide) (hts (.fieldLink RX2 21 "RampJam" "search" "LRampJam$Search;") (by decide +kernel)) (fun _ h9 => h9) rfl dX2_solve_44 ?_
    have hPc := hP.sub (ws' := [((a 1), .inr (0, [.ref (a 6), .ref (a 2), .ref (a 3), .ref (a 4), .ref (a 5), .int (s_fc (x_S Z_g)), .int (s_fs (x_S Z_g)), .int (s_sm (x_S Z_g)), .int (s_sc (x_S Z_g)), .int (s_sf (x_S Z_g))])), ((a 2), .inl (cI, 800, .inl (s_fo (x_S Z_g)))), ((a 3), .inl (cI, 800, .inl (s_or (x_S Z_g)))), ((a 4), .inl (cI, 800, .inl (s_mo (x_S Z_g)))), ((a 5), .inl (cI, 2048, .inl (s_sl (x_S Z_g)))), ((a 6), .inr (1, [.ref (a 7), .ref (a 8), .ref (a 9), .ref (a 10), .int (nI (y_n (x_Y Z_g))), .long (y_rp (x_Y Z_g))])), ((a 7), .inl (cI, 9, .inl (y_sz (x_Y Z_g)))), ((a 8), .inl (cZ, 9, .inl (y_ac (x_Y Z_g)))), ((a 9), .inl (cI, 9, .inl (y_li (x_Y Z_g)))), ((a 10), .inl (cJ, 9, .inr (.inl (y_sh (x_Y Z_g)))))]) [1, 2, 3, 4, 5, 6, 7, 8, 9, 10] rfl
    refine ro_i (va_runV (As := []) (rest := [.ref (a 0)]) ⟨hx, hb, hml, hown, hts⟩ ((c_X0_solvedPosition l G cI cZ cJ a _ (x_S Z_g) (x_Y Z_g))) (cwV 0 hts gX2_solve_X0_solvedPosition rfl rfl rfl (by decide +kernel) ⟨Nat.le_of_ble_eq_true rfl, Nat.le_of_ble_eq_true rfl⟩) ⟨ro_blind, va_recv hK hPc (ci := 0) (q0 := 0) rfl rfl, ro_pre hPc hK hN⟩ rfl rfl hl.1 rfl (lv_room (Nat.le_of_ble_eq_true rfl)) dX2_solve_47 ⟨Nat.zero_le _, Nat.zero_le _⟩) hS hA hP (fun H locs hP hS => ?_)
    refine rw_v (wr := []) (ws' := [((a 0), .inr (2, [.ref (a 6), .ref (a 1), .int (j_pp (x_J (x_stand (((j_pp (x_J Z_g)), (j_po (x_J Z_g)), ((j_mc (x_J Z_g)) + (s_sm (x_S Z_g))), ((j_dc (x_J Z_g)) + (s_sc (x_S Z_g))), (j_is (x_J Z_g))), (x_S Z_g), (x_Y Z_g)) (s_pos (x_S Z_g))))), .int (j_po (x_J (x_stand (((j_pp (x_J Z_g)), (j_po (x_J Z_g)), ((j_mc (x_J Z_g)) + (s_sm (x_S Z_g))), ((j_dc (x_J Z_g)) + (s_sc (x_S Z_g))), (j_is (x_J Z_g))), (x_S Z_g), (x_Y Z_g)) (s_pos (x_S Z_g))))), .int (j_mc (x_J (x_stand (((j_pp (x_J Z_g)), (j_po (x_J Z_g)), ((j_mc (x_J Z_g)) + (s_sm (x_S Z_g))), ((j_dc (x_J Z_g)) + (s_sc (x_S Z_g))), (j_is (x_J Z_g))), (x_S Z_g), (x_Y Z_g)) (s_pos (x_S Z_g))))), .int (j_dc (x_J (x_stand (((j_pp (x_J Z_g)), (j_po (x_J Z_g)), ((j_mc (x_J Z_g)) + (s_sm (x_S Z_g))), ((j_dc (x_J Z_g)) + (s_sc (x_S Z_g))), (j_is (x_J Z_g))), (x_S Z_g), (x_Y Z_g)) (s_pos (x_S Z_g))))), .int (j_is (x_J (x_stand (((j_pp (x_J Z_g)), (j_po (x_J Z_g)), ((j_mc (x_J Z_g)) + (s_sm (x_S Z_g))), ((j_dc (x_J Z_g)) + (s_sc (x_S Z_g))), (j_is (x_J Z_g))), (x_S Z_g), (x_Y Z_g)) (s_pos (x_S Z_g)))))])), ((a 1), .inr (0, [.ref (a 6), .ref (a 2), .ref (a 3), .ref (a 4), .ref (a 5), .int (s_fc (x_S (x_stand (((j_pp (x_J Z_g)), (j_po (x_J Z_g)), ((j_mc (x_J Z_g)) + (s_sm (x_S Z_g))), ((j_dc (x_J Z_g)) + (s_sc (x_S Z_g))), (j_is (x_J Z_g))), (x_S Z_g), (x_Y Z_g)) (s_pos (x_S Z_g))))), .int (s_fs (x_S (x_stand (((j_pp (x_J Z_g)), (j_po (x_J Z_g)), ((j_mc (x_J Z_g)) + (s_sm (x_S Z_g))), ((j_dc (x_J Z_g)) + (s_sc (x_S Z_g))), (j_is (x_J Z_g))), (x_S Z_g), (x_Y Z_g)) (s_pos (x_S Z_g))))), .int (s_sm (x_S (x_stand (((j_pp (x_J Z_g)), (j_po (x_J Z_g)), ((j_mc (x_J Z_g)) + (s_sm (x_S Z_g))), ((j_dc (x_J Z_g)) + (s_sc (x_S Z_g))), (j_is (x_J Z_g))), (x_S Z_g), (x_Y Z_g)) (s_pos (x_S Z_g))))), .int (s_sc (x_S (x_stand (((j_pp (x_J Z_g)), (j_po (x_J Z_g)), ((j_mc (x_J Z_g)) + (s_sm (x_S Z_g))), ((j_dc (x_J Z_g)) + (s_sc (x_S Z_g))), (j_is (x_J Z_g))), (x_S Z_g), (x_Y Z_g)) (s_pos (x_S Z_g))))), .int (s_sf (x_S (x_stand (((j_pp (x_J Z_g)), (j_po (x_J Z_g)), ((j_mc (x_J Z_g)) + (s_sm (x_S Z_g))), ((j_dc (x_J Z_g)) + (s_sc (x_S Z_g))), (j_is (x_J Z_g))), (x_S Z_g), (x_Y Z_g)) (s_pos (x_S Z_g)))))])), ((a 2), .inl (cI, 800, .inl (s_fo (x_S (x_stand (((j_pp (x_J Z_g)), (j_po (x_J Z_g)), ((j_mc (x_J Z_g)) + (s_sm (x_S Z_g))), ((j_dc (x_J Z_g)) + (s_sc (x_S Z_g))), (j_is (x_J Z_g))), (x_S Z_g), (x_Y Z_g)) (s_pos (x_S Z_g))))))), ((a 3), .inl (cI, 800, .inl (s_or (x_S (x_stand (((j_pp (x_J Z_g)), (j_po (x_J Z_g)), ((j_mc (x_J Z_g)) + (s_sm (x_S Z_g))), ((j_dc (x_J Z_g)) + (s_sc (x_S Z_g))), (j_is (x_J Z_g))), (x_S Z_g), (x_Y Z_g)) (s_pos (x_S Z_g))))))), ((a 4), .inl (cI, 800, .inl (s_mo (x_S (x_stand (((j_pp (x_J Z_g)), (j_po (x_J Z_g)), ((j_mc (x_J Z_g)) + (s_sm (x_S Z_g))), ((j_dc (x_J Z_g)) + (s_sc (x_S Z_g))), (j_is (x_J Z_g))), (x_S Z_g), (x_Y Z_g)) (s_pos (x_S Z_g))))))), ((a 5), .inl (cI, 2048, .inl (s_sl (x_S (x_stand (((j_pp (x_J Z_g)), (j_po (x_J Z_g)), ((j_mc (x_J Z_g)) + (s_sm (x_S Z_g))), ((j_dc (x_J Z_g)) + (s_sc (x_S Z_g))), (j_is (x_J Z_g))), (x_S Z_g), (x_Y Z_g)) (s_pos (x_S Z_g))))))), ((a 6), .inr (1, [.ref (a 7), .ref (a 8), .ref (a 9), .ref (a 10), .int (nI (y_n (x_Y (x_stand (((j_pp (x_J Z_g)), (j_po (x_J Z_g)), ((j_mc (x_J Z_g)) + (s_sm (x_S Z_g))), ((j_dc (x_J Z_g)) + (s_sc (x_S Z_g))), (j_is (x_J Z_g))), (x_S Z_g), (x_Y Z_g)) (s_pos (x_S Z_g)))))), .long (y_rp (x_Y (x_stand (((j_pp (x_J Z_g)), (j_po (x_J Z_g)), ((j_mc (x_J Z_g)) + (s_sm (x_S Z_g))), ((j_dc (x_J Z_g)) + (s_sc (x_S Z_g))), (j_is (x_J Z_g))), (x_S Z_g), (x_Y Z_g)) (s_pos (x_S Z_g)))))])), ((a 7), .inl (cI, 9, .inl (y_sz (x_Y (x_stand (((j_pp (x_J Z_g)), (j_po (x_J Z_g)), ((j_mc (x_J Z_g)) + (s_sm (x_S Z_g))), ((j_dc (x_J Z_g)) + (s_sc (x_S Z_g))), (j_is (x_J Z_g))), (x_S Z_g), (x_Y Z_g)) (s_pos (x_S Z_g))))))), ((a 8), .inl (cZ, 9, .inl (y_ac (x_Y (x_stand (((j_pp (x_J Z_g)), (j_po (x_J Z_g)), ((j_mc (x_J Z_g)) + (s_sm (x_S Z_g))), ((j_dc (x_J Z_g)) + (s_sc (x_S Z_g))), (j_is (x_J Z_g))), (x_S Z_g), (x_Y Z_g)) (s_pos (x_S Z_g))))))), ((a 9), .inl (cI, 9, .inl (y_li (x_Y (x_stand (((j_pp (x_J Z_g)), (j_po (x_J Z_g)), ((j_mc (x_J Z_g)) + (s_sm (x_S Z_g))), ((j_dc (x_J Z_g)) + (s_sc (x_S Z_g))), (j_is (x_J Z_g))), (x_S Z_g), (x_Y Z_g)) (s_pos (x_S Z_g))))))), ((a 10), .inl (cJ, 9, .inr (.inl (y_sh (x_Y (x_stand (((j_pp (x_J Z_g)), (j_po (x_J Z_g)), ((j_mc (x_J Z_g)) + (s_sm (x_S Z_g))), ((j_dc (x_J Z_g)) + (s_sc (x_S Z_g))), (j_is (x_J Z_g))), (x_S Z_g), (x_Y Z_g)) (s_pos (x_S Z_g))))))))]) (va_runV (As := [.int (s_pos (x_S Z_g))]) (rest := []) ⟨hx, hb, hml, hown, hts⟩ ((c_X2_standAt l G cI cZ cJ a _ (((j_pp (x_J Z_g)), (j_po (x_J Z_g)), ((j_mc (x_J Z_g)) + (s_sm (x_S Z_g))), ((j_dc (x_J Z_g)) + (s_sc (x_S Z_g))), (j_is (x_J Z_g))), (x_S Z_g), (x_Y Z_g)) (s_pos (x_S Z_g)))) (cwV 1 hts gX2_solve_X2_standAt rfl rfl rfl (by decide +kernel) ⟨Nat.le_of_ble_eq_true rfl, Nat.le_of_ble_eq_true rfl⟩) ⟨rw_blind, va_recv hK hP (ci := 2) (q0 := 0) rfl rfl, rw_pre hP hD hK hN⟩ rfl rfl hl.1 rfl (lv_room (Nat.le_of_ble_eq_true rfl)) dX2_solve_50 ⟨Nat.zero_le _, Nat.zero_le _⟩) hS hA hP hD [0, 1, 2, 3, 4, 5, 6, 7, 8, 9, 10] [] [0, 1, 2, 3, 4, 5, 6, 7, 8, 9, 10] rfl rfl (by decide) (by decide) rfl (by decide) (fun H locs hP hD hS => ?_)
    refine lv_iload_n hx hb dX2_solve_53 rfl (lv_at hl 0 rfl) ?_
    have hP9 := hP
    have hD9 := hD
    exact W.iret (v := (s_sm (x_S Z_g))) hx hb hr (fun t ht hW => ⟨⟨(s_sm (x_S Z_g)), (x_stand (((j_pp (x_J Z_g)), (j_po (x_J Z_g)), ((j_mc (x_J Z_g)) + (s_sm (x_S Z_g))), ((j_dc (x_J Z_g)) + (s_sc (x_S Z_g))), (j_is (x_J Z_g))), (x_S Z_g), (x_Y Z_g)) (s_pos (x_S Z_g))), rfl, ⟨rfl, by rw [x_solv, if_neg c_1]; rfl⟩, by rw [ht]; exact hP9, hD9⟩, hS.F ht⟩) hS.2.2 dX2_solve_54

theorem in_X2_inTheWay_2 : ∀ w ∈ wsX20, w ∈ wsX2_inTheWay := by decide +kernel
set_option maxHeartbeats 4000000 in
set_option maxRecDepth 100000 in
/-- RampJam.inTheWay -/
theorem c_X2_inTheWay (l : Launch) (G : va_G) (cI cZ cJ : ClassId) (a : Nat → Nat) (sz : Nat) (X : XS) (hn : y_n (x_Y X) ≤ 9) : Met l yX2_inTheWay wsX2_inTheWay ({ frames := 2, cells := 0, slots := 0, locals := 44 }) (ro_Pc G [(cI, .int), (cZ, .boolean), (cJ, .long)] (wJ cI cZ cJ a (x_J X) (x_S X) (x_Y X)) sz [.ref (a 0)]) (ro_Qi (j_itw X) sz) 0 0 (ro_A sz) := by
  refine Met.ofW (cc := cX2_inTheWay) (maxL := 5) (ret := (some .int)) (by decide) rfl ?_
  intro p e s m args below meth c s₁ B hml hv
  obtain ⟨rfl, hsz, hP, hK, hN⟩ := hv
  have hx := B.exec
  have hb := B.bytes
  have hr := B.returns
  have hts := atoms_spec (ws := wsX2_inTheWay) B.pre
  have hown : s.vm.findClass RX2 = some m.cls := findClass_of_methodNamed B.named
  have hlocks := B.notSynchronized
  subst hsz
  have hA : ∀ q : Nat, s.heap.size ≤ q → (ro_A s.heap.size) q := fun _ h => h
  have hS : va_S (ro_A s.heap.size) s.heap s.heap [] := va_S.rf
  have hP : va_P G vwCl [((a 0), .inr (2, [.ref (a 6), .ref (a 1), .int (j_pp (x_J X)), .int (j_po (x_J X)), .int (j_mc (x_J X)), .int (j_dc (x_J X)), .int (j_is (x_J X))])), ((a 1), .inr (0, [.ref (a 6), .ref (a 2), .ref (a 3), .ref (a 4), .ref (a 5), .int (s_fc (x_S X)), .int (s_fs (x_S X)), .int (s_sm (x_S X)), .int (s_sc (x_S X)), .int (s_sf (x_S X))])), ((a 2), .inl (cI, 800, .inl (s_fo (x_S X)))), ((a 3), .inl (cI, 800, .inl (s_or (x_S X)))), ((a 4), .inl (cI, 800, .inl (s_mo (x_S X)))), ((a 5), .inl (cI, 2048, .inl (s_sl (x_S X)))), ((a 6), .inr (1, [.ref (a 7), .ref (a 8), .ref (a 9), .ref (a 10), .int (nI (y_n (x_Y X))), .long (y_rp (x_Y X))])), ((a 7), .inl (cI, 9, .inl (y_sz (x_Y X)))), ((a 8), .inl (cZ, 9, .inl (y_ac (x_Y X)))), ((a 9), .inl (cI, 9, .inl (y_li (x_Y X)))), ((a 10), .inl (cJ, 9, .inr (.inl (y_sh (x_Y X)))))] s.heap := hP
  have hl := lv_entry ([.ref (a 0)]) (n := 5) (Nat.le_of_ble_eq_true rfl)
  rw [lg_entry_eq]
  generalize (lg_sl ([.ref (a 0)]) ++ List.replicate (5 - (lg_sl ([.ref (a 0)])).length) Slot.unset).toArray = ls at hl ⊢
  have hl : lv_has ls 5 [(0, .ref (a 0))] := hl
  obtain ⟨hp8, hpe⟩ := pl_nI (j_po (x_J X)) 0
  refine lv_lconst (v := 0) hx hb dX2_inTheWay_0 (by decide) ?_
  refine lv_lstore_n (lv' := [(1, .long 0), (0, .ref (a 0))]) hx hb dX2_inTheWay_1 rfl hl (by decide) rfl (fun ls hl => ?_)
  refine lv_aload_n hx hb dX2_inTheWay_2 rfl (lv_at hl 1 rfl) ?_
  refine va_get (D := G) (ci := 2) (v := .int (j_po (x_J X))) (C := RX2) (T := TX2) (N := 7) hx hb hts in_X2_inTheWay_2 hown hK hP 0 rfl rfl 3 (by decide) (hts (.fieldLink RX2 57 "RampJam" "position" "I") (by decide +kernel)) (fun _ h9 => h9) rfl dX2_inTheWay_3 ?_
  refine lv_iconst (v := 0) hx hb dX2_inTheWay_6 (by decide) ?_
  refine ro_i (va_runS (As := [.int (j_po (x_J X)), .int 0]) (rest := []) ⟨hx, hb, hml, hown, hts⟩ ((c_X2_placeIn l G cI cZ cJ a _ (j_po (x_J X)) 0)) (va_cwS 2 hts gX2_inTheWay_X2_placeIn rfl rfl rfl (by decide +kernel) ⟨Nat.le_of_ble_eq_true rfl, Nat.le_of_ble_eq_true rfl⟩) ⟨ro_blind, ro_pre va_P0 hK hN⟩ rfl rfl hl.1 rfl (lv_room (Nat.le_of_ble_eq_true rfl)) dX2_inTheWay_7 ⟨Nat.zero_le _, Nat.zero_le _⟩) hS hA hP (fun H locs hP hS => ?_)
  refine lv_iconst (v := 2) hx hb dX2_inTheWay_10 (by decide) ?_
  refine lv_iadd hx hb dX2_inTheWay_11 ?_
  rw [show (((pl (j_po (x_J X)) 0) + 2) : Int32) = (nI (pl_nat (j_po (x_J X)) 0 + 2)) from by rw [hpe]; exact nI_add _ 2]
  refine lv_istore_n (lv' := [(3, .int (nI (pl_nat (j_po (x_J X)) 0 + 2))), (1, .long 0), (0, .ref (a 0))]) hx hb dX2_inTheWay_12 rfl hl (by decide) rfl (fun ls hl => ?_)
  have cut_13 : ∀ (d : Nat) (k_g : Nat), k_g ≤ (6 - (pl_nat (j_po (x_J X)) 0 + 2)) → (6 - (pl_nat (j_po (x_J X)) 0 + 2)) + 1 ≤ k_g + d → ∀ (H : Heap) (locs : List Loc), va_P G vwCl [((a 0), .inr (2, [.ref (a 6), .ref (a 1), .int (j_pp (x_J X)), .int (j_po (x_J X)), .int (j_mc (x_J X)), .int (j_dc (x_J X)), .int (j_is (x_J X))])), ((a 1), .inr (0, [.ref (a 6), .ref (a 2), .ref (a 3), .ref (a 4), .ref (a 5), .int (s_fc (x_S X)), .int (s_fs (x_S X)), .int (s_sm (x_S X)), .int (s_sc (x_S X)), .int (s_sf (x_S X))])), ((a 2), .inl (cI, 800, .inl (s_fo (x_S X)))), ((a 3), .inl (cI, 800, .inl (s_or (x_S X)))), ((a 4), .inl (cI, 800, .inl (s_mo (x_S X)))), ((a 5), .inl (cI, 2048, .inl (s_sl (x_S X)))), ((a 6), .inr (1, [.ref (a 7), .ref (a 8), .ref (a 9), .ref (a 10), .int (nI (y_n (x_Y X))), .long (y_rp (x_Y X))])), ((a 7), .inl (cI, 9, .inl (y_sz (x_Y X)))), ((a 8), .inl (cZ, 9, .inl (y_ac (x_Y X)))), ((a 9), .inl (cI, 9, .inl (y_li (x_Y X)))), ((a 10), .inl (cJ, 9, .inr (.inl (y_sh (x_Y X)))))] H → va_S (ro_A s.heap.size) s.heap H locs → ∀ (ls : Array Slot), lv_has ls 5 [(0, .ref (a 0)), (1, .long (j_wo (pl_nat (j_po (x_J X)) 0 + 2) k_g)), (3, .int (nI ((pl_nat (j_po (x_J X)) 0 + 2) + k_g)))] → W p l e (headSpec wsX2_inTheWay ({ frames := 2, cells := 0, slots := 0, locals := 44 })).room s m ([.ref (a 0)] : List Value).toArray below meth c H locs 0 0 (MQ below (ro_Qi (j_itw X) s.heap.size) ([.ref (a 0)] : List Value).toArray s 0 0 (ro_A s.heap.size)) (F0 m 13 ls []) := by
    intro d
    induction d with
    | zero =>
      intro k_g hk_13 hd_13
      exact absurd hd_13 (by omega)
    | succ d ih_13 =>
      intro k_g hk_13 hd_13  H locs hP hS ls hl
      refine lv_iload_n hx hb dX2_inTheWay_13 rfl (lv_at hl 2 rfl) ?_
      refine lv_bipush (v := 6) hx hb dX2_inTheWay_14 (by decide) ?_
      refine lv_icmp_ge (tgt := 33) hx hb dX2_inTheWay_16 (by decide) (fun c_1 => ?_) (fun c_1 => ?_)
      · have hkn : k_g = 6 - (pl_nat (j_po (x_J X)) 0 + 2) := by have := nx_ge (n := 6) (by omega) (by omega) c_1; omega
        refine lv_iconst (v := 0) hx hb dX2_inTheWay_33 (by decide) ?_
        refine lv_istore_n (lv' := [(3, .int 0), (0, .ref (a 0)), (1, .long (j_wo (pl_nat (j_po (x_J X)) 0 + 2) k_g))]) hx hb dX2_inTheWay_34 rfl hl (by decide) rfl (fun ls hl => ?_)
        refine lv_iconst (v := 0) hx hb dX2_inTheWay_35 (by decide) ?_
        refine lv_istore (lv' := [(4, .int 0), (3, .int 0), (0, .ref (a 0)), (1, .long (j_wo (pl_nat (j_po (x_J X)) 0 + 2) k_g))]) hx hb dX2_inTheWay_36 hl (by decide) rfl (fun ls hl => ?_)
        have cut_38 : ∀ (d : Nat) (n_g : Nat) (b_g : Int32), n_g ≤ (y_n (x_Y X)) → (y_n (x_Y X)) + 1 ≤ n_g + d → (b_g = j_cnt (x_Y X) (j_po (x_J X)) (j_wo (pl_nat (j_po (x_J X)) 0 + 2) (6 - (pl_nat (j_po (x_J X)) 0 + 2))) n_g) → ∀ (H : Heap) (locs : List Loc), va_P G vwCl [((a 0), .inr (2, [.ref (a 6), .ref (a 1), .int (j_pp (x_J X)), .int (j_po (x_J X)), .int (j_mc (x_J X)), .int (j_dc (x_J X)), .int (j_is (x_J X))])), ((a 1), .inr (0, [.ref (a 6), .ref (a 2), .ref (a 3), .ref (a 4), .ref (a 5), .int (s_fc (x_S X)), .int (s_fs (x_S X)), .int (s_sm (x_S X)), .int (s_sc (x_S X)), .int (s_sf (x_S X))])), ((a 2), .inl (cI, 800, .inl (s_fo (x_S X)))), ((a 3), .inl (cI, 800, .inl (s_or (x_S X)))), ((a 4), .inl (cI, 800, .inl (s_mo (x_S X)))), ((a 5), .inl (cI, 2048, .inl (s_sl (x_S X)))), ((a 6), .inr (1, [.ref (a 7), .ref (a 8), .ref (a 9), .ref (a 10), .int (nI (y_n (x_Y X))), .long (y_rp (x_Y X))])), ((a 7), .inl (cI, 9, .inl (y_sz (x_Y X)))), ((a 8), .inl (cZ, 9, .inl (y_ac (x_Y X)))), ((a 9), .inl (cI, 9, .inl (y_li (x_Y X)))), ((a 10), .inl (cJ, 9, .inr (.inl (y_sh (x_Y X)))))] H → va_S (ro_A s.heap.size) s.heap H locs → ∀ (ls : Array Slot), lv_has ls 5 [(0, .ref (a 0)), (1, .long (j_wo (pl_nat (j_po (x_J X)) 0 + 2) (6 - (pl_nat (j_po (x_J X)) 0 + 2)))), (3, .int b_g), (4, .int (nI n_g))] → W p l e (headSpec wsX2_inTheWay ({ frames := 2, cells := 0, slots := 0, locals := 44 })).room s m ([.ref (a 0)] : List Value).toArray below meth c H locs 0 0 (MQ below (ro_Qi (j_itw X) s.heap.size) ([.ref (a 0)] : List Value).toArray s 0 0 (ro_A s.heap.size)) (F0 m 38 ls []) := by
          intro d
          induction d with
          | zero =>
            intro n_g b_g hk_38 hd_38
            exact absurd hd_38 (by omega)
          | succ d ih_38 =>
            intro n_g b_g hk_38 hd_38 heb H locs hP hS ls hl
            refine lv_iload hx hb dX2_inTheWay_38 (lv_at hl 3 rfl) ?_
            refine lv_aload_n hx hb dX2_inTheWay_40 rfl (lv_at hl 0 rfl) ?_
            refine va_get (D := G) (ci := 2) (v := .ref (a 6)) (C := RX2) (T := TX2) (N := 7) hx hb hts in_X2_inTheWay_2 hown hK hP 0 rfl rfl 0 (by decide) (hts (.fieldLink RX2 10 "RampJam" "yard" "LRampJam$Yard;") (by decide +kernel)) (fun _ h9 => h9) rfl dX2_inTheWay_41 ?_
            have hPc := hP.sub (ws' := [((a 6), .inr (1, [.ref (a 7), .ref (a 8), .ref (a 9), .ref (a 10), .int (nI (y_n (x_Y X))), .long (y_rp (x_Y X))])), ((a 7), .inl (cI, 9, .inl (y_sz (x_Y X)))), ((a 8), .inl (cZ, 9, .inl (y_ac (x_Y X)))), ((a 9), .inl (cI, 9, .inl (y_li (x_Y X)))), ((a 10), .inl (cJ, 9, .inr (.inl (y_sh (x_Y X)))))]) [6, 7, 8, 9, 10] rfl
            refine ro_i (va_runV (As := []) (rest := [.int (nI n_g)]) ⟨hx, hb, hml, hown, hts⟩ ((c_X1_count l G cI cZ cJ a _ (x_Y X))) (cwV 0 hts gX2_inTheWay_X1_count rfl rfl rfl (by decide +kernel) ⟨Nat.le_of_ble_eq_true rfl, Nat.le_of_ble_eq_true rfl⟩) ⟨ro_blind, va_recv hK hPc (ci := 1) (q0 := 0) rfl rfl, ro_pre hPc hK hN⟩ rfl rfl hl.1 rfl (lv_room (Nat.le_of_ble_eq_true rfl)) dX2_inTheWay_44 ⟨Nat.zero_le _, Nat.zero_le _⟩) hS hA hP (fun H locs hP hS => ?_)
            refine lv_icmp_ge (tgt := 79) hx hb dX2_inTheWay_47 (by decide) (fun c_2 => ?_) (fun c_2 => ?_)
            · have hkn2 : n_g = y_n (x_Y X) := Nat.le_antisymm hk_38 (nx_ge (by omega) (by omega) c_2)
              refine lv_iload_n hx hb dX2_inTheWay_79 rfl (lv_at hl 2 rfl) ?_
              exact W.iret (v := b_g) hx hb hr (fun t ht hW => ⟨⟨b_g, (), rfl, by rw [j_itw, ← hkn2, heb], trivial⟩, hS.F ht⟩) hS.2.2 dX2_inTheWay_80
            · have hlt2 : n_g < y_n (x_Y X) := nx_lt (by omega) (by omega) c_2
              refine lv_aload_n hx hb dX2_inTheWay_50 rfl (lv_at hl 0 rfl) ?_
              refine va_get (D := G) (ci := 2) (v := .ref (a 6)) (C := RX2) (T := TX2) (N := 7) hx hb hts in_X2_inTheWay_2 hown hK hP 0 rfl rfl 0 (by decide) (hts (.fieldLink RX2 10 "RampJam" "yard" "LRampJam$Yard;") (by decide +kernel)) (fun _ h9 => h9) rfl dX2_inTheWay_51 ?_
              refine lv_aload_n hx hb dX2_inTheWay_54 rfl (lv_at hl 0 rfl) ?_
              refine va_get (D := G) (ci := 2) (v := .int (j_po (x_J X))) (C := RX2) (T := TX2) (N := 7) hx hb hts in_X2_inTheWay_2 hown hK hP 0 rfl rfl 3 (by decide) (hts (.fieldLink RX2 57 "RampJam" "position" "I") (by decide +kernel)) (fun _ h9 => h9) rfl dX2_inTheWay_55 ?_
              refine lv_iload hx hb dX2_inTheWay_58 (lv_at hl 3 rfl) ?_
              have hPc := hP.sub (ws' := [((a 6), .inr (1, [.ref (a 7), .ref (a 8), .ref (a 9), .ref (a 10), .int (nI (y_n (x_Y X))), .long (y_rp (x_Y X))])), ((a 7), .inl (cI, 9, .inl (y_sz (x_Y X)))), ((a 8), .inl (cZ, 9, .inl (y_ac (x_Y X)))), ((a 9), .inl (cI, 9, .inl (y_li (x_Y X)))), ((a 10), .inl (cJ, 9, .inr (.inl (y_sh (x_Y X)))))]) [6, 7, 8, 9, 10] rfl
              refine ro_l (va_runV (As := [.int (j_po (x_J X)), .int (nI n_g)]) (rest := []) ⟨hx, hb, hml, hown, hts⟩ ((c_X1_cellsIn l G cI cZ cJ a _ (x_Y X) (j_po (x_J X)) (nI n_g))) (cwV 2 hts gX2_inTheWay_X1_cellsIn rfl rfl rfl (by decide +kernel) ⟨Nat.le_of_ble_eq_true rfl, Nat.le_of_ble_eq_true rfl⟩) ⟨ro_blind, va_recv hK hPc (ci := 1) (q0 := 0) rfl rfl, ro_pre hPc hK hN⟩ rfl rfl hl.1 rfl (lv_room (Nat.le_of_ble_eq_true rfl)) dX2_inTheWay_60 ⟨Nat.zero_le _, Nat.zero_le _⟩) hS hA hP (fun H locs hP hS => ?_)
              refine lv_lload_n hx hb dX2_inTheWay_63 rfl (lv_at hl 1 rfl) ?_
              refine lv_land hx hb dX2_inTheWay_64 ?_
              refine lv_lconst (v := 0) hx hb dX2_inTheWay_65 (by decide) ?_
              refine W.lcmp hx hb dX2_inTheWay_66 ?_
              refine lv_if_eq (tgt := 73) hx hb dX2_inTheWay_67 (by decide) (fun c_3 => ?_) (fun c_3 => ?_)
              · have c_3 := lg_t c_3
                have hz := c_3
                refine lv_iinc (v := (nI (n_g + 1))) (lv' := [(4, .int (nI (n_g + 1))), (0, .ref (a 0)), (1, .long (j_wo (pl_nat (j_po (x_J X)) 0 + 2) (6 - (pl_nat (j_po (x_J X)) 0 + 2)))), (3, .int b_g)]) hx hb dX2_inTheWay_73 hl (k := 3) rfl (nI_1 _) (by decide) rfl (fun ls hl => ?_)
                refine lv_goto (tgt := 38) hx hb dX2_inTheWay_76 (by decide) ?_
                exact ih_38 (n_g + 1) b_g (hlt2) (by omega) (by first | rw [j_cnt, if_pos hz, ← heb] | rw [j_cnt, if_neg hz, ← heb]) _ _ hP hS _ (lv_sub hl [1, 2, 3, 0] rfl)
              · have c_3 := lg_f c_3
                have hz := c_3
                refine lv_iinc (v := (b_g + 1)) (lv' := [(3, .int (b_g + 1)), (0, .ref (a 0)), (1, .long (j_wo (pl_nat (j_po (x_J X)) 0 + 2) (6 - (pl_nat (j_po (x_J X)) 0 + 2)))), (4, .int (nI n_g))]) hx hb dX2_inTheWay_70 hl (k := 2) rfl (rfl) (by decide) rfl (fun ls hl => ?_)
                refine lv_iinc (v := (nI (n_g + 1))) (lv' := [(4, .int (nI (n_g + 1))), (3, .int (b_g + 1)), (0, .ref (a 0)), (1, .long (j_wo (pl_nat (j_po (x_J X)) 0 + 2) (6 - (pl_nat (j_po (x_J X)) 0 + 2))))]) hx hb dX2_inTheWay_73 hl (k := 3) rfl (nI_1 _) (by decide) rfl (fun ls hl => ?_)
                refine lv_goto (tgt := 38) hx hb dX2_inTheWay_76 (by decide) ?_
                exact ih_38 (n_g + 1) (b_g + 1) (hlt2) (by omega) (by first | rw [j_cnt, if_pos hz, ← heb] | rw [j_cnt, if_neg hz, ← heb]) _ _ hP hS _ (lv_sub hl [2, 3, 1, 0] rfl)
        rw [hkn] at hl
        exact cut_38 ((y_n (x_Y X)) + 1) 0 0 (Nat.zero_le _) (by omega) (rfl) _ _ hP hS _ (lv_sub hl [2, 3, 1, 0] rfl)
      · have hlt : k_g < 6 - (pl_nat (j_po (x_J X)) 0 + 2) := by have := nx_lt (n := 6) (by omega) (by omega) c_1; omega
        refine lv_lload_n hx hb dX2_inTheWay_19 rfl (lv_at hl 1 rfl) ?_
        refine lv_iconst (v := 2) hx hb dX2_inTheWay_20 (by decide) ?_
        refine lv_iload_n hx hb dX2_inTheWay_21 rfl (lv_at hl 2 rfl) ?_
        refine ro_l (va_runS (As := [.int 2, .int (nI ((pl_nat (j_po (x_J X)) 0 + 2) + k_g))]) (rest := [.long (j_wo (pl_nat (j_po (x_J X)) 0 + 2) k_g)]) ⟨hx, hb, hml, hown, hts⟩ ((c_X2_cellOf l G cI cZ cJ a _ 2 (nI ((pl_nat (j_po (x_J X)) 0 + 2) + k_g)))) (va_cwS 2 hts gX2_inTheWay_X2_cellOf rfl rfl rfl (by decide +kernel) ⟨Nat.le_of_ble_eq_true rfl, Nat.le_of_ble_eq_true rfl⟩) ⟨ro_blind, ro_pre va_P0 hK hN⟩ rfl rfl hl.1 rfl (lv_room (Nat.le_of_ble_eq_true rfl)) dX2_inTheWay_22 ⟨Nat.zero_le _, Nat.zero_le _⟩) hS hA hP (fun H locs hP hS => ?_)
        refine lv_lor hx hb dX2_inTheWay_25 ?_
        refine lv_lstore_n (lv' := [(1, .long ((j_wo (pl_nat (j_po (x_J X)) 0 + 2) k_g) ||| (co 2 (nI ((pl_nat (j_po (x_J X)) 0 + 2) + k_g))))), (0, .ref (a 0)), (3, .int (nI ((pl_nat (j_po (x_J X)) 0 + 2) + k_g)))]) hx hb dX2_inTheWay_26 rfl hl (by decide) rfl (fun ls hl => ?_)
        refine lv_iinc (v := (nI (((pl_nat (j_po (x_J X)) 0 + 2) + k_g) + 1))) (lv' := [(3, .int (nI (((pl_nat (j_po (x_J X)) 0 + 2) + k_g) + 1))), (1, .long ((j_wo (pl_nat (j_po (x_J X)) 0 + 2) k_g) ||| (co 2 (nI ((pl_nat (j_po (x_J X)) 0 + 2) + k_g))))), (0, .ref (a 0))]) hx hb dX2_inTheWay_27 hl (k := 2) rfl (nI_1 _) (by decide) rfl (fun ls hl => ?_)
        refine lv_goto (tgt := 13) hx hb dX2_inTheWay_30 (by decide) ?_
        exact ih_13 (k_g + 1) (hlt) (by omega) _ _ hP hS _ (lv_sub hl [2, 1, 0] rfl)
  exact cut_13 ((6 - (pl_nat (j_po (x_J X)) 0 + 2)) + 1) 0 (Nat.zero_le _) (by omega) _ _ hP hS _ (lv_sub hl [2, 1, 0] rfl)

theorem ie_X2_rowOf_117 : ∀ w ∈ (vx_atS RX2 117 ex_I ex_names).filter goodWord, w ∈ wsX2_rowOf := by decide +kernel
theorem in_X2_rowOf_2 : ∀ w ∈ wsX20, w ∈ wsX2_rowOf := by decide +kernel
set_option maxHeartbeats 4000000 in
set_option maxRecDepth 100000 in
/-- RampJam.rowOf -/
theorem c_X2_rowOf (l : Launch) (hst : l.stackTraces = false) (G : va_G) (cI cZ cJ : ClassId) (a : Nat → Nat) (sz : Nat) (sa : Nat → Nat) (X : XS) (v_g : Int32) (hn : y_n (x_Y X) ≤ 9) : vx_Met l yX2_rowOf wsX2_rowOf ({ frames := 6, cells := 1, slots := 6, locals := 90 }) (xx_Pc G [(cI, .int), (cZ, .boolean), (cJ, .long)] (wJ cI cZ cJ a (x_J X) (x_S X) (x_Y X)) sz sa [.ref (a 0), .int v_g]) (xx_Qi (S := XS) (has_th X v_g = 0) (j_row X v_g) X (fun u : XS => wJ cI cZ cJ a (x_J u) (x_S u) (x_Y u)) G (wJ cI cZ cJ a (x_J X) (x_S X) (x_Y X)) sz) (xx_X (fun E => (E = ex_I ∧ has_th X v_g = 1)) G (wJ cI cZ cJ a (x_J X) (x_S X) (x_Y X)) (va_A (wJ cI cZ cJ a (x_J X) (x_S X) (x_Y X)) sz)) 1 6 (va_A (wJ cI cZ cJ a (x_J X) (x_S X) (x_Y X)) sz) := by
  refine vx_ofW (cc := cX2_rowOf) (maxL := 2) (ret := (some .int)) (by decide) rfl ?_
  intro p e s m args below meth c s₁ B hml hnt hv
  obtain ⟨rfl, hsz, hP, hK, hD0, hN, hE, hZ⟩ := hv
  have hx := B.exec
  have hb := B.bytes
  have hr := B.returns
  have hts := atoms_spec (ws := wsX2_rowOf) B.pre
  have hown : s.vm.findClass RX2 = some m.cls := findClass_of_methodNamed B.named
  have hlocks := B.notSynchronized
  subst hsz
  have hD0 : va_D (fun _ => True) [((a 0), .inr (2, [.ref (a 6), .ref (a 1), .int (j_pp (x_J X)), .int (j_po (x_J X)), .int (j_mc (x_J X)), .int (j_dc (x_J X)), .int (j_is (x_J X))])), ((a 1), .inr (0, [.ref (a 6), .ref (a 2), .ref (a 3), .ref (a 4), .ref (a 5), .int (s_fc (x_S X)), .int (s_fs (x_S X)), .int (s_sm (x_S X)), .int (s_sc (x_S X)), .int (s_sf (x_S X))])), ((a 2), .inl (cI, 800, .inl (s_fo (x_S X)))), ((a 3), .inl (cI, 800, .inl (s_or (x_S X)))), ((a 4), .inl (cI, 800, .inl (s_mo (x_S X)))), ((a 5), .inl (cI, 2048, .inl (s_sl (x_S X)))), ((a 6), .inr (1, [.ref (a 7), .ref (a 8), .ref (a 9), .ref (a 10), .int (nI (y_n (x_Y X))), .long (y_rp (x_Y X))])), ((a 7), .inl (cI, 9, .inl (y_sz (x_Y X)))), ((a 8), .inl (cZ, 9, .inl (y_ac (x_Y X)))), ((a 9), .inl (cI, 9, .inl (y_li (x_Y X)))), ((a 10), .inl (cJ, 9, .inr (.inl (y_sh (x_Y X)))))] := hD0
  have hD := hD0.self (sz := s.heap.size)
  unfold xx_Qi
  generalize hAe : va_A (wJ cI cZ cJ a (x_J X) (x_S X) (x_Y X)) s.heap.size = A at hD hZ ⊢
  have hA : ∀ q : Nat, s.heap.size ≤ q → A q := fun q h => by rw [← hAe]; exact Or.inr h
  have hS : va_S A s.heap s.heap [] := va_S.rf
  have hP : va_P G vwCl [((a 0), .inr (2, [.ref (a 6), .ref (a 1), .int (j_pp (x_J X)), .int (j_po (x_J X)), .int (j_mc (x_J X)), .int (j_dc (x_J X)), .int (j_is (x_J X))])), ((a 1), .inr (0, [.ref (a 6), .ref (a 2), .ref (a 3), .ref (a 4), .ref (a 5), .int (s_fc (x_S X)), .int (s_fs (x_S X)), .int (s_sm (x_S X)), .int (s_sc (x_S X)), .int (s_sf (x_S X))])), ((a 2), .inl (cI, 800, .inl (s_fo (x_S X)))), ((a 3), .inl (cI, 800, .inl (s_or (x_S X)))), ((a 4), .inl (cI, 800, .inl (s_mo (x_S X)))), ((a 5), .inl (cI, 2048, .inl (s_sl (x_S X)))), ((a 6), .inr (1, [.ref (a 7), .ref (a 8), .ref (a 9), .ref (a 10), .int (nI (y_n (x_Y X))), .long (y_rp (x_Y X))])), ((a 7), .inl (cI, 9, .inl (y_sz (x_Y X)))), ((a 8), .inl (cZ, 9, .inl (y_ac (x_Y X)))), ((a 9), .inl (cI, 9, .inl (y_li (x_Y X)))), ((a 10), .inl (cJ, 9, .inr (.inl (y_sh (x_Y X)))))] s.heap := hP
  have hl := lv_entry ([.ref (a 0), .int v_g]) (n := 2) (Nat.le_of_ble_eq_true rfl)
  rw [lg_entry_eq]
  generalize (lg_sl ([.ref (a 0), .int v_g]) ++ List.replicate (2 - (lg_sl ([.ref (a 0), .int v_g])).length) Slot.unset).toArray = ls at hl ⊢
  have hl : lv_has ls 2 [(0, .ref (a 0)), (1, .int v_g)] := hl
  refine lv_aload_n hx hb dX2_rowOf_0 rfl (lv_at hl 0 rfl) ?_
  refine va_get (D := G) (ci := 2) (v := .ref (a 6)) (C := RX2) (T := TX2) (N := 7) hx hb hts in_X2_rowOf_2 hown hK hP 0 rfl rfl 0 (by decide) (hts (.fieldLink RX2 10 "RampJam" "yard" "LRampJam$Yard;") (by decide +kernel)) (fun _ h9 => h9) rfl dX2_rowOf_1 ?_
  refine lv_iload_n hx hb dX2_rowOf_4 rfl (lv_at hl 1 rfl) ?_
  have hPc := hP.sub (ws' := [((a 6), .inr (1, [.ref (a 7), .ref (a 8), .ref (a 9), .ref (a 10), .int (nI (y_n (x_Y X))), .long (y_rp (x_Y X))])), ((a 7), .inl (cI, 9, .inl (y_sz (x_Y X)))), ((a 8), .inl (cZ, 9, .inl (y_ac (x_Y X)))), ((a 9), .inl (cI, 9, .inl (y_li (x_Y X)))), ((a 10), .inl (cJ, 9, .inr (.inl (y_sh (x_Y X)))))]) [6, 7, 8, 9, 10] rfl
  refine ro_i (va_runV (As := [.int v_g]) (rest := []) ⟨hx, hb, hml, hown, hts⟩ ((c_X1_has l G cI cZ cJ a _ (x_Y X) v_g)) (cwV 1 hts gX2_rowOf_X1_has rfl rfl rfl (by decide +kernel) ⟨Nat.le_of_ble_eq_true rfl, Nat.le_of_ble_eq_true rfl⟩) ⟨ro_blind, va_recv hK hPc (ci := 1) (q0 := 0) rfl rfl, ro_pre hPc hK hN⟩ rfl rfl hl.1 rfl (lv_room (Nat.le_of_ble_eq_true rfl)) dX2_rowOf_5 ⟨Nat.zero_le _, Nat.zero_le _⟩) hS hA hP (fun H locs hP hS => ?_)
  refine lv_if_ne (tgt := 21) hx hb dX2_rowOf_8 (by decide) (fun c_1 => ?_) (fun c_1 => ?_)
  · have c_1 := b1_t c_1
    refine lv_aload_n hx hb dX2_rowOf_21 rfl (lv_at hl 0 rfl) ?_
    refine va_get (D := G) (ci := 2) (v := .ref (a 6)) (C := RX2) (T := TX2) (N := 7) hx hb hts in_X2_rowOf_2 hown hK hP 0 rfl rfl 0 (by decide) (hts (.fieldLink RX2 10 "RampJam" "yard" "LRampJam$Yard;") (by decide +kernel)) (fun _ h9 => h9) rfl dX2_rowOf_22 ?_
    refine lv_iload_n hx hb dX2_rowOf_25 rfl (lv_at hl 1 rfl) ?_
    have hPc := hP.sub (ws' := [((a 6), .inr (1, [.ref (a 7), .ref (a 8), .ref (a 9), .ref (a 10), .int (nI (y_n (x_Y X))), .long (y_rp (x_Y X))])), ((a 7), .inl (cI, 9, .inl (y_sz (x_Y X)))), ((a 8), .inl (cZ, 9, .inl (y_ac (x_Y X)))), ((a 9), .inl (cI, 9, .inl (y_li (x_Y X)))), ((a 10), .inl (cJ, 9, .inr (.inl (y_sh (x_Y X)))))]) [6, 7, 8, 9, 10] rfl
    refine ro_i (va_runV (As := [.int v_g]) (rest := []) ⟨hx, hb, hml, hown, hts⟩ ((c_X1_standsAcross l G cI cZ cJ a _ (x_Y X) v_g)) (cwV 1 hts gX2_rowOf_X1_standsAcross rfl rfl rfl (by decide +kernel) ⟨Nat.le_of_ble_eq_true rfl, Nat.le_of_ble_eq_true rfl⟩) ⟨ro_blind, va_recv hK hPc (ci := 1) (q0 := 0) rfl rfl, ro_pre hPc hK hN⟩ rfl rfl hl.1 rfl (lv_room (Nat.le_of_ble_eq_true rfl)) dX2_rowOf_26 ⟨Nat.zero_le _, Nat.zero_le _⟩) hS hA hP (fun H locs hP hS => ?_)
    refine lv_if_eq (tgt := 43) hx hb dX2_rowOf_29 (by decide) (fun c_2 => ?_) (fun c_2 => ?_)
    · have c_2 := b1_f c_2
      refine lv_aload_n hx hb dX2_rowOf_43 rfl (lv_at hl 0 rfl) ?_
      refine va_get (D := G) (ci := 2) (v := .int (j_po (x_J X))) (C := RX2) (T := TX2) (N := 7) hx hb hts in_X2_rowOf_2 hown hK hP 0 rfl rfl 3 (by decide) (hts (.fieldLink RX2 57 "RampJam" "position" "I") (by decide +kernel)) (fun _ h9 => h9) rfl dX2_rowOf_44 ?_
      refine lv_iload_n hx hb dX2_rowOf_47 rfl (lv_at hl 1 rfl) ?_
      refine ro_i (va_runS (As := [.int (j_po (x_J X)), .int v_g]) (rest := []) ⟨hx, hb, hml, hown, hts⟩ ((c_X2_placeIn l G cI cZ cJ a _ (j_po (x_J X)) v_g)) (va_cwS 2 hts gX2_rowOf_X2_placeIn rfl rfl rfl (by decide +kernel) ⟨Nat.le_of_ble_eq_true rfl, Nat.le_of_ble_eq_true rfl⟩) ⟨ro_blind, ro_pre va_P0 hK hN⟩ rfl rfl hl.1 rfl (lv_room (Nat.le_of_ble_eq_true rfl)) dX2_rowOf_48 ⟨Nat.zero_le _, Nat.zero_le _⟩) hS hA hP (fun H locs hP hS => ?_)
      refine vx_ret ?_
      refine W.widen (k := 1) (n := 6) (Nat.zero_le _) (Nat.zero_le _) ?_
      have hP9 := hP
      have hD9 := hD
      exact W.iret (v := (pl (j_po (x_J X)) v_g)) hx hb hr (fun t ht hW => ⟨⟨(pl (j_po (x_J X)) v_g), X, rfl, ⟨by rw [has_th, if_pos c_1], by rw [j_row, if_neg c_2], rfl⟩, by rw [ht]; exact hP9, hD9⟩, hS.F ht⟩) hS.2.2 dX2_rowOf_51
    · have c_2 := b1_t c_2
      refine lv_aload_n hx hb dX2_rowOf_32 rfl (lv_at hl 0 rfl) ?_
      refine va_get (D := G) (ci := 2) (v := .ref (a 6)) (C := RX2) (T := TX2) (N := 7) hx hb hts in_X2_rowOf_2 hown hK hP 0 rfl rfl 0 (by decide) (hts (.fieldLink RX2 10 "RampJam" "yard" "LRampJam$Yard;") (by decide +kernel)) (fun _ h9 => h9) rfl dX2_rowOf_33 ?_
      refine lv_iload_n hx hb dX2_rowOf_36 rfl (lv_at hl 1 rfl) ?_
      have hPc := hP.sub (ws' := [((a 6), .inr (1, [.ref (a 7), .ref (a 8), .ref (a 9), .ref (a 10), .int (nI (y_n (x_Y X))), .long (y_rp (x_Y X))])), ((a 7), .inl (cI, 9, .inl (y_sz (x_Y X)))), ((a 8), .inl (cZ, 9, .inl (y_ac (x_Y X)))), ((a 9), .inl (cI, 9, .inl (y_li (x_Y X)))), ((a 10), .inl (cJ, 9, .inr (.inl (y_sh (x_Y X)))))]) [6, 7, 8, 9, 10] rfl
      refine ro_i (va_runV (As := [.int v_g]) (rest := []) ⟨hx, hb, hml, hown, hts⟩ ((c_X1_lineOf l G cI cZ cJ a _ (x_Y X) v_g)) (cwV 1 hts gX2_rowOf_X1_lineOf rfl rfl rfl (by decide +kernel) ⟨Nat.le_of_ble_eq_true rfl, Nat.le_of_ble_eq_true rfl⟩) ⟨ro_blind, va_recv hK hPc (ci := 1) (q0 := 0) rfl rfl, ro_pre hPc hK hN⟩ rfl rfl hl.1 rfl (lv_room (Nat.le_of_ble_eq_true rfl)) dX2_rowOf_37 ⟨Nat.zero_le _, Nat.zero_le _⟩) hS hA hP (fun H locs hP hS => ?_)
      refine lv_goto (tgt := 51) hx hb dX2_rowOf_40 (by decide) ?_
      refine vx_ret ?_
      refine W.widen (k := 1) (n := 6) (Nat.zero_le _) (Nat.zero_le _) ?_
      have hP9 := hP
      have hD9 := hD
      exact W.iret (v := (y_line (x_Y X) v_g)) hx hb hr (fun t ht hW => ⟨⟨(y_line (x_Y X) v_g), X, rfl, ⟨by rw [has_th, if_pos c_1], by rw [j_row, if_pos c_2], rfl⟩, by rw [ht]; exact hP9, hD9⟩, hS.F ht⟩) hS.2.2 dX2_rowOf_51
  · have c_1 := b1_f c_1
    exact vx_throwS (A := A) (names := ex_names) hx hb hst hown (by decide +kernel) ex_fit (hts (.classLink RX2 113 ex_I) (by decide +kernel)) (hts (.initialized ex_I) (by decide +kernel)) (ex_get hE (k := 8) rfl) (vx_hat (fun w h => hts w (ie_X2_rowOf_117 w h)) ex_bI (ex_words hE)) ex_gI hZ.1 hZ.2 hS (hl.1.trans hml.symm) dX2_rowOf_11 dX2_rowOf_14 dX2_rowOf_15 dX2_rowOf_17 dX2_rowOf_20 (fun x hx => absurd (hnt x hx) id) (by decide) (Nat.le_of_ble_eq_true rfl) (Nat.le_of_ble_eq_true rfl) (Nat.le_of_ble_eq_true rfl) hlocks (xx_x hP hS (⟨rfl, by rw [has_th, if_neg c_1]⟩)) hS.2.2 (Nat.le_of_ble_eq_true rfl) (Nat.le_of_ble_eq_true rfl)

theorem ie_X2_columnOf_117 : ∀ w ∈ (vx_atS RX2 117 ex_I ex_names).filter goodWord, w ∈ wsX2_columnOf := by decide +kernel
theorem in_X2_columnOf_2 : ∀ w ∈ wsX20, w ∈ wsX2_columnOf := by decide +kernel
set_option maxHeartbeats 4000000 in
set_option maxRecDepth 100000 in
/-- RampJam.columnOf -/
theorem c_X2_columnOf (l : Launch) (hst : l.stackTraces = false) (G : va_G) (cI cZ cJ : ClassId) (a : Nat → Nat) (sz : Nat) (sa : Nat → Nat) (X : XS) (v_g : Int32) (hn : y_n (x_Y X) ≤ 9) : vx_Met l yX2_columnOf wsX2_columnOf ({ frames := 6, cells := 1, slots := 6, locals := 90 }) (xx_Pc G [(cI, .int), (cZ, .boolean), (cJ, .long)] (wJ cI cZ cJ a (x_J X) (x_S X) (x_Y X)) sz sa [.ref (a 0), .int v_g]) (xx_Qi (S := XS) (has_th X v_g = 0) (j_col X v_g) X (fun u : XS => wJ cI cZ cJ a (x_J u) (x_S u) (x_Y u)) G (wJ cI cZ cJ a (x_J X) (x_S X) (x_Y X)) sz) (xx_X (fun E => (E = ex_I ∧ has_th X v_g = 1)) G (wJ cI cZ cJ a (x_J X) (x_S X) (x_Y X)) (va_A (wJ cI cZ cJ a (x_J X) (x_S X) (x_Y X)) sz)) 1 6 (va_A (wJ cI cZ cJ a (x_J X) (x_S X) (x_Y X)) sz) := by
  refine vx_ofW (cc := cX2_columnOf) (maxL := 2) (ret := (some .int)) (by decide) rfl ?_
  intro p e s m args below meth c s₁ B hml hnt hv
  obtain ⟨rfl, hsz, hP, hK, hD0, hN, hE, hZ⟩ := hv
  have hx := B.exec
  have hb := B.bytes
  have hr := B.returns
  have hts := atoms_spec (ws := wsX2_columnOf) B.pre
  have hown : s.vm.findClass RX2 = some m.cls := findClass_of_methodNamed B.named
  have hlocks := B.notSynchronized
  subst hsz
  have hD0 : va_D (fun _ => True) [((a 0), .inr (2, [.ref (a 6), .ref (a 1), .int (j_pp (x_J X)), .int (j_po (x_J X)), .int (j_mc (x_J X)), .int (j_dc (x_J X)), .int (j_is (x_J X))])), ((a 1), .inr (0, [.ref (a 6), .ref (a 2), .ref (a 3), .ref (a 4), .ref (a 5), .int (s_fc (x_S X)), .int (s_fs (x_S X)), .int (s_sm (x_S X)), .int (s_sc (x_S X)), .int (s_sf (x_S X))])), ((a 2), .inl (cI, 800, .inl (s_fo (x_S X)))), ((a 3), .inl (cI, 800, .inl (s_or (x_S X)))), ((a 4), .inl (cI, 800, .inl (s_mo (x_S X)))), ((a 5), .inl (cI, 2048, .inl (s_sl (x_S X)))), ((a 6), .inr (1, [.ref (a 7), .ref (a 8), .ref (a 9), .ref (a 10), .int (nI (y_n (x_Y X))), .long (y_rp (x_Y X))])), ((a 7), .inl (cI, 9, .inl (y_sz (x_Y X)))), ((a 8), .inl (cZ, 9, .inl (y_ac (x_Y X)))), ((a 9), .inl (cI, 9, .inl (y_li (x_Y X)))), ((a 10), .inl (cJ, 9, .inr (.inl (y_sh (x_Y X)))))] := hD0
  have hD := hD0.self (sz := s.heap.size)
  unfold xx_Qi
  generalize hAe : va_A (wJ cI cZ cJ a (x_J X) (x_S X) (x_Y X)) s.heap.size = A at hD hZ ⊢
  have hA : ∀ q : Nat, s.heap.size ≤ q → A q := fun q h => by rw [← hAe]; exact Or.inr h
  have hS : va_S A s.heap s.heap [] := va_S.rf
  have hP : va_P G vwCl [((a 0), .inr (2, [.ref (a 6), .ref (a 1), .int (j_pp (x_J X)), .int (j_po (x_J X)), .int (j_mc (x_J X)), .int (j_dc (x_J X)), .int (j_is (x_J X))])), ((a 1), .inr (0, [.ref (a 6), .ref (a 2), .ref (a 3), .ref (a 4), .ref (a 5), .int (s_fc (x_S X)), .int (s_fs (x_S X)), .int (s_sm (x_S X)), .int (s_sc (x_S X)), .int (s_sf (x_S X))])), ((a 2), .inl (cI, 800, .inl (s_fo (x_S X)))), ((a 3), .inl (cI, 800, .inl (s_or (x_S X)))), ((a 4), .inl (cI, 800, .inl (s_mo (x_S X)))), ((a 5), .inl (cI, 2048, .inl (s_sl (x_S X)))), ((a 6), .inr (1, [.ref (a 7), .ref (a 8), .ref (a 9), .ref (a 10), .int (nI (y_n (x_Y X))), .long (y_rp (x_Y X))])), ((a 7), .inl (cI, 9, .inl (y_sz (x_Y X)))), ((a 8), .inl (cZ, 9, .inl (y_ac (x_Y X)))), ((a 9), .inl (cI, 9, .inl (y_li (x_Y X)))), ((a 10), .inl (cJ, 9, .inr (.inl (y_sh (x_Y X)))))] s.heap := hP
  have hl := lv_entry ([.ref (a 0), .int v_g]) (n := 2) (Nat.le_of_ble_eq_true rfl)
  rw [lg_entry_eq]
  generalize (lg_sl ([.ref (a 0), .int v_g]) ++ List.replicate (2 - (lg_sl ([.ref (a 0), .int v_g])).length) Slot.unset).toArray = ls at hl ⊢
  have hl : lv_has ls 2 [(0, .ref (a 0)), (1, .int v_g)] := hl
  refine lv_aload_n hx hb dX2_columnOf_0 rfl (lv_at hl 0 rfl) ?_
  refine va_get (D := G) (ci := 2) (v := .ref (a 6)) (C := RX2) (T := TX2) (N := 7) hx hb hts in_X2_columnOf_2 hown hK hP 0 rfl rfl 0 (by decide) (hts (.fieldLink RX2 10 "RampJam" "yard" "LRampJam$Yard;") (by decide +kernel)) (fun _ h9 => h9) rfl dX2_columnOf_1 ?_
  refine lv_iload_n hx hb dX2_columnOf_4 rfl (lv_at hl 1 rfl) ?_
  have hPc := hP.sub (ws' := [((a 6), .inr (1, [.ref (a 7), .ref (a 8), .ref (a 9), .ref (a 10), .int (nI (y_n (x_Y X))), .long (y_rp (x_Y X))])), ((a 7), .inl (cI, 9, .inl (y_sz (x_Y X)))), ((a 8), .inl (cZ, 9, .inl (y_ac (x_Y X)))), ((a 9), .inl (cI, 9, .inl (y_li (x_Y X)))), ((a 10), .inl (cJ, 9, .inr (.inl (y_sh (x_Y X)))))]) [6, 7, 8, 9, 10] rfl
  refine ro_i (va_runV (As := [.int v_g]) (rest := []) ⟨hx, hb, hml, hown, hts⟩ ((c_X1_has l G cI cZ cJ a _ (x_Y X) v_g)) (cwV 1 hts gX2_columnOf_X1_has rfl rfl rfl (by decide +kernel) ⟨Nat.le_of_ble_eq_true rfl, Nat.le_of_ble_eq_true rfl⟩) ⟨ro_blind, va_recv hK hPc (ci := 1) (q0 := 0) rfl rfl, ro_pre hPc hK hN⟩ rfl rfl hl.1 rfl (lv_room (Nat.le_of_ble_eq_true rfl)) dX2_columnOf_5 ⟨Nat.zero_le _, Nat.zero_le _⟩) hS hA hP (fun H locs hP hS => ?_)
  refine lv_if_ne (tgt := 21) hx hb dX2_columnOf_8 (by decide) (fun c_1 => ?_) (fun c_1 => ?_)
  · have c_1 := b1_t c_1
    refine lv_aload_n hx hb dX2_columnOf_21 rfl (lv_at hl 0 rfl) ?_
    refine va_get (D := G) (ci := 2) (v := .ref (a 6)) (C := RX2) (T := TX2) (N := 7) hx hb hts in_X2_columnOf_2 hown hK hP 0 rfl rfl 0 (by decide) (hts (.fieldLink RX2 10 "RampJam" "yard" "LRampJam$Yard;") (by decide +kernel)) (fun _ h9 => h9) rfl dX2_columnOf_22 ?_
    refine lv_iload_n hx hb dX2_columnOf_25 rfl (lv_at hl 1 rfl) ?_
    have hPc := hP.sub (ws' := [((a 6), .inr (1, [.ref (a 7), .ref (a 8), .ref (a 9), .ref (a 10), .int (nI (y_n (x_Y X))), .long (y_rp (x_Y X))])), ((a 7), .inl (cI, 9, .inl (y_sz (x_Y X)))), ((a 8), .inl (cZ, 9, .inl (y_ac (x_Y X)))), ((a 9), .inl (cI, 9, .inl (y_li (x_Y X)))), ((a 10), .inl (cJ, 9, .inr (.inl (y_sh (x_Y X)))))]) [6, 7, 8, 9, 10] rfl
    refine ro_i (va_runV (As := [.int v_g]) (rest := []) ⟨hx, hb, hml, hown, hts⟩ ((c_X1_standsAcross l G cI cZ cJ a _ (x_Y X) v_g)) (cwV 1 hts gX2_columnOf_X1_standsAcross rfl rfl rfl (by decide +kernel) ⟨Nat.le_of_ble_eq_true rfl, Nat.le_of_ble_eq_true rfl⟩) ⟨ro_blind, va_recv hK hPc (ci := 1) (q0 := 0) rfl rfl, ro_pre hPc hK hN⟩ rfl rfl hl.1 rfl (lv_room (Nat.le_of_ble_eq_true rfl)) dX2_columnOf_26 ⟨Nat.zero_le _, Nat.zero_le _⟩) hS hA hP (fun H locs hP hS => ?_)
    refine lv_if_eq (tgt := 43) hx hb dX2_columnOf_29 (by decide) (fun c_2 => ?_) (fun c_2 => ?_)
    · have c_2 := b1_f c_2
      refine lv_aload_n hx hb dX2_columnOf_43 rfl (lv_at hl 0 rfl) ?_
      refine va_get (D := G) (ci := 2) (v := .ref (a 6)) (C := RX2) (T := TX2) (N := 7) hx hb hts in_X2_columnOf_2 hown hK hP 0 rfl rfl 0 (by decide) (hts (.fieldLink RX2 10 "RampJam" "yard" "LRampJam$Yard;") (by decide +kernel)) (fun _ h9 => h9) rfl dX2_columnOf_44 ?_
      refine lv_iload_n hx hb dX2_columnOf_47 rfl (lv_at hl 1 rfl) ?_
      have hPc := hP.sub (ws' := [((a 6), .inr (1, [.ref (a 7), .ref (a 8), .ref (a 9), .ref (a 10), .int (nI (y_n (x_Y X))), .long (y_rp (x_Y X))])), ((a 7), .inl (cI, 9, .inl (y_sz (x_Y X)))), ((a 8), .inl (cZ, 9, .inl (y_ac (x_Y X)))), ((a 9), .inl (cI, 9, .inl (y_li (x_Y X)))), ((a 10), .inl (cJ, 9, .inr (.inl (y_sh (x_Y X)))))]) [6, 7, 8, 9, 10] rfl
      refine ro_i (va_runV (As := [.int v_g]) (rest := []) ⟨hx, hb, hml, hown, hts⟩ ((c_X1_lineOf l G cI cZ cJ a _ (x_Y X) v_g)) (cwV 1 hts gX2_columnOf_X1_lineOf rfl rfl rfl (by decide +kernel) ⟨Nat.le_of_ble_eq_true rfl, Nat.le_of_ble_eq_true rfl⟩) ⟨ro_blind, va_recv hK hPc (ci := 1) (q0 := 0) rfl rfl, ro_pre hPc hK hN⟩ rfl rfl hl.1 rfl (lv_room (Nat.le_of_ble_eq_true rfl)) dX2_columnOf_48 ⟨Nat.zero_le _, Nat.zero_le _⟩) hS hA hP (fun H locs hP hS => ?_)
      refine vx_ret ?_
      refine W.widen (k := 1) (n := 6) (Nat.zero_le _) (Nat.zero_le _) ?_
      have hP9 := hP
      have hD9 := hD
      exact W.iret (v := (y_line (x_Y X) v_g)) hx hb hr (fun t ht hW => ⟨⟨(y_line (x_Y X) v_g), X, rfl, ⟨by rw [has_th, if_pos c_1], by rw [j_col, if_neg c_2], rfl⟩, by rw [ht]; exact hP9, hD9⟩, hS.F ht⟩) hS.2.2 dX2_columnOf_51
    · have c_2 := b1_t c_2
      refine lv_aload_n hx hb dX2_columnOf_32 rfl (lv_at hl 0 rfl) ?_
      refine va_get (D := G) (ci := 2) (v := .int (j_po (x_J X))) (C := RX2) (T := TX2) (N := 7) hx hb hts in_X2_columnOf_2 hown hK hP 0 rfl rfl 3 (by decide) (hts (.fieldLink RX2 57 "RampJam" "position" "I") (by decide +kernel)) (fun _ h9 => h9) rfl dX2_columnOf_33 ?_
      refine lv_iload_n hx hb dX2_columnOf_36 rfl (lv_at hl 1 rfl) ?_
      refine ro_i (va_runS (As := [.int (j_po (x_J X)), .int v_g]) (rest := []) ⟨hx, hb, hml, hown, hts⟩ ((c_X2_placeIn l G cI cZ cJ a _ (j_po (x_J X)) v_g)) (va_cwS 2 hts gX2_columnOf_X2_placeIn rfl rfl rfl (by decide +kernel) ⟨Nat.le_of_ble_eq_true rfl, Nat.le_of_ble_eq_true rfl⟩) ⟨ro_blind, ro_pre va_P0 hK hN⟩ rfl rfl hl.1 rfl (lv_room (Nat.le_of_ble_eq_true rfl)) dX2_columnOf_37 ⟨Nat.zero_le _, Nat.zero_le _⟩) hS hA hP (fun H locs hP hS => ?_)
      refine lv_goto (tgt := 51) hx hb dX2_columnOf_40 (by decide) ?_
      refine vx_ret ?_
      refine W.widen (k := 1) (n := 6) (Nat.zero_le _) (Nat.zero_le _) ?_
      have hP9 := hP
      have hD9 := hD
      exact W.iret (v := (pl (j_po (x_J X)) v_g)) hx hb hr (fun t ht hW => ⟨⟨(pl (j_po (x_J X)) v_g), X, rfl, ⟨by rw [has_th, if_pos c_1], by rw [j_col, if_pos c_2], rfl⟩, by rw [ht]; exact hP9, hD9⟩, hS.F ht⟩) hS.2.2 dX2_columnOf_51
  · have c_1 := b1_f c_1
    exact vx_throwS (A := A) (names := ex_names) hx hb hst hown (by decide +kernel) ex_fit (hts (.classLink RX2 113 ex_I) (by decide +kernel)) (hts (.initialized ex_I) (by decide +kernel)) (ex_get hE (k := 8) rfl) (vx_hat (fun w h => hts w (ie_X2_columnOf_117 w h)) ex_bI (ex_words hE)) ex_gI hZ.1 hZ.2 hS (hl.1.trans hml.symm) dX2_columnOf_11 dX2_columnOf_14 dX2_columnOf_15 dX2_columnOf_17 dX2_columnOf_20 (fun x hx => absurd (hnt x hx) id) (by decide) (Nat.le_of_ble_eq_true rfl) (Nat.le_of_ble_eq_true rfl) (Nat.le_of_ble_eq_true rfl) hlocks (xx_x hP hS (⟨rfl, by rw [has_th, if_neg c_1]⟩)) hS.2.2 (Nat.le_of_ble_eq_true rfl) (Nat.le_of_ble_eq_true rfl)

theorem ie_X2_freeWay_117 : ∀ w ∈ (vx_atS RX2 117 ex_I ex_names).filter goodWord, w ∈ wsX2_freeWay := by decide +kernel
theorem in_X2_freeWay_2 : ∀ w ∈ wsX20, w ∈ wsX2_freeWay := by decide +kernel
set_option maxHeartbeats 4000000 in
set_option maxRecDepth 100000 in
/-- RampJam.freeWay -/
theorem c_X2_freeWay (l : Launch) (hst : l.stackTraces = false) (G : va_G) (cI cZ cJ : ClassId) (a : Nat → Nat) (sz : Nat) (sa : Nat → Nat) (X : XS) (v_g : Int32) (f_g : Int32) (hn : y_n (x_Y X) ≤ 9) : vx_Met l yX2_freeWay wsX2_freeWay ({ frames := 6, cells := 1, slots := 6, locals := 99 }) (xx_Pc G [(cI, .int), (cZ, .boolean), (cJ, .long)] (wJ cI cZ cJ a (x_J X) (x_S X) (x_Y X)) sz sa [.ref (a 0), .int v_g, .int f_g]) (xx_Qi (S := XS) (has_th X v_g = 0) (j_way X v_g f_g) X (fun u : XS => wJ cI cZ cJ a (x_J u) (x_S u) (x_Y u)) G (wJ cI cZ cJ a (x_J X) (x_S X) (x_Y X)) sz) (xx_X (fun E => (E = ex_I ∧ has_th X v_g = 1)) G (wJ cI cZ cJ a (x_J X) (x_S X) (x_Y X)) (va_A (wJ cI cZ cJ a (x_J X) (x_S X) (x_Y X)) sz)) 1 6 (va_A (wJ cI cZ cJ a (x_J X) (x_S X) (x_Y X)) sz) := by
  refine vx_ofW (cc := cX2_freeWay) (maxL := 3) (ret := (some .int)) (by decide) rfl ?_
  intro p e s m args below meth c s₁ B hml hnt hv
  obtain ⟨rfl, hsz, hP, hK, hD0, hN, hE, hZ⟩ := hv
  have hx := B.exec
  have hb := B.bytes
  have hr := B.returns
  have hts := atoms_spec (ws := wsX2_freeWay) B.pre
  have hown : s.vm.findClass RX2 = some m.cls := findClass_of_methodNamed B.named
  have hlocks := B.notSynchronized
  subst hsz
  have hD0 : va_D (fun _ => True) [((a 0), .inr (2, [.ref (a 6), .ref (a 1), .int (j_pp (x_J X)), .int (j_po (x_J X)), .int (j_mc (x_J X)), .int (j_dc (x_J X)), .int (j_is (x_J X))])), ((a 1), .inr (0, [.ref (a 6), .ref (a 2), .ref (a 3), .ref (a 4), .ref (a 5), .int (s_fc (x_S X)), .int (s_fs (x_S X)), .int (s_sm (x_S X)), .int (s_sc (x_S X)), .int (s_sf (x_S X))])), ((a 2), .inl (cI, 800, .inl (s_fo (x_S X)))), ((a 3), .inl (cI, 800, .inl (s_or (x_S X)))), ((a 4), .inl (cI, 800, .inl (s_mo (x_S X)))), ((a 5), .inl (cI, 2048, .inl (s_sl (x_S X)))), ((a 6), .inr (1, [.ref (a 7), .ref (a 8), .ref (a 9), .ref (a 10), .int (nI (y_n (x_Y X))), .long (y_rp (x_Y X))])), ((a 7), .inl (cI, 9, .inl (y_sz (x_Y X)))), ((a 8), .inl (cZ, 9, .inl (y_ac (x_Y X)))), ((a 9), .inl (cI, 9, .inl (y_li (x_Y X)))), ((a 10), .inl (cJ, 9, .inr (.inl (y_sh (x_Y X)))))] := hD0
  have hD := hD0.self (sz := s.heap.size)
  unfold xx_Qi
  generalize hAe : va_A (wJ cI cZ cJ a (x_J X) (x_S X) (x_Y X)) s.heap.size = A at hD hZ ⊢
  have hA : ∀ q : Nat, s.heap.size ≤ q → A q := fun q h => by rw [← hAe]; exact Or.inr h
  have hS : va_S A s.heap s.heap [] := va_S.rf
  have hP : va_P G vwCl [((a 0), .inr (2, [.ref (a 6), .ref (a 1), .int (j_pp (x_J X)), .int (j_po (x_J X)), .int (j_mc (x_J X)), .int (j_dc (x_J X)), .int (j_is (x_J X))])), ((a 1), .inr (0, [.ref (a 6), .ref (a 2), .ref (a 3), .ref (a 4), .ref (a 5), .int (s_fc (x_S X)), .int (s_fs (x_S X)), .int (s_sm (x_S X)), .int (s_sc (x_S X)), .int (s_sf (x_S X))])), ((a 2), .inl (cI, 800, .inl (s_fo (x_S X)))), ((a 3), .inl (cI, 800, .inl (s_or (x_S X)))), ((a 4), .inl (cI, 800, .inl (s_mo (x_S X)))), ((a 5), .inl (cI, 2048, .inl (s_sl (x_S X)))), ((a 6), .inr (1, [.ref (a 7), .ref (a 8), .ref (a 9), .ref (a 10), .int (nI (y_n (x_Y X))), .long (y_rp (x_Y X))])), ((a 7), .inl (cI, 9, .inl (y_sz (x_Y X)))), ((a 8), .inl (cZ, 9, .inl (y_ac (x_Y X)))), ((a 9), .inl (cI, 9, .inl (y_li (x_Y X)))), ((a 10), .inl (cJ, 9, .inr (.inl (y_sh (x_Y X)))))] s.heap := hP
  have hl := lv_entry ([.ref (a 0), .int v_g, .int f_g]) (n := 3) (Nat.le_of_ble_eq_true rfl)
  rw [lg_entry_eq]
  generalize (lg_sl ([.ref (a 0), .int v_g, .int f_g]) ++ List.replicate (3 - (lg_sl ([.ref (a 0), .int v_g, .int f_g])).length) Slot.unset).toArray = ls at hl ⊢
  have hl : lv_has ls 3 [(0, .ref (a 0)), (1, .int v_g), (2, .int f_g)] := hl
  refine lv_aload_n hx hb dX2_freeWay_0 rfl (lv_at hl 0 rfl) ?_
  refine va_get (D := G) (ci := 2) (v := .ref (a 6)) (C := RX2) (T := TX2) (N := 7) hx hb hts in_X2_freeWay_2 hown hK hP 0 rfl rfl 0 (by decide) (hts (.fieldLink RX2 10 "RampJam" "yard" "LRampJam$Yard;") (by decide +kernel)) (fun _ h9 => h9) rfl dX2_freeWay_1 ?_
  refine lv_iload_n hx hb dX2_freeWay_4 rfl (lv_at hl 1 rfl) ?_
  have hPc := hP.sub (ws' := [((a 6), .inr (1, [.ref (a 7), .ref (a 8), .ref (a 9), .ref (a 10), .int (nI (y_n (x_Y X))), .long (y_rp (x_Y X))])), ((a 7), .inl (cI, 9, .inl (y_sz (x_Y X)))), ((a 8), .inl (cZ, 9, .inl (y_ac (x_Y X)))), ((a 9), .inl (cI, 9, .inl (y_li (x_Y X)))), ((a 10), .inl (cJ, 9, .inr (.inl (y_sh (x_Y X)))))]) [6, 7, 8, 9, 10] rfl
  refine ro_i (va_runV (As := [.int v_g]) (rest := []) ⟨hx, hb, hml, hown, hts⟩ ((c_X1_has l G cI cZ cJ a _ (x_Y X) v_g)) (cwV 1 hts gX2_freeWay_X1_has rfl rfl rfl (by decide +kernel) ⟨Nat.le_of_ble_eq_true rfl, Nat.le_of_ble_eq_true rfl⟩) ⟨ro_blind, va_recv hK hPc (ci := 1) (q0 := 0) rfl rfl, ro_pre hPc hK hN⟩ rfl rfl hl.1 rfl (lv_room (Nat.le_of_ble_eq_true rfl)) dX2_freeWay_5 ⟨Nat.zero_le _, Nat.zero_le _⟩) hS hA hP (fun H locs hP hS => ?_)
  refine lv_if_ne (tgt := 21) hx hb dX2_freeWay_8 (by decide) (fun c_1 => ?_) (fun c_1 => ?_)
  · have c_1 := b1_t c_1
    refine lv_aload_n hx hb dX2_freeWay_21 rfl (lv_at hl 0 rfl) ?_
    refine lv_iload_n hx hb dX2_freeWay_22 rfl (lv_at hl 1 rfl) ?_
    refine lv_iload_n hx hb dX2_freeWay_23 rfl (lv_at hl 2 rfl) ?_
    refine ro_i (va_runV (As := [.int v_g, .int f_g]) (rest := []) ⟨hx, hb, hml, hown, hts⟩ ((c_X2_wayNow l G cI cZ cJ a _ X v_g f_g hn)) (cwV 2 hts gX2_freeWay_X2_wayNow rfl rfl rfl (by decide +kernel) ⟨Nat.le_of_ble_eq_true rfl, Nat.le_of_ble_eq_true rfl⟩) ⟨ro_blind, va_recv hK hP (ci := 2) (q0 := 0) rfl rfl, ro_pre hP hK hN⟩ rfl rfl hl.1 rfl (lv_room (Nat.le_of_ble_eq_true rfl)) dX2_freeWay_24 ⟨Nat.zero_le _, Nat.zero_le _⟩) hS hA hP (fun H locs hP hS => ?_)
    refine vx_ret ?_
    refine W.widen (k := 1) (n := 6) (Nat.zero_le _) (Nat.zero_le _) ?_
    have hP9 := hP
    have hD9 := hD
    exact W.iret (v := (j_way X v_g f_g)) hx hb hr (fun t ht hW => ⟨⟨(j_way X v_g f_g), X, rfl, ⟨by rw [has_th, if_pos c_1], rfl, rfl⟩, by rw [ht]; exact hP9, hD9⟩, hS.F ht⟩) hS.2.2 dX2_freeWay_27
  · have c_1 := b1_f c_1
    exact vx_throwS (A := A) (names := ex_names) hx hb hst hown (by decide +kernel) ex_fit (hts (.classLink RX2 113 ex_I) (by decide +kernel)) (hts (.initialized ex_I) (by decide +kernel)) (ex_get hE (k := 8) rfl) (vx_hat (fun w h => hts w (ie_X2_freeWay_117 w h)) ex_bI (ex_words hE)) ex_gI hZ.1 hZ.2 hS (hl.1.trans hml.symm) dX2_freeWay_11 dX2_freeWay_14 dX2_freeWay_15 dX2_freeWay_17 dX2_freeWay_20 (fun x hx => absurd (hnt x hx) id) (by decide) (Nat.le_of_ble_eq_true rfl) (Nat.le_of_ble_eq_true rfl) (Nat.le_of_ble_eq_true rfl) hlocks (xx_x hP hS (⟨rfl, by rw [has_th, if_neg c_1]⟩)) hS.2.2 (Nat.le_of_ble_eq_true rfl) (Nat.le_of_ble_eq_true rfl)

theorem ie_X2_at_33 : ∀ w ∈ (vx_atS RX2 33 ex_A ex_names).filter goodWord, w ∈ wsX2_at := by decide +kernel
theorem in_X2_at_2 : ∀ w ∈ wsX20, w ∈ wsX2_at := by decide +kernel
set_option maxHeartbeats 4000000 in
set_option maxRecDepth 100000 in
/-- RampJam.at -/
theorem c_X2_at (l : Launch) (hst : l.stackTraces = false) (G : va_G) (cI cZ cJ : ClassId) (a : Nat → Nat) (sz : Nat) (sa : Nat → Nat) (X : XS) (r_g : Int32) (q_g : Int32) (hn : y_n (x_Y X) ≤ 9) : vx_Met l yX2_at wsX2_at ({ frames := 6, cells := 1, slots := 6, locals := 90 }) (xx_Pc G [(cI, .int), (cZ, .boolean), (cJ, .long)] (wJ cI cZ cJ a (x_J X) (x_S X) (x_Y X)) sz sa [.ref (a 0), .int r_g, .int q_g]) (xx_Qi (S := XS) (at_th r_g q_g = 0) (y_on (x_Y X) (j_po (x_J X)) (co r_g q_g) (y_n (x_Y X)) 0) X (fun u : XS => wJ cI cZ cJ a (x_J u) (x_S u) (x_Y u)) G (wJ cI cZ cJ a (x_J X) (x_S X) (x_Y X)) sz) (xx_X (fun E => (E = ex_A ∧ at_th r_g q_g = 1)) G (wJ cI cZ cJ a (x_J X) (x_S X) (x_Y X)) (va_A (wJ cI cZ cJ a (x_J X) (x_S X) (x_Y X)) sz)) 1 6 (va_A (wJ cI cZ cJ a (x_J X) (x_S X) (x_Y X)) sz) := by
  refine vx_ofW (cc := cX2_at) (maxL := 3) (ret := (some .int)) (by decide) rfl ?_
  intro p e s m args below meth c s₁ B hml hnt hv
  obtain ⟨rfl, hsz, hP, hK, hD0, hN, hE, hZ⟩ := hv
  have hx := B.exec
  have hb := B.bytes
  have hr := B.returns
  have hts := atoms_spec (ws := wsX2_at) B.pre
  have hown : s.vm.findClass RX2 = some m.cls := findClass_of_methodNamed B.named
  have hlocks := B.notSynchronized
  subst hsz
  have hD0 : va_D (fun _ => True) [((a 0), .inr (2, [.ref (a 6), .ref (a 1), .int (j_pp (x_J X)), .int (j_po (x_J X)), .int (j_mc (x_J X)), .int (j_dc (x_J X)), .int (j_is (x_J X))])), ((a 1), .inr (0, [.ref (a 6), .ref (a 2), .ref (a 3), .ref (a 4), .ref (a 5), .int (s_fc (x_S X)), .int (s_fs (x_S X)), .int (s_sm (x_S X)), .int (s_sc (x_S X)), .int (s_sf (x_S X))])), ((a 2), .inl (cI, 800, .inl (s_fo (x_S X)))), ((a 3), .inl (cI, 800, .inl (s_or (x_S X)))), ((a 4), .inl (cI, 800, .inl (s_mo (x_S X)))), ((a 5), .inl (cI, 2048, .inl (s_sl (x_S X)))), ((a 6), .inr (1, [.ref (a 7), .ref (a 8), .ref (a 9), .ref (a 10), .int (nI (y_n (x_Y X))), .long (y_rp (x_Y X))])), ((a 7), .inl (cI, 9, .inl (y_sz (x_Y X)))), ((a 8), .inl (cZ, 9, .inl (y_ac (x_Y X)))), ((a 9), .inl (cI, 9, .inl (y_li (x_Y X)))), ((a 10), .inl (cJ, 9, .inr (.inl (y_sh (x_Y X)))))] := hD0
  have hD := hD0.self (sz := s.heap.size)
  unfold xx_Qi
  generalize hAe : va_A (wJ cI cZ cJ a (x_J X) (x_S X) (x_Y X)) s.heap.size = A at hD hZ ⊢
  have hA : ∀ q : Nat, s.heap.size ≤ q → A q := fun q h => by rw [← hAe]; exact Or.inr h
  have hS : va_S A s.heap s.heap [] := va_S.rf
  have hP : va_P G vwCl [((a 0), .inr (2, [.ref (a 6), .ref (a 1), .int (j_pp (x_J X)), .int (j_po (x_J X)), .int (j_mc (x_J X)), .int (j_dc (x_J X)), .int (j_is (x_J X))])), ((a 1), .inr (0, [.ref (a 6), .ref (a 2), .ref (a 3), .ref (a 4), .ref (a 5), .int (s_fc (x_S X)), .int (s_fs (x_S X)), .int (s_sm (x_S X)), .int (s_sc (x_S X)), .int (s_sf (x_S X))])), ((a 2), .inl (cI, 800, .inl (s_fo (x_S X)))), ((a 3), .inl (cI, 800, .inl (s_or (x_S X)))), ((a 4), .inl (cI, 800, .inl (s_mo (x_S X)))), ((a 5), .inl (cI, 2048, .inl (s_sl (x_S X)))), ((a 6), .inr (1, [.ref (a 7), .ref (a 8), .ref (a 9), .ref (a 10), .int (nI (y_n (x_Y X))), .long (y_rp (x_Y X))])), ((a 7), .inl (cI, 9, .inl (y_sz (x_Y X)))), ((a 8), .inl (cZ, 9, .inl (y_ac (x_Y X)))), ((a 9), .inl (cI, 9, .inl (y_li (x_Y X)))), ((a 10), .inl (cJ, 9, .inr (.inl (y_sh (x_Y X)))))] s.heap := hP
  have hl := lv_entry ([.ref (a 0), .int r_g, .int q_g]) (n := 3) (Nat.le_of_ble_eq_true rfl)
  rw [lg_entry_eq]
  generalize (lg_sl ([.ref (a 0), .int r_g, .int q_g]) ++ List.replicate (3 - (lg_sl ([.ref (a 0), .int r_g, .int q_g])).length) Slot.unset).toArray = ls at hl ⊢
  have hl : lv_has ls 3 [(0, .ref (a 0)), (1, .int r_g), (2, .int q_g)] := hl
  refine lv_iload_n hx hb dX2_at_0 rfl (lv_at hl 1 rfl) ?_
  refine lv_iload_n hx hb dX2_at_1 rfl (lv_at hl 2 rfl) ?_
  refine ro_i (va_runS (As := [.int r_g, .int q_g]) (rest := []) ⟨hx, hb, hml, hown, hts⟩ ((c_X2_isInYard l G cI cZ cJ a _ r_g q_g)) (va_cwS 2 hts gX2_at_X2_isInYard rfl rfl rfl (by decide +kernel) ⟨Nat.le_of_ble_eq_true rfl, Nat.le_of_ble_eq_true rfl⟩) ⟨ro_blind, ro_pre va_P0 hK hN⟩ rfl rfl hl.1 rfl (lv_room (Nat.le_of_ble_eq_true rfl)) dX2_at_2 ⟨Nat.zero_le _, Nat.zero_le _⟩) hS hA hP (fun H locs hP hS => ?_)
  refine lv_if_ne (tgt := 18) hx hb dX2_at_5 (by decide) (fun c_1 => ?_) (fun c_1 => ?_)
  · have c_1 := b1_t c_1
    refine lv_aload_n hx hb dX2_at_18 rfl (lv_at hl 0 rfl) ?_
    refine va_get (D := G) (ci := 2) (v := .ref (a 6)) (C := RX2) (T := TX2) (N := 7) hx hb hts in_X2_at_2 hown hK hP 0 rfl rfl 0 (by decide) (hts (.fieldLink RX2 10 "RampJam" "yard" "LRampJam$Yard;") (by decide +kernel)) (fun _ h9 => h9) rfl dX2_at_19 ?_
    refine lv_aload_n hx hb dX2_at_22 rfl (lv_at hl 0 rfl) ?_
    refine va_get (D := G) (ci := 2) (v := .int (j_po (x_J X))) (C := RX2) (T := TX2) (N := 7) hx hb hts in_X2_at_2 hown hK hP 0 rfl rfl 3 (by decide) (hts (.fieldLink RX2 57 "RampJam" "position" "I") (by decide +kernel)) (fun _ h9 => h9) rfl dX2_at_23 ?_
    refine lv_iload_n hx hb dX2_at_26 rfl (lv_at hl 1 rfl) ?_
    refine lv_iload_n hx hb dX2_at_27 rfl (lv_at hl 2 rfl) ?_
    refine ro_l (va_runS (As := [.int r_g, .int q_g]) (rest := [.int (j_po (x_J X)), .ref (a 6)]) ⟨hx, hb, hml, hown, hts⟩ ((c_X2_cellOf l G cI cZ cJ a _ r_g q_g)) (va_cwS 2 hts gX2_at_X2_cellOf rfl rfl rfl (by decide +kernel) ⟨Nat.le_of_ble_eq_true rfl, Nat.le_of_ble_eq_true rfl⟩) ⟨ro_blind, ro_pre va_P0 hK hN⟩ rfl rfl hl.1 rfl (lv_room (Nat.le_of_ble_eq_true rfl)) dX2_at_28 ⟨Nat.zero_le _, Nat.zero_le _⟩) hS hA hP (fun H locs hP hS => ?_)
    have hPc := hP.sub (ws' := [((a 6), .inr (1, [.ref (a 7), .ref (a 8), .ref (a 9), .ref (a 10), .int (nI (y_n (x_Y X))), .long (y_rp (x_Y X))])), ((a 7), .inl (cI, 9, .inl (y_sz (x_Y X)))), ((a 8), .inl (cZ, 9, .inl (y_ac (x_Y X)))), ((a 9), .inl (cI, 9, .inl (y_li (x_Y X)))), ((a 10), .inl (cJ, 9, .inr (.inl (y_sh (x_Y X)))))]) [6, 7, 8, 9, 10] rfl
    refine ro_i (va_runV (As := [.int (j_po (x_J X)), .long (co r_g q_g)]) (rest := []) ⟨hx, hb, hml, hown, hts⟩ ((c_X1_vehicleOn l G cI cZ cJ a _ (x_Y X) (j_po (x_J X)) (co r_g q_g) hn)) (cwV 2 hts gX2_at_X1_vehicleOn rfl rfl rfl (by decide +kernel) ⟨Nat.le_of_ble_eq_true rfl, Nat.le_of_ble_eq_true rfl⟩) ⟨ro_blind, va_recv hK hPc (ci := 1) (q0 := 0) rfl rfl, ro_pre hPc hK hN⟩ rfl rfl hl.1 rfl (lv_room (Nat.le_of_ble_eq_true rfl)) dX2_at_31 ⟨Nat.zero_le _, Nat.zero_le _⟩) hS hA hP (fun H locs hP hS => ?_)
    refine vx_ret ?_
    refine W.widen (k := 1) (n := 6) (Nat.zero_le _) (Nat.zero_le _) ?_
    have hP9 := hP
    have hD9 := hD
    exact W.iret (v := (y_on (x_Y X) (j_po (x_J X)) (co r_g q_g) (y_n (x_Y X)) 0)) hx hb hr (fun t ht hW => ⟨⟨(y_on (x_Y X) (j_po (x_J X)) (co r_g q_g) (y_n (x_Y X)) 0), X, rfl, ⟨by rw [at_th, if_pos c_1], rfl, rfl⟩, by rw [ht]; exact hP9, hD9⟩, hS.F ht⟩) hS.2.2 dX2_at_34
  · have c_1 := b1_f c_1
    exact vx_throwS (A := A) (names := ex_names) hx hb hst hown (by decide +kernel) ex_fit (hts (.classLink RX2 29 ex_A) (by decide +kernel)) (hts (.initialized ex_A) (by decide +kernel)) (ex_get hE (k := 5) rfl) (vx_hat (fun w h => hts w (ie_X2_at_33 w h)) ex_bA (ex_words hE)) ex_gA hZ.1 hZ.2 hS (hl.1.trans hml.symm) dX2_at_8 dX2_at_11 dX2_at_12 dX2_at_14 dX2_at_17 (fun x hx => absurd (hnt x hx) id) (by decide) (Nat.le_of_ble_eq_true rfl) (Nat.le_of_ble_eq_true rfl) (Nat.le_of_ble_eq_true rfl) hlocks (xx_x hP hS (⟨rfl, by rw [at_th, if_neg c_1]⟩)) hS.2.2 (Nat.le_of_ble_eq_true rfl) (Nat.le_of_ble_eq_true rfl)

theorem ie_X2_canReach_33 : ∀ w ∈ (vx_atS RX2 33 ex_A ex_names).filter goodWord, w ∈ wsX2_canReach := by decide +kernel
theorem ie_X2_canReach_117 : ∀ w ∈ (vx_atS RX2 117 ex_I ex_names).filter goodWord, w ∈ wsX2_canReach := by decide +kernel
theorem in_X2_canReach_2 : ∀ w ∈ wsX20, w ∈ wsX2_canReach := by decide +kernel
set_option maxHeartbeats 4000000 in
set_option maxRecDepth 100000 in
/-- RampJam.canReach -/
theorem c_X2_canReach (l : Launch) (hst : l.stackTraces = false) (G : va_G) (cI cZ cJ : ClassId) (a : Nat → Nat) (sz : Nat) (sa : Nat → Nat) (X : XS) (v_g : Int32) (p_g : Int32) (hn : y_n (x_Y X) ≤ 9) : vx_Met l yX2_canReach wsX2_canReach ({ frames := 6, cells := 1, slots := 6, locals := 144 }) (xx_Pc G [(cI, .int), (cZ, .boolean), (cJ, .long)] (wJ cI cZ cJ a (x_J X) (x_S X) (x_Y X)) sz sa [.ref (a 0), .int v_g, .int p_g]) (xx_Qi (S := XS) (reach_th X v_g p_g = 0) (s_fat (x_S (x_srch X)) v_g p_g 800 0) (x_srch X) (fun u : XS => wJ cI cZ cJ a (x_J u) (x_S u) (x_Y u)) G (wJ cI cZ cJ a (x_J X) (x_S X) (x_Y X)) sz) (xx_X (fun E => (E = ex_I ∧ reach_th X v_g p_g = 1) ∨ (E = ex_A ∧ reach_th X v_g p_g = 2)) G (wJ cI cZ cJ a (x_J X) (x_S X) (x_Y X)) (va_A (wJ cI cZ cJ a (x_J X) (x_S X) (x_Y X)) sz)) 1 6 (va_A (wJ cI cZ cJ a (x_J X) (x_S X) (x_Y X)) sz) := by
  refine vx_ofW (cc := cX2_canReach) (maxL := 3) (ret := (some .boolean)) (by decide) rfl ?_
  intro p e s m args below meth c s₁ B hml hnt hv
  obtain ⟨rfl, hsz, hP, hK, hD0, hN, hE, hZ⟩ := hv
  have hx := B.exec
  have hb := B.bytes
  have hr := B.returns
  have hts := atoms_spec (ws := wsX2_canReach) B.pre
  have hown : s.vm.findClass RX2 = some m.cls := findClass_of_methodNamed B.named
  have hlocks := B.notSynchronized
  subst hsz
  have hD0 : va_D (fun _ => True) [((a 0), .inr (2, [.ref (a 6), .ref (a 1), .int (j_pp (x_J X)), .int (j_po (x_J X)), .int (j_mc (x_J X)), .int (j_dc (x_J X)), .int (j_is (x_J X))])), ((a 1), .inr (0, [.ref (a 6), .ref (a 2), .ref (a 3), .ref (a 4), .ref (a 5), .int (s_fc (x_S X)), .int (s_fs (x_S X)), .int (s_sm (x_S X)), .int (s_sc (x_S X)), .int (s_sf (x_S X))])), ((a 2), .inl (cI, 800, .inl (s_fo (x_S X)))), ((a 3), .inl (cI, 800, .inl (s_or (x_S X)))), ((a 4), .inl (cI, 800, .inl (s_mo (x_S X)))), ((a 5), .inl (cI, 2048, .inl (s_sl (x_S X)))), ((a 6), .inr (1, [.ref (a 7), .ref (a 8), .ref (a 9), .ref (a 10), .int (nI (y_n (x_Y X))), .long (y_rp (x_Y X))])), ((a 7), .inl (cI, 9, .inl (y_sz (x_Y X)))), ((a 8), .inl (cZ, 9, .inl (y_ac (x_Y X)))), ((a 9), .inl (cI, 9, .inl (y_li (x_Y X)))), ((a 10), .inl (cJ, 9, .inr (.inl (y_sh (x_Y X)))))] := hD0
  have hD := hD0.self (sz := s.heap.size)
  unfold xx_Qi
  generalize hAe : va_A (wJ cI cZ cJ a (x_J X) (x_S X) (x_Y X)) s.heap.size = A at hD hZ ⊢
  have hA : ∀ q : Nat, s.heap.size ≤ q → A q := fun q h => by rw [← hAe]; exact Or.inr h
  have hS : va_S A s.heap s.heap [] := va_S.rf
  have hP : va_P G vwCl [((a 0), .inr (2, [.ref (a 6), .ref (a 1), .int (j_pp (x_J X)), .int (j_po (x_J X)), .int (j_mc (x_J X)), .int (j_dc (x_J X)), .int (j_is (x_J X))])), ((a 1), .inr (0, [.ref (a 6), .ref (a 2), .ref (a 3), .ref (a 4), .ref (a 5), .int (s_fc (x_S X)), .int (s_fs (x_S X)), .int (s_sm (x_S X)), .int (s_sc (x_S X)), .int (s_sf (x_S X))])), ((a 2), .inl (cI, 800, .inl (s_fo (x_S X)))), ((a 3), .inl (cI, 800, .inl (s_or (x_S X)))), ((a 4), .inl (cI, 800, .inl (s_mo (x_S X)))), ((a 5), .inl (cI, 2048, .inl (s_sl (x_S X)))), ((a 6), .inr (1, [.ref (a 7), .ref (a 8), .ref (a 9), .ref (a 10), .int (nI (y_n (x_Y X))), .long (y_rp (x_Y X))])), ((a 7), .inl (cI, 9, .inl (y_sz (x_Y X)))), ((a 8), .inl (cZ, 9, .inl (y_ac (x_Y X)))), ((a 9), .inl (cI, 9, .inl (y_li (x_Y X)))), ((a 10), .inl (cJ, 9, .inr (.inl (y_sh (x_Y X)))))] s.heap := hP
  have hl := lv_entry ([.ref (a 0), .int v_g, .int p_g]) (n := 3) (Nat.le_of_ble_eq_true rfl)
  rw [lg_entry_eq]
  generalize (lg_sl ([.ref (a 0), .int v_g, .int p_g]) ++ List.replicate (3 - (lg_sl ([.ref (a 0), .int v_g, .int p_g])).length) Slot.unset).toArray = ls at hl ⊢
  have hl : lv_has ls 3 [(0, .ref (a 0)), (1, .int v_g), (2, .int p_g)] := hl
  refine lv_aload_n hx hb dX2_canReach_0 rfl (lv_at hl 0 rfl) ?_
  refine va_get (D := G) (ci := 2) (v := .ref (a 6)) (C := RX2) (T := TX2) (N := 7) hx hb hts in_X2_canReach_2 hown hK hP 0 rfl rfl 0 (by decide) (hts (.fieldLink RX2 10 "RampJam" "yard" "LRampJam$Yard;") (by decide +kernel)) (fun _ h9 => h9) rfl dX2_canReach_1 ?_
  refine lv_iload_n hx hb dX2_canReach_4 rfl (lv_at hl 1 rfl) ?_
  have hPc := hP.sub (ws' := [((a 6), .inr (1, [.ref (a 7), .ref (a 8), .ref (a 9), .ref (a 10), .int (nI (y_n (x_Y X))), .long (y_rp (x_Y X))])), ((a 7), .inl (cI, 9, .inl (y_sz (x_Y X)))), ((a 8), .inl (cZ, 9, .inl (y_ac (x_Y X)))), ((a 9), .inl (cI, 9, .inl (y_li (x_Y X)))), ((a 10), .inl (cJ, 9, .inr (.inl (y_sh (x_Y X)))))]) [6, 7, 8, 9, 10] rfl
  refine ro_i (va_runV (As := [.int v_g]) (rest := []) ⟨hx, hb, hml, hown, hts⟩ ((c_X1_has l G cI cZ cJ a _ (x_Y X) v_g)) (cwV 1 hts gX2_canReach_X1_has rfl rfl rfl (by decide +kernel) ⟨Nat.le_of_ble_eq_true rfl, Nat.le_of_ble_eq_true rfl⟩) ⟨ro_blind, va_recv hK hPc (ci := 1) (q0 := 0) rfl rfl, ro_pre hPc hK hN⟩ rfl rfl hl.1 rfl (lv_room (Nat.le_of_ble_eq_true rfl)) dX2_canReach_5 ⟨Nat.zero_le _, Nat.zero_le _⟩) hS hA hP (fun H locs hP hS => ?_)
  refine lv_if_ne (tgt := 21) hx hb dX2_canReach_8 (by decide) (fun c_1 => ?_) (fun c_1 => ?_)
  · have c_1 := b1_t c_1
    refine lv_iload_n hx hb dX2_canReach_21 rfl (lv_at hl 2 rfl) ?_
    refine lv_if_lt (tgt := 31) hx hb dX2_canReach_22 (by decide) (fun c_2 => ?_) (fun c_2 => ?_)
    · exact vx_throwS (A := A) (names := ex_names) hx hb hst hown (by decide +kernel) ex_fit (hts (.classLink RX2 29 ex_A) (by decide +kernel)) (hts (.initialized ex_A) (by decide +kernel)) (ex_get hE (k := 11) rfl) (vx_hat (fun w h => hts w (ie_X2_canReach_33 w h)) ex_bA (ex_words hE)) ex_gA hZ.1 hZ.2 hS (hl.1.trans hml.symm) dX2_canReach_31 dX2_canReach_34 dX2_canReach_35 dX2_canReach_37 dX2_canReach_40 (fun x hx => absurd (hnt x hx) id) (by decide) (Nat.le_of_ble_eq_true rfl) (Nat.le_of_ble_eq_true rfl) (Nat.le_of_ble_eq_true rfl) hlocks (xx_x hP hS (Or.inr ⟨rfl, by rw [reach_th, if_neg (not_not_intro c_1), if_pos (by first | exact Or.inl (by assumption) | exact Or.inr (by assumption))]⟩)) hS.2.2 (Nat.le_of_ble_eq_true rfl) (Nat.le_of_ble_eq_true rfl)
    · refine lv_iload_n hx hb dX2_canReach_25 rfl (lv_at hl 2 rfl) ?_
      refine lv_bipush (v := 6) hx hb dX2_canReach_26 (by decide) ?_
      refine lv_icmp_lt (tgt := 41) hx hb dX2_canReach_28 (by decide) (fun c_3 => ?_) (fun c_3 => ?_)
      · refine lv_aload_n hx hb dX2_canReach_41 rfl (lv_at hl 0 rfl) ?_
        refine rw_v (wr := []) (ws' := [((a 0), .inr (2, [.ref (a 6), .ref (a 1), .int (j_pp (x_J (x_srch X))), .int (j_po (x_J (x_srch X))), .int (j_mc (x_J (x_srch X))), .int (j_dc (x_J (x_srch X))), .int (j_is (x_J (x_srch X)))])), ((a 1), .inr (0, [.ref (a 6), .ref (a 2), .ref (a 3), .ref (a 4), .ref (a 5), .int (s_fc (x_S (x_srch X))), .int (s_fs (x_S (x_srch X))), .int (s_sm (x_S (x_srch X))), .int (s_sc (x_S (x_srch X))), .int (s_sf (x_S (x_srch X)))])), ((a 2), .inl (cI, 800, .inl (s_fo (x_S (x_srch X))))), ((a 3), .inl (cI, 800, .inl (s_or (x_S (x_srch X))))), ((a 4), .inl (cI, 800, .inl (s_mo (x_S (x_srch X))))), ((a 5), .inl (cI, 2048, .inl (s_sl (x_S (x_srch X))))), ((a 6), .inr (1, [.ref (a 7), .ref (a 8), .ref (a 9), .ref (a 10), .int (nI (y_n (x_Y (x_srch X)))), .long (y_rp (x_Y (x_srch X)))])), ((a 7), .inl (cI, 9, .inl (y_sz (x_Y (x_srch X))))), ((a 8), .inl (cZ, 9, .inl (y_ac (x_Y (x_srch X))))), ((a 9), .inl (cI, 9, .inl (y_li (x_Y (x_srch X))))), ((a 10), .inl (cJ, 9, .inr (.inl (y_sh (x_Y (x_srch X))))))]) (va_runV (As := []) (rest := []) ⟨hx, hb, hml, hown, hts⟩ ((c_X2_searchFromNow l G cI cZ cJ a _ X hn)) (cwV 0 hts gX2_canReach_X2_searchFromNow rfl rfl rfl (by decide +kernel) ⟨Nat.le_of_ble_eq_true rfl, Nat.le_of_ble_eq_true rfl⟩) ⟨rw_blind, va_recv hK hP (ci := 2) (q0 := 0) rfl rfl, rw_pre hP hD hK hN⟩ rfl rfl hl.1 rfl (lv_room (Nat.le_of_ble_eq_true rfl)) dX2_canReach_42 ⟨Nat.zero_le _, Nat.zero_le _⟩) hS hA hP hD [0, 1, 2, 3, 4, 5, 6, 7, 8, 9, 10] [] [0, 1, 2, 3, 4, 5, 6, 7, 8, 9, 10] rfl rfl (by decide) (by decide) rfl (by decide) (fun H locs hP hD hS => ?_)
        refine lv_aload_n hx hb dX2_canReach_45 rfl (lv_at hl 0 rfl) ?_
        refine va_get (D := G) (ci := 2) (v := .ref (a 1)) (C := RX2) (T := TX2) (N := 7) hx hb hts in_X2_canReach_2 hown hK hP 0 rfl rfl 1 (by decide) (hts (.fieldLink RX2 21 "RampJam" "search" "LRampJam$Search;") (by decide +kernel)) (fun _ h9 => h9) rfl dX2_canReach_46 ?_
        refine lv_iload_n hx hb dX2_canReach_49 rfl (lv_at hl 1 rfl) ?_
        refine lv_iload_n hx hb dX2_canReach_50 rfl (lv_at hl 2 rfl) ?_
        have hPc := hP.sub (ws' := [((a 1), .inr (0, [.ref (a 6), .ref (a 2), .ref (a 3), .ref (a 4), .ref (a 5), .int (s_fc (x_S (x_srch X))), .int (s_fs (x_S (x_srch X))), .int (s_sm (x_S (x_srch X))), .int (s_sc (x_S (x_srch X))), .int (s_sf (x_S (x_srch X)))])), ((a 2), .inl (cI, 800, .inl (s_fo (x_S (x_srch X))))), ((a 3), .inl (cI, 800, .inl (s_or (x_S (x_srch X))))), ((a 4), .inl (cI, 800, .inl (s_mo (x_S (x_srch X))))), ((a 5), .inl (cI, 2048, .inl (s_sl (x_S (x_srch X))))), ((a 6), .inr (1, [.ref (a 7), .ref (a 8), .ref (a 9), .ref (a 10), .int (nI (y_n (x_Y (x_srch X)))), .long (y_rp (x_Y (x_srch X)))])), ((a 7), .inl (cI, 9, .inl (y_sz (x_Y (x_srch X))))), ((a 8), .inl (cZ, 9, .inl (y_ac (x_Y (x_srch X))))), ((a 9), .inl (cI, 9, .inl (y_li (x_Y (x_srch X))))), ((a 10), .inl (cJ, 9, .inr (.inl (y_sh (x_Y (x_srch X))))))]) [1, 2, 3, 4, 5, 6, 7, 8, 9, 10] rfl
        refine ro_i (va_runV (As := [.int v_g, .int p_g]) (rest := []) ⟨hx, hb, hml, hown, hts⟩ ((c_X0_findsAt l G cI cZ cJ a _ (x_S (x_srch X)) (x_Y (x_srch X)) v_g p_g)) (cwV 2 hts gX2_canReach_X0_findsAt rfl rfl rfl (by decide +kernel) ⟨Nat.le_of_ble_eq_true rfl, Nat.le_of_ble_eq_true rfl⟩) ⟨ro_blind, va_recv hK hPc (ci := 0) (q0 := 0) rfl rfl, ro_pre hPc hK hN⟩ rfl rfl hl.1 rfl (lv_room (Nat.le_of_ble_eq_true rfl)) dX2_canReach_51 ⟨Nat.zero_le _, Nat.zero_le _⟩) hS hA hP (fun H locs hP hS => ?_)
        refine vx_ret ?_
        refine W.widen (k := 1) (n := 6) (Nat.zero_le _) (Nat.zero_le _) ?_
        have hP9 := hP
        have hD9 := hD
        exact W.zret (ty := .boolean) (v := (s_fat (x_S (x_srch X)) v_g p_g 800 0)) hx hb hr (s_fat_z _ _ _ _ _) (fun t ht hW => ⟨⟨(s_fat (x_S (x_srch X)) v_g p_g 800 0), (x_srch X), rfl, ⟨by rw [reach_th, if_neg (not_not_intro c_1), if_neg (by rintro (h | h) <;> contradiction)], rfl, rfl⟩, by rw [ht]; exact hP9, hD9⟩, hS.F ht⟩) hS.2.2 dX2_canReach_54
      · exact vx_throwS (A := A) (names := ex_names) hx hb hst hown (by decide +kernel) ex_fit (hts (.classLink RX2 29 ex_A) (by decide +kernel)) (hts (.initialized ex_A) (by decide +kernel)) (ex_get hE (k := 11) rfl) (vx_hat (fun w h => hts w (ie_X2_canReach_33 w h)) ex_bA (ex_words hE)) ex_gA hZ.1 hZ.2 hS (hl.1.trans hml.symm) dX2_canReach_31 dX2_canReach_34 dX2_canReach_35 dX2_canReach_37 dX2_canReach_40 (fun x hx => absurd (hnt x hx) id) (by decide) (Nat.le_of_ble_eq_true rfl) (Nat.le_of_ble_eq_true rfl) (Nat.le_of_ble_eq_true rfl) hlocks (xx_x hP hS (Or.inr ⟨rfl, by rw [reach_th, if_neg (not_not_intro c_1), if_pos (by first | exact Or.inl (by assumption) | exact Or.inr (by assumption))]⟩)) hS.2.2 (Nat.le_of_ble_eq_true rfl) (Nat.le_of_ble_eq_true rfl)
  · have c_1 := b1_f c_1
    exact vx_throwS (A := A) (names := ex_names) hx hb hst hown (by decide +kernel) ex_fit (hts (.classLink RX2 113 ex_I) (by decide +kernel)) (hts (.initialized ex_I) (by decide +kernel)) (ex_get hE (k := 8) rfl) (vx_hat (fun w h => hts w (ie_X2_canReach_117 w h)) ex_bI (ex_words hE)) ex_gI hZ.1 hZ.2 hS (hl.1.trans hml.symm) dX2_canReach_11 dX2_canReach_14 dX2_canReach_15 dX2_canReach_17 dX2_canReach_20 (fun x hx => absurd (hnt x hx) id) (by decide) (Nat.le_of_ble_eq_true rfl) (Nat.le_of_ble_eq_true rfl) (Nat.le_of_ble_eq_true rfl) hlocks (xx_x hP hS (Or.inl ⟨rfl, by rw [reach_th, if_pos c_1]⟩)) hS.2.2 (Nat.le_of_ble_eq_true rfl) (Nat.le_of_ble_eq_true rfl)

theorem ie_X2_ramp_33 : ∀ w ∈ (vx_atS RX2 33 ex_A ex_names).filter goodWord, w ∈ wsX2_ramp := by decide +kernel
theorem ie_X2_ramp_52 : ∀ w ∈ (vx_atS RX2 52 ex_S ex_names).filter goodWord, w ∈ wsX2_ramp := by decide +kernel
theorem in_X2_ramp_2 : ∀ w ∈ wsX20, w ∈ wsX2_ramp := by decide +kernel
set_option maxHeartbeats 4000000 in
set_option maxRecDepth 100000 in
/-- RampJam.ramp -/
theorem c_X2_ramp (l : Launch) (hst : l.stackTraces = false) (G : va_G) (cI cZ cJ : ClassId) (a : Nat → Nat) (sz : Nat) (sa : Nat → Nat) (X : XS) (r_g : Int32) (q_g : Int32) (hn : y_n (x_Y X) ≤ 9) : vx_Met l yX2_ramp wsX2_ramp ({ frames := 6, cells := 1, slots := 6, locals := 90 }) (xx_Pc G [(cI, .int), (cZ, .boolean), (cJ, .long)] (wJ cI cZ cJ a (x_J X) (x_S X) (x_Y X)) sz sa [.ref (a 0), .int r_g, .int q_g]) (xx_Qv (S := XS) (ramp_th X r_g q_g = 0) (x_ramp X r_g q_g) (fun u : XS => wJ cI cZ cJ a (x_J u) (x_S u) (x_Y u)) G (wJ cI cZ cJ a (x_J X) (x_S X) (x_Y X)) sz) (xx_X (fun E => (E = ex_A ∧ ramp_th X r_g q_g = 1) ∨ (E = ex_S ∧ ramp_th X r_g q_g = 2)) G (wJ cI cZ cJ a (x_J X) (x_S X) (x_Y X)) (va_A (wJ cI cZ cJ a (x_J X) (x_S X) (x_Y X)) sz)) 1 6 (va_A (wJ cI cZ cJ a (x_J X) (x_S X) (x_Y X)) sz) := by
  refine vx_ofW (cc := cX2_ramp) (maxL := 5) (ret := none) (by decide) rfl ?_
  intro p e s m args below meth c s₁ B hml hnt hv
  obtain ⟨rfl, hsz, hP, hK, hD0, hN, hE, hZ⟩ := hv
  have hx := B.exec
  have hb := B.bytes
  have hr := B.returns
  have hts := atoms_spec (ws := wsX2_ramp) B.pre
  have hown : s.vm.findClass RX2 = some m.cls := findClass_of_methodNamed B.named
  have hlocks := B.notSynchronized
  subst hsz
  have hD0 : va_D (fun _ => True) [((a 0), .inr (2, [.ref (a 6), .ref (a 1), .int (j_pp (x_J X)), .int (j_po (x_J X)), .int (j_mc (x_J X)), .int (j_dc (x_J X)), .int (j_is (x_J X))])), ((a 1), .inr (0, [.ref (a 6), .ref (a 2), .ref (a 3), .ref (a 4), .ref (a 5), .int (s_fc (x_S X)), .int (s_fs (x_S X)), .int (s_sm (x_S X)), .int (s_sc (x_S X)), .int (s_sf (x_S X))])), ((a 2), .inl (cI, 800, .inl (s_fo (x_S X)))), ((a 3), .inl (cI, 800, .inl (s_or (x_S X)))), ((a 4), .inl (cI, 800, .inl (s_mo (x_S X)))), ((a 5), .inl (cI, 2048, .inl (s_sl (x_S X)))), ((a 6), .inr (1, [.ref (a 7), .ref (a 8), .ref (a 9), .ref (a 10), .int (nI (y_n (x_Y X))), .long (y_rp (x_Y X))])), ((a 7), .inl (cI, 9, .inl (y_sz (x_Y X)))), ((a 8), .inl (cZ, 9, .inl (y_ac (x_Y X)))), ((a 9), .inl (cI, 9, .inl (y_li (x_Y X)))), ((a 10), .inl (cJ, 9, .inr (.inl (y_sh (x_Y X)))))] := hD0
  have hD := hD0.self (sz := s.heap.size)
  unfold xx_Qv
  generalize hAe : va_A (wJ cI cZ cJ a (x_J X) (x_S X) (x_Y X)) s.heap.size = A at hD hZ ⊢
  have hA : ∀ q : Nat, s.heap.size ≤ q → A q := fun q h => by rw [← hAe]; exact Or.inr h
  have hS : va_S A s.heap s.heap [] := va_S.rf
  have hP : va_P G vwCl [((a 0), .inr (2, [.ref (a 6), .ref (a 1), .int (j_pp (x_J X)), .int (j_po (x_J X)), .int (j_mc (x_J X)), .int (j_dc (x_J X)), .int (j_is (x_J X))])), ((a 1), .inr (0, [.ref (a 6), .ref (a 2), .ref (a 3), .ref (a 4), .ref (a 5), .int (s_fc (x_S X)), .int (s_fs (x_S X)), .int (s_sm (x_S X)), .int (s_sc (x_S X)), .int (s_sf (x_S X))])), ((a 2), .inl (cI, 800, .inl (s_fo (x_S X)))), ((a 3), .inl (cI, 800, .inl (s_or (x_S X)))), ((a 4), .inl (cI, 800, .inl (s_mo (x_S X)))), ((a 5), .inl (cI, 2048, .inl (s_sl (x_S X)))), ((a 6), .inr (1, [.ref (a 7), .ref (a 8), .ref (a 9), .ref (a 10), .int (nI (y_n (x_Y X))), .long (y_rp (x_Y X))])), ((a 7), .inl (cI, 9, .inl (y_sz (x_Y X)))), ((a 8), .inl (cZ, 9, .inl (y_ac (x_Y X)))), ((a 9), .inl (cI, 9, .inl (y_li (x_Y X)))), ((a 10), .inl (cJ, 9, .inr (.inl (y_sh (x_Y X)))))] s.heap := hP
  have hl := lv_entry ([.ref (a 0), .int r_g, .int q_g]) (n := 5) (Nat.le_of_ble_eq_true rfl)
  rw [lg_entry_eq]
  generalize (lg_sl ([.ref (a 0), .int r_g, .int q_g]) ++ List.replicate (5 - (lg_sl ([.ref (a 0), .int r_g, .int q_g])).length) Slot.unset).toArray = ls at hl ⊢
  have hl : lv_has ls 5 [(0, .ref (a 0)), (1, .int r_g), (2, .int q_g)] := hl
  refine lv_iload_n hx hb dX2_ramp_0 rfl (lv_at hl 1 rfl) ?_
  refine lv_iload_n hx hb dX2_ramp_1 rfl (lv_at hl 2 rfl) ?_
  refine ro_i (va_runS (As := [.int r_g, .int q_g]) (rest := []) ⟨hx, hb, hml, hown, hts⟩ ((c_X2_isInYard l G cI cZ cJ a _ r_g q_g)) (va_cwS 2 hts gX2_ramp_X2_isInYard rfl rfl rfl (by decide +kernel) ⟨Nat.le_of_ble_eq_true rfl, Nat.le_of_ble_eq_true rfl⟩) ⟨ro_blind, ro_pre va_P0 hK hN⟩ rfl rfl hl.1 rfl (lv_room (Nat.le_of_ble_eq_true rfl)) dX2_ramp_2 ⟨Nat.zero_le _, Nat.zero_le _⟩) hS hA hP (fun H locs hP hS => ?_)
  refine lv_if_ne (tgt := 18) hx hb dX2_ramp_5 (by decide) (fun c_1 => ?_) (fun c_1 => ?_)
  · have c_1 := b1_t c_1
    refine lv_aload_n hx hb dX2_ramp_18 rfl (lv_at hl 0 rfl) ?_
    refine va_get (D := G) (ci := 2) (v := .int (j_mc (x_J X))) (C := RX2) (T := TX2) (N := 7) hx hb hts in_X2_ramp_2 hown hK hP 0 rfl rfl 4 (by decide) (hts (.fieldLink RX2 44 "RampJam" "moveCount" "I") (by decide +kernel)) (fun _ h9 => h9) rfl dX2_ramp_19 ?_
    refine lv_if_le (tgt := 35) hx hb dX2_ramp_22 (by decide) (fun c_2 => ?_) (fun c_2 => ?_)
    · refine lv_iload_n hx hb dX2_ramp_35 rfl (lv_at hl 1 rfl) ?_
      refine lv_iload_n hx hb dX2_ramp_36 rfl (lv_at hl 2 rfl) ?_
      refine ro_l (va_runS (As := [.int r_g, .int q_g]) (rest := []) ⟨hx, hb, hml, hown, hts⟩ ((c_X2_cellOf l G cI cZ cJ a _ r_g q_g)) (va_cwS 2 hts gX2_ramp_X2_cellOf rfl rfl rfl (by decide +kernel) ⟨Nat.le_of_ble_eq_true rfl, Nat.le_of_ble_eq_true rfl⟩) ⟨ro_blind, ro_pre va_P0 hK hN⟩ rfl rfl hl.1 rfl (lv_room (Nat.le_of_ble_eq_true rfl)) dX2_ramp_37 ⟨Nat.zero_le _, Nat.zero_le _⟩) hS hA hP (fun H locs hP hS => ?_)
      refine lv_lstore_n (lv' := [(3, .long (co r_g q_g)), (0, .ref (a 0)), (1, .int r_g), (2, .int q_g)]) hx hb dX2_ramp_40 rfl hl (by decide) rfl (fun ls hl => ?_)
      refine lv_aload_n hx hb dX2_ramp_41 rfl (lv_at hl 1 rfl) ?_
      refine va_get (D := G) (ci := 2) (v := .ref (a 6)) (C := RX2) (T := TX2) (N := 7) hx hb hts in_X2_ramp_2 hown hK hP 0 rfl rfl 0 (by decide) (hts (.fieldLink RX2 10 "RampJam" "yard" "LRampJam$Yard;") (by decide +kernel)) (fun _ h9 => h9) rfl dX2_ramp_42 ?_
      refine lv_aload_n hx hb dX2_ramp_45 rfl (lv_at hl 1 rfl) ?_
      refine va_get (D := G) (ci := 2) (v := .ref (a 6)) (C := RX2) (T := TX2) (N := 7) hx hb hts in_X2_ramp_2 hown hK hP 0 rfl rfl 0 (by decide) (hts (.fieldLink RX2 10 "RampJam" "yard" "LRampJam$Yard;") (by decide +kernel)) (fun _ h9 => h9) rfl dX2_ramp_46 ?_
      refine lv_aload_n hx hb dX2_ramp_49 rfl (lv_at hl 1 rfl) ?_
      refine va_get (D := G) (ci := 2) (v := .int (j_po (x_J X))) (C := RX2) (T := TX2) (N := 7) hx hb hts in_X2_ramp_2 hown hK hP 0 rfl rfl 3 (by decide) (hts (.fieldLink RX2 57 "RampJam" "position" "I") (by decide +kernel)) (fun _ h9 => h9) rfl dX2_ramp_50 ?_
      refine lv_lload_n hx hb dX2_ramp_53 rfl (lv_at hl 0 rfl) ?_
      have hPc := hP.sub (ws' := [((a 6), .inr (1, [.ref (a 7), .ref (a 8), .ref (a 9), .ref (a 10), .int (nI (y_n (x_Y X))), .long (y_rp (x_Y X))])), ((a 7), .inl (cI, 9, .inl (y_sz (x_Y X)))), ((a 8), .inl (cZ, 9, .inl (y_ac (x_Y X)))), ((a 9), .inl (cI, 9, .inl (y_li (x_Y X)))), ((a 10), .inl (cJ, 9, .inr (.inl (y_sh (x_Y X)))))]) [6, 7, 8, 9, 10] rfl
      refine ro_i (va_runV (As := [.int (j_po (x_J X)), .long (co r_g q_g)]) (rest := [.ref (a 6)]) ⟨hx, hb, hml, hown, hts⟩ ((c_X1_vehicleOn l G cI cZ cJ a _ (x_Y X) (j_po (x_J X)) (co r_g q_g) hn)) (cwV 2 hts gX2_ramp_X1_vehicleOn rfl rfl rfl (by decide +kernel) ⟨Nat.le_of_ble_eq_true rfl, Nat.le_of_ble_eq_true rfl⟩) ⟨ro_blind, va_recv hK hPc (ci := 1) (q0 := 0) rfl rfl, ro_pre hPc hK hN⟩ rfl rfl hl.1 rfl (lv_room (Nat.le_of_ble_eq_true rfl)) dX2_ramp_54 ⟨Nat.zero_le _, Nat.zero_le _⟩) hS hA hP (fun H locs hP hS => ?_)
      have hPc := hP.sub (ws' := [((a 6), .inr (1, [.ref (a 7), .ref (a 8), .ref (a 9), .ref (a 10), .int (nI (y_n (x_Y X))), .long (y_rp (x_Y X))])), ((a 7), .inl (cI, 9, .inl (y_sz (x_Y X)))), ((a 8), .inl (cZ, 9, .inl (y_ac (x_Y X)))), ((a 9), .inl (cI, 9, .inl (y_li (x_Y X)))), ((a 10), .inl (cJ, 9, .inr (.inl (y_sh (x_Y X)))))]) [6, 7, 8, 9, 10] rfl
      refine ro_i (va_runV (As := [.int (y_on (x_Y X) (j_po (x_J X)) (co r_g q_g) (y_n (x_Y X)) 0)]) (rest := []) ⟨hx, hb, hml, hown, hts⟩ ((c_X1_isLorry l G cI cZ cJ a _ (x_Y X) (y_on (x_Y X) (j_po (x_J X)) (co r_g q_g) (y_n (x_Y X)) 0))) (cwV 1 hts gX2_ramp_X1_isLorry rfl rfl rfl (by decide +kernel) ⟨Nat.le_of_ble_eq_true rfl, Nat.le_of_ble_eq_true rfl⟩) ⟨ro_blind, va_recv hK hPc (ci := 1) (q0 := 0) rfl rfl, ro_pre hPc hK hN⟩ rfl rfl hl.1 rfl (lv_room (Nat.le_of_ble_eq_true rfl)) dX2_ramp_57 ⟨Nat.zero_le _, Nat.zero_le _⟩) hS hA hP (fun H locs hP hS => ?_)
      refine lv_if_eq (tgt := 73) hx hb dX2_ramp_60 (by decide) (fun c_3 => ?_) (fun c_3 => ?_)
      · have c_3 := b1_f c_3
        refine lv_aload_n hx hb dX2_ramp_73 rfl (lv_at hl 1 rfl) ?_
        refine va_get (D := G) (ci := 2) (v := .ref (a 6)) (C := RX2) (T := TX2) (N := 7) hx hb hts in_X2_ramp_2 hown hK hP 0 rfl rfl 0 (by decide) (hts (.fieldLink RX2 10 "RampJam" "yard" "LRampJam$Yard;") (by decide +kernel)) (fun _ h9 => h9) rfl dX2_ramp_74 ?_
        refine lv_lload_n hx hb dX2_ramp_77 rfl (lv_at hl 0 rfl) ?_
        have hPc := hP.sub (ws' := [((a 6), .inr (1, [.ref (a 7), .ref (a 8), .ref (a 9), .ref (a 10), .int (nI (y_n (x_Y X))), .long (y_rp (x_Y X))])), ((a 7), .inl (cI, 9, .inl (y_sz (x_Y X)))), ((a 8), .inl (cZ, 9, .inl (y_ac (x_Y X)))), ((a 9), .inl (cI, 9, .inl (y_li (x_Y X)))), ((a 10), .inl (cJ, 9, .inr (.inl (y_sh (x_Y X)))))]) [6, 7, 8, 9, 10] rfl
        have hDc := hD.sub (ws' := [((a 6), .inr (1, [.ref (a 7), .ref (a 8), .ref (a 9), .ref (a 10), .int (nI (y_n (x_Y X))), .long (y_rp (x_Y X))])), ((a 7), .inl (cI, 9, .inl (y_sz (x_Y X)))), ((a 8), .inl (cZ, 9, .inl (y_ac (x_Y X)))), ((a 9), .inl (cI, 9, .inl (y_li (x_Y X)))), ((a 10), .inl (cJ, 9, .inr (.inl (y_sh (x_Y X)))))]) [6, 7, 8, 9, 10] (by decide) rfl
        refine rw_v (wr := [((a 0), .inr (2, [.ref (a 6), .ref (a 1), .int (j_pp (x_J X)), .int (j_po (x_J X)), .int (j_mc (x_J X)), .int (j_dc (x_J X)), .int (j_is (x_J X))])), ((a 1), .inr (0, [.ref (a 6), .ref (a 2), .ref (a 3), .ref (a 4), .ref (a 5), .int (s_fc (x_S X)), .int (s_fs (x_S X)), .int (s_sm (x_S X)), .int (s_sc (x_S X)), .int (s_sf (x_S X))])), ((a 2), .inl (cI, 800, .inl (s_fo (x_S X)))), ((a 3), .inl (cI, 800, .inl (s_or (x_S X)))), ((a 4), .inl (cI, 800, .inl (s_mo (x_S X)))), ((a 5), .inl (cI, 2048, .inl (s_sl (x_S X))))]) (ws' := [((a 0), .inr (2, [.ref (a 6), .ref (a 1), .int (j_pp (x_J X)), .int (j_po (x_J X)), .int (j_mc (x_J X)), .int (j_dc (x_J X)), .int (j_is (x_J X))])), ((a 1), .inr (0, [.ref (a 6), .ref (a 2), .ref (a 3), .ref (a 4), .ref (a 5), .int (s_fc (x_S X)), .int (s_fs (x_S X)), .int (s_sm (x_S X)), .int (s_sc (x_S X)), .int (s_sf (x_S X))])), ((a 2), .inl (cI, 800, .inl (s_fo (x_S X)))), ((a 3), .inl (cI, 800, .inl (s_or (x_S X)))), ((a 4), .inl (cI, 800, .inl (s_mo (x_S X)))), ((a 5), .inl (cI, 2048, .inl (s_sl (x_S X)))), ((a 6), .inr (1, [.ref (a 7), .ref (a 8), .ref (a 9), .ref (a 10), .int (nI (y_n (y_put (x_Y X) (co r_g q_g)))), .long (y_rp (y_put (x_Y X) (co r_g q_g)))])), ((a 7), .inl (cI, 9, .inl (y_sz (y_put (x_Y X) (co r_g q_g))))), ((a 8), .inl (cZ, 9, .inl (y_ac (y_put (x_Y X) (co r_g q_g))))), ((a 9), .inl (cI, 9, .inl (y_li (y_put (x_Y X) (co r_g q_g))))), ((a 10), .inl (cJ, 9, .inr (.inl (y_sh (y_put (x_Y X) (co r_g q_g))))))]) (va_runV (As := [.long (co r_g q_g)]) (rest := []) ⟨hx, hb, hml, hown, hts⟩ ((c_X1_putRamp l G cI cZ cJ a _ (x_Y X) (co r_g q_g))) (cwV 1 hts gX2_ramp_X1_putRamp rfl rfl rfl (by decide +kernel) ⟨Nat.le_of_ble_eq_true rfl, Nat.le_of_ble_eq_true rfl⟩) ⟨rw_blind, va_recv hK hPc (ci := 1) (q0 := 0) rfl rfl, rw_pre hPc hDc hK hN⟩ rfl rfl hl.1 rfl (lv_room (Nat.le_of_ble_eq_true rfl)) dX2_ramp_78 ⟨Nat.zero_le _, Nat.zero_le _⟩) hS hA hP hD [6, 7, 8, 9, 10] [0, 1, 2, 3, 4, 5] [0, 1, 2, 3, 4, 5, 6, 7, 8, 9, 10] rfl rfl (by decide) (by decide) rfl (by decide) (fun H locs hP hD hS => ?_)
        refine lv_aload_n hx hb dX2_ramp_81 rfl (lv_at hl 1 rfl) ?_
        refine lv_iconst (v := 0) hx hb dX2_ramp_82 (by decide) ?_
        refine va_put (D := G) (ci := 2) (v := .int 0) (ty := .boolean) (C := RX2) (T := TX2) (N := 7) hx hb hts in_X2_ramp_2 tyX2 tyX2_ok nmX2 hown hK hP hD hS 0 rfl rfl 6 (by decide) (hts (.fieldLink RX2 106 "RampJam" "isSearched" "Z") (by decide +kernel)) (fun _ h9 => h9) rfl (by decide +kernel) rfl rfl (Nat.le_of_ble_eq_true rfl) dX2_ramp_83 (fun H locs hP hD hS => ?_)
        have hP : va_P G vwCl [((a 0), .inr (2, [.ref (a 6), .ref (a 1), .int (j_pp (x_J X)), .int (j_po (x_J X)), .int (j_mc (x_J X)), .int (j_dc (x_J X)), .int 0])), ((a 1), .inr (0, [.ref (a 6), .ref (a 2), .ref (a 3), .ref (a 4), .ref (a 5), .int (s_fc (x_S X)), .int (s_fs (x_S X)), .int (s_sm (x_S X)), .int (s_sc (x_S X)), .int (s_sf (x_S X))])), ((a 2), .inl (cI, 800, .inl (s_fo (x_S X)))), ((a 3), .inl (cI, 800, .inl (s_or (x_S X)))), ((a 4), .inl (cI, 800, .inl (s_mo (x_S X)))), ((a 5), .inl (cI, 2048, .inl (s_sl (x_S X)))), ((a 6), .inr (1, [.ref (a 7), .ref (a 8), .ref (a 9), .ref (a 10), .int (nI (y_n (y_put (x_Y X) (co r_g q_g)))), .long (y_rp (y_put (x_Y X) (co r_g q_g)))])), ((a 7), .inl (cI, 9, .inl (y_sz (y_put (x_Y X) (co r_g q_g))))), ((a 8), .inl (cZ, 9, .inl (y_ac (y_put (x_Y X) (co r_g q_g))))), ((a 9), .inl (cI, 9, .inl (y_li (y_put (x_Y X) (co r_g q_g))))), ((a 10), .inl (cJ, 9, .inr (.inl (y_sh (y_put (x_Y X) (co r_g q_g))))))] H := hP
        have hD : va_D A [((a 0), .inr (2, [.ref (a 6), .ref (a 1), .int (j_pp (x_J X)), .int (j_po (x_J X)), .int (j_mc (x_J X)), .int (j_dc (x_J X)), .int 0])), ((a 1), .inr (0, [.ref (a 6), .ref (a 2), .ref (a 3), .ref (a 4), .ref (a 5), .int (s_fc (x_S X)), .int (s_fs (x_S X)), .int (s_sm (x_S X)), .int (s_sc (x_S X)), .int (s_sf (x_S X))])), ((a 2), .inl (cI, 800, .inl (s_fo (x_S X)))), ((a 3), .inl (cI, 800, .inl (s_or (x_S X)))), ((a 4), .inl (cI, 800, .inl (s_mo (x_S X)))), ((a 5), .inl (cI, 2048, .inl (s_sl (x_S X)))), ((a 6), .inr (1, [.ref (a 7), .ref (a 8), .ref (a 9), .ref (a 10), .int (nI (y_n (y_put (x_Y X) (co r_g q_g)))), .long (y_rp (y_put (x_Y X) (co r_g q_g)))])), ((a 7), .inl (cI, 9, .inl (y_sz (y_put (x_Y X) (co r_g q_g))))), ((a 8), .inl (cZ, 9, .inl (y_ac (y_put (x_Y X) (co r_g q_g))))), ((a 9), .inl (cI, 9, .inl (y_li (y_put (x_Y X) (co r_g q_g))))), ((a 10), .inl (cJ, 9, .inr (.inl (y_sh (y_put (x_Y X) (co r_g q_g))))))] := hD
        refine vx_ret ?_
        refine W.widen (k := 1) (n := 6) (Nat.zero_le _) (Nat.zero_le _) ?_
        have hP9 := hP
        have hD9 := hD
        exact W.vret hx hb hr (fun t ht hW => ⟨⟨(((j_pp (x_J X)), (j_po (x_J X)), (j_mc (x_J X)), (j_dc (x_J X)), 0), (x_S X), (y_put (x_Y X) (co r_g q_g))), rfl, ⟨by rw [ramp_th, if_neg (not_not_intro c_1), if_neg (not_not_intro c_2), if_neg c_3], rfl⟩, by rw [ht]; exact hP9, hD9⟩, hS.F ht⟩) hS.2.2 dX2_ramp_86
      · have c_3 := b1_t c_3
        exact vx_throwS (A := A) (names := ex_names) hx hb hst hown (by decide +kernel) ex_fit (hts (.classLink RX2 48 ex_S) (by decide +kernel)) (hts (.initialized ex_S) (by decide +kernel)) (ex_get hE (k := 7) rfl) (vx_hat (fun w h => hts w (ie_X2_ramp_52 w h)) ex_bS (ex_words hE)) ex_gS hZ.1 hZ.2 hS (hl.1.trans hml.symm) dX2_ramp_63 dX2_ramp_66 dX2_ramp_67 dX2_ramp_69 dX2_ramp_72 (fun x hx => absurd (hnt x hx) id) (by decide) (Nat.le_of_ble_eq_true rfl) (Nat.le_of_ble_eq_true rfl) (Nat.le_of_ble_eq_true rfl) hlocks (xx_x hP hS (Or.inr ⟨rfl, by rw [ramp_th, if_neg (not_not_intro c_1), if_neg (not_not_intro c_2), if_pos c_3]⟩)) hS.2.2 (Nat.le_of_ble_eq_true rfl) (Nat.le_of_ble_eq_true rfl)
    · exact vx_throwS (A := A) (names := ex_names) hx hb hst hown (by decide +kernel) ex_fit (hts (.classLink RX2 48 ex_S) (by decide +kernel)) (hts (.initialized ex_S) (by decide +kernel)) (ex_get hE (k := 6) rfl) (vx_hat (fun w h => hts w (ie_X2_ramp_52 w h)) ex_bS (ex_words hE)) ex_gS hZ.1 hZ.2 hS (hl.1.trans hml.symm) dX2_ramp_25 dX2_ramp_28 dX2_ramp_29 dX2_ramp_31 dX2_ramp_34 (fun x hx => absurd (hnt x hx) id) (by decide) (Nat.le_of_ble_eq_true rfl) (Nat.le_of_ble_eq_true rfl) (Nat.le_of_ble_eq_true rfl) hlocks (xx_x hP hS (Or.inr ⟨rfl, by rw [ramp_th, if_neg (not_not_intro c_1), if_pos c_2]⟩)) hS.2.2 (Nat.le_of_ble_eq_true rfl) (Nat.le_of_ble_eq_true rfl)
  · have c_1 := b1_f c_1
    exact vx_throwS (A := A) (names := ex_names) hx hb hst hown (by decide +kernel) ex_fit (hts (.classLink RX2 29 ex_A) (by decide +kernel)) (hts (.initialized ex_A) (by decide +kernel)) (ex_get hE (k := 5) rfl) (vx_hat (fun w h => hts w (ie_X2_ramp_33 w h)) ex_bA (ex_words hE)) ex_gA hZ.1 hZ.2 hS (hl.1.trans hml.symm) dX2_ramp_8 dX2_ramp_11 dX2_ramp_12 dX2_ramp_14 dX2_ramp_17 (fun x hx => absurd (hnt x hx) id) (by decide) (Nat.le_of_ble_eq_true rfl) (Nat.le_of_ble_eq_true rfl) (Nat.le_of_ble_eq_true rfl) hlocks (xx_x hP hS (Or.inl ⟨rfl, by rw [ramp_th, if_pos c_1]⟩)) hS.2.2 (Nat.le_of_ble_eq_true rfl) (Nat.le_of_ble_eq_true rfl)

theorem ie_X2_drive_33 : ∀ w ∈ (vx_atS RX2 33 ex_A ex_names).filter goodWord, w ∈ wsX2_drive := by decide +kernel
theorem ie_X2_drive_52 : ∀ w ∈ (vx_atS RX2 52 ex_S ex_names).filter goodWord, w ∈ wsX2_drive := by decide +kernel
theorem ie_X2_drive_117 : ∀ w ∈ (vx_atS RX2 117 ex_I ex_names).filter goodWord, w ∈ wsX2_drive := by decide +kernel
theorem in_X2_drive_2 : ∀ w ∈ wsX20, w ∈ wsX2_drive := by decide +kernel
set_option maxHeartbeats 4000000 in
set_option maxRecDepth 100000 in
/-- RampJam.drive -/
theorem c_X2_drive (l : Launch) (hst : l.stackTraces = false) (G : va_G) (cI cZ cJ : ClassId) (a : Nat → Nat) (sz : Nat) (sa : Nat → Nat) (X : XS) (v_g : Int32) (c_g : Int32) (hn : y_n (x_Y X) ≤ 9) : vx_Met l yX2_drive wsX2_drive ({ frames := 6, cells := 1, slots := 6, locals := 99 }) (xx_Pc G [(cI, .int), (cZ, .boolean), (cJ, .long)] (wJ cI cZ cJ a (x_J X) (x_S X) (x_Y X)) sz sa [.ref (a 0), .int v_g, .int c_g]) (xx_Qv (S := XS) (drive_th X v_g c_g = 0) (x_move X v_g c_g) (fun u : XS => wJ cI cZ cJ a (x_J u) (x_S u) (x_Y u)) G (wJ cI cZ cJ a (x_J X) (x_S X) (x_Y X)) sz) (xx_X (fun E => (E = ex_I ∧ drive_th X v_g c_g = 1) ∨ (E = ex_A ∧ drive_th X v_g c_g = 2) ∨ (E = ex_S ∧ drive_th X v_g c_g = 3)) G (wJ cI cZ cJ a (x_J X) (x_S X) (x_Y X)) (va_A (wJ cI cZ cJ a (x_J X) (x_S X) (x_Y X)) sz)) 1 6 (va_A (wJ cI cZ cJ a (x_J X) (x_S X) (x_Y X)) sz) := by
  refine vx_ofW (cc := cX2_drive) (maxL := 3) (ret := none) (by decide) rfl ?_
  intro p e s m args below meth c s₁ B hml hnt hv
  obtain ⟨rfl, hsz, hP, hK, hD0, hN, hE, hZ⟩ := hv
  have hx := B.exec
  have hb := B.bytes
  have hr := B.returns
  have hts := atoms_spec (ws := wsX2_drive) B.pre
  have hown : s.vm.findClass RX2 = some m.cls := findClass_of_methodNamed B.named
  have hlocks := B.notSynchronized
  subst hsz
  have hD0 : va_D (fun _ => True) [((a 0), .inr (2, [.ref (a 6), .ref (a 1), .int (j_pp (x_J X)), .int (j_po (x_J X)), .int (j_mc (x_J X)), .int (j_dc (x_J X)), .int (j_is (x_J X))])), ((a 1), .inr (0, [.ref (a 6), .ref (a 2), .ref (a 3), .ref (a 4), .ref (a 5), .int (s_fc (x_S X)), .int (s_fs (x_S X)), .int (s_sm (x_S X)), .int (s_sc (x_S X)), .int (s_sf (x_S X))])), ((a 2), .inl (cI, 800, .inl (s_fo (x_S X)))), ((a 3), .inl (cI, 800, .inl (s_or (x_S X)))), ((a 4), .inl (cI, 800, .inl (s_mo (x_S X)))), ((a 5), .inl (cI, 2048, .inl (s_sl (x_S X)))), ((a 6), .inr (1, [.ref (a 7), .ref (a 8), .ref (a 9), .ref (a 10), .int (nI (y_n (x_Y X))), .long (y_rp (x_Y X))])), ((a 7), .inl (cI, 9, .inl (y_sz (x_Y X)))), ((a 8), .inl (cZ, 9, .inl (y_ac (x_Y X)))), ((a 9), .inl (cI, 9, .inl (y_li (x_Y X)))), ((a 10), .inl (cJ, 9, .inr (.inl (y_sh (x_Y X)))))] := hD0
  have hD := hD0.self (sz := s.heap.size)
  unfold xx_Qv
  generalize hAe : va_A (wJ cI cZ cJ a (x_J X) (x_S X) (x_Y X)) s.heap.size = A at hD hZ ⊢
  have hA : ∀ q : Nat, s.heap.size ≤ q → A q := fun q h => by rw [← hAe]; exact Or.inr h
  have hS : va_S A s.heap s.heap [] := va_S.rf
  have hP : va_P G vwCl [((a 0), .inr (2, [.ref (a 6), .ref (a 1), .int (j_pp (x_J X)), .int (j_po (x_J X)), .int (j_mc (x_J X)), .int (j_dc (x_J X)), .int (j_is (x_J X))])), ((a 1), .inr (0, [.ref (a 6), .ref (a 2), .ref (a 3), .ref (a 4), .ref (a 5), .int (s_fc (x_S X)), .int (s_fs (x_S X)), .int (s_sm (x_S X)), .int (s_sc (x_S X)), .int (s_sf (x_S X))])), ((a 2), .inl (cI, 800, .inl (s_fo (x_S X)))), ((a 3), .inl (cI, 800, .inl (s_or (x_S X)))), ((a 4), .inl (cI, 800, .inl (s_mo (x_S X)))), ((a 5), .inl (cI, 2048, .inl (s_sl (x_S X)))), ((a 6), .inr (1, [.ref (a 7), .ref (a 8), .ref (a 9), .ref (a 10), .int (nI (y_n (x_Y X))), .long (y_rp (x_Y X))])), ((a 7), .inl (cI, 9, .inl (y_sz (x_Y X)))), ((a 8), .inl (cZ, 9, .inl (y_ac (x_Y X)))), ((a 9), .inl (cI, 9, .inl (y_li (x_Y X)))), ((a 10), .inl (cJ, 9, .inr (.inl (y_sh (x_Y X)))))] s.heap := hP
  have hl := lv_entry ([.ref (a 0), .int v_g, .int c_g]) (n := 3) (Nat.le_of_ble_eq_true rfl)
  rw [lg_entry_eq]
  generalize (lg_sl ([.ref (a 0), .int v_g, .int c_g]) ++ List.replicate (3 - (lg_sl ([.ref (a 0), .int v_g, .int c_g])).length) Slot.unset).toArray = ls at hl ⊢
  have hl : lv_has ls 3 [(0, .ref (a 0)), (1, .int v_g), (2, .int c_g)] := hl
  refine lv_aload_n hx hb dX2_drive_0 rfl (lv_at hl 0 rfl) ?_
  refine va_get (D := G) (ci := 2) (v := .ref (a 6)) (C := RX2) (T := TX2) (N := 7) hx hb hts in_X2_drive_2 hown hK hP 0 rfl rfl 0 (by decide) (hts (.fieldLink RX2 10 "RampJam" "yard" "LRampJam$Yard;") (by decide +kernel)) (fun _ h9 => h9) rfl dX2_drive_1 ?_
  refine lv_iload_n hx hb dX2_drive_4 rfl (lv_at hl 1 rfl) ?_
  have hPc := hP.sub (ws' := [((a 6), .inr (1, [.ref (a 7), .ref (a 8), .ref (a 9), .ref (a 10), .int (nI (y_n (x_Y X))), .long (y_rp (x_Y X))])), ((a 7), .inl (cI, 9, .inl (y_sz (x_Y X)))), ((a 8), .inl (cZ, 9, .inl (y_ac (x_Y X)))), ((a 9), .inl (cI, 9, .inl (y_li (x_Y X)))), ((a 10), .inl (cJ, 9, .inr (.inl (y_sh (x_Y X)))))]) [6, 7, 8, 9, 10] rfl
  refine ro_i (va_runV (As := [.int v_g]) (rest := []) ⟨hx, hb, hml, hown, hts⟩ ((c_X1_has l G cI cZ cJ a _ (x_Y X) v_g)) (cwV 1 hts gX2_drive_X1_has rfl rfl rfl (by decide +kernel) ⟨Nat.le_of_ble_eq_true rfl, Nat.le_of_ble_eq_true rfl⟩) ⟨ro_blind, va_recv hK hPc (ci := 1) (q0 := 0) rfl rfl, ro_pre hPc hK hN⟩ rfl rfl hl.1 rfl (lv_room (Nat.le_of_ble_eq_true rfl)) dX2_drive_5 ⟨Nat.zero_le _, Nat.zero_le _⟩) hS hA hP (fun H locs hP hS => ?_)
  refine lv_if_ne (tgt := 21) hx hb dX2_drive_8 (by decide) (fun c_1 => ?_) (fun c_1 => ?_)
  · have c_1 := b1_t c_1
    refine lv_iload_n hx hb dX2_drive_21 rfl (lv_at hl 2 rfl) ?_
    refine lv_bipush (v := (-4)) hx hb dX2_drive_22 (by decide) ?_
    refine lv_icmp_lt (tgt := 36) hx hb dX2_drive_24 (by decide) (fun c_2 => ?_) (fun c_2 => ?_)
    · exact vx_throwS (A := A) (names := ex_names) hx hb hst hown (by decide +kernel) ex_fit (hts (.classLink RX2 29 ex_A) (by decide +kernel)) (hts (.initialized ex_A) (by decide +kernel)) (ex_get hE (k := 9) rfl) (vx_hat (fun w h => hts w (ie_X2_drive_33 w h)) ex_bA (ex_words hE)) ex_gA hZ.1 hZ.2 hS (hl.1.trans hml.symm) dX2_drive_36 dX2_drive_39 dX2_drive_40 dX2_drive_42 dX2_drive_45 (fun x hx => absurd (hnt x hx) id) (by decide) (Nat.le_of_ble_eq_true rfl) (Nat.le_of_ble_eq_true rfl) (Nat.le_of_ble_eq_true rfl) hlocks (xx_x hP hS (Or.inr (Or.inl ⟨rfl, by rw [drive_th, if_neg (not_not_intro c_1), if_pos (by first | exact Or.inl (by assumption) | exact Or.inr (Or.inl (by assumption)) | exact Or.inr (Or.inr (by assumption)))]⟩))) hS.2.2 (Nat.le_of_ble_eq_true rfl) (Nat.le_of_ble_eq_true rfl)
    · refine lv_iload_n hx hb dX2_drive_27 rfl (lv_at hl 2 rfl) ?_
      refine lv_iconst (v := 4) hx hb dX2_drive_28 (by decide) ?_
      refine lv_icmp_gt (tgt := 36) hx hb dX2_drive_29 (by decide) (fun c_3 => ?_) (fun c_3 => ?_)
      · exact vx_throwS (A := A) (names := ex_names) hx hb hst hown (by decide +kernel) ex_fit (hts (.classLink RX2 29 ex_A) (by decide +kernel)) (hts (.initialized ex_A) (by decide +kernel)) (ex_get hE (k := 9) rfl) (vx_hat (fun w h => hts w (ie_X2_drive_33 w h)) ex_bA (ex_words hE)) ex_gA hZ.1 hZ.2 hS (hl.1.trans hml.symm) dX2_drive_36 dX2_drive_39 dX2_drive_40 dX2_drive_42 dX2_drive_45 (fun x hx => absurd (hnt x hx) id) (by decide) (Nat.le_of_ble_eq_true rfl) (Nat.le_of_ble_eq_true rfl) (Nat.le_of_ble_eq_true rfl) hlocks (xx_x hP hS (Or.inr (Or.inl ⟨rfl, by rw [drive_th, if_neg (not_not_intro c_1), if_pos (by first | exact Or.inl (by assumption) | exact Or.inr (Or.inl (by assumption)) | exact Or.inr (Or.inr (by assumption)))]⟩))) hS.2.2 (Nat.le_of_ble_eq_true rfl) (Nat.le_of_ble_eq_true rfl)
      · refine lv_iload_n hx hb dX2_drive_32 rfl (lv_at hl 2 rfl) ?_
        refine lv_if_ne (tgt := 46) hx hb dX2_drive_33 (by decide) (fun c_4 => ?_) (fun c_4 => ?_)
        · refine lv_iload_n hx hb dX2_drive_46 rfl (lv_at hl 2 rfl) ?_
          refine va_mabs hx hb (by rw [hml]; exact hl.1.symm) hown (hts (.methodLink RX2 120 Lib.Math.abs.name) (by decide +kernel)) (hts (.static Lib.Math.abs.name) (by decide +kernel)) (hts (.initialized "java/lang/Math") (by decide +kernel)) (hts (.code Lib.Math.abs.name Lib.Math.abs.code 1 (some .int)) (by decide +kernel)) (Nat.le_of_ble_eq_true rfl) (Nat.le_of_ble_eq_true rfl) (Nat.zero_le _) (Nat.zero_le _) dX2_drive_47 ?_
          have cut_61 : ∀ (f_g : Int32), (f_g = (if c_g ≤ 0 then 0 else 1)) → ∀ (H : Heap) (locs : List Loc), va_P G vwCl [((a 0), .inr (2, [.ref (a 6), .ref (a 1), .int (j_pp (x_J X)), .int (j_po (x_J X)), .int (j_mc (x_J X)), .int (j_dc (x_J X)), .int (j_is (x_J X))])), ((a 1), .inr (0, [.ref (a 6), .ref (a 2), .ref (a 3), .ref (a 4), .ref (a 5), .int (s_fc (x_S X)), .int (s_fs (x_S X)), .int (s_sm (x_S X)), .int (s_sc (x_S X)), .int (s_sf (x_S X))])), ((a 2), .inl (cI, 800, .inl (s_fo (x_S X)))), ((a 3), .inl (cI, 800, .inl (s_or (x_S X)))), ((a 4), .inl (cI, 800, .inl (s_mo (x_S X)))), ((a 5), .inl (cI, 2048, .inl (s_sl (x_S X)))), ((a 6), .inr (1, [.ref (a 7), .ref (a 8), .ref (a 9), .ref (a 10), .int (nI (y_n (x_Y X))), .long (y_rp (x_Y X))])), ((a 7), .inl (cI, 9, .inl (y_sz (x_Y X)))), ((a 8), .inl (cZ, 9, .inl (y_ac (x_Y X)))), ((a 9), .inl (cI, 9, .inl (y_li (x_Y X)))), ((a 10), .inl (cJ, 9, .inr (.inl (y_sh (x_Y X)))))] H → va_D A [((a 0), .inr (2, [.ref (a 6), .ref (a 1), .int (j_pp (x_J X)), .int (j_po (x_J X)), .int (j_mc (x_J X)), .int (j_dc (x_J X)), .int (j_is (x_J X))])), ((a 1), .inr (0, [.ref (a 6), .ref (a 2), .ref (a 3), .ref (a 4), .ref (a 5), .int (s_fc (x_S X)), .int (s_fs (x_S X)), .int (s_sm (x_S X)), .int (s_sc (x_S X)), .int (s_sf (x_S X))])), ((a 2), .inl (cI, 800, .inl (s_fo (x_S X)))), ((a 3), .inl (cI, 800, .inl (s_or (x_S X)))), ((a 4), .inl (cI, 800, .inl (s_mo (x_S X)))), ((a 5), .inl (cI, 2048, .inl (s_sl (x_S X)))), ((a 6), .inr (1, [.ref (a 7), .ref (a 8), .ref (a 9), .ref (a 10), .int (nI (y_n (x_Y X))), .long (y_rp (x_Y X))])), ((a 7), .inl (cI, 9, .inl (y_sz (x_Y X)))), ((a 8), .inl (cZ, 9, .inl (y_ac (x_Y X)))), ((a 9), .inl (cI, 9, .inl (y_li (x_Y X)))), ((a 10), .inl (cJ, 9, .inr (.inl (y_sh (x_Y X)))))] → va_S A s.heap H locs → ∀ (ls : Array Slot), lv_has ls 3 [(0, .ref (a 0)), (1, .int v_g), (2, .int c_g)] → W p l e (headSpec wsX2_drive ({ frames := 6, cells := 1, slots := 6, locals := 99 })).room s m ([.ref (a 0), .int v_g, .int c_g] : List Value).toArray below meth c H locs 0 0 (vx_MQ below (va_Qv (fun u : XS => drive_th X v_g c_g = 0 ∧ u = (x_move X v_g c_g)) (fun (u : XS) (t : State) => va_P G vwCl ((fun u : XS => wJ cI cZ cJ a (x_J u) (x_S u) (x_Y u)) u) t.heap ∧ va_D A ((fun u : XS => wJ cI cZ cJ a (x_J u) (x_S u) (x_Y u)) u)) A) (xx_X (fun E => (E = ex_I ∧ drive_th X v_g c_g = 1) ∨ (E = ex_A ∧ drive_th X v_g c_g = 2) ∨ (E = ex_S ∧ drive_th X v_g c_g = 3)) G (wJ cI cZ cJ a (x_J X) (x_S X) (x_Y X)) A) ([.ref (a 0), .int v_g, .int c_g] : List Value).toArray s 1 6 A) (F0 m 61 ls [.int f_g, .int v_g, .ref (a 0), .int (iabs c_g)]) := by
            intro f_g ef_g H locs hP hD hS ls hl
            subst ef_g
            try have hl : lv_has ls 3 [(0, .ref (a 0)), (1, .int v_g), (2, .int c_g)] := hl
            refine ro_i (va_runV (As := [.int v_g, .int (if c_g ≤ 0 then 0 else 1)]) (rest := [.int (iabs c_g)]) ⟨hx, hb, hml, hown, hts⟩ ((c_X2_wayNow l G cI cZ cJ a _ X v_g (if c_g ≤ 0 then 0 else 1) hn)) (cwV 2 hts gX2_drive_X2_wayNow rfl rfl rfl (by decide +kernel) ⟨Nat.le_of_ble_eq_true rfl, Nat.le_of_ble_eq_true rfl⟩) ⟨ro_blind, va_recv hK hP (ci := 2) (q0 := 0) rfl rfl, ro_pre hP hK hN⟩ rfl rfl hl.1 rfl (lv_room (Nat.le_of_ble_eq_true rfl)) dX2_drive_61 ⟨Nat.zero_le _, Nat.zero_le _⟩) hS hA hP (fun H locs hP hS => ?_)
            refine lv_icmp_le (tgt := 77) hx hb dX2_drive_64 (by decide) (fun c_5 => ?_) (fun c_5 => ?_)
            · have hz := c_5
              refine lv_aload_n hx hb dX2_drive_77 rfl (lv_at hl 0 rfl) ?_
              refine lv_iload_n hx hb dX2_drive_78 rfl (lv_at hl 1 rfl) ?_
              refine lv_iload_n hx hb dX2_drive_79 rfl (lv_at hl 2 rfl) ?_
              refine rw_v (wr := []) (ws' := [((a 0), .inr (2, [.ref (a 6), .ref (a 1), .int (j_pp (x_J (x_move X v_g c_g))), .int (j_po (x_J (x_move X v_g c_g))), .int (j_mc (x_J (x_move X v_g c_g))), .int (j_dc (x_J (x_move X v_g c_g))), .int (j_is (x_J (x_move X v_g c_g)))])), ((a 1), .inr (0, [.ref (a 6), .ref (a 2), .ref (a 3), .ref (a 4), .ref (a 5), .int (s_fc (x_S (x_move X v_g c_g))), .int (s_fs (x_S (x_move X v_g c_g))), .int (s_sm (x_S (x_move X v_g c_g))), .int (s_sc (x_S (x_move X v_g c_g))), .int (s_sf (x_S (x_move X v_g c_g)))])), ((a 2), .inl (cI, 800, .inl (s_fo (x_S (x_move X v_g c_g))))), ((a 3), .inl (cI, 800, .inl (s_or (x_S (x_move X v_g c_g))))), ((a 4), .inl (cI, 800, .inl (s_mo (x_S (x_move X v_g c_g))))), ((a 5), .inl (cI, 2048, .inl (s_sl (x_S (x_move X v_g c_g))))), ((a 6), .inr (1, [.ref (a 7), .ref (a 8), .ref (a 9), .ref (a 10), .int (nI (y_n (x_Y (x_move X v_g c_g)))), .long (y_rp (x_Y (x_move X v_g c_g)))])), ((a 7), .inl (cI, 9, .inl (y_sz (x_Y (x_move X v_g c_g))))), ((a 8), .inl (cZ, 9, .inl (y_ac (x_Y (x_move X v_g c_g))))), ((a 9), .inl (cI, 9, .inl (y_li (x_Y (x_move X v_g c_g))))), ((a 10), .inl (cJ, 9, .inr (.inl (y_sh (x_Y (x_move X v_g c_g))))))]) (va_runV (As := [.int v_g, .int c_g]) (rest := []) ⟨hx, hb, hml, hown, hts⟩ ((c_X2_makeMove l G cI cZ cJ a _ X v_g c_g)) (cwV 2 hts gX2_drive_X2_makeMove rfl rfl rfl (by decide +kernel) ⟨Nat.le_of_ble_eq_true rfl, Nat.le_of_ble_eq_true rfl⟩) ⟨rw_blind, va_recv hK hP (ci := 2) (q0 := 0) rfl rfl, rw_pre hP hD hK hN⟩ rfl rfl hl.1 rfl (lv_room (Nat.le_of_ble_eq_true rfl)) dX2_drive_80 ⟨Nat.zero_le _, Nat.zero_le _⟩) hS hA hP hD [0, 1, 2, 3, 4, 5, 6, 7, 8, 9, 10] [] [0, 1, 2, 3, 4, 5, 6, 7, 8, 9, 10] rfl rfl (by decide) (by decide) rfl (by decide) (fun H locs hP hD hS => ?_)
              refine vx_ret ?_
              refine W.widen (k := 1) (n := 6) (Nat.zero_le _) (Nat.zero_le _) ?_
              have hP9 := hP
              have hD9 := hD
              exact W.vret hx hb hr (fun t ht hW => ⟨⟨(x_move X v_g c_g), rfl, ⟨by rw [drive_th, if_neg (not_not_intro c_1), if_neg (by rintro (h | h | h) <;> contradiction), if_neg (not_not_intro hz)], rfl⟩, by rw [ht]; exact hP9, hD9⟩, hS.F ht⟩) hS.2.2 dX2_drive_83
            · have hz := c_5
              exact vx_throwS (A := A) (names := ex_names) hx hb hst hown (by decide +kernel) ex_fit (hts (.classLink RX2 48 ex_S) (by decide +kernel)) (hts (.initialized ex_S) (by decide +kernel)) (ex_get hE (k := 10) rfl) (vx_hat (fun w h => hts w (ie_X2_drive_52 w h)) ex_bS (ex_words hE)) ex_gS hZ.1 hZ.2 hS (hl.1.trans hml.symm) dX2_drive_67 dX2_drive_70 dX2_drive_71 dX2_drive_73 dX2_drive_76 (fun x hx => absurd (hnt x hx) id) (by decide) (Nat.le_of_ble_eq_true rfl) (Nat.le_of_ble_eq_true rfl) (Nat.le_of_ble_eq_true rfl) hlocks (xx_x hP hS (Or.inr (Or.inr ⟨rfl, by rw [drive_th, if_neg (not_not_intro c_1), if_neg (by rintro (h | h | h) <;> contradiction), if_pos hz]⟩))) hS.2.2 (Nat.le_of_ble_eq_true rfl) (Nat.le_of_ble_eq_true rfl)
          refine lv_aload_n hx hb dX2_drive_50 rfl (lv_at hl 0 rfl) ?_
          refine lv_iload_n hx hb dX2_drive_51 rfl (lv_at hl 1 rfl) ?_
          refine lv_iload_n hx hb dX2_drive_52 rfl (lv_at hl 2 rfl) ?_
          refine lv_if_le (tgt := 60) hx hb dX2_drive_53 (by decide) (fun c_6 => ?_) (fun c_6 => ?_)
          · refine lv_iconst (v := 0) hx hb dX2_drive_60 (by decide) ?_
            exact cut_61 0 (by simp [c_1, c_2, c_3, c_4, c_6]) _ _ hP hD hS _ hl
          · refine lv_iconst (v := 1) hx hb dX2_drive_56 (by decide) ?_
            refine lv_goto (tgt := 61) hx hb dX2_drive_57 (by decide) ?_
            exact cut_61 1 (by simp [c_1, c_2, c_3, c_4, c_6]) _ _ hP hD hS _ hl
        · exact vx_throwS (A := A) (names := ex_names) hx hb hst hown (by decide +kernel) ex_fit (hts (.classLink RX2 29 ex_A) (by decide +kernel)) (hts (.initialized ex_A) (by decide +kernel)) (ex_get hE (k := 9) rfl) (vx_hat (fun w h => hts w (ie_X2_drive_33 w h)) ex_bA (ex_words hE)) ex_gA hZ.1 hZ.2 hS (hl.1.trans hml.symm) dX2_drive_36 dX2_drive_39 dX2_drive_40 dX2_drive_42 dX2_drive_45 (fun x hx => absurd (hnt x hx) id) (by decide) (Nat.le_of_ble_eq_true rfl) (Nat.le_of_ble_eq_true rfl) (Nat.le_of_ble_eq_true rfl) hlocks (xx_x hP hS (Or.inr (Or.inl ⟨rfl, by rw [drive_th, if_neg (not_not_intro c_1), if_pos (by first | exact Or.inl (by assumption) | exact Or.inr (Or.inl (by assumption)) | exact Or.inr (Or.inr (by assumption)))]⟩))) hS.2.2 (Nat.le_of_ble_eq_true rfl) (Nat.le_of_ble_eq_true rfl)
  · have c_1 := b1_f c_1
    exact vx_throwS (A := A) (names := ex_names) hx hb hst hown (by decide +kernel) ex_fit (hts (.classLink RX2 113 ex_I) (by decide +kernel)) (hts (.initialized ex_I) (by decide +kernel)) (ex_get hE (k := 8) rfl) (vx_hat (fun w h => hts w (ie_X2_drive_117 w h)) ex_bI (ex_words hE)) ex_gI hZ.1 hZ.2 hS (hl.1.trans hml.symm) dX2_drive_11 dX2_drive_14 dX2_drive_15 dX2_drive_17 dX2_drive_20 (fun x hx => absurd (hnt x hx) id) (by decide) (Nat.le_of_ble_eq_true rfl) (Nat.le_of_ble_eq_true rfl) (Nat.le_of_ble_eq_true rfl) hlocks (xx_x hP hS (Or.inl ⟨rfl, by rw [drive_th, if_pos c_1]⟩)) hS.2.2 (Nat.le_of_ble_eq_true rfl) (Nat.le_of_ble_eq_true rfl)

theorem ie_X2_driveOn_117 : ∀ w ∈ (vx_atS RX2 117 ex_I ex_names).filter goodWord, w ∈ wsX2_driveOn := by decide +kernel
theorem in_X2_driveOn_2 : ∀ w ∈ wsX20, w ∈ wsX2_driveOn := by decide +kernel
set_option maxHeartbeats 4000000 in
set_option maxRecDepth 100000 in
/-- RampJam.driveOn -/
theorem c_X2_driveOn (l : Launch) (hst : l.stackTraces = false) (G : va_G) (cI cZ cJ : ClassId) (a : Nat → Nat) (sz : Nat) (sa : Nat → Nat) (X : XS) (v_g : Int32) (f_g : Int32) (hn : y_n (x_Y X) ≤ 9) : vx_Met l yX2_driveOn wsX2_driveOn ({ frames := 6, cells := 1, slots := 6, locals := 99 }) (xx_Pc G [(cI, .int), (cZ, .boolean), (cJ, .long)] (wJ cI cZ cJ a (x_J X) (x_S X) (x_Y X)) sz sa [.ref (a 0), .int v_g, .int f_g]) (xx_Qi (S := XS) (has_th X v_g = 0) (j_way X v_g f_g) (x_dron X v_g f_g) (fun u : XS => wJ cI cZ cJ a (x_J u) (x_S u) (x_Y u)) G (wJ cI cZ cJ a (x_J X) (x_S X) (x_Y X)) sz) (xx_X (fun E => (E = ex_I ∧ has_th X v_g = 1)) G (wJ cI cZ cJ a (x_J X) (x_S X) (x_Y X)) (va_A (wJ cI cZ cJ a (x_J X) (x_S X) (x_Y X)) sz)) 1 6 (va_A (wJ cI cZ cJ a (x_J X) (x_S X) (x_Y X)) sz) := by
  refine vx_ofW (cc := cX2_driveOn) (maxL := 4) (ret := (some .int)) (by decide) rfl ?_
  intro p e s m args below meth c s₁ B hml hnt hv
  obtain ⟨rfl, hsz, hP, hK, hD0, hN, hE, hZ⟩ := hv
  have hx := B.exec
  have hb := B.bytes
  have hr := B.returns
  have hts := atoms_spec (ws := wsX2_driveOn) B.pre
  have hown : s.vm.findClass RX2 = some m.cls := findClass_of_methodNamed B.named
  have hlocks := B.notSynchronized
  subst hsz
  have hD0 : va_D (fun _ => True) [((a 0), .inr (2, [.ref (a 6), .ref (a 1), .int (j_pp (x_J X)), .int (j_po (x_J X)), .int (j_mc (x_J X)), .int (j_dc (x_J X)), .int (j_is (x_J X))])), ((a 1), .inr (0, [.ref (a 6), .ref (a 2), .ref (a 3), .ref (a 4), .ref (a 5), .int (s_fc (x_S X)), .int (s_fs (x_S X)), .int (s_sm (x_S X)), .int (s_sc (x_S X)), .int (s_sf (x_S X))])), ((a 2), .inl (cI, 800, .inl (s_fo (x_S X)))), ((a 3), .inl (cI, 800, .inl (s_or (x_S X)))), ((a 4), .inl (cI, 800, .inl (s_mo (x_S X)))), ((a 5), .inl (cI, 2048, .inl (s_sl (x_S X)))), ((a 6), .inr (1, [.ref (a 7), .ref (a 8), .ref (a 9), .ref (a 10), .int (nI (y_n (x_Y X))), .long (y_rp (x_Y X))])), ((a 7), .inl (cI, 9, .inl (y_sz (x_Y X)))), ((a 8), .inl (cZ, 9, .inl (y_ac (x_Y X)))), ((a 9), .inl (cI, 9, .inl (y_li (x_Y X)))), ((a 10), .inl (cJ, 9, .inr (.inl (y_sh (x_Y X)))))] := hD0
  have hD := hD0.self (sz := s.heap.size)
  unfold xx_Qi
  generalize hAe : va_A (wJ cI cZ cJ a (x_J X) (x_S X) (x_Y X)) s.heap.size = A at hD hZ ⊢
  have hA : ∀ q : Nat, s.heap.size ≤ q → A q := fun q h => by rw [← hAe]; exact Or.inr h
  have hS : va_S A s.heap s.heap [] := va_S.rf
  have hP : va_P G vwCl [((a 0), .inr (2, [.ref (a 6), .ref (a 1), .int (j_pp (x_J X)), .int (j_po (x_J X)), .int (j_mc (x_J X)), .int (j_dc (x_J X)), .int (j_is (x_J X))])), ((a 1), .inr (0, [.ref (a 6), .ref (a 2), .ref (a 3), .ref (a 4), .ref (a 5), .int (s_fc (x_S X)), .int (s_fs (x_S X)), .int (s_sm (x_S X)), .int (s_sc (x_S X)), .int (s_sf (x_S X))])), ((a 2), .inl (cI, 800, .inl (s_fo (x_S X)))), ((a 3), .inl (cI, 800, .inl (s_or (x_S X)))), ((a 4), .inl (cI, 800, .inl (s_mo (x_S X)))), ((a 5), .inl (cI, 2048, .inl (s_sl (x_S X)))), ((a 6), .inr (1, [.ref (a 7), .ref (a 8), .ref (a 9), .ref (a 10), .int (nI (y_n (x_Y X))), .long (y_rp (x_Y X))])), ((a 7), .inl (cI, 9, .inl (y_sz (x_Y X)))), ((a 8), .inl (cZ, 9, .inl (y_ac (x_Y X)))), ((a 9), .inl (cI, 9, .inl (y_li (x_Y X)))), ((a 10), .inl (cJ, 9, .inr (.inl (y_sh (x_Y X)))))] s.heap := hP
  have hl := lv_entry ([.ref (a 0), .int v_g, .int f_g]) (n := 4) (Nat.le_of_ble_eq_true rfl)
  rw [lg_entry_eq]
  generalize (lg_sl ([.ref (a 0), .int v_g, .int f_g]) ++ List.replicate (4 - (lg_sl ([.ref (a 0), .int v_g, .int f_g])).length) Slot.unset).toArray = ls at hl ⊢
  have hl : lv_has ls 4 [(0, .ref (a 0)), (1, .int v_g), (2, .int f_g)] := hl
  refine lv_aload_n hx hb dX2_driveOn_0 rfl (lv_at hl 0 rfl) ?_
  refine va_get (D := G) (ci := 2) (v := .ref (a 6)) (C := RX2) (T := TX2) (N := 7) hx hb hts in_X2_driveOn_2 hown hK hP 0 rfl rfl 0 (by decide) (hts (.fieldLink RX2 10 "RampJam" "yard" "LRampJam$Yard;") (by decide +kernel)) (fun _ h9 => h9) rfl dX2_driveOn_1 ?_
  refine lv_iload_n hx hb dX2_driveOn_4 rfl (lv_at hl 1 rfl) ?_
  have hPc := hP.sub (ws' := [((a 6), .inr (1, [.ref (a 7), .ref (a 8), .ref (a 9), .ref (a 10), .int (nI (y_n (x_Y X))), .long (y_rp (x_Y X))])), ((a 7), .inl (cI, 9, .inl (y_sz (x_Y X)))), ((a 8), .inl (cZ, 9, .inl (y_ac (x_Y X)))), ((a 9), .inl (cI, 9, .inl (y_li (x_Y X)))), ((a 10), .inl (cJ, 9, .inr (.inl (y_sh (x_Y X)))))]) [6, 7, 8, 9, 10] rfl
  refine ro_i (va_runV (As := [.int v_g]) (rest := []) ⟨hx, hb, hml, hown, hts⟩ ((c_X1_has l G cI cZ cJ a _ (x_Y X) v_g)) (cwV 1 hts gX2_driveOn_X1_has rfl rfl rfl (by decide +kernel) ⟨Nat.le_of_ble_eq_true rfl, Nat.le_of_ble_eq_true rfl⟩) ⟨ro_blind, va_recv hK hPc (ci := 1) (q0 := 0) rfl rfl, ro_pre hPc hK hN⟩ rfl rfl hl.1 rfl (lv_room (Nat.le_of_ble_eq_true rfl)) dX2_driveOn_5 ⟨Nat.zero_le _, Nat.zero_le _⟩) hS hA hP (fun H locs hP hS => ?_)
  refine lv_if_ne (tgt := 21) hx hb dX2_driveOn_8 (by decide) (fun c_1 => ?_) (fun c_1 => ?_)
  · have c_1 := b1_t c_1
    refine lv_aload_n hx hb dX2_driveOn_21 rfl (lv_at hl 0 rfl) ?_
    refine lv_iload_n hx hb dX2_driveOn_22 rfl (lv_at hl 1 rfl) ?_
    refine lv_iload_n hx hb dX2_driveOn_23 rfl (lv_at hl 2 rfl) ?_
    refine ro_i (va_runV (As := [.int v_g, .int f_g]) (rest := []) ⟨hx, hb, hml, hown, hts⟩ ((c_X2_wayNow l G cI cZ cJ a _ X v_g f_g hn)) (cwV 2 hts gX2_driveOn_X2_wayNow rfl rfl rfl (by decide +kernel) ⟨Nat.le_of_ble_eq_true rfl, Nat.le_of_ble_eq_true rfl⟩) ⟨ro_blind, va_recv hK hP (ci := 2) (q0 := 0) rfl rfl, ro_pre hP hK hN⟩ rfl rfl hl.1 rfl (lv_room (Nat.le_of_ble_eq_true rfl)) dX2_driveOn_24 ⟨Nat.zero_le _, Nat.zero_le _⟩) hS hA hP (fun H locs hP hS => ?_)
    refine lv_istore_n (lv' := [(3, .int (j_way X v_g f_g)), (0, .ref (a 0)), (1, .int v_g), (2, .int f_g)]) hx hb dX2_driveOn_27 rfl hl (by decide) rfl (fun ls hl => ?_)
    refine lv_iload_n hx hb dX2_driveOn_28 rfl (lv_at hl 0 rfl) ?_
    refine lv_if_le (tgt := 47) hx hb dX2_driveOn_29 (by decide) (fun c_2 => ?_) (fun c_2 => ?_)
    · have hz := c_2
      refine lv_iload_n hx hb dX2_driveOn_47 rfl (lv_at hl 0 rfl) ?_
      refine vx_ret ?_
      refine W.widen (k := 1) (n := 6) (Nat.zero_le _) (Nat.zero_le _) ?_
      have hP9 := hP
      have hD9 := hD
      exact W.iret (v := (j_way X v_g f_g)) hx hb hr (fun t ht hW => ⟨⟨(j_way X v_g f_g), X, rfl, ⟨by rw [has_th, if_pos c_1], rfl, by rw [x_dron, if_pos hz]⟩, by rw [ht]; exact hP9, hD9⟩, hS.F ht⟩) hS.2.2 dX2_driveOn_48
    · have hz := c_2
      refine lv_aload_n hx hb dX2_driveOn_32 rfl (lv_at hl 1 rfl) ?_
      refine lv_iload_n hx hb dX2_driveOn_33 rfl (lv_at hl 2 rfl) ?_
      have cut_44 : ∀ (w_g : Int32), (w_g = if f_g = 0 then -j_way X v_g f_g else j_way X v_g f_g) → ∀ (H : Heap) (locs : List Loc), va_P G vwCl [((a 0), .inr (2, [.ref (a 6), .ref (a 1), .int (j_pp (x_J X)), .int (j_po (x_J X)), .int (j_mc (x_J X)), .int (j_dc (x_J X)), .int (j_is (x_J X))])), ((a 1), .inr (0, [.ref (a 6), .ref (a 2), .ref (a 3), .ref (a 4), .ref (a 5), .int (s_fc (x_S X)), .int (s_fs (x_S X)), .int (s_sm (x_S X)), .int (s_sc (x_S X)), .int (s_sf (x_S X))])), ((a 2), .inl (cI, 800, .inl (s_fo (x_S X)))), ((a 3), .inl (cI, 800, .inl (s_or (x_S X)))), ((a 4), .inl (cI, 800, .inl (s_mo (x_S X)))), ((a 5), .inl (cI, 2048, .inl (s_sl (x_S X)))), ((a 6), .inr (1, [.ref (a 7), .ref (a 8), .ref (a 9), .ref (a 10), .int (nI (y_n (x_Y X))), .long (y_rp (x_Y X))])), ((a 7), .inl (cI, 9, .inl (y_sz (x_Y X)))), ((a 8), .inl (cZ, 9, .inl (y_ac (x_Y X)))), ((a 9), .inl (cI, 9, .inl (y_li (x_Y X)))), ((a 10), .inl (cJ, 9, .inr (.inl (y_sh (x_Y X)))))] H → va_D A [((a 0), .inr (2, [.ref (a 6), .ref (a 1), .int (j_pp (x_J X)), .int (j_po (x_J X)), .int (j_mc (x_J X)), .int (j_dc (x_J X)), .int (j_is (x_J X))])), ((a 1), .inr (0, [.ref (a 6), .ref (a 2), .ref (a 3), .ref (a 4), .ref (a 5), .int (s_fc (x_S X)), .int (s_fs (x_S X)), .int (s_sm (x_S X)), .int (s_sc (x_S X)), .int (s_sf (x_S X))])), ((a 2), .inl (cI, 800, .inl (s_fo (x_S X)))), ((a 3), .inl (cI, 800, .inl (s_or (x_S X)))), ((a 4), .inl (cI, 800, .inl (s_mo (x_S X)))), ((a 5), .inl (cI, 2048, .inl (s_sl (x_S X)))), ((a 6), .inr (1, [.ref (a 7), .ref (a 8), .ref (a 9), .ref (a 10), .int (nI (y_n (x_Y X))), .long (y_rp (x_Y X))])), ((a 7), .inl (cI, 9, .inl (y_sz (x_Y X)))), ((a 8), .inl (cZ, 9, .inl (y_ac (x_Y X)))), ((a 9), .inl (cI, 9, .inl (y_li (x_Y X)))), ((a 10), .inl (cJ, 9, .inr (.inl (y_sh (x_Y X)))))] → va_S A s.heap H locs → ∀ (ls : Array Slot), lv_has ls 4 [(3, .int (j_way X v_g f_g)), (0, .ref (a 0)), (1, .int v_g), (2, .int f_g)] → W p l e (headSpec wsX2_driveOn ({ frames := 6, cells := 1, slots := 6, locals := 99 })).room s m ([.ref (a 0), .int v_g, .int f_g] : List Value).toArray below meth c H locs 0 0 (vx_MQ below (va_Qi (fun (r : Int32) (u : XS) => has_th X v_g = 0 ∧ r = (j_way X v_g f_g) ∧ u = (x_dron X v_g f_g)) (fun (u : XS) (t : State) => va_P G vwCl ((fun u : XS => wJ cI cZ cJ a (x_J u) (x_S u) (x_Y u)) u) t.heap ∧ va_D A ((fun u : XS => wJ cI cZ cJ a (x_J u) (x_S u) (x_Y u)) u)) A) (xx_X (fun E => (E = ex_I ∧ has_th X v_g = 1)) G (wJ cI cZ cJ a (x_J X) (x_S X) (x_Y X)) A) ([.ref (a 0), .int v_g, .int f_g] : List Value).toArray s 1 6 A) (F0 m 44 ls [.int w_g, .int v_g, .ref (a 0)]) := by
        intro w_g ew_g H locs hP hD hS ls hl
        subst ew_g
        try have hl : lv_has ls 4 [(3, .int (j_way X v_g f_g)), (0, .ref (a 0)), (1, .int v_g), (2, .int f_g)] := hl
        refine rw_v (wr := []) (ws' := [((a 0), .inr (2, [.ref (a 6), .ref (a 1), .int (j_pp (x_J (x_move X v_g (if f_g = 0 then -j_way X v_g f_g else j_way X v_g f_g)))), .int (j_po (x_J (x_move X v_g (if f_g = 0 then -j_way X v_g f_g else j_way X v_g f_g)))), .int (j_mc (x_J (x_move X v_g (if f_g = 0 then -j_way X v_g f_g else j_way X v_g f_g)))), .int (j_dc (x_J (x_move X v_g (if f_g = 0 then -j_way X v_g f_g else j_way X v_g f_g)))), .int (j_is (x_J (x_move X v_g (if f_g = 0 then -j_way X v_g f_g else j_way X v_g f_g))))])), ((a 1), .inr (0, [.ref (a 6), .ref (a 2), .ref (a 3), .ref (a 4), .ref (a 5), .int (s_fc (x_S (x_move X v_g (if f_g = 0 then -j_way X v_g f_g else j_way X v_g f_g)))), .int (s_fs (x_S (x_move X v_g (if f_g = 0 then -j_way X v_g f_g else j_way X v_g f_g)))), .int (s_sm (x_S (x_move X v_g (if f_g = 0 then -j_way X v_g f_g else j_way X v_g f_g)))), .int (s_sc (x_S (x_move X v_g (if f_g = 0 then -j_way X v_g f_g else j_way X v_g f_g)))), .int (s_sf (x_S (x_move X v_g (if f_g = 0 then -j_way X v_g f_g else j_way X v_g f_g))))])), ((a 2), .inl (cI, 800, .inl (s_fo (x_S (x_move X v_g (if f_g = 0 then -j_way X v_g f_g else j_way X v_g f_g)))))), ((a 3), .inl (cI, 800, .inl (s_or (x_S (x_move X v_g (if f_g = 0 then -j_way X v_g f_g else j_way X v_g f_g)))))), ((a 4), .inl (cI, 800, .inl (s_mo (x_S (x_move X v_g (if f_g = 0 then -j_way X v_g f_g else j_way X v_g f_g)))))), ((a 5), .inl (cI, 2048, .inl (s_sl (x_S (x_move X v_g (if f_g = 0 then -j_way X v_g f_g else j_way X v_g f_g)))))), ((a 6), .inr (1, [.ref (a 7), .ref (a 8), .ref (a 9), .ref (a 10), .int (nI (y_n (x_Y (x_move X v_g (if f_g = 0 then -j_way X v_g f_g else j_way X v_g f_g))))), .long (y_rp (x_Y (x_move X v_g (if f_g = 0 then -j_way X v_g f_g else j_way X v_g f_g))))])), ((a 7), .inl (cI, 9, .inl (y_sz (x_Y (x_move X v_g (if f_g = 0 then -j_way X v_g f_g else j_way X v_g f_g)))))), ((a 8), .inl (cZ, 9, .inl (y_ac (x_Y (x_move X v_g (if f_g = 0 then -j_way X v_g f_g else j_way X v_g f_g)))))), ((a 9), .inl (cI, 9, .inl (y_li (x_Y (x_move X v_g (if f_g = 0 then -j_way X v_g f_g else j_way X v_g f_g)))))), ((a 10), .inl (cJ, 9, .inr (.inl (y_sh (x_Y (x_move X v_g (if f_g = 0 then -j_way X v_g f_g else j_way X v_g f_g)))))))]) (va_runV (As := [.int v_g, .int (if f_g = 0 then -j_way X v_g f_g else j_way X v_g f_g)]) (rest := []) ⟨hx, hb, hml, hown, hts⟩ ((c_X2_makeMove l G cI cZ cJ a _ X v_g (if f_g = 0 then -j_way X v_g f_g else j_way X v_g f_g))) (cwV 2 hts gX2_driveOn_X2_makeMove rfl rfl rfl (by decide +kernel) ⟨Nat.le_of_ble_eq_true rfl, Nat.le_of_ble_eq_true rfl⟩) ⟨rw_blind, va_recv hK hP (ci := 2) (q0 := 0) rfl rfl, rw_pre hP hD hK hN⟩ rfl rfl hl.1 rfl (lv_room (Nat.le_of_ble_eq_true rfl)) dX2_driveOn_44 ⟨Nat.zero_le _, Nat.zero_le _⟩) hS hA hP hD [0, 1, 2, 3, 4, 5, 6, 7, 8, 9, 10] [] [0, 1, 2, 3, 4, 5, 6, 7, 8, 9, 10] rfl rfl (by decide) (by decide) rfl (by decide) (fun H locs hP hD hS => ?_)
        refine lv_iload_n hx hb dX2_driveOn_47 rfl (lv_at hl 0 rfl) ?_
        refine vx_ret ?_
        refine W.widen (k := 1) (n := 6) (Nat.zero_le _) (Nat.zero_le _) ?_
        have hP9 := hP
        have hD9 := hD
        exact W.iret (v := (j_way X v_g f_g)) hx hb hr (fun t ht hW => ⟨⟨(j_way X v_g f_g), (x_move X v_g (if f_g = 0 then -j_way X v_g f_g else j_way X v_g f_g)), rfl, ⟨by rw [has_th, if_pos c_1], rfl, by rw [x_dron, if_neg hz]⟩, by rw [ht]; exact hP9, hD9⟩, hS.F ht⟩) hS.2.2 dX2_driveOn_48
      refine lv_iload_n hx hb dX2_driveOn_34 rfl (lv_at hl 3 rfl) ?_
      refine lv_if_eq (tgt := 42) hx hb dX2_driveOn_35 (by decide) (fun c_3 => ?_) (fun c_3 => ?_)
      · refine lv_iload_n hx hb dX2_driveOn_42 rfl (lv_at hl 0 rfl) ?_
        refine lv_ineg hx hb dX2_driveOn_43 ?_
        exact cut_44 (-(j_way X v_g f_g)) (by simp [c_1, c_2, c_3]) _ _ hP hD hS _ hl
      · refine lv_iload_n hx hb dX2_driveOn_38 rfl (lv_at hl 0 rfl) ?_
        refine lv_goto (tgt := 44) hx hb dX2_driveOn_39 (by decide) ?_
        exact cut_44 (j_way X v_g f_g) (by simp [c_1, c_2, c_3]) _ _ hP hD hS _ hl
  · have c_1 := b1_f c_1
    exact vx_throwS (A := A) (names := ex_names) hx hb hst hown (by decide +kernel) ex_fit (hts (.classLink RX2 113 ex_I) (by decide +kernel)) (hts (.initialized ex_I) (by decide +kernel)) (ex_get hE (k := 8) rfl) (vx_hat (fun w h => hts w (ie_X2_driveOn_117 w h)) ex_bI (ex_words hE)) ex_gI hZ.1 hZ.2 hS (hl.1.trans hml.symm) dX2_driveOn_11 dX2_driveOn_14 dX2_driveOn_15 dX2_driveOn_17 dX2_driveOn_20 (fun x hx => absurd (hnt x hx) id) (by decide) (Nat.le_of_ble_eq_true rfl) (Nat.le_of_ble_eq_true rfl) (Nat.le_of_ble_eq_true rfl) hlocks (xx_x hP hS (⟨rfl, by rw [has_th, if_neg c_1]⟩)) hS.2.2 (Nat.le_of_ble_eq_true rfl) (Nat.le_of_ble_eq_true rfl)

theorem ie_X2_park_33 : ∀ w ∈ (vx_atS RX2 33 ex_A ex_names).filter goodWord, w ∈ wsX2_park := by decide +kernel
theorem ie_X2_park_52 : ∀ w ∈ (vx_atS RX2 52 ex_S ex_names).filter goodWord, w ∈ wsX2_park := by decide +kernel
theorem in_X2_park_2 : ∀ w ∈ wsX20, w ∈ wsX2_park := by decide +kernel
set_option maxHeartbeats 4000000 in
set_option maxRecDepth 100000 in
/-- RampJam.park -/
theorem c_X2_park (l : Launch) (hst : l.stackTraces = false) (G : va_G) (cI cZ cJ : ClassId) (a : Nat → Nat) (sz : Nat) (sa : Nat → Nat) (X : XS) (c_g : Int32) (a_g : Int32) (r_g : Int32) (q_g : Int32) (hn : y_n (x_Y X) ≤ 9) : vx_Met l yX2_park wsX2_park ({ frames := 6, cells := 1, slots := 6, locals := 90 }) (xx_Pc G [(cI, .int), (cZ, .boolean), (cJ, .long)] (wJ cI cZ cJ a (x_J X) (x_S X) (x_Y X)) sz sa [.ref (a 0), .int c_g, .int a_g, .int r_g, .int q_g]) (xx_Qi (S := XS) (park_th X c_g a_g r_g q_g = 0) (y_num (x_Y X)) (x_park X c_g a_g r_g q_g) (fun u : XS => wJ cI cZ cJ a (x_J u) (x_S u) (x_Y u)) G (wJ cI cZ cJ a (x_J X) (x_S X) (x_Y X)) sz) (xx_X (fun E => (E = ex_A ∧ park_th X c_g a_g r_g q_g = 1) ∨ (E = ex_S ∧ park_th X c_g a_g r_g q_g = 2)) G (wJ cI cZ cJ a (x_J X) (x_S X) (x_Y X)) (va_A (wJ cI cZ cJ a (x_J X) (x_S X) (x_Y X)) sz)) 1 6 (va_A (wJ cI cZ cJ a (x_J X) (x_S X) (x_Y X)) sz) := by
  refine vx_ofW (cc := cX2_park) (maxL := 10) (ret := (some .int)) (by decide) rfl ?_
  intro p e s m args below meth c s₁ B hml hnt hv
  obtain ⟨rfl, hsz, hP, hK, hD0, hN, hE, hZ⟩ := hv
  have hx := B.exec
  have hb := B.bytes
  have hr := B.returns
  have hts := atoms_spec (ws := wsX2_park) B.pre
  have hown : s.vm.findClass RX2 = some m.cls := findClass_of_methodNamed B.named
  have hlocks := B.notSynchronized
  subst hsz
  have hD0 : va_D (fun _ => True) [((a 0), .inr (2, [.ref (a 6), .ref (a 1), .int (j_pp (x_J X)), .int (j_po (x_J X)), .int (j_mc (x_J X)), .int (j_dc (x_J X)), .int (j_is (x_J X))])), ((a 1), .inr (0, [.ref (a 6), .ref (a 2), .ref (a 3), .ref (a 4), .ref (a 5), .int (s_fc (x_S X)), .int (s_fs (x_S X)), .int (s_sm (x_S X)), .int (s_sc (x_S X)), .int (s_sf (x_S X))])), ((a 2), .inl (cI, 800, .inl (s_fo (x_S X)))), ((a 3), .inl (cI, 800, .inl (s_or (x_S X)))), ((a 4), .inl (cI, 800, .inl (s_mo (x_S X)))), ((a 5), .inl (cI, 2048, .inl (s_sl (x_S X)))), ((a 6), .inr (1, [.ref (a 7), .ref (a 8), .ref (a 9), .ref (a 10), .int (nI (y_n (x_Y X))), .long (y_rp (x_Y X))])), ((a 7), .inl (cI, 9, .inl (y_sz (x_Y X)))), ((a 8), .inl (cZ, 9, .inl (y_ac (x_Y X)))), ((a 9), .inl (cI, 9, .inl (y_li (x_Y X)))), ((a 10), .inl (cJ, 9, .inr (.inl (y_sh (x_Y X)))))] := hD0
  have hD := hD0.self (sz := s.heap.size)
  unfold xx_Qi
  generalize hAe : va_A (wJ cI cZ cJ a (x_J X) (x_S X) (x_Y X)) s.heap.size = A at hD hZ ⊢
  have hA : ∀ q : Nat, s.heap.size ≤ q → A q := fun q h => by rw [← hAe]; exact Or.inr h
  have hS : va_S A s.heap s.heap [] := va_S.rf
  have hP : va_P G vwCl [((a 0), .inr (2, [.ref (a 6), .ref (a 1), .int (j_pp (x_J X)), .int (j_po (x_J X)), .int (j_mc (x_J X)), .int (j_dc (x_J X)), .int (j_is (x_J X))])), ((a 1), .inr (0, [.ref (a 6), .ref (a 2), .ref (a 3), .ref (a 4), .ref (a 5), .int (s_fc (x_S X)), .int (s_fs (x_S X)), .int (s_sm (x_S X)), .int (s_sc (x_S X)), .int (s_sf (x_S X))])), ((a 2), .inl (cI, 800, .inl (s_fo (x_S X)))), ((a 3), .inl (cI, 800, .inl (s_or (x_S X)))), ((a 4), .inl (cI, 800, .inl (s_mo (x_S X)))), ((a 5), .inl (cI, 2048, .inl (s_sl (x_S X)))), ((a 6), .inr (1, [.ref (a 7), .ref (a 8), .ref (a 9), .ref (a 10), .int (nI (y_n (x_Y X))), .long (y_rp (x_Y X))])), ((a 7), .inl (cI, 9, .inl (y_sz (x_Y X)))), ((a 8), .inl (cZ, 9, .inl (y_ac (x_Y X)))), ((a 9), .inl (cI, 9, .inl (y_li (x_Y X)))), ((a 10), .inl (cJ, 9, .inr (.inl (y_sh (x_Y X)))))] s.heap := hP
  have hl := lv_entry ([.ref (a 0), .int c_g, .int a_g, .int r_g, .int q_g]) (n := 10) (Nat.le_of_ble_eq_true rfl)
  rw [lg_entry_eq]
  generalize (lg_sl ([.ref (a 0), .int c_g, .int a_g, .int r_g, .int q_g]) ++ List.replicate (10 - (lg_sl ([.ref (a 0), .int c_g, .int a_g, .int r_g, .int q_g])).length) Slot.unset).toArray = ls at hl ⊢
  have hl : lv_has ls 10 [(0, .ref (a 0)), (1, .int c_g), (2, .int a_g), (3, .int r_g), (4, .int q_g)] := hl
  refine lv_iload_n hx hb dX2_park_0 rfl (lv_at hl 1 rfl) ?_
  refine lv_iconst (v := 2) hx hb dX2_park_1 (by decide) ?_
  refine lv_icmp_lt (tgt := 19) hx hb dX2_park_2 (by decide) (fun c_1 => ?_) (fun c_1 => ?_)
  · exact vx_throwS (A := A) (names := ex_names) hx hb hst hown (by decide +kernel) ex_fit (hts (.classLink RX2 29 ex_A) (by decide +kernel)) (hts (.initialized ex_A) (by decide +kernel)) (ex_get hE (k := 0) rfl) (vx_hat (fun w h => hts w (ie_X2_park_33 w h)) ex_bA (ex_words hE)) ex_gA hZ.1 hZ.2 hS (hl.1.trans hml.symm) dX2_park_19 dX2_park_22 dX2_park_23 dX2_park_25 dX2_park_28 (fun x hx => absurd (hnt x hx) id) (by decide) (Nat.le_of_ble_eq_true rfl) (Nat.le_of_ble_eq_true rfl) (Nat.le_of_ble_eq_true rfl) hlocks (xx_x hP hS (Or.inl ⟨rfl, by rw [park_th, if_pos (by first | exact Or.inl (by assumption) | exact Or.inr (Or.inl (by assumption)) | exact Or.inr (Or.inr (by assumption)))]⟩)) hS.2.2 (Nat.le_of_ble_eq_true rfl) (Nat.le_of_ble_eq_true rfl)
  · refine lv_iload_n hx hb dX2_park_5 rfl (lv_at hl 1 rfl) ?_
    refine lv_iconst (v := 4) hx hb dX2_park_6 (by decide) ?_
    refine lv_icmp_gt (tgt := 19) hx hb dX2_park_7 (by decide) (fun c_2 => ?_) (fun c_2 => ?_)
    · exact vx_throwS (A := A) (names := ex_names) hx hb hst hown (by decide +kernel) ex_fit (hts (.classLink RX2 29 ex_A) (by decide +kernel)) (hts (.initialized ex_A) (by decide +kernel)) (ex_get hE (k := 0) rfl) (vx_hat (fun w h => hts w (ie_X2_park_33 w h)) ex_bA (ex_words hE)) ex_gA hZ.1 hZ.2 hS (hl.1.trans hml.symm) dX2_park_19 dX2_park_22 dX2_park_23 dX2_park_25 dX2_park_28 (fun x hx => absurd (hnt x hx) id) (by decide) (Nat.le_of_ble_eq_true rfl) (Nat.le_of_ble_eq_true rfl) (Nat.le_of_ble_eq_true rfl) hlocks (xx_x hP hS (Or.inl ⟨rfl, by rw [park_th, if_pos (by first | exact Or.inl (by assumption) | exact Or.inr (Or.inl (by assumption)) | exact Or.inr (Or.inr (by assumption)))]⟩)) hS.2.2 (Nat.le_of_ble_eq_true rfl) (Nat.le_of_ble_eq_true rfl)
    · refine lv_iload_n hx hb dX2_park_10 rfl (lv_at hl 3 rfl) ?_
      refine lv_iload hx hb dX2_park_11 (lv_at hl 4 rfl) ?_
      refine ro_i (va_runS (As := [.int r_g, .int q_g]) (rest := []) ⟨hx, hb, hml, hown, hts⟩ ((c_X2_isInYard l G cI cZ cJ a _ r_g q_g)) (va_cwS 2 hts gX2_park_X2_isInYard rfl rfl rfl (by decide +kernel) ⟨Nat.le_of_ble_eq_true rfl, Nat.le_of_ble_eq_true rfl⟩) ⟨ro_blind, ro_pre va_P0 hK hN⟩ rfl rfl hl.1 rfl (lv_room (Nat.le_of_ble_eq_true rfl)) dX2_park_13 ⟨Nat.zero_le _, Nat.zero_le _⟩) hS hA hP (fun H locs hP hS => ?_)
      refine lv_if_ne (tgt := 29) hx hb dX2_park_16 (by decide) (fun c_3 => ?_) (fun c_3 => ?_)
      · have c_3 := b1_t c_3
        have cut_39 : ∀ (z_g : Int32), (z_g = p_line a_g r_g q_g) → ∀ (H : Heap) (locs : List Loc), va_P G vwCl [((a 0), .inr (2, [.ref (a 6), .ref (a 1), .int (j_pp (x_J X)), .int (j_po (x_J X)), .int (j_mc (x_J X)), .int (j_dc (x_J X)), .int (j_is (x_J X))])), ((a 1), .inr (0, [.ref (a 6), .ref (a 2), .ref (a 3), .ref (a 4), .ref (a 5), .int (s_fc (x_S X)), .int (s_fs (x_S X)), .int (s_sm (x_S X)), .int (s_sc (x_S X)), .int (s_sf (x_S X))])), ((a 2), .inl (cI, 800, .inl (s_fo (x_S X)))), ((a 3), .inl (cI, 800, .inl (s_or (x_S X)))), ((a 4), .inl (cI, 800, .inl (s_mo (x_S X)))), ((a 5), .inl (cI, 2048, .inl (s_sl (x_S X)))), ((a 6), .inr (1, [.ref (a 7), .ref (a 8), .ref (a 9), .ref (a 10), .int (nI (y_n (x_Y X))), .long (y_rp (x_Y X))])), ((a 7), .inl (cI, 9, .inl (y_sz (x_Y X)))), ((a 8), .inl (cZ, 9, .inl (y_ac (x_Y X)))), ((a 9), .inl (cI, 9, .inl (y_li (x_Y X)))), ((a 10), .inl (cJ, 9, .inr (.inl (y_sh (x_Y X)))))] H → va_D A [((a 0), .inr (2, [.ref (a 6), .ref (a 1), .int (j_pp (x_J X)), .int (j_po (x_J X)), .int (j_mc (x_J X)), .int (j_dc (x_J X)), .int (j_is (x_J X))])), ((a 1), .inr (0, [.ref (a 6), .ref (a 2), .ref (a 3), .ref (a 4), .ref (a 5), .int (s_fc (x_S X)), .int (s_fs (x_S X)), .int (s_sm (x_S X)), .int (s_sc (x_S X)), .int (s_sf (x_S X))])), ((a 2), .inl (cI, 800, .inl (s_fo (x_S X)))), ((a 3), .inl (cI, 800, .inl (s_or (x_S X)))), ((a 4), .inl (cI, 800, .inl (s_mo (x_S X)))), ((a 5), .inl (cI, 2048, .inl (s_sl (x_S X)))), ((a 6), .inr (1, [.ref (a 7), .ref (a 8), .ref (a 9), .ref (a 10), .int (nI (y_n (x_Y X))), .long (y_rp (x_Y X))])), ((a 7), .inl (cI, 9, .inl (y_sz (x_Y X)))), ((a 8), .inl (cZ, 9, .inl (y_ac (x_Y X)))), ((a 9), .inl (cI, 9, .inl (y_li (x_Y X)))), ((a 10), .inl (cJ, 9, .inr (.inl (y_sh (x_Y X)))))] → va_S A s.heap H locs → ∀ (ls : Array Slot), lv_has ls 10 [(0, .ref (a 0)), (1, .int c_g), (2, .int a_g), (3, .int r_g), (4, .int q_g)] → W p l e (headSpec wsX2_park ({ frames := 6, cells := 1, slots := 6, locals := 90 })).room s m ([.ref (a 0), .int c_g, .int a_g, .int r_g, .int q_g] : List Value).toArray below meth c H locs 0 0 (vx_MQ below (va_Qi (fun (r : Int32) (u : XS) => park_th X c_g a_g r_g q_g = 0 ∧ r = (y_num (x_Y X)) ∧ u = (x_park X c_g a_g r_g q_g)) (fun (u : XS) (t : State) => va_P G vwCl ((fun u : XS => wJ cI cZ cJ a (x_J u) (x_S u) (x_Y u)) u) t.heap ∧ va_D A ((fun u : XS => wJ cI cZ cJ a (x_J u) (x_S u) (x_Y u)) u)) A) (xx_X (fun E => (E = ex_A ∧ park_th X c_g a_g r_g q_g = 1) ∨ (E = ex_S ∧ park_th X c_g a_g r_g q_g = 2)) G (wJ cI cZ cJ a (x_J X) (x_S X) (x_Y X)) A) ([.ref (a 0), .int c_g, .int a_g, .int r_g, .int q_g] : List Value).toArray s 1 6 A) (F0 m 39 ls [.int z_g]) := by
          intro z_g ez_g H locs hP hD hS ls hl
          subst ez_g
          try have hl : lv_has ls 10 [(0, .ref (a 0)), (1, .int c_g), (2, .int a_g), (3, .int r_g), (4, .int q_g)] := hl
          refine lv_istore (lv' := [(5, .int (p_line a_g r_g q_g)), (0, .ref (a 0)), (1, .int c_g), (2, .int a_g), (3, .int r_g), (4, .int q_g)]) hx hb dX2_park_39 hl (by decide) rfl (fun ls hl => ?_)
          have cut_51 : ∀ (z_g : Int32), (z_g = p_plc a_g r_g q_g) → ∀ (H : Heap) (locs : List Loc), va_P G vwCl [((a 0), .inr (2, [.ref (a 6), .ref (a 1), .int (j_pp (x_J X)), .int (j_po (x_J X)), .int (j_mc (x_J X)), .int (j_dc (x_J X)), .int (j_is (x_J X))])), ((a 1), .inr (0, [.ref (a 6), .ref (a 2), .ref (a 3), .ref (a 4), .ref (a 5), .int (s_fc (x_S X)), .int (s_fs (x_S X)), .int (s_sm (x_S X)), .int (s_sc (x_S X)), .int (s_sf (x_S X))])), ((a 2), .inl (cI, 800, .inl (s_fo (x_S X)))), ((a 3), .inl (cI, 800, .inl (s_or (x_S X)))), ((a 4), .inl (cI, 800, .inl (s_mo (x_S X)))), ((a 5), .inl (cI, 2048, .inl (s_sl (x_S X)))), ((a 6), .inr (1, [.ref (a 7), .ref (a 8), .ref (a 9), .ref (a 10), .int (nI (y_n (x_Y X))), .long (y_rp (x_Y X))])), ((a 7), .inl (cI, 9, .inl (y_sz (x_Y X)))), ((a 8), .inl (cZ, 9, .inl (y_ac (x_Y X)))), ((a 9), .inl (cI, 9, .inl (y_li (x_Y X)))), ((a 10), .inl (cJ, 9, .inr (.inl (y_sh (x_Y X)))))] H → va_D A [((a 0), .inr (2, [.ref (a 6), .ref (a 1), .int (j_pp (x_J X)), .int (j_po (x_J X)), .int (j_mc (x_J X)), .int (j_dc (x_J X)), .int (j_is (x_J X))])), ((a 1), .inr (0, [.ref (a 6), .ref (a 2), .ref (a 3), .ref (a 4), .ref (a 5), .int (s_fc (x_S X)), .int (s_fs (x_S X)), .int (s_sm (x_S X)), .int (s_sc (x_S X)), .int (s_sf (x_S X))])), ((a 2), .inl (cI, 800, .inl (s_fo (x_S X)))), ((a 3), .inl (cI, 800, .inl (s_or (x_S X)))), ((a 4), .inl (cI, 800, .inl (s_mo (x_S X)))), ((a 5), .inl (cI, 2048, .inl (s_sl (x_S X)))), ((a 6), .inr (1, [.ref (a 7), .ref (a 8), .ref (a 9), .ref (a 10), .int (nI (y_n (x_Y X))), .long (y_rp (x_Y X))])), ((a 7), .inl (cI, 9, .inl (y_sz (x_Y X)))), ((a 8), .inl (cZ, 9, .inl (y_ac (x_Y X)))), ((a 9), .inl (cI, 9, .inl (y_li (x_Y X)))), ((a 10), .inl (cJ, 9, .inr (.inl (y_sh (x_Y X)))))] → va_S A s.heap H locs → ∀ (ls : Array Slot), lv_has ls 10 [(5, .int (p_line a_g r_g q_g)), (0, .ref (a 0)), (1, .int c_g), (2, .int a_g), (3, .int r_g), (4, .int q_g)] → W p l e (headSpec wsX2_park ({ frames := 6, cells := 1, slots := 6, locals := 90 })).room s m ([.ref (a 0), .int c_g, .int a_g, .int r_g, .int q_g] : List Value).toArray below meth c H locs 0 0 (vx_MQ below (va_Qi (fun (r : Int32) (u : XS) => park_th X c_g a_g r_g q_g = 0 ∧ r = (y_num (x_Y X)) ∧ u = (x_park X c_g a_g r_g q_g)) (fun (u : XS) (t : State) => va_P G vwCl ((fun u : XS => wJ cI cZ cJ a (x_J u) (x_S u) (x_Y u)) u) t.heap ∧ va_D A ((fun u : XS => wJ cI cZ cJ a (x_J u) (x_S u) (x_Y u)) u)) A) (xx_X (fun E => (E = ex_A ∧ park_th X c_g a_g r_g q_g = 1) ∨ (E = ex_S ∧ park_th X c_g a_g r_g q_g = 2)) G (wJ cI cZ cJ a (x_J X) (x_S X) (x_Y X)) A) ([.ref (a 0), .int c_g, .int a_g, .int r_g, .int q_g] : List Value).toArray s 1 6 A) (F0 m 51 ls [.int z_g]) := by
            intro z_g ez_g H locs hP hD hS ls hl
            subst ez_g
            try have hl : lv_has ls 10 [(5, .int (p_line a_g r_g q_g)), (0, .ref (a 0)), (1, .int c_g), (2, .int a_g), (3, .int r_g), (4, .int q_g)] := hl
            refine lv_istore (lv' := [(6, .int (p_plc a_g r_g q_g)), (5, .int (p_line a_g r_g q_g)), (0, .ref (a 0)), (1, .int c_g), (2, .int a_g), (3, .int r_g), (4, .int q_g)]) hx hb dX2_park_51 hl (by decide) rfl (fun ls hl => ?_)
            refine lv_iload hx hb dX2_park_53 (lv_at hl 0 rfl) ?_
            refine lv_iload_n hx hb dX2_park_55 rfl (lv_at hl 3 rfl) ?_
            refine lv_iadd hx hb dX2_park_56 ?_
            refine lv_bipush (v := 6) hx hb dX2_park_57 (by decide) ?_
            refine lv_icmp_le (tgt := 72) hx hb dX2_park_59 (by decide) (fun c_4 => ?_) (fun c_4 => ?_)
            · have hp := c_4
              have cut_106 : (¬ (nI (y_n (x_Y X)) = 0 ∧ (¬ c_g = 2 ∨ a_g = 0 ∨ ¬ r_g = 2))) → ∀ (H : Heap) (locs : List Loc), va_P G vwCl [((a 0), .inr (2, [.ref (a 6), .ref (a 1), .int (j_pp (x_J X)), .int (j_po (x_J X)), .int (j_mc (x_J X)), .int (j_dc (x_J X)), .int (j_is (x_J X))])), ((a 1), .inr (0, [.ref (a 6), .ref (a 2), .ref (a 3), .ref (a 4), .ref (a 5), .int (s_fc (x_S X)), .int (s_fs (x_S X)), .int (s_sm (x_S X)), .int (s_sc (x_S X)), .int (s_sf (x_S X))])), ((a 2), .inl (cI, 800, .inl (s_fo (x_S X)))), ((a 3), .inl (cI, 800, .inl (s_or (x_S X)))), ((a 4), .inl (cI, 800, .inl (s_mo (x_S X)))), ((a 5), .inl (cI, 2048, .inl (s_sl (x_S X)))), ((a 6), .inr (1, [.ref (a 7), .ref (a 8), .ref (a 9), .ref (a 10), .int (nI (y_n (x_Y X))), .long (y_rp (x_Y X))])), ((a 7), .inl (cI, 9, .inl (y_sz (x_Y X)))), ((a 8), .inl (cZ, 9, .inl (y_ac (x_Y X)))), ((a 9), .inl (cI, 9, .inl (y_li (x_Y X)))), ((a 10), .inl (cJ, 9, .inr (.inl (y_sh (x_Y X)))))] H → va_D A [((a 0), .inr (2, [.ref (a 6), .ref (a 1), .int (j_pp (x_J X)), .int (j_po (x_J X)), .int (j_mc (x_J X)), .int (j_dc (x_J X)), .int (j_is (x_J X))])), ((a 1), .inr (0, [.ref (a 6), .ref (a 2), .ref (a 3), .ref (a 4), .ref (a 5), .int (s_fc (x_S X)), .int (s_fs (x_S X)), .int (s_sm (x_S X)), .int (s_sc (x_S X)), .int (s_sf (x_S X))])), ((a 2), .inl (cI, 800, .inl (s_fo (x_S X)))), ((a 3), .inl (cI, 800, .inl (s_or (x_S X)))), ((a 4), .inl (cI, 800, .inl (s_mo (x_S X)))), ((a 5), .inl (cI, 2048, .inl (s_sl (x_S X)))), ((a 6), .inr (1, [.ref (a 7), .ref (a 8), .ref (a 9), .ref (a 10), .int (nI (y_n (x_Y X))), .long (y_rp (x_Y X))])), ((a 7), .inl (cI, 9, .inl (y_sz (x_Y X)))), ((a 8), .inl (cZ, 9, .inl (y_ac (x_Y X)))), ((a 9), .inl (cI, 9, .inl (y_li (x_Y X)))), ((a 10), .inl (cJ, 9, .inr (.inl (y_sh (x_Y X)))))] → va_S A s.heap H locs → ∀ (ls : Array Slot), lv_has ls 10 [(6, .int (p_plc a_g r_g q_g)), (5, .int (p_line a_g r_g q_g)), (0, .ref (a 0)), (1, .int c_g), (2, .int a_g), (3, .int r_g), (4, .int q_g)] → W p l e (headSpec wsX2_park ({ frames := 6, cells := 1, slots := 6, locals := 90 })).room s m ([.ref (a 0), .int c_g, .int a_g, .int r_g, .int q_g] : List Value).toArray below meth c H locs 0 0 (vx_MQ below (va_Qi (fun (r : Int32) (u : XS) => park_th X c_g a_g r_g q_g = 0 ∧ r = (y_num (x_Y X)) ∧ u = (x_park X c_g a_g r_g q_g)) (fun (u : XS) (t : State) => va_P G vwCl ((fun u : XS => wJ cI cZ cJ a (x_J u) (x_S u) (x_Y u)) u) t.heap ∧ va_D A ((fun u : XS => wJ cI cZ cJ a (x_J u) (x_S u) (x_Y u)) u)) A) (xx_X (fun E => (E = ex_A ∧ park_th X c_g a_g r_g q_g = 1) ∨ (E = ex_S ∧ park_th X c_g a_g r_g q_g = 2)) G (wJ cI cZ cJ a (x_J X) (x_S X) (x_Y X)) A) ([.ref (a 0), .int c_g, .int a_g, .int r_g, .int q_g] : List Value).toArray s 1 6 A) (F0 m 106 ls []) := by
                intro  h106 H locs hP hD hS ls hl
                refine lv_aload_n hx hb dX2_park_106 rfl (lv_at hl 2 rfl) ?_
                refine va_get (D := G) (ci := 2) (v := .int (j_mc (x_J X))) (C := RX2) (T := TX2) (N := 7) hx hb hts in_X2_park_2 hown hK hP 0 rfl rfl 4 (by decide) (hts (.fieldLink RX2 44 "RampJam" "moveCount" "I") (by decide +kernel)) (fun _ h9 => h9) rfl dX2_park_107 ?_
                refine lv_if_gt (tgt := 125) hx hb dX2_park_110 (by decide) (fun c_5 => ?_) (fun c_5 => ?_)
                · exact vx_throwS (A := A) (names := ex_names) hx hb hst hown (by decide +kernel) ex_fit (hts (.classLink RX2 48 ex_S) (by decide +kernel)) (hts (.initialized ex_S) (by decide +kernel)) (ex_get hE (k := 3) rfl) (vx_hat (fun w h => hts w (ie_X2_park_52 w h)) ex_bS (ex_words hE)) ex_gS hZ.1 hZ.2 hS (hl.1.trans hml.symm) dX2_park_125 dX2_park_128 dX2_park_129 dX2_park_131 dX2_park_134 (fun x hx => absurd (hnt x hx) id) (by decide) (Nat.le_of_ble_eq_true rfl) (Nat.le_of_ble_eq_true rfl) (Nat.le_of_ble_eq_true rfl) hlocks (xx_x hP hS (Or.inr ⟨rfl, by rw [park_th, if_neg (by rintro (h | h | h) <;> contradiction), if_neg (not_not_intro hp), if_neg h106, if_pos (by first | exact Or.inl (by assumption) | exact Or.inr (by assumption))]⟩)) hS.2.2 (Nat.le_of_ble_eq_true rfl) (Nat.le_of_ble_eq_true rfl)
                · refine lv_aload_n hx hb dX2_park_113 rfl (lv_at hl 2 rfl) ?_
                  refine va_get (D := G) (ci := 2) (v := .ref (a 6)) (C := RX2) (T := TX2) (N := 7) hx hb hts in_X2_park_2 hown hK hP 0 rfl rfl 0 (by decide) (hts (.fieldLink RX2 10 "RampJam" "yard" "LRampJam$Yard;") (by decide +kernel)) (fun _ h9 => h9) rfl dX2_park_114 ?_
                  have hPc := hP.sub (ws' := [((a 6), .inr (1, [.ref (a 7), .ref (a 8), .ref (a 9), .ref (a 10), .int (nI (y_n (x_Y X))), .long (y_rp (x_Y X))])), ((a 7), .inl (cI, 9, .inl (y_sz (x_Y X)))), ((a 8), .inl (cZ, 9, .inl (y_ac (x_Y X)))), ((a 9), .inl (cI, 9, .inl (y_li (x_Y X)))), ((a 10), .inl (cJ, 9, .inr (.inl (y_sh (x_Y X)))))]) [6, 7, 8, 9, 10] rfl
                  refine ro_i (va_runV (As := []) (rest := []) ⟨hx, hb, hml, hown, hts⟩ ((c_X1_count l G cI cZ cJ a _ (x_Y X))) (cwV 0 hts gX2_park_X1_count rfl rfl rfl (by decide +kernel) ⟨Nat.le_of_ble_eq_true rfl, Nat.le_of_ble_eq_true rfl⟩) ⟨ro_blind, va_recv hK hPc (ci := 1) (q0 := 0) rfl rfl, ro_pre hPc hK hN⟩ rfl rfl hl.1 rfl (lv_room (Nat.le_of_ble_eq_true rfl)) dX2_park_117 ⟨Nat.zero_le _, Nat.zero_le _⟩) hS hA hP (fun H locs hP hS => ?_)
                  refine lv_bipush (v := 9) hx hb dX2_park_120 (by decide) ?_
                  refine lv_icmp_lt (tgt := 135) hx hb dX2_park_122 (by decide) (fun c_6 => ?_) (fun c_6 => ?_)
                  · refine lv_iload_n hx hb dX2_park_135 rfl (lv_at hl 3 rfl) ?_
                    refine lv_iload_n hx hb dX2_park_136 rfl (lv_at hl 4 rfl) ?_
                    refine lv_iload_n hx hb dX2_park_137 rfl (lv_at hl 5 rfl) ?_
                    refine lv_iload hx hb dX2_park_138 (lv_at hl 6 rfl) ?_
                    refine ro_l (va_runS (As := [.int c_g, .int a_g, .int r_g, .int q_g]) (rest := []) ⟨hx, hb, hml, hown, hts⟩ ((c_X2_cellsOf l G cI cZ cJ a _ c_g a_g r_g q_g)) (va_cwS 4 hts gX2_park_X2_cellsOf rfl rfl rfl (by decide +kernel) ⟨Nat.le_of_ble_eq_true rfl, Nat.le_of_ble_eq_true rfl⟩) ⟨ro_blind, ro_pre va_P0 hK hN⟩ rfl rfl hl.1 rfl (lv_room (Nat.le_of_ble_eq_true rfl)) dX2_park_140 ⟨Nat.zero_le _, Nat.zero_le _⟩) hS hA hP (fun H locs hP hS => ?_)
                    refine lv_lstore (lv' := [(7, .long (cso a_g r_g q_g (min c_g.toNatClampNeg 4))), (6, .int (p_plc a_g r_g q_g)), (5, .int (p_line a_g r_g q_g)), (0, .ref (a 0)), (1, .int c_g), (2, .int a_g), (3, .int r_g), (4, .int q_g)]) hx hb dX2_park_143 hl (by decide) rfl (fun ls hl => ?_)
                    refine lv_lload hx hb dX2_park_145 (lv_at hl 0 rfl) ?_
                    refine lv_aload_n hx hb dX2_park_147 rfl (lv_at hl 3 rfl) ?_
                    refine va_get (D := G) (ci := 2) (v := .ref (a 6)) (C := RX2) (T := TX2) (N := 7) hx hb hts in_X2_park_2 hown hK hP 0 rfl rfl 0 (by decide) (hts (.fieldLink RX2 10 "RampJam" "yard" "LRampJam$Yard;") (by decide +kernel)) (fun _ h9 => h9) rfl dX2_park_148 ?_
                    refine lv_aload_n hx hb dX2_park_151 rfl (lv_at hl 3 rfl) ?_
                    refine va_get (D := G) (ci := 2) (v := .int (j_po (x_J X))) (C := RX2) (T := TX2) (N := 7) hx hb hts in_X2_park_2 hown hK hP 0 rfl rfl 3 (by decide) (hts (.fieldLink RX2 57 "RampJam" "position" "I") (by decide +kernel)) (fun _ h9 => h9) rfl dX2_park_152 ?_
                    have hPc := hP.sub (ws' := [((a 6), .inr (1, [.ref (a 7), .ref (a 8), .ref (a 9), .ref (a 10), .int (nI (y_n (x_Y X))), .long (y_rp (x_Y X))])), ((a 7), .inl (cI, 9, .inl (y_sz (x_Y X)))), ((a 8), .inl (cZ, 9, .inl (y_ac (x_Y X)))), ((a 9), .inl (cI, 9, .inl (y_li (x_Y X)))), ((a 10), .inl (cJ, 9, .inr (.inl (y_sh (x_Y X)))))]) [6, 7, 8, 9, 10] rfl
                    refine ro_l (va_runV (As := [.int (j_po (x_J X))]) (rest := [.long (cso a_g r_g q_g (min c_g.toNatClampNeg 4))]) ⟨hx, hb, hml, hown, hts⟩ ((c_X1_filledIn l G cI cZ cJ a _ (x_Y X) (j_po (x_J X)) hn)) (cwV 1 hts gX2_park_X1_filledIn rfl rfl rfl (by decide +kernel) ⟨Nat.le_of_ble_eq_true rfl, Nat.le_of_ble_eq_true rfl⟩) ⟨ro_blind, va_recv hK hPc (ci := 1) (q0 := 0) rfl rfl, ro_pre hPc hK hN⟩ rfl rfl hl.1 rfl (lv_room (Nat.le_of_ble_eq_true rfl)) dX2_park_155 ⟨Nat.zero_le _, Nat.zero_le _⟩) hS hA hP (fun H locs hP hS => ?_)
                    refine lv_aload_n hx hb dX2_park_158 rfl (lv_at hl 3 rfl) ?_
                    refine va_get (D := G) (ci := 2) (v := .ref (a 6)) (C := RX2) (T := TX2) (N := 7) hx hb hts in_X2_park_2 hown hK hP 0 rfl rfl 0 (by decide) (hts (.fieldLink RX2 10 "RampJam" "yard" "LRampJam$Yard;") (by decide +kernel)) (fun _ h9 => h9) rfl dX2_park_159 ?_
                    refine lv_iload_n hx hb dX2_park_162 rfl (lv_at hl 4 rfl) ?_
                    have hPc := hP.sub (ws' := [((a 6), .inr (1, [.ref (a 7), .ref (a 8), .ref (a 9), .ref (a 10), .int (nI (y_n (x_Y X))), .long (y_rp (x_Y X))])), ((a 7), .inl (cI, 9, .inl (y_sz (x_Y X)))), ((a 8), .inl (cZ, 9, .inl (y_ac (x_Y X)))), ((a 9), .inl (cI, 9, .inl (y_li (x_Y X)))), ((a 10), .inl (cJ, 9, .inr (.inl (y_sh (x_Y X)))))]) [6, 7, 8, 9, 10] rfl
                    refine ro_l (va_runV (As := [.int c_g]) (rest := [.long (y_fil (x_Y X) (j_po (x_J X)) (y_n (x_Y X))), .long (cso a_g r_g q_g (min c_g.toNatClampNeg 4))]) ⟨hx, hb, hml, hown, hts⟩ ((c_X1_barredTo l G cI cZ cJ a _ (x_Y X) c_g)) (cwV 1 hts gX2_park_X1_barredTo rfl rfl rfl (by decide +kernel) ⟨Nat.le_of_ble_eq_true rfl, Nat.le_of_ble_eq_true rfl⟩) ⟨ro_blind, va_recv hK hPc (ci := 1) (q0 := 0) rfl rfl, ro_pre hPc hK hN⟩ rfl rfl hl.1 rfl (lv_room (Nat.le_of_ble_eq_true rfl)) dX2_park_163 ⟨Nat.zero_le _, Nat.zero_le _⟩) hS hA hP (fun H locs hP hS => ?_)
                    refine lv_lor hx hb dX2_park_166 ?_
                    refine lv_land hx hb dX2_park_167 ?_
                    refine lv_lconst (v := 0) hx hb dX2_park_168 (by decide) ?_
                    refine W.lcmp hx hb dX2_park_169 ?_
                    refine lv_if_eq (tgt := 183) hx hb dX2_park_170 (by decide) (fun c_7 => ?_) (fun c_7 => ?_)
                    · have c_7 := lg_t c_7
                      have hz := c_7
                      refine lv_aload_n hx hb dX2_park_183 rfl (lv_at hl 3 rfl) ?_
                      refine va_get (D := G) (ci := 2) (v := .ref (a 6)) (C := RX2) (T := TX2) (N := 7) hx hb hts in_X2_park_2 hown hK hP 0 rfl rfl 0 (by decide) (hts (.fieldLink RX2 10 "RampJam" "yard" "LRampJam$Yard;") (by decide +kernel)) (fun _ h9 => h9) rfl dX2_park_184 ?_
                      refine lv_iload_n hx hb dX2_park_187 rfl (lv_at hl 4 rfl) ?_
                      refine lv_iload_n hx hb dX2_park_188 rfl (lv_at hl 5 rfl) ?_
                      refine lv_iload hx hb dX2_park_189 (lv_at hl 2 rfl) ?_
                      have hPc := hP.sub (ws' := [((a 6), .inr (1, [.ref (a 7), .ref (a 8), .ref (a 9), .ref (a 10), .int (nI (y_n (x_Y X))), .long (y_rp (x_Y X))])), ((a 7), .inl (cI, 9, .inl (y_sz (x_Y X)))), ((a 8), .inl (cZ, 9, .inl (y_ac (x_Y X)))), ((a 9), .inl (cI, 9, .inl (y_li (x_Y X)))), ((a 10), .inl (cJ, 9, .inr (.inl (y_sh (x_Y X)))))]) [6, 7, 8, 9, 10] rfl
                      have hDc := hD.sub (ws' := [((a 6), .inr (1, [.ref (a 7), .ref (a 8), .ref (a 9), .ref (a 10), .int (nI (y_n (x_Y X))), .long (y_rp (x_Y X))])), ((a 7), .inl (cI, 9, .inl (y_sz (x_Y X)))), ((a 8), .inl (cZ, 9, .inl (y_ac (x_Y X)))), ((a 9), .inl (cI, 9, .inl (y_li (x_Y X)))), ((a 10), .inl (cJ, 9, .inr (.inl (y_sh (x_Y X)))))]) [6, 7, 8, 9, 10] (by decide) rfl
                      refine rw_i (wr := [((a 0), .inr (2, [.ref (a 6), .ref (a 1), .int (j_pp (x_J X)), .int (j_po (x_J X)), .int (j_mc (x_J X)), .int (j_dc (x_J X)), .int (j_is (x_J X))])), ((a 1), .inr (0, [.ref (a 6), .ref (a 2), .ref (a 3), .ref (a 4), .ref (a 5), .int (s_fc (x_S X)), .int (s_fs (x_S X)), .int (s_sm (x_S X)), .int (s_sc (x_S X)), .int (s_sf (x_S X))])), ((a 2), .inl (cI, 800, .inl (s_fo (x_S X)))), ((a 3), .inl (cI, 800, .inl (s_or (x_S X)))), ((a 4), .inl (cI, 800, .inl (s_mo (x_S X)))), ((a 5), .inl (cI, 2048, .inl (s_sl (x_S X))))]) (ws' := [((a 0), .inr (2, [.ref (a 6), .ref (a 1), .int (j_pp (x_J X)), .int (j_po (x_J X)), .int (j_mc (x_J X)), .int (j_dc (x_J X)), .int (j_is (x_J X))])), ((a 1), .inr (0, [.ref (a 6), .ref (a 2), .ref (a 3), .ref (a 4), .ref (a 5), .int (s_fc (x_S X)), .int (s_fs (x_S X)), .int (s_sm (x_S X)), .int (s_sc (x_S X)), .int (s_sf (x_S X))])), ((a 2), .inl (cI, 800, .inl (s_fo (x_S X)))), ((a 3), .inl (cI, 800, .inl (s_or (x_S X)))), ((a 4), .inl (cI, 800, .inl (s_mo (x_S X)))), ((a 5), .inl (cI, 2048, .inl (s_sl (x_S X)))), ((a 6), .inr (1, [.ref (a 7), .ref (a 8), .ref (a 9), .ref (a 10), .int (nI (y_n (y_add (x_Y X) c_g a_g (p_line a_g r_g q_g)))), .long (y_rp (y_add (x_Y X) c_g a_g (p_line a_g r_g q_g)))])), ((a 7), .inl (cI, 9, .inl (y_sz (y_add (x_Y X) c_g a_g (p_line a_g r_g q_g))))), ((a 8), .inl (cZ, 9, .inl (y_ac (y_add (x_Y X) c_g a_g (p_line a_g r_g q_g))))), ((a 9), .inl (cI, 9, .inl (y_li (y_add (x_Y X) c_g a_g (p_line a_g r_g q_g))))), ((a 10), .inl (cJ, 9, .inr (.inl (y_sh (y_add (x_Y X) c_g a_g (p_line a_g r_g q_g))))))]) (va_runV (As := [.int c_g, .int a_g, .int (p_line a_g r_g q_g)]) (rest := []) ⟨hx, hb, hml, hown, hts⟩ ((c_X1_add l G cI cZ cJ a _ (x_Y X) c_g a_g (p_line a_g r_g q_g) hn)) (cwV 3 hts gX2_park_X1_add rfl rfl rfl (by decide +kernel) ⟨Nat.le_of_ble_eq_true rfl, Nat.le_of_ble_eq_true rfl⟩) ⟨rw_blind, va_recv hK hPc (ci := 1) (q0 := 0) rfl rfl, rw_pre hPc hDc hK hN⟩ rfl rfl hl.1 rfl (lv_room (Nat.le_of_ble_eq_true rfl)) dX2_park_191 ⟨Nat.zero_le _, Nat.zero_le _⟩) hS hA hP hD [6, 7, 8, 9, 10] [0, 1, 2, 3, 4, 5] [0, 1, 2, 3, 4, 5, 6, 7, 8, 9, 10] rfl rfl (by decide) (by decide) rfl (by decide) (fun H locs hP hD hS => ?_)
                      refine lv_istore (lv' := [(9, .int (y_num (x_Y X))), (7, .long (cso a_g r_g q_g (min c_g.toNatClampNeg 4))), (6, .int (p_plc a_g r_g q_g)), (5, .int (p_line a_g r_g q_g)), (0, .ref (a 0)), (1, .int c_g), (2, .int a_g), (3, .int r_g), (4, .int q_g)]) hx hb dX2_park_194 hl (by decide) rfl (fun ls hl => ?_)
                      refine lv_aload_n hx hb dX2_park_196 rfl (lv_at hl 4 rfl) ?_
                      refine lv_aload_n hx hb dX2_park_197 rfl (lv_at hl 4 rfl) ?_
                      refine va_get (D := G) (ci := 2) (v := .int (j_pp (x_J X))) (C := RX2) (T := TX2) (N := 7) hx hb hts in_X2_park_2 hown hK hP 0 rfl rfl 2 (by decide) (hts (.fieldLink RX2 73 "RampJam" "parkedPosition" "I") (by decide +kernel)) (fun _ h9 => h9) rfl dX2_park_198 ?_
                      refine lv_iload hx hb dX2_park_201 (lv_at hl 0 rfl) ?_
                      refine lv_iload hx hb dX2_park_203 (lv_at hl 2 rfl) ?_
                      refine ro_i (va_runS (As := [.int (j_pp (x_J X)), .int (y_num (x_Y X)), .int (p_plc a_g r_g q_g)]) (rest := [.ref (a 0)]) ⟨hx, hb, hml, hown, hts⟩ ((c_X2_moved l G cI cZ cJ a _ (j_pp (x_J X)) (y_num (x_Y X)) (p_plc a_g r_g q_g))) (va_cwS 3 hts gX2_park_X2_moved rfl rfl rfl (by decide +kernel) ⟨Nat.le_of_ble_eq_true rfl, Nat.le_of_ble_eq_true rfl⟩) ⟨ro_blind, ro_pre va_P0 hK hN⟩ rfl rfl hl.1 rfl (lv_room (Nat.le_of_ble_eq_true rfl)) dX2_park_205 ⟨Nat.zero_le _, Nat.zero_le _⟩) hS hA hP (fun H locs hP hS => ?_)
                      refine va_put (D := G) (ci := 2) (v := .int (mv (j_pp (x_J X)) (y_num (x_Y X)) (p_plc a_g r_g q_g))) (ty := .int) (C := RX2) (T := TX2) (N := 7) hx hb hts in_X2_park_2 tyX2 tyX2_ok nmX2 hown hK hP hD hS 0 rfl rfl 2 (by decide) (hts (.fieldLink RX2 73 "RampJam" "parkedPosition" "I") (by decide +kernel)) (fun _ h9 => h9) rfl (by decide +kernel) rfl rfl (Nat.le_of_ble_eq_true rfl) dX2_park_208 (fun H locs hP hD hS => ?_)
                      have hP : va_P G vwCl [((a 0), .inr (2, [.ref (a 6), .ref (a 1), .int (mv (j_pp (x_J X)) (y_num (x_Y X)) (p_plc a_g r_g q_g)), .int (j_po (x_J X)), .int (j_mc (x_J X)), .int (j_dc (x_J X)), .int (j_is (x_J X))])), ((a 1), .inr (0, [.ref (a 6), .ref (a 2), .ref (a 3), .ref (a 4), .ref (a 5), .int (s_fc (x_S X)), .int (s_fs (x_S X)), .int (s_sm (x_S X)), .int (s_sc (x_S X)), .int (s_sf (x_S X))])), ((a 2), .inl (cI, 800, .inl (s_fo (x_S X)))), ((a 3), .inl (cI, 800, .inl (s_or (x_S X)))), ((a 4), .inl (cI, 800, .inl (s_mo (x_S X)))), ((a 5), .inl (cI, 2048, .inl (s_sl (x_S X)))), ((a 6), .inr (1, [.ref (a 7), .ref (a 8), .ref (a 9), .ref (a 10), .int (nI (y_n (y_add (x_Y X) c_g a_g (p_line a_g r_g q_g)))), .long (y_rp (y_add (x_Y X) c_g a_g (p_line a_g r_g q_g)))])), ((a 7), .inl (cI, 9, .inl (y_sz (y_add (x_Y X) c_g a_g (p_line a_g r_g q_g))))), ((a 8), .inl (cZ, 9, .inl (y_ac (y_add (x_Y X) c_g a_g (p_line a_g r_g q_g))))), ((a 9), .inl (cI, 9, .inl (y_li (y_add (x_Y X) c_g a_g (p_line a_g r_g q_g))))), ((a 10), .inl (cJ, 9, .inr (.inl (y_sh (y_add (x_Y X) c_g a_g (p_line a_g r_g q_g))))))] H := hP
                      have hD : va_D A [((a 0), .inr (2, [.ref (a 6), .ref (a 1), .int (mv (j_pp (x_J X)) (y_num (x_Y X)) (p_plc a_g r_g q_g)), .int (j_po (x_J X)), .int (j_mc (x_J X)), .int (j_dc (x_J X)), .int (j_is (x_J X))])), ((a 1), .inr (0, [.ref (a 6), .ref (a 2), .ref (a 3), .ref (a 4), .ref (a 5), .int (s_fc (x_S X)), .int (s_fs (x_S X)), .int (s_sm (x_S X)), .int (s_sc (x_S X)), .int (s_sf (x_S X))])), ((a 2), .inl (cI, 800, .inl (s_fo (x_S X)))), ((a 3), .inl (cI, 800, .inl (s_or (x_S X)))), ((a 4), .inl (cI, 800, .inl (s_mo (x_S X)))), ((a 5), .inl (cI, 2048, .inl (s_sl (x_S X)))), ((a 6), .inr (1, [.ref (a 7), .ref (a 8), .ref (a 9), .ref (a 10), .int (nI (y_n (y_add (x_Y X) c_g a_g (p_line a_g r_g q_g)))), .long (y_rp (y_add (x_Y X) c_g a_g (p_line a_g r_g q_g)))])), ((a 7), .inl (cI, 9, .inl (y_sz (y_add (x_Y X) c_g a_g (p_line a_g r_g q_g))))), ((a 8), .inl (cZ, 9, .inl (y_ac (y_add (x_Y X) c_g a_g (p_line a_g r_g q_g))))), ((a 9), .inl (cI, 9, .inl (y_li (y_add (x_Y X) c_g a_g (p_line a_g r_g q_g))))), ((a 10), .inl (cJ, 9, .inr (.inl (y_sh (y_add (x_Y X) c_g a_g (p_line a_g r_g q_g))))))] := hD
                      refine lv_aload_n hx hb dX2_park_211 rfl (lv_at hl 4 rfl) ?_
                      refine lv_aload_n hx hb dX2_park_212 rfl (lv_at hl 4 rfl) ?_
                      refine va_get (D := G) (ci := 2) (v := .int (mv (j_pp (x_J X)) (y_num (x_Y X)) (p_plc a_g r_g q_g))) (C := RX2) (T := TX2) (N := 7) hx hb hts in_X2_park_2 hown hK hP 0 rfl rfl 2 (by decide) (hts (.fieldLink RX2 73 "RampJam" "parkedPosition" "I") (by decide +kernel)) (fun _ h9 => h9) rfl dX2_park_213 ?_
                      refine rw_v (wr := []) (ws' := [((a 0), .inr (2, [.ref (a 6), .ref (a 1), .int (j_pp (x_J (x_stand (((mv (j_pp (x_J X)) (y_num (x_Y X)) (p_plc a_g r_g q_g)), (j_po (x_J X)), (j_mc (x_J X)), (j_dc (x_J X)), (j_is (x_J X))), (x_S X), (y_add (x_Y X) c_g a_g (p_line a_g r_g q_g))) (mv (j_pp (x_J X)) (y_num (x_Y X)) (p_plc a_g r_g q_g))))), .int (j_po (x_J (x_stand (((mv (j_pp (x_J X)) (y_num (x_Y X)) (p_plc a_g r_g q_g)), (j_po (x_J X)), (j_mc (x_J X)), (j_dc (x_J X)), (j_is (x_J X))), (x_S X), (y_add (x_Y X) c_g a_g (p_line a_g r_g q_g))) (mv (j_pp (x_J X)) (y_num (x_Y X)) (p_plc a_g r_g q_g))))), .int (j_mc (x_J (x_stand (((mv (j_pp (x_J X)) (y_num (x_Y X)) (p_plc a_g r_g q_g)), (j_po (x_J X)), (j_mc (x_J X)), (j_dc (x_J X)), (j_is (x_J X))), (x_S X), (y_add (x_Y X) c_g a_g (p_line a_g r_g q_g))) (mv (j_pp (x_J X)) (y_num (x_Y X)) (p_plc a_g r_g q_g))))), .int (j_dc (x_J (x_stand (((mv (j_pp (x_J X)) (y_num (x_Y X)) (p_plc a_g r_g q_g)), (j_po (x_J X)), (j_mc (x_J X)), (j_dc (x_J X)), (j_is (x_J X))), (x_S X), (y_add (x_Y X) c_g a_g (p_line a_g r_g q_g))) (mv (j_pp (x_J X)) (y_num (x_Y X)) (p_plc a_g r_g q_g))))), .int (j_is (x_J (x_stand (((mv (j_pp (x_J X)) (y_num (x_Y X)) (p_plc a_g r_g q_g)), (j_po (x_J X)), (j_mc (x_J X)), (j_dc (x_J X)), (j_is (x_J X))), (x_S X), (y_add (x_Y X) c_g a_g (p_line a_g r_g q_g))) (mv (j_pp (x_J X)) (y_num (x_Y X)) (p_plc a_g r_g q_g)))))])), ((a 1), .inr (0, [.ref (a 6), .ref (a 2), .ref (a 3), .ref (a 4), .ref (a 5), .int (s_fc (x_S (x_stand (((mv (j_pp (x_J X)) (y_num (x_Y X)) (p_plc a_g r_g q_g)), (j_po (x_J X)), (j_mc (x_J X)), (j_dc (x_J X)), (j_is (x_J X))), (x_S X), (y_add (x_Y X) c_g a_g (p_line a_g r_g q_g))) (mv (j_pp (x_J X)) (y_num (x_Y X)) (p_plc a_g r_g q_g))))), .int (s_fs (x_S (x_stand (((mv (j_pp (x_J X)) (y_num (x_Y X)) (p_plc a_g r_g q_g)), (j_po (x_J X)), (j_mc (x_J X)), (j_dc (x_J X)), (j_is (x_J X))), (x_S X), (y_add (x_Y X) c_g a_g (p_line a_g r_g q_g))) (mv (j_pp (x_J X)) (y_num (x_Y X)) (p_plc a_g r_g q_g))))), .int (s_sm (x_S (x_stand (((mv (j_pp (x_J X)) (y_num (x_Y X)) (p_plc a_g r_g q_g)), (j_po (x_J X)), (j_mc (x_J X)), (j_dc (x_J X)), (j_is (x_J X))), (x_S X), (y_add (x_Y X) c_g a_g (p_line a_g r_g q_g))) (mv (j_pp (x_J X)) (y_num (x_Y X)) (p_plc a_g r_g q_g))))), .int (s_sc (x_S (x_stand (((mv (j_pp (x_J X)) (y_num (x_Y X)) (p_plc a_g r_g q_g)), (j_po (x_J X)), (j_mc (x_J X)), (j_dc (x_J X)), (j_is (x_J X))), (x_S X), (y_add (x_Y X) c_g a_g (p_line a_g r_g q_g))) (mv (j_pp (x_J X)) (y_num (x_Y X)) (p_plc a_g r_g q_g))))), .int (s_sf (x_S (x_stand (((mv (j_pp (x_J X)) (y_num (x_Y X)) (p_plc a_g r_g q_g)), (j_po (x_J X)), (j_mc (x_J X)), (j_dc (x_J X)), (j_is (x_J X))), (x_S X), (y_add (x_Y X) c_g a_g (p_line a_g r_g q_g))) (mv (j_pp (x_J X)) (y_num (x_Y X)) (p_plc a_g r_g q_g)))))])), ((a 2), .inl (cI, 800, .inl (s_fo (x_S (x_stand (((mv (j_pp (x_J X)) (y_num (x_Y X)) (p_plc a_g r_g q_g)), (j_po (x_J X)), (j_mc (x_J X)), (j_dc (x_J X)), (j_is (x_J X))), (x_S X), (y_add (x_Y X) c_g a_g (p_line a_g r_g q_g))) (mv (j_pp (x_J X)) (y_num (x_Y X)) (p_plc a_g r_g q_g))))))), ((a 3), .inl (cI, 800, .inl (s_or (x_S (x_stand (((mv (j_pp (x_J X)) (y_num (x_Y X)) (p_plc a_g r_g q_g)), (j_po (x_J X)), (j_mc (x_J X)), (j_dc (x_J X)), (j_is (x_J X))), (x_S X), (y_add (x_Y X) c_g a_g (p_line a_g r_g q_g))) (mv (j_pp (x_J X)) (y_num (x_Y X)) (p_plc a_g r_g q_g))))))), ((a 4), .inl (cI, 800, .inl (s_mo (x_S (x_stand (((mv (j_pp (x_J X)) (y_num (x_Y X)) (p_plc a_g r_g q_g)), (j_po (x_J X)), (j_mc (x_J X)), (j_dc (x_J X)), (j_is (x_J X))), (x_S X), (y_add (x_Y X) c_g a_g (p_line a_g r_g q_g))) (mv (j_pp (x_J X)) (y_num (x_Y X)) (p_plc a_g r_g q_g))))))), ((a 5), .inl (cI, 2048, .inl (s_sl (x_S (x_stand (((mv (j_pp (x_J X)) (y_num (x_Y X)) (p_plc a_g r_g q_g)), (j_po (x_J X)), (j_mc (x_J X)), (j_dc (x_J X)), (j_is (x_J X))), (x_S X), (y_add (x_Y X) c_g a_g (p_line a_g r_g q_g))) (mv (j_pp (x_J X)) (y_num (x_Y X)) (p_plc a_g r_g q_g))))))), ((a 6), .inr (1, [.ref (a 7), .ref (a 8), .ref (a 9), .ref (a 10), .int (nI (y_n (x_Y (x_stand (((mv (j_pp (x_J X)) (y_num (x_Y X)) (p_plc a_g r_g q_g)), (j_po (x_J X)), (j_mc (x_J X)), (j_dc (x_J X)), (j_is (x_J X))), (x_S X), (y_add (x_Y X) c_g a_g (p_line a_g r_g q_g))) (mv (j_pp (x_J X)) (y_num (x_Y X)) (p_plc a_g r_g q_g)))))), .long (y_rp (x_Y (x_stand (((mv (j_pp (x_J X)) (y_num (x_Y X)) (p_plc a_g r_g q_g)), (j_po (x_J X)), (j_mc (x_J X)), (j_dc (x_J X)), (j_is (x_J X))), (x_S X), (y_add (x_Y X) c_g a_g (p_line a_g r_g q_g))) (mv (j_pp (x_J X)) (y_num (x_Y X)) (p_plc a_g r_g q_g)))))])), ((a 7), .inl (cI, 9, .inl (y_sz (x_Y (x_stand (((mv (j_pp (x_J X)) (y_num (x_Y X)) (p_plc a_g r_g q_g)), (j_po (x_J X)), (j_mc (x_J X)), (j_dc (x_J X)), (j_is (x_J X))), (x_S X), (y_add (x_Y X) c_g a_g (p_line a_g r_g q_g))) (mv (j_pp (x_J X)) (y_num (x_Y X)) (p_plc a_g r_g q_g))))))), ((a 8), .inl (cZ, 9, .inl (y_ac (x_Y (x_stand (((mv (j_pp (x_J X)) (y_num (x_Y X)) (p_plc a_g r_g q_g)), (j_po (x_J X)), (j_mc (x_J X)), (j_dc (x_J X)), (j_is (x_J X))), (x_S X), (y_add (x_Y X) c_g a_g (p_line a_g r_g q_g))) (mv (j_pp (x_J X)) (y_num (x_Y X)) (p_plc a_g r_g q_g))))))), ((a 9), .inl (cI, 9, .inl (y_li (x_Y (x_stand (((mv (j_pp (x_J X)) (y_num (x_Y X)) (p_plc a_g r_g q_g)), (j_po (x_J X)), (j_mc (x_J X)), (j_dc (x_J X)), (j_is (x_J X))), (x_S X), (y_add (x_Y X) c_g a_g (p_line a_g r_g q_g))) (mv (j_pp (x_J X)) (y_num (x_Y X)) (p_plc a_g r_g q_g))))))), ((a 10), .inl (cJ, 9, .inr (.inl (y_sh (x_Y (x_stand (((mv (j_pp (x_J X)) (y_num (x_Y X)) (p_plc a_g r_g q_g)), (j_po (x_J X)), (j_mc (x_J X)), (j_dc (x_J X)), (j_is (x_J X))), (x_S X), (y_add (x_Y X) c_g a_g (p_line a_g r_g q_g))) (mv (j_pp (x_J X)) (y_num (x_Y X)) (p_plc a_g r_g q_g))))))))]) (va_runV (As := [.int (mv (j_pp (x_J X)) (y_num (x_Y X)) (p_plc a_g r_g q_g))]) (rest := []) ⟨hx, hb, hml, hown, hts⟩ ((c_X2_standAt l G cI cZ cJ a _ (((mv (j_pp (x_J X)) (y_num (x_Y X)) (p_plc a_g r_g q_g)), (j_po (x_J X)), (j_mc (x_J X)), (j_dc (x_J X)), (j_is (x_J X))), (x_S X), (y_add (x_Y X) c_g a_g (p_line a_g r_g q_g))) (mv (j_pp (x_J X)) (y_num (x_Y X)) (p_plc a_g r_g q_g)))) (cwV 1 hts gX2_park_X2_standAt rfl rfl rfl (by decide +kernel) ⟨Nat.le_of_ble_eq_true rfl, Nat.le_of_ble_eq_true rfl⟩) ⟨rw_blind, va_recv hK hP (ci := 2) (q0 := 0) rfl rfl, rw_pre hP hD hK hN⟩ rfl rfl hl.1 rfl (lv_room (Nat.le_of_ble_eq_true rfl)) dX2_park_216 ⟨Nat.zero_le _, Nat.zero_le _⟩) hS hA hP hD [0, 1, 2, 3, 4, 5, 6, 7, 8, 9, 10] [] [0, 1, 2, 3, 4, 5, 6, 7, 8, 9, 10] rfl rfl (by decide) (by decide) rfl (by decide) (fun H locs hP hD hS => ?_)
                      refine lv_iload hx hb dX2_park_219 (lv_at hl 0 rfl) ?_
                      refine vx_ret ?_
                      refine W.widen (k := 1) (n := 6) (Nat.zero_le _) (Nat.zero_le _) ?_
                      have hP9 := hP
                      have hD9 := hD
                      exact W.iret (v := (y_num (x_Y X))) hx hb hr (fun t ht hW => ⟨⟨(y_num (x_Y X)), (x_stand (((mv (j_pp (x_J X)) (y_num (x_Y X)) (p_plc a_g r_g q_g)), (j_po (x_J X)), (j_mc (x_J X)), (j_dc (x_J X)), (j_is (x_J X))), (x_S X), (y_add (x_Y X) c_g a_g (p_line a_g r_g q_g))) (mv (j_pp (x_J X)) (y_num (x_Y X)) (p_plc a_g r_g q_g))), rfl, ⟨by rw [park_th, if_neg (by rintro (h | h | h) <;> contradiction), if_neg (not_not_intro hp), if_neg h106, if_neg (by rintro (h | h) <;> contradiction), if_neg (not_not_intro hz)], rfl, rfl⟩, by rw [ht]; exact hP9, hD9⟩, hS.F ht⟩) hS.2.2 dX2_park_221
                    · have c_7 := lg_f c_7
                      have hz := c_7
                      exact vx_throwS (A := A) (names := ex_names) hx hb hst hown (by decide +kernel) ex_fit (hts (.classLink RX2 48 ex_S) (by decide +kernel)) (hts (.initialized ex_S) (by decide +kernel)) (ex_get hE (k := 4) rfl) (vx_hat (fun w h => hts w (ie_X2_park_52 w h)) ex_bS (ex_words hE)) ex_gS hZ.1 hZ.2 hS (hl.1.trans hml.symm) dX2_park_173 dX2_park_176 dX2_park_177 dX2_park_179 dX2_park_182 (fun x hx => absurd (hnt x hx) id) (by decide) (Nat.le_of_ble_eq_true rfl) (Nat.le_of_ble_eq_true rfl) (Nat.le_of_ble_eq_true rfl) hlocks (xx_x hP hS (Or.inr ⟨rfl, by rw [park_th, if_neg (by rintro (h | h | h) <;> contradiction), if_neg (not_not_intro hp), if_neg h106, if_neg (by rintro (h | h) <;> contradiction), if_pos hz]⟩)) hS.2.2 (Nat.le_of_ble_eq_true rfl) (Nat.le_of_ble_eq_true rfl)
                  · exact vx_throwS (A := A) (names := ex_names) hx hb hst hown (by decide +kernel) ex_fit (hts (.classLink RX2 48 ex_S) (by decide +kernel)) (hts (.initialized ex_S) (by decide +kernel)) (ex_get hE (k := 3) rfl) (vx_hat (fun w h => hts w (ie_X2_park_52 w h)) ex_bS (ex_words hE)) ex_gS hZ.1 hZ.2 hS (hl.1.trans hml.symm) dX2_park_125 dX2_park_128 dX2_park_129 dX2_park_131 dX2_park_134 (fun x hx => absurd (hnt x hx) id) (by decide) (Nat.le_of_ble_eq_true rfl) (Nat.le_of_ble_eq_true rfl) (Nat.le_of_ble_eq_true rfl) hlocks (xx_x hP hS (Or.inr ⟨rfl, by rw [park_th, if_neg (by rintro (h | h | h) <;> contradiction), if_neg (not_not_intro hp), if_neg h106, if_pos (by first | exact Or.inl (by assumption) | exact Or.inr (by assumption))]⟩)) hS.2.2 (Nat.le_of_ble_eq_true rfl) (Nat.le_of_ble_eq_true rfl)
              refine lv_aload_n hx hb dX2_park_72 rfl (lv_at hl 2 rfl) ?_
              refine va_get (D := G) (ci := 2) (v := .ref (a 6)) (C := RX2) (T := TX2) (N := 7) hx hb hts in_X2_park_2 hown hK hP 0 rfl rfl 0 (by decide) (hts (.fieldLink RX2 10 "RampJam" "yard" "LRampJam$Yard;") (by decide +kernel)) (fun _ h9 => h9) rfl dX2_park_73 ?_
              have hPc := hP.sub (ws' := [((a 6), .inr (1, [.ref (a 7), .ref (a 8), .ref (a 9), .ref (a 10), .int (nI (y_n (x_Y X))), .long (y_rp (x_Y X))])), ((a 7), .inl (cI, 9, .inl (y_sz (x_Y X)))), ((a 8), .inl (cZ, 9, .inl (y_ac (x_Y X)))), ((a 9), .inl (cI, 9, .inl (y_li (x_Y X)))), ((a 10), .inl (cJ, 9, .inr (.inl (y_sh (x_Y X)))))]) [6, 7, 8, 9, 10] rfl
              refine ro_i (va_runV (As := []) (rest := []) ⟨hx, hb, hml, hown, hts⟩ ((c_X1_count l G cI cZ cJ a _ (x_Y X))) (cwV 0 hts gX2_park_X1_count rfl rfl rfl (by decide +kernel) ⟨Nat.le_of_ble_eq_true rfl, Nat.le_of_ble_eq_true rfl⟩) ⟨ro_blind, va_recv hK hPc (ci := 1) (q0 := 0) rfl rfl, ro_pre hPc hK hN⟩ rfl rfl hl.1 rfl (lv_room (Nat.le_of_ble_eq_true rfl)) dX2_park_76 ⟨Nat.zero_le _, Nat.zero_le _⟩) hS hA hP (fun H locs hP hS => ?_)
              refine lv_if_ne (tgt := 106) hx hb dX2_park_79 (by decide) (fun c_8 => ?_) (fun c_8 => ?_)
              · exact cut_106 (by rintro ⟨h1, h2⟩; first | contradiction | (rcases h2 with h | h | h <;> contradiction)) _ _ hP hD hS _ hl
              · refine lv_iload_n hx hb dX2_park_82 rfl (lv_at hl 3 rfl) ?_
                refine lv_iconst (v := 2) hx hb dX2_park_83 (by decide) ?_
                refine lv_icmp_ne (tgt := 96) hx hb dX2_park_84 (by decide) (fun c_9 => ?_) (fun c_9 => ?_)
                · exact vx_throwS (A := A) (names := ex_names) hx hb hst hown (by decide +kernel) ex_fit (hts (.classLink RX2 29 ex_A) (by decide +kernel)) (hts (.initialized ex_A) (by decide +kernel)) (ex_get hE (k := 2) rfl) (vx_hat (fun w h => hts w (ie_X2_park_33 w h)) ex_bA (ex_words hE)) ex_gA hZ.1 hZ.2 hS (hl.1.trans hml.symm) dX2_park_96 dX2_park_99 dX2_park_100 dX2_park_102 dX2_park_105 (fun x hx => absurd (hnt x hx) id) (by decide) (Nat.le_of_ble_eq_true rfl) (Nat.le_of_ble_eq_true rfl) (Nat.le_of_ble_eq_true rfl) hlocks (xx_x hP hS (Or.inl ⟨rfl, by rw [park_th, if_neg (by rintro (h | h | h) <;> contradiction), if_neg (not_not_intro hp), if_pos ⟨by assumption, by first | exact Or.inl (by assumption) | exact Or.inr (Or.inl (by assumption)) | exact Or.inr (Or.inr (by assumption))⟩]⟩)) hS.2.2 (Nat.le_of_ble_eq_true rfl) (Nat.le_of_ble_eq_true rfl)
                · refine lv_iload_n hx hb dX2_park_87 rfl (lv_at hl 4 rfl) ?_
                  refine lv_if_eq (tgt := 96) hx hb dX2_park_88 (by decide) (fun c_10 => ?_) (fun c_10 => ?_)
                  · exact vx_throwS (A := A) (names := ex_names) hx hb hst hown (by decide +kernel) ex_fit (hts (.classLink RX2 29 ex_A) (by decide +kernel)) (hts (.initialized ex_A) (by decide +kernel)) (ex_get hE (k := 2) rfl) (vx_hat (fun w h => hts w (ie_X2_park_33 w h)) ex_bA (ex_words hE)) ex_gA hZ.1 hZ.2 hS (hl.1.trans hml.symm) dX2_park_96 dX2_park_99 dX2_park_100 dX2_park_102 dX2_park_105 (fun x hx => absurd (hnt x hx) id) (by decide) (Nat.le_of_ble_eq_true rfl) (Nat.le_of_ble_eq_true rfl) (Nat.le_of_ble_eq_true rfl) hlocks (xx_x hP hS (Or.inl ⟨rfl, by rw [park_th, if_neg (by rintro (h | h | h) <;> contradiction), if_neg (not_not_intro hp), if_pos ⟨by assumption, by first | exact Or.inl (by assumption) | exact Or.inr (Or.inl (by assumption)) | exact Or.inr (Or.inr (by assumption))⟩]⟩)) hS.2.2 (Nat.le_of_ble_eq_true rfl) (Nat.le_of_ble_eq_true rfl)
                  · refine lv_iload_n hx hb dX2_park_91 rfl (lv_at hl 5 rfl) ?_
                    refine lv_iconst (v := 2) hx hb dX2_park_92 (by decide) ?_
                    refine lv_icmp_eq (tgt := 106) hx hb dX2_park_93 (by decide) (fun c_11 => ?_) (fun c_11 => ?_)
                    · exact cut_106 (by rintro ⟨h1, h2⟩; first | contradiction | (rcases h2 with h | h | h <;> contradiction)) _ _ hP hD hS _ hl
                    · exact vx_throwS (A := A) (names := ex_names) hx hb hst hown (by decide +kernel) ex_fit (hts (.classLink RX2 29 ex_A) (by decide +kernel)) (hts (.initialized ex_A) (by decide +kernel)) (ex_get hE (k := 2) rfl) (vx_hat (fun w h => hts w (ie_X2_park_33 w h)) ex_bA (ex_words hE)) ex_gA hZ.1 hZ.2 hS (hl.1.trans hml.symm) dX2_park_96 dX2_park_99 dX2_park_100 dX2_park_102 dX2_park_105 (fun x hx => absurd (hnt x hx) id) (by decide) (Nat.le_of_ble_eq_true rfl) (Nat.le_of_ble_eq_true rfl) (Nat.le_of_ble_eq_true rfl) hlocks (xx_x hP hS (Or.inl ⟨rfl, by rw [park_th, if_neg (by rintro (h | h | h) <;> contradiction), if_neg (not_not_intro hp), if_pos ⟨by assumption, by first | exact Or.inl (by assumption) | exact Or.inr (Or.inl (by assumption)) | exact Or.inr (Or.inr (by assumption))⟩]⟩)) hS.2.2 (Nat.le_of_ble_eq_true rfl) (Nat.le_of_ble_eq_true rfl)
            · have hp := c_4
              exact vx_throwS (A := A) (names := ex_names) hx hb hst hown (by decide +kernel) ex_fit (hts (.classLink RX2 29 ex_A) (by decide +kernel)) (hts (.initialized ex_A) (by decide +kernel)) (ex_get hE (k := 1) rfl) (vx_hat (fun w h => hts w (ie_X2_park_33 w h)) ex_bA (ex_words hE)) ex_gA hZ.1 hZ.2 hS (hl.1.trans hml.symm) dX2_park_62 dX2_park_65 dX2_park_66 dX2_park_68 dX2_park_71 (fun x hx => absurd (hnt x hx) id) (by decide) (Nat.le_of_ble_eq_true rfl) (Nat.le_of_ble_eq_true rfl) (Nat.le_of_ble_eq_true rfl) hlocks (xx_x hP hS (Or.inl ⟨rfl, by rw [park_th, if_neg (by rintro (h | h | h) <;> contradiction), if_pos hp]⟩)) hS.2.2 (Nat.le_of_ble_eq_true rfl) (Nat.le_of_ble_eq_true rfl)
          refine lv_iload_n hx hb dX2_park_41 rfl (lv_at hl 3 rfl) ?_
          refine lv_if_eq (tgt := 50) hx hb dX2_park_42 (by decide) (fun c_12 => ?_) (fun c_12 => ?_)
          · refine lv_iload_n hx hb dX2_park_50 rfl (lv_at hl 4 rfl) ?_
            exact cut_51 r_g (by simp [p_plc, c_1, c_2, c_3, c_12]) _ _ hP hD hS _ hl
          · refine lv_iload hx hb dX2_park_45 (lv_at hl 5 rfl) ?_
            refine lv_goto (tgt := 51) hx hb dX2_park_47 (by decide) ?_
            exact cut_51 q_g (by simp [p_plc, c_1, c_2, c_3, c_12]) _ _ hP hD hS _ hl
        refine lv_iload_n hx hb dX2_park_29 rfl (lv_at hl 2 rfl) ?_
        refine lv_if_eq (tgt := 37) hx hb dX2_park_30 (by decide) (fun c_13 => ?_) (fun c_13 => ?_)
        · refine lv_iload hx hb dX2_park_37 (lv_at hl 4 rfl) ?_
          exact cut_39 q_g (by simp [p_line, c_1, c_2, c_3, c_13]) _ _ hP hD hS _ hl
        · refine lv_iload_n hx hb dX2_park_33 rfl (lv_at hl 3 rfl) ?_
          refine lv_goto (tgt := 39) hx hb dX2_park_34 (by decide) ?_
          exact cut_39 r_g (by simp [p_line, c_1, c_2, c_3, c_13]) _ _ hP hD hS _ hl
      · have c_3 := b1_f c_3
        exact vx_throwS (A := A) (names := ex_names) hx hb hst hown (by decide +kernel) ex_fit (hts (.classLink RX2 29 ex_A) (by decide +kernel)) (hts (.initialized ex_A) (by decide +kernel)) (ex_get hE (k := 0) rfl) (vx_hat (fun w h => hts w (ie_X2_park_33 w h)) ex_bA (ex_words hE)) ex_gA hZ.1 hZ.2 hS (hl.1.trans hml.symm) dX2_park_19 dX2_park_22 dX2_park_23 dX2_park_25 dX2_park_28 (fun x hx => absurd (hnt x hx) id) (by decide) (Nat.le_of_ble_eq_true rfl) (Nat.le_of_ble_eq_true rfl) (Nat.le_of_ble_eq_true rfl) hlocks (xx_x hP hS (Or.inl ⟨rfl, by rw [park_th, if_pos (by first | exact Or.inl (by assumption) | exact Or.inr (Or.inl (by assumption)) | exact Or.inr (Or.inr (by assumption)))]⟩)) hS.2.2 (Nat.le_of_ble_eq_true rfl) (Nat.le_of_ble_eq_true rfl)
end
