/-! THE CLAIM OUT OF ONE WALK OF THE LAW'S BODY. Your part is whole_start (and what it stands on); all else here is the same for every law, but numbers. -/
def R_law : String := "RampJamLaw"
def lw_P (b : Addr) (xs : List Int32) (args : Array Value) (s : State) : Prop := args = #[.ref b] ∧ s.IntsAt b xs ∧ xs.length ≤ 260 ∧ (Jvm.Cond.and given_1 narrow_1).before args s = true
def lw_Q (_ : Array Value) (s : State) (o : Outcome) (t : State) : Prop := o = .returned (some (.int 1)) ∧ Framed s o t [] 134 5463
def lw_Z (below : List Frame) (a : Array Value) (s : State) : State → Prop := fun t => ∃ o, t.status = .running ∧ Ended t below o ∧ lw_Q a s o t
/-- the law's own end, with 1 on the stack, nothing written that was there before, its room as the claim has it -/
theorem lw_ret {p : Program} {l : Launch} {e : Env} {s : State} {m : MethodId} {below : List Frame} {meth : Method} {c : Code} {b : Nat} (hx : p.tables.exec = Jvm.exec) (hb : c.code = code) (hr : meth.sig.returnType = ret) (hlocks : meth.locks = false) {pc : Nat} {H : Heap} {ls : Array Slot} (hdg : decode code pc = .ok (.ireturn, 1)) : W p l e room_1 s m #[Value.ref b] below meth c H [] 134 5463 (lw_Z below #[Value.ref b] s) (F0 m pc ls [.int 1]) := by
  intro T hT X
  obtain ⟨fs, hret, hrun, hended, hW, hframe⟩ := X.leave (v := some (.int 1)) (hlocks := hlocks) (fun h => by rw [hr] at h; cases h)
  have hmeth' : T.vm.method? m = some meth := X.method'
  refine ⟨T.setFrames fs, ?_, .returned (some (.int 1)), hrun, hended, rfl, ⟨_, rfl⟩, hW, hframe⟩
  jvm_step X.here [X.here.top, hx, hb, hdg, hmeth', hr, ret, narrow_b1]
  (try refine ⟨rfl, ?_⟩); (try refine ⟨rfl, ?_⟩)
  first | (intro acts; rw [hret _ acts rfl rfl rfl]) | rw [hret _ _ rfl rfl rfl]
  exact Steps.refl _
/-- what holds at the law's entry: the machine, the code, the tables' words (any of lw_tbl by 'hts w (by decide +kernel)'), the script of L ints xs at the cell b, what the Statement gives of the start (any of its parts by flat_of_before) -/
def lw_At (p : Program) (s : State) (m : MethodId) (meth : Method) (c : Code) (b L : Nat) (xs : Nat → Int32) : Prop :=
  p.tables.exec = Jvm.exec ∧ c.code = code ∧ meth.sig.returnType = ret ∧ c.maxLocals = 18 ∧ s.vm.findClass R_law = some m.cls ∧ (∀ w ∈ lw_tbl, w.before #[Value.ref b] s = true) ∧ va_X b L xs s s.heap ∧ b < s.heap.size ∧ meth.locks = false ∧ (Jvm.Cond.and given_1 narrow_1).before #[Value.ref b] s = true
/-! THE LAW: what its parts stand on -/
abbrev X_0 : XS := ((0, 0, 0, 0, 0), (fun _ => 0, fun _ => 0, fun _ => 0, fun _ => 0, 0, 0, 0, 0, 0), (fun _ => 0, fun _ => 0, fun _ => 0, fun _ => 0, 0, 0))
abbrev M_0 : MS := (fun _ => 0, fun _ => 0, fun _ => 0, fun _ => 0, fun _ => 0, 0, -1, 0, 0, 0, fun _ => 0, fun _ => 0, fun _ => 0, fun _ => 0, fun _ => 0, fun _ => 0, fun _ => 0, 0, 0)
theorem rel_0 : rel 0 X_0 M_0 := by
  refine ⟨⟨Nat.zero_le _, fun v hv => absurd hv (Nat.not_lt_zero _), fun c _ => Nat.zero_le _⟩, fun i _ => ⟨Nat.zero_le _, (by decide : 0 < 1000), fun h => ?_⟩, ⟨rfl, Nat.zero_le _, fun v hv => absurd hv (Nat.not_lt_zero _)⟩, fun c hc => ?_, rfl, rfl, rfl, rfl, ⟨0, Nat.le_refl _, rfl⟩, fun u w c hu => absurd hu (Nat.not_lt_zero _), fun u w c hu => absurd hu (Nat.not_lt_zero _), fun u hu => absurd hu (Nat.not_lt_zero _), fun u hu => absurd hu (Nat.not_lt_zero _), fun _ u hu => absurd hu (Nat.not_lt_zero _), Or.inl rfl⟩
  · rcases h with h | h
    · exact absurd h (by decide : ¬ (0 : Int32) < 0)
    · exact absurd h (Nat.lt_irrefl 0)
  · show gb 0 c = true ↔ nI c = -1
    rw [gb_0]
    constructor
    · intro z; exact absurd z (by decide)
    · intro z
      have z2 := congrArg Int32.toInt z
      rw [nI_toInt (by omega), show ((-1 : Int32)).toInt = -1 from rfl] at z2
      omega
/-- what holds all along the law's body -/
def lw_C (p : Program) (s : State) (m : MethodId) (meth : Method) (c : Code) (b L : Nat) (xs : Nat → Int32) (G : va_G) (cI cZ cJ : ClassId) (A : Nat → Prop) : Prop :=
  p.tables.exec = Jvm.exec ∧ c.code = cL_law ∧ meth.sig.returnType = ret ∧ meth.locks = false ∧ c.maxLocals = 18 ∧ s.vm.findClass RL = some m.cls ∧ (∀ w ∈ wsL_law, w.before #[Value.ref b] s = true) ∧ va_X b L xs s s.heap ∧ b < s.heap.size ∧ L ≤ 260 ∧ ¬ A b ∧ va_K G vwCl [(cI, .int), (cZ, .boolean), (cJ, .long)] s ∧ nx_Ok s ∧ (∀ q, s.heap.size ≤ q → A q) ∧ ∀ q, A q → s.heap.size ≤ q
theorem sumJ_le {J : Nat → Nat} {i : Nat} : ∀ {n : Nat}, i ≤ n → sumJ J i ≤ sumJ J n := by
  intro n h
  induction n with
  | zero => rw [show i = 0 by omega]; exact Nat.le_refl _
  | succ n ih =>
    rcases (show i ≤ n ∨ i = n + 1 by omega) with q | q
    · have := ih q
      rw [sumJ]; omega
    · rw [q]; exact Nat.le_refl _
theorem back_0 {n : Nat} {X : XS} {V : MS} {F : Nat → Nat → Nat} {J : Nat → Nat} (h : st9 n X V (F n) n (sumJ J n)) : st9 (n + 0) X V (F (n - 0)) (n + 0) (sumJ J n + (sumJ J n - sumJ J (n - 0))) := by
  rw [Nat.sub_zero, Nat.sub_self]
  exact h
theorem back_end {k n r : Nat} {X : XS} {V : MS} {F : Nat → Nat → Nat} {J : Nat → Nat} (hr : r = n) (h : st9 k X V (F (n - r)) (n + r) (sumJ J n + (sumJ J n - sumJ J (n - r)))) (h0 : ∀ u, u < m_n V → F 0 u = m_pl V u) : st9 k X V (m_pl V) (2 * n) (2 * sumJ J n) := by
  subst hr
  rw [Nat.sub_self, show sumJ J 0 = 0 from rfl, Nat.sub_zero, ← Nat.two_mul, ← Nat.two_mul] at h
  exact st9_f h (fun u hu => (h0 u hu).symm)
theorem back_step {n r i : Nat} {Z : XS} {V : MS} {g : Nat → Nat} {F : Nat → Nat → Nat} {J : Nat → Nat} (hi : n - r = i + 1) (h : st9 (n + r + 1) Z V g (n + r + 1) (sumJ J n + (sumJ J n - sumJ J (i + 1)) + J i)) (hg : ∀ u, u < m_n V → F i u = g u) (hle : sumJ J (i + 1) ≤ sumJ J n) : st9 (n + (r + 1)) Z V (F (n - (r + 1))) (n + (r + 1)) (sumJ J n + (sumJ J n - sumJ J (n - (r + 1)))) := by
  have e1 : sumJ J (i + 1) = sumJ J i + J i := rfl
  rw [show n - (r + 1) = i by omega, show sumJ J n + (sumJ J n - sumJ J i) = sumJ J n + (sumJ J n - sumJ J (i + 1)) + J i by omega]
  exact st9_f h hg
theorem at9_in {k : Nat} {X : XS} {M : MS} (h : rel k X M) {r q : Nat} (hr : r < 6) (hq : q < 6) (hn : ¬ at9 X r q < 0) : vp_in (at9 X r q) 9 := by
  have h9 := h.1.1
  rcases at9_of h hr hq with ⟨z1, z2⟩ | ⟨u, hu, z1, z2⟩
  · exact absurd (by rw [z1]; decide) hn
  · rw [z1]; exact vp_in_nI (by omega) (by decide)
theorem fr_s {X : XS} {a : Int32} {r q i : Nat} (h : ∀ j, j < i → at9 X (if a = 1 then r else r + j) (if a = 1 then q + j else q) < 0) (h1 : at9 X (if a = 1 then r else r + i) (if a = 1 then q + i else q) < 0) : ∀ j, j < i + 1 → at9 X (if a = 1 then r else r + j) (if a = 1 then q + j else q) < 0 := fun j hj => by
  rcases (show j < i ∨ j = i by omega) with z | z
  · exact h j z
  · rw [z]; exact h1
theorem plc_le {d r q s : Nat} (hd : d < 2) (h0 : ¬ d = 1 → r + s ≤ 6) (h1 : d = 1 → q + s ≤ 6) : p_plcN (nI d) r q + s ≤ 6 := by
  rcases (show d = 0 ∨ d = 1 by omega) with rfl | rfl
  · exact h0 (by decide)
  · exact h1 rfl
theorem PK_0 {q : Nat} (hq : q < 4) : park_th X_0 2 1 2 (nI q) = 0 ∧ PK (x_park X_0 2 1 2 (nI q)) (m_wPk M_0 2 1 2 q) (upd (fun _ => 0) 0 2) (upd (fun _ => 0) 0 1) ∧ y_num (x_Y X_0) = 0 := by
  have hp : p_plcN 1 2 q + 2 ≤ 6 := by show q + 2 ≤ 6; omega
  obtain ⟨p1, p2, p3⟩ := park_ok (cn := 2) (rn := 2) (qn := q) (a := 1) (by omega) rel_0 (Or.inr rfl) (show 0 < 9 by decide) rfl rfl ⟨by decide, by decide⟩ (by decide) (by omega) hp (Or.inr ⟨rfl, rfl, rfl⟩) (fun i _ => (show (-1 : Int32) < 0 by decide))
  refine ⟨p1, ⟨p2, rfl, rfl, rfl, Nat.succ_pos _, rfl, rfl, rfl, fun v hv => ?_, fun v hv => ?_⟩, p3⟩
  · have hv : v < 0 + 1 := hv
    rw [show v = 0 by omega]; rfl
  · have hv : v < 0 + 1 := hv
    rw [show v = 0 by omega]; rfl
theorem dec_k {i n r : Nat} (hi : n - r = i + 1) (h : i < 1000) : (nI i + (-1)).toInt = (n : Int) - ((r + 1 + 1 : Nat) : Int) := by
  have := i_add (nI_toInt (n := i) (by omega)) (show (-1 : Int32).toInt = -1 from rfl) (by omega) (by omega) (by omega) (by omega)
  omega
theorem fst_k {n : Nat} (h : n < 1000) : (nI n - 1).toInt = (n : Int) - ((0 + 1 : Nat) : Int) := by
  have := i_sub (nI_toInt (n := n) (by omega)) (show (1 : Int32).toInt = 1 from rfl) (by omega) (by omega) (by omega) (by omega)
  omega
