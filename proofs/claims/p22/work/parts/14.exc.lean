/-! Throwing: what a method that may throw asks of its start beside its world, and what stands where it has thrown -/
def ex_names : List String := ["java/lang/RuntimeException", "java/lang/Exception"]
abbrev ex_A : String := "java/lang/IllegalArgumentException"
abbrev ex_S : String := "java/lang/IllegalStateException"
abbrev ex_I : String := "java/lang/IndexOutOfBoundsException"
def ex_strs : List (Nat × String) := [(31, "cells, row or column is out of range"), (36, "it would not stand within the yard"), (42, "the first vehicle is a car along the row 2"), (50, "no vehicle can be parked now"), (67, "it cannot stand on these cells"), (84, "row or column is out of range"), (86, "moves were made"), (100, "a lorry fills that cell"), (115, "no such vehicle"), (118, "cells is out of range"), (130, "it cannot go so far"), (168, "place is out of range")]
def ex_bad : List Cond := [.castable ex_A ex_A, .castable ex_S ex_S, .castable ex_I ex_I, .declares (Bundle.initS "java/lang/RuntimeException"), .declares (Bundle.initS "java/lang/Exception"), .declares (Bundle.initS Bundle.tN)]
/-- the text constants' addresses, and the classes' words -/
def ex_St (sa : Nat → Nat) (U : State) : Prop := (∀ q ∈ ex_strs, vk_R RX2 q.1 q.2 (sa q.1) U) ∧ ∀ w ∈ ex_bad, va_Nw w U
theorem ex_bad_tab : ∀ w ∈ ex_bad, w.onTables = true := by
  intro w hw
  simp only [ex_bad, List.mem_cons, List.not_mem_nil, or_false] at hw
  rcases hw with rfl | rfl | rfl | rfl | rfl | rfl <;> rfl
theorem ex_St.same {sa : Nat → Nat} {u U : State} (h : U.vm = u.vm) (q : ex_St sa u) : ex_St sa U := ⟨fun x hx => vk_R.same h (q.1 x hx), fun w hw => va_Nw.same (ex_bad_tab w hw) h.symm (q.2 w hw)⟩
theorem ex_St.warm {sa : Nat → Nat} {s U : State} (hW : s.WarmedH U.vm) (q : ex_St sa s) : ex_St sa U := by
  refine ⟨fun x hx => vk_R.warm hW (q.1 x hx), fun w hw => ?_⟩
  have h := q.2 w hw
  simp only [ex_bad, List.mem_cons, List.not_mem_nil, or_false] at hw
  rcases hw with rfl | rfl | rfl | rfl | rfl | rfl <;> first | exact va_Nw.warmC hW h | exact va_Nw.warmD hW h
theorem ex_get {sa : Nat → Nat} {U : State} {k i : Nat} {tx : String} (q : ex_St sa U) (h : ex_strs[k]? = some (i, tx)) : vk_R RX2 i tx (sa i) U := q.1 (i, tx) (List.mem_of_getElem? h)
theorem ex_words {sa : Nat → Nat} {s : State} {args : Array Value} (q : ex_St sa s) : ∀ w ∈ ex_bad, w.before args s = true := fun w hw => va_Nw.use (ex_bad_tab w hw) (q.2 w hw)
/-- the two static fields that Throwable's constructor reads -/
def ex_Z (A : Nat → Prop) (U : State) (H : Heap) : Prop := vx_Zq Bundle.tN "UNASSIGNED_STACK" Bundle.steD A U H ∧ vx_Zq Bundle.tN "SUPPRESSED_SENTINEL" Bundle.listD A U H
theorem ex_Z.moved {A : Nat → Prop} {u U : State} {H : Heap} (hvm : u.vm.Alike U.vm) (h : ex_Z A u H) : ex_Z A U H := ⟨vx_Zq.moved hvm h.1, vx_Zq.moved hvm h.2⟩
theorem ex_Z.kept {A : Nat → Prop} {U : State} {H H1 : Heap} (h : ex_Z A U H) (hq : ∀ a : Nat, a < H.size → ¬ A a → H1[a]? = H[a]?) : ex_Z A U H1 := ⟨vx_Zq.kept h.1 hq, vx_Zq.kept h.2 hq⟩
theorem ex_Z.narrow {A B : Nat → Prop} {U : State} {H : Heap} (h : ex_Z A U H) (hAB : ∀ q, B q → A q) : ex_Z B U H := ⟨vx_Zq.narrow h.1 hAB, vx_Zq.narrow h.2 hAB⟩
def xx_Pc (D : va_G) (tys : List (ClassId × FieldType)) (ws : va_W) (sz : Nat) (sa : Nat → Nat) (av : List Value) : Array Value → State → Prop := va_Pc av (fun U => U.heap.size = sz ∧ va_P D vwCl ws U.heap ∧ va_K D vwCl tys U ∧ va_D (fun _ => True) ws ∧ nx_Ok U ∧ ex_St sa U ∧ ex_Z (va_A ws sz) U U.heap)
theorem xx_blind {D : va_G} {tys : List (ClassId × FieldType)} {ws : va_W} {sz : Nat} {sa : Nat → Nat} {av : List Value} : FrameBlind (xx_Pc D tys ws sz sa av) := fun a U g mk q => by
  obtain ⟨q0, q1, qP, qK, qD, qN, qE, qZ⟩ := q
  exact ⟨q0, q1, qP, va_K.moved (u := U) (U := U.calling g mk a) (Vm.Alike.refl U.vm) qK, qD, nx_Ok.same (u := U) (U := U.calling g mk a) rfl qN, ex_St.same (u := U) (U := U.calling g mk a) rfl qE, ex_Z.moved (u := U) (U := U.calling g mk a) (Vm.Alike.refl U.vm) qZ⟩
theorem xx_pre {s : State} {H H0 : Heap} {D : va_G} {A : Nat → Prop} {tys : List (ClassId × FieldType)} {wc : va_W} {sa : Nat → Nat} {av : List Value} (hPc : va_P D vwCl wc H) (hDc : va_D A wc) (hK : va_K D vwCl tys s) (hN : nx_Ok s) (hE : ex_St sa s) (hZ : ex_Z A s H) (hF : ∀ q, va_A wc H.size q → A q) : ∀ U : State, U.heap = H → s.WarmedH U.vm → xx_Pc D tys wc H.size sa av av.toArray U := fun U hU hW => ⟨rfl, by rw [hU], by rw [hU]; exact hPc, va_K.moved hW.alike hK, hDc.weaken (fun _ _ _ _ => trivial), nx_Ok.warm hW hN, ex_St.warm hW hE, by rw [hU]; exact (hZ.narrow hF).moved hW.alike⟩
/-- it returned: ok says for which arguments it does -/
abbrev xx_Qi {S : Type} (ok : Prop) (g : Int32) (f : S) (w : S → va_W) (D : va_G) (ws0 : va_W) (sz : Nat) : Array Value → State → Outcome → State → Prop := va_Qi (fun (r : Int32) (u : S) => ok ∧ r = g ∧ u = f) (fun u t => va_P D vwCl (w u) t.heap ∧ va_D (va_A ws0 sz) (w u)) (va_A ws0 sz)
abbrev xx_Qv {S : Type} (ok : Prop) (f : S) (w : S → va_W) (D : va_G) (ws0 : va_W) (sz : Nat) : Array Value → State → Outcome → State → Prop := va_Qv (fun (u : S) => ok ∧ u = f) (fun u t => va_P D vwCl (w u) t.heap ∧ va_D (va_A ws0 sz) (w u)) (va_A ws0 sz)
/-- it threw: which exception by the arguments; its world is as it was -/
abbrev xx_X (P : String → Prop) (D : va_G) (ws0 : va_W) (A : Nat → Prop) : String → State → State → Prop := vx_X (fun _ : Unit => True) (fun E _ t => P E ∧ va_P D vwCl ws0 t.heap) A
theorem xx_x {s : State} {H : Heap} {D : va_G} {A : Nat → Prop} {ws : va_W} {locs : List Loc} {P : String → Prop} {E : String} (hP : va_P D vwCl ws H) (hS : va_S A s.heap H locs) (hp : P E) : ∀ t : State, s.vm.Alike t.vm → H.size ≤ t.heap.size → (∀ q : Nat, q < H.size → t.heap[q]? = H[q]?) → xx_X P D ws A E s t :=
  fun t _ hz hk => ⟨(), trivial, ⟨hp, va_P.kept hP (fun k q hq => hk q.1 (hP k q hq).lt)⟩, Nat.le_trans hS.1 hz, fun q h1 h2 => (hk q (Nat.lt_of_lt_of_le h1 hS.1)).trans (hS.2.1 q h1 h2)⟩
theorem ex_bA : ∀ w ∈ (vx_atS RX2 33 ex_A ex_names).filter (fun w => !goodWord w), w ∈ ex_bad := by decide +kernel
theorem ex_bS : ∀ w ∈ (vx_atS RX2 52 ex_S ex_names).filter (fun w => !goodWord w), w ∈ ex_bad := by decide +kernel
theorem ex_bI : ∀ w ∈ (vx_atS RX2 117 ex_I ex_names).filter (fun w => !goodWord w), w ∈ ex_bad := by decide +kernel
theorem ex_gA : ∀ w ∈ Cond.classLink RX2 29 ex_A :: Cond.initialized ex_A :: vx_atS RX2 33 ex_A ex_names, vx_ot w = true := by decide +kernel
theorem ex_gS : ∀ w ∈ Cond.classLink RX2 48 ex_S :: Cond.initialized ex_S :: vx_atS RX2 52 ex_S ex_names, vx_ot w = true := by decide +kernel
theorem ex_gI : ∀ w ∈ Cond.classLink RX2 113 ex_I :: Cond.initialized ex_I :: vx_atS RX2 117 ex_I ex_names, vx_ot w = true := by decide +kernel
theorem ex_fit : ∀ n ∈ ex_names, Bundle.fit n = true := by decide +kernel
/-! RampJam: its state, and what its methods answer -/
abbrev XS : Type := JS × SS × YS
abbrev x_J (X : XS) : JS := X.1
abbrev x_S (X : XS) : SS := X.2.1
abbrev x_Y (X : XS) : YS := X.2.2
def y_num (Y : YS) : Int32 := if y_n Y < 9 then nI (y_n Y) else -1
def j_way (X : XS) (v f : Int32) : Int32 := y_way (x_Y X) (j_po (x_J X)) (y_fil (x_Y X) (j_po (x_J X)) (y_n (x_Y X))) v (if f = 0 then -1 else 1)
def x_stand (X : XS) (p : Int32) : XS := ((j_pp (x_J X), p, j_mc (x_J X), j_dc (x_J X), 0), x_S X, x_Y X)
def x_move (X : XS) (v c : Int32) : XS := ((j_pp (x_J X), mv (j_po (x_J X)) v c, j_mc (x_J X) + 1, j_dc (x_J X) + iabs c, 0), x_S X, x_Y X)
def x_srch (X : XS) : XS := if j_is (x_J X) = 0 then ((j_pp (x_J X), j_po (x_J X), j_mc (x_J X), j_dc (x_J X), 1), s_look (x_Y X) (x_S X) (j_po (x_J X)), x_Y X) else X
def x_rest (X : XS) : XS := ((j_pp (x_J X), j_pp (x_J X), 0, 0, 0), x_S X, x_Y X)
def x_solv (Z : XS) : XS := if s_sm (x_S Z) ≤ 0 then Z else ((j_pp (x_J Z), s_pos (x_S Z), j_mc (x_J Z) + s_sm (x_S Z), j_dc (x_J Z) + s_sc (x_S Z), 0), x_S Z, x_Y Z)
theorem xs_ite2 (c : Prop) [Decidable c] (A B : XS) (C : YS) (h1 : A.2.2 = C) (h2 : B.2.2 = C) : (if c then A else B).2.2 = C := by
  by_cases hc : c
  · rw [if_pos hc]; exact h1
  · rw [if_neg hc]; exact h2
theorem xs_t3 {α β γ : Type} (x : α) (y : β) (z : γ) : (x, y, z).2.2 = z := rfl
theorem x_srch_Y (X : XS) : (x_srch X).2.2 = X.2.2 := xs_ite2 _ _ _ _ (xs_t3 _ _ _) rfl
def j_wo (c0 : Nat) : Nat → Int64
  | 0 => 0
  | k + 1 => j_wo c0 k ||| co 2 (nI (c0 + k))
def j_cnt (Y : YS) (x : Int32) (wo : Int64) : Nat → Int32
  | 0 => 0
  | k + 1 => if y_cel Y x (nI k) &&& wo = 0 then j_cnt Y x wo k else j_cnt Y x wo k + 1
theorem pl_ex (x v : Int32) : ∃ j : Nat, j < 8 ∧ pl x v = nI j := pk_andE _ (m := 7) 3 (by decide)
def pl_nat (x v : Int32) : Nat := (pl x v).toNatClampNeg
theorem pl_nI (x v : Int32) : pl_nat x v < 8 ∧ pl x v = nI (pl_nat x v) := by
  obtain ⟨j, h1, h2⟩ := pl_ex x v
  have h3 : pl_nat x v = j := by rw [pl_nat, h2]; exact nI_clamp (by omega)
  rw [h3]; exact ⟨h1, h2⟩
def j_itw (X : XS) : Int32 := j_cnt (x_Y X) (j_po (x_J X)) (j_wo (pl_nat (j_po (x_J X)) 0 + 2) (6 - (pl_nat (j_po (x_J X)) 0 + 2))) (y_n (x_Y X))
def p_line (a r q : Int32) : Int32 := if a = 0 then q else r
def p_plc (a r q : Int32) : Int32 := if a = 0 then r else q
def park_th (X : XS) (c a r q : Int32) : Nat :=
  if c < 2 ∨ 4 < c ∨ ¬ inY r q then 1
  else if ¬ p_plc a r q + c ≤ 6 then 1
  else if nI (y_n (x_Y X)) = 0 ∧ (¬ c = 2 ∨ a = 0 ∨ ¬ r = 2) then 1
  else if 0 < j_mc (x_J X) ∨ ¬ nI (y_n (x_Y X)) < 9 then 2
  else if ¬ cso a r q (min c.toNatClampNeg 4) &&& (y_fil (x_Y X) (j_po (x_J X)) (y_n (x_Y X)) ||| y_bar (x_Y X) c) = 0 then 2 else 0
def x_park (X : XS) (c a r q : Int32) : XS := ((mv (j_pp (x_J X)) (y_num (x_Y X)) (p_plc a r q), mv (j_pp (x_J X)) (y_num (x_Y X)) (p_plc a r q), j_mc (x_J X), j_dc (x_J X), 0), x_S X, y_add (x_Y X) c a (p_line a r q))
def ramp_th (X : XS) (r q : Int32) : Nat :=
  if ¬ inY r q then 1 else if ¬ j_mc (x_J X) ≤ 0 then 2
  else if y_lor (x_Y X) (y_on (x_Y X) (j_po (x_J X)) (co r q) (y_n (x_Y X)) 0) then 2 else 0
def x_ramp (X : XS) (r q : Int32) : XS := ((j_pp (x_J X), j_po (x_J X), j_mc (x_J X), j_dc (x_J X), 0), x_S X, y_put (x_Y X) (co r q))
def drive_th (X : XS) (v c : Int32) : Nat :=
  if ¬ y_has (x_Y X) v then 1 else if c < -4 ∨ 4 < c ∨ c = 0 then 2
  else if ¬ iabs c ≤ j_way X v (if c ≤ 0 then 0 else 1) then 3 else 0
def has_th (X : XS) (v : Int32) : Nat := if y_has (x_Y X) v then 0 else 1
def x_dron (X : XS) (v f : Int32) : XS := if j_way X v f ≤ 0 then X else x_move X v (if f = 0 then -j_way X v f else j_way X v f)
def j_row (X : XS) (v : Int32) : Int32 := if y_acr (x_Y X) v then y_line (x_Y X) v else pl (j_po (x_J X)) v
def j_col (X : XS) (v : Int32) : Int32 := if y_acr (x_Y X) v then pl (j_po (x_J X)) v else y_line (x_Y X) v
def at_th (r q : Int32) : Nat := if inY r q then 0 else 1
def reach_th (X : XS) (v p : Int32) : Nat := if ¬ y_has (x_Y X) v then 1 else if p < 0 ∨ ¬ p < 6 then 2 else 0
theorem s_fat_z (S : SS) (v p : Int32) : ∀ (d k : Nat), narrow .boolean (.int (s_fat S v p d k)) = .int (s_fat S v p d k)
  | 0, _ => by
    rw [s_fat]; rfl
  | d + 1, k => by
    rw [s_fat]
    split
    · split
      · rfl
      · exact s_fat_z S v p d (k + 1)
    · rfl
