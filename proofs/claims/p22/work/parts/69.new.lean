/-! Making objects and arrays -/
theorem ar_ex {s : State} {args : Array Value} {ty : FieldType} (h : (Cond.arrayClass ty).before args s = true) (hp : ∀ c : ClassId, (s.vm.findClass ("[" ++ ty.toString) = some c) → va_RA s c ty) : ∃ cA, ArrOfT s cA ty ∧ va_RA s cA ty := by
  obtain ⟨c, k, comp, h1, h2, h3⟩ := Cond.arrayClass_spec h
  exact ⟨c, fun n z => ⟨fun k h => (by cases h), k, h2, comp, h3⟩, hp c h1⟩
abbrev cn_Qv {S : Type} (w : S → va_W) (D : va_G) (ws0 : va_W) (sz : Nat) : Array Value → State → Outcome → State → Prop := va_Qv (fun _ : S => True) (fun u t => va_P D vwCl (w u) t.heap ∧ va_D (va_A ws0 sz) (w u)) (va_A ws0 sz)
section CnRow
variable {p : Program} {l : Launch} {e : Env} {R : Room} {s : State} {m : MethodId} {args : Array Value} {below : List Frame} {meth : Method} {c : Code} {H : Heap} {locs : List Loc} {cells slots mc ms : Nat} {Q : State → Prop}
variable {A0 : Nat → Prop} {H0 : Heap} {pc : Nat} {ls : Array Slot} {st0 rest : List Value} {D : va_G} {ws wc wr ws' : va_W} {av : Array Value} {cc : ByteArray} {tys : List (ClassId × FieldType)} {cl : List vw_C}
theorem cn_v {S : Type} {w : S → va_W} (hr : va_Run p l e R s m args below meth c H locs cells slots mc ms (F0 m pc ls st0) rest (cn_Qv w D wc H.size av) (va_A wc H.size)) (hS : va_S A0 H0 H locs) (hA : ∀ q, H0.size ≤ q → A0 q) (hP : va_P D vwCl ws H) (hD : va_D A0 ws)
    (isC isR : List Nat) (hC : isC.map (fun i => ws[i]?) = wc.map some) (hR : isR.map (fun i => ws[i]?) = wr.map some) (hn : va_nd isR = true) (hdis : ∀ i ∈ isR, i ∉ isC)
    (kk : ∀ (u : S) (H1 : Heap) (locs1 : List Loc), va_P D vwCl (wr ++ w u) H1 → va_D A0 (wr ++ w u) → va_S A0 H0 H1 locs1 → W p l e R s m args below meth c H1 locs1 (cells + mc) (slots + ms) Q (F0 m (pc + 3) ls rest)) : W p l e R s m args below meth c H locs cells slots Q (F0 m pc ls st0) := by
  have hF := va_free (wc := wc) hD hS hA isC hC
  refine va_callv hr hS (fun q _ h => hF q h) hF (fun u t H1 locs1 ht hvm hp hb hz hk hS1 => ?_)
  obtain ⟨hP1, hD1⟩ := hb
  rw [ht] at hP1
  obtain ⟨hP2, hD2⟩ := va_join (wr := wr) hP hD isC isR hC hR hn hdis hk hF hP1 hD1
  exact kk u H1 locs1 hP2 hD2 hS1
/-- a new array, of a class that the list of classes has already -/
theorem nw_a (hexec : p.tables.exec = Jvm.exec) (hb : c.code = cc) {atype : ArrayType} {ty : FieldType} (hty : newarray.typeOf atype = ty) (harr : (Cond.arrayClass (newarray.typeOf atype)).before args s = true) (hK : va_K D cl tys s) (hP : va_P D cl ws H) (hD : va_D A0 ws) (hS : va_S A0 H0 H locs) (hA : ∀ q, H0.size ≤ q → A0 q)
    (t0 : Nat) {cA : ClassId} (ht : tys[t0]? = some (cA, ty)) (hra : ∀ x : ClassId, va_RA s x ty → s.vm.findClass ("[" ++ ty.toString) = some x)
    {n : Int32} {N' : Nat} {a0 : vp_A} (ha : ∀ cA : ClassId, vp_cell cA a0 = arrV cA N' (fun _ => defaultValue ty)) (hn : ¬ n < 0) (hN : n.toNatClampNeg = N') (hbytes : N' * componentBytes ty ≤ 536870912) (hcells : cells + 1 ≤ R.cells) (hslots : slots + N' ≤ R.slots) (hdg : decode cc pc = .ok (.newarray atype, 2))
    (kk : ∀ (q : Nat) (H1 : Heap), va_P D cl (ws ++ [(q, .inl (cA, a0))]) H1 → va_D A0 (ws ++ [(q, .inl (cA, a0))]) → va_S A0 H0 H1 locs →
      W p l e R s m args below meth c H1 locs (cells + 1) (slots + N') Q (F0 m (pc + 2) ls (.ref q :: rest))) : W p l e R s m args below meth c H locs cells slots Q (F0 m pc ls (.int n :: rest)) := by
  refine va_newa hexec hb harr hty hK hP hD hS hA ha hn hN hbytes hcells hslots hdg (fun q cB H1 hK1 hP1 hD1 hS1 => ?_)
  have h1 := hra cA (hK.2 t0 _ ht).2
  have h2 := hra cB (hK1.2 tys.length (cB, ty) (by rw [List.getElem?_append_right (Nat.le_refl _), Nat.sub_self]; rfl)).2
  cases Option.some.inj (h1.symm.trans h2)
  exact kk q H1 hP1 hD1 hS1
end CnRow
theorem nw_I (cA : ClassId) (N : Nat) : vp_cell cA (N, .inl (fun _ => 0)) = arrV cA N (fun _ => defaultValue .int) := rfl
theorem nw_Z (cA : ClassId) (N : Nat) : vp_cell cA (N, .inl (fun _ => 0)) = arrV cA N (fun _ => defaultValue .boolean) := rfl
theorem nw_J (cA : ClassId) (N : Nat) : vp_cell cA (N, .inr (.inl (fun _ => 0))) = arrV cA N (fun _ => defaultValue .long) := rfl
theorem nw_9 : ¬ (9 : Int32) < 0 ∧ (9 : Int32).toNatClampNeg = 9 := by decide
theorem nw_36 : ¬ (36 : Int32) < 0 ∧ (36 : Int32).toNatClampNeg = 36 := by decide
theorem nw_800 : ¬ (800 : Int32) < 0 ∧ (800 : Int32).toNatClampNeg = 800 := by decide
theorem nw_2048 : ¬ (2048 : Int32) < 0 ∧ (2048 : Int32).toNatClampNeg = 2048 := by decide
theorem nw_1 : ¬ (1 : Int32) < 0 ∧ (1 : Int32).toNatClampNeg = 1 := by decide
theorem nw_b9_int : 9 * componentBytes .int ≤ 536870912 := by decide +kernel
theorem nw_b9_boolean : 9 * componentBytes .boolean ≤ 536870912 := by decide +kernel
theorem nw_b9_long : 9 * componentBytes .long ≤ 536870912 := by decide +kernel
theorem nw_b36_int : 36 * componentBytes .int ≤ 536870912 := by decide +kernel
theorem nw_b800_int : 800 * componentBytes .int ≤ 536870912 := by decide +kernel
theorem nw_b2048_int : 2048 * componentBytes .int ≤ 536870912 := by decide +kernel
theorem nw_b1_long : 1 * componentBytes .long ≤ 536870912 := by decide +kernel
theorem in_X1_init_1 : ∀ w ∈ wsX10, w ∈ wsX1_init := by decide +kernel
set_option maxHeartbeats 400000 in
set_option maxRecDepth 100000 in
theorem c_X1_init (l : Launch) (G : va_G) (cI cZ cJ : ClassId) (h_g : Nat) (sz : Nat) : Met l yX1_init wsX1_init ({ frames := 1, cells := 4, slots := 36, locals := 12 }) (rw_Pc G [(cI, .int), (cZ, .boolean), (cJ, .long)] [(h_g, .inr (1, [.null, .null, .null, .null, .int 0, .long 0]))] sz [.ref h_g]) (cn_Qv (S := Nat × Nat × Nat × Nat) (fun u => [(h_g, .inr (1, [.ref (u.1), .ref (u.2.1), .ref (u.2.2.1), .ref (u.2.2.2), .int 0, .long 0])), ((u.1), .inl (cI, 9, .inl (fun _ => 0))), ((u.2.1), .inl (cZ, 9, .inl (fun _ => 0))), ((u.2.2.1), .inl (cI, 9, .inl (fun _ => 0))), ((u.2.2.2), .inl (cJ, 9, .inr (.inl (fun _ => 0))))]) G [(h_g, .inr (1, [.null, .null, .null, .null, .int 0, .long 0]))] sz) 4 36 (va_A [(h_g, .inr (1, [.null, .null, .null, .null, .int 0, .long 0]))] sz) := by
  refine Met.ofW (cc := cX1_init) (maxL := 1) (ret := none) (by decide) rfl ?_
  intro p e s m args below meth c s₁ B hml hv
  obtain ⟨rfl, hsz, hP, hK, hD0, hN⟩ := hv
  have hx := B.exec
  have hb := B.bytes
  have hr := B.returns
  have hts := atoms_spec (ws := wsX1_init) B.pre
  have hown : s.vm.findClass RX1 = some m.cls := findClass_of_methodNamed B.named
  have hlocks := B.notSynchronized
  have hin : meth.name = "<init>" := (name_of_methodNamed B.named B.method).1
  subst hsz
  have hD := hD0.self (sz := s.heap.size)
  unfold cn_Qv
  generalize hAe : va_A [(h_g, .inr (1, [.null, .null, .null, .null, .int 0, .long 0]))] s.heap.size = A at hD ⊢
  have hA : ∀ q : Nat, s.heap.size ≤ q → A q := fun q h => by rw [← hAe]; exact Or.inr h
  have hS : va_S A s.heap s.heap [] := va_S.rf
  have hl := lv_entry ([.ref h_g]) (n := 1) (Nat.le_of_ble_eq_true rfl)
  rw [lg_entry_eq]
  generalize (lg_sl ([.ref h_g]) ++ List.replicate (1 - (lg_sl ([.ref h_g])).length) Slot.unset).toArray = ls at hl ⊢
  have hl : lv_has ls 1 [(0, .ref h_g)] := hl
  refine lv_aload_n hx hb dX1_init_0 rfl (lv_at hl 0 rfl) ?_
  refine W.objInit hx hb hown (hts (.methodLink RX1 3 objectInit) (by decide +kernel)) (hts (.instanceMethod objectInit) (by decide +kernel)) (hts (.code objectInit ⟨#[0xb1]⟩ 1 none) (by decide +kernel)) rfl (by rw [hml]; exact hl.1) rfl dX1_init_1 (Nat.le_of_ble_eq_true rfl) (Nat.le_of_ble_eq_true rfl) ?_
  refine W.eq (g2 := F0 m 4 ls []) rfl ?_
  refine lv_aload_n hx hb dX1_init_4 rfl (lv_at hl 0 rfl) ?_
  refine lv_bipush (v := 9) hx hb dX1_init_5 (by decide) ?_
  refine nw_a (cA := cI) (a0 := (9, .inl (fun _ => 0))) (N' := 9) hx hb (atype := .int) (ty := .int) rfl (hts (.arrayClass .int) (by decide +kernel)) hK hP hD hS hA 0 rfl (fun x h9 => h9) (fun cA => nw_I cA _) nw_9.1 nw_9.2 nw_b9_int (Nat.le_of_ble_eq_true rfl) (Nat.le_of_ble_eq_true rfl) dX1_init_7 (fun q_1 H hP hD hS => ?_)
  have hP : va_P G vwCl [(h_g, .inr (1, [.null, .null, .null, .null, .int 0, .long 0])), (q_1, .inl (cI, 9, .inl (fun _ => 0)))] H := hP
  have hD : va_D A [(h_g, .inr (1, [.null, .null, .null, .null, .int 0, .long 0])), (q_1, .inl (cI, 9, .inl (fun _ => 0)))] := hD
  refine W.widen (k := 1) (n := 9) (Nat.le_of_ble_eq_true rfl) (Nat.le_of_ble_eq_true rfl) ?_
  refine va_putF (D := G) (ci := 1) (v := .ref q_1) (ty := .array .int) (C := RX1) (T := TX1) (N := 6) hx hb hts in_X1_init_1 tyX1 tyX1_ok nmX1 hown hK hP hD hS 0 rfl rfl 0 (by decide) (hts (.fieldLink RX1 9 "RampJam$Yard" "sizes" "[I") (by decide +kernel)) (fun _ h9 => h9) rfl hin rfl (by decide +kernel) rfl rfl (Nat.le_of_ble_eq_true rfl) dX1_init_9 (fun H locs hP hD hS => ?_)
  have hP : va_P G vwCl [(h_g, .inr (1, [.ref q_1, .null, .null, .null, .int 0, .long 0])), (q_1, .inl (cI, 9, .inl (fun _ => 0)))] H := hP
  have hD : va_D A [(h_g, .inr (1, [.ref q_1, .null, .null, .null, .int 0, .long 0])), (q_1, .inl (cI, 9, .inl (fun _ => 0)))] := hD
  refine lv_aload_n hx hb dX1_init_12 rfl (lv_at hl 0 rfl) ?_
  refine lv_bipush (v := 9) hx hb dX1_init_13 (by decide) ?_
  refine nw_a (cA := cZ) (a0 := (9, .inl (fun _ => 0))) (N' := 9) hx hb (atype := .boolean) (ty := .boolean) rfl (hts (.arrayClass .boolean) (by decide +kernel)) hK hP hD hS hA 1 rfl (fun x h9 => h9) (fun cA => nw_Z cA _) nw_9.1 nw_9.2 nw_b9_boolean (Nat.le_of_ble_eq_true rfl) (Nat.le_of_ble_eq_true rfl) dX1_init_15 (fun q_2 H hP hD hS => ?_)
  have hP : va_P G vwCl [(h_g, .inr (1, [.ref q_1, .null, .null, .null, .int 0, .long 0])), (q_1, .inl (cI, 9, .inl (fun _ => 0))), (q_2, .inl (cZ, 9, .inl (fun _ => 0)))] H := hP
  have hD : va_D A [(h_g, .inr (1, [.ref q_1, .null, .null, .null, .int 0, .long 0])), (q_1, .inl (cI, 9, .inl (fun _ => 0))), (q_2, .inl (cZ, 9, .inl (fun _ => 0)))] := hD
  refine W.widen (k := 2) (n := 18) (Nat.le_of_ble_eq_true rfl) (Nat.le_of_ble_eq_true rfl) ?_
  refine va_putF (D := G) (ci := 1) (v := .ref q_2) (ty := .array .boolean) (C := RX1) (T := TX1) (N := 6) hx hb hts in_X1_init_1 tyX1 tyX1_ok nmX1 hown hK hP hD hS 0 rfl rfl 1 (by decide) (hts (.fieldLink RX1 15 "RampJam$Yard" "acrosses" "[Z") (by decide +kernel)) (fun _ h9 => h9) rfl hin rfl (by decide +kernel) rfl rfl (Nat.le_of_ble_eq_true rfl) dX1_init_17 (fun H locs hP hD hS => ?_)
  have hP : va_P G vwCl [(h_g, .inr (1, [.ref q_1, .ref q_2, .null, .null, .int 0, .long 0])), (q_1, .inl (cI, 9, .inl (fun _ => 0))), (q_2, .inl (cZ, 9, .inl (fun _ => 0)))] H := hP
  have hD : va_D A [(h_g, .inr (1, [.ref q_1, .ref q_2, .null, .null, .int 0, .long 0])), (q_1, .inl (cI, 9, .inl (fun _ => 0))), (q_2, .inl (cZ, 9, .inl (fun _ => 0)))] := hD
  refine lv_aload_n hx hb dX1_init_20 rfl (lv_at hl 0 rfl) ?_
  refine lv_bipush (v := 9) hx hb dX1_init_21 (by decide) ?_
  refine nw_a (cA := cI) (a0 := (9, .inl (fun _ => 0))) (N' := 9) hx hb (atype := .int) (ty := .int) rfl (hts (.arrayClass .int) (by decide +kernel)) hK hP hD hS hA 0 rfl (fun x h9 => h9) (fun cA => nw_I cA _) nw_9.1 nw_9.2 nw_b9_int (Nat.le_of_ble_eq_true rfl) (Nat.le_of_ble_eq_true rfl) dX1_init_23 (fun q_3 H hP hD hS => ?_)
  have hP : va_P G vwCl [(h_g, .inr (1, [.ref q_1, .ref q_2, .null, .null, .int 0, .long 0])), (q_1, .inl (cI, 9, .inl (fun _ => 0))), (q_2, .inl (cZ, 9, .inl (fun _ => 0))), (q_3, .inl (cI, 9, .inl (fun _ => 0)))] H := hP
  have hD : va_D A [(h_g, .inr (1, [.ref q_1, .ref q_2, .null, .null, .int 0, .long 0])), (q_1, .inl (cI, 9, .inl (fun _ => 0))), (q_2, .inl (cZ, 9, .inl (fun _ => 0))), (q_3, .inl (cI, 9, .inl (fun _ => 0)))] := hD
  refine W.widen (k := 3) (n := 27) (Nat.le_of_ble_eq_true rfl) (Nat.le_of_ble_eq_true rfl) ?_
  refine va_putF (D := G) (ci := 1) (v := .ref q_3) (ty := .array .int) (C := RX1) (T := TX1) (N := 6) hx hb hts in_X1_init_1 tyX1 tyX1_ok nmX1 hown hK hP hD hS 0 rfl rfl 2 (by decide) (hts (.fieldLink RX1 19 "RampJam$Yard" "lines" "[I") (by decide +kernel)) (fun _ h9 => h9) rfl hin rfl (by decide +kernel) rfl rfl (Nat.le_of_ble_eq_true rfl) dX1_init_25 (fun H locs hP hD hS => ?_)
  have hP : va_P G vwCl [(h_g, .inr (1, [.ref q_1, .ref q_2, .ref q_3, .null, .int 0, .long 0])), (q_1, .inl (cI, 9, .inl (fun _ => 0))), (q_2, .inl (cZ, 9, .inl (fun _ => 0))), (q_3, .inl (cI, 9, .inl (fun _ => 0)))] H := hP
  have hD : va_D A [(h_g, .inr (1, [.ref q_1, .ref q_2, .ref q_3, .null, .int 0, .long 0])), (q_1, .inl (cI, 9, .inl (fun _ => 0))), (q_2, .inl (cZ, 9, .inl (fun _ => 0))), (q_3, .inl (cI, 9, .inl (fun _ => 0)))] := hD
  refine lv_aload_n hx hb dX1_init_28 rfl (lv_at hl 0 rfl) ?_
  refine lv_bipush (v := 9) hx hb dX1_init_29 (by decide) ?_
  refine nw_a (cA := cJ) (a0 := (9, .inr (.inl (fun _ => 0)))) (N' := 9) hx hb (atype := .long) (ty := .long) rfl (hts (.arrayClass .long) (by decide +kernel)) hK hP hD hS hA 2 rfl (fun x h9 => h9) (fun cA => nw_J cA _) nw_9.1 nw_9.2 nw_b9_long (Nat.le_of_ble_eq_true rfl) (Nat.le_of_ble_eq_true rfl) dX1_init_31 (fun q_4 H hP hD hS => ?_)
  have hP : va_P G vwCl [(h_g, .inr (1, [.ref q_1, .ref q_2, .ref q_3, .null, .int 0, .long 0])), (q_1, .inl (cI, 9, .inl (fun _ => 0))), (q_2, .inl (cZ, 9, .inl (fun _ => 0))), (q_3, .inl (cI, 9, .inl (fun _ => 0))), (q_4, .inl (cJ, 9, .inr (.inl (fun _ => 0))))] H := hP
  have hD : va_D A [(h_g, .inr (1, [.ref q_1, .ref q_2, .ref q_3, .null, .int 0, .long 0])), (q_1, .inl (cI, 9, .inl (fun _ => 0))), (q_2, .inl (cZ, 9, .inl (fun _ => 0))), (q_3, .inl (cI, 9, .inl (fun _ => 0))), (q_4, .inl (cJ, 9, .inr (.inl (fun _ => 0))))] := hD
  refine W.widen (k := 4) (n := 36) (Nat.le_of_ble_eq_true rfl) (Nat.le_of_ble_eq_true rfl) ?_
  refine va_putF (D := G) (ci := 1) (v := .ref q_4) (ty := .array .long) (C := RX1) (T := TX1) (N := 6) hx hb hts in_X1_init_1 tyX1 tyX1_ok nmX1 hown hK hP hD hS 0 rfl rfl 3 (by decide) (hts (.fieldLink RX1 22 "RampJam$Yard" "shapes" "[J") (by decide +kernel)) (fun _ h9 => h9) rfl hin rfl (by decide +kernel) rfl rfl (Nat.le_of_ble_eq_true rfl) dX1_init_33 (fun H locs hP hD hS => ?_)
  have hP : va_P G vwCl [(h_g, .inr (1, [.ref q_1, .ref q_2, .ref q_3, .ref q_4, .int 0, .long 0])), (q_1, .inl (cI, 9, .inl (fun _ => 0))), (q_2, .inl (cZ, 9, .inl (fun _ => 0))), (q_3, .inl (cI, 9, .inl (fun _ => 0))), (q_4, .inl (cJ, 9, .inr (.inl (fun _ => 0))))] H := hP
  have hD : va_D A [(h_g, .inr (1, [.ref q_1, .ref q_2, .ref q_3, .ref q_4, .int 0, .long 0])), (q_1, .inl (cI, 9, .inl (fun _ => 0))), (q_2, .inl (cZ, 9, .inl (fun _ => 0))), (q_3, .inl (cI, 9, .inl (fun _ => 0))), (q_4, .inl (cJ, 9, .inr (.inl (fun _ => 0))))] := hD
  have hP9 := hP.subm (ws' := [(h_g, .inr (1, [.ref q_1, .ref q_2, .ref q_3, .ref q_4, .int 0, .long 0])), (q_1, .inl (cI, 9, .inl (fun _ => 0))), (q_2, .inl (cZ, 9, .inl (fun _ => 0))), (q_3, .inl (cI, 9, .inl (fun _ => 0))), (q_4, .inl (cJ, 9, .inr (.inl (fun _ => 0))))]) [0, 1, 2, 3, 4] rfl
  have hD9 := hD.sub (ws' := [(h_g, .inr (1, [.ref q_1, .ref q_2, .ref q_3, .ref q_4, .int 0, .long 0])), (q_1, .inl (cI, 9, .inl (fun _ => 0))), (q_2, .inl (cZ, 9, .inl (fun _ => 0))), (q_3, .inl (cI, 9, .inl (fun _ => 0))), (q_4, .inl (cJ, 9, .inr (.inl (fun _ => 0))))]) [0, 1, 2, 3, 4] (by decide) rfl
  exact W.vret hx hb hr (fun t ht hW => ⟨⟨(q_1, q_2, q_3, q_4), rfl, trivial, by rw [ht]; exact hP9, hD9⟩, hS.F ht⟩) hS.2.2 dX1_init_36

theorem in_X0_init_0 : ∀ w ∈ wsX00, w ∈ wsX0_init := by decide +kernel
set_option maxHeartbeats 400000 in
set_option maxRecDepth 100000 in
theorem c_X0_init (l : Launch) (G : va_G) (cI cZ cJ : ClassId) (h_g : Nat) (sz : Nat) (y_g : Nat) : Met l yX0_init wsX0_init ({ frames := 1, cells := 4, slots := 4448, locals := 12 }) (rw_Pc G [(cI, .int), (cZ, .boolean), (cJ, .long)] [(h_g, .inr (0, [.null, .null, .null, .null, .null, .int 0, .int 0, .int 0, .int 0, .int 0]))] sz [.ref h_g, .ref y_g]) (cn_Qv (S := Nat × Nat × Nat × Nat) (fun u => [(h_g, .inr (0, [.ref y_g, .ref (u.1), .ref (u.2.1), .ref (u.2.2.1), .ref (u.2.2.2), .int 0, .int 0, .int 0, .int 0, .int 0])), ((u.1), .inl (cI, 800, .inl (fun _ => 0))), ((u.2.1), .inl (cI, 800, .inl (fun _ => 0))), ((u.2.2.1), .inl (cI, 800, .inl (fun _ => 0))), ((u.2.2.2), .inl (cI, 2048, .inl (fun _ => 0)))]) G [(h_g, .inr (0, [.null, .null, .null, .null, .null, .int 0, .int 0, .int 0, .int 0, .int 0]))] sz) 4 4448 (va_A [(h_g, .inr (0, [.null, .null, .null, .null, .null, .int 0, .int 0, .int 0, .int 0, .int 0]))] sz) := by
  refine Met.ofW (cc := cX0_init) (maxL := 2) (ret := none) (by decide) rfl ?_
  intro p e s m args below meth c s₁ B hml hv
  obtain ⟨rfl, hsz, hP, hK, hD0, hN⟩ := hv
  have hx := B.exec
  have hb := B.bytes
  have hr := B.returns
  have hts := atoms_spec (ws := wsX0_init) B.pre
  have hown : s.vm.findClass RX0 = some m.cls := findClass_of_methodNamed B.named
  have hlocks := B.notSynchronized
  have hin : meth.name = "<init>" := (name_of_methodNamed B.named B.method).1
  subst hsz
  have hD := hD0.self (sz := s.heap.size)
  unfold cn_Qv
  generalize hAe : va_A [(h_g, .inr (0, [.null, .null, .null, .null, .null, .int 0, .int 0, .int 0, .int 0, .int 0]))] s.heap.size = A at hD ⊢
  have hA : ∀ q : Nat, s.heap.size ≤ q → A q := fun q h => by rw [← hAe]; exact Or.inr h
  have hS : va_S A s.heap s.heap [] := va_S.rf
  have hl := lv_entry ([.ref h_g, .ref y_g]) (n := 2) (Nat.le_of_ble_eq_true rfl)
  rw [lg_entry_eq]
  generalize (lg_sl ([.ref h_g, .ref y_g]) ++ List.replicate (2 - (lg_sl ([.ref h_g, .ref y_g])).length) Slot.unset).toArray = ls at hl ⊢
  have hl : lv_has ls 2 [(0, .ref h_g), (1, .ref y_g)] := hl
  refine lv_aload_n hx hb dX0_init_0 rfl (lv_at hl 0 rfl) ?_
  refine W.objInit hx hb hown (hts (.methodLink RX0 3 objectInit) (by decide +kernel)) (hts (.instanceMethod objectInit) (by decide +kernel)) (hts (.code objectInit ⟨#[0xb1]⟩ 1 none) (by decide +kernel)) rfl (by rw [hml]; exact hl.1) rfl dX0_init_1 (Nat.le_of_ble_eq_true rfl) (Nat.le_of_ble_eq_true rfl) ?_
  refine W.eq (g2 := F0 m 4 ls []) rfl ?_
  refine lv_aload_n hx hb dX0_init_4 rfl (lv_at hl 0 rfl) ?_
  refine lv_sipush (v := 800) hx hb dX0_init_5 (by decide) ?_
  refine nw_a (cA := cI) (a0 := (800, .inl (fun _ => 0))) (N' := 800) hx hb (atype := .int) (ty := .int) rfl (hts (.arrayClass .int) (by decide +kernel)) hK hP hD hS hA 0 rfl (fun x h9 => h9) (fun cA => nw_I cA _) nw_800.1 nw_800.2 nw_b800_int (Nat.le_of_ble_eq_true rfl) (Nat.le_of_ble_eq_true rfl) dX0_init_8 (fun q_1 H hP hD hS => ?_)
  have hP : va_P G vwCl [(h_g, .inr (0, [.null, .null, .null, .null, .null, .int 0, .int 0, .int 0, .int 0, .int 0])), (q_1, .inl (cI, 800, .inl (fun _ => 0)))] H := hP
  have hD : va_D A [(h_g, .inr (0, [.null, .null, .null, .null, .null, .int 0, .int 0, .int 0, .int 0, .int 0])), (q_1, .inl (cI, 800, .inl (fun _ => 0)))] := hD
  refine W.widen (k := 1) (n := 800) (Nat.le_of_ble_eq_true rfl) (Nat.le_of_ble_eq_true rfl) ?_
  refine va_putF (D := G) (ci := 0) (v := .ref q_1) (ty := .array .int) (C := RX0) (T := TX0) (N := 10) hx hb hts in_X0_init_0 tyX0 tyX0_ok nmX0 hown hK hP hD hS 0 rfl rfl 1 (by decide) (hts (.fieldLink RX0 9 "RampJam$Search" "found" "[I") (by decide +kernel)) (fun _ h9 => h9) rfl hin rfl (by decide +kernel) rfl rfl (Nat.le_of_ble_eq_true rfl) dX0_init_10 (fun H locs hP hD hS => ?_)
  have hP : va_P G vwCl [(h_g, .inr (0, [.null, .ref q_1, .null, .null, .null, .int 0, .int 0, .int 0, .int 0, .int 0])), (q_1, .inl (cI, 800, .inl (fun _ => 0)))] H := hP
  have hD : va_D A [(h_g, .inr (0, [.null, .ref q_1, .null, .null, .null, .int 0, .int 0, .int 0, .int 0, .int 0])), (q_1, .inl (cI, 800, .inl (fun _ => 0)))] := hD
  refine lv_aload_n hx hb dX0_init_13 rfl (lv_at hl 0 rfl) ?_
  refine lv_sipush (v := 800) hx hb dX0_init_14 (by decide) ?_
  refine nw_a (cA := cI) (a0 := (800, .inl (fun _ => 0))) (N' := 800) hx hb (atype := .int) (ty := .int) rfl (hts (.arrayClass .int) (by decide +kernel)) hK hP hD hS hA 0 rfl (fun x h9 => h9) (fun cA => nw_I cA _) nw_800.1 nw_800.2 nw_b800_int (Nat.le_of_ble_eq_true rfl) (Nat.le_of_ble_eq_true rfl) dX0_init_17 (fun q_2 H hP hD hS => ?_)
  have hP : va_P G vwCl [(h_g, .inr (0, [.null, .ref q_1, .null, .null, .null, .int 0, .int 0, .int 0, .int 0, .int 0])), (q_1, .inl (cI, 800, .inl (fun _ => 0))), (q_2, .inl (cI, 800, .inl (fun _ => 0)))] H := hP
  have hD : va_D A [(h_g, .inr (0, [.null, .ref q_1, .null, .null, .null, .int 0, .int 0, .int 0, .int 0, .int 0])), (q_1, .inl (cI, 800, .inl (fun _ => 0))), (q_2, .inl (cI, 800, .inl (fun _ => 0)))] := hD
  refine W.widen (k := 2) (n := 1600) (Nat.le_of_ble_eq_true rfl) (Nat.le_of_ble_eq_true rfl) ?_
  refine va_putF (D := G) (ci := 0) (v := .ref q_2) (ty := .array .int) (C := RX0) (T := TX0) (N := 10) hx hb hts in_X0_init_0 tyX0 tyX0_ok nmX0 hown hK hP hD hS 0 rfl rfl 2 (by decide) (hts (.fieldLink RX0 15 "RampJam$Search" "origins" "[I") (by decide +kernel)) (fun _ h9 => h9) rfl hin rfl (by decide +kernel) rfl rfl (Nat.le_of_ble_eq_true rfl) dX0_init_19 (fun H locs hP hD hS => ?_)
  have hP : va_P G vwCl [(h_g, .inr (0, [.null, .ref q_1, .ref q_2, .null, .null, .int 0, .int 0, .int 0, .int 0, .int 0])), (q_1, .inl (cI, 800, .inl (fun _ => 0))), (q_2, .inl (cI, 800, .inl (fun _ => 0)))] H := hP
  have hD : va_D A [(h_g, .inr (0, [.null, .ref q_1, .ref q_2, .null, .null, .int 0, .int 0, .int 0, .int 0, .int 0])), (q_1, .inl (cI, 800, .inl (fun _ => 0))), (q_2, .inl (cI, 800, .inl (fun _ => 0)))] := hD
  refine lv_aload_n hx hb dX0_init_22 rfl (lv_at hl 0 rfl) ?_
  refine lv_sipush (v := 800) hx hb dX0_init_23 (by decide) ?_
  refine nw_a (cA := cI) (a0 := (800, .inl (fun _ => 0))) (N' := 800) hx hb (atype := .int) (ty := .int) rfl (hts (.arrayClass .int) (by decide +kernel)) hK hP hD hS hA 0 rfl (fun x h9 => h9) (fun cA => nw_I cA _) nw_800.1 nw_800.2 nw_b800_int (Nat.le_of_ble_eq_true rfl) (Nat.le_of_ble_eq_true rfl) dX0_init_26 (fun q_3 H hP hD hS => ?_)
  have hP : va_P G vwCl [(h_g, .inr (0, [.null, .ref q_1, .ref q_2, .null, .null, .int 0, .int 0, .int 0, .int 0, .int 0])), (q_1, .inl (cI, 800, .inl (fun _ => 0))), (q_2, .inl (cI, 800, .inl (fun _ => 0))), (q_3, .inl (cI, 800, .inl (fun _ => 0)))] H := hP
  have hD : va_D A [(h_g, .inr (0, [.null, .ref q_1, .ref q_2, .null, .null, .int 0, .int 0, .int 0, .int 0, .int 0])), (q_1, .inl (cI, 800, .inl (fun _ => 0))), (q_2, .inl (cI, 800, .inl (fun _ => 0))), (q_3, .inl (cI, 800, .inl (fun _ => 0)))] := hD
  refine W.widen (k := 3) (n := 2400) (Nat.le_of_ble_eq_true rfl) (Nat.le_of_ble_eq_true rfl) ?_
  refine va_putF (D := G) (ci := 0) (v := .ref q_3) (ty := .array .int) (C := RX0) (T := TX0) (N := 10) hx hb hts in_X0_init_0 tyX0 tyX0_ok nmX0 hown hK hP hD hS 0 rfl rfl 3 (by decide) (hts (.fieldLink RX0 18 "RampJam$Search" "moveCodes" "[I") (by decide +kernel)) (fun _ h9 => h9) rfl hin rfl (by decide +kernel) rfl rfl (Nat.le_of_ble_eq_true rfl) dX0_init_28 (fun H locs hP hD hS => ?_)
  have hP : va_P G vwCl [(h_g, .inr (0, [.null, .ref q_1, .ref q_2, .ref q_3, .null, .int 0, .int 0, .int 0, .int 0, .int 0])), (q_1, .inl (cI, 800, .inl (fun _ => 0))), (q_2, .inl (cI, 800, .inl (fun _ => 0))), (q_3, .inl (cI, 800, .inl (fun _ => 0)))] H := hP
  have hD : va_D A [(h_g, .inr (0, [.null, .ref q_1, .ref q_2, .ref q_3, .null, .int 0, .int 0, .int 0, .int 0, .int 0])), (q_1, .inl (cI, 800, .inl (fun _ => 0))), (q_2, .inl (cI, 800, .inl (fun _ => 0))), (q_3, .inl (cI, 800, .inl (fun _ => 0)))] := hD
  refine lv_aload_n hx hb dX0_init_31 rfl (lv_at hl 0 rfl) ?_
  refine lv_sipush (v := 2048) hx hb dX0_init_32 (by decide) ?_
  refine nw_a (cA := cI) (a0 := (2048, .inl (fun _ => 0))) (N' := 2048) hx hb (atype := .int) (ty := .int) rfl (hts (.arrayClass .int) (by decide +kernel)) hK hP hD hS hA 0 rfl (fun x h9 => h9) (fun cA => nw_I cA _) nw_2048.1 nw_2048.2 nw_b2048_int (Nat.le_of_ble_eq_true rfl) (Nat.le_of_ble_eq_true rfl) dX0_init_35 (fun q_4 H hP hD hS => ?_)
  have hP : va_P G vwCl [(h_g, .inr (0, [.null, .ref q_1, .ref q_2, .ref q_3, .null, .int 0, .int 0, .int 0, .int 0, .int 0])), (q_1, .inl (cI, 800, .inl (fun _ => 0))), (q_2, .inl (cI, 800, .inl (fun _ => 0))), (q_3, .inl (cI, 800, .inl (fun _ => 0))), (q_4, .inl (cI, 2048, .inl (fun _ => 0)))] H := hP
  have hD : va_D A [(h_g, .inr (0, [.null, .ref q_1, .ref q_2, .ref q_3, .null, .int 0, .int 0, .int 0, .int 0, .int 0])), (q_1, .inl (cI, 800, .inl (fun _ => 0))), (q_2, .inl (cI, 800, .inl (fun _ => 0))), (q_3, .inl (cI, 800, .inl (fun _ => 0))), (q_4, .inl (cI, 2048, .inl (fun _ => 0)))] := hD
  refine W.widen (k := 4) (n := 4448) (Nat.le_of_ble_eq_true rfl) (Nat.le_of_ble_eq_true rfl) ?_
  refine va_putF (D := G) (ci := 0) (v := .ref q_4) (ty := .array .int) (C := RX0) (T := TX0) (N := 10) hx hb hts in_X0_init_0 tyX0 tyX0_ok nmX0 hown hK hP hD hS 0 rfl rfl 4 (by decide) (hts (.fieldLink RX0 21 "RampJam$Search" "slots" "[I") (by decide +kernel)) (fun _ h9 => h9) rfl hin rfl (by decide +kernel) rfl rfl (Nat.le_of_ble_eq_true rfl) dX0_init_37 (fun H locs hP hD hS => ?_)
  have hP : va_P G vwCl [(h_g, .inr (0, [.null, .ref q_1, .ref q_2, .ref q_3, .ref q_4, .int 0, .int 0, .int 0, .int 0, .int 0])), (q_1, .inl (cI, 800, .inl (fun _ => 0))), (q_2, .inl (cI, 800, .inl (fun _ => 0))), (q_3, .inl (cI, 800, .inl (fun _ => 0))), (q_4, .inl (cI, 2048, .inl (fun _ => 0)))] H := hP
  have hD : va_D A [(h_g, .inr (0, [.null, .ref q_1, .ref q_2, .ref q_3, .ref q_4, .int 0, .int 0, .int 0, .int 0, .int 0])), (q_1, .inl (cI, 800, .inl (fun _ => 0))), (q_2, .inl (cI, 800, .inl (fun _ => 0))), (q_3, .inl (cI, 800, .inl (fun _ => 0))), (q_4, .inl (cI, 2048, .inl (fun _ => 0)))] := hD
  refine lv_aload_n hx hb dX0_init_40 rfl (lv_at hl 0 rfl) ?_
  refine lv_aload_n hx hb dX0_init_41 rfl (lv_at hl 1 rfl) ?_
  refine va_putF (D := G) (ci := 0) (v := .ref y_g) (ty := .object "RampJam$Yard") (C := RX0) (T := TX0) (N := 10) hx hb hts in_X0_init_0 tyX0 tyX0_ok nmX0 hown hK hP hD hS 0 rfl rfl 0 (by decide) (hts (.fieldLink RX0 24 "RampJam$Search" "yard" "LRampJam$Yard;") (by decide +kernel)) (fun _ h9 => h9) rfl hin rfl (by decide +kernel) rfl rfl (Nat.le_of_ble_eq_true rfl) dX0_init_42 (fun H locs hP hD hS => ?_)
  have hP : va_P G vwCl [(h_g, .inr (0, [.ref y_g, .ref q_1, .ref q_2, .ref q_3, .ref q_4, .int 0, .int 0, .int 0, .int 0, .int 0])), (q_1, .inl (cI, 800, .inl (fun _ => 0))), (q_2, .inl (cI, 800, .inl (fun _ => 0))), (q_3, .inl (cI, 800, .inl (fun _ => 0))), (q_4, .inl (cI, 2048, .inl (fun _ => 0)))] H := hP
  have hD : va_D A [(h_g, .inr (0, [.ref y_g, .ref q_1, .ref q_2, .ref q_3, .ref q_4, .int 0, .int 0, .int 0, .int 0, .int 0])), (q_1, .inl (cI, 800, .inl (fun _ => 0))), (q_2, .inl (cI, 800, .inl (fun _ => 0))), (q_3, .inl (cI, 800, .inl (fun _ => 0))), (q_4, .inl (cI, 2048, .inl (fun _ => 0)))] := hD
  have hP9 := hP.subm (ws' := [(h_g, .inr (0, [.ref y_g, .ref q_1, .ref q_2, .ref q_3, .ref q_4, .int 0, .int 0, .int 0, .int 0, .int 0])), (q_1, .inl (cI, 800, .inl (fun _ => 0))), (q_2, .inl (cI, 800, .inl (fun _ => 0))), (q_3, .inl (cI, 800, .inl (fun _ => 0))), (q_4, .inl (cI, 2048, .inl (fun _ => 0)))]) [0, 1, 2, 3, 4] rfl
  have hD9 := hD.sub (ws' := [(h_g, .inr (0, [.ref y_g, .ref q_1, .ref q_2, .ref q_3, .ref q_4, .int 0, .int 0, .int 0, .int 0, .int 0])), (q_1, .inl (cI, 800, .inl (fun _ => 0))), (q_2, .inl (cI, 800, .inl (fun _ => 0))), (q_3, .inl (cI, 800, .inl (fun _ => 0))), (q_4, .inl (cI, 2048, .inl (fun _ => 0)))]) [0, 1, 2, 3, 4] (by decide) rfl
  exact W.vret hx hb hr (fun t ht hW => ⟨⟨(q_1, q_2, q_3, q_4), rfl, trivial, by rw [ht]; exact hP9, hD9⟩, hS.F ht⟩) hS.2.2 dX0_init_45

theorem in_X2_init_0 : ∀ w ∈ wsX00, w ∈ wsX2_init := by decide +kernel
theorem in_X2_init_1 : ∀ w ∈ wsX10, w ∈ wsX2_init := by decide +kernel
theorem in_X2_init_2 : ∀ w ∈ wsX20, w ∈ wsX2_init := by decide +kernel
set_option maxHeartbeats 400000 in
set_option maxRecDepth 100000 in
theorem c_X2_init (l : Launch) (G : va_G) (cI cZ cJ : ClassId) (h_g : Nat) (sz : Nat) : Met l yX2_init wsX2_init ({ frames := 2, cells := 10, slots := 4500, locals := 33 }) (rw_Pc G [(cI, .int), (cZ, .boolean), (cJ, .long)] [(h_g, .inr (2, [.null, .null, .int 0, .int 0, .int 0, .int 0, .int 0]))] sz [.ref h_g]) (cn_Qv (S := Nat × Nat × Nat × Nat × Nat × Nat × Nat × Nat × Nat × Nat) (fun u => [(h_g, .inr (2, [.ref (u.1), .ref (u.2.2.2.2.2.1), .int 0, .int 0, .int 0, .int 0, .int 0])), ((u.2.2.2.2.2.1), .inr (0, [.ref (u.1), .ref (u.2.2.2.2.2.2.1), .ref (u.2.2.2.2.2.2.2.1), .ref (u.2.2.2.2.2.2.2.2.1), .ref (u.2.2.2.2.2.2.2.2.2), .int 0, .int 0, .int 0, .int 0, .int 0])), ((u.2.2.2.2.2.2.1), .inl (cI, 800, .inl (fun _ => 0))), ((u.2.2.2.2.2.2.2.1), .inl (cI, 800, .inl (fun _ => 0))), ((u.2.2.2.2.2.2.2.2.1), .inl (cI, 800, .inl (fun _ => 0))), ((u.2.2.2.2.2.2.2.2.2), .inl (cI, 2048, .inl (fun _ => 0))), ((u.1), .inr (1, [.ref (u.2.1), .ref (u.2.2.1), .ref (u.2.2.2.1), .ref (u.2.2.2.2.1), .int 0, .long 0])), ((u.2.1), .inl (cI, 9, .inl (fun _ => 0))), ((u.2.2.1), .inl (cZ, 9, .inl (fun _ => 0))), ((u.2.2.2.1), .inl (cI, 9, .inl (fun _ => 0))), ((u.2.2.2.2.1), .inl (cJ, 9, .inr (.inl (fun _ => 0))))]) G [(h_g, .inr (2, [.null, .null, .int 0, .int 0, .int 0, .int 0, .int 0]))] sz) 10 4500 (va_A [(h_g, .inr (2, [.null, .null, .int 0, .int 0, .int 0, .int 0, .int 0]))] sz) := by
  refine Met.ofW (cc := cX2_init) (maxL := 1) (ret := none) (by decide) rfl ?_
  intro p e s m args below meth c s₁ B hml hv
  obtain ⟨rfl, hsz, hP, hK, hD0, hN⟩ := hv
  have hx := B.exec
  have hb := B.bytes
  have hr := B.returns
  have hts := atoms_spec (ws := wsX2_init) B.pre
  have hown : s.vm.findClass RX2 = some m.cls := findClass_of_methodNamed B.named
  have hlocks := B.notSynchronized
  have hin : meth.name = "<init>" := (name_of_methodNamed B.named B.method).1
  subst hsz
  have hD := hD0.self (sz := s.heap.size)
  unfold cn_Qv
  generalize hAe : va_A [(h_g, .inr (2, [.null, .null, .int 0, .int 0, .int 0, .int 0, .int 0]))] s.heap.size = A at hD ⊢
  have hA : ∀ q : Nat, s.heap.size ≤ q → A q := fun q h => by rw [← hAe]; exact Or.inr h
  have hS : va_S A s.heap s.heap [] := va_S.rf
  have hl := lv_entry ([.ref h_g]) (n := 1) (Nat.le_of_ble_eq_true rfl)
  rw [lg_entry_eq]
  generalize (lg_sl ([.ref h_g]) ++ List.replicate (1 - (lg_sl ([.ref h_g])).length) Slot.unset).toArray = ls at hl ⊢
  have hl : lv_has ls 1 [(0, .ref h_g)] := hl
  refine lv_aload_n hx hb dX2_init_0 rfl (lv_at hl 0 rfl) ?_
  refine W.objInit hx hb hown (hts (.methodLink RX2 1 objectInit) (by decide +kernel)) (hts (.instanceMethod objectInit) (by decide +kernel)) (hts (.code objectInit ⟨#[0xb1]⟩ 1 none) (by decide +kernel)) rfl (by rw [hml]; exact hl.1) rfl dX2_init_1 (Nat.le_of_ble_eq_true rfl) (Nat.le_of_ble_eq_true rfl) ?_
  refine W.eq (g2 := F0 m 4 ls []) rfl ?_
  refine lv_aload_n hx hb dX2_init_4 rfl (lv_at hl 0 rfl) ?_
  refine va_new (ci := 1) (fs := [.null, .null, .null, .null, .int 0, .long 0]) (C := RX1) (T := TX1) (N := 6) hx hb hts in_X2_init_1 tyX1 tyX1_ok hown (hts (.classLink RX2 7 RX1) (by decide +kernel)) (hts (.instantiable RX1 6) (by decide +kernel)) (hts (.initialized RX1) (by decide +kernel)) hK hP hD hS hA rfl (by intro j hj; rcases (show j = 0 ∨ j = 1 ∨ j = 2 ∨ j = 3 ∨ j = 4 ∨ j = 5 by omega) with rfl | rfl | rfl | rfl | rfl | rfl <;> rfl) (Nat.le_of_ble_eq_true rfl) (Nat.le_of_ble_eq_true rfl) dX2_init_5 (fun q_1 H hP hD hS => ?_)
  have hP : va_P G vwCl [(h_g, .inr (2, [.null, .null, .int 0, .int 0, .int 0, .int 0, .int 0])), (q_1, .inr (1, [.null, .null, .null, .null, .int 0, .long 0]))] H := hP
  have hD : va_D A [(h_g, .inr (2, [.null, .null, .int 0, .int 0, .int 0, .int 0, .int 0])), (q_1, .inr (1, [.null, .null, .null, .null, .int 0, .long 0]))] := hD
  refine W.widen (k := 1) (n := 6) (Nat.le_of_ble_eq_true rfl) (Nat.le_of_ble_eq_true rfl) ?_
  refine lv_dup hx hb dX2_init_8 rfl ?_
  have hPc := hP.sub (ws' := [(q_1, .inr (1, [.null, .null, .null, .null, .int 0, .long 0]))]) [1] rfl
  have hDc := hD.sub (ws' := [(q_1, .inr (1, [.null, .null, .null, .null, .int 0, .long 0]))]) [1] (by decide) rfl
  refine cn_v (wr := [(h_g, .inr (2, [.null, .null, .int 0, .int 0, .int 0, .int 0, .int 0]))]) (va_runIN (As := []) (rest := [.ref q_1, .ref h_g]) ⟨hx, hb, hml, hown, hts⟩ (c_X1_init l G cI cZ cJ q_1 _) ⟨va_cnB 0 hts gX2_init_X1_init_n9 rfl rfl rfl (nx_get hN (k := 0) rfl) (hts (.initialized RX1) (by decide +kernel)) (by decide +kernel) ⟨Nat.le_of_ble_eq_true rfl, Nat.le_of_ble_eq_true rfl⟩, rfl, hts (.instanceMethod yX1_init) (by decide +kernel)⟩ ⟨rw_blind, rw_pre hPc hDc hK hN⟩ rfl rfl hl.1 rfl (lv_room (Nat.le_of_ble_eq_true rfl)) dX2_init_9 ⟨Nat.le_of_ble_eq_true rfl, Nat.le_of_ble_eq_true rfl⟩) hS hA hP hD [1] [0] rfl rfl (by decide) (by decide) (fun u_2 H locs hP hD hS => ?_)
  have hP : va_P G vwCl [(h_g, .inr (2, [.null, .null, .int 0, .int 0, .int 0, .int 0, .int 0])), (q_1, .inr (1, [.ref (u_2.1), .ref (u_2.2.1), .ref (u_2.2.2.1), .ref (u_2.2.2.2), .int 0, .long 0])), ((u_2.1), .inl (cI, 9, .inl (fun _ => 0))), ((u_2.2.1), .inl (cZ, 9, .inl (fun _ => 0))), ((u_2.2.2.1), .inl (cI, 9, .inl (fun _ => 0))), ((u_2.2.2.2), .inl (cJ, 9, .inr (.inl (fun _ => 0))))] H := hP
  have hD : va_D A [(h_g, .inr (2, [.null, .null, .int 0, .int 0, .int 0, .int 0, .int 0])), (q_1, .inr (1, [.ref (u_2.1), .ref (u_2.2.1), .ref (u_2.2.2.1), .ref (u_2.2.2.2), .int 0, .long 0])), ((u_2.1), .inl (cI, 9, .inl (fun _ => 0))), ((u_2.2.1), .inl (cZ, 9, .inl (fun _ => 0))), ((u_2.2.2.1), .inl (cI, 9, .inl (fun _ => 0))), ((u_2.2.2.2), .inl (cJ, 9, .inr (.inl (fun _ => 0))))] := hD
  refine W.widen (k := 5) (n := 42) (Nat.le_of_ble_eq_true rfl) (Nat.le_of_ble_eq_true rfl) ?_
  refine va_putF (D := G) (ci := 2) (v := .ref q_1) (ty := .object "RampJam$Yard") (C := RX2) (T := TX2) (N := 7) hx hb hts in_X2_init_2 tyX2 tyX2_ok nmX2 hown hK hP hD hS 0 rfl rfl 0 (by decide) (hts (.fieldLink RX2 10 "RampJam" "yard" "LRampJam$Yard;") (by decide +kernel)) (fun _ h9 => h9) rfl hin rfl (by decide +kernel) rfl rfl (Nat.le_of_ble_eq_true rfl) dX2_init_12 (fun H locs hP hD hS => ?_)
  have hP : va_P G vwCl [(h_g, .inr (2, [.ref q_1, .null, .int 0, .int 0, .int 0, .int 0, .int 0])), (q_1, .inr (1, [.ref (u_2.1), .ref (u_2.2.1), .ref (u_2.2.2.1), .ref (u_2.2.2.2), .int 0, .long 0])), ((u_2.1), .inl (cI, 9, .inl (fun _ => 0))), ((u_2.2.1), .inl (cZ, 9, .inl (fun _ => 0))), ((u_2.2.2.1), .inl (cI, 9, .inl (fun _ => 0))), ((u_2.2.2.2), .inl (cJ, 9, .inr (.inl (fun _ => 0))))] H := hP
  have hD : va_D A [(h_g, .inr (2, [.ref q_1, .null, .int 0, .int 0, .int 0, .int 0, .int 0])), (q_1, .inr (1, [.ref (u_2.1), .ref (u_2.2.1), .ref (u_2.2.2.1), .ref (u_2.2.2.2), .int 0, .long 0])), ((u_2.1), .inl (cI, 9, .inl (fun _ => 0))), ((u_2.2.1), .inl (cZ, 9, .inl (fun _ => 0))), ((u_2.2.2.1), .inl (cI, 9, .inl (fun _ => 0))), ((u_2.2.2.2), .inl (cJ, 9, .inr (.inl (fun _ => 0))))] := hD
  refine lv_aload_n hx hb dX2_init_15 rfl (lv_at hl 0 rfl) ?_
  refine va_new (ci := 0) (fs := [.null, .null, .null, .null, .null, .int 0, .int 0, .int 0, .int 0, .int 0]) (C := RX0) (T := TX0) (N := 10) hx hb hts in_X2_init_0 tyX0 tyX0_ok hown (hts (.classLink RX2 16 RX0) (by decide +kernel)) (hts (.instantiable RX0 10) (by decide +kernel)) (hts (.initialized RX0) (by decide +kernel)) hK hP hD hS hA rfl (by intro j hj; rcases (show j = 0 ∨ j = 1 ∨ j = 2 ∨ j = 3 ∨ j = 4 ∨ j = 5 ∨ j = 6 ∨ j = 7 ∨ j = 8 ∨ j = 9 by omega) with rfl | rfl | rfl | rfl | rfl | rfl | rfl | rfl | rfl | rfl <;> rfl) (Nat.le_of_ble_eq_true rfl) (Nat.le_of_ble_eq_true rfl) dX2_init_16 (fun q_3 H hP hD hS => ?_)
  have hP : va_P G vwCl [(h_g, .inr (2, [.ref q_1, .null, .int 0, .int 0, .int 0, .int 0, .int 0])), (q_1, .inr (1, [.ref (u_2.1), .ref (u_2.2.1), .ref (u_2.2.2.1), .ref (u_2.2.2.2), .int 0, .long 0])), ((u_2.1), .inl (cI, 9, .inl (fun _ => 0))), ((u_2.2.1), .inl (cZ, 9, .inl (fun _ => 0))), ((u_2.2.2.1), .inl (cI, 9, .inl (fun _ => 0))), ((u_2.2.2.2), .inl (cJ, 9, .inr (.inl (fun _ => 0)))), (q_3, .inr (0, [.null, .null, .null, .null, .null, .int 0, .int 0, .int 0, .int 0, .int 0]))] H := hP
  have hD : va_D A [(h_g, .inr (2, [.ref q_1, .null, .int 0, .int 0, .int 0, .int 0, .int 0])), (q_1, .inr (1, [.ref (u_2.1), .ref (u_2.2.1), .ref (u_2.2.2.1), .ref (u_2.2.2.2), .int 0, .long 0])), ((u_2.1), .inl (cI, 9, .inl (fun _ => 0))), ((u_2.2.1), .inl (cZ, 9, .inl (fun _ => 0))), ((u_2.2.2.1), .inl (cI, 9, .inl (fun _ => 0))), ((u_2.2.2.2), .inl (cJ, 9, .inr (.inl (fun _ => 0)))), (q_3, .inr (0, [.null, .null, .null, .null, .null, .int 0, .int 0, .int 0, .int 0, .int 0]))] := hD
  refine W.widen (k := 6) (n := 52) (Nat.le_of_ble_eq_true rfl) (Nat.le_of_ble_eq_true rfl) ?_
  refine lv_dup hx hb dX2_init_19 rfl ?_
  refine lv_aload_n hx hb dX2_init_20 rfl (lv_at hl 0 rfl) ?_
  refine va_get (D := G) (ci := 2) (v := .ref q_1) (C := RX2) (T := TX2) (N := 7) hx hb hts in_X2_init_2 hown hK hP 0 rfl rfl 0 (by decide) (hts (.fieldLink RX2 10 "RampJam" "yard" "LRampJam$Yard;") (by decide +kernel)) (fun _ h9 => h9) rfl dX2_init_21 ?_
  have hPc := hP.sub (ws' := [(q_3, .inr (0, [.null, .null, .null, .null, .null, .int 0, .int 0, .int 0, .int 0, .int 0]))]) [6] rfl
  have hDc := hD.sub (ws' := [(q_3, .inr (0, [.null, .null, .null, .null, .null, .int 0, .int 0, .int 0, .int 0, .int 0]))]) [6] (by decide) rfl
  refine cn_v (wr := [(h_g, .inr (2, [.ref q_1, .null, .int 0, .int 0, .int 0, .int 0, .int 0])), (q_1, .inr (1, [.ref (u_2.1), .ref (u_2.2.1), .ref (u_2.2.2.1), .ref (u_2.2.2.2), .int 0, .long 0])), ((u_2.1), .inl (cI, 9, .inl (fun _ => 0))), ((u_2.2.1), .inl (cZ, 9, .inl (fun _ => 0))), ((u_2.2.2.1), .inl (cI, 9, .inl (fun _ => 0))), ((u_2.2.2.2), .inl (cJ, 9, .inr (.inl (fun _ => 0))))]) (va_runI (As := [.ref q_1]) (rest := [.ref q_3, .ref h_g]) ⟨hx, hb, hml, hown, hts⟩ (c_X0_init l G cI cZ cJ q_3 _ q_1) (cwI 1 hts gX2_init_X0_init rfl rfl rfl (hts (.initialized RX0) (by decide +kernel)) (hts (.methodLink RX2 18 yX0_init) (by decide +kernel)) (hts (.instanceMethod yX0_init) (by decide +kernel)) rfl (by decide +kernel) ⟨Nat.le_of_ble_eq_true rfl, Nat.le_of_ble_eq_true rfl⟩) ⟨rw_blind, rw_pre hPc hDc hK hN⟩ rfl rfl hl.1 rfl (lv_room (Nat.le_of_ble_eq_true rfl)) dX2_init_24 ⟨Nat.le_of_ble_eq_true rfl, Nat.le_of_ble_eq_true rfl⟩) hS hA hP hD [6] [0, 1, 2, 3, 4, 5] rfl rfl (by decide) (by decide) (fun u_4 H locs hP hD hS => ?_)
  have hP : va_P G vwCl [(h_g, .inr (2, [.ref q_1, .null, .int 0, .int 0, .int 0, .int 0, .int 0])), (q_1, .inr (1, [.ref (u_2.1), .ref (u_2.2.1), .ref (u_2.2.2.1), .ref (u_2.2.2.2), .int 0, .long 0])), ((u_2.1), .inl (cI, 9, .inl (fun _ => 0))), ((u_2.2.1), .inl (cZ, 9, .inl (fun _ => 0))), ((u_2.2.2.1), .inl (cI, 9, .inl (fun _ => 0))), ((u_2.2.2.2), .inl (cJ, 9, .inr (.inl (fun _ => 0)))), (q_3, .inr (0, [.ref q_1, .ref (u_4.1), .ref (u_4.2.1), .ref (u_4.2.2.1), .ref (u_4.2.2.2), .int 0, .int 0, .int 0, .int 0, .int 0])), ((u_4.1), .inl (cI, 800, .inl (fun _ => 0))), ((u_4.2.1), .inl (cI, 800, .inl (fun _ => 0))), ((u_4.2.2.1), .inl (cI, 800, .inl (fun _ => 0))), ((u_4.2.2.2), .inl (cI, 2048, .inl (fun _ => 0)))] H := hP
  have hD : va_D A [(h_g, .inr (2, [.ref q_1, .null, .int 0, .int 0, .int 0, .int 0, .int 0])), (q_1, .inr (1, [.ref (u_2.1), .ref (u_2.2.1), .ref (u_2.2.2.1), .ref (u_2.2.2.2), .int 0, .long 0])), ((u_2.1), .inl (cI, 9, .inl (fun _ => 0))), ((u_2.2.1), .inl (cZ, 9, .inl (fun _ => 0))), ((u_2.2.2.1), .inl (cI, 9, .inl (fun _ => 0))), ((u_2.2.2.2), .inl (cJ, 9, .inr (.inl (fun _ => 0)))), (q_3, .inr (0, [.ref q_1, .ref (u_4.1), .ref (u_4.2.1), .ref (u_4.2.2.1), .ref (u_4.2.2.2), .int 0, .int 0, .int 0, .int 0, .int 0])), ((u_4.1), .inl (cI, 800, .inl (fun _ => 0))), ((u_4.2.1), .inl (cI, 800, .inl (fun _ => 0))), ((u_4.2.2.1), .inl (cI, 800, .inl (fun _ => 0))), ((u_4.2.2.2), .inl (cI, 2048, .inl (fun _ => 0)))] := hD
  refine W.widen (k := 10) (n := 4500) (Nat.le_of_ble_eq_true rfl) (Nat.le_of_ble_eq_true rfl) ?_
  refine va_putF (D := G) (ci := 2) (v := .ref q_3) (ty := .object "RampJam$Search") (C := RX2) (T := TX2) (N := 7) hx hb hts in_X2_init_2 tyX2 tyX2_ok nmX2 hown hK hP hD hS 0 rfl rfl 1 (by decide) (hts (.fieldLink RX2 21 "RampJam" "search" "LRampJam$Search;") (by decide +kernel)) (fun _ h9 => h9) rfl hin rfl (by decide +kernel) rfl rfl (Nat.le_of_ble_eq_true rfl) dX2_init_27 (fun H locs hP hD hS => ?_)
  have hP : va_P G vwCl [(h_g, .inr (2, [.ref q_1, .ref q_3, .int 0, .int 0, .int 0, .int 0, .int 0])), (q_1, .inr (1, [.ref (u_2.1), .ref (u_2.2.1), .ref (u_2.2.2.1), .ref (u_2.2.2.2), .int 0, .long 0])), ((u_2.1), .inl (cI, 9, .inl (fun _ => 0))), ((u_2.2.1), .inl (cZ, 9, .inl (fun _ => 0))), ((u_2.2.2.1), .inl (cI, 9, .inl (fun _ => 0))), ((u_2.2.2.2), .inl (cJ, 9, .inr (.inl (fun _ => 0)))), (q_3, .inr (0, [.ref q_1, .ref (u_4.1), .ref (u_4.2.1), .ref (u_4.2.2.1), .ref (u_4.2.2.2), .int 0, .int 0, .int 0, .int 0, .int 0])), ((u_4.1), .inl (cI, 800, .inl (fun _ => 0))), ((u_4.2.1), .inl (cI, 800, .inl (fun _ => 0))), ((u_4.2.2.1), .inl (cI, 800, .inl (fun _ => 0))), ((u_4.2.2.2), .inl (cI, 2048, .inl (fun _ => 0)))] H := hP
  have hD : va_D A [(h_g, .inr (2, [.ref q_1, .ref q_3, .int 0, .int 0, .int 0, .int 0, .int 0])), (q_1, .inr (1, [.ref (u_2.1), .ref (u_2.2.1), .ref (u_2.2.2.1), .ref (u_2.2.2.2), .int 0, .long 0])), ((u_2.1), .inl (cI, 9, .inl (fun _ => 0))), ((u_2.2.1), .inl (cZ, 9, .inl (fun _ => 0))), ((u_2.2.2.1), .inl (cI, 9, .inl (fun _ => 0))), ((u_2.2.2.2), .inl (cJ, 9, .inr (.inl (fun _ => 0)))), (q_3, .inr (0, [.ref q_1, .ref (u_4.1), .ref (u_4.2.1), .ref (u_4.2.2.1), .ref (u_4.2.2.2), .int 0, .int 0, .int 0, .int 0, .int 0])), ((u_4.1), .inl (cI, 800, .inl (fun _ => 0))), ((u_4.2.1), .inl (cI, 800, .inl (fun _ => 0))), ((u_4.2.2.1), .inl (cI, 800, .inl (fun _ => 0))), ((u_4.2.2.2), .inl (cI, 2048, .inl (fun _ => 0)))] := hD
  have hP9 := hP.subm (ws' := [(h_g, .inr (2, [.ref q_1, .ref q_3, .int 0, .int 0, .int 0, .int 0, .int 0])), (q_3, .inr (0, [.ref q_1, .ref (u_4.1), .ref (u_4.2.1), .ref (u_4.2.2.1), .ref (u_4.2.2.2), .int 0, .int 0, .int 0, .int 0, .int 0])), ((u_4.1), .inl (cI, 800, .inl (fun _ => 0))), ((u_4.2.1), .inl (cI, 800, .inl (fun _ => 0))), ((u_4.2.2.1), .inl (cI, 800, .inl (fun _ => 0))), ((u_4.2.2.2), .inl (cI, 2048, .inl (fun _ => 0))), (q_1, .inr (1, [.ref (u_2.1), .ref (u_2.2.1), .ref (u_2.2.2.1), .ref (u_2.2.2.2), .int 0, .long 0])), ((u_2.1), .inl (cI, 9, .inl (fun _ => 0))), ((u_2.2.1), .inl (cZ, 9, .inl (fun _ => 0))), ((u_2.2.2.1), .inl (cI, 9, .inl (fun _ => 0))), ((u_2.2.2.2), .inl (cJ, 9, .inr (.inl (fun _ => 0))))]) [0, 6, 7, 8, 9, 10, 1, 2, 3, 4, 5] rfl
  have hD9 := hD.sub (ws' := [(h_g, .inr (2, [.ref q_1, .ref q_3, .int 0, .int 0, .int 0, .int 0, .int 0])), (q_3, .inr (0, [.ref q_1, .ref (u_4.1), .ref (u_4.2.1), .ref (u_4.2.2.1), .ref (u_4.2.2.2), .int 0, .int 0, .int 0, .int 0, .int 0])), ((u_4.1), .inl (cI, 800, .inl (fun _ => 0))), ((u_4.2.1), .inl (cI, 800, .inl (fun _ => 0))), ((u_4.2.2.1), .inl (cI, 800, .inl (fun _ => 0))), ((u_4.2.2.2), .inl (cI, 2048, .inl (fun _ => 0))), (q_1, .inr (1, [.ref (u_2.1), .ref (u_2.2.1), .ref (u_2.2.2.1), .ref (u_2.2.2.2), .int 0, .long 0])), ((u_2.1), .inl (cI, 9, .inl (fun _ => 0))), ((u_2.2.1), .inl (cZ, 9, .inl (fun _ => 0))), ((u_2.2.2.1), .inl (cI, 9, .inl (fun _ => 0))), ((u_2.2.2.2), .inl (cJ, 9, .inr (.inl (fun _ => 0))))]) [0, 6, 7, 8, 9, 10, 1, 2, 3, 4, 5] (by decide) rfl
  exact W.vret hx hb hr (fun t ht hW => ⟨⟨(q_1, (u_2.1), (u_2.2.1), (u_2.2.2.1), (u_2.2.2.2), q_3, (u_4.1), (u_4.2.1), (u_4.2.2.1), (u_4.2.2.2)), rfl, trivial, by rw [ht]; exact hP9, hD9⟩, hS.F ht⟩) hS.2.2 dX2_init_30
