set_option maxHeartbeats 4000000 in
set_option maxRecDepth 100000 in
/-- placeIn -/
theorem c_X2_placeIn (l : Launch) (G : va_G) (cI cZ cJ : ClassId) (a : Nat → Nat) (sz : Nat) (x0 : Int32) (x1 : Int32)  : Met l yX2_placeIn wsX2_placeIn ({ frames := 0, cells := 0, slots := 0, locals := 0 }) (ro_Pc G [(cI, .int), (cZ, .boolean), (cJ, .long)] [] sz [.int x0, .int x1]) (ro_Qi (pl x0 x1) sz) 0 0 (ro_A sz) := by
  refine Met.ofW (cc := cX2_placeIn) (maxL := 2) (ret := (some .int)) (by decide) rfl ?_
  intro p e s m args below meth c s₁ B hml hv
  obtain ⟨rfl, hsz, hP, hK, hN⟩ := hv
  have hx := B.exec
  have hb := B.bytes
  have hr := B.returns
  have hts := atoms_spec (ws := wsX2_placeIn) B.pre
  have hown : s.vm.findClass RX2 = some m.cls := findClass_of_methodNamed B.named
  have hlocks := B.notSynchronized
  subst hsz
  have hA : ∀ q : Nat, s.heap.size ≤ q → (ro_A s.heap.size) q := fun _ h => h
  have hS : va_S (ro_A s.heap.size) s.heap s.heap [] := va_S.rf
  have hP : va_P G vwCl [] s.heap := hP
  have hl := lv_entry ([.int x0, .int x1]) (n := 2) (Nat.le_of_ble_eq_true rfl)
  rw [lg_entry_eq]
  generalize (lg_sl ([.int x0, .int x1]) ++ List.replicate (2 - (lg_sl ([.int x0, .int x1])).length) Slot.unset).toArray = ls at hl ⊢
  have hl : lv_has ls 2 [(0, .int x0), (1, .int x1)] := hl
  refine lv_iload_n hx hb dX2_placeIn_0 rfl (lv_at hl 0 rfl) ?_
  refine lv_iconst (v := 3) hx hb dX2_placeIn_1 (by decide) ?_
  refine lv_iload_n hx hb dX2_placeIn_2 rfl (lv_at hl 1 rfl) ?_
  refine lv_imul hx hb dX2_placeIn_3 ?_
  refine lv_ishr hx hb dX2_placeIn_4 ?_
  refine lv_bipush (v := 7) hx hb dX2_placeIn_5 (by decide) ?_
  refine lv_iand hx hb dX2_placeIn_7 ?_
  exact W.iret (v := ((x0 >>> ((3 * x1) &&& 31)) &&& 7)) hx hb hr (fun t ht hW => ⟨⟨((x0 >>> ((3 * x1) &&& 31)) &&& 7), (), rfl, rfl, trivial⟩, hS.F ht⟩) hS.2.2 dX2_placeIn_8

set_option maxHeartbeats 4000000 in
set_option maxRecDepth 100000 in
/-- moved -/
theorem c_X2_moved (l : Launch) (G : va_G) (cI cZ cJ : ClassId) (a : Nat → Nat) (sz : Nat) (x0 : Int32) (x1 : Int32) (x2 : Int32)  : Met l yX2_moved wsX2_moved ({ frames := 0, cells := 0, slots := 0, locals := 0 }) (ro_Pc G [(cI, .int), (cZ, .boolean), (cJ, .long)] [] sz [.int x0, .int x1, .int x2]) (ro_Qi (mv x0 x1 x2) sz) 0 0 (ro_A sz) := by
  refine Met.ofW (cc := cX2_moved) (maxL := 3) (ret := (some .int)) (by decide) rfl ?_
  intro p e s m args below meth c s₁ B hml hv
  obtain ⟨rfl, hsz, hP, hK, hN⟩ := hv
  have hx := B.exec
  have hb := B.bytes
  have hr := B.returns
  have hts := atoms_spec (ws := wsX2_moved) B.pre
  have hown : s.vm.findClass RX2 = some m.cls := findClass_of_methodNamed B.named
  have hlocks := B.notSynchronized
  subst hsz
  have hA : ∀ q : Nat, s.heap.size ≤ q → (ro_A s.heap.size) q := fun _ h => h
  have hS : va_S (ro_A s.heap.size) s.heap s.heap [] := va_S.rf
  have hP : va_P G vwCl [] s.heap := hP
  have hl := lv_entry ([.int x0, .int x1, .int x2]) (n := 3) (Nat.le_of_ble_eq_true rfl)
  rw [lg_entry_eq]
  generalize (lg_sl ([.int x0, .int x1, .int x2]) ++ List.replicate (3 - (lg_sl ([.int x0, .int x1, .int x2])).length) Slot.unset).toArray = ls at hl ⊢
  have hl : lv_has ls 3 [(0, .int x0), (1, .int x1), (2, .int x2)] := hl
  refine lv_iload_n hx hb dX2_moved_0 rfl (lv_at hl 0 rfl) ?_
  refine lv_iload_n hx hb dX2_moved_1 rfl (lv_at hl 2 rfl) ?_
  refine lv_iconst (v := 1) hx hb dX2_moved_2 (by decide) ?_
  refine lv_iconst (v := 3) hx hb dX2_moved_3 (by decide) ?_
  refine lv_iload_n hx hb dX2_moved_4 rfl (lv_at hl 1 rfl) ?_
  refine lv_imul hx hb dX2_moved_5 ?_
  refine lv_ishl hx hb dX2_moved_6 ?_
  refine lv_imul hx hb dX2_moved_7 ?_
  refine lv_iadd hx hb dX2_moved_8 ?_
  exact W.iret (v := (x0 + (x2 * (1 <<< ((3 * x1) &&& 31))))) hx hb hr (fun t ht hW => ⟨⟨(x0 + (x2 * (1 <<< ((3 * x1) &&& 31)))), (), rfl, rfl, trivial⟩, hS.F ht⟩) hS.2.2 dX2_moved_9

set_option maxHeartbeats 4000000 in
set_option maxRecDepth 100000 in
/-- isInYard -/
theorem c_X2_isInYard (l : Launch) (G : va_G) (cI cZ cJ : ClassId) (a : Nat → Nat) (sz : Nat) (x0 : Int32) (x1 : Int32)  : Met l yX2_isInYard wsX2_isInYard ({ frames := 0, cells := 0, slots := 0, locals := 0 }) (ro_Pc G [(cI, .int), (cZ, .boolean), (cJ, .long)] [] sz [.int x0, .int x1]) (ro_Qi (b1 (inY x0 x1)) sz) 0 0 (ro_A sz) := by
  refine Met.ofW (cc := cX2_isInYard) (maxL := 2) (ret := (some .boolean)) (by decide) rfl ?_
  intro p e s m args below meth c s₁ B hml hv
  obtain ⟨rfl, hsz, hP, hK, hN⟩ := hv
  have hx := B.exec
  have hb := B.bytes
  have hr := B.returns
  have hts := atoms_spec (ws := wsX2_isInYard) B.pre
  have hown : s.vm.findClass RX2 = some m.cls := findClass_of_methodNamed B.named
  have hlocks := B.notSynchronized
  subst hsz
  have hA : ∀ q : Nat, s.heap.size ≤ q → (ro_A s.heap.size) q := fun _ h => h
  have hS : va_S (ro_A s.heap.size) s.heap s.heap [] := va_S.rf
  have hP : va_P G vwCl [] s.heap := hP
  have hl := lv_entry ([.int x0, .int x1]) (n := 2) (Nat.le_of_ble_eq_true rfl)
  rw [lg_entry_eq]
  generalize (lg_sl ([.int x0, .int x1]) ++ List.replicate (2 - (lg_sl ([.int x0, .int x1])).length) Slot.unset).toArray = ls at hl ⊢
  have hl : lv_has ls 2 [(0, .int x0), (1, .int x1)] := hl
  refine lv_iload_n hx hb dX2_isInYard_0 rfl (lv_at hl 0 rfl) ?_
  refine lv_if_lt (tgt := 24) hx hb dX2_isInYard_1 (by decide) (fun c_1 => ?_) (fun c_1 => ?_)
  · refine lv_iconst (v := 0) hx hb dX2_isInYard_24 (by decide) ?_
    exact W.zret (ty := .boolean) (v := 0) hx hb hr (rfl) (fun t ht hW => ⟨⟨0, (), rfl, by simp [inY, c_1], trivial⟩, hS.F ht⟩) hS.2.2 dX2_isInYard_25
  · refine lv_iload_n hx hb dX2_isInYard_4 rfl (lv_at hl 0 rfl) ?_
    refine lv_bipush (v := 6) hx hb dX2_isInYard_5 (by decide) ?_
    refine lv_icmp_ge (tgt := 24) hx hb dX2_isInYard_7 (by decide) (fun c_2 => ?_) (fun c_2 => ?_)
    · refine lv_iconst (v := 0) hx hb dX2_isInYard_24 (by decide) ?_
      exact W.zret (ty := .boolean) (v := 0) hx hb hr (rfl) (fun t ht hW => ⟨⟨0, (), rfl, by simp [inY, c_1, c_2], trivial⟩, hS.F ht⟩) hS.2.2 dX2_isInYard_25
    · refine lv_iload_n hx hb dX2_isInYard_10 rfl (lv_at hl 1 rfl) ?_
      refine lv_if_lt (tgt := 24) hx hb dX2_isInYard_11 (by decide) (fun c_3 => ?_) (fun c_3 => ?_)
      · refine lv_iconst (v := 0) hx hb dX2_isInYard_24 (by decide) ?_
        exact W.zret (ty := .boolean) (v := 0) hx hb hr (rfl) (fun t ht hW => ⟨⟨0, (), rfl, by simp [inY, c_1, c_2, c_3], trivial⟩, hS.F ht⟩) hS.2.2 dX2_isInYard_25
      · refine lv_iload_n hx hb dX2_isInYard_14 rfl (lv_at hl 1 rfl) ?_
        refine lv_bipush (v := 6) hx hb dX2_isInYard_15 (by decide) ?_
        refine lv_icmp_ge (tgt := 24) hx hb dX2_isInYard_17 (by decide) (fun c_4 => ?_) (fun c_4 => ?_)
        · refine lv_iconst (v := 0) hx hb dX2_isInYard_24 (by decide) ?_
          exact W.zret (ty := .boolean) (v := 0) hx hb hr (rfl) (fun t ht hW => ⟨⟨0, (), rfl, by simp [inY, c_1, c_2, c_3, c_4], trivial⟩, hS.F ht⟩) hS.2.2 dX2_isInYard_25
        · refine lv_iconst (v := 1) hx hb dX2_isInYard_20 (by decide) ?_
          refine lv_goto (tgt := 25) hx hb dX2_isInYard_21 (by decide) ?_
          exact W.zret (ty := .boolean) (v := 1) hx hb hr (rfl) (fun t ht hW => ⟨⟨1, (), rfl, by simp [inY, c_1, c_2, c_3, c_4], trivial⟩, hS.F ht⟩) hS.2.2 dX2_isInYard_25

set_option maxHeartbeats 4000000 in
set_option maxRecDepth 100000 in
/-- cellOf -/
theorem c_X2_cellOf (l : Launch) (G : va_G) (cI cZ cJ : ClassId) (a : Nat → Nat) (sz : Nat) (x0 : Int32) (x1 : Int32)  : Met l yX2_cellOf wsX2_cellOf ({ frames := 0, cells := 0, slots := 0, locals := 0 }) (ro_Pc G [(cI, .int), (cZ, .boolean), (cJ, .long)] [] sz [.int x0, .int x1]) (ro_Ql (co x0 x1) sz) 0 0 (ro_A sz) := by
  refine Met.ofW (cc := cX2_cellOf) (maxL := 2) (ret := (some .long)) (by decide) rfl ?_
  intro p e s m args below meth c s₁ B hml hv
  obtain ⟨rfl, hsz, hP, hK, hN⟩ := hv
  have hx := B.exec
  have hb := B.bytes
  have hr := B.returns
  have hts := atoms_spec (ws := wsX2_cellOf) B.pre
  have hown : s.vm.findClass RX2 = some m.cls := findClass_of_methodNamed B.named
  have hlocks := B.notSynchronized
  subst hsz
  have hA : ∀ q : Nat, s.heap.size ≤ q → (ro_A s.heap.size) q := fun _ h => h
  have hS : va_S (ro_A s.heap.size) s.heap s.heap [] := va_S.rf
  have hP : va_P G vwCl [] s.heap := hP
  have hl := lv_entry ([.int x0, .int x1]) (n := 2) (Nat.le_of_ble_eq_true rfl)
  rw [lg_entry_eq]
  generalize (lg_sl ([.int x0, .int x1]) ++ List.replicate (2 - (lg_sl ([.int x0, .int x1])).length) Slot.unset).toArray = ls at hl ⊢
  have hl : lv_has ls 2 [(0, .int x0), (1, .int x1)] := hl
  refine lv_lconst (v := 1) hx hb dX2_cellOf_0 (by decide) ?_
  refine lv_bipush (v := 6) hx hb dX2_cellOf_1 (by decide) ?_
  refine lv_iload_n hx hb dX2_cellOf_3 rfl (lv_at hl 0 rfl) ?_
  refine lv_imul hx hb dX2_cellOf_4 ?_
  refine lv_iload_n hx hb dX2_cellOf_5 rfl (lv_at hl 1 rfl) ?_
  refine lv_iadd hx hb dX2_cellOf_6 ?_
  refine lv_lshl (v := (1 <<< (((6 * x0) + x1).toInt64 &&& 63))) hx hb dX2_cellOf_7 rfl ?_
  exact W.lret (v := (1 <<< (((6 * x0) + x1).toInt64 &&& 63))) hx hb hr (fun t ht hW => ⟨⟨(1 <<< (((6 * x0) + x1).toInt64 &&& 63)), (), rfl, rfl, trivial⟩, hS.F ht⟩) hS.2.2 dX2_cellOf_8

theorem in_X1_count_1 : ∀ w ∈ wsX10, w ∈ wsX1_count := by decide +kernel
set_option maxHeartbeats 4000000 in
set_option maxRecDepth 100000 in
/-- Yard.count -/
theorem c_X1_count (l : Launch) (G : va_G) (cI cZ cJ : ClassId) (a : Nat → Nat) (sz : Nat) (Y : YS)  : Met l yX1_count wsX1_count ({ frames := 0, cells := 0, slots := 0, locals := 0 }) (ro_Pc G [(cI, .int), (cZ, .boolean), (cJ, .long)] (wY cI cZ cJ a Y) sz [.ref (a 6)]) (ro_Qi (nI (y_n Y)) sz) 0 0 (ro_A sz) := by
  refine Met.ofW (cc := cX1_count) (maxL := 1) (ret := (some .int)) (by decide) rfl ?_
  intro p e s m args below meth c s₁ B hml hv
  obtain ⟨rfl, hsz, hP, hK, hN⟩ := hv
  have hx := B.exec
  have hb := B.bytes
  have hr := B.returns
  have hts := atoms_spec (ws := wsX1_count) B.pre
  have hown : s.vm.findClass RX1 = some m.cls := findClass_of_methodNamed B.named
  have hlocks := B.notSynchronized
  subst hsz
  have hA : ∀ q : Nat, s.heap.size ≤ q → (ro_A s.heap.size) q := fun _ h => h
  have hS : va_S (ro_A s.heap.size) s.heap s.heap [] := va_S.rf
  have hP : va_P G vwCl [((a 6), .inr (1, [.ref (a 7), .ref (a 8), .ref (a 9), .ref (a 10), .int (nI (y_n Y)), .long (y_rp Y)])), ((a 7), .inl (cI, 9, .inl (y_sz Y))), ((a 8), .inl (cZ, 9, .inl (y_ac Y))), ((a 9), .inl (cI, 9, .inl (y_li Y))), ((a 10), .inl (cJ, 9, .inr (.inl (y_sh Y))))] s.heap := hP
  have hl := lv_entry ([.ref (a 6)]) (n := 1) (Nat.le_of_ble_eq_true rfl)
  rw [lg_entry_eq]
  generalize (lg_sl ([.ref (a 6)]) ++ List.replicate (1 - (lg_sl ([.ref (a 6)])).length) Slot.unset).toArray = ls at hl ⊢
  have hl : lv_has ls 1 [(0, .ref (a 6))] := hl
  refine lv_aload_n hx hb dX1_count_0 rfl (lv_at hl 0 rfl) ?_
  refine va_get (D := G) (ci := 1) (v := .int (nI (y_n Y))) (C := RX1) (T := TX1) (N := 6) hx hb hts in_X1_count_1 hown hK hP 0 rfl rfl 4 (by decide) (hts (.fieldLink RX1 26 "RampJam$Yard" "vehicleCount" "I") (by decide +kernel)) (fun _ h9 => h9) rfl dX1_count_1 ?_
  exact W.iret (v := (nI (y_n Y))) hx hb hr (fun t ht hW => ⟨⟨(nI (y_n Y)), (), rfl, rfl, trivial⟩, hS.F ht⟩) hS.2.2 dX1_count_4

theorem in_X1_has_1 : ∀ w ∈ wsX10, w ∈ wsX1_has := by decide +kernel
set_option maxHeartbeats 4000000 in
set_option maxRecDepth 100000 in
/-- Yard.has -/
theorem c_X1_has (l : Launch) (G : va_G) (cI cZ cJ : ClassId) (a : Nat → Nat) (sz : Nat) (Y : YS) (v : Int32)  : Met l yX1_has wsX1_has ({ frames := 0, cells := 0, slots := 0, locals := 0 }) (ro_Pc G [(cI, .int), (cZ, .boolean), (cJ, .long)] (wY cI cZ cJ a Y) sz [.ref (a 6), .int v]) (ro_Qi (b1 (y_has Y v)) sz) 0 0 (ro_A sz) := by
  refine Met.ofW (cc := cX1_has) (maxL := 2) (ret := (some .boolean)) (by decide) rfl ?_
  intro p e s m args below meth c s₁ B hml hv
  obtain ⟨rfl, hsz, hP, hK, hN⟩ := hv
  have hx := B.exec
  have hb := B.bytes
  have hr := B.returns
  have hts := atoms_spec (ws := wsX1_has) B.pre
  have hown : s.vm.findClass RX1 = some m.cls := findClass_of_methodNamed B.named
  have hlocks := B.notSynchronized
  subst hsz
  have hA : ∀ q : Nat, s.heap.size ≤ q → (ro_A s.heap.size) q := fun _ h => h
  have hS : va_S (ro_A s.heap.size) s.heap s.heap [] := va_S.rf
  have hP : va_P G vwCl [((a 6), .inr (1, [.ref (a 7), .ref (a 8), .ref (a 9), .ref (a 10), .int (nI (y_n Y)), .long (y_rp Y)])), ((a 7), .inl (cI, 9, .inl (y_sz Y))), ((a 8), .inl (cZ, 9, .inl (y_ac Y))), ((a 9), .inl (cI, 9, .inl (y_li Y))), ((a 10), .inl (cJ, 9, .inr (.inl (y_sh Y))))] s.heap := hP
  have hl := lv_entry ([.ref (a 6), .int v]) (n := 2) (Nat.le_of_ble_eq_true rfl)
  rw [lg_entry_eq]
  generalize (lg_sl ([.ref (a 6), .int v]) ++ List.replicate (2 - (lg_sl ([.ref (a 6), .int v])).length) Slot.unset).toArray = ls at hl ⊢
  have hl : lv_has ls 2 [(0, .ref (a 6)), (1, .int v)] := hl
  refine lv_iload_n hx hb dX1_has_0 rfl (lv_at hl 1 rfl) ?_
  refine lv_if_lt (tgt := 22) hx hb dX1_has_1 (by decide) (fun c_1 => ?_) (fun c_1 => ?_)
  · refine lv_iconst (v := 0) hx hb dX1_has_22 (by decide) ?_
    exact W.zret (ty := .boolean) (v := 0) hx hb hr (rfl) (fun t ht hW => ⟨⟨0, (), rfl, by simp [y_has, c_1], trivial⟩, hS.F ht⟩) hS.2.2 dX1_has_23
  · refine lv_iload_n hx hb dX1_has_4 rfl (lv_at hl 1 rfl) ?_
    refine lv_aload_n hx hb dX1_has_5 rfl (lv_at hl 0 rfl) ?_
    refine va_get (D := G) (ci := 1) (v := .int (nI (y_n Y))) (C := RX1) (T := TX1) (N := 6) hx hb hts in_X1_has_1 hown hK hP 0 rfl rfl 4 (by decide) (hts (.fieldLink RX1 26 "RampJam$Yard" "vehicleCount" "I") (by decide +kernel)) (fun _ h9 => h9) rfl dX1_has_6 ?_
    refine lv_icmp_ge (tgt := 22) hx hb dX1_has_9 (by decide) (fun c_2 => ?_) (fun c_2 => ?_)
    · refine lv_iconst (v := 0) hx hb dX1_has_22 (by decide) ?_
      exact W.zret (ty := .boolean) (v := 0) hx hb hr (rfl) (fun t ht hW => ⟨⟨0, (), rfl, by simp [y_has, c_1, c_2], trivial⟩, hS.F ht⟩) hS.2.2 dX1_has_23
    · refine lv_iload_n hx hb dX1_has_12 rfl (lv_at hl 1 rfl) ?_
      refine lv_bipush (v := 9) hx hb dX1_has_13 (by decide) ?_
      refine lv_icmp_ge (tgt := 22) hx hb dX1_has_15 (by decide) (fun c_3 => ?_) (fun c_3 => ?_)
      · refine lv_iconst (v := 0) hx hb dX1_has_22 (by decide) ?_
        exact W.zret (ty := .boolean) (v := 0) hx hb hr (rfl) (fun t ht hW => ⟨⟨0, (), rfl, by simp [y_has, c_1, c_2, c_3], trivial⟩, hS.F ht⟩) hS.2.2 dX1_has_23
      · refine lv_iconst (v := 1) hx hb dX1_has_18 (by decide) ?_
        refine lv_goto (tgt := 23) hx hb dX1_has_19 (by decide) ?_
        exact W.zret (ty := .boolean) (v := 1) hx hb hr (rfl) (fun t ht hW => ⟨⟨1, (), rfl, by simp [y_has, c_1, c_2, c_3], trivial⟩, hS.F ht⟩) hS.2.2 dX1_has_23

theorem in_X1_isLorry_1 : ∀ w ∈ wsX10, w ∈ wsX1_isLorry := by decide +kernel
set_option maxHeartbeats 4000000 in
set_option maxRecDepth 100000 in
/-- Yard.isLorry -/
theorem c_X1_isLorry (l : Launch) (G : va_G) (cI cZ cJ : ClassId) (a : Nat → Nat) (sz : Nat) (Y : YS) (v : Int32)  : Met l yX1_isLorry wsX1_isLorry ({ frames := 1, cells := 0, slots := 0, locals := 21 }) (ro_Pc G [(cI, .int), (cZ, .boolean), (cJ, .long)] (wY cI cZ cJ a Y) sz [.ref (a 6), .int v]) (ro_Qi (b1 (y_lor Y v)) sz) 0 0 (ro_A sz) := by
  refine Met.ofW (cc := cX1_isLorry) (maxL := 2) (ret := (some .boolean)) (by decide) rfl ?_
  intro p e s m args below meth c s₁ B hml hv
  obtain ⟨rfl, hsz, hP, hK, hN⟩ := hv
  have hx := B.exec
  have hb := B.bytes
  have hr := B.returns
  have hts := atoms_spec (ws := wsX1_isLorry) B.pre
  have hown : s.vm.findClass RX1 = some m.cls := findClass_of_methodNamed B.named
  have hlocks := B.notSynchronized
  subst hsz
  have hA : ∀ q : Nat, s.heap.size ≤ q → (ro_A s.heap.size) q := fun _ h => h
  have hS : va_S (ro_A s.heap.size) s.heap s.heap [] := va_S.rf
  have hP : va_P G vwCl [((a 6), .inr (1, [.ref (a 7), .ref (a 8), .ref (a 9), .ref (a 10), .int (nI (y_n Y)), .long (y_rp Y)])), ((a 7), .inl (cI, 9, .inl (y_sz Y))), ((a 8), .inl (cZ, 9, .inl (y_ac Y))), ((a 9), .inl (cI, 9, .inl (y_li Y))), ((a 10), .inl (cJ, 9, .inr (.inl (y_sh Y))))] s.heap := hP
  have hl := lv_entry ([.ref (a 6), .int v]) (n := 2) (Nat.le_of_ble_eq_true rfl)
  rw [lg_entry_eq]
  generalize (lg_sl ([.ref (a 6), .int v]) ++ List.replicate (2 - (lg_sl ([.ref (a 6), .int v])).length) Slot.unset).toArray = ls at hl ⊢
  have hl : lv_has ls 2 [(0, .ref (a 6)), (1, .int v)] := hl
  refine lv_aload_n hx hb dX1_isLorry_0 rfl (lv_at hl 0 rfl) ?_
  refine lv_iload_n hx hb dX1_isLorry_1 rfl (lv_at hl 1 rfl) ?_
  refine ro_i (va_runV (As := [.int v]) (rest := []) ⟨hx, hb, hml, hown, hts⟩ ((c_X1_has l G cI cZ cJ a _ Y v)) (cwV 1 hts gX1_isLorry_X1_has rfl rfl rfl (by decide +kernel) ⟨Nat.le_of_ble_eq_true rfl, Nat.le_of_ble_eq_true rfl⟩) ⟨ro_blind, va_recv hK hP (ci := 1) (q0 := 0) rfl rfl, ro_pre hP hK hN⟩ rfl rfl hl.1 rfl (lv_room (Nat.le_of_ble_eq_true rfl)) dX1_isLorry_2 ⟨Nat.zero_le _, Nat.zero_le _⟩) hS hA hP (fun H locs hP hS => ?_)
  refine lv_if_eq (tgt := 22) hx hb dX1_isLorry_5 (by decide) (fun c_1 => ?_) (fun c_1 => ?_)
  · have c_1 := b1_f c_1
    refine lv_iconst (v := 0) hx hb dX1_isLorry_22 (by decide) ?_
    exact W.zret (ty := .boolean) (v := 0) hx hb hr (rfl) (fun t ht hW => ⟨⟨0, (), rfl, by simp [y_lor, c_1], trivial⟩, hS.F ht⟩) hS.2.2 dX1_isLorry_23
  · have c_1 := b1_t c_1
    refine lv_aload_n hx hb dX1_isLorry_8 rfl (lv_at hl 0 rfl) ?_
    refine va_get (D := G) (ci := 1) (v := .ref (a 7)) (C := RX1) (T := TX1) (N := 6) hx hb hts in_X1_isLorry_1 hown hK hP 0 rfl rfl 0 (by decide) (hts (.fieldLink RX1 9 "RampJam$Yard" "sizes" "[I") (by decide +kernel)) (fun _ h9 => h9) rfl dX1_isLorry_9 ?_
    refine lv_iload_n hx hb dX1_isLorry_12 rfl (lv_at hl 1 rfl) ?_
    refine va_iald hx hb hK hP 1 0 rfl rfl (y_has_in (by assumption)) dX1_isLorry_13 ?_
    refine lv_iconst (v := 2) hx hb dX1_isLorry_14 (by decide) ?_
    refine lv_icmp_le (tgt := 22) hx hb dX1_isLorry_15 (by decide) (fun c_2 => ?_) (fun c_2 => ?_)
    · refine lv_iconst (v := 0) hx hb dX1_isLorry_22 (by decide) ?_
      exact W.zret (ty := .boolean) (v := 0) hx hb hr (rfl) (fun t ht hW => ⟨⟨0, (), rfl, by simp [y_lor, c_1, c_2], trivial⟩, hS.F ht⟩) hS.2.2 dX1_isLorry_23
    · refine lv_iconst (v := 1) hx hb dX1_isLorry_18 (by decide) ?_
      refine lv_goto (tgt := 23) hx hb dX1_isLorry_19 (by decide) ?_
      exact W.zret (ty := .boolean) (v := 1) hx hb hr (rfl) (fun t ht hW => ⟨⟨1, (), rfl, by simp [y_lor, c_1, c_2], trivial⟩, hS.F ht⟩) hS.2.2 dX1_isLorry_23

theorem in_X1_lineOf_1 : ∀ w ∈ wsX10, w ∈ wsX1_lineOf := by decide +kernel
set_option maxHeartbeats 4000000 in
set_option maxRecDepth 100000 in
/-- Yard.lineOf -/
theorem c_X1_lineOf (l : Launch) (G : va_G) (cI cZ cJ : ClassId) (a : Nat → Nat) (sz : Nat) (Y : YS) (v : Int32)  : Met l yX1_lineOf wsX1_lineOf ({ frames := 1, cells := 0, slots := 0, locals := 21 }) (ro_Pc G [(cI, .int), (cZ, .boolean), (cJ, .long)] (wY cI cZ cJ a Y) sz [.ref (a 6), .int v]) (ro_Qi (y_line Y v) sz) 0 0 (ro_A sz) := by
  refine Met.ofW (cc := cX1_lineOf) (maxL := 2) (ret := (some .int)) (by decide) rfl ?_
  intro p e s m args below meth c s₁ B hml hv
  obtain ⟨rfl, hsz, hP, hK, hN⟩ := hv
  have hx := B.exec
  have hb := B.bytes
  have hr := B.returns
  have hts := atoms_spec (ws := wsX1_lineOf) B.pre
  have hown : s.vm.findClass RX1 = some m.cls := findClass_of_methodNamed B.named
  have hlocks := B.notSynchronized
  subst hsz
  have hA : ∀ q : Nat, s.heap.size ≤ q → (ro_A s.heap.size) q := fun _ h => h
  have hS : va_S (ro_A s.heap.size) s.heap s.heap [] := va_S.rf
  have hP : va_P G vwCl [((a 6), .inr (1, [.ref (a 7), .ref (a 8), .ref (a 9), .ref (a 10), .int (nI (y_n Y)), .long (y_rp Y)])), ((a 7), .inl (cI, 9, .inl (y_sz Y))), ((a 8), .inl (cZ, 9, .inl (y_ac Y))), ((a 9), .inl (cI, 9, .inl (y_li Y))), ((a 10), .inl (cJ, 9, .inr (.inl (y_sh Y))))] s.heap := hP
  have hl := lv_entry ([.ref (a 6), .int v]) (n := 2) (Nat.le_of_ble_eq_true rfl)
  rw [lg_entry_eq]
  generalize (lg_sl ([.ref (a 6), .int v]) ++ List.replicate (2 - (lg_sl ([.ref (a 6), .int v])).length) Slot.unset).toArray = ls at hl ⊢
  have hl : lv_has ls 2 [(0, .ref (a 6)), (1, .int v)] := hl
  refine lv_aload_n hx hb dX1_lineOf_0 rfl (lv_at hl 0 rfl) ?_
  refine lv_iload_n hx hb dX1_lineOf_1 rfl (lv_at hl 1 rfl) ?_
  refine ro_i (va_runV (As := [.int v]) (rest := []) ⟨hx, hb, hml, hown, hts⟩ ((c_X1_has l G cI cZ cJ a _ Y v)) (cwV 1 hts gX1_lineOf_X1_has rfl rfl rfl (by decide +kernel) ⟨Nat.le_of_ble_eq_true rfl, Nat.le_of_ble_eq_true rfl⟩) ⟨ro_blind, va_recv hK hP (ci := 1) (q0 := 0) rfl rfl, ro_pre hP hK hN⟩ rfl rfl hl.1 rfl (lv_room (Nat.le_of_ble_eq_true rfl)) dX1_lineOf_2 ⟨Nat.zero_le _, Nat.zero_le _⟩) hS hA hP (fun H locs hP hS => ?_)
  refine lv_if_eq (tgt := 17) hx hb dX1_lineOf_5 (by decide) (fun c_1 => ?_) (fun c_1 => ?_)
  · have c_1 := b1_f c_1
    refine lv_iconst (v := 0) hx hb dX1_lineOf_17 (by decide) ?_
    exact W.iret (v := 0) hx hb hr (fun t ht hW => ⟨⟨0, (), rfl, by simp [y_line, c_1], trivial⟩, hS.F ht⟩) hS.2.2 dX1_lineOf_18
  · have c_1 := b1_t c_1
    refine lv_aload_n hx hb dX1_lineOf_8 rfl (lv_at hl 0 rfl) ?_
    refine va_get (D := G) (ci := 1) (v := .ref (a 9)) (C := RX1) (T := TX1) (N := 6) hx hb hts in_X1_lineOf_1 hown hK hP 0 rfl rfl 2 (by decide) (hts (.fieldLink RX1 19 "RampJam$Yard" "lines" "[I") (by decide +kernel)) (fun _ h9 => h9) rfl dX1_lineOf_9 ?_
    refine lv_iload_n hx hb dX1_lineOf_12 rfl (lv_at hl 1 rfl) ?_
    refine va_iald hx hb hK hP 3 0 rfl rfl (y_has_in c_1) dX1_lineOf_13 ?_
    refine lv_goto (tgt := 18) hx hb dX1_lineOf_14 (by decide) ?_
    exact W.iret (v := ((y_li Y) (v.toNatClampNeg))) hx hb hr (fun t ht hW => ⟨⟨((y_li Y) (v.toNatClampNeg)), (), rfl, by simp [y_line, c_1], trivial⟩, hS.F ht⟩) hS.2.2 dX1_lineOf_18

theorem in_X1_barredTo_1 : ∀ w ∈ wsX10, w ∈ wsX1_barredTo := by decide +kernel
set_option maxHeartbeats 4000000 in
set_option maxRecDepth 100000 in
/-- Yard.barredTo -/
theorem c_X1_barredTo (l : Launch) (G : va_G) (cI cZ cJ : ClassId) (a : Nat → Nat) (sz : Nat) (Y : YS) (v : Int32)  : Met l yX1_barredTo wsX1_barredTo ({ frames := 0, cells := 0, slots := 0, locals := 0 }) (ro_Pc G [(cI, .int), (cZ, .boolean), (cJ, .long)] (wY cI cZ cJ a Y) sz [.ref (a 6), .int v]) (ro_Ql (y_bar Y v) sz) 0 0 (ro_A sz) := by
  refine Met.ofW (cc := cX1_barredTo) (maxL := 2) (ret := (some .long)) (by decide) rfl ?_
  intro p e s m args below meth c s₁ B hml hv
  obtain ⟨rfl, hsz, hP, hK, hN⟩ := hv
  have hx := B.exec
  have hb := B.bytes
  have hr := B.returns
  have hts := atoms_spec (ws := wsX1_barredTo) B.pre
  have hown : s.vm.findClass RX1 = some m.cls := findClass_of_methodNamed B.named
  have hlocks := B.notSynchronized
  subst hsz
  have hA : ∀ q : Nat, s.heap.size ≤ q → (ro_A s.heap.size) q := fun _ h => h
  have hS : va_S (ro_A s.heap.size) s.heap s.heap [] := va_S.rf
  have hP : va_P G vwCl [((a 6), .inr (1, [.ref (a 7), .ref (a 8), .ref (a 9), .ref (a 10), .int (nI (y_n Y)), .long (y_rp Y)])), ((a 7), .inl (cI, 9, .inl (y_sz Y))), ((a 8), .inl (cZ, 9, .inl (y_ac Y))), ((a 9), .inl (cI, 9, .inl (y_li Y))), ((a 10), .inl (cJ, 9, .inr (.inl (y_sh Y))))] s.heap := hP
  have hl := lv_entry ([.ref (a 6), .int v]) (n := 2) (Nat.le_of_ble_eq_true rfl)
  rw [lg_entry_eq]
  generalize (lg_sl ([.ref (a 6), .int v]) ++ List.replicate (2 - (lg_sl ([.ref (a 6), .int v])).length) Slot.unset).toArray = ls at hl ⊢
  have hl : lv_has ls 2 [(0, .ref (a 6)), (1, .int v)] := hl
  refine lv_iload_n hx hb dX1_barredTo_0 rfl (lv_at hl 1 rfl) ?_
  refine lv_iconst (v := 2) hx hb dX1_barredTo_1 (by decide) ?_
  refine lv_icmp_le (tgt := 12) hx hb dX1_barredTo_2 (by decide) (fun c_1 => ?_) (fun c_1 => ?_)
  · refine lv_lconst (v := 0) hx hb dX1_barredTo_12 (by decide) ?_
    exact W.lret (v := 0) hx hb hr (fun t ht hW => ⟨⟨0, (), rfl, by simp [y_bar, c_1], trivial⟩, hS.F ht⟩) hS.2.2 dX1_barredTo_13
  · refine lv_aload_n hx hb dX1_barredTo_5 rfl (lv_at hl 0 rfl) ?_
    refine va_get (D := G) (ci := 1) (v := .long (y_rp Y)) (C := RX1) (T := TX1) (N := 6) hx hb hts in_X1_barredTo_1 hown hK hP 0 rfl rfl 5 (by decide) (hts (.fieldLink RX1 34 "RampJam$Yard" "rampCell" "J") (by decide +kernel)) (fun _ h9 => h9) rfl dX1_barredTo_6 ?_
    refine lv_goto (tgt := 13) hx hb dX1_barredTo_9 (by decide) ?_
    exact W.lret (v := (y_rp Y)) hx hb hr (fun t ht hW => ⟨⟨(y_rp Y), (), rfl, by simp [y_bar, c_1], trivial⟩, hS.F ht⟩) hS.2.2 dX1_barredTo_13

theorem in_X1_standsAcross_1 : ∀ w ∈ wsX10, w ∈ wsX1_standsAcross := by decide +kernel
set_option maxHeartbeats 4000000 in
set_option maxRecDepth 100000 in
/-- Yard.standsAcross -/
theorem c_X1_standsAcross (l : Launch) (G : va_G) (cI cZ cJ : ClassId) (a : Nat → Nat) (sz : Nat) (Y : YS) (v : Int32)  : Met l yX1_standsAcross wsX1_standsAcross ({ frames := 1, cells := 0, slots := 0, locals := 21 }) (ro_Pc G [(cI, .int), (cZ, .boolean), (cJ, .long)] (wY cI cZ cJ a Y) sz [.ref (a 6), .int v]) (ro_Qi (b1 (y_acr Y v)) sz) 0 0 (ro_A sz) := by
  refine Met.ofW (cc := cX1_standsAcross) (maxL := 2) (ret := (some .boolean)) (by decide) rfl ?_
  intro p e s m args below meth c s₁ B hml hv
  obtain ⟨rfl, hsz, hP, hK, hN⟩ := hv
  have hx := B.exec
  have hb := B.bytes
  have hr := B.returns
  have hts := atoms_spec (ws := wsX1_standsAcross) B.pre
  have hown : s.vm.findClass RX1 = some m.cls := findClass_of_methodNamed B.named
  have hlocks := B.notSynchronized
  subst hsz
  have hA : ∀ q : Nat, s.heap.size ≤ q → (ro_A s.heap.size) q := fun _ h => h
  have hS : va_S (ro_A s.heap.size) s.heap s.heap [] := va_S.rf
  have hP : va_P G vwCl [((a 6), .inr (1, [.ref (a 7), .ref (a 8), .ref (a 9), .ref (a 10), .int (nI (y_n Y)), .long (y_rp Y)])), ((a 7), .inl (cI, 9, .inl (y_sz Y))), ((a 8), .inl (cZ, 9, .inl (y_ac Y))), ((a 9), .inl (cI, 9, .inl (y_li Y))), ((a 10), .inl (cJ, 9, .inr (.inl (y_sh Y))))] s.heap := hP
  have hl := lv_entry ([.ref (a 6), .int v]) (n := 2) (Nat.le_of_ble_eq_true rfl)
  rw [lg_entry_eq]
  generalize (lg_sl ([.ref (a 6), .int v]) ++ List.replicate (2 - (lg_sl ([.ref (a 6), .int v])).length) Slot.unset).toArray = ls at hl ⊢
  have hl : lv_has ls 2 [(0, .ref (a 6)), (1, .int v)] := hl
  refine lv_aload_n hx hb dX1_standsAcross_0 rfl (lv_at hl 0 rfl) ?_
  refine lv_iload_n hx hb dX1_standsAcross_1 rfl (lv_at hl 1 rfl) ?_
  refine ro_i (va_runV (As := [.int v]) (rest := []) ⟨hx, hb, hml, hown, hts⟩ ((c_X1_has l G cI cZ cJ a _ Y v)) (cwV 1 hts gX1_standsAcross_X1_has rfl rfl rfl (by decide +kernel) ⟨Nat.le_of_ble_eq_true rfl, Nat.le_of_ble_eq_true rfl⟩) ⟨ro_blind, va_recv hK hP (ci := 1) (q0 := 0) rfl rfl, ro_pre hP hK hN⟩ rfl rfl hl.1 rfl (lv_room (Nat.le_of_ble_eq_true rfl)) dX1_standsAcross_2 ⟨Nat.zero_le _, Nat.zero_le _⟩) hS hA hP (fun H locs hP hS => ?_)
  refine lv_if_eq (tgt := 21) hx hb dX1_standsAcross_5 (by decide) (fun c_1 => ?_) (fun c_1 => ?_)
  · have c_1 := b1_f c_1
    refine lv_iconst (v := 0) hx hb dX1_standsAcross_21 (by decide) ?_
    exact W.zret (ty := .boolean) (v := 0) hx hb hr (rfl) (fun t ht hW => ⟨⟨0, (), rfl, by simp [y_acr, c_1], trivial⟩, hS.F ht⟩) hS.2.2 dX1_standsAcross_22
  · have c_1 := b1_t c_1
    refine lv_aload_n hx hb dX1_standsAcross_8 rfl (lv_at hl 0 rfl) ?_
    refine va_get (D := G) (ci := 1) (v := .ref (a 8)) (C := RX1) (T := TX1) (N := 6) hx hb hts in_X1_standsAcross_1 hown hK hP 0 rfl rfl 1 (by decide) (hts (.fieldLink RX1 15 "RampJam$Yard" "acrosses" "[Z") (by decide +kernel)) (fun _ h9 => h9) rfl dX1_standsAcross_9 ?_
    refine lv_iload_n hx hb dX1_standsAcross_12 rfl (lv_at hl 1 rfl) ?_
    refine va_zald hx hb hK hP 2 1 rfl rfl (y_has_in (by assumption)) dX1_standsAcross_13 ?_
    refine lv_if_eq (tgt := 21) hx hb dX1_standsAcross_14 (by decide) (fun c_2 => ?_) (fun c_2 => ?_)
    · refine lv_iconst (v := 0) hx hb dX1_standsAcross_21 (by decide) ?_
      exact W.zret (ty := .boolean) (v := 0) hx hb hr (rfl) (fun t ht hW => ⟨⟨0, (), rfl, by simp [y_acr, c_1, c_2], trivial⟩, hS.F ht⟩) hS.2.2 dX1_standsAcross_22
    · refine lv_iconst (v := 1) hx hb dX1_standsAcross_17 (by decide) ?_
      refine lv_goto (tgt := 22) hx hb dX1_standsAcross_18 (by decide) ?_
      exact W.zret (ty := .boolean) (v := 1) hx hb hr (rfl) (fun t ht hW => ⟨⟨1, (), rfl, by simp [y_acr, c_1, c_2], trivial⟩, hS.F ht⟩) hS.2.2 dX1_standsAcross_22

theorem in_X1_cellsIn_1 : ∀ w ∈ wsX10, w ∈ wsX1_cellsIn := by decide +kernel
set_option maxHeartbeats 4000000 in
set_option maxRecDepth 100000 in
/-- Yard.cellsIn -/
theorem c_X1_cellsIn (l : Launch) (G : va_G) (cI cZ cJ : ClassId) (a : Nat → Nat) (sz : Nat) (Y : YS) (x : Int32) (v : Int32)  : Met l yX1_cellsIn wsX1_cellsIn ({ frames := 1, cells := 0, slots := 0, locals := 21 }) (ro_Pc G [(cI, .int), (cZ, .boolean), (cJ, .long)] (wY cI cZ cJ a Y) sz [.ref (a 6), .int x, .int v]) (ro_Ql (y_cel Y x v) sz) 0 0 (ro_A sz) := by
  refine Met.ofW (cc := cX1_cellsIn) (maxL := 4) (ret := (some .long)) (by decide) rfl ?_
  intro p e s m args below meth c s₁ B hml hv
  obtain ⟨rfl, hsz, hP, hK, hN⟩ := hv
  have hx := B.exec
  have hb := B.bytes
  have hr := B.returns
  have hts := atoms_spec (ws := wsX1_cellsIn) B.pre
  have hown : s.vm.findClass RX1 = some m.cls := findClass_of_methodNamed B.named
  have hlocks := B.notSynchronized
  subst hsz
  have hA : ∀ q : Nat, s.heap.size ≤ q → (ro_A s.heap.size) q := fun _ h => h
  have hS : va_S (ro_A s.heap.size) s.heap s.heap [] := va_S.rf
  have hP : va_P G vwCl [((a 6), .inr (1, [.ref (a 7), .ref (a 8), .ref (a 9), .ref (a 10), .int (nI (y_n Y)), .long (y_rp Y)])), ((a 7), .inl (cI, 9, .inl (y_sz Y))), ((a 8), .inl (cZ, 9, .inl (y_ac Y))), ((a 9), .inl (cI, 9, .inl (y_li Y))), ((a 10), .inl (cJ, 9, .inr (.inl (y_sh Y))))] s.heap := hP
  have hl := lv_entry ([.ref (a 6), .int x, .int v]) (n := 4) (Nat.le_of_ble_eq_true rfl)
  rw [lg_entry_eq]
  generalize (lg_sl ([.ref (a 6), .int x, .int v]) ++ List.replicate (4 - (lg_sl ([.ref (a 6), .int x, .int v])).length) Slot.unset).toArray = ls at hl ⊢
  have hl : lv_has ls 4 [(0, .ref (a 6)), (1, .int x), (2, .int v)] := hl
  refine lv_aload_n hx hb dX1_cellsIn_0 rfl (lv_at hl 0 rfl) ?_
  refine lv_iload_n hx hb dX1_cellsIn_1 rfl (lv_at hl 2 rfl) ?_
  refine ro_i (va_runV (As := [.int v]) (rest := []) ⟨hx, hb, hml, hown, hts⟩ ((c_X1_has l G cI cZ cJ a _ Y v)) (cwV 1 hts gX1_cellsIn_X1_has rfl rfl rfl (by decide +kernel) ⟨Nat.le_of_ble_eq_true rfl, Nat.le_of_ble_eq_true rfl⟩) ⟨ro_blind, va_recv hK hP (ci := 1) (q0 := 0) rfl rfl, ro_pre hP hK hN⟩ rfl rfl hl.1 rfl (lv_room (Nat.le_of_ble_eq_true rfl)) dX1_cellsIn_2 ⟨Nat.zero_le _, Nat.zero_le _⟩) hS hA hP (fun H locs hP hS => ?_)
  refine lv_if_ne (tgt := 10) hx hb dX1_cellsIn_5 (by decide) (fun c_1 => ?_) (fun c_1 => ?_)
  · have c_1 := b1_t c_1
    refine lv_aload_n hx hb dX1_cellsIn_10 rfl (lv_at hl 0 rfl) ?_
    refine va_get (D := G) (ci := 1) (v := .ref (a 8)) (C := RX1) (T := TX1) (N := 6) hx hb hts in_X1_cellsIn_1 hown hK hP 0 rfl rfl 1 (by decide) (hts (.fieldLink RX1 15 "RampJam$Yard" "acrosses" "[Z") (by decide +kernel)) (fun _ h9 => h9) rfl dX1_cellsIn_11 ?_
    refine lv_iload_n hx hb dX1_cellsIn_14 rfl (lv_at hl 2 rfl) ?_
    refine va_zald hx hb hK hP 2 1 rfl rfl (y_has_in (by assumption)) dX1_cellsIn_15 ?_
    refine lv_if_eq (tgt := 23) hx hb dX1_cellsIn_16 (by decide) (fun c_2 => ?_) (fun c_2 => ?_)
    · refine lv_bipush (v := 6) hx hb dX1_cellsIn_23 (by decide) ?_
      refine lv_istore_n (lv' := [(3, .int 6), (0, .ref (a 6)), (1, .int x), (2, .int v)]) hx hb dX1_cellsIn_25 rfl hl (by decide) rfl (fun ls hl => ?_)
      refine lv_aload_n hx hb dX1_cellsIn_26 rfl (lv_at hl 1 rfl) ?_
      refine va_get (D := G) (ci := 1) (v := .ref (a 10)) (C := RX1) (T := TX1) (N := 6) hx hb hts in_X1_cellsIn_1 hown hK hP 0 rfl rfl 3 (by decide) (hts (.fieldLink RX1 22 "RampJam$Yard" "shapes" "[J") (by decide +kernel)) (fun _ h9 => h9) rfl dX1_cellsIn_27 ?_
      refine lv_iload_n hx hb dX1_cellsIn_30 rfl (lv_at hl 3 rfl) ?_
      refine va_lald hx hb hK hP 4 2 rfl rfl (y_has_in (by assumption)) dX1_cellsIn_31 ?_
      refine lv_iload_n hx hb dX1_cellsIn_32 rfl (lv_at hl 0 rfl) ?_
      refine lv_iload_n hx hb dX1_cellsIn_33 rfl (lv_at hl 2 rfl) ?_
      refine lv_iload_n hx hb dX1_cellsIn_34 rfl (lv_at hl 3 rfl) ?_
      refine ro_i (va_runSN (As := [.int x, .int v]) (rest := [.int 6, .long ((y_sh Y) (v.toNatClampNeg))]) ⟨hx, hb, hml, hown, hts⟩ ((c_X2_placeIn l G cI cZ cJ a _ x v)) ⟨va_cnB 2 hts gX1_cellsIn_X2_placeIn_n42 rfl rfl rfl (nx_get hN (k := 1) rfl) (hts (.initialized RX2) (by decide +kernel)) (by decide +kernel) ⟨Nat.le_of_ble_eq_true rfl, Nat.le_of_ble_eq_true rfl⟩, hts (.static yX2_placeIn) (by decide +kernel), trivial⟩ ⟨ro_blind, ro_pre va_P0 hK hN⟩ rfl rfl hl.1 rfl (lv_room (Nat.le_of_ble_eq_true rfl)) dX1_cellsIn_35 ⟨Nat.zero_le _, Nat.zero_le _⟩) hS hA hP (fun H locs hP hS => ?_)
      refine lv_imul hx hb dX1_cellsIn_38 ?_
      refine lv_lshl (v := (((y_sh Y) (v.toNatClampNeg)) <<< ((6 * (pl x v)).toInt64 &&& 63))) hx hb dX1_cellsIn_39 rfl ?_
      exact W.lret (v := (((y_sh Y) (v.toNatClampNeg)) <<< ((6 * (pl x v)).toInt64 &&& 63))) hx hb hr (fun t ht hW => ⟨⟨(((y_sh Y) (v.toNatClampNeg)) <<< ((6 * (pl x v)).toInt64 &&& 63)), (), rfl, by rw [y_cel, if_pos c_1, y_str, if_pos c_2], trivial⟩, hS.F ht⟩) hS.2.2 dX1_cellsIn_40
    · refine lv_iconst (v := 1) hx hb dX1_cellsIn_19 (by decide) ?_
      refine lv_goto (tgt := 25) hx hb dX1_cellsIn_20 (by decide) ?_
      refine lv_istore_n (lv' := [(3, .int 1), (0, .ref (a 6)), (1, .int x), (2, .int v)]) hx hb dX1_cellsIn_25 rfl hl (by decide) rfl (fun ls hl => ?_)
      refine lv_aload_n hx hb dX1_cellsIn_26 rfl (lv_at hl 1 rfl) ?_
      refine va_get (D := G) (ci := 1) (v := .ref (a 10)) (C := RX1) (T := TX1) (N := 6) hx hb hts in_X1_cellsIn_1 hown hK hP 0 rfl rfl 3 (by decide) (hts (.fieldLink RX1 22 "RampJam$Yard" "shapes" "[J") (by decide +kernel)) (fun _ h9 => h9) rfl dX1_cellsIn_27 ?_
      refine lv_iload_n hx hb dX1_cellsIn_30 rfl (lv_at hl 3 rfl) ?_
      refine va_lald hx hb hK hP 4 2 rfl rfl (y_has_in (by assumption)) dX1_cellsIn_31 ?_
      refine lv_iload_n hx hb dX1_cellsIn_32 rfl (lv_at hl 0 rfl) ?_
      refine lv_iload_n hx hb dX1_cellsIn_33 rfl (lv_at hl 2 rfl) ?_
      refine lv_iload_n hx hb dX1_cellsIn_34 rfl (lv_at hl 3 rfl) ?_
      refine ro_i (va_runSN (As := [.int x, .int v]) (rest := [.int 1, .long ((y_sh Y) (v.toNatClampNeg))]) ⟨hx, hb, hml, hown, hts⟩ ((c_X2_placeIn l G cI cZ cJ a _ x v)) ⟨va_cnB 2 hts gX1_cellsIn_X2_placeIn_n42 rfl rfl rfl (nx_get hN (k := 1) rfl) (hts (.initialized RX2) (by decide +kernel)) (by decide +kernel) ⟨Nat.le_of_ble_eq_true rfl, Nat.le_of_ble_eq_true rfl⟩, hts (.static yX2_placeIn) (by decide +kernel), trivial⟩ ⟨ro_blind, ro_pre va_P0 hK hN⟩ rfl rfl hl.1 rfl (lv_room (Nat.le_of_ble_eq_true rfl)) dX1_cellsIn_35 ⟨Nat.zero_le _, Nat.zero_le _⟩) hS hA hP (fun H locs hP hS => ?_)
      refine lv_imul hx hb dX1_cellsIn_38 ?_
      refine lv_lshl (v := (((y_sh Y) (v.toNatClampNeg)) <<< ((1 * (pl x v)).toInt64 &&& 63))) hx hb dX1_cellsIn_39 rfl ?_
      exact W.lret (v := (((y_sh Y) (v.toNatClampNeg)) <<< ((1 * (pl x v)).toInt64 &&& 63))) hx hb hr (fun t ht hW => ⟨⟨(((y_sh Y) (v.toNatClampNeg)) <<< ((1 * (pl x v)).toInt64 &&& 63)), (), rfl, by rw [y_cel, if_pos c_1, y_str, if_neg c_2], trivial⟩, hS.F ht⟩) hS.2.2 dX1_cellsIn_40
  · have c_1 := b1_f c_1
    refine lv_lconst (v := 0) hx hb dX1_cellsIn_8 (by decide) ?_
    exact W.lret (v := 0) hx hb hr (fun t ht hW => ⟨⟨0, (), rfl, by rw [y_cel, if_neg c_1], trivial⟩, hS.F ht⟩) hS.2.2 dX1_cellsIn_9

theorem in_X1_filledIn_1 : ∀ w ∈ wsX10, w ∈ wsX1_filledIn := by decide +kernel
set_option maxHeartbeats 4000000 in
set_option maxRecDepth 100000 in
/-- Yard.filledIn -/
theorem c_X1_filledIn (l : Launch) (G : va_G) (cI cZ cJ : ClassId) (a : Nat → Nat) (sz : Nat) (Y : YS) (x : Int32) (hn : y_n Y ≤ 9) : Met l yX1_filledIn wsX1_filledIn ({ frames := 2, cells := 0, slots := 0, locals := 44 }) (ro_Pc G [(cI, .int), (cZ, .boolean), (cJ, .long)] (wY cI cZ cJ a Y) sz [.ref (a 6), .int x]) (ro_Ql (y_fil Y x (y_n Y)) sz) 0 0 (ro_A sz) := by
  refine Met.ofW (cc := cX1_filledIn) (maxL := 5) (ret := (some .long)) (by decide) rfl ?_
  intro p e s m args below meth c s₁ B hml hv
  obtain ⟨rfl, hsz, hP, hK, hN⟩ := hv
  have hx := B.exec
  have hb := B.bytes
  have hr := B.returns
  have hts := atoms_spec (ws := wsX1_filledIn) B.pre
  have hown : s.vm.findClass RX1 = some m.cls := findClass_of_methodNamed B.named
  have hlocks := B.notSynchronized
  subst hsz
  have hA : ∀ q : Nat, s.heap.size ≤ q → (ro_A s.heap.size) q := fun _ h => h
  have hS : va_S (ro_A s.heap.size) s.heap s.heap [] := va_S.rf
  have hP : va_P G vwCl [((a 6), .inr (1, [.ref (a 7), .ref (a 8), .ref (a 9), .ref (a 10), .int (nI (y_n Y)), .long (y_rp Y)])), ((a 7), .inl (cI, 9, .inl (y_sz Y))), ((a 8), .inl (cZ, 9, .inl (y_ac Y))), ((a 9), .inl (cI, 9, .inl (y_li Y))), ((a 10), .inl (cJ, 9, .inr (.inl (y_sh Y))))] s.heap := hP
  have hl := lv_entry ([.ref (a 6), .int x]) (n := 5) (Nat.le_of_ble_eq_true rfl)
  rw [lg_entry_eq]
  generalize (lg_sl ([.ref (a 6), .int x]) ++ List.replicate (5 - (lg_sl ([.ref (a 6), .int x])).length) Slot.unset).toArray = ls at hl ⊢
  have hl : lv_has ls 5 [(0, .ref (a 6)), (1, .int x)] := hl
  refine lv_lconst (v := 0) hx hb dX1_filledIn_0 (by decide) ?_
  refine lv_lstore_n (lv' := [(2, .long 0), (0, .ref (a 6)), (1, .int x)]) hx hb dX1_filledIn_1 rfl hl (by decide) rfl (fun ls hl => ?_)
  refine lv_iconst (v := 0) hx hb dX1_filledIn_2 (by decide) ?_
  refine lv_istore (lv' := [(4, .int 0), (2, .long 0), (0, .ref (a 6)), (1, .int x)]) hx hb dX1_filledIn_3 hl (by decide) rfl (fun ls hl => ?_)
  have cut_5 : ∀ (d : Nat) (k : Nat), k ≤ y_n Y → y_n Y + 1 ≤ k + d → ∀ (H : Heap) (locs : List Loc), va_P G vwCl [((a 6), .inr (1, [.ref (a 7), .ref (a 8), .ref (a 9), .ref (a 10), .int (nI (y_n Y)), .long (y_rp Y)])), ((a 7), .inl (cI, 9, .inl (y_sz Y))), ((a 8), .inl (cZ, 9, .inl (y_ac Y))), ((a 9), .inl (cI, 9, .inl (y_li Y))), ((a 10), .inl (cJ, 9, .inr (.inl (y_sh Y))))] H → va_S (ro_A s.heap.size) s.heap H locs → ∀ (ls : Array Slot), lv_has ls 5 [(0, .ref (a 6)), (1, .int x), (2, .long (y_fil Y x k)), (4, .int (nI k))] → W p l e (headSpec wsX1_filledIn ({ frames := 2, cells := 0, slots := 0, locals := 44 })).room s m ([.ref (a 6), .int x] : List Value).toArray below meth c H locs 0 0 (MQ below (ro_Ql (y_fil Y x (y_n Y)) s.heap.size) ([.ref (a 6), .int x] : List Value).toArray s 0 0 (ro_A s.heap.size)) (F0 m 5 ls []) := by
    intro d
    induction d with
    | zero =>
      intro k hk_5 hd_5
      exact absurd hd_5 (by omega)
    | succ d ih_5 =>
      intro k hk_5 hd_5  H locs hP hS ls hl
      refine lv_iload hx hb dX1_filledIn_5 (lv_at hl 3 rfl) ?_
      refine lv_aload_n hx hb dX1_filledIn_7 rfl (lv_at hl 0 rfl) ?_
      refine va_get (D := G) (ci := 1) (v := .int (nI (y_n Y))) (C := RX1) (T := TX1) (N := 6) hx hb hts in_X1_filledIn_1 hown hK hP 0 rfl rfl 4 (by decide) (hts (.fieldLink RX1 26 "RampJam$Yard" "vehicleCount" "I") (by decide +kernel)) (fun _ h9 => h9) rfl dX1_filledIn_8 ?_
      refine lv_icmp_ge (tgt := 30) hx hb dX1_filledIn_11 (by decide) (fun c_1 => ?_) (fun c_1 => ?_)
      · have hkn : k = y_n Y := Nat.le_antisymm hk_5 (nx_ge (by omega) (by omega) c_1)
        refine lv_lload_n hx hb dX1_filledIn_30 rfl (lv_at hl 2 rfl) ?_
        exact W.lret (v := (y_fil Y x k)) hx hb hr (fun t ht hW => ⟨⟨(y_fil Y x k), (), rfl, by rw [hkn], trivial⟩, hS.F ht⟩) hS.2.2 dX1_filledIn_31
      · have hlt : k < y_n Y := nx_lt (by omega) (by omega) c_1
        refine lv_lload_n hx hb dX1_filledIn_14 rfl (lv_at hl 2 rfl) ?_
        refine lv_aload_n hx hb dX1_filledIn_15 rfl (lv_at hl 0 rfl) ?_
        refine lv_iload_n hx hb dX1_filledIn_16 rfl (lv_at hl 1 rfl) ?_
        refine lv_iload hx hb dX1_filledIn_17 (lv_at hl 3 rfl) ?_
        refine ro_l (va_runV (As := [.int x, .int (nI k)]) (rest := [.long (y_fil Y x k)]) ⟨hx, hb, hml, hown, hts⟩ ((c_X1_cellsIn l G cI cZ cJ a _ Y x (nI k))) (cwV 2 hts gX1_filledIn_X1_cellsIn rfl rfl rfl (by decide +kernel) ⟨Nat.le_of_ble_eq_true rfl, Nat.le_of_ble_eq_true rfl⟩) ⟨ro_blind, va_recv hK hP (ci := 1) (q0 := 0) rfl rfl, ro_pre hP hK hN⟩ rfl rfl hl.1 rfl (lv_room (Nat.le_of_ble_eq_true rfl)) dX1_filledIn_19 ⟨Nat.zero_le _, Nat.zero_le _⟩) hS hA hP (fun H locs hP hS => ?_)
        refine lv_lor hx hb dX1_filledIn_22 ?_
        refine lv_lstore_n (lv' := [(2, .long ((y_fil Y x k) ||| (y_cel Y x (nI k)))), (0, .ref (a 6)), (1, .int x), (4, .int (nI k))]) hx hb dX1_filledIn_23 rfl hl (by decide) rfl (fun ls hl => ?_)
        refine lv_iinc (v := (nI (k + 1))) (lv' := [(4, .int (nI (k + 1))), (2, .long ((y_fil Y x k) ||| (y_cel Y x (nI k)))), (0, .ref (a 6)), (1, .int x)]) hx hb dX1_filledIn_24 hl (k := 3) rfl (nI_1 _) (by decide) rfl (fun ls hl => ?_)
        refine lv_goto (tgt := 5) hx hb dX1_filledIn_27 (by decide) ?_
        exact ih_5 (k + 1) (hlt) (by omega) _ _ hP hS _ (lv_sub hl [2, 3, 1, 0] rfl)
  exact cut_5 (y_n Y + 1) 0 (Nat.zero_le _) (by omega) _ _ hP hS _ (lv_sub hl [2, 3, 1, 0] rfl)

theorem in_X1_vehicleOn_1 : ∀ w ∈ wsX10, w ∈ wsX1_vehicleOn := by decide +kernel
set_option maxHeartbeats 4000000 in
set_option maxRecDepth 100000 in
/-- Yard.vehicleOn -/
theorem c_X1_vehicleOn (l : Launch) (G : va_G) (cI cZ cJ : ClassId) (a : Nat → Nat) (sz : Nat) (Y : YS) (x : Int32) (w : Int64) (hn : y_n Y ≤ 9) : Met l yX1_vehicleOn wsX1_vehicleOn ({ frames := 2, cells := 0, slots := 0, locals := 44 }) (ro_Pc G [(cI, .int), (cZ, .boolean), (cJ, .long)] (wY cI cZ cJ a Y) sz [.ref (a 6), .int x, .long w]) (ro_Qi (y_on Y x w (y_n Y) 0) sz) 0 0 (ro_A sz) := by
  refine Met.ofW (cc := cX1_vehicleOn) (maxL := 5) (ret := (some .int)) (by decide) rfl ?_
  intro p e s m args below meth c s₁ B hml hv
  obtain ⟨rfl, hsz, hP, hK, hN⟩ := hv
  have hx := B.exec
  have hb := B.bytes
  have hr := B.returns
  have hts := atoms_spec (ws := wsX1_vehicleOn) B.pre
  have hown : s.vm.findClass RX1 = some m.cls := findClass_of_methodNamed B.named
  have hlocks := B.notSynchronized
  subst hsz
  have hA : ∀ q : Nat, s.heap.size ≤ q → (ro_A s.heap.size) q := fun _ h => h
  have hS : va_S (ro_A s.heap.size) s.heap s.heap [] := va_S.rf
  have hP : va_P G vwCl [((a 6), .inr (1, [.ref (a 7), .ref (a 8), .ref (a 9), .ref (a 10), .int (nI (y_n Y)), .long (y_rp Y)])), ((a 7), .inl (cI, 9, .inl (y_sz Y))), ((a 8), .inl (cZ, 9, .inl (y_ac Y))), ((a 9), .inl (cI, 9, .inl (y_li Y))), ((a 10), .inl (cJ, 9, .inr (.inl (y_sh Y))))] s.heap := hP
  have hl := lv_entry ([.ref (a 6), .int x, .long w]) (n := 5) (Nat.le_of_ble_eq_true rfl)
  rw [lg_entry_eq]
  generalize (lg_sl ([.ref (a 6), .int x, .long w]) ++ List.replicate (5 - (lg_sl ([.ref (a 6), .int x, .long w])).length) Slot.unset).toArray = ls at hl ⊢
  have hl : lv_has ls 5 [(0, .ref (a 6)), (1, .int x), (2, .long w)] := hl
  refine lv_iconst (v := 0) hx hb dX1_vehicleOn_0 (by decide) ?_
  refine lv_istore (lv' := [(4, .int 0), (0, .ref (a 6)), (1, .int x), (2, .long w)]) hx hb dX1_vehicleOn_1 hl (by decide) rfl (fun ls hl => ?_)
  have cut_3 : ∀ (d : Nat) (k : Nat), k ≤ y_n Y → y_n Y + 1 ≤ k + d → (y_on Y x w (y_n Y - k) k = y_on Y x w (y_n Y) 0) → ∀ (H : Heap) (locs : List Loc), va_P G vwCl [((a 6), .inr (1, [.ref (a 7), .ref (a 8), .ref (a 9), .ref (a 10), .int (nI (y_n Y)), .long (y_rp Y)])), ((a 7), .inl (cI, 9, .inl (y_sz Y))), ((a 8), .inl (cZ, 9, .inl (y_ac Y))), ((a 9), .inl (cI, 9, .inl (y_li Y))), ((a 10), .inl (cJ, 9, .inr (.inl (y_sh Y))))] H → va_S (ro_A s.heap.size) s.heap H locs → ∀ (ls : Array Slot), lv_has ls 5 [(0, .ref (a 6)), (1, .int x), (2, .long w), (4, .int (nI k))] → W p l e (headSpec wsX1_vehicleOn ({ frames := 2, cells := 0, slots := 0, locals := 44 })).room s m ([.ref (a 6), .int x, .long w] : List Value).toArray below meth c H locs 0 0 (MQ below (ro_Qi (y_on Y x w (y_n Y) 0) s.heap.size) ([.ref (a 6), .int x, .long w] : List Value).toArray s 0 0 (ro_A s.heap.size)) (F0 m 3 ls []) := by
    intro d
    induction d with
    | zero =>
      intro k hk_3 hd_3
      exact absurd hd_3 (by omega)
    | succ d ih_3 =>
      intro k hk_3 hd_3 hI H locs hP hS ls hl
      refine lv_iload hx hb dX1_vehicleOn_3 (lv_at hl 3 rfl) ?_
      refine lv_aload_n hx hb dX1_vehicleOn_5 rfl (lv_at hl 0 rfl) ?_
      refine va_get (D := G) (ci := 1) (v := .int (nI (y_n Y))) (C := RX1) (T := TX1) (N := 6) hx hb hts in_X1_vehicleOn_1 hown hK hP 0 rfl rfl 4 (by decide) (hts (.fieldLink RX1 26 "RampJam$Yard" "vehicleCount" "I") (by decide +kernel)) (fun _ h9 => h9) rfl dX1_vehicleOn_6 ?_
      refine lv_icmp_ge (tgt := 35) hx hb dX1_vehicleOn_9 (by decide) (fun c_1 => ?_) (fun c_1 => ?_)
      · have hkn : k = y_n Y := Nat.le_antisymm hk_3 (nx_ge (by omega) (by omega) c_1)
        refine lv_iconst (v := (-1)) hx hb dX1_vehicleOn_35 (by decide) ?_
        exact W.iret (v := (-1)) hx hb hr (fun t ht hW => ⟨⟨(-1), (), rfl, by rw [← hI, hkn, Nat.sub_self]; rfl, trivial⟩, hS.F ht⟩) hS.2.2 dX1_vehicleOn_36
      · have hlt : k < y_n Y := nx_lt (by omega) (by omega) c_1
        refine lv_aload_n hx hb dX1_vehicleOn_12 rfl (lv_at hl 0 rfl) ?_
        refine lv_iload_n hx hb dX1_vehicleOn_13 rfl (lv_at hl 1 rfl) ?_
        refine lv_iload hx hb dX1_vehicleOn_14 (lv_at hl 3 rfl) ?_
        refine ro_l (va_runV (As := [.int x, .int (nI k)]) (rest := []) ⟨hx, hb, hml, hown, hts⟩ ((c_X1_cellsIn l G cI cZ cJ a _ Y x (nI k))) (cwV 2 hts gX1_vehicleOn_X1_cellsIn rfl rfl rfl (by decide +kernel) ⟨Nat.le_of_ble_eq_true rfl, Nat.le_of_ble_eq_true rfl⟩) ⟨ro_blind, va_recv hK hP (ci := 1) (q0 := 0) rfl rfl, ro_pre hP hK hN⟩ rfl rfl hl.1 rfl (lv_room (Nat.le_of_ble_eq_true rfl)) dX1_vehicleOn_16 ⟨Nat.zero_le _, Nat.zero_le _⟩) hS hA hP (fun H locs hP hS => ?_)
        refine lv_lload_n hx hb dX1_vehicleOn_19 rfl (lv_at hl 2 rfl) ?_
        refine lv_land hx hb dX1_vehicleOn_20 ?_
        refine lv_lconst (v := 0) hx hb dX1_vehicleOn_21 (by decide) ?_
        refine W.lcmp hx hb dX1_vehicleOn_22 ?_
        refine lv_if_eq (tgt := 29) hx hb dX1_vehicleOn_23 (by decide) (fun c_2 => ?_) (fun c_2 => ?_)
        · have c_2 := lg_t c_2
          have hz := c_2
          refine lv_iinc (v := (nI (k + 1))) (lv' := [(4, .int (nI (k + 1))), (0, .ref (a 6)), (1, .int x), (2, .long w)]) hx hb dX1_vehicleOn_29 hl (k := 3) rfl (nI_1 _) (by decide) rfl (fun ls hl => ?_)
          refine lv_goto (tgt := 3) hx hb dX1_vehicleOn_32 (by decide) ?_
          exact ih_3 (k + 1) (hlt) (by omega) (by rw [← hI, y_on_in hlt, if_pos hz]) _ _ hP hS _ (lv_sub hl [1, 2, 3, 0] rfl)
        · have c_2 := lg_f c_2
          have hz := c_2
          refine lv_iload hx hb dX1_vehicleOn_26 (lv_at hl 3 rfl) ?_
          exact W.iret (v := (nI k)) hx hb hr (fun t ht hW => ⟨⟨(nI k), (), rfl, by rw [← hI, y_on_in hlt, if_neg hz], trivial⟩, hS.F ht⟩) hS.2.2 dX1_vehicleOn_28
  exact cut_3 (y_n Y + 1) 0 (Nat.zero_le _) (by omega) (rfl) _ _ hP hS _ (lv_sub hl [1, 2, 3, 0] rfl)

theorem in_X1_wayIn_1 : ∀ w ∈ wsX10, w ∈ wsX1_wayIn := by decide +kernel
set_option maxHeartbeats 4000000 in
set_option maxRecDepth 100000 in
/-- Yard.wayIn -/
theorem c_X1_wayIn (l : Launch) (G : va_G) (cI cZ cJ : ClassId) (a : Nat → Nat) (sz : Nat) (Y : YS) (x : Int32) (w : Int64) (v : Int32) (dir : Int32)  : Met l yX1_wayIn wsX1_wayIn ({ frames := 2, cells := 0, slots := 0, locals := 44 }) (ro_Pc G [(cI, .int), (cZ, .boolean), (cJ, .long)] (wY cI cZ cJ a Y) sz [.ref (a 6), .int x, .long w, .int v, .int dir]) (ro_Qi (y_way Y x w v dir) sz) 0 0 (ro_A sz) := by
  refine Met.ofW (cc := cX1_wayIn) (maxL := 14) (ret := (some .int)) (by decide) rfl ?_
  intro p e s m args below meth c s₁ B hml hv
  obtain ⟨rfl, hsz, hP, hK, hN⟩ := hv
  have hx := B.exec
  have hb := B.bytes
  have hr := B.returns
  have hts := atoms_spec (ws := wsX1_wayIn) B.pre
  have hown : s.vm.findClass RX1 = some m.cls := findClass_of_methodNamed B.named
  have hlocks := B.notSynchronized
  subst hsz
  have hA : ∀ q : Nat, s.heap.size ≤ q → (ro_A s.heap.size) q := fun _ h => h
  have hS : va_S (ro_A s.heap.size) s.heap s.heap [] := va_S.rf
  have hP : va_P G vwCl [((a 6), .inr (1, [.ref (a 7), .ref (a 8), .ref (a 9), .ref (a 10), .int (nI (y_n Y)), .long (y_rp Y)])), ((a 7), .inl (cI, 9, .inl (y_sz Y))), ((a 8), .inl (cZ, 9, .inl (y_ac Y))), ((a 9), .inl (cI, 9, .inl (y_li Y))), ((a 10), .inl (cJ, 9, .inr (.inl (y_sh Y))))] s.heap := hP
  have hl := lv_entry ([.ref (a 6), .int x, .long w, .int v, .int dir]) (n := 14) (Nat.le_of_ble_eq_true rfl)
  rw [lg_entry_eq]
  generalize (lg_sl ([.ref (a 6), .int x, .long w, .int v, .int dir]) ++ List.replicate (14 - (lg_sl ([.ref (a 6), .int x, .long w, .int v, .int dir])).length) Slot.unset).toArray = ls at hl ⊢
  have hl : lv_has ls 14 [(0, .ref (a 6)), (1, .int x), (2, .long w), (4, .int v), (5, .int dir)] := hl
  refine lv_aload_n hx hb dX1_wayIn_0 rfl (lv_at hl 0 rfl) ?_
  refine lv_iload hx hb dX1_wayIn_1 (lv_at hl 3 rfl) ?_
  refine ro_i (va_runV (As := [.int v]) (rest := []) ⟨hx, hb, hml, hown, hts⟩ ((c_X1_has l G cI cZ cJ a _ Y v)) (cwV 1 hts gX1_wayIn_X1_has rfl rfl rfl (by decide +kernel) ⟨Nat.le_of_ble_eq_true rfl, Nat.le_of_ble_eq_true rfl⟩) ⟨ro_blind, va_recv hK hP (ci := 1) (q0 := 0) rfl rfl, ro_pre hP hK hN⟩ rfl rfl hl.1 rfl (lv_room (Nat.le_of_ble_eq_true rfl)) dX1_wayIn_3 ⟨Nat.zero_le _, Nat.zero_le _⟩) hS hA hP (fun H locs hP hS => ?_)
  refine lv_if_ne (tgt := 11) hx hb dX1_wayIn_6 (by decide) (fun c_1 => ?_) (fun c_1 => ?_)
  · have c_1 := b1_t c_1
    refine lv_iload_n hx hb dX1_wayIn_11 rfl (lv_at hl 1 rfl) ?_
    refine lv_iload hx hb dX1_wayIn_12 (lv_at hl 3 rfl) ?_
    refine ro_i (va_runSN (As := [.int x, .int v]) (rest := []) ⟨hx, hb, hml, hown, hts⟩ ((c_X2_placeIn l G cI cZ cJ a _ x v)) ⟨va_cnB 2 hts gX1_wayIn_X2_placeIn_n42 rfl rfl rfl (nx_get hN (k := 1) rfl) (hts (.initialized RX2) (by decide +kernel)) (by decide +kernel) ⟨Nat.le_of_ble_eq_true rfl, Nat.le_of_ble_eq_true rfl⟩, hts (.static yX2_placeIn) (by decide +kernel), trivial⟩ ⟨ro_blind, ro_pre va_P0 hK hN⟩ rfl rfl hl.1 rfl (lv_room (Nat.le_of_ble_eq_true rfl)) dX1_wayIn_14 ⟨Nat.zero_le _, Nat.zero_le _⟩) hS hA hP (fun H locs hP hS => ?_)
    refine lv_istore (lv' := [(6, .int (pl x v)), (0, .ref (a 6)), (1, .int x), (2, .long w), (4, .int v), (5, .int dir)]) hx hb dX1_wayIn_17 hl (by decide) rfl (fun ls hl => ?_)
    have cut_43 : ∀ (tb_g : Int32), (tb_g = y_tb Y x v dir) → ∀ (H : Heap) (locs : List Loc), va_P G vwCl [((a 6), .inr (1, [.ref (a 7), .ref (a 8), .ref (a 9), .ref (a 10), .int (nI (y_n Y)), .long (y_rp Y)])), ((a 7), .inl (cI, 9, .inl (y_sz Y))), ((a 8), .inl (cZ, 9, .inl (y_ac Y))), ((a 9), .inl (cI, 9, .inl (y_li Y))), ((a 10), .inl (cJ, 9, .inr (.inl (y_sh Y))))] H → va_S (ro_A s.heap.size) s.heap H locs → ∀ (ls : Array Slot), lv_has ls 14 [(6, .int (pl x v)), (0, .ref (a 6)), (1, .int x), (2, .long w), (4, .int v), (5, .int dir)] → W p l e (headSpec wsX1_wayIn ({ frames := 2, cells := 0, slots := 0, locals := 44 })).room s m ([.ref (a 6), .int x, .long w, .int v, .int dir] : List Value).toArray below meth c H locs 0 0 (MQ below (ro_Qi (y_way Y x w v dir) s.heap.size) ([.ref (a 6), .int x, .long w, .int v, .int dir] : List Value).toArray s 0 0 (ro_A s.heap.size)) (F0 m 43 ls [.int tb_g]) := by
      intro tb_g etb H locs hP hS ls hl
      subst etb
      try have hl : lv_has ls 14 [(6, .int (pl x v)), (0, .ref (a 6)), (1, .int x), (2, .long w), (4, .int v), (5, .int dir)] := hl
      refine lv_istore (lv' := [(7, .int (y_tb Y x v dir)), (6, .int (pl x v)), (0, .ref (a 6)), (1, .int x), (2, .long w), (4, .int v), (5, .int dir)]) hx hb dX1_wayIn_43 hl (by decide) rfl (fun ls hl => ?_)
      have cut_61 : ∀ (sd_g : Int32), (sd_g = y_str Y v) → ∀ (H : Heap) (locs : List Loc), va_P G vwCl [((a 6), .inr (1, [.ref (a 7), .ref (a 8), .ref (a 9), .ref (a 10), .int (nI (y_n Y)), .long (y_rp Y)])), ((a 7), .inl (cI, 9, .inl (y_sz Y))), ((a 8), .inl (cZ, 9, .inl (y_ac Y))), ((a 9), .inl (cI, 9, .inl (y_li Y))), ((a 10), .inl (cJ, 9, .inr (.inl (y_sh Y))))] H → va_S (ro_A s.heap.size) s.heap H locs → ∀ (ls : Array Slot), lv_has ls 14 [(7, .int (y_tb Y x v dir)), (6, .int (pl x v)), (0, .ref (a 6)), (1, .int x), (2, .long w), (4, .int v), (5, .int dir)] → W p l e (headSpec wsX1_wayIn ({ frames := 2, cells := 0, slots := 0, locals := 44 })).room s m ([.ref (a 6), .int x, .long w, .int v, .int dir] : List Value).toArray below meth c H locs 0 0 (MQ below (ro_Qi (y_way Y x w v dir) s.heap.size) ([.ref (a 6), .int x, .long w, .int v, .int dir] : List Value).toArray s 0 0 (ro_A s.heap.size)) (F0 m 61 ls [.int sd_g]) := by
        intro sd_g esd H locs hP hS ls hl
        subst esd
        try have hl : lv_has ls 14 [(7, .int (y_tb Y x v dir)), (6, .int (pl x v)), (0, .ref (a 6)), (1, .int x), (2, .long w), (4, .int v), (5, .int dir)] := hl
        refine lv_istore (lv' := [(8, .int (y_str Y v)), (7, .int (y_tb Y x v dir)), (6, .int (pl x v)), (0, .ref (a 6)), (1, .int x), (2, .long w), (4, .int v), (5, .int dir)]) hx hb dX1_wayIn_61 hl (by decide) rfl (fun ls hl => ?_)
        refine lv_aload_n hx hb dX1_wayIn_63 rfl (lv_at hl 3 rfl) ?_
        refine lv_iload_n hx hb dX1_wayIn_64 rfl (lv_at hl 4 rfl) ?_
        refine lv_iload hx hb dX1_wayIn_65 (lv_at hl 6 rfl) ?_
        refine ro_l (va_runV (As := [.int x, .int v]) (rest := []) ⟨hx, hb, hml, hown, hts⟩ ((c_X1_cellsIn l G cI cZ cJ a _ Y x v)) (cwV 2 hts gX1_wayIn_X1_cellsIn rfl rfl rfl (by decide +kernel) ⟨Nat.le_of_ble_eq_true rfl, Nat.le_of_ble_eq_true rfl⟩) ⟨ro_blind, va_recv hK hP (ci := 1) (q0 := 0) rfl rfl, ro_pre hP hK hN⟩ rfl rfl hl.1 rfl (lv_room (Nat.le_of_ble_eq_true rfl)) dX1_wayIn_67 ⟨Nat.zero_le _, Nat.zero_le _⟩) hS hA hP (fun H locs hP hS => ?_)
        refine lv_lstore (lv' := [(9, .long (y_cel Y x v)), (8, .int (y_str Y v)), (7, .int (y_tb Y x v dir)), (6, .int (pl x v)), (0, .ref (a 6)), (1, .int x), (2, .long w), (4, .int v), (5, .int dir)]) hx hb dX1_wayIn_70 hl (by decide) rfl (fun ls hl => ?_)
        refine lv_lload_n hx hb dX1_wayIn_72 rfl (lv_at hl 6 rfl) ?_
        refine lv_lload hx hb dX1_wayIn_73 (lv_at hl 0 rfl) ?_
        refine lv_ldc2 (own := RX1) (index := 50) (v := (-1)) hx hb hown (hts (.constantLong RX1 50 (-1)) (by decide +kernel)) dX1_wayIn_75 ?_
        refine lv_lxor hx hb dX1_wayIn_78 ?_
        refine lv_land hx hb dX1_wayIn_79 ?_
        refine lv_aload_n hx hb dX1_wayIn_80 rfl (lv_at hl 4 rfl) ?_
        refine lv_aload_n hx hb dX1_wayIn_81 rfl (lv_at hl 4 rfl) ?_
        refine va_get (D := G) (ci := 1) (v := .ref (a 7)) (C := RX1) (T := TX1) (N := 6) hx hb hts in_X1_wayIn_1 hown hK hP 0 rfl rfl 0 (by decide) (hts (.fieldLink RX1 9 "RampJam$Yard" "sizes" "[I") (by decide +kernel)) (fun _ h9 => h9) rfl dX1_wayIn_82 ?_
        refine lv_iload hx hb dX1_wayIn_85 (lv_at hl 7 rfl) ?_
        refine va_iald hx hb hK hP 1 0 rfl rfl (y_has_in (by assumption)) dX1_wayIn_87 ?_
        refine ro_l (va_runV (As := [.int ((y_sz Y) (v.toNatClampNeg))]) (rest := [.long (w &&& ((y_cel Y x v) ^^^ (-1)))]) ⟨hx, hb, hml, hown, hts⟩ ((c_X1_barredTo l G cI cZ cJ a _ Y ((y_sz Y) (v.toNatClampNeg)))) (cwV 1 hts gX1_wayIn_X1_barredTo rfl rfl rfl (by decide +kernel) ⟨Nat.le_of_ble_eq_true rfl, Nat.le_of_ble_eq_true rfl⟩) ⟨ro_blind, va_recv hK hP (ci := 1) (q0 := 0) rfl rfl, ro_pre hP hK hN⟩ rfl rfl hl.1 rfl (lv_room (Nat.le_of_ble_eq_true rfl)) dX1_wayIn_88 ⟨Nat.zero_le _, Nat.zero_le _⟩) hS hA hP (fun H locs hP hS => ?_)
        refine lv_lor hx hb dX1_wayIn_91 ?_
        refine lv_lstore (lv' := [(11, .long ((w &&& ((y_cel Y x v) ^^^ (-1))) ||| (y_bar Y ((y_sz Y) (v.toNatClampNeg))))), (9, .long (y_cel Y x v)), (8, .int (y_str Y v)), (7, .int (y_tb Y x v dir)), (6, .int (pl x v)), (0, .ref (a 6)), (1, .int x), (2, .long w), (4, .int v), (5, .int dir)]) hx hb dX1_wayIn_92 hl (by decide) rfl (fun ls hl => ?_)
        refine lv_iconst (v := 0) hx hb dX1_wayIn_94 (by decide) ?_
        refine lv_istore (lv' := [(13, .int 0), (11, .long ((w &&& ((y_cel Y x v) ^^^ (-1))) ||| (y_bar Y ((y_sz Y) (v.toNatClampNeg))))), (9, .long (y_cel Y x v)), (8, .int (y_str Y v)), (7, .int (y_tb Y x v dir)), (6, .int (pl x v)), (0, .ref (a 6)), (1, .int x), (2, .long w), (4, .int v), (5, .int dir)]) hx hb dX1_wayIn_95 hl (by decide) rfl (fun ls hl => ?_)
        have cut_97 : ∀ (d : Nat) (k : Nat) (z_g : Int64), k ≤ (y_tb Y x v dir).toNatClampNeg → (y_tb Y x v dir).toNatClampNeg + 1 ≤ k + d → (y_wl (y_brd Y x w v) dir (y_str Y v) (y_tb Y x v dir) ((y_tb Y x v dir).toNatClampNeg - k) k z_g = y_wl (y_brd Y x w v) dir (y_str Y v) (y_tb Y x v dir) (y_tb Y x v dir).toNatClampNeg 0 (y_cel Y x v)) → ∀ (H : Heap) (locs : List Loc), va_P G vwCl [((a 6), .inr (1, [.ref (a 7), .ref (a 8), .ref (a 9), .ref (a 10), .int (nI (y_n Y)), .long (y_rp Y)])), ((a 7), .inl (cI, 9, .inl (y_sz Y))), ((a 8), .inl (cZ, 9, .inl (y_ac Y))), ((a 9), .inl (cI, 9, .inl (y_li Y))), ((a 10), .inl (cJ, 9, .inr (.inl (y_sh Y))))] H → va_S (ro_A s.heap.size) s.heap H locs → ∀ (ls : Array Slot), lv_has ls 14 [(0, .ref (a 6)), (1, .int x), (2, .long w), (4, .int v), (5, .int dir), (7, .int (y_tb Y x v dir)), (8, .int (y_str Y v)), (9, .long z_g), (11, .long (y_brd Y x w v)), (13, .int (nI k))] → W p l e (headSpec wsX1_wayIn ({ frames := 2, cells := 0, slots := 0, locals := 44 })).room s m ([.ref (a 6), .int x, .long w, .int v, .int dir] : List Value).toArray below meth c H locs 0 0 (MQ below (ro_Qi (y_way Y x w v dir) s.heap.size) ([.ref (a 6), .int x, .long w, .int v, .int dir] : List Value).toArray s 0 0 (ro_A s.heap.size)) (F0 m 97 ls []) := by
          intro d
          induction d with
          | zero =>
            intro k z_g hk_97 hd_97
            exact absurd hd_97 (by omega)
          | succ d ih_97 =>
            intro k z_g hk_97 hd_97 hI H locs hP hS ls hl
            refine lv_iload hx hb dX1_wayIn_97 (lv_at hl 9 rfl) ?_
            refine lv_iload hx hb dX1_wayIn_99 (lv_at hl 5 rfl) ?_
            refine lv_icmp_ge (tgt := 144) hx hb dX1_wayIn_101 (by decide) (fun c_2 => ?_) (fun c_2 => ?_)
            · have hout := c_2
              refine lv_iload hx hb dX1_wayIn_144 (lv_at hl 5 rfl) ?_
              exact W.iret (v := (y_tb Y x v dir)) hx hb hr (fun t ht hW => ⟨⟨(y_tb Y x v dir), (), rfl, by rw [y_way, if_pos c_1, ← hI, y_wl_out hout (by have := cl_bound (y_tb Y x v dir); omega)], trivial⟩, hS.F ht⟩) hS.2.2 dX1_wayIn_146
            · have hlt : k < (y_tb Y x v dir).toNatClampNeg := cl_lt (by have := cl_bound (y_tb Y x v dir); omega) c_2
              have cut_123 : ∀ (z2_g : Int64), (z2_g = y_shf dir (y_str Y v) z_g) → ∀ (H : Heap) (locs : List Loc), va_P G vwCl [((a 6), .inr (1, [.ref (a 7), .ref (a 8), .ref (a 9), .ref (a 10), .int (nI (y_n Y)), .long (y_rp Y)])), ((a 7), .inl (cI, 9, .inl (y_sz Y))), ((a 8), .inl (cZ, 9, .inl (y_ac Y))), ((a 9), .inl (cI, 9, .inl (y_li Y))), ((a 10), .inl (cJ, 9, .inr (.inl (y_sh Y))))] H → va_S (ro_A s.heap.size) s.heap H locs → ∀ (ls : Array Slot), lv_has ls 14 [(0, .ref (a 6)), (1, .int x), (2, .long w), (4, .int v), (5, .int dir), (7, .int (y_tb Y x v dir)), (8, .int (y_str Y v)), (9, .long z_g), (11, .long (y_brd Y x w v)), (13, .int (nI k))] → W p l e (headSpec wsX1_wayIn ({ frames := 2, cells := 0, slots := 0, locals := 44 })).room s m ([.ref (a 6), .int x, .long w, .int v, .int dir] : List Value).toArray below meth c H locs 0 0 (MQ below (ro_Qi (y_way Y x w v dir) s.heap.size) ([.ref (a 6), .int x, .long w, .int v, .int dir] : List Value).toArray s 0 0 (ro_A s.heap.size)) (F0 m 123 ls [.long z2_g]) := by
                intro z2_g ez H locs hP hS ls hl
                refine lv_lstore (lv' := [(9, .long z2_g), (0, .ref (a 6)), (1, .int x), (2, .long w), (4, .int v), (5, .int dir), (7, .int (y_tb Y x v dir)), (8, .int (y_str Y v)), (11, .long (y_brd Y x w v)), (13, .int (nI k))]) hx hb dX1_wayIn_123 hl (by decide) rfl (fun ls hl => ?_)
                refine lv_lload hx hb dX1_wayIn_125 (lv_at hl 0 rfl) ?_
                refine lv_lload hx hb dX1_wayIn_127 (lv_at hl 8 rfl) ?_
                refine lv_land hx hb dX1_wayIn_129 ?_
                refine lv_lconst (v := 0) hx hb dX1_wayIn_130 (by decide) ?_
                refine W.lcmp hx hb dX1_wayIn_131 ?_
                refine lv_if_eq (tgt := 138) hx hb dX1_wayIn_132 (by decide) (fun c_3 => ?_) (fun c_3 => ?_)
                · have c_3 := lg_t c_3
                  have hz := c_3
                  refine lv_iinc (v := (nI (k + 1))) (lv' := [(13, .int (nI (k + 1))), (9, .long z2_g), (0, .ref (a 6)), (1, .int x), (2, .long w), (4, .int v), (5, .int dir), (7, .int (y_tb Y x v dir)), (8, .int (y_str Y v)), (11, .long (y_brd Y x w v))]) hx hb dX1_wayIn_138 hl (k := 9) rfl (nI_1 _) (by decide) rfl (fun ls hl => ?_)
                  refine lv_goto (tgt := 97) hx hb dX1_wayIn_141 (by decide) ?_
                  exact ih_97 (k + 1) z2_g (hlt) (by omega) (by rw [← hI, y_wl_in hlt, ← ez, if_pos hz]) _ _ hP hS _ (lv_sub hl [2, 3, 4, 5, 6, 7, 8, 1, 9, 0] rfl)
                · have c_3 := lg_f c_3
                  have hz := c_3
                  refine lv_iload hx hb dX1_wayIn_135 (lv_at hl 9 rfl) ?_
                  exact W.iret (v := (nI k)) hx hb hr (fun t ht hW => ⟨⟨(nI k), (), rfl, by rw [y_way, if_pos c_1, ← hI, y_wl_in hlt, ← ez, if_neg hz], trivial⟩, hS.F ht⟩) hS.2.2 dX1_wayIn_137
              refine lv_iload hx hb dX1_wayIn_104 (lv_at hl 4 rfl) ?_
              refine lv_iconst (v := 1) hx hb dX1_wayIn_106 (by decide) ?_
              refine lv_icmp_ne (tgt := 118) hx hb dX1_wayIn_107 (by decide) (fun c_4 => ?_) (fun c_4 => ?_)
              · refine lv_lload hx hb dX1_wayIn_118 (lv_at hl 7 rfl) ?_
                refine lv_iload hx hb dX1_wayIn_120 (lv_at hl 6 rfl) ?_
                refine lv_lushr (v := ((z_g.toUInt64 >>> ((y_str Y v).toInt64.toUInt64 &&& Int64.toUInt64 63)).toInt64)) hx hb dX1_wayIn_122 rfl ?_
                exact cut_123 ((z_g.toUInt64 >>> ((y_str Y v).toInt64.toUInt64 &&& Int64.toUInt64 63)).toInt64) (by simp [y_shf, c_1, hI, c_2, c_4]) _ _ hP hS _ hl
              · refine lv_lload hx hb dX1_wayIn_110 (lv_at hl 7 rfl) ?_
                refine lv_iload hx hb dX1_wayIn_112 (lv_at hl 6 rfl) ?_
                refine lv_lshl (v := (z_g <<< ((y_str Y v).toInt64 &&& 63))) hx hb dX1_wayIn_114 rfl ?_
                refine lv_goto (tgt := 123) hx hb dX1_wayIn_115 (by decide) ?_
                exact cut_123 (z_g <<< ((y_str Y v).toInt64 &&& 63)) (by simp [y_shf, c_1, hI, c_2, c_4]) _ _ hP hS _ hl
        exact cut_97 ((y_tb Y x v dir).toNatClampNeg + 1) 0 (y_cel Y x v) (Nat.zero_le _) (by omega) (rfl) _ _ hP hS _ (lv_sub hl [6, 7, 8, 9, 10, 4, 3, 2, 1, 0] rfl)
      refine lv_aload_n hx hb dX1_wayIn_45 rfl (lv_at hl 2 rfl) ?_
      refine va_get (D := G) (ci := 1) (v := .ref (a 8)) (C := RX1) (T := TX1) (N := 6) hx hb hts in_X1_wayIn_1 hown hK hP 0 rfl rfl 1 (by decide) (hts (.fieldLink RX1 15 "RampJam$Yard" "acrosses" "[Z") (by decide +kernel)) (fun _ h9 => h9) rfl dX1_wayIn_46 ?_
      refine lv_iload hx hb dX1_wayIn_49 (lv_at hl 5 rfl) ?_
      refine va_zald hx hb hK hP 2 1 rfl rfl (y_has_in (by assumption)) dX1_wayIn_51 ?_
      refine lv_if_eq (tgt := 59) hx hb dX1_wayIn_52 (by decide) (fun c_5 => ?_) (fun c_5 => ?_)
      · refine lv_bipush (v := 6) hx hb dX1_wayIn_59 (by decide) ?_
        exact cut_61 6 (by simp [y_str, c_1, c_5]) _ _ hP hS _ hl
      · refine lv_iconst (v := 1) hx hb dX1_wayIn_55 (by decide) ?_
        refine lv_goto (tgt := 61) hx hb dX1_wayIn_56 (by decide) ?_
        exact cut_61 1 (by simp [y_str, c_1, c_5]) _ _ hP hS _ hl
    refine lv_iload hx hb dX1_wayIn_19 (lv_at hl 5 rfl) ?_
    refine lv_iconst (v := 1) hx hb dX1_wayIn_21 (by decide) ?_
    refine lv_icmp_ne (tgt := 41) hx hb dX1_wayIn_22 (by decide) (fun c_6 => ?_) (fun c_6 => ?_)
    · refine lv_iload hx hb dX1_wayIn_41 (lv_at hl 0 rfl) ?_
      exact cut_43 (pl x v) (by simp [y_tb, c_1, c_6]) _ _ hP hS _ hl
    · refine lv_bipush (v := 6) hx hb dX1_wayIn_25 (by decide) ?_
      refine lv_aload_n hx hb dX1_wayIn_27 rfl (lv_at hl 1 rfl) ?_
      refine va_get (D := G) (ci := 1) (v := .ref (a 7)) (C := RX1) (T := TX1) (N := 6) hx hb hts in_X1_wayIn_1 hown hK hP 0 rfl rfl 0 (by decide) (hts (.fieldLink RX1 9 "RampJam$Yard" "sizes" "[I") (by decide +kernel)) (fun _ h9 => h9) rfl dX1_wayIn_28 ?_
      refine lv_iload hx hb dX1_wayIn_31 (lv_at hl 4 rfl) ?_
      refine va_iald hx hb hK hP 1 0 rfl rfl (y_has_in (by assumption)) dX1_wayIn_33 ?_
      refine lv_isub hx hb dX1_wayIn_34 ?_
      refine lv_iload hx hb dX1_wayIn_35 (lv_at hl 0 rfl) ?_
      refine lv_isub hx hb dX1_wayIn_37 ?_
      refine lv_goto (tgt := 43) hx hb dX1_wayIn_38 (by decide) ?_
      exact cut_43 ((6 - ((y_sz Y) (v.toNatClampNeg))) - (pl x v)) (by simp [y_tb, c_1, c_6]) _ _ hP hS _ hl
  · have c_1 := b1_f c_1
    refine lv_iconst (v := 0) hx hb dX1_wayIn_9 (by decide) ?_
    exact W.iret (v := 0) hx hb hr (fun t ht hW => ⟨⟨0, (), rfl, by simp [y_way, c_1], trivial⟩, hS.F ht⟩) hS.2.2 dX1_wayIn_10

set_option maxHeartbeats 4000000 in
set_option maxRecDepth 100000 in
/-- cellsOf -/
theorem c_X2_cellsOf (l : Launch) (G : va_G) (cI cZ cJ : ClassId) (a : Nat → Nat) (sz : Nat) (sz0 : Int32) (ac : Int32) (r : Int32) (q : Int32)  : Met l yX2_cellsOf wsX2_cellsOf ({ frames := 1, cells := 0, slots := 0, locals := 21 }) (ro_Pc G [(cI, .int), (cZ, .boolean), (cJ, .long)] [] sz [.int sz0, .int ac, .int r, .int q]) (ro_Ql (cso ac r q (min sz0.toNatClampNeg 4)) sz) 0 0 (ro_A sz) := by
  refine Met.ofW (cc := cX2_cellsOf) (maxL := 7) (ret := (some .long)) (by decide) rfl ?_
  intro p e s m args below meth c s₁ B hml hv
  obtain ⟨rfl, hsz, hP, hK, hN⟩ := hv
  have hx := B.exec
  have hb := B.bytes
  have hr := B.returns
  have hts := atoms_spec (ws := wsX2_cellsOf) B.pre
  have hown : s.vm.findClass RX2 = some m.cls := findClass_of_methodNamed B.named
  have hlocks := B.notSynchronized
  subst hsz
  have hA : ∀ q : Nat, s.heap.size ≤ q → (ro_A s.heap.size) q := fun _ h => h
  have hS : va_S (ro_A s.heap.size) s.heap s.heap [] := va_S.rf
  have hP : va_P G vwCl [] s.heap := hP
  have hl := lv_entry ([.int sz0, .int ac, .int r, .int q]) (n := 7) (Nat.le_of_ble_eq_true rfl)
  rw [lg_entry_eq]
  generalize (lg_sl ([.int sz0, .int ac, .int r, .int q]) ++ List.replicate (7 - (lg_sl ([.int sz0, .int ac, .int r, .int q])).length) Slot.unset).toArray = ls at hl ⊢
  have hl : lv_has ls 7 [(0, .int sz0), (1, .int ac), (2, .int r), (3, .int q)] := hl
  refine lv_lconst (v := 0) hx hb dX2_cellsOf_0 (by decide) ?_
  refine lv_lstore (lv' := [(4, .long 0), (0, .int sz0), (1, .int ac), (2, .int r), (3, .int q)]) hx hb dX2_cellsOf_1 hl (by decide) rfl (fun ls hl => ?_)
  refine lv_iconst (v := 0) hx hb dX2_cellsOf_3 (by decide) ?_
  refine lv_istore (lv' := [(6, .int 0), (4, .long 0), (0, .int sz0), (1, .int ac), (2, .int r), (3, .int q)]) hx hb dX2_cellsOf_4 hl (by decide) rfl (fun ls hl => ?_)
  have cut_6 : ∀ (d : Nat) (k : Nat), k ≤ (min sz0.toNatClampNeg 4) → (min sz0.toNatClampNeg 4) + 1 ≤ k + d → ∀ (H : Heap) (locs : List Loc), va_P G vwCl [] H → va_S (ro_A s.heap.size) s.heap H locs → ∀ (ls : Array Slot), lv_has ls 7 [(0, .int sz0), (1, .int ac), (2, .int r), (3, .int q), (4, .long (cso ac r q k)), (6, .int (nI k))] → W p l e (headSpec wsX2_cellsOf ({ frames := 1, cells := 0, slots := 0, locals := 21 })).room s m ([.int sz0, .int ac, .int r, .int q] : List Value).toArray below meth c H locs 0 0 (MQ below (ro_Ql (cso ac r q (min sz0.toNatClampNeg 4)) s.heap.size) ([.int sz0, .int ac, .int r, .int q] : List Value).toArray s 0 0 (ro_A s.heap.size)) (F0 m 6 ls []) := by
    intro d
    induction d with
    | zero =>
      intro k hk_6 hd_6
      exact absurd hd_6 (by omega)
    | succ d ih_6 =>
      intro k hk_6 hd_6  H locs hP hS ls hl
      refine lv_iload hx hb dX2_cellsOf_6 (lv_at hl 5 rfl) ?_
      refine lv_iload_n hx hb dX2_cellsOf_8 rfl (lv_at hl 0 rfl) ?_
      refine lv_icmp_ge (tgt := 52) hx hb dX2_cellsOf_9 (by decide) (fun c_1 => ?_) (fun c_1 => ?_)
      · have hkn : k = min sz0.toNatClampNeg 4 := by have := cl_ge (by omega) c_1; omega
        refine lv_lload hx hb dX2_cellsOf_52 (lv_at hl 4 rfl) ?_
        exact W.lret (v := (cso ac r q k)) hx hb hr (fun t ht hW => ⟨⟨(cso ac r q k), (), rfl, by rw [hkn], trivial⟩, hS.F ht⟩) hS.2.2 dX2_cellsOf_54
      · have hl1 : k < sz0.toNatClampNeg := cl_lt (by omega) c_1
        refine lv_iload hx hb dX2_cellsOf_12 (lv_at hl 5 rfl) ?_
        refine lv_iconst (v := 4) hx hb dX2_cellsOf_14 (by decide) ?_
        refine lv_icmp_ge (tgt := 52) hx hb dX2_cellsOf_15 (by decide) (fun c_2 => ?_) (fun c_2 => ?_)
        · have hkn : k = min sz0.toNatClampNeg 4 := by have := nx_ge (n := 4) (by omega) (by omega) c_2; omega
          refine lv_lload hx hb dX2_cellsOf_52 (lv_at hl 4 rfl) ?_
          exact W.lret (v := (cso ac r q k)) hx hb hr (fun t ht hW => ⟨⟨(cso ac r q k), (), rfl, by rw [hkn], trivial⟩, hS.F ht⟩) hS.2.2 dX2_cellsOf_54
        · have hlt : k < min sz0.toNatClampNeg 4 := by have := nx_lt (n := 4) (by omega) (by omega) c_2; omega
          refine lv_lload hx hb dX2_cellsOf_18 (lv_at hl 4 rfl) ?_
          have cut_43 : ∀ (z_g : Int64), (z_g = if ac = 0 then co (r + nI k) q else co r (q + nI k)) → ∀ (H : Heap) (locs : List Loc), va_P G vwCl [] H → va_S (ro_A s.heap.size) s.heap H locs → ∀ (ls : Array Slot), lv_has ls 7 [(0, .int sz0), (1, .int ac), (2, .int r), (3, .int q), (4, .long (cso ac r q k)), (6, .int (nI k))] → W p l e (headSpec wsX2_cellsOf ({ frames := 1, cells := 0, slots := 0, locals := 21 })).room s m ([.int sz0, .int ac, .int r, .int q] : List Value).toArray below meth c H locs 0 0 (MQ below (ro_Ql (cso ac r q (min sz0.toNatClampNeg 4)) s.heap.size) ([.int sz0, .int ac, .int r, .int q] : List Value).toArray s 0 0 (ro_A s.heap.size)) (F0 m 43 ls [.long z_g, .long (cso ac r q k)]) := by
            intro z_g ez H locs hP hS ls hl
            subst ez
            try have hl : lv_has ls 7 [(0, .int sz0), (1, .int ac), (2, .int r), (3, .int q), (4, .long (cso ac r q k)), (6, .int (nI k))] := hl
            refine lv_lor hx hb dX2_cellsOf_43 ?_
            refine lv_lstore (lv' := [(4, .long ((cso ac r q k) ||| (if ac = 0 then co (r + nI k) q else co r (q + nI k)))), (0, .int sz0), (1, .int ac), (2, .int r), (3, .int q), (6, .int (nI k))]) hx hb dX2_cellsOf_44 hl (by decide) rfl (fun ls hl => ?_)
            refine lv_iinc (v := (nI (k + 1))) (lv' := [(6, .int (nI (k + 1))), (4, .long ((cso ac r q k) ||| (if ac = 0 then co (r + nI k) q else co r (q + nI k)))), (0, .int sz0), (1, .int ac), (2, .int r), (3, .int q)]) hx hb dX2_cellsOf_46 hl (k := 5) rfl (nI_1 _) (by decide) rfl (fun ls hl => ?_)
            refine lv_goto (tgt := 6) hx hb dX2_cellsOf_49 (by decide) ?_
            exact ih_6 (k + 1) (hlt) (by omega) _ _ hP hS _ (lv_sub hl [2, 3, 4, 5, 1, 0] rfl)
          refine lv_iload_n hx hb dX2_cellsOf_20 rfl (lv_at hl 1 rfl) ?_
          refine lv_if_eq (tgt := 35) hx hb dX2_cellsOf_21 (by decide) (fun c_3 => ?_) (fun c_3 => ?_)
          · refine lv_iload_n hx hb dX2_cellsOf_35 rfl (lv_at hl 2 rfl) ?_
            refine lv_iload hx hb dX2_cellsOf_36 (lv_at hl 5 rfl) ?_
            refine lv_iadd hx hb dX2_cellsOf_38 ?_
            refine lv_iload_n hx hb dX2_cellsOf_39 rfl (lv_at hl 3 rfl) ?_
            refine ro_l (va_runS (As := [.int (r + (nI k)), .int q]) (rest := [.long (cso ac r q k)]) ⟨hx, hb, hml, hown, hts⟩ ((c_X2_cellOf l G cI cZ cJ a _ (r + (nI k)) q)) (va_cwS 2 hts gX2_cellsOf_X2_cellOf rfl rfl rfl (by decide +kernel) ⟨Nat.le_of_ble_eq_true rfl, Nat.le_of_ble_eq_true rfl⟩) ⟨ro_blind, ro_pre va_P0 hK hN⟩ rfl rfl hl.1 rfl (lv_room (Nat.le_of_ble_eq_true rfl)) dX2_cellsOf_40 ⟨Nat.zero_le _, Nat.zero_le _⟩) hS hA hP (fun H locs hP hS => ?_)
            exact cut_43 (co (r + (nI k)) q) (by simp [c_1, c_2, c_3]) _ _ hP hS _ hl
          · refine lv_iload_n hx hb dX2_cellsOf_24 rfl (lv_at hl 2 rfl) ?_
            refine lv_iload_n hx hb dX2_cellsOf_25 rfl (lv_at hl 3 rfl) ?_
            refine lv_iload hx hb dX2_cellsOf_26 (lv_at hl 5 rfl) ?_
            refine lv_iadd hx hb dX2_cellsOf_28 ?_
            refine ro_l (va_runS (As := [.int r, .int (q + (nI k))]) (rest := [.long (cso ac r q k)]) ⟨hx, hb, hml, hown, hts⟩ ((c_X2_cellOf l G cI cZ cJ a _ r (q + (nI k)))) (va_cwS 2 hts gX2_cellsOf_X2_cellOf rfl rfl rfl (by decide +kernel) ⟨Nat.le_of_ble_eq_true rfl, Nat.le_of_ble_eq_true rfl⟩) ⟨ro_blind, ro_pre va_P0 hK hN⟩ rfl rfl hl.1 rfl (lv_room (Nat.le_of_ble_eq_true rfl)) dX2_cellsOf_29 ⟨Nat.zero_le _, Nat.zero_le _⟩) hS hA hP (fun H locs hP hS => ?_)
            refine lv_goto (tgt := 43) hx hb dX2_cellsOf_32 (by decide) ?_
            exact cut_43 (co r (q + (nI k))) (by simp [c_1, c_2, c_3]) _ _ hP hS _ hl
  exact cut_6 ((min sz0.toNatClampNeg 4) + 1) 0 (Nat.zero_le _) (by omega) _ _ hP hS _ (lv_sub hl [2, 3, 4, 5, 1, 0] rfl)
