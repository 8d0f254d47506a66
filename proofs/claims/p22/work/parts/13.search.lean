set_option maxHeartbeats 4000000 in
set_option maxRecDepth 100000 in
/-- cX0_codeOfMove -/
theorem c_X0_codeOfMove (l : Launch) (G : va_G) (cI cZ cJ : ClassId) (a : Nat → Nat) (sz : Nat) (x0 : Int32) (x1 : Int32)  : Met l yX0_codeOfMove wsX0_codeOfMove ({ frames := 0, cells := 0, slots := 0, locals := 0 }) (ro_Pc G [(cI, .int), (cZ, .boolean), (cJ, .long)] [] sz [.int x0, .int x1]) (ro_Qi (m_code x0 x1) sz) 0 0 (ro_A sz) := by
  refine Met.ofW (cc := cX0_codeOfMove) (maxL := 2) (ret := (some .int)) (by decide) rfl ?_
  intro p e s m args below meth c s₁ B hml hv
  obtain ⟨rfl, hsz, hP, hK, hN⟩ := hv
  have hx := B.exec
  have hb := B.bytes
  have hr := B.returns
  have hts := atoms_spec (ws := wsX0_codeOfMove) B.pre
  have hown : s.vm.findClass RX0 = some m.cls := findClass_of_methodNamed B.named
  have hlocks := B.notSynchronized
  subst hsz
  have hA : ∀ q : Nat, s.heap.size ≤ q → (ro_A s.heap.size) q := fun _ h => h
  have hS : va_S (ro_A s.heap.size) s.heap s.heap [] := va_S.rf
  have hP : va_P G vwCl [] s.heap := hP
  have hl := lv_entry ([.int x0, .int x1]) (n := 2) (Nat.le_of_ble_eq_true rfl)
  rw [lg_entry_eq]
  generalize (lg_sl ([.int x0, .int x1]) ++ List.replicate (2 - (lg_sl ([.int x0, .int x1])).length) Slot.unset).toArray = ls at hl ⊢
  have hl : lv_has ls 2 [(0, .int x0), (1, .int x1)] := hl
  refine lv_bipush (v := 10) hx hb dX0_codeOfMove_0 (by decide) ?_
  refine lv_iload_n hx hb dX0_codeOfMove_2 rfl (lv_at hl 0 rfl) ?_
  refine lv_imul hx hb dX0_codeOfMove_3 ?_
  refine lv_iload_n hx hb dX0_codeOfMove_4 rfl (lv_at hl 1 rfl) ?_
  refine lv_iadd hx hb dX0_codeOfMove_5 ?_
  refine lv_iconst (v := 4) hx hb dX0_codeOfMove_6 (by decide) ?_
  refine lv_iadd hx hb dX0_codeOfMove_7 ?_
  exact W.iret (v := (((10 * x0) + x1) + 4)) hx hb hr (fun t ht hW => ⟨⟨(((10 * x0) + x1) + 4), (), rfl, rfl, trivial⟩, hS.F ht⟩) hS.2.2 dX0_codeOfMove_8

set_option maxHeartbeats 4000000 in
set_option maxRecDepth 100000 in
/-- cX0_cellsOfMove -/
theorem c_X0_cellsOfMove (l : Launch) (G : va_G) (cI cZ cJ : ClassId) (a : Nat → Nat) (sz : Nat) (x0 : Int32)  : Met l yX0_cellsOfMove wsX0_cellsOfMove ({ frames := 0, cells := 0, slots := 0, locals := 0 }) (ro_Pc G [(cI, .int), (cZ, .boolean), (cJ, .long)] [] sz [.int x0]) (ro_Qi (m_cells x0) sz) 0 0 (ro_A sz) := by
  refine Met.ofW (cc := cX0_cellsOfMove) (maxL := 1) (ret := (some .int)) (by decide) rfl ?_
  intro p e s m args below meth c s₁ B hml hv
  obtain ⟨rfl, hsz, hP, hK, hN⟩ := hv
  have hx := B.exec
  have hb := B.bytes
  have hr := B.returns
  have hts := atoms_spec (ws := wsX0_cellsOfMove) B.pre
  have hown : s.vm.findClass RX0 = some m.cls := findClass_of_methodNamed B.named
  have hlocks := B.notSynchronized
  subst hsz
  have hA : ∀ q : Nat, s.heap.size ≤ q → (ro_A s.heap.size) q := fun _ h => h
  have hS : va_S (ro_A s.heap.size) s.heap s.heap [] := va_S.rf
  have hP : va_P G vwCl [] s.heap := hP
  have hl := lv_entry ([.int x0]) (n := 1) (Nat.le_of_ble_eq_true rfl)
  rw [lg_entry_eq]
  generalize (lg_sl ([.int x0]) ++ List.replicate (1 - (lg_sl ([.int x0])).length) Slot.unset).toArray = ls at hl ⊢
  have hl : lv_has ls 1 [(0, .int x0)] := hl
  refine lv_iload_n hx hb dX0_cellsOfMove_0 rfl (lv_at hl 0 rfl) ?_
  refine lv_bipush (v := 10) hx hb dX0_cellsOfMove_1 (by decide) ?_
  refine lv_irem hx hb dX0_cellsOfMove_3 (by decide) ?_
  refine lv_iconst (v := 4) hx hb dX0_cellsOfMove_4 (by decide) ?_
  refine lv_isub hx hb dX0_cellsOfMove_5 ?_
  exact W.iret (v := ((x0 - x0 / 10 * 10) - 4)) hx hb hr (fun t ht hW => ⟨⟨((x0 - x0 / 10 * 10) - 4), (), rfl, rfl, trivial⟩, hS.F ht⟩) hS.2.2 dX0_cellsOfMove_6

theorem in_X0_count_0 : ∀ w ∈ wsX00, w ∈ wsX0_count := by decide +kernel
set_option maxHeartbeats 4000000 in
set_option maxRecDepth 100000 in
/-- Search.count -/
theorem c_X0_count (l : Launch) (G : va_G) (cI cZ cJ : ClassId) (a : Nat → Nat) (sz : Nat) (S : SS) (Y : YS)  : Met l yX0_count wsX0_count ({ frames := 0, cells := 0, slots := 0, locals := 0 }) (ro_Pc G [(cI, .int), (cZ, .boolean), (cJ, .long)] (wS cI cZ cJ a S Y) sz [.ref (a 1)]) (ro_Qi (s_fc S) sz) 0 0 (ro_A sz) := by
  refine Met.ofW (cc := cX0_count) (maxL := 1) (ret := (some .int)) (by decide) rfl ?_
  intro p e s m args below meth c s₁ B hml hv
  obtain ⟨rfl, hsz, hP, hK, hN⟩ := hv
  have hx := B.exec
  have hb := B.bytes
  have hr := B.returns
  have hts := atoms_spec (ws := wsX0_count) B.pre
  have hown : s.vm.findClass RX0 = some m.cls := findClass_of_methodNamed B.named
  have hlocks := B.notSynchronized
  subst hsz
  have hA : ∀ q : Nat, s.heap.size ≤ q → (ro_A s.heap.size) q := fun _ h => h
  have hS : va_S (ro_A s.heap.size) s.heap s.heap [] := va_S.rf
  have hP : va_P G vwCl [((a 1), .inr (0, [.ref (a 6), .ref (a 2), .ref (a 3), .ref (a 4), .ref (a 5), .int (s_fc S), .int (s_fs S), .int (s_sm S), .int (s_sc S), .int (s_sf S)])), ((a 2), .inl (cI, 800, .inl (s_fo S))), ((a 3), .inl (cI, 800, .inl (s_or S))), ((a 4), .inl (cI, 800, .inl (s_mo S))), ((a 5), .inl (cI, 2048, .inl (s_sl S))), ((a 6), .inr (1, [.ref (a 7), .ref (a 8), .ref (a 9), .ref (a 10), .int (nI (y_n Y)), .long (y_rp Y)])), ((a 7), .inl (cI, 9, .inl (y_sz Y))), ((a 8), .inl (cZ, 9, .inl (y_ac Y))), ((a 9), .inl (cI, 9, .inl (y_li Y))), ((a 10), .inl (cJ, 9, .inr (.inl (y_sh Y))))] s.heap := hP
  have hl := lv_entry ([.ref (a 1)]) (n := 1) (Nat.le_of_ble_eq_true rfl)
  rw [lg_entry_eq]
  generalize (lg_sl ([.ref (a 1)]) ++ List.replicate (1 - (lg_sl ([.ref (a 1)])).length) Slot.unset).toArray = ls at hl ⊢
  have hl : lv_has ls 1 [(0, .ref (a 1))] := hl
  refine lv_aload_n hx hb dX0_count_0 rfl (lv_at hl 0 rfl) ?_
  refine va_get (D := G) (ci := 0) (v := .int (s_fc S)) (C := RX0) (T := TX0) (N := 10) hx hb hts in_X0_count_0 hown hK hP 0 rfl rfl 5 (by decide) (hts (.fieldLink RX0 28 "RampJam$Search" "foundCount" "I") (by decide +kernel)) (fun _ h9 => h9) rfl dX0_count_1 ?_
  exact W.iret (v := (s_fc S)) hx hb hr (fun t ht hW => ⟨⟨(s_fc S), (), rfl, rfl, trivial⟩, hS.F ht⟩) hS.2.2 dX0_count_4

theorem in_X0_movesToSolved_0 : ∀ w ∈ wsX00, w ∈ wsX0_movesToSolved := by decide +kernel
set_option maxHeartbeats 4000000 in
set_option maxRecDepth 100000 in
/-- Search.movesToSolved -/
theorem c_X0_movesToSolved (l : Launch) (G : va_G) (cI cZ cJ : ClassId) (a : Nat → Nat) (sz : Nat) (S : SS) (Y : YS)  : Met l yX0_movesToSolved wsX0_movesToSolved ({ frames := 0, cells := 0, slots := 0, locals := 0 }) (ro_Pc G [(cI, .int), (cZ, .boolean), (cJ, .long)] (wS cI cZ cJ a S Y) sz [.ref (a 1)]) (ro_Qi (s_sm S) sz) 0 0 (ro_A sz) := by
  refine Met.ofW (cc := cX0_movesToSolved) (maxL := 1) (ret := (some .int)) (by decide) rfl ?_
  intro p e s m args below meth c s₁ B hml hv
  obtain ⟨rfl, hsz, hP, hK, hN⟩ := hv
  have hx := B.exec
  have hb := B.bytes
  have hr := B.returns
  have hts := atoms_spec (ws := wsX0_movesToSolved) B.pre
  have hown : s.vm.findClass RX0 = some m.cls := findClass_of_methodNamed B.named
  have hlocks := B.notSynchronized
  subst hsz
  have hA : ∀ q : Nat, s.heap.size ≤ q → (ro_A s.heap.size) q := fun _ h => h
  have hS : va_S (ro_A s.heap.size) s.heap s.heap [] := va_S.rf
  have hP : va_P G vwCl [((a 1), .inr (0, [.ref (a 6), .ref (a 2), .ref (a 3), .ref (a 4), .ref (a 5), .int (s_fc S), .int (s_fs S), .int (s_sm S), .int (s_sc S), .int (s_sf S)])), ((a 2), .inl (cI, 800, .inl (s_fo S))), ((a 3), .inl (cI, 800, .inl (s_or S))), ((a 4), .inl (cI, 800, .inl (s_mo S))), ((a 5), .inl (cI, 2048, .inl (s_sl S))), ((a 6), .inr (1, [.ref (a 7), .ref (a 8), .ref (a 9), .ref (a 10), .int (nI (y_n Y)), .long (y_rp Y)])), ((a 7), .inl (cI, 9, .inl (y_sz Y))), ((a 8), .inl (cZ, 9, .inl (y_ac Y))), ((a 9), .inl (cI, 9, .inl (y_li Y))), ((a 10), .inl (cJ, 9, .inr (.inl (y_sh Y))))] s.heap := hP
  have hl := lv_entry ([.ref (a 1)]) (n := 1) (Nat.le_of_ble_eq_true rfl)
  rw [lg_entry_eq]
  generalize (lg_sl ([.ref (a 1)]) ++ List.replicate (1 - (lg_sl ([.ref (a 1)])).length) Slot.unset).toArray = ls at hl ⊢
  have hl : lv_has ls 1 [(0, .ref (a 1))] := hl
  refine lv_aload_n hx hb dX0_movesToSolved_0 rfl (lv_at hl 0 rfl) ?_
  refine va_get (D := G) (ci := 0) (v := .int (s_sm S)) (C := RX0) (T := TX0) (N := 10) hx hb hts in_X0_movesToSolved_0 hown hK hP 0 rfl rfl 7 (by decide) (hts (.fieldLink RX0 52 "RampJam$Search" "solvedMoves" "I") (by decide +kernel)) (fun _ h9 => h9) rfl dX0_movesToSolved_1 ?_
  exact W.iret (v := (s_sm S)) hx hb hr (fun t ht hW => ⟨⟨(s_sm S), (), rfl, rfl, trivial⟩, hS.F ht⟩) hS.2.2 dX0_movesToSolved_4

theorem in_X0_firstMoveToSolved_0 : ∀ w ∈ wsX00, w ∈ wsX0_firstMoveToSolved := by decide +kernel
set_option maxHeartbeats 4000000 in
set_option maxRecDepth 100000 in
/-- Search.firstMoveToSolved -/
theorem c_X0_firstMoveToSolved (l : Launch) (G : va_G) (cI cZ cJ : ClassId) (a : Nat → Nat) (sz : Nat) (S : SS) (Y : YS)  : Met l yX0_firstMoveToSolved wsX0_firstMoveToSolved ({ frames := 0, cells := 0, slots := 0, locals := 0 }) (ro_Pc G [(cI, .int), (cZ, .boolean), (cJ, .long)] (wS cI cZ cJ a S Y) sz [.ref (a 1)]) (ro_Qi (s_sf S) sz) 0 0 (ro_A sz) := by
  refine Met.ofW (cc := cX0_firstMoveToSolved) (maxL := 1) (ret := (some .int)) (by decide) rfl ?_
  intro p e s m args below meth c s₁ B hml hv
  obtain ⟨rfl, hsz, hP, hK, hN⟩ := hv
  have hx := B.exec
  have hb := B.bytes
  have hr := B.returns
  have hts := atoms_spec (ws := wsX0_firstMoveToSolved) B.pre
  have hown : s.vm.findClass RX0 = some m.cls := findClass_of_methodNamed B.named
  have hlocks := B.notSynchronized
  subst hsz
  have hA : ∀ q : Nat, s.heap.size ≤ q → (ro_A s.heap.size) q := fun _ h => h
  have hS : va_S (ro_A s.heap.size) s.heap s.heap [] := va_S.rf
  have hP : va_P G vwCl [((a 1), .inr (0, [.ref (a 6), .ref (a 2), .ref (a 3), .ref (a 4), .ref (a 5), .int (s_fc S), .int (s_fs S), .int (s_sm S), .int (s_sc S), .int (s_sf S)])), ((a 2), .inl (cI, 800, .inl (s_fo S))), ((a 3), .inl (cI, 800, .inl (s_or S))), ((a 4), .inl (cI, 800, .inl (s_mo S))), ((a 5), .inl (cI, 2048, .inl (s_sl S))), ((a 6), .inr (1, [.ref (a 7), .ref (a 8), .ref (a 9), .ref (a 10), .int (nI (y_n Y)), .long (y_rp Y)])), ((a 7), .inl (cI, 9, .inl (y_sz Y))), ((a 8), .inl (cZ, 9, .inl (y_ac Y))), ((a 9), .inl (cI, 9, .inl (y_li Y))), ((a 10), .inl (cJ, 9, .inr (.inl (y_sh Y))))] s.heap := hP
  have hl := lv_entry ([.ref (a 1)]) (n := 1) (Nat.le_of_ble_eq_true rfl)
  rw [lg_entry_eq]
  generalize (lg_sl ([.ref (a 1)]) ++ List.replicate (1 - (lg_sl ([.ref (a 1)])).length) Slot.unset).toArray = ls at hl ⊢
  have hl : lv_has ls 1 [(0, .ref (a 1))] := hl
  refine lv_aload_n hx hb dX0_firstMoveToSolved_0 rfl (lv_at hl 0 rfl) ?_
  refine va_get (D := G) (ci := 0) (v := .int (s_sf S)) (C := RX0) (T := TX0) (N := 10) hx hb hts in_X0_firstMoveToSolved_0 hown hK hP 0 rfl rfl 9 (by decide) (hts (.fieldLink RX0 58 "RampJam$Search" "solvedFirstMove" "I") (by decide +kernel)) (fun _ h9 => h9) rfl dX0_firstMoveToSolved_1 ?_
  exact W.iret (v := (s_sf S)) hx hb hr (fun t ht hW => ⟨⟨(s_sf S), (), rfl, rfl, trivial⟩, hS.F ht⟩) hS.2.2 dX0_firstMoveToSolved_4

theorem in_X0_isFound_0 : ∀ w ∈ wsX00, w ∈ wsX0_isFound := by decide +kernel
set_option maxHeartbeats 4000000 in
set_option maxRecDepth 100000 in
/-- Search.isFound -/
theorem c_X0_isFound (l : Launch) (G : va_G) (cI cZ cJ : ClassId) (a : Nat → Nat) (sz : Nat) (S : SS) (Y : YS) (i_g : Int32)  : Met l yX0_isFound wsX0_isFound ({ frames := 0, cells := 0, slots := 0, locals := 0 }) (ro_Pc G [(cI, .int), (cZ, .boolean), (cJ, .long)] (wS cI cZ cJ a S Y) sz [.ref (a 1), .int i_g]) (ro_Qi (b1 (s_isF S i_g)) sz) 0 0 (ro_A sz) := by
  refine Met.ofW (cc := cX0_isFound) (maxL := 2) (ret := (some .boolean)) (by decide) rfl ?_
  intro p e s m args below meth c s₁ B hml hv
  obtain ⟨rfl, hsz, hP, hK, hN⟩ := hv
  have hx := B.exec
  have hb := B.bytes
  have hr := B.returns
  have hts := atoms_spec (ws := wsX0_isFound) B.pre
  have hown : s.vm.findClass RX0 = some m.cls := findClass_of_methodNamed B.named
  have hlocks := B.notSynchronized
  subst hsz
  have hA : ∀ q : Nat, s.heap.size ≤ q → (ro_A s.heap.size) q := fun _ h => h
  have hS : va_S (ro_A s.heap.size) s.heap s.heap [] := va_S.rf
  have hP : va_P G vwCl [((a 1), .inr (0, [.ref (a 6), .ref (a 2), .ref (a 3), .ref (a 4), .ref (a 5), .int (s_fc S), .int (s_fs S), .int (s_sm S), .int (s_sc S), .int (s_sf S)])), ((a 2), .inl (cI, 800, .inl (s_fo S))), ((a 3), .inl (cI, 800, .inl (s_or S))), ((a 4), .inl (cI, 800, .inl (s_mo S))), ((a 5), .inl (cI, 2048, .inl (s_sl S))), ((a 6), .inr (1, [.ref (a 7), .ref (a 8), .ref (a 9), .ref (a 10), .int (nI (y_n Y)), .long (y_rp Y)])), ((a 7), .inl (cI, 9, .inl (y_sz Y))), ((a 8), .inl (cZ, 9, .inl (y_ac Y))), ((a 9), .inl (cI, 9, .inl (y_li Y))), ((a 10), .inl (cJ, 9, .inr (.inl (y_sh Y))))] s.heap := hP
  have hl := lv_entry ([.ref (a 1), .int i_g]) (n := 2) (Nat.le_of_ble_eq_true rfl)
  rw [lg_entry_eq]
  generalize (lg_sl ([.ref (a 1), .int i_g]) ++ List.replicate (2 - (lg_sl ([.ref (a 1), .int i_g])).length) Slot.unset).toArray = ls at hl ⊢
  have hl : lv_has ls 2 [(0, .ref (a 1)), (1, .int i_g)] := hl
  refine lv_iload_n hx hb dX0_isFound_0 rfl (lv_at hl 1 rfl) ?_
  refine lv_if_lt (tgt := 23) hx hb dX0_isFound_1 (by decide) (fun c_1 => ?_) (fun c_1 => ?_)
  · refine lv_iconst (v := 0) hx hb dX0_isFound_23 (by decide) ?_
    exact W.zret (ty := .boolean) (v := 0) hx hb hr (rfl) (fun t ht hW => ⟨⟨0, (), rfl, by simp [s_isF, c_1], trivial⟩, hS.F ht⟩) hS.2.2 dX0_isFound_24
  · refine lv_iload_n hx hb dX0_isFound_4 rfl (lv_at hl 1 rfl) ?_
    refine lv_aload_n hx hb dX0_isFound_5 rfl (lv_at hl 0 rfl) ?_
    refine va_get (D := G) (ci := 0) (v := .int (s_fc S)) (C := RX0) (T := TX0) (N := 10) hx hb hts in_X0_isFound_0 hown hK hP 0 rfl rfl 5 (by decide) (hts (.fieldLink RX0 28 "RampJam$Search" "foundCount" "I") (by decide +kernel)) (fun _ h9 => h9) rfl dX0_isFound_6 ?_
    refine lv_icmp_ge (tgt := 23) hx hb dX0_isFound_9 (by decide) (fun c_2 => ?_) (fun c_2 => ?_)
    · refine lv_iconst (v := 0) hx hb dX0_isFound_23 (by decide) ?_
      exact W.zret (ty := .boolean) (v := 0) hx hb hr (rfl) (fun t ht hW => ⟨⟨0, (), rfl, by simp [s_isF, c_1, c_2], trivial⟩, hS.F ht⟩) hS.2.2 dX0_isFound_24
    · refine lv_iload_n hx hb dX0_isFound_12 rfl (lv_at hl 1 rfl) ?_
      refine lv_sipush (v := 800) hx hb dX0_isFound_13 (by decide) ?_
      refine lv_icmp_ge (tgt := 23) hx hb dX0_isFound_16 (by decide) (fun c_3 => ?_) (fun c_3 => ?_)
      · refine lv_iconst (v := 0) hx hb dX0_isFound_23 (by decide) ?_
        exact W.zret (ty := .boolean) (v := 0) hx hb hr (rfl) (fun t ht hW => ⟨⟨0, (), rfl, by simp [s_isF, c_1, c_2, c_3], trivial⟩, hS.F ht⟩) hS.2.2 dX0_isFound_24
      · refine lv_iconst (v := 1) hx hb dX0_isFound_19 (by decide) ?_
        refine lv_goto (tgt := 24) hx hb dX0_isFound_20 (by decide) ?_
        exact W.zret (ty := .boolean) (v := 1) hx hb hr (rfl) (fun t ht hW => ⟨⟨1, (), rfl, by simp [s_isF, c_1, c_2, c_3], trivial⟩, hS.F ht⟩) hS.2.2 dX0_isFound_24

theorem in_X0_slotFor_0 : ∀ w ∈ wsX00, w ∈ wsX0_slotFor := by decide +kernel
set_option maxHeartbeats 4000000 in
set_option maxRecDepth 100000 in
/-- Search.slotFor -/
theorem c_X0_slotFor (l : Launch) (G : va_G) (cI cZ cJ : ClassId) (a : Nat → Nat) (sz : Nat) (S : SS) (Y : YS) (x_g : Int32)  : Met l yX0_slotFor wsX0_slotFor ({ frames := 0, cells := 0, slots := 0, locals := 0 }) (ro_Pc G [(cI, .int), (cZ, .boolean), (cJ, .long)] (wS cI cZ cJ a S Y) sz [.ref (a 1), .int x_g]) (ro_Qi (s_slot S x_g) sz) 0 0 (ro_A sz) := by
  refine Met.ofW (cc := cX0_slotFor) (maxL := 6) (ret := (some .int)) (by decide) rfl ?_
  intro p e s m args below meth c s₁ B hml hv
  obtain ⟨rfl, hsz, hP, hK, hN⟩ := hv
  have hx := B.exec
  have hb := B.bytes
  have hr := B.returns
  have hts := atoms_spec (ws := wsX0_slotFor) B.pre
  have hown : s.vm.findClass RX0 = some m.cls := findClass_of_methodNamed B.named
  have hlocks := B.notSynchronized
  subst hsz
  have hA : ∀ q : Nat, s.heap.size ≤ q → (ro_A s.heap.size) q := fun _ h => h
  have hS : va_S (ro_A s.heap.size) s.heap s.heap [] := va_S.rf
  have hP : va_P G vwCl [((a 1), .inr (0, [.ref (a 6), .ref (a 2), .ref (a 3), .ref (a 4), .ref (a 5), .int (s_fc S), .int (s_fs S), .int (s_sm S), .int (s_sc S), .int (s_sf S)])), ((a 2), .inl (cI, 800, .inl (s_fo S))), ((a 3), .inl (cI, 800, .inl (s_or S))), ((a 4), .inl (cI, 800, .inl (s_mo S))), ((a 5), .inl (cI, 2048, .inl (s_sl S))), ((a 6), .inr (1, [.ref (a 7), .ref (a 8), .ref (a 9), .ref (a 10), .int (nI (y_n Y)), .long (y_rp Y)])), ((a 7), .inl (cI, 9, .inl (y_sz Y))), ((a 8), .inl (cZ, 9, .inl (y_ac Y))), ((a 9), .inl (cI, 9, .inl (y_li Y))), ((a 10), .inl (cJ, 9, .inr (.inl (y_sh Y))))] s.heap := hP
  have hl := lv_entry ([.ref (a 1), .int x_g]) (n := 6) (Nat.le_of_ble_eq_true rfl)
  rw [lg_entry_eq]
  generalize (lg_sl ([.ref (a 1), .int x_g]) ++ List.replicate (6 - (lg_sl ([.ref (a 1), .int x_g])).length) Slot.unset).toArray = ls at hl ⊢
  have hl : lv_has ls 6 [(0, .ref (a 1)), (1, .int x_g)] := hl
  refine lv_iload_n hx hb dX0_slotFor_0 rfl (lv_at hl 1 rfl) ?_
  refine lv_ldc (own := RX0) (index := 106) (v := (-1640531535)) hx hb hown (hts (.constant RX0 106 (-1640531535)) (by decide +kernel)) dX0_slotFor_1 ?_
  refine lv_imul hx hb dX0_slotFor_3 ?_
  refine lv_bipush (v := 21) hx hb dX0_slotFor_4 (by decide) ?_
  refine lv_iushr (v := (((x_g * (-1640531535)).toUInt32 >>> ((21 : Int32).toUInt32 &&& Int32.toUInt32 31)).toInt32)) hx hb dX0_slotFor_6 rfl ?_
  refine lv_istore_n (lv' := [(2, .int (((x_g * (-1640531535)).toUInt32 >>> ((21 : Int32).toUInt32 &&& Int32.toUInt32 31)).toInt32)), (0, .ref (a 1)), (1, .int x_g)]) hx hb dX0_slotFor_7 rfl hl (by decide) rfl (fun ls hl => ?_)
  refine lv_iconst (v := 0) hx hb dX0_slotFor_8 (by decide) ?_
  refine lv_istore_n (lv' := [(3, .int 0), (2, .int (((x_g * (-1640531535)).toUInt32 >>> ((21 : Int32).toUInt32 &&& Int32.toUInt32 31)).toInt32)), (0, .ref (a 1)), (1, .int x_g)]) hx hb dX0_slotFor_9 rfl hl (by decide) rfl (fun ls hl => ?_)
  have cut_10 : ∀ (d : Nat) (k_g : Nat), k_g ≤ 2048 → 2048 + 1 ≤ k_g + d → (s_slotL S x_g (2048 - k_g) k_g = s_slotL S x_g 2048 0) → ∀ (H : Heap) (locs : List Loc), va_P G vwCl [((a 1), .inr (0, [.ref (a 6), .ref (a 2), .ref (a 3), .ref (a 4), .ref (a 5), .int (s_fc S), .int (s_fs S), .int (s_sm S), .int (s_sc S), .int (s_sf S)])), ((a 2), .inl (cI, 800, .inl (s_fo S))), ((a 3), .inl (cI, 800, .inl (s_or S))), ((a 4), .inl (cI, 800, .inl (s_mo S))), ((a 5), .inl (cI, 2048, .inl (s_sl S))), ((a 6), .inr (1, [.ref (a 7), .ref (a 8), .ref (a 9), .ref (a 10), .int (nI (y_n Y)), .long (y_rp Y)])), ((a 7), .inl (cI, 9, .inl (y_sz Y))), ((a 8), .inl (cZ, 9, .inl (y_ac Y))), ((a 9), .inl (cI, 9, .inl (y_li Y))), ((a 10), .inl (cJ, 9, .inr (.inl (y_sh Y))))] H → va_S (ro_A s.heap.size) s.heap H locs → ∀ (ls : Array Slot), lv_has ls 6 [(0, .ref (a 1)), (1, .int x_g), (2, .int (h_first x_g)), (3, .int (nI k_g))] → W p l e (headSpec wsX0_slotFor ({ frames := 0, cells := 0, slots := 0, locals := 0 })).room s m ([.ref (a 1), .int x_g] : List Value).toArray below meth c H locs 0 0 (MQ below (ro_Qi (s_slot S x_g) s.heap.size) ([.ref (a 1), .int x_g] : List Value).toArray s 0 0 (ro_A s.heap.size)) (F0 m 10 ls []) := by
    intro d
    induction d with
    | zero =>
      intro k_g hk_10 hd_10
      exact absurd hd_10 (by omega)
    | succ d ih_10 =>
      intro k_g hk_10 hd_10 hI H locs hP hS ls hl
      refine lv_iload_n hx hb dX0_slotFor_10 rfl (lv_at hl 3 rfl) ?_
      refine lv_sipush (v := 2048) hx hb dX0_slotFor_11 (by decide) ?_
      refine lv_icmp_ge (tgt := 70) hx hb dX0_slotFor_14 (by decide) (fun c_1 => ?_) (fun c_1 => ?_)
      · have hk8 := nx_ge (n := 2048) (by omega) (by omega) c_1
        refine lv_iconst (v := (-1)) hx hb dX0_slotFor_70 (by decide) ?_
        exact W.iret (v := (-1)) hx hb hr (fun t ht hW => ⟨⟨(-1), (), rfl, by rw [s_slot, ← hI, show 2048 - k_g = 0 by omega]; rfl, trivial⟩, hS.F ht⟩) hS.2.2 dX0_slotFor_71
      · have hlt : k_g < 2048 := nx_lt (n := 2048) (by omega) (by omega) c_1
        refine lv_iload_n hx hb dX0_slotFor_17 rfl (lv_at hl 2 rfl) ?_
        refine lv_iload_n hx hb dX0_slotFor_18 rfl (lv_at hl 3 rfl) ?_
        refine lv_iadd hx hb dX0_slotFor_19 ?_
        refine lv_sipush (v := 2047) hx hb dX0_slotFor_20 (by decide) ?_
        refine lv_iand hx hb dX0_slotFor_23 ?_
        refine lv_istore (lv' := [(4, .int (((h_first x_g) + (nI k_g)) &&& 2047)), (0, .ref (a 1)), (1, .int x_g), (2, .int (h_first x_g)), (3, .int (nI k_g))]) hx hb dX0_slotFor_24 hl (by decide) rfl (fun ls hl => ?_)
        refine lv_aload_n hx hb dX0_slotFor_26 rfl (lv_at hl 1 rfl) ?_
        refine va_get (D := G) (ci := 0) (v := .ref (a 5)) (C := RX0) (T := TX0) (N := 10) hx hb hts in_X0_slotFor_0 hown hK hP 0 rfl rfl 4 (by decide) (hts (.fieldLink RX0 21 "RampJam$Search" "slots" "[I") (by decide +kernel)) (fun _ h9 => h9) rfl dX0_slotFor_27 ?_
        refine lv_iload hx hb dX0_slotFor_30 (lv_at hl 0 rfl) ?_
        refine va_iald hx hb hK hP 4 0 rfl rfl (h_slot_in _) dX0_slotFor_32 ?_
        refine lv_iconst (v := 1) hx hb dX0_slotFor_33 (by decide) ?_
        refine lv_isub hx hb dX0_slotFor_34 ?_
        refine lv_istore (lv' := [(5, .int (((s_sl S) ((((h_first x_g) + (nI k_g)) &&& 2047).toNatClampNeg)) - 1)), (4, .int (((h_first x_g) + (nI k_g)) &&& 2047)), (0, .ref (a 1)), (1, .int x_g), (2, .int (h_first x_g)), (3, .int (nI k_g))]) hx hb dX0_slotFor_35 hl (by decide) rfl (fun ls hl => ?_)
        refine lv_iload hx hb dX0_slotFor_37 (lv_at hl 0 rfl) ?_
        refine lv_if_lt (tgt := 61) hx hb dX0_slotFor_39 (by decide) (fun c_2 => ?_) (fun c_2 => ?_)
        · refine lv_iload hx hb dX0_slotFor_61 (lv_at hl 1 rfl) ?_
          exact W.iret (v := (((h_first x_g) + (nI k_g)) &&& 2047)) hx hb hr (fun t ht hW => ⟨⟨(((h_first x_g) + (nI k_g)) &&& 2047), (), rfl, by rw [s_slot, ← hI, s_slotL_in hlt, if_pos (by first | exact Or.inl (by assumption) | exact Or.inr (Or.inl (by assumption)) | exact Or.inr (Or.inr (by assumption)))]; rfl, trivial⟩, hS.F ht⟩) hS.2.2 dX0_slotFor_63
        · refine lv_iload hx hb dX0_slotFor_42 (lv_at hl 0 rfl) ?_
          refine lv_sipush (v := 800) hx hb dX0_slotFor_44 (by decide) ?_
          refine lv_icmp_ge (tgt := 61) hx hb dX0_slotFor_47 (by decide) (fun c_3 => ?_) (fun c_3 => ?_)
          · refine lv_iload hx hb dX0_slotFor_61 (lv_at hl 1 rfl) ?_
            exact W.iret (v := (((h_first x_g) + (nI k_g)) &&& 2047)) hx hb hr (fun t ht hW => ⟨⟨(((h_first x_g) + (nI k_g)) &&& 2047), (), rfl, by rw [s_slot, ← hI, s_slotL_in hlt, if_pos (by first | exact Or.inl (by assumption) | exact Or.inr (Or.inl (by assumption)) | exact Or.inr (Or.inr (by assumption)))]; rfl, trivial⟩, hS.F ht⟩) hS.2.2 dX0_slotFor_63
          · refine lv_aload_n hx hb dX0_slotFor_50 rfl (lv_at hl 2 rfl) ?_
            refine va_get (D := G) (ci := 0) (v := .ref (a 2)) (C := RX0) (T := TX0) (N := 10) hx hb hts in_X0_slotFor_0 hown hK hP 0 rfl rfl 1 (by decide) (hts (.fieldLink RX0 9 "RampJam$Search" "found" "[I") (by decide +kernel)) (fun _ h9 => h9) rfl dX0_slotFor_51 ?_
            refine lv_iload hx hb dX0_slotFor_54 (lv_at hl 0 rfl) ?_
            refine va_iald hx hb hK hP 1 0 rfl rfl (cl_in800 (by assumption) (by assumption)) dX0_slotFor_56 ?_
            refine lv_iload_n hx hb dX0_slotFor_57 rfl (lv_at hl 3 rfl) ?_
            refine lv_icmp_ne (tgt := 64) hx hb dX0_slotFor_58 (by decide) (fun c_4 => ?_) (fun c_4 => ?_)
            · refine lv_iinc (v := (nI (k_g + 1))) (lv' := [(3, .int (nI (k_g + 1))), (5, .int (((s_sl S) ((((h_first x_g) + (nI k_g)) &&& 2047).toNatClampNeg)) - 1)), (4, .int (((h_first x_g) + (nI k_g)) &&& 2047)), (0, .ref (a 1)), (1, .int x_g), (2, .int (h_first x_g))]) hx hb dX0_slotFor_64 hl (k := 5) rfl (nI_1 _) (by decide) rfl (fun ls hl => ?_)
              refine lv_goto (tgt := 10) hx hb dX0_slotFor_67 (by decide) ?_
              exact ih_10 (k_g + 1) (hlt) (by omega) (by rw [← hI, s_slotL_in hlt, if_neg (by rintro (h | h | h) <;> contradiction)]) _ _ hP hS _ (lv_sub hl [3, 4, 5, 0] rfl)
            · refine lv_iload hx hb dX0_slotFor_61 (lv_at hl 1 rfl) ?_
              exact W.iret (v := (((h_first x_g) + (nI k_g)) &&& 2047)) hx hb hr (fun t ht hW => ⟨⟨(((h_first x_g) + (nI k_g)) &&& 2047), (), rfl, by rw [s_slot, ← hI, s_slotL_in hlt, if_pos (by first | exact Or.inl (by assumption) | exact Or.inr (Or.inl (by assumption)) | exact Or.inr (Or.inr (by assumption)))]; rfl, trivial⟩, hS.F ht⟩) hS.2.2 dX0_slotFor_63
  exact cut_10 (2048 + 1) 0 (Nat.zero_le _) (by omega) (rfl) _ _ hP hS _ (lv_sub hl [2, 3, 1, 0] rfl)

theorem in_X0_addIfNew_0 : ∀ w ∈ wsX00, w ∈ wsX0_addIfNew := by decide +kernel
set_option maxHeartbeats 4000000 in
set_option maxRecDepth 100000 in
/-- Search.addIfNew -/
theorem c_X0_addIfNew (l : Launch) (G : va_G) (cI cZ cJ : ClassId) (a : Nat → Nat) (sz : Nat) (S : SS) (Y : YS) (x_g : Int32) (o_g : Int32) (c_g : Int32)  : Met l yX0_addIfNew wsX0_addIfNew ({ frames := 1, cells := 0, slots := 0, locals := 25 }) (rw_Pc G [(cI, .int), (cZ, .boolean), (cJ, .long)] (wS cI cZ cJ a S Y) sz [.ref (a 1), .int x_g, .int o_g, .int c_g]) (rw_Qv (S := SS) (s_addN S x_g o_g c_g) (fun u : SS => wS cI cZ cJ a u Y) G (wS cI cZ cJ a S Y) sz) 0 0 (va_A (wS cI cZ cJ a S Y) sz) := by
  refine Met.ofW (cc := cX0_addIfNew) (maxL := 6) (ret := none) (by decide) rfl ?_
  intro p e s m args below meth c s₁ B hml hv
  obtain ⟨rfl, hsz, hP, hK, hD0, hN⟩ := hv
  have hx := B.exec
  have hb := B.bytes
  have hr := B.returns
  have hts := atoms_spec (ws := wsX0_addIfNew) B.pre
  have hown : s.vm.findClass RX0 = some m.cls := findClass_of_methodNamed B.named
  have hlocks := B.notSynchronized
  subst hsz
  have hD0 : va_D (fun _ => True) [((a 1), .inr (0, [.ref (a 6), .ref (a 2), .ref (a 3), .ref (a 4), .ref (a 5), .int (s_fc S), .int (s_fs S), .int (s_sm S), .int (s_sc S), .int (s_sf S)])), ((a 2), .inl (cI, 800, .inl (s_fo S))), ((a 3), .inl (cI, 800, .inl (s_or S))), ((a 4), .inl (cI, 800, .inl (s_mo S))), ((a 5), .inl (cI, 2048, .inl (s_sl S))), ((a 6), .inr (1, [.ref (a 7), .ref (a 8), .ref (a 9), .ref (a 10), .int (nI (y_n Y)), .long (y_rp Y)])), ((a 7), .inl (cI, 9, .inl (y_sz Y))), ((a 8), .inl (cZ, 9, .inl (y_ac Y))), ((a 9), .inl (cI, 9, .inl (y_li Y))), ((a 10), .inl (cJ, 9, .inr (.inl (y_sh Y))))] := hD0
  have hD := hD0.self (sz := s.heap.size)
  unfold rw_Qv
  generalize hAe : va_A (wS cI cZ cJ a S Y) s.heap.size = A at hD ⊢
  have hA : ∀ q : Nat, s.heap.size ≤ q → A q := fun q h => by rw [← hAe]; exact Or.inr h
  have hS : va_S A s.heap s.heap [] := va_S.rf
  have hP : va_P G vwCl [((a 1), .inr (0, [.ref (a 6), .ref (a 2), .ref (a 3), .ref (a 4), .ref (a 5), .int (s_fc S), .int (s_fs S), .int (s_sm S), .int (s_sc S), .int (s_sf S)])), ((a 2), .inl (cI, 800, .inl (s_fo S))), ((a 3), .inl (cI, 800, .inl (s_or S))), ((a 4), .inl (cI, 800, .inl (s_mo S))), ((a 5), .inl (cI, 2048, .inl (s_sl S))), ((a 6), .inr (1, [.ref (a 7), .ref (a 8), .ref (a 9), .ref (a 10), .int (nI (y_n Y)), .long (y_rp Y)])), ((a 7), .inl (cI, 9, .inl (y_sz Y))), ((a 8), .inl (cZ, 9, .inl (y_ac Y))), ((a 9), .inl (cI, 9, .inl (y_li Y))), ((a 10), .inl (cJ, 9, .inr (.inl (y_sh Y))))] s.heap := hP
  have hl := lv_entry ([.ref (a 1), .int x_g, .int o_g, .int c_g]) (n := 6) (Nat.le_of_ble_eq_true rfl)
  rw [lg_entry_eq]
  generalize (lg_sl ([.ref (a 1), .int x_g, .int o_g, .int c_g]) ++ List.replicate (6 - (lg_sl ([.ref (a 1), .int x_g, .int o_g, .int c_g])).length) Slot.unset).toArray = ls at hl ⊢
  have hl : lv_has ls 6 [(0, .ref (a 1)), (1, .int x_g), (2, .int o_g), (3, .int c_g)] := hl
  refine lv_aload_n hx hb dX0_addIfNew_0 rfl (lv_at hl 0 rfl) ?_
  refine va_get (D := G) (ci := 0) (v := .int (s_fc S)) (C := RX0) (T := TX0) (N := 10) hx hb hts in_X0_addIfNew_0 hown hK hP 0 rfl rfl 5 (by decide) (hts (.fieldLink RX0 28 "RampJam$Search" "foundCount" "I") (by decide +kernel)) (fun _ h9 => h9) rfl dX0_addIfNew_1 ?_
  refine lv_istore (lv' := [(4, .int (s_fc S)), (0, .ref (a 1)), (1, .int x_g), (2, .int o_g), (3, .int c_g)]) hx hb dX0_addIfNew_4 hl (by decide) rfl (fun ls hl => ?_)
  refine lv_aload_n hx hb dX0_addIfNew_6 rfl (lv_at hl 1 rfl) ?_
  refine lv_iload_n hx hb dX0_addIfNew_7 rfl (lv_at hl 2 rfl) ?_
  refine ro_i (va_runV (As := [.int x_g]) (rest := []) ⟨hx, hb, hml, hown, hts⟩ ((c_X0_slotFor l G cI cZ cJ a _ S Y x_g)) (cwV 1 hts gX0_addIfNew_X0_slotFor rfl rfl rfl (by decide +kernel) ⟨Nat.le_of_ble_eq_true rfl, Nat.le_of_ble_eq_true rfl⟩) ⟨ro_blind, va_recv hK hP (ci := 0) (q0 := 0) rfl rfl, ro_pre hP hK hN⟩ rfl rfl hl.1 rfl (lv_room (Nat.le_of_ble_eq_true rfl)) dX0_addIfNew_8 ⟨Nat.zero_le _, Nat.zero_le _⟩) hS hA hP (fun H locs hP hS => ?_)
  refine lv_istore (lv' := [(5, .int (s_slot S x_g)), (4, .int (s_fc S)), (0, .ref (a 1)), (1, .int x_g), (2, .int o_g), (3, .int c_g)]) hx hb dX0_addIfNew_11 hl (by decide) rfl (fun ls hl => ?_)
  refine lv_iload hx hb dX0_addIfNew_13 (lv_at hl 1 rfl) ?_
  refine lv_if_lt (tgt := 49) hx hb dX0_addIfNew_15 (by decide) (fun c_1 => ?_) (fun c_1 => ?_)
  · have hP9 := hP
    have hD9 := hD
    exact W.vret hx hb hr (fun t ht hW => ⟨⟨S, rfl, by rw [s_addN, if_pos (by first | exact Or.inl (by assumption) | exact Or.inr (Or.inl (by assumption)) | exact Or.inr (Or.inr (Or.inl (by assumption))) | exact Or.inr (Or.inr (Or.inr (Or.inl (by assumption)))) | exact Or.inr (Or.inr (Or.inr (Or.inr (by assumption)))))], by rw [ht]; exact hP9, hD9⟩, hS.F ht⟩) hS.2.2 dX0_addIfNew_49
  · refine lv_iload hx hb dX0_addIfNew_18 (lv_at hl 1 rfl) ?_
    refine lv_sipush (v := 800) hx hb dX0_addIfNew_20 (by decide) ?_
    refine lv_icmp_ge (tgt := 49) hx hb dX0_addIfNew_23 (by decide) (fun c_2 => ?_) (fun c_2 => ?_)
    · have hP9 := hP
      have hD9 := hD
      exact W.vret hx hb hr (fun t ht hW => ⟨⟨S, rfl, by rw [s_addN, if_pos (by first | exact Or.inl (by assumption) | exact Or.inr (Or.inl (by assumption)) | exact Or.inr (Or.inr (Or.inl (by assumption))) | exact Or.inr (Or.inr (Or.inr (Or.inl (by assumption)))) | exact Or.inr (Or.inr (Or.inr (Or.inr (by assumption)))))], by rw [ht]; exact hP9, hD9⟩, hS.F ht⟩) hS.2.2 dX0_addIfNew_49
    · refine lv_iload hx hb dX0_addIfNew_26 (lv_at hl 0 rfl) ?_
      refine lv_if_lt (tgt := 49) hx hb dX0_addIfNew_28 (by decide) (fun c_3 => ?_) (fun c_3 => ?_)
      · have hP9 := hP
        have hD9 := hD
        exact W.vret hx hb hr (fun t ht hW => ⟨⟨S, rfl, by rw [s_addN, if_pos (by first | exact Or.inl (by assumption) | exact Or.inr (Or.inl (by assumption)) | exact Or.inr (Or.inr (Or.inl (by assumption))) | exact Or.inr (Or.inr (Or.inr (Or.inl (by assumption)))) | exact Or.inr (Or.inr (Or.inr (Or.inr (by assumption)))))], by rw [ht]; exact hP9, hD9⟩, hS.F ht⟩) hS.2.2 dX0_addIfNew_49
      · refine lv_iload hx hb dX0_addIfNew_31 (lv_at hl 0 rfl) ?_
        refine lv_sipush (v := 2048) hx hb dX0_addIfNew_33 (by decide) ?_
        refine lv_icmp_ge (tgt := 49) hx hb dX0_addIfNew_36 (by decide) (fun c_4 => ?_) (fun c_4 => ?_)
        · have hP9 := hP
          have hD9 := hD
          exact W.vret hx hb hr (fun t ht hW => ⟨⟨S, rfl, by rw [s_addN, if_pos (by first | exact Or.inl (by assumption) | exact Or.inr (Or.inl (by assumption)) | exact Or.inr (Or.inr (Or.inl (by assumption))) | exact Or.inr (Or.inr (Or.inr (Or.inl (by assumption)))) | exact Or.inr (Or.inr (Or.inr (Or.inr (by assumption)))))], by rw [ht]; exact hP9, hD9⟩, hS.F ht⟩) hS.2.2 dX0_addIfNew_49
        · refine lv_aload_n hx hb dX0_addIfNew_39 rfl (lv_at hl 2 rfl) ?_
          refine va_get (D := G) (ci := 0) (v := .ref (a 5)) (C := RX0) (T := TX0) (N := 10) hx hb hts in_X0_addIfNew_0 hown hK hP 0 rfl rfl 4 (by decide) (hts (.fieldLink RX0 21 "RampJam$Search" "slots" "[I") (by decide +kernel)) (fun _ h9 => h9) rfl dX0_addIfNew_40 ?_
          refine lv_iload hx hb dX0_addIfNew_43 (lv_at hl 0 rfl) ?_
          refine va_iald hx hb hK hP 4 0 rfl rfl (cl_in2048 (by assumption) (by assumption)) dX0_addIfNew_45 ?_
          refine lv_if_eq (tgt := 50) hx hb dX0_addIfNew_46 (by decide) (fun c_5 => ?_) (fun c_5 => ?_)
          · refine lv_aload_n hx hb dX0_addIfNew_50 rfl (lv_at hl 2 rfl) ?_
            refine va_get (D := G) (ci := 0) (v := .ref (a 5)) (C := RX0) (T := TX0) (N := 10) hx hb hts in_X0_addIfNew_0 hown hK hP 0 rfl rfl 4 (by decide) (hts (.fieldLink RX0 21 "RampJam$Search" "slots" "[I") (by decide +kernel)) (fun _ h9 => h9) rfl dX0_addIfNew_51 ?_
            refine lv_iload hx hb dX0_addIfNew_54 (lv_at hl 0 rfl) ?_
            refine lv_iload hx hb dX0_addIfNew_56 (lv_at hl 1 rfl) ?_
            refine lv_iconst (v := 1) hx hb dX0_addIfNew_58 (by decide) ?_
            refine lv_iadd hx hb dX0_addIfNew_59 ?_
            refine va_iast hx hb hK hP hD hS 4 0 rfl rfl (cl_in2048 (by assumption) (by assumption)) dX0_addIfNew_60 (fun H locs hP hD hS => ?_)
            have hP : va_P G vwCl [((a 1), .inr (0, [.ref (a 6), .ref (a 2), .ref (a 3), .ref (a 4), .ref (a 5), .int (s_fc S), .int (s_fs S), .int (s_sm S), .int (s_sc S), .int (s_sf S)])), ((a 2), .inl (cI, 800, .inl (s_fo S))), ((a 3), .inl (cI, 800, .inl (s_or S))), ((a 4), .inl (cI, 800, .inl (s_mo S))), ((a 5), .inl (cI, 2048, .inl (upd (s_sl S) ((s_slot S x_g).toNatClampNeg) ((s_fc S) + 1)))), ((a 6), .inr (1, [.ref (a 7), .ref (a 8), .ref (a 9), .ref (a 10), .int (nI (y_n Y)), .long (y_rp Y)])), ((a 7), .inl (cI, 9, .inl (y_sz Y))), ((a 8), .inl (cZ, 9, .inl (y_ac Y))), ((a 9), .inl (cI, 9, .inl (y_li Y))), ((a 10), .inl (cJ, 9, .inr (.inl (y_sh Y))))] H := hP
            have hD : va_D A [((a 1), .inr (0, [.ref (a 6), .ref (a 2), .ref (a 3), .ref (a 4), .ref (a 5), .int (s_fc S), .int (s_fs S), .int (s_sm S), .int (s_sc S), .int (s_sf S)])), ((a 2), .inl (cI, 800, .inl (s_fo S))), ((a 3), .inl (cI, 800, .inl (s_or S))), ((a 4), .inl (cI, 800, .inl (s_mo S))), ((a 5), .inl (cI, 2048, .inl (upd (s_sl S) ((s_slot S x_g).toNatClampNeg) ((s_fc S) + 1)))), ((a 6), .inr (1, [.ref (a 7), .ref (a 8), .ref (a 9), .ref (a 10), .int (nI (y_n Y)), .long (y_rp Y)])), ((a 7), .inl (cI, 9, .inl (y_sz Y))), ((a 8), .inl (cZ, 9, .inl (y_ac Y))), ((a 9), .inl (cI, 9, .inl (y_li Y))), ((a 10), .inl (cJ, 9, .inr (.inl (y_sh Y))))] := hD
            refine lv_aload_n hx hb dX0_addIfNew_61 rfl (lv_at hl 2 rfl) ?_
            refine va_get (D := G) (ci := 0) (v := .ref (a 2)) (C := RX0) (T := TX0) (N := 10) hx hb hts in_X0_addIfNew_0 hown hK hP 0 rfl rfl 1 (by decide) (hts (.fieldLink RX0 9 "RampJam$Search" "found" "[I") (by decide +kernel)) (fun _ h9 => h9) rfl dX0_addIfNew_62 ?_
            refine lv_iload hx hb dX0_addIfNew_65 (lv_at hl 1 rfl) ?_
            refine lv_iload_n hx hb dX0_addIfNew_67 rfl (lv_at hl 3 rfl) ?_
            refine va_iast hx hb hK hP hD hS 1 0 rfl rfl (cl_in800 (by assumption) (by assumption)) dX0_addIfNew_68 (fun H locs hP hD hS => ?_)
            have hP : va_P G vwCl [((a 1), .inr (0, [.ref (a 6), .ref (a 2), .ref (a 3), .ref (a 4), .ref (a 5), .int (s_fc S), .int (s_fs S), .int (s_sm S), .int (s_sc S), .int (s_sf S)])), ((a 2), .inl (cI, 800, .inl (upd (s_fo S) ((s_fc S).toNatClampNeg) x_g))), ((a 3), .inl (cI, 800, .inl (s_or S))), ((a 4), .inl (cI, 800, .inl (s_mo S))), ((a 5), .inl (cI, 2048, .inl (upd (s_sl S) ((s_slot S x_g).toNatClampNeg) ((s_fc S) + 1)))), ((a 6), .inr (1, [.ref (a 7), .ref (a 8), .ref (a 9), .ref (a 10), .int (nI (y_n Y)), .long (y_rp Y)])), ((a 7), .inl (cI, 9, .inl (y_sz Y))), ((a 8), .inl (cZ, 9, .inl (y_ac Y))), ((a 9), .inl (cI, 9, .inl (y_li Y))), ((a 10), .inl (cJ, 9, .inr (.inl (y_sh Y))))] H := hP
            have hD : va_D A [((a 1), .inr (0, [.ref (a 6), .ref (a 2), .ref (a 3), .ref (a 4), .ref (a 5), .int (s_fc S), .int (s_fs S), .int (s_sm S), .int (s_sc S), .int (s_sf S)])), ((a 2), .inl (cI, 800, .inl (upd (s_fo S) ((s_fc S).toNatClampNeg) x_g))), ((a 3), .inl (cI, 800, .inl (s_or S))), ((a 4), .inl (cI, 800, .inl (s_mo S))), ((a 5), .inl (cI, 2048, .inl (upd (s_sl S) ((s_slot S x_g).toNatClampNeg) ((s_fc S) + 1)))), ((a 6), .inr (1, [.ref (a 7), .ref (a 8), .ref (a 9), .ref (a 10), .int (nI (y_n Y)), .long (y_rp Y)])), ((a 7), .inl (cI, 9, .inl (y_sz Y))), ((a 8), .inl (cZ, 9, .inl (y_ac Y))), ((a 9), .inl (cI, 9, .inl (y_li Y))), ((a 10), .inl (cJ, 9, .inr (.inl (y_sh Y))))] := hD
            refine lv_aload_n hx hb dX0_addIfNew_69 rfl (lv_at hl 2 rfl) ?_
            refine va_get (D := G) (ci := 0) (v := .ref (a 3)) (C := RX0) (T := TX0) (N := 10) hx hb hts in_X0_addIfNew_0 hown hK hP 0 rfl rfl 2 (by decide) (hts (.fieldLink RX0 15 "RampJam$Search" "origins" "[I") (by decide +kernel)) (fun _ h9 => h9) rfl dX0_addIfNew_70 ?_
            refine lv_iload hx hb dX0_addIfNew_73 (lv_at hl 1 rfl) ?_
            refine lv_iload_n hx hb dX0_addIfNew_75 rfl (lv_at hl 4 rfl) ?_
            refine va_iast hx hb hK hP hD hS 2 0 rfl rfl (cl_in800 (by assumption) (by assumption)) dX0_addIfNew_76 (fun H locs hP hD hS => ?_)
            have hP : va_P G vwCl [((a 1), .inr (0, [.ref (a 6), .ref (a 2), .ref (a 3), .ref (a 4), .ref (a 5), .int (s_fc S), .int (s_fs S), .int (s_sm S), .int (s_sc S), .int (s_sf S)])), ((a 2), .inl (cI, 800, .inl (upd (s_fo S) ((s_fc S).toNatClampNeg) x_g))), ((a 3), .inl (cI, 800, .inl (upd (s_or S) ((s_fc S).toNatClampNeg) o_g))), ((a 4), .inl (cI, 800, .inl (s_mo S))), ((a 5), .inl (cI, 2048, .inl (upd (s_sl S) ((s_slot S x_g).toNatClampNeg) ((s_fc S) + 1)))), ((a 6), .inr (1, [.ref (a 7), .ref (a 8), .ref (a 9), .ref (a 10), .int (nI (y_n Y)), .long (y_rp Y)])), ((a 7), .inl (cI, 9, .inl (y_sz Y))), ((a 8), .inl (cZ, 9, .inl (y_ac Y))), ((a 9), .inl (cI, 9, .inl (y_li Y))), ((a 10), .inl (cJ, 9, .inr (.inl (y_sh Y))))] H := hP
            have hD : va_D A [((a 1), .inr (0, [.ref (a 6), .ref (a 2), .ref (a 3), .ref (a 4), .ref (a 5), .int (s_fc S), .int (s_fs S), .int (s_sm S), .int (s_sc S), .int (s_sf S)])), ((a 2), .inl (cI, 800, .inl (upd (s_fo S) ((s_fc S).toNatClampNeg) x_g))), ((a 3), .inl (cI, 800, .inl (upd (s_or S) ((s_fc S).toNatClampNeg) o_g))), ((a 4), .inl (cI, 800, .inl (s_mo S))), ((a 5), .inl (cI, 2048, .inl (upd (s_sl S) ((s_slot S x_g).toNatClampNeg) ((s_fc S) + 1)))), ((a 6), .inr (1, [.ref (a 7), .ref (a 8), .ref (a 9), .ref (a 10), .int (nI (y_n Y)), .long (y_rp Y)])), ((a 7), .inl (cI, 9, .inl (y_sz Y))), ((a 8), .inl (cZ, 9, .inl (y_ac Y))), ((a 9), .inl (cI, 9, .inl (y_li Y))), ((a 10), .inl (cJ, 9, .inr (.inl (y_sh Y))))] := hD
            refine lv_aload_n hx hb dX0_addIfNew_77 rfl (lv_at hl 2 rfl) ?_
            refine va_get (D := G) (ci := 0) (v := .ref (a 4)) (C := RX0) (T := TX0) (N := 10) hx hb hts in_X0_addIfNew_0 hown hK hP 0 rfl rfl 3 (by decide) (hts (.fieldLink RX0 18 "RampJam$Search" "moveCodes" "[I") (by decide +kernel)) (fun _ h9 => h9) rfl dX0_addIfNew_78 ?_
            refine lv_iload hx hb dX0_addIfNew_81 (lv_at hl 1 rfl) ?_
            refine lv_iload_n hx hb dX0_addIfNew_83 rfl (lv_at hl 5 rfl) ?_
            refine va_iast hx hb hK hP hD hS 3 0 rfl rfl (cl_in800 (by assumption) (by assumption)) dX0_addIfNew_84 (fun H locs hP hD hS => ?_)
            have hP : va_P G vwCl [((a 1), .inr (0, [.ref (a 6), .ref (a 2), .ref (a 3), .ref (a 4), .ref (a 5), .int (s_fc S), .int (s_fs S), .int (s_sm S), .int (s_sc S), .int (s_sf S)])), ((a 2), .inl (cI, 800, .inl (upd (s_fo S) ((s_fc S).toNatClampNeg) x_g))), ((a 3), .inl (cI, 800, .inl (upd (s_or S) ((s_fc S).toNatClampNeg) o_g))), ((a 4), .inl (cI, 800, .inl (upd (s_mo S) ((s_fc S).toNatClampNeg) c_g))), ((a 5), .inl (cI, 2048, .inl (upd (s_sl S) ((s_slot S x_g).toNatClampNeg) ((s_fc S) + 1)))), ((a 6), .inr (1, [.ref (a 7), .ref (a 8), .ref (a 9), .ref (a 10), .int (nI (y_n Y)), .long (y_rp Y)])), ((a 7), .inl (cI, 9, .inl (y_sz Y))), ((a 8), .inl (cZ, 9, .inl (y_ac Y))), ((a 9), .inl (cI, 9, .inl (y_li Y))), ((a 10), .inl (cJ, 9, .inr (.inl (y_sh Y))))] H := hP
            have hD : va_D A [((a 1), .inr (0, [.ref (a 6), .ref (a 2), .ref (a 3), .ref (a 4), .ref (a 5), .int (s_fc S), .int (s_fs S), .int (s_sm S), .int (s_sc S), .int (s_sf S)])), ((a 2), .inl (cI, 800, .inl (upd (s_fo S) ((s_fc S).toNatClampNeg) x_g))), ((a 3), .inl (cI, 800, .inl (upd (s_or S) ((s_fc S).toNatClampNeg) o_g))), ((a 4), .inl (cI, 800, .inl (upd (s_mo S) ((s_fc S).toNatClampNeg) c_g))), ((a 5), .inl (cI, 2048, .inl (upd (s_sl S) ((s_slot S x_g).toNatClampNeg) ((s_fc S) + 1)))), ((a 6), .inr (1, [.ref (a 7), .ref (a 8), .ref (a 9), .ref (a 10), .int (nI (y_n Y)), .long (y_rp Y)])), ((a 7), .inl (cI, 9, .inl (y_sz Y))), ((a 8), .inl (cZ, 9, .inl (y_ac Y))), ((a 9), .inl (cI, 9, .inl (y_li Y))), ((a 10), .inl (cJ, 9, .inr (.inl (y_sh Y))))] := hD
            refine lv_aload_n hx hb dX0_addIfNew_85 rfl (lv_at hl 2 rfl) ?_
            refine lv_iload hx hb dX0_addIfNew_86 (lv_at hl 1 rfl) ?_
            refine lv_iconst (v := 1) hx hb dX0_addIfNew_88 (by decide) ?_
            refine lv_iadd hx hb dX0_addIfNew_89 ?_
            refine va_put (D := G) (ci := 0) (v := .int ((s_fc S) + 1)) (ty := .int) (C := RX0) (T := TX0) (N := 10) hx hb hts in_X0_addIfNew_0 tyX0 tyX0_ok nmX0 hown hK hP hD hS 0 rfl rfl 5 (by decide) (hts (.fieldLink RX0 28 "RampJam$Search" "foundCount" "I") (by decide +kernel)) (fun _ h9 => h9) rfl (by decide +kernel) rfl rfl (Nat.le_of_ble_eq_true rfl) dX0_addIfNew_90 (fun H locs hP hD hS => ?_)
            have hP : va_P G vwCl [((a 1), .inr (0, [.ref (a 6), .ref (a 2), .ref (a 3), .ref (a 4), .ref (a 5), .int ((s_fc S) + 1), .int (s_fs S), .int (s_sm S), .int (s_sc S), .int (s_sf S)])), ((a 2), .inl (cI, 800, .inl (upd (s_fo S) ((s_fc S).toNatClampNeg) x_g))), ((a 3), .inl (cI, 800, .inl (upd (s_or S) ((s_fc S).toNatClampNeg) o_g))), ((a 4), .inl (cI, 800, .inl (upd (s_mo S) ((s_fc S).toNatClampNeg) c_g))), ((a 5), .inl (cI, 2048, .inl (upd (s_sl S) ((s_slot S x_g).toNatClampNeg) ((s_fc S) + 1)))), ((a 6), .inr (1, [.ref (a 7), .ref (a 8), .ref (a 9), .ref (a 10), .int (nI (y_n Y)), .long (y_rp Y)])), ((a 7), .inl (cI, 9, .inl (y_sz Y))), ((a 8), .inl (cZ, 9, .inl (y_ac Y))), ((a 9), .inl (cI, 9, .inl (y_li Y))), ((a 10), .inl (cJ, 9, .inr (.inl (y_sh Y))))] H := hP
            have hD : va_D A [((a 1), .inr (0, [.ref (a 6), .ref (a 2), .ref (a 3), .ref (a 4), .ref (a 5), .int ((s_fc S) + 1), .int (s_fs S), .int (s_sm S), .int (s_sc S), .int (s_sf S)])), ((a 2), .inl (cI, 800, .inl (upd (s_fo S) ((s_fc S).toNatClampNeg) x_g))), ((a 3), .inl (cI, 800, .inl (upd (s_or S) ((s_fc S).toNatClampNeg) o_g))), ((a 4), .inl (cI, 800, .inl (upd (s_mo S) ((s_fc S).toNatClampNeg) c_g))), ((a 5), .inl (cI, 2048, .inl (upd (s_sl S) ((s_slot S x_g).toNatClampNeg) ((s_fc S) + 1)))), ((a 6), .inr (1, [.ref (a 7), .ref (a 8), .ref (a 9), .ref (a 10), .int (nI (y_n Y)), .long (y_rp Y)])), ((a 7), .inl (cI, 9, .inl (y_sz Y))), ((a 8), .inl (cZ, 9, .inl (y_ac Y))), ((a 9), .inl (cI, 9, .inl (y_li Y))), ((a 10), .inl (cJ, 9, .inr (.inl (y_sh Y))))] := hD
            refine lv_aload_n hx hb dX0_addIfNew_93 rfl (lv_at hl 2 rfl) ?_
            refine va_get (D := G) (ci := 0) (v := .int (s_fs S)) (C := RX0) (T := TX0) (N := 10) hx hb hts in_X0_addIfNew_0 hown hK hP 0 rfl rfl 6 (by decide) (hts (.fieldLink RX0 38 "RampJam$Search" "firstSolved" "I") (by decide +kernel)) (fun _ h9 => h9) rfl dX0_addIfNew_94 ?_
            refine lv_iconst (v := (-1)) hx hb dX0_addIfNew_97 (by decide) ?_
            refine lv_icmp_ne (tgt := 116) hx hb dX0_addIfNew_98 (by decide) (fun c_6 => ?_) (fun c_6 => ?_)
            · have hP9 := hP
              have hD9 := hD
              exact W.vret hx hb hr (fun t ht hW => ⟨⟨((upd (s_fo S) ((s_fc S).toNatClampNeg) x_g), (upd (s_or S) ((s_fc S).toNatClampNeg) o_g), (upd (s_mo S) ((s_fc S).toNatClampNeg) c_g), (upd (s_sl S) ((s_slot S x_g).toNatClampNeg) ((s_fc S) + 1)), ((s_fc S) + 1), (s_fs S), (s_sm S), (s_sc S), (s_sf S)), rfl, by rw [s_addN, if_neg (by rintro (h | h | h | h | h) <;> contradiction)]; first | rw [if_pos ⟨by assumption, by assumption⟩] | rw [if_neg (by rintro ⟨h1, h2⟩; contradiction)], by rw [ht]; exact hP9, hD9⟩, hS.F ht⟩) hS.2.2 dX0_addIfNew_116
            · refine lv_iload_n hx hb dX0_addIfNew_101 rfl (lv_at hl 3 rfl) ?_
              refine lv_iconst (v := 0) hx hb dX0_addIfNew_102 (by decide) ?_
              refine ro_i (va_runSN (As := [.int x_g, .int 0]) (rest := []) ⟨hx, hb, hml, hown, hts⟩ ((c_X2_placeIn l G cI cZ cJ a _ x_g 0)) ⟨va_cnB 2 hts gX0_addIfNew_X2_placeIn_n65 rfl rfl rfl (nx_get hN (k := 2) rfl) (hts (.initialized RX2) (by decide +kernel)) (by decide +kernel) ⟨Nat.le_of_ble_eq_true rfl, Nat.le_of_ble_eq_true rfl⟩, hts (.static yX2_placeIn) (by decide +kernel), trivial⟩ ⟨ro_blind, ro_pre va_P0 hK hN⟩ rfl rfl hl.1 rfl (lv_room (Nat.le_of_ble_eq_true rfl)) dX0_addIfNew_103 ⟨Nat.zero_le _, Nat.zero_le _⟩) hS hA hP (fun H locs hP hS => ?_)
              refine lv_iconst (v := 4) hx hb dX0_addIfNew_106 (by decide) ?_
              refine lv_icmp_ne (tgt := 116) hx hb dX0_addIfNew_107 (by decide) (fun c_7 => ?_) (fun c_7 => ?_)
              · have hP9 := hP
                have hD9 := hD
                exact W.vret hx hb hr (fun t ht hW => ⟨⟨((upd (s_fo S) ((s_fc S).toNatClampNeg) x_g), (upd (s_or S) ((s_fc S).toNatClampNeg) o_g), (upd (s_mo S) ((s_fc S).toNatClampNeg) c_g), (upd (s_sl S) ((s_slot S x_g).toNatClampNeg) ((s_fc S) + 1)), ((s_fc S) + 1), (s_fs S), (s_sm S), (s_sc S), (s_sf S)), rfl, by rw [s_addN, if_neg (by rintro (h | h | h | h | h) <;> contradiction)]; first | rw [if_pos ⟨by assumption, by assumption⟩] | rw [if_neg (by rintro ⟨h1, h2⟩; contradiction)], by rw [ht]; exact hP9, hD9⟩, hS.F ht⟩) hS.2.2 dX0_addIfNew_116
              · refine lv_aload_n hx hb dX0_addIfNew_110 rfl (lv_at hl 2 rfl) ?_
                refine lv_iload hx hb dX0_addIfNew_111 (lv_at hl 1 rfl) ?_
                refine va_put (D := G) (ci := 0) (v := .int (s_fc S)) (ty := .int) (C := RX0) (T := TX0) (N := 10) hx hb hts in_X0_addIfNew_0 tyX0 tyX0_ok nmX0 hown hK hP hD hS 0 rfl rfl 6 (by decide) (hts (.fieldLink RX0 38 "RampJam$Search" "firstSolved" "I") (by decide +kernel)) (fun _ h9 => h9) rfl (by decide +kernel) rfl rfl (Nat.le_of_ble_eq_true rfl) dX0_addIfNew_113 (fun H locs hP hD hS => ?_)
                have hP : va_P G vwCl [((a 1), .inr (0, [.ref (a 6), .ref (a 2), .ref (a 3), .ref (a 4), .ref (a 5), .int ((s_fc S) + 1), .int (s_fc S), .int (s_sm S), .int (s_sc S), .int (s_sf S)])), ((a 2), .inl (cI, 800, .inl (upd (s_fo S) ((s_fc S).toNatClampNeg) x_g))), ((a 3), .inl (cI, 800, .inl (upd (s_or S) ((s_fc S).toNatClampNeg) o_g))), ((a 4), .inl (cI, 800, .inl (upd (s_mo S) ((s_fc S).toNatClampNeg) c_g))), ((a 5), .inl (cI, 2048, .inl (upd (s_sl S) ((s_slot S x_g).toNatClampNeg) ((s_fc S) + 1)))), ((a 6), .inr (1, [.ref (a 7), .ref (a 8), .ref (a 9), .ref (a 10), .int (nI (y_n Y)), .long (y_rp Y)])), ((a 7), .inl (cI, 9, .inl (y_sz Y))), ((a 8), .inl (cZ, 9, .inl (y_ac Y))), ((a 9), .inl (cI, 9, .inl (y_li Y))), ((a 10), .inl (cJ, 9, .inr (.inl (y_sh Y))))] H := hP
                have hD : va_D A [((a 1), .inr (0, [.ref (a 6), .ref (a 2), .ref (a 3), .ref (a 4), .ref (a 5), .int ((s_fc S) + 1), .int (s_fc S), .int (s_sm S), .int (s_sc S), .int (s_sf S)])), ((a 2), .inl (cI, 800, .inl (upd (s_fo S) ((s_fc S).toNatClampNeg) x_g))), ((a 3), .inl (cI, 800, .inl (upd (s_or S) ((s_fc S).toNatClampNeg) o_g))), ((a 4), .inl (cI, 800, .inl (upd (s_mo S) ((s_fc S).toNatClampNeg) c_g))), ((a 5), .inl (cI, 2048, .inl (upd (s_sl S) ((s_slot S x_g).toNatClampNeg) ((s_fc S) + 1)))), ((a 6), .inr (1, [.ref (a 7), .ref (a 8), .ref (a 9), .ref (a 10), .int (nI (y_n Y)), .long (y_rp Y)])), ((a 7), .inl (cI, 9, .inl (y_sz Y))), ((a 8), .inl (cZ, 9, .inl (y_ac Y))), ((a 9), .inl (cI, 9, .inl (y_li Y))), ((a 10), .inl (cJ, 9, .inr (.inl (y_sh Y))))] := hD
                have hP9 := hP
                have hD9 := hD
                exact W.vret hx hb hr (fun t ht hW => ⟨⟨((upd (s_fo S) ((s_fc S).toNatClampNeg) x_g), (upd (s_or S) ((s_fc S).toNatClampNeg) o_g), (upd (s_mo S) ((s_fc S).toNatClampNeg) c_g), (upd (s_sl S) ((s_slot S x_g).toNatClampNeg) ((s_fc S) + 1)), ((s_fc S) + 1), (s_fc S), (s_sm S), (s_sc S), (s_sf S)), rfl, by rw [s_addN, if_neg (by rintro (h | h | h | h | h) <;> contradiction)]; first | rw [if_pos ⟨by assumption, by assumption⟩] | rw [if_neg (by rintro ⟨h1, h2⟩; contradiction)], by rw [ht]; exact hP9, hD9⟩, hS.F ht⟩) hS.2.2 dX0_addIfNew_116
          · have hP9 := hP
            have hD9 := hD
            exact W.vret hx hb hr (fun t ht hW => ⟨⟨S, rfl, by rw [s_addN, if_pos (by first | exact Or.inl (by assumption) | exact Or.inr (Or.inl (by assumption)) | exact Or.inr (Or.inr (Or.inl (by assumption))) | exact Or.inr (Or.inr (Or.inr (Or.inl (by assumption)))) | exact Or.inr (Or.inr (Or.inr (Or.inr (by assumption)))))], by rw [ht]; exact hP9, hD9⟩, hS.F ht⟩) hS.2.2 dX0_addIfNew_49

theorem in_X0_addDriven_0 : ∀ w ∈ wsX00, w ∈ wsX0_addDriven := by decide +kernel
set_option maxHeartbeats 4000000 in
set_option maxRecDepth 100000 in
/-- Search.addDriven -/
theorem c_X0_addDriven (l : Launch) (G : va_G) (cI cZ cJ : ClassId) (a : Nat → Nat) (sz : Nat) (S : SS) (Y : YS) (o_g : Int32) (v_g : Int32) (r_g : Int32) (w_g : Int32)  : Met l yX0_addDriven wsX0_addDriven ({ frames := 2, cells := 0, slots := 0, locals := 50 }) (rw_Pc G [(cI, .int), (cZ, .boolean), (cJ, .long)] (wS cI cZ cJ a S Y) sz [.ref (a 1), .int o_g, .int v_g, .int r_g, .int w_g]) (rw_Qv (S := SS) (s_drv S o_g v_g r_g w_g) (fun u : SS => wS cI cZ cJ a u Y) G (wS cI cZ cJ a S Y) sz) 0 0 (va_A (wS cI cZ cJ a S Y) sz) := by
  refine Met.ofW (cc := cX0_addDriven) (maxL := 7) (ret := none) (by decide) rfl ?_
  intro p e s m args below meth c s₁ B hml hv
  obtain ⟨rfl, hsz, hP, hK, hD0, hN⟩ := hv
  have hx := B.exec
  have hb := B.bytes
  have hr := B.returns
  have hts := atoms_spec (ws := wsX0_addDriven) B.pre
  have hown : s.vm.findClass RX0 = some m.cls := findClass_of_methodNamed B.named
  have hlocks := B.notSynchronized
  subst hsz
  have hD0 : va_D (fun _ => True) [((a 1), .inr (0, [.ref (a 6), .ref (a 2), .ref (a 3), .ref (a 4), .ref (a 5), .int (s_fc S), .int (s_fs S), .int (s_sm S), .int (s_sc S), .int (s_sf S)])), ((a 2), .inl (cI, 800, .inl (s_fo S))), ((a 3), .inl (cI, 800, .inl (s_or S))), ((a 4), .inl (cI, 800, .inl (s_mo S))), ((a 5), .inl (cI, 2048, .inl (s_sl S))), ((a 6), .inr (1, [.ref (a 7), .ref (a 8), .ref (a 9), .ref (a 10), .int (nI (y_n Y)), .long (y_rp Y)])), ((a 7), .inl (cI, 9, .inl (y_sz Y))), ((a 8), .inl (cZ, 9, .inl (y_ac Y))), ((a 9), .inl (cI, 9, .inl (y_li Y))), ((a 10), .inl (cJ, 9, .inr (.inl (y_sh Y))))] := hD0
  have hD := hD0.self (sz := s.heap.size)
  unfold rw_Qv
  generalize hAe : va_A (wS cI cZ cJ a S Y) s.heap.size = A at hD ⊢
  have hA : ∀ q : Nat, s.heap.size ≤ q → A q := fun q h => by rw [← hAe]; exact Or.inr h
  have hS : va_S A s.heap s.heap [] := va_S.rf
  have hP : va_P G vwCl [((a 1), .inr (0, [.ref (a 6), .ref (a 2), .ref (a 3), .ref (a 4), .ref (a 5), .int (s_fc S), .int (s_fs S), .int (s_sm S), .int (s_sc S), .int (s_sf S)])), ((a 2), .inl (cI, 800, .inl (s_fo S))), ((a 3), .inl (cI, 800, .inl (s_or S))), ((a 4), .inl (cI, 800, .inl (s_mo S))), ((a 5), .inl (cI, 2048, .inl (s_sl S))), ((a 6), .inr (1, [.ref (a 7), .ref (a 8), .ref (a 9), .ref (a 10), .int (nI (y_n Y)), .long (y_rp Y)])), ((a 7), .inl (cI, 9, .inl (y_sz Y))), ((a 8), .inl (cZ, 9, .inl (y_ac Y))), ((a 9), .inl (cI, 9, .inl (y_li Y))), ((a 10), .inl (cJ, 9, .inr (.inl (y_sh Y))))] s.heap := hP
  have hl := lv_entry ([.ref (a 1), .int o_g, .int v_g, .int r_g, .int w_g]) (n := 7) (Nat.le_of_ble_eq_true rfl)
  rw [lg_entry_eq]
  generalize (lg_sl ([.ref (a 1), .int o_g, .int v_g, .int r_g, .int w_g]) ++ List.replicate (7 - (lg_sl ([.ref (a 1), .int o_g, .int v_g, .int r_g, .int w_g])).length) Slot.unset).toArray = ls at hl ⊢
  have hl : lv_has ls 7 [(0, .ref (a 1)), (1, .int o_g), (2, .int v_g), (3, .int r_g), (4, .int w_g)] := hl
  refine lv_aload_n hx hb dX0_addDriven_0 rfl (lv_at hl 0 rfl) ?_
  refine lv_iload_n hx hb dX0_addDriven_1 rfl (lv_at hl 1 rfl) ?_
  refine ro_i (va_runV (As := [.int o_g]) (rest := []) ⟨hx, hb, hml, hown, hts⟩ ((c_X0_isFound l G cI cZ cJ a _ S Y o_g)) (cwV 1 hts gX0_addDriven_X0_isFound rfl rfl rfl (by decide +kernel) ⟨Nat.le_of_ble_eq_true rfl, Nat.le_of_ble_eq_true rfl⟩) ⟨ro_blind, va_recv hK hP (ci := 0) (q0 := 0) rfl rfl, ro_pre hP hK hN⟩ rfl rfl hl.1 rfl (lv_room (Nat.le_of_ble_eq_true rfl)) dX0_addDriven_2 ⟨Nat.zero_le _, Nat.zero_le _⟩) hS hA hP (fun H locs hP hS => ?_)
  refine lv_if_ne (tgt := 9) hx hb dX0_addDriven_5 (by decide) (fun c_1 => ?_) (fun c_1 => ?_)
  · have c_1 := b1_t c_1
    refine lv_iconst (v := 1) hx hb dX0_addDriven_9 (by decide) ?_
    refine lv_istore (lv' := [(5, .int 1), (0, .ref (a 1)), (1, .int o_g), (2, .int v_g), (3, .int r_g), (4, .int w_g)]) hx hb dX0_addDriven_10 hl (by decide) rfl (fun ls hl => ?_)
    have cut_12 : ∀ (d : Nat) (k_g : Nat) (S_g : SS), k_g ≤ 5 → 5 + 1 ≤ k_g + d → (s_drvL o_g v_g r_g w_g (5 - k_g) k_g S_g = s_drvL o_g v_g r_g w_g 4 1 S) → ∀ (H : Heap) (locs : List Loc), va_P G vwCl [((a 1), .inr (0, [.ref (a 6), .ref (a 2), .ref (a 3), .ref (a 4), .ref (a 5), .int (s_fc S_g), .int (s_fs S_g), .int (s_sm S_g), .int (s_sc S_g), .int (s_sf S_g)])), ((a 2), .inl (cI, 800, .inl (s_fo S_g))), ((a 3), .inl (cI, 800, .inl (s_or S_g))), ((a 4), .inl (cI, 800, .inl (s_mo S_g))), ((a 5), .inl (cI, 2048, .inl (s_sl S_g))), ((a 6), .inr (1, [.ref (a 7), .ref (a 8), .ref (a 9), .ref (a 10), .int (nI (y_n Y)), .long (y_rp Y)])), ((a 7), .inl (cI, 9, .inl (y_sz Y))), ((a 8), .inl (cZ, 9, .inl (y_ac Y))), ((a 9), .inl (cI, 9, .inl (y_li Y))), ((a 10), .inl (cJ, 9, .inr (.inl (y_sh Y))))] H → va_D A [((a 1), .inr (0, [.ref (a 6), .ref (a 2), .ref (a 3), .ref (a 4), .ref (a 5), .int (s_fc S_g), .int (s_fs S_g), .int (s_sm S_g), .int (s_sc S_g), .int (s_sf S_g)])), ((a 2), .inl (cI, 800, .inl (s_fo S_g))), ((a 3), .inl (cI, 800, .inl (s_or S_g))), ((a 4), .inl (cI, 800, .inl (s_mo S_g))), ((a 5), .inl (cI, 2048, .inl (s_sl S_g))), ((a 6), .inr (1, [.ref (a 7), .ref (a 8), .ref (a 9), .ref (a 10), .int (nI (y_n Y)), .long (y_rp Y)])), ((a 7), .inl (cI, 9, .inl (y_sz Y))), ((a 8), .inl (cZ, 9, .inl (y_ac Y))), ((a 9), .inl (cI, 9, .inl (y_li Y))), ((a 10), .inl (cJ, 9, .inr (.inl (y_sh Y))))] → va_S A s.heap H locs → ∀ (ls : Array Slot), lv_has ls 7 [(0, .ref (a 1)), (1, .int o_g), (2, .int v_g), (3, .int r_g), (4, .int w_g), (5, .int (nI k_g))] → W p l e (headSpec wsX0_addDriven ({ frames := 2, cells := 0, slots := 0, locals := 50 })).room s m ([.ref (a 1), .int o_g, .int v_g, .int r_g, .int w_g] : List Value).toArray below meth c H locs 0 0 (MQ below (va_Qv (fun u : SS => u = (s_drv S o_g v_g r_g w_g)) (fun (u : SS) (t : State) => va_P G vwCl ((fun u : SS => wS cI cZ cJ a u Y) u) t.heap ∧ va_D A ((fun u : SS => wS cI cZ cJ a u Y) u)) A) ([.ref (a 1), .int o_g, .int v_g, .int r_g, .int w_g] : List Value).toArray s 0 0 A) (F0 m 12 ls []) := by
      intro d
      induction d with
      | zero =>
        intro k_g S_g hk_12 hd_12
        exact absurd hd_12 (by omega)
      | succ d ih_12 =>
        intro k_g S_g hk_12 hd_12 hI H locs hP hD hS ls hl
        refine lv_iload hx hb dX0_addDriven_12 (lv_at hl 5 rfl) ?_
        refine lv_iload hx hb dX0_addDriven_14 (lv_at hl 4 rfl) ?_
        refine lv_icmp_gt (tgt := 60) hx hb dX0_addDriven_16 (by decide) (fun c_2 => ?_) (fun c_2 => ?_)
        · have hout : ¬ nI k_g ≤ w_g ∨ ¬ nI k_g ≤ 4 := Or.inl (nx_le c_2)
          have hP9 := hP
          have hD9 := hD
          exact W.vret hx hb hr (fun t ht hW => ⟨⟨S_g, rfl, by rw [s_drv, if_pos c_1, ← hI, s_drvL_out (fun h => by have h1 := h.1; have h2 := h.2; rcases hout with q | q <;> exact q (by assumption))], by rw [ht]; exact hP9, hD9⟩, hS.F ht⟩) hS.2.2 dX0_addDriven_60
        · have hw := nx_nl c_2
          refine lv_iload hx hb dX0_addDriven_19 (lv_at hl 5 rfl) ?_
          refine lv_iconst (v := 4) hx hb dX0_addDriven_21 (by decide) ?_
          refine lv_icmp_gt (tgt := 60) hx hb dX0_addDriven_22 (by decide) (fun c_3 => ?_) (fun c_3 => ?_)
          · have hout : ¬ nI k_g ≤ w_g ∨ ¬ nI k_g ≤ 4 := Or.inr (nx_le c_3)
            have hP9 := hP
            have hD9 := hD
            exact W.vret hx hb hr (fun t ht hW => ⟨⟨S_g, rfl, by rw [s_drv, if_pos c_1, ← hI, s_drvL_out (fun h => by have h1 := h.1; have h2 := h.2; rcases hout with q | q <;> exact q (by assumption))], by rw [ht]; exact hP9, hD9⟩, hS.F ht⟩) hS.2.2 dX0_addDriven_60
          · have h4 := nx_nl c_3
            have hlt : k_g ≤ 4 := (nI_leI (a := k_g) (b := 4) (by omega) (by omega)).mp h4
            refine lv_iload_n hx hb dX0_addDriven_25 rfl (lv_at hl 3 rfl) ?_
            refine lv_iload hx hb dX0_addDriven_26 (lv_at hl 5 rfl) ?_
            refine lv_imul hx hb dX0_addDriven_28 ?_
            refine lv_istore (lv' := [(6, .int (r_g * (nI k_g))), (0, .ref (a 1)), (1, .int o_g), (2, .int v_g), (3, .int r_g), (4, .int w_g), (5, .int (nI k_g))]) hx hb dX0_addDriven_29 hl (by decide) rfl (fun ls hl => ?_)
            refine lv_aload_n hx hb dX0_addDriven_31 rfl (lv_at hl 1 rfl) ?_
            refine lv_aload_n hx hb dX0_addDriven_32 rfl (lv_at hl 1 rfl) ?_
            refine va_get (D := G) (ci := 0) (v := .ref (a 2)) (C := RX0) (T := TX0) (N := 10) hx hb hts in_X0_addDriven_0 hown hK hP 0 rfl rfl 1 (by decide) (hts (.fieldLink RX0 9 "RampJam$Search" "found" "[I") (by decide +kernel)) (fun _ h9 => h9) rfl dX0_addDriven_33 ?_
            refine lv_iload_n hx hb dX0_addDriven_36 rfl (lv_at hl 2 rfl) ?_
            refine va_iald hx hb hK hP 1 0 rfl rfl (s_isF_in c_1) dX0_addDriven_37 ?_
            refine lv_iload_n hx hb dX0_addDriven_38 rfl (lv_at hl 3 rfl) ?_
            refine lv_iload hx hb dX0_addDriven_39 (lv_at hl 0 rfl) ?_
            refine ro_i (va_runSN (As := [.int ((s_fo S_g) (o_g.toNatClampNeg)), .int v_g, .int (r_g * (nI k_g))]) (rest := [.ref (a 1)]) ⟨hx, hb, hml, hown, hts⟩ ((c_X2_moved l G cI cZ cJ a _ ((s_fo S_g) (o_g.toNatClampNeg)) v_g (r_g * (nI k_g)))) ⟨va_cnB 3 hts gX0_addDriven_X2_moved_n96 rfl rfl rfl (nx_get hN (k := 3) rfl) (hts (.initialized RX2) (by decide +kernel)) (by decide +kernel) ⟨Nat.le_of_ble_eq_true rfl, Nat.le_of_ble_eq_true rfl⟩, hts (.static yX2_moved) (by decide +kernel), trivial⟩ ⟨ro_blind, ro_pre va_P0 hK hN⟩ rfl rfl hl.1 rfl (lv_room (Nat.le_of_ble_eq_true rfl)) dX0_addDriven_41 ⟨Nat.zero_le _, Nat.zero_le _⟩) hS hA hP (fun H locs hP hS => ?_)
            refine lv_iload_n hx hb dX0_addDriven_44 rfl (lv_at hl 2 rfl) ?_
            refine lv_iload_n hx hb dX0_addDriven_45 rfl (lv_at hl 3 rfl) ?_
            refine lv_iload hx hb dX0_addDriven_46 (lv_at hl 0 rfl) ?_
            refine ro_i (va_runS (As := [.int v_g, .int (r_g * (nI k_g))]) (rest := [.int o_g, .int (mv ((s_fo S_g) (o_g.toNatClampNeg)) v_g (r_g * (nI k_g))), .ref (a 1)]) ⟨hx, hb, hml, hown, hts⟩ ((c_X0_codeOfMove l G cI cZ cJ a _ v_g (r_g * (nI k_g)))) (va_cwS 2 hts gX0_addDriven_X0_codeOfMove rfl rfl rfl (by decide +kernel) ⟨Nat.le_of_ble_eq_true rfl, Nat.le_of_ble_eq_true rfl⟩) ⟨ro_blind, ro_pre va_P0 hK hN⟩ rfl rfl hl.1 rfl (lv_room (Nat.le_of_ble_eq_true rfl)) dX0_addDriven_48 ⟨Nat.zero_le _, Nat.zero_le _⟩) hS hA hP (fun H locs hP hS => ?_)
            refine rw_v (wr := []) (ws' := [((a 1), .inr (0, [.ref (a 6), .ref (a 2), .ref (a 3), .ref (a 4), .ref (a 5), .int (s_fc (s_addN S_g (mv ((s_fo S_g) (o_g.toNatClampNeg)) v_g (r_g * (nI k_g))) o_g (m_code v_g (r_g * (nI k_g))))), .int (s_fs (s_addN S_g (mv ((s_fo S_g) (o_g.toNatClampNeg)) v_g (r_g * (nI k_g))) o_g (m_code v_g (r_g * (nI k_g))))), .int (s_sm (s_addN S_g (mv ((s_fo S_g) (o_g.toNatClampNeg)) v_g (r_g * (nI k_g))) o_g (m_code v_g (r_g * (nI k_g))))), .int (s_sc (s_addN S_g (mv ((s_fo S_g) (o_g.toNatClampNeg)) v_g (r_g * (nI k_g))) o_g (m_code v_g (r_g * (nI k_g))))), .int (s_sf (s_addN S_g (mv ((s_fo S_g) (o_g.toNatClampNeg)) v_g (r_g * (nI k_g))) o_g (m_code v_g (r_g * (nI k_g)))))])), ((a 2), .inl (cI, 800, .inl (s_fo (s_addN S_g (mv ((s_fo S_g) (o_g.toNatClampNeg)) v_g (r_g * (nI k_g))) o_g (m_code v_g (r_g * (nI k_g))))))), ((a 3), .inl (cI, 800, .inl (s_or (s_addN S_g (mv ((s_fo S_g) (o_g.toNatClampNeg)) v_g (r_g * (nI k_g))) o_g (m_code v_g (r_g * (nI k_g))))))), ((a 4), .inl (cI, 800, .inl (s_mo (s_addN S_g (mv ((s_fo S_g) (o_g.toNatClampNeg)) v_g (r_g * (nI k_g))) o_g (m_code v_g (r_g * (nI k_g))))))), ((a 5), .inl (cI, 2048, .inl (s_sl (s_addN S_g (mv ((s_fo S_g) (o_g.toNatClampNeg)) v_g (r_g * (nI k_g))) o_g (m_code v_g (r_g * (nI k_g))))))), ((a 6), .inr (1, [.ref (a 7), .ref (a 8), .ref (a 9), .ref (a 10), .int (nI (y_n Y)), .long (y_rp Y)])), ((a 7), .inl (cI, 9, .inl (y_sz Y))), ((a 8), .inl (cZ, 9, .inl (y_ac Y))), ((a 9), .inl (cI, 9, .inl (y_li Y))), ((a 10), .inl (cJ, 9, .inr (.inl (y_sh Y))))]) (va_runV (As := [.int (mv ((s_fo S_g) (o_g.toNatClampNeg)) v_g (r_g * (nI k_g))), .int o_g, .int (m_code v_g (r_g * (nI k_g)))]) (rest := []) ⟨hx, hb, hml, hown, hts⟩ ((c_X0_addIfNew l G cI cZ cJ a _ S_g Y (mv ((s_fo S_g) (o_g.toNatClampNeg)) v_g (r_g * (nI k_g))) o_g (m_code v_g (r_g * (nI k_g))))) (cwV 3 hts gX0_addDriven_X0_addIfNew rfl rfl rfl (by decide +kernel) ⟨Nat.le_of_ble_eq_true rfl, Nat.le_of_ble_eq_true rfl⟩) ⟨rw_blind, va_recv hK hP (ci := 0) (q0 := 0) rfl rfl, rw_pre hP hD hK hN⟩ rfl rfl hl.1 rfl (lv_room (Nat.le_of_ble_eq_true rfl)) dX0_addDriven_51 ⟨Nat.zero_le _, Nat.zero_le _⟩) hS hA hP hD [0, 1, 2, 3, 4, 5, 6, 7, 8, 9] [] [0, 1, 2, 3, 4, 5, 6, 7, 8, 9] rfl rfl (by decide) (by decide) rfl (by decide) (fun H locs hP hD hS => ?_)
            refine lv_iinc (v := (nI (k_g + 1))) (lv' := [(5, .int (nI (k_g + 1))), (6, .int (r_g * (nI k_g))), (0, .ref (a 1)), (1, .int o_g), (2, .int v_g), (3, .int r_g), (4, .int w_g)]) hx hb dX0_addDriven_54 hl (k := 6) rfl (nI_1 _) (by decide) rfl (fun ls hl => ?_)
            refine lv_goto (tgt := 12) hx hb dX0_addDriven_57 (by decide) ?_
            exact ih_12 (k_g + 1) (s_addN S_g (mv ((s_fo S_g) (o_g.toNatClampNeg)) v_g (r_g * (nI k_g))) o_g (m_code v_g (r_g * (nI k_g)))) (by omega) (by omega) (by rw [← hI, s_drvL_in (k := k_g) (by omega), if_pos ⟨hw, h4⟩]) _ _ hP hD hS _ (lv_sub hl [2, 3, 4, 5, 6, 0] rfl)
    exact cut_12 (5 + 1) 1 S (by omega) (by omega) (rfl) _ _ hP hD hS _ (lv_sub hl [1, 2, 3, 4, 5, 0] rfl)
  · have c_1 := b1_f c_1
    have hP9 := hP
    have hD9 := hD
    exact W.vret hx hb hr (fun t ht hW => ⟨⟨S, rfl, by rw [s_drv, if_neg c_1], by rw [ht]; exact hP9, hD9⟩, hS.F ht⟩) hS.2.2 dX0_addDriven_8

theorem in_X0_addReachedFrom_0 : ∀ w ∈ wsX00, w ∈ wsX0_addReachedFrom := by decide +kernel
set_option maxHeartbeats 4000000 in
set_option maxRecDepth 100000 in
/-- Search.addReachedFrom -/
theorem c_X0_addReachedFrom (l : Launch) (G : va_G) (cI cZ cJ : ClassId) (a : Nat → Nat) (sz : Nat) (S : SS) (Y : YS) (o_g : Int32) (hn : y_n Y ≤ 9) : Met l yX0_addReachedFrom wsX0_addReachedFrom ({ frames := 3, cells := 0, slots := 0, locals := 77 }) (rw_Pc G [(cI, .int), (cZ, .boolean), (cJ, .long)] (wS cI cZ cJ a S Y) sz [.ref (a 1), .int o_g]) (rw_Qv (S := SS) (s_reach Y S o_g) (fun u : SS => wS cI cZ cJ a u Y) G (wS cI cZ cJ a S Y) sz) 0 0 (va_A (wS cI cZ cJ a S Y) sz) := by
  refine Met.ofW (cc := cX0_addReachedFrom) (maxL := 6) (ret := none) (by decide) rfl ?_
  intro p e s m args below meth c s₁ B hml hv
  obtain ⟨rfl, hsz, hP, hK, hD0, hN⟩ := hv
  have hx := B.exec
  have hb := B.bytes
  have hr := B.returns
  have hts := atoms_spec (ws := wsX0_addReachedFrom) B.pre
  have hown : s.vm.findClass RX0 = some m.cls := findClass_of_methodNamed B.named
  have hlocks := B.notSynchronized
  subst hsz
  have hD0 : va_D (fun _ => True) [((a 1), .inr (0, [.ref (a 6), .ref (a 2), .ref (a 3), .ref (a 4), .ref (a 5), .int (s_fc S), .int (s_fs S), .int (s_sm S), .int (s_sc S), .int (s_sf S)])), ((a 2), .inl (cI, 800, .inl (s_fo S))), ((a 3), .inl (cI, 800, .inl (s_or S))), ((a 4), .inl (cI, 800, .inl (s_mo S))), ((a 5), .inl (cI, 2048, .inl (s_sl S))), ((a 6), .inr (1, [.ref (a 7), .ref (a 8), .ref (a 9), .ref (a 10), .int (nI (y_n Y)), .long (y_rp Y)])), ((a 7), .inl (cI, 9, .inl (y_sz Y))), ((a 8), .inl (cZ, 9, .inl (y_ac Y))), ((a 9), .inl (cI, 9, .inl (y_li Y))), ((a 10), .inl (cJ, 9, .inr (.inl (y_sh Y))))] := hD0
  have hD := hD0.self (sz := s.heap.size)
  unfold rw_Qv
  generalize hAe : va_A (wS cI cZ cJ a S Y) s.heap.size = A at hD ⊢
  have hA : ∀ q : Nat, s.heap.size ≤ q → A q := fun q h => by rw [← hAe]; exact Or.inr h
  have hS : va_S A s.heap s.heap [] := va_S.rf
  have hP : va_P G vwCl [((a 1), .inr (0, [.ref (a 6), .ref (a 2), .ref (a 3), .ref (a 4), .ref (a 5), .int (s_fc S), .int (s_fs S), .int (s_sm S), .int (s_sc S), .int (s_sf S)])), ((a 2), .inl (cI, 800, .inl (s_fo S))), ((a 3), .inl (cI, 800, .inl (s_or S))), ((a 4), .inl (cI, 800, .inl (s_mo S))), ((a 5), .inl (cI, 2048, .inl (s_sl S))), ((a 6), .inr (1, [.ref (a 7), .ref (a 8), .ref (a 9), .ref (a 10), .int (nI (y_n Y)), .long (y_rp Y)])), ((a 7), .inl (cI, 9, .inl (y_sz Y))), ((a 8), .inl (cZ, 9, .inl (y_ac Y))), ((a 9), .inl (cI, 9, .inl (y_li Y))), ((a 10), .inl (cJ, 9, .inr (.inl (y_sh Y))))] s.heap := hP
  have hl := lv_entry ([.ref (a 1), .int o_g]) (n := 6) (Nat.le_of_ble_eq_true rfl)
  rw [lg_entry_eq]
  generalize (lg_sl ([.ref (a 1), .int o_g]) ++ List.replicate (6 - (lg_sl ([.ref (a 1), .int o_g])).length) Slot.unset).toArray = ls at hl ⊢
  have hl : lv_has ls 6 [(0, .ref (a 1)), (1, .int o_g)] := hl
  refine lv_aload_n hx hb dX0_addReachedFrom_0 rfl (lv_at hl 0 rfl) ?_
  refine lv_iload_n hx hb dX0_addReachedFrom_1 rfl (lv_at hl 1 rfl) ?_
  refine ro_i (va_runV (As := [.int o_g]) (rest := []) ⟨hx, hb, hml, hown, hts⟩ ((c_X0_isFound l G cI cZ cJ a _ S Y o_g)) (cwV 1 hts gX0_addReachedFrom_X0_isFound rfl rfl rfl (by decide +kernel) ⟨Nat.le_of_ble_eq_true rfl, Nat.le_of_ble_eq_true rfl⟩) ⟨ro_blind, va_recv hK hP (ci := 0) (q0 := 0) rfl rfl, ro_pre hP hK hN⟩ rfl rfl hl.1 rfl (lv_room (Nat.le_of_ble_eq_true rfl)) dX0_addReachedFrom_2 ⟨Nat.zero_le _, Nat.zero_le _⟩) hS hA hP (fun H locs hP hS => ?_)
  refine lv_if_ne (tgt := 9) hx hb dX0_addReachedFrom_5 (by decide) (fun c_1 => ?_) (fun c_1 => ?_)
  · have c_1 := b1_t c_1
    refine lv_aload_n hx hb dX0_addReachedFrom_9 rfl (lv_at hl 0 rfl) ?_
    refine va_get (D := G) (ci := 0) (v := .ref (a 2)) (C := RX0) (T := TX0) (N := 10) hx hb hts in_X0_addReachedFrom_0 hown hK hP 0 rfl rfl 1 (by decide) (hts (.fieldLink RX0 9 "RampJam$Search" "found" "[I") (by decide +kernel)) (fun _ h9 => h9) rfl dX0_addReachedFrom_10 ?_
    refine lv_iload_n hx hb dX0_addReachedFrom_13 rfl (lv_at hl 1 rfl) ?_
    refine va_iald hx hb hK hP 1 0 rfl rfl (s_isF_in c_1) dX0_addReachedFrom_14 ?_
    refine lv_istore_n (lv' := [(2, .int ((s_fo S) (o_g.toNatClampNeg))), (0, .ref (a 1)), (1, .int o_g)]) hx hb dX0_addReachedFrom_15 rfl hl (by decide) rfl (fun ls hl => ?_)
    refine lv_aload_n hx hb dX0_addReachedFrom_16 rfl (lv_at hl 1 rfl) ?_
    refine va_get (D := G) (ci := 0) (v := .ref (a 6)) (C := RX0) (T := TX0) (N := 10) hx hb hts in_X0_addReachedFrom_0 hown hK hP 0 rfl rfl 0 (by decide) (hts (.fieldLink RX0 24 "RampJam$Search" "yard" "LRampJam$Yard;") (by decide +kernel)) (fun _ h9 => h9) rfl dX0_addReachedFrom_17 ?_
    refine lv_iload_n hx hb dX0_addReachedFrom_20 rfl (lv_at hl 0 rfl) ?_
    have hPc := hP.sub (ws' := [((a 6), .inr (1, [.ref (a 7), .ref (a 8), .ref (a 9), .ref (a 10), .int (nI (y_n Y)), .long (y_rp Y)])), ((a 7), .inl (cI, 9, .inl (y_sz Y))), ((a 8), .inl (cZ, 9, .inl (y_ac Y))), ((a 9), .inl (cI, 9, .inl (y_li Y))), ((a 10), .inl (cJ, 9, .inr (.inl (y_sh Y))))]) [5, 6, 7, 8, 9] rfl
    refine ro_l (va_runV (As := [.int ((s_fo S) (o_g.toNatClampNeg))]) (rest := []) ⟨hx, hb, hml, hown, hts⟩ ((c_X1_filledIn l G cI cZ cJ a _ Y ((s_fo S) (o_g.toNatClampNeg)) hn)) (cwV 1 hts gX0_addReachedFrom_X1_filledIn rfl rfl rfl (by decide +kernel) ⟨Nat.le_of_ble_eq_true rfl, Nat.le_of_ble_eq_true rfl⟩) ⟨ro_blind, va_recv hK hPc (ci := 1) (q0 := 0) rfl rfl, ro_pre hPc hK hN⟩ rfl rfl hl.1 rfl (lv_room (Nat.le_of_ble_eq_true rfl)) dX0_addReachedFrom_21 ⟨Nat.zero_le _, Nat.zero_le _⟩) hS hA hP (fun H locs hP hS => ?_)
    refine lv_lstore_n (lv' := [(3, .long (y_fil Y ((s_fo S) (o_g.toNatClampNeg)) (y_n Y))), (2, .int ((s_fo S) (o_g.toNatClampNeg))), (0, .ref (a 1)), (1, .int o_g)]) hx hb dX0_addReachedFrom_24 rfl hl (by decide) rfl (fun ls hl => ?_)
    refine lv_iconst (v := 0) hx hb dX0_addReachedFrom_25 (by decide) ?_
    refine lv_istore (lv' := [(5, .int 0), (3, .long (y_fil Y ((s_fo S) (o_g.toNatClampNeg)) (y_n Y))), (2, .int ((s_fo S) (o_g.toNatClampNeg))), (0, .ref (a 1)), (1, .int o_g)]) hx hb dX0_addReachedFrom_26 hl (by decide) rfl (fun ls hl => ?_)
    have cut_28 : ∀ (d : Nat) (k_g : Nat) (S_g : SS), k_g ≤ y_n Y → y_n Y + 1 ≤ k_g + d → (s_reachL Y o_g (s_fo S o_g.toNatClampNeg) (y_fil Y (s_fo S o_g.toNatClampNeg) (y_n Y)) (y_n Y - k_g) k_g S_g = s_reachL Y o_g (s_fo S o_g.toNatClampNeg) (y_fil Y (s_fo S o_g.toNatClampNeg) (y_n Y)) (y_n Y) 0 S) → ∀ (H : Heap) (locs : List Loc), va_P G vwCl [((a 1), .inr (0, [.ref (a 6), .ref (a 2), .ref (a 3), .ref (a 4), .ref (a 5), .int (s_fc S_g), .int (s_fs S_g), .int (s_sm S_g), .int (s_sc S_g), .int (s_sf S_g)])), ((a 2), .inl (cI, 800, .inl (s_fo S_g))), ((a 3), .inl (cI, 800, .inl (s_or S_g))), ((a 4), .inl (cI, 800, .inl (s_mo S_g))), ((a 5), .inl (cI, 2048, .inl (s_sl S_g))), ((a 6), .inr (1, [.ref (a 7), .ref (a 8), .ref (a 9), .ref (a 10), .int (nI (y_n Y)), .long (y_rp Y)])), ((a 7), .inl (cI, 9, .inl (y_sz Y))), ((a 8), .inl (cZ, 9, .inl (y_ac Y))), ((a 9), .inl (cI, 9, .inl (y_li Y))), ((a 10), .inl (cJ, 9, .inr (.inl (y_sh Y))))] H → va_D A [((a 1), .inr (0, [.ref (a 6), .ref (a 2), .ref (a 3), .ref (a 4), .ref (a 5), .int (s_fc S_g), .int (s_fs S_g), .int (s_sm S_g), .int (s_sc S_g), .int (s_sf S_g)])), ((a 2), .inl (cI, 800, .inl (s_fo S_g))), ((a 3), .inl (cI, 800, .inl (s_or S_g))), ((a 4), .inl (cI, 800, .inl (s_mo S_g))), ((a 5), .inl (cI, 2048, .inl (s_sl S_g))), ((a 6), .inr (1, [.ref (a 7), .ref (a 8), .ref (a 9), .ref (a 10), .int (nI (y_n Y)), .long (y_rp Y)])), ((a 7), .inl (cI, 9, .inl (y_sz Y))), ((a 8), .inl (cZ, 9, .inl (y_ac Y))), ((a 9), .inl (cI, 9, .inl (y_li Y))), ((a 10), .inl (cJ, 9, .inr (.inl (y_sh Y))))] → va_S A s.heap H locs → ∀ (ls : Array Slot), lv_has ls 6 [(0, .ref (a 1)), (1, .int o_g), (2, .int (s_fo S o_g.toNatClampNeg)), (3, .long (y_fil Y (s_fo S o_g.toNatClampNeg) (y_n Y))), (5, .int (nI k_g))] → W p l e (headSpec wsX0_addReachedFrom ({ frames := 3, cells := 0, slots := 0, locals := 77 })).room s m ([.ref (a 1), .int o_g] : List Value).toArray below meth c H locs 0 0 (MQ below (va_Qv (fun u : SS => u = (s_reach Y S o_g)) (fun (u : SS) (t : State) => va_P G vwCl ((fun u : SS => wS cI cZ cJ a u Y) u) t.heap ∧ va_D A ((fun u : SS => wS cI cZ cJ a u Y) u)) A) ([.ref (a 1), .int o_g] : List Value).toArray s 0 0 A) (F0 m 28 ls []) := by
      intro d
      induction d with
      | zero =>
        intro k_g S_g hk_28 hd_28
        exact absurd hd_28 (by omega)
      | succ d ih_28 =>
        intro k_g S_g hk_28 hd_28 hI H locs hP hD hS ls hl
        refine lv_iload hx hb dX0_addReachedFrom_28 (lv_at hl 4 rfl) ?_
        refine lv_aload_n hx hb dX0_addReachedFrom_30 rfl (lv_at hl 0 rfl) ?_
        refine va_get (D := G) (ci := 0) (v := .ref (a 6)) (C := RX0) (T := TX0) (N := 10) hx hb hts in_X0_addReachedFrom_0 hown hK hP 0 rfl rfl 0 (by decide) (hts (.fieldLink RX0 24 "RampJam$Search" "yard" "LRampJam$Yard;") (by decide +kernel)) (fun _ h9 => h9) rfl dX0_addReachedFrom_31 ?_
        have hPc := hP.sub (ws' := [((a 6), .inr (1, [.ref (a 7), .ref (a 8), .ref (a 9), .ref (a 10), .int (nI (y_n Y)), .long (y_rp Y)])), ((a 7), .inl (cI, 9, .inl (y_sz Y))), ((a 8), .inl (cZ, 9, .inl (y_ac Y))), ((a 9), .inl (cI, 9, .inl (y_li Y))), ((a 10), .inl (cJ, 9, .inr (.inl (y_sh Y))))]) [5, 6, 7, 8, 9] rfl
        refine ro_i (va_runV (As := []) (rest := [.int (nI k_g)]) ⟨hx, hb, hml, hown, hts⟩ ((c_X1_count l G cI cZ cJ a _ Y)) (cwV 0 hts gX0_addReachedFrom_X1_count rfl rfl rfl (by decide +kernel) ⟨Nat.le_of_ble_eq_true rfl, Nat.le_of_ble_eq_true rfl⟩) ⟨ro_blind, va_recv hK hPc (ci := 1) (q0 := 0) rfl rfl, ro_pre hPc hK hN⟩ rfl rfl hl.1 rfl (lv_room (Nat.le_of_ble_eq_true rfl)) dX0_addReachedFrom_34 ⟨Nat.zero_le _, Nat.zero_le _⟩) hS hA hP (fun H locs hP hS => ?_)
        refine lv_icmp_ge (tgt := 86) hx hb dX0_addReachedFrom_37 (by decide) (fun c_2 => ?_) (fun c_2 => ?_)
        · have hkn : k_g = y_n Y := Nat.le_antisymm hk_28 (nx_ge (by omega) (by omega) c_2)
          have hP9 := hP
          have hD9 := hD
          exact W.vret hx hb hr (fun t ht hW => ⟨⟨S_g, rfl, by rw [s_reach, if_pos c_1, ← hI, hkn, Nat.sub_self]; rfl, by rw [ht]; exact hP9, hD9⟩, hS.F ht⟩) hS.2.2 dX0_addReachedFrom_86
        · have hlt : k_g < y_n Y := nx_lt (by omega) (by omega) c_2
          refine lv_aload_n hx hb dX0_addReachedFrom_40 rfl (lv_at hl 0 rfl) ?_
          refine lv_iload_n hx hb dX0_addReachedFrom_41 rfl (lv_at hl 1 rfl) ?_
          refine lv_iload hx hb dX0_addReachedFrom_42 (lv_at hl 4 rfl) ?_
          refine lv_iconst (v := (-1)) hx hb dX0_addReachedFrom_44 (by decide) ?_
          refine lv_aload_n hx hb dX0_addReachedFrom_45 rfl (lv_at hl 0 rfl) ?_
          refine va_get (D := G) (ci := 0) (v := .ref (a 6)) (C := RX0) (T := TX0) (N := 10) hx hb hts in_X0_addReachedFrom_0 hown hK hP 0 rfl rfl 0 (by decide) (hts (.fieldLink RX0 24 "RampJam$Search" "yard" "LRampJam$Yard;") (by decide +kernel)) (fun _ h9 => h9) rfl dX0_addReachedFrom_46 ?_
          refine lv_iload_n hx hb dX0_addReachedFrom_49 rfl (lv_at hl 2 rfl) ?_
          refine lv_lload_n hx hb dX0_addReachedFrom_50 rfl (lv_at hl 3 rfl) ?_
          refine lv_iload hx hb dX0_addReachedFrom_51 (lv_at hl 4 rfl) ?_
          refine lv_iconst (v := (-1)) hx hb dX0_addReachedFrom_53 (by decide) ?_
          have hPc := hP.sub (ws' := [((a 6), .inr (1, [.ref (a 7), .ref (a 8), .ref (a 9), .ref (a 10), .int (nI (y_n Y)), .long (y_rp Y)])), ((a 7), .inl (cI, 9, .inl (y_sz Y))), ((a 8), .inl (cZ, 9, .inl (y_ac Y))), ((a 9), .inl (cI, 9, .inl (y_li Y))), ((a 10), .inl (cJ, 9, .inr (.inl (y_sh Y))))]) [5, 6, 7, 8, 9] rfl
          refine ro_i (va_runV (As := [.int (s_fo S o_g.toNatClampNeg), .long (y_fil Y (s_fo S o_g.toNatClampNeg) (y_n Y)), .int (nI k_g), .int (-1)]) (rest := [.int (-1), .int (nI k_g), .int o_g, .ref (a 1)]) ⟨hx, hb, hml, hown, hts⟩ ((c_X1_wayIn l G cI cZ cJ a _ Y (s_fo S o_g.toNatClampNeg) (y_fil Y (s_fo S o_g.toNatClampNeg) (y_n Y)) (nI k_g) (-1))) (cwV 4 hts gX0_addReachedFrom_X1_wayIn rfl rfl rfl (by decide +kernel) ⟨Nat.le_of_ble_eq_true rfl, Nat.le_of_ble_eq_true rfl⟩) ⟨ro_blind, va_recv hK hPc (ci := 1) (q0 := 0) rfl rfl, ro_pre hPc hK hN⟩ rfl rfl hl.1 rfl (lv_room (Nat.le_of_ble_eq_true rfl)) dX0_addReachedFrom_54 ⟨Nat.zero_le _, Nat.zero_le _⟩) hS hA hP (fun H locs hP hS => ?_)
          refine rw_v (wr := []) (ws' := [((a 1), .inr (0, [.ref (a 6), .ref (a 2), .ref (a 3), .ref (a 4), .ref (a 5), .int (s_fc (s_drv S_g o_g (nI k_g) (-1 : Int32) (y_way Y (s_fo S o_g.toNatClampNeg) (y_fil Y (s_fo S o_g.toNatClampNeg) (y_n Y)) (nI k_g) (-1)))), .int (s_fs (s_drv S_g o_g (nI k_g) (-1 : Int32) (y_way Y (s_fo S o_g.toNatClampNeg) (y_fil Y (s_fo S o_g.toNatClampNeg) (y_n Y)) (nI k_g) (-1)))), .int (s_sm (s_drv S_g o_g (nI k_g) (-1 : Int32) (y_way Y (s_fo S o_g.toNatClampNeg) (y_fil Y (s_fo S o_g.toNatClampNeg) (y_n Y)) (nI k_g) (-1)))), .int (s_sc (s_drv S_g o_g (nI k_g) (-1 : Int32) (y_way Y (s_fo S o_g.toNatClampNeg) (y_fil Y (s_fo S o_g.toNatClampNeg) (y_n Y)) (nI k_g) (-1)))), .int (s_sf (s_drv S_g o_g (nI k_g) (-1 : Int32) (y_way Y (s_fo S o_g.toNatClampNeg) (y_fil Y (s_fo S o_g.toNatClampNeg) (y_n Y)) (nI k_g) (-1))))])), ((a 2), .inl (cI, 800, .inl (s_fo (s_drv S_g o_g (nI k_g) (-1 : Int32) (y_way Y (s_fo S o_g.toNatClampNeg) (y_fil Y (s_fo S o_g.toNatClampNeg) (y_n Y)) (nI k_g) (-1)))))), ((a 3), .inl (cI, 800, .inl (s_or (s_drv S_g o_g (nI k_g) (-1 : Int32) (y_way Y (s_fo S o_g.toNatClampNeg) (y_fil Y (s_fo S o_g.toNatClampNeg) (y_n Y)) (nI k_g) (-1)))))), ((a 4), .inl (cI, 800, .inl (s_mo (s_drv S_g o_g (nI k_g) (-1 : Int32) (y_way Y (s_fo S o_g.toNatClampNeg) (y_fil Y (s_fo S o_g.toNatClampNeg) (y_n Y)) (nI k_g) (-1)))))), ((a 5), .inl (cI, 2048, .inl (s_sl (s_drv S_g o_g (nI k_g) (-1 : Int32) (y_way Y (s_fo S o_g.toNatClampNeg) (y_fil Y (s_fo S o_g.toNatClampNeg) (y_n Y)) (nI k_g) (-1)))))), ((a 6), .inr (1, [.ref (a 7), .ref (a 8), .ref (a 9), .ref (a 10), .int (nI (y_n Y)), .long (y_rp Y)])), ((a 7), .inl (cI, 9, .inl (y_sz Y))), ((a 8), .inl (cZ, 9, .inl (y_ac Y))), ((a 9), .inl (cI, 9, .inl (y_li Y))), ((a 10), .inl (cJ, 9, .inr (.inl (y_sh Y))))]) (va_runV (As := [.int o_g, .int (nI k_g), .int (-1), .int (y_way Y (s_fo S o_g.toNatClampNeg) (y_fil Y (s_fo S o_g.toNatClampNeg) (y_n Y)) (nI k_g) (-1))]) (rest := []) ⟨hx, hb, hml, hown, hts⟩ ((c_X0_addDriven l G cI cZ cJ a _ S_g Y o_g (nI k_g) (-1) (y_way Y (s_fo S o_g.toNatClampNeg) (y_fil Y (s_fo S o_g.toNatClampNeg) (y_n Y)) (nI k_g) (-1)))) (cwV 4 hts gX0_addReachedFrom_X0_addDriven rfl rfl rfl (by decide +kernel) ⟨Nat.le_of_ble_eq_true rfl, Nat.le_of_ble_eq_true rfl⟩) ⟨rw_blind, va_recv hK hP (ci := 0) (q0 := 0) rfl rfl, rw_pre hP hD hK hN⟩ rfl rfl hl.1 rfl (lv_room (Nat.le_of_ble_eq_true rfl)) dX0_addReachedFrom_57 ⟨Nat.zero_le _, Nat.zero_le _⟩) hS hA hP hD [0, 1, 2, 3, 4, 5, 6, 7, 8, 9] [] [0, 1, 2, 3, 4, 5, 6, 7, 8, 9] rfl rfl (by decide) (by decide) rfl (by decide) (fun H locs hP hD hS => ?_)
          refine lv_aload_n hx hb dX0_addReachedFrom_60 rfl (lv_at hl 0 rfl) ?_
          refine lv_iload_n hx hb dX0_addReachedFrom_61 rfl (lv_at hl 1 rfl) ?_
          refine lv_iload hx hb dX0_addReachedFrom_62 (lv_at hl 4 rfl) ?_
          refine lv_iconst (v := 1) hx hb dX0_addReachedFrom_64 (by decide) ?_
          refine lv_aload_n hx hb dX0_addReachedFrom_65 rfl (lv_at hl 0 rfl) ?_
          refine va_get (D := G) (ci := 0) (v := .ref (a 6)) (C := RX0) (T := TX0) (N := 10) hx hb hts in_X0_addReachedFrom_0 hown hK hP 0 rfl rfl 0 (by decide) (hts (.fieldLink RX0 24 "RampJam$Search" "yard" "LRampJam$Yard;") (by decide +kernel)) (fun _ h9 => h9) rfl dX0_addReachedFrom_66 ?_
          refine lv_iload_n hx hb dX0_addReachedFrom_69 rfl (lv_at hl 2 rfl) ?_
          refine lv_lload_n hx hb dX0_addReachedFrom_70 rfl (lv_at hl 3 rfl) ?_
          refine lv_iload hx hb dX0_addReachedFrom_71 (lv_at hl 4 rfl) ?_
          refine lv_iconst (v := 1) hx hb dX0_addReachedFrom_73 (by decide) ?_
          have hPc := hP.sub (ws' := [((a 6), .inr (1, [.ref (a 7), .ref (a 8), .ref (a 9), .ref (a 10), .int (nI (y_n Y)), .long (y_rp Y)])), ((a 7), .inl (cI, 9, .inl (y_sz Y))), ((a 8), .inl (cZ, 9, .inl (y_ac Y))), ((a 9), .inl (cI, 9, .inl (y_li Y))), ((a 10), .inl (cJ, 9, .inr (.inl (y_sh Y))))]) [5, 6, 7, 8, 9] rfl
          refine ro_i (va_runV (As := [.int (s_fo S o_g.toNatClampNeg), .long (y_fil Y (s_fo S o_g.toNatClampNeg) (y_n Y)), .int (nI k_g), .int 1]) (rest := [.int 1, .int (nI k_g), .int o_g, .ref (a 1)]) ⟨hx, hb, hml, hown, hts⟩ ((c_X1_wayIn l G cI cZ cJ a _ Y (s_fo S o_g.toNatClampNeg) (y_fil Y (s_fo S o_g.toNatClampNeg) (y_n Y)) (nI k_g) 1)) (cwV 4 hts gX0_addReachedFrom_X1_wayIn rfl rfl rfl (by decide +kernel) ⟨Nat.le_of_ble_eq_true rfl, Nat.le_of_ble_eq_true rfl⟩) ⟨ro_blind, va_recv hK hPc (ci := 1) (q0 := 0) rfl rfl, ro_pre hPc hK hN⟩ rfl rfl hl.1 rfl (lv_room (Nat.le_of_ble_eq_true rfl)) dX0_addReachedFrom_74 ⟨Nat.zero_le _, Nat.zero_le _⟩) hS hA hP (fun H locs hP hS => ?_)
          refine rw_v (wr := []) (ws' := [((a 1), .inr (0, [.ref (a 6), .ref (a 2), .ref (a 3), .ref (a 4), .ref (a 5), .int (s_fc (s_drv (s_drv S_g o_g (nI k_g) (-1 : Int32) (y_way Y (s_fo S o_g.toNatClampNeg) (y_fil Y (s_fo S o_g.toNatClampNeg) (y_n Y)) (nI k_g) (-1))) o_g (nI k_g) (1 : Int32) (y_way Y (s_fo S o_g.toNatClampNeg) (y_fil Y (s_fo S o_g.toNatClampNeg) (y_n Y)) (nI k_g) 1))), .int (s_fs (s_drv (s_drv S_g o_g (nI k_g) (-1 : Int32) (y_way Y (s_fo S o_g.toNatClampNeg) (y_fil Y (s_fo S o_g.toNatClampNeg) (y_n Y)) (nI k_g) (-1))) o_g (nI k_g) (1 : Int32) (y_way Y (s_fo S o_g.toNatClampNeg) (y_fil Y (s_fo S o_g.toNatClampNeg) (y_n Y)) (nI k_g) 1))), .int (s_sm (s_drv (s_drv S_g o_g (nI k_g) (-1 : Int32) (y_way Y (s_fo S o_g.toNatClampNeg) (y_fil Y (s_fo S o_g.toNatClampNeg) (y_n Y)) (nI k_g) (-1))) o_g (nI k_g) (1 : Int32) (y_way Y (s_fo S o_g.toNatClampNeg) (y_fil Y (s_fo S o_g.toNatClampNeg) (y_n Y)) (nI k_g) 1))), .int (s_sc (s_drv (s_drv S_g o_g (nI k_g) (-1 : Int32) (y_way Y (s_fo S o_g.toNatClampNeg) (y_fil Y (s_fo S o_g.toNatClampNeg) (y_n Y)) (nI k_g) (-1))) o_g (nI k_g) (1 : Int32) (y_way Y (s_fo S o_g.toNatClampNeg) (y_fil Y (s_fo S o_g.toNatClampNeg) (y_n Y)) (nI k_g) 1))), .int (s_sf (s_drv (s_drv S_g o_g (nI k_g) (-1 : Int32) (y_way Y (s_fo S o_g.toNatClampNeg) (y_fil Y (s_fo S o_g.toNatClampNeg) (y_n Y)) (nI k_g) (-1))) o_g (nI k_g) (1 : Int32) (y_way Y (s_fo S o_g.toNatClampNeg) (y_fil Y (s_fo S o_g.toNatClampNeg) (y_n Y)) (nI k_g) 1)))])), ((a 2), .inl (cI, 800, .inl (s_fo (s_drv (s_drv S_g o_g (nI k_g) (-1 : Int32) (y_way Y (s_fo S o_g.toNatClampNeg) (y_fil Y (s_fo S o_g.toNatClampNeg) (y_n Y)) (nI k_g) (-1))) o_g (nI k_g) (1 : Int32) (y_way Y (s_fo S o_g.toNatClampNeg) (y_fil Y (s_fo S o_g.toNatClampNeg) (y_n Y)) (nI k_g) 1))))), ((a 3), .inl (cI, 800, .inl (s_or (s_drv (s_drv S_g o_g (nI k_g) (-1 : Int32) (y_way Y (s_fo S o_g.toNatClampNeg) (y_fil Y (s_fo S o_g.toNatClampNeg) (y_n Y)) (nI k_g) (-1))) o_g (nI k_g) (1 : Int32) (y_way Y (s_fo S o_g.toNatClampNeg) (y_fil Y (s_fo S o_g.toNatClampNeg) (y_n Y)) (nI k_g) 1))))), ((a 4), .inl (cI, 800, .inl (s_mo (s_drv (s_drv S_g o_g (nI k_g) (-1 : Int32) (y_way Y (s_fo S o_g.toNatClampNeg) (y_fil Y (s_fo S o_g.toNatClampNeg) (y_n Y)) (nI k_g) (-1))) o_g (nI k_g) (1 : Int32) (y_way Y (s_fo S o_g.toNatClampNeg) (y_fil Y (s_fo S o_g.toNatClampNeg) (y_n Y)) (nI k_g) 1))))), ((a 5), .inl (cI, 2048, .inl (s_sl (s_drv (s_drv S_g o_g (nI k_g) (-1 : Int32) (y_way Y (s_fo S o_g.toNatClampNeg) (y_fil Y (s_fo S o_g.toNatClampNeg) (y_n Y)) (nI k_g) (-1))) o_g (nI k_g) (1 : Int32) (y_way Y (s_fo S o_g.toNatClampNeg) (y_fil Y (s_fo S o_g.toNatClampNeg) (y_n Y)) (nI k_g) 1))))), ((a 6), .inr (1, [.ref (a 7), .ref (a 8), .ref (a 9), .ref (a 10), .int (nI (y_n Y)), .long (y_rp Y)])), ((a 7), .inl (cI, 9, .inl (y_sz Y))), ((a 8), .inl (cZ, 9, .inl (y_ac Y))), ((a 9), .inl (cI, 9, .inl (y_li Y))), ((a 10), .inl (cJ, 9, .inr (.inl (y_sh Y))))]) (va_runV (As := [.int o_g, .int (nI k_g), .int 1, .int (y_way Y (s_fo S o_g.toNatClampNeg) (y_fil Y (s_fo S o_g.toNatClampNeg) (y_n Y)) (nI k_g) 1)]) (rest := []) ⟨hx, hb, hml, hown, hts⟩ ((c_X0_addDriven l G cI cZ cJ a _ (s_drv S_g o_g (nI k_g) (-1 : Int32) (y_way Y (s_fo S o_g.toNatClampNeg) (y_fil Y (s_fo S o_g.toNatClampNeg) (y_n Y)) (nI k_g) (-1))) Y o_g (nI k_g) 1 (y_way Y (s_fo S o_g.toNatClampNeg) (y_fil Y (s_fo S o_g.toNatClampNeg) (y_n Y)) (nI k_g) 1))) (cwV 4 hts gX0_addReachedFrom_X0_addDriven rfl rfl rfl (by decide +kernel) ⟨Nat.le_of_ble_eq_true rfl, Nat.le_of_ble_eq_true rfl⟩) ⟨rw_blind, va_recv hK hP (ci := 0) (q0 := 0) rfl rfl, rw_pre hP hD hK hN⟩ rfl rfl hl.1 rfl (lv_room (Nat.le_of_ble_eq_true rfl)) dX0_addReachedFrom_77 ⟨Nat.zero_le _, Nat.zero_le _⟩) hS hA hP hD [0, 1, 2, 3, 4, 5, 6, 7, 8, 9] [] [0, 1, 2, 3, 4, 5, 6, 7, 8, 9] rfl rfl (by decide) (by decide) rfl (by decide) (fun H locs hP hD hS => ?_)
          refine lv_iinc (v := (nI (k_g + 1))) (lv' := [(5, .int (nI (k_g + 1))), (0, .ref (a 1)), (1, .int o_g), (2, .int (s_fo S o_g.toNatClampNeg)), (3, .long (y_fil Y (s_fo S o_g.toNatClampNeg) (y_n Y)))]) hx hb dX0_addReachedFrom_80 hl (k := 4) rfl (nI_1 _) (by decide) rfl (fun ls hl => ?_)
          refine lv_goto (tgt := 28) hx hb dX0_addReachedFrom_83 (by decide) ?_
          exact ih_28 (k_g + 1) (s_drv (s_drv S_g o_g (nI k_g) (-1 : Int32) (y_way Y (s_fo S o_g.toNatClampNeg) (y_fil Y (s_fo S o_g.toNatClampNeg) (y_n Y)) (nI k_g) (-1))) o_g (nI k_g) (1 : Int32) (y_way Y (s_fo S o_g.toNatClampNeg) (y_fil Y (s_fo S o_g.toNatClampNeg) (y_n Y)) (nI k_g) 1)) (hlt) (by omega) (by rw [← hI, s_reachL_in hlt]) _ _ hP hD hS _ (lv_sub hl [1, 2, 3, 4, 0] rfl)
    exact cut_28 (y_n Y + 1) 0 S (Nat.zero_le _) (by omega) (rfl) _ _ hP hD hS _ (lv_sub hl [3, 4, 2, 1, 0] rfl)
  · have c_1 := b1_f c_1
    have hP9 := hP
    have hD9 := hD
    exact W.vret hx hb hr (fun t ht hW => ⟨⟨S, rfl, by rw [s_reach, if_neg c_1], by rw [ht]; exact hP9, hD9⟩, hS.F ht⟩) hS.2.2 dX0_addReachedFrom_8

theorem in_X0_traceWay_0 : ∀ w ∈ wsX00, w ∈ wsX0_traceWay := by decide +kernel
set_option maxHeartbeats 4000000 in
set_option maxRecDepth 100000 in
/-- Search.traceWay -/
theorem c_X0_traceWay (l : Launch) (G : va_G) (cI cZ cJ : ClassId) (a : Nat → Nat) (sz : Nat) (S : SS) (Y : YS)  : Met l yX0_traceWay wsX0_traceWay ({ frames := 1, cells := 0, slots := 0, locals := 21 }) (rw_Pc G [(cI, .int), (cZ, .boolean), (cJ, .long)] (wS cI cZ cJ a S Y) sz [.ref (a 1)]) (rw_Qv (S := SS) (s_trace S) (fun u : SS => wS cI cZ cJ a u Y) G (wS cI cZ cJ a S Y) sz) 0 0 (va_A (wS cI cZ cJ a S Y) sz) := by
  refine Met.ofW (cc := cX0_traceWay) (maxL := 3) (ret := none) (by decide) rfl ?_
  intro p e s m args below meth c s₁ B hml hv
  obtain ⟨rfl, hsz, hP, hK, hD0, hN⟩ := hv
  have hx := B.exec
  have hb := B.bytes
  have hr := B.returns
  have hts := atoms_spec (ws := wsX0_traceWay) B.pre
  have hown : s.vm.findClass RX0 = some m.cls := findClass_of_methodNamed B.named
  have hlocks := B.notSynchronized
  subst hsz
  have hD0 : va_D (fun _ => True) [((a 1), .inr (0, [.ref (a 6), .ref (a 2), .ref (a 3), .ref (a 4), .ref (a 5), .int (s_fc S), .int (s_fs S), .int (s_sm S), .int (s_sc S), .int (s_sf S)])), ((a 2), .inl (cI, 800, .inl (s_fo S))), ((a 3), .inl (cI, 800, .inl (s_or S))), ((a 4), .inl (cI, 800, .inl (s_mo S))), ((a 5), .inl (cI, 2048, .inl (s_sl S))), ((a 6), .inr (1, [.ref (a 7), .ref (a 8), .ref (a 9), .ref (a 10), .int (nI (y_n Y)), .long (y_rp Y)])), ((a 7), .inl (cI, 9, .inl (y_sz Y))), ((a 8), .inl (cZ, 9, .inl (y_ac Y))), ((a 9), .inl (cI, 9, .inl (y_li Y))), ((a 10), .inl (cJ, 9, .inr (.inl (y_sh Y))))] := hD0
  have hD := hD0.self (sz := s.heap.size)
  unfold rw_Qv
  generalize hAe : va_A (wS cI cZ cJ a S Y) s.heap.size = A at hD ⊢
  have hA : ∀ q : Nat, s.heap.size ≤ q → A q := fun q h => by rw [← hAe]; exact Or.inr h
  have hS : va_S A s.heap s.heap [] := va_S.rf
  have hP : va_P G vwCl [((a 1), .inr (0, [.ref (a 6), .ref (a 2), .ref (a 3), .ref (a 4), .ref (a 5), .int (s_fc S), .int (s_fs S), .int (s_sm S), .int (s_sc S), .int (s_sf S)])), ((a 2), .inl (cI, 800, .inl (s_fo S))), ((a 3), .inl (cI, 800, .inl (s_or S))), ((a 4), .inl (cI, 800, .inl (s_mo S))), ((a 5), .inl (cI, 2048, .inl (s_sl S))), ((a 6), .inr (1, [.ref (a 7), .ref (a 8), .ref (a 9), .ref (a 10), .int (nI (y_n Y)), .long (y_rp Y)])), ((a 7), .inl (cI, 9, .inl (y_sz Y))), ((a 8), .inl (cZ, 9, .inl (y_ac Y))), ((a 9), .inl (cI, 9, .inl (y_li Y))), ((a 10), .inl (cJ, 9, .inr (.inl (y_sh Y))))] s.heap := hP
  have hl := lv_entry ([.ref (a 1)]) (n := 3) (Nat.le_of_ble_eq_true rfl)
  rw [lg_entry_eq]
  generalize (lg_sl ([.ref (a 1)]) ++ List.replicate (3 - (lg_sl ([.ref (a 1)])).length) Slot.unset).toArray = ls at hl ⊢
  have hl : lv_has ls 3 [(0, .ref (a 1))] := hl
  refine lv_aload_n hx hb dX0_traceWay_0 rfl (lv_at hl 0 rfl) ?_
  have cut_14 : ∀ (q_g : Int32), (q_g = if s_fs S = -1 then -1 else 0) → ∀ (H : Heap) (locs : List Loc), va_P G vwCl [((a 1), .inr (0, [.ref (a 6), .ref (a 2), .ref (a 3), .ref (a 4), .ref (a 5), .int (s_fc S), .int (s_fs S), .int (s_sm S), .int (s_sc S), .int (s_sf S)])), ((a 2), .inl (cI, 800, .inl (s_fo S))), ((a 3), .inl (cI, 800, .inl (s_or S))), ((a 4), .inl (cI, 800, .inl (s_mo S))), ((a 5), .inl (cI, 2048, .inl (s_sl S))), ((a 6), .inr (1, [.ref (a 7), .ref (a 8), .ref (a 9), .ref (a 10), .int (nI (y_n Y)), .long (y_rp Y)])), ((a 7), .inl (cI, 9, .inl (y_sz Y))), ((a 8), .inl (cZ, 9, .inl (y_ac Y))), ((a 9), .inl (cI, 9, .inl (y_li Y))), ((a 10), .inl (cJ, 9, .inr (.inl (y_sh Y))))] H → va_D A [((a 1), .inr (0, [.ref (a 6), .ref (a 2), .ref (a 3), .ref (a 4), .ref (a 5), .int (s_fc S), .int (s_fs S), .int (s_sm S), .int (s_sc S), .int (s_sf S)])), ((a 2), .inl (cI, 800, .inl (s_fo S))), ((a 3), .inl (cI, 800, .inl (s_or S))), ((a 4), .inl (cI, 800, .inl (s_mo S))), ((a 5), .inl (cI, 2048, .inl (s_sl S))), ((a 6), .inr (1, [.ref (a 7), .ref (a 8), .ref (a 9), .ref (a 10), .int (nI (y_n Y)), .long (y_rp Y)])), ((a 7), .inl (cI, 9, .inl (y_sz Y))), ((a 8), .inl (cZ, 9, .inl (y_ac Y))), ((a 9), .inl (cI, 9, .inl (y_li Y))), ((a 10), .inl (cJ, 9, .inr (.inl (y_sh Y))))] → va_S A s.heap H locs → ∀ (ls : Array Slot), lv_has ls 3 [(0, .ref (a 1))] → W p l e (headSpec wsX0_traceWay ({ frames := 1, cells := 0, slots := 0, locals := 21 })).room s m ([.ref (a 1)] : List Value).toArray below meth c H locs 0 0 (MQ below (va_Qv (fun u : SS => u = (s_trace S)) (fun (u : SS) (t : State) => va_P G vwCl ((fun u : SS => wS cI cZ cJ a u Y) u) t.heap ∧ va_D A ((fun u : SS => wS cI cZ cJ a u Y) u)) A) ([.ref (a 1)] : List Value).toArray s 0 0 A) (F0 m 14 ls [.int q_g, .ref (a 1)]) := by
    intro q_g eq_g H locs hP hD hS ls hl
    subst eq_g
    try have hl : lv_has ls 3 [(0, .ref (a 1))] := hl
    refine va_put (D := G) (ci := 0) (v := .int (if s_fs S = -1 then -1 else 0)) (ty := .int) (C := RX0) (T := TX0) (N := 10) hx hb hts in_X0_traceWay_0 tyX0 tyX0_ok nmX0 hown hK hP hD hS 0 rfl rfl 7 (by decide) (hts (.fieldLink RX0 52 "RampJam$Search" "solvedMoves" "I") (by decide +kernel)) (fun _ h9 => h9) rfl (by decide +kernel) rfl rfl (Nat.le_of_ble_eq_true rfl) dX0_traceWay_14 (fun H locs hP hD hS => ?_)
    have hP : va_P G vwCl [((a 1), .inr (0, [.ref (a 6), .ref (a 2), .ref (a 3), .ref (a 4), .ref (a 5), .int (s_fc S), .int (s_fs S), .int (if s_fs S = -1 then -1 else 0), .int (s_sc S), .int (s_sf S)])), ((a 2), .inl (cI, 800, .inl (s_fo S))), ((a 3), .inl (cI, 800, .inl (s_or S))), ((a 4), .inl (cI, 800, .inl (s_mo S))), ((a 5), .inl (cI, 2048, .inl (s_sl S))), ((a 6), .inr (1, [.ref (a 7), .ref (a 8), .ref (a 9), .ref (a 10), .int (nI (y_n Y)), .long (y_rp Y)])), ((a 7), .inl (cI, 9, .inl (y_sz Y))), ((a 8), .inl (cZ, 9, .inl (y_ac Y))), ((a 9), .inl (cI, 9, .inl (y_li Y))), ((a 10), .inl (cJ, 9, .inr (.inl (y_sh Y))))] H := hP
    have hD : va_D A [((a 1), .inr (0, [.ref (a 6), .ref (a 2), .ref (a 3), .ref (a 4), .ref (a 5), .int (s_fc S), .int (s_fs S), .int (if s_fs S = -1 then -1 else 0), .int (s_sc S), .int (s_sf S)])), ((a 2), .inl (cI, 800, .inl (s_fo S))), ((a 3), .inl (cI, 800, .inl (s_or S))), ((a 4), .inl (cI, 800, .inl (s_mo S))), ((a 5), .inl (cI, 2048, .inl (s_sl S))), ((a 6), .inr (1, [.ref (a 7), .ref (a 8), .ref (a 9), .ref (a 10), .int (nI (y_n Y)), .long (y_rp Y)])), ((a 7), .inl (cI, 9, .inl (y_sz Y))), ((a 8), .inl (cZ, 9, .inl (y_ac Y))), ((a 9), .inl (cI, 9, .inl (y_li Y))), ((a 10), .inl (cJ, 9, .inr (.inl (y_sh Y))))] := hD
    refine lv_aload_n hx hb dX0_traceWay_17 rfl (lv_at hl 0 rfl) ?_
    refine lv_iconst (v := 0) hx hb dX0_traceWay_18 (by decide) ?_
    refine va_put (D := G) (ci := 0) (v := .int 0) (ty := .int) (C := RX0) (T := TX0) (N := 10) hx hb hts in_X0_traceWay_0 tyX0 tyX0_ok nmX0 hown hK hP hD hS 0 rfl rfl 8 (by decide) (hts (.fieldLink RX0 55 "RampJam$Search" "solvedCells" "I") (by decide +kernel)) (fun _ h9 => h9) rfl (by decide +kernel) rfl rfl (Nat.le_of_ble_eq_true rfl) dX0_traceWay_19 (fun H locs hP hD hS => ?_)
    have hP : va_P G vwCl [((a 1), .inr (0, [.ref (a 6), .ref (a 2), .ref (a 3), .ref (a 4), .ref (a 5), .int (s_fc S), .int (s_fs S), .int (if s_fs S = -1 then -1 else 0), .int 0, .int (s_sf S)])), ((a 2), .inl (cI, 800, .inl (s_fo S))), ((a 3), .inl (cI, 800, .inl (s_or S))), ((a 4), .inl (cI, 800, .inl (s_mo S))), ((a 5), .inl (cI, 2048, .inl (s_sl S))), ((a 6), .inr (1, [.ref (a 7), .ref (a 8), .ref (a 9), .ref (a 10), .int (nI (y_n Y)), .long (y_rp Y)])), ((a 7), .inl (cI, 9, .inl (y_sz Y))), ((a 8), .inl (cZ, 9, .inl (y_ac Y))), ((a 9), .inl (cI, 9, .inl (y_li Y))), ((a 10), .inl (cJ, 9, .inr (.inl (y_sh Y))))] H := hP
    have hD : va_D A [((a 1), .inr (0, [.ref (a 6), .ref (a 2), .ref (a 3), .ref (a 4), .ref (a 5), .int (s_fc S), .int (s_fs S), .int (if s_fs S = -1 then -1 else 0), .int 0, .int (s_sf S)])), ((a 2), .inl (cI, 800, .inl (s_fo S))), ((a 3), .inl (cI, 800, .inl (s_or S))), ((a 4), .inl (cI, 800, .inl (s_mo S))), ((a 5), .inl (cI, 2048, .inl (s_sl S))), ((a 6), .inr (1, [.ref (a 7), .ref (a 8), .ref (a 9), .ref (a 10), .int (nI (y_n Y)), .long (y_rp Y)])), ((a 7), .inl (cI, 9, .inl (y_sz Y))), ((a 8), .inl (cZ, 9, .inl (y_ac Y))), ((a 9), .inl (cI, 9, .inl (y_li Y))), ((a 10), .inl (cJ, 9, .inr (.inl (y_sh Y))))] := hD
    refine lv_aload_n hx hb dX0_traceWay_22 rfl (lv_at hl 0 rfl) ?_
    refine lv_iconst (v := (-1)) hx hb dX0_traceWay_23 (by decide) ?_
    refine va_put (D := G) (ci := 0) (v := .int (-1)) (ty := .int) (C := RX0) (T := TX0) (N := 10) hx hb hts in_X0_traceWay_0 tyX0 tyX0_ok nmX0 hown hK hP hD hS 0 rfl rfl 9 (by decide) (hts (.fieldLink RX0 58 "RampJam$Search" "solvedFirstMove" "I") (by decide +kernel)) (fun _ h9 => h9) rfl (by decide +kernel) rfl rfl (Nat.le_of_ble_eq_true rfl) dX0_traceWay_24 (fun H locs hP hD hS => ?_)
    have hP : va_P G vwCl [((a 1), .inr (0, [.ref (a 6), .ref (a 2), .ref (a 3), .ref (a 4), .ref (a 5), .int (s_fc S), .int (s_fs S), .int (if s_fs S = -1 then -1 else 0), .int 0, .int (-1)])), ((a 2), .inl (cI, 800, .inl (s_fo S))), ((a 3), .inl (cI, 800, .inl (s_or S))), ((a 4), .inl (cI, 800, .inl (s_mo S))), ((a 5), .inl (cI, 2048, .inl (s_sl S))), ((a 6), .inr (1, [.ref (a 7), .ref (a 8), .ref (a 9), .ref (a 10), .int (nI (y_n Y)), .long (y_rp Y)])), ((a 7), .inl (cI, 9, .inl (y_sz Y))), ((a 8), .inl (cZ, 9, .inl (y_ac Y))), ((a 9), .inl (cI, 9, .inl (y_li Y))), ((a 10), .inl (cJ, 9, .inr (.inl (y_sh Y))))] H := hP
    have hD : va_D A [((a 1), .inr (0, [.ref (a 6), .ref (a 2), .ref (a 3), .ref (a 4), .ref (a 5), .int (s_fc S), .int (s_fs S), .int (if s_fs S = -1 then -1 else 0), .int 0, .int (-1)])), ((a 2), .inl (cI, 800, .inl (s_fo S))), ((a 3), .inl (cI, 800, .inl (s_or S))), ((a 4), .inl (cI, 800, .inl (s_mo S))), ((a 5), .inl (cI, 2048, .inl (s_sl S))), ((a 6), .inr (1, [.ref (a 7), .ref (a 8), .ref (a 9), .ref (a 10), .int (nI (y_n Y)), .long (y_rp Y)])), ((a 7), .inl (cI, 9, .inl (y_sz Y))), ((a 8), .inl (cZ, 9, .inl (y_ac Y))), ((a 9), .inl (cI, 9, .inl (y_li Y))), ((a 10), .inl (cJ, 9, .inr (.inl (y_sh Y))))] := hD
    refine lv_aload_n hx hb dX0_traceWay_27 rfl (lv_at hl 0 rfl) ?_
    refine va_get (D := G) (ci := 0) (v := .int (s_fs S)) (C := RX0) (T := TX0) (N := 10) hx hb hts in_X0_traceWay_0 hown hK hP 0 rfl rfl 6 (by decide) (hts (.fieldLink RX0 38 "RampJam$Search" "firstSolved" "I") (by decide +kernel)) (fun _ h9 => h9) rfl dX0_traceWay_28 ?_
    refine lv_istore_n (lv' := [(1, .int (s_fs S)), (0, .ref (a 1))]) hx hb dX0_traceWay_31 rfl hl (by decide) rfl (fun ls hl => ?_)
    refine lv_iconst (v := 1) hx hb dX0_traceWay_32 (by decide) ?_
    refine lv_istore_n (lv' := [(2, .int 1), (1, .int (s_fs S)), (0, .ref (a 1))]) hx hb dX0_traceWay_33 rfl hl (by decide) rfl (fun ls hl => ?_)
    have cut_34 : ∀ (d : Nat) (k_g : Nat) (j_g : Int32) (S_g : SS), k_g ≤ 800 → 800 + 1 ≤ k_g + d → (s_trL (800 - k_g) k_g j_g S_g = s_trL 799 1 (s_fs S) (s_tr0 S)) → ∀ (H : Heap) (locs : List Loc), va_P G vwCl [((a 1), .inr (0, [.ref (a 6), .ref (a 2), .ref (a 3), .ref (a 4), .ref (a 5), .int (s_fc S_g), .int (s_fs S_g), .int (s_sm S_g), .int (s_sc S_g), .int (s_sf S_g)])), ((a 2), .inl (cI, 800, .inl (s_fo S_g))), ((a 3), .inl (cI, 800, .inl (s_or S_g))), ((a 4), .inl (cI, 800, .inl (s_mo S_g))), ((a 5), .inl (cI, 2048, .inl (s_sl S_g))), ((a 6), .inr (1, [.ref (a 7), .ref (a 8), .ref (a 9), .ref (a 10), .int (nI (y_n Y)), .long (y_rp Y)])), ((a 7), .inl (cI, 9, .inl (y_sz Y))), ((a 8), .inl (cZ, 9, .inl (y_ac Y))), ((a 9), .inl (cI, 9, .inl (y_li Y))), ((a 10), .inl (cJ, 9, .inr (.inl (y_sh Y))))] H → va_D A [((a 1), .inr (0, [.ref (a 6), .ref (a 2), .ref (a 3), .ref (a 4), .ref (a 5), .int (s_fc S_g), .int (s_fs S_g), .int (s_sm S_g), .int (s_sc S_g), .int (s_sf S_g)])), ((a 2), .inl (cI, 800, .inl (s_fo S_g))), ((a 3), .inl (cI, 800, .inl (s_or S_g))), ((a 4), .inl (cI, 800, .inl (s_mo S_g))), ((a 5), .inl (cI, 2048, .inl (s_sl S_g))), ((a 6), .inr (1, [.ref (a 7), .ref (a 8), .ref (a 9), .ref (a 10), .int (nI (y_n Y)), .long (y_rp Y)])), ((a 7), .inl (cI, 9, .inl (y_sz Y))), ((a 8), .inl (cZ, 9, .inl (y_ac Y))), ((a 9), .inl (cI, 9, .inl (y_li Y))), ((a 10), .inl (cJ, 9, .inr (.inl (y_sh Y))))] → va_S A s.heap H locs → ∀ (ls : Array Slot), lv_has ls 3 [(0, .ref (a 1)), (1, .int j_g), (2, .int (nI k_g))] → W p l e (headSpec wsX0_traceWay ({ frames := 1, cells := 0, slots := 0, locals := 21 })).room s m ([.ref (a 1)] : List Value).toArray below meth c H locs 0 0 (MQ below (va_Qv (fun u : SS => u = (s_trace S)) (fun (u : SS) (t : State) => va_P G vwCl ((fun u : SS => wS cI cZ cJ a u Y) u) t.heap ∧ va_D A ((fun u : SS => wS cI cZ cJ a u Y) u)) A) ([.ref (a 1)] : List Value).toArray s 0 0 A) (F0 m 34 ls []) := by
      intro d
      induction d with
      | zero =>
        intro k_g j_g S_g hk_34 hd_34
        exact absurd hd_34 (by omega)
      | succ d ih_34 =>
        intro k_g j_g S_g hk_34 hd_34 hI H locs hP hD hS ls hl
        refine lv_iload_n hx hb dX0_traceWay_34 rfl (lv_at hl 2 rfl) ?_
        refine lv_sipush (v := 800) hx hb dX0_traceWay_35 (by decide) ?_
        refine lv_icmp_ge (tgt := 102) hx hb dX0_traceWay_38 (by decide) (fun c_1 => ?_) (fun c_1 => ?_)
        · have hk8 := nx_ge (n := 800) (by omega) (by omega) c_1
          have hres : S_g = s_trL (800 - k_g) k_g j_g S_g := by rw [show 800 - k_g = 0 by omega]; rfl
          have hP9 := hP
          have hD9 := hD
          exact W.vret hx hb hr (fun t ht hW => ⟨⟨S_g, rfl, by rw [s_trace, ← hI]; exact hres, by rw [ht]; exact hP9, hD9⟩, hS.F ht⟩) hS.2.2 dX0_traceWay_102
        · have hlt : k_g < 800 := nx_lt (n := 800) (by omega) (by omega) c_1
          refine lv_iload_n hx hb dX0_traceWay_41 rfl (lv_at hl 1 rfl) ?_
          refine lv_if_le (tgt := 102) hx hb dX0_traceWay_42 (by decide) (fun c_2 => ?_) (fun c_2 => ?_)
          · have hres : S_g = s_trL (800 - k_g) k_g j_g S_g := by rw [s_trL_in hlt, if_neg (fun h => h.1 c_2)]
            have hP9 := hP
            have hD9 := hD
            exact W.vret hx hb hr (fun t ht hW => ⟨⟨S_g, rfl, by rw [s_trace, ← hI]; exact hres, by rw [ht]; exact hP9, hD9⟩, hS.F ht⟩) hS.2.2 dX0_traceWay_102
          · have hj := c_2
            refine lv_aload_n hx hb dX0_traceWay_45 rfl (lv_at hl 0 rfl) ?_
            refine lv_iload_n hx hb dX0_traceWay_46 rfl (lv_at hl 1 rfl) ?_
            refine ro_i (va_runV (As := [.int j_g]) (rest := []) ⟨hx, hb, hml, hown, hts⟩ ((c_X0_isFound l G cI cZ cJ a _ S_g Y j_g)) (cwV 1 hts gX0_traceWay_X0_isFound rfl rfl rfl (by decide +kernel) ⟨Nat.le_of_ble_eq_true rfl, Nat.le_of_ble_eq_true rfl⟩) ⟨ro_blind, va_recv hK hP (ci := 0) (q0 := 0) rfl rfl, ro_pre hP hK hN⟩ rfl rfl hl.1 rfl (lv_room (Nat.le_of_ble_eq_true rfl)) dX0_traceWay_47 ⟨Nat.zero_le _, Nat.zero_le _⟩) hS hA hP (fun H locs hP hS => ?_)
            refine lv_if_eq (tgt := 102) hx hb dX0_traceWay_50 (by decide) (fun c_3 => ?_) (fun c_3 => ?_)
            · have c_3 := b1_f c_3
              have hres : S_g = s_trL (800 - k_g) k_g j_g S_g := by rw [s_trL_in hlt, if_neg (fun h => c_3 h.2)]
              have hP9 := hP
              have hD9 := hD
              exact W.vret hx hb hr (fun t ht hW => ⟨⟨S_g, rfl, by rw [s_trace, ← hI]; exact hres, by rw [ht]; exact hP9, hD9⟩, hS.F ht⟩) hS.2.2 dX0_traceWay_102
            · have c_3 := b1_t c_3
              have hf := c_3
              refine lv_aload_n hx hb dX0_traceWay_53 rfl (lv_at hl 0 rfl) ?_
              refine lv_iload_n hx hb dX0_traceWay_54 rfl (lv_at hl 2 rfl) ?_
              refine va_put (D := G) (ci := 0) (v := .int (nI k_g)) (ty := .int) (C := RX0) (T := TX0) (N := 10) hx hb hts in_X0_traceWay_0 tyX0 tyX0_ok nmX0 hown hK hP hD hS 0 rfl rfl 7 (by decide) (hts (.fieldLink RX0 52 "RampJam$Search" "solvedMoves" "I") (by decide +kernel)) (fun _ h9 => h9) rfl (by decide +kernel) rfl rfl (Nat.le_of_ble_eq_true rfl) dX0_traceWay_55 (fun H locs hP hD hS => ?_)
              have hP : va_P G vwCl [((a 1), .inr (0, [.ref (a 6), .ref (a 2), .ref (a 3), .ref (a 4), .ref (a 5), .int (s_fc S_g), .int (s_fs S_g), .int (nI k_g), .int (s_sc S_g), .int (s_sf S_g)])), ((a 2), .inl (cI, 800, .inl (s_fo S_g))), ((a 3), .inl (cI, 800, .inl (s_or S_g))), ((a 4), .inl (cI, 800, .inl (s_mo S_g))), ((a 5), .inl (cI, 2048, .inl (s_sl S_g))), ((a 6), .inr (1, [.ref (a 7), .ref (a 8), .ref (a 9), .ref (a 10), .int (nI (y_n Y)), .long (y_rp Y)])), ((a 7), .inl (cI, 9, .inl (y_sz Y))), ((a 8), .inl (cZ, 9, .inl (y_ac Y))), ((a 9), .inl (cI, 9, .inl (y_li Y))), ((a 10), .inl (cJ, 9, .inr (.inl (y_sh Y))))] H := hP
              have hD : va_D A [((a 1), .inr (0, [.ref (a 6), .ref (a 2), .ref (a 3), .ref (a 4), .ref (a 5), .int (s_fc S_g), .int (s_fs S_g), .int (nI k_g), .int (s_sc S_g), .int (s_sf S_g)])), ((a 2), .inl (cI, 800, .inl (s_fo S_g))), ((a 3), .inl (cI, 800, .inl (s_or S_g))), ((a 4), .inl (cI, 800, .inl (s_mo S_g))), ((a 5), .inl (cI, 2048, .inl (s_sl S_g))), ((a 6), .inr (1, [.ref (a 7), .ref (a 8), .ref (a 9), .ref (a 10), .int (nI (y_n Y)), .long (y_rp Y)])), ((a 7), .inl (cI, 9, .inl (y_sz Y))), ((a 8), .inl (cZ, 9, .inl (y_ac Y))), ((a 9), .inl (cI, 9, .inl (y_li Y))), ((a 10), .inl (cJ, 9, .inr (.inl (y_sh Y))))] := hD
              refine lv_aload_n hx hb dX0_traceWay_58 rfl (lv_at hl 0 rfl) ?_
              refine lv_dup hx hb dX0_traceWay_59 rfl ?_
              refine va_get (D := G) (ci := 0) (v := .int (s_sc S_g)) (C := RX0) (T := TX0) (N := 10) hx hb hts in_X0_traceWay_0 hown hK hP 0 rfl rfl 8 (by decide) (hts (.fieldLink RX0 55 "RampJam$Search" "solvedCells" "I") (by decide +kernel)) (fun _ h9 => h9) rfl dX0_traceWay_60 ?_
              refine lv_aload_n hx hb dX0_traceWay_63 rfl (lv_at hl 0 rfl) ?_
              refine va_get (D := G) (ci := 0) (v := .ref (a 4)) (C := RX0) (T := TX0) (N := 10) hx hb hts in_X0_traceWay_0 hown hK hP 0 rfl rfl 3 (by decide) (hts (.fieldLink RX0 18 "RampJam$Search" "moveCodes" "[I") (by decide +kernel)) (fun _ h9 => h9) rfl dX0_traceWay_64 ?_
              refine lv_iload_n hx hb dX0_traceWay_67 rfl (lv_at hl 1 rfl) ?_
              refine va_iald hx hb hK hP 3 0 rfl rfl (s_isF_in (by assumption)) dX0_traceWay_68 ?_
              refine ro_i (va_runS (As := [.int ((s_mo S_g) (j_g.toNatClampNeg))]) (rest := [.int (s_sc S_g), .ref (a 1)]) ⟨hx, hb, hml, hown, hts⟩ ((c_X0_cellsOfMove l G cI cZ cJ a _ ((s_mo S_g) (j_g.toNatClampNeg)))) (va_cwS 1 hts gX0_traceWay_X0_cellsOfMove rfl rfl rfl (by decide +kernel) ⟨Nat.le_of_ble_eq_true rfl, Nat.le_of_ble_eq_true rfl⟩) ⟨ro_blind, ro_pre va_P0 hK hN⟩ rfl rfl hl.1 rfl (lv_room (Nat.le_of_ble_eq_true rfl)) dX0_traceWay_69 ⟨Nat.zero_le _, Nat.zero_le _⟩) hS hA hP (fun H locs hP hS => ?_)
              refine va_mabs hx hb (by rw [hml]; exact hl.1.symm) hown (hts (.methodLink RX0 73 Lib.Math.abs.name) (by decide +kernel)) (hts (.static Lib.Math.abs.name) (by decide +kernel)) (hts (.initialized "java/lang/Math") (by decide +kernel)) (hts (.code Lib.Math.abs.name Lib.Math.abs.code 1 (some .int)) (by decide +kernel)) (Nat.le_of_ble_eq_true rfl) (Nat.le_of_ble_eq_true rfl) (Nat.zero_le _) (Nat.zero_le _) dX0_traceWay_72 ?_
              refine lv_iadd hx hb dX0_traceWay_75 ?_
              refine va_put (D := G) (ci := 0) (v := .int ((s_sc S_g) + (iabs (m_cells ((s_mo S_g) (j_g.toNatClampNeg)))))) (ty := .int) (C := RX0) (T := TX0) (N := 10) hx hb hts in_X0_traceWay_0 tyX0 tyX0_ok nmX0 hown hK hP hD hS 0 rfl rfl 8 (by decide) (hts (.fieldLink RX0 55 "RampJam$Search" "solvedCells" "I") (by decide +kernel)) (fun _ h9 => h9) rfl (by decide +kernel) rfl rfl (Nat.le_of_ble_eq_true rfl) dX0_traceWay_76 (fun H locs hP hD hS => ?_)
              have hP : va_P G vwCl [((a 1), .inr (0, [.ref (a 6), .ref (a 2), .ref (a 3), .ref (a 4), .ref (a 5), .int (s_fc S_g), .int (s_fs S_g), .int (nI k_g), .int ((s_sc S_g) + (iabs (m_cells ((s_mo S_g) (j_g.toNatClampNeg))))), .int (s_sf S_g)])), ((a 2), .inl (cI, 800, .inl (s_fo S_g))), ((a 3), .inl (cI, 800, .inl (s_or S_g))), ((a 4), .inl (cI, 800, .inl (s_mo S_g))), ((a 5), .inl (cI, 2048, .inl (s_sl S_g))), ((a 6), .inr (1, [.ref (a 7), .ref (a 8), .ref (a 9), .ref (a 10), .int (nI (y_n Y)), .long (y_rp Y)])), ((a 7), .inl (cI, 9, .inl (y_sz Y))), ((a 8), .inl (cZ, 9, .inl (y_ac Y))), ((a 9), .inl (cI, 9, .inl (y_li Y))), ((a 10), .inl (cJ, 9, .inr (.inl (y_sh Y))))] H := hP
              have hD : va_D A [((a 1), .inr (0, [.ref (a 6), .ref (a 2), .ref (a 3), .ref (a 4), .ref (a 5), .int (s_fc S_g), .int (s_fs S_g), .int (nI k_g), .int ((s_sc S_g) + (iabs (m_cells ((s_mo S_g) (j_g.toNatClampNeg))))), .int (s_sf S_g)])), ((a 2), .inl (cI, 800, .inl (s_fo S_g))), ((a 3), .inl (cI, 800, .inl (s_or S_g))), ((a 4), .inl (cI, 800, .inl (s_mo S_g))), ((a 5), .inl (cI, 2048, .inl (s_sl S_g))), ((a 6), .inr (1, [.ref (a 7), .ref (a 8), .ref (a 9), .ref (a 10), .int (nI (y_n Y)), .long (y_rp Y)])), ((a 7), .inl (cI, 9, .inl (y_sz Y))), ((a 8), .inl (cZ, 9, .inl (y_ac Y))), ((a 9), .inl (cI, 9, .inl (y_li Y))), ((a 10), .inl (cJ, 9, .inr (.inl (y_sh Y))))] := hD
              refine lv_aload_n hx hb dX0_traceWay_79 rfl (lv_at hl 0 rfl) ?_
              refine lv_aload_n hx hb dX0_traceWay_80 rfl (lv_at hl 0 rfl) ?_
              refine va_get (D := G) (ci := 0) (v := .ref (a 4)) (C := RX0) (T := TX0) (N := 10) hx hb hts in_X0_traceWay_0 hown hK hP 0 rfl rfl 3 (by decide) (hts (.fieldLink RX0 18 "RampJam$Search" "moveCodes" "[I") (by decide +kernel)) (fun _ h9 => h9) rfl dX0_traceWay_81 ?_
              refine lv_iload_n hx hb dX0_traceWay_84 rfl (lv_at hl 1 rfl) ?_
              refine va_iald hx hb hK hP 3 0 rfl rfl (s_isF_in (by assumption)) dX0_traceWay_85 ?_
              refine va_put (D := G) (ci := 0) (v := .int ((s_mo S_g) (j_g.toNatClampNeg))) (ty := .int) (C := RX0) (T := TX0) (N := 10) hx hb hts in_X0_traceWay_0 tyX0 tyX0_ok nmX0 hown hK hP hD hS 0 rfl rfl 9 (by decide) (hts (.fieldLink RX0 58 "RampJam$Search" "solvedFirstMove" "I") (by decide +kernel)) (fun _ h9 => h9) rfl (by decide +kernel) rfl rfl (Nat.le_of_ble_eq_true rfl) dX0_traceWay_86 (fun H locs hP hD hS => ?_)
              have hP : va_P G vwCl [((a 1), .inr (0, [.ref (a 6), .ref (a 2), .ref (a 3), .ref (a 4), .ref (a 5), .int (s_fc S_g), .int (s_fs S_g), .int (nI k_g), .int ((s_sc S_g) + (iabs (m_cells ((s_mo S_g) (j_g.toNatClampNeg))))), .int ((s_mo S_g) (j_g.toNatClampNeg))])), ((a 2), .inl (cI, 800, .inl (s_fo S_g))), ((a 3), .inl (cI, 800, .inl (s_or S_g))), ((a 4), .inl (cI, 800, .inl (s_mo S_g))), ((a 5), .inl (cI, 2048, .inl (s_sl S_g))), ((a 6), .inr (1, [.ref (a 7), .ref (a 8), .ref (a 9), .ref (a 10), .int (nI (y_n Y)), .long (y_rp Y)])), ((a 7), .inl (cI, 9, .inl (y_sz Y))), ((a 8), .inl (cZ, 9, .inl (y_ac Y))), ((a 9), .inl (cI, 9, .inl (y_li Y))), ((a 10), .inl (cJ, 9, .inr (.inl (y_sh Y))))] H := hP
              have hD : va_D A [((a 1), .inr (0, [.ref (a 6), .ref (a 2), .ref (a 3), .ref (a 4), .ref (a 5), .int (s_fc S_g), .int (s_fs S_g), .int (nI k_g), .int ((s_sc S_g) + (iabs (m_cells ((s_mo S_g) (j_g.toNatClampNeg))))), .int ((s_mo S_g) (j_g.toNatClampNeg))])), ((a 2), .inl (cI, 800, .inl (s_fo S_g))), ((a 3), .inl (cI, 800, .inl (s_or S_g))), ((a 4), .inl (cI, 800, .inl (s_mo S_g))), ((a 5), .inl (cI, 2048, .inl (s_sl S_g))), ((a 6), .inr (1, [.ref (a 7), .ref (a 8), .ref (a 9), .ref (a 10), .int (nI (y_n Y)), .long (y_rp Y)])), ((a 7), .inl (cI, 9, .inl (y_sz Y))), ((a 8), .inl (cZ, 9, .inl (y_ac Y))), ((a 9), .inl (cI, 9, .inl (y_li Y))), ((a 10), .inl (cJ, 9, .inr (.inl (y_sh Y))))] := hD
              refine lv_aload_n hx hb dX0_traceWay_89 rfl (lv_at hl 0 rfl) ?_
              refine va_get (D := G) (ci := 0) (v := .ref (a 3)) (C := RX0) (T := TX0) (N := 10) hx hb hts in_X0_traceWay_0 hown hK hP 0 rfl rfl 2 (by decide) (hts (.fieldLink RX0 15 "RampJam$Search" "origins" "[I") (by decide +kernel)) (fun _ h9 => h9) rfl dX0_traceWay_90 ?_
              refine lv_iload_n hx hb dX0_traceWay_93 rfl (lv_at hl 1 rfl) ?_
              refine va_iald hx hb hK hP 2 0 rfl rfl (s_isF_in (by assumption)) dX0_traceWay_94 ?_
              refine lv_istore_n (lv' := [(1, .int ((s_or S_g) (j_g.toNatClampNeg))), (0, .ref (a 1)), (2, .int (nI k_g))]) hx hb dX0_traceWay_95 rfl hl (by decide) rfl (fun ls hl => ?_)
              refine lv_iinc (v := (nI (k_g + 1))) (lv' := [(2, .int (nI (k_g + 1))), (1, .int ((s_or S_g) (j_g.toNatClampNeg))), (0, .ref (a 1))]) hx hb dX0_traceWay_96 hl (k := 2) rfl (nI_1 _) (by decide) rfl (fun ls hl => ?_)
              refine lv_goto (tgt := 34) hx hb dX0_traceWay_99 (by decide) ?_
              exact ih_34 (k_g + 1) ((s_or S_g) (j_g.toNatClampNeg)) ((s_fo S_g), (s_or S_g), (s_mo S_g), (s_sl S_g), (s_fc S_g), (s_fs S_g), (nI k_g), ((s_sc S_g) + (iabs (m_cells ((s_mo S_g) (j_g.toNatClampNeg))))), ((s_mo S_g) (j_g.toNatClampNeg))) (hlt) (by omega) (by rw [← hI, s_trL_in hlt, if_pos ⟨hj, hf⟩]) _ _ hP hD hS _ (lv_sub hl [2, 1, 0] rfl)
    exact cut_34 (800 + 1) 1 (s_fs S) ((s_fo S), (s_or S), (s_mo S), (s_sl S), (s_fc S), (s_fs S), (if s_fs S = -1 then -1 else 0), 0, (-1)) (by omega) (by omega) (rfl) _ _ hP hD hS _ (lv_sub hl [2, 1, 0] rfl)
  refine lv_aload_n hx hb dX0_traceWay_1 rfl (lv_at hl 0 rfl) ?_
  refine va_get (D := G) (ci := 0) (v := .int (s_fs S)) (C := RX0) (T := TX0) (N := 10) hx hb hts in_X0_traceWay_0 hown hK hP 0 rfl rfl 6 (by decide) (hts (.fieldLink RX0 38 "RampJam$Search" "firstSolved" "I") (by decide +kernel)) (fun _ h9 => h9) rfl dX0_traceWay_2 ?_
  refine lv_iconst (v := (-1)) hx hb dX0_traceWay_5 (by decide) ?_
  refine lv_icmp_ne (tgt := 13) hx hb dX0_traceWay_6 (by decide) (fun c_4 => ?_) (fun c_4 => ?_)
  · refine lv_iconst (v := 0) hx hb dX0_traceWay_13 (by decide) ?_
    exact cut_14 0 (by simp [c_4]) _ _ hP hD hS _ hl
  · refine lv_iconst (v := (-1)) hx hb dX0_traceWay_9 (by decide) ?_
    refine lv_goto (tgt := 14) hx hb dX0_traceWay_10 (by decide) ?_
    exact cut_14 (-1) (by simp [c_4]) _ _ hP hD hS _ hl

set_option maxHeartbeats 4000000 in
set_option maxRecDepth 100000 in
/-- Arrays.fill -/
theorem c_J7_fill_53178 (l : Launch) (G : va_G) (cI cZ cJ : ClassId) (a : Nat → Nat) (sz : Nat) (q_g : Nat) (N_g : Nat) (f_g : Nat → Int32) (v_g : Int32) (hN_g : N_g < 2147483648) : Met l yJ7_fill_53178 wsJ7_fill_53178 ({ frames := 0, cells := 0, slots := 0, locals := 0 }) (rw_Pc G [(cI, .int), (cZ, .boolean), (cJ, .long)] [(q_g, .inl (cI, N_g, .inl f_g))] sz [.ref q_g, .int v_g]) (rw_Qv (S := Nat → Int32) (fillF f_g N_g v_g) (fun u : Nat → Int32 => [(q_g, .inl (cI, N_g, .inl u))]) G [(q_g, .inl (cI, N_g, .inl f_g))] sz) 0 0 (va_A [(q_g, .inl (cI, N_g, .inl f_g))] sz) := by
  refine Met.ofW (cc := cJ7_fill_53178) (maxL := 4) (ret := none) (by decide) rfl ?_
  intro p e s m args below meth c s₁ B hml hv
  obtain ⟨rfl, hsz, hP, hK, hD0, hN⟩ := hv
  have hx := B.exec
  have hb := B.bytes
  have hr := B.returns
  have hts := atoms_spec (ws := wsJ7_fill_53178) B.pre
  have hown : s.vm.findClass RJ7 = some m.cls := findClass_of_methodNamed B.named
  have hlocks := B.notSynchronized
  subst hsz
  have hD0 : va_D (fun _ => True) [(q_g, .inl (cI, N_g, .inl f_g))] := hD0
  have hD := hD0.self (sz := s.heap.size)
  unfold rw_Qv
  generalize hAe : va_A [(q_g, .inl (cI, N_g, .inl f_g))] s.heap.size = A at hD ⊢
  have hA : ∀ q : Nat, s.heap.size ≤ q → A q := fun q h => by rw [← hAe]; exact Or.inr h
  have hS : va_S A s.heap s.heap [] := va_S.rf
  have hP : va_P G vwCl [(q_g, .inl (cI, N_g, .inl f_g))] s.heap := hP
  have hl := lv_entry ([.ref q_g, .int v_g]) (n := 4) (Nat.le_of_ble_eq_true rfl)
  rw [lg_entry_eq]
  generalize (lg_sl ([.ref q_g, .int v_g]) ++ List.replicate (4 - (lg_sl ([.ref q_g, .int v_g])).length) Slot.unset).toArray = ls at hl ⊢
  have hl : lv_has ls 4 [(0, .ref q_g), (1, .int v_g)] := hl
  refine lv_iconst (v := 0) hx hb dJ7_fill_53178_0 (by decide) ?_
  refine lv_istore_n (lv' := [(2, .int 0), (0, .ref q_g), (1, .int v_g)]) hx hb dJ7_fill_53178_1 rfl hl (by decide) rfl (fun ls hl => ?_)
  refine lv_aload_n hx hb dJ7_fill_53178_2 rfl (lv_at hl 1 rfl) ?_
  refine va_alen (v := nI N_g) hx hb hK hP 0 0 rfl rfl rfl dJ7_fill_53178_3 ?_
  refine lv_istore_n (lv' := [(3, .int (nI N_g)), (2, .int 0), (0, .ref q_g), (1, .int v_g)]) hx hb dJ7_fill_53178_4 rfl hl (by decide) rfl (fun ls hl => ?_)
  have cut_5 : ∀ (d : Nat) (k_g : Nat), k_g ≤ N_g → N_g + 1 ≤ k_g + d → ∀ (H : Heap) (locs : List Loc), va_P G vwCl [(q_g, .inl (cI, N_g, .inl (fillF f_g k_g v_g)))] H → va_D A [(q_g, .inl (cI, N_g, .inl (fillF f_g k_g v_g)))] → va_S A s.heap H locs → ∀ (ls : Array Slot), lv_has ls 4 [(0, .ref q_g), (1, .int v_g), (2, .int (nI k_g)), (3, .int (nI N_g))] → W p l e (headSpec wsJ7_fill_53178 ({ frames := 0, cells := 0, slots := 0, locals := 0 })).room s m ([.ref q_g, .int v_g] : List Value).toArray below meth c H locs 0 0 (MQ below (va_Qv (fun u : Nat → Int32 => u = (fillF f_g N_g v_g)) (fun (u : Nat → Int32) (t : State) => va_P G vwCl ((fun u : Nat → Int32 => [(q_g, .inl (cI, N_g, .inl u))]) u) t.heap ∧ va_D A ((fun u : Nat → Int32 => [(q_g, .inl (cI, N_g, .inl u))]) u)) A) ([.ref q_g, .int v_g] : List Value).toArray s 0 0 A) (F0 m 5 ls []) := by
    intro d
    induction d with
    | zero =>
      intro k_g hk_5 hd_5
      exact absurd hd_5 (by omega)
    | succ d ih_5 =>
      intro k_g hk_5 hd_5  H locs hP hD hS ls hl
      refine lv_iload_n hx hb dJ7_fill_53178_5 rfl (lv_at hl 2 rfl) ?_
      refine lv_iload_n hx hb dJ7_fill_53178_6 rfl (lv_at hl 3 rfl) ?_
      refine lv_icmp_ge (tgt := 20) hx hb dJ7_fill_53178_7 (by decide) (fun c_1 => ?_) (fun c_1 => ?_)
      · have hkn : k_g = N_g := Nat.le_antisymm hk_5 (nx_ge (by omega) (by omega) c_1)
        have hP9 := hP
        have hD9 := hD
        exact W.vret hx hb hr (fun t ht hW => ⟨⟨(fillF f_g k_g v_g), rfl, by rw [hkn], by rw [ht]; exact hP9, hD9⟩, hS.F ht⟩) hS.2.2 dJ7_fill_53178_20
      · have hlt : k_g < N_g := nx_lt (by omega) (by omega) c_1
        refine lv_aload_n hx hb dJ7_fill_53178_10 rfl (lv_at hl 0 rfl) ?_
        refine lv_iload_n hx hb dJ7_fill_53178_11 rfl (lv_at hl 2 rfl) ?_
        refine lv_iload_n hx hb dJ7_fill_53178_12 rfl (lv_at hl 1 rfl) ?_
        refine va_iast hx hb hK hP hD hS 0 0 rfl rfl (vp_in_nI (by omega) (by omega)) dJ7_fill_53178_13 (fun H locs hP hD hS => ?_)
        rw [show (nI k_g).toNatClampNeg = k_g from nI_clamp (by omega)] at hP hD
        have hP : va_P G vwCl [(q_g, .inl (cI, N_g, .inl (upd (fillF f_g k_g v_g) k_g v_g)))] H := hP
        have hD : va_D A [(q_g, .inl (cI, N_g, .inl (upd (fillF f_g k_g v_g) k_g v_g)))] := hD
        refine lv_iinc (v := (nI (k_g + 1))) (lv' := [(2, .int (nI (k_g + 1))), (0, .ref q_g), (1, .int v_g), (3, .int (nI N_g))]) hx hb dJ7_fill_53178_14 hl (k := 2) rfl (nI_1 _) (by decide) rfl (fun ls hl => ?_)
        refine lv_goto (tgt := 5) hx hb dJ7_fill_53178_17 (by decide) ?_
        rw [fillF_succ] at hP hD
        exact ih_5 (k_g + 1) (hlt) (by omega) _ _ hP hD hS _ (lv_sub hl [1, 2, 0, 3] rfl)
  rw [← fillF_0 f_g v_g] at hP hD
  exact cut_5 (N_g + 1) 0 (Nat.zero_le _) (by omega) _ _ hP hD hS _ (lv_sub hl [2, 3, 1, 0] rfl)

theorem in_X0_lookFrom_0 : ∀ w ∈ wsX00, w ∈ wsX0_lookFrom := by decide +kernel
set_option maxHeartbeats 4000000 in
set_option maxRecDepth 100000 in
/-- Search.lookFrom -/
theorem c_X0_lookFrom (l : Launch) (G : va_G) (cI cZ cJ : ClassId) (a : Nat → Nat) (sz : Nat) (S : SS) (Y : YS) (x_g : Int32) (hn : y_n Y ≤ 9) : Met l yX0_lookFrom wsX0_lookFrom ({ frames := 4, cells := 0, slots := 0, locals := 102 }) (rw_Pc G [(cI, .int), (cZ, .boolean), (cJ, .long)] (wS cI cZ cJ a S Y) sz [.ref (a 1), .int x_g]) (rw_Qv (S := SS) (s_look Y S x_g) (fun u : SS => wS cI cZ cJ a u Y) G (wS cI cZ cJ a S Y) sz) 0 0 (va_A (wS cI cZ cJ a S Y) sz) := by
  refine Met.ofW (cc := cX0_lookFrom) (maxL := 3) (ret := none) (by decide) rfl ?_
  intro p e s m args below meth c s₁ B hml hv
  obtain ⟨rfl, hsz, hP, hK, hD0, hN⟩ := hv
  have hx := B.exec
  have hb := B.bytes
  have hr := B.returns
  have hts := atoms_spec (ws := wsX0_lookFrom) B.pre
  have hown : s.vm.findClass RX0 = some m.cls := findClass_of_methodNamed B.named
  have hlocks := B.notSynchronized
  subst hsz
  have hD0 : va_D (fun _ => True) [((a 1), .inr (0, [.ref (a 6), .ref (a 2), .ref (a 3), .ref (a 4), .ref (a 5), .int (s_fc S), .int (s_fs S), .int (s_sm S), .int (s_sc S), .int (s_sf S)])), ((a 2), .inl (cI, 800, .inl (s_fo S))), ((a 3), .inl (cI, 800, .inl (s_or S))), ((a 4), .inl (cI, 800, .inl (s_mo S))), ((a 5), .inl (cI, 2048, .inl (s_sl S))), ((a 6), .inr (1, [.ref (a 7), .ref (a 8), .ref (a 9), .ref (a 10), .int (nI (y_n Y)), .long (y_rp Y)])), ((a 7), .inl (cI, 9, .inl (y_sz Y))), ((a 8), .inl (cZ, 9, .inl (y_ac Y))), ((a 9), .inl (cI, 9, .inl (y_li Y))), ((a 10), .inl (cJ, 9, .inr (.inl (y_sh Y))))] := hD0
  have hD := hD0.self (sz := s.heap.size)
  unfold rw_Qv
  generalize hAe : va_A (wS cI cZ cJ a S Y) s.heap.size = A at hD ⊢
  have hA : ∀ q : Nat, s.heap.size ≤ q → A q := fun q h => by rw [← hAe]; exact Or.inr h
  have hS : va_S A s.heap s.heap [] := va_S.rf
  have hP : va_P G vwCl [((a 1), .inr (0, [.ref (a 6), .ref (a 2), .ref (a 3), .ref (a 4), .ref (a 5), .int (s_fc S), .int (s_fs S), .int (s_sm S), .int (s_sc S), .int (s_sf S)])), ((a 2), .inl (cI, 800, .inl (s_fo S))), ((a 3), .inl (cI, 800, .inl (s_or S))), ((a 4), .inl (cI, 800, .inl (s_mo S))), ((a 5), .inl (cI, 2048, .inl (s_sl S))), ((a 6), .inr (1, [.ref (a 7), .ref (a 8), .ref (a 9), .ref (a 10), .int (nI (y_n Y)), .long (y_rp Y)])), ((a 7), .inl (cI, 9, .inl (y_sz Y))), ((a 8), .inl (cZ, 9, .inl (y_ac Y))), ((a 9), .inl (cI, 9, .inl (y_li Y))), ((a 10), .inl (cJ, 9, .inr (.inl (y_sh Y))))] s.heap := hP
  have hl := lv_entry ([.ref (a 1), .int x_g]) (n := 3) (Nat.le_of_ble_eq_true rfl)
  rw [lg_entry_eq]
  generalize (lg_sl ([.ref (a 1), .int x_g]) ++ List.replicate (3 - (lg_sl ([.ref (a 1), .int x_g])).length) Slot.unset).toArray = ls at hl ⊢
  have hl : lv_has ls 3 [(0, .ref (a 1)), (1, .int x_g)] := hl
  refine lv_aload_n hx hb dX0_lookFrom_0 rfl (lv_at hl 0 rfl) ?_
  refine va_get (D := G) (ci := 0) (v := .ref (a 5)) (C := RX0) (T := TX0) (N := 10) hx hb hts in_X0_lookFrom_0 hown hK hP 0 rfl rfl 4 (by decide) (hts (.fieldLink RX0 21 "RampJam$Search" "slots" "[I") (by decide +kernel)) (fun _ h9 => h9) rfl dX0_lookFrom_1 ?_
  refine lv_iconst (v := 0) hx hb dX0_lookFrom_4 (by decide) ?_
  have hPc := hP.sub (ws' := [((a 5), .inl (cI, 2048, .inl (s_sl S)))]) [4] rfl
  have hDc := hD.sub (ws' := [((a 5), .inl (cI, 2048, .inl (s_sl S)))]) [4] (by decide) rfl
  refine rw_v (wr := [((a 1), .inr (0, [.ref (a 6), .ref (a 2), .ref (a 3), .ref (a 4), .ref (a 5), .int (s_fc S), .int (s_fs S), .int (s_sm S), .int (s_sc S), .int (s_sf S)])), ((a 2), .inl (cI, 800, .inl (s_fo S))), ((a 3), .inl (cI, 800, .inl (s_or S))), ((a 4), .inl (cI, 800, .inl (s_mo S))), ((a 6), .inr (1, [.ref (a 7), .ref (a 8), .ref (a 9), .ref (a 10), .int (nI (y_n Y)), .long (y_rp Y)])), ((a 7), .inl (cI, 9, .inl (y_sz Y))), ((a 8), .inl (cZ, 9, .inl (y_ac Y))), ((a 9), .inl (cI, 9, .inl (y_li Y))), ((a 10), .inl (cJ, 9, .inr (.inl (y_sh Y))))]) (ws' := [((a 1), .inr (0, [.ref (a 6), .ref (a 2), .ref (a 3), .ref (a 4), .ref (a 5), .int (s_fc S), .int (s_fs S), .int (s_sm S), .int (s_sc S), .int (s_sf S)])), ((a 2), .inl (cI, 800, .inl (s_fo S))), ((a 3), .inl (cI, 800, .inl (s_or S))), ((a 4), .inl (cI, 800, .inl (s_mo S))), ((a 5), .inl (cI, 2048, .inl (fillF (s_sl S) 2048 0))), ((a 6), .inr (1, [.ref (a 7), .ref (a 8), .ref (a 9), .ref (a 10), .int (nI (y_n Y)), .long (y_rp Y)])), ((a 7), .inl (cI, 9, .inl (y_sz Y))), ((a 8), .inl (cZ, 9, .inl (y_ac Y))), ((a 9), .inl (cI, 9, .inl (y_li Y))), ((a 10), .inl (cJ, 9, .inr (.inl (y_sh Y))))]) (va_runS (As := [.ref (a 5), .int 0]) (rest := []) ⟨hx, hb, hml, hown, hts⟩ ((c_J7_fill_53178 l G cI cZ cJ a _ (a 5) 2048 (s_sl S) 0 (by decide))) (va_cwS 2 hts gX0_lookFrom_J7_fill_53178 rfl rfl rfl (by decide +kernel) ⟨Nat.le_of_ble_eq_true rfl, Nat.le_of_ble_eq_true rfl⟩) ⟨rw_blind, rw_pre hPc hDc hK hN⟩ rfl rfl hl.1 rfl (lv_room (Nat.le_of_ble_eq_true rfl)) dX0_lookFrom_5 ⟨Nat.zero_le _, Nat.zero_le _⟩) hS hA hP hD [4] [0, 1, 2, 3, 5, 6, 7, 8, 9] [0, 1, 2, 3, 9, 4, 5, 6, 7, 8] rfl rfl (by decide) (by decide) rfl (by decide) (fun H locs hP hD hS => ?_)
  refine lv_aload_n hx hb dX0_lookFrom_8 rfl (lv_at hl 0 rfl) ?_
  refine lv_iconst (v := 0) hx hb dX0_lookFrom_9 (by decide) ?_
  refine va_put (D := G) (ci := 0) (v := .int 0) (ty := .int) (C := RX0) (T := TX0) (N := 10) hx hb hts in_X0_lookFrom_0 tyX0 tyX0_ok nmX0 hown hK hP hD hS 0 rfl rfl 5 (by decide) (hts (.fieldLink RX0 28 "RampJam$Search" "foundCount" "I") (by decide +kernel)) (fun _ h9 => h9) rfl (by decide +kernel) rfl rfl (Nat.le_of_ble_eq_true rfl) dX0_lookFrom_10 (fun H locs hP hD hS => ?_)
  have hP : va_P G vwCl [((a 1), .inr (0, [.ref (a 6), .ref (a 2), .ref (a 3), .ref (a 4), .ref (a 5), .int 0, .int (s_fs S), .int (s_sm S), .int (s_sc S), .int (s_sf S)])), ((a 2), .inl (cI, 800, .inl (s_fo S))), ((a 3), .inl (cI, 800, .inl (s_or S))), ((a 4), .inl (cI, 800, .inl (s_mo S))), ((a 5), .inl (cI, 2048, .inl (fillF (s_sl S) 2048 0))), ((a 6), .inr (1, [.ref (a 7), .ref (a 8), .ref (a 9), .ref (a 10), .int (nI (y_n Y)), .long (y_rp Y)])), ((a 7), .inl (cI, 9, .inl (y_sz Y))), ((a 8), .inl (cZ, 9, .inl (y_ac Y))), ((a 9), .inl (cI, 9, .inl (y_li Y))), ((a 10), .inl (cJ, 9, .inr (.inl (y_sh Y))))] H := hP
  have hD : va_D A [((a 1), .inr (0, [.ref (a 6), .ref (a 2), .ref (a 3), .ref (a 4), .ref (a 5), .int 0, .int (s_fs S), .int (s_sm S), .int (s_sc S), .int (s_sf S)])), ((a 2), .inl (cI, 800, .inl (s_fo S))), ((a 3), .inl (cI, 800, .inl (s_or S))), ((a 4), .inl (cI, 800, .inl (s_mo S))), ((a 5), .inl (cI, 2048, .inl (fillF (s_sl S) 2048 0))), ((a 6), .inr (1, [.ref (a 7), .ref (a 8), .ref (a 9), .ref (a 10), .int (nI (y_n Y)), .long (y_rp Y)])), ((a 7), .inl (cI, 9, .inl (y_sz Y))), ((a 8), .inl (cZ, 9, .inl (y_ac Y))), ((a 9), .inl (cI, 9, .inl (y_li Y))), ((a 10), .inl (cJ, 9, .inr (.inl (y_sh Y))))] := hD
  refine lv_aload_n hx hb dX0_lookFrom_13 rfl (lv_at hl 0 rfl) ?_
  refine lv_iconst (v := (-1)) hx hb dX0_lookFrom_14 (by decide) ?_
  refine va_put (D := G) (ci := 0) (v := .int (-1)) (ty := .int) (C := RX0) (T := TX0) (N := 10) hx hb hts in_X0_lookFrom_0 tyX0 tyX0_ok nmX0 hown hK hP hD hS 0 rfl rfl 6 (by decide) (hts (.fieldLink RX0 38 "RampJam$Search" "firstSolved" "I") (by decide +kernel)) (fun _ h9 => h9) rfl (by decide +kernel) rfl rfl (Nat.le_of_ble_eq_true rfl) dX0_lookFrom_15 (fun H locs hP hD hS => ?_)
  have hP : va_P G vwCl [((a 1), .inr (0, [.ref (a 6), .ref (a 2), .ref (a 3), .ref (a 4), .ref (a 5), .int 0, .int (-1), .int (s_sm S), .int (s_sc S), .int (s_sf S)])), ((a 2), .inl (cI, 800, .inl (s_fo S))), ((a 3), .inl (cI, 800, .inl (s_or S))), ((a 4), .inl (cI, 800, .inl (s_mo S))), ((a 5), .inl (cI, 2048, .inl (fillF (s_sl S) 2048 0))), ((a 6), .inr (1, [.ref (a 7), .ref (a 8), .ref (a 9), .ref (a 10), .int (nI (y_n Y)), .long (y_rp Y)])), ((a 7), .inl (cI, 9, .inl (y_sz Y))), ((a 8), .inl (cZ, 9, .inl (y_ac Y))), ((a 9), .inl (cI, 9, .inl (y_li Y))), ((a 10), .inl (cJ, 9, .inr (.inl (y_sh Y))))] H := hP
  have hD : va_D A [((a 1), .inr (0, [.ref (a 6), .ref (a 2), .ref (a 3), .ref (a 4), .ref (a 5), .int 0, .int (-1), .int (s_sm S), .int (s_sc S), .int (s_sf S)])), ((a 2), .inl (cI, 800, .inl (s_fo S))), ((a 3), .inl (cI, 800, .inl (s_or S))), ((a 4), .inl (cI, 800, .inl (s_mo S))), ((a 5), .inl (cI, 2048, .inl (fillF (s_sl S) 2048 0))), ((a 6), .inr (1, [.ref (a 7), .ref (a 8), .ref (a 9), .ref (a 10), .int (nI (y_n Y)), .long (y_rp Y)])), ((a 7), .inl (cI, 9, .inl (y_sz Y))), ((a 8), .inl (cZ, 9, .inl (y_ac Y))), ((a 9), .inl (cI, 9, .inl (y_li Y))), ((a 10), .inl (cJ, 9, .inr (.inl (y_sh Y))))] := hD
  refine lv_aload_n hx hb dX0_lookFrom_18 rfl (lv_at hl 0 rfl) ?_
  refine lv_iload_n hx hb dX0_lookFrom_19 rfl (lv_at hl 1 rfl) ?_
  refine lv_iconst (v := 0) hx hb dX0_lookFrom_20 (by decide) ?_
  refine lv_iconst (v := 0) hx hb dX0_lookFrom_21 (by decide) ?_
  refine rw_v (wr := []) (ws' := [((a 1), .inr (0, [.ref (a 6), .ref (a 2), .ref (a 3), .ref (a 4), .ref (a 5), .int (s_fc (s_addN ((s_fo S), (s_or S), (s_mo S), (fillF (s_sl S) 2048 0), 0, (-1), (s_sm S), (s_sc S), (s_sf S)) x_g 0 0)), .int (s_fs (s_addN ((s_fo S), (s_or S), (s_mo S), (fillF (s_sl S) 2048 0), 0, (-1), (s_sm S), (s_sc S), (s_sf S)) x_g 0 0)), .int (s_sm (s_addN ((s_fo S), (s_or S), (s_mo S), (fillF (s_sl S) 2048 0), 0, (-1), (s_sm S), (s_sc S), (s_sf S)) x_g 0 0)), .int (s_sc (s_addN ((s_fo S), (s_or S), (s_mo S), (fillF (s_sl S) 2048 0), 0, (-1), (s_sm S), (s_sc S), (s_sf S)) x_g 0 0)), .int (s_sf (s_addN ((s_fo S), (s_or S), (s_mo S), (fillF (s_sl S) 2048 0), 0, (-1), (s_sm S), (s_sc S), (s_sf S)) x_g 0 0))])), ((a 2), .inl (cI, 800, .inl (s_fo (s_addN ((s_fo S), (s_or S), (s_mo S), (fillF (s_sl S) 2048 0), 0, (-1), (s_sm S), (s_sc S), (s_sf S)) x_g 0 0)))), ((a 3), .inl (cI, 800, .inl (s_or (s_addN ((s_fo S), (s_or S), (s_mo S), (fillF (s_sl S) 2048 0), 0, (-1), (s_sm S), (s_sc S), (s_sf S)) x_g 0 0)))), ((a 4), .inl (cI, 800, .inl (s_mo (s_addN ((s_fo S), (s_or S), (s_mo S), (fillF (s_sl S) 2048 0), 0, (-1), (s_sm S), (s_sc S), (s_sf S)) x_g 0 0)))), ((a 5), .inl (cI, 2048, .inl (s_sl (s_addN ((s_fo S), (s_or S), (s_mo S), (fillF (s_sl S) 2048 0), 0, (-1), (s_sm S), (s_sc S), (s_sf S)) x_g 0 0)))), ((a 6), .inr (1, [.ref (a 7), .ref (a 8), .ref (a 9), .ref (a 10), .int (nI (y_n Y)), .long (y_rp Y)])), ((a 7), .inl (cI, 9, .inl (y_sz Y))), ((a 8), .inl (cZ, 9, .inl (y_ac Y))), ((a 9), .inl (cI, 9, .inl (y_li Y))), ((a 10), .inl (cJ, 9, .inr (.inl (y_sh Y))))]) (va_runV (As := [.int x_g, .int 0, .int 0]) (rest := []) ⟨hx, hb, hml, hown, hts⟩ ((c_X0_addIfNew l G cI cZ cJ a _ ((s_fo S), (s_or S), (s_mo S), (fillF (s_sl S) 2048 0), 0, (-1), (s_sm S), (s_sc S), (s_sf S)) Y x_g 0 0)) (cwV 3 hts gX0_lookFrom_X0_addIfNew rfl rfl rfl (by decide +kernel) ⟨Nat.le_of_ble_eq_true rfl, Nat.le_of_ble_eq_true rfl⟩) ⟨rw_blind, va_recv hK hP (ci := 0) (q0 := 0) rfl rfl, rw_pre hP hD hK hN⟩ rfl rfl hl.1 rfl (lv_room (Nat.le_of_ble_eq_true rfl)) dX0_lookFrom_22 ⟨Nat.zero_le _, Nat.zero_le _⟩) hS hA hP hD [0, 1, 2, 3, 4, 5, 6, 7, 8, 9] [] [0, 1, 2, 3, 4, 5, 6, 7, 8, 9] rfl rfl (by decide) (by decide) rfl (by decide) (fun H locs hP hD hS => ?_)
  refine lv_iconst (v := 0) hx hb dX0_lookFrom_25 (by decide) ?_
  refine lv_istore_n (lv' := [(2, .int 0), (0, .ref (a 1)), (1, .int x_g)]) hx hb dX0_lookFrom_26 rfl hl (by decide) rfl (fun ls hl => ?_)
  have cut_27 : ∀ (d : Nat) (k_g : Nat) (S_g : SS), k_g ≤ 800 → 800 + 1 ≤ k_g + d → (s_lookL Y (800 - k_g) k_g S_g = s_lookL Y 800 0 (s_addN (s_new S) x_g 0 0)) → ∀ (H : Heap) (locs : List Loc), va_P G vwCl [((a 1), .inr (0, [.ref (a 6), .ref (a 2), .ref (a 3), .ref (a 4), .ref (a 5), .int (s_fc S_g), .int (s_fs S_g), .int (s_sm S_g), .int (s_sc S_g), .int (s_sf S_g)])), ((a 2), .inl (cI, 800, .inl (s_fo S_g))), ((a 3), .inl (cI, 800, .inl (s_or S_g))), ((a 4), .inl (cI, 800, .inl (s_mo S_g))), ((a 5), .inl (cI, 2048, .inl (s_sl S_g))), ((a 6), .inr (1, [.ref (a 7), .ref (a 8), .ref (a 9), .ref (a 10), .int (nI (y_n Y)), .long (y_rp Y)])), ((a 7), .inl (cI, 9, .inl (y_sz Y))), ((a 8), .inl (cZ, 9, .inl (y_ac Y))), ((a 9), .inl (cI, 9, .inl (y_li Y))), ((a 10), .inl (cJ, 9, .inr (.inl (y_sh Y))))] H → va_D A [((a 1), .inr (0, [.ref (a 6), .ref (a 2), .ref (a 3), .ref (a 4), .ref (a 5), .int (s_fc S_g), .int (s_fs S_g), .int (s_sm S_g), .int (s_sc S_g), .int (s_sf S_g)])), ((a 2), .inl (cI, 800, .inl (s_fo S_g))), ((a 3), .inl (cI, 800, .inl (s_or S_g))), ((a 4), .inl (cI, 800, .inl (s_mo S_g))), ((a 5), .inl (cI, 2048, .inl (s_sl S_g))), ((a 6), .inr (1, [.ref (a 7), .ref (a 8), .ref (a 9), .ref (a 10), .int (nI (y_n Y)), .long (y_rp Y)])), ((a 7), .inl (cI, 9, .inl (y_sz Y))), ((a 8), .inl (cZ, 9, .inl (y_ac Y))), ((a 9), .inl (cI, 9, .inl (y_li Y))), ((a 10), .inl (cJ, 9, .inr (.inl (y_sh Y))))] → va_S A s.heap H locs → ∀ (ls : Array Slot), lv_has ls 3 [(0, .ref (a 1)), (1, .int x_g), (2, .int (nI k_g))] → W p l e (headSpec wsX0_lookFrom ({ frames := 4, cells := 0, slots := 0, locals := 102 })).room s m ([.ref (a 1), .int x_g] : List Value).toArray below meth c H locs 0 0 (MQ below (va_Qv (fun u : SS => u = (s_look Y S x_g)) (fun (u : SS) (t : State) => va_P G vwCl ((fun u : SS => wS cI cZ cJ a u Y) u) t.heap ∧ va_D A ((fun u : SS => wS cI cZ cJ a u Y) u)) A) ([.ref (a 1), .int x_g] : List Value).toArray s 0 0 A) (F0 m 27 ls []) := by
    intro d
    induction d with
    | zero =>
      intro k_g S_g hk_27 hd_27
      exact absurd hd_27 (by omega)
    | succ d ih_27 =>
      intro k_g S_g hk_27 hd_27 hI H locs hP hD hS ls hl
      refine lv_iload_n hx hb dX0_lookFrom_27 rfl (lv_at hl 2 rfl) ?_
      refine lv_aload_n hx hb dX0_lookFrom_28 rfl (lv_at hl 0 rfl) ?_
      refine va_get (D := G) (ci := 0) (v := .int (s_fc S_g)) (C := RX0) (T := TX0) (N := 10) hx hb hts in_X0_lookFrom_0 hown hK hP 0 rfl rfl 5 (by decide) (hts (.fieldLink RX0 28 "RampJam$Search" "foundCount" "I") (by decide +kernel)) (fun _ h9 => h9) rfl dX0_lookFrom_29 ?_
      refine lv_icmp_ge (tgt := 56) hx hb dX0_lookFrom_32 (by decide) (fun c_1 => ?_) (fun c_1 => ?_)
      · have hres := s_lookL_out (Y := Y) (k := k_g) (fun h => h.1 c_1)
        refine lv_aload_n hx hb dX0_lookFrom_56 rfl (lv_at hl 0 rfl) ?_
        refine rw_v (wr := []) (ws' := [((a 1), .inr (0, [.ref (a 6), .ref (a 2), .ref (a 3), .ref (a 4), .ref (a 5), .int (s_fc (s_trace S_g)), .int (s_fs (s_trace S_g)), .int (s_sm (s_trace S_g)), .int (s_sc (s_trace S_g)), .int (s_sf (s_trace S_g))])), ((a 2), .inl (cI, 800, .inl (s_fo (s_trace S_g)))), ((a 3), .inl (cI, 800, .inl (s_or (s_trace S_g)))), ((a 4), .inl (cI, 800, .inl (s_mo (s_trace S_g)))), ((a 5), .inl (cI, 2048, .inl (s_sl (s_trace S_g)))), ((a 6), .inr (1, [.ref (a 7), .ref (a 8), .ref (a 9), .ref (a 10), .int (nI (y_n Y)), .long (y_rp Y)])), ((a 7), .inl (cI, 9, .inl (y_sz Y))), ((a 8), .inl (cZ, 9, .inl (y_ac Y))), ((a 9), .inl (cI, 9, .inl (y_li Y))), ((a 10), .inl (cJ, 9, .inr (.inl (y_sh Y))))]) (va_runV (As := []) (rest := []) ⟨hx, hb, hml, hown, hts⟩ ((c_X0_traceWay l G cI cZ cJ a _ S_g Y)) (cwV 0 hts gX0_lookFrom_X0_traceWay rfl rfl rfl (by decide +kernel) ⟨Nat.le_of_ble_eq_true rfl, Nat.le_of_ble_eq_true rfl⟩) ⟨rw_blind, va_recv hK hP (ci := 0) (q0 := 0) rfl rfl, rw_pre hP hD hK hN⟩ rfl rfl hl.1 rfl (lv_room (Nat.le_of_ble_eq_true rfl)) dX0_lookFrom_57 ⟨Nat.zero_le _, Nat.zero_le _⟩) hS hA hP hD [0, 1, 2, 3, 4, 5, 6, 7, 8, 9] [] [0, 1, 2, 3, 4, 5, 6, 7, 8, 9] rfl rfl (by decide) (by decide) rfl (by decide) (fun H locs hP hD hS => ?_)
        have hP9 := hP
        have hD9 := hD
        exact W.vret hx hb hr (fun t ht hW => ⟨⟨(s_trace S_g), rfl, by rw [s_look, ← hI, hres], by rw [ht]; exact hP9, hD9⟩, hS.F ht⟩) hS.2.2 dX0_lookFrom_60
      · have hc1 := c_1
        refine lv_aload_n hx hb dX0_lookFrom_35 rfl (lv_at hl 0 rfl) ?_
        refine va_get (D := G) (ci := 0) (v := .int (s_fc S_g)) (C := RX0) (T := TX0) (N := 10) hx hb hts in_X0_lookFrom_0 hown hK hP 0 rfl rfl 5 (by decide) (hts (.fieldLink RX0 28 "RampJam$Search" "foundCount" "I") (by decide +kernel)) (fun _ h9 => h9) rfl dX0_lookFrom_36 ?_
        refine lv_sipush (v := 800) hx hb dX0_lookFrom_39 (by decide) ?_
        refine lv_icmp_ge (tgt := 56) hx hb dX0_lookFrom_42 (by decide) (fun c_2 => ?_) (fun c_2 => ?_)
        · have hres := s_lookL_out (Y := Y) (k := k_g) (fun h => h.2 c_2)
          refine lv_aload_n hx hb dX0_lookFrom_56 rfl (lv_at hl 0 rfl) ?_
          refine rw_v (wr := []) (ws' := [((a 1), .inr (0, [.ref (a 6), .ref (a 2), .ref (a 3), .ref (a 4), .ref (a 5), .int (s_fc (s_trace S_g)), .int (s_fs (s_trace S_g)), .int (s_sm (s_trace S_g)), .int (s_sc (s_trace S_g)), .int (s_sf (s_trace S_g))])), ((a 2), .inl (cI, 800, .inl (s_fo (s_trace S_g)))), ((a 3), .inl (cI, 800, .inl (s_or (s_trace S_g)))), ((a 4), .inl (cI, 800, .inl (s_mo (s_trace S_g)))), ((a 5), .inl (cI, 2048, .inl (s_sl (s_trace S_g)))), ((a 6), .inr (1, [.ref (a 7), .ref (a 8), .ref (a 9), .ref (a 10), .int (nI (y_n Y)), .long (y_rp Y)])), ((a 7), .inl (cI, 9, .inl (y_sz Y))), ((a 8), .inl (cZ, 9, .inl (y_ac Y))), ((a 9), .inl (cI, 9, .inl (y_li Y))), ((a 10), .inl (cJ, 9, .inr (.inl (y_sh Y))))]) (va_runV (As := []) (rest := []) ⟨hx, hb, hml, hown, hts⟩ ((c_X0_traceWay l G cI cZ cJ a _ S_g Y)) (cwV 0 hts gX0_lookFrom_X0_traceWay rfl rfl rfl (by decide +kernel) ⟨Nat.le_of_ble_eq_true rfl, Nat.le_of_ble_eq_true rfl⟩) ⟨rw_blind, va_recv hK hP (ci := 0) (q0 := 0) rfl rfl, rw_pre hP hD hK hN⟩ rfl rfl hl.1 rfl (lv_room (Nat.le_of_ble_eq_true rfl)) dX0_lookFrom_57 ⟨Nat.zero_le _, Nat.zero_le _⟩) hS hA hP hD [0, 1, 2, 3, 4, 5, 6, 7, 8, 9] [] [0, 1, 2, 3, 4, 5, 6, 7, 8, 9] rfl rfl (by decide) (by decide) rfl (by decide) (fun H locs hP hD hS => ?_)
          have hP9 := hP
          have hD9 := hD
          exact W.vret hx hb hr (fun t ht hW => ⟨⟨(s_trace S_g), rfl, by rw [s_look, ← hI, hres], by rw [ht]; exact hP9, hD9⟩, hS.F ht⟩) hS.2.2 dX0_lookFrom_60
        · have hc2 := c_2
          have hlt : k_g < 800 := s_look_lt (by omega) hc1 hc2
          refine lv_aload_n hx hb dX0_lookFrom_45 rfl (lv_at hl 0 rfl) ?_
          refine lv_iload_n hx hb dX0_lookFrom_46 rfl (lv_at hl 2 rfl) ?_
          refine rw_v (wr := []) (ws' := [((a 1), .inr (0, [.ref (a 6), .ref (a 2), .ref (a 3), .ref (a 4), .ref (a 5), .int (s_fc (s_reach Y S_g (nI k_g))), .int (s_fs (s_reach Y S_g (nI k_g))), .int (s_sm (s_reach Y S_g (nI k_g))), .int (s_sc (s_reach Y S_g (nI k_g))), .int (s_sf (s_reach Y S_g (nI k_g)))])), ((a 2), .inl (cI, 800, .inl (s_fo (s_reach Y S_g (nI k_g))))), ((a 3), .inl (cI, 800, .inl (s_or (s_reach Y S_g (nI k_g))))), ((a 4), .inl (cI, 800, .inl (s_mo (s_reach Y S_g (nI k_g))))), ((a 5), .inl (cI, 2048, .inl (s_sl (s_reach Y S_g (nI k_g))))), ((a 6), .inr (1, [.ref (a 7), .ref (a 8), .ref (a 9), .ref (a 10), .int (nI (y_n Y)), .long (y_rp Y)])), ((a 7), .inl (cI, 9, .inl (y_sz Y))), ((a 8), .inl (cZ, 9, .inl (y_ac Y))), ((a 9), .inl (cI, 9, .inl (y_li Y))), ((a 10), .inl (cJ, 9, .inr (.inl (y_sh Y))))]) (va_runV (As := [.int (nI k_g)]) (rest := []) ⟨hx, hb, hml, hown, hts⟩ ((c_X0_addReachedFrom l G cI cZ cJ a _ S_g Y (nI k_g) hn)) (cwV 1 hts gX0_lookFrom_X0_addReachedFrom rfl rfl rfl (by decide +kernel) ⟨Nat.le_of_ble_eq_true rfl, Nat.le_of_ble_eq_true rfl⟩) ⟨rw_blind, va_recv hK hP (ci := 0) (q0 := 0) rfl rfl, rw_pre hP hD hK hN⟩ rfl rfl hl.1 rfl (lv_room (Nat.le_of_ble_eq_true rfl)) dX0_lookFrom_47 ⟨Nat.zero_le _, Nat.zero_le _⟩) hS hA hP hD [0, 1, 2, 3, 4, 5, 6, 7, 8, 9] [] [0, 1, 2, 3, 4, 5, 6, 7, 8, 9] rfl rfl (by decide) (by decide) rfl (by decide) (fun H locs hP hD hS => ?_)
          refine lv_iinc (v := (nI (k_g + 1))) (lv' := [(2, .int (nI (k_g + 1))), (0, .ref (a 1)), (1, .int x_g)]) hx hb dX0_lookFrom_50 hl (k := 2) rfl (nI_1 _) (by decide) rfl (fun ls hl => ?_)
          refine lv_goto (tgt := 27) hx hb dX0_lookFrom_53 (by decide) ?_
          exact ih_27 (k_g + 1) (s_reach Y S_g (nI k_g)) (hlt) (by omega) (by rw [← hI, s_lookL_in hlt, if_pos ⟨hc1, hc2⟩]) _ _ hP hD hS _ (lv_sub hl [1, 2, 0] rfl)
  exact cut_27 (800 + 1) 0 (s_addN ((s_fo S), (s_or S), (s_mo S), (fillF (s_sl S) 2048 0), 0, (-1), (s_sm S), (s_sc S), (s_sf S)) x_g 0 0) (Nat.zero_le _) (by omega) (rfl) _ _ hP hD hS _ (lv_sub hl [1, 2, 0] rfl)
