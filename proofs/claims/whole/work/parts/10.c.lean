abbrev rm_Room_isBelow : Room := { frames := 0, cells := 0, slots := 0, locals := 0 }
set_option maxHeartbeats 4000000 in
set_option maxRecDepth 100000 in
theorem c_Room_isBelow (l : Launch) (D : va_G) (cI cZ : ClassId) (t : Nat → Nat) (sz : Nat) (p0 p1 zr : Int32) (hf : f_Room_isBelow p0 p1 = some zr) : Met l yX10_isBelow wsX10_isBelow rm_Room_isBelow (va_Pc [.int p0, .int p1] (pcW D cI cZ t [] sz)) (va_Qi (fun r (u : Unit) => r = zr) (fun u t' => bW D (va_A [] sz) [] t') (va_A [] sz)) 0 0 (va_A [] sz) := by
  refine Met.ofW (cc := cX10_isBelow) (maxL := 2) (ret := (some .boolean)) (by decide) rfl ?_
  intro p e s m args below meth c s₁ B hml hv
  obtain ⟨rfl, hsz, hP, hD0, hE⟩ := hv
  have hx := B.exec
  have hb := B.bytes
  have hr := B.returns
  have hts := atoms_spec (ws := wsX10_isBelow) B.pre
  have hown : s.vm.findClass RX10 = some m.cls := findClass_of_methodNamed B.named
  have hlocks := B.notSynchronized
  subst hsz
  have hD := hD0.self (sz := s.heap.size)
  generalize hAe : va_A [] s.heap.size = A at hD hE ⊢
  have hA : ∀ q : Nat, s.heap.size ≤ q → A q := fun q h => by rw [← hAe]; exact Or.inr h
  clear hAe hD0
  have hS : va_S A s.heap s.heap [] := va_S.rf
  have hK := hE.1
  have hl := lv_entry ([.int p0, .int p1]) (n := 2) (Nat.le_of_ble_eq_true rfl)
  rw [lg_entry_eq]
  generalize (lg_sl ([.int p0, .int p1]) ++ List.replicate (2 - (lg_sl ([.int p0, .int p1])).length) Slot.unset).toArray = ls at hl ⊢
  have hl : lv_has ls 2 [(0, .int p0), (1, .int p1)] := hl
  refine w_q (fun Q9 hQ9 => ?_)
  unfold f_Room_isBelow at hf
  refine lv_iload_n hx hb dX10_isBelow_0 rfl (lv_at hl 0 rfl) ?_
  refine lv_if_lt (tgt := 13) hx hb dX10_isBelow_1 (by decide) (fun c1 => ?_) (fun c1 => ?_)
  · have hf := ite_t c1 hf
    refine lv_iconst (v := 0) hx hb dX10_isBelow_13 (by decide) ?_
    cases hf
    exact k_zret () hQ9 hx hb hr hlocks (Or.inl rfl) rfl hP hD hS (Nat.le_of_ble_eq_true rfl) (Nat.le_of_ble_eq_true rfl) dX10_isBelow_14
  · have hf := ite_f c1 hf
    refine lv_iload_n hx hb dX10_isBelow_4 rfl (lv_at hl 0 rfl) ?_
    refine lv_iload_n hx hb dX10_isBelow_5 rfl (lv_at hl 1 rfl) ?_
    refine lv_icmp_ge (tgt := 13) hx hb dX10_isBelow_6 (by decide) (fun c2 => ?_) (fun c2 => ?_)
    · have hf := ite_t c2 hf
      refine lv_iconst (v := 0) hx hb dX10_isBelow_13 (by decide) ?_
      cases hf
      exact k_zret () hQ9 hx hb hr hlocks (Or.inl rfl) rfl hP hD hS (Nat.le_of_ble_eq_true rfl) (Nat.le_of_ble_eq_true rfl) dX10_isBelow_14
    · have hf := ite_f c2 hf
      refine lv_iconst (v := 1) hx hb dX10_isBelow_9 (by decide) ?_
      refine lv_goto (tgt := 14) hx hb dX10_isBelow_10 (by decide) ?_
      cases hf
      exact k_zret () hQ9 hx hb hr hlocks (Or.inr rfl) rfl hP hD hS (Nat.le_of_ble_eq_true rfl) (Nat.le_of_ble_eq_true rfl) dX10_isBelow_14
abbrev rm_Room_isTick : Room := { frames := 0, cells := 0, slots := 0, locals := 0 }
set_option maxHeartbeats 4000000 in
set_option maxRecDepth 100000 in
theorem c_Room_isTick (l : Launch) (D : va_G) (cI cZ : ClassId) (t : Nat → Nat) (sz : Nat) (p0 zr : Int32) (hf : f_Room_isTick p0 = some zr) : Met l yX10_isTick wsX10_isTick rm_Room_isTick (va_Pc [.int p0] (pcW D cI cZ t [] sz)) (va_Qi (fun r (u : Unit) => r = zr) (fun u t' => bW D (va_A [] sz) [] t') (va_A [] sz)) 0 0 (va_A [] sz) := by
  refine Met.ofW (cc := cX10_isTick) (maxL := 1) (ret := (some .boolean)) (by decide) rfl ?_
  intro p e s m args below meth c s₁ B hml hv
  obtain ⟨rfl, hsz, hP, hD0, hE⟩ := hv
  have hx := B.exec
  have hb := B.bytes
  have hr := B.returns
  have hts := atoms_spec (ws := wsX10_isTick) B.pre
  have hown : s.vm.findClass RX10 = some m.cls := findClass_of_methodNamed B.named
  have hlocks := B.notSynchronized
  subst hsz
  have hD := hD0.self (sz := s.heap.size)
  generalize hAe : va_A [] s.heap.size = A at hD hE ⊢
  have hA : ∀ q : Nat, s.heap.size ≤ q → A q := fun q h => by rw [← hAe]; exact Or.inr h
  clear hAe hD0
  have hS : va_S A s.heap s.heap [] := va_S.rf
  have hK := hE.1
  have hl := lv_entry ([.int p0]) (n := 1) (Nat.le_of_ble_eq_true rfl)
  rw [lg_entry_eq]
  generalize (lg_sl ([.int p0]) ++ List.replicate (1 - (lg_sl ([.int p0])).length) Slot.unset).toArray = ls at hl ⊢
  have hl : lv_has ls 1 [(0, .int p0)] := hl
  refine w_q (fun Q9 hQ9 => ?_)
  unfold f_Room_isTick at hf
  refine lv_iload_n hx hb dX10_isTick_0 rfl (lv_at hl 0 rfl) ?_
  refine lv_if_lt (tgt := 15) hx hb dX10_isTick_1 (by decide) (fun c1 => ?_) (fun c1 => ?_)
  · have hf := ite_t c1 hf
    refine lv_iconst (v := 0) hx hb dX10_isTick_15 (by decide) ?_
    cases hf
    exact k_zret () hQ9 hx hb hr hlocks (Or.inl rfl) rfl hP hD hS (Nat.le_of_ble_eq_true rfl) (Nat.le_of_ble_eq_true rfl) dX10_isTick_16
  · have hf := ite_f c1 hf
    refine lv_iload_n hx hb dX10_isTick_4 rfl (lv_at hl 0 rfl) ?_
    refine lv_sipush (v := 9999) hx hb dX10_isTick_5 (by decide) ?_
    refine lv_icmp_gt (tgt := 15) hx hb dX10_isTick_8 (by decide) (fun c2 => ?_) (fun c2 => ?_)
    · have hf := ite_t c2 hf
      refine lv_iconst (v := 0) hx hb dX10_isTick_15 (by decide) ?_
      cases hf
      exact k_zret () hQ9 hx hb hr hlocks (Or.inl rfl) rfl hP hD hS (Nat.le_of_ble_eq_true rfl) (Nat.le_of_ble_eq_true rfl) dX10_isTick_16
    · have hf := ite_f c2 hf
      refine lv_iconst (v := 1) hx hb dX10_isTick_11 (by decide) ?_
      refine lv_goto (tgt := 16) hx hb dX10_isTick_12 (by decide) ?_
      cases hf
      exact k_zret () hQ9 hx hb hr hlocks (Or.inr rfl) rfl hP hD hS (Nat.le_of_ble_eq_true rfl) (Nat.le_of_ble_eq_true rfl) dX10_isTick_16
abbrev rm_Room_handIn : Room := { frames := 0, cells := 0, slots := 0, locals := 0 }
set_option maxHeartbeats 4000000 in
set_option maxRecDepth 100000 in
theorem c_Room_handIn (l : Launch) (D : va_G) (cI cZ : ClassId) (t : Nat → Nat) (sz : Nat) (p0 p1 zr : Int32) (hf : f_Room_handIn p0 p1 = some zr) : Met l yX10_handIn wsX10_handIn rm_Room_handIn (va_Pc [.int p0, .int p1] (pcW D cI cZ t [] sz)) (va_Qi (fun r (u : Unit) => r = zr) (fun u t' => bW D (va_A [] sz) [] t') (va_A [] sz)) 0 0 (va_A [] sz) := by
  refine Met.ofW (cc := cX10_handIn) (maxL := 2) (ret := (some .int)) (by decide) rfl ?_
  intro p e s m args below meth c s₁ B hml hv
  obtain ⟨rfl, hsz, hP, hD0, hE⟩ := hv
  have hx := B.exec
  have hb := B.bytes
  have hr := B.returns
  have hts := atoms_spec (ws := wsX10_handIn) B.pre
  have hown : s.vm.findClass RX10 = some m.cls := findClass_of_methodNamed B.named
  have hlocks := B.notSynchronized
  subst hsz
  have hD := hD0.self (sz := s.heap.size)
  generalize hAe : va_A [] s.heap.size = A at hD hE ⊢
  have hA : ∀ q : Nat, s.heap.size ≤ q → A q := fun q h => by rw [← hAe]; exact Or.inr h
  clear hAe hD0
  have hS : va_S A s.heap s.heap [] := va_S.rf
  have hK := hE.1
  have hl := lv_entry ([.int p0, .int p1]) (n := 2) (Nat.le_of_ble_eq_true rfl)
  rw [lg_entry_eq]
  generalize (lg_sl ([.int p0, .int p1]) ++ List.replicate (2 - (lg_sl ([.int p0, .int p1])).length) Slot.unset).toArray = ls at hl ⊢
  have hl : lv_has ls 2 [(0, .int p0), (1, .int p1)] := hl
  refine w_q (fun Q9 hQ9 => ?_)
  unfold f_Room_handIn at hf
  refine lv_iload_n hx hb dX10_handIn_0 rfl (lv_at hl 0 rfl) ?_
  refine lv_iload_n hx hb dX10_handIn_1 rfl (lv_at hl 1 rfl) ?_
  refine lv_iushr hx hb dX10_handIn_2 rfl ?_
  obtain ⟨x1, ex1, hf⟩ := nm_s hf
  refine lv_tpx ex1 ?_
  refine lv_iconst (v := 1) hx hb dX10_handIn_3 (by decide) ?_
  refine lv_iand hx hb dX10_handIn_4 ?_
  cases hf
  exact k_iret () hQ9 hx hb hr hlocks rfl hP hD hS (Nat.le_of_ble_eq_true rfl) (Nat.le_of_ble_eq_true rfl) dX10_handIn_5
abbrev rm_Line_mainOf : Room := { frames := 0, cells := 0, slots := 0, locals := 0 }
set_option maxHeartbeats 4000000 in
set_option maxRecDepth 100000 in
theorem c_Line_mainOf (l : Launch) (D : va_G) (cI cZ : ClassId) (t : Nat → Nat) (sz : Nat) (p0 zr : Int32) (hf : f_Line_mainOf p0 = some zr) : Met l yX4_mainOf wsX4_mainOf rm_Line_mainOf (va_Pc [.int p0] (pcW D cI cZ t [] sz)) (va_Qi (fun r (u : Unit) => r = zr) (fun u t' => bW D (va_A [] sz) [] t') (va_A [] sz)) 0 0 (va_A [] sz) := by
  refine Met.ofW (cc := cX4_mainOf) (maxL := 1) (ret := (some .int)) (by decide) rfl ?_
  intro p e s m args below meth c s₁ B hml hv
  obtain ⟨rfl, hsz, hP, hD0, hE⟩ := hv
  have hx := B.exec
  have hb := B.bytes
  have hr := B.returns
  have hts := atoms_spec (ws := wsX4_mainOf) B.pre
  have hown : s.vm.findClass RX4 = some m.cls := findClass_of_methodNamed B.named
  have hlocks := B.notSynchronized
  subst hsz
  have hD := hD0.self (sz := s.heap.size)
  generalize hAe : va_A [] s.heap.size = A at hD hE ⊢
  have hA : ∀ q : Nat, s.heap.size ≤ q → A q := fun q h => by rw [← hAe]; exact Or.inr h
  clear hAe hD0
  have hS : va_S A s.heap s.heap [] := va_S.rf
  have hK := hE.1
  have hl := lv_entry ([.int p0]) (n := 1) (Nat.le_of_ble_eq_true rfl)
  rw [lg_entry_eq]
  generalize (lg_sl ([.int p0]) ++ List.replicate (1 - (lg_sl ([.int p0])).length) Slot.unset).toArray = ls at hl ⊢
  have hl : lv_has ls 1 [(0, .int p0)] := hl
  refine w_q (fun Q9 hQ9 => ?_)
  unfold f_Line_mainOf at hf
  refine lv_iconst (v := 1) hx hb dX4_mainOf_0 (by decide) ?_
  refine lv_iconst (v := 2) hx hb dX4_mainOf_1 (by decide) ?_
  refine lv_iload_n hx hb dX4_mainOf_2 rfl (lv_at hl 0 rfl) ?_
  refine lv_imul hx hb dX4_mainOf_3 ?_
  refine lv_iadd hx hb dX4_mainOf_4 ?_
  cases hf
  exact k_iret () hQ9 hx hb hr hlocks rfl hP hD hS (Nat.le_of_ble_eq_true rfl) (Nat.le_of_ble_eq_true rfl) dX4_mainOf_5
abbrev rm_Line_graceOf : Room := { frames := 0, cells := 0, slots := 0, locals := 0 }
set_option maxHeartbeats 4000000 in
set_option maxRecDepth 100000 in
theorem c_Line_graceOf (l : Launch) (D : va_G) (cI cZ : ClassId) (t : Nat → Nat) (sz : Nat) (p0 zr : Int32) (hf : f_Line_graceOf p0 = some zr) : Met l yX4_graceOf wsX4_graceOf rm_Line_graceOf (va_Pc [.int p0] (pcW D cI cZ t [] sz)) (va_Qi (fun r (u : Unit) => r = zr) (fun u t' => bW D (va_A [] sz) [] t') (va_A [] sz)) 0 0 (va_A [] sz) := by
  refine Met.ofW (cc := cX4_graceOf) (maxL := 1) (ret := (some .int)) (by decide) rfl ?_
  intro p e s m args below meth c s₁ B hml hv
  obtain ⟨rfl, hsz, hP, hD0, hE⟩ := hv
  have hx := B.exec
  have hb := B.bytes
  have hr := B.returns
  have hts := atoms_spec (ws := wsX4_graceOf) B.pre
  have hown : s.vm.findClass RX4 = some m.cls := findClass_of_methodNamed B.named
  have hlocks := B.notSynchronized
  subst hsz
  have hD := hD0.self (sz := s.heap.size)
  generalize hAe : va_A [] s.heap.size = A at hD hE ⊢
  have hA : ∀ q : Nat, s.heap.size ≤ q → A q := fun q h => by rw [← hAe]; exact Or.inr h
  clear hAe hD0
  have hS : va_S A s.heap s.heap [] := va_S.rf
  have hK := hE.1
  have hl := lv_entry ([.int p0]) (n := 1) (Nat.le_of_ble_eq_true rfl)
  rw [lg_entry_eq]
  generalize (lg_sl ([.int p0]) ++ List.replicate (1 - (lg_sl ([.int p0])).length) Slot.unset).toArray = ls at hl ⊢
  have hl : lv_has ls 1 [(0, .int p0)] := hl
  refine w_q (fun Q9 hQ9 => ?_)
  unfold f_Line_graceOf at hf
  refine lv_iconst (v := 2) hx hb dX4_graceOf_0 (by decide) ?_
  refine lv_iconst (v := 2) hx hb dX4_graceOf_1 (by decide) ?_
  refine lv_iload_n hx hb dX4_graceOf_2 rfl (lv_at hl 0 rfl) ?_
  refine lv_imul hx hb dX4_graceOf_3 ?_
  refine lv_iadd hx hb dX4_graceOf_4 ?_
  cases hf
  exact k_iret () hQ9 hx hb hr hlocks rfl hP hD hS (Nat.le_of_ble_eq_true rfl) (Nat.le_of_ble_eq_true rfl) dX4_graceOf_5
abbrev rm_Line_noteOf : Room := { frames := 0, cells := 0, slots := 0, locals := 0 }
set_option maxHeartbeats 4000000 in
set_option maxRecDepth 100000 in
theorem c_Line_noteOf (l : Launch) (D : va_G) (cI cZ : ClassId) (t : Nat → Nat) (sz : Nat) (p0 zr : Int32) (hf : f_Line_noteOf p0 = some zr) : Met l yX4_noteOf wsX4_noteOf rm_Line_noteOf (va_Pc [.int p0] (pcW D cI cZ t [] sz)) (va_Qi (fun r (u : Unit) => r = zr) (fun u t' => bW D (va_A [] sz) [] t') (va_A [] sz)) 0 0 (va_A [] sz) := by
  refine Met.ofW (cc := cX4_noteOf) (maxL := 1) (ret := (some .int)) (by decide) rfl ?_
  intro p e s m args below meth c s₁ B hml hv
  obtain ⟨rfl, hsz, hP, hD0, hE⟩ := hv
  have hx := B.exec
  have hb := B.bytes
  have hr := B.returns
  have hts := atoms_spec (ws := wsX4_noteOf) B.pre
  have hown : s.vm.findClass RX4 = some m.cls := findClass_of_methodNamed B.named
  have hlocks := B.notSynchronized
  subst hsz
  have hD := hD0.self (sz := s.heap.size)
  generalize hAe : va_A [] s.heap.size = A at hD hE ⊢
  have hA : ∀ q : Nat, s.heap.size ≤ q → A q := fun q h => by rw [← hAe]; exact Or.inr h
  clear hAe hD0
  have hS : va_S A s.heap s.heap [] := va_S.rf
  have hK := hE.1
  have hl := lv_entry ([.int p0]) (n := 1) (Nat.le_of_ble_eq_true rfl)
  rw [lg_entry_eq]
  generalize (lg_sl ([.int p0]) ++ List.replicate (1 - (lg_sl ([.int p0])).length) Slot.unset).toArray = ls at hl ⊢
  have hl : lv_has ls 1 [(0, .int p0)] := hl
  refine w_q (fun Q9 hQ9 => ?_)
  unfold f_Line_noteOf at hf
  refine lv_iload_n hx hb dX4_noteOf_0 rfl (lv_at hl 0 rfl) ?_
  refine lv_iconst (v := 1) hx hb dX4_noteOf_1 (by decide) ?_
  refine lv_isub hx hb dX4_noteOf_2 ?_
  refine lv_iconst (v := 2) hx hb dX4_noteOf_3 (by decide) ?_
  refine lv_idiv hx hb dX4_noteOf_4 (by decide) ?_
  obtain ⟨x1, ex1, hf⟩ := nm_s hf
  refine lv_tpx ex1 ?_
  cases hf
  exact k_iret () hQ9 hx hb hr hlocks rfl hP hD hS (Nat.le_of_ble_eq_true rfl) (Nat.le_of_ble_eq_true rfl) dX4_noteOf_5
abbrev rm_Line_latestTick : Room := { frames := 0, cells := 0, slots := 0, locals := 0 }
set_option maxHeartbeats 4000000 in
set_option maxRecDepth 100000 in
theorem c_Line_latestTick (l : Launch) (D : va_G) (cI cZ : ClassId) (t : Nat → Nat) (a_Line a_Line_kinds a_Line_ticks a_Line_drums a_Line_marks a_Line_strokeTicks a_Line_strokeHeights sz : Nat) (Line_ticks : Nat → Int32) (Line_count zr : Int32) (hf : f_Line_latestTick Line_ticks Line_count = some zr) : Met l yX4_latestTick wsX4_latestTick rm_Line_latestTick (va_Pc [.ref a_Line] (pcW D cI cZ t [(a_Line, .inr (4, [.ref a_Line_kinds, .ref a_Line_ticks, .ref a_Line_drums, .ref a_Line_marks, .ref a_Line_strokeTicks, .ref a_Line_strokeHeights, .int Line_count])), (a_Line_ticks, .inl (cI, 20, .inl Line_ticks))] sz)) (va_Qi (fun r (u : Unit) => r = zr) (fun u t' => bW D (va_A [(a_Line, .inr (4, [.ref a_Line_kinds, .ref a_Line_ticks, .ref a_Line_drums, .ref a_Line_marks, .ref a_Line_strokeTicks, .ref a_Line_strokeHeights, .int Line_count])), (a_Line_ticks, .inl (cI, 20, .inl Line_ticks))] sz) [(a_Line, .inr (4, [.ref a_Line_kinds, .ref a_Line_ticks, .ref a_Line_drums, .ref a_Line_marks, .ref a_Line_strokeTicks, .ref a_Line_strokeHeights, .int Line_count])), (a_Line_ticks, .inl (cI, 20, .inl Line_ticks))] t') (va_A [(a_Line, .inr (4, [.ref a_Line_kinds, .ref a_Line_ticks, .ref a_Line_drums, .ref a_Line_marks, .ref a_Line_strokeTicks, .ref a_Line_strokeHeights, .int Line_count])), (a_Line_ticks, .inl (cI, 20, .inl Line_ticks))] sz)) 0 0 (va_A [(a_Line, .inr (4, [.ref a_Line_kinds, .ref a_Line_ticks, .ref a_Line_drums, .ref a_Line_marks, .ref a_Line_strokeTicks, .ref a_Line_strokeHeights, .int Line_count])), (a_Line_ticks, .inl (cI, 20, .inl Line_ticks))] sz) := by
  refine Met.ofW (cc := cX4_latestTick) (maxL := 1) (ret := (some .int)) (by decide) rfl ?_
  intro p e s m args below meth c s₁ B hml hv
  obtain ⟨rfl, hsz, hP, hD0, hE⟩ := hv
  have hx := B.exec
  have hb := B.bytes
  have hr := B.returns
  have hts := atoms_spec (ws := wsX4_latestTick) B.pre
  have hown : s.vm.findClass RX4 = some m.cls := findClass_of_methodNamed B.named
  have hlocks := B.notSynchronized
  subst hsz
  have hD := hD0.self (sz := s.heap.size)
  generalize hAe : va_A [(a_Line, .inr (4, [.ref a_Line_kinds, .ref a_Line_ticks, .ref a_Line_drums, .ref a_Line_marks, .ref a_Line_strokeTicks, .ref a_Line_strokeHeights, .int Line_count])), (a_Line_ticks, .inl (cI, 20, .inl Line_ticks))] s.heap.size = A at hD hE ⊢
  have hA : ∀ q : Nat, s.heap.size ≤ q → A q := fun q h => by rw [← hAe]; exact Or.inr h
  clear hAe hD0
  have hS : va_S A s.heap s.heap [] := va_S.rf
  have hK := hE.1
  have hl := lv_entry ([.ref a_Line]) (n := 1) (Nat.le_of_ble_eq_true rfl)
  rw [lg_entry_eq]
  generalize (lg_sl ([.ref a_Line]) ++ List.replicate (1 - (lg_sl ([.ref a_Line])).length) Slot.unset).toArray = ls at hl ⊢
  have hl : lv_has ls 1 [(0, .ref a_Line)] := hl
  refine w_q (fun Q9 hQ9 => ?_)
  have fl30 := hts (.fieldLink RX4 30 "StickRoom$Line" "count" "I") (by decide +kernel)
  have inX4 : ∀ w ∈ wsX40, w ∈ wsX4_latestTick := by decide +kernel
  have fl15 := hts (.fieldLink RX4 15 "StickRoom$Line" "ticks" "[I") (by decide +kernel)
  unfold f_Line_latestTick at hf
  refine lv_aload_n hx hb dX4_latestTick_0 rfl (lv_at hl 0 rfl) ?_
  refine va_get (D := D) (ci := 4) (v := .int Line_count) (C := RX4) (T := TX4) (N := 7) hx hb hts inX4 hown hK hP 0 rfl rfl 6 (by decide) fl30 (fun _ h9 => h9) rfl dX4_latestTick_1 ?_
  refine lv_if_ne (tgt := 11) hx hb dX4_latestTick_4 (by decide) (fun c1 => ?_) (fun c1 => ?_)
  · have hf := ite_f c1 hf
    refine lv_aload_n hx hb dX4_latestTick_11 rfl (lv_at hl 0 rfl) ?_
    refine va_get (D := D) (ci := 4) (v := .ref a_Line_ticks) (C := RX4) (T := TX4) (N := 7) hx hb hts inX4 hown hK hP 0 rfl rfl 1 (by decide) fl15 (fun _ h9 => h9) rfl dX4_latestTick_12 ?_
    refine lv_aload_n hx hb dX4_latestTick_15 rfl (lv_at hl 0 rfl) ?_
    refine va_get (D := D) (ci := 4) (v := .int Line_count) (C := RX4) (T := TX4) (N := 7) hx hb hts inX4 hown hK hP 0 rfl rfl 6 (by decide) fl30 (fun _ h9 => h9) rfl dX4_latestTick_16 ?_
    refine lv_iconst (v := 1) hx hb dX4_latestTick_19 (by decide) ?_
    refine lv_isub hx hb dX4_latestTick_20 ?_
    obtain ⟨ix2, x2, ex2, hf⟩ := rd_s hf
    refine va_iald hx hb hK hP 1 0 rfl rfl ix2 dX4_latestTick_21 ?_
    refine lv_tpx ex2 ?_
    cases hf
    exact k_iret () hQ9 hx hb hr hlocks rfl hP hD hS (Nat.le_of_ble_eq_true rfl) (Nat.le_of_ble_eq_true rfl) dX4_latestTick_22
  · have hf := ite_t c1 hf
    refine lv_iconst (v := (-1)) hx hb dX4_latestTick_7 (by decide) ?_
    refine lv_goto (tgt := 22) hx hb dX4_latestTick_8 (by decide) ?_
    cases hf
    exact k_iret () hQ9 hx hb hr hlocks rfl hP hD hS (Nat.le_of_ble_eq_true rfl) (Nat.le_of_ble_eq_true rfl) dX4_latestTick_22
abbrev rm_Line_removeLatest : Room := { frames := 0, cells := 0, slots := 0, locals := 0 }
set_option maxHeartbeats 4000000 in
set_option maxRecDepth 100000 in
theorem c_Line_removeLatest (l : Launch) (D : va_G) (cI cZ : ClassId) (t : Nat → Nat) (a_Line a_Line_kinds a_Line_ticks a_Line_drums a_Line_marks a_Line_strokeTicks a_Line_strokeHeights sz : Nat) (Line_count z_Line_count : Int32) (hf : f_Line_removeLatest Line_count = some z_Line_count) : Met l yX4_removeLatest wsX4_removeLatest rm_Line_removeLatest (va_Pc [.ref a_Line] (pcW D cI cZ t [(a_Line, .inr (4, [.ref a_Line_kinds, .ref a_Line_ticks, .ref a_Line_drums, .ref a_Line_marks, .ref a_Line_strokeTicks, .ref a_Line_strokeHeights, .int Line_count]))] sz)) (va_Qv (fun u : Unit => u = u) (fun u t' => bW D (va_A [(a_Line, .inr (4, [.ref a_Line_kinds, .ref a_Line_ticks, .ref a_Line_drums, .ref a_Line_marks, .ref a_Line_strokeTicks, .ref a_Line_strokeHeights, .int Line_count]))] sz) [(a_Line, .inr (4, [.ref a_Line_kinds, .ref a_Line_ticks, .ref a_Line_drums, .ref a_Line_marks, .ref a_Line_strokeTicks, .ref a_Line_strokeHeights, .int z_Line_count]))] t') (va_A [(a_Line, .inr (4, [.ref a_Line_kinds, .ref a_Line_ticks, .ref a_Line_drums, .ref a_Line_marks, .ref a_Line_strokeTicks, .ref a_Line_strokeHeights, .int Line_count]))] sz)) 0 0 (va_A [(a_Line, .inr (4, [.ref a_Line_kinds, .ref a_Line_ticks, .ref a_Line_drums, .ref a_Line_marks, .ref a_Line_strokeTicks, .ref a_Line_strokeHeights, .int Line_count]))] sz) := by
  refine Met.ofW (cc := cX4_removeLatest) (maxL := 1) (ret := none) (by decide) rfl ?_
  intro p e s m args below meth c s₁ B hml hv
  obtain ⟨rfl, hsz, hP, hD0, hE⟩ := hv
  have hx := B.exec
  have hb := B.bytes
  have hr := B.returns
  have hts := atoms_spec (ws := wsX4_removeLatest) B.pre
  have hown : s.vm.findClass RX4 = some m.cls := findClass_of_methodNamed B.named
  have hlocks := B.notSynchronized
  subst hsz
  have hD := hD0.self (sz := s.heap.size)
  generalize hAe : va_A [(a_Line, .inr (4, [.ref a_Line_kinds, .ref a_Line_ticks, .ref a_Line_drums, .ref a_Line_marks, .ref a_Line_strokeTicks, .ref a_Line_strokeHeights, .int Line_count]))] s.heap.size = A at hD hE ⊢
  have hA : ∀ q : Nat, s.heap.size ≤ q → A q := fun q h => by rw [← hAe]; exact Or.inr h
  clear hAe hD0
  have hS : va_S A s.heap s.heap [] := va_S.rf
  have hK := hE.1
  have hl := lv_entry ([.ref a_Line]) (n := 1) (Nat.le_of_ble_eq_true rfl)
  rw [lg_entry_eq]
  generalize (lg_sl ([.ref a_Line]) ++ List.replicate (1 - (lg_sl ([.ref a_Line])).length) Slot.unset).toArray = ls at hl ⊢
  have hl : lv_has ls 1 [(0, .ref a_Line)] := hl
  refine w_q (fun Q9 hQ9 => ?_)
  have fl30 := hts (.fieldLink RX4 30 "StickRoom$Line" "count" "I") (by decide +kernel)
  have inX4 : ∀ w ∈ wsX40, w ∈ wsX4_removeLatest := by decide +kernel
  unfold f_Line_removeLatest at hf
  refine lv_aload_n hx hb dX4_removeLatest_0 rfl (lv_at hl 0 rfl) ?_
  refine va_get (D := D) (ci := 4) (v := .int Line_count) (C := RX4) (T := TX4) (N := 7) hx hb hts inX4 hown hK hP 0 rfl rfl 6 (by decide) fl30 (fun _ h9 => h9) rfl dX4_removeLatest_1 ?_
  refine lv_if_le (tgt := 17) hx hb dX4_removeLatest_4 (by decide) (fun c1 => ?_) (fun c1 => ?_)
  · have hf := ite_t c1 hf
    cases hf
    exact k_vret () hQ9 hx hb hr hlocks rfl hP hD hS (Nat.le_of_ble_eq_true rfl) (Nat.le_of_ble_eq_true rfl) dX4_removeLatest_17
  · have hf := ite_f c1 hf
    refine lv_aload_n hx hb dX4_removeLatest_7 rfl (lv_at hl 0 rfl) ?_
    refine lv_dup hx hb dX4_removeLatest_8 rfl ?_
    refine va_get (D := D) (ci := 4) (v := .int Line_count) (C := RX4) (T := TX4) (N := 7) hx hb hts inX4 hown hK hP 0 rfl rfl 6 (by decide) fl30 (fun _ h9 => h9) rfl dX4_removeLatest_9 ?_
    refine lv_iconst (v := 1) hx hb dX4_removeLatest_12 (by decide) ?_
    refine lv_isub hx hb dX4_removeLatest_13 ?_
    obtain ⟨x2, ex2, hf⟩ := nm_s hf
    refine lv_tpx ex2 ?_
    refine va_put (D := D) (ci := 4) (v := .int x2) (ty := .int) (C := RX4) (T := TX4) (N := 7) hx hb hts inX4 tyX4 tyX4_ok nmX4 hown hK hP hD hS 0 rfl rfl 6 (by decide) fl30 (fun _ h9 => h9) rfl (by decide +kernel) rfl rfl (Nat.le_of_ble_eq_true rfl) dX4_removeLatest_14 (fun H locs hP hD hS => ?_)
    have hP : va_P D vwCl [(a_Line, .inr (4, [.ref a_Line_kinds, .ref a_Line_ticks, .ref a_Line_drums, .ref a_Line_marks, .ref a_Line_strokeTicks, .ref a_Line_strokeHeights, .int x2]))] H := hP
    have hD : va_D A [(a_Line, .inr (4, [.ref a_Line_kinds, .ref a_Line_ticks, .ref a_Line_drums, .ref a_Line_marks, .ref a_Line_strokeTicks, .ref a_Line_strokeHeights, .int x2]))] := hD
    cases hf
    exact k_vret () hQ9 hx hb hr hlocks rfl hP hD hS (Nat.le_of_ble_eq_true rfl) (Nat.le_of_ble_eq_true rfl) dX4_removeLatest_17
abbrev rm_Line_countMarks : Room := { frames := 0, cells := 0, slots := 0, locals := 0 }
set_option maxHeartbeats 4000000 in
set_option maxRecDepth 100000 in
theorem c_Line_countMarks (l : Launch) (D : va_G) (cI cZ : ClassId) (t : Nat → Nat) (a_Line a_Line_kinds a_Line_ticks a_Line_drums a_Line_marks a_Line_strokeTicks a_Line_strokeHeights sz : Nat) (Line_marks : Nat → Int32) (Line_count zr : Int32) (hf : f_Line_countMarks Line_marks Line_count = some zr) : Met l yX4_countMarks wsX4_countMarks rm_Line_countMarks (va_Pc [.ref a_Line] (pcW D cI cZ t [(a_Line, .inr (4, [.ref a_Line_kinds, .ref a_Line_ticks, .ref a_Line_drums, .ref a_Line_marks, .ref a_Line_strokeTicks, .ref a_Line_strokeHeights, .int Line_count])), (a_Line_marks, .inl (cI, 20, .inl Line_marks))] sz)) (va_Qi (fun r (u : Unit) => r = zr) (fun u t' => bW D (va_A [(a_Line, .inr (4, [.ref a_Line_kinds, .ref a_Line_ticks, .ref a_Line_drums, .ref a_Line_marks, .ref a_Line_strokeTicks, .ref a_Line_strokeHeights, .int Line_count])), (a_Line_marks, .inl (cI, 20, .inl Line_marks))] sz) [(a_Line, .inr (4, [.ref a_Line_kinds, .ref a_Line_ticks, .ref a_Line_drums, .ref a_Line_marks, .ref a_Line_strokeTicks, .ref a_Line_strokeHeights, .int Line_count])), (a_Line_marks, .inl (cI, 20, .inl Line_marks))] t') (va_A [(a_Line, .inr (4, [.ref a_Line_kinds, .ref a_Line_ticks, .ref a_Line_drums, .ref a_Line_marks, .ref a_Line_strokeTicks, .ref a_Line_strokeHeights, .int Line_count])), (a_Line_marks, .inl (cI, 20, .inl Line_marks))] sz)) 0 0 (va_A [(a_Line, .inr (4, [.ref a_Line_kinds, .ref a_Line_ticks, .ref a_Line_drums, .ref a_Line_marks, .ref a_Line_strokeTicks, .ref a_Line_strokeHeights, .int Line_count])), (a_Line_marks, .inl (cI, 20, .inl Line_marks))] sz) := by
  refine Met.ofW (cc := cX4_countMarks) (maxL := 3) (ret := (some .int)) (by decide) rfl ?_
  intro p e s m args below meth c s₁ B hml hv
  obtain ⟨rfl, hsz, hP, hD0, hE⟩ := hv
  have hx := B.exec
  have hb := B.bytes
  have hr := B.returns
  have hts := atoms_spec (ws := wsX4_countMarks) B.pre
  have hown : s.vm.findClass RX4 = some m.cls := findClass_of_methodNamed B.named
  have hlocks := B.notSynchronized
  subst hsz
  have hD := hD0.self (sz := s.heap.size)
  generalize hAe : va_A [(a_Line, .inr (4, [.ref a_Line_kinds, .ref a_Line_ticks, .ref a_Line_drums, .ref a_Line_marks, .ref a_Line_strokeTicks, .ref a_Line_strokeHeights, .int Line_count])), (a_Line_marks, .inl (cI, 20, .inl Line_marks))] s.heap.size = A at hD hE ⊢
  have hA : ∀ q : Nat, s.heap.size ≤ q → A q := fun q h => by rw [← hAe]; exact Or.inr h
  clear hAe hD0
  have hS : va_S A s.heap s.heap [] := va_S.rf
  have hK := hE.1
  have hl := lv_entry ([.ref a_Line]) (n := 3) (Nat.le_of_ble_eq_true rfl)
  rw [lg_entry_eq]
  generalize (lg_sl ([.ref a_Line]) ++ List.replicate (3 - (lg_sl ([.ref a_Line])).length) Slot.unset).toArray = ls at hl ⊢
  have hl : lv_has ls 3 [(0, .ref a_Line)] := hl
  refine w_q (fun Q9 hQ9 => ?_)
  have fl30 := hts (.fieldLink RX4 30 "StickRoom$Line" "count" "I") (by decide +kernel)
  have inX4 : ∀ w ∈ wsX40, w ∈ wsX4_countMarks := by decide +kernel
  have fl21 := hts (.fieldLink RX4 21 "StickRoom$Line" "marks" "[I") (by decide +kernel)
  have hL4 : ∀ (n4 : Nat) (l1 l2 : Int32) (H : Heap) (locs : List Loc) (ls : Array Slot), va_P D vwCl [(a_Line, .inr (4, [.ref a_Line_kinds, .ref a_Line_ticks, .ref a_Line_drums, .ref a_Line_marks, .ref a_Line_strokeTicks, .ref a_Line_strokeHeights, .int Line_count])), (a_Line_marks, .inl (cI, 20, .inl Line_marks))] H → va_D A [(a_Line, .inr (4, [.ref a_Line_kinds, .ref a_Line_ticks, .ref a_Line_drums, .ref a_Line_marks, .ref a_Line_strokeTicks, .ref a_Line_strokeHeights, .int Line_count])), (a_Line_marks, .inl (cI, 20, .inl Line_marks))] → va_S A s.heap H locs → lv_has ls 3 [(0, .ref a_Line), (1, .int l1), (2, .int l2)] → f_Line_countMarks_4 Line_marks Line_count  n4 l1 l2 = some zr → W p l e (headSpec wsX4_countMarks rm_Line_countMarks).room s m ([.ref a_Line] : List Value).toArray below meth c H locs 0 0 Q9 (F0 m 4 ls []) := by
    intro n4
    induction n4 with
    | zero => intro l1 l2 H locs ls hP hD hS hl hf; exact nomatch (show none = some zr from hf)
    | succ n4 ih4 =>
      intro l1 l2 H locs ls hP hD hS hl hf
      have hf : f_Line_countMarks_4_b Line_marks Line_count  (f_Line_countMarks_4 Line_marks Line_count  n4) l1 l2 = some zr := hf
      unfold f_Line_countMarks_4_b at hf
      refine lv_iload_n hx hb dX4_countMarks_4 rfl (lv_at hl 2 rfl) ?_
      refine lv_aload_n hx hb dX4_countMarks_5 rfl (lv_at hl 0 rfl) ?_
      refine va_get (D := D) (ci := 4) (v := .int Line_count) (C := RX4) (T := TX4) (N := 7) hx hb hts inX4 hown hK hP 0 rfl rfl 6 (by decide) fl30 (fun _ h9 => h9) rfl dX4_countMarks_6 ?_
      refine lv_icmp_ge (tgt := 31) hx hb dX4_countMarks_9 (by decide) (fun c1 => ?_) (fun c1 => ?_)
      · have hf := ite_t c1 hf
        refine lv_iload_n hx hb dX4_countMarks_31 rfl (lv_at hl 1 rfl) ?_
        cases hf
        exact k_iret () hQ9 hx hb hr hlocks rfl hP hD hS (Nat.le_of_ble_eq_true rfl) (Nat.le_of_ble_eq_true rfl) dX4_countMarks_32
      · have hf := ite_f c1 hf
        refine lv_aload_n hx hb dX4_countMarks_12 rfl (lv_at hl 0 rfl) ?_
        refine va_get (D := D) (ci := 4) (v := .ref a_Line_marks) (C := RX4) (T := TX4) (N := 7) hx hb hts inX4 hown hK hP 0 rfl rfl 3 (by decide) fl21 (fun _ h9 => h9) rfl dX4_countMarks_13 ?_
        refine lv_iload_n hx hb dX4_countMarks_16 rfl (lv_at hl 2 rfl) ?_
        obtain ⟨ix2, x2, ex2, hf⟩ := rd_s hf
        refine va_iald hx hb hK hP 1 0 rfl rfl ix2 dX4_countMarks_17 ?_
        refine lv_tpx ex2 ?_
        refine lv_iconst (v := (-1)) hx hb dX4_countMarks_18 (by decide) ?_
        refine lv_icmp_eq (tgt := 25) hx hb dX4_countMarks_19 (by decide) (fun c3 => ?_) (fun c3 => ?_)
        · have hf := ite_t c3 hf
          obtain ⟨x4, ex4, hf⟩ := nm_s hf
          refine lv_iinc (v := x4) (lv' := [(2, .int x4), (0, .ref a_Line), (1, .int l1)]) hx hb dX4_countMarks_25 hl (k := 2) rfl (by rw [ex4]; rfl) (by decide) rfl (fun ls hl => ?_)
          refine lv_goto (tgt := 4) hx hb dX4_countMarks_28 (by decide) ?_
          exact ih4 l1 x4 H locs ls hP hD hS (lv_sub hl [1, 2, 0] rfl) hf
        · have hf := ite_f c3 hf
          obtain ⟨x5, ex5, hf⟩ := nm_s hf
          refine lv_iinc (v := x5) (lv' := [(1, .int x5), (0, .ref a_Line), (2, .int l2)]) hx hb dX4_countMarks_22 hl (k := 1) rfl (by rw [ex5]; rfl) (by decide) rfl (fun ls hl => ?_)
          obtain ⟨x6, ex6, hf⟩ := nm_s hf
          refine lv_iinc (v := x6) (lv' := [(2, .int x6), (1, .int x5), (0, .ref a_Line)]) hx hb dX4_countMarks_25 hl (k := 2) rfl (by rw [ex6]; rfl) (by decide) rfl (fun ls hl => ?_)
          refine lv_goto (tgt := 4) hx hb dX4_countMarks_28 (by decide) ?_
          exact ih4 x5 x6 H locs ls hP hD hS (lv_sub hl [2, 1, 0] rfl) hf
  unfold f_Line_countMarks at hf
  refine lv_iconst (v := 0) hx hb dX4_countMarks_0 (by decide) ?_
  refine lv_istore_n (lv' := [(1, .int 0), (0, .ref a_Line)]) hx hb dX4_countMarks_1 rfl hl (by decide) rfl (fun ls hl => ?_)
  refine lv_iconst (v := 0) hx hb dX4_countMarks_2 (by decide) ?_
  refine lv_istore_n (lv' := [(2, .int 0), (1, .int 0), (0, .ref a_Line)]) hx hb dX4_countMarks_3 rfl hl (by decide) rfl (fun ls hl => ?_)
  exact hL4 fu 0 0 s.heap [] ls hP hD hS (lv_sub hl [2, 1, 0] rfl) hf
abbrev rm_Line_isOfKind : Room := { frames := 0, cells := 0, slots := 0, locals := 0 }
set_option maxHeartbeats 4000000 in
set_option maxRecDepth 100000 in
theorem c_Line_isOfKind (l : Launch) (D : va_G) (cI cZ : ClassId) (t : Nat → Nat) (a_Line a_Line_kinds a_Line_ticks a_Line_drums a_Line_marks a_Line_strokeTicks a_Line_strokeHeights sz : Nat) (Line_kinds : Nat → Int32) (Line_count p1 p2 zr : Int32) (hf : f_Line_isOfKind Line_kinds p1 p2 = some zr) : Met l yX4_isOfKind wsX4_isOfKind rm_Line_isOfKind (va_Pc [.ref a_Line, .int p1, .int p2] (pcW D cI cZ t [(a_Line, .inr (4, [.ref a_Line_kinds, .ref a_Line_ticks, .ref a_Line_drums, .ref a_Line_marks, .ref a_Line_strokeTicks, .ref a_Line_strokeHeights, .int Line_count])), (a_Line_kinds, .inl (cI, 20, .inl Line_kinds))] sz)) (va_Qi (fun r (u : Unit) => r = zr) (fun u t' => bW D (va_A [(a_Line, .inr (4, [.ref a_Line_kinds, .ref a_Line_ticks, .ref a_Line_drums, .ref a_Line_marks, .ref a_Line_strokeTicks, .ref a_Line_strokeHeights, .int Line_count])), (a_Line_kinds, .inl (cI, 20, .inl Line_kinds))] sz) [(a_Line, .inr (4, [.ref a_Line_kinds, .ref a_Line_ticks, .ref a_Line_drums, .ref a_Line_marks, .ref a_Line_strokeTicks, .ref a_Line_strokeHeights, .int Line_count])), (a_Line_kinds, .inl (cI, 20, .inl Line_kinds))] t') (va_A [(a_Line, .inr (4, [.ref a_Line_kinds, .ref a_Line_ticks, .ref a_Line_drums, .ref a_Line_marks, .ref a_Line_strokeTicks, .ref a_Line_strokeHeights, .int Line_count])), (a_Line_kinds, .inl (cI, 20, .inl Line_kinds))] sz)) 0 0 (va_A [(a_Line, .inr (4, [.ref a_Line_kinds, .ref a_Line_ticks, .ref a_Line_drums, .ref a_Line_marks, .ref a_Line_strokeTicks, .ref a_Line_strokeHeights, .int Line_count])), (a_Line_kinds, .inl (cI, 20, .inl Line_kinds))] sz) := by
  refine Met.ofW (cc := cX4_isOfKind) (maxL := 4) (ret := (some .boolean)) (by decide) rfl ?_
  intro p e s m args below meth c s₁ B hml hv
  obtain ⟨rfl, hsz, hP, hD0, hE⟩ := hv
  have hx := B.exec
  have hb := B.bytes
  have hr := B.returns
  have hts := atoms_spec (ws := wsX4_isOfKind) B.pre
  have hown : s.vm.findClass RX4 = some m.cls := findClass_of_methodNamed B.named
  have hlocks := B.notSynchronized
  subst hsz
  have hD := hD0.self (sz := s.heap.size)
  generalize hAe : va_A [(a_Line, .inr (4, [.ref a_Line_kinds, .ref a_Line_ticks, .ref a_Line_drums, .ref a_Line_marks, .ref a_Line_strokeTicks, .ref a_Line_strokeHeights, .int Line_count])), (a_Line_kinds, .inl (cI, 20, .inl Line_kinds))] s.heap.size = A at hD hE ⊢
  have hA : ∀ q : Nat, s.heap.size ≤ q → A q := fun q h => by rw [← hAe]; exact Or.inr h
  clear hAe hD0
  have hS : va_S A s.heap s.heap [] := va_S.rf
  have hK := hE.1
  have hl := lv_entry ([.ref a_Line, .int p1, .int p2]) (n := 4) (Nat.le_of_ble_eq_true rfl)
  rw [lg_entry_eq]
  generalize (lg_sl ([.ref a_Line, .int p1, .int p2]) ++ List.replicate (4 - (lg_sl ([.ref a_Line, .int p1, .int p2])).length) Slot.unset).toArray = ls at hl ⊢
  have hl : lv_has ls 4 [(0, .ref a_Line), (1, .int p1), (2, .int p2)] := hl
  refine w_q (fun Q9 hQ9 => ?_)
  have fl9 := hts (.fieldLink RX4 9 "StickRoom$Line" "kinds" "[I") (by decide +kernel)
  have inX4 : ∀ w ∈ wsX40, w ∈ wsX4_isOfKind := by decide +kernel
  unfold f_Line_isOfKind at hf
  refine lv_aload_n hx hb dX4_isOfKind_0 rfl (lv_at hl 0 rfl) ?_
  refine va_get (D := D) (ci := 4) (v := .ref a_Line_kinds) (C := RX4) (T := TX4) (N := 7) hx hb hts inX4 hown hK hP 0 rfl rfl 0 (by decide) fl9 (fun _ h9 => h9) rfl dX4_isOfKind_1 ?_
  refine lv_iload_n hx hb dX4_isOfKind_4 rfl (lv_at hl 1 rfl) ?_
  obtain ⟨ix1, x1, ex1, hf⟩ := rd_s hf
  refine va_iald hx hb hK hP 1 0 rfl rfl ix1 dX4_isOfKind_5 ?_
  refine lv_tpx ex1 ?_
  refine lv_istore_n (lv' := [(3, .int x1), (0, .ref a_Line), (1, .int p1), (2, .int p2)]) hx hb dX4_isOfKind_6 rfl hl (by decide) rfl (fun ls hl => ?_)
  refine lv_iload_n hx hb dX4_isOfKind_7 rfl (lv_at hl 3 rfl) ?_
  refine lv_iload_n hx hb dX4_isOfKind_8 rfl (lv_at hl 0 rfl) ?_
  refine lv_icmp_eq (tgt := 26) hx hb dX4_isOfKind_9 (by decide) (fun c2 => ?_) (fun c2 => ?_)
  · have hf := ite_t c2 hf
    refine lv_iconst (v := 1) hx hb dX4_isOfKind_26 (by decide) ?_
    refine lv_goto (tgt := 31) hx hb dX4_isOfKind_27 (by decide) ?_
    cases hf
    exact k_zret () hQ9 hx hb hr hlocks (Or.inr rfl) rfl hP hD hS (Nat.le_of_ble_eq_true rfl) (Nat.le_of_ble_eq_true rfl) dX4_isOfKind_31
  · have hf := ite_f c2 hf
    refine lv_iload_n hx hb dX4_isOfKind_12 rfl (lv_at hl 3 rfl) ?_
    refine lv_if_eq (tgt := 26) hx hb dX4_isOfKind_13 (by decide) (fun c3 => ?_) (fun c3 => ?_)
    · have hf := ite_t c3 hf
      refine lv_iconst (v := 1) hx hb dX4_isOfKind_26 (by decide) ?_
      refine lv_goto (tgt := 31) hx hb dX4_isOfKind_27 (by decide) ?_
      cases hf
      exact k_zret () hQ9 hx hb hr hlocks (Or.inr rfl) rfl hP hD hS (Nat.le_of_ble_eq_true rfl) (Nat.le_of_ble_eq_true rfl) dX4_isOfKind_31
    · have hf := ite_f c3 hf
      refine lv_iload_n hx hb dX4_isOfKind_16 rfl (lv_at hl 3 rfl) ?_
      refine lv_iconst (v := 2) hx hb dX4_isOfKind_17 (by decide) ?_
      refine lv_icmp_ne (tgt := 30) hx hb dX4_isOfKind_18 (by decide) (fun c4 => ?_) (fun c4 => ?_)
      · have hf := ite_f c4 hf
        refine lv_iconst (v := 0) hx hb dX4_isOfKind_30 (by decide) ?_
        cases hf
        exact k_zret () hQ9 hx hb hr hlocks (Or.inl rfl) rfl hP hD hS (Nat.le_of_ble_eq_true rfl) (Nat.le_of_ble_eq_true rfl) dX4_isOfKind_31
      · have hf := ite_t c4 hf
        refine lv_iload_n hx hb dX4_isOfKind_21 rfl (lv_at hl 0 rfl) ?_
        refine lv_iconst (v := 3) hx hb dX4_isOfKind_22 (by decide) ?_
        refine lv_icmp_ne (tgt := 30) hx hb dX4_isOfKind_23 (by decide) (fun c5 => ?_) (fun c5 => ?_)
        · have hf := ite_f c5 hf
          refine lv_iconst (v := 0) hx hb dX4_isOfKind_30 (by decide) ?_
          cases hf
          exact k_zret () hQ9 hx hb hr hlocks (Or.inl rfl) rfl hP hD hS (Nat.le_of_ble_eq_true rfl) (Nat.le_of_ble_eq_true rfl) dX4_isOfKind_31
        · have hf := ite_t c5 hf
          refine lv_iconst (v := 1) hx hb dX4_isOfKind_26 (by decide) ?_
          refine lv_goto (tgt := 31) hx hb dX4_isOfKind_27 (by decide) ?_
          cases hf
          exact k_zret () hQ9 hx hb hr hlocks (Or.inr rfl) rfl hP hD hS (Nat.le_of_ble_eq_true rfl) (Nat.le_of_ble_eq_true rfl) dX4_isOfKind_31
abbrev rm_Line_graces : Room := { frames := 0, cells := 0, slots := 0, locals := 0 }
set_option maxHeartbeats 4000000 in
set_option maxRecDepth 100000 in
theorem c_Line_graces (l : Launch) (D : va_G) (cI cZ : ClassId) (t : Nat → Nat) (a_Line a_Line_kinds a_Line_ticks a_Line_drums a_Line_marks a_Line_strokeTicks a_Line_strokeHeights sz : Nat) (Line_kinds : Nat → Int32) (Line_count p1 zr : Int32) (hf : f_Line_graces Line_kinds p1 = some zr) : Met l yX4_graces wsX4_graces rm_Line_graces (va_Pc [.ref a_Line, .int p1] (pcW D cI cZ t [(a_Line, .inr (4, [.ref a_Line_kinds, .ref a_Line_ticks, .ref a_Line_drums, .ref a_Line_marks, .ref a_Line_strokeTicks, .ref a_Line_strokeHeights, .int Line_count])), (a_Line_kinds, .inl (cI, 20, .inl Line_kinds))] sz)) (va_Qi (fun r (u : Unit) => r = zr) (fun u t' => bW D (va_A [(a_Line, .inr (4, [.ref a_Line_kinds, .ref a_Line_ticks, .ref a_Line_drums, .ref a_Line_marks, .ref a_Line_strokeTicks, .ref a_Line_strokeHeights, .int Line_count])), (a_Line_kinds, .inl (cI, 20, .inl Line_kinds))] sz) [(a_Line, .inr (4, [.ref a_Line_kinds, .ref a_Line_ticks, .ref a_Line_drums, .ref a_Line_marks, .ref a_Line_strokeTicks, .ref a_Line_strokeHeights, .int Line_count])), (a_Line_kinds, .inl (cI, 20, .inl Line_kinds))] t') (va_A [(a_Line, .inr (4, [.ref a_Line_kinds, .ref a_Line_ticks, .ref a_Line_drums, .ref a_Line_marks, .ref a_Line_strokeTicks, .ref a_Line_strokeHeights, .int Line_count])), (a_Line_kinds, .inl (cI, 20, .inl Line_kinds))] sz)) 0 0 (va_A [(a_Line, .inr (4, [.ref a_Line_kinds, .ref a_Line_ticks, .ref a_Line_drums, .ref a_Line_marks, .ref a_Line_strokeTicks, .ref a_Line_strokeHeights, .int Line_count])), (a_Line_kinds, .inl (cI, 20, .inl Line_kinds))] sz) := by
  refine Met.ofW (cc := cX4_graces) (maxL := 2) (ret := (some .int)) (by decide) rfl ?_
  intro p e s m args below meth c s₁ B hml hv
  obtain ⟨rfl, hsz, hP, hD0, hE⟩ := hv
  have hx := B.exec
  have hb := B.bytes
  have hr := B.returns
  have hts := atoms_spec (ws := wsX4_graces) B.pre
  have hown : s.vm.findClass RX4 = some m.cls := findClass_of_methodNamed B.named
  have hlocks := B.notSynchronized
  subst hsz
  have hD := hD0.self (sz := s.heap.size)
  generalize hAe : va_A [(a_Line, .inr (4, [.ref a_Line_kinds, .ref a_Line_ticks, .ref a_Line_drums, .ref a_Line_marks, .ref a_Line_strokeTicks, .ref a_Line_strokeHeights, .int Line_count])), (a_Line_kinds, .inl (cI, 20, .inl Line_kinds))] s.heap.size = A at hD hE ⊢
  have hA : ∀ q : Nat, s.heap.size ≤ q → A q := fun q h => by rw [← hAe]; exact Or.inr h
  clear hAe hD0
  have hS : va_S A s.heap s.heap [] := va_S.rf
  have hK := hE.1
  have hl := lv_entry ([.ref a_Line, .int p1]) (n := 2) (Nat.le_of_ble_eq_true rfl)
  rw [lg_entry_eq]
  generalize (lg_sl ([.ref a_Line, .int p1]) ++ List.replicate (2 - (lg_sl ([.ref a_Line, .int p1])).length) Slot.unset).toArray = ls at hl ⊢
  have hl : lv_has ls 2 [(0, .ref a_Line), (1, .int p1)] := hl
  refine w_q (fun Q9 hQ9 => ?_)
  have fl52 := hts (.fieldLink RX4 52 "StickRoom$Line" "GRACES" "[I") (by decide +kernel)
  have fl9 := hts (.fieldLink RX4 9 "StickRoom$Line" "kinds" "[I") (by decide +kernel)
  have inX4 : ∀ w ∈ wsX40, w ∈ wsX4_graces := by decide +kernel
  unfold f_Line_graces at hf
  refine va_gets hx hb (hE.2.2.2.1.1) hS hown fl52 (fun _ h9 => h9) dX4_graces_0 ?_
  refine lv_aload_n hx hb dX4_graces_3 rfl (lv_at hl 0 rfl) ?_
  refine va_get (D := D) (ci := 4) (v := .ref a_Line_kinds) (C := RX4) (T := TX4) (N := 7) hx hb hts inX4 hown hK hP 0 rfl rfl 0 (by decide) fl9 (fun _ h9 => h9) rfl dX4_graces_4 ?_
  refine lv_iload_n hx hb dX4_graces_7 rfl (lv_at hl 1 rfl) ?_
  obtain ⟨ix1, x1, ex1, hf⟩ := rd_s hf
  refine va_iald hx hb hK hP 1 0 rfl rfl ix1 dX4_graces_8 ?_
  refine lv_tpx ex1 ?_
  obtain ⟨ix2, x2, ex2, hf⟩ := rd_s hf
  refine va_ti hx hb (hE.2.2.2.1.2) hS ix2 rfl dX4_graces_9 ?_
  refine lv_tpx ex2 ?_
  cases hf
  exact k_iret () hQ9 hx hb hr hlocks rfl hP hD hS (Nat.le_of_ble_eq_true rfl) (Nat.le_of_ble_eq_true rfl) dX4_graces_10
abbrev rm_Line_firstGraceTick : Room := { frames := 0, cells := 0, slots := 0, locals := 0 }
set_option maxHeartbeats 4000000 in
set_option maxRecDepth 100000 in
theorem c_Line_firstGraceTick (l : Launch) (D : va_G) (cI cZ : ClassId) (t : Nat → Nat) (a_Line a_Line_kinds a_Line_ticks a_Line_drums a_Line_marks a_Line_strokeTicks a_Line_strokeHeights sz : Nat) (Line_kinds Line_ticks : Nat → Int32) (Line_count p1 zr : Int32) (hf : f_Line_firstGraceTick Line_kinds Line_ticks p1 = some zr) : Met l yX4_firstGraceTick wsX4_firstGraceTick rm_Line_firstGraceTick (va_Pc [.ref a_Line, .int p1] (pcW D cI cZ t [(a_Line, .inr (4, [.ref a_Line_kinds, .ref a_Line_ticks, .ref a_Line_drums, .ref a_Line_marks, .ref a_Line_strokeTicks, .ref a_Line_strokeHeights, .int Line_count])), (a_Line_kinds, .inl (cI, 20, .inl Line_kinds)), (a_Line_ticks, .inl (cI, 20, .inl Line_ticks))] sz)) (va_Qi (fun r (u : Unit) => r = zr) (fun u t' => bW D (va_A [(a_Line, .inr (4, [.ref a_Line_kinds, .ref a_Line_ticks, .ref a_Line_drums, .ref a_Line_marks, .ref a_Line_strokeTicks, .ref a_Line_strokeHeights, .int Line_count])), (a_Line_kinds, .inl (cI, 20, .inl Line_kinds)), (a_Line_ticks, .inl (cI, 20, .inl Line_ticks))] sz) [(a_Line, .inr (4, [.ref a_Line_kinds, .ref a_Line_ticks, .ref a_Line_drums, .ref a_Line_marks, .ref a_Line_strokeTicks, .ref a_Line_strokeHeights, .int Line_count])), (a_Line_kinds, .inl (cI, 20, .inl Line_kinds)), (a_Line_ticks, .inl (cI, 20, .inl Line_ticks))] t') (va_A [(a_Line, .inr (4, [.ref a_Line_kinds, .ref a_Line_ticks, .ref a_Line_drums, .ref a_Line_marks, .ref a_Line_strokeTicks, .ref a_Line_strokeHeights, .int Line_count])), (a_Line_kinds, .inl (cI, 20, .inl Line_kinds)), (a_Line_ticks, .inl (cI, 20, .inl Line_ticks))] sz)) 0 0 (va_A [(a_Line, .inr (4, [.ref a_Line_kinds, .ref a_Line_ticks, .ref a_Line_drums, .ref a_Line_marks, .ref a_Line_strokeTicks, .ref a_Line_strokeHeights, .int Line_count])), (a_Line_kinds, .inl (cI, 20, .inl Line_kinds)), (a_Line_ticks, .inl (cI, 20, .inl Line_ticks))] sz) := by
  refine Met.ofW (cc := cX4_firstGraceTick) (maxL := 2) (ret := (some .int)) (by decide) rfl ?_
  intro p e s m args below meth c s₁ B hml hv
  obtain ⟨rfl, hsz, hP, hD0, hE⟩ := hv
  have hx := B.exec
  have hb := B.bytes
  have hr := B.returns
  have hts := atoms_spec (ws := wsX4_firstGraceTick) B.pre
  have hown : s.vm.findClass RX4 = some m.cls := findClass_of_methodNamed B.named
  have hlocks := B.notSynchronized
  subst hsz
  have hD := hD0.self (sz := s.heap.size)
  generalize hAe : va_A [(a_Line, .inr (4, [.ref a_Line_kinds, .ref a_Line_ticks, .ref a_Line_drums, .ref a_Line_marks, .ref a_Line_strokeTicks, .ref a_Line_strokeHeights, .int Line_count])), (a_Line_kinds, .inl (cI, 20, .inl Line_kinds)), (a_Line_ticks, .inl (cI, 20, .inl Line_ticks))] s.heap.size = A at hD hE ⊢
  have hA : ∀ q : Nat, s.heap.size ≤ q → A q := fun q h => by rw [← hAe]; exact Or.inr h
  clear hAe hD0
  have hS : va_S A s.heap s.heap [] := va_S.rf
  have hK := hE.1
  have hl := lv_entry ([.ref a_Line, .int p1]) (n := 2) (Nat.le_of_ble_eq_true rfl)
  rw [lg_entry_eq]
  generalize (lg_sl ([.ref a_Line, .int p1]) ++ List.replicate (2 - (lg_sl ([.ref a_Line, .int p1])).length) Slot.unset).toArray = ls at hl ⊢
  have hl : lv_has ls 2 [(0, .ref a_Line), (1, .int p1)] := hl
  refine w_q (fun Q9 hQ9 => ?_)
  have fl15 := hts (.fieldLink RX4 15 "StickRoom$Line" "ticks" "[I") (by decide +kernel)
  have inX4 : ∀ w ∈ wsX40, w ∈ wsX4_firstGraceTick := by decide +kernel
  have fl52 := hts (.fieldLink RX4 52 "StickRoom$Line" "GRACES" "[I") (by decide +kernel)
  have fl9 := hts (.fieldLink RX4 9 "StickRoom$Line" "kinds" "[I") (by decide +kernel)
  unfold f_Line_firstGraceTick at hf
  refine lv_aload_n hx hb dX4_firstGraceTick_0 rfl (lv_at hl 0 rfl) ?_
  refine va_get (D := D) (ci := 4) (v := .ref a_Line_ticks) (C := RX4) (T := TX4) (N := 7) hx hb hts inX4 hown hK hP 0 rfl rfl 1 (by decide) fl15 (fun _ h9 => h9) rfl dX4_firstGraceTick_1 ?_
  refine lv_iload_n hx hb dX4_firstGraceTick_4 rfl (lv_at hl 1 rfl) ?_
  obtain ⟨ix1, x1, ex1, hf⟩ := rd_s hf
  refine va_iald hx hb hK hP 2 0 rfl rfl ix1 dX4_firstGraceTick_5 ?_
  refine lv_tpx ex1 ?_
  refine lv_iconst (v := 4) hx hb dX4_firstGraceTick_6 (by decide) ?_
  refine va_gets hx hb (hE.2.2.2.1.1) hS hown fl52 (fun _ h9 => h9) dX4_firstGraceTick_7 ?_
  refine lv_aload_n hx hb dX4_firstGraceTick_10 rfl (lv_at hl 0 rfl) ?_
  refine va_get (D := D) (ci := 4) (v := .ref a_Line_kinds) (C := RX4) (T := TX4) (N := 7) hx hb hts inX4 hown hK hP 0 rfl rfl 0 (by decide) fl9 (fun _ h9 => h9) rfl dX4_firstGraceTick_11 ?_
  refine lv_iload_n hx hb dX4_firstGraceTick_14 rfl (lv_at hl 1 rfl) ?_
  obtain ⟨ix2, x2, ex2, hf⟩ := rd_s hf
  refine va_iald hx hb hK hP 1 0 rfl rfl ix2 dX4_firstGraceTick_15 ?_
  refine lv_tpx ex2 ?_
  obtain ⟨ix3, x3, ex3, hf⟩ := rd_s hf
  refine va_ti hx hb (hE.2.2.2.1.2) hS ix3 rfl dX4_firstGraceTick_16 ?_
  refine lv_tpx ex3 ?_
  refine lv_imul hx hb dX4_firstGraceTick_17 ?_
  refine lv_isub hx hb dX4_firstGraceTick_18 ?_
  cases hf
  exact k_iret () hQ9 hx hb hr hlocks rfl hP hD hS (Nat.le_of_ble_eq_true rfl) (Nat.le_of_ble_eq_true rfl) dX4_firstGraceTick_19
abbrev rm_Line_mayBeBy : Room := { frames := 0, cells := 0, slots := 0, locals := 0 }
set_option maxHeartbeats 4000000 in
set_option maxRecDepth 100000 in
theorem c_Line_mayBeBy (l : Launch) (D : va_G) (cI cZ : ClassId) (t : Nat → Nat) (a_Line a_Line_kinds a_Line_ticks a_Line_drums a_Line_marks a_Line_strokeTicks a_Line_strokeHeights sz : Nat) (Line_marks : Nat → Int32) (Line_count p1 p2 zr : Int32) (hf : f_Line_mayBeBy Line_marks p1 p2 = some zr) : Met l yX4_mayBeBy wsX4_mayBeBy rm_Line_mayBeBy (va_Pc [.ref a_Line, .int p1, .int p2] (pcW D cI cZ t [(a_Line, .inr (4, [.ref a_Line_kinds, .ref a_Line_ticks, .ref a_Line_drums, .ref a_Line_marks, .ref a_Line_strokeTicks, .ref a_Line_strokeHeights, .int Line_count])), (a_Line_marks, .inl (cI, 20, .inl Line_marks))] sz)) (va_Qi (fun r (u : Unit) => r = zr) (fun u t' => bW D (va_A [(a_Line, .inr (4, [.ref a_Line_kinds, .ref a_Line_ticks, .ref a_Line_drums, .ref a_Line_marks, .ref a_Line_strokeTicks, .ref a_Line_strokeHeights, .int Line_count])), (a_Line_marks, .inl (cI, 20, .inl Line_marks))] sz) [(a_Line, .inr (4, [.ref a_Line_kinds, .ref a_Line_ticks, .ref a_Line_drums, .ref a_Line_marks, .ref a_Line_strokeTicks, .ref a_Line_strokeHeights, .int Line_count])), (a_Line_marks, .inl (cI, 20, .inl Line_marks))] t') (va_A [(a_Line, .inr (4, [.ref a_Line_kinds, .ref a_Line_ticks, .ref a_Line_drums, .ref a_Line_marks, .ref a_Line_strokeTicks, .ref a_Line_strokeHeights, .int Line_count])), (a_Line_marks, .inl (cI, 20, .inl Line_marks))] sz)) 0 0 (va_A [(a_Line, .inr (4, [.ref a_Line_kinds, .ref a_Line_ticks, .ref a_Line_drums, .ref a_Line_marks, .ref a_Line_strokeTicks, .ref a_Line_strokeHeights, .int Line_count])), (a_Line_marks, .inl (cI, 20, .inl Line_marks))] sz) := by
  refine Met.ofW (cc := cX4_mayBeBy) (maxL := 3) (ret := (some .boolean)) (by decide) rfl ?_
  intro p e s m args below meth c s₁ B hml hv
  obtain ⟨rfl, hsz, hP, hD0, hE⟩ := hv
  have hx := B.exec
  have hb := B.bytes
  have hr := B.returns
  have hts := atoms_spec (ws := wsX4_mayBeBy) B.pre
  have hown : s.vm.findClass RX4 = some m.cls := findClass_of_methodNamed B.named
  have hlocks := B.notSynchronized
  subst hsz
  have hD := hD0.self (sz := s.heap.size)
  generalize hAe : va_A [(a_Line, .inr (4, [.ref a_Line_kinds, .ref a_Line_ticks, .ref a_Line_drums, .ref a_Line_marks, .ref a_Line_strokeTicks, .ref a_Line_strokeHeights, .int Line_count])), (a_Line_marks, .inl (cI, 20, .inl Line_marks))] s.heap.size = A at hD hE ⊢
  have hA : ∀ q : Nat, s.heap.size ≤ q → A q := fun q h => by rw [← hAe]; exact Or.inr h
  clear hAe hD0
  have hS : va_S A s.heap s.heap [] := va_S.rf
  have hK := hE.1
  have hl := lv_entry ([.ref a_Line, .int p1, .int p2]) (n := 3) (Nat.le_of_ble_eq_true rfl)
  rw [lg_entry_eq]
  generalize (lg_sl ([.ref a_Line, .int p1, .int p2]) ++ List.replicate (3 - (lg_sl ([.ref a_Line, .int p1, .int p2])).length) Slot.unset).toArray = ls at hl ⊢
  have hl : lv_has ls 3 [(0, .ref a_Line), (1, .int p1), (2, .int p2)] := hl
  refine w_q (fun Q9 hQ9 => ?_)
  have fl21 := hts (.fieldLink RX4 21 "StickRoom$Line" "marks" "[I") (by decide +kernel)
  have inX4 : ∀ w ∈ wsX40, w ∈ wsX4_mayBeBy := by decide +kernel
  unfold f_Line_mayBeBy at hf
  refine lv_aload_n hx hb dX4_mayBeBy_0 rfl (lv_at hl 0 rfl) ?_
  refine va_get (D := D) (ci := 4) (v := .ref a_Line_marks) (C := RX4) (T := TX4) (N := 7) hx hb hts inX4 hown hK hP 0 rfl rfl 3 (by decide) fl21 (fun _ h9 => h9) rfl dX4_mayBeBy_1 ?_
  refine lv_iload_n hx hb dX4_mayBeBy_4 rfl (lv_at hl 1 rfl) ?_
  obtain ⟨ix1, x1, ex1, hf⟩ := rd_s hf
  refine va_iald hx hb hK hP 1 0 rfl rfl ix1 dX4_mayBeBy_5 ?_
  refine lv_tpx ex1 ?_
  refine lv_iconst (v := (-1)) hx hb dX4_mayBeBy_6 (by decide) ?_
  refine lv_icmp_eq (tgt := 20) hx hb dX4_mayBeBy_7 (by decide) (fun c2 => ?_) (fun c2 => ?_)
  · have hf := ite_t c2 hf
    refine lv_iconst (v := 1) hx hb dX4_mayBeBy_20 (by decide) ?_
    refine lv_goto (tgt := 25) hx hb dX4_mayBeBy_21 (by decide) ?_
    cases hf
    exact k_zret () hQ9 hx hb hr hlocks (Or.inr rfl) rfl hP hD hS (Nat.le_of_ble_eq_true rfl) (Nat.le_of_ble_eq_true rfl) dX4_mayBeBy_25
  · have hf := ite_f c2 hf
    refine lv_aload_n hx hb dX4_mayBeBy_10 rfl (lv_at hl 0 rfl) ?_
    refine va_get (D := D) (ci := 4) (v := .ref a_Line_marks) (C := RX4) (T := TX4) (N := 7) hx hb hts inX4 hown hK hP 0 rfl rfl 3 (by decide) fl21 (fun _ h9 => h9) rfl dX4_mayBeBy_11 ?_
    refine lv_iload_n hx hb dX4_mayBeBy_14 rfl (lv_at hl 1 rfl) ?_
    obtain ⟨ix3, x3, ex3, hf⟩ := rd_s hf
    refine va_iald hx hb hK hP 1 0 rfl rfl ix3 dX4_mayBeBy_15 ?_
    refine lv_tpx ex3 ?_
    refine lv_iload_n hx hb dX4_mayBeBy_16 rfl (lv_at hl 2 rfl) ?_
    refine lv_icmp_ne (tgt := 24) hx hb dX4_mayBeBy_17 (by decide) (fun c4 => ?_) (fun c4 => ?_)
    · have hf := ite_f c4 hf
      refine lv_iconst (v := 0) hx hb dX4_mayBeBy_24 (by decide) ?_
      cases hf
      exact k_zret () hQ9 hx hb hr hlocks (Or.inl rfl) rfl hP hD hS (Nat.le_of_ble_eq_true rfl) (Nat.le_of_ble_eq_true rfl) dX4_mayBeBy_25
    · have hf := ite_t c4 hf
      refine lv_iconst (v := 1) hx hb dX4_mayBeBy_20 (by decide) ?_
      refine lv_goto (tgt := 25) hx hb dX4_mayBeBy_21 (by decide) ?_
      cases hf
      exact k_zret () hQ9 hx hb hr hlocks (Or.inr rfl) rfl hP hD hS (Nat.le_of_ble_eq_true rfl) (Nat.le_of_ble_eq_true rfl) dX4_mayBeBy_25
abbrev rm_Rules_mayBecome : Room := { frames := 1, cells := 0, slots := 0, locals := 21 }
set_option maxHeartbeats 4000000 in
set_option maxRecDepth 100000 in
theorem c_Rules_mayBecome (l : Launch) (D : va_G) (cI cZ : ClassId) (t : Nat → Nat) (a_Rules a_Rules_values sz : Nat) (p1 p2 zr : Int32) (hf : f_Rules_mayBecome p1 p2 = some zr) : Met l yX7_mayBecome wsX7_mayBecome rm_Rules_mayBecome (va_Pc [.ref a_Rules, .int p1, .int p2] (pcW D cI cZ t [(a_Rules, .inr (7, [.ref a_Rules_values]))] sz)) (va_Qi (fun r (u : Unit) => r = zr) (fun u t' => bW D (va_A [(a_Rules, .inr (7, [.ref a_Rules_values]))] sz) [(a_Rules, .inr (7, [.ref a_Rules_values]))] t') (va_A [(a_Rules, .inr (7, [.ref a_Rules_values]))] sz)) 0 0 (va_A [(a_Rules, .inr (7, [.ref a_Rules_values]))] sz) := by
  refine Met.ofW (cc := cX7_mayBecome) (maxL := 3) (ret := (some .boolean)) (by decide) rfl ?_
  intro p e s m args below meth c s₁ B hml hv
  obtain ⟨rfl, hsz, hP, hD0, hE⟩ := hv
  have hx := B.exec
  have hb := B.bytes
  have hr := B.returns
  have hts := atoms_spec (ws := wsX7_mayBecome) B.pre
  have hown : s.vm.findClass RX7 = some m.cls := findClass_of_methodNamed B.named
  have hlocks := B.notSynchronized
  subst hsz
  have hD := hD0.self (sz := s.heap.size)
  generalize hAe : va_A [(a_Rules, .inr (7, [.ref a_Rules_values]))] s.heap.size = A at hD hE ⊢
  have hA : ∀ q : Nat, s.heap.size ≤ q → A q := fun q h => by rw [← hAe]; exact Or.inr h
  clear hAe hD0
  have hS : va_S A s.heap s.heap [] := va_S.rf
  have hK := hE.1
  have hl := lv_entry ([.ref a_Rules, .int p1, .int p2]) (n := 3) (Nat.le_of_ble_eq_true rfl)
  rw [lg_entry_eq]
  generalize (lg_sl ([.ref a_Rules, .int p1, .int p2]) ++ List.replicate (3 - (lg_sl ([.ref a_Rules, .int p1, .int p2])).length) Slot.unset).toArray = ls at hl ⊢
  have hl : lv_has ls 3 [(0, .ref a_Rules), (1, .int p1), (2, .int p2)] := hl
  refine w_q (fun Q9 hQ9 => ?_)
  have st_X10_isBelow := hts (.static yX10_isBelow) (by decide +kernel)
  have ini_X10 := hts (.initialized RX10) (by decide +kernel)
  have fl19 := hts (.fieldLink RX7 19 "StickRoom$Rules" "LIMITS" "[I") (by decide +kernel)
  unfold f_Rules_mayBecome at hf
  refine lv_iload_n hx hb dX7_mayBecome_0 rfl (lv_at hl 1 rfl) ?_
  refine lv_iconst (v := 5) hx hb dX7_mayBecome_1 (by decide) ?_
  obtain ⟨r1, g2, hf⟩ := b1_s hf
  refine k_SNi (rest := []) ⟨hx, hb, hml, hown, hts⟩ (c_Room_isBelow l D cI cZ t  s.heap.size p1 5 r1 g2) ⟨va_cnB 2 hts gX7_mayBecome_X10_isBelow_n13 rfl rfl rfl (nZ_RX7_13 hE.2.1) ini_X10 (by decide +kernel) ⟨Nat.le_of_ble_eq_true rfl, Nat.le_of_ble_eq_true rfl⟩, st_X10_isBelow, trivial⟩ hE hP hD hS hA [] [0] rfl rfl rfl rfl rfl rfl hl.1 rfl (Nat.le_of_ble_eq_true rfl) dX7_mayBecome_2 ⟨Nat.le_of_ble_eq_true rfl, Nat.le_of_ble_eq_true rfl⟩ (fun rq uq H locs hrq hP hD hS => ?_)
  refine lv_tpx hrq.symm ?_
  have hP : va_P D vwCl [(a_Rules, .inr (7, [.ref a_Rules_values]))] H := hP
  have hD : va_D A [(a_Rules, .inr (7, [.ref a_Rules_values]))] := hD
  refine lv_if_eq (tgt := 25) hx hb dX7_mayBecome_5 (by decide) (fun c3 => ?_) (fun c3 => ?_)
  · have hf := ite_t c3 hf
    refine lv_iconst (v := 0) hx hb dX7_mayBecome_25 (by decide) ?_
    cases hf
    exact k_zret () hQ9 hx hb hr hlocks (Or.inl rfl) rfl hP hD hS (Nat.le_of_ble_eq_true rfl) (Nat.le_of_ble_eq_true rfl) dX7_mayBecome_26
  · have hf := ite_f c3 hf
    refine lv_iload_n hx hb dX7_mayBecome_8 rfl (lv_at hl 2 rfl) ?_
    refine lv_if_lt (tgt := 25) hx hb dX7_mayBecome_9 (by decide) (fun c4 => ?_) (fun c4 => ?_)
    · have hf := ite_t c4 hf
      refine lv_iconst (v := 0) hx hb dX7_mayBecome_25 (by decide) ?_
      cases hf
      exact k_zret () hQ9 hx hb hr hlocks (Or.inl rfl) rfl hP hD hS (Nat.le_of_ble_eq_true rfl) (Nat.le_of_ble_eq_true rfl) dX7_mayBecome_26
    · have hf := ite_f c4 hf
      refine lv_iload_n hx hb dX7_mayBecome_12 rfl (lv_at hl 2 rfl) ?_
      refine va_gets hx hb (hE.2.2.2.2.1.1) hS hown fl19 (fun _ h9 => h9) dX7_mayBecome_13 ?_
      refine lv_iload_n hx hb dX7_mayBecome_16 rfl (lv_at hl 1 rfl) ?_
      obtain ⟨ix5, x5, ex5, hf⟩ := rd_s hf
      refine va_ti hx hb (hE.2.2.2.2.1.2) hS ix5 rfl dX7_mayBecome_17 ?_
      refine lv_tpx ex5 ?_
      refine lv_icmp_gt (tgt := 25) hx hb dX7_mayBecome_18 (by decide) (fun c6 => ?_) (fun c6 => ?_)
      · have hf := ite_t c6 hf
        refine lv_iconst (v := 0) hx hb dX7_mayBecome_25 (by decide) ?_
        cases hf
        exact k_zret () hQ9 hx hb hr hlocks (Or.inl rfl) rfl hP hD hS (Nat.le_of_ble_eq_true rfl) (Nat.le_of_ble_eq_true rfl) dX7_mayBecome_26
      · have hf := ite_f c6 hf
        refine lv_iconst (v := 1) hx hb dX7_mayBecome_21 (by decide) ?_
        refine lv_goto (tgt := 26) hx hb dX7_mayBecome_22 (by decide) ?_
        cases hf
        exact k_zret () hQ9 hx hb hr hlocks (Or.inr rfl) rfl hP hD hS (Nat.le_of_ble_eq_true rfl) (Nat.le_of_ble_eq_true rfl) dX7_mayBecome_26
abbrev rm_Line_hasNote : Room := { frames := 1, cells := 0, slots := 0, locals := 21 }
set_option maxHeartbeats 4000000 in
set_option maxRecDepth 100000 in
theorem c_Line_hasNote (l : Launch) (D : va_G) (cI cZ : ClassId) (t : Nat → Nat) (a_Line a_Line_kinds a_Line_ticks a_Line_drums a_Line_marks a_Line_strokeTicks a_Line_strokeHeights sz : Nat) (Line_count p1 zr : Int32) (hf : f_Line_hasNote Line_count p1 = some zr) : Met l yX4_hasNote wsX4_hasNote rm_Line_hasNote (va_Pc [.ref a_Line, .int p1] (pcW D cI cZ t [(a_Line, .inr (4, [.ref a_Line_kinds, .ref a_Line_ticks, .ref a_Line_drums, .ref a_Line_marks, .ref a_Line_strokeTicks, .ref a_Line_strokeHeights, .int Line_count]))] sz)) (va_Qi (fun r (u : Unit) => r = zr) (fun u t' => bW D (va_A [(a_Line, .inr (4, [.ref a_Line_kinds, .ref a_Line_ticks, .ref a_Line_drums, .ref a_Line_marks, .ref a_Line_strokeTicks, .ref a_Line_strokeHeights, .int Line_count]))] sz) [(a_Line, .inr (4, [.ref a_Line_kinds, .ref a_Line_ticks, .ref a_Line_drums, .ref a_Line_marks, .ref a_Line_strokeTicks, .ref a_Line_strokeHeights, .int Line_count]))] t') (va_A [(a_Line, .inr (4, [.ref a_Line_kinds, .ref a_Line_ticks, .ref a_Line_drums, .ref a_Line_marks, .ref a_Line_strokeTicks, .ref a_Line_strokeHeights, .int Line_count]))] sz)) 0 0 (va_A [(a_Line, .inr (4, [.ref a_Line_kinds, .ref a_Line_ticks, .ref a_Line_drums, .ref a_Line_marks, .ref a_Line_strokeTicks, .ref a_Line_strokeHeights, .int Line_count]))] sz) := by
  refine Met.ofW (cc := cX4_hasNote) (maxL := 2) (ret := (some .boolean)) (by decide) rfl ?_
  intro p e s m args below meth c s₁ B hml hv
  obtain ⟨rfl, hsz, hP, hD0, hE⟩ := hv
  have hx := B.exec
  have hb := B.bytes
  have hr := B.returns
  have hts := atoms_spec (ws := wsX4_hasNote) B.pre
  have hown : s.vm.findClass RX4 = some m.cls := findClass_of_methodNamed B.named
  have hlocks := B.notSynchronized
  subst hsz
  have hD := hD0.self (sz := s.heap.size)
  generalize hAe : va_A [(a_Line, .inr (4, [.ref a_Line_kinds, .ref a_Line_ticks, .ref a_Line_drums, .ref a_Line_marks, .ref a_Line_strokeTicks, .ref a_Line_strokeHeights, .int Line_count]))] s.heap.size = A at hD hE ⊢
  have hA : ∀ q : Nat, s.heap.size ≤ q → A q := fun q h => by rw [← hAe]; exact Or.inr h
  clear hAe hD0
  have hS : va_S A s.heap s.heap [] := va_S.rf
  have hK := hE.1
  have hl := lv_entry ([.ref a_Line, .int p1]) (n := 2) (Nat.le_of_ble_eq_true rfl)
  rw [lg_entry_eq]
  generalize (lg_sl ([.ref a_Line, .int p1]) ++ List.replicate (2 - (lg_sl ([.ref a_Line, .int p1])).length) Slot.unset).toArray = ls at hl ⊢
  have hl : lv_has ls 2 [(0, .ref a_Line), (1, .int p1)] := hl
  refine w_q (fun Q9 hQ9 => ?_)
  have fl30 := hts (.fieldLink RX4 30 "StickRoom$Line" "count" "I") (by decide +kernel)
  have inX4 : ∀ w ∈ wsX40, w ∈ wsX4_hasNote := by decide +kernel
  have st_X10_isBelow := hts (.static yX10_isBelow) (by decide +kernel)
  have ini_X10 := hts (.initialized RX10) (by decide +kernel)
  unfold f_Line_hasNote at hf
  refine lv_iload_n hx hb dX4_hasNote_0 rfl (lv_at hl 1 rfl) ?_
  refine lv_aload_n hx hb dX4_hasNote_1 rfl (lv_at hl 0 rfl) ?_
  refine va_get (D := D) (ci := 4) (v := .int Line_count) (C := RX4) (T := TX4) (N := 7) hx hb hts inX4 hown hK hP 0 rfl rfl 6 (by decide) fl30 (fun _ h9 => h9) rfl dX4_hasNote_2 ?_
  obtain ⟨r1, g2, hf⟩ := b1_s hf
  refine k_SNi (rest := []) ⟨hx, hb, hml, hown, hts⟩ (c_Room_isBelow l D cI cZ t  s.heap.size p1 Line_count r1 g2) ⟨va_cnB 2 hts gX4_hasNote_X10_isBelow_n34 rfl rfl rfl (nZ_RX4_34 hE.2.1) ini_X10 (by decide +kernel) ⟨Nat.le_of_ble_eq_true rfl, Nat.le_of_ble_eq_true rfl⟩, st_X10_isBelow, trivial⟩ hE hP hD hS hA [] [0] rfl rfl rfl rfl rfl rfl hl.1 rfl (Nat.le_of_ble_eq_true rfl) dX4_hasNote_5 ⟨Nat.le_of_ble_eq_true rfl, Nat.le_of_ble_eq_true rfl⟩ (fun rq uq H locs hrq hP hD hS => ?_)
  refine lv_tpx hrq.symm ?_
  have hP : va_P D vwCl [(a_Line, .inr (4, [.ref a_Line_kinds, .ref a_Line_ticks, .ref a_Line_drums, .ref a_Line_marks, .ref a_Line_strokeTicks, .ref a_Line_strokeHeights, .int Line_count]))] H := hP
  have hD : va_D A [(a_Line, .inr (4, [.ref a_Line_kinds, .ref a_Line_ticks, .ref a_Line_drums, .ref a_Line_marks, .ref a_Line_strokeTicks, .ref a_Line_strokeHeights, .int Line_count]))] := hD
  obtain ⟨hz9, hf⟩ := zb_s hf
  cases hf
  exact k_zret () hQ9 hx hb hr hlocks hz9 rfl hP hD hS (Nat.le_of_ble_eq_true rfl) (Nat.le_of_ble_eq_true rfl) dX4_hasNote_8
abbrev rm_Line_append : Room := { frames := 1, cells := 0, slots := 0, locals := 20 }
set_option maxHeartbeats 4000000 in
set_option maxRecDepth 100000 in
theorem c_Line_append (l : Launch) (D : va_G) (cI cZ : ClassId) (t : Nat → Nat) (a_Line a_Line_kinds a_Line_ticks a_Line_drums a_Line_marks a_Line_strokeTicks a_Line_strokeHeights sz : Nat) (Line_kinds Line_ticks Line_drums Line_marks Line_strokeTicks Line_strokeHeights : Nat → Int32) (Line_count p1 p2 p3 p4 : Int32) (z_Line_kinds z_Line_ticks z_Line_drums z_Line_marks z_Line_strokeTicks z_Line_strokeHeights : Nat → Int32) (z_Line_count : Int32) (hf : f_Line_append Line_kinds Line_ticks Line_drums Line_marks Line_strokeTicks Line_strokeHeights Line_count p1 p2 p3 p4 = some (z_Line_kinds, z_Line_ticks, z_Line_drums, z_Line_marks, z_Line_strokeTicks, z_Line_strokeHeights, z_Line_count)) : Met l yX4_append wsX4_append rm_Line_append (va_Pc [.ref a_Line, .int p1, .int p2, .int p3, .int p4] (pcW D cI cZ t [(a_Line, .inr (4, [.ref a_Line_kinds, .ref a_Line_ticks, .ref a_Line_drums, .ref a_Line_marks, .ref a_Line_strokeTicks, .ref a_Line_strokeHeights, .int Line_count])), (a_Line_kinds, .inl (cI, 20, .inl Line_kinds)), (a_Line_ticks, .inl (cI, 20, .inl Line_ticks)), (a_Line_drums, .inl (cI, 20, .inl Line_drums)), (a_Line_marks, .inl (cI, 20, .inl Line_marks)), (a_Line_strokeTicks, .inl (cI, 41, .inl Line_strokeTicks)), (a_Line_strokeHeights, .inl (cI, 41, .inl Line_strokeHeights))] sz)) (va_Qv (fun u : Unit => u = u) (fun u t' => bW D (va_A [(a_Line, .inr (4, [.ref a_Line_kinds, .ref a_Line_ticks, .ref a_Line_drums, .ref a_Line_marks, .ref a_Line_strokeTicks, .ref a_Line_strokeHeights, .int Line_count])), (a_Line_kinds, .inl (cI, 20, .inl Line_kinds)), (a_Line_ticks, .inl (cI, 20, .inl Line_ticks)), (a_Line_drums, .inl (cI, 20, .inl Line_drums)), (a_Line_marks, .inl (cI, 20, .inl Line_marks)), (a_Line_strokeTicks, .inl (cI, 41, .inl Line_strokeTicks)), (a_Line_strokeHeights, .inl (cI, 41, .inl Line_strokeHeights))] sz) [(a_Line, .inr (4, [.ref a_Line_kinds, .ref a_Line_ticks, .ref a_Line_drums, .ref a_Line_marks, .ref a_Line_strokeTicks, .ref a_Line_strokeHeights, .int z_Line_count])), (a_Line_kinds, .inl (cI, 20, .inl z_Line_kinds)), (a_Line_ticks, .inl (cI, 20, .inl z_Line_ticks)), (a_Line_drums, .inl (cI, 20, .inl z_Line_drums)), (a_Line_marks, .inl (cI, 20, .inl z_Line_marks)), (a_Line_strokeTicks, .inl (cI, 41, .inl z_Line_strokeTicks)), (a_Line_strokeHeights, .inl (cI, 41, .inl z_Line_strokeHeights))] t') (va_A [(a_Line, .inr (4, [.ref a_Line_kinds, .ref a_Line_ticks, .ref a_Line_drums, .ref a_Line_marks, .ref a_Line_strokeTicks, .ref a_Line_strokeHeights, .int Line_count])), (a_Line_kinds, .inl (cI, 20, .inl Line_kinds)), (a_Line_ticks, .inl (cI, 20, .inl Line_ticks)), (a_Line_drums, .inl (cI, 20, .inl Line_drums)), (a_Line_marks, .inl (cI, 20, .inl Line_marks)), (a_Line_strokeTicks, .inl (cI, 41, .inl Line_strokeTicks)), (a_Line_strokeHeights, .inl (cI, 41, .inl Line_strokeHeights))] sz)) 0 0 (va_A [(a_Line, .inr (4, [.ref a_Line_kinds, .ref a_Line_ticks, .ref a_Line_drums, .ref a_Line_marks, .ref a_Line_strokeTicks, .ref a_Line_strokeHeights, .int Line_count])), (a_Line_kinds, .inl (cI, 20, .inl Line_kinds)), (a_Line_ticks, .inl (cI, 20, .inl Line_ticks)), (a_Line_drums, .inl (cI, 20, .inl Line_drums)), (a_Line_marks, .inl (cI, 20, .inl Line_marks)), (a_Line_strokeTicks, .inl (cI, 41, .inl Line_strokeTicks)), (a_Line_strokeHeights, .inl (cI, 41, .inl Line_strokeHeights))] sz) := by
  refine Met.ofW (cc := cX4_append) (maxL := 5) (ret := none) (by decide) rfl ?_
  intro p e s m args below meth c s₁ B hml hv
  obtain ⟨rfl, hsz, hP, hD0, hE⟩ := hv
  have hx := B.exec
  have hb := B.bytes
  have hr := B.returns
  have hts := atoms_spec (ws := wsX4_append) B.pre
  have hown : s.vm.findClass RX4 = some m.cls := findClass_of_methodNamed B.named
  have hlocks := B.notSynchronized
  subst hsz
  have hD := hD0.self (sz := s.heap.size)
  generalize hAe : va_A [(a_Line, .inr (4, [.ref a_Line_kinds, .ref a_Line_ticks, .ref a_Line_drums, .ref a_Line_marks, .ref a_Line_strokeTicks, .ref a_Line_strokeHeights, .int Line_count])), (a_Line_kinds, .inl (cI, 20, .inl Line_kinds)), (a_Line_ticks, .inl (cI, 20, .inl Line_ticks)), (a_Line_drums, .inl (cI, 20, .inl Line_drums)), (a_Line_marks, .inl (cI, 20, .inl Line_marks)), (a_Line_strokeTicks, .inl (cI, 41, .inl Line_strokeTicks)), (a_Line_strokeHeights, .inl (cI, 41, .inl Line_strokeHeights))] s.heap.size = A at hD hE ⊢
  have hA : ∀ q : Nat, s.heap.size ≤ q → A q := fun q h => by rw [← hAe]; exact Or.inr h
  clear hAe hD0
  have hS : va_S A s.heap s.heap [] := va_S.rf
  have hK := hE.1
  have hl := lv_entry ([.ref a_Line, .int p1, .int p2, .int p3, .int p4]) (n := 5) (Nat.le_of_ble_eq_true rfl)
  rw [lg_entry_eq]
  generalize (lg_sl ([.ref a_Line, .int p1, .int p2, .int p3, .int p4]) ++ List.replicate (5 - (lg_sl ([.ref a_Line, .int p1, .int p2, .int p3, .int p4])).length) Slot.unset).toArray = ls at hl ⊢
  have hl : lv_has ls 5 [(0, .ref a_Line), (1, .int p1), (2, .int p2), (3, .int p3), (4, .int p4)] := hl
  refine w_q (fun Q9 hQ9 => ?_)
  have fl30 := hts (.fieldLink RX4 30 "StickRoom$Line" "count" "I") (by decide +kernel)
  have inX4 : ∀ w ∈ wsX40, w ∈ wsX4_append := by decide +kernel
  have fl9 := hts (.fieldLink RX4 9 "StickRoom$Line" "kinds" "[I") (by decide +kernel)
  have fl15 := hts (.fieldLink RX4 15 "StickRoom$Line" "ticks" "[I") (by decide +kernel)
  have fl18 := hts (.fieldLink RX4 18 "StickRoom$Line" "drums" "[I") (by decide +kernel)
  have fl21 := hts (.fieldLink RX4 21 "StickRoom$Line" "marks" "[I") (by decide +kernel)
  have fl24 := hts (.fieldLink RX4 24 "StickRoom$Line" "strokeTicks" "[I") (by decide +kernel)
  have fl27 := hts (.fieldLink RX4 27 "StickRoom$Line" "strokeHeights" "[I") (by decide +kernel)
  have fl45 := hts (.fieldLink RX4 45 "StickRoom$Line" "HEIGHTS" "[I") (by decide +kernel)
  unfold f_Line_append at hf
  refine lv_aload_n hx hb dX4_append_0 rfl (lv_at hl 0 rfl) ?_
  refine va_get (D := D) (ci := 4) (v := .int Line_count) (C := RX4) (T := TX4) (N := 7) hx hb hts inX4 hown hK hP 0 rfl rfl 6 (by decide) fl30 (fun _ h9 => h9) rfl dX4_append_1 ?_
  refine lv_bipush (v := 20) hx hb dX4_append_4 (by decide) ?_
  refine lv_icmp_lt (tgt := 10) hx hb dX4_append_6 (by decide) (fun c1 => ?_) (fun c1 => ?_)
  · have hf := ite_t c1 hf
    refine lv_aload_n hx hb dX4_append_10 rfl (lv_at hl 0 rfl) ?_
    refine va_get (D := D) (ci := 4) (v := .ref a_Line_kinds) (C := RX4) (T := TX4) (N := 7) hx hb hts inX4 hown hK hP 0 rfl rfl 0 (by decide) fl9 (fun _ h9 => h9) rfl dX4_append_11 ?_
    refine lv_aload_n hx hb dX4_append_14 rfl (lv_at hl 0 rfl) ?_
    refine va_get (D := D) (ci := 4) (v := .int Line_count) (C := RX4) (T := TX4) (N := 7) hx hb hts inX4 hown hK hP 0 rfl rfl 6 (by decide) fl30 (fun _ h9 => h9) rfl dX4_append_15 ?_
    refine lv_iload_n hx hb dX4_append_18 rfl (lv_at hl 1 rfl) ?_
    obtain ⟨i2, hf⟩ := ck_s hf
    refine va_iast hx hb hK hP hD hS 1 0 rfl rfl i2 dX4_append_19 (fun H locs hP hD hS => ?_)
    have hP : va_P D vwCl [(a_Line, .inr (4, [.ref a_Line_kinds, .ref a_Line_ticks, .ref a_Line_drums, .ref a_Line_marks, .ref a_Line_strokeTicks, .ref a_Line_strokeHeights, .int Line_count])), (a_Line_kinds, .inl (cI, 20, .inl (upd Line_kinds Line_count.toNatClampNeg p1))), (a_Line_ticks, .inl (cI, 20, .inl Line_ticks)), (a_Line_drums, .inl (cI, 20, .inl Line_drums)), (a_Line_marks, .inl (cI, 20, .inl Line_marks)), (a_Line_strokeTicks, .inl (cI, 41, .inl Line_strokeTicks)), (a_Line_strokeHeights, .inl (cI, 41, .inl Line_strokeHeights))] H := hP
    have hD : va_D A [(a_Line, .inr (4, [.ref a_Line_kinds, .ref a_Line_ticks, .ref a_Line_drums, .ref a_Line_marks, .ref a_Line_strokeTicks, .ref a_Line_strokeHeights, .int Line_count])), (a_Line_kinds, .inl (cI, 20, .inl (upd Line_kinds Line_count.toNatClampNeg p1))), (a_Line_ticks, .inl (cI, 20, .inl Line_ticks)), (a_Line_drums, .inl (cI, 20, .inl Line_drums)), (a_Line_marks, .inl (cI, 20, .inl Line_marks)), (a_Line_strokeTicks, .inl (cI, 41, .inl Line_strokeTicks)), (a_Line_strokeHeights, .inl (cI, 41, .inl Line_strokeHeights))] := hD
    refine lv_aload_n hx hb dX4_append_20 rfl (lv_at hl 0 rfl) ?_
    refine va_get (D := D) (ci := 4) (v := .ref a_Line_ticks) (C := RX4) (T := TX4) (N := 7) hx hb hts inX4 hown hK hP 0 rfl rfl 1 (by decide) fl15 (fun _ h9 => h9) rfl dX4_append_21 ?_
    refine lv_aload_n hx hb dX4_append_24 rfl (lv_at hl 0 rfl) ?_
    refine va_get (D := D) (ci := 4) (v := .int Line_count) (C := RX4) (T := TX4) (N := 7) hx hb hts inX4 hown hK hP 0 rfl rfl 6 (by decide) fl30 (fun _ h9 => h9) rfl dX4_append_25 ?_
    refine lv_iload_n hx hb dX4_append_28 rfl (lv_at hl 2 rfl) ?_
    obtain ⟨i3, hf⟩ := ck_s hf
    refine va_iast hx hb hK hP hD hS 2 0 rfl rfl i3 dX4_append_29 (fun H locs hP hD hS => ?_)
    have hP : va_P D vwCl [(a_Line, .inr (4, [.ref a_Line_kinds, .ref a_Line_ticks, .ref a_Line_drums, .ref a_Line_marks, .ref a_Line_strokeTicks, .ref a_Line_strokeHeights, .int Line_count])), (a_Line_kinds, .inl (cI, 20, .inl (upd Line_kinds Line_count.toNatClampNeg p1))), (a_Line_ticks, .inl (cI, 20, .inl (upd Line_ticks Line_count.toNatClampNeg p2))), (a_Line_drums, .inl (cI, 20, .inl Line_drums)), (a_Line_marks, .inl (cI, 20, .inl Line_marks)), (a_Line_strokeTicks, .inl (cI, 41, .inl Line_strokeTicks)), (a_Line_strokeHeights, .inl (cI, 41, .inl Line_strokeHeights))] H := hP
    have hD : va_D A [(a_Line, .inr (4, [.ref a_Line_kinds, .ref a_Line_ticks, .ref a_Line_drums, .ref a_Line_marks, .ref a_Line_strokeTicks, .ref a_Line_strokeHeights, .int Line_count])), (a_Line_kinds, .inl (cI, 20, .inl (upd Line_kinds Line_count.toNatClampNeg p1))), (a_Line_ticks, .inl (cI, 20, .inl (upd Line_ticks Line_count.toNatClampNeg p2))), (a_Line_drums, .inl (cI, 20, .inl Line_drums)), (a_Line_marks, .inl (cI, 20, .inl Line_marks)), (a_Line_strokeTicks, .inl (cI, 41, .inl Line_strokeTicks)), (a_Line_strokeHeights, .inl (cI, 41, .inl Line_strokeHeights))] := hD
    refine lv_aload_n hx hb dX4_append_30 rfl (lv_at hl 0 rfl) ?_
    refine va_get (D := D) (ci := 4) (v := .ref a_Line_drums) (C := RX4) (T := TX4) (N := 7) hx hb hts inX4 hown hK hP 0 rfl rfl 2 (by decide) fl18 (fun _ h9 => h9) rfl dX4_append_31 ?_
    refine lv_aload_n hx hb dX4_append_34 rfl (lv_at hl 0 rfl) ?_
    refine va_get (D := D) (ci := 4) (v := .int Line_count) (C := RX4) (T := TX4) (N := 7) hx hb hts inX4 hown hK hP 0 rfl rfl 6 (by decide) fl30 (fun _ h9 => h9) rfl dX4_append_35 ?_
    refine lv_iload_n hx hb dX4_append_38 rfl (lv_at hl 3 rfl) ?_
    obtain ⟨i4, hf⟩ := ck_s hf
    refine va_iast hx hb hK hP hD hS 3 0 rfl rfl i4 dX4_append_39 (fun H locs hP hD hS => ?_)
    have hP : va_P D vwCl [(a_Line, .inr (4, [.ref a_Line_kinds, .ref a_Line_ticks, .ref a_Line_drums, .ref a_Line_marks, .ref a_Line_strokeTicks, .ref a_Line_strokeHeights, .int Line_count])), (a_Line_kinds, .inl (cI, 20, .inl (upd Line_kinds Line_count.toNatClampNeg p1))), (a_Line_ticks, .inl (cI, 20, .inl (upd Line_ticks Line_count.toNatClampNeg p2))), (a_Line_drums, .inl (cI, 20, .inl (upd Line_drums Line_count.toNatClampNeg p3))), (a_Line_marks, .inl (cI, 20, .inl Line_marks)), (a_Line_strokeTicks, .inl (cI, 41, .inl Line_strokeTicks)), (a_Line_strokeHeights, .inl (cI, 41, .inl Line_strokeHeights))] H := hP
    have hD : va_D A [(a_Line, .inr (4, [.ref a_Line_kinds, .ref a_Line_ticks, .ref a_Line_drums, .ref a_Line_marks, .ref a_Line_strokeTicks, .ref a_Line_strokeHeights, .int Line_count])), (a_Line_kinds, .inl (cI, 20, .inl (upd Line_kinds Line_count.toNatClampNeg p1))), (a_Line_ticks, .inl (cI, 20, .inl (upd Line_ticks Line_count.toNatClampNeg p2))), (a_Line_drums, .inl (cI, 20, .inl (upd Line_drums Line_count.toNatClampNeg p3))), (a_Line_marks, .inl (cI, 20, .inl Line_marks)), (a_Line_strokeTicks, .inl (cI, 41, .inl Line_strokeTicks)), (a_Line_strokeHeights, .inl (cI, 41, .inl Line_strokeHeights))] := hD
    refine lv_aload_n hx hb dX4_append_40 rfl (lv_at hl 0 rfl) ?_
    refine va_get (D := D) (ci := 4) (v := .ref a_Line_marks) (C := RX4) (T := TX4) (N := 7) hx hb hts inX4 hown hK hP 0 rfl rfl 3 (by decide) fl21 (fun _ h9 => h9) rfl dX4_append_41 ?_
    refine lv_aload_n hx hb dX4_append_44 rfl (lv_at hl 0 rfl) ?_
    refine va_get (D := D) (ci := 4) (v := .int Line_count) (C := RX4) (T := TX4) (N := 7) hx hb hts inX4 hown hK hP 0 rfl rfl 6 (by decide) fl30 (fun _ h9 => h9) rfl dX4_append_45 ?_
    refine lv_iload hx hb dX4_append_48 (lv_at hl 4 rfl) ?_
    obtain ⟨i5, hf⟩ := ck_s hf
    refine va_iast hx hb hK hP hD hS 4 0 rfl rfl i5 dX4_append_50 (fun H locs hP hD hS => ?_)
    have hP : va_P D vwCl [(a_Line, .inr (4, [.ref a_Line_kinds, .ref a_Line_ticks, .ref a_Line_drums, .ref a_Line_marks, .ref a_Line_strokeTicks, .ref a_Line_strokeHeights, .int Line_count])), (a_Line_kinds, .inl (cI, 20, .inl (upd Line_kinds Line_count.toNatClampNeg p1))), (a_Line_ticks, .inl (cI, 20, .inl (upd Line_ticks Line_count.toNatClampNeg p2))), (a_Line_drums, .inl (cI, 20, .inl (upd Line_drums Line_count.toNatClampNeg p3))), (a_Line_marks, .inl (cI, 20, .inl (upd Line_marks Line_count.toNatClampNeg p4))), (a_Line_strokeTicks, .inl (cI, 41, .inl Line_strokeTicks)), (a_Line_strokeHeights, .inl (cI, 41, .inl Line_strokeHeights))] H := hP
    have hD : va_D A [(a_Line, .inr (4, [.ref a_Line_kinds, .ref a_Line_ticks, .ref a_Line_drums, .ref a_Line_marks, .ref a_Line_strokeTicks, .ref a_Line_strokeHeights, .int Line_count])), (a_Line_kinds, .inl (cI, 20, .inl (upd Line_kinds Line_count.toNatClampNeg p1))), (a_Line_ticks, .inl (cI, 20, .inl (upd Line_ticks Line_count.toNatClampNeg p2))), (a_Line_drums, .inl (cI, 20, .inl (upd Line_drums Line_count.toNatClampNeg p3))), (a_Line_marks, .inl (cI, 20, .inl (upd Line_marks Line_count.toNatClampNeg p4))), (a_Line_strokeTicks, .inl (cI, 41, .inl Line_strokeTicks)), (a_Line_strokeHeights, .inl (cI, 41, .inl Line_strokeHeights))] := hD
    refine lv_aload_n hx hb dX4_append_51 rfl (lv_at hl 0 rfl) ?_
    refine va_get (D := D) (ci := 4) (v := .ref a_Line_strokeTicks) (C := RX4) (T := TX4) (N := 7) hx hb hts inX4 hown hK hP 0 rfl rfl 4 (by decide) fl24 (fun _ h9 => h9) rfl dX4_append_52 ?_
    refine lv_aload_n hx hb dX4_append_55 rfl (lv_at hl 0 rfl) ?_
    refine va_get (D := D) (ci := 4) (v := .int Line_count) (C := RX4) (T := TX4) (N := 7) hx hb hts inX4 hown hK hP 0 rfl rfl 6 (by decide) fl30 (fun _ h9 => h9) rfl dX4_append_56 ?_
    obtain ⟨r6, g7, hf⟩ := b1_s hf
    refine k_Si (rest := [.ref a_Line_strokeTicks]) ⟨hx, hb, hml, hown, hts⟩ (c_Line_mainOf l D cI cZ t  H.size Line_count r6 g7) (va_cwS 1 hts gX4_append_X4_mainOf rfl rfl rfl (by decide +kernel) ⟨Nat.le_of_ble_eq_true rfl, Nat.le_of_ble_eq_true rfl⟩) hE hP hD hS hA [] [0, 1, 2, 3, 4, 5, 6] rfl rfl rfl rfl rfl rfl hl.1 rfl (Nat.le_of_ble_eq_true rfl) dX4_append_59 ⟨Nat.le_of_ble_eq_true rfl, Nat.le_of_ble_eq_true rfl⟩ (fun rq uq H locs hrq hP hD hS => ?_)
    refine lv_tpx hrq.symm ?_
    have hP : va_P D vwCl [(a_Line, .inr (4, [.ref a_Line_kinds, .ref a_Line_ticks, .ref a_Line_drums, .ref a_Line_marks, .ref a_Line_strokeTicks, .ref a_Line_strokeHeights, .int Line_count])), (a_Line_kinds, .inl (cI, 20, .inl (upd Line_kinds Line_count.toNatClampNeg p1))), (a_Line_ticks, .inl (cI, 20, .inl (upd Line_ticks Line_count.toNatClampNeg p2))), (a_Line_drums, .inl (cI, 20, .inl (upd Line_drums Line_count.toNatClampNeg p3))), (a_Line_marks, .inl (cI, 20, .inl (upd Line_marks Line_count.toNatClampNeg p4))), (a_Line_strokeTicks, .inl (cI, 41, .inl Line_strokeTicks)), (a_Line_strokeHeights, .inl (cI, 41, .inl Line_strokeHeights))] H := hP
    have hD : va_D A [(a_Line, .inr (4, [.ref a_Line_kinds, .ref a_Line_ticks, .ref a_Line_drums, .ref a_Line_marks, .ref a_Line_strokeTicks, .ref a_Line_strokeHeights, .int Line_count])), (a_Line_kinds, .inl (cI, 20, .inl (upd Line_kinds Line_count.toNatClampNeg p1))), (a_Line_ticks, .inl (cI, 20, .inl (upd Line_ticks Line_count.toNatClampNeg p2))), (a_Line_drums, .inl (cI, 20, .inl (upd Line_drums Line_count.toNatClampNeg p3))), (a_Line_marks, .inl (cI, 20, .inl (upd Line_marks Line_count.toNatClampNeg p4))), (a_Line_strokeTicks, .inl (cI, 41, .inl Line_strokeTicks)), (a_Line_strokeHeights, .inl (cI, 41, .inl Line_strokeHeights))] := hD
    refine lv_iload_n hx hb dX4_append_62 rfl (lv_at hl 2 rfl) ?_
    obtain ⟨i8, hf⟩ := ck_s hf
    refine va_iast hx hb hK hP hD hS 5 0 rfl rfl i8 dX4_append_63 (fun H locs hP hD hS => ?_)
    have hP : va_P D vwCl [(a_Line, .inr (4, [.ref a_Line_kinds, .ref a_Line_ticks, .ref a_Line_drums, .ref a_Line_marks, .ref a_Line_strokeTicks, .ref a_Line_strokeHeights, .int Line_count])), (a_Line_kinds, .inl (cI, 20, .inl (upd Line_kinds Line_count.toNatClampNeg p1))), (a_Line_ticks, .inl (cI, 20, .inl (upd Line_ticks Line_count.toNatClampNeg p2))), (a_Line_drums, .inl (cI, 20, .inl (upd Line_drums Line_count.toNatClampNeg p3))), (a_Line_marks, .inl (cI, 20, .inl (upd Line_marks Line_count.toNatClampNeg p4))), (a_Line_strokeTicks, .inl (cI, 41, .inl (upd Line_strokeTicks r6.toNatClampNeg p2))), (a_Line_strokeHeights, .inl (cI, 41, .inl Line_strokeHeights))] H := hP
    have hD : va_D A [(a_Line, .inr (4, [.ref a_Line_kinds, .ref a_Line_ticks, .ref a_Line_drums, .ref a_Line_marks, .ref a_Line_strokeTicks, .ref a_Line_strokeHeights, .int Line_count])), (a_Line_kinds, .inl (cI, 20, .inl (upd Line_kinds Line_count.toNatClampNeg p1))), (a_Line_ticks, .inl (cI, 20, .inl (upd Line_ticks Line_count.toNatClampNeg p2))), (a_Line_drums, .inl (cI, 20, .inl (upd Line_drums Line_count.toNatClampNeg p3))), (a_Line_marks, .inl (cI, 20, .inl (upd Line_marks Line_count.toNatClampNeg p4))), (a_Line_strokeTicks, .inl (cI, 41, .inl (upd Line_strokeTicks r6.toNatClampNeg p2))), (a_Line_strokeHeights, .inl (cI, 41, .inl Line_strokeHeights))] := hD
    refine lv_aload_n hx hb dX4_append_64 rfl (lv_at hl 0 rfl) ?_
    refine va_get (D := D) (ci := 4) (v := .ref a_Line_strokeTicks) (C := RX4) (T := TX4) (N := 7) hx hb hts inX4 hown hK hP 0 rfl rfl 4 (by decide) fl24 (fun _ h9 => h9) rfl dX4_append_65 ?_
    refine lv_aload_n hx hb dX4_append_68 rfl (lv_at hl 0 rfl) ?_
    refine va_get (D := D) (ci := 4) (v := .int Line_count) (C := RX4) (T := TX4) (N := 7) hx hb hts inX4 hown hK hP 0 rfl rfl 6 (by decide) fl30 (fun _ h9 => h9) rfl dX4_append_69 ?_
    obtain ⟨r9, g10, hf⟩ := b1_s hf
    refine k_Si (rest := [.ref a_Line_strokeTicks]) ⟨hx, hb, hml, hown, hts⟩ (c_Line_graceOf l D cI cZ t  H.size Line_count r9 g10) (va_cwS 1 hts gX4_append_X4_graceOf rfl rfl rfl (by decide +kernel) ⟨Nat.le_of_ble_eq_true rfl, Nat.le_of_ble_eq_true rfl⟩) hE hP hD hS hA [] [0, 1, 2, 3, 4, 5, 6] rfl rfl rfl rfl rfl rfl hl.1 rfl (Nat.le_of_ble_eq_true rfl) dX4_append_72 ⟨Nat.le_of_ble_eq_true rfl, Nat.le_of_ble_eq_true rfl⟩ (fun rq uq H locs hrq hP hD hS => ?_)
    refine lv_tpx hrq.symm ?_
    have hP : va_P D vwCl [(a_Line, .inr (4, [.ref a_Line_kinds, .ref a_Line_ticks, .ref a_Line_drums, .ref a_Line_marks, .ref a_Line_strokeTicks, .ref a_Line_strokeHeights, .int Line_count])), (a_Line_kinds, .inl (cI, 20, .inl (upd Line_kinds Line_count.toNatClampNeg p1))), (a_Line_ticks, .inl (cI, 20, .inl (upd Line_ticks Line_count.toNatClampNeg p2))), (a_Line_drums, .inl (cI, 20, .inl (upd Line_drums Line_count.toNatClampNeg p3))), (a_Line_marks, .inl (cI, 20, .inl (upd Line_marks Line_count.toNatClampNeg p4))), (a_Line_strokeTicks, .inl (cI, 41, .inl (upd Line_strokeTicks r6.toNatClampNeg p2))), (a_Line_strokeHeights, .inl (cI, 41, .inl Line_strokeHeights))] H := hP
    have hD : va_D A [(a_Line, .inr (4, [.ref a_Line_kinds, .ref a_Line_ticks, .ref a_Line_drums, .ref a_Line_marks, .ref a_Line_strokeTicks, .ref a_Line_strokeHeights, .int Line_count])), (a_Line_kinds, .inl (cI, 20, .inl (upd Line_kinds Line_count.toNatClampNeg p1))), (a_Line_ticks, .inl (cI, 20, .inl (upd Line_ticks Line_count.toNatClampNeg p2))), (a_Line_drums, .inl (cI, 20, .inl (upd Line_drums Line_count.toNatClampNeg p3))), (a_Line_marks, .inl (cI, 20, .inl (upd Line_marks Line_count.toNatClampNeg p4))), (a_Line_strokeTicks, .inl (cI, 41, .inl (upd Line_strokeTicks r6.toNatClampNeg p2))), (a_Line_strokeHeights, .inl (cI, 41, .inl Line_strokeHeights))] := hD
    refine lv_iload_n hx hb dX4_append_75 rfl (lv_at hl 2 rfl) ?_
    refine lv_iconst (v := 4) hx hb dX4_append_76 (by decide) ?_
    refine lv_isub hx hb dX4_append_77 ?_
    obtain ⟨x11, ex11, hf⟩ := nm_s hf
    refine lv_tpx ex11 ?_
    obtain ⟨i12, hf⟩ := ck_s hf
    refine va_iast hx hb hK hP hD hS 5 0 rfl rfl i12 dX4_append_78 (fun H locs hP hD hS => ?_)
    have hP : va_P D vwCl [(a_Line, .inr (4, [.ref a_Line_kinds, .ref a_Line_ticks, .ref a_Line_drums, .ref a_Line_marks, .ref a_Line_strokeTicks, .ref a_Line_strokeHeights, .int Line_count])), (a_Line_kinds, .inl (cI, 20, .inl (upd Line_kinds Line_count.toNatClampNeg p1))), (a_Line_ticks, .inl (cI, 20, .inl (upd Line_ticks Line_count.toNatClampNeg p2))), (a_Line_drums, .inl (cI, 20, .inl (upd Line_drums Line_count.toNatClampNeg p3))), (a_Line_marks, .inl (cI, 20, .inl (upd Line_marks Line_count.toNatClampNeg p4))), (a_Line_strokeTicks, .inl (cI, 41, .inl (upd (upd Line_strokeTicks r6.toNatClampNeg p2) r9.toNatClampNeg x11))), (a_Line_strokeHeights, .inl (cI, 41, .inl Line_strokeHeights))] H := hP
    have hD : va_D A [(a_Line, .inr (4, [.ref a_Line_kinds, .ref a_Line_ticks, .ref a_Line_drums, .ref a_Line_marks, .ref a_Line_strokeTicks, .ref a_Line_strokeHeights, .int Line_count])), (a_Line_kinds, .inl (cI, 20, .inl (upd Line_kinds Line_count.toNatClampNeg p1))), (a_Line_ticks, .inl (cI, 20, .inl (upd Line_ticks Line_count.toNatClampNeg p2))), (a_Line_drums, .inl (cI, 20, .inl (upd Line_drums Line_count.toNatClampNeg p3))), (a_Line_marks, .inl (cI, 20, .inl (upd Line_marks Line_count.toNatClampNeg p4))), (a_Line_strokeTicks, .inl (cI, 41, .inl (upd (upd Line_strokeTicks r6.toNatClampNeg p2) r9.toNatClampNeg x11))), (a_Line_strokeHeights, .inl (cI, 41, .inl Line_strokeHeights))] := hD
    refine lv_aload_n hx hb dX4_append_79 rfl (lv_at hl 0 rfl) ?_
    refine va_get (D := D) (ci := 4) (v := .ref a_Line_strokeHeights) (C := RX4) (T := TX4) (N := 7) hx hb hts inX4 hown hK hP 0 rfl rfl 5 (by decide) fl27 (fun _ h9 => h9) rfl dX4_append_80 ?_
    refine lv_aload_n hx hb dX4_append_83 rfl (lv_at hl 0 rfl) ?_
    refine va_get (D := D) (ci := 4) (v := .int Line_count) (C := RX4) (T := TX4) (N := 7) hx hb hts inX4 hown hK hP 0 rfl rfl 6 (by decide) fl30 (fun _ h9 => h9) rfl dX4_append_84 ?_
    obtain ⟨r13, g14, hf⟩ := b1_s hf
    refine k_Si (rest := [.ref a_Line_strokeHeights]) ⟨hx, hb, hml, hown, hts⟩ (c_Line_mainOf l D cI cZ t  H.size Line_count r13 g14) (va_cwS 1 hts gX4_append_X4_mainOf rfl rfl rfl (by decide +kernel) ⟨Nat.le_of_ble_eq_true rfl, Nat.le_of_ble_eq_true rfl⟩) hE hP hD hS hA [] [0, 1, 2, 3, 4, 5, 6] rfl rfl rfl rfl rfl rfl hl.1 rfl (Nat.le_of_ble_eq_true rfl) dX4_append_87 ⟨Nat.le_of_ble_eq_true rfl, Nat.le_of_ble_eq_true rfl⟩ (fun rq uq H locs hrq hP hD hS => ?_)
    refine lv_tpx hrq.symm ?_
    have hP : va_P D vwCl [(a_Line, .inr (4, [.ref a_Line_kinds, .ref a_Line_ticks, .ref a_Line_drums, .ref a_Line_marks, .ref a_Line_strokeTicks, .ref a_Line_strokeHeights, .int Line_count])), (a_Line_kinds, .inl (cI, 20, .inl (upd Line_kinds Line_count.toNatClampNeg p1))), (a_Line_ticks, .inl (cI, 20, .inl (upd Line_ticks Line_count.toNatClampNeg p2))), (a_Line_drums, .inl (cI, 20, .inl (upd Line_drums Line_count.toNatClampNeg p3))), (a_Line_marks, .inl (cI, 20, .inl (upd Line_marks Line_count.toNatClampNeg p4))), (a_Line_strokeTicks, .inl (cI, 41, .inl (upd (upd Line_strokeTicks r6.toNatClampNeg p2) r9.toNatClampNeg x11))), (a_Line_strokeHeights, .inl (cI, 41, .inl Line_strokeHeights))] H := hP
    have hD : va_D A [(a_Line, .inr (4, [.ref a_Line_kinds, .ref a_Line_ticks, .ref a_Line_drums, .ref a_Line_marks, .ref a_Line_strokeTicks, .ref a_Line_strokeHeights, .int Line_count])), (a_Line_kinds, .inl (cI, 20, .inl (upd Line_kinds Line_count.toNatClampNeg p1))), (a_Line_ticks, .inl (cI, 20, .inl (upd Line_ticks Line_count.toNatClampNeg p2))), (a_Line_drums, .inl (cI, 20, .inl (upd Line_drums Line_count.toNatClampNeg p3))), (a_Line_marks, .inl (cI, 20, .inl (upd Line_marks Line_count.toNatClampNeg p4))), (a_Line_strokeTicks, .inl (cI, 41, .inl (upd (upd Line_strokeTicks r6.toNatClampNeg p2) r9.toNatClampNeg x11))), (a_Line_strokeHeights, .inl (cI, 41, .inl Line_strokeHeights))] := hD
    refine va_gets hx hb (hE.2.2.1.1) hS hown fl45 (fun _ h9 => h9) dX4_append_90 ?_
    refine lv_iload_n hx hb dX4_append_93 rfl (lv_at hl 1 rfl) ?_
    obtain ⟨ix15, x15, ex15, hf⟩ := rd_s hf
    refine va_ti hx hb (hE.2.2.1.2) hS ix15 rfl dX4_append_94 ?_
    refine lv_tpx ex15 ?_
    obtain ⟨i16, hf⟩ := ck_s hf
    refine va_iast hx hb hK hP hD hS 6 0 rfl rfl i16 dX4_append_95 (fun H locs hP hD hS => ?_)
    have hP : va_P D vwCl [(a_Line, .inr (4, [.ref a_Line_kinds, .ref a_Line_ticks, .ref a_Line_drums, .ref a_Line_marks, .ref a_Line_strokeTicks, .ref a_Line_strokeHeights, .int Line_count])), (a_Line_kinds, .inl (cI, 20, .inl (upd Line_kinds Line_count.toNatClampNeg p1))), (a_Line_ticks, .inl (cI, 20, .inl (upd Line_ticks Line_count.toNatClampNeg p2))), (a_Line_drums, .inl (cI, 20, .inl (upd Line_drums Line_count.toNatClampNeg p3))), (a_Line_marks, .inl (cI, 20, .inl (upd Line_marks Line_count.toNatClampNeg p4))), (a_Line_strokeTicks, .inl (cI, 41, .inl (upd (upd Line_strokeTicks r6.toNatClampNeg p2) r9.toNatClampNeg x11))), (a_Line_strokeHeights, .inl (cI, 41, .inl (upd Line_strokeHeights r13.toNatClampNeg x15)))] H := hP
    have hD : va_D A [(a_Line, .inr (4, [.ref a_Line_kinds, .ref a_Line_ticks, .ref a_Line_drums, .ref a_Line_marks, .ref a_Line_strokeTicks, .ref a_Line_strokeHeights, .int Line_count])), (a_Line_kinds, .inl (cI, 20, .inl (upd Line_kinds Line_count.toNatClampNeg p1))), (a_Line_ticks, .inl (cI, 20, .inl (upd Line_ticks Line_count.toNatClampNeg p2))), (a_Line_drums, .inl (cI, 20, .inl (upd Line_drums Line_count.toNatClampNeg p3))), (a_Line_marks, .inl (cI, 20, .inl (upd Line_marks Line_count.toNatClampNeg p4))), (a_Line_strokeTicks, .inl (cI, 41, .inl (upd (upd Line_strokeTicks r6.toNatClampNeg p2) r9.toNatClampNeg x11))), (a_Line_strokeHeights, .inl (cI, 41, .inl (upd Line_strokeHeights r13.toNatClampNeg x15)))] := hD
    refine lv_aload_n hx hb dX4_append_96 rfl (lv_at hl 0 rfl) ?_
    refine va_get (D := D) (ci := 4) (v := .ref a_Line_strokeHeights) (C := RX4) (T := TX4) (N := 7) hx hb hts inX4 hown hK hP 0 rfl rfl 5 (by decide) fl27 (fun _ h9 => h9) rfl dX4_append_97 ?_
    refine lv_aload_n hx hb dX4_append_100 rfl (lv_at hl 0 rfl) ?_
    refine va_get (D := D) (ci := 4) (v := .int Line_count) (C := RX4) (T := TX4) (N := 7) hx hb hts inX4 hown hK hP 0 rfl rfl 6 (by decide) fl30 (fun _ h9 => h9) rfl dX4_append_101 ?_
    obtain ⟨r17, g18, hf⟩ := b1_s hf
    refine k_Si (rest := [.ref a_Line_strokeHeights]) ⟨hx, hb, hml, hown, hts⟩ (c_Line_graceOf l D cI cZ t  H.size Line_count r17 g18) (va_cwS 1 hts gX4_append_X4_graceOf rfl rfl rfl (by decide +kernel) ⟨Nat.le_of_ble_eq_true rfl, Nat.le_of_ble_eq_true rfl⟩) hE hP hD hS hA [] [0, 1, 2, 3, 4, 5, 6] rfl rfl rfl rfl rfl rfl hl.1 rfl (Nat.le_of_ble_eq_true rfl) dX4_append_104 ⟨Nat.le_of_ble_eq_true rfl, Nat.le_of_ble_eq_true rfl⟩ (fun rq uq H locs hrq hP hD hS => ?_)
    refine lv_tpx hrq.symm ?_
    have hP : va_P D vwCl [(a_Line, .inr (4, [.ref a_Line_kinds, .ref a_Line_ticks, .ref a_Line_drums, .ref a_Line_marks, .ref a_Line_strokeTicks, .ref a_Line_strokeHeights, .int Line_count])), (a_Line_kinds, .inl (cI, 20, .inl (upd Line_kinds Line_count.toNatClampNeg p1))), (a_Line_ticks, .inl (cI, 20, .inl (upd Line_ticks Line_count.toNatClampNeg p2))), (a_Line_drums, .inl (cI, 20, .inl (upd Line_drums Line_count.toNatClampNeg p3))), (a_Line_marks, .inl (cI, 20, .inl (upd Line_marks Line_count.toNatClampNeg p4))), (a_Line_strokeTicks, .inl (cI, 41, .inl (upd (upd Line_strokeTicks r6.toNatClampNeg p2) r9.toNatClampNeg x11))), (a_Line_strokeHeights, .inl (cI, 41, .inl (upd Line_strokeHeights r13.toNatClampNeg x15)))] H := hP
    have hD : va_D A [(a_Line, .inr (4, [.ref a_Line_kinds, .ref a_Line_ticks, .ref a_Line_drums, .ref a_Line_marks, .ref a_Line_strokeTicks, .ref a_Line_strokeHeights, .int Line_count])), (a_Line_kinds, .inl (cI, 20, .inl (upd Line_kinds Line_count.toNatClampNeg p1))), (a_Line_ticks, .inl (cI, 20, .inl (upd Line_ticks Line_count.toNatClampNeg p2))), (a_Line_drums, .inl (cI, 20, .inl (upd Line_drums Line_count.toNatClampNeg p3))), (a_Line_marks, .inl (cI, 20, .inl (upd Line_marks Line_count.toNatClampNeg p4))), (a_Line_strokeTicks, .inl (cI, 41, .inl (upd (upd Line_strokeTicks r6.toNatClampNeg p2) r9.toNatClampNeg x11))), (a_Line_strokeHeights, .inl (cI, 41, .inl (upd Line_strokeHeights r13.toNatClampNeg x15)))] := hD
    refine lv_iconst (v := 1) hx hb dX4_append_107 (by decide) ?_
    obtain ⟨i19, hf⟩ := ck_s hf
    refine va_iast hx hb hK hP hD hS 6 0 rfl rfl i19 dX4_append_108 (fun H locs hP hD hS => ?_)
    have hP : va_P D vwCl [(a_Line, .inr (4, [.ref a_Line_kinds, .ref a_Line_ticks, .ref a_Line_drums, .ref a_Line_marks, .ref a_Line_strokeTicks, .ref a_Line_strokeHeights, .int Line_count])), (a_Line_kinds, .inl (cI, 20, .inl (upd Line_kinds Line_count.toNatClampNeg p1))), (a_Line_ticks, .inl (cI, 20, .inl (upd Line_ticks Line_count.toNatClampNeg p2))), (a_Line_drums, .inl (cI, 20, .inl (upd Line_drums Line_count.toNatClampNeg p3))), (a_Line_marks, .inl (cI, 20, .inl (upd Line_marks Line_count.toNatClampNeg p4))), (a_Line_strokeTicks, .inl (cI, 41, .inl (upd (upd Line_strokeTicks r6.toNatClampNeg p2) r9.toNatClampNeg x11))), (a_Line_strokeHeights, .inl (cI, 41, .inl (upd (upd Line_strokeHeights r13.toNatClampNeg x15) r17.toNatClampNeg 1)))] H := hP
    have hD : va_D A [(a_Line, .inr (4, [.ref a_Line_kinds, .ref a_Line_ticks, .ref a_Line_drums, .ref a_Line_marks, .ref a_Line_strokeTicks, .ref a_Line_strokeHeights, .int Line_count])), (a_Line_kinds, .inl (cI, 20, .inl (upd Line_kinds Line_count.toNatClampNeg p1))), (a_Line_ticks, .inl (cI, 20, .inl (upd Line_ticks Line_count.toNatClampNeg p2))), (a_Line_drums, .inl (cI, 20, .inl (upd Line_drums Line_count.toNatClampNeg p3))), (a_Line_marks, .inl (cI, 20, .inl (upd Line_marks Line_count.toNatClampNeg p4))), (a_Line_strokeTicks, .inl (cI, 41, .inl (upd (upd Line_strokeTicks r6.toNatClampNeg p2) r9.toNatClampNeg x11))), (a_Line_strokeHeights, .inl (cI, 41, .inl (upd (upd Line_strokeHeights r13.toNatClampNeg x15) r17.toNatClampNeg 1)))] := hD
    refine lv_aload_n hx hb dX4_append_109 rfl (lv_at hl 0 rfl) ?_
    refine lv_dup hx hb dX4_append_110 rfl ?_
    refine va_get (D := D) (ci := 4) (v := .int Line_count) (C := RX4) (T := TX4) (N := 7) hx hb hts inX4 hown hK hP 0 rfl rfl 6 (by decide) fl30 (fun _ h9 => h9) rfl dX4_append_111 ?_
    refine lv_iconst (v := 1) hx hb dX4_append_114 (by decide) ?_
    refine lv_iadd hx hb dX4_append_115 ?_
    obtain ⟨x20, ex20, hf⟩ := nm_s hf
    refine lv_tpx ex20 ?_
    refine va_put (D := D) (ci := 4) (v := .int x20) (ty := .int) (C := RX4) (T := TX4) (N := 7) hx hb hts inX4 tyX4 tyX4_ok nmX4 hown hK hP hD hS 0 rfl rfl 6 (by decide) fl30 (fun _ h9 => h9) rfl (by decide +kernel) rfl rfl (Nat.le_of_ble_eq_true rfl) dX4_append_116 (fun H locs hP hD hS => ?_)
    have hP : va_P D vwCl [(a_Line, .inr (4, [.ref a_Line_kinds, .ref a_Line_ticks, .ref a_Line_drums, .ref a_Line_marks, .ref a_Line_strokeTicks, .ref a_Line_strokeHeights, .int x20])), (a_Line_kinds, .inl (cI, 20, .inl (upd Line_kinds Line_count.toNatClampNeg p1))), (a_Line_ticks, .inl (cI, 20, .inl (upd Line_ticks Line_count.toNatClampNeg p2))), (a_Line_drums, .inl (cI, 20, .inl (upd Line_drums Line_count.toNatClampNeg p3))), (a_Line_marks, .inl (cI, 20, .inl (upd Line_marks Line_count.toNatClampNeg p4))), (a_Line_strokeTicks, .inl (cI, 41, .inl (upd (upd Line_strokeTicks r6.toNatClampNeg p2) r9.toNatClampNeg x11))), (a_Line_strokeHeights, .inl (cI, 41, .inl (upd (upd Line_strokeHeights r13.toNatClampNeg x15) r17.toNatClampNeg 1)))] H := hP
    have hD : va_D A [(a_Line, .inr (4, [.ref a_Line_kinds, .ref a_Line_ticks, .ref a_Line_drums, .ref a_Line_marks, .ref a_Line_strokeTicks, .ref a_Line_strokeHeights, .int x20])), (a_Line_kinds, .inl (cI, 20, .inl (upd Line_kinds Line_count.toNatClampNeg p1))), (a_Line_ticks, .inl (cI, 20, .inl (upd Line_ticks Line_count.toNatClampNeg p2))), (a_Line_drums, .inl (cI, 20, .inl (upd Line_drums Line_count.toNatClampNeg p3))), (a_Line_marks, .inl (cI, 20, .inl (upd Line_marks Line_count.toNatClampNeg p4))), (a_Line_strokeTicks, .inl (cI, 41, .inl (upd (upd Line_strokeTicks r6.toNatClampNeg p2) r9.toNatClampNeg x11))), (a_Line_strokeHeights, .inl (cI, 41, .inl (upd (upd Line_strokeHeights r13.toNatClampNeg x15) r17.toNatClampNeg 1)))] := hD
    cases hf
    exact k_vret () hQ9 hx hb hr hlocks rfl hP hD hS (Nat.le_of_ble_eq_true rfl) (Nat.le_of_ble_eq_true rfl) dX4_append_119
  · have hf := ite_f c1 hf
    cases hf
    exact k_vret () hQ9 hx hb hr hlocks rfl hP hD hS (Nat.le_of_ble_eq_true rfl) (Nat.le_of_ble_eq_true rfl) dX4_append_9
abbrev rm_Rules_change : Room := { frames := 2, cells := 0, slots := 0, locals := 43 }
set_option maxHeartbeats 4000000 in
set_option maxRecDepth 100000 in
theorem c_Rules_change (l : Launch) (D : va_G) (cI cZ : ClassId) (t : Nat → Nat) (a_Rules a_Rules_values sz : Nat) (Rules_values : Nat → Int32) (p1 p2 : Int32) (z_Rules_values : Nat → Int32) (hf : f_Rules_change Rules_values p1 p2 = some z_Rules_values) : Met l yX7_change wsX7_change rm_Rules_change (va_Pc [.ref a_Rules, .int p1, .int p2] (pcW D cI cZ t [(a_Rules, .inr (7, [.ref a_Rules_values])), (a_Rules_values, .inl (cI, 5, .inl Rules_values))] sz)) (va_Qv (fun u : Unit => u = u) (fun u t' => bW D (va_A [(a_Rules, .inr (7, [.ref a_Rules_values])), (a_Rules_values, .inl (cI, 5, .inl Rules_values))] sz) [(a_Rules, .inr (7, [.ref a_Rules_values])), (a_Rules_values, .inl (cI, 5, .inl z_Rules_values))] t') (va_A [(a_Rules, .inr (7, [.ref a_Rules_values])), (a_Rules_values, .inl (cI, 5, .inl Rules_values))] sz)) 0 0 (va_A [(a_Rules, .inr (7, [.ref a_Rules_values])), (a_Rules_values, .inl (cI, 5, .inl Rules_values))] sz) := by
  refine Met.ofW (cc := cX7_change) (maxL := 3) (ret := none) (by decide) rfl ?_
  intro p e s m args below meth c s₁ B hml hv
  obtain ⟨rfl, hsz, hP, hD0, hE⟩ := hv
  have hx := B.exec
  have hb := B.bytes
  have hr := B.returns
  have hts := atoms_spec (ws := wsX7_change) B.pre
  have hown : s.vm.findClass RX7 = some m.cls := findClass_of_methodNamed B.named
  have hlocks := B.notSynchronized
  subst hsz
  have hD := hD0.self (sz := s.heap.size)
  generalize hAe : va_A [(a_Rules, .inr (7, [.ref a_Rules_values])), (a_Rules_values, .inl (cI, 5, .inl Rules_values))] s.heap.size = A at hD hE ⊢
  have hA : ∀ q : Nat, s.heap.size ≤ q → A q := fun q h => by rw [← hAe]; exact Or.inr h
  clear hAe hD0
  have hS : va_S A s.heap s.heap [] := va_S.rf
  have hK := hE.1
  have hl := lv_entry ([.ref a_Rules, .int p1, .int p2]) (n := 3) (Nat.le_of_ble_eq_true rfl)
  rw [lg_entry_eq]
  generalize (lg_sl ([.ref a_Rules, .int p1, .int p2]) ++ List.replicate (3 - (lg_sl ([.ref a_Rules, .int p1, .int p2])).length) Slot.unset).toArray = ls at hl ⊢
  have hl : lv_has ls 3 [(0, .ref a_Rules), (1, .int p1), (2, .int p2)] := hl
  refine w_q (fun Q9 hQ9 => ?_)
  have fl7 := hts (.fieldLink RX7 7 "StickRoom$Rules" "values" "[I") (by decide +kernel)
  have inX7 : ∀ w ∈ wsX70, w ∈ wsX7_change := by decide +kernel
  unfold f_Rules_change at hf
  refine lv_aload_n hx hb dX7_change_0 rfl (lv_at hl 0 rfl) ?_
  refine lv_iload_n hx hb dX7_change_1 rfl (lv_at hl 1 rfl) ?_
  refine lv_iload_n hx hb dX7_change_2 rfl (lv_at hl 2 rfl) ?_
  obtain ⟨r1, g2, hf⟩ := b1_s hf
  refine k_Vi (rest := []) ⟨hx, hb, hml, hown, hts⟩ (c_Rules_mayBecome l D cI cZ t a_Rules a_Rules_values s.heap.size p1 p2 r1 g2) (cwV 2 hts gX7_change_X7_mayBecome rfl rfl rfl (by decide +kernel) ⟨Nat.le_of_ble_eq_true rfl, Nat.le_of_ble_eq_true rfl⟩) hE hP hD hS hA [0] [1] rfl rfl rfl rfl rfl 0 7 rfl rfl rfl rfl hl.1 rfl (Nat.le_of_ble_eq_true rfl) dX7_change_3 ⟨Nat.le_of_ble_eq_true rfl, Nat.le_of_ble_eq_true rfl⟩ (fun rq uq H locs hrq hP hD hS => ?_)
  refine lv_tpx hrq.symm ?_
  have hP : va_P D vwCl [(a_Rules_values, .inl (cI, 5, .inl Rules_values)), (a_Rules, .inr (7, [.ref a_Rules_values]))] H := hP
  have hD : va_D A [(a_Rules_values, .inl (cI, 5, .inl Rules_values)), (a_Rules, .inr (7, [.ref a_Rules_values]))] := hD
  refine lv_if_eq (tgt := 16) hx hb dX7_change_6 (by decide) (fun c3 => ?_) (fun c3 => ?_)
  · have hf := ite_t c3 hf
    cases hf
    exact k_vret () hQ9 hx hb hr hlocks rfl (hP.sub [1, 0] rfl) (hD.sub [1, 0] (by decide) rfl) hS (Nat.le_of_ble_eq_true rfl) (Nat.le_of_ble_eq_true rfl) dX7_change_16
  · have hf := ite_f c3 hf
    refine lv_aload_n hx hb dX7_change_9 rfl (lv_at hl 0 rfl) ?_
    refine va_get (D := D) (ci := 7) (v := .ref a_Rules_values) (C := RX7) (T := TX7) (N := 1) hx hb hts inX7 hown hK hP 1 rfl rfl 0 (by decide) fl7 (fun _ h9 => h9) rfl dX7_change_10 ?_
    refine lv_iload_n hx hb dX7_change_13 rfl (lv_at hl 1 rfl) ?_
    refine lv_iload_n hx hb dX7_change_14 rfl (lv_at hl 2 rfl) ?_
    obtain ⟨i4, hf⟩ := ck_s hf
    refine va_iast hx hb hK hP hD hS 0 0 rfl rfl i4 dX7_change_15 (fun H locs hP hD hS => ?_)
    have hP : va_P D vwCl [(a_Rules_values, .inl (cI, 5, .inl (upd Rules_values p1.toNatClampNeg p2))), (a_Rules, .inr (7, [.ref a_Rules_values]))] H := hP
    have hD : va_D A [(a_Rules_values, .inl (cI, 5, .inl (upd Rules_values p1.toNatClampNeg p2))), (a_Rules, .inr (7, [.ref a_Rules_values]))] := hD
    cases hf
    exact k_vret () hQ9 hx hb hr hlocks rfl (hP.sub [1, 0] rfl) (hD.sub [1, 0] (by decide) rfl) hS (Nat.le_of_ble_eq_true rfl) (Nat.le_of_ble_eq_true rfl) dX7_change_16
abbrev rm_Line_setMark : Room := { frames := 2, cells := 0, slots := 0, locals := 42 }
set_option maxHeartbeats 4000000 in
set_option maxRecDepth 100000 in
theorem c_Line_setMark (l : Launch) (D : va_G) (cI cZ : ClassId) (t : Nat → Nat) (a_Line a_Line_kinds a_Line_ticks a_Line_drums a_Line_marks a_Line_strokeTicks a_Line_strokeHeights sz : Nat) (Line_marks : Nat → Int32) (Line_count p1 p2 : Int32) (z_Line_marks : Nat → Int32) (hf : f_Line_setMark Line_marks Line_count p1 p2 = some z_Line_marks) : Met l yX4_setMark wsX4_setMark rm_Line_setMark (va_Pc [.ref a_Line, .int p1, .int p2] (pcW D cI cZ t [(a_Line, .inr (4, [.ref a_Line_kinds, .ref a_Line_ticks, .ref a_Line_drums, .ref a_Line_marks, .ref a_Line_strokeTicks, .ref a_Line_strokeHeights, .int Line_count])), (a_Line_marks, .inl (cI, 20, .inl Line_marks))] sz)) (va_Qv (fun u : Unit => u = u) (fun u t' => bW D (va_A [(a_Line, .inr (4, [.ref a_Line_kinds, .ref a_Line_ticks, .ref a_Line_drums, .ref a_Line_marks, .ref a_Line_strokeTicks, .ref a_Line_strokeHeights, .int Line_count])), (a_Line_marks, .inl (cI, 20, .inl Line_marks))] sz) [(a_Line, .inr (4, [.ref a_Line_kinds, .ref a_Line_ticks, .ref a_Line_drums, .ref a_Line_marks, .ref a_Line_strokeTicks, .ref a_Line_strokeHeights, .int Line_count])), (a_Line_marks, .inl (cI, 20, .inl z_Line_marks))] t') (va_A [(a_Line, .inr (4, [.ref a_Line_kinds, .ref a_Line_ticks, .ref a_Line_drums, .ref a_Line_marks, .ref a_Line_strokeTicks, .ref a_Line_strokeHeights, .int Line_count])), (a_Line_marks, .inl (cI, 20, .inl Line_marks))] sz)) 0 0 (va_A [(a_Line, .inr (4, [.ref a_Line_kinds, .ref a_Line_ticks, .ref a_Line_drums, .ref a_Line_marks, .ref a_Line_strokeTicks, .ref a_Line_strokeHeights, .int Line_count])), (a_Line_marks, .inl (cI, 20, .inl Line_marks))] sz) := by
  refine Met.ofW (cc := cX4_setMark) (maxL := 3) (ret := none) (by decide) rfl ?_
  intro p e s m args below meth c s₁ B hml hv
  obtain ⟨rfl, hsz, hP, hD0, hE⟩ := hv
  have hx := B.exec
  have hb := B.bytes
  have hr := B.returns
  have hts := atoms_spec (ws := wsX4_setMark) B.pre
  have hown : s.vm.findClass RX4 = some m.cls := findClass_of_methodNamed B.named
  have hlocks := B.notSynchronized
  subst hsz
  have hD := hD0.self (sz := s.heap.size)
  generalize hAe : va_A [(a_Line, .inr (4, [.ref a_Line_kinds, .ref a_Line_ticks, .ref a_Line_drums, .ref a_Line_marks, .ref a_Line_strokeTicks, .ref a_Line_strokeHeights, .int Line_count])), (a_Line_marks, .inl (cI, 20, .inl Line_marks))] s.heap.size = A at hD hE ⊢
  have hA : ∀ q : Nat, s.heap.size ≤ q → A q := fun q h => by rw [← hAe]; exact Or.inr h
  clear hAe hD0
  have hS : va_S A s.heap s.heap [] := va_S.rf
  have hK := hE.1
  have hl := lv_entry ([.ref a_Line, .int p1, .int p2]) (n := 3) (Nat.le_of_ble_eq_true rfl)
  rw [lg_entry_eq]
  generalize (lg_sl ([.ref a_Line, .int p1, .int p2]) ++ List.replicate (3 - (lg_sl ([.ref a_Line, .int p1, .int p2])).length) Slot.unset).toArray = ls at hl ⊢
  have hl : lv_has ls 3 [(0, .ref a_Line), (1, .int p1), (2, .int p2)] := hl
  refine w_q (fun Q9 hQ9 => ?_)
  have fl21 := hts (.fieldLink RX4 21 "StickRoom$Line" "marks" "[I") (by decide +kernel)
  have inX4 : ∀ w ∈ wsX40, w ∈ wsX4_setMark := by decide +kernel
  unfold f_Line_setMark at hf
  refine lv_aload_n hx hb dX4_setMark_0 rfl (lv_at hl 0 rfl) ?_
  refine lv_iload_n hx hb dX4_setMark_1 rfl (lv_at hl 1 rfl) ?_
  obtain ⟨r1, g2, hf⟩ := b1_s hf
  refine k_Vi (rest := []) ⟨hx, hb, hml, hown, hts⟩ (c_Line_hasNote l D cI cZ t a_Line a_Line_kinds a_Line_ticks a_Line_drums a_Line_marks a_Line_strokeTicks a_Line_strokeHeights s.heap.size Line_count p1 r1 g2) (cwV 1 hts gX4_setMark_X4_hasNote rfl rfl rfl (by decide +kernel) ⟨Nat.le_of_ble_eq_true rfl, Nat.le_of_ble_eq_true rfl⟩) hE hP hD hS hA [0] [1] rfl rfl rfl rfl rfl 0 4 rfl rfl rfl rfl hl.1 rfl (Nat.le_of_ble_eq_true rfl) dX4_setMark_2 ⟨Nat.le_of_ble_eq_true rfl, Nat.le_of_ble_eq_true rfl⟩ (fun rq uq H locs hrq hP hD hS => ?_)
  refine lv_tpx hrq.symm ?_
  have hP : va_P D vwCl [(a_Line_marks, .inl (cI, 20, .inl Line_marks)), (a_Line, .inr (4, [.ref a_Line_kinds, .ref a_Line_ticks, .ref a_Line_drums, .ref a_Line_marks, .ref a_Line_strokeTicks, .ref a_Line_strokeHeights, .int Line_count]))] H := hP
  have hD : va_D A [(a_Line_marks, .inl (cI, 20, .inl Line_marks)), (a_Line, .inr (4, [.ref a_Line_kinds, .ref a_Line_ticks, .ref a_Line_drums, .ref a_Line_marks, .ref a_Line_strokeTicks, .ref a_Line_strokeHeights, .int Line_count]))] := hD
  refine lv_if_eq (tgt := 15) hx hb dX4_setMark_5 (by decide) (fun c3 => ?_) (fun c3 => ?_)
  · have hf := ite_t c3 hf
    cases hf
    exact k_vret () hQ9 hx hb hr hlocks rfl (hP.sub [1, 0] rfl) (hD.sub [1, 0] (by decide) rfl) hS (Nat.le_of_ble_eq_true rfl) (Nat.le_of_ble_eq_true rfl) dX4_setMark_15
  · have hf := ite_f c3 hf
    refine lv_aload_n hx hb dX4_setMark_8 rfl (lv_at hl 0 rfl) ?_
    refine va_get (D := D) (ci := 4) (v := .ref a_Line_marks) (C := RX4) (T := TX4) (N := 7) hx hb hts inX4 hown hK hP 1 rfl rfl 3 (by decide) fl21 (fun _ h9 => h9) rfl dX4_setMark_9 ?_
    refine lv_iload_n hx hb dX4_setMark_12 rfl (lv_at hl 1 rfl) ?_
    refine lv_iload_n hx hb dX4_setMark_13 rfl (lv_at hl 2 rfl) ?_
    obtain ⟨i4, hf⟩ := ck_s hf
    refine va_iast hx hb hK hP hD hS 0 0 rfl rfl i4 dX4_setMark_14 (fun H locs hP hD hS => ?_)
    have hP : va_P D vwCl [(a_Line_marks, .inl (cI, 20, .inl (upd Line_marks p1.toNatClampNeg p2))), (a_Line, .inr (4, [.ref a_Line_kinds, .ref a_Line_ticks, .ref a_Line_drums, .ref a_Line_marks, .ref a_Line_strokeTicks, .ref a_Line_strokeHeights, .int Line_count]))] H := hP
    have hD : va_D A [(a_Line_marks, .inl (cI, 20, .inl (upd Line_marks p1.toNatClampNeg p2))), (a_Line, .inr (4, [.ref a_Line_kinds, .ref a_Line_ticks, .ref a_Line_drums, .ref a_Line_marks, .ref a_Line_strokeTicks, .ref a_Line_strokeHeights, .int Line_count]))] := hD
    cases hf
    exact k_vret () hQ9 hx hb hr hlocks rfl (hP.sub [1, 0] rfl) (hD.sub [1, 0] (by decide) rfl) hS (Nat.le_of_ble_eq_true rfl) (Nat.le_of_ble_eq_true rfl) dX4_setMark_15
