abbrev rm_Model_hitOf : Room := { frames := 0, cells := 0, slots := 0, locals := 0 }
set_option maxHeartbeats 4000000 in
set_option maxRecDepth 100000 in
theorem c_Model_hitOf (l : Launch) (D : va_G) (cI cZ : ClassId) (t : Nat → Nat) (a_Model a_Model_now a_Model_past a_Model_bits a_Model_sizes a_Model_sheets a_Model_least a_Model_ways a_Model_handOf a_Model_crossedAt a_Model_strokeOf a_Model_prices a_Model_hitAt a_Model_carried sz : Nat) (Model_now : Nat → Int32) (Model_kept Model_findings Model_thenCost Model_thenWays Model_bothCost Model_bothWays p1 p2 zr : Int32) (hf : f_Model_hitOf Model_now p1 p2 = some zr) : Met l yX11_hitOf wsX11_hitOf rm_Model_hitOf (va_Pc [.ref a_Model, .int p1, .int p2] (pcW D cI cZ t [(a_Model, .inr (11, [.ref a_Model_now, .ref a_Model_past, .int Model_kept, .int Model_findings, .ref a_Model_bits, .ref a_Model_sizes, .ref a_Model_sheets, .ref a_Model_least, .ref a_Model_ways, .int Model_thenCost, .int Model_thenWays, .int Model_bothCost, .int Model_bothWays, .ref a_Model_handOf, .ref a_Model_crossedAt, .ref a_Model_strokeOf, .ref a_Model_prices, .ref a_Model_hitAt, .ref a_Model_carried])), (a_Model_now, .inl (cI, 187, .inl Model_now))] sz)) (va_Qi (fun r (u : Unit) => r = zr) (fun u t' => bW D (va_A [(a_Model, .inr (11, [.ref a_Model_now, .ref a_Model_past, .int Model_kept, .int Model_findings, .ref a_Model_bits, .ref a_Model_sizes, .ref a_Model_sheets, .ref a_Model_least, .ref a_Model_ways, .int Model_thenCost, .int Model_thenWays, .int Model_bothCost, .int Model_bothWays, .ref a_Model_handOf, .ref a_Model_crossedAt, .ref a_Model_strokeOf, .ref a_Model_prices, .ref a_Model_hitAt, .ref a_Model_carried])), (a_Model_now, .inl (cI, 187, .inl Model_now))] sz) [(a_Model, .inr (11, [.ref a_Model_now, .ref a_Model_past, .int Model_kept, .int Model_findings, .ref a_Model_bits, .ref a_Model_sizes, .ref a_Model_sheets, .ref a_Model_least, .ref a_Model_ways, .int Model_thenCost, .int Model_thenWays, .int Model_bothCost, .int Model_bothWays, .ref a_Model_handOf, .ref a_Model_crossedAt, .ref a_Model_strokeOf, .ref a_Model_prices, .ref a_Model_hitAt, .ref a_Model_carried])), (a_Model_now, .inl (cI, 187, .inl Model_now))] t') (va_A [(a_Model, .inr (11, [.ref a_Model_now, .ref a_Model_past, .int Model_kept, .int Model_findings, .ref a_Model_bits, .ref a_Model_sizes, .ref a_Model_sheets, .ref a_Model_least, .ref a_Model_ways, .int Model_thenCost, .int Model_thenWays, .int Model_bothCost, .int Model_bothWays, .ref a_Model_handOf, .ref a_Model_crossedAt, .ref a_Model_strokeOf, .ref a_Model_prices, .ref a_Model_hitAt, .ref a_Model_carried])), (a_Model_now, .inl (cI, 187, .inl Model_now))] sz)) 0 0 (va_A [(a_Model, .inr (11, [.ref a_Model_now, .ref a_Model_past, .int Model_kept, .int Model_findings, .ref a_Model_bits, .ref a_Model_sizes, .ref a_Model_sheets, .ref a_Model_least, .ref a_Model_ways, .int Model_thenCost, .int Model_thenWays, .int Model_bothCost, .int Model_bothWays, .ref a_Model_handOf, .ref a_Model_crossedAt, .ref a_Model_strokeOf, .ref a_Model_prices, .ref a_Model_hitAt, .ref a_Model_carried])), (a_Model_now, .inl (cI, 187, .inl Model_now))] sz) := by
  refine Met.ofW (cc := cX11_hitOf) (maxL := 3) (ret := (some .int)) (by decide) rfl ?_
  intro p e s m args below meth c s₁ B hml hv
  obtain ⟨rfl, hsz, hP, hD0, hE⟩ := hv
  have hx := B.exec
  have hb := B.bytes
  have hr := B.returns
  have hts := atoms_spec (ws := wsX11_hitOf) B.pre
  have hown : s.vm.findClass RX11 = some m.cls := findClass_of_methodNamed B.named
  have hlocks := B.notSynchronized
  subst hsz
  have hD := hD0.self (sz := s.heap.size)
  generalize hAe : va_A [(a_Model, .inr (11, [.ref a_Model_now, .ref a_Model_past, .int Model_kept, .int Model_findings, .ref a_Model_bits, .ref a_Model_sizes, .ref a_Model_sheets, .ref a_Model_least, .ref a_Model_ways, .int Model_thenCost, .int Model_thenWays, .int Model_bothCost, .int Model_bothWays, .ref a_Model_handOf, .ref a_Model_crossedAt, .ref a_Model_strokeOf, .ref a_Model_prices, .ref a_Model_hitAt, .ref a_Model_carried])), (a_Model_now, .inl (cI, 187, .inl Model_now))] s.heap.size = A at hD hE ⊢
  have hA : ∀ q : Nat, s.heap.size ≤ q → A q := fun q h => by rw [← hAe]; exact Or.inr h
  clear hAe hD0
  have hS : va_S A s.heap s.heap [] := va_S.rf
  have hK := hE.1
  have hl := lv_entry ([.ref a_Model, .int p1, .int p2]) (n := 3) (Nat.le_of_ble_eq_true rfl)
  rw [lg_entry_eq]
  generalize (lg_sl ([.ref a_Model, .int p1, .int p2]) ++ List.replicate (3 - (lg_sl ([.ref a_Model, .int p1, .int p2])).length) Slot.unset).toArray = ls at hl ⊢
  have hl : lv_has ls 3 [(0, .ref a_Model), (1, .int p1), (2, .int p2)] := hl
  refine w_q (fun Q9 hQ9 => ?_)
  have fl9 := hts (.fieldLink RX11 9 "StickRoomModel" "now" "[I") (by decide +kernel)
  have inX11 : ∀ w ∈ wsX110, w ∈ wsX11_hitOf := by decide +kernel
  unfold f_Model_hitOf at hf
  refine lv_aload_n hx hb dX11_hitOf_0 rfl (lv_at hl 0 rfl) ?_
  refine va_get (D := D) (ci := 11) (v := .ref a_Model_now) (C := RX11) (T := TX11) (N := 19) hx hb hts inX11 hown hK hP 0 rfl rfl 0 (by decide) fl9 (fun _ h9 => h9) rfl dX11_hitOf_1 ?_
  refine lv_bipush (v := 91) hx hb dX11_hitOf_4 (by decide) ?_
  refine lv_bipush (v := 24) hx hb dX11_hitOf_6 (by decide) ?_
  refine lv_iload_n hx hb dX11_hitOf_8 rfl (lv_at hl 1 rfl) ?_
  refine lv_imul hx hb dX11_hitOf_9 ?_
  refine lv_iadd hx hb dX11_hitOf_10 ?_
  refine lv_iload_n hx hb dX11_hitOf_11 rfl (lv_at hl 2 rfl) ?_
  refine lv_iadd hx hb dX11_hitOf_12 ?_
  obtain ⟨ix1, x1, ex1, hf⟩ := rd_s hf
  refine va_iald hx hb hK hP 1 0 rfl rfl ix1 dX11_hitOf_13 ?_
  refine lv_tpx ex1 ?_
  cases hf
  exact k_iret () hQ9 hx hb hr hlocks rfl hP hD hS (Nat.le_of_ble_eq_true rfl) (Nat.le_of_ble_eq_true rfl) dX11_hitOf_14
abbrev rm_Model_priceFrom : Room := { frames := 0, cells := 0, slots := 0, locals := 0 }
set_option maxHeartbeats 4000000 in
set_option maxRecDepth 100000 in
theorem c_Model_priceFrom (l : Launch) (D : va_G) (cI cZ : ClassId) (t : Nat → Nat) (a_Model a_Model_now a_Model_past a_Model_bits a_Model_sizes a_Model_sheets a_Model_least a_Model_ways a_Model_handOf a_Model_crossedAt a_Model_strokeOf a_Model_prices a_Model_hitAt a_Model_carried sz : Nat) (Model_prices : Nat → Int32) (Model_kept Model_findings Model_thenCost Model_thenWays Model_bothCost Model_bothWays p1 p2 zr : Int32) (hf : f_Model_priceFrom Model_prices p1 p2 = some zr) : Met l yX11_priceFrom wsX11_priceFrom rm_Model_priceFrom (va_Pc [.ref a_Model, .int p1, .int p2] (pcW D cI cZ t [(a_Model, .inr (11, [.ref a_Model_now, .ref a_Model_past, .int Model_kept, .int Model_findings, .ref a_Model_bits, .ref a_Model_sizes, .ref a_Model_sheets, .ref a_Model_least, .ref a_Model_ways, .int Model_thenCost, .int Model_thenWays, .int Model_bothCost, .int Model_bothWays, .ref a_Model_handOf, .ref a_Model_crossedAt, .ref a_Model_strokeOf, .ref a_Model_prices, .ref a_Model_hitAt, .ref a_Model_carried])), (a_Model_prices, .inl (cI, 525, .inl Model_prices))] sz)) (va_Qi (fun r (u : Unit) => r = zr) (fun u t' => bW D (va_A [(a_Model, .inr (11, [.ref a_Model_now, .ref a_Model_past, .int Model_kept, .int Model_findings, .ref a_Model_bits, .ref a_Model_sizes, .ref a_Model_sheets, .ref a_Model_least, .ref a_Model_ways, .int Model_thenCost, .int Model_thenWays, .int Model_bothCost, .int Model_bothWays, .ref a_Model_handOf, .ref a_Model_crossedAt, .ref a_Model_strokeOf, .ref a_Model_prices, .ref a_Model_hitAt, .ref a_Model_carried])), (a_Model_prices, .inl (cI, 525, .inl Model_prices))] sz) [(a_Model, .inr (11, [.ref a_Model_now, .ref a_Model_past, .int Model_kept, .int Model_findings, .ref a_Model_bits, .ref a_Model_sizes, .ref a_Model_sheets, .ref a_Model_least, .ref a_Model_ways, .int Model_thenCost, .int Model_thenWays, .int Model_bothCost, .int Model_bothWays, .ref a_Model_handOf, .ref a_Model_crossedAt, .ref a_Model_strokeOf, .ref a_Model_prices, .ref a_Model_hitAt, .ref a_Model_carried])), (a_Model_prices, .inl (cI, 525, .inl Model_prices))] t') (va_A [(a_Model, .inr (11, [.ref a_Model_now, .ref a_Model_past, .int Model_kept, .int Model_findings, .ref a_Model_bits, .ref a_Model_sizes, .ref a_Model_sheets, .ref a_Model_least, .ref a_Model_ways, .int Model_thenCost, .int Model_thenWays, .int Model_bothCost, .int Model_bothWays, .ref a_Model_handOf, .ref a_Model_crossedAt, .ref a_Model_strokeOf, .ref a_Model_prices, .ref a_Model_hitAt, .ref a_Model_carried])), (a_Model_prices, .inl (cI, 525, .inl Model_prices))] sz)) 0 0 (va_A [(a_Model, .inr (11, [.ref a_Model_now, .ref a_Model_past, .int Model_kept, .int Model_findings, .ref a_Model_bits, .ref a_Model_sizes, .ref a_Model_sheets, .ref a_Model_least, .ref a_Model_ways, .int Model_thenCost, .int Model_thenWays, .int Model_bothCost, .int Model_bothWays, .ref a_Model_handOf, .ref a_Model_crossedAt, .ref a_Model_strokeOf, .ref a_Model_prices, .ref a_Model_hitAt, .ref a_Model_carried])), (a_Model_prices, .inl (cI, 525, .inl Model_prices))] sz) := by
  refine Met.ofW (cc := cX11_priceFrom) (maxL := 3) (ret := (some .int)) (by decide) rfl ?_
  intro p e s m args below meth c s₁ B hml hv
  obtain ⟨rfl, hsz, hP, hD0, hE⟩ := hv
  have hx := B.exec
  have hb := B.bytes
  have hr := B.returns
  have hts := atoms_spec (ws := wsX11_priceFrom) B.pre
  have hown : s.vm.findClass RX11 = some m.cls := findClass_of_methodNamed B.named
  have hlocks := B.notSynchronized
  subst hsz
  have hD := hD0.self (sz := s.heap.size)
  generalize hAe : va_A [(a_Model, .inr (11, [.ref a_Model_now, .ref a_Model_past, .int Model_kept, .int Model_findings, .ref a_Model_bits, .ref a_Model_sizes, .ref a_Model_sheets, .ref a_Model_least, .ref a_Model_ways, .int Model_thenCost, .int Model_thenWays, .int Model_bothCost, .int Model_bothWays, .ref a_Model_handOf, .ref a_Model_crossedAt, .ref a_Model_strokeOf, .ref a_Model_prices, .ref a_Model_hitAt, .ref a_Model_carried])), (a_Model_prices, .inl (cI, 525, .inl Model_prices))] s.heap.size = A at hD hE ⊢
  have hA : ∀ q : Nat, s.heap.size ≤ q → A q := fun q h => by rw [← hAe]; exact Or.inr h
  clear hAe hD0
  have hS : va_S A s.heap s.heap [] := va_S.rf
  have hK := hE.1
  have hl := lv_entry ([.ref a_Model, .int p1, .int p2]) (n := 3) (Nat.le_of_ble_eq_true rfl)
  rw [lg_entry_eq]
  generalize (lg_sl ([.ref a_Model, .int p1, .int p2]) ++ List.replicate (3 - (lg_sl ([.ref a_Model, .int p1, .int p2])).length) Slot.unset).toArray = ls at hl ⊢
  have hl : lv_has ls 3 [(0, .ref a_Model), (1, .int p1), (2, .int p2)] := hl
  refine w_q (fun Q9 hQ9 => ?_)
  have fl41 := hts (.fieldLink RX11 41 "StickRoomModel" "prices" "[I") (by decide +kernel)
  have inX11 : ∀ w ∈ wsX110, w ∈ wsX11_priceFrom := by decide +kernel
  unfold f_Model_priceFrom at hf
  refine lv_aload_n hx hb dX11_priceFrom_0 rfl (lv_at hl 0 rfl) ?_
  refine va_get (D := D) (ci := 11) (v := .ref a_Model_prices) (C := RX11) (T := TX11) (N := 19) hx hb hts inX11 hown hK hP 0 rfl rfl 16 (by decide) fl41 (fun _ h9 => h9) rfl dX11_priceFrom_1 ?_
  refine lv_bipush (v := 25) hx hb dX11_priceFrom_4 (by decide) ?_
  refine lv_iload_n hx hb dX11_priceFrom_6 rfl (lv_at hl 1 rfl) ?_
  refine lv_imul hx hb dX11_priceFrom_7 ?_
  refine lv_iload_n hx hb dX11_priceFrom_8 rfl (lv_at hl 2 rfl) ?_
  refine lv_iadd hx hb dX11_priceFrom_9 ?_
  obtain ⟨ix1, x1, ex1, hf⟩ := rd_s hf
  refine va_iald hx hb hK hP 1 0 rfl rfl ix1 dX11_priceFrom_10 ?_
  refine lv_tpx ex1 ?_
  cases hf
  exact k_iret () hQ9 hx hb hr hlocks rfl hP hD hS (Nat.le_of_ble_eq_true rfl) (Nat.le_of_ble_eq_true rfl) dX11_priceFrom_11
abbrev rm_Model_matched : Room := { frames := 1, cells := 0, slots := 0, locals := 30 }
set_option maxHeartbeats 4000000 in
set_option maxRecDepth 100000 in
theorem c_Model_matched (l : Launch) (D : va_G) (cI cZ : ClassId) (t : Nat → Nat) (a_Model a_Model_now a_Model_past a_Model_bits a_Model_sizes a_Model_sheets a_Model_least a_Model_ways a_Model_handOf a_Model_crossedAt a_Model_strokeOf a_Model_prices a_Model_hitAt a_Model_carried sz : Nat) (Model_now : Nat → Int32) (Model_kept Model_findings Model_thenCost Model_thenWays Model_bothCost Model_bothWays p1 p2 p3 zr : Int32) (hf : f_Model_matched Model_now p1 p2 p3 = some zr) : Met l yX11_matched wsX11_matched rm_Model_matched (va_Pc [.ref a_Model, .int p1, .int p2, .int p3] (pcW D cI cZ t [(a_Model, .inr (11, [.ref a_Model_now, .ref a_Model_past, .int Model_kept, .int Model_findings, .ref a_Model_bits, .ref a_Model_sizes, .ref a_Model_sheets, .ref a_Model_least, .ref a_Model_ways, .int Model_thenCost, .int Model_thenWays, .int Model_bothCost, .int Model_bothWays, .ref a_Model_handOf, .ref a_Model_crossedAt, .ref a_Model_strokeOf, .ref a_Model_prices, .ref a_Model_hitAt, .ref a_Model_carried])), (a_Model_now, .inl (cI, 187, .inl Model_now))] sz)) (va_Qi (fun r (u : Unit) => r = zr) (fun u t' => bW D (va_A [(a_Model, .inr (11, [.ref a_Model_now, .ref a_Model_past, .int Model_kept, .int Model_findings, .ref a_Model_bits, .ref a_Model_sizes, .ref a_Model_sheets, .ref a_Model_least, .ref a_Model_ways, .int Model_thenCost, .int Model_thenWays, .int Model_bothCost, .int Model_bothWays, .ref a_Model_handOf, .ref a_Model_crossedAt, .ref a_Model_strokeOf, .ref a_Model_prices, .ref a_Model_hitAt, .ref a_Model_carried])), (a_Model_now, .inl (cI, 187, .inl Model_now))] sz) [(a_Model, .inr (11, [.ref a_Model_now, .ref a_Model_past, .int Model_kept, .int Model_findings, .ref a_Model_bits, .ref a_Model_sizes, .ref a_Model_sheets, .ref a_Model_least, .ref a_Model_ways, .int Model_thenCost, .int Model_thenWays, .int Model_bothCost, .int Model_bothWays, .ref a_Model_handOf, .ref a_Model_crossedAt, .ref a_Model_strokeOf, .ref a_Model_prices, .ref a_Model_hitAt, .ref a_Model_carried])), (a_Model_now, .inl (cI, 187, .inl Model_now))] t') (va_A [(a_Model, .inr (11, [.ref a_Model_now, .ref a_Model_past, .int Model_kept, .int Model_findings, .ref a_Model_bits, .ref a_Model_sizes, .ref a_Model_sheets, .ref a_Model_least, .ref a_Model_ways, .int Model_thenCost, .int Model_thenWays, .int Model_bothCost, .int Model_bothWays, .ref a_Model_handOf, .ref a_Model_crossedAt, .ref a_Model_strokeOf, .ref a_Model_prices, .ref a_Model_hitAt, .ref a_Model_carried])), (a_Model_now, .inl (cI, 187, .inl Model_now))] sz)) 0 0 (va_A [(a_Model, .inr (11, [.ref a_Model_now, .ref a_Model_past, .int Model_kept, .int Model_findings, .ref a_Model_bits, .ref a_Model_sizes, .ref a_Model_sheets, .ref a_Model_least, .ref a_Model_ways, .int Model_thenCost, .int Model_thenWays, .int Model_bothCost, .int Model_bothWays, .ref a_Model_handOf, .ref a_Model_crossedAt, .ref a_Model_strokeOf, .ref a_Model_prices, .ref a_Model_hitAt, .ref a_Model_carried])), (a_Model_now, .inl (cI, 187, .inl Model_now))] sz) := by
  refine Met.ofW (cc := cX11_matched) (maxL := 5) (ret := (some .int)) (by decide) rfl ?_
  intro p e s m args below meth c s₁ B hml hv
  obtain ⟨rfl, hsz, hP, hD0, hE⟩ := hv
  have hx := B.exec
  have hb := B.bytes
  have hr := B.returns
  have hts := atoms_spec (ws := wsX11_matched) B.pre
  have hown : s.vm.findClass RX11 = some m.cls := findClass_of_methodNamed B.named
  have hlocks := B.notSynchronized
  subst hsz
  have hD := hD0.self (sz := s.heap.size)
  generalize hAe : va_A [(a_Model, .inr (11, [.ref a_Model_now, .ref a_Model_past, .int Model_kept, .int Model_findings, .ref a_Model_bits, .ref a_Model_sizes, .ref a_Model_sheets, .ref a_Model_least, .ref a_Model_ways, .int Model_thenCost, .int Model_thenWays, .int Model_bothCost, .int Model_bothWays, .ref a_Model_handOf, .ref a_Model_crossedAt, .ref a_Model_strokeOf, .ref a_Model_prices, .ref a_Model_hitAt, .ref a_Model_carried])), (a_Model_now, .inl (cI, 187, .inl Model_now))] s.heap.size = A at hD hE ⊢
  have hA : ∀ q : Nat, s.heap.size ≤ q → A q := fun q h => by rw [← hAe]; exact Or.inr h
  clear hAe hD0
  have hS : va_S A s.heap s.heap [] := va_S.rf
  have hK := hE.1
  have hl := lv_entry ([.ref a_Model, .int p1, .int p2, .int p3]) (n := 5) (Nat.le_of_ble_eq_true rfl)
  rw [lg_entry_eq]
  generalize (lg_sl ([.ref a_Model, .int p1, .int p2, .int p3]) ++ List.replicate (5 - (lg_sl ([.ref a_Model, .int p1, .int p2, .int p3])).length) Slot.unset).toArray = ls at hl ⊢
  have hl : lv_has ls 5 [(0, .ref a_Model), (1, .int p1), (2, .int p2), (3, .int p3)] := hl
  refine w_q (fun Q9 hQ9 => ?_)
  have fl9 := hts (.fieldLink RX11 9 "StickRoomModel" "now" "[I") (by decide +kernel)
  have inX11 : ∀ w ∈ wsX110, w ∈ wsX11_matched := by decide +kernel
  have ml92 := hts (.methodLink RX11 92 Lib.Math.abs.name) (by decide +kernel)
  have ms_abs := hts (.static Lib.Math.abs.name) (by decide +kernel)
  have mini := hts (.initialized "java/lang/Math") (by decide +kernel)
  have mc_abs := hts (.code Lib.Math.abs.name Lib.Math.abs.code 1 (some .int)) (by decide +kernel)
  have kc100 := hts (.constant RX11 100 1000000) (by decide +kernel)
  unfold f_Model_matched at hf
  refine lv_aload_n hx hb dX11_matched_0 rfl (lv_at hl 0 rfl) ?_
  refine va_get (D := D) (ci := 11) (v := .ref a_Model_now) (C := RX11) (T := TX11) (N := 19) hx hb hts inX11 hown hK hP 0 rfl rfl 0 (by decide) fl9 (fun _ h9 => h9) rfl dX11_matched_1 ?_
  refine lv_bipush (v := 27) hx hb dX11_matched_4 (by decide) ?_
  refine lv_iload_n hx hb dX11_matched_6 rfl (lv_at hl 2 rfl) ?_
  refine lv_iadd hx hb dX11_matched_7 ?_
  obtain ⟨ix1, x1, ex1, hf⟩ := rd_s hf
  refine va_iald hx hb hK hP 1 0 rfl rfl ix1 dX11_matched_8 ?_
  refine lv_tpx ex1 ?_
  refine lv_aload_n hx hb dX11_matched_9 rfl (lv_at hl 0 rfl) ?_
  refine lv_iload_n hx hb dX11_matched_10 rfl (lv_at hl 1 rfl) ?_
  refine lv_iload_n hx hb dX11_matched_11 rfl (lv_at hl 3 rfl) ?_
  obtain ⟨r2, g3, hf⟩ := b1_s hf
  refine k_Vi (rest := [.int x1]) ⟨hx, hb, hml, hown, hts⟩ (c_Model_hitOf l D cI cZ t a_Model a_Model_now a_Model_past a_Model_bits a_Model_sizes a_Model_sheets a_Model_least a_Model_ways a_Model_handOf a_Model_crossedAt a_Model_strokeOf a_Model_prices a_Model_hitAt a_Model_carried s.heap.size Model_now Model_kept Model_findings Model_thenCost Model_thenWays Model_bothCost Model_bothWays p1 p3 r2 g3) (cwV 2 hts gX11_matched_X11_hitOf rfl rfl rfl (by decide +kernel) ⟨Nat.le_of_ble_eq_true rfl, Nat.le_of_ble_eq_true rfl⟩) hE hP hD hS hA [0, 1] [] rfl rfl rfl rfl rfl 0 11 rfl rfl rfl rfl hl.1 rfl (Nat.le_of_ble_eq_true rfl) dX11_matched_12 ⟨Nat.le_of_ble_eq_true rfl, Nat.le_of_ble_eq_true rfl⟩ (fun rq uq H locs hrq hP hD hS => ?_)
  refine lv_tpx hrq.symm ?_
  have hP : va_P D vwCl [(a_Model, .inr (11, [.ref a_Model_now, .ref a_Model_past, .int Model_kept, .int Model_findings, .ref a_Model_bits, .ref a_Model_sizes, .ref a_Model_sheets, .ref a_Model_least, .ref a_Model_ways, .int Model_thenCost, .int Model_thenWays, .int Model_bothCost, .int Model_bothWays, .ref a_Model_handOf, .ref a_Model_crossedAt, .ref a_Model_strokeOf, .ref a_Model_prices, .ref a_Model_hitAt, .ref a_Model_carried])), (a_Model_now, .inl (cI, 187, .inl Model_now))] H := hP
  have hD : va_D A [(a_Model, .inr (11, [.ref a_Model_now, .ref a_Model_past, .int Model_kept, .int Model_findings, .ref a_Model_bits, .ref a_Model_sizes, .ref a_Model_sheets, .ref a_Model_least, .ref a_Model_ways, .int Model_thenCost, .int Model_thenWays, .int Model_bothCost, .int Model_bothWays, .ref a_Model_handOf, .ref a_Model_crossedAt, .ref a_Model_strokeOf, .ref a_Model_prices, .ref a_Model_hitAt, .ref a_Model_carried])), (a_Model_now, .inl (cI, 187, .inl Model_now))] := hD
  refine lv_isub hx hb dX11_matched_15 ?_
  refine va_mabs hx hb (hml.trans hl.1.symm) hown ml92 ms_abs mini mc_abs (Nat.le_of_ble_eq_true rfl) (Nat.le_of_ble_eq_true rfl) (Nat.le_of_ble_eq_true rfl) (Nat.le_of_ble_eq_true rfl) dX11_matched_16 ?_
  obtain ⟨x4, ex4, hf⟩ := nm_s hf
  refine lv_tpx ex4 ?_
  refine lv_istore (lv' := [(4, .int x4), (0, .ref a_Model), (1, .int p1), (2, .int p2), (3, .int p3)]) hx hb dX11_matched_19 hl (by decide) rfl (fun ls hl => ?_)
  refine lv_iload hx hb dX11_matched_21 (lv_at hl 0 rfl) ?_
  refine lv_aload_n hx hb dX11_matched_23 rfl (lv_at hl 1 rfl) ?_
  refine va_get (D := D) (ci := 11) (v := .ref a_Model_now) (C := RX11) (T := TX11) (N := 19) hx hb hts inX11 hown hK hP 0 rfl rfl 0 (by decide) fl9 (fun _ h9 => h9) rfl dX11_matched_24 ?_
  refine lv_bipush (v := 6) hx hb dX11_matched_27 (by decide) ?_
  obtain ⟨ix5, x5, ex5, hf⟩ := rd_s hf
  refine va_iald hx hb hK hP 1 0 rfl rfl ix5 dX11_matched_29 ?_
  refine lv_tpx ex5 ?_
  refine lv_icmp_le (tgt := 38) hx hb dX11_matched_30 (by decide) (fun c6 => ?_) (fun c6 => ?_)
  · have hf := ite_t c6 hf
    refine lv_iload hx hb dX11_matched_38 (lv_at hl 0 rfl) ?_
    cases hf
    exact k_iret () hQ9 hx hb hr hlocks rfl hP hD hS (Nat.le_of_ble_eq_true rfl) (Nat.le_of_ble_eq_true rfl) dX11_matched_40
  · have hf := ite_f c6 hf
    refine lv_ldc (v := 1000000) hx hb hown kc100 dX11_matched_33 ?_
    refine lv_goto (tgt := 40) hx hb dX11_matched_35 (by decide) ?_
    cases hf
    exact k_iret () hQ9 hx hb hr hlocks rfl hP hD hS (Nat.le_of_ble_eq_true rfl) (Nat.le_of_ble_eq_true rfl) dX11_matched_40
abbrev rm_Model_isSheet : Room := { frames := 1, cells := 0, slots := 0, locals := 22 }
set_option maxHeartbeats 4000000 in
set_option maxRecDepth 100000 in
theorem c_Model_isSheet (l : Launch) (D : va_G) (cI cZ : ClassId) (t : Nat → Nat) (sz : Nat) (p0 zr : Int32) (hf : f_Model_isSheet p0 = some zr) : Met l yX11_isSheet wsX11_isSheet rm_Model_isSheet (va_Pc [.int p0] (pcW D cI cZ t [] sz)) (va_Qi (fun r (u : Unit) => r = zr) (fun u t' => bW D (va_A [] sz) [] t') (va_A [] sz)) 0 0 (va_A [] sz) := by
  refine Met.ofW (cc := cX11_isSheet) (maxL := 1) (ret := (some .boolean)) (by decide) rfl ?_
  intro p e s m args below meth c s₁ B hml hv
  obtain ⟨rfl, hsz, hP, hD0, hE⟩ := hv
  have hx := B.exec
  have hb := B.bytes
  have hr := B.returns
  have hts := atoms_spec (ws := wsX11_isSheet) B.pre
  have hown : s.vm.findClass RX11 = some m.cls := findClass_of_methodNamed B.named
  have hlocks := B.notSynchronized
  subst hsz
  have hD := hD0.self (sz := s.heap.size)
  generalize hAe : va_A [] s.heap.size = A at hD hE ⊢
  have hA : ∀ q : Nat, s.heap.size ≤ q → A q := fun q h => by rw [← hAe]; exact Or.inr h
  clear hAe hD0
  have hS : va_S A s.heap s.heap [] := va_S.rf
  have hK := hE.1
  have hl := lv_entry ([.int p0]) (n := 1) (Nat.le_of_ble_eq_true rfl)
  rw [lg_entry_eq]
  generalize (lg_sl ([.int p0]) ++ List.replicate (1 - (lg_sl ([.int p0])).length) Slot.unset).toArray = ls at hl ⊢
  have hl : lv_has ls 1 [(0, .int p0)] := hl
  refine w_q (fun Q9 hQ9 => ?_)
  unfold f_Model_isSheet at hf
  refine lv_iload_n hx hb dX11_isSheet_0 rfl (lv_at hl 0 rfl) ?_
  refine lv_iconst (v := 0) hx hb dX11_isSheet_1 (by decide) ?_
  refine lv_iconst (v := 3) hx hb dX11_isSheet_2 (by decide) ?_
  obtain ⟨r1, g2, hf⟩ := b1_s hf
  refine k_Si (rest := []) ⟨hx, hb, hml, hown, hts⟩ (c_Model_within l D cI cZ t  s.heap.size p0 0 3 r1 g2) (va_cwS 3 hts gX11_isSheet_X11_within rfl rfl rfl (by decide +kernel) ⟨Nat.le_of_ble_eq_true rfl, Nat.le_of_ble_eq_true rfl⟩) hE hP hD hS hA [] [] rfl rfl rfl rfl rfl rfl hl.1 rfl (Nat.le_of_ble_eq_true rfl) dX11_isSheet_3 ⟨Nat.le_of_ble_eq_true rfl, Nat.le_of_ble_eq_true rfl⟩ (fun rq uq H locs hrq hP hD hS => ?_)
  refine lv_tpx hrq.symm ?_
  have hP : va_P D vwCl [] H := hP
  have hD : va_D A [] := hD
  obtain ⟨hz9, hf⟩ := zb_s hf
  cases hf
  exact k_zret () hQ9 hx hb hr hlocks hz9 rfl hP hD hS (Nat.le_of_ble_eq_true rfl) (Nat.le_of_ble_eq_true rfl) dX11_isSheet_6
abbrev rm_Model_all : Room := { frames := 1, cells := 0, slots := 0, locals := 22 }
set_option maxHeartbeats 4000000 in
set_option maxRecDepth 100000 in
theorem c_Model_all (l : Launch) (D : va_G) (cI cZ : ClassId) (t : Nat → Nat) (a_Model a_Model_now a_Model_past a_Model_bits a_Model_sizes a_Model_sheets a_Model_least a_Model_ways a_Model_handOf a_Model_crossedAt a_Model_strokeOf a_Model_prices a_Model_hitAt a_Model_carried sz : Nat) (Model_now : Nat → Int32) (Model_findings Model_kept Model_thenCost Model_thenWays Model_bothCost Model_bothWays p1 zr z_Model_findings : Int32) (hf : f_Model_all Model_now Model_findings p1 = some (zr, z_Model_findings)) : Met l yX11_all wsX11_all rm_Model_all (va_Pc [.ref a_Model, .int p1] (pcW D cI cZ t [(a_Model, .inr (11, [.ref a_Model_now, .ref a_Model_past, .int Model_kept, .int Model_findings, .ref a_Model_bits, .ref a_Model_sizes, .ref a_Model_sheets, .ref a_Model_least, .ref a_Model_ways, .int Model_thenCost, .int Model_thenWays, .int Model_bothCost, .int Model_bothWays, .ref a_Model_handOf, .ref a_Model_crossedAt, .ref a_Model_strokeOf, .ref a_Model_prices, .ref a_Model_hitAt, .ref a_Model_carried])), (a_Model_now, .inl (cI, 187, .inl Model_now))] sz)) (va_Qi (fun r (u : Unit) => r = zr) (fun u t' => bW D (va_A [(a_Model, .inr (11, [.ref a_Model_now, .ref a_Model_past, .int Model_kept, .int Model_findings, .ref a_Model_bits, .ref a_Model_sizes, .ref a_Model_sheets, .ref a_Model_least, .ref a_Model_ways, .int Model_thenCost, .int Model_thenWays, .int Model_bothCost, .int Model_bothWays, .ref a_Model_handOf, .ref a_Model_crossedAt, .ref a_Model_strokeOf, .ref a_Model_prices, .ref a_Model_hitAt, .ref a_Model_carried])), (a_Model_now, .inl (cI, 187, .inl Model_now))] sz) [(a_Model, .inr (11, [.ref a_Model_now, .ref a_Model_past, .int Model_kept, .int z_Model_findings, .ref a_Model_bits, .ref a_Model_sizes, .ref a_Model_sheets, .ref a_Model_least, .ref a_Model_ways, .int Model_thenCost, .int Model_thenWays, .int Model_bothCost, .int Model_bothWays, .ref a_Model_handOf, .ref a_Model_crossedAt, .ref a_Model_strokeOf, .ref a_Model_prices, .ref a_Model_hitAt, .ref a_Model_carried])), (a_Model_now, .inl (cI, 187, .inl Model_now))] t') (va_A [(a_Model, .inr (11, [.ref a_Model_now, .ref a_Model_past, .int Model_kept, .int Model_findings, .ref a_Model_bits, .ref a_Model_sizes, .ref a_Model_sheets, .ref a_Model_least, .ref a_Model_ways, .int Model_thenCost, .int Model_thenWays, .int Model_bothCost, .int Model_bothWays, .ref a_Model_handOf, .ref a_Model_crossedAt, .ref a_Model_strokeOf, .ref a_Model_prices, .ref a_Model_hitAt, .ref a_Model_carried])), (a_Model_now, .inl (cI, 187, .inl Model_now))] sz)) 0 0 (va_A [(a_Model, .inr (11, [.ref a_Model_now, .ref a_Model_past, .int Model_kept, .int Model_findings, .ref a_Model_bits, .ref a_Model_sizes, .ref a_Model_sheets, .ref a_Model_least, .ref a_Model_ways, .int Model_thenCost, .int Model_thenWays, .int Model_bothCost, .int Model_bothWays, .ref a_Model_handOf, .ref a_Model_crossedAt, .ref a_Model_strokeOf, .ref a_Model_prices, .ref a_Model_hitAt, .ref a_Model_carried])), (a_Model_now, .inl (cI, 187, .inl Model_now))] sz) := by
  refine Met.ofW (cc := cX11_all) (maxL := 5) (ret := (some .int)) (by decide) rfl ?_
  intro p e s m args below meth c s₁ B hml hv
  obtain ⟨rfl, hsz, hP, hD0, hE⟩ := hv
  have hx := B.exec
  have hb := B.bytes
  have hr := B.returns
  have hts := atoms_spec (ws := wsX11_all) B.pre
  have hown : s.vm.findClass RX11 = some m.cls := findClass_of_methodNamed B.named
  have hlocks := B.notSynchronized
  subst hsz
  have hD := hD0.self (sz := s.heap.size)
  generalize hAe : va_A [(a_Model, .inr (11, [.ref a_Model_now, .ref a_Model_past, .int Model_kept, .int Model_findings, .ref a_Model_bits, .ref a_Model_sizes, .ref a_Model_sheets, .ref a_Model_least, .ref a_Model_ways, .int Model_thenCost, .int Model_thenWays, .int Model_bothCost, .int Model_bothWays, .ref a_Model_handOf, .ref a_Model_crossedAt, .ref a_Model_strokeOf, .ref a_Model_prices, .ref a_Model_hitAt, .ref a_Model_carried])), (a_Model_now, .inl (cI, 187, .inl Model_now))] s.heap.size = A at hD hE ⊢
  have hA : ∀ q : Nat, s.heap.size ≤ q → A q := fun q h => by rw [← hAe]; exact Or.inr h
  clear hAe hD0
  have hS : va_S A s.heap s.heap [] := va_S.rf
  have hK := hE.1
  have hl := lv_entry ([.ref a_Model, .int p1]) (n := 5) (Nat.le_of_ble_eq_true rfl)
  rw [lg_entry_eq]
  generalize (lg_sl ([.ref a_Model, .int p1]) ++ List.replicate (5 - (lg_sl ([.ref a_Model, .int p1])).length) Slot.unset).toArray = ls at hl ⊢
  have hl : lv_has ls 5 [(0, .ref a_Model), (1, .int p1)] := hl
  refine w_q (fun Q9 hQ9 => ?_)
  have fl50 := hts (.fieldLink RX11 50 "StickRoomModel" "findings" "I") (by decide +kernel)
  have inX11 : ∀ w ∈ wsX110, w ∈ wsX11_all := by decide +kernel
  have fl9 := hts (.fieldLink RX11 9 "StickRoomModel" "now" "[I") (by decide +kernel)
  have kc70 := hts (.constant RX11 70 (-100001)) (by decide +kernel)
  have hL64 : ∀ (n64 : Nat) (l1 l2 l3 l4 Model_findings : Int32) (H : Heap) (locs : List Loc) (ls : Array Slot), va_P D vwCl [(a_Model, .inr (11, [.ref a_Model_now, .ref a_Model_past, .int Model_kept, .int Model_findings, .ref a_Model_bits, .ref a_Model_sizes, .ref a_Model_sheets, .ref a_Model_least, .ref a_Model_ways, .int Model_thenCost, .int Model_thenWays, .int Model_bothCost, .int Model_bothWays, .ref a_Model_handOf, .ref a_Model_crossedAt, .ref a_Model_strokeOf, .ref a_Model_prices, .ref a_Model_hitAt, .ref a_Model_carried])), (a_Model_now, .inl (cI, 187, .inl Model_now))] H → va_D A [(a_Model, .inr (11, [.ref a_Model_now, .ref a_Model_past, .int Model_kept, .int Model_findings, .ref a_Model_bits, .ref a_Model_sizes, .ref a_Model_sheets, .ref a_Model_least, .ref a_Model_ways, .int Model_thenCost, .int Model_thenWays, .int Model_bothCost, .int Model_bothWays, .ref a_Model_handOf, .ref a_Model_crossedAt, .ref a_Model_strokeOf, .ref a_Model_prices, .ref a_Model_hitAt, .ref a_Model_carried])), (a_Model_now, .inl (cI, 187, .inl Model_now))] → va_S A s.heap H locs → lv_has ls 5 [(0, .ref a_Model), (1, .int l1), (2, .int l2), (3, .int l3), (4, .int l4)] → f_Model_all_64 Model_now  n64 l1 l2 l3 l4 Model_findings = some (zr, z_Model_findings) → W p l e (headSpec wsX11_all rm_Model_all).room s m ([.ref a_Model, .int p1] : List Value).toArray below meth c H locs 0 0 Q9 (F0 m 64 ls []) := by
    intro n64
    induction n64 with
    | zero => intro l1 l2 l3 l4 Model_findings H locs ls hP hD hS hl hf; exact nomatch (show none = some (zr, z_Model_findings) from hf)
    | succ n64 ih64 =>
      intro l1 l2 l3 l4 Model_findings H locs ls hP hD hS hl hf
      have hf : f_Model_all_64_b Model_now  (f_Model_all_64 Model_now  n64) l1 l2 l3 l4 Model_findings = some (zr, z_Model_findings) := hf
      unfold f_Model_all_64_b at hf
      refine lv_iload hx hb dX11_all_64 (lv_at hl 4 rfl) ?_
      refine lv_iconst (v := 4) hx hb dX11_all_66 (by decide) ?_
      refine lv_icmp_ge (tgt := 89) hx hb dX11_all_67 (by decide) (fun c1 => ?_) (fun c1 => ?_)
      · have hf := ite_t c1 hf
        refine lv_iload_n hx hb dX11_all_89 rfl (lv_at hl 1 rfl) ?_
        refine lv_if_ne (tgt := 102) hx hb dX11_all_90 (by decide) (fun c2 => ?_) (fun c2 => ?_)
        · have hf := ite_f c2 hf
          refine lv_iload_n hx hb dX11_all_102 rfl (lv_at hl 1 rfl) ?_
          refine lv_iconst (v := 1) hx hb dX11_all_103 (by decide) ?_
          refine lv_icmp_ne (tgt := 111) hx hb dX11_all_104 (by decide) (fun c3 => ?_) (fun c3 => ?_)
          · have hf := ite_f c3 hf
            refine lv_iload_n hx hb dX11_all_111 rfl (lv_at hl 1 rfl) ?_
            refine lv_iconst (v := 2) hx hb dX11_all_112 (by decide) ?_
            refine lv_icmp_ne (tgt := 125) hx hb dX11_all_113 (by decide) (fun c4 => ?_) (fun c4 => ?_)
            · have hf := ite_f c4 hf
              refine lv_iload_n hx hb dX11_all_125 rfl (lv_at hl 1 rfl) ?_
              refine lv_iconst (v := 3) hx hb dX11_all_126 (by decide) ?_
              refine lv_icmp_ne (tgt := 134) hx hb dX11_all_127 (by decide) (fun c5 => ?_) (fun c5 => ?_)
              · have hf := ite_f c5 hf
                refine lv_aload_n hx hb dX11_all_134 rfl (lv_at hl 0 rfl) ?_
                refine va_get (D := D) (ci := 11) (v := .int Model_findings) (C := RX11) (T := TX11) (N := 19) hx hb hts inX11 hown hK hP 0 rfl rfl 3 (by decide) fl50 (fun _ h9 => h9) rfl dX11_all_135 ?_
                cases hf
                exact k_iret () hQ9 hx hb hr hlocks rfl hP hD hS (Nat.le_of_ble_eq_true rfl) (Nat.le_of_ble_eq_true rfl) dX11_all_138
              · have hf := ite_t c5 hf
                refine lv_iload_n hx hb dX11_all_130 rfl (lv_at hl 3 rfl) ?_
                refine lv_goto (tgt := 138) hx hb dX11_all_131 (by decide) ?_
                cases hf
                exact k_iret () hQ9 hx hb hr hlocks rfl hP hD hS (Nat.le_of_ble_eq_true rfl) (Nat.le_of_ble_eq_true rfl) dX11_all_138
            · have hf := ite_t c4 hf
              refine lv_aload_n hx hb dX11_all_116 rfl (lv_at hl 0 rfl) ?_
              refine va_get (D := D) (ci := 11) (v := .ref a_Model_now) (C := RX11) (T := TX11) (N := 19) hx hb hts inX11 hown hK hP 0 rfl rfl 0 (by decide) fl9 (fun _ h9 => h9) rfl dX11_all_117 ?_
              refine lv_iconst (v := 1) hx hb dX11_all_120 (by decide) ?_
              obtain ⟨ix6, x6, ex6, hf⟩ := rd_s hf
              refine va_iald hx hb hK hP 1 0 rfl rfl ix6 dX11_all_121 ?_
              refine lv_tpx ex6 ?_
              refine lv_goto (tgt := 138) hx hb dX11_all_122 (by decide) ?_
              cases hf
              exact k_iret () hQ9 hx hb hr hlocks rfl hP hD hS (Nat.le_of_ble_eq_true rfl) (Nat.le_of_ble_eq_true rfl) dX11_all_138
          · have hf := ite_t c3 hf
            refine lv_iload_n hx hb dX11_all_107 rfl (lv_at hl 2 rfl) ?_
            refine lv_goto (tgt := 138) hx hb dX11_all_108 (by decide) ?_
            cases hf
            exact k_iret () hQ9 hx hb hr hlocks rfl hP hD hS (Nat.le_of_ble_eq_true rfl) (Nat.le_of_ble_eq_true rfl) dX11_all_138
        · have hf := ite_t c2 hf
          refine lv_aload_n hx hb dX11_all_93 rfl (lv_at hl 0 rfl) ?_
          refine va_get (D := D) (ci := 11) (v := .ref a_Model_now) (C := RX11) (T := TX11) (N := 19) hx hb hts inX11 hown hK hP 0 rfl rfl 0 (by decide) fl9 (fun _ h9 => h9) rfl dX11_all_94 ?_
          refine lv_iconst (v := 0) hx hb dX11_all_97 (by decide) ?_
          obtain ⟨ix7, x7, ex7, hf⟩ := rd_s hf
          refine va_iald hx hb hK hP 1 0 rfl rfl ix7 dX11_all_98 ?_
          refine lv_tpx ex7 ?_
          refine lv_goto (tgt := 138) hx hb dX11_all_99 (by decide) ?_
          cases hf
          exact k_iret () hQ9 hx hb hr hlocks rfl hP hD hS (Nat.le_of_ble_eq_true rfl) (Nat.le_of_ble_eq_true rfl) dX11_all_138
      · have hf := ite_f c1 hf
        refine lv_iload_n hx hb dX11_all_70 rfl (lv_at hl 3 rfl) ?_
        refine lv_aload_n hx hb dX11_all_71 rfl (lv_at hl 0 rfl) ?_
        refine va_get (D := D) (ci := 11) (v := .ref a_Model_now) (C := RX11) (T := TX11) (N := 19) hx hb hts inX11 hown hK hP 0 rfl rfl 0 (by decide) fl9 (fun _ h9 => h9) rfl dX11_all_72 ?_
        refine lv_bipush (v := 87) hx hb dX11_all_75 (by decide) ?_
        refine lv_iload hx hb dX11_all_77 (lv_at hl 4 rfl) ?_
        refine lv_iadd hx hb dX11_all_79 ?_
        obtain ⟨ix8, x8, ex8, hf⟩ := rd_s hf
        refine va_iald hx hb hK hP 1 0 rfl rfl ix8 dX11_all_80 ?_
        refine lv_tpx ex8 ?_
        refine lv_iadd hx hb dX11_all_81 ?_
        obtain ⟨x9, ex9, hf⟩ := nm_s hf
        refine lv_tpx ex9 ?_
        refine lv_istore_n (lv' := [(3, .int x9), (0, .ref a_Model), (1, .int l1), (2, .int l2), (4, .int l4)]) hx hb dX11_all_82 rfl hl (by decide) rfl (fun ls hl => ?_)
        obtain ⟨x10, ex10, hf⟩ := nm_s hf
        refine lv_iinc (v := x10) (lv' := [(4, .int x10), (3, .int x9), (0, .ref a_Model), (1, .int l1), (2, .int l2)]) hx hb dX11_all_83 hl (k := 4) rfl (by rw [ex10]; rfl) (by decide) rfl (fun ls hl => ?_)
        refine lv_goto (tgt := 64) hx hb dX11_all_86 (by decide) ?_
        exact ih64 l1 l2 x9 x10 Model_findings H locs ls hP hD hS (lv_sub hl [2, 3, 4, 1, 0] rfl) hf
  have hL23 : ∀ (n23 : Nat) (l1 l2 l3 l4 Model_findings : Int32) (H : Heap) (locs : List Loc) (ls : Array Slot), va_P D vwCl [(a_Model, .inr (11, [.ref a_Model_now, .ref a_Model_past, .int Model_kept, .int Model_findings, .ref a_Model_bits, .ref a_Model_sizes, .ref a_Model_sheets, .ref a_Model_least, .ref a_Model_ways, .int Model_thenCost, .int Model_thenWays, .int Model_bothCost, .int Model_bothWays, .ref a_Model_handOf, .ref a_Model_crossedAt, .ref a_Model_strokeOf, .ref a_Model_prices, .ref a_Model_hitAt, .ref a_Model_carried])), (a_Model_now, .inl (cI, 187, .inl Model_now))] H → va_D A [(a_Model, .inr (11, [.ref a_Model_now, .ref a_Model_past, .int Model_kept, .int Model_findings, .ref a_Model_bits, .ref a_Model_sizes, .ref a_Model_sheets, .ref a_Model_least, .ref a_Model_ways, .int Model_thenCost, .int Model_thenWays, .int Model_bothCost, .int Model_bothWays, .ref a_Model_handOf, .ref a_Model_crossedAt, .ref a_Model_strokeOf, .ref a_Model_prices, .ref a_Model_hitAt, .ref a_Model_carried])), (a_Model_now, .inl (cI, 187, .inl Model_now))] → va_S A s.heap H locs → lv_has ls 5 [(0, .ref a_Model), (1, .int l1), (2, .int l2), (3, .int l3), (4, .int l4)] → f_Model_all_23 Model_now  n23 l1 l2 l3 l4 Model_findings = some (zr, z_Model_findings) → W p l e (headSpec wsX11_all rm_Model_all).room s m ([.ref a_Model, .int p1] : List Value).toArray below meth c H locs 0 0 Q9 (F0 m 23 ls []) := by
    intro n23
    induction n23 with
    | zero => intro l1 l2 l3 l4 Model_findings H locs ls hP hD hS hl hf; exact nomatch (show none = some (zr, z_Model_findings) from hf)
    | succ n23 ih23 =>
      intro l1 l2 l3 l4 Model_findings H locs ls hP hD hS hl hf
      have hf : f_Model_all_23_b Model_now  (f_Model_all_23 Model_now  n23) l1 l2 l3 l4 Model_findings = some (zr, z_Model_findings) := hf
      unfold f_Model_all_23_b at hf
      refine lv_iload hx hb dX11_all_23 (lv_at hl 4 rfl) ?_
      refine lv_aload_n hx hb dX11_all_25 rfl (lv_at hl 0 rfl) ?_
      refine va_get (D := D) (ci := 11) (v := .ref a_Model_now) (C := RX11) (T := TX11) (N := 19) hx hb hts inX11 hown hK hP 0 rfl rfl 0 (by decide) fl9 (fun _ h9 => h9) rfl dX11_all_26 ?_
      refine lv_iconst (v := 0) hx hb dX11_all_29 (by decide) ?_
      obtain ⟨ix11, x11, ex11, hf⟩ := rd_s hf
      refine va_iald hx hb hK hP 1 0 rfl rfl ix11 dX11_all_30 ?_
      refine lv_tpx ex11 ?_
      refine lv_icmp_ge (tgt := 61) hx hb dX11_all_31 (by decide) (fun c12 => ?_) (fun c12 => ?_)
      · have hf := ite_t c12 hf
        refine lv_iconst (v := 0) hx hb dX11_all_61 (by decide) ?_
        refine lv_istore (lv' := [(4, .int 0), (0, .ref a_Model), (1, .int l1), (2, .int l2), (3, .int l3)]) hx hb dX11_all_62 hl (by decide) rfl (fun ls hl => ?_)
        exact hL64 fu l1 l2 l3 0 Model_findings H locs ls hP hD hS (lv_sub hl [1, 2, 3, 4, 0] rfl) hf
      · have hf := ite_f c12 hf
        refine lv_iload_n hx hb dX11_all_34 rfl (lv_at hl 2 rfl) ?_
        refine lv_aload_n hx hb dX11_all_35 rfl (lv_at hl 0 rfl) ?_
        refine va_get (D := D) (ci := 11) (v := .ref a_Model_now) (C := RX11) (T := TX11) (N := 19) hx hb hts inX11 hown hK hP 0 rfl rfl 0 (by decide) fl9 (fun _ h9 => h9) rfl dX11_all_36 ?_
        refine lv_bipush (v := 67) hx hb dX11_all_39 (by decide) ?_
        refine lv_iload hx hb dX11_all_41 (lv_at hl 4 rfl) ?_
        refine lv_iadd hx hb dX11_all_43 ?_
        obtain ⟨ix13, x13, ex13, hf⟩ := rd_s hf
        refine va_iald hx hb hK hP 1 0 rfl rfl ix13 dX11_all_44 ?_
        refine lv_tpx ex13 ?_
        refine lv_if_lt (tgt := 52) hx hb dX11_all_45 (by decide) (fun c14 => ?_) (fun c14 => ?_)
        · have hf := ite_t c14 hf
          refine lv_iconst (v := 0) hx hb dX11_all_52 (by decide) ?_
          refine lv_iadd hx hb dX11_all_53 ?_
          obtain ⟨x15, ex15, hf⟩ := nm_s hf
          refine lv_tpx ex15 ?_
          refine lv_istore_n (lv' := [(2, .int x15), (0, .ref a_Model), (1, .int l1), (3, .int l3), (4, .int l4)]) hx hb dX11_all_54 rfl hl (by decide) rfl (fun ls hl => ?_)
          obtain ⟨x16, ex16, hf⟩ := nm_s hf
          refine lv_iinc (v := x16) (lv' := [(4, .int x16), (2, .int x15), (0, .ref a_Model), (1, .int l1), (3, .int l3)]) hx hb dX11_all_55 hl (k := 4) rfl (by rw [ex16]; rfl) (by decide) rfl (fun ls hl => ?_)
          refine lv_goto (tgt := 23) hx hb dX11_all_58 (by decide) ?_
          exact ih23 l1 x15 l3 x16 Model_findings H locs ls hP hD hS (lv_sub hl [2, 3, 1, 4, 0] rfl) hf
        · have hf := ite_f c14 hf
          refine lv_iconst (v := 1) hx hb dX11_all_48 (by decide) ?_
          refine lv_goto (tgt := 53) hx hb dX11_all_49 (by decide) ?_
          refine lv_iadd hx hb dX11_all_53 ?_
          obtain ⟨x17, ex17, hf⟩ := nm_s hf
          refine lv_tpx ex17 ?_
          refine lv_istore_n (lv' := [(2, .int x17), (0, .ref a_Model), (1, .int l1), (3, .int l3), (4, .int l4)]) hx hb dX11_all_54 rfl hl (by decide) rfl (fun ls hl => ?_)
          obtain ⟨x18, ex18, hf⟩ := nm_s hf
          refine lv_iinc (v := x18) (lv' := [(4, .int x18), (2, .int x17), (0, .ref a_Model), (1, .int l1), (3, .int l3)]) hx hb dX11_all_55 hl (k := 4) rfl (by rw [ex18]; rfl) (by decide) rfl (fun ls hl => ?_)
          refine lv_goto (tgt := 23) hx hb dX11_all_58 (by decide) ?_
          exact ih23 l1 x17 l3 x18 Model_findings H locs ls hP hD hS (lv_sub hl [2, 3, 1, 4, 0] rfl) hf
  unfold f_Model_all at hf
  refine lv_iload_n hx hb dX11_all_0 rfl (lv_at hl 1 rfl) ?_
  refine lv_iconst (v := 0) hx hb dX11_all_1 (by decide) ?_
  refine lv_iconst (v := 4) hx hb dX11_all_2 (by decide) ?_
  obtain ⟨r19, g20, hf⟩ := b1_s hf
  refine k_Si (rest := []) ⟨hx, hb, hml, hown, hts⟩ (c_Model_within l D cI cZ t  s.heap.size p1 0 4 r19 g20) (va_cwS 3 hts gX11_all_X11_within rfl rfl rfl (by decide +kernel) ⟨Nat.le_of_ble_eq_true rfl, Nat.le_of_ble_eq_true rfl⟩) hE hP hD hS hA [] [0, 1] rfl rfl rfl rfl rfl rfl hl.1 rfl (Nat.le_of_ble_eq_true rfl) dX11_all_3 ⟨Nat.le_of_ble_eq_true rfl, Nat.le_of_ble_eq_true rfl⟩ (fun rq uq H locs hrq hP hD hS => ?_)
  refine lv_tpx hrq.symm ?_
  have hP : va_P D vwCl [(a_Model, .inr (11, [.ref a_Model_now, .ref a_Model_past, .int Model_kept, .int Model_findings, .ref a_Model_bits, .ref a_Model_sizes, .ref a_Model_sheets, .ref a_Model_least, .ref a_Model_ways, .int Model_thenCost, .int Model_thenWays, .int Model_bothCost, .int Model_bothWays, .ref a_Model_handOf, .ref a_Model_crossedAt, .ref a_Model_strokeOf, .ref a_Model_prices, .ref a_Model_hitAt, .ref a_Model_carried])), (a_Model_now, .inl (cI, 187, .inl Model_now))] H := hP
  have hD : va_D A [(a_Model, .inr (11, [.ref a_Model_now, .ref a_Model_past, .int Model_kept, .int Model_findings, .ref a_Model_bits, .ref a_Model_sizes, .ref a_Model_sheets, .ref a_Model_least, .ref a_Model_ways, .int Model_thenCost, .int Model_thenWays, .int Model_bothCost, .int Model_bothWays, .ref a_Model_handOf, .ref a_Model_crossedAt, .ref a_Model_strokeOf, .ref a_Model_prices, .ref a_Model_hitAt, .ref a_Model_carried])), (a_Model_now, .inl (cI, 187, .inl Model_now))] := hD
  refine lv_if_ne (tgt := 16) hx hb dX11_all_6 (by decide) (fun c21 => ?_) (fun c21 => ?_)
  · have hf := ite_f c21 hf
    refine lv_iconst (v := 0) hx hb dX11_all_16 (by decide) ?_
    refine lv_istore_n (lv' := [(2, .int 0), (0, .ref a_Model), (1, .int p1)]) hx hb dX11_all_17 rfl hl (by decide) rfl (fun ls hl => ?_)
    refine lv_iconst (v := 0) hx hb dX11_all_18 (by decide) ?_
    refine lv_istore_n (lv' := [(3, .int 0), (2, .int 0), (0, .ref a_Model), (1, .int p1)]) hx hb dX11_all_19 rfl hl (by decide) rfl (fun ls hl => ?_)
    refine lv_iconst (v := 0) hx hb dX11_all_20 (by decide) ?_
    refine lv_istore (lv' := [(4, .int 0), (3, .int 0), (2, .int 0), (0, .ref a_Model), (1, .int p1)]) hx hb dX11_all_21 hl (by decide) rfl (fun ls hl => ?_)
    exact hL23 fu p1 0 0 0 Model_findings H locs ls hP hD hS (lv_sub hl [3, 4, 2, 1, 0] rfl) hf
  · have hf := ite_t c21 hf
    refine lv_aload_n hx hb dX11_all_9 rfl (lv_at hl 0 rfl) ?_
    refine lv_ldc (v := (-100001)) hx hb hown kc70 dX11_all_10 ?_
    obtain ⟨r22, y23, g24, hf⟩ := b2_s hf
    refine k_Vi (rest := []) ⟨hx, hb, hml, hown, hts⟩ (c_Model_finding l D cI cZ t a_Model a_Model_now a_Model_past a_Model_bits a_Model_sizes a_Model_sheets a_Model_least a_Model_ways a_Model_handOf a_Model_crossedAt a_Model_strokeOf a_Model_prices a_Model_hitAt a_Model_carried H.size Model_findings Model_kept Model_thenCost Model_thenWays Model_bothCost Model_bothWays (-100001) r22 y23 g24) (cwV 1 hts gX11_all_X11_finding rfl rfl rfl (by decide +kernel) ⟨Nat.le_of_ble_eq_true rfl, Nat.le_of_ble_eq_true rfl⟩) hE hP hD hS hA [0] [1] rfl rfl rfl rfl rfl 0 11 rfl rfl rfl rfl hl.1 rfl (Nat.le_of_ble_eq_true rfl) dX11_all_12 ⟨Nat.le_of_ble_eq_true rfl, Nat.le_of_ble_eq_true rfl⟩ (fun rq uq H locs hrq hP hD hS => ?_)
    refine lv_tpx hrq.symm ?_
    have hP : va_P D vwCl [(a_Model_now, .inl (cI, 187, .inl Model_now)), (a_Model, .inr (11, [.ref a_Model_now, .ref a_Model_past, .int Model_kept, .int y23, .ref a_Model_bits, .ref a_Model_sizes, .ref a_Model_sheets, .ref a_Model_least, .ref a_Model_ways, .int Model_thenCost, .int Model_thenWays, .int Model_bothCost, .int Model_bothWays, .ref a_Model_handOf, .ref a_Model_crossedAt, .ref a_Model_strokeOf, .ref a_Model_prices, .ref a_Model_hitAt, .ref a_Model_carried]))] H := hP
    have hD : va_D A [(a_Model_now, .inl (cI, 187, .inl Model_now)), (a_Model, .inr (11, [.ref a_Model_now, .ref a_Model_past, .int Model_kept, .int y23, .ref a_Model_bits, .ref a_Model_sizes, .ref a_Model_sheets, .ref a_Model_least, .ref a_Model_ways, .int Model_thenCost, .int Model_thenWays, .int Model_bothCost, .int Model_bothWays, .ref a_Model_handOf, .ref a_Model_crossedAt, .ref a_Model_strokeOf, .ref a_Model_prices, .ref a_Model_hitAt, .ref a_Model_carried]))] := hD
    cases hf
    exact k_iret () hQ9 hx hb hr hlocks rfl (hP.sub [1, 0] rfl) (hD.sub [1, 0] (by decide) rfl) hS (Nat.le_of_ble_eq_true rfl) (Nat.le_of_ble_eq_true rfl) dX11_all_15
abbrev rm_Model_hit : Room := { frames := 2, cells := 0, slots := 0, locals := 42 }
set_option maxHeartbeats 4000000 in
set_option maxRecDepth 100000 in
theorem c_Model_hit (l : Launch) (D : va_G) (cI cZ : ClassId) (t : Nat → Nat) (a_Model a_Model_now a_Model_past a_Model_bits a_Model_sizes a_Model_sheets a_Model_least a_Model_ways a_Model_handOf a_Model_crossedAt a_Model_strokeOf a_Model_prices a_Model_hitAt a_Model_carried sz : Nat) (Model_now Model_past : Nat → Int32) (Model_kept Model_findings Model_thenCost Model_thenWays Model_bothCost Model_bothWays p1 p2 zr : Int32) (z_Model_now z_Model_past : Nat → Int32) (z_Model_kept z_Model_findings : Int32) (hf : f_Model_hit Model_now Model_past Model_kept Model_findings p1 p2 = some (zr, z_Model_now, z_Model_past, z_Model_kept, z_Model_findings)) : Met l yX11_hit wsX11_hit rm_Model_hit (va_Pc [.ref a_Model, .int p1, .int p2] (pcW D cI cZ t [(a_Model, .inr (11, [.ref a_Model_now, .ref a_Model_past, .int Model_kept, .int Model_findings, .ref a_Model_bits, .ref a_Model_sizes, .ref a_Model_sheets, .ref a_Model_least, .ref a_Model_ways, .int Model_thenCost, .int Model_thenWays, .int Model_bothCost, .int Model_bothWays, .ref a_Model_handOf, .ref a_Model_crossedAt, .ref a_Model_strokeOf, .ref a_Model_prices, .ref a_Model_hitAt, .ref a_Model_carried])), (a_Model_now, .inl (cI, 187, .inl Model_now)), (a_Model_past, .inl (cI, 3740, .inl Model_past))] sz)) (va_Qi (fun r (u : Unit) => r = zr) (fun u t' => bW D (va_A [(a_Model, .inr (11, [.ref a_Model_now, .ref a_Model_past, .int Model_kept, .int Model_findings, .ref a_Model_bits, .ref a_Model_sizes, .ref a_Model_sheets, .ref a_Model_least, .ref a_Model_ways, .int Model_thenCost, .int Model_thenWays, .int Model_bothCost, .int Model_bothWays, .ref a_Model_handOf, .ref a_Model_crossedAt, .ref a_Model_strokeOf, .ref a_Model_prices, .ref a_Model_hitAt, .ref a_Model_carried])), (a_Model_now, .inl (cI, 187, .inl Model_now)), (a_Model_past, .inl (cI, 3740, .inl Model_past))] sz) [(a_Model, .inr (11, [.ref a_Model_now, .ref a_Model_past, .int z_Model_kept, .int z_Model_findings, .ref a_Model_bits, .ref a_Model_sizes, .ref a_Model_sheets, .ref a_Model_least, .ref a_Model_ways, .int Model_thenCost, .int Model_thenWays, .int Model_bothCost, .int Model_bothWays, .ref a_Model_handOf, .ref a_Model_crossedAt, .ref a_Model_strokeOf, .ref a_Model_prices, .ref a_Model_hitAt, .ref a_Model_carried])), (a_Model_now, .inl (cI, 187, .inl z_Model_now)), (a_Model_past, .inl (cI, 3740, .inl z_Model_past))] t') (va_A [(a_Model, .inr (11, [.ref a_Model_now, .ref a_Model_past, .int Model_kept, .int Model_findings, .ref a_Model_bits, .ref a_Model_sizes, .ref a_Model_sheets, .ref a_Model_least, .ref a_Model_ways, .int Model_thenCost, .int Model_thenWays, .int Model_bothCost, .int Model_bothWays, .ref a_Model_handOf, .ref a_Model_crossedAt, .ref a_Model_strokeOf, .ref a_Model_prices, .ref a_Model_hitAt, .ref a_Model_carried])), (a_Model_now, .inl (cI, 187, .inl Model_now)), (a_Model_past, .inl (cI, 3740, .inl Model_past))] sz)) 0 0 (va_A [(a_Model, .inr (11, [.ref a_Model_now, .ref a_Model_past, .int Model_kept, .int Model_findings, .ref a_Model_bits, .ref a_Model_sizes, .ref a_Model_sheets, .ref a_Model_least, .ref a_Model_ways, .int Model_thenCost, .int Model_thenWays, .int Model_bothCost, .int Model_bothWays, .ref a_Model_handOf, .ref a_Model_crossedAt, .ref a_Model_strokeOf, .ref a_Model_prices, .ref a_Model_hitAt, .ref a_Model_carried])), (a_Model_now, .inl (cI, 187, .inl Model_now)), (a_Model_past, .inl (cI, 3740, .inl Model_past))] sz) := by
  refine Met.ofW (cc := cX11_hit) (maxL := 4) (ret := (some .int)) (by decide) rfl ?_
  intro p e s m args below meth c s₁ B hml hv
  obtain ⟨rfl, hsz, hP, hD0, hE⟩ := hv
  have hx := B.exec
  have hb := B.bytes
  have hr := B.returns
  have hts := atoms_spec (ws := wsX11_hit) B.pre
  have hown : s.vm.findClass RX11 = some m.cls := findClass_of_methodNamed B.named
  have hlocks := B.notSynchronized
  subst hsz
  have hD := hD0.self (sz := s.heap.size)
  generalize hAe : va_A [(a_Model, .inr (11, [.ref a_Model_now, .ref a_Model_past, .int Model_kept, .int Model_findings, .ref a_Model_bits, .ref a_Model_sizes, .ref a_Model_sheets, .ref a_Model_least, .ref a_Model_ways, .int Model_thenCost, .int Model_thenWays, .int Model_bothCost, .int Model_bothWays, .ref a_Model_handOf, .ref a_Model_crossedAt, .ref a_Model_strokeOf, .ref a_Model_prices, .ref a_Model_hitAt, .ref a_Model_carried])), (a_Model_now, .inl (cI, 187, .inl Model_now)), (a_Model_past, .inl (cI, 3740, .inl Model_past))] s.heap.size = A at hD hE ⊢
  have hA : ∀ q : Nat, s.heap.size ≤ q → A q := fun q h => by rw [← hAe]; exact Or.inr h
  clear hAe hD0
  have hS : va_S A s.heap s.heap [] := va_S.rf
  have hK := hE.1
  have hl := lv_entry ([.ref a_Model, .int p1, .int p2]) (n := 4) (Nat.le_of_ble_eq_true rfl)
  rw [lg_entry_eq]
  generalize (lg_sl ([.ref a_Model, .int p1, .int p2]) ++ List.replicate (4 - (lg_sl ([.ref a_Model, .int p1, .int p2])).length) Slot.unset).toArray = ls at hl ⊢
  have hl : lv_has ls 4 [(0, .ref a_Model), (1, .int p1), (2, .int p2)] := hl
  refine w_q (fun Q9 hQ9 => ?_)
  have fl9 := hts (.fieldLink RX11 9 "StickRoomModel" "now" "[I") (by decide +kernel)
  have inX11 : ∀ w ∈ wsX110, w ∈ wsX11_hit := by decide +kernel
  have kc72 := hts (.constant RX11 72 (-100005)) (by decide +kernel)
  have kc70 := hts (.constant RX11 70 (-100001)) (by decide +kernel)
  have kc71 := hts (.constant RX11 71 (-100003)) (by decide +kernel)
  have hJ54 : ∀ (l1 l2 l3 : Int32) (Model_now Model_past : Nat → Int32) (Model_kept Model_findings : Int32) (H : Heap) (locs : List Loc) (ls : Array Slot), va_P D vwCl [(a_Model, .inr (11, [.ref a_Model_now, .ref a_Model_past, .int Model_kept, .int Model_findings, .ref a_Model_bits, .ref a_Model_sizes, .ref a_Model_sheets, .ref a_Model_least, .ref a_Model_ways, .int Model_thenCost, .int Model_thenWays, .int Model_bothCost, .int Model_bothWays, .ref a_Model_handOf, .ref a_Model_crossedAt, .ref a_Model_strokeOf, .ref a_Model_prices, .ref a_Model_hitAt, .ref a_Model_carried])), (a_Model_now, .inl (cI, 187, .inl Model_now)), (a_Model_past, .inl (cI, 3740, .inl Model_past))] H → va_D A [(a_Model, .inr (11, [.ref a_Model_now, .ref a_Model_past, .int Model_kept, .int Model_findings, .ref a_Model_bits, .ref a_Model_sizes, .ref a_Model_sheets, .ref a_Model_least, .ref a_Model_ways, .int Model_thenCost, .int Model_thenWays, .int Model_bothCost, .int Model_bothWays, .ref a_Model_handOf, .ref a_Model_crossedAt, .ref a_Model_strokeOf, .ref a_Model_prices, .ref a_Model_hitAt, .ref a_Model_carried])), (a_Model_now, .inl (cI, 187, .inl Model_now)), (a_Model_past, .inl (cI, 3740, .inl Model_past))] → va_S A s.heap H locs → lv_has ls 4 [(0, .ref a_Model), (1, .int l1), (2, .int l2), (3, .int l3)] → f_Model_hit_54 l1 l2 l3 Model_now Model_past Model_kept Model_findings = some (zr, z_Model_now, z_Model_past, z_Model_kept, z_Model_findings) → W p l e (headSpec wsX11_hit rm_Model_hit).room s m ([.ref a_Model, .int p1, .int p2] : List Value).toArray below meth c H locs 0 0 Q9 (F0 m 54 ls []) := by
    intro l1 l2 l3 Model_now Model_past Model_kept Model_findings H locs ls hP hD hS hl hf
    unfold f_Model_hit_54 at hf
    refine lv_iload_n hx hb dX11_hit_54 rfl (lv_at hl 3 rfl) ?_
    refine lv_bipush (v := 24) hx hb dX11_hit_55 (by decide) ?_
    refine lv_icmp_ne (tgt := 67) hx hb dX11_hit_57 (by decide) (fun c1 => ?_) (fun c1 => ?_)
    · have hf := ite_f c1 hf
      refine lv_aload_n hx hb dX11_hit_67 rfl (lv_at hl 0 rfl) ?_
      obtain ⟨y2, y3, g4, hf⟩ := b2_s hf
      refine k_Vv (rest := []) ⟨hx, hb, hml, hown, hts⟩ (c_Model_keep l D cI cZ t a_Model a_Model_now a_Model_past a_Model_bits a_Model_sizes a_Model_sheets a_Model_least a_Model_ways a_Model_handOf a_Model_crossedAt a_Model_strokeOf a_Model_prices a_Model_hitAt a_Model_carried H.size Model_now Model_past Model_kept Model_findings Model_thenCost Model_thenWays Model_bothCost Model_bothWays y2 y3 g4) (cwV 0 hts gX11_hit_X11_keep rfl rfl rfl (by decide +kernel) ⟨Nat.le_of_ble_eq_true rfl, Nat.le_of_ble_eq_true rfl⟩) hE hP hD hS hA [0, 1, 2] [] rfl rfl rfl rfl rfl 0 11 rfl rfl rfl rfl hl.1 rfl (Nat.le_of_ble_eq_true rfl) dX11_hit_68 ⟨Nat.le_of_ble_eq_true rfl, Nat.le_of_ble_eq_true rfl⟩ (fun uq H locs hrq hP hD hS => ?_)
      have hP : va_P D vwCl [(a_Model, .inr (11, [.ref a_Model_now, .ref a_Model_past, .int y3, .int Model_findings, .ref a_Model_bits, .ref a_Model_sizes, .ref a_Model_sheets, .ref a_Model_least, .ref a_Model_ways, .int Model_thenCost, .int Model_thenWays, .int Model_bothCost, .int Model_bothWays, .ref a_Model_handOf, .ref a_Model_crossedAt, .ref a_Model_strokeOf, .ref a_Model_prices, .ref a_Model_hitAt, .ref a_Model_carried])), (a_Model_now, .inl (cI, 187, .inl Model_now)), (a_Model_past, .inl (cI, 3740, .inl y2))] H := hP
      have hD : va_D A [(a_Model, .inr (11, [.ref a_Model_now, .ref a_Model_past, .int y3, .int Model_findings, .ref a_Model_bits, .ref a_Model_sizes, .ref a_Model_sheets, .ref a_Model_least, .ref a_Model_ways, .int Model_thenCost, .int Model_thenWays, .int Model_bothCost, .int Model_bothWays, .ref a_Model_handOf, .ref a_Model_crossedAt, .ref a_Model_strokeOf, .ref a_Model_prices, .ref a_Model_hitAt, .ref a_Model_carried])), (a_Model_now, .inl (cI, 187, .inl Model_now)), (a_Model_past, .inl (cI, 3740, .inl y2))] := hD
      refine lv_aload_n hx hb dX11_hit_71 rfl (lv_at hl 0 rfl) ?_
      refine va_get (D := D) (ci := 11) (v := .ref a_Model_now) (C := RX11) (T := TX11) (N := 19) hx hb hts inX11 hown hK hP 0 rfl rfl 0 (by decide) fl9 (fun _ h9 => h9) rfl dX11_hit_72 ?_
      refine lv_bipush (v := 91) hx hb dX11_hit_75 (by decide) ?_
      refine lv_bipush (v := 24) hx hb dX11_hit_77 (by decide) ?_
      refine lv_iload_n hx hb dX11_hit_79 rfl (lv_at hl 1 rfl) ?_
      refine lv_imul hx hb dX11_hit_80 ?_
      refine lv_iadd hx hb dX11_hit_81 ?_
      refine lv_iload_n hx hb dX11_hit_82 rfl (lv_at hl 3 rfl) ?_
      refine lv_iadd hx hb dX11_hit_83 ?_
      refine lv_iload_n hx hb dX11_hit_84 rfl (lv_at hl 2 rfl) ?_
      obtain ⟨i5, hf⟩ := ck_s hf
      refine va_iast hx hb hK hP hD hS 1 0 rfl rfl i5 dX11_hit_85 (fun H locs hP hD hS => ?_)
      have hP : va_P D vwCl [(a_Model, .inr (11, [.ref a_Model_now, .ref a_Model_past, .int y3, .int Model_findings, .ref a_Model_bits, .ref a_Model_sizes, .ref a_Model_sheets, .ref a_Model_least, .ref a_Model_ways, .int Model_thenCost, .int Model_thenWays, .int Model_bothCost, .int Model_bothWays, .ref a_Model_handOf, .ref a_Model_crossedAt, .ref a_Model_strokeOf, .ref a_Model_prices, .ref a_Model_hitAt, .ref a_Model_carried])), (a_Model_now, .inl (cI, 187, .inl (upd Model_now ((91 + (24 * l1)) + l3).toNatClampNeg l2))), (a_Model_past, .inl (cI, 3740, .inl y2))] H := hP
      have hD : va_D A [(a_Model, .inr (11, [.ref a_Model_now, .ref a_Model_past, .int y3, .int Model_findings, .ref a_Model_bits, .ref a_Model_sizes, .ref a_Model_sheets, .ref a_Model_least, .ref a_Model_ways, .int Model_thenCost, .int Model_thenWays, .int Model_bothCost, .int Model_bothWays, .ref a_Model_handOf, .ref a_Model_crossedAt, .ref a_Model_strokeOf, .ref a_Model_prices, .ref a_Model_hitAt, .ref a_Model_carried])), (a_Model_now, .inl (cI, 187, .inl (upd Model_now ((91 + (24 * l1)) + l3).toNatClampNeg l2))), (a_Model_past, .inl (cI, 3740, .inl y2))] := hD
      refine lv_aload_n hx hb dX11_hit_86 rfl (lv_at hl 0 rfl) ?_
      refine va_get (D := D) (ci := 11) (v := .ref a_Model_now) (C := RX11) (T := TX11) (N := 19) hx hb hts inX11 hown hK hP 0 rfl rfl 0 (by decide) fl9 (fun _ h9 => h9) rfl dX11_hit_87 ?_
      refine lv_bipush (v := 87) hx hb dX11_hit_90 (by decide) ?_
      refine lv_iload_n hx hb dX11_hit_92 rfl (lv_at hl 1 rfl) ?_
      refine lv_iadd hx hb dX11_hit_93 ?_
      refine lv_dup2_11 hx hb dX11_hit_94 rfl rfl ?_
      obtain ⟨ix6, x6, ex6, hf⟩ := rd_s hf
      refine va_iald hx hb hK hP 1 0 rfl rfl ix6 dX11_hit_95 ?_
      refine lv_tpx ex6 ?_
      refine lv_iconst (v := 1) hx hb dX11_hit_96 (by decide) ?_
      refine lv_iadd hx hb dX11_hit_97 ?_
      obtain ⟨x7, ex7, hf⟩ := nm_s hf
      refine lv_tpx ex7 ?_
      obtain ⟨i8, hf⟩ := ck_s hf
      refine va_iast hx hb hK hP hD hS 1 0 rfl rfl i8 dX11_hit_98 (fun H locs hP hD hS => ?_)
      have hP : va_P D vwCl [(a_Model, .inr (11, [.ref a_Model_now, .ref a_Model_past, .int y3, .int Model_findings, .ref a_Model_bits, .ref a_Model_sizes, .ref a_Model_sheets, .ref a_Model_least, .ref a_Model_ways, .int Model_thenCost, .int Model_thenWays, .int Model_bothCost, .int Model_bothWays, .ref a_Model_handOf, .ref a_Model_crossedAt, .ref a_Model_strokeOf, .ref a_Model_prices, .ref a_Model_hitAt, .ref a_Model_carried])), (a_Model_now, .inl (cI, 187, .inl (upd (upd Model_now ((91 + (24 * l1)) + l3).toNatClampNeg l2) (87 + l1).toNatClampNeg x7))), (a_Model_past, .inl (cI, 3740, .inl y2))] H := hP
      have hD : va_D A [(a_Model, .inr (11, [.ref a_Model_now, .ref a_Model_past, .int y3, .int Model_findings, .ref a_Model_bits, .ref a_Model_sizes, .ref a_Model_sheets, .ref a_Model_least, .ref a_Model_ways, .int Model_thenCost, .int Model_thenWays, .int Model_bothCost, .int Model_bothWays, .ref a_Model_handOf, .ref a_Model_crossedAt, .ref a_Model_strokeOf, .ref a_Model_prices, .ref a_Model_hitAt, .ref a_Model_carried])), (a_Model_now, .inl (cI, 187, .inl (upd (upd Model_now ((91 + (24 * l1)) + l3).toNatClampNeg l2) (87 + l1).toNatClampNeg x7))), (a_Model_past, .inl (cI, 3740, .inl y2))] := hD
      refine lv_iload_n hx hb dX11_hit_99 rfl (lv_at hl 3 rfl) ?_
      refine lv_iconst (v := 1) hx hb dX11_hit_100 (by decide) ?_
      refine lv_iadd hx hb dX11_hit_101 ?_
      cases hf
      exact k_iret () hQ9 hx hb hr hlocks rfl hP hD hS (Nat.le_of_ble_eq_true rfl) (Nat.le_of_ble_eq_true rfl) dX11_hit_102
    · have hf := ite_t c1 hf
      refine lv_aload_n hx hb dX11_hit_60 rfl (lv_at hl 0 rfl) ?_
      refine lv_ldc (v := (-100005)) hx hb hown kc72 dX11_hit_61 ?_
      obtain ⟨r9, y10, g11, hf⟩ := b2_s hf
      refine k_Vi (rest := []) ⟨hx, hb, hml, hown, hts⟩ (c_Model_finding l D cI cZ t a_Model a_Model_now a_Model_past a_Model_bits a_Model_sizes a_Model_sheets a_Model_least a_Model_ways a_Model_handOf a_Model_crossedAt a_Model_strokeOf a_Model_prices a_Model_hitAt a_Model_carried H.size Model_findings Model_kept Model_thenCost Model_thenWays Model_bothCost Model_bothWays (-100005) r9 y10 g11) (cwV 1 hts gX11_hit_X11_finding rfl rfl rfl (by decide +kernel) ⟨Nat.le_of_ble_eq_true rfl, Nat.le_of_ble_eq_true rfl⟩) hE hP hD hS hA [0] [1, 2] rfl rfl rfl rfl rfl 0 11 rfl rfl rfl rfl hl.1 rfl (Nat.le_of_ble_eq_true rfl) dX11_hit_63 ⟨Nat.le_of_ble_eq_true rfl, Nat.le_of_ble_eq_true rfl⟩ (fun rq uq H locs hrq hP hD hS => ?_)
      refine lv_tpx hrq.symm ?_
      have hP : va_P D vwCl [(a_Model_now, .inl (cI, 187, .inl Model_now)), (a_Model_past, .inl (cI, 3740, .inl Model_past)), (a_Model, .inr (11, [.ref a_Model_now, .ref a_Model_past, .int Model_kept, .int y10, .ref a_Model_bits, .ref a_Model_sizes, .ref a_Model_sheets, .ref a_Model_least, .ref a_Model_ways, .int Model_thenCost, .int Model_thenWays, .int Model_bothCost, .int Model_bothWays, .ref a_Model_handOf, .ref a_Model_crossedAt, .ref a_Model_strokeOf, .ref a_Model_prices, .ref a_Model_hitAt, .ref a_Model_carried]))] H := hP
      have hD : va_D A [(a_Model_now, .inl (cI, 187, .inl Model_now)), (a_Model_past, .inl (cI, 3740, .inl Model_past)), (a_Model, .inr (11, [.ref a_Model_now, .ref a_Model_past, .int Model_kept, .int y10, .ref a_Model_bits, .ref a_Model_sizes, .ref a_Model_sheets, .ref a_Model_least, .ref a_Model_ways, .int Model_thenCost, .int Model_thenWays, .int Model_bothCost, .int Model_bothWays, .ref a_Model_handOf, .ref a_Model_crossedAt, .ref a_Model_strokeOf, .ref a_Model_prices, .ref a_Model_hitAt, .ref a_Model_carried]))] := hD
      cases hf
      exact k_iret () hQ9 hx hb hr hlocks rfl (hP.sub [2, 0, 1] rfl) (hD.sub [2, 0, 1] (by decide) rfl) hS (Nat.le_of_ble_eq_true rfl) (Nat.le_of_ble_eq_true rfl) dX11_hit_66
  unfold f_Model_hit at hf
  refine lv_iload_n hx hb dX11_hit_0 rfl (lv_at hl 1 rfl) ?_
  obtain ⟨r12, g13, hf⟩ := b1_s hf
  refine k_Si (rest := []) ⟨hx, hb, hml, hown, hts⟩ (c_Model_isPlayer l D cI cZ t  s.heap.size p1 r12 g13) (va_cwS 1 hts gX11_hit_X11_isPlayer rfl rfl rfl (by decide +kernel) ⟨Nat.le_of_ble_eq_true rfl, Nat.le_of_ble_eq_true rfl⟩) hE hP hD hS hA [] [0, 1, 2] rfl rfl rfl rfl rfl rfl hl.1 rfl (Nat.le_of_ble_eq_true rfl) dX11_hit_1 ⟨Nat.le_of_ble_eq_true rfl, Nat.le_of_ble_eq_true rfl⟩ (fun rq uq H locs hrq hP hD hS => ?_)
  refine lv_tpx hrq.symm ?_
  have hP : va_P D vwCl [(a_Model, .inr (11, [.ref a_Model_now, .ref a_Model_past, .int Model_kept, .int Model_findings, .ref a_Model_bits, .ref a_Model_sizes, .ref a_Model_sheets, .ref a_Model_least, .ref a_Model_ways, .int Model_thenCost, .int Model_thenWays, .int Model_bothCost, .int Model_bothWays, .ref a_Model_handOf, .ref a_Model_crossedAt, .ref a_Model_strokeOf, .ref a_Model_prices, .ref a_Model_hitAt, .ref a_Model_carried])), (a_Model_now, .inl (cI, 187, .inl Model_now)), (a_Model_past, .inl (cI, 3740, .inl Model_past))] H := hP
  have hD : va_D A [(a_Model, .inr (11, [.ref a_Model_now, .ref a_Model_past, .int Model_kept, .int Model_findings, .ref a_Model_bits, .ref a_Model_sizes, .ref a_Model_sheets, .ref a_Model_least, .ref a_Model_ways, .int Model_thenCost, .int Model_thenWays, .int Model_bothCost, .int Model_bothWays, .ref a_Model_handOf, .ref a_Model_crossedAt, .ref a_Model_strokeOf, .ref a_Model_prices, .ref a_Model_hitAt, .ref a_Model_carried])), (a_Model_now, .inl (cI, 187, .inl Model_now)), (a_Model_past, .inl (cI, 3740, .inl Model_past))] := hD
  refine lv_if_eq (tgt := 14) hx hb dX11_hit_4 (by decide) (fun c14 => ?_) (fun c14 => ?_)
  · have hf := ite_t c14 hf
    refine lv_aload_n hx hb dX11_hit_14 rfl (lv_at hl 0 rfl) ?_
    refine lv_ldc (v := (-100001)) hx hb hown kc70 dX11_hit_15 ?_
    obtain ⟨r15, y16, g17, hf⟩ := b2_s hf
    refine k_Vi (rest := []) ⟨hx, hb, hml, hown, hts⟩ (c_Model_finding l D cI cZ t a_Model a_Model_now a_Model_past a_Model_bits a_Model_sizes a_Model_sheets a_Model_least a_Model_ways a_Model_handOf a_Model_crossedAt a_Model_strokeOf a_Model_prices a_Model_hitAt a_Model_carried H.size Model_findings Model_kept Model_thenCost Model_thenWays Model_bothCost Model_bothWays (-100001) r15 y16 g17) (cwV 1 hts gX11_hit_X11_finding rfl rfl rfl (by decide +kernel) ⟨Nat.le_of_ble_eq_true rfl, Nat.le_of_ble_eq_true rfl⟩) hE hP hD hS hA [0] [1, 2] rfl rfl rfl rfl rfl 0 11 rfl rfl rfl rfl hl.1 rfl (Nat.le_of_ble_eq_true rfl) dX11_hit_17 ⟨Nat.le_of_ble_eq_true rfl, Nat.le_of_ble_eq_true rfl⟩ (fun rq uq H locs hrq hP hD hS => ?_)
    refine lv_tpx hrq.symm ?_
    have hP : va_P D vwCl [(a_Model_now, .inl (cI, 187, .inl Model_now)), (a_Model_past, .inl (cI, 3740, .inl Model_past)), (a_Model, .inr (11, [.ref a_Model_now, .ref a_Model_past, .int Model_kept, .int y16, .ref a_Model_bits, .ref a_Model_sizes, .ref a_Model_sheets, .ref a_Model_least, .ref a_Model_ways, .int Model_thenCost, .int Model_thenWays, .int Model_bothCost, .int Model_bothWays, .ref a_Model_handOf, .ref a_Model_crossedAt, .ref a_Model_strokeOf, .ref a_Model_prices, .ref a_Model_hitAt, .ref a_Model_carried]))] H := hP
    have hD : va_D A [(a_Model_now, .inl (cI, 187, .inl Model_now)), (a_Model_past, .inl (cI, 3740, .inl Model_past)), (a_Model, .inr (11, [.ref a_Model_now, .ref a_Model_past, .int Model_kept, .int y16, .ref a_Model_bits, .ref a_Model_sizes, .ref a_Model_sheets, .ref a_Model_least, .ref a_Model_ways, .int Model_thenCost, .int Model_thenWays, .int Model_bothCost, .int Model_bothWays, .ref a_Model_handOf, .ref a_Model_crossedAt, .ref a_Model_strokeOf, .ref a_Model_prices, .ref a_Model_hitAt, .ref a_Model_carried]))] := hD
    cases hf
    exact k_iret () hQ9 hx hb hr hlocks rfl (hP.sub [2, 0, 1] rfl) (hD.sub [2, 0, 1] (by decide) rfl) hS (Nat.le_of_ble_eq_true rfl) (Nat.le_of_ble_eq_true rfl) dX11_hit_20
  · have hf := ite_f c14 hf
    refine lv_iload_n hx hb dX11_hit_7 rfl (lv_at hl 2 rfl) ?_
    obtain ⟨r18, g19, hf⟩ := b1_s hf
    refine k_Si (rest := []) ⟨hx, hb, hml, hown, hts⟩ (c_Model_isTick l D cI cZ t  H.size p2 r18 g19) (va_cwS 1 hts gX11_hit_X11_isTick rfl rfl rfl (by decide +kernel) ⟨Nat.le_of_ble_eq_true rfl, Nat.le_of_ble_eq_true rfl⟩) hE hP hD hS hA [] [0, 1, 2] rfl rfl rfl rfl rfl rfl hl.1 rfl (Nat.le_of_ble_eq_true rfl) dX11_hit_8 ⟨Nat.le_of_ble_eq_true rfl, Nat.le_of_ble_eq_true rfl⟩ (fun rq uq H locs hrq hP hD hS => ?_)
    refine lv_tpx hrq.symm ?_
    have hP : va_P D vwCl [(a_Model, .inr (11, [.ref a_Model_now, .ref a_Model_past, .int Model_kept, .int Model_findings, .ref a_Model_bits, .ref a_Model_sizes, .ref a_Model_sheets, .ref a_Model_least, .ref a_Model_ways, .int Model_thenCost, .int Model_thenWays, .int Model_bothCost, .int Model_bothWays, .ref a_Model_handOf, .ref a_Model_crossedAt, .ref a_Model_strokeOf, .ref a_Model_prices, .ref a_Model_hitAt, .ref a_Model_carried])), (a_Model_now, .inl (cI, 187, .inl Model_now)), (a_Model_past, .inl (cI, 3740, .inl Model_past))] H := hP
    have hD : va_D A [(a_Model, .inr (11, [.ref a_Model_now, .ref a_Model_past, .int Model_kept, .int Model_findings, .ref a_Model_bits, .ref a_Model_sizes, .ref a_Model_sheets, .ref a_Model_least, .ref a_Model_ways, .int Model_thenCost, .int Model_thenWays, .int Model_bothCost, .int Model_bothWays, .ref a_Model_handOf, .ref a_Model_crossedAt, .ref a_Model_strokeOf, .ref a_Model_prices, .ref a_Model_hitAt, .ref a_Model_carried])), (a_Model_now, .inl (cI, 187, .inl Model_now)), (a_Model_past, .inl (cI, 3740, .inl Model_past))] := hD
    refine lv_if_ne (tgt := 21) hx hb dX11_hit_11 (by decide) (fun c20 => ?_) (fun c20 => ?_)
    · have hf := ite_f c20 hf
      refine lv_aload_n hx hb dX11_hit_21 rfl (lv_at hl 0 rfl) ?_
      refine va_get (D := D) (ci := 11) (v := .ref a_Model_now) (C := RX11) (T := TX11) (N := 19) hx hb hts inX11 hown hK hP 0 rfl rfl 0 (by decide) fl9 (fun _ h9 => h9) rfl dX11_hit_22 ?_
      refine lv_bipush (v := 87) hx hb dX11_hit_25 (by decide) ?_
      refine lv_iload_n hx hb dX11_hit_27 rfl (lv_at hl 1 rfl) ?_
      refine lv_iadd hx hb dX11_hit_28 ?_
      obtain ⟨ix21, x21, ex21, hf⟩ := rd_s hf
      refine va_iald hx hb hK hP 1 0 rfl rfl ix21 dX11_hit_29 ?_
      refine lv_tpx ex21 ?_
      refine lv_istore_n (lv' := [(3, .int x21), (0, .ref a_Model), (1, .int p1), (2, .int p2)]) hx hb dX11_hit_30 rfl hl (by decide) rfl (fun ls hl => ?_)
      refine lv_iload_n hx hb dX11_hit_31 rfl (lv_at hl 0 rfl) ?_
      refine lv_if_le (tgt := 54) hx hb dX11_hit_32 (by decide) (fun c22 => ?_) (fun c22 => ?_)
      · have hf := ite_t c22 hf
        exact hJ54 p1 p2 x21 Model_now Model_past Model_kept Model_findings H locs ls hP hD hS (lv_sub hl [1, 2, 3, 0] rfl) hf
      · have hf := ite_f c22 hf
        refine lv_iload_n hx hb dX11_hit_35 rfl (lv_at hl 3 rfl) ?_
        refine lv_aload_n hx hb dX11_hit_36 rfl (lv_at hl 1 rfl) ?_
        refine lv_iload_n hx hb dX11_hit_37 rfl (lv_at hl 2 rfl) ?_
        refine lv_iload_n hx hb dX11_hit_38 rfl (lv_at hl 0 rfl) ?_
        refine lv_iconst (v := 1) hx hb dX11_hit_39 (by decide) ?_
        refine lv_isub hx hb dX11_hit_40 ?_
        obtain ⟨r23, g24, hf⟩ := b1_s hf
        refine k_Vi (rest := [.int p2]) ⟨hx, hb, hml, hown, hts⟩ (c_Model_hitOf l D cI cZ t a_Model a_Model_now a_Model_past a_Model_bits a_Model_sizes a_Model_sheets a_Model_least a_Model_ways a_Model_handOf a_Model_crossedAt a_Model_strokeOf a_Model_prices a_Model_hitAt a_Model_carried H.size Model_now Model_kept Model_findings Model_thenCost Model_thenWays Model_bothCost Model_bothWays p1 (x21 - 1) r23 g24) (cwV 2 hts gX11_hit_X11_hitOf rfl rfl rfl (by decide +kernel) ⟨Nat.le_of_ble_eq_true rfl, Nat.le_of_ble_eq_true rfl⟩) hE hP hD hS hA [0, 1] [2] rfl rfl rfl rfl rfl 0 11 rfl rfl rfl rfl hl.1 rfl (Nat.le_of_ble_eq_true rfl) dX11_hit_41 ⟨Nat.le_of_ble_eq_true rfl, Nat.le_of_ble_eq_true rfl⟩ (fun rq uq H locs hrq hP hD hS => ?_)
        refine lv_tpx hrq.symm ?_
        have hP : va_P D vwCl [(a_Model_past, .inl (cI, 3740, .inl Model_past)), (a_Model, .inr (11, [.ref a_Model_now, .ref a_Model_past, .int Model_kept, .int Model_findings, .ref a_Model_bits, .ref a_Model_sizes, .ref a_Model_sheets, .ref a_Model_least, .ref a_Model_ways, .int Model_thenCost, .int Model_thenWays, .int Model_bothCost, .int Model_bothWays, .ref a_Model_handOf, .ref a_Model_crossedAt, .ref a_Model_strokeOf, .ref a_Model_prices, .ref a_Model_hitAt, .ref a_Model_carried])), (a_Model_now, .inl (cI, 187, .inl Model_now))] H := hP
        have hD : va_D A [(a_Model_past, .inl (cI, 3740, .inl Model_past)), (a_Model, .inr (11, [.ref a_Model_now, .ref a_Model_past, .int Model_kept, .int Model_findings, .ref a_Model_bits, .ref a_Model_sizes, .ref a_Model_sheets, .ref a_Model_least, .ref a_Model_ways, .int Model_thenCost, .int Model_thenWays, .int Model_bothCost, .int Model_bothWays, .ref a_Model_handOf, .ref a_Model_crossedAt, .ref a_Model_strokeOf, .ref a_Model_prices, .ref a_Model_hitAt, .ref a_Model_carried])), (a_Model_now, .inl (cI, 187, .inl Model_now))] := hD
        refine lv_icmp_ge (tgt := 54) hx hb dX11_hit_44 (by decide) (fun c25 => ?_) (fun c25 => ?_)
        · have hf := ite_t c25 hf
          exact hJ54 p1 p2 x21 Model_now Model_past Model_kept Model_findings H locs ls (hP.sub [1, 2, 0] rfl) (hD.sub [1, 2, 0] (by decide) rfl) hS (lv_sub hl [1, 2, 3, 0] rfl) hf
        · have hf := ite_f c25 hf
          refine lv_aload_n hx hb dX11_hit_47 rfl (lv_at hl 1 rfl) ?_
          refine lv_ldc (v := (-100003)) hx hb hown kc71 dX11_hit_48 ?_
          obtain ⟨r26, y27, g28, hf⟩ := b2_s hf
          refine k_Vi (rest := []) ⟨hx, hb, hml, hown, hts⟩ (c_Model_finding l D cI cZ t a_Model a_Model_now a_Model_past a_Model_bits a_Model_sizes a_Model_sheets a_Model_least a_Model_ways a_Model_handOf a_Model_crossedAt a_Model_strokeOf a_Model_prices a_Model_hitAt a_Model_carried H.size Model_findings Model_kept Model_thenCost Model_thenWays Model_bothCost Model_bothWays (-100003) r26 y27 g28) (cwV 1 hts gX11_hit_X11_finding rfl rfl rfl (by decide +kernel) ⟨Nat.le_of_ble_eq_true rfl, Nat.le_of_ble_eq_true rfl⟩) hE hP hD hS hA [1] [0, 2] rfl rfl rfl rfl rfl 0 11 rfl rfl rfl rfl hl.1 rfl (Nat.le_of_ble_eq_true rfl) dX11_hit_50 ⟨Nat.le_of_ble_eq_true rfl, Nat.le_of_ble_eq_true rfl⟩ (fun rq uq H locs hrq hP hD hS => ?_)
          refine lv_tpx hrq.symm ?_
          have hP : va_P D vwCl [(a_Model_past, .inl (cI, 3740, .inl Model_past)), (a_Model_now, .inl (cI, 187, .inl Model_now)), (a_Model, .inr (11, [.ref a_Model_now, .ref a_Model_past, .int Model_kept, .int y27, .ref a_Model_bits, .ref a_Model_sizes, .ref a_Model_sheets, .ref a_Model_least, .ref a_Model_ways, .int Model_thenCost, .int Model_thenWays, .int Model_bothCost, .int Model_bothWays, .ref a_Model_handOf, .ref a_Model_crossedAt, .ref a_Model_strokeOf, .ref a_Model_prices, .ref a_Model_hitAt, .ref a_Model_carried]))] H := hP
          have hD : va_D A [(a_Model_past, .inl (cI, 3740, .inl Model_past)), (a_Model_now, .inl (cI, 187, .inl Model_now)), (a_Model, .inr (11, [.ref a_Model_now, .ref a_Model_past, .int Model_kept, .int y27, .ref a_Model_bits, .ref a_Model_sizes, .ref a_Model_sheets, .ref a_Model_least, .ref a_Model_ways, .int Model_thenCost, .int Model_thenWays, .int Model_bothCost, .int Model_bothWays, .ref a_Model_handOf, .ref a_Model_crossedAt, .ref a_Model_strokeOf, .ref a_Model_prices, .ref a_Model_hitAt, .ref a_Model_carried]))] := hD
          cases hf
          exact k_iret () hQ9 hx hb hr hlocks rfl (hP.sub [2, 1, 0] rfl) (hD.sub [2, 1, 0] (by decide) rfl) hS (Nat.le_of_ble_eq_true rfl) (Nat.le_of_ble_eq_true rfl) dX11_hit_53
    · have hf := ite_t c20 hf
      refine lv_aload_n hx hb dX11_hit_14 rfl (lv_at hl 0 rfl) ?_
      refine lv_ldc (v := (-100001)) hx hb hown kc70 dX11_hit_15 ?_
      obtain ⟨r29, y30, g31, hf⟩ := b2_s hf
      refine k_Vi (rest := []) ⟨hx, hb, hml, hown, hts⟩ (c_Model_finding l D cI cZ t a_Model a_Model_now a_Model_past a_Model_bits a_Model_sizes a_Model_sheets a_Model_least a_Model_ways a_Model_handOf a_Model_crossedAt a_Model_strokeOf a_Model_prices a_Model_hitAt a_Model_carried H.size Model_findings Model_kept Model_thenCost Model_thenWays Model_bothCost Model_bothWays (-100001) r29 y30 g31) (cwV 1 hts gX11_hit_X11_finding rfl rfl rfl (by decide +kernel) ⟨Nat.le_of_ble_eq_true rfl, Nat.le_of_ble_eq_true rfl⟩) hE hP hD hS hA [0] [1, 2] rfl rfl rfl rfl rfl 0 11 rfl rfl rfl rfl hl.1 rfl (Nat.le_of_ble_eq_true rfl) dX11_hit_17 ⟨Nat.le_of_ble_eq_true rfl, Nat.le_of_ble_eq_true rfl⟩ (fun rq uq H locs hrq hP hD hS => ?_)
      refine lv_tpx hrq.symm ?_
      have hP : va_P D vwCl [(a_Model_now, .inl (cI, 187, .inl Model_now)), (a_Model_past, .inl (cI, 3740, .inl Model_past)), (a_Model, .inr (11, [.ref a_Model_now, .ref a_Model_past, .int Model_kept, .int y30, .ref a_Model_bits, .ref a_Model_sizes, .ref a_Model_sheets, .ref a_Model_least, .ref a_Model_ways, .int Model_thenCost, .int Model_thenWays, .int Model_bothCost, .int Model_bothWays, .ref a_Model_handOf, .ref a_Model_crossedAt, .ref a_Model_strokeOf, .ref a_Model_prices, .ref a_Model_hitAt, .ref a_Model_carried]))] H := hP
      have hD : va_D A [(a_Model_now, .inl (cI, 187, .inl Model_now)), (a_Model_past, .inl (cI, 3740, .inl Model_past)), (a_Model, .inr (11, [.ref a_Model_now, .ref a_Model_past, .int Model_kept, .int y30, .ref a_Model_bits, .ref a_Model_sizes, .ref a_Model_sheets, .ref a_Model_least, .ref a_Model_ways, .int Model_thenCost, .int Model_thenWays, .int Model_bothCost, .int Model_bothWays, .ref a_Model_handOf, .ref a_Model_crossedAt, .ref a_Model_strokeOf, .ref a_Model_prices, .ref a_Model_hitAt, .ref a_Model_carried]))] := hD
      cases hf
      exact k_iret () hQ9 hx hb hr hlocks rfl (hP.sub [2, 0, 1] rfl) (hD.sub [2, 0, 1] (by decide) rfl) hS (Nat.le_of_ble_eq_true rfl) (Nat.le_of_ble_eq_true rfl) dX11_hit_20
abbrev rm_Model_wipe : Room := { frames := 2, cells := 0, slots := 0, locals := 42 }
set_option maxHeartbeats 4000000 in
set_option maxRecDepth 100000 in
theorem c_Model_wipe (l : Launch) (D : va_G) (cI cZ : ClassId) (t : Nat → Nat) (a_Model a_Model_now a_Model_past a_Model_bits a_Model_sizes a_Model_sheets a_Model_least a_Model_ways a_Model_handOf a_Model_crossedAt a_Model_strokeOf a_Model_prices a_Model_hitAt a_Model_carried sz : Nat) (Model_now Model_past : Nat → Int32) (Model_kept Model_findings Model_thenCost Model_thenWays Model_bothCost Model_bothWays p1 zr : Int32) (z_Model_now z_Model_past : Nat → Int32) (z_Model_kept z_Model_findings : Int32) (hf : f_Model_wipe Model_now Model_past Model_kept Model_findings p1 = some (zr, z_Model_now, z_Model_past, z_Model_kept, z_Model_findings)) : Met l yX11_wipe wsX11_wipe rm_Model_wipe (va_Pc [.ref a_Model, .int p1] (pcW D cI cZ t [(a_Model, .inr (11, [.ref a_Model_now, .ref a_Model_past, .int Model_kept, .int Model_findings, .ref a_Model_bits, .ref a_Model_sizes, .ref a_Model_sheets, .ref a_Model_least, .ref a_Model_ways, .int Model_thenCost, .int Model_thenWays, .int Model_bothCost, .int Model_bothWays, .ref a_Model_handOf, .ref a_Model_crossedAt, .ref a_Model_strokeOf, .ref a_Model_prices, .ref a_Model_hitAt, .ref a_Model_carried])), (a_Model_now, .inl (cI, 187, .inl Model_now)), (a_Model_past, .inl (cI, 3740, .inl Model_past))] sz)) (va_Qi (fun r (u : Unit) => r = zr) (fun u t' => bW D (va_A [(a_Model, .inr (11, [.ref a_Model_now, .ref a_Model_past, .int Model_kept, .int Model_findings, .ref a_Model_bits, .ref a_Model_sizes, .ref a_Model_sheets, .ref a_Model_least, .ref a_Model_ways, .int Model_thenCost, .int Model_thenWays, .int Model_bothCost, .int Model_bothWays, .ref a_Model_handOf, .ref a_Model_crossedAt, .ref a_Model_strokeOf, .ref a_Model_prices, .ref a_Model_hitAt, .ref a_Model_carried])), (a_Model_now, .inl (cI, 187, .inl Model_now)), (a_Model_past, .inl (cI, 3740, .inl Model_past))] sz) [(a_Model, .inr (11, [.ref a_Model_now, .ref a_Model_past, .int z_Model_kept, .int z_Model_findings, .ref a_Model_bits, .ref a_Model_sizes, .ref a_Model_sheets, .ref a_Model_least, .ref a_Model_ways, .int Model_thenCost, .int Model_thenWays, .int Model_bothCost, .int Model_bothWays, .ref a_Model_handOf, .ref a_Model_crossedAt, .ref a_Model_strokeOf, .ref a_Model_prices, .ref a_Model_hitAt, .ref a_Model_carried])), (a_Model_now, .inl (cI, 187, .inl z_Model_now)), (a_Model_past, .inl (cI, 3740, .inl z_Model_past))] t') (va_A [(a_Model, .inr (11, [.ref a_Model_now, .ref a_Model_past, .int Model_kept, .int Model_findings, .ref a_Model_bits, .ref a_Model_sizes, .ref a_Model_sheets, .ref a_Model_least, .ref a_Model_ways, .int Model_thenCost, .int Model_thenWays, .int Model_bothCost, .int Model_bothWays, .ref a_Model_handOf, .ref a_Model_crossedAt, .ref a_Model_strokeOf, .ref a_Model_prices, .ref a_Model_hitAt, .ref a_Model_carried])), (a_Model_now, .inl (cI, 187, .inl Model_now)), (a_Model_past, .inl (cI, 3740, .inl Model_past))] sz)) 0 0 (va_A [(a_Model, .inr (11, [.ref a_Model_now, .ref a_Model_past, .int Model_kept, .int Model_findings, .ref a_Model_bits, .ref a_Model_sizes, .ref a_Model_sheets, .ref a_Model_least, .ref a_Model_ways, .int Model_thenCost, .int Model_thenWays, .int Model_bothCost, .int Model_bothWays, .ref a_Model_handOf, .ref a_Model_crossedAt, .ref a_Model_strokeOf, .ref a_Model_prices, .ref a_Model_hitAt, .ref a_Model_carried])), (a_Model_now, .inl (cI, 187, .inl Model_now)), (a_Model_past, .inl (cI, 3740, .inl Model_past))] sz) := by
  refine Met.ofW (cc := cX11_wipe) (maxL := 3) (ret := (some .int)) (by decide) rfl ?_
  intro p e s m args below meth c s₁ B hml hv
  obtain ⟨rfl, hsz, hP, hD0, hE⟩ := hv
  have hx := B.exec
  have hb := B.bytes
  have hr := B.returns
  have hts := atoms_spec (ws := wsX11_wipe) B.pre
  have hown : s.vm.findClass RX11 = some m.cls := findClass_of_methodNamed B.named
  have hlocks := B.notSynchronized
  subst hsz
  have hD := hD0.self (sz := s.heap.size)
  generalize hAe : va_A [(a_Model, .inr (11, [.ref a_Model_now, .ref a_Model_past, .int Model_kept, .int Model_findings, .ref a_Model_bits, .ref a_Model_sizes, .ref a_Model_sheets, .ref a_Model_least, .ref a_Model_ways, .int Model_thenCost, .int Model_thenWays, .int Model_bothCost, .int Model_bothWays, .ref a_Model_handOf, .ref a_Model_crossedAt, .ref a_Model_strokeOf, .ref a_Model_prices, .ref a_Model_hitAt, .ref a_Model_carried])), (a_Model_now, .inl (cI, 187, .inl Model_now)), (a_Model_past, .inl (cI, 3740, .inl Model_past))] s.heap.size = A at hD hE ⊢
  have hA : ∀ q : Nat, s.heap.size ≤ q → A q := fun q h => by rw [← hAe]; exact Or.inr h
  clear hAe hD0
  have hS : va_S A s.heap s.heap [] := va_S.rf
  have hK := hE.1
  have hl := lv_entry ([.ref a_Model, .int p1]) (n := 3) (Nat.le_of_ble_eq_true rfl)
  rw [lg_entry_eq]
  generalize (lg_sl ([.ref a_Model, .int p1]) ++ List.replicate (3 - (lg_sl ([.ref a_Model, .int p1])).length) Slot.unset).toArray = ls at hl ⊢
  have hl : lv_has ls 3 [(0, .ref a_Model), (1, .int p1)] := hl
  refine w_q (fun Q9 hQ9 => ?_)
  have fl9 := hts (.fieldLink RX11 9 "StickRoomModel" "now" "[I") (by decide +kernel)
  have inX11 : ∀ w ∈ wsX110, w ∈ wsX11_wipe := by decide +kernel
  have kc70 := hts (.constant RX11 70 (-100001)) (by decide +kernel)
  unfold f_Model_wipe at hf
  refine lv_iload_n hx hb dX11_wipe_0 rfl (lv_at hl 1 rfl) ?_
  obtain ⟨r1, g2, hf⟩ := b1_s hf
  refine k_Si (rest := []) ⟨hx, hb, hml, hown, hts⟩ (c_Model_isPlayer l D cI cZ t  s.heap.size p1 r1 g2) (va_cwS 1 hts gX11_wipe_X11_isPlayer rfl rfl rfl (by decide +kernel) ⟨Nat.le_of_ble_eq_true rfl, Nat.le_of_ble_eq_true rfl⟩) hE hP hD hS hA [] [0, 1, 2] rfl rfl rfl rfl rfl rfl hl.1 rfl (Nat.le_of_ble_eq_true rfl) dX11_wipe_1 ⟨Nat.le_of_ble_eq_true rfl, Nat.le_of_ble_eq_true rfl⟩ (fun rq uq H locs hrq hP hD hS => ?_)
  refine lv_tpx hrq.symm ?_
  have hP : va_P D vwCl [(a_Model, .inr (11, [.ref a_Model_now, .ref a_Model_past, .int Model_kept, .int Model_findings, .ref a_Model_bits, .ref a_Model_sizes, .ref a_Model_sheets, .ref a_Model_least, .ref a_Model_ways, .int Model_thenCost, .int Model_thenWays, .int Model_bothCost, .int Model_bothWays, .ref a_Model_handOf, .ref a_Model_crossedAt, .ref a_Model_strokeOf, .ref a_Model_prices, .ref a_Model_hitAt, .ref a_Model_carried])), (a_Model_now, .inl (cI, 187, .inl Model_now)), (a_Model_past, .inl (cI, 3740, .inl Model_past))] H := hP
  have hD : va_D A [(a_Model, .inr (11, [.ref a_Model_now, .ref a_Model_past, .int Model_kept, .int Model_findings, .ref a_Model_bits, .ref a_Model_sizes, .ref a_Model_sheets, .ref a_Model_least, .ref a_Model_ways, .int Model_thenCost, .int Model_thenWays, .int Model_bothCost, .int Model_bothWays, .ref a_Model_handOf, .ref a_Model_crossedAt, .ref a_Model_strokeOf, .ref a_Model_prices, .ref a_Model_hitAt, .ref a_Model_carried])), (a_Model_now, .inl (cI, 187, .inl Model_now)), (a_Model_past, .inl (cI, 3740, .inl Model_past))] := hD
  refine lv_if_ne (tgt := 14) hx hb dX11_wipe_4 (by decide) (fun c3 => ?_) (fun c3 => ?_)
  · have hf := ite_f c3 hf
    refine lv_aload_n hx hb dX11_wipe_14 rfl (lv_at hl 0 rfl) ?_
    obtain ⟨y4, y5, g6, hf⟩ := b2_s hf
    refine k_Vv (rest := []) ⟨hx, hb, hml, hown, hts⟩ (c_Model_keep l D cI cZ t a_Model a_Model_now a_Model_past a_Model_bits a_Model_sizes a_Model_sheets a_Model_least a_Model_ways a_Model_handOf a_Model_crossedAt a_Model_strokeOf a_Model_prices a_Model_hitAt a_Model_carried H.size Model_now Model_past Model_kept Model_findings Model_thenCost Model_thenWays Model_bothCost Model_bothWays y4 y5 g6) (cwV 0 hts gX11_wipe_X11_keep rfl rfl rfl (by decide +kernel) ⟨Nat.le_of_ble_eq_true rfl, Nat.le_of_ble_eq_true rfl⟩) hE hP hD hS hA [0, 1, 2] [] rfl rfl rfl rfl rfl 0 11 rfl rfl rfl rfl hl.1 rfl (Nat.le_of_ble_eq_true rfl) dX11_wipe_15 ⟨Nat.le_of_ble_eq_true rfl, Nat.le_of_ble_eq_true rfl⟩ (fun uq H locs hrq hP hD hS => ?_)
    have hP : va_P D vwCl [(a_Model, .inr (11, [.ref a_Model_now, .ref a_Model_past, .int y5, .int Model_findings, .ref a_Model_bits, .ref a_Model_sizes, .ref a_Model_sheets, .ref a_Model_least, .ref a_Model_ways, .int Model_thenCost, .int Model_thenWays, .int Model_bothCost, .int Model_bothWays, .ref a_Model_handOf, .ref a_Model_crossedAt, .ref a_Model_strokeOf, .ref a_Model_prices, .ref a_Model_hitAt, .ref a_Model_carried])), (a_Model_now, .inl (cI, 187, .inl Model_now)), (a_Model_past, .inl (cI, 3740, .inl y4))] H := hP
    have hD : va_D A [(a_Model, .inr (11, [.ref a_Model_now, .ref a_Model_past, .int y5, .int Model_findings, .ref a_Model_bits, .ref a_Model_sizes, .ref a_Model_sheets, .ref a_Model_least, .ref a_Model_ways, .int Model_thenCost, .int Model_thenWays, .int Model_bothCost, .int Model_bothWays, .ref a_Model_handOf, .ref a_Model_crossedAt, .ref a_Model_strokeOf, .ref a_Model_prices, .ref a_Model_hitAt, .ref a_Model_carried])), (a_Model_now, .inl (cI, 187, .inl Model_now)), (a_Model_past, .inl (cI, 3740, .inl y4))] := hD
    refine lv_aload_n hx hb dX11_wipe_18 rfl (lv_at hl 0 rfl) ?_
    refine va_get (D := D) (ci := 11) (v := .ref a_Model_now) (C := RX11) (T := TX11) (N := 19) hx hb hts inX11 hown hK hP 0 rfl rfl 0 (by decide) fl9 (fun _ h9 => h9) rfl dX11_wipe_19 ?_
    refine lv_bipush (v := 87) hx hb dX11_wipe_22 (by decide) ?_
    refine lv_iload_n hx hb dX11_wipe_24 rfl (lv_at hl 1 rfl) ?_
    refine lv_iadd hx hb dX11_wipe_25 ?_
    obtain ⟨ix7, x7, ex7, hf⟩ := rd_s hf
    refine va_iald hx hb hK hP 1 0 rfl rfl ix7 dX11_wipe_26 ?_
    refine lv_tpx ex7 ?_
    refine lv_istore_n (lv' := [(2, .int x7), (0, .ref a_Model), (1, .int p1)]) hx hb dX11_wipe_27 rfl hl (by decide) rfl (fun ls hl => ?_)
    refine lv_aload_n hx hb dX11_wipe_28 rfl (lv_at hl 1 rfl) ?_
    refine va_get (D := D) (ci := 11) (v := .ref a_Model_now) (C := RX11) (T := TX11) (N := 19) hx hb hts inX11 hown hK hP 0 rfl rfl 0 (by decide) fl9 (fun _ h9 => h9) rfl dX11_wipe_29 ?_
    refine lv_bipush (v := 87) hx hb dX11_wipe_32 (by decide) ?_
    refine lv_iload_n hx hb dX11_wipe_34 rfl (lv_at hl 2 rfl) ?_
    refine lv_iadd hx hb dX11_wipe_35 ?_
    refine lv_iconst (v := 0) hx hb dX11_wipe_36 (by decide) ?_
    obtain ⟨i8, hf⟩ := ck_s hf
    refine va_iast hx hb hK hP hD hS 1 0 rfl rfl i8 dX11_wipe_37 (fun H locs hP hD hS => ?_)
    have hP : va_P D vwCl [(a_Model, .inr (11, [.ref a_Model_now, .ref a_Model_past, .int y5, .int Model_findings, .ref a_Model_bits, .ref a_Model_sizes, .ref a_Model_sheets, .ref a_Model_least, .ref a_Model_ways, .int Model_thenCost, .int Model_thenWays, .int Model_bothCost, .int Model_bothWays, .ref a_Model_handOf, .ref a_Model_crossedAt, .ref a_Model_strokeOf, .ref a_Model_prices, .ref a_Model_hitAt, .ref a_Model_carried])), (a_Model_now, .inl (cI, 187, .inl (upd Model_now (87 + p1).toNatClampNeg 0))), (a_Model_past, .inl (cI, 3740, .inl y4))] H := hP
    have hD : va_D A [(a_Model, .inr (11, [.ref a_Model_now, .ref a_Model_past, .int y5, .int Model_findings, .ref a_Model_bits, .ref a_Model_sizes, .ref a_Model_sheets, .ref a_Model_least, .ref a_Model_ways, .int Model_thenCost, .int Model_thenWays, .int Model_bothCost, .int Model_bothWays, .ref a_Model_handOf, .ref a_Model_crossedAt, .ref a_Model_strokeOf, .ref a_Model_prices, .ref a_Model_hitAt, .ref a_Model_carried])), (a_Model_now, .inl (cI, 187, .inl (upd Model_now (87 + p1).toNatClampNeg 0))), (a_Model_past, .inl (cI, 3740, .inl y4))] := hD
    refine lv_iload_n hx hb dX11_wipe_38 rfl (lv_at hl 0 rfl) ?_
    cases hf
    exact k_iret () hQ9 hx hb hr hlocks rfl hP hD hS (Nat.le_of_ble_eq_true rfl) (Nat.le_of_ble_eq_true rfl) dX11_wipe_39
  · have hf := ite_t c3 hf
    refine lv_aload_n hx hb dX11_wipe_7 rfl (lv_at hl 0 rfl) ?_
    refine lv_ldc (v := (-100001)) hx hb hown kc70 dX11_wipe_8 ?_
    obtain ⟨r9, y10, g11, hf⟩ := b2_s hf
    refine k_Vi (rest := []) ⟨hx, hb, hml, hown, hts⟩ (c_Model_finding l D cI cZ t a_Model a_Model_now a_Model_past a_Model_bits a_Model_sizes a_Model_sheets a_Model_least a_Model_ways a_Model_handOf a_Model_crossedAt a_Model_strokeOf a_Model_prices a_Model_hitAt a_Model_carried H.size Model_findings Model_kept Model_thenCost Model_thenWays Model_bothCost Model_bothWays (-100001) r9 y10 g11) (cwV 1 hts gX11_wipe_X11_finding rfl rfl rfl (by decide +kernel) ⟨Nat.le_of_ble_eq_true rfl, Nat.le_of_ble_eq_true rfl⟩) hE hP hD hS hA [0] [1, 2] rfl rfl rfl rfl rfl 0 11 rfl rfl rfl rfl hl.1 rfl (Nat.le_of_ble_eq_true rfl) dX11_wipe_10 ⟨Nat.le_of_ble_eq_true rfl, Nat.le_of_ble_eq_true rfl⟩ (fun rq uq H locs hrq hP hD hS => ?_)
    refine lv_tpx hrq.symm ?_
    have hP : va_P D vwCl [(a_Model_now, .inl (cI, 187, .inl Model_now)), (a_Model_past, .inl (cI, 3740, .inl Model_past)), (a_Model, .inr (11, [.ref a_Model_now, .ref a_Model_past, .int Model_kept, .int y10, .ref a_Model_bits, .ref a_Model_sizes, .ref a_Model_sheets, .ref a_Model_least, .ref a_Model_ways, .int Model_thenCost, .int Model_thenWays, .int Model_bothCost, .int Model_bothWays, .ref a_Model_handOf, .ref a_Model_crossedAt, .ref a_Model_strokeOf, .ref a_Model_prices, .ref a_Model_hitAt, .ref a_Model_carried]))] H := hP
    have hD : va_D A [(a_Model_now, .inl (cI, 187, .inl Model_now)), (a_Model_past, .inl (cI, 3740, .inl Model_past)), (a_Model, .inr (11, [.ref a_Model_now, .ref a_Model_past, .int Model_kept, .int y10, .ref a_Model_bits, .ref a_Model_sizes, .ref a_Model_sheets, .ref a_Model_least, .ref a_Model_ways, .int Model_thenCost, .int Model_thenWays, .int Model_bothCost, .int Model_bothWays, .ref a_Model_handOf, .ref a_Model_crossedAt, .ref a_Model_strokeOf, .ref a_Model_prices, .ref a_Model_hitAt, .ref a_Model_carried]))] := hD
    cases hf
    exact k_iret () hQ9 hx hb hr hlocks rfl (hP.sub [2, 0, 1] rfl) (hD.sub [2, 0, 1] (by decide) rfl) hS (Nat.le_of_ble_eq_true rfl) (Nat.le_of_ble_eq_true rfl) dX11_wipe_13
abbrev rm_Model_findReading : Room := { frames := 2, cells := 0, slots := 0, locals := 54 }
set_option maxHeartbeats 4000000 in
set_option maxRecDepth 100000 in
theorem c_Model_findReading (l : Launch) (D : va_G) (cI cZ : ClassId) (t : Nat → Nat) (a_Model a_Model_now a_Model_past a_Model_bits a_Model_sizes a_Model_sheets a_Model_least a_Model_ways a_Model_handOf a_Model_crossedAt a_Model_strokeOf a_Model_prices a_Model_hitAt a_Model_carried sz : Nat) (Model_now Model_prices Model_hitAt : Nat → Int32) (Model_kept Model_findings Model_thenCost Model_thenWays Model_bothCost Model_bothWays p1 : Int32) (z_Model_prices z_Model_hitAt : Nat → Int32) (hf : f_Model_findReading Model_now Model_prices Model_hitAt p1 = some (z_Model_prices, z_Model_hitAt)) : Met l yX11_findReading wsX11_findReading rm_Model_findReading (va_Pc [.ref a_Model, .int p1] (pcW D cI cZ t [(a_Model, .inr (11, [.ref a_Model_now, .ref a_Model_past, .int Model_kept, .int Model_findings, .ref a_Model_bits, .ref a_Model_sizes, .ref a_Model_sheets, .ref a_Model_least, .ref a_Model_ways, .int Model_thenCost, .int Model_thenWays, .int Model_bothCost, .int Model_bothWays, .ref a_Model_handOf, .ref a_Model_crossedAt, .ref a_Model_strokeOf, .ref a_Model_prices, .ref a_Model_hitAt, .ref a_Model_carried])), (a_Model_now, .inl (cI, 187, .inl Model_now)), (a_Model_prices, .inl (cI, 525, .inl Model_prices)), (a_Model_hitAt, .inl (cI, 20, .inl Model_hitAt))] sz)) (va_Qv (fun u : Unit => u = u) (fun u t' => bW D (va_A [(a_Model, .inr (11, [.ref a_Model_now, .ref a_Model_past, .int Model_kept, .int Model_findings, .ref a_Model_bits, .ref a_Model_sizes, .ref a_Model_sheets, .ref a_Model_least, .ref a_Model_ways, .int Model_thenCost, .int Model_thenWays, .int Model_bothCost, .int Model_bothWays, .ref a_Model_handOf, .ref a_Model_crossedAt, .ref a_Model_strokeOf, .ref a_Model_prices, .ref a_Model_hitAt, .ref a_Model_carried])), (a_Model_now, .inl (cI, 187, .inl Model_now)), (a_Model_prices, .inl (cI, 525, .inl Model_prices)), (a_Model_hitAt, .inl (cI, 20, .inl Model_hitAt))] sz) [(a_Model, .inr (11, [.ref a_Model_now, .ref a_Model_past, .int Model_kept, .int Model_findings, .ref a_Model_bits, .ref a_Model_sizes, .ref a_Model_sheets, .ref a_Model_least, .ref a_Model_ways, .int Model_thenCost, .int Model_thenWays, .int Model_bothCost, .int Model_bothWays, .ref a_Model_handOf, .ref a_Model_crossedAt, .ref a_Model_strokeOf, .ref a_Model_prices, .ref a_Model_hitAt, .ref a_Model_carried])), (a_Model_now, .inl (cI, 187, .inl Model_now)), (a_Model_prices, .inl (cI, 525, .inl z_Model_prices)), (a_Model_hitAt, .inl (cI, 20, .inl z_Model_hitAt))] t') (va_A [(a_Model, .inr (11, [.ref a_Model_now, .ref a_Model_past, .int Model_kept, .int Model_findings, .ref a_Model_bits, .ref a_Model_sizes, .ref a_Model_sheets, .ref a_Model_least, .ref a_Model_ways, .int Model_thenCost, .int Model_thenWays, .int Model_bothCost, .int Model_bothWays, .ref a_Model_handOf, .ref a_Model_crossedAt, .ref a_Model_strokeOf, .ref a_Model_prices, .ref a_Model_hitAt, .ref a_Model_carried])), (a_Model_now, .inl (cI, 187, .inl Model_now)), (a_Model_prices, .inl (cI, 525, .inl Model_prices)), (a_Model_hitAt, .inl (cI, 20, .inl Model_hitAt))] sz)) 0 0 (va_A [(a_Model, .inr (11, [.ref a_Model_now, .ref a_Model_past, .int Model_kept, .int Model_findings, .ref a_Model_bits, .ref a_Model_sizes, .ref a_Model_sheets, .ref a_Model_least, .ref a_Model_ways, .int Model_thenCost, .int Model_thenWays, .int Model_bothCost, .int Model_bothWays, .ref a_Model_handOf, .ref a_Model_crossedAt, .ref a_Model_strokeOf, .ref a_Model_prices, .ref a_Model_hitAt, .ref a_Model_carried])), (a_Model_now, .inl (cI, 187, .inl Model_now)), (a_Model_prices, .inl (cI, 525, .inl Model_prices)), (a_Model_hitAt, .inl (cI, 20, .inl Model_hitAt))] sz) := by
  refine Met.ofW (cc := cX11_findReading) (maxL := 8) (ret := none) (by decide) rfl ?_
  intro p e s m args below meth c s₁ B hml hv
  obtain ⟨rfl, hsz, hP, hD0, hE⟩ := hv
  have hx := B.exec
  have hb := B.bytes
  have hr := B.returns
  have hts := atoms_spec (ws := wsX11_findReading) B.pre
  have hown : s.vm.findClass RX11 = some m.cls := findClass_of_methodNamed B.named
  have hlocks := B.notSynchronized
  subst hsz
  have hD := hD0.self (sz := s.heap.size)
  generalize hAe : va_A [(a_Model, .inr (11, [.ref a_Model_now, .ref a_Model_past, .int Model_kept, .int Model_findings, .ref a_Model_bits, .ref a_Model_sizes, .ref a_Model_sheets, .ref a_Model_least, .ref a_Model_ways, .int Model_thenCost, .int Model_thenWays, .int Model_bothCost, .int Model_bothWays, .ref a_Model_handOf, .ref a_Model_crossedAt, .ref a_Model_strokeOf, .ref a_Model_prices, .ref a_Model_hitAt, .ref a_Model_carried])), (a_Model_now, .inl (cI, 187, .inl Model_now)), (a_Model_prices, .inl (cI, 525, .inl Model_prices)), (a_Model_hitAt, .inl (cI, 20, .inl Model_hitAt))] s.heap.size = A at hD hE ⊢
  have hA : ∀ q : Nat, s.heap.size ≤ q → A q := fun q h => by rw [← hAe]; exact Or.inr h
  clear hAe hD0
  have hS : va_S A s.heap s.heap [] := va_S.rf
  have hK := hE.1
  have hl := lv_entry ([.ref a_Model, .int p1]) (n := 8) (Nat.le_of_ble_eq_true rfl)
  rw [lg_entry_eq]
  generalize (lg_sl ([.ref a_Model, .int p1]) ++ List.replicate (8 - (lg_sl ([.ref a_Model, .int p1])).length) Slot.unset).toArray = ls at hl ⊢
  have hl : lv_has ls 8 [(0, .ref a_Model), (1, .int p1)] := hl
  refine w_q (fun Q9 hQ9 => ?_)
  have fl44 := hts (.fieldLink RX11 44 "StickRoomModel" "hitAt" "[I") (by decide +kernel)
  have inX11 : ∀ w ∈ wsX110, w ∈ wsX11_findReading := by decide +kernel
  have fl41 := hts (.fieldLink RX11 41 "StickRoomModel" "prices" "[I") (by decide +kernel)
  have ml126 := hts (.methodLink RX11 126 Lib.Math.min.name) (by decide +kernel)
  have ms_min := hts (.static Lib.Math.min.name) (by decide +kernel)
  have mini := hts (.initialized "java/lang/Math") (by decide +kernel)
  have mc_min := hts (.code Lib.Math.min.name Lib.Math.min.code 2 (some .int)) (by decide +kernel)
  have fl9 := hts (.fieldLink RX11 9 "StickRoomModel" "now" "[I") (by decide +kernel)
  have hL158 : ∀ (n158 : Nat) (l1 l2 l3 l4 l5 : Int32) (Model_prices Model_hitAt : Nat → Int32) (H : Heap) (locs : List Loc) (ls : Array Slot), va_P D vwCl [(a_Model, .inr (11, [.ref a_Model_now, .ref a_Model_past, .int Model_kept, .int Model_findings, .ref a_Model_bits, .ref a_Model_sizes, .ref a_Model_sheets, .ref a_Model_least, .ref a_Model_ways, .int Model_thenCost, .int Model_thenWays, .int Model_bothCost, .int Model_bothWays, .ref a_Model_handOf, .ref a_Model_crossedAt, .ref a_Model_strokeOf, .ref a_Model_prices, .ref a_Model_hitAt, .ref a_Model_carried])), (a_Model_now, .inl (cI, 187, .inl Model_now)), (a_Model_prices, .inl (cI, 525, .inl Model_prices)), (a_Model_hitAt, .inl (cI, 20, .inl Model_hitAt))] H → va_D A [(a_Model, .inr (11, [.ref a_Model_now, .ref a_Model_past, .int Model_kept, .int Model_findings, .ref a_Model_bits, .ref a_Model_sizes, .ref a_Model_sheets, .ref a_Model_least, .ref a_Model_ways, .int Model_thenCost, .int Model_thenWays, .int Model_bothCost, .int Model_bothWays, .ref a_Model_handOf, .ref a_Model_crossedAt, .ref a_Model_strokeOf, .ref a_Model_prices, .ref a_Model_hitAt, .ref a_Model_carried])), (a_Model_now, .inl (cI, 187, .inl Model_now)), (a_Model_prices, .inl (cI, 525, .inl Model_prices)), (a_Model_hitAt, .inl (cI, 20, .inl Model_hitAt))] → va_S A s.heap H locs → lv_has ls 8 [(0, .ref a_Model), (1, .int l1), (2, .int l2), (3, .int l3), (4, .int l4), (5, .int l5)] → f_Model_findReading_158 Model_now  n158 l1 l2 l3 l4 l5 Model_prices Model_hitAt = some (z_Model_prices, z_Model_hitAt) → W p l e (headSpec wsX11_findReading rm_Model_findReading).room s m ([.ref a_Model, .int p1] : List Value).toArray below meth c H locs 0 0 Q9 (F0 m 158 ls []) := by
    intro n158
    induction n158 with
    | zero => intro l1 l2 l3 l4 l5 Model_prices Model_hitAt H locs ls hP hD hS hl hf; exact nomatch (show none = some (z_Model_prices, z_Model_hitAt) from hf)
    | succ n158 ih158 =>
      have hL177 : ∀ (n177 : Nat) (l1 l2 l3 l4 l5 l6 : Int32) (Model_prices Model_hitAt : Nat → Int32) (H : Heap) (locs : List Loc) (ls : Array Slot), va_P D vwCl [(a_Model, .inr (11, [.ref a_Model_now, .ref a_Model_past, .int Model_kept, .int Model_findings, .ref a_Model_bits, .ref a_Model_sizes, .ref a_Model_sheets, .ref a_Model_least, .ref a_Model_ways, .int Model_thenCost, .int Model_thenWays, .int Model_bothCost, .int Model_bothWays, .ref a_Model_handOf, .ref a_Model_crossedAt, .ref a_Model_strokeOf, .ref a_Model_prices, .ref a_Model_hitAt, .ref a_Model_carried])), (a_Model_now, .inl (cI, 187, .inl Model_now)), (a_Model_prices, .inl (cI, 525, .inl Model_prices)), (a_Model_hitAt, .inl (cI, 20, .inl Model_hitAt))] H → va_D A [(a_Model, .inr (11, [.ref a_Model_now, .ref a_Model_past, .int Model_kept, .int Model_findings, .ref a_Model_bits, .ref a_Model_sizes, .ref a_Model_sheets, .ref a_Model_least, .ref a_Model_ways, .int Model_thenCost, .int Model_thenWays, .int Model_bothCost, .int Model_bothWays, .ref a_Model_handOf, .ref a_Model_crossedAt, .ref a_Model_strokeOf, .ref a_Model_prices, .ref a_Model_hitAt, .ref a_Model_carried])), (a_Model_now, .inl (cI, 187, .inl Model_now)), (a_Model_prices, .inl (cI, 525, .inl Model_prices)), (a_Model_hitAt, .inl (cI, 20, .inl Model_hitAt))] → va_S A s.heap H locs → lv_has ls 8 [(0, .ref a_Model), (1, .int l1), (2, .int l2), (3, .int l3), (4, .int l4), (5, .int l5), (6, .int l6)] → f_Model_findReading_177 Model_now (f_Model_findReading_158 Model_now  n158) n177 l1 l2 l3 l4 l5 l6 Model_prices Model_hitAt = some (z_Model_prices, z_Model_hitAt) → W p l e (headSpec wsX11_findReading rm_Model_findReading).room s m ([.ref a_Model, .int p1] : List Value).toArray below meth c H locs 0 0 Q9 (F0 m 177 ls []) := by
        intro n177
        induction n177 with
        | zero => intro l1 l2 l3 l4 l5 l6 Model_prices Model_hitAt H locs ls hP hD hS hl hf; exact nomatch (show none = some (z_Model_prices, z_Model_hitAt) from hf)
        | succ n177 ih177 =>
          have hJ231 : ∀ (l1 l2 l3 l4 l5 l6 k0 : Int32) (Model_prices Model_hitAt : Nat → Int32) (H : Heap) (locs : List Loc) (ls : Array Slot), va_P D vwCl [(a_Model, .inr (11, [.ref a_Model_now, .ref a_Model_past, .int Model_kept, .int Model_findings, .ref a_Model_bits, .ref a_Model_sizes, .ref a_Model_sheets, .ref a_Model_least, .ref a_Model_ways, .int Model_thenCost, .int Model_thenWays, .int Model_bothCost, .int Model_bothWays, .ref a_Model_handOf, .ref a_Model_crossedAt, .ref a_Model_strokeOf, .ref a_Model_prices, .ref a_Model_hitAt, .ref a_Model_carried])), (a_Model_now, .inl (cI, 187, .inl Model_now)), (a_Model_prices, .inl (cI, 525, .inl Model_prices)), (a_Model_hitAt, .inl (cI, 20, .inl Model_hitAt))] H → va_D A [(a_Model, .inr (11, [.ref a_Model_now, .ref a_Model_past, .int Model_kept, .int Model_findings, .ref a_Model_bits, .ref a_Model_sizes, .ref a_Model_sheets, .ref a_Model_least, .ref a_Model_ways, .int Model_thenCost, .int Model_thenWays, .int Model_bothCost, .int Model_bothWays, .ref a_Model_handOf, .ref a_Model_crossedAt, .ref a_Model_strokeOf, .ref a_Model_prices, .ref a_Model_hitAt, .ref a_Model_carried])), (a_Model_now, .inl (cI, 187, .inl Model_now)), (a_Model_prices, .inl (cI, 525, .inl Model_prices)), (a_Model_hitAt, .inl (cI, 20, .inl Model_hitAt))] → va_S A s.heap H locs → lv_has ls 8 [(0, .ref a_Model), (1, .int l1), (2, .int l2), (3, .int l3), (4, .int l4), (5, .int l5), (6, .int l6)] → f_Model_findReading_231 Model_now (f_Model_findReading_158 Model_now  n158) (f_Model_findReading_177 Model_now (f_Model_findReading_158 Model_now  n158) n177) l1 l2 l3 l4 l5 l6 k0 Model_prices Model_hitAt = some (z_Model_prices, z_Model_hitAt) → W p l e (headSpec wsX11_findReading rm_Model_findReading).room s m ([.ref a_Model, .int p1] : List Value).toArray below meth c H locs 0 0 Q9 (F0 m 231 ls [.int k0]) := by
            intro l1 l2 l3 l4 l5 l6 k0 Model_prices Model_hitAt H locs ls hP hD hS hl hf
            unfold f_Model_findReading_231 at hf
            refine lv_istore (lv' := [(7, .int k0), (0, .ref a_Model), (1, .int l1), (2, .int l2), (3, .int l3), (4, .int l4), (5, .int l5), (6, .int l6)]) hx hb dX11_findReading_231 hl (by decide) rfl (fun ls hl => ?_)
            refine lv_aload_n hx hb dX11_findReading_233 rfl (lv_at hl 1 rfl) ?_
            refine va_get (D := D) (ci := 11) (v := .ref a_Model_hitAt) (C := RX11) (T := TX11) (N := 19) hx hb hts inX11 hown hK hP 0 rfl rfl 17 (by decide) fl44 (fun _ h9 => h9) rfl dX11_findReading_234 ?_
            refine lv_iload hx hb dX11_findReading_237 (lv_at hl 6 rfl) ?_
            refine lv_iload hx hb dX11_findReading_239 (lv_at hl 0 rfl) ?_
            refine lv_if_eq (tgt := 249) hx hb dX11_findReading_241 (by decide) (fun c1 => ?_) (fun c1 => ?_)
            · have hf := ite_t c1 hf
              refine lv_aload_n hx hb dX11_findReading_249 rfl (lv_at hl 1 rfl) ?_
              refine va_get (D := D) (ci := 11) (v := .ref a_Model_hitAt) (C := RX11) (T := TX11) (N := 19) hx hb hts inX11 hown hK hP 0 rfl rfl 17 (by decide) fl44 (fun _ h9 => h9) rfl dX11_findReading_250 ?_
              refine lv_iload hx hb dX11_findReading_253 (lv_at hl 6 rfl) ?_
              obtain ⟨ix2, x2, ex2, hf⟩ := rd_s hf
              refine va_iald hx hb hK hP 3 0 rfl rfl ix2 dX11_findReading_255 ?_
              refine lv_tpx ex2 ?_
              obtain ⟨i3, hf⟩ := ck_s hf
              refine va_iast hx hb hK hP hD hS 3 0 rfl rfl i3 dX11_findReading_256 (fun H locs hP hD hS => ?_)
              have hP : va_P D vwCl [(a_Model, .inr (11, [.ref a_Model_now, .ref a_Model_past, .int Model_kept, .int Model_findings, .ref a_Model_bits, .ref a_Model_sizes, .ref a_Model_sheets, .ref a_Model_least, .ref a_Model_ways, .int Model_thenCost, .int Model_thenWays, .int Model_bothCost, .int Model_bothWays, .ref a_Model_handOf, .ref a_Model_crossedAt, .ref a_Model_strokeOf, .ref a_Model_prices, .ref a_Model_hitAt, .ref a_Model_carried])), (a_Model_now, .inl (cI, 187, .inl Model_now)), (a_Model_prices, .inl (cI, 525, .inl Model_prices)), (a_Model_hitAt, .inl (cI, 20, .inl (upd Model_hitAt l5.toNatClampNeg x2)))] H := hP
              have hD : va_D A [(a_Model, .inr (11, [.ref a_Model_now, .ref a_Model_past, .int Model_kept, .int Model_findings, .ref a_Model_bits, .ref a_Model_sizes, .ref a_Model_sheets, .ref a_Model_least, .ref a_Model_ways, .int Model_thenCost, .int Model_thenWays, .int Model_bothCost, .int Model_bothWays, .ref a_Model_handOf, .ref a_Model_crossedAt, .ref a_Model_strokeOf, .ref a_Model_prices, .ref a_Model_hitAt, .ref a_Model_carried])), (a_Model_now, .inl (cI, 187, .inl Model_now)), (a_Model_prices, .inl (cI, 525, .inl Model_prices)), (a_Model_hitAt, .inl (cI, 20, .inl (upd Model_hitAt l5.toNatClampNeg x2)))] := hD
              obtain ⟨x4, ex4, hf⟩ := nm_s hf
              refine lv_iinc (v := x4) (lv' := [(6, .int x4), (7, .int k0), (0, .ref a_Model), (1, .int l1), (2, .int l2), (3, .int l3), (4, .int l4), (5, .int l5)]) hx hb dX11_findReading_257 hl (k := 7) rfl (by rw [ex4]; rfl) (by decide) rfl (fun ls hl => ?_)
              refine lv_goto (tgt := 177) hx hb dX11_findReading_260 (by decide) ?_
              exact ih177 l1 l2 l3 l4 l5 x4 Model_prices (upd Model_hitAt l5.toNatClampNeg x2) H locs ls hP hD hS (lv_sub hl [2, 3, 4, 5, 6, 7, 0] rfl) hf
            · have hf := ite_f c1 hf
              refine lv_iload hx hb dX11_findReading_244 (lv_at hl 7 rfl) ?_
              refine lv_goto (tgt := 256) hx hb dX11_findReading_246 (by decide) ?_
              obtain ⟨i5, hf⟩ := ck_s hf
              refine va_iast hx hb hK hP hD hS 3 0 rfl rfl i5 dX11_findReading_256 (fun H locs hP hD hS => ?_)
              have hP : va_P D vwCl [(a_Model, .inr (11, [.ref a_Model_now, .ref a_Model_past, .int Model_kept, .int Model_findings, .ref a_Model_bits, .ref a_Model_sizes, .ref a_Model_sheets, .ref a_Model_least, .ref a_Model_ways, .int Model_thenCost, .int Model_thenWays, .int Model_bothCost, .int Model_bothWays, .ref a_Model_handOf, .ref a_Model_crossedAt, .ref a_Model_strokeOf, .ref a_Model_prices, .ref a_Model_hitAt, .ref a_Model_carried])), (a_Model_now, .inl (cI, 187, .inl Model_now)), (a_Model_prices, .inl (cI, 525, .inl Model_prices)), (a_Model_hitAt, .inl (cI, 20, .inl (upd Model_hitAt l5.toNatClampNeg l6)))] H := hP
              have hD : va_D A [(a_Model, .inr (11, [.ref a_Model_now, .ref a_Model_past, .int Model_kept, .int Model_findings, .ref a_Model_bits, .ref a_Model_sizes, .ref a_Model_sheets, .ref a_Model_least, .ref a_Model_ways, .int Model_thenCost, .int Model_thenWays, .int Model_bothCost, .int Model_bothWays, .ref a_Model_handOf, .ref a_Model_crossedAt, .ref a_Model_strokeOf, .ref a_Model_prices, .ref a_Model_hitAt, .ref a_Model_carried])), (a_Model_now, .inl (cI, 187, .inl Model_now)), (a_Model_prices, .inl (cI, 525, .inl Model_prices)), (a_Model_hitAt, .inl (cI, 20, .inl (upd Model_hitAt l5.toNatClampNeg l6)))] := hD
              obtain ⟨x6, ex6, hf⟩ := nm_s hf
              refine lv_iinc (v := x6) (lv' := [(6, .int x6), (7, .int k0), (0, .ref a_Model), (1, .int l1), (2, .int l2), (3, .int l3), (4, .int l4), (5, .int l5)]) hx hb dX11_findReading_257 hl (k := 7) rfl (by rw [ex6]; rfl) (by decide) rfl (fun ls hl => ?_)
              refine lv_goto (tgt := 177) hx hb dX11_findReading_260 (by decide) ?_
              exact ih177 l1 l2 l3 l4 l5 x6 Model_prices (upd Model_hitAt l5.toNatClampNeg l6) H locs ls hP hD hS (lv_sub hl [2, 3, 4, 5, 6, 7, 0] rfl) hf
          intro l1 l2 l3 l4 l5 l6 Model_prices Model_hitAt H locs ls hP hD hS hl hf
          have hf : f_Model_findReading_177_b Model_now (f_Model_findReading_158 Model_now  n158) (f_Model_findReading_177 Model_now (f_Model_findReading_158 Model_now  n158) n177) l1 l2 l3 l4 l5 l6 Model_prices Model_hitAt = some (z_Model_prices, z_Model_hitAt) := hf
          unfold f_Model_findReading_177_b at hf
          refine lv_iload hx hb dX11_findReading_177 (lv_at hl 6 rfl) ?_
          refine lv_iload hx hb dX11_findReading_179 (lv_at hl 4 rfl) ?_
          refine lv_icmp_lt (tgt := 263) hx hb dX11_findReading_181 (by decide) (fun c7 => ?_) (fun c7 => ?_)
          · have hf := ite_t c7 hf
            refine lv_aload_n hx hb dX11_findReading_263 rfl (lv_at hl 0 rfl) ?_
            refine va_get (D := D) (ci := 11) (v := .ref a_Model_hitAt) (C := RX11) (T := TX11) (N := 19) hx hb hts inX11 hown hK hP 0 rfl rfl 17 (by decide) fl44 (fun _ h9 => h9) rfl dX11_findReading_264 ?_
            refine lv_iload hx hb dX11_findReading_267 (lv_at hl 5 rfl) ?_
            obtain ⟨ix8, x8, ex8, hf⟩ := rd_s hf
            refine va_iald hx hb hK hP 3 0 rfl rfl ix8 dX11_findReading_269 ?_
            refine lv_tpx ex8 ?_
            refine lv_if_lt (tgt := 285) hx hb dX11_findReading_270 (by decide) (fun c9 => ?_) (fun c9 => ?_)
            · have hf := ite_t c9 hf
              refine lv_iload hx hb dX11_findReading_285 (lv_at hl 4 rfl) ?_
              refine lv_istore (lv' := [(4, .int l4), (0, .ref a_Model), (1, .int l1), (2, .int l2), (3, .int l3), (5, .int l5), (6, .int l6)]) hx hb dX11_findReading_287 hl (by decide) rfl (fun ls hl => ?_)
              obtain ⟨x10, ex10, hf⟩ := nm_s hf
              refine lv_iinc (v := x10) (lv' := [(5, .int x10), (4, .int l4), (0, .ref a_Model), (1, .int l1), (2, .int l2), (3, .int l3), (6, .int l6)]) hx hb dX11_findReading_289 hl (k := 5) rfl (by rw [ex10]; rfl) (by decide) rfl (fun ls hl => ?_)
              refine lv_goto (tgt := 158) hx hb dX11_findReading_292 (by decide) ?_
              exact ih158 l1 l2 l3 l4 x10 Model_prices Model_hitAt H locs ls hP hD hS (lv_sub hl [2, 3, 4, 5, 1, 0] rfl) hf
            · have hf := ite_f c9 hf
              refine lv_aload_n hx hb dX11_findReading_273 rfl (lv_at hl 0 rfl) ?_
              refine va_get (D := D) (ci := 11) (v := .ref a_Model_hitAt) (C := RX11) (T := TX11) (N := 19) hx hb hts inX11 hown hK hP 0 rfl rfl 17 (by decide) fl44 (fun _ h9 => h9) rfl dX11_findReading_274 ?_
              refine lv_iload hx hb dX11_findReading_277 (lv_at hl 5 rfl) ?_
              obtain ⟨ix11, x11, ex11, hf⟩ := rd_s hf
              refine va_iald hx hb hK hP 3 0 rfl rfl ix11 dX11_findReading_279 ?_
              refine lv_tpx ex11 ?_
              refine lv_iconst (v := 1) hx hb dX11_findReading_280 (by decide) ?_
              refine lv_iadd hx hb dX11_findReading_281 ?_
              refine lv_goto (tgt := 287) hx hb dX11_findReading_282 (by decide) ?_
              obtain ⟨x12, ex12, hf⟩ := nm_s hf
              refine lv_tpx ex12 ?_
              refine lv_istore (lv' := [(4, .int x12), (0, .ref a_Model), (1, .int l1), (2, .int l2), (3, .int l3), (5, .int l5), (6, .int l6)]) hx hb dX11_findReading_287 hl (by decide) rfl (fun ls hl => ?_)
              obtain ⟨x13, ex13, hf⟩ := nm_s hf
              refine lv_iinc (v := x13) (lv' := [(5, .int x13), (4, .int x12), (0, .ref a_Model), (1, .int l1), (2, .int l2), (3, .int l3), (6, .int l6)]) hx hb dX11_findReading_289 hl (k := 5) rfl (by rw [ex13]; rfl) (by decide) rfl (fun ls hl => ?_)
              refine lv_goto (tgt := 158) hx hb dX11_findReading_292 (by decide) ?_
              exact ih158 l1 l2 l3 x12 x13 Model_prices Model_hitAt H locs ls hP hD hS (lv_sub hl [2, 3, 4, 5, 1, 0] rfl) hf
          · have hf := ite_f c7 hf
            refine lv_bipush (v := 40) hx hb dX11_findReading_184 (by decide) ?_
            refine lv_iload hx hb dX11_findReading_186 (lv_at hl 6 rfl) ?_
            refine lv_iload hx hb dX11_findReading_188 (lv_at hl 4 rfl) ?_
            refine lv_isub hx hb dX11_findReading_190 ?_
            refine lv_imul hx hb dX11_findReading_191 ?_
            refine lv_aload_n hx hb dX11_findReading_192 rfl (lv_at hl 0 rfl) ?_
            refine lv_iload_n hx hb dX11_findReading_193 rfl (lv_at hl 1 rfl) ?_
            refine lv_iload hx hb dX11_findReading_194 (lv_at hl 5 rfl) ?_
            refine lv_iload hx hb dX11_findReading_196 (lv_at hl 6 rfl) ?_
            obtain ⟨r14, g15, hf⟩ := b1_s hf
            refine k_Vi (rest := [.int (40 * (l6 - l4))]) ⟨hx, hb, hml, hown, hts⟩ (c_Model_matched l D cI cZ t a_Model a_Model_now a_Model_past a_Model_bits a_Model_sizes a_Model_sheets a_Model_least a_Model_ways a_Model_handOf a_Model_crossedAt a_Model_strokeOf a_Model_prices a_Model_hitAt a_Model_carried H.size Model_now Model_kept Model_findings Model_thenCost Model_thenWays Model_bothCost Model_bothWays l1 l5 l6 r14 g15) (cwV 3 hts gX11_findReading_X11_matched rfl rfl rfl (by decide +kernel) ⟨Nat.le_of_ble_eq_true rfl, Nat.le_of_ble_eq_true rfl⟩) hE hP hD hS hA [0, 1] [2, 3] rfl rfl rfl rfl rfl 0 11 rfl rfl rfl rfl hl.1 rfl (Nat.le_of_ble_eq_true rfl) dX11_findReading_198 ⟨Nat.le_of_ble_eq_true rfl, Nat.le_of_ble_eq_true rfl⟩ (fun rq uq H locs hrq hP hD hS => ?_)
            refine lv_tpx hrq.symm ?_
            have hP : va_P D vwCl [(a_Model_prices, .inl (cI, 525, .inl Model_prices)), (a_Model_hitAt, .inl (cI, 20, .inl Model_hitAt)), (a_Model, .inr (11, [.ref a_Model_now, .ref a_Model_past, .int Model_kept, .int Model_findings, .ref a_Model_bits, .ref a_Model_sizes, .ref a_Model_sheets, .ref a_Model_least, .ref a_Model_ways, .int Model_thenCost, .int Model_thenWays, .int Model_bothCost, .int Model_bothWays, .ref a_Model_handOf, .ref a_Model_crossedAt, .ref a_Model_strokeOf, .ref a_Model_prices, .ref a_Model_hitAt, .ref a_Model_carried])), (a_Model_now, .inl (cI, 187, .inl Model_now))] H := hP
            have hD : va_D A [(a_Model_prices, .inl (cI, 525, .inl Model_prices)), (a_Model_hitAt, .inl (cI, 20, .inl Model_hitAt)), (a_Model, .inr (11, [.ref a_Model_now, .ref a_Model_past, .int Model_kept, .int Model_findings, .ref a_Model_bits, .ref a_Model_sizes, .ref a_Model_sheets, .ref a_Model_least, .ref a_Model_ways, .int Model_thenCost, .int Model_thenWays, .int Model_bothCost, .int Model_bothWays, .ref a_Model_handOf, .ref a_Model_crossedAt, .ref a_Model_strokeOf, .ref a_Model_prices, .ref a_Model_hitAt, .ref a_Model_carried])), (a_Model_now, .inl (cI, 187, .inl Model_now))] := hD
            refine lv_iadd hx hb dX11_findReading_201 ?_
            refine lv_aload_n hx hb dX11_findReading_202 rfl (lv_at hl 0 rfl) ?_
            refine lv_iload hx hb dX11_findReading_203 (lv_at hl 5 rfl) ?_
            refine lv_iconst (v := 1) hx hb dX11_findReading_205 (by decide) ?_
            refine lv_iadd hx hb dX11_findReading_206 ?_
            refine lv_iload hx hb dX11_findReading_207 (lv_at hl 6 rfl) ?_
            refine lv_iconst (v := 1) hx hb dX11_findReading_209 (by decide) ?_
            refine lv_iadd hx hb dX11_findReading_210 ?_
            obtain ⟨r16, g17, hf⟩ := b1_s hf
            refine k_Vi (rest := [.int ((40 * (l6 - l4)) + r14)]) ⟨hx, hb, hml, hown, hts⟩ (c_Model_priceFrom l D cI cZ t a_Model a_Model_now a_Model_past a_Model_bits a_Model_sizes a_Model_sheets a_Model_least a_Model_ways a_Model_handOf a_Model_crossedAt a_Model_strokeOf a_Model_prices a_Model_hitAt a_Model_carried H.size Model_prices Model_kept Model_findings Model_thenCost Model_thenWays Model_bothCost Model_bothWays (l5 + 1) (l6 + 1) r16 g17) (cwV 2 hts gX11_findReading_X11_priceFrom rfl rfl rfl (by decide +kernel) ⟨Nat.le_of_ble_eq_true rfl, Nat.le_of_ble_eq_true rfl⟩) hE hP hD hS hA [2, 0] [1, 3] rfl rfl rfl rfl rfl 0 11 rfl rfl rfl rfl hl.1 rfl (Nat.le_of_ble_eq_true rfl) dX11_findReading_211 ⟨Nat.le_of_ble_eq_true rfl, Nat.le_of_ble_eq_true rfl⟩ (fun rq uq H locs hrq hP hD hS => ?_)
            refine lv_tpx hrq.symm ?_
            have hP : va_P D vwCl [(a_Model_hitAt, .inl (cI, 20, .inl Model_hitAt)), (a_Model_now, .inl (cI, 187, .inl Model_now)), (a_Model, .inr (11, [.ref a_Model_now, .ref a_Model_past, .int Model_kept, .int Model_findings, .ref a_Model_bits, .ref a_Model_sizes, .ref a_Model_sheets, .ref a_Model_least, .ref a_Model_ways, .int Model_thenCost, .int Model_thenWays, .int Model_bothCost, .int Model_bothWays, .ref a_Model_handOf, .ref a_Model_crossedAt, .ref a_Model_strokeOf, .ref a_Model_prices, .ref a_Model_hitAt, .ref a_Model_carried])), (a_Model_prices, .inl (cI, 525, .inl Model_prices))] H := hP
            have hD : va_D A [(a_Model_hitAt, .inl (cI, 20, .inl Model_hitAt)), (a_Model_now, .inl (cI, 187, .inl Model_now)), (a_Model, .inr (11, [.ref a_Model_now, .ref a_Model_past, .int Model_kept, .int Model_findings, .ref a_Model_bits, .ref a_Model_sizes, .ref a_Model_sheets, .ref a_Model_least, .ref a_Model_ways, .int Model_thenCost, .int Model_thenWays, .int Model_bothCost, .int Model_bothWays, .ref a_Model_handOf, .ref a_Model_crossedAt, .ref a_Model_strokeOf, .ref a_Model_prices, .ref a_Model_hitAt, .ref a_Model_carried])), (a_Model_prices, .inl (cI, 525, .inl Model_prices))] := hD
            refine lv_iadd hx hb dX11_findReading_214 ?_
            refine lv_aload_n hx hb dX11_findReading_215 rfl (lv_at hl 0 rfl) ?_
            refine lv_iload hx hb dX11_findReading_216 (lv_at hl 5 rfl) ?_
            refine lv_iload hx hb dX11_findReading_218 (lv_at hl 4 rfl) ?_
            obtain ⟨r18, g19, hf⟩ := b1_s hf
            refine k_Vi (rest := [.int (((40 * (l6 - l4)) + r14) + r16)]) ⟨hx, hb, hml, hown, hts⟩ (c_Model_priceFrom l D cI cZ t a_Model a_Model_now a_Model_past a_Model_bits a_Model_sizes a_Model_sheets a_Model_least a_Model_ways a_Model_handOf a_Model_crossedAt a_Model_strokeOf a_Model_prices a_Model_hitAt a_Model_carried H.size Model_prices Model_kept Model_findings Model_thenCost Model_thenWays Model_bothCost Model_bothWays l5 l4 r18 g19) (cwV 2 hts gX11_findReading_X11_priceFrom rfl rfl rfl (by decide +kernel) ⟨Nat.le_of_ble_eq_true rfl, Nat.le_of_ble_eq_true rfl⟩) hE hP hD hS hA [2, 3] [0, 1] rfl rfl rfl rfl rfl 0 11 rfl rfl rfl rfl hl.1 rfl (Nat.le_of_ble_eq_true rfl) dX11_findReading_220 ⟨Nat.le_of_ble_eq_true rfl, Nat.le_of_ble_eq_true rfl⟩ (fun rq uq H locs hrq hP hD hS => ?_)
            refine lv_tpx hrq.symm ?_
            have hP : va_P D vwCl [(a_Model_hitAt, .inl (cI, 20, .inl Model_hitAt)), (a_Model_now, .inl (cI, 187, .inl Model_now)), (a_Model, .inr (11, [.ref a_Model_now, .ref a_Model_past, .int Model_kept, .int Model_findings, .ref a_Model_bits, .ref a_Model_sizes, .ref a_Model_sheets, .ref a_Model_least, .ref a_Model_ways, .int Model_thenCost, .int Model_thenWays, .int Model_bothCost, .int Model_bothWays, .ref a_Model_handOf, .ref a_Model_crossedAt, .ref a_Model_strokeOf, .ref a_Model_prices, .ref a_Model_hitAt, .ref a_Model_carried])), (a_Model_prices, .inl (cI, 525, .inl Model_prices))] H := hP
            have hD : va_D A [(a_Model_hitAt, .inl (cI, 20, .inl Model_hitAt)), (a_Model_now, .inl (cI, 187, .inl Model_now)), (a_Model, .inr (11, [.ref a_Model_now, .ref a_Model_past, .int Model_kept, .int Model_findings, .ref a_Model_bits, .ref a_Model_sizes, .ref a_Model_sheets, .ref a_Model_least, .ref a_Model_ways, .int Model_thenCost, .int Model_thenWays, .int Model_bothCost, .int Model_bothWays, .ref a_Model_handOf, .ref a_Model_crossedAt, .ref a_Model_strokeOf, .ref a_Model_prices, .ref a_Model_hitAt, .ref a_Model_carried])), (a_Model_prices, .inl (cI, 525, .inl Model_prices))] := hD
            refine lv_icmp_ne (tgt := 230) hx hb dX11_findReading_223 (by decide) (fun c20 => ?_) (fun c20 => ?_)
            · have hf := ite_f c20 hf
              refine lv_iconst (v := 0) hx hb dX11_findReading_230 (by decide) ?_
              exact hJ231 l1 l2 l3 l4 l5 l6 0 Model_prices Model_hitAt H locs ls (hP.sub [2, 1, 3, 0] rfl) (hD.sub [2, 1, 3, 0] (by decide) rfl) hS (lv_sub hl [0, 1, 2, 3, 4, 5, 6] rfl) hf
            · have hf := ite_t c20 hf
              refine lv_iconst (v := 1) hx hb dX11_findReading_226 (by decide) ?_
              refine lv_goto (tgt := 231) hx hb dX11_findReading_227 (by decide) ?_
              exact hJ231 l1 l2 l3 l4 l5 l6 1 Model_prices Model_hitAt H locs ls (hP.sub [2, 1, 3, 0] rfl) (hD.sub [2, 1, 3, 0] (by decide) rfl) hS (lv_sub hl [0, 1, 2, 3, 4, 5, 6] rfl) hf
      intro l1 l2 l3 l4 l5 Model_prices Model_hitAt H locs ls hP hD hS hl hf
      have hf : f_Model_findReading_158_b Model_now  (f_Model_findReading_158 Model_now  n158) l1 l2 l3 l4 l5 Model_prices Model_hitAt = some (z_Model_prices, z_Model_hitAt) := hf
      unfold f_Model_findReading_158_b at hf
      refine lv_iload hx hb dX11_findReading_158 (lv_at hl 5 rfl) ?_
      refine lv_iload_n hx hb dX11_findReading_160 rfl (lv_at hl 2 rfl) ?_
      refine lv_icmp_ge (tgt := 295) hx hb dX11_findReading_161 (by decide) (fun c21 => ?_) (fun c21 => ?_)
      · have hf := ite_t c21 hf
        cases hf
        exact k_vret () hQ9 hx hb hr hlocks rfl hP hD hS (Nat.le_of_ble_eq_true rfl) (Nat.le_of_ble_eq_true rfl) dX11_findReading_295
      · have hf := ite_f c21 hf
        refine lv_aload_n hx hb dX11_findReading_164 rfl (lv_at hl 0 rfl) ?_
        refine va_get (D := D) (ci := 11) (v := .ref a_Model_hitAt) (C := RX11) (T := TX11) (N := 19) hx hb hts inX11 hown hK hP 0 rfl rfl 17 (by decide) fl44 (fun _ h9 => h9) rfl dX11_findReading_165 ?_
        refine lv_iload hx hb dX11_findReading_168 (lv_at hl 5 rfl) ?_
        refine lv_iconst (v := (-1)) hx hb dX11_findReading_170 (by decide) ?_
        obtain ⟨i22, hf⟩ := ck_s hf
        refine va_iast hx hb hK hP hD hS 3 0 rfl rfl i22 dX11_findReading_171 (fun H locs hP hD hS => ?_)
        have hP : va_P D vwCl [(a_Model, .inr (11, [.ref a_Model_now, .ref a_Model_past, .int Model_kept, .int Model_findings, .ref a_Model_bits, .ref a_Model_sizes, .ref a_Model_sheets, .ref a_Model_least, .ref a_Model_ways, .int Model_thenCost, .int Model_thenWays, .int Model_bothCost, .int Model_bothWays, .ref a_Model_handOf, .ref a_Model_crossedAt, .ref a_Model_strokeOf, .ref a_Model_prices, .ref a_Model_hitAt, .ref a_Model_carried])), (a_Model_now, .inl (cI, 187, .inl Model_now)), (a_Model_prices, .inl (cI, 525, .inl Model_prices)), (a_Model_hitAt, .inl (cI, 20, .inl (upd Model_hitAt l5.toNatClampNeg (-1))))] H := hP
        have hD : va_D A [(a_Model, .inr (11, [.ref a_Model_now, .ref a_Model_past, .int Model_kept, .int Model_findings, .ref a_Model_bits, .ref a_Model_sizes, .ref a_Model_sheets, .ref a_Model_least, .ref a_Model_ways, .int Model_thenCost, .int Model_thenWays, .int Model_bothCost, .int Model_bothWays, .ref a_Model_handOf, .ref a_Model_crossedAt, .ref a_Model_strokeOf, .ref a_Model_prices, .ref a_Model_hitAt, .ref a_Model_carried])), (a_Model_now, .inl (cI, 187, .inl Model_now)), (a_Model_prices, .inl (cI, 525, .inl Model_prices)), (a_Model_hitAt, .inl (cI, 20, .inl (upd Model_hitAt l5.toNatClampNeg (-1))))] := hD
        refine lv_iload_n hx hb dX11_findReading_172 rfl (lv_at hl 3 rfl) ?_
        refine lv_iconst (v := 1) hx hb dX11_findReading_173 (by decide) ?_
        refine lv_isub hx hb dX11_findReading_174 ?_
        obtain ⟨x23, ex23, hf⟩ := nm_s hf
        refine lv_tpx ex23 ?_
        refine lv_istore (lv' := [(6, .int x23), (0, .ref a_Model), (1, .int l1), (2, .int l2), (3, .int l3), (4, .int l4), (5, .int l5)]) hx hb dX11_findReading_175 hl (by decide) rfl (fun ls hl => ?_)
        exact hL177 fu l1 l2 l3 l4 l5 x23 Model_prices (upd Model_hitAt l5.toNatClampNeg (-1)) H locs ls hP hD hS (lv_sub hl [1, 2, 3, 4, 5, 6, 0] rfl) hf
  have hL20 : ∀ (n20 : Nat) (l1 l2 l3 l4 : Int32) (Model_prices Model_hitAt : Nat → Int32) (H : Heap) (locs : List Loc) (ls : Array Slot), va_P D vwCl [(a_Model, .inr (11, [.ref a_Model_now, .ref a_Model_past, .int Model_kept, .int Model_findings, .ref a_Model_bits, .ref a_Model_sizes, .ref a_Model_sheets, .ref a_Model_least, .ref a_Model_ways, .int Model_thenCost, .int Model_thenWays, .int Model_bothCost, .int Model_bothWays, .ref a_Model_handOf, .ref a_Model_crossedAt, .ref a_Model_strokeOf, .ref a_Model_prices, .ref a_Model_hitAt, .ref a_Model_carried])), (a_Model_now, .inl (cI, 187, .inl Model_now)), (a_Model_prices, .inl (cI, 525, .inl Model_prices)), (a_Model_hitAt, .inl (cI, 20, .inl Model_hitAt))] H → va_D A [(a_Model, .inr (11, [.ref a_Model_now, .ref a_Model_past, .int Model_kept, .int Model_findings, .ref a_Model_bits, .ref a_Model_sizes, .ref a_Model_sheets, .ref a_Model_least, .ref a_Model_ways, .int Model_thenCost, .int Model_thenWays, .int Model_bothCost, .int Model_bothWays, .ref a_Model_handOf, .ref a_Model_crossedAt, .ref a_Model_strokeOf, .ref a_Model_prices, .ref a_Model_hitAt, .ref a_Model_carried])), (a_Model_now, .inl (cI, 187, .inl Model_now)), (a_Model_prices, .inl (cI, 525, .inl Model_prices)), (a_Model_hitAt, .inl (cI, 20, .inl Model_hitAt))] → va_S A s.heap H locs → lv_has ls 8 [(0, .ref a_Model), (1, .int l1), (2, .int l2), (3, .int l3), (4, .int l4)] → f_Model_findReading_20 Model_now  n20 l1 l2 l3 l4 Model_prices Model_hitAt = some (z_Model_prices, z_Model_hitAt) → W p l e (headSpec wsX11_findReading rm_Model_findReading).room s m ([.ref a_Model, .int p1] : List Value).toArray below meth c H locs 0 0 Q9 (F0 m 20 ls []) := by
    intro n20
    induction n20 with
    | zero => intro l1 l2 l3 l4 Model_prices Model_hitAt H locs ls hP hD hS hl hf; exact nomatch (show none = some (z_Model_prices, z_Model_hitAt) from hf)
    | succ n20 ih20 =>
      have hL28 : ∀ (n28 : Nat) (l1 l2 l3 l4 l5 : Int32) (Model_prices Model_hitAt : Nat → Int32) (H : Heap) (locs : List Loc) (ls : Array Slot), va_P D vwCl [(a_Model, .inr (11, [.ref a_Model_now, .ref a_Model_past, .int Model_kept, .int Model_findings, .ref a_Model_bits, .ref a_Model_sizes, .ref a_Model_sheets, .ref a_Model_least, .ref a_Model_ways, .int Model_thenCost, .int Model_thenWays, .int Model_bothCost, .int Model_bothWays, .ref a_Model_handOf, .ref a_Model_crossedAt, .ref a_Model_strokeOf, .ref a_Model_prices, .ref a_Model_hitAt, .ref a_Model_carried])), (a_Model_now, .inl (cI, 187, .inl Model_now)), (a_Model_prices, .inl (cI, 525, .inl Model_prices)), (a_Model_hitAt, .inl (cI, 20, .inl Model_hitAt))] H → va_D A [(a_Model, .inr (11, [.ref a_Model_now, .ref a_Model_past, .int Model_kept, .int Model_findings, .ref a_Model_bits, .ref a_Model_sizes, .ref a_Model_sheets, .ref a_Model_least, .ref a_Model_ways, .int Model_thenCost, .int Model_thenWays, .int Model_bothCost, .int Model_bothWays, .ref a_Model_handOf, .ref a_Model_crossedAt, .ref a_Model_strokeOf, .ref a_Model_prices, .ref a_Model_hitAt, .ref a_Model_carried])), (a_Model_now, .inl (cI, 187, .inl Model_now)), (a_Model_prices, .inl (cI, 525, .inl Model_prices)), (a_Model_hitAt, .inl (cI, 20, .inl Model_hitAt))] → va_S A s.heap H locs → lv_has ls 8 [(0, .ref a_Model), (1, .int l1), (2, .int l2), (3, .int l3), (4, .int l4), (5, .int l5)] → f_Model_findReading_28 Model_now (f_Model_findReading_20 Model_now  n20) n28 l1 l2 l3 l4 l5 Model_prices Model_hitAt = some (z_Model_prices, z_Model_hitAt) → W p l e (headSpec wsX11_findReading rm_Model_findReading).room s m ([.ref a_Model, .int p1] : List Value).toArray below meth c H locs 0 0 Q9 (F0 m 28 ls []) := by
        intro n28
        induction n28 with
        | zero => intro l1 l2 l3 l4 l5 Model_prices Model_hitAt H locs ls hP hD hS hl hf; exact nomatch (show none = some (z_Model_prices, z_Model_hitAt) from hf)
        | succ n28 ih28 =>
          have hJ125 : ∀ (l1 l2 l3 l4 l5 l6 : Int32) (Model_prices Model_hitAt : Nat → Int32) (H : Heap) (locs : List Loc) (ls : Array Slot), va_P D vwCl [(a_Model, .inr (11, [.ref a_Model_now, .ref a_Model_past, .int Model_kept, .int Model_findings, .ref a_Model_bits, .ref a_Model_sizes, .ref a_Model_sheets, .ref a_Model_least, .ref a_Model_ways, .int Model_thenCost, .int Model_thenWays, .int Model_bothCost, .int Model_bothWays, .ref a_Model_handOf, .ref a_Model_crossedAt, .ref a_Model_strokeOf, .ref a_Model_prices, .ref a_Model_hitAt, .ref a_Model_carried])), (a_Model_now, .inl (cI, 187, .inl Model_now)), (a_Model_prices, .inl (cI, 525, .inl Model_prices)), (a_Model_hitAt, .inl (cI, 20, .inl Model_hitAt))] H → va_D A [(a_Model, .inr (11, [.ref a_Model_now, .ref a_Model_past, .int Model_kept, .int Model_findings, .ref a_Model_bits, .ref a_Model_sizes, .ref a_Model_sheets, .ref a_Model_least, .ref a_Model_ways, .int Model_thenCost, .int Model_thenWays, .int Model_bothCost, .int Model_bothWays, .ref a_Model_handOf, .ref a_Model_crossedAt, .ref a_Model_strokeOf, .ref a_Model_prices, .ref a_Model_hitAt, .ref a_Model_carried])), (a_Model_now, .inl (cI, 187, .inl Model_now)), (a_Model_prices, .inl (cI, 525, .inl Model_prices)), (a_Model_hitAt, .inl (cI, 20, .inl Model_hitAt))] → va_S A s.heap H locs → lv_has ls 8 [(0, .ref a_Model), (1, .int l1), (2, .int l2), (3, .int l3), (4, .int l4), (5, .int l5), (6, .int l6)] → f_Model_findReading_125 Model_now (f_Model_findReading_20 Model_now  n20) (f_Model_findReading_28 Model_now (f_Model_findReading_20 Model_now  n20) n28) l1 l2 l3 l4 l5 l6 Model_prices Model_hitAt = some (z_Model_prices, z_Model_hitAt) → W p l e (headSpec wsX11_findReading rm_Model_findReading).room s m ([.ref a_Model, .int p1] : List Value).toArray below meth c H locs 0 0 Q9 (F0 m 125 ls []) := by
            intro l1 l2 l3 l4 l5 l6 Model_prices Model_hitAt H locs ls hP hD hS hl hf
            unfold f_Model_findReading_125 at hf
            refine lv_aload_n hx hb dX11_findReading_125 rfl (lv_at hl 0 rfl) ?_
            refine va_get (D := D) (ci := 11) (v := .ref a_Model_prices) (C := RX11) (T := TX11) (N := 19) hx hb hts inX11 hown hK hP 0 rfl rfl 16 (by decide) fl41 (fun _ h9 => h9) rfl dX11_findReading_126 ?_
            refine lv_bipush (v := 25) hx hb dX11_findReading_129 (by decide) ?_
            refine lv_iload hx hb dX11_findReading_131 (lv_at hl 4 rfl) ?_
            refine lv_imul hx hb dX11_findReading_133 ?_
            refine lv_iload hx hb dX11_findReading_134 (lv_at hl 5 rfl) ?_
            refine lv_iadd hx hb dX11_findReading_136 ?_
            refine lv_iload hx hb dX11_findReading_137 (lv_at hl 6 rfl) ?_
            obtain ⟨i24, hf⟩ := ck_s hf
            refine va_iast hx hb hK hP hD hS 2 0 rfl rfl i24 dX11_findReading_139 (fun H locs hP hD hS => ?_)
            have hP : va_P D vwCl [(a_Model, .inr (11, [.ref a_Model_now, .ref a_Model_past, .int Model_kept, .int Model_findings, .ref a_Model_bits, .ref a_Model_sizes, .ref a_Model_sheets, .ref a_Model_least, .ref a_Model_ways, .int Model_thenCost, .int Model_thenWays, .int Model_bothCost, .int Model_bothWays, .ref a_Model_handOf, .ref a_Model_crossedAt, .ref a_Model_strokeOf, .ref a_Model_prices, .ref a_Model_hitAt, .ref a_Model_carried])), (a_Model_now, .inl (cI, 187, .inl Model_now)), (a_Model_prices, .inl (cI, 525, .inl (upd Model_prices ((25 * l4) + l5).toNatClampNeg l6))), (a_Model_hitAt, .inl (cI, 20, .inl Model_hitAt))] H := hP
            have hD : va_D A [(a_Model, .inr (11, [.ref a_Model_now, .ref a_Model_past, .int Model_kept, .int Model_findings, .ref a_Model_bits, .ref a_Model_sizes, .ref a_Model_sheets, .ref a_Model_least, .ref a_Model_ways, .int Model_thenCost, .int Model_thenWays, .int Model_bothCost, .int Model_bothWays, .ref a_Model_handOf, .ref a_Model_crossedAt, .ref a_Model_strokeOf, .ref a_Model_prices, .ref a_Model_hitAt, .ref a_Model_carried])), (a_Model_now, .inl (cI, 187, .inl Model_now)), (a_Model_prices, .inl (cI, 525, .inl (upd Model_prices ((25 * l4) + l5).toNatClampNeg l6))), (a_Model_hitAt, .inl (cI, 20, .inl Model_hitAt))] := hD
            obtain ⟨x25, ex25, hf⟩ := nm_s hf
            refine lv_iinc (v := x25) (lv' := [(5, .int x25), (0, .ref a_Model), (1, .int l1), (2, .int l2), (3, .int l3), (4, .int l4), (6, .int l6)]) hx hb dX11_findReading_140 hl (k := 5) rfl (by rw [ex25]; rfl) (by decide) rfl (fun ls hl => ?_)
            refine lv_goto (tgt := 28) hx hb dX11_findReading_143 (by decide) ?_
            exact ih28 l1 l2 l3 l4 x25 (upd Model_prices ((25 * l4) + l5).toNatClampNeg l6) Model_hitAt H locs ls hP hD hS (lv_sub hl [1, 2, 3, 4, 5, 0] rfl) hf
          have hJ62 : ∀ (l1 l2 l3 l4 l5 k0 : Int32) (Model_prices Model_hitAt : Nat → Int32) (H : Heap) (locs : List Loc) (ls : Array Slot), va_P D vwCl [(a_Model, .inr (11, [.ref a_Model_now, .ref a_Model_past, .int Model_kept, .int Model_findings, .ref a_Model_bits, .ref a_Model_sizes, .ref a_Model_sheets, .ref a_Model_least, .ref a_Model_ways, .int Model_thenCost, .int Model_thenWays, .int Model_bothCost, .int Model_bothWays, .ref a_Model_handOf, .ref a_Model_crossedAt, .ref a_Model_strokeOf, .ref a_Model_prices, .ref a_Model_hitAt, .ref a_Model_carried])), (a_Model_now, .inl (cI, 187, .inl Model_now)), (a_Model_prices, .inl (cI, 525, .inl Model_prices)), (a_Model_hitAt, .inl (cI, 20, .inl Model_hitAt))] H → va_D A [(a_Model, .inr (11, [.ref a_Model_now, .ref a_Model_past, .int Model_kept, .int Model_findings, .ref a_Model_bits, .ref a_Model_sizes, .ref a_Model_sheets, .ref a_Model_least, .ref a_Model_ways, .int Model_thenCost, .int Model_thenWays, .int Model_bothCost, .int Model_bothWays, .ref a_Model_handOf, .ref a_Model_crossedAt, .ref a_Model_strokeOf, .ref a_Model_prices, .ref a_Model_hitAt, .ref a_Model_carried])), (a_Model_now, .inl (cI, 187, .inl Model_now)), (a_Model_prices, .inl (cI, 525, .inl Model_prices)), (a_Model_hitAt, .inl (cI, 20, .inl Model_hitAt))] → va_S A s.heap H locs → lv_has ls 8 [(0, .ref a_Model), (1, .int l1), (2, .int l2), (3, .int l3), (4, .int l4), (5, .int l5)] → f_Model_findReading_62 Model_now (f_Model_findReading_20 Model_now  n20) (f_Model_findReading_28 Model_now (f_Model_findReading_20 Model_now  n20) n28) l1 l2 l3 l4 l5 k0 Model_prices Model_hitAt = some (z_Model_prices, z_Model_hitAt) → W p l e (headSpec wsX11_findReading rm_Model_findReading).room s m ([.ref a_Model, .int p1] : List Value).toArray below meth c H locs 0 0 Q9 (F0 m 62 ls [.int k0]) := by
            intro l1 l2 l3 l4 l5 k0 Model_prices Model_hitAt H locs ls hP hD hS hl hf
            unfold f_Model_findReading_62 at hf
            refine lv_istore (lv' := [(6, .int k0), (0, .ref a_Model), (1, .int l1), (2, .int l2), (3, .int l3), (4, .int l4), (5, .int l5)]) hx hb dX11_findReading_62 hl (by decide) rfl (fun ls hl => ?_)
            refine lv_iload hx hb dX11_findReading_64 (lv_at hl 5 rfl) ?_
            refine lv_iload_n hx hb dX11_findReading_66 rfl (lv_at hl 3 rfl) ?_
            refine lv_icmp_ge (tgt := 125) hx hb dX11_findReading_67 (by decide) (fun c26 => ?_) (fun c26 => ?_)
            · have hf := ite_t c26 hf
              exact hJ125 l1 l2 l3 l4 l5 k0 Model_prices Model_hitAt H locs ls hP hD hS (lv_sub hl [1, 2, 3, 4, 5, 6, 0] rfl) hf
            · have hf := ite_f c26 hf
              refine lv_iload hx hb dX11_findReading_70 (lv_at hl 6 rfl) ?_
              refine lv_iload_n hx hb dX11_findReading_72 rfl (lv_at hl 4 rfl) ?_
              refine lv_icmp_ge (tgt := 125) hx hb dX11_findReading_73 (by decide) (fun c27 => ?_) (fun c27 => ?_)
              · have hf := ite_t c27 hf
                exact hJ125 l1 l2 l3 l4 l5 k0 Model_prices Model_hitAt H locs ls hP hD hS (lv_sub hl [1, 2, 3, 4, 5, 6, 0] rfl) hf
              · have hf := ite_f c27 hf
                refine lv_iload hx hb dX11_findReading_76 (lv_at hl 0 rfl) ?_
                refine lv_bipush (v := 40) hx hb dX11_findReading_78 (by decide) ?_
                refine lv_aload_n hx hb dX11_findReading_80 rfl (lv_at hl 1 rfl) ?_
                refine lv_iload hx hb dX11_findReading_81 (lv_at hl 5 rfl) ?_
                refine lv_iload hx hb dX11_findReading_83 (lv_at hl 6 rfl) ?_
                refine lv_iconst (v := 1) hx hb dX11_findReading_85 (by decide) ?_
                refine lv_iadd hx hb dX11_findReading_86 ?_
                obtain ⟨r28, g29, hf⟩ := b1_s hf
                refine k_Vi (rest := [.int 40, .int k0]) ⟨hx, hb, hml, hown, hts⟩ (c_Model_priceFrom l D cI cZ t a_Model a_Model_now a_Model_past a_Model_bits a_Model_sizes a_Model_sheets a_Model_least a_Model_ways a_Model_handOf a_Model_crossedAt a_Model_strokeOf a_Model_prices a_Model_hitAt a_Model_carried H.size Model_prices Model_kept Model_findings Model_thenCost Model_thenWays Model_bothCost Model_bothWays l4 (l5 + 1) r28 g29) (cwV 2 hts gX11_findReading_X11_priceFrom rfl rfl rfl (by decide +kernel) ⟨Nat.le_of_ble_eq_true rfl, Nat.le_of_ble_eq_true rfl⟩) hE hP hD hS hA [0, 2] [1, 3] rfl rfl rfl rfl rfl 0 11 rfl rfl rfl rfl hl.1 rfl (Nat.le_of_ble_eq_true rfl) dX11_findReading_87 ⟨Nat.le_of_ble_eq_true rfl, Nat.le_of_ble_eq_true rfl⟩ (fun rq uq H locs hrq hP hD hS => ?_)
                refine lv_tpx hrq.symm ?_
                have hP : va_P D vwCl [(a_Model_now, .inl (cI, 187, .inl Model_now)), (a_Model_hitAt, .inl (cI, 20, .inl Model_hitAt)), (a_Model, .inr (11, [.ref a_Model_now, .ref a_Model_past, .int Model_kept, .int Model_findings, .ref a_Model_bits, .ref a_Model_sizes, .ref a_Model_sheets, .ref a_Model_least, .ref a_Model_ways, .int Model_thenCost, .int Model_thenWays, .int Model_bothCost, .int Model_bothWays, .ref a_Model_handOf, .ref a_Model_crossedAt, .ref a_Model_strokeOf, .ref a_Model_prices, .ref a_Model_hitAt, .ref a_Model_carried])), (a_Model_prices, .inl (cI, 525, .inl Model_prices))] H := hP
                have hD : va_D A [(a_Model_now, .inl (cI, 187, .inl Model_now)), (a_Model_hitAt, .inl (cI, 20, .inl Model_hitAt)), (a_Model, .inr (11, [.ref a_Model_now, .ref a_Model_past, .int Model_kept, .int Model_findings, .ref a_Model_bits, .ref a_Model_sizes, .ref a_Model_sheets, .ref a_Model_least, .ref a_Model_ways, .int Model_thenCost, .int Model_thenWays, .int Model_bothCost, .int Model_bothWays, .ref a_Model_handOf, .ref a_Model_crossedAt, .ref a_Model_strokeOf, .ref a_Model_prices, .ref a_Model_hitAt, .ref a_Model_carried])), (a_Model_prices, .inl (cI, 525, .inl Model_prices))] := hD
                refine lv_iadd hx hb dX11_findReading_90 ?_
                refine va_mmin hx hb (hml.trans hl.1.symm) hown ml126 ms_min mini mc_min (Nat.le_of_ble_eq_true rfl) (Nat.le_of_ble_eq_true rfl) (Nat.le_of_ble_eq_true rfl) (Nat.le_of_ble_eq_true rfl) dX11_findReading_91 ?_
                obtain ⟨x30, ex30, hf⟩ := nm_s hf
                refine lv_tpx ex30 ?_
                refine lv_istore (lv' := [(6, .int x30), (0, .ref a_Model), (1, .int l1), (2, .int l2), (3, .int l3), (4, .int l4), (5, .int l5)]) hx hb dX11_findReading_94 hl (by decide) rfl (fun ls hl => ?_)
                refine lv_iload hx hb dX11_findReading_96 (lv_at hl 0 rfl) ?_
                refine lv_aload_n hx hb dX11_findReading_98 rfl (lv_at hl 1 rfl) ?_
                refine lv_iload_n hx hb dX11_findReading_99 rfl (lv_at hl 2 rfl) ?_
                refine lv_iload hx hb dX11_findReading_100 (lv_at hl 5 rfl) ?_
                refine lv_iload hx hb dX11_findReading_102 (lv_at hl 6 rfl) ?_
                obtain ⟨r31, g32, hf⟩ := b1_s hf
                refine k_Vi (rest := [.int x30]) ⟨hx, hb, hml, hown, hts⟩ (c_Model_matched l D cI cZ t a_Model a_Model_now a_Model_past a_Model_bits a_Model_sizes a_Model_sheets a_Model_least a_Model_ways a_Model_handOf a_Model_crossedAt a_Model_strokeOf a_Model_prices a_Model_hitAt a_Model_carried H.size Model_now Model_kept Model_findings Model_thenCost Model_thenWays Model_bothCost Model_bothWays l1 l4 l5 r31 g32) (cwV 3 hts gX11_findReading_X11_matched rfl rfl rfl (by decide +kernel) ⟨Nat.le_of_ble_eq_true rfl, Nat.le_of_ble_eq_true rfl⟩) hE hP hD hS hA [2, 0] [1, 3] rfl rfl rfl rfl rfl 0 11 rfl rfl rfl rfl hl.1 rfl (Nat.le_of_ble_eq_true rfl) dX11_findReading_104 ⟨Nat.le_of_ble_eq_true rfl, Nat.le_of_ble_eq_true rfl⟩ (fun rq uq H locs hrq hP hD hS => ?_)
                refine lv_tpx hrq.symm ?_
                have hP : va_P D vwCl [(a_Model_hitAt, .inl (cI, 20, .inl Model_hitAt)), (a_Model_prices, .inl (cI, 525, .inl Model_prices)), (a_Model, .inr (11, [.ref a_Model_now, .ref a_Model_past, .int Model_kept, .int Model_findings, .ref a_Model_bits, .ref a_Model_sizes, .ref a_Model_sheets, .ref a_Model_least, .ref a_Model_ways, .int Model_thenCost, .int Model_thenWays, .int Model_bothCost, .int Model_bothWays, .ref a_Model_handOf, .ref a_Model_crossedAt, .ref a_Model_strokeOf, .ref a_Model_prices, .ref a_Model_hitAt, .ref a_Model_carried])), (a_Model_now, .inl (cI, 187, .inl Model_now))] H := hP
                have hD : va_D A [(a_Model_hitAt, .inl (cI, 20, .inl Model_hitAt)), (a_Model_prices, .inl (cI, 525, .inl Model_prices)), (a_Model, .inr (11, [.ref a_Model_now, .ref a_Model_past, .int Model_kept, .int Model_findings, .ref a_Model_bits, .ref a_Model_sizes, .ref a_Model_sheets, .ref a_Model_least, .ref a_Model_ways, .int Model_thenCost, .int Model_thenWays, .int Model_bothCost, .int Model_bothWays, .ref a_Model_handOf, .ref a_Model_crossedAt, .ref a_Model_strokeOf, .ref a_Model_prices, .ref a_Model_hitAt, .ref a_Model_carried])), (a_Model_now, .inl (cI, 187, .inl Model_now))] := hD
                refine lv_aload_n hx hb dX11_findReading_107 rfl (lv_at hl 1 rfl) ?_
                refine lv_iload hx hb dX11_findReading_108 (lv_at hl 5 rfl) ?_
                refine lv_iconst (v := 1) hx hb dX11_findReading_110 (by decide) ?_
                refine lv_iadd hx hb dX11_findReading_111 ?_
                refine lv_iload hx hb dX11_findReading_112 (lv_at hl 6 rfl) ?_
                refine lv_iconst (v := 1) hx hb dX11_findReading_114 (by decide) ?_
                refine lv_iadd hx hb dX11_findReading_115 ?_
                obtain ⟨r33, g34, hf⟩ := b1_s hf
                refine k_Vi (rest := [.int r31, .int x30]) ⟨hx, hb, hml, hown, hts⟩ (c_Model_priceFrom l D cI cZ t a_Model a_Model_now a_Model_past a_Model_bits a_Model_sizes a_Model_sheets a_Model_least a_Model_ways a_Model_handOf a_Model_crossedAt a_Model_strokeOf a_Model_prices a_Model_hitAt a_Model_carried H.size Model_prices Model_kept Model_findings Model_thenCost Model_thenWays Model_bothCost Model_bothWays (l4 + 1) (l5 + 1) r33 g34) (cwV 2 hts gX11_findReading_X11_priceFrom rfl rfl rfl (by decide +kernel) ⟨Nat.le_of_ble_eq_true rfl, Nat.le_of_ble_eq_true rfl⟩) hE hP hD hS hA [2, 1] [0, 3] rfl rfl rfl rfl rfl 0 11 rfl rfl rfl rfl hl.1 rfl (Nat.le_of_ble_eq_true rfl) dX11_findReading_116 ⟨Nat.le_of_ble_eq_true rfl, Nat.le_of_ble_eq_true rfl⟩ (fun rq uq H locs hrq hP hD hS => ?_)
                refine lv_tpx hrq.symm ?_
                have hP : va_P D vwCl [(a_Model_hitAt, .inl (cI, 20, .inl Model_hitAt)), (a_Model_now, .inl (cI, 187, .inl Model_now)), (a_Model, .inr (11, [.ref a_Model_now, .ref a_Model_past, .int Model_kept, .int Model_findings, .ref a_Model_bits, .ref a_Model_sizes, .ref a_Model_sheets, .ref a_Model_least, .ref a_Model_ways, .int Model_thenCost, .int Model_thenWays, .int Model_bothCost, .int Model_bothWays, .ref a_Model_handOf, .ref a_Model_crossedAt, .ref a_Model_strokeOf, .ref a_Model_prices, .ref a_Model_hitAt, .ref a_Model_carried])), (a_Model_prices, .inl (cI, 525, .inl Model_prices))] H := hP
                have hD : va_D A [(a_Model_hitAt, .inl (cI, 20, .inl Model_hitAt)), (a_Model_now, .inl (cI, 187, .inl Model_now)), (a_Model, .inr (11, [.ref a_Model_now, .ref a_Model_past, .int Model_kept, .int Model_findings, .ref a_Model_bits, .ref a_Model_sizes, .ref a_Model_sheets, .ref a_Model_least, .ref a_Model_ways, .int Model_thenCost, .int Model_thenWays, .int Model_bothCost, .int Model_bothWays, .ref a_Model_handOf, .ref a_Model_crossedAt, .ref a_Model_strokeOf, .ref a_Model_prices, .ref a_Model_hitAt, .ref a_Model_carried])), (a_Model_prices, .inl (cI, 525, .inl Model_prices))] := hD
                refine lv_iadd hx hb dX11_findReading_119 ?_
                refine va_mmin hx hb (hml.trans hl.1.symm) hown ml126 ms_min mini mc_min (Nat.le_of_ble_eq_true rfl) (Nat.le_of_ble_eq_true rfl) (Nat.le_of_ble_eq_true rfl) (Nat.le_of_ble_eq_true rfl) dX11_findReading_120 ?_
                obtain ⟨x35, ex35, hf⟩ := nm_s hf
                refine lv_tpx ex35 ?_
                refine lv_istore (lv' := [(6, .int x35), (0, .ref a_Model), (1, .int l1), (2, .int l2), (3, .int l3), (4, .int l4), (5, .int l5)]) hx hb dX11_findReading_123 hl (by decide) rfl (fun ls hl => ?_)
                exact hJ125 l1 l2 l3 l4 l5 x35 Model_prices Model_hitAt H locs ls (hP.sub [2, 1, 3, 0] rfl) (hD.sub [2, 1, 3, 0] (by decide) rfl) hS (lv_sub hl [1, 2, 3, 4, 5, 6, 0] rfl) hf
          intro l1 l2 l3 l4 l5 Model_prices Model_hitAt H locs ls hP hD hS hl hf
          have hf : f_Model_findReading_28_b Model_now (f_Model_findReading_20 Model_now  n20) (f_Model_findReading_28 Model_now (f_Model_findReading_20 Model_now  n20) n28) l1 l2 l3 l4 l5 Model_prices Model_hitAt = some (z_Model_prices, z_Model_hitAt) := hf
          unfold f_Model_findReading_28_b at hf
          refine lv_iload hx hb dX11_findReading_28 (lv_at hl 5 rfl) ?_
          refine lv_if_lt (tgt := 146) hx hb dX11_findReading_30 (by decide) (fun c36 => ?_) (fun c36 => ?_)
          · have hf := ite_t c36 hf
            obtain ⟨x37, ex37, hf⟩ := nm_s hf
            refine lv_iinc (v := x37) (lv' := [(4, .int x37), (0, .ref a_Model), (1, .int l1), (2, .int l2), (3, .int l3), (5, .int l5)]) hx hb dX11_findReading_146 hl (k := 4) rfl (by rw [ex37]; rfl) (by decide) rfl (fun ls hl => ?_)
            refine lv_goto (tgt := 20) hx hb dX11_findReading_149 (by decide) ?_
            exact ih20 l1 l2 l3 x37 Model_prices Model_hitAt H locs ls hP hD hS (lv_sub hl [1, 2, 3, 4, 0] rfl) hf
          · have hf := ite_f c36 hf
            refine lv_iload hx hb dX11_findReading_33 (lv_at hl 4 rfl) ?_
            refine lv_iload_n hx hb dX11_findReading_35 rfl (lv_at hl 2 rfl) ?_
            refine lv_icmp_ne (tgt := 49) hx hb dX11_findReading_36 (by decide) (fun c38 => ?_) (fun c38 => ?_)
            · have hf := ite_f c38 hf
              refine lv_bipush (v := 40) hx hb dX11_findReading_49 (by decide) ?_
              refine lv_aload_n hx hb dX11_findReading_51 rfl (lv_at hl 0 rfl) ?_
              refine lv_iload hx hb dX11_findReading_52 (lv_at hl 4 rfl) ?_
              refine lv_iconst (v := 1) hx hb dX11_findReading_54 (by decide) ?_
              refine lv_iadd hx hb dX11_findReading_55 ?_
              refine lv_iload hx hb dX11_findReading_56 (lv_at hl 5 rfl) ?_
              obtain ⟨r39, g40, hf⟩ := b1_s hf
              refine k_Vi (rest := [.int 40]) ⟨hx, hb, hml, hown, hts⟩ (c_Model_priceFrom l D cI cZ t a_Model a_Model_now a_Model_past a_Model_bits a_Model_sizes a_Model_sheets a_Model_least a_Model_ways a_Model_handOf a_Model_crossedAt a_Model_strokeOf a_Model_prices a_Model_hitAt a_Model_carried H.size Model_prices Model_kept Model_findings Model_thenCost Model_thenWays Model_bothCost Model_bothWays (l4 + 1) l5 r39 g40) (cwV 2 hts gX11_findReading_X11_priceFrom rfl rfl rfl (by decide +kernel) ⟨Nat.le_of_ble_eq_true rfl, Nat.le_of_ble_eq_true rfl⟩) hE hP hD hS hA [0, 2] [1, 3] rfl rfl rfl rfl rfl 0 11 rfl rfl rfl rfl hl.1 rfl (Nat.le_of_ble_eq_true rfl) dX11_findReading_58 ⟨Nat.le_of_ble_eq_true rfl, Nat.le_of_ble_eq_true rfl⟩ (fun rq uq H locs hrq hP hD hS => ?_)
              refine lv_tpx hrq.symm ?_
              have hP : va_P D vwCl [(a_Model_now, .inl (cI, 187, .inl Model_now)), (a_Model_hitAt, .inl (cI, 20, .inl Model_hitAt)), (a_Model, .inr (11, [.ref a_Model_now, .ref a_Model_past, .int Model_kept, .int Model_findings, .ref a_Model_bits, .ref a_Model_sizes, .ref a_Model_sheets, .ref a_Model_least, .ref a_Model_ways, .int Model_thenCost, .int Model_thenWays, .int Model_bothCost, .int Model_bothWays, .ref a_Model_handOf, .ref a_Model_crossedAt, .ref a_Model_strokeOf, .ref a_Model_prices, .ref a_Model_hitAt, .ref a_Model_carried])), (a_Model_prices, .inl (cI, 525, .inl Model_prices))] H := hP
              have hD : va_D A [(a_Model_now, .inl (cI, 187, .inl Model_now)), (a_Model_hitAt, .inl (cI, 20, .inl Model_hitAt)), (a_Model, .inr (11, [.ref a_Model_now, .ref a_Model_past, .int Model_kept, .int Model_findings, .ref a_Model_bits, .ref a_Model_sizes, .ref a_Model_sheets, .ref a_Model_least, .ref a_Model_ways, .int Model_thenCost, .int Model_thenWays, .int Model_bothCost, .int Model_bothWays, .ref a_Model_handOf, .ref a_Model_crossedAt, .ref a_Model_strokeOf, .ref a_Model_prices, .ref a_Model_hitAt, .ref a_Model_carried])), (a_Model_prices, .inl (cI, 525, .inl Model_prices))] := hD
              refine lv_iadd hx hb dX11_findReading_61 ?_
              exact hJ62 l1 l2 l3 l4 l5 (40 + r39) Model_prices Model_hitAt H locs ls (hP.sub [2, 0, 3, 1] rfl) (hD.sub [2, 0, 3, 1] (by decide) rfl) hS (lv_sub hl [0, 1, 2, 3, 4, 5] rfl) hf
            · have hf := ite_t c38 hf
              refine lv_bipush (v := 40) hx hb dX11_findReading_39 (by decide) ?_
              refine lv_iload_n hx hb dX11_findReading_41 rfl (lv_at hl 3 rfl) ?_
              refine lv_iload hx hb dX11_findReading_42 (lv_at hl 5 rfl) ?_
              refine lv_isub hx hb dX11_findReading_44 ?_
              refine lv_imul hx hb dX11_findReading_45 ?_
              refine lv_goto (tgt := 62) hx hb dX11_findReading_46 (by decide) ?_
              exact hJ62 l1 l2 l3 l4 l5 (40 * (l3 - l5)) Model_prices Model_hitAt H locs ls hP hD hS (lv_sub hl [0, 1, 2, 3, 4, 5] rfl) hf
      intro l1 l2 l3 l4 Model_prices Model_hitAt H locs ls hP hD hS hl hf
      have hf : f_Model_findReading_20_b Model_now  (f_Model_findReading_20 Model_now  n20) l1 l2 l3 l4 Model_prices Model_hitAt = some (z_Model_prices, z_Model_hitAt) := hf
      unfold f_Model_findReading_20_b at hf
      refine lv_iload hx hb dX11_findReading_20 (lv_at hl 4 rfl) ?_
      refine lv_if_lt (tgt := 152) hx hb dX11_findReading_22 (by decide) (fun c41 => ?_) (fun c41 => ?_)
      · have hf := ite_t c41 hf
        refine lv_iconst (v := 0) hx hb dX11_findReading_152 (by decide) ?_
        refine lv_istore (lv' := [(4, .int 0), (0, .ref a_Model), (1, .int l1), (2, .int l2), (3, .int l3)]) hx hb dX11_findReading_153 hl (by decide) rfl (fun ls hl => ?_)
        refine lv_iconst (v := 0) hx hb dX11_findReading_155 (by decide) ?_
        refine lv_istore (lv' := [(5, .int 0), (4, .int 0), (0, .ref a_Model), (1, .int l1), (2, .int l2), (3, .int l3)]) hx hb dX11_findReading_156 hl (by decide) rfl (fun ls hl => ?_)
        exact hL158 fu l1 l2 l3 0 0 Model_prices Model_hitAt H locs ls hP hD hS (lv_sub hl [2, 3, 4, 5, 1, 0] rfl) hf
      · have hf := ite_f c41 hf
        refine lv_iload_n hx hb dX11_findReading_25 rfl (lv_at hl 3 rfl) ?_
        refine lv_istore (lv' := [(5, .int l3), (0, .ref a_Model), (1, .int l1), (2, .int l2), (3, .int l3), (4, .int l4)]) hx hb dX11_findReading_26 hl (by decide) rfl (fun ls hl => ?_)
        exact hL28 fu l1 l2 l3 l4 l3 Model_prices Model_hitAt H locs ls hP hD hS (lv_sub hl [1, 2, 3, 4, 5, 0] rfl) hf
  unfold f_Model_findReading at hf
  refine lv_aload_n hx hb dX11_findReading_0 rfl (lv_at hl 0 rfl) ?_
  refine va_get (D := D) (ci := 11) (v := .ref a_Model_now) (C := RX11) (T := TX11) (N := 19) hx hb hts inX11 hown hK hP 0 rfl rfl 0 (by decide) fl9 (fun _ h9 => h9) rfl dX11_findReading_1 ?_
  refine lv_iconst (v := 0) hx hb dX11_findReading_4 (by decide) ?_
  obtain ⟨ix42, x42, ex42, hf⟩ := rd_s hf
  refine va_iald hx hb hK hP 1 0 rfl rfl ix42 dX11_findReading_5 ?_
  refine lv_tpx ex42 ?_
  refine lv_istore_n (lv' := [(2, .int x42), (0, .ref a_Model), (1, .int p1)]) hx hb dX11_findReading_6 rfl hl (by decide) rfl (fun ls hl => ?_)
  refine lv_aload_n hx hb dX11_findReading_7 rfl (lv_at hl 1 rfl) ?_
  refine va_get (D := D) (ci := 11) (v := .ref a_Model_now) (C := RX11) (T := TX11) (N := 19) hx hb hts inX11 hown hK hP 0 rfl rfl 0 (by decide) fl9 (fun _ h9 => h9) rfl dX11_findReading_8 ?_
  refine lv_bipush (v := 87) hx hb dX11_findReading_11 (by decide) ?_
  refine lv_iload_n hx hb dX11_findReading_13 rfl (lv_at hl 2 rfl) ?_
  refine lv_iadd hx hb dX11_findReading_14 ?_
  obtain ⟨ix43, x43, ex43, hf⟩ := rd_s hf
  refine va_iald hx hb hK hP 1 0 rfl rfl ix43 dX11_findReading_15 ?_
  refine lv_tpx ex43 ?_
  refine lv_istore_n (lv' := [(3, .int x43), (2, .int x42), (0, .ref a_Model), (1, .int p1)]) hx hb dX11_findReading_16 rfl hl (by decide) rfl (fun ls hl => ?_)
  refine lv_iload_n hx hb dX11_findReading_17 rfl (lv_at hl 1 rfl) ?_
  refine lv_istore (lv' := [(4, .int x42), (3, .int x43), (2, .int x42), (0, .ref a_Model), (1, .int p1)]) hx hb dX11_findReading_18 hl (by decide) rfl (fun ls hl => ?_)
  exact hL20 fu p1 x42 x43 x42 Model_prices Model_hitAt s.heap [] ls hP hD hS (lv_sub hl [3, 4, 2, 1, 0] rfl) hf
abbrev rm_Model_sheet : Room := { frames := 2, cells := 0, slots := 0, locals := 42 }
set_option maxHeartbeats 4000000 in
set_option maxRecDepth 100000 in
theorem c_Model_sheet (l : Launch) (D : va_G) (cI cZ : ClassId) (t : Nat → Nat) (a_Model a_Model_now a_Model_past a_Model_bits a_Model_sizes a_Model_sheets a_Model_least a_Model_ways a_Model_handOf a_Model_crossedAt a_Model_strokeOf a_Model_prices a_Model_hitAt a_Model_carried sz : Nat) (Model_findings : Int32) (Model_bits Model_sizes Model_sheets : Nat → Int32) (Model_kept Model_thenCost Model_thenWays Model_bothCost Model_bothWays p1 p2 p3 zr z_Model_findings : Int32) (z_Model_bits z_Model_sizes z_Model_sheets : Nat → Int32) (hf : f_Model_sheet Model_findings Model_bits Model_sizes Model_sheets p1 p2 p3 = some (zr, z_Model_findings, z_Model_bits, z_Model_sizes, z_Model_sheets)) : Met l yX11_sheet wsX11_sheet rm_Model_sheet (va_Pc [.ref a_Model, .int p1, .int p2, .int p3] (pcW D cI cZ t [(a_Model, .inr (11, [.ref a_Model_now, .ref a_Model_past, .int Model_kept, .int Model_findings, .ref a_Model_bits, .ref a_Model_sizes, .ref a_Model_sheets, .ref a_Model_least, .ref a_Model_ways, .int Model_thenCost, .int Model_thenWays, .int Model_bothCost, .int Model_bothWays, .ref a_Model_handOf, .ref a_Model_crossedAt, .ref a_Model_strokeOf, .ref a_Model_prices, .ref a_Model_hitAt, .ref a_Model_carried])), (a_Model_bits, .inl (cI, 4, .inl Model_bits)), (a_Model_sizes, .inl (cI, 4, .inl Model_sizes)), (a_Model_sheets, .inl (cI, 96, .inl Model_sheets))] sz)) (va_Qi (fun r (u : Unit) => r = zr) (fun u t' => bW D (va_A [(a_Model, .inr (11, [.ref a_Model_now, .ref a_Model_past, .int Model_kept, .int Model_findings, .ref a_Model_bits, .ref a_Model_sizes, .ref a_Model_sheets, .ref a_Model_least, .ref a_Model_ways, .int Model_thenCost, .int Model_thenWays, .int Model_bothCost, .int Model_bothWays, .ref a_Model_handOf, .ref a_Model_crossedAt, .ref a_Model_strokeOf, .ref a_Model_prices, .ref a_Model_hitAt, .ref a_Model_carried])), (a_Model_bits, .inl (cI, 4, .inl Model_bits)), (a_Model_sizes, .inl (cI, 4, .inl Model_sizes)), (a_Model_sheets, .inl (cI, 96, .inl Model_sheets))] sz) [(a_Model, .inr (11, [.ref a_Model_now, .ref a_Model_past, .int Model_kept, .int z_Model_findings, .ref a_Model_bits, .ref a_Model_sizes, .ref a_Model_sheets, .ref a_Model_least, .ref a_Model_ways, .int Model_thenCost, .int Model_thenWays, .int Model_bothCost, .int Model_bothWays, .ref a_Model_handOf, .ref a_Model_crossedAt, .ref a_Model_strokeOf, .ref a_Model_prices, .ref a_Model_hitAt, .ref a_Model_carried])), (a_Model_bits, .inl (cI, 4, .inl z_Model_bits)), (a_Model_sizes, .inl (cI, 4, .inl z_Model_sizes)), (a_Model_sheets, .inl (cI, 96, .inl z_Model_sheets))] t') (va_A [(a_Model, .inr (11, [.ref a_Model_now, .ref a_Model_past, .int Model_kept, .int Model_findings, .ref a_Model_bits, .ref a_Model_sizes, .ref a_Model_sheets, .ref a_Model_least, .ref a_Model_ways, .int Model_thenCost, .int Model_thenWays, .int Model_bothCost, .int Model_bothWays, .ref a_Model_handOf, .ref a_Model_crossedAt, .ref a_Model_strokeOf, .ref a_Model_prices, .ref a_Model_hitAt, .ref a_Model_carried])), (a_Model_bits, .inl (cI, 4, .inl Model_bits)), (a_Model_sizes, .inl (cI, 4, .inl Model_sizes)), (a_Model_sheets, .inl (cI, 96, .inl Model_sheets))] sz)) 0 0 (va_A [(a_Model, .inr (11, [.ref a_Model_now, .ref a_Model_past, .int Model_kept, .int Model_findings, .ref a_Model_bits, .ref a_Model_sizes, .ref a_Model_sheets, .ref a_Model_least, .ref a_Model_ways, .int Model_thenCost, .int Model_thenWays, .int Model_bothCost, .int Model_bothWays, .ref a_Model_handOf, .ref a_Model_crossedAt, .ref a_Model_strokeOf, .ref a_Model_prices, .ref a_Model_hitAt, .ref a_Model_carried])), (a_Model_bits, .inl (cI, 4, .inl Model_bits)), (a_Model_sizes, .inl (cI, 4, .inl Model_sizes)), (a_Model_sheets, .inl (cI, 96, .inl Model_sheets))] sz) := by
  refine Met.ofW (cc := cX11_sheet) (maxL := 5) (ret := (some .int)) (by decide) rfl ?_
  intro p e s m args below meth c s₁ B hml hv
  obtain ⟨rfl, hsz, hP, hD0, hE⟩ := hv
  have hx := B.exec
  have hb := B.bytes
  have hr := B.returns
  have hts := atoms_spec (ws := wsX11_sheet) B.pre
  have hown : s.vm.findClass RX11 = some m.cls := findClass_of_methodNamed B.named
  have hlocks := B.notSynchronized
  subst hsz
  have hD := hD0.self (sz := s.heap.size)
  generalize hAe : va_A [(a_Model, .inr (11, [.ref a_Model_now, .ref a_Model_past, .int Model_kept, .int Model_findings, .ref a_Model_bits, .ref a_Model_sizes, .ref a_Model_sheets, .ref a_Model_least, .ref a_Model_ways, .int Model_thenCost, .int Model_thenWays, .int Model_bothCost, .int Model_bothWays, .ref a_Model_handOf, .ref a_Model_crossedAt, .ref a_Model_strokeOf, .ref a_Model_prices, .ref a_Model_hitAt, .ref a_Model_carried])), (a_Model_bits, .inl (cI, 4, .inl Model_bits)), (a_Model_sizes, .inl (cI, 4, .inl Model_sizes)), (a_Model_sheets, .inl (cI, 96, .inl Model_sheets))] s.heap.size = A at hD hE ⊢
  have hA : ∀ q : Nat, s.heap.size ≤ q → A q := fun q h => by rw [← hAe]; exact Or.inr h
  clear hAe hD0
  have hS : va_S A s.heap s.heap [] := va_S.rf
  have hK := hE.1
  have hl := lv_entry ([.ref a_Model, .int p1, .int p2, .int p3]) (n := 5) (Nat.le_of_ble_eq_true rfl)
  rw [lg_entry_eq]
  generalize (lg_sl ([.ref a_Model, .int p1, .int p2, .int p3]) ++ List.replicate (5 - (lg_sl ([.ref a_Model, .int p1, .int p2, .int p3])).length) Slot.unset).toArray = ls at hl ⊢
  have hl : lv_has ls 5 [(0, .ref a_Model), (1, .int p1), (2, .int p2), (3, .int p3)] := hl
  refine w_q (fun Q9 hQ9 => ?_)
  have fl19 := hts (.fieldLink RX11 19 "StickRoomModel" "sizes" "[I") (by decide +kernel)
  have inX11 : ∀ w ∈ wsX110, w ∈ wsX11_sheet := by decide +kernel
  have fl22 := hts (.fieldLink RX11 22 "StickRoomModel" "sheets" "[I") (by decide +kernel)
  have fl16 := hts (.fieldLink RX11 16 "StickRoomModel" "bits" "[I") (by decide +kernel)
  have kc70 := hts (.constant RX11 70 (-100001)) (by decide +kernel)
  have kc71 := hts (.constant RX11 71 (-100003)) (by decide +kernel)
  have hL85 : ∀ (n85 : Nat) (l1 l4 Model_findings : Int32) (Model_bits Model_sizes Model_sheets : Nat → Int32) (H : Heap) (locs : List Loc) (ls : Array Slot), va_P D vwCl [(a_Model, .inr (11, [.ref a_Model_now, .ref a_Model_past, .int Model_kept, .int Model_findings, .ref a_Model_bits, .ref a_Model_sizes, .ref a_Model_sheets, .ref a_Model_least, .ref a_Model_ways, .int Model_thenCost, .int Model_thenWays, .int Model_bothCost, .int Model_bothWays, .ref a_Model_handOf, .ref a_Model_crossedAt, .ref a_Model_strokeOf, .ref a_Model_prices, .ref a_Model_hitAt, .ref a_Model_carried])), (a_Model_bits, .inl (cI, 4, .inl Model_bits)), (a_Model_sizes, .inl (cI, 4, .inl Model_sizes)), (a_Model_sheets, .inl (cI, 96, .inl Model_sheets))] H → va_D A [(a_Model, .inr (11, [.ref a_Model_now, .ref a_Model_past, .int Model_kept, .int Model_findings, .ref a_Model_bits, .ref a_Model_sizes, .ref a_Model_sheets, .ref a_Model_least, .ref a_Model_ways, .int Model_thenCost, .int Model_thenWays, .int Model_bothCost, .int Model_bothWays, .ref a_Model_handOf, .ref a_Model_crossedAt, .ref a_Model_strokeOf, .ref a_Model_prices, .ref a_Model_hitAt, .ref a_Model_carried])), (a_Model_bits, .inl (cI, 4, .inl Model_bits)), (a_Model_sizes, .inl (cI, 4, .inl Model_sizes)), (a_Model_sheets, .inl (cI, 96, .inl Model_sheets))] → va_S A s.heap H locs → lv_has ls 5 [(0, .ref a_Model), (1, .int l1), (4, .int l4)] → f_Model_sheet_85 n85 l1 l4 Model_findings Model_bits Model_sizes Model_sheets = some (zr, z_Model_findings, z_Model_bits, z_Model_sizes, z_Model_sheets) → W p l e (headSpec wsX11_sheet rm_Model_sheet).room s m ([.ref a_Model, .int p1, .int p2, .int p3] : List Value).toArray below meth c H locs 0 0 Q9 (F0 m 85 ls []) := by
    intro n85
    induction n85 with
    | zero => intro l1 l4 Model_findings Model_bits Model_sizes Model_sheets H locs ls hP hD hS hl hf; exact nomatch (show none = some (zr, z_Model_findings, z_Model_bits, z_Model_sizes, z_Model_sheets) from hf)
    | succ n85 ih85 =>
      intro l1 l4 Model_findings Model_bits Model_sizes Model_sheets H locs ls hP hD hS hl hf
      have hf : f_Model_sheet_85_b (f_Model_sheet_85 n85) l1 l4 Model_findings Model_bits Model_sizes Model_sheets = some (zr, z_Model_findings, z_Model_bits, z_Model_sizes, z_Model_sheets) := hf
      unfold f_Model_sheet_85_b at hf
      refine lv_iload hx hb dX11_sheet_85 (lv_at hl 2 rfl) ?_
      refine lv_bipush (v := 24) hx hb dX11_sheet_87 (by decide) ?_
      refine lv_icmp_ge (tgt := 111) hx hb dX11_sheet_89 (by decide) (fun c1 => ?_) (fun c1 => ?_)
      · have hf := ite_t c1 hf
        refine lv_aload_n hx hb dX11_sheet_111 rfl (lv_at hl 0 rfl) ?_
        refine va_get (D := D) (ci := 11) (v := .ref a_Model_sizes) (C := RX11) (T := TX11) (N := 19) hx hb hts inX11 hown hK hP 0 rfl rfl 5 (by decide) fl19 (fun _ h9 => h9) rfl dX11_sheet_112 ?_
        refine lv_iload_n hx hb dX11_sheet_115 rfl (lv_at hl 1 rfl) ?_
        obtain ⟨ix2, x2, ex2, hf⟩ := rd_s hf
        refine va_iald hx hb hK hP 2 0 rfl rfl ix2 dX11_sheet_116 ?_
        refine lv_tpx ex2 ?_
        cases hf
        exact k_iret () hQ9 hx hb hr hlocks rfl hP hD hS (Nat.le_of_ble_eq_true rfl) (Nat.le_of_ble_eq_true rfl) dX11_sheet_117
      · have hf := ite_f c1 hf
        refine lv_aload_n hx hb dX11_sheet_92 rfl (lv_at hl 0 rfl) ?_
        refine va_get (D := D) (ci := 11) (v := .ref a_Model_sheets) (C := RX11) (T := TX11) (N := 19) hx hb hts inX11 hown hK hP 0 rfl rfl 6 (by decide) fl22 (fun _ h9 => h9) rfl dX11_sheet_93 ?_
        refine lv_bipush (v := 24) hx hb dX11_sheet_96 (by decide) ?_
        refine lv_iload_n hx hb dX11_sheet_98 rfl (lv_at hl 1 rfl) ?_
        refine lv_imul hx hb dX11_sheet_99 ?_
        refine lv_iload hx hb dX11_sheet_100 (lv_at hl 2 rfl) ?_
        refine lv_iadd hx hb dX11_sheet_102 ?_
        refine lv_iconst (v := 0) hx hb dX11_sheet_103 (by decide) ?_
        obtain ⟨i3, hf⟩ := ck_s hf
        refine va_iast hx hb hK hP hD hS 3 0 rfl rfl i3 dX11_sheet_104 (fun H locs hP hD hS => ?_)
        have hP : va_P D vwCl [(a_Model, .inr (11, [.ref a_Model_now, .ref a_Model_past, .int Model_kept, .int Model_findings, .ref a_Model_bits, .ref a_Model_sizes, .ref a_Model_sheets, .ref a_Model_least, .ref a_Model_ways, .int Model_thenCost, .int Model_thenWays, .int Model_bothCost, .int Model_bothWays, .ref a_Model_handOf, .ref a_Model_crossedAt, .ref a_Model_strokeOf, .ref a_Model_prices, .ref a_Model_hitAt, .ref a_Model_carried])), (a_Model_bits, .inl (cI, 4, .inl Model_bits)), (a_Model_sizes, .inl (cI, 4, .inl Model_sizes)), (a_Model_sheets, .inl (cI, 96, .inl (upd Model_sheets ((24 * l1) + l4).toNatClampNeg 0)))] H := hP
        have hD : va_D A [(a_Model, .inr (11, [.ref a_Model_now, .ref a_Model_past, .int Model_kept, .int Model_findings, .ref a_Model_bits, .ref a_Model_sizes, .ref a_Model_sheets, .ref a_Model_least, .ref a_Model_ways, .int Model_thenCost, .int Model_thenWays, .int Model_bothCost, .int Model_bothWays, .ref a_Model_handOf, .ref a_Model_crossedAt, .ref a_Model_strokeOf, .ref a_Model_prices, .ref a_Model_hitAt, .ref a_Model_carried])), (a_Model_bits, .inl (cI, 4, .inl Model_bits)), (a_Model_sizes, .inl (cI, 4, .inl Model_sizes)), (a_Model_sheets, .inl (cI, 96, .inl (upd Model_sheets ((24 * l1) + l4).toNatClampNeg 0)))] := hD
        obtain ⟨x4, ex4, hf⟩ := nm_s hf
        refine lv_iinc (v := x4) (lv' := [(4, .int x4), (0, .ref a_Model), (1, .int l1)]) hx hb dX11_sheet_105 hl (k := 2) rfl (by rw [ex4]; rfl) (by decide) rfl (fun ls hl => ?_)
        refine lv_goto (tgt := 85) hx hb dX11_sheet_108 (by decide) ?_
        exact ih85 l1 x4 Model_findings Model_bits Model_sizes (upd Model_sheets ((24 * l1) + l4).toNatClampNeg 0) H locs ls hP hD hS (lv_sub hl [1, 2, 0] rfl) hf
  have hJ36 : ∀ (l1 l2 l3 Model_findings : Int32) (Model_bits Model_sizes Model_sheets : Nat → Int32) (H : Heap) (locs : List Loc) (ls : Array Slot), va_P D vwCl [(a_Model, .inr (11, [.ref a_Model_now, .ref a_Model_past, .int Model_kept, .int Model_findings, .ref a_Model_bits, .ref a_Model_sizes, .ref a_Model_sheets, .ref a_Model_least, .ref a_Model_ways, .int Model_thenCost, .int Model_thenWays, .int Model_bothCost, .int Model_bothWays, .ref a_Model_handOf, .ref a_Model_crossedAt, .ref a_Model_strokeOf, .ref a_Model_prices, .ref a_Model_hitAt, .ref a_Model_carried])), (a_Model_bits, .inl (cI, 4, .inl Model_bits)), (a_Model_sizes, .inl (cI, 4, .inl Model_sizes)), (a_Model_sheets, .inl (cI, 96, .inl Model_sheets))] H → va_D A [(a_Model, .inr (11, [.ref a_Model_now, .ref a_Model_past, .int Model_kept, .int Model_findings, .ref a_Model_bits, .ref a_Model_sizes, .ref a_Model_sheets, .ref a_Model_least, .ref a_Model_ways, .int Model_thenCost, .int Model_thenWays, .int Model_bothCost, .int Model_bothWays, .ref a_Model_handOf, .ref a_Model_crossedAt, .ref a_Model_strokeOf, .ref a_Model_prices, .ref a_Model_hitAt, .ref a_Model_carried])), (a_Model_bits, .inl (cI, 4, .inl Model_bits)), (a_Model_sizes, .inl (cI, 4, .inl Model_sizes)), (a_Model_sheets, .inl (cI, 96, .inl Model_sheets))] → va_S A s.heap H locs → lv_has ls 5 [(0, .ref a_Model), (1, .int l1), (2, .int l2), (3, .int l3)] → f_Model_sheet_36 l1 l2 l3 Model_findings Model_bits Model_sizes Model_sheets = some (zr, z_Model_findings, z_Model_bits, z_Model_sizes, z_Model_sheets) → W p l e (headSpec wsX11_sheet rm_Model_sheet).room s m ([.ref a_Model, .int p1, .int p2, .int p3] : List Value).toArray below meth c H locs 0 0 Q9 (F0 m 36 ls []) := by
    intro l1 l2 l3 Model_findings Model_bits Model_sizes Model_sheets H locs ls hP hD hS hl hf
    unfold f_Model_sheet_36 at hf
    refine lv_iload_n hx hb dX11_sheet_36 rfl (lv_at hl 3 rfl) ?_
    refine lv_if_ge (tgt := 47) hx hb dX11_sheet_37 (by decide) (fun c5 => ?_) (fun c5 => ?_)
    · have hf := ite_t c5 hf
      refine lv_iload_n hx hb dX11_sheet_47 rfl (lv_at hl 3 rfl) ?_
      refine lv_bipush (v := 24) hx hb dX11_sheet_48 (by decide) ?_
      refine lv_icmp_le (tgt := 60) hx hb dX11_sheet_50 (by decide) (fun c6 => ?_) (fun c6 => ?_)
      · have hf := ite_t c6 hf
        refine lv_aload_n hx hb dX11_sheet_60 rfl (lv_at hl 0 rfl) ?_
        refine va_get (D := D) (ci := 11) (v := .ref a_Model_bits) (C := RX11) (T := TX11) (N := 19) hx hb hts inX11 hown hK hP 0 rfl rfl 4 (by decide) fl16 (fun _ h9 => h9) rfl dX11_sheet_61 ?_
        refine lv_iload_n hx hb dX11_sheet_64 rfl (lv_at hl 1 rfl) ?_
        refine lv_iload_n hx hb dX11_sheet_65 rfl (lv_at hl 2 rfl) ?_
        obtain ⟨i7, hf⟩ := ck_s hf
        refine va_iast hx hb hK hP hD hS 1 0 rfl rfl i7 dX11_sheet_66 (fun H locs hP hD hS => ?_)
        have hP : va_P D vwCl [(a_Model, .inr (11, [.ref a_Model_now, .ref a_Model_past, .int Model_kept, .int Model_findings, .ref a_Model_bits, .ref a_Model_sizes, .ref a_Model_sheets, .ref a_Model_least, .ref a_Model_ways, .int Model_thenCost, .int Model_thenWays, .int Model_bothCost, .int Model_bothWays, .ref a_Model_handOf, .ref a_Model_crossedAt, .ref a_Model_strokeOf, .ref a_Model_prices, .ref a_Model_hitAt, .ref a_Model_carried])), (a_Model_bits, .inl (cI, 4, .inl (upd Model_bits l1.toNatClampNeg l2))), (a_Model_sizes, .inl (cI, 4, .inl Model_sizes)), (a_Model_sheets, .inl (cI, 96, .inl Model_sheets))] H := hP
        have hD : va_D A [(a_Model, .inr (11, [.ref a_Model_now, .ref a_Model_past, .int Model_kept, .int Model_findings, .ref a_Model_bits, .ref a_Model_sizes, .ref a_Model_sheets, .ref a_Model_least, .ref a_Model_ways, .int Model_thenCost, .int Model_thenWays, .int Model_bothCost, .int Model_bothWays, .ref a_Model_handOf, .ref a_Model_crossedAt, .ref a_Model_strokeOf, .ref a_Model_prices, .ref a_Model_hitAt, .ref a_Model_carried])), (a_Model_bits, .inl (cI, 4, .inl (upd Model_bits l1.toNatClampNeg l2))), (a_Model_sizes, .inl (cI, 4, .inl Model_sizes)), (a_Model_sheets, .inl (cI, 96, .inl Model_sheets))] := hD
        refine lv_aload_n hx hb dX11_sheet_67 rfl (lv_at hl 0 rfl) ?_
        refine va_get (D := D) (ci := 11) (v := .ref a_Model_sizes) (C := RX11) (T := TX11) (N := 19) hx hb hts inX11 hown hK hP 0 rfl rfl 5 (by decide) fl19 (fun _ h9 => h9) rfl dX11_sheet_68 ?_
        refine lv_iload_n hx hb dX11_sheet_71 rfl (lv_at hl 1 rfl) ?_
        refine lv_iload_n hx hb dX11_sheet_72 rfl (lv_at hl 2 rfl) ?_
        refine lv_if_ne (tgt := 80) hx hb dX11_sheet_73 (by decide) (fun c8 => ?_) (fun c8 => ?_)
        · have hf := ite_f c8 hf
          refine lv_iload_n hx hb dX11_sheet_80 rfl (lv_at hl 3 rfl) ?_
          obtain ⟨i9, hf⟩ := ck_s hf
          refine va_iast hx hb hK hP hD hS 2 0 rfl rfl i9 dX11_sheet_81 (fun H locs hP hD hS => ?_)
          have hP : va_P D vwCl [(a_Model, .inr (11, [.ref a_Model_now, .ref a_Model_past, .int Model_kept, .int Model_findings, .ref a_Model_bits, .ref a_Model_sizes, .ref a_Model_sheets, .ref a_Model_least, .ref a_Model_ways, .int Model_thenCost, .int Model_thenWays, .int Model_bothCost, .int Model_bothWays, .ref a_Model_handOf, .ref a_Model_crossedAt, .ref a_Model_strokeOf, .ref a_Model_prices, .ref a_Model_hitAt, .ref a_Model_carried])), (a_Model_bits, .inl (cI, 4, .inl (upd Model_bits l1.toNatClampNeg l2))), (a_Model_sizes, .inl (cI, 4, .inl (upd Model_sizes l1.toNatClampNeg l3))), (a_Model_sheets, .inl (cI, 96, .inl Model_sheets))] H := hP
          have hD : va_D A [(a_Model, .inr (11, [.ref a_Model_now, .ref a_Model_past, .int Model_kept, .int Model_findings, .ref a_Model_bits, .ref a_Model_sizes, .ref a_Model_sheets, .ref a_Model_least, .ref a_Model_ways, .int Model_thenCost, .int Model_thenWays, .int Model_bothCost, .int Model_bothWays, .ref a_Model_handOf, .ref a_Model_crossedAt, .ref a_Model_strokeOf, .ref a_Model_prices, .ref a_Model_hitAt, .ref a_Model_carried])), (a_Model_bits, .inl (cI, 4, .inl (upd Model_bits l1.toNatClampNeg l2))), (a_Model_sizes, .inl (cI, 4, .inl (upd Model_sizes l1.toNatClampNeg l3))), (a_Model_sheets, .inl (cI, 96, .inl Model_sheets))] := hD
          refine lv_iconst (v := 0) hx hb dX11_sheet_82 (by decide) ?_
          refine lv_istore (lv' := [(4, .int 0), (0, .ref a_Model), (1, .int l1), (2, .int l2), (3, .int l3)]) hx hb dX11_sheet_83 hl (by decide) rfl (fun ls hl => ?_)
          exact hL85 fu l1 0 Model_findings (upd Model_bits l1.toNatClampNeg l2) (upd Model_sizes l1.toNatClampNeg l3) Model_sheets H locs ls hP hD hS (lv_sub hl [1, 2, 0] rfl) hf
        · have hf := ite_t c8 hf
          refine lv_iconst (v := 0) hx hb dX11_sheet_76 (by decide) ?_
          refine lv_goto (tgt := 81) hx hb dX11_sheet_77 (by decide) ?_
          obtain ⟨i10, hf⟩ := ck_s hf
          refine va_iast hx hb hK hP hD hS 2 0 rfl rfl i10 dX11_sheet_81 (fun H locs hP hD hS => ?_)
          have hP : va_P D vwCl [(a_Model, .inr (11, [.ref a_Model_now, .ref a_Model_past, .int Model_kept, .int Model_findings, .ref a_Model_bits, .ref a_Model_sizes, .ref a_Model_sheets, .ref a_Model_least, .ref a_Model_ways, .int Model_thenCost, .int Model_thenWays, .int Model_bothCost, .int Model_bothWays, .ref a_Model_handOf, .ref a_Model_crossedAt, .ref a_Model_strokeOf, .ref a_Model_prices, .ref a_Model_hitAt, .ref a_Model_carried])), (a_Model_bits, .inl (cI, 4, .inl (upd Model_bits l1.toNatClampNeg l2))), (a_Model_sizes, .inl (cI, 4, .inl (upd Model_sizes l1.toNatClampNeg 0))), (a_Model_sheets, .inl (cI, 96, .inl Model_sheets))] H := hP
          have hD : va_D A [(a_Model, .inr (11, [.ref a_Model_now, .ref a_Model_past, .int Model_kept, .int Model_findings, .ref a_Model_bits, .ref a_Model_sizes, .ref a_Model_sheets, .ref a_Model_least, .ref a_Model_ways, .int Model_thenCost, .int Model_thenWays, .int Model_bothCost, .int Model_bothWays, .ref a_Model_handOf, .ref a_Model_crossedAt, .ref a_Model_strokeOf, .ref a_Model_prices, .ref a_Model_hitAt, .ref a_Model_carried])), (a_Model_bits, .inl (cI, 4, .inl (upd Model_bits l1.toNatClampNeg l2))), (a_Model_sizes, .inl (cI, 4, .inl (upd Model_sizes l1.toNatClampNeg 0))), (a_Model_sheets, .inl (cI, 96, .inl Model_sheets))] := hD
          refine lv_iconst (v := 0) hx hb dX11_sheet_82 (by decide) ?_
          refine lv_istore (lv' := [(4, .int 0), (0, .ref a_Model), (1, .int l1), (2, .int l2), (3, .int l3)]) hx hb dX11_sheet_83 hl (by decide) rfl (fun ls hl => ?_)
          exact hL85 fu l1 0 Model_findings (upd Model_bits l1.toNatClampNeg l2) (upd Model_sizes l1.toNatClampNeg 0) Model_sheets H locs ls hP hD hS (lv_sub hl [1, 2, 0] rfl) hf
      · have hf := ite_f c6 hf
        refine lv_aload_n hx hb dX11_sheet_53 rfl (lv_at hl 0 rfl) ?_
        refine lv_ldc (v := (-100001)) hx hb hown kc70 dX11_sheet_54 ?_
        obtain ⟨r11, y12, g13, hf⟩ := b2_s hf
        refine k_Vi (rest := []) ⟨hx, hb, hml, hown, hts⟩ (c_Model_finding l D cI cZ t a_Model a_Model_now a_Model_past a_Model_bits a_Model_sizes a_Model_sheets a_Model_least a_Model_ways a_Model_handOf a_Model_crossedAt a_Model_strokeOf a_Model_prices a_Model_hitAt a_Model_carried H.size Model_findings Model_kept Model_thenCost Model_thenWays Model_bothCost Model_bothWays (-100001) r11 y12 g13) (cwV 1 hts gX11_sheet_X11_finding rfl rfl rfl (by decide +kernel) ⟨Nat.le_of_ble_eq_true rfl, Nat.le_of_ble_eq_true rfl⟩) hE hP hD hS hA [0] [1, 2, 3] rfl rfl rfl rfl rfl 0 11 rfl rfl rfl rfl hl.1 rfl (Nat.le_of_ble_eq_true rfl) dX11_sheet_56 ⟨Nat.le_of_ble_eq_true rfl, Nat.le_of_ble_eq_true rfl⟩ (fun rq uq H locs hrq hP hD hS => ?_)
        refine lv_tpx hrq.symm ?_
        have hP : va_P D vwCl [(a_Model_bits, .inl (cI, 4, .inl Model_bits)), (a_Model_sizes, .inl (cI, 4, .inl Model_sizes)), (a_Model_sheets, .inl (cI, 96, .inl Model_sheets)), (a_Model, .inr (11, [.ref a_Model_now, .ref a_Model_past, .int Model_kept, .int y12, .ref a_Model_bits, .ref a_Model_sizes, .ref a_Model_sheets, .ref a_Model_least, .ref a_Model_ways, .int Model_thenCost, .int Model_thenWays, .int Model_bothCost, .int Model_bothWays, .ref a_Model_handOf, .ref a_Model_crossedAt, .ref a_Model_strokeOf, .ref a_Model_prices, .ref a_Model_hitAt, .ref a_Model_carried]))] H := hP
        have hD : va_D A [(a_Model_bits, .inl (cI, 4, .inl Model_bits)), (a_Model_sizes, .inl (cI, 4, .inl Model_sizes)), (a_Model_sheets, .inl (cI, 96, .inl Model_sheets)), (a_Model, .inr (11, [.ref a_Model_now, .ref a_Model_past, .int Model_kept, .int y12, .ref a_Model_bits, .ref a_Model_sizes, .ref a_Model_sheets, .ref a_Model_least, .ref a_Model_ways, .int Model_thenCost, .int Model_thenWays, .int Model_bothCost, .int Model_bothWays, .ref a_Model_handOf, .ref a_Model_crossedAt, .ref a_Model_strokeOf, .ref a_Model_prices, .ref a_Model_hitAt, .ref a_Model_carried]))] := hD
        cases hf
        exact k_iret () hQ9 hx hb hr hlocks rfl (hP.sub [3, 0, 1, 2] rfl) (hD.sub [3, 0, 1, 2] (by decide) rfl) hS (Nat.le_of_ble_eq_true rfl) (Nat.le_of_ble_eq_true rfl) dX11_sheet_59
    · have hf := ite_f c5 hf
      refine lv_aload_n hx hb dX11_sheet_40 rfl (lv_at hl 0 rfl) ?_
      refine lv_ldc (v := (-100003)) hx hb hown kc71 dX11_sheet_41 ?_
      obtain ⟨r14, y15, g16, hf⟩ := b2_s hf
      refine k_Vi (rest := []) ⟨hx, hb, hml, hown, hts⟩ (c_Model_finding l D cI cZ t a_Model a_Model_now a_Model_past a_Model_bits a_Model_sizes a_Model_sheets a_Model_least a_Model_ways a_Model_handOf a_Model_crossedAt a_Model_strokeOf a_Model_prices a_Model_hitAt a_Model_carried H.size Model_findings Model_kept Model_thenCost Model_thenWays Model_bothCost Model_bothWays (-100003) r14 y15 g16) (cwV 1 hts gX11_sheet_X11_finding rfl rfl rfl (by decide +kernel) ⟨Nat.le_of_ble_eq_true rfl, Nat.le_of_ble_eq_true rfl⟩) hE hP hD hS hA [0] [1, 2, 3] rfl rfl rfl rfl rfl 0 11 rfl rfl rfl rfl hl.1 rfl (Nat.le_of_ble_eq_true rfl) dX11_sheet_43 ⟨Nat.le_of_ble_eq_true rfl, Nat.le_of_ble_eq_true rfl⟩ (fun rq uq H locs hrq hP hD hS => ?_)
      refine lv_tpx hrq.symm ?_
      have hP : va_P D vwCl [(a_Model_bits, .inl (cI, 4, .inl Model_bits)), (a_Model_sizes, .inl (cI, 4, .inl Model_sizes)), (a_Model_sheets, .inl (cI, 96, .inl Model_sheets)), (a_Model, .inr (11, [.ref a_Model_now, .ref a_Model_past, .int Model_kept, .int y15, .ref a_Model_bits, .ref a_Model_sizes, .ref a_Model_sheets, .ref a_Model_least, .ref a_Model_ways, .int Model_thenCost, .int Model_thenWays, .int Model_bothCost, .int Model_bothWays, .ref a_Model_handOf, .ref a_Model_crossedAt, .ref a_Model_strokeOf, .ref a_Model_prices, .ref a_Model_hitAt, .ref a_Model_carried]))] H := hP
      have hD : va_D A [(a_Model_bits, .inl (cI, 4, .inl Model_bits)), (a_Model_sizes, .inl (cI, 4, .inl Model_sizes)), (a_Model_sheets, .inl (cI, 96, .inl Model_sheets)), (a_Model, .inr (11, [.ref a_Model_now, .ref a_Model_past, .int Model_kept, .int y15, .ref a_Model_bits, .ref a_Model_sizes, .ref a_Model_sheets, .ref a_Model_least, .ref a_Model_ways, .int Model_thenCost, .int Model_thenWays, .int Model_bothCost, .int Model_bothWays, .ref a_Model_handOf, .ref a_Model_crossedAt, .ref a_Model_strokeOf, .ref a_Model_prices, .ref a_Model_hitAt, .ref a_Model_carried]))] := hD
      cases hf
      exact k_iret () hQ9 hx hb hr hlocks rfl (hP.sub [3, 0, 1, 2] rfl) (hD.sub [3, 0, 1, 2] (by decide) rfl) hS (Nat.le_of_ble_eq_true rfl) (Nat.le_of_ble_eq_true rfl) dX11_sheet_46
  unfold f_Model_sheet at hf
  refine lv_iload_n hx hb dX11_sheet_0 rfl (lv_at hl 1 rfl) ?_
  obtain ⟨r17, g18, hf⟩ := b1_s hf
  refine k_Si (rest := []) ⟨hx, hb, hml, hown, hts⟩ (c_Model_isSheet l D cI cZ t  s.heap.size p1 r17 g18) (va_cwS 1 hts gX11_sheet_X11_isSheet rfl rfl rfl (by decide +kernel) ⟨Nat.le_of_ble_eq_true rfl, Nat.le_of_ble_eq_true rfl⟩) hE hP hD hS hA [] [0, 1, 2, 3] rfl rfl rfl rfl rfl rfl hl.1 rfl (Nat.le_of_ble_eq_true rfl) dX11_sheet_1 ⟨Nat.le_of_ble_eq_true rfl, Nat.le_of_ble_eq_true rfl⟩ (fun rq uq H locs hrq hP hD hS => ?_)
  refine lv_tpx hrq.symm ?_
  have hP : va_P D vwCl [(a_Model, .inr (11, [.ref a_Model_now, .ref a_Model_past, .int Model_kept, .int Model_findings, .ref a_Model_bits, .ref a_Model_sizes, .ref a_Model_sheets, .ref a_Model_least, .ref a_Model_ways, .int Model_thenCost, .int Model_thenWays, .int Model_bothCost, .int Model_bothWays, .ref a_Model_handOf, .ref a_Model_crossedAt, .ref a_Model_strokeOf, .ref a_Model_prices, .ref a_Model_hitAt, .ref a_Model_carried])), (a_Model_bits, .inl (cI, 4, .inl Model_bits)), (a_Model_sizes, .inl (cI, 4, .inl Model_sizes)), (a_Model_sheets, .inl (cI, 96, .inl Model_sheets))] H := hP
  have hD : va_D A [(a_Model, .inr (11, [.ref a_Model_now, .ref a_Model_past, .int Model_kept, .int Model_findings, .ref a_Model_bits, .ref a_Model_sizes, .ref a_Model_sheets, .ref a_Model_least, .ref a_Model_ways, .int Model_thenCost, .int Model_thenWays, .int Model_bothCost, .int Model_bothWays, .ref a_Model_handOf, .ref a_Model_crossedAt, .ref a_Model_strokeOf, .ref a_Model_prices, .ref a_Model_hitAt, .ref a_Model_carried])), (a_Model_bits, .inl (cI, 4, .inl Model_bits)), (a_Model_sizes, .inl (cI, 4, .inl Model_sizes)), (a_Model_sheets, .inl (cI, 96, .inl Model_sheets))] := hD
  refine lv_if_eq (tgt := 29) hx hb dX11_sheet_4 (by decide) (fun c19 => ?_) (fun c19 => ?_)
  · have hf := ite_t c19 hf
    refine lv_aload_n hx hb dX11_sheet_29 rfl (lv_at hl 0 rfl) ?_
    refine lv_ldc (v := (-100001)) hx hb hown kc70 dX11_sheet_30 ?_
    obtain ⟨r20, y21, g22, hf⟩ := b2_s hf
    refine k_Vi (rest := []) ⟨hx, hb, hml, hown, hts⟩ (c_Model_finding l D cI cZ t a_Model a_Model_now a_Model_past a_Model_bits a_Model_sizes a_Model_sheets a_Model_least a_Model_ways a_Model_handOf a_Model_crossedAt a_Model_strokeOf a_Model_prices a_Model_hitAt a_Model_carried H.size Model_findings Model_kept Model_thenCost Model_thenWays Model_bothCost Model_bothWays (-100001) r20 y21 g22) (cwV 1 hts gX11_sheet_X11_finding rfl rfl rfl (by decide +kernel) ⟨Nat.le_of_ble_eq_true rfl, Nat.le_of_ble_eq_true rfl⟩) hE hP hD hS hA [0] [1, 2, 3] rfl rfl rfl rfl rfl 0 11 rfl rfl rfl rfl hl.1 rfl (Nat.le_of_ble_eq_true rfl) dX11_sheet_32 ⟨Nat.le_of_ble_eq_true rfl, Nat.le_of_ble_eq_true rfl⟩ (fun rq uq H locs hrq hP hD hS => ?_)
    refine lv_tpx hrq.symm ?_
    have hP : va_P D vwCl [(a_Model_bits, .inl (cI, 4, .inl Model_bits)), (a_Model_sizes, .inl (cI, 4, .inl Model_sizes)), (a_Model_sheets, .inl (cI, 96, .inl Model_sheets)), (a_Model, .inr (11, [.ref a_Model_now, .ref a_Model_past, .int Model_kept, .int y21, .ref a_Model_bits, .ref a_Model_sizes, .ref a_Model_sheets, .ref a_Model_least, .ref a_Model_ways, .int Model_thenCost, .int Model_thenWays, .int Model_bothCost, .int Model_bothWays, .ref a_Model_handOf, .ref a_Model_crossedAt, .ref a_Model_strokeOf, .ref a_Model_prices, .ref a_Model_hitAt, .ref a_Model_carried]))] H := hP
    have hD : va_D A [(a_Model_bits, .inl (cI, 4, .inl Model_bits)), (a_Model_sizes, .inl (cI, 4, .inl Model_sizes)), (a_Model_sheets, .inl (cI, 96, .inl Model_sheets)), (a_Model, .inr (11, [.ref a_Model_now, .ref a_Model_past, .int Model_kept, .int y21, .ref a_Model_bits, .ref a_Model_sizes, .ref a_Model_sheets, .ref a_Model_least, .ref a_Model_ways, .int Model_thenCost, .int Model_thenWays, .int Model_bothCost, .int Model_bothWays, .ref a_Model_handOf, .ref a_Model_crossedAt, .ref a_Model_strokeOf, .ref a_Model_prices, .ref a_Model_hitAt, .ref a_Model_carried]))] := hD
    cases hf
    exact k_iret () hQ9 hx hb hr hlocks rfl (hP.sub [3, 0, 1, 2] rfl) (hD.sub [3, 0, 1, 2] (by decide) rfl) hS (Nat.le_of_ble_eq_true rfl) (Nat.le_of_ble_eq_true rfl) dX11_sheet_35
  · have hf := ite_f c19 hf
    refine lv_iload_n hx hb dX11_sheet_7 rfl (lv_at hl 2 rfl) ?_
    refine lv_if_eq (tgt := 36) hx hb dX11_sheet_8 (by decide) (fun c23 => ?_) (fun c23 => ?_)
    · have hf := ite_t c23 hf
      exact hJ36 p1 p2 p3 Model_findings Model_bits Model_sizes Model_sheets H locs ls hP hD hS (lv_sub hl [0, 1, 2, 3] rfl) hf
    · have hf := ite_f c23 hf
      refine lv_iload_n hx hb dX11_sheet_11 rfl (lv_at hl 2 rfl) ?_
      refine lv_bipush (v := 8) hx hb dX11_sheet_12 (by decide) ?_
      refine lv_icmp_eq (tgt := 36) hx hb dX11_sheet_14 (by decide) (fun c24 => ?_) (fun c24 => ?_)
      · have hf := ite_t c24 hf
        exact hJ36 p1 p2 p3 Model_findings Model_bits Model_sizes Model_sheets H locs ls hP hD hS (lv_sub hl [0, 1, 2, 3] rfl) hf
      · have hf := ite_f c24 hf
        refine lv_iload_n hx hb dX11_sheet_17 rfl (lv_at hl 2 rfl) ?_
        refine lv_bipush (v := 16) hx hb dX11_sheet_18 (by decide) ?_
        refine lv_icmp_eq (tgt := 36) hx hb dX11_sheet_20 (by decide) (fun c25 => ?_) (fun c25 => ?_)
        · have hf := ite_t c25 hf
          exact hJ36 p1 p2 p3 Model_findings Model_bits Model_sizes Model_sheets H locs ls hP hD hS (lv_sub hl [0, 1, 2, 3] rfl) hf
        · have hf := ite_f c25 hf
          refine lv_iload_n hx hb dX11_sheet_23 rfl (lv_at hl 2 rfl) ?_
          refine lv_bipush (v := 32) hx hb dX11_sheet_24 (by decide) ?_
          refine lv_icmp_eq (tgt := 36) hx hb dX11_sheet_26 (by decide) (fun c26 => ?_) (fun c26 => ?_)
          · have hf := ite_t c26 hf
            exact hJ36 p1 p2 p3 Model_findings Model_bits Model_sizes Model_sheets H locs ls hP hD hS (lv_sub hl [0, 1, 2, 3] rfl) hf
          · have hf := ite_f c26 hf
            refine lv_aload_n hx hb dX11_sheet_29 rfl (lv_at hl 0 rfl) ?_
            refine lv_ldc (v := (-100001)) hx hb hown kc70 dX11_sheet_30 ?_
            obtain ⟨r27, y28, g29, hf⟩ := b2_s hf
            refine k_Vi (rest := []) ⟨hx, hb, hml, hown, hts⟩ (c_Model_finding l D cI cZ t a_Model a_Model_now a_Model_past a_Model_bits a_Model_sizes a_Model_sheets a_Model_least a_Model_ways a_Model_handOf a_Model_crossedAt a_Model_strokeOf a_Model_prices a_Model_hitAt a_Model_carried H.size Model_findings Model_kept Model_thenCost Model_thenWays Model_bothCost Model_bothWays (-100001) r27 y28 g29) (cwV 1 hts gX11_sheet_X11_finding rfl rfl rfl (by decide +kernel) ⟨Nat.le_of_ble_eq_true rfl, Nat.le_of_ble_eq_true rfl⟩) hE hP hD hS hA [0] [1, 2, 3] rfl rfl rfl rfl rfl 0 11 rfl rfl rfl rfl hl.1 rfl (Nat.le_of_ble_eq_true rfl) dX11_sheet_32 ⟨Nat.le_of_ble_eq_true rfl, Nat.le_of_ble_eq_true rfl⟩ (fun rq uq H locs hrq hP hD hS => ?_)
            refine lv_tpx hrq.symm ?_
            have hP : va_P D vwCl [(a_Model_bits, .inl (cI, 4, .inl Model_bits)), (a_Model_sizes, .inl (cI, 4, .inl Model_sizes)), (a_Model_sheets, .inl (cI, 96, .inl Model_sheets)), (a_Model, .inr (11, [.ref a_Model_now, .ref a_Model_past, .int Model_kept, .int y28, .ref a_Model_bits, .ref a_Model_sizes, .ref a_Model_sheets, .ref a_Model_least, .ref a_Model_ways, .int Model_thenCost, .int Model_thenWays, .int Model_bothCost, .int Model_bothWays, .ref a_Model_handOf, .ref a_Model_crossedAt, .ref a_Model_strokeOf, .ref a_Model_prices, .ref a_Model_hitAt, .ref a_Model_carried]))] H := hP
            have hD : va_D A [(a_Model_bits, .inl (cI, 4, .inl Model_bits)), (a_Model_sizes, .inl (cI, 4, .inl Model_sizes)), (a_Model_sheets, .inl (cI, 96, .inl Model_sheets)), (a_Model, .inr (11, [.ref a_Model_now, .ref a_Model_past, .int Model_kept, .int y28, .ref a_Model_bits, .ref a_Model_sizes, .ref a_Model_sheets, .ref a_Model_least, .ref a_Model_ways, .int Model_thenCost, .int Model_thenWays, .int Model_bothCost, .int Model_bothWays, .ref a_Model_handOf, .ref a_Model_crossedAt, .ref a_Model_strokeOf, .ref a_Model_prices, .ref a_Model_hitAt, .ref a_Model_carried]))] := hD
            cases hf
            exact k_iret () hQ9 hx hb hr hlocks rfl (hP.sub [3, 0, 1, 2] rfl) (hD.sub [3, 0, 1, 2] (by decide) rfl) hS (Nat.le_of_ble_eq_true rfl) (Nat.le_of_ble_eq_true rfl) dX11_sheet_35
abbrev rm_Model_put : Room := { frames := 2, cells := 0, slots := 0, locals := 42 }
set_option maxHeartbeats 4000000 in
set_option maxRecDepth 100000 in
theorem c_Model_put (l : Launch) (D : va_G) (cI cZ : ClassId) (t : Nat → Nat) (a_Model a_Model_now a_Model_past a_Model_bits a_Model_sizes a_Model_sheets a_Model_least a_Model_ways a_Model_handOf a_Model_crossedAt a_Model_strokeOf a_Model_prices a_Model_hitAt a_Model_carried sz : Nat) (Model_findings : Int32) (Model_bits Model_sizes Model_sheets : Nat → Int32) (Model_kept Model_thenCost Model_thenWays Model_bothCost Model_bothWays p1 p2 p3 zr z_Model_findings : Int32) (z_Model_sheets : Nat → Int32) (hf : f_Model_put Model_findings Model_bits Model_sizes Model_sheets p1 p2 p3 = some (zr, z_Model_findings, z_Model_sheets)) : Met l yX11_put wsX11_put rm_Model_put (va_Pc [.ref a_Model, .int p1, .int p2, .int p3] (pcW D cI cZ t [(a_Model, .inr (11, [.ref a_Model_now, .ref a_Model_past, .int Model_kept, .int Model_findings, .ref a_Model_bits, .ref a_Model_sizes, .ref a_Model_sheets, .ref a_Model_least, .ref a_Model_ways, .int Model_thenCost, .int Model_thenWays, .int Model_bothCost, .int Model_bothWays, .ref a_Model_handOf, .ref a_Model_crossedAt, .ref a_Model_strokeOf, .ref a_Model_prices, .ref a_Model_hitAt, .ref a_Model_carried])), (a_Model_bits, .inl (cI, 4, .inl Model_bits)), (a_Model_sizes, .inl (cI, 4, .inl Model_sizes)), (a_Model_sheets, .inl (cI, 96, .inl Model_sheets))] sz)) (va_Qi (fun r (u : Unit) => r = zr) (fun u t' => bW D (va_A [(a_Model, .inr (11, [.ref a_Model_now, .ref a_Model_past, .int Model_kept, .int Model_findings, .ref a_Model_bits, .ref a_Model_sizes, .ref a_Model_sheets, .ref a_Model_least, .ref a_Model_ways, .int Model_thenCost, .int Model_thenWays, .int Model_bothCost, .int Model_bothWays, .ref a_Model_handOf, .ref a_Model_crossedAt, .ref a_Model_strokeOf, .ref a_Model_prices, .ref a_Model_hitAt, .ref a_Model_carried])), (a_Model_bits, .inl (cI, 4, .inl Model_bits)), (a_Model_sizes, .inl (cI, 4, .inl Model_sizes)), (a_Model_sheets, .inl (cI, 96, .inl Model_sheets))] sz) [(a_Model, .inr (11, [.ref a_Model_now, .ref a_Model_past, .int Model_kept, .int z_Model_findings, .ref a_Model_bits, .ref a_Model_sizes, .ref a_Model_sheets, .ref a_Model_least, .ref a_Model_ways, .int Model_thenCost, .int Model_thenWays, .int Model_bothCost, .int Model_bothWays, .ref a_Model_handOf, .ref a_Model_crossedAt, .ref a_Model_strokeOf, .ref a_Model_prices, .ref a_Model_hitAt, .ref a_Model_carried])), (a_Model_bits, .inl (cI, 4, .inl Model_bits)), (a_Model_sizes, .inl (cI, 4, .inl Model_sizes)), (a_Model_sheets, .inl (cI, 96, .inl z_Model_sheets))] t') (va_A [(a_Model, .inr (11, [.ref a_Model_now, .ref a_Model_past, .int Model_kept, .int Model_findings, .ref a_Model_bits, .ref a_Model_sizes, .ref a_Model_sheets, .ref a_Model_least, .ref a_Model_ways, .int Model_thenCost, .int Model_thenWays, .int Model_bothCost, .int Model_bothWays, .ref a_Model_handOf, .ref a_Model_crossedAt, .ref a_Model_strokeOf, .ref a_Model_prices, .ref a_Model_hitAt, .ref a_Model_carried])), (a_Model_bits, .inl (cI, 4, .inl Model_bits)), (a_Model_sizes, .inl (cI, 4, .inl Model_sizes)), (a_Model_sheets, .inl (cI, 96, .inl Model_sheets))] sz)) 0 0 (va_A [(a_Model, .inr (11, [.ref a_Model_now, .ref a_Model_past, .int Model_kept, .int Model_findings, .ref a_Model_bits, .ref a_Model_sizes, .ref a_Model_sheets, .ref a_Model_least, .ref a_Model_ways, .int Model_thenCost, .int Model_thenWays, .int Model_bothCost, .int Model_bothWays, .ref a_Model_handOf, .ref a_Model_crossedAt, .ref a_Model_strokeOf, .ref a_Model_prices, .ref a_Model_hitAt, .ref a_Model_carried])), (a_Model_bits, .inl (cI, 4, .inl Model_bits)), (a_Model_sizes, .inl (cI, 4, .inl Model_sizes)), (a_Model_sheets, .inl (cI, 96, .inl Model_sheets))] sz) := by
  refine Met.ofW (cc := cX11_put) (maxL := 5) (ret := (some .int)) (by decide) rfl ?_
  intro p e s m args below meth c s₁ B hml hv
  obtain ⟨rfl, hsz, hP, hD0, hE⟩ := hv
  have hx := B.exec
  have hb := B.bytes
  have hr := B.returns
  have hts := atoms_spec (ws := wsX11_put) B.pre
  have hown : s.vm.findClass RX11 = some m.cls := findClass_of_methodNamed B.named
  have hlocks := B.notSynchronized
  subst hsz
  have hD := hD0.self (sz := s.heap.size)
  generalize hAe : va_A [(a_Model, .inr (11, [.ref a_Model_now, .ref a_Model_past, .int Model_kept, .int Model_findings, .ref a_Model_bits, .ref a_Model_sizes, .ref a_Model_sheets, .ref a_Model_least, .ref a_Model_ways, .int Model_thenCost, .int Model_thenWays, .int Model_bothCost, .int Model_bothWays, .ref a_Model_handOf, .ref a_Model_crossedAt, .ref a_Model_strokeOf, .ref a_Model_prices, .ref a_Model_hitAt, .ref a_Model_carried])), (a_Model_bits, .inl (cI, 4, .inl Model_bits)), (a_Model_sizes, .inl (cI, 4, .inl Model_sizes)), (a_Model_sheets, .inl (cI, 96, .inl Model_sheets))] s.heap.size = A at hD hE ⊢
  have hA : ∀ q : Nat, s.heap.size ≤ q → A q := fun q h => by rw [← hAe]; exact Or.inr h
  clear hAe hD0
  have hS : va_S A s.heap s.heap [] := va_S.rf
  have hK := hE.1
  have hl := lv_entry ([.ref a_Model, .int p1, .int p2, .int p3]) (n := 5) (Nat.le_of_ble_eq_true rfl)
  rw [lg_entry_eq]
  generalize (lg_sl ([.ref a_Model, .int p1, .int p2, .int p3]) ++ List.replicate (5 - (lg_sl ([.ref a_Model, .int p1, .int p2, .int p3])).length) Slot.unset).toArray = ls at hl ⊢
  have hl : lv_has ls 5 [(0, .ref a_Model), (1, .int p1), (2, .int p2), (3, .int p3)] := hl
  refine w_q (fun Q9 hQ9 => ?_)
  have fl16 := hts (.fieldLink RX11 16 "StickRoomModel" "bits" "[I") (by decide +kernel)
  have inX11 : ∀ w ∈ wsX110, w ∈ wsX11_put := by decide +kernel
  have fl19 := hts (.fieldLink RX11 19 "StickRoomModel" "sizes" "[I") (by decide +kernel)
  have fl22 := hts (.fieldLink RX11 22 "StickRoomModel" "sheets" "[I") (by decide +kernel)
  have kc70 := hts (.constant RX11 70 (-100001)) (by decide +kernel)
  have kc182 := hts (.constant RX11 182 (-100002)) (by decide +kernel)
  unfold f_Model_put at hf
  refine lv_iload_n hx hb dX11_put_0 rfl (lv_at hl 1 rfl) ?_
  obtain ⟨r1, g2, hf⟩ := b1_s hf
  refine k_Si (rest := []) ⟨hx, hb, hml, hown, hts⟩ (c_Model_isSheet l D cI cZ t  s.heap.size p1 r1 g2) (va_cwS 1 hts gX11_put_X11_isSheet rfl rfl rfl (by decide +kernel) ⟨Nat.le_of_ble_eq_true rfl, Nat.le_of_ble_eq_true rfl⟩) hE hP hD hS hA [] [0, 1, 2, 3] rfl rfl rfl rfl rfl rfl hl.1 rfl (Nat.le_of_ble_eq_true rfl) dX11_put_1 ⟨Nat.le_of_ble_eq_true rfl, Nat.le_of_ble_eq_true rfl⟩ (fun rq uq H locs hrq hP hD hS => ?_)
  refine lv_tpx hrq.symm ?_
  have hP : va_P D vwCl [(a_Model, .inr (11, [.ref a_Model_now, .ref a_Model_past, .int Model_kept, .int Model_findings, .ref a_Model_bits, .ref a_Model_sizes, .ref a_Model_sheets, .ref a_Model_least, .ref a_Model_ways, .int Model_thenCost, .int Model_thenWays, .int Model_bothCost, .int Model_bothWays, .ref a_Model_handOf, .ref a_Model_crossedAt, .ref a_Model_strokeOf, .ref a_Model_prices, .ref a_Model_hitAt, .ref a_Model_carried])), (a_Model_bits, .inl (cI, 4, .inl Model_bits)), (a_Model_sizes, .inl (cI, 4, .inl Model_sizes)), (a_Model_sheets, .inl (cI, 96, .inl Model_sheets))] H := hP
  have hD : va_D A [(a_Model, .inr (11, [.ref a_Model_now, .ref a_Model_past, .int Model_kept, .int Model_findings, .ref a_Model_bits, .ref a_Model_sizes, .ref a_Model_sheets, .ref a_Model_least, .ref a_Model_ways, .int Model_thenCost, .int Model_thenWays, .int Model_bothCost, .int Model_bothWays, .ref a_Model_handOf, .ref a_Model_crossedAt, .ref a_Model_strokeOf, .ref a_Model_prices, .ref a_Model_hitAt, .ref a_Model_carried])), (a_Model_bits, .inl (cI, 4, .inl Model_bits)), (a_Model_sizes, .inl (cI, 4, .inl Model_sizes)), (a_Model_sheets, .inl (cI, 96, .inl Model_sheets))] := hD
  refine lv_if_ne (tgt := 14) hx hb dX11_put_4 (by decide) (fun c3 => ?_) (fun c3 => ?_)
  · have hf := ite_f c3 hf
    refine lv_aload_n hx hb dX11_put_14 rfl (lv_at hl 0 rfl) ?_
    refine va_get (D := D) (ci := 11) (v := .ref a_Model_bits) (C := RX11) (T := TX11) (N := 19) hx hb hts inX11 hown hK hP 0 rfl rfl 4 (by decide) fl16 (fun _ h9 => h9) rfl dX11_put_15 ?_
    refine lv_iload_n hx hb dX11_put_18 rfl (lv_at hl 1 rfl) ?_
    obtain ⟨ix4, x4, ex4, hf⟩ := rd_s hf
    refine va_iald hx hb hK hP 1 0 rfl rfl ix4 dX11_put_19 ?_
    refine lv_tpx ex4 ?_
    refine lv_if_ne (tgt := 30) hx hb dX11_put_20 (by decide) (fun c5 => ?_) (fun c5 => ?_)
    · have hf := ite_f c5 hf
      refine lv_iload_n hx hb dX11_put_30 rfl (lv_at hl 2 rfl) ?_
      refine lv_iconst (v := 0) hx hb dX11_put_31 (by decide) ?_
      refine lv_aload_n hx hb dX11_put_32 rfl (lv_at hl 0 rfl) ?_
      refine va_get (D := D) (ci := 11) (v := .ref a_Model_sizes) (C := RX11) (T := TX11) (N := 19) hx hb hts inX11 hown hK hP 0 rfl rfl 5 (by decide) fl19 (fun _ h9 => h9) rfl dX11_put_33 ?_
      refine lv_iload_n hx hb dX11_put_36 rfl (lv_at hl 1 rfl) ?_
      obtain ⟨ix6, x6, ex6, hf⟩ := rd_s hf
      refine va_iald hx hb hK hP 2 0 rfl rfl ix6 dX11_put_37 ?_
      refine lv_tpx ex6 ?_
      refine lv_iconst (v := 1) hx hb dX11_put_38 (by decide) ?_
      refine lv_isub hx hb dX11_put_39 ?_
      obtain ⟨r7, g8, hf⟩ := b1_s hf
      refine k_Si (rest := []) ⟨hx, hb, hml, hown, hts⟩ (c_Model_within l D cI cZ t  H.size p2 0 (x6 - 1) r7 g8) (va_cwS 3 hts gX11_put_X11_within rfl rfl rfl (by decide +kernel) ⟨Nat.le_of_ble_eq_true rfl, Nat.le_of_ble_eq_true rfl⟩) hE hP hD hS hA [] [0, 1, 2, 3] rfl rfl rfl rfl rfl rfl hl.1 rfl (Nat.le_of_ble_eq_true rfl) dX11_put_40 ⟨Nat.le_of_ble_eq_true rfl, Nat.le_of_ble_eq_true rfl⟩ (fun rq uq H locs hrq hP hD hS => ?_)
      refine lv_tpx hrq.symm ?_
      have hP : va_P D vwCl [(a_Model, .inr (11, [.ref a_Model_now, .ref a_Model_past, .int Model_kept, .int Model_findings, .ref a_Model_bits, .ref a_Model_sizes, .ref a_Model_sheets, .ref a_Model_least, .ref a_Model_ways, .int Model_thenCost, .int Model_thenWays, .int Model_bothCost, .int Model_bothWays, .ref a_Model_handOf, .ref a_Model_crossedAt, .ref a_Model_strokeOf, .ref a_Model_prices, .ref a_Model_hitAt, .ref a_Model_carried])), (a_Model_bits, .inl (cI, 4, .inl Model_bits)), (a_Model_sizes, .inl (cI, 4, .inl Model_sizes)), (a_Model_sheets, .inl (cI, 96, .inl Model_sheets))] H := hP
      have hD : va_D A [(a_Model, .inr (11, [.ref a_Model_now, .ref a_Model_past, .int Model_kept, .int Model_findings, .ref a_Model_bits, .ref a_Model_sizes, .ref a_Model_sheets, .ref a_Model_least, .ref a_Model_ways, .int Model_thenCost, .int Model_thenWays, .int Model_bothCost, .int Model_bothWays, .ref a_Model_handOf, .ref a_Model_crossedAt, .ref a_Model_strokeOf, .ref a_Model_prices, .ref a_Model_hitAt, .ref a_Model_carried])), (a_Model_bits, .inl (cI, 4, .inl Model_bits)), (a_Model_sizes, .inl (cI, 4, .inl Model_sizes)), (a_Model_sheets, .inl (cI, 96, .inl Model_sheets))] := hD
      refine lv_if_ne (tgt := 53) hx hb dX11_put_43 (by decide) (fun c9 => ?_) (fun c9 => ?_)
      · have hf := ite_f c9 hf
        refine lv_bipush (v := 32) hx hb dX11_put_53 (by decide) ?_
        refine lv_aload_n hx hb dX11_put_55 rfl (lv_at hl 0 rfl) ?_
        refine va_get (D := D) (ci := 11) (v := .ref a_Model_bits) (C := RX11) (T := TX11) (N := 19) hx hb hts inX11 hown hK hP 0 rfl rfl 4 (by decide) fl16 (fun _ h9 => h9) rfl dX11_put_56 ?_
        refine lv_iload_n hx hb dX11_put_59 rfl (lv_at hl 1 rfl) ?_
        obtain ⟨ix10, x10, ex10, hf⟩ := rd_s hf
        refine va_iald hx hb hK hP 1 0 rfl rfl ix10 dX11_put_60 ?_
        refine lv_tpx ex10 ?_
        refine lv_isub hx hb dX11_put_61 ?_
        obtain ⟨x11, ex11, hf⟩ := nm_s hf
        refine lv_tpx ex11 ?_
        refine lv_istore (lv' := [(4, .int x11), (0, .ref a_Model), (1, .int p1), (2, .int p2), (3, .int p3)]) hx hb dX11_put_62 hl (by decide) rfl (fun ls hl => ?_)
        refine lv_aload_n hx hb dX11_put_64 rfl (lv_at hl 1 rfl) ?_
        refine va_get (D := D) (ci := 11) (v := .ref a_Model_sheets) (C := RX11) (T := TX11) (N := 19) hx hb hts inX11 hown hK hP 0 rfl rfl 6 (by decide) fl22 (fun _ h9 => h9) rfl dX11_put_65 ?_
        refine lv_bipush (v := 24) hx hb dX11_put_68 (by decide) ?_
        refine lv_iload_n hx hb dX11_put_70 rfl (lv_at hl 2 rfl) ?_
        refine lv_imul hx hb dX11_put_71 ?_
        refine lv_iload_n hx hb dX11_put_72 rfl (lv_at hl 3 rfl) ?_
        refine lv_iadd hx hb dX11_put_73 ?_
        refine lv_iload_n hx hb dX11_put_74 rfl (lv_at hl 4 rfl) ?_
        refine lv_iload hx hb dX11_put_75 (lv_at hl 0 rfl) ?_
        refine lv_ishl hx hb dX11_put_77 ?_
        obtain ⟨x12, ex12, hf⟩ := nm_s hf
        refine lv_tpx ex12 ?_
        refine lv_iload hx hb dX11_put_78 (lv_at hl 0 rfl) ?_
        refine lv_ishr hx hb dX11_put_80 ?_
        obtain ⟨x13, ex13, hf⟩ := nm_s hf
        refine lv_tpx ex13 ?_
        obtain ⟨i14, hf⟩ := ck_s hf
        refine va_iast hx hb hK hP hD hS 3 0 rfl rfl i14 dX11_put_81 (fun H locs hP hD hS => ?_)
        have hP : va_P D vwCl [(a_Model, .inr (11, [.ref a_Model_now, .ref a_Model_past, .int Model_kept, .int Model_findings, .ref a_Model_bits, .ref a_Model_sizes, .ref a_Model_sheets, .ref a_Model_least, .ref a_Model_ways, .int Model_thenCost, .int Model_thenWays, .int Model_bothCost, .int Model_bothWays, .ref a_Model_handOf, .ref a_Model_crossedAt, .ref a_Model_strokeOf, .ref a_Model_prices, .ref a_Model_hitAt, .ref a_Model_carried])), (a_Model_bits, .inl (cI, 4, .inl Model_bits)), (a_Model_sizes, .inl (cI, 4, .inl Model_sizes)), (a_Model_sheets, .inl (cI, 96, .inl (upd Model_sheets ((24 * p1) + p2).toNatClampNeg x13)))] H := hP
        have hD : va_D A [(a_Model, .inr (11, [.ref a_Model_now, .ref a_Model_past, .int Model_kept, .int Model_findings, .ref a_Model_bits, .ref a_Model_sizes, .ref a_Model_sheets, .ref a_Model_least, .ref a_Model_ways, .int Model_thenCost, .int Model_thenWays, .int Model_bothCost, .int Model_bothWays, .ref a_Model_handOf, .ref a_Model_crossedAt, .ref a_Model_strokeOf, .ref a_Model_prices, .ref a_Model_hitAt, .ref a_Model_carried])), (a_Model_bits, .inl (cI, 4, .inl Model_bits)), (a_Model_sizes, .inl (cI, 4, .inl Model_sizes)), (a_Model_sheets, .inl (cI, 96, .inl (upd Model_sheets ((24 * p1) + p2).toNatClampNeg x13)))] := hD
        refine lv_iconst (v := 0) hx hb dX11_put_82 (by decide) ?_
        cases hf
        exact k_iret () hQ9 hx hb hr hlocks rfl hP hD hS (Nat.le_of_ble_eq_true rfl) (Nat.le_of_ble_eq_true rfl) dX11_put_83
      · have hf := ite_t c9 hf
        refine lv_aload_n hx hb dX11_put_46 rfl (lv_at hl 0 rfl) ?_
        refine lv_ldc (v := (-100001)) hx hb hown kc70 dX11_put_47 ?_
        obtain ⟨r15, y16, g17, hf⟩ := b2_s hf
        refine k_Vi (rest := []) ⟨hx, hb, hml, hown, hts⟩ (c_Model_finding l D cI cZ t a_Model a_Model_now a_Model_past a_Model_bits a_Model_sizes a_Model_sheets a_Model_least a_Model_ways a_Model_handOf a_Model_crossedAt a_Model_strokeOf a_Model_prices a_Model_hitAt a_Model_carried H.size Model_findings Model_kept Model_thenCost Model_thenWays Model_bothCost Model_bothWays (-100001) r15 y16 g17) (cwV 1 hts gX11_put_X11_finding rfl rfl rfl (by decide +kernel) ⟨Nat.le_of_ble_eq_true rfl, Nat.le_of_ble_eq_true rfl⟩) hE hP hD hS hA [0] [1, 2, 3] rfl rfl rfl rfl rfl 0 11 rfl rfl rfl rfl hl.1 rfl (Nat.le_of_ble_eq_true rfl) dX11_put_49 ⟨Nat.le_of_ble_eq_true rfl, Nat.le_of_ble_eq_true rfl⟩ (fun rq uq H locs hrq hP hD hS => ?_)
        refine lv_tpx hrq.symm ?_
        have hP : va_P D vwCl [(a_Model_bits, .inl (cI, 4, .inl Model_bits)), (a_Model_sizes, .inl (cI, 4, .inl Model_sizes)), (a_Model_sheets, .inl (cI, 96, .inl Model_sheets)), (a_Model, .inr (11, [.ref a_Model_now, .ref a_Model_past, .int Model_kept, .int y16, .ref a_Model_bits, .ref a_Model_sizes, .ref a_Model_sheets, .ref a_Model_least, .ref a_Model_ways, .int Model_thenCost, .int Model_thenWays, .int Model_bothCost, .int Model_bothWays, .ref a_Model_handOf, .ref a_Model_crossedAt, .ref a_Model_strokeOf, .ref a_Model_prices, .ref a_Model_hitAt, .ref a_Model_carried]))] H := hP
        have hD : va_D A [(a_Model_bits, .inl (cI, 4, .inl Model_bits)), (a_Model_sizes, .inl (cI, 4, .inl Model_sizes)), (a_Model_sheets, .inl (cI, 96, .inl Model_sheets)), (a_Model, .inr (11, [.ref a_Model_now, .ref a_Model_past, .int Model_kept, .int y16, .ref a_Model_bits, .ref a_Model_sizes, .ref a_Model_sheets, .ref a_Model_least, .ref a_Model_ways, .int Model_thenCost, .int Model_thenWays, .int Model_bothCost, .int Model_bothWays, .ref a_Model_handOf, .ref a_Model_crossedAt, .ref a_Model_strokeOf, .ref a_Model_prices, .ref a_Model_hitAt, .ref a_Model_carried]))] := hD
        cases hf
        exact k_iret () hQ9 hx hb hr hlocks rfl (hP.sub [3, 0, 1, 2] rfl) (hD.sub [3, 0, 1, 2] (by decide) rfl) hS (Nat.le_of_ble_eq_true rfl) (Nat.le_of_ble_eq_true rfl) dX11_put_52
    · have hf := ite_t c5 hf
      refine lv_aload_n hx hb dX11_put_23 rfl (lv_at hl 0 rfl) ?_
      refine lv_ldc (v := (-100002)) hx hb hown kc182 dX11_put_24 ?_
      obtain ⟨r18, y19, g20, hf⟩ := b2_s hf
      refine k_Vi (rest := []) ⟨hx, hb, hml, hown, hts⟩ (c_Model_finding l D cI cZ t a_Model a_Model_now a_Model_past a_Model_bits a_Model_sizes a_Model_sheets a_Model_least a_Model_ways a_Model_handOf a_Model_crossedAt a_Model_strokeOf a_Model_prices a_Model_hitAt a_Model_carried H.size Model_findings Model_kept Model_thenCost Model_thenWays Model_bothCost Model_bothWays (-100002) r18 y19 g20) (cwV 1 hts gX11_put_X11_finding rfl rfl rfl (by decide +kernel) ⟨Nat.le_of_ble_eq_true rfl, Nat.le_of_ble_eq_true rfl⟩) hE hP hD hS hA [0] [1, 2, 3] rfl rfl rfl rfl rfl 0 11 rfl rfl rfl rfl hl.1 rfl (Nat.le_of_ble_eq_true rfl) dX11_put_26 ⟨Nat.le_of_ble_eq_true rfl, Nat.le_of_ble_eq_true rfl⟩ (fun rq uq H locs hrq hP hD hS => ?_)
      refine lv_tpx hrq.symm ?_
      have hP : va_P D vwCl [(a_Model_bits, .inl (cI, 4, .inl Model_bits)), (a_Model_sizes, .inl (cI, 4, .inl Model_sizes)), (a_Model_sheets, .inl (cI, 96, .inl Model_sheets)), (a_Model, .inr (11, [.ref a_Model_now, .ref a_Model_past, .int Model_kept, .int y19, .ref a_Model_bits, .ref a_Model_sizes, .ref a_Model_sheets, .ref a_Model_least, .ref a_Model_ways, .int Model_thenCost, .int Model_thenWays, .int Model_bothCost, .int Model_bothWays, .ref a_Model_handOf, .ref a_Model_crossedAt, .ref a_Model_strokeOf, .ref a_Model_prices, .ref a_Model_hitAt, .ref a_Model_carried]))] H := hP
      have hD : va_D A [(a_Model_bits, .inl (cI, 4, .inl Model_bits)), (a_Model_sizes, .inl (cI, 4, .inl Model_sizes)), (a_Model_sheets, .inl (cI, 96, .inl Model_sheets)), (a_Model, .inr (11, [.ref a_Model_now, .ref a_Model_past, .int Model_kept, .int y19, .ref a_Model_bits, .ref a_Model_sizes, .ref a_Model_sheets, .ref a_Model_least, .ref a_Model_ways, .int Model_thenCost, .int Model_thenWays, .int Model_bothCost, .int Model_bothWays, .ref a_Model_handOf, .ref a_Model_crossedAt, .ref a_Model_strokeOf, .ref a_Model_prices, .ref a_Model_hitAt, .ref a_Model_carried]))] := hD
      cases hf
      exact k_iret () hQ9 hx hb hr hlocks rfl (hP.sub [3, 0, 1, 2] rfl) (hD.sub [3, 0, 1, 2] (by decide) rfl) hS (Nat.le_of_ble_eq_true rfl) (Nat.le_of_ble_eq_true rfl) dX11_put_29
  · have hf := ite_t c3 hf
    refine lv_aload_n hx hb dX11_put_7 rfl (lv_at hl 0 rfl) ?_
    refine lv_ldc (v := (-100001)) hx hb hown kc70 dX11_put_8 ?_
    obtain ⟨r21, y22, g23, hf⟩ := b2_s hf
    refine k_Vi (rest := []) ⟨hx, hb, hml, hown, hts⟩ (c_Model_finding l D cI cZ t a_Model a_Model_now a_Model_past a_Model_bits a_Model_sizes a_Model_sheets a_Model_least a_Model_ways a_Model_handOf a_Model_crossedAt a_Model_strokeOf a_Model_prices a_Model_hitAt a_Model_carried H.size Model_findings Model_kept Model_thenCost Model_thenWays Model_bothCost Model_bothWays (-100001) r21 y22 g23) (cwV 1 hts gX11_put_X11_finding rfl rfl rfl (by decide +kernel) ⟨Nat.le_of_ble_eq_true rfl, Nat.le_of_ble_eq_true rfl⟩) hE hP hD hS hA [0] [1, 2, 3] rfl rfl rfl rfl rfl 0 11 rfl rfl rfl rfl hl.1 rfl (Nat.le_of_ble_eq_true rfl) dX11_put_10 ⟨Nat.le_of_ble_eq_true rfl, Nat.le_of_ble_eq_true rfl⟩ (fun rq uq H locs hrq hP hD hS => ?_)
    refine lv_tpx hrq.symm ?_
    have hP : va_P D vwCl [(a_Model_bits, .inl (cI, 4, .inl Model_bits)), (a_Model_sizes, .inl (cI, 4, .inl Model_sizes)), (a_Model_sheets, .inl (cI, 96, .inl Model_sheets)), (a_Model, .inr (11, [.ref a_Model_now, .ref a_Model_past, .int Model_kept, .int y22, .ref a_Model_bits, .ref a_Model_sizes, .ref a_Model_sheets, .ref a_Model_least, .ref a_Model_ways, .int Model_thenCost, .int Model_thenWays, .int Model_bothCost, .int Model_bothWays, .ref a_Model_handOf, .ref a_Model_crossedAt, .ref a_Model_strokeOf, .ref a_Model_prices, .ref a_Model_hitAt, .ref a_Model_carried]))] H := hP
    have hD : va_D A [(a_Model_bits, .inl (cI, 4, .inl Model_bits)), (a_Model_sizes, .inl (cI, 4, .inl Model_sizes)), (a_Model_sheets, .inl (cI, 96, .inl Model_sheets)), (a_Model, .inr (11, [.ref a_Model_now, .ref a_Model_past, .int Model_kept, .int y22, .ref a_Model_bits, .ref a_Model_sizes, .ref a_Model_sheets, .ref a_Model_least, .ref a_Model_ways, .int Model_thenCost, .int Model_thenWays, .int Model_bothCost, .int Model_bothWays, .ref a_Model_handOf, .ref a_Model_crossedAt, .ref a_Model_strokeOf, .ref a_Model_prices, .ref a_Model_hitAt, .ref a_Model_carried]))] := hD
    cases hf
    exact k_iret () hQ9 hx hb hr hlocks rfl (hP.sub [3, 0, 1, 2] rfl) (hD.sub [3, 0, 1, 2] (by decide) rfl) hS (Nat.le_of_ble_eq_true rfl) (Nat.le_of_ble_eq_true rfl) dX11_put_13
abbrev rm_Model_copy : Room := { frames := 2, cells := 0, slots := 0, locals := 42 }
set_option maxHeartbeats 4000000 in
set_option maxRecDepth 100000 in
theorem c_Model_copy (l : Launch) (D : va_G) (cI cZ : ClassId) (t : Nat → Nat) (a_Model a_Model_now a_Model_past a_Model_bits a_Model_sizes a_Model_sheets a_Model_least a_Model_ways a_Model_handOf a_Model_crossedAt a_Model_strokeOf a_Model_prices a_Model_hitAt a_Model_carried sz : Nat) (Model_findings : Int32) (Model_bits Model_sizes Model_sheets Model_carried : Nat → Int32) (Model_kept Model_thenCost Model_thenWays Model_bothCost Model_bothWays p1 p2 p3 p4 p5 zr z_Model_findings : Int32) (z_Model_sheets z_Model_carried : Nat → Int32) (hf : f_Model_copy Model_findings Model_bits Model_sizes Model_sheets Model_carried p1 p2 p3 p4 p5 = some (zr, z_Model_findings, z_Model_sheets, z_Model_carried)) : Met l yX11_copy wsX11_copy rm_Model_copy (va_Pc [.ref a_Model, .int p1, .int p2, .int p3, .int p4, .int p5] (pcW D cI cZ t [(a_Model, .inr (11, [.ref a_Model_now, .ref a_Model_past, .int Model_kept, .int Model_findings, .ref a_Model_bits, .ref a_Model_sizes, .ref a_Model_sheets, .ref a_Model_least, .ref a_Model_ways, .int Model_thenCost, .int Model_thenWays, .int Model_bothCost, .int Model_bothWays, .ref a_Model_handOf, .ref a_Model_crossedAt, .ref a_Model_strokeOf, .ref a_Model_prices, .ref a_Model_hitAt, .ref a_Model_carried])), (a_Model_bits, .inl (cI, 4, .inl Model_bits)), (a_Model_sizes, .inl (cI, 4, .inl Model_sizes)), (a_Model_sheets, .inl (cI, 96, .inl Model_sheets)), (a_Model_carried, .inl (cI, 24, .inl Model_carried))] sz)) (va_Qi (fun r (u : Unit) => r = zr) (fun u t' => bW D (va_A [(a_Model, .inr (11, [.ref a_Model_now, .ref a_Model_past, .int Model_kept, .int Model_findings, .ref a_Model_bits, .ref a_Model_sizes, .ref a_Model_sheets, .ref a_Model_least, .ref a_Model_ways, .int Model_thenCost, .int Model_thenWays, .int Model_bothCost, .int Model_bothWays, .ref a_Model_handOf, .ref a_Model_crossedAt, .ref a_Model_strokeOf, .ref a_Model_prices, .ref a_Model_hitAt, .ref a_Model_carried])), (a_Model_bits, .inl (cI, 4, .inl Model_bits)), (a_Model_sizes, .inl (cI, 4, .inl Model_sizes)), (a_Model_sheets, .inl (cI, 96, .inl Model_sheets)), (a_Model_carried, .inl (cI, 24, .inl Model_carried))] sz) [(a_Model, .inr (11, [.ref a_Model_now, .ref a_Model_past, .int Model_kept, .int z_Model_findings, .ref a_Model_bits, .ref a_Model_sizes, .ref a_Model_sheets, .ref a_Model_least, .ref a_Model_ways, .int Model_thenCost, .int Model_thenWays, .int Model_bothCost, .int Model_bothWays, .ref a_Model_handOf, .ref a_Model_crossedAt, .ref a_Model_strokeOf, .ref a_Model_prices, .ref a_Model_hitAt, .ref a_Model_carried])), (a_Model_bits, .inl (cI, 4, .inl Model_bits)), (a_Model_sizes, .inl (cI, 4, .inl Model_sizes)), (a_Model_sheets, .inl (cI, 96, .inl z_Model_sheets)), (a_Model_carried, .inl (cI, 24, .inl z_Model_carried))] t') (va_A [(a_Model, .inr (11, [.ref a_Model_now, .ref a_Model_past, .int Model_kept, .int Model_findings, .ref a_Model_bits, .ref a_Model_sizes, .ref a_Model_sheets, .ref a_Model_least, .ref a_Model_ways, .int Model_thenCost, .int Model_thenWays, .int Model_bothCost, .int Model_bothWays, .ref a_Model_handOf, .ref a_Model_crossedAt, .ref a_Model_strokeOf, .ref a_Model_prices, .ref a_Model_hitAt, .ref a_Model_carried])), (a_Model_bits, .inl (cI, 4, .inl Model_bits)), (a_Model_sizes, .inl (cI, 4, .inl Model_sizes)), (a_Model_sheets, .inl (cI, 96, .inl Model_sheets)), (a_Model_carried, .inl (cI, 24, .inl Model_carried))] sz)) 0 0 (va_A [(a_Model, .inr (11, [.ref a_Model_now, .ref a_Model_past, .int Model_kept, .int Model_findings, .ref a_Model_bits, .ref a_Model_sizes, .ref a_Model_sheets, .ref a_Model_least, .ref a_Model_ways, .int Model_thenCost, .int Model_thenWays, .int Model_bothCost, .int Model_bothWays, .ref a_Model_handOf, .ref a_Model_crossedAt, .ref a_Model_strokeOf, .ref a_Model_prices, .ref a_Model_hitAt, .ref a_Model_carried])), (a_Model_bits, .inl (cI, 4, .inl Model_bits)), (a_Model_sizes, .inl (cI, 4, .inl Model_sizes)), (a_Model_sheets, .inl (cI, 96, .inl Model_sheets)), (a_Model_carried, .inl (cI, 24, .inl Model_carried))] sz) := by
  refine Met.ofW (cc := cX11_copy) (maxL := 7) (ret := (some .int)) (by decide) rfl ?_
  intro p e s m args below meth c s₁ B hml hv
  obtain ⟨rfl, hsz, hP, hD0, hE⟩ := hv
  have hx := B.exec
  have hb := B.bytes
  have hr := B.returns
  have hts := atoms_spec (ws := wsX11_copy) B.pre
  have hown : s.vm.findClass RX11 = some m.cls := findClass_of_methodNamed B.named
  have hlocks := B.notSynchronized
  subst hsz
  have hD := hD0.self (sz := s.heap.size)
  generalize hAe : va_A [(a_Model, .inr (11, [.ref a_Model_now, .ref a_Model_past, .int Model_kept, .int Model_findings, .ref a_Model_bits, .ref a_Model_sizes, .ref a_Model_sheets, .ref a_Model_least, .ref a_Model_ways, .int Model_thenCost, .int Model_thenWays, .int Model_bothCost, .int Model_bothWays, .ref a_Model_handOf, .ref a_Model_crossedAt, .ref a_Model_strokeOf, .ref a_Model_prices, .ref a_Model_hitAt, .ref a_Model_carried])), (a_Model_bits, .inl (cI, 4, .inl Model_bits)), (a_Model_sizes, .inl (cI, 4, .inl Model_sizes)), (a_Model_sheets, .inl (cI, 96, .inl Model_sheets)), (a_Model_carried, .inl (cI, 24, .inl Model_carried))] s.heap.size = A at hD hE ⊢
  have hA : ∀ q : Nat, s.heap.size ≤ q → A q := fun q h => by rw [← hAe]; exact Or.inr h
  clear hAe hD0
  have hS : va_S A s.heap s.heap [] := va_S.rf
  have hK := hE.1
  have hl := lv_entry ([.ref a_Model, .int p1, .int p2, .int p3, .int p4, .int p5]) (n := 7) (Nat.le_of_ble_eq_true rfl)
  rw [lg_entry_eq]
  generalize (lg_sl ([.ref a_Model, .int p1, .int p2, .int p3, .int p4, .int p5]) ++ List.replicate (7 - (lg_sl ([.ref a_Model, .int p1, .int p2, .int p3, .int p4, .int p5])).length) Slot.unset).toArray = ls at hl ⊢
  have hl : lv_has ls 7 [(0, .ref a_Model), (1, .int p1), (2, .int p2), (3, .int p3), (4, .int p4), (5, .int p5)] := hl
  refine w_q (fun Q9 hQ9 => ?_)
  have kc70 := hts (.constant RX11 70 (-100001)) (by decide +kernel)
  have fl22 := hts (.fieldLink RX11 22 "StickRoomModel" "sheets" "[I") (by decide +kernel)
  have inX11 : ∀ w ∈ wsX110, w ∈ wsX11_copy := by decide +kernel
  have fl47 := hts (.fieldLink RX11 47 "StickRoomModel" "carried" "[I") (by decide +kernel)
  have fl16 := hts (.fieldLink RX11 16 "StickRoomModel" "bits" "[I") (by decide +kernel)
  have kc182 := hts (.constant RX11 182 (-100002)) (by decide +kernel)
  have fl19 := hts (.fieldLink RX11 19 "StickRoomModel" "sizes" "[I") (by decide +kernel)
  have kc79 := hts (.constant RX11 79 (-100004)) (by decide +kernel)
  have hJ117 : ∀ (Model_findings : Int32) (Model_sheets Model_carried : Nat → Int32) (H : Heap) (locs : List Loc) (ls : Array Slot), va_P D vwCl [(a_Model, .inr (11, [.ref a_Model_now, .ref a_Model_past, .int Model_kept, .int Model_findings, .ref a_Model_bits, .ref a_Model_sizes, .ref a_Model_sheets, .ref a_Model_least, .ref a_Model_ways, .int Model_thenCost, .int Model_thenWays, .int Model_bothCost, .int Model_bothWays, .ref a_Model_handOf, .ref a_Model_crossedAt, .ref a_Model_strokeOf, .ref a_Model_prices, .ref a_Model_hitAt, .ref a_Model_carried])), (a_Model_bits, .inl (cI, 4, .inl Model_bits)), (a_Model_sizes, .inl (cI, 4, .inl Model_sizes)), (a_Model_sheets, .inl (cI, 96, .inl Model_sheets)), (a_Model_carried, .inl (cI, 24, .inl Model_carried))] H → va_D A [(a_Model, .inr (11, [.ref a_Model_now, .ref a_Model_past, .int Model_kept, .int Model_findings, .ref a_Model_bits, .ref a_Model_sizes, .ref a_Model_sheets, .ref a_Model_least, .ref a_Model_ways, .int Model_thenCost, .int Model_thenWays, .int Model_bothCost, .int Model_bothWays, .ref a_Model_handOf, .ref a_Model_crossedAt, .ref a_Model_strokeOf, .ref a_Model_prices, .ref a_Model_hitAt, .ref a_Model_carried])), (a_Model_bits, .inl (cI, 4, .inl Model_bits)), (a_Model_sizes, .inl (cI, 4, .inl Model_sizes)), (a_Model_sheets, .inl (cI, 96, .inl Model_sheets)), (a_Model_carried, .inl (cI, 24, .inl Model_carried))] → va_S A s.heap H locs → lv_has ls 7 [(0, .ref a_Model)] → f_Model_copy_117 Model_bits Model_sizes  Model_findings Model_sheets Model_carried = some (zr, z_Model_findings, z_Model_sheets, z_Model_carried) → W p l e (headSpec wsX11_copy rm_Model_copy).room s m ([.ref a_Model, .int p1, .int p2, .int p3, .int p4, .int p5] : List Value).toArray below meth c H locs 0 0 Q9 (F0 m 117 ls []) := by
    intro Model_findings Model_sheets Model_carried H locs ls hP hD hS hl hf
    unfold f_Model_copy_117 at hf
    refine lv_aload_n hx hb dX11_copy_117 rfl (lv_at hl 0 rfl) ?_
    refine lv_ldc (v := (-100001)) hx hb hown kc70 dX11_copy_118 ?_
    obtain ⟨r1, y2, g3, hf⟩ := b2_s hf
    refine k_Vi (rest := []) ⟨hx, hb, hml, hown, hts⟩ (c_Model_finding l D cI cZ t a_Model a_Model_now a_Model_past a_Model_bits a_Model_sizes a_Model_sheets a_Model_least a_Model_ways a_Model_handOf a_Model_crossedAt a_Model_strokeOf a_Model_prices a_Model_hitAt a_Model_carried H.size Model_findings Model_kept Model_thenCost Model_thenWays Model_bothCost Model_bothWays (-100001) r1 y2 g3) (cwV 1 hts gX11_copy_X11_finding rfl rfl rfl (by decide +kernel) ⟨Nat.le_of_ble_eq_true rfl, Nat.le_of_ble_eq_true rfl⟩) hE hP hD hS hA [0] [1, 2, 3, 4] rfl rfl rfl rfl rfl 0 11 rfl rfl rfl rfl hl.1 rfl (Nat.le_of_ble_eq_true rfl) dX11_copy_120 ⟨Nat.le_of_ble_eq_true rfl, Nat.le_of_ble_eq_true rfl⟩ (fun rq uq H locs hrq hP hD hS => ?_)
    refine lv_tpx hrq.symm ?_
    have hP : va_P D vwCl [(a_Model_bits, .inl (cI, 4, .inl Model_bits)), (a_Model_sizes, .inl (cI, 4, .inl Model_sizes)), (a_Model_sheets, .inl (cI, 96, .inl Model_sheets)), (a_Model_carried, .inl (cI, 24, .inl Model_carried)), (a_Model, .inr (11, [.ref a_Model_now, .ref a_Model_past, .int Model_kept, .int y2, .ref a_Model_bits, .ref a_Model_sizes, .ref a_Model_sheets, .ref a_Model_least, .ref a_Model_ways, .int Model_thenCost, .int Model_thenWays, .int Model_bothCost, .int Model_bothWays, .ref a_Model_handOf, .ref a_Model_crossedAt, .ref a_Model_strokeOf, .ref a_Model_prices, .ref a_Model_hitAt, .ref a_Model_carried]))] H := hP
    have hD : va_D A [(a_Model_bits, .inl (cI, 4, .inl Model_bits)), (a_Model_sizes, .inl (cI, 4, .inl Model_sizes)), (a_Model_sheets, .inl (cI, 96, .inl Model_sheets)), (a_Model_carried, .inl (cI, 24, .inl Model_carried)), (a_Model, .inr (11, [.ref a_Model_now, .ref a_Model_past, .int Model_kept, .int y2, .ref a_Model_bits, .ref a_Model_sizes, .ref a_Model_sheets, .ref a_Model_least, .ref a_Model_ways, .int Model_thenCost, .int Model_thenWays, .int Model_bothCost, .int Model_bothWays, .ref a_Model_handOf, .ref a_Model_crossedAt, .ref a_Model_strokeOf, .ref a_Model_prices, .ref a_Model_hitAt, .ref a_Model_carried]))] := hD
    cases hf
    exact k_iret () hQ9 hx hb hr hlocks rfl (hP.sub [4, 0, 1, 2, 3] rfl) (hD.sub [4, 0, 1, 2, 3] (by decide) rfl) hS (Nat.le_of_ble_eq_true rfl) (Nat.le_of_ble_eq_true rfl) dX11_copy_123
  have hL164 : ∀ (n164 : Nat) (l3 l4 l5 l6 Model_findings : Int32) (Model_sheets Model_carried : Nat → Int32) (H : Heap) (locs : List Loc) (ls : Array Slot), va_P D vwCl [(a_Model, .inr (11, [.ref a_Model_now, .ref a_Model_past, .int Model_kept, .int Model_findings, .ref a_Model_bits, .ref a_Model_sizes, .ref a_Model_sheets, .ref a_Model_least, .ref a_Model_ways, .int Model_thenCost, .int Model_thenWays, .int Model_bothCost, .int Model_bothWays, .ref a_Model_handOf, .ref a_Model_crossedAt, .ref a_Model_strokeOf, .ref a_Model_prices, .ref a_Model_hitAt, .ref a_Model_carried])), (a_Model_bits, .inl (cI, 4, .inl Model_bits)), (a_Model_sizes, .inl (cI, 4, .inl Model_sizes)), (a_Model_sheets, .inl (cI, 96, .inl Model_sheets)), (a_Model_carried, .inl (cI, 24, .inl Model_carried))] H → va_D A [(a_Model, .inr (11, [.ref a_Model_now, .ref a_Model_past, .int Model_kept, .int Model_findings, .ref a_Model_bits, .ref a_Model_sizes, .ref a_Model_sheets, .ref a_Model_least, .ref a_Model_ways, .int Model_thenCost, .int Model_thenWays, .int Model_bothCost, .int Model_bothWays, .ref a_Model_handOf, .ref a_Model_crossedAt, .ref a_Model_strokeOf, .ref a_Model_prices, .ref a_Model_hitAt, .ref a_Model_carried])), (a_Model_bits, .inl (cI, 4, .inl Model_bits)), (a_Model_sizes, .inl (cI, 4, .inl Model_sizes)), (a_Model_sheets, .inl (cI, 96, .inl Model_sheets)), (a_Model_carried, .inl (cI, 24, .inl Model_carried))] → va_S A s.heap H locs → lv_has ls 7 [(0, .ref a_Model), (3, .int l3), (4, .int l4), (5, .int l5), (6, .int l6)] → f_Model_copy_164 Model_bits Model_sizes  n164 l3 l4 l5 l6 Model_findings Model_sheets Model_carried = some (zr, z_Model_findings, z_Model_sheets, z_Model_carried) → W p l e (headSpec wsX11_copy rm_Model_copy).room s m ([.ref a_Model, .int p1, .int p2, .int p3, .int p4, .int p5] : List Value).toArray below meth c H locs 0 0 Q9 (F0 m 164 ls []) := by
    intro n164
    induction n164 with
    | zero => intro l3 l4 l5 l6 Model_findings Model_sheets Model_carried H locs ls hP hD hS hl hf; exact nomatch (show none = some (zr, z_Model_findings, z_Model_sheets, z_Model_carried) from hf)
    | succ n164 ih164 =>
      intro l3 l4 l5 l6 Model_findings Model_sheets Model_carried H locs ls hP hD hS hl hf
      have hf : f_Model_copy_164_b Model_bits Model_sizes  (f_Model_copy_164 Model_bits Model_sizes  n164) l3 l4 l5 l6 Model_findings Model_sheets Model_carried = some (zr, z_Model_findings, z_Model_sheets, z_Model_carried) := hf
      unfold f_Model_copy_164_b at hf
      refine lv_iload hx hb dX11_copy_164 (lv_at hl 4 rfl) ?_
      refine lv_iload hx hb dX11_copy_166 (lv_at hl 3 rfl) ?_
      refine lv_icmp_ge (tgt := 199) hx hb dX11_copy_168 (by decide) (fun c4 => ?_) (fun c4 => ?_)
      · have hf := ite_t c4 hf
        refine lv_iload hx hb dX11_copy_199 (lv_at hl 3 rfl) ?_
        cases hf
        exact k_iret () hQ9 hx hb hr hlocks rfl hP hD hS (Nat.le_of_ble_eq_true rfl) (Nat.le_of_ble_eq_true rfl) dX11_copy_201
      · have hf := ite_f c4 hf
        refine lv_aload_n hx hb dX11_copy_171 rfl (lv_at hl 0 rfl) ?_
        refine va_get (D := D) (ci := 11) (v := .ref a_Model_sheets) (C := RX11) (T := TX11) (N := 19) hx hb hts inX11 hown hK hP 0 rfl rfl 6 (by decide) fl22 (fun _ h9 => h9) rfl dX11_copy_172 ?_
        refine lv_bipush (v := 24) hx hb dX11_copy_175 (by decide) ?_
        refine lv_iload_n hx hb dX11_copy_177 rfl (lv_at hl 1 rfl) ?_
        refine lv_imul hx hb dX11_copy_178 ?_
        refine lv_iload hx hb dX11_copy_179 (lv_at hl 2 rfl) ?_
        refine lv_iadd hx hb dX11_copy_181 ?_
        refine lv_iload hx hb dX11_copy_182 (lv_at hl 4 rfl) ?_
        refine lv_iadd hx hb dX11_copy_184 ?_
        refine lv_aload_n hx hb dX11_copy_185 rfl (lv_at hl 0 rfl) ?_
        refine va_get (D := D) (ci := 11) (v := .ref a_Model_carried) (C := RX11) (T := TX11) (N := 19) hx hb hts inX11 hown hK hP 0 rfl rfl 18 (by decide) fl47 (fun _ h9 => h9) rfl dX11_copy_186 ?_
        refine lv_iload hx hb dX11_copy_189 (lv_at hl 4 rfl) ?_
        obtain ⟨ix5, x5, ex5, hf⟩ := rd_s hf
        refine va_iald hx hb hK hP 4 0 rfl rfl ix5 dX11_copy_191 ?_
        refine lv_tpx ex5 ?_
        obtain ⟨i6, hf⟩ := ck_s hf
        refine va_iast hx hb hK hP hD hS 3 0 rfl rfl i6 dX11_copy_192 (fun H locs hP hD hS => ?_)
        have hP : va_P D vwCl [(a_Model, .inr (11, [.ref a_Model_now, .ref a_Model_past, .int Model_kept, .int Model_findings, .ref a_Model_bits, .ref a_Model_sizes, .ref a_Model_sheets, .ref a_Model_least, .ref a_Model_ways, .int Model_thenCost, .int Model_thenWays, .int Model_bothCost, .int Model_bothWays, .ref a_Model_handOf, .ref a_Model_crossedAt, .ref a_Model_strokeOf, .ref a_Model_prices, .ref a_Model_hitAt, .ref a_Model_carried])), (a_Model_bits, .inl (cI, 4, .inl Model_bits)), (a_Model_sizes, .inl (cI, 4, .inl Model_sizes)), (a_Model_sheets, .inl (cI, 96, .inl (upd Model_sheets (((24 * l3) + l4) + l6).toNatClampNeg x5))), (a_Model_carried, .inl (cI, 24, .inl Model_carried))] H := hP
        have hD : va_D A [(a_Model, .inr (11, [.ref a_Model_now, .ref a_Model_past, .int Model_kept, .int Model_findings, .ref a_Model_bits, .ref a_Model_sizes, .ref a_Model_sheets, .ref a_Model_least, .ref a_Model_ways, .int Model_thenCost, .int Model_thenWays, .int Model_bothCost, .int Model_bothWays, .ref a_Model_handOf, .ref a_Model_crossedAt, .ref a_Model_strokeOf, .ref a_Model_prices, .ref a_Model_hitAt, .ref a_Model_carried])), (a_Model_bits, .inl (cI, 4, .inl Model_bits)), (a_Model_sizes, .inl (cI, 4, .inl Model_sizes)), (a_Model_sheets, .inl (cI, 96, .inl (upd Model_sheets (((24 * l3) + l4) + l6).toNatClampNeg x5))), (a_Model_carried, .inl (cI, 24, .inl Model_carried))] := hD
        obtain ⟨x7, ex7, hf⟩ := nm_s hf
        refine lv_iinc (v := x7) (lv' := [(6, .int x7), (0, .ref a_Model), (3, .int l3), (4, .int l4), (5, .int l5)]) hx hb dX11_copy_193 hl (k := 4) rfl (by rw [ex7]; rfl) (by decide) rfl (fun ls hl => ?_)
        refine lv_goto (tgt := 164) hx hb dX11_copy_196 (by decide) ?_
        exact ih164 l3 l4 l5 x7 Model_findings (upd Model_sheets (((24 * l3) + l4) + l6).toNatClampNeg x5) Model_carried H locs ls hP hD hS (lv_sub hl [1, 2, 3, 4, 0] rfl) hf
  have hL127 : ∀ (n127 : Nat) (l1 l2 l3 l4 l5 l6 Model_findings : Int32) (Model_sheets Model_carried : Nat → Int32) (H : Heap) (locs : List Loc) (ls : Array Slot), va_P D vwCl [(a_Model, .inr (11, [.ref a_Model_now, .ref a_Model_past, .int Model_kept, .int Model_findings, .ref a_Model_bits, .ref a_Model_sizes, .ref a_Model_sheets, .ref a_Model_least, .ref a_Model_ways, .int Model_thenCost, .int Model_thenWays, .int Model_bothCost, .int Model_bothWays, .ref a_Model_handOf, .ref a_Model_crossedAt, .ref a_Model_strokeOf, .ref a_Model_prices, .ref a_Model_hitAt, .ref a_Model_carried])), (a_Model_bits, .inl (cI, 4, .inl Model_bits)), (a_Model_sizes, .inl (cI, 4, .inl Model_sizes)), (a_Model_sheets, .inl (cI, 96, .inl Model_sheets)), (a_Model_carried, .inl (cI, 24, .inl Model_carried))] H → va_D A [(a_Model, .inr (11, [.ref a_Model_now, .ref a_Model_past, .int Model_kept, .int Model_findings, .ref a_Model_bits, .ref a_Model_sizes, .ref a_Model_sheets, .ref a_Model_least, .ref a_Model_ways, .int Model_thenCost, .int Model_thenWays, .int Model_bothCost, .int Model_bothWays, .ref a_Model_handOf, .ref a_Model_crossedAt, .ref a_Model_strokeOf, .ref a_Model_prices, .ref a_Model_hitAt, .ref a_Model_carried])), (a_Model_bits, .inl (cI, 4, .inl Model_bits)), (a_Model_sizes, .inl (cI, 4, .inl Model_sizes)), (a_Model_sheets, .inl (cI, 96, .inl Model_sheets)), (a_Model_carried, .inl (cI, 24, .inl Model_carried))] → va_S A s.heap H locs → lv_has ls 7 [(0, .ref a_Model), (1, .int l1), (2, .int l2), (3, .int l3), (4, .int l4), (5, .int l5), (6, .int l6)] → f_Model_copy_127 Model_bits Model_sizes  n127 l1 l2 l3 l4 l5 l6 Model_findings Model_sheets Model_carried = some (zr, z_Model_findings, z_Model_sheets, z_Model_carried) → W p l e (headSpec wsX11_copy rm_Model_copy).room s m ([.ref a_Model, .int p1, .int p2, .int p3, .int p4, .int p5] : List Value).toArray below meth c H locs 0 0 Q9 (F0 m 127 ls []) := by
    intro n127
    induction n127 with
    | zero => intro l1 l2 l3 l4 l5 l6 Model_findings Model_sheets Model_carried H locs ls hP hD hS hl hf; exact nomatch (show none = some (zr, z_Model_findings, z_Model_sheets, z_Model_carried) from hf)
    | succ n127 ih127 =>
      intro l1 l2 l3 l4 l5 l6 Model_findings Model_sheets Model_carried H locs ls hP hD hS hl hf
      have hf : f_Model_copy_127_b Model_bits Model_sizes  (f_Model_copy_127 Model_bits Model_sizes  n127) l1 l2 l3 l4 l5 l6 Model_findings Model_sheets Model_carried = some (zr, z_Model_findings, z_Model_sheets, z_Model_carried) := hf
      unfold f_Model_copy_127_b at hf
      refine lv_iload hx hb dX11_copy_127 (lv_at hl 6 rfl) ?_
      refine lv_iload hx hb dX11_copy_129 (lv_at hl 5 rfl) ?_
      refine lv_icmp_ge (tgt := 161) hx hb dX11_copy_131 (by decide) (fun c8 => ?_) (fun c8 => ?_)
      · have hf := ite_t c8 hf
        refine lv_iconst (v := 0) hx hb dX11_copy_161 (by decide) ?_
        refine lv_istore (lv' := [(6, .int 0), (0, .ref a_Model), (1, .int l1), (2, .int l2), (3, .int l3), (4, .int l4), (5, .int l5)]) hx hb dX11_copy_162 hl (by decide) rfl (fun ls hl => ?_)
        exact hL164 fu l3 l4 l5 0 Model_findings Model_sheets Model_carried H locs ls hP hD hS (lv_sub hl [1, 4, 5, 6, 0] rfl) hf
      · have hf := ite_f c8 hf
        refine lv_aload_n hx hb dX11_copy_134 rfl (lv_at hl 0 rfl) ?_
        refine va_get (D := D) (ci := 11) (v := .ref a_Model_carried) (C := RX11) (T := TX11) (N := 19) hx hb hts inX11 hown hK hP 0 rfl rfl 18 (by decide) fl47 (fun _ h9 => h9) rfl dX11_copy_135 ?_
        refine lv_iload hx hb dX11_copy_138 (lv_at hl 6 rfl) ?_
        refine lv_aload_n hx hb dX11_copy_140 rfl (lv_at hl 0 rfl) ?_
        refine va_get (D := D) (ci := 11) (v := .ref a_Model_sheets) (C := RX11) (T := TX11) (N := 19) hx hb hts inX11 hown hK hP 0 rfl rfl 6 (by decide) fl22 (fun _ h9 => h9) rfl dX11_copy_141 ?_
        refine lv_bipush (v := 24) hx hb dX11_copy_144 (by decide) ?_
        refine lv_iload_n hx hb dX11_copy_146 rfl (lv_at hl 1 rfl) ?_
        refine lv_imul hx hb dX11_copy_147 ?_
        refine lv_iload_n hx hb dX11_copy_148 rfl (lv_at hl 2 rfl) ?_
        refine lv_iadd hx hb dX11_copy_149 ?_
        refine lv_iload hx hb dX11_copy_150 (lv_at hl 6 rfl) ?_
        refine lv_iadd hx hb dX11_copy_152 ?_
        obtain ⟨ix9, x9, ex9, hf⟩ := rd_s hf
        refine va_iald hx hb hK hP 3 0 rfl rfl ix9 dX11_copy_153 ?_
        refine lv_tpx ex9 ?_
        obtain ⟨i10, hf⟩ := ck_s hf
        refine va_iast hx hb hK hP hD hS 4 0 rfl rfl i10 dX11_copy_154 (fun H locs hP hD hS => ?_)
        have hP : va_P D vwCl [(a_Model, .inr (11, [.ref a_Model_now, .ref a_Model_past, .int Model_kept, .int Model_findings, .ref a_Model_bits, .ref a_Model_sizes, .ref a_Model_sheets, .ref a_Model_least, .ref a_Model_ways, .int Model_thenCost, .int Model_thenWays, .int Model_bothCost, .int Model_bothWays, .ref a_Model_handOf, .ref a_Model_crossedAt, .ref a_Model_strokeOf, .ref a_Model_prices, .ref a_Model_hitAt, .ref a_Model_carried])), (a_Model_bits, .inl (cI, 4, .inl Model_bits)), (a_Model_sizes, .inl (cI, 4, .inl Model_sizes)), (a_Model_sheets, .inl (cI, 96, .inl Model_sheets)), (a_Model_carried, .inl (cI, 24, .inl (upd Model_carried l6.toNatClampNeg x9)))] H := hP
        have hD : va_D A [(a_Model, .inr (11, [.ref a_Model_now, .ref a_Model_past, .int Model_kept, .int Model_findings, .ref a_Model_bits, .ref a_Model_sizes, .ref a_Model_sheets, .ref a_Model_least, .ref a_Model_ways, .int Model_thenCost, .int Model_thenWays, .int Model_bothCost, .int Model_bothWays, .ref a_Model_handOf, .ref a_Model_crossedAt, .ref a_Model_strokeOf, .ref a_Model_prices, .ref a_Model_hitAt, .ref a_Model_carried])), (a_Model_bits, .inl (cI, 4, .inl Model_bits)), (a_Model_sizes, .inl (cI, 4, .inl Model_sizes)), (a_Model_sheets, .inl (cI, 96, .inl Model_sheets)), (a_Model_carried, .inl (cI, 24, .inl (upd Model_carried l6.toNatClampNeg x9)))] := hD
        obtain ⟨x11, ex11, hf⟩ := nm_s hf
        refine lv_iinc (v := x11) (lv' := [(6, .int x11), (0, .ref a_Model), (1, .int l1), (2, .int l2), (3, .int l3), (4, .int l4), (5, .int l5)]) hx hb dX11_copy_155 hl (k := 6) rfl (by rw [ex11]; rfl) (by decide) rfl (fun ls hl => ?_)
        refine lv_goto (tgt := 127) hx hb dX11_copy_158 (by decide) ?_
        exact ih127 l1 l2 l3 l4 l5 x11 Model_findings Model_sheets (upd Model_carried l6.toNatClampNeg x9) H locs ls hP hD hS (lv_sub hl [1, 2, 3, 4, 5, 6, 0] rfl) hf
  unfold f_Model_copy at hf
  refine lv_iload_n hx hb dX11_copy_0 rfl (lv_at hl 1 rfl) ?_
  obtain ⟨r12, g13, hf⟩ := b1_s hf
  refine k_Si (rest := []) ⟨hx, hb, hml, hown, hts⟩ (c_Model_isSheet l D cI cZ t  s.heap.size p1 r12 g13) (va_cwS 1 hts gX11_copy_X11_isSheet rfl rfl rfl (by decide +kernel) ⟨Nat.le_of_ble_eq_true rfl, Nat.le_of_ble_eq_true rfl⟩) hE hP hD hS hA [] [0, 1, 2, 3, 4] rfl rfl rfl rfl rfl rfl hl.1 rfl (Nat.le_of_ble_eq_true rfl) dX11_copy_1 ⟨Nat.le_of_ble_eq_true rfl, Nat.le_of_ble_eq_true rfl⟩ (fun rq uq H locs hrq hP hD hS => ?_)
  refine lv_tpx hrq.symm ?_
  have hP : va_P D vwCl [(a_Model, .inr (11, [.ref a_Model_now, .ref a_Model_past, .int Model_kept, .int Model_findings, .ref a_Model_bits, .ref a_Model_sizes, .ref a_Model_sheets, .ref a_Model_least, .ref a_Model_ways, .int Model_thenCost, .int Model_thenWays, .int Model_bothCost, .int Model_bothWays, .ref a_Model_handOf, .ref a_Model_crossedAt, .ref a_Model_strokeOf, .ref a_Model_prices, .ref a_Model_hitAt, .ref a_Model_carried])), (a_Model_bits, .inl (cI, 4, .inl Model_bits)), (a_Model_sizes, .inl (cI, 4, .inl Model_sizes)), (a_Model_sheets, .inl (cI, 96, .inl Model_sheets)), (a_Model_carried, .inl (cI, 24, .inl Model_carried))] H := hP
  have hD : va_D A [(a_Model, .inr (11, [.ref a_Model_now, .ref a_Model_past, .int Model_kept, .int Model_findings, .ref a_Model_bits, .ref a_Model_sizes, .ref a_Model_sheets, .ref a_Model_least, .ref a_Model_ways, .int Model_thenCost, .int Model_thenWays, .int Model_bothCost, .int Model_bothWays, .ref a_Model_handOf, .ref a_Model_crossedAt, .ref a_Model_strokeOf, .ref a_Model_prices, .ref a_Model_hitAt, .ref a_Model_carried])), (a_Model_bits, .inl (cI, 4, .inl Model_bits)), (a_Model_sizes, .inl (cI, 4, .inl Model_sizes)), (a_Model_sheets, .inl (cI, 96, .inl Model_sheets)), (a_Model_carried, .inl (cI, 24, .inl Model_carried))] := hD
  refine lv_if_eq (tgt := 14) hx hb dX11_copy_4 (by decide) (fun c14 => ?_) (fun c14 => ?_)
  · have hf := ite_t c14 hf
    refine lv_aload_n hx hb dX11_copy_14 rfl (lv_at hl 0 rfl) ?_
    refine lv_ldc (v := (-100001)) hx hb hown kc70 dX11_copy_15 ?_
    obtain ⟨r15, y16, g17, hf⟩ := b2_s hf
    refine k_Vi (rest := []) ⟨hx, hb, hml, hown, hts⟩ (c_Model_finding l D cI cZ t a_Model a_Model_now a_Model_past a_Model_bits a_Model_sizes a_Model_sheets a_Model_least a_Model_ways a_Model_handOf a_Model_crossedAt a_Model_strokeOf a_Model_prices a_Model_hitAt a_Model_carried H.size Model_findings Model_kept Model_thenCost Model_thenWays Model_bothCost Model_bothWays (-100001) r15 y16 g17) (cwV 1 hts gX11_copy_X11_finding rfl rfl rfl (by decide +kernel) ⟨Nat.le_of_ble_eq_true rfl, Nat.le_of_ble_eq_true rfl⟩) hE hP hD hS hA [0] [1, 2, 3, 4] rfl rfl rfl rfl rfl 0 11 rfl rfl rfl rfl hl.1 rfl (Nat.le_of_ble_eq_true rfl) dX11_copy_17 ⟨Nat.le_of_ble_eq_true rfl, Nat.le_of_ble_eq_true rfl⟩ (fun rq uq H locs hrq hP hD hS => ?_)
    refine lv_tpx hrq.symm ?_
    have hP : va_P D vwCl [(a_Model_bits, .inl (cI, 4, .inl Model_bits)), (a_Model_sizes, .inl (cI, 4, .inl Model_sizes)), (a_Model_sheets, .inl (cI, 96, .inl Model_sheets)), (a_Model_carried, .inl (cI, 24, .inl Model_carried)), (a_Model, .inr (11, [.ref a_Model_now, .ref a_Model_past, .int Model_kept, .int y16, .ref a_Model_bits, .ref a_Model_sizes, .ref a_Model_sheets, .ref a_Model_least, .ref a_Model_ways, .int Model_thenCost, .int Model_thenWays, .int Model_bothCost, .int Model_bothWays, .ref a_Model_handOf, .ref a_Model_crossedAt, .ref a_Model_strokeOf, .ref a_Model_prices, .ref a_Model_hitAt, .ref a_Model_carried]))] H := hP
    have hD : va_D A [(a_Model_bits, .inl (cI, 4, .inl Model_bits)), (a_Model_sizes, .inl (cI, 4, .inl Model_sizes)), (a_Model_sheets, .inl (cI, 96, .inl Model_sheets)), (a_Model_carried, .inl (cI, 24, .inl Model_carried)), (a_Model, .inr (11, [.ref a_Model_now, .ref a_Model_past, .int Model_kept, .int y16, .ref a_Model_bits, .ref a_Model_sizes, .ref a_Model_sheets, .ref a_Model_least, .ref a_Model_ways, .int Model_thenCost, .int Model_thenWays, .int Model_bothCost, .int Model_bothWays, .ref a_Model_handOf, .ref a_Model_crossedAt, .ref a_Model_strokeOf, .ref a_Model_prices, .ref a_Model_hitAt, .ref a_Model_carried]))] := hD
    cases hf
    exact k_iret () hQ9 hx hb hr hlocks rfl (hP.sub [4, 0, 1, 2, 3] rfl) (hD.sub [4, 0, 1, 2, 3] (by decide) rfl) hS (Nat.le_of_ble_eq_true rfl) (Nat.le_of_ble_eq_true rfl) dX11_copy_20
  · have hf := ite_f c14 hf
    refine lv_iload_n hx hb dX11_copy_7 rfl (lv_at hl 3 rfl) ?_
    obtain ⟨r18, g19, hf⟩ := b1_s hf
    refine k_Si (rest := []) ⟨hx, hb, hml, hown, hts⟩ (c_Model_isSheet l D cI cZ t  H.size p3 r18 g19) (va_cwS 1 hts gX11_copy_X11_isSheet rfl rfl rfl (by decide +kernel) ⟨Nat.le_of_ble_eq_true rfl, Nat.le_of_ble_eq_true rfl⟩) hE hP hD hS hA [] [0, 1, 2, 3, 4] rfl rfl rfl rfl rfl rfl hl.1 rfl (Nat.le_of_ble_eq_true rfl) dX11_copy_8 ⟨Nat.le_of_ble_eq_true rfl, Nat.le_of_ble_eq_true rfl⟩ (fun rq uq H locs hrq hP hD hS => ?_)
    refine lv_tpx hrq.symm ?_
    have hP : va_P D vwCl [(a_Model, .inr (11, [.ref a_Model_now, .ref a_Model_past, .int Model_kept, .int Model_findings, .ref a_Model_bits, .ref a_Model_sizes, .ref a_Model_sheets, .ref a_Model_least, .ref a_Model_ways, .int Model_thenCost, .int Model_thenWays, .int Model_bothCost, .int Model_bothWays, .ref a_Model_handOf, .ref a_Model_crossedAt, .ref a_Model_strokeOf, .ref a_Model_prices, .ref a_Model_hitAt, .ref a_Model_carried])), (a_Model_bits, .inl (cI, 4, .inl Model_bits)), (a_Model_sizes, .inl (cI, 4, .inl Model_sizes)), (a_Model_sheets, .inl (cI, 96, .inl Model_sheets)), (a_Model_carried, .inl (cI, 24, .inl Model_carried))] H := hP
    have hD : va_D A [(a_Model, .inr (11, [.ref a_Model_now, .ref a_Model_past, .int Model_kept, .int Model_findings, .ref a_Model_bits, .ref a_Model_sizes, .ref a_Model_sheets, .ref a_Model_least, .ref a_Model_ways, .int Model_thenCost, .int Model_thenWays, .int Model_bothCost, .int Model_bothWays, .ref a_Model_handOf, .ref a_Model_crossedAt, .ref a_Model_strokeOf, .ref a_Model_prices, .ref a_Model_hitAt, .ref a_Model_carried])), (a_Model_bits, .inl (cI, 4, .inl Model_bits)), (a_Model_sizes, .inl (cI, 4, .inl Model_sizes)), (a_Model_sheets, .inl (cI, 96, .inl Model_sheets)), (a_Model_carried, .inl (cI, 24, .inl Model_carried))] := hD
    refine lv_if_ne (tgt := 21) hx hb dX11_copy_11 (by decide) (fun c20 => ?_) (fun c20 => ?_)
    · have hf := ite_f c20 hf
      refine lv_aload_n hx hb dX11_copy_21 rfl (lv_at hl 0 rfl) ?_
      refine va_get (D := D) (ci := 11) (v := .ref a_Model_bits) (C := RX11) (T := TX11) (N := 19) hx hb hts inX11 hown hK hP 0 rfl rfl 4 (by decide) fl16 (fun _ h9 => h9) rfl dX11_copy_22 ?_
      refine lv_iload_n hx hb dX11_copy_25 rfl (lv_at hl 1 rfl) ?_
      obtain ⟨ix21, x21, ex21, hf⟩ := rd_s hf
      refine va_iald hx hb hK hP 1 0 rfl rfl ix21 dX11_copy_26 ?_
      refine lv_tpx ex21 ?_
      refine lv_if_eq (tgt := 39) hx hb dX11_copy_27 (by decide) (fun c22 => ?_) (fun c22 => ?_)
      · have hf := ite_t c22 hf
        refine lv_aload_n hx hb dX11_copy_39 rfl (lv_at hl 0 rfl) ?_
        refine lv_ldc (v := (-100002)) hx hb hown kc182 dX11_copy_40 ?_
        obtain ⟨r23, y24, g25, hf⟩ := b2_s hf
        refine k_Vi (rest := []) ⟨hx, hb, hml, hown, hts⟩ (c_Model_finding l D cI cZ t a_Model a_Model_now a_Model_past a_Model_bits a_Model_sizes a_Model_sheets a_Model_least a_Model_ways a_Model_handOf a_Model_crossedAt a_Model_strokeOf a_Model_prices a_Model_hitAt a_Model_carried H.size Model_findings Model_kept Model_thenCost Model_thenWays Model_bothCost Model_bothWays (-100002) r23 y24 g25) (cwV 1 hts gX11_copy_X11_finding rfl rfl rfl (by decide +kernel) ⟨Nat.le_of_ble_eq_true rfl, Nat.le_of_ble_eq_true rfl⟩) hE hP hD hS hA [0] [1, 2, 3, 4] rfl rfl rfl rfl rfl 0 11 rfl rfl rfl rfl hl.1 rfl (Nat.le_of_ble_eq_true rfl) dX11_copy_42 ⟨Nat.le_of_ble_eq_true rfl, Nat.le_of_ble_eq_true rfl⟩ (fun rq uq H locs hrq hP hD hS => ?_)
        refine lv_tpx hrq.symm ?_
        have hP : va_P D vwCl [(a_Model_bits, .inl (cI, 4, .inl Model_bits)), (a_Model_sizes, .inl (cI, 4, .inl Model_sizes)), (a_Model_sheets, .inl (cI, 96, .inl Model_sheets)), (a_Model_carried, .inl (cI, 24, .inl Model_carried)), (a_Model, .inr (11, [.ref a_Model_now, .ref a_Model_past, .int Model_kept, .int y24, .ref a_Model_bits, .ref a_Model_sizes, .ref a_Model_sheets, .ref a_Model_least, .ref a_Model_ways, .int Model_thenCost, .int Model_thenWays, .int Model_bothCost, .int Model_bothWays, .ref a_Model_handOf, .ref a_Model_crossedAt, .ref a_Model_strokeOf, .ref a_Model_prices, .ref a_Model_hitAt, .ref a_Model_carried]))] H := hP
        have hD : va_D A [(a_Model_bits, .inl (cI, 4, .inl Model_bits)), (a_Model_sizes, .inl (cI, 4, .inl Model_sizes)), (a_Model_sheets, .inl (cI, 96, .inl Model_sheets)), (a_Model_carried, .inl (cI, 24, .inl Model_carried)), (a_Model, .inr (11, [.ref a_Model_now, .ref a_Model_past, .int Model_kept, .int y24, .ref a_Model_bits, .ref a_Model_sizes, .ref a_Model_sheets, .ref a_Model_least, .ref a_Model_ways, .int Model_thenCost, .int Model_thenWays, .int Model_bothCost, .int Model_bothWays, .ref a_Model_handOf, .ref a_Model_crossedAt, .ref a_Model_strokeOf, .ref a_Model_prices, .ref a_Model_hitAt, .ref a_Model_carried]))] := hD
        cases hf
        exact k_iret () hQ9 hx hb hr hlocks rfl (hP.sub [4, 0, 1, 2, 3] rfl) (hD.sub [4, 0, 1, 2, 3] (by decide) rfl) hS (Nat.le_of_ble_eq_true rfl) (Nat.le_of_ble_eq_true rfl) dX11_copy_45
      · have hf := ite_f c22 hf
        refine lv_aload_n hx hb dX11_copy_30 rfl (lv_at hl 0 rfl) ?_
        refine va_get (D := D) (ci := 11) (v := .ref a_Model_bits) (C := RX11) (T := TX11) (N := 19) hx hb hts inX11 hown hK hP 0 rfl rfl 4 (by decide) fl16 (fun _ h9 => h9) rfl dX11_copy_31 ?_
        refine lv_iload_n hx hb dX11_copy_34 rfl (lv_at hl 3 rfl) ?_
        obtain ⟨ix26, x26, ex26, hf⟩ := rd_s hf
        refine va_iald hx hb hK hP 1 0 rfl rfl ix26 dX11_copy_35 ?_
        refine lv_tpx ex26 ?_
        refine lv_if_ne (tgt := 46) hx hb dX11_copy_36 (by decide) (fun c27 => ?_) (fun c27 => ?_)
        · have hf := ite_f c27 hf
          refine lv_aload_n hx hb dX11_copy_46 rfl (lv_at hl 0 rfl) ?_
          refine va_get (D := D) (ci := 11) (v := .ref a_Model_bits) (C := RX11) (T := TX11) (N := 19) hx hb hts inX11 hown hK hP 0 rfl rfl 4 (by decide) fl16 (fun _ h9 => h9) rfl dX11_copy_47 ?_
          refine lv_iload_n hx hb dX11_copy_50 rfl (lv_at hl 1 rfl) ?_
          obtain ⟨ix28, x28, ex28, hf⟩ := rd_s hf
          refine va_iald hx hb hK hP 1 0 rfl rfl ix28 dX11_copy_51 ?_
          refine lv_tpx ex28 ?_
          refine lv_aload_n hx hb dX11_copy_52 rfl (lv_at hl 0 rfl) ?_
          refine va_get (D := D) (ci := 11) (v := .ref a_Model_bits) (C := RX11) (T := TX11) (N := 19) hx hb hts inX11 hown hK hP 0 rfl rfl 4 (by decide) fl16 (fun _ h9 => h9) rfl dX11_copy_53 ?_
          refine lv_iload_n hx hb dX11_copy_56 rfl (lv_at hl 3 rfl) ?_
          obtain ⟨ix29, x29, ex29, hf⟩ := rd_s hf
          refine va_iald hx hb hK hP 1 0 rfl rfl ix29 dX11_copy_57 ?_
          refine lv_tpx ex29 ?_
          refine lv_icmp_eq (tgt := 68) hx hb dX11_copy_58 (by decide) (fun c30 => ?_) (fun c30 => ?_)
          · have hf := ite_t c30 hf
            refine lv_iload_n hx hb dX11_copy_68 rfl (lv_at hl 2 rfl) ?_
            refine lv_if_lt (tgt := 117) hx hb dX11_copy_69 (by decide) (fun c31 => ?_) (fun c31 => ?_)
            · have hf := ite_t c31 hf
              exact hJ117 Model_findings Model_sheets Model_carried H locs ls hP hD hS (lv_sub hl [0] rfl) hf
            · have hf := ite_f c31 hf
              refine lv_iload hx hb dX11_copy_72 (lv_at hl 4 rfl) ?_
              refine lv_if_lt (tgt := 117) hx hb dX11_copy_74 (by decide) (fun c32 => ?_) (fun c32 => ?_)
              · have hf := ite_t c32 hf
                exact hJ117 Model_findings Model_sheets Model_carried H locs ls hP hD hS (lv_sub hl [0] rfl) hf
              · have hf := ite_f c32 hf
                refine lv_iload hx hb dX11_copy_77 (lv_at hl 5 rfl) ?_
                refine lv_if_lt (tgt := 117) hx hb dX11_copy_79 (by decide) (fun c33 => ?_) (fun c33 => ?_)
                · have hf := ite_t c33 hf
                  exact hJ117 Model_findings Model_sheets Model_carried H locs ls hP hD hS (lv_sub hl [0] rfl) hf
                · have hf := ite_f c33 hf
                  refine lv_iload_n hx hb dX11_copy_82 rfl (lv_at hl 2 rfl) ?_
                  refine lv_i2l hx hb dX11_copy_83 rfl ?_
                  refine lv_iload hx hb dX11_copy_84 (lv_at hl 5 rfl) ?_
                  refine lv_i2l hx hb dX11_copy_86 rfl ?_
                  refine lv_ladd hx hb dX11_copy_87 ?_
                  refine lv_aload_n hx hb dX11_copy_88 rfl (lv_at hl 0 rfl) ?_
                  refine va_get (D := D) (ci := 11) (v := .ref a_Model_sizes) (C := RX11) (T := TX11) (N := 19) hx hb hts inX11 hown hK hP 0 rfl rfl 5 (by decide) fl19 (fun _ h9 => h9) rfl dX11_copy_89 ?_
                  refine lv_iload_n hx hb dX11_copy_92 rfl (lv_at hl 1 rfl) ?_
                  obtain ⟨ix34, x34, ex34, hf⟩ := rd_s hf
                  refine va_iald hx hb hK hP 2 0 rfl rfl ix34 dX11_copy_93 ?_
                  refine lv_tpx ex34 ?_
                  refine lv_i2l hx hb dX11_copy_94 rfl ?_
                  refine W.lcmp hx hb dX11_copy_95 ?_
                  obtain ⟨x35, ex35, hf⟩ := nm_s hf
                  refine lv_tpx ex35 ?_
                  refine lv_if_gt (tgt := 117) hx hb dX11_copy_96 (by decide) (fun c36 => ?_) (fun c36 => ?_)
                  · have hf := ite_t c36 hf
                    exact hJ117 Model_findings Model_sheets Model_carried H locs ls hP hD hS (lv_sub hl [0] rfl) hf
                  · have hf := ite_f c36 hf
                    refine lv_iload hx hb dX11_copy_99 (lv_at hl 4 rfl) ?_
                    refine lv_i2l hx hb dX11_copy_101 rfl ?_
                    refine lv_iload hx hb dX11_copy_102 (lv_at hl 5 rfl) ?_
                    refine lv_i2l hx hb dX11_copy_104 rfl ?_
                    refine lv_ladd hx hb dX11_copy_105 ?_
                    refine lv_aload_n hx hb dX11_copy_106 rfl (lv_at hl 0 rfl) ?_
                    refine va_get (D := D) (ci := 11) (v := .ref a_Model_sizes) (C := RX11) (T := TX11) (N := 19) hx hb hts inX11 hown hK hP 0 rfl rfl 5 (by decide) fl19 (fun _ h9 => h9) rfl dX11_copy_107 ?_
                    refine lv_iload_n hx hb dX11_copy_110 rfl (lv_at hl 3 rfl) ?_
                    obtain ⟨ix37, x37, ex37, hf⟩ := rd_s hf
                    refine va_iald hx hb hK hP 2 0 rfl rfl ix37 dX11_copy_111 ?_
                    refine lv_tpx ex37 ?_
                    refine lv_i2l hx hb dX11_copy_112 rfl ?_
                    refine W.lcmp hx hb dX11_copy_113 ?_
                    obtain ⟨x38, ex38, hf⟩ := nm_s hf
                    refine lv_tpx ex38 ?_
                    refine lv_if_le (tgt := 124) hx hb dX11_copy_114 (by decide) (fun c39 => ?_) (fun c39 => ?_)
                    · have hf := ite_t c39 hf
                      refine lv_iconst (v := 0) hx hb dX11_copy_124 (by decide) ?_
                      refine lv_istore (lv' := [(6, .int 0), (0, .ref a_Model), (1, .int p1), (2, .int p2), (3, .int p3), (4, .int p4), (5, .int p5)]) hx hb dX11_copy_125 hl (by decide) rfl (fun ls hl => ?_)
                      exact hL127 fu p1 p2 p3 p4 p5 0 Model_findings Model_sheets Model_carried H locs ls hP hD hS (lv_sub hl [1, 2, 3, 4, 5, 6, 0] rfl) hf
                    · have hf := ite_f c39 hf
                      exact hJ117 Model_findings Model_sheets Model_carried H locs ls hP hD hS (lv_sub hl [0] rfl) hf
          · have hf := ite_f c30 hf
            refine lv_aload_n hx hb dX11_copy_61 rfl (lv_at hl 0 rfl) ?_
            refine lv_ldc (v := (-100004)) hx hb hown kc79 dX11_copy_62 ?_
            obtain ⟨r40, y41, g42, hf⟩ := b2_s hf
            refine k_Vi (rest := []) ⟨hx, hb, hml, hown, hts⟩ (c_Model_finding l D cI cZ t a_Model a_Model_now a_Model_past a_Model_bits a_Model_sizes a_Model_sheets a_Model_least a_Model_ways a_Model_handOf a_Model_crossedAt a_Model_strokeOf a_Model_prices a_Model_hitAt a_Model_carried H.size Model_findings Model_kept Model_thenCost Model_thenWays Model_bothCost Model_bothWays (-100004) r40 y41 g42) (cwV 1 hts gX11_copy_X11_finding rfl rfl rfl (by decide +kernel) ⟨Nat.le_of_ble_eq_true rfl, Nat.le_of_ble_eq_true rfl⟩) hE hP hD hS hA [0] [1, 2, 3, 4] rfl rfl rfl rfl rfl 0 11 rfl rfl rfl rfl hl.1 rfl (Nat.le_of_ble_eq_true rfl) dX11_copy_64 ⟨Nat.le_of_ble_eq_true rfl, Nat.le_of_ble_eq_true rfl⟩ (fun rq uq H locs hrq hP hD hS => ?_)
            refine lv_tpx hrq.symm ?_
            have hP : va_P D vwCl [(a_Model_bits, .inl (cI, 4, .inl Model_bits)), (a_Model_sizes, .inl (cI, 4, .inl Model_sizes)), (a_Model_sheets, .inl (cI, 96, .inl Model_sheets)), (a_Model_carried, .inl (cI, 24, .inl Model_carried)), (a_Model, .inr (11, [.ref a_Model_now, .ref a_Model_past, .int Model_kept, .int y41, .ref a_Model_bits, .ref a_Model_sizes, .ref a_Model_sheets, .ref a_Model_least, .ref a_Model_ways, .int Model_thenCost, .int Model_thenWays, .int Model_bothCost, .int Model_bothWays, .ref a_Model_handOf, .ref a_Model_crossedAt, .ref a_Model_strokeOf, .ref a_Model_prices, .ref a_Model_hitAt, .ref a_Model_carried]))] H := hP
            have hD : va_D A [(a_Model_bits, .inl (cI, 4, .inl Model_bits)), (a_Model_sizes, .inl (cI, 4, .inl Model_sizes)), (a_Model_sheets, .inl (cI, 96, .inl Model_sheets)), (a_Model_carried, .inl (cI, 24, .inl Model_carried)), (a_Model, .inr (11, [.ref a_Model_now, .ref a_Model_past, .int Model_kept, .int y41, .ref a_Model_bits, .ref a_Model_sizes, .ref a_Model_sheets, .ref a_Model_least, .ref a_Model_ways, .int Model_thenCost, .int Model_thenWays, .int Model_bothCost, .int Model_bothWays, .ref a_Model_handOf, .ref a_Model_crossedAt, .ref a_Model_strokeOf, .ref a_Model_prices, .ref a_Model_hitAt, .ref a_Model_carried]))] := hD
            cases hf
            exact k_iret () hQ9 hx hb hr hlocks rfl (hP.sub [4, 0, 1, 2, 3] rfl) (hD.sub [4, 0, 1, 2, 3] (by decide) rfl) hS (Nat.le_of_ble_eq_true rfl) (Nat.le_of_ble_eq_true rfl) dX11_copy_67
        · have hf := ite_t c27 hf
          refine lv_aload_n hx hb dX11_copy_39 rfl (lv_at hl 0 rfl) ?_
          refine lv_ldc (v := (-100002)) hx hb hown kc182 dX11_copy_40 ?_
          obtain ⟨r43, y44, g45, hf⟩ := b2_s hf
          refine k_Vi (rest := []) ⟨hx, hb, hml, hown, hts⟩ (c_Model_finding l D cI cZ t a_Model a_Model_now a_Model_past a_Model_bits a_Model_sizes a_Model_sheets a_Model_least a_Model_ways a_Model_handOf a_Model_crossedAt a_Model_strokeOf a_Model_prices a_Model_hitAt a_Model_carried H.size Model_findings Model_kept Model_thenCost Model_thenWays Model_bothCost Model_bothWays (-100002) r43 y44 g45) (cwV 1 hts gX11_copy_X11_finding rfl rfl rfl (by decide +kernel) ⟨Nat.le_of_ble_eq_true rfl, Nat.le_of_ble_eq_true rfl⟩) hE hP hD hS hA [0] [1, 2, 3, 4] rfl rfl rfl rfl rfl 0 11 rfl rfl rfl rfl hl.1 rfl (Nat.le_of_ble_eq_true rfl) dX11_copy_42 ⟨Nat.le_of_ble_eq_true rfl, Nat.le_of_ble_eq_true rfl⟩ (fun rq uq H locs hrq hP hD hS => ?_)
          refine lv_tpx hrq.symm ?_
          have hP : va_P D vwCl [(a_Model_bits, .inl (cI, 4, .inl Model_bits)), (a_Model_sizes, .inl (cI, 4, .inl Model_sizes)), (a_Model_sheets, .inl (cI, 96, .inl Model_sheets)), (a_Model_carried, .inl (cI, 24, .inl Model_carried)), (a_Model, .inr (11, [.ref a_Model_now, .ref a_Model_past, .int Model_kept, .int y44, .ref a_Model_bits, .ref a_Model_sizes, .ref a_Model_sheets, .ref a_Model_least, .ref a_Model_ways, .int Model_thenCost, .int Model_thenWays, .int Model_bothCost, .int Model_bothWays, .ref a_Model_handOf, .ref a_Model_crossedAt, .ref a_Model_strokeOf, .ref a_Model_prices, .ref a_Model_hitAt, .ref a_Model_carried]))] H := hP
          have hD : va_D A [(a_Model_bits, .inl (cI, 4, .inl Model_bits)), (a_Model_sizes, .inl (cI, 4, .inl Model_sizes)), (a_Model_sheets, .inl (cI, 96, .inl Model_sheets)), (a_Model_carried, .inl (cI, 24, .inl Model_carried)), (a_Model, .inr (11, [.ref a_Model_now, .ref a_Model_past, .int Model_kept, .int y44, .ref a_Model_bits, .ref a_Model_sizes, .ref a_Model_sheets, .ref a_Model_least, .ref a_Model_ways, .int Model_thenCost, .int Model_thenWays, .int Model_bothCost, .int Model_bothWays, .ref a_Model_handOf, .ref a_Model_crossedAt, .ref a_Model_strokeOf, .ref a_Model_prices, .ref a_Model_hitAt, .ref a_Model_carried]))] := hD
          cases hf
          exact k_iret () hQ9 hx hb hr hlocks rfl (hP.sub [4, 0, 1, 2, 3] rfl) (hD.sub [4, 0, 1, 2, 3] (by decide) rfl) hS (Nat.le_of_ble_eq_true rfl) (Nat.le_of_ble_eq_true rfl) dX11_copy_45
    · have hf := ite_t c20 hf
      refine lv_aload_n hx hb dX11_copy_14 rfl (lv_at hl 0 rfl) ?_
      refine lv_ldc (v := (-100001)) hx hb hown kc70 dX11_copy_15 ?_
      obtain ⟨r46, y47, g48, hf⟩ := b2_s hf
      refine k_Vi (rest := []) ⟨hx, hb, hml, hown, hts⟩ (c_Model_finding l D cI cZ t a_Model a_Model_now a_Model_past a_Model_bits a_Model_sizes a_Model_sheets a_Model_least a_Model_ways a_Model_handOf a_Model_crossedAt a_Model_strokeOf a_Model_prices a_Model_hitAt a_Model_carried H.size Model_findings Model_kept Model_thenCost Model_thenWays Model_bothCost Model_bothWays (-100001) r46 y47 g48) (cwV 1 hts gX11_copy_X11_finding rfl rfl rfl (by decide +kernel) ⟨Nat.le_of_ble_eq_true rfl, Nat.le_of_ble_eq_true rfl⟩) hE hP hD hS hA [0] [1, 2, 3, 4] rfl rfl rfl rfl rfl 0 11 rfl rfl rfl rfl hl.1 rfl (Nat.le_of_ble_eq_true rfl) dX11_copy_17 ⟨Nat.le_of_ble_eq_true rfl, Nat.le_of_ble_eq_true rfl⟩ (fun rq uq H locs hrq hP hD hS => ?_)
      refine lv_tpx hrq.symm ?_
      have hP : va_P D vwCl [(a_Model_bits, .inl (cI, 4, .inl Model_bits)), (a_Model_sizes, .inl (cI, 4, .inl Model_sizes)), (a_Model_sheets, .inl (cI, 96, .inl Model_sheets)), (a_Model_carried, .inl (cI, 24, .inl Model_carried)), (a_Model, .inr (11, [.ref a_Model_now, .ref a_Model_past, .int Model_kept, .int y47, .ref a_Model_bits, .ref a_Model_sizes, .ref a_Model_sheets, .ref a_Model_least, .ref a_Model_ways, .int Model_thenCost, .int Model_thenWays, .int Model_bothCost, .int Model_bothWays, .ref a_Model_handOf, .ref a_Model_crossedAt, .ref a_Model_strokeOf, .ref a_Model_prices, .ref a_Model_hitAt, .ref a_Model_carried]))] H := hP
      have hD : va_D A [(a_Model_bits, .inl (cI, 4, .inl Model_bits)), (a_Model_sizes, .inl (cI, 4, .inl Model_sizes)), (a_Model_sheets, .inl (cI, 96, .inl Model_sheets)), (a_Model_carried, .inl (cI, 24, .inl Model_carried)), (a_Model, .inr (11, [.ref a_Model_now, .ref a_Model_past, .int Model_kept, .int y47, .ref a_Model_bits, .ref a_Model_sizes, .ref a_Model_sheets, .ref a_Model_least, .ref a_Model_ways, .int Model_thenCost, .int Model_thenWays, .int Model_bothCost, .int Model_bothWays, .ref a_Model_handOf, .ref a_Model_crossedAt, .ref a_Model_strokeOf, .ref a_Model_prices, .ref a_Model_hitAt, .ref a_Model_carried]))] := hD
      cases hf
      exact k_iret () hQ9 hx hb hr hlocks rfl (hP.sub [4, 0, 1, 2, 3] rfl) (hD.sub [4, 0, 1, 2, 3] (by decide) rfl) hS (Nat.le_of_ble_eq_true rfl) (Nat.le_of_ble_eq_true rfl) dX11_copy_20
abbrev rm_Model_tape : Room := { frames := 2, cells := 0, slots := 0, locals := 42 }
set_option maxHeartbeats 4000000 in
set_option maxRecDepth 100000 in
theorem c_Model_tape (l : Launch) (D : va_G) (cI cZ : ClassId) (t : Nat → Nat) (a_Model a_Model_now a_Model_past a_Model_bits a_Model_sizes a_Model_sheets a_Model_least a_Model_ways a_Model_handOf a_Model_crossedAt a_Model_strokeOf a_Model_prices a_Model_hitAt a_Model_carried sz : Nat) (Model_now Model_past : Nat → Int32) (Model_kept Model_findings : Int32) (Model_bits Model_sizes Model_sheets : Nat → Int32) (Model_thenCost Model_thenWays Model_bothCost Model_bothWays p1 p2 zr : Int32) (z_Model_now z_Model_past : Nat → Int32) (z_Model_kept z_Model_findings : Int32) (hf : f_Model_tape Model_now Model_past Model_kept Model_findings Model_bits Model_sizes Model_sheets p1 p2 = some (zr, z_Model_now, z_Model_past, z_Model_kept, z_Model_findings)) : Met l yX11_tape wsX11_tape rm_Model_tape (va_Pc [.ref a_Model, .int p1, .int p2] (pcW D cI cZ t [(a_Model, .inr (11, [.ref a_Model_now, .ref a_Model_past, .int Model_kept, .int Model_findings, .ref a_Model_bits, .ref a_Model_sizes, .ref a_Model_sheets, .ref a_Model_least, .ref a_Model_ways, .int Model_thenCost, .int Model_thenWays, .int Model_bothCost, .int Model_bothWays, .ref a_Model_handOf, .ref a_Model_crossedAt, .ref a_Model_strokeOf, .ref a_Model_prices, .ref a_Model_hitAt, .ref a_Model_carried])), (a_Model_now, .inl (cI, 187, .inl Model_now)), (a_Model_past, .inl (cI, 3740, .inl Model_past)), (a_Model_bits, .inl (cI, 4, .inl Model_bits)), (a_Model_sizes, .inl (cI, 4, .inl Model_sizes)), (a_Model_sheets, .inl (cI, 96, .inl Model_sheets))] sz)) (va_Qi (fun r (u : Unit) => r = zr) (fun u t' => bW D (va_A [(a_Model, .inr (11, [.ref a_Model_now, .ref a_Model_past, .int Model_kept, .int Model_findings, .ref a_Model_bits, .ref a_Model_sizes, .ref a_Model_sheets, .ref a_Model_least, .ref a_Model_ways, .int Model_thenCost, .int Model_thenWays, .int Model_bothCost, .int Model_bothWays, .ref a_Model_handOf, .ref a_Model_crossedAt, .ref a_Model_strokeOf, .ref a_Model_prices, .ref a_Model_hitAt, .ref a_Model_carried])), (a_Model_now, .inl (cI, 187, .inl Model_now)), (a_Model_past, .inl (cI, 3740, .inl Model_past)), (a_Model_bits, .inl (cI, 4, .inl Model_bits)), (a_Model_sizes, .inl (cI, 4, .inl Model_sizes)), (a_Model_sheets, .inl (cI, 96, .inl Model_sheets))] sz) [(a_Model, .inr (11, [.ref a_Model_now, .ref a_Model_past, .int z_Model_kept, .int z_Model_findings, .ref a_Model_bits, .ref a_Model_sizes, .ref a_Model_sheets, .ref a_Model_least, .ref a_Model_ways, .int Model_thenCost, .int Model_thenWays, .int Model_bothCost, .int Model_bothWays, .ref a_Model_handOf, .ref a_Model_crossedAt, .ref a_Model_strokeOf, .ref a_Model_prices, .ref a_Model_hitAt, .ref a_Model_carried])), (a_Model_now, .inl (cI, 187, .inl z_Model_now)), (a_Model_past, .inl (cI, 3740, .inl z_Model_past)), (a_Model_bits, .inl (cI, 4, .inl Model_bits)), (a_Model_sizes, .inl (cI, 4, .inl Model_sizes)), (a_Model_sheets, .inl (cI, 96, .inl Model_sheets))] t') (va_A [(a_Model, .inr (11, [.ref a_Model_now, .ref a_Model_past, .int Model_kept, .int Model_findings, .ref a_Model_bits, .ref a_Model_sizes, .ref a_Model_sheets, .ref a_Model_least, .ref a_Model_ways, .int Model_thenCost, .int Model_thenWays, .int Model_bothCost, .int Model_bothWays, .ref a_Model_handOf, .ref a_Model_crossedAt, .ref a_Model_strokeOf, .ref a_Model_prices, .ref a_Model_hitAt, .ref a_Model_carried])), (a_Model_now, .inl (cI, 187, .inl Model_now)), (a_Model_past, .inl (cI, 3740, .inl Model_past)), (a_Model_bits, .inl (cI, 4, .inl Model_bits)), (a_Model_sizes, .inl (cI, 4, .inl Model_sizes)), (a_Model_sheets, .inl (cI, 96, .inl Model_sheets))] sz)) 0 0 (va_A [(a_Model, .inr (11, [.ref a_Model_now, .ref a_Model_past, .int Model_kept, .int Model_findings, .ref a_Model_bits, .ref a_Model_sizes, .ref a_Model_sheets, .ref a_Model_least, .ref a_Model_ways, .int Model_thenCost, .int Model_thenWays, .int Model_bothCost, .int Model_bothWays, .ref a_Model_handOf, .ref a_Model_crossedAt, .ref a_Model_strokeOf, .ref a_Model_prices, .ref a_Model_hitAt, .ref a_Model_carried])), (a_Model_now, .inl (cI, 187, .inl Model_now)), (a_Model_past, .inl (cI, 3740, .inl Model_past)), (a_Model_bits, .inl (cI, 4, .inl Model_bits)), (a_Model_sizes, .inl (cI, 4, .inl Model_sizes)), (a_Model_sheets, .inl (cI, 96, .inl Model_sheets))] sz) := by
  refine Met.ofW (cc := cX11_tape) (maxL := 4) (ret := (some .int)) (by decide) rfl ?_
  intro p e s m args below meth c s₁ B hml hv
  obtain ⟨rfl, hsz, hP, hD0, hE⟩ := hv
  have hx := B.exec
  have hb := B.bytes
  have hr := B.returns
  have hts := atoms_spec (ws := wsX11_tape) B.pre
  have hown : s.vm.findClass RX11 = some m.cls := findClass_of_methodNamed B.named
  have hlocks := B.notSynchronized
  subst hsz
  have hD := hD0.self (sz := s.heap.size)
  generalize hAe : va_A [(a_Model, .inr (11, [.ref a_Model_now, .ref a_Model_past, .int Model_kept, .int Model_findings, .ref a_Model_bits, .ref a_Model_sizes, .ref a_Model_sheets, .ref a_Model_least, .ref a_Model_ways, .int Model_thenCost, .int Model_thenWays, .int Model_bothCost, .int Model_bothWays, .ref a_Model_handOf, .ref a_Model_crossedAt, .ref a_Model_strokeOf, .ref a_Model_prices, .ref a_Model_hitAt, .ref a_Model_carried])), (a_Model_now, .inl (cI, 187, .inl Model_now)), (a_Model_past, .inl (cI, 3740, .inl Model_past)), (a_Model_bits, .inl (cI, 4, .inl Model_bits)), (a_Model_sizes, .inl (cI, 4, .inl Model_sizes)), (a_Model_sheets, .inl (cI, 96, .inl Model_sheets))] s.heap.size = A at hD hE ⊢
  have hA : ∀ q : Nat, s.heap.size ≤ q → A q := fun q h => by rw [← hAe]; exact Or.inr h
  clear hAe hD0
  have hS : va_S A s.heap s.heap [] := va_S.rf
  have hK := hE.1
  have hl := lv_entry ([.ref a_Model, .int p1, .int p2]) (n := 4) (Nat.le_of_ble_eq_true rfl)
  rw [lg_entry_eq]
  generalize (lg_sl ([.ref a_Model, .int p1, .int p2]) ++ List.replicate (4 - (lg_sl ([.ref a_Model, .int p1, .int p2])).length) Slot.unset).toArray = ls at hl ⊢
  have hl : lv_has ls 4 [(0, .ref a_Model), (1, .int p1), (2, .int p2)] := hl
  refine w_q (fun Q9 hQ9 => ?_)
  have fl9 := hts (.fieldLink RX11 9 "StickRoomModel" "now" "[I") (by decide +kernel)
  have inX11 : ∀ w ∈ wsX110, w ∈ wsX11_tape := by decide +kernel
  have fl22 := hts (.fieldLink RX11 22 "StickRoomModel" "sheets" "[I") (by decide +kernel)
  have fl19 := hts (.fieldLink RX11 19 "StickRoomModel" "sizes" "[I") (by decide +kernel)
  have kc70 := hts (.constant RX11 70 (-100001)) (by decide +kernel)
  have fl16 := hts (.fieldLink RX11 16 "StickRoomModel" "bits" "[I") (by decide +kernel)
  have kc182 := hts (.constant RX11 182 (-100002)) (by decide +kernel)
  have hJ132 : ∀ (l1 l3 : Int32) (Model_now Model_past : Nat → Int32) (Model_kept Model_findings : Int32) (H : Heap) (locs : List Loc) (ls : Array Slot), va_P D vwCl [(a_Model, .inr (11, [.ref a_Model_now, .ref a_Model_past, .int Model_kept, .int Model_findings, .ref a_Model_bits, .ref a_Model_sizes, .ref a_Model_sheets, .ref a_Model_least, .ref a_Model_ways, .int Model_thenCost, .int Model_thenWays, .int Model_bothCost, .int Model_bothWays, .ref a_Model_handOf, .ref a_Model_crossedAt, .ref a_Model_strokeOf, .ref a_Model_prices, .ref a_Model_hitAt, .ref a_Model_carried])), (a_Model_now, .inl (cI, 187, .inl Model_now)), (a_Model_past, .inl (cI, 3740, .inl Model_past)), (a_Model_bits, .inl (cI, 4, .inl Model_bits)), (a_Model_sizes, .inl (cI, 4, .inl Model_sizes)), (a_Model_sheets, .inl (cI, 96, .inl Model_sheets))] H → va_D A [(a_Model, .inr (11, [.ref a_Model_now, .ref a_Model_past, .int Model_kept, .int Model_findings, .ref a_Model_bits, .ref a_Model_sizes, .ref a_Model_sheets, .ref a_Model_least, .ref a_Model_ways, .int Model_thenCost, .int Model_thenWays, .int Model_bothCost, .int Model_bothWays, .ref a_Model_handOf, .ref a_Model_crossedAt, .ref a_Model_strokeOf, .ref a_Model_prices, .ref a_Model_hitAt, .ref a_Model_carried])), (a_Model_now, .inl (cI, 187, .inl Model_now)), (a_Model_past, .inl (cI, 3740, .inl Model_past)), (a_Model_bits, .inl (cI, 4, .inl Model_bits)), (a_Model_sizes, .inl (cI, 4, .inl Model_sizes)), (a_Model_sheets, .inl (cI, 96, .inl Model_sheets))] → va_S A s.heap H locs → lv_has ls 4 [(0, .ref a_Model), (1, .int l1), (3, .int l3)] → f_Model_tape_132 Model_bits Model_sizes Model_sheets  l1 l3 Model_now Model_past Model_kept Model_findings = some (zr, z_Model_now, z_Model_past, z_Model_kept, z_Model_findings) → W p l e (headSpec wsX11_tape rm_Model_tape).room s m ([.ref a_Model, .int p1, .int p2] : List Value).toArray below meth c H locs 0 0 Q9 (F0 m 132 ls []) := by
    intro l1 l3 Model_now Model_past Model_kept Model_findings H locs ls hP hD hS hl hf
    unfold f_Model_tape_132 at hf
    refine lv_aload_n hx hb dX11_tape_132 rfl (lv_at hl 0 rfl) ?_
    refine va_get (D := D) (ci := 11) (v := .ref a_Model_now) (C := RX11) (T := TX11) (N := 19) hx hb hts inX11 hown hK hP 0 rfl rfl 0 (by decide) fl9 (fun _ h9 => h9) rfl dX11_tape_133 ?_
    refine lv_bipush (v := 87) hx hb dX11_tape_136 (by decide) ?_
    refine lv_iload_n hx hb dX11_tape_138 rfl (lv_at hl 1 rfl) ?_
    refine lv_iadd hx hb dX11_tape_139 ?_
    refine lv_iload_n hx hb dX11_tape_140 rfl (lv_at hl 2 rfl) ?_
    obtain ⟨i1, hf⟩ := ck_s hf
    refine va_iast hx hb hK hP hD hS 1 0 rfl rfl i1 dX11_tape_141 (fun H locs hP hD hS => ?_)
    have hP : va_P D vwCl [(a_Model, .inr (11, [.ref a_Model_now, .ref a_Model_past, .int Model_kept, .int Model_findings, .ref a_Model_bits, .ref a_Model_sizes, .ref a_Model_sheets, .ref a_Model_least, .ref a_Model_ways, .int Model_thenCost, .int Model_thenWays, .int Model_bothCost, .int Model_bothWays, .ref a_Model_handOf, .ref a_Model_crossedAt, .ref a_Model_strokeOf, .ref a_Model_prices, .ref a_Model_hitAt, .ref a_Model_carried])), (a_Model_now, .inl (cI, 187, .inl (upd Model_now (87 + l1).toNatClampNeg l3))), (a_Model_past, .inl (cI, 3740, .inl Model_past)), (a_Model_bits, .inl (cI, 4, .inl Model_bits)), (a_Model_sizes, .inl (cI, 4, .inl Model_sizes)), (a_Model_sheets, .inl (cI, 96, .inl Model_sheets))] H := hP
    have hD : va_D A [(a_Model, .inr (11, [.ref a_Model_now, .ref a_Model_past, .int Model_kept, .int Model_findings, .ref a_Model_bits, .ref a_Model_sizes, .ref a_Model_sheets, .ref a_Model_least, .ref a_Model_ways, .int Model_thenCost, .int Model_thenWays, .int Model_bothCost, .int Model_bothWays, .ref a_Model_handOf, .ref a_Model_crossedAt, .ref a_Model_strokeOf, .ref a_Model_prices, .ref a_Model_hitAt, .ref a_Model_carried])), (a_Model_now, .inl (cI, 187, .inl (upd Model_now (87 + l1).toNatClampNeg l3))), (a_Model_past, .inl (cI, 3740, .inl Model_past)), (a_Model_bits, .inl (cI, 4, .inl Model_bits)), (a_Model_sizes, .inl (cI, 4, .inl Model_sizes)), (a_Model_sheets, .inl (cI, 96, .inl Model_sheets))] := hD
    refine lv_iload_n hx hb dX11_tape_142 rfl (lv_at hl 2 rfl) ?_
    cases hf
    exact k_iret () hQ9 hx hb hr hlocks rfl hP hD hS (Nat.le_of_ble_eq_true rfl) (Nat.le_of_ble_eq_true rfl) dX11_tape_143
  have hL43 : ∀ (n43 : Nat) (l1 l2 l3 : Int32) (Model_now Model_past : Nat → Int32) (Model_kept Model_findings : Int32) (H : Heap) (locs : List Loc) (ls : Array Slot), va_P D vwCl [(a_Model, .inr (11, [.ref a_Model_now, .ref a_Model_past, .int Model_kept, .int Model_findings, .ref a_Model_bits, .ref a_Model_sizes, .ref a_Model_sheets, .ref a_Model_least, .ref a_Model_ways, .int Model_thenCost, .int Model_thenWays, .int Model_bothCost, .int Model_bothWays, .ref a_Model_handOf, .ref a_Model_crossedAt, .ref a_Model_strokeOf, .ref a_Model_prices, .ref a_Model_hitAt, .ref a_Model_carried])), (a_Model_now, .inl (cI, 187, .inl Model_now)), (a_Model_past, .inl (cI, 3740, .inl Model_past)), (a_Model_bits, .inl (cI, 4, .inl Model_bits)), (a_Model_sizes, .inl (cI, 4, .inl Model_sizes)), (a_Model_sheets, .inl (cI, 96, .inl Model_sheets))] H → va_D A [(a_Model, .inr (11, [.ref a_Model_now, .ref a_Model_past, .int Model_kept, .int Model_findings, .ref a_Model_bits, .ref a_Model_sizes, .ref a_Model_sheets, .ref a_Model_least, .ref a_Model_ways, .int Model_thenCost, .int Model_thenWays, .int Model_bothCost, .int Model_bothWays, .ref a_Model_handOf, .ref a_Model_crossedAt, .ref a_Model_strokeOf, .ref a_Model_prices, .ref a_Model_hitAt, .ref a_Model_carried])), (a_Model_now, .inl (cI, 187, .inl Model_now)), (a_Model_past, .inl (cI, 3740, .inl Model_past)), (a_Model_bits, .inl (cI, 4, .inl Model_bits)), (a_Model_sizes, .inl (cI, 4, .inl Model_sizes)), (a_Model_sheets, .inl (cI, 96, .inl Model_sheets))] → va_S A s.heap H locs → lv_has ls 4 [(0, .ref a_Model), (1, .int l1), (2, .int l2), (3, .int l3)] → f_Model_tape_43 Model_bits Model_sizes Model_sheets  n43 l1 l2 l3 Model_now Model_past Model_kept Model_findings = some (zr, z_Model_now, z_Model_past, z_Model_kept, z_Model_findings) → W p l e (headSpec wsX11_tape rm_Model_tape).room s m ([.ref a_Model, .int p1, .int p2] : List Value).toArray below meth c H locs 0 0 Q9 (F0 m 43 ls []) := by
    intro n43
    induction n43 with
    | zero => intro l1 l2 l3 Model_now Model_past Model_kept Model_findings H locs ls hP hD hS hl hf; exact nomatch (show none = some (zr, z_Model_now, z_Model_past, z_Model_kept, z_Model_findings) from hf)
    | succ n43 ih43 =>
      have hJ101 : ∀ (l1 l2 l3 : Int32) (Model_now Model_past : Nat → Int32) (Model_kept Model_findings : Int32) (H : Heap) (locs : List Loc) (ls : Array Slot), va_P D vwCl [(a_Model, .inr (11, [.ref a_Model_now, .ref a_Model_past, .int Model_kept, .int Model_findings, .ref a_Model_bits, .ref a_Model_sizes, .ref a_Model_sheets, .ref a_Model_least, .ref a_Model_ways, .int Model_thenCost, .int Model_thenWays, .int Model_bothCost, .int Model_bothWays, .ref a_Model_handOf, .ref a_Model_crossedAt, .ref a_Model_strokeOf, .ref a_Model_prices, .ref a_Model_hitAt, .ref a_Model_carried])), (a_Model_now, .inl (cI, 187, .inl Model_now)), (a_Model_past, .inl (cI, 3740, .inl Model_past)), (a_Model_bits, .inl (cI, 4, .inl Model_bits)), (a_Model_sizes, .inl (cI, 4, .inl Model_sizes)), (a_Model_sheets, .inl (cI, 96, .inl Model_sheets))] H → va_D A [(a_Model, .inr (11, [.ref a_Model_now, .ref a_Model_past, .int Model_kept, .int Model_findings, .ref a_Model_bits, .ref a_Model_sizes, .ref a_Model_sheets, .ref a_Model_least, .ref a_Model_ways, .int Model_thenCost, .int Model_thenWays, .int Model_bothCost, .int Model_bothWays, .ref a_Model_handOf, .ref a_Model_crossedAt, .ref a_Model_strokeOf, .ref a_Model_prices, .ref a_Model_hitAt, .ref a_Model_carried])), (a_Model_now, .inl (cI, 187, .inl Model_now)), (a_Model_past, .inl (cI, 3740, .inl Model_past)), (a_Model_bits, .inl (cI, 4, .inl Model_bits)), (a_Model_sizes, .inl (cI, 4, .inl Model_sizes)), (a_Model_sheets, .inl (cI, 96, .inl Model_sheets))] → va_S A s.heap H locs → lv_has ls 4 [(0, .ref a_Model), (1, .int l1), (2, .int l2), (3, .int l3)] → f_Model_tape_101 Model_bits Model_sizes Model_sheets (f_Model_tape_43 Model_bits Model_sizes Model_sheets  n43) l1 l2 l3 Model_now Model_past Model_kept Model_findings = some (zr, z_Model_now, z_Model_past, z_Model_kept, z_Model_findings) → W p l e (headSpec wsX11_tape rm_Model_tape).room s m ([.ref a_Model, .int p1, .int p2] : List Value).toArray below meth c H locs 0 0 Q9 (F0 m 101 ls []) := by
        intro l1 l2 l3 Model_now Model_past Model_kept Model_findings H locs ls hP hD hS hl hf
        unfold f_Model_tape_101 at hf
        refine lv_aload_n hx hb dX11_tape_101 rfl (lv_at hl 0 rfl) ?_
        refine va_get (D := D) (ci := 11) (v := .ref a_Model_now) (C := RX11) (T := TX11) (N := 19) hx hb hts inX11 hown hK hP 0 rfl rfl 0 (by decide) fl9 (fun _ h9 => h9) rfl dX11_tape_102 ?_
        refine lv_bipush (v := 91) hx hb dX11_tape_105 (by decide) ?_
        refine lv_bipush (v := 24) hx hb dX11_tape_107 (by decide) ?_
        refine lv_iload_n hx hb dX11_tape_109 rfl (lv_at hl 1 rfl) ?_
        refine lv_imul hx hb dX11_tape_110 ?_
        refine lv_iadd hx hb dX11_tape_111 ?_
        refine lv_iload_n hx hb dX11_tape_112 rfl (lv_at hl 3 rfl) ?_
        refine lv_iadd hx hb dX11_tape_113 ?_
        refine lv_aload_n hx hb dX11_tape_114 rfl (lv_at hl 0 rfl) ?_
        refine va_get (D := D) (ci := 11) (v := .ref a_Model_sheets) (C := RX11) (T := TX11) (N := 19) hx hb hts inX11 hown hK hP 0 rfl rfl 6 (by decide) fl22 (fun _ h9 => h9) rfl dX11_tape_115 ?_
        refine lv_bipush (v := 24) hx hb dX11_tape_118 (by decide) ?_
        refine lv_iload_n hx hb dX11_tape_120 rfl (lv_at hl 2 rfl) ?_
        refine lv_imul hx hb dX11_tape_121 ?_
        refine lv_iload_n hx hb dX11_tape_122 rfl (lv_at hl 3 rfl) ?_
        refine lv_iadd hx hb dX11_tape_123 ?_
        obtain ⟨ix2, x2, ex2, hf⟩ := rd_s hf
        refine va_iald hx hb hK hP 5 0 rfl rfl ix2 dX11_tape_124 ?_
        refine lv_tpx ex2 ?_
        obtain ⟨i3, hf⟩ := ck_s hf
        refine va_iast hx hb hK hP hD hS 1 0 rfl rfl i3 dX11_tape_125 (fun H locs hP hD hS => ?_)
        have hP : va_P D vwCl [(a_Model, .inr (11, [.ref a_Model_now, .ref a_Model_past, .int Model_kept, .int Model_findings, .ref a_Model_bits, .ref a_Model_sizes, .ref a_Model_sheets, .ref a_Model_least, .ref a_Model_ways, .int Model_thenCost, .int Model_thenWays, .int Model_bothCost, .int Model_bothWays, .ref a_Model_handOf, .ref a_Model_crossedAt, .ref a_Model_strokeOf, .ref a_Model_prices, .ref a_Model_hitAt, .ref a_Model_carried])), (a_Model_now, .inl (cI, 187, .inl (upd Model_now ((91 + (24 * l1)) + l3).toNatClampNeg x2))), (a_Model_past, .inl (cI, 3740, .inl Model_past)), (a_Model_bits, .inl (cI, 4, .inl Model_bits)), (a_Model_sizes, .inl (cI, 4, .inl Model_sizes)), (a_Model_sheets, .inl (cI, 96, .inl Model_sheets))] H := hP
        have hD : va_D A [(a_Model, .inr (11, [.ref a_Model_now, .ref a_Model_past, .int Model_kept, .int Model_findings, .ref a_Model_bits, .ref a_Model_sizes, .ref a_Model_sheets, .ref a_Model_least, .ref a_Model_ways, .int Model_thenCost, .int Model_thenWays, .int Model_bothCost, .int Model_bothWays, .ref a_Model_handOf, .ref a_Model_crossedAt, .ref a_Model_strokeOf, .ref a_Model_prices, .ref a_Model_hitAt, .ref a_Model_carried])), (a_Model_now, .inl (cI, 187, .inl (upd Model_now ((91 + (24 * l1)) + l3).toNatClampNeg x2))), (a_Model_past, .inl (cI, 3740, .inl Model_past)), (a_Model_bits, .inl (cI, 4, .inl Model_bits)), (a_Model_sizes, .inl (cI, 4, .inl Model_sizes)), (a_Model_sheets, .inl (cI, 96, .inl Model_sheets))] := hD
        obtain ⟨x4, ex4, hf⟩ := nm_s hf
        refine lv_iinc (v := x4) (lv' := [(3, .int x4), (0, .ref a_Model), (1, .int l1), (2, .int l2)]) hx hb dX11_tape_126 hl (k := 3) rfl (by rw [ex4]; rfl) (by decide) rfl (fun ls hl => ?_)
        refine lv_goto (tgt := 43) hx hb dX11_tape_129 (by decide) ?_
        exact ih43 l1 l2 x4 (upd Model_now ((91 + (24 * l1)) + l3).toNatClampNeg x2) Model_past Model_kept Model_findings H locs ls hP hD hS (lv_sub hl [1, 2, 3, 0] rfl) hf
      intro l1 l2 l3 Model_now Model_past Model_kept Model_findings H locs ls hP hD hS hl hf
      have hf : f_Model_tape_43_b Model_bits Model_sizes Model_sheets  (f_Model_tape_43 Model_bits Model_sizes Model_sheets  n43) l1 l2 l3 Model_now Model_past Model_kept Model_findings = some (zr, z_Model_now, z_Model_past, z_Model_kept, z_Model_findings) := hf
      unfold f_Model_tape_43_b at hf
      refine lv_iload_n hx hb dX11_tape_43 rfl (lv_at hl 3 rfl) ?_
      refine lv_aload_n hx hb dX11_tape_44 rfl (lv_at hl 0 rfl) ?_
      refine va_get (D := D) (ci := 11) (v := .ref a_Model_sizes) (C := RX11) (T := TX11) (N := 19) hx hb hts inX11 hown hK hP 0 rfl rfl 5 (by decide) fl19 (fun _ h9 => h9) rfl dX11_tape_45 ?_
      refine lv_iload_n hx hb dX11_tape_48 rfl (lv_at hl 2 rfl) ?_
      obtain ⟨ix5, x5, ex5, hf⟩ := rd_s hf
      refine va_iald hx hb hK hP 4 0 rfl rfl ix5 dX11_tape_49 ?_
      refine lv_tpx ex5 ?_
      refine lv_icmp_ge (tgt := 132) hx hb dX11_tape_50 (by decide) (fun c6 => ?_) (fun c6 => ?_)
      · have hf := ite_t c6 hf
        exact hJ132 l1 l3 Model_now Model_past Model_kept Model_findings H locs ls hP hD hS (lv_sub hl [0, 1, 3] rfl) hf
      · have hf := ite_f c6 hf
        refine lv_aload_n hx hb dX11_tape_53 rfl (lv_at hl 0 rfl) ?_
        refine va_get (D := D) (ci := 11) (v := .ref a_Model_sheets) (C := RX11) (T := TX11) (N := 19) hx hb hts inX11 hown hK hP 0 rfl rfl 6 (by decide) fl22 (fun _ h9 => h9) rfl dX11_tape_54 ?_
        refine lv_bipush (v := 24) hx hb dX11_tape_57 (by decide) ?_
        refine lv_iload_n hx hb dX11_tape_59 rfl (lv_at hl 2 rfl) ?_
        refine lv_imul hx hb dX11_tape_60 ?_
        refine lv_iload_n hx hb dX11_tape_61 rfl (lv_at hl 3 rfl) ?_
        refine lv_iadd hx hb dX11_tape_62 ?_
        obtain ⟨ix7, x7, ex7, hf⟩ := rd_s hf
        refine va_iald hx hb hK hP 5 0 rfl rfl ix7 dX11_tape_63 ?_
        refine lv_tpx ex7 ?_
        obtain ⟨r8, g9, hf⟩ := b1_s hf
        refine k_Si (rest := []) ⟨hx, hb, hml, hown, hts⟩ (c_Model_isTick l D cI cZ t  H.size x7 r8 g9) (va_cwS 1 hts gX11_tape_X11_isTick rfl rfl rfl (by decide +kernel) ⟨Nat.le_of_ble_eq_true rfl, Nat.le_of_ble_eq_true rfl⟩) hE hP hD hS hA [] [0, 1, 2, 3, 4, 5] rfl rfl rfl rfl rfl rfl hl.1 rfl (Nat.le_of_ble_eq_true rfl) dX11_tape_64 ⟨Nat.le_of_ble_eq_true rfl, Nat.le_of_ble_eq_true rfl⟩ (fun rq uq H locs hrq hP hD hS => ?_)
        refine lv_tpx hrq.symm ?_
        have hP : va_P D vwCl [(a_Model, .inr (11, [.ref a_Model_now, .ref a_Model_past, .int Model_kept, .int Model_findings, .ref a_Model_bits, .ref a_Model_sizes, .ref a_Model_sheets, .ref a_Model_least, .ref a_Model_ways, .int Model_thenCost, .int Model_thenWays, .int Model_bothCost, .int Model_bothWays, .ref a_Model_handOf, .ref a_Model_crossedAt, .ref a_Model_strokeOf, .ref a_Model_prices, .ref a_Model_hitAt, .ref a_Model_carried])), (a_Model_now, .inl (cI, 187, .inl Model_now)), (a_Model_past, .inl (cI, 3740, .inl Model_past)), (a_Model_bits, .inl (cI, 4, .inl Model_bits)), (a_Model_sizes, .inl (cI, 4, .inl Model_sizes)), (a_Model_sheets, .inl (cI, 96, .inl Model_sheets))] H := hP
        have hD : va_D A [(a_Model, .inr (11, [.ref a_Model_now, .ref a_Model_past, .int Model_kept, .int Model_findings, .ref a_Model_bits, .ref a_Model_sizes, .ref a_Model_sheets, .ref a_Model_least, .ref a_Model_ways, .int Model_thenCost, .int Model_thenWays, .int Model_bothCost, .int Model_bothWays, .ref a_Model_handOf, .ref a_Model_crossedAt, .ref a_Model_strokeOf, .ref a_Model_prices, .ref a_Model_hitAt, .ref a_Model_carried])), (a_Model_now, .inl (cI, 187, .inl Model_now)), (a_Model_past, .inl (cI, 3740, .inl Model_past)), (a_Model_bits, .inl (cI, 4, .inl Model_bits)), (a_Model_sizes, .inl (cI, 4, .inl Model_sizes)), (a_Model_sheets, .inl (cI, 96, .inl Model_sheets))] := hD
        refine lv_if_eq (tgt := 132) hx hb dX11_tape_67 (by decide) (fun c10 => ?_) (fun c10 => ?_)
        · have hf := ite_t c10 hf
          exact hJ132 l1 l3 Model_now Model_past Model_kept Model_findings H locs ls hP hD hS (lv_sub hl [0, 1, 3] rfl) hf
        · have hf := ite_f c10 hf
          refine lv_iload_n hx hb dX11_tape_70 rfl (lv_at hl 3 rfl) ?_
          refine lv_if_eq (tgt := 101) hx hb dX11_tape_71 (by decide) (fun c11 => ?_) (fun c11 => ?_)
          · have hf := ite_t c11 hf
            exact hJ101 l1 l2 l3 Model_now Model_past Model_kept Model_findings H locs ls hP hD hS (lv_sub hl [0, 1, 2, 3] rfl) hf
          · have hf := ite_f c11 hf
            refine lv_aload_n hx hb dX11_tape_74 rfl (lv_at hl 0 rfl) ?_
            refine va_get (D := D) (ci := 11) (v := .ref a_Model_sheets) (C := RX11) (T := TX11) (N := 19) hx hb hts inX11 hown hK hP 0 rfl rfl 6 (by decide) fl22 (fun _ h9 => h9) rfl dX11_tape_75 ?_
            refine lv_bipush (v := 24) hx hb dX11_tape_78 (by decide) ?_
            refine lv_iload_n hx hb dX11_tape_80 rfl (lv_at hl 2 rfl) ?_
            refine lv_imul hx hb dX11_tape_81 ?_
            refine lv_iload_n hx hb dX11_tape_82 rfl (lv_at hl 3 rfl) ?_
            refine lv_iadd hx hb dX11_tape_83 ?_
            obtain ⟨ix12, x12, ex12, hf⟩ := rd_s hf
            refine va_iald hx hb hK hP 5 0 rfl rfl ix12 dX11_tape_84 ?_
            refine lv_tpx ex12 ?_
            refine lv_aload_n hx hb dX11_tape_85 rfl (lv_at hl 0 rfl) ?_
            refine va_get (D := D) (ci := 11) (v := .ref a_Model_sheets) (C := RX11) (T := TX11) (N := 19) hx hb hts inX11 hown hK hP 0 rfl rfl 6 (by decide) fl22 (fun _ h9 => h9) rfl dX11_tape_86 ?_
            refine lv_bipush (v := 24) hx hb dX11_tape_89 (by decide) ?_
            refine lv_iload_n hx hb dX11_tape_91 rfl (lv_at hl 2 rfl) ?_
            refine lv_imul hx hb dX11_tape_92 ?_
            refine lv_iload_n hx hb dX11_tape_93 rfl (lv_at hl 3 rfl) ?_
            refine lv_iadd hx hb dX11_tape_94 ?_
            refine lv_iconst (v := 1) hx hb dX11_tape_95 (by decide) ?_
            refine lv_isub hx hb dX11_tape_96 ?_
            obtain ⟨ix13, x13, ex13, hf⟩ := rd_s hf
            refine va_iald hx hb hK hP 5 0 rfl rfl ix13 dX11_tape_97 ?_
            refine lv_tpx ex13 ?_
            refine lv_icmp_lt (tgt := 132) hx hb dX11_tape_98 (by decide) (fun c14 => ?_) (fun c14 => ?_)
            · have hf := ite_t c14 hf
              exact hJ132 l1 l3 Model_now Model_past Model_kept Model_findings H locs ls hP hD hS (lv_sub hl [0, 1, 3] rfl) hf
            · have hf := ite_f c14 hf
              exact hJ101 l1 l2 l3 Model_now Model_past Model_kept Model_findings H locs ls hP hD hS (lv_sub hl [0, 1, 2, 3] rfl) hf
  unfold f_Model_tape at hf
  refine lv_iload_n hx hb dX11_tape_0 rfl (lv_at hl 1 rfl) ?_
  obtain ⟨r15, g16, hf⟩ := b1_s hf
  refine k_Si (rest := []) ⟨hx, hb, hml, hown, hts⟩ (c_Model_isPlayer l D cI cZ t  s.heap.size p1 r15 g16) (va_cwS 1 hts gX11_tape_X11_isPlayer rfl rfl rfl (by decide +kernel) ⟨Nat.le_of_ble_eq_true rfl, Nat.le_of_ble_eq_true rfl⟩) hE hP hD hS hA [] [0, 1, 2, 3, 4, 5] rfl rfl rfl rfl rfl rfl hl.1 rfl (Nat.le_of_ble_eq_true rfl) dX11_tape_1 ⟨Nat.le_of_ble_eq_true rfl, Nat.le_of_ble_eq_true rfl⟩ (fun rq uq H locs hrq hP hD hS => ?_)
  refine lv_tpx hrq.symm ?_
  have hP : va_P D vwCl [(a_Model, .inr (11, [.ref a_Model_now, .ref a_Model_past, .int Model_kept, .int Model_findings, .ref a_Model_bits, .ref a_Model_sizes, .ref a_Model_sheets, .ref a_Model_least, .ref a_Model_ways, .int Model_thenCost, .int Model_thenWays, .int Model_bothCost, .int Model_bothWays, .ref a_Model_handOf, .ref a_Model_crossedAt, .ref a_Model_strokeOf, .ref a_Model_prices, .ref a_Model_hitAt, .ref a_Model_carried])), (a_Model_now, .inl (cI, 187, .inl Model_now)), (a_Model_past, .inl (cI, 3740, .inl Model_past)), (a_Model_bits, .inl (cI, 4, .inl Model_bits)), (a_Model_sizes, .inl (cI, 4, .inl Model_sizes)), (a_Model_sheets, .inl (cI, 96, .inl Model_sheets))] H := hP
  have hD : va_D A [(a_Model, .inr (11, [.ref a_Model_now, .ref a_Model_past, .int Model_kept, .int Model_findings, .ref a_Model_bits, .ref a_Model_sizes, .ref a_Model_sheets, .ref a_Model_least, .ref a_Model_ways, .int Model_thenCost, .int Model_thenWays, .int Model_bothCost, .int Model_bothWays, .ref a_Model_handOf, .ref a_Model_crossedAt, .ref a_Model_strokeOf, .ref a_Model_prices, .ref a_Model_hitAt, .ref a_Model_carried])), (a_Model_now, .inl (cI, 187, .inl Model_now)), (a_Model_past, .inl (cI, 3740, .inl Model_past)), (a_Model_bits, .inl (cI, 4, .inl Model_bits)), (a_Model_sizes, .inl (cI, 4, .inl Model_sizes)), (a_Model_sheets, .inl (cI, 96, .inl Model_sheets))] := hD
  refine lv_if_eq (tgt := 14) hx hb dX11_tape_4 (by decide) (fun c17 => ?_) (fun c17 => ?_)
  · have hf := ite_t c17 hf
    refine lv_aload_n hx hb dX11_tape_14 rfl (lv_at hl 0 rfl) ?_
    refine lv_ldc (v := (-100001)) hx hb hown kc70 dX11_tape_15 ?_
    obtain ⟨r18, y19, g20, hf⟩ := b2_s hf
    refine k_Vi (rest := []) ⟨hx, hb, hml, hown, hts⟩ (c_Model_finding l D cI cZ t a_Model a_Model_now a_Model_past a_Model_bits a_Model_sizes a_Model_sheets a_Model_least a_Model_ways a_Model_handOf a_Model_crossedAt a_Model_strokeOf a_Model_prices a_Model_hitAt a_Model_carried H.size Model_findings Model_kept Model_thenCost Model_thenWays Model_bothCost Model_bothWays (-100001) r18 y19 g20) (cwV 1 hts gX11_tape_X11_finding rfl rfl rfl (by decide +kernel) ⟨Nat.le_of_ble_eq_true rfl, Nat.le_of_ble_eq_true rfl⟩) hE hP hD hS hA [0] [1, 2, 3, 4, 5] rfl rfl rfl rfl rfl 0 11 rfl rfl rfl rfl hl.1 rfl (Nat.le_of_ble_eq_true rfl) dX11_tape_17 ⟨Nat.le_of_ble_eq_true rfl, Nat.le_of_ble_eq_true rfl⟩ (fun rq uq H locs hrq hP hD hS => ?_)
    refine lv_tpx hrq.symm ?_
    have hP : va_P D vwCl [(a_Model_now, .inl (cI, 187, .inl Model_now)), (a_Model_past, .inl (cI, 3740, .inl Model_past)), (a_Model_bits, .inl (cI, 4, .inl Model_bits)), (a_Model_sizes, .inl (cI, 4, .inl Model_sizes)), (a_Model_sheets, .inl (cI, 96, .inl Model_sheets)), (a_Model, .inr (11, [.ref a_Model_now, .ref a_Model_past, .int Model_kept, .int y19, .ref a_Model_bits, .ref a_Model_sizes, .ref a_Model_sheets, .ref a_Model_least, .ref a_Model_ways, .int Model_thenCost, .int Model_thenWays, .int Model_bothCost, .int Model_bothWays, .ref a_Model_handOf, .ref a_Model_crossedAt, .ref a_Model_strokeOf, .ref a_Model_prices, .ref a_Model_hitAt, .ref a_Model_carried]))] H := hP
    have hD : va_D A [(a_Model_now, .inl (cI, 187, .inl Model_now)), (a_Model_past, .inl (cI, 3740, .inl Model_past)), (a_Model_bits, .inl (cI, 4, .inl Model_bits)), (a_Model_sizes, .inl (cI, 4, .inl Model_sizes)), (a_Model_sheets, .inl (cI, 96, .inl Model_sheets)), (a_Model, .inr (11, [.ref a_Model_now, .ref a_Model_past, .int Model_kept, .int y19, .ref a_Model_bits, .ref a_Model_sizes, .ref a_Model_sheets, .ref a_Model_least, .ref a_Model_ways, .int Model_thenCost, .int Model_thenWays, .int Model_bothCost, .int Model_bothWays, .ref a_Model_handOf, .ref a_Model_crossedAt, .ref a_Model_strokeOf, .ref a_Model_prices, .ref a_Model_hitAt, .ref a_Model_carried]))] := hD
    cases hf
    exact k_iret () hQ9 hx hb hr hlocks rfl (hP.sub [5, 0, 1, 2, 3, 4] rfl) (hD.sub [5, 0, 1, 2, 3, 4] (by decide) rfl) hS (Nat.le_of_ble_eq_true rfl) (Nat.le_of_ble_eq_true rfl) dX11_tape_20
  · have hf := ite_f c17 hf
    refine lv_iload_n hx hb dX11_tape_7 rfl (lv_at hl 2 rfl) ?_
    obtain ⟨r21, g22, hf⟩ := b1_s hf
    refine k_Si (rest := []) ⟨hx, hb, hml, hown, hts⟩ (c_Model_isSheet l D cI cZ t  H.size p2 r21 g22) (va_cwS 1 hts gX11_tape_X11_isSheet rfl rfl rfl (by decide +kernel) ⟨Nat.le_of_ble_eq_true rfl, Nat.le_of_ble_eq_true rfl⟩) hE hP hD hS hA [] [0, 1, 2, 3, 4, 5] rfl rfl rfl rfl rfl rfl hl.1 rfl (Nat.le_of_ble_eq_true rfl) dX11_tape_8 ⟨Nat.le_of_ble_eq_true rfl, Nat.le_of_ble_eq_true rfl⟩ (fun rq uq H locs hrq hP hD hS => ?_)
    refine lv_tpx hrq.symm ?_
    have hP : va_P D vwCl [(a_Model, .inr (11, [.ref a_Model_now, .ref a_Model_past, .int Model_kept, .int Model_findings, .ref a_Model_bits, .ref a_Model_sizes, .ref a_Model_sheets, .ref a_Model_least, .ref a_Model_ways, .int Model_thenCost, .int Model_thenWays, .int Model_bothCost, .int Model_bothWays, .ref a_Model_handOf, .ref a_Model_crossedAt, .ref a_Model_strokeOf, .ref a_Model_prices, .ref a_Model_hitAt, .ref a_Model_carried])), (a_Model_now, .inl (cI, 187, .inl Model_now)), (a_Model_past, .inl (cI, 3740, .inl Model_past)), (a_Model_bits, .inl (cI, 4, .inl Model_bits)), (a_Model_sizes, .inl (cI, 4, .inl Model_sizes)), (a_Model_sheets, .inl (cI, 96, .inl Model_sheets))] H := hP
    have hD : va_D A [(a_Model, .inr (11, [.ref a_Model_now, .ref a_Model_past, .int Model_kept, .int Model_findings, .ref a_Model_bits, .ref a_Model_sizes, .ref a_Model_sheets, .ref a_Model_least, .ref a_Model_ways, .int Model_thenCost, .int Model_thenWays, .int Model_bothCost, .int Model_bothWays, .ref a_Model_handOf, .ref a_Model_crossedAt, .ref a_Model_strokeOf, .ref a_Model_prices, .ref a_Model_hitAt, .ref a_Model_carried])), (a_Model_now, .inl (cI, 187, .inl Model_now)), (a_Model_past, .inl (cI, 3740, .inl Model_past)), (a_Model_bits, .inl (cI, 4, .inl Model_bits)), (a_Model_sizes, .inl (cI, 4, .inl Model_sizes)), (a_Model_sheets, .inl (cI, 96, .inl Model_sheets))] := hD
    refine lv_if_ne (tgt := 21) hx hb dX11_tape_11 (by decide) (fun c23 => ?_) (fun c23 => ?_)
    · have hf := ite_f c23 hf
      refine lv_aload_n hx hb dX11_tape_21 rfl (lv_at hl 0 rfl) ?_
      refine va_get (D := D) (ci := 11) (v := .ref a_Model_bits) (C := RX11) (T := TX11) (N := 19) hx hb hts inX11 hown hK hP 0 rfl rfl 4 (by decide) fl16 (fun _ h9 => h9) rfl dX11_tape_22 ?_
      refine lv_iload_n hx hb dX11_tape_25 rfl (lv_at hl 2 rfl) ?_
      obtain ⟨ix24, x24, ex24, hf⟩ := rd_s hf
      refine va_iald hx hb hK hP 3 0 rfl rfl ix24 dX11_tape_26 ?_
      refine lv_tpx ex24 ?_
      refine lv_if_ne (tgt := 37) hx hb dX11_tape_27 (by decide) (fun c25 => ?_) (fun c25 => ?_)
      · have hf := ite_f c25 hf
        refine lv_aload_n hx hb dX11_tape_37 rfl (lv_at hl 0 rfl) ?_
        obtain ⟨y26, y27, g28, hf⟩ := b2_s hf
        refine k_Vv (rest := []) ⟨hx, hb, hml, hown, hts⟩ (c_Model_keep l D cI cZ t a_Model a_Model_now a_Model_past a_Model_bits a_Model_sizes a_Model_sheets a_Model_least a_Model_ways a_Model_handOf a_Model_crossedAt a_Model_strokeOf a_Model_prices a_Model_hitAt a_Model_carried H.size Model_now Model_past Model_kept Model_findings Model_thenCost Model_thenWays Model_bothCost Model_bothWays y26 y27 g28) (cwV 0 hts gX11_tape_X11_keep rfl rfl rfl (by decide +kernel) ⟨Nat.le_of_ble_eq_true rfl, Nat.le_of_ble_eq_true rfl⟩) hE hP hD hS hA [0, 1, 2] [3, 4, 5] rfl rfl rfl rfl rfl 0 11 rfl rfl rfl rfl hl.1 rfl (Nat.le_of_ble_eq_true rfl) dX11_tape_38 ⟨Nat.le_of_ble_eq_true rfl, Nat.le_of_ble_eq_true rfl⟩ (fun uq H locs hrq hP hD hS => ?_)
        have hP : va_P D vwCl [(a_Model_bits, .inl (cI, 4, .inl Model_bits)), (a_Model_sizes, .inl (cI, 4, .inl Model_sizes)), (a_Model_sheets, .inl (cI, 96, .inl Model_sheets)), (a_Model, .inr (11, [.ref a_Model_now, .ref a_Model_past, .int y27, .int Model_findings, .ref a_Model_bits, .ref a_Model_sizes, .ref a_Model_sheets, .ref a_Model_least, .ref a_Model_ways, .int Model_thenCost, .int Model_thenWays, .int Model_bothCost, .int Model_bothWays, .ref a_Model_handOf, .ref a_Model_crossedAt, .ref a_Model_strokeOf, .ref a_Model_prices, .ref a_Model_hitAt, .ref a_Model_carried])), (a_Model_now, .inl (cI, 187, .inl Model_now)), (a_Model_past, .inl (cI, 3740, .inl y26))] H := hP
        have hD : va_D A [(a_Model_bits, .inl (cI, 4, .inl Model_bits)), (a_Model_sizes, .inl (cI, 4, .inl Model_sizes)), (a_Model_sheets, .inl (cI, 96, .inl Model_sheets)), (a_Model, .inr (11, [.ref a_Model_now, .ref a_Model_past, .int y27, .int Model_findings, .ref a_Model_bits, .ref a_Model_sizes, .ref a_Model_sheets, .ref a_Model_least, .ref a_Model_ways, .int Model_thenCost, .int Model_thenWays, .int Model_bothCost, .int Model_bothWays, .ref a_Model_handOf, .ref a_Model_crossedAt, .ref a_Model_strokeOf, .ref a_Model_prices, .ref a_Model_hitAt, .ref a_Model_carried])), (a_Model_now, .inl (cI, 187, .inl Model_now)), (a_Model_past, .inl (cI, 3740, .inl y26))] := hD
        refine lv_iconst (v := 0) hx hb dX11_tape_41 (by decide) ?_
        refine lv_istore_n (lv' := [(3, .int 0), (0, .ref a_Model), (1, .int p1), (2, .int p2)]) hx hb dX11_tape_42 rfl hl (by decide) rfl (fun ls hl => ?_)
        exact hL43 fu p1 p2 0 Model_now y26 y27 Model_findings H locs ls (hP.sub [3, 4, 5, 0, 1, 2] rfl) (hD.sub [3, 4, 5, 0, 1, 2] (by decide) rfl) hS (lv_sub hl [1, 2, 3, 0] rfl) hf
      · have hf := ite_t c25 hf
        refine lv_aload_n hx hb dX11_tape_30 rfl (lv_at hl 0 rfl) ?_
        refine lv_ldc (v := (-100002)) hx hb hown kc182 dX11_tape_31 ?_
        obtain ⟨r29, y30, g31, hf⟩ := b2_s hf
        refine k_Vi (rest := []) ⟨hx, hb, hml, hown, hts⟩ (c_Model_finding l D cI cZ t a_Model a_Model_now a_Model_past a_Model_bits a_Model_sizes a_Model_sheets a_Model_least a_Model_ways a_Model_handOf a_Model_crossedAt a_Model_strokeOf a_Model_prices a_Model_hitAt a_Model_carried H.size Model_findings Model_kept Model_thenCost Model_thenWays Model_bothCost Model_bothWays (-100002) r29 y30 g31) (cwV 1 hts gX11_tape_X11_finding rfl rfl rfl (by decide +kernel) ⟨Nat.le_of_ble_eq_true rfl, Nat.le_of_ble_eq_true rfl⟩) hE hP hD hS hA [0] [1, 2, 3, 4, 5] rfl rfl rfl rfl rfl 0 11 rfl rfl rfl rfl hl.1 rfl (Nat.le_of_ble_eq_true rfl) dX11_tape_33 ⟨Nat.le_of_ble_eq_true rfl, Nat.le_of_ble_eq_true rfl⟩ (fun rq uq H locs hrq hP hD hS => ?_)
        refine lv_tpx hrq.symm ?_
        have hP : va_P D vwCl [(a_Model_now, .inl (cI, 187, .inl Model_now)), (a_Model_past, .inl (cI, 3740, .inl Model_past)), (a_Model_bits, .inl (cI, 4, .inl Model_bits)), (a_Model_sizes, .inl (cI, 4, .inl Model_sizes)), (a_Model_sheets, .inl (cI, 96, .inl Model_sheets)), (a_Model, .inr (11, [.ref a_Model_now, .ref a_Model_past, .int Model_kept, .int y30, .ref a_Model_bits, .ref a_Model_sizes, .ref a_Model_sheets, .ref a_Model_least, .ref a_Model_ways, .int Model_thenCost, .int Model_thenWays, .int Model_bothCost, .int Model_bothWays, .ref a_Model_handOf, .ref a_Model_crossedAt, .ref a_Model_strokeOf, .ref a_Model_prices, .ref a_Model_hitAt, .ref a_Model_carried]))] H := hP
        have hD : va_D A [(a_Model_now, .inl (cI, 187, .inl Model_now)), (a_Model_past, .inl (cI, 3740, .inl Model_past)), (a_Model_bits, .inl (cI, 4, .inl Model_bits)), (a_Model_sizes, .inl (cI, 4, .inl Model_sizes)), (a_Model_sheets, .inl (cI, 96, .inl Model_sheets)), (a_Model, .inr (11, [.ref a_Model_now, .ref a_Model_past, .int Model_kept, .int y30, .ref a_Model_bits, .ref a_Model_sizes, .ref a_Model_sheets, .ref a_Model_least, .ref a_Model_ways, .int Model_thenCost, .int Model_thenWays, .int Model_bothCost, .int Model_bothWays, .ref a_Model_handOf, .ref a_Model_crossedAt, .ref a_Model_strokeOf, .ref a_Model_prices, .ref a_Model_hitAt, .ref a_Model_carried]))] := hD
        cases hf
        exact k_iret () hQ9 hx hb hr hlocks rfl (hP.sub [5, 0, 1, 2, 3, 4] rfl) (hD.sub [5, 0, 1, 2, 3, 4] (by decide) rfl) hS (Nat.le_of_ble_eq_true rfl) (Nat.le_of_ble_eq_true rfl) dX11_tape_36
    · have hf := ite_t c23 hf
      refine lv_aload_n hx hb dX11_tape_14 rfl (lv_at hl 0 rfl) ?_
      refine lv_ldc (v := (-100001)) hx hb hown kc70 dX11_tape_15 ?_
      obtain ⟨r32, y33, g34, hf⟩ := b2_s hf
      refine k_Vi (rest := []) ⟨hx, hb, hml, hown, hts⟩ (c_Model_finding l D cI cZ t a_Model a_Model_now a_Model_past a_Model_bits a_Model_sizes a_Model_sheets a_Model_least a_Model_ways a_Model_handOf a_Model_crossedAt a_Model_strokeOf a_Model_prices a_Model_hitAt a_Model_carried H.size Model_findings Model_kept Model_thenCost Model_thenWays Model_bothCost Model_bothWays (-100001) r32 y33 g34) (cwV 1 hts gX11_tape_X11_finding rfl rfl rfl (by decide +kernel) ⟨Nat.le_of_ble_eq_true rfl, Nat.le_of_ble_eq_true rfl⟩) hE hP hD hS hA [0] [1, 2, 3, 4, 5] rfl rfl rfl rfl rfl 0 11 rfl rfl rfl rfl hl.1 rfl (Nat.le_of_ble_eq_true rfl) dX11_tape_17 ⟨Nat.le_of_ble_eq_true rfl, Nat.le_of_ble_eq_true rfl⟩ (fun rq uq H locs hrq hP hD hS => ?_)
      refine lv_tpx hrq.symm ?_
      have hP : va_P D vwCl [(a_Model_now, .inl (cI, 187, .inl Model_now)), (a_Model_past, .inl (cI, 3740, .inl Model_past)), (a_Model_bits, .inl (cI, 4, .inl Model_bits)), (a_Model_sizes, .inl (cI, 4, .inl Model_sizes)), (a_Model_sheets, .inl (cI, 96, .inl Model_sheets)), (a_Model, .inr (11, [.ref a_Model_now, .ref a_Model_past, .int Model_kept, .int y33, .ref a_Model_bits, .ref a_Model_sizes, .ref a_Model_sheets, .ref a_Model_least, .ref a_Model_ways, .int Model_thenCost, .int Model_thenWays, .int Model_bothCost, .int Model_bothWays, .ref a_Model_handOf, .ref a_Model_crossedAt, .ref a_Model_strokeOf, .ref a_Model_prices, .ref a_Model_hitAt, .ref a_Model_carried]))] H := hP
      have hD : va_D A [(a_Model_now, .inl (cI, 187, .inl Model_now)), (a_Model_past, .inl (cI, 3740, .inl Model_past)), (a_Model_bits, .inl (cI, 4, .inl Model_bits)), (a_Model_sizes, .inl (cI, 4, .inl Model_sizes)), (a_Model_sheets, .inl (cI, 96, .inl Model_sheets)), (a_Model, .inr (11, [.ref a_Model_now, .ref a_Model_past, .int Model_kept, .int y33, .ref a_Model_bits, .ref a_Model_sizes, .ref a_Model_sheets, .ref a_Model_least, .ref a_Model_ways, .int Model_thenCost, .int Model_thenWays, .int Model_bothCost, .int Model_bothWays, .ref a_Model_handOf, .ref a_Model_crossedAt, .ref a_Model_strokeOf, .ref a_Model_prices, .ref a_Model_hitAt, .ref a_Model_carried]))] := hD
      cases hf
      exact k_iret () hQ9 hx hb hr hlocks rfl (hP.sub [5, 0, 1, 2, 3, 4] rfl) (hD.sub [5, 0, 1, 2, 3, 4] (by decide) rfl) hS (Nat.le_of_ble_eq_true rfl) (Nat.le_of_ble_eq_true rfl) dX11_tape_20
abbrev rm_Model_price : Room := { frames := 3, cells := 0, slots := 0, locals := 81 }
set_option maxHeartbeats 4000000 in
set_option maxRecDepth 100000 in
theorem c_Model_price (l : Launch) (D : va_G) (cI cZ : ClassId) (t : Nat → Nat) (a_Model a_Model_now a_Model_past a_Model_bits a_Model_sizes a_Model_sheets a_Model_least a_Model_ways a_Model_handOf a_Model_crossedAt a_Model_strokeOf a_Model_prices a_Model_hitAt a_Model_carried sz : Nat) (Model_now : Nat → Int32) (Model_findings : Int32) (Model_prices Model_hitAt : Nat → Int32) (Model_kept Model_thenCost Model_thenWays Model_bothCost Model_bothWays p1 zr z_Model_findings : Int32) (z_Model_prices z_Model_hitAt : Nat → Int32) (hf : f_Model_price Model_now Model_findings Model_prices Model_hitAt p1 = some (zr, z_Model_findings, z_Model_prices, z_Model_hitAt)) : Met l yX11_price wsX11_price rm_Model_price (va_Pc [.ref a_Model, .int p1] (pcW D cI cZ t [(a_Model, .inr (11, [.ref a_Model_now, .ref a_Model_past, .int Model_kept, .int Model_findings, .ref a_Model_bits, .ref a_Model_sizes, .ref a_Model_sheets, .ref a_Model_least, .ref a_Model_ways, .int Model_thenCost, .int Model_thenWays, .int Model_bothCost, .int Model_bothWays, .ref a_Model_handOf, .ref a_Model_crossedAt, .ref a_Model_strokeOf, .ref a_Model_prices, .ref a_Model_hitAt, .ref a_Model_carried])), (a_Model_now, .inl (cI, 187, .inl Model_now)), (a_Model_prices, .inl (cI, 525, .inl Model_prices)), (a_Model_hitAt, .inl (cI, 20, .inl Model_hitAt))] sz)) (va_Qi (fun r (u : Unit) => r = zr) (fun u t' => bW D (va_A [(a_Model, .inr (11, [.ref a_Model_now, .ref a_Model_past, .int Model_kept, .int Model_findings, .ref a_Model_bits, .ref a_Model_sizes, .ref a_Model_sheets, .ref a_Model_least, .ref a_Model_ways, .int Model_thenCost, .int Model_thenWays, .int Model_bothCost, .int Model_bothWays, .ref a_Model_handOf, .ref a_Model_crossedAt, .ref a_Model_strokeOf, .ref a_Model_prices, .ref a_Model_hitAt, .ref a_Model_carried])), (a_Model_now, .inl (cI, 187, .inl Model_now)), (a_Model_prices, .inl (cI, 525, .inl Model_prices)), (a_Model_hitAt, .inl (cI, 20, .inl Model_hitAt))] sz) [(a_Model, .inr (11, [.ref a_Model_now, .ref a_Model_past, .int Model_kept, .int z_Model_findings, .ref a_Model_bits, .ref a_Model_sizes, .ref a_Model_sheets, .ref a_Model_least, .ref a_Model_ways, .int Model_thenCost, .int Model_thenWays, .int Model_bothCost, .int Model_bothWays, .ref a_Model_handOf, .ref a_Model_crossedAt, .ref a_Model_strokeOf, .ref a_Model_prices, .ref a_Model_hitAt, .ref a_Model_carried])), (a_Model_now, .inl (cI, 187, .inl Model_now)), (a_Model_prices, .inl (cI, 525, .inl z_Model_prices)), (a_Model_hitAt, .inl (cI, 20, .inl z_Model_hitAt))] t') (va_A [(a_Model, .inr (11, [.ref a_Model_now, .ref a_Model_past, .int Model_kept, .int Model_findings, .ref a_Model_bits, .ref a_Model_sizes, .ref a_Model_sheets, .ref a_Model_least, .ref a_Model_ways, .int Model_thenCost, .int Model_thenWays, .int Model_bothCost, .int Model_bothWays, .ref a_Model_handOf, .ref a_Model_crossedAt, .ref a_Model_strokeOf, .ref a_Model_prices, .ref a_Model_hitAt, .ref a_Model_carried])), (a_Model_now, .inl (cI, 187, .inl Model_now)), (a_Model_prices, .inl (cI, 525, .inl Model_prices)), (a_Model_hitAt, .inl (cI, 20, .inl Model_hitAt))] sz)) 0 0 (va_A [(a_Model, .inr (11, [.ref a_Model_now, .ref a_Model_past, .int Model_kept, .int Model_findings, .ref a_Model_bits, .ref a_Model_sizes, .ref a_Model_sheets, .ref a_Model_least, .ref a_Model_ways, .int Model_thenCost, .int Model_thenWays, .int Model_bothCost, .int Model_bothWays, .ref a_Model_handOf, .ref a_Model_crossedAt, .ref a_Model_strokeOf, .ref a_Model_prices, .ref a_Model_hitAt, .ref a_Model_carried])), (a_Model_now, .inl (cI, 187, .inl Model_now)), (a_Model_prices, .inl (cI, 525, .inl Model_prices)), (a_Model_hitAt, .inl (cI, 20, .inl Model_hitAt))] sz) := by
  refine Met.ofW (cc := cX11_price) (maxL := 2) (ret := (some .int)) (by decide) rfl ?_
  intro p e s m args below meth c s₁ B hml hv
  obtain ⟨rfl, hsz, hP, hD0, hE⟩ := hv
  have hx := B.exec
  have hb := B.bytes
  have hr := B.returns
  have hts := atoms_spec (ws := wsX11_price) B.pre
  have hown : s.vm.findClass RX11 = some m.cls := findClass_of_methodNamed B.named
  have hlocks := B.notSynchronized
  subst hsz
  have hD := hD0.self (sz := s.heap.size)
  generalize hAe : va_A [(a_Model, .inr (11, [.ref a_Model_now, .ref a_Model_past, .int Model_kept, .int Model_findings, .ref a_Model_bits, .ref a_Model_sizes, .ref a_Model_sheets, .ref a_Model_least, .ref a_Model_ways, .int Model_thenCost, .int Model_thenWays, .int Model_bothCost, .int Model_bothWays, .ref a_Model_handOf, .ref a_Model_crossedAt, .ref a_Model_strokeOf, .ref a_Model_prices, .ref a_Model_hitAt, .ref a_Model_carried])), (a_Model_now, .inl (cI, 187, .inl Model_now)), (a_Model_prices, .inl (cI, 525, .inl Model_prices)), (a_Model_hitAt, .inl (cI, 20, .inl Model_hitAt))] s.heap.size = A at hD hE ⊢
  have hA : ∀ q : Nat, s.heap.size ≤ q → A q := fun q h => by rw [← hAe]; exact Or.inr h
  clear hAe hD0
  have hS : va_S A s.heap s.heap [] := va_S.rf
  have hK := hE.1
  have hl := lv_entry ([.ref a_Model, .int p1]) (n := 2) (Nat.le_of_ble_eq_true rfl)
  rw [lg_entry_eq]
  generalize (lg_sl ([.ref a_Model, .int p1]) ++ List.replicate (2 - (lg_sl ([.ref a_Model, .int p1])).length) Slot.unset).toArray = ls at hl ⊢
  have hl : lv_has ls 2 [(0, .ref a_Model), (1, .int p1)] := hl
  refine w_q (fun Q9 hQ9 => ?_)
  have kc70 := hts (.constant RX11 70 (-100001)) (by decide +kernel)
  unfold f_Model_price at hf
  refine lv_iload_n hx hb dX11_price_0 rfl (lv_at hl 1 rfl) ?_
  obtain ⟨r1, g2, hf⟩ := b1_s hf
  refine k_Si (rest := []) ⟨hx, hb, hml, hown, hts⟩ (c_Model_isPlayer l D cI cZ t  s.heap.size p1 r1 g2) (va_cwS 1 hts gX11_price_X11_isPlayer rfl rfl rfl (by decide +kernel) ⟨Nat.le_of_ble_eq_true rfl, Nat.le_of_ble_eq_true rfl⟩) hE hP hD hS hA [] [0, 1, 2, 3] rfl rfl rfl rfl rfl rfl hl.1 rfl (Nat.le_of_ble_eq_true rfl) dX11_price_1 ⟨Nat.le_of_ble_eq_true rfl, Nat.le_of_ble_eq_true rfl⟩ (fun rq uq H locs hrq hP hD hS => ?_)
  refine lv_tpx hrq.symm ?_
  have hP : va_P D vwCl [(a_Model, .inr (11, [.ref a_Model_now, .ref a_Model_past, .int Model_kept, .int Model_findings, .ref a_Model_bits, .ref a_Model_sizes, .ref a_Model_sheets, .ref a_Model_least, .ref a_Model_ways, .int Model_thenCost, .int Model_thenWays, .int Model_bothCost, .int Model_bothWays, .ref a_Model_handOf, .ref a_Model_crossedAt, .ref a_Model_strokeOf, .ref a_Model_prices, .ref a_Model_hitAt, .ref a_Model_carried])), (a_Model_now, .inl (cI, 187, .inl Model_now)), (a_Model_prices, .inl (cI, 525, .inl Model_prices)), (a_Model_hitAt, .inl (cI, 20, .inl Model_hitAt))] H := hP
  have hD : va_D A [(a_Model, .inr (11, [.ref a_Model_now, .ref a_Model_past, .int Model_kept, .int Model_findings, .ref a_Model_bits, .ref a_Model_sizes, .ref a_Model_sheets, .ref a_Model_least, .ref a_Model_ways, .int Model_thenCost, .int Model_thenWays, .int Model_bothCost, .int Model_bothWays, .ref a_Model_handOf, .ref a_Model_crossedAt, .ref a_Model_strokeOf, .ref a_Model_prices, .ref a_Model_hitAt, .ref a_Model_carried])), (a_Model_now, .inl (cI, 187, .inl Model_now)), (a_Model_prices, .inl (cI, 525, .inl Model_prices)), (a_Model_hitAt, .inl (cI, 20, .inl Model_hitAt))] := hD
  refine lv_if_ne (tgt := 14) hx hb dX11_price_4 (by decide) (fun c3 => ?_) (fun c3 => ?_)
  · have hf := ite_f c3 hf
    refine lv_aload_n hx hb dX11_price_14 rfl (lv_at hl 0 rfl) ?_
    refine lv_iload_n hx hb dX11_price_15 rfl (lv_at hl 1 rfl) ?_
    obtain ⟨y4, y5, g6, hf⟩ := b2_s hf
    refine k_Vv (rest := []) ⟨hx, hb, hml, hown, hts⟩ (c_Model_findReading l D cI cZ t a_Model a_Model_now a_Model_past a_Model_bits a_Model_sizes a_Model_sheets a_Model_least a_Model_ways a_Model_handOf a_Model_crossedAt a_Model_strokeOf a_Model_prices a_Model_hitAt a_Model_carried H.size Model_now Model_prices Model_hitAt Model_kept Model_findings Model_thenCost Model_thenWays Model_bothCost Model_bothWays p1 y4 y5 g6) (cwV 1 hts gX11_price_X11_findReading rfl rfl rfl (by decide +kernel) ⟨Nat.le_of_ble_eq_true rfl, Nat.le_of_ble_eq_true rfl⟩) hE hP hD hS hA [0, 1, 2, 3] [] rfl rfl rfl rfl rfl 0 11 rfl rfl rfl rfl hl.1 rfl (Nat.le_of_ble_eq_true rfl) dX11_price_16 ⟨Nat.le_of_ble_eq_true rfl, Nat.le_of_ble_eq_true rfl⟩ (fun uq H locs hrq hP hD hS => ?_)
    have hP : va_P D vwCl [(a_Model, .inr (11, [.ref a_Model_now, .ref a_Model_past, .int Model_kept, .int Model_findings, .ref a_Model_bits, .ref a_Model_sizes, .ref a_Model_sheets, .ref a_Model_least, .ref a_Model_ways, .int Model_thenCost, .int Model_thenWays, .int Model_bothCost, .int Model_bothWays, .ref a_Model_handOf, .ref a_Model_crossedAt, .ref a_Model_strokeOf, .ref a_Model_prices, .ref a_Model_hitAt, .ref a_Model_carried])), (a_Model_now, .inl (cI, 187, .inl Model_now)), (a_Model_prices, .inl (cI, 525, .inl y4)), (a_Model_hitAt, .inl (cI, 20, .inl y5))] H := hP
    have hD : va_D A [(a_Model, .inr (11, [.ref a_Model_now, .ref a_Model_past, .int Model_kept, .int Model_findings, .ref a_Model_bits, .ref a_Model_sizes, .ref a_Model_sheets, .ref a_Model_least, .ref a_Model_ways, .int Model_thenCost, .int Model_thenWays, .int Model_bothCost, .int Model_bothWays, .ref a_Model_handOf, .ref a_Model_crossedAt, .ref a_Model_strokeOf, .ref a_Model_prices, .ref a_Model_hitAt, .ref a_Model_carried])), (a_Model_now, .inl (cI, 187, .inl Model_now)), (a_Model_prices, .inl (cI, 525, .inl y4)), (a_Model_hitAt, .inl (cI, 20, .inl y5))] := hD
    refine lv_aload_n hx hb dX11_price_19 rfl (lv_at hl 0 rfl) ?_
    refine lv_iconst (v := 0) hx hb dX11_price_20 (by decide) ?_
    refine lv_iconst (v := 0) hx hb dX11_price_21 (by decide) ?_
    obtain ⟨r7, g8, hf⟩ := b1_s hf
    refine k_Vi (rest := []) ⟨hx, hb, hml, hown, hts⟩ (c_Model_priceFrom l D cI cZ t a_Model a_Model_now a_Model_past a_Model_bits a_Model_sizes a_Model_sheets a_Model_least a_Model_ways a_Model_handOf a_Model_crossedAt a_Model_strokeOf a_Model_prices a_Model_hitAt a_Model_carried H.size y4 Model_kept Model_findings Model_thenCost Model_thenWays Model_bothCost Model_bothWays 0 0 r7 g8) (cwV 2 hts gX11_price_X11_priceFrom rfl rfl rfl (by decide +kernel) ⟨Nat.le_of_ble_eq_true rfl, Nat.le_of_ble_eq_true rfl⟩) hE hP hD hS hA [0, 2] [1, 3] rfl rfl rfl rfl rfl 0 11 rfl rfl rfl rfl hl.1 rfl (Nat.le_of_ble_eq_true rfl) dX11_price_22 ⟨Nat.le_of_ble_eq_true rfl, Nat.le_of_ble_eq_true rfl⟩ (fun rq uq H locs hrq hP hD hS => ?_)
    refine lv_tpx hrq.symm ?_
    have hP : va_P D vwCl [(a_Model_now, .inl (cI, 187, .inl Model_now)), (a_Model_hitAt, .inl (cI, 20, .inl y5)), (a_Model, .inr (11, [.ref a_Model_now, .ref a_Model_past, .int Model_kept, .int Model_findings, .ref a_Model_bits, .ref a_Model_sizes, .ref a_Model_sheets, .ref a_Model_least, .ref a_Model_ways, .int Model_thenCost, .int Model_thenWays, .int Model_bothCost, .int Model_bothWays, .ref a_Model_handOf, .ref a_Model_crossedAt, .ref a_Model_strokeOf, .ref a_Model_prices, .ref a_Model_hitAt, .ref a_Model_carried])), (a_Model_prices, .inl (cI, 525, .inl y4))] H := hP
    have hD : va_D A [(a_Model_now, .inl (cI, 187, .inl Model_now)), (a_Model_hitAt, .inl (cI, 20, .inl y5)), (a_Model, .inr (11, [.ref a_Model_now, .ref a_Model_past, .int Model_kept, .int Model_findings, .ref a_Model_bits, .ref a_Model_sizes, .ref a_Model_sheets, .ref a_Model_least, .ref a_Model_ways, .int Model_thenCost, .int Model_thenWays, .int Model_bothCost, .int Model_bothWays, .ref a_Model_handOf, .ref a_Model_crossedAt, .ref a_Model_strokeOf, .ref a_Model_prices, .ref a_Model_hitAt, .ref a_Model_carried])), (a_Model_prices, .inl (cI, 525, .inl y4))] := hD
    cases hf
    exact k_iret () hQ9 hx hb hr hlocks rfl (hP.sub [2, 0, 3, 1] rfl) (hD.sub [2, 0, 3, 1] (by decide) rfl) hS (Nat.le_of_ble_eq_true rfl) (Nat.le_of_ble_eq_true rfl) dX11_price_25
  · have hf := ite_t c3 hf
    refine lv_aload_n hx hb dX11_price_7 rfl (lv_at hl 0 rfl) ?_
    refine lv_ldc (v := (-100001)) hx hb hown kc70 dX11_price_8 ?_
    obtain ⟨r9, y10, g11, hf⟩ := b2_s hf
    refine k_Vi (rest := []) ⟨hx, hb, hml, hown, hts⟩ (c_Model_finding l D cI cZ t a_Model a_Model_now a_Model_past a_Model_bits a_Model_sizes a_Model_sheets a_Model_least a_Model_ways a_Model_handOf a_Model_crossedAt a_Model_strokeOf a_Model_prices a_Model_hitAt a_Model_carried H.size Model_findings Model_kept Model_thenCost Model_thenWays Model_bothCost Model_bothWays (-100001) r9 y10 g11) (cwV 1 hts gX11_price_X11_finding rfl rfl rfl (by decide +kernel) ⟨Nat.le_of_ble_eq_true rfl, Nat.le_of_ble_eq_true rfl⟩) hE hP hD hS hA [0] [1, 2, 3] rfl rfl rfl rfl rfl 0 11 rfl rfl rfl rfl hl.1 rfl (Nat.le_of_ble_eq_true rfl) dX11_price_10 ⟨Nat.le_of_ble_eq_true rfl, Nat.le_of_ble_eq_true rfl⟩ (fun rq uq H locs hrq hP hD hS => ?_)
    refine lv_tpx hrq.symm ?_
    have hP : va_P D vwCl [(a_Model_now, .inl (cI, 187, .inl Model_now)), (a_Model_prices, .inl (cI, 525, .inl Model_prices)), (a_Model_hitAt, .inl (cI, 20, .inl Model_hitAt)), (a_Model, .inr (11, [.ref a_Model_now, .ref a_Model_past, .int Model_kept, .int y10, .ref a_Model_bits, .ref a_Model_sizes, .ref a_Model_sheets, .ref a_Model_least, .ref a_Model_ways, .int Model_thenCost, .int Model_thenWays, .int Model_bothCost, .int Model_bothWays, .ref a_Model_handOf, .ref a_Model_crossedAt, .ref a_Model_strokeOf, .ref a_Model_prices, .ref a_Model_hitAt, .ref a_Model_carried]))] H := hP
    have hD : va_D A [(a_Model_now, .inl (cI, 187, .inl Model_now)), (a_Model_prices, .inl (cI, 525, .inl Model_prices)), (a_Model_hitAt, .inl (cI, 20, .inl Model_hitAt)), (a_Model, .inr (11, [.ref a_Model_now, .ref a_Model_past, .int Model_kept, .int y10, .ref a_Model_bits, .ref a_Model_sizes, .ref a_Model_sheets, .ref a_Model_least, .ref a_Model_ways, .int Model_thenCost, .int Model_thenWays, .int Model_bothCost, .int Model_bothWays, .ref a_Model_handOf, .ref a_Model_crossedAt, .ref a_Model_strokeOf, .ref a_Model_prices, .ref a_Model_hitAt, .ref a_Model_carried]))] := hD
    cases hf
    exact k_iret () hQ9 hx hb hr hlocks rfl (hP.sub [3, 0, 1, 2] rfl) (hD.sub [3, 0, 1, 2] (by decide) rfl) hS (Nat.le_of_ble_eq_true rfl) (Nat.le_of_ble_eq_true rfl) dX11_price_13
abbrev rm_Model_read : Room := { frames := 3, cells := 0, slots := 0, locals := 81 }
set_option maxHeartbeats 4000000 in
set_option maxRecDepth 100000 in
theorem c_Model_read (l : Launch) (D : va_G) (cI cZ : ClassId) (t : Nat → Nat) (a_Model a_Model_now a_Model_past a_Model_bits a_Model_sizes a_Model_sheets a_Model_least a_Model_ways a_Model_handOf a_Model_crossedAt a_Model_strokeOf a_Model_prices a_Model_hitAt a_Model_carried sz : Nat) (Model_now : Nat → Int32) (Model_findings : Int32) (Model_prices Model_hitAt : Nat → Int32) (Model_kept Model_thenCost Model_thenWays Model_bothCost Model_bothWays p1 p2 zr z_Model_findings : Int32) (z_Model_prices z_Model_hitAt : Nat → Int32) (hf : f_Model_read Model_now Model_findings Model_prices Model_hitAt p1 p2 = some (zr, z_Model_findings, z_Model_prices, z_Model_hitAt)) : Met l yX11_read wsX11_read rm_Model_read (va_Pc [.ref a_Model, .int p1, .int p2] (pcW D cI cZ t [(a_Model, .inr (11, [.ref a_Model_now, .ref a_Model_past, .int Model_kept, .int Model_findings, .ref a_Model_bits, .ref a_Model_sizes, .ref a_Model_sheets, .ref a_Model_least, .ref a_Model_ways, .int Model_thenCost, .int Model_thenWays, .int Model_bothCost, .int Model_bothWays, .ref a_Model_handOf, .ref a_Model_crossedAt, .ref a_Model_strokeOf, .ref a_Model_prices, .ref a_Model_hitAt, .ref a_Model_carried])), (a_Model_now, .inl (cI, 187, .inl Model_now)), (a_Model_prices, .inl (cI, 525, .inl Model_prices)), (a_Model_hitAt, .inl (cI, 20, .inl Model_hitAt))] sz)) (va_Qi (fun r (u : Unit) => r = zr) (fun u t' => bW D (va_A [(a_Model, .inr (11, [.ref a_Model_now, .ref a_Model_past, .int Model_kept, .int Model_findings, .ref a_Model_bits, .ref a_Model_sizes, .ref a_Model_sheets, .ref a_Model_least, .ref a_Model_ways, .int Model_thenCost, .int Model_thenWays, .int Model_bothCost, .int Model_bothWays, .ref a_Model_handOf, .ref a_Model_crossedAt, .ref a_Model_strokeOf, .ref a_Model_prices, .ref a_Model_hitAt, .ref a_Model_carried])), (a_Model_now, .inl (cI, 187, .inl Model_now)), (a_Model_prices, .inl (cI, 525, .inl Model_prices)), (a_Model_hitAt, .inl (cI, 20, .inl Model_hitAt))] sz) [(a_Model, .inr (11, [.ref a_Model_now, .ref a_Model_past, .int Model_kept, .int z_Model_findings, .ref a_Model_bits, .ref a_Model_sizes, .ref a_Model_sheets, .ref a_Model_least, .ref a_Model_ways, .int Model_thenCost, .int Model_thenWays, .int Model_bothCost, .int Model_bothWays, .ref a_Model_handOf, .ref a_Model_crossedAt, .ref a_Model_strokeOf, .ref a_Model_prices, .ref a_Model_hitAt, .ref a_Model_carried])), (a_Model_now, .inl (cI, 187, .inl Model_now)), (a_Model_prices, .inl (cI, 525, .inl z_Model_prices)), (a_Model_hitAt, .inl (cI, 20, .inl z_Model_hitAt))] t') (va_A [(a_Model, .inr (11, [.ref a_Model_now, .ref a_Model_past, .int Model_kept, .int Model_findings, .ref a_Model_bits, .ref a_Model_sizes, .ref a_Model_sheets, .ref a_Model_least, .ref a_Model_ways, .int Model_thenCost, .int Model_thenWays, .int Model_bothCost, .int Model_bothWays, .ref a_Model_handOf, .ref a_Model_crossedAt, .ref a_Model_strokeOf, .ref a_Model_prices, .ref a_Model_hitAt, .ref a_Model_carried])), (a_Model_now, .inl (cI, 187, .inl Model_now)), (a_Model_prices, .inl (cI, 525, .inl Model_prices)), (a_Model_hitAt, .inl (cI, 20, .inl Model_hitAt))] sz)) 0 0 (va_A [(a_Model, .inr (11, [.ref a_Model_now, .ref a_Model_past, .int Model_kept, .int Model_findings, .ref a_Model_bits, .ref a_Model_sizes, .ref a_Model_sheets, .ref a_Model_least, .ref a_Model_ways, .int Model_thenCost, .int Model_thenWays, .int Model_bothCost, .int Model_bothWays, .ref a_Model_handOf, .ref a_Model_crossedAt, .ref a_Model_strokeOf, .ref a_Model_prices, .ref a_Model_hitAt, .ref a_Model_carried])), (a_Model_now, .inl (cI, 187, .inl Model_now)), (a_Model_prices, .inl (cI, 525, .inl Model_prices)), (a_Model_hitAt, .inl (cI, 20, .inl Model_hitAt))] sz) := by
  refine Met.ofW (cc := cX11_read) (maxL := 3) (ret := (some .int)) (by decide) rfl ?_
  intro p e s m args below meth c s₁ B hml hv
  obtain ⟨rfl, hsz, hP, hD0, hE⟩ := hv
  have hx := B.exec
  have hb := B.bytes
  have hr := B.returns
  have hts := atoms_spec (ws := wsX11_read) B.pre
  have hown : s.vm.findClass RX11 = some m.cls := findClass_of_methodNamed B.named
  have hlocks := B.notSynchronized
  subst hsz
  have hD := hD0.self (sz := s.heap.size)
  generalize hAe : va_A [(a_Model, .inr (11, [.ref a_Model_now, .ref a_Model_past, .int Model_kept, .int Model_findings, .ref a_Model_bits, .ref a_Model_sizes, .ref a_Model_sheets, .ref a_Model_least, .ref a_Model_ways, .int Model_thenCost, .int Model_thenWays, .int Model_bothCost, .int Model_bothWays, .ref a_Model_handOf, .ref a_Model_crossedAt, .ref a_Model_strokeOf, .ref a_Model_prices, .ref a_Model_hitAt, .ref a_Model_carried])), (a_Model_now, .inl (cI, 187, .inl Model_now)), (a_Model_prices, .inl (cI, 525, .inl Model_prices)), (a_Model_hitAt, .inl (cI, 20, .inl Model_hitAt))] s.heap.size = A at hD hE ⊢
  have hA : ∀ q : Nat, s.heap.size ≤ q → A q := fun q h => by rw [← hAe]; exact Or.inr h
  clear hAe hD0
  have hS : va_S A s.heap s.heap [] := va_S.rf
  have hK := hE.1
  have hl := lv_entry ([.ref a_Model, .int p1, .int p2]) (n := 3) (Nat.le_of_ble_eq_true rfl)
  rw [lg_entry_eq]
  generalize (lg_sl ([.ref a_Model, .int p1, .int p2]) ++ List.replicate (3 - (lg_sl ([.ref a_Model, .int p1, .int p2])).length) Slot.unset).toArray = ls at hl ⊢
  have hl : lv_has ls 3 [(0, .ref a_Model), (1, .int p1), (2, .int p2)] := hl
  refine w_q (fun Q9 hQ9 => ?_)
  have kc70 := hts (.constant RX11 70 (-100001)) (by decide +kernel)
  have fl44 := hts (.fieldLink RX11 44 "StickRoomModel" "hitAt" "[I") (by decide +kernel)
  have inX11 : ∀ w ∈ wsX110, w ∈ wsX11_read := by decide +kernel
  have kc61 := hts (.constant RX11 61 (-100006)) (by decide +kernel)
  unfold f_Model_read at hf
  refine lv_iload_n hx hb dX11_read_0 rfl (lv_at hl 1 rfl) ?_
  obtain ⟨r1, g2, hf⟩ := b1_s hf
  refine k_Si (rest := []) ⟨hx, hb, hml, hown, hts⟩ (c_Model_isPlayer l D cI cZ t  s.heap.size p1 r1 g2) (va_cwS 1 hts gX11_read_X11_isPlayer rfl rfl rfl (by decide +kernel) ⟨Nat.le_of_ble_eq_true rfl, Nat.le_of_ble_eq_true rfl⟩) hE hP hD hS hA [] [0, 1, 2, 3] rfl rfl rfl rfl rfl rfl hl.1 rfl (Nat.le_of_ble_eq_true rfl) dX11_read_1 ⟨Nat.le_of_ble_eq_true rfl, Nat.le_of_ble_eq_true rfl⟩ (fun rq uq H locs hrq hP hD hS => ?_)
  refine lv_tpx hrq.symm ?_
  have hP : va_P D vwCl [(a_Model, .inr (11, [.ref a_Model_now, .ref a_Model_past, .int Model_kept, .int Model_findings, .ref a_Model_bits, .ref a_Model_sizes, .ref a_Model_sheets, .ref a_Model_least, .ref a_Model_ways, .int Model_thenCost, .int Model_thenWays, .int Model_bothCost, .int Model_bothWays, .ref a_Model_handOf, .ref a_Model_crossedAt, .ref a_Model_strokeOf, .ref a_Model_prices, .ref a_Model_hitAt, .ref a_Model_carried])), (a_Model_now, .inl (cI, 187, .inl Model_now)), (a_Model_prices, .inl (cI, 525, .inl Model_prices)), (a_Model_hitAt, .inl (cI, 20, .inl Model_hitAt))] H := hP
  have hD : va_D A [(a_Model, .inr (11, [.ref a_Model_now, .ref a_Model_past, .int Model_kept, .int Model_findings, .ref a_Model_bits, .ref a_Model_sizes, .ref a_Model_sheets, .ref a_Model_least, .ref a_Model_ways, .int Model_thenCost, .int Model_thenWays, .int Model_bothCost, .int Model_bothWays, .ref a_Model_handOf, .ref a_Model_crossedAt, .ref a_Model_strokeOf, .ref a_Model_prices, .ref a_Model_hitAt, .ref a_Model_carried])), (a_Model_now, .inl (cI, 187, .inl Model_now)), (a_Model_prices, .inl (cI, 525, .inl Model_prices)), (a_Model_hitAt, .inl (cI, 20, .inl Model_hitAt))] := hD
  refine lv_if_eq (tgt := 15) hx hb dX11_read_4 (by decide) (fun c3 => ?_) (fun c3 => ?_)
  · have hf := ite_t c3 hf
    refine lv_aload_n hx hb dX11_read_15 rfl (lv_at hl 0 rfl) ?_
    refine lv_ldc (v := (-100001)) hx hb hown kc70 dX11_read_16 ?_
    obtain ⟨r4, y5, g6, hf⟩ := b2_s hf
    refine k_Vi (rest := []) ⟨hx, hb, hml, hown, hts⟩ (c_Model_finding l D cI cZ t a_Model a_Model_now a_Model_past a_Model_bits a_Model_sizes a_Model_sheets a_Model_least a_Model_ways a_Model_handOf a_Model_crossedAt a_Model_strokeOf a_Model_prices a_Model_hitAt a_Model_carried H.size Model_findings Model_kept Model_thenCost Model_thenWays Model_bothCost Model_bothWays (-100001) r4 y5 g6) (cwV 1 hts gX11_read_X11_finding rfl rfl rfl (by decide +kernel) ⟨Nat.le_of_ble_eq_true rfl, Nat.le_of_ble_eq_true rfl⟩) hE hP hD hS hA [0] [1, 2, 3] rfl rfl rfl rfl rfl 0 11 rfl rfl rfl rfl hl.1 rfl (Nat.le_of_ble_eq_true rfl) dX11_read_18 ⟨Nat.le_of_ble_eq_true rfl, Nat.le_of_ble_eq_true rfl⟩ (fun rq uq H locs hrq hP hD hS => ?_)
    refine lv_tpx hrq.symm ?_
    have hP : va_P D vwCl [(a_Model_now, .inl (cI, 187, .inl Model_now)), (a_Model_prices, .inl (cI, 525, .inl Model_prices)), (a_Model_hitAt, .inl (cI, 20, .inl Model_hitAt)), (a_Model, .inr (11, [.ref a_Model_now, .ref a_Model_past, .int Model_kept, .int y5, .ref a_Model_bits, .ref a_Model_sizes, .ref a_Model_sheets, .ref a_Model_least, .ref a_Model_ways, .int Model_thenCost, .int Model_thenWays, .int Model_bothCost, .int Model_bothWays, .ref a_Model_handOf, .ref a_Model_crossedAt, .ref a_Model_strokeOf, .ref a_Model_prices, .ref a_Model_hitAt, .ref a_Model_carried]))] H := hP
    have hD : va_D A [(a_Model_now, .inl (cI, 187, .inl Model_now)), (a_Model_prices, .inl (cI, 525, .inl Model_prices)), (a_Model_hitAt, .inl (cI, 20, .inl Model_hitAt)), (a_Model, .inr (11, [.ref a_Model_now, .ref a_Model_past, .int Model_kept, .int y5, .ref a_Model_bits, .ref a_Model_sizes, .ref a_Model_sheets, .ref a_Model_least, .ref a_Model_ways, .int Model_thenCost, .int Model_thenWays, .int Model_bothCost, .int Model_bothWays, .ref a_Model_handOf, .ref a_Model_crossedAt, .ref a_Model_strokeOf, .ref a_Model_prices, .ref a_Model_hitAt, .ref a_Model_carried]))] := hD
    cases hf
    exact k_iret () hQ9 hx hb hr hlocks rfl (hP.sub [3, 0, 1, 2] rfl) (hD.sub [3, 0, 1, 2] (by decide) rfl) hS (Nat.le_of_ble_eq_true rfl) (Nat.le_of_ble_eq_true rfl) dX11_read_21
  · have hf := ite_f c3 hf
    refine lv_aload_n hx hb dX11_read_7 rfl (lv_at hl 0 rfl) ?_
    refine lv_iload_n hx hb dX11_read_8 rfl (lv_at hl 2 rfl) ?_
    obtain ⟨r7, g8, hf⟩ := b1_s hf
    refine k_Vi (rest := []) ⟨hx, hb, hml, hown, hts⟩ (c_Model_isNote l D cI cZ t a_Model a_Model_now a_Model_past a_Model_bits a_Model_sizes a_Model_sheets a_Model_least a_Model_ways a_Model_handOf a_Model_crossedAt a_Model_strokeOf a_Model_prices a_Model_hitAt a_Model_carried H.size Model_now Model_kept Model_findings Model_thenCost Model_thenWays Model_bothCost Model_bothWays p2 r7 g8) (cwV 1 hts gX11_read_X11_isNote rfl rfl rfl (by decide +kernel) ⟨Nat.le_of_ble_eq_true rfl, Nat.le_of_ble_eq_true rfl⟩) hE hP hD hS hA [0, 1] [2, 3] rfl rfl rfl rfl rfl 0 11 rfl rfl rfl rfl hl.1 rfl (Nat.le_of_ble_eq_true rfl) dX11_read_9 ⟨Nat.le_of_ble_eq_true rfl, Nat.le_of_ble_eq_true rfl⟩ (fun rq uq H locs hrq hP hD hS => ?_)
    refine lv_tpx hrq.symm ?_
    have hP : va_P D vwCl [(a_Model_prices, .inl (cI, 525, .inl Model_prices)), (a_Model_hitAt, .inl (cI, 20, .inl Model_hitAt)), (a_Model, .inr (11, [.ref a_Model_now, .ref a_Model_past, .int Model_kept, .int Model_findings, .ref a_Model_bits, .ref a_Model_sizes, .ref a_Model_sheets, .ref a_Model_least, .ref a_Model_ways, .int Model_thenCost, .int Model_thenWays, .int Model_bothCost, .int Model_bothWays, .ref a_Model_handOf, .ref a_Model_crossedAt, .ref a_Model_strokeOf, .ref a_Model_prices, .ref a_Model_hitAt, .ref a_Model_carried])), (a_Model_now, .inl (cI, 187, .inl Model_now))] H := hP
    have hD : va_D A [(a_Model_prices, .inl (cI, 525, .inl Model_prices)), (a_Model_hitAt, .inl (cI, 20, .inl Model_hitAt)), (a_Model, .inr (11, [.ref a_Model_now, .ref a_Model_past, .int Model_kept, .int Model_findings, .ref a_Model_bits, .ref a_Model_sizes, .ref a_Model_sheets, .ref a_Model_least, .ref a_Model_ways, .int Model_thenCost, .int Model_thenWays, .int Model_bothCost, .int Model_bothWays, .ref a_Model_handOf, .ref a_Model_crossedAt, .ref a_Model_strokeOf, .ref a_Model_prices, .ref a_Model_hitAt, .ref a_Model_carried])), (a_Model_now, .inl (cI, 187, .inl Model_now))] := hD
    refine lv_if_ne (tgt := 22) hx hb dX11_read_12 (by decide) (fun c9 => ?_) (fun c9 => ?_)
    · have hf := ite_f c9 hf
      refine lv_aload_n hx hb dX11_read_22 rfl (lv_at hl 0 rfl) ?_
      refine lv_iload_n hx hb dX11_read_23 rfl (lv_at hl 1 rfl) ?_
      obtain ⟨y10, y11, g12, hf⟩ := b2_s hf
      refine k_Vv (rest := []) ⟨hx, hb, hml, hown, hts⟩ (c_Model_findReading l D cI cZ t a_Model a_Model_now a_Model_past a_Model_bits a_Model_sizes a_Model_sheets a_Model_least a_Model_ways a_Model_handOf a_Model_crossedAt a_Model_strokeOf a_Model_prices a_Model_hitAt a_Model_carried H.size Model_now Model_prices Model_hitAt Model_kept Model_findings Model_thenCost Model_thenWays Model_bothCost Model_bothWays p1 y10 y11 g12) (cwV 1 hts gX11_read_X11_findReading rfl rfl rfl (by decide +kernel) ⟨Nat.le_of_ble_eq_true rfl, Nat.le_of_ble_eq_true rfl⟩) hE hP hD hS hA [2, 3, 0, 1] [] rfl rfl rfl rfl rfl 0 11 rfl rfl rfl rfl hl.1 rfl (Nat.le_of_ble_eq_true rfl) dX11_read_24 ⟨Nat.le_of_ble_eq_true rfl, Nat.le_of_ble_eq_true rfl⟩ (fun uq H locs hrq hP hD hS => ?_)
      have hP : va_P D vwCl [(a_Model, .inr (11, [.ref a_Model_now, .ref a_Model_past, .int Model_kept, .int Model_findings, .ref a_Model_bits, .ref a_Model_sizes, .ref a_Model_sheets, .ref a_Model_least, .ref a_Model_ways, .int Model_thenCost, .int Model_thenWays, .int Model_bothCost, .int Model_bothWays, .ref a_Model_handOf, .ref a_Model_crossedAt, .ref a_Model_strokeOf, .ref a_Model_prices, .ref a_Model_hitAt, .ref a_Model_carried])), (a_Model_now, .inl (cI, 187, .inl Model_now)), (a_Model_prices, .inl (cI, 525, .inl y10)), (a_Model_hitAt, .inl (cI, 20, .inl y11))] H := hP
      have hD : va_D A [(a_Model, .inr (11, [.ref a_Model_now, .ref a_Model_past, .int Model_kept, .int Model_findings, .ref a_Model_bits, .ref a_Model_sizes, .ref a_Model_sheets, .ref a_Model_least, .ref a_Model_ways, .int Model_thenCost, .int Model_thenWays, .int Model_bothCost, .int Model_bothWays, .ref a_Model_handOf, .ref a_Model_crossedAt, .ref a_Model_strokeOf, .ref a_Model_prices, .ref a_Model_hitAt, .ref a_Model_carried])), (a_Model_now, .inl (cI, 187, .inl Model_now)), (a_Model_prices, .inl (cI, 525, .inl y10)), (a_Model_hitAt, .inl (cI, 20, .inl y11))] := hD
      refine lv_aload_n hx hb dX11_read_27 rfl (lv_at hl 0 rfl) ?_
      refine va_get (D := D) (ci := 11) (v := .ref a_Model_hitAt) (C := RX11) (T := TX11) (N := 19) hx hb hts inX11 hown hK hP 0 rfl rfl 17 (by decide) fl44 (fun _ h9 => h9) rfl dX11_read_28 ?_
      refine lv_iload_n hx hb dX11_read_31 rfl (lv_at hl 2 rfl) ?_
      obtain ⟨ix13, x13, ex13, hf⟩ := rd_s hf
      refine va_iald hx hb hK hP 3 0 rfl rfl ix13 dX11_read_32 ?_
      refine lv_tpx ex13 ?_
      refine lv_if_ge (tgt := 45) hx hb dX11_read_33 (by decide) (fun c14 => ?_) (fun c14 => ?_)
      · have hf := ite_t c14 hf
        refine lv_aload_n hx hb dX11_read_45 rfl (lv_at hl 0 rfl) ?_
        refine va_get (D := D) (ci := 11) (v := .ref a_Model_hitAt) (C := RX11) (T := TX11) (N := 19) hx hb hts inX11 hown hK hP 0 rfl rfl 17 (by decide) fl44 (fun _ h9 => h9) rfl dX11_read_46 ?_
        refine lv_iload_n hx hb dX11_read_49 rfl (lv_at hl 2 rfl) ?_
        obtain ⟨ix15, x15, ex15, hf⟩ := rd_s hf
        refine va_iald hx hb hK hP 3 0 rfl rfl ix15 dX11_read_50 ?_
        refine lv_tpx ex15 ?_
        cases hf
        exact k_iret () hQ9 hx hb hr hlocks rfl hP hD hS (Nat.le_of_ble_eq_true rfl) (Nat.le_of_ble_eq_true rfl) dX11_read_51
      · have hf := ite_f c14 hf
        refine lv_aload_n hx hb dX11_read_36 rfl (lv_at hl 0 rfl) ?_
        refine lv_ldc (v := (-100006)) hx hb hown kc61 dX11_read_37 ?_
        obtain ⟨r16, y17, g18, hf⟩ := b2_s hf
        refine k_Vi (rest := []) ⟨hx, hb, hml, hown, hts⟩ (c_Model_finding l D cI cZ t a_Model a_Model_now a_Model_past a_Model_bits a_Model_sizes a_Model_sheets a_Model_least a_Model_ways a_Model_handOf a_Model_crossedAt a_Model_strokeOf a_Model_prices a_Model_hitAt a_Model_carried H.size Model_findings Model_kept Model_thenCost Model_thenWays Model_bothCost Model_bothWays (-100006) r16 y17 g18) (cwV 1 hts gX11_read_X11_finding rfl rfl rfl (by decide +kernel) ⟨Nat.le_of_ble_eq_true rfl, Nat.le_of_ble_eq_true rfl⟩) hE hP hD hS hA [0] [1, 2, 3] rfl rfl rfl rfl rfl 0 11 rfl rfl rfl rfl hl.1 rfl (Nat.le_of_ble_eq_true rfl) dX11_read_39 ⟨Nat.le_of_ble_eq_true rfl, Nat.le_of_ble_eq_true rfl⟩ (fun rq uq H locs hrq hP hD hS => ?_)
        refine lv_tpx hrq.symm ?_
        have hP : va_P D vwCl [(a_Model_now, .inl (cI, 187, .inl Model_now)), (a_Model_prices, .inl (cI, 525, .inl y10)), (a_Model_hitAt, .inl (cI, 20, .inl y11)), (a_Model, .inr (11, [.ref a_Model_now, .ref a_Model_past, .int Model_kept, .int y17, .ref a_Model_bits, .ref a_Model_sizes, .ref a_Model_sheets, .ref a_Model_least, .ref a_Model_ways, .int Model_thenCost, .int Model_thenWays, .int Model_bothCost, .int Model_bothWays, .ref a_Model_handOf, .ref a_Model_crossedAt, .ref a_Model_strokeOf, .ref a_Model_prices, .ref a_Model_hitAt, .ref a_Model_carried]))] H := hP
        have hD : va_D A [(a_Model_now, .inl (cI, 187, .inl Model_now)), (a_Model_prices, .inl (cI, 525, .inl y10)), (a_Model_hitAt, .inl (cI, 20, .inl y11)), (a_Model, .inr (11, [.ref a_Model_now, .ref a_Model_past, .int Model_kept, .int y17, .ref a_Model_bits, .ref a_Model_sizes, .ref a_Model_sheets, .ref a_Model_least, .ref a_Model_ways, .int Model_thenCost, .int Model_thenWays, .int Model_bothCost, .int Model_bothWays, .ref a_Model_handOf, .ref a_Model_crossedAt, .ref a_Model_strokeOf, .ref a_Model_prices, .ref a_Model_hitAt, .ref a_Model_carried]))] := hD
        refine lv_goto (tgt := 51) hx hb dX11_read_42 (by decide) ?_
        cases hf
        exact k_iret () hQ9 hx hb hr hlocks rfl (hP.sub [3, 0, 1, 2] rfl) (hD.sub [3, 0, 1, 2] (by decide) rfl) hS (Nat.le_of_ble_eq_true rfl) (Nat.le_of_ble_eq_true rfl) dX11_read_51
    · have hf := ite_t c9 hf
      refine lv_aload_n hx hb dX11_read_15 rfl (lv_at hl 0 rfl) ?_
      refine lv_ldc (v := (-100001)) hx hb hown kc70 dX11_read_16 ?_
      obtain ⟨r19, y20, g21, hf⟩ := b2_s hf
      refine k_Vi (rest := []) ⟨hx, hb, hml, hown, hts⟩ (c_Model_finding l D cI cZ t a_Model a_Model_now a_Model_past a_Model_bits a_Model_sizes a_Model_sheets a_Model_least a_Model_ways a_Model_handOf a_Model_crossedAt a_Model_strokeOf a_Model_prices a_Model_hitAt a_Model_carried H.size Model_findings Model_kept Model_thenCost Model_thenWays Model_bothCost Model_bothWays (-100001) r19 y20 g21) (cwV 1 hts gX11_read_X11_finding rfl rfl rfl (by decide +kernel) ⟨Nat.le_of_ble_eq_true rfl, Nat.le_of_ble_eq_true rfl⟩) hE hP hD hS hA [2] [0, 1, 3] rfl rfl rfl rfl rfl 0 11 rfl rfl rfl rfl hl.1 rfl (Nat.le_of_ble_eq_true rfl) dX11_read_18 ⟨Nat.le_of_ble_eq_true rfl, Nat.le_of_ble_eq_true rfl⟩ (fun rq uq H locs hrq hP hD hS => ?_)
      refine lv_tpx hrq.symm ?_
      have hP : va_P D vwCl [(a_Model_prices, .inl (cI, 525, .inl Model_prices)), (a_Model_hitAt, .inl (cI, 20, .inl Model_hitAt)), (a_Model_now, .inl (cI, 187, .inl Model_now)), (a_Model, .inr (11, [.ref a_Model_now, .ref a_Model_past, .int Model_kept, .int y20, .ref a_Model_bits, .ref a_Model_sizes, .ref a_Model_sheets, .ref a_Model_least, .ref a_Model_ways, .int Model_thenCost, .int Model_thenWays, .int Model_bothCost, .int Model_bothWays, .ref a_Model_handOf, .ref a_Model_crossedAt, .ref a_Model_strokeOf, .ref a_Model_prices, .ref a_Model_hitAt, .ref a_Model_carried]))] H := hP
      have hD : va_D A [(a_Model_prices, .inl (cI, 525, .inl Model_prices)), (a_Model_hitAt, .inl (cI, 20, .inl Model_hitAt)), (a_Model_now, .inl (cI, 187, .inl Model_now)), (a_Model, .inr (11, [.ref a_Model_now, .ref a_Model_past, .int Model_kept, .int y20, .ref a_Model_bits, .ref a_Model_sizes, .ref a_Model_sheets, .ref a_Model_least, .ref a_Model_ways, .int Model_thenCost, .int Model_thenWays, .int Model_bothCost, .int Model_bothWays, .ref a_Model_handOf, .ref a_Model_crossedAt, .ref a_Model_strokeOf, .ref a_Model_prices, .ref a_Model_hitAt, .ref a_Model_carried]))] := hD
      cases hf
      exact k_iret () hQ9 hx hb hr hlocks rfl (hP.sub [3, 2, 0, 1] rfl) (hD.sub [3, 2, 0, 1] (by decide) rfl) hS (Nat.le_of_ble_eq_true rfl) (Nat.le_of_ble_eq_true rfl) dX11_read_21
abbrev rm_Model_late : Room := { frames := 3, cells := 0, slots := 0, locals := 81 }
set_option maxHeartbeats 4000000 in
set_option maxRecDepth 100000 in
theorem c_Model_late (l : Launch) (D : va_G) (cI cZ : ClassId) (t : Nat → Nat) (a_Model a_Model_now a_Model_past a_Model_bits a_Model_sizes a_Model_sheets a_Model_least a_Model_ways a_Model_handOf a_Model_crossedAt a_Model_strokeOf a_Model_prices a_Model_hitAt a_Model_carried sz : Nat) (Model_now : Nat → Int32) (Model_findings : Int32) (Model_prices Model_hitAt : Nat → Int32) (Model_kept Model_thenCost Model_thenWays Model_bothCost Model_bothWays p1 p2 zr z_Model_findings : Int32) (z_Model_prices z_Model_hitAt : Nat → Int32) (hf : f_Model_late Model_now Model_findings Model_prices Model_hitAt p1 p2 = some (zr, z_Model_findings, z_Model_prices, z_Model_hitAt)) : Met l yX11_late wsX11_late rm_Model_late (va_Pc [.ref a_Model, .int p1, .int p2] (pcW D cI cZ t [(a_Model, .inr (11, [.ref a_Model_now, .ref a_Model_past, .int Model_kept, .int Model_findings, .ref a_Model_bits, .ref a_Model_sizes, .ref a_Model_sheets, .ref a_Model_least, .ref a_Model_ways, .int Model_thenCost, .int Model_thenWays, .int Model_bothCost, .int Model_bothWays, .ref a_Model_handOf, .ref a_Model_crossedAt, .ref a_Model_strokeOf, .ref a_Model_prices, .ref a_Model_hitAt, .ref a_Model_carried])), (a_Model_now, .inl (cI, 187, .inl Model_now)), (a_Model_prices, .inl (cI, 525, .inl Model_prices)), (a_Model_hitAt, .inl (cI, 20, .inl Model_hitAt))] sz)) (va_Qi (fun r (u : Unit) => r = zr) (fun u t' => bW D (va_A [(a_Model, .inr (11, [.ref a_Model_now, .ref a_Model_past, .int Model_kept, .int Model_findings, .ref a_Model_bits, .ref a_Model_sizes, .ref a_Model_sheets, .ref a_Model_least, .ref a_Model_ways, .int Model_thenCost, .int Model_thenWays, .int Model_bothCost, .int Model_bothWays, .ref a_Model_handOf, .ref a_Model_crossedAt, .ref a_Model_strokeOf, .ref a_Model_prices, .ref a_Model_hitAt, .ref a_Model_carried])), (a_Model_now, .inl (cI, 187, .inl Model_now)), (a_Model_prices, .inl (cI, 525, .inl Model_prices)), (a_Model_hitAt, .inl (cI, 20, .inl Model_hitAt))] sz) [(a_Model, .inr (11, [.ref a_Model_now, .ref a_Model_past, .int Model_kept, .int z_Model_findings, .ref a_Model_bits, .ref a_Model_sizes, .ref a_Model_sheets, .ref a_Model_least, .ref a_Model_ways, .int Model_thenCost, .int Model_thenWays, .int Model_bothCost, .int Model_bothWays, .ref a_Model_handOf, .ref a_Model_crossedAt, .ref a_Model_strokeOf, .ref a_Model_prices, .ref a_Model_hitAt, .ref a_Model_carried])), (a_Model_now, .inl (cI, 187, .inl Model_now)), (a_Model_prices, .inl (cI, 525, .inl z_Model_prices)), (a_Model_hitAt, .inl (cI, 20, .inl z_Model_hitAt))] t') (va_A [(a_Model, .inr (11, [.ref a_Model_now, .ref a_Model_past, .int Model_kept, .int Model_findings, .ref a_Model_bits, .ref a_Model_sizes, .ref a_Model_sheets, .ref a_Model_least, .ref a_Model_ways, .int Model_thenCost, .int Model_thenWays, .int Model_bothCost, .int Model_bothWays, .ref a_Model_handOf, .ref a_Model_crossedAt, .ref a_Model_strokeOf, .ref a_Model_prices, .ref a_Model_hitAt, .ref a_Model_carried])), (a_Model_now, .inl (cI, 187, .inl Model_now)), (a_Model_prices, .inl (cI, 525, .inl Model_prices)), (a_Model_hitAt, .inl (cI, 20, .inl Model_hitAt))] sz)) 0 0 (va_A [(a_Model, .inr (11, [.ref a_Model_now, .ref a_Model_past, .int Model_kept, .int Model_findings, .ref a_Model_bits, .ref a_Model_sizes, .ref a_Model_sheets, .ref a_Model_least, .ref a_Model_ways, .int Model_thenCost, .int Model_thenWays, .int Model_bothCost, .int Model_bothWays, .ref a_Model_handOf, .ref a_Model_crossedAt, .ref a_Model_strokeOf, .ref a_Model_prices, .ref a_Model_hitAt, .ref a_Model_carried])), (a_Model_now, .inl (cI, 187, .inl Model_now)), (a_Model_prices, .inl (cI, 525, .inl Model_prices)), (a_Model_hitAt, .inl (cI, 20, .inl Model_hitAt))] sz) := by
  refine Met.ofW (cc := cX11_late) (maxL := 3) (ret := (some .int)) (by decide) rfl ?_
  intro p e s m args below meth c s₁ B hml hv
  obtain ⟨rfl, hsz, hP, hD0, hE⟩ := hv
  have hx := B.exec
  have hb := B.bytes
  have hr := B.returns
  have hts := atoms_spec (ws := wsX11_late) B.pre
  have hown : s.vm.findClass RX11 = some m.cls := findClass_of_methodNamed B.named
  have hlocks := B.notSynchronized
  subst hsz
  have hD := hD0.self (sz := s.heap.size)
  generalize hAe : va_A [(a_Model, .inr (11, [.ref a_Model_now, .ref a_Model_past, .int Model_kept, .int Model_findings, .ref a_Model_bits, .ref a_Model_sizes, .ref a_Model_sheets, .ref a_Model_least, .ref a_Model_ways, .int Model_thenCost, .int Model_thenWays, .int Model_bothCost, .int Model_bothWays, .ref a_Model_handOf, .ref a_Model_crossedAt, .ref a_Model_strokeOf, .ref a_Model_prices, .ref a_Model_hitAt, .ref a_Model_carried])), (a_Model_now, .inl (cI, 187, .inl Model_now)), (a_Model_prices, .inl (cI, 525, .inl Model_prices)), (a_Model_hitAt, .inl (cI, 20, .inl Model_hitAt))] s.heap.size = A at hD hE ⊢
  have hA : ∀ q : Nat, s.heap.size ≤ q → A q := fun q h => by rw [← hAe]; exact Or.inr h
  clear hAe hD0
  have hS : va_S A s.heap s.heap [] := va_S.rf
  have hK := hE.1
  have hl := lv_entry ([.ref a_Model, .int p1, .int p2]) (n := 3) (Nat.le_of_ble_eq_true rfl)
  rw [lg_entry_eq]
  generalize (lg_sl ([.ref a_Model, .int p1, .int p2]) ++ List.replicate (3 - (lg_sl ([.ref a_Model, .int p1, .int p2])).length) Slot.unset).toArray = ls at hl ⊢
  have hl : lv_has ls 3 [(0, .ref a_Model), (1, .int p1), (2, .int p2)] := hl
  refine w_q (fun Q9 hQ9 => ?_)
  have kc70 := hts (.constant RX11 70 (-100001)) (by decide +kernel)
  have fl44 := hts (.fieldLink RX11 44 "StickRoomModel" "hitAt" "[I") (by decide +kernel)
  have inX11 : ∀ w ∈ wsX110, w ∈ wsX11_late := by decide +kernel
  have fl9 := hts (.fieldLink RX11 9 "StickRoomModel" "now" "[I") (by decide +kernel)
  have kc61 := hts (.constant RX11 61 (-100006)) (by decide +kernel)
  unfold f_Model_late at hf
  refine lv_iload_n hx hb dX11_late_0 rfl (lv_at hl 1 rfl) ?_
  obtain ⟨r1, g2, hf⟩ := b1_s hf
  refine k_Si (rest := []) ⟨hx, hb, hml, hown, hts⟩ (c_Model_isPlayer l D cI cZ t  s.heap.size p1 r1 g2) (va_cwS 1 hts gX11_late_X11_isPlayer rfl rfl rfl (by decide +kernel) ⟨Nat.le_of_ble_eq_true rfl, Nat.le_of_ble_eq_true rfl⟩) hE hP hD hS hA [] [0, 1, 2, 3] rfl rfl rfl rfl rfl rfl hl.1 rfl (Nat.le_of_ble_eq_true rfl) dX11_late_1 ⟨Nat.le_of_ble_eq_true rfl, Nat.le_of_ble_eq_true rfl⟩ (fun rq uq H locs hrq hP hD hS => ?_)
  refine lv_tpx hrq.symm ?_
  have hP : va_P D vwCl [(a_Model, .inr (11, [.ref a_Model_now, .ref a_Model_past, .int Model_kept, .int Model_findings, .ref a_Model_bits, .ref a_Model_sizes, .ref a_Model_sheets, .ref a_Model_least, .ref a_Model_ways, .int Model_thenCost, .int Model_thenWays, .int Model_bothCost, .int Model_bothWays, .ref a_Model_handOf, .ref a_Model_crossedAt, .ref a_Model_strokeOf, .ref a_Model_prices, .ref a_Model_hitAt, .ref a_Model_carried])), (a_Model_now, .inl (cI, 187, .inl Model_now)), (a_Model_prices, .inl (cI, 525, .inl Model_prices)), (a_Model_hitAt, .inl (cI, 20, .inl Model_hitAt))] H := hP
  have hD : va_D A [(a_Model, .inr (11, [.ref a_Model_now, .ref a_Model_past, .int Model_kept, .int Model_findings, .ref a_Model_bits, .ref a_Model_sizes, .ref a_Model_sheets, .ref a_Model_least, .ref a_Model_ways, .int Model_thenCost, .int Model_thenWays, .int Model_bothCost, .int Model_bothWays, .ref a_Model_handOf, .ref a_Model_crossedAt, .ref a_Model_strokeOf, .ref a_Model_prices, .ref a_Model_hitAt, .ref a_Model_carried])), (a_Model_now, .inl (cI, 187, .inl Model_now)), (a_Model_prices, .inl (cI, 525, .inl Model_prices)), (a_Model_hitAt, .inl (cI, 20, .inl Model_hitAt))] := hD
  refine lv_if_eq (tgt := 15) hx hb dX11_late_4 (by decide) (fun c3 => ?_) (fun c3 => ?_)
  · have hf := ite_t c3 hf
    refine lv_aload_n hx hb dX11_late_15 rfl (lv_at hl 0 rfl) ?_
    refine lv_ldc (v := (-100001)) hx hb hown kc70 dX11_late_16 ?_
    obtain ⟨r4, y5, g6, hf⟩ := b2_s hf
    refine k_Vi (rest := []) ⟨hx, hb, hml, hown, hts⟩ (c_Model_finding l D cI cZ t a_Model a_Model_now a_Model_past a_Model_bits a_Model_sizes a_Model_sheets a_Model_least a_Model_ways a_Model_handOf a_Model_crossedAt a_Model_strokeOf a_Model_prices a_Model_hitAt a_Model_carried H.size Model_findings Model_kept Model_thenCost Model_thenWays Model_bothCost Model_bothWays (-100001) r4 y5 g6) (cwV 1 hts gX11_late_X11_finding rfl rfl rfl (by decide +kernel) ⟨Nat.le_of_ble_eq_true rfl, Nat.le_of_ble_eq_true rfl⟩) hE hP hD hS hA [0] [1, 2, 3] rfl rfl rfl rfl rfl 0 11 rfl rfl rfl rfl hl.1 rfl (Nat.le_of_ble_eq_true rfl) dX11_late_18 ⟨Nat.le_of_ble_eq_true rfl, Nat.le_of_ble_eq_true rfl⟩ (fun rq uq H locs hrq hP hD hS => ?_)
    refine lv_tpx hrq.symm ?_
    have hP : va_P D vwCl [(a_Model_now, .inl (cI, 187, .inl Model_now)), (a_Model_prices, .inl (cI, 525, .inl Model_prices)), (a_Model_hitAt, .inl (cI, 20, .inl Model_hitAt)), (a_Model, .inr (11, [.ref a_Model_now, .ref a_Model_past, .int Model_kept, .int y5, .ref a_Model_bits, .ref a_Model_sizes, .ref a_Model_sheets, .ref a_Model_least, .ref a_Model_ways, .int Model_thenCost, .int Model_thenWays, .int Model_bothCost, .int Model_bothWays, .ref a_Model_handOf, .ref a_Model_crossedAt, .ref a_Model_strokeOf, .ref a_Model_prices, .ref a_Model_hitAt, .ref a_Model_carried]))] H := hP
    have hD : va_D A [(a_Model_now, .inl (cI, 187, .inl Model_now)), (a_Model_prices, .inl (cI, 525, .inl Model_prices)), (a_Model_hitAt, .inl (cI, 20, .inl Model_hitAt)), (a_Model, .inr (11, [.ref a_Model_now, .ref a_Model_past, .int Model_kept, .int y5, .ref a_Model_bits, .ref a_Model_sizes, .ref a_Model_sheets, .ref a_Model_least, .ref a_Model_ways, .int Model_thenCost, .int Model_thenWays, .int Model_bothCost, .int Model_bothWays, .ref a_Model_handOf, .ref a_Model_crossedAt, .ref a_Model_strokeOf, .ref a_Model_prices, .ref a_Model_hitAt, .ref a_Model_carried]))] := hD
    cases hf
    exact k_iret () hQ9 hx hb hr hlocks rfl (hP.sub [3, 0, 1, 2] rfl) (hD.sub [3, 0, 1, 2] (by decide) rfl) hS (Nat.le_of_ble_eq_true rfl) (Nat.le_of_ble_eq_true rfl) dX11_late_21
  · have hf := ite_f c3 hf
    refine lv_aload_n hx hb dX11_late_7 rfl (lv_at hl 0 rfl) ?_
    refine lv_iload_n hx hb dX11_late_8 rfl (lv_at hl 2 rfl) ?_
    obtain ⟨r7, g8, hf⟩ := b1_s hf
    refine k_Vi (rest := []) ⟨hx, hb, hml, hown, hts⟩ (c_Model_isNote l D cI cZ t a_Model a_Model_now a_Model_past a_Model_bits a_Model_sizes a_Model_sheets a_Model_least a_Model_ways a_Model_handOf a_Model_crossedAt a_Model_strokeOf a_Model_prices a_Model_hitAt a_Model_carried H.size Model_now Model_kept Model_findings Model_thenCost Model_thenWays Model_bothCost Model_bothWays p2 r7 g8) (cwV 1 hts gX11_late_X11_isNote rfl rfl rfl (by decide +kernel) ⟨Nat.le_of_ble_eq_true rfl, Nat.le_of_ble_eq_true rfl⟩) hE hP hD hS hA [0, 1] [2, 3] rfl rfl rfl rfl rfl 0 11 rfl rfl rfl rfl hl.1 rfl (Nat.le_of_ble_eq_true rfl) dX11_late_9 ⟨Nat.le_of_ble_eq_true rfl, Nat.le_of_ble_eq_true rfl⟩ (fun rq uq H locs hrq hP hD hS => ?_)
    refine lv_tpx hrq.symm ?_
    have hP : va_P D vwCl [(a_Model_prices, .inl (cI, 525, .inl Model_prices)), (a_Model_hitAt, .inl (cI, 20, .inl Model_hitAt)), (a_Model, .inr (11, [.ref a_Model_now, .ref a_Model_past, .int Model_kept, .int Model_findings, .ref a_Model_bits, .ref a_Model_sizes, .ref a_Model_sheets, .ref a_Model_least, .ref a_Model_ways, .int Model_thenCost, .int Model_thenWays, .int Model_bothCost, .int Model_bothWays, .ref a_Model_handOf, .ref a_Model_crossedAt, .ref a_Model_strokeOf, .ref a_Model_prices, .ref a_Model_hitAt, .ref a_Model_carried])), (a_Model_now, .inl (cI, 187, .inl Model_now))] H := hP
    have hD : va_D A [(a_Model_prices, .inl (cI, 525, .inl Model_prices)), (a_Model_hitAt, .inl (cI, 20, .inl Model_hitAt)), (a_Model, .inr (11, [.ref a_Model_now, .ref a_Model_past, .int Model_kept, .int Model_findings, .ref a_Model_bits, .ref a_Model_sizes, .ref a_Model_sheets, .ref a_Model_least, .ref a_Model_ways, .int Model_thenCost, .int Model_thenWays, .int Model_bothCost, .int Model_bothWays, .ref a_Model_handOf, .ref a_Model_crossedAt, .ref a_Model_strokeOf, .ref a_Model_prices, .ref a_Model_hitAt, .ref a_Model_carried])), (a_Model_now, .inl (cI, 187, .inl Model_now))] := hD
    refine lv_if_ne (tgt := 22) hx hb dX11_late_12 (by decide) (fun c9 => ?_) (fun c9 => ?_)
    · have hf := ite_f c9 hf
      refine lv_aload_n hx hb dX11_late_22 rfl (lv_at hl 0 rfl) ?_
      refine lv_iload_n hx hb dX11_late_23 rfl (lv_at hl 1 rfl) ?_
      obtain ⟨y10, y11, g12, hf⟩ := b2_s hf
      refine k_Vv (rest := []) ⟨hx, hb, hml, hown, hts⟩ (c_Model_findReading l D cI cZ t a_Model a_Model_now a_Model_past a_Model_bits a_Model_sizes a_Model_sheets a_Model_least a_Model_ways a_Model_handOf a_Model_crossedAt a_Model_strokeOf a_Model_prices a_Model_hitAt a_Model_carried H.size Model_now Model_prices Model_hitAt Model_kept Model_findings Model_thenCost Model_thenWays Model_bothCost Model_bothWays p1 y10 y11 g12) (cwV 1 hts gX11_late_X11_findReading rfl rfl rfl (by decide +kernel) ⟨Nat.le_of_ble_eq_true rfl, Nat.le_of_ble_eq_true rfl⟩) hE hP hD hS hA [2, 3, 0, 1] [] rfl rfl rfl rfl rfl 0 11 rfl rfl rfl rfl hl.1 rfl (Nat.le_of_ble_eq_true rfl) dX11_late_24 ⟨Nat.le_of_ble_eq_true rfl, Nat.le_of_ble_eq_true rfl⟩ (fun uq H locs hrq hP hD hS => ?_)
      have hP : va_P D vwCl [(a_Model, .inr (11, [.ref a_Model_now, .ref a_Model_past, .int Model_kept, .int Model_findings, .ref a_Model_bits, .ref a_Model_sizes, .ref a_Model_sheets, .ref a_Model_least, .ref a_Model_ways, .int Model_thenCost, .int Model_thenWays, .int Model_bothCost, .int Model_bothWays, .ref a_Model_handOf, .ref a_Model_crossedAt, .ref a_Model_strokeOf, .ref a_Model_prices, .ref a_Model_hitAt, .ref a_Model_carried])), (a_Model_now, .inl (cI, 187, .inl Model_now)), (a_Model_prices, .inl (cI, 525, .inl y10)), (a_Model_hitAt, .inl (cI, 20, .inl y11))] H := hP
      have hD : va_D A [(a_Model, .inr (11, [.ref a_Model_now, .ref a_Model_past, .int Model_kept, .int Model_findings, .ref a_Model_bits, .ref a_Model_sizes, .ref a_Model_sheets, .ref a_Model_least, .ref a_Model_ways, .int Model_thenCost, .int Model_thenWays, .int Model_bothCost, .int Model_bothWays, .ref a_Model_handOf, .ref a_Model_crossedAt, .ref a_Model_strokeOf, .ref a_Model_prices, .ref a_Model_hitAt, .ref a_Model_carried])), (a_Model_now, .inl (cI, 187, .inl Model_now)), (a_Model_prices, .inl (cI, 525, .inl y10)), (a_Model_hitAt, .inl (cI, 20, .inl y11))] := hD
      refine lv_aload_n hx hb dX11_late_27 rfl (lv_at hl 0 rfl) ?_
      refine va_get (D := D) (ci := 11) (v := .ref a_Model_hitAt) (C := RX11) (T := TX11) (N := 19) hx hb hts inX11 hown hK hP 0 rfl rfl 17 (by decide) fl44 (fun _ h9 => h9) rfl dX11_late_28 ?_
      refine lv_iload_n hx hb dX11_late_31 rfl (lv_at hl 2 rfl) ?_
      obtain ⟨ix13, x13, ex13, hf⟩ := rd_s hf
      refine va_iald hx hb hK hP 3 0 rfl rfl ix13 dX11_late_32 ?_
      refine lv_tpx ex13 ?_
      refine lv_if_ge (tgt := 45) hx hb dX11_late_33 (by decide) (fun c14 => ?_) (fun c14 => ?_)
      · have hf := ite_t c14 hf
        refine lv_aload_n hx hb dX11_late_45 rfl (lv_at hl 0 rfl) ?_
        refine lv_iload_n hx hb dX11_late_46 rfl (lv_at hl 1 rfl) ?_
        refine lv_aload_n hx hb dX11_late_47 rfl (lv_at hl 0 rfl) ?_
        refine va_get (D := D) (ci := 11) (v := .ref a_Model_hitAt) (C := RX11) (T := TX11) (N := 19) hx hb hts inX11 hown hK hP 0 rfl rfl 17 (by decide) fl44 (fun _ h9 => h9) rfl dX11_late_48 ?_
        refine lv_iload_n hx hb dX11_late_51 rfl (lv_at hl 2 rfl) ?_
        obtain ⟨ix15, x15, ex15, hf⟩ := rd_s hf
        refine va_iald hx hb hK hP 3 0 rfl rfl ix15 dX11_late_52 ?_
        refine lv_tpx ex15 ?_
        obtain ⟨r16, g17, hf⟩ := b1_s hf
        refine k_Vi (rest := []) ⟨hx, hb, hml, hown, hts⟩ (c_Model_hitOf l D cI cZ t a_Model a_Model_now a_Model_past a_Model_bits a_Model_sizes a_Model_sheets a_Model_least a_Model_ways a_Model_handOf a_Model_crossedAt a_Model_strokeOf a_Model_prices a_Model_hitAt a_Model_carried H.size Model_now Model_kept Model_findings Model_thenCost Model_thenWays Model_bothCost Model_bothWays p1 x15 r16 g17) (cwV 2 hts gX11_late_X11_hitOf rfl rfl rfl (by decide +kernel) ⟨Nat.le_of_ble_eq_true rfl, Nat.le_of_ble_eq_true rfl⟩) hE hP hD hS hA [0, 1] [2, 3] rfl rfl rfl rfl rfl 0 11 rfl rfl rfl rfl hl.1 rfl (Nat.le_of_ble_eq_true rfl) dX11_late_53 ⟨Nat.le_of_ble_eq_true rfl, Nat.le_of_ble_eq_true rfl⟩ (fun rq uq H locs hrq hP hD hS => ?_)
        refine lv_tpx hrq.symm ?_
        have hP : va_P D vwCl [(a_Model_prices, .inl (cI, 525, .inl y10)), (a_Model_hitAt, .inl (cI, 20, .inl y11)), (a_Model, .inr (11, [.ref a_Model_now, .ref a_Model_past, .int Model_kept, .int Model_findings, .ref a_Model_bits, .ref a_Model_sizes, .ref a_Model_sheets, .ref a_Model_least, .ref a_Model_ways, .int Model_thenCost, .int Model_thenWays, .int Model_bothCost, .int Model_bothWays, .ref a_Model_handOf, .ref a_Model_crossedAt, .ref a_Model_strokeOf, .ref a_Model_prices, .ref a_Model_hitAt, .ref a_Model_carried])), (a_Model_now, .inl (cI, 187, .inl Model_now))] H := hP
        have hD : va_D A [(a_Model_prices, .inl (cI, 525, .inl y10)), (a_Model_hitAt, .inl (cI, 20, .inl y11)), (a_Model, .inr (11, [.ref a_Model_now, .ref a_Model_past, .int Model_kept, .int Model_findings, .ref a_Model_bits, .ref a_Model_sizes, .ref a_Model_sheets, .ref a_Model_least, .ref a_Model_ways, .int Model_thenCost, .int Model_thenWays, .int Model_bothCost, .int Model_bothWays, .ref a_Model_handOf, .ref a_Model_crossedAt, .ref a_Model_strokeOf, .ref a_Model_prices, .ref a_Model_hitAt, .ref a_Model_carried])), (a_Model_now, .inl (cI, 187, .inl Model_now))] := hD
        refine lv_aload_n hx hb dX11_late_56 rfl (lv_at hl 0 rfl) ?_
        refine va_get (D := D) (ci := 11) (v := .ref a_Model_now) (C := RX11) (T := TX11) (N := 19) hx hb hts inX11 hown hK hP 2 rfl rfl 0 (by decide) fl9 (fun _ h9 => h9) rfl dX11_late_57 ?_
        refine lv_bipush (v := 27) hx hb dX11_late_60 (by decide) ?_
        refine lv_iload_n hx hb dX11_late_62 rfl (lv_at hl 2 rfl) ?_
        refine lv_iadd hx hb dX11_late_63 ?_
        obtain ⟨ix18, x18, ex18, hf⟩ := rd_s hf
        refine va_iald hx hb hK hP 3 0 rfl rfl ix18 dX11_late_64 ?_
        refine lv_tpx ex18 ?_
        refine lv_isub hx hb dX11_late_65 ?_
        cases hf
        exact k_iret () hQ9 hx hb hr hlocks rfl (hP.sub [2, 3, 0, 1] rfl) (hD.sub [2, 3, 0, 1] (by decide) rfl) hS (Nat.le_of_ble_eq_true rfl) (Nat.le_of_ble_eq_true rfl) dX11_late_66
      · have hf := ite_f c14 hf
        refine lv_aload_n hx hb dX11_late_36 rfl (lv_at hl 0 rfl) ?_
        refine lv_ldc (v := (-100006)) hx hb hown kc61 dX11_late_37 ?_
        obtain ⟨r19, y20, g21, hf⟩ := b2_s hf
        refine k_Vi (rest := []) ⟨hx, hb, hml, hown, hts⟩ (c_Model_finding l D cI cZ t a_Model a_Model_now a_Model_past a_Model_bits a_Model_sizes a_Model_sheets a_Model_least a_Model_ways a_Model_handOf a_Model_crossedAt a_Model_strokeOf a_Model_prices a_Model_hitAt a_Model_carried H.size Model_findings Model_kept Model_thenCost Model_thenWays Model_bothCost Model_bothWays (-100006) r19 y20 g21) (cwV 1 hts gX11_late_X11_finding rfl rfl rfl (by decide +kernel) ⟨Nat.le_of_ble_eq_true rfl, Nat.le_of_ble_eq_true rfl⟩) hE hP hD hS hA [0] [1, 2, 3] rfl rfl rfl rfl rfl 0 11 rfl rfl rfl rfl hl.1 rfl (Nat.le_of_ble_eq_true rfl) dX11_late_39 ⟨Nat.le_of_ble_eq_true rfl, Nat.le_of_ble_eq_true rfl⟩ (fun rq uq H locs hrq hP hD hS => ?_)
        refine lv_tpx hrq.symm ?_
        have hP : va_P D vwCl [(a_Model_now, .inl (cI, 187, .inl Model_now)), (a_Model_prices, .inl (cI, 525, .inl y10)), (a_Model_hitAt, .inl (cI, 20, .inl y11)), (a_Model, .inr (11, [.ref a_Model_now, .ref a_Model_past, .int Model_kept, .int y20, .ref a_Model_bits, .ref a_Model_sizes, .ref a_Model_sheets, .ref a_Model_least, .ref a_Model_ways, .int Model_thenCost, .int Model_thenWays, .int Model_bothCost, .int Model_bothWays, .ref a_Model_handOf, .ref a_Model_crossedAt, .ref a_Model_strokeOf, .ref a_Model_prices, .ref a_Model_hitAt, .ref a_Model_carried]))] H := hP
        have hD : va_D A [(a_Model_now, .inl (cI, 187, .inl Model_now)), (a_Model_prices, .inl (cI, 525, .inl y10)), (a_Model_hitAt, .inl (cI, 20, .inl y11)), (a_Model, .inr (11, [.ref a_Model_now, .ref a_Model_past, .int Model_kept, .int y20, .ref a_Model_bits, .ref a_Model_sizes, .ref a_Model_sheets, .ref a_Model_least, .ref a_Model_ways, .int Model_thenCost, .int Model_thenWays, .int Model_bothCost, .int Model_bothWays, .ref a_Model_handOf, .ref a_Model_crossedAt, .ref a_Model_strokeOf, .ref a_Model_prices, .ref a_Model_hitAt, .ref a_Model_carried]))] := hD
        refine lv_goto (tgt := 66) hx hb dX11_late_42 (by decide) ?_
        cases hf
        exact k_iret () hQ9 hx hb hr hlocks rfl (hP.sub [3, 0, 1, 2] rfl) (hD.sub [3, 0, 1, 2] (by decide) rfl) hS (Nat.le_of_ble_eq_true rfl) (Nat.le_of_ble_eq_true rfl) dX11_late_66
    · have hf := ite_t c9 hf
      refine lv_aload_n hx hb dX11_late_15 rfl (lv_at hl 0 rfl) ?_
      refine lv_ldc (v := (-100001)) hx hb hown kc70 dX11_late_16 ?_
      obtain ⟨r22, y23, g24, hf⟩ := b2_s hf
      refine k_Vi (rest := []) ⟨hx, hb, hml, hown, hts⟩ (c_Model_finding l D cI cZ t a_Model a_Model_now a_Model_past a_Model_bits a_Model_sizes a_Model_sheets a_Model_least a_Model_ways a_Model_handOf a_Model_crossedAt a_Model_strokeOf a_Model_prices a_Model_hitAt a_Model_carried H.size Model_findings Model_kept Model_thenCost Model_thenWays Model_bothCost Model_bothWays (-100001) r22 y23 g24) (cwV 1 hts gX11_late_X11_finding rfl rfl rfl (by decide +kernel) ⟨Nat.le_of_ble_eq_true rfl, Nat.le_of_ble_eq_true rfl⟩) hE hP hD hS hA [2] [0, 1, 3] rfl rfl rfl rfl rfl 0 11 rfl rfl rfl rfl hl.1 rfl (Nat.le_of_ble_eq_true rfl) dX11_late_18 ⟨Nat.le_of_ble_eq_true rfl, Nat.le_of_ble_eq_true rfl⟩ (fun rq uq H locs hrq hP hD hS => ?_)
      refine lv_tpx hrq.symm ?_
      have hP : va_P D vwCl [(a_Model_prices, .inl (cI, 525, .inl Model_prices)), (a_Model_hitAt, .inl (cI, 20, .inl Model_hitAt)), (a_Model_now, .inl (cI, 187, .inl Model_now)), (a_Model, .inr (11, [.ref a_Model_now, .ref a_Model_past, .int Model_kept, .int y23, .ref a_Model_bits, .ref a_Model_sizes, .ref a_Model_sheets, .ref a_Model_least, .ref a_Model_ways, .int Model_thenCost, .int Model_thenWays, .int Model_bothCost, .int Model_bothWays, .ref a_Model_handOf, .ref a_Model_crossedAt, .ref a_Model_strokeOf, .ref a_Model_prices, .ref a_Model_hitAt, .ref a_Model_carried]))] H := hP
      have hD : va_D A [(a_Model_prices, .inl (cI, 525, .inl Model_prices)), (a_Model_hitAt, .inl (cI, 20, .inl Model_hitAt)), (a_Model_now, .inl (cI, 187, .inl Model_now)), (a_Model, .inr (11, [.ref a_Model_now, .ref a_Model_past, .int Model_kept, .int y23, .ref a_Model_bits, .ref a_Model_sizes, .ref a_Model_sheets, .ref a_Model_least, .ref a_Model_ways, .int Model_thenCost, .int Model_thenWays, .int Model_bothCost, .int Model_bothWays, .ref a_Model_handOf, .ref a_Model_crossedAt, .ref a_Model_strokeOf, .ref a_Model_prices, .ref a_Model_hitAt, .ref a_Model_carried]))] := hD
      cases hf
      exact k_iret () hQ9 hx hb hr hlocks rfl (hP.sub [3, 2, 0, 1] rfl) (hD.sub [3, 2, 0, 1] (by decide) rfl) hS (Nat.le_of_ble_eq_true rfl) (Nat.le_of_ble_eq_true rfl) dX11_late_21
abbrev rm_Model_missed : Room := { frames := 3, cells := 0, slots := 0, locals := 81 }
set_option maxHeartbeats 4000000 in
set_option maxRecDepth 100000 in
theorem c_Model_missed (l : Launch) (D : va_G) (cI cZ : ClassId) (t : Nat → Nat) (a_Model a_Model_now a_Model_past a_Model_bits a_Model_sizes a_Model_sheets a_Model_least a_Model_ways a_Model_handOf a_Model_crossedAt a_Model_strokeOf a_Model_prices a_Model_hitAt a_Model_carried sz : Nat) (Model_now : Nat → Int32) (Model_findings : Int32) (Model_prices Model_hitAt : Nat → Int32) (Model_kept Model_thenCost Model_thenWays Model_bothCost Model_bothWays p1 p2 zr z_Model_findings : Int32) (z_Model_prices z_Model_hitAt : Nat → Int32) (hf : f_Model_missed Model_now Model_findings Model_prices Model_hitAt p1 p2 = some (zr, z_Model_findings, z_Model_prices, z_Model_hitAt)) : Met l yX11_missed wsX11_missed rm_Model_missed (va_Pc [.ref a_Model, .int p1, .int p2] (pcW D cI cZ t [(a_Model, .inr (11, [.ref a_Model_now, .ref a_Model_past, .int Model_kept, .int Model_findings, .ref a_Model_bits, .ref a_Model_sizes, .ref a_Model_sheets, .ref a_Model_least, .ref a_Model_ways, .int Model_thenCost, .int Model_thenWays, .int Model_bothCost, .int Model_bothWays, .ref a_Model_handOf, .ref a_Model_crossedAt, .ref a_Model_strokeOf, .ref a_Model_prices, .ref a_Model_hitAt, .ref a_Model_carried])), (a_Model_now, .inl (cI, 187, .inl Model_now)), (a_Model_prices, .inl (cI, 525, .inl Model_prices)), (a_Model_hitAt, .inl (cI, 20, .inl Model_hitAt))] sz)) (va_Qi (fun r (u : Unit) => r = zr) (fun u t' => bW D (va_A [(a_Model, .inr (11, [.ref a_Model_now, .ref a_Model_past, .int Model_kept, .int Model_findings, .ref a_Model_bits, .ref a_Model_sizes, .ref a_Model_sheets, .ref a_Model_least, .ref a_Model_ways, .int Model_thenCost, .int Model_thenWays, .int Model_bothCost, .int Model_bothWays, .ref a_Model_handOf, .ref a_Model_crossedAt, .ref a_Model_strokeOf, .ref a_Model_prices, .ref a_Model_hitAt, .ref a_Model_carried])), (a_Model_now, .inl (cI, 187, .inl Model_now)), (a_Model_prices, .inl (cI, 525, .inl Model_prices)), (a_Model_hitAt, .inl (cI, 20, .inl Model_hitAt))] sz) [(a_Model, .inr (11, [.ref a_Model_now, .ref a_Model_past, .int Model_kept, .int z_Model_findings, .ref a_Model_bits, .ref a_Model_sizes, .ref a_Model_sheets, .ref a_Model_least, .ref a_Model_ways, .int Model_thenCost, .int Model_thenWays, .int Model_bothCost, .int Model_bothWays, .ref a_Model_handOf, .ref a_Model_crossedAt, .ref a_Model_strokeOf, .ref a_Model_prices, .ref a_Model_hitAt, .ref a_Model_carried])), (a_Model_now, .inl (cI, 187, .inl Model_now)), (a_Model_prices, .inl (cI, 525, .inl z_Model_prices)), (a_Model_hitAt, .inl (cI, 20, .inl z_Model_hitAt))] t') (va_A [(a_Model, .inr (11, [.ref a_Model_now, .ref a_Model_past, .int Model_kept, .int Model_findings, .ref a_Model_bits, .ref a_Model_sizes, .ref a_Model_sheets, .ref a_Model_least, .ref a_Model_ways, .int Model_thenCost, .int Model_thenWays, .int Model_bothCost, .int Model_bothWays, .ref a_Model_handOf, .ref a_Model_crossedAt, .ref a_Model_strokeOf, .ref a_Model_prices, .ref a_Model_hitAt, .ref a_Model_carried])), (a_Model_now, .inl (cI, 187, .inl Model_now)), (a_Model_prices, .inl (cI, 525, .inl Model_prices)), (a_Model_hitAt, .inl (cI, 20, .inl Model_hitAt))] sz)) 0 0 (va_A [(a_Model, .inr (11, [.ref a_Model_now, .ref a_Model_past, .int Model_kept, .int Model_findings, .ref a_Model_bits, .ref a_Model_sizes, .ref a_Model_sheets, .ref a_Model_least, .ref a_Model_ways, .int Model_thenCost, .int Model_thenWays, .int Model_bothCost, .int Model_bothWays, .ref a_Model_handOf, .ref a_Model_crossedAt, .ref a_Model_strokeOf, .ref a_Model_prices, .ref a_Model_hitAt, .ref a_Model_carried])), (a_Model_now, .inl (cI, 187, .inl Model_now)), (a_Model_prices, .inl (cI, 525, .inl Model_prices)), (a_Model_hitAt, .inl (cI, 20, .inl Model_hitAt))] sz) := by
  refine Met.ofW (cc := cX11_missed) (maxL := 5) (ret := (some .int)) (by decide) rfl ?_
  intro p e s m args below meth c s₁ B hml hv
  obtain ⟨rfl, hsz, hP, hD0, hE⟩ := hv
  have hx := B.exec
  have hb := B.bytes
  have hr := B.returns
  have hts := atoms_spec (ws := wsX11_missed) B.pre
  have hown : s.vm.findClass RX11 = some m.cls := findClass_of_methodNamed B.named
  have hlocks := B.notSynchronized
  subst hsz
  have hD := hD0.self (sz := s.heap.size)
  generalize hAe : va_A [(a_Model, .inr (11, [.ref a_Model_now, .ref a_Model_past, .int Model_kept, .int Model_findings, .ref a_Model_bits, .ref a_Model_sizes, .ref a_Model_sheets, .ref a_Model_least, .ref a_Model_ways, .int Model_thenCost, .int Model_thenWays, .int Model_bothCost, .int Model_bothWays, .ref a_Model_handOf, .ref a_Model_crossedAt, .ref a_Model_strokeOf, .ref a_Model_prices, .ref a_Model_hitAt, .ref a_Model_carried])), (a_Model_now, .inl (cI, 187, .inl Model_now)), (a_Model_prices, .inl (cI, 525, .inl Model_prices)), (a_Model_hitAt, .inl (cI, 20, .inl Model_hitAt))] s.heap.size = A at hD hE ⊢
  have hA : ∀ q : Nat, s.heap.size ≤ q → A q := fun q h => by rw [← hAe]; exact Or.inr h
  clear hAe hD0
  have hS : va_S A s.heap s.heap [] := va_S.rf
  have hK := hE.1
  have hl := lv_entry ([.ref a_Model, .int p1, .int p2]) (n := 5) (Nat.le_of_ble_eq_true rfl)
  rw [lg_entry_eq]
  generalize (lg_sl ([.ref a_Model, .int p1, .int p2]) ++ List.replicate (5 - (lg_sl ([.ref a_Model, .int p1, .int p2])).length) Slot.unset).toArray = ls at hl ⊢
  have hl : lv_has ls 5 [(0, .ref a_Model), (1, .int p1), (2, .int p2)] := hl
  refine w_q (fun Q9 hQ9 => ?_)
  have fl9 := hts (.fieldLink RX11 9 "StickRoomModel" "now" "[I") (by decide +kernel)
  have inX11 : ∀ w ∈ wsX110, w ∈ wsX11_missed := by decide +kernel
  have fl44 := hts (.fieldLink RX11 44 "StickRoomModel" "hitAt" "[I") (by decide +kernel)
  have kc70 := hts (.constant RX11 70 (-100001)) (by decide +kernel)
  have hL24 : ∀ (n24 : Nat) (l1 l2 l3 l4 Model_findings : Int32) (Model_prices Model_hitAt : Nat → Int32) (H : Heap) (locs : List Loc) (ls : Array Slot), va_P D vwCl [(a_Model, .inr (11, [.ref a_Model_now, .ref a_Model_past, .int Model_kept, .int Model_findings, .ref a_Model_bits, .ref a_Model_sizes, .ref a_Model_sheets, .ref a_Model_least, .ref a_Model_ways, .int Model_thenCost, .int Model_thenWays, .int Model_bothCost, .int Model_bothWays, .ref a_Model_handOf, .ref a_Model_crossedAt, .ref a_Model_strokeOf, .ref a_Model_prices, .ref a_Model_hitAt, .ref a_Model_carried])), (a_Model_now, .inl (cI, 187, .inl Model_now)), (a_Model_prices, .inl (cI, 525, .inl Model_prices)), (a_Model_hitAt, .inl (cI, 20, .inl Model_hitAt))] H → va_D A [(a_Model, .inr (11, [.ref a_Model_now, .ref a_Model_past, .int Model_kept, .int Model_findings, .ref a_Model_bits, .ref a_Model_sizes, .ref a_Model_sheets, .ref a_Model_least, .ref a_Model_ways, .int Model_thenCost, .int Model_thenWays, .int Model_bothCost, .int Model_bothWays, .ref a_Model_handOf, .ref a_Model_crossedAt, .ref a_Model_strokeOf, .ref a_Model_prices, .ref a_Model_hitAt, .ref a_Model_carried])), (a_Model_now, .inl (cI, 187, .inl Model_now)), (a_Model_prices, .inl (cI, 525, .inl Model_prices)), (a_Model_hitAt, .inl (cI, 20, .inl Model_hitAt))] → va_S A s.heap H locs → lv_has ls 5 [(0, .ref a_Model), (1, .int l1), (2, .int l2), (3, .int l3), (4, .int l4)] → f_Model_missed_24 Model_now  n24 l1 l2 l3 l4 Model_findings Model_prices Model_hitAt = some (zr, z_Model_findings, z_Model_prices, z_Model_hitAt) → W p l e (headSpec wsX11_missed rm_Model_missed).room s m ([.ref a_Model, .int p1, .int p2] : List Value).toArray below meth c H locs 0 0 Q9 (F0 m 24 ls []) := by
    intro n24
    induction n24 with
    | zero => intro l1 l2 l3 l4 Model_findings Model_prices Model_hitAt H locs ls hP hD hS hl hf; exact nomatch (show none = some (zr, z_Model_findings, z_Model_prices, z_Model_hitAt) from hf)
    | succ n24 ih24 =>
      intro l1 l2 l3 l4 Model_findings Model_prices Model_hitAt H locs ls hP hD hS hl hf
      have hf : f_Model_missed_24_b Model_now  (f_Model_missed_24 Model_now  n24) l1 l2 l3 l4 Model_findings Model_prices Model_hitAt = some (zr, z_Model_findings, z_Model_prices, z_Model_hitAt) := hf
      unfold f_Model_missed_24_b at hf
      refine lv_iload hx hb dX11_missed_24 (lv_at hl 4 rfl) ?_
      refine lv_aload_n hx hb dX11_missed_26 rfl (lv_at hl 0 rfl) ?_
      refine va_get (D := D) (ci := 11) (v := .ref a_Model_now) (C := RX11) (T := TX11) (N := 19) hx hb hts inX11 hown hK hP 0 rfl rfl 0 (by decide) fl9 (fun _ h9 => h9) rfl dX11_missed_27 ?_
      refine lv_iconst (v := 0) hx hb dX11_missed_30 (by decide) ?_
      obtain ⟨ix1, x1, ex1, hf⟩ := rd_s hf
      refine va_iald hx hb hK hP 1 0 rfl rfl ix1 dX11_missed_31 ?_
      refine lv_tpx ex1 ?_
      refine lv_icmp_ge (tgt := 59) hx hb dX11_missed_32 (by decide) (fun c2 => ?_) (fun c2 => ?_)
      · have hf := ite_t c2 hf
        refine lv_iload_n hx hb dX11_missed_59 rfl (lv_at hl 2 rfl) ?_
        refine lv_if_eq (tgt := 77) hx hb dX11_missed_60 (by decide) (fun c3 => ?_) (fun c3 => ?_)
        · have hf := ite_t c3 hf
          refine lv_aload_n hx hb dX11_missed_77 rfl (lv_at hl 0 rfl) ?_
          refine va_get (D := D) (ci := 11) (v := .ref a_Model_now) (C := RX11) (T := TX11) (N := 19) hx hb hts inX11 hown hK hP 0 rfl rfl 0 (by decide) fl9 (fun _ h9 => h9) rfl dX11_missed_78 ?_
          refine lv_iconst (v := 0) hx hb dX11_missed_81 (by decide) ?_
          obtain ⟨ix4, x4, ex4, hf⟩ := rd_s hf
          refine va_iald hx hb hK hP 1 0 rfl rfl ix4 dX11_missed_82 ?_
          refine lv_tpx ex4 ?_
          refine lv_iload_n hx hb dX11_missed_83 rfl (lv_at hl 3 rfl) ?_
          refine lv_isub hx hb dX11_missed_84 ?_
          cases hf
          exact k_iret () hQ9 hx hb hr hlocks rfl hP hD hS (Nat.le_of_ble_eq_true rfl) (Nat.le_of_ble_eq_true rfl) dX11_missed_85
        · have hf := ite_f c3 hf
          refine lv_aload_n hx hb dX11_missed_63 rfl (lv_at hl 0 rfl) ?_
          refine va_get (D := D) (ci := 11) (v := .ref a_Model_now) (C := RX11) (T := TX11) (N := 19) hx hb hts inX11 hown hK hP 0 rfl rfl 0 (by decide) fl9 (fun _ h9 => h9) rfl dX11_missed_64 ?_
          refine lv_bipush (v := 87) hx hb dX11_missed_67 (by decide) ?_
          refine lv_iload_n hx hb dX11_missed_69 rfl (lv_at hl 1 rfl) ?_
          refine lv_iadd hx hb dX11_missed_70 ?_
          obtain ⟨ix5, x5, ex5, hf⟩ := rd_s hf
          refine va_iald hx hb hK hP 1 0 rfl rfl ix5 dX11_missed_71 ?_
          refine lv_tpx ex5 ?_
          refine lv_iload_n hx hb dX11_missed_72 rfl (lv_at hl 3 rfl) ?_
          refine lv_isub hx hb dX11_missed_73 ?_
          refine lv_goto (tgt := 85) hx hb dX11_missed_74 (by decide) ?_
          cases hf
          exact k_iret () hQ9 hx hb hr hlocks rfl hP hD hS (Nat.le_of_ble_eq_true rfl) (Nat.le_of_ble_eq_true rfl) dX11_missed_85
      · have hf := ite_f c2 hf
        refine lv_iload_n hx hb dX11_missed_35 rfl (lv_at hl 3 rfl) ?_
        refine lv_aload_n hx hb dX11_missed_36 rfl (lv_at hl 0 rfl) ?_
        refine va_get (D := D) (ci := 11) (v := .ref a_Model_hitAt) (C := RX11) (T := TX11) (N := 19) hx hb hts inX11 hown hK hP 0 rfl rfl 17 (by decide) fl44 (fun _ h9 => h9) rfl dX11_missed_37 ?_
        refine lv_iload hx hb dX11_missed_40 (lv_at hl 4 rfl) ?_
        obtain ⟨ix6, x6, ex6, hf⟩ := rd_s hf
        refine va_iald hx hb hK hP 3 0 rfl rfl ix6 dX11_missed_42 ?_
        refine lv_tpx ex6 ?_
        refine lv_if_lt (tgt := 50) hx hb dX11_missed_43 (by decide) (fun c7 => ?_) (fun c7 => ?_)
        · have hf := ite_t c7 hf
          refine lv_iconst (v := 0) hx hb dX11_missed_50 (by decide) ?_
          refine lv_iadd hx hb dX11_missed_51 ?_
          obtain ⟨x8, ex8, hf⟩ := nm_s hf
          refine lv_tpx ex8 ?_
          refine lv_istore_n (lv' := [(3, .int x8), (0, .ref a_Model), (1, .int l1), (2, .int l2), (4, .int l4)]) hx hb dX11_missed_52 rfl hl (by decide) rfl (fun ls hl => ?_)
          obtain ⟨x9, ex9, hf⟩ := nm_s hf
          refine lv_iinc (v := x9) (lv' := [(4, .int x9), (3, .int x8), (0, .ref a_Model), (1, .int l1), (2, .int l2)]) hx hb dX11_missed_53 hl (k := 4) rfl (by rw [ex9]; rfl) (by decide) rfl (fun ls hl => ?_)
          refine lv_goto (tgt := 24) hx hb dX11_missed_56 (by decide) ?_
          exact ih24 l1 l2 x8 x9 Model_findings Model_prices Model_hitAt H locs ls hP hD hS (lv_sub hl [2, 3, 4, 1, 0] rfl) hf
        · have hf := ite_f c7 hf
          refine lv_iconst (v := 1) hx hb dX11_missed_46 (by decide) ?_
          refine lv_goto (tgt := 51) hx hb dX11_missed_47 (by decide) ?_
          refine lv_iadd hx hb dX11_missed_51 ?_
          obtain ⟨x10, ex10, hf⟩ := nm_s hf
          refine lv_tpx ex10 ?_
          refine lv_istore_n (lv' := [(3, .int x10), (0, .ref a_Model), (1, .int l1), (2, .int l2), (4, .int l4)]) hx hb dX11_missed_52 rfl hl (by decide) rfl (fun ls hl => ?_)
          obtain ⟨x11, ex11, hf⟩ := nm_s hf
          refine lv_iinc (v := x11) (lv' := [(4, .int x11), (3, .int x10), (0, .ref a_Model), (1, .int l1), (2, .int l2)]) hx hb dX11_missed_53 hl (k := 4) rfl (by rw [ex11]; rfl) (by decide) rfl (fun ls hl => ?_)
          refine lv_goto (tgt := 24) hx hb dX11_missed_56 (by decide) ?_
          exact ih24 l1 l2 x10 x11 Model_findings Model_prices Model_hitAt H locs ls hP hD hS (lv_sub hl [2, 3, 4, 1, 0] rfl) hf
  unfold f_Model_missed at hf
  refine lv_iload_n hx hb dX11_missed_0 rfl (lv_at hl 1 rfl) ?_
  obtain ⟨r12, g13, hf⟩ := b1_s hf
  refine k_Si (rest := []) ⟨hx, hb, hml, hown, hts⟩ (c_Model_isPlayer l D cI cZ t  s.heap.size p1 r12 g13) (va_cwS 1 hts gX11_missed_X11_isPlayer rfl rfl rfl (by decide +kernel) ⟨Nat.le_of_ble_eq_true rfl, Nat.le_of_ble_eq_true rfl⟩) hE hP hD hS hA [] [0, 1, 2, 3] rfl rfl rfl rfl rfl rfl hl.1 rfl (Nat.le_of_ble_eq_true rfl) dX11_missed_1 ⟨Nat.le_of_ble_eq_true rfl, Nat.le_of_ble_eq_true rfl⟩ (fun rq uq H locs hrq hP hD hS => ?_)
  refine lv_tpx hrq.symm ?_
  have hP : va_P D vwCl [(a_Model, .inr (11, [.ref a_Model_now, .ref a_Model_past, .int Model_kept, .int Model_findings, .ref a_Model_bits, .ref a_Model_sizes, .ref a_Model_sheets, .ref a_Model_least, .ref a_Model_ways, .int Model_thenCost, .int Model_thenWays, .int Model_bothCost, .int Model_bothWays, .ref a_Model_handOf, .ref a_Model_crossedAt, .ref a_Model_strokeOf, .ref a_Model_prices, .ref a_Model_hitAt, .ref a_Model_carried])), (a_Model_now, .inl (cI, 187, .inl Model_now)), (a_Model_prices, .inl (cI, 525, .inl Model_prices)), (a_Model_hitAt, .inl (cI, 20, .inl Model_hitAt))] H := hP
  have hD : va_D A [(a_Model, .inr (11, [.ref a_Model_now, .ref a_Model_past, .int Model_kept, .int Model_findings, .ref a_Model_bits, .ref a_Model_sizes, .ref a_Model_sheets, .ref a_Model_least, .ref a_Model_ways, .int Model_thenCost, .int Model_thenWays, .int Model_bothCost, .int Model_bothWays, .ref a_Model_handOf, .ref a_Model_crossedAt, .ref a_Model_strokeOf, .ref a_Model_prices, .ref a_Model_hitAt, .ref a_Model_carried])), (a_Model_now, .inl (cI, 187, .inl Model_now)), (a_Model_prices, .inl (cI, 525, .inl Model_prices)), (a_Model_hitAt, .inl (cI, 20, .inl Model_hitAt))] := hD
  refine lv_if_ne (tgt := 14) hx hb dX11_missed_4 (by decide) (fun c14 => ?_) (fun c14 => ?_)
  · have hf := ite_f c14 hf
    refine lv_aload_n hx hb dX11_missed_14 rfl (lv_at hl 0 rfl) ?_
    refine lv_iload_n hx hb dX11_missed_15 rfl (lv_at hl 1 rfl) ?_
    obtain ⟨y15, y16, g17, hf⟩ := b2_s hf
    refine k_Vv (rest := []) ⟨hx, hb, hml, hown, hts⟩ (c_Model_findReading l D cI cZ t a_Model a_Model_now a_Model_past a_Model_bits a_Model_sizes a_Model_sheets a_Model_least a_Model_ways a_Model_handOf a_Model_crossedAt a_Model_strokeOf a_Model_prices a_Model_hitAt a_Model_carried H.size Model_now Model_prices Model_hitAt Model_kept Model_findings Model_thenCost Model_thenWays Model_bothCost Model_bothWays p1 y15 y16 g17) (cwV 1 hts gX11_missed_X11_findReading rfl rfl rfl (by decide +kernel) ⟨Nat.le_of_ble_eq_true rfl, Nat.le_of_ble_eq_true rfl⟩) hE hP hD hS hA [0, 1, 2, 3] [] rfl rfl rfl rfl rfl 0 11 rfl rfl rfl rfl hl.1 rfl (Nat.le_of_ble_eq_true rfl) dX11_missed_16 ⟨Nat.le_of_ble_eq_true rfl, Nat.le_of_ble_eq_true rfl⟩ (fun uq H locs hrq hP hD hS => ?_)
    have hP : va_P D vwCl [(a_Model, .inr (11, [.ref a_Model_now, .ref a_Model_past, .int Model_kept, .int Model_findings, .ref a_Model_bits, .ref a_Model_sizes, .ref a_Model_sheets, .ref a_Model_least, .ref a_Model_ways, .int Model_thenCost, .int Model_thenWays, .int Model_bothCost, .int Model_bothWays, .ref a_Model_handOf, .ref a_Model_crossedAt, .ref a_Model_strokeOf, .ref a_Model_prices, .ref a_Model_hitAt, .ref a_Model_carried])), (a_Model_now, .inl (cI, 187, .inl Model_now)), (a_Model_prices, .inl (cI, 525, .inl y15)), (a_Model_hitAt, .inl (cI, 20, .inl y16))] H := hP
    have hD : va_D A [(a_Model, .inr (11, [.ref a_Model_now, .ref a_Model_past, .int Model_kept, .int Model_findings, .ref a_Model_bits, .ref a_Model_sizes, .ref a_Model_sheets, .ref a_Model_least, .ref a_Model_ways, .int Model_thenCost, .int Model_thenWays, .int Model_bothCost, .int Model_bothWays, .ref a_Model_handOf, .ref a_Model_crossedAt, .ref a_Model_strokeOf, .ref a_Model_prices, .ref a_Model_hitAt, .ref a_Model_carried])), (a_Model_now, .inl (cI, 187, .inl Model_now)), (a_Model_prices, .inl (cI, 525, .inl y15)), (a_Model_hitAt, .inl (cI, 20, .inl y16))] := hD
    refine lv_iconst (v := 0) hx hb dX11_missed_19 (by decide) ?_
    refine lv_istore_n (lv' := [(3, .int 0), (0, .ref a_Model), (1, .int p1), (2, .int p2)]) hx hb dX11_missed_20 rfl hl (by decide) rfl (fun ls hl => ?_)
    refine lv_iconst (v := 0) hx hb dX11_missed_21 (by decide) ?_
    refine lv_istore (lv' := [(4, .int 0), (3, .int 0), (0, .ref a_Model), (1, .int p1), (2, .int p2)]) hx hb dX11_missed_22 hl (by decide) rfl (fun ls hl => ?_)
    exact hL24 fu p1 p2 0 0 Model_findings y15 y16 H locs ls hP hD hS (lv_sub hl [2, 3, 4, 1, 0] rfl) hf
  · have hf := ite_t c14 hf
    refine lv_aload_n hx hb dX11_missed_7 rfl (lv_at hl 0 rfl) ?_
    refine lv_ldc (v := (-100001)) hx hb hown kc70 dX11_missed_8 ?_
    obtain ⟨r18, y19, g20, hf⟩ := b2_s hf
    refine k_Vi (rest := []) ⟨hx, hb, hml, hown, hts⟩ (c_Model_finding l D cI cZ t a_Model a_Model_now a_Model_past a_Model_bits a_Model_sizes a_Model_sheets a_Model_least a_Model_ways a_Model_handOf a_Model_crossedAt a_Model_strokeOf a_Model_prices a_Model_hitAt a_Model_carried H.size Model_findings Model_kept Model_thenCost Model_thenWays Model_bothCost Model_bothWays (-100001) r18 y19 g20) (cwV 1 hts gX11_missed_X11_finding rfl rfl rfl (by decide +kernel) ⟨Nat.le_of_ble_eq_true rfl, Nat.le_of_ble_eq_true rfl⟩) hE hP hD hS hA [0] [1, 2, 3] rfl rfl rfl rfl rfl 0 11 rfl rfl rfl rfl hl.1 rfl (Nat.le_of_ble_eq_true rfl) dX11_missed_10 ⟨Nat.le_of_ble_eq_true rfl, Nat.le_of_ble_eq_true rfl⟩ (fun rq uq H locs hrq hP hD hS => ?_)
    refine lv_tpx hrq.symm ?_
    have hP : va_P D vwCl [(a_Model_now, .inl (cI, 187, .inl Model_now)), (a_Model_prices, .inl (cI, 525, .inl Model_prices)), (a_Model_hitAt, .inl (cI, 20, .inl Model_hitAt)), (a_Model, .inr (11, [.ref a_Model_now, .ref a_Model_past, .int Model_kept, .int y19, .ref a_Model_bits, .ref a_Model_sizes, .ref a_Model_sheets, .ref a_Model_least, .ref a_Model_ways, .int Model_thenCost, .int Model_thenWays, .int Model_bothCost, .int Model_bothWays, .ref a_Model_handOf, .ref a_Model_crossedAt, .ref a_Model_strokeOf, .ref a_Model_prices, .ref a_Model_hitAt, .ref a_Model_carried]))] H := hP
    have hD : va_D A [(a_Model_now, .inl (cI, 187, .inl Model_now)), (a_Model_prices, .inl (cI, 525, .inl Model_prices)), (a_Model_hitAt, .inl (cI, 20, .inl Model_hitAt)), (a_Model, .inr (11, [.ref a_Model_now, .ref a_Model_past, .int Model_kept, .int y19, .ref a_Model_bits, .ref a_Model_sizes, .ref a_Model_sheets, .ref a_Model_least, .ref a_Model_ways, .int Model_thenCost, .int Model_thenWays, .int Model_bothCost, .int Model_bothWays, .ref a_Model_handOf, .ref a_Model_crossedAt, .ref a_Model_strokeOf, .ref a_Model_prices, .ref a_Model_hitAt, .ref a_Model_carried]))] := hD
    cases hf
    exact k_iret () hQ9 hx hb hr hlocks rfl (hP.sub [3, 0, 1, 2] rfl) (hD.sub [3, 0, 1, 2] (by decide) rfl) hS (Nat.le_of_ble_eq_true rfl) (Nat.le_of_ble_eq_true rfl) dX11_missed_13
