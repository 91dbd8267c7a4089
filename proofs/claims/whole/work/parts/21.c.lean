abbrev rm_Model_tickOf : Room := { frames := 0, cells := 0, slots := 0, locals := 0 }
set_option maxHeartbeats 4000000 in
set_option maxRecDepth 100000 in
theorem c_Model_tickOf (l : Launch) (D : va_G) (cI cZ : ClassId) (t : Nat → Nat) (a_Model a_Model_now a_Model_past a_Model_bits a_Model_sizes a_Model_sheets a_Model_least a_Model_ways a_Model_handOf a_Model_crossedAt a_Model_strokeOf a_Model_prices a_Model_hitAt a_Model_carried sz : Nat) (Model_now : Nat → Int32) (Model_kept Model_findings Model_thenCost Model_thenWays Model_bothCost Model_bothWays p1 zr : Int32) (hf : f_Model_tickOf Model_now p1 = some zr) : Met l yX11_tickOf wsX11_tickOf rm_Model_tickOf (va_Pc [.ref a_Model, .int p1] (pcW D cI cZ t [(a_Model, .inr (11, [.ref a_Model_now, .ref a_Model_past, .int Model_kept, .int Model_findings, .ref a_Model_bits, .ref a_Model_sizes, .ref a_Model_sheets, .ref a_Model_least, .ref a_Model_ways, .int Model_thenCost, .int Model_thenWays, .int Model_bothCost, .int Model_bothWays, .ref a_Model_handOf, .ref a_Model_crossedAt, .ref a_Model_strokeOf, .ref a_Model_prices, .ref a_Model_hitAt, .ref a_Model_carried])), (a_Model_now, .inl (cI, 187, .inl Model_now))] sz)) (va_Qi (fun r (u : Unit) => r = zr) (fun u t' => bW D (va_A [(a_Model, .inr (11, [.ref a_Model_now, .ref a_Model_past, .int Model_kept, .int Model_findings, .ref a_Model_bits, .ref a_Model_sizes, .ref a_Model_sheets, .ref a_Model_least, .ref a_Model_ways, .int Model_thenCost, .int Model_thenWays, .int Model_bothCost, .int Model_bothWays, .ref a_Model_handOf, .ref a_Model_crossedAt, .ref a_Model_strokeOf, .ref a_Model_prices, .ref a_Model_hitAt, .ref a_Model_carried])), (a_Model_now, .inl (cI, 187, .inl Model_now))] sz) [(a_Model, .inr (11, [.ref a_Model_now, .ref a_Model_past, .int Model_kept, .int Model_findings, .ref a_Model_bits, .ref a_Model_sizes, .ref a_Model_sheets, .ref a_Model_least, .ref a_Model_ways, .int Model_thenCost, .int Model_thenWays, .int Model_bothCost, .int Model_bothWays, .ref a_Model_handOf, .ref a_Model_crossedAt, .ref a_Model_strokeOf, .ref a_Model_prices, .ref a_Model_hitAt, .ref a_Model_carried])), (a_Model_now, .inl (cI, 187, .inl Model_now))] t') (va_A [(a_Model, .inr (11, [.ref a_Model_now, .ref a_Model_past, .int Model_kept, .int Model_findings, .ref a_Model_bits, .ref a_Model_sizes, .ref a_Model_sheets, .ref a_Model_least, .ref a_Model_ways, .int Model_thenCost, .int Model_thenWays, .int Model_bothCost, .int Model_bothWays, .ref a_Model_handOf, .ref a_Model_crossedAt, .ref a_Model_strokeOf, .ref a_Model_prices, .ref a_Model_hitAt, .ref a_Model_carried])), (a_Model_now, .inl (cI, 187, .inl Model_now))] sz)) 0 0 (va_A [(a_Model, .inr (11, [.ref a_Model_now, .ref a_Model_past, .int Model_kept, .int Model_findings, .ref a_Model_bits, .ref a_Model_sizes, .ref a_Model_sheets, .ref a_Model_least, .ref a_Model_ways, .int Model_thenCost, .int Model_thenWays, .int Model_bothCost, .int Model_bothWays, .ref a_Model_handOf, .ref a_Model_crossedAt, .ref a_Model_strokeOf, .ref a_Model_prices, .ref a_Model_hitAt, .ref a_Model_carried])), (a_Model_now, .inl (cI, 187, .inl Model_now))] sz) := by
  refine Met.ofW (cc := cX11_tickOf) (maxL := 3) (ret := (some .int)) (by decide) rfl ?_
  intro p e s m args below meth c s₁ B hml hv
  obtain ⟨rfl, hsz, hP, hD0, hE⟩ := hv
  have hx := B.exec
  have hb := B.bytes
  have hr := B.returns
  have hts := atoms_spec (ws := wsX11_tickOf) B.pre
  have hown : s.vm.findClass RX11 = some m.cls := findClass_of_methodNamed B.named
  have hlocks := B.notSynchronized
  subst hsz
  have hD := hD0.self (sz := s.heap.size)
  generalize hAe : va_A [(a_Model, .inr (11, [.ref a_Model_now, .ref a_Model_past, .int Model_kept, .int Model_findings, .ref a_Model_bits, .ref a_Model_sizes, .ref a_Model_sheets, .ref a_Model_least, .ref a_Model_ways, .int Model_thenCost, .int Model_thenWays, .int Model_bothCost, .int Model_bothWays, .ref a_Model_handOf, .ref a_Model_crossedAt, .ref a_Model_strokeOf, .ref a_Model_prices, .ref a_Model_hitAt, .ref a_Model_carried])), (a_Model_now, .inl (cI, 187, .inl Model_now))] s.heap.size = A at hD hE ⊢
  have hA : ∀ q : Nat, s.heap.size ≤ q → A q := fun q h => by rw [← hAe]; exact Or.inr h
  clear hAe hD0
  have hS : va_S A s.heap s.heap [] := va_S.rf
  have hK := hE.1
  have hl := lv_entry ([.ref a_Model, .int p1]) (n := 3) (Nat.le_of_ble_eq_true rfl)
  rw [lg_entry_eq]
  generalize (lg_sl ([.ref a_Model, .int p1]) ++ List.replicate (3 - (lg_sl ([.ref a_Model, .int p1])).length) Slot.unset).toArray = ls at hl ⊢
  have hl : lv_has ls 3 [(0, .ref a_Model), (1, .int p1)] := hl
  refine w_q (fun Q9 hQ9 => ?_)
  have fl9 := hts (.fieldLink RX11 9 "StickRoomModel" "now" "[I") (by decide +kernel)
  have inX11 : ∀ w ∈ wsX110, w ∈ wsX11_tickOf := by decide +kernel
  unfold f_Model_tickOf at hf
  refine lv_iload_n hx hb dX11_tickOf_0 rfl (lv_at hl 1 rfl) ?_
  refine lv_iconst (v := 1) hx hb dX11_tickOf_1 (by decide) ?_
  refine lv_isub hx hb dX11_tickOf_2 ?_
  refine lv_iconst (v := 2) hx hb dX11_tickOf_3 (by decide) ?_
  refine lv_idiv hx hb dX11_tickOf_4 (by decide) ?_
  obtain ⟨x1, ex1, hf⟩ := nm_s hf
  refine lv_tpx ex1 ?_
  refine lv_istore_n (lv' := [(2, .int x1), (0, .ref a_Model), (1, .int p1)]) hx hb dX11_tickOf_5 rfl hl (by decide) rfl (fun ls hl => ?_)
  refine lv_iload_n hx hb dX11_tickOf_6 rfl (lv_at hl 2 rfl) ?_
  refine lv_iconst (v := 2) hx hb dX11_tickOf_7 (by decide) ?_
  refine lv_irem hx hb dX11_tickOf_8 (by decide) ?_
  obtain ⟨x2, ex2, hf⟩ := nm_s hf
  refine lv_tpx ex2 ?_
  refine lv_iconst (v := 1) hx hb dX11_tickOf_9 (by decide) ?_
  refine lv_icmp_ne (tgt := 25) hx hb dX11_tickOf_10 (by decide) (fun c3 => ?_) (fun c3 => ?_)
  · have hf := ite_f c3 hf
    refine lv_aload_n hx hb dX11_tickOf_25 rfl (lv_at hl 1 rfl) ?_
    refine va_get (D := D) (ci := 11) (v := .ref a_Model_now) (C := RX11) (T := TX11) (N := 19) hx hb hts inX11 hown hK hP 0 rfl rfl 0 (by decide) fl9 (fun _ h9 => h9) rfl dX11_tickOf_26 ?_
    refine lv_bipush (v := 27) hx hb dX11_tickOf_29 (by decide) ?_
    refine lv_iload_n hx hb dX11_tickOf_31 rfl (lv_at hl 0 rfl) ?_
    refine lv_iadd hx hb dX11_tickOf_32 ?_
    obtain ⟨ix4, x4, ex4, hf⟩ := rd_s hf
    refine va_iald hx hb hK hP 1 0 rfl rfl ix4 dX11_tickOf_33 ?_
    refine lv_tpx ex4 ?_
    refine lv_iconst (v := 4) hx hb dX11_tickOf_34 (by decide) ?_
    refine lv_isub hx hb dX11_tickOf_35 ?_
    cases hf
    exact k_iret () hQ9 hx hb hr hlocks rfl hP hD hS (Nat.le_of_ble_eq_true rfl) (Nat.le_of_ble_eq_true rfl) dX11_tickOf_36
  · have hf := ite_t c3 hf
    refine lv_aload_n hx hb dX11_tickOf_13 rfl (lv_at hl 1 rfl) ?_
    refine va_get (D := D) (ci := 11) (v := .ref a_Model_now) (C := RX11) (T := TX11) (N := 19) hx hb hts inX11 hown hK hP 0 rfl rfl 0 (by decide) fl9 (fun _ h9 => h9) rfl dX11_tickOf_14 ?_
    refine lv_bipush (v := 27) hx hb dX11_tickOf_17 (by decide) ?_
    refine lv_iload_n hx hb dX11_tickOf_19 rfl (lv_at hl 0 rfl) ?_
    refine lv_iadd hx hb dX11_tickOf_20 ?_
    obtain ⟨ix5, x5, ex5, hf⟩ := rd_s hf
    refine va_iald hx hb hK hP 1 0 rfl rfl ix5 dX11_tickOf_21 ?_
    refine lv_tpx ex5 ?_
    refine lv_goto (tgt := 36) hx hb dX11_tickOf_22 (by decide) ?_
    cases hf
    exact k_iret () hQ9 hx hb hr hlocks rfl hP hD hS (Nat.le_of_ble_eq_true rfl) (Nat.le_of_ble_eq_true rfl) dX11_tickOf_36
abbrev rm_Model_heightOf : Room := { frames := 0, cells := 0, slots := 0, locals := 0 }
set_option maxHeartbeats 4000000 in
set_option maxRecDepth 100000 in
theorem c_Model_heightOf (l : Launch) (D : va_G) (cI cZ : ClassId) (t : Nat → Nat) (a_Model a_Model_now a_Model_past a_Model_bits a_Model_sizes a_Model_sheets a_Model_least a_Model_ways a_Model_handOf a_Model_crossedAt a_Model_strokeOf a_Model_prices a_Model_hitAt a_Model_carried sz : Nat) (Model_now : Nat → Int32) (Model_kept Model_findings Model_thenCost Model_thenWays Model_bothCost Model_bothWays p1 zr : Int32) (hf : f_Model_heightOf Model_now p1 = some zr) : Met l yX11_heightOf wsX11_heightOf rm_Model_heightOf (va_Pc [.ref a_Model, .int p1] (pcW D cI cZ t [(a_Model, .inr (11, [.ref a_Model_now, .ref a_Model_past, .int Model_kept, .int Model_findings, .ref a_Model_bits, .ref a_Model_sizes, .ref a_Model_sheets, .ref a_Model_least, .ref a_Model_ways, .int Model_thenCost, .int Model_thenWays, .int Model_bothCost, .int Model_bothWays, .ref a_Model_handOf, .ref a_Model_crossedAt, .ref a_Model_strokeOf, .ref a_Model_prices, .ref a_Model_hitAt, .ref a_Model_carried])), (a_Model_now, .inl (cI, 187, .inl Model_now))] sz)) (va_Qi (fun r (u : Unit) => r = zr) (fun u t' => bW D (va_A [(a_Model, .inr (11, [.ref a_Model_now, .ref a_Model_past, .int Model_kept, .int Model_findings, .ref a_Model_bits, .ref a_Model_sizes, .ref a_Model_sheets, .ref a_Model_least, .ref a_Model_ways, .int Model_thenCost, .int Model_thenWays, .int Model_bothCost, .int Model_bothWays, .ref a_Model_handOf, .ref a_Model_crossedAt, .ref a_Model_strokeOf, .ref a_Model_prices, .ref a_Model_hitAt, .ref a_Model_carried])), (a_Model_now, .inl (cI, 187, .inl Model_now))] sz) [(a_Model, .inr (11, [.ref a_Model_now, .ref a_Model_past, .int Model_kept, .int Model_findings, .ref a_Model_bits, .ref a_Model_sizes, .ref a_Model_sheets, .ref a_Model_least, .ref a_Model_ways, .int Model_thenCost, .int Model_thenWays, .int Model_bothCost, .int Model_bothWays, .ref a_Model_handOf, .ref a_Model_crossedAt, .ref a_Model_strokeOf, .ref a_Model_prices, .ref a_Model_hitAt, .ref a_Model_carried])), (a_Model_now, .inl (cI, 187, .inl Model_now))] t') (va_A [(a_Model, .inr (11, [.ref a_Model_now, .ref a_Model_past, .int Model_kept, .int Model_findings, .ref a_Model_bits, .ref a_Model_sizes, .ref a_Model_sheets, .ref a_Model_least, .ref a_Model_ways, .int Model_thenCost, .int Model_thenWays, .int Model_bothCost, .int Model_bothWays, .ref a_Model_handOf, .ref a_Model_crossedAt, .ref a_Model_strokeOf, .ref a_Model_prices, .ref a_Model_hitAt, .ref a_Model_carried])), (a_Model_now, .inl (cI, 187, .inl Model_now))] sz)) 0 0 (va_A [(a_Model, .inr (11, [.ref a_Model_now, .ref a_Model_past, .int Model_kept, .int Model_findings, .ref a_Model_bits, .ref a_Model_sizes, .ref a_Model_sheets, .ref a_Model_least, .ref a_Model_ways, .int Model_thenCost, .int Model_thenWays, .int Model_bothCost, .int Model_bothWays, .ref a_Model_handOf, .ref a_Model_crossedAt, .ref a_Model_strokeOf, .ref a_Model_prices, .ref a_Model_hitAt, .ref a_Model_carried])), (a_Model_now, .inl (cI, 187, .inl Model_now))] sz) := by
  refine Met.ofW (cc := cX11_heightOf) (maxL := 3) (ret := (some .int)) (by decide) rfl ?_
  intro p e s m args below meth c s₁ B hml hv
  obtain ⟨rfl, hsz, hP, hD0, hE⟩ := hv
  have hx := B.exec
  have hb := B.bytes
  have hr := B.returns
  have hts := atoms_spec (ws := wsX11_heightOf) B.pre
  have hown : s.vm.findClass RX11 = some m.cls := findClass_of_methodNamed B.named
  have hlocks := B.notSynchronized
  subst hsz
  have hD := hD0.self (sz := s.heap.size)
  generalize hAe : va_A [(a_Model, .inr (11, [.ref a_Model_now, .ref a_Model_past, .int Model_kept, .int Model_findings, .ref a_Model_bits, .ref a_Model_sizes, .ref a_Model_sheets, .ref a_Model_least, .ref a_Model_ways, .int Model_thenCost, .int Model_thenWays, .int Model_bothCost, .int Model_bothWays, .ref a_Model_handOf, .ref a_Model_crossedAt, .ref a_Model_strokeOf, .ref a_Model_prices, .ref a_Model_hitAt, .ref a_Model_carried])), (a_Model_now, .inl (cI, 187, .inl Model_now))] s.heap.size = A at hD hE ⊢
  have hA : ∀ q : Nat, s.heap.size ≤ q → A q := fun q h => by rw [← hAe]; exact Or.inr h
  clear hAe hD0
  have hS : va_S A s.heap s.heap [] := va_S.rf
  have hK := hE.1
  have hl := lv_entry ([.ref a_Model, .int p1]) (n := 3) (Nat.le_of_ble_eq_true rfl)
  rw [lg_entry_eq]
  generalize (lg_sl ([.ref a_Model, .int p1]) ++ List.replicate (3 - (lg_sl ([.ref a_Model, .int p1])).length) Slot.unset).toArray = ls at hl ⊢
  have hl : lv_has ls 3 [(0, .ref a_Model), (1, .int p1)] := hl
  refine w_q (fun Q9 hQ9 => ?_)
  have fl9 := hts (.fieldLink RX11 9 "StickRoomModel" "now" "[I") (by decide +kernel)
  have inX11 : ∀ w ∈ wsX110, w ∈ wsX11_heightOf := by decide +kernel
  unfold f_Model_heightOf at hf
  refine lv_iload_n hx hb dX11_heightOf_0 rfl (lv_at hl 1 rfl) ?_
  refine lv_iconst (v := 2) hx hb dX11_heightOf_1 (by decide) ?_
  refine lv_irem hx hb dX11_heightOf_2 (by decide) ?_
  obtain ⟨x1, ex1, hf⟩ := nm_s hf
  refine lv_tpx ex1 ?_
  refine lv_if_ne (tgt := 8) hx hb dX11_heightOf_3 (by decide) (fun c2 => ?_) (fun c2 => ?_)
  · have hf := ite_f c2 hf
    refine lv_aload_n hx hb dX11_heightOf_8 rfl (lv_at hl 0 rfl) ?_
    refine va_get (D := D) (ci := 11) (v := .ref a_Model_now) (C := RX11) (T := TX11) (N := 19) hx hb hts inX11 hown hK hP 0 rfl rfl 0 (by decide) fl9 (fun _ h9 => h9) rfl dX11_heightOf_9 ?_
    refine lv_bipush (v := 7) hx hb dX11_heightOf_12 (by decide) ?_
    refine lv_iload_n hx hb dX11_heightOf_14 rfl (lv_at hl 1 rfl) ?_
    refine lv_iconst (v := 1) hx hb dX11_heightOf_15 (by decide) ?_
    refine lv_isub hx hb dX11_heightOf_16 ?_
    refine lv_iconst (v := 2) hx hb dX11_heightOf_17 (by decide) ?_
    refine lv_idiv hx hb dX11_heightOf_18 (by decide) ?_
    obtain ⟨x3, ex3, hf⟩ := nm_s hf
    refine lv_tpx ex3 ?_
    refine lv_iadd hx hb dX11_heightOf_19 ?_
    obtain ⟨ix4, x4, ex4, hf⟩ := rd_s hf
    refine va_iald hx hb hK hP 1 0 rfl rfl ix4 dX11_heightOf_20 ?_
    refine lv_tpx ex4 ?_
    refine lv_istore_n (lv' := [(2, .int x4), (0, .ref a_Model), (1, .int p1)]) hx hb dX11_heightOf_21 rfl hl (by decide) rfl (fun ls hl => ?_)
    refine lv_iload_n hx hb dX11_heightOf_22 rfl (lv_at hl 0 rfl) ?_
    refine lv_if_ne (tgt := 30) hx hb dX11_heightOf_23 (by decide) (fun c5 => ?_) (fun c5 => ?_)
    · have hf := ite_f c5 hf
      refine lv_iload_n hx hb dX11_heightOf_30 rfl (lv_at hl 0 rfl) ?_
      refine lv_iconst (v := 1) hx hb dX11_heightOf_31 (by decide) ?_
      refine lv_icmp_ne (tgt := 39) hx hb dX11_heightOf_32 (by decide) (fun c6 => ?_) (fun c6 => ?_)
      · have hf := ite_f c6 hf
        refine lv_iconst (v := 2) hx hb dX11_heightOf_39 (by decide) ?_
        cases hf
        exact k_iret () hQ9 hx hb hr hlocks rfl hP hD hS (Nat.le_of_ble_eq_true rfl) (Nat.le_of_ble_eq_true rfl) dX11_heightOf_40
      · have hf := ite_t c6 hf
        refine lv_iconst (v := 3) hx hb dX11_heightOf_35 (by decide) ?_
        refine lv_goto (tgt := 40) hx hb dX11_heightOf_36 (by decide) ?_
        cases hf
        exact k_iret () hQ9 hx hb hr hlocks rfl hP hD hS (Nat.le_of_ble_eq_true rfl) (Nat.le_of_ble_eq_true rfl) dX11_heightOf_40
    · have hf := ite_t c5 hf
      refine lv_iconst (v := 1) hx hb dX11_heightOf_26 (by decide) ?_
      refine lv_goto (tgt := 40) hx hb dX11_heightOf_27 (by decide) ?_
      cases hf
      exact k_iret () hQ9 hx hb hr hlocks rfl hP hD hS (Nat.le_of_ble_eq_true rfl) (Nat.le_of_ble_eq_true rfl) dX11_heightOf_40
  · have hf := ite_t c2 hf
    refine lv_iconst (v := 1) hx hb dX11_heightOf_6 (by decide) ?_
    cases hf
    exact k_iret () hQ9 hx hb hr hlocks rfl hP hD hS (Nat.le_of_ble_eq_true rfl) (Nat.le_of_ble_eq_true rfl) dX11_heightOf_7
abbrev rm_Model_isCrossed : Room := { frames := 0, cells := 0, slots := 0, locals := 0 }
set_option maxHeartbeats 4000000 in
set_option maxRecDepth 100000 in
theorem c_Model_isCrossed (l : Launch) (D : va_G) (cI cZ : ClassId) (t : Nat → Nat) (a_Model a_Model_now a_Model_past a_Model_bits a_Model_sizes a_Model_sheets a_Model_least a_Model_ways a_Model_handOf a_Model_crossedAt a_Model_strokeOf a_Model_prices a_Model_hitAt a_Model_carried sz : Nat) (Model_now : Nat → Int32) (Model_kept Model_findings Model_thenCost Model_thenWays Model_bothCost Model_bothWays p1 p2 p3 zr : Int32) (hf : f_Model_isCrossed Model_now p1 p2 p3 = some zr) : Met l yX11_isCrossed wsX11_isCrossed rm_Model_isCrossed (va_Pc [.ref a_Model, .int p1, .int p2, .int p3] (pcW D cI cZ t [(a_Model, .inr (11, [.ref a_Model_now, .ref a_Model_past, .int Model_kept, .int Model_findings, .ref a_Model_bits, .ref a_Model_sizes, .ref a_Model_sheets, .ref a_Model_least, .ref a_Model_ways, .int Model_thenCost, .int Model_thenWays, .int Model_bothCost, .int Model_bothWays, .ref a_Model_handOf, .ref a_Model_crossedAt, .ref a_Model_strokeOf, .ref a_Model_prices, .ref a_Model_hitAt, .ref a_Model_carried])), (a_Model_now, .inl (cI, 187, .inl Model_now))] sz)) (va_Qi (fun r (u : Unit) => r = zr) (fun u t' => bW D (va_A [(a_Model, .inr (11, [.ref a_Model_now, .ref a_Model_past, .int Model_kept, .int Model_findings, .ref a_Model_bits, .ref a_Model_sizes, .ref a_Model_sheets, .ref a_Model_least, .ref a_Model_ways, .int Model_thenCost, .int Model_thenWays, .int Model_bothCost, .int Model_bothWays, .ref a_Model_handOf, .ref a_Model_crossedAt, .ref a_Model_strokeOf, .ref a_Model_prices, .ref a_Model_hitAt, .ref a_Model_carried])), (a_Model_now, .inl (cI, 187, .inl Model_now))] sz) [(a_Model, .inr (11, [.ref a_Model_now, .ref a_Model_past, .int Model_kept, .int Model_findings, .ref a_Model_bits, .ref a_Model_sizes, .ref a_Model_sheets, .ref a_Model_least, .ref a_Model_ways, .int Model_thenCost, .int Model_thenWays, .int Model_bothCost, .int Model_bothWays, .ref a_Model_handOf, .ref a_Model_crossedAt, .ref a_Model_strokeOf, .ref a_Model_prices, .ref a_Model_hitAt, .ref a_Model_carried])), (a_Model_now, .inl (cI, 187, .inl Model_now))] t') (va_A [(a_Model, .inr (11, [.ref a_Model_now, .ref a_Model_past, .int Model_kept, .int Model_findings, .ref a_Model_bits, .ref a_Model_sizes, .ref a_Model_sheets, .ref a_Model_least, .ref a_Model_ways, .int Model_thenCost, .int Model_thenWays, .int Model_bothCost, .int Model_bothWays, .ref a_Model_handOf, .ref a_Model_crossedAt, .ref a_Model_strokeOf, .ref a_Model_prices, .ref a_Model_hitAt, .ref a_Model_carried])), (a_Model_now, .inl (cI, 187, .inl Model_now))] sz)) 0 0 (va_A [(a_Model, .inr (11, [.ref a_Model_now, .ref a_Model_past, .int Model_kept, .int Model_findings, .ref a_Model_bits, .ref a_Model_sizes, .ref a_Model_sheets, .ref a_Model_least, .ref a_Model_ways, .int Model_thenCost, .int Model_thenWays, .int Model_bothCost, .int Model_bothWays, .ref a_Model_handOf, .ref a_Model_crossedAt, .ref a_Model_strokeOf, .ref a_Model_prices, .ref a_Model_hitAt, .ref a_Model_carried])), (a_Model_now, .inl (cI, 187, .inl Model_now))] sz) := by
  refine Met.ofW (cc := cX11_isCrossed) (maxL := 6) (ret := (some .boolean)) (by decide) rfl ?_
  intro p e s m args below meth c s₁ B hml hv
  obtain ⟨rfl, hsz, hP, hD0, hE⟩ := hv
  have hx := B.exec
  have hb := B.bytes
  have hr := B.returns
  have hts := atoms_spec (ws := wsX11_isCrossed) B.pre
  have hown : s.vm.findClass RX11 = some m.cls := findClass_of_methodNamed B.named
  have hlocks := B.notSynchronized
  subst hsz
  have hD := hD0.self (sz := s.heap.size)
  generalize hAe : va_A [(a_Model, .inr (11, [.ref a_Model_now, .ref a_Model_past, .int Model_kept, .int Model_findings, .ref a_Model_bits, .ref a_Model_sizes, .ref a_Model_sheets, .ref a_Model_least, .ref a_Model_ways, .int Model_thenCost, .int Model_thenWays, .int Model_bothCost, .int Model_bothWays, .ref a_Model_handOf, .ref a_Model_crossedAt, .ref a_Model_strokeOf, .ref a_Model_prices, .ref a_Model_hitAt, .ref a_Model_carried])), (a_Model_now, .inl (cI, 187, .inl Model_now))] s.heap.size = A at hD hE ⊢
  have hA : ∀ q : Nat, s.heap.size ≤ q → A q := fun q h => by rw [← hAe]; exact Or.inr h
  clear hAe hD0
  have hS : va_S A s.heap s.heap [] := va_S.rf
  have hK := hE.1
  have hl := lv_entry ([.ref a_Model, .int p1, .int p2, .int p3]) (n := 6) (Nat.le_of_ble_eq_true rfl)
  rw [lg_entry_eq]
  generalize (lg_sl ([.ref a_Model, .int p1, .int p2, .int p3]) ++ List.replicate (6 - (lg_sl ([.ref a_Model, .int p1, .int p2, .int p3])).length) Slot.unset).toArray = ls at hl ⊢
  have hl : lv_has ls 6 [(0, .ref a_Model), (1, .int p1), (2, .int p2), (3, .int p3)] := hl
  refine w_q (fun Q9 hQ9 => ?_)
  have fl9 := hts (.fieldLink RX11 9 "StickRoomModel" "now" "[I") (by decide +kernel)
  have inX11 : ∀ w ∈ wsX110, w ∈ wsX11_isCrossed := by decide +kernel
  unfold f_Model_isCrossed at hf
  refine lv_iload_n hx hb dX11_isCrossed_0 rfl (lv_at hl 3 rfl) ?_
  refine lv_if_ne (tgt := 6) hx hb dX11_isCrossed_1 (by decide) (fun c1 => ?_) (fun c1 => ?_)
  · have hf := ite_f c1 hf
    refine lv_aload_n hx hb dX11_isCrossed_6 rfl (lv_at hl 0 rfl) ?_
    refine va_get (D := D) (ci := 11) (v := .ref a_Model_now) (C := RX11) (T := TX11) (N := 19) hx hb hts inX11 hown hK hP 0 rfl rfl 0 (by decide) fl9 (fun _ h9 => h9) rfl dX11_isCrossed_7 ?_
    refine lv_bipush (v := 47) hx hb dX11_isCrossed_10 (by decide) ?_
    refine lv_iload_n hx hb dX11_isCrossed_12 rfl (lv_at hl 1 rfl) ?_
    refine lv_iadd hx hb dX11_isCrossed_13 ?_
    obtain ⟨ix2, x2, ex2, hf⟩ := rd_s hf
    refine va_iald hx hb hK hP 1 0 rfl rfl ix2 dX11_isCrossed_14 ?_
    refine lv_tpx ex2 ?_
    refine lv_istore (lv' := [(4, .int x2), (0, .ref a_Model), (1, .int p1), (2, .int p2), (3, .int p3)]) hx hb dX11_isCrossed_15 hl (by decide) rfl (fun ls hl => ?_)
    refine lv_aload_n hx hb dX11_isCrossed_17 rfl (lv_at hl 1 rfl) ?_
    refine va_get (D := D) (ci := 11) (v := .ref a_Model_now) (C := RX11) (T := TX11) (N := 19) hx hb hts inX11 hown hK hP 0 rfl rfl 0 (by decide) fl9 (fun _ h9 => h9) rfl dX11_isCrossed_18 ?_
    refine lv_bipush (v := 47) hx hb dX11_isCrossed_21 (by decide) ?_
    refine lv_iload_n hx hb dX11_isCrossed_23 rfl (lv_at hl 4 rfl) ?_
    refine lv_iconst (v := 1) hx hb dX11_isCrossed_24 (by decide) ?_
    refine lv_isub hx hb dX11_isCrossed_25 ?_
    refine lv_iconst (v := 2) hx hb dX11_isCrossed_26 (by decide) ?_
    refine lv_idiv hx hb dX11_isCrossed_27 (by decide) ?_
    obtain ⟨x3, ex3, hf⟩ := nm_s hf
    refine lv_tpx ex3 ?_
    refine lv_iadd hx hb dX11_isCrossed_28 ?_
    obtain ⟨ix4, x4, ex4, hf⟩ := rd_s hf
    refine va_iald hx hb hK hP 1 0 rfl rfl ix4 dX11_isCrossed_29 ?_
    refine lv_tpx ex4 ?_
    refine lv_istore (lv' := [(5, .int x4), (4, .int x2), (0, .ref a_Model), (1, .int p1), (2, .int p2), (3, .int p3)]) hx hb dX11_isCrossed_30 hl (by decide) rfl (fun ls hl => ?_)
    refine lv_iload_n hx hb dX11_isCrossed_32 rfl (lv_at hl 4 rfl) ?_
    refine lv_iconst (v := 1) hx hb dX11_isCrossed_33 (by decide) ?_
    refine lv_icmp_ne (tgt := 52) hx hb dX11_isCrossed_34 (by decide) (fun c5 => ?_) (fun c5 => ?_)
    · have hf := ite_f c5 hf
      refine lv_iload hx hb dX11_isCrossed_52 (lv_at hl 0 rfl) ?_
      refine lv_iload hx hb dX11_isCrossed_54 (lv_at hl 1 rfl) ?_
      refine lv_icmp_ge (tgt := 63) hx hb dX11_isCrossed_56 (by decide) (fun c6 => ?_) (fun c6 => ?_)
      · have hf := ite_t c6 hf
        refine lv_iconst (v := 0) hx hb dX11_isCrossed_63 (by decide) ?_
        cases hf
        exact k_zret () hQ9 hx hb hr hlocks (Or.inl rfl) rfl hP hD hS (Nat.le_of_ble_eq_true rfl) (Nat.le_of_ble_eq_true rfl) dX11_isCrossed_64
      · have hf := ite_f c6 hf
        refine lv_iconst (v := 1) hx hb dX11_isCrossed_59 (by decide) ?_
        refine lv_goto (tgt := 64) hx hb dX11_isCrossed_60 (by decide) ?_
        cases hf
        exact k_zret () hQ9 hx hb hr hlocks (Or.inr rfl) rfl hP hD hS (Nat.le_of_ble_eq_true rfl) (Nat.le_of_ble_eq_true rfl) dX11_isCrossed_64
    · have hf := ite_t c5 hf
      refine lv_iload hx hb dX11_isCrossed_37 (lv_at hl 1 rfl) ?_
      refine lv_iload hx hb dX11_isCrossed_39 (lv_at hl 0 rfl) ?_
      refine lv_icmp_ge (tgt := 48) hx hb dX11_isCrossed_41 (by decide) (fun c7 => ?_) (fun c7 => ?_)
      · have hf := ite_t c7 hf
        refine lv_iconst (v := 0) hx hb dX11_isCrossed_48 (by decide) ?_
        refine lv_goto (tgt := 64) hx hb dX11_isCrossed_49 (by decide) ?_
        cases hf
        exact k_zret () hQ9 hx hb hr hlocks (Or.inl rfl) rfl hP hD hS (Nat.le_of_ble_eq_true rfl) (Nat.le_of_ble_eq_true rfl) dX11_isCrossed_64
      · have hf := ite_f c7 hf
        refine lv_iconst (v := 1) hx hb dX11_isCrossed_44 (by decide) ?_
        refine lv_goto (tgt := 64) hx hb dX11_isCrossed_45 (by decide) ?_
        cases hf
        exact k_zret () hQ9 hx hb hr hlocks (Or.inr rfl) rfl hP hD hS (Nat.le_of_ble_eq_true rfl) (Nat.le_of_ble_eq_true rfl) dX11_isCrossed_64
  · have hf := ite_t c1 hf
    refine lv_iconst (v := 0) hx hb dX11_isCrossed_4 (by decide) ?_
    cases hf
    exact k_zret () hQ9 hx hb hr hlocks (Or.inl rfl) rfl hP hD hS (Nat.le_of_ble_eq_true rfl) (Nat.le_of_ble_eq_true rfl) dX11_isCrossed_5
abbrev rm_Model_stateOf : Room := { frames := 0, cells := 0, slots := 0, locals := 0 }
set_option maxHeartbeats 4000000 in
set_option maxRecDepth 100000 in
theorem c_Model_stateOf (l : Launch) (D : va_G) (cI cZ : ClassId) (t : Nat → Nat) (sz : Nat) (p0 p1 p2 p3 zr : Int32) (hf : f_Model_stateOf p0 p1 p2 p3 = some zr) : Met l yX11_stateOf wsX11_stateOf rm_Model_stateOf (va_Pc [.int p0, .int p1, .int p2, .int p3] (pcW D cI cZ t [] sz)) (va_Qi (fun r (u : Unit) => r = zr) (fun u t' => bW D (va_A [] sz) [] t') (va_A [] sz)) 0 0 (va_A [] sz) := by
  refine Met.ofW (cc := cX11_stateOf) (maxL := 4) (ret := (some .int)) (by decide) rfl ?_
  intro p e s m args below meth c s₁ B hml hv
  obtain ⟨rfl, hsz, hP, hD0, hE⟩ := hv
  have hx := B.exec
  have hb := B.bytes
  have hr := B.returns
  have hts := atoms_spec (ws := wsX11_stateOf) B.pre
  have hown : s.vm.findClass RX11 = some m.cls := findClass_of_methodNamed B.named
  have hlocks := B.notSynchronized
  subst hsz
  have hD := hD0.self (sz := s.heap.size)
  generalize hAe : va_A [] s.heap.size = A at hD hE ⊢
  have hA : ∀ q : Nat, s.heap.size ≤ q → A q := fun q h => by rw [← hAe]; exact Or.inr h
  clear hAe hD0
  have hS : va_S A s.heap s.heap [] := va_S.rf
  have hK := hE.1
  have hl := lv_entry ([.int p0, .int p1, .int p2, .int p3]) (n := 4) (Nat.le_of_ble_eq_true rfl)
  rw [lg_entry_eq]
  generalize (lg_sl ([.int p0, .int p1, .int p2, .int p3]) ++ List.replicate (4 - (lg_sl ([.int p0, .int p1, .int p2, .int p3])).length) Slot.unset).toArray = ls at hl ⊢
  have hl : lv_has ls 4 [(0, .int p0), (1, .int p1), (2, .int p2), (3, .int p3)] := hl
  refine w_q (fun Q9 hQ9 => ?_)
  unfold f_Model_stateOf at hf
  refine lv_iload_n hx hb dX11_stateOf_0 rfl (lv_at hl 0 rfl) ?_
  refine lv_iconst (v := 2) hx hb dX11_stateOf_1 (by decide) ?_
  refine lv_imul hx hb dX11_stateOf_2 ?_
  refine lv_iload_n hx hb dX11_stateOf_3 rfl (lv_at hl 1 rfl) ?_
  refine lv_iadd hx hb dX11_stateOf_4 ?_
  refine lv_bipush (v := 42) hx hb dX11_stateOf_5 (by decide) ?_
  refine lv_imul hx hb dX11_stateOf_7 ?_
  refine lv_iload_n hx hb dX11_stateOf_8 rfl (lv_at hl 2 rfl) ?_
  refine lv_iadd hx hb dX11_stateOf_9 ?_
  refine lv_iconst (v := 5) hx hb dX11_stateOf_10 (by decide) ?_
  refine lv_imul hx hb dX11_stateOf_11 ?_
  refine lv_iload_n hx hb dX11_stateOf_12 rfl (lv_at hl 3 rfl) ?_
  refine lv_iadd hx hb dX11_stateOf_13 ?_
  obtain ⟨x1, ex1, hf⟩ := nm_s hf
  refine lv_tpx ex1 ?_
  cases hf
  exact k_iret () hQ9 hx hb hr hlocks rfl hP hD hS (Nat.le_of_ble_eq_true rfl) (Nat.le_of_ble_eq_true rfl) dX11_stateOf_14
abbrev rm_Model_keepsTime : Room := { frames := 1, cells := 0, slots := 0, locals := 30 }
set_option maxHeartbeats 4000000 in
set_option maxRecDepth 100000 in
theorem c_Model_keepsTime (l : Launch) (D : va_G) (cI cZ : ClassId) (t : Nat → Nat) (a_Model a_Model_now a_Model_past a_Model_bits a_Model_sizes a_Model_sheets a_Model_least a_Model_ways a_Model_handOf a_Model_crossedAt a_Model_strokeOf a_Model_prices a_Model_hitAt a_Model_carried sz : Nat) (Model_now : Nat → Int32) (Model_kept Model_findings Model_thenCost Model_thenWays Model_bothCost Model_bothWays p1 p2 p3 zr : Int32) (hf : f_Model_keepsTime Model_now p1 p2 p3 = some zr) : Met l yX11_keepsTime wsX11_keepsTime rm_Model_keepsTime (va_Pc [.ref a_Model, .int p1, .int p2, .int p3] (pcW D cI cZ t [(a_Model, .inr (11, [.ref a_Model_now, .ref a_Model_past, .int Model_kept, .int Model_findings, .ref a_Model_bits, .ref a_Model_sizes, .ref a_Model_sheets, .ref a_Model_least, .ref a_Model_ways, .int Model_thenCost, .int Model_thenWays, .int Model_bothCost, .int Model_bothWays, .ref a_Model_handOf, .ref a_Model_crossedAt, .ref a_Model_strokeOf, .ref a_Model_prices, .ref a_Model_hitAt, .ref a_Model_carried])), (a_Model_now, .inl (cI, 187, .inl Model_now))] sz)) (va_Qi (fun r (u : Unit) => r = zr) (fun u t' => bW D (va_A [(a_Model, .inr (11, [.ref a_Model_now, .ref a_Model_past, .int Model_kept, .int Model_findings, .ref a_Model_bits, .ref a_Model_sizes, .ref a_Model_sheets, .ref a_Model_least, .ref a_Model_ways, .int Model_thenCost, .int Model_thenWays, .int Model_bothCost, .int Model_bothWays, .ref a_Model_handOf, .ref a_Model_crossedAt, .ref a_Model_strokeOf, .ref a_Model_prices, .ref a_Model_hitAt, .ref a_Model_carried])), (a_Model_now, .inl (cI, 187, .inl Model_now))] sz) [(a_Model, .inr (11, [.ref a_Model_now, .ref a_Model_past, .int Model_kept, .int Model_findings, .ref a_Model_bits, .ref a_Model_sizes, .ref a_Model_sheets, .ref a_Model_least, .ref a_Model_ways, .int Model_thenCost, .int Model_thenWays, .int Model_bothCost, .int Model_bothWays, .ref a_Model_handOf, .ref a_Model_crossedAt, .ref a_Model_strokeOf, .ref a_Model_prices, .ref a_Model_hitAt, .ref a_Model_carried])), (a_Model_now, .inl (cI, 187, .inl Model_now))] t') (va_A [(a_Model, .inr (11, [.ref a_Model_now, .ref a_Model_past, .int Model_kept, .int Model_findings, .ref a_Model_bits, .ref a_Model_sizes, .ref a_Model_sheets, .ref a_Model_least, .ref a_Model_ways, .int Model_thenCost, .int Model_thenWays, .int Model_bothCost, .int Model_bothWays, .ref a_Model_handOf, .ref a_Model_crossedAt, .ref a_Model_strokeOf, .ref a_Model_prices, .ref a_Model_hitAt, .ref a_Model_carried])), (a_Model_now, .inl (cI, 187, .inl Model_now))] sz)) 0 0 (va_A [(a_Model, .inr (11, [.ref a_Model_now, .ref a_Model_past, .int Model_kept, .int Model_findings, .ref a_Model_bits, .ref a_Model_sizes, .ref a_Model_sheets, .ref a_Model_least, .ref a_Model_ways, .int Model_thenCost, .int Model_thenWays, .int Model_bothCost, .int Model_bothWays, .ref a_Model_handOf, .ref a_Model_crossedAt, .ref a_Model_strokeOf, .ref a_Model_prices, .ref a_Model_hitAt, .ref a_Model_carried])), (a_Model_now, .inl (cI, 187, .inl Model_now))] sz) := by
  refine Met.ofW (cc := cX11_keepsTime) (maxL := 5) (ret := (some .boolean)) (by decide) rfl ?_
  intro p e s m args below meth c s₁ B hml hv
  obtain ⟨rfl, hsz, hP, hD0, hE⟩ := hv
  have hx := B.exec
  have hb := B.bytes
  have hr := B.returns
  have hts := atoms_spec (ws := wsX11_keepsTime) B.pre
  have hown : s.vm.findClass RX11 = some m.cls := findClass_of_methodNamed B.named
  have hlocks := B.notSynchronized
  subst hsz
  have hD := hD0.self (sz := s.heap.size)
  generalize hAe : va_A [(a_Model, .inr (11, [.ref a_Model_now, .ref a_Model_past, .int Model_kept, .int Model_findings, .ref a_Model_bits, .ref a_Model_sizes, .ref a_Model_sheets, .ref a_Model_least, .ref a_Model_ways, .int Model_thenCost, .int Model_thenWays, .int Model_bothCost, .int Model_bothWays, .ref a_Model_handOf, .ref a_Model_crossedAt, .ref a_Model_strokeOf, .ref a_Model_prices, .ref a_Model_hitAt, .ref a_Model_carried])), (a_Model_now, .inl (cI, 187, .inl Model_now))] s.heap.size = A at hD hE ⊢
  have hA : ∀ q : Nat, s.heap.size ≤ q → A q := fun q h => by rw [← hAe]; exact Or.inr h
  clear hAe hD0
  have hS : va_S A s.heap s.heap [] := va_S.rf
  have hK := hE.1
  have hl := lv_entry ([.ref a_Model, .int p1, .int p2, .int p3]) (n := 5) (Nat.le_of_ble_eq_true rfl)
  rw [lg_entry_eq]
  generalize (lg_sl ([.ref a_Model, .int p1, .int p2, .int p3]) ++ List.replicate (5 - (lg_sl ([.ref a_Model, .int p1, .int p2, .int p3])).length) Slot.unset).toArray = ls at hl ⊢
  have hl : lv_has ls 5 [(0, .ref a_Model), (1, .int p1), (2, .int p2), (3, .int p3)] := hl
  refine w_q (fun Q9 hQ9 => ?_)
  have fl9 := hts (.fieldLink RX11 9 "StickRoomModel" "now" "[I") (by decide +kernel)
  have inX11 : ∀ w ∈ wsX110, w ∈ wsX11_keepsTime := by decide +kernel
  have ml92 := hts (.methodLink RX11 92 Lib.Math.abs.name) (by decide +kernel)
  have ms_abs := hts (.static Lib.Math.abs.name) (by decide +kernel)
  have mini := hts (.initialized "java/lang/Math") (by decide +kernel)
  have mc_abs := hts (.code Lib.Math.abs.name Lib.Math.abs.code 1 (some .int)) (by decide +kernel)
  unfold f_Model_keepsTime at hf
  refine lv_iload_n hx hb dX11_keepsTime_0 rfl (lv_at hl 1 rfl) ?_
  refine lv_if_ne (tgt := 6) hx hb dX11_keepsTime_1 (by decide) (fun c1 => ?_) (fun c1 => ?_)
  · have hf := ite_f c1 hf
    refine lv_iload_n hx hb dX11_keepsTime_6 rfl (lv_at hl 2 rfl) ?_
    refine lv_aload_n hx hb dX11_keepsTime_7 rfl (lv_at hl 0 rfl) ?_
    refine lv_iload_n hx hb dX11_keepsTime_8 rfl (lv_at hl 1 rfl) ?_
    obtain ⟨r2, g3, hf⟩ := b1_s hf
    refine k_Vi (rest := [.int p2]) ⟨hx, hb, hml, hown, hts⟩ (c_Model_tickOf l D cI cZ t a_Model a_Model_now a_Model_past a_Model_bits a_Model_sizes a_Model_sheets a_Model_least a_Model_ways a_Model_handOf a_Model_crossedAt a_Model_strokeOf a_Model_prices a_Model_hitAt a_Model_carried s.heap.size Model_now Model_kept Model_findings Model_thenCost Model_thenWays Model_bothCost Model_bothWays p1 r2 g3) (cwV 1 hts gX11_keepsTime_X11_tickOf rfl rfl rfl (by decide +kernel) ⟨Nat.le_of_ble_eq_true rfl, Nat.le_of_ble_eq_true rfl⟩) hE hP hD hS hA [0, 1] [] rfl rfl rfl rfl rfl 0 11 rfl rfl rfl rfl hl.1 rfl (Nat.le_of_ble_eq_true rfl) dX11_keepsTime_9 ⟨Nat.le_of_ble_eq_true rfl, Nat.le_of_ble_eq_true rfl⟩ (fun rq uq H locs hrq hP hD hS => ?_)
    refine lv_tpx hrq.symm ?_
    have hP : va_P D vwCl [(a_Model, .inr (11, [.ref a_Model_now, .ref a_Model_past, .int Model_kept, .int Model_findings, .ref a_Model_bits, .ref a_Model_sizes, .ref a_Model_sheets, .ref a_Model_least, .ref a_Model_ways, .int Model_thenCost, .int Model_thenWays, .int Model_bothCost, .int Model_bothWays, .ref a_Model_handOf, .ref a_Model_crossedAt, .ref a_Model_strokeOf, .ref a_Model_prices, .ref a_Model_hitAt, .ref a_Model_carried])), (a_Model_now, .inl (cI, 187, .inl Model_now))] H := hP
    have hD : va_D A [(a_Model, .inr (11, [.ref a_Model_now, .ref a_Model_past, .int Model_kept, .int Model_findings, .ref a_Model_bits, .ref a_Model_sizes, .ref a_Model_sheets, .ref a_Model_least, .ref a_Model_ways, .int Model_thenCost, .int Model_thenWays, .int Model_bothCost, .int Model_bothWays, .ref a_Model_handOf, .ref a_Model_crossedAt, .ref a_Model_strokeOf, .ref a_Model_prices, .ref a_Model_hitAt, .ref a_Model_carried])), (a_Model_now, .inl (cI, 187, .inl Model_now))] := hD
    refine lv_isub hx hb dX11_keepsTime_12 ?_
    obtain ⟨x4, ex4, hf⟩ := nm_s hf
    refine lv_tpx ex4 ?_
    refine lv_istore (lv' := [(4, .int x4), (0, .ref a_Model), (1, .int p1), (2, .int p2), (3, .int p3)]) hx hb dX11_keepsTime_13 hl (by decide) rfl (fun ls hl => ?_)
    refine lv_iload hx hb dX11_keepsTime_15 (lv_at hl 0 rfl) ?_
    refine lv_aload_n hx hb dX11_keepsTime_17 rfl (lv_at hl 1 rfl) ?_
    refine va_get (D := D) (ci := 11) (v := .ref a_Model_now) (C := RX11) (T := TX11) (N := 19) hx hb hts inX11 hown hK hP 0 rfl rfl 0 (by decide) fl9 (fun _ h9 => h9) rfl dX11_keepsTime_18 ?_
    refine lv_iconst (v := 2) hx hb dX11_keepsTime_21 (by decide) ?_
    obtain ⟨ix5, x5, ex5, hf⟩ := rd_s hf
    refine va_iald hx hb hK hP 1 0 rfl rfl ix5 dX11_keepsTime_22 ?_
    refine lv_tpx ex5 ?_
    refine lv_icmp_lt (tgt := 52) hx hb dX11_keepsTime_23 (by decide) (fun c6 => ?_) (fun c6 => ?_)
    · have hf := ite_t c6 hf
      refine lv_iconst (v := 0) hx hb dX11_keepsTime_52 (by decide) ?_
      cases hf
      exact k_zret () hQ9 hx hb hr hlocks (Or.inl rfl) rfl hP hD hS (Nat.le_of_ble_eq_true rfl) (Nat.le_of_ble_eq_true rfl) dX11_keepsTime_53
    · have hf := ite_f c6 hf
      refine lv_iload hx hb dX11_keepsTime_26 (lv_at hl 0 rfl) ?_
      refine lv_aload_n hx hb dX11_keepsTime_28 rfl (lv_at hl 1 rfl) ?_
      refine va_get (D := D) (ci := 11) (v := .ref a_Model_now) (C := RX11) (T := TX11) (N := 19) hx hb hts inX11 hown hK hP 0 rfl rfl 0 (by decide) fl9 (fun _ h9 => h9) rfl dX11_keepsTime_29 ?_
      refine lv_iconst (v := 3) hx hb dX11_keepsTime_32 (by decide) ?_
      obtain ⟨ix7, x7, ex7, hf⟩ := rd_s hf
      refine va_iald hx hb hK hP 1 0 rfl rfl ix7 dX11_keepsTime_33 ?_
      refine lv_tpx ex7 ?_
      refine lv_iload_n hx hb dX11_keepsTime_34 rfl (lv_at hl 4 rfl) ?_
      refine lv_aload_n hx hb dX11_keepsTime_35 rfl (lv_at hl 1 rfl) ?_
      refine lv_iload_n hx hb dX11_keepsTime_36 rfl (lv_at hl 2 rfl) ?_
      obtain ⟨r8, g9, hf⟩ := b1_s hf
      refine k_Vi (rest := [.int p3, .int x7, .int x4]) ⟨hx, hb, hml, hown, hts⟩ (c_Model_heightOf l D cI cZ t a_Model a_Model_now a_Model_past a_Model_bits a_Model_sizes a_Model_sheets a_Model_least a_Model_ways a_Model_handOf a_Model_crossedAt a_Model_strokeOf a_Model_prices a_Model_hitAt a_Model_carried H.size Model_now Model_kept Model_findings Model_thenCost Model_thenWays Model_bothCost Model_bothWays p1 r8 g9) (cwV 1 hts gX11_keepsTime_X11_heightOf rfl rfl rfl (by decide +kernel) ⟨Nat.le_of_ble_eq_true rfl, Nat.le_of_ble_eq_true rfl⟩) hE hP hD hS hA [0, 1] [] rfl rfl rfl rfl rfl 0 11 rfl rfl rfl rfl hl.1 rfl (Nat.le_of_ble_eq_true rfl) dX11_keepsTime_37 ⟨Nat.le_of_ble_eq_true rfl, Nat.le_of_ble_eq_true rfl⟩ (fun rq uq H locs hrq hP hD hS => ?_)
      refine lv_tpx hrq.symm ?_
      have hP : va_P D vwCl [(a_Model, .inr (11, [.ref a_Model_now, .ref a_Model_past, .int Model_kept, .int Model_findings, .ref a_Model_bits, .ref a_Model_sizes, .ref a_Model_sheets, .ref a_Model_least, .ref a_Model_ways, .int Model_thenCost, .int Model_thenWays, .int Model_bothCost, .int Model_bothWays, .ref a_Model_handOf, .ref a_Model_crossedAt, .ref a_Model_strokeOf, .ref a_Model_prices, .ref a_Model_hitAt, .ref a_Model_carried])), (a_Model_now, .inl (cI, 187, .inl Model_now))] H := hP
      have hD : va_D A [(a_Model, .inr (11, [.ref a_Model_now, .ref a_Model_past, .int Model_kept, .int Model_findings, .ref a_Model_bits, .ref a_Model_sizes, .ref a_Model_sheets, .ref a_Model_least, .ref a_Model_ways, .int Model_thenCost, .int Model_thenWays, .int Model_bothCost, .int Model_bothWays, .ref a_Model_handOf, .ref a_Model_crossedAt, .ref a_Model_strokeOf, .ref a_Model_prices, .ref a_Model_hitAt, .ref a_Model_carried])), (a_Model_now, .inl (cI, 187, .inl Model_now))] := hD
      refine lv_isub hx hb dX11_keepsTime_40 ?_
      refine va_mabs hx hb (hml.trans hl.1.symm) hown ml92 ms_abs mini mc_abs (Nat.le_of_ble_eq_true rfl) (Nat.le_of_ble_eq_true rfl) (Nat.le_of_ble_eq_true rfl) (Nat.le_of_ble_eq_true rfl) dX11_keepsTime_41 ?_
      obtain ⟨x10, ex10, hf⟩ := nm_s hf
      refine lv_tpx ex10 ?_
      refine lv_imul hx hb dX11_keepsTime_44 ?_
      refine lv_icmp_lt (tgt := 52) hx hb dX11_keepsTime_45 (by decide) (fun c11 => ?_) (fun c11 => ?_)
      · have hf := ite_t c11 hf
        refine lv_iconst (v := 0) hx hb dX11_keepsTime_52 (by decide) ?_
        cases hf
        exact k_zret () hQ9 hx hb hr hlocks (Or.inl rfl) rfl hP hD hS (Nat.le_of_ble_eq_true rfl) (Nat.le_of_ble_eq_true rfl) dX11_keepsTime_53
      · have hf := ite_f c11 hf
        refine lv_iconst (v := 1) hx hb dX11_keepsTime_48 (by decide) ?_
        refine lv_goto (tgt := 53) hx hb dX11_keepsTime_49 (by decide) ?_
        cases hf
        exact k_zret () hQ9 hx hb hr hlocks (Or.inr rfl) rfl hP hD hS (Nat.le_of_ble_eq_true rfl) (Nat.le_of_ble_eq_true rfl) dX11_keepsTime_53
  · have hf := ite_t c1 hf
    refine lv_iconst (v := 1) hx hb dX11_keepsTime_4 (by decide) ?_
    cases hf
    exact k_zret () hQ9 hx hb hr hlocks (Or.inr rfl) rfl hP hD hS (Nat.le_of_ble_eq_true rfl) (Nat.le_of_ble_eq_true rfl) dX11_keepsTime_5
abbrev rm_Model_otherThen : Room := { frames := 1, cells := 0, slots := 0, locals := 21 }
set_option maxHeartbeats 4000000 in
set_option maxRecDepth 100000 in
theorem c_Model_otherThen (l : Launch) (D : va_G) (cI cZ : ClassId) (t : Nat → Nat) (a_Model a_Model_now a_Model_past a_Model_bits a_Model_sizes a_Model_sheets a_Model_least a_Model_ways a_Model_handOf a_Model_crossedAt a_Model_strokeOf a_Model_prices a_Model_hitAt a_Model_carried sz : Nat) (Model_now : Nat → Int32) (Model_kept Model_findings Model_thenCost Model_thenWays Model_bothCost Model_bothWays p1 p2 zr : Int32) (hf : f_Model_otherThen Model_now p1 p2 = some zr) : Met l yX11_otherThen wsX11_otherThen rm_Model_otherThen (va_Pc [.ref a_Model, .int p1, .int p2] (pcW D cI cZ t [(a_Model, .inr (11, [.ref a_Model_now, .ref a_Model_past, .int Model_kept, .int Model_findings, .ref a_Model_bits, .ref a_Model_sizes, .ref a_Model_sheets, .ref a_Model_least, .ref a_Model_ways, .int Model_thenCost, .int Model_thenWays, .int Model_bothCost, .int Model_bothWays, .ref a_Model_handOf, .ref a_Model_crossedAt, .ref a_Model_strokeOf, .ref a_Model_prices, .ref a_Model_hitAt, .ref a_Model_carried])), (a_Model_now, .inl (cI, 187, .inl Model_now))] sz)) (va_Qi (fun r (u : Unit) => r = zr) (fun u t' => bW D (va_A [(a_Model, .inr (11, [.ref a_Model_now, .ref a_Model_past, .int Model_kept, .int Model_findings, .ref a_Model_bits, .ref a_Model_sizes, .ref a_Model_sheets, .ref a_Model_least, .ref a_Model_ways, .int Model_thenCost, .int Model_thenWays, .int Model_bothCost, .int Model_bothWays, .ref a_Model_handOf, .ref a_Model_crossedAt, .ref a_Model_strokeOf, .ref a_Model_prices, .ref a_Model_hitAt, .ref a_Model_carried])), (a_Model_now, .inl (cI, 187, .inl Model_now))] sz) [(a_Model, .inr (11, [.ref a_Model_now, .ref a_Model_past, .int Model_kept, .int Model_findings, .ref a_Model_bits, .ref a_Model_sizes, .ref a_Model_sheets, .ref a_Model_least, .ref a_Model_ways, .int Model_thenCost, .int Model_thenWays, .int Model_bothCost, .int Model_bothWays, .ref a_Model_handOf, .ref a_Model_crossedAt, .ref a_Model_strokeOf, .ref a_Model_prices, .ref a_Model_hitAt, .ref a_Model_carried])), (a_Model_now, .inl (cI, 187, .inl Model_now))] t') (va_A [(a_Model, .inr (11, [.ref a_Model_now, .ref a_Model_past, .int Model_kept, .int Model_findings, .ref a_Model_bits, .ref a_Model_sizes, .ref a_Model_sheets, .ref a_Model_least, .ref a_Model_ways, .int Model_thenCost, .int Model_thenWays, .int Model_bothCost, .int Model_bothWays, .ref a_Model_handOf, .ref a_Model_crossedAt, .ref a_Model_strokeOf, .ref a_Model_prices, .ref a_Model_hitAt, .ref a_Model_carried])), (a_Model_now, .inl (cI, 187, .inl Model_now))] sz)) 0 0 (va_A [(a_Model, .inr (11, [.ref a_Model_now, .ref a_Model_past, .int Model_kept, .int Model_findings, .ref a_Model_bits, .ref a_Model_sizes, .ref a_Model_sheets, .ref a_Model_least, .ref a_Model_ways, .int Model_thenCost, .int Model_thenWays, .int Model_bothCost, .int Model_bothWays, .ref a_Model_handOf, .ref a_Model_crossedAt, .ref a_Model_strokeOf, .ref a_Model_prices, .ref a_Model_hitAt, .ref a_Model_carried])), (a_Model_now, .inl (cI, 187, .inl Model_now))] sz) := by
  refine Met.ofW (cc := cX11_otherThen) (maxL := 3) (ret := (some .int)) (by decide) rfl ?_
  intro p e s m args below meth c s₁ B hml hv
  obtain ⟨rfl, hsz, hP, hD0, hE⟩ := hv
  have hx := B.exec
  have hb := B.bytes
  have hr := B.returns
  have hts := atoms_spec (ws := wsX11_otherThen) B.pre
  have hown : s.vm.findClass RX11 = some m.cls := findClass_of_methodNamed B.named
  have hlocks := B.notSynchronized
  subst hsz
  have hD := hD0.self (sz := s.heap.size)
  generalize hAe : va_A [(a_Model, .inr (11, [.ref a_Model_now, .ref a_Model_past, .int Model_kept, .int Model_findings, .ref a_Model_bits, .ref a_Model_sizes, .ref a_Model_sheets, .ref a_Model_least, .ref a_Model_ways, .int Model_thenCost, .int Model_thenWays, .int Model_bothCost, .int Model_bothWays, .ref a_Model_handOf, .ref a_Model_crossedAt, .ref a_Model_strokeOf, .ref a_Model_prices, .ref a_Model_hitAt, .ref a_Model_carried])), (a_Model_now, .inl (cI, 187, .inl Model_now))] s.heap.size = A at hD hE ⊢
  have hA : ∀ q : Nat, s.heap.size ≤ q → A q := fun q h => by rw [← hAe]; exact Or.inr h
  clear hAe hD0
  have hS : va_S A s.heap s.heap [] := va_S.rf
  have hK := hE.1
  have hl := lv_entry ([.ref a_Model, .int p1, .int p2]) (n := 3) (Nat.le_of_ble_eq_true rfl)
  rw [lg_entry_eq]
  generalize (lg_sl ([.ref a_Model, .int p1, .int p2]) ++ List.replicate (3 - (lg_sl ([.ref a_Model, .int p1, .int p2])).length) Slot.unset).toArray = ls at hl ⊢
  have hl : lv_has ls 3 [(0, .ref a_Model), (1, .int p1), (2, .int p2)] := hl
  refine w_q (fun Q9 hQ9 => ?_)
  unfold f_Model_otherThen at hf
  refine lv_aload_n hx hb dX11_otherThen_0 rfl (lv_at hl 0 rfl) ?_
  refine lv_iload_n hx hb dX11_otherThen_1 rfl (lv_at hl 1 rfl) ?_
  obtain ⟨r1, g2, hf⟩ := b1_s hf
  refine k_Vi (rest := []) ⟨hx, hb, hml, hown, hts⟩ (c_Model_graces l D cI cZ t a_Model a_Model_now a_Model_past a_Model_bits a_Model_sizes a_Model_sheets a_Model_least a_Model_ways a_Model_handOf a_Model_crossedAt a_Model_strokeOf a_Model_prices a_Model_hitAt a_Model_carried s.heap.size Model_now Model_kept Model_findings Model_thenCost Model_thenWays Model_bothCost Model_bothWays p1 r1 g2) (cwV 1 hts gX11_otherThen_X11_graces rfl rfl rfl (by decide +kernel) ⟨Nat.le_of_ble_eq_true rfl, Nat.le_of_ble_eq_true rfl⟩) hE hP hD hS hA [0, 1] [] rfl rfl rfl rfl rfl 0 11 rfl rfl rfl rfl hl.1 rfl (Nat.le_of_ble_eq_true rfl) dX11_otherThen_2 ⟨Nat.le_of_ble_eq_true rfl, Nat.le_of_ble_eq_true rfl⟩ (fun rq uq H locs hrq hP hD hS => ?_)
  refine lv_tpx hrq.symm ?_
  have hP : va_P D vwCl [(a_Model, .inr (11, [.ref a_Model_now, .ref a_Model_past, .int Model_kept, .int Model_findings, .ref a_Model_bits, .ref a_Model_sizes, .ref a_Model_sheets, .ref a_Model_least, .ref a_Model_ways, .int Model_thenCost, .int Model_thenWays, .int Model_bothCost, .int Model_bothWays, .ref a_Model_handOf, .ref a_Model_crossedAt, .ref a_Model_strokeOf, .ref a_Model_prices, .ref a_Model_hitAt, .ref a_Model_carried])), (a_Model_now, .inl (cI, 187, .inl Model_now))] H := hP
  have hD : va_D A [(a_Model, .inr (11, [.ref a_Model_now, .ref a_Model_past, .int Model_kept, .int Model_findings, .ref a_Model_bits, .ref a_Model_sizes, .ref a_Model_sheets, .ref a_Model_least, .ref a_Model_ways, .int Model_thenCost, .int Model_thenWays, .int Model_bothCost, .int Model_bothWays, .ref a_Model_handOf, .ref a_Model_crossedAt, .ref a_Model_strokeOf, .ref a_Model_prices, .ref a_Model_hitAt, .ref a_Model_carried])), (a_Model_now, .inl (cI, 187, .inl Model_now))] := hD
  refine lv_if_le (tgt := 16) hx hb dX11_otherThen_5 (by decide) (fun c3 => ?_) (fun c3 => ?_)
  · have hf := ite_t c3 hf
    refine lv_iload_n hx hb dX11_otherThen_16 rfl (lv_at hl 2 rfl) ?_
    cases hf
    exact k_iret () hQ9 hx hb hr hlocks rfl hP hD hS (Nat.le_of_ble_eq_true rfl) (Nat.le_of_ble_eq_true rfl) dX11_otherThen_17
  · have hf := ite_f c3 hf
    refine lv_iconst (v := 2) hx hb dX11_otherThen_8 (by decide) ?_
    refine lv_iconst (v := 2) hx hb dX11_otherThen_9 (by decide) ?_
    refine lv_iload_n hx hb dX11_otherThen_10 rfl (lv_at hl 1 rfl) ?_
    refine lv_imul hx hb dX11_otherThen_11 ?_
    refine lv_iadd hx hb dX11_otherThen_12 ?_
    refine lv_goto (tgt := 17) hx hb dX11_otherThen_13 (by decide) ?_
    cases hf
    exact k_iret () hQ9 hx hb hr hlocks rfl hP hD hS (Nat.le_of_ble_eq_true rfl) (Nat.le_of_ble_eq_true rfl) dX11_otherThen_17
abbrev rm_Model_awkwardness : Room := { frames := 1, cells := 0, slots := 0, locals := 21 }
set_option maxHeartbeats 4000000 in
set_option maxRecDepth 100000 in
theorem c_Model_awkwardness (l : Launch) (D : va_G) (cI cZ : ClassId) (t : Nat → Nat) (a_Model a_Model_now a_Model_past a_Model_bits a_Model_sizes a_Model_sheets a_Model_least a_Model_ways a_Model_handOf a_Model_crossedAt a_Model_strokeOf a_Model_prices a_Model_hitAt a_Model_carried sz : Nat) (Model_now : Nat → Int32) (Model_kept Model_findings Model_thenCost Model_thenWays Model_bothCost Model_bothWays p1 p2 p3 p4 zr : Int32) (hf : f_Model_awkwardness Model_now p1 p2 p3 p4 = some zr) : Met l yX11_awkwardness wsX11_awkwardness rm_Model_awkwardness (va_Pc [.ref a_Model, .int p1, .int p2, .int p3, .int p4] (pcW D cI cZ t [(a_Model, .inr (11, [.ref a_Model_now, .ref a_Model_past, .int Model_kept, .int Model_findings, .ref a_Model_bits, .ref a_Model_sizes, .ref a_Model_sheets, .ref a_Model_least, .ref a_Model_ways, .int Model_thenCost, .int Model_thenWays, .int Model_bothCost, .int Model_bothWays, .ref a_Model_handOf, .ref a_Model_crossedAt, .ref a_Model_strokeOf, .ref a_Model_prices, .ref a_Model_hitAt, .ref a_Model_carried])), (a_Model_now, .inl (cI, 187, .inl Model_now))] sz)) (va_Qi (fun r (u : Unit) => r = zr) (fun u t' => bW D (va_A [(a_Model, .inr (11, [.ref a_Model_now, .ref a_Model_past, .int Model_kept, .int Model_findings, .ref a_Model_bits, .ref a_Model_sizes, .ref a_Model_sheets, .ref a_Model_least, .ref a_Model_ways, .int Model_thenCost, .int Model_thenWays, .int Model_bothCost, .int Model_bothWays, .ref a_Model_handOf, .ref a_Model_crossedAt, .ref a_Model_strokeOf, .ref a_Model_prices, .ref a_Model_hitAt, .ref a_Model_carried])), (a_Model_now, .inl (cI, 187, .inl Model_now))] sz) [(a_Model, .inr (11, [.ref a_Model_now, .ref a_Model_past, .int Model_kept, .int Model_findings, .ref a_Model_bits, .ref a_Model_sizes, .ref a_Model_sheets, .ref a_Model_least, .ref a_Model_ways, .int Model_thenCost, .int Model_thenWays, .int Model_bothCost, .int Model_bothWays, .ref a_Model_handOf, .ref a_Model_crossedAt, .ref a_Model_strokeOf, .ref a_Model_prices, .ref a_Model_hitAt, .ref a_Model_carried])), (a_Model_now, .inl (cI, 187, .inl Model_now))] t') (va_A [(a_Model, .inr (11, [.ref a_Model_now, .ref a_Model_past, .int Model_kept, .int Model_findings, .ref a_Model_bits, .ref a_Model_sizes, .ref a_Model_sheets, .ref a_Model_least, .ref a_Model_ways, .int Model_thenCost, .int Model_thenWays, .int Model_bothCost, .int Model_bothWays, .ref a_Model_handOf, .ref a_Model_crossedAt, .ref a_Model_strokeOf, .ref a_Model_prices, .ref a_Model_hitAt, .ref a_Model_carried])), (a_Model_now, .inl (cI, 187, .inl Model_now))] sz)) 0 0 (va_A [(a_Model, .inr (11, [.ref a_Model_now, .ref a_Model_past, .int Model_kept, .int Model_findings, .ref a_Model_bits, .ref a_Model_sizes, .ref a_Model_sheets, .ref a_Model_least, .ref a_Model_ways, .int Model_thenCost, .int Model_thenWays, .int Model_bothCost, .int Model_bothWays, .ref a_Model_handOf, .ref a_Model_crossedAt, .ref a_Model_strokeOf, .ref a_Model_prices, .ref a_Model_hitAt, .ref a_Model_carried])), (a_Model_now, .inl (cI, 187, .inl Model_now))] sz) := by
  refine Met.ofW (cc := cX11_awkwardness) (maxL := 6) (ret := (some .int)) (by decide) rfl ?_
  intro p e s m args below meth c s₁ B hml hv
  obtain ⟨rfl, hsz, hP, hD0, hE⟩ := hv
  have hx := B.exec
  have hb := B.bytes
  have hr := B.returns
  have hts := atoms_spec (ws := wsX11_awkwardness) B.pre
  have hown : s.vm.findClass RX11 = some m.cls := findClass_of_methodNamed B.named
  have hlocks := B.notSynchronized
  subst hsz
  have hD := hD0.self (sz := s.heap.size)
  generalize hAe : va_A [(a_Model, .inr (11, [.ref a_Model_now, .ref a_Model_past, .int Model_kept, .int Model_findings, .ref a_Model_bits, .ref a_Model_sizes, .ref a_Model_sheets, .ref a_Model_least, .ref a_Model_ways, .int Model_thenCost, .int Model_thenWays, .int Model_bothCost, .int Model_bothWays, .ref a_Model_handOf, .ref a_Model_crossedAt, .ref a_Model_strokeOf, .ref a_Model_prices, .ref a_Model_hitAt, .ref a_Model_carried])), (a_Model_now, .inl (cI, 187, .inl Model_now))] s.heap.size = A at hD hE ⊢
  have hA : ∀ q : Nat, s.heap.size ≤ q → A q := fun q h => by rw [← hAe]; exact Or.inr h
  clear hAe hD0
  have hS : va_S A s.heap s.heap [] := va_S.rf
  have hK := hE.1
  have hl := lv_entry ([.ref a_Model, .int p1, .int p2, .int p3, .int p4]) (n := 6) (Nat.le_of_ble_eq_true rfl)
  rw [lg_entry_eq]
  generalize (lg_sl ([.ref a_Model, .int p1, .int p2, .int p3, .int p4]) ++ List.replicate (6 - (lg_sl ([.ref a_Model, .int p1, .int p2, .int p3, .int p4])).length) Slot.unset).toArray = ls at hl ⊢
  have hl : lv_has ls 6 [(0, .ref a_Model), (1, .int p1), (2, .int p2), (3, .int p3), (4, .int p4)] := hl
  refine w_q (fun Q9 hQ9 => ?_)
  have fl9 := hts (.fieldLink RX11 9 "StickRoomModel" "now" "[I") (by decide +kernel)
  have inX11 : ∀ w ∈ wsX110, w ∈ wsX11_awkwardness := by decide +kernel
  have hJ84 : ∀ (l1 k0 k1 : Int32) (H : Heap) (locs : List Loc) (ls : Array Slot), va_P D vwCl [(a_Model, .inr (11, [.ref a_Model_now, .ref a_Model_past, .int Model_kept, .int Model_findings, .ref a_Model_bits, .ref a_Model_sizes, .ref a_Model_sheets, .ref a_Model_least, .ref a_Model_ways, .int Model_thenCost, .int Model_thenWays, .int Model_bothCost, .int Model_bothWays, .ref a_Model_handOf, .ref a_Model_crossedAt, .ref a_Model_strokeOf, .ref a_Model_prices, .ref a_Model_hitAt, .ref a_Model_carried])), (a_Model_now, .inl (cI, 187, .inl Model_now))] H → va_D A [(a_Model, .inr (11, [.ref a_Model_now, .ref a_Model_past, .int Model_kept, .int Model_findings, .ref a_Model_bits, .ref a_Model_sizes, .ref a_Model_sheets, .ref a_Model_least, .ref a_Model_ways, .int Model_thenCost, .int Model_thenWays, .int Model_bothCost, .int Model_bothWays, .ref a_Model_handOf, .ref a_Model_crossedAt, .ref a_Model_strokeOf, .ref a_Model_prices, .ref a_Model_hitAt, .ref a_Model_carried])), (a_Model_now, .inl (cI, 187, .inl Model_now))] → va_S A s.heap H locs → lv_has ls 6 [(0, .ref a_Model), (1, .int l1)] → f_Model_awkwardness_84 Model_now  l1 k0 k1 = some zr → W p l e (headSpec wsX11_awkwardness rm_Model_awkwardness).room s m ([.ref a_Model, .int p1, .int p2, .int p3, .int p4] : List Value).toArray below meth c H locs 0 0 Q9 (F0 m 84 ls [.int k1, .int k0]) := by
    intro l1 k0 k1 H locs ls hP hD hS hl hf
    unfold f_Model_awkwardness_84 at hf
    refine lv_iadd hx hb dX11_awkwardness_84 ?_
    obtain ⟨x1, ex1, hf⟩ := nm_s hf
    refine lv_tpx ex1 ?_
    refine lv_istore (lv' := [(5, .int x1), (0, .ref a_Model), (1, .int l1)]) hx hb dX11_awkwardness_85 hl (by decide) rfl (fun ls hl => ?_)
    refine lv_iload hx hb dX11_awkwardness_87 (lv_at hl 0 rfl) ?_
    refine lv_aload_n hx hb dX11_awkwardness_89 rfl (lv_at hl 1 rfl) ?_
    refine lv_iload_n hx hb dX11_awkwardness_90 rfl (lv_at hl 2 rfl) ?_
    obtain ⟨r2, g3, hf⟩ := b1_s hf
    refine k_Vi (rest := [.int x1]) ⟨hx, hb, hml, hown, hts⟩ (c_Model_graces l D cI cZ t a_Model a_Model_now a_Model_past a_Model_bits a_Model_sizes a_Model_sheets a_Model_least a_Model_ways a_Model_handOf a_Model_crossedAt a_Model_strokeOf a_Model_prices a_Model_hitAt a_Model_carried H.size Model_now Model_kept Model_findings Model_thenCost Model_thenWays Model_bothCost Model_bothWays l1 r2 g3) (cwV 1 hts gX11_awkwardness_X11_graces rfl rfl rfl (by decide +kernel) ⟨Nat.le_of_ble_eq_true rfl, Nat.le_of_ble_eq_true rfl⟩) hE hP hD hS hA [0, 1] [] rfl rfl rfl rfl rfl 0 11 rfl rfl rfl rfl hl.1 rfl (Nat.le_of_ble_eq_true rfl) dX11_awkwardness_91 ⟨Nat.le_of_ble_eq_true rfl, Nat.le_of_ble_eq_true rfl⟩ (fun rq uq H locs hrq hP hD hS => ?_)
    refine lv_tpx hrq.symm ?_
    have hP : va_P D vwCl [(a_Model, .inr (11, [.ref a_Model_now, .ref a_Model_past, .int Model_kept, .int Model_findings, .ref a_Model_bits, .ref a_Model_sizes, .ref a_Model_sheets, .ref a_Model_least, .ref a_Model_ways, .int Model_thenCost, .int Model_thenWays, .int Model_bothCost, .int Model_bothWays, .ref a_Model_handOf, .ref a_Model_crossedAt, .ref a_Model_strokeOf, .ref a_Model_prices, .ref a_Model_hitAt, .ref a_Model_carried])), (a_Model_now, .inl (cI, 187, .inl Model_now))] H := hP
    have hD : va_D A [(a_Model, .inr (11, [.ref a_Model_now, .ref a_Model_past, .int Model_kept, .int Model_findings, .ref a_Model_bits, .ref a_Model_sizes, .ref a_Model_sheets, .ref a_Model_least, .ref a_Model_ways, .int Model_thenCost, .int Model_thenWays, .int Model_bothCost, .int Model_bothWays, .ref a_Model_handOf, .ref a_Model_crossedAt, .ref a_Model_strokeOf, .ref a_Model_prices, .ref a_Model_hitAt, .ref a_Model_carried])), (a_Model_now, .inl (cI, 187, .inl Model_now))] := hD
    refine lv_if_le (tgt := 111) hx hb dX11_awkwardness_94 (by decide) (fun c4 => ?_) (fun c4 => ?_)
    · have hf := ite_t c4 hf
      refine lv_iconst (v := 0) hx hb dX11_awkwardness_111 (by decide) ?_
      refine lv_iadd hx hb dX11_awkwardness_112 ?_
      obtain ⟨x5, ex5, hf⟩ := nm_s hf
      refine lv_tpx ex5 ?_
      refine lv_istore (lv' := [(5, .int x5), (0, .ref a_Model), (1, .int l1)]) hx hb dX11_awkwardness_113 hl (by decide) rfl (fun ls hl => ?_)
      refine lv_iload hx hb dX11_awkwardness_115 (lv_at hl 0 rfl) ?_
      cases hf
      exact k_iret () hQ9 hx hb hr hlocks rfl hP hD hS (Nat.le_of_ble_eq_true rfl) (Nat.le_of_ble_eq_true rfl) dX11_awkwardness_117
    · have hf := ite_f c4 hf
      refine lv_aload_n hx hb dX11_awkwardness_97 rfl (lv_at hl 1 rfl) ?_
      refine lv_iload_n hx hb dX11_awkwardness_98 rfl (lv_at hl 2 rfl) ?_
      refine lv_iconst (v := 1) hx hb dX11_awkwardness_99 (by decide) ?_
      refine lv_isub hx hb dX11_awkwardness_100 ?_
      obtain ⟨r6, g7, hf⟩ := b1_s hf
      refine k_Vi (rest := [.int x1]) ⟨hx, hb, hml, hown, hts⟩ (c_Model_graces l D cI cZ t a_Model a_Model_now a_Model_past a_Model_bits a_Model_sizes a_Model_sheets a_Model_least a_Model_ways a_Model_handOf a_Model_crossedAt a_Model_strokeOf a_Model_prices a_Model_hitAt a_Model_carried H.size Model_now Model_kept Model_findings Model_thenCost Model_thenWays Model_bothCost Model_bothWays (l1 - 1) r6 g7) (cwV 1 hts gX11_awkwardness_X11_graces rfl rfl rfl (by decide +kernel) ⟨Nat.le_of_ble_eq_true rfl, Nat.le_of_ble_eq_true rfl⟩) hE hP hD hS hA [0, 1] [] rfl rfl rfl rfl rfl 0 11 rfl rfl rfl rfl hl.1 rfl (Nat.le_of_ble_eq_true rfl) dX11_awkwardness_101 ⟨Nat.le_of_ble_eq_true rfl, Nat.le_of_ble_eq_true rfl⟩ (fun rq uq H locs hrq hP hD hS => ?_)
      refine lv_tpx hrq.symm ?_
      have hP : va_P D vwCl [(a_Model, .inr (11, [.ref a_Model_now, .ref a_Model_past, .int Model_kept, .int Model_findings, .ref a_Model_bits, .ref a_Model_sizes, .ref a_Model_sheets, .ref a_Model_least, .ref a_Model_ways, .int Model_thenCost, .int Model_thenWays, .int Model_bothCost, .int Model_bothWays, .ref a_Model_handOf, .ref a_Model_crossedAt, .ref a_Model_strokeOf, .ref a_Model_prices, .ref a_Model_hitAt, .ref a_Model_carried])), (a_Model_now, .inl (cI, 187, .inl Model_now))] H := hP
      have hD : va_D A [(a_Model, .inr (11, [.ref a_Model_now, .ref a_Model_past, .int Model_kept, .int Model_findings, .ref a_Model_bits, .ref a_Model_sizes, .ref a_Model_sheets, .ref a_Model_least, .ref a_Model_ways, .int Model_thenCost, .int Model_thenWays, .int Model_bothCost, .int Model_bothWays, .ref a_Model_handOf, .ref a_Model_crossedAt, .ref a_Model_strokeOf, .ref a_Model_prices, .ref a_Model_hitAt, .ref a_Model_carried])), (a_Model_now, .inl (cI, 187, .inl Model_now))] := hD
      refine lv_if_le (tgt := 111) hx hb dX11_awkwardness_104 (by decide) (fun c8 => ?_) (fun c8 => ?_)
      · have hf := ite_t c8 hf
        refine lv_iconst (v := 0) hx hb dX11_awkwardness_111 (by decide) ?_
        refine lv_iadd hx hb dX11_awkwardness_112 ?_
        obtain ⟨x9, ex9, hf⟩ := nm_s hf
        refine lv_tpx ex9 ?_
        refine lv_istore (lv' := [(5, .int x9), (0, .ref a_Model), (1, .int l1)]) hx hb dX11_awkwardness_113 hl (by decide) rfl (fun ls hl => ?_)
        refine lv_iload hx hb dX11_awkwardness_115 (lv_at hl 0 rfl) ?_
        cases hf
        exact k_iret () hQ9 hx hb hr hlocks rfl hP hD hS (Nat.le_of_ble_eq_true rfl) (Nat.le_of_ble_eq_true rfl) dX11_awkwardness_117
      · have hf := ite_f c8 hf
        refine lv_iconst (v := 3) hx hb dX11_awkwardness_107 (by decide) ?_
        refine lv_goto (tgt := 112) hx hb dX11_awkwardness_108 (by decide) ?_
        refine lv_iadd hx hb dX11_awkwardness_112 ?_
        obtain ⟨x10, ex10, hf⟩ := nm_s hf
        refine lv_tpx ex10 ?_
        refine lv_istore (lv' := [(5, .int x10), (0, .ref a_Model), (1, .int l1)]) hx hb dX11_awkwardness_113 hl (by decide) rfl (fun ls hl => ?_)
        refine lv_iload hx hb dX11_awkwardness_115 (lv_at hl 0 rfl) ?_
        cases hf
        exact k_iret () hQ9 hx hb hr hlocks rfl hP hD hS (Nat.le_of_ble_eq_true rfl) (Nat.le_of_ble_eq_true rfl) dX11_awkwardness_117
  have hJ36 : ∀ (l1 l2 l3 k0 k1 : Int32) (H : Heap) (locs : List Loc) (ls : Array Slot), va_P D vwCl [(a_Model, .inr (11, [.ref a_Model_now, .ref a_Model_past, .int Model_kept, .int Model_findings, .ref a_Model_bits, .ref a_Model_sizes, .ref a_Model_sheets, .ref a_Model_least, .ref a_Model_ways, .int Model_thenCost, .int Model_thenWays, .int Model_bothCost, .int Model_bothWays, .ref a_Model_handOf, .ref a_Model_crossedAt, .ref a_Model_strokeOf, .ref a_Model_prices, .ref a_Model_hitAt, .ref a_Model_carried])), (a_Model_now, .inl (cI, 187, .inl Model_now))] H → va_D A [(a_Model, .inr (11, [.ref a_Model_now, .ref a_Model_past, .int Model_kept, .int Model_findings, .ref a_Model_bits, .ref a_Model_sizes, .ref a_Model_sheets, .ref a_Model_least, .ref a_Model_ways, .int Model_thenCost, .int Model_thenWays, .int Model_bothCost, .int Model_bothWays, .ref a_Model_handOf, .ref a_Model_crossedAt, .ref a_Model_strokeOf, .ref a_Model_prices, .ref a_Model_hitAt, .ref a_Model_carried])), (a_Model_now, .inl (cI, 187, .inl Model_now))] → va_S A s.heap H locs → lv_has ls 6 [(0, .ref a_Model), (1, .int l1), (2, .int l2), (3, .int l3)] → f_Model_awkwardness_36 Model_now  l1 l2 l3 k0 k1 = some zr → W p l e (headSpec wsX11_awkwardness rm_Model_awkwardness).room s m ([.ref a_Model, .int p1, .int p2, .int p3, .int p4] : List Value).toArray below meth c H locs 0 0 Q9 (F0 m 36 ls [.int k1, .int k0]) := by
    intro l1 l2 l3 k0 k1 H locs ls hP hD hS hl hf
    unfold f_Model_awkwardness_36 at hf
    refine lv_iadd hx hb dX11_awkwardness_36 ?_
    obtain ⟨x11, ex11, hf⟩ := nm_s hf
    refine lv_tpx ex11 ?_
    refine lv_istore (lv' := [(5, .int x11), (0, .ref a_Model), (1, .int l1), (2, .int l2), (3, .int l3)]) hx hb dX11_awkwardness_37 hl (by decide) rfl (fun ls hl => ?_)
    refine lv_iload_n hx hb dX11_awkwardness_39 rfl (lv_at hl 3 rfl) ?_
    refine lv_iload_n hx hb dX11_awkwardness_40 rfl (lv_at hl 4 rfl) ?_
    refine lv_icmp_ne (tgt := 115) hx hb dX11_awkwardness_41 (by decide) (fun c12 => ?_) (fun c12 => ?_)
    · have hf := ite_f c12 hf
      refine lv_iload hx hb dX11_awkwardness_115 (lv_at hl 0 rfl) ?_
      cases hf
      exact k_iret () hQ9 hx hb hr hlocks rfl hP hD hS (Nat.le_of_ble_eq_true rfl) (Nat.le_of_ble_eq_true rfl) dX11_awkwardness_117
    · have hf := ite_t c12 hf
      obtain ⟨x13, ex13, hf⟩ := nm_s hf
      refine lv_iinc (v := x13) (lv' := [(5, .int x13), (0, .ref a_Model), (1, .int l1), (2, .int l2), (3, .int l3)]) hx hb dX11_awkwardness_44 hl (k := 0) rfl (by rw [ex13]; rfl) (by decide) rfl (fun ls hl => ?_)
      refine lv_iload hx hb dX11_awkwardness_47 (lv_at hl 0 rfl) ?_
      refine lv_aload_n hx hb dX11_awkwardness_49 rfl (lv_at hl 1 rfl) ?_
      refine va_get (D := D) (ci := 11) (v := .ref a_Model_now) (C := RX11) (T := TX11) (N := 19) hx hb hts inX11 hown hK hP 0 rfl rfl 0 (by decide) fl9 (fun _ h9 => h9) rfl dX11_awkwardness_50 ?_
      refine lv_bipush (v := 27) hx hb dX11_awkwardness_53 (by decide) ?_
      refine lv_iload_n hx hb dX11_awkwardness_55 rfl (lv_at hl 2 rfl) ?_
      refine lv_iadd hx hb dX11_awkwardness_56 ?_
      obtain ⟨ix14, x14, ex14, hf⟩ := rd_s hf
      refine va_iald hx hb hK hP 1 0 rfl rfl ix14 dX11_awkwardness_57 ?_
      refine lv_tpx ex14 ?_
      refine lv_aload_n hx hb dX11_awkwardness_58 rfl (lv_at hl 1 rfl) ?_
      refine va_get (D := D) (ci := 11) (v := .ref a_Model_now) (C := RX11) (T := TX11) (N := 19) hx hb hts inX11 hown hK hP 0 rfl rfl 0 (by decide) fl9 (fun _ h9 => h9) rfl dX11_awkwardness_59 ?_
      refine lv_bipush (v := 27) hx hb dX11_awkwardness_62 (by decide) ?_
      refine lv_iload_n hx hb dX11_awkwardness_64 rfl (lv_at hl 2 rfl) ?_
      refine lv_iadd hx hb dX11_awkwardness_65 ?_
      refine lv_iconst (v := 1) hx hb dX11_awkwardness_66 (by decide) ?_
      refine lv_isub hx hb dX11_awkwardness_67 ?_
      obtain ⟨ix15, x15, ex15, hf⟩ := rd_s hf
      refine va_iald hx hb hK hP 1 0 rfl rfl ix15 dX11_awkwardness_68 ?_
      refine lv_tpx ex15 ?_
      refine lv_isub hx hb dX11_awkwardness_69 ?_
      refine lv_aload_n hx hb dX11_awkwardness_70 rfl (lv_at hl 1 rfl) ?_
      refine va_get (D := D) (ci := 11) (v := .ref a_Model_now) (C := RX11) (T := TX11) (N := 19) hx hb hts inX11 hown hK hP 0 rfl rfl 0 (by decide) fl9 (fun _ h9 => h9) rfl dX11_awkwardness_71 ?_
      refine lv_iconst (v := 5) hx hb dX11_awkwardness_74 (by decide) ?_
      obtain ⟨ix16, x16, ex16, hf⟩ := rd_s hf
      refine va_iald hx hb hK hP 1 0 rfl rfl ix16 dX11_awkwardness_75 ?_
      refine lv_tpx ex16 ?_
      refine lv_icmp_ge (tgt := 83) hx hb dX11_awkwardness_76 (by decide) (fun c17 => ?_) (fun c17 => ?_)
      · have hf := ite_t c17 hf
        refine lv_iconst (v := 0) hx hb dX11_awkwardness_83 (by decide) ?_
        exact hJ84 l1 x13 0 H locs ls hP hD hS (lv_sub hl [1, 2] rfl) hf
      · have hf := ite_f c17 hf
        refine lv_iconst (v := 1) hx hb dX11_awkwardness_79 (by decide) ?_
        refine lv_goto (tgt := 84) hx hb dX11_awkwardness_80 (by decide) ?_
        exact hJ84 l1 x13 1 H locs ls hP hD hS (lv_sub hl [1, 2] rfl) hf
  have hJ10 : ∀ (l1 l2 l3 k0 : Int32) (H : Heap) (locs : List Loc) (ls : Array Slot), va_P D vwCl [(a_Model, .inr (11, [.ref a_Model_now, .ref a_Model_past, .int Model_kept, .int Model_findings, .ref a_Model_bits, .ref a_Model_sizes, .ref a_Model_sheets, .ref a_Model_least, .ref a_Model_ways, .int Model_thenCost, .int Model_thenWays, .int Model_bothCost, .int Model_bothWays, .ref a_Model_handOf, .ref a_Model_crossedAt, .ref a_Model_strokeOf, .ref a_Model_prices, .ref a_Model_hitAt, .ref a_Model_carried])), (a_Model_now, .inl (cI, 187, .inl Model_now))] H → va_D A [(a_Model, .inr (11, [.ref a_Model_now, .ref a_Model_past, .int Model_kept, .int Model_findings, .ref a_Model_bits, .ref a_Model_sizes, .ref a_Model_sheets, .ref a_Model_least, .ref a_Model_ways, .int Model_thenCost, .int Model_thenWays, .int Model_bothCost, .int Model_bothWays, .ref a_Model_handOf, .ref a_Model_crossedAt, .ref a_Model_strokeOf, .ref a_Model_prices, .ref a_Model_hitAt, .ref a_Model_carried])), (a_Model_now, .inl (cI, 187, .inl Model_now))] → va_S A s.heap H locs → lv_has ls 6 [(0, .ref a_Model), (1, .int l1), (2, .int l2), (3, .int l3)] → f_Model_awkwardness_10 Model_now  l1 l2 l3 k0 = some zr → W p l e (headSpec wsX11_awkwardness rm_Model_awkwardness).room s m ([.ref a_Model, .int p1, .int p2, .int p3, .int p4] : List Value).toArray below meth c H locs 0 0 Q9 (F0 m 10 ls [.int k0]) := by
    intro l1 l2 l3 k0 H locs ls hP hD hS hl hf
    unfold f_Model_awkwardness_10 at hf
    refine lv_istore (lv' := [(5, .int k0), (0, .ref a_Model), (1, .int l1), (2, .int l2), (3, .int l3)]) hx hb dX11_awkwardness_10 hl (by decide) rfl (fun ls hl => ?_)
    refine lv_iload hx hb dX11_awkwardness_12 (lv_at hl 0 rfl) ?_
    refine lv_aload_n hx hb dX11_awkwardness_14 rfl (lv_at hl 1 rfl) ?_
    refine va_get (D := D) (ci := 11) (v := .ref a_Model_now) (C := RX11) (T := TX11) (N := 19) hx hb hts inX11 hown hK hP 0 rfl rfl 0 (by decide) fl9 (fun _ h9 => h9) rfl dX11_awkwardness_15 ?_
    refine lv_bipush (v := 7) hx hb dX11_awkwardness_18 (by decide) ?_
    refine lv_iload_n hx hb dX11_awkwardness_20 rfl (lv_at hl 2 rfl) ?_
    refine lv_iadd hx hb dX11_awkwardness_21 ?_
    obtain ⟨ix18, x18, ex18, hf⟩ := rd_s hf
    refine va_iald hx hb hK hP 1 0 rfl rfl ix18 dX11_awkwardness_22 ?_
    refine lv_tpx ex18 ?_
    refine lv_iconst (v := 1) hx hb dX11_awkwardness_23 (by decide) ?_
    refine lv_icmp_ne (tgt := 35) hx hb dX11_awkwardness_24 (by decide) (fun c19 => ?_) (fun c19 => ?_)
    · have hf := ite_f c19 hf
      refine lv_iconst (v := 0) hx hb dX11_awkwardness_35 (by decide) ?_
      exact hJ36 l1 l2 l3 k0 0 H locs ls hP hD hS (lv_sub hl [1, 2, 3, 4] rfl) hf
    · have hf := ite_t c19 hf
      refine lv_iload_n hx hb dX11_awkwardness_27 rfl (lv_at hl 3 rfl) ?_
      refine lv_if_ne (tgt := 35) hx hb dX11_awkwardness_28 (by decide) (fun c20 => ?_) (fun c20 => ?_)
      · have hf := ite_f c20 hf
        refine lv_iconst (v := 0) hx hb dX11_awkwardness_35 (by decide) ?_
        exact hJ36 l1 l2 l3 k0 0 H locs ls hP hD hS (lv_sub hl [1, 2, 3, 4] rfl) hf
      · have hf := ite_t c20 hf
        refine lv_iconst (v := 1) hx hb dX11_awkwardness_31 (by decide) ?_
        refine lv_goto (tgt := 36) hx hb dX11_awkwardness_32 (by decide) ?_
        exact hJ36 l1 l2 l3 k0 1 H locs ls hP hD hS (lv_sub hl [1, 2, 3, 4] rfl) hf
  unfold f_Model_awkwardness at hf
  refine lv_iload hx hb dX11_awkwardness_0 (lv_at hl 4 rfl) ?_
  refine lv_if_eq (tgt := 9) hx hb dX11_awkwardness_2 (by decide) (fun c21 => ?_) (fun c21 => ?_)
  · have hf := ite_t c21 hf
    refine lv_iconst (v := 0) hx hb dX11_awkwardness_9 (by decide) ?_
    exact hJ10 p1 p2 p3 0 s.heap [] ls hP hD hS (lv_sub hl [0, 1, 2, 3] rfl) hf
  · have hf := ite_f c21 hf
    refine lv_iconst (v := 2) hx hb dX11_awkwardness_5 (by decide) ?_
    refine lv_goto (tgt := 10) hx hb dX11_awkwardness_6 (by decide) ?_
    exact hJ10 p1 p2 p3 2 s.heap [] ls hP hD hS (lv_sub hl [0, 1, 2, 3] rfl) hf
abbrev rm_Model_canBe : Room := { frames := 2, cells := 0, slots := 0, locals := 54 }
set_option maxHeartbeats 4000000 in
set_option maxRecDepth 100000 in
theorem c_Model_canBe (l : Launch) (D : va_G) (cI cZ : ClassId) (t : Nat → Nat) (a_Model a_Model_now a_Model_past a_Model_bits a_Model_sizes a_Model_sheets a_Model_least a_Model_ways a_Model_handOf a_Model_crossedAt a_Model_strokeOf a_Model_prices a_Model_hitAt a_Model_carried sz : Nat) (Model_now : Nat → Int32) (Model_kept Model_findings Model_thenCost Model_thenWays Model_bothCost Model_bothWays p1 p2 p3 p4 zr : Int32) (hf : f_Model_canBe Model_now p1 p2 p3 p4 = some zr) : Met l yX11_canBe wsX11_canBe rm_Model_canBe (va_Pc [.ref a_Model, .int p1, .int p2, .int p3, .int p4] (pcW D cI cZ t [(a_Model, .inr (11, [.ref a_Model_now, .ref a_Model_past, .int Model_kept, .int Model_findings, .ref a_Model_bits, .ref a_Model_sizes, .ref a_Model_sheets, .ref a_Model_least, .ref a_Model_ways, .int Model_thenCost, .int Model_thenWays, .int Model_bothCost, .int Model_bothWays, .ref a_Model_handOf, .ref a_Model_crossedAt, .ref a_Model_strokeOf, .ref a_Model_prices, .ref a_Model_hitAt, .ref a_Model_carried])), (a_Model_now, .inl (cI, 187, .inl Model_now))] sz)) (va_Qi (fun r (u : Unit) => r = zr) (fun u t' => bW D (va_A [(a_Model, .inr (11, [.ref a_Model_now, .ref a_Model_past, .int Model_kept, .int Model_findings, .ref a_Model_bits, .ref a_Model_sizes, .ref a_Model_sheets, .ref a_Model_least, .ref a_Model_ways, .int Model_thenCost, .int Model_thenWays, .int Model_bothCost, .int Model_bothWays, .ref a_Model_handOf, .ref a_Model_crossedAt, .ref a_Model_strokeOf, .ref a_Model_prices, .ref a_Model_hitAt, .ref a_Model_carried])), (a_Model_now, .inl (cI, 187, .inl Model_now))] sz) [(a_Model, .inr (11, [.ref a_Model_now, .ref a_Model_past, .int Model_kept, .int Model_findings, .ref a_Model_bits, .ref a_Model_sizes, .ref a_Model_sheets, .ref a_Model_least, .ref a_Model_ways, .int Model_thenCost, .int Model_thenWays, .int Model_bothCost, .int Model_bothWays, .ref a_Model_handOf, .ref a_Model_crossedAt, .ref a_Model_strokeOf, .ref a_Model_prices, .ref a_Model_hitAt, .ref a_Model_carried])), (a_Model_now, .inl (cI, 187, .inl Model_now))] t') (va_A [(a_Model, .inr (11, [.ref a_Model_now, .ref a_Model_past, .int Model_kept, .int Model_findings, .ref a_Model_bits, .ref a_Model_sizes, .ref a_Model_sheets, .ref a_Model_least, .ref a_Model_ways, .int Model_thenCost, .int Model_thenWays, .int Model_bothCost, .int Model_bothWays, .ref a_Model_handOf, .ref a_Model_crossedAt, .ref a_Model_strokeOf, .ref a_Model_prices, .ref a_Model_hitAt, .ref a_Model_carried])), (a_Model_now, .inl (cI, 187, .inl Model_now))] sz)) 0 0 (va_A [(a_Model, .inr (11, [.ref a_Model_now, .ref a_Model_past, .int Model_kept, .int Model_findings, .ref a_Model_bits, .ref a_Model_sizes, .ref a_Model_sheets, .ref a_Model_least, .ref a_Model_ways, .int Model_thenCost, .int Model_thenWays, .int Model_bothCost, .int Model_bothWays, .ref a_Model_handOf, .ref a_Model_crossedAt, .ref a_Model_strokeOf, .ref a_Model_prices, .ref a_Model_hitAt, .ref a_Model_carried])), (a_Model_now, .inl (cI, 187, .inl Model_now))] sz) := by
  refine Met.ofW (cc := cX11_canBe) (maxL := 7) (ret := (some .boolean)) (by decide) rfl ?_
  intro p e s m args below meth c s₁ B hml hv
  obtain ⟨rfl, hsz, hP, hD0, hE⟩ := hv
  have hx := B.exec
  have hb := B.bytes
  have hr := B.returns
  have hts := atoms_spec (ws := wsX11_canBe) B.pre
  have hown : s.vm.findClass RX11 = some m.cls := findClass_of_methodNamed B.named
  have hlocks := B.notSynchronized
  subst hsz
  have hD := hD0.self (sz := s.heap.size)
  generalize hAe : va_A [(a_Model, .inr (11, [.ref a_Model_now, .ref a_Model_past, .int Model_kept, .int Model_findings, .ref a_Model_bits, .ref a_Model_sizes, .ref a_Model_sheets, .ref a_Model_least, .ref a_Model_ways, .int Model_thenCost, .int Model_thenWays, .int Model_bothCost, .int Model_bothWays, .ref a_Model_handOf, .ref a_Model_crossedAt, .ref a_Model_strokeOf, .ref a_Model_prices, .ref a_Model_hitAt, .ref a_Model_carried])), (a_Model_now, .inl (cI, 187, .inl Model_now))] s.heap.size = A at hD hE ⊢
  have hA : ∀ q : Nat, s.heap.size ≤ q → A q := fun q h => by rw [← hAe]; exact Or.inr h
  clear hAe hD0
  have hS : va_S A s.heap s.heap [] := va_S.rf
  have hK := hE.1
  have hl := lv_entry ([.ref a_Model, .int p1, .int p2, .int p3, .int p4]) (n := 7) (Nat.le_of_ble_eq_true rfl)
  rw [lg_entry_eq]
  generalize (lg_sl ([.ref a_Model, .int p1, .int p2, .int p3, .int p4]) ++ List.replicate (7 - (lg_sl ([.ref a_Model, .int p1, .int p2, .int p3, .int p4])).length) Slot.unset).toArray = ls at hl ⊢
  have hl : lv_has ls 7 [(0, .ref a_Model), (1, .int p1), (2, .int p2), (3, .int p3), (4, .int p4)] := hl
  refine w_q (fun Q9 hQ9 => ?_)
  have fl9 := hts (.fieldLink RX11 9 "StickRoomModel" "now" "[I") (by decide +kernel)
  have inX11 : ∀ w ∈ wsX110, w ∈ wsX11_canBe := by decide +kernel
  have hJ71 : ∀ (l1 l3 l5 k0 : Int32) (H : Heap) (locs : List Loc) (ls : Array Slot), va_P D vwCl [(a_Model, .inr (11, [.ref a_Model_now, .ref a_Model_past, .int Model_kept, .int Model_findings, .ref a_Model_bits, .ref a_Model_sizes, .ref a_Model_sheets, .ref a_Model_least, .ref a_Model_ways, .int Model_thenCost, .int Model_thenWays, .int Model_bothCost, .int Model_bothWays, .ref a_Model_handOf, .ref a_Model_crossedAt, .ref a_Model_strokeOf, .ref a_Model_prices, .ref a_Model_hitAt, .ref a_Model_carried])), (a_Model_now, .inl (cI, 187, .inl Model_now))] H → va_D A [(a_Model, .inr (11, [.ref a_Model_now, .ref a_Model_past, .int Model_kept, .int Model_findings, .ref a_Model_bits, .ref a_Model_sizes, .ref a_Model_sheets, .ref a_Model_least, .ref a_Model_ways, .int Model_thenCost, .int Model_thenWays, .int Model_bothCost, .int Model_bothWays, .ref a_Model_handOf, .ref a_Model_crossedAt, .ref a_Model_strokeOf, .ref a_Model_prices, .ref a_Model_hitAt, .ref a_Model_carried])), (a_Model_now, .inl (cI, 187, .inl Model_now))] → va_S A s.heap H locs → lv_has ls 7 [(0, .ref a_Model), (1, .int l1), (3, .int l3), (5, .int l5)] → f_Model_canBe_71 Model_now  l1 l3 l5 k0 = some zr → W p l e (headSpec wsX11_canBe rm_Model_canBe).room s m ([.ref a_Model, .int p1, .int p2, .int p3, .int p4] : List Value).toArray below meth c H locs 0 0 Q9 (F0 m 71 ls [.int k0]) := by
    intro l1 l3 l5 k0 H locs ls hP hD hS hl hf
    unfold f_Model_canBe_71 at hf
    refine lv_istore (lv' := [(6, .int k0), (0, .ref a_Model), (1, .int l1), (3, .int l3), (5, .int l5)]) hx hb dX11_canBe_71 hl (by decide) rfl (fun ls hl => ?_)
    refine lv_iload hx hb dX11_canBe_73 (lv_at hl 0 rfl) ?_
    refine lv_if_eq (tgt := 101) hx hb dX11_canBe_75 (by decide) (fun c1 => ?_) (fun c1 => ?_)
    · have hf := ite_t c1 hf
      refine lv_iconst (v := 0) hx hb dX11_canBe_101 (by decide) ?_
      cases hf
      exact k_zret () hQ9 hx hb hr hlocks (Or.inl rfl) rfl hP hD hS (Nat.le_of_ble_eq_true rfl) (Nat.le_of_ble_eq_true rfl) dX11_canBe_102
    · have hf := ite_f c1 hf
      refine lv_aload_n hx hb dX11_canBe_78 rfl (lv_at hl 1 rfl) ?_
      refine lv_iload_n hx hb dX11_canBe_79 rfl (lv_at hl 3 rfl) ?_
      refine lv_iload hx hb dX11_canBe_80 (lv_at hl 4 rfl) ?_
      refine lv_aload_n hx hb dX11_canBe_82 rfl (lv_at hl 1 rfl) ?_
      refine lv_iconst (v := 1) hx hb dX11_canBe_83 (by decide) ?_
      refine lv_iconst (v := 2) hx hb dX11_canBe_84 (by decide) ?_
      refine lv_iload_n hx hb dX11_canBe_85 rfl (lv_at hl 2 rfl) ?_
      refine lv_imul hx hb dX11_canBe_86 ?_
      refine lv_iadd hx hb dX11_canBe_87 ?_
      obtain ⟨r2, g3, hf⟩ := b1_s hf
      refine k_Vi (rest := [.int l5, .int l3, .ref a_Model]) ⟨hx, hb, hml, hown, hts⟩ (c_Model_heightOf l D cI cZ t a_Model a_Model_now a_Model_past a_Model_bits a_Model_sizes a_Model_sheets a_Model_least a_Model_ways a_Model_handOf a_Model_crossedAt a_Model_strokeOf a_Model_prices a_Model_hitAt a_Model_carried H.size Model_now Model_kept Model_findings Model_thenCost Model_thenWays Model_bothCost Model_bothWays (1 + (2 * l1)) r2 g3) (cwV 1 hts gX11_canBe_X11_heightOf rfl rfl rfl (by decide +kernel) ⟨Nat.le_of_ble_eq_true rfl, Nat.le_of_ble_eq_true rfl⟩) hE hP hD hS hA [0, 1] [] rfl rfl rfl rfl rfl 0 11 rfl rfl rfl rfl hl.1 rfl (Nat.le_of_ble_eq_true rfl) dX11_canBe_88 ⟨Nat.le_of_ble_eq_true rfl, Nat.le_of_ble_eq_true rfl⟩ (fun rq uq H locs hrq hP hD hS => ?_)
      refine lv_tpx hrq.symm ?_
      have hP : va_P D vwCl [(a_Model, .inr (11, [.ref a_Model_now, .ref a_Model_past, .int Model_kept, .int Model_findings, .ref a_Model_bits, .ref a_Model_sizes, .ref a_Model_sheets, .ref a_Model_least, .ref a_Model_ways, .int Model_thenCost, .int Model_thenWays, .int Model_bothCost, .int Model_bothWays, .ref a_Model_handOf, .ref a_Model_crossedAt, .ref a_Model_strokeOf, .ref a_Model_prices, .ref a_Model_hitAt, .ref a_Model_carried])), (a_Model_now, .inl (cI, 187, .inl Model_now))] H := hP
      have hD : va_D A [(a_Model, .inr (11, [.ref a_Model_now, .ref a_Model_past, .int Model_kept, .int Model_findings, .ref a_Model_bits, .ref a_Model_sizes, .ref a_Model_sheets, .ref a_Model_least, .ref a_Model_ways, .int Model_thenCost, .int Model_thenWays, .int Model_bothCost, .int Model_bothWays, .ref a_Model_handOf, .ref a_Model_crossedAt, .ref a_Model_strokeOf, .ref a_Model_prices, .ref a_Model_hitAt, .ref a_Model_carried])), (a_Model_now, .inl (cI, 187, .inl Model_now))] := hD
      obtain ⟨r4, g5, hf⟩ := b1_s hf
      refine k_Vi (rest := []) ⟨hx, hb, hml, hown, hts⟩ (c_Model_keepsTime l D cI cZ t a_Model a_Model_now a_Model_past a_Model_bits a_Model_sizes a_Model_sheets a_Model_least a_Model_ways a_Model_handOf a_Model_crossedAt a_Model_strokeOf a_Model_prices a_Model_hitAt a_Model_carried H.size Model_now Model_kept Model_findings Model_thenCost Model_thenWays Model_bothCost Model_bothWays l3 l5 r2 r4 g5) (cwV 3 hts gX11_canBe_X11_keepsTime rfl rfl rfl (by decide +kernel) ⟨Nat.le_of_ble_eq_true rfl, Nat.le_of_ble_eq_true rfl⟩) hE hP hD hS hA [0, 1] [] rfl rfl rfl rfl rfl 0 11 rfl rfl rfl rfl hl.1 rfl (Nat.le_of_ble_eq_true rfl) dX11_canBe_91 ⟨Nat.le_of_ble_eq_true rfl, Nat.le_of_ble_eq_true rfl⟩ (fun rq uq H locs hrq hP hD hS => ?_)
      refine lv_tpx hrq.symm ?_
      have hP : va_P D vwCl [(a_Model, .inr (11, [.ref a_Model_now, .ref a_Model_past, .int Model_kept, .int Model_findings, .ref a_Model_bits, .ref a_Model_sizes, .ref a_Model_sheets, .ref a_Model_least, .ref a_Model_ways, .int Model_thenCost, .int Model_thenWays, .int Model_bothCost, .int Model_bothWays, .ref a_Model_handOf, .ref a_Model_crossedAt, .ref a_Model_strokeOf, .ref a_Model_prices, .ref a_Model_hitAt, .ref a_Model_carried])), (a_Model_now, .inl (cI, 187, .inl Model_now))] H := hP
      have hD : va_D A [(a_Model, .inr (11, [.ref a_Model_now, .ref a_Model_past, .int Model_kept, .int Model_findings, .ref a_Model_bits, .ref a_Model_sizes, .ref a_Model_sheets, .ref a_Model_least, .ref a_Model_ways, .int Model_thenCost, .int Model_thenWays, .int Model_bothCost, .int Model_bothWays, .ref a_Model_handOf, .ref a_Model_crossedAt, .ref a_Model_strokeOf, .ref a_Model_prices, .ref a_Model_hitAt, .ref a_Model_carried])), (a_Model_now, .inl (cI, 187, .inl Model_now))] := hD
      refine lv_if_eq (tgt := 101) hx hb dX11_canBe_94 (by decide) (fun c6 => ?_) (fun c6 => ?_)
      · have hf := ite_t c6 hf
        refine lv_iconst (v := 0) hx hb dX11_canBe_101 (by decide) ?_
        cases hf
        exact k_zret () hQ9 hx hb hr hlocks (Or.inl rfl) rfl hP hD hS (Nat.le_of_ble_eq_true rfl) (Nat.le_of_ble_eq_true rfl) dX11_canBe_102
      · have hf := ite_f c6 hf
        refine lv_iconst (v := 1) hx hb dX11_canBe_97 (by decide) ?_
        refine lv_goto (tgt := 102) hx hb dX11_canBe_98 (by decide) ?_
        cases hf
        exact k_zret () hQ9 hx hb hr hlocks (Or.inr rfl) rfl hP hD hS (Nat.le_of_ble_eq_true rfl) (Nat.le_of_ble_eq_true rfl) dX11_canBe_102
  have hJ27 : ∀ (l1 l3 l4 : Int32) (H : Heap) (locs : List Loc) (ls : Array Slot), va_P D vwCl [(a_Model, .inr (11, [.ref a_Model_now, .ref a_Model_past, .int Model_kept, .int Model_findings, .ref a_Model_bits, .ref a_Model_sizes, .ref a_Model_sheets, .ref a_Model_least, .ref a_Model_ways, .int Model_thenCost, .int Model_thenWays, .int Model_bothCost, .int Model_bothWays, .ref a_Model_handOf, .ref a_Model_crossedAt, .ref a_Model_strokeOf, .ref a_Model_prices, .ref a_Model_hitAt, .ref a_Model_carried])), (a_Model_now, .inl (cI, 187, .inl Model_now))] H → va_D A [(a_Model, .inr (11, [.ref a_Model_now, .ref a_Model_past, .int Model_kept, .int Model_findings, .ref a_Model_bits, .ref a_Model_sizes, .ref a_Model_sheets, .ref a_Model_least, .ref a_Model_ways, .int Model_thenCost, .int Model_thenWays, .int Model_bothCost, .int Model_bothWays, .ref a_Model_handOf, .ref a_Model_crossedAt, .ref a_Model_strokeOf, .ref a_Model_prices, .ref a_Model_hitAt, .ref a_Model_carried])), (a_Model_now, .inl (cI, 187, .inl Model_now))] → va_S A s.heap H locs → lv_has ls 7 [(0, .ref a_Model), (1, .int l1), (3, .int l3), (4, .int l4)] → f_Model_canBe_27 Model_now  l1 l3 l4 = some zr → W p l e (headSpec wsX11_canBe rm_Model_canBe).room s m ([.ref a_Model, .int p1, .int p2, .int p3, .int p4] : List Value).toArray below meth c H locs 0 0 Q9 (F0 m 27 ls []) := by
    intro l1 l3 l4 H locs ls hP hD hS hl hf
    unfold f_Model_canBe_27 at hf
    refine lv_aload_n hx hb dX11_canBe_27 rfl (lv_at hl 0 rfl) ?_
    refine va_get (D := D) (ci := 11) (v := .ref a_Model_now) (C := RX11) (T := TX11) (N := 19) hx hb hts inX11 hown hK hP 0 rfl rfl 0 (by decide) fl9 (fun _ h9 => h9) rfl dX11_canBe_28 ?_
    refine lv_bipush (v := 27) hx hb dX11_canBe_31 (by decide) ?_
    refine lv_iload_n hx hb dX11_canBe_33 rfl (lv_at hl 1 rfl) ?_
    refine lv_iadd hx hb dX11_canBe_34 ?_
    obtain ⟨ix7, x7, ex7, hf⟩ := rd_s hf
    refine va_iald hx hb hK hP 1 0 rfl rfl ix7 dX11_canBe_35 ?_
    refine lv_tpx ex7 ?_
    refine lv_istore (lv' := [(5, .int x7), (0, .ref a_Model), (1, .int l1), (3, .int l3), (4, .int l4)]) hx hb dX11_canBe_36 hl (by decide) rfl (fun ls hl => ?_)
    refine lv_aload_n hx hb dX11_canBe_38 rfl (lv_at hl 1 rfl) ?_
    refine lv_iload_n hx hb dX11_canBe_39 rfl (lv_at hl 2 rfl) ?_
    obtain ⟨r8, g9, hf⟩ := b1_s hf
    refine k_Vi (rest := []) ⟨hx, hb, hml, hown, hts⟩ (c_Model_graces l D cI cZ t a_Model a_Model_now a_Model_past a_Model_bits a_Model_sizes a_Model_sheets a_Model_least a_Model_ways a_Model_handOf a_Model_crossedAt a_Model_strokeOf a_Model_prices a_Model_hitAt a_Model_carried H.size Model_now Model_kept Model_findings Model_thenCost Model_thenWays Model_bothCost Model_bothWays l1 r8 g9) (cwV 1 hts gX11_canBe_X11_graces rfl rfl rfl (by decide +kernel) ⟨Nat.le_of_ble_eq_true rfl, Nat.le_of_ble_eq_true rfl⟩) hE hP hD hS hA [0, 1] [] rfl rfl rfl rfl rfl 0 11 rfl rfl rfl rfl hl.1 rfl (Nat.le_of_ble_eq_true rfl) dX11_canBe_40 ⟨Nat.le_of_ble_eq_true rfl, Nat.le_of_ble_eq_true rfl⟩ (fun rq uq H locs hrq hP hD hS => ?_)
    refine lv_tpx hrq.symm ?_
    have hP : va_P D vwCl [(a_Model, .inr (11, [.ref a_Model_now, .ref a_Model_past, .int Model_kept, .int Model_findings, .ref a_Model_bits, .ref a_Model_sizes, .ref a_Model_sheets, .ref a_Model_least, .ref a_Model_ways, .int Model_thenCost, .int Model_thenWays, .int Model_bothCost, .int Model_bothWays, .ref a_Model_handOf, .ref a_Model_crossedAt, .ref a_Model_strokeOf, .ref a_Model_prices, .ref a_Model_hitAt, .ref a_Model_carried])), (a_Model_now, .inl (cI, 187, .inl Model_now))] H := hP
    have hD : va_D A [(a_Model, .inr (11, [.ref a_Model_now, .ref a_Model_past, .int Model_kept, .int Model_findings, .ref a_Model_bits, .ref a_Model_sizes, .ref a_Model_sheets, .ref a_Model_least, .ref a_Model_ways, .int Model_thenCost, .int Model_thenWays, .int Model_bothCost, .int Model_bothWays, .ref a_Model_handOf, .ref a_Model_crossedAt, .ref a_Model_strokeOf, .ref a_Model_prices, .ref a_Model_hitAt, .ref a_Model_carried])), (a_Model_now, .inl (cI, 187, .inl Model_now))] := hD
    refine lv_if_eq (tgt := 66) hx hb dX11_canBe_43 (by decide) (fun c10 => ?_) (fun c10 => ?_)
    · have hf := ite_t c10 hf
      refine lv_iconst (v := 1) hx hb dX11_canBe_66 (by decide) ?_
      refine lv_goto (tgt := 71) hx hb dX11_canBe_67 (by decide) ?_
      exact hJ71 l1 l3 x7 1 H locs ls hP hD hS (lv_sub hl [1, 2, 3, 0] rfl) hf
    · have hf := ite_f c10 hf
      refine lv_aload_n hx hb dX11_canBe_46 rfl (lv_at hl 1 rfl) ?_
      refine lv_iload hx hb dX11_canBe_47 (lv_at hl 4 rfl) ?_
      refine lv_iload hx hb dX11_canBe_49 (lv_at hl 0 rfl) ?_
      refine lv_iconst (v := 4) hx hb dX11_canBe_51 (by decide) ?_
      refine lv_aload_n hx hb dX11_canBe_52 rfl (lv_at hl 1 rfl) ?_
      refine lv_iload_n hx hb dX11_canBe_53 rfl (lv_at hl 2 rfl) ?_
      obtain ⟨r11, g12, hf⟩ := b1_s hf
      refine k_Vi (rest := [.int 4, .int x7, .int l4, .ref a_Model]) ⟨hx, hb, hml, hown, hts⟩ (c_Model_graces l D cI cZ t a_Model a_Model_now a_Model_past a_Model_bits a_Model_sizes a_Model_sheets a_Model_least a_Model_ways a_Model_handOf a_Model_crossedAt a_Model_strokeOf a_Model_prices a_Model_hitAt a_Model_carried H.size Model_now Model_kept Model_findings Model_thenCost Model_thenWays Model_bothCost Model_bothWays l1 r11 g12) (cwV 1 hts gX11_canBe_X11_graces rfl rfl rfl (by decide +kernel) ⟨Nat.le_of_ble_eq_true rfl, Nat.le_of_ble_eq_true rfl⟩) hE hP hD hS hA [0, 1] [] rfl rfl rfl rfl rfl 0 11 rfl rfl rfl rfl hl.1 rfl (Nat.le_of_ble_eq_true rfl) dX11_canBe_54 ⟨Nat.le_of_ble_eq_true rfl, Nat.le_of_ble_eq_true rfl⟩ (fun rq uq H locs hrq hP hD hS => ?_)
      refine lv_tpx hrq.symm ?_
      have hP : va_P D vwCl [(a_Model, .inr (11, [.ref a_Model_now, .ref a_Model_past, .int Model_kept, .int Model_findings, .ref a_Model_bits, .ref a_Model_sizes, .ref a_Model_sheets, .ref a_Model_least, .ref a_Model_ways, .int Model_thenCost, .int Model_thenWays, .int Model_bothCost, .int Model_bothWays, .ref a_Model_handOf, .ref a_Model_crossedAt, .ref a_Model_strokeOf, .ref a_Model_prices, .ref a_Model_hitAt, .ref a_Model_carried])), (a_Model_now, .inl (cI, 187, .inl Model_now))] H := hP
      have hD : va_D A [(a_Model, .inr (11, [.ref a_Model_now, .ref a_Model_past, .int Model_kept, .int Model_findings, .ref a_Model_bits, .ref a_Model_sizes, .ref a_Model_sheets, .ref a_Model_least, .ref a_Model_ways, .int Model_thenCost, .int Model_thenWays, .int Model_bothCost, .int Model_bothWays, .ref a_Model_handOf, .ref a_Model_crossedAt, .ref a_Model_strokeOf, .ref a_Model_prices, .ref a_Model_hitAt, .ref a_Model_carried])), (a_Model_now, .inl (cI, 187, .inl Model_now))] := hD
      refine lv_imul hx hb dX11_canBe_57 ?_
      refine lv_isub hx hb dX11_canBe_58 ?_
      refine lv_iconst (v := 1) hx hb dX11_canBe_59 (by decide) ?_
      obtain ⟨r13, g14, hf⟩ := b1_s hf
      refine k_Vi (rest := []) ⟨hx, hb, hml, hown, hts⟩ (c_Model_keepsTime l D cI cZ t a_Model a_Model_now a_Model_past a_Model_bits a_Model_sizes a_Model_sheets a_Model_least a_Model_ways a_Model_handOf a_Model_crossedAt a_Model_strokeOf a_Model_prices a_Model_hitAt a_Model_carried H.size Model_now Model_kept Model_findings Model_thenCost Model_thenWays Model_bothCost Model_bothWays l4 (x7 - (4 * r11)) 1 r13 g14) (cwV 3 hts gX11_canBe_X11_keepsTime rfl rfl rfl (by decide +kernel) ⟨Nat.le_of_ble_eq_true rfl, Nat.le_of_ble_eq_true rfl⟩) hE hP hD hS hA [0, 1] [] rfl rfl rfl rfl rfl 0 11 rfl rfl rfl rfl hl.1 rfl (Nat.le_of_ble_eq_true rfl) dX11_canBe_60 ⟨Nat.le_of_ble_eq_true rfl, Nat.le_of_ble_eq_true rfl⟩ (fun rq uq H locs hrq hP hD hS => ?_)
      refine lv_tpx hrq.symm ?_
      have hP : va_P D vwCl [(a_Model, .inr (11, [.ref a_Model_now, .ref a_Model_past, .int Model_kept, .int Model_findings, .ref a_Model_bits, .ref a_Model_sizes, .ref a_Model_sheets, .ref a_Model_least, .ref a_Model_ways, .int Model_thenCost, .int Model_thenWays, .int Model_bothCost, .int Model_bothWays, .ref a_Model_handOf, .ref a_Model_crossedAt, .ref a_Model_strokeOf, .ref a_Model_prices, .ref a_Model_hitAt, .ref a_Model_carried])), (a_Model_now, .inl (cI, 187, .inl Model_now))] H := hP
      have hD : va_D A [(a_Model, .inr (11, [.ref a_Model_now, .ref a_Model_past, .int Model_kept, .int Model_findings, .ref a_Model_bits, .ref a_Model_sizes, .ref a_Model_sheets, .ref a_Model_least, .ref a_Model_ways, .int Model_thenCost, .int Model_thenWays, .int Model_bothCost, .int Model_bothWays, .ref a_Model_handOf, .ref a_Model_crossedAt, .ref a_Model_strokeOf, .ref a_Model_prices, .ref a_Model_hitAt, .ref a_Model_carried])), (a_Model_now, .inl (cI, 187, .inl Model_now))] := hD
      refine lv_if_eq (tgt := 70) hx hb dX11_canBe_63 (by decide) (fun c15 => ?_) (fun c15 => ?_)
      · have hf := ite_t c15 hf
        refine lv_iconst (v := 0) hx hb dX11_canBe_70 (by decide) ?_
        exact hJ71 l1 l3 x7 0 H locs ls hP hD hS (lv_sub hl [1, 2, 3, 0] rfl) hf
      · have hf := ite_f c15 hf
        refine lv_iconst (v := 1) hx hb dX11_canBe_66 (by decide) ?_
        refine lv_goto (tgt := 71) hx hb dX11_canBe_67 (by decide) ?_
        exact hJ71 l1 l3 x7 1 H locs ls hP hD hS (lv_sub hl [1, 2, 3, 0] rfl) hf
  unfold f_Model_canBe at hf
  refine lv_aload_n hx hb dX11_canBe_0 rfl (lv_at hl 0 rfl) ?_
  refine va_get (D := D) (ci := 11) (v := .ref a_Model_now) (C := RX11) (T := TX11) (N := 19) hx hb hts inX11 hown hK hP 0 rfl rfl 0 (by decide) fl9 (fun _ h9 => h9) rfl dX11_canBe_1 ?_
  refine lv_bipush (v := 67) hx hb dX11_canBe_4 (by decide) ?_
  refine lv_iload_n hx hb dX11_canBe_6 rfl (lv_at hl 1 rfl) ?_
  refine lv_iadd hx hb dX11_canBe_7 ?_
  obtain ⟨ix16, x16, ex16, hf⟩ := rd_s hf
  refine va_iald hx hb hK hP 1 0 rfl rfl ix16 dX11_canBe_8 ?_
  refine lv_tpx ex16 ?_
  refine lv_if_lt (tgt := 27) hx hb dX11_canBe_9 (by decide) (fun c17 => ?_) (fun c17 => ?_)
  · have hf := ite_t c17 hf
    exact hJ27 p1 p3 p4 s.heap [] ls hP hD hS (lv_sub hl [0, 1, 3, 4] rfl) hf
  · have hf := ite_f c17 hf
    refine lv_aload_n hx hb dX11_canBe_12 rfl (lv_at hl 0 rfl) ?_
    refine va_get (D := D) (ci := 11) (v := .ref a_Model_now) (C := RX11) (T := TX11) (N := 19) hx hb hts inX11 hown hK hP 0 rfl rfl 0 (by decide) fl9 (fun _ h9 => h9) rfl dX11_canBe_13 ?_
    refine lv_bipush (v := 67) hx hb dX11_canBe_16 (by decide) ?_
    refine lv_iload_n hx hb dX11_canBe_18 rfl (lv_at hl 1 rfl) ?_
    refine lv_iadd hx hb dX11_canBe_19 ?_
    obtain ⟨ix18, x18, ex18, hf⟩ := rd_s hf
    refine va_iald hx hb hK hP 1 0 rfl rfl ix18 dX11_canBe_20 ?_
    refine lv_tpx ex18 ?_
    refine lv_iload_n hx hb dX11_canBe_21 rfl (lv_at hl 2 rfl) ?_
    refine lv_icmp_eq (tgt := 27) hx hb dX11_canBe_22 (by decide) (fun c19 => ?_) (fun c19 => ?_)
    · have hf := ite_t c19 hf
      exact hJ27 p1 p3 p4 s.heap [] ls hP hD hS (lv_sub hl [0, 1, 3, 4] rfl) hf
    · have hf := ite_f c19 hf
      refine lv_iconst (v := 0) hx hb dX11_canBe_25 (by decide) ?_
      cases hf
      exact k_zret () hQ9 hx hb hr hlocks (Or.inl rfl) rfl hP hD hS (Nat.le_of_ble_eq_true rfl) (Nat.le_of_ble_eq_true rfl) dX11_canBe_26
abbrev rm_Model_follows : Room := { frames := 3, cells := 0, slots := 0, locals := 80 }
set_option maxHeartbeats 4000000 in
set_option maxRecDepth 100000 in
theorem c_Model_follows (l : Launch) (D : va_G) (cI cZ : ClassId) (t : Nat → Nat) (a_Model a_Model_now a_Model_past a_Model_bits a_Model_sizes a_Model_sheets a_Model_least a_Model_ways a_Model_handOf a_Model_crossedAt a_Model_strokeOf a_Model_prices a_Model_hitAt a_Model_carried sz : Nat) (Model_now Model_least Model_ways : Nat → Int32) (Model_thenCost Model_thenWays Model_kept Model_findings Model_bothCost Model_bothWays p1 p2 p3 p4 p5 p6 z_Model_thenCost z_Model_thenWays : Int32) (hf : f_Model_follows Model_now Model_least Model_ways Model_thenCost Model_thenWays p1 p2 p3 p4 p5 p6 = some (z_Model_thenCost, z_Model_thenWays)) : Met l yX11_follows wsX11_follows rm_Model_follows (va_Pc [.ref a_Model, .int p1, .int p2, .int p3, .int p4, .int p5, .int p6] (pcW D cI cZ t [(a_Model, .inr (11, [.ref a_Model_now, .ref a_Model_past, .int Model_kept, .int Model_findings, .ref a_Model_bits, .ref a_Model_sizes, .ref a_Model_sheets, .ref a_Model_least, .ref a_Model_ways, .int Model_thenCost, .int Model_thenWays, .int Model_bothCost, .int Model_bothWays, .ref a_Model_handOf, .ref a_Model_crossedAt, .ref a_Model_strokeOf, .ref a_Model_prices, .ref a_Model_hitAt, .ref a_Model_carried])), (a_Model_now, .inl (cI, 187, .inl Model_now)), (a_Model_least, .inl (cI, 8400, .inl Model_least)), (a_Model_ways, .inl (cI, 8400, .inl Model_ways))] sz)) (va_Qv (fun u : Unit => u = u) (fun u t' => bW D (va_A [(a_Model, .inr (11, [.ref a_Model_now, .ref a_Model_past, .int Model_kept, .int Model_findings, .ref a_Model_bits, .ref a_Model_sizes, .ref a_Model_sheets, .ref a_Model_least, .ref a_Model_ways, .int Model_thenCost, .int Model_thenWays, .int Model_bothCost, .int Model_bothWays, .ref a_Model_handOf, .ref a_Model_crossedAt, .ref a_Model_strokeOf, .ref a_Model_prices, .ref a_Model_hitAt, .ref a_Model_carried])), (a_Model_now, .inl (cI, 187, .inl Model_now)), (a_Model_least, .inl (cI, 8400, .inl Model_least)), (a_Model_ways, .inl (cI, 8400, .inl Model_ways))] sz) [(a_Model, .inr (11, [.ref a_Model_now, .ref a_Model_past, .int Model_kept, .int Model_findings, .ref a_Model_bits, .ref a_Model_sizes, .ref a_Model_sheets, .ref a_Model_least, .ref a_Model_ways, .int z_Model_thenCost, .int z_Model_thenWays, .int Model_bothCost, .int Model_bothWays, .ref a_Model_handOf, .ref a_Model_crossedAt, .ref a_Model_strokeOf, .ref a_Model_prices, .ref a_Model_hitAt, .ref a_Model_carried])), (a_Model_now, .inl (cI, 187, .inl Model_now)), (a_Model_least, .inl (cI, 8400, .inl Model_least)), (a_Model_ways, .inl (cI, 8400, .inl Model_ways))] t') (va_A [(a_Model, .inr (11, [.ref a_Model_now, .ref a_Model_past, .int Model_kept, .int Model_findings, .ref a_Model_bits, .ref a_Model_sizes, .ref a_Model_sheets, .ref a_Model_least, .ref a_Model_ways, .int Model_thenCost, .int Model_thenWays, .int Model_bothCost, .int Model_bothWays, .ref a_Model_handOf, .ref a_Model_crossedAt, .ref a_Model_strokeOf, .ref a_Model_prices, .ref a_Model_hitAt, .ref a_Model_carried])), (a_Model_now, .inl (cI, 187, .inl Model_now)), (a_Model_least, .inl (cI, 8400, .inl Model_least)), (a_Model_ways, .inl (cI, 8400, .inl Model_ways))] sz)) 0 0 (va_A [(a_Model, .inr (11, [.ref a_Model_now, .ref a_Model_past, .int Model_kept, .int Model_findings, .ref a_Model_bits, .ref a_Model_sizes, .ref a_Model_sheets, .ref a_Model_least, .ref a_Model_ways, .int Model_thenCost, .int Model_thenWays, .int Model_bothCost, .int Model_bothWays, .ref a_Model_handOf, .ref a_Model_crossedAt, .ref a_Model_strokeOf, .ref a_Model_prices, .ref a_Model_hitAt, .ref a_Model_carried])), (a_Model_now, .inl (cI, 187, .inl Model_now)), (a_Model_least, .inl (cI, 8400, .inl Model_least)), (a_Model_ways, .inl (cI, 8400, .inl Model_ways))] sz) := by
  refine Met.ofW (cc := cX11_follows) (maxL := 16) (ret := none) (by decide) rfl ?_
  intro p e s m args below meth c s₁ B hml hv
  obtain ⟨rfl, hsz, hP, hD0, hE⟩ := hv
  have hx := B.exec
  have hb := B.bytes
  have hr := B.returns
  have hts := atoms_spec (ws := wsX11_follows) B.pre
  have hown : s.vm.findClass RX11 = some m.cls := findClass_of_methodNamed B.named
  have hlocks := B.notSynchronized
  subst hsz
  have hD := hD0.self (sz := s.heap.size)
  generalize hAe : va_A [(a_Model, .inr (11, [.ref a_Model_now, .ref a_Model_past, .int Model_kept, .int Model_findings, .ref a_Model_bits, .ref a_Model_sizes, .ref a_Model_sheets, .ref a_Model_least, .ref a_Model_ways, .int Model_thenCost, .int Model_thenWays, .int Model_bothCost, .int Model_bothWays, .ref a_Model_handOf, .ref a_Model_crossedAt, .ref a_Model_strokeOf, .ref a_Model_prices, .ref a_Model_hitAt, .ref a_Model_carried])), (a_Model_now, .inl (cI, 187, .inl Model_now)), (a_Model_least, .inl (cI, 8400, .inl Model_least)), (a_Model_ways, .inl (cI, 8400, .inl Model_ways))] s.heap.size = A at hD hE ⊢
  have hA : ∀ q : Nat, s.heap.size ≤ q → A q := fun q h => by rw [← hAe]; exact Or.inr h
  clear hAe hD0
  have hS : va_S A s.heap s.heap [] := va_S.rf
  have hK := hE.1
  have hl := lv_entry ([.ref a_Model, .int p1, .int p2, .int p3, .int p4, .int p5, .int p6]) (n := 16) (Nat.le_of_ble_eq_true rfl)
  rw [lg_entry_eq]
  generalize (lg_sl ([.ref a_Model, .int p1, .int p2, .int p3, .int p4, .int p5, .int p6]) ++ List.replicate (16 - (lg_sl ([.ref a_Model, .int p1, .int p2, .int p3, .int p4, .int p5, .int p6])).length) Slot.unset).toArray = ls at hl ⊢
  have hl : lv_has ls 16 [(0, .ref a_Model), (1, .int p1), (2, .int p2), (3, .int p3), (4, .int p4), (5, .int p5), (6, .int p6)] := hl
  refine w_q (fun Q9 hQ9 => ?_)
  have kc100 := hts (.constant RX11 100 1000000) (by decide +kernel)
  have ml126 := hts (.methodLink RX11 126 Lib.Math.min.name) (by decide +kernel)
  have ms_min := hts (.static Lib.Math.min.name) (by decide +kernel)
  have mini := hts (.initialized "java/lang/Math") (by decide +kernel)
  have mc_min := hts (.code Lib.Math.min.name Lib.Math.min.code 2 (some .int)) (by decide +kernel)
  have fl101 := hts (.fieldLink RX11 101 "StickRoomModel" "thenCost" "I") (by decide +kernel)
  have inX11 : ∀ w ∈ wsX110, w ∈ wsX11_follows := by decide +kernel
  have fl28 := hts (.fieldLink RX11 28 "StickRoomModel" "ways" "[I") (by decide +kernel)
  have fl104 := hts (.fieldLink RX11 104 "StickRoomModel" "thenWays" "I") (by decide +kernel)
  have fl9 := hts (.fieldLink RX11 9 "StickRoomModel" "now" "[I") (by decide +kernel)
  have fl25 := hts (.fieldLink RX11 25 "StickRoomModel" "least" "[I") (by decide +kernel)
  have hJ155 : ∀ (l2 l5 l6 l7 l12 l14 k0 Model_thenCost Model_thenWays : Int32) (H : Heap) (locs : List Loc) (ls : Array Slot), va_P D vwCl [(a_Model, .inr (11, [.ref a_Model_now, .ref a_Model_past, .int Model_kept, .int Model_findings, .ref a_Model_bits, .ref a_Model_sizes, .ref a_Model_sheets, .ref a_Model_least, .ref a_Model_ways, .int Model_thenCost, .int Model_thenWays, .int Model_bothCost, .int Model_bothWays, .ref a_Model_handOf, .ref a_Model_crossedAt, .ref a_Model_strokeOf, .ref a_Model_prices, .ref a_Model_hitAt, .ref a_Model_carried])), (a_Model_now, .inl (cI, 187, .inl Model_now)), (a_Model_least, .inl (cI, 8400, .inl Model_least)), (a_Model_ways, .inl (cI, 8400, .inl Model_ways))] H → va_D A [(a_Model, .inr (11, [.ref a_Model_now, .ref a_Model_past, .int Model_kept, .int Model_findings, .ref a_Model_bits, .ref a_Model_sizes, .ref a_Model_sheets, .ref a_Model_least, .ref a_Model_ways, .int Model_thenCost, .int Model_thenWays, .int Model_bothCost, .int Model_bothWays, .ref a_Model_handOf, .ref a_Model_crossedAt, .ref a_Model_strokeOf, .ref a_Model_prices, .ref a_Model_hitAt, .ref a_Model_carried])), (a_Model_now, .inl (cI, 187, .inl Model_now)), (a_Model_least, .inl (cI, 8400, .inl Model_least)), (a_Model_ways, .inl (cI, 8400, .inl Model_ways))] → va_S A s.heap H locs → lv_has ls 16 [(0, .ref a_Model), (2, .int l2), (5, .int l5), (6, .int l6), (7, .int l7), (12, .int l12), (14, .int l14)] → f_Model_follows_155 Model_now Model_least Model_ways  l2 l5 l6 l7 l12 l14 k0 Model_thenCost Model_thenWays = some (z_Model_thenCost, z_Model_thenWays) → W p l e (headSpec wsX11_follows rm_Model_follows).room s m ([.ref a_Model, .int p1, .int p2, .int p3, .int p4, .int p5, .int p6] : List Value).toArray below meth c H locs 0 0 Q9 (F0 m 155 ls [.int k0]) := by
    intro l2 l5 l6 l7 l12 l14 k0 Model_thenCost Model_thenWays H locs ls hP hD hS hl hf
    unfold f_Model_follows_155 at hf
    refine lv_istore (lv' := [(15, .int k0), (0, .ref a_Model), (2, .int l2), (5, .int l5), (6, .int l6), (7, .int l7), (12, .int l12), (14, .int l14)]) hx hb dX11_follows_155 hl (by decide) rfl (fun ls hl => ?_)
    refine lv_aload_n hx hb dX11_follows_157 rfl (lv_at hl 1 rfl) ?_
    refine lv_ldc (v := 1000000) hx hb hown kc100 dX11_follows_158 ?_
    refine lv_aload_n hx hb dX11_follows_160 rfl (lv_at hl 1 rfl) ?_
    refine lv_iload hx hb dX11_follows_161 (lv_at hl 5 rfl) ?_
    refine lv_iload hx hb dX11_follows_163 (lv_at hl 3 rfl) ?_
    refine lv_iload_n hx hb dX11_follows_165 rfl (lv_at hl 2 rfl) ?_
    refine lv_iload hx hb dX11_follows_166 (lv_at hl 6 rfl) ?_
    obtain ⟨r1, g2, hf⟩ := b1_s hf
    refine k_Vi (rest := [.int 1000000, .ref a_Model]) ⟨hx, hb, hml, hown, hts⟩ (c_Model_awkwardness l D cI cZ t a_Model a_Model_now a_Model_past a_Model_bits a_Model_sizes a_Model_sheets a_Model_least a_Model_ways a_Model_handOf a_Model_crossedAt a_Model_strokeOf a_Model_prices a_Model_hitAt a_Model_carried H.size Model_now Model_kept Model_findings Model_thenCost Model_thenWays Model_bothCost Model_bothWays l7 l5 l2 l12 r1 g2) (cwV 4 hts gX11_follows_X11_awkwardness rfl rfl rfl (by decide +kernel) ⟨Nat.le_of_ble_eq_true rfl, Nat.le_of_ble_eq_true rfl⟩) hE hP hD hS hA [0, 1] [2, 3] rfl rfl rfl rfl rfl 0 11 rfl rfl rfl rfl hl.1 rfl (Nat.le_of_ble_eq_true rfl) dX11_follows_168 ⟨Nat.le_of_ble_eq_true rfl, Nat.le_of_ble_eq_true rfl⟩ (fun rq uq H locs hrq hP hD hS => ?_)
    refine lv_tpx hrq.symm ?_
    have hP : va_P D vwCl [(a_Model_least, .inl (cI, 8400, .inl Model_least)), (a_Model_ways, .inl (cI, 8400, .inl Model_ways)), (a_Model, .inr (11, [.ref a_Model_now, .ref a_Model_past, .int Model_kept, .int Model_findings, .ref a_Model_bits, .ref a_Model_sizes, .ref a_Model_sheets, .ref a_Model_least, .ref a_Model_ways, .int Model_thenCost, .int Model_thenWays, .int Model_bothCost, .int Model_bothWays, .ref a_Model_handOf, .ref a_Model_crossedAt, .ref a_Model_strokeOf, .ref a_Model_prices, .ref a_Model_hitAt, .ref a_Model_carried])), (a_Model_now, .inl (cI, 187, .inl Model_now))] H := hP
    have hD : va_D A [(a_Model_least, .inl (cI, 8400, .inl Model_least)), (a_Model_ways, .inl (cI, 8400, .inl Model_ways)), (a_Model, .inr (11, [.ref a_Model_now, .ref a_Model_past, .int Model_kept, .int Model_findings, .ref a_Model_bits, .ref a_Model_sizes, .ref a_Model_sheets, .ref a_Model_least, .ref a_Model_ways, .int Model_thenCost, .int Model_thenWays, .int Model_bothCost, .int Model_bothWays, .ref a_Model_handOf, .ref a_Model_crossedAt, .ref a_Model_strokeOf, .ref a_Model_prices, .ref a_Model_hitAt, .ref a_Model_carried])), (a_Model_now, .inl (cI, 187, .inl Model_now))] := hD
    refine lv_iload hx hb dX11_follows_171 (lv_at hl 0 rfl) ?_
    refine lv_iadd hx hb dX11_follows_173 ?_
    refine va_mmin hx hb (hml.trans hl.1.symm) hown ml126 ms_min mini mc_min (Nat.le_of_ble_eq_true rfl) (Nat.le_of_ble_eq_true rfl) (Nat.le_of_ble_eq_true rfl) (Nat.le_of_ble_eq_true rfl) dX11_follows_174 ?_
    obtain ⟨x3, ex3, hf⟩ := nm_s hf
    refine lv_tpx ex3 ?_
    refine va_put (D := D) (ci := 11) (v := .int x3) (ty := .int) (C := RX11) (T := TX11) (N := 19) hx hb hts inX11 tyX11 tyX11_ok nmX11 hown hK hP hD hS 2 rfl rfl 9 (by decide) fl101 (fun _ h9 => h9) rfl (by decide +kernel) rfl rfl (Nat.le_of_ble_eq_true rfl) dX11_follows_177 (fun H locs hP hD hS => ?_)
    have hP : va_P D vwCl [(a_Model_least, .inl (cI, 8400, .inl Model_least)), (a_Model_ways, .inl (cI, 8400, .inl Model_ways)), (a_Model, .inr (11, [.ref a_Model_now, .ref a_Model_past, .int Model_kept, .int Model_findings, .ref a_Model_bits, .ref a_Model_sizes, .ref a_Model_sheets, .ref a_Model_least, .ref a_Model_ways, .int x3, .int Model_thenWays, .int Model_bothCost, .int Model_bothWays, .ref a_Model_handOf, .ref a_Model_crossedAt, .ref a_Model_strokeOf, .ref a_Model_prices, .ref a_Model_hitAt, .ref a_Model_carried])), (a_Model_now, .inl (cI, 187, .inl Model_now))] H := hP
    have hD : va_D A [(a_Model_least, .inl (cI, 8400, .inl Model_least)), (a_Model_ways, .inl (cI, 8400, .inl Model_ways)), (a_Model, .inr (11, [.ref a_Model_now, .ref a_Model_past, .int Model_kept, .int Model_findings, .ref a_Model_bits, .ref a_Model_sizes, .ref a_Model_sheets, .ref a_Model_least, .ref a_Model_ways, .int x3, .int Model_thenWays, .int Model_bothCost, .int Model_bothWays, .ref a_Model_handOf, .ref a_Model_crossedAt, .ref a_Model_strokeOf, .ref a_Model_prices, .ref a_Model_hitAt, .ref a_Model_carried])), (a_Model_now, .inl (cI, 187, .inl Model_now))] := hD
    refine lv_aload_n hx hb dX11_follows_180 rfl (lv_at hl 1 rfl) ?_
    refine lv_iload hx hb dX11_follows_181 (lv_at hl 5 rfl) ?_
    refine lv_iload hx hb dX11_follows_183 (lv_at hl 4 rfl) ?_
    refine lv_icmp_ne (tgt := 192) hx hb dX11_follows_185 (by decide) (fun c4 => ?_) (fun c4 => ?_)
    · have hf := ite_f c4 hf
      refine lv_aload_n hx hb dX11_follows_192 rfl (lv_at hl 1 rfl) ?_
      refine va_get (D := D) (ci := 11) (v := .ref a_Model_ways) (C := RX11) (T := TX11) (N := 19) hx hb hts inX11 hown hK hP 2 rfl rfl 8 (by decide) fl28 (fun _ h9 => h9) rfl dX11_follows_193 ?_
      refine lv_iload hx hb dX11_follows_196 (lv_at hl 7 rfl) ?_
      obtain ⟨ix5, x5, ex5, hf⟩ := rd_s hf
      refine va_iald hx hb hK hP 1 0 rfl rfl ix5 dX11_follows_198 ?_
      refine lv_tpx ex5 ?_
      refine va_put (D := D) (ci := 11) (v := .int x5) (ty := .int) (C := RX11) (T := TX11) (N := 19) hx hb hts inX11 tyX11 tyX11_ok nmX11 hown hK hP hD hS 2 rfl rfl 10 (by decide) fl104 (fun _ h9 => h9) rfl (by decide +kernel) rfl rfl (Nat.le_of_ble_eq_true rfl) dX11_follows_199 (fun H locs hP hD hS => ?_)
      have hP : va_P D vwCl [(a_Model_least, .inl (cI, 8400, .inl Model_least)), (a_Model_ways, .inl (cI, 8400, .inl Model_ways)), (a_Model, .inr (11, [.ref a_Model_now, .ref a_Model_past, .int Model_kept, .int Model_findings, .ref a_Model_bits, .ref a_Model_sizes, .ref a_Model_sheets, .ref a_Model_least, .ref a_Model_ways, .int x3, .int x5, .int Model_bothCost, .int Model_bothWays, .ref a_Model_handOf, .ref a_Model_crossedAt, .ref a_Model_strokeOf, .ref a_Model_prices, .ref a_Model_hitAt, .ref a_Model_carried])), (a_Model_now, .inl (cI, 187, .inl Model_now))] H := hP
      have hD : va_D A [(a_Model_least, .inl (cI, 8400, .inl Model_least)), (a_Model_ways, .inl (cI, 8400, .inl Model_ways)), (a_Model, .inr (11, [.ref a_Model_now, .ref a_Model_past, .int Model_kept, .int Model_findings, .ref a_Model_bits, .ref a_Model_sizes, .ref a_Model_sheets, .ref a_Model_least, .ref a_Model_ways, .int x3, .int x5, .int Model_bothCost, .int Model_bothWays, .ref a_Model_handOf, .ref a_Model_crossedAt, .ref a_Model_strokeOf, .ref a_Model_prices, .ref a_Model_hitAt, .ref a_Model_carried])), (a_Model_now, .inl (cI, 187, .inl Model_now))] := hD
      cases hf
      exact k_vret () hQ9 hx hb hr hlocks rfl (hP.sub [2, 3, 0, 1] rfl) (hD.sub [2, 3, 0, 1] (by decide) rfl) hS (Nat.le_of_ble_eq_true rfl) (Nat.le_of_ble_eq_true rfl) dX11_follows_202
    · have hf := ite_t c4 hf
      refine lv_iconst (v := 1) hx hb dX11_follows_188 (by decide) ?_
      refine lv_goto (tgt := 199) hx hb dX11_follows_189 (by decide) ?_
      refine va_put (D := D) (ci := 11) (v := .int 1) (ty := .int) (C := RX11) (T := TX11) (N := 19) hx hb hts inX11 tyX11 tyX11_ok nmX11 hown hK hP hD hS 2 rfl rfl 10 (by decide) fl104 (fun _ h9 => h9) rfl (by decide +kernel) rfl rfl (Nat.le_of_ble_eq_true rfl) dX11_follows_199 (fun H locs hP hD hS => ?_)
      have hP : va_P D vwCl [(a_Model_least, .inl (cI, 8400, .inl Model_least)), (a_Model_ways, .inl (cI, 8400, .inl Model_ways)), (a_Model, .inr (11, [.ref a_Model_now, .ref a_Model_past, .int Model_kept, .int Model_findings, .ref a_Model_bits, .ref a_Model_sizes, .ref a_Model_sheets, .ref a_Model_least, .ref a_Model_ways, .int x3, .int 1, .int Model_bothCost, .int Model_bothWays, .ref a_Model_handOf, .ref a_Model_crossedAt, .ref a_Model_strokeOf, .ref a_Model_prices, .ref a_Model_hitAt, .ref a_Model_carried])), (a_Model_now, .inl (cI, 187, .inl Model_now))] H := hP
      have hD : va_D A [(a_Model_least, .inl (cI, 8400, .inl Model_least)), (a_Model_ways, .inl (cI, 8400, .inl Model_ways)), (a_Model, .inr (11, [.ref a_Model_now, .ref a_Model_past, .int Model_kept, .int Model_findings, .ref a_Model_bits, .ref a_Model_sizes, .ref a_Model_sheets, .ref a_Model_least, .ref a_Model_ways, .int x3, .int 1, .int Model_bothCost, .int Model_bothWays, .ref a_Model_handOf, .ref a_Model_crossedAt, .ref a_Model_strokeOf, .ref a_Model_prices, .ref a_Model_hitAt, .ref a_Model_carried])), (a_Model_now, .inl (cI, 187, .inl Model_now))] := hD
      cases hf
      exact k_vret () hQ9 hx hb hr hlocks rfl (hP.sub [2, 3, 0, 1] rfl) (hD.sub [2, 3, 0, 1] (by decide) rfl) hS (Nat.le_of_ble_eq_true rfl) (Nat.le_of_ble_eq_true rfl) dX11_follows_202
  have hJ109 : ∀ (l2 l5 l6 l7 l11 l12 k0 k1 Model_thenCost Model_thenWays : Int32) (H : Heap) (locs : List Loc) (ls : Array Slot), va_P D vwCl [(a_Model, .inr (11, [.ref a_Model_now, .ref a_Model_past, .int Model_kept, .int Model_findings, .ref a_Model_bits, .ref a_Model_sizes, .ref a_Model_sheets, .ref a_Model_least, .ref a_Model_ways, .int Model_thenCost, .int Model_thenWays, .int Model_bothCost, .int Model_bothWays, .ref a_Model_handOf, .ref a_Model_crossedAt, .ref a_Model_strokeOf, .ref a_Model_prices, .ref a_Model_hitAt, .ref a_Model_carried])), (a_Model_now, .inl (cI, 187, .inl Model_now)), (a_Model_least, .inl (cI, 8400, .inl Model_least)), (a_Model_ways, .inl (cI, 8400, .inl Model_ways))] H → va_D A [(a_Model, .inr (11, [.ref a_Model_now, .ref a_Model_past, .int Model_kept, .int Model_findings, .ref a_Model_bits, .ref a_Model_sizes, .ref a_Model_sheets, .ref a_Model_least, .ref a_Model_ways, .int Model_thenCost, .int Model_thenWays, .int Model_bothCost, .int Model_bothWays, .ref a_Model_handOf, .ref a_Model_crossedAt, .ref a_Model_strokeOf, .ref a_Model_prices, .ref a_Model_hitAt, .ref a_Model_carried])), (a_Model_now, .inl (cI, 187, .inl Model_now)), (a_Model_least, .inl (cI, 8400, .inl Model_least)), (a_Model_ways, .inl (cI, 8400, .inl Model_ways))] → va_S A s.heap H locs → lv_has ls 16 [(0, .ref a_Model), (2, .int l2), (5, .int l5), (6, .int l6), (7, .int l7), (11, .int l11), (12, .int l12)] → f_Model_follows_109 Model_now Model_least Model_ways  l2 l5 l6 l7 l11 l12 k0 k1 Model_thenCost Model_thenWays = some (z_Model_thenCost, z_Model_thenWays) → W p l e (headSpec wsX11_follows rm_Model_follows).room s m ([.ref a_Model, .int p1, .int p2, .int p3, .int p4, .int p5, .int p6] : List Value).toArray below meth c H locs 0 0 Q9 (F0 m 109 ls [.int k1, .int k0]) := by
    intro l2 l5 l6 l7 l11 l12 k0 k1 Model_thenCost Model_thenWays H locs ls hP hD hS hl hf
    unfold f_Model_follows_109 at hf
    refine lv_iadd hx hb dX11_follows_109 ?_
    obtain ⟨x6, ex6, hf⟩ := nm_s hf
    refine lv_tpx ex6 ?_
    refine lv_istore (lv' := [(13, .int x6), (0, .ref a_Model), (2, .int l2), (5, .int l5), (6, .int l6), (7, .int l7), (11, .int l11), (12, .int l12)]) hx hb dX11_follows_110 hl (by decide) rfl (fun ls hl => ?_)
    refine lv_iload hx hb dX11_follows_112 (lv_at hl 0 rfl) ?_
    refine lv_aload_n hx hb dX11_follows_114 rfl (lv_at hl 1 rfl) ?_
    refine va_get (D := D) (ci := 11) (v := .ref a_Model_now) (C := RX11) (T := TX11) (N := 19) hx hb hts inX11 hown hK hP 0 rfl rfl 0 (by decide) fl9 (fun _ h9 => h9) rfl dX11_follows_115 ?_
    refine lv_iconst (v := 4) hx hb dX11_follows_118 (by decide) ?_
    obtain ⟨ix7, x7, ex7, hf⟩ := rd_s hf
    refine va_iald hx hb hK hP 1 0 rfl rfl ix7 dX11_follows_119 ?_
    refine lv_tpx ex7 ?_
    refine lv_icmp_le (tgt := 124) hx hb dX11_follows_120 (by decide) (fun c8 => ?_) (fun c8 => ?_)
    · have hf := ite_t c8 hf
      refine lv_iload hx hb dX11_follows_124 (lv_at hl 5 rfl) ?_
      refine lv_iload hx hb dX11_follows_126 (lv_at hl 3 rfl) ?_
      refine lv_iload hx hb dX11_follows_128 (lv_at hl 6 rfl) ?_
      refine lv_iload hx hb dX11_follows_130 (lv_at hl 0 rfl) ?_
      obtain ⟨r9, g10, hf⟩ := b1_s hf
      refine k_Si (rest := []) ⟨hx, hb, hml, hown, hts⟩ (c_Model_stateOf l D cI cZ t  H.size l7 l5 l11 x6 r9 g10) (va_cwS 4 hts gX11_follows_X11_stateOf rfl rfl rfl (by decide +kernel) ⟨Nat.le_of_ble_eq_true rfl, Nat.le_of_ble_eq_true rfl⟩) hE hP hD hS hA [] [0, 1, 2, 3] rfl rfl rfl rfl rfl rfl hl.1 rfl (Nat.le_of_ble_eq_true rfl) dX11_follows_132 ⟨Nat.le_of_ble_eq_true rfl, Nat.le_of_ble_eq_true rfl⟩ (fun rq uq H locs hrq hP hD hS => ?_)
      refine lv_tpx hrq.symm ?_
      have hP : va_P D vwCl [(a_Model, .inr (11, [.ref a_Model_now, .ref a_Model_past, .int Model_kept, .int Model_findings, .ref a_Model_bits, .ref a_Model_sizes, .ref a_Model_sheets, .ref a_Model_least, .ref a_Model_ways, .int Model_thenCost, .int Model_thenWays, .int Model_bothCost, .int Model_bothWays, .ref a_Model_handOf, .ref a_Model_crossedAt, .ref a_Model_strokeOf, .ref a_Model_prices, .ref a_Model_hitAt, .ref a_Model_carried])), (a_Model_now, .inl (cI, 187, .inl Model_now)), (a_Model_least, .inl (cI, 8400, .inl Model_least)), (a_Model_ways, .inl (cI, 8400, .inl Model_ways))] H := hP
      have hD : va_D A [(a_Model, .inr (11, [.ref a_Model_now, .ref a_Model_past, .int Model_kept, .int Model_findings, .ref a_Model_bits, .ref a_Model_sizes, .ref a_Model_sheets, .ref a_Model_least, .ref a_Model_ways, .int Model_thenCost, .int Model_thenWays, .int Model_bothCost, .int Model_bothWays, .ref a_Model_handOf, .ref a_Model_crossedAt, .ref a_Model_strokeOf, .ref a_Model_prices, .ref a_Model_hitAt, .ref a_Model_carried])), (a_Model_now, .inl (cI, 187, .inl Model_now)), (a_Model_least, .inl (cI, 8400, .inl Model_least)), (a_Model_ways, .inl (cI, 8400, .inl Model_ways))] := hD
      refine lv_istore (lv' := [(14, .int r9), (13, .int x6), (0, .ref a_Model), (2, .int l2), (5, .int l5), (6, .int l6), (7, .int l7), (11, .int l11), (12, .int l12)]) hx hb dX11_follows_135 hl (by decide) rfl (fun ls hl => ?_)
      refine lv_iload hx hb dX11_follows_137 (lv_at hl 6 rfl) ?_
      refine lv_iload hx hb dX11_follows_139 (lv_at hl 5 rfl) ?_
      refine lv_icmp_ne (tgt := 148) hx hb dX11_follows_141 (by decide) (fun c11 => ?_) (fun c11 => ?_)
      · have hf := ite_f c11 hf
        refine lv_aload_n hx hb dX11_follows_148 rfl (lv_at hl 2 rfl) ?_
        refine va_get (D := D) (ci := 11) (v := .ref a_Model_least) (C := RX11) (T := TX11) (N := 19) hx hb hts inX11 hown hK hP 0 rfl rfl 7 (by decide) fl25 (fun _ h9 => h9) rfl dX11_follows_149 ?_
        refine lv_iload hx hb dX11_follows_152 (lv_at hl 0 rfl) ?_
        obtain ⟨ix12, x12, ex12, hf⟩ := rd_s hf
        refine va_iald hx hb hK hP 2 0 rfl rfl ix12 dX11_follows_154 ?_
        refine lv_tpx ex12 ?_
        exact hJ155 l2 l5 l6 l7 l12 r9 x12 Model_thenCost Model_thenWays H locs ls hP hD hS (lv_sub hl [2, 3, 4, 5, 6, 8, 0] rfl) hf
      · have hf := ite_t c11 hf
        refine lv_iconst (v := 0) hx hb dX11_follows_144 (by decide) ?_
        refine lv_goto (tgt := 155) hx hb dX11_follows_145 (by decide) ?_
        exact hJ155 l2 l5 l6 l7 l12 r9 0 Model_thenCost Model_thenWays H locs ls hP hD hS (lv_sub hl [2, 3, 4, 5, 6, 8, 0] rfl) hf
    · have hf := ite_f c8 hf
      cases hf
      exact k_vret () hQ9 hx hb hr hlocks rfl hP hD hS (Nat.le_of_ble_eq_true rfl) (Nat.le_of_ble_eq_true rfl) dX11_follows_123
  have hJ46 : ∀ (l2 l4 l5 l6 l7 l9 k0 Model_thenCost Model_thenWays : Int32) (H : Heap) (locs : List Loc) (ls : Array Slot), va_P D vwCl [(a_Model, .inr (11, [.ref a_Model_now, .ref a_Model_past, .int Model_kept, .int Model_findings, .ref a_Model_bits, .ref a_Model_sizes, .ref a_Model_sheets, .ref a_Model_least, .ref a_Model_ways, .int Model_thenCost, .int Model_thenWays, .int Model_bothCost, .int Model_bothWays, .ref a_Model_handOf, .ref a_Model_crossedAt, .ref a_Model_strokeOf, .ref a_Model_prices, .ref a_Model_hitAt, .ref a_Model_carried])), (a_Model_now, .inl (cI, 187, .inl Model_now)), (a_Model_least, .inl (cI, 8400, .inl Model_least)), (a_Model_ways, .inl (cI, 8400, .inl Model_ways))] H → va_D A [(a_Model, .inr (11, [.ref a_Model_now, .ref a_Model_past, .int Model_kept, .int Model_findings, .ref a_Model_bits, .ref a_Model_sizes, .ref a_Model_sheets, .ref a_Model_least, .ref a_Model_ways, .int Model_thenCost, .int Model_thenWays, .int Model_bothCost, .int Model_bothWays, .ref a_Model_handOf, .ref a_Model_crossedAt, .ref a_Model_strokeOf, .ref a_Model_prices, .ref a_Model_hitAt, .ref a_Model_carried])), (a_Model_now, .inl (cI, 187, .inl Model_now)), (a_Model_least, .inl (cI, 8400, .inl Model_least)), (a_Model_ways, .inl (cI, 8400, .inl Model_ways))] → va_S A s.heap H locs → lv_has ls 16 [(0, .ref a_Model), (2, .int l2), (4, .int l4), (5, .int l5), (6, .int l6), (7, .int l7), (9, .int l9)] → f_Model_follows_46 Model_now Model_least Model_ways  l2 l4 l5 l6 l7 l9 k0 Model_thenCost Model_thenWays = some (z_Model_thenCost, z_Model_thenWays) → W p l e (headSpec wsX11_follows rm_Model_follows).room s m ([.ref a_Model, .int p1, .int p2, .int p3, .int p4, .int p5, .int p6] : List Value).toArray below meth c H locs 0 0 Q9 (F0 m 46 ls [.int k0]) := by
    intro l2 l4 l5 l6 l7 l9 k0 Model_thenCost Model_thenWays H locs ls hP hD hS hl hf
    unfold f_Model_follows_46 at hf
    refine lv_istore (lv' := [(10, .int k0), (0, .ref a_Model), (2, .int l2), (4, .int l4), (5, .int l5), (6, .int l6), (7, .int l7), (9, .int l9)]) hx hb dX11_follows_46 hl (by decide) rfl (fun ls hl => ?_)
    refine lv_aload_n hx hb dX11_follows_48 rfl (lv_at hl 1 rfl) ?_
    refine lv_ldc (v := 1000000) hx hb hown kc100 dX11_follows_49 ?_
    refine va_put (D := D) (ci := 11) (v := .int 1000000) (ty := .int) (C := RX11) (T := TX11) (N := 19) hx hb hts inX11 tyX11 tyX11_ok nmX11 hown hK hP hD hS 0 rfl rfl 9 (by decide) fl101 (fun _ h9 => h9) rfl (by decide +kernel) rfl rfl (Nat.le_of_ble_eq_true rfl) dX11_follows_51 (fun H locs hP hD hS => ?_)
    have hP : va_P D vwCl [(a_Model, .inr (11, [.ref a_Model_now, .ref a_Model_past, .int Model_kept, .int Model_findings, .ref a_Model_bits, .ref a_Model_sizes, .ref a_Model_sheets, .ref a_Model_least, .ref a_Model_ways, .int 1000000, .int Model_thenWays, .int Model_bothCost, .int Model_bothWays, .ref a_Model_handOf, .ref a_Model_crossedAt, .ref a_Model_strokeOf, .ref a_Model_prices, .ref a_Model_hitAt, .ref a_Model_carried])), (a_Model_now, .inl (cI, 187, .inl Model_now)), (a_Model_least, .inl (cI, 8400, .inl Model_least)), (a_Model_ways, .inl (cI, 8400, .inl Model_ways))] H := hP
    have hD : va_D A [(a_Model, .inr (11, [.ref a_Model_now, .ref a_Model_past, .int Model_kept, .int Model_findings, .ref a_Model_bits, .ref a_Model_sizes, .ref a_Model_sheets, .ref a_Model_least, .ref a_Model_ways, .int 1000000, .int Model_thenWays, .int Model_bothCost, .int Model_bothWays, .ref a_Model_handOf, .ref a_Model_crossedAt, .ref a_Model_strokeOf, .ref a_Model_prices, .ref a_Model_hitAt, .ref a_Model_carried])), (a_Model_now, .inl (cI, 187, .inl Model_now)), (a_Model_least, .inl (cI, 8400, .inl Model_least)), (a_Model_ways, .inl (cI, 8400, .inl Model_ways))] := hD
    refine lv_aload_n hx hb dX11_follows_54 rfl (lv_at hl 1 rfl) ?_
    refine lv_iconst (v := 0) hx hb dX11_follows_55 (by decide) ?_
    refine va_put (D := D) (ci := 11) (v := .int 0) (ty := .int) (C := RX11) (T := TX11) (N := 19) hx hb hts inX11 tyX11 tyX11_ok nmX11 hown hK hP hD hS 0 rfl rfl 10 (by decide) fl104 (fun _ h9 => h9) rfl (by decide +kernel) rfl rfl (Nat.le_of_ble_eq_true rfl) dX11_follows_56 (fun H locs hP hD hS => ?_)
    have hP : va_P D vwCl [(a_Model, .inr (11, [.ref a_Model_now, .ref a_Model_past, .int Model_kept, .int Model_findings, .ref a_Model_bits, .ref a_Model_sizes, .ref a_Model_sheets, .ref a_Model_least, .ref a_Model_ways, .int 1000000, .int 0, .int Model_bothCost, .int Model_bothWays, .ref a_Model_handOf, .ref a_Model_crossedAt, .ref a_Model_strokeOf, .ref a_Model_prices, .ref a_Model_hitAt, .ref a_Model_carried])), (a_Model_now, .inl (cI, 187, .inl Model_now)), (a_Model_least, .inl (cI, 8400, .inl Model_least)), (a_Model_ways, .inl (cI, 8400, .inl Model_ways))] H := hP
    have hD : va_D A [(a_Model, .inr (11, [.ref a_Model_now, .ref a_Model_past, .int Model_kept, .int Model_findings, .ref a_Model_bits, .ref a_Model_sizes, .ref a_Model_sheets, .ref a_Model_least, .ref a_Model_ways, .int 1000000, .int 0, .int Model_bothCost, .int Model_bothWays, .ref a_Model_handOf, .ref a_Model_crossedAt, .ref a_Model_strokeOf, .ref a_Model_prices, .ref a_Model_hitAt, .ref a_Model_carried])), (a_Model_now, .inl (cI, 187, .inl Model_now)), (a_Model_least, .inl (cI, 8400, .inl Model_least)), (a_Model_ways, .inl (cI, 8400, .inl Model_ways))] := hD
    refine lv_aload_n hx hb dX11_follows_59 rfl (lv_at hl 1 rfl) ?_
    refine lv_iload hx hb dX11_follows_60 (lv_at hl 6 rfl) ?_
    refine lv_iload hx hb dX11_follows_62 (lv_at hl 4 rfl) ?_
    refine lv_iload hx hb dX11_follows_64 (lv_at hl 7 rfl) ?_
    refine lv_iload hx hb dX11_follows_66 (lv_at hl 0 rfl) ?_
    obtain ⟨r13, g14, hf⟩ := b1_s hf
    refine k_Vi (rest := []) ⟨hx, hb, hml, hown, hts⟩ (c_Model_canBe l D cI cZ t a_Model a_Model_now a_Model_past a_Model_bits a_Model_sizes a_Model_sheets a_Model_least a_Model_ways a_Model_handOf a_Model_crossedAt a_Model_strokeOf a_Model_prices a_Model_hitAt a_Model_carried H.size Model_now Model_kept Model_findings 1000000 0 Model_bothCost Model_bothWays l7 l5 l9 k0 r13 g14) (cwV 4 hts gX11_follows_X11_canBe rfl rfl rfl (by decide +kernel) ⟨Nat.le_of_ble_eq_true rfl, Nat.le_of_ble_eq_true rfl⟩) hE hP hD hS hA [0, 1] [2, 3] rfl rfl rfl rfl rfl 0 11 rfl rfl rfl rfl hl.1 rfl (Nat.le_of_ble_eq_true rfl) dX11_follows_68 ⟨Nat.le_of_ble_eq_true rfl, Nat.le_of_ble_eq_true rfl⟩ (fun rq uq H locs hrq hP hD hS => ?_)
    refine lv_tpx hrq.symm ?_
    have hP : va_P D vwCl [(a_Model_least, .inl (cI, 8400, .inl Model_least)), (a_Model_ways, .inl (cI, 8400, .inl Model_ways)), (a_Model, .inr (11, [.ref a_Model_now, .ref a_Model_past, .int Model_kept, .int Model_findings, .ref a_Model_bits, .ref a_Model_sizes, .ref a_Model_sheets, .ref a_Model_least, .ref a_Model_ways, .int 1000000, .int 0, .int Model_bothCost, .int Model_bothWays, .ref a_Model_handOf, .ref a_Model_crossedAt, .ref a_Model_strokeOf, .ref a_Model_prices, .ref a_Model_hitAt, .ref a_Model_carried])), (a_Model_now, .inl (cI, 187, .inl Model_now))] H := hP
    have hD : va_D A [(a_Model_least, .inl (cI, 8400, .inl Model_least)), (a_Model_ways, .inl (cI, 8400, .inl Model_ways)), (a_Model, .inr (11, [.ref a_Model_now, .ref a_Model_past, .int Model_kept, .int Model_findings, .ref a_Model_bits, .ref a_Model_sizes, .ref a_Model_sheets, .ref a_Model_least, .ref a_Model_ways, .int 1000000, .int 0, .int Model_bothCost, .int Model_bothWays, .ref a_Model_handOf, .ref a_Model_crossedAt, .ref a_Model_strokeOf, .ref a_Model_prices, .ref a_Model_hitAt, .ref a_Model_carried])), (a_Model_now, .inl (cI, 187, .inl Model_now))] := hD
    refine lv_if_ne (tgt := 75) hx hb dX11_follows_71 (by decide) (fun c15 => ?_) (fun c15 => ?_)
    · have hf := ite_f c15 hf
      refine lv_aload_n hx hb dX11_follows_75 rfl (lv_at hl 1 rfl) ?_
      refine lv_iload hx hb dX11_follows_76 (lv_at hl 6 rfl) ?_
      refine lv_iload hx hb dX11_follows_78 (lv_at hl 0 rfl) ?_
      obtain ⟨r16, g17, hf⟩ := b1_s hf
      refine k_Vi (rest := []) ⟨hx, hb, hml, hown, hts⟩ (c_Model_otherThen l D cI cZ t a_Model a_Model_now a_Model_past a_Model_bits a_Model_sizes a_Model_sheets a_Model_least a_Model_ways a_Model_handOf a_Model_crossedAt a_Model_strokeOf a_Model_prices a_Model_hitAt a_Model_carried H.size Model_now Model_kept Model_findings 1000000 0 Model_bothCost Model_bothWays l7 k0 r16 g17) (cwV 2 hts gX11_follows_X11_otherThen rfl rfl rfl (by decide +kernel) ⟨Nat.le_of_ble_eq_true rfl, Nat.le_of_ble_eq_true rfl⟩) hE hP hD hS hA [2, 3] [0, 1] rfl rfl rfl rfl rfl 0 11 rfl rfl rfl rfl hl.1 rfl (Nat.le_of_ble_eq_true rfl) dX11_follows_80 ⟨Nat.le_of_ble_eq_true rfl, Nat.le_of_ble_eq_true rfl⟩ (fun rq uq H locs hrq hP hD hS => ?_)
      refine lv_tpx hrq.symm ?_
      have hP : va_P D vwCl [(a_Model_least, .inl (cI, 8400, .inl Model_least)), (a_Model_ways, .inl (cI, 8400, .inl Model_ways)), (a_Model, .inr (11, [.ref a_Model_now, .ref a_Model_past, .int Model_kept, .int Model_findings, .ref a_Model_bits, .ref a_Model_sizes, .ref a_Model_sheets, .ref a_Model_least, .ref a_Model_ways, .int 1000000, .int 0, .int Model_bothCost, .int Model_bothWays, .ref a_Model_handOf, .ref a_Model_crossedAt, .ref a_Model_strokeOf, .ref a_Model_prices, .ref a_Model_hitAt, .ref a_Model_carried])), (a_Model_now, .inl (cI, 187, .inl Model_now))] H := hP
      have hD : va_D A [(a_Model_least, .inl (cI, 8400, .inl Model_least)), (a_Model_ways, .inl (cI, 8400, .inl Model_ways)), (a_Model, .inr (11, [.ref a_Model_now, .ref a_Model_past, .int Model_kept, .int Model_findings, .ref a_Model_bits, .ref a_Model_sizes, .ref a_Model_sheets, .ref a_Model_least, .ref a_Model_ways, .int 1000000, .int 0, .int Model_bothCost, .int Model_bothWays, .ref a_Model_handOf, .ref a_Model_crossedAt, .ref a_Model_strokeOf, .ref a_Model_prices, .ref a_Model_hitAt, .ref a_Model_carried])), (a_Model_now, .inl (cI, 187, .inl Model_now))] := hD
      refine lv_istore (lv' := [(11, .int r16), (10, .int k0), (0, .ref a_Model), (2, .int l2), (4, .int l4), (5, .int l5), (6, .int l6), (7, .int l7), (9, .int l9)]) hx hb dX11_follows_83 hl (by decide) rfl (fun ls hl => ?_)
      refine lv_aload_n hx hb dX11_follows_85 rfl (lv_at hl 2 rfl) ?_
      refine lv_iload hx hb dX11_follows_86 (lv_at hl 7 rfl) ?_
      refine lv_iload hx hb dX11_follows_88 (lv_at hl 5 rfl) ?_
      refine lv_iload hx hb dX11_follows_90 (lv_at hl 0 rfl) ?_
      obtain ⟨r18, g19, hf⟩ := b1_s hf
      refine k_Vi (rest := []) ⟨hx, hb, hml, hown, hts⟩ (c_Model_isCrossed l D cI cZ t a_Model a_Model_now a_Model_past a_Model_bits a_Model_sizes a_Model_sheets a_Model_least a_Model_ways a_Model_handOf a_Model_crossedAt a_Model_strokeOf a_Model_prices a_Model_hitAt a_Model_carried H.size Model_now Model_kept Model_findings 1000000 0 Model_bothCost Model_bothWays l7 l5 r16 r18 g19) (cwV 3 hts gX11_follows_X11_isCrossed rfl rfl rfl (by decide +kernel) ⟨Nat.le_of_ble_eq_true rfl, Nat.le_of_ble_eq_true rfl⟩) hE hP hD hS hA [2, 3] [0, 1] rfl rfl rfl rfl rfl 0 11 rfl rfl rfl rfl hl.1 rfl (Nat.le_of_ble_eq_true rfl) dX11_follows_92 ⟨Nat.le_of_ble_eq_true rfl, Nat.le_of_ble_eq_true rfl⟩ (fun rq uq H locs hrq hP hD hS => ?_)
      refine lv_tpx hrq.symm ?_
      have hP : va_P D vwCl [(a_Model_least, .inl (cI, 8400, .inl Model_least)), (a_Model_ways, .inl (cI, 8400, .inl Model_ways)), (a_Model, .inr (11, [.ref a_Model_now, .ref a_Model_past, .int Model_kept, .int Model_findings, .ref a_Model_bits, .ref a_Model_sizes, .ref a_Model_sheets, .ref a_Model_least, .ref a_Model_ways, .int 1000000, .int 0, .int Model_bothCost, .int Model_bothWays, .ref a_Model_handOf, .ref a_Model_crossedAt, .ref a_Model_strokeOf, .ref a_Model_prices, .ref a_Model_hitAt, .ref a_Model_carried])), (a_Model_now, .inl (cI, 187, .inl Model_now))] H := hP
      have hD : va_D A [(a_Model_least, .inl (cI, 8400, .inl Model_least)), (a_Model_ways, .inl (cI, 8400, .inl Model_ways)), (a_Model, .inr (11, [.ref a_Model_now, .ref a_Model_past, .int Model_kept, .int Model_findings, .ref a_Model_bits, .ref a_Model_sizes, .ref a_Model_sheets, .ref a_Model_least, .ref a_Model_ways, .int 1000000, .int 0, .int Model_bothCost, .int Model_bothWays, .ref a_Model_handOf, .ref a_Model_crossedAt, .ref a_Model_strokeOf, .ref a_Model_prices, .ref a_Model_hitAt, .ref a_Model_carried])), (a_Model_now, .inl (cI, 187, .inl Model_now))] := hD
      refine lv_istore (lv' := [(12, .int r18), (11, .int r16), (10, .int k0), (0, .ref a_Model), (2, .int l2), (4, .int l4), (5, .int l5), (6, .int l6), (7, .int l7), (9, .int l9)]) hx hb dX11_follows_95 hl (by decide) rfl (fun ls hl => ?_)
      refine lv_iload hx hb dX11_follows_97 (lv_at hl 5 rfl) ?_
      refine lv_iload hx hb dX11_follows_99 (lv_at hl 0 rfl) ?_
      refine lv_if_eq (tgt := 108) hx hb dX11_follows_101 (by decide) (fun c20 => ?_) (fun c20 => ?_)
      · have hf := ite_t c20 hf
        refine lv_iconst (v := 0) hx hb dX11_follows_108 (by decide) ?_
        exact hJ109 l2 l5 l6 l7 r16 r18 l4 0 1000000 0 H locs ls (hP.sub [2, 3, 0, 1] rfl) (hD.sub [2, 3, 0, 1] (by decide) rfl) hS (lv_sub hl [3, 4, 6, 7, 8, 1, 0] rfl) hf
      · have hf := ite_f c20 hf
        refine lv_iconst (v := 1) hx hb dX11_follows_104 (by decide) ?_
        refine lv_goto (tgt := 109) hx hb dX11_follows_105 (by decide) ?_
        exact hJ109 l2 l5 l6 l7 r16 r18 l4 1 1000000 0 H locs ls (hP.sub [2, 3, 0, 1] rfl) (hD.sub [2, 3, 0, 1] (by decide) rfl) hS (lv_sub hl [3, 4, 6, 7, 8, 1, 0] rfl) hf
    · have hf := ite_t c15 hf
      cases hf
      exact k_vret () hQ9 hx hb hr hlocks rfl (hP.sub [2, 3, 0, 1] rfl) (hD.sub [2, 3, 0, 1] (by decide) rfl) hS (Nat.le_of_ble_eq_true rfl) (Nat.le_of_ble_eq_true rfl) dX11_follows_74
  have hJ18 : ∀ (l2 l3 l4 l5 l6 l7 k0 Model_thenCost Model_thenWays : Int32) (H : Heap) (locs : List Loc) (ls : Array Slot), va_P D vwCl [(a_Model, .inr (11, [.ref a_Model_now, .ref a_Model_past, .int Model_kept, .int Model_findings, .ref a_Model_bits, .ref a_Model_sizes, .ref a_Model_sheets, .ref a_Model_least, .ref a_Model_ways, .int Model_thenCost, .int Model_thenWays, .int Model_bothCost, .int Model_bothWays, .ref a_Model_handOf, .ref a_Model_crossedAt, .ref a_Model_strokeOf, .ref a_Model_prices, .ref a_Model_hitAt, .ref a_Model_carried])), (a_Model_now, .inl (cI, 187, .inl Model_now)), (a_Model_least, .inl (cI, 8400, .inl Model_least)), (a_Model_ways, .inl (cI, 8400, .inl Model_ways))] H → va_D A [(a_Model, .inr (11, [.ref a_Model_now, .ref a_Model_past, .int Model_kept, .int Model_findings, .ref a_Model_bits, .ref a_Model_sizes, .ref a_Model_sheets, .ref a_Model_least, .ref a_Model_ways, .int Model_thenCost, .int Model_thenWays, .int Model_bothCost, .int Model_bothWays, .ref a_Model_handOf, .ref a_Model_crossedAt, .ref a_Model_strokeOf, .ref a_Model_prices, .ref a_Model_hitAt, .ref a_Model_carried])), (a_Model_now, .inl (cI, 187, .inl Model_now)), (a_Model_least, .inl (cI, 8400, .inl Model_least)), (a_Model_ways, .inl (cI, 8400, .inl Model_ways))] → va_S A s.heap H locs → lv_has ls 16 [(0, .ref a_Model), (2, .int l2), (3, .int l3), (4, .int l4), (5, .int l5), (6, .int l6), (7, .int l7)] → f_Model_follows_18 Model_now Model_least Model_ways  l2 l3 l4 l5 l6 l7 k0 Model_thenCost Model_thenWays = some (z_Model_thenCost, z_Model_thenWays) → W p l e (headSpec wsX11_follows rm_Model_follows).room s m ([.ref a_Model, .int p1, .int p2, .int p3, .int p4, .int p5, .int p6] : List Value).toArray below meth c H locs 0 0 Q9 (F0 m 18 ls [.int k0]) := by
    intro l2 l3 l4 l5 l6 l7 k0 Model_thenCost Model_thenWays H locs ls hP hD hS hl hf
    unfold f_Model_follows_18 at hf
    refine lv_istore (lv' := [(8, .int k0), (0, .ref a_Model), (2, .int l2), (3, .int l3), (4, .int l4), (5, .int l5), (6, .int l6), (7, .int l7)]) hx hb dX11_follows_18 hl (by decide) rfl (fun ls hl => ?_)
    refine lv_iload hx hb dX11_follows_20 (lv_at hl 5 rfl) ?_
    refine lv_iload_n hx hb dX11_follows_22 rfl (lv_at hl 2 rfl) ?_
    refine lv_icmp_ne (tgt := 31) hx hb dX11_follows_23 (by decide) (fun c21 => ?_) (fun c21 => ?_)
    · have hf := ite_f c21 hf
      refine lv_iload_n hx hb dX11_follows_31 rfl (lv_at hl 3 rfl) ?_
      refine lv_istore (lv' := [(9, .int l3), (8, .int k0), (0, .ref a_Model), (2, .int l2), (3, .int l3), (4, .int l4), (5, .int l5), (6, .int l6), (7, .int l7)]) hx hb dX11_follows_32 hl (by decide) rfl (fun ls hl => ?_)
      refine lv_iload hx hb dX11_follows_34 (lv_at hl 6 rfl) ?_
      refine lv_iload_n hx hb dX11_follows_36 rfl (lv_at hl 3 rfl) ?_
      refine lv_icmp_ne (tgt := 44) hx hb dX11_follows_37 (by decide) (fun c22 => ?_) (fun c22 => ?_)
      · have hf := ite_f c22 hf
        refine lv_iload hx hb dX11_follows_44 (lv_at hl 1 rfl) ?_
        exact hJ46 l2 l4 l5 l6 l7 l3 k0 Model_thenCost Model_thenWays H locs ls hP hD hS (lv_sub hl [2, 3, 5, 6, 7, 8, 0] rfl) hf
      · have hf := ite_t c22 hf
        refine lv_iload_n hx hb dX11_follows_40 rfl (lv_at hl 4 rfl) ?_
        refine lv_goto (tgt := 46) hx hb dX11_follows_41 (by decide) ?_
        exact hJ46 l2 l4 l5 l6 l7 l3 l3 Model_thenCost Model_thenWays H locs ls hP hD hS (lv_sub hl [2, 3, 5, 6, 7, 8, 0] rfl) hf
    · have hf := ite_t c21 hf
      refine lv_iload hx hb dX11_follows_26 (lv_at hl 0 rfl) ?_
      refine lv_goto (tgt := 32) hx hb dX11_follows_28 (by decide) ?_
      refine lv_istore (lv' := [(9, .int k0), (8, .int k0), (0, .ref a_Model), (2, .int l2), (3, .int l3), (4, .int l4), (5, .int l5), (6, .int l6), (7, .int l7)]) hx hb dX11_follows_32 hl (by decide) rfl (fun ls hl => ?_)
      refine lv_iload hx hb dX11_follows_34 (lv_at hl 6 rfl) ?_
      refine lv_iload_n hx hb dX11_follows_36 rfl (lv_at hl 3 rfl) ?_
      refine lv_icmp_ne (tgt := 44) hx hb dX11_follows_37 (by decide) (fun c23 => ?_) (fun c23 => ?_)
      · have hf := ite_f c23 hf
        refine lv_iload hx hb dX11_follows_44 (lv_at hl 1 rfl) ?_
        exact hJ46 l2 l4 l5 l6 l7 k0 k0 Model_thenCost Model_thenWays H locs ls hP hD hS (lv_sub hl [2, 3, 5, 6, 7, 8, 0] rfl) hf
      · have hf := ite_t c23 hf
        refine lv_iload_n hx hb dX11_follows_40 rfl (lv_at hl 4 rfl) ?_
        refine lv_goto (tgt := 46) hx hb dX11_follows_41 (by decide) ?_
        exact hJ46 l2 l4 l5 l6 l7 k0 l3 Model_thenCost Model_thenWays H locs ls hP hD hS (lv_sub hl [2, 3, 5, 6, 7, 8, 0] rfl) hf
  unfold f_Model_follows at hf
  refine lv_iload_n hx hb dX11_follows_0 rfl (lv_at hl 1 rfl) ?_
  refine lv_iconst (v := 1) hx hb dX11_follows_1 (by decide) ?_
  refine lv_iadd hx hb dX11_follows_2 ?_
  obtain ⟨x24, ex24, hf⟩ := nm_s hf
  refine lv_tpx ex24 ?_
  refine lv_istore (lv' := [(7, .int x24), (0, .ref a_Model), (1, .int p1), (2, .int p2), (3, .int p3), (4, .int p4), (5, .int p5), (6, .int p6)]) hx hb dX11_follows_3 hl (by decide) rfl (fun ls hl => ?_)
  refine lv_iload_n hx hb dX11_follows_5 rfl (lv_at hl 2 rfl) ?_
  refine lv_if_ge (tgt := 13) hx hb dX11_follows_6 (by decide) (fun c25 => ?_) (fun c25 => ?_)
  · have hf := ite_t c25 hf
    refine lv_iconst (v := 1) hx hb dX11_follows_13 (by decide) ?_
    refine lv_iconst (v := 2) hx hb dX11_follows_14 (by decide) ?_
    refine lv_iload_n hx hb dX11_follows_15 rfl (lv_at hl 2 rfl) ?_
    refine lv_imul hx hb dX11_follows_16 ?_
    refine lv_iadd hx hb dX11_follows_17 ?_
    exact hJ18 p2 p3 p4 p5 p6 x24 (1 + (2 * p1)) Model_thenCost Model_thenWays s.heap [] ls hP hD hS (lv_sub hl [1, 3, 4, 5, 6, 7, 0] rfl) hf
  · have hf := ite_f c25 hf
    refine lv_iconst (v := 0) hx hb dX11_follows_9 (by decide) ?_
    refine lv_goto (tgt := 18) hx hb dX11_follows_10 (by decide) ?_
    exact hJ18 p2 p3 p4 p5 p6 x24 0 Model_thenCost Model_thenWays s.heap [] ls hP hD hS (lv_sub hl [1, 3, 4, 5, 6, 7, 0] rfl) hf
abbrev rm_Model_both : Room := { frames := 4, cells := 0, slots := 0, locals := 115 }
set_option maxHeartbeats 4000000 in
set_option maxRecDepth 100000 in
theorem c_Model_both (l : Launch) (D : va_G) (cI cZ : ClassId) (t : Nat → Nat) (a_Model a_Model_now a_Model_past a_Model_bits a_Model_sizes a_Model_sheets a_Model_least a_Model_ways a_Model_handOf a_Model_crossedAt a_Model_strokeOf a_Model_prices a_Model_hitAt a_Model_carried sz : Nat) (Model_now Model_least Model_ways : Nat → Int32) (Model_thenCost Model_thenWays Model_bothCost Model_bothWays Model_kept Model_findings p1 p2 p3 p4 p5 z_Model_thenCost z_Model_thenWays z_Model_bothCost z_Model_bothWays : Int32) (hf : f_Model_both Model_now Model_least Model_ways Model_thenCost Model_thenWays Model_bothCost Model_bothWays p1 p2 p3 p4 p5 = some (z_Model_thenCost, z_Model_thenWays, z_Model_bothCost, z_Model_bothWays)) : Met l yX11_both wsX11_both rm_Model_both (va_Pc [.ref a_Model, .int p1, .int p2, .int p3, .int p4, .int p5] (pcW D cI cZ t [(a_Model, .inr (11, [.ref a_Model_now, .ref a_Model_past, .int Model_kept, .int Model_findings, .ref a_Model_bits, .ref a_Model_sizes, .ref a_Model_sheets, .ref a_Model_least, .ref a_Model_ways, .int Model_thenCost, .int Model_thenWays, .int Model_bothCost, .int Model_bothWays, .ref a_Model_handOf, .ref a_Model_crossedAt, .ref a_Model_strokeOf, .ref a_Model_prices, .ref a_Model_hitAt, .ref a_Model_carried])), (a_Model_now, .inl (cI, 187, .inl Model_now)), (a_Model_least, .inl (cI, 8400, .inl Model_least)), (a_Model_ways, .inl (cI, 8400, .inl Model_ways))] sz)) (va_Qv (fun u : Unit => u = u) (fun u t' => bW D (va_A [(a_Model, .inr (11, [.ref a_Model_now, .ref a_Model_past, .int Model_kept, .int Model_findings, .ref a_Model_bits, .ref a_Model_sizes, .ref a_Model_sheets, .ref a_Model_least, .ref a_Model_ways, .int Model_thenCost, .int Model_thenWays, .int Model_bothCost, .int Model_bothWays, .ref a_Model_handOf, .ref a_Model_crossedAt, .ref a_Model_strokeOf, .ref a_Model_prices, .ref a_Model_hitAt, .ref a_Model_carried])), (a_Model_now, .inl (cI, 187, .inl Model_now)), (a_Model_least, .inl (cI, 8400, .inl Model_least)), (a_Model_ways, .inl (cI, 8400, .inl Model_ways))] sz) [(a_Model, .inr (11, [.ref a_Model_now, .ref a_Model_past, .int Model_kept, .int Model_findings, .ref a_Model_bits, .ref a_Model_sizes, .ref a_Model_sheets, .ref a_Model_least, .ref a_Model_ways, .int z_Model_thenCost, .int z_Model_thenWays, .int z_Model_bothCost, .int z_Model_bothWays, .ref a_Model_handOf, .ref a_Model_crossedAt, .ref a_Model_strokeOf, .ref a_Model_prices, .ref a_Model_hitAt, .ref a_Model_carried])), (a_Model_now, .inl (cI, 187, .inl Model_now)), (a_Model_least, .inl (cI, 8400, .inl Model_least)), (a_Model_ways, .inl (cI, 8400, .inl Model_ways))] t') (va_A [(a_Model, .inr (11, [.ref a_Model_now, .ref a_Model_past, .int Model_kept, .int Model_findings, .ref a_Model_bits, .ref a_Model_sizes, .ref a_Model_sheets, .ref a_Model_least, .ref a_Model_ways, .int Model_thenCost, .int Model_thenWays, .int Model_bothCost, .int Model_bothWays, .ref a_Model_handOf, .ref a_Model_crossedAt, .ref a_Model_strokeOf, .ref a_Model_prices, .ref a_Model_hitAt, .ref a_Model_carried])), (a_Model_now, .inl (cI, 187, .inl Model_now)), (a_Model_least, .inl (cI, 8400, .inl Model_least)), (a_Model_ways, .inl (cI, 8400, .inl Model_ways))] sz)) 0 0 (va_A [(a_Model, .inr (11, [.ref a_Model_now, .ref a_Model_past, .int Model_kept, .int Model_findings, .ref a_Model_bits, .ref a_Model_sizes, .ref a_Model_sheets, .ref a_Model_least, .ref a_Model_ways, .int Model_thenCost, .int Model_thenWays, .int Model_bothCost, .int Model_bothWays, .ref a_Model_handOf, .ref a_Model_crossedAt, .ref a_Model_strokeOf, .ref a_Model_prices, .ref a_Model_hitAt, .ref a_Model_carried])), (a_Model_now, .inl (cI, 187, .inl Model_now)), (a_Model_least, .inl (cI, 8400, .inl Model_least)), (a_Model_ways, .inl (cI, 8400, .inl Model_ways))] sz) := by
  refine Met.ofW (cc := cX11_both) (maxL := 7) (ret := none) (by decide) rfl ?_
  intro p e s m args below meth c s₁ B hml hv
  obtain ⟨rfl, hsz, hP, hD0, hE⟩ := hv
  have hx := B.exec
  have hb := B.bytes
  have hr := B.returns
  have hts := atoms_spec (ws := wsX11_both) B.pre
  have hown : s.vm.findClass RX11 = some m.cls := findClass_of_methodNamed B.named
  have hlocks := B.notSynchronized
  subst hsz
  have hD := hD0.self (sz := s.heap.size)
  generalize hAe : va_A [(a_Model, .inr (11, [.ref a_Model_now, .ref a_Model_past, .int Model_kept, .int Model_findings, .ref a_Model_bits, .ref a_Model_sizes, .ref a_Model_sheets, .ref a_Model_least, .ref a_Model_ways, .int Model_thenCost, .int Model_thenWays, .int Model_bothCost, .int Model_bothWays, .ref a_Model_handOf, .ref a_Model_crossedAt, .ref a_Model_strokeOf, .ref a_Model_prices, .ref a_Model_hitAt, .ref a_Model_carried])), (a_Model_now, .inl (cI, 187, .inl Model_now)), (a_Model_least, .inl (cI, 8400, .inl Model_least)), (a_Model_ways, .inl (cI, 8400, .inl Model_ways))] s.heap.size = A at hD hE ⊢
  have hA : ∀ q : Nat, s.heap.size ≤ q → A q := fun q h => by rw [← hAe]; exact Or.inr h
  clear hAe hD0
  have hS : va_S A s.heap s.heap [] := va_S.rf
  have hK := hE.1
  have hl := lv_entry ([.ref a_Model, .int p1, .int p2, .int p3, .int p4, .int p5]) (n := 7) (Nat.le_of_ble_eq_true rfl)
  rw [lg_entry_eq]
  generalize (lg_sl ([.ref a_Model, .int p1, .int p2, .int p3, .int p4, .int p5]) ++ List.replicate (7 - (lg_sl ([.ref a_Model, .int p1, .int p2, .int p3, .int p4, .int p5])).length) Slot.unset).toArray = ls at hl ⊢
  have hl : lv_has ls 7 [(0, .ref a_Model), (1, .int p1), (2, .int p2), (3, .int p3), (4, .int p4), (5, .int p5)] := hl
  refine w_q (fun Q9 hQ9 => ?_)
  have fl101 := hts (.fieldLink RX11 101 "StickRoomModel" "thenCost" "I") (by decide +kernel)
  have inX11 : ∀ w ∈ wsX110, w ∈ wsX11_both := by decide +kernel
  have fl133 := hts (.fieldLink RX11 133 "StickRoomModel" "bothCost" "I") (by decide +kernel)
  have kc100 := hts (.constant RX11 100 1000000) (by decide +kernel)
  have fl136 := hts (.fieldLink RX11 136 "StickRoomModel" "bothWays" "I") (by decide +kernel)
  have fl104 := hts (.fieldLink RX11 104 "StickRoomModel" "thenWays" "I") (by decide +kernel)
  have hL14 : ∀ (n14 : Nat) (l1 l2 l3 l4 l5 l6 Model_thenCost Model_thenWays Model_bothCost Model_bothWays : Int32) (H : Heap) (locs : List Loc) (ls : Array Slot), va_P D vwCl [(a_Model, .inr (11, [.ref a_Model_now, .ref a_Model_past, .int Model_kept, .int Model_findings, .ref a_Model_bits, .ref a_Model_sizes, .ref a_Model_sheets, .ref a_Model_least, .ref a_Model_ways, .int Model_thenCost, .int Model_thenWays, .int Model_bothCost, .int Model_bothWays, .ref a_Model_handOf, .ref a_Model_crossedAt, .ref a_Model_strokeOf, .ref a_Model_prices, .ref a_Model_hitAt, .ref a_Model_carried])), (a_Model_now, .inl (cI, 187, .inl Model_now)), (a_Model_least, .inl (cI, 8400, .inl Model_least)), (a_Model_ways, .inl (cI, 8400, .inl Model_ways))] H → va_D A [(a_Model, .inr (11, [.ref a_Model_now, .ref a_Model_past, .int Model_kept, .int Model_findings, .ref a_Model_bits, .ref a_Model_sizes, .ref a_Model_sheets, .ref a_Model_least, .ref a_Model_ways, .int Model_thenCost, .int Model_thenWays, .int Model_bothCost, .int Model_bothWays, .ref a_Model_handOf, .ref a_Model_crossedAt, .ref a_Model_strokeOf, .ref a_Model_prices, .ref a_Model_hitAt, .ref a_Model_carried])), (a_Model_now, .inl (cI, 187, .inl Model_now)), (a_Model_least, .inl (cI, 8400, .inl Model_least)), (a_Model_ways, .inl (cI, 8400, .inl Model_ways))] → va_S A s.heap H locs → lv_has ls 7 [(0, .ref a_Model), (1, .int l1), (2, .int l2), (3, .int l3), (4, .int l4), (5, .int l5), (6, .int l6)] → f_Model_both_14 Model_now Model_least Model_ways  n14 l1 l2 l3 l4 l5 l6 Model_thenCost Model_thenWays Model_bothCost Model_bothWays = some (z_Model_thenCost, z_Model_thenWays, z_Model_bothCost, z_Model_bothWays) → W p l e (headSpec wsX11_both rm_Model_both).room s m ([.ref a_Model, .int p1, .int p2, .int p3, .int p4, .int p5] : List Value).toArray below meth c H locs 0 0 Q9 (F0 m 14 ls []) := by
    intro n14
    induction n14 with
    | zero => intro l1 l2 l3 l4 l5 l6 Model_thenCost Model_thenWays Model_bothCost Model_bothWays H locs ls hP hD hS hl hf; exact nomatch (show none = some (z_Model_thenCost, z_Model_thenWays, z_Model_bothCost, z_Model_bothWays) from hf)
    | succ n14 ih14 =>
      intro l1 l2 l3 l4 l5 l6 Model_thenCost Model_thenWays Model_bothCost Model_bothWays H locs ls hP hD hS hl hf
      have hf : f_Model_both_14_b Model_now Model_least Model_ways  (f_Model_both_14 Model_now Model_least Model_ways  n14) l1 l2 l3 l4 l5 l6 Model_thenCost Model_thenWays Model_bothCost Model_bothWays = some (z_Model_thenCost, z_Model_thenWays, z_Model_bothCost, z_Model_bothWays) := hf
      unfold f_Model_both_14_b at hf
      refine lv_iload hx hb dX11_both_14 (lv_at hl 6 rfl) ?_
      refine lv_iconst (v := 2) hx hb dX11_both_16 (by decide) ?_
      refine lv_icmp_ge (tgt := 102) hx hb dX11_both_17 (by decide) (fun c1 => ?_) (fun c1 => ?_)
      · have hf := ite_t c1 hf
        cases hf
        exact k_vret () hQ9 hx hb hr hlocks rfl hP hD hS (Nat.le_of_ble_eq_true rfl) (Nat.le_of_ble_eq_true rfl) dX11_both_102
      · have hf := ite_f c1 hf
        refine lv_aload_n hx hb dX11_both_20 rfl (lv_at hl 0 rfl) ?_
        refine lv_iload_n hx hb dX11_both_21 rfl (lv_at hl 1 rfl) ?_
        refine lv_iload_n hx hb dX11_both_22 rfl (lv_at hl 2 rfl) ?_
        refine lv_iload_n hx hb dX11_both_23 rfl (lv_at hl 3 rfl) ?_
        refine lv_iload hx hb dX11_both_24 (lv_at hl 4 rfl) ?_
        refine lv_iload hx hb dX11_both_26 (lv_at hl 6 rfl) ?_
        refine lv_iload hx hb dX11_both_28 (lv_at hl 5 rfl) ?_
        obtain ⟨y2, y3, g4, hf⟩ := b2_s hf
        refine k_Vv (rest := []) ⟨hx, hb, hml, hown, hts⟩ (c_Model_follows l D cI cZ t a_Model a_Model_now a_Model_past a_Model_bits a_Model_sizes a_Model_sheets a_Model_least a_Model_ways a_Model_handOf a_Model_crossedAt a_Model_strokeOf a_Model_prices a_Model_hitAt a_Model_carried H.size Model_now Model_least Model_ways Model_thenCost Model_thenWays Model_kept Model_findings Model_bothCost Model_bothWays l1 l2 l3 l4 l6 l5 y2 y3 g4) (cwV 6 hts gX11_both_X11_follows rfl rfl rfl (by decide +kernel) ⟨Nat.le_of_ble_eq_true rfl, Nat.le_of_ble_eq_true rfl⟩) hE hP hD hS hA [0, 1, 2, 3] [] rfl rfl rfl rfl rfl 0 11 rfl rfl rfl rfl hl.1 rfl (Nat.le_of_ble_eq_true rfl) dX11_both_30 ⟨Nat.le_of_ble_eq_true rfl, Nat.le_of_ble_eq_true rfl⟩ (fun uq H locs hrq hP hD hS => ?_)
        have hP : va_P D vwCl [(a_Model, .inr (11, [.ref a_Model_now, .ref a_Model_past, .int Model_kept, .int Model_findings, .ref a_Model_bits, .ref a_Model_sizes, .ref a_Model_sheets, .ref a_Model_least, .ref a_Model_ways, .int y2, .int y3, .int Model_bothCost, .int Model_bothWays, .ref a_Model_handOf, .ref a_Model_crossedAt, .ref a_Model_strokeOf, .ref a_Model_prices, .ref a_Model_hitAt, .ref a_Model_carried])), (a_Model_now, .inl (cI, 187, .inl Model_now)), (a_Model_least, .inl (cI, 8400, .inl Model_least)), (a_Model_ways, .inl (cI, 8400, .inl Model_ways))] H := hP
        have hD : va_D A [(a_Model, .inr (11, [.ref a_Model_now, .ref a_Model_past, .int Model_kept, .int Model_findings, .ref a_Model_bits, .ref a_Model_sizes, .ref a_Model_sheets, .ref a_Model_least, .ref a_Model_ways, .int y2, .int y3, .int Model_bothCost, .int Model_bothWays, .ref a_Model_handOf, .ref a_Model_crossedAt, .ref a_Model_strokeOf, .ref a_Model_prices, .ref a_Model_hitAt, .ref a_Model_carried])), (a_Model_now, .inl (cI, 187, .inl Model_now)), (a_Model_least, .inl (cI, 8400, .inl Model_least)), (a_Model_ways, .inl (cI, 8400, .inl Model_ways))] := hD
        refine lv_aload_n hx hb dX11_both_33 rfl (lv_at hl 0 rfl) ?_
        refine va_get (D := D) (ci := 11) (v := .int y2) (C := RX11) (T := TX11) (N := 19) hx hb hts inX11 hown hK hP 0 rfl rfl 9 (by decide) fl101 (fun _ h9 => h9) rfl dX11_both_34 ?_
        refine lv_aload_n hx hb dX11_both_37 rfl (lv_at hl 0 rfl) ?_
        refine va_get (D := D) (ci := 11) (v := .int Model_bothCost) (C := RX11) (T := TX11) (N := 19) hx hb hts inX11 hown hK hP 0 rfl rfl 11 (by decide) fl133 (fun _ h9 => h9) rfl dX11_both_38 ?_
        refine lv_icmp_ge (tgt := 63) hx hb dX11_both_41 (by decide) (fun c5 => ?_) (fun c5 => ?_)
        · have hf := ite_t c5 hf
          refine lv_aload_n hx hb dX11_both_63 rfl (lv_at hl 0 rfl) ?_
          refine va_get (D := D) (ci := 11) (v := .int y2) (C := RX11) (T := TX11) (N := 19) hx hb hts inX11 hown hK hP 0 rfl rfl 9 (by decide) fl101 (fun _ h9 => h9) rfl dX11_both_64 ?_
          refine lv_aload_n hx hb dX11_both_67 rfl (lv_at hl 0 rfl) ?_
          refine va_get (D := D) (ci := 11) (v := .int Model_bothCost) (C := RX11) (T := TX11) (N := 19) hx hb hts inX11 hown hK hP 0 rfl rfl 11 (by decide) fl133 (fun _ h9 => h9) rfl dX11_both_68 ?_
          refine lv_icmp_ne (tgt := 96) hx hb dX11_both_71 (by decide) (fun c6 => ?_) (fun c6 => ?_)
          · have hf := ite_f c6 hf
            obtain ⟨x7, ex7, hf⟩ := nm_s hf
            refine lv_iinc (v := x7) (lv' := [(6, .int x7), (0, .ref a_Model), (1, .int l1), (2, .int l2), (3, .int l3), (4, .int l4), (5, .int l5)]) hx hb dX11_both_96 hl (k := 6) rfl (by rw [ex7]; rfl) (by decide) rfl (fun ls hl => ?_)
            refine lv_goto (tgt := 14) hx hb dX11_both_99 (by decide) ?_
            exact ih14 l1 l2 l3 l4 l5 x7 y2 y3 Model_bothCost Model_bothWays H locs ls hP hD hS (lv_sub hl [1, 2, 3, 4, 5, 6, 0] rfl) hf
          · have hf := ite_t c6 hf
            refine lv_aload_n hx hb dX11_both_74 rfl (lv_at hl 0 rfl) ?_
            refine va_get (D := D) (ci := 11) (v := .int y2) (C := RX11) (T := TX11) (N := 19) hx hb hts inX11 hown hK hP 0 rfl rfl 9 (by decide) fl101 (fun _ h9 => h9) rfl dX11_both_75 ?_
            refine lv_ldc (v := 1000000) hx hb hown kc100 dX11_both_78 ?_
            refine lv_icmp_ge (tgt := 96) hx hb dX11_both_80 (by decide) (fun c8 => ?_) (fun c8 => ?_)
            · have hf := ite_t c8 hf
              obtain ⟨x9, ex9, hf⟩ := nm_s hf
              refine lv_iinc (v := x9) (lv' := [(6, .int x9), (0, .ref a_Model), (1, .int l1), (2, .int l2), (3, .int l3), (4, .int l4), (5, .int l5)]) hx hb dX11_both_96 hl (k := 6) rfl (by rw [ex9]; rfl) (by decide) rfl (fun ls hl => ?_)
              refine lv_goto (tgt := 14) hx hb dX11_both_99 (by decide) ?_
              exact ih14 l1 l2 l3 l4 l5 x9 y2 y3 Model_bothCost Model_bothWays H locs ls hP hD hS (lv_sub hl [1, 2, 3, 4, 5, 6, 0] rfl) hf
            · have hf := ite_f c8 hf
              refine lv_aload_n hx hb dX11_both_83 rfl (lv_at hl 0 rfl) ?_
              refine lv_dup hx hb dX11_both_84 rfl ?_
              refine va_get (D := D) (ci := 11) (v := .int Model_bothWays) (C := RX11) (T := TX11) (N := 19) hx hb hts inX11 hown hK hP 0 rfl rfl 12 (by decide) fl136 (fun _ h9 => h9) rfl dX11_both_85 ?_
              refine lv_aload_n hx hb dX11_both_88 rfl (lv_at hl 0 rfl) ?_
              refine va_get (D := D) (ci := 11) (v := .int y3) (C := RX11) (T := TX11) (N := 19) hx hb hts inX11 hown hK hP 0 rfl rfl 10 (by decide) fl104 (fun _ h9 => h9) rfl dX11_both_89 ?_
              refine lv_iadd hx hb dX11_both_92 ?_
              obtain ⟨x10, ex10, hf⟩ := nm_s hf
              refine lv_tpx ex10 ?_
              refine va_put (D := D) (ci := 11) (v := .int x10) (ty := .int) (C := RX11) (T := TX11) (N := 19) hx hb hts inX11 tyX11 tyX11_ok nmX11 hown hK hP hD hS 0 rfl rfl 12 (by decide) fl136 (fun _ h9 => h9) rfl (by decide +kernel) rfl rfl (Nat.le_of_ble_eq_true rfl) dX11_both_93 (fun H locs hP hD hS => ?_)
              have hP : va_P D vwCl [(a_Model, .inr (11, [.ref a_Model_now, .ref a_Model_past, .int Model_kept, .int Model_findings, .ref a_Model_bits, .ref a_Model_sizes, .ref a_Model_sheets, .ref a_Model_least, .ref a_Model_ways, .int y2, .int y3, .int Model_bothCost, .int x10, .ref a_Model_handOf, .ref a_Model_crossedAt, .ref a_Model_strokeOf, .ref a_Model_prices, .ref a_Model_hitAt, .ref a_Model_carried])), (a_Model_now, .inl (cI, 187, .inl Model_now)), (a_Model_least, .inl (cI, 8400, .inl Model_least)), (a_Model_ways, .inl (cI, 8400, .inl Model_ways))] H := hP
              have hD : va_D A [(a_Model, .inr (11, [.ref a_Model_now, .ref a_Model_past, .int Model_kept, .int Model_findings, .ref a_Model_bits, .ref a_Model_sizes, .ref a_Model_sheets, .ref a_Model_least, .ref a_Model_ways, .int y2, .int y3, .int Model_bothCost, .int x10, .ref a_Model_handOf, .ref a_Model_crossedAt, .ref a_Model_strokeOf, .ref a_Model_prices, .ref a_Model_hitAt, .ref a_Model_carried])), (a_Model_now, .inl (cI, 187, .inl Model_now)), (a_Model_least, .inl (cI, 8400, .inl Model_least)), (a_Model_ways, .inl (cI, 8400, .inl Model_ways))] := hD
              obtain ⟨x11, ex11, hf⟩ := nm_s hf
              refine lv_iinc (v := x11) (lv' := [(6, .int x11), (0, .ref a_Model), (1, .int l1), (2, .int l2), (3, .int l3), (4, .int l4), (5, .int l5)]) hx hb dX11_both_96 hl (k := 6) rfl (by rw [ex11]; rfl) (by decide) rfl (fun ls hl => ?_)
              refine lv_goto (tgt := 14) hx hb dX11_both_99 (by decide) ?_
              exact ih14 l1 l2 l3 l4 l5 x11 y2 y3 Model_bothCost x10 H locs ls hP hD hS (lv_sub hl [1, 2, 3, 4, 5, 6, 0] rfl) hf
        · have hf := ite_f c5 hf
          refine lv_aload_n hx hb dX11_both_44 rfl (lv_at hl 0 rfl) ?_
          refine lv_aload_n hx hb dX11_both_45 rfl (lv_at hl 0 rfl) ?_
          refine va_get (D := D) (ci := 11) (v := .int y2) (C := RX11) (T := TX11) (N := 19) hx hb hts inX11 hown hK hP 0 rfl rfl 9 (by decide) fl101 (fun _ h9 => h9) rfl dX11_both_46 ?_
          refine va_put (D := D) (ci := 11) (v := .int y2) (ty := .int) (C := RX11) (T := TX11) (N := 19) hx hb hts inX11 tyX11 tyX11_ok nmX11 hown hK hP hD hS 0 rfl rfl 11 (by decide) fl133 (fun _ h9 => h9) rfl (by decide +kernel) rfl rfl (Nat.le_of_ble_eq_true rfl) dX11_both_49 (fun H locs hP hD hS => ?_)
          have hP : va_P D vwCl [(a_Model, .inr (11, [.ref a_Model_now, .ref a_Model_past, .int Model_kept, .int Model_findings, .ref a_Model_bits, .ref a_Model_sizes, .ref a_Model_sheets, .ref a_Model_least, .ref a_Model_ways, .int y2, .int y3, .int y2, .int Model_bothWays, .ref a_Model_handOf, .ref a_Model_crossedAt, .ref a_Model_strokeOf, .ref a_Model_prices, .ref a_Model_hitAt, .ref a_Model_carried])), (a_Model_now, .inl (cI, 187, .inl Model_now)), (a_Model_least, .inl (cI, 8400, .inl Model_least)), (a_Model_ways, .inl (cI, 8400, .inl Model_ways))] H := hP
          have hD : va_D A [(a_Model, .inr (11, [.ref a_Model_now, .ref a_Model_past, .int Model_kept, .int Model_findings, .ref a_Model_bits, .ref a_Model_sizes, .ref a_Model_sheets, .ref a_Model_least, .ref a_Model_ways, .int y2, .int y3, .int y2, .int Model_bothWays, .ref a_Model_handOf, .ref a_Model_crossedAt, .ref a_Model_strokeOf, .ref a_Model_prices, .ref a_Model_hitAt, .ref a_Model_carried])), (a_Model_now, .inl (cI, 187, .inl Model_now)), (a_Model_least, .inl (cI, 8400, .inl Model_least)), (a_Model_ways, .inl (cI, 8400, .inl Model_ways))] := hD
          refine lv_aload_n hx hb dX11_both_52 rfl (lv_at hl 0 rfl) ?_
          refine lv_aload_n hx hb dX11_both_53 rfl (lv_at hl 0 rfl) ?_
          refine va_get (D := D) (ci := 11) (v := .int y3) (C := RX11) (T := TX11) (N := 19) hx hb hts inX11 hown hK hP 0 rfl rfl 10 (by decide) fl104 (fun _ h9 => h9) rfl dX11_both_54 ?_
          refine va_put (D := D) (ci := 11) (v := .int y3) (ty := .int) (C := RX11) (T := TX11) (N := 19) hx hb hts inX11 tyX11 tyX11_ok nmX11 hown hK hP hD hS 0 rfl rfl 12 (by decide) fl136 (fun _ h9 => h9) rfl (by decide +kernel) rfl rfl (Nat.le_of_ble_eq_true rfl) dX11_both_57 (fun H locs hP hD hS => ?_)
          have hP : va_P D vwCl [(a_Model, .inr (11, [.ref a_Model_now, .ref a_Model_past, .int Model_kept, .int Model_findings, .ref a_Model_bits, .ref a_Model_sizes, .ref a_Model_sheets, .ref a_Model_least, .ref a_Model_ways, .int y2, .int y3, .int y2, .int y3, .ref a_Model_handOf, .ref a_Model_crossedAt, .ref a_Model_strokeOf, .ref a_Model_prices, .ref a_Model_hitAt, .ref a_Model_carried])), (a_Model_now, .inl (cI, 187, .inl Model_now)), (a_Model_least, .inl (cI, 8400, .inl Model_least)), (a_Model_ways, .inl (cI, 8400, .inl Model_ways))] H := hP
          have hD : va_D A [(a_Model, .inr (11, [.ref a_Model_now, .ref a_Model_past, .int Model_kept, .int Model_findings, .ref a_Model_bits, .ref a_Model_sizes, .ref a_Model_sheets, .ref a_Model_least, .ref a_Model_ways, .int y2, .int y3, .int y2, .int y3, .ref a_Model_handOf, .ref a_Model_crossedAt, .ref a_Model_strokeOf, .ref a_Model_prices, .ref a_Model_hitAt, .ref a_Model_carried])), (a_Model_now, .inl (cI, 187, .inl Model_now)), (a_Model_least, .inl (cI, 8400, .inl Model_least)), (a_Model_ways, .inl (cI, 8400, .inl Model_ways))] := hD
          refine lv_goto (tgt := 96) hx hb dX11_both_60 (by decide) ?_
          obtain ⟨x12, ex12, hf⟩ := nm_s hf
          refine lv_iinc (v := x12) (lv' := [(6, .int x12), (0, .ref a_Model), (1, .int l1), (2, .int l2), (3, .int l3), (4, .int l4), (5, .int l5)]) hx hb dX11_both_96 hl (k := 6) rfl (by rw [ex12]; rfl) (by decide) rfl (fun ls hl => ?_)
          refine lv_goto (tgt := 14) hx hb dX11_both_99 (by decide) ?_
          exact ih14 l1 l2 l3 l4 l5 x12 y2 y3 y2 y3 H locs ls hP hD hS (lv_sub hl [1, 2, 3, 4, 5, 6, 0] rfl) hf
  unfold f_Model_both at hf
  refine lv_aload_n hx hb dX11_both_0 rfl (lv_at hl 0 rfl) ?_
  refine lv_ldc (v := 1000000) hx hb hown kc100 dX11_both_1 ?_
  refine va_put (D := D) (ci := 11) (v := .int 1000000) (ty := .int) (C := RX11) (T := TX11) (N := 19) hx hb hts inX11 tyX11 tyX11_ok nmX11 hown hK hP hD hS 0 rfl rfl 11 (by decide) fl133 (fun _ h9 => h9) rfl (by decide +kernel) rfl rfl (Nat.le_of_ble_eq_true rfl) dX11_both_3 (fun H locs hP hD hS => ?_)
  have hP : va_P D vwCl [(a_Model, .inr (11, [.ref a_Model_now, .ref a_Model_past, .int Model_kept, .int Model_findings, .ref a_Model_bits, .ref a_Model_sizes, .ref a_Model_sheets, .ref a_Model_least, .ref a_Model_ways, .int Model_thenCost, .int Model_thenWays, .int 1000000, .int Model_bothWays, .ref a_Model_handOf, .ref a_Model_crossedAt, .ref a_Model_strokeOf, .ref a_Model_prices, .ref a_Model_hitAt, .ref a_Model_carried])), (a_Model_now, .inl (cI, 187, .inl Model_now)), (a_Model_least, .inl (cI, 8400, .inl Model_least)), (a_Model_ways, .inl (cI, 8400, .inl Model_ways))] H := hP
  have hD : va_D A [(a_Model, .inr (11, [.ref a_Model_now, .ref a_Model_past, .int Model_kept, .int Model_findings, .ref a_Model_bits, .ref a_Model_sizes, .ref a_Model_sheets, .ref a_Model_least, .ref a_Model_ways, .int Model_thenCost, .int Model_thenWays, .int 1000000, .int Model_bothWays, .ref a_Model_handOf, .ref a_Model_crossedAt, .ref a_Model_strokeOf, .ref a_Model_prices, .ref a_Model_hitAt, .ref a_Model_carried])), (a_Model_now, .inl (cI, 187, .inl Model_now)), (a_Model_least, .inl (cI, 8400, .inl Model_least)), (a_Model_ways, .inl (cI, 8400, .inl Model_ways))] := hD
  refine lv_aload_n hx hb dX11_both_6 rfl (lv_at hl 0 rfl) ?_
  refine lv_iconst (v := 0) hx hb dX11_both_7 (by decide) ?_
  refine va_put (D := D) (ci := 11) (v := .int 0) (ty := .int) (C := RX11) (T := TX11) (N := 19) hx hb hts inX11 tyX11 tyX11_ok nmX11 hown hK hP hD hS 0 rfl rfl 12 (by decide) fl136 (fun _ h9 => h9) rfl (by decide +kernel) rfl rfl (Nat.le_of_ble_eq_true rfl) dX11_both_8 (fun H locs hP hD hS => ?_)
  have hP : va_P D vwCl [(a_Model, .inr (11, [.ref a_Model_now, .ref a_Model_past, .int Model_kept, .int Model_findings, .ref a_Model_bits, .ref a_Model_sizes, .ref a_Model_sheets, .ref a_Model_least, .ref a_Model_ways, .int Model_thenCost, .int Model_thenWays, .int 1000000, .int 0, .ref a_Model_handOf, .ref a_Model_crossedAt, .ref a_Model_strokeOf, .ref a_Model_prices, .ref a_Model_hitAt, .ref a_Model_carried])), (a_Model_now, .inl (cI, 187, .inl Model_now)), (a_Model_least, .inl (cI, 8400, .inl Model_least)), (a_Model_ways, .inl (cI, 8400, .inl Model_ways))] H := hP
  have hD : va_D A [(a_Model, .inr (11, [.ref a_Model_now, .ref a_Model_past, .int Model_kept, .int Model_findings, .ref a_Model_bits, .ref a_Model_sizes, .ref a_Model_sheets, .ref a_Model_least, .ref a_Model_ways, .int Model_thenCost, .int Model_thenWays, .int 1000000, .int 0, .ref a_Model_handOf, .ref a_Model_crossedAt, .ref a_Model_strokeOf, .ref a_Model_prices, .ref a_Model_hitAt, .ref a_Model_carried])), (a_Model_now, .inl (cI, 187, .inl Model_now)), (a_Model_least, .inl (cI, 8400, .inl Model_least)), (a_Model_ways, .inl (cI, 8400, .inl Model_ways))] := hD
  refine lv_iconst (v := 0) hx hb dX11_both_11 (by decide) ?_
  refine lv_istore (lv' := [(6, .int 0), (0, .ref a_Model), (1, .int p1), (2, .int p2), (3, .int p3), (4, .int p4), (5, .int p5)]) hx hb dX11_both_12 hl (by decide) rfl (fun ls hl => ?_)
  exact hL14 fu p1 p2 p3 p4 p5 0 Model_thenCost Model_thenWays 1000000 0 H locs ls hP hD hS (lv_sub hl [1, 2, 3, 4, 5, 6, 0] rfl) hf
abbrev rm_Model_findHands : Room := { frames := 5, cells := 0, slots := 0, locals := 141 }
set_option maxHeartbeats 4000000 in
set_option maxRecDepth 100000 in
theorem c_Model_findHands (l : Launch) (D : va_G) (cI cZ : ClassId) (t : Nat → Nat) (a_Model a_Model_now a_Model_past a_Model_bits a_Model_sizes a_Model_sheets a_Model_least a_Model_ways a_Model_handOf a_Model_crossedAt a_Model_strokeOf a_Model_prices a_Model_hitAt a_Model_carried sz : Nat) (Model_now Model_least Model_ways : Nat → Int32) (Model_thenCost Model_thenWays Model_bothCost Model_bothWays Model_kept Model_findings p1 : Int32) (z_Model_least z_Model_ways : Nat → Int32) (z_Model_thenCost z_Model_thenWays z_Model_bothCost z_Model_bothWays : Int32) (hf : f_Model_findHands Model_now Model_least Model_ways Model_thenCost Model_thenWays Model_bothCost Model_bothWays p1 = some (z_Model_least, z_Model_ways, z_Model_thenCost, z_Model_thenWays, z_Model_bothCost, z_Model_bothWays)) : Met l yX11_findHands wsX11_findHands rm_Model_findHands (va_Pc [.ref a_Model, .int p1] (pcW D cI cZ t [(a_Model, .inr (11, [.ref a_Model_now, .ref a_Model_past, .int Model_kept, .int Model_findings, .ref a_Model_bits, .ref a_Model_sizes, .ref a_Model_sheets, .ref a_Model_least, .ref a_Model_ways, .int Model_thenCost, .int Model_thenWays, .int Model_bothCost, .int Model_bothWays, .ref a_Model_handOf, .ref a_Model_crossedAt, .ref a_Model_strokeOf, .ref a_Model_prices, .ref a_Model_hitAt, .ref a_Model_carried])), (a_Model_now, .inl (cI, 187, .inl Model_now)), (a_Model_least, .inl (cI, 8400, .inl Model_least)), (a_Model_ways, .inl (cI, 8400, .inl Model_ways))] sz)) (va_Qv (fun u : Unit => u = u) (fun u t' => bW D (va_A [(a_Model, .inr (11, [.ref a_Model_now, .ref a_Model_past, .int Model_kept, .int Model_findings, .ref a_Model_bits, .ref a_Model_sizes, .ref a_Model_sheets, .ref a_Model_least, .ref a_Model_ways, .int Model_thenCost, .int Model_thenWays, .int Model_bothCost, .int Model_bothWays, .ref a_Model_handOf, .ref a_Model_crossedAt, .ref a_Model_strokeOf, .ref a_Model_prices, .ref a_Model_hitAt, .ref a_Model_carried])), (a_Model_now, .inl (cI, 187, .inl Model_now)), (a_Model_least, .inl (cI, 8400, .inl Model_least)), (a_Model_ways, .inl (cI, 8400, .inl Model_ways))] sz) [(a_Model, .inr (11, [.ref a_Model_now, .ref a_Model_past, .int Model_kept, .int Model_findings, .ref a_Model_bits, .ref a_Model_sizes, .ref a_Model_sheets, .ref a_Model_least, .ref a_Model_ways, .int z_Model_thenCost, .int z_Model_thenWays, .int z_Model_bothCost, .int z_Model_bothWays, .ref a_Model_handOf, .ref a_Model_crossedAt, .ref a_Model_strokeOf, .ref a_Model_prices, .ref a_Model_hitAt, .ref a_Model_carried])), (a_Model_now, .inl (cI, 187, .inl Model_now)), (a_Model_least, .inl (cI, 8400, .inl z_Model_least)), (a_Model_ways, .inl (cI, 8400, .inl z_Model_ways))] t') (va_A [(a_Model, .inr (11, [.ref a_Model_now, .ref a_Model_past, .int Model_kept, .int Model_findings, .ref a_Model_bits, .ref a_Model_sizes, .ref a_Model_sheets, .ref a_Model_least, .ref a_Model_ways, .int Model_thenCost, .int Model_thenWays, .int Model_bothCost, .int Model_bothWays, .ref a_Model_handOf, .ref a_Model_crossedAt, .ref a_Model_strokeOf, .ref a_Model_prices, .ref a_Model_hitAt, .ref a_Model_carried])), (a_Model_now, .inl (cI, 187, .inl Model_now)), (a_Model_least, .inl (cI, 8400, .inl Model_least)), (a_Model_ways, .inl (cI, 8400, .inl Model_ways))] sz)) 0 0 (va_A [(a_Model, .inr (11, [.ref a_Model_now, .ref a_Model_past, .int Model_kept, .int Model_findings, .ref a_Model_bits, .ref a_Model_sizes, .ref a_Model_sheets, .ref a_Model_least, .ref a_Model_ways, .int Model_thenCost, .int Model_thenWays, .int Model_bothCost, .int Model_bothWays, .ref a_Model_handOf, .ref a_Model_crossedAt, .ref a_Model_strokeOf, .ref a_Model_prices, .ref a_Model_hitAt, .ref a_Model_carried])), (a_Model_now, .inl (cI, 187, .inl Model_now)), (a_Model_least, .inl (cI, 8400, .inl Model_least)), (a_Model_ways, .inl (cI, 8400, .inl Model_ways))] sz) := by
  refine Met.ofW (cc := cX11_findHands) (maxL := 7) (ret := none) (by decide) rfl ?_
  intro p e s m args below meth c s₁ B hml hv
  obtain ⟨rfl, hsz, hP, hD0, hE⟩ := hv
  have hx := B.exec
  have hb := B.bytes
  have hr := B.returns
  have hts := atoms_spec (ws := wsX11_findHands) B.pre
  have hown : s.vm.findClass RX11 = some m.cls := findClass_of_methodNamed B.named
  have hlocks := B.notSynchronized
  subst hsz
  have hD := hD0.self (sz := s.heap.size)
  generalize hAe : va_A [(a_Model, .inr (11, [.ref a_Model_now, .ref a_Model_past, .int Model_kept, .int Model_findings, .ref a_Model_bits, .ref a_Model_sizes, .ref a_Model_sheets, .ref a_Model_least, .ref a_Model_ways, .int Model_thenCost, .int Model_thenWays, .int Model_bothCost, .int Model_bothWays, .ref a_Model_handOf, .ref a_Model_crossedAt, .ref a_Model_strokeOf, .ref a_Model_prices, .ref a_Model_hitAt, .ref a_Model_carried])), (a_Model_now, .inl (cI, 187, .inl Model_now)), (a_Model_least, .inl (cI, 8400, .inl Model_least)), (a_Model_ways, .inl (cI, 8400, .inl Model_ways))] s.heap.size = A at hD hE ⊢
  have hA : ∀ q : Nat, s.heap.size ≤ q → A q := fun q h => by rw [← hAe]; exact Or.inr h
  clear hAe hD0
  have hS : va_S A s.heap s.heap [] := va_S.rf
  have hK := hE.1
  have hl := lv_entry ([.ref a_Model, .int p1]) (n := 7) (Nat.le_of_ble_eq_true rfl)
  rw [lg_entry_eq]
  generalize (lg_sl ([.ref a_Model, .int p1]) ++ List.replicate (7 - (lg_sl ([.ref a_Model, .int p1])).length) Slot.unset).toArray = ls at hl ⊢
  have hl : lv_has ls 7 [(0, .ref a_Model), (1, .int p1)] := hl
  refine w_q (fun Q9 hQ9 => ?_)
  have fl25 := hts (.fieldLink RX11 25 "StickRoomModel" "least" "[I") (by decide +kernel)
  have inX11 : ∀ w ∈ wsX110, w ∈ wsX11_findHands := by decide +kernel
  have fl133 := hts (.fieldLink RX11 133 "StickRoomModel" "bothCost" "I") (by decide +kernel)
  have fl28 := hts (.fieldLink RX11 28 "StickRoomModel" "ways" "[I") (by decide +kernel)
  have fl136 := hts (.fieldLink RX11 136 "StickRoomModel" "bothWays" "I") (by decide +kernel)
  have hL4 : ∀ (n4 : Nat) (l1 l2 : Int32) (Model_least Model_ways : Nat → Int32) (Model_thenCost Model_thenWays Model_bothCost Model_bothWays : Int32) (H : Heap) (locs : List Loc) (ls : Array Slot), va_P D vwCl [(a_Model, .inr (11, [.ref a_Model_now, .ref a_Model_past, .int Model_kept, .int Model_findings, .ref a_Model_bits, .ref a_Model_sizes, .ref a_Model_sheets, .ref a_Model_least, .ref a_Model_ways, .int Model_thenCost, .int Model_thenWays, .int Model_bothCost, .int Model_bothWays, .ref a_Model_handOf, .ref a_Model_crossedAt, .ref a_Model_strokeOf, .ref a_Model_prices, .ref a_Model_hitAt, .ref a_Model_carried])), (a_Model_now, .inl (cI, 187, .inl Model_now)), (a_Model_least, .inl (cI, 8400, .inl Model_least)), (a_Model_ways, .inl (cI, 8400, .inl Model_ways))] H → va_D A [(a_Model, .inr (11, [.ref a_Model_now, .ref a_Model_past, .int Model_kept, .int Model_findings, .ref a_Model_bits, .ref a_Model_sizes, .ref a_Model_sheets, .ref a_Model_least, .ref a_Model_ways, .int Model_thenCost, .int Model_thenWays, .int Model_bothCost, .int Model_bothWays, .ref a_Model_handOf, .ref a_Model_crossedAt, .ref a_Model_strokeOf, .ref a_Model_prices, .ref a_Model_hitAt, .ref a_Model_carried])), (a_Model_now, .inl (cI, 187, .inl Model_now)), (a_Model_least, .inl (cI, 8400, .inl Model_least)), (a_Model_ways, .inl (cI, 8400, .inl Model_ways))] → va_S A s.heap H locs → lv_has ls 7 [(0, .ref a_Model), (1, .int l1), (2, .int l2)] → f_Model_findHands_4 Model_now  n4 l1 l2 Model_least Model_ways Model_thenCost Model_thenWays Model_bothCost Model_bothWays = some (z_Model_least, z_Model_ways, z_Model_thenCost, z_Model_thenWays, z_Model_bothCost, z_Model_bothWays) → W p l e (headSpec wsX11_findHands rm_Model_findHands).room s m ([.ref a_Model, .int p1] : List Value).toArray below meth c H locs 0 0 Q9 (F0 m 4 ls []) := by
    intro n4
    induction n4 with
    | zero => intro l1 l2 Model_least Model_ways Model_thenCost Model_thenWays Model_bothCost Model_bothWays H locs ls hP hD hS hl hf; exact nomatch (show none = some (z_Model_least, z_Model_ways, z_Model_thenCost, z_Model_thenWays, z_Model_bothCost, z_Model_bothWays) from hf)
    | succ n4 ih4 =>
      have hL10 : ∀ (n10 : Nat) (l1 l2 l3 : Int32) (Model_least Model_ways : Nat → Int32) (Model_thenCost Model_thenWays Model_bothCost Model_bothWays : Int32) (H : Heap) (locs : List Loc) (ls : Array Slot), va_P D vwCl [(a_Model, .inr (11, [.ref a_Model_now, .ref a_Model_past, .int Model_kept, .int Model_findings, .ref a_Model_bits, .ref a_Model_sizes, .ref a_Model_sheets, .ref a_Model_least, .ref a_Model_ways, .int Model_thenCost, .int Model_thenWays, .int Model_bothCost, .int Model_bothWays, .ref a_Model_handOf, .ref a_Model_crossedAt, .ref a_Model_strokeOf, .ref a_Model_prices, .ref a_Model_hitAt, .ref a_Model_carried])), (a_Model_now, .inl (cI, 187, .inl Model_now)), (a_Model_least, .inl (cI, 8400, .inl Model_least)), (a_Model_ways, .inl (cI, 8400, .inl Model_ways))] H → va_D A [(a_Model, .inr (11, [.ref a_Model_now, .ref a_Model_past, .int Model_kept, .int Model_findings, .ref a_Model_bits, .ref a_Model_sizes, .ref a_Model_sheets, .ref a_Model_least, .ref a_Model_ways, .int Model_thenCost, .int Model_thenWays, .int Model_bothCost, .int Model_bothWays, .ref a_Model_handOf, .ref a_Model_crossedAt, .ref a_Model_strokeOf, .ref a_Model_prices, .ref a_Model_hitAt, .ref a_Model_carried])), (a_Model_now, .inl (cI, 187, .inl Model_now)), (a_Model_least, .inl (cI, 8400, .inl Model_least)), (a_Model_ways, .inl (cI, 8400, .inl Model_ways))] → va_S A s.heap H locs → lv_has ls 7 [(0, .ref a_Model), (1, .int l1), (2, .int l2), (3, .int l3)] → f_Model_findHands_10 Model_now (f_Model_findHands_4 Model_now  n4) n10 l1 l2 l3 Model_least Model_ways Model_thenCost Model_thenWays Model_bothCost Model_bothWays = some (z_Model_least, z_Model_ways, z_Model_thenCost, z_Model_thenWays, z_Model_bothCost, z_Model_bothWays) → W p l e (headSpec wsX11_findHands rm_Model_findHands).room s m ([.ref a_Model, .int p1] : List Value).toArray below meth c H locs 0 0 Q9 (F0 m 10 ls []) := by
        intro n10
        induction n10 with
        | zero => intro l1 l2 l3 Model_least Model_ways Model_thenCost Model_thenWays Model_bothCost Model_bothWays H locs ls hP hD hS hl hf; exact nomatch (show none = some (z_Model_least, z_Model_ways, z_Model_thenCost, z_Model_thenWays, z_Model_bothCost, z_Model_bothWays) from hf)
        | succ n10 ih10 =>
          have hL18 : ∀ (n18 : Nat) (l1 l2 l3 l4 : Int32) (Model_least Model_ways : Nat → Int32) (Model_thenCost Model_thenWays Model_bothCost Model_bothWays : Int32) (H : Heap) (locs : List Loc) (ls : Array Slot), va_P D vwCl [(a_Model, .inr (11, [.ref a_Model_now, .ref a_Model_past, .int Model_kept, .int Model_findings, .ref a_Model_bits, .ref a_Model_sizes, .ref a_Model_sheets, .ref a_Model_least, .ref a_Model_ways, .int Model_thenCost, .int Model_thenWays, .int Model_bothCost, .int Model_bothWays, .ref a_Model_handOf, .ref a_Model_crossedAt, .ref a_Model_strokeOf, .ref a_Model_prices, .ref a_Model_hitAt, .ref a_Model_carried])), (a_Model_now, .inl (cI, 187, .inl Model_now)), (a_Model_least, .inl (cI, 8400, .inl Model_least)), (a_Model_ways, .inl (cI, 8400, .inl Model_ways))] H → va_D A [(a_Model, .inr (11, [.ref a_Model_now, .ref a_Model_past, .int Model_kept, .int Model_findings, .ref a_Model_bits, .ref a_Model_sizes, .ref a_Model_sheets, .ref a_Model_least, .ref a_Model_ways, .int Model_thenCost, .int Model_thenWays, .int Model_bothCost, .int Model_bothWays, .ref a_Model_handOf, .ref a_Model_crossedAt, .ref a_Model_strokeOf, .ref a_Model_prices, .ref a_Model_hitAt, .ref a_Model_carried])), (a_Model_now, .inl (cI, 187, .inl Model_now)), (a_Model_least, .inl (cI, 8400, .inl Model_least)), (a_Model_ways, .inl (cI, 8400, .inl Model_ways))] → va_S A s.heap H locs → lv_has ls 7 [(0, .ref a_Model), (1, .int l1), (2, .int l2), (3, .int l3), (4, .int l4)] → f_Model_findHands_18 Model_now (f_Model_findHands_4 Model_now  n4) (f_Model_findHands_10 Model_now (f_Model_findHands_4 Model_now  n4) n10) n18 l1 l2 l3 l4 Model_least Model_ways Model_thenCost Model_thenWays Model_bothCost Model_bothWays = some (z_Model_least, z_Model_ways, z_Model_thenCost, z_Model_thenWays, z_Model_bothCost, z_Model_bothWays) → W p l e (headSpec wsX11_findHands rm_Model_findHands).room s m ([.ref a_Model, .int p1] : List Value).toArray below meth c H locs 0 0 Q9 (F0 m 18 ls []) := by
            intro n18
            induction n18 with
            | zero => intro l1 l2 l3 l4 Model_least Model_ways Model_thenCost Model_thenWays Model_bothCost Model_bothWays H locs ls hP hD hS hl hf; exact nomatch (show none = some (z_Model_least, z_Model_ways, z_Model_thenCost, z_Model_thenWays, z_Model_bothCost, z_Model_bothWays) from hf)
            | succ n18 ih18 =>
              have hL31 : ∀ (n31 : Nat) (l1 l2 l3 l4 l5 : Int32) (Model_least Model_ways : Nat → Int32) (Model_thenCost Model_thenWays Model_bothCost Model_bothWays : Int32) (H : Heap) (locs : List Loc) (ls : Array Slot), va_P D vwCl [(a_Model, .inr (11, [.ref a_Model_now, .ref a_Model_past, .int Model_kept, .int Model_findings, .ref a_Model_bits, .ref a_Model_sizes, .ref a_Model_sheets, .ref a_Model_least, .ref a_Model_ways, .int Model_thenCost, .int Model_thenWays, .int Model_bothCost, .int Model_bothWays, .ref a_Model_handOf, .ref a_Model_crossedAt, .ref a_Model_strokeOf, .ref a_Model_prices, .ref a_Model_hitAt, .ref a_Model_carried])), (a_Model_now, .inl (cI, 187, .inl Model_now)), (a_Model_least, .inl (cI, 8400, .inl Model_least)), (a_Model_ways, .inl (cI, 8400, .inl Model_ways))] H → va_D A [(a_Model, .inr (11, [.ref a_Model_now, .ref a_Model_past, .int Model_kept, .int Model_findings, .ref a_Model_bits, .ref a_Model_sizes, .ref a_Model_sheets, .ref a_Model_least, .ref a_Model_ways, .int Model_thenCost, .int Model_thenWays, .int Model_bothCost, .int Model_bothWays, .ref a_Model_handOf, .ref a_Model_crossedAt, .ref a_Model_strokeOf, .ref a_Model_prices, .ref a_Model_hitAt, .ref a_Model_carried])), (a_Model_now, .inl (cI, 187, .inl Model_now)), (a_Model_least, .inl (cI, 8400, .inl Model_least)), (a_Model_ways, .inl (cI, 8400, .inl Model_ways))] → va_S A s.heap H locs → lv_has ls 7 [(0, .ref a_Model), (1, .int l1), (2, .int l2), (3, .int l3), (4, .int l4), (5, .int l5)] → f_Model_findHands_31 Model_now (f_Model_findHands_4 Model_now  n4) (f_Model_findHands_10 Model_now (f_Model_findHands_4 Model_now  n4) n10) (f_Model_findHands_18 Model_now (f_Model_findHands_4 Model_now  n4) (f_Model_findHands_10 Model_now (f_Model_findHands_4 Model_now  n4) n10) n18) n31 l1 l2 l3 l4 l5 Model_least Model_ways Model_thenCost Model_thenWays Model_bothCost Model_bothWays = some (z_Model_least, z_Model_ways, z_Model_thenCost, z_Model_thenWays, z_Model_bothCost, z_Model_bothWays) → W p l e (headSpec wsX11_findHands rm_Model_findHands).room s m ([.ref a_Model, .int p1] : List Value).toArray below meth c H locs 0 0 Q9 (F0 m 31 ls []) := by
                intro n31
                induction n31 with
                | zero => intro l1 l2 l3 l4 l5 Model_least Model_ways Model_thenCost Model_thenWays Model_bothCost Model_bothWays H locs ls hP hD hS hl hf; exact nomatch (show none = some (z_Model_least, z_Model_ways, z_Model_thenCost, z_Model_thenWays, z_Model_bothCost, z_Model_bothWays) from hf)
                | succ n31 ih31 =>
                  intro l1 l2 l3 l4 l5 Model_least Model_ways Model_thenCost Model_thenWays Model_bothCost Model_bothWays H locs ls hP hD hS hl hf
                  have hf : f_Model_findHands_31_b Model_now (f_Model_findHands_4 Model_now  n4) (f_Model_findHands_10 Model_now (f_Model_findHands_4 Model_now  n4) n10) (f_Model_findHands_18 Model_now (f_Model_findHands_4 Model_now  n4) (f_Model_findHands_10 Model_now (f_Model_findHands_4 Model_now  n4) n10) n18) (f_Model_findHands_31 Model_now (f_Model_findHands_4 Model_now  n4) (f_Model_findHands_10 Model_now (f_Model_findHands_4 Model_now  n4) n10) (f_Model_findHands_18 Model_now (f_Model_findHands_4 Model_now  n4) (f_Model_findHands_10 Model_now (f_Model_findHands_4 Model_now  n4) n10) n18) n31) l1 l2 l3 l4 l5 Model_least Model_ways Model_thenCost Model_thenWays Model_bothCost Model_bothWays = some (z_Model_least, z_Model_ways, z_Model_thenCost, z_Model_thenWays, z_Model_bothCost, z_Model_bothWays) := hf
                  unfold f_Model_findHands_31_b at hf
                  refine lv_iload hx hb dX11_findHands_31 (lv_at hl 5 rfl) ?_
                  refine lv_iconst (v := 5) hx hb dX11_findHands_33 (by decide) ?_
                  refine lv_icmp_ge (tgt := 87) hx hb dX11_findHands_34 (by decide) (fun c1 => ?_) (fun c1 => ?_)
                  · have hf := ite_t c1 hf
                    obtain ⟨x2, ex2, hf⟩ := nm_s hf
                    refine lv_iinc (v := x2) (lv' := [(4, .int x2), (0, .ref a_Model), (1, .int l1), (2, .int l2), (3, .int l3), (5, .int l5)]) hx hb dX11_findHands_87 hl (k := 4) rfl (by rw [ex2]; rfl) (by decide) rfl (fun ls hl => ?_)
                    refine lv_goto (tgt := 18) hx hb dX11_findHands_90 (by decide) ?_
                    exact ih18 l1 l2 l3 x2 Model_least Model_ways Model_thenCost Model_thenWays Model_bothCost Model_bothWays H locs ls hP hD hS (lv_sub hl [1, 2, 3, 4, 0] rfl) hf
                  · have hf := ite_f c1 hf
                    refine lv_aload_n hx hb dX11_findHands_37 rfl (lv_at hl 0 rfl) ?_
                    refine lv_iload_n hx hb dX11_findHands_38 rfl (lv_at hl 2 rfl) ?_
                    refine lv_iload_n hx hb dX11_findHands_39 rfl (lv_at hl 3 rfl) ?_
                    refine lv_iload hx hb dX11_findHands_40 (lv_at hl 4 rfl) ?_
                    refine lv_iload hx hb dX11_findHands_42 (lv_at hl 5 rfl) ?_
                    refine lv_iload_n hx hb dX11_findHands_44 rfl (lv_at hl 1 rfl) ?_
                    obtain ⟨y3, y4, y5, y6, g7, hf⟩ := b4_s hf
                    refine k_Vv (rest := []) ⟨hx, hb, hml, hown, hts⟩ (c_Model_both l D cI cZ t a_Model a_Model_now a_Model_past a_Model_bits a_Model_sizes a_Model_sheets a_Model_least a_Model_ways a_Model_handOf a_Model_crossedAt a_Model_strokeOf a_Model_prices a_Model_hitAt a_Model_carried H.size Model_now Model_least Model_ways Model_thenCost Model_thenWays Model_bothCost Model_bothWays Model_kept Model_findings l2 l3 l4 l5 l1 y3 y4 y5 y6 g7) (cwV 5 hts gX11_findHands_X11_both rfl rfl rfl (by decide +kernel) ⟨Nat.le_of_ble_eq_true rfl, Nat.le_of_ble_eq_true rfl⟩) hE hP hD hS hA [0, 1, 2, 3] [] rfl rfl rfl rfl rfl 0 11 rfl rfl rfl rfl hl.1 rfl (Nat.le_of_ble_eq_true rfl) dX11_findHands_45 ⟨Nat.le_of_ble_eq_true rfl, Nat.le_of_ble_eq_true rfl⟩ (fun uq H locs hrq hP hD hS => ?_)
                    have hP : va_P D vwCl [(a_Model, .inr (11, [.ref a_Model_now, .ref a_Model_past, .int Model_kept, .int Model_findings, .ref a_Model_bits, .ref a_Model_sizes, .ref a_Model_sheets, .ref a_Model_least, .ref a_Model_ways, .int y3, .int y4, .int y5, .int y6, .ref a_Model_handOf, .ref a_Model_crossedAt, .ref a_Model_strokeOf, .ref a_Model_prices, .ref a_Model_hitAt, .ref a_Model_carried])), (a_Model_now, .inl (cI, 187, .inl Model_now)), (a_Model_least, .inl (cI, 8400, .inl Model_least)), (a_Model_ways, .inl (cI, 8400, .inl Model_ways))] H := hP
                    have hD : va_D A [(a_Model, .inr (11, [.ref a_Model_now, .ref a_Model_past, .int Model_kept, .int Model_findings, .ref a_Model_bits, .ref a_Model_sizes, .ref a_Model_sheets, .ref a_Model_least, .ref a_Model_ways, .int y3, .int y4, .int y5, .int y6, .ref a_Model_handOf, .ref a_Model_crossedAt, .ref a_Model_strokeOf, .ref a_Model_prices, .ref a_Model_hitAt, .ref a_Model_carried])), (a_Model_now, .inl (cI, 187, .inl Model_now)), (a_Model_least, .inl (cI, 8400, .inl Model_least)), (a_Model_ways, .inl (cI, 8400, .inl Model_ways))] := hD
                    refine lv_iload_n hx hb dX11_findHands_48 rfl (lv_at hl 2 rfl) ?_
                    refine lv_iload_n hx hb dX11_findHands_49 rfl (lv_at hl 3 rfl) ?_
                    refine lv_iload hx hb dX11_findHands_50 (lv_at hl 4 rfl) ?_
                    refine lv_iload hx hb dX11_findHands_52 (lv_at hl 5 rfl) ?_
                    obtain ⟨r8, g9, hf⟩ := b1_s hf
                    refine k_Si (rest := []) ⟨hx, hb, hml, hown, hts⟩ (c_Model_stateOf l D cI cZ t  H.size l2 l3 l4 l5 r8 g9) (va_cwS 4 hts gX11_findHands_X11_stateOf rfl rfl rfl (by decide +kernel) ⟨Nat.le_of_ble_eq_true rfl, Nat.le_of_ble_eq_true rfl⟩) hE hP hD hS hA [] [0, 1, 2, 3] rfl rfl rfl rfl rfl rfl hl.1 rfl (Nat.le_of_ble_eq_true rfl) dX11_findHands_54 ⟨Nat.le_of_ble_eq_true rfl, Nat.le_of_ble_eq_true rfl⟩ (fun rq uq H locs hrq hP hD hS => ?_)
                    refine lv_tpx hrq.symm ?_
                    have hP : va_P D vwCl [(a_Model, .inr (11, [.ref a_Model_now, .ref a_Model_past, .int Model_kept, .int Model_findings, .ref a_Model_bits, .ref a_Model_sizes, .ref a_Model_sheets, .ref a_Model_least, .ref a_Model_ways, .int y3, .int y4, .int y5, .int y6, .ref a_Model_handOf, .ref a_Model_crossedAt, .ref a_Model_strokeOf, .ref a_Model_prices, .ref a_Model_hitAt, .ref a_Model_carried])), (a_Model_now, .inl (cI, 187, .inl Model_now)), (a_Model_least, .inl (cI, 8400, .inl Model_least)), (a_Model_ways, .inl (cI, 8400, .inl Model_ways))] H := hP
                    have hD : va_D A [(a_Model, .inr (11, [.ref a_Model_now, .ref a_Model_past, .int Model_kept, .int Model_findings, .ref a_Model_bits, .ref a_Model_sizes, .ref a_Model_sheets, .ref a_Model_least, .ref a_Model_ways, .int y3, .int y4, .int y5, .int y6, .ref a_Model_handOf, .ref a_Model_crossedAt, .ref a_Model_strokeOf, .ref a_Model_prices, .ref a_Model_hitAt, .ref a_Model_carried])), (a_Model_now, .inl (cI, 187, .inl Model_now)), (a_Model_least, .inl (cI, 8400, .inl Model_least)), (a_Model_ways, .inl (cI, 8400, .inl Model_ways))] := hD
                    refine lv_istore (lv' := [(6, .int r8), (0, .ref a_Model), (1, .int l1), (2, .int l2), (3, .int l3), (4, .int l4), (5, .int l5)]) hx hb dX11_findHands_57 hl (by decide) rfl (fun ls hl => ?_)
                    refine lv_aload_n hx hb dX11_findHands_59 rfl (lv_at hl 1 rfl) ?_
                    refine va_get (D := D) (ci := 11) (v := .ref a_Model_least) (C := RX11) (T := TX11) (N := 19) hx hb hts inX11 hown hK hP 0 rfl rfl 7 (by decide) fl25 (fun _ h9 => h9) rfl dX11_findHands_60 ?_
                    refine lv_iload hx hb dX11_findHands_63 (lv_at hl 0 rfl) ?_
                    refine lv_aload_n hx hb dX11_findHands_65 rfl (lv_at hl 1 rfl) ?_
                    refine va_get (D := D) (ci := 11) (v := .int y5) (C := RX11) (T := TX11) (N := 19) hx hb hts inX11 hown hK hP 0 rfl rfl 11 (by decide) fl133 (fun _ h9 => h9) rfl dX11_findHands_66 ?_
                    obtain ⟨i10, hf⟩ := ck_s hf
                    refine va_iast hx hb hK hP hD hS 2 0 rfl rfl i10 dX11_findHands_69 (fun H locs hP hD hS => ?_)
                    have hP : va_P D vwCl [(a_Model, .inr (11, [.ref a_Model_now, .ref a_Model_past, .int Model_kept, .int Model_findings, .ref a_Model_bits, .ref a_Model_sizes, .ref a_Model_sheets, .ref a_Model_least, .ref a_Model_ways, .int y3, .int y4, .int y5, .int y6, .ref a_Model_handOf, .ref a_Model_crossedAt, .ref a_Model_strokeOf, .ref a_Model_prices, .ref a_Model_hitAt, .ref a_Model_carried])), (a_Model_now, .inl (cI, 187, .inl Model_now)), (a_Model_least, .inl (cI, 8400, .inl (upd Model_least r8.toNatClampNeg y5))), (a_Model_ways, .inl (cI, 8400, .inl Model_ways))] H := hP
                    have hD : va_D A [(a_Model, .inr (11, [.ref a_Model_now, .ref a_Model_past, .int Model_kept, .int Model_findings, .ref a_Model_bits, .ref a_Model_sizes, .ref a_Model_sheets, .ref a_Model_least, .ref a_Model_ways, .int y3, .int y4, .int y5, .int y6, .ref a_Model_handOf, .ref a_Model_crossedAt, .ref a_Model_strokeOf, .ref a_Model_prices, .ref a_Model_hitAt, .ref a_Model_carried])), (a_Model_now, .inl (cI, 187, .inl Model_now)), (a_Model_least, .inl (cI, 8400, .inl (upd Model_least r8.toNatClampNeg y5))), (a_Model_ways, .inl (cI, 8400, .inl Model_ways))] := hD
                    refine lv_aload_n hx hb dX11_findHands_70 rfl (lv_at hl 1 rfl) ?_
                    refine va_get (D := D) (ci := 11) (v := .ref a_Model_ways) (C := RX11) (T := TX11) (N := 19) hx hb hts inX11 hown hK hP 0 rfl rfl 8 (by decide) fl28 (fun _ h9 => h9) rfl dX11_findHands_71 ?_
                    refine lv_iload hx hb dX11_findHands_74 (lv_at hl 0 rfl) ?_
                    refine lv_aload_n hx hb dX11_findHands_76 rfl (lv_at hl 1 rfl) ?_
                    refine va_get (D := D) (ci := 11) (v := .int y6) (C := RX11) (T := TX11) (N := 19) hx hb hts inX11 hown hK hP 0 rfl rfl 12 (by decide) fl136 (fun _ h9 => h9) rfl dX11_findHands_77 ?_
                    obtain ⟨i11, hf⟩ := ck_s hf
                    refine va_iast hx hb hK hP hD hS 3 0 rfl rfl i11 dX11_findHands_80 (fun H locs hP hD hS => ?_)
                    have hP : va_P D vwCl [(a_Model, .inr (11, [.ref a_Model_now, .ref a_Model_past, .int Model_kept, .int Model_findings, .ref a_Model_bits, .ref a_Model_sizes, .ref a_Model_sheets, .ref a_Model_least, .ref a_Model_ways, .int y3, .int y4, .int y5, .int y6, .ref a_Model_handOf, .ref a_Model_crossedAt, .ref a_Model_strokeOf, .ref a_Model_prices, .ref a_Model_hitAt, .ref a_Model_carried])), (a_Model_now, .inl (cI, 187, .inl Model_now)), (a_Model_least, .inl (cI, 8400, .inl (upd Model_least r8.toNatClampNeg y5))), (a_Model_ways, .inl (cI, 8400, .inl (upd Model_ways r8.toNatClampNeg y6)))] H := hP
                    have hD : va_D A [(a_Model, .inr (11, [.ref a_Model_now, .ref a_Model_past, .int Model_kept, .int Model_findings, .ref a_Model_bits, .ref a_Model_sizes, .ref a_Model_sheets, .ref a_Model_least, .ref a_Model_ways, .int y3, .int y4, .int y5, .int y6, .ref a_Model_handOf, .ref a_Model_crossedAt, .ref a_Model_strokeOf, .ref a_Model_prices, .ref a_Model_hitAt, .ref a_Model_carried])), (a_Model_now, .inl (cI, 187, .inl Model_now)), (a_Model_least, .inl (cI, 8400, .inl (upd Model_least r8.toNatClampNeg y5))), (a_Model_ways, .inl (cI, 8400, .inl (upd Model_ways r8.toNatClampNeg y6)))] := hD
                    obtain ⟨x12, ex12, hf⟩ := nm_s hf
                    refine lv_iinc (v := x12) (lv' := [(5, .int x12), (6, .int r8), (0, .ref a_Model), (1, .int l1), (2, .int l2), (3, .int l3), (4, .int l4)]) hx hb dX11_findHands_81 hl (k := 6) rfl (by rw [ex12]; rfl) (by decide) rfl (fun ls hl => ?_)
                    refine lv_goto (tgt := 31) hx hb dX11_findHands_84 (by decide) ?_
                    exact ih31 l1 l2 l3 l4 x12 (upd Model_least r8.toNatClampNeg y5) (upd Model_ways r8.toNatClampNeg y6) y3 y4 y5 y6 H locs ls hP hD hS (lv_sub hl [2, 3, 4, 5, 6, 0] rfl) hf
              intro l1 l2 l3 l4 Model_least Model_ways Model_thenCost Model_thenWays Model_bothCost Model_bothWays H locs ls hP hD hS hl hf
              have hf : f_Model_findHands_18_b Model_now (f_Model_findHands_4 Model_now  n4) (f_Model_findHands_10 Model_now (f_Model_findHands_4 Model_now  n4) n10) (f_Model_findHands_18 Model_now (f_Model_findHands_4 Model_now  n4) (f_Model_findHands_10 Model_now (f_Model_findHands_4 Model_now  n4) n10) n18) l1 l2 l3 l4 Model_least Model_ways Model_thenCost Model_thenWays Model_bothCost Model_bothWays = some (z_Model_least, z_Model_ways, z_Model_thenCost, z_Model_thenWays, z_Model_bothCost, z_Model_bothWays) := hf
              unfold f_Model_findHands_18_b at hf
              refine lv_iload hx hb dX11_findHands_18 (lv_at hl 4 rfl) ?_
              refine lv_iconst (v := 2) hx hb dX11_findHands_20 (by decide) ?_
              refine lv_iconst (v := 2) hx hb dX11_findHands_21 (by decide) ?_
              refine lv_iload_n hx hb dX11_findHands_22 rfl (lv_at hl 2 rfl) ?_
              refine lv_imul hx hb dX11_findHands_23 ?_
              refine lv_iadd hx hb dX11_findHands_24 ?_
              refine lv_icmp_gt (tgt := 93) hx hb dX11_findHands_25 (by decide) (fun c13 => ?_) (fun c13 => ?_)
              · have hf := ite_t c13 hf
                obtain ⟨x14, ex14, hf⟩ := nm_s hf
                refine lv_iinc (v := x14) (lv' := [(3, .int x14), (0, .ref a_Model), (1, .int l1), (2, .int l2), (4, .int l4)]) hx hb dX11_findHands_93 hl (k := 3) rfl (by rw [ex14]; rfl) (by decide) rfl (fun ls hl => ?_)
                refine lv_goto (tgt := 10) hx hb dX11_findHands_96 (by decide) ?_
                exact ih10 l1 l2 x14 Model_least Model_ways Model_thenCost Model_thenWays Model_bothCost Model_bothWays H locs ls hP hD hS (lv_sub hl [1, 2, 3, 0] rfl) hf
              · have hf := ite_f c13 hf
                refine lv_iconst (v := 0) hx hb dX11_findHands_28 (by decide) ?_
                refine lv_istore (lv' := [(5, .int 0), (0, .ref a_Model), (1, .int l1), (2, .int l2), (3, .int l3), (4, .int l4)]) hx hb dX11_findHands_29 hl (by decide) rfl (fun ls hl => ?_)
                exact hL31 fu l1 l2 l3 l4 0 Model_least Model_ways Model_thenCost Model_thenWays Model_bothCost Model_bothWays H locs ls hP hD hS (lv_sub hl [1, 2, 3, 4, 5, 0] rfl) hf
          intro l1 l2 l3 Model_least Model_ways Model_thenCost Model_thenWays Model_bothCost Model_bothWays H locs ls hP hD hS hl hf
          have hf : f_Model_findHands_10_b Model_now (f_Model_findHands_4 Model_now  n4) (f_Model_findHands_10 Model_now (f_Model_findHands_4 Model_now  n4) n10) l1 l2 l3 Model_least Model_ways Model_thenCost Model_thenWays Model_bothCost Model_bothWays = some (z_Model_least, z_Model_ways, z_Model_thenCost, z_Model_thenWays, z_Model_bothCost, z_Model_bothWays) := hf
          unfold f_Model_findHands_10_b at hf
          refine lv_iload_n hx hb dX11_findHands_10 rfl (lv_at hl 3 rfl) ?_
          refine lv_iconst (v := 2) hx hb dX11_findHands_11 (by decide) ?_
          refine lv_icmp_ge (tgt := 99) hx hb dX11_findHands_12 (by decide) (fun c15 => ?_) (fun c15 => ?_)
          · have hf := ite_t c15 hf
            obtain ⟨x16, ex16, hf⟩ := nm_s hf
            refine lv_iinc (v := x16) (lv' := [(2, .int x16), (0, .ref a_Model), (1, .int l1), (3, .int l3)]) hx hb dX11_findHands_99 hl (k := 2) rfl (by rw [ex16]; rfl) (by decide) rfl (fun ls hl => ?_)
            refine lv_goto (tgt := 4) hx hb dX11_findHands_102 (by decide) ?_
            exact ih4 l1 x16 Model_least Model_ways Model_thenCost Model_thenWays Model_bothCost Model_bothWays H locs ls hP hD hS (lv_sub hl [1, 2, 0] rfl) hf
          · have hf := ite_f c15 hf
            refine lv_iconst (v := 0) hx hb dX11_findHands_15 (by decide) ?_
            refine lv_istore (lv' := [(4, .int 0), (0, .ref a_Model), (1, .int l1), (2, .int l2), (3, .int l3)]) hx hb dX11_findHands_16 hl (by decide) rfl (fun ls hl => ?_)
            exact hL18 fu l1 l2 l3 0 Model_least Model_ways Model_thenCost Model_thenWays Model_bothCost Model_bothWays H locs ls hP hD hS (lv_sub hl [1, 2, 3, 4, 0] rfl) hf
      intro l1 l2 Model_least Model_ways Model_thenCost Model_thenWays Model_bothCost Model_bothWays H locs ls hP hD hS hl hf
      have hf : f_Model_findHands_4_b Model_now  (f_Model_findHands_4 Model_now  n4) l1 l2 Model_least Model_ways Model_thenCost Model_thenWays Model_bothCost Model_bothWays = some (z_Model_least, z_Model_ways, z_Model_thenCost, z_Model_thenWays, z_Model_bothCost, z_Model_bothWays) := hf
      unfold f_Model_findHands_4_b at hf
      refine lv_iload_n hx hb dX11_findHands_4 rfl (lv_at hl 2 rfl) ?_
      refine lv_if_lt (tgt := 105) hx hb dX11_findHands_5 (by decide) (fun c17 => ?_) (fun c17 => ?_)
      · have hf := ite_t c17 hf
        cases hf
        exact k_vret () hQ9 hx hb hr hlocks rfl hP hD hS (Nat.le_of_ble_eq_true rfl) (Nat.le_of_ble_eq_true rfl) dX11_findHands_105
      · have hf := ite_f c17 hf
        refine lv_iconst (v := 0) hx hb dX11_findHands_8 (by decide) ?_
        refine lv_istore_n (lv' := [(3, .int 0), (0, .ref a_Model), (1, .int l1), (2, .int l2)]) hx hb dX11_findHands_9 rfl hl (by decide) rfl (fun ls hl => ?_)
        exact hL10 fu l1 l2 0 Model_least Model_ways Model_thenCost Model_thenWays Model_bothCost Model_bothWays H locs ls hP hD hS (lv_sub hl [1, 2, 3, 0] rfl) hf
  unfold f_Model_findHands at hf
  refine lv_iload_n hx hb dX11_findHands_0 rfl (lv_at hl 1 rfl) ?_
  refine lv_iconst (v := 1) hx hb dX11_findHands_1 (by decide) ?_
  refine lv_isub hx hb dX11_findHands_2 ?_
  obtain ⟨x18, ex18, hf⟩ := nm_s hf
  refine lv_tpx ex18 ?_
  refine lv_istore_n (lv' := [(2, .int x18), (0, .ref a_Model), (1, .int p1)]) hx hb dX11_findHands_3 rfl hl (by decide) rfl (fun ls hl => ?_)
  exact hL4 fu p1 x18 Model_least Model_ways Model_thenCost Model_thenWays Model_bothCost Model_bothWays s.heap [] ls hP hD hS (lv_sub hl [1, 2, 0] rfl) hf
abbrev rm_Model_costUpTo : Room := { frames := 6, cells := 0, slots := 0, locals := 167 }
set_option maxHeartbeats 4000000 in
set_option maxRecDepth 100000 in
theorem c_Model_costUpTo (l : Launch) (D : va_G) (cI cZ : ClassId) (t : Nat → Nat) (a_Model a_Model_now a_Model_past a_Model_bits a_Model_sizes a_Model_sheets a_Model_least a_Model_ways a_Model_handOf a_Model_crossedAt a_Model_strokeOf a_Model_prices a_Model_hitAt a_Model_carried sz : Nat) (Model_now Model_least Model_ways : Nat → Int32) (Model_thenCost Model_thenWays Model_bothCost Model_bothWays Model_kept Model_findings p1 zr : Int32) (z_Model_least z_Model_ways : Nat → Int32) (z_Model_thenCost z_Model_thenWays z_Model_bothCost z_Model_bothWays : Int32) (hf : f_Model_costUpTo Model_now Model_least Model_ways Model_thenCost Model_thenWays Model_bothCost Model_bothWays p1 = some (zr, z_Model_least, z_Model_ways, z_Model_thenCost, z_Model_thenWays, z_Model_bothCost, z_Model_bothWays)) : Met l yX11_costUpTo wsX11_costUpTo rm_Model_costUpTo (va_Pc [.ref a_Model, .int p1] (pcW D cI cZ t [(a_Model, .inr (11, [.ref a_Model_now, .ref a_Model_past, .int Model_kept, .int Model_findings, .ref a_Model_bits, .ref a_Model_sizes, .ref a_Model_sheets, .ref a_Model_least, .ref a_Model_ways, .int Model_thenCost, .int Model_thenWays, .int Model_bothCost, .int Model_bothWays, .ref a_Model_handOf, .ref a_Model_crossedAt, .ref a_Model_strokeOf, .ref a_Model_prices, .ref a_Model_hitAt, .ref a_Model_carried])), (a_Model_now, .inl (cI, 187, .inl Model_now)), (a_Model_least, .inl (cI, 8400, .inl Model_least)), (a_Model_ways, .inl (cI, 8400, .inl Model_ways))] sz)) (va_Qi (fun r (u : Unit) => r = zr) (fun u t' => bW D (va_A [(a_Model, .inr (11, [.ref a_Model_now, .ref a_Model_past, .int Model_kept, .int Model_findings, .ref a_Model_bits, .ref a_Model_sizes, .ref a_Model_sheets, .ref a_Model_least, .ref a_Model_ways, .int Model_thenCost, .int Model_thenWays, .int Model_bothCost, .int Model_bothWays, .ref a_Model_handOf, .ref a_Model_crossedAt, .ref a_Model_strokeOf, .ref a_Model_prices, .ref a_Model_hitAt, .ref a_Model_carried])), (a_Model_now, .inl (cI, 187, .inl Model_now)), (a_Model_least, .inl (cI, 8400, .inl Model_least)), (a_Model_ways, .inl (cI, 8400, .inl Model_ways))] sz) [(a_Model, .inr (11, [.ref a_Model_now, .ref a_Model_past, .int Model_kept, .int Model_findings, .ref a_Model_bits, .ref a_Model_sizes, .ref a_Model_sheets, .ref a_Model_least, .ref a_Model_ways, .int z_Model_thenCost, .int z_Model_thenWays, .int z_Model_bothCost, .int z_Model_bothWays, .ref a_Model_handOf, .ref a_Model_crossedAt, .ref a_Model_strokeOf, .ref a_Model_prices, .ref a_Model_hitAt, .ref a_Model_carried])), (a_Model_now, .inl (cI, 187, .inl Model_now)), (a_Model_least, .inl (cI, 8400, .inl z_Model_least)), (a_Model_ways, .inl (cI, 8400, .inl z_Model_ways))] t') (va_A [(a_Model, .inr (11, [.ref a_Model_now, .ref a_Model_past, .int Model_kept, .int Model_findings, .ref a_Model_bits, .ref a_Model_sizes, .ref a_Model_sheets, .ref a_Model_least, .ref a_Model_ways, .int Model_thenCost, .int Model_thenWays, .int Model_bothCost, .int Model_bothWays, .ref a_Model_handOf, .ref a_Model_crossedAt, .ref a_Model_strokeOf, .ref a_Model_prices, .ref a_Model_hitAt, .ref a_Model_carried])), (a_Model_now, .inl (cI, 187, .inl Model_now)), (a_Model_least, .inl (cI, 8400, .inl Model_least)), (a_Model_ways, .inl (cI, 8400, .inl Model_ways))] sz)) 0 0 (va_A [(a_Model, .inr (11, [.ref a_Model_now, .ref a_Model_past, .int Model_kept, .int Model_findings, .ref a_Model_bits, .ref a_Model_sizes, .ref a_Model_sheets, .ref a_Model_least, .ref a_Model_ways, .int Model_thenCost, .int Model_thenWays, .int Model_bothCost, .int Model_bothWays, .ref a_Model_handOf, .ref a_Model_crossedAt, .ref a_Model_strokeOf, .ref a_Model_prices, .ref a_Model_hitAt, .ref a_Model_carried])), (a_Model_now, .inl (cI, 187, .inl Model_now)), (a_Model_least, .inl (cI, 8400, .inl Model_least)), (a_Model_ways, .inl (cI, 8400, .inl Model_ways))] sz) := by
  refine Met.ofW (cc := cX11_costUpTo) (maxL := 2) (ret := (some .int)) (by decide) rfl ?_
  intro p e s m args below meth c s₁ B hml hv
  obtain ⟨rfl, hsz, hP, hD0, hE⟩ := hv
  have hx := B.exec
  have hb := B.bytes
  have hr := B.returns
  have hts := atoms_spec (ws := wsX11_costUpTo) B.pre
  have hown : s.vm.findClass RX11 = some m.cls := findClass_of_methodNamed B.named
  have hlocks := B.notSynchronized
  subst hsz
  have hD := hD0.self (sz := s.heap.size)
  generalize hAe : va_A [(a_Model, .inr (11, [.ref a_Model_now, .ref a_Model_past, .int Model_kept, .int Model_findings, .ref a_Model_bits, .ref a_Model_sizes, .ref a_Model_sheets, .ref a_Model_least, .ref a_Model_ways, .int Model_thenCost, .int Model_thenWays, .int Model_bothCost, .int Model_bothWays, .ref a_Model_handOf, .ref a_Model_crossedAt, .ref a_Model_strokeOf, .ref a_Model_prices, .ref a_Model_hitAt, .ref a_Model_carried])), (a_Model_now, .inl (cI, 187, .inl Model_now)), (a_Model_least, .inl (cI, 8400, .inl Model_least)), (a_Model_ways, .inl (cI, 8400, .inl Model_ways))] s.heap.size = A at hD hE ⊢
  have hA : ∀ q : Nat, s.heap.size ≤ q → A q := fun q h => by rw [← hAe]; exact Or.inr h
  clear hAe hD0
  have hS : va_S A s.heap s.heap [] := va_S.rf
  have hK := hE.1
  have hl := lv_entry ([.ref a_Model, .int p1]) (n := 2) (Nat.le_of_ble_eq_true rfl)
  rw [lg_entry_eq]
  generalize (lg_sl ([.ref a_Model, .int p1]) ++ List.replicate (2 - (lg_sl ([.ref a_Model, .int p1])).length) Slot.unset).toArray = ls at hl ⊢
  have hl : lv_has ls 2 [(0, .ref a_Model), (1, .int p1)] := hl
  refine w_q (fun Q9 hQ9 => ?_)
  have fl133 := hts (.fieldLink RX11 133 "StickRoomModel" "bothCost" "I") (by decide +kernel)
  have inX11 : ∀ w ∈ wsX110, w ∈ wsX11_costUpTo := by decide +kernel
  have fl136 := hts (.fieldLink RX11 136 "StickRoomModel" "bothWays" "I") (by decide +kernel)
  unfold f_Model_costUpTo at hf
  refine lv_iload_n hx hb dX11_costUpTo_0 rfl (lv_at hl 1 rfl) ?_
  refine lv_if_ge (tgt := 11) hx hb dX11_costUpTo_1 (by decide) (fun c1 => ?_) (fun c1 => ?_)
  · have hf := ite_t c1 hf
    refine lv_aload_n hx hb dX11_costUpTo_11 rfl (lv_at hl 0 rfl) ?_
    refine lv_iload_n hx hb dX11_costUpTo_12 rfl (lv_at hl 1 rfl) ?_
    obtain ⟨y2, y3, y4, y5, y6, y7, g8, hf⟩ := b6_s hf
    refine k_Vv (rest := []) ⟨hx, hb, hml, hown, hts⟩ (c_Model_findHands l D cI cZ t a_Model a_Model_now a_Model_past a_Model_bits a_Model_sizes a_Model_sheets a_Model_least a_Model_ways a_Model_handOf a_Model_crossedAt a_Model_strokeOf a_Model_prices a_Model_hitAt a_Model_carried s.heap.size Model_now Model_least Model_ways Model_thenCost Model_thenWays Model_bothCost Model_bothWays Model_kept Model_findings p1 y2 y3 y4 y5 y6 y7 g8) (cwV 1 hts gX11_costUpTo_X11_findHands rfl rfl rfl (by decide +kernel) ⟨Nat.le_of_ble_eq_true rfl, Nat.le_of_ble_eq_true rfl⟩) hE hP hD hS hA [0, 1, 2, 3] [] rfl rfl rfl rfl rfl 0 11 rfl rfl rfl rfl hl.1 rfl (Nat.le_of_ble_eq_true rfl) dX11_costUpTo_13 ⟨Nat.le_of_ble_eq_true rfl, Nat.le_of_ble_eq_true rfl⟩ (fun uq H locs hrq hP hD hS => ?_)
    have hP : va_P D vwCl [(a_Model, .inr (11, [.ref a_Model_now, .ref a_Model_past, .int Model_kept, .int Model_findings, .ref a_Model_bits, .ref a_Model_sizes, .ref a_Model_sheets, .ref a_Model_least, .ref a_Model_ways, .int y4, .int y5, .int y6, .int y7, .ref a_Model_handOf, .ref a_Model_crossedAt, .ref a_Model_strokeOf, .ref a_Model_prices, .ref a_Model_hitAt, .ref a_Model_carried])), (a_Model_now, .inl (cI, 187, .inl Model_now)), (a_Model_least, .inl (cI, 8400, .inl y2)), (a_Model_ways, .inl (cI, 8400, .inl y3))] H := hP
    have hD : va_D A [(a_Model, .inr (11, [.ref a_Model_now, .ref a_Model_past, .int Model_kept, .int Model_findings, .ref a_Model_bits, .ref a_Model_sizes, .ref a_Model_sheets, .ref a_Model_least, .ref a_Model_ways, .int y4, .int y5, .int y6, .int y7, .ref a_Model_handOf, .ref a_Model_crossedAt, .ref a_Model_strokeOf, .ref a_Model_prices, .ref a_Model_hitAt, .ref a_Model_carried])), (a_Model_now, .inl (cI, 187, .inl Model_now)), (a_Model_least, .inl (cI, 8400, .inl y2)), (a_Model_ways, .inl (cI, 8400, .inl y3))] := hD
    refine lv_aload_n hx hb dX11_costUpTo_16 rfl (lv_at hl 0 rfl) ?_
    refine lv_iconst (v := (-1)) hx hb dX11_costUpTo_17 (by decide) ?_
    refine lv_iconst (v := (-1)) hx hb dX11_costUpTo_18 (by decide) ?_
    refine lv_iconst (v := 0) hx hb dX11_costUpTo_19 (by decide) ?_
    refine lv_iconst (v := 0) hx hb dX11_costUpTo_20 (by decide) ?_
    refine lv_iload_n hx hb dX11_costUpTo_21 rfl (lv_at hl 1 rfl) ?_
    obtain ⟨y9, y10, y11, y12, g13, hf⟩ := b4_s hf
    refine k_Vv (rest := []) ⟨hx, hb, hml, hown, hts⟩ (c_Model_both l D cI cZ t a_Model a_Model_now a_Model_past a_Model_bits a_Model_sizes a_Model_sheets a_Model_least a_Model_ways a_Model_handOf a_Model_crossedAt a_Model_strokeOf a_Model_prices a_Model_hitAt a_Model_carried H.size Model_now y2 y3 y4 y5 y6 y7 Model_kept Model_findings (-1) (-1) 0 0 p1 y9 y10 y11 y12 g13) (cwV 5 hts gX11_costUpTo_X11_both rfl rfl rfl (by decide +kernel) ⟨Nat.le_of_ble_eq_true rfl, Nat.le_of_ble_eq_true rfl⟩) hE hP hD hS hA [0, 1, 2, 3] [] rfl rfl rfl rfl rfl 0 11 rfl rfl rfl rfl hl.1 rfl (Nat.le_of_ble_eq_true rfl) dX11_costUpTo_22 ⟨Nat.le_of_ble_eq_true rfl, Nat.le_of_ble_eq_true rfl⟩ (fun uq H locs hrq hP hD hS => ?_)
    have hP : va_P D vwCl [(a_Model, .inr (11, [.ref a_Model_now, .ref a_Model_past, .int Model_kept, .int Model_findings, .ref a_Model_bits, .ref a_Model_sizes, .ref a_Model_sheets, .ref a_Model_least, .ref a_Model_ways, .int y9, .int y10, .int y11, .int y12, .ref a_Model_handOf, .ref a_Model_crossedAt, .ref a_Model_strokeOf, .ref a_Model_prices, .ref a_Model_hitAt, .ref a_Model_carried])), (a_Model_now, .inl (cI, 187, .inl Model_now)), (a_Model_least, .inl (cI, 8400, .inl y2)), (a_Model_ways, .inl (cI, 8400, .inl y3))] H := hP
    have hD : va_D A [(a_Model, .inr (11, [.ref a_Model_now, .ref a_Model_past, .int Model_kept, .int Model_findings, .ref a_Model_bits, .ref a_Model_sizes, .ref a_Model_sheets, .ref a_Model_least, .ref a_Model_ways, .int y9, .int y10, .int y11, .int y12, .ref a_Model_handOf, .ref a_Model_crossedAt, .ref a_Model_strokeOf, .ref a_Model_prices, .ref a_Model_hitAt, .ref a_Model_carried])), (a_Model_now, .inl (cI, 187, .inl Model_now)), (a_Model_least, .inl (cI, 8400, .inl y2)), (a_Model_ways, .inl (cI, 8400, .inl y3))] := hD
    refine lv_aload_n hx hb dX11_costUpTo_25 rfl (lv_at hl 0 rfl) ?_
    refine va_get (D := D) (ci := 11) (v := .int y11) (C := RX11) (T := TX11) (N := 19) hx hb hts inX11 hown hK hP 0 rfl rfl 11 (by decide) fl133 (fun _ h9 => h9) rfl dX11_costUpTo_26 ?_
    cases hf
    exact k_iret () hQ9 hx hb hr hlocks rfl hP hD hS (Nat.le_of_ble_eq_true rfl) (Nat.le_of_ble_eq_true rfl) dX11_costUpTo_29
  · have hf := ite_f c1 hf
    refine lv_aload_n hx hb dX11_costUpTo_4 rfl (lv_at hl 0 rfl) ?_
    refine lv_iconst (v := 1) hx hb dX11_costUpTo_5 (by decide) ?_
    refine va_put (D := D) (ci := 11) (v := .int 1) (ty := .int) (C := RX11) (T := TX11) (N := 19) hx hb hts inX11 tyX11 tyX11_ok nmX11 hown hK hP hD hS 0 rfl rfl 12 (by decide) fl136 (fun _ h9 => h9) rfl (by decide +kernel) rfl rfl (Nat.le_of_ble_eq_true rfl) dX11_costUpTo_6 (fun H locs hP hD hS => ?_)
    have hP : va_P D vwCl [(a_Model, .inr (11, [.ref a_Model_now, .ref a_Model_past, .int Model_kept, .int Model_findings, .ref a_Model_bits, .ref a_Model_sizes, .ref a_Model_sheets, .ref a_Model_least, .ref a_Model_ways, .int Model_thenCost, .int Model_thenWays, .int Model_bothCost, .int 1, .ref a_Model_handOf, .ref a_Model_crossedAt, .ref a_Model_strokeOf, .ref a_Model_prices, .ref a_Model_hitAt, .ref a_Model_carried])), (a_Model_now, .inl (cI, 187, .inl Model_now)), (a_Model_least, .inl (cI, 8400, .inl Model_least)), (a_Model_ways, .inl (cI, 8400, .inl Model_ways))] H := hP
    have hD : va_D A [(a_Model, .inr (11, [.ref a_Model_now, .ref a_Model_past, .int Model_kept, .int Model_findings, .ref a_Model_bits, .ref a_Model_sizes, .ref a_Model_sheets, .ref a_Model_least, .ref a_Model_ways, .int Model_thenCost, .int Model_thenWays, .int Model_bothCost, .int 1, .ref a_Model_handOf, .ref a_Model_crossedAt, .ref a_Model_strokeOf, .ref a_Model_prices, .ref a_Model_hitAt, .ref a_Model_carried])), (a_Model_now, .inl (cI, 187, .inl Model_now)), (a_Model_least, .inl (cI, 8400, .inl Model_least)), (a_Model_ways, .inl (cI, 8400, .inl Model_ways))] := hD
    refine lv_iconst (v := 0) hx hb dX11_costUpTo_9 (by decide) ?_
    cases hf
    exact k_iret () hQ9 hx hb hr hlocks rfl hP hD hS (Nat.le_of_ble_eq_true rfl) (Nat.le_of_ble_eq_true rfl) dX11_costUpTo_10
abbrev rm_Model_findThem : Room := { frames := 7, cells := 0, slots := 0, locals := 188 }
set_option maxHeartbeats 4000000 in
set_option maxRecDepth 100000 in
theorem c_Model_findThem (l : Launch) (D : va_G) (cI cZ : ClassId) (t : Nat → Nat) (a_Model a_Model_now a_Model_past a_Model_bits a_Model_sizes a_Model_sheets a_Model_least a_Model_ways a_Model_handOf a_Model_crossedAt a_Model_strokeOf a_Model_prices a_Model_hitAt a_Model_carried sz : Nat) (Model_now Model_least Model_ways : Nat → Int32) (Model_thenCost Model_thenWays Model_bothCost Model_bothWays : Int32) (Model_handOf Model_crossedAt Model_strokeOf : Nat → Int32) (Model_kept Model_findings zr : Int32) (z_Model_least z_Model_ways : Nat → Int32) (z_Model_thenCost z_Model_thenWays z_Model_bothCost z_Model_bothWays : Int32) (z_Model_handOf z_Model_crossedAt z_Model_strokeOf : Nat → Int32) (hf : f_Model_findThem Model_now Model_least Model_ways Model_thenCost Model_thenWays Model_bothCost Model_bothWays Model_handOf Model_crossedAt Model_strokeOf = some (zr, z_Model_least, z_Model_ways, z_Model_thenCost, z_Model_thenWays, z_Model_bothCost, z_Model_bothWays, z_Model_handOf, z_Model_crossedAt, z_Model_strokeOf)) : Met l yX11_findThem wsX11_findThem rm_Model_findThem (va_Pc [.ref a_Model] (pcW D cI cZ t [(a_Model, .inr (11, [.ref a_Model_now, .ref a_Model_past, .int Model_kept, .int Model_findings, .ref a_Model_bits, .ref a_Model_sizes, .ref a_Model_sheets, .ref a_Model_least, .ref a_Model_ways, .int Model_thenCost, .int Model_thenWays, .int Model_bothCost, .int Model_bothWays, .ref a_Model_handOf, .ref a_Model_crossedAt, .ref a_Model_strokeOf, .ref a_Model_prices, .ref a_Model_hitAt, .ref a_Model_carried])), (a_Model_now, .inl (cI, 187, .inl Model_now)), (a_Model_least, .inl (cI, 8400, .inl Model_least)), (a_Model_ways, .inl (cI, 8400, .inl Model_ways)), (a_Model_handOf, .inl (cI, 20, .inl Model_handOf)), (a_Model_crossedAt, .inl (cZ, 20, .inl Model_crossedAt)), (a_Model_strokeOf, .inl (cI, 40, .inl Model_strokeOf))] sz)) (va_Qi (fun r (u : Unit) => r = zr) (fun u t' => bW D (va_A [(a_Model, .inr (11, [.ref a_Model_now, .ref a_Model_past, .int Model_kept, .int Model_findings, .ref a_Model_bits, .ref a_Model_sizes, .ref a_Model_sheets, .ref a_Model_least, .ref a_Model_ways, .int Model_thenCost, .int Model_thenWays, .int Model_bothCost, .int Model_bothWays, .ref a_Model_handOf, .ref a_Model_crossedAt, .ref a_Model_strokeOf, .ref a_Model_prices, .ref a_Model_hitAt, .ref a_Model_carried])), (a_Model_now, .inl (cI, 187, .inl Model_now)), (a_Model_least, .inl (cI, 8400, .inl Model_least)), (a_Model_ways, .inl (cI, 8400, .inl Model_ways)), (a_Model_handOf, .inl (cI, 20, .inl Model_handOf)), (a_Model_crossedAt, .inl (cZ, 20, .inl Model_crossedAt)), (a_Model_strokeOf, .inl (cI, 40, .inl Model_strokeOf))] sz) [(a_Model, .inr (11, [.ref a_Model_now, .ref a_Model_past, .int Model_kept, .int Model_findings, .ref a_Model_bits, .ref a_Model_sizes, .ref a_Model_sheets, .ref a_Model_least, .ref a_Model_ways, .int z_Model_thenCost, .int z_Model_thenWays, .int z_Model_bothCost, .int z_Model_bothWays, .ref a_Model_handOf, .ref a_Model_crossedAt, .ref a_Model_strokeOf, .ref a_Model_prices, .ref a_Model_hitAt, .ref a_Model_carried])), (a_Model_now, .inl (cI, 187, .inl Model_now)), (a_Model_least, .inl (cI, 8400, .inl z_Model_least)), (a_Model_ways, .inl (cI, 8400, .inl z_Model_ways)), (a_Model_handOf, .inl (cI, 20, .inl z_Model_handOf)), (a_Model_crossedAt, .inl (cZ, 20, .inl z_Model_crossedAt)), (a_Model_strokeOf, .inl (cI, 40, .inl z_Model_strokeOf))] t') (va_A [(a_Model, .inr (11, [.ref a_Model_now, .ref a_Model_past, .int Model_kept, .int Model_findings, .ref a_Model_bits, .ref a_Model_sizes, .ref a_Model_sheets, .ref a_Model_least, .ref a_Model_ways, .int Model_thenCost, .int Model_thenWays, .int Model_bothCost, .int Model_bothWays, .ref a_Model_handOf, .ref a_Model_crossedAt, .ref a_Model_strokeOf, .ref a_Model_prices, .ref a_Model_hitAt, .ref a_Model_carried])), (a_Model_now, .inl (cI, 187, .inl Model_now)), (a_Model_least, .inl (cI, 8400, .inl Model_least)), (a_Model_ways, .inl (cI, 8400, .inl Model_ways)), (a_Model_handOf, .inl (cI, 20, .inl Model_handOf)), (a_Model_crossedAt, .inl (cZ, 20, .inl Model_crossedAt)), (a_Model_strokeOf, .inl (cI, 40, .inl Model_strokeOf))] sz)) 0 0 (va_A [(a_Model, .inr (11, [.ref a_Model_now, .ref a_Model_past, .int Model_kept, .int Model_findings, .ref a_Model_bits, .ref a_Model_sizes, .ref a_Model_sheets, .ref a_Model_least, .ref a_Model_ways, .int Model_thenCost, .int Model_thenWays, .int Model_bothCost, .int Model_bothWays, .ref a_Model_handOf, .ref a_Model_crossedAt, .ref a_Model_strokeOf, .ref a_Model_prices, .ref a_Model_hitAt, .ref a_Model_carried])), (a_Model_now, .inl (cI, 187, .inl Model_now)), (a_Model_least, .inl (cI, 8400, .inl Model_least)), (a_Model_ways, .inl (cI, 8400, .inl Model_ways)), (a_Model_handOf, .inl (cI, 20, .inl Model_handOf)), (a_Model_crossedAt, .inl (cZ, 20, .inl Model_crossedAt)), (a_Model_strokeOf, .inl (cI, 40, .inl Model_strokeOf))] sz) := by
  refine Met.ofW (cc := cX11_findThem) (maxL := 9) (ret := (some .boolean)) (by decide) rfl ?_
  intro p e s m args below meth c s₁ B hml hv
  obtain ⟨rfl, hsz, hP, hD0, hE⟩ := hv
  have hx := B.exec
  have hb := B.bytes
  have hr := B.returns
  have hts := atoms_spec (ws := wsX11_findThem) B.pre
  have hown : s.vm.findClass RX11 = some m.cls := findClass_of_methodNamed B.named
  have hlocks := B.notSynchronized
  subst hsz
  have hD := hD0.self (sz := s.heap.size)
  generalize hAe : va_A [(a_Model, .inr (11, [.ref a_Model_now, .ref a_Model_past, .int Model_kept, .int Model_findings, .ref a_Model_bits, .ref a_Model_sizes, .ref a_Model_sheets, .ref a_Model_least, .ref a_Model_ways, .int Model_thenCost, .int Model_thenWays, .int Model_bothCost, .int Model_bothWays, .ref a_Model_handOf, .ref a_Model_crossedAt, .ref a_Model_strokeOf, .ref a_Model_prices, .ref a_Model_hitAt, .ref a_Model_carried])), (a_Model_now, .inl (cI, 187, .inl Model_now)), (a_Model_least, .inl (cI, 8400, .inl Model_least)), (a_Model_ways, .inl (cI, 8400, .inl Model_ways)), (a_Model_handOf, .inl (cI, 20, .inl Model_handOf)), (a_Model_crossedAt, .inl (cZ, 20, .inl Model_crossedAt)), (a_Model_strokeOf, .inl (cI, 40, .inl Model_strokeOf))] s.heap.size = A at hD hE ⊢
  have hA : ∀ q : Nat, s.heap.size ≤ q → A q := fun q h => by rw [← hAe]; exact Or.inr h
  clear hAe hD0
  have hS : va_S A s.heap s.heap [] := va_S.rf
  have hK := hE.1
  have hl := lv_entry ([.ref a_Model]) (n := 9) (Nat.le_of_ble_eq_true rfl)
  rw [lg_entry_eq]
  generalize (lg_sl ([.ref a_Model]) ++ List.replicate (9 - (lg_sl ([.ref a_Model])).length) Slot.unset).toArray = ls at hl ⊢
  have hl : lv_has ls 9 [(0, .ref a_Model)] := hl
  refine w_q (fun Q9 hQ9 => ?_)
  have fl38 := hts (.fieldLink RX11 38 "StickRoomModel" "strokeOf" "[I") (by decide +kernel)
  have inX11 : ∀ w ∈ wsX110, w ∈ wsX11_findThem := by decide +kernel
  have fl31 := hts (.fieldLink RX11 31 "StickRoomModel" "handOf" "[I") (by decide +kernel)
  have fl34 := hts (.fieldLink RX11 34 "StickRoomModel" "crossedAt" "[Z") (by decide +kernel)
  have fl133 := hts (.fieldLink RX11 133 "StickRoomModel" "bothCost" "I") (by decide +kernel)
  have fl101 := hts (.fieldLink RX11 101 "StickRoomModel" "thenCost" "I") (by decide +kernel)
  have fl9 := hts (.fieldLink RX11 9 "StickRoomModel" "now" "[I") (by decide +kernel)
  have kc100 := hts (.constant RX11 100 1000000) (by decide +kernel)
  have hL31 : ∀ (n31 : Nat) (l1 l2 l3 l4 l5 : Int32) (Model_least Model_ways : Nat → Int32) (Model_thenCost Model_thenWays Model_bothCost Model_bothWays : Int32) (Model_handOf Model_crossedAt Model_strokeOf : Nat → Int32) (H : Heap) (locs : List Loc) (ls : Array Slot), va_P D vwCl [(a_Model, .inr (11, [.ref a_Model_now, .ref a_Model_past, .int Model_kept, .int Model_findings, .ref a_Model_bits, .ref a_Model_sizes, .ref a_Model_sheets, .ref a_Model_least, .ref a_Model_ways, .int Model_thenCost, .int Model_thenWays, .int Model_bothCost, .int Model_bothWays, .ref a_Model_handOf, .ref a_Model_crossedAt, .ref a_Model_strokeOf, .ref a_Model_prices, .ref a_Model_hitAt, .ref a_Model_carried])), (a_Model_now, .inl (cI, 187, .inl Model_now)), (a_Model_least, .inl (cI, 8400, .inl Model_least)), (a_Model_ways, .inl (cI, 8400, .inl Model_ways)), (a_Model_handOf, .inl (cI, 20, .inl Model_handOf)), (a_Model_crossedAt, .inl (cZ, 20, .inl Model_crossedAt)), (a_Model_strokeOf, .inl (cI, 40, .inl Model_strokeOf))] H → va_D A [(a_Model, .inr (11, [.ref a_Model_now, .ref a_Model_past, .int Model_kept, .int Model_findings, .ref a_Model_bits, .ref a_Model_sizes, .ref a_Model_sheets, .ref a_Model_least, .ref a_Model_ways, .int Model_thenCost, .int Model_thenWays, .int Model_bothCost, .int Model_bothWays, .ref a_Model_handOf, .ref a_Model_crossedAt, .ref a_Model_strokeOf, .ref a_Model_prices, .ref a_Model_hitAt, .ref a_Model_carried])), (a_Model_now, .inl (cI, 187, .inl Model_now)), (a_Model_least, .inl (cI, 8400, .inl Model_least)), (a_Model_ways, .inl (cI, 8400, .inl Model_ways)), (a_Model_handOf, .inl (cI, 20, .inl Model_handOf)), (a_Model_crossedAt, .inl (cZ, 20, .inl Model_crossedAt)), (a_Model_strokeOf, .inl (cI, 40, .inl Model_strokeOf))] → va_S A s.heap H locs → lv_has ls 9 [(0, .ref a_Model), (1, .int l1), (2, .int l2), (3, .int l3), (4, .int l4), (5, .int l5)] → f_Model_findThem_31 Model_now  n31 l1 l2 l3 l4 l5 Model_least Model_ways Model_thenCost Model_thenWays Model_bothCost Model_bothWays Model_handOf Model_crossedAt Model_strokeOf = some (zr, z_Model_least, z_Model_ways, z_Model_thenCost, z_Model_thenWays, z_Model_bothCost, z_Model_bothWays, z_Model_handOf, z_Model_crossedAt, z_Model_strokeOf) → W p l e (headSpec wsX11_findThem rm_Model_findThem).room s m ([.ref a_Model] : List Value).toArray below meth c H locs 0 0 Q9 (F0 m 31 ls []) := by
    intro n31
    induction n31 with
    | zero => intro l1 l2 l3 l4 l5 Model_least Model_ways Model_thenCost Model_thenWays Model_bothCost Model_bothWays Model_handOf Model_crossedAt Model_strokeOf H locs ls hP hD hS hl hf; exact nomatch (show none = some (zr, z_Model_least, z_Model_ways, z_Model_thenCost, z_Model_thenWays, z_Model_bothCost, z_Model_bothWays, z_Model_handOf, z_Model_crossedAt, z_Model_strokeOf) from hf)
    | succ n31 ih31 =>
      have hJ167 : ∀ (l1 l2 l3 l5 l7 k0 k1 : Int32) (Model_least Model_ways : Nat → Int32) (Model_thenCost Model_thenWays Model_bothCost Model_bothWays : Int32) (Model_handOf Model_crossedAt Model_strokeOf : Nat → Int32) (H : Heap) (locs : List Loc) (ls : Array Slot), va_P D vwCl [(a_Model, .inr (11, [.ref a_Model_now, .ref a_Model_past, .int Model_kept, .int Model_findings, .ref a_Model_bits, .ref a_Model_sizes, .ref a_Model_sheets, .ref a_Model_least, .ref a_Model_ways, .int Model_thenCost, .int Model_thenWays, .int Model_bothCost, .int Model_bothWays, .ref a_Model_handOf, .ref a_Model_crossedAt, .ref a_Model_strokeOf, .ref a_Model_prices, .ref a_Model_hitAt, .ref a_Model_carried])), (a_Model_now, .inl (cI, 187, .inl Model_now)), (a_Model_least, .inl (cI, 8400, .inl Model_least)), (a_Model_ways, .inl (cI, 8400, .inl Model_ways)), (a_Model_handOf, .inl (cI, 20, .inl Model_handOf)), (a_Model_crossedAt, .inl (cZ, 20, .inl Model_crossedAt)), (a_Model_strokeOf, .inl (cI, 40, .inl Model_strokeOf))] H → va_D A [(a_Model, .inr (11, [.ref a_Model_now, .ref a_Model_past, .int Model_kept, .int Model_findings, .ref a_Model_bits, .ref a_Model_sizes, .ref a_Model_sheets, .ref a_Model_least, .ref a_Model_ways, .int Model_thenCost, .int Model_thenWays, .int Model_bothCost, .int Model_bothWays, .ref a_Model_handOf, .ref a_Model_crossedAt, .ref a_Model_strokeOf, .ref a_Model_prices, .ref a_Model_hitAt, .ref a_Model_carried])), (a_Model_now, .inl (cI, 187, .inl Model_now)), (a_Model_least, .inl (cI, 8400, .inl Model_least)), (a_Model_ways, .inl (cI, 8400, .inl Model_ways)), (a_Model_handOf, .inl (cI, 20, .inl Model_handOf)), (a_Model_crossedAt, .inl (cZ, 20, .inl Model_crossedAt)), (a_Model_strokeOf, .inl (cI, 40, .inl Model_strokeOf))] → va_S A s.heap H locs → lv_has ls 9 [(0, .ref a_Model), (1, .int l1), (2, .int l2), (3, .int l3), (5, .int l5), (7, .int l7)] → f_Model_findThem_167 Model_now (f_Model_findThem_31 Model_now  n31) l1 l2 l3 l5 l7 k0 k1 Model_least Model_ways Model_thenCost Model_thenWays Model_bothCost Model_bothWays Model_handOf Model_crossedAt Model_strokeOf = some (zr, z_Model_least, z_Model_ways, z_Model_thenCost, z_Model_thenWays, z_Model_bothCost, z_Model_bothWays, z_Model_handOf, z_Model_crossedAt, z_Model_strokeOf) → W p l e (headSpec wsX11_findThem rm_Model_findThem).room s m ([.ref a_Model] : List Value).toArray below meth c H locs 0 0 Q9 (F0 m 167 ls [.int k1, .int k0]) := by
        intro l1 l2 l3 l5 l7 k0 k1 Model_least Model_ways Model_thenCost Model_thenWays Model_bothCost Model_bothWays Model_handOf Model_crossedAt Model_strokeOf H locs ls hP hD hS hl hf
        unfold f_Model_findThem_167 at hf
        refine lv_iadd hx hb dX11_findThem_167 ?_
        obtain ⟨x1, ex1, hf⟩ := nm_s hf
        refine lv_tpx ex1 ?_
        refine lv_istore (lv' := [(4, .int x1), (0, .ref a_Model), (1, .int l1), (2, .int l2), (3, .int l3), (5, .int l5), (7, .int l7)]) hx hb dX11_findThem_168 hl (by decide) rfl (fun ls hl => ?_)
        refine lv_aload_n hx hb dX11_findThem_170 rfl (lv_at hl 1 rfl) ?_
        refine va_get (D := D) (ci := 11) (v := .ref a_Model_strokeOf) (C := RX11) (T := TX11) (N := 19) hx hb hts inX11 hown hK hP 0 rfl rfl 15 (by decide) fl38 (fun _ h9 => h9) rfl dX11_findThem_171 ?_
        refine lv_iconst (v := 2) hx hb dX11_findThem_174 (by decide) ?_
        refine lv_iload hx hb dX11_findThem_175 (lv_at hl 5 rfl) ?_
        refine lv_imul hx hb dX11_findThem_177 ?_
        refine lv_iload hx hb dX11_findThem_178 (lv_at hl 6 rfl) ?_
        refine lv_iadd hx hb dX11_findThem_180 ?_
        refine lv_iconst (v := 1) hx hb dX11_findThem_181 (by decide) ?_
        refine lv_iconst (v := 2) hx hb dX11_findThem_182 (by decide) ?_
        refine lv_iload hx hb dX11_findThem_183 (lv_at hl 5 rfl) ?_
        refine lv_imul hx hb dX11_findThem_185 ?_
        refine lv_iadd hx hb dX11_findThem_186 ?_
        obtain ⟨x2, ex2, hf⟩ := nm_s hf
        refine lv_tpx ex2 ?_
        obtain ⟨i3, hf⟩ := ck_s hf
        refine va_iast hx hb hK hP hD hS 6 0 rfl rfl i3 dX11_findThem_187 (fun H locs hP hD hS => ?_)
        have hP : va_P D vwCl [(a_Model, .inr (11, [.ref a_Model_now, .ref a_Model_past, .int Model_kept, .int Model_findings, .ref a_Model_bits, .ref a_Model_sizes, .ref a_Model_sheets, .ref a_Model_least, .ref a_Model_ways, .int Model_thenCost, .int Model_thenWays, .int Model_bothCost, .int Model_bothWays, .ref a_Model_handOf, .ref a_Model_crossedAt, .ref a_Model_strokeOf, .ref a_Model_prices, .ref a_Model_hitAt, .ref a_Model_carried])), (a_Model_now, .inl (cI, 187, .inl Model_now)), (a_Model_least, .inl (cI, 8400, .inl Model_least)), (a_Model_ways, .inl (cI, 8400, .inl Model_ways)), (a_Model_handOf, .inl (cI, 20, .inl Model_handOf)), (a_Model_crossedAt, .inl (cZ, 20, .inl Model_crossedAt)), (a_Model_strokeOf, .inl (cI, 40, .inl (upd Model_strokeOf ((2 * l5) + l7).toNatClampNeg x2)))] H := hP
        have hD : va_D A [(a_Model, .inr (11, [.ref a_Model_now, .ref a_Model_past, .int Model_kept, .int Model_findings, .ref a_Model_bits, .ref a_Model_sizes, .ref a_Model_sheets, .ref a_Model_least, .ref a_Model_ways, .int Model_thenCost, .int Model_thenWays, .int Model_bothCost, .int Model_bothWays, .ref a_Model_handOf, .ref a_Model_crossedAt, .ref a_Model_strokeOf, .ref a_Model_prices, .ref a_Model_hitAt, .ref a_Model_carried])), (a_Model_now, .inl (cI, 187, .inl Model_now)), (a_Model_least, .inl (cI, 8400, .inl Model_least)), (a_Model_ways, .inl (cI, 8400, .inl Model_ways)), (a_Model_handOf, .inl (cI, 20, .inl Model_handOf)), (a_Model_crossedAt, .inl (cZ, 20, .inl Model_crossedAt)), (a_Model_strokeOf, .inl (cI, 40, .inl (upd Model_strokeOf ((2 * l5) + l7).toNatClampNeg x2)))] := hD
        refine lv_aload_n hx hb dX11_findThem_188 rfl (lv_at hl 1 rfl) ?_
        refine va_get (D := D) (ci := 11) (v := .ref a_Model_strokeOf) (C := RX11) (T := TX11) (N := 19) hx hb hts inX11 hown hK hP 0 rfl rfl 15 (by decide) fl38 (fun _ h9 => h9) rfl dX11_findThem_189 ?_
        refine lv_iconst (v := 2) hx hb dX11_findThem_192 (by decide) ?_
        refine lv_iload hx hb dX11_findThem_193 (lv_at hl 5 rfl) ?_
        refine lv_imul hx hb dX11_findThem_195 ?_
        refine lv_iconst (v := 1) hx hb dX11_findThem_196 (by decide) ?_
        refine lv_iadd hx hb dX11_findThem_197 ?_
        refine lv_iload hx hb dX11_findThem_198 (lv_at hl 6 rfl) ?_
        refine lv_isub hx hb dX11_findThem_200 ?_
        refine lv_iload_n hx hb dX11_findThem_201 rfl (lv_at hl 4 rfl) ?_
        obtain ⟨i4, hf⟩ := ck_s hf
        refine va_iast hx hb hK hP hD hS 6 0 rfl rfl i4 dX11_findThem_202 (fun H locs hP hD hS => ?_)
        have hP : va_P D vwCl [(a_Model, .inr (11, [.ref a_Model_now, .ref a_Model_past, .int Model_kept, .int Model_findings, .ref a_Model_bits, .ref a_Model_sizes, .ref a_Model_sheets, .ref a_Model_least, .ref a_Model_ways, .int Model_thenCost, .int Model_thenWays, .int Model_bothCost, .int Model_bothWays, .ref a_Model_handOf, .ref a_Model_crossedAt, .ref a_Model_strokeOf, .ref a_Model_prices, .ref a_Model_hitAt, .ref a_Model_carried])), (a_Model_now, .inl (cI, 187, .inl Model_now)), (a_Model_least, .inl (cI, 8400, .inl Model_least)), (a_Model_ways, .inl (cI, 8400, .inl Model_ways)), (a_Model_handOf, .inl (cI, 20, .inl Model_handOf)), (a_Model_crossedAt, .inl (cZ, 20, .inl Model_crossedAt)), (a_Model_strokeOf, .inl (cI, 40, .inl (upd (upd Model_strokeOf ((2 * l5) + l7).toNatClampNeg x2) (((2 * l5) + 1) - l7).toNatClampNeg l3)))] H := hP
        have hD : va_D A [(a_Model, .inr (11, [.ref a_Model_now, .ref a_Model_past, .int Model_kept, .int Model_findings, .ref a_Model_bits, .ref a_Model_sizes, .ref a_Model_sheets, .ref a_Model_least, .ref a_Model_ways, .int Model_thenCost, .int Model_thenWays, .int Model_bothCost, .int Model_bothWays, .ref a_Model_handOf, .ref a_Model_crossedAt, .ref a_Model_strokeOf, .ref a_Model_prices, .ref a_Model_hitAt, .ref a_Model_carried])), (a_Model_now, .inl (cI, 187, .inl Model_now)), (a_Model_least, .inl (cI, 8400, .inl Model_least)), (a_Model_ways, .inl (cI, 8400, .inl Model_ways)), (a_Model_handOf, .inl (cI, 20, .inl Model_handOf)), (a_Model_crossedAt, .inl (cZ, 20, .inl Model_crossedAt)), (a_Model_strokeOf, .inl (cI, 40, .inl (upd (upd Model_strokeOf ((2 * l5) + l7).toNatClampNeg x2) (((2 * l5) + 1) - l7).toNatClampNeg l3)))] := hD
        obtain ⟨x5, ex5, hf⟩ := nm_s hf
        refine lv_iinc (v := x5) (lv' := [(5, .int x5), (4, .int x1), (0, .ref a_Model), (1, .int l1), (2, .int l2), (3, .int l3), (7, .int l7)]) hx hb dX11_findThem_203 hl (k := 5) rfl (by rw [ex5]; rfl) (by decide) rfl (fun ls hl => ?_)
        refine lv_goto (tgt := 31) hx hb dX11_findThem_206 (by decide) ?_
        exact ih31 l1 l2 l3 x1 x5 Model_least Model_ways Model_thenCost Model_thenWays Model_bothCost Model_bothWays Model_handOf Model_crossedAt (upd (upd Model_strokeOf ((2 * l5) + l7).toNatClampNeg x2) (((2 * l5) + 1) - l7).toNatClampNeg l3) H locs ls hP hD hS (lv_sub hl [2, 3, 4, 5, 1, 0] rfl) hf
      have hJ118 : ∀ (l1 l4 l5 l7 k1 k2 : Int32) (Model_least Model_ways : Nat → Int32) (Model_thenCost Model_thenWays Model_bothCost Model_bothWays : Int32) (Model_handOf Model_crossedAt Model_strokeOf : Nat → Int32) (H : Heap) (locs : List Loc) (ls : Array Slot), va_P D vwCl [(a_Model, .inr (11, [.ref a_Model_now, .ref a_Model_past, .int Model_kept, .int Model_findings, .ref a_Model_bits, .ref a_Model_sizes, .ref a_Model_sheets, .ref a_Model_least, .ref a_Model_ways, .int Model_thenCost, .int Model_thenWays, .int Model_bothCost, .int Model_bothWays, .ref a_Model_handOf, .ref a_Model_crossedAt, .ref a_Model_strokeOf, .ref a_Model_prices, .ref a_Model_hitAt, .ref a_Model_carried])), (a_Model_now, .inl (cI, 187, .inl Model_now)), (a_Model_least, .inl (cI, 8400, .inl Model_least)), (a_Model_ways, .inl (cI, 8400, .inl Model_ways)), (a_Model_handOf, .inl (cI, 20, .inl Model_handOf)), (a_Model_crossedAt, .inl (cZ, 20, .inl Model_crossedAt)), (a_Model_strokeOf, .inl (cI, 40, .inl Model_strokeOf))] H → va_D A [(a_Model, .inr (11, [.ref a_Model_now, .ref a_Model_past, .int Model_kept, .int Model_findings, .ref a_Model_bits, .ref a_Model_sizes, .ref a_Model_sheets, .ref a_Model_least, .ref a_Model_ways, .int Model_thenCost, .int Model_thenWays, .int Model_bothCost, .int Model_bothWays, .ref a_Model_handOf, .ref a_Model_crossedAt, .ref a_Model_strokeOf, .ref a_Model_prices, .ref a_Model_hitAt, .ref a_Model_carried])), (a_Model_now, .inl (cI, 187, .inl Model_now)), (a_Model_least, .inl (cI, 8400, .inl Model_least)), (a_Model_ways, .inl (cI, 8400, .inl Model_ways)), (a_Model_handOf, .inl (cI, 20, .inl Model_handOf)), (a_Model_crossedAt, .inl (cZ, 20, .inl Model_crossedAt)), (a_Model_strokeOf, .inl (cI, 40, .inl Model_strokeOf))] → va_S A s.heap H locs → lv_has ls 9 [(0, .ref a_Model), (1, .int l1), (4, .int l4), (5, .int l5), (7, .int l7)] → f_Model_findThem_118 Model_now (f_Model_findThem_31 Model_now  n31) l1 l4 l5 l7 k1 k2 Model_least Model_ways Model_thenCost Model_thenWays Model_bothCost Model_bothWays Model_handOf Model_crossedAt Model_strokeOf = some (zr, z_Model_least, z_Model_ways, z_Model_thenCost, z_Model_thenWays, z_Model_bothCost, z_Model_bothWays, z_Model_handOf, z_Model_crossedAt, z_Model_strokeOf) → W p l e (headSpec wsX11_findThem rm_Model_findThem).room s m ([.ref a_Model] : List Value).toArray below meth c H locs 0 0 Q9 (F0 m 118 ls [.int k2, .int k1, .ref a_Model]) := by
        intro l1 l4 l5 l7 k1 k2 Model_least Model_ways Model_thenCost Model_thenWays Model_bothCost Model_bothWays Model_handOf Model_crossedAt Model_strokeOf H locs ls hP hD hS hl hf
        unfold f_Model_findThem_118 at hf
        obtain ⟨r6, g7, hf⟩ := b1_s hf
        refine k_Vi (rest := []) ⟨hx, hb, hml, hown, hts⟩ (c_Model_otherThen l D cI cZ t a_Model a_Model_now a_Model_past a_Model_bits a_Model_sizes a_Model_sheets a_Model_least a_Model_ways a_Model_handOf a_Model_crossedAt a_Model_strokeOf a_Model_prices a_Model_hitAt a_Model_carried H.size Model_now Model_kept Model_findings Model_thenCost Model_thenWays Model_bothCost Model_bothWays k1 k2 r6 g7) (cwV 2 hts gX11_findThem_X11_otherThen rfl rfl rfl (by decide +kernel) ⟨Nat.le_of_ble_eq_true rfl, Nat.le_of_ble_eq_true rfl⟩) hE hP hD hS hA [0, 1] [2, 3, 4, 5, 6] rfl rfl rfl rfl rfl 0 11 rfl rfl rfl rfl hl.1 rfl (Nat.le_of_ble_eq_true rfl) dX11_findThem_118 ⟨Nat.le_of_ble_eq_true rfl, Nat.le_of_ble_eq_true rfl⟩ (fun rq uq H locs hrq hP hD hS => ?_)
        refine lv_tpx hrq.symm ?_
        have hP : va_P D vwCl [(a_Model_least, .inl (cI, 8400, .inl Model_least)), (a_Model_ways, .inl (cI, 8400, .inl Model_ways)), (a_Model_handOf, .inl (cI, 20, .inl Model_handOf)), (a_Model_crossedAt, .inl (cZ, 20, .inl Model_crossedAt)), (a_Model_strokeOf, .inl (cI, 40, .inl Model_strokeOf)), (a_Model, .inr (11, [.ref a_Model_now, .ref a_Model_past, .int Model_kept, .int Model_findings, .ref a_Model_bits, .ref a_Model_sizes, .ref a_Model_sheets, .ref a_Model_least, .ref a_Model_ways, .int Model_thenCost, .int Model_thenWays, .int Model_bothCost, .int Model_bothWays, .ref a_Model_handOf, .ref a_Model_crossedAt, .ref a_Model_strokeOf, .ref a_Model_prices, .ref a_Model_hitAt, .ref a_Model_carried])), (a_Model_now, .inl (cI, 187, .inl Model_now))] H := hP
        have hD : va_D A [(a_Model_least, .inl (cI, 8400, .inl Model_least)), (a_Model_ways, .inl (cI, 8400, .inl Model_ways)), (a_Model_handOf, .inl (cI, 20, .inl Model_handOf)), (a_Model_crossedAt, .inl (cZ, 20, .inl Model_crossedAt)), (a_Model_strokeOf, .inl (cI, 40, .inl Model_strokeOf)), (a_Model, .inr (11, [.ref a_Model_now, .ref a_Model_past, .int Model_kept, .int Model_findings, .ref a_Model_bits, .ref a_Model_sizes, .ref a_Model_sheets, .ref a_Model_least, .ref a_Model_ways, .int Model_thenCost, .int Model_thenWays, .int Model_bothCost, .int Model_bothWays, .ref a_Model_handOf, .ref a_Model_crossedAt, .ref a_Model_strokeOf, .ref a_Model_prices, .ref a_Model_hitAt, .ref a_Model_carried])), (a_Model_now, .inl (cI, 187, .inl Model_now))] := hD
        refine lv_istore_n (lv' := [(3, .int r6), (0, .ref a_Model), (1, .int l1), (4, .int l4), (5, .int l5), (7, .int l7)]) hx hb dX11_findThem_121 rfl hl (by decide) rfl (fun ls hl => ?_)
        refine lv_iload hx hb dX11_findThem_122 (lv_at hl 5 rfl) ?_
        refine lv_istore_n (lv' := [(2, .int l7), (3, .int r6), (0, .ref a_Model), (1, .int l1), (4, .int l4), (5, .int l5), (7, .int l7)]) hx hb dX11_findThem_124 rfl hl (by decide) rfl (fun ls hl => ?_)
        refine lv_aload_n hx hb dX11_findThem_125 rfl (lv_at hl 2 rfl) ?_
        refine va_get (D := D) (ci := 11) (v := .ref a_Model_handOf) (C := RX11) (T := TX11) (N := 19) hx hb hts inX11 hown hK hP 5 rfl rfl 13 (by decide) fl31 (fun _ h9 => h9) rfl dX11_findThem_126 ?_
        refine lv_iload hx hb dX11_findThem_129 (lv_at hl 5 rfl) ?_
        refine lv_iload hx hb dX11_findThem_131 (lv_at hl 6 rfl) ?_
        obtain ⟨i8, hf⟩ := ck_s hf
        refine va_iast hx hb hK hP hD hS 2 0 rfl rfl i8 dX11_findThem_133 (fun H locs hP hD hS => ?_)
        have hP : va_P D vwCl [(a_Model_least, .inl (cI, 8400, .inl Model_least)), (a_Model_ways, .inl (cI, 8400, .inl Model_ways)), (a_Model_handOf, .inl (cI, 20, .inl (upd Model_handOf l5.toNatClampNeg l7))), (a_Model_crossedAt, .inl (cZ, 20, .inl Model_crossedAt)), (a_Model_strokeOf, .inl (cI, 40, .inl Model_strokeOf)), (a_Model, .inr (11, [.ref a_Model_now, .ref a_Model_past, .int Model_kept, .int Model_findings, .ref a_Model_bits, .ref a_Model_sizes, .ref a_Model_sheets, .ref a_Model_least, .ref a_Model_ways, .int Model_thenCost, .int Model_thenWays, .int Model_bothCost, .int Model_bothWays, .ref a_Model_handOf, .ref a_Model_crossedAt, .ref a_Model_strokeOf, .ref a_Model_prices, .ref a_Model_hitAt, .ref a_Model_carried])), (a_Model_now, .inl (cI, 187, .inl Model_now))] H := hP
        have hD : va_D A [(a_Model_least, .inl (cI, 8400, .inl Model_least)), (a_Model_ways, .inl (cI, 8400, .inl Model_ways)), (a_Model_handOf, .inl (cI, 20, .inl (upd Model_handOf l5.toNatClampNeg l7))), (a_Model_crossedAt, .inl (cZ, 20, .inl Model_crossedAt)), (a_Model_strokeOf, .inl (cI, 40, .inl Model_strokeOf)), (a_Model, .inr (11, [.ref a_Model_now, .ref a_Model_past, .int Model_kept, .int Model_findings, .ref a_Model_bits, .ref a_Model_sizes, .ref a_Model_sheets, .ref a_Model_least, .ref a_Model_ways, .int Model_thenCost, .int Model_thenWays, .int Model_bothCost, .int Model_bothWays, .ref a_Model_handOf, .ref a_Model_crossedAt, .ref a_Model_strokeOf, .ref a_Model_prices, .ref a_Model_hitAt, .ref a_Model_carried])), (a_Model_now, .inl (cI, 187, .inl Model_now))] := hD
        refine lv_aload_n hx hb dX11_findThem_134 rfl (lv_at hl 2 rfl) ?_
        refine va_get (D := D) (ci := 11) (v := .ref a_Model_crossedAt) (C := RX11) (T := TX11) (N := 19) hx hb hts inX11 hown hK hP 5 rfl rfl 14 (by decide) fl34 (fun _ h9 => h9) rfl dX11_findThem_135 ?_
        refine lv_iload hx hb dX11_findThem_138 (lv_at hl 5 rfl) ?_
        refine lv_aload_n hx hb dX11_findThem_140 rfl (lv_at hl 2 rfl) ?_
        refine lv_iload hx hb dX11_findThem_141 (lv_at hl 5 rfl) ?_
        refine lv_iload hx hb dX11_findThem_143 (lv_at hl 6 rfl) ?_
        refine lv_iload_n hx hb dX11_findThem_145 rfl (lv_at hl 1 rfl) ?_
        obtain ⟨r9, g10, hf⟩ := b1_s hf
        refine k_Vi (rest := [.int l5, .ref a_Model_crossedAt]) ⟨hx, hb, hml, hown, hts⟩ (c_Model_isCrossed l D cI cZ t a_Model a_Model_now a_Model_past a_Model_bits a_Model_sizes a_Model_sheets a_Model_least a_Model_ways a_Model_handOf a_Model_crossedAt a_Model_strokeOf a_Model_prices a_Model_hitAt a_Model_carried H.size Model_now Model_kept Model_findings Model_thenCost Model_thenWays Model_bothCost Model_bothWays l5 l7 r6 r9 g10) (cwV 3 hts gX11_findThem_X11_isCrossed rfl rfl rfl (by decide +kernel) ⟨Nat.le_of_ble_eq_true rfl, Nat.le_of_ble_eq_true rfl⟩) hE hP hD hS hA [5, 6] [0, 1, 2, 3, 4] rfl rfl rfl rfl rfl 0 11 rfl rfl rfl rfl hl.1 rfl (Nat.le_of_ble_eq_true rfl) dX11_findThem_146 ⟨Nat.le_of_ble_eq_true rfl, Nat.le_of_ble_eq_true rfl⟩ (fun rq uq H locs hrq hP hD hS => ?_)
        refine lv_tpx hrq.symm ?_
        have hP : va_P D vwCl [(a_Model_least, .inl (cI, 8400, .inl Model_least)), (a_Model_ways, .inl (cI, 8400, .inl Model_ways)), (a_Model_handOf, .inl (cI, 20, .inl (upd Model_handOf l5.toNatClampNeg l7))), (a_Model_crossedAt, .inl (cZ, 20, .inl Model_crossedAt)), (a_Model_strokeOf, .inl (cI, 40, .inl Model_strokeOf)), (a_Model, .inr (11, [.ref a_Model_now, .ref a_Model_past, .int Model_kept, .int Model_findings, .ref a_Model_bits, .ref a_Model_sizes, .ref a_Model_sheets, .ref a_Model_least, .ref a_Model_ways, .int Model_thenCost, .int Model_thenWays, .int Model_bothCost, .int Model_bothWays, .ref a_Model_handOf, .ref a_Model_crossedAt, .ref a_Model_strokeOf, .ref a_Model_prices, .ref a_Model_hitAt, .ref a_Model_carried])), (a_Model_now, .inl (cI, 187, .inl Model_now))] H := hP
        have hD : va_D A [(a_Model_least, .inl (cI, 8400, .inl Model_least)), (a_Model_ways, .inl (cI, 8400, .inl Model_ways)), (a_Model_handOf, .inl (cI, 20, .inl (upd Model_handOf l5.toNatClampNeg l7))), (a_Model_crossedAt, .inl (cZ, 20, .inl Model_crossedAt)), (a_Model_strokeOf, .inl (cI, 40, .inl Model_strokeOf)), (a_Model, .inr (11, [.ref a_Model_now, .ref a_Model_past, .int Model_kept, .int Model_findings, .ref a_Model_bits, .ref a_Model_sizes, .ref a_Model_sheets, .ref a_Model_least, .ref a_Model_ways, .int Model_thenCost, .int Model_thenWays, .int Model_bothCost, .int Model_bothWays, .ref a_Model_handOf, .ref a_Model_crossedAt, .ref a_Model_strokeOf, .ref a_Model_prices, .ref a_Model_hitAt, .ref a_Model_carried])), (a_Model_now, .inl (cI, 187, .inl Model_now))] := hD
        obtain ⟨i11, hf⟩ := ck_s hf
        refine va_zast hx hb hK hP hD hS 3 1 rfl rfl i11 dX11_findThem_149 (fun H locs hP hD hS => ?_)
        have hP : va_P D vwCl [(a_Model_least, .inl (cI, 8400, .inl Model_least)), (a_Model_ways, .inl (cI, 8400, .inl Model_ways)), (a_Model_handOf, .inl (cI, 20, .inl (upd Model_handOf l5.toNatClampNeg l7))), (a_Model_crossedAt, .inl (cZ, 20, .inl (upd Model_crossedAt l5.toNatClampNeg (vp_nar .boolean r9)))), (a_Model_strokeOf, .inl (cI, 40, .inl Model_strokeOf)), (a_Model, .inr (11, [.ref a_Model_now, .ref a_Model_past, .int Model_kept, .int Model_findings, .ref a_Model_bits, .ref a_Model_sizes, .ref a_Model_sheets, .ref a_Model_least, .ref a_Model_ways, .int Model_thenCost, .int Model_thenWays, .int Model_bothCost, .int Model_bothWays, .ref a_Model_handOf, .ref a_Model_crossedAt, .ref a_Model_strokeOf, .ref a_Model_prices, .ref a_Model_hitAt, .ref a_Model_carried])), (a_Model_now, .inl (cI, 187, .inl Model_now))] H := hP
        have hD : va_D A [(a_Model_least, .inl (cI, 8400, .inl Model_least)), (a_Model_ways, .inl (cI, 8400, .inl Model_ways)), (a_Model_handOf, .inl (cI, 20, .inl (upd Model_handOf l5.toNatClampNeg l7))), (a_Model_crossedAt, .inl (cZ, 20, .inl (upd Model_crossedAt l5.toNatClampNeg (vp_nar .boolean r9)))), (a_Model_strokeOf, .inl (cI, 40, .inl Model_strokeOf)), (a_Model, .inr (11, [.ref a_Model_now, .ref a_Model_past, .int Model_kept, .int Model_findings, .ref a_Model_bits, .ref a_Model_sizes, .ref a_Model_sheets, .ref a_Model_least, .ref a_Model_ways, .int Model_thenCost, .int Model_thenWays, .int Model_bothCost, .int Model_bothWays, .ref a_Model_handOf, .ref a_Model_crossedAt, .ref a_Model_strokeOf, .ref a_Model_prices, .ref a_Model_hitAt, .ref a_Model_carried])), (a_Model_now, .inl (cI, 187, .inl Model_now))] := hD
        refine lv_iload hx hb dX11_findThem_150 (lv_at hl 4 rfl) ?_
        refine lv_aload_n hx hb dX11_findThem_152 rfl (lv_at hl 2 rfl) ?_
        refine va_get (D := D) (ci := 11) (v := .ref a_Model_crossedAt) (C := RX11) (T := TX11) (N := 19) hx hb hts inX11 hown hK hP 5 rfl rfl 14 (by decide) fl34 (fun _ h9 => h9) rfl dX11_findThem_153 ?_
        refine lv_iload hx hb dX11_findThem_156 (lv_at hl 5 rfl) ?_
        obtain ⟨ix12, x12, ex12, hf⟩ := rd_s hf
        refine va_zald hx hb hK hP 3 1 rfl rfl ix12 dX11_findThem_158 ?_
        refine lv_tpx ex12 ?_
        refine lv_if_eq (tgt := 166) hx hb dX11_findThem_159 (by decide) (fun c13 => ?_) (fun c13 => ?_)
        · have hf := ite_t c13 hf
          refine lv_iconst (v := 0) hx hb dX11_findThem_166 (by decide) ?_
          exact hJ167 l1 l7 r6 l5 l7 l4 0 Model_least Model_ways Model_thenCost Model_thenWays Model_bothCost Model_bothWays (upd Model_handOf l5.toNatClampNeg l7) (upd Model_crossedAt l5.toNatClampNeg (vp_nar .boolean r9)) Model_strokeOf H locs ls (hP.sub [5, 6, 0, 1, 2, 3, 4] rfl) (hD.sub [5, 6, 0, 1, 2, 3, 4] (by decide) rfl) hS (lv_sub hl [2, 3, 0, 1, 5, 6] rfl) hf
        · have hf := ite_f c13 hf
          refine lv_iconst (v := 1) hx hb dX11_findThem_162 (by decide) ?_
          refine lv_goto (tgt := 167) hx hb dX11_findThem_163 (by decide) ?_
          exact hJ167 l1 l7 r6 l5 l7 l4 1 Model_least Model_ways Model_thenCost Model_thenWays Model_bothCost Model_bothWays (upd Model_handOf l5.toNatClampNeg l7) (upd Model_crossedAt l5.toNatClampNeg (vp_nar .boolean r9)) Model_strokeOf H locs ls (hP.sub [5, 6, 0, 1, 2, 3, 4] rfl) (hD.sub [5, 6, 0, 1, 2, 3, 4] (by decide) rfl) hS (lv_sub hl [2, 3, 0, 1, 5, 6] rfl) hf
      have hJ101 : ∀ (l1 l2 l3 l4 l5 l7 k0 : Int32) (Model_least Model_ways : Nat → Int32) (Model_thenCost Model_thenWays Model_bothCost Model_bothWays : Int32) (Model_handOf Model_crossedAt Model_strokeOf : Nat → Int32) (H : Heap) (locs : List Loc) (ls : Array Slot), va_P D vwCl [(a_Model, .inr (11, [.ref a_Model_now, .ref a_Model_past, .int Model_kept, .int Model_findings, .ref a_Model_bits, .ref a_Model_sizes, .ref a_Model_sheets, .ref a_Model_least, .ref a_Model_ways, .int Model_thenCost, .int Model_thenWays, .int Model_bothCost, .int Model_bothWays, .ref a_Model_handOf, .ref a_Model_crossedAt, .ref a_Model_strokeOf, .ref a_Model_prices, .ref a_Model_hitAt, .ref a_Model_carried])), (a_Model_now, .inl (cI, 187, .inl Model_now)), (a_Model_least, .inl (cI, 8400, .inl Model_least)), (a_Model_ways, .inl (cI, 8400, .inl Model_ways)), (a_Model_handOf, .inl (cI, 20, .inl Model_handOf)), (a_Model_crossedAt, .inl (cZ, 20, .inl Model_crossedAt)), (a_Model_strokeOf, .inl (cI, 40, .inl Model_strokeOf))] H → va_D A [(a_Model, .inr (11, [.ref a_Model_now, .ref a_Model_past, .int Model_kept, .int Model_findings, .ref a_Model_bits, .ref a_Model_sizes, .ref a_Model_sheets, .ref a_Model_least, .ref a_Model_ways, .int Model_thenCost, .int Model_thenWays, .int Model_bothCost, .int Model_bothWays, .ref a_Model_handOf, .ref a_Model_crossedAt, .ref a_Model_strokeOf, .ref a_Model_prices, .ref a_Model_hitAt, .ref a_Model_carried])), (a_Model_now, .inl (cI, 187, .inl Model_now)), (a_Model_least, .inl (cI, 8400, .inl Model_least)), (a_Model_ways, .inl (cI, 8400, .inl Model_ways)), (a_Model_handOf, .inl (cI, 20, .inl Model_handOf)), (a_Model_crossedAt, .inl (cZ, 20, .inl Model_crossedAt)), (a_Model_strokeOf, .inl (cI, 40, .inl Model_strokeOf))] → va_S A s.heap H locs → lv_has ls 9 [(0, .ref a_Model), (1, .int l1), (2, .int l2), (3, .int l3), (4, .int l4), (5, .int l5), (7, .int l7)] → f_Model_findThem_101 Model_now (f_Model_findThem_31 Model_now  n31) l1 l2 l3 l4 l5 l7 k0 Model_least Model_ways Model_thenCost Model_thenWays Model_bothCost Model_bothWays Model_handOf Model_crossedAt Model_strokeOf = some (zr, z_Model_least, z_Model_ways, z_Model_thenCost, z_Model_thenWays, z_Model_bothCost, z_Model_bothWays, z_Model_handOf, z_Model_crossedAt, z_Model_strokeOf) → W p l e (headSpec wsX11_findThem rm_Model_findThem).room s m ([.ref a_Model] : List Value).toArray below meth c H locs 0 0 Q9 (F0 m 101 ls [.int k0]) := by
        intro l1 l2 l3 l4 l5 l7 k0 Model_least Model_ways Model_thenCost Model_thenWays Model_bothCost Model_bothWays Model_handOf Model_crossedAt Model_strokeOf H locs ls hP hD hS hl hf
        unfold f_Model_findThem_101 at hf
        refine lv_istore (lv' := [(8, .int k0), (0, .ref a_Model), (1, .int l1), (2, .int l2), (3, .int l3), (4, .int l4), (5, .int l5), (7, .int l7)]) hx hb dX11_findThem_101 hl (by decide) rfl (fun ls hl => ?_)
        refine lv_aload_n hx hb dX11_findThem_103 rfl (lv_at hl 1 rfl) ?_
        refine lv_iload hx hb dX11_findThem_104 (lv_at hl 6 rfl) ?_
        refine lv_iload hx hb dX11_findThem_106 (lv_at hl 7 rfl) ?_
        refine lv_iload_n hx hb dX11_findThem_108 rfl (lv_at hl 3 rfl) ?_
        refine lv_icmp_ne (tgt := 116) hx hb dX11_findThem_109 (by decide) (fun c14 => ?_) (fun c14 => ?_)
        · have hf := ite_f c14 hf
          refine lv_iload hx hb dX11_findThem_116 (lv_at hl 0 rfl) ?_
          exact hJ118 l1 l4 l5 l7 l5 k0 Model_least Model_ways Model_thenCost Model_thenWays Model_bothCost Model_bothWays Model_handOf Model_crossedAt Model_strokeOf H locs ls hP hD hS (lv_sub hl [1, 2, 5, 6, 7] rfl) hf
        · have hf := ite_t c14 hf
          refine lv_iload_n hx hb dX11_findThem_112 rfl (lv_at hl 4 rfl) ?_
          refine lv_goto (tgt := 118) hx hb dX11_findThem_113 (by decide) ?_
          exact hJ118 l1 l4 l5 l7 l5 l3 Model_least Model_ways Model_thenCost Model_thenWays Model_bothCost Model_bothWays Model_handOf Model_crossedAt Model_strokeOf H locs ls hP hD hS (lv_sub hl [1, 2, 5, 6, 7] rfl) hf
      have hJ84 : ∀ (l1 l2 l3 l4 l5 k0 : Int32) (Model_least Model_ways : Nat → Int32) (Model_thenCost Model_thenWays Model_bothCost Model_bothWays : Int32) (Model_handOf Model_crossedAt Model_strokeOf : Nat → Int32) (H : Heap) (locs : List Loc) (ls : Array Slot), va_P D vwCl [(a_Model, .inr (11, [.ref a_Model_now, .ref a_Model_past, .int Model_kept, .int Model_findings, .ref a_Model_bits, .ref a_Model_sizes, .ref a_Model_sheets, .ref a_Model_least, .ref a_Model_ways, .int Model_thenCost, .int Model_thenWays, .int Model_bothCost, .int Model_bothWays, .ref a_Model_handOf, .ref a_Model_crossedAt, .ref a_Model_strokeOf, .ref a_Model_prices, .ref a_Model_hitAt, .ref a_Model_carried])), (a_Model_now, .inl (cI, 187, .inl Model_now)), (a_Model_least, .inl (cI, 8400, .inl Model_least)), (a_Model_ways, .inl (cI, 8400, .inl Model_ways)), (a_Model_handOf, .inl (cI, 20, .inl Model_handOf)), (a_Model_crossedAt, .inl (cZ, 20, .inl Model_crossedAt)), (a_Model_strokeOf, .inl (cI, 40, .inl Model_strokeOf))] H → va_D A [(a_Model, .inr (11, [.ref a_Model_now, .ref a_Model_past, .int Model_kept, .int Model_findings, .ref a_Model_bits, .ref a_Model_sizes, .ref a_Model_sheets, .ref a_Model_least, .ref a_Model_ways, .int Model_thenCost, .int Model_thenWays, .int Model_bothCost, .int Model_bothWays, .ref a_Model_handOf, .ref a_Model_crossedAt, .ref a_Model_strokeOf, .ref a_Model_prices, .ref a_Model_hitAt, .ref a_Model_carried])), (a_Model_now, .inl (cI, 187, .inl Model_now)), (a_Model_least, .inl (cI, 8400, .inl Model_least)), (a_Model_ways, .inl (cI, 8400, .inl Model_ways)), (a_Model_handOf, .inl (cI, 20, .inl Model_handOf)), (a_Model_crossedAt, .inl (cZ, 20, .inl Model_crossedAt)), (a_Model_strokeOf, .inl (cI, 40, .inl Model_strokeOf))] → va_S A s.heap H locs → lv_has ls 9 [(0, .ref a_Model), (1, .int l1), (2, .int l2), (3, .int l3), (4, .int l4), (5, .int l5)] → f_Model_findThem_84 Model_now (f_Model_findThem_31 Model_now  n31) l1 l2 l3 l4 l5 k0 Model_least Model_ways Model_thenCost Model_thenWays Model_bothCost Model_bothWays Model_handOf Model_crossedAt Model_strokeOf = some (zr, z_Model_least, z_Model_ways, z_Model_thenCost, z_Model_thenWays, z_Model_bothCost, z_Model_bothWays, z_Model_handOf, z_Model_crossedAt, z_Model_strokeOf) → W p l e (headSpec wsX11_findThem rm_Model_findThem).room s m ([.ref a_Model] : List Value).toArray below meth c H locs 0 0 Q9 (F0 m 84 ls [.int k0]) := by
        intro l1 l2 l3 l4 l5 k0 Model_least Model_ways Model_thenCost Model_thenWays Model_bothCost Model_bothWays Model_handOf Model_crossedAt Model_strokeOf H locs ls hP hD hS hl hf
        unfold f_Model_findThem_84 at hf
        refine lv_istore (lv' := [(7, .int k0), (0, .ref a_Model), (1, .int l1), (2, .int l2), (3, .int l3), (4, .int l4), (5, .int l5)]) hx hb dX11_findThem_84 hl (by decide) rfl (fun ls hl => ?_)
        refine lv_iload hx hb dX11_findThem_86 (lv_at hl 6 rfl) ?_
        refine lv_if_ne (tgt := 95) hx hb dX11_findThem_88 (by decide) (fun c15 => ?_) (fun c15 => ?_)
        · have hf := ite_f c15 hf
          refine lv_iconst (v := 2) hx hb dX11_findThem_95 (by decide) ?_
          refine lv_iload hx hb dX11_findThem_96 (lv_at hl 6 rfl) ?_
          refine lv_imul hx hb dX11_findThem_98 ?_
          refine lv_iconst (v := 1) hx hb dX11_findThem_99 (by decide) ?_
          refine lv_isub hx hb dX11_findThem_100 ?_
          exact hJ101 l1 l2 l3 l4 l5 k0 ((2 * l5) - 1) Model_least Model_ways Model_thenCost Model_thenWays Model_bothCost Model_bothWays Model_handOf Model_crossedAt Model_strokeOf H locs ls hP hD hS (lv_sub hl [1, 2, 3, 4, 5, 6, 0] rfl) hf
        · have hf := ite_t c15 hf
          refine lv_iconst (v := 0) hx hb dX11_findThem_91 (by decide) ?_
          refine lv_goto (tgt := 101) hx hb dX11_findThem_92 (by decide) ?_
          exact hJ101 l1 l2 l3 l4 l5 k0 0 Model_least Model_ways Model_thenCost Model_thenWays Model_bothCost Model_bothWays Model_handOf Model_crossedAt Model_strokeOf H locs ls hP hD hS (lv_sub hl [1, 2, 3, 4, 5, 6, 0] rfl) hf
      intro l1 l2 l3 l4 l5 Model_least Model_ways Model_thenCost Model_thenWays Model_bothCost Model_bothWays Model_handOf Model_crossedAt Model_strokeOf H locs ls hP hD hS hl hf
      have hf : f_Model_findThem_31_b Model_now  (f_Model_findThem_31 Model_now  n31) l1 l2 l3 l4 l5 Model_least Model_ways Model_thenCost Model_thenWays Model_bothCost Model_bothWays Model_handOf Model_crossedAt Model_strokeOf = some (zr, z_Model_least, z_Model_ways, z_Model_thenCost, z_Model_thenWays, z_Model_bothCost, z_Model_bothWays, z_Model_handOf, z_Model_crossedAt, z_Model_strokeOf) := hf
      unfold f_Model_findThem_31_b at hf
      refine lv_iload hx hb dX11_findThem_31 (lv_at hl 5 rfl) ?_
      refine lv_iload_n hx hb dX11_findThem_33 rfl (lv_at hl 1 rfl) ?_
      refine lv_icmp_gt (tgt := 209) hx hb dX11_findThem_34 (by decide) (fun c16 => ?_) (fun c16 => ?_)
      · have hf := ite_t c16 hf
        refine lv_iconst (v := 1) hx hb dX11_findThem_209 (by decide) ?_
        cases hf
        exact k_zret () hQ9 hx hb hr hlocks (Or.inr rfl) rfl hP hD hS (Nat.le_of_ble_eq_true rfl) (Nat.le_of_ble_eq_true rfl) dX11_findThem_210
      · have hf := ite_f c16 hf
        refine lv_aload_n hx hb dX11_findThem_37 rfl (lv_at hl 0 rfl) ?_
        refine lv_iload hx hb dX11_findThem_38 (lv_at hl 5 rfl) ?_
        refine lv_iconst (v := 1) hx hb dX11_findThem_40 (by decide) ?_
        refine lv_isub hx hb dX11_findThem_41 ?_
        refine lv_iload_n hx hb dX11_findThem_42 rfl (lv_at hl 2 rfl) ?_
        refine lv_iload_n hx hb dX11_findThem_43 rfl (lv_at hl 3 rfl) ?_
        refine lv_iload hx hb dX11_findThem_44 (lv_at hl 4 rfl) ?_
        refine lv_iload_n hx hb dX11_findThem_46 rfl (lv_at hl 1 rfl) ?_
        obtain ⟨y17, y18, y19, y20, g21, hf⟩ := b4_s hf
        refine k_Vv (rest := []) ⟨hx, hb, hml, hown, hts⟩ (c_Model_both l D cI cZ t a_Model a_Model_now a_Model_past a_Model_bits a_Model_sizes a_Model_sheets a_Model_least a_Model_ways a_Model_handOf a_Model_crossedAt a_Model_strokeOf a_Model_prices a_Model_hitAt a_Model_carried H.size Model_now Model_least Model_ways Model_thenCost Model_thenWays Model_bothCost Model_bothWays Model_kept Model_findings (l5 - 1) l2 l3 l4 l1 y17 y18 y19 y20 g21) (cwV 5 hts gX11_findThem_X11_both rfl rfl rfl (by decide +kernel) ⟨Nat.le_of_ble_eq_true rfl, Nat.le_of_ble_eq_true rfl⟩) hE hP hD hS hA [0, 1, 2, 3] [4, 5, 6] rfl rfl rfl rfl rfl 0 11 rfl rfl rfl rfl hl.1 rfl (Nat.le_of_ble_eq_true rfl) dX11_findThem_47 ⟨Nat.le_of_ble_eq_true rfl, Nat.le_of_ble_eq_true rfl⟩ (fun uq H locs hrq hP hD hS => ?_)
        have hP : va_P D vwCl [(a_Model_handOf, .inl (cI, 20, .inl Model_handOf)), (a_Model_crossedAt, .inl (cZ, 20, .inl Model_crossedAt)), (a_Model_strokeOf, .inl (cI, 40, .inl Model_strokeOf)), (a_Model, .inr (11, [.ref a_Model_now, .ref a_Model_past, .int Model_kept, .int Model_findings, .ref a_Model_bits, .ref a_Model_sizes, .ref a_Model_sheets, .ref a_Model_least, .ref a_Model_ways, .int y17, .int y18, .int y19, .int y20, .ref a_Model_handOf, .ref a_Model_crossedAt, .ref a_Model_strokeOf, .ref a_Model_prices, .ref a_Model_hitAt, .ref a_Model_carried])), (a_Model_now, .inl (cI, 187, .inl Model_now)), (a_Model_least, .inl (cI, 8400, .inl Model_least)), (a_Model_ways, .inl (cI, 8400, .inl Model_ways))] H := hP
        have hD : va_D A [(a_Model_handOf, .inl (cI, 20, .inl Model_handOf)), (a_Model_crossedAt, .inl (cZ, 20, .inl Model_crossedAt)), (a_Model_strokeOf, .inl (cI, 40, .inl Model_strokeOf)), (a_Model, .inr (11, [.ref a_Model_now, .ref a_Model_past, .int Model_kept, .int Model_findings, .ref a_Model_bits, .ref a_Model_sizes, .ref a_Model_sheets, .ref a_Model_least, .ref a_Model_ways, .int y17, .int y18, .int y19, .int y20, .ref a_Model_handOf, .ref a_Model_crossedAt, .ref a_Model_strokeOf, .ref a_Model_prices, .ref a_Model_hitAt, .ref a_Model_carried])), (a_Model_now, .inl (cI, 187, .inl Model_now)), (a_Model_least, .inl (cI, 8400, .inl Model_least)), (a_Model_ways, .inl (cI, 8400, .inl Model_ways))] := hD
        refine lv_aload_n hx hb dX11_findThem_50 rfl (lv_at hl 0 rfl) ?_
        refine va_get (D := D) (ci := 11) (v := .int y19) (C := RX11) (T := TX11) (N := 19) hx hb hts inX11 hown hK hP 3 rfl rfl 11 (by decide) fl133 (fun _ h9 => h9) rfl dX11_findThem_51 ?_
        refine lv_istore (lv' := [(6, .int y19), (0, .ref a_Model), (1, .int l1), (2, .int l2), (3, .int l3), (4, .int l4), (5, .int l5)]) hx hb dX11_findThem_54 hl (by decide) rfl (fun ls hl => ?_)
        refine lv_aload_n hx hb dX11_findThem_56 rfl (lv_at hl 1 rfl) ?_
        refine lv_iload hx hb dX11_findThem_57 (lv_at hl 6 rfl) ?_
        refine lv_iconst (v := 1) hx hb dX11_findThem_59 (by decide) ?_
        refine lv_isub hx hb dX11_findThem_60 ?_
        refine lv_iload_n hx hb dX11_findThem_61 rfl (lv_at hl 3 rfl) ?_
        refine lv_iload_n hx hb dX11_findThem_62 rfl (lv_at hl 4 rfl) ?_
        refine lv_iload hx hb dX11_findThem_63 (lv_at hl 5 rfl) ?_
        refine lv_iconst (v := 0) hx hb dX11_findThem_65 (by decide) ?_
        refine lv_iload_n hx hb dX11_findThem_66 rfl (lv_at hl 2 rfl) ?_
        obtain ⟨y22, y23, g24, hf⟩ := b2_s hf
        refine k_Vv (rest := []) ⟨hx, hb, hml, hown, hts⟩ (c_Model_follows l D cI cZ t a_Model a_Model_now a_Model_past a_Model_bits a_Model_sizes a_Model_sheets a_Model_least a_Model_ways a_Model_handOf a_Model_crossedAt a_Model_strokeOf a_Model_prices a_Model_hitAt a_Model_carried H.size Model_now Model_least Model_ways y17 y18 Model_kept Model_findings y19 y20 (l5 - 1) l2 l3 l4 0 l1 y22 y23 g24) (cwV 6 hts gX11_findThem_X11_follows rfl rfl rfl (by decide +kernel) ⟨Nat.le_of_ble_eq_true rfl, Nat.le_of_ble_eq_true rfl⟩) hE hP hD hS hA [3, 4, 5, 6] [0, 1, 2] rfl rfl rfl rfl rfl 0 11 rfl rfl rfl rfl hl.1 rfl (Nat.le_of_ble_eq_true rfl) dX11_findThem_67 ⟨Nat.le_of_ble_eq_true rfl, Nat.le_of_ble_eq_true rfl⟩ (fun uq H locs hrq hP hD hS => ?_)
        have hP : va_P D vwCl [(a_Model_handOf, .inl (cI, 20, .inl Model_handOf)), (a_Model_crossedAt, .inl (cZ, 20, .inl Model_crossedAt)), (a_Model_strokeOf, .inl (cI, 40, .inl Model_strokeOf)), (a_Model, .inr (11, [.ref a_Model_now, .ref a_Model_past, .int Model_kept, .int Model_findings, .ref a_Model_bits, .ref a_Model_sizes, .ref a_Model_sheets, .ref a_Model_least, .ref a_Model_ways, .int y22, .int y23, .int y19, .int y20, .ref a_Model_handOf, .ref a_Model_crossedAt, .ref a_Model_strokeOf, .ref a_Model_prices, .ref a_Model_hitAt, .ref a_Model_carried])), (a_Model_now, .inl (cI, 187, .inl Model_now)), (a_Model_least, .inl (cI, 8400, .inl Model_least)), (a_Model_ways, .inl (cI, 8400, .inl Model_ways))] H := hP
        have hD : va_D A [(a_Model_handOf, .inl (cI, 20, .inl Model_handOf)), (a_Model_crossedAt, .inl (cZ, 20, .inl Model_crossedAt)), (a_Model_strokeOf, .inl (cI, 40, .inl Model_strokeOf)), (a_Model, .inr (11, [.ref a_Model_now, .ref a_Model_past, .int Model_kept, .int Model_findings, .ref a_Model_bits, .ref a_Model_sizes, .ref a_Model_sheets, .ref a_Model_least, .ref a_Model_ways, .int y22, .int y23, .int y19, .int y20, .ref a_Model_handOf, .ref a_Model_crossedAt, .ref a_Model_strokeOf, .ref a_Model_prices, .ref a_Model_hitAt, .ref a_Model_carried])), (a_Model_now, .inl (cI, 187, .inl Model_now)), (a_Model_least, .inl (cI, 8400, .inl Model_least)), (a_Model_ways, .inl (cI, 8400, .inl Model_ways))] := hD
        refine lv_aload_n hx hb dX11_findThem_70 rfl (lv_at hl 1 rfl) ?_
        refine va_get (D := D) (ci := 11) (v := .int y22) (C := RX11) (T := TX11) (N := 19) hx hb hts inX11 hown hK hP 3 rfl rfl 9 (by decide) fl101 (fun _ h9 => h9) rfl dX11_findThem_71 ?_
        refine lv_iload hx hb dX11_findThem_74 (lv_at hl 0 rfl) ?_
        refine lv_icmp_ne (tgt := 83) hx hb dX11_findThem_76 (by decide) (fun c25 => ?_) (fun c25 => ?_)
        · have hf := ite_f c25 hf
          refine lv_iconst (v := 1) hx hb dX11_findThem_83 (by decide) ?_
          exact hJ84 l1 l2 l3 l4 l5 1 Model_least Model_ways y22 y23 y19 y20 Model_handOf Model_crossedAt Model_strokeOf H locs ls (hP.sub [3, 4, 5, 6, 0, 1, 2] rfl) (hD.sub [3, 4, 5, 6, 0, 1, 2] (by decide) rfl) hS (lv_sub hl [1, 2, 3, 4, 5, 6] rfl) hf
        · have hf := ite_t c25 hf
          refine lv_iconst (v := 0) hx hb dX11_findThem_79 (by decide) ?_
          refine lv_goto (tgt := 84) hx hb dX11_findThem_80 (by decide) ?_
          exact hJ84 l1 l2 l3 l4 l5 0 Model_least Model_ways y22 y23 y19 y20 Model_handOf Model_crossedAt Model_strokeOf H locs ls (hP.sub [3, 4, 5, 6, 0, 1, 2] rfl) (hD.sub [3, 4, 5, 6, 0, 1, 2] (by decide) rfl) hS (lv_sub hl [1, 2, 3, 4, 5, 6] rfl) hf
  unfold f_Model_findThem at hf
  refine lv_aload_n hx hb dX11_findThem_0 rfl (lv_at hl 0 rfl) ?_
  refine va_get (D := D) (ci := 11) (v := .ref a_Model_now) (C := RX11) (T := TX11) (N := 19) hx hb hts inX11 hown hK hP 0 rfl rfl 0 (by decide) fl9 (fun _ h9 => h9) rfl dX11_findThem_1 ?_
  refine lv_iconst (v := 0) hx hb dX11_findThem_4 (by decide) ?_
  obtain ⟨ix26, x26, ex26, hf⟩ := rd_s hf
  refine va_iald hx hb hK hP 1 0 rfl rfl ix26 dX11_findThem_5 ?_
  refine lv_tpx ex26 ?_
  refine lv_iconst (v := 1) hx hb dX11_findThem_6 (by decide) ?_
  refine lv_isub hx hb dX11_findThem_7 ?_
  obtain ⟨x27, ex27, hf⟩ := nm_s hf
  refine lv_tpx ex27 ?_
  refine lv_istore_n (lv' := [(1, .int x27), (0, .ref a_Model)]) hx hb dX11_findThem_8 rfl hl (by decide) rfl (fun ls hl => ?_)
  refine lv_aload_n hx hb dX11_findThem_9 rfl (lv_at hl 1 rfl) ?_
  refine lv_iload_n hx hb dX11_findThem_10 rfl (lv_at hl 0 rfl) ?_
  obtain ⟨r28, y29, y30, y31, y32, y33, y34, g35, hf⟩ := b7_s hf
  refine k_Vi (rest := []) ⟨hx, hb, hml, hown, hts⟩ (c_Model_costUpTo l D cI cZ t a_Model a_Model_now a_Model_past a_Model_bits a_Model_sizes a_Model_sheets a_Model_least a_Model_ways a_Model_handOf a_Model_crossedAt a_Model_strokeOf a_Model_prices a_Model_hitAt a_Model_carried s.heap.size Model_now Model_least Model_ways Model_thenCost Model_thenWays Model_bothCost Model_bothWays Model_kept Model_findings x27 r28 y29 y30 y31 y32 y33 y34 g35) (cwV 1 hts gX11_findThem_X11_costUpTo rfl rfl rfl (by decide +kernel) ⟨Nat.le_of_ble_eq_true rfl, Nat.le_of_ble_eq_true rfl⟩) hE hP hD hS hA [0, 1, 2, 3] [4, 5, 6] rfl rfl rfl rfl rfl 0 11 rfl rfl rfl rfl hl.1 rfl (Nat.le_of_ble_eq_true rfl) dX11_findThem_11 ⟨Nat.le_of_ble_eq_true rfl, Nat.le_of_ble_eq_true rfl⟩ (fun rq uq H locs hrq hP hD hS => ?_)
  refine lv_tpx hrq.symm ?_
  have hP : va_P D vwCl [(a_Model_handOf, .inl (cI, 20, .inl Model_handOf)), (a_Model_crossedAt, .inl (cZ, 20, .inl Model_crossedAt)), (a_Model_strokeOf, .inl (cI, 40, .inl Model_strokeOf)), (a_Model, .inr (11, [.ref a_Model_now, .ref a_Model_past, .int Model_kept, .int Model_findings, .ref a_Model_bits, .ref a_Model_sizes, .ref a_Model_sheets, .ref a_Model_least, .ref a_Model_ways, .int y31, .int y32, .int y33, .int y34, .ref a_Model_handOf, .ref a_Model_crossedAt, .ref a_Model_strokeOf, .ref a_Model_prices, .ref a_Model_hitAt, .ref a_Model_carried])), (a_Model_now, .inl (cI, 187, .inl Model_now)), (a_Model_least, .inl (cI, 8400, .inl y29)), (a_Model_ways, .inl (cI, 8400, .inl y30))] H := hP
  have hD : va_D A [(a_Model_handOf, .inl (cI, 20, .inl Model_handOf)), (a_Model_crossedAt, .inl (cZ, 20, .inl Model_crossedAt)), (a_Model_strokeOf, .inl (cI, 40, .inl Model_strokeOf)), (a_Model, .inr (11, [.ref a_Model_now, .ref a_Model_past, .int Model_kept, .int Model_findings, .ref a_Model_bits, .ref a_Model_sizes, .ref a_Model_sheets, .ref a_Model_least, .ref a_Model_ways, .int y31, .int y32, .int y33, .int y34, .ref a_Model_handOf, .ref a_Model_crossedAt, .ref a_Model_strokeOf, .ref a_Model_prices, .ref a_Model_hitAt, .ref a_Model_carried])), (a_Model_now, .inl (cI, 187, .inl Model_now)), (a_Model_least, .inl (cI, 8400, .inl y29)), (a_Model_ways, .inl (cI, 8400, .inl y30))] := hD
  refine lv_ldc (v := 1000000) hx hb hown kc100 dX11_findThem_14 ?_
  refine lv_icmp_lt (tgt := 21) hx hb dX11_findThem_16 (by decide) (fun c36 => ?_) (fun c36 => ?_)
  · have hf := ite_t c36 hf
    refine lv_iconst (v := (-1)) hx hb dX11_findThem_21 (by decide) ?_
    refine lv_istore_n (lv' := [(2, .int (-1)), (1, .int x27), (0, .ref a_Model)]) hx hb dX11_findThem_22 rfl hl (by decide) rfl (fun ls hl => ?_)
    refine lv_iconst (v := 0) hx hb dX11_findThem_23 (by decide) ?_
    refine lv_istore_n (lv' := [(3, .int 0), (2, .int (-1)), (1, .int x27), (0, .ref a_Model)]) hx hb dX11_findThem_24 rfl hl (by decide) rfl (fun ls hl => ?_)
    refine lv_iconst (v := 0) hx hb dX11_findThem_25 (by decide) ?_
    refine lv_istore (lv' := [(4, .int 0), (3, .int 0), (2, .int (-1)), (1, .int x27), (0, .ref a_Model)]) hx hb dX11_findThem_26 hl (by decide) rfl (fun ls hl => ?_)
    refine lv_iconst (v := 0) hx hb dX11_findThem_28 (by decide) ?_
    refine lv_istore (lv' := [(5, .int 0), (4, .int 0), (3, .int 0), (2, .int (-1)), (1, .int x27), (0, .ref a_Model)]) hx hb dX11_findThem_29 hl (by decide) rfl (fun ls hl => ?_)
    exact hL31 fu x27 (-1) 0 0 0 y29 y30 y31 y32 y33 y34 Model_handOf Model_crossedAt Model_strokeOf H locs ls (hP.sub [3, 4, 5, 6, 0, 1, 2] rfl) (hD.sub [3, 4, 5, 6, 0, 1, 2] (by decide) rfl) hS (lv_sub hl [5, 4, 3, 2, 1, 0] rfl) hf
  · have hf := ite_f c36 hf
    refine lv_iconst (v := 0) hx hb dX11_findThem_19 (by decide) ?_
    cases hf
    exact k_zret () hQ9 hx hb hr hlocks (Or.inl rfl) rfl (hP.sub [3, 4, 5, 6, 0, 1, 2] rfl) (hD.sub [3, 4, 5, 6, 0, 1, 2] (by decide) rfl) hS (Nat.le_of_ble_eq_true rfl) (Nat.le_of_ble_eq_true rfl) dX11_findThem_20
