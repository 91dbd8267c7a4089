abbrev rm_Arms_strokeOf : Room := { frames := 0, cells := 0, slots := 0, locals := 0 }
set_option maxHeartbeats 4000000 in
set_option maxRecDepth 100000 in
theorem c_Arms_strokeOf (l : Launch) (D : va_G) (cI cZ : ClassId) (t : Nat → Nat) (a_Arms a_Line a_Rules sz : Nat) (Arms_left Arms_right p1 zr : Int32) (hf : f_Arms_strokeOf Arms_left Arms_right p1 = some zr) : Met l yX0_strokeOf wsX0_strokeOf rm_Arms_strokeOf (va_Pc [.ref a_Arms, .int p1] (pcW D cI cZ t [(a_Arms, .inr (0, [.ref a_Line, .ref a_Rules, .int Arms_left, .int Arms_right]))] sz)) (va_Qi (fun r (u : Unit) => r = zr) (fun u t' => bW D (va_A [(a_Arms, .inr (0, [.ref a_Line, .ref a_Rules, .int Arms_left, .int Arms_right]))] sz) [(a_Arms, .inr (0, [.ref a_Line, .ref a_Rules, .int Arms_left, .int Arms_right]))] t') (va_A [(a_Arms, .inr (0, [.ref a_Line, .ref a_Rules, .int Arms_left, .int Arms_right]))] sz)) 0 0 (va_A [(a_Arms, .inr (0, [.ref a_Line, .ref a_Rules, .int Arms_left, .int Arms_right]))] sz) := by
  refine Met.ofW (cc := cX0_strokeOf) (maxL := 2) (ret := (some .int)) (by decide) rfl ?_
  intro p e s m args below meth c s₁ B hml hv
  obtain ⟨rfl, hsz, hP, hD0, hE⟩ := hv
  have hx := B.exec
  have hb := B.bytes
  have hr := B.returns
  have hts := atoms_spec (ws := wsX0_strokeOf) B.pre
  have hown : s.vm.findClass RX0 = some m.cls := findClass_of_methodNamed B.named
  have hlocks := B.notSynchronized
  subst hsz
  have hD := hD0.self (sz := s.heap.size)
  generalize hAe : va_A [(a_Arms, .inr (0, [.ref a_Line, .ref a_Rules, .int Arms_left, .int Arms_right]))] s.heap.size = A at hD hE ⊢
  have hA : ∀ q : Nat, s.heap.size ≤ q → A q := fun q h => by rw [← hAe]; exact Or.inr h
  clear hAe hD0
  have hS : va_S A s.heap s.heap [] := va_S.rf
  have hK := hE.1
  have hl := lv_entry ([.ref a_Arms, .int p1]) (n := 2) (Nat.le_of_ble_eq_true rfl)
  rw [lg_entry_eq]
  generalize (lg_sl ([.ref a_Arms, .int p1]) ++ List.replicate (2 - (lg_sl ([.ref a_Arms, .int p1])).length) Slot.unset).toArray = ls at hl ⊢
  have hl : lv_has ls 2 [(0, .ref a_Arms), (1, .int p1)] := hl
  refine w_q (fun Q9 hQ9 => ?_)
  have fl17 := hts (.fieldLink RX0 17 "StickRoom$Arms" "right" "I") (by decide +kernel)
  have inX0 : ∀ w ∈ wsX00, w ∈ wsX0_strokeOf := by decide +kernel
  have fl11 := hts (.fieldLink RX0 11 "StickRoom$Arms" "left" "I") (by decide +kernel)
  unfold f_Arms_strokeOf at hf
  refine lv_iload_n hx hb dX0_strokeOf_0 rfl (lv_at hl 1 rfl) ?_
  refine lv_if_ne (tgt := 11) hx hb dX0_strokeOf_1 (by decide) (fun c1 => ?_) (fun c1 => ?_)
  · have hf := ite_f c1 hf
    refine lv_aload_n hx hb dX0_strokeOf_11 rfl (lv_at hl 0 rfl) ?_
    refine va_get (D := D) (ci := 0) (v := .int Arms_right) (C := RX0) (T := TX0) (N := 4) hx hb hts inX0 hown hK hP 0 rfl rfl 3 (by decide) fl17 (fun _ h9 => h9) rfl dX0_strokeOf_12 ?_
    cases hf
    exact k_iret () hQ9 hx hb hr hlocks rfl hP hD hS (Nat.le_of_ble_eq_true rfl) (Nat.le_of_ble_eq_true rfl) dX0_strokeOf_15
  · have hf := ite_t c1 hf
    refine lv_aload_n hx hb dX0_strokeOf_4 rfl (lv_at hl 0 rfl) ?_
    refine va_get (D := D) (ci := 0) (v := .int Arms_left) (C := RX0) (T := TX0) (N := 4) hx hb hts inX0 hown hK hP 0 rfl rfl 2 (by decide) fl11 (fun _ h9 => h9) rfl dX0_strokeOf_5 ?_
    refine lv_goto (tgt := 15) hx hb dX0_strokeOf_8 (by decide) ?_
    cases hf
    exact k_iret () hQ9 hx hb hr hlocks rfl hP hD hS (Nat.le_of_ble_eq_true rfl) (Nat.le_of_ble_eq_true rfl) dX0_strokeOf_15
abbrev rm_Arms_hold : Room := { frames := 0, cells := 0, slots := 0, locals := 0 }
set_option maxHeartbeats 4000000 in
set_option maxRecDepth 100000 in
theorem c_Arms_hold (l : Launch) (D : va_G) (cI cZ : ClassId) (t : Nat → Nat) (a_Arms a_Line a_Rules sz : Nat) (Arms_left Arms_right p1 p2 p3 z_Arms_left z_Arms_right : Int32) (hf : f_Arms_hold Arms_left Arms_right p1 p2 p3 = some (z_Arms_left, z_Arms_right)) : Met l yX0_hold wsX0_hold rm_Arms_hold (va_Pc [.ref a_Arms, .int p1, .int p2, .int p3] (pcW D cI cZ t [(a_Arms, .inr (0, [.ref a_Line, .ref a_Rules, .int Arms_left, .int Arms_right]))] sz)) (va_Qv (fun u : Unit => u = u) (fun u t' => bW D (va_A [(a_Arms, .inr (0, [.ref a_Line, .ref a_Rules, .int Arms_left, .int Arms_right]))] sz) [(a_Arms, .inr (0, [.ref a_Line, .ref a_Rules, .int z_Arms_left, .int z_Arms_right]))] t') (va_A [(a_Arms, .inr (0, [.ref a_Line, .ref a_Rules, .int Arms_left, .int Arms_right]))] sz)) 0 0 (va_A [(a_Arms, .inr (0, [.ref a_Line, .ref a_Rules, .int Arms_left, .int Arms_right]))] sz) := by
  refine Met.ofW (cc := cX0_hold) (maxL := 4) (ret := none) (by decide) rfl ?_
  intro p e s m args below meth c s₁ B hml hv
  obtain ⟨rfl, hsz, hP, hD0, hE⟩ := hv
  have hx := B.exec
  have hb := B.bytes
  have hr := B.returns
  have hts := atoms_spec (ws := wsX0_hold) B.pre
  have hown : s.vm.findClass RX0 = some m.cls := findClass_of_methodNamed B.named
  have hlocks := B.notSynchronized
  subst hsz
  have hD := hD0.self (sz := s.heap.size)
  generalize hAe : va_A [(a_Arms, .inr (0, [.ref a_Line, .ref a_Rules, .int Arms_left, .int Arms_right]))] s.heap.size = A at hD hE ⊢
  have hA : ∀ q : Nat, s.heap.size ≤ q → A q := fun q h => by rw [← hAe]; exact Or.inr h
  clear hAe hD0
  have hS : va_S A s.heap s.heap [] := va_S.rf
  have hK := hE.1
  have hl := lv_entry ([.ref a_Arms, .int p1, .int p2, .int p3]) (n := 4) (Nat.le_of_ble_eq_true rfl)
  rw [lg_entry_eq]
  generalize (lg_sl ([.ref a_Arms, .int p1, .int p2, .int p3]) ++ List.replicate (4 - (lg_sl ([.ref a_Arms, .int p1, .int p2, .int p3])).length) Slot.unset).toArray = ls at hl ⊢
  have hl : lv_has ls 4 [(0, .ref a_Arms), (1, .int p1), (2, .int p2), (3, .int p3)] := hl
  refine w_q (fun Q9 hQ9 => ?_)
  have fl11 := hts (.fieldLink RX0 11 "StickRoom$Arms" "left" "I") (by decide +kernel)
  have inX0 : ∀ w ∈ wsX00, w ∈ wsX0_hold := by decide +kernel
  have fl17 := hts (.fieldLink RX0 17 "StickRoom$Arms" "right" "I") (by decide +kernel)
  have hJ10 : ∀ (l1 l2 l3 k1 Arms_left Arms_right : Int32) (H : Heap) (locs : List Loc) (ls : Array Slot), va_P D vwCl [(a_Arms, .inr (0, [.ref a_Line, .ref a_Rules, .int Arms_left, .int Arms_right]))] H → va_D A [(a_Arms, .inr (0, [.ref a_Line, .ref a_Rules, .int Arms_left, .int Arms_right]))] → va_S A s.heap H locs → lv_has ls 4 [(0, .ref a_Arms), (1, .int l1), (2, .int l2), (3, .int l3)] → f_Arms_hold_10 l1 l2 l3 k1 Arms_left Arms_right = some (z_Arms_left, z_Arms_right) → W p l e (headSpec wsX0_hold rm_Arms_hold).room s m ([.ref a_Arms, .int p1, .int p2, .int p3] : List Value).toArray below meth c H locs 0 0 Q9 (F0 m 10 ls [.int k1, .ref a_Arms]) := by
    intro l1 l2 l3 k1 Arms_left Arms_right H locs ls hP hD hS hl hf
    unfold f_Arms_hold_10 at hf
    refine va_put (D := D) (ci := 0) (v := .int k1) (ty := .int) (C := RX0) (T := TX0) (N := 4) hx hb hts inX0 tyX0 tyX0_ok nmX0 hown hK hP hD hS 0 rfl rfl 2 (by decide) fl11 (fun _ h9 => h9) rfl (by decide +kernel) rfl rfl (Nat.le_of_ble_eq_true rfl) dX0_hold_10 (fun H locs hP hD hS => ?_)
    have hP : va_P D vwCl [(a_Arms, .inr (0, [.ref a_Line, .ref a_Rules, .int k1, .int Arms_right]))] H := hP
    have hD : va_D A [(a_Arms, .inr (0, [.ref a_Line, .ref a_Rules, .int k1, .int Arms_right]))] := hD
    refine lv_aload_n hx hb dX0_hold_13 rfl (lv_at hl 0 rfl) ?_
    refine lv_iload_n hx hb dX0_hold_14 rfl (lv_at hl 1 rfl) ?_
    refine lv_if_ne (tgt := 22) hx hb dX0_hold_15 (by decide) (fun c1 => ?_) (fun c1 => ?_)
    · have hf := ite_f c1 hf
      refine lv_iload_n hx hb dX0_hold_22 rfl (lv_at hl 2 rfl) ?_
      refine va_put (D := D) (ci := 0) (v := .int l2) (ty := .int) (C := RX0) (T := TX0) (N := 4) hx hb hts inX0 tyX0 tyX0_ok nmX0 hown hK hP hD hS 0 rfl rfl 3 (by decide) fl17 (fun _ h9 => h9) rfl (by decide +kernel) rfl rfl (Nat.le_of_ble_eq_true rfl) dX0_hold_23 (fun H locs hP hD hS => ?_)
      have hP : va_P D vwCl [(a_Arms, .inr (0, [.ref a_Line, .ref a_Rules, .int k1, .int l2]))] H := hP
      have hD : va_D A [(a_Arms, .inr (0, [.ref a_Line, .ref a_Rules, .int k1, .int l2]))] := hD
      cases hf
      exact k_vret () hQ9 hx hb hr hlocks rfl hP hD hS (Nat.le_of_ble_eq_true rfl) (Nat.le_of_ble_eq_true rfl) dX0_hold_26
    · have hf := ite_t c1 hf
      refine lv_iload_n hx hb dX0_hold_18 rfl (lv_at hl 3 rfl) ?_
      refine lv_goto (tgt := 23) hx hb dX0_hold_19 (by decide) ?_
      refine va_put (D := D) (ci := 0) (v := .int l3) (ty := .int) (C := RX0) (T := TX0) (N := 4) hx hb hts inX0 tyX0 tyX0_ok nmX0 hown hK hP hD hS 0 rfl rfl 3 (by decide) fl17 (fun _ h9 => h9) rfl (by decide +kernel) rfl rfl (Nat.le_of_ble_eq_true rfl) dX0_hold_23 (fun H locs hP hD hS => ?_)
      have hP : va_P D vwCl [(a_Arms, .inr (0, [.ref a_Line, .ref a_Rules, .int k1, .int l3]))] H := hP
      have hD : va_D A [(a_Arms, .inr (0, [.ref a_Line, .ref a_Rules, .int k1, .int l3]))] := hD
      cases hf
      exact k_vret () hQ9 hx hb hr hlocks rfl hP hD hS (Nat.le_of_ble_eq_true rfl) (Nat.le_of_ble_eq_true rfl) dX0_hold_26
  unfold f_Arms_hold at hf
  refine lv_aload_n hx hb dX0_hold_0 rfl (lv_at hl 0 rfl) ?_
  refine lv_iload_n hx hb dX0_hold_1 rfl (lv_at hl 1 rfl) ?_
  refine lv_if_ne (tgt := 9) hx hb dX0_hold_2 (by decide) (fun c2 => ?_) (fun c2 => ?_)
  · have hf := ite_f c2 hf
    refine lv_iload_n hx hb dX0_hold_9 rfl (lv_at hl 3 rfl) ?_
    exact hJ10 p1 p2 p3 p3 Arms_left Arms_right s.heap [] ls hP hD hS (lv_sub hl [0, 1, 2, 3] rfl) hf
  · have hf := ite_t c2 hf
    refine lv_iload_n hx hb dX0_hold_5 rfl (lv_at hl 2 rfl) ?_
    refine lv_goto (tgt := 10) hx hb dX0_hold_6 (by decide) ?_
    exact hJ10 p1 p2 p3 p2 Arms_left Arms_right s.heap [] ls hP hD hS (lv_sub hl [0, 1, 2, 3] rfl) hf
abbrev rm_Arms_isInTime : Room := { frames := 1, cells := 0, slots := 0, locals := 30 }
set_option maxHeartbeats 4000000 in
set_option maxRecDepth 100000 in
theorem c_Arms_isInTime (l : Launch) (D : va_G) (cI cZ : ClassId) (t : Nat → Nat) (a_Arms a_Line a_Rules a_Line_kinds a_Line_ticks a_Line_drums a_Line_marks a_Line_strokeTicks a_Line_strokeHeights a_Rules_values sz : Nat) (Line_strokeTicks Line_strokeHeights Rules_values : Nat → Int32) (Arms_left Arms_right Line_count p1 p2 p3 zr : Int32) (hf : f_Arms_isInTime Line_strokeTicks Line_strokeHeights Rules_values p1 p2 p3 = some zr) : Met l yX0_isInTime wsX0_isInTime rm_Arms_isInTime (va_Pc [.ref a_Arms, .int p1, .int p2, .int p3] (pcW D cI cZ t [(a_Arms, .inr (0, [.ref a_Line, .ref a_Rules, .int Arms_left, .int Arms_right])), (a_Line, .inr (4, [.ref a_Line_kinds, .ref a_Line_ticks, .ref a_Line_drums, .ref a_Line_marks, .ref a_Line_strokeTicks, .ref a_Line_strokeHeights, .int Line_count])), (a_Line_strokeTicks, .inl (cI, 41, .inl Line_strokeTicks)), (a_Line_strokeHeights, .inl (cI, 41, .inl Line_strokeHeights)), (a_Rules, .inr (7, [.ref a_Rules_values])), (a_Rules_values, .inl (cI, 5, .inl Rules_values))] sz)) (va_Qi (fun r (u : Unit) => r = zr) (fun u t' => bW D (va_A [(a_Arms, .inr (0, [.ref a_Line, .ref a_Rules, .int Arms_left, .int Arms_right])), (a_Line, .inr (4, [.ref a_Line_kinds, .ref a_Line_ticks, .ref a_Line_drums, .ref a_Line_marks, .ref a_Line_strokeTicks, .ref a_Line_strokeHeights, .int Line_count])), (a_Line_strokeTicks, .inl (cI, 41, .inl Line_strokeTicks)), (a_Line_strokeHeights, .inl (cI, 41, .inl Line_strokeHeights)), (a_Rules, .inr (7, [.ref a_Rules_values])), (a_Rules_values, .inl (cI, 5, .inl Rules_values))] sz) [(a_Arms, .inr (0, [.ref a_Line, .ref a_Rules, .int Arms_left, .int Arms_right])), (a_Line, .inr (4, [.ref a_Line_kinds, .ref a_Line_ticks, .ref a_Line_drums, .ref a_Line_marks, .ref a_Line_strokeTicks, .ref a_Line_strokeHeights, .int Line_count])), (a_Line_strokeTicks, .inl (cI, 41, .inl Line_strokeTicks)), (a_Line_strokeHeights, .inl (cI, 41, .inl Line_strokeHeights)), (a_Rules, .inr (7, [.ref a_Rules_values])), (a_Rules_values, .inl (cI, 5, .inl Rules_values))] t') (va_A [(a_Arms, .inr (0, [.ref a_Line, .ref a_Rules, .int Arms_left, .int Arms_right])), (a_Line, .inr (4, [.ref a_Line_kinds, .ref a_Line_ticks, .ref a_Line_drums, .ref a_Line_marks, .ref a_Line_strokeTicks, .ref a_Line_strokeHeights, .int Line_count])), (a_Line_strokeTicks, .inl (cI, 41, .inl Line_strokeTicks)), (a_Line_strokeHeights, .inl (cI, 41, .inl Line_strokeHeights)), (a_Rules, .inr (7, [.ref a_Rules_values])), (a_Rules_values, .inl (cI, 5, .inl Rules_values))] sz)) 0 0 (va_A [(a_Arms, .inr (0, [.ref a_Line, .ref a_Rules, .int Arms_left, .int Arms_right])), (a_Line, .inr (4, [.ref a_Line_kinds, .ref a_Line_ticks, .ref a_Line_drums, .ref a_Line_marks, .ref a_Line_strokeTicks, .ref a_Line_strokeHeights, .int Line_count])), (a_Line_strokeTicks, .inl (cI, 41, .inl Line_strokeTicks)), (a_Line_strokeHeights, .inl (cI, 41, .inl Line_strokeHeights)), (a_Rules, .inr (7, [.ref a_Rules_values])), (a_Rules_values, .inl (cI, 5, .inl Rules_values))] sz) := by
  refine Met.ofW (cc := cX0_isInTime) (maxL := 5) (ret := (some .boolean)) (by decide) rfl ?_
  intro p e s m args below meth c s₁ B hml hv
  obtain ⟨rfl, hsz, hP, hD0, hE⟩ := hv
  have hx := B.exec
  have hb := B.bytes
  have hr := B.returns
  have hts := atoms_spec (ws := wsX0_isInTime) B.pre
  have hown : s.vm.findClass RX0 = some m.cls := findClass_of_methodNamed B.named
  have hlocks := B.notSynchronized
  subst hsz
  have hD := hD0.self (sz := s.heap.size)
  generalize hAe : va_A [(a_Arms, .inr (0, [.ref a_Line, .ref a_Rules, .int Arms_left, .int Arms_right])), (a_Line, .inr (4, [.ref a_Line_kinds, .ref a_Line_ticks, .ref a_Line_drums, .ref a_Line_marks, .ref a_Line_strokeTicks, .ref a_Line_strokeHeights, .int Line_count])), (a_Line_strokeTicks, .inl (cI, 41, .inl Line_strokeTicks)), (a_Line_strokeHeights, .inl (cI, 41, .inl Line_strokeHeights)), (a_Rules, .inr (7, [.ref a_Rules_values])), (a_Rules_values, .inl (cI, 5, .inl Rules_values))] s.heap.size = A at hD hE ⊢
  have hA : ∀ q : Nat, s.heap.size ≤ q → A q := fun q h => by rw [← hAe]; exact Or.inr h
  clear hAe hD0
  have hS : va_S A s.heap s.heap [] := va_S.rf
  have hK := hE.1
  have hl := lv_entry ([.ref a_Arms, .int p1, .int p2, .int p3]) (n := 5) (Nat.le_of_ble_eq_true rfl)
  rw [lg_entry_eq]
  generalize (lg_sl ([.ref a_Arms, .int p1, .int p2, .int p3]) ++ List.replicate (5 - (lg_sl ([.ref a_Arms, .int p1, .int p2, .int p3])).length) Slot.unset).toArray = ls at hl ⊢
  have hl : lv_has ls 5 [(0, .ref a_Arms), (1, .int p1), (2, .int p2), (3, .int p3)] := hl
  refine w_q (fun Q9 hQ9 => ?_)
  have fl24 := hts (.fieldLink RX0 24 "StickRoom$Arms" "rules" "LStickRoom$Rules;") (by decide +kernel)
  have inX0 : ∀ w ∈ wsX00, w ∈ wsX0_isInTime := by decide +kernel
  have fl63 := hts (.fieldLink RX0 63 "StickRoom$Rules" "values" "[I") (by decide +kernel)
  have inX7 : ∀ w ∈ wsX70, w ∈ wsX0_isInTime := by decide +kernel
  have fl20 := hts (.fieldLink RX0 20 "StickRoom$Arms" "line" "LStickRoom$Line;") (by decide +kernel)
  have fl43 := hts (.fieldLink RX0 43 "StickRoom$Line" "strokeHeights" "[I") (by decide +kernel)
  have inX4 : ∀ w ∈ wsX40, w ∈ wsX0_isInTime := by decide +kernel
  have ml68 := hts (.methodLink RX0 68 Lib.Math.abs.name) (by decide +kernel)
  have ms_abs := hts (.static Lib.Math.abs.name) (by decide +kernel)
  have mini := hts (.initialized "java/lang/Math") (by decide +kernel)
  have mc_abs := hts (.code Lib.Math.abs.name Lib.Math.abs.code 1 (some .int)) (by decide +kernel)
  have fl73 := hts (.fieldLink RX0 73 "StickRoom$Line" "strokeTicks" "[I") (by decide +kernel)
  have ml76 := hts (.methodLink RX0 76 Lib.Math.max.name) (by decide +kernel)
  have ms_max := hts (.static Lib.Math.max.name) (by decide +kernel)
  have mc_max := hts (.code Lib.Math.max.name Lib.Math.max.code 2 (some .int)) (by decide +kernel)
  unfold f_Arms_isInTime at hf
  refine lv_iload_n hx hb dX0_isInTime_0 rfl (lv_at hl 1 rfl) ?_
  refine lv_if_ne (tgt := 6) hx hb dX0_isInTime_1 (by decide) (fun c1 => ?_) (fun c1 => ?_)
  · have hf := ite_f c1 hf
    refine lv_aload_n hx hb dX0_isInTime_6 rfl (lv_at hl 0 rfl) ?_
    refine va_get (D := D) (ci := 0) (v := .ref a_Rules) (C := RX0) (T := TX0) (N := 4) hx hb hts inX0 hown hK hP 0 rfl rfl 1 (by decide) fl24 (fun _ h9 => h9) rfl dX0_isInTime_7 ?_
    refine va_get (D := D) (ci := 7) (v := .ref a_Rules_values) (C := RX7) (T := TX7) (N := 1) hx hb hts inX7 hown hK hP 4 rfl rfl 0 (by decide) fl63 (fun _ h9 => h9) rfl dX0_isInTime_10 ?_
    refine lv_iconst (v := 1) hx hb dX0_isInTime_13 (by decide) ?_
    obtain ⟨ix2, x2, ex2, hf⟩ := rd_s hf
    refine va_iald hx hb hK hP 5 0 rfl rfl ix2 dX0_isInTime_14 ?_
    refine lv_tpx ex2 ?_
    refine lv_iload_n hx hb dX0_isInTime_15 rfl (lv_at hl 3 rfl) ?_
    refine lv_aload_n hx hb dX0_isInTime_16 rfl (lv_at hl 0 rfl) ?_
    refine va_get (D := D) (ci := 0) (v := .ref a_Line) (C := RX0) (T := TX0) (N := 4) hx hb hts inX0 hown hK hP 0 rfl rfl 0 (by decide) fl20 (fun _ h9 => h9) rfl dX0_isInTime_17 ?_
    refine va_get (D := D) (ci := 4) (v := .ref a_Line_strokeHeights) (C := RX4) (T := TX4) (N := 7) hx hb hts inX4 hown hK hP 1 rfl rfl 5 (by decide) fl43 (fun _ h9 => h9) rfl dX0_isInTime_20 ?_
    refine lv_iload_n hx hb dX0_isInTime_23 rfl (lv_at hl 1 rfl) ?_
    obtain ⟨ix3, x3, ex3, hf⟩ := rd_s hf
    refine va_iald hx hb hK hP 3 0 rfl rfl ix3 dX0_isInTime_24 ?_
    refine lv_tpx ex3 ?_
    refine lv_isub hx hb dX0_isInTime_25 ?_
    refine va_mabs hx hb (hml.trans hl.1.symm) hown ml68 ms_abs mini mc_abs (Nat.le_of_ble_eq_true rfl) (Nat.le_of_ble_eq_true rfl) (Nat.le_of_ble_eq_true rfl) (Nat.le_of_ble_eq_true rfl) dX0_isInTime_26 ?_
    obtain ⟨x4, ex4, hf⟩ := nm_s hf
    refine lv_tpx ex4 ?_
    refine lv_imul hx hb dX0_isInTime_29 ?_
    obtain ⟨x5, ex5, hf⟩ := nm_s hf
    refine lv_tpx ex5 ?_
    refine lv_istore (lv' := [(4, .int x5), (0, .ref a_Arms), (1, .int p1), (2, .int p2), (3, .int p3)]) hx hb dX0_isInTime_30 hl (by decide) rfl (fun ls hl => ?_)
    refine lv_iload_n hx hb dX0_isInTime_32 rfl (lv_at hl 3 rfl) ?_
    refine lv_aload_n hx hb dX0_isInTime_33 rfl (lv_at hl 1 rfl) ?_
    refine va_get (D := D) (ci := 0) (v := .ref a_Line) (C := RX0) (T := TX0) (N := 4) hx hb hts inX0 hown hK hP 0 rfl rfl 0 (by decide) fl20 (fun _ h9 => h9) rfl dX0_isInTime_34 ?_
    refine va_get (D := D) (ci := 4) (v := .ref a_Line_strokeTicks) (C := RX4) (T := TX4) (N := 7) hx hb hts inX4 hown hK hP 1 rfl rfl 4 (by decide) fl73 (fun _ h9 => h9) rfl dX0_isInTime_37 ?_
    refine lv_iload_n hx hb dX0_isInTime_40 rfl (lv_at hl 2 rfl) ?_
    obtain ⟨ix6, x6, ex6, hf⟩ := rd_s hf
    refine va_iald hx hb hK hP 2 0 rfl rfl ix6 dX0_isInTime_41 ?_
    refine lv_tpx ex6 ?_
    refine lv_isub hx hb dX0_isInTime_42 ?_
    refine lv_aload_n hx hb dX0_isInTime_43 rfl (lv_at hl 1 rfl) ?_
    refine va_get (D := D) (ci := 0) (v := .ref a_Rules) (C := RX0) (T := TX0) (N := 4) hx hb hts inX0 hown hK hP 0 rfl rfl 1 (by decide) fl24 (fun _ h9 => h9) rfl dX0_isInTime_44 ?_
    refine va_get (D := D) (ci := 7) (v := .ref a_Rules_values) (C := RX7) (T := TX7) (N := 1) hx hb hts inX7 hown hK hP 4 rfl rfl 0 (by decide) fl63 (fun _ h9 => h9) rfl dX0_isInTime_47 ?_
    refine lv_iconst (v := 0) hx hb dX0_isInTime_50 (by decide) ?_
    obtain ⟨ix7, x7, ex7, hf⟩ := rd_s hf
    refine va_iald hx hb hK hP 5 0 rfl rfl ix7 dX0_isInTime_51 ?_
    refine lv_tpx ex7 ?_
    refine lv_iload hx hb dX0_isInTime_52 (lv_at hl 0 rfl) ?_
    refine va_mmax hx hb (hml.trans hl.1.symm) hown ml76 ms_max mini mc_max (Nat.le_of_ble_eq_true rfl) (Nat.le_of_ble_eq_true rfl) (Nat.le_of_ble_eq_true rfl) (Nat.le_of_ble_eq_true rfl) dX0_isInTime_54 ?_
    obtain ⟨x8, ex8, hf⟩ := nm_s hf
    refine lv_tpx ex8 ?_
    refine lv_icmp_lt (tgt := 64) hx hb dX0_isInTime_57 (by decide) (fun c9 => ?_) (fun c9 => ?_)
    · have hf := ite_t c9 hf
      refine lv_iconst (v := 0) hx hb dX0_isInTime_64 (by decide) ?_
      cases hf
      exact k_zret () hQ9 hx hb hr hlocks (Or.inl rfl) rfl hP hD hS (Nat.le_of_ble_eq_true rfl) (Nat.le_of_ble_eq_true rfl) dX0_isInTime_65
    · have hf := ite_f c9 hf
      refine lv_iconst (v := 1) hx hb dX0_isInTime_60 (by decide) ?_
      refine lv_goto (tgt := 65) hx hb dX0_isInTime_61 (by decide) ?_
      cases hf
      exact k_zret () hQ9 hx hb hr hlocks (Or.inr rfl) rfl hP hD hS (Nat.le_of_ble_eq_true rfl) (Nat.le_of_ble_eq_true rfl) dX0_isInTime_65
  · have hf := ite_t c1 hf
    refine lv_iconst (v := 1) hx hb dX0_isInTime_4 (by decide) ?_
    cases hf
    exact k_zret () hQ9 hx hb hr hlocks (Or.inr rfl) rfl hP hD hS (Nat.le_of_ble_eq_true rfl) (Nat.le_of_ble_eq_true rfl) dX0_isInTime_5
abbrev rm_Arms_strike : Room := { frames := 2, cells := 0, slots := 0, locals := 54 }
set_option maxHeartbeats 4000000 in
set_option maxRecDepth 100000 in
theorem c_Arms_strike (l : Launch) (D : va_G) (cI cZ : ClassId) (t : Nat → Nat) (a_Arms a_Line a_Rules a_Line_kinds a_Line_ticks a_Line_drums a_Line_marks a_Line_strokeTicks a_Line_strokeHeights a_Rules_values sz : Nat) (Arms_left Arms_right : Int32) (Line_kinds Line_ticks Line_marks Line_strokeTicks Line_strokeHeights Rules_values : Nat → Int32) (Line_count p1 p2 zr z_Arms_left z_Arms_right : Int32) (hf : f_Arms_strike Arms_left Arms_right Line_kinds Line_ticks Line_marks Line_strokeTicks Line_strokeHeights Rules_values p1 p2 = some (zr, z_Arms_left, z_Arms_right)) : Met l yX0_strike wsX0_strike rm_Arms_strike (va_Pc [.ref a_Arms, .int p1, .int p2] (pcW D cI cZ t [(a_Arms, .inr (0, [.ref a_Line, .ref a_Rules, .int Arms_left, .int Arms_right])), (a_Line, .inr (4, [.ref a_Line_kinds, .ref a_Line_ticks, .ref a_Line_drums, .ref a_Line_marks, .ref a_Line_strokeTicks, .ref a_Line_strokeHeights, .int Line_count])), (a_Line_kinds, .inl (cI, 20, .inl Line_kinds)), (a_Line_ticks, .inl (cI, 20, .inl Line_ticks)), (a_Line_marks, .inl (cI, 20, .inl Line_marks)), (a_Line_strokeTicks, .inl (cI, 41, .inl Line_strokeTicks)), (a_Line_strokeHeights, .inl (cI, 41, .inl Line_strokeHeights)), (a_Rules, .inr (7, [.ref a_Rules_values])), (a_Rules_values, .inl (cI, 5, .inl Rules_values))] sz)) (va_Qi (fun r (u : Unit) => r = zr) (fun u t' => bW D (va_A [(a_Arms, .inr (0, [.ref a_Line, .ref a_Rules, .int Arms_left, .int Arms_right])), (a_Line, .inr (4, [.ref a_Line_kinds, .ref a_Line_ticks, .ref a_Line_drums, .ref a_Line_marks, .ref a_Line_strokeTicks, .ref a_Line_strokeHeights, .int Line_count])), (a_Line_kinds, .inl (cI, 20, .inl Line_kinds)), (a_Line_ticks, .inl (cI, 20, .inl Line_ticks)), (a_Line_marks, .inl (cI, 20, .inl Line_marks)), (a_Line_strokeTicks, .inl (cI, 41, .inl Line_strokeTicks)), (a_Line_strokeHeights, .inl (cI, 41, .inl Line_strokeHeights)), (a_Rules, .inr (7, [.ref a_Rules_values])), (a_Rules_values, .inl (cI, 5, .inl Rules_values))] sz) [(a_Arms, .inr (0, [.ref a_Line, .ref a_Rules, .int z_Arms_left, .int z_Arms_right])), (a_Line, .inr (4, [.ref a_Line_kinds, .ref a_Line_ticks, .ref a_Line_drums, .ref a_Line_marks, .ref a_Line_strokeTicks, .ref a_Line_strokeHeights, .int Line_count])), (a_Line_kinds, .inl (cI, 20, .inl Line_kinds)), (a_Line_ticks, .inl (cI, 20, .inl Line_ticks)), (a_Line_marks, .inl (cI, 20, .inl Line_marks)), (a_Line_strokeTicks, .inl (cI, 41, .inl Line_strokeTicks)), (a_Line_strokeHeights, .inl (cI, 41, .inl Line_strokeHeights)), (a_Rules, .inr (7, [.ref a_Rules_values])), (a_Rules_values, .inl (cI, 5, .inl Rules_values))] t') (va_A [(a_Arms, .inr (0, [.ref a_Line, .ref a_Rules, .int Arms_left, .int Arms_right])), (a_Line, .inr (4, [.ref a_Line_kinds, .ref a_Line_ticks, .ref a_Line_drums, .ref a_Line_marks, .ref a_Line_strokeTicks, .ref a_Line_strokeHeights, .int Line_count])), (a_Line_kinds, .inl (cI, 20, .inl Line_kinds)), (a_Line_ticks, .inl (cI, 20, .inl Line_ticks)), (a_Line_marks, .inl (cI, 20, .inl Line_marks)), (a_Line_strokeTicks, .inl (cI, 41, .inl Line_strokeTicks)), (a_Line_strokeHeights, .inl (cI, 41, .inl Line_strokeHeights)), (a_Rules, .inr (7, [.ref a_Rules_values])), (a_Rules_values, .inl (cI, 5, .inl Rules_values))] sz)) 0 0 (va_A [(a_Arms, .inr (0, [.ref a_Line, .ref a_Rules, .int Arms_left, .int Arms_right])), (a_Line, .inr (4, [.ref a_Line_kinds, .ref a_Line_ticks, .ref a_Line_drums, .ref a_Line_marks, .ref a_Line_strokeTicks, .ref a_Line_strokeHeights, .int Line_count])), (a_Line_kinds, .inl (cI, 20, .inl Line_kinds)), (a_Line_ticks, .inl (cI, 20, .inl Line_ticks)), (a_Line_marks, .inl (cI, 20, .inl Line_marks)), (a_Line_strokeTicks, .inl (cI, 41, .inl Line_strokeTicks)), (a_Line_strokeHeights, .inl (cI, 41, .inl Line_strokeHeights)), (a_Rules, .inr (7, [.ref a_Rules_values])), (a_Rules_values, .inl (cI, 5, .inl Rules_values))] sz) := by
  refine Met.ofW (cc := cX0_strike) (maxL := 5) (ret := (some .boolean)) (by decide) rfl ?_
  intro p e s m args below meth c s₁ B hml hv
  obtain ⟨rfl, hsz, hP, hD0, hE⟩ := hv
  have hx := B.exec
  have hb := B.bytes
  have hr := B.returns
  have hts := atoms_spec (ws := wsX0_strike) B.pre
  have hown : s.vm.findClass RX0 = some m.cls := findClass_of_methodNamed B.named
  have hlocks := B.notSynchronized
  subst hsz
  have hD := hD0.self (sz := s.heap.size)
  generalize hAe : va_A [(a_Arms, .inr (0, [.ref a_Line, .ref a_Rules, .int Arms_left, .int Arms_right])), (a_Line, .inr (4, [.ref a_Line_kinds, .ref a_Line_ticks, .ref a_Line_drums, .ref a_Line_marks, .ref a_Line_strokeTicks, .ref a_Line_strokeHeights, .int Line_count])), (a_Line_kinds, .inl (cI, 20, .inl Line_kinds)), (a_Line_ticks, .inl (cI, 20, .inl Line_ticks)), (a_Line_marks, .inl (cI, 20, .inl Line_marks)), (a_Line_strokeTicks, .inl (cI, 41, .inl Line_strokeTicks)), (a_Line_strokeHeights, .inl (cI, 41, .inl Line_strokeHeights)), (a_Rules, .inr (7, [.ref a_Rules_values])), (a_Rules_values, .inl (cI, 5, .inl Rules_values))] s.heap.size = A at hD hE ⊢
  have hA : ∀ q : Nat, s.heap.size ≤ q → A q := fun q h => by rw [← hAe]; exact Or.inr h
  clear hAe hD0
  have hS : va_S A s.heap s.heap [] := va_S.rf
  have hK := hE.1
  have hl := lv_entry ([.ref a_Arms, .int p1, .int p2]) (n := 5) (Nat.le_of_ble_eq_true rfl)
  rw [lg_entry_eq]
  generalize (lg_sl ([.ref a_Arms, .int p1, .int p2]) ++ List.replicate (5 - (lg_sl ([.ref a_Arms, .int p1, .int p2])).length) Slot.unset).toArray = ls at hl ⊢
  have hl : lv_has ls 5 [(0, .ref a_Arms), (1, .int p1), (2, .int p2)] := hl
  refine w_q (fun Q9 hQ9 => ?_)
  have fl20 := hts (.fieldLink RX0 20 "StickRoom$Arms" "line" "LStickRoom$Line;") (by decide +kernel)
  have inX0 : ∀ w ∈ wsX00, w ∈ wsX0_strike := by decide +kernel
  have fl39 := hts (.fieldLink RX0 39 "StickRoom$Line" "ticks" "[I") (by decide +kernel)
  have inX4 : ∀ w ∈ wsX40, w ∈ wsX0_strike := by decide +kernel
  have fl43 := hts (.fieldLink RX0 43 "StickRoom$Line" "strokeHeights" "[I") (by decide +kernel)
  unfold f_Arms_strike at hf
  refine lv_iload_n hx hb dX0_strike_0 rfl (lv_at hl 1 rfl) ?_
  obtain ⟨r1, g2, hf⟩ := b1_s hf
  refine k_Si (rest := []) ⟨hx, hb, hml, hown, hts⟩ (c_Line_mainOf l D cI cZ t  s.heap.size p1 r1 g2) (va_cwS 1 hts gX0_strike_X4_mainOf rfl rfl rfl (by decide +kernel) ⟨Nat.le_of_ble_eq_true rfl, Nat.le_of_ble_eq_true rfl⟩) hE hP hD hS hA [] [0, 1, 2, 3, 4, 5, 6, 7, 8] rfl rfl rfl rfl rfl rfl hl.1 rfl (Nat.le_of_ble_eq_true rfl) dX0_strike_1 ⟨Nat.le_of_ble_eq_true rfl, Nat.le_of_ble_eq_true rfl⟩ (fun rq uq H locs hrq hP hD hS => ?_)
  refine lv_tpx hrq.symm ?_
  have hP : va_P D vwCl [(a_Arms, .inr (0, [.ref a_Line, .ref a_Rules, .int Arms_left, .int Arms_right])), (a_Line, .inr (4, [.ref a_Line_kinds, .ref a_Line_ticks, .ref a_Line_drums, .ref a_Line_marks, .ref a_Line_strokeTicks, .ref a_Line_strokeHeights, .int Line_count])), (a_Line_kinds, .inl (cI, 20, .inl Line_kinds)), (a_Line_ticks, .inl (cI, 20, .inl Line_ticks)), (a_Line_marks, .inl (cI, 20, .inl Line_marks)), (a_Line_strokeTicks, .inl (cI, 41, .inl Line_strokeTicks)), (a_Line_strokeHeights, .inl (cI, 41, .inl Line_strokeHeights)), (a_Rules, .inr (7, [.ref a_Rules_values])), (a_Rules_values, .inl (cI, 5, .inl Rules_values))] H := hP
  have hD : va_D A [(a_Arms, .inr (0, [.ref a_Line, .ref a_Rules, .int Arms_left, .int Arms_right])), (a_Line, .inr (4, [.ref a_Line_kinds, .ref a_Line_ticks, .ref a_Line_drums, .ref a_Line_marks, .ref a_Line_strokeTicks, .ref a_Line_strokeHeights, .int Line_count])), (a_Line_kinds, .inl (cI, 20, .inl Line_kinds)), (a_Line_ticks, .inl (cI, 20, .inl Line_ticks)), (a_Line_marks, .inl (cI, 20, .inl Line_marks)), (a_Line_strokeTicks, .inl (cI, 41, .inl Line_strokeTicks)), (a_Line_strokeHeights, .inl (cI, 41, .inl Line_strokeHeights)), (a_Rules, .inr (7, [.ref a_Rules_values])), (a_Rules_values, .inl (cI, 5, .inl Rules_values))] := hD
  refine lv_istore_n (lv' := [(3, .int r1), (0, .ref a_Arms), (1, .int p1), (2, .int p2)]) hx hb dX0_strike_4 rfl hl (by decide) rfl (fun ls hl => ?_)
  refine lv_aload_n hx hb dX0_strike_5 rfl (lv_at hl 1 rfl) ?_
  refine lv_iconst (v := 1) hx hb dX0_strike_6 (by decide) ?_
  refine lv_iload_n hx hb dX0_strike_7 rfl (lv_at hl 3 rfl) ?_
  refine lv_isub hx hb dX0_strike_8 ?_
  obtain ⟨r3, g4, hf⟩ := b1_s hf
  refine k_Vi (rest := []) ⟨hx, hb, hml, hown, hts⟩ (c_Arms_strokeOf l D cI cZ t a_Arms a_Line a_Rules H.size Arms_left Arms_right (1 - p2) r3 g4) (cwV 1 hts gX0_strike_X0_strokeOf rfl rfl rfl (by decide +kernel) ⟨Nat.le_of_ble_eq_true rfl, Nat.le_of_ble_eq_true rfl⟩) hE hP hD hS hA [0] [1, 2, 3, 4, 5, 6, 7, 8] rfl rfl rfl rfl rfl 0 0 rfl rfl rfl rfl hl.1 rfl (Nat.le_of_ble_eq_true rfl) dX0_strike_9 ⟨Nat.le_of_ble_eq_true rfl, Nat.le_of_ble_eq_true rfl⟩ (fun rq uq H locs hrq hP hD hS => ?_)
  refine lv_tpx hrq.symm ?_
  have hP : va_P D vwCl [(a_Line, .inr (4, [.ref a_Line_kinds, .ref a_Line_ticks, .ref a_Line_drums, .ref a_Line_marks, .ref a_Line_strokeTicks, .ref a_Line_strokeHeights, .int Line_count])), (a_Line_kinds, .inl (cI, 20, .inl Line_kinds)), (a_Line_ticks, .inl (cI, 20, .inl Line_ticks)), (a_Line_marks, .inl (cI, 20, .inl Line_marks)), (a_Line_strokeTicks, .inl (cI, 41, .inl Line_strokeTicks)), (a_Line_strokeHeights, .inl (cI, 41, .inl Line_strokeHeights)), (a_Rules, .inr (7, [.ref a_Rules_values])), (a_Rules_values, .inl (cI, 5, .inl Rules_values)), (a_Arms, .inr (0, [.ref a_Line, .ref a_Rules, .int Arms_left, .int Arms_right]))] H := hP
  have hD : va_D A [(a_Line, .inr (4, [.ref a_Line_kinds, .ref a_Line_ticks, .ref a_Line_drums, .ref a_Line_marks, .ref a_Line_strokeTicks, .ref a_Line_strokeHeights, .int Line_count])), (a_Line_kinds, .inl (cI, 20, .inl Line_kinds)), (a_Line_ticks, .inl (cI, 20, .inl Line_ticks)), (a_Line_marks, .inl (cI, 20, .inl Line_marks)), (a_Line_strokeTicks, .inl (cI, 41, .inl Line_strokeTicks)), (a_Line_strokeHeights, .inl (cI, 41, .inl Line_strokeHeights)), (a_Rules, .inr (7, [.ref a_Rules_values])), (a_Rules_values, .inl (cI, 5, .inl Rules_values)), (a_Arms, .inr (0, [.ref a_Line, .ref a_Rules, .int Arms_left, .int Arms_right]))] := hD
  refine lv_istore (lv' := [(4, .int r3), (3, .int r1), (0, .ref a_Arms), (1, .int p1), (2, .int p2)]) hx hb dX0_strike_12 hl (by decide) rfl (fun ls hl => ?_)
  refine lv_aload_n hx hb dX0_strike_14 rfl (lv_at hl 2 rfl) ?_
  refine va_get (D := D) (ci := 0) (v := .ref a_Line) (C := RX0) (T := TX0) (N := 4) hx hb hts inX0 hown hK hP 8 rfl rfl 0 (by decide) fl20 (fun _ h9 => h9) rfl dX0_strike_15 ?_
  refine lv_iload_n hx hb dX0_strike_18 rfl (lv_at hl 3 rfl) ?_
  refine lv_iload_n hx hb dX0_strike_19 rfl (lv_at hl 4 rfl) ?_
  obtain ⟨r5, g6, hf⟩ := b1_s hf
  refine k_Vi (rest := []) ⟨hx, hb, hml, hown, hts⟩ (c_Line_mayBeBy l D cI cZ t a_Line a_Line_kinds a_Line_ticks a_Line_drums a_Line_marks a_Line_strokeTicks a_Line_strokeHeights H.size Line_marks Line_count p1 p2 r5 g6) (cwV 2 hts gX0_strike_X4_mayBeBy rfl rfl rfl (by decide +kernel) ⟨Nat.le_of_ble_eq_true rfl, Nat.le_of_ble_eq_true rfl⟩) hE hP hD hS hA [0, 3] [1, 2, 4, 5, 6, 7, 8] rfl rfl rfl rfl rfl 0 4 rfl rfl rfl rfl hl.1 rfl (Nat.le_of_ble_eq_true rfl) dX0_strike_20 ⟨Nat.le_of_ble_eq_true rfl, Nat.le_of_ble_eq_true rfl⟩ (fun rq uq H locs hrq hP hD hS => ?_)
  refine lv_tpx hrq.symm ?_
  have hP : va_P D vwCl [(a_Line_kinds, .inl (cI, 20, .inl Line_kinds)), (a_Line_ticks, .inl (cI, 20, .inl Line_ticks)), (a_Line_strokeTicks, .inl (cI, 41, .inl Line_strokeTicks)), (a_Line_strokeHeights, .inl (cI, 41, .inl Line_strokeHeights)), (a_Rules, .inr (7, [.ref a_Rules_values])), (a_Rules_values, .inl (cI, 5, .inl Rules_values)), (a_Arms, .inr (0, [.ref a_Line, .ref a_Rules, .int Arms_left, .int Arms_right])), (a_Line, .inr (4, [.ref a_Line_kinds, .ref a_Line_ticks, .ref a_Line_drums, .ref a_Line_marks, .ref a_Line_strokeTicks, .ref a_Line_strokeHeights, .int Line_count])), (a_Line_marks, .inl (cI, 20, .inl Line_marks))] H := hP
  have hD : va_D A [(a_Line_kinds, .inl (cI, 20, .inl Line_kinds)), (a_Line_ticks, .inl (cI, 20, .inl Line_ticks)), (a_Line_strokeTicks, .inl (cI, 41, .inl Line_strokeTicks)), (a_Line_strokeHeights, .inl (cI, 41, .inl Line_strokeHeights)), (a_Rules, .inr (7, [.ref a_Rules_values])), (a_Rules_values, .inl (cI, 5, .inl Rules_values)), (a_Arms, .inr (0, [.ref a_Line, .ref a_Rules, .int Arms_left, .int Arms_right])), (a_Line, .inr (4, [.ref a_Line_kinds, .ref a_Line_ticks, .ref a_Line_drums, .ref a_Line_marks, .ref a_Line_strokeTicks, .ref a_Line_strokeHeights, .int Line_count])), (a_Line_marks, .inl (cI, 20, .inl Line_marks))] := hD
  refine lv_if_eq (tgt := 56) hx hb dX0_strike_23 (by decide) (fun c7 => ?_) (fun c7 => ?_)
  · have hf := ite_t c7 hf
    refine lv_iconst (v := 0) hx hb dX0_strike_56 (by decide) ?_
    cases hf
    exact k_zret () hQ9 hx hb hr hlocks (Or.inl rfl) rfl (hP.sub [6, 7, 0, 1, 8, 2, 3, 4, 5] rfl) (hD.sub [6, 7, 0, 1, 8, 2, 3, 4, 5] (by decide) rfl) hS (Nat.le_of_ble_eq_true rfl) (Nat.le_of_ble_eq_true rfl) dX0_strike_57
  · have hf := ite_f c7 hf
    refine lv_aload_n hx hb dX0_strike_26 rfl (lv_at hl 2 rfl) ?_
    refine lv_aload_n hx hb dX0_strike_27 rfl (lv_at hl 2 rfl) ?_
    refine lv_iload_n hx hb dX0_strike_28 rfl (lv_at hl 4 rfl) ?_
    obtain ⟨r8, g9, hf⟩ := b1_s hf
    refine k_Vi (rest := [.ref a_Arms]) ⟨hx, hb, hml, hown, hts⟩ (c_Arms_strokeOf l D cI cZ t a_Arms a_Line a_Rules H.size Arms_left Arms_right p2 r8 g9) (cwV 1 hts gX0_strike_X0_strokeOf rfl rfl rfl (by decide +kernel) ⟨Nat.le_of_ble_eq_true rfl, Nat.le_of_ble_eq_true rfl⟩) hE hP hD hS hA [6] [0, 1, 2, 3, 4, 5, 7, 8] rfl rfl rfl rfl rfl 0 0 rfl rfl rfl rfl hl.1 rfl (Nat.le_of_ble_eq_true rfl) dX0_strike_29 ⟨Nat.le_of_ble_eq_true rfl, Nat.le_of_ble_eq_true rfl⟩ (fun rq uq H locs hrq hP hD hS => ?_)
    refine lv_tpx hrq.symm ?_
    have hP : va_P D vwCl [(a_Line_kinds, .inl (cI, 20, .inl Line_kinds)), (a_Line_ticks, .inl (cI, 20, .inl Line_ticks)), (a_Line_strokeTicks, .inl (cI, 41, .inl Line_strokeTicks)), (a_Line_strokeHeights, .inl (cI, 41, .inl Line_strokeHeights)), (a_Rules, .inr (7, [.ref a_Rules_values])), (a_Rules_values, .inl (cI, 5, .inl Rules_values)), (a_Line, .inr (4, [.ref a_Line_kinds, .ref a_Line_ticks, .ref a_Line_drums, .ref a_Line_marks, .ref a_Line_strokeTicks, .ref a_Line_strokeHeights, .int Line_count])), (a_Line_marks, .inl (cI, 20, .inl Line_marks)), (a_Arms, .inr (0, [.ref a_Line, .ref a_Rules, .int Arms_left, .int Arms_right]))] H := hP
    have hD : va_D A [(a_Line_kinds, .inl (cI, 20, .inl Line_kinds)), (a_Line_ticks, .inl (cI, 20, .inl Line_ticks)), (a_Line_strokeTicks, .inl (cI, 41, .inl Line_strokeTicks)), (a_Line_strokeHeights, .inl (cI, 41, .inl Line_strokeHeights)), (a_Rules, .inr (7, [.ref a_Rules_values])), (a_Rules_values, .inl (cI, 5, .inl Rules_values)), (a_Line, .inr (4, [.ref a_Line_kinds, .ref a_Line_ticks, .ref a_Line_drums, .ref a_Line_marks, .ref a_Line_strokeTicks, .ref a_Line_strokeHeights, .int Line_count])), (a_Line_marks, .inl (cI, 20, .inl Line_marks)), (a_Arms, .inr (0, [.ref a_Line, .ref a_Rules, .int Arms_left, .int Arms_right]))] := hD
    refine lv_aload_n hx hb dX0_strike_32 rfl (lv_at hl 2 rfl) ?_
    refine va_get (D := D) (ci := 0) (v := .ref a_Line) (C := RX0) (T := TX0) (N := 4) hx hb hts inX0 hown hK hP 8 rfl rfl 0 (by decide) fl20 (fun _ h9 => h9) rfl dX0_strike_33 ?_
    refine va_get (D := D) (ci := 4) (v := .ref a_Line_ticks) (C := RX4) (T := TX4) (N := 7) hx hb hts inX4 hown hK hP 6 rfl rfl 1 (by decide) fl39 (fun _ h9 => h9) rfl dX0_strike_36 ?_
    refine lv_iload_n hx hb dX0_strike_39 rfl (lv_at hl 3 rfl) ?_
    obtain ⟨ix10, x10, ex10, hf⟩ := rd_s hf
    refine va_iald hx hb hK hP 1 0 rfl rfl ix10 dX0_strike_40 ?_
    refine lv_tpx ex10 ?_
    refine lv_aload_n hx hb dX0_strike_41 rfl (lv_at hl 2 rfl) ?_
    refine va_get (D := D) (ci := 0) (v := .ref a_Line) (C := RX0) (T := TX0) (N := 4) hx hb hts inX0 hown hK hP 8 rfl rfl 0 (by decide) fl20 (fun _ h9 => h9) rfl dX0_strike_42 ?_
    refine va_get (D := D) (ci := 4) (v := .ref a_Line_strokeHeights) (C := RX4) (T := TX4) (N := 7) hx hb hts inX4 hown hK hP 6 rfl rfl 5 (by decide) fl43 (fun _ h9 => h9) rfl dX0_strike_45 ?_
    refine lv_iload_n hx hb dX0_strike_48 rfl (lv_at hl 1 rfl) ?_
    obtain ⟨ix11, x11, ex11, hf⟩ := rd_s hf
    refine va_iald hx hb hK hP 3 0 rfl rfl ix11 dX0_strike_49 ?_
    refine lv_tpx ex11 ?_
    obtain ⟨r12, g13, hf⟩ := b1_s hf
    refine k_Vi (rest := []) ⟨hx, hb, hml, hown, hts⟩ (c_Arms_isInTime l D cI cZ t a_Arms a_Line a_Rules a_Line_kinds a_Line_ticks a_Line_drums a_Line_marks a_Line_strokeTicks a_Line_strokeHeights a_Rules_values H.size Line_strokeTicks Line_strokeHeights Rules_values Arms_left Arms_right Line_count r8 x10 x11 r12 g13) (cwV 3 hts gX0_strike_X0_isInTime rfl rfl rfl (by decide +kernel) ⟨Nat.le_of_ble_eq_true rfl, Nat.le_of_ble_eq_true rfl⟩) hE hP hD hS hA [8, 6, 2, 3, 4, 5] [0, 1, 7] rfl rfl rfl rfl rfl 0 0 rfl rfl rfl rfl hl.1 rfl (Nat.le_of_ble_eq_true rfl) dX0_strike_50 ⟨Nat.le_of_ble_eq_true rfl, Nat.le_of_ble_eq_true rfl⟩ (fun rq uq H locs hrq hP hD hS => ?_)
    refine lv_tpx hrq.symm ?_
    have hP : va_P D vwCl [(a_Line_kinds, .inl (cI, 20, .inl Line_kinds)), (a_Line_ticks, .inl (cI, 20, .inl Line_ticks)), (a_Line_marks, .inl (cI, 20, .inl Line_marks)), (a_Arms, .inr (0, [.ref a_Line, .ref a_Rules, .int Arms_left, .int Arms_right])), (a_Line, .inr (4, [.ref a_Line_kinds, .ref a_Line_ticks, .ref a_Line_drums, .ref a_Line_marks, .ref a_Line_strokeTicks, .ref a_Line_strokeHeights, .int Line_count])), (a_Line_strokeTicks, .inl (cI, 41, .inl Line_strokeTicks)), (a_Line_strokeHeights, .inl (cI, 41, .inl Line_strokeHeights)), (a_Rules, .inr (7, [.ref a_Rules_values])), (a_Rules_values, .inl (cI, 5, .inl Rules_values))] H := hP
    have hD : va_D A [(a_Line_kinds, .inl (cI, 20, .inl Line_kinds)), (a_Line_ticks, .inl (cI, 20, .inl Line_ticks)), (a_Line_marks, .inl (cI, 20, .inl Line_marks)), (a_Arms, .inr (0, [.ref a_Line, .ref a_Rules, .int Arms_left, .int Arms_right])), (a_Line, .inr (4, [.ref a_Line_kinds, .ref a_Line_ticks, .ref a_Line_drums, .ref a_Line_marks, .ref a_Line_strokeTicks, .ref a_Line_strokeHeights, .int Line_count])), (a_Line_strokeTicks, .inl (cI, 41, .inl Line_strokeTicks)), (a_Line_strokeHeights, .inl (cI, 41, .inl Line_strokeHeights)), (a_Rules, .inr (7, [.ref a_Rules_values])), (a_Rules_values, .inl (cI, 5, .inl Rules_values))] := hD
    refine lv_if_ne (tgt := 58) hx hb dX0_strike_53 (by decide) (fun c14 => ?_) (fun c14 => ?_)
    · have hf := ite_f c14 hf
      refine lv_aload_n hx hb dX0_strike_58 rfl (lv_at hl 2 rfl) ?_
      refine va_get (D := D) (ci := 0) (v := .ref a_Line) (C := RX0) (T := TX0) (N := 4) hx hb hts inX0 hown hK hP 3 rfl rfl 0 (by decide) fl20 (fun _ h9 => h9) rfl dX0_strike_59 ?_
      refine lv_iload_n hx hb dX0_strike_62 rfl (lv_at hl 3 rfl) ?_
      obtain ⟨r15, g16, hf⟩ := b1_s hf
      refine k_Vi (rest := []) ⟨hx, hb, hml, hown, hts⟩ (c_Line_graces l D cI cZ t a_Line a_Line_kinds a_Line_ticks a_Line_drums a_Line_marks a_Line_strokeTicks a_Line_strokeHeights H.size Line_kinds Line_count p1 r15 g16) (cwV 1 hts gX0_strike_X4_graces rfl rfl rfl (by decide +kernel) ⟨Nat.le_of_ble_eq_true rfl, Nat.le_of_ble_eq_true rfl⟩) hE hP hD hS hA [4, 0] [1, 2, 3, 5, 6, 7, 8] rfl rfl rfl rfl rfl 0 4 rfl rfl rfl rfl hl.1 rfl (Nat.le_of_ble_eq_true rfl) dX0_strike_63 ⟨Nat.le_of_ble_eq_true rfl, Nat.le_of_ble_eq_true rfl⟩ (fun rq uq H locs hrq hP hD hS => ?_)
      refine lv_tpx hrq.symm ?_
      have hP : va_P D vwCl [(a_Line_ticks, .inl (cI, 20, .inl Line_ticks)), (a_Line_marks, .inl (cI, 20, .inl Line_marks)), (a_Arms, .inr (0, [.ref a_Line, .ref a_Rules, .int Arms_left, .int Arms_right])), (a_Line_strokeTicks, .inl (cI, 41, .inl Line_strokeTicks)), (a_Line_strokeHeights, .inl (cI, 41, .inl Line_strokeHeights)), (a_Rules, .inr (7, [.ref a_Rules_values])), (a_Rules_values, .inl (cI, 5, .inl Rules_values)), (a_Line, .inr (4, [.ref a_Line_kinds, .ref a_Line_ticks, .ref a_Line_drums, .ref a_Line_marks, .ref a_Line_strokeTicks, .ref a_Line_strokeHeights, .int Line_count])), (a_Line_kinds, .inl (cI, 20, .inl Line_kinds))] H := hP
      have hD : va_D A [(a_Line_ticks, .inl (cI, 20, .inl Line_ticks)), (a_Line_marks, .inl (cI, 20, .inl Line_marks)), (a_Arms, .inr (0, [.ref a_Line, .ref a_Rules, .int Arms_left, .int Arms_right])), (a_Line_strokeTicks, .inl (cI, 41, .inl Line_strokeTicks)), (a_Line_strokeHeights, .inl (cI, 41, .inl Line_strokeHeights)), (a_Rules, .inr (7, [.ref a_Rules_values])), (a_Rules_values, .inl (cI, 5, .inl Rules_values)), (a_Line, .inr (4, [.ref a_Line_kinds, .ref a_Line_ticks, .ref a_Line_drums, .ref a_Line_marks, .ref a_Line_strokeTicks, .ref a_Line_strokeHeights, .int Line_count])), (a_Line_kinds, .inl (cI, 20, .inl Line_kinds))] := hD
      refine lv_if_ne (tgt := 79) hx hb dX0_strike_66 (by decide) (fun c17 => ?_) (fun c17 => ?_)
      · have hf := ite_f c17 hf
        refine lv_aload_n hx hb dX0_strike_79 rfl (lv_at hl 2 rfl) ?_
        refine lv_iload hx hb dX0_strike_80 (lv_at hl 0 rfl) ?_
        refine lv_aload_n hx hb dX0_strike_82 rfl (lv_at hl 2 rfl) ?_
        refine va_get (D := D) (ci := 0) (v := .ref a_Line) (C := RX0) (T := TX0) (N := 4) hx hb hts inX0 hown hK hP 2 rfl rfl 0 (by decide) fl20 (fun _ h9 => h9) rfl dX0_strike_83 ?_
        refine lv_iload_n hx hb dX0_strike_86 rfl (lv_at hl 3 rfl) ?_
        obtain ⟨r18, g19, hf⟩ := b1_s hf
        refine k_Vi (rest := [.int r3, .ref a_Arms]) ⟨hx, hb, hml, hown, hts⟩ (c_Line_firstGraceTick l D cI cZ t a_Line a_Line_kinds a_Line_ticks a_Line_drums a_Line_marks a_Line_strokeTicks a_Line_strokeHeights H.size Line_kinds Line_ticks Line_count p1 r18 g19) (cwV 1 hts gX0_strike_X4_firstGraceTick rfl rfl rfl (by decide +kernel) ⟨Nat.le_of_ble_eq_true rfl, Nat.le_of_ble_eq_true rfl⟩) hE hP hD hS hA [7, 8, 0] [1, 2, 3, 4, 5, 6] rfl rfl rfl rfl rfl 0 4 rfl rfl rfl rfl hl.1 rfl (Nat.le_of_ble_eq_true rfl) dX0_strike_87 ⟨Nat.le_of_ble_eq_true rfl, Nat.le_of_ble_eq_true rfl⟩ (fun rq uq H locs hrq hP hD hS => ?_)
        refine lv_tpx hrq.symm ?_
        have hP : va_P D vwCl [(a_Line_marks, .inl (cI, 20, .inl Line_marks)), (a_Arms, .inr (0, [.ref a_Line, .ref a_Rules, .int Arms_left, .int Arms_right])), (a_Line_strokeTicks, .inl (cI, 41, .inl Line_strokeTicks)), (a_Line_strokeHeights, .inl (cI, 41, .inl Line_strokeHeights)), (a_Rules, .inr (7, [.ref a_Rules_values])), (a_Rules_values, .inl (cI, 5, .inl Rules_values)), (a_Line, .inr (4, [.ref a_Line_kinds, .ref a_Line_ticks, .ref a_Line_drums, .ref a_Line_marks, .ref a_Line_strokeTicks, .ref a_Line_strokeHeights, .int Line_count])), (a_Line_kinds, .inl (cI, 20, .inl Line_kinds)), (a_Line_ticks, .inl (cI, 20, .inl Line_ticks))] H := hP
        have hD : va_D A [(a_Line_marks, .inl (cI, 20, .inl Line_marks)), (a_Arms, .inr (0, [.ref a_Line, .ref a_Rules, .int Arms_left, .int Arms_right])), (a_Line_strokeTicks, .inl (cI, 41, .inl Line_strokeTicks)), (a_Line_strokeHeights, .inl (cI, 41, .inl Line_strokeHeights)), (a_Rules, .inr (7, [.ref a_Rules_values])), (a_Rules_values, .inl (cI, 5, .inl Rules_values)), (a_Line, .inr (4, [.ref a_Line_kinds, .ref a_Line_ticks, .ref a_Line_drums, .ref a_Line_marks, .ref a_Line_strokeTicks, .ref a_Line_strokeHeights, .int Line_count])), (a_Line_kinds, .inl (cI, 20, .inl Line_kinds)), (a_Line_ticks, .inl (cI, 20, .inl Line_ticks))] := hD
        refine lv_iconst (v := 1) hx hb dX0_strike_90 (by decide) ?_
        obtain ⟨r20, g21, hf⟩ := b1_s hf
        refine k_Vi (rest := []) ⟨hx, hb, hml, hown, hts⟩ (c_Arms_isInTime l D cI cZ t a_Arms a_Line a_Rules a_Line_kinds a_Line_ticks a_Line_drums a_Line_marks a_Line_strokeTicks a_Line_strokeHeights a_Rules_values H.size Line_strokeTicks Line_strokeHeights Rules_values Arms_left Arms_right Line_count r3 r18 1 r20 g21) (cwV 3 hts gX0_strike_X0_isInTime rfl rfl rfl (by decide +kernel) ⟨Nat.le_of_ble_eq_true rfl, Nat.le_of_ble_eq_true rfl⟩) hE hP hD hS hA [1, 6, 2, 3, 4, 5] [0, 7, 8] rfl rfl rfl rfl rfl 0 0 rfl rfl rfl rfl hl.1 rfl (Nat.le_of_ble_eq_true rfl) dX0_strike_91 ⟨Nat.le_of_ble_eq_true rfl, Nat.le_of_ble_eq_true rfl⟩ (fun rq uq H locs hrq hP hD hS => ?_)
        refine lv_tpx hrq.symm ?_
        have hP : va_P D vwCl [(a_Line_marks, .inl (cI, 20, .inl Line_marks)), (a_Line_kinds, .inl (cI, 20, .inl Line_kinds)), (a_Line_ticks, .inl (cI, 20, .inl Line_ticks)), (a_Arms, .inr (0, [.ref a_Line, .ref a_Rules, .int Arms_left, .int Arms_right])), (a_Line, .inr (4, [.ref a_Line_kinds, .ref a_Line_ticks, .ref a_Line_drums, .ref a_Line_marks, .ref a_Line_strokeTicks, .ref a_Line_strokeHeights, .int Line_count])), (a_Line_strokeTicks, .inl (cI, 41, .inl Line_strokeTicks)), (a_Line_strokeHeights, .inl (cI, 41, .inl Line_strokeHeights)), (a_Rules, .inr (7, [.ref a_Rules_values])), (a_Rules_values, .inl (cI, 5, .inl Rules_values))] H := hP
        have hD : va_D A [(a_Line_marks, .inl (cI, 20, .inl Line_marks)), (a_Line_kinds, .inl (cI, 20, .inl Line_kinds)), (a_Line_ticks, .inl (cI, 20, .inl Line_ticks)), (a_Arms, .inr (0, [.ref a_Line, .ref a_Rules, .int Arms_left, .int Arms_right])), (a_Line, .inr (4, [.ref a_Line_kinds, .ref a_Line_ticks, .ref a_Line_drums, .ref a_Line_marks, .ref a_Line_strokeTicks, .ref a_Line_strokeHeights, .int Line_count])), (a_Line_strokeTicks, .inl (cI, 41, .inl Line_strokeTicks)), (a_Line_strokeHeights, .inl (cI, 41, .inl Line_strokeHeights)), (a_Rules, .inr (7, [.ref a_Rules_values])), (a_Rules_values, .inl (cI, 5, .inl Rules_values))] := hD
        refine lv_if_ne (tgt := 99) hx hb dX0_strike_94 (by decide) (fun c22 => ?_) (fun c22 => ?_)
        · have hf := ite_f c22 hf
          refine lv_aload_n hx hb dX0_strike_99 rfl (lv_at hl 2 rfl) ?_
          refine lv_iload_n hx hb dX0_strike_100 rfl (lv_at hl 4 rfl) ?_
          refine lv_iload_n hx hb dX0_strike_101 rfl (lv_at hl 1 rfl) ?_
          refine lv_iload_n hx hb dX0_strike_102 rfl (lv_at hl 3 rfl) ?_
          obtain ⟨r23, g24, hf⟩ := b1_s hf
          refine k_Si (rest := [.int r1, .int p2, .ref a_Arms]) ⟨hx, hb, hml, hown, hts⟩ (c_Line_graceOf l D cI cZ t  H.size p1 r23 g24) (va_cwS 1 hts gX0_strike_X4_graceOf rfl rfl rfl (by decide +kernel) ⟨Nat.le_of_ble_eq_true rfl, Nat.le_of_ble_eq_true rfl⟩) hE hP hD hS hA [] [0, 1, 2, 3, 4, 5, 6, 7, 8] rfl rfl rfl rfl rfl rfl hl.1 rfl (Nat.le_of_ble_eq_true rfl) dX0_strike_103 ⟨Nat.le_of_ble_eq_true rfl, Nat.le_of_ble_eq_true rfl⟩ (fun rq uq H locs hrq hP hD hS => ?_)
          refine lv_tpx hrq.symm ?_
          have hP : va_P D vwCl [(a_Line_marks, .inl (cI, 20, .inl Line_marks)), (a_Line_kinds, .inl (cI, 20, .inl Line_kinds)), (a_Line_ticks, .inl (cI, 20, .inl Line_ticks)), (a_Arms, .inr (0, [.ref a_Line, .ref a_Rules, .int Arms_left, .int Arms_right])), (a_Line, .inr (4, [.ref a_Line_kinds, .ref a_Line_ticks, .ref a_Line_drums, .ref a_Line_marks, .ref a_Line_strokeTicks, .ref a_Line_strokeHeights, .int Line_count])), (a_Line_strokeTicks, .inl (cI, 41, .inl Line_strokeTicks)), (a_Line_strokeHeights, .inl (cI, 41, .inl Line_strokeHeights)), (a_Rules, .inr (7, [.ref a_Rules_values])), (a_Rules_values, .inl (cI, 5, .inl Rules_values))] H := hP
          have hD : va_D A [(a_Line_marks, .inl (cI, 20, .inl Line_marks)), (a_Line_kinds, .inl (cI, 20, .inl Line_kinds)), (a_Line_ticks, .inl (cI, 20, .inl Line_ticks)), (a_Arms, .inr (0, [.ref a_Line, .ref a_Rules, .int Arms_left, .int Arms_right])), (a_Line, .inr (4, [.ref a_Line_kinds, .ref a_Line_ticks, .ref a_Line_drums, .ref a_Line_marks, .ref a_Line_strokeTicks, .ref a_Line_strokeHeights, .int Line_count])), (a_Line_strokeTicks, .inl (cI, 41, .inl Line_strokeTicks)), (a_Line_strokeHeights, .inl (cI, 41, .inl Line_strokeHeights)), (a_Rules, .inr (7, [.ref a_Rules_values])), (a_Rules_values, .inl (cI, 5, .inl Rules_values))] := hD
          obtain ⟨y25, y26, g27, hf⟩ := b2_s hf
          refine k_Vv (rest := []) ⟨hx, hb, hml, hown, hts⟩ (c_Arms_hold l D cI cZ t a_Arms a_Line a_Rules H.size Arms_left Arms_right p2 r1 r23 y25 y26 g27) (cwV 3 hts gX0_strike_X0_hold rfl rfl rfl (by decide +kernel) ⟨Nat.le_of_ble_eq_true rfl, Nat.le_of_ble_eq_true rfl⟩) hE hP hD hS hA [3] [0, 1, 2, 4, 5, 6, 7, 8] rfl rfl rfl rfl rfl 0 0 rfl rfl rfl rfl hl.1 rfl (Nat.le_of_ble_eq_true rfl) dX0_strike_106 ⟨Nat.le_of_ble_eq_true rfl, Nat.le_of_ble_eq_true rfl⟩ (fun uq H locs hrq hP hD hS => ?_)
          have hP : va_P D vwCl [(a_Line_marks, .inl (cI, 20, .inl Line_marks)), (a_Line_kinds, .inl (cI, 20, .inl Line_kinds)), (a_Line_ticks, .inl (cI, 20, .inl Line_ticks)), (a_Line, .inr (4, [.ref a_Line_kinds, .ref a_Line_ticks, .ref a_Line_drums, .ref a_Line_marks, .ref a_Line_strokeTicks, .ref a_Line_strokeHeights, .int Line_count])), (a_Line_strokeTicks, .inl (cI, 41, .inl Line_strokeTicks)), (a_Line_strokeHeights, .inl (cI, 41, .inl Line_strokeHeights)), (a_Rules, .inr (7, [.ref a_Rules_values])), (a_Rules_values, .inl (cI, 5, .inl Rules_values)), (a_Arms, .inr (0, [.ref a_Line, .ref a_Rules, .int y25, .int y26]))] H := hP
          have hD : va_D A [(a_Line_marks, .inl (cI, 20, .inl Line_marks)), (a_Line_kinds, .inl (cI, 20, .inl Line_kinds)), (a_Line_ticks, .inl (cI, 20, .inl Line_ticks)), (a_Line, .inr (4, [.ref a_Line_kinds, .ref a_Line_ticks, .ref a_Line_drums, .ref a_Line_marks, .ref a_Line_strokeTicks, .ref a_Line_strokeHeights, .int Line_count])), (a_Line_strokeTicks, .inl (cI, 41, .inl Line_strokeTicks)), (a_Line_strokeHeights, .inl (cI, 41, .inl Line_strokeHeights)), (a_Rules, .inr (7, [.ref a_Rules_values])), (a_Rules_values, .inl (cI, 5, .inl Rules_values)), (a_Arms, .inr (0, [.ref a_Line, .ref a_Rules, .int y25, .int y26]))] := hD
          refine lv_iconst (v := 1) hx hb dX0_strike_109 (by decide) ?_
          cases hf
          exact k_zret () hQ9 hx hb hr hlocks (Or.inr rfl) rfl (hP.sub [8, 3, 1, 2, 0, 4, 5, 6, 7] rfl) (hD.sub [8, 3, 1, 2, 0, 4, 5, 6, 7] (by decide) rfl) hS (Nat.le_of_ble_eq_true rfl) (Nat.le_of_ble_eq_true rfl) dX0_strike_110
        · have hf := ite_t c22 hf
          refine lv_iconst (v := 0) hx hb dX0_strike_97 (by decide) ?_
          cases hf
          exact k_zret () hQ9 hx hb hr hlocks (Or.inl rfl) rfl (hP.sub [3, 4, 1, 2, 0, 5, 6, 7, 8] rfl) (hD.sub [3, 4, 1, 2, 0, 5, 6, 7, 8] (by decide) rfl) hS (Nat.le_of_ble_eq_true rfl) (Nat.le_of_ble_eq_true rfl) dX0_strike_98
      · have hf := ite_t c17 hf
        refine lv_aload_n hx hb dX0_strike_69 rfl (lv_at hl 2 rfl) ?_
        refine lv_iload_n hx hb dX0_strike_70 rfl (lv_at hl 4 rfl) ?_
        refine lv_iload_n hx hb dX0_strike_71 rfl (lv_at hl 1 rfl) ?_
        refine lv_iload hx hb dX0_strike_72 (lv_at hl 0 rfl) ?_
        obtain ⟨y28, y29, g30, hf⟩ := b2_s hf
        refine k_Vv (rest := []) ⟨hx, hb, hml, hown, hts⟩ (c_Arms_hold l D cI cZ t a_Arms a_Line a_Rules H.size Arms_left Arms_right p2 r1 r3 y28 y29 g30) (cwV 3 hts gX0_strike_X0_hold rfl rfl rfl (by decide +kernel) ⟨Nat.le_of_ble_eq_true rfl, Nat.le_of_ble_eq_true rfl⟩) hE hP hD hS hA [2] [0, 1, 3, 4, 5, 6, 7, 8] rfl rfl rfl rfl rfl 0 0 rfl rfl rfl rfl hl.1 rfl (Nat.le_of_ble_eq_true rfl) dX0_strike_74 ⟨Nat.le_of_ble_eq_true rfl, Nat.le_of_ble_eq_true rfl⟩ (fun uq H locs hrq hP hD hS => ?_)
        have hP : va_P D vwCl [(a_Line_ticks, .inl (cI, 20, .inl Line_ticks)), (a_Line_marks, .inl (cI, 20, .inl Line_marks)), (a_Line_strokeTicks, .inl (cI, 41, .inl Line_strokeTicks)), (a_Line_strokeHeights, .inl (cI, 41, .inl Line_strokeHeights)), (a_Rules, .inr (7, [.ref a_Rules_values])), (a_Rules_values, .inl (cI, 5, .inl Rules_values)), (a_Line, .inr (4, [.ref a_Line_kinds, .ref a_Line_ticks, .ref a_Line_drums, .ref a_Line_marks, .ref a_Line_strokeTicks, .ref a_Line_strokeHeights, .int Line_count])), (a_Line_kinds, .inl (cI, 20, .inl Line_kinds)), (a_Arms, .inr (0, [.ref a_Line, .ref a_Rules, .int y28, .int y29]))] H := hP
        have hD : va_D A [(a_Line_ticks, .inl (cI, 20, .inl Line_ticks)), (a_Line_marks, .inl (cI, 20, .inl Line_marks)), (a_Line_strokeTicks, .inl (cI, 41, .inl Line_strokeTicks)), (a_Line_strokeHeights, .inl (cI, 41, .inl Line_strokeHeights)), (a_Rules, .inr (7, [.ref a_Rules_values])), (a_Rules_values, .inl (cI, 5, .inl Rules_values)), (a_Line, .inr (4, [.ref a_Line_kinds, .ref a_Line_ticks, .ref a_Line_drums, .ref a_Line_marks, .ref a_Line_strokeTicks, .ref a_Line_strokeHeights, .int Line_count])), (a_Line_kinds, .inl (cI, 20, .inl Line_kinds)), (a_Arms, .inr (0, [.ref a_Line, .ref a_Rules, .int y28, .int y29]))] := hD
        refine lv_iconst (v := 1) hx hb dX0_strike_77 (by decide) ?_
        cases hf
        exact k_zret () hQ9 hx hb hr hlocks (Or.inr rfl) rfl (hP.sub [8, 6, 7, 0, 1, 2, 3, 4, 5] rfl) (hD.sub [8, 6, 7, 0, 1, 2, 3, 4, 5] (by decide) rfl) hS (Nat.le_of_ble_eq_true rfl) (Nat.le_of_ble_eq_true rfl) dX0_strike_78
    · have hf := ite_t c14 hf
      refine lv_iconst (v := 0) hx hb dX0_strike_56 (by decide) ?_
      cases hf
      exact k_zret () hQ9 hx hb hr hlocks (Or.inl rfl) rfl (hP.sub [3, 4, 0, 1, 2, 5, 6, 7, 8] rfl) (hD.sub [3, 4, 0, 1, 2, 5, 6, 7, 8] (by decide) rfl) hS (Nat.le_of_ble_eq_true rfl) (Nat.le_of_ble_eq_true rfl) dX0_strike_57
abbrev rm_Arms_areCrossed : Room := { frames := 1, cells := 0, slots := 0, locals := 20 }
set_option maxHeartbeats 4000000 in
set_option maxRecDepth 100000 in
theorem c_Arms_areCrossed (l : Launch) (D : va_G) (cI cZ : ClassId) (t : Nat → Nat) (a_Arms a_Line a_Rules a_Line_kinds a_Line_ticks a_Line_drums a_Line_marks a_Line_strokeTicks a_Line_strokeHeights sz : Nat) (Arms_left Arms_right : Int32) (Line_drums : Nat → Int32) (Line_count zr : Int32) (hf : f_Arms_areCrossed Arms_left Arms_right Line_drums = some zr) : Met l yX0_areCrossed wsX0_areCrossed rm_Arms_areCrossed (va_Pc [.ref a_Arms] (pcW D cI cZ t [(a_Arms, .inr (0, [.ref a_Line, .ref a_Rules, .int Arms_left, .int Arms_right])), (a_Line, .inr (4, [.ref a_Line_kinds, .ref a_Line_ticks, .ref a_Line_drums, .ref a_Line_marks, .ref a_Line_strokeTicks, .ref a_Line_strokeHeights, .int Line_count])), (a_Line_drums, .inl (cI, 20, .inl Line_drums))] sz)) (va_Qi (fun r (u : Unit) => r = zr) (fun u t' => bW D (va_A [(a_Arms, .inr (0, [.ref a_Line, .ref a_Rules, .int Arms_left, .int Arms_right])), (a_Line, .inr (4, [.ref a_Line_kinds, .ref a_Line_ticks, .ref a_Line_drums, .ref a_Line_marks, .ref a_Line_strokeTicks, .ref a_Line_strokeHeights, .int Line_count])), (a_Line_drums, .inl (cI, 20, .inl Line_drums))] sz) [(a_Arms, .inr (0, [.ref a_Line, .ref a_Rules, .int Arms_left, .int Arms_right])), (a_Line, .inr (4, [.ref a_Line_kinds, .ref a_Line_ticks, .ref a_Line_drums, .ref a_Line_marks, .ref a_Line_strokeTicks, .ref a_Line_strokeHeights, .int Line_count])), (a_Line_drums, .inl (cI, 20, .inl Line_drums))] t') (va_A [(a_Arms, .inr (0, [.ref a_Line, .ref a_Rules, .int Arms_left, .int Arms_right])), (a_Line, .inr (4, [.ref a_Line_kinds, .ref a_Line_ticks, .ref a_Line_drums, .ref a_Line_marks, .ref a_Line_strokeTicks, .ref a_Line_strokeHeights, .int Line_count])), (a_Line_drums, .inl (cI, 20, .inl Line_drums))] sz)) 0 0 (va_A [(a_Arms, .inr (0, [.ref a_Line, .ref a_Rules, .int Arms_left, .int Arms_right])), (a_Line, .inr (4, [.ref a_Line_kinds, .ref a_Line_ticks, .ref a_Line_drums, .ref a_Line_marks, .ref a_Line_strokeTicks, .ref a_Line_strokeHeights, .int Line_count])), (a_Line_drums, .inl (cI, 20, .inl Line_drums))] sz) := by
  refine Met.ofW (cc := cX0_areCrossed) (maxL := 1) (ret := (some .boolean)) (by decide) rfl ?_
  intro p e s m args below meth c s₁ B hml hv
  obtain ⟨rfl, hsz, hP, hD0, hE⟩ := hv
  have hx := B.exec
  have hb := B.bytes
  have hr := B.returns
  have hts := atoms_spec (ws := wsX0_areCrossed) B.pre
  have hown : s.vm.findClass RX0 = some m.cls := findClass_of_methodNamed B.named
  have hlocks := B.notSynchronized
  subst hsz
  have hD := hD0.self (sz := s.heap.size)
  generalize hAe : va_A [(a_Arms, .inr (0, [.ref a_Line, .ref a_Rules, .int Arms_left, .int Arms_right])), (a_Line, .inr (4, [.ref a_Line_kinds, .ref a_Line_ticks, .ref a_Line_drums, .ref a_Line_marks, .ref a_Line_strokeTicks, .ref a_Line_strokeHeights, .int Line_count])), (a_Line_drums, .inl (cI, 20, .inl Line_drums))] s.heap.size = A at hD hE ⊢
  have hA : ∀ q : Nat, s.heap.size ≤ q → A q := fun q h => by rw [← hAe]; exact Or.inr h
  clear hAe hD0
  have hS : va_S A s.heap s.heap [] := va_S.rf
  have hK := hE.1
  have hl := lv_entry ([.ref a_Arms]) (n := 1) (Nat.le_of_ble_eq_true rfl)
  rw [lg_entry_eq]
  generalize (lg_sl ([.ref a_Arms]) ++ List.replicate (1 - (lg_sl ([.ref a_Arms])).length) Slot.unset).toArray = ls at hl ⊢
  have hl : lv_has ls 1 [(0, .ref a_Arms)] := hl
  refine w_q (fun Q9 hQ9 => ?_)
  have fl11 := hts (.fieldLink RX0 11 "StickRoom$Arms" "left" "I") (by decide +kernel)
  have inX0 : ∀ w ∈ wsX00, w ∈ wsX0_areCrossed := by decide +kernel
  have fl17 := hts (.fieldLink RX0 17 "StickRoom$Arms" "right" "I") (by decide +kernel)
  have fl20 := hts (.fieldLink RX0 20 "StickRoom$Arms" "line" "LStickRoom$Line;") (by decide +kernel)
  have fl80 := hts (.fieldLink RX0 80 "StickRoom$Line" "drums" "[I") (by decide +kernel)
  have inX4 : ∀ w ∈ wsX40, w ∈ wsX0_areCrossed := by decide +kernel
  unfold f_Arms_areCrossed at hf
  refine lv_aload_n hx hb dX0_areCrossed_0 rfl (lv_at hl 0 rfl) ?_
  refine va_get (D := D) (ci := 0) (v := .int Arms_left) (C := RX0) (T := TX0) (N := 4) hx hb hts inX0 hown hK hP 0 rfl rfl 2 (by decide) fl11 (fun _ h9 => h9) rfl dX0_areCrossed_1 ?_
  refine lv_if_eq (tgt := 51) hx hb dX0_areCrossed_4 (by decide) (fun c1 => ?_) (fun c1 => ?_)
  · have hf := ite_t c1 hf
    refine lv_iconst (v := 0) hx hb dX0_areCrossed_51 (by decide) ?_
    cases hf
    exact k_zret () hQ9 hx hb hr hlocks (Or.inl rfl) rfl hP hD hS (Nat.le_of_ble_eq_true rfl) (Nat.le_of_ble_eq_true rfl) dX0_areCrossed_52
  · have hf := ite_f c1 hf
    refine lv_aload_n hx hb dX0_areCrossed_7 rfl (lv_at hl 0 rfl) ?_
    refine va_get (D := D) (ci := 0) (v := .int Arms_right) (C := RX0) (T := TX0) (N := 4) hx hb hts inX0 hown hK hP 0 rfl rfl 3 (by decide) fl17 (fun _ h9 => h9) rfl dX0_areCrossed_8 ?_
    refine lv_if_eq (tgt := 51) hx hb dX0_areCrossed_11 (by decide) (fun c2 => ?_) (fun c2 => ?_)
    · have hf := ite_t c2 hf
      refine lv_iconst (v := 0) hx hb dX0_areCrossed_51 (by decide) ?_
      cases hf
      exact k_zret () hQ9 hx hb hr hlocks (Or.inl rfl) rfl hP hD hS (Nat.le_of_ble_eq_true rfl) (Nat.le_of_ble_eq_true rfl) dX0_areCrossed_52
    · have hf := ite_f c2 hf
      refine lv_aload_n hx hb dX0_areCrossed_14 rfl (lv_at hl 0 rfl) ?_
      refine va_get (D := D) (ci := 0) (v := .ref a_Line) (C := RX0) (T := TX0) (N := 4) hx hb hts inX0 hown hK hP 0 rfl rfl 0 (by decide) fl20 (fun _ h9 => h9) rfl dX0_areCrossed_15 ?_
      refine va_get (D := D) (ci := 4) (v := .ref a_Line_drums) (C := RX4) (T := TX4) (N := 7) hx hb hts inX4 hown hK hP 1 rfl rfl 2 (by decide) fl80 (fun _ h9 => h9) rfl dX0_areCrossed_18 ?_
      refine lv_aload_n hx hb dX0_areCrossed_21 rfl (lv_at hl 0 rfl) ?_
      refine va_get (D := D) (ci := 0) (v := .int Arms_right) (C := RX0) (T := TX0) (N := 4) hx hb hts inX0 hown hK hP 0 rfl rfl 3 (by decide) fl17 (fun _ h9 => h9) rfl dX0_areCrossed_22 ?_
      obtain ⟨r3, g4, hf⟩ := b1_s hf
      refine k_Si (rest := [.ref a_Line_drums]) ⟨hx, hb, hml, hown, hts⟩ (c_Line_noteOf l D cI cZ t  s.heap.size Arms_right r3 g4) (va_cwS 1 hts gX0_areCrossed_X4_noteOf rfl rfl rfl (by decide +kernel) ⟨Nat.le_of_ble_eq_true rfl, Nat.le_of_ble_eq_true rfl⟩) hE hP hD hS hA [] [0, 1, 2] rfl rfl rfl rfl rfl rfl hl.1 rfl (Nat.le_of_ble_eq_true rfl) dX0_areCrossed_25 ⟨Nat.le_of_ble_eq_true rfl, Nat.le_of_ble_eq_true rfl⟩ (fun rq uq H locs hrq hP hD hS => ?_)
      refine lv_tpx hrq.symm ?_
      have hP : va_P D vwCl [(a_Arms, .inr (0, [.ref a_Line, .ref a_Rules, .int Arms_left, .int Arms_right])), (a_Line, .inr (4, [.ref a_Line_kinds, .ref a_Line_ticks, .ref a_Line_drums, .ref a_Line_marks, .ref a_Line_strokeTicks, .ref a_Line_strokeHeights, .int Line_count])), (a_Line_drums, .inl (cI, 20, .inl Line_drums))] H := hP
      have hD : va_D A [(a_Arms, .inr (0, [.ref a_Line, .ref a_Rules, .int Arms_left, .int Arms_right])), (a_Line, .inr (4, [.ref a_Line_kinds, .ref a_Line_ticks, .ref a_Line_drums, .ref a_Line_marks, .ref a_Line_strokeTicks, .ref a_Line_strokeHeights, .int Line_count])), (a_Line_drums, .inl (cI, 20, .inl Line_drums))] := hD
      obtain ⟨ix5, x5, ex5, hf⟩ := rd_s hf
      refine va_iald hx hb hK hP 2 0 rfl rfl ix5 dX0_areCrossed_28 ?_
      refine lv_tpx ex5 ?_
      refine lv_aload_n hx hb dX0_areCrossed_29 rfl (lv_at hl 0 rfl) ?_
      refine va_get (D := D) (ci := 0) (v := .ref a_Line) (C := RX0) (T := TX0) (N := 4) hx hb hts inX0 hown hK hP 0 rfl rfl 0 (by decide) fl20 (fun _ h9 => h9) rfl dX0_areCrossed_30 ?_
      refine va_get (D := D) (ci := 4) (v := .ref a_Line_drums) (C := RX4) (T := TX4) (N := 7) hx hb hts inX4 hown hK hP 1 rfl rfl 2 (by decide) fl80 (fun _ h9 => h9) rfl dX0_areCrossed_33 ?_
      refine lv_aload_n hx hb dX0_areCrossed_36 rfl (lv_at hl 0 rfl) ?_
      refine va_get (D := D) (ci := 0) (v := .int Arms_left) (C := RX0) (T := TX0) (N := 4) hx hb hts inX0 hown hK hP 0 rfl rfl 2 (by decide) fl11 (fun _ h9 => h9) rfl dX0_areCrossed_37 ?_
      obtain ⟨r6, g7, hf⟩ := b1_s hf
      refine k_Si (rest := [.ref a_Line_drums, .int x5]) ⟨hx, hb, hml, hown, hts⟩ (c_Line_noteOf l D cI cZ t  H.size Arms_left r6 g7) (va_cwS 1 hts gX0_areCrossed_X4_noteOf rfl rfl rfl (by decide +kernel) ⟨Nat.le_of_ble_eq_true rfl, Nat.le_of_ble_eq_true rfl⟩) hE hP hD hS hA [] [0, 1, 2] rfl rfl rfl rfl rfl rfl hl.1 rfl (Nat.le_of_ble_eq_true rfl) dX0_areCrossed_40 ⟨Nat.le_of_ble_eq_true rfl, Nat.le_of_ble_eq_true rfl⟩ (fun rq uq H locs hrq hP hD hS => ?_)
      refine lv_tpx hrq.symm ?_
      have hP : va_P D vwCl [(a_Arms, .inr (0, [.ref a_Line, .ref a_Rules, .int Arms_left, .int Arms_right])), (a_Line, .inr (4, [.ref a_Line_kinds, .ref a_Line_ticks, .ref a_Line_drums, .ref a_Line_marks, .ref a_Line_strokeTicks, .ref a_Line_strokeHeights, .int Line_count])), (a_Line_drums, .inl (cI, 20, .inl Line_drums))] H := hP
      have hD : va_D A [(a_Arms, .inr (0, [.ref a_Line, .ref a_Rules, .int Arms_left, .int Arms_right])), (a_Line, .inr (4, [.ref a_Line_kinds, .ref a_Line_ticks, .ref a_Line_drums, .ref a_Line_marks, .ref a_Line_strokeTicks, .ref a_Line_strokeHeights, .int Line_count])), (a_Line_drums, .inl (cI, 20, .inl Line_drums))] := hD
      obtain ⟨ix8, x8, ex8, hf⟩ := rd_s hf
      refine va_iald hx hb hK hP 2 0 rfl rfl ix8 dX0_areCrossed_43 ?_
      refine lv_tpx ex8 ?_
      refine lv_icmp_ge (tgt := 51) hx hb dX0_areCrossed_44 (by decide) (fun c9 => ?_) (fun c9 => ?_)
      · have hf := ite_t c9 hf
        refine lv_iconst (v := 0) hx hb dX0_areCrossed_51 (by decide) ?_
        cases hf
        exact k_zret () hQ9 hx hb hr hlocks (Or.inl rfl) rfl hP hD hS (Nat.le_of_ble_eq_true rfl) (Nat.le_of_ble_eq_true rfl) dX0_areCrossed_52
      · have hf := ite_f c9 hf
        refine lv_iconst (v := 1) hx hb dX0_areCrossed_47 (by decide) ?_
        refine lv_goto (tgt := 52) hx hb dX0_areCrossed_48 (by decide) ?_
        cases hf
        exact k_zret () hQ9 hx hb hr hlocks (Or.inr rfl) rfl hP hD hS (Nat.le_of_ble_eq_true rfl) (Nat.le_of_ble_eq_true rfl) dX0_areCrossed_52
abbrev rm_Arms_awkwardness : Room := { frames := 2, cells := 0, slots := 0, locals := 40 }
set_option maxHeartbeats 4000000 in
set_option maxRecDepth 100000 in
theorem c_Arms_awkwardness (l : Launch) (D : va_G) (cI cZ : ClassId) (t : Nat → Nat) (a_Arms a_Line a_Rules a_Line_kinds a_Line_ticks a_Line_drums a_Line_marks a_Line_strokeTicks a_Line_strokeHeights a_Rules_values sz : Nat) (Arms_left Arms_right : Int32) (Line_kinds Line_ticks Line_drums Rules_values : Nat → Int32) (Line_count p1 p2 p3 zr : Int32) (hf : f_Arms_awkwardness Arms_left Arms_right Line_kinds Line_ticks Line_drums Rules_values p1 p2 p3 = some zr) : Met l yX0_awkwardness wsX0_awkwardness rm_Arms_awkwardness (va_Pc [.ref a_Arms, .int p1, .int p2, .int p3] (pcW D cI cZ t [(a_Arms, .inr (0, [.ref a_Line, .ref a_Rules, .int Arms_left, .int Arms_right])), (a_Line, .inr (4, [.ref a_Line_kinds, .ref a_Line_ticks, .ref a_Line_drums, .ref a_Line_marks, .ref a_Line_strokeTicks, .ref a_Line_strokeHeights, .int Line_count])), (a_Line_kinds, .inl (cI, 20, .inl Line_kinds)), (a_Line_ticks, .inl (cI, 20, .inl Line_ticks)), (a_Line_drums, .inl (cI, 20, .inl Line_drums)), (a_Rules, .inr (7, [.ref a_Rules_values])), (a_Rules_values, .inl (cI, 5, .inl Rules_values))] sz)) (va_Qi (fun r (u : Unit) => r = zr) (fun u t' => bW D (va_A [(a_Arms, .inr (0, [.ref a_Line, .ref a_Rules, .int Arms_left, .int Arms_right])), (a_Line, .inr (4, [.ref a_Line_kinds, .ref a_Line_ticks, .ref a_Line_drums, .ref a_Line_marks, .ref a_Line_strokeTicks, .ref a_Line_strokeHeights, .int Line_count])), (a_Line_kinds, .inl (cI, 20, .inl Line_kinds)), (a_Line_ticks, .inl (cI, 20, .inl Line_ticks)), (a_Line_drums, .inl (cI, 20, .inl Line_drums)), (a_Rules, .inr (7, [.ref a_Rules_values])), (a_Rules_values, .inl (cI, 5, .inl Rules_values))] sz) [(a_Arms, .inr (0, [.ref a_Line, .ref a_Rules, .int Arms_left, .int Arms_right])), (a_Line, .inr (4, [.ref a_Line_kinds, .ref a_Line_ticks, .ref a_Line_drums, .ref a_Line_marks, .ref a_Line_strokeTicks, .ref a_Line_strokeHeights, .int Line_count])), (a_Line_kinds, .inl (cI, 20, .inl Line_kinds)), (a_Line_ticks, .inl (cI, 20, .inl Line_ticks)), (a_Line_drums, .inl (cI, 20, .inl Line_drums)), (a_Rules, .inr (7, [.ref a_Rules_values])), (a_Rules_values, .inl (cI, 5, .inl Rules_values))] t') (va_A [(a_Arms, .inr (0, [.ref a_Line, .ref a_Rules, .int Arms_left, .int Arms_right])), (a_Line, .inr (4, [.ref a_Line_kinds, .ref a_Line_ticks, .ref a_Line_drums, .ref a_Line_marks, .ref a_Line_strokeTicks, .ref a_Line_strokeHeights, .int Line_count])), (a_Line_kinds, .inl (cI, 20, .inl Line_kinds)), (a_Line_ticks, .inl (cI, 20, .inl Line_ticks)), (a_Line_drums, .inl (cI, 20, .inl Line_drums)), (a_Rules, .inr (7, [.ref a_Rules_values])), (a_Rules_values, .inl (cI, 5, .inl Rules_values))] sz)) 0 0 (va_A [(a_Arms, .inr (0, [.ref a_Line, .ref a_Rules, .int Arms_left, .int Arms_right])), (a_Line, .inr (4, [.ref a_Line_kinds, .ref a_Line_ticks, .ref a_Line_drums, .ref a_Line_marks, .ref a_Line_strokeTicks, .ref a_Line_strokeHeights, .int Line_count])), (a_Line_kinds, .inl (cI, 20, .inl Line_kinds)), (a_Line_ticks, .inl (cI, 20, .inl Line_ticks)), (a_Line_drums, .inl (cI, 20, .inl Line_drums)), (a_Rules, .inr (7, [.ref a_Rules_values])), (a_Rules_values, .inl (cI, 5, .inl Rules_values))] sz) := by
  refine Met.ofW (cc := cX0_awkwardness) (maxL := 5) (ret := (some .int)) (by decide) rfl ?_
  intro p e s m args below meth c s₁ B hml hv
  obtain ⟨rfl, hsz, hP, hD0, hE⟩ := hv
  have hx := B.exec
  have hb := B.bytes
  have hr := B.returns
  have hts := atoms_spec (ws := wsX0_awkwardness) B.pre
  have hown : s.vm.findClass RX0 = some m.cls := findClass_of_methodNamed B.named
  have hlocks := B.notSynchronized
  subst hsz
  have hD := hD0.self (sz := s.heap.size)
  generalize hAe : va_A [(a_Arms, .inr (0, [.ref a_Line, .ref a_Rules, .int Arms_left, .int Arms_right])), (a_Line, .inr (4, [.ref a_Line_kinds, .ref a_Line_ticks, .ref a_Line_drums, .ref a_Line_marks, .ref a_Line_strokeTicks, .ref a_Line_strokeHeights, .int Line_count])), (a_Line_kinds, .inl (cI, 20, .inl Line_kinds)), (a_Line_ticks, .inl (cI, 20, .inl Line_ticks)), (a_Line_drums, .inl (cI, 20, .inl Line_drums)), (a_Rules, .inr (7, [.ref a_Rules_values])), (a_Rules_values, .inl (cI, 5, .inl Rules_values))] s.heap.size = A at hD hE ⊢
  have hA : ∀ q : Nat, s.heap.size ≤ q → A q := fun q h => by rw [← hAe]; exact Or.inr h
  clear hAe hD0
  have hS : va_S A s.heap s.heap [] := va_S.rf
  have hK := hE.1
  have hl := lv_entry ([.ref a_Arms, .int p1, .int p2, .int p3]) (n := 5) (Nat.le_of_ble_eq_true rfl)
  rw [lg_entry_eq]
  generalize (lg_sl ([.ref a_Arms, .int p1, .int p2, .int p3]) ++ List.replicate (5 - (lg_sl ([.ref a_Arms, .int p1, .int p2, .int p3])).length) Slot.unset).toArray = ls at hl ⊢
  have hl : lv_has ls 5 [(0, .ref a_Arms), (1, .int p1), (2, .int p2), (3, .int p3)] := hl
  refine w_q (fun Q9 hQ9 => ?_)
  have fl20 := hts (.fieldLink RX0 20 "StickRoom$Arms" "line" "LStickRoom$Line;") (by decide +kernel)
  have inX0 : ∀ w ∈ wsX00, w ∈ wsX0_awkwardness := by decide +kernel
  have fl39 := hts (.fieldLink RX0 39 "StickRoom$Line" "ticks" "[I") (by decide +kernel)
  have inX4 : ∀ w ∈ wsX40, w ∈ wsX0_awkwardness := by decide +kernel
  have fl24 := hts (.fieldLink RX0 24 "StickRoom$Arms" "rules" "LStickRoom$Rules;") (by decide +kernel)
  have fl63 := hts (.fieldLink RX0 63 "StickRoom$Rules" "values" "[I") (by decide +kernel)
  have inX7 : ∀ w ∈ wsX70, w ∈ wsX0_awkwardness := by decide +kernel
  have fl90 := hts (.fieldLink RX0 90 "StickRoom$Line" "kinds" "[I") (by decide +kernel)
  have hJ85 : ∀ (l1 l4 : Int32) (H : Heap) (locs : List Loc) (ls : Array Slot), va_P D vwCl [(a_Arms, .inr (0, [.ref a_Line, .ref a_Rules, .int Arms_left, .int Arms_right])), (a_Line, .inr (4, [.ref a_Line_kinds, .ref a_Line_ticks, .ref a_Line_drums, .ref a_Line_marks, .ref a_Line_strokeTicks, .ref a_Line_strokeHeights, .int Line_count])), (a_Line_kinds, .inl (cI, 20, .inl Line_kinds)), (a_Line_ticks, .inl (cI, 20, .inl Line_ticks)), (a_Line_drums, .inl (cI, 20, .inl Line_drums)), (a_Rules, .inr (7, [.ref a_Rules_values])), (a_Rules_values, .inl (cI, 5, .inl Rules_values))] H → va_D A [(a_Arms, .inr (0, [.ref a_Line, .ref a_Rules, .int Arms_left, .int Arms_right])), (a_Line, .inr (4, [.ref a_Line_kinds, .ref a_Line_ticks, .ref a_Line_drums, .ref a_Line_marks, .ref a_Line_strokeTicks, .ref a_Line_strokeHeights, .int Line_count])), (a_Line_kinds, .inl (cI, 20, .inl Line_kinds)), (a_Line_ticks, .inl (cI, 20, .inl Line_ticks)), (a_Line_drums, .inl (cI, 20, .inl Line_drums)), (a_Rules, .inr (7, [.ref a_Rules_values])), (a_Rules_values, .inl (cI, 5, .inl Rules_values))] → va_S A s.heap H locs → lv_has ls 5 [(0, .ref a_Arms), (1, .int l1), (4, .int l4)] → f_Arms_awkwardness_85 Arms_left Arms_right Line_kinds Line_ticks Line_drums Rules_values  l1 l4 = some zr → W p l e (headSpec wsX0_awkwardness rm_Arms_awkwardness).room s m ([.ref a_Arms, .int p1, .int p2, .int p3] : List Value).toArray below meth c H locs 0 0 Q9 (F0 m 85 ls []) := by
    intro l1 l4 H locs ls hP hD hS hl hf
    unfold f_Arms_awkwardness_85 at hf
    refine lv_aload_n hx hb dX0_awkwardness_85 rfl (lv_at hl 0 rfl) ?_
    refine va_get (D := D) (ci := 0) (v := .ref a_Line) (C := RX0) (T := TX0) (N := 4) hx hb hts inX0 hown hK hP 0 rfl rfl 0 (by decide) fl20 (fun _ h9 => h9) rfl dX0_awkwardness_86 ?_
    refine lv_iload_n hx hb dX0_awkwardness_89 rfl (lv_at hl 1 rfl) ?_
    obtain ⟨r1, g2, hf⟩ := b1_s hf
    refine k_Vi (rest := []) ⟨hx, hb, hml, hown, hts⟩ (c_Line_graces l D cI cZ t a_Line a_Line_kinds a_Line_ticks a_Line_drums a_Line_marks a_Line_strokeTicks a_Line_strokeHeights H.size Line_kinds Line_count l1 r1 g2) (cwV 1 hts gX0_awkwardness_X4_graces rfl rfl rfl (by decide +kernel) ⟨Nat.le_of_ble_eq_true rfl, Nat.le_of_ble_eq_true rfl⟩) hE hP hD hS hA [1, 2] [0, 3, 4, 5, 6] rfl rfl rfl rfl rfl 0 4 rfl rfl rfl rfl hl.1 rfl (Nat.le_of_ble_eq_true rfl) dX0_awkwardness_90 ⟨Nat.le_of_ble_eq_true rfl, Nat.le_of_ble_eq_true rfl⟩ (fun rq uq H locs hrq hP hD hS => ?_)
    refine lv_tpx hrq.symm ?_
    have hP : va_P D vwCl [(a_Arms, .inr (0, [.ref a_Line, .ref a_Rules, .int Arms_left, .int Arms_right])), (a_Line_ticks, .inl (cI, 20, .inl Line_ticks)), (a_Line_drums, .inl (cI, 20, .inl Line_drums)), (a_Rules, .inr (7, [.ref a_Rules_values])), (a_Rules_values, .inl (cI, 5, .inl Rules_values)), (a_Line, .inr (4, [.ref a_Line_kinds, .ref a_Line_ticks, .ref a_Line_drums, .ref a_Line_marks, .ref a_Line_strokeTicks, .ref a_Line_strokeHeights, .int Line_count])), (a_Line_kinds, .inl (cI, 20, .inl Line_kinds))] H := hP
    have hD : va_D A [(a_Arms, .inr (0, [.ref a_Line, .ref a_Rules, .int Arms_left, .int Arms_right])), (a_Line_ticks, .inl (cI, 20, .inl Line_ticks)), (a_Line_drums, .inl (cI, 20, .inl Line_drums)), (a_Rules, .inr (7, [.ref a_Rules_values])), (a_Rules_values, .inl (cI, 5, .inl Rules_values)), (a_Line, .inr (4, [.ref a_Line_kinds, .ref a_Line_ticks, .ref a_Line_drums, .ref a_Line_marks, .ref a_Line_strokeTicks, .ref a_Line_strokeHeights, .int Line_count])), (a_Line_kinds, .inl (cI, 20, .inl Line_kinds))] := hD
    refine lv_if_le (tgt := 112) hx hb dX0_awkwardness_93 (by decide) (fun c3 => ?_) (fun c3 => ?_)
    · have hf := ite_t c3 hf
      refine lv_iload hx hb dX0_awkwardness_112 (lv_at hl 2 rfl) ?_
      cases hf
      exact k_iret () hQ9 hx hb hr hlocks rfl (hP.sub [0, 5, 6, 1, 2, 3, 4] rfl) (hD.sub [0, 5, 6, 1, 2, 3, 4] (by decide) rfl) hS (Nat.le_of_ble_eq_true rfl) (Nat.le_of_ble_eq_true rfl) dX0_awkwardness_114
    · have hf := ite_f c3 hf
      refine lv_aload_n hx hb dX0_awkwardness_96 rfl (lv_at hl 0 rfl) ?_
      refine va_get (D := D) (ci := 0) (v := .ref a_Line) (C := RX0) (T := TX0) (N := 4) hx hb hts inX0 hown hK hP 0 rfl rfl 0 (by decide) fl20 (fun _ h9 => h9) rfl dX0_awkwardness_97 ?_
      refine lv_iload_n hx hb dX0_awkwardness_100 rfl (lv_at hl 1 rfl) ?_
      refine lv_iconst (v := 1) hx hb dX0_awkwardness_101 (by decide) ?_
      refine lv_isub hx hb dX0_awkwardness_102 ?_
      obtain ⟨r4, g5, hf⟩ := b1_s hf
      refine k_Vi (rest := []) ⟨hx, hb, hml, hown, hts⟩ (c_Line_graces l D cI cZ t a_Line a_Line_kinds a_Line_ticks a_Line_drums a_Line_marks a_Line_strokeTicks a_Line_strokeHeights H.size Line_kinds Line_count (l1 - 1) r4 g5) (cwV 1 hts gX0_awkwardness_X4_graces rfl rfl rfl (by decide +kernel) ⟨Nat.le_of_ble_eq_true rfl, Nat.le_of_ble_eq_true rfl⟩) hE hP hD hS hA [5, 6] [0, 1, 2, 3, 4] rfl rfl rfl rfl rfl 0 4 rfl rfl rfl rfl hl.1 rfl (Nat.le_of_ble_eq_true rfl) dX0_awkwardness_103 ⟨Nat.le_of_ble_eq_true rfl, Nat.le_of_ble_eq_true rfl⟩ (fun rq uq H locs hrq hP hD hS => ?_)
      refine lv_tpx hrq.symm ?_
      have hP : va_P D vwCl [(a_Arms, .inr (0, [.ref a_Line, .ref a_Rules, .int Arms_left, .int Arms_right])), (a_Line_ticks, .inl (cI, 20, .inl Line_ticks)), (a_Line_drums, .inl (cI, 20, .inl Line_drums)), (a_Rules, .inr (7, [.ref a_Rules_values])), (a_Rules_values, .inl (cI, 5, .inl Rules_values)), (a_Line, .inr (4, [.ref a_Line_kinds, .ref a_Line_ticks, .ref a_Line_drums, .ref a_Line_marks, .ref a_Line_strokeTicks, .ref a_Line_strokeHeights, .int Line_count])), (a_Line_kinds, .inl (cI, 20, .inl Line_kinds))] H := hP
      have hD : va_D A [(a_Arms, .inr (0, [.ref a_Line, .ref a_Rules, .int Arms_left, .int Arms_right])), (a_Line_ticks, .inl (cI, 20, .inl Line_ticks)), (a_Line_drums, .inl (cI, 20, .inl Line_drums)), (a_Rules, .inr (7, [.ref a_Rules_values])), (a_Rules_values, .inl (cI, 5, .inl Rules_values)), (a_Line, .inr (4, [.ref a_Line_kinds, .ref a_Line_ticks, .ref a_Line_drums, .ref a_Line_marks, .ref a_Line_strokeTicks, .ref a_Line_strokeHeights, .int Line_count])), (a_Line_kinds, .inl (cI, 20, .inl Line_kinds))] := hD
      refine lv_if_le (tgt := 112) hx hb dX0_awkwardness_106 (by decide) (fun c6 => ?_) (fun c6 => ?_)
      · have hf := ite_t c6 hf
        refine lv_iload hx hb dX0_awkwardness_112 (lv_at hl 2 rfl) ?_
        cases hf
        exact k_iret () hQ9 hx hb hr hlocks rfl (hP.sub [0, 5, 6, 1, 2, 3, 4] rfl) (hD.sub [0, 5, 6, 1, 2, 3, 4] (by decide) rfl) hS (Nat.le_of_ble_eq_true rfl) (Nat.le_of_ble_eq_true rfl) dX0_awkwardness_114
      · have hf := ite_f c6 hf
        obtain ⟨x7, ex7, hf⟩ := nm_s hf
        refine lv_iinc (v := x7) (lv' := [(4, .int x7), (0, .ref a_Arms), (1, .int l1)]) hx hb dX0_awkwardness_109 hl (k := 2) rfl (by rw [ex7]; rfl) (by decide) rfl (fun ls hl => ?_)
        refine lv_iload hx hb dX0_awkwardness_112 (lv_at hl 0 rfl) ?_
        cases hf
        exact k_iret () hQ9 hx hb hr hlocks rfl (hP.sub [0, 5, 6, 1, 2, 3, 4] rfl) (hD.sub [0, 5, 6, 1, 2, 3, 4] (by decide) rfl) hS (Nat.le_of_ble_eq_true rfl) (Nat.le_of_ble_eq_true rfl) dX0_awkwardness_114
  have hJ34 : ∀ (l1 l2 l3 l4 : Int32) (H : Heap) (locs : List Loc) (ls : Array Slot), va_P D vwCl [(a_Arms, .inr (0, [.ref a_Line, .ref a_Rules, .int Arms_left, .int Arms_right])), (a_Line, .inr (4, [.ref a_Line_kinds, .ref a_Line_ticks, .ref a_Line_drums, .ref a_Line_marks, .ref a_Line_strokeTicks, .ref a_Line_strokeHeights, .int Line_count])), (a_Line_kinds, .inl (cI, 20, .inl Line_kinds)), (a_Line_ticks, .inl (cI, 20, .inl Line_ticks)), (a_Line_drums, .inl (cI, 20, .inl Line_drums)), (a_Rules, .inr (7, [.ref a_Rules_values])), (a_Rules_values, .inl (cI, 5, .inl Rules_values))] H → va_D A [(a_Arms, .inr (0, [.ref a_Line, .ref a_Rules, .int Arms_left, .int Arms_right])), (a_Line, .inr (4, [.ref a_Line_kinds, .ref a_Line_ticks, .ref a_Line_drums, .ref a_Line_marks, .ref a_Line_strokeTicks, .ref a_Line_strokeHeights, .int Line_count])), (a_Line_kinds, .inl (cI, 20, .inl Line_kinds)), (a_Line_ticks, .inl (cI, 20, .inl Line_ticks)), (a_Line_drums, .inl (cI, 20, .inl Line_drums)), (a_Rules, .inr (7, [.ref a_Rules_values])), (a_Rules_values, .inl (cI, 5, .inl Rules_values))] → va_S A s.heap H locs → lv_has ls 5 [(0, .ref a_Arms), (1, .int l1), (2, .int l2), (3, .int l3), (4, .int l4)] → f_Arms_awkwardness_34 Arms_left Arms_right Line_kinds Line_ticks Line_drums Rules_values  l1 l2 l3 l4 = some zr → W p l e (headSpec wsX0_awkwardness rm_Arms_awkwardness).room s m ([.ref a_Arms, .int p1, .int p2, .int p3] : List Value).toArray below meth c H locs 0 0 Q9 (F0 m 34 ls []) := by
    intro l1 l2 l3 l4 H locs ls hP hD hS hl hf
    unfold f_Arms_awkwardness_34 at hf
    refine lv_iload_n hx hb dX0_awkwardness_34 rfl (lv_at hl 1 rfl) ?_
    refine lv_if_eq (tgt := 43) hx hb dX0_awkwardness_35 (by decide) (fun c8 => ?_) (fun c8 => ?_)
    · have hf := ite_t c8 hf
      refine lv_iload hx hb dX0_awkwardness_43 (lv_at hl 4 rfl) ?_
      cases hf
      exact k_iret () hQ9 hx hb hr hlocks rfl hP hD hS (Nat.le_of_ble_eq_true rfl) (Nat.le_of_ble_eq_true rfl) dX0_awkwardness_45
    · have hf := ite_f c8 hf
      refine lv_iload_n hx hb dX0_awkwardness_38 rfl (lv_at hl 2 rfl) ?_
      refine lv_iload_n hx hb dX0_awkwardness_39 rfl (lv_at hl 3 rfl) ?_
      refine lv_icmp_eq (tgt := 46) hx hb dX0_awkwardness_40 (by decide) (fun c9 => ?_) (fun c9 => ?_)
      · have hf := ite_t c9 hf
        obtain ⟨x10, ex10, hf⟩ := nm_s hf
        refine lv_iinc (v := x10) (lv' := [(4, .int x10), (0, .ref a_Arms), (1, .int l1), (2, .int l2), (3, .int l3)]) hx hb dX0_awkwardness_46 hl (k := 4) rfl (by rw [ex10]; rfl) (by decide) rfl (fun ls hl => ?_)
        refine lv_aload_n hx hb dX0_awkwardness_49 rfl (lv_at hl 1 rfl) ?_
        refine va_get (D := D) (ci := 0) (v := .ref a_Line) (C := RX0) (T := TX0) (N := 4) hx hb hts inX0 hown hK hP 0 rfl rfl 0 (by decide) fl20 (fun _ h9 => h9) rfl dX0_awkwardness_50 ?_
        refine va_get (D := D) (ci := 4) (v := .ref a_Line_ticks) (C := RX4) (T := TX4) (N := 7) hx hb hts inX4 hown hK hP 1 rfl rfl 1 (by decide) fl39 (fun _ h9 => h9) rfl dX0_awkwardness_53 ?_
        refine lv_iload_n hx hb dX0_awkwardness_56 rfl (lv_at hl 2 rfl) ?_
        obtain ⟨ix11, x11, ex11, hf⟩ := rd_s hf
        refine va_iald hx hb hK hP 3 0 rfl rfl ix11 dX0_awkwardness_57 ?_
        refine lv_tpx ex11 ?_
        refine lv_aload_n hx hb dX0_awkwardness_58 rfl (lv_at hl 1 rfl) ?_
        refine va_get (D := D) (ci := 0) (v := .ref a_Line) (C := RX0) (T := TX0) (N := 4) hx hb hts inX0 hown hK hP 0 rfl rfl 0 (by decide) fl20 (fun _ h9 => h9) rfl dX0_awkwardness_59 ?_
        refine va_get (D := D) (ci := 4) (v := .ref a_Line_ticks) (C := RX4) (T := TX4) (N := 7) hx hb hts inX4 hown hK hP 1 rfl rfl 1 (by decide) fl39 (fun _ h9 => h9) rfl dX0_awkwardness_62 ?_
        refine lv_iload_n hx hb dX0_awkwardness_65 rfl (lv_at hl 2 rfl) ?_
        refine lv_iconst (v := 1) hx hb dX0_awkwardness_66 (by decide) ?_
        refine lv_isub hx hb dX0_awkwardness_67 ?_
        obtain ⟨ix12, x12, ex12, hf⟩ := rd_s hf
        refine va_iald hx hb hK hP 3 0 rfl rfl ix12 dX0_awkwardness_68 ?_
        refine lv_tpx ex12 ?_
        refine lv_isub hx hb dX0_awkwardness_69 ?_
        refine lv_aload_n hx hb dX0_awkwardness_70 rfl (lv_at hl 1 rfl) ?_
        refine va_get (D := D) (ci := 0) (v := .ref a_Rules) (C := RX0) (T := TX0) (N := 4) hx hb hts inX0 hown hK hP 0 rfl rfl 1 (by decide) fl24 (fun _ h9 => h9) rfl dX0_awkwardness_71 ?_
        refine va_get (D := D) (ci := 7) (v := .ref a_Rules_values) (C := RX7) (T := TX7) (N := 1) hx hb hts inX7 hown hK hP 5 rfl rfl 0 (by decide) fl63 (fun _ h9 => h9) rfl dX0_awkwardness_74 ?_
        refine lv_iconst (v := 3) hx hb dX0_awkwardness_77 (by decide) ?_
        obtain ⟨ix13, x13, ex13, hf⟩ := rd_s hf
        refine va_iald hx hb hK hP 6 0 rfl rfl ix13 dX0_awkwardness_78 ?_
        refine lv_tpx ex13 ?_
        refine lv_icmp_ge (tgt := 85) hx hb dX0_awkwardness_79 (by decide) (fun c14 => ?_) (fun c14 => ?_)
        · have hf := ite_t c14 hf
          exact hJ85 l1 x10 H locs ls hP hD hS (lv_sub hl [1, 2, 0] rfl) hf
        · have hf := ite_f c14 hf
          obtain ⟨x15, ex15, hf⟩ := nm_s hf
          refine lv_iinc (v := x15) (lv' := [(4, .int x15), (0, .ref a_Arms), (1, .int l1), (2, .int l2), (3, .int l3)]) hx hb dX0_awkwardness_82 hl (k := 0) rfl (by rw [ex15]; rfl) (by decide) rfl (fun ls hl => ?_)
          exact hJ85 l1 x15 H locs ls hP hD hS (lv_sub hl [1, 2, 0] rfl) hf
      · have hf := ite_f c9 hf
        refine lv_iload hx hb dX0_awkwardness_43 (lv_at hl 4 rfl) ?_
        cases hf
        exact k_iret () hQ9 hx hb hr hlocks rfl hP hD hS (Nat.le_of_ble_eq_true rfl) (Nat.le_of_ble_eq_true rfl) dX0_awkwardness_45
  have hJ12 : ∀ (l1 l2 l3 k0 : Int32) (H : Heap) (locs : List Loc) (ls : Array Slot), va_P D vwCl [(a_Arms, .inr (0, [.ref a_Line, .ref a_Rules, .int Arms_left, .int Arms_right])), (a_Line, .inr (4, [.ref a_Line_kinds, .ref a_Line_ticks, .ref a_Line_drums, .ref a_Line_marks, .ref a_Line_strokeTicks, .ref a_Line_strokeHeights, .int Line_count])), (a_Line_kinds, .inl (cI, 20, .inl Line_kinds)), (a_Line_ticks, .inl (cI, 20, .inl Line_ticks)), (a_Line_drums, .inl (cI, 20, .inl Line_drums)), (a_Rules, .inr (7, [.ref a_Rules_values])), (a_Rules_values, .inl (cI, 5, .inl Rules_values))] H → va_D A [(a_Arms, .inr (0, [.ref a_Line, .ref a_Rules, .int Arms_left, .int Arms_right])), (a_Line, .inr (4, [.ref a_Line_kinds, .ref a_Line_ticks, .ref a_Line_drums, .ref a_Line_marks, .ref a_Line_strokeTicks, .ref a_Line_strokeHeights, .int Line_count])), (a_Line_kinds, .inl (cI, 20, .inl Line_kinds)), (a_Line_ticks, .inl (cI, 20, .inl Line_ticks)), (a_Line_drums, .inl (cI, 20, .inl Line_drums)), (a_Rules, .inr (7, [.ref a_Rules_values])), (a_Rules_values, .inl (cI, 5, .inl Rules_values))] → va_S A s.heap H locs → lv_has ls 5 [(0, .ref a_Arms), (1, .int l1), (2, .int l2), (3, .int l3)] → f_Arms_awkwardness_12 Arms_left Arms_right Line_kinds Line_ticks Line_drums Rules_values  l1 l2 l3 k0 = some zr → W p l e (headSpec wsX0_awkwardness rm_Arms_awkwardness).room s m ([.ref a_Arms, .int p1, .int p2, .int p3] : List Value).toArray below meth c H locs 0 0 Q9 (F0 m 12 ls [.int k0]) := by
    intro l1 l2 l3 k0 H locs ls hP hD hS hl hf
    unfold f_Arms_awkwardness_12 at hf
    refine lv_istore (lv' := [(4, .int k0), (0, .ref a_Arms), (1, .int l1), (2, .int l2), (3, .int l3)]) hx hb dX0_awkwardness_12 hl (by decide) rfl (fun ls hl => ?_)
    refine lv_aload_n hx hb dX0_awkwardness_14 rfl (lv_at hl 1 rfl) ?_
    refine va_get (D := D) (ci := 0) (v := .ref a_Line) (C := RX0) (T := TX0) (N := 4) hx hb hts inX0 hown hK hP 0 rfl rfl 0 (by decide) fl20 (fun _ h9 => h9) rfl dX0_awkwardness_15 ?_
    refine va_get (D := D) (ci := 4) (v := .ref a_Line_kinds) (C := RX4) (T := TX4) (N := 7) hx hb hts inX4 hown hK hP 1 rfl rfl 0 (by decide) fl90 (fun _ h9 => h9) rfl dX0_awkwardness_18 ?_
    refine lv_iload_n hx hb dX0_awkwardness_21 rfl (lv_at hl 2 rfl) ?_
    obtain ⟨ix16, x16, ex16, hf⟩ := rd_s hf
    refine va_iald hx hb hK hP 2 0 rfl rfl ix16 dX0_awkwardness_22 ?_
    refine lv_tpx ex16 ?_
    refine lv_iconst (v := 1) hx hb dX0_awkwardness_23 (by decide) ?_
    refine lv_icmp_ne (tgt := 34) hx hb dX0_awkwardness_24 (by decide) (fun c17 => ?_) (fun c17 => ?_)
    · have hf := ite_f c17 hf
      exact hJ34 l1 l2 l3 k0 H locs ls hP hD hS (lv_sub hl [1, 2, 3, 4, 0] rfl) hf
    · have hf := ite_t c17 hf
      refine lv_iload_n hx hb dX0_awkwardness_27 rfl (lv_at hl 3 rfl) ?_
      refine lv_if_ne (tgt := 34) hx hb dX0_awkwardness_28 (by decide) (fun c18 => ?_) (fun c18 => ?_)
      · have hf := ite_f c18 hf
        exact hJ34 l1 l2 l3 k0 H locs ls hP hD hS (lv_sub hl [1, 2, 3, 4, 0] rfl) hf
      · have hf := ite_t c18 hf
        obtain ⟨x19, ex19, hf⟩ := nm_s hf
        refine lv_iinc (v := x19) (lv' := [(4, .int x19), (0, .ref a_Arms), (1, .int l1), (2, .int l2), (3, .int l3)]) hx hb dX0_awkwardness_31 hl (k := 0) rfl (by rw [ex19]; rfl) (by decide) rfl (fun ls hl => ?_)
        exact hJ34 l1 l2 l3 x19 H locs ls hP hD hS (lv_sub hl [1, 2, 3, 4, 0] rfl) hf
  unfold f_Arms_awkwardness at hf
  refine lv_aload_n hx hb dX0_awkwardness_0 rfl (lv_at hl 0 rfl) ?_
  obtain ⟨r20, g21, hf⟩ := b1_s hf
  refine k_Vi (rest := []) ⟨hx, hb, hml, hown, hts⟩ (c_Arms_areCrossed l D cI cZ t a_Arms a_Line a_Rules a_Line_kinds a_Line_ticks a_Line_drums a_Line_marks a_Line_strokeTicks a_Line_strokeHeights s.heap.size Arms_left Arms_right Line_drums Line_count r20 g21) (cwV 0 hts gX0_awkwardness_X0_areCrossed rfl rfl rfl (by decide +kernel) ⟨Nat.le_of_ble_eq_true rfl, Nat.le_of_ble_eq_true rfl⟩) hE hP hD hS hA [0, 1, 4] [2, 3, 5, 6] rfl rfl rfl rfl rfl 0 0 rfl rfl rfl rfl hl.1 rfl (Nat.le_of_ble_eq_true rfl) dX0_awkwardness_1 ⟨Nat.le_of_ble_eq_true rfl, Nat.le_of_ble_eq_true rfl⟩ (fun rq uq H locs hrq hP hD hS => ?_)
  refine lv_tpx hrq.symm ?_
  have hP : va_P D vwCl [(a_Line_kinds, .inl (cI, 20, .inl Line_kinds)), (a_Line_ticks, .inl (cI, 20, .inl Line_ticks)), (a_Rules, .inr (7, [.ref a_Rules_values])), (a_Rules_values, .inl (cI, 5, .inl Rules_values)), (a_Arms, .inr (0, [.ref a_Line, .ref a_Rules, .int Arms_left, .int Arms_right])), (a_Line, .inr (4, [.ref a_Line_kinds, .ref a_Line_ticks, .ref a_Line_drums, .ref a_Line_marks, .ref a_Line_strokeTicks, .ref a_Line_strokeHeights, .int Line_count])), (a_Line_drums, .inl (cI, 20, .inl Line_drums))] H := hP
  have hD : va_D A [(a_Line_kinds, .inl (cI, 20, .inl Line_kinds)), (a_Line_ticks, .inl (cI, 20, .inl Line_ticks)), (a_Rules, .inr (7, [.ref a_Rules_values])), (a_Rules_values, .inl (cI, 5, .inl Rules_values)), (a_Arms, .inr (0, [.ref a_Line, .ref a_Rules, .int Arms_left, .int Arms_right])), (a_Line, .inr (4, [.ref a_Line_kinds, .ref a_Line_ticks, .ref a_Line_drums, .ref a_Line_marks, .ref a_Line_strokeTicks, .ref a_Line_strokeHeights, .int Line_count])), (a_Line_drums, .inl (cI, 20, .inl Line_drums))] := hD
  refine lv_if_eq (tgt := 11) hx hb dX0_awkwardness_4 (by decide) (fun c22 => ?_) (fun c22 => ?_)
  · have hf := ite_t c22 hf
    refine lv_iconst (v := 0) hx hb dX0_awkwardness_11 (by decide) ?_
    exact hJ12 p1 p2 p3 0 H locs ls (hP.sub [4, 5, 0, 1, 6, 2, 3] rfl) (hD.sub [4, 5, 0, 1, 6, 2, 3] (by decide) rfl) hS (lv_sub hl [0, 1, 2, 3] rfl) hf
  · have hf := ite_f c22 hf
    refine lv_iconst (v := 2) hx hb dX0_awkwardness_7 (by decide) ?_
    refine lv_goto (tgt := 12) hx hb dX0_awkwardness_8 (by decide) ?_
    exact hJ12 p1 p2 p3 2 H locs ls (hP.sub [4, 5, 0, 1, 6, 2, 3] rfl) (hD.sub [4, 5, 0, 1, 6, 2, 3] (by decide) rfl) hS (lv_sub hl [0, 1, 2, 3] rfl) hf
