abbrev rm_End_keyOf : Room := { frames := 0, cells := 0, slots := 0, locals := 0 }
set_option maxHeartbeats 4000000 in
set_option maxRecDepth 100000 in
theorem c_End_keyOf (l : Launch) (D : va_G) (cI cZ : ClassId) (t : Nat → Nat) (sz : Nat) (p0 p1 p2 zr : Int32) (hf : f_End_keyOf p0 p1 p2 = some zr) : Met l yX2_keyOf wsX2_keyOf rm_End_keyOf (va_Pc [.int p0, .int p1, .int p2] (pcW D cI cZ t [] sz)) (va_Qi (fun r (u : Unit) => r = zr) (fun u t' => bW D (va_A [] sz) [] t') (va_A [] sz)) 0 0 (va_A [] sz) := by
  refine Met.ofW (cc := cX2_keyOf) (maxL := 3) (ret := (some .int)) (by decide) rfl ?_
  intro p e s m args below meth c s₁ B hml hv
  obtain ⟨rfl, hsz, hP, hD0, hE⟩ := hv
  have hx := B.exec
  have hb := B.bytes
  have hr := B.returns
  have hts := atoms_spec (ws := wsX2_keyOf) B.pre
  have hown : s.vm.findClass RX2 = some m.cls := findClass_of_methodNamed B.named
  have hlocks := B.notSynchronized
  subst hsz
  have hD := hD0.self (sz := s.heap.size)
  generalize hAe : va_A [] s.heap.size = A at hD hE ⊢
  have hA : ∀ q : Nat, s.heap.size ≤ q → A q := fun q h => by rw [← hAe]; exact Or.inr h
  clear hAe hD0
  have hS : va_S A s.heap s.heap [] := va_S.rf
  have hK := hE.1
  have hl := lv_entry ([.int p0, .int p1, .int p2]) (n := 3) (Nat.le_of_ble_eq_true rfl)
  rw [lg_entry_eq]
  generalize (lg_sl ([.int p0, .int p1, .int p2]) ++ List.replicate (3 - (lg_sl ([.int p0, .int p1, .int p2])).length) Slot.unset).toArray = ls at hl ⊢
  have hl : lv_has ls 3 [(0, .int p0), (1, .int p1), (2, .int p2)] := hl
  refine w_q (fun Q9 hQ9 => ?_)
  unfold f_End_keyOf at hf
  refine lv_iload_n hx hb dX2_keyOf_0 rfl (lv_at hl 0 rfl) ?_
  refine lv_bipush (v := 41) hx hb dX2_keyOf_1 (by decide) ?_
  refine lv_imul hx hb dX2_keyOf_3 ?_
  refine lv_iload_n hx hb dX2_keyOf_4 rfl (lv_at hl 1 rfl) ?_
  refine lv_iadd hx hb dX2_keyOf_5 ?_
  refine lv_iconst (v := 5) hx hb dX2_keyOf_6 (by decide) ?_
  refine lv_imul hx hb dX2_keyOf_7 ?_
  refine lv_iload_n hx hb dX2_keyOf_8 rfl (lv_at hl 2 rfl) ?_
  refine lv_iadd hx hb dX2_keyOf_9 ?_
  cases hf
  exact k_iret () hQ9 hx hb hr hlocks rfl hP hD hS (Nat.le_of_ble_eq_true rfl) (Nat.le_of_ble_eq_true rfl) dX2_keyOf_10
abbrev rm_End_handOf : Room := { frames := 0, cells := 0, slots := 0, locals := 0 }
set_option maxHeartbeats 4000000 in
set_option maxRecDepth 100000 in
theorem c_End_handOf (l : Launch) (D : va_G) (cI cZ : ClassId) (t : Nat → Nat) (sz : Nat) (p0 zr : Int32) (hf : f_End_handOf p0 = some zr) : Met l yX2_handOf wsX2_handOf rm_End_handOf (va_Pc [.int p0] (pcW D cI cZ t [] sz)) (va_Qi (fun r (u : Unit) => r = zr) (fun u t' => bW D (va_A [] sz) [] t') (va_A [] sz)) 0 0 (va_A [] sz) := by
  refine Met.ofW (cc := cX2_handOf) (maxL := 1) (ret := (some .int)) (by decide) rfl ?_
  intro p e s m args below meth c s₁ B hml hv
  obtain ⟨rfl, hsz, hP, hD0, hE⟩ := hv
  have hx := B.exec
  have hb := B.bytes
  have hr := B.returns
  have hts := atoms_spec (ws := wsX2_handOf) B.pre
  have hown : s.vm.findClass RX2 = some m.cls := findClass_of_methodNamed B.named
  have hlocks := B.notSynchronized
  subst hsz
  have hD := hD0.self (sz := s.heap.size)
  generalize hAe : va_A [] s.heap.size = A at hD hE ⊢
  have hA : ∀ q : Nat, s.heap.size ≤ q → A q := fun q h => by rw [← hAe]; exact Or.inr h
  clear hAe hD0
  have hS : va_S A s.heap s.heap [] := va_S.rf
  have hK := hE.1
  have hl := lv_entry ([.int p0]) (n := 1) (Nat.le_of_ble_eq_true rfl)
  rw [lg_entry_eq]
  generalize (lg_sl ([.int p0]) ++ List.replicate (1 - (lg_sl ([.int p0])).length) Slot.unset).toArray = ls at hl ⊢
  have hl : lv_has ls 1 [(0, .int p0)] := hl
  refine w_q (fun Q9 hQ9 => ?_)
  unfold f_End_handOf at hf
  refine lv_iload_n hx hb dX2_handOf_0 rfl (lv_at hl 0 rfl) ?_
  refine lv_iconst (v := 5) hx hb dX2_handOf_1 (by decide) ?_
  refine lv_idiv hx hb dX2_handOf_2 (by decide) ?_
  obtain ⟨x1, ex1, hf⟩ := nm_s hf
  refine lv_tpx ex1 ?_
  refine lv_bipush (v := 41) hx hb dX2_handOf_3 (by decide) ?_
  refine lv_idiv hx hb dX2_handOf_5 (by decide) ?_
  obtain ⟨x2, ex2, hf⟩ := nm_s hf
  refine lv_tpx ex2 ?_
  cases hf
  exact k_iret () hQ9 hx hb hr hlocks rfl hP hD hS (Nat.le_of_ble_eq_true rfl) (Nat.le_of_ble_eq_true rfl) dX2_handOf_6
abbrev rm_End_otherStrokeOf : Room := { frames := 0, cells := 0, slots := 0, locals := 0 }
set_option maxHeartbeats 4000000 in
set_option maxRecDepth 100000 in
theorem c_End_otherStrokeOf (l : Launch) (D : va_G) (cI cZ : ClassId) (t : Nat → Nat) (sz : Nat) (p0 zr : Int32) (hf : f_End_otherStrokeOf p0 = some zr) : Met l yX2_otherStrokeOf wsX2_otherStrokeOf rm_End_otherStrokeOf (va_Pc [.int p0] (pcW D cI cZ t [] sz)) (va_Qi (fun r (u : Unit) => r = zr) (fun u t' => bW D (va_A [] sz) [] t') (va_A [] sz)) 0 0 (va_A [] sz) := by
  refine Met.ofW (cc := cX2_otherStrokeOf) (maxL := 1) (ret := (some .int)) (by decide) rfl ?_
  intro p e s m args below meth c s₁ B hml hv
  obtain ⟨rfl, hsz, hP, hD0, hE⟩ := hv
  have hx := B.exec
  have hb := B.bytes
  have hr := B.returns
  have hts := atoms_spec (ws := wsX2_otherStrokeOf) B.pre
  have hown : s.vm.findClass RX2 = some m.cls := findClass_of_methodNamed B.named
  have hlocks := B.notSynchronized
  subst hsz
  have hD := hD0.self (sz := s.heap.size)
  generalize hAe : va_A [] s.heap.size = A at hD hE ⊢
  have hA : ∀ q : Nat, s.heap.size ≤ q → A q := fun q h => by rw [← hAe]; exact Or.inr h
  clear hAe hD0
  have hS : va_S A s.heap s.heap [] := va_S.rf
  have hK := hE.1
  have hl := lv_entry ([.int p0]) (n := 1) (Nat.le_of_ble_eq_true rfl)
  rw [lg_entry_eq]
  generalize (lg_sl ([.int p0]) ++ List.replicate (1 - (lg_sl ([.int p0])).length) Slot.unset).toArray = ls at hl ⊢
  have hl : lv_has ls 1 [(0, .int p0)] := hl
  refine w_q (fun Q9 hQ9 => ?_)
  unfold f_End_otherStrokeOf at hf
  refine lv_iload_n hx hb dX2_otherStrokeOf_0 rfl (lv_at hl 0 rfl) ?_
  refine lv_iconst (v := 5) hx hb dX2_otherStrokeOf_1 (by decide) ?_
  refine lv_idiv hx hb dX2_otherStrokeOf_2 (by decide) ?_
  obtain ⟨x1, ex1, hf⟩ := nm_s hf
  refine lv_tpx ex1 ?_
  refine lv_bipush (v := 41) hx hb dX2_otherStrokeOf_3 (by decide) ?_
  refine lv_irem hx hb dX2_otherStrokeOf_5 (by decide) ?_
  obtain ⟨x2, ex2, hf⟩ := nm_s hf
  refine lv_tpx ex2 ?_
  cases hf
  exact k_iret () hQ9 hx hb hr hlocks rfl hP hD hS (Nat.le_of_ble_eq_true rfl) (Nat.le_of_ble_eq_true rfl) dX2_otherStrokeOf_6
abbrev rm_End_crossesOf : Room := { frames := 0, cells := 0, slots := 0, locals := 0 }
set_option maxHeartbeats 4000000 in
set_option maxRecDepth 100000 in
theorem c_End_crossesOf (l : Launch) (D : va_G) (cI cZ : ClassId) (t : Nat → Nat) (sz : Nat) (p0 zr : Int32) (hf : f_End_crossesOf p0 = some zr) : Met l yX2_crossesOf wsX2_crossesOf rm_End_crossesOf (va_Pc [.int p0] (pcW D cI cZ t [] sz)) (va_Qi (fun r (u : Unit) => r = zr) (fun u t' => bW D (va_A [] sz) [] t') (va_A [] sz)) 0 0 (va_A [] sz) := by
  refine Met.ofW (cc := cX2_crossesOf) (maxL := 1) (ret := (some .int)) (by decide) rfl ?_
  intro p e s m args below meth c s₁ B hml hv
  obtain ⟨rfl, hsz, hP, hD0, hE⟩ := hv
  have hx := B.exec
  have hb := B.bytes
  have hr := B.returns
  have hts := atoms_spec (ws := wsX2_crossesOf) B.pre
  have hown : s.vm.findClass RX2 = some m.cls := findClass_of_methodNamed B.named
  have hlocks := B.notSynchronized
  subst hsz
  have hD := hD0.self (sz := s.heap.size)
  generalize hAe : va_A [] s.heap.size = A at hD hE ⊢
  have hA : ∀ q : Nat, s.heap.size ≤ q → A q := fun q h => by rw [← hAe]; exact Or.inr h
  clear hAe hD0
  have hS : va_S A s.heap s.heap [] := va_S.rf
  have hK := hE.1
  have hl := lv_entry ([.int p0]) (n := 1) (Nat.le_of_ble_eq_true rfl)
  rw [lg_entry_eq]
  generalize (lg_sl ([.int p0]) ++ List.replicate (1 - (lg_sl ([.int p0])).length) Slot.unset).toArray = ls at hl ⊢
  have hl : lv_has ls 1 [(0, .int p0)] := hl
  refine w_q (fun Q9 hQ9 => ?_)
  unfold f_End_crossesOf at hf
  refine lv_iload_n hx hb dX2_crossesOf_0 rfl (lv_at hl 0 rfl) ?_
  refine lv_iconst (v := 5) hx hb dX2_crossesOf_1 (by decide) ?_
  refine lv_irem hx hb dX2_crossesOf_2 (by decide) ?_
  obtain ⟨x1, ex1, hf⟩ := nm_s hf
  refine lv_tpx ex1 ?_
  cases hf
  exact k_iret () hQ9 hx hb hr hlocks rfl hP hD hS (Nat.le_of_ble_eq_true rfl) (Nat.le_of_ble_eq_true rfl) dX2_crossesOf_3
abbrev rm_End_clear : Room := { frames := 0, cells := 0, slots := 0, locals := 0 }
set_option maxHeartbeats 4000000 in
set_option maxRecDepth 100000 in
theorem c_End_clear (l : Launch) (D : va_G) (cI cZ : ClassId) (t : Nat → Nat) (a_End a_End_keys a_End_prices a_End_firsts a_End_wayCounts sz : Nat) (End_keys End_wayCounts : Nat → Int32) (End_size : Int32) (z_End_wayCounts : Nat → Int32) (z_End_size : Int32) (hf : f_End_clear End_keys End_wayCounts End_size = some (z_End_wayCounts, z_End_size)) : Met l yX2_clear wsX2_clear rm_End_clear (va_Pc [.ref a_End] (pcW D cI cZ t [(a_End, .inr (2, [.ref a_End_keys, .ref a_End_prices, .ref a_End_firsts, .ref a_End_wayCounts, .int End_size])), (a_End_keys, .inl (cI, 410, .inl End_keys)), (a_End_wayCounts, .inl (cI, 410, .inl End_wayCounts))] sz)) (va_Qv (fun u : Unit => u = u) (fun u t' => bW D (va_A [(a_End, .inr (2, [.ref a_End_keys, .ref a_End_prices, .ref a_End_firsts, .ref a_End_wayCounts, .int End_size])), (a_End_keys, .inl (cI, 410, .inl End_keys)), (a_End_wayCounts, .inl (cI, 410, .inl End_wayCounts))] sz) [(a_End, .inr (2, [.ref a_End_keys, .ref a_End_prices, .ref a_End_firsts, .ref a_End_wayCounts, .int z_End_size])), (a_End_keys, .inl (cI, 410, .inl End_keys)), (a_End_wayCounts, .inl (cI, 410, .inl z_End_wayCounts))] t') (va_A [(a_End, .inr (2, [.ref a_End_keys, .ref a_End_prices, .ref a_End_firsts, .ref a_End_wayCounts, .int End_size])), (a_End_keys, .inl (cI, 410, .inl End_keys)), (a_End_wayCounts, .inl (cI, 410, .inl End_wayCounts))] sz)) 0 0 (va_A [(a_End, .inr (2, [.ref a_End_keys, .ref a_End_prices, .ref a_End_firsts, .ref a_End_wayCounts, .int End_size])), (a_End_keys, .inl (cI, 410, .inl End_keys)), (a_End_wayCounts, .inl (cI, 410, .inl End_wayCounts))] sz) := by
  refine Met.ofW (cc := cX2_clear) (maxL := 2) (ret := none) (by decide) rfl ?_
  intro p e s m args below meth c s₁ B hml hv
  obtain ⟨rfl, hsz, hP, hD0, hE⟩ := hv
  have hx := B.exec
  have hb := B.bytes
  have hr := B.returns
  have hts := atoms_spec (ws := wsX2_clear) B.pre
  have hown : s.vm.findClass RX2 = some m.cls := findClass_of_methodNamed B.named
  have hlocks := B.notSynchronized
  subst hsz
  have hD := hD0.self (sz := s.heap.size)
  generalize hAe : va_A [(a_End, .inr (2, [.ref a_End_keys, .ref a_End_prices, .ref a_End_firsts, .ref a_End_wayCounts, .int End_size])), (a_End_keys, .inl (cI, 410, .inl End_keys)), (a_End_wayCounts, .inl (cI, 410, .inl End_wayCounts))] s.heap.size = A at hD hE ⊢
  have hA : ∀ q : Nat, s.heap.size ≤ q → A q := fun q h => by rw [← hAe]; exact Or.inr h
  clear hAe hD0
  have hS : va_S A s.heap s.heap [] := va_S.rf
  have hK := hE.1
  have hl := lv_entry ([.ref a_End]) (n := 2) (Nat.le_of_ble_eq_true rfl)
  rw [lg_entry_eq]
  generalize (lg_sl ([.ref a_End]) ++ List.replicate (2 - (lg_sl ([.ref a_End])).length) Slot.unset).toArray = ls at hl ⊢
  have hl : lv_has ls 2 [(0, .ref a_End)] := hl
  refine w_q (fun Q9 hQ9 => ?_)
  have fl26 := hts (.fieldLink RX2 26 "StickRoom$Ends" "size" "I") (by decide +kernel)
  have inX2 : ∀ w ∈ wsX20, w ∈ wsX2_clear := by decide +kernel
  have fl23 := hts (.fieldLink RX2 23 "StickRoom$Ends" "wayCounts" "[I") (by decide +kernel)
  have fl13 := hts (.fieldLink RX2 13 "StickRoom$Ends" "keys" "[I") (by decide +kernel)
  have hL2 : ∀ (n2 : Nat) (l1 : Int32) (End_wayCounts : Nat → Int32) (End_size : Int32) (H : Heap) (locs : List Loc) (ls : Array Slot), va_P D vwCl [(a_End, .inr (2, [.ref a_End_keys, .ref a_End_prices, .ref a_End_firsts, .ref a_End_wayCounts, .int End_size])), (a_End_keys, .inl (cI, 410, .inl End_keys)), (a_End_wayCounts, .inl (cI, 410, .inl End_wayCounts))] H → va_D A [(a_End, .inr (2, [.ref a_End_keys, .ref a_End_prices, .ref a_End_firsts, .ref a_End_wayCounts, .int End_size])), (a_End_keys, .inl (cI, 410, .inl End_keys)), (a_End_wayCounts, .inl (cI, 410, .inl End_wayCounts))] → va_S A s.heap H locs → lv_has ls 2 [(0, .ref a_End), (1, .int l1)] → f_End_clear_2 End_keys  n2 l1 End_wayCounts End_size = some (z_End_wayCounts, z_End_size) → W p l e (headSpec wsX2_clear rm_End_clear).room s m ([.ref a_End] : List Value).toArray below meth c H locs 0 0 Q9 (F0 m 2 ls []) := by
    intro n2
    induction n2 with
    | zero => intro l1 End_wayCounts End_size H locs ls hP hD hS hl hf; exact nomatch (show none = some (z_End_wayCounts, z_End_size) from hf)
    | succ n2 ih2 =>
      intro l1 End_wayCounts End_size H locs ls hP hD hS hl hf
      have hf : f_End_clear_2_b End_keys  (f_End_clear_2 End_keys  n2) l1 End_wayCounts End_size = some (z_End_wayCounts, z_End_size) := hf
      unfold f_End_clear_2_b at hf
      refine lv_iload_n hx hb dX2_clear_2 rfl (lv_at hl 1 rfl) ?_
      refine lv_aload_n hx hb dX2_clear_3 rfl (lv_at hl 0 rfl) ?_
      refine va_get (D := D) (ci := 2) (v := .int End_size) (C := RX2) (T := TX2) (N := 5) hx hb hts inX2 hown hK hP 0 rfl rfl 4 (by decide) fl26 (fun _ h9 => h9) rfl dX2_clear_4 ?_
      refine lv_icmp_ge (tgt := 28) hx hb dX2_clear_7 (by decide) (fun c1 => ?_) (fun c1 => ?_)
      · have hf := ite_t c1 hf
        refine lv_aload_n hx hb dX2_clear_28 rfl (lv_at hl 0 rfl) ?_
        refine lv_iconst (v := 0) hx hb dX2_clear_29 (by decide) ?_
        refine va_put (D := D) (ci := 2) (v := .int 0) (ty := .int) (C := RX2) (T := TX2) (N := 5) hx hb hts inX2 tyX2 tyX2_ok nmX2 hown hK hP hD hS 0 rfl rfl 4 (by decide) fl26 (fun _ h9 => h9) rfl (by decide +kernel) rfl rfl (Nat.le_of_ble_eq_true rfl) dX2_clear_30 (fun H locs hP hD hS => ?_)
        have hP : va_P D vwCl [(a_End, .inr (2, [.ref a_End_keys, .ref a_End_prices, .ref a_End_firsts, .ref a_End_wayCounts, .int 0])), (a_End_keys, .inl (cI, 410, .inl End_keys)), (a_End_wayCounts, .inl (cI, 410, .inl End_wayCounts))] H := hP
        have hD : va_D A [(a_End, .inr (2, [.ref a_End_keys, .ref a_End_prices, .ref a_End_firsts, .ref a_End_wayCounts, .int 0])), (a_End_keys, .inl (cI, 410, .inl End_keys)), (a_End_wayCounts, .inl (cI, 410, .inl End_wayCounts))] := hD
        cases hf
        exact k_vret () hQ9 hx hb hr hlocks rfl hP hD hS (Nat.le_of_ble_eq_true rfl) (Nat.le_of_ble_eq_true rfl) dX2_clear_33
      · have hf := ite_f c1 hf
        refine lv_aload_n hx hb dX2_clear_10 rfl (lv_at hl 0 rfl) ?_
        refine va_get (D := D) (ci := 2) (v := .ref a_End_wayCounts) (C := RX2) (T := TX2) (N := 5) hx hb hts inX2 hown hK hP 0 rfl rfl 3 (by decide) fl23 (fun _ h9 => h9) rfl dX2_clear_11 ?_
        refine lv_aload_n hx hb dX2_clear_14 rfl (lv_at hl 0 rfl) ?_
        refine va_get (D := D) (ci := 2) (v := .ref a_End_keys) (C := RX2) (T := TX2) (N := 5) hx hb hts inX2 hown hK hP 0 rfl rfl 0 (by decide) fl13 (fun _ h9 => h9) rfl dX2_clear_15 ?_
        refine lv_iload_n hx hb dX2_clear_18 rfl (lv_at hl 1 rfl) ?_
        obtain ⟨ix2, x2, ex2, hf⟩ := rd_s hf
        refine va_iald hx hb hK hP 1 0 rfl rfl ix2 dX2_clear_19 ?_
        refine lv_tpx ex2 ?_
        refine lv_iconst (v := 0) hx hb dX2_clear_20 (by decide) ?_
        obtain ⟨i3, hf⟩ := ck_s hf
        refine va_iast hx hb hK hP hD hS 2 0 rfl rfl i3 dX2_clear_21 (fun H locs hP hD hS => ?_)
        have hP : va_P D vwCl [(a_End, .inr (2, [.ref a_End_keys, .ref a_End_prices, .ref a_End_firsts, .ref a_End_wayCounts, .int End_size])), (a_End_keys, .inl (cI, 410, .inl End_keys)), (a_End_wayCounts, .inl (cI, 410, .inl (upd End_wayCounts x2.toNatClampNeg 0)))] H := hP
        have hD : va_D A [(a_End, .inr (2, [.ref a_End_keys, .ref a_End_prices, .ref a_End_firsts, .ref a_End_wayCounts, .int End_size])), (a_End_keys, .inl (cI, 410, .inl End_keys)), (a_End_wayCounts, .inl (cI, 410, .inl (upd End_wayCounts x2.toNatClampNeg 0)))] := hD
        obtain ⟨x4, ex4, hf⟩ := nm_s hf
        refine lv_iinc (v := x4) (lv' := [(1, .int x4), (0, .ref a_End)]) hx hb dX2_clear_22 hl (k := 1) rfl (by rw [ex4]; rfl) (by decide) rfl (fun ls hl => ?_)
        refine lv_goto (tgt := 2) hx hb dX2_clear_25 (by decide) ?_
        exact ih2 x4 (upd End_wayCounts x2.toNatClampNeg 0) End_size H locs ls hP hD hS (lv_sub hl [1, 0] rfl) hf
  unfold f_End_clear at hf
  refine lv_iconst (v := 0) hx hb dX2_clear_0 (by decide) ?_
  refine lv_istore_n (lv' := [(1, .int 0), (0, .ref a_End)]) hx hb dX2_clear_1 rfl hl (by decide) rfl (fun ls hl => ?_)
  exact hL2 fu 0 End_wayCounts End_size s.heap [] ls hP hD hS (lv_sub hl [1, 0] rfl) hf
abbrev rm_End_offer : Room := { frames := 1, cells := 0, slots := 0, locals := 30 }
set_option maxHeartbeats 4000000 in
set_option maxRecDepth 100000 in
theorem c_End_offer (l : Launch) (D : va_G) (cI cZ : ClassId) (t : Nat → Nat) (a_End a_End_keys a_End_prices a_End_firsts a_End_wayCounts sz : Nat) (End_keys End_prices End_firsts End_wayCounts : Nat → Int32) (End_size p1 p2 p3 p4 : Int32) (z_End_keys z_End_prices z_End_firsts z_End_wayCounts : Nat → Int32) (z_End_size : Int32) (hf : f_End_offer End_keys End_prices End_firsts End_wayCounts End_size p1 p2 p3 p4 = some (z_End_keys, z_End_prices, z_End_firsts, z_End_wayCounts, z_End_size)) : Met l yX2_offer wsX2_offer rm_End_offer (va_Pc [.ref a_End, .int p1, .int p2, .int p3, .int p4] (pcW D cI cZ t [(a_End, .inr (2, [.ref a_End_keys, .ref a_End_prices, .ref a_End_firsts, .ref a_End_wayCounts, .int End_size])), (a_End_keys, .inl (cI, 410, .inl End_keys)), (a_End_prices, .inl (cI, 410, .inl End_prices)), (a_End_firsts, .inl (cI, 410, .inl End_firsts)), (a_End_wayCounts, .inl (cI, 410, .inl End_wayCounts))] sz)) (va_Qv (fun u : Unit => u = u) (fun u t' => bW D (va_A [(a_End, .inr (2, [.ref a_End_keys, .ref a_End_prices, .ref a_End_firsts, .ref a_End_wayCounts, .int End_size])), (a_End_keys, .inl (cI, 410, .inl End_keys)), (a_End_prices, .inl (cI, 410, .inl End_prices)), (a_End_firsts, .inl (cI, 410, .inl End_firsts)), (a_End_wayCounts, .inl (cI, 410, .inl End_wayCounts))] sz) [(a_End, .inr (2, [.ref a_End_keys, .ref a_End_prices, .ref a_End_firsts, .ref a_End_wayCounts, .int z_End_size])), (a_End_keys, .inl (cI, 410, .inl z_End_keys)), (a_End_prices, .inl (cI, 410, .inl z_End_prices)), (a_End_firsts, .inl (cI, 410, .inl z_End_firsts)), (a_End_wayCounts, .inl (cI, 410, .inl z_End_wayCounts))] t') (va_A [(a_End, .inr (2, [.ref a_End_keys, .ref a_End_prices, .ref a_End_firsts, .ref a_End_wayCounts, .int End_size])), (a_End_keys, .inl (cI, 410, .inl End_keys)), (a_End_prices, .inl (cI, 410, .inl End_prices)), (a_End_firsts, .inl (cI, 410, .inl End_firsts)), (a_End_wayCounts, .inl (cI, 410, .inl End_wayCounts))] sz)) 0 0 (va_A [(a_End, .inr (2, [.ref a_End_keys, .ref a_End_prices, .ref a_End_firsts, .ref a_End_wayCounts, .int End_size])), (a_End_keys, .inl (cI, 410, .inl End_keys)), (a_End_prices, .inl (cI, 410, .inl End_prices)), (a_End_firsts, .inl (cI, 410, .inl End_firsts)), (a_End_wayCounts, .inl (cI, 410, .inl End_wayCounts))] sz) := by
  refine Met.ofW (cc := cX2_offer) (maxL := 5) (ret := none) (by decide) rfl ?_
  intro p e s m args below meth c s₁ B hml hv
  obtain ⟨rfl, hsz, hP, hD0, hE⟩ := hv
  have hx := B.exec
  have hb := B.bytes
  have hr := B.returns
  have hts := atoms_spec (ws := wsX2_offer) B.pre
  have hown : s.vm.findClass RX2 = some m.cls := findClass_of_methodNamed B.named
  have hlocks := B.notSynchronized
  subst hsz
  have hD := hD0.self (sz := s.heap.size)
  generalize hAe : va_A [(a_End, .inr (2, [.ref a_End_keys, .ref a_End_prices, .ref a_End_firsts, .ref a_End_wayCounts, .int End_size])), (a_End_keys, .inl (cI, 410, .inl End_keys)), (a_End_prices, .inl (cI, 410, .inl End_prices)), (a_End_firsts, .inl (cI, 410, .inl End_firsts)), (a_End_wayCounts, .inl (cI, 410, .inl End_wayCounts))] s.heap.size = A at hD hE ⊢
  have hA : ∀ q : Nat, s.heap.size ≤ q → A q := fun q h => by rw [← hAe]; exact Or.inr h
  clear hAe hD0
  have hS : va_S A s.heap s.heap [] := va_S.rf
  have hK := hE.1
  have hl := lv_entry ([.ref a_End, .int p1, .int p2, .int p3, .int p4]) (n := 5) (Nat.le_of_ble_eq_true rfl)
  rw [lg_entry_eq]
  generalize (lg_sl ([.ref a_End, .int p1, .int p2, .int p3, .int p4]) ++ List.replicate (5 - (lg_sl ([.ref a_End, .int p1, .int p2, .int p3, .int p4])).length) Slot.unset).toArray = ls at hl ⊢
  have hl : lv_has ls 5 [(0, .ref a_End), (1, .int p1), (2, .int p2), (3, .int p3), (4, .int p4)] := hl
  refine w_q (fun Q9 hQ9 => ?_)
  have fl17 := hts (.fieldLink RX2 17 "StickRoom$Ends" "prices" "[I") (by decide +kernel)
  have inX2 : ∀ w ∈ wsX20, w ∈ wsX2_offer := by decide +kernel
  have fl20 := hts (.fieldLink RX2 20 "StickRoom$Ends" "firsts" "[I") (by decide +kernel)
  have fl23 := hts (.fieldLink RX2 23 "StickRoom$Ends" "wayCounts" "[I") (by decide +kernel)
  have ml34 := hts (.methodLink RX2 34 Lib.Math.min.name) (by decide +kernel)
  have ms_min := hts (.static Lib.Math.min.name) (by decide +kernel)
  have mini := hts (.initialized "java/lang/Math") (by decide +kernel)
  have mc_min := hts (.code Lib.Math.min.name Lib.Math.min.code 2 (some .int)) (by decide +kernel)
  have st_X10_isBelow := hts (.static yX10_isBelow) (by decide +kernel)
  have ini_X10 := hts (.initialized RX10) (by decide +kernel)
  have fl26 := hts (.fieldLink RX2 26 "StickRoom$Ends" "size" "I") (by decide +kernel)
  have fl13 := hts (.fieldLink RX2 13 "StickRoom$Ends" "keys" "[I") (by decide +kernel)
  have hJ102 : ∀ (l1 l2 l3 l4 : Int32) (End_keys End_prices End_firsts End_wayCounts : Nat → Int32) (End_size : Int32) (H : Heap) (locs : List Loc) (ls : Array Slot), va_P D vwCl [(a_End, .inr (2, [.ref a_End_keys, .ref a_End_prices, .ref a_End_firsts, .ref a_End_wayCounts, .int End_size])), (a_End_keys, .inl (cI, 410, .inl End_keys)), (a_End_prices, .inl (cI, 410, .inl End_prices)), (a_End_firsts, .inl (cI, 410, .inl End_firsts)), (a_End_wayCounts, .inl (cI, 410, .inl End_wayCounts))] H → va_D A [(a_End, .inr (2, [.ref a_End_keys, .ref a_End_prices, .ref a_End_firsts, .ref a_End_wayCounts, .int End_size])), (a_End_keys, .inl (cI, 410, .inl End_keys)), (a_End_prices, .inl (cI, 410, .inl End_prices)), (a_End_firsts, .inl (cI, 410, .inl End_firsts)), (a_End_wayCounts, .inl (cI, 410, .inl End_wayCounts))] → va_S A s.heap H locs → lv_has ls 5 [(0, .ref a_End), (1, .int l1), (2, .int l2), (3, .int l3), (4, .int l4)] → f_End_offer_102 l1 l2 l3 l4 End_keys End_prices End_firsts End_wayCounts End_size = some (z_End_keys, z_End_prices, z_End_firsts, z_End_wayCounts, z_End_size) → W p l e (headSpec wsX2_offer rm_End_offer).room s m ([.ref a_End, .int p1, .int p2, .int p3, .int p4] : List Value).toArray below meth c H locs 0 0 Q9 (F0 m 102 ls []) := by
    intro l1 l2 l3 l4 End_keys End_prices End_firsts End_wayCounts End_size H locs ls hP hD hS hl hf
    unfold f_End_offer_102 at hf
    refine lv_aload_n hx hb dX2_offer_102 rfl (lv_at hl 0 rfl) ?_
    refine va_get (D := D) (ci := 2) (v := .ref a_End_prices) (C := RX2) (T := TX2) (N := 5) hx hb hts inX2 hown hK hP 0 rfl rfl 1 (by decide) fl17 (fun _ h9 => h9) rfl dX2_offer_103 ?_
    refine lv_iload_n hx hb dX2_offer_106 rfl (lv_at hl 1 rfl) ?_
    refine lv_iload_n hx hb dX2_offer_107 rfl (lv_at hl 2 rfl) ?_
    obtain ⟨i1, hf⟩ := ck_s hf
    refine va_iast hx hb hK hP hD hS 2 0 rfl rfl i1 dX2_offer_108 (fun H locs hP hD hS => ?_)
    have hP : va_P D vwCl [(a_End, .inr (2, [.ref a_End_keys, .ref a_End_prices, .ref a_End_firsts, .ref a_End_wayCounts, .int End_size])), (a_End_keys, .inl (cI, 410, .inl End_keys)), (a_End_prices, .inl (cI, 410, .inl (upd End_prices l1.toNatClampNeg l2))), (a_End_firsts, .inl (cI, 410, .inl End_firsts)), (a_End_wayCounts, .inl (cI, 410, .inl End_wayCounts))] H := hP
    have hD : va_D A [(a_End, .inr (2, [.ref a_End_keys, .ref a_End_prices, .ref a_End_firsts, .ref a_End_wayCounts, .int End_size])), (a_End_keys, .inl (cI, 410, .inl End_keys)), (a_End_prices, .inl (cI, 410, .inl (upd End_prices l1.toNatClampNeg l2))), (a_End_firsts, .inl (cI, 410, .inl End_firsts)), (a_End_wayCounts, .inl (cI, 410, .inl End_wayCounts))] := hD
    refine lv_aload_n hx hb dX2_offer_109 rfl (lv_at hl 0 rfl) ?_
    refine va_get (D := D) (ci := 2) (v := .ref a_End_firsts) (C := RX2) (T := TX2) (N := 5) hx hb hts inX2 hown hK hP 0 rfl rfl 2 (by decide) fl20 (fun _ h9 => h9) rfl dX2_offer_110 ?_
    refine lv_iload_n hx hb dX2_offer_113 rfl (lv_at hl 1 rfl) ?_
    refine lv_iload_n hx hb dX2_offer_114 rfl (lv_at hl 3 rfl) ?_
    obtain ⟨i2, hf⟩ := ck_s hf
    refine va_iast hx hb hK hP hD hS 3 0 rfl rfl i2 dX2_offer_115 (fun H locs hP hD hS => ?_)
    have hP : va_P D vwCl [(a_End, .inr (2, [.ref a_End_keys, .ref a_End_prices, .ref a_End_firsts, .ref a_End_wayCounts, .int End_size])), (a_End_keys, .inl (cI, 410, .inl End_keys)), (a_End_prices, .inl (cI, 410, .inl (upd End_prices l1.toNatClampNeg l2))), (a_End_firsts, .inl (cI, 410, .inl (upd End_firsts l1.toNatClampNeg l3))), (a_End_wayCounts, .inl (cI, 410, .inl End_wayCounts))] H := hP
    have hD : va_D A [(a_End, .inr (2, [.ref a_End_keys, .ref a_End_prices, .ref a_End_firsts, .ref a_End_wayCounts, .int End_size])), (a_End_keys, .inl (cI, 410, .inl End_keys)), (a_End_prices, .inl (cI, 410, .inl (upd End_prices l1.toNatClampNeg l2))), (a_End_firsts, .inl (cI, 410, .inl (upd End_firsts l1.toNatClampNeg l3))), (a_End_wayCounts, .inl (cI, 410, .inl End_wayCounts))] := hD
    refine lv_aload_n hx hb dX2_offer_116 rfl (lv_at hl 0 rfl) ?_
    refine va_get (D := D) (ci := 2) (v := .ref a_End_wayCounts) (C := RX2) (T := TX2) (N := 5) hx hb hts inX2 hown hK hP 0 rfl rfl 3 (by decide) fl23 (fun _ h9 => h9) rfl dX2_offer_117 ?_
    refine lv_iload_n hx hb dX2_offer_120 rfl (lv_at hl 1 rfl) ?_
    refine lv_iload hx hb dX2_offer_121 (lv_at hl 4 rfl) ?_
    obtain ⟨i3, hf⟩ := ck_s hf
    refine va_iast hx hb hK hP hD hS 4 0 rfl rfl i3 dX2_offer_123 (fun H locs hP hD hS => ?_)
    have hP : va_P D vwCl [(a_End, .inr (2, [.ref a_End_keys, .ref a_End_prices, .ref a_End_firsts, .ref a_End_wayCounts, .int End_size])), (a_End_keys, .inl (cI, 410, .inl End_keys)), (a_End_prices, .inl (cI, 410, .inl (upd End_prices l1.toNatClampNeg l2))), (a_End_firsts, .inl (cI, 410, .inl (upd End_firsts l1.toNatClampNeg l3))), (a_End_wayCounts, .inl (cI, 410, .inl (upd End_wayCounts l1.toNatClampNeg l4)))] H := hP
    have hD : va_D A [(a_End, .inr (2, [.ref a_End_keys, .ref a_End_prices, .ref a_End_firsts, .ref a_End_wayCounts, .int End_size])), (a_End_keys, .inl (cI, 410, .inl End_keys)), (a_End_prices, .inl (cI, 410, .inl (upd End_prices l1.toNatClampNeg l2))), (a_End_firsts, .inl (cI, 410, .inl (upd End_firsts l1.toNatClampNeg l3))), (a_End_wayCounts, .inl (cI, 410, .inl (upd End_wayCounts l1.toNatClampNeg l4)))] := hD
    cases hf
    exact k_vret () hQ9 hx hb hr hlocks rfl hP hD hS (Nat.le_of_ble_eq_true rfl) (Nat.le_of_ble_eq_true rfl) dX2_offer_124
  have hJ53 : ∀ (l1 l2 l3 l4 : Int32) (End_keys End_prices End_firsts End_wayCounts : Nat → Int32) (End_size : Int32) (H : Heap) (locs : List Loc) (ls : Array Slot), va_P D vwCl [(a_End, .inr (2, [.ref a_End_keys, .ref a_End_prices, .ref a_End_firsts, .ref a_End_wayCounts, .int End_size])), (a_End_keys, .inl (cI, 410, .inl End_keys)), (a_End_prices, .inl (cI, 410, .inl End_prices)), (a_End_firsts, .inl (cI, 410, .inl End_firsts)), (a_End_wayCounts, .inl (cI, 410, .inl End_wayCounts))] H → va_D A [(a_End, .inr (2, [.ref a_End_keys, .ref a_End_prices, .ref a_End_firsts, .ref a_End_wayCounts, .int End_size])), (a_End_keys, .inl (cI, 410, .inl End_keys)), (a_End_prices, .inl (cI, 410, .inl End_prices)), (a_End_firsts, .inl (cI, 410, .inl End_firsts)), (a_End_wayCounts, .inl (cI, 410, .inl End_wayCounts))] → va_S A s.heap H locs → lv_has ls 5 [(0, .ref a_End), (1, .int l1), (2, .int l2), (3, .int l3), (4, .int l4)] → f_End_offer_53 l1 l2 l3 l4 End_keys End_prices End_firsts End_wayCounts End_size = some (z_End_keys, z_End_prices, z_End_firsts, z_End_wayCounts, z_End_size) → W p l e (headSpec wsX2_offer rm_End_offer).room s m ([.ref a_End, .int p1, .int p2, .int p3, .int p4] : List Value).toArray below meth c H locs 0 0 Q9 (F0 m 53 ls []) := by
    intro l1 l2 l3 l4 End_keys End_prices End_firsts End_wayCounts End_size H locs ls hP hD hS hl hf
    unfold f_End_offer_53 at hf
    refine lv_iload_n hx hb dX2_offer_53 rfl (lv_at hl 2 rfl) ?_
    refine lv_aload_n hx hb dX2_offer_54 rfl (lv_at hl 0 rfl) ?_
    refine va_get (D := D) (ci := 2) (v := .ref a_End_prices) (C := RX2) (T := TX2) (N := 5) hx hb hts inX2 hown hK hP 0 rfl rfl 1 (by decide) fl17 (fun _ h9 => h9) rfl dX2_offer_55 ?_
    refine lv_iload_n hx hb dX2_offer_58 rfl (lv_at hl 1 rfl) ?_
    obtain ⟨ix4, x4, ex4, hf⟩ := rd_s hf
    refine va_iald hx hb hK hP 2 0 rfl rfl ix4 dX2_offer_59 ?_
    refine lv_tpx ex4 ?_
    refine lv_icmp_le (tgt := 64) hx hb dX2_offer_60 (by decide) (fun c5 => ?_) (fun c5 => ?_)
    · have hf := ite_t c5 hf
      refine lv_iload_n hx hb dX2_offer_64 rfl (lv_at hl 2 rfl) ?_
      refine lv_aload_n hx hb dX2_offer_65 rfl (lv_at hl 0 rfl) ?_
      refine va_get (D := D) (ci := 2) (v := .ref a_End_prices) (C := RX2) (T := TX2) (N := 5) hx hb hts inX2 hown hK hP 0 rfl rfl 1 (by decide) fl17 (fun _ h9 => h9) rfl dX2_offer_66 ?_
      refine lv_iload_n hx hb dX2_offer_69 rfl (lv_at hl 1 rfl) ?_
      obtain ⟨ix6, x6, ex6, hf⟩ := rd_s hf
      refine va_iald hx hb hK hP 2 0 rfl rfl ix6 dX2_offer_70 ?_
      refine lv_tpx ex6 ?_
      refine lv_icmp_ne (tgt := 102) hx hb dX2_offer_71 (by decide) (fun c7 => ?_) (fun c7 => ?_)
      · have hf := ite_f c7 hf
        exact hJ102 l1 l2 l3 l4 End_keys End_prices End_firsts End_wayCounts End_size H locs ls hP hD hS (lv_sub hl [0, 1, 2, 3, 4] rfl) hf
      · have hf := ite_t c7 hf
        refine lv_aload_n hx hb dX2_offer_74 rfl (lv_at hl 0 rfl) ?_
        refine va_get (D := D) (ci := 2) (v := .ref a_End_firsts) (C := RX2) (T := TX2) (N := 5) hx hb hts inX2 hown hK hP 0 rfl rfl 2 (by decide) fl20 (fun _ h9 => h9) rfl dX2_offer_75 ?_
        refine lv_iload_n hx hb dX2_offer_78 rfl (lv_at hl 1 rfl) ?_
        refine lv_iload_n hx hb dX2_offer_79 rfl (lv_at hl 3 rfl) ?_
        refine lv_aload_n hx hb dX2_offer_80 rfl (lv_at hl 0 rfl) ?_
        refine va_get (D := D) (ci := 2) (v := .ref a_End_firsts) (C := RX2) (T := TX2) (N := 5) hx hb hts inX2 hown hK hP 0 rfl rfl 2 (by decide) fl20 (fun _ h9 => h9) rfl dX2_offer_81 ?_
        refine lv_iload_n hx hb dX2_offer_84 rfl (lv_at hl 1 rfl) ?_
        obtain ⟨ix8, x8, ex8, hf⟩ := rd_s hf
        refine va_iald hx hb hK hP 3 0 rfl rfl ix8 dX2_offer_85 ?_
        refine lv_tpx ex8 ?_
        refine va_mmin hx hb (hml.trans hl.1.symm) hown ml34 ms_min mini mc_min (Nat.le_of_ble_eq_true rfl) (Nat.le_of_ble_eq_true rfl) (Nat.le_of_ble_eq_true rfl) (Nat.le_of_ble_eq_true rfl) dX2_offer_86 ?_
        obtain ⟨x9, ex9, hf⟩ := nm_s hf
        refine lv_tpx ex9 ?_
        obtain ⟨i10, hf⟩ := ck_s hf
        refine va_iast hx hb hK hP hD hS 3 0 rfl rfl i10 dX2_offer_89 (fun H locs hP hD hS => ?_)
        have hP : va_P D vwCl [(a_End, .inr (2, [.ref a_End_keys, .ref a_End_prices, .ref a_End_firsts, .ref a_End_wayCounts, .int End_size])), (a_End_keys, .inl (cI, 410, .inl End_keys)), (a_End_prices, .inl (cI, 410, .inl End_prices)), (a_End_firsts, .inl (cI, 410, .inl (upd End_firsts l1.toNatClampNeg x9))), (a_End_wayCounts, .inl (cI, 410, .inl End_wayCounts))] H := hP
        have hD : va_D A [(a_End, .inr (2, [.ref a_End_keys, .ref a_End_prices, .ref a_End_firsts, .ref a_End_wayCounts, .int End_size])), (a_End_keys, .inl (cI, 410, .inl End_keys)), (a_End_prices, .inl (cI, 410, .inl End_prices)), (a_End_firsts, .inl (cI, 410, .inl (upd End_firsts l1.toNatClampNeg x9))), (a_End_wayCounts, .inl (cI, 410, .inl End_wayCounts))] := hD
        refine lv_aload_n hx hb dX2_offer_90 rfl (lv_at hl 0 rfl) ?_
        refine va_get (D := D) (ci := 2) (v := .ref a_End_wayCounts) (C := RX2) (T := TX2) (N := 5) hx hb hts inX2 hown hK hP 0 rfl rfl 3 (by decide) fl23 (fun _ h9 => h9) rfl dX2_offer_91 ?_
        refine lv_iload_n hx hb dX2_offer_94 rfl (lv_at hl 1 rfl) ?_
        refine lv_dup2_11 hx hb dX2_offer_95 rfl rfl ?_
        obtain ⟨ix11, x11, ex11, hf⟩ := rd_s hf
        refine va_iald hx hb hK hP 4 0 rfl rfl ix11 dX2_offer_96 ?_
        refine lv_tpx ex11 ?_
        refine lv_iload hx hb dX2_offer_97 (lv_at hl 4 rfl) ?_
        refine lv_iadd hx hb dX2_offer_99 ?_
        obtain ⟨x12, ex12, hf⟩ := nm_s hf
        refine lv_tpx ex12 ?_
        obtain ⟨i13, hf⟩ := ck_s hf
        refine va_iast hx hb hK hP hD hS 4 0 rfl rfl i13 dX2_offer_100 (fun H locs hP hD hS => ?_)
        have hP : va_P D vwCl [(a_End, .inr (2, [.ref a_End_keys, .ref a_End_prices, .ref a_End_firsts, .ref a_End_wayCounts, .int End_size])), (a_End_keys, .inl (cI, 410, .inl End_keys)), (a_End_prices, .inl (cI, 410, .inl End_prices)), (a_End_firsts, .inl (cI, 410, .inl (upd End_firsts l1.toNatClampNeg x9))), (a_End_wayCounts, .inl (cI, 410, .inl (upd End_wayCounts l1.toNatClampNeg x12)))] H := hP
        have hD : va_D A [(a_End, .inr (2, [.ref a_End_keys, .ref a_End_prices, .ref a_End_firsts, .ref a_End_wayCounts, .int End_size])), (a_End_keys, .inl (cI, 410, .inl End_keys)), (a_End_prices, .inl (cI, 410, .inl End_prices)), (a_End_firsts, .inl (cI, 410, .inl (upd End_firsts l1.toNatClampNeg x9))), (a_End_wayCounts, .inl (cI, 410, .inl (upd End_wayCounts l1.toNatClampNeg x12)))] := hD
        cases hf
        exact k_vret () hQ9 hx hb hr hlocks rfl hP hD hS (Nat.le_of_ble_eq_true rfl) (Nat.le_of_ble_eq_true rfl) dX2_offer_101
    · have hf := ite_f c5 hf
      cases hf
      exact k_vret () hQ9 hx hb hr hlocks rfl hP hD hS (Nat.le_of_ble_eq_true rfl) (Nat.le_of_ble_eq_true rfl) dX2_offer_63
  unfold f_End_offer at hf
  refine lv_iload_n hx hb dX2_offer_0 rfl (lv_at hl 1 rfl) ?_
  refine lv_sipush (v := 410) hx hb dX2_offer_1 (by decide) ?_
  obtain ⟨r14, g15, hf⟩ := b1_s hf
  refine k_SNi (rest := []) ⟨hx, hb, hml, hown, hts⟩ (c_Room_isBelow l D cI cZ t  s.heap.size p1 410 r14 g15) ⟨va_cnB 2 hts gX2_offer_X10_isBelow_n30 rfl rfl rfl (nZ_RX2_30 hE.2.1) ini_X10 (by decide +kernel) ⟨Nat.le_of_ble_eq_true rfl, Nat.le_of_ble_eq_true rfl⟩, st_X10_isBelow, trivial⟩ hE hP hD hS hA [] [0, 1, 2, 3, 4] rfl rfl rfl rfl rfl rfl hl.1 rfl (Nat.le_of_ble_eq_true rfl) dX2_offer_4 ⟨Nat.le_of_ble_eq_true rfl, Nat.le_of_ble_eq_true rfl⟩ (fun rq uq H locs hrq hP hD hS => ?_)
  refine lv_tpx hrq.symm ?_
  have hP : va_P D vwCl [(a_End, .inr (2, [.ref a_End_keys, .ref a_End_prices, .ref a_End_firsts, .ref a_End_wayCounts, .int End_size])), (a_End_keys, .inl (cI, 410, .inl End_keys)), (a_End_prices, .inl (cI, 410, .inl End_prices)), (a_End_firsts, .inl (cI, 410, .inl End_firsts)), (a_End_wayCounts, .inl (cI, 410, .inl End_wayCounts))] H := hP
  have hD : va_D A [(a_End, .inr (2, [.ref a_End_keys, .ref a_End_prices, .ref a_End_firsts, .ref a_End_wayCounts, .int End_size])), (a_End_keys, .inl (cI, 410, .inl End_keys)), (a_End_prices, .inl (cI, 410, .inl End_prices)), (a_End_firsts, .inl (cI, 410, .inl End_firsts)), (a_End_wayCounts, .inl (cI, 410, .inl End_wayCounts))] := hD
  refine lv_if_ne (tgt := 11) hx hb dX2_offer_7 (by decide) (fun c16 => ?_) (fun c16 => ?_)
  · have hf := ite_f c16 hf
    refine lv_aload_n hx hb dX2_offer_11 rfl (lv_at hl 0 rfl) ?_
    refine va_get (D := D) (ci := 2) (v := .ref a_End_wayCounts) (C := RX2) (T := TX2) (N := 5) hx hb hts inX2 hown hK hP 0 rfl rfl 3 (by decide) fl23 (fun _ h9 => h9) rfl dX2_offer_12 ?_
    refine lv_iload_n hx hb dX2_offer_15 rfl (lv_at hl 1 rfl) ?_
    obtain ⟨ix17, x17, ex17, hf⟩ := rd_s hf
    refine va_iald hx hb hK hP 4 0 rfl rfl ix17 dX2_offer_16 ?_
    refine lv_tpx ex17 ?_
    refine lv_if_ne (tgt := 53) hx hb dX2_offer_17 (by decide) (fun c18 => ?_) (fun c18 => ?_)
    · have hf := ite_f c18 hf
      exact hJ53 p1 p2 p3 p4 End_keys End_prices End_firsts End_wayCounts End_size H locs ls hP hD hS (lv_sub hl [0, 1, 2, 3, 4] rfl) hf
    · have hf := ite_t c18 hf
      refine lv_aload_n hx hb dX2_offer_20 rfl (lv_at hl 0 rfl) ?_
      refine va_get (D := D) (ci := 2) (v := .int End_size) (C := RX2) (T := TX2) (N := 5) hx hb hts inX2 hown hK hP 0 rfl rfl 4 (by decide) fl26 (fun _ h9 => h9) rfl dX2_offer_21 ?_
      refine lv_sipush (v := 410) hx hb dX2_offer_24 (by decide) ?_
      refine lv_icmp_ge (tgt := 53) hx hb dX2_offer_27 (by decide) (fun c19 => ?_) (fun c19 => ?_)
      · have hf := ite_t c19 hf
        exact hJ53 p1 p2 p3 p4 End_keys End_prices End_firsts End_wayCounts End_size H locs ls hP hD hS (lv_sub hl [0, 1, 2, 3, 4] rfl) hf
      · have hf := ite_f c19 hf
        refine lv_aload_n hx hb dX2_offer_30 rfl (lv_at hl 0 rfl) ?_
        refine va_get (D := D) (ci := 2) (v := .ref a_End_keys) (C := RX2) (T := TX2) (N := 5) hx hb hts inX2 hown hK hP 0 rfl rfl 0 (by decide) fl13 (fun _ h9 => h9) rfl dX2_offer_31 ?_
        refine lv_aload_n hx hb dX2_offer_34 rfl (lv_at hl 0 rfl) ?_
        refine va_get (D := D) (ci := 2) (v := .int End_size) (C := RX2) (T := TX2) (N := 5) hx hb hts inX2 hown hK hP 0 rfl rfl 4 (by decide) fl26 (fun _ h9 => h9) rfl dX2_offer_35 ?_
        refine lv_iload_n hx hb dX2_offer_38 rfl (lv_at hl 1 rfl) ?_
        obtain ⟨i20, hf⟩ := ck_s hf
        refine va_iast hx hb hK hP hD hS 1 0 rfl rfl i20 dX2_offer_39 (fun H locs hP hD hS => ?_)
        have hP : va_P D vwCl [(a_End, .inr (2, [.ref a_End_keys, .ref a_End_prices, .ref a_End_firsts, .ref a_End_wayCounts, .int End_size])), (a_End_keys, .inl (cI, 410, .inl (upd End_keys End_size.toNatClampNeg p1))), (a_End_prices, .inl (cI, 410, .inl End_prices)), (a_End_firsts, .inl (cI, 410, .inl End_firsts)), (a_End_wayCounts, .inl (cI, 410, .inl End_wayCounts))] H := hP
        have hD : va_D A [(a_End, .inr (2, [.ref a_End_keys, .ref a_End_prices, .ref a_End_firsts, .ref a_End_wayCounts, .int End_size])), (a_End_keys, .inl (cI, 410, .inl (upd End_keys End_size.toNatClampNeg p1))), (a_End_prices, .inl (cI, 410, .inl End_prices)), (a_End_firsts, .inl (cI, 410, .inl End_firsts)), (a_End_wayCounts, .inl (cI, 410, .inl End_wayCounts))] := hD
        refine lv_aload_n hx hb dX2_offer_40 rfl (lv_at hl 0 rfl) ?_
        refine lv_dup hx hb dX2_offer_41 rfl ?_
        refine va_get (D := D) (ci := 2) (v := .int End_size) (C := RX2) (T := TX2) (N := 5) hx hb hts inX2 hown hK hP 0 rfl rfl 4 (by decide) fl26 (fun _ h9 => h9) rfl dX2_offer_42 ?_
        refine lv_iconst (v := 1) hx hb dX2_offer_45 (by decide) ?_
        refine lv_iadd hx hb dX2_offer_46 ?_
        obtain ⟨x21, ex21, hf⟩ := nm_s hf
        refine lv_tpx ex21 ?_
        refine va_put (D := D) (ci := 2) (v := .int x21) (ty := .int) (C := RX2) (T := TX2) (N := 5) hx hb hts inX2 tyX2 tyX2_ok nmX2 hown hK hP hD hS 0 rfl rfl 4 (by decide) fl26 (fun _ h9 => h9) rfl (by decide +kernel) rfl rfl (Nat.le_of_ble_eq_true rfl) dX2_offer_47 (fun H locs hP hD hS => ?_)
        have hP : va_P D vwCl [(a_End, .inr (2, [.ref a_End_keys, .ref a_End_prices, .ref a_End_firsts, .ref a_End_wayCounts, .int x21])), (a_End_keys, .inl (cI, 410, .inl (upd End_keys End_size.toNatClampNeg p1))), (a_End_prices, .inl (cI, 410, .inl End_prices)), (a_End_firsts, .inl (cI, 410, .inl End_firsts)), (a_End_wayCounts, .inl (cI, 410, .inl End_wayCounts))] H := hP
        have hD : va_D A [(a_End, .inr (2, [.ref a_End_keys, .ref a_End_prices, .ref a_End_firsts, .ref a_End_wayCounts, .int x21])), (a_End_keys, .inl (cI, 410, .inl (upd End_keys End_size.toNatClampNeg p1))), (a_End_prices, .inl (cI, 410, .inl End_prices)), (a_End_firsts, .inl (cI, 410, .inl End_firsts)), (a_End_wayCounts, .inl (cI, 410, .inl End_wayCounts))] := hD
        refine lv_goto (tgt := 102) hx hb dX2_offer_50 (by decide) ?_
        exact hJ102 p1 p2 p3 p4 (upd End_keys End_size.toNatClampNeg p1) End_prices End_firsts End_wayCounts x21 H locs ls hP hD hS (lv_sub hl [0, 1, 2, 3, 4] rfl) hf
  · have hf := ite_t c16 hf
    cases hf
    exact k_vret () hQ9 hx hb hr hlocks rfl hP hD hS (Nat.le_of_ble_eq_true rfl) (Nat.le_of_ble_eq_true rfl) dX2_offer_10
