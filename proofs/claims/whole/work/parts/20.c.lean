abbrev rm_Model_finding : Room := { frames := 0, cells := 0, slots := 0, locals := 0 }
set_option maxHeartbeats 4000000 in
set_option maxRecDepth 100000 in
theorem c_Model_finding (l : Launch) (D : va_G) (cI cZ : ClassId) (t : Nat → Nat) (a_Model a_Model_now a_Model_past a_Model_bits a_Model_sizes a_Model_sheets a_Model_least a_Model_ways a_Model_handOf a_Model_crossedAt a_Model_strokeOf a_Model_prices a_Model_hitAt a_Model_carried sz : Nat) (Model_findings Model_kept Model_thenCost Model_thenWays Model_bothCost Model_bothWays p1 zr z_Model_findings : Int32) (hf : f_Model_finding Model_findings p1 = some (zr, z_Model_findings)) : Met l yX11_finding wsX11_finding rm_Model_finding (va_Pc [.ref a_Model, .int p1] (pcW D cI cZ t [(a_Model, .inr (11, [.ref a_Model_now, .ref a_Model_past, .int Model_kept, .int Model_findings, .ref a_Model_bits, .ref a_Model_sizes, .ref a_Model_sheets, .ref a_Model_least, .ref a_Model_ways, .int Model_thenCost, .int Model_thenWays, .int Model_bothCost, .int Model_bothWays, .ref a_Model_handOf, .ref a_Model_crossedAt, .ref a_Model_strokeOf, .ref a_Model_prices, .ref a_Model_hitAt, .ref a_Model_carried]))] sz)) (va_Qi (fun r (u : Unit) => r = zr) (fun u t' => bW D (va_A [(a_Model, .inr (11, [.ref a_Model_now, .ref a_Model_past, .int Model_kept, .int Model_findings, .ref a_Model_bits, .ref a_Model_sizes, .ref a_Model_sheets, .ref a_Model_least, .ref a_Model_ways, .int Model_thenCost, .int Model_thenWays, .int Model_bothCost, .int Model_bothWays, .ref a_Model_handOf, .ref a_Model_crossedAt, .ref a_Model_strokeOf, .ref a_Model_prices, .ref a_Model_hitAt, .ref a_Model_carried]))] sz) [(a_Model, .inr (11, [.ref a_Model_now, .ref a_Model_past, .int Model_kept, .int z_Model_findings, .ref a_Model_bits, .ref a_Model_sizes, .ref a_Model_sheets, .ref a_Model_least, .ref a_Model_ways, .int Model_thenCost, .int Model_thenWays, .int Model_bothCost, .int Model_bothWays, .ref a_Model_handOf, .ref a_Model_crossedAt, .ref a_Model_strokeOf, .ref a_Model_prices, .ref a_Model_hitAt, .ref a_Model_carried]))] t') (va_A [(a_Model, .inr (11, [.ref a_Model_now, .ref a_Model_past, .int Model_kept, .int Model_findings, .ref a_Model_bits, .ref a_Model_sizes, .ref a_Model_sheets, .ref a_Model_least, .ref a_Model_ways, .int Model_thenCost, .int Model_thenWays, .int Model_bothCost, .int Model_bothWays, .ref a_Model_handOf, .ref a_Model_crossedAt, .ref a_Model_strokeOf, .ref a_Model_prices, .ref a_Model_hitAt, .ref a_Model_carried]))] sz)) 0 0 (va_A [(a_Model, .inr (11, [.ref a_Model_now, .ref a_Model_past, .int Model_kept, .int Model_findings, .ref a_Model_bits, .ref a_Model_sizes, .ref a_Model_sheets, .ref a_Model_least, .ref a_Model_ways, .int Model_thenCost, .int Model_thenWays, .int Model_bothCost, .int Model_bothWays, .ref a_Model_handOf, .ref a_Model_crossedAt, .ref a_Model_strokeOf, .ref a_Model_prices, .ref a_Model_hitAt, .ref a_Model_carried]))] sz) := by
  refine Met.ofW (cc := cX11_finding) (maxL := 2) (ret := (some .int)) (by decide) rfl ?_
  intro p e s m args below meth c s₁ B hml hv
  obtain ⟨rfl, hsz, hP, hD0, hE⟩ := hv
  have hx := B.exec
  have hb := B.bytes
  have hr := B.returns
  have hts := atoms_spec (ws := wsX11_finding) B.pre
  have hown : s.vm.findClass RX11 = some m.cls := findClass_of_methodNamed B.named
  have hlocks := B.notSynchronized
  subst hsz
  have hD := hD0.self (sz := s.heap.size)
  generalize hAe : va_A [(a_Model, .inr (11, [.ref a_Model_now, .ref a_Model_past, .int Model_kept, .int Model_findings, .ref a_Model_bits, .ref a_Model_sizes, .ref a_Model_sheets, .ref a_Model_least, .ref a_Model_ways, .int Model_thenCost, .int Model_thenWays, .int Model_bothCost, .int Model_bothWays, .ref a_Model_handOf, .ref a_Model_crossedAt, .ref a_Model_strokeOf, .ref a_Model_prices, .ref a_Model_hitAt, .ref a_Model_carried]))] s.heap.size = A at hD hE ⊢
  have hA : ∀ q : Nat, s.heap.size ≤ q → A q := fun q h => by rw [← hAe]; exact Or.inr h
  clear hAe hD0
  have hS : va_S A s.heap s.heap [] := va_S.rf
  have hK := hE.1
  have hl := lv_entry ([.ref a_Model, .int p1]) (n := 2) (Nat.le_of_ble_eq_true rfl)
  rw [lg_entry_eq]
  generalize (lg_sl ([.ref a_Model, .int p1]) ++ List.replicate (2 - (lg_sl ([.ref a_Model, .int p1])).length) Slot.unset).toArray = ls at hl ⊢
  have hl : lv_has ls 2 [(0, .ref a_Model), (1, .int p1)] := hl
  refine w_q (fun Q9 hQ9 => ?_)
  have fl50 := hts (.fieldLink RX11 50 "StickRoomModel" "findings" "I") (by decide +kernel)
  have inX11 : ∀ w ∈ wsX110, w ∈ wsX11_finding := by decide +kernel
  unfold f_Model_finding at hf
  refine lv_aload_n hx hb dX11_finding_0 rfl (lv_at hl 0 rfl) ?_
  refine lv_dup hx hb dX11_finding_1 rfl ?_
  refine va_get (D := D) (ci := 11) (v := .int Model_findings) (C := RX11) (T := TX11) (N := 19) hx hb hts inX11 hown hK hP 0 rfl rfl 3 (by decide) fl50 (fun _ h9 => h9) rfl dX11_finding_2 ?_
  refine lv_iconst (v := 1) hx hb dX11_finding_5 (by decide) ?_
  refine lv_iadd hx hb dX11_finding_6 ?_
  obtain ⟨x1, ex1, hf⟩ := nm_s hf
  refine lv_tpx ex1 ?_
  refine va_put (D := D) (ci := 11) (v := .int x1) (ty := .int) (C := RX11) (T := TX11) (N := 19) hx hb hts inX11 tyX11 tyX11_ok nmX11 hown hK hP hD hS 0 rfl rfl 3 (by decide) fl50 (fun _ h9 => h9) rfl (by decide +kernel) rfl rfl (Nat.le_of_ble_eq_true rfl) dX11_finding_7 (fun H locs hP hD hS => ?_)
  have hP : va_P D vwCl [(a_Model, .inr (11, [.ref a_Model_now, .ref a_Model_past, .int Model_kept, .int x1, .ref a_Model_bits, .ref a_Model_sizes, .ref a_Model_sheets, .ref a_Model_least, .ref a_Model_ways, .int Model_thenCost, .int Model_thenWays, .int Model_bothCost, .int Model_bothWays, .ref a_Model_handOf, .ref a_Model_crossedAt, .ref a_Model_strokeOf, .ref a_Model_prices, .ref a_Model_hitAt, .ref a_Model_carried]))] H := hP
  have hD : va_D A [(a_Model, .inr (11, [.ref a_Model_now, .ref a_Model_past, .int Model_kept, .int x1, .ref a_Model_bits, .ref a_Model_sizes, .ref a_Model_sheets, .ref a_Model_least, .ref a_Model_ways, .int Model_thenCost, .int Model_thenWays, .int Model_bothCost, .int Model_bothWays, .ref a_Model_handOf, .ref a_Model_crossedAt, .ref a_Model_strokeOf, .ref a_Model_prices, .ref a_Model_hitAt, .ref a_Model_carried]))] := hD
  refine lv_iload_n hx hb dX11_finding_10 rfl (lv_at hl 1 rfl) ?_
  cases hf
  exact k_iret () hQ9 hx hb hr hlocks rfl hP hD hS (Nat.le_of_ble_eq_true rfl) (Nat.le_of_ble_eq_true rfl) dX11_finding_11
abbrev rm_Model_within : Room := { frames := 0, cells := 0, slots := 0, locals := 0 }
set_option maxHeartbeats 4000000 in
set_option maxRecDepth 100000 in
theorem c_Model_within (l : Launch) (D : va_G) (cI cZ : ClassId) (t : Nat → Nat) (sz : Nat) (p0 p1 p2 zr : Int32) (hf : f_Model_within p0 p1 p2 = some zr) : Met l yX11_within wsX11_within rm_Model_within (va_Pc [.int p0, .int p1, .int p2] (pcW D cI cZ t [] sz)) (va_Qi (fun r (u : Unit) => r = zr) (fun u t' => bW D (va_A [] sz) [] t') (va_A [] sz)) 0 0 (va_A [] sz) := by
  refine Met.ofW (cc := cX11_within) (maxL := 3) (ret := (some .boolean)) (by decide) rfl ?_
  intro p e s m args below meth c s₁ B hml hv
  obtain ⟨rfl, hsz, hP, hD0, hE⟩ := hv
  have hx := B.exec
  have hb := B.bytes
  have hr := B.returns
  have hts := atoms_spec (ws := wsX11_within) B.pre
  have hown : s.vm.findClass RX11 = some m.cls := findClass_of_methodNamed B.named
  have hlocks := B.notSynchronized
  subst hsz
  have hD := hD0.self (sz := s.heap.size)
  generalize hAe : va_A [] s.heap.size = A at hD hE ⊢
  have hA : ∀ q : Nat, s.heap.size ≤ q → A q := fun q h => by rw [← hAe]; exact Or.inr h
  clear hAe hD0
  have hS : va_S A s.heap s.heap [] := va_S.rf
  have hK := hE.1
  have hl := lv_entry ([.int p0, .int p1, .int p2]) (n := 3) (Nat.le_of_ble_eq_true rfl)
  rw [lg_entry_eq]
  generalize (lg_sl ([.int p0, .int p1, .int p2]) ++ List.replicate (3 - (lg_sl ([.int p0, .int p1, .int p2])).length) Slot.unset).toArray = ls at hl ⊢
  have hl : lv_has ls 3 [(0, .int p0), (1, .int p1), (2, .int p2)] := hl
  refine w_q (fun Q9 hQ9 => ?_)
  unfold f_Model_within at hf
  refine lv_iload_n hx hb dX11_within_0 rfl (lv_at hl 0 rfl) ?_
  refine lv_iload_n hx hb dX11_within_1 rfl (lv_at hl 1 rfl) ?_
  refine lv_icmp_lt (tgt := 14) hx hb dX11_within_2 (by decide) (fun c1 => ?_) (fun c1 => ?_)
  · have hf := ite_t c1 hf
    refine lv_iconst (v := 0) hx hb dX11_within_14 (by decide) ?_
    cases hf
    exact k_zret () hQ9 hx hb hr hlocks (Or.inl rfl) rfl hP hD hS (Nat.le_of_ble_eq_true rfl) (Nat.le_of_ble_eq_true rfl) dX11_within_15
  · have hf := ite_f c1 hf
    refine lv_iload_n hx hb dX11_within_5 rfl (lv_at hl 0 rfl) ?_
    refine lv_iload_n hx hb dX11_within_6 rfl (lv_at hl 2 rfl) ?_
    refine lv_icmp_gt (tgt := 14) hx hb dX11_within_7 (by decide) (fun c2 => ?_) (fun c2 => ?_)
    · have hf := ite_t c2 hf
      refine lv_iconst (v := 0) hx hb dX11_within_14 (by decide) ?_
      cases hf
      exact k_zret () hQ9 hx hb hr hlocks (Or.inl rfl) rfl hP hD hS (Nat.le_of_ble_eq_true rfl) (Nat.le_of_ble_eq_true rfl) dX11_within_15
    · have hf := ite_f c2 hf
      refine lv_iconst (v := 1) hx hb dX11_within_10 (by decide) ?_
      refine lv_goto (tgt := 15) hx hb dX11_within_11 (by decide) ?_
      cases hf
      exact k_zret () hQ9 hx hb hr hlocks (Or.inr rfl) rfl hP hD hS (Nat.le_of_ble_eq_true rfl) (Nat.le_of_ble_eq_true rfl) dX11_within_15
abbrev rm_Model_keep : Room := { frames := 0, cells := 0, slots := 0, locals := 0 }
set_option maxHeartbeats 4000000 in
set_option maxRecDepth 100000 in
theorem c_Model_keep (l : Launch) (D : va_G) (cI cZ : ClassId) (t : Nat → Nat) (a_Model a_Model_now a_Model_past a_Model_bits a_Model_sizes a_Model_sheets a_Model_least a_Model_ways a_Model_handOf a_Model_crossedAt a_Model_strokeOf a_Model_prices a_Model_hitAt a_Model_carried sz : Nat) (Model_now Model_past : Nat → Int32) (Model_kept Model_findings Model_thenCost Model_thenWays Model_bothCost Model_bothWays : Int32) (z_Model_past : Nat → Int32) (z_Model_kept : Int32) (hf : f_Model_keep Model_now Model_past Model_kept = some (z_Model_past, z_Model_kept)) : Met l yX11_keep wsX11_keep rm_Model_keep (va_Pc [.ref a_Model] (pcW D cI cZ t [(a_Model, .inr (11, [.ref a_Model_now, .ref a_Model_past, .int Model_kept, .int Model_findings, .ref a_Model_bits, .ref a_Model_sizes, .ref a_Model_sheets, .ref a_Model_least, .ref a_Model_ways, .int Model_thenCost, .int Model_thenWays, .int Model_bothCost, .int Model_bothWays, .ref a_Model_handOf, .ref a_Model_crossedAt, .ref a_Model_strokeOf, .ref a_Model_prices, .ref a_Model_hitAt, .ref a_Model_carried])), (a_Model_now, .inl (cI, 187, .inl Model_now)), (a_Model_past, .inl (cI, 3740, .inl Model_past))] sz)) (va_Qv (fun u : Unit => u = u) (fun u t' => bW D (va_A [(a_Model, .inr (11, [.ref a_Model_now, .ref a_Model_past, .int Model_kept, .int Model_findings, .ref a_Model_bits, .ref a_Model_sizes, .ref a_Model_sheets, .ref a_Model_least, .ref a_Model_ways, .int Model_thenCost, .int Model_thenWays, .int Model_bothCost, .int Model_bothWays, .ref a_Model_handOf, .ref a_Model_crossedAt, .ref a_Model_strokeOf, .ref a_Model_prices, .ref a_Model_hitAt, .ref a_Model_carried])), (a_Model_now, .inl (cI, 187, .inl Model_now)), (a_Model_past, .inl (cI, 3740, .inl Model_past))] sz) [(a_Model, .inr (11, [.ref a_Model_now, .ref a_Model_past, .int z_Model_kept, .int Model_findings, .ref a_Model_bits, .ref a_Model_sizes, .ref a_Model_sheets, .ref a_Model_least, .ref a_Model_ways, .int Model_thenCost, .int Model_thenWays, .int Model_bothCost, .int Model_bothWays, .ref a_Model_handOf, .ref a_Model_crossedAt, .ref a_Model_strokeOf, .ref a_Model_prices, .ref a_Model_hitAt, .ref a_Model_carried])), (a_Model_now, .inl (cI, 187, .inl Model_now)), (a_Model_past, .inl (cI, 3740, .inl z_Model_past))] t') (va_A [(a_Model, .inr (11, [.ref a_Model_now, .ref a_Model_past, .int Model_kept, .int Model_findings, .ref a_Model_bits, .ref a_Model_sizes, .ref a_Model_sheets, .ref a_Model_least, .ref a_Model_ways, .int Model_thenCost, .int Model_thenWays, .int Model_bothCost, .int Model_bothWays, .ref a_Model_handOf, .ref a_Model_crossedAt, .ref a_Model_strokeOf, .ref a_Model_prices, .ref a_Model_hitAt, .ref a_Model_carried])), (a_Model_now, .inl (cI, 187, .inl Model_now)), (a_Model_past, .inl (cI, 3740, .inl Model_past))] sz)) 0 0 (va_A [(a_Model, .inr (11, [.ref a_Model_now, .ref a_Model_past, .int Model_kept, .int Model_findings, .ref a_Model_bits, .ref a_Model_sizes, .ref a_Model_sheets, .ref a_Model_least, .ref a_Model_ways, .int Model_thenCost, .int Model_thenWays, .int Model_bothCost, .int Model_bothWays, .ref a_Model_handOf, .ref a_Model_crossedAt, .ref a_Model_strokeOf, .ref a_Model_prices, .ref a_Model_hitAt, .ref a_Model_carried])), (a_Model_now, .inl (cI, 187, .inl Model_now)), (a_Model_past, .inl (cI, 3740, .inl Model_past))] sz) := by
  refine Met.ofW (cc := cX11_keep) (maxL := 2) (ret := none) (by decide) rfl ?_
  intro p e s m args below meth c s₁ B hml hv
  obtain ⟨rfl, hsz, hP, hD0, hE⟩ := hv
  have hx := B.exec
  have hb := B.bytes
  have hr := B.returns
  have hts := atoms_spec (ws := wsX11_keep) B.pre
  have hown : s.vm.findClass RX11 = some m.cls := findClass_of_methodNamed B.named
  have hlocks := B.notSynchronized
  subst hsz
  have hD := hD0.self (sz := s.heap.size)
  generalize hAe : va_A [(a_Model, .inr (11, [.ref a_Model_now, .ref a_Model_past, .int Model_kept, .int Model_findings, .ref a_Model_bits, .ref a_Model_sizes, .ref a_Model_sheets, .ref a_Model_least, .ref a_Model_ways, .int Model_thenCost, .int Model_thenWays, .int Model_bothCost, .int Model_bothWays, .ref a_Model_handOf, .ref a_Model_crossedAt, .ref a_Model_strokeOf, .ref a_Model_prices, .ref a_Model_hitAt, .ref a_Model_carried])), (a_Model_now, .inl (cI, 187, .inl Model_now)), (a_Model_past, .inl (cI, 3740, .inl Model_past))] s.heap.size = A at hD hE ⊢
  have hA : ∀ q : Nat, s.heap.size ≤ q → A q := fun q h => by rw [← hAe]; exact Or.inr h
  clear hAe hD0
  have hS : va_S A s.heap s.heap [] := va_S.rf
  have hK := hE.1
  have hl := lv_entry ([.ref a_Model]) (n := 2) (Nat.le_of_ble_eq_true rfl)
  rw [lg_entry_eq]
  generalize (lg_sl ([.ref a_Model]) ++ List.replicate (2 - (lg_sl ([.ref a_Model])).length) Slot.unset).toArray = ls at hl ⊢
  have hl : lv_has ls 2 [(0, .ref a_Model)] := hl
  refine w_q (fun Q9 hQ9 => ?_)
  have fl58 := hts (.fieldLink RX11 58 "StickRoomModel" "kept" "I") (by decide +kernel)
  have inX11 : ∀ w ∈ wsX110, w ∈ wsX11_keep := by decide +kernel
  have fl13 := hts (.fieldLink RX11 13 "StickRoomModel" "past" "[I") (by decide +kernel)
  have fl9 := hts (.fieldLink RX11 9 "StickRoomModel" "now" "[I") (by decide +kernel)
  have hL52 : ∀ (n52 : Nat) (l1 : Int32) (Model_past : Nat → Int32) (Model_kept : Int32) (H : Heap) (locs : List Loc) (ls : Array Slot), va_P D vwCl [(a_Model, .inr (11, [.ref a_Model_now, .ref a_Model_past, .int Model_kept, .int Model_findings, .ref a_Model_bits, .ref a_Model_sizes, .ref a_Model_sheets, .ref a_Model_least, .ref a_Model_ways, .int Model_thenCost, .int Model_thenWays, .int Model_bothCost, .int Model_bothWays, .ref a_Model_handOf, .ref a_Model_crossedAt, .ref a_Model_strokeOf, .ref a_Model_prices, .ref a_Model_hitAt, .ref a_Model_carried])), (a_Model_now, .inl (cI, 187, .inl Model_now)), (a_Model_past, .inl (cI, 3740, .inl Model_past))] H → va_D A [(a_Model, .inr (11, [.ref a_Model_now, .ref a_Model_past, .int Model_kept, .int Model_findings, .ref a_Model_bits, .ref a_Model_sizes, .ref a_Model_sheets, .ref a_Model_least, .ref a_Model_ways, .int Model_thenCost, .int Model_thenWays, .int Model_bothCost, .int Model_bothWays, .ref a_Model_handOf, .ref a_Model_crossedAt, .ref a_Model_strokeOf, .ref a_Model_prices, .ref a_Model_hitAt, .ref a_Model_carried])), (a_Model_now, .inl (cI, 187, .inl Model_now)), (a_Model_past, .inl (cI, 3740, .inl Model_past))] → va_S A s.heap H locs → lv_has ls 2 [(0, .ref a_Model), (1, .int l1)] → f_Model_keep_52 Model_now  n52 l1 Model_past Model_kept = some (z_Model_past, z_Model_kept) → W p l e (headSpec wsX11_keep rm_Model_keep).room s m ([.ref a_Model] : List Value).toArray below meth c H locs 0 0 Q9 (F0 m 52 ls []) := by
    intro n52
    induction n52 with
    | zero => intro l1 Model_past Model_kept H locs ls hP hD hS hl hf; exact nomatch (show none = some (z_Model_past, z_Model_kept) from hf)
    | succ n52 ih52 =>
      intro l1 Model_past Model_kept H locs ls hP hD hS hl hf
      have hf : f_Model_keep_52_b Model_now  (f_Model_keep_52 Model_now  n52) l1 Model_past Model_kept = some (z_Model_past, z_Model_kept) := hf
      unfold f_Model_keep_52_b at hf
      refine lv_iload_n hx hb dX11_keep_52 rfl (lv_at hl 1 rfl) ?_
      refine lv_sipush (v := 187) hx hb dX11_keep_53 (by decide) ?_
      refine lv_icmp_ge (tgt := 86) hx hb dX11_keep_56 (by decide) (fun c1 => ?_) (fun c1 => ?_)
      · have hf := ite_t c1 hf
        refine lv_aload_n hx hb dX11_keep_86 rfl (lv_at hl 0 rfl) ?_
        refine lv_dup hx hb dX11_keep_87 rfl ?_
        refine va_get (D := D) (ci := 11) (v := .int Model_kept) (C := RX11) (T := TX11) (N := 19) hx hb hts inX11 hown hK hP 0 rfl rfl 2 (by decide) fl58 (fun _ h9 => h9) rfl dX11_keep_88 ?_
        refine lv_iconst (v := 1) hx hb dX11_keep_91 (by decide) ?_
        refine lv_iadd hx hb dX11_keep_92 ?_
        obtain ⟨x2, ex2, hf⟩ := nm_s hf
        refine lv_tpx ex2 ?_
        refine va_put (D := D) (ci := 11) (v := .int x2) (ty := .int) (C := RX11) (T := TX11) (N := 19) hx hb hts inX11 tyX11 tyX11_ok nmX11 hown hK hP hD hS 0 rfl rfl 2 (by decide) fl58 (fun _ h9 => h9) rfl (by decide +kernel) rfl rfl (Nat.le_of_ble_eq_true rfl) dX11_keep_93 (fun H locs hP hD hS => ?_)
        have hP : va_P D vwCl [(a_Model, .inr (11, [.ref a_Model_now, .ref a_Model_past, .int x2, .int Model_findings, .ref a_Model_bits, .ref a_Model_sizes, .ref a_Model_sheets, .ref a_Model_least, .ref a_Model_ways, .int Model_thenCost, .int Model_thenWays, .int Model_bothCost, .int Model_bothWays, .ref a_Model_handOf, .ref a_Model_crossedAt, .ref a_Model_strokeOf, .ref a_Model_prices, .ref a_Model_hitAt, .ref a_Model_carried])), (a_Model_now, .inl (cI, 187, .inl Model_now)), (a_Model_past, .inl (cI, 3740, .inl Model_past))] H := hP
        have hD : va_D A [(a_Model, .inr (11, [.ref a_Model_now, .ref a_Model_past, .int x2, .int Model_findings, .ref a_Model_bits, .ref a_Model_sizes, .ref a_Model_sheets, .ref a_Model_least, .ref a_Model_ways, .int Model_thenCost, .int Model_thenWays, .int Model_bothCost, .int Model_bothWays, .ref a_Model_handOf, .ref a_Model_crossedAt, .ref a_Model_strokeOf, .ref a_Model_prices, .ref a_Model_hitAt, .ref a_Model_carried])), (a_Model_now, .inl (cI, 187, .inl Model_now)), (a_Model_past, .inl (cI, 3740, .inl Model_past))] := hD
        cases hf
        exact k_vret () hQ9 hx hb hr hlocks rfl hP hD hS (Nat.le_of_ble_eq_true rfl) (Nat.le_of_ble_eq_true rfl) dX11_keep_96
      · have hf := ite_f c1 hf
        refine lv_aload_n hx hb dX11_keep_59 rfl (lv_at hl 0 rfl) ?_
        refine va_get (D := D) (ci := 11) (v := .ref a_Model_past) (C := RX11) (T := TX11) (N := 19) hx hb hts inX11 hown hK hP 0 rfl rfl 1 (by decide) fl13 (fun _ h9 => h9) rfl dX11_keep_60 ?_
        refine lv_aload_n hx hb dX11_keep_63 rfl (lv_at hl 0 rfl) ?_
        refine va_get (D := D) (ci := 11) (v := .int Model_kept) (C := RX11) (T := TX11) (N := 19) hx hb hts inX11 hown hK hP 0 rfl rfl 2 (by decide) fl58 (fun _ h9 => h9) rfl dX11_keep_64 ?_
        refine lv_sipush (v := 187) hx hb dX11_keep_67 (by decide) ?_
        refine lv_imul hx hb dX11_keep_70 ?_
        refine lv_iload_n hx hb dX11_keep_71 rfl (lv_at hl 1 rfl) ?_
        refine lv_iadd hx hb dX11_keep_72 ?_
        refine lv_aload_n hx hb dX11_keep_73 rfl (lv_at hl 0 rfl) ?_
        refine va_get (D := D) (ci := 11) (v := .ref a_Model_now) (C := RX11) (T := TX11) (N := 19) hx hb hts inX11 hown hK hP 0 rfl rfl 0 (by decide) fl9 (fun _ h9 => h9) rfl dX11_keep_74 ?_
        refine lv_iload_n hx hb dX11_keep_77 rfl (lv_at hl 1 rfl) ?_
        obtain ⟨ix3, x3, ex3, hf⟩ := rd_s hf
        refine va_iald hx hb hK hP 1 0 rfl rfl ix3 dX11_keep_78 ?_
        refine lv_tpx ex3 ?_
        obtain ⟨i4, hf⟩ := ck_s hf
        refine va_iast hx hb hK hP hD hS 2 0 rfl rfl i4 dX11_keep_79 (fun H locs hP hD hS => ?_)
        have hP : va_P D vwCl [(a_Model, .inr (11, [.ref a_Model_now, .ref a_Model_past, .int Model_kept, .int Model_findings, .ref a_Model_bits, .ref a_Model_sizes, .ref a_Model_sheets, .ref a_Model_least, .ref a_Model_ways, .int Model_thenCost, .int Model_thenWays, .int Model_bothCost, .int Model_bothWays, .ref a_Model_handOf, .ref a_Model_crossedAt, .ref a_Model_strokeOf, .ref a_Model_prices, .ref a_Model_hitAt, .ref a_Model_carried])), (a_Model_now, .inl (cI, 187, .inl Model_now)), (a_Model_past, .inl (cI, 3740, .inl (upd Model_past ((Model_kept * 187) + l1).toNatClampNeg x3)))] H := hP
        have hD : va_D A [(a_Model, .inr (11, [.ref a_Model_now, .ref a_Model_past, .int Model_kept, .int Model_findings, .ref a_Model_bits, .ref a_Model_sizes, .ref a_Model_sheets, .ref a_Model_least, .ref a_Model_ways, .int Model_thenCost, .int Model_thenWays, .int Model_bothCost, .int Model_bothWays, .ref a_Model_handOf, .ref a_Model_crossedAt, .ref a_Model_strokeOf, .ref a_Model_prices, .ref a_Model_hitAt, .ref a_Model_carried])), (a_Model_now, .inl (cI, 187, .inl Model_now)), (a_Model_past, .inl (cI, 3740, .inl (upd Model_past ((Model_kept * 187) + l1).toNatClampNeg x3)))] := hD
        obtain ⟨x5, ex5, hf⟩ := nm_s hf
        refine lv_iinc (v := x5) (lv' := [(1, .int x5), (0, .ref a_Model)]) hx hb dX11_keep_80 hl (k := 1) rfl (by rw [ex5]; rfl) (by decide) rfl (fun ls hl => ?_)
        refine lv_goto (tgt := 52) hx hb dX11_keep_83 (by decide) ?_
        exact ih52 x5 (upd Model_past ((Model_kept * 187) + l1).toNatClampNeg x3) Model_kept H locs ls hP hD hS (lv_sub hl [1, 0] rfl) hf
  have hL11 : ∀ (n11 : Nat) (l1 : Int32) (Model_past : Nat → Int32) (Model_kept : Int32) (H : Heap) (locs : List Loc) (ls : Array Slot), va_P D vwCl [(a_Model, .inr (11, [.ref a_Model_now, .ref a_Model_past, .int Model_kept, .int Model_findings, .ref a_Model_bits, .ref a_Model_sizes, .ref a_Model_sheets, .ref a_Model_least, .ref a_Model_ways, .int Model_thenCost, .int Model_thenWays, .int Model_bothCost, .int Model_bothWays, .ref a_Model_handOf, .ref a_Model_crossedAt, .ref a_Model_strokeOf, .ref a_Model_prices, .ref a_Model_hitAt, .ref a_Model_carried])), (a_Model_now, .inl (cI, 187, .inl Model_now)), (a_Model_past, .inl (cI, 3740, .inl Model_past))] H → va_D A [(a_Model, .inr (11, [.ref a_Model_now, .ref a_Model_past, .int Model_kept, .int Model_findings, .ref a_Model_bits, .ref a_Model_sizes, .ref a_Model_sheets, .ref a_Model_least, .ref a_Model_ways, .int Model_thenCost, .int Model_thenWays, .int Model_bothCost, .int Model_bothWays, .ref a_Model_handOf, .ref a_Model_crossedAt, .ref a_Model_strokeOf, .ref a_Model_prices, .ref a_Model_hitAt, .ref a_Model_carried])), (a_Model_now, .inl (cI, 187, .inl Model_now)), (a_Model_past, .inl (cI, 3740, .inl Model_past))] → va_S A s.heap H locs → lv_has ls 2 [(0, .ref a_Model), (1, .int l1)] → f_Model_keep_11 Model_now  n11 l1 Model_past Model_kept = some (z_Model_past, z_Model_kept) → W p l e (headSpec wsX11_keep rm_Model_keep).room s m ([.ref a_Model] : List Value).toArray below meth c H locs 0 0 Q9 (F0 m 11 ls []) := by
    intro n11
    induction n11 with
    | zero => intro l1 Model_past Model_kept H locs ls hP hD hS hl hf; exact nomatch (show none = some (z_Model_past, z_Model_kept) from hf)
    | succ n11 ih11 =>
      intro l1 Model_past Model_kept H locs ls hP hD hS hl hf
      have hf : f_Model_keep_11_b Model_now  (f_Model_keep_11 Model_now  n11) l1 Model_past Model_kept = some (z_Model_past, z_Model_kept) := hf
      unfold f_Model_keep_11_b at hf
      refine lv_iload_n hx hb dX11_keep_11 rfl (lv_at hl 1 rfl) ?_
      refine lv_sipush (v := 3553) hx hb dX11_keep_12 (by decide) ?_
      refine lv_icmp_ge (tgt := 40) hx hb dX11_keep_15 (by decide) (fun c6 => ?_) (fun c6 => ?_)
      · have hf := ite_t c6 hf
        refine lv_aload_n hx hb dX11_keep_40 rfl (lv_at hl 0 rfl) ?_
        refine lv_dup hx hb dX11_keep_41 rfl ?_
        refine va_get (D := D) (ci := 11) (v := .int Model_kept) (C := RX11) (T := TX11) (N := 19) hx hb hts inX11 hown hK hP 0 rfl rfl 2 (by decide) fl58 (fun _ h9 => h9) rfl dX11_keep_42 ?_
        refine lv_iconst (v := 1) hx hb dX11_keep_45 (by decide) ?_
        refine lv_isub hx hb dX11_keep_46 ?_
        obtain ⟨x7, ex7, hf⟩ := nm_s hf
        refine lv_tpx ex7 ?_
        refine va_put (D := D) (ci := 11) (v := .int x7) (ty := .int) (C := RX11) (T := TX11) (N := 19) hx hb hts inX11 tyX11 tyX11_ok nmX11 hown hK hP hD hS 0 rfl rfl 2 (by decide) fl58 (fun _ h9 => h9) rfl (by decide +kernel) rfl rfl (Nat.le_of_ble_eq_true rfl) dX11_keep_47 (fun H locs hP hD hS => ?_)
        have hP : va_P D vwCl [(a_Model, .inr (11, [.ref a_Model_now, .ref a_Model_past, .int x7, .int Model_findings, .ref a_Model_bits, .ref a_Model_sizes, .ref a_Model_sheets, .ref a_Model_least, .ref a_Model_ways, .int Model_thenCost, .int Model_thenWays, .int Model_bothCost, .int Model_bothWays, .ref a_Model_handOf, .ref a_Model_crossedAt, .ref a_Model_strokeOf, .ref a_Model_prices, .ref a_Model_hitAt, .ref a_Model_carried])), (a_Model_now, .inl (cI, 187, .inl Model_now)), (a_Model_past, .inl (cI, 3740, .inl Model_past))] H := hP
        have hD : va_D A [(a_Model, .inr (11, [.ref a_Model_now, .ref a_Model_past, .int x7, .int Model_findings, .ref a_Model_bits, .ref a_Model_sizes, .ref a_Model_sheets, .ref a_Model_least, .ref a_Model_ways, .int Model_thenCost, .int Model_thenWays, .int Model_bothCost, .int Model_bothWays, .ref a_Model_handOf, .ref a_Model_crossedAt, .ref a_Model_strokeOf, .ref a_Model_prices, .ref a_Model_hitAt, .ref a_Model_carried])), (a_Model_now, .inl (cI, 187, .inl Model_now)), (a_Model_past, .inl (cI, 3740, .inl Model_past))] := hD
        refine lv_iconst (v := 0) hx hb dX11_keep_50 (by decide) ?_
        refine lv_istore_n (lv' := [(1, .int 0), (0, .ref a_Model)]) hx hb dX11_keep_51 rfl hl (by decide) rfl (fun ls hl => ?_)
        exact hL52 fu 0 Model_past x7 H locs ls hP hD hS (lv_sub hl [1, 0] rfl) hf
      · have hf := ite_f c6 hf
        refine lv_aload_n hx hb dX11_keep_18 rfl (lv_at hl 0 rfl) ?_
        refine va_get (D := D) (ci := 11) (v := .ref a_Model_past) (C := RX11) (T := TX11) (N := 19) hx hb hts inX11 hown hK hP 0 rfl rfl 1 (by decide) fl13 (fun _ h9 => h9) rfl dX11_keep_19 ?_
        refine lv_iload_n hx hb dX11_keep_22 rfl (lv_at hl 1 rfl) ?_
        refine lv_aload_n hx hb dX11_keep_23 rfl (lv_at hl 0 rfl) ?_
        refine va_get (D := D) (ci := 11) (v := .ref a_Model_past) (C := RX11) (T := TX11) (N := 19) hx hb hts inX11 hown hK hP 0 rfl rfl 1 (by decide) fl13 (fun _ h9 => h9) rfl dX11_keep_24 ?_
        refine lv_iload_n hx hb dX11_keep_27 rfl (lv_at hl 1 rfl) ?_
        refine lv_sipush (v := 187) hx hb dX11_keep_28 (by decide) ?_
        refine lv_iadd hx hb dX11_keep_31 ?_
        obtain ⟨ix8, x8, ex8, hf⟩ := rd_s hf
        refine va_iald hx hb hK hP 2 0 rfl rfl ix8 dX11_keep_32 ?_
        refine lv_tpx ex8 ?_
        obtain ⟨i9, hf⟩ := ck_s hf
        refine va_iast hx hb hK hP hD hS 2 0 rfl rfl i9 dX11_keep_33 (fun H locs hP hD hS => ?_)
        have hP : va_P D vwCl [(a_Model, .inr (11, [.ref a_Model_now, .ref a_Model_past, .int Model_kept, .int Model_findings, .ref a_Model_bits, .ref a_Model_sizes, .ref a_Model_sheets, .ref a_Model_least, .ref a_Model_ways, .int Model_thenCost, .int Model_thenWays, .int Model_bothCost, .int Model_bothWays, .ref a_Model_handOf, .ref a_Model_crossedAt, .ref a_Model_strokeOf, .ref a_Model_prices, .ref a_Model_hitAt, .ref a_Model_carried])), (a_Model_now, .inl (cI, 187, .inl Model_now)), (a_Model_past, .inl (cI, 3740, .inl (upd Model_past l1.toNatClampNeg x8)))] H := hP
        have hD : va_D A [(a_Model, .inr (11, [.ref a_Model_now, .ref a_Model_past, .int Model_kept, .int Model_findings, .ref a_Model_bits, .ref a_Model_sizes, .ref a_Model_sheets, .ref a_Model_least, .ref a_Model_ways, .int Model_thenCost, .int Model_thenWays, .int Model_bothCost, .int Model_bothWays, .ref a_Model_handOf, .ref a_Model_crossedAt, .ref a_Model_strokeOf, .ref a_Model_prices, .ref a_Model_hitAt, .ref a_Model_carried])), (a_Model_now, .inl (cI, 187, .inl Model_now)), (a_Model_past, .inl (cI, 3740, .inl (upd Model_past l1.toNatClampNeg x8)))] := hD
        obtain ⟨x10, ex10, hf⟩ := nm_s hf
        refine lv_iinc (v := x10) (lv' := [(1, .int x10), (0, .ref a_Model)]) hx hb dX11_keep_34 hl (k := 1) rfl (by rw [ex10]; rfl) (by decide) rfl (fun ls hl => ?_)
        refine lv_goto (tgt := 11) hx hb dX11_keep_37 (by decide) ?_
        exact ih11 x10 (upd Model_past l1.toNatClampNeg x8) Model_kept H locs ls hP hD hS (lv_sub hl [1, 0] rfl) hf
  unfold f_Model_keep at hf
  refine lv_aload_n hx hb dX11_keep_0 rfl (lv_at hl 0 rfl) ?_
  refine va_get (D := D) (ci := 11) (v := .int Model_kept) (C := RX11) (T := TX11) (N := 19) hx hb hts inX11 hown hK hP 0 rfl rfl 2 (by decide) fl58 (fun _ h9 => h9) rfl dX11_keep_1 ?_
  refine lv_bipush (v := 20) hx hb dX11_keep_4 (by decide) ?_
  refine lv_icmp_ne (tgt := 50) hx hb dX11_keep_6 (by decide) (fun c11 => ?_) (fun c11 => ?_)
  · have hf := ite_f c11 hf
    refine lv_iconst (v := 0) hx hb dX11_keep_50 (by decide) ?_
    refine lv_istore_n (lv' := [(1, .int 0), (0, .ref a_Model)]) hx hb dX11_keep_51 rfl hl (by decide) rfl (fun ls hl => ?_)
    exact hL52 fu 0 Model_past Model_kept s.heap [] ls hP hD hS (lv_sub hl [1, 0] rfl) hf
  · have hf := ite_t c11 hf
    refine lv_iconst (v := 0) hx hb dX11_keep_9 (by decide) ?_
    refine lv_istore_n (lv' := [(1, .int 0), (0, .ref a_Model)]) hx hb dX11_keep_10 rfl hl (by decide) rfl (fun ls hl => ?_)
    exact hL11 fu 0 Model_past Model_kept s.heap [] ls hP hD hS (lv_sub hl [1, 0] rfl) hf
abbrev rm_Model_graces : Room := { frames := 0, cells := 0, slots := 0, locals := 0 }
set_option maxHeartbeats 4000000 in
set_option maxRecDepth 100000 in
theorem c_Model_graces (l : Launch) (D : va_G) (cI cZ : ClassId) (t : Nat → Nat) (a_Model a_Model_now a_Model_past a_Model_bits a_Model_sizes a_Model_sheets a_Model_least a_Model_ways a_Model_handOf a_Model_crossedAt a_Model_strokeOf a_Model_prices a_Model_hitAt a_Model_carried sz : Nat) (Model_now : Nat → Int32) (Model_kept Model_findings Model_thenCost Model_thenWays Model_bothCost Model_bothWays p1 zr : Int32) (hf : f_Model_graces Model_now p1 = some zr) : Met l yX11_graces wsX11_graces rm_Model_graces (va_Pc [.ref a_Model, .int p1] (pcW D cI cZ t [(a_Model, .inr (11, [.ref a_Model_now, .ref a_Model_past, .int Model_kept, .int Model_findings, .ref a_Model_bits, .ref a_Model_sizes, .ref a_Model_sheets, .ref a_Model_least, .ref a_Model_ways, .int Model_thenCost, .int Model_thenWays, .int Model_bothCost, .int Model_bothWays, .ref a_Model_handOf, .ref a_Model_crossedAt, .ref a_Model_strokeOf, .ref a_Model_prices, .ref a_Model_hitAt, .ref a_Model_carried])), (a_Model_now, .inl (cI, 187, .inl Model_now))] sz)) (va_Qi (fun r (u : Unit) => r = zr) (fun u t' => bW D (va_A [(a_Model, .inr (11, [.ref a_Model_now, .ref a_Model_past, .int Model_kept, .int Model_findings, .ref a_Model_bits, .ref a_Model_sizes, .ref a_Model_sheets, .ref a_Model_least, .ref a_Model_ways, .int Model_thenCost, .int Model_thenWays, .int Model_bothCost, .int Model_bothWays, .ref a_Model_handOf, .ref a_Model_crossedAt, .ref a_Model_strokeOf, .ref a_Model_prices, .ref a_Model_hitAt, .ref a_Model_carried])), (a_Model_now, .inl (cI, 187, .inl Model_now))] sz) [(a_Model, .inr (11, [.ref a_Model_now, .ref a_Model_past, .int Model_kept, .int Model_findings, .ref a_Model_bits, .ref a_Model_sizes, .ref a_Model_sheets, .ref a_Model_least, .ref a_Model_ways, .int Model_thenCost, .int Model_thenWays, .int Model_bothCost, .int Model_bothWays, .ref a_Model_handOf, .ref a_Model_crossedAt, .ref a_Model_strokeOf, .ref a_Model_prices, .ref a_Model_hitAt, .ref a_Model_carried])), (a_Model_now, .inl (cI, 187, .inl Model_now))] t') (va_A [(a_Model, .inr (11, [.ref a_Model_now, .ref a_Model_past, .int Model_kept, .int Model_findings, .ref a_Model_bits, .ref a_Model_sizes, .ref a_Model_sheets, .ref a_Model_least, .ref a_Model_ways, .int Model_thenCost, .int Model_thenWays, .int Model_bothCost, .int Model_bothWays, .ref a_Model_handOf, .ref a_Model_crossedAt, .ref a_Model_strokeOf, .ref a_Model_prices, .ref a_Model_hitAt, .ref a_Model_carried])), (a_Model_now, .inl (cI, 187, .inl Model_now))] sz)) 0 0 (va_A [(a_Model, .inr (11, [.ref a_Model_now, .ref a_Model_past, .int Model_kept, .int Model_findings, .ref a_Model_bits, .ref a_Model_sizes, .ref a_Model_sheets, .ref a_Model_least, .ref a_Model_ways, .int Model_thenCost, .int Model_thenWays, .int Model_bothCost, .int Model_bothWays, .ref a_Model_handOf, .ref a_Model_crossedAt, .ref a_Model_strokeOf, .ref a_Model_prices, .ref a_Model_hitAt, .ref a_Model_carried])), (a_Model_now, .inl (cI, 187, .inl Model_now))] sz) := by
  refine Met.ofW (cc := cX11_graces) (maxL := 2) (ret := (some .int)) (by decide) rfl ?_
  intro p e s m args below meth c s₁ B hml hv
  obtain ⟨rfl, hsz, hP, hD0, hE⟩ := hv
  have hx := B.exec
  have hb := B.bytes
  have hr := B.returns
  have hts := atoms_spec (ws := wsX11_graces) B.pre
  have hown : s.vm.findClass RX11 = some m.cls := findClass_of_methodNamed B.named
  have hlocks := B.notSynchronized
  subst hsz
  have hD := hD0.self (sz := s.heap.size)
  generalize hAe : va_A [(a_Model, .inr (11, [.ref a_Model_now, .ref a_Model_past, .int Model_kept, .int Model_findings, .ref a_Model_bits, .ref a_Model_sizes, .ref a_Model_sheets, .ref a_Model_least, .ref a_Model_ways, .int Model_thenCost, .int Model_thenWays, .int Model_bothCost, .int Model_bothWays, .ref a_Model_handOf, .ref a_Model_crossedAt, .ref a_Model_strokeOf, .ref a_Model_prices, .ref a_Model_hitAt, .ref a_Model_carried])), (a_Model_now, .inl (cI, 187, .inl Model_now))] s.heap.size = A at hD hE ⊢
  have hA : ∀ q : Nat, s.heap.size ≤ q → A q := fun q h => by rw [← hAe]; exact Or.inr h
  clear hAe hD0
  have hS : va_S A s.heap s.heap [] := va_S.rf
  have hK := hE.1
  have hl := lv_entry ([.ref a_Model, .int p1]) (n := 2) (Nat.le_of_ble_eq_true rfl)
  rw [lg_entry_eq]
  generalize (lg_sl ([.ref a_Model, .int p1]) ++ List.replicate (2 - (lg_sl ([.ref a_Model, .int p1])).length) Slot.unset).toArray = ls at hl ⊢
  have hl : lv_has ls 2 [(0, .ref a_Model), (1, .int p1)] := hl
  refine w_q (fun Q9 hQ9 => ?_)
  have fl9 := hts (.fieldLink RX11 9 "StickRoomModel" "now" "[I") (by decide +kernel)
  have inX11 : ∀ w ∈ wsX110, w ∈ wsX11_graces := by decide +kernel
  unfold f_Model_graces at hf
  refine lv_aload_n hx hb dX11_graces_0 rfl (lv_at hl 0 rfl) ?_
  refine va_get (D := D) (ci := 11) (v := .ref a_Model_now) (C := RX11) (T := TX11) (N := 19) hx hb hts inX11 hown hK hP 0 rfl rfl 0 (by decide) fl9 (fun _ h9 => h9) rfl dX11_graces_1 ?_
  refine lv_bipush (v := 7) hx hb dX11_graces_4 (by decide) ?_
  refine lv_iload_n hx hb dX11_graces_6 rfl (lv_at hl 1 rfl) ?_
  refine lv_iadd hx hb dX11_graces_7 ?_
  obtain ⟨ix1, x1, ex1, hf⟩ := rd_s hf
  refine va_iald hx hb hK hP 1 0 rfl rfl ix1 dX11_graces_8 ?_
  refine lv_tpx ex1 ?_
  refine lv_iconst (v := 3) hx hb dX11_graces_9 (by decide) ?_
  refine lv_icmp_ne (tgt := 17) hx hb dX11_graces_10 (by decide) (fun c2 => ?_) (fun c2 => ?_)
  · have hf := ite_f c2 hf
    refine lv_aload_n hx hb dX11_graces_17 rfl (lv_at hl 0 rfl) ?_
    refine va_get (D := D) (ci := 11) (v := .ref a_Model_now) (C := RX11) (T := TX11) (N := 19) hx hb hts inX11 hown hK hP 0 rfl rfl 0 (by decide) fl9 (fun _ h9 => h9) rfl dX11_graces_18 ?_
    refine lv_bipush (v := 7) hx hb dX11_graces_21 (by decide) ?_
    refine lv_iload_n hx hb dX11_graces_23 rfl (lv_at hl 1 rfl) ?_
    refine lv_iadd hx hb dX11_graces_24 ?_
    obtain ⟨ix3, x3, ex3, hf⟩ := rd_s hf
    refine va_iald hx hb hK hP 1 0 rfl rfl ix3 dX11_graces_25 ?_
    refine lv_tpx ex3 ?_
    refine lv_iconst (v := 2) hx hb dX11_graces_26 (by decide) ?_
    refine lv_icmp_ne (tgt := 34) hx hb dX11_graces_27 (by decide) (fun c4 => ?_) (fun c4 => ?_)
    · have hf := ite_f c4 hf
      refine lv_iconst (v := 0) hx hb dX11_graces_34 (by decide) ?_
      cases hf
      exact k_iret () hQ9 hx hb hr hlocks rfl hP hD hS (Nat.le_of_ble_eq_true rfl) (Nat.le_of_ble_eq_true rfl) dX11_graces_35
    · have hf := ite_t c4 hf
      refine lv_iconst (v := 1) hx hb dX11_graces_30 (by decide) ?_
      refine lv_goto (tgt := 35) hx hb dX11_graces_31 (by decide) ?_
      cases hf
      exact k_iret () hQ9 hx hb hr hlocks rfl hP hD hS (Nat.le_of_ble_eq_true rfl) (Nat.le_of_ble_eq_true rfl) dX11_graces_35
  · have hf := ite_t c2 hf
    refine lv_iconst (v := 2) hx hb dX11_graces_13 (by decide) ?_
    refine lv_goto (tgt := 35) hx hb dX11_graces_14 (by decide) ?_
    cases hf
    exact k_iret () hQ9 hx hb hr hlocks rfl hP hD hS (Nat.le_of_ble_eq_true rfl) (Nat.le_of_ble_eq_true rfl) dX11_graces_35
abbrev rm_Model_mostOf : Room := { frames := 0, cells := 0, slots := 0, locals := 0 }
set_option maxHeartbeats 4000000 in
set_option maxRecDepth 100000 in
theorem c_Model_mostOf (l : Launch) (D : va_G) (cI cZ : ClassId) (t : Nat → Nat) (sz : Nat) (p0 zr : Int32) (hf : f_Model_mostOf p0 = some zr) : Met l yX11_mostOf wsX11_mostOf rm_Model_mostOf (va_Pc [.int p0] (pcW D cI cZ t [] sz)) (va_Qi (fun r (u : Unit) => r = zr) (fun u t' => bW D (va_A [] sz) [] t') (va_A [] sz)) 0 0 (va_A [] sz) := by
  refine Met.ofW (cc := cX11_mostOf) (maxL := 1) (ret := (some .int)) (by decide) rfl ?_
  intro p e s m args below meth c s₁ B hml hv
  obtain ⟨rfl, hsz, hP, hD0, hE⟩ := hv
  have hx := B.exec
  have hb := B.bytes
  have hr := B.returns
  have hts := atoms_spec (ws := wsX11_mostOf) B.pre
  have hown : s.vm.findClass RX11 = some m.cls := findClass_of_methodNamed B.named
  have hlocks := B.notSynchronized
  subst hsz
  have hD := hD0.self (sz := s.heap.size)
  generalize hAe : va_A [] s.heap.size = A at hD hE ⊢
  have hA : ∀ q : Nat, s.heap.size ≤ q → A q := fun q h => by rw [← hAe]; exact Or.inr h
  clear hAe hD0
  have hS : va_S A s.heap s.heap [] := va_S.rf
  have hK := hE.1
  have hl := lv_entry ([.int p0]) (n := 1) (Nat.le_of_ble_eq_true rfl)
  rw [lg_entry_eq]
  generalize (lg_sl ([.int p0]) ++ List.replicate (1 - (lg_sl ([.int p0])).length) Slot.unset).toArray = ls at hl ⊢
  have hl : lv_has ls 1 [(0, .int p0)] := hl
  refine w_q (fun Q9 hQ9 => ?_)
  unfold f_Model_mostOf at hf
  refine lv_iload_n hx hb dX11_mostOf_0 rfl (lv_at hl 0 rfl) ?_
  refine lv_if_eq (tgt := 9) hx hb dX11_mostOf_1 (by decide) (fun c1 => ?_) (fun c1 => ?_)
  · have hf := ite_t c1 hf
    refine lv_sipush (v := 200) hx hb dX11_mostOf_9 (by decide) ?_
    refine lv_goto (tgt := 26) hx hb dX11_mostOf_12 (by decide) ?_
    cases hf
    exact k_iret () hQ9 hx hb hr hlocks rfl hP hD hS (Nat.le_of_ble_eq_true rfl) (Nat.le_of_ble_eq_true rfl) dX11_mostOf_26
  · have hf := ite_f c1 hf
    refine lv_iload_n hx hb dX11_mostOf_4 rfl (lv_at hl 0 rfl) ?_
    refine lv_iconst (v := 3) hx hb dX11_mostOf_5 (by decide) ?_
    refine lv_icmp_ne (tgt := 15) hx hb dX11_mostOf_6 (by decide) (fun c2 => ?_) (fun c2 => ?_)
    · have hf := ite_f c2 hf
      refine lv_iload_n hx hb dX11_mostOf_15 rfl (lv_at hl 0 rfl) ?_
      refine lv_iconst (v := 2) hx hb dX11_mostOf_16 (by decide) ?_
      refine lv_icmp_ne (tgt := 24) hx hb dX11_mostOf_17 (by decide) (fun c3 => ?_) (fun c3 => ?_)
      · have hf := ite_f c3 hf
        refine lv_bipush (v := 100) hx hb dX11_mostOf_24 (by decide) ?_
        cases hf
        exact k_iret () hQ9 hx hb hr hlocks rfl hP hD hS (Nat.le_of_ble_eq_true rfl) (Nat.le_of_ble_eq_true rfl) dX11_mostOf_26
      · have hf := ite_t c3 hf
        refine lv_iconst (v := 4) hx hb dX11_mostOf_20 (by decide) ?_
        refine lv_goto (tgt := 26) hx hb dX11_mostOf_21 (by decide) ?_
        cases hf
        exact k_iret () hQ9 hx hb hr hlocks rfl hP hD hS (Nat.le_of_ble_eq_true rfl) (Nat.le_of_ble_eq_true rfl) dX11_mostOf_26
    · have hf := ite_t c2 hf
      refine lv_sipush (v := 200) hx hb dX11_mostOf_9 (by decide) ?_
      refine lv_goto (tgt := 26) hx hb dX11_mostOf_12 (by decide) ?_
      cases hf
      exact k_iret () hQ9 hx hb hr hlocks rfl hP hD hS (Nat.le_of_ble_eq_true rfl) (Nat.le_of_ble_eq_true rfl) dX11_mostOf_26
abbrev rm_Model_isNote : Room := { frames := 1, cells := 0, slots := 0, locals := 22 }
set_option maxHeartbeats 4000000 in
set_option maxRecDepth 100000 in
theorem c_Model_isNote (l : Launch) (D : va_G) (cI cZ : ClassId) (t : Nat → Nat) (a_Model a_Model_now a_Model_past a_Model_bits a_Model_sizes a_Model_sheets a_Model_least a_Model_ways a_Model_handOf a_Model_crossedAt a_Model_strokeOf a_Model_prices a_Model_hitAt a_Model_carried sz : Nat) (Model_now : Nat → Int32) (Model_kept Model_findings Model_thenCost Model_thenWays Model_bothCost Model_bothWays p1 zr : Int32) (hf : f_Model_isNote Model_now p1 = some zr) : Met l yX11_isNote wsX11_isNote rm_Model_isNote (va_Pc [.ref a_Model, .int p1] (pcW D cI cZ t [(a_Model, .inr (11, [.ref a_Model_now, .ref a_Model_past, .int Model_kept, .int Model_findings, .ref a_Model_bits, .ref a_Model_sizes, .ref a_Model_sheets, .ref a_Model_least, .ref a_Model_ways, .int Model_thenCost, .int Model_thenWays, .int Model_bothCost, .int Model_bothWays, .ref a_Model_handOf, .ref a_Model_crossedAt, .ref a_Model_strokeOf, .ref a_Model_prices, .ref a_Model_hitAt, .ref a_Model_carried])), (a_Model_now, .inl (cI, 187, .inl Model_now))] sz)) (va_Qi (fun r (u : Unit) => r = zr) (fun u t' => bW D (va_A [(a_Model, .inr (11, [.ref a_Model_now, .ref a_Model_past, .int Model_kept, .int Model_findings, .ref a_Model_bits, .ref a_Model_sizes, .ref a_Model_sheets, .ref a_Model_least, .ref a_Model_ways, .int Model_thenCost, .int Model_thenWays, .int Model_bothCost, .int Model_bothWays, .ref a_Model_handOf, .ref a_Model_crossedAt, .ref a_Model_strokeOf, .ref a_Model_prices, .ref a_Model_hitAt, .ref a_Model_carried])), (a_Model_now, .inl (cI, 187, .inl Model_now))] sz) [(a_Model, .inr (11, [.ref a_Model_now, .ref a_Model_past, .int Model_kept, .int Model_findings, .ref a_Model_bits, .ref a_Model_sizes, .ref a_Model_sheets, .ref a_Model_least, .ref a_Model_ways, .int Model_thenCost, .int Model_thenWays, .int Model_bothCost, .int Model_bothWays, .ref a_Model_handOf, .ref a_Model_crossedAt, .ref a_Model_strokeOf, .ref a_Model_prices, .ref a_Model_hitAt, .ref a_Model_carried])), (a_Model_now, .inl (cI, 187, .inl Model_now))] t') (va_A [(a_Model, .inr (11, [.ref a_Model_now, .ref a_Model_past, .int Model_kept, .int Model_findings, .ref a_Model_bits, .ref a_Model_sizes, .ref a_Model_sheets, .ref a_Model_least, .ref a_Model_ways, .int Model_thenCost, .int Model_thenWays, .int Model_bothCost, .int Model_bothWays, .ref a_Model_handOf, .ref a_Model_crossedAt, .ref a_Model_strokeOf, .ref a_Model_prices, .ref a_Model_hitAt, .ref a_Model_carried])), (a_Model_now, .inl (cI, 187, .inl Model_now))] sz)) 0 0 (va_A [(a_Model, .inr (11, [.ref a_Model_now, .ref a_Model_past, .int Model_kept, .int Model_findings, .ref a_Model_bits, .ref a_Model_sizes, .ref a_Model_sheets, .ref a_Model_least, .ref a_Model_ways, .int Model_thenCost, .int Model_thenWays, .int Model_bothCost, .int Model_bothWays, .ref a_Model_handOf, .ref a_Model_crossedAt, .ref a_Model_strokeOf, .ref a_Model_prices, .ref a_Model_hitAt, .ref a_Model_carried])), (a_Model_now, .inl (cI, 187, .inl Model_now))] sz) := by
  refine Met.ofW (cc := cX11_isNote) (maxL := 2) (ret := (some .boolean)) (by decide) rfl ?_
  intro p e s m args below meth c s₁ B hml hv
  obtain ⟨rfl, hsz, hP, hD0, hE⟩ := hv
  have hx := B.exec
  have hb := B.bytes
  have hr := B.returns
  have hts := atoms_spec (ws := wsX11_isNote) B.pre
  have hown : s.vm.findClass RX11 = some m.cls := findClass_of_methodNamed B.named
  have hlocks := B.notSynchronized
  subst hsz
  have hD := hD0.self (sz := s.heap.size)
  generalize hAe : va_A [(a_Model, .inr (11, [.ref a_Model_now, .ref a_Model_past, .int Model_kept, .int Model_findings, .ref a_Model_bits, .ref a_Model_sizes, .ref a_Model_sheets, .ref a_Model_least, .ref a_Model_ways, .int Model_thenCost, .int Model_thenWays, .int Model_bothCost, .int Model_bothWays, .ref a_Model_handOf, .ref a_Model_crossedAt, .ref a_Model_strokeOf, .ref a_Model_prices, .ref a_Model_hitAt, .ref a_Model_carried])), (a_Model_now, .inl (cI, 187, .inl Model_now))] s.heap.size = A at hD hE ⊢
  have hA : ∀ q : Nat, s.heap.size ≤ q → A q := fun q h => by rw [← hAe]; exact Or.inr h
  clear hAe hD0
  have hS : va_S A s.heap s.heap [] := va_S.rf
  have hK := hE.1
  have hl := lv_entry ([.ref a_Model, .int p1]) (n := 2) (Nat.le_of_ble_eq_true rfl)
  rw [lg_entry_eq]
  generalize (lg_sl ([.ref a_Model, .int p1]) ++ List.replicate (2 - (lg_sl ([.ref a_Model, .int p1])).length) Slot.unset).toArray = ls at hl ⊢
  have hl : lv_has ls 2 [(0, .ref a_Model), (1, .int p1)] := hl
  refine w_q (fun Q9 hQ9 => ?_)
  have fl9 := hts (.fieldLink RX11 9 "StickRoomModel" "now" "[I") (by decide +kernel)
  have inX11 : ∀ w ∈ wsX110, w ∈ wsX11_isNote := by decide +kernel
  unfold f_Model_isNote at hf
  refine lv_iload_n hx hb dX11_isNote_0 rfl (lv_at hl 1 rfl) ?_
  refine lv_iconst (v := 0) hx hb dX11_isNote_1 (by decide) ?_
  refine lv_aload_n hx hb dX11_isNote_2 rfl (lv_at hl 0 rfl) ?_
  refine va_get (D := D) (ci := 11) (v := .ref a_Model_now) (C := RX11) (T := TX11) (N := 19) hx hb hts inX11 hown hK hP 0 rfl rfl 0 (by decide) fl9 (fun _ h9 => h9) rfl dX11_isNote_3 ?_
  refine lv_iconst (v := 0) hx hb dX11_isNote_6 (by decide) ?_
  obtain ⟨ix1, x1, ex1, hf⟩ := rd_s hf
  refine va_iald hx hb hK hP 1 0 rfl rfl ix1 dX11_isNote_7 ?_
  refine lv_tpx ex1 ?_
  refine lv_iconst (v := 1) hx hb dX11_isNote_8 (by decide) ?_
  refine lv_isub hx hb dX11_isNote_9 ?_
  obtain ⟨r2, g3, hf⟩ := b1_s hf
  refine k_Si (rest := []) ⟨hx, hb, hml, hown, hts⟩ (c_Model_within l D cI cZ t  s.heap.size p1 0 (x1 - 1) r2 g3) (va_cwS 3 hts gX11_isNote_X11_within rfl rfl rfl (by decide +kernel) ⟨Nat.le_of_ble_eq_true rfl, Nat.le_of_ble_eq_true rfl⟩) hE hP hD hS hA [] [0, 1] rfl rfl rfl rfl rfl rfl hl.1 rfl (Nat.le_of_ble_eq_true rfl) dX11_isNote_10 ⟨Nat.le_of_ble_eq_true rfl, Nat.le_of_ble_eq_true rfl⟩ (fun rq uq H locs hrq hP hD hS => ?_)
  refine lv_tpx hrq.symm ?_
  have hP : va_P D vwCl [(a_Model, .inr (11, [.ref a_Model_now, .ref a_Model_past, .int Model_kept, .int Model_findings, .ref a_Model_bits, .ref a_Model_sizes, .ref a_Model_sheets, .ref a_Model_least, .ref a_Model_ways, .int Model_thenCost, .int Model_thenWays, .int Model_bothCost, .int Model_bothWays, .ref a_Model_handOf, .ref a_Model_crossedAt, .ref a_Model_strokeOf, .ref a_Model_prices, .ref a_Model_hitAt, .ref a_Model_carried])), (a_Model_now, .inl (cI, 187, .inl Model_now))] H := hP
  have hD : va_D A [(a_Model, .inr (11, [.ref a_Model_now, .ref a_Model_past, .int Model_kept, .int Model_findings, .ref a_Model_bits, .ref a_Model_sizes, .ref a_Model_sheets, .ref a_Model_least, .ref a_Model_ways, .int Model_thenCost, .int Model_thenWays, .int Model_bothCost, .int Model_bothWays, .ref a_Model_handOf, .ref a_Model_crossedAt, .ref a_Model_strokeOf, .ref a_Model_prices, .ref a_Model_hitAt, .ref a_Model_carried])), (a_Model_now, .inl (cI, 187, .inl Model_now))] := hD
  obtain ⟨hz9, hf⟩ := zb_s hf
  cases hf
  exact k_zret () hQ9 hx hb hr hlocks hz9 rfl hP hD hS (Nat.le_of_ble_eq_true rfl) (Nat.le_of_ble_eq_true rfl) dX11_isNote_13
abbrev rm_Model_isTick : Room := { frames := 1, cells := 0, slots := 0, locals := 22 }
set_option maxHeartbeats 4000000 in
set_option maxRecDepth 100000 in
theorem c_Model_isTick (l : Launch) (D : va_G) (cI cZ : ClassId) (t : Nat → Nat) (sz : Nat) (p0 zr : Int32) (hf : f_Model_isTick p0 = some zr) : Met l yX11_isTick wsX11_isTick rm_Model_isTick (va_Pc [.int p0] (pcW D cI cZ t [] sz)) (va_Qi (fun r (u : Unit) => r = zr) (fun u t' => bW D (va_A [] sz) [] t') (va_A [] sz)) 0 0 (va_A [] sz) := by
  refine Met.ofW (cc := cX11_isTick) (maxL := 1) (ret := (some .boolean)) (by decide) rfl ?_
  intro p e s m args below meth c s₁ B hml hv
  obtain ⟨rfl, hsz, hP, hD0, hE⟩ := hv
  have hx := B.exec
  have hb := B.bytes
  have hr := B.returns
  have hts := atoms_spec (ws := wsX11_isTick) B.pre
  have hown : s.vm.findClass RX11 = some m.cls := findClass_of_methodNamed B.named
  have hlocks := B.notSynchronized
  subst hsz
  have hD := hD0.self (sz := s.heap.size)
  generalize hAe : va_A [] s.heap.size = A at hD hE ⊢
  have hA : ∀ q : Nat, s.heap.size ≤ q → A q := fun q h => by rw [← hAe]; exact Or.inr h
  clear hAe hD0
  have hS : va_S A s.heap s.heap [] := va_S.rf
  have hK := hE.1
  have hl := lv_entry ([.int p0]) (n := 1) (Nat.le_of_ble_eq_true rfl)
  rw [lg_entry_eq]
  generalize (lg_sl ([.int p0]) ++ List.replicate (1 - (lg_sl ([.int p0])).length) Slot.unset).toArray = ls at hl ⊢
  have hl : lv_has ls 1 [(0, .int p0)] := hl
  refine w_q (fun Q9 hQ9 => ?_)
  unfold f_Model_isTick at hf
  refine lv_iload_n hx hb dX11_isTick_0 rfl (lv_at hl 0 rfl) ?_
  refine lv_iconst (v := 0) hx hb dX11_isTick_1 (by decide) ?_
  refine lv_sipush (v := 9999) hx hb dX11_isTick_2 (by decide) ?_
  obtain ⟨r1, g2, hf⟩ := b1_s hf
  refine k_Si (rest := []) ⟨hx, hb, hml, hown, hts⟩ (c_Model_within l D cI cZ t  s.heap.size p0 0 9999 r1 g2) (va_cwS 3 hts gX11_isTick_X11_within rfl rfl rfl (by decide +kernel) ⟨Nat.le_of_ble_eq_true rfl, Nat.le_of_ble_eq_true rfl⟩) hE hP hD hS hA [] [] rfl rfl rfl rfl rfl rfl hl.1 rfl (Nat.le_of_ble_eq_true rfl) dX11_isTick_5 ⟨Nat.le_of_ble_eq_true rfl, Nat.le_of_ble_eq_true rfl⟩ (fun rq uq H locs hrq hP hD hS => ?_)
  refine lv_tpx hrq.symm ?_
  have hP : va_P D vwCl [] H := hP
  have hD : va_D A [] := hD
  obtain ⟨hz9, hf⟩ := zb_s hf
  cases hf
  exact k_zret () hQ9 hx hb hr hlocks hz9 rfl hP hD hS (Nat.le_of_ble_eq_true rfl) (Nat.le_of_ble_eq_true rfl) dX11_isTick_8
abbrev rm_Model_isPlayer : Room := { frames := 1, cells := 0, slots := 0, locals := 22 }
set_option maxHeartbeats 4000000 in
set_option maxRecDepth 100000 in
theorem c_Model_isPlayer (l : Launch) (D : va_G) (cI cZ : ClassId) (t : Nat → Nat) (sz : Nat) (p0 zr : Int32) (hf : f_Model_isPlayer p0 = some zr) : Met l yX11_isPlayer wsX11_isPlayer rm_Model_isPlayer (va_Pc [.int p0] (pcW D cI cZ t [] sz)) (va_Qi (fun r (u : Unit) => r = zr) (fun u t' => bW D (va_A [] sz) [] t') (va_A [] sz)) 0 0 (va_A [] sz) := by
  refine Met.ofW (cc := cX11_isPlayer) (maxL := 1) (ret := (some .boolean)) (by decide) rfl ?_
  intro p e s m args below meth c s₁ B hml hv
  obtain ⟨rfl, hsz, hP, hD0, hE⟩ := hv
  have hx := B.exec
  have hb := B.bytes
  have hr := B.returns
  have hts := atoms_spec (ws := wsX11_isPlayer) B.pre
  have hown : s.vm.findClass RX11 = some m.cls := findClass_of_methodNamed B.named
  have hlocks := B.notSynchronized
  subst hsz
  have hD := hD0.self (sz := s.heap.size)
  generalize hAe : va_A [] s.heap.size = A at hD hE ⊢
  have hA : ∀ q : Nat, s.heap.size ≤ q → A q := fun q h => by rw [← hAe]; exact Or.inr h
  clear hAe hD0
  have hS : va_S A s.heap s.heap [] := va_S.rf
  have hK := hE.1
  have hl := lv_entry ([.int p0]) (n := 1) (Nat.le_of_ble_eq_true rfl)
  rw [lg_entry_eq]
  generalize (lg_sl ([.int p0]) ++ List.replicate (1 - (lg_sl ([.int p0])).length) Slot.unset).toArray = ls at hl ⊢
  have hl : lv_has ls 1 [(0, .int p0)] := hl
  refine w_q (fun Q9 hQ9 => ?_)
  unfold f_Model_isPlayer at hf
  refine lv_iload_n hx hb dX11_isPlayer_0 rfl (lv_at hl 0 rfl) ?_
  refine lv_iconst (v := 0) hx hb dX11_isPlayer_1 (by decide) ?_
  refine lv_iconst (v := 3) hx hb dX11_isPlayer_2 (by decide) ?_
  obtain ⟨r1, g2, hf⟩ := b1_s hf
  refine k_Si (rest := []) ⟨hx, hb, hml, hown, hts⟩ (c_Model_within l D cI cZ t  s.heap.size p0 0 3 r1 g2) (va_cwS 3 hts gX11_isPlayer_X11_within rfl rfl rfl (by decide +kernel) ⟨Nat.le_of_ble_eq_true rfl, Nat.le_of_ble_eq_true rfl⟩) hE hP hD hS hA [] [] rfl rfl rfl rfl rfl rfl hl.1 rfl (Nat.le_of_ble_eq_true rfl) dX11_isPlayer_3 ⟨Nat.le_of_ble_eq_true rfl, Nat.le_of_ble_eq_true rfl⟩ (fun rq uq H locs hrq hP hD hS => ?_)
  refine lv_tpx hrq.symm ?_
  have hP : va_P D vwCl [] H := hP
  have hD : va_D A [] := hD
  obtain ⟨hz9, hf⟩ := zb_s hf
  cases hf
  exact k_zret () hQ9 hx hb hr hlocks hz9 rfl hP hD hS (Nat.le_of_ble_eq_true rfl) (Nat.le_of_ble_eq_true rfl) dX11_isPlayer_6
abbrev rm_Model_undo : Room := { frames := 1, cells := 0, slots := 0, locals := 21 }
set_option maxHeartbeats 4000000 in
set_option maxRecDepth 100000 in
theorem c_Model_undo (l : Launch) (D : va_G) (cI cZ : ClassId) (t : Nat → Nat) (a_Model a_Model_now a_Model_past a_Model_bits a_Model_sizes a_Model_sheets a_Model_least a_Model_ways a_Model_handOf a_Model_crossedAt a_Model_strokeOf a_Model_prices a_Model_hitAt a_Model_carried sz : Nat) (Model_now Model_past : Nat → Int32) (Model_kept Model_findings Model_thenCost Model_thenWays Model_bothCost Model_bothWays zr : Int32) (z_Model_now : Nat → Int32) (z_Model_kept z_Model_findings : Int32) (hf : f_Model_undo Model_now Model_past Model_kept Model_findings = some (zr, z_Model_now, z_Model_kept, z_Model_findings)) : Met l yX11_undo wsX11_undo rm_Model_undo (va_Pc [.ref a_Model] (pcW D cI cZ t [(a_Model, .inr (11, [.ref a_Model_now, .ref a_Model_past, .int Model_kept, .int Model_findings, .ref a_Model_bits, .ref a_Model_sizes, .ref a_Model_sheets, .ref a_Model_least, .ref a_Model_ways, .int Model_thenCost, .int Model_thenWays, .int Model_bothCost, .int Model_bothWays, .ref a_Model_handOf, .ref a_Model_crossedAt, .ref a_Model_strokeOf, .ref a_Model_prices, .ref a_Model_hitAt, .ref a_Model_carried])), (a_Model_now, .inl (cI, 187, .inl Model_now)), (a_Model_past, .inl (cI, 3740, .inl Model_past))] sz)) (va_Qi (fun r (u : Unit) => r = zr) (fun u t' => bW D (va_A [(a_Model, .inr (11, [.ref a_Model_now, .ref a_Model_past, .int Model_kept, .int Model_findings, .ref a_Model_bits, .ref a_Model_sizes, .ref a_Model_sheets, .ref a_Model_least, .ref a_Model_ways, .int Model_thenCost, .int Model_thenWays, .int Model_bothCost, .int Model_bothWays, .ref a_Model_handOf, .ref a_Model_crossedAt, .ref a_Model_strokeOf, .ref a_Model_prices, .ref a_Model_hitAt, .ref a_Model_carried])), (a_Model_now, .inl (cI, 187, .inl Model_now)), (a_Model_past, .inl (cI, 3740, .inl Model_past))] sz) [(a_Model, .inr (11, [.ref a_Model_now, .ref a_Model_past, .int z_Model_kept, .int z_Model_findings, .ref a_Model_bits, .ref a_Model_sizes, .ref a_Model_sheets, .ref a_Model_least, .ref a_Model_ways, .int Model_thenCost, .int Model_thenWays, .int Model_bothCost, .int Model_bothWays, .ref a_Model_handOf, .ref a_Model_crossedAt, .ref a_Model_strokeOf, .ref a_Model_prices, .ref a_Model_hitAt, .ref a_Model_carried])), (a_Model_now, .inl (cI, 187, .inl z_Model_now)), (a_Model_past, .inl (cI, 3740, .inl Model_past))] t') (va_A [(a_Model, .inr (11, [.ref a_Model_now, .ref a_Model_past, .int Model_kept, .int Model_findings, .ref a_Model_bits, .ref a_Model_sizes, .ref a_Model_sheets, .ref a_Model_least, .ref a_Model_ways, .int Model_thenCost, .int Model_thenWays, .int Model_bothCost, .int Model_bothWays, .ref a_Model_handOf, .ref a_Model_crossedAt, .ref a_Model_strokeOf, .ref a_Model_prices, .ref a_Model_hitAt, .ref a_Model_carried])), (a_Model_now, .inl (cI, 187, .inl Model_now)), (a_Model_past, .inl (cI, 3740, .inl Model_past))] sz)) 0 0 (va_A [(a_Model, .inr (11, [.ref a_Model_now, .ref a_Model_past, .int Model_kept, .int Model_findings, .ref a_Model_bits, .ref a_Model_sizes, .ref a_Model_sheets, .ref a_Model_least, .ref a_Model_ways, .int Model_thenCost, .int Model_thenWays, .int Model_bothCost, .int Model_bothWays, .ref a_Model_handOf, .ref a_Model_crossedAt, .ref a_Model_strokeOf, .ref a_Model_prices, .ref a_Model_hitAt, .ref a_Model_carried])), (a_Model_now, .inl (cI, 187, .inl Model_now)), (a_Model_past, .inl (cI, 3740, .inl Model_past))] sz) := by
  refine Met.ofW (cc := cX11_undo) (maxL := 2) (ret := (some .int)) (by decide) rfl ?_
  intro p e s m args below meth c s₁ B hml hv
  obtain ⟨rfl, hsz, hP, hD0, hE⟩ := hv
  have hx := B.exec
  have hb := B.bytes
  have hr := B.returns
  have hts := atoms_spec (ws := wsX11_undo) B.pre
  have hown : s.vm.findClass RX11 = some m.cls := findClass_of_methodNamed B.named
  have hlocks := B.notSynchronized
  subst hsz
  have hD := hD0.self (sz := s.heap.size)
  generalize hAe : va_A [(a_Model, .inr (11, [.ref a_Model_now, .ref a_Model_past, .int Model_kept, .int Model_findings, .ref a_Model_bits, .ref a_Model_sizes, .ref a_Model_sheets, .ref a_Model_least, .ref a_Model_ways, .int Model_thenCost, .int Model_thenWays, .int Model_bothCost, .int Model_bothWays, .ref a_Model_handOf, .ref a_Model_crossedAt, .ref a_Model_strokeOf, .ref a_Model_prices, .ref a_Model_hitAt, .ref a_Model_carried])), (a_Model_now, .inl (cI, 187, .inl Model_now)), (a_Model_past, .inl (cI, 3740, .inl Model_past))] s.heap.size = A at hD hE ⊢
  have hA : ∀ q : Nat, s.heap.size ≤ q → A q := fun q h => by rw [← hAe]; exact Or.inr h
  clear hAe hD0
  have hS : va_S A s.heap s.heap [] := va_S.rf
  have hK := hE.1
  have hl := lv_entry ([.ref a_Model]) (n := 2) (Nat.le_of_ble_eq_true rfl)
  rw [lg_entry_eq]
  generalize (lg_sl ([.ref a_Model]) ++ List.replicate (2 - (lg_sl ([.ref a_Model])).length) Slot.unset).toArray = ls at hl ⊢
  have hl : lv_has ls 2 [(0, .ref a_Model)] := hl
  refine w_q (fun Q9 hQ9 => ?_)
  have fl58 := hts (.fieldLink RX11 58 "StickRoomModel" "kept" "I") (by decide +kernel)
  have inX11 : ∀ w ∈ wsX110, w ∈ wsX11_undo := by decide +kernel
  have fl9 := hts (.fieldLink RX11 9 "StickRoomModel" "now" "[I") (by decide +kernel)
  have fl13 := hts (.fieldLink RX11 13 "StickRoomModel" "past" "[I") (by decide +kernel)
  have kc61 := hts (.constant RX11 61 (-100006)) (by decide +kernel)
  have hL26 : ∀ (n26 : Nat) (l1 : Int32) (Model_now : Nat → Int32) (Model_kept Model_findings : Int32) (H : Heap) (locs : List Loc) (ls : Array Slot), va_P D vwCl [(a_Model, .inr (11, [.ref a_Model_now, .ref a_Model_past, .int Model_kept, .int Model_findings, .ref a_Model_bits, .ref a_Model_sizes, .ref a_Model_sheets, .ref a_Model_least, .ref a_Model_ways, .int Model_thenCost, .int Model_thenWays, .int Model_bothCost, .int Model_bothWays, .ref a_Model_handOf, .ref a_Model_crossedAt, .ref a_Model_strokeOf, .ref a_Model_prices, .ref a_Model_hitAt, .ref a_Model_carried])), (a_Model_now, .inl (cI, 187, .inl Model_now)), (a_Model_past, .inl (cI, 3740, .inl Model_past))] H → va_D A [(a_Model, .inr (11, [.ref a_Model_now, .ref a_Model_past, .int Model_kept, .int Model_findings, .ref a_Model_bits, .ref a_Model_sizes, .ref a_Model_sheets, .ref a_Model_least, .ref a_Model_ways, .int Model_thenCost, .int Model_thenWays, .int Model_bothCost, .int Model_bothWays, .ref a_Model_handOf, .ref a_Model_crossedAt, .ref a_Model_strokeOf, .ref a_Model_prices, .ref a_Model_hitAt, .ref a_Model_carried])), (a_Model_now, .inl (cI, 187, .inl Model_now)), (a_Model_past, .inl (cI, 3740, .inl Model_past))] → va_S A s.heap H locs → lv_has ls 2 [(0, .ref a_Model), (1, .int l1)] → f_Model_undo_26 Model_past  n26 l1 Model_now Model_kept Model_findings = some (zr, z_Model_now, z_Model_kept, z_Model_findings) → W p l e (headSpec wsX11_undo rm_Model_undo).room s m ([.ref a_Model] : List Value).toArray below meth c H locs 0 0 Q9 (F0 m 26 ls []) := by
    intro n26
    induction n26 with
    | zero => intro l1 Model_now Model_kept Model_findings H locs ls hP hD hS hl hf; exact nomatch (show none = some (zr, z_Model_now, z_Model_kept, z_Model_findings) from hf)
    | succ n26 ih26 =>
      intro l1 Model_now Model_kept Model_findings H locs ls hP hD hS hl hf
      have hf : f_Model_undo_26_b Model_past  (f_Model_undo_26 Model_past  n26) l1 Model_now Model_kept Model_findings = some (zr, z_Model_now, z_Model_kept, z_Model_findings) := hf
      unfold f_Model_undo_26_b at hf
      refine lv_iload_n hx hb dX11_undo_26 rfl (lv_at hl 1 rfl) ?_
      refine lv_sipush (v := 187) hx hb dX11_undo_27 (by decide) ?_
      refine lv_icmp_ge (tgt := 60) hx hb dX11_undo_30 (by decide) (fun c1 => ?_) (fun c1 => ?_)
      · have hf := ite_t c1 hf
        refine lv_aload_n hx hb dX11_undo_60 rfl (lv_at hl 0 rfl) ?_
        refine va_get (D := D) (ci := 11) (v := .int Model_kept) (C := RX11) (T := TX11) (N := 19) hx hb hts inX11 hown hK hP 0 rfl rfl 2 (by decide) fl58 (fun _ h9 => h9) rfl dX11_undo_61 ?_
        cases hf
        exact k_iret () hQ9 hx hb hr hlocks rfl hP hD hS (Nat.le_of_ble_eq_true rfl) (Nat.le_of_ble_eq_true rfl) dX11_undo_64
      · have hf := ite_f c1 hf
        refine lv_aload_n hx hb dX11_undo_33 rfl (lv_at hl 0 rfl) ?_
        refine va_get (D := D) (ci := 11) (v := .ref a_Model_now) (C := RX11) (T := TX11) (N := 19) hx hb hts inX11 hown hK hP 0 rfl rfl 0 (by decide) fl9 (fun _ h9 => h9) rfl dX11_undo_34 ?_
        refine lv_iload_n hx hb dX11_undo_37 rfl (lv_at hl 1 rfl) ?_
        refine lv_aload_n hx hb dX11_undo_38 rfl (lv_at hl 0 rfl) ?_
        refine va_get (D := D) (ci := 11) (v := .ref a_Model_past) (C := RX11) (T := TX11) (N := 19) hx hb hts inX11 hown hK hP 0 rfl rfl 1 (by decide) fl13 (fun _ h9 => h9) rfl dX11_undo_39 ?_
        refine lv_aload_n hx hb dX11_undo_42 rfl (lv_at hl 0 rfl) ?_
        refine va_get (D := D) (ci := 11) (v := .int Model_kept) (C := RX11) (T := TX11) (N := 19) hx hb hts inX11 hown hK hP 0 rfl rfl 2 (by decide) fl58 (fun _ h9 => h9) rfl dX11_undo_43 ?_
        refine lv_sipush (v := 187) hx hb dX11_undo_46 (by decide) ?_
        refine lv_imul hx hb dX11_undo_49 ?_
        refine lv_iload_n hx hb dX11_undo_50 rfl (lv_at hl 1 rfl) ?_
        refine lv_iadd hx hb dX11_undo_51 ?_
        obtain ⟨ix2, x2, ex2, hf⟩ := rd_s hf
        refine va_iald hx hb hK hP 2 0 rfl rfl ix2 dX11_undo_52 ?_
        refine lv_tpx ex2 ?_
        obtain ⟨i3, hf⟩ := ck_s hf
        refine va_iast hx hb hK hP hD hS 1 0 rfl rfl i3 dX11_undo_53 (fun H locs hP hD hS => ?_)
        have hP : va_P D vwCl [(a_Model, .inr (11, [.ref a_Model_now, .ref a_Model_past, .int Model_kept, .int Model_findings, .ref a_Model_bits, .ref a_Model_sizes, .ref a_Model_sheets, .ref a_Model_least, .ref a_Model_ways, .int Model_thenCost, .int Model_thenWays, .int Model_bothCost, .int Model_bothWays, .ref a_Model_handOf, .ref a_Model_crossedAt, .ref a_Model_strokeOf, .ref a_Model_prices, .ref a_Model_hitAt, .ref a_Model_carried])), (a_Model_now, .inl (cI, 187, .inl (upd Model_now l1.toNatClampNeg x2))), (a_Model_past, .inl (cI, 3740, .inl Model_past))] H := hP
        have hD : va_D A [(a_Model, .inr (11, [.ref a_Model_now, .ref a_Model_past, .int Model_kept, .int Model_findings, .ref a_Model_bits, .ref a_Model_sizes, .ref a_Model_sheets, .ref a_Model_least, .ref a_Model_ways, .int Model_thenCost, .int Model_thenWays, .int Model_bothCost, .int Model_bothWays, .ref a_Model_handOf, .ref a_Model_crossedAt, .ref a_Model_strokeOf, .ref a_Model_prices, .ref a_Model_hitAt, .ref a_Model_carried])), (a_Model_now, .inl (cI, 187, .inl (upd Model_now l1.toNatClampNeg x2))), (a_Model_past, .inl (cI, 3740, .inl Model_past))] := hD
        obtain ⟨x4, ex4, hf⟩ := nm_s hf
        refine lv_iinc (v := x4) (lv' := [(1, .int x4), (0, .ref a_Model)]) hx hb dX11_undo_54 hl (k := 1) rfl (by rw [ex4]; rfl) (by decide) rfl (fun ls hl => ?_)
        refine lv_goto (tgt := 26) hx hb dX11_undo_57 (by decide) ?_
        exact ih26 x4 (upd Model_now l1.toNatClampNeg x2) Model_kept Model_findings H locs ls hP hD hS (lv_sub hl [1, 0] rfl) hf
  unfold f_Model_undo at hf
  refine lv_aload_n hx hb dX11_undo_0 rfl (lv_at hl 0 rfl) ?_
  refine va_get (D := D) (ci := 11) (v := .int Model_kept) (C := RX11) (T := TX11) (N := 19) hx hb hts inX11 hown hK hP 0 rfl rfl 2 (by decide) fl58 (fun _ h9 => h9) rfl dX11_undo_1 ?_
  refine lv_if_ne (tgt := 14) hx hb dX11_undo_4 (by decide) (fun c5 => ?_) (fun c5 => ?_)
  · have hf := ite_f c5 hf
    refine lv_aload_n hx hb dX11_undo_14 rfl (lv_at hl 0 rfl) ?_
    refine lv_dup hx hb dX11_undo_15 rfl ?_
    refine va_get (D := D) (ci := 11) (v := .int Model_kept) (C := RX11) (T := TX11) (N := 19) hx hb hts inX11 hown hK hP 0 rfl rfl 2 (by decide) fl58 (fun _ h9 => h9) rfl dX11_undo_16 ?_
    refine lv_iconst (v := 1) hx hb dX11_undo_19 (by decide) ?_
    refine lv_isub hx hb dX11_undo_20 ?_
    obtain ⟨x6, ex6, hf⟩ := nm_s hf
    refine lv_tpx ex6 ?_
    refine va_put (D := D) (ci := 11) (v := .int x6) (ty := .int) (C := RX11) (T := TX11) (N := 19) hx hb hts inX11 tyX11 tyX11_ok nmX11 hown hK hP hD hS 0 rfl rfl 2 (by decide) fl58 (fun _ h9 => h9) rfl (by decide +kernel) rfl rfl (Nat.le_of_ble_eq_true rfl) dX11_undo_21 (fun H locs hP hD hS => ?_)
    have hP : va_P D vwCl [(a_Model, .inr (11, [.ref a_Model_now, .ref a_Model_past, .int x6, .int Model_findings, .ref a_Model_bits, .ref a_Model_sizes, .ref a_Model_sheets, .ref a_Model_least, .ref a_Model_ways, .int Model_thenCost, .int Model_thenWays, .int Model_bothCost, .int Model_bothWays, .ref a_Model_handOf, .ref a_Model_crossedAt, .ref a_Model_strokeOf, .ref a_Model_prices, .ref a_Model_hitAt, .ref a_Model_carried])), (a_Model_now, .inl (cI, 187, .inl Model_now)), (a_Model_past, .inl (cI, 3740, .inl Model_past))] H := hP
    have hD : va_D A [(a_Model, .inr (11, [.ref a_Model_now, .ref a_Model_past, .int x6, .int Model_findings, .ref a_Model_bits, .ref a_Model_sizes, .ref a_Model_sheets, .ref a_Model_least, .ref a_Model_ways, .int Model_thenCost, .int Model_thenWays, .int Model_bothCost, .int Model_bothWays, .ref a_Model_handOf, .ref a_Model_crossedAt, .ref a_Model_strokeOf, .ref a_Model_prices, .ref a_Model_hitAt, .ref a_Model_carried])), (a_Model_now, .inl (cI, 187, .inl Model_now)), (a_Model_past, .inl (cI, 3740, .inl Model_past))] := hD
    refine lv_iconst (v := 0) hx hb dX11_undo_24 (by decide) ?_
    refine lv_istore_n (lv' := [(1, .int 0), (0, .ref a_Model)]) hx hb dX11_undo_25 rfl hl (by decide) rfl (fun ls hl => ?_)
    exact hL26 fu 0 Model_now x6 Model_findings H locs ls hP hD hS (lv_sub hl [1, 0] rfl) hf
  · have hf := ite_t c5 hf
    refine lv_aload_n hx hb dX11_undo_7 rfl (lv_at hl 0 rfl) ?_
    refine lv_ldc (v := (-100006)) hx hb hown kc61 dX11_undo_8 ?_
    obtain ⟨r7, y8, g9, hf⟩ := b2_s hf
    refine k_Vi (rest := []) ⟨hx, hb, hml, hown, hts⟩ (c_Model_finding l D cI cZ t a_Model a_Model_now a_Model_past a_Model_bits a_Model_sizes a_Model_sheets a_Model_least a_Model_ways a_Model_handOf a_Model_crossedAt a_Model_strokeOf a_Model_prices a_Model_hitAt a_Model_carried s.heap.size Model_findings Model_kept Model_thenCost Model_thenWays Model_bothCost Model_bothWays (-100006) r7 y8 g9) (cwV 1 hts gX11_undo_X11_finding rfl rfl rfl (by decide +kernel) ⟨Nat.le_of_ble_eq_true rfl, Nat.le_of_ble_eq_true rfl⟩) hE hP hD hS hA [0] [1, 2] rfl rfl rfl rfl rfl 0 11 rfl rfl rfl rfl hl.1 rfl (Nat.le_of_ble_eq_true rfl) dX11_undo_10 ⟨Nat.le_of_ble_eq_true rfl, Nat.le_of_ble_eq_true rfl⟩ (fun rq uq H locs hrq hP hD hS => ?_)
    refine lv_tpx hrq.symm ?_
    have hP : va_P D vwCl [(a_Model_now, .inl (cI, 187, .inl Model_now)), (a_Model_past, .inl (cI, 3740, .inl Model_past)), (a_Model, .inr (11, [.ref a_Model_now, .ref a_Model_past, .int Model_kept, .int y8, .ref a_Model_bits, .ref a_Model_sizes, .ref a_Model_sheets, .ref a_Model_least, .ref a_Model_ways, .int Model_thenCost, .int Model_thenWays, .int Model_bothCost, .int Model_bothWays, .ref a_Model_handOf, .ref a_Model_crossedAt, .ref a_Model_strokeOf, .ref a_Model_prices, .ref a_Model_hitAt, .ref a_Model_carried]))] H := hP
    have hD : va_D A [(a_Model_now, .inl (cI, 187, .inl Model_now)), (a_Model_past, .inl (cI, 3740, .inl Model_past)), (a_Model, .inr (11, [.ref a_Model_now, .ref a_Model_past, .int Model_kept, .int y8, .ref a_Model_bits, .ref a_Model_sizes, .ref a_Model_sheets, .ref a_Model_least, .ref a_Model_ways, .int Model_thenCost, .int Model_thenWays, .int Model_bothCost, .int Model_bothWays, .ref a_Model_handOf, .ref a_Model_crossedAt, .ref a_Model_strokeOf, .ref a_Model_prices, .ref a_Model_hitAt, .ref a_Model_carried]))] := hD
    cases hf
    exact k_iret () hQ9 hx hb hr hlocks rfl (hP.sub [2, 0, 1] rfl) (hD.sub [2, 0, 1] (by decide) rfl) hS (Nat.le_of_ble_eq_true rfl) (Nat.le_of_ble_eq_true rfl) dX11_undo_13
abbrev rm_Model_drop : Room := { frames := 1, cells := 0, slots := 0, locals := 21 }
set_option maxHeartbeats 4000000 in
set_option maxRecDepth 100000 in
theorem c_Model_drop (l : Launch) (D : va_G) (cI cZ : ClassId) (t : Nat → Nat) (a_Model a_Model_now a_Model_past a_Model_bits a_Model_sizes a_Model_sheets a_Model_least a_Model_ways a_Model_handOf a_Model_crossedAt a_Model_strokeOf a_Model_prices a_Model_hitAt a_Model_carried sz : Nat) (Model_now Model_past : Nat → Int32) (Model_kept Model_findings Model_thenCost Model_thenWays Model_bothCost Model_bothWays zr : Int32) (z_Model_now z_Model_past : Nat → Int32) (z_Model_kept z_Model_findings : Int32) (hf : f_Model_drop Model_now Model_past Model_kept Model_findings = some (zr, z_Model_now, z_Model_past, z_Model_kept, z_Model_findings)) : Met l yX11_drop wsX11_drop rm_Model_drop (va_Pc [.ref a_Model] (pcW D cI cZ t [(a_Model, .inr (11, [.ref a_Model_now, .ref a_Model_past, .int Model_kept, .int Model_findings, .ref a_Model_bits, .ref a_Model_sizes, .ref a_Model_sheets, .ref a_Model_least, .ref a_Model_ways, .int Model_thenCost, .int Model_thenWays, .int Model_bothCost, .int Model_bothWays, .ref a_Model_handOf, .ref a_Model_crossedAt, .ref a_Model_strokeOf, .ref a_Model_prices, .ref a_Model_hitAt, .ref a_Model_carried])), (a_Model_now, .inl (cI, 187, .inl Model_now)), (a_Model_past, .inl (cI, 3740, .inl Model_past))] sz)) (va_Qi (fun r (u : Unit) => r = zr) (fun u t' => bW D (va_A [(a_Model, .inr (11, [.ref a_Model_now, .ref a_Model_past, .int Model_kept, .int Model_findings, .ref a_Model_bits, .ref a_Model_sizes, .ref a_Model_sheets, .ref a_Model_least, .ref a_Model_ways, .int Model_thenCost, .int Model_thenWays, .int Model_bothCost, .int Model_bothWays, .ref a_Model_handOf, .ref a_Model_crossedAt, .ref a_Model_strokeOf, .ref a_Model_prices, .ref a_Model_hitAt, .ref a_Model_carried])), (a_Model_now, .inl (cI, 187, .inl Model_now)), (a_Model_past, .inl (cI, 3740, .inl Model_past))] sz) [(a_Model, .inr (11, [.ref a_Model_now, .ref a_Model_past, .int z_Model_kept, .int z_Model_findings, .ref a_Model_bits, .ref a_Model_sizes, .ref a_Model_sheets, .ref a_Model_least, .ref a_Model_ways, .int Model_thenCost, .int Model_thenWays, .int Model_bothCost, .int Model_bothWays, .ref a_Model_handOf, .ref a_Model_crossedAt, .ref a_Model_strokeOf, .ref a_Model_prices, .ref a_Model_hitAt, .ref a_Model_carried])), (a_Model_now, .inl (cI, 187, .inl z_Model_now)), (a_Model_past, .inl (cI, 3740, .inl z_Model_past))] t') (va_A [(a_Model, .inr (11, [.ref a_Model_now, .ref a_Model_past, .int Model_kept, .int Model_findings, .ref a_Model_bits, .ref a_Model_sizes, .ref a_Model_sheets, .ref a_Model_least, .ref a_Model_ways, .int Model_thenCost, .int Model_thenWays, .int Model_bothCost, .int Model_bothWays, .ref a_Model_handOf, .ref a_Model_crossedAt, .ref a_Model_strokeOf, .ref a_Model_prices, .ref a_Model_hitAt, .ref a_Model_carried])), (a_Model_now, .inl (cI, 187, .inl Model_now)), (a_Model_past, .inl (cI, 3740, .inl Model_past))] sz)) 0 0 (va_A [(a_Model, .inr (11, [.ref a_Model_now, .ref a_Model_past, .int Model_kept, .int Model_findings, .ref a_Model_bits, .ref a_Model_sizes, .ref a_Model_sheets, .ref a_Model_least, .ref a_Model_ways, .int Model_thenCost, .int Model_thenWays, .int Model_bothCost, .int Model_bothWays, .ref a_Model_handOf, .ref a_Model_crossedAt, .ref a_Model_strokeOf, .ref a_Model_prices, .ref a_Model_hitAt, .ref a_Model_carried])), (a_Model_now, .inl (cI, 187, .inl Model_now)), (a_Model_past, .inl (cI, 3740, .inl Model_past))] sz) := by
  refine Met.ofW (cc := cX11_drop) (maxL := 1) (ret := (some .int)) (by decide) rfl ?_
  intro p e s m args below meth c s₁ B hml hv
  obtain ⟨rfl, hsz, hP, hD0, hE⟩ := hv
  have hx := B.exec
  have hb := B.bytes
  have hr := B.returns
  have hts := atoms_spec (ws := wsX11_drop) B.pre
  have hown : s.vm.findClass RX11 = some m.cls := findClass_of_methodNamed B.named
  have hlocks := B.notSynchronized
  subst hsz
  have hD := hD0.self (sz := s.heap.size)
  generalize hAe : va_A [(a_Model, .inr (11, [.ref a_Model_now, .ref a_Model_past, .int Model_kept, .int Model_findings, .ref a_Model_bits, .ref a_Model_sizes, .ref a_Model_sheets, .ref a_Model_least, .ref a_Model_ways, .int Model_thenCost, .int Model_thenWays, .int Model_bothCost, .int Model_bothWays, .ref a_Model_handOf, .ref a_Model_crossedAt, .ref a_Model_strokeOf, .ref a_Model_prices, .ref a_Model_hitAt, .ref a_Model_carried])), (a_Model_now, .inl (cI, 187, .inl Model_now)), (a_Model_past, .inl (cI, 3740, .inl Model_past))] s.heap.size = A at hD hE ⊢
  have hA : ∀ q : Nat, s.heap.size ≤ q → A q := fun q h => by rw [← hAe]; exact Or.inr h
  clear hAe hD0
  have hS : va_S A s.heap s.heap [] := va_S.rf
  have hK := hE.1
  have hl := lv_entry ([.ref a_Model]) (n := 1) (Nat.le_of_ble_eq_true rfl)
  rw [lg_entry_eq]
  generalize (lg_sl ([.ref a_Model]) ++ List.replicate (1 - (lg_sl ([.ref a_Model])).length) Slot.unset).toArray = ls at hl ⊢
  have hl : lv_has ls 1 [(0, .ref a_Model)] := hl
  refine w_q (fun Q9 hQ9 => ?_)
  have fl9 := hts (.fieldLink RX11 9 "StickRoomModel" "now" "[I") (by decide +kernel)
  have inX11 : ∀ w ∈ wsX110, w ∈ wsX11_drop := by decide +kernel
  have kc61 := hts (.constant RX11 61 (-100006)) (by decide +kernel)
  unfold f_Model_drop at hf
  refine lv_aload_n hx hb dX11_drop_0 rfl (lv_at hl 0 rfl) ?_
  refine va_get (D := D) (ci := 11) (v := .ref a_Model_now) (C := RX11) (T := TX11) (N := 19) hx hb hts inX11 hown hK hP 0 rfl rfl 0 (by decide) fl9 (fun _ h9 => h9) rfl dX11_drop_1 ?_
  refine lv_iconst (v := 0) hx hb dX11_drop_4 (by decide) ?_
  obtain ⟨ix1, x1, ex1, hf⟩ := rd_s hf
  refine va_iald hx hb hK hP 1 0 rfl rfl ix1 dX11_drop_5 ?_
  refine lv_tpx ex1 ?_
  refine lv_if_ne (tgt := 16) hx hb dX11_drop_6 (by decide) (fun c2 => ?_) (fun c2 => ?_)
  · have hf := ite_f c2 hf
    refine lv_aload_n hx hb dX11_drop_16 rfl (lv_at hl 0 rfl) ?_
    obtain ⟨y3, y4, g5, hf⟩ := b2_s hf
    refine k_Vv (rest := []) ⟨hx, hb, hml, hown, hts⟩ (c_Model_keep l D cI cZ t a_Model a_Model_now a_Model_past a_Model_bits a_Model_sizes a_Model_sheets a_Model_least a_Model_ways a_Model_handOf a_Model_crossedAt a_Model_strokeOf a_Model_prices a_Model_hitAt a_Model_carried s.heap.size Model_now Model_past Model_kept Model_findings Model_thenCost Model_thenWays Model_bothCost Model_bothWays y3 y4 g5) (cwV 0 hts gX11_drop_X11_keep rfl rfl rfl (by decide +kernel) ⟨Nat.le_of_ble_eq_true rfl, Nat.le_of_ble_eq_true rfl⟩) hE hP hD hS hA [0, 1, 2] [] rfl rfl rfl rfl rfl 0 11 rfl rfl rfl rfl hl.1 rfl (Nat.le_of_ble_eq_true rfl) dX11_drop_17 ⟨Nat.le_of_ble_eq_true rfl, Nat.le_of_ble_eq_true rfl⟩ (fun uq H locs hrq hP hD hS => ?_)
    have hP : va_P D vwCl [(a_Model, .inr (11, [.ref a_Model_now, .ref a_Model_past, .int y4, .int Model_findings, .ref a_Model_bits, .ref a_Model_sizes, .ref a_Model_sheets, .ref a_Model_least, .ref a_Model_ways, .int Model_thenCost, .int Model_thenWays, .int Model_bothCost, .int Model_bothWays, .ref a_Model_handOf, .ref a_Model_crossedAt, .ref a_Model_strokeOf, .ref a_Model_prices, .ref a_Model_hitAt, .ref a_Model_carried])), (a_Model_now, .inl (cI, 187, .inl Model_now)), (a_Model_past, .inl (cI, 3740, .inl y3))] H := hP
    have hD : va_D A [(a_Model, .inr (11, [.ref a_Model_now, .ref a_Model_past, .int y4, .int Model_findings, .ref a_Model_bits, .ref a_Model_sizes, .ref a_Model_sheets, .ref a_Model_least, .ref a_Model_ways, .int Model_thenCost, .int Model_thenWays, .int Model_bothCost, .int Model_bothWays, .ref a_Model_handOf, .ref a_Model_crossedAt, .ref a_Model_strokeOf, .ref a_Model_prices, .ref a_Model_hitAt, .ref a_Model_carried])), (a_Model_now, .inl (cI, 187, .inl Model_now)), (a_Model_past, .inl (cI, 3740, .inl y3))] := hD
    refine lv_aload_n hx hb dX11_drop_20 rfl (lv_at hl 0 rfl) ?_
    refine va_get (D := D) (ci := 11) (v := .ref a_Model_now) (C := RX11) (T := TX11) (N := 19) hx hb hts inX11 hown hK hP 0 rfl rfl 0 (by decide) fl9 (fun _ h9 => h9) rfl dX11_drop_21 ?_
    refine lv_iconst (v := 0) hx hb dX11_drop_24 (by decide) ?_
    refine lv_dup2_11 hx hb dX11_drop_25 rfl rfl ?_
    obtain ⟨ix6, x6, ex6, hf⟩ := rd_s hf
    refine va_iald hx hb hK hP 1 0 rfl rfl ix6 dX11_drop_26 ?_
    refine lv_tpx ex6 ?_
    refine lv_iconst (v := 1) hx hb dX11_drop_27 (by decide) ?_
    refine lv_isub hx hb dX11_drop_28 ?_
    obtain ⟨x7, ex7, hf⟩ := nm_s hf
    refine lv_tpx ex7 ?_
    obtain ⟨i8, hf⟩ := ck_s hf
    refine va_iast hx hb hK hP hD hS 1 0 rfl rfl i8 dX11_drop_29 (fun H locs hP hD hS => ?_)
    have hP : va_P D vwCl [(a_Model, .inr (11, [.ref a_Model_now, .ref a_Model_past, .int y4, .int Model_findings, .ref a_Model_bits, .ref a_Model_sizes, .ref a_Model_sheets, .ref a_Model_least, .ref a_Model_ways, .int Model_thenCost, .int Model_thenWays, .int Model_bothCost, .int Model_bothWays, .ref a_Model_handOf, .ref a_Model_crossedAt, .ref a_Model_strokeOf, .ref a_Model_prices, .ref a_Model_hitAt, .ref a_Model_carried])), (a_Model_now, .inl (cI, 187, .inl (upd Model_now (0 : Int32).toNatClampNeg x7))), (a_Model_past, .inl (cI, 3740, .inl y3))] H := hP
    have hD : va_D A [(a_Model, .inr (11, [.ref a_Model_now, .ref a_Model_past, .int y4, .int Model_findings, .ref a_Model_bits, .ref a_Model_sizes, .ref a_Model_sheets, .ref a_Model_least, .ref a_Model_ways, .int Model_thenCost, .int Model_thenWays, .int Model_bothCost, .int Model_bothWays, .ref a_Model_handOf, .ref a_Model_crossedAt, .ref a_Model_strokeOf, .ref a_Model_prices, .ref a_Model_hitAt, .ref a_Model_carried])), (a_Model_now, .inl (cI, 187, .inl (upd Model_now (0 : Int32).toNatClampNeg x7))), (a_Model_past, .inl (cI, 3740, .inl y3))] := hD
    refine lv_aload_n hx hb dX11_drop_30 rfl (lv_at hl 0 rfl) ?_
    refine va_get (D := D) (ci := 11) (v := .ref a_Model_now) (C := RX11) (T := TX11) (N := 19) hx hb hts inX11 hown hK hP 0 rfl rfl 0 (by decide) fl9 (fun _ h9 => h9) rfl dX11_drop_31 ?_
    refine lv_iconst (v := 0) hx hb dX11_drop_34 (by decide) ?_
    obtain ⟨ix9, x9, ex9, hf⟩ := rd_s hf
    refine va_iald hx hb hK hP 1 0 rfl rfl ix9 dX11_drop_35 ?_
    refine lv_tpx ex9 ?_
    cases hf
    exact k_iret () hQ9 hx hb hr hlocks rfl hP hD hS (Nat.le_of_ble_eq_true rfl) (Nat.le_of_ble_eq_true rfl) dX11_drop_36
  · have hf := ite_t c2 hf
    refine lv_aload_n hx hb dX11_drop_9 rfl (lv_at hl 0 rfl) ?_
    refine lv_ldc (v := (-100006)) hx hb hown kc61 dX11_drop_10 ?_
    obtain ⟨r10, y11, g12, hf⟩ := b2_s hf
    refine k_Vi (rest := []) ⟨hx, hb, hml, hown, hts⟩ (c_Model_finding l D cI cZ t a_Model a_Model_now a_Model_past a_Model_bits a_Model_sizes a_Model_sheets a_Model_least a_Model_ways a_Model_handOf a_Model_crossedAt a_Model_strokeOf a_Model_prices a_Model_hitAt a_Model_carried s.heap.size Model_findings Model_kept Model_thenCost Model_thenWays Model_bothCost Model_bothWays (-100006) r10 y11 g12) (cwV 1 hts gX11_drop_X11_finding rfl rfl rfl (by decide +kernel) ⟨Nat.le_of_ble_eq_true rfl, Nat.le_of_ble_eq_true rfl⟩) hE hP hD hS hA [0] [1, 2] rfl rfl rfl rfl rfl 0 11 rfl rfl rfl rfl hl.1 rfl (Nat.le_of_ble_eq_true rfl) dX11_drop_12 ⟨Nat.le_of_ble_eq_true rfl, Nat.le_of_ble_eq_true rfl⟩ (fun rq uq H locs hrq hP hD hS => ?_)
    refine lv_tpx hrq.symm ?_
    have hP : va_P D vwCl [(a_Model_now, .inl (cI, 187, .inl Model_now)), (a_Model_past, .inl (cI, 3740, .inl Model_past)), (a_Model, .inr (11, [.ref a_Model_now, .ref a_Model_past, .int Model_kept, .int y11, .ref a_Model_bits, .ref a_Model_sizes, .ref a_Model_sheets, .ref a_Model_least, .ref a_Model_ways, .int Model_thenCost, .int Model_thenWays, .int Model_bothCost, .int Model_bothWays, .ref a_Model_handOf, .ref a_Model_crossedAt, .ref a_Model_strokeOf, .ref a_Model_prices, .ref a_Model_hitAt, .ref a_Model_carried]))] H := hP
    have hD : va_D A [(a_Model_now, .inl (cI, 187, .inl Model_now)), (a_Model_past, .inl (cI, 3740, .inl Model_past)), (a_Model, .inr (11, [.ref a_Model_now, .ref a_Model_past, .int Model_kept, .int y11, .ref a_Model_bits, .ref a_Model_sizes, .ref a_Model_sheets, .ref a_Model_least, .ref a_Model_ways, .int Model_thenCost, .int Model_thenWays, .int Model_bothCost, .int Model_bothWays, .ref a_Model_handOf, .ref a_Model_crossedAt, .ref a_Model_strokeOf, .ref a_Model_prices, .ref a_Model_hitAt, .ref a_Model_carried]))] := hD
    cases hf
    exact k_iret () hQ9 hx hb hr hlocks rfl (hP.sub [2, 0, 1] rfl) (hD.sub [2, 0, 1] (by decide) rfl) hS (Nat.le_of_ble_eq_true rfl) (Nat.le_of_ble_eq_true rfl) dX11_drop_15
abbrev rm_Model_rule : Room := { frames := 1, cells := 0, slots := 0, locals := 22 }
set_option maxHeartbeats 4000000 in
set_option maxRecDepth 100000 in
theorem c_Model_rule (l : Launch) (D : va_G) (cI cZ : ClassId) (t : Nat → Nat) (a_Model a_Model_now a_Model_past a_Model_bits a_Model_sizes a_Model_sheets a_Model_least a_Model_ways a_Model_handOf a_Model_crossedAt a_Model_strokeOf a_Model_prices a_Model_hitAt a_Model_carried sz : Nat) (Model_now Model_past : Nat → Int32) (Model_kept Model_findings Model_thenCost Model_thenWays Model_bothCost Model_bothWays p1 p2 zr : Int32) (z_Model_now z_Model_past : Nat → Int32) (z_Model_kept z_Model_findings : Int32) (hf : f_Model_rule Model_now Model_past Model_kept Model_findings p1 p2 = some (zr, z_Model_now, z_Model_past, z_Model_kept, z_Model_findings)) : Met l yX11_rule wsX11_rule rm_Model_rule (va_Pc [.ref a_Model, .int p1, .int p2] (pcW D cI cZ t [(a_Model, .inr (11, [.ref a_Model_now, .ref a_Model_past, .int Model_kept, .int Model_findings, .ref a_Model_bits, .ref a_Model_sizes, .ref a_Model_sheets, .ref a_Model_least, .ref a_Model_ways, .int Model_thenCost, .int Model_thenWays, .int Model_bothCost, .int Model_bothWays, .ref a_Model_handOf, .ref a_Model_crossedAt, .ref a_Model_strokeOf, .ref a_Model_prices, .ref a_Model_hitAt, .ref a_Model_carried])), (a_Model_now, .inl (cI, 187, .inl Model_now)), (a_Model_past, .inl (cI, 3740, .inl Model_past))] sz)) (va_Qi (fun r (u : Unit) => r = zr) (fun u t' => bW D (va_A [(a_Model, .inr (11, [.ref a_Model_now, .ref a_Model_past, .int Model_kept, .int Model_findings, .ref a_Model_bits, .ref a_Model_sizes, .ref a_Model_sheets, .ref a_Model_least, .ref a_Model_ways, .int Model_thenCost, .int Model_thenWays, .int Model_bothCost, .int Model_bothWays, .ref a_Model_handOf, .ref a_Model_crossedAt, .ref a_Model_strokeOf, .ref a_Model_prices, .ref a_Model_hitAt, .ref a_Model_carried])), (a_Model_now, .inl (cI, 187, .inl Model_now)), (a_Model_past, .inl (cI, 3740, .inl Model_past))] sz) [(a_Model, .inr (11, [.ref a_Model_now, .ref a_Model_past, .int z_Model_kept, .int z_Model_findings, .ref a_Model_bits, .ref a_Model_sizes, .ref a_Model_sheets, .ref a_Model_least, .ref a_Model_ways, .int Model_thenCost, .int Model_thenWays, .int Model_bothCost, .int Model_bothWays, .ref a_Model_handOf, .ref a_Model_crossedAt, .ref a_Model_strokeOf, .ref a_Model_prices, .ref a_Model_hitAt, .ref a_Model_carried])), (a_Model_now, .inl (cI, 187, .inl z_Model_now)), (a_Model_past, .inl (cI, 3740, .inl z_Model_past))] t') (va_A [(a_Model, .inr (11, [.ref a_Model_now, .ref a_Model_past, .int Model_kept, .int Model_findings, .ref a_Model_bits, .ref a_Model_sizes, .ref a_Model_sheets, .ref a_Model_least, .ref a_Model_ways, .int Model_thenCost, .int Model_thenWays, .int Model_bothCost, .int Model_bothWays, .ref a_Model_handOf, .ref a_Model_crossedAt, .ref a_Model_strokeOf, .ref a_Model_prices, .ref a_Model_hitAt, .ref a_Model_carried])), (a_Model_now, .inl (cI, 187, .inl Model_now)), (a_Model_past, .inl (cI, 3740, .inl Model_past))] sz)) 0 0 (va_A [(a_Model, .inr (11, [.ref a_Model_now, .ref a_Model_past, .int Model_kept, .int Model_findings, .ref a_Model_bits, .ref a_Model_sizes, .ref a_Model_sheets, .ref a_Model_least, .ref a_Model_ways, .int Model_thenCost, .int Model_thenWays, .int Model_bothCost, .int Model_bothWays, .ref a_Model_handOf, .ref a_Model_crossedAt, .ref a_Model_strokeOf, .ref a_Model_prices, .ref a_Model_hitAt, .ref a_Model_carried])), (a_Model_now, .inl (cI, 187, .inl Model_now)), (a_Model_past, .inl (cI, 3740, .inl Model_past))] sz) := by
  refine Met.ofW (cc := cX11_rule) (maxL := 4) (ret := (some .int)) (by decide) rfl ?_
  intro p e s m args below meth c s₁ B hml hv
  obtain ⟨rfl, hsz, hP, hD0, hE⟩ := hv
  have hx := B.exec
  have hb := B.bytes
  have hr := B.returns
  have hts := atoms_spec (ws := wsX11_rule) B.pre
  have hown : s.vm.findClass RX11 = some m.cls := findClass_of_methodNamed B.named
  have hlocks := B.notSynchronized
  subst hsz
  have hD := hD0.self (sz := s.heap.size)
  generalize hAe : va_A [(a_Model, .inr (11, [.ref a_Model_now, .ref a_Model_past, .int Model_kept, .int Model_findings, .ref a_Model_bits, .ref a_Model_sizes, .ref a_Model_sheets, .ref a_Model_least, .ref a_Model_ways, .int Model_thenCost, .int Model_thenWays, .int Model_bothCost, .int Model_bothWays, .ref a_Model_handOf, .ref a_Model_crossedAt, .ref a_Model_strokeOf, .ref a_Model_prices, .ref a_Model_hitAt, .ref a_Model_carried])), (a_Model_now, .inl (cI, 187, .inl Model_now)), (a_Model_past, .inl (cI, 3740, .inl Model_past))] s.heap.size = A at hD hE ⊢
  have hA : ∀ q : Nat, s.heap.size ≤ q → A q := fun q h => by rw [← hAe]; exact Or.inr h
  clear hAe hD0
  have hS : va_S A s.heap s.heap [] := va_S.rf
  have hK := hE.1
  have hl := lv_entry ([.ref a_Model, .int p1, .int p2]) (n := 4) (Nat.le_of_ble_eq_true rfl)
  rw [lg_entry_eq]
  generalize (lg_sl ([.ref a_Model, .int p1, .int p2]) ++ List.replicate (4 - (lg_sl ([.ref a_Model, .int p1, .int p2])).length) Slot.unset).toArray = ls at hl ⊢
  have hl : lv_has ls 4 [(0, .ref a_Model), (1, .int p1), (2, .int p2)] := hl
  refine w_q (fun Q9 hQ9 => ?_)
  have kc70 := hts (.constant RX11 70 (-100001)) (by decide +kernel)
  have fl9 := hts (.fieldLink RX11 9 "StickRoomModel" "now" "[I") (by decide +kernel)
  have inX11 : ∀ w ∈ wsX110, w ∈ wsX11_rule := by decide +kernel
  unfold f_Model_rule at hf
  refine lv_iload_n hx hb dX11_rule_0 rfl (lv_at hl 1 rfl) ?_
  refine lv_iconst (v := 0) hx hb dX11_rule_1 (by decide) ?_
  refine lv_iconst (v := 4) hx hb dX11_rule_2 (by decide) ?_
  obtain ⟨r1, g2, hf⟩ := b1_s hf
  refine k_Si (rest := []) ⟨hx, hb, hml, hown, hts⟩ (c_Model_within l D cI cZ t  s.heap.size p1 0 4 r1 g2) (va_cwS 3 hts gX11_rule_X11_within rfl rfl rfl (by decide +kernel) ⟨Nat.le_of_ble_eq_true rfl, Nat.le_of_ble_eq_true rfl⟩) hE hP hD hS hA [] [0, 1, 2] rfl rfl rfl rfl rfl rfl hl.1 rfl (Nat.le_of_ble_eq_true rfl) dX11_rule_3 ⟨Nat.le_of_ble_eq_true rfl, Nat.le_of_ble_eq_true rfl⟩ (fun rq uq H locs hrq hP hD hS => ?_)
  refine lv_tpx hrq.symm ?_
  have hP : va_P D vwCl [(a_Model, .inr (11, [.ref a_Model_now, .ref a_Model_past, .int Model_kept, .int Model_findings, .ref a_Model_bits, .ref a_Model_sizes, .ref a_Model_sheets, .ref a_Model_least, .ref a_Model_ways, .int Model_thenCost, .int Model_thenWays, .int Model_bothCost, .int Model_bothWays, .ref a_Model_handOf, .ref a_Model_crossedAt, .ref a_Model_strokeOf, .ref a_Model_prices, .ref a_Model_hitAt, .ref a_Model_carried])), (a_Model_now, .inl (cI, 187, .inl Model_now)), (a_Model_past, .inl (cI, 3740, .inl Model_past))] H := hP
  have hD : va_D A [(a_Model, .inr (11, [.ref a_Model_now, .ref a_Model_past, .int Model_kept, .int Model_findings, .ref a_Model_bits, .ref a_Model_sizes, .ref a_Model_sheets, .ref a_Model_least, .ref a_Model_ways, .int Model_thenCost, .int Model_thenWays, .int Model_bothCost, .int Model_bothWays, .ref a_Model_handOf, .ref a_Model_crossedAt, .ref a_Model_strokeOf, .ref a_Model_prices, .ref a_Model_hitAt, .ref a_Model_carried])), (a_Model_now, .inl (cI, 187, .inl Model_now)), (a_Model_past, .inl (cI, 3740, .inl Model_past))] := hD
  refine lv_if_eq (tgt := 21) hx hb dX11_rule_6 (by decide) (fun c3 => ?_) (fun c3 => ?_)
  · have hf := ite_t c3 hf
    refine lv_aload_n hx hb dX11_rule_21 rfl (lv_at hl 0 rfl) ?_
    refine lv_ldc (v := (-100001)) hx hb hown kc70 dX11_rule_22 ?_
    obtain ⟨r4, y5, g6, hf⟩ := b2_s hf
    refine k_Vi (rest := []) ⟨hx, hb, hml, hown, hts⟩ (c_Model_finding l D cI cZ t a_Model a_Model_now a_Model_past a_Model_bits a_Model_sizes a_Model_sheets a_Model_least a_Model_ways a_Model_handOf a_Model_crossedAt a_Model_strokeOf a_Model_prices a_Model_hitAt a_Model_carried H.size Model_findings Model_kept Model_thenCost Model_thenWays Model_bothCost Model_bothWays (-100001) r4 y5 g6) (cwV 1 hts gX11_rule_X11_finding rfl rfl rfl (by decide +kernel) ⟨Nat.le_of_ble_eq_true rfl, Nat.le_of_ble_eq_true rfl⟩) hE hP hD hS hA [0] [1, 2] rfl rfl rfl rfl rfl 0 11 rfl rfl rfl rfl hl.1 rfl (Nat.le_of_ble_eq_true rfl) dX11_rule_24 ⟨Nat.le_of_ble_eq_true rfl, Nat.le_of_ble_eq_true rfl⟩ (fun rq uq H locs hrq hP hD hS => ?_)
    refine lv_tpx hrq.symm ?_
    have hP : va_P D vwCl [(a_Model_now, .inl (cI, 187, .inl Model_now)), (a_Model_past, .inl (cI, 3740, .inl Model_past)), (a_Model, .inr (11, [.ref a_Model_now, .ref a_Model_past, .int Model_kept, .int y5, .ref a_Model_bits, .ref a_Model_sizes, .ref a_Model_sheets, .ref a_Model_least, .ref a_Model_ways, .int Model_thenCost, .int Model_thenWays, .int Model_bothCost, .int Model_bothWays, .ref a_Model_handOf, .ref a_Model_crossedAt, .ref a_Model_strokeOf, .ref a_Model_prices, .ref a_Model_hitAt, .ref a_Model_carried]))] H := hP
    have hD : va_D A [(a_Model_now, .inl (cI, 187, .inl Model_now)), (a_Model_past, .inl (cI, 3740, .inl Model_past)), (a_Model, .inr (11, [.ref a_Model_now, .ref a_Model_past, .int Model_kept, .int y5, .ref a_Model_bits, .ref a_Model_sizes, .ref a_Model_sheets, .ref a_Model_least, .ref a_Model_ways, .int Model_thenCost, .int Model_thenWays, .int Model_bothCost, .int Model_bothWays, .ref a_Model_handOf, .ref a_Model_crossedAt, .ref a_Model_strokeOf, .ref a_Model_prices, .ref a_Model_hitAt, .ref a_Model_carried]))] := hD
    cases hf
    exact k_iret () hQ9 hx hb hr hlocks rfl (hP.sub [2, 0, 1] rfl) (hD.sub [2, 0, 1] (by decide) rfl) hS (Nat.le_of_ble_eq_true rfl) (Nat.le_of_ble_eq_true rfl) dX11_rule_27
  · have hf := ite_f c3 hf
    refine lv_iload_n hx hb dX11_rule_9 rfl (lv_at hl 2 rfl) ?_
    refine lv_iconst (v := 0) hx hb dX11_rule_10 (by decide) ?_
    refine lv_iload_n hx hb dX11_rule_11 rfl (lv_at hl 1 rfl) ?_
    obtain ⟨r7, g8, hf⟩ := b1_s hf
    refine k_Si (rest := [.int 0, .int p2]) ⟨hx, hb, hml, hown, hts⟩ (c_Model_mostOf l D cI cZ t  H.size p1 r7 g8) (va_cwS 1 hts gX11_rule_X11_mostOf rfl rfl rfl (by decide +kernel) ⟨Nat.le_of_ble_eq_true rfl, Nat.le_of_ble_eq_true rfl⟩) hE hP hD hS hA [] [0, 1, 2] rfl rfl rfl rfl rfl rfl hl.1 rfl (Nat.le_of_ble_eq_true rfl) dX11_rule_12 ⟨Nat.le_of_ble_eq_true rfl, Nat.le_of_ble_eq_true rfl⟩ (fun rq uq H locs hrq hP hD hS => ?_)
    refine lv_tpx hrq.symm ?_
    have hP : va_P D vwCl [(a_Model, .inr (11, [.ref a_Model_now, .ref a_Model_past, .int Model_kept, .int Model_findings, .ref a_Model_bits, .ref a_Model_sizes, .ref a_Model_sheets, .ref a_Model_least, .ref a_Model_ways, .int Model_thenCost, .int Model_thenWays, .int Model_bothCost, .int Model_bothWays, .ref a_Model_handOf, .ref a_Model_crossedAt, .ref a_Model_strokeOf, .ref a_Model_prices, .ref a_Model_hitAt, .ref a_Model_carried])), (a_Model_now, .inl (cI, 187, .inl Model_now)), (a_Model_past, .inl (cI, 3740, .inl Model_past))] H := hP
    have hD : va_D A [(a_Model, .inr (11, [.ref a_Model_now, .ref a_Model_past, .int Model_kept, .int Model_findings, .ref a_Model_bits, .ref a_Model_sizes, .ref a_Model_sheets, .ref a_Model_least, .ref a_Model_ways, .int Model_thenCost, .int Model_thenWays, .int Model_bothCost, .int Model_bothWays, .ref a_Model_handOf, .ref a_Model_crossedAt, .ref a_Model_strokeOf, .ref a_Model_prices, .ref a_Model_hitAt, .ref a_Model_carried])), (a_Model_now, .inl (cI, 187, .inl Model_now)), (a_Model_past, .inl (cI, 3740, .inl Model_past))] := hD
    obtain ⟨r9, g10, hf⟩ := b1_s hf
    refine k_Si (rest := []) ⟨hx, hb, hml, hown, hts⟩ (c_Model_within l D cI cZ t  H.size p2 0 r7 r9 g10) (va_cwS 3 hts gX11_rule_X11_within rfl rfl rfl (by decide +kernel) ⟨Nat.le_of_ble_eq_true rfl, Nat.le_of_ble_eq_true rfl⟩) hE hP hD hS hA [] [0, 1, 2] rfl rfl rfl rfl rfl rfl hl.1 rfl (Nat.le_of_ble_eq_true rfl) dX11_rule_15 ⟨Nat.le_of_ble_eq_true rfl, Nat.le_of_ble_eq_true rfl⟩ (fun rq uq H locs hrq hP hD hS => ?_)
    refine lv_tpx hrq.symm ?_
    have hP : va_P D vwCl [(a_Model, .inr (11, [.ref a_Model_now, .ref a_Model_past, .int Model_kept, .int Model_findings, .ref a_Model_bits, .ref a_Model_sizes, .ref a_Model_sheets, .ref a_Model_least, .ref a_Model_ways, .int Model_thenCost, .int Model_thenWays, .int Model_bothCost, .int Model_bothWays, .ref a_Model_handOf, .ref a_Model_crossedAt, .ref a_Model_strokeOf, .ref a_Model_prices, .ref a_Model_hitAt, .ref a_Model_carried])), (a_Model_now, .inl (cI, 187, .inl Model_now)), (a_Model_past, .inl (cI, 3740, .inl Model_past))] H := hP
    have hD : va_D A [(a_Model, .inr (11, [.ref a_Model_now, .ref a_Model_past, .int Model_kept, .int Model_findings, .ref a_Model_bits, .ref a_Model_sizes, .ref a_Model_sheets, .ref a_Model_least, .ref a_Model_ways, .int Model_thenCost, .int Model_thenWays, .int Model_bothCost, .int Model_bothWays, .ref a_Model_handOf, .ref a_Model_crossedAt, .ref a_Model_strokeOf, .ref a_Model_prices, .ref a_Model_hitAt, .ref a_Model_carried])), (a_Model_now, .inl (cI, 187, .inl Model_now)), (a_Model_past, .inl (cI, 3740, .inl Model_past))] := hD
    refine lv_if_ne (tgt := 28) hx hb dX11_rule_18 (by decide) (fun c11 => ?_) (fun c11 => ?_)
    · have hf := ite_f c11 hf
      refine lv_aload_n hx hb dX11_rule_28 rfl (lv_at hl 0 rfl) ?_
      obtain ⟨y12, y13, g14, hf⟩ := b2_s hf
      refine k_Vv (rest := []) ⟨hx, hb, hml, hown, hts⟩ (c_Model_keep l D cI cZ t a_Model a_Model_now a_Model_past a_Model_bits a_Model_sizes a_Model_sheets a_Model_least a_Model_ways a_Model_handOf a_Model_crossedAt a_Model_strokeOf a_Model_prices a_Model_hitAt a_Model_carried H.size Model_now Model_past Model_kept Model_findings Model_thenCost Model_thenWays Model_bothCost Model_bothWays y12 y13 g14) (cwV 0 hts gX11_rule_X11_keep rfl rfl rfl (by decide +kernel) ⟨Nat.le_of_ble_eq_true rfl, Nat.le_of_ble_eq_true rfl⟩) hE hP hD hS hA [0, 1, 2] [] rfl rfl rfl rfl rfl 0 11 rfl rfl rfl rfl hl.1 rfl (Nat.le_of_ble_eq_true rfl) dX11_rule_29 ⟨Nat.le_of_ble_eq_true rfl, Nat.le_of_ble_eq_true rfl⟩ (fun uq H locs hrq hP hD hS => ?_)
      have hP : va_P D vwCl [(a_Model, .inr (11, [.ref a_Model_now, .ref a_Model_past, .int y13, .int Model_findings, .ref a_Model_bits, .ref a_Model_sizes, .ref a_Model_sheets, .ref a_Model_least, .ref a_Model_ways, .int Model_thenCost, .int Model_thenWays, .int Model_bothCost, .int Model_bothWays, .ref a_Model_handOf, .ref a_Model_crossedAt, .ref a_Model_strokeOf, .ref a_Model_prices, .ref a_Model_hitAt, .ref a_Model_carried])), (a_Model_now, .inl (cI, 187, .inl Model_now)), (a_Model_past, .inl (cI, 3740, .inl y12))] H := hP
      have hD : va_D A [(a_Model, .inr (11, [.ref a_Model_now, .ref a_Model_past, .int y13, .int Model_findings, .ref a_Model_bits, .ref a_Model_sizes, .ref a_Model_sheets, .ref a_Model_least, .ref a_Model_ways, .int Model_thenCost, .int Model_thenWays, .int Model_bothCost, .int Model_bothWays, .ref a_Model_handOf, .ref a_Model_crossedAt, .ref a_Model_strokeOf, .ref a_Model_prices, .ref a_Model_hitAt, .ref a_Model_carried])), (a_Model_now, .inl (cI, 187, .inl Model_now)), (a_Model_past, .inl (cI, 3740, .inl y12))] := hD
      refine lv_aload_n hx hb dX11_rule_32 rfl (lv_at hl 0 rfl) ?_
      refine va_get (D := D) (ci := 11) (v := .ref a_Model_now) (C := RX11) (T := TX11) (N := 19) hx hb hts inX11 hown hK hP 0 rfl rfl 0 (by decide) fl9 (fun _ h9 => h9) rfl dX11_rule_33 ?_
      refine lv_iconst (v := 2) hx hb dX11_rule_36 (by decide) ?_
      refine lv_iload_n hx hb dX11_rule_37 rfl (lv_at hl 1 rfl) ?_
      refine lv_iadd hx hb dX11_rule_38 ?_
      obtain ⟨ix15, x15, ex15, hf⟩ := rd_s hf
      refine va_iald hx hb hK hP 1 0 rfl rfl ix15 dX11_rule_39 ?_
      refine lv_tpx ex15 ?_
      refine lv_istore_n (lv' := [(3, .int x15), (0, .ref a_Model), (1, .int p1), (2, .int p2)]) hx hb dX11_rule_40 rfl hl (by decide) rfl (fun ls hl => ?_)
      refine lv_aload_n hx hb dX11_rule_41 rfl (lv_at hl 1 rfl) ?_
      refine va_get (D := D) (ci := 11) (v := .ref a_Model_now) (C := RX11) (T := TX11) (N := 19) hx hb hts inX11 hown hK hP 0 rfl rfl 0 (by decide) fl9 (fun _ h9 => h9) rfl dX11_rule_42 ?_
      refine lv_iconst (v := 2) hx hb dX11_rule_45 (by decide) ?_
      refine lv_iload_n hx hb dX11_rule_46 rfl (lv_at hl 2 rfl) ?_
      refine lv_iadd hx hb dX11_rule_47 ?_
      refine lv_iload_n hx hb dX11_rule_48 rfl (lv_at hl 3 rfl) ?_
      obtain ⟨i16, hf⟩ := ck_s hf
      refine va_iast hx hb hK hP hD hS 1 0 rfl rfl i16 dX11_rule_49 (fun H locs hP hD hS => ?_)
      have hP : va_P D vwCl [(a_Model, .inr (11, [.ref a_Model_now, .ref a_Model_past, .int y13, .int Model_findings, .ref a_Model_bits, .ref a_Model_sizes, .ref a_Model_sheets, .ref a_Model_least, .ref a_Model_ways, .int Model_thenCost, .int Model_thenWays, .int Model_bothCost, .int Model_bothWays, .ref a_Model_handOf, .ref a_Model_crossedAt, .ref a_Model_strokeOf, .ref a_Model_prices, .ref a_Model_hitAt, .ref a_Model_carried])), (a_Model_now, .inl (cI, 187, .inl (upd Model_now (2 + p1).toNatClampNeg p2))), (a_Model_past, .inl (cI, 3740, .inl y12))] H := hP
      have hD : va_D A [(a_Model, .inr (11, [.ref a_Model_now, .ref a_Model_past, .int y13, .int Model_findings, .ref a_Model_bits, .ref a_Model_sizes, .ref a_Model_sheets, .ref a_Model_least, .ref a_Model_ways, .int Model_thenCost, .int Model_thenWays, .int Model_bothCost, .int Model_bothWays, .ref a_Model_handOf, .ref a_Model_crossedAt, .ref a_Model_strokeOf, .ref a_Model_prices, .ref a_Model_hitAt, .ref a_Model_carried])), (a_Model_now, .inl (cI, 187, .inl (upd Model_now (2 + p1).toNatClampNeg p2))), (a_Model_past, .inl (cI, 3740, .inl y12))] := hD
      refine lv_iload_n hx hb dX11_rule_50 rfl (lv_at hl 0 rfl) ?_
      cases hf
      exact k_iret () hQ9 hx hb hr hlocks rfl hP hD hS (Nat.le_of_ble_eq_true rfl) (Nat.le_of_ble_eq_true rfl) dX11_rule_51
    · have hf := ite_t c11 hf
      refine lv_aload_n hx hb dX11_rule_21 rfl (lv_at hl 0 rfl) ?_
      refine lv_ldc (v := (-100001)) hx hb hown kc70 dX11_rule_22 ?_
      obtain ⟨r17, y18, g19, hf⟩ := b2_s hf
      refine k_Vi (rest := []) ⟨hx, hb, hml, hown, hts⟩ (c_Model_finding l D cI cZ t a_Model a_Model_now a_Model_past a_Model_bits a_Model_sizes a_Model_sheets a_Model_least a_Model_ways a_Model_handOf a_Model_crossedAt a_Model_strokeOf a_Model_prices a_Model_hitAt a_Model_carried H.size Model_findings Model_kept Model_thenCost Model_thenWays Model_bothCost Model_bothWays (-100001) r17 y18 g19) (cwV 1 hts gX11_rule_X11_finding rfl rfl rfl (by decide +kernel) ⟨Nat.le_of_ble_eq_true rfl, Nat.le_of_ble_eq_true rfl⟩) hE hP hD hS hA [0] [1, 2] rfl rfl rfl rfl rfl 0 11 rfl rfl rfl rfl hl.1 rfl (Nat.le_of_ble_eq_true rfl) dX11_rule_24 ⟨Nat.le_of_ble_eq_true rfl, Nat.le_of_ble_eq_true rfl⟩ (fun rq uq H locs hrq hP hD hS => ?_)
      refine lv_tpx hrq.symm ?_
      have hP : va_P D vwCl [(a_Model_now, .inl (cI, 187, .inl Model_now)), (a_Model_past, .inl (cI, 3740, .inl Model_past)), (a_Model, .inr (11, [.ref a_Model_now, .ref a_Model_past, .int Model_kept, .int y18, .ref a_Model_bits, .ref a_Model_sizes, .ref a_Model_sheets, .ref a_Model_least, .ref a_Model_ways, .int Model_thenCost, .int Model_thenWays, .int Model_bothCost, .int Model_bothWays, .ref a_Model_handOf, .ref a_Model_crossedAt, .ref a_Model_strokeOf, .ref a_Model_prices, .ref a_Model_hitAt, .ref a_Model_carried]))] H := hP
      have hD : va_D A [(a_Model_now, .inl (cI, 187, .inl Model_now)), (a_Model_past, .inl (cI, 3740, .inl Model_past)), (a_Model, .inr (11, [.ref a_Model_now, .ref a_Model_past, .int Model_kept, .int y18, .ref a_Model_bits, .ref a_Model_sizes, .ref a_Model_sheets, .ref a_Model_least, .ref a_Model_ways, .int Model_thenCost, .int Model_thenWays, .int Model_bothCost, .int Model_bothWays, .ref a_Model_handOf, .ref a_Model_crossedAt, .ref a_Model_strokeOf, .ref a_Model_prices, .ref a_Model_hitAt, .ref a_Model_carried]))] := hD
      cases hf
      exact k_iret () hQ9 hx hb hr hlocks rfl (hP.sub [2, 0, 1] rfl) (hD.sub [2, 0, 1] (by decide) rfl) hS (Nat.le_of_ble_eq_true rfl) (Nat.le_of_ble_eq_true rfl) dX11_rule_27
abbrev rm_Model_note : Room := { frames := 2, cells := 0, slots := 0, locals := 42 }
set_option maxHeartbeats 4000000 in
set_option maxRecDepth 100000 in
theorem c_Model_note (l : Launch) (D : va_G) (cI cZ : ClassId) (t : Nat → Nat) (a_Model a_Model_now a_Model_past a_Model_bits a_Model_sizes a_Model_sheets a_Model_least a_Model_ways a_Model_handOf a_Model_crossedAt a_Model_strokeOf a_Model_prices a_Model_hitAt a_Model_carried sz : Nat) (Model_now Model_past : Nat → Int32) (Model_kept Model_findings Model_thenCost Model_thenWays Model_bothCost Model_bothWays p1 p2 p3 zr : Int32) (z_Model_now z_Model_past : Nat → Int32) (z_Model_kept z_Model_findings : Int32) (hf : f_Model_note Model_now Model_past Model_kept Model_findings p1 p2 p3 = some (zr, z_Model_now, z_Model_past, z_Model_kept, z_Model_findings)) : Met l yX11_note wsX11_note rm_Model_note (va_Pc [.ref a_Model, .int p1, .int p2, .int p3] (pcW D cI cZ t [(a_Model, .inr (11, [.ref a_Model_now, .ref a_Model_past, .int Model_kept, .int Model_findings, .ref a_Model_bits, .ref a_Model_sizes, .ref a_Model_sheets, .ref a_Model_least, .ref a_Model_ways, .int Model_thenCost, .int Model_thenWays, .int Model_bothCost, .int Model_bothWays, .ref a_Model_handOf, .ref a_Model_crossedAt, .ref a_Model_strokeOf, .ref a_Model_prices, .ref a_Model_hitAt, .ref a_Model_carried])), (a_Model_now, .inl (cI, 187, .inl Model_now)), (a_Model_past, .inl (cI, 3740, .inl Model_past))] sz)) (va_Qi (fun r (u : Unit) => r = zr) (fun u t' => bW D (va_A [(a_Model, .inr (11, [.ref a_Model_now, .ref a_Model_past, .int Model_kept, .int Model_findings, .ref a_Model_bits, .ref a_Model_sizes, .ref a_Model_sheets, .ref a_Model_least, .ref a_Model_ways, .int Model_thenCost, .int Model_thenWays, .int Model_bothCost, .int Model_bothWays, .ref a_Model_handOf, .ref a_Model_crossedAt, .ref a_Model_strokeOf, .ref a_Model_prices, .ref a_Model_hitAt, .ref a_Model_carried])), (a_Model_now, .inl (cI, 187, .inl Model_now)), (a_Model_past, .inl (cI, 3740, .inl Model_past))] sz) [(a_Model, .inr (11, [.ref a_Model_now, .ref a_Model_past, .int z_Model_kept, .int z_Model_findings, .ref a_Model_bits, .ref a_Model_sizes, .ref a_Model_sheets, .ref a_Model_least, .ref a_Model_ways, .int Model_thenCost, .int Model_thenWays, .int Model_bothCost, .int Model_bothWays, .ref a_Model_handOf, .ref a_Model_crossedAt, .ref a_Model_strokeOf, .ref a_Model_prices, .ref a_Model_hitAt, .ref a_Model_carried])), (a_Model_now, .inl (cI, 187, .inl z_Model_now)), (a_Model_past, .inl (cI, 3740, .inl z_Model_past))] t') (va_A [(a_Model, .inr (11, [.ref a_Model_now, .ref a_Model_past, .int Model_kept, .int Model_findings, .ref a_Model_bits, .ref a_Model_sizes, .ref a_Model_sheets, .ref a_Model_least, .ref a_Model_ways, .int Model_thenCost, .int Model_thenWays, .int Model_bothCost, .int Model_bothWays, .ref a_Model_handOf, .ref a_Model_crossedAt, .ref a_Model_strokeOf, .ref a_Model_prices, .ref a_Model_hitAt, .ref a_Model_carried])), (a_Model_now, .inl (cI, 187, .inl Model_now)), (a_Model_past, .inl (cI, 3740, .inl Model_past))] sz)) 0 0 (va_A [(a_Model, .inr (11, [.ref a_Model_now, .ref a_Model_past, .int Model_kept, .int Model_findings, .ref a_Model_bits, .ref a_Model_sizes, .ref a_Model_sheets, .ref a_Model_least, .ref a_Model_ways, .int Model_thenCost, .int Model_thenWays, .int Model_bothCost, .int Model_bothWays, .ref a_Model_handOf, .ref a_Model_crossedAt, .ref a_Model_strokeOf, .ref a_Model_prices, .ref a_Model_hitAt, .ref a_Model_carried])), (a_Model_now, .inl (cI, 187, .inl Model_now)), (a_Model_past, .inl (cI, 3740, .inl Model_past))] sz) := by
  refine Met.ofW (cc := cX11_note) (maxL := 5) (ret := (some .int)) (by decide) rfl ?_
  intro p e s m args below meth c s₁ B hml hv
  obtain ⟨rfl, hsz, hP, hD0, hE⟩ := hv
  have hx := B.exec
  have hb := B.bytes
  have hr := B.returns
  have hts := atoms_spec (ws := wsX11_note) B.pre
  have hown : s.vm.findClass RX11 = some m.cls := findClass_of_methodNamed B.named
  have hlocks := B.notSynchronized
  subst hsz
  have hD := hD0.self (sz := s.heap.size)
  generalize hAe : va_A [(a_Model, .inr (11, [.ref a_Model_now, .ref a_Model_past, .int Model_kept, .int Model_findings, .ref a_Model_bits, .ref a_Model_sizes, .ref a_Model_sheets, .ref a_Model_least, .ref a_Model_ways, .int Model_thenCost, .int Model_thenWays, .int Model_bothCost, .int Model_bothWays, .ref a_Model_handOf, .ref a_Model_crossedAt, .ref a_Model_strokeOf, .ref a_Model_prices, .ref a_Model_hitAt, .ref a_Model_carried])), (a_Model_now, .inl (cI, 187, .inl Model_now)), (a_Model_past, .inl (cI, 3740, .inl Model_past))] s.heap.size = A at hD hE ⊢
  have hA : ∀ q : Nat, s.heap.size ≤ q → A q := fun q h => by rw [← hAe]; exact Or.inr h
  clear hAe hD0
  have hS : va_S A s.heap s.heap [] := va_S.rf
  have hK := hE.1
  have hl := lv_entry ([.ref a_Model, .int p1, .int p2, .int p3]) (n := 5) (Nat.le_of_ble_eq_true rfl)
  rw [lg_entry_eq]
  generalize (lg_sl ([.ref a_Model, .int p1, .int p2, .int p3]) ++ List.replicate (5 - (lg_sl ([.ref a_Model, .int p1, .int p2, .int p3])).length) Slot.unset).toArray = ls at hl ⊢
  have hl : lv_has ls 5 [(0, .ref a_Model), (1, .int p1), (2, .int p2), (3, .int p3)] := hl
  refine w_q (fun Q9 hQ9 => ?_)
  have kc70 := hts (.constant RX11 70 (-100001)) (by decide +kernel)
  have fl9 := hts (.fieldLink RX11 9 "StickRoomModel" "now" "[I") (by decide +kernel)
  have inX11 : ∀ w ∈ wsX110, w ∈ wsX11_note := by decide +kernel
  have kc72 := hts (.constant RX11 72 (-100005)) (by decide +kernel)
  have kc71 := hts (.constant RX11 71 (-100003)) (by decide +kernel)
  have hJ25 : ∀ (Model_now Model_past : Nat → Int32) (Model_kept Model_findings : Int32) (H : Heap) (locs : List Loc) (ls : Array Slot), va_P D vwCl [(a_Model, .inr (11, [.ref a_Model_now, .ref a_Model_past, .int Model_kept, .int Model_findings, .ref a_Model_bits, .ref a_Model_sizes, .ref a_Model_sheets, .ref a_Model_least, .ref a_Model_ways, .int Model_thenCost, .int Model_thenWays, .int Model_bothCost, .int Model_bothWays, .ref a_Model_handOf, .ref a_Model_crossedAt, .ref a_Model_strokeOf, .ref a_Model_prices, .ref a_Model_hitAt, .ref a_Model_carried])), (a_Model_now, .inl (cI, 187, .inl Model_now)), (a_Model_past, .inl (cI, 3740, .inl Model_past))] H → va_D A [(a_Model, .inr (11, [.ref a_Model_now, .ref a_Model_past, .int Model_kept, .int Model_findings, .ref a_Model_bits, .ref a_Model_sizes, .ref a_Model_sheets, .ref a_Model_least, .ref a_Model_ways, .int Model_thenCost, .int Model_thenWays, .int Model_bothCost, .int Model_bothWays, .ref a_Model_handOf, .ref a_Model_crossedAt, .ref a_Model_strokeOf, .ref a_Model_prices, .ref a_Model_hitAt, .ref a_Model_carried])), (a_Model_now, .inl (cI, 187, .inl Model_now)), (a_Model_past, .inl (cI, 3740, .inl Model_past))] → va_S A s.heap H locs → lv_has ls 5 [(0, .ref a_Model)] → f_Model_note_25 Model_now Model_past Model_kept Model_findings = some (zr, z_Model_now, z_Model_past, z_Model_kept, z_Model_findings) → W p l e (headSpec wsX11_note rm_Model_note).room s m ([.ref a_Model, .int p1, .int p2, .int p3] : List Value).toArray below meth c H locs 0 0 Q9 (F0 m 25 ls []) := by
    intro Model_now Model_past Model_kept Model_findings H locs ls hP hD hS hl hf
    unfold f_Model_note_25 at hf
    refine lv_aload_n hx hb dX11_note_25 rfl (lv_at hl 0 rfl) ?_
    refine lv_ldc (v := (-100001)) hx hb hown kc70 dX11_note_26 ?_
    obtain ⟨r1, y2, g3, hf⟩ := b2_s hf
    refine k_Vi (rest := []) ⟨hx, hb, hml, hown, hts⟩ (c_Model_finding l D cI cZ t a_Model a_Model_now a_Model_past a_Model_bits a_Model_sizes a_Model_sheets a_Model_least a_Model_ways a_Model_handOf a_Model_crossedAt a_Model_strokeOf a_Model_prices a_Model_hitAt a_Model_carried H.size Model_findings Model_kept Model_thenCost Model_thenWays Model_bothCost Model_bothWays (-100001) r1 y2 g3) (cwV 1 hts gX11_note_X11_finding rfl rfl rfl (by decide +kernel) ⟨Nat.le_of_ble_eq_true rfl, Nat.le_of_ble_eq_true rfl⟩) hE hP hD hS hA [0] [1, 2] rfl rfl rfl rfl rfl 0 11 rfl rfl rfl rfl hl.1 rfl (Nat.le_of_ble_eq_true rfl) dX11_note_28 ⟨Nat.le_of_ble_eq_true rfl, Nat.le_of_ble_eq_true rfl⟩ (fun rq uq H locs hrq hP hD hS => ?_)
    refine lv_tpx hrq.symm ?_
    have hP : va_P D vwCl [(a_Model_now, .inl (cI, 187, .inl Model_now)), (a_Model_past, .inl (cI, 3740, .inl Model_past)), (a_Model, .inr (11, [.ref a_Model_now, .ref a_Model_past, .int Model_kept, .int y2, .ref a_Model_bits, .ref a_Model_sizes, .ref a_Model_sheets, .ref a_Model_least, .ref a_Model_ways, .int Model_thenCost, .int Model_thenWays, .int Model_bothCost, .int Model_bothWays, .ref a_Model_handOf, .ref a_Model_crossedAt, .ref a_Model_strokeOf, .ref a_Model_prices, .ref a_Model_hitAt, .ref a_Model_carried]))] H := hP
    have hD : va_D A [(a_Model_now, .inl (cI, 187, .inl Model_now)), (a_Model_past, .inl (cI, 3740, .inl Model_past)), (a_Model, .inr (11, [.ref a_Model_now, .ref a_Model_past, .int Model_kept, .int y2, .ref a_Model_bits, .ref a_Model_sizes, .ref a_Model_sheets, .ref a_Model_least, .ref a_Model_ways, .int Model_thenCost, .int Model_thenWays, .int Model_bothCost, .int Model_bothWays, .ref a_Model_handOf, .ref a_Model_crossedAt, .ref a_Model_strokeOf, .ref a_Model_prices, .ref a_Model_hitAt, .ref a_Model_carried]))] := hD
    cases hf
    exact k_iret () hQ9 hx hb hr hlocks rfl (hP.sub [2, 0, 1] rfl) (hD.sub [2, 0, 1] (by decide) rfl) hS (Nat.le_of_ble_eq_true rfl) (Nat.le_of_ble_eq_true rfl) dX11_note_31
  have hJ68 : ∀ (l1 l2 l3 l4 : Int32) (Model_now Model_past : Nat → Int32) (Model_kept Model_findings : Int32) (H : Heap) (locs : List Loc) (ls : Array Slot), va_P D vwCl [(a_Model, .inr (11, [.ref a_Model_now, .ref a_Model_past, .int Model_kept, .int Model_findings, .ref a_Model_bits, .ref a_Model_sizes, .ref a_Model_sheets, .ref a_Model_least, .ref a_Model_ways, .int Model_thenCost, .int Model_thenWays, .int Model_bothCost, .int Model_bothWays, .ref a_Model_handOf, .ref a_Model_crossedAt, .ref a_Model_strokeOf, .ref a_Model_prices, .ref a_Model_hitAt, .ref a_Model_carried])), (a_Model_now, .inl (cI, 187, .inl Model_now)), (a_Model_past, .inl (cI, 3740, .inl Model_past))] H → va_D A [(a_Model, .inr (11, [.ref a_Model_now, .ref a_Model_past, .int Model_kept, .int Model_findings, .ref a_Model_bits, .ref a_Model_sizes, .ref a_Model_sheets, .ref a_Model_least, .ref a_Model_ways, .int Model_thenCost, .int Model_thenWays, .int Model_bothCost, .int Model_bothWays, .ref a_Model_handOf, .ref a_Model_crossedAt, .ref a_Model_strokeOf, .ref a_Model_prices, .ref a_Model_hitAt, .ref a_Model_carried])), (a_Model_now, .inl (cI, 187, .inl Model_now)), (a_Model_past, .inl (cI, 3740, .inl Model_past))] → va_S A s.heap H locs → lv_has ls 5 [(0, .ref a_Model), (1, .int l1), (2, .int l2), (3, .int l3), (4, .int l4)] → f_Model_note_68 l1 l2 l3 l4 Model_now Model_past Model_kept Model_findings = some (zr, z_Model_now, z_Model_past, z_Model_kept, z_Model_findings) → W p l e (headSpec wsX11_note rm_Model_note).room s m ([.ref a_Model, .int p1, .int p2, .int p3] : List Value).toArray below meth c H locs 0 0 Q9 (F0 m 68 ls []) := by
    intro l1 l2 l3 l4 Model_now Model_past Model_kept Model_findings H locs ls hP hD hS hl hf
    unfold f_Model_note_68 at hf
    refine lv_iload hx hb dX11_note_68 (lv_at hl 4 rfl) ?_
    refine lv_bipush (v := 20) hx hb dX11_note_70 (by decide) ?_
    refine lv_icmp_ne (tgt := 82) hx hb dX11_note_72 (by decide) (fun c4 => ?_) (fun c4 => ?_)
    · have hf := ite_f c4 hf
      refine lv_aload_n hx hb dX11_note_82 rfl (lv_at hl 0 rfl) ?_
      obtain ⟨y5, y6, g7, hf⟩ := b2_s hf
      refine k_Vv (rest := []) ⟨hx, hb, hml, hown, hts⟩ (c_Model_keep l D cI cZ t a_Model a_Model_now a_Model_past a_Model_bits a_Model_sizes a_Model_sheets a_Model_least a_Model_ways a_Model_handOf a_Model_crossedAt a_Model_strokeOf a_Model_prices a_Model_hitAt a_Model_carried H.size Model_now Model_past Model_kept Model_findings Model_thenCost Model_thenWays Model_bothCost Model_bothWays y5 y6 g7) (cwV 0 hts gX11_note_X11_keep rfl rfl rfl (by decide +kernel) ⟨Nat.le_of_ble_eq_true rfl, Nat.le_of_ble_eq_true rfl⟩) hE hP hD hS hA [0, 1, 2] [] rfl rfl rfl rfl rfl 0 11 rfl rfl rfl rfl hl.1 rfl (Nat.le_of_ble_eq_true rfl) dX11_note_83 ⟨Nat.le_of_ble_eq_true rfl, Nat.le_of_ble_eq_true rfl⟩ (fun uq H locs hrq hP hD hS => ?_)
      have hP : va_P D vwCl [(a_Model, .inr (11, [.ref a_Model_now, .ref a_Model_past, .int y6, .int Model_findings, .ref a_Model_bits, .ref a_Model_sizes, .ref a_Model_sheets, .ref a_Model_least, .ref a_Model_ways, .int Model_thenCost, .int Model_thenWays, .int Model_bothCost, .int Model_bothWays, .ref a_Model_handOf, .ref a_Model_crossedAt, .ref a_Model_strokeOf, .ref a_Model_prices, .ref a_Model_hitAt, .ref a_Model_carried])), (a_Model_now, .inl (cI, 187, .inl Model_now)), (a_Model_past, .inl (cI, 3740, .inl y5))] H := hP
      have hD : va_D A [(a_Model, .inr (11, [.ref a_Model_now, .ref a_Model_past, .int y6, .int Model_findings, .ref a_Model_bits, .ref a_Model_sizes, .ref a_Model_sheets, .ref a_Model_least, .ref a_Model_ways, .int Model_thenCost, .int Model_thenWays, .int Model_bothCost, .int Model_bothWays, .ref a_Model_handOf, .ref a_Model_crossedAt, .ref a_Model_strokeOf, .ref a_Model_prices, .ref a_Model_hitAt, .ref a_Model_carried])), (a_Model_now, .inl (cI, 187, .inl Model_now)), (a_Model_past, .inl (cI, 3740, .inl y5))] := hD
      refine lv_aload_n hx hb dX11_note_86 rfl (lv_at hl 0 rfl) ?_
      refine va_get (D := D) (ci := 11) (v := .ref a_Model_now) (C := RX11) (T := TX11) (N := 19) hx hb hts inX11 hown hK hP 0 rfl rfl 0 (by decide) fl9 (fun _ h9 => h9) rfl dX11_note_87 ?_
      refine lv_bipush (v := 7) hx hb dX11_note_90 (by decide) ?_
      refine lv_iload hx hb dX11_note_92 (lv_at hl 4 rfl) ?_
      refine lv_iadd hx hb dX11_note_94 ?_
      refine lv_iload_n hx hb dX11_note_95 rfl (lv_at hl 1 rfl) ?_
      obtain ⟨i8, hf⟩ := ck_s hf
      refine va_iast hx hb hK hP hD hS 1 0 rfl rfl i8 dX11_note_96 (fun H locs hP hD hS => ?_)
      have hP : va_P D vwCl [(a_Model, .inr (11, [.ref a_Model_now, .ref a_Model_past, .int y6, .int Model_findings, .ref a_Model_bits, .ref a_Model_sizes, .ref a_Model_sheets, .ref a_Model_least, .ref a_Model_ways, .int Model_thenCost, .int Model_thenWays, .int Model_bothCost, .int Model_bothWays, .ref a_Model_handOf, .ref a_Model_crossedAt, .ref a_Model_strokeOf, .ref a_Model_prices, .ref a_Model_hitAt, .ref a_Model_carried])), (a_Model_now, .inl (cI, 187, .inl (upd Model_now (7 + l4).toNatClampNeg l1))), (a_Model_past, .inl (cI, 3740, .inl y5))] H := hP
      have hD : va_D A [(a_Model, .inr (11, [.ref a_Model_now, .ref a_Model_past, .int y6, .int Model_findings, .ref a_Model_bits, .ref a_Model_sizes, .ref a_Model_sheets, .ref a_Model_least, .ref a_Model_ways, .int Model_thenCost, .int Model_thenWays, .int Model_bothCost, .int Model_bothWays, .ref a_Model_handOf, .ref a_Model_crossedAt, .ref a_Model_strokeOf, .ref a_Model_prices, .ref a_Model_hitAt, .ref a_Model_carried])), (a_Model_now, .inl (cI, 187, .inl (upd Model_now (7 + l4).toNatClampNeg l1))), (a_Model_past, .inl (cI, 3740, .inl y5))] := hD
      refine lv_aload_n hx hb dX11_note_97 rfl (lv_at hl 0 rfl) ?_
      refine va_get (D := D) (ci := 11) (v := .ref a_Model_now) (C := RX11) (T := TX11) (N := 19) hx hb hts inX11 hown hK hP 0 rfl rfl 0 (by decide) fl9 (fun _ h9 => h9) rfl dX11_note_98 ?_
      refine lv_bipush (v := 27) hx hb dX11_note_101 (by decide) ?_
      refine lv_iload hx hb dX11_note_103 (lv_at hl 4 rfl) ?_
      refine lv_iadd hx hb dX11_note_105 ?_
      refine lv_iload_n hx hb dX11_note_106 rfl (lv_at hl 2 rfl) ?_
      obtain ⟨i9, hf⟩ := ck_s hf
      refine va_iast hx hb hK hP hD hS 1 0 rfl rfl i9 dX11_note_107 (fun H locs hP hD hS => ?_)
      have hP : va_P D vwCl [(a_Model, .inr (11, [.ref a_Model_now, .ref a_Model_past, .int y6, .int Model_findings, .ref a_Model_bits, .ref a_Model_sizes, .ref a_Model_sheets, .ref a_Model_least, .ref a_Model_ways, .int Model_thenCost, .int Model_thenWays, .int Model_bothCost, .int Model_bothWays, .ref a_Model_handOf, .ref a_Model_crossedAt, .ref a_Model_strokeOf, .ref a_Model_prices, .ref a_Model_hitAt, .ref a_Model_carried])), (a_Model_now, .inl (cI, 187, .inl (upd (upd Model_now (7 + l4).toNatClampNeg l1) (27 + l4).toNatClampNeg l2))), (a_Model_past, .inl (cI, 3740, .inl y5))] H := hP
      have hD : va_D A [(a_Model, .inr (11, [.ref a_Model_now, .ref a_Model_past, .int y6, .int Model_findings, .ref a_Model_bits, .ref a_Model_sizes, .ref a_Model_sheets, .ref a_Model_least, .ref a_Model_ways, .int Model_thenCost, .int Model_thenWays, .int Model_bothCost, .int Model_bothWays, .ref a_Model_handOf, .ref a_Model_crossedAt, .ref a_Model_strokeOf, .ref a_Model_prices, .ref a_Model_hitAt, .ref a_Model_carried])), (a_Model_now, .inl (cI, 187, .inl (upd (upd Model_now (7 + l4).toNatClampNeg l1) (27 + l4).toNatClampNeg l2))), (a_Model_past, .inl (cI, 3740, .inl y5))] := hD
      refine lv_aload_n hx hb dX11_note_108 rfl (lv_at hl 0 rfl) ?_
      refine va_get (D := D) (ci := 11) (v := .ref a_Model_now) (C := RX11) (T := TX11) (N := 19) hx hb hts inX11 hown hK hP 0 rfl rfl 0 (by decide) fl9 (fun _ h9 => h9) rfl dX11_note_109 ?_
      refine lv_bipush (v := 47) hx hb dX11_note_112 (by decide) ?_
      refine lv_iload hx hb dX11_note_114 (lv_at hl 4 rfl) ?_
      refine lv_iadd hx hb dX11_note_116 ?_
      refine lv_iload_n hx hb dX11_note_117 rfl (lv_at hl 3 rfl) ?_
      obtain ⟨i10, hf⟩ := ck_s hf
      refine va_iast hx hb hK hP hD hS 1 0 rfl rfl i10 dX11_note_118 (fun H locs hP hD hS => ?_)
      have hP : va_P D vwCl [(a_Model, .inr (11, [.ref a_Model_now, .ref a_Model_past, .int y6, .int Model_findings, .ref a_Model_bits, .ref a_Model_sizes, .ref a_Model_sheets, .ref a_Model_least, .ref a_Model_ways, .int Model_thenCost, .int Model_thenWays, .int Model_bothCost, .int Model_bothWays, .ref a_Model_handOf, .ref a_Model_crossedAt, .ref a_Model_strokeOf, .ref a_Model_prices, .ref a_Model_hitAt, .ref a_Model_carried])), (a_Model_now, .inl (cI, 187, .inl (upd (upd (upd Model_now (7 + l4).toNatClampNeg l1) (27 + l4).toNatClampNeg l2) (47 + l4).toNatClampNeg l3))), (a_Model_past, .inl (cI, 3740, .inl y5))] H := hP
      have hD : va_D A [(a_Model, .inr (11, [.ref a_Model_now, .ref a_Model_past, .int y6, .int Model_findings, .ref a_Model_bits, .ref a_Model_sizes, .ref a_Model_sheets, .ref a_Model_least, .ref a_Model_ways, .int Model_thenCost, .int Model_thenWays, .int Model_bothCost, .int Model_bothWays, .ref a_Model_handOf, .ref a_Model_crossedAt, .ref a_Model_strokeOf, .ref a_Model_prices, .ref a_Model_hitAt, .ref a_Model_carried])), (a_Model_now, .inl (cI, 187, .inl (upd (upd (upd Model_now (7 + l4).toNatClampNeg l1) (27 + l4).toNatClampNeg l2) (47 + l4).toNatClampNeg l3))), (a_Model_past, .inl (cI, 3740, .inl y5))] := hD
      refine lv_aload_n hx hb dX11_note_119 rfl (lv_at hl 0 rfl) ?_
      refine va_get (D := D) (ci := 11) (v := .ref a_Model_now) (C := RX11) (T := TX11) (N := 19) hx hb hts inX11 hown hK hP 0 rfl rfl 0 (by decide) fl9 (fun _ h9 => h9) rfl dX11_note_120 ?_
      refine lv_bipush (v := 67) hx hb dX11_note_123 (by decide) ?_
      refine lv_iload hx hb dX11_note_125 (lv_at hl 4 rfl) ?_
      refine lv_iadd hx hb dX11_note_127 ?_
      refine lv_iconst (v := (-1)) hx hb dX11_note_128 (by decide) ?_
      obtain ⟨i11, hf⟩ := ck_s hf
      refine va_iast hx hb hK hP hD hS 1 0 rfl rfl i11 dX11_note_129 (fun H locs hP hD hS => ?_)
      have hP : va_P D vwCl [(a_Model, .inr (11, [.ref a_Model_now, .ref a_Model_past, .int y6, .int Model_findings, .ref a_Model_bits, .ref a_Model_sizes, .ref a_Model_sheets, .ref a_Model_least, .ref a_Model_ways, .int Model_thenCost, .int Model_thenWays, .int Model_bothCost, .int Model_bothWays, .ref a_Model_handOf, .ref a_Model_crossedAt, .ref a_Model_strokeOf, .ref a_Model_prices, .ref a_Model_hitAt, .ref a_Model_carried])), (a_Model_now, .inl (cI, 187, .inl (upd (upd (upd (upd Model_now (7 + l4).toNatClampNeg l1) (27 + l4).toNatClampNeg l2) (47 + l4).toNatClampNeg l3) (67 + l4).toNatClampNeg (-1)))), (a_Model_past, .inl (cI, 3740, .inl y5))] H := hP
      have hD : va_D A [(a_Model, .inr (11, [.ref a_Model_now, .ref a_Model_past, .int y6, .int Model_findings, .ref a_Model_bits, .ref a_Model_sizes, .ref a_Model_sheets, .ref a_Model_least, .ref a_Model_ways, .int Model_thenCost, .int Model_thenWays, .int Model_bothCost, .int Model_bothWays, .ref a_Model_handOf, .ref a_Model_crossedAt, .ref a_Model_strokeOf, .ref a_Model_prices, .ref a_Model_hitAt, .ref a_Model_carried])), (a_Model_now, .inl (cI, 187, .inl (upd (upd (upd (upd Model_now (7 + l4).toNatClampNeg l1) (27 + l4).toNatClampNeg l2) (47 + l4).toNatClampNeg l3) (67 + l4).toNatClampNeg (-1)))), (a_Model_past, .inl (cI, 3740, .inl y5))] := hD
      refine lv_aload_n hx hb dX11_note_130 rfl (lv_at hl 0 rfl) ?_
      refine va_get (D := D) (ci := 11) (v := .ref a_Model_now) (C := RX11) (T := TX11) (N := 19) hx hb hts inX11 hown hK hP 0 rfl rfl 0 (by decide) fl9 (fun _ h9 => h9) rfl dX11_note_131 ?_
      refine lv_iconst (v := 0) hx hb dX11_note_134 (by decide) ?_
      refine lv_dup2_11 hx hb dX11_note_135 rfl rfl ?_
      obtain ⟨ix12, x12, ex12, hf⟩ := rd_s hf
      refine va_iald hx hb hK hP 1 0 rfl rfl ix12 dX11_note_136 ?_
      refine lv_tpx ex12 ?_
      refine lv_iconst (v := 1) hx hb dX11_note_137 (by decide) ?_
      refine lv_iadd hx hb dX11_note_138 ?_
      obtain ⟨x13, ex13, hf⟩ := nm_s hf
      refine lv_tpx ex13 ?_
      obtain ⟨i14, hf⟩ := ck_s hf
      refine va_iast hx hb hK hP hD hS 1 0 rfl rfl i14 dX11_note_139 (fun H locs hP hD hS => ?_)
      have hP : va_P D vwCl [(a_Model, .inr (11, [.ref a_Model_now, .ref a_Model_past, .int y6, .int Model_findings, .ref a_Model_bits, .ref a_Model_sizes, .ref a_Model_sheets, .ref a_Model_least, .ref a_Model_ways, .int Model_thenCost, .int Model_thenWays, .int Model_bothCost, .int Model_bothWays, .ref a_Model_handOf, .ref a_Model_crossedAt, .ref a_Model_strokeOf, .ref a_Model_prices, .ref a_Model_hitAt, .ref a_Model_carried])), (a_Model_now, .inl (cI, 187, .inl (upd (upd (upd (upd (upd Model_now (7 + l4).toNatClampNeg l1) (27 + l4).toNatClampNeg l2) (47 + l4).toNatClampNeg l3) (67 + l4).toNatClampNeg (-1)) (0 : Int32).toNatClampNeg x13))), (a_Model_past, .inl (cI, 3740, .inl y5))] H := hP
      have hD : va_D A [(a_Model, .inr (11, [.ref a_Model_now, .ref a_Model_past, .int y6, .int Model_findings, .ref a_Model_bits, .ref a_Model_sizes, .ref a_Model_sheets, .ref a_Model_least, .ref a_Model_ways, .int Model_thenCost, .int Model_thenWays, .int Model_bothCost, .int Model_bothWays, .ref a_Model_handOf, .ref a_Model_crossedAt, .ref a_Model_strokeOf, .ref a_Model_prices, .ref a_Model_hitAt, .ref a_Model_carried])), (a_Model_now, .inl (cI, 187, .inl (upd (upd (upd (upd (upd Model_now (7 + l4).toNatClampNeg l1) (27 + l4).toNatClampNeg l2) (47 + l4).toNatClampNeg l3) (67 + l4).toNatClampNeg (-1)) (0 : Int32).toNatClampNeg x13))), (a_Model_past, .inl (cI, 3740, .inl y5))] := hD
      refine lv_iload hx hb dX11_note_140 (lv_at hl 4 rfl) ?_
      cases hf
      exact k_iret () hQ9 hx hb hr hlocks rfl hP hD hS (Nat.le_of_ble_eq_true rfl) (Nat.le_of_ble_eq_true rfl) dX11_note_142
    · have hf := ite_t c4 hf
      refine lv_aload_n hx hb dX11_note_75 rfl (lv_at hl 0 rfl) ?_
      refine lv_ldc (v := (-100005)) hx hb hown kc72 dX11_note_76 ?_
      obtain ⟨r15, y16, g17, hf⟩ := b2_s hf
      refine k_Vi (rest := []) ⟨hx, hb, hml, hown, hts⟩ (c_Model_finding l D cI cZ t a_Model a_Model_now a_Model_past a_Model_bits a_Model_sizes a_Model_sheets a_Model_least a_Model_ways a_Model_handOf a_Model_crossedAt a_Model_strokeOf a_Model_prices a_Model_hitAt a_Model_carried H.size Model_findings Model_kept Model_thenCost Model_thenWays Model_bothCost Model_bothWays (-100005) r15 y16 g17) (cwV 1 hts gX11_note_X11_finding rfl rfl rfl (by decide +kernel) ⟨Nat.le_of_ble_eq_true rfl, Nat.le_of_ble_eq_true rfl⟩) hE hP hD hS hA [0] [1, 2] rfl rfl rfl rfl rfl 0 11 rfl rfl rfl rfl hl.1 rfl (Nat.le_of_ble_eq_true rfl) dX11_note_78 ⟨Nat.le_of_ble_eq_true rfl, Nat.le_of_ble_eq_true rfl⟩ (fun rq uq H locs hrq hP hD hS => ?_)
      refine lv_tpx hrq.symm ?_
      have hP : va_P D vwCl [(a_Model_now, .inl (cI, 187, .inl Model_now)), (a_Model_past, .inl (cI, 3740, .inl Model_past)), (a_Model, .inr (11, [.ref a_Model_now, .ref a_Model_past, .int Model_kept, .int y16, .ref a_Model_bits, .ref a_Model_sizes, .ref a_Model_sheets, .ref a_Model_least, .ref a_Model_ways, .int Model_thenCost, .int Model_thenWays, .int Model_bothCost, .int Model_bothWays, .ref a_Model_handOf, .ref a_Model_crossedAt, .ref a_Model_strokeOf, .ref a_Model_prices, .ref a_Model_hitAt, .ref a_Model_carried]))] H := hP
      have hD : va_D A [(a_Model_now, .inl (cI, 187, .inl Model_now)), (a_Model_past, .inl (cI, 3740, .inl Model_past)), (a_Model, .inr (11, [.ref a_Model_now, .ref a_Model_past, .int Model_kept, .int y16, .ref a_Model_bits, .ref a_Model_sizes, .ref a_Model_sheets, .ref a_Model_least, .ref a_Model_ways, .int Model_thenCost, .int Model_thenWays, .int Model_bothCost, .int Model_bothWays, .ref a_Model_handOf, .ref a_Model_crossedAt, .ref a_Model_strokeOf, .ref a_Model_prices, .ref a_Model_hitAt, .ref a_Model_carried]))] := hD
      cases hf
      exact k_iret () hQ9 hx hb hr hlocks rfl (hP.sub [2, 0, 1] rfl) (hD.sub [2, 0, 1] (by decide) rfl) hS (Nat.le_of_ble_eq_true rfl) (Nat.le_of_ble_eq_true rfl) dX11_note_81
  unfold f_Model_note at hf
  refine lv_iload_n hx hb dX11_note_0 rfl (lv_at hl 1 rfl) ?_
  refine lv_iconst (v := 0) hx hb dX11_note_1 (by decide) ?_
  refine lv_iconst (v := 3) hx hb dX11_note_2 (by decide) ?_
  obtain ⟨r18, g19, hf⟩ := b1_s hf
  refine k_Si (rest := []) ⟨hx, hb, hml, hown, hts⟩ (c_Model_within l D cI cZ t  s.heap.size p1 0 3 r18 g19) (va_cwS 3 hts gX11_note_X11_within rfl rfl rfl (by decide +kernel) ⟨Nat.le_of_ble_eq_true rfl, Nat.le_of_ble_eq_true rfl⟩) hE hP hD hS hA [] [0, 1, 2] rfl rfl rfl rfl rfl rfl hl.1 rfl (Nat.le_of_ble_eq_true rfl) dX11_note_3 ⟨Nat.le_of_ble_eq_true rfl, Nat.le_of_ble_eq_true rfl⟩ (fun rq uq H locs hrq hP hD hS => ?_)
  refine lv_tpx hrq.symm ?_
  have hP : va_P D vwCl [(a_Model, .inr (11, [.ref a_Model_now, .ref a_Model_past, .int Model_kept, .int Model_findings, .ref a_Model_bits, .ref a_Model_sizes, .ref a_Model_sheets, .ref a_Model_least, .ref a_Model_ways, .int Model_thenCost, .int Model_thenWays, .int Model_bothCost, .int Model_bothWays, .ref a_Model_handOf, .ref a_Model_crossedAt, .ref a_Model_strokeOf, .ref a_Model_prices, .ref a_Model_hitAt, .ref a_Model_carried])), (a_Model_now, .inl (cI, 187, .inl Model_now)), (a_Model_past, .inl (cI, 3740, .inl Model_past))] H := hP
  have hD : va_D A [(a_Model, .inr (11, [.ref a_Model_now, .ref a_Model_past, .int Model_kept, .int Model_findings, .ref a_Model_bits, .ref a_Model_sizes, .ref a_Model_sheets, .ref a_Model_least, .ref a_Model_ways, .int Model_thenCost, .int Model_thenWays, .int Model_bothCost, .int Model_bothWays, .ref a_Model_handOf, .ref a_Model_crossedAt, .ref a_Model_strokeOf, .ref a_Model_prices, .ref a_Model_hitAt, .ref a_Model_carried])), (a_Model_now, .inl (cI, 187, .inl Model_now)), (a_Model_past, .inl (cI, 3740, .inl Model_past))] := hD
  refine lv_if_eq (tgt := 25) hx hb dX11_note_6 (by decide) (fun c20 => ?_) (fun c20 => ?_)
  · have hf := ite_t c20 hf
    exact hJ25 Model_now Model_past Model_kept Model_findings H locs ls hP hD hS (lv_sub hl [0] rfl) hf
  · have hf := ite_f c20 hf
    refine lv_iload_n hx hb dX11_note_9 rfl (lv_at hl 2 rfl) ?_
    obtain ⟨r21, g22, hf⟩ := b1_s hf
    refine k_Si (rest := []) ⟨hx, hb, hml, hown, hts⟩ (c_Model_isTick l D cI cZ t  H.size p2 r21 g22) (va_cwS 1 hts gX11_note_X11_isTick rfl rfl rfl (by decide +kernel) ⟨Nat.le_of_ble_eq_true rfl, Nat.le_of_ble_eq_true rfl⟩) hE hP hD hS hA [] [0, 1, 2] rfl rfl rfl rfl rfl rfl hl.1 rfl (Nat.le_of_ble_eq_true rfl) dX11_note_10 ⟨Nat.le_of_ble_eq_true rfl, Nat.le_of_ble_eq_true rfl⟩ (fun rq uq H locs hrq hP hD hS => ?_)
    refine lv_tpx hrq.symm ?_
    have hP : va_P D vwCl [(a_Model, .inr (11, [.ref a_Model_now, .ref a_Model_past, .int Model_kept, .int Model_findings, .ref a_Model_bits, .ref a_Model_sizes, .ref a_Model_sheets, .ref a_Model_least, .ref a_Model_ways, .int Model_thenCost, .int Model_thenWays, .int Model_bothCost, .int Model_bothWays, .ref a_Model_handOf, .ref a_Model_crossedAt, .ref a_Model_strokeOf, .ref a_Model_prices, .ref a_Model_hitAt, .ref a_Model_carried])), (a_Model_now, .inl (cI, 187, .inl Model_now)), (a_Model_past, .inl (cI, 3740, .inl Model_past))] H := hP
    have hD : va_D A [(a_Model, .inr (11, [.ref a_Model_now, .ref a_Model_past, .int Model_kept, .int Model_findings, .ref a_Model_bits, .ref a_Model_sizes, .ref a_Model_sheets, .ref a_Model_least, .ref a_Model_ways, .int Model_thenCost, .int Model_thenWays, .int Model_bothCost, .int Model_bothWays, .ref a_Model_handOf, .ref a_Model_crossedAt, .ref a_Model_strokeOf, .ref a_Model_prices, .ref a_Model_hitAt, .ref a_Model_carried])), (a_Model_now, .inl (cI, 187, .inl Model_now)), (a_Model_past, .inl (cI, 3740, .inl Model_past))] := hD
    refine lv_if_eq (tgt := 25) hx hb dX11_note_13 (by decide) (fun c23 => ?_) (fun c23 => ?_)
    · have hf := ite_t c23 hf
      exact hJ25 Model_now Model_past Model_kept Model_findings H locs ls hP hD hS (lv_sub hl [0] rfl) hf
    · have hf := ite_f c23 hf
      refine lv_iload_n hx hb dX11_note_16 rfl (lv_at hl 3 rfl) ?_
      refine lv_iconst (v := 0) hx hb dX11_note_17 (by decide) ?_
      refine lv_iconst (v := 4) hx hb dX11_note_18 (by decide) ?_
      obtain ⟨r24, g25, hf⟩ := b1_s hf
      refine k_Si (rest := []) ⟨hx, hb, hml, hown, hts⟩ (c_Model_within l D cI cZ t  H.size p3 0 4 r24 g25) (va_cwS 3 hts gX11_note_X11_within rfl rfl rfl (by decide +kernel) ⟨Nat.le_of_ble_eq_true rfl, Nat.le_of_ble_eq_true rfl⟩) hE hP hD hS hA [] [0, 1, 2] rfl rfl rfl rfl rfl rfl hl.1 rfl (Nat.le_of_ble_eq_true rfl) dX11_note_19 ⟨Nat.le_of_ble_eq_true rfl, Nat.le_of_ble_eq_true rfl⟩ (fun rq uq H locs hrq hP hD hS => ?_)
      refine lv_tpx hrq.symm ?_
      have hP : va_P D vwCl [(a_Model, .inr (11, [.ref a_Model_now, .ref a_Model_past, .int Model_kept, .int Model_findings, .ref a_Model_bits, .ref a_Model_sizes, .ref a_Model_sheets, .ref a_Model_least, .ref a_Model_ways, .int Model_thenCost, .int Model_thenWays, .int Model_bothCost, .int Model_bothWays, .ref a_Model_handOf, .ref a_Model_crossedAt, .ref a_Model_strokeOf, .ref a_Model_prices, .ref a_Model_hitAt, .ref a_Model_carried])), (a_Model_now, .inl (cI, 187, .inl Model_now)), (a_Model_past, .inl (cI, 3740, .inl Model_past))] H := hP
      have hD : va_D A [(a_Model, .inr (11, [.ref a_Model_now, .ref a_Model_past, .int Model_kept, .int Model_findings, .ref a_Model_bits, .ref a_Model_sizes, .ref a_Model_sheets, .ref a_Model_least, .ref a_Model_ways, .int Model_thenCost, .int Model_thenWays, .int Model_bothCost, .int Model_bothWays, .ref a_Model_handOf, .ref a_Model_crossedAt, .ref a_Model_strokeOf, .ref a_Model_prices, .ref a_Model_hitAt, .ref a_Model_carried])), (a_Model_now, .inl (cI, 187, .inl Model_now)), (a_Model_past, .inl (cI, 3740, .inl Model_past))] := hD
      refine lv_if_ne (tgt := 32) hx hb dX11_note_22 (by decide) (fun c26 => ?_) (fun c26 => ?_)
      · have hf := ite_f c26 hf
        refine lv_aload_n hx hb dX11_note_32 rfl (lv_at hl 0 rfl) ?_
        refine va_get (D := D) (ci := 11) (v := .ref a_Model_now) (C := RX11) (T := TX11) (N := 19) hx hb hts inX11 hown hK hP 0 rfl rfl 0 (by decide) fl9 (fun _ h9 => h9) rfl dX11_note_33 ?_
        refine lv_iconst (v := 0) hx hb dX11_note_36 (by decide) ?_
        obtain ⟨ix27, x27, ex27, hf⟩ := rd_s hf
        refine va_iald hx hb hK hP 1 0 rfl rfl ix27 dX11_note_37 ?_
        refine lv_tpx ex27 ?_
        refine lv_istore (lv' := [(4, .int x27), (0, .ref a_Model), (1, .int p1), (2, .int p2), (3, .int p3)]) hx hb dX11_note_38 hl (by decide) rfl (fun ls hl => ?_)
        refine lv_iload hx hb dX11_note_40 (lv_at hl 0 rfl) ?_
        refine lv_if_le (tgt := 68) hx hb dX11_note_42 (by decide) (fun c28 => ?_) (fun c28 => ?_)
        · have hf := ite_t c28 hf
          exact hJ68 p1 p2 p3 x27 Model_now Model_past Model_kept Model_findings H locs ls hP hD hS (lv_sub hl [1, 2, 3, 4, 0] rfl) hf
        · have hf := ite_f c28 hf
          refine lv_iload_n hx hb dX11_note_45 rfl (lv_at hl 3 rfl) ?_
          refine lv_aload_n hx hb dX11_note_46 rfl (lv_at hl 1 rfl) ?_
          refine va_get (D := D) (ci := 11) (v := .ref a_Model_now) (C := RX11) (T := TX11) (N := 19) hx hb hts inX11 hown hK hP 0 rfl rfl 0 (by decide) fl9 (fun _ h9 => h9) rfl dX11_note_47 ?_
          refine lv_bipush (v := 27) hx hb dX11_note_50 (by decide) ?_
          refine lv_iload hx hb dX11_note_52 (lv_at hl 0 rfl) ?_
          refine lv_iadd hx hb dX11_note_54 ?_
          refine lv_iconst (v := 1) hx hb dX11_note_55 (by decide) ?_
          refine lv_isub hx hb dX11_note_56 ?_
          obtain ⟨ix29, x29, ex29, hf⟩ := rd_s hf
          refine va_iald hx hb hK hP 1 0 rfl rfl ix29 dX11_note_57 ?_
          refine lv_tpx ex29 ?_
          refine lv_icmp_gt (tgt := 68) hx hb dX11_note_58 (by decide) (fun c30 => ?_) (fun c30 => ?_)
          · have hf := ite_t c30 hf
            exact hJ68 p1 p2 p3 x27 Model_now Model_past Model_kept Model_findings H locs ls hP hD hS (lv_sub hl [1, 2, 3, 4, 0] rfl) hf
          · have hf := ite_f c30 hf
            refine lv_aload_n hx hb dX11_note_61 rfl (lv_at hl 1 rfl) ?_
            refine lv_ldc (v := (-100003)) hx hb hown kc71 dX11_note_62 ?_
            obtain ⟨r31, y32, g33, hf⟩ := b2_s hf
            refine k_Vi (rest := []) ⟨hx, hb, hml, hown, hts⟩ (c_Model_finding l D cI cZ t a_Model a_Model_now a_Model_past a_Model_bits a_Model_sizes a_Model_sheets a_Model_least a_Model_ways a_Model_handOf a_Model_crossedAt a_Model_strokeOf a_Model_prices a_Model_hitAt a_Model_carried H.size Model_findings Model_kept Model_thenCost Model_thenWays Model_bothCost Model_bothWays (-100003) r31 y32 g33) (cwV 1 hts gX11_note_X11_finding rfl rfl rfl (by decide +kernel) ⟨Nat.le_of_ble_eq_true rfl, Nat.le_of_ble_eq_true rfl⟩) hE hP hD hS hA [0] [1, 2] rfl rfl rfl rfl rfl 0 11 rfl rfl rfl rfl hl.1 rfl (Nat.le_of_ble_eq_true rfl) dX11_note_64 ⟨Nat.le_of_ble_eq_true rfl, Nat.le_of_ble_eq_true rfl⟩ (fun rq uq H locs hrq hP hD hS => ?_)
            refine lv_tpx hrq.symm ?_
            have hP : va_P D vwCl [(a_Model_now, .inl (cI, 187, .inl Model_now)), (a_Model_past, .inl (cI, 3740, .inl Model_past)), (a_Model, .inr (11, [.ref a_Model_now, .ref a_Model_past, .int Model_kept, .int y32, .ref a_Model_bits, .ref a_Model_sizes, .ref a_Model_sheets, .ref a_Model_least, .ref a_Model_ways, .int Model_thenCost, .int Model_thenWays, .int Model_bothCost, .int Model_bothWays, .ref a_Model_handOf, .ref a_Model_crossedAt, .ref a_Model_strokeOf, .ref a_Model_prices, .ref a_Model_hitAt, .ref a_Model_carried]))] H := hP
            have hD : va_D A [(a_Model_now, .inl (cI, 187, .inl Model_now)), (a_Model_past, .inl (cI, 3740, .inl Model_past)), (a_Model, .inr (11, [.ref a_Model_now, .ref a_Model_past, .int Model_kept, .int y32, .ref a_Model_bits, .ref a_Model_sizes, .ref a_Model_sheets, .ref a_Model_least, .ref a_Model_ways, .int Model_thenCost, .int Model_thenWays, .int Model_bothCost, .int Model_bothWays, .ref a_Model_handOf, .ref a_Model_crossedAt, .ref a_Model_strokeOf, .ref a_Model_prices, .ref a_Model_hitAt, .ref a_Model_carried]))] := hD
            cases hf
            exact k_iret () hQ9 hx hb hr hlocks rfl (hP.sub [2, 0, 1] rfl) (hD.sub [2, 0, 1] (by decide) rfl) hS (Nat.le_of_ble_eq_true rfl) (Nat.le_of_ble_eq_true rfl) dX11_note_67
      · have hf := ite_t c26 hf
        exact hJ25 Model_now Model_past Model_kept Model_findings H locs ls hP hD hS (lv_sub hl [0] rfl) hf
abbrev rm_Model_as : Room := { frames := 2, cells := 0, slots := 0, locals := 43 }
set_option maxHeartbeats 4000000 in
set_option maxRecDepth 100000 in
theorem c_Model_as (l : Launch) (D : va_G) (cI cZ : ClassId) (t : Nat → Nat) (a_Model a_Model_now a_Model_past a_Model_bits a_Model_sizes a_Model_sheets a_Model_least a_Model_ways a_Model_handOf a_Model_crossedAt a_Model_strokeOf a_Model_prices a_Model_hitAt a_Model_carried sz : Nat) (Model_now : Nat → Int32) (Model_findings Model_kept Model_thenCost Model_thenWays Model_bothCost Model_bothWays p1 p2 zr z_Model_findings : Int32) (hf : f_Model_as Model_now Model_findings p1 p2 = some (zr, z_Model_findings)) : Met l yX11_as wsX11_as rm_Model_as (va_Pc [.ref a_Model, .int p1, .int p2] (pcW D cI cZ t [(a_Model, .inr (11, [.ref a_Model_now, .ref a_Model_past, .int Model_kept, .int Model_findings, .ref a_Model_bits, .ref a_Model_sizes, .ref a_Model_sheets, .ref a_Model_least, .ref a_Model_ways, .int Model_thenCost, .int Model_thenWays, .int Model_bothCost, .int Model_bothWays, .ref a_Model_handOf, .ref a_Model_crossedAt, .ref a_Model_strokeOf, .ref a_Model_prices, .ref a_Model_hitAt, .ref a_Model_carried])), (a_Model_now, .inl (cI, 187, .inl Model_now))] sz)) (va_Qi (fun r (u : Unit) => r = zr) (fun u t' => bW D (va_A [(a_Model, .inr (11, [.ref a_Model_now, .ref a_Model_past, .int Model_kept, .int Model_findings, .ref a_Model_bits, .ref a_Model_sizes, .ref a_Model_sheets, .ref a_Model_least, .ref a_Model_ways, .int Model_thenCost, .int Model_thenWays, .int Model_bothCost, .int Model_bothWays, .ref a_Model_handOf, .ref a_Model_crossedAt, .ref a_Model_strokeOf, .ref a_Model_prices, .ref a_Model_hitAt, .ref a_Model_carried])), (a_Model_now, .inl (cI, 187, .inl Model_now))] sz) [(a_Model, .inr (11, [.ref a_Model_now, .ref a_Model_past, .int Model_kept, .int z_Model_findings, .ref a_Model_bits, .ref a_Model_sizes, .ref a_Model_sheets, .ref a_Model_least, .ref a_Model_ways, .int Model_thenCost, .int Model_thenWays, .int Model_bothCost, .int Model_bothWays, .ref a_Model_handOf, .ref a_Model_crossedAt, .ref a_Model_strokeOf, .ref a_Model_prices, .ref a_Model_hitAt, .ref a_Model_carried])), (a_Model_now, .inl (cI, 187, .inl Model_now))] t') (va_A [(a_Model, .inr (11, [.ref a_Model_now, .ref a_Model_past, .int Model_kept, .int Model_findings, .ref a_Model_bits, .ref a_Model_sizes, .ref a_Model_sheets, .ref a_Model_least, .ref a_Model_ways, .int Model_thenCost, .int Model_thenWays, .int Model_bothCost, .int Model_bothWays, .ref a_Model_handOf, .ref a_Model_crossedAt, .ref a_Model_strokeOf, .ref a_Model_prices, .ref a_Model_hitAt, .ref a_Model_carried])), (a_Model_now, .inl (cI, 187, .inl Model_now))] sz)) 0 0 (va_A [(a_Model, .inr (11, [.ref a_Model_now, .ref a_Model_past, .int Model_kept, .int Model_findings, .ref a_Model_bits, .ref a_Model_sizes, .ref a_Model_sheets, .ref a_Model_least, .ref a_Model_ways, .int Model_thenCost, .int Model_thenWays, .int Model_bothCost, .int Model_bothWays, .ref a_Model_handOf, .ref a_Model_crossedAt, .ref a_Model_strokeOf, .ref a_Model_prices, .ref a_Model_hitAt, .ref a_Model_carried])), (a_Model_now, .inl (cI, 187, .inl Model_now))] sz) := by
  refine Met.ofW (cc := cX11_as) (maxL := 4) (ret := (some .int)) (by decide) rfl ?_
  intro p e s m args below meth c s₁ B hml hv
  obtain ⟨rfl, hsz, hP, hD0, hE⟩ := hv
  have hx := B.exec
  have hb := B.bytes
  have hr := B.returns
  have hts := atoms_spec (ws := wsX11_as) B.pre
  have hown : s.vm.findClass RX11 = some m.cls := findClass_of_methodNamed B.named
  have hlocks := B.notSynchronized
  subst hsz
  have hD := hD0.self (sz := s.heap.size)
  generalize hAe : va_A [(a_Model, .inr (11, [.ref a_Model_now, .ref a_Model_past, .int Model_kept, .int Model_findings, .ref a_Model_bits, .ref a_Model_sizes, .ref a_Model_sheets, .ref a_Model_least, .ref a_Model_ways, .int Model_thenCost, .int Model_thenWays, .int Model_bothCost, .int Model_bothWays, .ref a_Model_handOf, .ref a_Model_crossedAt, .ref a_Model_strokeOf, .ref a_Model_prices, .ref a_Model_hitAt, .ref a_Model_carried])), (a_Model_now, .inl (cI, 187, .inl Model_now))] s.heap.size = A at hD hE ⊢
  have hA : ∀ q : Nat, s.heap.size ≤ q → A q := fun q h => by rw [← hAe]; exact Or.inr h
  clear hAe hD0
  have hS : va_S A s.heap s.heap [] := va_S.rf
  have hK := hE.1
  have hl := lv_entry ([.ref a_Model, .int p1, .int p2]) (n := 4) (Nat.le_of_ble_eq_true rfl)
  rw [lg_entry_eq]
  generalize (lg_sl ([.ref a_Model, .int p1, .int p2]) ++ List.replicate (4 - (lg_sl ([.ref a_Model, .int p1, .int p2])).length) Slot.unset).toArray = ls at hl ⊢
  have hl : lv_has ls 4 [(0, .ref a_Model), (1, .int p1), (2, .int p2)] := hl
  refine w_q (fun Q9 hQ9 => ?_)
  have kc70 := hts (.constant RX11 70 (-100001)) (by decide +kernel)
  have fl9 := hts (.fieldLink RX11 9 "StickRoomModel" "now" "[I") (by decide +kernel)
  have inX11 : ∀ w ∈ wsX110, w ∈ wsX11_as := by decide +kernel
  have kc79 := hts (.constant RX11 79 (-100004)) (by decide +kernel)
  unfold f_Model_as at hf
  refine lv_aload_n hx hb dX11_as_0 rfl (lv_at hl 0 rfl) ?_
  refine lv_iload_n hx hb dX11_as_1 rfl (lv_at hl 1 rfl) ?_
  obtain ⟨r1, g2, hf⟩ := b1_s hf
  refine k_Vi (rest := []) ⟨hx, hb, hml, hown, hts⟩ (c_Model_isNote l D cI cZ t a_Model a_Model_now a_Model_past a_Model_bits a_Model_sizes a_Model_sheets a_Model_least a_Model_ways a_Model_handOf a_Model_crossedAt a_Model_strokeOf a_Model_prices a_Model_hitAt a_Model_carried s.heap.size Model_now Model_kept Model_findings Model_thenCost Model_thenWays Model_bothCost Model_bothWays p1 r1 g2) (cwV 1 hts gX11_as_X11_isNote rfl rfl rfl (by decide +kernel) ⟨Nat.le_of_ble_eq_true rfl, Nat.le_of_ble_eq_true rfl⟩) hE hP hD hS hA [0, 1] [] rfl rfl rfl rfl rfl 0 11 rfl rfl rfl rfl hl.1 rfl (Nat.le_of_ble_eq_true rfl) dX11_as_2 ⟨Nat.le_of_ble_eq_true rfl, Nat.le_of_ble_eq_true rfl⟩ (fun rq uq H locs hrq hP hD hS => ?_)
  refine lv_tpx hrq.symm ?_
  have hP : va_P D vwCl [(a_Model, .inr (11, [.ref a_Model_now, .ref a_Model_past, .int Model_kept, .int Model_findings, .ref a_Model_bits, .ref a_Model_sizes, .ref a_Model_sheets, .ref a_Model_least, .ref a_Model_ways, .int Model_thenCost, .int Model_thenWays, .int Model_bothCost, .int Model_bothWays, .ref a_Model_handOf, .ref a_Model_crossedAt, .ref a_Model_strokeOf, .ref a_Model_prices, .ref a_Model_hitAt, .ref a_Model_carried])), (a_Model_now, .inl (cI, 187, .inl Model_now))] H := hP
  have hD : va_D A [(a_Model, .inr (11, [.ref a_Model_now, .ref a_Model_past, .int Model_kept, .int Model_findings, .ref a_Model_bits, .ref a_Model_sizes, .ref a_Model_sheets, .ref a_Model_least, .ref a_Model_ways, .int Model_thenCost, .int Model_thenWays, .int Model_bothCost, .int Model_bothWays, .ref a_Model_handOf, .ref a_Model_crossedAt, .ref a_Model_strokeOf, .ref a_Model_prices, .ref a_Model_hitAt, .ref a_Model_carried])), (a_Model_now, .inl (cI, 187, .inl Model_now))] := hD
  refine lv_if_eq (tgt := 17) hx hb dX11_as_5 (by decide) (fun c3 => ?_) (fun c3 => ?_)
  · have hf := ite_t c3 hf
    refine lv_aload_n hx hb dX11_as_17 rfl (lv_at hl 0 rfl) ?_
    refine lv_ldc (v := (-100001)) hx hb hown kc70 dX11_as_18 ?_
    obtain ⟨r4, y5, g6, hf⟩ := b2_s hf
    refine k_Vi (rest := []) ⟨hx, hb, hml, hown, hts⟩ (c_Model_finding l D cI cZ t a_Model a_Model_now a_Model_past a_Model_bits a_Model_sizes a_Model_sheets a_Model_least a_Model_ways a_Model_handOf a_Model_crossedAt a_Model_strokeOf a_Model_prices a_Model_hitAt a_Model_carried H.size Model_findings Model_kept Model_thenCost Model_thenWays Model_bothCost Model_bothWays (-100001) r4 y5 g6) (cwV 1 hts gX11_as_X11_finding rfl rfl rfl (by decide +kernel) ⟨Nat.le_of_ble_eq_true rfl, Nat.le_of_ble_eq_true rfl⟩) hE hP hD hS hA [0] [1] rfl rfl rfl rfl rfl 0 11 rfl rfl rfl rfl hl.1 rfl (Nat.le_of_ble_eq_true rfl) dX11_as_20 ⟨Nat.le_of_ble_eq_true rfl, Nat.le_of_ble_eq_true rfl⟩ (fun rq uq H locs hrq hP hD hS => ?_)
    refine lv_tpx hrq.symm ?_
    have hP : va_P D vwCl [(a_Model_now, .inl (cI, 187, .inl Model_now)), (a_Model, .inr (11, [.ref a_Model_now, .ref a_Model_past, .int Model_kept, .int y5, .ref a_Model_bits, .ref a_Model_sizes, .ref a_Model_sheets, .ref a_Model_least, .ref a_Model_ways, .int Model_thenCost, .int Model_thenWays, .int Model_bothCost, .int Model_bothWays, .ref a_Model_handOf, .ref a_Model_crossedAt, .ref a_Model_strokeOf, .ref a_Model_prices, .ref a_Model_hitAt, .ref a_Model_carried]))] H := hP
    have hD : va_D A [(a_Model_now, .inl (cI, 187, .inl Model_now)), (a_Model, .inr (11, [.ref a_Model_now, .ref a_Model_past, .int Model_kept, .int y5, .ref a_Model_bits, .ref a_Model_sizes, .ref a_Model_sheets, .ref a_Model_least, .ref a_Model_ways, .int Model_thenCost, .int Model_thenWays, .int Model_bothCost, .int Model_bothWays, .ref a_Model_handOf, .ref a_Model_crossedAt, .ref a_Model_strokeOf, .ref a_Model_prices, .ref a_Model_hitAt, .ref a_Model_carried]))] := hD
    cases hf
    exact k_iret () hQ9 hx hb hr hlocks rfl (hP.sub [1, 0] rfl) (hD.sub [1, 0] (by decide) rfl) hS (Nat.le_of_ble_eq_true rfl) (Nat.le_of_ble_eq_true rfl) dX11_as_23
  · have hf := ite_f c3 hf
    refine lv_iload_n hx hb dX11_as_8 rfl (lv_at hl 2 rfl) ?_
    refine lv_iconst (v := 0) hx hb dX11_as_9 (by decide) ?_
    refine lv_iconst (v := 3) hx hb dX11_as_10 (by decide) ?_
    obtain ⟨r7, g8, hf⟩ := b1_s hf
    refine k_Si (rest := []) ⟨hx, hb, hml, hown, hts⟩ (c_Model_within l D cI cZ t  H.size p2 0 3 r7 g8) (va_cwS 3 hts gX11_as_X11_within rfl rfl rfl (by decide +kernel) ⟨Nat.le_of_ble_eq_true rfl, Nat.le_of_ble_eq_true rfl⟩) hE hP hD hS hA [] [0, 1] rfl rfl rfl rfl rfl rfl hl.1 rfl (Nat.le_of_ble_eq_true rfl) dX11_as_11 ⟨Nat.le_of_ble_eq_true rfl, Nat.le_of_ble_eq_true rfl⟩ (fun rq uq H locs hrq hP hD hS => ?_)
    refine lv_tpx hrq.symm ?_
    have hP : va_P D vwCl [(a_Model, .inr (11, [.ref a_Model_now, .ref a_Model_past, .int Model_kept, .int Model_findings, .ref a_Model_bits, .ref a_Model_sizes, .ref a_Model_sheets, .ref a_Model_least, .ref a_Model_ways, .int Model_thenCost, .int Model_thenWays, .int Model_bothCost, .int Model_bothWays, .ref a_Model_handOf, .ref a_Model_crossedAt, .ref a_Model_strokeOf, .ref a_Model_prices, .ref a_Model_hitAt, .ref a_Model_carried])), (a_Model_now, .inl (cI, 187, .inl Model_now))] H := hP
    have hD : va_D A [(a_Model, .inr (11, [.ref a_Model_now, .ref a_Model_past, .int Model_kept, .int Model_findings, .ref a_Model_bits, .ref a_Model_sizes, .ref a_Model_sheets, .ref a_Model_least, .ref a_Model_ways, .int Model_thenCost, .int Model_thenWays, .int Model_bothCost, .int Model_bothWays, .ref a_Model_handOf, .ref a_Model_crossedAt, .ref a_Model_strokeOf, .ref a_Model_prices, .ref a_Model_hitAt, .ref a_Model_carried])), (a_Model_now, .inl (cI, 187, .inl Model_now))] := hD
    refine lv_if_ne (tgt := 24) hx hb dX11_as_14 (by decide) (fun c9 => ?_) (fun c9 => ?_)
    · have hf := ite_f c9 hf
      refine lv_aload_n hx hb dX11_as_24 rfl (lv_at hl 0 rfl) ?_
      refine va_get (D := D) (ci := 11) (v := .ref a_Model_now) (C := RX11) (T := TX11) (N := 19) hx hb hts inX11 hown hK hP 0 rfl rfl 0 (by decide) fl9 (fun _ h9 => h9) rfl dX11_as_25 ?_
      refine lv_bipush (v := 7) hx hb dX11_as_28 (by decide) ?_
      refine lv_iload_n hx hb dX11_as_30 rfl (lv_at hl 1 rfl) ?_
      refine lv_iadd hx hb dX11_as_31 ?_
      obtain ⟨ix10, x10, ex10, hf⟩ := rd_s hf
      refine va_iald hx hb hK hP 1 0 rfl rfl ix10 dX11_as_32 ?_
      refine lv_tpx ex10 ?_
      refine lv_istore_n (lv' := [(3, .int x10), (0, .ref a_Model), (1, .int p1), (2, .int p2)]) hx hb dX11_as_33 rfl hl (by decide) rfl (fun ls hl => ?_)
      refine lv_iload_n hx hb dX11_as_34 rfl (lv_at hl 3 rfl) ?_
      refine lv_if_eq (tgt := 53) hx hb dX11_as_35 (by decide) (fun c11 => ?_) (fun c11 => ?_)
      · have hf := ite_t c11 hf
        refine lv_iload_n hx hb dX11_as_53 rfl (lv_at hl 2 rfl) ?_
        refine lv_goto (tgt := 63) hx hb dX11_as_54 (by decide) ?_
        cases hf
        exact k_iret () hQ9 hx hb hr hlocks rfl hP hD hS (Nat.le_of_ble_eq_true rfl) (Nat.le_of_ble_eq_true rfl) dX11_as_63
      · have hf := ite_f c11 hf
        refine lv_iload_n hx hb dX11_as_38 rfl (lv_at hl 0 rfl) ?_
        refine lv_iload_n hx hb dX11_as_39 rfl (lv_at hl 3 rfl) ?_
        refine lv_icmp_eq (tgt := 53) hx hb dX11_as_40 (by decide) (fun c12 => ?_) (fun c12 => ?_)
        · have hf := ite_t c12 hf
          refine lv_iload_n hx hb dX11_as_53 rfl (lv_at hl 2 rfl) ?_
          refine lv_goto (tgt := 63) hx hb dX11_as_54 (by decide) ?_
          cases hf
          exact k_iret () hQ9 hx hb hr hlocks rfl hP hD hS (Nat.le_of_ble_eq_true rfl) (Nat.le_of_ble_eq_true rfl) dX11_as_63
        · have hf := ite_f c12 hf
          refine lv_iload_n hx hb dX11_as_43 rfl (lv_at hl 3 rfl) ?_
          refine lv_iconst (v := 2) hx hb dX11_as_44 (by decide) ?_
          refine lv_icmp_ne (tgt := 57) hx hb dX11_as_45 (by decide) (fun c13 => ?_) (fun c13 => ?_)
          · have hf := ite_f c13 hf
            refine lv_aload_n hx hb dX11_as_57 rfl (lv_at hl 1 rfl) ?_
            refine lv_ldc (v := (-100004)) hx hb hown kc79 dX11_as_58 ?_
            obtain ⟨r14, y15, g16, hf⟩ := b2_s hf
            refine k_Vi (rest := []) ⟨hx, hb, hml, hown, hts⟩ (c_Model_finding l D cI cZ t a_Model a_Model_now a_Model_past a_Model_bits a_Model_sizes a_Model_sheets a_Model_least a_Model_ways a_Model_handOf a_Model_crossedAt a_Model_strokeOf a_Model_prices a_Model_hitAt a_Model_carried H.size Model_findings Model_kept Model_thenCost Model_thenWays Model_bothCost Model_bothWays (-100004) r14 y15 g16) (cwV 1 hts gX11_as_X11_finding rfl rfl rfl (by decide +kernel) ⟨Nat.le_of_ble_eq_true rfl, Nat.le_of_ble_eq_true rfl⟩) hE hP hD hS hA [0] [1] rfl rfl rfl rfl rfl 0 11 rfl rfl rfl rfl hl.1 rfl (Nat.le_of_ble_eq_true rfl) dX11_as_60 ⟨Nat.le_of_ble_eq_true rfl, Nat.le_of_ble_eq_true rfl⟩ (fun rq uq H locs hrq hP hD hS => ?_)
            refine lv_tpx hrq.symm ?_
            have hP : va_P D vwCl [(a_Model_now, .inl (cI, 187, .inl Model_now)), (a_Model, .inr (11, [.ref a_Model_now, .ref a_Model_past, .int Model_kept, .int y15, .ref a_Model_bits, .ref a_Model_sizes, .ref a_Model_sheets, .ref a_Model_least, .ref a_Model_ways, .int Model_thenCost, .int Model_thenWays, .int Model_bothCost, .int Model_bothWays, .ref a_Model_handOf, .ref a_Model_crossedAt, .ref a_Model_strokeOf, .ref a_Model_prices, .ref a_Model_hitAt, .ref a_Model_carried]))] H := hP
            have hD : va_D A [(a_Model_now, .inl (cI, 187, .inl Model_now)), (a_Model, .inr (11, [.ref a_Model_now, .ref a_Model_past, .int Model_kept, .int y15, .ref a_Model_bits, .ref a_Model_sizes, .ref a_Model_sheets, .ref a_Model_least, .ref a_Model_ways, .int Model_thenCost, .int Model_thenWays, .int Model_bothCost, .int Model_bothWays, .ref a_Model_handOf, .ref a_Model_crossedAt, .ref a_Model_strokeOf, .ref a_Model_prices, .ref a_Model_hitAt, .ref a_Model_carried]))] := hD
            cases hf
            exact k_iret () hQ9 hx hb hr hlocks rfl (hP.sub [1, 0] rfl) (hD.sub [1, 0] (by decide) rfl) hS (Nat.le_of_ble_eq_true rfl) (Nat.le_of_ble_eq_true rfl) dX11_as_63
          · have hf := ite_t c13 hf
            refine lv_iload_n hx hb dX11_as_48 rfl (lv_at hl 0 rfl) ?_
            refine lv_iconst (v := 3) hx hb dX11_as_49 (by decide) ?_
            refine lv_icmp_ne (tgt := 57) hx hb dX11_as_50 (by decide) (fun c17 => ?_) (fun c17 => ?_)
            · have hf := ite_f c17 hf
              refine lv_aload_n hx hb dX11_as_57 rfl (lv_at hl 1 rfl) ?_
              refine lv_ldc (v := (-100004)) hx hb hown kc79 dX11_as_58 ?_
              obtain ⟨r18, y19, g20, hf⟩ := b2_s hf
              refine k_Vi (rest := []) ⟨hx, hb, hml, hown, hts⟩ (c_Model_finding l D cI cZ t a_Model a_Model_now a_Model_past a_Model_bits a_Model_sizes a_Model_sheets a_Model_least a_Model_ways a_Model_handOf a_Model_crossedAt a_Model_strokeOf a_Model_prices a_Model_hitAt a_Model_carried H.size Model_findings Model_kept Model_thenCost Model_thenWays Model_bothCost Model_bothWays (-100004) r18 y19 g20) (cwV 1 hts gX11_as_X11_finding rfl rfl rfl (by decide +kernel) ⟨Nat.le_of_ble_eq_true rfl, Nat.le_of_ble_eq_true rfl⟩) hE hP hD hS hA [0] [1] rfl rfl rfl rfl rfl 0 11 rfl rfl rfl rfl hl.1 rfl (Nat.le_of_ble_eq_true rfl) dX11_as_60 ⟨Nat.le_of_ble_eq_true rfl, Nat.le_of_ble_eq_true rfl⟩ (fun rq uq H locs hrq hP hD hS => ?_)
              refine lv_tpx hrq.symm ?_
              have hP : va_P D vwCl [(a_Model_now, .inl (cI, 187, .inl Model_now)), (a_Model, .inr (11, [.ref a_Model_now, .ref a_Model_past, .int Model_kept, .int y19, .ref a_Model_bits, .ref a_Model_sizes, .ref a_Model_sheets, .ref a_Model_least, .ref a_Model_ways, .int Model_thenCost, .int Model_thenWays, .int Model_bothCost, .int Model_bothWays, .ref a_Model_handOf, .ref a_Model_crossedAt, .ref a_Model_strokeOf, .ref a_Model_prices, .ref a_Model_hitAt, .ref a_Model_carried]))] H := hP
              have hD : va_D A [(a_Model_now, .inl (cI, 187, .inl Model_now)), (a_Model, .inr (11, [.ref a_Model_now, .ref a_Model_past, .int Model_kept, .int y19, .ref a_Model_bits, .ref a_Model_sizes, .ref a_Model_sheets, .ref a_Model_least, .ref a_Model_ways, .int Model_thenCost, .int Model_thenWays, .int Model_bothCost, .int Model_bothWays, .ref a_Model_handOf, .ref a_Model_crossedAt, .ref a_Model_strokeOf, .ref a_Model_prices, .ref a_Model_hitAt, .ref a_Model_carried]))] := hD
              cases hf
              exact k_iret () hQ9 hx hb hr hlocks rfl (hP.sub [1, 0] rfl) (hD.sub [1, 0] (by decide) rfl) hS (Nat.le_of_ble_eq_true rfl) (Nat.le_of_ble_eq_true rfl) dX11_as_63
            · have hf := ite_t c17 hf
              refine lv_iload_n hx hb dX11_as_53 rfl (lv_at hl 2 rfl) ?_
              refine lv_goto (tgt := 63) hx hb dX11_as_54 (by decide) ?_
              cases hf
              exact k_iret () hQ9 hx hb hr hlocks rfl hP hD hS (Nat.le_of_ble_eq_true rfl) (Nat.le_of_ble_eq_true rfl) dX11_as_63
    · have hf := ite_t c9 hf
      refine lv_aload_n hx hb dX11_as_17 rfl (lv_at hl 0 rfl) ?_
      refine lv_ldc (v := (-100001)) hx hb hown kc70 dX11_as_18 ?_
      obtain ⟨r21, y22, g23, hf⟩ := b2_s hf
      refine k_Vi (rest := []) ⟨hx, hb, hml, hown, hts⟩ (c_Model_finding l D cI cZ t a_Model a_Model_now a_Model_past a_Model_bits a_Model_sizes a_Model_sheets a_Model_least a_Model_ways a_Model_handOf a_Model_crossedAt a_Model_strokeOf a_Model_prices a_Model_hitAt a_Model_carried H.size Model_findings Model_kept Model_thenCost Model_thenWays Model_bothCost Model_bothWays (-100001) r21 y22 g23) (cwV 1 hts gX11_as_X11_finding rfl rfl rfl (by decide +kernel) ⟨Nat.le_of_ble_eq_true rfl, Nat.le_of_ble_eq_true rfl⟩) hE hP hD hS hA [0] [1] rfl rfl rfl rfl rfl 0 11 rfl rfl rfl rfl hl.1 rfl (Nat.le_of_ble_eq_true rfl) dX11_as_20 ⟨Nat.le_of_ble_eq_true rfl, Nat.le_of_ble_eq_true rfl⟩ (fun rq uq H locs hrq hP hD hS => ?_)
      refine lv_tpx hrq.symm ?_
      have hP : va_P D vwCl [(a_Model_now, .inl (cI, 187, .inl Model_now)), (a_Model, .inr (11, [.ref a_Model_now, .ref a_Model_past, .int Model_kept, .int y22, .ref a_Model_bits, .ref a_Model_sizes, .ref a_Model_sheets, .ref a_Model_least, .ref a_Model_ways, .int Model_thenCost, .int Model_thenWays, .int Model_bothCost, .int Model_bothWays, .ref a_Model_handOf, .ref a_Model_crossedAt, .ref a_Model_strokeOf, .ref a_Model_prices, .ref a_Model_hitAt, .ref a_Model_carried]))] H := hP
      have hD : va_D A [(a_Model_now, .inl (cI, 187, .inl Model_now)), (a_Model, .inr (11, [.ref a_Model_now, .ref a_Model_past, .int Model_kept, .int y22, .ref a_Model_bits, .ref a_Model_sizes, .ref a_Model_sheets, .ref a_Model_least, .ref a_Model_ways, .int Model_thenCost, .int Model_thenWays, .int Model_bothCost, .int Model_bothWays, .ref a_Model_handOf, .ref a_Model_crossedAt, .ref a_Model_strokeOf, .ref a_Model_prices, .ref a_Model_hitAt, .ref a_Model_carried]))] := hD
      cases hf
      exact k_iret () hQ9 hx hb hr hlocks rfl (hP.sub [1, 0] rfl) (hD.sub [1, 0] (by decide) rfl) hS (Nat.le_of_ble_eq_true rfl) (Nat.le_of_ble_eq_true rfl) dX11_as_23
abbrev rm_Model_of : Room := { frames := 2, cells := 0, slots := 0, locals := 43 }
set_option maxHeartbeats 4000000 in
set_option maxRecDepth 100000 in
theorem c_Model_of (l : Launch) (D : va_G) (cI cZ : ClassId) (t : Nat → Nat) (a_Model a_Model_now a_Model_past a_Model_bits a_Model_sizes a_Model_sheets a_Model_least a_Model_ways a_Model_handOf a_Model_crossedAt a_Model_strokeOf a_Model_prices a_Model_hitAt a_Model_carried sz : Nat) (Model_now : Nat → Int32) (Model_findings Model_kept Model_thenCost Model_thenWays Model_bothCost Model_bothWays p1 p2 zr z_Model_findings : Int32) (hf : f_Model_of Model_now Model_findings p1 p2 = some (zr, z_Model_findings)) : Met l yX11_of wsX11_of rm_Model_of (va_Pc [.ref a_Model, .int p1, .int p2] (pcW D cI cZ t [(a_Model, .inr (11, [.ref a_Model_now, .ref a_Model_past, .int Model_kept, .int Model_findings, .ref a_Model_bits, .ref a_Model_sizes, .ref a_Model_sheets, .ref a_Model_least, .ref a_Model_ways, .int Model_thenCost, .int Model_thenWays, .int Model_bothCost, .int Model_bothWays, .ref a_Model_handOf, .ref a_Model_crossedAt, .ref a_Model_strokeOf, .ref a_Model_prices, .ref a_Model_hitAt, .ref a_Model_carried])), (a_Model_now, .inl (cI, 187, .inl Model_now))] sz)) (va_Qi (fun r (u : Unit) => r = zr) (fun u t' => bW D (va_A [(a_Model, .inr (11, [.ref a_Model_now, .ref a_Model_past, .int Model_kept, .int Model_findings, .ref a_Model_bits, .ref a_Model_sizes, .ref a_Model_sheets, .ref a_Model_least, .ref a_Model_ways, .int Model_thenCost, .int Model_thenWays, .int Model_bothCost, .int Model_bothWays, .ref a_Model_handOf, .ref a_Model_crossedAt, .ref a_Model_strokeOf, .ref a_Model_prices, .ref a_Model_hitAt, .ref a_Model_carried])), (a_Model_now, .inl (cI, 187, .inl Model_now))] sz) [(a_Model, .inr (11, [.ref a_Model_now, .ref a_Model_past, .int Model_kept, .int z_Model_findings, .ref a_Model_bits, .ref a_Model_sizes, .ref a_Model_sheets, .ref a_Model_least, .ref a_Model_ways, .int Model_thenCost, .int Model_thenWays, .int Model_bothCost, .int Model_bothWays, .ref a_Model_handOf, .ref a_Model_crossedAt, .ref a_Model_strokeOf, .ref a_Model_prices, .ref a_Model_hitAt, .ref a_Model_carried])), (a_Model_now, .inl (cI, 187, .inl Model_now))] t') (va_A [(a_Model, .inr (11, [.ref a_Model_now, .ref a_Model_past, .int Model_kept, .int Model_findings, .ref a_Model_bits, .ref a_Model_sizes, .ref a_Model_sheets, .ref a_Model_least, .ref a_Model_ways, .int Model_thenCost, .int Model_thenWays, .int Model_bothCost, .int Model_bothWays, .ref a_Model_handOf, .ref a_Model_crossedAt, .ref a_Model_strokeOf, .ref a_Model_prices, .ref a_Model_hitAt, .ref a_Model_carried])), (a_Model_now, .inl (cI, 187, .inl Model_now))] sz)) 0 0 (va_A [(a_Model, .inr (11, [.ref a_Model_now, .ref a_Model_past, .int Model_kept, .int Model_findings, .ref a_Model_bits, .ref a_Model_sizes, .ref a_Model_sheets, .ref a_Model_least, .ref a_Model_ways, .int Model_thenCost, .int Model_thenWays, .int Model_bothCost, .int Model_bothWays, .ref a_Model_handOf, .ref a_Model_crossedAt, .ref a_Model_strokeOf, .ref a_Model_prices, .ref a_Model_hitAt, .ref a_Model_carried])), (a_Model_now, .inl (cI, 187, .inl Model_now))] sz) := by
  refine Met.ofW (cc := cX11_of) (maxL := 3) (ret := (some .int)) (by decide) rfl ?_
  intro p e s m args below meth c s₁ B hml hv
  obtain ⟨rfl, hsz, hP, hD0, hE⟩ := hv
  have hx := B.exec
  have hb := B.bytes
  have hr := B.returns
  have hts := atoms_spec (ws := wsX11_of) B.pre
  have hown : s.vm.findClass RX11 = some m.cls := findClass_of_methodNamed B.named
  have hlocks := B.notSynchronized
  subst hsz
  have hD := hD0.self (sz := s.heap.size)
  generalize hAe : va_A [(a_Model, .inr (11, [.ref a_Model_now, .ref a_Model_past, .int Model_kept, .int Model_findings, .ref a_Model_bits, .ref a_Model_sizes, .ref a_Model_sheets, .ref a_Model_least, .ref a_Model_ways, .int Model_thenCost, .int Model_thenWays, .int Model_bothCost, .int Model_bothWays, .ref a_Model_handOf, .ref a_Model_crossedAt, .ref a_Model_strokeOf, .ref a_Model_prices, .ref a_Model_hitAt, .ref a_Model_carried])), (a_Model_now, .inl (cI, 187, .inl Model_now))] s.heap.size = A at hD hE ⊢
  have hA : ∀ q : Nat, s.heap.size ≤ q → A q := fun q h => by rw [← hAe]; exact Or.inr h
  clear hAe hD0
  have hS : va_S A s.heap s.heap [] := va_S.rf
  have hK := hE.1
  have hl := lv_entry ([.ref a_Model, .int p1, .int p2]) (n := 3) (Nat.le_of_ble_eq_true rfl)
  rw [lg_entry_eq]
  generalize (lg_sl ([.ref a_Model, .int p1, .int p2]) ++ List.replicate (3 - (lg_sl ([.ref a_Model, .int p1, .int p2])).length) Slot.unset).toArray = ls at hl ⊢
  have hl : lv_has ls 3 [(0, .ref a_Model), (1, .int p1), (2, .int p2)] := hl
  refine w_q (fun Q9 hQ9 => ?_)
  have kc70 := hts (.constant RX11 70 (-100001)) (by decide +kernel)
  have fl9 := hts (.fieldLink RX11 9 "StickRoomModel" "now" "[I") (by decide +kernel)
  have inX11 : ∀ w ∈ wsX110, w ∈ wsX11_of := by decide +kernel
  unfold f_Model_of at hf
  refine lv_aload_n hx hb dX11_of_0 rfl (lv_at hl 0 rfl) ?_
  refine lv_iload_n hx hb dX11_of_1 rfl (lv_at hl 1 rfl) ?_
  obtain ⟨r1, g2, hf⟩ := b1_s hf
  refine k_Vi (rest := []) ⟨hx, hb, hml, hown, hts⟩ (c_Model_isNote l D cI cZ t a_Model a_Model_now a_Model_past a_Model_bits a_Model_sizes a_Model_sheets a_Model_least a_Model_ways a_Model_handOf a_Model_crossedAt a_Model_strokeOf a_Model_prices a_Model_hitAt a_Model_carried s.heap.size Model_now Model_kept Model_findings Model_thenCost Model_thenWays Model_bothCost Model_bothWays p1 r1 g2) (cwV 1 hts gX11_of_X11_isNote rfl rfl rfl (by decide +kernel) ⟨Nat.le_of_ble_eq_true rfl, Nat.le_of_ble_eq_true rfl⟩) hE hP hD hS hA [0, 1] [] rfl rfl rfl rfl rfl 0 11 rfl rfl rfl rfl hl.1 rfl (Nat.le_of_ble_eq_true rfl) dX11_of_2 ⟨Nat.le_of_ble_eq_true rfl, Nat.le_of_ble_eq_true rfl⟩ (fun rq uq H locs hrq hP hD hS => ?_)
  refine lv_tpx hrq.symm ?_
  have hP : va_P D vwCl [(a_Model, .inr (11, [.ref a_Model_now, .ref a_Model_past, .int Model_kept, .int Model_findings, .ref a_Model_bits, .ref a_Model_sizes, .ref a_Model_sheets, .ref a_Model_least, .ref a_Model_ways, .int Model_thenCost, .int Model_thenWays, .int Model_bothCost, .int Model_bothWays, .ref a_Model_handOf, .ref a_Model_crossedAt, .ref a_Model_strokeOf, .ref a_Model_prices, .ref a_Model_hitAt, .ref a_Model_carried])), (a_Model_now, .inl (cI, 187, .inl Model_now))] H := hP
  have hD : va_D A [(a_Model, .inr (11, [.ref a_Model_now, .ref a_Model_past, .int Model_kept, .int Model_findings, .ref a_Model_bits, .ref a_Model_sizes, .ref a_Model_sheets, .ref a_Model_least, .ref a_Model_ways, .int Model_thenCost, .int Model_thenWays, .int Model_bothCost, .int Model_bothWays, .ref a_Model_handOf, .ref a_Model_crossedAt, .ref a_Model_strokeOf, .ref a_Model_prices, .ref a_Model_hitAt, .ref a_Model_carried])), (a_Model_now, .inl (cI, 187, .inl Model_now))] := hD
  refine lv_if_eq (tgt := 17) hx hb dX11_of_5 (by decide) (fun c3 => ?_) (fun c3 => ?_)
  · have hf := ite_t c3 hf
    refine lv_aload_n hx hb dX11_of_17 rfl (lv_at hl 0 rfl) ?_
    refine lv_ldc (v := (-100001)) hx hb hown kc70 dX11_of_18 ?_
    obtain ⟨r4, y5, g6, hf⟩ := b2_s hf
    refine k_Vi (rest := []) ⟨hx, hb, hml, hown, hts⟩ (c_Model_finding l D cI cZ t a_Model a_Model_now a_Model_past a_Model_bits a_Model_sizes a_Model_sheets a_Model_least a_Model_ways a_Model_handOf a_Model_crossedAt a_Model_strokeOf a_Model_prices a_Model_hitAt a_Model_carried H.size Model_findings Model_kept Model_thenCost Model_thenWays Model_bothCost Model_bothWays (-100001) r4 y5 g6) (cwV 1 hts gX11_of_X11_finding rfl rfl rfl (by decide +kernel) ⟨Nat.le_of_ble_eq_true rfl, Nat.le_of_ble_eq_true rfl⟩) hE hP hD hS hA [0] [1] rfl rfl rfl rfl rfl 0 11 rfl rfl rfl rfl hl.1 rfl (Nat.le_of_ble_eq_true rfl) dX11_of_20 ⟨Nat.le_of_ble_eq_true rfl, Nat.le_of_ble_eq_true rfl⟩ (fun rq uq H locs hrq hP hD hS => ?_)
    refine lv_tpx hrq.symm ?_
    have hP : va_P D vwCl [(a_Model_now, .inl (cI, 187, .inl Model_now)), (a_Model, .inr (11, [.ref a_Model_now, .ref a_Model_past, .int Model_kept, .int y5, .ref a_Model_bits, .ref a_Model_sizes, .ref a_Model_sheets, .ref a_Model_least, .ref a_Model_ways, .int Model_thenCost, .int Model_thenWays, .int Model_bothCost, .int Model_bothWays, .ref a_Model_handOf, .ref a_Model_crossedAt, .ref a_Model_strokeOf, .ref a_Model_prices, .ref a_Model_hitAt, .ref a_Model_carried]))] H := hP
    have hD : va_D A [(a_Model_now, .inl (cI, 187, .inl Model_now)), (a_Model, .inr (11, [.ref a_Model_now, .ref a_Model_past, .int Model_kept, .int y5, .ref a_Model_bits, .ref a_Model_sizes, .ref a_Model_sheets, .ref a_Model_least, .ref a_Model_ways, .int Model_thenCost, .int Model_thenWays, .int Model_bothCost, .int Model_bothWays, .ref a_Model_handOf, .ref a_Model_crossedAt, .ref a_Model_strokeOf, .ref a_Model_prices, .ref a_Model_hitAt, .ref a_Model_carried]))] := hD
    cases hf
    exact k_iret () hQ9 hx hb hr hlocks rfl (hP.sub [1, 0] rfl) (hD.sub [1, 0] (by decide) rfl) hS (Nat.le_of_ble_eq_true rfl) (Nat.le_of_ble_eq_true rfl) dX11_of_23
  · have hf := ite_f c3 hf
    refine lv_iload_n hx hb dX11_of_8 rfl (lv_at hl 2 rfl) ?_
    refine lv_iconst (v := 0) hx hb dX11_of_9 (by decide) ?_
    refine lv_iconst (v := 3) hx hb dX11_of_10 (by decide) ?_
    obtain ⟨r7, g8, hf⟩ := b1_s hf
    refine k_Si (rest := []) ⟨hx, hb, hml, hown, hts⟩ (c_Model_within l D cI cZ t  H.size p2 0 3 r7 g8) (va_cwS 3 hts gX11_of_X11_within rfl rfl rfl (by decide +kernel) ⟨Nat.le_of_ble_eq_true rfl, Nat.le_of_ble_eq_true rfl⟩) hE hP hD hS hA [] [0, 1] rfl rfl rfl rfl rfl rfl hl.1 rfl (Nat.le_of_ble_eq_true rfl) dX11_of_11 ⟨Nat.le_of_ble_eq_true rfl, Nat.le_of_ble_eq_true rfl⟩ (fun rq uq H locs hrq hP hD hS => ?_)
    refine lv_tpx hrq.symm ?_
    have hP : va_P D vwCl [(a_Model, .inr (11, [.ref a_Model_now, .ref a_Model_past, .int Model_kept, .int Model_findings, .ref a_Model_bits, .ref a_Model_sizes, .ref a_Model_sheets, .ref a_Model_least, .ref a_Model_ways, .int Model_thenCost, .int Model_thenWays, .int Model_bothCost, .int Model_bothWays, .ref a_Model_handOf, .ref a_Model_crossedAt, .ref a_Model_strokeOf, .ref a_Model_prices, .ref a_Model_hitAt, .ref a_Model_carried])), (a_Model_now, .inl (cI, 187, .inl Model_now))] H := hP
    have hD : va_D A [(a_Model, .inr (11, [.ref a_Model_now, .ref a_Model_past, .int Model_kept, .int Model_findings, .ref a_Model_bits, .ref a_Model_sizes, .ref a_Model_sheets, .ref a_Model_least, .ref a_Model_ways, .int Model_thenCost, .int Model_thenWays, .int Model_bothCost, .int Model_bothWays, .ref a_Model_handOf, .ref a_Model_crossedAt, .ref a_Model_strokeOf, .ref a_Model_prices, .ref a_Model_hitAt, .ref a_Model_carried])), (a_Model_now, .inl (cI, 187, .inl Model_now))] := hD
    refine lv_if_ne (tgt := 24) hx hb dX11_of_14 (by decide) (fun c9 => ?_) (fun c9 => ?_)
    · have hf := ite_f c9 hf
      refine lv_iload_n hx hb dX11_of_24 rfl (lv_at hl 2 rfl) ?_
      by_cases c10 : p2 = 0
      · have hf := ite_t c10 hf
        refine lv_tableIn (off := 27) (tgt := 52) hx hb dX11_of_25 (by rw [c10]; decide) (by rw [c10]; decide) (by rw [c10]; rfl) (by decide) ?_
        refine lv_aload_n hx hb dX11_of_52 rfl (lv_at hl 0 rfl) ?_
        refine va_get (D := D) (ci := 11) (v := .ref a_Model_now) (C := RX11) (T := TX11) (N := 19) hx hb hts inX11 hown hK hP 0 rfl rfl 0 (by decide) fl9 (fun _ h9 => h9) rfl dX11_of_53 ?_
        refine lv_bipush (v := 7) hx hb dX11_of_56 (by decide) ?_
        refine lv_iload_n hx hb dX11_of_58 rfl (lv_at hl 1 rfl) ?_
        refine lv_iadd hx hb dX11_of_59 ?_
        obtain ⟨ix11, x11, ex11, hf⟩ := rd_s hf
        refine va_iald hx hb hK hP 1 0 rfl rfl ix11 dX11_of_60 ?_
        refine lv_tpx ex11 ?_
        cases hf
        exact k_iret () hQ9 hx hb hr hlocks rfl hP hD hS (Nat.le_of_ble_eq_true rfl) (Nat.le_of_ble_eq_true rfl) dX11_of_61
      have hf := ite_f c10 hf
      by_cases c12 : p2 = 1
      · have hf := ite_t c12 hf
        refine lv_tableIn (off := 37) (tgt := 62) hx hb dX11_of_25 (by rw [c12]; decide) (by rw [c12]; decide) (by rw [c12]; rfl) (by decide) ?_
        refine lv_aload_n hx hb dX11_of_62 rfl (lv_at hl 0 rfl) ?_
        refine va_get (D := D) (ci := 11) (v := .ref a_Model_now) (C := RX11) (T := TX11) (N := 19) hx hb hts inX11 hown hK hP 0 rfl rfl 0 (by decide) fl9 (fun _ h9 => h9) rfl dX11_of_63 ?_
        refine lv_bipush (v := 27) hx hb dX11_of_66 (by decide) ?_
        refine lv_iload_n hx hb dX11_of_68 rfl (lv_at hl 1 rfl) ?_
        refine lv_iadd hx hb dX11_of_69 ?_
        obtain ⟨ix13, x13, ex13, hf⟩ := rd_s hf
        refine va_iald hx hb hK hP 1 0 rfl rfl ix13 dX11_of_70 ?_
        refine lv_tpx ex13 ?_
        cases hf
        exact k_iret () hQ9 hx hb hr hlocks rfl hP hD hS (Nat.le_of_ble_eq_true rfl) (Nat.le_of_ble_eq_true rfl) dX11_of_71
      have hf := ite_f c12 hf
      by_cases c14 : p2 = 2
      · have hf := ite_t c14 hf
        refine lv_tableIn (off := 47) (tgt := 72) hx hb dX11_of_25 (by rw [c14]; decide) (by rw [c14]; decide) (by rw [c14]; rfl) (by decide) ?_
        refine lv_aload_n hx hb dX11_of_72 rfl (lv_at hl 0 rfl) ?_
        refine va_get (D := D) (ci := 11) (v := .ref a_Model_now) (C := RX11) (T := TX11) (N := 19) hx hb hts inX11 hown hK hP 0 rfl rfl 0 (by decide) fl9 (fun _ h9 => h9) rfl dX11_of_73 ?_
        refine lv_bipush (v := 47) hx hb dX11_of_76 (by decide) ?_
        refine lv_iload_n hx hb dX11_of_78 rfl (lv_at hl 1 rfl) ?_
        refine lv_iadd hx hb dX11_of_79 ?_
        obtain ⟨ix15, x15, ex15, hf⟩ := rd_s hf
        refine va_iald hx hb hK hP 1 0 rfl rfl ix15 dX11_of_80 ?_
        refine lv_tpx ex15 ?_
        cases hf
        exact k_iret () hQ9 hx hb hr hlocks rfl hP hD hS (Nat.le_of_ble_eq_true rfl) (Nat.le_of_ble_eq_true rfl) dX11_of_81
      have hf := ite_f c14 hf
      refine lv_tableOut (tgt := 82) hx hb dX11_of_25 (by have q0 : p2.toInt ≠ 0 := fun q => c10 (Int32.toInt_inj.mp (q.trans (by decide))); have q1 : p2.toInt ≠ 1 := fun q => c12 (Int32.toInt_inj.mp (q.trans (by decide))); have q2 : p2.toInt ≠ 2 := fun q => c14 (Int32.toInt_inj.mp (q.trans (by decide))); omega) (by decide) ?_
      refine lv_iconst (v := 1) hx hb dX11_of_82 (by decide) ?_
      refine lv_aload_n hx hb dX11_of_83 rfl (lv_at hl 0 rfl) ?_
      refine lv_iload_n hx hb dX11_of_84 rfl (lv_at hl 1 rfl) ?_
      obtain ⟨r16, g17, hf⟩ := b1_s hf
      refine k_Vi (rest := [.int 1]) ⟨hx, hb, hml, hown, hts⟩ (c_Model_graces l D cI cZ t a_Model a_Model_now a_Model_past a_Model_bits a_Model_sizes a_Model_sheets a_Model_least a_Model_ways a_Model_handOf a_Model_crossedAt a_Model_strokeOf a_Model_prices a_Model_hitAt a_Model_carried H.size Model_now Model_kept Model_findings Model_thenCost Model_thenWays Model_bothCost Model_bothWays p1 r16 g17) (cwV 1 hts gX11_of_X11_graces rfl rfl rfl (by decide +kernel) ⟨Nat.le_of_ble_eq_true rfl, Nat.le_of_ble_eq_true rfl⟩) hE hP hD hS hA [0, 1] [] rfl rfl rfl rfl rfl 0 11 rfl rfl rfl rfl hl.1 rfl (Nat.le_of_ble_eq_true rfl) dX11_of_85 ⟨Nat.le_of_ble_eq_true rfl, Nat.le_of_ble_eq_true rfl⟩ (fun rq uq H locs hrq hP hD hS => ?_)
      refine lv_tpx hrq.symm ?_
      have hP : va_P D vwCl [(a_Model, .inr (11, [.ref a_Model_now, .ref a_Model_past, .int Model_kept, .int Model_findings, .ref a_Model_bits, .ref a_Model_sizes, .ref a_Model_sheets, .ref a_Model_least, .ref a_Model_ways, .int Model_thenCost, .int Model_thenWays, .int Model_bothCost, .int Model_bothWays, .ref a_Model_handOf, .ref a_Model_crossedAt, .ref a_Model_strokeOf, .ref a_Model_prices, .ref a_Model_hitAt, .ref a_Model_carried])), (a_Model_now, .inl (cI, 187, .inl Model_now))] H := hP
      have hD : va_D A [(a_Model, .inr (11, [.ref a_Model_now, .ref a_Model_past, .int Model_kept, .int Model_findings, .ref a_Model_bits, .ref a_Model_sizes, .ref a_Model_sheets, .ref a_Model_least, .ref a_Model_ways, .int Model_thenCost, .int Model_thenWays, .int Model_bothCost, .int Model_bothWays, .ref a_Model_handOf, .ref a_Model_crossedAt, .ref a_Model_strokeOf, .ref a_Model_prices, .ref a_Model_hitAt, .ref a_Model_carried])), (a_Model_now, .inl (cI, 187, .inl Model_now))] := hD
      refine lv_iadd hx hb dX11_of_88 ?_
      cases hf
      exact k_iret () hQ9 hx hb hr hlocks rfl hP hD hS (Nat.le_of_ble_eq_true rfl) (Nat.le_of_ble_eq_true rfl) dX11_of_89
    · have hf := ite_t c9 hf
      refine lv_aload_n hx hb dX11_of_17 rfl (lv_at hl 0 rfl) ?_
      refine lv_ldc (v := (-100001)) hx hb hown kc70 dX11_of_18 ?_
      obtain ⟨r18, y19, g20, hf⟩ := b2_s hf
      refine k_Vi (rest := []) ⟨hx, hb, hml, hown, hts⟩ (c_Model_finding l D cI cZ t a_Model a_Model_now a_Model_past a_Model_bits a_Model_sizes a_Model_sheets a_Model_least a_Model_ways a_Model_handOf a_Model_crossedAt a_Model_strokeOf a_Model_prices a_Model_hitAt a_Model_carried H.size Model_findings Model_kept Model_thenCost Model_thenWays Model_bothCost Model_bothWays (-100001) r18 y19 g20) (cwV 1 hts gX11_of_X11_finding rfl rfl rfl (by decide +kernel) ⟨Nat.le_of_ble_eq_true rfl, Nat.le_of_ble_eq_true rfl⟩) hE hP hD hS hA [0] [1] rfl rfl rfl rfl rfl 0 11 rfl rfl rfl rfl hl.1 rfl (Nat.le_of_ble_eq_true rfl) dX11_of_20 ⟨Nat.le_of_ble_eq_true rfl, Nat.le_of_ble_eq_true rfl⟩ (fun rq uq H locs hrq hP hD hS => ?_)
      refine lv_tpx hrq.symm ?_
      have hP : va_P D vwCl [(a_Model_now, .inl (cI, 187, .inl Model_now)), (a_Model, .inr (11, [.ref a_Model_now, .ref a_Model_past, .int Model_kept, .int y19, .ref a_Model_bits, .ref a_Model_sizes, .ref a_Model_sheets, .ref a_Model_least, .ref a_Model_ways, .int Model_thenCost, .int Model_thenWays, .int Model_bothCost, .int Model_bothWays, .ref a_Model_handOf, .ref a_Model_crossedAt, .ref a_Model_strokeOf, .ref a_Model_prices, .ref a_Model_hitAt, .ref a_Model_carried]))] H := hP
      have hD : va_D A [(a_Model_now, .inl (cI, 187, .inl Model_now)), (a_Model, .inr (11, [.ref a_Model_now, .ref a_Model_past, .int Model_kept, .int y19, .ref a_Model_bits, .ref a_Model_sizes, .ref a_Model_sheets, .ref a_Model_least, .ref a_Model_ways, .int Model_thenCost, .int Model_thenWays, .int Model_bothCost, .int Model_bothWays, .ref a_Model_handOf, .ref a_Model_crossedAt, .ref a_Model_strokeOf, .ref a_Model_prices, .ref a_Model_hitAt, .ref a_Model_carried]))] := hD
      cases hf
      exact k_iret () hQ9 hx hb hr hlocks rfl (hP.sub [1, 0] rfl) (hD.sub [1, 0] (by decide) rfl) hS (Nat.le_of_ble_eq_true rfl) (Nat.le_of_ble_eq_true rfl) dX11_of_23
abbrev rm_Model_mark : Room := { frames := 2, cells := 0, slots := 0, locals := 43 }
set_option maxHeartbeats 4000000 in
set_option maxRecDepth 100000 in
theorem c_Model_mark (l : Launch) (D : va_G) (cI cZ : ClassId) (t : Nat → Nat) (a_Model a_Model_now a_Model_past a_Model_bits a_Model_sizes a_Model_sheets a_Model_least a_Model_ways a_Model_handOf a_Model_crossedAt a_Model_strokeOf a_Model_prices a_Model_hitAt a_Model_carried sz : Nat) (Model_now Model_past : Nat → Int32) (Model_kept Model_findings Model_thenCost Model_thenWays Model_bothCost Model_bothWays p1 p2 zr : Int32) (z_Model_now z_Model_past : Nat → Int32) (z_Model_kept z_Model_findings : Int32) (hf : f_Model_mark Model_now Model_past Model_kept Model_findings p1 p2 = some (zr, z_Model_now, z_Model_past, z_Model_kept, z_Model_findings)) : Met l yX11_mark wsX11_mark rm_Model_mark (va_Pc [.ref a_Model, .int p1, .int p2] (pcW D cI cZ t [(a_Model, .inr (11, [.ref a_Model_now, .ref a_Model_past, .int Model_kept, .int Model_findings, .ref a_Model_bits, .ref a_Model_sizes, .ref a_Model_sheets, .ref a_Model_least, .ref a_Model_ways, .int Model_thenCost, .int Model_thenWays, .int Model_bothCost, .int Model_bothWays, .ref a_Model_handOf, .ref a_Model_crossedAt, .ref a_Model_strokeOf, .ref a_Model_prices, .ref a_Model_hitAt, .ref a_Model_carried])), (a_Model_now, .inl (cI, 187, .inl Model_now)), (a_Model_past, .inl (cI, 3740, .inl Model_past))] sz)) (va_Qi (fun r (u : Unit) => r = zr) (fun u t' => bW D (va_A [(a_Model, .inr (11, [.ref a_Model_now, .ref a_Model_past, .int Model_kept, .int Model_findings, .ref a_Model_bits, .ref a_Model_sizes, .ref a_Model_sheets, .ref a_Model_least, .ref a_Model_ways, .int Model_thenCost, .int Model_thenWays, .int Model_bothCost, .int Model_bothWays, .ref a_Model_handOf, .ref a_Model_crossedAt, .ref a_Model_strokeOf, .ref a_Model_prices, .ref a_Model_hitAt, .ref a_Model_carried])), (a_Model_now, .inl (cI, 187, .inl Model_now)), (a_Model_past, .inl (cI, 3740, .inl Model_past))] sz) [(a_Model, .inr (11, [.ref a_Model_now, .ref a_Model_past, .int z_Model_kept, .int z_Model_findings, .ref a_Model_bits, .ref a_Model_sizes, .ref a_Model_sheets, .ref a_Model_least, .ref a_Model_ways, .int Model_thenCost, .int Model_thenWays, .int Model_bothCost, .int Model_bothWays, .ref a_Model_handOf, .ref a_Model_crossedAt, .ref a_Model_strokeOf, .ref a_Model_prices, .ref a_Model_hitAt, .ref a_Model_carried])), (a_Model_now, .inl (cI, 187, .inl z_Model_now)), (a_Model_past, .inl (cI, 3740, .inl z_Model_past))] t') (va_A [(a_Model, .inr (11, [.ref a_Model_now, .ref a_Model_past, .int Model_kept, .int Model_findings, .ref a_Model_bits, .ref a_Model_sizes, .ref a_Model_sheets, .ref a_Model_least, .ref a_Model_ways, .int Model_thenCost, .int Model_thenWays, .int Model_bothCost, .int Model_bothWays, .ref a_Model_handOf, .ref a_Model_crossedAt, .ref a_Model_strokeOf, .ref a_Model_prices, .ref a_Model_hitAt, .ref a_Model_carried])), (a_Model_now, .inl (cI, 187, .inl Model_now)), (a_Model_past, .inl (cI, 3740, .inl Model_past))] sz)) 0 0 (va_A [(a_Model, .inr (11, [.ref a_Model_now, .ref a_Model_past, .int Model_kept, .int Model_findings, .ref a_Model_bits, .ref a_Model_sizes, .ref a_Model_sheets, .ref a_Model_least, .ref a_Model_ways, .int Model_thenCost, .int Model_thenWays, .int Model_bothCost, .int Model_bothWays, .ref a_Model_handOf, .ref a_Model_crossedAt, .ref a_Model_strokeOf, .ref a_Model_prices, .ref a_Model_hitAt, .ref a_Model_carried])), (a_Model_now, .inl (cI, 187, .inl Model_now)), (a_Model_past, .inl (cI, 3740, .inl Model_past))] sz) := by
  refine Met.ofW (cc := cX11_mark) (maxL := 4) (ret := (some .int)) (by decide) rfl ?_
  intro p e s m args below meth c s₁ B hml hv
  obtain ⟨rfl, hsz, hP, hD0, hE⟩ := hv
  have hx := B.exec
  have hb := B.bytes
  have hr := B.returns
  have hts := atoms_spec (ws := wsX11_mark) B.pre
  have hown : s.vm.findClass RX11 = some m.cls := findClass_of_methodNamed B.named
  have hlocks := B.notSynchronized
  subst hsz
  have hD := hD0.self (sz := s.heap.size)
  generalize hAe : va_A [(a_Model, .inr (11, [.ref a_Model_now, .ref a_Model_past, .int Model_kept, .int Model_findings, .ref a_Model_bits, .ref a_Model_sizes, .ref a_Model_sheets, .ref a_Model_least, .ref a_Model_ways, .int Model_thenCost, .int Model_thenWays, .int Model_bothCost, .int Model_bothWays, .ref a_Model_handOf, .ref a_Model_crossedAt, .ref a_Model_strokeOf, .ref a_Model_prices, .ref a_Model_hitAt, .ref a_Model_carried])), (a_Model_now, .inl (cI, 187, .inl Model_now)), (a_Model_past, .inl (cI, 3740, .inl Model_past))] s.heap.size = A at hD hE ⊢
  have hA : ∀ q : Nat, s.heap.size ≤ q → A q := fun q h => by rw [← hAe]; exact Or.inr h
  clear hAe hD0
  have hS : va_S A s.heap s.heap [] := va_S.rf
  have hK := hE.1
  have hl := lv_entry ([.ref a_Model, .int p1, .int p2]) (n := 4) (Nat.le_of_ble_eq_true rfl)
  rw [lg_entry_eq]
  generalize (lg_sl ([.ref a_Model, .int p1, .int p2]) ++ List.replicate (4 - (lg_sl ([.ref a_Model, .int p1, .int p2])).length) Slot.unset).toArray = ls at hl ⊢
  have hl : lv_has ls 4 [(0, .ref a_Model), (1, .int p1), (2, .int p2)] := hl
  refine w_q (fun Q9 hQ9 => ?_)
  have kc70 := hts (.constant RX11 70 (-100001)) (by decide +kernel)
  have fl9 := hts (.fieldLink RX11 9 "StickRoomModel" "now" "[I") (by decide +kernel)
  have inX11 : ∀ w ∈ wsX110, w ∈ wsX11_mark := by decide +kernel
  unfold f_Model_mark at hf
  refine lv_aload_n hx hb dX11_mark_0 rfl (lv_at hl 0 rfl) ?_
  refine lv_iload_n hx hb dX11_mark_1 rfl (lv_at hl 1 rfl) ?_
  obtain ⟨r1, g2, hf⟩ := b1_s hf
  refine k_Vi (rest := []) ⟨hx, hb, hml, hown, hts⟩ (c_Model_isNote l D cI cZ t a_Model a_Model_now a_Model_past a_Model_bits a_Model_sizes a_Model_sheets a_Model_least a_Model_ways a_Model_handOf a_Model_crossedAt a_Model_strokeOf a_Model_prices a_Model_hitAt a_Model_carried s.heap.size Model_now Model_kept Model_findings Model_thenCost Model_thenWays Model_bothCost Model_bothWays p1 r1 g2) (cwV 1 hts gX11_mark_X11_isNote rfl rfl rfl (by decide +kernel) ⟨Nat.le_of_ble_eq_true rfl, Nat.le_of_ble_eq_true rfl⟩) hE hP hD hS hA [0, 1] [2] rfl rfl rfl rfl rfl 0 11 rfl rfl rfl rfl hl.1 rfl (Nat.le_of_ble_eq_true rfl) dX11_mark_2 ⟨Nat.le_of_ble_eq_true rfl, Nat.le_of_ble_eq_true rfl⟩ (fun rq uq H locs hrq hP hD hS => ?_)
  refine lv_tpx hrq.symm ?_
  have hP : va_P D vwCl [(a_Model_past, .inl (cI, 3740, .inl Model_past)), (a_Model, .inr (11, [.ref a_Model_now, .ref a_Model_past, .int Model_kept, .int Model_findings, .ref a_Model_bits, .ref a_Model_sizes, .ref a_Model_sheets, .ref a_Model_least, .ref a_Model_ways, .int Model_thenCost, .int Model_thenWays, .int Model_bothCost, .int Model_bothWays, .ref a_Model_handOf, .ref a_Model_crossedAt, .ref a_Model_strokeOf, .ref a_Model_prices, .ref a_Model_hitAt, .ref a_Model_carried])), (a_Model_now, .inl (cI, 187, .inl Model_now))] H := hP
  have hD : va_D A [(a_Model_past, .inl (cI, 3740, .inl Model_past)), (a_Model, .inr (11, [.ref a_Model_now, .ref a_Model_past, .int Model_kept, .int Model_findings, .ref a_Model_bits, .ref a_Model_sizes, .ref a_Model_sheets, .ref a_Model_least, .ref a_Model_ways, .int Model_thenCost, .int Model_thenWays, .int Model_bothCost, .int Model_bothWays, .ref a_Model_handOf, .ref a_Model_crossedAt, .ref a_Model_strokeOf, .ref a_Model_prices, .ref a_Model_hitAt, .ref a_Model_carried])), (a_Model_now, .inl (cI, 187, .inl Model_now))] := hD
  refine lv_if_eq (tgt := 17) hx hb dX11_mark_5 (by decide) (fun c3 => ?_) (fun c3 => ?_)
  · have hf := ite_t c3 hf
    refine lv_aload_n hx hb dX11_mark_17 rfl (lv_at hl 0 rfl) ?_
    refine lv_ldc (v := (-100001)) hx hb hown kc70 dX11_mark_18 ?_
    obtain ⟨r4, y5, g6, hf⟩ := b2_s hf
    refine k_Vi (rest := []) ⟨hx, hb, hml, hown, hts⟩ (c_Model_finding l D cI cZ t a_Model a_Model_now a_Model_past a_Model_bits a_Model_sizes a_Model_sheets a_Model_least a_Model_ways a_Model_handOf a_Model_crossedAt a_Model_strokeOf a_Model_prices a_Model_hitAt a_Model_carried H.size Model_findings Model_kept Model_thenCost Model_thenWays Model_bothCost Model_bothWays (-100001) r4 y5 g6) (cwV 1 hts gX11_mark_X11_finding rfl rfl rfl (by decide +kernel) ⟨Nat.le_of_ble_eq_true rfl, Nat.le_of_ble_eq_true rfl⟩) hE hP hD hS hA [1] [0, 2] rfl rfl rfl rfl rfl 0 11 rfl rfl rfl rfl hl.1 rfl (Nat.le_of_ble_eq_true rfl) dX11_mark_20 ⟨Nat.le_of_ble_eq_true rfl, Nat.le_of_ble_eq_true rfl⟩ (fun rq uq H locs hrq hP hD hS => ?_)
    refine lv_tpx hrq.symm ?_
    have hP : va_P D vwCl [(a_Model_past, .inl (cI, 3740, .inl Model_past)), (a_Model_now, .inl (cI, 187, .inl Model_now)), (a_Model, .inr (11, [.ref a_Model_now, .ref a_Model_past, .int Model_kept, .int y5, .ref a_Model_bits, .ref a_Model_sizes, .ref a_Model_sheets, .ref a_Model_least, .ref a_Model_ways, .int Model_thenCost, .int Model_thenWays, .int Model_bothCost, .int Model_bothWays, .ref a_Model_handOf, .ref a_Model_crossedAt, .ref a_Model_strokeOf, .ref a_Model_prices, .ref a_Model_hitAt, .ref a_Model_carried]))] H := hP
    have hD : va_D A [(a_Model_past, .inl (cI, 3740, .inl Model_past)), (a_Model_now, .inl (cI, 187, .inl Model_now)), (a_Model, .inr (11, [.ref a_Model_now, .ref a_Model_past, .int Model_kept, .int y5, .ref a_Model_bits, .ref a_Model_sizes, .ref a_Model_sheets, .ref a_Model_least, .ref a_Model_ways, .int Model_thenCost, .int Model_thenWays, .int Model_bothCost, .int Model_bothWays, .ref a_Model_handOf, .ref a_Model_crossedAt, .ref a_Model_strokeOf, .ref a_Model_prices, .ref a_Model_hitAt, .ref a_Model_carried]))] := hD
    cases hf
    exact k_iret () hQ9 hx hb hr hlocks rfl (hP.sub [2, 1, 0] rfl) (hD.sub [2, 1, 0] (by decide) rfl) hS (Nat.le_of_ble_eq_true rfl) (Nat.le_of_ble_eq_true rfl) dX11_mark_23
  · have hf := ite_f c3 hf
    refine lv_iload_n hx hb dX11_mark_8 rfl (lv_at hl 2 rfl) ?_
    refine lv_iconst (v := (-1)) hx hb dX11_mark_9 (by decide) ?_
    refine lv_iconst (v := 1) hx hb dX11_mark_10 (by decide) ?_
    obtain ⟨r7, g8, hf⟩ := b1_s hf
    refine k_Si (rest := []) ⟨hx, hb, hml, hown, hts⟩ (c_Model_within l D cI cZ t  H.size p2 (-1) 1 r7 g8) (va_cwS 3 hts gX11_mark_X11_within rfl rfl rfl (by decide +kernel) ⟨Nat.le_of_ble_eq_true rfl, Nat.le_of_ble_eq_true rfl⟩) hE hP hD hS hA [] [0, 1, 2] rfl rfl rfl rfl rfl rfl hl.1 rfl (Nat.le_of_ble_eq_true rfl) dX11_mark_11 ⟨Nat.le_of_ble_eq_true rfl, Nat.le_of_ble_eq_true rfl⟩ (fun rq uq H locs hrq hP hD hS => ?_)
    refine lv_tpx hrq.symm ?_
    have hP : va_P D vwCl [(a_Model_past, .inl (cI, 3740, .inl Model_past)), (a_Model, .inr (11, [.ref a_Model_now, .ref a_Model_past, .int Model_kept, .int Model_findings, .ref a_Model_bits, .ref a_Model_sizes, .ref a_Model_sheets, .ref a_Model_least, .ref a_Model_ways, .int Model_thenCost, .int Model_thenWays, .int Model_bothCost, .int Model_bothWays, .ref a_Model_handOf, .ref a_Model_crossedAt, .ref a_Model_strokeOf, .ref a_Model_prices, .ref a_Model_hitAt, .ref a_Model_carried])), (a_Model_now, .inl (cI, 187, .inl Model_now))] H := hP
    have hD : va_D A [(a_Model_past, .inl (cI, 3740, .inl Model_past)), (a_Model, .inr (11, [.ref a_Model_now, .ref a_Model_past, .int Model_kept, .int Model_findings, .ref a_Model_bits, .ref a_Model_sizes, .ref a_Model_sheets, .ref a_Model_least, .ref a_Model_ways, .int Model_thenCost, .int Model_thenWays, .int Model_bothCost, .int Model_bothWays, .ref a_Model_handOf, .ref a_Model_crossedAt, .ref a_Model_strokeOf, .ref a_Model_prices, .ref a_Model_hitAt, .ref a_Model_carried])), (a_Model_now, .inl (cI, 187, .inl Model_now))] := hD
    refine lv_if_ne (tgt := 24) hx hb dX11_mark_14 (by decide) (fun c9 => ?_) (fun c9 => ?_)
    · have hf := ite_f c9 hf
      refine lv_aload_n hx hb dX11_mark_24 rfl (lv_at hl 0 rfl) ?_
      obtain ⟨y10, y11, g12, hf⟩ := b2_s hf
      refine k_Vv (rest := []) ⟨hx, hb, hml, hown, hts⟩ (c_Model_keep l D cI cZ t a_Model a_Model_now a_Model_past a_Model_bits a_Model_sizes a_Model_sheets a_Model_least a_Model_ways a_Model_handOf a_Model_crossedAt a_Model_strokeOf a_Model_prices a_Model_hitAt a_Model_carried H.size Model_now Model_past Model_kept Model_findings Model_thenCost Model_thenWays Model_bothCost Model_bothWays y10 y11 g12) (cwV 0 hts gX11_mark_X11_keep rfl rfl rfl (by decide +kernel) ⟨Nat.le_of_ble_eq_true rfl, Nat.le_of_ble_eq_true rfl⟩) hE hP hD hS hA [1, 2, 0] [] rfl rfl rfl rfl rfl 0 11 rfl rfl rfl rfl hl.1 rfl (Nat.le_of_ble_eq_true rfl) dX11_mark_25 ⟨Nat.le_of_ble_eq_true rfl, Nat.le_of_ble_eq_true rfl⟩ (fun uq H locs hrq hP hD hS => ?_)
      have hP : va_P D vwCl [(a_Model, .inr (11, [.ref a_Model_now, .ref a_Model_past, .int y11, .int Model_findings, .ref a_Model_bits, .ref a_Model_sizes, .ref a_Model_sheets, .ref a_Model_least, .ref a_Model_ways, .int Model_thenCost, .int Model_thenWays, .int Model_bothCost, .int Model_bothWays, .ref a_Model_handOf, .ref a_Model_crossedAt, .ref a_Model_strokeOf, .ref a_Model_prices, .ref a_Model_hitAt, .ref a_Model_carried])), (a_Model_now, .inl (cI, 187, .inl Model_now)), (a_Model_past, .inl (cI, 3740, .inl y10))] H := hP
      have hD : va_D A [(a_Model, .inr (11, [.ref a_Model_now, .ref a_Model_past, .int y11, .int Model_findings, .ref a_Model_bits, .ref a_Model_sizes, .ref a_Model_sheets, .ref a_Model_least, .ref a_Model_ways, .int Model_thenCost, .int Model_thenWays, .int Model_bothCost, .int Model_bothWays, .ref a_Model_handOf, .ref a_Model_crossedAt, .ref a_Model_strokeOf, .ref a_Model_prices, .ref a_Model_hitAt, .ref a_Model_carried])), (a_Model_now, .inl (cI, 187, .inl Model_now)), (a_Model_past, .inl (cI, 3740, .inl y10))] := hD
      refine lv_aload_n hx hb dX11_mark_28 rfl (lv_at hl 0 rfl) ?_
      refine va_get (D := D) (ci := 11) (v := .ref a_Model_now) (C := RX11) (T := TX11) (N := 19) hx hb hts inX11 hown hK hP 0 rfl rfl 0 (by decide) fl9 (fun _ h9 => h9) rfl dX11_mark_29 ?_
      refine lv_bipush (v := 67) hx hb dX11_mark_32 (by decide) ?_
      refine lv_iload_n hx hb dX11_mark_34 rfl (lv_at hl 1 rfl) ?_
      refine lv_iadd hx hb dX11_mark_35 ?_
      obtain ⟨ix13, x13, ex13, hf⟩ := rd_s hf
      refine va_iald hx hb hK hP 1 0 rfl rfl ix13 dX11_mark_36 ?_
      refine lv_tpx ex13 ?_
      refine lv_istore_n (lv' := [(3, .int x13), (0, .ref a_Model), (1, .int p1), (2, .int p2)]) hx hb dX11_mark_37 rfl hl (by decide) rfl (fun ls hl => ?_)
      refine lv_aload_n hx hb dX11_mark_38 rfl (lv_at hl 1 rfl) ?_
      refine va_get (D := D) (ci := 11) (v := .ref a_Model_now) (C := RX11) (T := TX11) (N := 19) hx hb hts inX11 hown hK hP 0 rfl rfl 0 (by decide) fl9 (fun _ h9 => h9) rfl dX11_mark_39 ?_
      refine lv_bipush (v := 67) hx hb dX11_mark_42 (by decide) ?_
      refine lv_iload_n hx hb dX11_mark_44 rfl (lv_at hl 2 rfl) ?_
      refine lv_iadd hx hb dX11_mark_45 ?_
      refine lv_iload_n hx hb dX11_mark_46 rfl (lv_at hl 3 rfl) ?_
      obtain ⟨i14, hf⟩ := ck_s hf
      refine va_iast hx hb hK hP hD hS 1 0 rfl rfl i14 dX11_mark_47 (fun H locs hP hD hS => ?_)
      have hP : va_P D vwCl [(a_Model, .inr (11, [.ref a_Model_now, .ref a_Model_past, .int y11, .int Model_findings, .ref a_Model_bits, .ref a_Model_sizes, .ref a_Model_sheets, .ref a_Model_least, .ref a_Model_ways, .int Model_thenCost, .int Model_thenWays, .int Model_bothCost, .int Model_bothWays, .ref a_Model_handOf, .ref a_Model_crossedAt, .ref a_Model_strokeOf, .ref a_Model_prices, .ref a_Model_hitAt, .ref a_Model_carried])), (a_Model_now, .inl (cI, 187, .inl (upd Model_now (67 + p1).toNatClampNeg p2))), (a_Model_past, .inl (cI, 3740, .inl y10))] H := hP
      have hD : va_D A [(a_Model, .inr (11, [.ref a_Model_now, .ref a_Model_past, .int y11, .int Model_findings, .ref a_Model_bits, .ref a_Model_sizes, .ref a_Model_sheets, .ref a_Model_least, .ref a_Model_ways, .int Model_thenCost, .int Model_thenWays, .int Model_bothCost, .int Model_bothWays, .ref a_Model_handOf, .ref a_Model_crossedAt, .ref a_Model_strokeOf, .ref a_Model_prices, .ref a_Model_hitAt, .ref a_Model_carried])), (a_Model_now, .inl (cI, 187, .inl (upd Model_now (67 + p1).toNatClampNeg p2))), (a_Model_past, .inl (cI, 3740, .inl y10))] := hD
      refine lv_iload_n hx hb dX11_mark_48 rfl (lv_at hl 0 rfl) ?_
      cases hf
      exact k_iret () hQ9 hx hb hr hlocks rfl hP hD hS (Nat.le_of_ble_eq_true rfl) (Nat.le_of_ble_eq_true rfl) dX11_mark_49
    · have hf := ite_t c9 hf
      refine lv_aload_n hx hb dX11_mark_17 rfl (lv_at hl 0 rfl) ?_
      refine lv_ldc (v := (-100001)) hx hb hown kc70 dX11_mark_18 ?_
      obtain ⟨r15, y16, g17, hf⟩ := b2_s hf
      refine k_Vi (rest := []) ⟨hx, hb, hml, hown, hts⟩ (c_Model_finding l D cI cZ t a_Model a_Model_now a_Model_past a_Model_bits a_Model_sizes a_Model_sheets a_Model_least a_Model_ways a_Model_handOf a_Model_crossedAt a_Model_strokeOf a_Model_prices a_Model_hitAt a_Model_carried H.size Model_findings Model_kept Model_thenCost Model_thenWays Model_bothCost Model_bothWays (-100001) r15 y16 g17) (cwV 1 hts gX11_mark_X11_finding rfl rfl rfl (by decide +kernel) ⟨Nat.le_of_ble_eq_true rfl, Nat.le_of_ble_eq_true rfl⟩) hE hP hD hS hA [1] [0, 2] rfl rfl rfl rfl rfl 0 11 rfl rfl rfl rfl hl.1 rfl (Nat.le_of_ble_eq_true rfl) dX11_mark_20 ⟨Nat.le_of_ble_eq_true rfl, Nat.le_of_ble_eq_true rfl⟩ (fun rq uq H locs hrq hP hD hS => ?_)
      refine lv_tpx hrq.symm ?_
      have hP : va_P D vwCl [(a_Model_past, .inl (cI, 3740, .inl Model_past)), (a_Model_now, .inl (cI, 187, .inl Model_now)), (a_Model, .inr (11, [.ref a_Model_now, .ref a_Model_past, .int Model_kept, .int y16, .ref a_Model_bits, .ref a_Model_sizes, .ref a_Model_sheets, .ref a_Model_least, .ref a_Model_ways, .int Model_thenCost, .int Model_thenWays, .int Model_bothCost, .int Model_bothWays, .ref a_Model_handOf, .ref a_Model_crossedAt, .ref a_Model_strokeOf, .ref a_Model_prices, .ref a_Model_hitAt, .ref a_Model_carried]))] H := hP
      have hD : va_D A [(a_Model_past, .inl (cI, 3740, .inl Model_past)), (a_Model_now, .inl (cI, 187, .inl Model_now)), (a_Model, .inr (11, [.ref a_Model_now, .ref a_Model_past, .int Model_kept, .int y16, .ref a_Model_bits, .ref a_Model_sizes, .ref a_Model_sheets, .ref a_Model_least, .ref a_Model_ways, .int Model_thenCost, .int Model_thenWays, .int Model_bothCost, .int Model_bothWays, .ref a_Model_handOf, .ref a_Model_crossedAt, .ref a_Model_strokeOf, .ref a_Model_prices, .ref a_Model_hitAt, .ref a_Model_carried]))] := hD
      cases hf
      exact k_iret () hQ9 hx hb hr hlocks rfl (hP.sub [2, 1, 0] rfl) (hD.sub [2, 1, 0] (by decide) rfl) hS (Nat.le_of_ble_eq_true rfl) (Nat.le_of_ble_eq_true rfl) dX11_mark_23
