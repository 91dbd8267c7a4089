abbrev rm_Basses_isThere : Room := { frames := 0, cells := 0, slots := 0, locals := 0 }
set_option maxHeartbeats 4000000 in
set_option maxRecDepth 100000 in
theorem c_Basses_isThere (l : Launch) (D : va_G) (cI cZ : ClassId) (t : Nat → Nat) (a_Basses a_Line a_Rules a_Basses_latestTicks sz : Nat) (Basses_there p1 zr : Int32) (hf : f_Basses_isThere Basses_there p1 = some zr) : Met l yX1_isThere wsX1_isThere rm_Basses_isThere (va_Pc [.ref a_Basses, .int p1] (pcW D cI cZ t [(a_Basses, .inr (1, [.int Basses_there, .ref a_Line, .ref a_Rules, .ref a_Basses_latestTicks]))] sz)) (va_Qi (fun r (u : Unit) => r = zr) (fun u t' => bW D (va_A [(a_Basses, .inr (1, [.int Basses_there, .ref a_Line, .ref a_Rules, .ref a_Basses_latestTicks]))] sz) [(a_Basses, .inr (1, [.int Basses_there, .ref a_Line, .ref a_Rules, .ref a_Basses_latestTicks]))] t') (va_A [(a_Basses, .inr (1, [.int Basses_there, .ref a_Line, .ref a_Rules, .ref a_Basses_latestTicks]))] sz)) 0 0 (va_A [(a_Basses, .inr (1, [.int Basses_there, .ref a_Line, .ref a_Rules, .ref a_Basses_latestTicks]))] sz) := by
  refine Met.ofW (cc := cX1_isThere) (maxL := 2) (ret := (some .boolean)) (by decide) rfl ?_
  intro p e s m args below meth c s₁ B hml hv
  obtain ⟨rfl, hsz, hP, hD0, hE⟩ := hv
  have hx := B.exec
  have hb := B.bytes
  have hr := B.returns
  have hts := atoms_spec (ws := wsX1_isThere) B.pre
  have hown : s.vm.findClass RX1 = some m.cls := findClass_of_methodNamed B.named
  have hlocks := B.notSynchronized
  subst hsz
  have hD := hD0.self (sz := s.heap.size)
  generalize hAe : va_A [(a_Basses, .inr (1, [.int Basses_there, .ref a_Line, .ref a_Rules, .ref a_Basses_latestTicks]))] s.heap.size = A at hD hE ⊢
  have hA : ∀ q : Nat, s.heap.size ≤ q → A q := fun q h => by rw [← hAe]; exact Or.inr h
  clear hAe hD0
  have hS : va_S A s.heap s.heap [] := va_S.rf
  have hK := hE.1
  have hl := lv_entry ([.ref a_Basses, .int p1]) (n := 2) (Nat.le_of_ble_eq_true rfl)
  rw [lg_entry_eq]
  generalize (lg_sl ([.ref a_Basses, .int p1]) ++ List.replicate (2 - (lg_sl ([.ref a_Basses, .int p1])).length) Slot.unset).toArray = ls at hl ⊢
  have hl : lv_has ls 2 [(0, .ref a_Basses), (1, .int p1)] := hl
  refine w_q (fun Q9 hQ9 => ?_)
  have fl11 := hts (.fieldLink RX1 11 "StickRoom$Basses" "there" "I") (by decide +kernel)
  have inX1 : ∀ w ∈ wsX10, w ∈ wsX1_isThere := by decide +kernel
  unfold f_Basses_isThere at hf
  refine lv_aload_n hx hb dX1_isThere_0 rfl (lv_at hl 0 rfl) ?_
  refine va_get (D := D) (ci := 1) (v := .int Basses_there) (C := RX1) (T := TX1) (N := 4) hx hb hts inX1 hown hK hP 0 rfl rfl 0 (by decide) fl11 (fun _ h9 => h9) rfl dX1_isThere_1 ?_
  refine lv_iload_n hx hb dX1_isThere_4 rfl (lv_at hl 1 rfl) ?_
  refine lv_iushr hx hb dX1_isThere_5 rfl ?_
  obtain ⟨x1, ex1, hf⟩ := nm_s hf
  refine lv_tpx ex1 ?_
  refine lv_iconst (v := 1) hx hb dX1_isThere_6 (by decide) ?_
  refine lv_iand hx hb dX1_isThere_7 ?_
  refine lv_iconst (v := 1) hx hb dX1_isThere_8 (by decide) ?_
  refine lv_icmp_ne (tgt := 16) hx hb dX1_isThere_9 (by decide) (fun c2 => ?_) (fun c2 => ?_)
  · have hf := ite_f c2 hf
    refine lv_iconst (v := 0) hx hb dX1_isThere_16 (by decide) ?_
    cases hf
    exact k_zret () hQ9 hx hb hr hlocks (Or.inl rfl) rfl hP hD hS (Nat.le_of_ble_eq_true rfl) (Nat.le_of_ble_eq_true rfl) dX1_isThere_17
  · have hf := ite_t c2 hf
    refine lv_iconst (v := 1) hx hb dX1_isThere_12 (by decide) ?_
    refine lv_goto (tgt := 17) hx hb dX1_isThere_13 (by decide) ?_
    cases hf
    exact k_zret () hQ9 hx hb hr hlocks (Or.inr rfl) rfl hP hD hS (Nat.le_of_ble_eq_true rfl) (Nat.le_of_ble_eq_true rfl) dX1_isThere_17
abbrev rm_Basses_change : Room := { frames := 0, cells := 0, slots := 0, locals := 0 }
set_option maxHeartbeats 4000000 in
set_option maxRecDepth 100000 in
theorem c_Basses_change (l : Launch) (D : va_G) (cI cZ : ClassId) (t : Nat → Nat) (a_Basses a_Line a_Rules a_Basses_latestTicks sz : Nat) (Basses_there p1 p2 z_Basses_there : Int32) (hf : f_Basses_change Basses_there p1 p2 = some z_Basses_there) : Met l yX1_change wsX1_change rm_Basses_change (va_Pc [.ref a_Basses, .int p1, .int p2] (pcW D cI cZ t [(a_Basses, .inr (1, [.int Basses_there, .ref a_Line, .ref a_Rules, .ref a_Basses_latestTicks]))] sz)) (va_Qv (fun u : Unit => u = u) (fun u t' => bW D (va_A [(a_Basses, .inr (1, [.int Basses_there, .ref a_Line, .ref a_Rules, .ref a_Basses_latestTicks]))] sz) [(a_Basses, .inr (1, [.int z_Basses_there, .ref a_Line, .ref a_Rules, .ref a_Basses_latestTicks]))] t') (va_A [(a_Basses, .inr (1, [.int Basses_there, .ref a_Line, .ref a_Rules, .ref a_Basses_latestTicks]))] sz)) 0 0 (va_A [(a_Basses, .inr (1, [.int Basses_there, .ref a_Line, .ref a_Rules, .ref a_Basses_latestTicks]))] sz) := by
  refine Met.ofW (cc := cX1_change) (maxL := 3) (ret := none) (by decide) rfl ?_
  intro p e s m args below meth c s₁ B hml hv
  obtain ⟨rfl, hsz, hP, hD0, hE⟩ := hv
  have hx := B.exec
  have hb := B.bytes
  have hr := B.returns
  have hts := atoms_spec (ws := wsX1_change) B.pre
  have hown : s.vm.findClass RX1 = some m.cls := findClass_of_methodNamed B.named
  have hlocks := B.notSynchronized
  subst hsz
  have hD := hD0.self (sz := s.heap.size)
  generalize hAe : va_A [(a_Basses, .inr (1, [.int Basses_there, .ref a_Line, .ref a_Rules, .ref a_Basses_latestTicks]))] s.heap.size = A at hD hE ⊢
  have hA : ∀ q : Nat, s.heap.size ≤ q → A q := fun q h => by rw [← hAe]; exact Or.inr h
  clear hAe hD0
  have hS : va_S A s.heap s.heap [] := va_S.rf
  have hK := hE.1
  have hl := lv_entry ([.ref a_Basses, .int p1, .int p2]) (n := 3) (Nat.le_of_ble_eq_true rfl)
  rw [lg_entry_eq]
  generalize (lg_sl ([.ref a_Basses, .int p1, .int p2]) ++ List.replicate (3 - (lg_sl ([.ref a_Basses, .int p1, .int p2])).length) Slot.unset).toArray = ls at hl ⊢
  have hl : lv_has ls 3 [(0, .ref a_Basses), (1, .int p1), (2, .int p2)] := hl
  refine w_q (fun Q9 hQ9 => ?_)
  have fl11 := hts (.fieldLink RX1 11 "StickRoom$Basses" "there" "I") (by decide +kernel)
  have inX1 : ∀ w ∈ wsX10, w ∈ wsX1_change := by decide +kernel
  unfold f_Basses_change at hf
  refine lv_aload_n hx hb dX1_change_0 rfl (lv_at hl 0 rfl) ?_
  refine lv_iload_n hx hb dX1_change_1 rfl (lv_at hl 2 rfl) ?_
  refine lv_if_eq (tgt := 16) hx hb dX1_change_2 (by decide) (fun c1 => ?_) (fun c1 => ?_)
  · have hf := ite_t c1 hf
    refine lv_aload_n hx hb dX1_change_16 rfl (lv_at hl 0 rfl) ?_
    refine va_get (D := D) (ci := 1) (v := .int Basses_there) (C := RX1) (T := TX1) (N := 4) hx hb hts inX1 hown hK hP 0 rfl rfl 0 (by decide) fl11 (fun _ h9 => h9) rfl dX1_change_17 ?_
    refine lv_iconst (v := 1) hx hb dX1_change_20 (by decide) ?_
    refine lv_iload_n hx hb dX1_change_21 rfl (lv_at hl 1 rfl) ?_
    refine lv_ishl hx hb dX1_change_22 ?_
    obtain ⟨x2, ex2, hf⟩ := nm_s hf
    refine lv_tpx ex2 ?_
    refine lv_iconst (v := (-1)) hx hb dX1_change_23 (by decide) ?_
    refine lv_ixor hx hb dX1_change_24 ?_
    refine lv_iand hx hb dX1_change_25 ?_
    obtain ⟨x3, ex3, hf⟩ := nm_s hf
    refine lv_tpx ex3 ?_
    refine va_put (D := D) (ci := 1) (v := .int x3) (ty := .int) (C := RX1) (T := TX1) (N := 4) hx hb hts inX1 tyX1 tyX1_ok nmX1 hown hK hP hD hS 0 rfl rfl 0 (by decide) fl11 (fun _ h9 => h9) rfl (by decide +kernel) rfl rfl (Nat.le_of_ble_eq_true rfl) dX1_change_26 (fun H locs hP hD hS => ?_)
    have hP : va_P D vwCl [(a_Basses, .inr (1, [.int x3, .ref a_Line, .ref a_Rules, .ref a_Basses_latestTicks]))] H := hP
    have hD : va_D A [(a_Basses, .inr (1, [.int x3, .ref a_Line, .ref a_Rules, .ref a_Basses_latestTicks]))] := hD
    cases hf
    exact k_vret () hQ9 hx hb hr hlocks rfl hP hD hS (Nat.le_of_ble_eq_true rfl) (Nat.le_of_ble_eq_true rfl) dX1_change_29
  · have hf := ite_f c1 hf
    refine lv_aload_n hx hb dX1_change_5 rfl (lv_at hl 0 rfl) ?_
    refine va_get (D := D) (ci := 1) (v := .int Basses_there) (C := RX1) (T := TX1) (N := 4) hx hb hts inX1 hown hK hP 0 rfl rfl 0 (by decide) fl11 (fun _ h9 => h9) rfl dX1_change_6 ?_
    refine lv_iconst (v := 1) hx hb dX1_change_9 (by decide) ?_
    refine lv_iload_n hx hb dX1_change_10 rfl (lv_at hl 1 rfl) ?_
    refine lv_ishl hx hb dX1_change_11 ?_
    obtain ⟨x4, ex4, hf⟩ := nm_s hf
    refine lv_tpx ex4 ?_
    refine lv_ior hx hb dX1_change_12 ?_
    refine lv_goto (tgt := 26) hx hb dX1_change_13 (by decide) ?_
    obtain ⟨x5, ex5, hf⟩ := nm_s hf
    refine lv_tpx ex5 ?_
    refine va_put (D := D) (ci := 1) (v := .int x5) (ty := .int) (C := RX1) (T := TX1) (N := 4) hx hb hts inX1 tyX1 tyX1_ok nmX1 hown hK hP hD hS 0 rfl rfl 0 (by decide) fl11 (fun _ h9 => h9) rfl (by decide +kernel) rfl rfl (Nat.le_of_ble_eq_true rfl) dX1_change_26 (fun H locs hP hD hS => ?_)
    have hP : va_P D vwCl [(a_Basses, .inr (1, [.int x5, .ref a_Line, .ref a_Rules, .ref a_Basses_latestTicks]))] H := hP
    have hD : va_D A [(a_Basses, .inr (1, [.int x5, .ref a_Line, .ref a_Rules, .ref a_Basses_latestTicks]))] := hD
    cases hf
    exact k_vret () hQ9 hx hb hr hlocks rfl hP hD hS (Nat.le_of_ble_eq_true rfl) (Nat.le_of_ble_eq_true rfl) dX1_change_29
abbrev rm_Basses_written : Room := { frames := 0, cells := 0, slots := 0, locals := 0 }
set_option maxHeartbeats 4000000 in
set_option maxRecDepth 100000 in
theorem c_Basses_written (l : Launch) (D : va_G) (cI cZ : ClassId) (t : Nat → Nat) (sz : Nat) (p0 p1 zr : Int32) (hf : f_Basses_written p0 p1 = some zr) : Met l yX1_written wsX1_written rm_Basses_written (va_Pc [.int p0, .int p1] (pcW D cI cZ t [] sz)) (va_Qi (fun r (u : Unit) => r = zr) (fun u t' => bW D (va_A [] sz) [] t') (va_A [] sz)) 0 0 (va_A [] sz) := by
  refine Met.ofW (cc := cX1_written) (maxL := 2) (ret := (some .int)) (by decide) rfl ?_
  intro p e s m args below meth c s₁ B hml hv
  obtain ⟨rfl, hsz, hP, hD0, hE⟩ := hv
  have hx := B.exec
  have hb := B.bytes
  have hr := B.returns
  have hts := atoms_spec (ws := wsX1_written) B.pre
  have hown : s.vm.findClass RX1 = some m.cls := findClass_of_methodNamed B.named
  have hlocks := B.notSynchronized
  subst hsz
  have hD := hD0.self (sz := s.heap.size)
  generalize hAe : va_A [] s.heap.size = A at hD hE ⊢
  have hA : ∀ q : Nat, s.heap.size ≤ q → A q := fun q h => by rw [← hAe]; exact Or.inr h
  clear hAe hD0
  have hS : va_S A s.heap s.heap [] := va_S.rf
  have hK := hE.1
  have hl := lv_entry ([.int p0, .int p1]) (n := 2) (Nat.le_of_ble_eq_true rfl)
  rw [lg_entry_eq]
  generalize (lg_sl ([.int p0, .int p1]) ++ List.replicate (2 - (lg_sl ([.int p0, .int p1])).length) Slot.unset).toArray = ls at hl ⊢
  have hl : lv_has ls 2 [(0, .int p0), (1, .int p1)] := hl
  refine w_q (fun Q9 hQ9 => ?_)
  have fl35 := hts (.fieldLink RX1 35 "StickRoom$Basses" "UP_AND_DOWN" "[I") (by decide +kernel)
  unfold f_Basses_written at hf
  refine lv_iload_n hx hb dX1_written_0 rfl (lv_at hl 0 rfl) ?_
  refine lv_if_ne (tgt := 8) hx hb dX1_written_1 (by decide) (fun c1 => ?_) (fun c1 => ?_)
  · have hf := ite_f c1 hf
    refine lv_iload_n hx hb dX1_written_8 rfl (lv_at hl 0 rfl) ?_
    refine lv_iconst (v := 1) hx hb dX1_written_9 (by decide) ?_
    refine lv_icmp_ne (tgt := 19) hx hb dX1_written_10 (by decide) (fun c2 => ?_) (fun c2 => ?_)
    · have hf := ite_f c2 hf
      refine va_gets hx hb (hE.2.2.2.2.2.1) hS hown fl35 (fun _ h9 => h9) dX1_written_19 ?_
      refine lv_iload_n hx hb dX1_written_22 rfl (lv_at hl 1 rfl) ?_
      refine va_gets hx hb (hE.2.2.2.2.2.1) hS hown fl35 (fun _ h9 => h9) dX1_written_23 ?_
      refine va_tlen (v := 8) hx hb (hE.2.2.2.2.2.2) hS (by decide) dX1_written_26 ?_
      refine lv_irem hx hb dX1_written_27 (by decide) ?_
      obtain ⟨x3, ex3, hf⟩ := nm_s hf
      refine lv_tpx ex3 ?_
      obtain ⟨ix4, x4, ex4, hf⟩ := rd_s hf
      refine va_ti hx hb (hE.2.2.2.2.2.2) hS ix4 rfl dX1_written_28 ?_
      refine lv_tpx ex4 ?_
      cases hf
      exact k_iret () hQ9 hx hb hr hlocks rfl hP hD hS (Nat.le_of_ble_eq_true rfl) (Nat.le_of_ble_eq_true rfl) dX1_written_29
    · have hf := ite_t c2 hf
      refine lv_iconst (v := 4) hx hb dX1_written_13 (by decide) ?_
      refine lv_iload_n hx hb dX1_written_14 rfl (lv_at hl 1 rfl) ?_
      refine lv_iconst (v := 5) hx hb dX1_written_15 (by decide) ?_
      refine lv_irem hx hb dX1_written_16 (by decide) ?_
      obtain ⟨x5, ex5, hf⟩ := nm_s hf
      refine lv_tpx ex5 ?_
      refine lv_isub hx hb dX1_written_17 ?_
      cases hf
      exact k_iret () hQ9 hx hb hr hlocks rfl hP hD hS (Nat.le_of_ble_eq_true rfl) (Nat.le_of_ble_eq_true rfl) dX1_written_18
  · have hf := ite_t c1 hf
    refine lv_iload_n hx hb dX1_written_4 rfl (lv_at hl 1 rfl) ?_
    refine lv_iconst (v := 5) hx hb dX1_written_5 (by decide) ?_
    refine lv_irem hx hb dX1_written_6 (by decide) ?_
    obtain ⟨x6, ex6, hf⟩ := nm_s hf
    refine lv_tpx ex6 ?_
    cases hf
    exact k_iret () hQ9 hx hb hr hlocks rfl hP hD hS (Nat.le_of_ble_eq_true rfl) (Nat.le_of_ble_eq_true rfl) dX1_written_7
abbrev rm_Tapes_tickAt : Room := { frames := 0, cells := 0, slots := 0, locals := 0 }
set_option maxHeartbeats 4000000 in
set_option maxRecDepth 100000 in
theorem c_Tapes_tickAt (l : Launch) (D : va_G) (cI cZ : ClassId) (t : Nat → Nat) (a_Tapes a_Tapes_counts a_Tapes_hits sz : Nat) (Tapes_hits : Nat → Int32) (p1 p2 zr : Int32) (hf : f_Tapes_tickAt Tapes_hits p1 p2 = some zr) : Met l yX9_tickAt wsX9_tickAt rm_Tapes_tickAt (va_Pc [.ref a_Tapes, .int p1, .int p2] (pcW D cI cZ t [(a_Tapes, .inr (9, [.ref a_Tapes_counts, .ref a_Tapes_hits])), (a_Tapes_hits, .inl (cI, 96, .inl Tapes_hits))] sz)) (va_Qi (fun r (u : Unit) => r = zr) (fun u t' => bW D (va_A [(a_Tapes, .inr (9, [.ref a_Tapes_counts, .ref a_Tapes_hits])), (a_Tapes_hits, .inl (cI, 96, .inl Tapes_hits))] sz) [(a_Tapes, .inr (9, [.ref a_Tapes_counts, .ref a_Tapes_hits])), (a_Tapes_hits, .inl (cI, 96, .inl Tapes_hits))] t') (va_A [(a_Tapes, .inr (9, [.ref a_Tapes_counts, .ref a_Tapes_hits])), (a_Tapes_hits, .inl (cI, 96, .inl Tapes_hits))] sz)) 0 0 (va_A [(a_Tapes, .inr (9, [.ref a_Tapes_counts, .ref a_Tapes_hits])), (a_Tapes_hits, .inl (cI, 96, .inl Tapes_hits))] sz) := by
  refine Met.ofW (cc := cX9_tickAt) (maxL := 3) (ret := (some .int)) (by decide) rfl ?_
  intro p e s m args below meth c s₁ B hml hv
  obtain ⟨rfl, hsz, hP, hD0, hE⟩ := hv
  have hx := B.exec
  have hb := B.bytes
  have hr := B.returns
  have hts := atoms_spec (ws := wsX9_tickAt) B.pre
  have hown : s.vm.findClass RX9 = some m.cls := findClass_of_methodNamed B.named
  have hlocks := B.notSynchronized
  subst hsz
  have hD := hD0.self (sz := s.heap.size)
  generalize hAe : va_A [(a_Tapes, .inr (9, [.ref a_Tapes_counts, .ref a_Tapes_hits])), (a_Tapes_hits, .inl (cI, 96, .inl Tapes_hits))] s.heap.size = A at hD hE ⊢
  have hA : ∀ q : Nat, s.heap.size ≤ q → A q := fun q h => by rw [← hAe]; exact Or.inr h
  clear hAe hD0
  have hS : va_S A s.heap s.heap [] := va_S.rf
  have hK := hE.1
  have hl := lv_entry ([.ref a_Tapes, .int p1, .int p2]) (n := 3) (Nat.le_of_ble_eq_true rfl)
  rw [lg_entry_eq]
  generalize (lg_sl ([.ref a_Tapes, .int p1, .int p2]) ++ List.replicate (3 - (lg_sl ([.ref a_Tapes, .int p1, .int p2])).length) Slot.unset).toArray = ls at hl ⊢
  have hl : lv_has ls 3 [(0, .ref a_Tapes), (1, .int p1), (2, .int p2)] := hl
  refine w_q (fun Q9 hQ9 => ?_)
  have fl15 := hts (.fieldLink RX9 15 "StickRoom$Tapes" "hits" "[I") (by decide +kernel)
  have inX9 : ∀ w ∈ wsX90, w ∈ wsX9_tickAt := by decide +kernel
  unfold f_Tapes_tickAt at hf
  refine lv_aload_n hx hb dX9_tickAt_0 rfl (lv_at hl 0 rfl) ?_
  refine va_get (D := D) (ci := 9) (v := .ref a_Tapes_hits) (C := RX9) (T := TX9) (N := 2) hx hb hts inX9 hown hK hP 0 rfl rfl 1 (by decide) fl15 (fun _ h9 => h9) rfl dX9_tickAt_1 ?_
  refine lv_iload_n hx hb dX9_tickAt_4 rfl (lv_at hl 1 rfl) ?_
  refine lv_bipush (v := 24) hx hb dX9_tickAt_5 (by decide) ?_
  refine lv_imul hx hb dX9_tickAt_7 ?_
  refine lv_iload_n hx hb dX9_tickAt_8 rfl (lv_at hl 2 rfl) ?_
  refine lv_iadd hx hb dX9_tickAt_9 ?_
  obtain ⟨ix1, x1, ex1, hf⟩ := rd_s hf
  refine va_iald hx hb hK hP 1 0 rfl rfl ix1 dX9_tickAt_10 ?_
  refine lv_tpx ex1 ?_
  cases hf
  exact k_iret () hQ9 hx hb hr hlocks rfl hP hD hS (Nat.le_of_ble_eq_true rfl) (Nat.le_of_ble_eq_true rfl) dX9_tickAt_11
abbrev rm_Tapes_append : Room := { frames := 0, cells := 0, slots := 0, locals := 0 }
set_option maxHeartbeats 4000000 in
set_option maxRecDepth 100000 in
theorem c_Tapes_append (l : Launch) (D : va_G) (cI cZ : ClassId) (t : Nat → Nat) (a_Tapes a_Tapes_counts a_Tapes_hits sz : Nat) (Tapes_counts Tapes_hits : Nat → Int32) (p1 p2 : Int32) (z_Tapes_counts z_Tapes_hits : Nat → Int32) (hf : f_Tapes_append Tapes_counts Tapes_hits p1 p2 = some (z_Tapes_counts, z_Tapes_hits)) : Met l yX9_append wsX9_append rm_Tapes_append (va_Pc [.ref a_Tapes, .int p1, .int p2] (pcW D cI cZ t [(a_Tapes, .inr (9, [.ref a_Tapes_counts, .ref a_Tapes_hits])), (a_Tapes_counts, .inl (cI, 4, .inl Tapes_counts)), (a_Tapes_hits, .inl (cI, 96, .inl Tapes_hits))] sz)) (va_Qv (fun u : Unit => u = u) (fun u t' => bW D (va_A [(a_Tapes, .inr (9, [.ref a_Tapes_counts, .ref a_Tapes_hits])), (a_Tapes_counts, .inl (cI, 4, .inl Tapes_counts)), (a_Tapes_hits, .inl (cI, 96, .inl Tapes_hits))] sz) [(a_Tapes, .inr (9, [.ref a_Tapes_counts, .ref a_Tapes_hits])), (a_Tapes_counts, .inl (cI, 4, .inl z_Tapes_counts)), (a_Tapes_hits, .inl (cI, 96, .inl z_Tapes_hits))] t') (va_A [(a_Tapes, .inr (9, [.ref a_Tapes_counts, .ref a_Tapes_hits])), (a_Tapes_counts, .inl (cI, 4, .inl Tapes_counts)), (a_Tapes_hits, .inl (cI, 96, .inl Tapes_hits))] sz)) 0 0 (va_A [(a_Tapes, .inr (9, [.ref a_Tapes_counts, .ref a_Tapes_hits])), (a_Tapes_counts, .inl (cI, 4, .inl Tapes_counts)), (a_Tapes_hits, .inl (cI, 96, .inl Tapes_hits))] sz) := by
  refine Met.ofW (cc := cX9_append) (maxL := 3) (ret := none) (by decide) rfl ?_
  intro p e s m args below meth c s₁ B hml hv
  obtain ⟨rfl, hsz, hP, hD0, hE⟩ := hv
  have hx := B.exec
  have hb := B.bytes
  have hr := B.returns
  have hts := atoms_spec (ws := wsX9_append) B.pre
  have hown : s.vm.findClass RX9 = some m.cls := findClass_of_methodNamed B.named
  have hlocks := B.notSynchronized
  subst hsz
  have hD := hD0.self (sz := s.heap.size)
  generalize hAe : va_A [(a_Tapes, .inr (9, [.ref a_Tapes_counts, .ref a_Tapes_hits])), (a_Tapes_counts, .inl (cI, 4, .inl Tapes_counts)), (a_Tapes_hits, .inl (cI, 96, .inl Tapes_hits))] s.heap.size = A at hD hE ⊢
  have hA : ∀ q : Nat, s.heap.size ≤ q → A q := fun q h => by rw [← hAe]; exact Or.inr h
  clear hAe hD0
  have hS : va_S A s.heap s.heap [] := va_S.rf
  have hK := hE.1
  have hl := lv_entry ([.ref a_Tapes, .int p1, .int p2]) (n := 3) (Nat.le_of_ble_eq_true rfl)
  rw [lg_entry_eq]
  generalize (lg_sl ([.ref a_Tapes, .int p1, .int p2]) ++ List.replicate (3 - (lg_sl ([.ref a_Tapes, .int p1, .int p2])).length) Slot.unset).toArray = ls at hl ⊢
  have hl : lv_has ls 3 [(0, .ref a_Tapes), (1, .int p1), (2, .int p2)] := hl
  refine w_q (fun Q9 hQ9 => ?_)
  have fl9 := hts (.fieldLink RX9 9 "StickRoom$Tapes" "counts" "[I") (by decide +kernel)
  have inX9 : ∀ w ∈ wsX90, w ∈ wsX9_append := by decide +kernel
  have fl15 := hts (.fieldLink RX9 15 "StickRoom$Tapes" "hits" "[I") (by decide +kernel)
  unfold f_Tapes_append at hf
  refine lv_aload_n hx hb dX9_append_0 rfl (lv_at hl 0 rfl) ?_
  refine va_get (D := D) (ci := 9) (v := .ref a_Tapes_counts) (C := RX9) (T := TX9) (N := 2) hx hb hts inX9 hown hK hP 0 rfl rfl 0 (by decide) fl9 (fun _ h9 => h9) rfl dX9_append_1 ?_
  refine lv_iload_n hx hb dX9_append_4 rfl (lv_at hl 1 rfl) ?_
  obtain ⟨ix1, x1, ex1, hf⟩ := rd_s hf
  refine va_iald hx hb hK hP 1 0 rfl rfl ix1 dX9_append_5 ?_
  refine lv_tpx ex1 ?_
  refine lv_bipush (v := 24) hx hb dX9_append_6 (by decide) ?_
  refine lv_icmp_ge (tgt := 38) hx hb dX9_append_8 (by decide) (fun c2 => ?_) (fun c2 => ?_)
  · have hf := ite_t c2 hf
    cases hf
    exact k_vret () hQ9 hx hb hr hlocks rfl hP hD hS (Nat.le_of_ble_eq_true rfl) (Nat.le_of_ble_eq_true rfl) dX9_append_38
  · have hf := ite_f c2 hf
    refine lv_aload_n hx hb dX9_append_11 rfl (lv_at hl 0 rfl) ?_
    refine va_get (D := D) (ci := 9) (v := .ref a_Tapes_hits) (C := RX9) (T := TX9) (N := 2) hx hb hts inX9 hown hK hP 0 rfl rfl 1 (by decide) fl15 (fun _ h9 => h9) rfl dX9_append_12 ?_
    refine lv_iload_n hx hb dX9_append_15 rfl (lv_at hl 1 rfl) ?_
    refine lv_bipush (v := 24) hx hb dX9_append_16 (by decide) ?_
    refine lv_imul hx hb dX9_append_18 ?_
    refine lv_aload_n hx hb dX9_append_19 rfl (lv_at hl 0 rfl) ?_
    refine va_get (D := D) (ci := 9) (v := .ref a_Tapes_counts) (C := RX9) (T := TX9) (N := 2) hx hb hts inX9 hown hK hP 0 rfl rfl 0 (by decide) fl9 (fun _ h9 => h9) rfl dX9_append_20 ?_
    refine lv_iload_n hx hb dX9_append_23 rfl (lv_at hl 1 rfl) ?_
    obtain ⟨ix3, x3, ex3, hf⟩ := rd_s hf
    refine va_iald hx hb hK hP 1 0 rfl rfl ix3 dX9_append_24 ?_
    refine lv_tpx ex3 ?_
    refine lv_iadd hx hb dX9_append_25 ?_
    refine lv_iload_n hx hb dX9_append_26 rfl (lv_at hl 2 rfl) ?_
    obtain ⟨i4, hf⟩ := ck_s hf
    refine va_iast hx hb hK hP hD hS 2 0 rfl rfl i4 dX9_append_27 (fun H locs hP hD hS => ?_)
    have hP : va_P D vwCl [(a_Tapes, .inr (9, [.ref a_Tapes_counts, .ref a_Tapes_hits])), (a_Tapes_counts, .inl (cI, 4, .inl Tapes_counts)), (a_Tapes_hits, .inl (cI, 96, .inl (upd Tapes_hits ((p1 * 24) + x3).toNatClampNeg p2)))] H := hP
    have hD : va_D A [(a_Tapes, .inr (9, [.ref a_Tapes_counts, .ref a_Tapes_hits])), (a_Tapes_counts, .inl (cI, 4, .inl Tapes_counts)), (a_Tapes_hits, .inl (cI, 96, .inl (upd Tapes_hits ((p1 * 24) + x3).toNatClampNeg p2)))] := hD
    refine lv_aload_n hx hb dX9_append_28 rfl (lv_at hl 0 rfl) ?_
    refine va_get (D := D) (ci := 9) (v := .ref a_Tapes_counts) (C := RX9) (T := TX9) (N := 2) hx hb hts inX9 hown hK hP 0 rfl rfl 0 (by decide) fl9 (fun _ h9 => h9) rfl dX9_append_29 ?_
    refine lv_iload_n hx hb dX9_append_32 rfl (lv_at hl 1 rfl) ?_
    refine lv_dup2_11 hx hb dX9_append_33 rfl rfl ?_
    obtain ⟨ix5, x5, ex5, hf⟩ := rd_s hf
    refine va_iald hx hb hK hP 1 0 rfl rfl ix5 dX9_append_34 ?_
    refine lv_tpx ex5 ?_
    refine lv_iconst (v := 1) hx hb dX9_append_35 (by decide) ?_
    refine lv_iadd hx hb dX9_append_36 ?_
    obtain ⟨x6, ex6, hf⟩ := nm_s hf
    refine lv_tpx ex6 ?_
    obtain ⟨i7, hf⟩ := ck_s hf
    refine va_iast hx hb hK hP hD hS 1 0 rfl rfl i7 dX9_append_37 (fun H locs hP hD hS => ?_)
    have hP : va_P D vwCl [(a_Tapes, .inr (9, [.ref a_Tapes_counts, .ref a_Tapes_hits])), (a_Tapes_counts, .inl (cI, 4, .inl (upd Tapes_counts p1.toNatClampNeg x6))), (a_Tapes_hits, .inl (cI, 96, .inl (upd Tapes_hits ((p1 * 24) + x3).toNatClampNeg p2)))] H := hP
    have hD : va_D A [(a_Tapes, .inr (9, [.ref a_Tapes_counts, .ref a_Tapes_hits])), (a_Tapes_counts, .inl (cI, 4, .inl (upd Tapes_counts p1.toNatClampNeg x6))), (a_Tapes_hits, .inl (cI, 96, .inl (upd Tapes_hits ((p1 * 24) + x3).toNatClampNeg p2)))] := hD
    cases hf
    exact k_vret () hQ9 hx hb hr hlocks rfl hP hD hS (Nat.le_of_ble_eq_true rfl) (Nat.le_of_ble_eq_true rfl) dX9_append_38
abbrev rm_Tapes_removeLatest : Room := { frames := 0, cells := 0, slots := 0, locals := 0 }
set_option maxHeartbeats 4000000 in
set_option maxRecDepth 100000 in
theorem c_Tapes_removeLatest (l : Launch) (D : va_G) (cI cZ : ClassId) (t : Nat → Nat) (a_Tapes a_Tapes_counts a_Tapes_hits sz : Nat) (Tapes_counts : Nat → Int32) (p1 : Int32) (z_Tapes_counts : Nat → Int32) (hf : f_Tapes_removeLatest Tapes_counts p1 = some z_Tapes_counts) : Met l yX9_removeLatest wsX9_removeLatest rm_Tapes_removeLatest (va_Pc [.ref a_Tapes, .int p1] (pcW D cI cZ t [(a_Tapes, .inr (9, [.ref a_Tapes_counts, .ref a_Tapes_hits])), (a_Tapes_counts, .inl (cI, 4, .inl Tapes_counts))] sz)) (va_Qv (fun u : Unit => u = u) (fun u t' => bW D (va_A [(a_Tapes, .inr (9, [.ref a_Tapes_counts, .ref a_Tapes_hits])), (a_Tapes_counts, .inl (cI, 4, .inl Tapes_counts))] sz) [(a_Tapes, .inr (9, [.ref a_Tapes_counts, .ref a_Tapes_hits])), (a_Tapes_counts, .inl (cI, 4, .inl z_Tapes_counts))] t') (va_A [(a_Tapes, .inr (9, [.ref a_Tapes_counts, .ref a_Tapes_hits])), (a_Tapes_counts, .inl (cI, 4, .inl Tapes_counts))] sz)) 0 0 (va_A [(a_Tapes, .inr (9, [.ref a_Tapes_counts, .ref a_Tapes_hits])), (a_Tapes_counts, .inl (cI, 4, .inl Tapes_counts))] sz) := by
  refine Met.ofW (cc := cX9_removeLatest) (maxL := 2) (ret := none) (by decide) rfl ?_
  intro p e s m args below meth c s₁ B hml hv
  obtain ⟨rfl, hsz, hP, hD0, hE⟩ := hv
  have hx := B.exec
  have hb := B.bytes
  have hr := B.returns
  have hts := atoms_spec (ws := wsX9_removeLatest) B.pre
  have hown : s.vm.findClass RX9 = some m.cls := findClass_of_methodNamed B.named
  have hlocks := B.notSynchronized
  subst hsz
  have hD := hD0.self (sz := s.heap.size)
  generalize hAe : va_A [(a_Tapes, .inr (9, [.ref a_Tapes_counts, .ref a_Tapes_hits])), (a_Tapes_counts, .inl (cI, 4, .inl Tapes_counts))] s.heap.size = A at hD hE ⊢
  have hA : ∀ q : Nat, s.heap.size ≤ q → A q := fun q h => by rw [← hAe]; exact Or.inr h
  clear hAe hD0
  have hS : va_S A s.heap s.heap [] := va_S.rf
  have hK := hE.1
  have hl := lv_entry ([.ref a_Tapes, .int p1]) (n := 2) (Nat.le_of_ble_eq_true rfl)
  rw [lg_entry_eq]
  generalize (lg_sl ([.ref a_Tapes, .int p1]) ++ List.replicate (2 - (lg_sl ([.ref a_Tapes, .int p1])).length) Slot.unset).toArray = ls at hl ⊢
  have hl : lv_has ls 2 [(0, .ref a_Tapes), (1, .int p1)] := hl
  refine w_q (fun Q9 hQ9 => ?_)
  have fl9 := hts (.fieldLink RX9 9 "StickRoom$Tapes" "counts" "[I") (by decide +kernel)
  have inX9 : ∀ w ∈ wsX90, w ∈ wsX9_removeLatest := by decide +kernel
  unfold f_Tapes_removeLatest at hf
  refine lv_aload_n hx hb dX9_removeLatest_0 rfl (lv_at hl 0 rfl) ?_
  refine va_get (D := D) (ci := 9) (v := .ref a_Tapes_counts) (C := RX9) (T := TX9) (N := 2) hx hb hts inX9 hown hK hP 0 rfl rfl 0 (by decide) fl9 (fun _ h9 => h9) rfl dX9_removeLatest_1 ?_
  refine lv_iload_n hx hb dX9_removeLatest_4 rfl (lv_at hl 1 rfl) ?_
  obtain ⟨ix1, x1, ex1, hf⟩ := rd_s hf
  refine va_iald hx hb hK hP 1 0 rfl rfl ix1 dX9_removeLatest_5 ?_
  refine lv_tpx ex1 ?_
  refine lv_if_le (tgt := 19) hx hb dX9_removeLatest_6 (by decide) (fun c2 => ?_) (fun c2 => ?_)
  · have hf := ite_t c2 hf
    cases hf
    exact k_vret () hQ9 hx hb hr hlocks rfl hP hD hS (Nat.le_of_ble_eq_true rfl) (Nat.le_of_ble_eq_true rfl) dX9_removeLatest_19
  · have hf := ite_f c2 hf
    refine lv_aload_n hx hb dX9_removeLatest_9 rfl (lv_at hl 0 rfl) ?_
    refine va_get (D := D) (ci := 9) (v := .ref a_Tapes_counts) (C := RX9) (T := TX9) (N := 2) hx hb hts inX9 hown hK hP 0 rfl rfl 0 (by decide) fl9 (fun _ h9 => h9) rfl dX9_removeLatest_10 ?_
    refine lv_iload_n hx hb dX9_removeLatest_13 rfl (lv_at hl 1 rfl) ?_
    refine lv_dup2_11 hx hb dX9_removeLatest_14 rfl rfl ?_
    obtain ⟨ix3, x3, ex3, hf⟩ := rd_s hf
    refine va_iald hx hb hK hP 1 0 rfl rfl ix3 dX9_removeLatest_15 ?_
    refine lv_tpx ex3 ?_
    refine lv_iconst (v := 1) hx hb dX9_removeLatest_16 (by decide) ?_
    refine lv_isub hx hb dX9_removeLatest_17 ?_
    obtain ⟨x4, ex4, hf⟩ := nm_s hf
    refine lv_tpx ex4 ?_
    obtain ⟨i5, hf⟩ := ck_s hf
    refine va_iast hx hb hK hP hD hS 1 0 rfl rfl i5 dX9_removeLatest_18 (fun H locs hP hD hS => ?_)
    have hP : va_P D vwCl [(a_Tapes, .inr (9, [.ref a_Tapes_counts, .ref a_Tapes_hits])), (a_Tapes_counts, .inl (cI, 4, .inl (upd Tapes_counts p1.toNatClampNeg x4)))] H := hP
    have hD : va_D A [(a_Tapes, .inr (9, [.ref a_Tapes_counts, .ref a_Tapes_hits])), (a_Tapes_counts, .inl (cI, 4, .inl (upd Tapes_counts p1.toNatClampNeg x4)))] := hD
    cases hf
    exact k_vret () hQ9 hx hb hr hlocks rfl hP hD hS (Nat.le_of_ble_eq_true rfl) (Nat.le_of_ble_eq_true rfl) dX9_removeLatest_19
abbrev rm_Tapes_clear : Room := { frames := 0, cells := 0, slots := 0, locals := 0 }
set_option maxHeartbeats 4000000 in
set_option maxRecDepth 100000 in
theorem c_Tapes_clear (l : Launch) (D : va_G) (cI cZ : ClassId) (t : Nat → Nat) (a_Tapes a_Tapes_counts a_Tapes_hits sz : Nat) (Tapes_counts : Nat → Int32) (p1 : Int32) (z_Tapes_counts : Nat → Int32) (hf : f_Tapes_clear Tapes_counts p1 = some z_Tapes_counts) : Met l yX9_clear wsX9_clear rm_Tapes_clear (va_Pc [.ref a_Tapes, .int p1] (pcW D cI cZ t [(a_Tapes, .inr (9, [.ref a_Tapes_counts, .ref a_Tapes_hits])), (a_Tapes_counts, .inl (cI, 4, .inl Tapes_counts))] sz)) (va_Qv (fun u : Unit => u = u) (fun u t' => bW D (va_A [(a_Tapes, .inr (9, [.ref a_Tapes_counts, .ref a_Tapes_hits])), (a_Tapes_counts, .inl (cI, 4, .inl Tapes_counts))] sz) [(a_Tapes, .inr (9, [.ref a_Tapes_counts, .ref a_Tapes_hits])), (a_Tapes_counts, .inl (cI, 4, .inl z_Tapes_counts))] t') (va_A [(a_Tapes, .inr (9, [.ref a_Tapes_counts, .ref a_Tapes_hits])), (a_Tapes_counts, .inl (cI, 4, .inl Tapes_counts))] sz)) 0 0 (va_A [(a_Tapes, .inr (9, [.ref a_Tapes_counts, .ref a_Tapes_hits])), (a_Tapes_counts, .inl (cI, 4, .inl Tapes_counts))] sz) := by
  refine Met.ofW (cc := cX9_clear) (maxL := 2) (ret := none) (by decide) rfl ?_
  intro p e s m args below meth c s₁ B hml hv
  obtain ⟨rfl, hsz, hP, hD0, hE⟩ := hv
  have hx := B.exec
  have hb := B.bytes
  have hr := B.returns
  have hts := atoms_spec (ws := wsX9_clear) B.pre
  have hown : s.vm.findClass RX9 = some m.cls := findClass_of_methodNamed B.named
  have hlocks := B.notSynchronized
  subst hsz
  have hD := hD0.self (sz := s.heap.size)
  generalize hAe : va_A [(a_Tapes, .inr (9, [.ref a_Tapes_counts, .ref a_Tapes_hits])), (a_Tapes_counts, .inl (cI, 4, .inl Tapes_counts))] s.heap.size = A at hD hE ⊢
  have hA : ∀ q : Nat, s.heap.size ≤ q → A q := fun q h => by rw [← hAe]; exact Or.inr h
  clear hAe hD0
  have hS : va_S A s.heap s.heap [] := va_S.rf
  have hK := hE.1
  have hl := lv_entry ([.ref a_Tapes, .int p1]) (n := 2) (Nat.le_of_ble_eq_true rfl)
  rw [lg_entry_eq]
  generalize (lg_sl ([.ref a_Tapes, .int p1]) ++ List.replicate (2 - (lg_sl ([.ref a_Tapes, .int p1])).length) Slot.unset).toArray = ls at hl ⊢
  have hl : lv_has ls 2 [(0, .ref a_Tapes), (1, .int p1)] := hl
  refine w_q (fun Q9 hQ9 => ?_)
  have fl9 := hts (.fieldLink RX9 9 "StickRoom$Tapes" "counts" "[I") (by decide +kernel)
  have inX9 : ∀ w ∈ wsX90, w ∈ wsX9_clear := by decide +kernel
  unfold f_Tapes_clear at hf
  refine lv_aload_n hx hb dX9_clear_0 rfl (lv_at hl 0 rfl) ?_
  refine va_get (D := D) (ci := 9) (v := .ref a_Tapes_counts) (C := RX9) (T := TX9) (N := 2) hx hb hts inX9 hown hK hP 0 rfl rfl 0 (by decide) fl9 (fun _ h9 => h9) rfl dX9_clear_1 ?_
  refine lv_iload_n hx hb dX9_clear_4 rfl (lv_at hl 1 rfl) ?_
  refine lv_iconst (v := 0) hx hb dX9_clear_5 (by decide) ?_
  obtain ⟨i1, hf⟩ := ck_s hf
  refine va_iast hx hb hK hP hD hS 1 0 rfl rfl i1 dX9_clear_6 (fun H locs hP hD hS => ?_)
  have hP : va_P D vwCl [(a_Tapes, .inr (9, [.ref a_Tapes_counts, .ref a_Tapes_hits])), (a_Tapes_counts, .inl (cI, 4, .inl (upd Tapes_counts p1.toNatClampNeg 0)))] H := hP
  have hD : va_D A [(a_Tapes, .inr (9, [.ref a_Tapes_counts, .ref a_Tapes_hits])), (a_Tapes_counts, .inl (cI, 4, .inl (upd Tapes_counts p1.toNatClampNeg 0)))] := hD
  cases hf
  exact k_vret () hQ9 hx hb hr hlocks rfl hP hD hS (Nat.le_of_ble_eq_true rfl) (Nat.le_of_ble_eq_true rfl) dX9_clear_7
abbrev rm_Tapes_countAll : Room := { frames := 0, cells := 0, slots := 0, locals := 0 }
set_option maxHeartbeats 4000000 in
set_option maxRecDepth 100000 in
theorem c_Tapes_countAll (l : Launch) (D : va_G) (cI cZ : ClassId) (t : Nat → Nat) (a_Tapes a_Tapes_counts a_Tapes_hits sz : Nat) (Tapes_counts : Nat → Int32) (zr : Int32) (hf : f_Tapes_countAll Tapes_counts = some zr) : Met l yX9_countAll wsX9_countAll rm_Tapes_countAll (va_Pc [.ref a_Tapes] (pcW D cI cZ t [(a_Tapes, .inr (9, [.ref a_Tapes_counts, .ref a_Tapes_hits])), (a_Tapes_counts, .inl (cI, 4, .inl Tapes_counts))] sz)) (va_Qi (fun r (u : Unit) => r = zr) (fun u t' => bW D (va_A [(a_Tapes, .inr (9, [.ref a_Tapes_counts, .ref a_Tapes_hits])), (a_Tapes_counts, .inl (cI, 4, .inl Tapes_counts))] sz) [(a_Tapes, .inr (9, [.ref a_Tapes_counts, .ref a_Tapes_hits])), (a_Tapes_counts, .inl (cI, 4, .inl Tapes_counts))] t') (va_A [(a_Tapes, .inr (9, [.ref a_Tapes_counts, .ref a_Tapes_hits])), (a_Tapes_counts, .inl (cI, 4, .inl Tapes_counts))] sz)) 0 0 (va_A [(a_Tapes, .inr (9, [.ref a_Tapes_counts, .ref a_Tapes_hits])), (a_Tapes_counts, .inl (cI, 4, .inl Tapes_counts))] sz) := by
  refine Met.ofW (cc := cX9_countAll) (maxL := 3) (ret := (some .int)) (by decide) rfl ?_
  intro p e s m args below meth c s₁ B hml hv
  obtain ⟨rfl, hsz, hP, hD0, hE⟩ := hv
  have hx := B.exec
  have hb := B.bytes
  have hr := B.returns
  have hts := atoms_spec (ws := wsX9_countAll) B.pre
  have hown : s.vm.findClass RX9 = some m.cls := findClass_of_methodNamed B.named
  have hlocks := B.notSynchronized
  subst hsz
  have hD := hD0.self (sz := s.heap.size)
  generalize hAe : va_A [(a_Tapes, .inr (9, [.ref a_Tapes_counts, .ref a_Tapes_hits])), (a_Tapes_counts, .inl (cI, 4, .inl Tapes_counts))] s.heap.size = A at hD hE ⊢
  have hA : ∀ q : Nat, s.heap.size ≤ q → A q := fun q h => by rw [← hAe]; exact Or.inr h
  clear hAe hD0
  have hS : va_S A s.heap s.heap [] := va_S.rf
  have hK := hE.1
  have hl := lv_entry ([.ref a_Tapes]) (n := 3) (Nat.le_of_ble_eq_true rfl)
  rw [lg_entry_eq]
  generalize (lg_sl ([.ref a_Tapes]) ++ List.replicate (3 - (lg_sl ([.ref a_Tapes])).length) Slot.unset).toArray = ls at hl ⊢
  have hl : lv_has ls 3 [(0, .ref a_Tapes)] := hl
  refine w_q (fun Q9 hQ9 => ?_)
  have fl9 := hts (.fieldLink RX9 9 "StickRoom$Tapes" "counts" "[I") (by decide +kernel)
  have inX9 : ∀ w ∈ wsX90, w ∈ wsX9_countAll := by decide +kernel
  have hL4 : ∀ (n4 : Nat) (l1 l2 : Int32) (H : Heap) (locs : List Loc) (ls : Array Slot), va_P D vwCl [(a_Tapes, .inr (9, [.ref a_Tapes_counts, .ref a_Tapes_hits])), (a_Tapes_counts, .inl (cI, 4, .inl Tapes_counts))] H → va_D A [(a_Tapes, .inr (9, [.ref a_Tapes_counts, .ref a_Tapes_hits])), (a_Tapes_counts, .inl (cI, 4, .inl Tapes_counts))] → va_S A s.heap H locs → lv_has ls 3 [(0, .ref a_Tapes), (1, .int l1), (2, .int l2)] → f_Tapes_countAll_4 Tapes_counts  n4 l1 l2 = some zr → W p l e (headSpec wsX9_countAll rm_Tapes_countAll).room s m ([.ref a_Tapes] : List Value).toArray below meth c H locs 0 0 Q9 (F0 m 4 ls []) := by
    intro n4
    induction n4 with
    | zero => intro l1 l2 H locs ls hP hD hS hl hf; exact nomatch (show none = some zr from hf)
    | succ n4 ih4 =>
      intro l1 l2 H locs ls hP hD hS hl hf
      have hf : f_Tapes_countAll_4_b Tapes_counts  (f_Tapes_countAll_4 Tapes_counts  n4) l1 l2 = some zr := hf
      unfold f_Tapes_countAll_4_b at hf
      refine lv_iload_n hx hb dX9_countAll_4 rfl (lv_at hl 2 rfl) ?_
      refine lv_iconst (v := 4) hx hb dX9_countAll_5 (by decide) ?_
      refine lv_icmp_ge (tgt := 24) hx hb dX9_countAll_6 (by decide) (fun c1 => ?_) (fun c1 => ?_)
      · have hf := ite_t c1 hf
        refine lv_iload_n hx hb dX9_countAll_24 rfl (lv_at hl 1 rfl) ?_
        cases hf
        exact k_iret () hQ9 hx hb hr hlocks rfl hP hD hS (Nat.le_of_ble_eq_true rfl) (Nat.le_of_ble_eq_true rfl) dX9_countAll_25
      · have hf := ite_f c1 hf
        refine lv_iload_n hx hb dX9_countAll_9 rfl (lv_at hl 1 rfl) ?_
        refine lv_aload_n hx hb dX9_countAll_10 rfl (lv_at hl 0 rfl) ?_
        refine va_get (D := D) (ci := 9) (v := .ref a_Tapes_counts) (C := RX9) (T := TX9) (N := 2) hx hb hts inX9 hown hK hP 0 rfl rfl 0 (by decide) fl9 (fun _ h9 => h9) rfl dX9_countAll_11 ?_
        refine lv_iload_n hx hb dX9_countAll_14 rfl (lv_at hl 2 rfl) ?_
        obtain ⟨ix2, x2, ex2, hf⟩ := rd_s hf
        refine va_iald hx hb hK hP 1 0 rfl rfl ix2 dX9_countAll_15 ?_
        refine lv_tpx ex2 ?_
        refine lv_iadd hx hb dX9_countAll_16 ?_
        obtain ⟨x3, ex3, hf⟩ := nm_s hf
        refine lv_tpx ex3 ?_
        refine lv_istore_n (lv' := [(1, .int x3), (0, .ref a_Tapes), (2, .int l2)]) hx hb dX9_countAll_17 rfl hl (by decide) rfl (fun ls hl => ?_)
        obtain ⟨x4, ex4, hf⟩ := nm_s hf
        refine lv_iinc (v := x4) (lv' := [(2, .int x4), (1, .int x3), (0, .ref a_Tapes)]) hx hb dX9_countAll_18 hl (k := 2) rfl (by rw [ex4]; rfl) (by decide) rfl (fun ls hl => ?_)
        refine lv_goto (tgt := 4) hx hb dX9_countAll_21 (by decide) ?_
        exact ih4 x3 x4 H locs ls hP hD hS (lv_sub hl [2, 1, 0] rfl) hf
  unfold f_Tapes_countAll at hf
  refine lv_iconst (v := 0) hx hb dX9_countAll_0 (by decide) ?_
  refine lv_istore_n (lv' := [(1, .int 0), (0, .ref a_Tapes)]) hx hb dX9_countAll_1 rfl hl (by decide) rfl (fun ls hl => ?_)
  refine lv_iconst (v := 0) hx hb dX9_countAll_2 (by decide) ?_
  refine lv_istore_n (lv' := [(2, .int 0), (1, .int 0), (0, .ref a_Tapes)]) hx hb dX9_countAll_3 rfl hl (by decide) rfl (fun ls hl => ?_)
  exact hL4 fu 0 0 s.heap [] ls hP hD hS (lv_sub hl [2, 1, 0] rfl) hf
abbrev rm_Basses_owner : Room := { frames := 1, cells := 0, slots := 0, locals := 21 }
set_option maxHeartbeats 4000000 in
set_option maxRecDepth 100000 in
theorem c_Basses_owner (l : Launch) (D : va_G) (cI cZ : ClassId) (t : Nat → Nat) (a_Basses a_Line a_Rules a_Basses_latestTicks sz : Nat) (Basses_there p1 p2 zr : Int32) (hf : f_Basses_owner Basses_there p1 p2 = some zr) : Met l yX1_owner wsX1_owner rm_Basses_owner (va_Pc [.ref a_Basses, .int p1, .int p2] (pcW D cI cZ t [(a_Basses, .inr (1, [.int Basses_there, .ref a_Line, .ref a_Rules, .ref a_Basses_latestTicks]))] sz)) (va_Qi (fun r (u : Unit) => r = zr) (fun u t' => bW D (va_A [(a_Basses, .inr (1, [.int Basses_there, .ref a_Line, .ref a_Rules, .ref a_Basses_latestTicks]))] sz) [(a_Basses, .inr (1, [.int Basses_there, .ref a_Line, .ref a_Rules, .ref a_Basses_latestTicks]))] t') (va_A [(a_Basses, .inr (1, [.int Basses_there, .ref a_Line, .ref a_Rules, .ref a_Basses_latestTicks]))] sz)) 0 0 (va_A [(a_Basses, .inr (1, [.int Basses_there, .ref a_Line, .ref a_Rules, .ref a_Basses_latestTicks]))] sz) := by
  refine Met.ofW (cc := cX1_owner) (maxL := 5) (ret := (some .int)) (by decide) rfl ?_
  intro p e s m args below meth c s₁ B hml hv
  obtain ⟨rfl, hsz, hP, hD0, hE⟩ := hv
  have hx := B.exec
  have hb := B.bytes
  have hr := B.returns
  have hts := atoms_spec (ws := wsX1_owner) B.pre
  have hown : s.vm.findClass RX1 = some m.cls := findClass_of_methodNamed B.named
  have hlocks := B.notSynchronized
  subst hsz
  have hD := hD0.self (sz := s.heap.size)
  generalize hAe : va_A [(a_Basses, .inr (1, [.int Basses_there, .ref a_Line, .ref a_Rules, .ref a_Basses_latestTicks]))] s.heap.size = A at hD hE ⊢
  have hA : ∀ q : Nat, s.heap.size ≤ q → A q := fun q h => by rw [← hAe]; exact Or.inr h
  clear hAe hD0
  have hS : va_S A s.heap s.heap [] := va_S.rf
  have hK := hE.1
  have hl := lv_entry ([.ref a_Basses, .int p1, .int p2]) (n := 5) (Nat.le_of_ble_eq_true rfl)
  rw [lg_entry_eq]
  generalize (lg_sl ([.ref a_Basses, .int p1, .int p2]) ++ List.replicate (5 - (lg_sl ([.ref a_Basses, .int p1, .int p2])).length) Slot.unset).toArray = ls at hl ⊢
  have hl : lv_has ls 5 [(0, .ref a_Basses), (1, .int p1), (2, .int p2)] := hl
  refine w_q (fun Q9 hQ9 => ?_)
  have hL37 : ∀ (n37 : Nat) (l3 l4 : Int32) (H : Heap) (locs : List Loc) (ls : Array Slot), va_P D vwCl [(a_Basses, .inr (1, [.int Basses_there, .ref a_Line, .ref a_Rules, .ref a_Basses_latestTicks]))] H → va_D A [(a_Basses, .inr (1, [.int Basses_there, .ref a_Line, .ref a_Rules, .ref a_Basses_latestTicks]))] → va_S A s.heap H locs → lv_has ls 5 [(0, .ref a_Basses), (3, .int l3), (4, .int l4)] → f_Basses_owner_37 Basses_there  n37 l3 l4 = some zr → W p l e (headSpec wsX1_owner rm_Basses_owner).room s m ([.ref a_Basses, .int p1, .int p2] : List Value).toArray below meth c H locs 0 0 Q9 (F0 m 37 ls []) := by
    intro n37
    induction n37 with
    | zero => intro l3 l4 H locs ls hP hD hS hl hf; exact nomatch (show none = some zr from hf)
    | succ n37 ih37 =>
      intro l3 l4 H locs ls hP hD hS hl hf
      have hf : f_Basses_owner_37_b Basses_there  (f_Basses_owner_37 Basses_there  n37) l3 l4 = some zr := hf
      unfold f_Basses_owner_37_b at hf
      refine lv_iload hx hb dX1_owner_37 (lv_at hl 2 rfl) ?_
      refine lv_iconst (v := 5) hx hb dX1_owner_39 (by decide) ?_
      refine lv_icmp_ge (tgt := 61) hx hb dX1_owner_40 (by decide) (fun c1 => ?_) (fun c1 => ?_)
      · have hf := ite_t c1 hf
        refine lv_iload_n hx hb dX1_owner_61 rfl (lv_at hl 1 rfl) ?_
        cases hf
        exact k_iret () hQ9 hx hb hr hlocks rfl hP hD hS (Nat.le_of_ble_eq_true rfl) (Nat.le_of_ble_eq_true rfl) dX1_owner_62
      · have hf := ite_f c1 hf
        refine lv_aload_n hx hb dX1_owner_43 rfl (lv_at hl 0 rfl) ?_
        refine lv_iload hx hb dX1_owner_44 (lv_at hl 2 rfl) ?_
        obtain ⟨r2, g3, hf⟩ := b1_s hf
        refine k_Vi (rest := []) ⟨hx, hb, hml, hown, hts⟩ (c_Basses_isThere l D cI cZ t a_Basses a_Line a_Rules a_Basses_latestTicks H.size Basses_there l4 r2 g3) (cwV 1 hts gX1_owner_X1_isThere rfl rfl rfl (by decide +kernel) ⟨Nat.le_of_ble_eq_true rfl, Nat.le_of_ble_eq_true rfl⟩) hE hP hD hS hA [0] [] rfl rfl rfl rfl rfl 0 1 rfl rfl rfl rfl hl.1 rfl (Nat.le_of_ble_eq_true rfl) dX1_owner_46 ⟨Nat.le_of_ble_eq_true rfl, Nat.le_of_ble_eq_true rfl⟩ (fun rq uq H locs hrq hP hD hS => ?_)
        refine lv_tpx hrq.symm ?_
        have hP : va_P D vwCl [(a_Basses, .inr (1, [.int Basses_there, .ref a_Line, .ref a_Rules, .ref a_Basses_latestTicks]))] H := hP
        have hD : va_D A [(a_Basses, .inr (1, [.int Basses_there, .ref a_Line, .ref a_Rules, .ref a_Basses_latestTicks]))] := hD
        refine lv_if_eq (tgt := 55) hx hb dX1_owner_49 (by decide) (fun c4 => ?_) (fun c4 => ?_)
        · have hf := ite_t c4 hf
          obtain ⟨x5, ex5, hf⟩ := nm_s hf
          refine lv_iinc (v := x5) (lv' := [(4, .int x5), (0, .ref a_Basses), (3, .int l3)]) hx hb dX1_owner_55 hl (k := 2) rfl (by rw [ex5]; rfl) (by decide) rfl (fun ls hl => ?_)
          refine lv_goto (tgt := 37) hx hb dX1_owner_58 (by decide) ?_
          exact ih37 l3 x5 H locs ls hP hD hS (lv_sub hl [1, 2, 0] rfl) hf
        · have hf := ite_f c4 hf
          refine lv_iload hx hb dX1_owner_52 (lv_at hl 2 rfl) ?_
          cases hf
          exact k_iret () hQ9 hx hb hr hlocks rfl hP hD hS (Nat.le_of_ble_eq_true rfl) (Nat.le_of_ble_eq_true rfl) dX1_owner_54
  have hL9 : ∀ (n9 : Nat) (l3 l4 : Int32) (H : Heap) (locs : List Loc) (ls : Array Slot), va_P D vwCl [(a_Basses, .inr (1, [.int Basses_there, .ref a_Line, .ref a_Rules, .ref a_Basses_latestTicks]))] H → va_D A [(a_Basses, .inr (1, [.int Basses_there, .ref a_Line, .ref a_Rules, .ref a_Basses_latestTicks]))] → va_S A s.heap H locs → lv_has ls 5 [(0, .ref a_Basses), (3, .int l3), (4, .int l4)] → f_Basses_owner_9 Basses_there  n9 l3 l4 = some zr → W p l e (headSpec wsX1_owner rm_Basses_owner).room s m ([.ref a_Basses, .int p1, .int p2] : List Value).toArray below meth c H locs 0 0 Q9 (F0 m 9 ls []) := by
    intro n9
    induction n9 with
    | zero => intro l3 l4 H locs ls hP hD hS hl hf; exact nomatch (show none = some zr from hf)
    | succ n9 ih9 =>
      intro l3 l4 H locs ls hP hD hS hl hf
      have hf : f_Basses_owner_9_b Basses_there  (f_Basses_owner_9 Basses_there  n9) l3 l4 = some zr := hf
      unfold f_Basses_owner_9_b at hf
      refine lv_iload hx hb dX1_owner_9 (lv_at hl 2 rfl) ?_
      refine lv_if_lt (tgt := 32) hx hb dX1_owner_11 (by decide) (fun c6 => ?_) (fun c6 => ?_)
      · have hf := ite_t c6 hf
        refine lv_iload_n hx hb dX1_owner_32 rfl (lv_at hl 1 rfl) ?_
        refine lv_iconst (v := 1) hx hb dX1_owner_33 (by decide) ?_
        refine lv_iadd hx hb dX1_owner_34 ?_
        obtain ⟨x7, ex7, hf⟩ := nm_s hf
        refine lv_tpx ex7 ?_
        refine lv_istore (lv' := [(4, .int x7), (0, .ref a_Basses), (3, .int l3)]) hx hb dX1_owner_35 hl (by decide) rfl (fun ls hl => ?_)
        exact hL37 fu l3 x7 H locs ls hP hD hS (lv_sub hl [1, 2, 0] rfl) hf
      · have hf := ite_f c6 hf
        refine lv_aload_n hx hb dX1_owner_14 rfl (lv_at hl 0 rfl) ?_
        refine lv_iload hx hb dX1_owner_15 (lv_at hl 2 rfl) ?_
        obtain ⟨r8, g9, hf⟩ := b1_s hf
        refine k_Vi (rest := []) ⟨hx, hb, hml, hown, hts⟩ (c_Basses_isThere l D cI cZ t a_Basses a_Line a_Rules a_Basses_latestTicks H.size Basses_there l4 r8 g9) (cwV 1 hts gX1_owner_X1_isThere rfl rfl rfl (by decide +kernel) ⟨Nat.le_of_ble_eq_true rfl, Nat.le_of_ble_eq_true rfl⟩) hE hP hD hS hA [0] [] rfl rfl rfl rfl rfl 0 1 rfl rfl rfl rfl hl.1 rfl (Nat.le_of_ble_eq_true rfl) dX1_owner_17 ⟨Nat.le_of_ble_eq_true rfl, Nat.le_of_ble_eq_true rfl⟩ (fun rq uq H locs hrq hP hD hS => ?_)
        refine lv_tpx hrq.symm ?_
        have hP : va_P D vwCl [(a_Basses, .inr (1, [.int Basses_there, .ref a_Line, .ref a_Rules, .ref a_Basses_latestTicks]))] H := hP
        have hD : va_D A [(a_Basses, .inr (1, [.int Basses_there, .ref a_Line, .ref a_Rules, .ref a_Basses_latestTicks]))] := hD
        refine lv_if_eq (tgt := 26) hx hb dX1_owner_20 (by decide) (fun c10 => ?_) (fun c10 => ?_)
        · have hf := ite_t c10 hf
          obtain ⟨x11, ex11, hf⟩ := nm_s hf
          refine lv_iinc (v := x11) (lv' := [(4, .int x11), (0, .ref a_Basses), (3, .int l3)]) hx hb dX1_owner_26 hl (k := 2) rfl (by rw [ex11]; rfl) (by decide) rfl (fun ls hl => ?_)
          refine lv_goto (tgt := 9) hx hb dX1_owner_29 (by decide) ?_
          exact ih9 l3 x11 H locs ls hP hD hS (lv_sub hl [1, 2, 0] rfl) hf
        · have hf := ite_f c10 hf
          refine lv_iload hx hb dX1_owner_23 (lv_at hl 2 rfl) ?_
          cases hf
          exact k_iret () hQ9 hx hb hr hlocks rfl hP hD hS (Nat.le_of_ble_eq_true rfl) (Nat.le_of_ble_eq_true rfl) dX1_owner_25
  unfold f_Basses_owner at hf
  refine lv_iload_n hx hb dX1_owner_0 rfl (lv_at hl 1 rfl) ?_
  refine lv_iload_n hx hb dX1_owner_1 rfl (lv_at hl 2 rfl) ?_
  obtain ⟨r12, g13, hf⟩ := b1_s hf
  refine k_Si (rest := []) ⟨hx, hb, hml, hown, hts⟩ (c_Basses_written l D cI cZ t  s.heap.size p1 p2 r12 g13) (va_cwS 2 hts gX1_owner_X1_written rfl rfl rfl (by decide +kernel) ⟨Nat.le_of_ble_eq_true rfl, Nat.le_of_ble_eq_true rfl⟩) hE hP hD hS hA [] [0] rfl rfl rfl rfl rfl rfl hl.1 rfl (Nat.le_of_ble_eq_true rfl) dX1_owner_2 ⟨Nat.le_of_ble_eq_true rfl, Nat.le_of_ble_eq_true rfl⟩ (fun rq uq H locs hrq hP hD hS => ?_)
  refine lv_tpx hrq.symm ?_
  have hP : va_P D vwCl [(a_Basses, .inr (1, [.int Basses_there, .ref a_Line, .ref a_Rules, .ref a_Basses_latestTicks]))] H := hP
  have hD : va_D A [(a_Basses, .inr (1, [.int Basses_there, .ref a_Line, .ref a_Rules, .ref a_Basses_latestTicks]))] := hD
  refine lv_istore_n (lv' := [(3, .int r12), (0, .ref a_Basses), (1, .int p1), (2, .int p2)]) hx hb dX1_owner_5 rfl hl (by decide) rfl (fun ls hl => ?_)
  refine lv_iload_n hx hb dX1_owner_6 rfl (lv_at hl 0 rfl) ?_
  refine lv_istore (lv' := [(4, .int r12), (3, .int r12), (0, .ref a_Basses), (1, .int p1), (2, .int p2)]) hx hb dX1_owner_7 hl (by decide) rfl (fun ls hl => ?_)
  exact hL9 fu r12 r12 H locs ls hP hD hS (lv_sub hl [2, 1, 0] rfl) hf
abbrev rm_Tapes_latestTick : Room := { frames := 1, cells := 0, slots := 0, locals := 22 }
set_option maxHeartbeats 4000000 in
set_option maxRecDepth 100000 in
theorem c_Tapes_latestTick (l : Launch) (D : va_G) (cI cZ : ClassId) (t : Nat → Nat) (a_Tapes a_Tapes_counts a_Tapes_hits sz : Nat) (Tapes_counts Tapes_hits : Nat → Int32) (p1 zr : Int32) (hf : f_Tapes_latestTick Tapes_counts Tapes_hits p1 = some zr) : Met l yX9_latestTick wsX9_latestTick rm_Tapes_latestTick (va_Pc [.ref a_Tapes, .int p1] (pcW D cI cZ t [(a_Tapes, .inr (9, [.ref a_Tapes_counts, .ref a_Tapes_hits])), (a_Tapes_counts, .inl (cI, 4, .inl Tapes_counts)), (a_Tapes_hits, .inl (cI, 96, .inl Tapes_hits))] sz)) (va_Qi (fun r (u : Unit) => r = zr) (fun u t' => bW D (va_A [(a_Tapes, .inr (9, [.ref a_Tapes_counts, .ref a_Tapes_hits])), (a_Tapes_counts, .inl (cI, 4, .inl Tapes_counts)), (a_Tapes_hits, .inl (cI, 96, .inl Tapes_hits))] sz) [(a_Tapes, .inr (9, [.ref a_Tapes_counts, .ref a_Tapes_hits])), (a_Tapes_counts, .inl (cI, 4, .inl Tapes_counts)), (a_Tapes_hits, .inl (cI, 96, .inl Tapes_hits))] t') (va_A [(a_Tapes, .inr (9, [.ref a_Tapes_counts, .ref a_Tapes_hits])), (a_Tapes_counts, .inl (cI, 4, .inl Tapes_counts)), (a_Tapes_hits, .inl (cI, 96, .inl Tapes_hits))] sz)) 0 0 (va_A [(a_Tapes, .inr (9, [.ref a_Tapes_counts, .ref a_Tapes_hits])), (a_Tapes_counts, .inl (cI, 4, .inl Tapes_counts)), (a_Tapes_hits, .inl (cI, 96, .inl Tapes_hits))] sz) := by
  refine Met.ofW (cc := cX9_latestTick) (maxL := 2) (ret := (some .int)) (by decide) rfl ?_
  intro p e s m args below meth c s₁ B hml hv
  obtain ⟨rfl, hsz, hP, hD0, hE⟩ := hv
  have hx := B.exec
  have hb := B.bytes
  have hr := B.returns
  have hts := atoms_spec (ws := wsX9_latestTick) B.pre
  have hown : s.vm.findClass RX9 = some m.cls := findClass_of_methodNamed B.named
  have hlocks := B.notSynchronized
  subst hsz
  have hD := hD0.self (sz := s.heap.size)
  generalize hAe : va_A [(a_Tapes, .inr (9, [.ref a_Tapes_counts, .ref a_Tapes_hits])), (a_Tapes_counts, .inl (cI, 4, .inl Tapes_counts)), (a_Tapes_hits, .inl (cI, 96, .inl Tapes_hits))] s.heap.size = A at hD hE ⊢
  have hA : ∀ q : Nat, s.heap.size ≤ q → A q := fun q h => by rw [← hAe]; exact Or.inr h
  clear hAe hD0
  have hS : va_S A s.heap s.heap [] := va_S.rf
  have hK := hE.1
  have hl := lv_entry ([.ref a_Tapes, .int p1]) (n := 2) (Nat.le_of_ble_eq_true rfl)
  rw [lg_entry_eq]
  generalize (lg_sl ([.ref a_Tapes, .int p1]) ++ List.replicate (2 - (lg_sl ([.ref a_Tapes, .int p1])).length) Slot.unset).toArray = ls at hl ⊢
  have hl : lv_has ls 2 [(0, .ref a_Tapes), (1, .int p1)] := hl
  refine w_q (fun Q9 hQ9 => ?_)
  have fl9 := hts (.fieldLink RX9 9 "StickRoom$Tapes" "counts" "[I") (by decide +kernel)
  have inX9 : ∀ w ∈ wsX90, w ∈ wsX9_latestTick := by decide +kernel
  unfold f_Tapes_latestTick at hf
  refine lv_aload_n hx hb dX9_latestTick_0 rfl (lv_at hl 0 rfl) ?_
  refine va_get (D := D) (ci := 9) (v := .ref a_Tapes_counts) (C := RX9) (T := TX9) (N := 2) hx hb hts inX9 hown hK hP 0 rfl rfl 0 (by decide) fl9 (fun _ h9 => h9) rfl dX9_latestTick_1 ?_
  refine lv_iload_n hx hb dX9_latestTick_4 rfl (lv_at hl 1 rfl) ?_
  obtain ⟨ix1, x1, ex1, hf⟩ := rd_s hf
  refine va_iald hx hb hK hP 1 0 rfl rfl ix1 dX9_latestTick_5 ?_
  refine lv_tpx ex1 ?_
  refine lv_if_ne (tgt := 13) hx hb dX9_latestTick_6 (by decide) (fun c2 => ?_) (fun c2 => ?_)
  · have hf := ite_f c2 hf
    refine lv_aload_n hx hb dX9_latestTick_13 rfl (lv_at hl 0 rfl) ?_
    refine lv_iload_n hx hb dX9_latestTick_14 rfl (lv_at hl 1 rfl) ?_
    refine lv_aload_n hx hb dX9_latestTick_15 rfl (lv_at hl 0 rfl) ?_
    refine va_get (D := D) (ci := 9) (v := .ref a_Tapes_counts) (C := RX9) (T := TX9) (N := 2) hx hb hts inX9 hown hK hP 0 rfl rfl 0 (by decide) fl9 (fun _ h9 => h9) rfl dX9_latestTick_16 ?_
    refine lv_iload_n hx hb dX9_latestTick_19 rfl (lv_at hl 1 rfl) ?_
    obtain ⟨ix3, x3, ex3, hf⟩ := rd_s hf
    refine va_iald hx hb hK hP 1 0 rfl rfl ix3 dX9_latestTick_20 ?_
    refine lv_tpx ex3 ?_
    refine lv_iconst (v := 1) hx hb dX9_latestTick_21 (by decide) ?_
    refine lv_isub hx hb dX9_latestTick_22 ?_
    obtain ⟨r4, g5, hf⟩ := b1_s hf
    refine k_Vi (rest := []) ⟨hx, hb, hml, hown, hts⟩ (c_Tapes_tickAt l D cI cZ t a_Tapes a_Tapes_counts a_Tapes_hits s.heap.size Tapes_hits p1 (x3 - 1) r4 g5) (cwV 2 hts gX9_latestTick_X9_tickAt rfl rfl rfl (by decide +kernel) ⟨Nat.le_of_ble_eq_true rfl, Nat.le_of_ble_eq_true rfl⟩) hE hP hD hS hA [0, 2] [1] rfl rfl rfl rfl rfl 0 9 rfl rfl rfl rfl hl.1 rfl (Nat.le_of_ble_eq_true rfl) dX9_latestTick_23 ⟨Nat.le_of_ble_eq_true rfl, Nat.le_of_ble_eq_true rfl⟩ (fun rq uq H locs hrq hP hD hS => ?_)
    refine lv_tpx hrq.symm ?_
    have hP : va_P D vwCl [(a_Tapes_counts, .inl (cI, 4, .inl Tapes_counts)), (a_Tapes, .inr (9, [.ref a_Tapes_counts, .ref a_Tapes_hits])), (a_Tapes_hits, .inl (cI, 96, .inl Tapes_hits))] H := hP
    have hD : va_D A [(a_Tapes_counts, .inl (cI, 4, .inl Tapes_counts)), (a_Tapes, .inr (9, [.ref a_Tapes_counts, .ref a_Tapes_hits])), (a_Tapes_hits, .inl (cI, 96, .inl Tapes_hits))] := hD
    cases hf
    exact k_iret () hQ9 hx hb hr hlocks rfl (hP.sub [1, 0, 2] rfl) (hD.sub [1, 0, 2] (by decide) rfl) hS (Nat.le_of_ble_eq_true rfl) (Nat.le_of_ble_eq_true rfl) dX9_latestTick_26
  · have hf := ite_t c2 hf
    refine lv_iconst (v := (-1)) hx hb dX9_latestTick_9 (by decide) ?_
    refine lv_goto (tgt := 26) hx hb dX9_latestTick_10 (by decide) ?_
    cases hf
    exact k_iret () hQ9 hx hb hr hlocks rfl hP hD hS (Nat.le_of_ble_eq_true rfl) (Nat.le_of_ble_eq_true rfl) dX9_latestTick_26
abbrev rm_Basses_notesOf : Room := { frames := 2, cells := 0, slots := 0, locals := 45 }
set_option maxHeartbeats 4000000 in
set_option maxRecDepth 100000 in
theorem c_Basses_notesOf (l : Launch) (D : va_G) (cI cZ : ClassId) (t : Nat → Nat) (a_Basses a_Line a_Rules a_Basses_latestTicks sz : Nat) (Basses_there p1 p2 p3 p4 zr : Int32) (hf : f_Basses_notesOf Basses_there p1 p2 p3 p4 = some zr) : Met l yX1_notesOf wsX1_notesOf rm_Basses_notesOf (va_Pc [.ref a_Basses, .int p1, .int p2, .int p3, .int p4] (pcW D cI cZ t [(a_Basses, .inr (1, [.int Basses_there, .ref a_Line, .ref a_Rules, .ref a_Basses_latestTicks]))] sz)) (va_Qi (fun r (u : Unit) => r = zr) (fun u t' => bW D (va_A [(a_Basses, .inr (1, [.int Basses_there, .ref a_Line, .ref a_Rules, .ref a_Basses_latestTicks]))] sz) [(a_Basses, .inr (1, [.int Basses_there, .ref a_Line, .ref a_Rules, .ref a_Basses_latestTicks]))] t') (va_A [(a_Basses, .inr (1, [.int Basses_there, .ref a_Line, .ref a_Rules, .ref a_Basses_latestTicks]))] sz)) 0 0 (va_A [(a_Basses, .inr (1, [.int Basses_there, .ref a_Line, .ref a_Rules, .ref a_Basses_latestTicks]))] sz) := by
  refine Met.ofW (cc := cX1_notesOf) (maxL := 7) (ret := (some .int)) (by decide) rfl ?_
  intro p e s m args below meth c s₁ B hml hv
  obtain ⟨rfl, hsz, hP, hD0, hE⟩ := hv
  have hx := B.exec
  have hb := B.bytes
  have hr := B.returns
  have hts := atoms_spec (ws := wsX1_notesOf) B.pre
  have hown : s.vm.findClass RX1 = some m.cls := findClass_of_methodNamed B.named
  have hlocks := B.notSynchronized
  subst hsz
  have hD := hD0.self (sz := s.heap.size)
  generalize hAe : va_A [(a_Basses, .inr (1, [.int Basses_there, .ref a_Line, .ref a_Rules, .ref a_Basses_latestTicks]))] s.heap.size = A at hD hE ⊢
  have hA : ∀ q : Nat, s.heap.size ≤ q → A q := fun q h => by rw [← hAe]; exact Or.inr h
  clear hAe hD0
  have hS : va_S A s.heap s.heap [] := va_S.rf
  have hK := hE.1
  have hl := lv_entry ([.ref a_Basses, .int p1, .int p2, .int p3, .int p4]) (n := 7) (Nat.le_of_ble_eq_true rfl)
  rw [lg_entry_eq]
  generalize (lg_sl ([.ref a_Basses, .int p1, .int p2, .int p3, .int p4]) ++ List.replicate (7 - (lg_sl ([.ref a_Basses, .int p1, .int p2, .int p3, .int p4])).length) Slot.unset).toArray = ls at hl ⊢
  have hl : lv_has ls 7 [(0, .ref a_Basses), (1, .int p1), (2, .int p2), (3, .int p3), (4, .int p4)] := hl
  refine w_q (fun Q9 hQ9 => ?_)
  have hL6 : ∀ (n6 : Nat) (l1 l2 l3 l4 l5 l6 : Int32) (H : Heap) (locs : List Loc) (ls : Array Slot), va_P D vwCl [(a_Basses, .inr (1, [.int Basses_there, .ref a_Line, .ref a_Rules, .ref a_Basses_latestTicks]))] H → va_D A [(a_Basses, .inr (1, [.int Basses_there, .ref a_Line, .ref a_Rules, .ref a_Basses_latestTicks]))] → va_S A s.heap H locs → lv_has ls 7 [(0, .ref a_Basses), (1, .int l1), (2, .int l2), (3, .int l3), (4, .int l4), (5, .int l5), (6, .int l6)] → f_Basses_notesOf_6 Basses_there  n6 l1 l2 l3 l4 l5 l6 = some zr → W p l e (headSpec wsX1_notesOf rm_Basses_notesOf).room s m ([.ref a_Basses, .int p1, .int p2, .int p3, .int p4] : List Value).toArray below meth c H locs 0 0 Q9 (F0 m 6 ls []) := by
    intro n6
    induction n6 with
    | zero => intro l1 l2 l3 l4 l5 l6 H locs ls hP hD hS hl hf; exact nomatch (show none = some zr from hf)
    | succ n6 ih6 =>
      intro l1 l2 l3 l4 l5 l6 H locs ls hP hD hS hl hf
      have hf : f_Basses_notesOf_6_b Basses_there  (f_Basses_notesOf_6 Basses_there  n6) l1 l2 l3 l4 l5 l6 = some zr := hf
      unfold f_Basses_notesOf_6_b at hf
      refine lv_iload hx hb dX1_notesOf_6 (lv_at hl 6 rfl) ?_
      refine lv_iload_n hx hb dX1_notesOf_8 rfl (lv_at hl 3 rfl) ?_
      refine lv_icmp_gt (tgt := 35) hx hb dX1_notesOf_9 (by decide) (fun c1 => ?_) (fun c1 => ?_)
      · have hf := ite_t c1 hf
        refine lv_iload hx hb dX1_notesOf_35 (lv_at hl 5 rfl) ?_
        cases hf
        exact k_iret () hQ9 hx hb hr hlocks rfl hP hD hS (Nat.le_of_ble_eq_true rfl) (Nat.le_of_ble_eq_true rfl) dX1_notesOf_37
      · have hf := ite_f c1 hf
        refine lv_aload_n hx hb dX1_notesOf_12 rfl (lv_at hl 0 rfl) ?_
        refine lv_iload hx hb dX1_notesOf_13 (lv_at hl 4 rfl) ?_
        refine lv_iload hx hb dX1_notesOf_15 (lv_at hl 6 rfl) ?_
        refine lv_iload_n hx hb dX1_notesOf_17 rfl (lv_at hl 2 rfl) ?_
        refine lv_isub hx hb dX1_notesOf_18 ?_
        obtain ⟨r2, g3, hf⟩ := b1_s hf
        refine k_Vi (rest := []) ⟨hx, hb, hml, hown, hts⟩ (c_Basses_owner l D cI cZ t a_Basses a_Line a_Rules a_Basses_latestTicks H.size Basses_there l4 (l6 - l2) r2 g3) (cwV 2 hts gX1_notesOf_X1_owner rfl rfl rfl (by decide +kernel) ⟨Nat.le_of_ble_eq_true rfl, Nat.le_of_ble_eq_true rfl⟩) hE hP hD hS hA [0] [] rfl rfl rfl rfl rfl 0 1 rfl rfl rfl rfl hl.1 rfl (Nat.le_of_ble_eq_true rfl) dX1_notesOf_19 ⟨Nat.le_of_ble_eq_true rfl, Nat.le_of_ble_eq_true rfl⟩ (fun rq uq H locs hrq hP hD hS => ?_)
        refine lv_tpx hrq.symm ?_
        have hP : va_P D vwCl [(a_Basses, .inr (1, [.int Basses_there, .ref a_Line, .ref a_Rules, .ref a_Basses_latestTicks]))] H := hP
        have hD : va_D A [(a_Basses, .inr (1, [.int Basses_there, .ref a_Line, .ref a_Rules, .ref a_Basses_latestTicks]))] := hD
        refine lv_iload_n hx hb dX1_notesOf_22 rfl (lv_at hl 1 rfl) ?_
        refine lv_icmp_ne (tgt := 29) hx hb dX1_notesOf_23 (by decide) (fun c4 => ?_) (fun c4 => ?_)
        · have hf := ite_f c4 hf
          obtain ⟨x5, ex5, hf⟩ := nm_s hf
          refine lv_iinc (v := x5) (lv' := [(6, .int x5), (0, .ref a_Basses), (1, .int l1), (2, .int l2), (3, .int l3), (4, .int l4), (5, .int l5)]) hx hb dX1_notesOf_29 hl (k := 6) rfl (by rw [ex5]; rfl) (by decide) rfl (fun ls hl => ?_)
          refine lv_goto (tgt := 6) hx hb dX1_notesOf_32 (by decide) ?_
          exact ih6 l1 l2 l3 l4 l5 x5 H locs ls hP hD hS (lv_sub hl [1, 2, 3, 4, 5, 6, 0] rfl) hf
        · have hf := ite_t c4 hf
          obtain ⟨x6, ex6, hf⟩ := nm_s hf
          refine lv_iinc (v := x6) (lv' := [(5, .int x6), (0, .ref a_Basses), (1, .int l1), (2, .int l2), (3, .int l3), (4, .int l4), (6, .int l6)]) hx hb dX1_notesOf_26 hl (k := 5) rfl (by rw [ex6]; rfl) (by decide) rfl (fun ls hl => ?_)
          obtain ⟨x7, ex7, hf⟩ := nm_s hf
          refine lv_iinc (v := x7) (lv' := [(6, .int x7), (5, .int x6), (0, .ref a_Basses), (1, .int l1), (2, .int l2), (3, .int l3), (4, .int l4)]) hx hb dX1_notesOf_29 hl (k := 6) rfl (by rw [ex7]; rfl) (by decide) rfl (fun ls hl => ?_)
          refine lv_goto (tgt := 6) hx hb dX1_notesOf_32 (by decide) ?_
          exact ih6 l1 l2 l3 l4 x6 x7 H locs ls hP hD hS (lv_sub hl [2, 3, 4, 5, 6, 1, 0] rfl) hf
  unfold f_Basses_notesOf at hf
  refine lv_iconst (v := 0) hx hb dX1_notesOf_0 (by decide) ?_
  refine lv_istore (lv' := [(5, .int 0), (0, .ref a_Basses), (1, .int p1), (2, .int p2), (3, .int p3), (4, .int p4)]) hx hb dX1_notesOf_1 hl (by decide) rfl (fun ls hl => ?_)
  refine lv_iload_n hx hb dX1_notesOf_3 rfl (lv_at hl 3 rfl) ?_
  refine lv_istore (lv' := [(6, .int p2), (5, .int 0), (0, .ref a_Basses), (1, .int p1), (2, .int p2), (3, .int p3), (4, .int p4)]) hx hb dX1_notesOf_4 hl (by decide) rfl (fun ls hl => ?_)
  exact hL6 fu p1 p2 p3 p4 0 p2 s.heap [] ls hP hD hS (lv_sub hl [2, 3, 4, 5, 6, 1, 0] rfl) hf
abbrev rm_Basses_tooFast : Room := { frames := 2, cells := 0, slots := 0, locals := 45 }
set_option maxHeartbeats 4000000 in
set_option maxRecDepth 100000 in
theorem c_Basses_tooFast (l : Launch) (D : va_G) (cI cZ : ClassId) (t : Nat → Nat) (a_Line a_Line_kinds a_Line_ticks a_Line_drums a_Line_marks a_Line_strokeTicks a_Line_strokeHeights a_Rules a_Rules_values a_Basses a_Basses_latestTicks sz : Nat) (Line_ticks Rules_values : Nat → Int32) (Basses_there : Int32) (Basses_latestTicks : Nat → Int32) (Line_count p1 p2 p3 zr : Int32) (z_Basses_latestTicks : Nat → Int32) (hf : f_Basses_tooFast Line_ticks Rules_values Basses_there Basses_latestTicks p1 p2 p3 = some (zr, z_Basses_latestTicks)) : Met l yX1_tooFast wsX1_tooFast rm_Basses_tooFast (va_Pc [.ref a_Basses, .int p1, .int p2, .int p3] (pcW D cI cZ t [(a_Line, .inr (4, [.ref a_Line_kinds, .ref a_Line_ticks, .ref a_Line_drums, .ref a_Line_marks, .ref a_Line_strokeTicks, .ref a_Line_strokeHeights, .int Line_count])), (a_Line_ticks, .inl (cI, 20, .inl Line_ticks)), (a_Rules, .inr (7, [.ref a_Rules_values])), (a_Rules_values, .inl (cI, 5, .inl Rules_values)), (a_Basses, .inr (1, [.int Basses_there, .ref a_Line, .ref a_Rules, .ref a_Basses_latestTicks])), (a_Basses_latestTicks, .inl (cI, 5, .inl Basses_latestTicks))] sz)) (va_Qi (fun r (u : Unit) => r = zr) (fun u t' => bW D (va_A [(a_Line, .inr (4, [.ref a_Line_kinds, .ref a_Line_ticks, .ref a_Line_drums, .ref a_Line_marks, .ref a_Line_strokeTicks, .ref a_Line_strokeHeights, .int Line_count])), (a_Line_ticks, .inl (cI, 20, .inl Line_ticks)), (a_Rules, .inr (7, [.ref a_Rules_values])), (a_Rules_values, .inl (cI, 5, .inl Rules_values)), (a_Basses, .inr (1, [.int Basses_there, .ref a_Line, .ref a_Rules, .ref a_Basses_latestTicks])), (a_Basses_latestTicks, .inl (cI, 5, .inl Basses_latestTicks))] sz) [(a_Line, .inr (4, [.ref a_Line_kinds, .ref a_Line_ticks, .ref a_Line_drums, .ref a_Line_marks, .ref a_Line_strokeTicks, .ref a_Line_strokeHeights, .int Line_count])), (a_Line_ticks, .inl (cI, 20, .inl Line_ticks)), (a_Rules, .inr (7, [.ref a_Rules_values])), (a_Rules_values, .inl (cI, 5, .inl Rules_values)), (a_Basses, .inr (1, [.int Basses_there, .ref a_Line, .ref a_Rules, .ref a_Basses_latestTicks])), (a_Basses_latestTicks, .inl (cI, 5, .inl z_Basses_latestTicks))] t') (va_A [(a_Line, .inr (4, [.ref a_Line_kinds, .ref a_Line_ticks, .ref a_Line_drums, .ref a_Line_marks, .ref a_Line_strokeTicks, .ref a_Line_strokeHeights, .int Line_count])), (a_Line_ticks, .inl (cI, 20, .inl Line_ticks)), (a_Rules, .inr (7, [.ref a_Rules_values])), (a_Rules_values, .inl (cI, 5, .inl Rules_values)), (a_Basses, .inr (1, [.int Basses_there, .ref a_Line, .ref a_Rules, .ref a_Basses_latestTicks])), (a_Basses_latestTicks, .inl (cI, 5, .inl Basses_latestTicks))] sz)) 0 0 (va_A [(a_Line, .inr (4, [.ref a_Line_kinds, .ref a_Line_ticks, .ref a_Line_drums, .ref a_Line_marks, .ref a_Line_strokeTicks, .ref a_Line_strokeHeights, .int Line_count])), (a_Line_ticks, .inl (cI, 20, .inl Line_ticks)), (a_Rules, .inr (7, [.ref a_Rules_values])), (a_Rules_values, .inl (cI, 5, .inl Rules_values)), (a_Basses, .inr (1, [.int Basses_there, .ref a_Line, .ref a_Rules, .ref a_Basses_latestTicks])), (a_Basses_latestTicks, .inl (cI, 5, .inl Basses_latestTicks))] sz) := by
  refine Met.ofW (cc := cX1_tooFast) (maxL := 9) (ret := (some .int)) (by decide) rfl ?_
  intro p e s m args below meth c s₁ B hml hv
  obtain ⟨rfl, hsz, hP, hD0, hE⟩ := hv
  have hx := B.exec
  have hb := B.bytes
  have hr := B.returns
  have hts := atoms_spec (ws := wsX1_tooFast) B.pre
  have hown : s.vm.findClass RX1 = some m.cls := findClass_of_methodNamed B.named
  have hlocks := B.notSynchronized
  subst hsz
  have hD := hD0.self (sz := s.heap.size)
  generalize hAe : va_A [(a_Line, .inr (4, [.ref a_Line_kinds, .ref a_Line_ticks, .ref a_Line_drums, .ref a_Line_marks, .ref a_Line_strokeTicks, .ref a_Line_strokeHeights, .int Line_count])), (a_Line_ticks, .inl (cI, 20, .inl Line_ticks)), (a_Rules, .inr (7, [.ref a_Rules_values])), (a_Rules_values, .inl (cI, 5, .inl Rules_values)), (a_Basses, .inr (1, [.int Basses_there, .ref a_Line, .ref a_Rules, .ref a_Basses_latestTicks])), (a_Basses_latestTicks, .inl (cI, 5, .inl Basses_latestTicks))] s.heap.size = A at hD hE ⊢
  have hA : ∀ q : Nat, s.heap.size ≤ q → A q := fun q h => by rw [← hAe]; exact Or.inr h
  clear hAe hD0
  have hS : va_S A s.heap s.heap [] := va_S.rf
  have hK := hE.1
  have hl := lv_entry ([.ref a_Basses, .int p1, .int p2, .int p3]) (n := 9) (Nat.le_of_ble_eq_true rfl)
  rw [lg_entry_eq]
  generalize (lg_sl ([.ref a_Basses, .int p1, .int p2, .int p3]) ++ List.replicate (9 - (lg_sl ([.ref a_Basses, .int p1, .int p2, .int p3])).length) Slot.unset).toArray = ls at hl ⊢
  have hl : lv_has ls 9 [(0, .ref a_Basses), (1, .int p1), (2, .int p2), (3, .int p3)] := hl
  refine w_q (fun Q9 hQ9 => ?_)
  have fl15 := hts (.fieldLink RX1 15 "StickRoom$Basses" "latestTicks" "[I") (by decide +kernel)
  have inX1 : ∀ w ∈ wsX10, w ∈ wsX1_tooFast := by decide +kernel
  have fl19 := hts (.fieldLink RX1 19 "StickRoom$Basses" "line" "LStickRoom$Line;") (by decide +kernel)
  have fl41 := hts (.fieldLink RX1 41 "StickRoom$Line" "ticks" "[I") (by decide +kernel)
  have inX4 : ∀ w ∈ wsX40, w ∈ wsX1_tooFast := by decide +kernel
  have fl23 := hts (.fieldLink RX1 23 "StickRoom$Basses" "rules" "LStickRoom$Rules;") (by decide +kernel)
  have fl46 := hts (.fieldLink RX1 46 "StickRoom$Rules" "values" "[I") (by decide +kernel)
  have inX7 : ∀ w ∈ wsX70, w ∈ wsX1_tooFast := by decide +kernel
  have hL29 : ∀ (n29 : Nat) (l1 l2 l3 l4 l5 : Int32) (Basses_latestTicks : Nat → Int32) (H : Heap) (locs : List Loc) (ls : Array Slot), va_P D vwCl [(a_Line, .inr (4, [.ref a_Line_kinds, .ref a_Line_ticks, .ref a_Line_drums, .ref a_Line_marks, .ref a_Line_strokeTicks, .ref a_Line_strokeHeights, .int Line_count])), (a_Line_ticks, .inl (cI, 20, .inl Line_ticks)), (a_Rules, .inr (7, [.ref a_Rules_values])), (a_Rules_values, .inl (cI, 5, .inl Rules_values)), (a_Basses, .inr (1, [.int Basses_there, .ref a_Line, .ref a_Rules, .ref a_Basses_latestTicks])), (a_Basses_latestTicks, .inl (cI, 5, .inl Basses_latestTicks))] H → va_D A [(a_Line, .inr (4, [.ref a_Line_kinds, .ref a_Line_ticks, .ref a_Line_drums, .ref a_Line_marks, .ref a_Line_strokeTicks, .ref a_Line_strokeHeights, .int Line_count])), (a_Line_ticks, .inl (cI, 20, .inl Line_ticks)), (a_Rules, .inr (7, [.ref a_Rules_values])), (a_Rules_values, .inl (cI, 5, .inl Rules_values)), (a_Basses, .inr (1, [.int Basses_there, .ref a_Line, .ref a_Rules, .ref a_Basses_latestTicks])), (a_Basses_latestTicks, .inl (cI, 5, .inl Basses_latestTicks))] → va_S A s.heap H locs → lv_has ls 9 [(0, .ref a_Basses), (1, .int l1), (2, .int l2), (3, .int l3), (4, .int l4), (5, .int l5)] → f_Basses_tooFast_29 Line_ticks Rules_values Basses_there  n29 l1 l2 l3 l4 l5 Basses_latestTicks = some (zr, z_Basses_latestTicks) → W p l e (headSpec wsX1_tooFast rm_Basses_tooFast).room s m ([.ref a_Basses, .int p1, .int p2, .int p3] : List Value).toArray below meth c H locs 0 0 Q9 (F0 m 29 ls []) := by
    intro n29
    induction n29 with
    | zero => intro l1 l2 l3 l4 l5 Basses_latestTicks H locs ls hP hD hS hl hf; exact nomatch (show none = some (zr, z_Basses_latestTicks) from hf)
    | succ n29 ih29 =>
      have hJ95 : ∀ (l1 l2 l3 l4 l5 l6 l7 : Int32) (Basses_latestTicks : Nat → Int32) (H : Heap) (locs : List Loc) (ls : Array Slot), va_P D vwCl [(a_Line, .inr (4, [.ref a_Line_kinds, .ref a_Line_ticks, .ref a_Line_drums, .ref a_Line_marks, .ref a_Line_strokeTicks, .ref a_Line_strokeHeights, .int Line_count])), (a_Line_ticks, .inl (cI, 20, .inl Line_ticks)), (a_Rules, .inr (7, [.ref a_Rules_values])), (a_Rules_values, .inl (cI, 5, .inl Rules_values)), (a_Basses, .inr (1, [.int Basses_there, .ref a_Line, .ref a_Rules, .ref a_Basses_latestTicks])), (a_Basses_latestTicks, .inl (cI, 5, .inl Basses_latestTicks))] H → va_D A [(a_Line, .inr (4, [.ref a_Line_kinds, .ref a_Line_ticks, .ref a_Line_drums, .ref a_Line_marks, .ref a_Line_strokeTicks, .ref a_Line_strokeHeights, .int Line_count])), (a_Line_ticks, .inl (cI, 20, .inl Line_ticks)), (a_Rules, .inr (7, [.ref a_Rules_values])), (a_Rules_values, .inl (cI, 5, .inl Rules_values)), (a_Basses, .inr (1, [.int Basses_there, .ref a_Line, .ref a_Rules, .ref a_Basses_latestTicks])), (a_Basses_latestTicks, .inl (cI, 5, .inl Basses_latestTicks))] → va_S A s.heap H locs → lv_has ls 9 [(0, .ref a_Basses), (1, .int l1), (2, .int l2), (3, .int l3), (4, .int l4), (5, .int l5), (6, .int l6), (7, .int l7)] → f_Basses_tooFast_95 Line_ticks Rules_values Basses_there (f_Basses_tooFast_29 Line_ticks Rules_values Basses_there  n29) l1 l2 l3 l4 l5 l6 l7 Basses_latestTicks = some (zr, z_Basses_latestTicks) → W p l e (headSpec wsX1_tooFast rm_Basses_tooFast).room s m ([.ref a_Basses, .int p1, .int p2, .int p3] : List Value).toArray below meth c H locs 0 0 Q9 (F0 m 95 ls []) := by
        intro l1 l2 l3 l4 l5 l6 l7 Basses_latestTicks H locs ls hP hD hS hl hf
        unfold f_Basses_tooFast_95 at hf
        refine lv_aload_n hx hb dX1_tooFast_95 rfl (lv_at hl 0 rfl) ?_
        refine va_get (D := D) (ci := 1) (v := .ref a_Basses_latestTicks) (C := RX1) (T := TX1) (N := 4) hx hb hts inX1 hown hK hP 4 rfl rfl 3 (by decide) fl15 (fun _ h9 => h9) rfl dX1_tooFast_96 ?_
        refine lv_iload hx hb dX1_tooFast_99 (lv_at hl 6 rfl) ?_
        refine lv_iload hx hb dX1_tooFast_101 (lv_at hl 7 rfl) ?_
        obtain ⟨i1, hf⟩ := ck_s hf
        refine va_iast hx hb hK hP hD hS 5 0 rfl rfl i1 dX1_tooFast_103 (fun H locs hP hD hS => ?_)
        have hP : va_P D vwCl [(a_Line, .inr (4, [.ref a_Line_kinds, .ref a_Line_ticks, .ref a_Line_drums, .ref a_Line_marks, .ref a_Line_strokeTicks, .ref a_Line_strokeHeights, .int Line_count])), (a_Line_ticks, .inl (cI, 20, .inl Line_ticks)), (a_Rules, .inr (7, [.ref a_Rules_values])), (a_Rules_values, .inl (cI, 5, .inl Rules_values)), (a_Basses, .inr (1, [.int Basses_there, .ref a_Line, .ref a_Rules, .ref a_Basses_latestTicks])), (a_Basses_latestTicks, .inl (cI, 5, .inl (upd Basses_latestTicks l6.toNatClampNeg l7)))] H := hP
        have hD : va_D A [(a_Line, .inr (4, [.ref a_Line_kinds, .ref a_Line_ticks, .ref a_Line_drums, .ref a_Line_marks, .ref a_Line_strokeTicks, .ref a_Line_strokeHeights, .int Line_count])), (a_Line_ticks, .inl (cI, 20, .inl Line_ticks)), (a_Rules, .inr (7, [.ref a_Rules_values])), (a_Rules_values, .inl (cI, 5, .inl Rules_values)), (a_Basses, .inr (1, [.int Basses_there, .ref a_Line, .ref a_Rules, .ref a_Basses_latestTicks])), (a_Basses_latestTicks, .inl (cI, 5, .inl (upd Basses_latestTicks l6.toNatClampNeg l7)))] := hD
        obtain ⟨x2, ex2, hf⟩ := nm_s hf
        refine lv_iinc (v := x2) (lv' := [(5, .int x2), (0, .ref a_Basses), (1, .int l1), (2, .int l2), (3, .int l3), (4, .int l4), (6, .int l6), (7, .int l7)]) hx hb dX1_tooFast_104 hl (k := 5) rfl (by rw [ex2]; rfl) (by decide) rfl (fun ls hl => ?_)
        refine lv_goto (tgt := 29) hx hb dX1_tooFast_107 (by decide) ?_
        exact ih29 l1 l2 l3 l4 x2 (upd Basses_latestTicks l6.toNatClampNeg l7) H locs ls hP hD hS (lv_sub hl [1, 2, 3, 4, 5, 0] rfl) hf
      intro l1 l2 l3 l4 l5 Basses_latestTicks H locs ls hP hD hS hl hf
      have hf : f_Basses_tooFast_29_b Line_ticks Rules_values Basses_there  (f_Basses_tooFast_29 Line_ticks Rules_values Basses_there  n29) l1 l2 l3 l4 l5 Basses_latestTicks = some (zr, z_Basses_latestTicks) := hf
      unfold f_Basses_tooFast_29_b at hf
      refine lv_iload hx hb dX1_tooFast_29 (lv_at hl 5 rfl) ?_
      refine lv_iload_n hx hb dX1_tooFast_31 rfl (lv_at hl 2 rfl) ?_
      refine lv_icmp_gt (tgt := 110) hx hb dX1_tooFast_32 (by decide) (fun c3 => ?_) (fun c3 => ?_)
      · have hf := ite_t c3 hf
        refine lv_iload hx hb dX1_tooFast_110 (lv_at hl 4 rfl) ?_
        cases hf
        exact k_iret () hQ9 hx hb hr hlocks rfl hP hD hS (Nat.le_of_ble_eq_true rfl) (Nat.le_of_ble_eq_true rfl) dX1_tooFast_112
      · have hf := ite_f c3 hf
        refine lv_aload_n hx hb dX1_tooFast_35 rfl (lv_at hl 0 rfl) ?_
        refine lv_iload_n hx hb dX1_tooFast_36 rfl (lv_at hl 3 rfl) ?_
        refine lv_iload hx hb dX1_tooFast_37 (lv_at hl 5 rfl) ?_
        refine lv_iload_n hx hb dX1_tooFast_39 rfl (lv_at hl 1 rfl) ?_
        refine lv_isub hx hb dX1_tooFast_40 ?_
        obtain ⟨r4, g5, hf⟩ := b1_s hf
        refine k_Vi (rest := []) ⟨hx, hb, hml, hown, hts⟩ (c_Basses_owner l D cI cZ t a_Basses a_Line a_Rules a_Basses_latestTicks H.size Basses_there l3 (l5 - l1) r4 g5) (cwV 2 hts gX1_tooFast_X1_owner rfl rfl rfl (by decide +kernel) ⟨Nat.le_of_ble_eq_true rfl, Nat.le_of_ble_eq_true rfl⟩) hE hP hD hS hA [4] [0, 1, 2, 3, 5] rfl rfl rfl rfl rfl 0 1 rfl rfl rfl rfl hl.1 rfl (Nat.le_of_ble_eq_true rfl) dX1_tooFast_41 ⟨Nat.le_of_ble_eq_true rfl, Nat.le_of_ble_eq_true rfl⟩ (fun rq uq H locs hrq hP hD hS => ?_)
        refine lv_tpx hrq.symm ?_
        have hP : va_P D vwCl [(a_Line, .inr (4, [.ref a_Line_kinds, .ref a_Line_ticks, .ref a_Line_drums, .ref a_Line_marks, .ref a_Line_strokeTicks, .ref a_Line_strokeHeights, .int Line_count])), (a_Line_ticks, .inl (cI, 20, .inl Line_ticks)), (a_Rules, .inr (7, [.ref a_Rules_values])), (a_Rules_values, .inl (cI, 5, .inl Rules_values)), (a_Basses_latestTicks, .inl (cI, 5, .inl Basses_latestTicks)), (a_Basses, .inr (1, [.int Basses_there, .ref a_Line, .ref a_Rules, .ref a_Basses_latestTicks]))] H := hP
        have hD : va_D A [(a_Line, .inr (4, [.ref a_Line_kinds, .ref a_Line_ticks, .ref a_Line_drums, .ref a_Line_marks, .ref a_Line_strokeTicks, .ref a_Line_strokeHeights, .int Line_count])), (a_Line_ticks, .inl (cI, 20, .inl Line_ticks)), (a_Rules, .inr (7, [.ref a_Rules_values])), (a_Rules_values, .inl (cI, 5, .inl Rules_values)), (a_Basses_latestTicks, .inl (cI, 5, .inl Basses_latestTicks)), (a_Basses, .inr (1, [.int Basses_there, .ref a_Line, .ref a_Rules, .ref a_Basses_latestTicks]))] := hD
        refine lv_istore (lv' := [(6, .int r4), (0, .ref a_Basses), (1, .int l1), (2, .int l2), (3, .int l3), (4, .int l4), (5, .int l5)]) hx hb dX1_tooFast_44 hl (by decide) rfl (fun ls hl => ?_)
        refine lv_aload_n hx hb dX1_tooFast_46 rfl (lv_at hl 1 rfl) ?_
        refine va_get (D := D) (ci := 1) (v := .ref a_Line) (C := RX1) (T := TX1) (N := 4) hx hb hts inX1 hown hK hP 5 rfl rfl 1 (by decide) fl19 (fun _ h9 => h9) rfl dX1_tooFast_47 ?_
        refine va_get (D := D) (ci := 4) (v := .ref a_Line_ticks) (C := RX4) (T := TX4) (N := 7) hx hb hts inX4 hown hK hP 0 rfl rfl 1 (by decide) fl41 (fun _ h9 => h9) rfl dX1_tooFast_50 ?_
        refine lv_iload hx hb dX1_tooFast_53 (lv_at hl 6 rfl) ?_
        obtain ⟨ix6, x6, ex6, hf⟩ := rd_s hf
        refine va_iald hx hb hK hP 1 0 rfl rfl ix6 dX1_tooFast_55 ?_
        refine lv_tpx ex6 ?_
        refine lv_istore (lv' := [(7, .int x6), (6, .int r4), (0, .ref a_Basses), (1, .int l1), (2, .int l2), (3, .int l3), (4, .int l4), (5, .int l5)]) hx hb dX1_tooFast_56 hl (by decide) rfl (fun ls hl => ?_)
        refine lv_aload_n hx hb dX1_tooFast_58 rfl (lv_at hl 2 rfl) ?_
        refine va_get (D := D) (ci := 1) (v := .ref a_Basses_latestTicks) (C := RX1) (T := TX1) (N := 4) hx hb hts inX1 hown hK hP 5 rfl rfl 3 (by decide) fl15 (fun _ h9 => h9) rfl dX1_tooFast_59 ?_
        refine lv_iload hx hb dX1_tooFast_62 (lv_at hl 1 rfl) ?_
        obtain ⟨ix7, x7, ex7, hf⟩ := rd_s hf
        refine va_iald hx hb hK hP 4 0 rfl rfl ix7 dX1_tooFast_64 ?_
        refine lv_tpx ex7 ?_
        refine lv_istore (lv' := [(8, .int x7), (7, .int x6), (6, .int r4), (0, .ref a_Basses), (1, .int l1), (2, .int l2), (3, .int l3), (4, .int l4), (5, .int l5)]) hx hb dX1_tooFast_65 hl (by decide) rfl (fun ls hl => ?_)
        refine lv_iload hx hb dX1_tooFast_67 (lv_at hl 0 rfl) ?_
        refine lv_iconst (v := (-1)) hx hb dX1_tooFast_69 (by decide) ?_
        refine lv_icmp_eq (tgt := 95) hx hb dX1_tooFast_70 (by decide) (fun c8 => ?_) (fun c8 => ?_)
        · have hf := ite_t c8 hf
          exact hJ95 l1 l2 l3 l4 l5 r4 x6 Basses_latestTicks H locs ls (hP.sub [0, 1, 2, 3, 5, 4] rfl) (hD.sub [0, 1, 2, 3, 5, 4] (by decide) rfl) hS (lv_sub hl [3, 4, 5, 6, 7, 8, 2, 1] rfl) hf
        · have hf := ite_f c8 hf
          refine lv_iload hx hb dX1_tooFast_73 (lv_at hl 1 rfl) ?_
          refine lv_iload hx hb dX1_tooFast_75 (lv_at hl 0 rfl) ?_
          refine lv_isub hx hb dX1_tooFast_77 ?_
          refine lv_iconst (v := 2) hx hb dX1_tooFast_78 (by decide) ?_
          refine lv_aload_n hx hb dX1_tooFast_79 rfl (lv_at hl 3 rfl) ?_
          refine va_get (D := D) (ci := 1) (v := .ref a_Rules) (C := RX1) (T := TX1) (N := 4) hx hb hts inX1 hown hK hP 5 rfl rfl 2 (by decide) fl23 (fun _ h9 => h9) rfl dX1_tooFast_80 ?_
          refine va_get (D := D) (ci := 7) (v := .ref a_Rules_values) (C := RX7) (T := TX7) (N := 1) hx hb hts inX7 hown hK hP 2 rfl rfl 0 (by decide) fl46 (fun _ h9 => h9) rfl dX1_tooFast_83 ?_
          refine lv_iconst (v := 0) hx hb dX1_tooFast_86 (by decide) ?_
          obtain ⟨ix9, x9, ex9, hf⟩ := rd_s hf
          refine va_iald hx hb hK hP 3 0 rfl rfl ix9 dX1_tooFast_87 ?_
          refine lv_tpx ex9 ?_
          refine lv_imul hx hb dX1_tooFast_88 ?_
          refine lv_icmp_ge (tgt := 95) hx hb dX1_tooFast_89 (by decide) (fun c10 => ?_) (fun c10 => ?_)
          · have hf := ite_t c10 hf
            exact hJ95 l1 l2 l3 l4 l5 r4 x6 Basses_latestTicks H locs ls (hP.sub [0, 1, 2, 3, 5, 4] rfl) (hD.sub [0, 1, 2, 3, 5, 4] (by decide) rfl) hS (lv_sub hl [3, 4, 5, 6, 7, 8, 2, 1] rfl) hf
          · have hf := ite_f c10 hf
            obtain ⟨x11, ex11, hf⟩ := nm_s hf
            refine lv_iinc (v := x11) (lv' := [(4, .int x11), (8, .int x7), (7, .int x6), (6, .int r4), (0, .ref a_Basses), (1, .int l1), (2, .int l2), (3, .int l3), (5, .int l5)]) hx hb dX1_tooFast_92 hl (k := 7) rfl (by rw [ex11]; rfl) (by decide) rfl (fun ls hl => ?_)
            exact hJ95 l1 l2 l3 x11 l5 r4 x6 Basses_latestTicks H locs ls (hP.sub [0, 1, 2, 3, 5, 4] rfl) (hD.sub [0, 1, 2, 3, 5, 4] (by decide) rfl) hS (lv_sub hl [4, 5, 6, 7, 0, 8, 3, 2] rfl) hf
  have hL3 : ∀ (n3 : Nat) (l1 l2 l3 l4 : Int32) (Basses_latestTicks : Nat → Int32) (H : Heap) (locs : List Loc) (ls : Array Slot), va_P D vwCl [(a_Line, .inr (4, [.ref a_Line_kinds, .ref a_Line_ticks, .ref a_Line_drums, .ref a_Line_marks, .ref a_Line_strokeTicks, .ref a_Line_strokeHeights, .int Line_count])), (a_Line_ticks, .inl (cI, 20, .inl Line_ticks)), (a_Rules, .inr (7, [.ref a_Rules_values])), (a_Rules_values, .inl (cI, 5, .inl Rules_values)), (a_Basses, .inr (1, [.int Basses_there, .ref a_Line, .ref a_Rules, .ref a_Basses_latestTicks])), (a_Basses_latestTicks, .inl (cI, 5, .inl Basses_latestTicks))] H → va_D A [(a_Line, .inr (4, [.ref a_Line_kinds, .ref a_Line_ticks, .ref a_Line_drums, .ref a_Line_marks, .ref a_Line_strokeTicks, .ref a_Line_strokeHeights, .int Line_count])), (a_Line_ticks, .inl (cI, 20, .inl Line_ticks)), (a_Rules, .inr (7, [.ref a_Rules_values])), (a_Rules_values, .inl (cI, 5, .inl Rules_values)), (a_Basses, .inr (1, [.int Basses_there, .ref a_Line, .ref a_Rules, .ref a_Basses_latestTicks])), (a_Basses_latestTicks, .inl (cI, 5, .inl Basses_latestTicks))] → va_S A s.heap H locs → lv_has ls 9 [(0, .ref a_Basses), (1, .int l1), (2, .int l2), (3, .int l3), (4, .int l4)] → f_Basses_tooFast_3 Line_ticks Rules_values Basses_there  n3 l1 l2 l3 l4 Basses_latestTicks = some (zr, z_Basses_latestTicks) → W p l e (headSpec wsX1_tooFast rm_Basses_tooFast).room s m ([.ref a_Basses, .int p1, .int p2, .int p3] : List Value).toArray below meth c H locs 0 0 Q9 (F0 m 3 ls []) := by
    intro n3
    induction n3 with
    | zero => intro l1 l2 l3 l4 Basses_latestTicks H locs ls hP hD hS hl hf; exact nomatch (show none = some (zr, z_Basses_latestTicks) from hf)
    | succ n3 ih3 =>
      intro l1 l2 l3 l4 Basses_latestTicks H locs ls hP hD hS hl hf
      have hf : f_Basses_tooFast_3_b Line_ticks Rules_values Basses_there  (f_Basses_tooFast_3 Line_ticks Rules_values Basses_there  n3) l1 l2 l3 l4 Basses_latestTicks = some (zr, z_Basses_latestTicks) := hf
      unfold f_Basses_tooFast_3_b at hf
      refine lv_iload hx hb dX1_tooFast_3 (lv_at hl 4 rfl) ?_
      refine lv_iconst (v := 5) hx hb dX1_tooFast_5 (by decide) ?_
      refine lv_icmp_ge (tgt := 23) hx hb dX1_tooFast_6 (by decide) (fun c12 => ?_) (fun c12 => ?_)
      · have hf := ite_t c12 hf
        refine lv_iconst (v := 0) hx hb dX1_tooFast_23 (by decide) ?_
        refine lv_istore (lv' := [(4, .int 0), (0, .ref a_Basses), (1, .int l1), (2, .int l2), (3, .int l3)]) hx hb dX1_tooFast_24 hl (by decide) rfl (fun ls hl => ?_)
        refine lv_iload_n hx hb dX1_tooFast_26 rfl (lv_at hl 2 rfl) ?_
        refine lv_istore (lv' := [(5, .int l1), (4, .int 0), (0, .ref a_Basses), (1, .int l1), (2, .int l2), (3, .int l3)]) hx hb dX1_tooFast_27 hl (by decide) rfl (fun ls hl => ?_)
        exact hL29 fu l1 l2 l3 0 l1 Basses_latestTicks H locs ls hP hD hS (lv_sub hl [2, 3, 4, 5, 1, 0] rfl) hf
      · have hf := ite_f c12 hf
        refine lv_aload_n hx hb dX1_tooFast_9 rfl (lv_at hl 0 rfl) ?_
        refine va_get (D := D) (ci := 1) (v := .ref a_Basses_latestTicks) (C := RX1) (T := TX1) (N := 4) hx hb hts inX1 hown hK hP 4 rfl rfl 3 (by decide) fl15 (fun _ h9 => h9) rfl dX1_tooFast_10 ?_
        refine lv_iload hx hb dX1_tooFast_13 (lv_at hl 4 rfl) ?_
        refine lv_iconst (v := (-1)) hx hb dX1_tooFast_15 (by decide) ?_
        obtain ⟨i13, hf⟩ := ck_s hf
        refine va_iast hx hb hK hP hD hS 5 0 rfl rfl i13 dX1_tooFast_16 (fun H locs hP hD hS => ?_)
        have hP : va_P D vwCl [(a_Line, .inr (4, [.ref a_Line_kinds, .ref a_Line_ticks, .ref a_Line_drums, .ref a_Line_marks, .ref a_Line_strokeTicks, .ref a_Line_strokeHeights, .int Line_count])), (a_Line_ticks, .inl (cI, 20, .inl Line_ticks)), (a_Rules, .inr (7, [.ref a_Rules_values])), (a_Rules_values, .inl (cI, 5, .inl Rules_values)), (a_Basses, .inr (1, [.int Basses_there, .ref a_Line, .ref a_Rules, .ref a_Basses_latestTicks])), (a_Basses_latestTicks, .inl (cI, 5, .inl (upd Basses_latestTicks l4.toNatClampNeg (-1))))] H := hP
        have hD : va_D A [(a_Line, .inr (4, [.ref a_Line_kinds, .ref a_Line_ticks, .ref a_Line_drums, .ref a_Line_marks, .ref a_Line_strokeTicks, .ref a_Line_strokeHeights, .int Line_count])), (a_Line_ticks, .inl (cI, 20, .inl Line_ticks)), (a_Rules, .inr (7, [.ref a_Rules_values])), (a_Rules_values, .inl (cI, 5, .inl Rules_values)), (a_Basses, .inr (1, [.int Basses_there, .ref a_Line, .ref a_Rules, .ref a_Basses_latestTicks])), (a_Basses_latestTicks, .inl (cI, 5, .inl (upd Basses_latestTicks l4.toNatClampNeg (-1))))] := hD
        obtain ⟨x14, ex14, hf⟩ := nm_s hf
        refine lv_iinc (v := x14) (lv' := [(4, .int x14), (0, .ref a_Basses), (1, .int l1), (2, .int l2), (3, .int l3)]) hx hb dX1_tooFast_17 hl (k := 4) rfl (by rw [ex14]; rfl) (by decide) rfl (fun ls hl => ?_)
        refine lv_goto (tgt := 3) hx hb dX1_tooFast_20 (by decide) ?_
        exact ih3 l1 l2 l3 x14 (upd Basses_latestTicks l4.toNatClampNeg (-1)) H locs ls hP hD hS (lv_sub hl [1, 2, 3, 4, 0] rfl) hf
  unfold f_Basses_tooFast at hf
  refine lv_iconst (v := 0) hx hb dX1_tooFast_0 (by decide) ?_
  refine lv_istore (lv' := [(4, .int 0), (0, .ref a_Basses), (1, .int p1), (2, .int p2), (3, .int p3)]) hx hb dX1_tooFast_1 hl (by decide) rfl (fun ls hl => ?_)
  exact hL3 fu p1 p2 p3 0 Basses_latestTicks s.heap [] ls hP hD hS (lv_sub hl [1, 2, 3, 4, 0] rfl) hf
abbrev rm_Basses_slowestShape : Room := { frames := 3, cells := 0, slots := 0, locals := 73 }
set_option maxHeartbeats 4000000 in
set_option maxRecDepth 100000 in
theorem c_Basses_slowestShape (l : Launch) (D : va_G) (cI cZ : ClassId) (t : Nat → Nat) (a_Line a_Line_kinds a_Line_ticks a_Line_drums a_Line_marks a_Line_strokeTicks a_Line_strokeHeights a_Rules a_Rules_values a_Basses a_Basses_latestTicks sz : Nat) (Line_ticks Rules_values : Nat → Int32) (Basses_there : Int32) (Basses_latestTicks : Nat → Int32) (Line_count p1 p2 zr : Int32) (z_Basses_latestTicks : Nat → Int32) (hf : f_Basses_slowestShape Line_ticks Rules_values Basses_there Basses_latestTicks p1 p2 = some (zr, z_Basses_latestTicks)) : Met l yX1_slowestShape wsX1_slowestShape rm_Basses_slowestShape (va_Pc [.ref a_Basses, .int p1, .int p2] (pcW D cI cZ t [(a_Line, .inr (4, [.ref a_Line_kinds, .ref a_Line_ticks, .ref a_Line_drums, .ref a_Line_marks, .ref a_Line_strokeTicks, .ref a_Line_strokeHeights, .int Line_count])), (a_Line_ticks, .inl (cI, 20, .inl Line_ticks)), (a_Rules, .inr (7, [.ref a_Rules_values])), (a_Rules_values, .inl (cI, 5, .inl Rules_values)), (a_Basses, .inr (1, [.int Basses_there, .ref a_Line, .ref a_Rules, .ref a_Basses_latestTicks])), (a_Basses_latestTicks, .inl (cI, 5, .inl Basses_latestTicks))] sz)) (va_Qi (fun r (u : Unit) => r = zr) (fun u t' => bW D (va_A [(a_Line, .inr (4, [.ref a_Line_kinds, .ref a_Line_ticks, .ref a_Line_drums, .ref a_Line_marks, .ref a_Line_strokeTicks, .ref a_Line_strokeHeights, .int Line_count])), (a_Line_ticks, .inl (cI, 20, .inl Line_ticks)), (a_Rules, .inr (7, [.ref a_Rules_values])), (a_Rules_values, .inl (cI, 5, .inl Rules_values)), (a_Basses, .inr (1, [.int Basses_there, .ref a_Line, .ref a_Rules, .ref a_Basses_latestTicks])), (a_Basses_latestTicks, .inl (cI, 5, .inl Basses_latestTicks))] sz) [(a_Line, .inr (4, [.ref a_Line_kinds, .ref a_Line_ticks, .ref a_Line_drums, .ref a_Line_marks, .ref a_Line_strokeTicks, .ref a_Line_strokeHeights, .int Line_count])), (a_Line_ticks, .inl (cI, 20, .inl Line_ticks)), (a_Rules, .inr (7, [.ref a_Rules_values])), (a_Rules_values, .inl (cI, 5, .inl Rules_values)), (a_Basses, .inr (1, [.int Basses_there, .ref a_Line, .ref a_Rules, .ref a_Basses_latestTicks])), (a_Basses_latestTicks, .inl (cI, 5, .inl z_Basses_latestTicks))] t') (va_A [(a_Line, .inr (4, [.ref a_Line_kinds, .ref a_Line_ticks, .ref a_Line_drums, .ref a_Line_marks, .ref a_Line_strokeTicks, .ref a_Line_strokeHeights, .int Line_count])), (a_Line_ticks, .inl (cI, 20, .inl Line_ticks)), (a_Rules, .inr (7, [.ref a_Rules_values])), (a_Rules_values, .inl (cI, 5, .inl Rules_values)), (a_Basses, .inr (1, [.int Basses_there, .ref a_Line, .ref a_Rules, .ref a_Basses_latestTicks])), (a_Basses_latestTicks, .inl (cI, 5, .inl Basses_latestTicks))] sz)) 0 0 (va_A [(a_Line, .inr (4, [.ref a_Line_kinds, .ref a_Line_ticks, .ref a_Line_drums, .ref a_Line_marks, .ref a_Line_strokeTicks, .ref a_Line_strokeHeights, .int Line_count])), (a_Line_ticks, .inl (cI, 20, .inl Line_ticks)), (a_Rules, .inr (7, [.ref a_Rules_values])), (a_Rules_values, .inl (cI, 5, .inl Rules_values)), (a_Basses, .inr (1, [.int Basses_there, .ref a_Line, .ref a_Rules, .ref a_Basses_latestTicks])), (a_Basses_latestTicks, .inl (cI, 5, .inl Basses_latestTicks))] sz) := by
  refine Met.ofW (cc := cX1_slowestShape) (maxL := 7) (ret := (some .int)) (by decide) rfl ?_
  intro p e s m args below meth c s₁ B hml hv
  obtain ⟨rfl, hsz, hP, hD0, hE⟩ := hv
  have hx := B.exec
  have hb := B.bytes
  have hr := B.returns
  have hts := atoms_spec (ws := wsX1_slowestShape) B.pre
  have hown : s.vm.findClass RX1 = some m.cls := findClass_of_methodNamed B.named
  have hlocks := B.notSynchronized
  subst hsz
  have hD := hD0.self (sz := s.heap.size)
  generalize hAe : va_A [(a_Line, .inr (4, [.ref a_Line_kinds, .ref a_Line_ticks, .ref a_Line_drums, .ref a_Line_marks, .ref a_Line_strokeTicks, .ref a_Line_strokeHeights, .int Line_count])), (a_Line_ticks, .inl (cI, 20, .inl Line_ticks)), (a_Rules, .inr (7, [.ref a_Rules_values])), (a_Rules_values, .inl (cI, 5, .inl Rules_values)), (a_Basses, .inr (1, [.int Basses_there, .ref a_Line, .ref a_Rules, .ref a_Basses_latestTicks])), (a_Basses_latestTicks, .inl (cI, 5, .inl Basses_latestTicks))] s.heap.size = A at hD hE ⊢
  have hA : ∀ q : Nat, s.heap.size ≤ q → A q := fun q h => by rw [← hAe]; exact Or.inr h
  clear hAe hD0
  have hS : va_S A s.heap s.heap [] := va_S.rf
  have hK := hE.1
  have hl := lv_entry ([.ref a_Basses, .int p1, .int p2]) (n := 7) (Nat.le_of_ble_eq_true rfl)
  rw [lg_entry_eq]
  generalize (lg_sl ([.ref a_Basses, .int p1, .int p2]) ++ List.replicate (7 - (lg_sl ([.ref a_Basses, .int p1, .int p2])).length) Slot.unset).toArray = ls at hl ⊢
  have hl : lv_has ls 7 [(0, .ref a_Basses), (1, .int p1), (2, .int p2)] := hl
  refine w_q (fun Q9 hQ9 => ?_)
  have hL14 : ∀ (n14 : Nat) (l1 l2 l3 l4 l5 : Int32) (Basses_latestTicks : Nat → Int32) (H : Heap) (locs : List Loc) (ls : Array Slot), va_P D vwCl [(a_Line, .inr (4, [.ref a_Line_kinds, .ref a_Line_ticks, .ref a_Line_drums, .ref a_Line_marks, .ref a_Line_strokeTicks, .ref a_Line_strokeHeights, .int Line_count])), (a_Line_ticks, .inl (cI, 20, .inl Line_ticks)), (a_Rules, .inr (7, [.ref a_Rules_values])), (a_Rules_values, .inl (cI, 5, .inl Rules_values)), (a_Basses, .inr (1, [.int Basses_there, .ref a_Line, .ref a_Rules, .ref a_Basses_latestTicks])), (a_Basses_latestTicks, .inl (cI, 5, .inl Basses_latestTicks))] H → va_D A [(a_Line, .inr (4, [.ref a_Line_kinds, .ref a_Line_ticks, .ref a_Line_drums, .ref a_Line_marks, .ref a_Line_strokeTicks, .ref a_Line_strokeHeights, .int Line_count])), (a_Line_ticks, .inl (cI, 20, .inl Line_ticks)), (a_Rules, .inr (7, [.ref a_Rules_values])), (a_Rules_values, .inl (cI, 5, .inl Rules_values)), (a_Basses, .inr (1, [.int Basses_there, .ref a_Line, .ref a_Rules, .ref a_Basses_latestTicks])), (a_Basses_latestTicks, .inl (cI, 5, .inl Basses_latestTicks))] → va_S A s.heap H locs → lv_has ls 7 [(0, .ref a_Basses), (1, .int l1), (2, .int l2), (3, .int l3), (4, .int l4), (5, .int l5)] → f_Basses_slowestShape_14 Line_ticks Rules_values Basses_there  n14 l1 l2 l3 l4 l5 Basses_latestTicks = some (zr, z_Basses_latestTicks) → W p l e (headSpec wsX1_slowestShape rm_Basses_slowestShape).room s m ([.ref a_Basses, .int p1, .int p2] : List Value).toArray below meth c H locs 0 0 Q9 (F0 m 14 ls []) := by
    intro n14
    induction n14 with
    | zero => intro l1 l2 l3 l4 l5 Basses_latestTicks H locs ls hP hD hS hl hf; exact nomatch (show none = some (zr, z_Basses_latestTicks) from hf)
    | succ n14 ih14 =>
      intro l1 l2 l3 l4 l5 Basses_latestTicks H locs ls hP hD hS hl hf
      have hf : f_Basses_slowestShape_14_b Line_ticks Rules_values Basses_there  (f_Basses_slowestShape_14 Line_ticks Rules_values Basses_there  n14) l1 l2 l3 l4 l5 Basses_latestTicks = some (zr, z_Basses_latestTicks) := hf
      unfold f_Basses_slowestShape_14_b at hf
      refine lv_iload hx hb dX1_slowestShape_14 (lv_at hl 5 rfl) ?_
      refine lv_iconst (v := 3) hx hb dX1_slowestShape_16 (by decide) ?_
      refine lv_icmp_ge (tgt := 50) hx hb dX1_slowestShape_17 (by decide) (fun c1 => ?_) (fun c1 => ?_)
      · have hf := ite_t c1 hf
        refine lv_iload_n hx hb dX1_slowestShape_50 rfl (lv_at hl 3 rfl) ?_
        cases hf
        exact k_iret () hQ9 hx hb hr hlocks rfl hP hD hS (Nat.le_of_ble_eq_true rfl) (Nat.le_of_ble_eq_true rfl) dX1_slowestShape_51
      · have hf := ite_f c1 hf
        refine lv_aload_n hx hb dX1_slowestShape_20 rfl (lv_at hl 0 rfl) ?_
        refine lv_iload_n hx hb dX1_slowestShape_21 rfl (lv_at hl 1 rfl) ?_
        refine lv_iload_n hx hb dX1_slowestShape_22 rfl (lv_at hl 2 rfl) ?_
        refine lv_iload hx hb dX1_slowestShape_23 (lv_at hl 5 rfl) ?_
        obtain ⟨r2, y3, g4, hf⟩ := b2_s hf
        refine k_Vi (rest := []) ⟨hx, hb, hml, hown, hts⟩ (c_Basses_tooFast l D cI cZ t a_Line a_Line_kinds a_Line_ticks a_Line_drums a_Line_marks a_Line_strokeTicks a_Line_strokeHeights a_Rules a_Rules_values a_Basses a_Basses_latestTicks H.size Line_ticks Rules_values Basses_there Basses_latestTicks Line_count l1 l2 l5 r2 y3 g4) (cwV 3 hts gX1_slowestShape_X1_tooFast rfl rfl rfl (by decide +kernel) ⟨Nat.le_of_ble_eq_true rfl, Nat.le_of_ble_eq_true rfl⟩) hE hP hD hS hA [0, 1, 2, 3, 4, 5] [] rfl rfl rfl rfl rfl 4 1 rfl rfl rfl rfl hl.1 rfl (Nat.le_of_ble_eq_true rfl) dX1_slowestShape_25 ⟨Nat.le_of_ble_eq_true rfl, Nat.le_of_ble_eq_true rfl⟩ (fun rq uq H locs hrq hP hD hS => ?_)
        refine lv_tpx hrq.symm ?_
        have hP : va_P D vwCl [(a_Line, .inr (4, [.ref a_Line_kinds, .ref a_Line_ticks, .ref a_Line_drums, .ref a_Line_marks, .ref a_Line_strokeTicks, .ref a_Line_strokeHeights, .int Line_count])), (a_Line_ticks, .inl (cI, 20, .inl Line_ticks)), (a_Rules, .inr (7, [.ref a_Rules_values])), (a_Rules_values, .inl (cI, 5, .inl Rules_values)), (a_Basses, .inr (1, [.int Basses_there, .ref a_Line, .ref a_Rules, .ref a_Basses_latestTicks])), (a_Basses_latestTicks, .inl (cI, 5, .inl y3))] H := hP
        have hD : va_D A [(a_Line, .inr (4, [.ref a_Line_kinds, .ref a_Line_ticks, .ref a_Line_drums, .ref a_Line_marks, .ref a_Line_strokeTicks, .ref a_Line_strokeHeights, .int Line_count])), (a_Line_ticks, .inl (cI, 20, .inl Line_ticks)), (a_Rules, .inr (7, [.ref a_Rules_values])), (a_Rules_values, .inl (cI, 5, .inl Rules_values)), (a_Basses, .inr (1, [.int Basses_there, .ref a_Line, .ref a_Rules, .ref a_Basses_latestTicks])), (a_Basses_latestTicks, .inl (cI, 5, .inl y3))] := hD
        refine lv_istore (lv' := [(6, .int r2), (0, .ref a_Basses), (1, .int l1), (2, .int l2), (3, .int l3), (4, .int l4), (5, .int l5)]) hx hb dX1_slowestShape_28 hl (by decide) rfl (fun ls hl => ?_)
        refine lv_iload hx hb dX1_slowestShape_30 (lv_at hl 0 rfl) ?_
        refine lv_iload hx hb dX1_slowestShape_32 (lv_at hl 5 rfl) ?_
        refine lv_icmp_ge (tgt := 44) hx hb dX1_slowestShape_34 (by decide) (fun c5 => ?_) (fun c5 => ?_)
        · have hf := ite_t c5 hf
          obtain ⟨x6, ex6, hf⟩ := nm_s hf
          refine lv_iinc (v := x6) (lv' := [(5, .int x6), (6, .int r2), (0, .ref a_Basses), (1, .int l1), (2, .int l2), (3, .int l3), (4, .int l4)]) hx hb dX1_slowestShape_44 hl (k := 6) rfl (by rw [ex6]; rfl) (by decide) rfl (fun ls hl => ?_)
          refine lv_goto (tgt := 14) hx hb dX1_slowestShape_47 (by decide) ?_
          exact ih14 l1 l2 l3 l4 x6 y3 H locs ls hP hD hS (lv_sub hl [2, 3, 4, 5, 6, 0] rfl) hf
        · have hf := ite_f c5 hf
          refine lv_iload hx hb dX1_slowestShape_37 (lv_at hl 0 rfl) ?_
          refine lv_istore (lv' := [(4, .int r2), (6, .int r2), (0, .ref a_Basses), (1, .int l1), (2, .int l2), (3, .int l3), (5, .int l5)]) hx hb dX1_slowestShape_39 hl (by decide) rfl (fun ls hl => ?_)
          refine lv_iload hx hb dX1_slowestShape_41 (lv_at hl 6 rfl) ?_
          refine lv_istore_n (lv' := [(3, .int l5), (4, .int r2), (6, .int r2), (0, .ref a_Basses), (1, .int l1), (2, .int l2), (5, .int l5)]) hx hb dX1_slowestShape_43 rfl hl (by decide) rfl (fun ls hl => ?_)
          obtain ⟨x7, ex7, hf⟩ := nm_s hf
          refine lv_iinc (v := x7) (lv' := [(5, .int x7), (3, .int l5), (4, .int r2), (6, .int r2), (0, .ref a_Basses), (1, .int l1), (2, .int l2)]) hx hb dX1_slowestShape_44 hl (k := 6) rfl (by rw [ex7]; rfl) (by decide) rfl (fun ls hl => ?_)
          refine lv_goto (tgt := 14) hx hb dX1_slowestShape_47 (by decide) ?_
          exact ih14 l1 l2 l5 r2 x7 y3 H locs ls hP hD hS (lv_sub hl [4, 5, 6, 1, 2, 0] rfl) hf
  unfold f_Basses_slowestShape at hf
  refine lv_iconst (v := 0) hx hb dX1_slowestShape_0 (by decide) ?_
  refine lv_istore_n (lv' := [(3, .int 0), (0, .ref a_Basses), (1, .int p1), (2, .int p2)]) hx hb dX1_slowestShape_1 rfl hl (by decide) rfl (fun ls hl => ?_)
  refine lv_aload_n hx hb dX1_slowestShape_2 rfl (lv_at hl 1 rfl) ?_
  refine lv_iload_n hx hb dX1_slowestShape_3 rfl (lv_at hl 2 rfl) ?_
  refine lv_iload_n hx hb dX1_slowestShape_4 rfl (lv_at hl 3 rfl) ?_
  refine lv_iconst (v := 0) hx hb dX1_slowestShape_5 (by decide) ?_
  obtain ⟨r8, y9, g10, hf⟩ := b2_s hf
  refine k_Vi (rest := []) ⟨hx, hb, hml, hown, hts⟩ (c_Basses_tooFast l D cI cZ t a_Line a_Line_kinds a_Line_ticks a_Line_drums a_Line_marks a_Line_strokeTicks a_Line_strokeHeights a_Rules a_Rules_values a_Basses a_Basses_latestTicks s.heap.size Line_ticks Rules_values Basses_there Basses_latestTicks Line_count p1 p2 0 r8 y9 g10) (cwV 3 hts gX1_slowestShape_X1_tooFast rfl rfl rfl (by decide +kernel) ⟨Nat.le_of_ble_eq_true rfl, Nat.le_of_ble_eq_true rfl⟩) hE hP hD hS hA [0, 1, 2, 3, 4, 5] [] rfl rfl rfl rfl rfl 4 1 rfl rfl rfl rfl hl.1 rfl (Nat.le_of_ble_eq_true rfl) dX1_slowestShape_6 ⟨Nat.le_of_ble_eq_true rfl, Nat.le_of_ble_eq_true rfl⟩ (fun rq uq H locs hrq hP hD hS => ?_)
  refine lv_tpx hrq.symm ?_
  have hP : va_P D vwCl [(a_Line, .inr (4, [.ref a_Line_kinds, .ref a_Line_ticks, .ref a_Line_drums, .ref a_Line_marks, .ref a_Line_strokeTicks, .ref a_Line_strokeHeights, .int Line_count])), (a_Line_ticks, .inl (cI, 20, .inl Line_ticks)), (a_Rules, .inr (7, [.ref a_Rules_values])), (a_Rules_values, .inl (cI, 5, .inl Rules_values)), (a_Basses, .inr (1, [.int Basses_there, .ref a_Line, .ref a_Rules, .ref a_Basses_latestTicks])), (a_Basses_latestTicks, .inl (cI, 5, .inl y9))] H := hP
  have hD : va_D A [(a_Line, .inr (4, [.ref a_Line_kinds, .ref a_Line_ticks, .ref a_Line_drums, .ref a_Line_marks, .ref a_Line_strokeTicks, .ref a_Line_strokeHeights, .int Line_count])), (a_Line_ticks, .inl (cI, 20, .inl Line_ticks)), (a_Rules, .inr (7, [.ref a_Rules_values])), (a_Rules_values, .inl (cI, 5, .inl Rules_values)), (a_Basses, .inr (1, [.int Basses_there, .ref a_Line, .ref a_Rules, .ref a_Basses_latestTicks])), (a_Basses_latestTicks, .inl (cI, 5, .inl y9))] := hD
  refine lv_istore (lv' := [(4, .int r8), (3, .int 0), (0, .ref a_Basses), (1, .int p1), (2, .int p2)]) hx hb dX1_slowestShape_9 hl (by decide) rfl (fun ls hl => ?_)
  refine lv_iconst (v := 1) hx hb dX1_slowestShape_11 (by decide) ?_
  refine lv_istore (lv' := [(5, .int 1), (4, .int r8), (3, .int 0), (0, .ref a_Basses), (1, .int p1), (2, .int p2)]) hx hb dX1_slowestShape_12 hl (by decide) rfl (fun ls hl => ?_)
  exact hL14 fu p1 p2 0 r8 1 y9 H locs ls hP hD hS (lv_sub hl [3, 4, 5, 2, 1, 0] rfl) hf
