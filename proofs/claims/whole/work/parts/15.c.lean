abbrev rm_Sheets_areBits : Room := { frames := 0, cells := 0, slots := 0, locals := 0 }
set_option maxHeartbeats 4000000 in
set_option maxRecDepth 100000 in
theorem c_Sheets_areBits (l : Launch) (D : va_G) (cI cZ : ClassId) (t : Nat → Nat) (sz : Nat) (p0 zr : Int32) (hf : f_Sheets_areBits p0 = some zr) : Met l yX8_areBits wsX8_areBits rm_Sheets_areBits (va_Pc [.int p0] (pcW D cI cZ t [] sz)) (va_Qi (fun r (u : Unit) => r = zr) (fun u t' => bW D (va_A [] sz) [] t') (va_A [] sz)) 0 0 (va_A [] sz) := by
  refine Met.ofW (cc := cX8_areBits) (maxL := 1) (ret := (some .boolean)) (by decide) rfl ?_
  intro p e s m args below meth c s₁ B hml hv
  obtain ⟨rfl, hsz, hP, hD0, hE⟩ := hv
  have hx := B.exec
  have hb := B.bytes
  have hr := B.returns
  have hts := atoms_spec (ws := wsX8_areBits) B.pre
  have hown : s.vm.findClass RX8 = some m.cls := findClass_of_methodNamed B.named
  have hlocks := B.notSynchronized
  subst hsz
  have hD := hD0.self (sz := s.heap.size)
  generalize hAe : va_A [] s.heap.size = A at hD hE ⊢
  have hA : ∀ q : Nat, s.heap.size ≤ q → A q := fun q h => by rw [← hAe]; exact Or.inr h
  clear hAe hD0
  have hS : va_S A s.heap s.heap [] := va_S.rf
  have hK := hE.1
  have hl := lv_entry ([.int p0]) (n := 1) (Nat.le_of_ble_eq_true rfl)
  rw [lg_entry_eq]
  generalize (lg_sl ([.int p0]) ++ List.replicate (1 - (lg_sl ([.int p0])).length) Slot.unset).toArray = ls at hl ⊢
  have hl : lv_has ls 1 [(0, .int p0)] := hl
  refine w_q (fun Q9 hQ9 => ?_)
  unfold f_Sheets_areBits at hf
  refine lv_iload_n hx hb dX8_areBits_0 rfl (lv_at hl 0 rfl) ?_
  refine lv_if_eq (tgt := 22) hx hb dX8_areBits_1 (by decide) (fun c1 => ?_) (fun c1 => ?_)
  · have hf := ite_t c1 hf
    refine lv_iconst (v := 1) hx hb dX8_areBits_22 (by decide) ?_
    refine lv_goto (tgt := 27) hx hb dX8_areBits_23 (by decide) ?_
    cases hf
    exact k_zret () hQ9 hx hb hr hlocks (Or.inr rfl) rfl hP hD hS (Nat.le_of_ble_eq_true rfl) (Nat.le_of_ble_eq_true rfl) dX8_areBits_27
  · have hf := ite_f c1 hf
    refine lv_iload_n hx hb dX8_areBits_4 rfl (lv_at hl 0 rfl) ?_
    refine lv_bipush (v := 8) hx hb dX8_areBits_5 (by decide) ?_
    refine lv_icmp_eq (tgt := 22) hx hb dX8_areBits_7 (by decide) (fun c2 => ?_) (fun c2 => ?_)
    · have hf := ite_t c2 hf
      refine lv_iconst (v := 1) hx hb dX8_areBits_22 (by decide) ?_
      refine lv_goto (tgt := 27) hx hb dX8_areBits_23 (by decide) ?_
      cases hf
      exact k_zret () hQ9 hx hb hr hlocks (Or.inr rfl) rfl hP hD hS (Nat.le_of_ble_eq_true rfl) (Nat.le_of_ble_eq_true rfl) dX8_areBits_27
    · have hf := ite_f c2 hf
      refine lv_iload_n hx hb dX8_areBits_10 rfl (lv_at hl 0 rfl) ?_
      refine lv_bipush (v := 16) hx hb dX8_areBits_11 (by decide) ?_
      refine lv_icmp_eq (tgt := 22) hx hb dX8_areBits_13 (by decide) (fun c3 => ?_) (fun c3 => ?_)
      · have hf := ite_t c3 hf
        refine lv_iconst (v := 1) hx hb dX8_areBits_22 (by decide) ?_
        refine lv_goto (tgt := 27) hx hb dX8_areBits_23 (by decide) ?_
        cases hf
        exact k_zret () hQ9 hx hb hr hlocks (Or.inr rfl) rfl hP hD hS (Nat.le_of_ble_eq_true rfl) (Nat.le_of_ble_eq_true rfl) dX8_areBits_27
      · have hf := ite_f c3 hf
        refine lv_iload_n hx hb dX8_areBits_16 rfl (lv_at hl 0 rfl) ?_
        refine lv_bipush (v := 32) hx hb dX8_areBits_17 (by decide) ?_
        refine lv_icmp_ne (tgt := 26) hx hb dX8_areBits_19 (by decide) (fun c4 => ?_) (fun c4 => ?_)
        · have hf := ite_f c4 hf
          refine lv_iconst (v := 0) hx hb dX8_areBits_26 (by decide) ?_
          cases hf
          exact k_zret () hQ9 hx hb hr hlocks (Or.inl rfl) rfl hP hD hS (Nat.le_of_ble_eq_true rfl) (Nat.le_of_ble_eq_true rfl) dX8_areBits_27
        · have hf := ite_t c4 hf
          refine lv_iconst (v := 1) hx hb dX8_areBits_22 (by decide) ?_
          refine lv_goto (tgt := 27) hx hb dX8_areBits_23 (by decide) ?_
          cases hf
          exact k_zret () hQ9 hx hb hr hlocks (Or.inr rfl) rfl hP hD hS (Nat.le_of_ble_eq_true rfl) (Nat.le_of_ble_eq_true rfl) dX8_areBits_27
abbrev rm_Sheets_isMissing : Room := { frames := 0, cells := 0, slots := 0, locals := 0 }
set_option maxHeartbeats 4000000 in
set_option maxRecDepth 100000 in
theorem c_Sheets_isMissing (l : Launch) (D : va_G) (cI cZ : ClassId) (t : Nat → Nat) (a_Sheets a_Sheets_bits a_Sheets_sizes a_Sheets_numbers sz : Nat) (Sheets_bits : Nat → Int32) (p1 zr : Int32) (hf : f_Sheets_isMissing Sheets_bits p1 = some zr) : Met l yX8_isMissing wsX8_isMissing rm_Sheets_isMissing (va_Pc [.ref a_Sheets, .int p1] (pcW D cI cZ t [(a_Sheets, .inr (8, [.ref a_Sheets_bits, .ref a_Sheets_sizes, .ref a_Sheets_numbers])), (a_Sheets_bits, .inl (cI, 4, .inl Sheets_bits))] sz)) (va_Qi (fun r (u : Unit) => r = zr) (fun u t' => bW D (va_A [(a_Sheets, .inr (8, [.ref a_Sheets_bits, .ref a_Sheets_sizes, .ref a_Sheets_numbers])), (a_Sheets_bits, .inl (cI, 4, .inl Sheets_bits))] sz) [(a_Sheets, .inr (8, [.ref a_Sheets_bits, .ref a_Sheets_sizes, .ref a_Sheets_numbers])), (a_Sheets_bits, .inl (cI, 4, .inl Sheets_bits))] t') (va_A [(a_Sheets, .inr (8, [.ref a_Sheets_bits, .ref a_Sheets_sizes, .ref a_Sheets_numbers])), (a_Sheets_bits, .inl (cI, 4, .inl Sheets_bits))] sz)) 0 0 (va_A [(a_Sheets, .inr (8, [.ref a_Sheets_bits, .ref a_Sheets_sizes, .ref a_Sheets_numbers])), (a_Sheets_bits, .inl (cI, 4, .inl Sheets_bits))] sz) := by
  refine Met.ofW (cc := cX8_isMissing) (maxL := 2) (ret := (some .boolean)) (by decide) rfl ?_
  intro p e s m args below meth c s₁ B hml hv
  obtain ⟨rfl, hsz, hP, hD0, hE⟩ := hv
  have hx := B.exec
  have hb := B.bytes
  have hr := B.returns
  have hts := atoms_spec (ws := wsX8_isMissing) B.pre
  have hown : s.vm.findClass RX8 = some m.cls := findClass_of_methodNamed B.named
  have hlocks := B.notSynchronized
  subst hsz
  have hD := hD0.self (sz := s.heap.size)
  generalize hAe : va_A [(a_Sheets, .inr (8, [.ref a_Sheets_bits, .ref a_Sheets_sizes, .ref a_Sheets_numbers])), (a_Sheets_bits, .inl (cI, 4, .inl Sheets_bits))] s.heap.size = A at hD hE ⊢
  have hA : ∀ q : Nat, s.heap.size ≤ q → A q := fun q h => by rw [← hAe]; exact Or.inr h
  clear hAe hD0
  have hS : va_S A s.heap s.heap [] := va_S.rf
  have hK := hE.1
  have hl := lv_entry ([.ref a_Sheets, .int p1]) (n := 2) (Nat.le_of_ble_eq_true rfl)
  rw [lg_entry_eq]
  generalize (lg_sl ([.ref a_Sheets, .int p1]) ++ List.replicate (2 - (lg_sl ([.ref a_Sheets, .int p1])).length) Slot.unset).toArray = ls at hl ⊢
  have hl : lv_has ls 2 [(0, .ref a_Sheets), (1, .int p1)] := hl
  refine w_q (fun Q9 hQ9 => ?_)
  have fl9 := hts (.fieldLink RX8 9 "StickRoom$Sheets" "bits" "[I") (by decide +kernel)
  have inX8 : ∀ w ∈ wsX80, w ∈ wsX8_isMissing := by decide +kernel
  unfold f_Sheets_isMissing at hf
  refine lv_aload_n hx hb dX8_isMissing_0 rfl (lv_at hl 0 rfl) ?_
  refine va_get (D := D) (ci := 8) (v := .ref a_Sheets_bits) (C := RX8) (T := TX8) (N := 3) hx hb hts inX8 hown hK hP 0 rfl rfl 0 (by decide) fl9 (fun _ h9 => h9) rfl dX8_isMissing_1 ?_
  refine lv_iload_n hx hb dX8_isMissing_4 rfl (lv_at hl 1 rfl) ?_
  obtain ⟨ix1, x1, ex1, hf⟩ := rd_s hf
  refine va_iald hx hb hK hP 1 0 rfl rfl ix1 dX8_isMissing_5 ?_
  refine lv_tpx ex1 ?_
  refine lv_if_ne (tgt := 13) hx hb dX8_isMissing_6 (by decide) (fun c2 => ?_) (fun c2 => ?_)
  · have hf := ite_f c2 hf
    refine lv_iconst (v := 0) hx hb dX8_isMissing_13 (by decide) ?_
    cases hf
    exact k_zret () hQ9 hx hb hr hlocks (Or.inl rfl) rfl hP hD hS (Nat.le_of_ble_eq_true rfl) (Nat.le_of_ble_eq_true rfl) dX8_isMissing_14
  · have hf := ite_t c2 hf
    refine lv_iconst (v := 1) hx hb dX8_isMissing_9 (by decide) ?_
    refine lv_goto (tgt := 14) hx hb dX8_isMissing_10 (by decide) ?_
    cases hf
    exact k_zret () hQ9 hx hb hr hlocks (Or.inr rfl) rfl hP hD hS (Nat.le_of_ble_eq_true rfl) (Nat.le_of_ble_eq_true rfl) dX8_isMissing_14
abbrev rm_Sheets_become : Room := { frames := 0, cells := 0, slots := 0, locals := 0 }
set_option maxHeartbeats 4000000 in
set_option maxRecDepth 100000 in
theorem c_Sheets_become (l : Launch) (D : va_G) (cI cZ : ClassId) (t : Nat → Nat) (a_Sheets a_Sheets_bits a_Sheets_sizes a_Sheets_numbers sz : Nat) (Sheets_bits Sheets_sizes Sheets_numbers : Nat → Int32) (p1 p2 p3 : Int32) (z_Sheets_bits z_Sheets_sizes z_Sheets_numbers : Nat → Int32) (hf : f_Sheets_become Sheets_bits Sheets_sizes Sheets_numbers p1 p2 p3 = some (z_Sheets_bits, z_Sheets_sizes, z_Sheets_numbers)) : Met l yX8_become wsX8_become rm_Sheets_become (va_Pc [.ref a_Sheets, .int p1, .int p2, .int p3] (pcW D cI cZ t [(a_Sheets, .inr (8, [.ref a_Sheets_bits, .ref a_Sheets_sizes, .ref a_Sheets_numbers])), (a_Sheets_bits, .inl (cI, 4, .inl Sheets_bits)), (a_Sheets_sizes, .inl (cI, 4, .inl Sheets_sizes)), (a_Sheets_numbers, .inl (cI, 96, .inl Sheets_numbers))] sz)) (va_Qv (fun u : Unit => u = u) (fun u t' => bW D (va_A [(a_Sheets, .inr (8, [.ref a_Sheets_bits, .ref a_Sheets_sizes, .ref a_Sheets_numbers])), (a_Sheets_bits, .inl (cI, 4, .inl Sheets_bits)), (a_Sheets_sizes, .inl (cI, 4, .inl Sheets_sizes)), (a_Sheets_numbers, .inl (cI, 96, .inl Sheets_numbers))] sz) [(a_Sheets, .inr (8, [.ref a_Sheets_bits, .ref a_Sheets_sizes, .ref a_Sheets_numbers])), (a_Sheets_bits, .inl (cI, 4, .inl z_Sheets_bits)), (a_Sheets_sizes, .inl (cI, 4, .inl z_Sheets_sizes)), (a_Sheets_numbers, .inl (cI, 96, .inl z_Sheets_numbers))] t') (va_A [(a_Sheets, .inr (8, [.ref a_Sheets_bits, .ref a_Sheets_sizes, .ref a_Sheets_numbers])), (a_Sheets_bits, .inl (cI, 4, .inl Sheets_bits)), (a_Sheets_sizes, .inl (cI, 4, .inl Sheets_sizes)), (a_Sheets_numbers, .inl (cI, 96, .inl Sheets_numbers))] sz)) 0 0 (va_A [(a_Sheets, .inr (8, [.ref a_Sheets_bits, .ref a_Sheets_sizes, .ref a_Sheets_numbers])), (a_Sheets_bits, .inl (cI, 4, .inl Sheets_bits)), (a_Sheets_sizes, .inl (cI, 4, .inl Sheets_sizes)), (a_Sheets_numbers, .inl (cI, 96, .inl Sheets_numbers))] sz) := by
  refine Met.ofW (cc := cX8_become) (maxL := 5) (ret := none) (by decide) rfl ?_
  intro p e s m args below meth c s₁ B hml hv
  obtain ⟨rfl, hsz, hP, hD0, hE⟩ := hv
  have hx := B.exec
  have hb := B.bytes
  have hr := B.returns
  have hts := atoms_spec (ws := wsX8_become) B.pre
  have hown : s.vm.findClass RX8 = some m.cls := findClass_of_methodNamed B.named
  have hlocks := B.notSynchronized
  subst hsz
  have hD := hD0.self (sz := s.heap.size)
  generalize hAe : va_A [(a_Sheets, .inr (8, [.ref a_Sheets_bits, .ref a_Sheets_sizes, .ref a_Sheets_numbers])), (a_Sheets_bits, .inl (cI, 4, .inl Sheets_bits)), (a_Sheets_sizes, .inl (cI, 4, .inl Sheets_sizes)), (a_Sheets_numbers, .inl (cI, 96, .inl Sheets_numbers))] s.heap.size = A at hD hE ⊢
  have hA : ∀ q : Nat, s.heap.size ≤ q → A q := fun q h => by rw [← hAe]; exact Or.inr h
  clear hAe hD0
  have hS : va_S A s.heap s.heap [] := va_S.rf
  have hK := hE.1
  have hl := lv_entry ([.ref a_Sheets, .int p1, .int p2, .int p3]) (n := 5) (Nat.le_of_ble_eq_true rfl)
  rw [lg_entry_eq]
  generalize (lg_sl ([.ref a_Sheets, .int p1, .int p2, .int p3]) ++ List.replicate (5 - (lg_sl ([.ref a_Sheets, .int p1, .int p2, .int p3])).length) Slot.unset).toArray = ls at hl ⊢
  have hl : lv_has ls 5 [(0, .ref a_Sheets), (1, .int p1), (2, .int p2), (3, .int p3)] := hl
  refine w_q (fun Q9 hQ9 => ?_)
  have fl18 := hts (.fieldLink RX8 18 "StickRoom$Sheets" "numbers" "[I") (by decide +kernel)
  have inX8 : ∀ w ∈ wsX80, w ∈ wsX8_become := by decide +kernel
  have fl9 := hts (.fieldLink RX8 9 "StickRoom$Sheets" "bits" "[I") (by decide +kernel)
  have fl15 := hts (.fieldLink RX8 15 "StickRoom$Sheets" "sizes" "[I") (by decide +kernel)
  have hL25 : ∀ (n25 : Nat) (l1 l4 : Int32) (Sheets_bits Sheets_sizes Sheets_numbers : Nat → Int32) (H : Heap) (locs : List Loc) (ls : Array Slot), va_P D vwCl [(a_Sheets, .inr (8, [.ref a_Sheets_bits, .ref a_Sheets_sizes, .ref a_Sheets_numbers])), (a_Sheets_bits, .inl (cI, 4, .inl Sheets_bits)), (a_Sheets_sizes, .inl (cI, 4, .inl Sheets_sizes)), (a_Sheets_numbers, .inl (cI, 96, .inl Sheets_numbers))] H → va_D A [(a_Sheets, .inr (8, [.ref a_Sheets_bits, .ref a_Sheets_sizes, .ref a_Sheets_numbers])), (a_Sheets_bits, .inl (cI, 4, .inl Sheets_bits)), (a_Sheets_sizes, .inl (cI, 4, .inl Sheets_sizes)), (a_Sheets_numbers, .inl (cI, 96, .inl Sheets_numbers))] → va_S A s.heap H locs → lv_has ls 5 [(0, .ref a_Sheets), (1, .int l1), (4, .int l4)] → f_Sheets_become_25 n25 l1 l4 Sheets_bits Sheets_sizes Sheets_numbers = some (z_Sheets_bits, z_Sheets_sizes, z_Sheets_numbers) → W p l e (headSpec wsX8_become rm_Sheets_become).room s m ([.ref a_Sheets, .int p1, .int p2, .int p3] : List Value).toArray below meth c H locs 0 0 Q9 (F0 m 25 ls []) := by
    intro n25
    induction n25 with
    | zero => intro l1 l4 Sheets_bits Sheets_sizes Sheets_numbers H locs ls hP hD hS hl hf; exact nomatch (show none = some (z_Sheets_bits, z_Sheets_sizes, z_Sheets_numbers) from hf)
    | succ n25 ih25 =>
      intro l1 l4 Sheets_bits Sheets_sizes Sheets_numbers H locs ls hP hD hS hl hf
      have hf : f_Sheets_become_25_b (f_Sheets_become_25 n25) l1 l4 Sheets_bits Sheets_sizes Sheets_numbers = some (z_Sheets_bits, z_Sheets_sizes, z_Sheets_numbers) := hf
      unfold f_Sheets_become_25_b at hf
      refine lv_iload hx hb dX8_become_25 (lv_at hl 2 rfl) ?_
      refine lv_bipush (v := 24) hx hb dX8_become_27 (by decide) ?_
      refine lv_icmp_ge (tgt := 51) hx hb dX8_become_29 (by decide) (fun c1 => ?_) (fun c1 => ?_)
      · have hf := ite_t c1 hf
        cases hf
        exact k_vret () hQ9 hx hb hr hlocks rfl hP hD hS (Nat.le_of_ble_eq_true rfl) (Nat.le_of_ble_eq_true rfl) dX8_become_51
      · have hf := ite_f c1 hf
        refine lv_aload_n hx hb dX8_become_32 rfl (lv_at hl 0 rfl) ?_
        refine va_get (D := D) (ci := 8) (v := .ref a_Sheets_numbers) (C := RX8) (T := TX8) (N := 3) hx hb hts inX8 hown hK hP 0 rfl rfl 2 (by decide) fl18 (fun _ h9 => h9) rfl dX8_become_33 ?_
        refine lv_iload_n hx hb dX8_become_36 rfl (lv_at hl 1 rfl) ?_
        refine lv_bipush (v := 24) hx hb dX8_become_37 (by decide) ?_
        refine lv_imul hx hb dX8_become_39 ?_
        refine lv_iload hx hb dX8_become_40 (lv_at hl 2 rfl) ?_
        refine lv_iadd hx hb dX8_become_42 ?_
        refine lv_iconst (v := 0) hx hb dX8_become_43 (by decide) ?_
        obtain ⟨i2, hf⟩ := ck_s hf
        refine va_iast hx hb hK hP hD hS 3 0 rfl rfl i2 dX8_become_44 (fun H locs hP hD hS => ?_)
        have hP : va_P D vwCl [(a_Sheets, .inr (8, [.ref a_Sheets_bits, .ref a_Sheets_sizes, .ref a_Sheets_numbers])), (a_Sheets_bits, .inl (cI, 4, .inl Sheets_bits)), (a_Sheets_sizes, .inl (cI, 4, .inl Sheets_sizes)), (a_Sheets_numbers, .inl (cI, 96, .inl (upd Sheets_numbers ((l1 * 24) + l4).toNatClampNeg 0)))] H := hP
        have hD : va_D A [(a_Sheets, .inr (8, [.ref a_Sheets_bits, .ref a_Sheets_sizes, .ref a_Sheets_numbers])), (a_Sheets_bits, .inl (cI, 4, .inl Sheets_bits)), (a_Sheets_sizes, .inl (cI, 4, .inl Sheets_sizes)), (a_Sheets_numbers, .inl (cI, 96, .inl (upd Sheets_numbers ((l1 * 24) + l4).toNatClampNeg 0)))] := hD
        obtain ⟨x3, ex3, hf⟩ := nm_s hf
        refine lv_iinc (v := x3) (lv' := [(4, .int x3), (0, .ref a_Sheets), (1, .int l1)]) hx hb dX8_become_45 hl (k := 2) rfl (by rw [ex3]; rfl) (by decide) rfl (fun ls hl => ?_)
        refine lv_goto (tgt := 25) hx hb dX8_become_48 (by decide) ?_
        exact ih25 l1 x3 Sheets_bits Sheets_sizes (upd Sheets_numbers ((l1 * 24) + l4).toNatClampNeg 0) H locs ls hP hD hS (lv_sub hl [1, 2, 0] rfl) hf
  unfold f_Sheets_become at hf
  refine lv_aload_n hx hb dX8_become_0 rfl (lv_at hl 0 rfl) ?_
  refine va_get (D := D) (ci := 8) (v := .ref a_Sheets_bits) (C := RX8) (T := TX8) (N := 3) hx hb hts inX8 hown hK hP 0 rfl rfl 0 (by decide) fl9 (fun _ h9 => h9) rfl dX8_become_1 ?_
  refine lv_iload_n hx hb dX8_become_4 rfl (lv_at hl 1 rfl) ?_
  refine lv_iload_n hx hb dX8_become_5 rfl (lv_at hl 2 rfl) ?_
  obtain ⟨i4, hf⟩ := ck_s hf
  refine va_iast hx hb hK hP hD hS 1 0 rfl rfl i4 dX8_become_6 (fun H locs hP hD hS => ?_)
  have hP : va_P D vwCl [(a_Sheets, .inr (8, [.ref a_Sheets_bits, .ref a_Sheets_sizes, .ref a_Sheets_numbers])), (a_Sheets_bits, .inl (cI, 4, .inl (upd Sheets_bits p1.toNatClampNeg p2))), (a_Sheets_sizes, .inl (cI, 4, .inl Sheets_sizes)), (a_Sheets_numbers, .inl (cI, 96, .inl Sheets_numbers))] H := hP
  have hD : va_D A [(a_Sheets, .inr (8, [.ref a_Sheets_bits, .ref a_Sheets_sizes, .ref a_Sheets_numbers])), (a_Sheets_bits, .inl (cI, 4, .inl (upd Sheets_bits p1.toNatClampNeg p2))), (a_Sheets_sizes, .inl (cI, 4, .inl Sheets_sizes)), (a_Sheets_numbers, .inl (cI, 96, .inl Sheets_numbers))] := hD
  refine lv_aload_n hx hb dX8_become_7 rfl (lv_at hl 0 rfl) ?_
  refine va_get (D := D) (ci := 8) (v := .ref a_Sheets_sizes) (C := RX8) (T := TX8) (N := 3) hx hb hts inX8 hown hK hP 0 rfl rfl 1 (by decide) fl15 (fun _ h9 => h9) rfl dX8_become_8 ?_
  refine lv_iload_n hx hb dX8_become_11 rfl (lv_at hl 1 rfl) ?_
  refine lv_iload_n hx hb dX8_become_12 rfl (lv_at hl 2 rfl) ?_
  refine lv_if_ne (tgt := 20) hx hb dX8_become_13 (by decide) (fun c5 => ?_) (fun c5 => ?_)
  · have hf := ite_f c5 hf
    refine lv_iload_n hx hb dX8_become_20 rfl (lv_at hl 3 rfl) ?_
    obtain ⟨i6, hf⟩ := ck_s hf
    refine va_iast hx hb hK hP hD hS 2 0 rfl rfl i6 dX8_become_21 (fun H locs hP hD hS => ?_)
    have hP : va_P D vwCl [(a_Sheets, .inr (8, [.ref a_Sheets_bits, .ref a_Sheets_sizes, .ref a_Sheets_numbers])), (a_Sheets_bits, .inl (cI, 4, .inl (upd Sheets_bits p1.toNatClampNeg p2))), (a_Sheets_sizes, .inl (cI, 4, .inl (upd Sheets_sizes p1.toNatClampNeg p3))), (a_Sheets_numbers, .inl (cI, 96, .inl Sheets_numbers))] H := hP
    have hD : va_D A [(a_Sheets, .inr (8, [.ref a_Sheets_bits, .ref a_Sheets_sizes, .ref a_Sheets_numbers])), (a_Sheets_bits, .inl (cI, 4, .inl (upd Sheets_bits p1.toNatClampNeg p2))), (a_Sheets_sizes, .inl (cI, 4, .inl (upd Sheets_sizes p1.toNatClampNeg p3))), (a_Sheets_numbers, .inl (cI, 96, .inl Sheets_numbers))] := hD
    refine lv_iconst (v := 0) hx hb dX8_become_22 (by decide) ?_
    refine lv_istore (lv' := [(4, .int 0), (0, .ref a_Sheets), (1, .int p1), (2, .int p2), (3, .int p3)]) hx hb dX8_become_23 hl (by decide) rfl (fun ls hl => ?_)
    exact hL25 fu p1 0 (upd Sheets_bits p1.toNatClampNeg p2) (upd Sheets_sizes p1.toNatClampNeg p3) Sheets_numbers H locs ls hP hD hS (lv_sub hl [1, 2, 0] rfl) hf
  · have hf := ite_t c5 hf
    refine lv_iconst (v := 0) hx hb dX8_become_16 (by decide) ?_
    refine lv_goto (tgt := 21) hx hb dX8_become_17 (by decide) ?_
    obtain ⟨i7, hf⟩ := ck_s hf
    refine va_iast hx hb hK hP hD hS 2 0 rfl rfl i7 dX8_become_21 (fun H locs hP hD hS => ?_)
    have hP : va_P D vwCl [(a_Sheets, .inr (8, [.ref a_Sheets_bits, .ref a_Sheets_sizes, .ref a_Sheets_numbers])), (a_Sheets_bits, .inl (cI, 4, .inl (upd Sheets_bits p1.toNatClampNeg p2))), (a_Sheets_sizes, .inl (cI, 4, .inl (upd Sheets_sizes p1.toNatClampNeg 0))), (a_Sheets_numbers, .inl (cI, 96, .inl Sheets_numbers))] H := hP
    have hD : va_D A [(a_Sheets, .inr (8, [.ref a_Sheets_bits, .ref a_Sheets_sizes, .ref a_Sheets_numbers])), (a_Sheets_bits, .inl (cI, 4, .inl (upd Sheets_bits p1.toNatClampNeg p2))), (a_Sheets_sizes, .inl (cI, 4, .inl (upd Sheets_sizes p1.toNatClampNeg 0))), (a_Sheets_numbers, .inl (cI, 96, .inl Sheets_numbers))] := hD
    refine lv_iconst (v := 0) hx hb dX8_become_22 (by decide) ?_
    refine lv_istore (lv' := [(4, .int 0), (0, .ref a_Sheets), (1, .int p1), (2, .int p2), (3, .int p3)]) hx hb dX8_become_23 hl (by decide) rfl (fun ls hl => ?_)
    exact hL25 fu p1 0 (upd Sheets_bits p1.toNatClampNeg p2) (upd Sheets_sizes p1.toNatClampNeg 0) Sheets_numbers H locs ls hP hD hS (lv_sub hl [1, 2, 0] rfl) hf
abbrev rm_Sheets_numberAt : Room := { frames := 0, cells := 0, slots := 0, locals := 0 }
set_option maxHeartbeats 4000000 in
set_option maxRecDepth 100000 in
theorem c_Sheets_numberAt (l : Launch) (D : va_G) (cI cZ : ClassId) (t : Nat → Nat) (a_Sheets a_Sheets_bits a_Sheets_sizes a_Sheets_numbers sz : Nat) (Sheets_numbers : Nat → Int32) (p1 p2 zr : Int32) (hf : f_Sheets_numberAt Sheets_numbers p1 p2 = some zr) : Met l yX8_numberAt wsX8_numberAt rm_Sheets_numberAt (va_Pc [.ref a_Sheets, .int p1, .int p2] (pcW D cI cZ t [(a_Sheets, .inr (8, [.ref a_Sheets_bits, .ref a_Sheets_sizes, .ref a_Sheets_numbers])), (a_Sheets_numbers, .inl (cI, 96, .inl Sheets_numbers))] sz)) (va_Qi (fun r (u : Unit) => r = zr) (fun u t' => bW D (va_A [(a_Sheets, .inr (8, [.ref a_Sheets_bits, .ref a_Sheets_sizes, .ref a_Sheets_numbers])), (a_Sheets_numbers, .inl (cI, 96, .inl Sheets_numbers))] sz) [(a_Sheets, .inr (8, [.ref a_Sheets_bits, .ref a_Sheets_sizes, .ref a_Sheets_numbers])), (a_Sheets_numbers, .inl (cI, 96, .inl Sheets_numbers))] t') (va_A [(a_Sheets, .inr (8, [.ref a_Sheets_bits, .ref a_Sheets_sizes, .ref a_Sheets_numbers])), (a_Sheets_numbers, .inl (cI, 96, .inl Sheets_numbers))] sz)) 0 0 (va_A [(a_Sheets, .inr (8, [.ref a_Sheets_bits, .ref a_Sheets_sizes, .ref a_Sheets_numbers])), (a_Sheets_numbers, .inl (cI, 96, .inl Sheets_numbers))] sz) := by
  refine Met.ofW (cc := cX8_numberAt) (maxL := 3) (ret := (some .int)) (by decide) rfl ?_
  intro p e s m args below meth c s₁ B hml hv
  obtain ⟨rfl, hsz, hP, hD0, hE⟩ := hv
  have hx := B.exec
  have hb := B.bytes
  have hr := B.returns
  have hts := atoms_spec (ws := wsX8_numberAt) B.pre
  have hown : s.vm.findClass RX8 = some m.cls := findClass_of_methodNamed B.named
  have hlocks := B.notSynchronized
  subst hsz
  have hD := hD0.self (sz := s.heap.size)
  generalize hAe : va_A [(a_Sheets, .inr (8, [.ref a_Sheets_bits, .ref a_Sheets_sizes, .ref a_Sheets_numbers])), (a_Sheets_numbers, .inl (cI, 96, .inl Sheets_numbers))] s.heap.size = A at hD hE ⊢
  have hA : ∀ q : Nat, s.heap.size ≤ q → A q := fun q h => by rw [← hAe]; exact Or.inr h
  clear hAe hD0
  have hS : va_S A s.heap s.heap [] := va_S.rf
  have hK := hE.1
  have hl := lv_entry ([.ref a_Sheets, .int p1, .int p2]) (n := 3) (Nat.le_of_ble_eq_true rfl)
  rw [lg_entry_eq]
  generalize (lg_sl ([.ref a_Sheets, .int p1, .int p2]) ++ List.replicate (3 - (lg_sl ([.ref a_Sheets, .int p1, .int p2])).length) Slot.unset).toArray = ls at hl ⊢
  have hl : lv_has ls 3 [(0, .ref a_Sheets), (1, .int p1), (2, .int p2)] := hl
  refine w_q (fun Q9 hQ9 => ?_)
  have fl18 := hts (.fieldLink RX8 18 "StickRoom$Sheets" "numbers" "[I") (by decide +kernel)
  have inX8 : ∀ w ∈ wsX80, w ∈ wsX8_numberAt := by decide +kernel
  unfold f_Sheets_numberAt at hf
  refine lv_aload_n hx hb dX8_numberAt_0 rfl (lv_at hl 0 rfl) ?_
  refine va_get (D := D) (ci := 8) (v := .ref a_Sheets_numbers) (C := RX8) (T := TX8) (N := 3) hx hb hts inX8 hown hK hP 0 rfl rfl 2 (by decide) fl18 (fun _ h9 => h9) rfl dX8_numberAt_1 ?_
  refine lv_iload_n hx hb dX8_numberAt_4 rfl (lv_at hl 1 rfl) ?_
  refine lv_bipush (v := 24) hx hb dX8_numberAt_5 (by decide) ?_
  refine lv_imul hx hb dX8_numberAt_7 ?_
  refine lv_iload_n hx hb dX8_numberAt_8 rfl (lv_at hl 2 rfl) ?_
  refine lv_iadd hx hb dX8_numberAt_9 ?_
  obtain ⟨ix1, x1, ex1, hf⟩ := rd_s hf
  refine va_iald hx hb hK hP 1 0 rfl rfl ix1 dX8_numberAt_10 ?_
  refine lv_tpx ex1 ?_
  cases hf
  exact k_iret () hQ9 hx hb hr hlocks rfl hP hD hS (Nat.le_of_ble_eq_true rfl) (Nat.le_of_ble_eq_true rfl) dX8_numberAt_11
abbrev rm_Sheets_write : Room := { frames := 0, cells := 0, slots := 0, locals := 0 }
set_option maxHeartbeats 4000000 in
set_option maxRecDepth 100000 in
theorem c_Sheets_write (l : Launch) (D : va_G) (cI cZ : ClassId) (t : Nat → Nat) (a_Sheets a_Sheets_bits a_Sheets_sizes a_Sheets_numbers sz : Nat) (Sheets_bits Sheets_numbers : Nat → Int32) (p1 p2 p3 : Int32) (z_Sheets_numbers : Nat → Int32) (hf : f_Sheets_write Sheets_bits Sheets_numbers p1 p2 p3 = some z_Sheets_numbers) : Met l yX8_write wsX8_write rm_Sheets_write (va_Pc [.ref a_Sheets, .int p1, .int p2, .int p3] (pcW D cI cZ t [(a_Sheets, .inr (8, [.ref a_Sheets_bits, .ref a_Sheets_sizes, .ref a_Sheets_numbers])), (a_Sheets_bits, .inl (cI, 4, .inl Sheets_bits)), (a_Sheets_numbers, .inl (cI, 96, .inl Sheets_numbers))] sz)) (va_Qv (fun u : Unit => u = u) (fun u t' => bW D (va_A [(a_Sheets, .inr (8, [.ref a_Sheets_bits, .ref a_Sheets_sizes, .ref a_Sheets_numbers])), (a_Sheets_bits, .inl (cI, 4, .inl Sheets_bits)), (a_Sheets_numbers, .inl (cI, 96, .inl Sheets_numbers))] sz) [(a_Sheets, .inr (8, [.ref a_Sheets_bits, .ref a_Sheets_sizes, .ref a_Sheets_numbers])), (a_Sheets_bits, .inl (cI, 4, .inl Sheets_bits)), (a_Sheets_numbers, .inl (cI, 96, .inl z_Sheets_numbers))] t') (va_A [(a_Sheets, .inr (8, [.ref a_Sheets_bits, .ref a_Sheets_sizes, .ref a_Sheets_numbers])), (a_Sheets_bits, .inl (cI, 4, .inl Sheets_bits)), (a_Sheets_numbers, .inl (cI, 96, .inl Sheets_numbers))] sz)) 0 0 (va_A [(a_Sheets, .inr (8, [.ref a_Sheets_bits, .ref a_Sheets_sizes, .ref a_Sheets_numbers])), (a_Sheets_bits, .inl (cI, 4, .inl Sheets_bits)), (a_Sheets_numbers, .inl (cI, 96, .inl Sheets_numbers))] sz) := by
  refine Met.ofW (cc := cX8_write) (maxL := 5) (ret := none) (by decide) rfl ?_
  intro p e s m args below meth c s₁ B hml hv
  obtain ⟨rfl, hsz, hP, hD0, hE⟩ := hv
  have hx := B.exec
  have hb := B.bytes
  have hr := B.returns
  have hts := atoms_spec (ws := wsX8_write) B.pre
  have hown : s.vm.findClass RX8 = some m.cls := findClass_of_methodNamed B.named
  have hlocks := B.notSynchronized
  subst hsz
  have hD := hD0.self (sz := s.heap.size)
  generalize hAe : va_A [(a_Sheets, .inr (8, [.ref a_Sheets_bits, .ref a_Sheets_sizes, .ref a_Sheets_numbers])), (a_Sheets_bits, .inl (cI, 4, .inl Sheets_bits)), (a_Sheets_numbers, .inl (cI, 96, .inl Sheets_numbers))] s.heap.size = A at hD hE ⊢
  have hA : ∀ q : Nat, s.heap.size ≤ q → A q := fun q h => by rw [← hAe]; exact Or.inr h
  clear hAe hD0
  have hS : va_S A s.heap s.heap [] := va_S.rf
  have hK := hE.1
  have hl := lv_entry ([.ref a_Sheets, .int p1, .int p2, .int p3]) (n := 5) (Nat.le_of_ble_eq_true rfl)
  rw [lg_entry_eq]
  generalize (lg_sl ([.ref a_Sheets, .int p1, .int p2, .int p3]) ++ List.replicate (5 - (lg_sl ([.ref a_Sheets, .int p1, .int p2, .int p3])).length) Slot.unset).toArray = ls at hl ⊢
  have hl : lv_has ls 5 [(0, .ref a_Sheets), (1, .int p1), (2, .int p2), (3, .int p3)] := hl
  refine w_q (fun Q9 hQ9 => ?_)
  have fl9 := hts (.fieldLink RX8 9 "StickRoom$Sheets" "bits" "[I") (by decide +kernel)
  have inX8 : ∀ w ∈ wsX80, w ∈ wsX8_write := by decide +kernel
  have fl18 := hts (.fieldLink RX8 18 "StickRoom$Sheets" "numbers" "[I") (by decide +kernel)
  unfold f_Sheets_write at hf
  refine lv_bipush (v := 32) hx hb dX8_write_0 (by decide) ?_
  refine lv_aload_n hx hb dX8_write_2 rfl (lv_at hl 0 rfl) ?_
  refine va_get (D := D) (ci := 8) (v := .ref a_Sheets_bits) (C := RX8) (T := TX8) (N := 3) hx hb hts inX8 hown hK hP 0 rfl rfl 0 (by decide) fl9 (fun _ h9 => h9) rfl dX8_write_3 ?_
  refine lv_iload_n hx hb dX8_write_6 rfl (lv_at hl 1 rfl) ?_
  obtain ⟨ix1, x1, ex1, hf⟩ := rd_s hf
  refine va_iald hx hb hK hP 1 0 rfl rfl ix1 dX8_write_7 ?_
  refine lv_tpx ex1 ?_
  refine lv_isub hx hb dX8_write_8 ?_
  obtain ⟨x2, ex2, hf⟩ := nm_s hf
  refine lv_tpx ex2 ?_
  refine lv_istore (lv' := [(4, .int x2), (0, .ref a_Sheets), (1, .int p1), (2, .int p2), (3, .int p3)]) hx hb dX8_write_9 hl (by decide) rfl (fun ls hl => ?_)
  refine lv_aload_n hx hb dX8_write_11 rfl (lv_at hl 1 rfl) ?_
  refine va_get (D := D) (ci := 8) (v := .ref a_Sheets_numbers) (C := RX8) (T := TX8) (N := 3) hx hb hts inX8 hown hK hP 0 rfl rfl 2 (by decide) fl18 (fun _ h9 => h9) rfl dX8_write_12 ?_
  refine lv_iload_n hx hb dX8_write_15 rfl (lv_at hl 2 rfl) ?_
  refine lv_bipush (v := 24) hx hb dX8_write_16 (by decide) ?_
  refine lv_imul hx hb dX8_write_18 ?_
  refine lv_iload_n hx hb dX8_write_19 rfl (lv_at hl 3 rfl) ?_
  refine lv_iadd hx hb dX8_write_20 ?_
  refine lv_iload_n hx hb dX8_write_21 rfl (lv_at hl 4 rfl) ?_
  refine lv_iload hx hb dX8_write_22 (lv_at hl 0 rfl) ?_
  refine lv_ishl hx hb dX8_write_24 ?_
  obtain ⟨x3, ex3, hf⟩ := nm_s hf
  refine lv_tpx ex3 ?_
  refine lv_iload hx hb dX8_write_25 (lv_at hl 0 rfl) ?_
  refine lv_ishr hx hb dX8_write_27 ?_
  obtain ⟨x4, ex4, hf⟩ := nm_s hf
  refine lv_tpx ex4 ?_
  obtain ⟨i5, hf⟩ := ck_s hf
  refine va_iast hx hb hK hP hD hS 2 0 rfl rfl i5 dX8_write_28 (fun H locs hP hD hS => ?_)
  have hP : va_P D vwCl [(a_Sheets, .inr (8, [.ref a_Sheets_bits, .ref a_Sheets_sizes, .ref a_Sheets_numbers])), (a_Sheets_bits, .inl (cI, 4, .inl Sheets_bits)), (a_Sheets_numbers, .inl (cI, 96, .inl (upd Sheets_numbers ((p1 * 24) + p2).toNatClampNeg x4)))] H := hP
  have hD : va_D A [(a_Sheets, .inr (8, [.ref a_Sheets_bits, .ref a_Sheets_sizes, .ref a_Sheets_numbers])), (a_Sheets_bits, .inl (cI, 4, .inl Sheets_bits)), (a_Sheets_numbers, .inl (cI, 96, .inl (upd Sheets_numbers ((p1 * 24) + p2).toNatClampNeg x4)))] := hD
  cases hf
  exact k_vret () hQ9 hx hb hr hlocks rfl hP hD hS (Nat.le_of_ble_eq_true rfl) (Nat.le_of_ble_eq_true rfl) dX8_write_29
abbrev rm_Sheets_hasSpan : Room := { frames := 0, cells := 0, slots := 0, locals := 0 }
set_option maxHeartbeats 4000000 in
set_option maxRecDepth 100000 in
theorem c_Sheets_hasSpan (l : Launch) (D : va_G) (cI cZ : ClassId) (t : Nat → Nat) (a_Sheets a_Sheets_bits a_Sheets_sizes a_Sheets_numbers sz : Nat) (Sheets_sizes : Nat → Int32) (p1 p2 p3 zr : Int32) (hf : f_Sheets_hasSpan Sheets_sizes p1 p2 p3 = some zr) : Met l yX8_hasSpan wsX8_hasSpan rm_Sheets_hasSpan (va_Pc [.ref a_Sheets, .int p1, .int p2, .int p3] (pcW D cI cZ t [(a_Sheets, .inr (8, [.ref a_Sheets_bits, .ref a_Sheets_sizes, .ref a_Sheets_numbers])), (a_Sheets_sizes, .inl (cI, 4, .inl Sheets_sizes))] sz)) (va_Qi (fun r (u : Unit) => r = zr) (fun u t' => bW D (va_A [(a_Sheets, .inr (8, [.ref a_Sheets_bits, .ref a_Sheets_sizes, .ref a_Sheets_numbers])), (a_Sheets_sizes, .inl (cI, 4, .inl Sheets_sizes))] sz) [(a_Sheets, .inr (8, [.ref a_Sheets_bits, .ref a_Sheets_sizes, .ref a_Sheets_numbers])), (a_Sheets_sizes, .inl (cI, 4, .inl Sheets_sizes))] t') (va_A [(a_Sheets, .inr (8, [.ref a_Sheets_bits, .ref a_Sheets_sizes, .ref a_Sheets_numbers])), (a_Sheets_sizes, .inl (cI, 4, .inl Sheets_sizes))] sz)) 0 0 (va_A [(a_Sheets, .inr (8, [.ref a_Sheets_bits, .ref a_Sheets_sizes, .ref a_Sheets_numbers])), (a_Sheets_sizes, .inl (cI, 4, .inl Sheets_sizes))] sz) := by
  refine Met.ofW (cc := cX8_hasSpan) (maxL := 4) (ret := (some .boolean)) (by decide) rfl ?_
  intro p e s m args below meth c s₁ B hml hv
  obtain ⟨rfl, hsz, hP, hD0, hE⟩ := hv
  have hx := B.exec
  have hb := B.bytes
  have hr := B.returns
  have hts := atoms_spec (ws := wsX8_hasSpan) B.pre
  have hown : s.vm.findClass RX8 = some m.cls := findClass_of_methodNamed B.named
  have hlocks := B.notSynchronized
  subst hsz
  have hD := hD0.self (sz := s.heap.size)
  generalize hAe : va_A [(a_Sheets, .inr (8, [.ref a_Sheets_bits, .ref a_Sheets_sizes, .ref a_Sheets_numbers])), (a_Sheets_sizes, .inl (cI, 4, .inl Sheets_sizes))] s.heap.size = A at hD hE ⊢
  have hA : ∀ q : Nat, s.heap.size ≤ q → A q := fun q h => by rw [← hAe]; exact Or.inr h
  clear hAe hD0
  have hS : va_S A s.heap s.heap [] := va_S.rf
  have hK := hE.1
  have hl := lv_entry ([.ref a_Sheets, .int p1, .int p2, .int p3]) (n := 4) (Nat.le_of_ble_eq_true rfl)
  rw [lg_entry_eq]
  generalize (lg_sl ([.ref a_Sheets, .int p1, .int p2, .int p3]) ++ List.replicate (4 - (lg_sl ([.ref a_Sheets, .int p1, .int p2, .int p3])).length) Slot.unset).toArray = ls at hl ⊢
  have hl : lv_has ls 4 [(0, .ref a_Sheets), (1, .int p1), (2, .int p2), (3, .int p3)] := hl
  refine w_q (fun Q9 hQ9 => ?_)
  have fl15 := hts (.fieldLink RX8 15 "StickRoom$Sheets" "sizes" "[I") (by decide +kernel)
  have inX8 : ∀ w ∈ wsX80, w ∈ wsX8_hasSpan := by decide +kernel
  unfold f_Sheets_hasSpan at hf
  refine lv_iload_n hx hb dX8_hasSpan_0 rfl (lv_at hl 2 rfl) ?_
  refine lv_if_lt (tgt := 34) hx hb dX8_hasSpan_1 (by decide) (fun c1 => ?_) (fun c1 => ?_)
  · have hf := ite_t c1 hf
    refine lv_iconst (v := 0) hx hb dX8_hasSpan_34 (by decide) ?_
    cases hf
    exact k_zret () hQ9 hx hb hr hlocks (Or.inl rfl) rfl hP hD hS (Nat.le_of_ble_eq_true rfl) (Nat.le_of_ble_eq_true rfl) dX8_hasSpan_35
  · have hf := ite_f c1 hf
    refine lv_iload_n hx hb dX8_hasSpan_4 rfl (lv_at hl 3 rfl) ?_
    refine lv_if_lt (tgt := 34) hx hb dX8_hasSpan_5 (by decide) (fun c2 => ?_) (fun c2 => ?_)
    · have hf := ite_t c2 hf
      refine lv_iconst (v := 0) hx hb dX8_hasSpan_34 (by decide) ?_
      cases hf
      exact k_zret () hQ9 hx hb hr hlocks (Or.inl rfl) rfl hP hD hS (Nat.le_of_ble_eq_true rfl) (Nat.le_of_ble_eq_true rfl) dX8_hasSpan_35
    · have hf := ite_f c2 hf
      refine lv_iload_n hx hb dX8_hasSpan_8 rfl (lv_at hl 2 rfl) ?_
      refine lv_aload_n hx hb dX8_hasSpan_9 rfl (lv_at hl 0 rfl) ?_
      refine va_get (D := D) (ci := 8) (v := .ref a_Sheets_sizes) (C := RX8) (T := TX8) (N := 3) hx hb hts inX8 hown hK hP 0 rfl rfl 1 (by decide) fl15 (fun _ h9 => h9) rfl dX8_hasSpan_10 ?_
      refine lv_iload_n hx hb dX8_hasSpan_13 rfl (lv_at hl 1 rfl) ?_
      obtain ⟨ix3, x3, ex3, hf⟩ := rd_s hf
      refine va_iald hx hb hK hP 1 0 rfl rfl ix3 dX8_hasSpan_14 ?_
      refine lv_tpx ex3 ?_
      refine lv_icmp_gt (tgt := 34) hx hb dX8_hasSpan_15 (by decide) (fun c4 => ?_) (fun c4 => ?_)
      · have hf := ite_t c4 hf
        refine lv_iconst (v := 0) hx hb dX8_hasSpan_34 (by decide) ?_
        cases hf
        exact k_zret () hQ9 hx hb hr hlocks (Or.inl rfl) rfl hP hD hS (Nat.le_of_ble_eq_true rfl) (Nat.le_of_ble_eq_true rfl) dX8_hasSpan_35
      · have hf := ite_f c4 hf
        refine lv_iload_n hx hb dX8_hasSpan_18 rfl (lv_at hl 3 rfl) ?_
        refine lv_aload_n hx hb dX8_hasSpan_19 rfl (lv_at hl 0 rfl) ?_
        refine va_get (D := D) (ci := 8) (v := .ref a_Sheets_sizes) (C := RX8) (T := TX8) (N := 3) hx hb hts inX8 hown hK hP 0 rfl rfl 1 (by decide) fl15 (fun _ h9 => h9) rfl dX8_hasSpan_20 ?_
        refine lv_iload_n hx hb dX8_hasSpan_23 rfl (lv_at hl 1 rfl) ?_
        obtain ⟨ix5, x5, ex5, hf⟩ := rd_s hf
        refine va_iald hx hb hK hP 1 0 rfl rfl ix5 dX8_hasSpan_24 ?_
        refine lv_tpx ex5 ?_
        refine lv_iload_n hx hb dX8_hasSpan_25 rfl (lv_at hl 2 rfl) ?_
        refine lv_isub hx hb dX8_hasSpan_26 ?_
        refine lv_icmp_gt (tgt := 34) hx hb dX8_hasSpan_27 (by decide) (fun c6 => ?_) (fun c6 => ?_)
        · have hf := ite_t c6 hf
          refine lv_iconst (v := 0) hx hb dX8_hasSpan_34 (by decide) ?_
          cases hf
          exact k_zret () hQ9 hx hb hr hlocks (Or.inl rfl) rfl hP hD hS (Nat.le_of_ble_eq_true rfl) (Nat.le_of_ble_eq_true rfl) dX8_hasSpan_35
        · have hf := ite_f c6 hf
          refine lv_iconst (v := 1) hx hb dX8_hasSpan_30 (by decide) ?_
          refine lv_goto (tgt := 35) hx hb dX8_hasSpan_31 (by decide) ?_
          cases hf
          exact k_zret () hQ9 hx hb hr hlocks (Or.inr rfl) rfl hP hD hS (Nat.le_of_ble_eq_true rfl) (Nat.le_of_ble_eq_true rfl) dX8_hasSpan_35
abbrev rm_Sheets_move : Room := { frames := 1, cells := 0, slots := 0, locals := 60 }
set_option maxHeartbeats 4000000 in
set_option maxRecDepth 100000 in
theorem c_Sheets_move (l : Launch) (D : va_G) (cI cZ : ClassId) (t : Nat → Nat) (a_Sheets a_Sheets_bits a_Sheets_sizes a_Sheets_numbers sz : Nat) (Sheets_numbers : Nat → Int32) (p1 p2 p3 p4 p5 : Int32) (z_Sheets_numbers : Nat → Int32) (hf : f_Sheets_move Sheets_numbers p1 p2 p3 p4 p5 = some z_Sheets_numbers) : Met l yX8_move wsX8_move rm_Sheets_move (va_Pc [.ref a_Sheets, .int p1, .int p2, .int p3, .int p4, .int p5] (pcW D cI cZ t [(a_Sheets, .inr (8, [.ref a_Sheets_bits, .ref a_Sheets_sizes, .ref a_Sheets_numbers])), (a_Sheets_numbers, .inl (cI, 96, .inl Sheets_numbers))] sz)) (va_Qv (fun u : Unit => u = u) (fun u t' => bW D (va_A [(a_Sheets, .inr (8, [.ref a_Sheets_bits, .ref a_Sheets_sizes, .ref a_Sheets_numbers])), (a_Sheets_numbers, .inl (cI, 96, .inl Sheets_numbers))] sz) [(a_Sheets, .inr (8, [.ref a_Sheets_bits, .ref a_Sheets_sizes, .ref a_Sheets_numbers])), (a_Sheets_numbers, .inl (cI, 96, .inl z_Sheets_numbers))] t') (va_A [(a_Sheets, .inr (8, [.ref a_Sheets_bits, .ref a_Sheets_sizes, .ref a_Sheets_numbers])), (a_Sheets_numbers, .inl (cI, 96, .inl Sheets_numbers))] sz)) 0 0 (va_A [(a_Sheets, .inr (8, [.ref a_Sheets_bits, .ref a_Sheets_sizes, .ref a_Sheets_numbers])), (a_Sheets_numbers, .inl (cI, 96, .inl Sheets_numbers))] sz) := by
  refine Met.ofW (cc := cX8_move) (maxL := 6) (ret := none) (by decide) rfl ?_
  intro p e s m args below meth c s₁ B hml hv
  obtain ⟨rfl, hsz, hP, hD0, hE⟩ := hv
  have hx := B.exec
  have hb := B.bytes
  have hr := B.returns
  have hts := atoms_spec (ws := wsX8_move) B.pre
  have hown : s.vm.findClass RX8 = some m.cls := findClass_of_methodNamed B.named
  have hlocks := B.notSynchronized
  subst hsz
  have hD := hD0.self (sz := s.heap.size)
  generalize hAe : va_A [(a_Sheets, .inr (8, [.ref a_Sheets_bits, .ref a_Sheets_sizes, .ref a_Sheets_numbers])), (a_Sheets_numbers, .inl (cI, 96, .inl Sheets_numbers))] s.heap.size = A at hD hE ⊢
  have hA : ∀ q : Nat, s.heap.size ≤ q → A q := fun q h => by rw [← hAe]; exact Or.inr h
  clear hAe hD0
  have hS : va_S A s.heap s.heap [] := va_S.rf
  have hK := hE.1
  have hl := lv_entry ([.ref a_Sheets, .int p1, .int p2, .int p3, .int p4, .int p5]) (n := 6) (Nat.le_of_ble_eq_true rfl)
  rw [lg_entry_eq]
  generalize (lg_sl ([.ref a_Sheets, .int p1, .int p2, .int p3, .int p4, .int p5]) ++ List.replicate (6 - (lg_sl ([.ref a_Sheets, .int p1, .int p2, .int p3, .int p4, .int p5])).length) Slot.unset).toArray = ls at hl ⊢
  have hl : lv_has ls 6 [(0, .ref a_Sheets), (1, .int p1), (2, .int p2), (3, .int p3), (4, .int p4), (5, .int p5)] := hl
  refine w_q (fun Q9 hQ9 => ?_)
  have fl18 := hts (.fieldLink RX8 18 "StickRoom$Sheets" "numbers" "[I") (by decide +kernel)
  have inX8 : ∀ w ∈ wsX80, w ∈ wsX8_move := by decide +kernel
  have ml21 := hts (.methodLink RX8 21 arraycopyName) (by decide +kernel)
  have ms_ac := hts (.static arraycopyName) (by decide +kernel)
  have mn_ac := hts (.native arraycopyName) (by decide +kernel)
  have mi_ac := hts (.initialized "java/lang/System") (by decide +kernel)
  unfold f_Sheets_move at hf
  refine lv_aload_n hx hb dX8_move_0 rfl (lv_at hl 0 rfl) ?_
  refine va_get (D := D) (ci := 8) (v := .ref a_Sheets_numbers) (C := RX8) (T := TX8) (N := 3) hx hb hts inX8 hown hK hP 0 rfl rfl 2 (by decide) fl18 (fun _ h9 => h9) rfl dX8_move_1 ?_
  refine lv_iload_n hx hb dX8_move_4 rfl (lv_at hl 1 rfl) ?_
  refine lv_bipush (v := 24) hx hb dX8_move_5 (by decide) ?_
  refine lv_imul hx hb dX8_move_7 ?_
  refine lv_iload_n hx hb dX8_move_8 rfl (lv_at hl 2 rfl) ?_
  refine lv_iadd hx hb dX8_move_9 ?_
  refine lv_aload_n hx hb dX8_move_10 rfl (lv_at hl 0 rfl) ?_
  refine va_get (D := D) (ci := 8) (v := .ref a_Sheets_numbers) (C := RX8) (T := TX8) (N := 3) hx hb hts inX8 hown hK hP 0 rfl rfl 2 (by decide) fl18 (fun _ h9 => h9) rfl dX8_move_11 ?_
  refine lv_iload_n hx hb dX8_move_14 rfl (lv_at hl 3 rfl) ?_
  refine lv_bipush (v := 24) hx hb dX8_move_15 (by decide) ?_
  refine lv_imul hx hb dX8_move_17 ?_
  refine lv_iload hx hb dX8_move_18 (lv_at hl 4 rfl) ?_
  refine lv_iadd hx hb dX8_move_20 ?_
  refine lv_iload hx hb dX8_move_21 (lv_at hl 5 rfl) ?_
  obtain ⟨m1, m2, m3, m4, m5, hf⟩ := mv_s hf
  refine va_copyi (ty := .int) hx hb (hml.trans hl.1.symm) hown ml21 mn_ac ms_ac mi_ac hK hP hD hS 1 1 0 0 rfl rfl rfl rfl rfl m1 m2 m3 m4 m5 (fun _ _ => rfl) (Nat.le_of_ble_eq_true rfl) (Nat.le_of_ble_eq_true rfl) dX8_move_23 (fun H locs hP hD hS => ?_)
  generalize (va_cpy Sheets_numbers Sheets_numbers ((p1 * 24) + p2).toNatClampNeg ((p3 * 24) + p4).toNatClampNeg p5.toNatClampNeg) = y1 at hP hD hf
  have hP : va_P D vwCl [(a_Sheets, .inr (8, [.ref a_Sheets_bits, .ref a_Sheets_sizes, .ref a_Sheets_numbers])), (a_Sheets_numbers, .inl (cI, 96, .inl y1))] H := hP
  have hD : va_D A [(a_Sheets, .inr (8, [.ref a_Sheets_bits, .ref a_Sheets_sizes, .ref a_Sheets_numbers])), (a_Sheets_numbers, .inl (cI, 96, .inl y1))] := hD
  cases hf
  exact k_vret () hQ9 hx hb hr hlocks rfl hP hD hS (Nat.le_of_ble_eq_true rfl) (Nat.le_of_ble_eq_true rfl) dX8_move_26
abbrev rm_Past_keepAct : Room := { frames := 1, cells := 0, slots := 0, locals := 30 }
set_option maxHeartbeats 4000000 in
set_option maxRecDepth 100000 in
theorem c_Past_keepAct (l : Launch) (D : va_G) (cI cZ : ClassId) (t : Nat → Nat) (a_Past a_Past_acts a_Past_firsts a_Past_seconds a_Past_ticks a_Past_drums a_Past_hits sz : Nat) (Past_count : Int32) (Past_acts Past_firsts Past_seconds : Nat → Int32) (Past_slot p1 p2 p3 z_Past_count : Int32) (z_Past_acts z_Past_firsts z_Past_seconds : Nat → Int32) (z_Past_slot : Int32) (hf : f_Past_keepAct Past_count Past_acts Past_firsts Past_seconds Past_slot p1 p2 p3 = some (z_Past_count, z_Past_acts, z_Past_firsts, z_Past_seconds, z_Past_slot)) : Met l yX5_keepAct wsX5_keepAct rm_Past_keepAct (va_Pc [.ref a_Past, .int p1, .int p2, .int p3] (pcW D cI cZ t [(a_Past, .inr (5, [.int Past_count, .ref a_Past_acts, .ref a_Past_firsts, .ref a_Past_seconds, .ref a_Past_ticks, .ref a_Past_drums, .ref a_Past_hits, .int Past_slot])), (a_Past_acts, .inl (cI, 20, .inl Past_acts)), (a_Past_firsts, .inl (cI, 20, .inl Past_firsts)), (a_Past_seconds, .inl (cI, 20, .inl Past_seconds))] sz)) (va_Qv (fun u : Unit => u = u) (fun u t' => bW D (va_A [(a_Past, .inr (5, [.int Past_count, .ref a_Past_acts, .ref a_Past_firsts, .ref a_Past_seconds, .ref a_Past_ticks, .ref a_Past_drums, .ref a_Past_hits, .int Past_slot])), (a_Past_acts, .inl (cI, 20, .inl Past_acts)), (a_Past_firsts, .inl (cI, 20, .inl Past_firsts)), (a_Past_seconds, .inl (cI, 20, .inl Past_seconds))] sz) [(a_Past, .inr (5, [.int z_Past_count, .ref a_Past_acts, .ref a_Past_firsts, .ref a_Past_seconds, .ref a_Past_ticks, .ref a_Past_drums, .ref a_Past_hits, .int z_Past_slot])), (a_Past_acts, .inl (cI, 20, .inl z_Past_acts)), (a_Past_firsts, .inl (cI, 20, .inl z_Past_firsts)), (a_Past_seconds, .inl (cI, 20, .inl z_Past_seconds))] t') (va_A [(a_Past, .inr (5, [.int Past_count, .ref a_Past_acts, .ref a_Past_firsts, .ref a_Past_seconds, .ref a_Past_ticks, .ref a_Past_drums, .ref a_Past_hits, .int Past_slot])), (a_Past_acts, .inl (cI, 20, .inl Past_acts)), (a_Past_firsts, .inl (cI, 20, .inl Past_firsts)), (a_Past_seconds, .inl (cI, 20, .inl Past_seconds))] sz)) 0 0 (va_A [(a_Past, .inr (5, [.int Past_count, .ref a_Past_acts, .ref a_Past_firsts, .ref a_Past_seconds, .ref a_Past_ticks, .ref a_Past_drums, .ref a_Past_hits, .int Past_slot])), (a_Past_acts, .inl (cI, 20, .inl Past_acts)), (a_Past_firsts, .inl (cI, 20, .inl Past_firsts)), (a_Past_seconds, .inl (cI, 20, .inl Past_seconds))] sz) := by
  refine Met.ofW (cc := cX5_keepAct) (maxL := 4) (ret := none) (by decide) rfl ?_
  intro p e s m args below meth c s₁ B hml hv
  obtain ⟨rfl, hsz, hP, hD0, hE⟩ := hv
  have hx := B.exec
  have hb := B.bytes
  have hr := B.returns
  have hts := atoms_spec (ws := wsX5_keepAct) B.pre
  have hown : s.vm.findClass RX5 = some m.cls := findClass_of_methodNamed B.named
  have hlocks := B.notSynchronized
  subst hsz
  have hD := hD0.self (sz := s.heap.size)
  generalize hAe : va_A [(a_Past, .inr (5, [.int Past_count, .ref a_Past_acts, .ref a_Past_firsts, .ref a_Past_seconds, .ref a_Past_ticks, .ref a_Past_drums, .ref a_Past_hits, .int Past_slot])), (a_Past_acts, .inl (cI, 20, .inl Past_acts)), (a_Past_firsts, .inl (cI, 20, .inl Past_firsts)), (a_Past_seconds, .inl (cI, 20, .inl Past_seconds))] s.heap.size = A at hD hE ⊢
  have hA : ∀ q : Nat, s.heap.size ≤ q → A q := fun q h => by rw [← hAe]; exact Or.inr h
  clear hAe hD0
  have hS : va_S A s.heap s.heap [] := va_S.rf
  have hK := hE.1
  have hl := lv_entry ([.ref a_Past, .int p1, .int p2, .int p3]) (n := 4) (Nat.le_of_ble_eq_true rfl)
  rw [lg_entry_eq]
  generalize (lg_sl ([.ref a_Past, .int p1, .int p2, .int p3]) ++ List.replicate (4 - (lg_sl ([.ref a_Past, .int p1, .int p2, .int p3])).length) Slot.unset).toArray = ls at hl ⊢
  have hl : lv_has ls 4 [(0, .ref a_Past), (1, .int p1), (2, .int p2), (3, .int p3)] := hl
  refine w_q (fun Q9 hQ9 => ?_)
  have fl34 := hts (.fieldLink RX5 34 "StickRoom$Past" "slot" "I") (by decide +kernel)
  have inX5 : ∀ w ∈ wsX50, w ∈ wsX5_keepAct := by decide +kernel
  have fl9 := hts (.fieldLink RX5 9 "StickRoom$Past" "count" "I") (by decide +kernel)
  have ml37 := hts (.methodLink RX5 37 Lib.Math.min.name) (by decide +kernel)
  have ms_min := hts (.static Lib.Math.min.name) (by decide +kernel)
  have mini := hts (.initialized "java/lang/Math") (by decide +kernel)
  have mc_min := hts (.code Lib.Math.min.name Lib.Math.min.code 2 (some .int)) (by decide +kernel)
  have fl15 := hts (.fieldLink RX5 15 "StickRoom$Past" "acts" "[I") (by decide +kernel)
  have fl19 := hts (.fieldLink RX5 19 "StickRoom$Past" "firsts" "[I") (by decide +kernel)
  have fl22 := hts (.fieldLink RX5 22 "StickRoom$Past" "seconds" "[I") (by decide +kernel)
  unfold f_Past_keepAct at hf
  refine lv_aload_n hx hb dX5_keepAct_0 rfl (lv_at hl 0 rfl) ?_
  refine lv_aload_n hx hb dX5_keepAct_1 rfl (lv_at hl 0 rfl) ?_
  refine va_get (D := D) (ci := 5) (v := .int Past_slot) (C := RX5) (T := TX5) (N := 8) hx hb hts inX5 hown hK hP 0 rfl rfl 7 (by decide) fl34 (fun _ h9 => h9) rfl dX5_keepAct_2 ?_
  refine lv_iconst (v := 1) hx hb dX5_keepAct_5 (by decide) ?_
  refine lv_iadd hx hb dX5_keepAct_6 ?_
  refine lv_bipush (v := 20) hx hb dX5_keepAct_7 (by decide) ?_
  refine lv_irem hx hb dX5_keepAct_9 (by decide) ?_
  obtain ⟨x1, ex1, hf⟩ := nm_s hf
  refine lv_tpx ex1 ?_
  refine va_put (D := D) (ci := 5) (v := .int x1) (ty := .int) (C := RX5) (T := TX5) (N := 8) hx hb hts inX5 tyX5 tyX5_ok nmX5 hown hK hP hD hS 0 rfl rfl 7 (by decide) fl34 (fun _ h9 => h9) rfl (by decide +kernel) rfl rfl (Nat.le_of_ble_eq_true rfl) dX5_keepAct_10 (fun H locs hP hD hS => ?_)
  have hP : va_P D vwCl [(a_Past, .inr (5, [.int Past_count, .ref a_Past_acts, .ref a_Past_firsts, .ref a_Past_seconds, .ref a_Past_ticks, .ref a_Past_drums, .ref a_Past_hits, .int x1])), (a_Past_acts, .inl (cI, 20, .inl Past_acts)), (a_Past_firsts, .inl (cI, 20, .inl Past_firsts)), (a_Past_seconds, .inl (cI, 20, .inl Past_seconds))] H := hP
  have hD : va_D A [(a_Past, .inr (5, [.int Past_count, .ref a_Past_acts, .ref a_Past_firsts, .ref a_Past_seconds, .ref a_Past_ticks, .ref a_Past_drums, .ref a_Past_hits, .int x1])), (a_Past_acts, .inl (cI, 20, .inl Past_acts)), (a_Past_firsts, .inl (cI, 20, .inl Past_firsts)), (a_Past_seconds, .inl (cI, 20, .inl Past_seconds))] := hD
  refine lv_aload_n hx hb dX5_keepAct_13 rfl (lv_at hl 0 rfl) ?_
  refine lv_aload_n hx hb dX5_keepAct_14 rfl (lv_at hl 0 rfl) ?_
  refine va_get (D := D) (ci := 5) (v := .int Past_count) (C := RX5) (T := TX5) (N := 8) hx hb hts inX5 hown hK hP 0 rfl rfl 0 (by decide) fl9 (fun _ h9 => h9) rfl dX5_keepAct_15 ?_
  refine lv_iconst (v := 1) hx hb dX5_keepAct_18 (by decide) ?_
  refine lv_iadd hx hb dX5_keepAct_19 ?_
  refine lv_bipush (v := 20) hx hb dX5_keepAct_20 (by decide) ?_
  refine va_mmin hx hb (hml.trans hl.1.symm) hown ml37 ms_min mini mc_min (Nat.le_of_ble_eq_true rfl) (Nat.le_of_ble_eq_true rfl) (Nat.le_of_ble_eq_true rfl) (Nat.le_of_ble_eq_true rfl) dX5_keepAct_22 ?_
  obtain ⟨x2, ex2, hf⟩ := nm_s hf
  refine lv_tpx ex2 ?_
  refine va_put (D := D) (ci := 5) (v := .int x2) (ty := .int) (C := RX5) (T := TX5) (N := 8) hx hb hts inX5 tyX5 tyX5_ok nmX5 hown hK hP hD hS 0 rfl rfl 0 (by decide) fl9 (fun _ h9 => h9) rfl (by decide +kernel) rfl rfl (Nat.le_of_ble_eq_true rfl) dX5_keepAct_25 (fun H locs hP hD hS => ?_)
  have hP : va_P D vwCl [(a_Past, .inr (5, [.int x2, .ref a_Past_acts, .ref a_Past_firsts, .ref a_Past_seconds, .ref a_Past_ticks, .ref a_Past_drums, .ref a_Past_hits, .int x1])), (a_Past_acts, .inl (cI, 20, .inl Past_acts)), (a_Past_firsts, .inl (cI, 20, .inl Past_firsts)), (a_Past_seconds, .inl (cI, 20, .inl Past_seconds))] H := hP
  have hD : va_D A [(a_Past, .inr (5, [.int x2, .ref a_Past_acts, .ref a_Past_firsts, .ref a_Past_seconds, .ref a_Past_ticks, .ref a_Past_drums, .ref a_Past_hits, .int x1])), (a_Past_acts, .inl (cI, 20, .inl Past_acts)), (a_Past_firsts, .inl (cI, 20, .inl Past_firsts)), (a_Past_seconds, .inl (cI, 20, .inl Past_seconds))] := hD
  refine lv_aload_n hx hb dX5_keepAct_28 rfl (lv_at hl 0 rfl) ?_
  refine va_get (D := D) (ci := 5) (v := .ref a_Past_acts) (C := RX5) (T := TX5) (N := 8) hx hb hts inX5 hown hK hP 0 rfl rfl 1 (by decide) fl15 (fun _ h9 => h9) rfl dX5_keepAct_29 ?_
  refine lv_aload_n hx hb dX5_keepAct_32 rfl (lv_at hl 0 rfl) ?_
  refine va_get (D := D) (ci := 5) (v := .int x1) (C := RX5) (T := TX5) (N := 8) hx hb hts inX5 hown hK hP 0 rfl rfl 7 (by decide) fl34 (fun _ h9 => h9) rfl dX5_keepAct_33 ?_
  refine lv_iload_n hx hb dX5_keepAct_36 rfl (lv_at hl 1 rfl) ?_
  obtain ⟨i3, hf⟩ := ck_s hf
  refine va_iast hx hb hK hP hD hS 1 0 rfl rfl i3 dX5_keepAct_37 (fun H locs hP hD hS => ?_)
  have hP : va_P D vwCl [(a_Past, .inr (5, [.int x2, .ref a_Past_acts, .ref a_Past_firsts, .ref a_Past_seconds, .ref a_Past_ticks, .ref a_Past_drums, .ref a_Past_hits, .int x1])), (a_Past_acts, .inl (cI, 20, .inl (upd Past_acts x1.toNatClampNeg p1))), (a_Past_firsts, .inl (cI, 20, .inl Past_firsts)), (a_Past_seconds, .inl (cI, 20, .inl Past_seconds))] H := hP
  have hD : va_D A [(a_Past, .inr (5, [.int x2, .ref a_Past_acts, .ref a_Past_firsts, .ref a_Past_seconds, .ref a_Past_ticks, .ref a_Past_drums, .ref a_Past_hits, .int x1])), (a_Past_acts, .inl (cI, 20, .inl (upd Past_acts x1.toNatClampNeg p1))), (a_Past_firsts, .inl (cI, 20, .inl Past_firsts)), (a_Past_seconds, .inl (cI, 20, .inl Past_seconds))] := hD
  refine lv_aload_n hx hb dX5_keepAct_38 rfl (lv_at hl 0 rfl) ?_
  refine va_get (D := D) (ci := 5) (v := .ref a_Past_firsts) (C := RX5) (T := TX5) (N := 8) hx hb hts inX5 hown hK hP 0 rfl rfl 2 (by decide) fl19 (fun _ h9 => h9) rfl dX5_keepAct_39 ?_
  refine lv_aload_n hx hb dX5_keepAct_42 rfl (lv_at hl 0 rfl) ?_
  refine va_get (D := D) (ci := 5) (v := .int x1) (C := RX5) (T := TX5) (N := 8) hx hb hts inX5 hown hK hP 0 rfl rfl 7 (by decide) fl34 (fun _ h9 => h9) rfl dX5_keepAct_43 ?_
  refine lv_iload_n hx hb dX5_keepAct_46 rfl (lv_at hl 2 rfl) ?_
  obtain ⟨i4, hf⟩ := ck_s hf
  refine va_iast hx hb hK hP hD hS 2 0 rfl rfl i4 dX5_keepAct_47 (fun H locs hP hD hS => ?_)
  have hP : va_P D vwCl [(a_Past, .inr (5, [.int x2, .ref a_Past_acts, .ref a_Past_firsts, .ref a_Past_seconds, .ref a_Past_ticks, .ref a_Past_drums, .ref a_Past_hits, .int x1])), (a_Past_acts, .inl (cI, 20, .inl (upd Past_acts x1.toNatClampNeg p1))), (a_Past_firsts, .inl (cI, 20, .inl (upd Past_firsts x1.toNatClampNeg p2))), (a_Past_seconds, .inl (cI, 20, .inl Past_seconds))] H := hP
  have hD : va_D A [(a_Past, .inr (5, [.int x2, .ref a_Past_acts, .ref a_Past_firsts, .ref a_Past_seconds, .ref a_Past_ticks, .ref a_Past_drums, .ref a_Past_hits, .int x1])), (a_Past_acts, .inl (cI, 20, .inl (upd Past_acts x1.toNatClampNeg p1))), (a_Past_firsts, .inl (cI, 20, .inl (upd Past_firsts x1.toNatClampNeg p2))), (a_Past_seconds, .inl (cI, 20, .inl Past_seconds))] := hD
  refine lv_aload_n hx hb dX5_keepAct_48 rfl (lv_at hl 0 rfl) ?_
  refine va_get (D := D) (ci := 5) (v := .ref a_Past_seconds) (C := RX5) (T := TX5) (N := 8) hx hb hts inX5 hown hK hP 0 rfl rfl 3 (by decide) fl22 (fun _ h9 => h9) rfl dX5_keepAct_49 ?_
  refine lv_aload_n hx hb dX5_keepAct_52 rfl (lv_at hl 0 rfl) ?_
  refine va_get (D := D) (ci := 5) (v := .int x1) (C := RX5) (T := TX5) (N := 8) hx hb hts inX5 hown hK hP 0 rfl rfl 7 (by decide) fl34 (fun _ h9 => h9) rfl dX5_keepAct_53 ?_
  refine lv_iload_n hx hb dX5_keepAct_56 rfl (lv_at hl 3 rfl) ?_
  obtain ⟨i5, hf⟩ := ck_s hf
  refine va_iast hx hb hK hP hD hS 3 0 rfl rfl i5 dX5_keepAct_57 (fun H locs hP hD hS => ?_)
  have hP : va_P D vwCl [(a_Past, .inr (5, [.int x2, .ref a_Past_acts, .ref a_Past_firsts, .ref a_Past_seconds, .ref a_Past_ticks, .ref a_Past_drums, .ref a_Past_hits, .int x1])), (a_Past_acts, .inl (cI, 20, .inl (upd Past_acts x1.toNatClampNeg p1))), (a_Past_firsts, .inl (cI, 20, .inl (upd Past_firsts x1.toNatClampNeg p2))), (a_Past_seconds, .inl (cI, 20, .inl (upd Past_seconds x1.toNatClampNeg p3)))] H := hP
  have hD : va_D A [(a_Past, .inr (5, [.int x2, .ref a_Past_acts, .ref a_Past_firsts, .ref a_Past_seconds, .ref a_Past_ticks, .ref a_Past_drums, .ref a_Past_hits, .int x1])), (a_Past_acts, .inl (cI, 20, .inl (upd Past_acts x1.toNatClampNeg p1))), (a_Past_firsts, .inl (cI, 20, .inl (upd Past_firsts x1.toNatClampNeg p2))), (a_Past_seconds, .inl (cI, 20, .inl (upd Past_seconds x1.toNatClampNeg p3)))] := hD
  cases hf
  exact k_vret () hQ9 hx hb hr hlocks rfl hP hD hS (Nat.le_of_ble_eq_true rfl) (Nat.le_of_ble_eq_true rfl) dX5_keepAct_58
abbrev rm_Past_keepPlace : Room := { frames := 0, cells := 0, slots := 0, locals := 0 }
set_option maxHeartbeats 4000000 in
set_option maxRecDepth 100000 in
theorem c_Past_keepPlace (l : Launch) (D : va_G) (cI cZ : ClassId) (t : Nat → Nat) (a_Past a_Past_acts a_Past_firsts a_Past_seconds a_Past_ticks a_Past_drums a_Past_hits sz : Nat) (Past_ticks Past_drums : Nat → Int32) (Past_slot Past_count p1 p2 : Int32) (z_Past_ticks z_Past_drums : Nat → Int32) (hf : f_Past_keepPlace Past_ticks Past_drums Past_slot p1 p2 = some (z_Past_ticks, z_Past_drums)) : Met l yX5_keepPlace wsX5_keepPlace rm_Past_keepPlace (va_Pc [.ref a_Past, .int p1, .int p2] (pcW D cI cZ t [(a_Past, .inr (5, [.int Past_count, .ref a_Past_acts, .ref a_Past_firsts, .ref a_Past_seconds, .ref a_Past_ticks, .ref a_Past_drums, .ref a_Past_hits, .int Past_slot])), (a_Past_ticks, .inl (cI, 20, .inl Past_ticks)), (a_Past_drums, .inl (cI, 20, .inl Past_drums))] sz)) (va_Qv (fun u : Unit => u = u) (fun u t' => bW D (va_A [(a_Past, .inr (5, [.int Past_count, .ref a_Past_acts, .ref a_Past_firsts, .ref a_Past_seconds, .ref a_Past_ticks, .ref a_Past_drums, .ref a_Past_hits, .int Past_slot])), (a_Past_ticks, .inl (cI, 20, .inl Past_ticks)), (a_Past_drums, .inl (cI, 20, .inl Past_drums))] sz) [(a_Past, .inr (5, [.int Past_count, .ref a_Past_acts, .ref a_Past_firsts, .ref a_Past_seconds, .ref a_Past_ticks, .ref a_Past_drums, .ref a_Past_hits, .int Past_slot])), (a_Past_ticks, .inl (cI, 20, .inl z_Past_ticks)), (a_Past_drums, .inl (cI, 20, .inl z_Past_drums))] t') (va_A [(a_Past, .inr (5, [.int Past_count, .ref a_Past_acts, .ref a_Past_firsts, .ref a_Past_seconds, .ref a_Past_ticks, .ref a_Past_drums, .ref a_Past_hits, .int Past_slot])), (a_Past_ticks, .inl (cI, 20, .inl Past_ticks)), (a_Past_drums, .inl (cI, 20, .inl Past_drums))] sz)) 0 0 (va_A [(a_Past, .inr (5, [.int Past_count, .ref a_Past_acts, .ref a_Past_firsts, .ref a_Past_seconds, .ref a_Past_ticks, .ref a_Past_drums, .ref a_Past_hits, .int Past_slot])), (a_Past_ticks, .inl (cI, 20, .inl Past_ticks)), (a_Past_drums, .inl (cI, 20, .inl Past_drums))] sz) := by
  refine Met.ofW (cc := cX5_keepPlace) (maxL := 3) (ret := none) (by decide) rfl ?_
  intro p e s m args below meth c s₁ B hml hv
  obtain ⟨rfl, hsz, hP, hD0, hE⟩ := hv
  have hx := B.exec
  have hb := B.bytes
  have hr := B.returns
  have hts := atoms_spec (ws := wsX5_keepPlace) B.pre
  have hown : s.vm.findClass RX5 = some m.cls := findClass_of_methodNamed B.named
  have hlocks := B.notSynchronized
  subst hsz
  have hD := hD0.self (sz := s.heap.size)
  generalize hAe : va_A [(a_Past, .inr (5, [.int Past_count, .ref a_Past_acts, .ref a_Past_firsts, .ref a_Past_seconds, .ref a_Past_ticks, .ref a_Past_drums, .ref a_Past_hits, .int Past_slot])), (a_Past_ticks, .inl (cI, 20, .inl Past_ticks)), (a_Past_drums, .inl (cI, 20, .inl Past_drums))] s.heap.size = A at hD hE ⊢
  have hA : ∀ q : Nat, s.heap.size ≤ q → A q := fun q h => by rw [← hAe]; exact Or.inr h
  clear hAe hD0
  have hS : va_S A s.heap s.heap [] := va_S.rf
  have hK := hE.1
  have hl := lv_entry ([.ref a_Past, .int p1, .int p2]) (n := 3) (Nat.le_of_ble_eq_true rfl)
  rw [lg_entry_eq]
  generalize (lg_sl ([.ref a_Past, .int p1, .int p2]) ++ List.replicate (3 - (lg_sl ([.ref a_Past, .int p1, .int p2])).length) Slot.unset).toArray = ls at hl ⊢
  have hl : lv_has ls 3 [(0, .ref a_Past), (1, .int p1), (2, .int p2)] := hl
  refine w_q (fun Q9 hQ9 => ?_)
  have fl25 := hts (.fieldLink RX5 25 "StickRoom$Past" "ticks" "[I") (by decide +kernel)
  have inX5 : ∀ w ∈ wsX50, w ∈ wsX5_keepPlace := by decide +kernel
  have fl34 := hts (.fieldLink RX5 34 "StickRoom$Past" "slot" "I") (by decide +kernel)
  have fl28 := hts (.fieldLink RX5 28 "StickRoom$Past" "drums" "[I") (by decide +kernel)
  unfold f_Past_keepPlace at hf
  refine lv_aload_n hx hb dX5_keepPlace_0 rfl (lv_at hl 0 rfl) ?_
  refine va_get (D := D) (ci := 5) (v := .ref a_Past_ticks) (C := RX5) (T := TX5) (N := 8) hx hb hts inX5 hown hK hP 0 rfl rfl 4 (by decide) fl25 (fun _ h9 => h9) rfl dX5_keepPlace_1 ?_
  refine lv_aload_n hx hb dX5_keepPlace_4 rfl (lv_at hl 0 rfl) ?_
  refine va_get (D := D) (ci := 5) (v := .int Past_slot) (C := RX5) (T := TX5) (N := 8) hx hb hts inX5 hown hK hP 0 rfl rfl 7 (by decide) fl34 (fun _ h9 => h9) rfl dX5_keepPlace_5 ?_
  refine lv_iload_n hx hb dX5_keepPlace_8 rfl (lv_at hl 1 rfl) ?_
  obtain ⟨i1, hf⟩ := ck_s hf
  refine va_iast hx hb hK hP hD hS 1 0 rfl rfl i1 dX5_keepPlace_9 (fun H locs hP hD hS => ?_)
  have hP : va_P D vwCl [(a_Past, .inr (5, [.int Past_count, .ref a_Past_acts, .ref a_Past_firsts, .ref a_Past_seconds, .ref a_Past_ticks, .ref a_Past_drums, .ref a_Past_hits, .int Past_slot])), (a_Past_ticks, .inl (cI, 20, .inl (upd Past_ticks Past_slot.toNatClampNeg p1))), (a_Past_drums, .inl (cI, 20, .inl Past_drums))] H := hP
  have hD : va_D A [(a_Past, .inr (5, [.int Past_count, .ref a_Past_acts, .ref a_Past_firsts, .ref a_Past_seconds, .ref a_Past_ticks, .ref a_Past_drums, .ref a_Past_hits, .int Past_slot])), (a_Past_ticks, .inl (cI, 20, .inl (upd Past_ticks Past_slot.toNatClampNeg p1))), (a_Past_drums, .inl (cI, 20, .inl Past_drums))] := hD
  refine lv_aload_n hx hb dX5_keepPlace_10 rfl (lv_at hl 0 rfl) ?_
  refine va_get (D := D) (ci := 5) (v := .ref a_Past_drums) (C := RX5) (T := TX5) (N := 8) hx hb hts inX5 hown hK hP 0 rfl rfl 5 (by decide) fl28 (fun _ h9 => h9) rfl dX5_keepPlace_11 ?_
  refine lv_aload_n hx hb dX5_keepPlace_14 rfl (lv_at hl 0 rfl) ?_
  refine va_get (D := D) (ci := 5) (v := .int Past_slot) (C := RX5) (T := TX5) (N := 8) hx hb hts inX5 hown hK hP 0 rfl rfl 7 (by decide) fl34 (fun _ h9 => h9) rfl dX5_keepPlace_15 ?_
  refine lv_iload_n hx hb dX5_keepPlace_18 rfl (lv_at hl 2 rfl) ?_
  obtain ⟨i2, hf⟩ := ck_s hf
  refine va_iast hx hb hK hP hD hS 2 0 rfl rfl i2 dX5_keepPlace_19 (fun H locs hP hD hS => ?_)
  have hP : va_P D vwCl [(a_Past, .inr (5, [.int Past_count, .ref a_Past_acts, .ref a_Past_firsts, .ref a_Past_seconds, .ref a_Past_ticks, .ref a_Past_drums, .ref a_Past_hits, .int Past_slot])), (a_Past_ticks, .inl (cI, 20, .inl (upd Past_ticks Past_slot.toNatClampNeg p1))), (a_Past_drums, .inl (cI, 20, .inl (upd Past_drums Past_slot.toNatClampNeg p2)))] H := hP
  have hD : va_D A [(a_Past, .inr (5, [.int Past_count, .ref a_Past_acts, .ref a_Past_firsts, .ref a_Past_seconds, .ref a_Past_ticks, .ref a_Past_drums, .ref a_Past_hits, .int Past_slot])), (a_Past_ticks, .inl (cI, 20, .inl (upd Past_ticks Past_slot.toNatClampNeg p1))), (a_Past_drums, .inl (cI, 20, .inl (upd Past_drums Past_slot.toNatClampNeg p2)))] := hD
  cases hf
  exact k_vret () hQ9 hx hb hr hlocks rfl hP hD hS (Nat.le_of_ble_eq_true rfl) (Nat.le_of_ble_eq_true rfl) dX5_keepPlace_20
abbrev rm_Past_act : Room := { frames := 0, cells := 0, slots := 0, locals := 0 }
set_option maxHeartbeats 4000000 in
set_option maxRecDepth 100000 in
theorem c_Past_act (l : Launch) (D : va_G) (cI cZ : ClassId) (t : Nat → Nat) (a_Past a_Past_acts a_Past_firsts a_Past_seconds a_Past_ticks a_Past_drums a_Past_hits sz : Nat) (Past_acts : Nat → Int32) (Past_slot Past_count zr : Int32) (hf : f_Past_act Past_acts Past_slot = some zr) : Met l yX5_act wsX5_act rm_Past_act (va_Pc [.ref a_Past] (pcW D cI cZ t [(a_Past, .inr (5, [.int Past_count, .ref a_Past_acts, .ref a_Past_firsts, .ref a_Past_seconds, .ref a_Past_ticks, .ref a_Past_drums, .ref a_Past_hits, .int Past_slot])), (a_Past_acts, .inl (cI, 20, .inl Past_acts))] sz)) (va_Qi (fun r (u : Unit) => r = zr) (fun u t' => bW D (va_A [(a_Past, .inr (5, [.int Past_count, .ref a_Past_acts, .ref a_Past_firsts, .ref a_Past_seconds, .ref a_Past_ticks, .ref a_Past_drums, .ref a_Past_hits, .int Past_slot])), (a_Past_acts, .inl (cI, 20, .inl Past_acts))] sz) [(a_Past, .inr (5, [.int Past_count, .ref a_Past_acts, .ref a_Past_firsts, .ref a_Past_seconds, .ref a_Past_ticks, .ref a_Past_drums, .ref a_Past_hits, .int Past_slot])), (a_Past_acts, .inl (cI, 20, .inl Past_acts))] t') (va_A [(a_Past, .inr (5, [.int Past_count, .ref a_Past_acts, .ref a_Past_firsts, .ref a_Past_seconds, .ref a_Past_ticks, .ref a_Past_drums, .ref a_Past_hits, .int Past_slot])), (a_Past_acts, .inl (cI, 20, .inl Past_acts))] sz)) 0 0 (va_A [(a_Past, .inr (5, [.int Past_count, .ref a_Past_acts, .ref a_Past_firsts, .ref a_Past_seconds, .ref a_Past_ticks, .ref a_Past_drums, .ref a_Past_hits, .int Past_slot])), (a_Past_acts, .inl (cI, 20, .inl Past_acts))] sz) := by
  refine Met.ofW (cc := cX5_act) (maxL := 1) (ret := (some .int)) (by decide) rfl ?_
  intro p e s m args below meth c s₁ B hml hv
  obtain ⟨rfl, hsz, hP, hD0, hE⟩ := hv
  have hx := B.exec
  have hb := B.bytes
  have hr := B.returns
  have hts := atoms_spec (ws := wsX5_act) B.pre
  have hown : s.vm.findClass RX5 = some m.cls := findClass_of_methodNamed B.named
  have hlocks := B.notSynchronized
  subst hsz
  have hD := hD0.self (sz := s.heap.size)
  generalize hAe : va_A [(a_Past, .inr (5, [.int Past_count, .ref a_Past_acts, .ref a_Past_firsts, .ref a_Past_seconds, .ref a_Past_ticks, .ref a_Past_drums, .ref a_Past_hits, .int Past_slot])), (a_Past_acts, .inl (cI, 20, .inl Past_acts))] s.heap.size = A at hD hE ⊢
  have hA : ∀ q : Nat, s.heap.size ≤ q → A q := fun q h => by rw [← hAe]; exact Or.inr h
  clear hAe hD0
  have hS : va_S A s.heap s.heap [] := va_S.rf
  have hK := hE.1
  have hl := lv_entry ([.ref a_Past]) (n := 1) (Nat.le_of_ble_eq_true rfl)
  rw [lg_entry_eq]
  generalize (lg_sl ([.ref a_Past]) ++ List.replicate (1 - (lg_sl ([.ref a_Past])).length) Slot.unset).toArray = ls at hl ⊢
  have hl : lv_has ls 1 [(0, .ref a_Past)] := hl
  refine w_q (fun Q9 hQ9 => ?_)
  have fl15 := hts (.fieldLink RX5 15 "StickRoom$Past" "acts" "[I") (by decide +kernel)
  have inX5 : ∀ w ∈ wsX50, w ∈ wsX5_act := by decide +kernel
  have fl34 := hts (.fieldLink RX5 34 "StickRoom$Past" "slot" "I") (by decide +kernel)
  unfold f_Past_act at hf
  refine lv_aload_n hx hb dX5_act_0 rfl (lv_at hl 0 rfl) ?_
  refine va_get (D := D) (ci := 5) (v := .ref a_Past_acts) (C := RX5) (T := TX5) (N := 8) hx hb hts inX5 hown hK hP 0 rfl rfl 1 (by decide) fl15 (fun _ h9 => h9) rfl dX5_act_1 ?_
  refine lv_aload_n hx hb dX5_act_4 rfl (lv_at hl 0 rfl) ?_
  refine va_get (D := D) (ci := 5) (v := .int Past_slot) (C := RX5) (T := TX5) (N := 8) hx hb hts inX5 hown hK hP 0 rfl rfl 7 (by decide) fl34 (fun _ h9 => h9) rfl dX5_act_5 ?_
  obtain ⟨ix1, x1, ex1, hf⟩ := rd_s hf
  refine va_iald hx hb hK hP 1 0 rfl rfl ix1 dX5_act_8 ?_
  refine lv_tpx ex1 ?_
  cases hf
  exact k_iret () hQ9 hx hb hr hlocks rfl hP hD hS (Nat.le_of_ble_eq_true rfl) (Nat.le_of_ble_eq_true rfl) dX5_act_9
abbrev rm_Past_first : Room := { frames := 0, cells := 0, slots := 0, locals := 0 }
set_option maxHeartbeats 4000000 in
set_option maxRecDepth 100000 in
theorem c_Past_first (l : Launch) (D : va_G) (cI cZ : ClassId) (t : Nat → Nat) (a_Past a_Past_acts a_Past_firsts a_Past_seconds a_Past_ticks a_Past_drums a_Past_hits sz : Nat) (Past_firsts : Nat → Int32) (Past_slot Past_count zr : Int32) (hf : f_Past_first Past_firsts Past_slot = some zr) : Met l yX5_first wsX5_first rm_Past_first (va_Pc [.ref a_Past] (pcW D cI cZ t [(a_Past, .inr (5, [.int Past_count, .ref a_Past_acts, .ref a_Past_firsts, .ref a_Past_seconds, .ref a_Past_ticks, .ref a_Past_drums, .ref a_Past_hits, .int Past_slot])), (a_Past_firsts, .inl (cI, 20, .inl Past_firsts))] sz)) (va_Qi (fun r (u : Unit) => r = zr) (fun u t' => bW D (va_A [(a_Past, .inr (5, [.int Past_count, .ref a_Past_acts, .ref a_Past_firsts, .ref a_Past_seconds, .ref a_Past_ticks, .ref a_Past_drums, .ref a_Past_hits, .int Past_slot])), (a_Past_firsts, .inl (cI, 20, .inl Past_firsts))] sz) [(a_Past, .inr (5, [.int Past_count, .ref a_Past_acts, .ref a_Past_firsts, .ref a_Past_seconds, .ref a_Past_ticks, .ref a_Past_drums, .ref a_Past_hits, .int Past_slot])), (a_Past_firsts, .inl (cI, 20, .inl Past_firsts))] t') (va_A [(a_Past, .inr (5, [.int Past_count, .ref a_Past_acts, .ref a_Past_firsts, .ref a_Past_seconds, .ref a_Past_ticks, .ref a_Past_drums, .ref a_Past_hits, .int Past_slot])), (a_Past_firsts, .inl (cI, 20, .inl Past_firsts))] sz)) 0 0 (va_A [(a_Past, .inr (5, [.int Past_count, .ref a_Past_acts, .ref a_Past_firsts, .ref a_Past_seconds, .ref a_Past_ticks, .ref a_Past_drums, .ref a_Past_hits, .int Past_slot])), (a_Past_firsts, .inl (cI, 20, .inl Past_firsts))] sz) := by
  refine Met.ofW (cc := cX5_first) (maxL := 1) (ret := (some .int)) (by decide) rfl ?_
  intro p e s m args below meth c s₁ B hml hv
  obtain ⟨rfl, hsz, hP, hD0, hE⟩ := hv
  have hx := B.exec
  have hb := B.bytes
  have hr := B.returns
  have hts := atoms_spec (ws := wsX5_first) B.pre
  have hown : s.vm.findClass RX5 = some m.cls := findClass_of_methodNamed B.named
  have hlocks := B.notSynchronized
  subst hsz
  have hD := hD0.self (sz := s.heap.size)
  generalize hAe : va_A [(a_Past, .inr (5, [.int Past_count, .ref a_Past_acts, .ref a_Past_firsts, .ref a_Past_seconds, .ref a_Past_ticks, .ref a_Past_drums, .ref a_Past_hits, .int Past_slot])), (a_Past_firsts, .inl (cI, 20, .inl Past_firsts))] s.heap.size = A at hD hE ⊢
  have hA : ∀ q : Nat, s.heap.size ≤ q → A q := fun q h => by rw [← hAe]; exact Or.inr h
  clear hAe hD0
  have hS : va_S A s.heap s.heap [] := va_S.rf
  have hK := hE.1
  have hl := lv_entry ([.ref a_Past]) (n := 1) (Nat.le_of_ble_eq_true rfl)
  rw [lg_entry_eq]
  generalize (lg_sl ([.ref a_Past]) ++ List.replicate (1 - (lg_sl ([.ref a_Past])).length) Slot.unset).toArray = ls at hl ⊢
  have hl : lv_has ls 1 [(0, .ref a_Past)] := hl
  refine w_q (fun Q9 hQ9 => ?_)
  have fl19 := hts (.fieldLink RX5 19 "StickRoom$Past" "firsts" "[I") (by decide +kernel)
  have inX5 : ∀ w ∈ wsX50, w ∈ wsX5_first := by decide +kernel
  have fl34 := hts (.fieldLink RX5 34 "StickRoom$Past" "slot" "I") (by decide +kernel)
  unfold f_Past_first at hf
  refine lv_aload_n hx hb dX5_first_0 rfl (lv_at hl 0 rfl) ?_
  refine va_get (D := D) (ci := 5) (v := .ref a_Past_firsts) (C := RX5) (T := TX5) (N := 8) hx hb hts inX5 hown hK hP 0 rfl rfl 2 (by decide) fl19 (fun _ h9 => h9) rfl dX5_first_1 ?_
  refine lv_aload_n hx hb dX5_first_4 rfl (lv_at hl 0 rfl) ?_
  refine va_get (D := D) (ci := 5) (v := .int Past_slot) (C := RX5) (T := TX5) (N := 8) hx hb hts inX5 hown hK hP 0 rfl rfl 7 (by decide) fl34 (fun _ h9 => h9) rfl dX5_first_5 ?_
  obtain ⟨ix1, x1, ex1, hf⟩ := rd_s hf
  refine va_iald hx hb hK hP 1 0 rfl rfl ix1 dX5_first_8 ?_
  refine lv_tpx ex1 ?_
  cases hf
  exact k_iret () hQ9 hx hb hr hlocks rfl hP hD hS (Nat.le_of_ble_eq_true rfl) (Nat.le_of_ble_eq_true rfl) dX5_first_9
abbrev rm_Past_second : Room := { frames := 0, cells := 0, slots := 0, locals := 0 }
set_option maxHeartbeats 4000000 in
set_option maxRecDepth 100000 in
theorem c_Past_second (l : Launch) (D : va_G) (cI cZ : ClassId) (t : Nat → Nat) (a_Past a_Past_acts a_Past_firsts a_Past_seconds a_Past_ticks a_Past_drums a_Past_hits sz : Nat) (Past_seconds : Nat → Int32) (Past_slot Past_count zr : Int32) (hf : f_Past_second Past_seconds Past_slot = some zr) : Met l yX5_second wsX5_second rm_Past_second (va_Pc [.ref a_Past] (pcW D cI cZ t [(a_Past, .inr (5, [.int Past_count, .ref a_Past_acts, .ref a_Past_firsts, .ref a_Past_seconds, .ref a_Past_ticks, .ref a_Past_drums, .ref a_Past_hits, .int Past_slot])), (a_Past_seconds, .inl (cI, 20, .inl Past_seconds))] sz)) (va_Qi (fun r (u : Unit) => r = zr) (fun u t' => bW D (va_A [(a_Past, .inr (5, [.int Past_count, .ref a_Past_acts, .ref a_Past_firsts, .ref a_Past_seconds, .ref a_Past_ticks, .ref a_Past_drums, .ref a_Past_hits, .int Past_slot])), (a_Past_seconds, .inl (cI, 20, .inl Past_seconds))] sz) [(a_Past, .inr (5, [.int Past_count, .ref a_Past_acts, .ref a_Past_firsts, .ref a_Past_seconds, .ref a_Past_ticks, .ref a_Past_drums, .ref a_Past_hits, .int Past_slot])), (a_Past_seconds, .inl (cI, 20, .inl Past_seconds))] t') (va_A [(a_Past, .inr (5, [.int Past_count, .ref a_Past_acts, .ref a_Past_firsts, .ref a_Past_seconds, .ref a_Past_ticks, .ref a_Past_drums, .ref a_Past_hits, .int Past_slot])), (a_Past_seconds, .inl (cI, 20, .inl Past_seconds))] sz)) 0 0 (va_A [(a_Past, .inr (5, [.int Past_count, .ref a_Past_acts, .ref a_Past_firsts, .ref a_Past_seconds, .ref a_Past_ticks, .ref a_Past_drums, .ref a_Past_hits, .int Past_slot])), (a_Past_seconds, .inl (cI, 20, .inl Past_seconds))] sz) := by
  refine Met.ofW (cc := cX5_second) (maxL := 1) (ret := (some .int)) (by decide) rfl ?_
  intro p e s m args below meth c s₁ B hml hv
  obtain ⟨rfl, hsz, hP, hD0, hE⟩ := hv
  have hx := B.exec
  have hb := B.bytes
  have hr := B.returns
  have hts := atoms_spec (ws := wsX5_second) B.pre
  have hown : s.vm.findClass RX5 = some m.cls := findClass_of_methodNamed B.named
  have hlocks := B.notSynchronized
  subst hsz
  have hD := hD0.self (sz := s.heap.size)
  generalize hAe : va_A [(a_Past, .inr (5, [.int Past_count, .ref a_Past_acts, .ref a_Past_firsts, .ref a_Past_seconds, .ref a_Past_ticks, .ref a_Past_drums, .ref a_Past_hits, .int Past_slot])), (a_Past_seconds, .inl (cI, 20, .inl Past_seconds))] s.heap.size = A at hD hE ⊢
  have hA : ∀ q : Nat, s.heap.size ≤ q → A q := fun q h => by rw [← hAe]; exact Or.inr h
  clear hAe hD0
  have hS : va_S A s.heap s.heap [] := va_S.rf
  have hK := hE.1
  have hl := lv_entry ([.ref a_Past]) (n := 1) (Nat.le_of_ble_eq_true rfl)
  rw [lg_entry_eq]
  generalize (lg_sl ([.ref a_Past]) ++ List.replicate (1 - (lg_sl ([.ref a_Past])).length) Slot.unset).toArray = ls at hl ⊢
  have hl : lv_has ls 1 [(0, .ref a_Past)] := hl
  refine w_q (fun Q9 hQ9 => ?_)
  have fl22 := hts (.fieldLink RX5 22 "StickRoom$Past" "seconds" "[I") (by decide +kernel)
  have inX5 : ∀ w ∈ wsX50, w ∈ wsX5_second := by decide +kernel
  have fl34 := hts (.fieldLink RX5 34 "StickRoom$Past" "slot" "I") (by decide +kernel)
  unfold f_Past_second at hf
  refine lv_aload_n hx hb dX5_second_0 rfl (lv_at hl 0 rfl) ?_
  refine va_get (D := D) (ci := 5) (v := .ref a_Past_seconds) (C := RX5) (T := TX5) (N := 8) hx hb hts inX5 hown hK hP 0 rfl rfl 3 (by decide) fl22 (fun _ h9 => h9) rfl dX5_second_1 ?_
  refine lv_aload_n hx hb dX5_second_4 rfl (lv_at hl 0 rfl) ?_
  refine va_get (D := D) (ci := 5) (v := .int Past_slot) (C := RX5) (T := TX5) (N := 8) hx hb hts inX5 hown hK hP 0 rfl rfl 7 (by decide) fl34 (fun _ h9 => h9) rfl dX5_second_5 ?_
  obtain ⟨ix1, x1, ex1, hf⟩ := rd_s hf
  refine va_iald hx hb hK hP 1 0 rfl rfl ix1 dX5_second_8 ?_
  refine lv_tpx ex1 ?_
  cases hf
  exact k_iret () hQ9 hx hb hr hlocks rfl hP hD hS (Nat.le_of_ble_eq_true rfl) (Nat.le_of_ble_eq_true rfl) dX5_second_9
abbrev rm_Past_tick : Room := { frames := 0, cells := 0, slots := 0, locals := 0 }
set_option maxHeartbeats 4000000 in
set_option maxRecDepth 100000 in
theorem c_Past_tick (l : Launch) (D : va_G) (cI cZ : ClassId) (t : Nat → Nat) (a_Past a_Past_acts a_Past_firsts a_Past_seconds a_Past_ticks a_Past_drums a_Past_hits sz : Nat) (Past_ticks : Nat → Int32) (Past_slot Past_count zr : Int32) (hf : f_Past_tick Past_ticks Past_slot = some zr) : Met l yX5_tick wsX5_tick rm_Past_tick (va_Pc [.ref a_Past] (pcW D cI cZ t [(a_Past, .inr (5, [.int Past_count, .ref a_Past_acts, .ref a_Past_firsts, .ref a_Past_seconds, .ref a_Past_ticks, .ref a_Past_drums, .ref a_Past_hits, .int Past_slot])), (a_Past_ticks, .inl (cI, 20, .inl Past_ticks))] sz)) (va_Qi (fun r (u : Unit) => r = zr) (fun u t' => bW D (va_A [(a_Past, .inr (5, [.int Past_count, .ref a_Past_acts, .ref a_Past_firsts, .ref a_Past_seconds, .ref a_Past_ticks, .ref a_Past_drums, .ref a_Past_hits, .int Past_slot])), (a_Past_ticks, .inl (cI, 20, .inl Past_ticks))] sz) [(a_Past, .inr (5, [.int Past_count, .ref a_Past_acts, .ref a_Past_firsts, .ref a_Past_seconds, .ref a_Past_ticks, .ref a_Past_drums, .ref a_Past_hits, .int Past_slot])), (a_Past_ticks, .inl (cI, 20, .inl Past_ticks))] t') (va_A [(a_Past, .inr (5, [.int Past_count, .ref a_Past_acts, .ref a_Past_firsts, .ref a_Past_seconds, .ref a_Past_ticks, .ref a_Past_drums, .ref a_Past_hits, .int Past_slot])), (a_Past_ticks, .inl (cI, 20, .inl Past_ticks))] sz)) 0 0 (va_A [(a_Past, .inr (5, [.int Past_count, .ref a_Past_acts, .ref a_Past_firsts, .ref a_Past_seconds, .ref a_Past_ticks, .ref a_Past_drums, .ref a_Past_hits, .int Past_slot])), (a_Past_ticks, .inl (cI, 20, .inl Past_ticks))] sz) := by
  refine Met.ofW (cc := cX5_tick) (maxL := 1) (ret := (some .int)) (by decide) rfl ?_
  intro p e s m args below meth c s₁ B hml hv
  obtain ⟨rfl, hsz, hP, hD0, hE⟩ := hv
  have hx := B.exec
  have hb := B.bytes
  have hr := B.returns
  have hts := atoms_spec (ws := wsX5_tick) B.pre
  have hown : s.vm.findClass RX5 = some m.cls := findClass_of_methodNamed B.named
  have hlocks := B.notSynchronized
  subst hsz
  have hD := hD0.self (sz := s.heap.size)
  generalize hAe : va_A [(a_Past, .inr (5, [.int Past_count, .ref a_Past_acts, .ref a_Past_firsts, .ref a_Past_seconds, .ref a_Past_ticks, .ref a_Past_drums, .ref a_Past_hits, .int Past_slot])), (a_Past_ticks, .inl (cI, 20, .inl Past_ticks))] s.heap.size = A at hD hE ⊢
  have hA : ∀ q : Nat, s.heap.size ≤ q → A q := fun q h => by rw [← hAe]; exact Or.inr h
  clear hAe hD0
  have hS : va_S A s.heap s.heap [] := va_S.rf
  have hK := hE.1
  have hl := lv_entry ([.ref a_Past]) (n := 1) (Nat.le_of_ble_eq_true rfl)
  rw [lg_entry_eq]
  generalize (lg_sl ([.ref a_Past]) ++ List.replicate (1 - (lg_sl ([.ref a_Past])).length) Slot.unset).toArray = ls at hl ⊢
  have hl : lv_has ls 1 [(0, .ref a_Past)] := hl
  refine w_q (fun Q9 hQ9 => ?_)
  have fl25 := hts (.fieldLink RX5 25 "StickRoom$Past" "ticks" "[I") (by decide +kernel)
  have inX5 : ∀ w ∈ wsX50, w ∈ wsX5_tick := by decide +kernel
  have fl34 := hts (.fieldLink RX5 34 "StickRoom$Past" "slot" "I") (by decide +kernel)
  unfold f_Past_tick at hf
  refine lv_aload_n hx hb dX5_tick_0 rfl (lv_at hl 0 rfl) ?_
  refine va_get (D := D) (ci := 5) (v := .ref a_Past_ticks) (C := RX5) (T := TX5) (N := 8) hx hb hts inX5 hown hK hP 0 rfl rfl 4 (by decide) fl25 (fun _ h9 => h9) rfl dX5_tick_1 ?_
  refine lv_aload_n hx hb dX5_tick_4 rfl (lv_at hl 0 rfl) ?_
  refine va_get (D := D) (ci := 5) (v := .int Past_slot) (C := RX5) (T := TX5) (N := 8) hx hb hts inX5 hown hK hP 0 rfl rfl 7 (by decide) fl34 (fun _ h9 => h9) rfl dX5_tick_5 ?_
  obtain ⟨ix1, x1, ex1, hf⟩ := rd_s hf
  refine va_iald hx hb hK hP 1 0 rfl rfl ix1 dX5_tick_8 ?_
  refine lv_tpx ex1 ?_
  cases hf
  exact k_iret () hQ9 hx hb hr hlocks rfl hP hD hS (Nat.le_of_ble_eq_true rfl) (Nat.le_of_ble_eq_true rfl) dX5_tick_9
abbrev rm_Past_drum : Room := { frames := 0, cells := 0, slots := 0, locals := 0 }
set_option maxHeartbeats 4000000 in
set_option maxRecDepth 100000 in
theorem c_Past_drum (l : Launch) (D : va_G) (cI cZ : ClassId) (t : Nat → Nat) (a_Past a_Past_acts a_Past_firsts a_Past_seconds a_Past_ticks a_Past_drums a_Past_hits sz : Nat) (Past_drums : Nat → Int32) (Past_slot Past_count zr : Int32) (hf : f_Past_drum Past_drums Past_slot = some zr) : Met l yX5_drum wsX5_drum rm_Past_drum (va_Pc [.ref a_Past] (pcW D cI cZ t [(a_Past, .inr (5, [.int Past_count, .ref a_Past_acts, .ref a_Past_firsts, .ref a_Past_seconds, .ref a_Past_ticks, .ref a_Past_drums, .ref a_Past_hits, .int Past_slot])), (a_Past_drums, .inl (cI, 20, .inl Past_drums))] sz)) (va_Qi (fun r (u : Unit) => r = zr) (fun u t' => bW D (va_A [(a_Past, .inr (5, [.int Past_count, .ref a_Past_acts, .ref a_Past_firsts, .ref a_Past_seconds, .ref a_Past_ticks, .ref a_Past_drums, .ref a_Past_hits, .int Past_slot])), (a_Past_drums, .inl (cI, 20, .inl Past_drums))] sz) [(a_Past, .inr (5, [.int Past_count, .ref a_Past_acts, .ref a_Past_firsts, .ref a_Past_seconds, .ref a_Past_ticks, .ref a_Past_drums, .ref a_Past_hits, .int Past_slot])), (a_Past_drums, .inl (cI, 20, .inl Past_drums))] t') (va_A [(a_Past, .inr (5, [.int Past_count, .ref a_Past_acts, .ref a_Past_firsts, .ref a_Past_seconds, .ref a_Past_ticks, .ref a_Past_drums, .ref a_Past_hits, .int Past_slot])), (a_Past_drums, .inl (cI, 20, .inl Past_drums))] sz)) 0 0 (va_A [(a_Past, .inr (5, [.int Past_count, .ref a_Past_acts, .ref a_Past_firsts, .ref a_Past_seconds, .ref a_Past_ticks, .ref a_Past_drums, .ref a_Past_hits, .int Past_slot])), (a_Past_drums, .inl (cI, 20, .inl Past_drums))] sz) := by
  refine Met.ofW (cc := cX5_drum) (maxL := 1) (ret := (some .int)) (by decide) rfl ?_
  intro p e s m args below meth c s₁ B hml hv
  obtain ⟨rfl, hsz, hP, hD0, hE⟩ := hv
  have hx := B.exec
  have hb := B.bytes
  have hr := B.returns
  have hts := atoms_spec (ws := wsX5_drum) B.pre
  have hown : s.vm.findClass RX5 = some m.cls := findClass_of_methodNamed B.named
  have hlocks := B.notSynchronized
  subst hsz
  have hD := hD0.self (sz := s.heap.size)
  generalize hAe : va_A [(a_Past, .inr (5, [.int Past_count, .ref a_Past_acts, .ref a_Past_firsts, .ref a_Past_seconds, .ref a_Past_ticks, .ref a_Past_drums, .ref a_Past_hits, .int Past_slot])), (a_Past_drums, .inl (cI, 20, .inl Past_drums))] s.heap.size = A at hD hE ⊢
  have hA : ∀ q : Nat, s.heap.size ≤ q → A q := fun q h => by rw [← hAe]; exact Or.inr h
  clear hAe hD0
  have hS : va_S A s.heap s.heap [] := va_S.rf
  have hK := hE.1
  have hl := lv_entry ([.ref a_Past]) (n := 1) (Nat.le_of_ble_eq_true rfl)
  rw [lg_entry_eq]
  generalize (lg_sl ([.ref a_Past]) ++ List.replicate (1 - (lg_sl ([.ref a_Past])).length) Slot.unset).toArray = ls at hl ⊢
  have hl : lv_has ls 1 [(0, .ref a_Past)] := hl
  refine w_q (fun Q9 hQ9 => ?_)
  have fl28 := hts (.fieldLink RX5 28 "StickRoom$Past" "drums" "[I") (by decide +kernel)
  have inX5 : ∀ w ∈ wsX50, w ∈ wsX5_drum := by decide +kernel
  have fl34 := hts (.fieldLink RX5 34 "StickRoom$Past" "slot" "I") (by decide +kernel)
  unfold f_Past_drum at hf
  refine lv_aload_n hx hb dX5_drum_0 rfl (lv_at hl 0 rfl) ?_
  refine va_get (D := D) (ci := 5) (v := .ref a_Past_drums) (C := RX5) (T := TX5) (N := 8) hx hb hts inX5 hown hK hP 0 rfl rfl 5 (by decide) fl28 (fun _ h9 => h9) rfl dX5_drum_1 ?_
  refine lv_aload_n hx hb dX5_drum_4 rfl (lv_at hl 0 rfl) ?_
  refine va_get (D := D) (ci := 5) (v := .int Past_slot) (C := RX5) (T := TX5) (N := 8) hx hb hts inX5 hown hK hP 0 rfl rfl 7 (by decide) fl34 (fun _ h9 => h9) rfl dX5_drum_5 ?_
  obtain ⟨ix1, x1, ex1, hf⟩ := rd_s hf
  refine va_iald hx hb hK hP 1 0 rfl rfl ix1 dX5_drum_8 ?_
  refine lv_tpx ex1 ?_
  cases hf
  exact k_iret () hQ9 hx hb hr hlocks rfl hP hD hS (Nat.le_of_ble_eq_true rfl) (Nat.le_of_ble_eq_true rfl) dX5_drum_9
abbrev rm_Past_hitAt : Room := { frames := 0, cells := 0, slots := 0, locals := 0 }
set_option maxHeartbeats 4000000 in
set_option maxRecDepth 100000 in
theorem c_Past_hitAt (l : Launch) (D : va_G) (cI cZ : ClassId) (t : Nat → Nat) (a_Past a_Past_acts a_Past_firsts a_Past_seconds a_Past_ticks a_Past_drums a_Past_hits sz : Nat) (Past_hits : Nat → Int32) (Past_slot Past_count p1 zr : Int32) (hf : f_Past_hitAt Past_hits Past_slot p1 = some zr) : Met l yX5_hitAt wsX5_hitAt rm_Past_hitAt (va_Pc [.ref a_Past, .int p1] (pcW D cI cZ t [(a_Past, .inr (5, [.int Past_count, .ref a_Past_acts, .ref a_Past_firsts, .ref a_Past_seconds, .ref a_Past_ticks, .ref a_Past_drums, .ref a_Past_hits, .int Past_slot])), (a_Past_hits, .inl (cI, 480, .inl Past_hits))] sz)) (va_Qi (fun r (u : Unit) => r = zr) (fun u t' => bW D (va_A [(a_Past, .inr (5, [.int Past_count, .ref a_Past_acts, .ref a_Past_firsts, .ref a_Past_seconds, .ref a_Past_ticks, .ref a_Past_drums, .ref a_Past_hits, .int Past_slot])), (a_Past_hits, .inl (cI, 480, .inl Past_hits))] sz) [(a_Past, .inr (5, [.int Past_count, .ref a_Past_acts, .ref a_Past_firsts, .ref a_Past_seconds, .ref a_Past_ticks, .ref a_Past_drums, .ref a_Past_hits, .int Past_slot])), (a_Past_hits, .inl (cI, 480, .inl Past_hits))] t') (va_A [(a_Past, .inr (5, [.int Past_count, .ref a_Past_acts, .ref a_Past_firsts, .ref a_Past_seconds, .ref a_Past_ticks, .ref a_Past_drums, .ref a_Past_hits, .int Past_slot])), (a_Past_hits, .inl (cI, 480, .inl Past_hits))] sz)) 0 0 (va_A [(a_Past, .inr (5, [.int Past_count, .ref a_Past_acts, .ref a_Past_firsts, .ref a_Past_seconds, .ref a_Past_ticks, .ref a_Past_drums, .ref a_Past_hits, .int Past_slot])), (a_Past_hits, .inl (cI, 480, .inl Past_hits))] sz) := by
  refine Met.ofW (cc := cX5_hitAt) (maxL := 2) (ret := (some .int)) (by decide) rfl ?_
  intro p e s m args below meth c s₁ B hml hv
  obtain ⟨rfl, hsz, hP, hD0, hE⟩ := hv
  have hx := B.exec
  have hb := B.bytes
  have hr := B.returns
  have hts := atoms_spec (ws := wsX5_hitAt) B.pre
  have hown : s.vm.findClass RX5 = some m.cls := findClass_of_methodNamed B.named
  have hlocks := B.notSynchronized
  subst hsz
  have hD := hD0.self (sz := s.heap.size)
  generalize hAe : va_A [(a_Past, .inr (5, [.int Past_count, .ref a_Past_acts, .ref a_Past_firsts, .ref a_Past_seconds, .ref a_Past_ticks, .ref a_Past_drums, .ref a_Past_hits, .int Past_slot])), (a_Past_hits, .inl (cI, 480, .inl Past_hits))] s.heap.size = A at hD hE ⊢
  have hA : ∀ q : Nat, s.heap.size ≤ q → A q := fun q h => by rw [← hAe]; exact Or.inr h
  clear hAe hD0
  have hS : va_S A s.heap s.heap [] := va_S.rf
  have hK := hE.1
  have hl := lv_entry ([.ref a_Past, .int p1]) (n := 2) (Nat.le_of_ble_eq_true rfl)
  rw [lg_entry_eq]
  generalize (lg_sl ([.ref a_Past, .int p1]) ++ List.replicate (2 - (lg_sl ([.ref a_Past, .int p1])).length) Slot.unset).toArray = ls at hl ⊢
  have hl : lv_has ls 2 [(0, .ref a_Past), (1, .int p1)] := hl
  refine w_q (fun Q9 hQ9 => ?_)
  have fl31 := hts (.fieldLink RX5 31 "StickRoom$Past" "hits" "[I") (by decide +kernel)
  have inX5 : ∀ w ∈ wsX50, w ∈ wsX5_hitAt := by decide +kernel
  have fl34 := hts (.fieldLink RX5 34 "StickRoom$Past" "slot" "I") (by decide +kernel)
  unfold f_Past_hitAt at hf
  refine lv_aload_n hx hb dX5_hitAt_0 rfl (lv_at hl 0 rfl) ?_
  refine va_get (D := D) (ci := 5) (v := .ref a_Past_hits) (C := RX5) (T := TX5) (N := 8) hx hb hts inX5 hown hK hP 0 rfl rfl 6 (by decide) fl31 (fun _ h9 => h9) rfl dX5_hitAt_1 ?_
  refine lv_aload_n hx hb dX5_hitAt_4 rfl (lv_at hl 0 rfl) ?_
  refine va_get (D := D) (ci := 5) (v := .int Past_slot) (C := RX5) (T := TX5) (N := 8) hx hb hts inX5 hown hK hP 0 rfl rfl 7 (by decide) fl34 (fun _ h9 => h9) rfl dX5_hitAt_5 ?_
  refine lv_bipush (v := 24) hx hb dX5_hitAt_8 (by decide) ?_
  refine lv_imul hx hb dX5_hitAt_10 ?_
  refine lv_iload_n hx hb dX5_hitAt_11 rfl (lv_at hl 1 rfl) ?_
  refine lv_iadd hx hb dX5_hitAt_12 ?_
  obtain ⟨ix1, x1, ex1, hf⟩ := rd_s hf
  refine va_iald hx hb hK hP 1 0 rfl rfl ix1 dX5_hitAt_13 ?_
  refine lv_tpx ex1 ?_
  cases hf
  exact k_iret () hQ9 hx hb hr hlocks rfl hP hD hS (Nat.le_of_ble_eq_true rfl) (Nat.le_of_ble_eq_true rfl) dX5_hitAt_14
abbrev rm_Past_forgetLatest : Room := { frames := 0, cells := 0, slots := 0, locals := 0 }
set_option maxHeartbeats 4000000 in
set_option maxRecDepth 100000 in
theorem c_Past_forgetLatest (l : Launch) (D : va_G) (cI cZ : ClassId) (t : Nat → Nat) (a_Past a_Past_acts a_Past_firsts a_Past_seconds a_Past_ticks a_Past_drums a_Past_hits sz : Nat) (Past_count Past_slot z_Past_count z_Past_slot : Int32) (hf : f_Past_forgetLatest Past_count Past_slot = some (z_Past_count, z_Past_slot)) : Met l yX5_forgetLatest wsX5_forgetLatest rm_Past_forgetLatest (va_Pc [.ref a_Past] (pcW D cI cZ t [(a_Past, .inr (5, [.int Past_count, .ref a_Past_acts, .ref a_Past_firsts, .ref a_Past_seconds, .ref a_Past_ticks, .ref a_Past_drums, .ref a_Past_hits, .int Past_slot]))] sz)) (va_Qv (fun u : Unit => u = u) (fun u t' => bW D (va_A [(a_Past, .inr (5, [.int Past_count, .ref a_Past_acts, .ref a_Past_firsts, .ref a_Past_seconds, .ref a_Past_ticks, .ref a_Past_drums, .ref a_Past_hits, .int Past_slot]))] sz) [(a_Past, .inr (5, [.int z_Past_count, .ref a_Past_acts, .ref a_Past_firsts, .ref a_Past_seconds, .ref a_Past_ticks, .ref a_Past_drums, .ref a_Past_hits, .int z_Past_slot]))] t') (va_A [(a_Past, .inr (5, [.int Past_count, .ref a_Past_acts, .ref a_Past_firsts, .ref a_Past_seconds, .ref a_Past_ticks, .ref a_Past_drums, .ref a_Past_hits, .int Past_slot]))] sz)) 0 0 (va_A [(a_Past, .inr (5, [.int Past_count, .ref a_Past_acts, .ref a_Past_firsts, .ref a_Past_seconds, .ref a_Past_ticks, .ref a_Past_drums, .ref a_Past_hits, .int Past_slot]))] sz) := by
  refine Met.ofW (cc := cX5_forgetLatest) (maxL := 1) (ret := none) (by decide) rfl ?_
  intro p e s m args below meth c s₁ B hml hv
  obtain ⟨rfl, hsz, hP, hD0, hE⟩ := hv
  have hx := B.exec
  have hb := B.bytes
  have hr := B.returns
  have hts := atoms_spec (ws := wsX5_forgetLatest) B.pre
  have hown : s.vm.findClass RX5 = some m.cls := findClass_of_methodNamed B.named
  have hlocks := B.notSynchronized
  subst hsz
  have hD := hD0.self (sz := s.heap.size)
  generalize hAe : va_A [(a_Past, .inr (5, [.int Past_count, .ref a_Past_acts, .ref a_Past_firsts, .ref a_Past_seconds, .ref a_Past_ticks, .ref a_Past_drums, .ref a_Past_hits, .int Past_slot]))] s.heap.size = A at hD hE ⊢
  have hA : ∀ q : Nat, s.heap.size ≤ q → A q := fun q h => by rw [← hAe]; exact Or.inr h
  clear hAe hD0
  have hS : va_S A s.heap s.heap [] := va_S.rf
  have hK := hE.1
  have hl := lv_entry ([.ref a_Past]) (n := 1) (Nat.le_of_ble_eq_true rfl)
  rw [lg_entry_eq]
  generalize (lg_sl ([.ref a_Past]) ++ List.replicate (1 - (lg_sl ([.ref a_Past])).length) Slot.unset).toArray = ls at hl ⊢
  have hl : lv_has ls 1 [(0, .ref a_Past)] := hl
  refine w_q (fun Q9 hQ9 => ?_)
  have fl9 := hts (.fieldLink RX5 9 "StickRoom$Past" "count" "I") (by decide +kernel)
  have inX5 : ∀ w ∈ wsX50, w ∈ wsX5_forgetLatest := by decide +kernel
  have fl34 := hts (.fieldLink RX5 34 "StickRoom$Past" "slot" "I") (by decide +kernel)
  unfold f_Past_forgetLatest at hf
  refine lv_aload_n hx hb dX5_forgetLatest_0 rfl (lv_at hl 0 rfl) ?_
  refine va_get (D := D) (ci := 5) (v := .int Past_count) (C := RX5) (T := TX5) (N := 8) hx hb hts inX5 hown hK hP 0 rfl rfl 0 (by decide) fl9 (fun _ h9 => h9) rfl dX5_forgetLatest_1 ?_
  refine lv_if_le (tgt := 33) hx hb dX5_forgetLatest_4 (by decide) (fun c1 => ?_) (fun c1 => ?_)
  · have hf := ite_t c1 hf
    cases hf
    exact k_vret () hQ9 hx hb hr hlocks rfl hP hD hS (Nat.le_of_ble_eq_true rfl) (Nat.le_of_ble_eq_true rfl) dX5_forgetLatest_33
  · have hf := ite_f c1 hf
    refine lv_aload_n hx hb dX5_forgetLatest_7 rfl (lv_at hl 0 rfl) ?_
    refine lv_dup hx hb dX5_forgetLatest_8 rfl ?_
    refine va_get (D := D) (ci := 5) (v := .int Past_count) (C := RX5) (T := TX5) (N := 8) hx hb hts inX5 hown hK hP 0 rfl rfl 0 (by decide) fl9 (fun _ h9 => h9) rfl dX5_forgetLatest_9 ?_
    refine lv_iconst (v := 1) hx hb dX5_forgetLatest_12 (by decide) ?_
    refine lv_isub hx hb dX5_forgetLatest_13 ?_
    obtain ⟨x2, ex2, hf⟩ := nm_s hf
    refine lv_tpx ex2 ?_
    refine va_put (D := D) (ci := 5) (v := .int x2) (ty := .int) (C := RX5) (T := TX5) (N := 8) hx hb hts inX5 tyX5 tyX5_ok nmX5 hown hK hP hD hS 0 rfl rfl 0 (by decide) fl9 (fun _ h9 => h9) rfl (by decide +kernel) rfl rfl (Nat.le_of_ble_eq_true rfl) dX5_forgetLatest_14 (fun H locs hP hD hS => ?_)
    have hP : va_P D vwCl [(a_Past, .inr (5, [.int x2, .ref a_Past_acts, .ref a_Past_firsts, .ref a_Past_seconds, .ref a_Past_ticks, .ref a_Past_drums, .ref a_Past_hits, .int Past_slot]))] H := hP
    have hD : va_D A [(a_Past, .inr (5, [.int x2, .ref a_Past_acts, .ref a_Past_firsts, .ref a_Past_seconds, .ref a_Past_ticks, .ref a_Past_drums, .ref a_Past_hits, .int Past_slot]))] := hD
    refine lv_aload_n hx hb dX5_forgetLatest_17 rfl (lv_at hl 0 rfl) ?_
    refine lv_aload_n hx hb dX5_forgetLatest_18 rfl (lv_at hl 0 rfl) ?_
    refine va_get (D := D) (ci := 5) (v := .int Past_slot) (C := RX5) (T := TX5) (N := 8) hx hb hts inX5 hown hK hP 0 rfl rfl 7 (by decide) fl34 (fun _ h9 => h9) rfl dX5_forgetLatest_19 ?_
    refine lv_bipush (v := 20) hx hb dX5_forgetLatest_22 (by decide) ?_
    refine lv_iadd hx hb dX5_forgetLatest_24 ?_
    refine lv_iconst (v := 1) hx hb dX5_forgetLatest_25 (by decide) ?_
    refine lv_isub hx hb dX5_forgetLatest_26 ?_
    refine lv_bipush (v := 20) hx hb dX5_forgetLatest_27 (by decide) ?_
    refine lv_irem hx hb dX5_forgetLatest_29 (by decide) ?_
    obtain ⟨x3, ex3, hf⟩ := nm_s hf
    refine lv_tpx ex3 ?_
    refine va_put (D := D) (ci := 5) (v := .int x3) (ty := .int) (C := RX5) (T := TX5) (N := 8) hx hb hts inX5 tyX5 tyX5_ok nmX5 hown hK hP hD hS 0 rfl rfl 7 (by decide) fl34 (fun _ h9 => h9) rfl (by decide +kernel) rfl rfl (Nat.le_of_ble_eq_true rfl) dX5_forgetLatest_30 (fun H locs hP hD hS => ?_)
    have hP : va_P D vwCl [(a_Past, .inr (5, [.int x2, .ref a_Past_acts, .ref a_Past_firsts, .ref a_Past_seconds, .ref a_Past_ticks, .ref a_Past_drums, .ref a_Past_hits, .int x3]))] H := hP
    have hD : va_D A [(a_Past, .inr (5, [.int x2, .ref a_Past_acts, .ref a_Past_firsts, .ref a_Past_seconds, .ref a_Past_ticks, .ref a_Past_drums, .ref a_Past_hits, .int x3]))] := hD
    cases hf
    exact k_vret () hQ9 hx hb hr hlocks rfl hP hD hS (Nat.le_of_ble_eq_true rfl) (Nat.le_of_ble_eq_true rfl) dX5_forgetLatest_33
abbrev rm_Reading_leastPrice : Room := { frames := 0, cells := 0, slots := 0, locals := 0 }
set_option maxHeartbeats 4000000 in
set_option maxRecDepth 100000 in
theorem c_Reading_leastPrice (l : Launch) (D : va_G) (cI cZ : ClassId) (t : Nat → Nat) (a_Reading a_Reading_matches a_Line a_Rules a_Tapes a_Reading_prices sz : Nat) (Reading_prices : Nat → Int32) (Reading_matched Reading_player zr : Int32) (hf : f_Reading_leastPrice Reading_prices = some zr) : Met l yX6_leastPrice wsX6_leastPrice rm_Reading_leastPrice (va_Pc [.ref a_Reading] (pcW D cI cZ t [(a_Reading, .inr (6, [.ref a_Reading_matches, .int Reading_matched, .ref a_Line, .ref a_Rules, .ref a_Tapes, .ref a_Reading_prices, .int Reading_player])), (a_Reading_prices, .inl (cI, 525, .inl Reading_prices))] sz)) (va_Qi (fun r (u : Unit) => r = zr) (fun u t' => bW D (va_A [(a_Reading, .inr (6, [.ref a_Reading_matches, .int Reading_matched, .ref a_Line, .ref a_Rules, .ref a_Tapes, .ref a_Reading_prices, .int Reading_player])), (a_Reading_prices, .inl (cI, 525, .inl Reading_prices))] sz) [(a_Reading, .inr (6, [.ref a_Reading_matches, .int Reading_matched, .ref a_Line, .ref a_Rules, .ref a_Tapes, .ref a_Reading_prices, .int Reading_player])), (a_Reading_prices, .inl (cI, 525, .inl Reading_prices))] t') (va_A [(a_Reading, .inr (6, [.ref a_Reading_matches, .int Reading_matched, .ref a_Line, .ref a_Rules, .ref a_Tapes, .ref a_Reading_prices, .int Reading_player])), (a_Reading_prices, .inl (cI, 525, .inl Reading_prices))] sz)) 0 0 (va_A [(a_Reading, .inr (6, [.ref a_Reading_matches, .int Reading_matched, .ref a_Line, .ref a_Rules, .ref a_Tapes, .ref a_Reading_prices, .int Reading_player])), (a_Reading_prices, .inl (cI, 525, .inl Reading_prices))] sz) := by
  refine Met.ofW (cc := cX6_leastPrice) (maxL := 1) (ret := (some .int)) (by decide) rfl ?_
  intro p e s m args below meth c s₁ B hml hv
  obtain ⟨rfl, hsz, hP, hD0, hE⟩ := hv
  have hx := B.exec
  have hb := B.bytes
  have hr := B.returns
  have hts := atoms_spec (ws := wsX6_leastPrice) B.pre
  have hown : s.vm.findClass RX6 = some m.cls := findClass_of_methodNamed B.named
  have hlocks := B.notSynchronized
  subst hsz
  have hD := hD0.self (sz := s.heap.size)
  generalize hAe : va_A [(a_Reading, .inr (6, [.ref a_Reading_matches, .int Reading_matched, .ref a_Line, .ref a_Rules, .ref a_Tapes, .ref a_Reading_prices, .int Reading_player])), (a_Reading_prices, .inl (cI, 525, .inl Reading_prices))] s.heap.size = A at hD hE ⊢
  have hA : ∀ q : Nat, s.heap.size ≤ q → A q := fun q h => by rw [← hAe]; exact Or.inr h
  clear hAe hD0
  have hS : va_S A s.heap s.heap [] := va_S.rf
  have hK := hE.1
  have hl := lv_entry ([.ref a_Reading]) (n := 1) (Nat.le_of_ble_eq_true rfl)
  rw [lg_entry_eq]
  generalize (lg_sl ([.ref a_Reading]) ++ List.replicate (1 - (lg_sl ([.ref a_Reading])).length) Slot.unset).toArray = ls at hl ⊢
  have hl : lv_has ls 1 [(0, .ref a_Reading)] := hl
  refine w_q (fun Q9 hQ9 => ?_)
  have fl19 := hts (.fieldLink RX6 19 "StickRoom$Reading" "prices" "[I") (by decide +kernel)
  have inX6 : ∀ w ∈ wsX60, w ∈ wsX6_leastPrice := by decide +kernel
  unfold f_Reading_leastPrice at hf
  refine lv_aload_n hx hb dX6_leastPrice_0 rfl (lv_at hl 0 rfl) ?_
  refine va_get (D := D) (ci := 6) (v := .ref a_Reading_prices) (C := RX6) (T := TX6) (N := 7) hx hb hts inX6 hown hK hP 0 rfl rfl 5 (by decide) fl19 (fun _ h9 => h9) rfl dX6_leastPrice_1 ?_
  refine lv_iconst (v := 0) hx hb dX6_leastPrice_4 (by decide) ?_
  obtain ⟨ix1, x1, ex1, hf⟩ := rd_s hf
  refine va_iald hx hb hK hP 1 0 rfl rfl ix1 dX6_leastPrice_5 ?_
  refine lv_tpx ex1 ?_
  cases hf
  exact k_iret () hQ9 hx hb hr hlocks rfl hP hD hS (Nat.le_of_ble_eq_true rfl) (Nat.le_of_ble_eq_true rfl) dX6_leastPrice_6
abbrev rm_Past_keepHits : Room := { frames := 1, cells := 0, slots := 0, locals := 22 }
set_option maxHeartbeats 4000000 in
set_option maxRecDepth 100000 in
theorem c_Past_keepHits (l : Launch) (D : va_G) (cI cZ : ClassId) (t : Nat → Nat) (a_Tapes a_Tapes_counts a_Tapes_hits a_Past a_Past_acts a_Past_firsts a_Past_seconds a_Past_ticks a_Past_drums a_Past_hits sz : Nat) (Tapes_counts Tapes_hits Past_hits : Nat → Int32) (Past_slot Past_count p2 : Int32) (z_Past_hits : Nat → Int32) (hf : f_Past_keepHits Tapes_counts Tapes_hits Past_hits Past_slot p2 = some z_Past_hits) : Met l yX5_keepHits wsX5_keepHits rm_Past_keepHits (va_Pc [.ref a_Past, .ref a_Tapes, .int p2] (pcW D cI cZ t [(a_Tapes, .inr (9, [.ref a_Tapes_counts, .ref a_Tapes_hits])), (a_Tapes_counts, .inl (cI, 4, .inl Tapes_counts)), (a_Tapes_hits, .inl (cI, 96, .inl Tapes_hits)), (a_Past, .inr (5, [.int Past_count, .ref a_Past_acts, .ref a_Past_firsts, .ref a_Past_seconds, .ref a_Past_ticks, .ref a_Past_drums, .ref a_Past_hits, .int Past_slot])), (a_Past_hits, .inl (cI, 480, .inl Past_hits))] sz)) (va_Qv (fun u : Unit => u = u) (fun u t' => bW D (va_A [(a_Tapes, .inr (9, [.ref a_Tapes_counts, .ref a_Tapes_hits])), (a_Tapes_counts, .inl (cI, 4, .inl Tapes_counts)), (a_Tapes_hits, .inl (cI, 96, .inl Tapes_hits)), (a_Past, .inr (5, [.int Past_count, .ref a_Past_acts, .ref a_Past_firsts, .ref a_Past_seconds, .ref a_Past_ticks, .ref a_Past_drums, .ref a_Past_hits, .int Past_slot])), (a_Past_hits, .inl (cI, 480, .inl Past_hits))] sz) [(a_Tapes, .inr (9, [.ref a_Tapes_counts, .ref a_Tapes_hits])), (a_Tapes_counts, .inl (cI, 4, .inl Tapes_counts)), (a_Tapes_hits, .inl (cI, 96, .inl Tapes_hits)), (a_Past, .inr (5, [.int Past_count, .ref a_Past_acts, .ref a_Past_firsts, .ref a_Past_seconds, .ref a_Past_ticks, .ref a_Past_drums, .ref a_Past_hits, .int Past_slot])), (a_Past_hits, .inl (cI, 480, .inl z_Past_hits))] t') (va_A [(a_Tapes, .inr (9, [.ref a_Tapes_counts, .ref a_Tapes_hits])), (a_Tapes_counts, .inl (cI, 4, .inl Tapes_counts)), (a_Tapes_hits, .inl (cI, 96, .inl Tapes_hits)), (a_Past, .inr (5, [.int Past_count, .ref a_Past_acts, .ref a_Past_firsts, .ref a_Past_seconds, .ref a_Past_ticks, .ref a_Past_drums, .ref a_Past_hits, .int Past_slot])), (a_Past_hits, .inl (cI, 480, .inl Past_hits))] sz)) 0 0 (va_A [(a_Tapes, .inr (9, [.ref a_Tapes_counts, .ref a_Tapes_hits])), (a_Tapes_counts, .inl (cI, 4, .inl Tapes_counts)), (a_Tapes_hits, .inl (cI, 96, .inl Tapes_hits)), (a_Past, .inr (5, [.int Past_count, .ref a_Past_acts, .ref a_Past_firsts, .ref a_Past_seconds, .ref a_Past_ticks, .ref a_Past_drums, .ref a_Past_hits, .int Past_slot])), (a_Past_hits, .inl (cI, 480, .inl Past_hits))] sz) := by
  refine Met.ofW (cc := cX5_keepHits) (maxL := 4) (ret := none) (by decide) rfl ?_
  intro p e s m args below meth c s₁ B hml hv
  obtain ⟨rfl, hsz, hP, hD0, hE⟩ := hv
  have hx := B.exec
  have hb := B.bytes
  have hr := B.returns
  have hts := atoms_spec (ws := wsX5_keepHits) B.pre
  have hown : s.vm.findClass RX5 = some m.cls := findClass_of_methodNamed B.named
  have hlocks := B.notSynchronized
  subst hsz
  have hD := hD0.self (sz := s.heap.size)
  generalize hAe : va_A [(a_Tapes, .inr (9, [.ref a_Tapes_counts, .ref a_Tapes_hits])), (a_Tapes_counts, .inl (cI, 4, .inl Tapes_counts)), (a_Tapes_hits, .inl (cI, 96, .inl Tapes_hits)), (a_Past, .inr (5, [.int Past_count, .ref a_Past_acts, .ref a_Past_firsts, .ref a_Past_seconds, .ref a_Past_ticks, .ref a_Past_drums, .ref a_Past_hits, .int Past_slot])), (a_Past_hits, .inl (cI, 480, .inl Past_hits))] s.heap.size = A at hD hE ⊢
  have hA : ∀ q : Nat, s.heap.size ≤ q → A q := fun q h => by rw [← hAe]; exact Or.inr h
  clear hAe hD0
  have hS : va_S A s.heap s.heap [] := va_S.rf
  have hK := hE.1
  have hl := lv_entry ([.ref a_Past, .ref a_Tapes, .int p2]) (n := 4) (Nat.le_of_ble_eq_true rfl)
  rw [lg_entry_eq]
  generalize (lg_sl ([.ref a_Past, .ref a_Tapes, .int p2]) ++ List.replicate (4 - (lg_sl ([.ref a_Past, .ref a_Tapes, .int p2])).length) Slot.unset).toArray = ls at hl ⊢
  have hl : lv_has ls 4 [(0, .ref a_Past), (1, .ref a_Tapes), (2, .int p2)] := hl
  refine w_q (fun Q9 hQ9 => ?_)
  have fl43 := hts (.fieldLink RX5 43 "StickRoom$Tapes" "counts" "[I") (by decide +kernel)
  have inX9 : ∀ w ∈ wsX90, w ∈ wsX5_keepHits := by decide +kernel
  have fl31 := hts (.fieldLink RX5 31 "StickRoom$Past" "hits" "[I") (by decide +kernel)
  have inX5 : ∀ w ∈ wsX50, w ∈ wsX5_keepHits := by decide +kernel
  have fl34 := hts (.fieldLink RX5 34 "StickRoom$Past" "slot" "I") (by decide +kernel)
  have hL2 : ∀ (n2 : Nat) (l2 l3 : Int32) (Past_hits : Nat → Int32) (H : Heap) (locs : List Loc) (ls : Array Slot), va_P D vwCl [(a_Tapes, .inr (9, [.ref a_Tapes_counts, .ref a_Tapes_hits])), (a_Tapes_counts, .inl (cI, 4, .inl Tapes_counts)), (a_Tapes_hits, .inl (cI, 96, .inl Tapes_hits)), (a_Past, .inr (5, [.int Past_count, .ref a_Past_acts, .ref a_Past_firsts, .ref a_Past_seconds, .ref a_Past_ticks, .ref a_Past_drums, .ref a_Past_hits, .int Past_slot])), (a_Past_hits, .inl (cI, 480, .inl Past_hits))] H → va_D A [(a_Tapes, .inr (9, [.ref a_Tapes_counts, .ref a_Tapes_hits])), (a_Tapes_counts, .inl (cI, 4, .inl Tapes_counts)), (a_Tapes_hits, .inl (cI, 96, .inl Tapes_hits)), (a_Past, .inr (5, [.int Past_count, .ref a_Past_acts, .ref a_Past_firsts, .ref a_Past_seconds, .ref a_Past_ticks, .ref a_Past_drums, .ref a_Past_hits, .int Past_slot])), (a_Past_hits, .inl (cI, 480, .inl Past_hits))] → va_S A s.heap H locs → lv_has ls 4 [(0, .ref a_Past), (1, .ref a_Tapes), (2, .int l2), (3, .int l3)] → f_Past_keepHits_2 Tapes_counts Tapes_hits Past_slot  n2 l2 l3 Past_hits = some z_Past_hits → W p l e (headSpec wsX5_keepHits rm_Past_keepHits).room s m ([.ref a_Past, .ref a_Tapes, .int p2] : List Value).toArray below meth c H locs 0 0 Q9 (F0 m 2 ls []) := by
    intro n2
    induction n2 with
    | zero => intro l2 l3 Past_hits H locs ls hP hD hS hl hf; exact nomatch (show none = some z_Past_hits from hf)
    | succ n2 ih2 =>
      intro l2 l3 Past_hits H locs ls hP hD hS hl hf
      have hf : f_Past_keepHits_2_b Tapes_counts Tapes_hits Past_slot  (f_Past_keepHits_2 Tapes_counts Tapes_hits Past_slot  n2) l2 l3 Past_hits = some z_Past_hits := hf
      unfold f_Past_keepHits_2_b at hf
      refine lv_iload_n hx hb dX5_keepHits_2 rfl (lv_at hl 3 rfl) ?_
      refine lv_aload_n hx hb dX5_keepHits_3 rfl (lv_at hl 1 rfl) ?_
      refine va_get (D := D) (ci := 9) (v := .ref a_Tapes_counts) (C := RX9) (T := TX9) (N := 2) hx hb hts inX9 hown hK hP 0 rfl rfl 0 (by decide) fl43 (fun _ h9 => h9) rfl dX5_keepHits_4 ?_
      refine lv_iload_n hx hb dX5_keepHits_7 rfl (lv_at hl 2 rfl) ?_
      obtain ⟨ix1, x1, ex1, hf⟩ := rd_s hf
      refine va_iald hx hb hK hP 1 0 rfl rfl ix1 dX5_keepHits_8 ?_
      refine lv_tpx ex1 ?_
      refine lv_icmp_ge (tgt := 38) hx hb dX5_keepHits_9 (by decide) (fun c2 => ?_) (fun c2 => ?_)
      · have hf := ite_t c2 hf
        cases hf
        exact k_vret () hQ9 hx hb hr hlocks rfl hP hD hS (Nat.le_of_ble_eq_true rfl) (Nat.le_of_ble_eq_true rfl) dX5_keepHits_38
      · have hf := ite_f c2 hf
        refine lv_aload_n hx hb dX5_keepHits_12 rfl (lv_at hl 0 rfl) ?_
        refine va_get (D := D) (ci := 5) (v := .ref a_Past_hits) (C := RX5) (T := TX5) (N := 8) hx hb hts inX5 hown hK hP 3 rfl rfl 6 (by decide) fl31 (fun _ h9 => h9) rfl dX5_keepHits_13 ?_
        refine lv_aload_n hx hb dX5_keepHits_16 rfl (lv_at hl 0 rfl) ?_
        refine va_get (D := D) (ci := 5) (v := .int Past_slot) (C := RX5) (T := TX5) (N := 8) hx hb hts inX5 hown hK hP 3 rfl rfl 7 (by decide) fl34 (fun _ h9 => h9) rfl dX5_keepHits_17 ?_
        refine lv_bipush (v := 24) hx hb dX5_keepHits_20 (by decide) ?_
        refine lv_imul hx hb dX5_keepHits_22 ?_
        refine lv_iload_n hx hb dX5_keepHits_23 rfl (lv_at hl 3 rfl) ?_
        refine lv_iadd hx hb dX5_keepHits_24 ?_
        refine lv_aload_n hx hb dX5_keepHits_25 rfl (lv_at hl 1 rfl) ?_
        refine lv_iload_n hx hb dX5_keepHits_26 rfl (lv_at hl 2 rfl) ?_
        refine lv_iload_n hx hb dX5_keepHits_27 rfl (lv_at hl 3 rfl) ?_
        obtain ⟨r3, g4, hf⟩ := b1_s hf
        refine k_Vi (rest := [.int ((Past_slot * 24) + l3), .ref a_Past_hits]) ⟨hx, hb, hml, hown, hts⟩ (c_Tapes_tickAt l D cI cZ t a_Tapes a_Tapes_counts a_Tapes_hits H.size Tapes_hits l2 l3 r3 g4) (cwV 2 hts gX5_keepHits_X9_tickAt rfl rfl rfl (by decide +kernel) ⟨Nat.le_of_ble_eq_true rfl, Nat.le_of_ble_eq_true rfl⟩) hE hP hD hS hA [0, 2] [1, 3, 4] rfl rfl rfl rfl rfl 0 9 rfl rfl rfl rfl hl.1 rfl (Nat.le_of_ble_eq_true rfl) dX5_keepHits_28 ⟨Nat.le_of_ble_eq_true rfl, Nat.le_of_ble_eq_true rfl⟩ (fun rq uq H locs hrq hP hD hS => ?_)
        refine lv_tpx hrq.symm ?_
        have hP : va_P D vwCl [(a_Tapes_counts, .inl (cI, 4, .inl Tapes_counts)), (a_Past, .inr (5, [.int Past_count, .ref a_Past_acts, .ref a_Past_firsts, .ref a_Past_seconds, .ref a_Past_ticks, .ref a_Past_drums, .ref a_Past_hits, .int Past_slot])), (a_Past_hits, .inl (cI, 480, .inl Past_hits)), (a_Tapes, .inr (9, [.ref a_Tapes_counts, .ref a_Tapes_hits])), (a_Tapes_hits, .inl (cI, 96, .inl Tapes_hits))] H := hP
        have hD : va_D A [(a_Tapes_counts, .inl (cI, 4, .inl Tapes_counts)), (a_Past, .inr (5, [.int Past_count, .ref a_Past_acts, .ref a_Past_firsts, .ref a_Past_seconds, .ref a_Past_ticks, .ref a_Past_drums, .ref a_Past_hits, .int Past_slot])), (a_Past_hits, .inl (cI, 480, .inl Past_hits)), (a_Tapes, .inr (9, [.ref a_Tapes_counts, .ref a_Tapes_hits])), (a_Tapes_hits, .inl (cI, 96, .inl Tapes_hits))] := hD
        obtain ⟨i5, hf⟩ := ck_s hf
        refine va_iast hx hb hK hP hD hS 2 0 rfl rfl i5 dX5_keepHits_31 (fun H locs hP hD hS => ?_)
        have hP : va_P D vwCl [(a_Tapes_counts, .inl (cI, 4, .inl Tapes_counts)), (a_Past, .inr (5, [.int Past_count, .ref a_Past_acts, .ref a_Past_firsts, .ref a_Past_seconds, .ref a_Past_ticks, .ref a_Past_drums, .ref a_Past_hits, .int Past_slot])), (a_Past_hits, .inl (cI, 480, .inl (upd Past_hits ((Past_slot * 24) + l3).toNatClampNeg r3))), (a_Tapes, .inr (9, [.ref a_Tapes_counts, .ref a_Tapes_hits])), (a_Tapes_hits, .inl (cI, 96, .inl Tapes_hits))] H := hP
        have hD : va_D A [(a_Tapes_counts, .inl (cI, 4, .inl Tapes_counts)), (a_Past, .inr (5, [.int Past_count, .ref a_Past_acts, .ref a_Past_firsts, .ref a_Past_seconds, .ref a_Past_ticks, .ref a_Past_drums, .ref a_Past_hits, .int Past_slot])), (a_Past_hits, .inl (cI, 480, .inl (upd Past_hits ((Past_slot * 24) + l3).toNatClampNeg r3))), (a_Tapes, .inr (9, [.ref a_Tapes_counts, .ref a_Tapes_hits])), (a_Tapes_hits, .inl (cI, 96, .inl Tapes_hits))] := hD
        obtain ⟨x6, ex6, hf⟩ := nm_s hf
        refine lv_iinc (v := x6) (lv' := [(3, .int x6), (0, .ref a_Past), (1, .ref a_Tapes), (2, .int l2)]) hx hb dX5_keepHits_32 hl (k := 3) rfl (by rw [ex6]; rfl) (by decide) rfl (fun ls hl => ?_)
        refine lv_goto (tgt := 2) hx hb dX5_keepHits_35 (by decide) ?_
        exact ih2 l2 x6 (upd Past_hits ((Past_slot * 24) + l3).toNatClampNeg r3) H locs ls (hP.sub [3, 0, 4, 1, 2] rfl) (hD.sub [3, 0, 4, 1, 2] (by decide) rfl) hS (lv_sub hl [1, 2, 3, 0] rfl) hf
  unfold f_Past_keepHits at hf
  refine lv_iconst (v := 0) hx hb dX5_keepHits_0 (by decide) ?_
  refine lv_istore_n (lv' := [(3, .int 0), (0, .ref a_Past), (1, .ref a_Tapes), (2, .int p2)]) hx hb dX5_keepHits_1 rfl hl (by decide) rfl (fun ls hl => ?_)
  exact hL2 fu p2 0 Past_hits s.heap [] ls hP hD hS (lv_sub hl [1, 2, 3, 0] rfl) hf
abbrev rm_Reading_apart : Room := { frames := 1, cells := 0, slots := 0, locals := 30 }
set_option maxHeartbeats 4000000 in
set_option maxRecDepth 100000 in
theorem c_Reading_apart (l : Launch) (D : va_G) (cI cZ : ClassId) (t : Nat → Nat) (a_Line a_Line_kinds a_Line_ticks a_Line_drums a_Line_marks a_Line_strokeTicks a_Line_strokeHeights a_Tapes a_Tapes_counts a_Tapes_hits a_Reading a_Reading_matches a_Rules a_Reading_prices sz : Nat) (Line_ticks Tapes_hits : Nat → Int32) (Reading_player Line_count Reading_matched p1 p2 zr : Int32) (hf : f_Reading_apart Line_ticks Tapes_hits Reading_player p1 p2 = some zr) : Met l yX6_apart wsX6_apart rm_Reading_apart (va_Pc [.ref a_Reading, .int p1, .int p2] (pcW D cI cZ t [(a_Line, .inr (4, [.ref a_Line_kinds, .ref a_Line_ticks, .ref a_Line_drums, .ref a_Line_marks, .ref a_Line_strokeTicks, .ref a_Line_strokeHeights, .int Line_count])), (a_Line_ticks, .inl (cI, 20, .inl Line_ticks)), (a_Tapes, .inr (9, [.ref a_Tapes_counts, .ref a_Tapes_hits])), (a_Tapes_hits, .inl (cI, 96, .inl Tapes_hits)), (a_Reading, .inr (6, [.ref a_Reading_matches, .int Reading_matched, .ref a_Line, .ref a_Rules, .ref a_Tapes, .ref a_Reading_prices, .int Reading_player]))] sz)) (va_Qi (fun r (u : Unit) => r = zr) (fun u t' => bW D (va_A [(a_Line, .inr (4, [.ref a_Line_kinds, .ref a_Line_ticks, .ref a_Line_drums, .ref a_Line_marks, .ref a_Line_strokeTicks, .ref a_Line_strokeHeights, .int Line_count])), (a_Line_ticks, .inl (cI, 20, .inl Line_ticks)), (a_Tapes, .inr (9, [.ref a_Tapes_counts, .ref a_Tapes_hits])), (a_Tapes_hits, .inl (cI, 96, .inl Tapes_hits)), (a_Reading, .inr (6, [.ref a_Reading_matches, .int Reading_matched, .ref a_Line, .ref a_Rules, .ref a_Tapes, .ref a_Reading_prices, .int Reading_player]))] sz) [(a_Line, .inr (4, [.ref a_Line_kinds, .ref a_Line_ticks, .ref a_Line_drums, .ref a_Line_marks, .ref a_Line_strokeTicks, .ref a_Line_strokeHeights, .int Line_count])), (a_Line_ticks, .inl (cI, 20, .inl Line_ticks)), (a_Tapes, .inr (9, [.ref a_Tapes_counts, .ref a_Tapes_hits])), (a_Tapes_hits, .inl (cI, 96, .inl Tapes_hits)), (a_Reading, .inr (6, [.ref a_Reading_matches, .int Reading_matched, .ref a_Line, .ref a_Rules, .ref a_Tapes, .ref a_Reading_prices, .int Reading_player]))] t') (va_A [(a_Line, .inr (4, [.ref a_Line_kinds, .ref a_Line_ticks, .ref a_Line_drums, .ref a_Line_marks, .ref a_Line_strokeTicks, .ref a_Line_strokeHeights, .int Line_count])), (a_Line_ticks, .inl (cI, 20, .inl Line_ticks)), (a_Tapes, .inr (9, [.ref a_Tapes_counts, .ref a_Tapes_hits])), (a_Tapes_hits, .inl (cI, 96, .inl Tapes_hits)), (a_Reading, .inr (6, [.ref a_Reading_matches, .int Reading_matched, .ref a_Line, .ref a_Rules, .ref a_Tapes, .ref a_Reading_prices, .int Reading_player]))] sz)) 0 0 (va_A [(a_Line, .inr (4, [.ref a_Line_kinds, .ref a_Line_ticks, .ref a_Line_drums, .ref a_Line_marks, .ref a_Line_strokeTicks, .ref a_Line_strokeHeights, .int Line_count])), (a_Line_ticks, .inl (cI, 20, .inl Line_ticks)), (a_Tapes, .inr (9, [.ref a_Tapes_counts, .ref a_Tapes_hits])), (a_Tapes_hits, .inl (cI, 96, .inl Tapes_hits)), (a_Reading, .inr (6, [.ref a_Reading_matches, .int Reading_matched, .ref a_Line, .ref a_Rules, .ref a_Tapes, .ref a_Reading_prices, .int Reading_player]))] sz) := by
  refine Met.ofW (cc := cX6_apart) (maxL := 3) (ret := (some .int)) (by decide) rfl ?_
  intro p e s m args below meth c s₁ B hml hv
  obtain ⟨rfl, hsz, hP, hD0, hE⟩ := hv
  have hx := B.exec
  have hb := B.bytes
  have hr := B.returns
  have hts := atoms_spec (ws := wsX6_apart) B.pre
  have hown : s.vm.findClass RX6 = some m.cls := findClass_of_methodNamed B.named
  have hlocks := B.notSynchronized
  subst hsz
  have hD := hD0.self (sz := s.heap.size)
  generalize hAe : va_A [(a_Line, .inr (4, [.ref a_Line_kinds, .ref a_Line_ticks, .ref a_Line_drums, .ref a_Line_marks, .ref a_Line_strokeTicks, .ref a_Line_strokeHeights, .int Line_count])), (a_Line_ticks, .inl (cI, 20, .inl Line_ticks)), (a_Tapes, .inr (9, [.ref a_Tapes_counts, .ref a_Tapes_hits])), (a_Tapes_hits, .inl (cI, 96, .inl Tapes_hits)), (a_Reading, .inr (6, [.ref a_Reading_matches, .int Reading_matched, .ref a_Line, .ref a_Rules, .ref a_Tapes, .ref a_Reading_prices, .int Reading_player]))] s.heap.size = A at hD hE ⊢
  have hA : ∀ q : Nat, s.heap.size ≤ q → A q := fun q h => by rw [← hAe]; exact Or.inr h
  clear hAe hD0
  have hS : va_S A s.heap s.heap [] := va_S.rf
  have hK := hE.1
  have hl := lv_entry ([.ref a_Reading, .int p1, .int p2]) (n := 3) (Nat.le_of_ble_eq_true rfl)
  rw [lg_entry_eq]
  generalize (lg_sl ([.ref a_Reading, .int p1, .int p2]) ++ List.replicate (3 - (lg_sl ([.ref a_Reading, .int p1, .int p2])).length) Slot.unset).toArray = ls at hl ⊢
  have hl : lv_has ls 3 [(0, .ref a_Reading), (1, .int p1), (2, .int p2)] := hl
  refine w_q (fun Q9 hQ9 => ?_)
  have fl33 := hts (.fieldLink RX6 33 "StickRoom$Reading" "tapes" "LStickRoom$Tapes;") (by decide +kernel)
  have inX6 : ∀ w ∈ wsX60, w ∈ wsX6_apart := by decide +kernel
  have fl22 := hts (.fieldLink RX6 22 "StickRoom$Reading" "player" "I") (by decide +kernel)
  have fl25 := hts (.fieldLink RX6 25 "StickRoom$Reading" "line" "LStickRoom$Line;") (by decide +kernel)
  have fl72 := hts (.fieldLink RX6 72 "StickRoom$Line" "ticks" "[I") (by decide +kernel)
  have inX4 : ∀ w ∈ wsX40, w ∈ wsX6_apart := by decide +kernel
  have ml75 := hts (.methodLink RX6 75 Lib.Math.abs.name) (by decide +kernel)
  have ms_abs := hts (.static Lib.Math.abs.name) (by decide +kernel)
  have mini := hts (.initialized "java/lang/Math") (by decide +kernel)
  have mc_abs := hts (.code Lib.Math.abs.name Lib.Math.abs.code 1 (some .int)) (by decide +kernel)
  unfold f_Reading_apart at hf
  refine lv_aload_n hx hb dX6_apart_0 rfl (lv_at hl 0 rfl) ?_
  refine va_get (D := D) (ci := 6) (v := .ref a_Tapes) (C := RX6) (T := TX6) (N := 7) hx hb hts inX6 hown hK hP 4 rfl rfl 4 (by decide) fl33 (fun _ h9 => h9) rfl dX6_apart_1 ?_
  refine lv_aload_n hx hb dX6_apart_4 rfl (lv_at hl 0 rfl) ?_
  refine va_get (D := D) (ci := 6) (v := .int Reading_player) (C := RX6) (T := TX6) (N := 7) hx hb hts inX6 hown hK hP 4 rfl rfl 6 (by decide) fl22 (fun _ h9 => h9) rfl dX6_apart_5 ?_
  refine lv_iload_n hx hb dX6_apart_8 rfl (lv_at hl 2 rfl) ?_
  obtain ⟨r1, g2, hf⟩ := b1_s hf
  refine k_Vi (rest := []) ⟨hx, hb, hml, hown, hts⟩ (c_Tapes_tickAt l D cI cZ t a_Tapes a_Tapes_counts a_Tapes_hits s.heap.size Tapes_hits Reading_player p2 r1 g2) (cwV 2 hts gX6_apart_X9_tickAt rfl rfl rfl (by decide +kernel) ⟨Nat.le_of_ble_eq_true rfl, Nat.le_of_ble_eq_true rfl⟩) hE hP hD hS hA [2, 3] [0, 1, 4] rfl rfl rfl rfl rfl 0 9 rfl rfl rfl rfl hl.1 rfl (Nat.le_of_ble_eq_true rfl) dX6_apart_9 ⟨Nat.le_of_ble_eq_true rfl, Nat.le_of_ble_eq_true rfl⟩ (fun rq uq H locs hrq hP hD hS => ?_)
  refine lv_tpx hrq.symm ?_
  have hP : va_P D vwCl [(a_Line, .inr (4, [.ref a_Line_kinds, .ref a_Line_ticks, .ref a_Line_drums, .ref a_Line_marks, .ref a_Line_strokeTicks, .ref a_Line_strokeHeights, .int Line_count])), (a_Line_ticks, .inl (cI, 20, .inl Line_ticks)), (a_Reading, .inr (6, [.ref a_Reading_matches, .int Reading_matched, .ref a_Line, .ref a_Rules, .ref a_Tapes, .ref a_Reading_prices, .int Reading_player])), (a_Tapes, .inr (9, [.ref a_Tapes_counts, .ref a_Tapes_hits])), (a_Tapes_hits, .inl (cI, 96, .inl Tapes_hits))] H := hP
  have hD : va_D A [(a_Line, .inr (4, [.ref a_Line_kinds, .ref a_Line_ticks, .ref a_Line_drums, .ref a_Line_marks, .ref a_Line_strokeTicks, .ref a_Line_strokeHeights, .int Line_count])), (a_Line_ticks, .inl (cI, 20, .inl Line_ticks)), (a_Reading, .inr (6, [.ref a_Reading_matches, .int Reading_matched, .ref a_Line, .ref a_Rules, .ref a_Tapes, .ref a_Reading_prices, .int Reading_player])), (a_Tapes, .inr (9, [.ref a_Tapes_counts, .ref a_Tapes_hits])), (a_Tapes_hits, .inl (cI, 96, .inl Tapes_hits))] := hD
  refine lv_aload_n hx hb dX6_apart_12 rfl (lv_at hl 0 rfl) ?_
  refine va_get (D := D) (ci := 6) (v := .ref a_Line) (C := RX6) (T := TX6) (N := 7) hx hb hts inX6 hown hK hP 2 rfl rfl 2 (by decide) fl25 (fun _ h9 => h9) rfl dX6_apart_13 ?_
  refine va_get (D := D) (ci := 4) (v := .ref a_Line_ticks) (C := RX4) (T := TX4) (N := 7) hx hb hts inX4 hown hK hP 0 rfl rfl 1 (by decide) fl72 (fun _ h9 => h9) rfl dX6_apart_16 ?_
  refine lv_iload_n hx hb dX6_apart_19 rfl (lv_at hl 1 rfl) ?_
  obtain ⟨ix3, x3, ex3, hf⟩ := rd_s hf
  refine va_iald hx hb hK hP 1 0 rfl rfl ix3 dX6_apart_20 ?_
  refine lv_tpx ex3 ?_
  refine lv_isub hx hb dX6_apart_21 ?_
  refine va_mabs hx hb (hml.trans hl.1.symm) hown ml75 ms_abs mini mc_abs (Nat.le_of_ble_eq_true rfl) (Nat.le_of_ble_eq_true rfl) (Nat.le_of_ble_eq_true rfl) (Nat.le_of_ble_eq_true rfl) dX6_apart_22 ?_
  obtain ⟨x4, ex4, hf⟩ := nm_s hf
  refine lv_tpx ex4 ?_
  cases hf
  exact k_iret () hQ9 hx hb hr hlocks rfl (hP.sub [0, 1, 3, 4, 2] rfl) (hD.sub [0, 1, 3, 4, 2] (by decide) rfl) hS (Nat.le_of_ble_eq_true rfl) (Nat.le_of_ble_eq_true rfl) dX6_apart_25
abbrev rm_Reading_priceFrom : Room := { frames := 2, cells := 0, slots := 0, locals := 52 }
set_option maxHeartbeats 4000000 in
set_option maxRecDepth 100000 in
theorem c_Reading_priceFrom (l : Launch) (D : va_G) (cI cZ : ClassId) (t : Nat → Nat) (a_Line a_Line_kinds a_Line_ticks a_Line_drums a_Line_marks a_Line_strokeTicks a_Line_strokeHeights a_Rules a_Rules_values a_Tapes a_Tapes_counts a_Tapes_hits a_Reading a_Reading_matches a_Reading_prices sz : Nat) (Line_ticks : Nat → Int32) (Line_count : Int32) (Rules_values Tapes_hits Reading_prices : Nat → Int32) (Reading_player Reading_matched p1 p2 p3 zr : Int32) (hf : f_Reading_priceFrom Line_ticks Line_count Rules_values Tapes_hits Reading_prices Reading_player p1 p2 p3 = some zr) : Met l yX6_priceFrom wsX6_priceFrom rm_Reading_priceFrom (va_Pc [.ref a_Reading, .int p1, .int p2, .int p3] (pcW D cI cZ t [(a_Line, .inr (4, [.ref a_Line_kinds, .ref a_Line_ticks, .ref a_Line_drums, .ref a_Line_marks, .ref a_Line_strokeTicks, .ref a_Line_strokeHeights, .int Line_count])), (a_Line_ticks, .inl (cI, 20, .inl Line_ticks)), (a_Rules, .inr (7, [.ref a_Rules_values])), (a_Rules_values, .inl (cI, 5, .inl Rules_values)), (a_Tapes, .inr (9, [.ref a_Tapes_counts, .ref a_Tapes_hits])), (a_Tapes_hits, .inl (cI, 96, .inl Tapes_hits)), (a_Reading, .inr (6, [.ref a_Reading_matches, .int Reading_matched, .ref a_Line, .ref a_Rules, .ref a_Tapes, .ref a_Reading_prices, .int Reading_player])), (a_Reading_prices, .inl (cI, 525, .inl Reading_prices))] sz)) (va_Qi (fun r (u : Unit) => r = zr) (fun u t' => bW D (va_A [(a_Line, .inr (4, [.ref a_Line_kinds, .ref a_Line_ticks, .ref a_Line_drums, .ref a_Line_marks, .ref a_Line_strokeTicks, .ref a_Line_strokeHeights, .int Line_count])), (a_Line_ticks, .inl (cI, 20, .inl Line_ticks)), (a_Rules, .inr (7, [.ref a_Rules_values])), (a_Rules_values, .inl (cI, 5, .inl Rules_values)), (a_Tapes, .inr (9, [.ref a_Tapes_counts, .ref a_Tapes_hits])), (a_Tapes_hits, .inl (cI, 96, .inl Tapes_hits)), (a_Reading, .inr (6, [.ref a_Reading_matches, .int Reading_matched, .ref a_Line, .ref a_Rules, .ref a_Tapes, .ref a_Reading_prices, .int Reading_player])), (a_Reading_prices, .inl (cI, 525, .inl Reading_prices))] sz) [(a_Line, .inr (4, [.ref a_Line_kinds, .ref a_Line_ticks, .ref a_Line_drums, .ref a_Line_marks, .ref a_Line_strokeTicks, .ref a_Line_strokeHeights, .int Line_count])), (a_Line_ticks, .inl (cI, 20, .inl Line_ticks)), (a_Rules, .inr (7, [.ref a_Rules_values])), (a_Rules_values, .inl (cI, 5, .inl Rules_values)), (a_Tapes, .inr (9, [.ref a_Tapes_counts, .ref a_Tapes_hits])), (a_Tapes_hits, .inl (cI, 96, .inl Tapes_hits)), (a_Reading, .inr (6, [.ref a_Reading_matches, .int Reading_matched, .ref a_Line, .ref a_Rules, .ref a_Tapes, .ref a_Reading_prices, .int Reading_player])), (a_Reading_prices, .inl (cI, 525, .inl Reading_prices))] t') (va_A [(a_Line, .inr (4, [.ref a_Line_kinds, .ref a_Line_ticks, .ref a_Line_drums, .ref a_Line_marks, .ref a_Line_strokeTicks, .ref a_Line_strokeHeights, .int Line_count])), (a_Line_ticks, .inl (cI, 20, .inl Line_ticks)), (a_Rules, .inr (7, [.ref a_Rules_values])), (a_Rules_values, .inl (cI, 5, .inl Rules_values)), (a_Tapes, .inr (9, [.ref a_Tapes_counts, .ref a_Tapes_hits])), (a_Tapes_hits, .inl (cI, 96, .inl Tapes_hits)), (a_Reading, .inr (6, [.ref a_Reading_matches, .int Reading_matched, .ref a_Line, .ref a_Rules, .ref a_Tapes, .ref a_Reading_prices, .int Reading_player])), (a_Reading_prices, .inl (cI, 525, .inl Reading_prices))] sz)) 0 0 (va_A [(a_Line, .inr (4, [.ref a_Line_kinds, .ref a_Line_ticks, .ref a_Line_drums, .ref a_Line_marks, .ref a_Line_strokeTicks, .ref a_Line_strokeHeights, .int Line_count])), (a_Line_ticks, .inl (cI, 20, .inl Line_ticks)), (a_Rules, .inr (7, [.ref a_Rules_values])), (a_Rules_values, .inl (cI, 5, .inl Rules_values)), (a_Tapes, .inr (9, [.ref a_Tapes_counts, .ref a_Tapes_hits])), (a_Tapes_hits, .inl (cI, 96, .inl Tapes_hits)), (a_Reading, .inr (6, [.ref a_Reading_matches, .int Reading_matched, .ref a_Line, .ref a_Rules, .ref a_Tapes, .ref a_Reading_prices, .int Reading_player])), (a_Reading_prices, .inl (cI, 525, .inl Reading_prices))] sz) := by
  refine Met.ofW (cc := cX6_priceFrom) (maxL := 6) (ret := (some .int)) (by decide) rfl ?_
  intro p e s m args below meth c s₁ B hml hv
  obtain ⟨rfl, hsz, hP, hD0, hE⟩ := hv
  have hx := B.exec
  have hb := B.bytes
  have hr := B.returns
  have hts := atoms_spec (ws := wsX6_priceFrom) B.pre
  have hown : s.vm.findClass RX6 = some m.cls := findClass_of_methodNamed B.named
  have hlocks := B.notSynchronized
  subst hsz
  have hD := hD0.self (sz := s.heap.size)
  generalize hAe : va_A [(a_Line, .inr (4, [.ref a_Line_kinds, .ref a_Line_ticks, .ref a_Line_drums, .ref a_Line_marks, .ref a_Line_strokeTicks, .ref a_Line_strokeHeights, .int Line_count])), (a_Line_ticks, .inl (cI, 20, .inl Line_ticks)), (a_Rules, .inr (7, [.ref a_Rules_values])), (a_Rules_values, .inl (cI, 5, .inl Rules_values)), (a_Tapes, .inr (9, [.ref a_Tapes_counts, .ref a_Tapes_hits])), (a_Tapes_hits, .inl (cI, 96, .inl Tapes_hits)), (a_Reading, .inr (6, [.ref a_Reading_matches, .int Reading_matched, .ref a_Line, .ref a_Rules, .ref a_Tapes, .ref a_Reading_prices, .int Reading_player])), (a_Reading_prices, .inl (cI, 525, .inl Reading_prices))] s.heap.size = A at hD hE ⊢
  have hA : ∀ q : Nat, s.heap.size ≤ q → A q := fun q h => by rw [← hAe]; exact Or.inr h
  clear hAe hD0
  have hS : va_S A s.heap s.heap [] := va_S.rf
  have hK := hE.1
  have hl := lv_entry ([.ref a_Reading, .int p1, .int p2, .int p3]) (n := 6) (Nat.le_of_ble_eq_true rfl)
  rw [lg_entry_eq]
  generalize (lg_sl ([.ref a_Reading, .int p1, .int p2, .int p3]) ++ List.replicate (6 - (lg_sl ([.ref a_Reading, .int p1, .int p2, .int p3])).length) Slot.unset).toArray = ls at hl ⊢
  have hl : lv_has ls 6 [(0, .ref a_Reading), (1, .int p1), (2, .int p2), (3, .int p3)] := hl
  refine w_q (fun Q9 hQ9 => ?_)
  have fl25 := hts (.fieldLink RX6 25 "StickRoom$Reading" "line" "LStickRoom$Line;") (by decide +kernel)
  have inX6 : ∀ w ∈ wsX60, w ∈ wsX6_priceFrom := by decide +kernel
  have fl42 := hts (.fieldLink RX6 42 "StickRoom$Line" "count" "I") (by decide +kernel)
  have inX4 : ∀ w ∈ wsX40, w ∈ wsX6_priceFrom := by decide +kernel
  have fl19 := hts (.fieldLink RX6 19 "StickRoom$Reading" "prices" "[I") (by decide +kernel)
  have ml55 := hts (.methodLink RX6 55 Lib.Math.min.name) (by decide +kernel)
  have ms_min := hts (.static Lib.Math.min.name) (by decide +kernel)
  have mini := hts (.initialized "java/lang/Math") (by decide +kernel)
  have mc_min := hts (.code Lib.Math.min.name Lib.Math.min.code 2 (some .int)) (by decide +kernel)
  have fl29 := hts (.fieldLink RX6 29 "StickRoom$Reading" "rules" "LStickRoom$Rules;") (by decide +kernel)
  have fl64 := hts (.fieldLink RX6 64 "StickRoom$Rules" "values" "[I") (by decide +kernel)
  have inX7 : ∀ w ∈ wsX70, w ∈ wsX6_priceFrom := by decide +kernel
  unfold f_Reading_priceFrom at hf
  refine lv_iload_n hx hb dX6_priceFrom_0 rfl (lv_at hl 1 rfl) ?_
  refine lv_aload_n hx hb dX6_priceFrom_1 rfl (lv_at hl 0 rfl) ?_
  refine va_get (D := D) (ci := 6) (v := .ref a_Line) (C := RX6) (T := TX6) (N := 7) hx hb hts inX6 hown hK hP 6 rfl rfl 2 (by decide) fl25 (fun _ h9 => h9) rfl dX6_priceFrom_2 ?_
  refine va_get (D := D) (ci := 4) (v := .int Line_count) (C := RX4) (T := TX4) (N := 7) hx hb hts inX4 hown hK hP 0 rfl rfl 6 (by decide) fl42 (fun _ h9 => h9) rfl dX6_priceFrom_5 ?_
  refine lv_icmp_ne (tgt := 18) hx hb dX6_priceFrom_8 (by decide) (fun c1 => ?_) (fun c1 => ?_)
  · have hf := ite_f c1 hf
    refine lv_iload_n hx hb dX6_priceFrom_18 rfl (lv_at hl 2 rfl) ?_
    refine lv_iload_n hx hb dX6_priceFrom_19 rfl (lv_at hl 3 rfl) ?_
    refine lv_icmp_ne (tgt := 36) hx hb dX6_priceFrom_20 (by decide) (fun c2 => ?_) (fun c2 => ?_)
    · have hf := ite_f c2 hf
      refine lv_bipush (v := 40) hx hb dX6_priceFrom_36 (by decide) ?_
      refine lv_aload_n hx hb dX6_priceFrom_38 rfl (lv_at hl 0 rfl) ?_
      refine va_get (D := D) (ci := 6) (v := .ref a_Reading_prices) (C := RX6) (T := TX6) (N := 7) hx hb hts inX6 hown hK hP 6 rfl rfl 5 (by decide) fl19 (fun _ h9 => h9) rfl dX6_priceFrom_39 ?_
      refine lv_iload_n hx hb dX6_priceFrom_42 rfl (lv_at hl 1 rfl) ?_
      refine lv_iconst (v := 1) hx hb dX6_priceFrom_43 (by decide) ?_
      refine lv_iadd hx hb dX6_priceFrom_44 ?_
      refine lv_bipush (v := 25) hx hb dX6_priceFrom_45 (by decide) ?_
      refine lv_imul hx hb dX6_priceFrom_47 ?_
      refine lv_iload_n hx hb dX6_priceFrom_48 rfl (lv_at hl 2 rfl) ?_
      refine lv_iadd hx hb dX6_priceFrom_49 ?_
      obtain ⟨ix3, x3, ex3, hf⟩ := rd_s hf
      refine va_iald hx hb hK hP 7 0 rfl rfl ix3 dX6_priceFrom_50 ?_
      refine lv_tpx ex3 ?_
      refine lv_aload_n hx hb dX6_priceFrom_51 rfl (lv_at hl 0 rfl) ?_
      refine va_get (D := D) (ci := 6) (v := .ref a_Reading_prices) (C := RX6) (T := TX6) (N := 7) hx hb hts inX6 hown hK hP 6 rfl rfl 5 (by decide) fl19 (fun _ h9 => h9) rfl dX6_priceFrom_52 ?_
      refine lv_iload_n hx hb dX6_priceFrom_55 rfl (lv_at hl 1 rfl) ?_
      refine lv_bipush (v := 25) hx hb dX6_priceFrom_56 (by decide) ?_
      refine lv_imul hx hb dX6_priceFrom_58 ?_
      refine lv_iload_n hx hb dX6_priceFrom_59 rfl (lv_at hl 2 rfl) ?_
      refine lv_iadd hx hb dX6_priceFrom_60 ?_
      refine lv_iconst (v := 1) hx hb dX6_priceFrom_61 (by decide) ?_
      refine lv_iadd hx hb dX6_priceFrom_62 ?_
      obtain ⟨ix4, x4, ex4, hf⟩ := rd_s hf
      refine va_iald hx hb hK hP 7 0 rfl rfl ix4 dX6_priceFrom_63 ?_
      refine lv_tpx ex4 ?_
      refine va_mmin hx hb (hml.trans hl.1.symm) hown ml55 ms_min mini mc_min (Nat.le_of_ble_eq_true rfl) (Nat.le_of_ble_eq_true rfl) (Nat.le_of_ble_eq_true rfl) (Nat.le_of_ble_eq_true rfl) dX6_priceFrom_64 ?_
      obtain ⟨x5, ex5, hf⟩ := nm_s hf
      refine lv_tpx ex5 ?_
      refine lv_iadd hx hb dX6_priceFrom_67 ?_
      obtain ⟨x6, ex6, hf⟩ := nm_s hf
      refine lv_tpx ex6 ?_
      refine lv_istore (lv' := [(4, .int x6), (0, .ref a_Reading), (1, .int p1), (2, .int p2), (3, .int p3)]) hx hb dX6_priceFrom_68 hl (by decide) rfl (fun ls hl => ?_)
      refine lv_aload_n hx hb dX6_priceFrom_70 rfl (lv_at hl 1 rfl) ?_
      refine lv_iload_n hx hb dX6_priceFrom_71 rfl (lv_at hl 2 rfl) ?_
      refine lv_iload_n hx hb dX6_priceFrom_72 rfl (lv_at hl 3 rfl) ?_
      obtain ⟨r7, g8, hf⟩ := b1_s hf
      refine k_Vi (rest := []) ⟨hx, hb, hml, hown, hts⟩ (c_Reading_apart l D cI cZ t a_Line a_Line_kinds a_Line_ticks a_Line_drums a_Line_marks a_Line_strokeTicks a_Line_strokeHeights a_Tapes a_Tapes_counts a_Tapes_hits a_Reading a_Reading_matches a_Rules a_Reading_prices s.heap.size Line_ticks Tapes_hits Reading_player Line_count Reading_matched p1 p2 r7 g8) (cwV 2 hts gX6_priceFrom_X6_apart rfl rfl rfl (by decide +kernel) ⟨Nat.le_of_ble_eq_true rfl, Nat.le_of_ble_eq_true rfl⟩) hE hP hD hS hA [0, 1, 4, 5, 6] [2, 3, 7] rfl rfl rfl rfl rfl 4 6 rfl rfl rfl rfl hl.1 rfl (Nat.le_of_ble_eq_true rfl) dX6_priceFrom_73 ⟨Nat.le_of_ble_eq_true rfl, Nat.le_of_ble_eq_true rfl⟩ (fun rq uq H locs hrq hP hD hS => ?_)
      refine lv_tpx hrq.symm ?_
      have hP : va_P D vwCl [(a_Rules, .inr (7, [.ref a_Rules_values])), (a_Rules_values, .inl (cI, 5, .inl Rules_values)), (a_Reading_prices, .inl (cI, 525, .inl Reading_prices)), (a_Line, .inr (4, [.ref a_Line_kinds, .ref a_Line_ticks, .ref a_Line_drums, .ref a_Line_marks, .ref a_Line_strokeTicks, .ref a_Line_strokeHeights, .int Line_count])), (a_Line_ticks, .inl (cI, 20, .inl Line_ticks)), (a_Tapes, .inr (9, [.ref a_Tapes_counts, .ref a_Tapes_hits])), (a_Tapes_hits, .inl (cI, 96, .inl Tapes_hits)), (a_Reading, .inr (6, [.ref a_Reading_matches, .int Reading_matched, .ref a_Line, .ref a_Rules, .ref a_Tapes, .ref a_Reading_prices, .int Reading_player]))] H := hP
      have hD : va_D A [(a_Rules, .inr (7, [.ref a_Rules_values])), (a_Rules_values, .inl (cI, 5, .inl Rules_values)), (a_Reading_prices, .inl (cI, 525, .inl Reading_prices)), (a_Line, .inr (4, [.ref a_Line_kinds, .ref a_Line_ticks, .ref a_Line_drums, .ref a_Line_marks, .ref a_Line_strokeTicks, .ref a_Line_strokeHeights, .int Line_count])), (a_Line_ticks, .inl (cI, 20, .inl Line_ticks)), (a_Tapes, .inr (9, [.ref a_Tapes_counts, .ref a_Tapes_hits])), (a_Tapes_hits, .inl (cI, 96, .inl Tapes_hits)), (a_Reading, .inr (6, [.ref a_Reading_matches, .int Reading_matched, .ref a_Line, .ref a_Rules, .ref a_Tapes, .ref a_Reading_prices, .int Reading_player]))] := hD
      refine lv_istore (lv' := [(5, .int r7), (4, .int x6), (0, .ref a_Reading), (1, .int p1), (2, .int p2), (3, .int p3)]) hx hb dX6_priceFrom_76 hl (by decide) rfl (fun ls hl => ?_)
      refine lv_iload hx hb dX6_priceFrom_78 (lv_at hl 0 rfl) ?_
      refine lv_aload_n hx hb dX6_priceFrom_80 rfl (lv_at hl 2 rfl) ?_
      refine va_get (D := D) (ci := 6) (v := .ref a_Rules) (C := RX6) (T := TX6) (N := 7) hx hb hts inX6 hown hK hP 7 rfl rfl 3 (by decide) fl29 (fun _ h9 => h9) rfl dX6_priceFrom_81 ?_
      refine va_get (D := D) (ci := 7) (v := .ref a_Rules_values) (C := RX7) (T := TX7) (N := 1) hx hb hts inX7 hown hK hP 0 rfl rfl 0 (by decide) fl64 (fun _ h9 => h9) rfl dX6_priceFrom_84 ?_
      refine lv_iconst (v := 4) hx hb dX6_priceFrom_87 (by decide) ?_
      obtain ⟨ix9, x9, ex9, hf⟩ := rd_s hf
      refine va_iald hx hb hK hP 1 0 rfl rfl ix9 dX6_priceFrom_88 ?_
      refine lv_tpx ex9 ?_
      refine lv_icmp_le (tgt := 95) hx hb dX6_priceFrom_89 (by decide) (fun c10 => ?_) (fun c10 => ?_)
      · have hf := ite_t c10 hf
        refine lv_iload hx hb dX6_priceFrom_95 (lv_at hl 1 rfl) ?_
        refine lv_iload hx hb dX6_priceFrom_97 (lv_at hl 0 rfl) ?_
        refine lv_aload_n hx hb dX6_priceFrom_99 rfl (lv_at hl 2 rfl) ?_
        refine va_get (D := D) (ci := 6) (v := .ref a_Reading_prices) (C := RX6) (T := TX6) (N := 7) hx hb hts inX6 hown hK hP 7 rfl rfl 5 (by decide) fl19 (fun _ h9 => h9) rfl dX6_priceFrom_100 ?_
        refine lv_iload_n hx hb dX6_priceFrom_103 rfl (lv_at hl 3 rfl) ?_
        refine lv_iconst (v := 1) hx hb dX6_priceFrom_104 (by decide) ?_
        refine lv_iadd hx hb dX6_priceFrom_105 ?_
        refine lv_bipush (v := 25) hx hb dX6_priceFrom_106 (by decide) ?_
        refine lv_imul hx hb dX6_priceFrom_108 ?_
        refine lv_iload_n hx hb dX6_priceFrom_109 rfl (lv_at hl 4 rfl) ?_
        refine lv_iadd hx hb dX6_priceFrom_110 ?_
        refine lv_iconst (v := 1) hx hb dX6_priceFrom_111 (by decide) ?_
        refine lv_iadd hx hb dX6_priceFrom_112 ?_
        obtain ⟨ix11, x11, ex11, hf⟩ := rd_s hf
        refine va_iald hx hb hK hP 2 0 rfl rfl ix11 dX6_priceFrom_113 ?_
        refine lv_tpx ex11 ?_
        refine lv_iadd hx hb dX6_priceFrom_114 ?_
        refine va_mmin hx hb (hml.trans hl.1.symm) hown ml55 ms_min mini mc_min (Nat.le_of_ble_eq_true rfl) (Nat.le_of_ble_eq_true rfl) (Nat.le_of_ble_eq_true rfl) (Nat.le_of_ble_eq_true rfl) dX6_priceFrom_115 ?_
        obtain ⟨x12, ex12, hf⟩ := nm_s hf
        refine lv_tpx ex12 ?_
        cases hf
        exact k_iret () hQ9 hx hb hr hlocks rfl (hP.sub [3, 4, 0, 1, 5, 6, 7, 2] rfl) (hD.sub [3, 4, 0, 1, 5, 6, 7, 2] (by decide) rfl) hS (Nat.le_of_ble_eq_true rfl) (Nat.le_of_ble_eq_true rfl) dX6_priceFrom_118
      · have hf := ite_f c10 hf
        refine lv_iload hx hb dX6_priceFrom_92 (lv_at hl 1 rfl) ?_
        cases hf
        exact k_iret () hQ9 hx hb hr hlocks rfl (hP.sub [3, 4, 0, 1, 5, 6, 7, 2] rfl) (hD.sub [3, 4, 0, 1, 5, 6, 7, 2] (by decide) rfl) hS (Nat.le_of_ble_eq_true rfl) (Nat.le_of_ble_eq_true rfl) dX6_priceFrom_94
    · have hf := ite_t c2 hf
      refine lv_bipush (v := 40) hx hb dX6_priceFrom_23 (by decide) ?_
      refine lv_aload_n hx hb dX6_priceFrom_25 rfl (lv_at hl 0 rfl) ?_
      refine va_get (D := D) (ci := 6) (v := .ref a_Line) (C := RX6) (T := TX6) (N := 7) hx hb hts inX6 hown hK hP 6 rfl rfl 2 (by decide) fl25 (fun _ h9 => h9) rfl dX6_priceFrom_26 ?_
      refine va_get (D := D) (ci := 4) (v := .int Line_count) (C := RX4) (T := TX4) (N := 7) hx hb hts inX4 hown hK hP 0 rfl rfl 6 (by decide) fl42 (fun _ h9 => h9) rfl dX6_priceFrom_29 ?_
      refine lv_iload_n hx hb dX6_priceFrom_32 rfl (lv_at hl 1 rfl) ?_
      refine lv_isub hx hb dX6_priceFrom_33 ?_
      refine lv_imul hx hb dX6_priceFrom_34 ?_
      cases hf
      exact k_iret () hQ9 hx hb hr hlocks rfl hP hD hS (Nat.le_of_ble_eq_true rfl) (Nat.le_of_ble_eq_true rfl) dX6_priceFrom_35
  · have hf := ite_t c1 hf
    refine lv_bipush (v := 40) hx hb dX6_priceFrom_11 (by decide) ?_
    refine lv_iload_n hx hb dX6_priceFrom_13 rfl (lv_at hl 3 rfl) ?_
    refine lv_iload_n hx hb dX6_priceFrom_14 rfl (lv_at hl 2 rfl) ?_
    refine lv_isub hx hb dX6_priceFrom_15 ?_
    refine lv_imul hx hb dX6_priceFrom_16 ?_
    cases hf
    exact k_iret () hQ9 hx hb hr hlocks rfl hP hD hS (Nat.le_of_ble_eq_true rfl) (Nat.le_of_ble_eq_true rfl) dX6_priceFrom_17
abbrev rm_Reading_firstBestMatch : Room := { frames := 2, cells := 0, slots := 0, locals := 52 }
set_option maxHeartbeats 4000000 in
set_option maxRecDepth 100000 in
theorem c_Reading_firstBestMatch (l : Launch) (D : va_G) (cI cZ : ClassId) (t : Nat → Nat) (a_Line a_Line_kinds a_Line_ticks a_Line_drums a_Line_marks a_Line_strokeTicks a_Line_strokeHeights a_Rules a_Rules_values a_Tapes a_Tapes_counts a_Tapes_hits a_Reading a_Reading_matches a_Reading_prices sz : Nat) (Line_ticks Rules_values Tapes_hits Reading_prices : Nat → Int32) (Reading_player Line_count Reading_matched p1 p2 p3 zr : Int32) (hf : f_Reading_firstBestMatch Line_ticks Rules_values Tapes_hits Reading_prices Reading_player p1 p2 p3 = some zr) : Met l yX6_firstBestMatch wsX6_firstBestMatch rm_Reading_firstBestMatch (va_Pc [.ref a_Reading, .int p1, .int p2, .int p3] (pcW D cI cZ t [(a_Line, .inr (4, [.ref a_Line_kinds, .ref a_Line_ticks, .ref a_Line_drums, .ref a_Line_marks, .ref a_Line_strokeTicks, .ref a_Line_strokeHeights, .int Line_count])), (a_Line_ticks, .inl (cI, 20, .inl Line_ticks)), (a_Rules, .inr (7, [.ref a_Rules_values])), (a_Rules_values, .inl (cI, 5, .inl Rules_values)), (a_Tapes, .inr (9, [.ref a_Tapes_counts, .ref a_Tapes_hits])), (a_Tapes_hits, .inl (cI, 96, .inl Tapes_hits)), (a_Reading, .inr (6, [.ref a_Reading_matches, .int Reading_matched, .ref a_Line, .ref a_Rules, .ref a_Tapes, .ref a_Reading_prices, .int Reading_player])), (a_Reading_prices, .inl (cI, 525, .inl Reading_prices))] sz)) (va_Qi (fun r (u : Unit) => r = zr) (fun u t' => bW D (va_A [(a_Line, .inr (4, [.ref a_Line_kinds, .ref a_Line_ticks, .ref a_Line_drums, .ref a_Line_marks, .ref a_Line_strokeTicks, .ref a_Line_strokeHeights, .int Line_count])), (a_Line_ticks, .inl (cI, 20, .inl Line_ticks)), (a_Rules, .inr (7, [.ref a_Rules_values])), (a_Rules_values, .inl (cI, 5, .inl Rules_values)), (a_Tapes, .inr (9, [.ref a_Tapes_counts, .ref a_Tapes_hits])), (a_Tapes_hits, .inl (cI, 96, .inl Tapes_hits)), (a_Reading, .inr (6, [.ref a_Reading_matches, .int Reading_matched, .ref a_Line, .ref a_Rules, .ref a_Tapes, .ref a_Reading_prices, .int Reading_player])), (a_Reading_prices, .inl (cI, 525, .inl Reading_prices))] sz) [(a_Line, .inr (4, [.ref a_Line_kinds, .ref a_Line_ticks, .ref a_Line_drums, .ref a_Line_marks, .ref a_Line_strokeTicks, .ref a_Line_strokeHeights, .int Line_count])), (a_Line_ticks, .inl (cI, 20, .inl Line_ticks)), (a_Rules, .inr (7, [.ref a_Rules_values])), (a_Rules_values, .inl (cI, 5, .inl Rules_values)), (a_Tapes, .inr (9, [.ref a_Tapes_counts, .ref a_Tapes_hits])), (a_Tapes_hits, .inl (cI, 96, .inl Tapes_hits)), (a_Reading, .inr (6, [.ref a_Reading_matches, .int Reading_matched, .ref a_Line, .ref a_Rules, .ref a_Tapes, .ref a_Reading_prices, .int Reading_player])), (a_Reading_prices, .inl (cI, 525, .inl Reading_prices))] t') (va_A [(a_Line, .inr (4, [.ref a_Line_kinds, .ref a_Line_ticks, .ref a_Line_drums, .ref a_Line_marks, .ref a_Line_strokeTicks, .ref a_Line_strokeHeights, .int Line_count])), (a_Line_ticks, .inl (cI, 20, .inl Line_ticks)), (a_Rules, .inr (7, [.ref a_Rules_values])), (a_Rules_values, .inl (cI, 5, .inl Rules_values)), (a_Tapes, .inr (9, [.ref a_Tapes_counts, .ref a_Tapes_hits])), (a_Tapes_hits, .inl (cI, 96, .inl Tapes_hits)), (a_Reading, .inr (6, [.ref a_Reading_matches, .int Reading_matched, .ref a_Line, .ref a_Rules, .ref a_Tapes, .ref a_Reading_prices, .int Reading_player])), (a_Reading_prices, .inl (cI, 525, .inl Reading_prices))] sz)) 0 0 (va_A [(a_Line, .inr (4, [.ref a_Line_kinds, .ref a_Line_ticks, .ref a_Line_drums, .ref a_Line_marks, .ref a_Line_strokeTicks, .ref a_Line_strokeHeights, .int Line_count])), (a_Line_ticks, .inl (cI, 20, .inl Line_ticks)), (a_Rules, .inr (7, [.ref a_Rules_values])), (a_Rules_values, .inl (cI, 5, .inl Rules_values)), (a_Tapes, .inr (9, [.ref a_Tapes_counts, .ref a_Tapes_hits])), (a_Tapes_hits, .inl (cI, 96, .inl Tapes_hits)), (a_Reading, .inr (6, [.ref a_Reading_matches, .int Reading_matched, .ref a_Line, .ref a_Rules, .ref a_Tapes, .ref a_Reading_prices, .int Reading_player])), (a_Reading_prices, .inl (cI, 525, .inl Reading_prices))] sz) := by
  refine Met.ofW (cc := cX6_firstBestMatch) (maxL := 8) (ret := (some .int)) (by decide) rfl ?_
  intro p e s m args below meth c s₁ B hml hv
  obtain ⟨rfl, hsz, hP, hD0, hE⟩ := hv
  have hx := B.exec
  have hb := B.bytes
  have hr := B.returns
  have hts := atoms_spec (ws := wsX6_firstBestMatch) B.pre
  have hown : s.vm.findClass RX6 = some m.cls := findClass_of_methodNamed B.named
  have hlocks := B.notSynchronized
  subst hsz
  have hD := hD0.self (sz := s.heap.size)
  generalize hAe : va_A [(a_Line, .inr (4, [.ref a_Line_kinds, .ref a_Line_ticks, .ref a_Line_drums, .ref a_Line_marks, .ref a_Line_strokeTicks, .ref a_Line_strokeHeights, .int Line_count])), (a_Line_ticks, .inl (cI, 20, .inl Line_ticks)), (a_Rules, .inr (7, [.ref a_Rules_values])), (a_Rules_values, .inl (cI, 5, .inl Rules_values)), (a_Tapes, .inr (9, [.ref a_Tapes_counts, .ref a_Tapes_hits])), (a_Tapes_hits, .inl (cI, 96, .inl Tapes_hits)), (a_Reading, .inr (6, [.ref a_Reading_matches, .int Reading_matched, .ref a_Line, .ref a_Rules, .ref a_Tapes, .ref a_Reading_prices, .int Reading_player])), (a_Reading_prices, .inl (cI, 525, .inl Reading_prices))] s.heap.size = A at hD hE ⊢
  have hA : ∀ q : Nat, s.heap.size ≤ q → A q := fun q h => by rw [← hAe]; exact Or.inr h
  clear hAe hD0
  have hS : va_S A s.heap s.heap [] := va_S.rf
  have hK := hE.1
  have hl := lv_entry ([.ref a_Reading, .int p1, .int p2, .int p3]) (n := 8) (Nat.le_of_ble_eq_true rfl)
  rw [lg_entry_eq]
  generalize (lg_sl ([.ref a_Reading, .int p1, .int p2, .int p3]) ++ List.replicate (8 - (lg_sl ([.ref a_Reading, .int p1, .int p2, .int p3])).length) Slot.unset).toArray = ls at hl ⊢
  have hl : lv_has ls 8 [(0, .ref a_Reading), (1, .int p1), (2, .int p2), (3, .int p3)] := hl
  refine w_q (fun Q9 hQ9 => ?_)
  have fl19 := hts (.fieldLink RX6 19 "StickRoom$Reading" "prices" "[I") (by decide +kernel)
  have inX6 : ∀ w ∈ wsX60, w ∈ wsX6_firstBestMatch := by decide +kernel
  have fl29 := hts (.fieldLink RX6 29 "StickRoom$Reading" "rules" "LStickRoom$Rules;") (by decide +kernel)
  have fl64 := hts (.fieldLink RX6 64 "StickRoom$Rules" "values" "[I") (by decide +kernel)
  have inX7 : ∀ w ∈ wsX70, w ∈ wsX6_firstBestMatch := by decide +kernel
  have hL16 : ∀ (n16 : Nat) (l1 l2 l3 l4 l5 : Int32) (H : Heap) (locs : List Loc) (ls : Array Slot), va_P D vwCl [(a_Line, .inr (4, [.ref a_Line_kinds, .ref a_Line_ticks, .ref a_Line_drums, .ref a_Line_marks, .ref a_Line_strokeTicks, .ref a_Line_strokeHeights, .int Line_count])), (a_Line_ticks, .inl (cI, 20, .inl Line_ticks)), (a_Rules, .inr (7, [.ref a_Rules_values])), (a_Rules_values, .inl (cI, 5, .inl Rules_values)), (a_Tapes, .inr (9, [.ref a_Tapes_counts, .ref a_Tapes_hits])), (a_Tapes_hits, .inl (cI, 96, .inl Tapes_hits)), (a_Reading, .inr (6, [.ref a_Reading_matches, .int Reading_matched, .ref a_Line, .ref a_Rules, .ref a_Tapes, .ref a_Reading_prices, .int Reading_player])), (a_Reading_prices, .inl (cI, 525, .inl Reading_prices))] H → va_D A [(a_Line, .inr (4, [.ref a_Line_kinds, .ref a_Line_ticks, .ref a_Line_drums, .ref a_Line_marks, .ref a_Line_strokeTicks, .ref a_Line_strokeHeights, .int Line_count])), (a_Line_ticks, .inl (cI, 20, .inl Line_ticks)), (a_Rules, .inr (7, [.ref a_Rules_values])), (a_Rules_values, .inl (cI, 5, .inl Rules_values)), (a_Tapes, .inr (9, [.ref a_Tapes_counts, .ref a_Tapes_hits])), (a_Tapes_hits, .inl (cI, 96, .inl Tapes_hits)), (a_Reading, .inr (6, [.ref a_Reading_matches, .int Reading_matched, .ref a_Line, .ref a_Rules, .ref a_Tapes, .ref a_Reading_prices, .int Reading_player])), (a_Reading_prices, .inl (cI, 525, .inl Reading_prices))] → va_S A s.heap H locs → lv_has ls 8 [(0, .ref a_Reading), (1, .int l1), (2, .int l2), (3, .int l3), (4, .int l4), (5, .int l5)] → f_Reading_firstBestMatch_16 Line_ticks Rules_values Tapes_hits Reading_prices Reading_player  n16 l1 l2 l3 l4 l5 = some zr → W p l e (headSpec wsX6_firstBestMatch rm_Reading_firstBestMatch).room s m ([.ref a_Reading, .int p1, .int p2, .int p3] : List Value).toArray below meth c H locs 0 0 Q9 (F0 m 16 ls []) := by
    intro n16
    induction n16 with
    | zero => intro l1 l2 l3 l4 l5 H locs ls hP hD hS hl hf; exact nomatch (show none = some zr from hf)
    | succ n16 ih16 =>
      intro l1 l2 l3 l4 l5 H locs ls hP hD hS hl hf
      have hf : f_Reading_firstBestMatch_16_b Line_ticks Rules_values Tapes_hits Reading_prices Reading_player  (f_Reading_firstBestMatch_16 Line_ticks Rules_values Tapes_hits Reading_prices Reading_player  n16) l1 l2 l3 l4 l5 = some zr := hf
      unfold f_Reading_firstBestMatch_16_b at hf
      refine lv_iload hx hb dX6_firstBestMatch_16 (lv_at hl 5 rfl) ?_
      refine lv_iload_n hx hb dX6_firstBestMatch_18 rfl (lv_at hl 3 rfl) ?_
      refine lv_icmp_ge (tgt := 90) hx hb dX6_firstBestMatch_19 (by decide) (fun c1 => ?_) (fun c1 => ?_)
      · have hf := ite_t c1 hf
        refine lv_iconst (v := (-1)) hx hb dX6_firstBestMatch_90 (by decide) ?_
        cases hf
        exact k_iret () hQ9 hx hb hr hlocks rfl hP hD hS (Nat.le_of_ble_eq_true rfl) (Nat.le_of_ble_eq_true rfl) dX6_firstBestMatch_91
      · have hf := ite_f c1 hf
        refine lv_aload_n hx hb dX6_firstBestMatch_22 rfl (lv_at hl 0 rfl) ?_
        refine lv_iload_n hx hb dX6_firstBestMatch_23 rfl (lv_at hl 1 rfl) ?_
        refine lv_iload hx hb dX6_firstBestMatch_24 (lv_at hl 5 rfl) ?_
        obtain ⟨r2, g3, hf⟩ := b1_s hf
        refine k_Vi (rest := []) ⟨hx, hb, hml, hown, hts⟩ (c_Reading_apart l D cI cZ t a_Line a_Line_kinds a_Line_ticks a_Line_drums a_Line_marks a_Line_strokeTicks a_Line_strokeHeights a_Tapes a_Tapes_counts a_Tapes_hits a_Reading a_Reading_matches a_Rules a_Reading_prices H.size Line_ticks Tapes_hits Reading_player Line_count Reading_matched l1 l5 r2 g3) (cwV 2 hts gX6_firstBestMatch_X6_apart rfl rfl rfl (by decide +kernel) ⟨Nat.le_of_ble_eq_true rfl, Nat.le_of_ble_eq_true rfl⟩) hE hP hD hS hA [0, 1, 4, 5, 6] [2, 3, 7] rfl rfl rfl rfl rfl 4 6 rfl rfl rfl rfl hl.1 rfl (Nat.le_of_ble_eq_true rfl) dX6_firstBestMatch_26 ⟨Nat.le_of_ble_eq_true rfl, Nat.le_of_ble_eq_true rfl⟩ (fun rq uq H locs hrq hP hD hS => ?_)
        refine lv_tpx hrq.symm ?_
        have hP : va_P D vwCl [(a_Rules, .inr (7, [.ref a_Rules_values])), (a_Rules_values, .inl (cI, 5, .inl Rules_values)), (a_Reading_prices, .inl (cI, 525, .inl Reading_prices)), (a_Line, .inr (4, [.ref a_Line_kinds, .ref a_Line_ticks, .ref a_Line_drums, .ref a_Line_marks, .ref a_Line_strokeTicks, .ref a_Line_strokeHeights, .int Line_count])), (a_Line_ticks, .inl (cI, 20, .inl Line_ticks)), (a_Tapes, .inr (9, [.ref a_Tapes_counts, .ref a_Tapes_hits])), (a_Tapes_hits, .inl (cI, 96, .inl Tapes_hits)), (a_Reading, .inr (6, [.ref a_Reading_matches, .int Reading_matched, .ref a_Line, .ref a_Rules, .ref a_Tapes, .ref a_Reading_prices, .int Reading_player]))] H := hP
        have hD : va_D A [(a_Rules, .inr (7, [.ref a_Rules_values])), (a_Rules_values, .inl (cI, 5, .inl Rules_values)), (a_Reading_prices, .inl (cI, 525, .inl Reading_prices)), (a_Line, .inr (4, [.ref a_Line_kinds, .ref a_Line_ticks, .ref a_Line_drums, .ref a_Line_marks, .ref a_Line_strokeTicks, .ref a_Line_strokeHeights, .int Line_count])), (a_Line_ticks, .inl (cI, 20, .inl Line_ticks)), (a_Tapes, .inr (9, [.ref a_Tapes_counts, .ref a_Tapes_hits])), (a_Tapes_hits, .inl (cI, 96, .inl Tapes_hits)), (a_Reading, .inr (6, [.ref a_Reading_matches, .int Reading_matched, .ref a_Line, .ref a_Rules, .ref a_Tapes, .ref a_Reading_prices, .int Reading_player]))] := hD
        refine lv_istore (lv' := [(6, .int r2), (0, .ref a_Reading), (1, .int l1), (2, .int l2), (3, .int l3), (4, .int l4), (5, .int l5)]) hx hb dX6_firstBestMatch_29 hl (by decide) rfl (fun ls hl => ?_)
        refine lv_bipush (v := 40) hx hb dX6_firstBestMatch_31 (by decide) ?_
        refine lv_iload hx hb dX6_firstBestMatch_33 (lv_at hl 6 rfl) ?_
        refine lv_iload_n hx hb dX6_firstBestMatch_35 rfl (lv_at hl 3 rfl) ?_
        refine lv_isub hx hb dX6_firstBestMatch_36 ?_
        refine lv_imul hx hb dX6_firstBestMatch_37 ?_
        refine lv_iload hx hb dX6_firstBestMatch_38 (lv_at hl 0 rfl) ?_
        refine lv_iadd hx hb dX6_firstBestMatch_40 ?_
        refine lv_aload_n hx hb dX6_firstBestMatch_41 rfl (lv_at hl 1 rfl) ?_
        refine va_get (D := D) (ci := 6) (v := .ref a_Reading_prices) (C := RX6) (T := TX6) (N := 7) hx hb hts inX6 hown hK hP 7 rfl rfl 5 (by decide) fl19 (fun _ h9 => h9) rfl dX6_firstBestMatch_42 ?_
        refine lv_iload_n hx hb dX6_firstBestMatch_45 rfl (lv_at hl 2 rfl) ?_
        refine lv_iconst (v := 1) hx hb dX6_firstBestMatch_46 (by decide) ?_
        refine lv_iadd hx hb dX6_firstBestMatch_47 ?_
        refine lv_bipush (v := 25) hx hb dX6_firstBestMatch_48 (by decide) ?_
        refine lv_imul hx hb dX6_firstBestMatch_50 ?_
        refine lv_iload hx hb dX6_firstBestMatch_51 (lv_at hl 6 rfl) ?_
        refine lv_iadd hx hb dX6_firstBestMatch_53 ?_
        refine lv_iconst (v := 1) hx hb dX6_firstBestMatch_54 (by decide) ?_
        refine lv_iadd hx hb dX6_firstBestMatch_55 ?_
        obtain ⟨ix4, x4, ex4, hf⟩ := rd_s hf
        refine va_iald hx hb hK hP 2 0 rfl rfl ix4 dX6_firstBestMatch_56 ?_
        refine lv_tpx ex4 ?_
        refine lv_iadd hx hb dX6_firstBestMatch_57 ?_
        obtain ⟨x5, ex5, hf⟩ := nm_s hf
        refine lv_tpx ex5 ?_
        refine lv_istore (lv' := [(7, .int x5), (6, .int r2), (0, .ref a_Reading), (1, .int l1), (2, .int l2), (3, .int l3), (4, .int l4), (5, .int l5)]) hx hb dX6_firstBestMatch_58 hl (by decide) rfl (fun ls hl => ?_)
        refine lv_iload hx hb dX6_firstBestMatch_60 (lv_at hl 1 rfl) ?_
        refine lv_aload_n hx hb dX6_firstBestMatch_62 rfl (lv_at hl 2 rfl) ?_
        refine va_get (D := D) (ci := 6) (v := .ref a_Rules) (C := RX6) (T := TX6) (N := 7) hx hb hts inX6 hown hK hP 7 rfl rfl 3 (by decide) fl29 (fun _ h9 => h9) rfl dX6_firstBestMatch_63 ?_
        refine va_get (D := D) (ci := 7) (v := .ref a_Rules_values) (C := RX7) (T := TX7) (N := 1) hx hb hts inX7 hown hK hP 0 rfl rfl 0 (by decide) fl64 (fun _ h9 => h9) rfl dX6_firstBestMatch_66 ?_
        refine lv_iconst (v := 4) hx hb dX6_firstBestMatch_69 (by decide) ?_
        obtain ⟨ix6, x6, ex6, hf⟩ := rd_s hf
        refine va_iald hx hb hK hP 1 0 rfl rfl ix6 dX6_firstBestMatch_70 ?_
        refine lv_tpx ex6 ?_
        refine lv_icmp_gt (tgt := 84) hx hb dX6_firstBestMatch_71 (by decide) (fun c7 => ?_) (fun c7 => ?_)
        · have hf := ite_t c7 hf
          obtain ⟨x8, ex8, hf⟩ := nm_s hf
          refine lv_iinc (v := x8) (lv' := [(5, .int x8), (7, .int x5), (6, .int r2), (0, .ref a_Reading), (1, .int l1), (2, .int l2), (3, .int l3), (4, .int l4)]) hx hb dX6_firstBestMatch_84 hl (k := 7) rfl (by rw [ex8]; rfl) (by decide) rfl (fun ls hl => ?_)
          refine lv_goto (tgt := 16) hx hb dX6_firstBestMatch_87 (by decide) ?_
          exact ih16 l1 l2 l3 l4 x8 H locs ls (hP.sub [3, 4, 0, 1, 5, 6, 7, 2] rfl) (hD.sub [3, 4, 0, 1, 5, 6, 7, 2] (by decide) rfl) hS (lv_sub hl [3, 4, 5, 6, 7, 0] rfl) hf
        · have hf := ite_f c7 hf
          refine lv_iload hx hb dX6_firstBestMatch_74 (lv_at hl 0 rfl) ?_
          refine lv_iload hx hb dX6_firstBestMatch_76 (lv_at hl 6 rfl) ?_
          refine lv_icmp_ne (tgt := 84) hx hb dX6_firstBestMatch_78 (by decide) (fun c9 => ?_) (fun c9 => ?_)
          · have hf := ite_f c9 hf
            obtain ⟨x10, ex10, hf⟩ := nm_s hf
            refine lv_iinc (v := x10) (lv' := [(5, .int x10), (7, .int x5), (6, .int r2), (0, .ref a_Reading), (1, .int l1), (2, .int l2), (3, .int l3), (4, .int l4)]) hx hb dX6_firstBestMatch_84 hl (k := 7) rfl (by rw [ex10]; rfl) (by decide) rfl (fun ls hl => ?_)
            refine lv_goto (tgt := 16) hx hb dX6_firstBestMatch_87 (by decide) ?_
            exact ih16 l1 l2 l3 l4 x10 H locs ls (hP.sub [3, 4, 0, 1, 5, 6, 7, 2] rfl) (hD.sub [3, 4, 0, 1, 5, 6, 7, 2] (by decide) rfl) hS (lv_sub hl [3, 4, 5, 6, 7, 0] rfl) hf
          · have hf := ite_t c9 hf
            refine lv_iload hx hb dX6_firstBestMatch_81 (lv_at hl 7 rfl) ?_
            cases hf
            exact k_iret () hQ9 hx hb hr hlocks rfl (hP.sub [3, 4, 0, 1, 5, 6, 7, 2] rfl) (hD.sub [3, 4, 0, 1, 5, 6, 7, 2] (by decide) rfl) hS (Nat.le_of_ble_eq_true rfl) (Nat.le_of_ble_eq_true rfl) dX6_firstBestMatch_83
  unfold f_Reading_firstBestMatch at hf
  refine lv_aload_n hx hb dX6_firstBestMatch_0 rfl (lv_at hl 0 rfl) ?_
  refine va_get (D := D) (ci := 6) (v := .ref a_Reading_prices) (C := RX6) (T := TX6) (N := 7) hx hb hts inX6 hown hK hP 6 rfl rfl 5 (by decide) fl19 (fun _ h9 => h9) rfl dX6_firstBestMatch_1 ?_
  refine lv_iload_n hx hb dX6_firstBestMatch_4 rfl (lv_at hl 1 rfl) ?_
  refine lv_bipush (v := 25) hx hb dX6_firstBestMatch_5 (by decide) ?_
  refine lv_imul hx hb dX6_firstBestMatch_7 ?_
  refine lv_iload_n hx hb dX6_firstBestMatch_8 rfl (lv_at hl 2 rfl) ?_
  refine lv_iadd hx hb dX6_firstBestMatch_9 ?_
  obtain ⟨ix11, x11, ex11, hf⟩ := rd_s hf
  refine va_iald hx hb hK hP 7 0 rfl rfl ix11 dX6_firstBestMatch_10 ?_
  refine lv_tpx ex11 ?_
  refine lv_istore (lv' := [(4, .int x11), (0, .ref a_Reading), (1, .int p1), (2, .int p2), (3, .int p3)]) hx hb dX6_firstBestMatch_11 hl (by decide) rfl (fun ls hl => ?_)
  refine lv_iload_n hx hb dX6_firstBestMatch_13 rfl (lv_at hl 3 rfl) ?_
  refine lv_istore (lv' := [(5, .int p2), (4, .int x11), (0, .ref a_Reading), (1, .int p1), (2, .int p2), (3, .int p3)]) hx hb dX6_firstBestMatch_14 hl (by decide) rfl (fun ls hl => ?_)
  exact hL16 fu p1 p2 p3 x11 p2 s.heap [] ls hP hD hS (lv_sub hl [2, 3, 4, 5, 1, 0] rfl) hf
abbrev rm_Reading_chooseMatches : Room := { frames := 3, cells := 0, slots := 0, locals := 79 }
set_option maxHeartbeats 4000000 in
set_option maxRecDepth 100000 in
theorem c_Reading_chooseMatches (l : Launch) (D : va_G) (cI cZ : ClassId) (t : Nat → Nat) (a_Line a_Line_kinds a_Line_ticks a_Line_drums a_Line_marks a_Line_strokeTicks a_Line_strokeHeights a_Rules a_Rules_values a_Tapes a_Tapes_counts a_Tapes_hits a_Reading a_Reading_matches a_Reading_prices sz : Nat) (Line_ticks : Nat → Int32) (Line_count : Int32) (Rules_values Tapes_hits Reading_matches : Nat → Int32) (Reading_matched : Int32) (Reading_prices : Nat → Int32) (Reading_player p1 : Int32) (z_Reading_matches : Nat → Int32) (z_Reading_matched : Int32) (hf : f_Reading_chooseMatches Line_ticks Line_count Rules_values Tapes_hits Reading_matches Reading_matched Reading_prices Reading_player p1 = some (z_Reading_matches, z_Reading_matched)) : Met l yX6_chooseMatches wsX6_chooseMatches rm_Reading_chooseMatches (va_Pc [.ref a_Reading, .int p1] (pcW D cI cZ t [(a_Line, .inr (4, [.ref a_Line_kinds, .ref a_Line_ticks, .ref a_Line_drums, .ref a_Line_marks, .ref a_Line_strokeTicks, .ref a_Line_strokeHeights, .int Line_count])), (a_Line_ticks, .inl (cI, 20, .inl Line_ticks)), (a_Rules, .inr (7, [.ref a_Rules_values])), (a_Rules_values, .inl (cI, 5, .inl Rules_values)), (a_Tapes, .inr (9, [.ref a_Tapes_counts, .ref a_Tapes_hits])), (a_Tapes_hits, .inl (cI, 96, .inl Tapes_hits)), (a_Reading, .inr (6, [.ref a_Reading_matches, .int Reading_matched, .ref a_Line, .ref a_Rules, .ref a_Tapes, .ref a_Reading_prices, .int Reading_player])), (a_Reading_matches, .inl (cI, 20, .inl Reading_matches)), (a_Reading_prices, .inl (cI, 525, .inl Reading_prices))] sz)) (va_Qv (fun u : Unit => u = u) (fun u t' => bW D (va_A [(a_Line, .inr (4, [.ref a_Line_kinds, .ref a_Line_ticks, .ref a_Line_drums, .ref a_Line_marks, .ref a_Line_strokeTicks, .ref a_Line_strokeHeights, .int Line_count])), (a_Line_ticks, .inl (cI, 20, .inl Line_ticks)), (a_Rules, .inr (7, [.ref a_Rules_values])), (a_Rules_values, .inl (cI, 5, .inl Rules_values)), (a_Tapes, .inr (9, [.ref a_Tapes_counts, .ref a_Tapes_hits])), (a_Tapes_hits, .inl (cI, 96, .inl Tapes_hits)), (a_Reading, .inr (6, [.ref a_Reading_matches, .int Reading_matched, .ref a_Line, .ref a_Rules, .ref a_Tapes, .ref a_Reading_prices, .int Reading_player])), (a_Reading_matches, .inl (cI, 20, .inl Reading_matches)), (a_Reading_prices, .inl (cI, 525, .inl Reading_prices))] sz) [(a_Line, .inr (4, [.ref a_Line_kinds, .ref a_Line_ticks, .ref a_Line_drums, .ref a_Line_marks, .ref a_Line_strokeTicks, .ref a_Line_strokeHeights, .int Line_count])), (a_Line_ticks, .inl (cI, 20, .inl Line_ticks)), (a_Rules, .inr (7, [.ref a_Rules_values])), (a_Rules_values, .inl (cI, 5, .inl Rules_values)), (a_Tapes, .inr (9, [.ref a_Tapes_counts, .ref a_Tapes_hits])), (a_Tapes_hits, .inl (cI, 96, .inl Tapes_hits)), (a_Reading, .inr (6, [.ref a_Reading_matches, .int z_Reading_matched, .ref a_Line, .ref a_Rules, .ref a_Tapes, .ref a_Reading_prices, .int Reading_player])), (a_Reading_matches, .inl (cI, 20, .inl z_Reading_matches)), (a_Reading_prices, .inl (cI, 525, .inl Reading_prices))] t') (va_A [(a_Line, .inr (4, [.ref a_Line_kinds, .ref a_Line_ticks, .ref a_Line_drums, .ref a_Line_marks, .ref a_Line_strokeTicks, .ref a_Line_strokeHeights, .int Line_count])), (a_Line_ticks, .inl (cI, 20, .inl Line_ticks)), (a_Rules, .inr (7, [.ref a_Rules_values])), (a_Rules_values, .inl (cI, 5, .inl Rules_values)), (a_Tapes, .inr (9, [.ref a_Tapes_counts, .ref a_Tapes_hits])), (a_Tapes_hits, .inl (cI, 96, .inl Tapes_hits)), (a_Reading, .inr (6, [.ref a_Reading_matches, .int Reading_matched, .ref a_Line, .ref a_Rules, .ref a_Tapes, .ref a_Reading_prices, .int Reading_player])), (a_Reading_matches, .inl (cI, 20, .inl Reading_matches)), (a_Reading_prices, .inl (cI, 525, .inl Reading_prices))] sz)) 0 0 (va_A [(a_Line, .inr (4, [.ref a_Line_kinds, .ref a_Line_ticks, .ref a_Line_drums, .ref a_Line_marks, .ref a_Line_strokeTicks, .ref a_Line_strokeHeights, .int Line_count])), (a_Line_ticks, .inl (cI, 20, .inl Line_ticks)), (a_Rules, .inr (7, [.ref a_Rules_values])), (a_Rules_values, .inl (cI, 5, .inl Rules_values)), (a_Tapes, .inr (9, [.ref a_Tapes_counts, .ref a_Tapes_hits])), (a_Tapes_hits, .inl (cI, 96, .inl Tapes_hits)), (a_Reading, .inr (6, [.ref a_Reading_matches, .int Reading_matched, .ref a_Line, .ref a_Rules, .ref a_Tapes, .ref a_Reading_prices, .int Reading_player])), (a_Reading_matches, .inl (cI, 20, .inl Reading_matches)), (a_Reading_prices, .inl (cI, 525, .inl Reading_prices))] sz) := by
  refine Met.ofW (cc := cX6_chooseMatches) (maxL := 5) (ret := none) (by decide) rfl ?_
  intro p e s m args below meth c s₁ B hml hv
  obtain ⟨rfl, hsz, hP, hD0, hE⟩ := hv
  have hx := B.exec
  have hb := B.bytes
  have hr := B.returns
  have hts := atoms_spec (ws := wsX6_chooseMatches) B.pre
  have hown : s.vm.findClass RX6 = some m.cls := findClass_of_methodNamed B.named
  have hlocks := B.notSynchronized
  subst hsz
  have hD := hD0.self (sz := s.heap.size)
  generalize hAe : va_A [(a_Line, .inr (4, [.ref a_Line_kinds, .ref a_Line_ticks, .ref a_Line_drums, .ref a_Line_marks, .ref a_Line_strokeTicks, .ref a_Line_strokeHeights, .int Line_count])), (a_Line_ticks, .inl (cI, 20, .inl Line_ticks)), (a_Rules, .inr (7, [.ref a_Rules_values])), (a_Rules_values, .inl (cI, 5, .inl Rules_values)), (a_Tapes, .inr (9, [.ref a_Tapes_counts, .ref a_Tapes_hits])), (a_Tapes_hits, .inl (cI, 96, .inl Tapes_hits)), (a_Reading, .inr (6, [.ref a_Reading_matches, .int Reading_matched, .ref a_Line, .ref a_Rules, .ref a_Tapes, .ref a_Reading_prices, .int Reading_player])), (a_Reading_matches, .inl (cI, 20, .inl Reading_matches)), (a_Reading_prices, .inl (cI, 525, .inl Reading_prices))] s.heap.size = A at hD hE ⊢
  have hA : ∀ q : Nat, s.heap.size ≤ q → A q := fun q h => by rw [← hAe]; exact Or.inr h
  clear hAe hD0
  have hS : va_S A s.heap s.heap [] := va_S.rf
  have hK := hE.1
  have hl := lv_entry ([.ref a_Reading, .int p1]) (n := 5) (Nat.le_of_ble_eq_true rfl)
  rw [lg_entry_eq]
  generalize (lg_sl ([.ref a_Reading, .int p1]) ++ List.replicate (5 - (lg_sl ([.ref a_Reading, .int p1])).length) Slot.unset).toArray = ls at hl ⊢
  have hl : lv_has ls 5 [(0, .ref a_Reading), (1, .int p1)] := hl
  refine w_q (fun Q9 hQ9 => ?_)
  have fl25 := hts (.fieldLink RX6 25 "StickRoom$Reading" "line" "LStickRoom$Line;") (by decide +kernel)
  have inX6 : ∀ w ∈ wsX60, w ∈ wsX6_chooseMatches := by decide +kernel
  have fl42 := hts (.fieldLink RX6 42 "StickRoom$Line" "count" "I") (by decide +kernel)
  have inX4 : ∀ w ∈ wsX40, w ∈ wsX6_chooseMatches := by decide +kernel
  have fl9 := hts (.fieldLink RX6 9 "StickRoom$Reading" "matches" "[I") (by decide +kernel)
  have fl15 := hts (.fieldLink RX6 15 "StickRoom$Reading" "matched" "I") (by decide +kernel)
  have hL9 : ∀ (n9 : Nat) (l1 l2 l3 : Int32) (Reading_matches : Nat → Int32) (Reading_matched : Int32) (H : Heap) (locs : List Loc) (ls : Array Slot), va_P D vwCl [(a_Line, .inr (4, [.ref a_Line_kinds, .ref a_Line_ticks, .ref a_Line_drums, .ref a_Line_marks, .ref a_Line_strokeTicks, .ref a_Line_strokeHeights, .int Line_count])), (a_Line_ticks, .inl (cI, 20, .inl Line_ticks)), (a_Rules, .inr (7, [.ref a_Rules_values])), (a_Rules_values, .inl (cI, 5, .inl Rules_values)), (a_Tapes, .inr (9, [.ref a_Tapes_counts, .ref a_Tapes_hits])), (a_Tapes_hits, .inl (cI, 96, .inl Tapes_hits)), (a_Reading, .inr (6, [.ref a_Reading_matches, .int Reading_matched, .ref a_Line, .ref a_Rules, .ref a_Tapes, .ref a_Reading_prices, .int Reading_player])), (a_Reading_matches, .inl (cI, 20, .inl Reading_matches)), (a_Reading_prices, .inl (cI, 525, .inl Reading_prices))] H → va_D A [(a_Line, .inr (4, [.ref a_Line_kinds, .ref a_Line_ticks, .ref a_Line_drums, .ref a_Line_marks, .ref a_Line_strokeTicks, .ref a_Line_strokeHeights, .int Line_count])), (a_Line_ticks, .inl (cI, 20, .inl Line_ticks)), (a_Rules, .inr (7, [.ref a_Rules_values])), (a_Rules_values, .inl (cI, 5, .inl Rules_values)), (a_Tapes, .inr (9, [.ref a_Tapes_counts, .ref a_Tapes_hits])), (a_Tapes_hits, .inl (cI, 96, .inl Tapes_hits)), (a_Reading, .inr (6, [.ref a_Reading_matches, .int Reading_matched, .ref a_Line, .ref a_Rules, .ref a_Tapes, .ref a_Reading_prices, .int Reading_player])), (a_Reading_matches, .inl (cI, 20, .inl Reading_matches)), (a_Reading_prices, .inl (cI, 525, .inl Reading_prices))] → va_S A s.heap H locs → lv_has ls 5 [(0, .ref a_Reading), (1, .int l1), (2, .int l2), (3, .int l3)] → f_Reading_chooseMatches_9 Line_ticks Line_count Rules_values Tapes_hits Reading_prices Reading_player  n9 l1 l2 l3 Reading_matches Reading_matched = some (z_Reading_matches, z_Reading_matched) → W p l e (headSpec wsX6_chooseMatches rm_Reading_chooseMatches).room s m ([.ref a_Reading, .int p1] : List Value).toArray below meth c H locs 0 0 Q9 (F0 m 9 ls []) := by
    intro n9
    induction n9 with
    | zero => intro l1 l2 l3 Reading_matches Reading_matched H locs ls hP hD hS hl hf; exact nomatch (show none = some (z_Reading_matches, z_Reading_matched) from hf)
    | succ n9 ih9 =>
      intro l1 l2 l3 Reading_matches Reading_matched H locs ls hP hD hS hl hf
      have hf : f_Reading_chooseMatches_9_b Line_ticks Line_count Rules_values Tapes_hits Reading_prices Reading_player  (f_Reading_chooseMatches_9 Line_ticks Line_count Rules_values Tapes_hits Reading_prices Reading_player  n9) l1 l2 l3 Reading_matches Reading_matched = some (z_Reading_matches, z_Reading_matched) := hf
      unfold f_Reading_chooseMatches_9_b at hf
      refine lv_iload_n hx hb dX6_chooseMatches_9 rfl (lv_at hl 3 rfl) ?_
      refine lv_aload_n hx hb dX6_chooseMatches_10 rfl (lv_at hl 0 rfl) ?_
      refine va_get (D := D) (ci := 6) (v := .ref a_Line) (C := RX6) (T := TX6) (N := 7) hx hb hts inX6 hown hK hP 6 rfl rfl 2 (by decide) fl25 (fun _ h9 => h9) rfl dX6_chooseMatches_11 ?_
      refine va_get (D := D) (ci := 4) (v := .int Line_count) (C := RX4) (T := TX4) (N := 7) hx hb hts inX4 hown hK hP 0 rfl rfl 6 (by decide) fl42 (fun _ h9 => h9) rfl dX6_chooseMatches_14 ?_
      refine lv_icmp_ge (tgt := 64) hx hb dX6_chooseMatches_17 (by decide) (fun c1 => ?_) (fun c1 => ?_)
      · have hf := ite_t c1 hf
        cases hf
        exact k_vret () hQ9 hx hb hr hlocks rfl hP hD hS (Nat.le_of_ble_eq_true rfl) (Nat.le_of_ble_eq_true rfl) dX6_chooseMatches_64
      · have hf := ite_f c1 hf
        refine lv_aload_n hx hb dX6_chooseMatches_20 rfl (lv_at hl 0 rfl) ?_
        refine lv_iload_n hx hb dX6_chooseMatches_21 rfl (lv_at hl 3 rfl) ?_
        refine lv_iload_n hx hb dX6_chooseMatches_22 rfl (lv_at hl 2 rfl) ?_
        refine lv_iload_n hx hb dX6_chooseMatches_23 rfl (lv_at hl 1 rfl) ?_
        obtain ⟨r2, g3, hf⟩ := b1_s hf
        refine k_Vi (rest := []) ⟨hx, hb, hml, hown, hts⟩ (c_Reading_firstBestMatch l D cI cZ t a_Line a_Line_kinds a_Line_ticks a_Line_drums a_Line_marks a_Line_strokeTicks a_Line_strokeHeights a_Rules a_Rules_values a_Tapes a_Tapes_counts a_Tapes_hits a_Reading a_Reading_matches a_Reading_prices H.size Line_ticks Rules_values Tapes_hits Reading_prices Reading_player Line_count Reading_matched l3 l2 l1 r2 g3) (cwV 3 hts gX6_chooseMatches_X6_firstBestMatch rfl rfl rfl (by decide +kernel) ⟨Nat.le_of_ble_eq_true rfl, Nat.le_of_ble_eq_true rfl⟩) hE hP hD hS hA [0, 1, 2, 3, 4, 5, 6, 8] [7] rfl rfl rfl rfl rfl 6 6 rfl rfl rfl rfl hl.1 rfl (Nat.le_of_ble_eq_true rfl) dX6_chooseMatches_24 ⟨Nat.le_of_ble_eq_true rfl, Nat.le_of_ble_eq_true rfl⟩ (fun rq uq H locs hrq hP hD hS => ?_)
        refine lv_tpx hrq.symm ?_
        have hP : va_P D vwCl [(a_Reading_matches, .inl (cI, 20, .inl Reading_matches)), (a_Line, .inr (4, [.ref a_Line_kinds, .ref a_Line_ticks, .ref a_Line_drums, .ref a_Line_marks, .ref a_Line_strokeTicks, .ref a_Line_strokeHeights, .int Line_count])), (a_Line_ticks, .inl (cI, 20, .inl Line_ticks)), (a_Rules, .inr (7, [.ref a_Rules_values])), (a_Rules_values, .inl (cI, 5, .inl Rules_values)), (a_Tapes, .inr (9, [.ref a_Tapes_counts, .ref a_Tapes_hits])), (a_Tapes_hits, .inl (cI, 96, .inl Tapes_hits)), (a_Reading, .inr (6, [.ref a_Reading_matches, .int Reading_matched, .ref a_Line, .ref a_Rules, .ref a_Tapes, .ref a_Reading_prices, .int Reading_player])), (a_Reading_prices, .inl (cI, 525, .inl Reading_prices))] H := hP
        have hD : va_D A [(a_Reading_matches, .inl (cI, 20, .inl Reading_matches)), (a_Line, .inr (4, [.ref a_Line_kinds, .ref a_Line_ticks, .ref a_Line_drums, .ref a_Line_marks, .ref a_Line_strokeTicks, .ref a_Line_strokeHeights, .int Line_count])), (a_Line_ticks, .inl (cI, 20, .inl Line_ticks)), (a_Rules, .inr (7, [.ref a_Rules_values])), (a_Rules_values, .inl (cI, 5, .inl Rules_values)), (a_Tapes, .inr (9, [.ref a_Tapes_counts, .ref a_Tapes_hits])), (a_Tapes_hits, .inl (cI, 96, .inl Tapes_hits)), (a_Reading, .inr (6, [.ref a_Reading_matches, .int Reading_matched, .ref a_Line, .ref a_Rules, .ref a_Tapes, .ref a_Reading_prices, .int Reading_player])), (a_Reading_prices, .inl (cI, 525, .inl Reading_prices))] := hD
        refine lv_istore (lv' := [(4, .int r2), (0, .ref a_Reading), (1, .int l1), (2, .int l2), (3, .int l3)]) hx hb dX6_chooseMatches_27 hl (by decide) rfl (fun ls hl => ?_)
        refine lv_aload_n hx hb dX6_chooseMatches_29 rfl (lv_at hl 1 rfl) ?_
        refine va_get (D := D) (ci := 6) (v := .ref a_Reading_matches) (C := RX6) (T := TX6) (N := 7) hx hb hts inX6 hown hK hP 7 rfl rfl 0 (by decide) fl9 (fun _ h9 => h9) rfl dX6_chooseMatches_30 ?_
        refine lv_iload_n hx hb dX6_chooseMatches_33 rfl (lv_at hl 4 rfl) ?_
        refine lv_iload hx hb dX6_chooseMatches_34 (lv_at hl 0 rfl) ?_
        obtain ⟨i4, hf⟩ := ck_s hf
        refine va_iast hx hb hK hP hD hS 0 0 rfl rfl i4 dX6_chooseMatches_36 (fun H locs hP hD hS => ?_)
        have hP : va_P D vwCl [(a_Reading_matches, .inl (cI, 20, .inl (upd Reading_matches l3.toNatClampNeg r2))), (a_Line, .inr (4, [.ref a_Line_kinds, .ref a_Line_ticks, .ref a_Line_drums, .ref a_Line_marks, .ref a_Line_strokeTicks, .ref a_Line_strokeHeights, .int Line_count])), (a_Line_ticks, .inl (cI, 20, .inl Line_ticks)), (a_Rules, .inr (7, [.ref a_Rules_values])), (a_Rules_values, .inl (cI, 5, .inl Rules_values)), (a_Tapes, .inr (9, [.ref a_Tapes_counts, .ref a_Tapes_hits])), (a_Tapes_hits, .inl (cI, 96, .inl Tapes_hits)), (a_Reading, .inr (6, [.ref a_Reading_matches, .int Reading_matched, .ref a_Line, .ref a_Rules, .ref a_Tapes, .ref a_Reading_prices, .int Reading_player])), (a_Reading_prices, .inl (cI, 525, .inl Reading_prices))] H := hP
        have hD : va_D A [(a_Reading_matches, .inl (cI, 20, .inl (upd Reading_matches l3.toNatClampNeg r2))), (a_Line, .inr (4, [.ref a_Line_kinds, .ref a_Line_ticks, .ref a_Line_drums, .ref a_Line_marks, .ref a_Line_strokeTicks, .ref a_Line_strokeHeights, .int Line_count])), (a_Line_ticks, .inl (cI, 20, .inl Line_ticks)), (a_Rules, .inr (7, [.ref a_Rules_values])), (a_Rules_values, .inl (cI, 5, .inl Rules_values)), (a_Tapes, .inr (9, [.ref a_Tapes_counts, .ref a_Tapes_hits])), (a_Tapes_hits, .inl (cI, 96, .inl Tapes_hits)), (a_Reading, .inr (6, [.ref a_Reading_matches, .int Reading_matched, .ref a_Line, .ref a_Rules, .ref a_Tapes, .ref a_Reading_prices, .int Reading_player])), (a_Reading_prices, .inl (cI, 525, .inl Reading_prices))] := hD
        refine lv_iload hx hb dX6_chooseMatches_37 (lv_at hl 0 rfl) ?_
        refine lv_iconst (v := (-1)) hx hb dX6_chooseMatches_39 (by decide) ?_
        refine lv_icmp_eq (tgt := 58) hx hb dX6_chooseMatches_40 (by decide) (fun c5 => ?_) (fun c5 => ?_)
        · have hf := ite_t c5 hf
          obtain ⟨x6, ex6, hf⟩ := nm_s hf
          refine lv_iinc (v := x6) (lv' := [(3, .int x6), (4, .int r2), (0, .ref a_Reading), (1, .int l1), (2, .int l2)]) hx hb dX6_chooseMatches_58 hl (k := 4) rfl (by rw [ex6]; rfl) (by decide) rfl (fun ls hl => ?_)
          refine lv_goto (tgt := 9) hx hb dX6_chooseMatches_61 (by decide) ?_
          exact ih9 l1 l2 x6 (upd Reading_matches l3.toNatClampNeg r2) Reading_matched H locs ls (hP.sub [1, 2, 3, 4, 5, 6, 7, 0, 8] rfl) (hD.sub [1, 2, 3, 4, 5, 6, 7, 0, 8] (by decide) rfl) hS (lv_sub hl [2, 3, 4, 0] rfl) hf
        · have hf := ite_f c5 hf
          refine lv_aload_n hx hb dX6_chooseMatches_43 rfl (lv_at hl 1 rfl) ?_
          refine lv_dup hx hb dX6_chooseMatches_44 rfl ?_
          refine va_get (D := D) (ci := 6) (v := .int Reading_matched) (C := RX6) (T := TX6) (N := 7) hx hb hts inX6 hown hK hP 7 rfl rfl 1 (by decide) fl15 (fun _ h9 => h9) rfl dX6_chooseMatches_45 ?_
          refine lv_iconst (v := 1) hx hb dX6_chooseMatches_48 (by decide) ?_
          refine lv_iadd hx hb dX6_chooseMatches_49 ?_
          obtain ⟨x7, ex7, hf⟩ := nm_s hf
          refine lv_tpx ex7 ?_
          refine va_put (D := D) (ci := 6) (v := .int x7) (ty := .int) (C := RX6) (T := TX6) (N := 7) hx hb hts inX6 tyX6 tyX6_ok nmX6 hown hK hP hD hS 7 rfl rfl 1 (by decide) fl15 (fun _ h9 => h9) rfl (by decide +kernel) rfl rfl (Nat.le_of_ble_eq_true rfl) dX6_chooseMatches_50 (fun H locs hP hD hS => ?_)
          have hP : va_P D vwCl [(a_Reading_matches, .inl (cI, 20, .inl (upd Reading_matches l3.toNatClampNeg r2))), (a_Line, .inr (4, [.ref a_Line_kinds, .ref a_Line_ticks, .ref a_Line_drums, .ref a_Line_marks, .ref a_Line_strokeTicks, .ref a_Line_strokeHeights, .int Line_count])), (a_Line_ticks, .inl (cI, 20, .inl Line_ticks)), (a_Rules, .inr (7, [.ref a_Rules_values])), (a_Rules_values, .inl (cI, 5, .inl Rules_values)), (a_Tapes, .inr (9, [.ref a_Tapes_counts, .ref a_Tapes_hits])), (a_Tapes_hits, .inl (cI, 96, .inl Tapes_hits)), (a_Reading, .inr (6, [.ref a_Reading_matches, .int x7, .ref a_Line, .ref a_Rules, .ref a_Tapes, .ref a_Reading_prices, .int Reading_player])), (a_Reading_prices, .inl (cI, 525, .inl Reading_prices))] H := hP
          have hD : va_D A [(a_Reading_matches, .inl (cI, 20, .inl (upd Reading_matches l3.toNatClampNeg r2))), (a_Line, .inr (4, [.ref a_Line_kinds, .ref a_Line_ticks, .ref a_Line_drums, .ref a_Line_marks, .ref a_Line_strokeTicks, .ref a_Line_strokeHeights, .int Line_count])), (a_Line_ticks, .inl (cI, 20, .inl Line_ticks)), (a_Rules, .inr (7, [.ref a_Rules_values])), (a_Rules_values, .inl (cI, 5, .inl Rules_values)), (a_Tapes, .inr (9, [.ref a_Tapes_counts, .ref a_Tapes_hits])), (a_Tapes_hits, .inl (cI, 96, .inl Tapes_hits)), (a_Reading, .inr (6, [.ref a_Reading_matches, .int x7, .ref a_Line, .ref a_Rules, .ref a_Tapes, .ref a_Reading_prices, .int Reading_player])), (a_Reading_prices, .inl (cI, 525, .inl Reading_prices))] := hD
          refine lv_iload hx hb dX6_chooseMatches_53 (lv_at hl 0 rfl) ?_
          refine lv_iconst (v := 1) hx hb dX6_chooseMatches_55 (by decide) ?_
          refine lv_iadd hx hb dX6_chooseMatches_56 ?_
          obtain ⟨x8, ex8, hf⟩ := nm_s hf
          refine lv_tpx ex8 ?_
          refine lv_istore_n (lv' := [(2, .int x8), (4, .int r2), (0, .ref a_Reading), (1, .int l1), (3, .int l3)]) hx hb dX6_chooseMatches_57 rfl hl (by decide) rfl (fun ls hl => ?_)
          obtain ⟨x9, ex9, hf⟩ := nm_s hf
          refine lv_iinc (v := x9) (lv' := [(3, .int x9), (2, .int x8), (4, .int r2), (0, .ref a_Reading), (1, .int l1)]) hx hb dX6_chooseMatches_58 hl (k := 4) rfl (by rw [ex9]; rfl) (by decide) rfl (fun ls hl => ?_)
          refine lv_goto (tgt := 9) hx hb dX6_chooseMatches_61 (by decide) ?_
          exact ih9 l1 x8 x9 (upd Reading_matches l3.toNatClampNeg r2) x7 H locs ls (hP.sub [1, 2, 3, 4, 5, 6, 7, 0, 8] rfl) (hD.sub [1, 2, 3, 4, 5, 6, 7, 0, 8] (by decide) rfl) hS (lv_sub hl [3, 4, 1, 0] rfl) hf
  unfold f_Reading_chooseMatches at hf
  refine lv_iconst (v := 0) hx hb dX6_chooseMatches_0 (by decide) ?_
  refine lv_istore_n (lv' := [(2, .int 0), (0, .ref a_Reading), (1, .int p1)]) hx hb dX6_chooseMatches_1 rfl hl (by decide) rfl (fun ls hl => ?_)
  refine lv_aload_n hx hb dX6_chooseMatches_2 rfl (lv_at hl 1 rfl) ?_
  refine lv_iconst (v := 0) hx hb dX6_chooseMatches_3 (by decide) ?_
  refine va_put (D := D) (ci := 6) (v := .int 0) (ty := .int) (C := RX6) (T := TX6) (N := 7) hx hb hts inX6 tyX6 tyX6_ok nmX6 hown hK hP hD hS 6 rfl rfl 1 (by decide) fl15 (fun _ h9 => h9) rfl (by decide +kernel) rfl rfl (Nat.le_of_ble_eq_true rfl) dX6_chooseMatches_4 (fun H locs hP hD hS => ?_)
  have hP : va_P D vwCl [(a_Line, .inr (4, [.ref a_Line_kinds, .ref a_Line_ticks, .ref a_Line_drums, .ref a_Line_marks, .ref a_Line_strokeTicks, .ref a_Line_strokeHeights, .int Line_count])), (a_Line_ticks, .inl (cI, 20, .inl Line_ticks)), (a_Rules, .inr (7, [.ref a_Rules_values])), (a_Rules_values, .inl (cI, 5, .inl Rules_values)), (a_Tapes, .inr (9, [.ref a_Tapes_counts, .ref a_Tapes_hits])), (a_Tapes_hits, .inl (cI, 96, .inl Tapes_hits)), (a_Reading, .inr (6, [.ref a_Reading_matches, .int 0, .ref a_Line, .ref a_Rules, .ref a_Tapes, .ref a_Reading_prices, .int Reading_player])), (a_Reading_matches, .inl (cI, 20, .inl Reading_matches)), (a_Reading_prices, .inl (cI, 525, .inl Reading_prices))] H := hP
  have hD : va_D A [(a_Line, .inr (4, [.ref a_Line_kinds, .ref a_Line_ticks, .ref a_Line_drums, .ref a_Line_marks, .ref a_Line_strokeTicks, .ref a_Line_strokeHeights, .int Line_count])), (a_Line_ticks, .inl (cI, 20, .inl Line_ticks)), (a_Rules, .inr (7, [.ref a_Rules_values])), (a_Rules_values, .inl (cI, 5, .inl Rules_values)), (a_Tapes, .inr (9, [.ref a_Tapes_counts, .ref a_Tapes_hits])), (a_Tapes_hits, .inl (cI, 96, .inl Tapes_hits)), (a_Reading, .inr (6, [.ref a_Reading_matches, .int 0, .ref a_Line, .ref a_Rules, .ref a_Tapes, .ref a_Reading_prices, .int Reading_player])), (a_Reading_matches, .inl (cI, 20, .inl Reading_matches)), (a_Reading_prices, .inl (cI, 525, .inl Reading_prices))] := hD
  refine lv_iconst (v := 0) hx hb dX6_chooseMatches_7 (by decide) ?_
  refine lv_istore_n (lv' := [(3, .int 0), (2, .int 0), (0, .ref a_Reading), (1, .int p1)]) hx hb dX6_chooseMatches_8 rfl hl (by decide) rfl (fun ls hl => ?_)
  exact hL9 fu p1 0 0 Reading_matches 0 H locs ls hP hD hS (lv_sub hl [2, 3, 1, 0] rfl) hf
abbrev rm_Reading_find : Room := { frames := 4, cells := 0, slots := 0, locals := 103 }
set_option maxHeartbeats 4000000 in
set_option maxRecDepth 100000 in
theorem c_Reading_find (l : Launch) (D : va_G) (cI cZ : ClassId) (t : Nat → Nat) (a_Line a_Line_kinds a_Line_ticks a_Line_drums a_Line_marks a_Line_strokeTicks a_Line_strokeHeights a_Rules a_Rules_values a_Tapes a_Tapes_counts a_Tapes_hits a_Reading a_Reading_matches a_Reading_prices sz : Nat) (Line_ticks : Nat → Int32) (Line_count : Int32) (Rules_values Tapes_counts Tapes_hits Reading_matches : Nat → Int32) (Reading_matched : Int32) (Reading_prices : Nat → Int32) (Reading_player p1 : Int32) (z_Reading_matches : Nat → Int32) (z_Reading_matched : Int32) (z_Reading_prices : Nat → Int32) (z_Reading_player : Int32) (hf : f_Reading_find Line_ticks Line_count Rules_values Tapes_counts Tapes_hits Reading_matches Reading_matched Reading_prices Reading_player p1 = some (z_Reading_matches, z_Reading_matched, z_Reading_prices, z_Reading_player)) : Met l yX6_find wsX6_find rm_Reading_find (va_Pc [.ref a_Reading, .int p1] (pcW D cI cZ t [(a_Line, .inr (4, [.ref a_Line_kinds, .ref a_Line_ticks, .ref a_Line_drums, .ref a_Line_marks, .ref a_Line_strokeTicks, .ref a_Line_strokeHeights, .int Line_count])), (a_Line_ticks, .inl (cI, 20, .inl Line_ticks)), (a_Rules, .inr (7, [.ref a_Rules_values])), (a_Rules_values, .inl (cI, 5, .inl Rules_values)), (a_Tapes, .inr (9, [.ref a_Tapes_counts, .ref a_Tapes_hits])), (a_Tapes_counts, .inl (cI, 4, .inl Tapes_counts)), (a_Tapes_hits, .inl (cI, 96, .inl Tapes_hits)), (a_Reading, .inr (6, [.ref a_Reading_matches, .int Reading_matched, .ref a_Line, .ref a_Rules, .ref a_Tapes, .ref a_Reading_prices, .int Reading_player])), (a_Reading_matches, .inl (cI, 20, .inl Reading_matches)), (a_Reading_prices, .inl (cI, 525, .inl Reading_prices))] sz)) (va_Qv (fun u : Unit => u = u) (fun u t' => bW D (va_A [(a_Line, .inr (4, [.ref a_Line_kinds, .ref a_Line_ticks, .ref a_Line_drums, .ref a_Line_marks, .ref a_Line_strokeTicks, .ref a_Line_strokeHeights, .int Line_count])), (a_Line_ticks, .inl (cI, 20, .inl Line_ticks)), (a_Rules, .inr (7, [.ref a_Rules_values])), (a_Rules_values, .inl (cI, 5, .inl Rules_values)), (a_Tapes, .inr (9, [.ref a_Tapes_counts, .ref a_Tapes_hits])), (a_Tapes_counts, .inl (cI, 4, .inl Tapes_counts)), (a_Tapes_hits, .inl (cI, 96, .inl Tapes_hits)), (a_Reading, .inr (6, [.ref a_Reading_matches, .int Reading_matched, .ref a_Line, .ref a_Rules, .ref a_Tapes, .ref a_Reading_prices, .int Reading_player])), (a_Reading_matches, .inl (cI, 20, .inl Reading_matches)), (a_Reading_prices, .inl (cI, 525, .inl Reading_prices))] sz) [(a_Line, .inr (4, [.ref a_Line_kinds, .ref a_Line_ticks, .ref a_Line_drums, .ref a_Line_marks, .ref a_Line_strokeTicks, .ref a_Line_strokeHeights, .int Line_count])), (a_Line_ticks, .inl (cI, 20, .inl Line_ticks)), (a_Rules, .inr (7, [.ref a_Rules_values])), (a_Rules_values, .inl (cI, 5, .inl Rules_values)), (a_Tapes, .inr (9, [.ref a_Tapes_counts, .ref a_Tapes_hits])), (a_Tapes_counts, .inl (cI, 4, .inl Tapes_counts)), (a_Tapes_hits, .inl (cI, 96, .inl Tapes_hits)), (a_Reading, .inr (6, [.ref a_Reading_matches, .int z_Reading_matched, .ref a_Line, .ref a_Rules, .ref a_Tapes, .ref a_Reading_prices, .int z_Reading_player])), (a_Reading_matches, .inl (cI, 20, .inl z_Reading_matches)), (a_Reading_prices, .inl (cI, 525, .inl z_Reading_prices))] t') (va_A [(a_Line, .inr (4, [.ref a_Line_kinds, .ref a_Line_ticks, .ref a_Line_drums, .ref a_Line_marks, .ref a_Line_strokeTicks, .ref a_Line_strokeHeights, .int Line_count])), (a_Line_ticks, .inl (cI, 20, .inl Line_ticks)), (a_Rules, .inr (7, [.ref a_Rules_values])), (a_Rules_values, .inl (cI, 5, .inl Rules_values)), (a_Tapes, .inr (9, [.ref a_Tapes_counts, .ref a_Tapes_hits])), (a_Tapes_counts, .inl (cI, 4, .inl Tapes_counts)), (a_Tapes_hits, .inl (cI, 96, .inl Tapes_hits)), (a_Reading, .inr (6, [.ref a_Reading_matches, .int Reading_matched, .ref a_Line, .ref a_Rules, .ref a_Tapes, .ref a_Reading_prices, .int Reading_player])), (a_Reading_matches, .inl (cI, 20, .inl Reading_matches)), (a_Reading_prices, .inl (cI, 525, .inl Reading_prices))] sz)) 0 0 (va_A [(a_Line, .inr (4, [.ref a_Line_kinds, .ref a_Line_ticks, .ref a_Line_drums, .ref a_Line_marks, .ref a_Line_strokeTicks, .ref a_Line_strokeHeights, .int Line_count])), (a_Line_ticks, .inl (cI, 20, .inl Line_ticks)), (a_Rules, .inr (7, [.ref a_Rules_values])), (a_Rules_values, .inl (cI, 5, .inl Rules_values)), (a_Tapes, .inr (9, [.ref a_Tapes_counts, .ref a_Tapes_hits])), (a_Tapes_counts, .inl (cI, 4, .inl Tapes_counts)), (a_Tapes_hits, .inl (cI, 96, .inl Tapes_hits)), (a_Reading, .inr (6, [.ref a_Reading_matches, .int Reading_matched, .ref a_Line, .ref a_Rules, .ref a_Tapes, .ref a_Reading_prices, .int Reading_player])), (a_Reading_matches, .inl (cI, 20, .inl Reading_matches)), (a_Reading_prices, .inl (cI, 525, .inl Reading_prices))] sz) := by
  refine Met.ofW (cc := cX6_find) (maxL := 5) (ret := none) (by decide) rfl ?_
  intro p e s m args below meth c s₁ B hml hv
  obtain ⟨rfl, hsz, hP, hD0, hE⟩ := hv
  have hx := B.exec
  have hb := B.bytes
  have hr := B.returns
  have hts := atoms_spec (ws := wsX6_find) B.pre
  have hown : s.vm.findClass RX6 = some m.cls := findClass_of_methodNamed B.named
  have hlocks := B.notSynchronized
  subst hsz
  have hD := hD0.self (sz := s.heap.size)
  generalize hAe : va_A [(a_Line, .inr (4, [.ref a_Line_kinds, .ref a_Line_ticks, .ref a_Line_drums, .ref a_Line_marks, .ref a_Line_strokeTicks, .ref a_Line_strokeHeights, .int Line_count])), (a_Line_ticks, .inl (cI, 20, .inl Line_ticks)), (a_Rules, .inr (7, [.ref a_Rules_values])), (a_Rules_values, .inl (cI, 5, .inl Rules_values)), (a_Tapes, .inr (9, [.ref a_Tapes_counts, .ref a_Tapes_hits])), (a_Tapes_counts, .inl (cI, 4, .inl Tapes_counts)), (a_Tapes_hits, .inl (cI, 96, .inl Tapes_hits)), (a_Reading, .inr (6, [.ref a_Reading_matches, .int Reading_matched, .ref a_Line, .ref a_Rules, .ref a_Tapes, .ref a_Reading_prices, .int Reading_player])), (a_Reading_matches, .inl (cI, 20, .inl Reading_matches)), (a_Reading_prices, .inl (cI, 525, .inl Reading_prices))] s.heap.size = A at hD hE ⊢
  have hA : ∀ q : Nat, s.heap.size ≤ q → A q := fun q h => by rw [← hAe]; exact Or.inr h
  clear hAe hD0
  have hS : va_S A s.heap s.heap [] := va_S.rf
  have hK := hE.1
  have hl := lv_entry ([.ref a_Reading, .int p1]) (n := 5) (Nat.le_of_ble_eq_true rfl)
  rw [lg_entry_eq]
  generalize (lg_sl ([.ref a_Reading, .int p1]) ++ List.replicate (5 - (lg_sl ([.ref a_Reading, .int p1])).length) Slot.unset).toArray = ls at hl ⊢
  have hl : lv_has ls 5 [(0, .ref a_Reading), (1, .int p1)] := hl
  refine w_q (fun Q9 hQ9 => ?_)
  have fl19 := hts (.fieldLink RX6 19 "StickRoom$Reading" "prices" "[I") (by decide +kernel)
  have inX6 : ∀ w ∈ wsX60, w ∈ wsX6_find := by decide +kernel
  have fl22 := hts (.fieldLink RX6 22 "StickRoom$Reading" "player" "I") (by decide +kernel)
  have fl33 := hts (.fieldLink RX6 33 "StickRoom$Reading" "tapes" "LStickRoom$Tapes;") (by decide +kernel)
  have fl37 := hts (.fieldLink RX6 37 "StickRoom$Tapes" "counts" "[I") (by decide +kernel)
  have inX9 : ∀ w ∈ wsX90, w ∈ wsX6_find := by decide +kernel
  have fl25 := hts (.fieldLink RX6 25 "StickRoom$Reading" "line" "LStickRoom$Line;") (by decide +kernel)
  have fl42 := hts (.fieldLink RX6 42 "StickRoom$Line" "count" "I") (by decide +kernel)
  have inX4 : ∀ w ∈ wsX40, w ∈ wsX6_find := by decide +kernel
  have hL26 : ∀ (n26 : Nat) (l2 l3 : Int32) (Reading_matches : Nat → Int32) (Reading_matched : Int32) (Reading_prices : Nat → Int32) (Reading_player : Int32) (H : Heap) (locs : List Loc) (ls : Array Slot), va_P D vwCl [(a_Line, .inr (4, [.ref a_Line_kinds, .ref a_Line_ticks, .ref a_Line_drums, .ref a_Line_marks, .ref a_Line_strokeTicks, .ref a_Line_strokeHeights, .int Line_count])), (a_Line_ticks, .inl (cI, 20, .inl Line_ticks)), (a_Rules, .inr (7, [.ref a_Rules_values])), (a_Rules_values, .inl (cI, 5, .inl Rules_values)), (a_Tapes, .inr (9, [.ref a_Tapes_counts, .ref a_Tapes_hits])), (a_Tapes_counts, .inl (cI, 4, .inl Tapes_counts)), (a_Tapes_hits, .inl (cI, 96, .inl Tapes_hits)), (a_Reading, .inr (6, [.ref a_Reading_matches, .int Reading_matched, .ref a_Line, .ref a_Rules, .ref a_Tapes, .ref a_Reading_prices, .int Reading_player])), (a_Reading_matches, .inl (cI, 20, .inl Reading_matches)), (a_Reading_prices, .inl (cI, 525, .inl Reading_prices))] H → va_D A [(a_Line, .inr (4, [.ref a_Line_kinds, .ref a_Line_ticks, .ref a_Line_drums, .ref a_Line_marks, .ref a_Line_strokeTicks, .ref a_Line_strokeHeights, .int Line_count])), (a_Line_ticks, .inl (cI, 20, .inl Line_ticks)), (a_Rules, .inr (7, [.ref a_Rules_values])), (a_Rules_values, .inl (cI, 5, .inl Rules_values)), (a_Tapes, .inr (9, [.ref a_Tapes_counts, .ref a_Tapes_hits])), (a_Tapes_counts, .inl (cI, 4, .inl Tapes_counts)), (a_Tapes_hits, .inl (cI, 96, .inl Tapes_hits)), (a_Reading, .inr (6, [.ref a_Reading_matches, .int Reading_matched, .ref a_Line, .ref a_Rules, .ref a_Tapes, .ref a_Reading_prices, .int Reading_player])), (a_Reading_matches, .inl (cI, 20, .inl Reading_matches)), (a_Reading_prices, .inl (cI, 525, .inl Reading_prices))] → va_S A s.heap H locs → lv_has ls 5 [(0, .ref a_Reading), (2, .int l2), (3, .int l3)] → f_Reading_find_26 Line_ticks Line_count Rules_values Tapes_counts Tapes_hits  n26 l2 l3 Reading_matches Reading_matched Reading_prices Reading_player = some (z_Reading_matches, z_Reading_matched, z_Reading_prices, z_Reading_player) → W p l e (headSpec wsX6_find rm_Reading_find).room s m ([.ref a_Reading, .int p1] : List Value).toArray below meth c H locs 0 0 Q9 (F0 m 26 ls []) := by
    intro n26
    induction n26 with
    | zero => intro l2 l3 Reading_matches Reading_matched Reading_prices Reading_player H locs ls hP hD hS hl hf; exact nomatch (show none = some (z_Reading_matches, z_Reading_matched, z_Reading_prices, z_Reading_player) from hf)
    | succ n26 ih26 =>
      have hL33 : ∀ (n33 : Nat) (l2 l3 l4 : Int32) (Reading_matches : Nat → Int32) (Reading_matched : Int32) (Reading_prices : Nat → Int32) (Reading_player : Int32) (H : Heap) (locs : List Loc) (ls : Array Slot), va_P D vwCl [(a_Line, .inr (4, [.ref a_Line_kinds, .ref a_Line_ticks, .ref a_Line_drums, .ref a_Line_marks, .ref a_Line_strokeTicks, .ref a_Line_strokeHeights, .int Line_count])), (a_Line_ticks, .inl (cI, 20, .inl Line_ticks)), (a_Rules, .inr (7, [.ref a_Rules_values])), (a_Rules_values, .inl (cI, 5, .inl Rules_values)), (a_Tapes, .inr (9, [.ref a_Tapes_counts, .ref a_Tapes_hits])), (a_Tapes_counts, .inl (cI, 4, .inl Tapes_counts)), (a_Tapes_hits, .inl (cI, 96, .inl Tapes_hits)), (a_Reading, .inr (6, [.ref a_Reading_matches, .int Reading_matched, .ref a_Line, .ref a_Rules, .ref a_Tapes, .ref a_Reading_prices, .int Reading_player])), (a_Reading_matches, .inl (cI, 20, .inl Reading_matches)), (a_Reading_prices, .inl (cI, 525, .inl Reading_prices))] H → va_D A [(a_Line, .inr (4, [.ref a_Line_kinds, .ref a_Line_ticks, .ref a_Line_drums, .ref a_Line_marks, .ref a_Line_strokeTicks, .ref a_Line_strokeHeights, .int Line_count])), (a_Line_ticks, .inl (cI, 20, .inl Line_ticks)), (a_Rules, .inr (7, [.ref a_Rules_values])), (a_Rules_values, .inl (cI, 5, .inl Rules_values)), (a_Tapes, .inr (9, [.ref a_Tapes_counts, .ref a_Tapes_hits])), (a_Tapes_counts, .inl (cI, 4, .inl Tapes_counts)), (a_Tapes_hits, .inl (cI, 96, .inl Tapes_hits)), (a_Reading, .inr (6, [.ref a_Reading_matches, .int Reading_matched, .ref a_Line, .ref a_Rules, .ref a_Tapes, .ref a_Reading_prices, .int Reading_player])), (a_Reading_matches, .inl (cI, 20, .inl Reading_matches)), (a_Reading_prices, .inl (cI, 525, .inl Reading_prices))] → va_S A s.heap H locs → lv_has ls 5 [(0, .ref a_Reading), (2, .int l2), (3, .int l3), (4, .int l4)] → f_Reading_find_33 Line_ticks Line_count Rules_values Tapes_counts Tapes_hits (f_Reading_find_26 Line_ticks Line_count Rules_values Tapes_counts Tapes_hits  n26) n33 l2 l3 l4 Reading_matches Reading_matched Reading_prices Reading_player = some (z_Reading_matches, z_Reading_matched, z_Reading_prices, z_Reading_player) → W p l e (headSpec wsX6_find rm_Reading_find).room s m ([.ref a_Reading, .int p1] : List Value).toArray below meth c H locs 0 0 Q9 (F0 m 33 ls []) := by
        intro n33
        induction n33 with
        | zero => intro l2 l3 l4 Reading_matches Reading_matched Reading_prices Reading_player H locs ls hP hD hS hl hf; exact nomatch (show none = some (z_Reading_matches, z_Reading_matched, z_Reading_prices, z_Reading_player) from hf)
        | succ n33 ih33 =>
          intro l2 l3 l4 Reading_matches Reading_matched Reading_prices Reading_player H locs ls hP hD hS hl hf
          have hf : f_Reading_find_33_b Line_ticks Line_count Rules_values Tapes_counts Tapes_hits (f_Reading_find_26 Line_ticks Line_count Rules_values Tapes_counts Tapes_hits  n26) (f_Reading_find_33 Line_ticks Line_count Rules_values Tapes_counts Tapes_hits (f_Reading_find_26 Line_ticks Line_count Rules_values Tapes_counts Tapes_hits  n26) n33) l2 l3 l4 Reading_matches Reading_matched Reading_prices Reading_player = some (z_Reading_matches, z_Reading_matched, z_Reading_prices, z_Reading_player) := hf
          unfold f_Reading_find_33_b at hf
          refine lv_iload hx hb dX6_find_33 (lv_at hl 3 rfl) ?_
          refine lv_if_lt (tgt := 64) hx hb dX6_find_35 (by decide) (fun c1 => ?_) (fun c1 => ?_)
          · have hf := ite_t c1 hf
            obtain ⟨x2, ex2, hf⟩ := nm_s hf
            refine lv_iinc (v := x2) (lv' := [(3, .int x2), (0, .ref a_Reading), (2, .int l2), (4, .int l4)]) hx hb dX6_find_64 hl (k := 2) rfl (by rw [ex2]; rfl) (by decide) rfl (fun ls hl => ?_)
            refine lv_goto (tgt := 26) hx hb dX6_find_67 (by decide) ?_
            exact ih26 l2 x2 Reading_matches Reading_matched Reading_prices Reading_player H locs ls hP hD hS (lv_sub hl [1, 2, 0] rfl) hf
          · have hf := ite_f c1 hf
            refine lv_aload_n hx hb dX6_find_38 rfl (lv_at hl 0 rfl) ?_
            refine va_get (D := D) (ci := 6) (v := .ref a_Reading_prices) (C := RX6) (T := TX6) (N := 7) hx hb hts inX6 hown hK hP 7 rfl rfl 5 (by decide) fl19 (fun _ h9 => h9) rfl dX6_find_39 ?_
            refine lv_iload_n hx hb dX6_find_42 rfl (lv_at hl 2 rfl) ?_
            refine lv_bipush (v := 25) hx hb dX6_find_43 (by decide) ?_
            refine lv_imul hx hb dX6_find_45 ?_
            refine lv_iload hx hb dX6_find_46 (lv_at hl 3 rfl) ?_
            refine lv_iadd hx hb dX6_find_48 ?_
            refine lv_aload_n hx hb dX6_find_49 rfl (lv_at hl 0 rfl) ?_
            refine lv_iload_n hx hb dX6_find_50 rfl (lv_at hl 2 rfl) ?_
            refine lv_iload hx hb dX6_find_51 (lv_at hl 3 rfl) ?_
            refine lv_iload_n hx hb dX6_find_53 rfl (lv_at hl 1 rfl) ?_
            obtain ⟨r3, g4, hf⟩ := b1_s hf
            refine k_Vi (rest := [.int ((l3 * 25) + l4), .ref a_Reading_prices]) ⟨hx, hb, hml, hown, hts⟩ (c_Reading_priceFrom l D cI cZ t a_Line a_Line_kinds a_Line_ticks a_Line_drums a_Line_marks a_Line_strokeTicks a_Line_strokeHeights a_Rules a_Rules_values a_Tapes a_Tapes_counts a_Tapes_hits a_Reading a_Reading_matches a_Reading_prices H.size Line_ticks Line_count Rules_values Tapes_hits Reading_prices Reading_player Reading_matched l3 l4 l2 r3 g4) (cwV 3 hts gX6_find_X6_priceFrom rfl rfl rfl (by decide +kernel) ⟨Nat.le_of_ble_eq_true rfl, Nat.le_of_ble_eq_true rfl⟩) hE hP hD hS hA [0, 1, 2, 3, 4, 6, 7, 9] [5, 8] rfl rfl rfl rfl rfl 6 6 rfl rfl rfl rfl hl.1 rfl (Nat.le_of_ble_eq_true rfl) dX6_find_54 ⟨Nat.le_of_ble_eq_true rfl, Nat.le_of_ble_eq_true rfl⟩ (fun rq uq H locs hrq hP hD hS => ?_)
            refine lv_tpx hrq.symm ?_
            have hP : va_P D vwCl [(a_Tapes_counts, .inl (cI, 4, .inl Tapes_counts)), (a_Reading_matches, .inl (cI, 20, .inl Reading_matches)), (a_Line, .inr (4, [.ref a_Line_kinds, .ref a_Line_ticks, .ref a_Line_drums, .ref a_Line_marks, .ref a_Line_strokeTicks, .ref a_Line_strokeHeights, .int Line_count])), (a_Line_ticks, .inl (cI, 20, .inl Line_ticks)), (a_Rules, .inr (7, [.ref a_Rules_values])), (a_Rules_values, .inl (cI, 5, .inl Rules_values)), (a_Tapes, .inr (9, [.ref a_Tapes_counts, .ref a_Tapes_hits])), (a_Tapes_hits, .inl (cI, 96, .inl Tapes_hits)), (a_Reading, .inr (6, [.ref a_Reading_matches, .int Reading_matched, .ref a_Line, .ref a_Rules, .ref a_Tapes, .ref a_Reading_prices, .int Reading_player])), (a_Reading_prices, .inl (cI, 525, .inl Reading_prices))] H := hP
            have hD : va_D A [(a_Tapes_counts, .inl (cI, 4, .inl Tapes_counts)), (a_Reading_matches, .inl (cI, 20, .inl Reading_matches)), (a_Line, .inr (4, [.ref a_Line_kinds, .ref a_Line_ticks, .ref a_Line_drums, .ref a_Line_marks, .ref a_Line_strokeTicks, .ref a_Line_strokeHeights, .int Line_count])), (a_Line_ticks, .inl (cI, 20, .inl Line_ticks)), (a_Rules, .inr (7, [.ref a_Rules_values])), (a_Rules_values, .inl (cI, 5, .inl Rules_values)), (a_Tapes, .inr (9, [.ref a_Tapes_counts, .ref a_Tapes_hits])), (a_Tapes_hits, .inl (cI, 96, .inl Tapes_hits)), (a_Reading, .inr (6, [.ref a_Reading_matches, .int Reading_matched, .ref a_Line, .ref a_Rules, .ref a_Tapes, .ref a_Reading_prices, .int Reading_player])), (a_Reading_prices, .inl (cI, 525, .inl Reading_prices))] := hD
            obtain ⟨i5, hf⟩ := ck_s hf
            refine va_iast hx hb hK hP hD hS 9 0 rfl rfl i5 dX6_find_57 (fun H locs hP hD hS => ?_)
            have hP : va_P D vwCl [(a_Tapes_counts, .inl (cI, 4, .inl Tapes_counts)), (a_Reading_matches, .inl (cI, 20, .inl Reading_matches)), (a_Line, .inr (4, [.ref a_Line_kinds, .ref a_Line_ticks, .ref a_Line_drums, .ref a_Line_marks, .ref a_Line_strokeTicks, .ref a_Line_strokeHeights, .int Line_count])), (a_Line_ticks, .inl (cI, 20, .inl Line_ticks)), (a_Rules, .inr (7, [.ref a_Rules_values])), (a_Rules_values, .inl (cI, 5, .inl Rules_values)), (a_Tapes, .inr (9, [.ref a_Tapes_counts, .ref a_Tapes_hits])), (a_Tapes_hits, .inl (cI, 96, .inl Tapes_hits)), (a_Reading, .inr (6, [.ref a_Reading_matches, .int Reading_matched, .ref a_Line, .ref a_Rules, .ref a_Tapes, .ref a_Reading_prices, .int Reading_player])), (a_Reading_prices, .inl (cI, 525, .inl (upd Reading_prices ((l3 * 25) + l4).toNatClampNeg r3)))] H := hP
            have hD : va_D A [(a_Tapes_counts, .inl (cI, 4, .inl Tapes_counts)), (a_Reading_matches, .inl (cI, 20, .inl Reading_matches)), (a_Line, .inr (4, [.ref a_Line_kinds, .ref a_Line_ticks, .ref a_Line_drums, .ref a_Line_marks, .ref a_Line_strokeTicks, .ref a_Line_strokeHeights, .int Line_count])), (a_Line_ticks, .inl (cI, 20, .inl Line_ticks)), (a_Rules, .inr (7, [.ref a_Rules_values])), (a_Rules_values, .inl (cI, 5, .inl Rules_values)), (a_Tapes, .inr (9, [.ref a_Tapes_counts, .ref a_Tapes_hits])), (a_Tapes_hits, .inl (cI, 96, .inl Tapes_hits)), (a_Reading, .inr (6, [.ref a_Reading_matches, .int Reading_matched, .ref a_Line, .ref a_Rules, .ref a_Tapes, .ref a_Reading_prices, .int Reading_player])), (a_Reading_prices, .inl (cI, 525, .inl (upd Reading_prices ((l3 * 25) + l4).toNatClampNeg r3)))] := hD
            obtain ⟨x6, ex6, hf⟩ := nm_s hf
            refine lv_iinc (v := x6) (lv' := [(4, .int x6), (0, .ref a_Reading), (2, .int l2), (3, .int l3)]) hx hb dX6_find_58 hl (k := 3) rfl (by rw [ex6]; rfl) (by decide) rfl (fun ls hl => ?_)
            refine lv_goto (tgt := 33) hx hb dX6_find_61 (by decide) ?_
            exact ih33 l2 l3 x6 Reading_matches Reading_matched (upd Reading_prices ((l3 * 25) + l4).toNatClampNeg r3) Reading_player H locs ls (hP.sub [2, 3, 4, 5, 6, 0, 7, 8, 1, 9] rfl) (hD.sub [2, 3, 4, 5, 6, 0, 7, 8, 1, 9] (by decide) rfl) hS (lv_sub hl [1, 2, 3, 0] rfl) hf
      intro l2 l3 Reading_matches Reading_matched Reading_prices Reading_player H locs ls hP hD hS hl hf
      have hf : f_Reading_find_26_b Line_ticks Line_count Rules_values Tapes_counts Tapes_hits  (f_Reading_find_26 Line_ticks Line_count Rules_values Tapes_counts Tapes_hits  n26) l2 l3 Reading_matches Reading_matched Reading_prices Reading_player = some (z_Reading_matches, z_Reading_matched, z_Reading_prices, z_Reading_player) := hf
      unfold f_Reading_find_26_b at hf
      refine lv_iload_n hx hb dX6_find_26 rfl (lv_at hl 2 rfl) ?_
      refine lv_if_lt (tgt := 70) hx hb dX6_find_27 (by decide) (fun c7 => ?_) (fun c7 => ?_)
      · have hf := ite_t c7 hf
        refine lv_aload_n hx hb dX6_find_70 rfl (lv_at hl 0 rfl) ?_
        refine lv_iload_n hx hb dX6_find_71 rfl (lv_at hl 1 rfl) ?_
        obtain ⟨y8, y9, g10, hf⟩ := b2_s hf
        refine k_Vv (rest := []) ⟨hx, hb, hml, hown, hts⟩ (c_Reading_chooseMatches l D cI cZ t a_Line a_Line_kinds a_Line_ticks a_Line_drums a_Line_marks a_Line_strokeTicks a_Line_strokeHeights a_Rules a_Rules_values a_Tapes a_Tapes_counts a_Tapes_hits a_Reading a_Reading_matches a_Reading_prices H.size Line_ticks Line_count Rules_values Tapes_hits Reading_matches Reading_matched Reading_prices Reading_player l2 y8 y9 g10) (cwV 1 hts gX6_find_X6_chooseMatches rfl rfl rfl (by decide +kernel) ⟨Nat.le_of_ble_eq_true rfl, Nat.le_of_ble_eq_true rfl⟩) hE hP hD hS hA [0, 1, 2, 3, 4, 6, 7, 8, 9] [5] rfl rfl rfl rfl rfl 6 6 rfl rfl rfl rfl hl.1 rfl (Nat.le_of_ble_eq_true rfl) dX6_find_72 ⟨Nat.le_of_ble_eq_true rfl, Nat.le_of_ble_eq_true rfl⟩ (fun uq H locs hrq hP hD hS => ?_)
        have hP : va_P D vwCl [(a_Tapes_counts, .inl (cI, 4, .inl Tapes_counts)), (a_Line, .inr (4, [.ref a_Line_kinds, .ref a_Line_ticks, .ref a_Line_drums, .ref a_Line_marks, .ref a_Line_strokeTicks, .ref a_Line_strokeHeights, .int Line_count])), (a_Line_ticks, .inl (cI, 20, .inl Line_ticks)), (a_Rules, .inr (7, [.ref a_Rules_values])), (a_Rules_values, .inl (cI, 5, .inl Rules_values)), (a_Tapes, .inr (9, [.ref a_Tapes_counts, .ref a_Tapes_hits])), (a_Tapes_hits, .inl (cI, 96, .inl Tapes_hits)), (a_Reading, .inr (6, [.ref a_Reading_matches, .int y9, .ref a_Line, .ref a_Rules, .ref a_Tapes, .ref a_Reading_prices, .int Reading_player])), (a_Reading_matches, .inl (cI, 20, .inl y8)), (a_Reading_prices, .inl (cI, 525, .inl Reading_prices))] H := hP
        have hD : va_D A [(a_Tapes_counts, .inl (cI, 4, .inl Tapes_counts)), (a_Line, .inr (4, [.ref a_Line_kinds, .ref a_Line_ticks, .ref a_Line_drums, .ref a_Line_marks, .ref a_Line_strokeTicks, .ref a_Line_strokeHeights, .int Line_count])), (a_Line_ticks, .inl (cI, 20, .inl Line_ticks)), (a_Rules, .inr (7, [.ref a_Rules_values])), (a_Rules_values, .inl (cI, 5, .inl Rules_values)), (a_Tapes, .inr (9, [.ref a_Tapes_counts, .ref a_Tapes_hits])), (a_Tapes_hits, .inl (cI, 96, .inl Tapes_hits)), (a_Reading, .inr (6, [.ref a_Reading_matches, .int y9, .ref a_Line, .ref a_Rules, .ref a_Tapes, .ref a_Reading_prices, .int Reading_player])), (a_Reading_matches, .inl (cI, 20, .inl y8)), (a_Reading_prices, .inl (cI, 525, .inl Reading_prices))] := hD
        cases hf
        exact k_vret () hQ9 hx hb hr hlocks rfl (hP.sub [1, 2, 3, 4, 5, 0, 6, 7, 8, 9] rfl) (hD.sub [1, 2, 3, 4, 5, 0, 6, 7, 8, 9] (by decide) rfl) hS (Nat.le_of_ble_eq_true rfl) (Nat.le_of_ble_eq_true rfl) dX6_find_75
      · have hf := ite_f c7 hf
        refine lv_iload_n hx hb dX6_find_30 rfl (lv_at hl 1 rfl) ?_
        refine lv_istore (lv' := [(4, .int l2), (0, .ref a_Reading), (2, .int l2), (3, .int l3)]) hx hb dX6_find_31 hl (by decide) rfl (fun ls hl => ?_)
        exact hL33 fu l2 l3 l2 Reading_matches Reading_matched Reading_prices Reading_player H locs ls hP hD hS (lv_sub hl [1, 2, 3, 0] rfl) hf
  unfold f_Reading_find at hf
  refine lv_aload_n hx hb dX6_find_0 rfl (lv_at hl 0 rfl) ?_
  refine lv_iload_n hx hb dX6_find_1 rfl (lv_at hl 1 rfl) ?_
  refine va_put (D := D) (ci := 6) (v := .int p1) (ty := .int) (C := RX6) (T := TX6) (N := 7) hx hb hts inX6 tyX6 tyX6_ok nmX6 hown hK hP hD hS 7 rfl rfl 6 (by decide) fl22 (fun _ h9 => h9) rfl (by decide +kernel) rfl rfl (Nat.le_of_ble_eq_true rfl) dX6_find_2 (fun H locs hP hD hS => ?_)
  have hP : va_P D vwCl [(a_Line, .inr (4, [.ref a_Line_kinds, .ref a_Line_ticks, .ref a_Line_drums, .ref a_Line_marks, .ref a_Line_strokeTicks, .ref a_Line_strokeHeights, .int Line_count])), (a_Line_ticks, .inl (cI, 20, .inl Line_ticks)), (a_Rules, .inr (7, [.ref a_Rules_values])), (a_Rules_values, .inl (cI, 5, .inl Rules_values)), (a_Tapes, .inr (9, [.ref a_Tapes_counts, .ref a_Tapes_hits])), (a_Tapes_counts, .inl (cI, 4, .inl Tapes_counts)), (a_Tapes_hits, .inl (cI, 96, .inl Tapes_hits)), (a_Reading, .inr (6, [.ref a_Reading_matches, .int Reading_matched, .ref a_Line, .ref a_Rules, .ref a_Tapes, .ref a_Reading_prices, .int p1])), (a_Reading_matches, .inl (cI, 20, .inl Reading_matches)), (a_Reading_prices, .inl (cI, 525, .inl Reading_prices))] H := hP
  have hD : va_D A [(a_Line, .inr (4, [.ref a_Line_kinds, .ref a_Line_ticks, .ref a_Line_drums, .ref a_Line_marks, .ref a_Line_strokeTicks, .ref a_Line_strokeHeights, .int Line_count])), (a_Line_ticks, .inl (cI, 20, .inl Line_ticks)), (a_Rules, .inr (7, [.ref a_Rules_values])), (a_Rules_values, .inl (cI, 5, .inl Rules_values)), (a_Tapes, .inr (9, [.ref a_Tapes_counts, .ref a_Tapes_hits])), (a_Tapes_counts, .inl (cI, 4, .inl Tapes_counts)), (a_Tapes_hits, .inl (cI, 96, .inl Tapes_hits)), (a_Reading, .inr (6, [.ref a_Reading_matches, .int Reading_matched, .ref a_Line, .ref a_Rules, .ref a_Tapes, .ref a_Reading_prices, .int p1])), (a_Reading_matches, .inl (cI, 20, .inl Reading_matches)), (a_Reading_prices, .inl (cI, 525, .inl Reading_prices))] := hD
  refine lv_aload_n hx hb dX6_find_5 rfl (lv_at hl 0 rfl) ?_
  refine va_get (D := D) (ci := 6) (v := .ref a_Tapes) (C := RX6) (T := TX6) (N := 7) hx hb hts inX6 hown hK hP 7 rfl rfl 4 (by decide) fl33 (fun _ h9 => h9) rfl dX6_find_6 ?_
  refine va_get (D := D) (ci := 9) (v := .ref a_Tapes_counts) (C := RX9) (T := TX9) (N := 2) hx hb hts inX9 hown hK hP 4 rfl rfl 0 (by decide) fl37 (fun _ h9 => h9) rfl dX6_find_9 ?_
  refine lv_aload_n hx hb dX6_find_12 rfl (lv_at hl 0 rfl) ?_
  refine va_get (D := D) (ci := 6) (v := .int p1) (C := RX6) (T := TX6) (N := 7) hx hb hts inX6 hown hK hP 7 rfl rfl 6 (by decide) fl22 (fun _ h9 => h9) rfl dX6_find_13 ?_
  obtain ⟨ix11, x11, ex11, hf⟩ := rd_s hf
  refine va_iald hx hb hK hP 5 0 rfl rfl ix11 dX6_find_16 ?_
  refine lv_tpx ex11 ?_
  refine lv_istore_n (lv' := [(2, .int x11), (0, .ref a_Reading), (1, .int p1)]) hx hb dX6_find_17 rfl hl (by decide) rfl (fun ls hl => ?_)
  refine lv_aload_n hx hb dX6_find_18 rfl (lv_at hl 1 rfl) ?_
  refine va_get (D := D) (ci := 6) (v := .ref a_Line) (C := RX6) (T := TX6) (N := 7) hx hb hts inX6 hown hK hP 7 rfl rfl 2 (by decide) fl25 (fun _ h9 => h9) rfl dX6_find_19 ?_
  refine va_get (D := D) (ci := 4) (v := .int Line_count) (C := RX4) (T := TX4) (N := 7) hx hb hts inX4 hown hK hP 0 rfl rfl 6 (by decide) fl42 (fun _ h9 => h9) rfl dX6_find_22 ?_
  refine lv_istore_n (lv' := [(3, .int Line_count), (2, .int x11), (0, .ref a_Reading), (1, .int p1)]) hx hb dX6_find_25 rfl hl (by decide) rfl (fun ls hl => ?_)
  exact hL26 fu x11 Line_count Reading_matches Reading_matched Reading_prices p1 H locs ls hP hD hS (lv_sub hl [2, 1, 0] rfl) hf
