abbrev rm_Model_bassOf : Room := { frames := 0, cells := 0, slots := 0, locals := 0 }
set_option maxHeartbeats 4000000 in
set_option maxRecDepth 100000 in
theorem c_Model_bassOf (l : Launch) (D : va_G) (cI cZ : ClassId) (t : Nat → Nat) (a_Model a_Model_now a_Model_past a_Model_bits a_Model_sizes a_Model_sheets a_Model_least a_Model_ways a_Model_handOf a_Model_crossedAt a_Model_strokeOf a_Model_prices a_Model_hitAt a_Model_carried sz : Nat) (Model_now : Nat → Int32) (Model_kept Model_findings Model_thenCost Model_thenWays Model_bothCost Model_bothWays p1 p2 zr : Int32) (hf : f_Model_bassOf Model_now p1 p2 = some zr) : Met l yX11_bassOf wsX11_bassOf rm_Model_bassOf (va_Pc [.ref a_Model, .int p1, .int p2] (pcW D cI cZ t [(a_Model, .inr (11, [.ref a_Model_now, .ref a_Model_past, .int Model_kept, .int Model_findings, .ref a_Model_bits, .ref a_Model_sizes, .ref a_Model_sheets, .ref a_Model_least, .ref a_Model_ways, .int Model_thenCost, .int Model_thenWays, .int Model_bothCost, .int Model_bothWays, .ref a_Model_handOf, .ref a_Model_crossedAt, .ref a_Model_strokeOf, .ref a_Model_prices, .ref a_Model_hitAt, .ref a_Model_carried])), (a_Model_now, .inl (cI, 187, .inl Model_now))] sz)) (va_Qi (fun r (u : Unit) => r = zr) (fun u t' => bW D (va_A [(a_Model, .inr (11, [.ref a_Model_now, .ref a_Model_past, .int Model_kept, .int Model_findings, .ref a_Model_bits, .ref a_Model_sizes, .ref a_Model_sheets, .ref a_Model_least, .ref a_Model_ways, .int Model_thenCost, .int Model_thenWays, .int Model_bothCost, .int Model_bothWays, .ref a_Model_handOf, .ref a_Model_crossedAt, .ref a_Model_strokeOf, .ref a_Model_prices, .ref a_Model_hitAt, .ref a_Model_carried])), (a_Model_now, .inl (cI, 187, .inl Model_now))] sz) [(a_Model, .inr (11, [.ref a_Model_now, .ref a_Model_past, .int Model_kept, .int Model_findings, .ref a_Model_bits, .ref a_Model_sizes, .ref a_Model_sheets, .ref a_Model_least, .ref a_Model_ways, .int Model_thenCost, .int Model_thenWays, .int Model_bothCost, .int Model_bothWays, .ref a_Model_handOf, .ref a_Model_crossedAt, .ref a_Model_strokeOf, .ref a_Model_prices, .ref a_Model_hitAt, .ref a_Model_carried])), (a_Model_now, .inl (cI, 187, .inl Model_now))] t') (va_A [(a_Model, .inr (11, [.ref a_Model_now, .ref a_Model_past, .int Model_kept, .int Model_findings, .ref a_Model_bits, .ref a_Model_sizes, .ref a_Model_sheets, .ref a_Model_least, .ref a_Model_ways, .int Model_thenCost, .int Model_thenWays, .int Model_bothCost, .int Model_bothWays, .ref a_Model_handOf, .ref a_Model_crossedAt, .ref a_Model_strokeOf, .ref a_Model_prices, .ref a_Model_hitAt, .ref a_Model_carried])), (a_Model_now, .inl (cI, 187, .inl Model_now))] sz)) 0 0 (va_A [(a_Model, .inr (11, [.ref a_Model_now, .ref a_Model_past, .int Model_kept, .int Model_findings, .ref a_Model_bits, .ref a_Model_sizes, .ref a_Model_sheets, .ref a_Model_least, .ref a_Model_ways, .int Model_thenCost, .int Model_thenWays, .int Model_bothCost, .int Model_bothWays, .ref a_Model_handOf, .ref a_Model_crossedAt, .ref a_Model_strokeOf, .ref a_Model_prices, .ref a_Model_hitAt, .ref a_Model_carried])), (a_Model_now, .inl (cI, 187, .inl Model_now))] sz) := by
  refine Met.ofW (cc := cX11_bassOf) (maxL := 5) (ret := (some .int)) (by decide) rfl ?_
  intro p e s m args below meth c s₁ B hml hv
  obtain ⟨rfl, hsz, hP, hD0, hE⟩ := hv
  have hx := B.exec
  have hb := B.bytes
  have hr := B.returns
  have hts := atoms_spec (ws := wsX11_bassOf) B.pre
  have hown : s.vm.findClass RX11 = some m.cls := findClass_of_methodNamed B.named
  have hlocks := B.notSynchronized
  subst hsz
  have hD := hD0.self (sz := s.heap.size)
  generalize hAe : va_A [(a_Model, .inr (11, [.ref a_Model_now, .ref a_Model_past, .int Model_kept, .int Model_findings, .ref a_Model_bits, .ref a_Model_sizes, .ref a_Model_sheets, .ref a_Model_least, .ref a_Model_ways, .int Model_thenCost, .int Model_thenWays, .int Model_bothCost, .int Model_bothWays, .ref a_Model_handOf, .ref a_Model_crossedAt, .ref a_Model_strokeOf, .ref a_Model_prices, .ref a_Model_hitAt, .ref a_Model_carried])), (a_Model_now, .inl (cI, 187, .inl Model_now))] s.heap.size = A at hD hE ⊢
  have hA : ∀ q : Nat, s.heap.size ≤ q → A q := fun q h => by rw [← hAe]; exact Or.inr h
  clear hAe hD0
  have hS : va_S A s.heap s.heap [] := va_S.rf
  have hK := hE.1
  have hl := lv_entry ([.ref a_Model, .int p1, .int p2]) (n := 5) (Nat.le_of_ble_eq_true rfl)
  rw [lg_entry_eq]
  generalize (lg_sl ([.ref a_Model, .int p1, .int p2]) ++ List.replicate (5 - (lg_sl ([.ref a_Model, .int p1, .int p2])).length) Slot.unset).toArray = ls at hl ⊢
  have hl : lv_has ls 5 [(0, .ref a_Model), (1, .int p1), (2, .int p2)] := hl
  refine w_q (fun Q9 hQ9 => ?_)
  have fl9 := hts (.fieldLink RX11 9 "StickRoomModel" "now" "[I") (by decide +kernel)
  have inX11 : ∀ w ∈ wsX110, w ∈ wsX11_bassOf := by decide +kernel
  have hL82 : ∀ (n82 : Nat) (l4 : Int32) (H : Heap) (locs : List Loc) (ls : Array Slot), va_P D vwCl [(a_Model, .inr (11, [.ref a_Model_now, .ref a_Model_past, .int Model_kept, .int Model_findings, .ref a_Model_bits, .ref a_Model_sizes, .ref a_Model_sheets, .ref a_Model_least, .ref a_Model_ways, .int Model_thenCost, .int Model_thenWays, .int Model_bothCost, .int Model_bothWays, .ref a_Model_handOf, .ref a_Model_crossedAt, .ref a_Model_strokeOf, .ref a_Model_prices, .ref a_Model_hitAt, .ref a_Model_carried])), (a_Model_now, .inl (cI, 187, .inl Model_now))] H → va_D A [(a_Model, .inr (11, [.ref a_Model_now, .ref a_Model_past, .int Model_kept, .int Model_findings, .ref a_Model_bits, .ref a_Model_sizes, .ref a_Model_sheets, .ref a_Model_least, .ref a_Model_ways, .int Model_thenCost, .int Model_thenWays, .int Model_bothCost, .int Model_bothWays, .ref a_Model_handOf, .ref a_Model_crossedAt, .ref a_Model_strokeOf, .ref a_Model_prices, .ref a_Model_hitAt, .ref a_Model_carried])), (a_Model_now, .inl (cI, 187, .inl Model_now))] → va_S A s.heap H locs → lv_has ls 5 [(0, .ref a_Model), (4, .int l4)] → f_Model_bassOf_82 Model_now  n82 l4 = some zr → W p l e (headSpec wsX11_bassOf rm_Model_bassOf).room s m ([.ref a_Model, .int p1, .int p2] : List Value).toArray below meth c H locs 0 0 Q9 (F0 m 82 ls []) := by
    intro n82
    induction n82 with
    | zero => intro l4 H locs ls hP hD hS hl hf; exact nomatch (show none = some zr from hf)
    | succ n82 ih82 =>
      intro l4 H locs ls hP hD hS hl hf
      have hf : f_Model_bassOf_82_b Model_now  (f_Model_bassOf_82 Model_now  n82) l4 = some zr := hf
      unfold f_Model_bassOf_82_b at hf
      refine lv_aload_n hx hb dX11_bassOf_82 rfl (lv_at hl 0 rfl) ?_
      refine va_get (D := D) (ci := 11) (v := .ref a_Model_now) (C := RX11) (T := TX11) (N := 19) hx hb hts inX11 hown hK hP 0 rfl rfl 0 (by decide) fl9 (fun _ h9 => h9) rfl dX11_bassOf_83 ?_
      refine lv_iconst (v := 1) hx hb dX11_bassOf_86 (by decide) ?_
      obtain ⟨ix1, x1, ex1, hf⟩ := rd_s hf
      refine va_iald hx hb hK hP 1 0 rfl rfl ix1 dX11_bassOf_87 ?_
      refine lv_tpx ex1 ?_
      refine lv_iload hx hb dX11_bassOf_88 (lv_at hl 1 rfl) ?_
      refine lv_ishr hx hb dX11_bassOf_90 ?_
      obtain ⟨x2, ex2, hf⟩ := nm_s hf
      refine lv_tpx ex2 ?_
      refine lv_iconst (v := 1) hx hb dX11_bassOf_91 (by decide) ?_
      refine lv_iand hx hb dX11_bassOf_92 ?_
      refine lv_if_ne (tgt := 102) hx hb dX11_bassOf_93 (by decide) (fun c3 => ?_) (fun c3 => ?_)
      · have hf := ite_f c3 hf
        refine lv_iload hx hb dX11_bassOf_102 (lv_at hl 1 rfl) ?_
        cases hf
        exact k_iret () hQ9 hx hb hr hlocks rfl hP hD hS (Nat.le_of_ble_eq_true rfl) (Nat.le_of_ble_eq_true rfl) dX11_bassOf_104
      · have hf := ite_t c3 hf
        obtain ⟨x4, ex4, hf⟩ := nm_s hf
        refine lv_iinc (v := x4) (lv' := [(4, .int x4), (0, .ref a_Model)]) hx hb dX11_bassOf_96 hl (k := 1) rfl (by rw [ex4]; rfl) (by decide) rfl (fun ls hl => ?_)
        refine lv_goto (tgt := 82) hx hb dX11_bassOf_99 (by decide) ?_
        exact ih82 x4 H locs ls hP hD hS (lv_sub hl [1, 0] rfl) hf
  have hL49 : ∀ (n49 : Nat) (l3 l4 : Int32) (H : Heap) (locs : List Loc) (ls : Array Slot), va_P D vwCl [(a_Model, .inr (11, [.ref a_Model_now, .ref a_Model_past, .int Model_kept, .int Model_findings, .ref a_Model_bits, .ref a_Model_sizes, .ref a_Model_sheets, .ref a_Model_least, .ref a_Model_ways, .int Model_thenCost, .int Model_thenWays, .int Model_bothCost, .int Model_bothWays, .ref a_Model_handOf, .ref a_Model_crossedAt, .ref a_Model_strokeOf, .ref a_Model_prices, .ref a_Model_hitAt, .ref a_Model_carried])), (a_Model_now, .inl (cI, 187, .inl Model_now))] H → va_D A [(a_Model, .inr (11, [.ref a_Model_now, .ref a_Model_past, .int Model_kept, .int Model_findings, .ref a_Model_bits, .ref a_Model_sizes, .ref a_Model_sheets, .ref a_Model_least, .ref a_Model_ways, .int Model_thenCost, .int Model_thenWays, .int Model_bothCost, .int Model_bothWays, .ref a_Model_handOf, .ref a_Model_crossedAt, .ref a_Model_strokeOf, .ref a_Model_prices, .ref a_Model_hitAt, .ref a_Model_carried])), (a_Model_now, .inl (cI, 187, .inl Model_now))] → va_S A s.heap H locs → lv_has ls 5 [(0, .ref a_Model), (3, .int l3), (4, .int l4)] → f_Model_bassOf_49 Model_now  n49 l3 l4 = some zr → W p l e (headSpec wsX11_bassOf rm_Model_bassOf).room s m ([.ref a_Model, .int p1, .int p2] : List Value).toArray below meth c H locs 0 0 Q9 (F0 m 49 ls []) := by
    intro n49
    induction n49 with
    | zero => intro l3 l4 H locs ls hP hD hS hl hf; exact nomatch (show none = some zr from hf)
    | succ n49 ih49 =>
      intro l3 l4 H locs ls hP hD hS hl hf
      have hf : f_Model_bassOf_49_b Model_now  (f_Model_bassOf_49 Model_now  n49) l3 l4 = some zr := hf
      unfold f_Model_bassOf_49_b at hf
      refine lv_iload hx hb dX11_bassOf_49 (lv_at hl 2 rfl) ?_
      refine lv_if_lt (tgt := 74) hx hb dX11_bassOf_51 (by decide) (fun c5 => ?_) (fun c5 => ?_)
      · have hf := ite_t c5 hf
        refine lv_iload hx hb dX11_bassOf_74 (lv_at hl 2 rfl) ?_
        refine lv_if_ge (tgt := 102) hx hb dX11_bassOf_76 (by decide) (fun c6 => ?_) (fun c6 => ?_)
        · have hf := ite_t c6 hf
          refine lv_iload hx hb dX11_bassOf_102 (lv_at hl 2 rfl) ?_
          cases hf
          exact k_iret () hQ9 hx hb hr hlocks rfl hP hD hS (Nat.le_of_ble_eq_true rfl) (Nat.le_of_ble_eq_true rfl) dX11_bassOf_104
        · have hf := ite_f c6 hf
          refine lv_iload_n hx hb dX11_bassOf_79 rfl (lv_at hl 1 rfl) ?_
          refine lv_istore (lv' := [(4, .int l3), (0, .ref a_Model), (3, .int l3)]) hx hb dX11_bassOf_80 hl (by decide) rfl (fun ls hl => ?_)
          exact hL82 fu l3 H locs ls hP hD hS (lv_sub hl [1, 0] rfl) hf
      · have hf := ite_f c5 hf
        refine lv_aload_n hx hb dX11_bassOf_54 rfl (lv_at hl 0 rfl) ?_
        refine va_get (D := D) (ci := 11) (v := .ref a_Model_now) (C := RX11) (T := TX11) (N := 19) hx hb hts inX11 hown hK hP 0 rfl rfl 0 (by decide) fl9 (fun _ h9 => h9) rfl dX11_bassOf_55 ?_
        refine lv_iconst (v := 1) hx hb dX11_bassOf_58 (by decide) ?_
        obtain ⟨ix7, x7, ex7, hf⟩ := rd_s hf
        refine va_iald hx hb hK hP 1 0 rfl rfl ix7 dX11_bassOf_59 ?_
        refine lv_tpx ex7 ?_
        refine lv_iload hx hb dX11_bassOf_60 (lv_at hl 2 rfl) ?_
        refine lv_ishr hx hb dX11_bassOf_62 ?_
        obtain ⟨x8, ex8, hf⟩ := nm_s hf
        refine lv_tpx ex8 ?_
        refine lv_iconst (v := 1) hx hb dX11_bassOf_63 (by decide) ?_
        refine lv_iand hx hb dX11_bassOf_64 ?_
        refine lv_if_ne (tgt := 74) hx hb dX11_bassOf_65 (by decide) (fun c9 => ?_) (fun c9 => ?_)
        · have hf := ite_f c9 hf
          refine lv_iload hx hb dX11_bassOf_74 (lv_at hl 2 rfl) ?_
          refine lv_if_ge (tgt := 102) hx hb dX11_bassOf_76 (by decide) (fun c10 => ?_) (fun c10 => ?_)
          · have hf := ite_t c10 hf
            refine lv_iload hx hb dX11_bassOf_102 (lv_at hl 2 rfl) ?_
            cases hf
            exact k_iret () hQ9 hx hb hr hlocks rfl hP hD hS (Nat.le_of_ble_eq_true rfl) (Nat.le_of_ble_eq_true rfl) dX11_bassOf_104
          · have hf := ite_f c10 hf
            refine lv_iload_n hx hb dX11_bassOf_79 rfl (lv_at hl 1 rfl) ?_
            refine lv_istore (lv' := [(4, .int l3), (0, .ref a_Model), (3, .int l3)]) hx hb dX11_bassOf_80 hl (by decide) rfl (fun ls hl => ?_)
            exact hL82 fu l3 H locs ls hP hD hS (lv_sub hl [1, 0] rfl) hf
        · have hf := ite_t c9 hf
          obtain ⟨x11, ex11, hf⟩ := nm_s hf
          refine lv_iinc (v := x11) (lv' := [(4, .int x11), (0, .ref a_Model), (3, .int l3)]) hx hb dX11_bassOf_68 hl (k := 2) rfl (by rw [ex11]; rfl) (by decide) rfl (fun ls hl => ?_)
          refine lv_goto (tgt := 49) hx hb dX11_bassOf_71 (by decide) ?_
          exact ih49 l3 x11 H locs ls hP hD hS (lv_sub hl [1, 2, 0] rfl) hf
  have hJ45 : ∀ (k0 : Int32) (H : Heap) (locs : List Loc) (ls : Array Slot), va_P D vwCl [(a_Model, .inr (11, [.ref a_Model_now, .ref a_Model_past, .int Model_kept, .int Model_findings, .ref a_Model_bits, .ref a_Model_sizes, .ref a_Model_sheets, .ref a_Model_least, .ref a_Model_ways, .int Model_thenCost, .int Model_thenWays, .int Model_bothCost, .int Model_bothWays, .ref a_Model_handOf, .ref a_Model_crossedAt, .ref a_Model_strokeOf, .ref a_Model_prices, .ref a_Model_hitAt, .ref a_Model_carried])), (a_Model_now, .inl (cI, 187, .inl Model_now))] H → va_D A [(a_Model, .inr (11, [.ref a_Model_now, .ref a_Model_past, .int Model_kept, .int Model_findings, .ref a_Model_bits, .ref a_Model_sizes, .ref a_Model_sheets, .ref a_Model_least, .ref a_Model_ways, .int Model_thenCost, .int Model_thenWays, .int Model_bothCost, .int Model_bothWays, .ref a_Model_handOf, .ref a_Model_crossedAt, .ref a_Model_strokeOf, .ref a_Model_prices, .ref a_Model_hitAt, .ref a_Model_carried])), (a_Model_now, .inl (cI, 187, .inl Model_now))] → va_S A s.heap H locs → lv_has ls 5 [(0, .ref a_Model)] → f_Model_bassOf_45 Model_now  k0 = some zr → W p l e (headSpec wsX11_bassOf rm_Model_bassOf).room s m ([.ref a_Model, .int p1, .int p2] : List Value).toArray below meth c H locs 0 0 Q9 (F0 m 45 ls [.int k0]) := by
    intro k0 H locs ls hP hD hS hl hf
    unfold f_Model_bassOf_45 at hf
    refine lv_istore_n (lv' := [(3, .int k0), (0, .ref a_Model)]) hx hb dX11_bassOf_45 rfl hl (by decide) rfl (fun ls hl => ?_)
    refine lv_iload_n hx hb dX11_bassOf_46 rfl (lv_at hl 0 rfl) ?_
    refine lv_istore (lv' := [(4, .int k0), (3, .int k0), (0, .ref a_Model)]) hx hb dX11_bassOf_47 hl (by decide) rfl (fun ls hl => ?_)
    exact hL49 fu k0 k0 H locs ls hP hD hS (lv_sub hl [2, 1, 0] rfl) hf
  unfold f_Model_bassOf at hf
  refine lv_iload_n hx hb dX11_bassOf_0 rfl (lv_at hl 1 rfl) ?_
  refine lv_if_ne (tgt := 10) hx hb dX11_bassOf_1 (by decide) (fun c12 => ?_) (fun c12 => ?_)
  · have hf := ite_f c12 hf
    refine lv_iload_n hx hb dX11_bassOf_10 rfl (lv_at hl 1 rfl) ?_
    refine lv_iconst (v := 1) hx hb dX11_bassOf_11 (by decide) ?_
    refine lv_icmp_ne (tgt := 23) hx hb dX11_bassOf_12 (by decide) (fun c13 => ?_) (fun c13 => ?_)
    · have hf := ite_f c13 hf
      refine lv_iload_n hx hb dX11_bassOf_23 rfl (lv_at hl 2 rfl) ?_
      refine lv_bipush (v := 8) hx hb dX11_bassOf_24 (by decide) ?_
      refine lv_irem hx hb dX11_bassOf_26 (by decide) ?_
      obtain ⟨x14, ex14, hf⟩ := nm_s hf
      refine lv_tpx ex14 ?_
      refine lv_iconst (v := 5) hx hb dX11_bassOf_27 (by decide) ?_
      refine lv_icmp_ge (tgt := 38) hx hb dX11_bassOf_28 (by decide) (fun c15 => ?_) (fun c15 => ?_)
      · have hf := ite_t c15 hf
        refine lv_bipush (v := 8) hx hb dX11_bassOf_38 (by decide) ?_
        refine lv_iload_n hx hb dX11_bassOf_40 rfl (lv_at hl 2 rfl) ?_
        refine lv_bipush (v := 8) hx hb dX11_bassOf_41 (by decide) ?_
        refine lv_irem hx hb dX11_bassOf_43 (by decide) ?_
        obtain ⟨x16, ex16, hf⟩ := nm_s hf
        refine lv_tpx ex16 ?_
        refine lv_isub hx hb dX11_bassOf_44 ?_
        exact hJ45 (8 - x16) s.heap [] ls hP hD hS (lv_sub hl [0] rfl) hf
      · have hf := ite_f c15 hf
        refine lv_iload_n hx hb dX11_bassOf_31 rfl (lv_at hl 2 rfl) ?_
        refine lv_bipush (v := 8) hx hb dX11_bassOf_32 (by decide) ?_
        refine lv_irem hx hb dX11_bassOf_34 (by decide) ?_
        obtain ⟨x17, ex17, hf⟩ := nm_s hf
        refine lv_tpx ex17 ?_
        refine lv_goto (tgt := 45) hx hb dX11_bassOf_35 (by decide) ?_
        exact hJ45 x17 s.heap [] ls hP hD hS (lv_sub hl [0] rfl) hf
    · have hf := ite_t c13 hf
      refine lv_iconst (v := 4) hx hb dX11_bassOf_15 (by decide) ?_
      refine lv_iload_n hx hb dX11_bassOf_16 rfl (lv_at hl 2 rfl) ?_
      refine lv_iconst (v := 5) hx hb dX11_bassOf_17 (by decide) ?_
      refine lv_irem hx hb dX11_bassOf_18 (by decide) ?_
      obtain ⟨x18, ex18, hf⟩ := nm_s hf
      refine lv_tpx ex18 ?_
      refine lv_isub hx hb dX11_bassOf_19 ?_
      refine lv_goto (tgt := 45) hx hb dX11_bassOf_20 (by decide) ?_
      exact hJ45 (4 - x18) s.heap [] ls hP hD hS (lv_sub hl [0] rfl) hf
  · have hf := ite_t c12 hf
    refine lv_iload_n hx hb dX11_bassOf_4 rfl (lv_at hl 2 rfl) ?_
    refine lv_iconst (v := 5) hx hb dX11_bassOf_5 (by decide) ?_
    refine lv_irem hx hb dX11_bassOf_6 (by decide) ?_
    obtain ⟨x19, ex19, hf⟩ := nm_s hf
    refine lv_tpx ex19 ?_
    refine lv_goto (tgt := 45) hx hb dX11_bassOf_7 (by decide) ?_
    exact hJ45 x19 s.heap [] ls hP hD hS (lv_sub hl [0] rfl) hf
abbrev rm_Model_bass : Room := { frames := 1, cells := 0, slots := 0, locals := 22 }
set_option maxHeartbeats 4000000 in
set_option maxRecDepth 100000 in
theorem c_Model_bass (l : Launch) (D : va_G) (cI cZ : ClassId) (t : Nat → Nat) (a_Model a_Model_now a_Model_past a_Model_bits a_Model_sizes a_Model_sheets a_Model_least a_Model_ways a_Model_handOf a_Model_crossedAt a_Model_strokeOf a_Model_prices a_Model_hitAt a_Model_carried sz : Nat) (Model_now Model_past : Nat → Int32) (Model_kept Model_findings Model_thenCost Model_thenWays Model_bothCost Model_bothWays p1 p2 zr : Int32) (z_Model_now z_Model_past : Nat → Int32) (z_Model_kept z_Model_findings : Int32) (hf : f_Model_bass Model_now Model_past Model_kept Model_findings p1 p2 = some (zr, z_Model_now, z_Model_past, z_Model_kept, z_Model_findings)) : Met l yX11_bass wsX11_bass rm_Model_bass (va_Pc [.ref a_Model, .int p1, .int p2] (pcW D cI cZ t [(a_Model, .inr (11, [.ref a_Model_now, .ref a_Model_past, .int Model_kept, .int Model_findings, .ref a_Model_bits, .ref a_Model_sizes, .ref a_Model_sheets, .ref a_Model_least, .ref a_Model_ways, .int Model_thenCost, .int Model_thenWays, .int Model_bothCost, .int Model_bothWays, .ref a_Model_handOf, .ref a_Model_crossedAt, .ref a_Model_strokeOf, .ref a_Model_prices, .ref a_Model_hitAt, .ref a_Model_carried])), (a_Model_now, .inl (cI, 187, .inl Model_now)), (a_Model_past, .inl (cI, 3740, .inl Model_past))] sz)) (va_Qi (fun r (u : Unit) => r = zr) (fun u t' => bW D (va_A [(a_Model, .inr (11, [.ref a_Model_now, .ref a_Model_past, .int Model_kept, .int Model_findings, .ref a_Model_bits, .ref a_Model_sizes, .ref a_Model_sheets, .ref a_Model_least, .ref a_Model_ways, .int Model_thenCost, .int Model_thenWays, .int Model_bothCost, .int Model_bothWays, .ref a_Model_handOf, .ref a_Model_crossedAt, .ref a_Model_strokeOf, .ref a_Model_prices, .ref a_Model_hitAt, .ref a_Model_carried])), (a_Model_now, .inl (cI, 187, .inl Model_now)), (a_Model_past, .inl (cI, 3740, .inl Model_past))] sz) [(a_Model, .inr (11, [.ref a_Model_now, .ref a_Model_past, .int z_Model_kept, .int z_Model_findings, .ref a_Model_bits, .ref a_Model_sizes, .ref a_Model_sheets, .ref a_Model_least, .ref a_Model_ways, .int Model_thenCost, .int Model_thenWays, .int Model_bothCost, .int Model_bothWays, .ref a_Model_handOf, .ref a_Model_crossedAt, .ref a_Model_strokeOf, .ref a_Model_prices, .ref a_Model_hitAt, .ref a_Model_carried])), (a_Model_now, .inl (cI, 187, .inl z_Model_now)), (a_Model_past, .inl (cI, 3740, .inl z_Model_past))] t') (va_A [(a_Model, .inr (11, [.ref a_Model_now, .ref a_Model_past, .int Model_kept, .int Model_findings, .ref a_Model_bits, .ref a_Model_sizes, .ref a_Model_sheets, .ref a_Model_least, .ref a_Model_ways, .int Model_thenCost, .int Model_thenWays, .int Model_bothCost, .int Model_bothWays, .ref a_Model_handOf, .ref a_Model_crossedAt, .ref a_Model_strokeOf, .ref a_Model_prices, .ref a_Model_hitAt, .ref a_Model_carried])), (a_Model_now, .inl (cI, 187, .inl Model_now)), (a_Model_past, .inl (cI, 3740, .inl Model_past))] sz)) 0 0 (va_A [(a_Model, .inr (11, [.ref a_Model_now, .ref a_Model_past, .int Model_kept, .int Model_findings, .ref a_Model_bits, .ref a_Model_sizes, .ref a_Model_sheets, .ref a_Model_least, .ref a_Model_ways, .int Model_thenCost, .int Model_thenWays, .int Model_bothCost, .int Model_bothWays, .ref a_Model_handOf, .ref a_Model_crossedAt, .ref a_Model_strokeOf, .ref a_Model_prices, .ref a_Model_hitAt, .ref a_Model_carried])), (a_Model_now, .inl (cI, 187, .inl Model_now)), (a_Model_past, .inl (cI, 3740, .inl Model_past))] sz) := by
  refine Met.ofW (cc := cX11_bass) (maxL := 4) (ret := (some .int)) (by decide) rfl ?_
  intro p e s m args below meth c s₁ B hml hv
  obtain ⟨rfl, hsz, hP, hD0, hE⟩ := hv
  have hx := B.exec
  have hb := B.bytes
  have hr := B.returns
  have hts := atoms_spec (ws := wsX11_bass) B.pre
  have hown : s.vm.findClass RX11 = some m.cls := findClass_of_methodNamed B.named
  have hlocks := B.notSynchronized
  subst hsz
  have hD := hD0.self (sz := s.heap.size)
  generalize hAe : va_A [(a_Model, .inr (11, [.ref a_Model_now, .ref a_Model_past, .int Model_kept, .int Model_findings, .ref a_Model_bits, .ref a_Model_sizes, .ref a_Model_sheets, .ref a_Model_least, .ref a_Model_ways, .int Model_thenCost, .int Model_thenWays, .int Model_bothCost, .int Model_bothWays, .ref a_Model_handOf, .ref a_Model_crossedAt, .ref a_Model_strokeOf, .ref a_Model_prices, .ref a_Model_hitAt, .ref a_Model_carried])), (a_Model_now, .inl (cI, 187, .inl Model_now)), (a_Model_past, .inl (cI, 3740, .inl Model_past))] s.heap.size = A at hD hE ⊢
  have hA : ∀ q : Nat, s.heap.size ≤ q → A q := fun q h => by rw [← hAe]; exact Or.inr h
  clear hAe hD0
  have hS : va_S A s.heap s.heap [] := va_S.rf
  have hK := hE.1
  have hl := lv_entry ([.ref a_Model, .int p1, .int p2]) (n := 4) (Nat.le_of_ble_eq_true rfl)
  rw [lg_entry_eq]
  generalize (lg_sl ([.ref a_Model, .int p1, .int p2]) ++ List.replicate (4 - (lg_sl ([.ref a_Model, .int p1, .int p2])).length) Slot.unset).toArray = ls at hl ⊢
  have hl : lv_has ls 4 [(0, .ref a_Model), (1, .int p1), (2, .int p2)] := hl
  refine w_q (fun Q9 hQ9 => ?_)
  have fl9 := hts (.fieldLink RX11 9 "StickRoomModel" "now" "[I") (by decide +kernel)
  have inX11 : ∀ w ∈ wsX110, w ∈ wsX11_bass := by decide +kernel
  have kc70 := hts (.constant RX11 70 (-100001)) (by decide +kernel)
  have hJ51 : ∀ (l3 k1 k2 : Int32) (Model_now Model_past : Nat → Int32) (Model_kept Model_findings : Int32) (H : Heap) (locs : List Loc) (ls : Array Slot), va_P D vwCl [(a_Model, .inr (11, [.ref a_Model_now, .ref a_Model_past, .int Model_kept, .int Model_findings, .ref a_Model_bits, .ref a_Model_sizes, .ref a_Model_sheets, .ref a_Model_least, .ref a_Model_ways, .int Model_thenCost, .int Model_thenWays, .int Model_bothCost, .int Model_bothWays, .ref a_Model_handOf, .ref a_Model_crossedAt, .ref a_Model_strokeOf, .ref a_Model_prices, .ref a_Model_hitAt, .ref a_Model_carried])), (a_Model_now, .inl (cI, 187, .inl Model_now)), (a_Model_past, .inl (cI, 3740, .inl Model_past))] H → va_D A [(a_Model, .inr (11, [.ref a_Model_now, .ref a_Model_past, .int Model_kept, .int Model_findings, .ref a_Model_bits, .ref a_Model_sizes, .ref a_Model_sheets, .ref a_Model_least, .ref a_Model_ways, .int Model_thenCost, .int Model_thenWays, .int Model_bothCost, .int Model_bothWays, .ref a_Model_handOf, .ref a_Model_crossedAt, .ref a_Model_strokeOf, .ref a_Model_prices, .ref a_Model_hitAt, .ref a_Model_carried])), (a_Model_now, .inl (cI, 187, .inl Model_now)), (a_Model_past, .inl (cI, 3740, .inl Model_past))] → va_S A s.heap H locs → lv_has ls 4 [(0, .ref a_Model), (3, .int l3)] → f_Model_bass_51 l3 k1 k2 Model_now Model_past Model_kept Model_findings = some (zr, z_Model_now, z_Model_past, z_Model_kept, z_Model_findings) → W p l e (headSpec wsX11_bass rm_Model_bass).room s m ([.ref a_Model, .int p1, .int p2] : List Value).toArray below meth c H locs 0 0 Q9 (F0 m 51 ls [.int k2, .int k1, .ref a_Model_now]) := by
    intro l3 k1 k2 Model_now Model_past Model_kept Model_findings H locs ls hP hD hS hl hf
    unfold f_Model_bass_51 at hf
    obtain ⟨i1, hf⟩ := ck_s hf
    refine va_iast hx hb hK hP hD hS 1 0 rfl rfl i1 dX11_bass_51 (fun H locs hP hD hS => ?_)
    have hP : va_P D vwCl [(a_Model, .inr (11, [.ref a_Model_now, .ref a_Model_past, .int Model_kept, .int Model_findings, .ref a_Model_bits, .ref a_Model_sizes, .ref a_Model_sheets, .ref a_Model_least, .ref a_Model_ways, .int Model_thenCost, .int Model_thenWays, .int Model_bothCost, .int Model_bothWays, .ref a_Model_handOf, .ref a_Model_crossedAt, .ref a_Model_strokeOf, .ref a_Model_prices, .ref a_Model_hitAt, .ref a_Model_carried])), (a_Model_now, .inl (cI, 187, .inl (upd Model_now k1.toNatClampNeg k2))), (a_Model_past, .inl (cI, 3740, .inl Model_past))] H := hP
    have hD : va_D A [(a_Model, .inr (11, [.ref a_Model_now, .ref a_Model_past, .int Model_kept, .int Model_findings, .ref a_Model_bits, .ref a_Model_sizes, .ref a_Model_sheets, .ref a_Model_least, .ref a_Model_ways, .int Model_thenCost, .int Model_thenWays, .int Model_bothCost, .int Model_bothWays, .ref a_Model_handOf, .ref a_Model_crossedAt, .ref a_Model_strokeOf, .ref a_Model_prices, .ref a_Model_hitAt, .ref a_Model_carried])), (a_Model_now, .inl (cI, 187, .inl (upd Model_now k1.toNatClampNeg k2))), (a_Model_past, .inl (cI, 3740, .inl Model_past))] := hD
    refine lv_iload_n hx hb dX11_bass_52 rfl (lv_at hl 1 rfl) ?_
    refine lv_aload_n hx hb dX11_bass_53 rfl (lv_at hl 0 rfl) ?_
    refine va_get (D := D) (ci := 11) (v := .ref a_Model_now) (C := RX11) (T := TX11) (N := 19) hx hb hts inX11 hown hK hP 0 rfl rfl 0 (by decide) fl9 (fun _ h9 => h9) rfl dX11_bass_54 ?_
    refine lv_iconst (v := 1) hx hb dX11_bass_57 (by decide) ?_
    obtain ⟨ix2, x2, ex2, hf⟩ := rd_s hf
    refine va_iald hx hb hK hP 1 0 rfl rfl ix2 dX11_bass_58 ?_
    refine lv_tpx ex2 ?_
    refine lv_icmp_ne (tgt := 66) hx hb dX11_bass_59 (by decide) (fun c3 => ?_) (fun c3 => ?_)
    · have hf := ite_f c3 hf
      refine lv_iconst (v := 1) hx hb dX11_bass_66 (by decide) ?_
      cases hf
      exact k_iret () hQ9 hx hb hr hlocks rfl hP hD hS (Nat.le_of_ble_eq_true rfl) (Nat.le_of_ble_eq_true rfl) dX11_bass_67
    · have hf := ite_t c3 hf
      refine lv_iconst (v := 0) hx hb dX11_bass_62 (by decide) ?_
      refine lv_goto (tgt := 67) hx hb dX11_bass_63 (by decide) ?_
      cases hf
      exact k_iret () hQ9 hx hb hr hlocks rfl hP hD hS (Nat.le_of_ble_eq_true rfl) (Nat.le_of_ble_eq_true rfl) dX11_bass_67
  unfold f_Model_bass at hf
  refine lv_iload_n hx hb dX11_bass_0 rfl (lv_at hl 1 rfl) ?_
  refine lv_iconst (v := 0) hx hb dX11_bass_1 (by decide) ?_
  refine lv_iconst (v := 4) hx hb dX11_bass_2 (by decide) ?_
  obtain ⟨r4, g5, hf⟩ := b1_s hf
  refine k_Si (rest := []) ⟨hx, hb, hml, hown, hts⟩ (c_Model_within l D cI cZ t  s.heap.size p1 0 4 r4 g5) (va_cwS 3 hts gX11_bass_X11_within rfl rfl rfl (by decide +kernel) ⟨Nat.le_of_ble_eq_true rfl, Nat.le_of_ble_eq_true rfl⟩) hE hP hD hS hA [] [0, 1, 2] rfl rfl rfl rfl rfl rfl hl.1 rfl (Nat.le_of_ble_eq_true rfl) dX11_bass_3 ⟨Nat.le_of_ble_eq_true rfl, Nat.le_of_ble_eq_true rfl⟩ (fun rq uq H locs hrq hP hD hS => ?_)
  refine lv_tpx hrq.symm ?_
  have hP : va_P D vwCl [(a_Model, .inr (11, [.ref a_Model_now, .ref a_Model_past, .int Model_kept, .int Model_findings, .ref a_Model_bits, .ref a_Model_sizes, .ref a_Model_sheets, .ref a_Model_least, .ref a_Model_ways, .int Model_thenCost, .int Model_thenWays, .int Model_bothCost, .int Model_bothWays, .ref a_Model_handOf, .ref a_Model_crossedAt, .ref a_Model_strokeOf, .ref a_Model_prices, .ref a_Model_hitAt, .ref a_Model_carried])), (a_Model_now, .inl (cI, 187, .inl Model_now)), (a_Model_past, .inl (cI, 3740, .inl Model_past))] H := hP
  have hD : va_D A [(a_Model, .inr (11, [.ref a_Model_now, .ref a_Model_past, .int Model_kept, .int Model_findings, .ref a_Model_bits, .ref a_Model_sizes, .ref a_Model_sheets, .ref a_Model_least, .ref a_Model_ways, .int Model_thenCost, .int Model_thenWays, .int Model_bothCost, .int Model_bothWays, .ref a_Model_handOf, .ref a_Model_crossedAt, .ref a_Model_strokeOf, .ref a_Model_prices, .ref a_Model_hitAt, .ref a_Model_carried])), (a_Model_now, .inl (cI, 187, .inl Model_now)), (a_Model_past, .inl (cI, 3740, .inl Model_past))] := hD
  refine lv_if_ne (tgt := 16) hx hb dX11_bass_6 (by decide) (fun c6 => ?_) (fun c6 => ?_)
  · have hf := ite_f c6 hf
    refine lv_aload_n hx hb dX11_bass_16 rfl (lv_at hl 0 rfl) ?_
    obtain ⟨y7, y8, g9, hf⟩ := b2_s hf
    refine k_Vv (rest := []) ⟨hx, hb, hml, hown, hts⟩ (c_Model_keep l D cI cZ t a_Model a_Model_now a_Model_past a_Model_bits a_Model_sizes a_Model_sheets a_Model_least a_Model_ways a_Model_handOf a_Model_crossedAt a_Model_strokeOf a_Model_prices a_Model_hitAt a_Model_carried H.size Model_now Model_past Model_kept Model_findings Model_thenCost Model_thenWays Model_bothCost Model_bothWays y7 y8 g9) (cwV 0 hts gX11_bass_X11_keep rfl rfl rfl (by decide +kernel) ⟨Nat.le_of_ble_eq_true rfl, Nat.le_of_ble_eq_true rfl⟩) hE hP hD hS hA [0, 1, 2] [] rfl rfl rfl rfl rfl 0 11 rfl rfl rfl rfl hl.1 rfl (Nat.le_of_ble_eq_true rfl) dX11_bass_17 ⟨Nat.le_of_ble_eq_true rfl, Nat.le_of_ble_eq_true rfl⟩ (fun uq H locs hrq hP hD hS => ?_)
    have hP : va_P D vwCl [(a_Model, .inr (11, [.ref a_Model_now, .ref a_Model_past, .int y8, .int Model_findings, .ref a_Model_bits, .ref a_Model_sizes, .ref a_Model_sheets, .ref a_Model_least, .ref a_Model_ways, .int Model_thenCost, .int Model_thenWays, .int Model_bothCost, .int Model_bothWays, .ref a_Model_handOf, .ref a_Model_crossedAt, .ref a_Model_strokeOf, .ref a_Model_prices, .ref a_Model_hitAt, .ref a_Model_carried])), (a_Model_now, .inl (cI, 187, .inl Model_now)), (a_Model_past, .inl (cI, 3740, .inl y7))] H := hP
    have hD : va_D A [(a_Model, .inr (11, [.ref a_Model_now, .ref a_Model_past, .int y8, .int Model_findings, .ref a_Model_bits, .ref a_Model_sizes, .ref a_Model_sheets, .ref a_Model_least, .ref a_Model_ways, .int Model_thenCost, .int Model_thenWays, .int Model_bothCost, .int Model_bothWays, .ref a_Model_handOf, .ref a_Model_crossedAt, .ref a_Model_strokeOf, .ref a_Model_prices, .ref a_Model_hitAt, .ref a_Model_carried])), (a_Model_now, .inl (cI, 187, .inl Model_now)), (a_Model_past, .inl (cI, 3740, .inl y7))] := hD
    refine lv_aload_n hx hb dX11_bass_20 rfl (lv_at hl 0 rfl) ?_
    refine va_get (D := D) (ci := 11) (v := .ref a_Model_now) (C := RX11) (T := TX11) (N := 19) hx hb hts inX11 hown hK hP 0 rfl rfl 0 (by decide) fl9 (fun _ h9 => h9) rfl dX11_bass_21 ?_
    refine lv_iconst (v := 1) hx hb dX11_bass_24 (by decide) ?_
    obtain ⟨ix10, x10, ex10, hf⟩ := rd_s hf
    refine va_iald hx hb hK hP 1 0 rfl rfl ix10 dX11_bass_25 ?_
    refine lv_tpx ex10 ?_
    refine lv_istore_n (lv' := [(3, .int x10), (0, .ref a_Model), (1, .int p1), (2, .int p2)]) hx hb dX11_bass_26 rfl hl (by decide) rfl (fun ls hl => ?_)
    refine lv_aload_n hx hb dX11_bass_27 rfl (lv_at hl 1 rfl) ?_
    refine va_get (D := D) (ci := 11) (v := .ref a_Model_now) (C := RX11) (T := TX11) (N := 19) hx hb hts inX11 hown hK hP 0 rfl rfl 0 (by decide) fl9 (fun _ h9 => h9) rfl dX11_bass_28 ?_
    refine lv_iconst (v := 1) hx hb dX11_bass_31 (by decide) ?_
    refine lv_iload_n hx hb dX11_bass_32 rfl (lv_at hl 3 rfl) ?_
    refine lv_if_eq (tgt := 44) hx hb dX11_bass_33 (by decide) (fun c11 => ?_) (fun c11 => ?_)
    · have hf := ite_t c11 hf
      refine lv_iload_n hx hb dX11_bass_44 rfl (lv_at hl 0 rfl) ?_
      refine lv_iconst (v := 1) hx hb dX11_bass_45 (by decide) ?_
      refine lv_iload_n hx hb dX11_bass_46 rfl (lv_at hl 2 rfl) ?_
      refine lv_ishl hx hb dX11_bass_47 ?_
      obtain ⟨x12, ex12, hf⟩ := nm_s hf
      refine lv_tpx ex12 ?_
      refine lv_iconst (v := (-1)) hx hb dX11_bass_48 (by decide) ?_
      refine lv_ixor hx hb dX11_bass_49 ?_
      refine lv_iand hx hb dX11_bass_50 ?_
      exact hJ51 x10 1 (x10 &&& (x12 ^^^ (-1))) Model_now y7 y8 Model_findings H locs ls hP hD hS (lv_sub hl [1, 0] rfl) hf
    · have hf := ite_f c11 hf
      refine lv_iload_n hx hb dX11_bass_36 rfl (lv_at hl 0 rfl) ?_
      refine lv_iconst (v := 1) hx hb dX11_bass_37 (by decide) ?_
      refine lv_iload_n hx hb dX11_bass_38 rfl (lv_at hl 2 rfl) ?_
      refine lv_ishl hx hb dX11_bass_39 ?_
      obtain ⟨x13, ex13, hf⟩ := nm_s hf
      refine lv_tpx ex13 ?_
      refine lv_ior hx hb dX11_bass_40 ?_
      refine lv_goto (tgt := 51) hx hb dX11_bass_41 (by decide) ?_
      exact hJ51 x10 1 (x10 ||| x13) Model_now y7 y8 Model_findings H locs ls hP hD hS (lv_sub hl [1, 0] rfl) hf
  · have hf := ite_t c6 hf
    refine lv_aload_n hx hb dX11_bass_9 rfl (lv_at hl 0 rfl) ?_
    refine lv_ldc (v := (-100001)) hx hb hown kc70 dX11_bass_10 ?_
    obtain ⟨r14, y15, g16, hf⟩ := b2_s hf
    refine k_Vi (rest := []) ⟨hx, hb, hml, hown, hts⟩ (c_Model_finding l D cI cZ t a_Model a_Model_now a_Model_past a_Model_bits a_Model_sizes a_Model_sheets a_Model_least a_Model_ways a_Model_handOf a_Model_crossedAt a_Model_strokeOf a_Model_prices a_Model_hitAt a_Model_carried H.size Model_findings Model_kept Model_thenCost Model_thenWays Model_bothCost Model_bothWays (-100001) r14 y15 g16) (cwV 1 hts gX11_bass_X11_finding rfl rfl rfl (by decide +kernel) ⟨Nat.le_of_ble_eq_true rfl, Nat.le_of_ble_eq_true rfl⟩) hE hP hD hS hA [0] [1, 2] rfl rfl rfl rfl rfl 0 11 rfl rfl rfl rfl hl.1 rfl (Nat.le_of_ble_eq_true rfl) dX11_bass_12 ⟨Nat.le_of_ble_eq_true rfl, Nat.le_of_ble_eq_true rfl⟩ (fun rq uq H locs hrq hP hD hS => ?_)
    refine lv_tpx hrq.symm ?_
    have hP : va_P D vwCl [(a_Model_now, .inl (cI, 187, .inl Model_now)), (a_Model_past, .inl (cI, 3740, .inl Model_past)), (a_Model, .inr (11, [.ref a_Model_now, .ref a_Model_past, .int Model_kept, .int y15, .ref a_Model_bits, .ref a_Model_sizes, .ref a_Model_sheets, .ref a_Model_least, .ref a_Model_ways, .int Model_thenCost, .int Model_thenWays, .int Model_bothCost, .int Model_bothWays, .ref a_Model_handOf, .ref a_Model_crossedAt, .ref a_Model_strokeOf, .ref a_Model_prices, .ref a_Model_hitAt, .ref a_Model_carried]))] H := hP
    have hD : va_D A [(a_Model_now, .inl (cI, 187, .inl Model_now)), (a_Model_past, .inl (cI, 3740, .inl Model_past)), (a_Model, .inr (11, [.ref a_Model_now, .ref a_Model_past, .int Model_kept, .int y15, .ref a_Model_bits, .ref a_Model_sizes, .ref a_Model_sheets, .ref a_Model_least, .ref a_Model_ways, .int Model_thenCost, .int Model_thenWays, .int Model_bothCost, .int Model_bothWays, .ref a_Model_handOf, .ref a_Model_crossedAt, .ref a_Model_strokeOf, .ref a_Model_prices, .ref a_Model_hitAt, .ref a_Model_carried]))] := hD
    cases hf
    exact k_iret () hQ9 hx hb hr hlocks rfl (hP.sub [2, 0, 1] rfl) (hD.sub [2, 0, 1] (by decide) rfl) hS (Nat.le_of_ble_eq_true rfl) (Nat.le_of_ble_eq_true rfl) dX11_bass_15
abbrev rm_Model_tooFast : Room := { frames := 1, cells := 0, slots := 0, locals := 24 }
set_option maxHeartbeats 4000000 in
set_option maxRecDepth 100000 in
theorem c_Model_tooFast (l : Launch) (D : va_G) (cI cZ : ClassId) (t : Nat → Nat) (a_Model a_Model_now a_Model_past a_Model_bits a_Model_sizes a_Model_sheets a_Model_least a_Model_ways a_Model_handOf a_Model_crossedAt a_Model_strokeOf a_Model_prices a_Model_hitAt a_Model_carried sz : Nat) (Model_now : Nat → Int32) (Model_kept Model_findings Model_thenCost Model_thenWays Model_bothCost Model_bothWays p1 p2 p3 zr : Int32) (hf : f_Model_tooFast Model_now p1 p2 p3 = some zr) : Met l yX11_tooFast wsX11_tooFast rm_Model_tooFast (va_Pc [.ref a_Model, .int p1, .int p2, .int p3] (pcW D cI cZ t [(a_Model, .inr (11, [.ref a_Model_now, .ref a_Model_past, .int Model_kept, .int Model_findings, .ref a_Model_bits, .ref a_Model_sizes, .ref a_Model_sheets, .ref a_Model_least, .ref a_Model_ways, .int Model_thenCost, .int Model_thenWays, .int Model_bothCost, .int Model_bothWays, .ref a_Model_handOf, .ref a_Model_crossedAt, .ref a_Model_strokeOf, .ref a_Model_prices, .ref a_Model_hitAt, .ref a_Model_carried])), (a_Model_now, .inl (cI, 187, .inl Model_now))] sz)) (va_Qi (fun r (u : Unit) => r = zr) (fun u t' => bW D (va_A [(a_Model, .inr (11, [.ref a_Model_now, .ref a_Model_past, .int Model_kept, .int Model_findings, .ref a_Model_bits, .ref a_Model_sizes, .ref a_Model_sheets, .ref a_Model_least, .ref a_Model_ways, .int Model_thenCost, .int Model_thenWays, .int Model_bothCost, .int Model_bothWays, .ref a_Model_handOf, .ref a_Model_crossedAt, .ref a_Model_strokeOf, .ref a_Model_prices, .ref a_Model_hitAt, .ref a_Model_carried])), (a_Model_now, .inl (cI, 187, .inl Model_now))] sz) [(a_Model, .inr (11, [.ref a_Model_now, .ref a_Model_past, .int Model_kept, .int Model_findings, .ref a_Model_bits, .ref a_Model_sizes, .ref a_Model_sheets, .ref a_Model_least, .ref a_Model_ways, .int Model_thenCost, .int Model_thenWays, .int Model_bothCost, .int Model_bothWays, .ref a_Model_handOf, .ref a_Model_crossedAt, .ref a_Model_strokeOf, .ref a_Model_prices, .ref a_Model_hitAt, .ref a_Model_carried])), (a_Model_now, .inl (cI, 187, .inl Model_now))] t') (va_A [(a_Model, .inr (11, [.ref a_Model_now, .ref a_Model_past, .int Model_kept, .int Model_findings, .ref a_Model_bits, .ref a_Model_sizes, .ref a_Model_sheets, .ref a_Model_least, .ref a_Model_ways, .int Model_thenCost, .int Model_thenWays, .int Model_bothCost, .int Model_bothWays, .ref a_Model_handOf, .ref a_Model_crossedAt, .ref a_Model_strokeOf, .ref a_Model_prices, .ref a_Model_hitAt, .ref a_Model_carried])), (a_Model_now, .inl (cI, 187, .inl Model_now))] sz)) 0 0 (va_A [(a_Model, .inr (11, [.ref a_Model_now, .ref a_Model_past, .int Model_kept, .int Model_findings, .ref a_Model_bits, .ref a_Model_sizes, .ref a_Model_sheets, .ref a_Model_least, .ref a_Model_ways, .int Model_thenCost, .int Model_thenWays, .int Model_bothCost, .int Model_bothWays, .ref a_Model_handOf, .ref a_Model_crossedAt, .ref a_Model_strokeOf, .ref a_Model_prices, .ref a_Model_hitAt, .ref a_Model_carried])), (a_Model_now, .inl (cI, 187, .inl Model_now))] sz) := by
  refine Met.ofW (cc := cX11_tooFast) (maxL := 8) (ret := (some .int)) (by decide) rfl ?_
  intro p e s m args below meth c s₁ B hml hv
  obtain ⟨rfl, hsz, hP, hD0, hE⟩ := hv
  have hx := B.exec
  have hb := B.bytes
  have hr := B.returns
  have hts := atoms_spec (ws := wsX11_tooFast) B.pre
  have hown : s.vm.findClass RX11 = some m.cls := findClass_of_methodNamed B.named
  have hlocks := B.notSynchronized
  subst hsz
  have hD := hD0.self (sz := s.heap.size)
  generalize hAe : va_A [(a_Model, .inr (11, [.ref a_Model_now, .ref a_Model_past, .int Model_kept, .int Model_findings, .ref a_Model_bits, .ref a_Model_sizes, .ref a_Model_sheets, .ref a_Model_least, .ref a_Model_ways, .int Model_thenCost, .int Model_thenWays, .int Model_bothCost, .int Model_bothWays, .ref a_Model_handOf, .ref a_Model_crossedAt, .ref a_Model_strokeOf, .ref a_Model_prices, .ref a_Model_hitAt, .ref a_Model_carried])), (a_Model_now, .inl (cI, 187, .inl Model_now))] s.heap.size = A at hD hE ⊢
  have hA : ∀ q : Nat, s.heap.size ≤ q → A q := fun q h => by rw [← hAe]; exact Or.inr h
  clear hAe hD0
  have hS : va_S A s.heap s.heap [] := va_S.rf
  have hK := hE.1
  have hl := lv_entry ([.ref a_Model, .int p1, .int p2, .int p3]) (n := 8) (Nat.le_of_ble_eq_true rfl)
  rw [lg_entry_eq]
  generalize (lg_sl ([.ref a_Model, .int p1, .int p2, .int p3]) ++ List.replicate (8 - (lg_sl ([.ref a_Model, .int p1, .int p2, .int p3])).length) Slot.unset).toArray = ls at hl ⊢
  have hl : lv_has ls 8 [(0, .ref a_Model), (1, .int p1), (2, .int p2), (3, .int p3)] := hl
  refine w_q (fun Q9 hQ9 => ?_)
  have fl9 := hts (.fieldLink RX11 9 "StickRoomModel" "now" "[I") (by decide +kernel)
  have inX11 : ∀ w ∈ wsX110, w ∈ wsX11_tooFast := by decide +kernel
  have hL6 : ∀ (n6 : Nat) (l1 l2 l3 l4 l5 : Int32) (H : Heap) (locs : List Loc) (ls : Array Slot), va_P D vwCl [(a_Model, .inr (11, [.ref a_Model_now, .ref a_Model_past, .int Model_kept, .int Model_findings, .ref a_Model_bits, .ref a_Model_sizes, .ref a_Model_sheets, .ref a_Model_least, .ref a_Model_ways, .int Model_thenCost, .int Model_thenWays, .int Model_bothCost, .int Model_bothWays, .ref a_Model_handOf, .ref a_Model_crossedAt, .ref a_Model_strokeOf, .ref a_Model_prices, .ref a_Model_hitAt, .ref a_Model_carried])), (a_Model_now, .inl (cI, 187, .inl Model_now))] H → va_D A [(a_Model, .inr (11, [.ref a_Model_now, .ref a_Model_past, .int Model_kept, .int Model_findings, .ref a_Model_bits, .ref a_Model_sizes, .ref a_Model_sheets, .ref a_Model_least, .ref a_Model_ways, .int Model_thenCost, .int Model_thenWays, .int Model_bothCost, .int Model_bothWays, .ref a_Model_handOf, .ref a_Model_crossedAt, .ref a_Model_strokeOf, .ref a_Model_prices, .ref a_Model_hitAt, .ref a_Model_carried])), (a_Model_now, .inl (cI, 187, .inl Model_now))] → va_S A s.heap H locs → lv_has ls 8 [(0, .ref a_Model), (1, .int l1), (2, .int l2), (3, .int l3), (4, .int l4), (5, .int l5)] → f_Model_tooFast_6 Model_now  n6 l1 l2 l3 l4 l5 = some zr → W p l e (headSpec wsX11_tooFast rm_Model_tooFast).room s m ([.ref a_Model, .int p1, .int p2, .int p3] : List Value).toArray below meth c H locs 0 0 Q9 (F0 m 6 ls []) := by
    intro n6
    induction n6 with
    | zero => intro l1 l2 l3 l4 l5 H locs ls hP hD hS hl hf; exact nomatch (show none = some zr from hf)
    | succ n6 ih6 =>
      have hJ55 : ∀ (l1 l2 l3 l4 l5 l7 : Int32) (H : Heap) (locs : List Loc) (ls : Array Slot), va_P D vwCl [(a_Model, .inr (11, [.ref a_Model_now, .ref a_Model_past, .int Model_kept, .int Model_findings, .ref a_Model_bits, .ref a_Model_sizes, .ref a_Model_sheets, .ref a_Model_least, .ref a_Model_ways, .int Model_thenCost, .int Model_thenWays, .int Model_bothCost, .int Model_bothWays, .ref a_Model_handOf, .ref a_Model_crossedAt, .ref a_Model_strokeOf, .ref a_Model_prices, .ref a_Model_hitAt, .ref a_Model_carried])), (a_Model_now, .inl (cI, 187, .inl Model_now))] H → va_D A [(a_Model, .inr (11, [.ref a_Model_now, .ref a_Model_past, .int Model_kept, .int Model_findings, .ref a_Model_bits, .ref a_Model_sizes, .ref a_Model_sheets, .ref a_Model_least, .ref a_Model_ways, .int Model_thenCost, .int Model_thenWays, .int Model_bothCost, .int Model_bothWays, .ref a_Model_handOf, .ref a_Model_crossedAt, .ref a_Model_strokeOf, .ref a_Model_prices, .ref a_Model_hitAt, .ref a_Model_carried])), (a_Model_now, .inl (cI, 187, .inl Model_now))] → va_S A s.heap H locs → lv_has ls 8 [(0, .ref a_Model), (1, .int l1), (2, .int l2), (3, .int l3), (4, .int l4), (5, .int l5), (7, .int l7)] → f_Model_tooFast_55 Model_now (f_Model_tooFast_6 Model_now  n6) l1 l2 l3 l4 l5 l7 = some zr → W p l e (headSpec wsX11_tooFast rm_Model_tooFast).room s m ([.ref a_Model, .int p1, .int p2, .int p3] : List Value).toArray below meth c H locs 0 0 Q9 (F0 m 55 ls []) := by
        intro l1 l2 l3 l4 l5 l7 H locs ls hP hD hS hl hf
        unfold f_Model_tooFast_55 at hf
        refine lv_iload hx hb dX11_tooFast_55 (lv_at hl 4 rfl) ?_
        refine lv_iload hx hb dX11_tooFast_57 (lv_at hl 6 rfl) ?_
        refine lv_iload_n hx hb dX11_tooFast_59 rfl (lv_at hl 1 rfl) ?_
        refine lv_icmp_lt (tgt := 99) hx hb dX11_tooFast_60 (by decide) (fun c1 => ?_) (fun c1 => ?_)
        · have hf := ite_t c1 hf
          refine lv_iconst (v := 0) hx hb dX11_tooFast_99 (by decide) ?_
          refine lv_iadd hx hb dX11_tooFast_100 ?_
          obtain ⟨x2, ex2, hf⟩ := nm_s hf
          refine lv_tpx ex2 ?_
          refine lv_istore (lv' := [(4, .int x2), (0, .ref a_Model), (1, .int l1), (2, .int l2), (3, .int l3), (5, .int l5), (7, .int l7)]) hx hb dX11_tooFast_101 hl (by decide) rfl (fun ls hl => ?_)
          obtain ⟨x3, ex3, hf⟩ := nm_s hf
          refine lv_iinc (v := x3) (lv' := [(5, .int x3), (4, .int x2), (0, .ref a_Model), (1, .int l1), (2, .int l2), (3, .int l3), (7, .int l7)]) hx hb dX11_tooFast_103 hl (k := 5) rfl (by rw [ex3]; rfl) (by decide) rfl (fun ls hl => ?_)
          refine lv_goto (tgt := 6) hx hb dX11_tooFast_106 (by decide) ?_
          exact ih6 l1 l2 l3 x2 x3 H locs ls hP hD hS (lv_sub hl [2, 3, 4, 5, 1, 0] rfl) hf
        · have hf := ite_f c1 hf
          refine lv_aload_n hx hb dX11_tooFast_63 rfl (lv_at hl 0 rfl) ?_
          refine va_get (D := D) (ci := 11) (v := .ref a_Model_now) (C := RX11) (T := TX11) (N := 19) hx hb hts inX11 hown hK hP 0 rfl rfl 0 (by decide) fl9 (fun _ h9 => h9) rfl dX11_tooFast_64 ?_
          refine lv_bipush (v := 27) hx hb dX11_tooFast_67 (by decide) ?_
          refine lv_iload hx hb dX11_tooFast_69 (lv_at hl 5 rfl) ?_
          refine lv_iadd hx hb dX11_tooFast_71 ?_
          obtain ⟨ix4, x4, ex4, hf⟩ := rd_s hf
          refine va_iald hx hb hK hP 1 0 rfl rfl ix4 dX11_tooFast_72 ?_
          refine lv_tpx ex4 ?_
          refine lv_aload_n hx hb dX11_tooFast_73 rfl (lv_at hl 0 rfl) ?_
          refine va_get (D := D) (ci := 11) (v := .ref a_Model_now) (C := RX11) (T := TX11) (N := 19) hx hb hts inX11 hown hK hP 0 rfl rfl 0 (by decide) fl9 (fun _ h9 => h9) rfl dX11_tooFast_74 ?_
          refine lv_bipush (v := 27) hx hb dX11_tooFast_77 (by decide) ?_
          refine lv_iload hx hb dX11_tooFast_79 (lv_at hl 6 rfl) ?_
          refine lv_iadd hx hb dX11_tooFast_81 ?_
          obtain ⟨ix5, x5, ex5, hf⟩ := rd_s hf
          refine va_iald hx hb hK hP 1 0 rfl rfl ix5 dX11_tooFast_82 ?_
          refine lv_tpx ex5 ?_
          refine lv_isub hx hb dX11_tooFast_83 ?_
          refine lv_iconst (v := 2) hx hb dX11_tooFast_84 (by decide) ?_
          refine lv_aload_n hx hb dX11_tooFast_85 rfl (lv_at hl 0 rfl) ?_
          refine va_get (D := D) (ci := 11) (v := .ref a_Model_now) (C := RX11) (T := TX11) (N := 19) hx hb hts inX11 hown hK hP 0 rfl rfl 0 (by decide) fl9 (fun _ h9 => h9) rfl dX11_tooFast_86 ?_
          refine lv_iconst (v := 2) hx hb dX11_tooFast_89 (by decide) ?_
          obtain ⟨ix6, x6, ex6, hf⟩ := rd_s hf
          refine va_iald hx hb hK hP 1 0 rfl rfl ix6 dX11_tooFast_90 ?_
          refine lv_tpx ex6 ?_
          refine lv_imul hx hb dX11_tooFast_91 ?_
          refine lv_icmp_ge (tgt := 99) hx hb dX11_tooFast_92 (by decide) (fun c7 => ?_) (fun c7 => ?_)
          · have hf := ite_t c7 hf
            refine lv_iconst (v := 0) hx hb dX11_tooFast_99 (by decide) ?_
            refine lv_iadd hx hb dX11_tooFast_100 ?_
            obtain ⟨x8, ex8, hf⟩ := nm_s hf
            refine lv_tpx ex8 ?_
            refine lv_istore (lv' := [(4, .int x8), (0, .ref a_Model), (1, .int l1), (2, .int l2), (3, .int l3), (5, .int l5), (7, .int l7)]) hx hb dX11_tooFast_101 hl (by decide) rfl (fun ls hl => ?_)
            obtain ⟨x9, ex9, hf⟩ := nm_s hf
            refine lv_iinc (v := x9) (lv' := [(5, .int x9), (4, .int x8), (0, .ref a_Model), (1, .int l1), (2, .int l2), (3, .int l3), (7, .int l7)]) hx hb dX11_tooFast_103 hl (k := 5) rfl (by rw [ex9]; rfl) (by decide) rfl (fun ls hl => ?_)
            refine lv_goto (tgt := 6) hx hb dX11_tooFast_106 (by decide) ?_
            exact ih6 l1 l2 l3 x8 x9 H locs ls hP hD hS (lv_sub hl [2, 3, 4, 5, 1, 0] rfl) hf
          · have hf := ite_f c7 hf
            refine lv_iconst (v := 1) hx hb dX11_tooFast_95 (by decide) ?_
            refine lv_goto (tgt := 100) hx hb dX11_tooFast_96 (by decide) ?_
            refine lv_iadd hx hb dX11_tooFast_100 ?_
            obtain ⟨x10, ex10, hf⟩ := nm_s hf
            refine lv_tpx ex10 ?_
            refine lv_istore (lv' := [(4, .int x10), (0, .ref a_Model), (1, .int l1), (2, .int l2), (3, .int l3), (5, .int l5), (7, .int l7)]) hx hb dX11_tooFast_101 hl (by decide) rfl (fun ls hl => ?_)
            obtain ⟨x11, ex11, hf⟩ := nm_s hf
            refine lv_iinc (v := x11) (lv' := [(5, .int x11), (4, .int x10), (0, .ref a_Model), (1, .int l1), (2, .int l2), (3, .int l3), (7, .int l7)]) hx hb dX11_tooFast_103 hl (k := 5) rfl (by rw [ex11]; rfl) (by decide) rfl (fun ls hl => ?_)
            refine lv_goto (tgt := 6) hx hb dX11_tooFast_106 (by decide) ?_
            exact ih6 l1 l2 l3 x10 x11 H locs ls hP hD hS (lv_sub hl [2, 3, 4, 5, 1, 0] rfl) hf
      have hL29 : ∀ (n29 : Nat) (l1 l2 l3 l4 l5 l6 l7 : Int32) (H : Heap) (locs : List Loc) (ls : Array Slot), va_P D vwCl [(a_Model, .inr (11, [.ref a_Model_now, .ref a_Model_past, .int Model_kept, .int Model_findings, .ref a_Model_bits, .ref a_Model_sizes, .ref a_Model_sheets, .ref a_Model_least, .ref a_Model_ways, .int Model_thenCost, .int Model_thenWays, .int Model_bothCost, .int Model_bothWays, .ref a_Model_handOf, .ref a_Model_crossedAt, .ref a_Model_strokeOf, .ref a_Model_prices, .ref a_Model_hitAt, .ref a_Model_carried])), (a_Model_now, .inl (cI, 187, .inl Model_now))] H → va_D A [(a_Model, .inr (11, [.ref a_Model_now, .ref a_Model_past, .int Model_kept, .int Model_findings, .ref a_Model_bits, .ref a_Model_sizes, .ref a_Model_sheets, .ref a_Model_least, .ref a_Model_ways, .int Model_thenCost, .int Model_thenWays, .int Model_bothCost, .int Model_bothWays, .ref a_Model_handOf, .ref a_Model_crossedAt, .ref a_Model_strokeOf, .ref a_Model_prices, .ref a_Model_hitAt, .ref a_Model_carried])), (a_Model_now, .inl (cI, 187, .inl Model_now))] → va_S A s.heap H locs → lv_has ls 8 [(0, .ref a_Model), (1, .int l1), (2, .int l2), (3, .int l3), (4, .int l4), (5, .int l5), (6, .int l6), (7, .int l7)] → f_Model_tooFast_29 Model_now (f_Model_tooFast_6 Model_now  n6) n29 l1 l2 l3 l4 l5 l6 l7 = some zr → W p l e (headSpec wsX11_tooFast rm_Model_tooFast).room s m ([.ref a_Model, .int p1, .int p2, .int p3] : List Value).toArray below meth c H locs 0 0 Q9 (F0 m 29 ls []) := by
        intro n29
        induction n29 with
        | zero => intro l1 l2 l3 l4 l5 l6 l7 H locs ls hP hD hS hl hf; exact nomatch (show none = some zr from hf)
        | succ n29 ih29 =>
          intro l1 l2 l3 l4 l5 l6 l7 H locs ls hP hD hS hl hf
          have hf : f_Model_tooFast_29_b Model_now (f_Model_tooFast_6 Model_now  n6) (f_Model_tooFast_29 Model_now (f_Model_tooFast_6 Model_now  n6) n29) l1 l2 l3 l4 l5 l6 l7 = some zr := hf
          unfold f_Model_tooFast_29_b at hf
          refine lv_iload hx hb dX11_tooFast_29 (lv_at hl 7 rfl) ?_
          refine lv_iload_n hx hb dX11_tooFast_31 rfl (lv_at hl 1 rfl) ?_
          refine lv_icmp_lt (tgt := 55) hx hb dX11_tooFast_32 (by decide) (fun c12 => ?_) (fun c12 => ?_)
          · have hf := ite_t c12 hf
            exact hJ55 l1 l2 l3 l4 l5 l7 H locs ls hP hD hS (lv_sub hl [0, 1, 2, 3, 4, 5, 7] rfl) hf
          · have hf := ite_f c12 hf
            refine lv_aload_n hx hb dX11_tooFast_35 rfl (lv_at hl 0 rfl) ?_
            refine lv_iload_n hx hb dX11_tooFast_36 rfl (lv_at hl 3 rfl) ?_
            refine lv_iload hx hb dX11_tooFast_37 (lv_at hl 7 rfl) ?_
            refine lv_iload_n hx hb dX11_tooFast_39 rfl (lv_at hl 1 rfl) ?_
            refine lv_isub hx hb dX11_tooFast_40 ?_
            obtain ⟨r13, g14, hf⟩ := b1_s hf
            refine k_Vi (rest := []) ⟨hx, hb, hml, hown, hts⟩ (c_Model_bassOf l D cI cZ t a_Model a_Model_now a_Model_past a_Model_bits a_Model_sizes a_Model_sheets a_Model_least a_Model_ways a_Model_handOf a_Model_crossedAt a_Model_strokeOf a_Model_prices a_Model_hitAt a_Model_carried H.size Model_now Model_kept Model_findings Model_thenCost Model_thenWays Model_bothCost Model_bothWays l3 (l7 - l1) r13 g14) (cwV 2 hts gX11_tooFast_X11_bassOf rfl rfl rfl (by decide +kernel) ⟨Nat.le_of_ble_eq_true rfl, Nat.le_of_ble_eq_true rfl⟩) hE hP hD hS hA [0, 1] [] rfl rfl rfl rfl rfl 0 11 rfl rfl rfl rfl hl.1 rfl (Nat.le_of_ble_eq_true rfl) dX11_tooFast_41 ⟨Nat.le_of_ble_eq_true rfl, Nat.le_of_ble_eq_true rfl⟩ (fun rq uq H locs hrq hP hD hS => ?_)
            refine lv_tpx hrq.symm ?_
            have hP : va_P D vwCl [(a_Model, .inr (11, [.ref a_Model_now, .ref a_Model_past, .int Model_kept, .int Model_findings, .ref a_Model_bits, .ref a_Model_sizes, .ref a_Model_sheets, .ref a_Model_least, .ref a_Model_ways, .int Model_thenCost, .int Model_thenWays, .int Model_bothCost, .int Model_bothWays, .ref a_Model_handOf, .ref a_Model_crossedAt, .ref a_Model_strokeOf, .ref a_Model_prices, .ref a_Model_hitAt, .ref a_Model_carried])), (a_Model_now, .inl (cI, 187, .inl Model_now))] H := hP
            have hD : va_D A [(a_Model, .inr (11, [.ref a_Model_now, .ref a_Model_past, .int Model_kept, .int Model_findings, .ref a_Model_bits, .ref a_Model_sizes, .ref a_Model_sheets, .ref a_Model_least, .ref a_Model_ways, .int Model_thenCost, .int Model_thenWays, .int Model_bothCost, .int Model_bothWays, .ref a_Model_handOf, .ref a_Model_crossedAt, .ref a_Model_strokeOf, .ref a_Model_prices, .ref a_Model_hitAt, .ref a_Model_carried])), (a_Model_now, .inl (cI, 187, .inl Model_now))] := hD
            refine lv_iload hx hb dX11_tooFast_44 (lv_at hl 6 rfl) ?_
            refine lv_icmp_eq (tgt := 55) hx hb dX11_tooFast_46 (by decide) (fun c15 => ?_) (fun c15 => ?_)
            · have hf := ite_t c15 hf
              exact hJ55 l1 l2 l3 l4 l5 l7 H locs ls hP hD hS (lv_sub hl [0, 1, 2, 3, 4, 5, 7] rfl) hf
            · have hf := ite_f c15 hf
              obtain ⟨x16, ex16, hf⟩ := nm_s hf
              refine lv_iinc (v := x16) (lv' := [(7, .int x16), (0, .ref a_Model), (1, .int l1), (2, .int l2), (3, .int l3), (4, .int l4), (5, .int l5), (6, .int l6)]) hx hb dX11_tooFast_49 hl (k := 7) rfl (by rw [ex16]; rfl) (by decide) rfl (fun ls hl => ?_)
              refine lv_goto (tgt := 29) hx hb dX11_tooFast_52 (by decide) ?_
              exact ih29 l1 l2 l3 l4 l5 l6 x16 H locs ls hP hD hS (lv_sub hl [1, 2, 3, 4, 5, 6, 7, 0] rfl) hf
      intro l1 l2 l3 l4 l5 H locs ls hP hD hS hl hf
      have hf : f_Model_tooFast_6_b Model_now  (f_Model_tooFast_6 Model_now  n6) l1 l2 l3 l4 l5 = some zr := hf
      unfold f_Model_tooFast_6_b at hf
      refine lv_iload hx hb dX11_tooFast_6 (lv_at hl 5 rfl) ?_
      refine lv_iload_n hx hb dX11_tooFast_8 rfl (lv_at hl 2 rfl) ?_
      refine lv_icmp_gt (tgt := 109) hx hb dX11_tooFast_9 (by decide) (fun c17 => ?_) (fun c17 => ?_)
      · have hf := ite_t c17 hf
        refine lv_iload hx hb dX11_tooFast_109 (lv_at hl 4 rfl) ?_
        cases hf
        exact k_iret () hQ9 hx hb hr hlocks rfl hP hD hS (Nat.le_of_ble_eq_true rfl) (Nat.le_of_ble_eq_true rfl) dX11_tooFast_111
      · have hf := ite_f c17 hf
        refine lv_aload_n hx hb dX11_tooFast_12 rfl (lv_at hl 0 rfl) ?_
        refine lv_iload_n hx hb dX11_tooFast_13 rfl (lv_at hl 3 rfl) ?_
        refine lv_iload hx hb dX11_tooFast_14 (lv_at hl 5 rfl) ?_
        refine lv_iload_n hx hb dX11_tooFast_16 rfl (lv_at hl 1 rfl) ?_
        refine lv_isub hx hb dX11_tooFast_17 ?_
        obtain ⟨r18, g19, hf⟩ := b1_s hf
        refine k_Vi (rest := []) ⟨hx, hb, hml, hown, hts⟩ (c_Model_bassOf l D cI cZ t a_Model a_Model_now a_Model_past a_Model_bits a_Model_sizes a_Model_sheets a_Model_least a_Model_ways a_Model_handOf a_Model_crossedAt a_Model_strokeOf a_Model_prices a_Model_hitAt a_Model_carried H.size Model_now Model_kept Model_findings Model_thenCost Model_thenWays Model_bothCost Model_bothWays l3 (l5 - l1) r18 g19) (cwV 2 hts gX11_tooFast_X11_bassOf rfl rfl rfl (by decide +kernel) ⟨Nat.le_of_ble_eq_true rfl, Nat.le_of_ble_eq_true rfl⟩) hE hP hD hS hA [0, 1] [] rfl rfl rfl rfl rfl 0 11 rfl rfl rfl rfl hl.1 rfl (Nat.le_of_ble_eq_true rfl) dX11_tooFast_18 ⟨Nat.le_of_ble_eq_true rfl, Nat.le_of_ble_eq_true rfl⟩ (fun rq uq H locs hrq hP hD hS => ?_)
        refine lv_tpx hrq.symm ?_
        have hP : va_P D vwCl [(a_Model, .inr (11, [.ref a_Model_now, .ref a_Model_past, .int Model_kept, .int Model_findings, .ref a_Model_bits, .ref a_Model_sizes, .ref a_Model_sheets, .ref a_Model_least, .ref a_Model_ways, .int Model_thenCost, .int Model_thenWays, .int Model_bothCost, .int Model_bothWays, .ref a_Model_handOf, .ref a_Model_crossedAt, .ref a_Model_strokeOf, .ref a_Model_prices, .ref a_Model_hitAt, .ref a_Model_carried])), (a_Model_now, .inl (cI, 187, .inl Model_now))] H := hP
        have hD : va_D A [(a_Model, .inr (11, [.ref a_Model_now, .ref a_Model_past, .int Model_kept, .int Model_findings, .ref a_Model_bits, .ref a_Model_sizes, .ref a_Model_sheets, .ref a_Model_least, .ref a_Model_ways, .int Model_thenCost, .int Model_thenWays, .int Model_bothCost, .int Model_bothWays, .ref a_Model_handOf, .ref a_Model_crossedAt, .ref a_Model_strokeOf, .ref a_Model_prices, .ref a_Model_hitAt, .ref a_Model_carried])), (a_Model_now, .inl (cI, 187, .inl Model_now))] := hD
        refine lv_istore (lv' := [(6, .int r18), (0, .ref a_Model), (1, .int l1), (2, .int l2), (3, .int l3), (4, .int l4), (5, .int l5)]) hx hb dX11_tooFast_21 hl (by decide) rfl (fun ls hl => ?_)
        refine lv_iload hx hb dX11_tooFast_23 (lv_at hl 6 rfl) ?_
        refine lv_iconst (v := 1) hx hb dX11_tooFast_25 (by decide) ?_
        refine lv_isub hx hb dX11_tooFast_26 ?_
        obtain ⟨x20, ex20, hf⟩ := nm_s hf
        refine lv_tpx ex20 ?_
        refine lv_istore (lv' := [(7, .int x20), (6, .int r18), (0, .ref a_Model), (1, .int l1), (2, .int l2), (3, .int l3), (4, .int l4), (5, .int l5)]) hx hb dX11_tooFast_27 hl (by decide) rfl (fun ls hl => ?_)
        exact hL29 fu l1 l2 l3 l4 l5 r18 x20 H locs ls hP hD hS (lv_sub hl [2, 3, 4, 5, 6, 7, 1, 0] rfl) hf
  unfold f_Model_tooFast at hf
  refine lv_iconst (v := 0) hx hb dX11_tooFast_0 (by decide) ?_
  refine lv_istore (lv' := [(4, .int 0), (0, .ref a_Model), (1, .int p1), (2, .int p2), (3, .int p3)]) hx hb dX11_tooFast_1 hl (by decide) rfl (fun ls hl => ?_)
  refine lv_iload_n hx hb dX11_tooFast_3 rfl (lv_at hl 2 rfl) ?_
  refine lv_istore (lv' := [(5, .int p1), (4, .int 0), (0, .ref a_Model), (1, .int p1), (2, .int p2), (3, .int p3)]) hx hb dX11_tooFast_4 hl (by decide) rfl (fun ls hl => ?_)
  exact hL6 fu p1 p2 p3 0 p1 s.heap [] ls hP hD hS (lv_sub hl [2, 3, 4, 5, 1, 0] rfl) hf
abbrev rm_Model_isRun : Room := { frames := 2, cells := 0, slots := 0, locals := 43 }
set_option maxHeartbeats 4000000 in
set_option maxRecDepth 100000 in
theorem c_Model_isRun (l : Launch) (D : va_G) (cI cZ : ClassId) (t : Nat → Nat) (a_Model a_Model_now a_Model_past a_Model_bits a_Model_sizes a_Model_sheets a_Model_least a_Model_ways a_Model_handOf a_Model_crossedAt a_Model_strokeOf a_Model_prices a_Model_hitAt a_Model_carried sz : Nat) (Model_now : Nat → Int32) (Model_kept Model_findings Model_thenCost Model_thenWays Model_bothCost Model_bothWays p1 p2 p3 zr : Int32) (hf : f_Model_isRun Model_now p1 p2 p3 = some zr) : Met l yX11_isRun wsX11_isRun rm_Model_isRun (va_Pc [.ref a_Model, .int p1, .int p2, .int p3] (pcW D cI cZ t [(a_Model, .inr (11, [.ref a_Model_now, .ref a_Model_past, .int Model_kept, .int Model_findings, .ref a_Model_bits, .ref a_Model_sizes, .ref a_Model_sheets, .ref a_Model_least, .ref a_Model_ways, .int Model_thenCost, .int Model_thenWays, .int Model_bothCost, .int Model_bothWays, .ref a_Model_handOf, .ref a_Model_crossedAt, .ref a_Model_strokeOf, .ref a_Model_prices, .ref a_Model_hitAt, .ref a_Model_carried])), (a_Model_now, .inl (cI, 187, .inl Model_now))] sz)) (va_Qi (fun r (u : Unit) => r = zr) (fun u t' => bW D (va_A [(a_Model, .inr (11, [.ref a_Model_now, .ref a_Model_past, .int Model_kept, .int Model_findings, .ref a_Model_bits, .ref a_Model_sizes, .ref a_Model_sheets, .ref a_Model_least, .ref a_Model_ways, .int Model_thenCost, .int Model_thenWays, .int Model_bothCost, .int Model_bothWays, .ref a_Model_handOf, .ref a_Model_crossedAt, .ref a_Model_strokeOf, .ref a_Model_prices, .ref a_Model_hitAt, .ref a_Model_carried])), (a_Model_now, .inl (cI, 187, .inl Model_now))] sz) [(a_Model, .inr (11, [.ref a_Model_now, .ref a_Model_past, .int Model_kept, .int Model_findings, .ref a_Model_bits, .ref a_Model_sizes, .ref a_Model_sheets, .ref a_Model_least, .ref a_Model_ways, .int Model_thenCost, .int Model_thenWays, .int Model_bothCost, .int Model_bothWays, .ref a_Model_handOf, .ref a_Model_crossedAt, .ref a_Model_strokeOf, .ref a_Model_prices, .ref a_Model_hitAt, .ref a_Model_carried])), (a_Model_now, .inl (cI, 187, .inl Model_now))] t') (va_A [(a_Model, .inr (11, [.ref a_Model_now, .ref a_Model_past, .int Model_kept, .int Model_findings, .ref a_Model_bits, .ref a_Model_sizes, .ref a_Model_sheets, .ref a_Model_least, .ref a_Model_ways, .int Model_thenCost, .int Model_thenWays, .int Model_bothCost, .int Model_bothWays, .ref a_Model_handOf, .ref a_Model_crossedAt, .ref a_Model_strokeOf, .ref a_Model_prices, .ref a_Model_hitAt, .ref a_Model_carried])), (a_Model_now, .inl (cI, 187, .inl Model_now))] sz)) 0 0 (va_A [(a_Model, .inr (11, [.ref a_Model_now, .ref a_Model_past, .int Model_kept, .int Model_findings, .ref a_Model_bits, .ref a_Model_sizes, .ref a_Model_sheets, .ref a_Model_least, .ref a_Model_ways, .int Model_thenCost, .int Model_thenWays, .int Model_bothCost, .int Model_bothWays, .ref a_Model_handOf, .ref a_Model_crossedAt, .ref a_Model_strokeOf, .ref a_Model_prices, .ref a_Model_hitAt, .ref a_Model_carried])), (a_Model_now, .inl (cI, 187, .inl Model_now))] sz) := by
  refine Met.ofW (cc := cX11_isRun) (maxL := 4) (ret := (some .boolean)) (by decide) rfl ?_
  intro p e s m args below meth c s₁ B hml hv
  obtain ⟨rfl, hsz, hP, hD0, hE⟩ := hv
  have hx := B.exec
  have hb := B.bytes
  have hr := B.returns
  have hts := atoms_spec (ws := wsX11_isRun) B.pre
  have hown : s.vm.findClass RX11 = some m.cls := findClass_of_methodNamed B.named
  have hlocks := B.notSynchronized
  subst hsz
  have hD := hD0.self (sz := s.heap.size)
  generalize hAe : va_A [(a_Model, .inr (11, [.ref a_Model_now, .ref a_Model_past, .int Model_kept, .int Model_findings, .ref a_Model_bits, .ref a_Model_sizes, .ref a_Model_sheets, .ref a_Model_least, .ref a_Model_ways, .int Model_thenCost, .int Model_thenWays, .int Model_bothCost, .int Model_bothWays, .ref a_Model_handOf, .ref a_Model_crossedAt, .ref a_Model_strokeOf, .ref a_Model_prices, .ref a_Model_hitAt, .ref a_Model_carried])), (a_Model_now, .inl (cI, 187, .inl Model_now))] s.heap.size = A at hD hE ⊢
  have hA : ∀ q : Nat, s.heap.size ≤ q → A q := fun q h => by rw [← hAe]; exact Or.inr h
  clear hAe hD0
  have hS : va_S A s.heap s.heap [] := va_S.rf
  have hK := hE.1
  have hl := lv_entry ([.ref a_Model, .int p1, .int p2, .int p3]) (n := 4) (Nat.le_of_ble_eq_true rfl)
  rw [lg_entry_eq]
  generalize (lg_sl ([.ref a_Model, .int p1, .int p2, .int p3]) ++ List.replicate (4 - (lg_sl ([.ref a_Model, .int p1, .int p2, .int p3])).length) Slot.unset).toArray = ls at hl ⊢
  have hl : lv_has ls 4 [(0, .ref a_Model), (1, .int p1), (2, .int p2), (3, .int p3)] := hl
  refine w_q (fun Q9 hQ9 => ?_)
  unfold f_Model_isRun at hf
  refine lv_aload_n hx hb dX11_isRun_0 rfl (lv_at hl 0 rfl) ?_
  refine lv_iload_n hx hb dX11_isRun_1 rfl (lv_at hl 1 rfl) ?_
  obtain ⟨r1, g2, hf⟩ := b1_s hf
  refine k_Vi (rest := []) ⟨hx, hb, hml, hown, hts⟩ (c_Model_isNote l D cI cZ t a_Model a_Model_now a_Model_past a_Model_bits a_Model_sizes a_Model_sheets a_Model_least a_Model_ways a_Model_handOf a_Model_crossedAt a_Model_strokeOf a_Model_prices a_Model_hitAt a_Model_carried s.heap.size Model_now Model_kept Model_findings Model_thenCost Model_thenWays Model_bothCost Model_bothWays p1 r1 g2) (cwV 1 hts gX11_isRun_X11_isNote rfl rfl rfl (by decide +kernel) ⟨Nat.le_of_ble_eq_true rfl, Nat.le_of_ble_eq_true rfl⟩) hE hP hD hS hA [0, 1] [] rfl rfl rfl rfl rfl 0 11 rfl rfl rfl rfl hl.1 rfl (Nat.le_of_ble_eq_true rfl) dX11_isRun_2 ⟨Nat.le_of_ble_eq_true rfl, Nat.le_of_ble_eq_true rfl⟩ (fun rq uq H locs hrq hP hD hS => ?_)
  refine lv_tpx hrq.symm ?_
  have hP : va_P D vwCl [(a_Model, .inr (11, [.ref a_Model_now, .ref a_Model_past, .int Model_kept, .int Model_findings, .ref a_Model_bits, .ref a_Model_sizes, .ref a_Model_sheets, .ref a_Model_least, .ref a_Model_ways, .int Model_thenCost, .int Model_thenWays, .int Model_bothCost, .int Model_bothWays, .ref a_Model_handOf, .ref a_Model_crossedAt, .ref a_Model_strokeOf, .ref a_Model_prices, .ref a_Model_hitAt, .ref a_Model_carried])), (a_Model_now, .inl (cI, 187, .inl Model_now))] H := hP
  have hD : va_D A [(a_Model, .inr (11, [.ref a_Model_now, .ref a_Model_past, .int Model_kept, .int Model_findings, .ref a_Model_bits, .ref a_Model_sizes, .ref a_Model_sheets, .ref a_Model_least, .ref a_Model_ways, .int Model_thenCost, .int Model_thenWays, .int Model_bothCost, .int Model_bothWays, .ref a_Model_handOf, .ref a_Model_crossedAt, .ref a_Model_strokeOf, .ref a_Model_prices, .ref a_Model_hitAt, .ref a_Model_carried])), (a_Model_now, .inl (cI, 187, .inl Model_now))] := hD
  refine lv_if_eq (tgt := 34) hx hb dX11_isRun_5 (by decide) (fun c3 => ?_) (fun c3 => ?_)
  · have hf := ite_t c3 hf
    refine lv_iconst (v := 0) hx hb dX11_isRun_34 (by decide) ?_
    cases hf
    exact k_zret () hQ9 hx hb hr hlocks (Or.inl rfl) rfl hP hD hS (Nat.le_of_ble_eq_true rfl) (Nat.le_of_ble_eq_true rfl) dX11_isRun_35
  · have hf := ite_f c3 hf
    refine lv_aload_n hx hb dX11_isRun_8 rfl (lv_at hl 0 rfl) ?_
    refine lv_iload_n hx hb dX11_isRun_9 rfl (lv_at hl 2 rfl) ?_
    obtain ⟨r4, g5, hf⟩ := b1_s hf
    refine k_Vi (rest := []) ⟨hx, hb, hml, hown, hts⟩ (c_Model_isNote l D cI cZ t a_Model a_Model_now a_Model_past a_Model_bits a_Model_sizes a_Model_sheets a_Model_least a_Model_ways a_Model_handOf a_Model_crossedAt a_Model_strokeOf a_Model_prices a_Model_hitAt a_Model_carried H.size Model_now Model_kept Model_findings Model_thenCost Model_thenWays Model_bothCost Model_bothWays p2 r4 g5) (cwV 1 hts gX11_isRun_X11_isNote rfl rfl rfl (by decide +kernel) ⟨Nat.le_of_ble_eq_true rfl, Nat.le_of_ble_eq_true rfl⟩) hE hP hD hS hA [0, 1] [] rfl rfl rfl rfl rfl 0 11 rfl rfl rfl rfl hl.1 rfl (Nat.le_of_ble_eq_true rfl) dX11_isRun_10 ⟨Nat.le_of_ble_eq_true rfl, Nat.le_of_ble_eq_true rfl⟩ (fun rq uq H locs hrq hP hD hS => ?_)
    refine lv_tpx hrq.symm ?_
    have hP : va_P D vwCl [(a_Model, .inr (11, [.ref a_Model_now, .ref a_Model_past, .int Model_kept, .int Model_findings, .ref a_Model_bits, .ref a_Model_sizes, .ref a_Model_sheets, .ref a_Model_least, .ref a_Model_ways, .int Model_thenCost, .int Model_thenWays, .int Model_bothCost, .int Model_bothWays, .ref a_Model_handOf, .ref a_Model_crossedAt, .ref a_Model_strokeOf, .ref a_Model_prices, .ref a_Model_hitAt, .ref a_Model_carried])), (a_Model_now, .inl (cI, 187, .inl Model_now))] H := hP
    have hD : va_D A [(a_Model, .inr (11, [.ref a_Model_now, .ref a_Model_past, .int Model_kept, .int Model_findings, .ref a_Model_bits, .ref a_Model_sizes, .ref a_Model_sheets, .ref a_Model_least, .ref a_Model_ways, .int Model_thenCost, .int Model_thenWays, .int Model_bothCost, .int Model_bothWays, .ref a_Model_handOf, .ref a_Model_crossedAt, .ref a_Model_strokeOf, .ref a_Model_prices, .ref a_Model_hitAt, .ref a_Model_carried])), (a_Model_now, .inl (cI, 187, .inl Model_now))] := hD
    refine lv_if_eq (tgt := 34) hx hb dX11_isRun_13 (by decide) (fun c6 => ?_) (fun c6 => ?_)
    · have hf := ite_t c6 hf
      refine lv_iconst (v := 0) hx hb dX11_isRun_34 (by decide) ?_
      cases hf
      exact k_zret () hQ9 hx hb hr hlocks (Or.inl rfl) rfl hP hD hS (Nat.le_of_ble_eq_true rfl) (Nat.le_of_ble_eq_true rfl) dX11_isRun_35
    · have hf := ite_f c6 hf
      refine lv_iload_n hx hb dX11_isRun_16 rfl (lv_at hl 1 rfl) ?_
      refine lv_iload_n hx hb dX11_isRun_17 rfl (lv_at hl 2 rfl) ?_
      refine lv_icmp_gt (tgt := 34) hx hb dX11_isRun_18 (by decide) (fun c7 => ?_) (fun c7 => ?_)
      · have hf := ite_t c7 hf
        refine lv_iconst (v := 0) hx hb dX11_isRun_34 (by decide) ?_
        cases hf
        exact k_zret () hQ9 hx hb hr hlocks (Or.inl rfl) rfl hP hD hS (Nat.le_of_ble_eq_true rfl) (Nat.le_of_ble_eq_true rfl) dX11_isRun_35
      · have hf := ite_f c7 hf
        refine lv_iload_n hx hb dX11_isRun_21 rfl (lv_at hl 3 rfl) ?_
        refine lv_iconst (v := 0) hx hb dX11_isRun_22 (by decide) ?_
        refine lv_iconst (v := 2) hx hb dX11_isRun_23 (by decide) ?_
        obtain ⟨r8, g9, hf⟩ := b1_s hf
        refine k_Si (rest := []) ⟨hx, hb, hml, hown, hts⟩ (c_Model_within l D cI cZ t  H.size p3 0 2 r8 g9) (va_cwS 3 hts gX11_isRun_X11_within rfl rfl rfl (by decide +kernel) ⟨Nat.le_of_ble_eq_true rfl, Nat.le_of_ble_eq_true rfl⟩) hE hP hD hS hA [] [0, 1] rfl rfl rfl rfl rfl rfl hl.1 rfl (Nat.le_of_ble_eq_true rfl) dX11_isRun_24 ⟨Nat.le_of_ble_eq_true rfl, Nat.le_of_ble_eq_true rfl⟩ (fun rq uq H locs hrq hP hD hS => ?_)
        refine lv_tpx hrq.symm ?_
        have hP : va_P D vwCl [(a_Model, .inr (11, [.ref a_Model_now, .ref a_Model_past, .int Model_kept, .int Model_findings, .ref a_Model_bits, .ref a_Model_sizes, .ref a_Model_sheets, .ref a_Model_least, .ref a_Model_ways, .int Model_thenCost, .int Model_thenWays, .int Model_bothCost, .int Model_bothWays, .ref a_Model_handOf, .ref a_Model_crossedAt, .ref a_Model_strokeOf, .ref a_Model_prices, .ref a_Model_hitAt, .ref a_Model_carried])), (a_Model_now, .inl (cI, 187, .inl Model_now))] H := hP
        have hD : va_D A [(a_Model, .inr (11, [.ref a_Model_now, .ref a_Model_past, .int Model_kept, .int Model_findings, .ref a_Model_bits, .ref a_Model_sizes, .ref a_Model_sheets, .ref a_Model_least, .ref a_Model_ways, .int Model_thenCost, .int Model_thenWays, .int Model_bothCost, .int Model_bothWays, .ref a_Model_handOf, .ref a_Model_crossedAt, .ref a_Model_strokeOf, .ref a_Model_prices, .ref a_Model_hitAt, .ref a_Model_carried])), (a_Model_now, .inl (cI, 187, .inl Model_now))] := hD
        refine lv_if_eq (tgt := 34) hx hb dX11_isRun_27 (by decide) (fun c10 => ?_) (fun c10 => ?_)
        · have hf := ite_t c10 hf
          refine lv_iconst (v := 0) hx hb dX11_isRun_34 (by decide) ?_
          cases hf
          exact k_zret () hQ9 hx hb hr hlocks (Or.inl rfl) rfl hP hD hS (Nat.le_of_ble_eq_true rfl) (Nat.le_of_ble_eq_true rfl) dX11_isRun_35
        · have hf := ite_f c10 hf
          refine lv_iconst (v := 1) hx hb dX11_isRun_30 (by decide) ?_
          refine lv_goto (tgt := 35) hx hb dX11_isRun_31 (by decide) ?_
          cases hf
          exact k_zret () hQ9 hx hb hr hlocks (Or.inr rfl) rfl hP hD hS (Nat.le_of_ble_eq_true rfl) (Nat.le_of_ble_eq_true rfl) dX11_isRun_35
abbrev rm_Model_judge : Room := { frames := 3, cells := 1, slots := 2, locals := 80 }
set_option maxHeartbeats 4000000 in
set_option maxRecDepth 100000 in
theorem c_Model_judge (l : Launch) (D : va_G) (cI cZ : ClassId) (t : Nat → Nat) (a_Model a_Model_now a_Model_past a_Model_bits a_Model_sizes a_Model_sheets a_Model_least a_Model_ways a_Model_handOf a_Model_crossedAt a_Model_strokeOf a_Model_prices a_Model_hitAt a_Model_carried sz : Nat) (Model_now : Nat → Int32) (Model_findings Model_kept Model_thenCost Model_thenWays Model_bothCost Model_bothWays p1 zr z_Model_findings : Int32) (hf : f_Model_judge Model_now Model_findings p1 = some (zr, z_Model_findings)) : Met l yX11_judge wsX11_judge rm_Model_judge (va_Pc [.ref a_Model, .int p1] (pcW D cI cZ t [(a_Model, .inr (11, [.ref a_Model_now, .ref a_Model_past, .int Model_kept, .int Model_findings, .ref a_Model_bits, .ref a_Model_sizes, .ref a_Model_sheets, .ref a_Model_least, .ref a_Model_ways, .int Model_thenCost, .int Model_thenWays, .int Model_bothCost, .int Model_bothWays, .ref a_Model_handOf, .ref a_Model_crossedAt, .ref a_Model_strokeOf, .ref a_Model_prices, .ref a_Model_hitAt, .ref a_Model_carried])), (a_Model_now, .inl (cI, 187, .inl Model_now))] sz)) (va_Qi (fun r (u : Unit) => r = zr) (fun u t' => bW D (va_A [(a_Model, .inr (11, [.ref a_Model_now, .ref a_Model_past, .int Model_kept, .int Model_findings, .ref a_Model_bits, .ref a_Model_sizes, .ref a_Model_sheets, .ref a_Model_least, .ref a_Model_ways, .int Model_thenCost, .int Model_thenWays, .int Model_bothCost, .int Model_bothWays, .ref a_Model_handOf, .ref a_Model_crossedAt, .ref a_Model_strokeOf, .ref a_Model_prices, .ref a_Model_hitAt, .ref a_Model_carried])), (a_Model_now, .inl (cI, 187, .inl Model_now))] sz) [(a_Model, .inr (11, [.ref a_Model_now, .ref a_Model_past, .int Model_kept, .int z_Model_findings, .ref a_Model_bits, .ref a_Model_sizes, .ref a_Model_sheets, .ref a_Model_least, .ref a_Model_ways, .int Model_thenCost, .int Model_thenWays, .int Model_bothCost, .int Model_bothWays, .ref a_Model_handOf, .ref a_Model_crossedAt, .ref a_Model_strokeOf, .ref a_Model_prices, .ref a_Model_hitAt, .ref a_Model_carried])), (a_Model_now, .inl (cI, 187, .inl Model_now))] t') (va_A [(a_Model, .inr (11, [.ref a_Model_now, .ref a_Model_past, .int Model_kept, .int Model_findings, .ref a_Model_bits, .ref a_Model_sizes, .ref a_Model_sheets, .ref a_Model_least, .ref a_Model_ways, .int Model_thenCost, .int Model_thenWays, .int Model_bothCost, .int Model_bothWays, .ref a_Model_handOf, .ref a_Model_crossedAt, .ref a_Model_strokeOf, .ref a_Model_prices, .ref a_Model_hitAt, .ref a_Model_carried])), (a_Model_now, .inl (cI, 187, .inl Model_now))] sz)) 1 2 (va_A [(a_Model, .inr (11, [.ref a_Model_now, .ref a_Model_past, .int Model_kept, .int Model_findings, .ref a_Model_bits, .ref a_Model_sizes, .ref a_Model_sheets, .ref a_Model_least, .ref a_Model_ways, .int Model_thenCost, .int Model_thenWays, .int Model_bothCost, .int Model_bothWays, .ref a_Model_handOf, .ref a_Model_crossedAt, .ref a_Model_strokeOf, .ref a_Model_prices, .ref a_Model_hitAt, .ref a_Model_carried])), (a_Model_now, .inl (cI, 187, .inl Model_now))] sz) := by
  refine Met.ofW (cc := cX11_judge) (maxL := 9) (ret := (some .int)) (by decide) rfl ?_
  intro p e s m args below meth c s₁ B hml hv
  obtain ⟨rfl, hsz, hP, hD0, hE⟩ := hv
  have hx := B.exec
  have hb := B.bytes
  have hr := B.returns
  have hts := atoms_spec (ws := wsX11_judge) B.pre
  have hown : s.vm.findClass RX11 = some m.cls := findClass_of_methodNamed B.named
  have hlocks := B.notSynchronized
  subst hsz
  have hD := hD0.self (sz := s.heap.size)
  generalize hAe : va_A [(a_Model, .inr (11, [.ref a_Model_now, .ref a_Model_past, .int Model_kept, .int Model_findings, .ref a_Model_bits, .ref a_Model_sizes, .ref a_Model_sheets, .ref a_Model_least, .ref a_Model_ways, .int Model_thenCost, .int Model_thenWays, .int Model_bothCost, .int Model_bothWays, .ref a_Model_handOf, .ref a_Model_crossedAt, .ref a_Model_strokeOf, .ref a_Model_prices, .ref a_Model_hitAt, .ref a_Model_carried])), (a_Model_now, .inl (cI, 187, .inl Model_now))] s.heap.size = A at hD hE ⊢
  have hA : ∀ q : Nat, s.heap.size ≤ q → A q := fun q h => by rw [← hAe]; exact Or.inr h
  clear hAe hD0
  have hS : va_S A s.heap s.heap [] := va_S.rf
  have hK := hE.1
  have hl := lv_entry ([.ref a_Model, .int p1]) (n := 9) (Nat.le_of_ble_eq_true rfl)
  rw [lg_entry_eq]
  generalize (lg_sl ([.ref a_Model, .int p1]) ++ List.replicate (9 - (lg_sl ([.ref a_Model, .int p1])).length) Slot.unset).toArray = ls at hl ⊢
  have hl : lv_has ls 9 [(0, .ref a_Model), (1, .int p1)] := hl
  refine w_q (fun Q9 hQ9 => ?_)
  have fl9 := hts (.fieldLink RX11 9 "StickRoomModel" "now" "[I") (by decide +kernel)
  have inX11 : ∀ w ∈ wsX110, w ∈ wsX11_judge := by decide +kernel
  have kc79 := hts (.constant RX11 79 (-100004)) (by decide +kernel)
  have arc := hts (.arrayClass .int) (by decide +kernel)
  have kc70 := hts (.constant RX11 70 (-100001)) (by decide +kernel)
  have hL40 : ∀ (n40 : Nat) (l1 l3 l4 l5 l6 Model_findings : Int32) (N_latest : Nat → Int32) (a_N_latest : Nat) (H : Heap) (locs : List Loc) (ls : Array Slot), va_P D vwCl [(a_Model, .inr (11, [.ref a_Model_now, .ref a_Model_past, .int Model_kept, .int Model_findings, .ref a_Model_bits, .ref a_Model_sizes, .ref a_Model_sheets, .ref a_Model_least, .ref a_Model_ways, .int Model_thenCost, .int Model_thenWays, .int Model_bothCost, .int Model_bothWays, .ref a_Model_handOf, .ref a_Model_crossedAt, .ref a_Model_strokeOf, .ref a_Model_prices, .ref a_Model_hitAt, .ref a_Model_carried])), (a_Model_now, .inl (cI, 187, .inl Model_now)), (a_N_latest, .inl (cI, 2, .inl N_latest))] H → va_D A [(a_Model, .inr (11, [.ref a_Model_now, .ref a_Model_past, .int Model_kept, .int Model_findings, .ref a_Model_bits, .ref a_Model_sizes, .ref a_Model_sheets, .ref a_Model_least, .ref a_Model_ways, .int Model_thenCost, .int Model_thenWays, .int Model_bothCost, .int Model_bothWays, .ref a_Model_handOf, .ref a_Model_crossedAt, .ref a_Model_strokeOf, .ref a_Model_prices, .ref a_Model_hitAt, .ref a_Model_carried])), (a_Model_now, .inl (cI, 187, .inl Model_now)), (a_N_latest, .inl (cI, 2, .inl N_latest))] → va_S A s.heap H locs → lv_has ls 9 [(0, .ref a_Model), (1, .int l1), (2, .ref a_N_latest), (3, .int l3), (4, .int l4), (5, .int l5), (6, .int l6)] → f_Model_judge_40 Model_now  n40 l1 l3 l4 l5 l6 Model_findings N_latest = some (zr, z_Model_findings) → W p l e (headSpec wsX11_judge rm_Model_judge).room s m ([.ref a_Model, .int p1] : List Value).toArray below meth c H locs 1 2 Q9 (F0 m 40 ls []) := by
    intro n40
    induction n40 with
    | zero => intro l1 l3 l4 l5 l6 Model_findings N_latest a_N_latest H locs ls hP hD hS hl hf; exact nomatch (show none = some (zr, z_Model_findings) from hf)
    | succ n40 ih40 =>
      have hJ143 : ∀ (l1 l3 l4 l6 l7 l8 k0 k1 Model_findings : Int32) (N_latest : Nat → Int32) (a_N_latest : Nat) (H : Heap) (locs : List Loc) (ls : Array Slot), va_P D vwCl [(a_Model, .inr (11, [.ref a_Model_now, .ref a_Model_past, .int Model_kept, .int Model_findings, .ref a_Model_bits, .ref a_Model_sizes, .ref a_Model_sheets, .ref a_Model_least, .ref a_Model_ways, .int Model_thenCost, .int Model_thenWays, .int Model_bothCost, .int Model_bothWays, .ref a_Model_handOf, .ref a_Model_crossedAt, .ref a_Model_strokeOf, .ref a_Model_prices, .ref a_Model_hitAt, .ref a_Model_carried])), (a_Model_now, .inl (cI, 187, .inl Model_now)), (a_N_latest, .inl (cI, 2, .inl N_latest))] H → va_D A [(a_Model, .inr (11, [.ref a_Model_now, .ref a_Model_past, .int Model_kept, .int Model_findings, .ref a_Model_bits, .ref a_Model_sizes, .ref a_Model_sheets, .ref a_Model_least, .ref a_Model_ways, .int Model_thenCost, .int Model_thenWays, .int Model_bothCost, .int Model_bothWays, .ref a_Model_handOf, .ref a_Model_crossedAt, .ref a_Model_strokeOf, .ref a_Model_prices, .ref a_Model_hitAt, .ref a_Model_carried])), (a_Model_now, .inl (cI, 187, .inl Model_now)), (a_N_latest, .inl (cI, 2, .inl N_latest))] → va_S A s.heap H locs → lv_has ls 9 [(0, .ref a_Model), (1, .int l1), (2, .ref a_N_latest), (3, .int l3), (4, .int l4), (6, .int l6), (7, .int l7), (8, .int l8)] → f_Model_judge_143 Model_now (f_Model_judge_40 Model_now  n40) l1 l3 l4 l6 l7 l8 k0 k1 Model_findings N_latest = some (zr, z_Model_findings) → W p l e (headSpec wsX11_judge rm_Model_judge).room s m ([.ref a_Model, .int p1] : List Value).toArray below meth c H locs 1 2 Q9 (F0 m 143 ls [.int k1, .int k0]) := by
        intro l1 l3 l4 l6 l7 l8 k0 k1 Model_findings N_latest a_N_latest H locs ls hP hD hS hl hf
        unfold f_Model_judge_143 at hf
        refine lv_iadd hx hb dX11_judge_143 ?_
        obtain ⟨x1, ex1, hf⟩ := nm_s hf
        refine lv_tpx ex1 ?_
        refine lv_istore (lv' := [(5, .int x1), (0, .ref a_Model), (1, .int l1), (2, .ref a_N_latest), (3, .int l3), (4, .int l4), (6, .int l6), (7, .int l7), (8, .int l8)]) hx hb dX11_judge_144 hl (by decide) rfl (fun ls hl => ?_)
        refine lv_iload hx hb dX11_judge_146 (lv_at hl 5 rfl) ?_
        refine lv_aload_n hx hb dX11_judge_148 rfl (lv_at hl 1 rfl) ?_
        refine lv_iload hx hb dX11_judge_149 (lv_at hl 6 rfl) ?_
        refine lv_iload hx hb dX11_judge_151 (lv_at hl 7 rfl) ?_
        refine lv_iload_n hx hb dX11_judge_153 rfl (lv_at hl 4 rfl) ?_
        refine lv_iload hx hb dX11_judge_154 (lv_at hl 8 rfl) ?_
        obtain ⟨r2, g3, hf⟩ := b1_s hf
        refine k_Vi (rest := [.int l4]) ⟨hx, hb, hml, hown, hts⟩ (c_Model_awkwardness l D cI cZ t a_Model a_Model_now a_Model_past a_Model_bits a_Model_sizes a_Model_sheets a_Model_least a_Model_ways a_Model_handOf a_Model_crossedAt a_Model_strokeOf a_Model_prices a_Model_hitAt a_Model_carried H.size Model_now Model_kept Model_findings Model_thenCost Model_thenWays Model_bothCost Model_bothWays l6 l7 l3 l8 r2 g3) (cwV 4 hts gX11_judge_X11_awkwardness rfl rfl rfl (by decide +kernel) ⟨Nat.le_of_ble_eq_true rfl, Nat.le_of_ble_eq_true rfl⟩) hE hP hD hS hA [0, 1] [2] rfl rfl rfl rfl rfl 0 11 rfl rfl rfl rfl hl.1 rfl (Nat.le_of_ble_eq_true rfl) dX11_judge_156 ⟨Nat.le_of_ble_eq_true rfl, Nat.le_of_ble_eq_true rfl⟩ (fun rq uq H locs hrq hP hD hS => ?_)
        refine lv_tpx hrq.symm ?_
        have hP : va_P D vwCl [(a_N_latest, .inl (cI, 2, .inl N_latest)), (a_Model, .inr (11, [.ref a_Model_now, .ref a_Model_past, .int Model_kept, .int Model_findings, .ref a_Model_bits, .ref a_Model_sizes, .ref a_Model_sheets, .ref a_Model_least, .ref a_Model_ways, .int Model_thenCost, .int Model_thenWays, .int Model_bothCost, .int Model_bothWays, .ref a_Model_handOf, .ref a_Model_crossedAt, .ref a_Model_strokeOf, .ref a_Model_prices, .ref a_Model_hitAt, .ref a_Model_carried])), (a_Model_now, .inl (cI, 187, .inl Model_now))] H := hP
        have hD : va_D A [(a_N_latest, .inl (cI, 2, .inl N_latest)), (a_Model, .inr (11, [.ref a_Model_now, .ref a_Model_past, .int Model_kept, .int Model_findings, .ref a_Model_bits, .ref a_Model_sizes, .ref a_Model_sheets, .ref a_Model_least, .ref a_Model_ways, .int Model_thenCost, .int Model_thenWays, .int Model_bothCost, .int Model_bothWays, .ref a_Model_handOf, .ref a_Model_crossedAt, .ref a_Model_strokeOf, .ref a_Model_prices, .ref a_Model_hitAt, .ref a_Model_carried])), (a_Model_now, .inl (cI, 187, .inl Model_now))] := hD
        refine lv_iadd hx hb dX11_judge_159 ?_
        obtain ⟨x4, ex4, hf⟩ := nm_s hf
        refine lv_tpx ex4 ?_
        refine lv_istore (lv' := [(4, .int x4), (5, .int x1), (0, .ref a_Model), (1, .int l1), (2, .ref a_N_latest), (3, .int l3), (6, .int l6), (7, .int l7), (8, .int l8)]) hx hb dX11_judge_160 hl (by decide) rfl (fun ls hl => ?_)
        refine lv_iload hx hb dX11_judge_162 (lv_at hl 7 rfl) ?_
        refine lv_istore_n (lv' := [(3, .int l7), (4, .int x4), (5, .int x1), (0, .ref a_Model), (1, .int l1), (2, .ref a_N_latest), (6, .int l6), (7, .int l7), (8, .int l8)]) hx hb dX11_judge_164 rfl hl (by decide) rfl (fun ls hl => ?_)
        obtain ⟨x5, ex5, hf⟩ := nm_s hf
        refine lv_iinc (v := x5) (lv' := [(6, .int x5), (3, .int l7), (4, .int x4), (5, .int x1), (0, .ref a_Model), (1, .int l1), (2, .ref a_N_latest), (7, .int l7), (8, .int l8)]) hx hb dX11_judge_165 hl (k := 6) rfl (by rw [ex5]; rfl) (by decide) rfl (fun ls hl => ?_)
        refine lv_goto (tgt := 40) hx hb dX11_judge_168 (by decide) ?_
        exact ih40 l1 l7 x4 x1 x5 Model_findings N_latest a_N_latest H locs ls (hP.sub [1, 2, 0] rfl) (hD.sub [1, 2, 0] (by decide) rfl) hS (lv_sub hl [4, 5, 6, 1, 2, 3, 0] rfl) hf
      intro l1 l3 l4 l5 l6 Model_findings N_latest a_N_latest H locs ls hP hD hS hl hf
      have hf : f_Model_judge_40_b Model_now  (f_Model_judge_40 Model_now  n40) l1 l3 l4 l5 l6 Model_findings N_latest = some (zr, z_Model_findings) := hf
      unfold f_Model_judge_40_b at hf
      refine lv_iload hx hb dX11_judge_40 (lv_at hl 6 rfl) ?_
      refine lv_aload_n hx hb dX11_judge_42 rfl (lv_at hl 0 rfl) ?_
      refine va_get (D := D) (ci := 11) (v := .ref a_Model_now) (C := RX11) (T := TX11) (N := 19) hx hb hts inX11 hown hK hP 0 rfl rfl 0 (by decide) fl9 (fun _ h9 => h9) rfl dX11_judge_43 ?_
      refine lv_iconst (v := 0) hx hb dX11_judge_46 (by decide) ?_
      obtain ⟨ix6, x6, ex6, hf⟩ := rd_s hf
      refine va_iald hx hb hK hP 1 0 rfl rfl ix6 dX11_judge_47 ?_
      refine lv_tpx ex6 ?_
      refine lv_icmp_ge (tgt := 171) hx hb dX11_judge_48 (by decide) (fun c7 => ?_) (fun c7 => ?_)
      · have hf := ite_t c7 hf
        refine lv_iload hx hb dX11_judge_171 (lv_at hl 5 rfl) ?_
        refine lv_aload_n hx hb dX11_judge_173 rfl (lv_at hl 0 rfl) ?_
        refine va_get (D := D) (ci := 11) (v := .ref a_Model_now) (C := RX11) (T := TX11) (N := 19) hx hb hts inX11 hown hK hP 0 rfl rfl 0 (by decide) fl9 (fun _ h9 => h9) rfl dX11_judge_174 ?_
        refine lv_iconst (v := 4) hx hb dX11_judge_177 (by decide) ?_
        obtain ⟨ix8, x8, ex8, hf⟩ := rd_s hf
        refine va_iald hx hb hK hP 1 0 rfl rfl ix8 dX11_judge_178 ?_
        refine lv_tpx ex8 ?_
        refine lv_icmp_le (tgt := 191) hx hb dX11_judge_179 (by decide) (fun c9 => ?_) (fun c9 => ?_)
        · have hf := ite_t c9 hf
          refine lv_iload hx hb dX11_judge_191 (lv_at hl 4 rfl) ?_
          cases hf
          exact k_iret () hQ9 hx hb hr hlocks rfl (hP.sub [0, 1] rfl) (hD.sub [0, 1] (by decide) rfl) hS (Nat.le_of_ble_eq_true rfl) (Nat.le_of_ble_eq_true rfl) dX11_judge_193
        · have hf := ite_f c9 hf
          refine lv_aload_n hx hb dX11_judge_182 rfl (lv_at hl 0 rfl) ?_
          refine lv_ldc (v := (-100004)) hx hb hown kc79 dX11_judge_183 ?_
          obtain ⟨r10, y11, g12, hf⟩ := b2_s hf
          refine k_Vi (rest := []) ⟨hx, hb, hml, hown, hts⟩ (c_Model_finding l D cI cZ t a_Model a_Model_now a_Model_past a_Model_bits a_Model_sizes a_Model_sheets a_Model_least a_Model_ways a_Model_handOf a_Model_crossedAt a_Model_strokeOf a_Model_prices a_Model_hitAt a_Model_carried H.size Model_findings Model_kept Model_thenCost Model_thenWays Model_bothCost Model_bothWays (-100004) r10 y11 g12) (cwV 1 hts gX11_judge_X11_finding rfl rfl rfl (by decide +kernel) ⟨Nat.le_of_ble_eq_true rfl, Nat.le_of_ble_eq_true rfl⟩) hE hP hD hS hA [0] [1, 2] rfl rfl rfl rfl rfl 0 11 rfl rfl rfl rfl hl.1 rfl (Nat.le_of_ble_eq_true rfl) dX11_judge_185 ⟨Nat.le_of_ble_eq_true rfl, Nat.le_of_ble_eq_true rfl⟩ (fun rq uq H locs hrq hP hD hS => ?_)
          refine lv_tpx hrq.symm ?_
          have hP : va_P D vwCl [(a_Model_now, .inl (cI, 187, .inl Model_now)), (a_N_latest, .inl (cI, 2, .inl N_latest)), (a_Model, .inr (11, [.ref a_Model_now, .ref a_Model_past, .int Model_kept, .int y11, .ref a_Model_bits, .ref a_Model_sizes, .ref a_Model_sheets, .ref a_Model_least, .ref a_Model_ways, .int Model_thenCost, .int Model_thenWays, .int Model_bothCost, .int Model_bothWays, .ref a_Model_handOf, .ref a_Model_crossedAt, .ref a_Model_strokeOf, .ref a_Model_prices, .ref a_Model_hitAt, .ref a_Model_carried]))] H := hP
          have hD : va_D A [(a_Model_now, .inl (cI, 187, .inl Model_now)), (a_N_latest, .inl (cI, 2, .inl N_latest)), (a_Model, .inr (11, [.ref a_Model_now, .ref a_Model_past, .int Model_kept, .int y11, .ref a_Model_bits, .ref a_Model_sizes, .ref a_Model_sheets, .ref a_Model_least, .ref a_Model_ways, .int Model_thenCost, .int Model_thenWays, .int Model_bothCost, .int Model_bothWays, .ref a_Model_handOf, .ref a_Model_crossedAt, .ref a_Model_strokeOf, .ref a_Model_prices, .ref a_Model_hitAt, .ref a_Model_carried]))] := hD
          refine lv_goto (tgt := 193) hx hb dX11_judge_188 (by decide) ?_
          cases hf
          exact k_iret () hQ9 hx hb hr hlocks rfl (hP.sub [2, 0] rfl) (hD.sub [2, 0] (by decide) rfl) hS (Nat.le_of_ble_eq_true rfl) (Nat.le_of_ble_eq_true rfl) dX11_judge_193
      · have hf := ite_f c7 hf
        refine lv_iload_n hx hb dX11_judge_51 rfl (lv_at hl 1 rfl) ?_
        refine lv_iload hx hb dX11_judge_52 (lv_at hl 6 rfl) ?_
        refine lv_ishr hx hb dX11_judge_54 ?_
        obtain ⟨x13, ex13, hf⟩ := nm_s hf
        refine lv_tpx ex13 ?_
        refine lv_iconst (v := 1) hx hb dX11_judge_55 (by decide) ?_
        refine lv_iand hx hb dX11_judge_56 ?_
        obtain ⟨x14, ex14, hf⟩ := nm_s hf
        refine lv_tpx ex14 ?_
        refine lv_istore (lv' := [(7, .int x14), (0, .ref a_Model), (1, .int l1), (2, .ref a_N_latest), (3, .int l3), (4, .int l4), (5, .int l5), (6, .int l6)]) hx hb dX11_judge_57 hl (by decide) rfl (fun ls hl => ?_)
        refine lv_aload_n hx hb dX11_judge_59 rfl (lv_at hl 1 rfl) ?_
        refine lv_iload hx hb dX11_judge_60 (lv_at hl 7 rfl) ?_
        refine lv_iload hx hb dX11_judge_62 (lv_at hl 0 rfl) ?_
        refine lv_aload_n hx hb dX11_judge_64 rfl (lv_at hl 3 rfl) ?_
        refine lv_iload hx hb dX11_judge_65 (lv_at hl 0 rfl) ?_
        obtain ⟨ix15, x15, ex15, hf⟩ := rd_s hf
        refine va_iald hx hb hK hP 2 0 rfl rfl ix15 dX11_judge_67 ?_
        refine lv_tpx ex15 ?_
        refine lv_aload_n hx hb dX11_judge_68 rfl (lv_at hl 3 rfl) ?_
        refine lv_iconst (v := 1) hx hb dX11_judge_69 (by decide) ?_
        refine lv_iload hx hb dX11_judge_70 (lv_at hl 0 rfl) ?_
        refine lv_isub hx hb dX11_judge_72 ?_
        obtain ⟨ix16, x16, ex16, hf⟩ := rd_s hf
        refine va_iald hx hb hK hP 2 0 rfl rfl ix16 dX11_judge_73 ?_
        refine lv_tpx ex16 ?_
        obtain ⟨r17, g18, hf⟩ := b1_s hf
        refine k_Vi (rest := []) ⟨hx, hb, hml, hown, hts⟩ (c_Model_canBe l D cI cZ t a_Model a_Model_now a_Model_past a_Model_bits a_Model_sizes a_Model_sheets a_Model_least a_Model_ways a_Model_handOf a_Model_crossedAt a_Model_strokeOf a_Model_prices a_Model_hitAt a_Model_carried H.size Model_now Model_kept Model_findings Model_thenCost Model_thenWays Model_bothCost Model_bothWays l6 x14 x15 x16 r17 g18) (cwV 4 hts gX11_judge_X11_canBe rfl rfl rfl (by decide +kernel) ⟨Nat.le_of_ble_eq_true rfl, Nat.le_of_ble_eq_true rfl⟩) hE hP hD hS hA [0, 1] [2] rfl rfl rfl rfl rfl 0 11 rfl rfl rfl rfl hl.1 rfl (Nat.le_of_ble_eq_true rfl) dX11_judge_74 ⟨Nat.le_of_ble_eq_true rfl, Nat.le_of_ble_eq_true rfl⟩ (fun rq uq H locs hrq hP hD hS => ?_)
        refine lv_tpx hrq.symm ?_
        have hP : va_P D vwCl [(a_N_latest, .inl (cI, 2, .inl N_latest)), (a_Model, .inr (11, [.ref a_Model_now, .ref a_Model_past, .int Model_kept, .int Model_findings, .ref a_Model_bits, .ref a_Model_sizes, .ref a_Model_sheets, .ref a_Model_least, .ref a_Model_ways, .int Model_thenCost, .int Model_thenWays, .int Model_bothCost, .int Model_bothWays, .ref a_Model_handOf, .ref a_Model_crossedAt, .ref a_Model_strokeOf, .ref a_Model_prices, .ref a_Model_hitAt, .ref a_Model_carried])), (a_Model_now, .inl (cI, 187, .inl Model_now))] H := hP
        have hD : va_D A [(a_N_latest, .inl (cI, 2, .inl N_latest)), (a_Model, .inr (11, [.ref a_Model_now, .ref a_Model_past, .int Model_kept, .int Model_findings, .ref a_Model_bits, .ref a_Model_sizes, .ref a_Model_sheets, .ref a_Model_least, .ref a_Model_ways, .int Model_thenCost, .int Model_thenWays, .int Model_bothCost, .int Model_bothWays, .ref a_Model_handOf, .ref a_Model_crossedAt, .ref a_Model_strokeOf, .ref a_Model_prices, .ref a_Model_hitAt, .ref a_Model_carried])), (a_Model_now, .inl (cI, 187, .inl Model_now))] := hD
        refine lv_if_ne (tgt := 87) hx hb dX11_judge_77 (by decide) (fun c19 => ?_) (fun c19 => ?_)
        · have hf := ite_f c19 hf
          refine lv_aload_n hx hb dX11_judge_87 rfl (lv_at hl 3 rfl) ?_
          refine lv_iload hx hb dX11_judge_88 (lv_at hl 0 rfl) ?_
          refine lv_iconst (v := 1) hx hb dX11_judge_90 (by decide) ?_
          refine lv_iconst (v := 2) hx hb dX11_judge_91 (by decide) ?_
          refine lv_iload hx hb dX11_judge_92 (lv_at hl 7 rfl) ?_
          refine lv_imul hx hb dX11_judge_94 ?_
          refine lv_iadd hx hb dX11_judge_95 ?_
          obtain ⟨x20, ex20, hf⟩ := nm_s hf
          refine lv_tpx ex20 ?_
          obtain ⟨i21, hf⟩ := ck_s hf
          refine va_iast hx hb hK hP hD hS 0 0 rfl rfl i21 dX11_judge_96 (fun H locs hP hD hS => ?_)
          have hP : va_P D vwCl [(a_N_latest, .inl (cI, 2, .inl (upd N_latest x14.toNatClampNeg x20))), (a_Model, .inr (11, [.ref a_Model_now, .ref a_Model_past, .int Model_kept, .int Model_findings, .ref a_Model_bits, .ref a_Model_sizes, .ref a_Model_sheets, .ref a_Model_least, .ref a_Model_ways, .int Model_thenCost, .int Model_thenWays, .int Model_bothCost, .int Model_bothWays, .ref a_Model_handOf, .ref a_Model_crossedAt, .ref a_Model_strokeOf, .ref a_Model_prices, .ref a_Model_hitAt, .ref a_Model_carried])), (a_Model_now, .inl (cI, 187, .inl Model_now))] H := hP
          have hD : va_D A [(a_N_latest, .inl (cI, 2, .inl (upd N_latest x14.toNatClampNeg x20))), (a_Model, .inr (11, [.ref a_Model_now, .ref a_Model_past, .int Model_kept, .int Model_findings, .ref a_Model_bits, .ref a_Model_sizes, .ref a_Model_sheets, .ref a_Model_least, .ref a_Model_ways, .int Model_thenCost, .int Model_thenWays, .int Model_bothCost, .int Model_bothWays, .ref a_Model_handOf, .ref a_Model_crossedAt, .ref a_Model_strokeOf, .ref a_Model_prices, .ref a_Model_hitAt, .ref a_Model_carried])), (a_Model_now, .inl (cI, 187, .inl Model_now))] := hD
          refine lv_aload_n hx hb dX11_judge_97 rfl (lv_at hl 3 rfl) ?_
          refine lv_iconst (v := 1) hx hb dX11_judge_98 (by decide) ?_
          refine lv_iload hx hb dX11_judge_99 (lv_at hl 0 rfl) ?_
          refine lv_isub hx hb dX11_judge_101 ?_
          refine lv_aload_n hx hb dX11_judge_102 rfl (lv_at hl 1 rfl) ?_
          refine lv_iload hx hb dX11_judge_103 (lv_at hl 7 rfl) ?_
          refine lv_aload_n hx hb dX11_judge_105 rfl (lv_at hl 3 rfl) ?_
          refine lv_iconst (v := 1) hx hb dX11_judge_106 (by decide) ?_
          refine lv_iload hx hb dX11_judge_107 (lv_at hl 0 rfl) ?_
          refine lv_isub hx hb dX11_judge_109 ?_
          obtain ⟨ix22, x22, ex22, hf⟩ := rd_s hf
          refine va_iald hx hb hK hP 0 0 rfl rfl ix22 dX11_judge_110 ?_
          refine lv_tpx ex22 ?_
          obtain ⟨r23, g24, hf⟩ := b1_s hf
          refine k_Vi (rest := [.int (1 - x14), .ref a_N_latest]) ⟨hx, hb, hml, hown, hts⟩ (c_Model_otherThen l D cI cZ t a_Model a_Model_now a_Model_past a_Model_bits a_Model_sizes a_Model_sheets a_Model_least a_Model_ways a_Model_handOf a_Model_crossedAt a_Model_strokeOf a_Model_prices a_Model_hitAt a_Model_carried H.size Model_now Model_kept Model_findings Model_thenCost Model_thenWays Model_bothCost Model_bothWays l6 x22 r23 g24) (cwV 2 hts gX11_judge_X11_otherThen rfl rfl rfl (by decide +kernel) ⟨Nat.le_of_ble_eq_true rfl, Nat.le_of_ble_eq_true rfl⟩) hE hP hD hS hA [1, 2] [0] rfl rfl rfl rfl rfl 0 11 rfl rfl rfl rfl hl.1 rfl (Nat.le_of_ble_eq_true rfl) dX11_judge_111 ⟨Nat.le_of_ble_eq_true rfl, Nat.le_of_ble_eq_true rfl⟩ (fun rq uq H locs hrq hP hD hS => ?_)
          refine lv_tpx hrq.symm ?_
          have hP : va_P D vwCl [(a_N_latest, .inl (cI, 2, .inl (upd N_latest x14.toNatClampNeg x20))), (a_Model, .inr (11, [.ref a_Model_now, .ref a_Model_past, .int Model_kept, .int Model_findings, .ref a_Model_bits, .ref a_Model_sizes, .ref a_Model_sheets, .ref a_Model_least, .ref a_Model_ways, .int Model_thenCost, .int Model_thenWays, .int Model_bothCost, .int Model_bothWays, .ref a_Model_handOf, .ref a_Model_crossedAt, .ref a_Model_strokeOf, .ref a_Model_prices, .ref a_Model_hitAt, .ref a_Model_carried])), (a_Model_now, .inl (cI, 187, .inl Model_now))] H := hP
          have hD : va_D A [(a_N_latest, .inl (cI, 2, .inl (upd N_latest x14.toNatClampNeg x20))), (a_Model, .inr (11, [.ref a_Model_now, .ref a_Model_past, .int Model_kept, .int Model_findings, .ref a_Model_bits, .ref a_Model_sizes, .ref a_Model_sheets, .ref a_Model_least, .ref a_Model_ways, .int Model_thenCost, .int Model_thenWays, .int Model_bothCost, .int Model_bothWays, .ref a_Model_handOf, .ref a_Model_crossedAt, .ref a_Model_strokeOf, .ref a_Model_prices, .ref a_Model_hitAt, .ref a_Model_carried])), (a_Model_now, .inl (cI, 187, .inl Model_now))] := hD
          obtain ⟨i25, hf⟩ := ck_s hf
          refine va_iast hx hb hK hP hD hS 0 0 rfl rfl i25 dX11_judge_114 (fun H locs hP hD hS => ?_)
          have hP : va_P D vwCl [(a_N_latest, .inl (cI, 2, .inl (upd (upd N_latest x14.toNatClampNeg x20) (1 - x14).toNatClampNeg r23))), (a_Model, .inr (11, [.ref a_Model_now, .ref a_Model_past, .int Model_kept, .int Model_findings, .ref a_Model_bits, .ref a_Model_sizes, .ref a_Model_sheets, .ref a_Model_least, .ref a_Model_ways, .int Model_thenCost, .int Model_thenWays, .int Model_bothCost, .int Model_bothWays, .ref a_Model_handOf, .ref a_Model_crossedAt, .ref a_Model_strokeOf, .ref a_Model_prices, .ref a_Model_hitAt, .ref a_Model_carried])), (a_Model_now, .inl (cI, 187, .inl Model_now))] H := hP
          have hD : va_D A [(a_N_latest, .inl (cI, 2, .inl (upd (upd N_latest x14.toNatClampNeg x20) (1 - x14).toNatClampNeg r23))), (a_Model, .inr (11, [.ref a_Model_now, .ref a_Model_past, .int Model_kept, .int Model_findings, .ref a_Model_bits, .ref a_Model_sizes, .ref a_Model_sheets, .ref a_Model_least, .ref a_Model_ways, .int Model_thenCost, .int Model_thenWays, .int Model_bothCost, .int Model_bothWays, .ref a_Model_handOf, .ref a_Model_crossedAt, .ref a_Model_strokeOf, .ref a_Model_prices, .ref a_Model_hitAt, .ref a_Model_carried])), (a_Model_now, .inl (cI, 187, .inl Model_now))] := hD
          refine lv_aload_n hx hb dX11_judge_115 rfl (lv_at hl 1 rfl) ?_
          refine lv_iload hx hb dX11_judge_116 (lv_at hl 7 rfl) ?_
          refine lv_iload hx hb dX11_judge_118 (lv_at hl 0 rfl) ?_
          refine lv_aload_n hx hb dX11_judge_120 rfl (lv_at hl 3 rfl) ?_
          refine lv_iconst (v := 1) hx hb dX11_judge_121 (by decide) ?_
          refine lv_iload hx hb dX11_judge_122 (lv_at hl 0 rfl) ?_
          refine lv_isub hx hb dX11_judge_124 ?_
          obtain ⟨ix26, x26, ex26, hf⟩ := rd_s hf
          refine va_iald hx hb hK hP 0 0 rfl rfl ix26 dX11_judge_125 ?_
          refine lv_tpx ex26 ?_
          obtain ⟨r27, g28, hf⟩ := b1_s hf
          refine k_Vi (rest := []) ⟨hx, hb, hml, hown, hts⟩ (c_Model_isCrossed l D cI cZ t a_Model a_Model_now a_Model_past a_Model_bits a_Model_sizes a_Model_sheets a_Model_least a_Model_ways a_Model_handOf a_Model_crossedAt a_Model_strokeOf a_Model_prices a_Model_hitAt a_Model_carried H.size Model_now Model_kept Model_findings Model_thenCost Model_thenWays Model_bothCost Model_bothWays l6 x14 x26 r27 g28) (cwV 3 hts gX11_judge_X11_isCrossed rfl rfl rfl (by decide +kernel) ⟨Nat.le_of_ble_eq_true rfl, Nat.le_of_ble_eq_true rfl⟩) hE hP hD hS hA [1, 2] [0] rfl rfl rfl rfl rfl 0 11 rfl rfl rfl rfl hl.1 rfl (Nat.le_of_ble_eq_true rfl) dX11_judge_126 ⟨Nat.le_of_ble_eq_true rfl, Nat.le_of_ble_eq_true rfl⟩ (fun rq uq H locs hrq hP hD hS => ?_)
          refine lv_tpx hrq.symm ?_
          have hP : va_P D vwCl [(a_N_latest, .inl (cI, 2, .inl (upd (upd N_latest x14.toNatClampNeg x20) (1 - x14).toNatClampNeg r23))), (a_Model, .inr (11, [.ref a_Model_now, .ref a_Model_past, .int Model_kept, .int Model_findings, .ref a_Model_bits, .ref a_Model_sizes, .ref a_Model_sheets, .ref a_Model_least, .ref a_Model_ways, .int Model_thenCost, .int Model_thenWays, .int Model_bothCost, .int Model_bothWays, .ref a_Model_handOf, .ref a_Model_crossedAt, .ref a_Model_strokeOf, .ref a_Model_prices, .ref a_Model_hitAt, .ref a_Model_carried])), (a_Model_now, .inl (cI, 187, .inl Model_now))] H := hP
          have hD : va_D A [(a_N_latest, .inl (cI, 2, .inl (upd (upd N_latest x14.toNatClampNeg x20) (1 - x14).toNatClampNeg r23))), (a_Model, .inr (11, [.ref a_Model_now, .ref a_Model_past, .int Model_kept, .int Model_findings, .ref a_Model_bits, .ref a_Model_sizes, .ref a_Model_sheets, .ref a_Model_least, .ref a_Model_ways, .int Model_thenCost, .int Model_thenWays, .int Model_bothCost, .int Model_bothWays, .ref a_Model_handOf, .ref a_Model_crossedAt, .ref a_Model_strokeOf, .ref a_Model_prices, .ref a_Model_hitAt, .ref a_Model_carried])), (a_Model_now, .inl (cI, 187, .inl Model_now))] := hD
          refine lv_istore (lv' := [(8, .int r27), (7, .int x14), (0, .ref a_Model), (1, .int l1), (2, .ref a_N_latest), (3, .int l3), (4, .int l4), (5, .int l5), (6, .int l6)]) hx hb dX11_judge_129 hl (by decide) rfl (fun ls hl => ?_)
          refine lv_iload hx hb dX11_judge_131 (lv_at hl 7 rfl) ?_
          refine lv_iload hx hb dX11_judge_133 (lv_at hl 0 rfl) ?_
          refine lv_if_eq (tgt := 142) hx hb dX11_judge_135 (by decide) (fun c29 => ?_) (fun c29 => ?_)
          · have hf := ite_t c29 hf
            refine lv_iconst (v := 0) hx hb dX11_judge_142 (by decide) ?_
            exact hJ143 l1 l3 l4 l6 x14 r27 l5 0 Model_findings (upd (upd N_latest x14.toNatClampNeg x20) (1 - x14).toNatClampNeg r23) a_N_latest H locs ls (hP.sub [1, 2, 0] rfl) (hD.sub [1, 2, 0] (by decide) rfl) hS (lv_sub hl [2, 3, 4, 5, 6, 8, 1, 0] rfl) hf
          · have hf := ite_f c29 hf
            refine lv_iconst (v := 1) hx hb dX11_judge_138 (by decide) ?_
            refine lv_goto (tgt := 143) hx hb dX11_judge_139 (by decide) ?_
            exact hJ143 l1 l3 l4 l6 x14 r27 l5 1 Model_findings (upd (upd N_latest x14.toNatClampNeg x20) (1 - x14).toNatClampNeg r23) a_N_latest H locs ls (hP.sub [1, 2, 0] rfl) (hD.sub [1, 2, 0] (by decide) rfl) hS (lv_sub hl [2, 3, 4, 5, 6, 8, 1, 0] rfl) hf
        · have hf := ite_t c19 hf
          refine lv_aload_n hx hb dX11_judge_80 rfl (lv_at hl 1 rfl) ?_
          refine lv_ldc (v := (-100004)) hx hb hown kc79 dX11_judge_81 ?_
          obtain ⟨r30, y31, g32, hf⟩ := b2_s hf
          refine k_Vi (rest := []) ⟨hx, hb, hml, hown, hts⟩ (c_Model_finding l D cI cZ t a_Model a_Model_now a_Model_past a_Model_bits a_Model_sizes a_Model_sheets a_Model_least a_Model_ways a_Model_handOf a_Model_crossedAt a_Model_strokeOf a_Model_prices a_Model_hitAt a_Model_carried H.size Model_findings Model_kept Model_thenCost Model_thenWays Model_bothCost Model_bothWays (-100004) r30 y31 g32) (cwV 1 hts gX11_judge_X11_finding rfl rfl rfl (by decide +kernel) ⟨Nat.le_of_ble_eq_true rfl, Nat.le_of_ble_eq_true rfl⟩) hE hP hD hS hA [1] [0, 2] rfl rfl rfl rfl rfl 0 11 rfl rfl rfl rfl hl.1 rfl (Nat.le_of_ble_eq_true rfl) dX11_judge_83 ⟨Nat.le_of_ble_eq_true rfl, Nat.le_of_ble_eq_true rfl⟩ (fun rq uq H locs hrq hP hD hS => ?_)
          refine lv_tpx hrq.symm ?_
          have hP : va_P D vwCl [(a_N_latest, .inl (cI, 2, .inl N_latest)), (a_Model_now, .inl (cI, 187, .inl Model_now)), (a_Model, .inr (11, [.ref a_Model_now, .ref a_Model_past, .int Model_kept, .int y31, .ref a_Model_bits, .ref a_Model_sizes, .ref a_Model_sheets, .ref a_Model_least, .ref a_Model_ways, .int Model_thenCost, .int Model_thenWays, .int Model_bothCost, .int Model_bothWays, .ref a_Model_handOf, .ref a_Model_crossedAt, .ref a_Model_strokeOf, .ref a_Model_prices, .ref a_Model_hitAt, .ref a_Model_carried]))] H := hP
          have hD : va_D A [(a_N_latest, .inl (cI, 2, .inl N_latest)), (a_Model_now, .inl (cI, 187, .inl Model_now)), (a_Model, .inr (11, [.ref a_Model_now, .ref a_Model_past, .int Model_kept, .int y31, .ref a_Model_bits, .ref a_Model_sizes, .ref a_Model_sheets, .ref a_Model_least, .ref a_Model_ways, .int Model_thenCost, .int Model_thenWays, .int Model_bothCost, .int Model_bothWays, .ref a_Model_handOf, .ref a_Model_crossedAt, .ref a_Model_strokeOf, .ref a_Model_prices, .ref a_Model_hitAt, .ref a_Model_carried]))] := hD
          cases hf
          exact k_iret () hQ9 hx hb hr hlocks rfl (hP.sub [2, 1] rfl) (hD.sub [2, 1] (by decide) rfl) hS (Nat.le_of_ble_eq_true rfl) (Nat.le_of_ble_eq_true rfl) dX11_judge_86
  unfold f_Model_judge at hf
  refine lv_iload_n hx hb dX11_judge_0 rfl (lv_at hl 1 rfl) ?_
  refine lv_iconst (v := 0) hx hb dX11_judge_1 (by decide) ?_
  refine lv_iconst (v := 1) hx hb dX11_judge_2 (by decide) ?_
  refine lv_aload_n hx hb dX11_judge_3 rfl (lv_at hl 0 rfl) ?_
  refine va_get (D := D) (ci := 11) (v := .ref a_Model_now) (C := RX11) (T := TX11) (N := 19) hx hb hts inX11 hown hK hP 0 rfl rfl 0 (by decide) fl9 (fun _ h9 => h9) rfl dX11_judge_4 ?_
  refine lv_iconst (v := 0) hx hb dX11_judge_7 (by decide) ?_
  obtain ⟨ix33, x33, ex33, hf⟩ := rd_s hf
  refine va_iald hx hb hK hP 1 0 rfl rfl ix33 dX11_judge_8 ?_
  refine lv_tpx ex33 ?_
  refine lv_ishl hx hb dX11_judge_9 ?_
  obtain ⟨x34, ex34, hf⟩ := nm_s hf
  refine lv_tpx ex34 ?_
  refine lv_iconst (v := 1) hx hb dX11_judge_10 (by decide) ?_
  refine lv_isub hx hb dX11_judge_11 ?_
  obtain ⟨r35, g36, hf⟩ := b1_s hf
  refine k_Si (rest := []) ⟨hx, hb, hml, hown, hts⟩ (c_Model_within l D cI cZ t  s.heap.size p1 0 (x34 - 1) r35 g36) (va_cwS 3 hts gX11_judge_X11_within rfl rfl rfl (by decide +kernel) ⟨Nat.le_of_ble_eq_true rfl, Nat.le_of_ble_eq_true rfl⟩) hE hP hD hS hA [] [0, 1] rfl rfl rfl rfl rfl rfl hl.1 rfl (Nat.le_of_ble_eq_true rfl) dX11_judge_12 ⟨Nat.le_of_ble_eq_true rfl, Nat.le_of_ble_eq_true rfl⟩ (fun rq uq H locs hrq hP hD hS => ?_)
  refine lv_tpx hrq.symm ?_
  have hP : va_P D vwCl [(a_Model, .inr (11, [.ref a_Model_now, .ref a_Model_past, .int Model_kept, .int Model_findings, .ref a_Model_bits, .ref a_Model_sizes, .ref a_Model_sheets, .ref a_Model_least, .ref a_Model_ways, .int Model_thenCost, .int Model_thenWays, .int Model_bothCost, .int Model_bothWays, .ref a_Model_handOf, .ref a_Model_crossedAt, .ref a_Model_strokeOf, .ref a_Model_prices, .ref a_Model_hitAt, .ref a_Model_carried])), (a_Model_now, .inl (cI, 187, .inl Model_now))] H := hP
  have hD : va_D A [(a_Model, .inr (11, [.ref a_Model_now, .ref a_Model_past, .int Model_kept, .int Model_findings, .ref a_Model_bits, .ref a_Model_sizes, .ref a_Model_sheets, .ref a_Model_least, .ref a_Model_ways, .int Model_thenCost, .int Model_thenWays, .int Model_bothCost, .int Model_bothWays, .ref a_Model_handOf, .ref a_Model_crossedAt, .ref a_Model_strokeOf, .ref a_Model_prices, .ref a_Model_hitAt, .ref a_Model_carried])), (a_Model_now, .inl (cI, 187, .inl Model_now))] := hD
  refine lv_if_ne (tgt := 25) hx hb dX11_judge_15 (by decide) (fun c37 => ?_) (fun c37 => ?_)
  · have hf := ite_f c37 hf
    refine lv_iconst (v := 2) hx hb dX11_judge_25 (by decide) ?_
    refine va_newa (atype := .int) (ty := .int) (a0 := (2, .inl fun _ => 0)) (N' := 2) hx hb arc rfl hK hP hD hS hA (fun _ => rfl) (by decide) (by decide) (by decide) (Nat.le_of_ble_eq_true rfl) (Nat.le_of_ble_eq_true rfl) dX11_judge_26 (fun a_N_latest cA H hK9 hP hD hS => ?_)
    obtain rfl : cI = cA := arr_one hK9
    have hP : va_P D vwCl [(a_Model, .inr (11, [.ref a_Model_now, .ref a_Model_past, .int Model_kept, .int Model_findings, .ref a_Model_bits, .ref a_Model_sizes, .ref a_Model_sheets, .ref a_Model_least, .ref a_Model_ways, .int Model_thenCost, .int Model_thenWays, .int Model_bothCost, .int Model_bothWays, .ref a_Model_handOf, .ref a_Model_crossedAt, .ref a_Model_strokeOf, .ref a_Model_prices, .ref a_Model_hitAt, .ref a_Model_carried])), (a_Model_now, .inl (cI, 187, .inl Model_now)), (a_N_latest, .inl (cI, 2, .inl (fun _ => 0)))] H := hP
    have hD : va_D A [(a_Model, .inr (11, [.ref a_Model_now, .ref a_Model_past, .int Model_kept, .int Model_findings, .ref a_Model_bits, .ref a_Model_sizes, .ref a_Model_sheets, .ref a_Model_least, .ref a_Model_ways, .int Model_thenCost, .int Model_thenWays, .int Model_bothCost, .int Model_bothWays, .ref a_Model_handOf, .ref a_Model_crossedAt, .ref a_Model_strokeOf, .ref a_Model_prices, .ref a_Model_hitAt, .ref a_Model_carried])), (a_Model_now, .inl (cI, 187, .inl Model_now)), (a_N_latest, .inl (cI, 2, .inl (fun _ => 0)))] := hD
    refine lv_astore_n (lv' := [(2, .ref a_N_latest), (0, .ref a_Model), (1, .int p1)]) hx hb dX11_judge_28 rfl hl (by decide) rfl (fun ls hl => ?_)
    refine lv_iconst (v := (-1)) hx hb dX11_judge_29 (by decide) ?_
    refine lv_istore_n (lv' := [(3, .int (-1)), (2, .ref a_N_latest), (0, .ref a_Model), (1, .int p1)]) hx hb dX11_judge_30 rfl hl (by decide) rfl (fun ls hl => ?_)
    refine lv_iconst (v := 0) hx hb dX11_judge_31 (by decide) ?_
    refine lv_istore (lv' := [(4, .int 0), (3, .int (-1)), (2, .ref a_N_latest), (0, .ref a_Model), (1, .int p1)]) hx hb dX11_judge_32 hl (by decide) rfl (fun ls hl => ?_)
    refine lv_iconst (v := 0) hx hb dX11_judge_34 (by decide) ?_
    refine lv_istore (lv' := [(5, .int 0), (4, .int 0), (3, .int (-1)), (2, .ref a_N_latest), (0, .ref a_Model), (1, .int p1)]) hx hb dX11_judge_35 hl (by decide) rfl (fun ls hl => ?_)
    refine lv_iconst (v := 0) hx hb dX11_judge_37 (by decide) ?_
    refine lv_istore (lv' := [(6, .int 0), (5, .int 0), (4, .int 0), (3, .int (-1)), (2, .ref a_N_latest), (0, .ref a_Model), (1, .int p1)]) hx hb dX11_judge_38 hl (by decide) rfl (fun ls hl => ?_)
    exact hL40 fu p1 (-1) 0 0 0 Model_findings (fun _ => 0) a_N_latest H locs ls hP hD hS (lv_sub hl [5, 6, 4, 3, 2, 1, 0] rfl) hf
  · have hf := ite_t c37 hf
    refine lv_aload_n hx hb dX11_judge_18 rfl (lv_at hl 0 rfl) ?_
    refine lv_ldc (v := (-100001)) hx hb hown kc70 dX11_judge_19 ?_
    obtain ⟨r38, y39, g40, hf⟩ := b2_s hf
    refine k_Vi (rest := []) ⟨hx, hb, hml, hown, hts⟩ (c_Model_finding l D cI cZ t a_Model a_Model_now a_Model_past a_Model_bits a_Model_sizes a_Model_sheets a_Model_least a_Model_ways a_Model_handOf a_Model_crossedAt a_Model_strokeOf a_Model_prices a_Model_hitAt a_Model_carried H.size Model_findings Model_kept Model_thenCost Model_thenWays Model_bothCost Model_bothWays (-100001) r38 y39 g40) (cwV 1 hts gX11_judge_X11_finding rfl rfl rfl (by decide +kernel) ⟨Nat.le_of_ble_eq_true rfl, Nat.le_of_ble_eq_true rfl⟩) hE hP hD hS hA [0] [1] rfl rfl rfl rfl rfl 0 11 rfl rfl rfl rfl hl.1 rfl (Nat.le_of_ble_eq_true rfl) dX11_judge_21 ⟨Nat.le_of_ble_eq_true rfl, Nat.le_of_ble_eq_true rfl⟩ (fun rq uq H locs hrq hP hD hS => ?_)
    refine lv_tpx hrq.symm ?_
    have hP : va_P D vwCl [(a_Model_now, .inl (cI, 187, .inl Model_now)), (a_Model, .inr (11, [.ref a_Model_now, .ref a_Model_past, .int Model_kept, .int y39, .ref a_Model_bits, .ref a_Model_sizes, .ref a_Model_sheets, .ref a_Model_least, .ref a_Model_ways, .int Model_thenCost, .int Model_thenWays, .int Model_bothCost, .int Model_bothWays, .ref a_Model_handOf, .ref a_Model_crossedAt, .ref a_Model_strokeOf, .ref a_Model_prices, .ref a_Model_hitAt, .ref a_Model_carried]))] H := hP
    have hD : va_D A [(a_Model_now, .inl (cI, 187, .inl Model_now)), (a_Model, .inr (11, [.ref a_Model_now, .ref a_Model_past, .int Model_kept, .int y39, .ref a_Model_bits, .ref a_Model_sizes, .ref a_Model_sheets, .ref a_Model_least, .ref a_Model_ways, .int Model_thenCost, .int Model_thenWays, .int Model_bothCost, .int Model_bothWays, .ref a_Model_handOf, .ref a_Model_crossedAt, .ref a_Model_strokeOf, .ref a_Model_prices, .ref a_Model_hitAt, .ref a_Model_carried]))] := hD
    cases hf
    exact k_iret () hQ9 hx hb hr hlocks rfl (hP.sub [1, 0] rfl) (hD.sub [1, 0] (by decide) rfl) hS (Nat.le_of_ble_eq_true rfl) (Nat.le_of_ble_eq_true rfl) dX11_judge_24
abbrev rm_Model_split : Room := { frames := 3, cells := 0, slots := 0, locals := 66 }
set_option maxHeartbeats 4000000 in
set_option maxRecDepth 100000 in
theorem c_Model_split (l : Launch) (D : va_G) (cI cZ : ClassId) (t : Nat → Nat) (a_Model a_Model_now a_Model_past a_Model_bits a_Model_sizes a_Model_sheets a_Model_least a_Model_ways a_Model_handOf a_Model_crossedAt a_Model_strokeOf a_Model_prices a_Model_hitAt a_Model_carried sz : Nat) (Model_now : Nat → Int32) (Model_findings Model_kept Model_thenCost Model_thenWays Model_bothCost Model_bothWays p1 p2 p3 p4 zr z_Model_findings : Int32) (hf : f_Model_split Model_now Model_findings p1 p2 p3 p4 = some (zr, z_Model_findings)) : Met l yX11_split wsX11_split rm_Model_split (va_Pc [.ref a_Model, .int p1, .int p2, .int p3, .int p4] (pcW D cI cZ t [(a_Model, .inr (11, [.ref a_Model_now, .ref a_Model_past, .int Model_kept, .int Model_findings, .ref a_Model_bits, .ref a_Model_sizes, .ref a_Model_sheets, .ref a_Model_least, .ref a_Model_ways, .int Model_thenCost, .int Model_thenWays, .int Model_bothCost, .int Model_bothWays, .ref a_Model_handOf, .ref a_Model_crossedAt, .ref a_Model_strokeOf, .ref a_Model_prices, .ref a_Model_hitAt, .ref a_Model_carried])), (a_Model_now, .inl (cI, 187, .inl Model_now))] sz)) (va_Qi (fun r (u : Unit) => r = zr) (fun u t' => bW D (va_A [(a_Model, .inr (11, [.ref a_Model_now, .ref a_Model_past, .int Model_kept, .int Model_findings, .ref a_Model_bits, .ref a_Model_sizes, .ref a_Model_sheets, .ref a_Model_least, .ref a_Model_ways, .int Model_thenCost, .int Model_thenWays, .int Model_bothCost, .int Model_bothWays, .ref a_Model_handOf, .ref a_Model_crossedAt, .ref a_Model_strokeOf, .ref a_Model_prices, .ref a_Model_hitAt, .ref a_Model_carried])), (a_Model_now, .inl (cI, 187, .inl Model_now))] sz) [(a_Model, .inr (11, [.ref a_Model_now, .ref a_Model_past, .int Model_kept, .int z_Model_findings, .ref a_Model_bits, .ref a_Model_sizes, .ref a_Model_sheets, .ref a_Model_least, .ref a_Model_ways, .int Model_thenCost, .int Model_thenWays, .int Model_bothCost, .int Model_bothWays, .ref a_Model_handOf, .ref a_Model_crossedAt, .ref a_Model_strokeOf, .ref a_Model_prices, .ref a_Model_hitAt, .ref a_Model_carried])), (a_Model_now, .inl (cI, 187, .inl Model_now))] t') (va_A [(a_Model, .inr (11, [.ref a_Model_now, .ref a_Model_past, .int Model_kept, .int Model_findings, .ref a_Model_bits, .ref a_Model_sizes, .ref a_Model_sheets, .ref a_Model_least, .ref a_Model_ways, .int Model_thenCost, .int Model_thenWays, .int Model_bothCost, .int Model_bothWays, .ref a_Model_handOf, .ref a_Model_crossedAt, .ref a_Model_strokeOf, .ref a_Model_prices, .ref a_Model_hitAt, .ref a_Model_carried])), (a_Model_now, .inl (cI, 187, .inl Model_now))] sz)) 0 0 (va_A [(a_Model, .inr (11, [.ref a_Model_now, .ref a_Model_past, .int Model_kept, .int Model_findings, .ref a_Model_bits, .ref a_Model_sizes, .ref a_Model_sheets, .ref a_Model_least, .ref a_Model_ways, .int Model_thenCost, .int Model_thenWays, .int Model_bothCost, .int Model_bothWays, .ref a_Model_handOf, .ref a_Model_crossedAt, .ref a_Model_strokeOf, .ref a_Model_prices, .ref a_Model_hitAt, .ref a_Model_carried])), (a_Model_now, .inl (cI, 187, .inl Model_now))] sz) := by
  refine Met.ofW (cc := cX11_split) (maxL := 5) (ret := (some .int)) (by decide) rfl ?_
  intro p e s m args below meth c s₁ B hml hv
  obtain ⟨rfl, hsz, hP, hD0, hE⟩ := hv
  have hx := B.exec
  have hb := B.bytes
  have hr := B.returns
  have hts := atoms_spec (ws := wsX11_split) B.pre
  have hown : s.vm.findClass RX11 = some m.cls := findClass_of_methodNamed B.named
  have hlocks := B.notSynchronized
  subst hsz
  have hD := hD0.self (sz := s.heap.size)
  generalize hAe : va_A [(a_Model, .inr (11, [.ref a_Model_now, .ref a_Model_past, .int Model_kept, .int Model_findings, .ref a_Model_bits, .ref a_Model_sizes, .ref a_Model_sheets, .ref a_Model_least, .ref a_Model_ways, .int Model_thenCost, .int Model_thenWays, .int Model_bothCost, .int Model_bothWays, .ref a_Model_handOf, .ref a_Model_crossedAt, .ref a_Model_strokeOf, .ref a_Model_prices, .ref a_Model_hitAt, .ref a_Model_carried])), (a_Model_now, .inl (cI, 187, .inl Model_now))] s.heap.size = A at hD hE ⊢
  have hA : ∀ q : Nat, s.heap.size ≤ q → A q := fun q h => by rw [← hAe]; exact Or.inr h
  clear hAe hD0
  have hS : va_S A s.heap s.heap [] := va_S.rf
  have hK := hE.1
  have hl := lv_entry ([.ref a_Model, .int p1, .int p2, .int p3, .int p4]) (n := 5) (Nat.le_of_ble_eq_true rfl)
  rw [lg_entry_eq]
  generalize (lg_sl ([.ref a_Model, .int p1, .int p2, .int p3, .int p4]) ++ List.replicate (5 - (lg_sl ([.ref a_Model, .int p1, .int p2, .int p3, .int p4])).length) Slot.unset).toArray = ls at hl ⊢
  have hl : lv_has ls 5 [(0, .ref a_Model), (1, .int p1), (2, .int p2), (3, .int p3), (4, .int p4)] := hl
  refine w_q (fun Q9 hQ9 => ?_)
  have kc70 := hts (.constant RX11 70 (-100001)) (by decide +kernel)
  have fl9 := hts (.fieldLink RX11 9 "StickRoomModel" "now" "[I") (by decide +kernel)
  have inX11 : ∀ w ∈ wsX110, w ∈ wsX11_split := by decide +kernel
  have kc61 := hts (.constant RX11 61 (-100006)) (by decide +kernel)
  unfold f_Model_split at hf
  refine lv_aload_n hx hb dX11_split_0 rfl (lv_at hl 0 rfl) ?_
  refine lv_iload_n hx hb dX11_split_1 rfl (lv_at hl 1 rfl) ?_
  refine lv_iload_n hx hb dX11_split_2 rfl (lv_at hl 2 rfl) ?_
  refine lv_iload_n hx hb dX11_split_3 rfl (lv_at hl 3 rfl) ?_
  obtain ⟨r1, g2, hf⟩ := b1_s hf
  refine k_Vi (rest := []) ⟨hx, hb, hml, hown, hts⟩ (c_Model_isRun l D cI cZ t a_Model a_Model_now a_Model_past a_Model_bits a_Model_sizes a_Model_sheets a_Model_least a_Model_ways a_Model_handOf a_Model_crossedAt a_Model_strokeOf a_Model_prices a_Model_hitAt a_Model_carried s.heap.size Model_now Model_kept Model_findings Model_thenCost Model_thenWays Model_bothCost Model_bothWays p1 p2 p3 r1 g2) (cwV 3 hts gX11_split_X11_isRun rfl rfl rfl (by decide +kernel) ⟨Nat.le_of_ble_eq_true rfl, Nat.le_of_ble_eq_true rfl⟩) hE hP hD hS hA [0, 1] [] rfl rfl rfl rfl rfl 0 11 rfl rfl rfl rfl hl.1 rfl (Nat.le_of_ble_eq_true rfl) dX11_split_4 ⟨Nat.le_of_ble_eq_true rfl, Nat.le_of_ble_eq_true rfl⟩ (fun rq uq H locs hrq hP hD hS => ?_)
  refine lv_tpx hrq.symm ?_
  have hP : va_P D vwCl [(a_Model, .inr (11, [.ref a_Model_now, .ref a_Model_past, .int Model_kept, .int Model_findings, .ref a_Model_bits, .ref a_Model_sizes, .ref a_Model_sheets, .ref a_Model_least, .ref a_Model_ways, .int Model_thenCost, .int Model_thenWays, .int Model_bothCost, .int Model_bothWays, .ref a_Model_handOf, .ref a_Model_crossedAt, .ref a_Model_strokeOf, .ref a_Model_prices, .ref a_Model_hitAt, .ref a_Model_carried])), (a_Model_now, .inl (cI, 187, .inl Model_now))] H := hP
  have hD : va_D A [(a_Model, .inr (11, [.ref a_Model_now, .ref a_Model_past, .int Model_kept, .int Model_findings, .ref a_Model_bits, .ref a_Model_sizes, .ref a_Model_sheets, .ref a_Model_least, .ref a_Model_ways, .int Model_thenCost, .int Model_thenWays, .int Model_bothCost, .int Model_bothWays, .ref a_Model_handOf, .ref a_Model_crossedAt, .ref a_Model_strokeOf, .ref a_Model_prices, .ref a_Model_hitAt, .ref a_Model_carried])), (a_Model_now, .inl (cI, 187, .inl Model_now))] := hD
  refine lv_if_eq (tgt := 20) hx hb dX11_split_7 (by decide) (fun c3 => ?_) (fun c3 => ?_)
  · have hf := ite_t c3 hf
    refine lv_aload_n hx hb dX11_split_20 rfl (lv_at hl 0 rfl) ?_
    refine lv_ldc (v := (-100001)) hx hb hown kc70 dX11_split_21 ?_
    obtain ⟨r4, y5, g6, hf⟩ := b2_s hf
    refine k_Vi (rest := []) ⟨hx, hb, hml, hown, hts⟩ (c_Model_finding l D cI cZ t a_Model a_Model_now a_Model_past a_Model_bits a_Model_sizes a_Model_sheets a_Model_least a_Model_ways a_Model_handOf a_Model_crossedAt a_Model_strokeOf a_Model_prices a_Model_hitAt a_Model_carried H.size Model_findings Model_kept Model_thenCost Model_thenWays Model_bothCost Model_bothWays (-100001) r4 y5 g6) (cwV 1 hts gX11_split_X11_finding rfl rfl rfl (by decide +kernel) ⟨Nat.le_of_ble_eq_true rfl, Nat.le_of_ble_eq_true rfl⟩) hE hP hD hS hA [0] [1] rfl rfl rfl rfl rfl 0 11 rfl rfl rfl rfl hl.1 rfl (Nat.le_of_ble_eq_true rfl) dX11_split_23 ⟨Nat.le_of_ble_eq_true rfl, Nat.le_of_ble_eq_true rfl⟩ (fun rq uq H locs hrq hP hD hS => ?_)
    refine lv_tpx hrq.symm ?_
    have hP : va_P D vwCl [(a_Model_now, .inl (cI, 187, .inl Model_now)), (a_Model, .inr (11, [.ref a_Model_now, .ref a_Model_past, .int Model_kept, .int y5, .ref a_Model_bits, .ref a_Model_sizes, .ref a_Model_sheets, .ref a_Model_least, .ref a_Model_ways, .int Model_thenCost, .int Model_thenWays, .int Model_bothCost, .int Model_bothWays, .ref a_Model_handOf, .ref a_Model_crossedAt, .ref a_Model_strokeOf, .ref a_Model_prices, .ref a_Model_hitAt, .ref a_Model_carried]))] H := hP
    have hD : va_D A [(a_Model_now, .inl (cI, 187, .inl Model_now)), (a_Model, .inr (11, [.ref a_Model_now, .ref a_Model_past, .int Model_kept, .int y5, .ref a_Model_bits, .ref a_Model_sizes, .ref a_Model_sheets, .ref a_Model_least, .ref a_Model_ways, .int Model_thenCost, .int Model_thenWays, .int Model_bothCost, .int Model_bothWays, .ref a_Model_handOf, .ref a_Model_crossedAt, .ref a_Model_strokeOf, .ref a_Model_prices, .ref a_Model_hitAt, .ref a_Model_carried]))] := hD
    cases hf
    exact k_iret () hQ9 hx hb hr hlocks rfl (hP.sub [1, 0] rfl) (hD.sub [1, 0] (by decide) rfl) hS (Nat.le_of_ble_eq_true rfl) (Nat.le_of_ble_eq_true rfl) dX11_split_26
  · have hf := ite_f c3 hf
    refine lv_iload hx hb dX11_split_10 (lv_at hl 4 rfl) ?_
    refine lv_iload_n hx hb dX11_split_12 rfl (lv_at hl 1 rfl) ?_
    refine lv_iload_n hx hb dX11_split_13 rfl (lv_at hl 2 rfl) ?_
    obtain ⟨r7, g8, hf⟩ := b1_s hf
    refine k_Si (rest := []) ⟨hx, hb, hml, hown, hts⟩ (c_Model_within l D cI cZ t  H.size p4 p1 p2 r7 g8) (va_cwS 3 hts gX11_split_X11_within rfl rfl rfl (by decide +kernel) ⟨Nat.le_of_ble_eq_true rfl, Nat.le_of_ble_eq_true rfl⟩) hE hP hD hS hA [] [0, 1] rfl rfl rfl rfl rfl rfl hl.1 rfl (Nat.le_of_ble_eq_true rfl) dX11_split_14 ⟨Nat.le_of_ble_eq_true rfl, Nat.le_of_ble_eq_true rfl⟩ (fun rq uq H locs hrq hP hD hS => ?_)
    refine lv_tpx hrq.symm ?_
    have hP : va_P D vwCl [(a_Model, .inr (11, [.ref a_Model_now, .ref a_Model_past, .int Model_kept, .int Model_findings, .ref a_Model_bits, .ref a_Model_sizes, .ref a_Model_sheets, .ref a_Model_least, .ref a_Model_ways, .int Model_thenCost, .int Model_thenWays, .int Model_bothCost, .int Model_bothWays, .ref a_Model_handOf, .ref a_Model_crossedAt, .ref a_Model_strokeOf, .ref a_Model_prices, .ref a_Model_hitAt, .ref a_Model_carried])), (a_Model_now, .inl (cI, 187, .inl Model_now))] H := hP
    have hD : va_D A [(a_Model, .inr (11, [.ref a_Model_now, .ref a_Model_past, .int Model_kept, .int Model_findings, .ref a_Model_bits, .ref a_Model_sizes, .ref a_Model_sheets, .ref a_Model_least, .ref a_Model_ways, .int Model_thenCost, .int Model_thenWays, .int Model_bothCost, .int Model_bothWays, .ref a_Model_handOf, .ref a_Model_crossedAt, .ref a_Model_strokeOf, .ref a_Model_prices, .ref a_Model_hitAt, .ref a_Model_carried])), (a_Model_now, .inl (cI, 187, .inl Model_now))] := hD
    refine lv_if_ne (tgt := 27) hx hb dX11_split_17 (by decide) (fun c9 => ?_) (fun c9 => ?_)
    · have hf := ite_f c9 hf
      refine lv_aload_n hx hb dX11_split_27 rfl (lv_at hl 0 rfl) ?_
      refine va_get (D := D) (ci := 11) (v := .ref a_Model_now) (C := RX11) (T := TX11) (N := 19) hx hb hts inX11 hown hK hP 0 rfl rfl 0 (by decide) fl9 (fun _ h9 => h9) rfl dX11_split_28 ?_
      refine lv_iconst (v := 1) hx hb dX11_split_31 (by decide) ?_
      obtain ⟨ix10, x10, ex10, hf⟩ := rd_s hf
      refine va_iald hx hb hK hP 1 0 rfl rfl ix10 dX11_split_32 ?_
      refine lv_tpx ex10 ?_
      refine lv_if_ne (tgt := 45) hx hb dX11_split_33 (by decide) (fun c11 => ?_) (fun c11 => ?_)
      · have hf := ite_f c11 hf
        refine lv_aload_n hx hb dX11_split_45 rfl (lv_at hl 0 rfl) ?_
        refine lv_iload_n hx hb dX11_split_46 rfl (lv_at hl 3 rfl) ?_
        refine lv_iload hx hb dX11_split_47 (lv_at hl 4 rfl) ?_
        refine lv_iload_n hx hb dX11_split_49 rfl (lv_at hl 1 rfl) ?_
        refine lv_isub hx hb dX11_split_50 ?_
        obtain ⟨r12, g13, hf⟩ := b1_s hf
        refine k_Vi (rest := []) ⟨hx, hb, hml, hown, hts⟩ (c_Model_bassOf l D cI cZ t a_Model a_Model_now a_Model_past a_Model_bits a_Model_sizes a_Model_sheets a_Model_least a_Model_ways a_Model_handOf a_Model_crossedAt a_Model_strokeOf a_Model_prices a_Model_hitAt a_Model_carried H.size Model_now Model_kept Model_findings Model_thenCost Model_thenWays Model_bothCost Model_bothWays p3 (p4 - p1) r12 g13) (cwV 2 hts gX11_split_X11_bassOf rfl rfl rfl (by decide +kernel) ⟨Nat.le_of_ble_eq_true rfl, Nat.le_of_ble_eq_true rfl⟩) hE hP hD hS hA [0, 1] [] rfl rfl rfl rfl rfl 0 11 rfl rfl rfl rfl hl.1 rfl (Nat.le_of_ble_eq_true rfl) dX11_split_51 ⟨Nat.le_of_ble_eq_true rfl, Nat.le_of_ble_eq_true rfl⟩ (fun rq uq H locs hrq hP hD hS => ?_)
        refine lv_tpx hrq.symm ?_
        have hP : va_P D vwCl [(a_Model, .inr (11, [.ref a_Model_now, .ref a_Model_past, .int Model_kept, .int Model_findings, .ref a_Model_bits, .ref a_Model_sizes, .ref a_Model_sheets, .ref a_Model_least, .ref a_Model_ways, .int Model_thenCost, .int Model_thenWays, .int Model_bothCost, .int Model_bothWays, .ref a_Model_handOf, .ref a_Model_crossedAt, .ref a_Model_strokeOf, .ref a_Model_prices, .ref a_Model_hitAt, .ref a_Model_carried])), (a_Model_now, .inl (cI, 187, .inl Model_now))] H := hP
        have hD : va_D A [(a_Model, .inr (11, [.ref a_Model_now, .ref a_Model_past, .int Model_kept, .int Model_findings, .ref a_Model_bits, .ref a_Model_sizes, .ref a_Model_sheets, .ref a_Model_least, .ref a_Model_ways, .int Model_thenCost, .int Model_thenWays, .int Model_bothCost, .int Model_bothWays, .ref a_Model_handOf, .ref a_Model_crossedAt, .ref a_Model_strokeOf, .ref a_Model_prices, .ref a_Model_hitAt, .ref a_Model_carried])), (a_Model_now, .inl (cI, 187, .inl Model_now))] := hD
        cases hf
        exact k_iret () hQ9 hx hb hr hlocks rfl hP hD hS (Nat.le_of_ble_eq_true rfl) (Nat.le_of_ble_eq_true rfl) dX11_split_54
      · have hf := ite_t c11 hf
        refine lv_aload_n hx hb dX11_split_36 rfl (lv_at hl 0 rfl) ?_
        refine lv_ldc (v := (-100006)) hx hb hown kc61 dX11_split_37 ?_
        obtain ⟨r14, y15, g16, hf⟩ := b2_s hf
        refine k_Vi (rest := []) ⟨hx, hb, hml, hown, hts⟩ (c_Model_finding l D cI cZ t a_Model a_Model_now a_Model_past a_Model_bits a_Model_sizes a_Model_sheets a_Model_least a_Model_ways a_Model_handOf a_Model_crossedAt a_Model_strokeOf a_Model_prices a_Model_hitAt a_Model_carried H.size Model_findings Model_kept Model_thenCost Model_thenWays Model_bothCost Model_bothWays (-100006) r14 y15 g16) (cwV 1 hts gX11_split_X11_finding rfl rfl rfl (by decide +kernel) ⟨Nat.le_of_ble_eq_true rfl, Nat.le_of_ble_eq_true rfl⟩) hE hP hD hS hA [0] [1] rfl rfl rfl rfl rfl 0 11 rfl rfl rfl rfl hl.1 rfl (Nat.le_of_ble_eq_true rfl) dX11_split_39 ⟨Nat.le_of_ble_eq_true rfl, Nat.le_of_ble_eq_true rfl⟩ (fun rq uq H locs hrq hP hD hS => ?_)
        refine lv_tpx hrq.symm ?_
        have hP : va_P D vwCl [(a_Model_now, .inl (cI, 187, .inl Model_now)), (a_Model, .inr (11, [.ref a_Model_now, .ref a_Model_past, .int Model_kept, .int y15, .ref a_Model_bits, .ref a_Model_sizes, .ref a_Model_sheets, .ref a_Model_least, .ref a_Model_ways, .int Model_thenCost, .int Model_thenWays, .int Model_bothCost, .int Model_bothWays, .ref a_Model_handOf, .ref a_Model_crossedAt, .ref a_Model_strokeOf, .ref a_Model_prices, .ref a_Model_hitAt, .ref a_Model_carried]))] H := hP
        have hD : va_D A [(a_Model_now, .inl (cI, 187, .inl Model_now)), (a_Model, .inr (11, [.ref a_Model_now, .ref a_Model_past, .int Model_kept, .int y15, .ref a_Model_bits, .ref a_Model_sizes, .ref a_Model_sheets, .ref a_Model_least, .ref a_Model_ways, .int Model_thenCost, .int Model_thenWays, .int Model_bothCost, .int Model_bothWays, .ref a_Model_handOf, .ref a_Model_crossedAt, .ref a_Model_strokeOf, .ref a_Model_prices, .ref a_Model_hitAt, .ref a_Model_carried]))] := hD
        refine lv_goto (tgt := 54) hx hb dX11_split_42 (by decide) ?_
        cases hf
        exact k_iret () hQ9 hx hb hr hlocks rfl (hP.sub [1, 0] rfl) (hD.sub [1, 0] (by decide) rfl) hS (Nat.le_of_ble_eq_true rfl) (Nat.le_of_ble_eq_true rfl) dX11_split_54
    · have hf := ite_t c9 hf
      refine lv_aload_n hx hb dX11_split_20 rfl (lv_at hl 0 rfl) ?_
      refine lv_ldc (v := (-100001)) hx hb hown kc70 dX11_split_21 ?_
      obtain ⟨r17, y18, g19, hf⟩ := b2_s hf
      refine k_Vi (rest := []) ⟨hx, hb, hml, hown, hts⟩ (c_Model_finding l D cI cZ t a_Model a_Model_now a_Model_past a_Model_bits a_Model_sizes a_Model_sheets a_Model_least a_Model_ways a_Model_handOf a_Model_crossedAt a_Model_strokeOf a_Model_prices a_Model_hitAt a_Model_carried H.size Model_findings Model_kept Model_thenCost Model_thenWays Model_bothCost Model_bothWays (-100001) r17 y18 g19) (cwV 1 hts gX11_split_X11_finding rfl rfl rfl (by decide +kernel) ⟨Nat.le_of_ble_eq_true rfl, Nat.le_of_ble_eq_true rfl⟩) hE hP hD hS hA [0] [1] rfl rfl rfl rfl rfl 0 11 rfl rfl rfl rfl hl.1 rfl (Nat.le_of_ble_eq_true rfl) dX11_split_23 ⟨Nat.le_of_ble_eq_true rfl, Nat.le_of_ble_eq_true rfl⟩ (fun rq uq H locs hrq hP hD hS => ?_)
      refine lv_tpx hrq.symm ?_
      have hP : va_P D vwCl [(a_Model_now, .inl (cI, 187, .inl Model_now)), (a_Model, .inr (11, [.ref a_Model_now, .ref a_Model_past, .int Model_kept, .int y18, .ref a_Model_bits, .ref a_Model_sizes, .ref a_Model_sheets, .ref a_Model_least, .ref a_Model_ways, .int Model_thenCost, .int Model_thenWays, .int Model_bothCost, .int Model_bothWays, .ref a_Model_handOf, .ref a_Model_crossedAt, .ref a_Model_strokeOf, .ref a_Model_prices, .ref a_Model_hitAt, .ref a_Model_carried]))] H := hP
      have hD : va_D A [(a_Model_now, .inl (cI, 187, .inl Model_now)), (a_Model, .inr (11, [.ref a_Model_now, .ref a_Model_past, .int Model_kept, .int y18, .ref a_Model_bits, .ref a_Model_sizes, .ref a_Model_sheets, .ref a_Model_least, .ref a_Model_ways, .int Model_thenCost, .int Model_thenWays, .int Model_bothCost, .int Model_bothWays, .ref a_Model_handOf, .ref a_Model_crossedAt, .ref a_Model_strokeOf, .ref a_Model_prices, .ref a_Model_hitAt, .ref a_Model_carried]))] := hD
      cases hf
      exact k_iret () hQ9 hx hb hr hlocks rfl (hP.sub [1, 0] rfl) (hD.sub [1, 0] (by decide) rfl) hS (Nat.le_of_ble_eq_true rfl) (Nat.le_of_ble_eq_true rfl) dX11_split_26
abbrev rm_Model_has : Room := { frames := 3, cells := 0, slots := 0, locals := 66 }
set_option maxHeartbeats 4000000 in
set_option maxRecDepth 100000 in
theorem c_Model_has (l : Launch) (D : va_G) (cI cZ : ClassId) (t : Nat → Nat) (a_Model a_Model_now a_Model_past a_Model_bits a_Model_sizes a_Model_sheets a_Model_least a_Model_ways a_Model_handOf a_Model_crossedAt a_Model_strokeOf a_Model_prices a_Model_hitAt a_Model_carried sz : Nat) (Model_now : Nat → Int32) (Model_findings Model_kept Model_thenCost Model_thenWays Model_bothCost Model_bothWays p1 p2 p3 p4 zr z_Model_findings : Int32) (hf : f_Model_has Model_now Model_findings p1 p2 p3 p4 = some (zr, z_Model_findings)) : Met l yX11_has wsX11_has rm_Model_has (va_Pc [.ref a_Model, .int p1, .int p2, .int p3, .int p4] (pcW D cI cZ t [(a_Model, .inr (11, [.ref a_Model_now, .ref a_Model_past, .int Model_kept, .int Model_findings, .ref a_Model_bits, .ref a_Model_sizes, .ref a_Model_sheets, .ref a_Model_least, .ref a_Model_ways, .int Model_thenCost, .int Model_thenWays, .int Model_bothCost, .int Model_bothWays, .ref a_Model_handOf, .ref a_Model_crossedAt, .ref a_Model_strokeOf, .ref a_Model_prices, .ref a_Model_hitAt, .ref a_Model_carried])), (a_Model_now, .inl (cI, 187, .inl Model_now))] sz)) (va_Qi (fun r (u : Unit) => r = zr) (fun u t' => bW D (va_A [(a_Model, .inr (11, [.ref a_Model_now, .ref a_Model_past, .int Model_kept, .int Model_findings, .ref a_Model_bits, .ref a_Model_sizes, .ref a_Model_sheets, .ref a_Model_least, .ref a_Model_ways, .int Model_thenCost, .int Model_thenWays, .int Model_bothCost, .int Model_bothWays, .ref a_Model_handOf, .ref a_Model_crossedAt, .ref a_Model_strokeOf, .ref a_Model_prices, .ref a_Model_hitAt, .ref a_Model_carried])), (a_Model_now, .inl (cI, 187, .inl Model_now))] sz) [(a_Model, .inr (11, [.ref a_Model_now, .ref a_Model_past, .int Model_kept, .int z_Model_findings, .ref a_Model_bits, .ref a_Model_sizes, .ref a_Model_sheets, .ref a_Model_least, .ref a_Model_ways, .int Model_thenCost, .int Model_thenWays, .int Model_bothCost, .int Model_bothWays, .ref a_Model_handOf, .ref a_Model_crossedAt, .ref a_Model_strokeOf, .ref a_Model_prices, .ref a_Model_hitAt, .ref a_Model_carried])), (a_Model_now, .inl (cI, 187, .inl Model_now))] t') (va_A [(a_Model, .inr (11, [.ref a_Model_now, .ref a_Model_past, .int Model_kept, .int Model_findings, .ref a_Model_bits, .ref a_Model_sizes, .ref a_Model_sheets, .ref a_Model_least, .ref a_Model_ways, .int Model_thenCost, .int Model_thenWays, .int Model_bothCost, .int Model_bothWays, .ref a_Model_handOf, .ref a_Model_crossedAt, .ref a_Model_strokeOf, .ref a_Model_prices, .ref a_Model_hitAt, .ref a_Model_carried])), (a_Model_now, .inl (cI, 187, .inl Model_now))] sz)) 0 0 (va_A [(a_Model, .inr (11, [.ref a_Model_now, .ref a_Model_past, .int Model_kept, .int Model_findings, .ref a_Model_bits, .ref a_Model_sizes, .ref a_Model_sheets, .ref a_Model_least, .ref a_Model_ways, .int Model_thenCost, .int Model_thenWays, .int Model_bothCost, .int Model_bothWays, .ref a_Model_handOf, .ref a_Model_crossedAt, .ref a_Model_strokeOf, .ref a_Model_prices, .ref a_Model_hitAt, .ref a_Model_carried])), (a_Model_now, .inl (cI, 187, .inl Model_now))] sz) := by
  refine Met.ofW (cc := cX11_has) (maxL := 7) (ret := (some .int)) (by decide) rfl ?_
  intro p e s m args below meth c s₁ B hml hv
  obtain ⟨rfl, hsz, hP, hD0, hE⟩ := hv
  have hx := B.exec
  have hb := B.bytes
  have hr := B.returns
  have hts := atoms_spec (ws := wsX11_has) B.pre
  have hown : s.vm.findClass RX11 = some m.cls := findClass_of_methodNamed B.named
  have hlocks := B.notSynchronized
  subst hsz
  have hD := hD0.self (sz := s.heap.size)
  generalize hAe : va_A [(a_Model, .inr (11, [.ref a_Model_now, .ref a_Model_past, .int Model_kept, .int Model_findings, .ref a_Model_bits, .ref a_Model_sizes, .ref a_Model_sheets, .ref a_Model_least, .ref a_Model_ways, .int Model_thenCost, .int Model_thenWays, .int Model_bothCost, .int Model_bothWays, .ref a_Model_handOf, .ref a_Model_crossedAt, .ref a_Model_strokeOf, .ref a_Model_prices, .ref a_Model_hitAt, .ref a_Model_carried])), (a_Model_now, .inl (cI, 187, .inl Model_now))] s.heap.size = A at hD hE ⊢
  have hA : ∀ q : Nat, s.heap.size ≤ q → A q := fun q h => by rw [← hAe]; exact Or.inr h
  clear hAe hD0
  have hS : va_S A s.heap s.heap [] := va_S.rf
  have hK := hE.1
  have hl := lv_entry ([.ref a_Model, .int p1, .int p2, .int p3, .int p4]) (n := 7) (Nat.le_of_ble_eq_true rfl)
  rw [lg_entry_eq]
  generalize (lg_sl ([.ref a_Model, .int p1, .int p2, .int p3, .int p4]) ++ List.replicate (7 - (lg_sl ([.ref a_Model, .int p1, .int p2, .int p3, .int p4])).length) Slot.unset).toArray = ls at hl ⊢
  have hl : lv_has ls 7 [(0, .ref a_Model), (1, .int p1), (2, .int p2), (3, .int p3), (4, .int p4)] := hl
  refine w_q (fun Q9 hQ9 => ?_)
  have kc70 := hts (.constant RX11 70 (-100001)) (by decide +kernel)
  have fl9 := hts (.fieldLink RX11 9 "StickRoomModel" "now" "[I") (by decide +kernel)
  have inX11 : ∀ w ∈ wsX110, w ∈ wsX11_has := by decide +kernel
  have kc61 := hts (.constant RX11 61 (-100006)) (by decide +kernel)
  have hL49 : ∀ (n49 : Nat) (l1 l2 l3 l4 l5 l6 Model_findings : Int32) (H : Heap) (locs : List Loc) (ls : Array Slot), va_P D vwCl [(a_Model, .inr (11, [.ref a_Model_now, .ref a_Model_past, .int Model_kept, .int Model_findings, .ref a_Model_bits, .ref a_Model_sizes, .ref a_Model_sheets, .ref a_Model_least, .ref a_Model_ways, .int Model_thenCost, .int Model_thenWays, .int Model_bothCost, .int Model_bothWays, .ref a_Model_handOf, .ref a_Model_crossedAt, .ref a_Model_strokeOf, .ref a_Model_prices, .ref a_Model_hitAt, .ref a_Model_carried])), (a_Model_now, .inl (cI, 187, .inl Model_now))] H → va_D A [(a_Model, .inr (11, [.ref a_Model_now, .ref a_Model_past, .int Model_kept, .int Model_findings, .ref a_Model_bits, .ref a_Model_sizes, .ref a_Model_sheets, .ref a_Model_least, .ref a_Model_ways, .int Model_thenCost, .int Model_thenWays, .int Model_bothCost, .int Model_bothWays, .ref a_Model_handOf, .ref a_Model_crossedAt, .ref a_Model_strokeOf, .ref a_Model_prices, .ref a_Model_hitAt, .ref a_Model_carried])), (a_Model_now, .inl (cI, 187, .inl Model_now))] → va_S A s.heap H locs → lv_has ls 7 [(0, .ref a_Model), (1, .int l1), (2, .int l2), (3, .int l3), (4, .int l4), (5, .int l5), (6, .int l6)] → f_Model_has_49 Model_now  n49 l1 l2 l3 l4 l5 l6 Model_findings = some (zr, z_Model_findings) → W p l e (headSpec wsX11_has rm_Model_has).room s m ([.ref a_Model, .int p1, .int p2, .int p3, .int p4] : List Value).toArray below meth c H locs 0 0 Q9 (F0 m 49 ls []) := by
    intro n49
    induction n49 with
    | zero => intro l1 l2 l3 l4 l5 l6 Model_findings H locs ls hP hD hS hl hf; exact nomatch (show none = some (zr, z_Model_findings) from hf)
    | succ n49 ih49 =>
      intro l1 l2 l3 l4 l5 l6 Model_findings H locs ls hP hD hS hl hf
      have hf : f_Model_has_49_b Model_now  (f_Model_has_49 Model_now  n49) l1 l2 l3 l4 l5 l6 Model_findings = some (zr, z_Model_findings) := hf
      unfold f_Model_has_49_b at hf
      refine lv_iload hx hb dX11_has_49 (lv_at hl 6 rfl) ?_
      refine lv_iload_n hx hb dX11_has_51 rfl (lv_at hl 2 rfl) ?_
      refine lv_iload_n hx hb dX11_has_52 rfl (lv_at hl 1 rfl) ?_
      refine lv_isub hx hb dX11_has_53 ?_
      refine lv_icmp_gt (tgt := 85) hx hb dX11_has_54 (by decide) (fun c1 => ?_) (fun c1 => ?_)
      · have hf := ite_t c1 hf
        refine lv_iload hx hb dX11_has_85 (lv_at hl 5 rfl) ?_
        cases hf
        exact k_iret () hQ9 hx hb hr hlocks rfl hP hD hS (Nat.le_of_ble_eq_true rfl) (Nat.le_of_ble_eq_true rfl) dX11_has_87
      · have hf := ite_f c1 hf
        refine lv_iload hx hb dX11_has_57 (lv_at hl 5 rfl) ?_
        refine lv_aload_n hx hb dX11_has_59 rfl (lv_at hl 0 rfl) ?_
        refine lv_iload_n hx hb dX11_has_60 rfl (lv_at hl 3 rfl) ?_
        refine lv_iload hx hb dX11_has_61 (lv_at hl 6 rfl) ?_
        obtain ⟨r2, g3, hf⟩ := b1_s hf
        refine k_Vi (rest := [.int l5]) ⟨hx, hb, hml, hown, hts⟩ (c_Model_bassOf l D cI cZ t a_Model a_Model_now a_Model_past a_Model_bits a_Model_sizes a_Model_sheets a_Model_least a_Model_ways a_Model_handOf a_Model_crossedAt a_Model_strokeOf a_Model_prices a_Model_hitAt a_Model_carried H.size Model_now Model_kept Model_findings Model_thenCost Model_thenWays Model_bothCost Model_bothWays l3 l6 r2 g3) (cwV 2 hts gX11_has_X11_bassOf rfl rfl rfl (by decide +kernel) ⟨Nat.le_of_ble_eq_true rfl, Nat.le_of_ble_eq_true rfl⟩) hE hP hD hS hA [0, 1] [] rfl rfl rfl rfl rfl 0 11 rfl rfl rfl rfl hl.1 rfl (Nat.le_of_ble_eq_true rfl) dX11_has_63 ⟨Nat.le_of_ble_eq_true rfl, Nat.le_of_ble_eq_true rfl⟩ (fun rq uq H locs hrq hP hD hS => ?_)
        refine lv_tpx hrq.symm ?_
        have hP : va_P D vwCl [(a_Model, .inr (11, [.ref a_Model_now, .ref a_Model_past, .int Model_kept, .int Model_findings, .ref a_Model_bits, .ref a_Model_sizes, .ref a_Model_sheets, .ref a_Model_least, .ref a_Model_ways, .int Model_thenCost, .int Model_thenWays, .int Model_bothCost, .int Model_bothWays, .ref a_Model_handOf, .ref a_Model_crossedAt, .ref a_Model_strokeOf, .ref a_Model_prices, .ref a_Model_hitAt, .ref a_Model_carried])), (a_Model_now, .inl (cI, 187, .inl Model_now))] H := hP
        have hD : va_D A [(a_Model, .inr (11, [.ref a_Model_now, .ref a_Model_past, .int Model_kept, .int Model_findings, .ref a_Model_bits, .ref a_Model_sizes, .ref a_Model_sheets, .ref a_Model_least, .ref a_Model_ways, .int Model_thenCost, .int Model_thenWays, .int Model_bothCost, .int Model_bothWays, .ref a_Model_handOf, .ref a_Model_crossedAt, .ref a_Model_strokeOf, .ref a_Model_prices, .ref a_Model_hitAt, .ref a_Model_carried])), (a_Model_now, .inl (cI, 187, .inl Model_now))] := hD
        refine lv_iload hx hb dX11_has_66 (lv_at hl 4 rfl) ?_
        refine lv_icmp_ne (tgt := 75) hx hb dX11_has_68 (by decide) (fun c4 => ?_) (fun c4 => ?_)
        · have hf := ite_f c4 hf
          refine lv_iconst (v := 0) hx hb dX11_has_75 (by decide) ?_
          refine lv_iadd hx hb dX11_has_76 ?_
          obtain ⟨x5, ex5, hf⟩ := nm_s hf
          refine lv_tpx ex5 ?_
          refine lv_istore (lv' := [(5, .int x5), (0, .ref a_Model), (1, .int l1), (2, .int l2), (3, .int l3), (4, .int l4), (6, .int l6)]) hx hb dX11_has_77 hl (by decide) rfl (fun ls hl => ?_)
          obtain ⟨x6, ex6, hf⟩ := nm_s hf
          refine lv_iinc (v := x6) (lv' := [(6, .int x6), (5, .int x5), (0, .ref a_Model), (1, .int l1), (2, .int l2), (3, .int l3), (4, .int l4)]) hx hb dX11_has_79 hl (k := 6) rfl (by rw [ex6]; rfl) (by decide) rfl (fun ls hl => ?_)
          refine lv_goto (tgt := 49) hx hb dX11_has_82 (by decide) ?_
          exact ih49 l1 l2 l3 l4 x5 x6 Model_findings H locs ls hP hD hS (lv_sub hl [2, 3, 4, 5, 6, 1, 0] rfl) hf
        · have hf := ite_t c4 hf
          refine lv_iconst (v := 1) hx hb dX11_has_71 (by decide) ?_
          refine lv_goto (tgt := 76) hx hb dX11_has_72 (by decide) ?_
          refine lv_iadd hx hb dX11_has_76 ?_
          obtain ⟨x7, ex7, hf⟩ := nm_s hf
          refine lv_tpx ex7 ?_
          refine lv_istore (lv' := [(5, .int x7), (0, .ref a_Model), (1, .int l1), (2, .int l2), (3, .int l3), (4, .int l4), (6, .int l6)]) hx hb dX11_has_77 hl (by decide) rfl (fun ls hl => ?_)
          obtain ⟨x8, ex8, hf⟩ := nm_s hf
          refine lv_iinc (v := x8) (lv' := [(6, .int x8), (5, .int x7), (0, .ref a_Model), (1, .int l1), (2, .int l2), (3, .int l3), (4, .int l4)]) hx hb dX11_has_79 hl (k := 6) rfl (by rw [ex8]; rfl) (by decide) rfl (fun ls hl => ?_)
          refine lv_goto (tgt := 49) hx hb dX11_has_82 (by decide) ?_
          exact ih49 l1 l2 l3 l4 x7 x8 Model_findings H locs ls hP hD hS (lv_sub hl [2, 3, 4, 5, 6, 1, 0] rfl) hf
  unfold f_Model_has at hf
  refine lv_aload_n hx hb dX11_has_0 rfl (lv_at hl 0 rfl) ?_
  refine lv_iload_n hx hb dX11_has_1 rfl (lv_at hl 1 rfl) ?_
  refine lv_iload_n hx hb dX11_has_2 rfl (lv_at hl 2 rfl) ?_
  refine lv_iload_n hx hb dX11_has_3 rfl (lv_at hl 3 rfl) ?_
  obtain ⟨r9, g10, hf⟩ := b1_s hf
  refine k_Vi (rest := []) ⟨hx, hb, hml, hown, hts⟩ (c_Model_isRun l D cI cZ t a_Model a_Model_now a_Model_past a_Model_bits a_Model_sizes a_Model_sheets a_Model_least a_Model_ways a_Model_handOf a_Model_crossedAt a_Model_strokeOf a_Model_prices a_Model_hitAt a_Model_carried s.heap.size Model_now Model_kept Model_findings Model_thenCost Model_thenWays Model_bothCost Model_bothWays p1 p2 p3 r9 g10) (cwV 3 hts gX11_has_X11_isRun rfl rfl rfl (by decide +kernel) ⟨Nat.le_of_ble_eq_true rfl, Nat.le_of_ble_eq_true rfl⟩) hE hP hD hS hA [0, 1] [] rfl rfl rfl rfl rfl 0 11 rfl rfl rfl rfl hl.1 rfl (Nat.le_of_ble_eq_true rfl) dX11_has_4 ⟨Nat.le_of_ble_eq_true rfl, Nat.le_of_ble_eq_true rfl⟩ (fun rq uq H locs hrq hP hD hS => ?_)
  refine lv_tpx hrq.symm ?_
  have hP : va_P D vwCl [(a_Model, .inr (11, [.ref a_Model_now, .ref a_Model_past, .int Model_kept, .int Model_findings, .ref a_Model_bits, .ref a_Model_sizes, .ref a_Model_sheets, .ref a_Model_least, .ref a_Model_ways, .int Model_thenCost, .int Model_thenWays, .int Model_bothCost, .int Model_bothWays, .ref a_Model_handOf, .ref a_Model_crossedAt, .ref a_Model_strokeOf, .ref a_Model_prices, .ref a_Model_hitAt, .ref a_Model_carried])), (a_Model_now, .inl (cI, 187, .inl Model_now))] H := hP
  have hD : va_D A [(a_Model, .inr (11, [.ref a_Model_now, .ref a_Model_past, .int Model_kept, .int Model_findings, .ref a_Model_bits, .ref a_Model_sizes, .ref a_Model_sheets, .ref a_Model_least, .ref a_Model_ways, .int Model_thenCost, .int Model_thenWays, .int Model_bothCost, .int Model_bothWays, .ref a_Model_handOf, .ref a_Model_crossedAt, .ref a_Model_strokeOf, .ref a_Model_prices, .ref a_Model_hitAt, .ref a_Model_carried])), (a_Model_now, .inl (cI, 187, .inl Model_now))] := hD
  refine lv_if_eq (tgt := 20) hx hb dX11_has_7 (by decide) (fun c11 => ?_) (fun c11 => ?_)
  · have hf := ite_t c11 hf
    refine lv_aload_n hx hb dX11_has_20 rfl (lv_at hl 0 rfl) ?_
    refine lv_ldc (v := (-100001)) hx hb hown kc70 dX11_has_21 ?_
    obtain ⟨r12, y13, g14, hf⟩ := b2_s hf
    refine k_Vi (rest := []) ⟨hx, hb, hml, hown, hts⟩ (c_Model_finding l D cI cZ t a_Model a_Model_now a_Model_past a_Model_bits a_Model_sizes a_Model_sheets a_Model_least a_Model_ways a_Model_handOf a_Model_crossedAt a_Model_strokeOf a_Model_prices a_Model_hitAt a_Model_carried H.size Model_findings Model_kept Model_thenCost Model_thenWays Model_bothCost Model_bothWays (-100001) r12 y13 g14) (cwV 1 hts gX11_has_X11_finding rfl rfl rfl (by decide +kernel) ⟨Nat.le_of_ble_eq_true rfl, Nat.le_of_ble_eq_true rfl⟩) hE hP hD hS hA [0] [1] rfl rfl rfl rfl rfl 0 11 rfl rfl rfl rfl hl.1 rfl (Nat.le_of_ble_eq_true rfl) dX11_has_23 ⟨Nat.le_of_ble_eq_true rfl, Nat.le_of_ble_eq_true rfl⟩ (fun rq uq H locs hrq hP hD hS => ?_)
    refine lv_tpx hrq.symm ?_
    have hP : va_P D vwCl [(a_Model_now, .inl (cI, 187, .inl Model_now)), (a_Model, .inr (11, [.ref a_Model_now, .ref a_Model_past, .int Model_kept, .int y13, .ref a_Model_bits, .ref a_Model_sizes, .ref a_Model_sheets, .ref a_Model_least, .ref a_Model_ways, .int Model_thenCost, .int Model_thenWays, .int Model_bothCost, .int Model_bothWays, .ref a_Model_handOf, .ref a_Model_crossedAt, .ref a_Model_strokeOf, .ref a_Model_prices, .ref a_Model_hitAt, .ref a_Model_carried]))] H := hP
    have hD : va_D A [(a_Model_now, .inl (cI, 187, .inl Model_now)), (a_Model, .inr (11, [.ref a_Model_now, .ref a_Model_past, .int Model_kept, .int y13, .ref a_Model_bits, .ref a_Model_sizes, .ref a_Model_sheets, .ref a_Model_least, .ref a_Model_ways, .int Model_thenCost, .int Model_thenWays, .int Model_bothCost, .int Model_bothWays, .ref a_Model_handOf, .ref a_Model_crossedAt, .ref a_Model_strokeOf, .ref a_Model_prices, .ref a_Model_hitAt, .ref a_Model_carried]))] := hD
    cases hf
    exact k_iret () hQ9 hx hb hr hlocks rfl (hP.sub [1, 0] rfl) (hD.sub [1, 0] (by decide) rfl) hS (Nat.le_of_ble_eq_true rfl) (Nat.le_of_ble_eq_true rfl) dX11_has_26
  · have hf := ite_f c11 hf
    refine lv_iload hx hb dX11_has_10 (lv_at hl 4 rfl) ?_
    refine lv_iconst (v := 0) hx hb dX11_has_12 (by decide) ?_
    refine lv_iconst (v := 4) hx hb dX11_has_13 (by decide) ?_
    obtain ⟨r15, g16, hf⟩ := b1_s hf
    refine k_Si (rest := []) ⟨hx, hb, hml, hown, hts⟩ (c_Model_within l D cI cZ t  H.size p4 0 4 r15 g16) (va_cwS 3 hts gX11_has_X11_within rfl rfl rfl (by decide +kernel) ⟨Nat.le_of_ble_eq_true rfl, Nat.le_of_ble_eq_true rfl⟩) hE hP hD hS hA [] [0, 1] rfl rfl rfl rfl rfl rfl hl.1 rfl (Nat.le_of_ble_eq_true rfl) dX11_has_14 ⟨Nat.le_of_ble_eq_true rfl, Nat.le_of_ble_eq_true rfl⟩ (fun rq uq H locs hrq hP hD hS => ?_)
    refine lv_tpx hrq.symm ?_
    have hP : va_P D vwCl [(a_Model, .inr (11, [.ref a_Model_now, .ref a_Model_past, .int Model_kept, .int Model_findings, .ref a_Model_bits, .ref a_Model_sizes, .ref a_Model_sheets, .ref a_Model_least, .ref a_Model_ways, .int Model_thenCost, .int Model_thenWays, .int Model_bothCost, .int Model_bothWays, .ref a_Model_handOf, .ref a_Model_crossedAt, .ref a_Model_strokeOf, .ref a_Model_prices, .ref a_Model_hitAt, .ref a_Model_carried])), (a_Model_now, .inl (cI, 187, .inl Model_now))] H := hP
    have hD : va_D A [(a_Model, .inr (11, [.ref a_Model_now, .ref a_Model_past, .int Model_kept, .int Model_findings, .ref a_Model_bits, .ref a_Model_sizes, .ref a_Model_sheets, .ref a_Model_least, .ref a_Model_ways, .int Model_thenCost, .int Model_thenWays, .int Model_bothCost, .int Model_bothWays, .ref a_Model_handOf, .ref a_Model_crossedAt, .ref a_Model_strokeOf, .ref a_Model_prices, .ref a_Model_hitAt, .ref a_Model_carried])), (a_Model_now, .inl (cI, 187, .inl Model_now))] := hD
    refine lv_if_ne (tgt := 27) hx hb dX11_has_17 (by decide) (fun c17 => ?_) (fun c17 => ?_)
    · have hf := ite_f c17 hf
      refine lv_aload_n hx hb dX11_has_27 rfl (lv_at hl 0 rfl) ?_
      refine va_get (D := D) (ci := 11) (v := .ref a_Model_now) (C := RX11) (T := TX11) (N := 19) hx hb hts inX11 hown hK hP 0 rfl rfl 0 (by decide) fl9 (fun _ h9 => h9) rfl dX11_has_28 ?_
      refine lv_iconst (v := 1) hx hb dX11_has_31 (by decide) ?_
      obtain ⟨ix18, x18, ex18, hf⟩ := rd_s hf
      refine va_iald hx hb hK hP 1 0 rfl rfl ix18 dX11_has_32 ?_
      refine lv_tpx ex18 ?_
      refine lv_if_ne (tgt := 43) hx hb dX11_has_33 (by decide) (fun c19 => ?_) (fun c19 => ?_)
      · have hf := ite_f c19 hf
        refine lv_iconst (v := 0) hx hb dX11_has_43 (by decide) ?_
        refine lv_istore (lv' := [(5, .int 0), (0, .ref a_Model), (1, .int p1), (2, .int p2), (3, .int p3), (4, .int p4)]) hx hb dX11_has_44 hl (by decide) rfl (fun ls hl => ?_)
        refine lv_iconst (v := 0) hx hb dX11_has_46 (by decide) ?_
        refine lv_istore (lv' := [(6, .int 0), (5, .int 0), (0, .ref a_Model), (1, .int p1), (2, .int p2), (3, .int p3), (4, .int p4)]) hx hb dX11_has_47 hl (by decide) rfl (fun ls hl => ?_)
        exact hL49 fu p1 p2 p3 p4 0 0 Model_findings H locs ls hP hD hS (lv_sub hl [2, 3, 4, 5, 6, 1, 0] rfl) hf
      · have hf := ite_t c19 hf
        refine lv_aload_n hx hb dX11_has_36 rfl (lv_at hl 0 rfl) ?_
        refine lv_ldc (v := (-100006)) hx hb hown kc61 dX11_has_37 ?_
        obtain ⟨r20, y21, g22, hf⟩ := b2_s hf
        refine k_Vi (rest := []) ⟨hx, hb, hml, hown, hts⟩ (c_Model_finding l D cI cZ t a_Model a_Model_now a_Model_past a_Model_bits a_Model_sizes a_Model_sheets a_Model_least a_Model_ways a_Model_handOf a_Model_crossedAt a_Model_strokeOf a_Model_prices a_Model_hitAt a_Model_carried H.size Model_findings Model_kept Model_thenCost Model_thenWays Model_bothCost Model_bothWays (-100006) r20 y21 g22) (cwV 1 hts gX11_has_X11_finding rfl rfl rfl (by decide +kernel) ⟨Nat.le_of_ble_eq_true rfl, Nat.le_of_ble_eq_true rfl⟩) hE hP hD hS hA [0] [1] rfl rfl rfl rfl rfl 0 11 rfl rfl rfl rfl hl.1 rfl (Nat.le_of_ble_eq_true rfl) dX11_has_39 ⟨Nat.le_of_ble_eq_true rfl, Nat.le_of_ble_eq_true rfl⟩ (fun rq uq H locs hrq hP hD hS => ?_)
        refine lv_tpx hrq.symm ?_
        have hP : va_P D vwCl [(a_Model_now, .inl (cI, 187, .inl Model_now)), (a_Model, .inr (11, [.ref a_Model_now, .ref a_Model_past, .int Model_kept, .int y21, .ref a_Model_bits, .ref a_Model_sizes, .ref a_Model_sheets, .ref a_Model_least, .ref a_Model_ways, .int Model_thenCost, .int Model_thenWays, .int Model_bothCost, .int Model_bothWays, .ref a_Model_handOf, .ref a_Model_crossedAt, .ref a_Model_strokeOf, .ref a_Model_prices, .ref a_Model_hitAt, .ref a_Model_carried]))] H := hP
        have hD : va_D A [(a_Model_now, .inl (cI, 187, .inl Model_now)), (a_Model, .inr (11, [.ref a_Model_now, .ref a_Model_past, .int Model_kept, .int y21, .ref a_Model_bits, .ref a_Model_sizes, .ref a_Model_sheets, .ref a_Model_least, .ref a_Model_ways, .int Model_thenCost, .int Model_thenWays, .int Model_bothCost, .int Model_bothWays, .ref a_Model_handOf, .ref a_Model_crossedAt, .ref a_Model_strokeOf, .ref a_Model_prices, .ref a_Model_hitAt, .ref a_Model_carried]))] := hD
        cases hf
        exact k_iret () hQ9 hx hb hr hlocks rfl (hP.sub [1, 0] rfl) (hD.sub [1, 0] (by decide) rfl) hS (Nat.le_of_ble_eq_true rfl) (Nat.le_of_ble_eq_true rfl) dX11_has_42
    · have hf := ite_t c17 hf
      refine lv_aload_n hx hb dX11_has_20 rfl (lv_at hl 0 rfl) ?_
      refine lv_ldc (v := (-100001)) hx hb hown kc70 dX11_has_21 ?_
      obtain ⟨r23, y24, g25, hf⟩ := b2_s hf
      refine k_Vi (rest := []) ⟨hx, hb, hml, hown, hts⟩ (c_Model_finding l D cI cZ t a_Model a_Model_now a_Model_past a_Model_bits a_Model_sizes a_Model_sheets a_Model_least a_Model_ways a_Model_handOf a_Model_crossedAt a_Model_strokeOf a_Model_prices a_Model_hitAt a_Model_carried H.size Model_findings Model_kept Model_thenCost Model_thenWays Model_bothCost Model_bothWays (-100001) r23 y24 g25) (cwV 1 hts gX11_has_X11_finding rfl rfl rfl (by decide +kernel) ⟨Nat.le_of_ble_eq_true rfl, Nat.le_of_ble_eq_true rfl⟩) hE hP hD hS hA [0] [1] rfl rfl rfl rfl rfl 0 11 rfl rfl rfl rfl hl.1 rfl (Nat.le_of_ble_eq_true rfl) dX11_has_23 ⟨Nat.le_of_ble_eq_true rfl, Nat.le_of_ble_eq_true rfl⟩ (fun rq uq H locs hrq hP hD hS => ?_)
      refine lv_tpx hrq.symm ?_
      have hP : va_P D vwCl [(a_Model_now, .inl (cI, 187, .inl Model_now)), (a_Model, .inr (11, [.ref a_Model_now, .ref a_Model_past, .int Model_kept, .int y24, .ref a_Model_bits, .ref a_Model_sizes, .ref a_Model_sheets, .ref a_Model_least, .ref a_Model_ways, .int Model_thenCost, .int Model_thenWays, .int Model_bothCost, .int Model_bothWays, .ref a_Model_handOf, .ref a_Model_crossedAt, .ref a_Model_strokeOf, .ref a_Model_prices, .ref a_Model_hitAt, .ref a_Model_carried]))] H := hP
      have hD : va_D A [(a_Model_now, .inl (cI, 187, .inl Model_now)), (a_Model, .inr (11, [.ref a_Model_now, .ref a_Model_past, .int Model_kept, .int y24, .ref a_Model_bits, .ref a_Model_sizes, .ref a_Model_sheets, .ref a_Model_least, .ref a_Model_ways, .int Model_thenCost, .int Model_thenWays, .int Model_bothCost, .int Model_bothWays, .ref a_Model_handOf, .ref a_Model_crossedAt, .ref a_Model_strokeOf, .ref a_Model_prices, .ref a_Model_hitAt, .ref a_Model_carried]))] := hD
      cases hf
      exact k_iret () hQ9 hx hb hr hlocks rfl (hP.sub [1, 0] rfl) (hD.sub [1, 0] (by decide) rfl) hS (Nat.le_of_ble_eq_true rfl) (Nat.le_of_ble_eq_true rfl) dX11_has_26
abbrev rm_Model_fast : Room := { frames := 3, cells := 0, slots := 0, locals := 66 }
set_option maxHeartbeats 4000000 in
set_option maxRecDepth 100000 in
theorem c_Model_fast (l : Launch) (D : va_G) (cI cZ : ClassId) (t : Nat → Nat) (a_Model a_Model_now a_Model_past a_Model_bits a_Model_sizes a_Model_sheets a_Model_least a_Model_ways a_Model_handOf a_Model_crossedAt a_Model_strokeOf a_Model_prices a_Model_hitAt a_Model_carried sz : Nat) (Model_now : Nat → Int32) (Model_findings Model_kept Model_thenCost Model_thenWays Model_bothCost Model_bothWays p1 p2 p3 zr z_Model_findings : Int32) (hf : f_Model_fast Model_now Model_findings p1 p2 p3 = some (zr, z_Model_findings)) : Met l yX11_fast wsX11_fast rm_Model_fast (va_Pc [.ref a_Model, .int p1, .int p2, .int p3] (pcW D cI cZ t [(a_Model, .inr (11, [.ref a_Model_now, .ref a_Model_past, .int Model_kept, .int Model_findings, .ref a_Model_bits, .ref a_Model_sizes, .ref a_Model_sheets, .ref a_Model_least, .ref a_Model_ways, .int Model_thenCost, .int Model_thenWays, .int Model_bothCost, .int Model_bothWays, .ref a_Model_handOf, .ref a_Model_crossedAt, .ref a_Model_strokeOf, .ref a_Model_prices, .ref a_Model_hitAt, .ref a_Model_carried])), (a_Model_now, .inl (cI, 187, .inl Model_now))] sz)) (va_Qi (fun r (u : Unit) => r = zr) (fun u t' => bW D (va_A [(a_Model, .inr (11, [.ref a_Model_now, .ref a_Model_past, .int Model_kept, .int Model_findings, .ref a_Model_bits, .ref a_Model_sizes, .ref a_Model_sheets, .ref a_Model_least, .ref a_Model_ways, .int Model_thenCost, .int Model_thenWays, .int Model_bothCost, .int Model_bothWays, .ref a_Model_handOf, .ref a_Model_crossedAt, .ref a_Model_strokeOf, .ref a_Model_prices, .ref a_Model_hitAt, .ref a_Model_carried])), (a_Model_now, .inl (cI, 187, .inl Model_now))] sz) [(a_Model, .inr (11, [.ref a_Model_now, .ref a_Model_past, .int Model_kept, .int z_Model_findings, .ref a_Model_bits, .ref a_Model_sizes, .ref a_Model_sheets, .ref a_Model_least, .ref a_Model_ways, .int Model_thenCost, .int Model_thenWays, .int Model_bothCost, .int Model_bothWays, .ref a_Model_handOf, .ref a_Model_crossedAt, .ref a_Model_strokeOf, .ref a_Model_prices, .ref a_Model_hitAt, .ref a_Model_carried])), (a_Model_now, .inl (cI, 187, .inl Model_now))] t') (va_A [(a_Model, .inr (11, [.ref a_Model_now, .ref a_Model_past, .int Model_kept, .int Model_findings, .ref a_Model_bits, .ref a_Model_sizes, .ref a_Model_sheets, .ref a_Model_least, .ref a_Model_ways, .int Model_thenCost, .int Model_thenWays, .int Model_bothCost, .int Model_bothWays, .ref a_Model_handOf, .ref a_Model_crossedAt, .ref a_Model_strokeOf, .ref a_Model_prices, .ref a_Model_hitAt, .ref a_Model_carried])), (a_Model_now, .inl (cI, 187, .inl Model_now))] sz)) 0 0 (va_A [(a_Model, .inr (11, [.ref a_Model_now, .ref a_Model_past, .int Model_kept, .int Model_findings, .ref a_Model_bits, .ref a_Model_sizes, .ref a_Model_sheets, .ref a_Model_least, .ref a_Model_ways, .int Model_thenCost, .int Model_thenWays, .int Model_bothCost, .int Model_bothWays, .ref a_Model_handOf, .ref a_Model_crossedAt, .ref a_Model_strokeOf, .ref a_Model_prices, .ref a_Model_hitAt, .ref a_Model_carried])), (a_Model_now, .inl (cI, 187, .inl Model_now))] sz) := by
  refine Met.ofW (cc := cX11_fast) (maxL := 4) (ret := (some .int)) (by decide) rfl ?_
  intro p e s m args below meth c s₁ B hml hv
  obtain ⟨rfl, hsz, hP, hD0, hE⟩ := hv
  have hx := B.exec
  have hb := B.bytes
  have hr := B.returns
  have hts := atoms_spec (ws := wsX11_fast) B.pre
  have hown : s.vm.findClass RX11 = some m.cls := findClass_of_methodNamed B.named
  have hlocks := B.notSynchronized
  subst hsz
  have hD := hD0.self (sz := s.heap.size)
  generalize hAe : va_A [(a_Model, .inr (11, [.ref a_Model_now, .ref a_Model_past, .int Model_kept, .int Model_findings, .ref a_Model_bits, .ref a_Model_sizes, .ref a_Model_sheets, .ref a_Model_least, .ref a_Model_ways, .int Model_thenCost, .int Model_thenWays, .int Model_bothCost, .int Model_bothWays, .ref a_Model_handOf, .ref a_Model_crossedAt, .ref a_Model_strokeOf, .ref a_Model_prices, .ref a_Model_hitAt, .ref a_Model_carried])), (a_Model_now, .inl (cI, 187, .inl Model_now))] s.heap.size = A at hD hE ⊢
  have hA : ∀ q : Nat, s.heap.size ≤ q → A q := fun q h => by rw [← hAe]; exact Or.inr h
  clear hAe hD0
  have hS : va_S A s.heap s.heap [] := va_S.rf
  have hK := hE.1
  have hl := lv_entry ([.ref a_Model, .int p1, .int p2, .int p3]) (n := 4) (Nat.le_of_ble_eq_true rfl)
  rw [lg_entry_eq]
  generalize (lg_sl ([.ref a_Model, .int p1, .int p2, .int p3]) ++ List.replicate (4 - (lg_sl ([.ref a_Model, .int p1, .int p2, .int p3])).length) Slot.unset).toArray = ls at hl ⊢
  have hl : lv_has ls 4 [(0, .ref a_Model), (1, .int p1), (2, .int p2), (3, .int p3)] := hl
  refine w_q (fun Q9 hQ9 => ?_)
  have fl9 := hts (.fieldLink RX11 9 "StickRoomModel" "now" "[I") (by decide +kernel)
  have inX11 : ∀ w ∈ wsX110, w ∈ wsX11_fast := by decide +kernel
  have kc61 := hts (.constant RX11 61 (-100006)) (by decide +kernel)
  have kc70 := hts (.constant RX11 70 (-100001)) (by decide +kernel)
  unfold f_Model_fast at hf
  refine lv_aload_n hx hb dX11_fast_0 rfl (lv_at hl 0 rfl) ?_
  refine lv_iload_n hx hb dX11_fast_1 rfl (lv_at hl 1 rfl) ?_
  refine lv_iload_n hx hb dX11_fast_2 rfl (lv_at hl 2 rfl) ?_
  refine lv_iload_n hx hb dX11_fast_3 rfl (lv_at hl 3 rfl) ?_
  obtain ⟨r1, g2, hf⟩ := b1_s hf
  refine k_Vi (rest := []) ⟨hx, hb, hml, hown, hts⟩ (c_Model_isRun l D cI cZ t a_Model a_Model_now a_Model_past a_Model_bits a_Model_sizes a_Model_sheets a_Model_least a_Model_ways a_Model_handOf a_Model_crossedAt a_Model_strokeOf a_Model_prices a_Model_hitAt a_Model_carried s.heap.size Model_now Model_kept Model_findings Model_thenCost Model_thenWays Model_bothCost Model_bothWays p1 p2 p3 r1 g2) (cwV 3 hts gX11_fast_X11_isRun rfl rfl rfl (by decide +kernel) ⟨Nat.le_of_ble_eq_true rfl, Nat.le_of_ble_eq_true rfl⟩) hE hP hD hS hA [0, 1] [] rfl rfl rfl rfl rfl 0 11 rfl rfl rfl rfl hl.1 rfl (Nat.le_of_ble_eq_true rfl) dX11_fast_4 ⟨Nat.le_of_ble_eq_true rfl, Nat.le_of_ble_eq_true rfl⟩ (fun rq uq H locs hrq hP hD hS => ?_)
  refine lv_tpx hrq.symm ?_
  have hP : va_P D vwCl [(a_Model, .inr (11, [.ref a_Model_now, .ref a_Model_past, .int Model_kept, .int Model_findings, .ref a_Model_bits, .ref a_Model_sizes, .ref a_Model_sheets, .ref a_Model_least, .ref a_Model_ways, .int Model_thenCost, .int Model_thenWays, .int Model_bothCost, .int Model_bothWays, .ref a_Model_handOf, .ref a_Model_crossedAt, .ref a_Model_strokeOf, .ref a_Model_prices, .ref a_Model_hitAt, .ref a_Model_carried])), (a_Model_now, .inl (cI, 187, .inl Model_now))] H := hP
  have hD : va_D A [(a_Model, .inr (11, [.ref a_Model_now, .ref a_Model_past, .int Model_kept, .int Model_findings, .ref a_Model_bits, .ref a_Model_sizes, .ref a_Model_sheets, .ref a_Model_least, .ref a_Model_ways, .int Model_thenCost, .int Model_thenWays, .int Model_bothCost, .int Model_bothWays, .ref a_Model_handOf, .ref a_Model_crossedAt, .ref a_Model_strokeOf, .ref a_Model_prices, .ref a_Model_hitAt, .ref a_Model_carried])), (a_Model_now, .inl (cI, 187, .inl Model_now))] := hD
  refine lv_if_ne (tgt := 17) hx hb dX11_fast_7 (by decide) (fun c3 => ?_) (fun c3 => ?_)
  · have hf := ite_f c3 hf
    refine lv_aload_n hx hb dX11_fast_17 rfl (lv_at hl 0 rfl) ?_
    refine va_get (D := D) (ci := 11) (v := .ref a_Model_now) (C := RX11) (T := TX11) (N := 19) hx hb hts inX11 hown hK hP 0 rfl rfl 0 (by decide) fl9 (fun _ h9 => h9) rfl dX11_fast_18 ?_
    refine lv_iconst (v := 1) hx hb dX11_fast_21 (by decide) ?_
    obtain ⟨ix4, x4, ex4, hf⟩ := rd_s hf
    refine va_iald hx hb hK hP 1 0 rfl rfl ix4 dX11_fast_22 ?_
    refine lv_tpx ex4 ?_
    refine lv_if_ne (tgt := 35) hx hb dX11_fast_23 (by decide) (fun c5 => ?_) (fun c5 => ?_)
    · have hf := ite_f c5 hf
      refine lv_aload_n hx hb dX11_fast_35 rfl (lv_at hl 0 rfl) ?_
      refine lv_iload_n hx hb dX11_fast_36 rfl (lv_at hl 1 rfl) ?_
      refine lv_iload_n hx hb dX11_fast_37 rfl (lv_at hl 2 rfl) ?_
      refine lv_iload_n hx hb dX11_fast_38 rfl (lv_at hl 3 rfl) ?_
      obtain ⟨r6, g7, hf⟩ := b1_s hf
      refine k_Vi (rest := []) ⟨hx, hb, hml, hown, hts⟩ (c_Model_tooFast l D cI cZ t a_Model a_Model_now a_Model_past a_Model_bits a_Model_sizes a_Model_sheets a_Model_least a_Model_ways a_Model_handOf a_Model_crossedAt a_Model_strokeOf a_Model_prices a_Model_hitAt a_Model_carried H.size Model_now Model_kept Model_findings Model_thenCost Model_thenWays Model_bothCost Model_bothWays p1 p2 p3 r6 g7) (cwV 3 hts gX11_fast_X11_tooFast rfl rfl rfl (by decide +kernel) ⟨Nat.le_of_ble_eq_true rfl, Nat.le_of_ble_eq_true rfl⟩) hE hP hD hS hA [0, 1] [] rfl rfl rfl rfl rfl 0 11 rfl rfl rfl rfl hl.1 rfl (Nat.le_of_ble_eq_true rfl) dX11_fast_39 ⟨Nat.le_of_ble_eq_true rfl, Nat.le_of_ble_eq_true rfl⟩ (fun rq uq H locs hrq hP hD hS => ?_)
      refine lv_tpx hrq.symm ?_
      have hP : va_P D vwCl [(a_Model, .inr (11, [.ref a_Model_now, .ref a_Model_past, .int Model_kept, .int Model_findings, .ref a_Model_bits, .ref a_Model_sizes, .ref a_Model_sheets, .ref a_Model_least, .ref a_Model_ways, .int Model_thenCost, .int Model_thenWays, .int Model_bothCost, .int Model_bothWays, .ref a_Model_handOf, .ref a_Model_crossedAt, .ref a_Model_strokeOf, .ref a_Model_prices, .ref a_Model_hitAt, .ref a_Model_carried])), (a_Model_now, .inl (cI, 187, .inl Model_now))] H := hP
      have hD : va_D A [(a_Model, .inr (11, [.ref a_Model_now, .ref a_Model_past, .int Model_kept, .int Model_findings, .ref a_Model_bits, .ref a_Model_sizes, .ref a_Model_sheets, .ref a_Model_least, .ref a_Model_ways, .int Model_thenCost, .int Model_thenWays, .int Model_bothCost, .int Model_bothWays, .ref a_Model_handOf, .ref a_Model_crossedAt, .ref a_Model_strokeOf, .ref a_Model_prices, .ref a_Model_hitAt, .ref a_Model_carried])), (a_Model_now, .inl (cI, 187, .inl Model_now))] := hD
      cases hf
      exact k_iret () hQ9 hx hb hr hlocks rfl hP hD hS (Nat.le_of_ble_eq_true rfl) (Nat.le_of_ble_eq_true rfl) dX11_fast_42
    · have hf := ite_t c5 hf
      refine lv_aload_n hx hb dX11_fast_26 rfl (lv_at hl 0 rfl) ?_
      refine lv_ldc (v := (-100006)) hx hb hown kc61 dX11_fast_27 ?_
      obtain ⟨r8, y9, g10, hf⟩ := b2_s hf
      refine k_Vi (rest := []) ⟨hx, hb, hml, hown, hts⟩ (c_Model_finding l D cI cZ t a_Model a_Model_now a_Model_past a_Model_bits a_Model_sizes a_Model_sheets a_Model_least a_Model_ways a_Model_handOf a_Model_crossedAt a_Model_strokeOf a_Model_prices a_Model_hitAt a_Model_carried H.size Model_findings Model_kept Model_thenCost Model_thenWays Model_bothCost Model_bothWays (-100006) r8 y9 g10) (cwV 1 hts gX11_fast_X11_finding rfl rfl rfl (by decide +kernel) ⟨Nat.le_of_ble_eq_true rfl, Nat.le_of_ble_eq_true rfl⟩) hE hP hD hS hA [0] [1] rfl rfl rfl rfl rfl 0 11 rfl rfl rfl rfl hl.1 rfl (Nat.le_of_ble_eq_true rfl) dX11_fast_29 ⟨Nat.le_of_ble_eq_true rfl, Nat.le_of_ble_eq_true rfl⟩ (fun rq uq H locs hrq hP hD hS => ?_)
      refine lv_tpx hrq.symm ?_
      have hP : va_P D vwCl [(a_Model_now, .inl (cI, 187, .inl Model_now)), (a_Model, .inr (11, [.ref a_Model_now, .ref a_Model_past, .int Model_kept, .int y9, .ref a_Model_bits, .ref a_Model_sizes, .ref a_Model_sheets, .ref a_Model_least, .ref a_Model_ways, .int Model_thenCost, .int Model_thenWays, .int Model_bothCost, .int Model_bothWays, .ref a_Model_handOf, .ref a_Model_crossedAt, .ref a_Model_strokeOf, .ref a_Model_prices, .ref a_Model_hitAt, .ref a_Model_carried]))] H := hP
      have hD : va_D A [(a_Model_now, .inl (cI, 187, .inl Model_now)), (a_Model, .inr (11, [.ref a_Model_now, .ref a_Model_past, .int Model_kept, .int y9, .ref a_Model_bits, .ref a_Model_sizes, .ref a_Model_sheets, .ref a_Model_least, .ref a_Model_ways, .int Model_thenCost, .int Model_thenWays, .int Model_bothCost, .int Model_bothWays, .ref a_Model_handOf, .ref a_Model_crossedAt, .ref a_Model_strokeOf, .ref a_Model_prices, .ref a_Model_hitAt, .ref a_Model_carried]))] := hD
      refine lv_goto (tgt := 42) hx hb dX11_fast_32 (by decide) ?_
      cases hf
      exact k_iret () hQ9 hx hb hr hlocks rfl (hP.sub [1, 0] rfl) (hD.sub [1, 0] (by decide) rfl) hS (Nat.le_of_ble_eq_true rfl) (Nat.le_of_ble_eq_true rfl) dX11_fast_42
  · have hf := ite_t c3 hf
    refine lv_aload_n hx hb dX11_fast_10 rfl (lv_at hl 0 rfl) ?_
    refine lv_ldc (v := (-100001)) hx hb hown kc70 dX11_fast_11 ?_
    obtain ⟨r11, y12, g13, hf⟩ := b2_s hf
    refine k_Vi (rest := []) ⟨hx, hb, hml, hown, hts⟩ (c_Model_finding l D cI cZ t a_Model a_Model_now a_Model_past a_Model_bits a_Model_sizes a_Model_sheets a_Model_least a_Model_ways a_Model_handOf a_Model_crossedAt a_Model_strokeOf a_Model_prices a_Model_hitAt a_Model_carried H.size Model_findings Model_kept Model_thenCost Model_thenWays Model_bothCost Model_bothWays (-100001) r11 y12 g13) (cwV 1 hts gX11_fast_X11_finding rfl rfl rfl (by decide +kernel) ⟨Nat.le_of_ble_eq_true rfl, Nat.le_of_ble_eq_true rfl⟩) hE hP hD hS hA [0] [1] rfl rfl rfl rfl rfl 0 11 rfl rfl rfl rfl hl.1 rfl (Nat.le_of_ble_eq_true rfl) dX11_fast_13 ⟨Nat.le_of_ble_eq_true rfl, Nat.le_of_ble_eq_true rfl⟩ (fun rq uq H locs hrq hP hD hS => ?_)
    refine lv_tpx hrq.symm ?_
    have hP : va_P D vwCl [(a_Model_now, .inl (cI, 187, .inl Model_now)), (a_Model, .inr (11, [.ref a_Model_now, .ref a_Model_past, .int Model_kept, .int y12, .ref a_Model_bits, .ref a_Model_sizes, .ref a_Model_sheets, .ref a_Model_least, .ref a_Model_ways, .int Model_thenCost, .int Model_thenWays, .int Model_bothCost, .int Model_bothWays, .ref a_Model_handOf, .ref a_Model_crossedAt, .ref a_Model_strokeOf, .ref a_Model_prices, .ref a_Model_hitAt, .ref a_Model_carried]))] H := hP
    have hD : va_D A [(a_Model_now, .inl (cI, 187, .inl Model_now)), (a_Model, .inr (11, [.ref a_Model_now, .ref a_Model_past, .int Model_kept, .int y12, .ref a_Model_bits, .ref a_Model_sizes, .ref a_Model_sheets, .ref a_Model_least, .ref a_Model_ways, .int Model_thenCost, .int Model_thenWays, .int Model_bothCost, .int Model_bothWays, .ref a_Model_handOf, .ref a_Model_crossedAt, .ref a_Model_strokeOf, .ref a_Model_prices, .ref a_Model_hitAt, .ref a_Model_carried]))] := hD
    cases hf
    exact k_iret () hQ9 hx hb hr hlocks rfl (hP.sub [1, 0] rfl) (hD.sub [1, 0] (by decide) rfl) hS (Nat.le_of_ble_eq_true rfl) (Nat.le_of_ble_eq_true rfl) dX11_fast_16
abbrev rm_Model_shape : Room := { frames := 3, cells := 0, slots := 0, locals := 66 }
set_option maxHeartbeats 4000000 in
set_option maxRecDepth 100000 in
theorem c_Model_shape (l : Launch) (D : va_G) (cI cZ : ClassId) (t : Nat → Nat) (a_Model a_Model_now a_Model_past a_Model_bits a_Model_sizes a_Model_sheets a_Model_least a_Model_ways a_Model_handOf a_Model_crossedAt a_Model_strokeOf a_Model_prices a_Model_hitAt a_Model_carried sz : Nat) (Model_now : Nat → Int32) (Model_findings Model_kept Model_thenCost Model_thenWays Model_bothCost Model_bothWays p1 p2 zr z_Model_findings : Int32) (hf : f_Model_shape Model_now Model_findings p1 p2 = some (zr, z_Model_findings)) : Met l yX11_shape wsX11_shape rm_Model_shape (va_Pc [.ref a_Model, .int p1, .int p2] (pcW D cI cZ t [(a_Model, .inr (11, [.ref a_Model_now, .ref a_Model_past, .int Model_kept, .int Model_findings, .ref a_Model_bits, .ref a_Model_sizes, .ref a_Model_sheets, .ref a_Model_least, .ref a_Model_ways, .int Model_thenCost, .int Model_thenWays, .int Model_bothCost, .int Model_bothWays, .ref a_Model_handOf, .ref a_Model_crossedAt, .ref a_Model_strokeOf, .ref a_Model_prices, .ref a_Model_hitAt, .ref a_Model_carried])), (a_Model_now, .inl (cI, 187, .inl Model_now))] sz)) (va_Qi (fun r (u : Unit) => r = zr) (fun u t' => bW D (va_A [(a_Model, .inr (11, [.ref a_Model_now, .ref a_Model_past, .int Model_kept, .int Model_findings, .ref a_Model_bits, .ref a_Model_sizes, .ref a_Model_sheets, .ref a_Model_least, .ref a_Model_ways, .int Model_thenCost, .int Model_thenWays, .int Model_bothCost, .int Model_bothWays, .ref a_Model_handOf, .ref a_Model_crossedAt, .ref a_Model_strokeOf, .ref a_Model_prices, .ref a_Model_hitAt, .ref a_Model_carried])), (a_Model_now, .inl (cI, 187, .inl Model_now))] sz) [(a_Model, .inr (11, [.ref a_Model_now, .ref a_Model_past, .int Model_kept, .int z_Model_findings, .ref a_Model_bits, .ref a_Model_sizes, .ref a_Model_sheets, .ref a_Model_least, .ref a_Model_ways, .int Model_thenCost, .int Model_thenWays, .int Model_bothCost, .int Model_bothWays, .ref a_Model_handOf, .ref a_Model_crossedAt, .ref a_Model_strokeOf, .ref a_Model_prices, .ref a_Model_hitAt, .ref a_Model_carried])), (a_Model_now, .inl (cI, 187, .inl Model_now))] t') (va_A [(a_Model, .inr (11, [.ref a_Model_now, .ref a_Model_past, .int Model_kept, .int Model_findings, .ref a_Model_bits, .ref a_Model_sizes, .ref a_Model_sheets, .ref a_Model_least, .ref a_Model_ways, .int Model_thenCost, .int Model_thenWays, .int Model_bothCost, .int Model_bothWays, .ref a_Model_handOf, .ref a_Model_crossedAt, .ref a_Model_strokeOf, .ref a_Model_prices, .ref a_Model_hitAt, .ref a_Model_carried])), (a_Model_now, .inl (cI, 187, .inl Model_now))] sz)) 0 0 (va_A [(a_Model, .inr (11, [.ref a_Model_now, .ref a_Model_past, .int Model_kept, .int Model_findings, .ref a_Model_bits, .ref a_Model_sizes, .ref a_Model_sheets, .ref a_Model_least, .ref a_Model_ways, .int Model_thenCost, .int Model_thenWays, .int Model_bothCost, .int Model_bothWays, .ref a_Model_handOf, .ref a_Model_crossedAt, .ref a_Model_strokeOf, .ref a_Model_prices, .ref a_Model_hitAt, .ref a_Model_carried])), (a_Model_now, .inl (cI, 187, .inl Model_now))] sz) := by
  refine Met.ofW (cc := cX11_shape) (maxL := 5) (ret := (some .int)) (by decide) rfl ?_
  intro p e s m args below meth c s₁ B hml hv
  obtain ⟨rfl, hsz, hP, hD0, hE⟩ := hv
  have hx := B.exec
  have hb := B.bytes
  have hr := B.returns
  have hts := atoms_spec (ws := wsX11_shape) B.pre
  have hown : s.vm.findClass RX11 = some m.cls := findClass_of_methodNamed B.named
  have hlocks := B.notSynchronized
  subst hsz
  have hD := hD0.self (sz := s.heap.size)
  generalize hAe : va_A [(a_Model, .inr (11, [.ref a_Model_now, .ref a_Model_past, .int Model_kept, .int Model_findings, .ref a_Model_bits, .ref a_Model_sizes, .ref a_Model_sheets, .ref a_Model_least, .ref a_Model_ways, .int Model_thenCost, .int Model_thenWays, .int Model_bothCost, .int Model_bothWays, .ref a_Model_handOf, .ref a_Model_crossedAt, .ref a_Model_strokeOf, .ref a_Model_prices, .ref a_Model_hitAt, .ref a_Model_carried])), (a_Model_now, .inl (cI, 187, .inl Model_now))] s.heap.size = A at hD hE ⊢
  have hA : ∀ q : Nat, s.heap.size ≤ q → A q := fun q h => by rw [← hAe]; exact Or.inr h
  clear hAe hD0
  have hS : va_S A s.heap s.heap [] := va_S.rf
  have hK := hE.1
  have hl := lv_entry ([.ref a_Model, .int p1, .int p2]) (n := 5) (Nat.le_of_ble_eq_true rfl)
  rw [lg_entry_eq]
  generalize (lg_sl ([.ref a_Model, .int p1, .int p2]) ++ List.replicate (5 - (lg_sl ([.ref a_Model, .int p1, .int p2])).length) Slot.unset).toArray = ls at hl ⊢
  have hl : lv_has ls 5 [(0, .ref a_Model), (1, .int p1), (2, .int p2)] := hl
  refine w_q (fun Q9 hQ9 => ?_)
  have fl9 := hts (.fieldLink RX11 9 "StickRoomModel" "now" "[I") (by decide +kernel)
  have inX11 : ∀ w ∈ wsX110, w ∈ wsX11_shape := by decide +kernel
  have kc61 := hts (.constant RX11 61 (-100006)) (by decide +kernel)
  have kc70 := hts (.constant RX11 70 (-100001)) (by decide +kernel)
  have hL38 : ∀ (n38 : Nat) (l1 l2 l3 l4 Model_findings : Int32) (H : Heap) (locs : List Loc) (ls : Array Slot), va_P D vwCl [(a_Model, .inr (11, [.ref a_Model_now, .ref a_Model_past, .int Model_kept, .int Model_findings, .ref a_Model_bits, .ref a_Model_sizes, .ref a_Model_sheets, .ref a_Model_least, .ref a_Model_ways, .int Model_thenCost, .int Model_thenWays, .int Model_bothCost, .int Model_bothWays, .ref a_Model_handOf, .ref a_Model_crossedAt, .ref a_Model_strokeOf, .ref a_Model_prices, .ref a_Model_hitAt, .ref a_Model_carried])), (a_Model_now, .inl (cI, 187, .inl Model_now))] H → va_D A [(a_Model, .inr (11, [.ref a_Model_now, .ref a_Model_past, .int Model_kept, .int Model_findings, .ref a_Model_bits, .ref a_Model_sizes, .ref a_Model_sheets, .ref a_Model_least, .ref a_Model_ways, .int Model_thenCost, .int Model_thenWays, .int Model_bothCost, .int Model_bothWays, .ref a_Model_handOf, .ref a_Model_crossedAt, .ref a_Model_strokeOf, .ref a_Model_prices, .ref a_Model_hitAt, .ref a_Model_carried])), (a_Model_now, .inl (cI, 187, .inl Model_now))] → va_S A s.heap H locs → lv_has ls 5 [(0, .ref a_Model), (1, .int l1), (2, .int l2), (3, .int l3), (4, .int l4)] → f_Model_shape_38 Model_now  n38 l1 l2 l3 l4 Model_findings = some (zr, z_Model_findings) → W p l e (headSpec wsX11_shape rm_Model_shape).room s m ([.ref a_Model, .int p1, .int p2] : List Value).toArray below meth c H locs 0 0 Q9 (F0 m 38 ls []) := by
    intro n38
    induction n38 with
    | zero => intro l1 l2 l3 l4 Model_findings H locs ls hP hD hS hl hf; exact nomatch (show none = some (zr, z_Model_findings) from hf)
    | succ n38 ih38 =>
      intro l1 l2 l3 l4 Model_findings H locs ls hP hD hS hl hf
      have hf : f_Model_shape_38_b Model_now  (f_Model_shape_38 Model_now  n38) l1 l2 l3 l4 Model_findings = some (zr, z_Model_findings) := hf
      unfold f_Model_shape_38_b at hf
      refine lv_iload hx hb dX11_shape_38 (lv_at hl 4 rfl) ?_
      refine lv_iconst (v := 3) hx hb dX11_shape_40 (by decide) ?_
      refine lv_icmp_ge (tgt := 75) hx hb dX11_shape_41 (by decide) (fun c1 => ?_) (fun c1 => ?_)
      · have hf := ite_t c1 hf
        refine lv_iload_n hx hb dX11_shape_75 rfl (lv_at hl 3 rfl) ?_
        cases hf
        exact k_iret () hQ9 hx hb hr hlocks rfl hP hD hS (Nat.le_of_ble_eq_true rfl) (Nat.le_of_ble_eq_true rfl) dX11_shape_76
      · have hf := ite_f c1 hf
        refine lv_aload_n hx hb dX11_shape_44 rfl (lv_at hl 0 rfl) ?_
        refine lv_iload_n hx hb dX11_shape_45 rfl (lv_at hl 1 rfl) ?_
        refine lv_iload_n hx hb dX11_shape_46 rfl (lv_at hl 2 rfl) ?_
        refine lv_iload hx hb dX11_shape_47 (lv_at hl 4 rfl) ?_
        obtain ⟨r2, g3, hf⟩ := b1_s hf
        refine k_Vi (rest := []) ⟨hx, hb, hml, hown, hts⟩ (c_Model_tooFast l D cI cZ t a_Model a_Model_now a_Model_past a_Model_bits a_Model_sizes a_Model_sheets a_Model_least a_Model_ways a_Model_handOf a_Model_crossedAt a_Model_strokeOf a_Model_prices a_Model_hitAt a_Model_carried H.size Model_now Model_kept Model_findings Model_thenCost Model_thenWays Model_bothCost Model_bothWays l1 l2 l4 r2 g3) (cwV 3 hts gX11_shape_X11_tooFast rfl rfl rfl (by decide +kernel) ⟨Nat.le_of_ble_eq_true rfl, Nat.le_of_ble_eq_true rfl⟩) hE hP hD hS hA [0, 1] [] rfl rfl rfl rfl rfl 0 11 rfl rfl rfl rfl hl.1 rfl (Nat.le_of_ble_eq_true rfl) dX11_shape_49 ⟨Nat.le_of_ble_eq_true rfl, Nat.le_of_ble_eq_true rfl⟩ (fun rq uq H locs hrq hP hD hS => ?_)
        refine lv_tpx hrq.symm ?_
        have hP : va_P D vwCl [(a_Model, .inr (11, [.ref a_Model_now, .ref a_Model_past, .int Model_kept, .int Model_findings, .ref a_Model_bits, .ref a_Model_sizes, .ref a_Model_sheets, .ref a_Model_least, .ref a_Model_ways, .int Model_thenCost, .int Model_thenWays, .int Model_bothCost, .int Model_bothWays, .ref a_Model_handOf, .ref a_Model_crossedAt, .ref a_Model_strokeOf, .ref a_Model_prices, .ref a_Model_hitAt, .ref a_Model_carried])), (a_Model_now, .inl (cI, 187, .inl Model_now))] H := hP
        have hD : va_D A [(a_Model, .inr (11, [.ref a_Model_now, .ref a_Model_past, .int Model_kept, .int Model_findings, .ref a_Model_bits, .ref a_Model_sizes, .ref a_Model_sheets, .ref a_Model_least, .ref a_Model_ways, .int Model_thenCost, .int Model_thenWays, .int Model_bothCost, .int Model_bothWays, .ref a_Model_handOf, .ref a_Model_crossedAt, .ref a_Model_strokeOf, .ref a_Model_prices, .ref a_Model_hitAt, .ref a_Model_carried])), (a_Model_now, .inl (cI, 187, .inl Model_now))] := hD
        refine lv_aload_n hx hb dX11_shape_52 rfl (lv_at hl 0 rfl) ?_
        refine lv_iload_n hx hb dX11_shape_53 rfl (lv_at hl 1 rfl) ?_
        refine lv_iload_n hx hb dX11_shape_54 rfl (lv_at hl 2 rfl) ?_
        refine lv_iload_n hx hb dX11_shape_55 rfl (lv_at hl 3 rfl) ?_
        obtain ⟨r4, g5, hf⟩ := b1_s hf
        refine k_Vi (rest := [.int r2]) ⟨hx, hb, hml, hown, hts⟩ (c_Model_tooFast l D cI cZ t a_Model a_Model_now a_Model_past a_Model_bits a_Model_sizes a_Model_sheets a_Model_least a_Model_ways a_Model_handOf a_Model_crossedAt a_Model_strokeOf a_Model_prices a_Model_hitAt a_Model_carried H.size Model_now Model_kept Model_findings Model_thenCost Model_thenWays Model_bothCost Model_bothWays l1 l2 l3 r4 g5) (cwV 3 hts gX11_shape_X11_tooFast rfl rfl rfl (by decide +kernel) ⟨Nat.le_of_ble_eq_true rfl, Nat.le_of_ble_eq_true rfl⟩) hE hP hD hS hA [0, 1] [] rfl rfl rfl rfl rfl 0 11 rfl rfl rfl rfl hl.1 rfl (Nat.le_of_ble_eq_true rfl) dX11_shape_56 ⟨Nat.le_of_ble_eq_true rfl, Nat.le_of_ble_eq_true rfl⟩ (fun rq uq H locs hrq hP hD hS => ?_)
        refine lv_tpx hrq.symm ?_
        have hP : va_P D vwCl [(a_Model, .inr (11, [.ref a_Model_now, .ref a_Model_past, .int Model_kept, .int Model_findings, .ref a_Model_bits, .ref a_Model_sizes, .ref a_Model_sheets, .ref a_Model_least, .ref a_Model_ways, .int Model_thenCost, .int Model_thenWays, .int Model_bothCost, .int Model_bothWays, .ref a_Model_handOf, .ref a_Model_crossedAt, .ref a_Model_strokeOf, .ref a_Model_prices, .ref a_Model_hitAt, .ref a_Model_carried])), (a_Model_now, .inl (cI, 187, .inl Model_now))] H := hP
        have hD : va_D A [(a_Model, .inr (11, [.ref a_Model_now, .ref a_Model_past, .int Model_kept, .int Model_findings, .ref a_Model_bits, .ref a_Model_sizes, .ref a_Model_sheets, .ref a_Model_least, .ref a_Model_ways, .int Model_thenCost, .int Model_thenWays, .int Model_bothCost, .int Model_bothWays, .ref a_Model_handOf, .ref a_Model_crossedAt, .ref a_Model_strokeOf, .ref a_Model_prices, .ref a_Model_hitAt, .ref a_Model_carried])), (a_Model_now, .inl (cI, 187, .inl Model_now))] := hD
        refine lv_icmp_ge (tgt := 67) hx hb dX11_shape_59 (by decide) (fun c6 => ?_) (fun c6 => ?_)
        · have hf := ite_t c6 hf
          refine lv_iload_n hx hb dX11_shape_67 rfl (lv_at hl 3 rfl) ?_
          refine lv_istore_n (lv' := [(3, .int l3), (0, .ref a_Model), (1, .int l1), (2, .int l2), (4, .int l4)]) hx hb dX11_shape_68 rfl hl (by decide) rfl (fun ls hl => ?_)
          obtain ⟨x7, ex7, hf⟩ := nm_s hf
          refine lv_iinc (v := x7) (lv' := [(4, .int x7), (3, .int l3), (0, .ref a_Model), (1, .int l1), (2, .int l2)]) hx hb dX11_shape_69 hl (k := 4) rfl (by rw [ex7]; rfl) (by decide) rfl (fun ls hl => ?_)
          refine lv_goto (tgt := 38) hx hb dX11_shape_72 (by decide) ?_
          exact ih38 l1 l2 l3 x7 Model_findings H locs ls hP hD hS (lv_sub hl [2, 3, 4, 1, 0] rfl) hf
        · have hf := ite_f c6 hf
          refine lv_iload hx hb dX11_shape_62 (lv_at hl 4 rfl) ?_
          refine lv_goto (tgt := 68) hx hb dX11_shape_64 (by decide) ?_
          refine lv_istore_n (lv' := [(3, .int l4), (0, .ref a_Model), (1, .int l1), (2, .int l2), (4, .int l4)]) hx hb dX11_shape_68 rfl hl (by decide) rfl (fun ls hl => ?_)
          obtain ⟨x8, ex8, hf⟩ := nm_s hf
          refine lv_iinc (v := x8) (lv' := [(4, .int x8), (3, .int l4), (0, .ref a_Model), (1, .int l1), (2, .int l2)]) hx hb dX11_shape_69 hl (k := 4) rfl (by rw [ex8]; rfl) (by decide) rfl (fun ls hl => ?_)
          refine lv_goto (tgt := 38) hx hb dX11_shape_72 (by decide) ?_
          exact ih38 l1 l2 l4 x8 Model_findings H locs ls hP hD hS (lv_sub hl [2, 3, 4, 1, 0] rfl) hf
  unfold f_Model_shape at hf
  refine lv_aload_n hx hb dX11_shape_0 rfl (lv_at hl 0 rfl) ?_
  refine lv_iload_n hx hb dX11_shape_1 rfl (lv_at hl 1 rfl) ?_
  refine lv_iload_n hx hb dX11_shape_2 rfl (lv_at hl 2 rfl) ?_
  refine lv_iconst (v := 0) hx hb dX11_shape_3 (by decide) ?_
  obtain ⟨r9, g10, hf⟩ := b1_s hf
  refine k_Vi (rest := []) ⟨hx, hb, hml, hown, hts⟩ (c_Model_isRun l D cI cZ t a_Model a_Model_now a_Model_past a_Model_bits a_Model_sizes a_Model_sheets a_Model_least a_Model_ways a_Model_handOf a_Model_crossedAt a_Model_strokeOf a_Model_prices a_Model_hitAt a_Model_carried s.heap.size Model_now Model_kept Model_findings Model_thenCost Model_thenWays Model_bothCost Model_bothWays p1 p2 0 r9 g10) (cwV 3 hts gX11_shape_X11_isRun rfl rfl rfl (by decide +kernel) ⟨Nat.le_of_ble_eq_true rfl, Nat.le_of_ble_eq_true rfl⟩) hE hP hD hS hA [0, 1] [] rfl rfl rfl rfl rfl 0 11 rfl rfl rfl rfl hl.1 rfl (Nat.le_of_ble_eq_true rfl) dX11_shape_4 ⟨Nat.le_of_ble_eq_true rfl, Nat.le_of_ble_eq_true rfl⟩ (fun rq uq H locs hrq hP hD hS => ?_)
  refine lv_tpx hrq.symm ?_
  have hP : va_P D vwCl [(a_Model, .inr (11, [.ref a_Model_now, .ref a_Model_past, .int Model_kept, .int Model_findings, .ref a_Model_bits, .ref a_Model_sizes, .ref a_Model_sheets, .ref a_Model_least, .ref a_Model_ways, .int Model_thenCost, .int Model_thenWays, .int Model_bothCost, .int Model_bothWays, .ref a_Model_handOf, .ref a_Model_crossedAt, .ref a_Model_strokeOf, .ref a_Model_prices, .ref a_Model_hitAt, .ref a_Model_carried])), (a_Model_now, .inl (cI, 187, .inl Model_now))] H := hP
  have hD : va_D A [(a_Model, .inr (11, [.ref a_Model_now, .ref a_Model_past, .int Model_kept, .int Model_findings, .ref a_Model_bits, .ref a_Model_sizes, .ref a_Model_sheets, .ref a_Model_least, .ref a_Model_ways, .int Model_thenCost, .int Model_thenWays, .int Model_bothCost, .int Model_bothWays, .ref a_Model_handOf, .ref a_Model_crossedAt, .ref a_Model_strokeOf, .ref a_Model_prices, .ref a_Model_hitAt, .ref a_Model_carried])), (a_Model_now, .inl (cI, 187, .inl Model_now))] := hD
  refine lv_if_ne (tgt := 17) hx hb dX11_shape_7 (by decide) (fun c11 => ?_) (fun c11 => ?_)
  · have hf := ite_f c11 hf
    refine lv_aload_n hx hb dX11_shape_17 rfl (lv_at hl 0 rfl) ?_
    refine va_get (D := D) (ci := 11) (v := .ref a_Model_now) (C := RX11) (T := TX11) (N := 19) hx hb hts inX11 hown hK hP 0 rfl rfl 0 (by decide) fl9 (fun _ h9 => h9) rfl dX11_shape_18 ?_
    refine lv_iconst (v := 1) hx hb dX11_shape_21 (by decide) ?_
    obtain ⟨ix12, x12, ex12, hf⟩ := rd_s hf
    refine va_iald hx hb hK hP 1 0 rfl rfl ix12 dX11_shape_22 ?_
    refine lv_tpx ex12 ?_
    refine lv_if_ne (tgt := 33) hx hb dX11_shape_23 (by decide) (fun c13 => ?_) (fun c13 => ?_)
    · have hf := ite_f c13 hf
      refine lv_iconst (v := 0) hx hb dX11_shape_33 (by decide) ?_
      refine lv_istore_n (lv' := [(3, .int 0), (0, .ref a_Model), (1, .int p1), (2, .int p2)]) hx hb dX11_shape_34 rfl hl (by decide) rfl (fun ls hl => ?_)
      refine lv_iconst (v := 1) hx hb dX11_shape_35 (by decide) ?_
      refine lv_istore (lv' := [(4, .int 1), (3, .int 0), (0, .ref a_Model), (1, .int p1), (2, .int p2)]) hx hb dX11_shape_36 hl (by decide) rfl (fun ls hl => ?_)
      exact hL38 fu p1 p2 0 1 Model_findings H locs ls hP hD hS (lv_sub hl [2, 3, 4, 1, 0] rfl) hf
    · have hf := ite_t c13 hf
      refine lv_aload_n hx hb dX11_shape_26 rfl (lv_at hl 0 rfl) ?_
      refine lv_ldc (v := (-100006)) hx hb hown kc61 dX11_shape_27 ?_
      obtain ⟨r14, y15, g16, hf⟩ := b2_s hf
      refine k_Vi (rest := []) ⟨hx, hb, hml, hown, hts⟩ (c_Model_finding l D cI cZ t a_Model a_Model_now a_Model_past a_Model_bits a_Model_sizes a_Model_sheets a_Model_least a_Model_ways a_Model_handOf a_Model_crossedAt a_Model_strokeOf a_Model_prices a_Model_hitAt a_Model_carried H.size Model_findings Model_kept Model_thenCost Model_thenWays Model_bothCost Model_bothWays (-100006) r14 y15 g16) (cwV 1 hts gX11_shape_X11_finding rfl rfl rfl (by decide +kernel) ⟨Nat.le_of_ble_eq_true rfl, Nat.le_of_ble_eq_true rfl⟩) hE hP hD hS hA [0] [1] rfl rfl rfl rfl rfl 0 11 rfl rfl rfl rfl hl.1 rfl (Nat.le_of_ble_eq_true rfl) dX11_shape_29 ⟨Nat.le_of_ble_eq_true rfl, Nat.le_of_ble_eq_true rfl⟩ (fun rq uq H locs hrq hP hD hS => ?_)
      refine lv_tpx hrq.symm ?_
      have hP : va_P D vwCl [(a_Model_now, .inl (cI, 187, .inl Model_now)), (a_Model, .inr (11, [.ref a_Model_now, .ref a_Model_past, .int Model_kept, .int y15, .ref a_Model_bits, .ref a_Model_sizes, .ref a_Model_sheets, .ref a_Model_least, .ref a_Model_ways, .int Model_thenCost, .int Model_thenWays, .int Model_bothCost, .int Model_bothWays, .ref a_Model_handOf, .ref a_Model_crossedAt, .ref a_Model_strokeOf, .ref a_Model_prices, .ref a_Model_hitAt, .ref a_Model_carried]))] H := hP
      have hD : va_D A [(a_Model_now, .inl (cI, 187, .inl Model_now)), (a_Model, .inr (11, [.ref a_Model_now, .ref a_Model_past, .int Model_kept, .int y15, .ref a_Model_bits, .ref a_Model_sizes, .ref a_Model_sheets, .ref a_Model_least, .ref a_Model_ways, .int Model_thenCost, .int Model_thenWays, .int Model_bothCost, .int Model_bothWays, .ref a_Model_handOf, .ref a_Model_crossedAt, .ref a_Model_strokeOf, .ref a_Model_prices, .ref a_Model_hitAt, .ref a_Model_carried]))] := hD
      cases hf
      exact k_iret () hQ9 hx hb hr hlocks rfl (hP.sub [1, 0] rfl) (hD.sub [1, 0] (by decide) rfl) hS (Nat.le_of_ble_eq_true rfl) (Nat.le_of_ble_eq_true rfl) dX11_shape_32
  · have hf := ite_t c11 hf
    refine lv_aload_n hx hb dX11_shape_10 rfl (lv_at hl 0 rfl) ?_
    refine lv_ldc (v := (-100001)) hx hb hown kc70 dX11_shape_11 ?_
    obtain ⟨r17, y18, g19, hf⟩ := b2_s hf
    refine k_Vi (rest := []) ⟨hx, hb, hml, hown, hts⟩ (c_Model_finding l D cI cZ t a_Model a_Model_now a_Model_past a_Model_bits a_Model_sizes a_Model_sheets a_Model_least a_Model_ways a_Model_handOf a_Model_crossedAt a_Model_strokeOf a_Model_prices a_Model_hitAt a_Model_carried H.size Model_findings Model_kept Model_thenCost Model_thenWays Model_bothCost Model_bothWays (-100001) r17 y18 g19) (cwV 1 hts gX11_shape_X11_finding rfl rfl rfl (by decide +kernel) ⟨Nat.le_of_ble_eq_true rfl, Nat.le_of_ble_eq_true rfl⟩) hE hP hD hS hA [0] [1] rfl rfl rfl rfl rfl 0 11 rfl rfl rfl rfl hl.1 rfl (Nat.le_of_ble_eq_true rfl) dX11_shape_13 ⟨Nat.le_of_ble_eq_true rfl, Nat.le_of_ble_eq_true rfl⟩ (fun rq uq H locs hrq hP hD hS => ?_)
    refine lv_tpx hrq.symm ?_
    have hP : va_P D vwCl [(a_Model_now, .inl (cI, 187, .inl Model_now)), (a_Model, .inr (11, [.ref a_Model_now, .ref a_Model_past, .int Model_kept, .int y18, .ref a_Model_bits, .ref a_Model_sizes, .ref a_Model_sheets, .ref a_Model_least, .ref a_Model_ways, .int Model_thenCost, .int Model_thenWays, .int Model_bothCost, .int Model_bothWays, .ref a_Model_handOf, .ref a_Model_crossedAt, .ref a_Model_strokeOf, .ref a_Model_prices, .ref a_Model_hitAt, .ref a_Model_carried]))] H := hP
    have hD : va_D A [(a_Model_now, .inl (cI, 187, .inl Model_now)), (a_Model, .inr (11, [.ref a_Model_now, .ref a_Model_past, .int Model_kept, .int y18, .ref a_Model_bits, .ref a_Model_sizes, .ref a_Model_sheets, .ref a_Model_least, .ref a_Model_ways, .int Model_thenCost, .int Model_thenWays, .int Model_bothCost, .int Model_bothWays, .ref a_Model_handOf, .ref a_Model_crossedAt, .ref a_Model_strokeOf, .ref a_Model_prices, .ref a_Model_hitAt, .ref a_Model_carried]))] := hD
    cases hf
    exact k_iret () hQ9 hx hb hr hlocks rfl (hP.sub [1, 0] rfl) (hD.sub [1, 0] (by decide) rfl) hS (Nat.le_of_ble_eq_true rfl) (Nat.le_of_ble_eq_true rfl) dX11_shape_16
abbrev rm_Model_awkward : Room := { frames := 7, cells := 0, slots := 0, locals := 188 }
set_option maxHeartbeats 4000000 in
set_option maxRecDepth 100000 in
theorem c_Model_awkward (l : Launch) (D : va_G) (cI cZ : ClassId) (t : Nat → Nat) (a_Model a_Model_now a_Model_past a_Model_bits a_Model_sizes a_Model_sheets a_Model_least a_Model_ways a_Model_handOf a_Model_crossedAt a_Model_strokeOf a_Model_prices a_Model_hitAt a_Model_carried sz : Nat) (Model_now : Nat → Int32) (Model_findings : Int32) (Model_least Model_ways : Nat → Int32) (Model_thenCost Model_thenWays Model_bothCost Model_bothWays Model_kept zr z_Model_findings : Int32) (z_Model_least z_Model_ways : Nat → Int32) (z_Model_thenCost z_Model_thenWays z_Model_bothCost z_Model_bothWays : Int32) (hf : f_Model_awkward Model_now Model_findings Model_least Model_ways Model_thenCost Model_thenWays Model_bothCost Model_bothWays = some (zr, z_Model_findings, z_Model_least, z_Model_ways, z_Model_thenCost, z_Model_thenWays, z_Model_bothCost, z_Model_bothWays)) : Met l yX11_awkward wsX11_awkward rm_Model_awkward (va_Pc [.ref a_Model] (pcW D cI cZ t [(a_Model, .inr (11, [.ref a_Model_now, .ref a_Model_past, .int Model_kept, .int Model_findings, .ref a_Model_bits, .ref a_Model_sizes, .ref a_Model_sheets, .ref a_Model_least, .ref a_Model_ways, .int Model_thenCost, .int Model_thenWays, .int Model_bothCost, .int Model_bothWays, .ref a_Model_handOf, .ref a_Model_crossedAt, .ref a_Model_strokeOf, .ref a_Model_prices, .ref a_Model_hitAt, .ref a_Model_carried])), (a_Model_now, .inl (cI, 187, .inl Model_now)), (a_Model_least, .inl (cI, 8400, .inl Model_least)), (a_Model_ways, .inl (cI, 8400, .inl Model_ways))] sz)) (va_Qi (fun r (u : Unit) => r = zr) (fun u t' => bW D (va_A [(a_Model, .inr (11, [.ref a_Model_now, .ref a_Model_past, .int Model_kept, .int Model_findings, .ref a_Model_bits, .ref a_Model_sizes, .ref a_Model_sheets, .ref a_Model_least, .ref a_Model_ways, .int Model_thenCost, .int Model_thenWays, .int Model_bothCost, .int Model_bothWays, .ref a_Model_handOf, .ref a_Model_crossedAt, .ref a_Model_strokeOf, .ref a_Model_prices, .ref a_Model_hitAt, .ref a_Model_carried])), (a_Model_now, .inl (cI, 187, .inl Model_now)), (a_Model_least, .inl (cI, 8400, .inl Model_least)), (a_Model_ways, .inl (cI, 8400, .inl Model_ways))] sz) [(a_Model, .inr (11, [.ref a_Model_now, .ref a_Model_past, .int Model_kept, .int z_Model_findings, .ref a_Model_bits, .ref a_Model_sizes, .ref a_Model_sheets, .ref a_Model_least, .ref a_Model_ways, .int z_Model_thenCost, .int z_Model_thenWays, .int z_Model_bothCost, .int z_Model_bothWays, .ref a_Model_handOf, .ref a_Model_crossedAt, .ref a_Model_strokeOf, .ref a_Model_prices, .ref a_Model_hitAt, .ref a_Model_carried])), (a_Model_now, .inl (cI, 187, .inl Model_now)), (a_Model_least, .inl (cI, 8400, .inl z_Model_least)), (a_Model_ways, .inl (cI, 8400, .inl z_Model_ways))] t') (va_A [(a_Model, .inr (11, [.ref a_Model_now, .ref a_Model_past, .int Model_kept, .int Model_findings, .ref a_Model_bits, .ref a_Model_sizes, .ref a_Model_sheets, .ref a_Model_least, .ref a_Model_ways, .int Model_thenCost, .int Model_thenWays, .int Model_bothCost, .int Model_bothWays, .ref a_Model_handOf, .ref a_Model_crossedAt, .ref a_Model_strokeOf, .ref a_Model_prices, .ref a_Model_hitAt, .ref a_Model_carried])), (a_Model_now, .inl (cI, 187, .inl Model_now)), (a_Model_least, .inl (cI, 8400, .inl Model_least)), (a_Model_ways, .inl (cI, 8400, .inl Model_ways))] sz)) 0 0 (va_A [(a_Model, .inr (11, [.ref a_Model_now, .ref a_Model_past, .int Model_kept, .int Model_findings, .ref a_Model_bits, .ref a_Model_sizes, .ref a_Model_sheets, .ref a_Model_least, .ref a_Model_ways, .int Model_thenCost, .int Model_thenWays, .int Model_bothCost, .int Model_bothWays, .ref a_Model_handOf, .ref a_Model_crossedAt, .ref a_Model_strokeOf, .ref a_Model_prices, .ref a_Model_hitAt, .ref a_Model_carried])), (a_Model_now, .inl (cI, 187, .inl Model_now)), (a_Model_least, .inl (cI, 8400, .inl Model_least)), (a_Model_ways, .inl (cI, 8400, .inl Model_ways))] sz) := by
  refine Met.ofW (cc := cX11_awkward) (maxL := 2) (ret := (some .int)) (by decide) rfl ?_
  intro p e s m args below meth c s₁ B hml hv
  obtain ⟨rfl, hsz, hP, hD0, hE⟩ := hv
  have hx := B.exec
  have hb := B.bytes
  have hr := B.returns
  have hts := atoms_spec (ws := wsX11_awkward) B.pre
  have hown : s.vm.findClass RX11 = some m.cls := findClass_of_methodNamed B.named
  have hlocks := B.notSynchronized
  subst hsz
  have hD := hD0.self (sz := s.heap.size)
  generalize hAe : va_A [(a_Model, .inr (11, [.ref a_Model_now, .ref a_Model_past, .int Model_kept, .int Model_findings, .ref a_Model_bits, .ref a_Model_sizes, .ref a_Model_sheets, .ref a_Model_least, .ref a_Model_ways, .int Model_thenCost, .int Model_thenWays, .int Model_bothCost, .int Model_bothWays, .ref a_Model_handOf, .ref a_Model_crossedAt, .ref a_Model_strokeOf, .ref a_Model_prices, .ref a_Model_hitAt, .ref a_Model_carried])), (a_Model_now, .inl (cI, 187, .inl Model_now)), (a_Model_least, .inl (cI, 8400, .inl Model_least)), (a_Model_ways, .inl (cI, 8400, .inl Model_ways))] s.heap.size = A at hD hE ⊢
  have hA : ∀ q : Nat, s.heap.size ≤ q → A q := fun q h => by rw [← hAe]; exact Or.inr h
  clear hAe hD0
  have hS : va_S A s.heap s.heap [] := va_S.rf
  have hK := hE.1
  have hl := lv_entry ([.ref a_Model]) (n := 2) (Nat.le_of_ble_eq_true rfl)
  rw [lg_entry_eq]
  generalize (lg_sl ([.ref a_Model]) ++ List.replicate (2 - (lg_sl ([.ref a_Model])).length) Slot.unset).toArray = ls at hl ⊢
  have hl : lv_has ls 2 [(0, .ref a_Model)] := hl
  refine w_q (fun Q9 hQ9 => ?_)
  have fl9 := hts (.fieldLink RX11 9 "StickRoomModel" "now" "[I") (by decide +kernel)
  have inX11 : ∀ w ∈ wsX110, w ∈ wsX11_awkward := by decide +kernel
  have kc100 := hts (.constant RX11 100 1000000) (by decide +kernel)
  have kc61 := hts (.constant RX11 61 (-100006)) (by decide +kernel)
  unfold f_Model_awkward at hf
  refine lv_aload_n hx hb dX11_awkward_0 rfl (lv_at hl 0 rfl) ?_
  refine lv_aload_n hx hb dX11_awkward_1 rfl (lv_at hl 0 rfl) ?_
  refine va_get (D := D) (ci := 11) (v := .ref a_Model_now) (C := RX11) (T := TX11) (N := 19) hx hb hts inX11 hown hK hP 0 rfl rfl 0 (by decide) fl9 (fun _ h9 => h9) rfl dX11_awkward_2 ?_
  refine lv_iconst (v := 0) hx hb dX11_awkward_5 (by decide) ?_
  obtain ⟨ix1, x1, ex1, hf⟩ := rd_s hf
  refine va_iald hx hb hK hP 1 0 rfl rfl ix1 dX11_awkward_6 ?_
  refine lv_tpx ex1 ?_
  refine lv_iconst (v := 1) hx hb dX11_awkward_7 (by decide) ?_
  refine lv_isub hx hb dX11_awkward_8 ?_
  obtain ⟨r2, y3, y4, y5, y6, y7, y8, g9, hf⟩ := b7_s hf
  refine k_Vi (rest := []) ⟨hx, hb, hml, hown, hts⟩ (c_Model_costUpTo l D cI cZ t a_Model a_Model_now a_Model_past a_Model_bits a_Model_sizes a_Model_sheets a_Model_least a_Model_ways a_Model_handOf a_Model_crossedAt a_Model_strokeOf a_Model_prices a_Model_hitAt a_Model_carried s.heap.size Model_now Model_least Model_ways Model_thenCost Model_thenWays Model_bothCost Model_bothWays Model_kept Model_findings (x1 - 1) r2 y3 y4 y5 y6 y7 y8 g9) (cwV 1 hts gX11_awkward_X11_costUpTo rfl rfl rfl (by decide +kernel) ⟨Nat.le_of_ble_eq_true rfl, Nat.le_of_ble_eq_true rfl⟩) hE hP hD hS hA [0, 1, 2, 3] [] rfl rfl rfl rfl rfl 0 11 rfl rfl rfl rfl hl.1 rfl (Nat.le_of_ble_eq_true rfl) dX11_awkward_9 ⟨Nat.le_of_ble_eq_true rfl, Nat.le_of_ble_eq_true rfl⟩ (fun rq uq H locs hrq hP hD hS => ?_)
  refine lv_tpx hrq.symm ?_
  have hP : va_P D vwCl [(a_Model, .inr (11, [.ref a_Model_now, .ref a_Model_past, .int Model_kept, .int Model_findings, .ref a_Model_bits, .ref a_Model_sizes, .ref a_Model_sheets, .ref a_Model_least, .ref a_Model_ways, .int y5, .int y6, .int y7, .int y8, .ref a_Model_handOf, .ref a_Model_crossedAt, .ref a_Model_strokeOf, .ref a_Model_prices, .ref a_Model_hitAt, .ref a_Model_carried])), (a_Model_now, .inl (cI, 187, .inl Model_now)), (a_Model_least, .inl (cI, 8400, .inl y3)), (a_Model_ways, .inl (cI, 8400, .inl y4))] H := hP
  have hD : va_D A [(a_Model, .inr (11, [.ref a_Model_now, .ref a_Model_past, .int Model_kept, .int Model_findings, .ref a_Model_bits, .ref a_Model_sizes, .ref a_Model_sheets, .ref a_Model_least, .ref a_Model_ways, .int y5, .int y6, .int y7, .int y8, .ref a_Model_handOf, .ref a_Model_crossedAt, .ref a_Model_strokeOf, .ref a_Model_prices, .ref a_Model_hitAt, .ref a_Model_carried])), (a_Model_now, .inl (cI, 187, .inl Model_now)), (a_Model_least, .inl (cI, 8400, .inl y3)), (a_Model_ways, .inl (cI, 8400, .inl y4))] := hD
  refine lv_istore_n (lv' := [(1, .int r2), (0, .ref a_Model)]) hx hb dX11_awkward_12 rfl hl (by decide) rfl (fun ls hl => ?_)
  refine lv_iload_n hx hb dX11_awkward_13 rfl (lv_at hl 0 rfl) ?_
  refine lv_ldc (v := 1000000) hx hb hown kc100 dX11_awkward_14 ?_
  refine lv_icmp_lt (tgt := 28) hx hb dX11_awkward_16 (by decide) (fun c10 => ?_) (fun c10 => ?_)
  · have hf := ite_t c10 hf
    refine lv_iload_n hx hb dX11_awkward_28 rfl (lv_at hl 0 rfl) ?_
    cases hf
    exact k_iret () hQ9 hx hb hr hlocks rfl hP hD hS (Nat.le_of_ble_eq_true rfl) (Nat.le_of_ble_eq_true rfl) dX11_awkward_29
  · have hf := ite_f c10 hf
    refine lv_aload_n hx hb dX11_awkward_19 rfl (lv_at hl 1 rfl) ?_
    refine lv_ldc (v := (-100006)) hx hb hown kc61 dX11_awkward_20 ?_
    obtain ⟨r11, y12, g13, hf⟩ := b2_s hf
    refine k_Vi (rest := []) ⟨hx, hb, hml, hown, hts⟩ (c_Model_finding l D cI cZ t a_Model a_Model_now a_Model_past a_Model_bits a_Model_sizes a_Model_sheets a_Model_least a_Model_ways a_Model_handOf a_Model_crossedAt a_Model_strokeOf a_Model_prices a_Model_hitAt a_Model_carried H.size Model_findings Model_kept y5 y6 y7 y8 (-100006) r11 y12 g13) (cwV 1 hts gX11_awkward_X11_finding rfl rfl rfl (by decide +kernel) ⟨Nat.le_of_ble_eq_true rfl, Nat.le_of_ble_eq_true rfl⟩) hE hP hD hS hA [0] [1, 2, 3] rfl rfl rfl rfl rfl 0 11 rfl rfl rfl rfl hl.1 rfl (Nat.le_of_ble_eq_true rfl) dX11_awkward_22 ⟨Nat.le_of_ble_eq_true rfl, Nat.le_of_ble_eq_true rfl⟩ (fun rq uq H locs hrq hP hD hS => ?_)
    refine lv_tpx hrq.symm ?_
    have hP : va_P D vwCl [(a_Model_now, .inl (cI, 187, .inl Model_now)), (a_Model_least, .inl (cI, 8400, .inl y3)), (a_Model_ways, .inl (cI, 8400, .inl y4)), (a_Model, .inr (11, [.ref a_Model_now, .ref a_Model_past, .int Model_kept, .int y12, .ref a_Model_bits, .ref a_Model_sizes, .ref a_Model_sheets, .ref a_Model_least, .ref a_Model_ways, .int y5, .int y6, .int y7, .int y8, .ref a_Model_handOf, .ref a_Model_crossedAt, .ref a_Model_strokeOf, .ref a_Model_prices, .ref a_Model_hitAt, .ref a_Model_carried]))] H := hP
    have hD : va_D A [(a_Model_now, .inl (cI, 187, .inl Model_now)), (a_Model_least, .inl (cI, 8400, .inl y3)), (a_Model_ways, .inl (cI, 8400, .inl y4)), (a_Model, .inr (11, [.ref a_Model_now, .ref a_Model_past, .int Model_kept, .int y12, .ref a_Model_bits, .ref a_Model_sizes, .ref a_Model_sheets, .ref a_Model_least, .ref a_Model_ways, .int y5, .int y6, .int y7, .int y8, .ref a_Model_handOf, .ref a_Model_crossedAt, .ref a_Model_strokeOf, .ref a_Model_prices, .ref a_Model_hitAt, .ref a_Model_carried]))] := hD
    refine lv_goto (tgt := 29) hx hb dX11_awkward_25 (by decide) ?_
    cases hf
    exact k_iret () hQ9 hx hb hr hlocks rfl (hP.sub [3, 0, 1, 2] rfl) (hD.sub [3, 0, 1, 2] (by decide) rfl) hS (Nat.le_of_ble_eq_true rfl) (Nat.le_of_ble_eq_true rfl) dX11_awkward_29
abbrev rm_Model_ways : Room := { frames := 7, cells := 0, slots := 0, locals := 188 }
set_option maxHeartbeats 4000000 in
set_option maxRecDepth 100000 in
theorem c_Model_ways (l : Launch) (D : va_G) (cI cZ : ClassId) (t : Nat → Nat) (a_Model a_Model_now a_Model_past a_Model_bits a_Model_sizes a_Model_sheets a_Model_least a_Model_ways a_Model_handOf a_Model_crossedAt a_Model_strokeOf a_Model_prices a_Model_hitAt a_Model_carried sz : Nat) (Model_now : Nat → Int32) (Model_findings : Int32) (Model_least Model_ways : Nat → Int32) (Model_thenCost Model_thenWays Model_bothCost Model_bothWays Model_kept zr z_Model_findings : Int32) (z_Model_least z_Model_ways : Nat → Int32) (z_Model_thenCost z_Model_thenWays z_Model_bothCost z_Model_bothWays : Int32) (hf : f_Model_ways Model_now Model_findings Model_least Model_ways Model_thenCost Model_thenWays Model_bothCost Model_bothWays = some (zr, z_Model_findings, z_Model_least, z_Model_ways, z_Model_thenCost, z_Model_thenWays, z_Model_bothCost, z_Model_bothWays)) : Met l yX11_ways wsX11_ways rm_Model_ways (va_Pc [.ref a_Model] (pcW D cI cZ t [(a_Model, .inr (11, [.ref a_Model_now, .ref a_Model_past, .int Model_kept, .int Model_findings, .ref a_Model_bits, .ref a_Model_sizes, .ref a_Model_sheets, .ref a_Model_least, .ref a_Model_ways, .int Model_thenCost, .int Model_thenWays, .int Model_bothCost, .int Model_bothWays, .ref a_Model_handOf, .ref a_Model_crossedAt, .ref a_Model_strokeOf, .ref a_Model_prices, .ref a_Model_hitAt, .ref a_Model_carried])), (a_Model_now, .inl (cI, 187, .inl Model_now)), (a_Model_least, .inl (cI, 8400, .inl Model_least)), (a_Model_ways, .inl (cI, 8400, .inl Model_ways))] sz)) (va_Qi (fun r (u : Unit) => r = zr) (fun u t' => bW D (va_A [(a_Model, .inr (11, [.ref a_Model_now, .ref a_Model_past, .int Model_kept, .int Model_findings, .ref a_Model_bits, .ref a_Model_sizes, .ref a_Model_sheets, .ref a_Model_least, .ref a_Model_ways, .int Model_thenCost, .int Model_thenWays, .int Model_bothCost, .int Model_bothWays, .ref a_Model_handOf, .ref a_Model_crossedAt, .ref a_Model_strokeOf, .ref a_Model_prices, .ref a_Model_hitAt, .ref a_Model_carried])), (a_Model_now, .inl (cI, 187, .inl Model_now)), (a_Model_least, .inl (cI, 8400, .inl Model_least)), (a_Model_ways, .inl (cI, 8400, .inl Model_ways))] sz) [(a_Model, .inr (11, [.ref a_Model_now, .ref a_Model_past, .int Model_kept, .int z_Model_findings, .ref a_Model_bits, .ref a_Model_sizes, .ref a_Model_sheets, .ref a_Model_least, .ref a_Model_ways, .int z_Model_thenCost, .int z_Model_thenWays, .int z_Model_bothCost, .int z_Model_bothWays, .ref a_Model_handOf, .ref a_Model_crossedAt, .ref a_Model_strokeOf, .ref a_Model_prices, .ref a_Model_hitAt, .ref a_Model_carried])), (a_Model_now, .inl (cI, 187, .inl Model_now)), (a_Model_least, .inl (cI, 8400, .inl z_Model_least)), (a_Model_ways, .inl (cI, 8400, .inl z_Model_ways))] t') (va_A [(a_Model, .inr (11, [.ref a_Model_now, .ref a_Model_past, .int Model_kept, .int Model_findings, .ref a_Model_bits, .ref a_Model_sizes, .ref a_Model_sheets, .ref a_Model_least, .ref a_Model_ways, .int Model_thenCost, .int Model_thenWays, .int Model_bothCost, .int Model_bothWays, .ref a_Model_handOf, .ref a_Model_crossedAt, .ref a_Model_strokeOf, .ref a_Model_prices, .ref a_Model_hitAt, .ref a_Model_carried])), (a_Model_now, .inl (cI, 187, .inl Model_now)), (a_Model_least, .inl (cI, 8400, .inl Model_least)), (a_Model_ways, .inl (cI, 8400, .inl Model_ways))] sz)) 0 0 (va_A [(a_Model, .inr (11, [.ref a_Model_now, .ref a_Model_past, .int Model_kept, .int Model_findings, .ref a_Model_bits, .ref a_Model_sizes, .ref a_Model_sheets, .ref a_Model_least, .ref a_Model_ways, .int Model_thenCost, .int Model_thenWays, .int Model_bothCost, .int Model_bothWays, .ref a_Model_handOf, .ref a_Model_crossedAt, .ref a_Model_strokeOf, .ref a_Model_prices, .ref a_Model_hitAt, .ref a_Model_carried])), (a_Model_now, .inl (cI, 187, .inl Model_now)), (a_Model_least, .inl (cI, 8400, .inl Model_least)), (a_Model_ways, .inl (cI, 8400, .inl Model_ways))] sz) := by
  refine Met.ofW (cc := cX11_ways) (maxL := 1) (ret := (some .int)) (by decide) rfl ?_
  intro p e s m args below meth c s₁ B hml hv
  obtain ⟨rfl, hsz, hP, hD0, hE⟩ := hv
  have hx := B.exec
  have hb := B.bytes
  have hr := B.returns
  have hts := atoms_spec (ws := wsX11_ways) B.pre
  have hown : s.vm.findClass RX11 = some m.cls := findClass_of_methodNamed B.named
  have hlocks := B.notSynchronized
  subst hsz
  have hD := hD0.self (sz := s.heap.size)
  generalize hAe : va_A [(a_Model, .inr (11, [.ref a_Model_now, .ref a_Model_past, .int Model_kept, .int Model_findings, .ref a_Model_bits, .ref a_Model_sizes, .ref a_Model_sheets, .ref a_Model_least, .ref a_Model_ways, .int Model_thenCost, .int Model_thenWays, .int Model_bothCost, .int Model_bothWays, .ref a_Model_handOf, .ref a_Model_crossedAt, .ref a_Model_strokeOf, .ref a_Model_prices, .ref a_Model_hitAt, .ref a_Model_carried])), (a_Model_now, .inl (cI, 187, .inl Model_now)), (a_Model_least, .inl (cI, 8400, .inl Model_least)), (a_Model_ways, .inl (cI, 8400, .inl Model_ways))] s.heap.size = A at hD hE ⊢
  have hA : ∀ q : Nat, s.heap.size ≤ q → A q := fun q h => by rw [← hAe]; exact Or.inr h
  clear hAe hD0
  have hS : va_S A s.heap s.heap [] := va_S.rf
  have hK := hE.1
  have hl := lv_entry ([.ref a_Model]) (n := 1) (Nat.le_of_ble_eq_true rfl)
  rw [lg_entry_eq]
  generalize (lg_sl ([.ref a_Model]) ++ List.replicate (1 - (lg_sl ([.ref a_Model])).length) Slot.unset).toArray = ls at hl ⊢
  have hl : lv_has ls 1 [(0, .ref a_Model)] := hl
  refine w_q (fun Q9 hQ9 => ?_)
  have fl9 := hts (.fieldLink RX11 9 "StickRoomModel" "now" "[I") (by decide +kernel)
  have inX11 : ∀ w ∈ wsX110, w ∈ wsX11_ways := by decide +kernel
  have kc100 := hts (.constant RX11 100 1000000) (by decide +kernel)
  have fl136 := hts (.fieldLink RX11 136 "StickRoomModel" "bothWays" "I") (by decide +kernel)
  have kc61 := hts (.constant RX11 61 (-100006)) (by decide +kernel)
  unfold f_Model_ways at hf
  refine lv_aload_n hx hb dX11_ways_0 rfl (lv_at hl 0 rfl) ?_
  refine lv_aload_n hx hb dX11_ways_1 rfl (lv_at hl 0 rfl) ?_
  refine va_get (D := D) (ci := 11) (v := .ref a_Model_now) (C := RX11) (T := TX11) (N := 19) hx hb hts inX11 hown hK hP 0 rfl rfl 0 (by decide) fl9 (fun _ h9 => h9) rfl dX11_ways_2 ?_
  refine lv_iconst (v := 0) hx hb dX11_ways_5 (by decide) ?_
  obtain ⟨ix1, x1, ex1, hf⟩ := rd_s hf
  refine va_iald hx hb hK hP 1 0 rfl rfl ix1 dX11_ways_6 ?_
  refine lv_tpx ex1 ?_
  refine lv_iconst (v := 1) hx hb dX11_ways_7 (by decide) ?_
  refine lv_isub hx hb dX11_ways_8 ?_
  obtain ⟨r2, y3, y4, y5, y6, y7, y8, g9, hf⟩ := b7_s hf
  refine k_Vi (rest := []) ⟨hx, hb, hml, hown, hts⟩ (c_Model_costUpTo l D cI cZ t a_Model a_Model_now a_Model_past a_Model_bits a_Model_sizes a_Model_sheets a_Model_least a_Model_ways a_Model_handOf a_Model_crossedAt a_Model_strokeOf a_Model_prices a_Model_hitAt a_Model_carried s.heap.size Model_now Model_least Model_ways Model_thenCost Model_thenWays Model_bothCost Model_bothWays Model_kept Model_findings (x1 - 1) r2 y3 y4 y5 y6 y7 y8 g9) (cwV 1 hts gX11_ways_X11_costUpTo rfl rfl rfl (by decide +kernel) ⟨Nat.le_of_ble_eq_true rfl, Nat.le_of_ble_eq_true rfl⟩) hE hP hD hS hA [0, 1, 2, 3] [] rfl rfl rfl rfl rfl 0 11 rfl rfl rfl rfl hl.1 rfl (Nat.le_of_ble_eq_true rfl) dX11_ways_9 ⟨Nat.le_of_ble_eq_true rfl, Nat.le_of_ble_eq_true rfl⟩ (fun rq uq H locs hrq hP hD hS => ?_)
  refine lv_tpx hrq.symm ?_
  have hP : va_P D vwCl [(a_Model, .inr (11, [.ref a_Model_now, .ref a_Model_past, .int Model_kept, .int Model_findings, .ref a_Model_bits, .ref a_Model_sizes, .ref a_Model_sheets, .ref a_Model_least, .ref a_Model_ways, .int y5, .int y6, .int y7, .int y8, .ref a_Model_handOf, .ref a_Model_crossedAt, .ref a_Model_strokeOf, .ref a_Model_prices, .ref a_Model_hitAt, .ref a_Model_carried])), (a_Model_now, .inl (cI, 187, .inl Model_now)), (a_Model_least, .inl (cI, 8400, .inl y3)), (a_Model_ways, .inl (cI, 8400, .inl y4))] H := hP
  have hD : va_D A [(a_Model, .inr (11, [.ref a_Model_now, .ref a_Model_past, .int Model_kept, .int Model_findings, .ref a_Model_bits, .ref a_Model_sizes, .ref a_Model_sheets, .ref a_Model_least, .ref a_Model_ways, .int y5, .int y6, .int y7, .int y8, .ref a_Model_handOf, .ref a_Model_crossedAt, .ref a_Model_strokeOf, .ref a_Model_prices, .ref a_Model_hitAt, .ref a_Model_carried])), (a_Model_now, .inl (cI, 187, .inl Model_now)), (a_Model_least, .inl (cI, 8400, .inl y3)), (a_Model_ways, .inl (cI, 8400, .inl y4))] := hD
  refine lv_ldc (v := 1000000) hx hb hown kc100 dX11_ways_12 ?_
  refine lv_icmp_lt (tgt := 26) hx hb dX11_ways_14 (by decide) (fun c10 => ?_) (fun c10 => ?_)
  · have hf := ite_t c10 hf
    refine lv_aload_n hx hb dX11_ways_26 rfl (lv_at hl 0 rfl) ?_
    refine va_get (D := D) (ci := 11) (v := .int y8) (C := RX11) (T := TX11) (N := 19) hx hb hts inX11 hown hK hP 0 rfl rfl 12 (by decide) fl136 (fun _ h9 => h9) rfl dX11_ways_27 ?_
    cases hf
    exact k_iret () hQ9 hx hb hr hlocks rfl hP hD hS (Nat.le_of_ble_eq_true rfl) (Nat.le_of_ble_eq_true rfl) dX11_ways_30
  · have hf := ite_f c10 hf
    refine lv_aload_n hx hb dX11_ways_17 rfl (lv_at hl 0 rfl) ?_
    refine lv_ldc (v := (-100006)) hx hb hown kc61 dX11_ways_18 ?_
    obtain ⟨r11, y12, g13, hf⟩ := b2_s hf
    refine k_Vi (rest := []) ⟨hx, hb, hml, hown, hts⟩ (c_Model_finding l D cI cZ t a_Model a_Model_now a_Model_past a_Model_bits a_Model_sizes a_Model_sheets a_Model_least a_Model_ways a_Model_handOf a_Model_crossedAt a_Model_strokeOf a_Model_prices a_Model_hitAt a_Model_carried H.size Model_findings Model_kept y5 y6 y7 y8 (-100006) r11 y12 g13) (cwV 1 hts gX11_ways_X11_finding rfl rfl rfl (by decide +kernel) ⟨Nat.le_of_ble_eq_true rfl, Nat.le_of_ble_eq_true rfl⟩) hE hP hD hS hA [0] [1, 2, 3] rfl rfl rfl rfl rfl 0 11 rfl rfl rfl rfl hl.1 rfl (Nat.le_of_ble_eq_true rfl) dX11_ways_20 ⟨Nat.le_of_ble_eq_true rfl, Nat.le_of_ble_eq_true rfl⟩ (fun rq uq H locs hrq hP hD hS => ?_)
    refine lv_tpx hrq.symm ?_
    have hP : va_P D vwCl [(a_Model_now, .inl (cI, 187, .inl Model_now)), (a_Model_least, .inl (cI, 8400, .inl y3)), (a_Model_ways, .inl (cI, 8400, .inl y4)), (a_Model, .inr (11, [.ref a_Model_now, .ref a_Model_past, .int Model_kept, .int y12, .ref a_Model_bits, .ref a_Model_sizes, .ref a_Model_sheets, .ref a_Model_least, .ref a_Model_ways, .int y5, .int y6, .int y7, .int y8, .ref a_Model_handOf, .ref a_Model_crossedAt, .ref a_Model_strokeOf, .ref a_Model_prices, .ref a_Model_hitAt, .ref a_Model_carried]))] H := hP
    have hD : va_D A [(a_Model_now, .inl (cI, 187, .inl Model_now)), (a_Model_least, .inl (cI, 8400, .inl y3)), (a_Model_ways, .inl (cI, 8400, .inl y4)), (a_Model, .inr (11, [.ref a_Model_now, .ref a_Model_past, .int Model_kept, .int y12, .ref a_Model_bits, .ref a_Model_sizes, .ref a_Model_sheets, .ref a_Model_least, .ref a_Model_ways, .int y5, .int y6, .int y7, .int y8, .ref a_Model_handOf, .ref a_Model_crossedAt, .ref a_Model_strokeOf, .ref a_Model_prices, .ref a_Model_hitAt, .ref a_Model_carried]))] := hD
    refine lv_goto (tgt := 30) hx hb dX11_ways_23 (by decide) ?_
    cases hf
    exact k_iret () hQ9 hx hb hr hlocks rfl (hP.sub [3, 0, 1, 2] rfl) (hD.sub [3, 0, 1, 2] (by decide) rfl) hS (Nat.le_of_ble_eq_true rfl) (Nat.le_of_ble_eq_true rfl) dX11_ways_30
abbrev rm_Model_stuck : Room := { frames := 7, cells := 0, slots := 0, locals := 188 }
set_option maxHeartbeats 4000000 in
set_option maxRecDepth 100000 in
theorem c_Model_stuck (l : Launch) (D : va_G) (cI cZ : ClassId) (t : Nat → Nat) (a_Model a_Model_now a_Model_past a_Model_bits a_Model_sizes a_Model_sheets a_Model_least a_Model_ways a_Model_handOf a_Model_crossedAt a_Model_strokeOf a_Model_prices a_Model_hitAt a_Model_carried sz : Nat) (Model_now Model_least Model_ways : Nat → Int32) (Model_thenCost Model_thenWays Model_bothCost Model_bothWays Model_kept Model_findings zr : Int32) (z_Model_least z_Model_ways : Nat → Int32) (z_Model_thenCost z_Model_thenWays z_Model_bothCost z_Model_bothWays : Int32) (hf : f_Model_stuck Model_now Model_least Model_ways Model_thenCost Model_thenWays Model_bothCost Model_bothWays = some (zr, z_Model_least, z_Model_ways, z_Model_thenCost, z_Model_thenWays, z_Model_bothCost, z_Model_bothWays)) : Met l yX11_stuck wsX11_stuck rm_Model_stuck (va_Pc [.ref a_Model] (pcW D cI cZ t [(a_Model, .inr (11, [.ref a_Model_now, .ref a_Model_past, .int Model_kept, .int Model_findings, .ref a_Model_bits, .ref a_Model_sizes, .ref a_Model_sheets, .ref a_Model_least, .ref a_Model_ways, .int Model_thenCost, .int Model_thenWays, .int Model_bothCost, .int Model_bothWays, .ref a_Model_handOf, .ref a_Model_crossedAt, .ref a_Model_strokeOf, .ref a_Model_prices, .ref a_Model_hitAt, .ref a_Model_carried])), (a_Model_now, .inl (cI, 187, .inl Model_now)), (a_Model_least, .inl (cI, 8400, .inl Model_least)), (a_Model_ways, .inl (cI, 8400, .inl Model_ways))] sz)) (va_Qi (fun r (u : Unit) => r = zr) (fun u t' => bW D (va_A [(a_Model, .inr (11, [.ref a_Model_now, .ref a_Model_past, .int Model_kept, .int Model_findings, .ref a_Model_bits, .ref a_Model_sizes, .ref a_Model_sheets, .ref a_Model_least, .ref a_Model_ways, .int Model_thenCost, .int Model_thenWays, .int Model_bothCost, .int Model_bothWays, .ref a_Model_handOf, .ref a_Model_crossedAt, .ref a_Model_strokeOf, .ref a_Model_prices, .ref a_Model_hitAt, .ref a_Model_carried])), (a_Model_now, .inl (cI, 187, .inl Model_now)), (a_Model_least, .inl (cI, 8400, .inl Model_least)), (a_Model_ways, .inl (cI, 8400, .inl Model_ways))] sz) [(a_Model, .inr (11, [.ref a_Model_now, .ref a_Model_past, .int Model_kept, .int Model_findings, .ref a_Model_bits, .ref a_Model_sizes, .ref a_Model_sheets, .ref a_Model_least, .ref a_Model_ways, .int z_Model_thenCost, .int z_Model_thenWays, .int z_Model_bothCost, .int z_Model_bothWays, .ref a_Model_handOf, .ref a_Model_crossedAt, .ref a_Model_strokeOf, .ref a_Model_prices, .ref a_Model_hitAt, .ref a_Model_carried])), (a_Model_now, .inl (cI, 187, .inl Model_now)), (a_Model_least, .inl (cI, 8400, .inl z_Model_least)), (a_Model_ways, .inl (cI, 8400, .inl z_Model_ways))] t') (va_A [(a_Model, .inr (11, [.ref a_Model_now, .ref a_Model_past, .int Model_kept, .int Model_findings, .ref a_Model_bits, .ref a_Model_sizes, .ref a_Model_sheets, .ref a_Model_least, .ref a_Model_ways, .int Model_thenCost, .int Model_thenWays, .int Model_bothCost, .int Model_bothWays, .ref a_Model_handOf, .ref a_Model_crossedAt, .ref a_Model_strokeOf, .ref a_Model_prices, .ref a_Model_hitAt, .ref a_Model_carried])), (a_Model_now, .inl (cI, 187, .inl Model_now)), (a_Model_least, .inl (cI, 8400, .inl Model_least)), (a_Model_ways, .inl (cI, 8400, .inl Model_ways))] sz)) 0 0 (va_A [(a_Model, .inr (11, [.ref a_Model_now, .ref a_Model_past, .int Model_kept, .int Model_findings, .ref a_Model_bits, .ref a_Model_sizes, .ref a_Model_sheets, .ref a_Model_least, .ref a_Model_ways, .int Model_thenCost, .int Model_thenWays, .int Model_bothCost, .int Model_bothWays, .ref a_Model_handOf, .ref a_Model_crossedAt, .ref a_Model_strokeOf, .ref a_Model_prices, .ref a_Model_hitAt, .ref a_Model_carried])), (a_Model_now, .inl (cI, 187, .inl Model_now)), (a_Model_least, .inl (cI, 8400, .inl Model_least)), (a_Model_ways, .inl (cI, 8400, .inl Model_ways))] sz) := by
  refine Met.ofW (cc := cX11_stuck) (maxL := 2) (ret := (some .int)) (by decide) rfl ?_
  intro p e s m args below meth c s₁ B hml hv
  obtain ⟨rfl, hsz, hP, hD0, hE⟩ := hv
  have hx := B.exec
  have hb := B.bytes
  have hr := B.returns
  have hts := atoms_spec (ws := wsX11_stuck) B.pre
  have hown : s.vm.findClass RX11 = some m.cls := findClass_of_methodNamed B.named
  have hlocks := B.notSynchronized
  subst hsz
  have hD := hD0.self (sz := s.heap.size)
  generalize hAe : va_A [(a_Model, .inr (11, [.ref a_Model_now, .ref a_Model_past, .int Model_kept, .int Model_findings, .ref a_Model_bits, .ref a_Model_sizes, .ref a_Model_sheets, .ref a_Model_least, .ref a_Model_ways, .int Model_thenCost, .int Model_thenWays, .int Model_bothCost, .int Model_bothWays, .ref a_Model_handOf, .ref a_Model_crossedAt, .ref a_Model_strokeOf, .ref a_Model_prices, .ref a_Model_hitAt, .ref a_Model_carried])), (a_Model_now, .inl (cI, 187, .inl Model_now)), (a_Model_least, .inl (cI, 8400, .inl Model_least)), (a_Model_ways, .inl (cI, 8400, .inl Model_ways))] s.heap.size = A at hD hE ⊢
  have hA : ∀ q : Nat, s.heap.size ≤ q → A q := fun q h => by rw [← hAe]; exact Or.inr h
  clear hAe hD0
  have hS : va_S A s.heap s.heap [] := va_S.rf
  have hK := hE.1
  have hl := lv_entry ([.ref a_Model]) (n := 2) (Nat.le_of_ble_eq_true rfl)
  rw [lg_entry_eq]
  generalize (lg_sl ([.ref a_Model]) ++ List.replicate (2 - (lg_sl ([.ref a_Model])).length) Slot.unset).toArray = ls at hl ⊢
  have hl : lv_has ls 2 [(0, .ref a_Model)] := hl
  refine w_q (fun Q9 hQ9 => ?_)
  have fl9 := hts (.fieldLink RX11 9 "StickRoomModel" "now" "[I") (by decide +kernel)
  have inX11 : ∀ w ∈ wsX110, w ∈ wsX11_stuck := by decide +kernel
  have kc100 := hts (.constant RX11 100 1000000) (by decide +kernel)
  have hL2 : ∀ (n2 : Nat) (l1 : Int32) (Model_least Model_ways : Nat → Int32) (Model_thenCost Model_thenWays Model_bothCost Model_bothWays : Int32) (H : Heap) (locs : List Loc) (ls : Array Slot), va_P D vwCl [(a_Model, .inr (11, [.ref a_Model_now, .ref a_Model_past, .int Model_kept, .int Model_findings, .ref a_Model_bits, .ref a_Model_sizes, .ref a_Model_sheets, .ref a_Model_least, .ref a_Model_ways, .int Model_thenCost, .int Model_thenWays, .int Model_bothCost, .int Model_bothWays, .ref a_Model_handOf, .ref a_Model_crossedAt, .ref a_Model_strokeOf, .ref a_Model_prices, .ref a_Model_hitAt, .ref a_Model_carried])), (a_Model_now, .inl (cI, 187, .inl Model_now)), (a_Model_least, .inl (cI, 8400, .inl Model_least)), (a_Model_ways, .inl (cI, 8400, .inl Model_ways))] H → va_D A [(a_Model, .inr (11, [.ref a_Model_now, .ref a_Model_past, .int Model_kept, .int Model_findings, .ref a_Model_bits, .ref a_Model_sizes, .ref a_Model_sheets, .ref a_Model_least, .ref a_Model_ways, .int Model_thenCost, .int Model_thenWays, .int Model_bothCost, .int Model_bothWays, .ref a_Model_handOf, .ref a_Model_crossedAt, .ref a_Model_strokeOf, .ref a_Model_prices, .ref a_Model_hitAt, .ref a_Model_carried])), (a_Model_now, .inl (cI, 187, .inl Model_now)), (a_Model_least, .inl (cI, 8400, .inl Model_least)), (a_Model_ways, .inl (cI, 8400, .inl Model_ways))] → va_S A s.heap H locs → lv_has ls 2 [(0, .ref a_Model), (1, .int l1)] → f_Model_stuck_2 Model_now  n2 l1 Model_least Model_ways Model_thenCost Model_thenWays Model_bothCost Model_bothWays = some (zr, z_Model_least, z_Model_ways, z_Model_thenCost, z_Model_thenWays, z_Model_bothCost, z_Model_bothWays) → W p l e (headSpec wsX11_stuck rm_Model_stuck).room s m ([.ref a_Model] : List Value).toArray below meth c H locs 0 0 Q9 (F0 m 2 ls []) := by
    intro n2
    induction n2 with
    | zero => intro l1 Model_least Model_ways Model_thenCost Model_thenWays Model_bothCost Model_bothWays H locs ls hP hD hS hl hf; exact nomatch (show none = some (zr, z_Model_least, z_Model_ways, z_Model_thenCost, z_Model_thenWays, z_Model_bothCost, z_Model_bothWays) from hf)
    | succ n2 ih2 =>
      intro l1 Model_least Model_ways Model_thenCost Model_thenWays Model_bothCost Model_bothWays H locs ls hP hD hS hl hf
      have hf : f_Model_stuck_2_b Model_now  (f_Model_stuck_2 Model_now  n2) l1 Model_least Model_ways Model_thenCost Model_thenWays Model_bothCost Model_bothWays = some (zr, z_Model_least, z_Model_ways, z_Model_thenCost, z_Model_thenWays, z_Model_bothCost, z_Model_bothWays) := hf
      unfold f_Model_stuck_2_b at hf
      refine lv_iload_n hx hb dX11_stuck_2 rfl (lv_at hl 1 rfl) ?_
      refine lv_aload_n hx hb dX11_stuck_3 rfl (lv_at hl 0 rfl) ?_
      refine va_get (D := D) (ci := 11) (v := .ref a_Model_now) (C := RX11) (T := TX11) (N := 19) hx hb hts inX11 hown hK hP 0 rfl rfl 0 (by decide) fl9 (fun _ h9 => h9) rfl dX11_stuck_4 ?_
      refine lv_iconst (v := 0) hx hb dX11_stuck_7 (by decide) ?_
      obtain ⟨ix1, x1, ex1, hf⟩ := rd_s hf
      refine va_iald hx hb hK hP 1 0 rfl rfl ix1 dX11_stuck_8 ?_
      refine lv_tpx ex1 ?_
      refine lv_icmp_ge (tgt := 30) hx hb dX11_stuck_9 (by decide) (fun c2 => ?_) (fun c2 => ?_)
      · have hf := ite_t c2 hf
        refine lv_iconst (v := (-1)) hx hb dX11_stuck_30 (by decide) ?_
        cases hf
        exact k_iret () hQ9 hx hb hr hlocks rfl hP hD hS (Nat.le_of_ble_eq_true rfl) (Nat.le_of_ble_eq_true rfl) dX11_stuck_31
      · have hf := ite_f c2 hf
        refine lv_aload_n hx hb dX11_stuck_12 rfl (lv_at hl 0 rfl) ?_
        refine lv_iload_n hx hb dX11_stuck_13 rfl (lv_at hl 1 rfl) ?_
        obtain ⟨r3, y4, y5, y6, y7, y8, y9, g10, hf⟩ := b7_s hf
        refine k_Vi (rest := []) ⟨hx, hb, hml, hown, hts⟩ (c_Model_costUpTo l D cI cZ t a_Model a_Model_now a_Model_past a_Model_bits a_Model_sizes a_Model_sheets a_Model_least a_Model_ways a_Model_handOf a_Model_crossedAt a_Model_strokeOf a_Model_prices a_Model_hitAt a_Model_carried H.size Model_now Model_least Model_ways Model_thenCost Model_thenWays Model_bothCost Model_bothWays Model_kept Model_findings l1 r3 y4 y5 y6 y7 y8 y9 g10) (cwV 1 hts gX11_stuck_X11_costUpTo rfl rfl rfl (by decide +kernel) ⟨Nat.le_of_ble_eq_true rfl, Nat.le_of_ble_eq_true rfl⟩) hE hP hD hS hA [0, 1, 2, 3] [] rfl rfl rfl rfl rfl 0 11 rfl rfl rfl rfl hl.1 rfl (Nat.le_of_ble_eq_true rfl) dX11_stuck_14 ⟨Nat.le_of_ble_eq_true rfl, Nat.le_of_ble_eq_true rfl⟩ (fun rq uq H locs hrq hP hD hS => ?_)
        refine lv_tpx hrq.symm ?_
        have hP : va_P D vwCl [(a_Model, .inr (11, [.ref a_Model_now, .ref a_Model_past, .int Model_kept, .int Model_findings, .ref a_Model_bits, .ref a_Model_sizes, .ref a_Model_sheets, .ref a_Model_least, .ref a_Model_ways, .int y6, .int y7, .int y8, .int y9, .ref a_Model_handOf, .ref a_Model_crossedAt, .ref a_Model_strokeOf, .ref a_Model_prices, .ref a_Model_hitAt, .ref a_Model_carried])), (a_Model_now, .inl (cI, 187, .inl Model_now)), (a_Model_least, .inl (cI, 8400, .inl y4)), (a_Model_ways, .inl (cI, 8400, .inl y5))] H := hP
        have hD : va_D A [(a_Model, .inr (11, [.ref a_Model_now, .ref a_Model_past, .int Model_kept, .int Model_findings, .ref a_Model_bits, .ref a_Model_sizes, .ref a_Model_sheets, .ref a_Model_least, .ref a_Model_ways, .int y6, .int y7, .int y8, .int y9, .ref a_Model_handOf, .ref a_Model_crossedAt, .ref a_Model_strokeOf, .ref a_Model_prices, .ref a_Model_hitAt, .ref a_Model_carried])), (a_Model_now, .inl (cI, 187, .inl Model_now)), (a_Model_least, .inl (cI, 8400, .inl y4)), (a_Model_ways, .inl (cI, 8400, .inl y5))] := hD
        refine lv_ldc (v := 1000000) hx hb hown kc100 dX11_stuck_17 ?_
        refine lv_icmp_lt (tgt := 24) hx hb dX11_stuck_19 (by decide) (fun c11 => ?_) (fun c11 => ?_)
        · have hf := ite_t c11 hf
          obtain ⟨x12, ex12, hf⟩ := nm_s hf
          refine lv_iinc (v := x12) (lv' := [(1, .int x12), (0, .ref a_Model)]) hx hb dX11_stuck_24 hl (k := 1) rfl (by rw [ex12]; rfl) (by decide) rfl (fun ls hl => ?_)
          refine lv_goto (tgt := 2) hx hb dX11_stuck_27 (by decide) ?_
          exact ih2 x12 y4 y5 y6 y7 y8 y9 H locs ls hP hD hS (lv_sub hl [1, 0] rfl) hf
        · have hf := ite_f c11 hf
          refine lv_iload_n hx hb dX11_stuck_22 rfl (lv_at hl 1 rfl) ?_
          cases hf
          exact k_iret () hQ9 hx hb hr hlocks rfl hP hD hS (Nat.le_of_ble_eq_true rfl) (Nat.le_of_ble_eq_true rfl) dX11_stuck_23
  unfold f_Model_stuck at hf
  refine lv_iconst (v := 0) hx hb dX11_stuck_0 (by decide) ?_
  refine lv_istore_n (lv' := [(1, .int 0), (0, .ref a_Model)]) hx hb dX11_stuck_1 rfl hl (by decide) rfl (fun ls hl => ?_)
  exact hL2 fu 0 Model_least Model_ways Model_thenCost Model_thenWays Model_bothCost Model_bothWays s.heap [] ls hP hD hS (lv_sub hl [1, 0] rfl) hf
abbrev rm_Model_hand : Room := { frames := 8, cells := 0, slots := 0, locals := 216 }
set_option maxHeartbeats 4000000 in
set_option maxRecDepth 100000 in
theorem c_Model_hand (l : Launch) (D : va_G) (cI cZ : ClassId) (t : Nat → Nat) (a_Model a_Model_now a_Model_past a_Model_bits a_Model_sizes a_Model_sheets a_Model_least a_Model_ways a_Model_handOf a_Model_crossedAt a_Model_strokeOf a_Model_prices a_Model_hitAt a_Model_carried sz : Nat) (Model_now : Nat → Int32) (Model_findings : Int32) (Model_least Model_ways : Nat → Int32) (Model_thenCost Model_thenWays Model_bothCost Model_bothWays : Int32) (Model_handOf Model_crossedAt Model_strokeOf : Nat → Int32) (Model_kept p1 zr z_Model_findings : Int32) (z_Model_least z_Model_ways : Nat → Int32) (z_Model_thenCost z_Model_thenWays z_Model_bothCost z_Model_bothWays : Int32) (z_Model_handOf z_Model_crossedAt z_Model_strokeOf : Nat → Int32) (hf : f_Model_hand Model_now Model_findings Model_least Model_ways Model_thenCost Model_thenWays Model_bothCost Model_bothWays Model_handOf Model_crossedAt Model_strokeOf p1 = some (zr, z_Model_findings, z_Model_least, z_Model_ways, z_Model_thenCost, z_Model_thenWays, z_Model_bothCost, z_Model_bothWays, z_Model_handOf, z_Model_crossedAt, z_Model_strokeOf)) : Met l yX11_hand wsX11_hand rm_Model_hand (va_Pc [.ref a_Model, .int p1] (pcW D cI cZ t [(a_Model, .inr (11, [.ref a_Model_now, .ref a_Model_past, .int Model_kept, .int Model_findings, .ref a_Model_bits, .ref a_Model_sizes, .ref a_Model_sheets, .ref a_Model_least, .ref a_Model_ways, .int Model_thenCost, .int Model_thenWays, .int Model_bothCost, .int Model_bothWays, .ref a_Model_handOf, .ref a_Model_crossedAt, .ref a_Model_strokeOf, .ref a_Model_prices, .ref a_Model_hitAt, .ref a_Model_carried])), (a_Model_now, .inl (cI, 187, .inl Model_now)), (a_Model_least, .inl (cI, 8400, .inl Model_least)), (a_Model_ways, .inl (cI, 8400, .inl Model_ways)), (a_Model_handOf, .inl (cI, 20, .inl Model_handOf)), (a_Model_crossedAt, .inl (cZ, 20, .inl Model_crossedAt)), (a_Model_strokeOf, .inl (cI, 40, .inl Model_strokeOf))] sz)) (va_Qi (fun r (u : Unit) => r = zr) (fun u t' => bW D (va_A [(a_Model, .inr (11, [.ref a_Model_now, .ref a_Model_past, .int Model_kept, .int Model_findings, .ref a_Model_bits, .ref a_Model_sizes, .ref a_Model_sheets, .ref a_Model_least, .ref a_Model_ways, .int Model_thenCost, .int Model_thenWays, .int Model_bothCost, .int Model_bothWays, .ref a_Model_handOf, .ref a_Model_crossedAt, .ref a_Model_strokeOf, .ref a_Model_prices, .ref a_Model_hitAt, .ref a_Model_carried])), (a_Model_now, .inl (cI, 187, .inl Model_now)), (a_Model_least, .inl (cI, 8400, .inl Model_least)), (a_Model_ways, .inl (cI, 8400, .inl Model_ways)), (a_Model_handOf, .inl (cI, 20, .inl Model_handOf)), (a_Model_crossedAt, .inl (cZ, 20, .inl Model_crossedAt)), (a_Model_strokeOf, .inl (cI, 40, .inl Model_strokeOf))] sz) [(a_Model, .inr (11, [.ref a_Model_now, .ref a_Model_past, .int Model_kept, .int z_Model_findings, .ref a_Model_bits, .ref a_Model_sizes, .ref a_Model_sheets, .ref a_Model_least, .ref a_Model_ways, .int z_Model_thenCost, .int z_Model_thenWays, .int z_Model_bothCost, .int z_Model_bothWays, .ref a_Model_handOf, .ref a_Model_crossedAt, .ref a_Model_strokeOf, .ref a_Model_prices, .ref a_Model_hitAt, .ref a_Model_carried])), (a_Model_now, .inl (cI, 187, .inl Model_now)), (a_Model_least, .inl (cI, 8400, .inl z_Model_least)), (a_Model_ways, .inl (cI, 8400, .inl z_Model_ways)), (a_Model_handOf, .inl (cI, 20, .inl z_Model_handOf)), (a_Model_crossedAt, .inl (cZ, 20, .inl z_Model_crossedAt)), (a_Model_strokeOf, .inl (cI, 40, .inl z_Model_strokeOf))] t') (va_A [(a_Model, .inr (11, [.ref a_Model_now, .ref a_Model_past, .int Model_kept, .int Model_findings, .ref a_Model_bits, .ref a_Model_sizes, .ref a_Model_sheets, .ref a_Model_least, .ref a_Model_ways, .int Model_thenCost, .int Model_thenWays, .int Model_bothCost, .int Model_bothWays, .ref a_Model_handOf, .ref a_Model_crossedAt, .ref a_Model_strokeOf, .ref a_Model_prices, .ref a_Model_hitAt, .ref a_Model_carried])), (a_Model_now, .inl (cI, 187, .inl Model_now)), (a_Model_least, .inl (cI, 8400, .inl Model_least)), (a_Model_ways, .inl (cI, 8400, .inl Model_ways)), (a_Model_handOf, .inl (cI, 20, .inl Model_handOf)), (a_Model_crossedAt, .inl (cZ, 20, .inl Model_crossedAt)), (a_Model_strokeOf, .inl (cI, 40, .inl Model_strokeOf))] sz)) 0 0 (va_A [(a_Model, .inr (11, [.ref a_Model_now, .ref a_Model_past, .int Model_kept, .int Model_findings, .ref a_Model_bits, .ref a_Model_sizes, .ref a_Model_sheets, .ref a_Model_least, .ref a_Model_ways, .int Model_thenCost, .int Model_thenWays, .int Model_bothCost, .int Model_bothWays, .ref a_Model_handOf, .ref a_Model_crossedAt, .ref a_Model_strokeOf, .ref a_Model_prices, .ref a_Model_hitAt, .ref a_Model_carried])), (a_Model_now, .inl (cI, 187, .inl Model_now)), (a_Model_least, .inl (cI, 8400, .inl Model_least)), (a_Model_ways, .inl (cI, 8400, .inl Model_ways)), (a_Model_handOf, .inl (cI, 20, .inl Model_handOf)), (a_Model_crossedAt, .inl (cZ, 20, .inl Model_crossedAt)), (a_Model_strokeOf, .inl (cI, 40, .inl Model_strokeOf))] sz) := by
  refine Met.ofW (cc := cX11_hand) (maxL := 2) (ret := (some .int)) (by decide) rfl ?_
  intro p e s m args below meth c s₁ B hml hv
  obtain ⟨rfl, hsz, hP, hD0, hE⟩ := hv
  have hx := B.exec
  have hb := B.bytes
  have hr := B.returns
  have hts := atoms_spec (ws := wsX11_hand) B.pre
  have hown : s.vm.findClass RX11 = some m.cls := findClass_of_methodNamed B.named
  have hlocks := B.notSynchronized
  subst hsz
  have hD := hD0.self (sz := s.heap.size)
  generalize hAe : va_A [(a_Model, .inr (11, [.ref a_Model_now, .ref a_Model_past, .int Model_kept, .int Model_findings, .ref a_Model_bits, .ref a_Model_sizes, .ref a_Model_sheets, .ref a_Model_least, .ref a_Model_ways, .int Model_thenCost, .int Model_thenWays, .int Model_bothCost, .int Model_bothWays, .ref a_Model_handOf, .ref a_Model_crossedAt, .ref a_Model_strokeOf, .ref a_Model_prices, .ref a_Model_hitAt, .ref a_Model_carried])), (a_Model_now, .inl (cI, 187, .inl Model_now)), (a_Model_least, .inl (cI, 8400, .inl Model_least)), (a_Model_ways, .inl (cI, 8400, .inl Model_ways)), (a_Model_handOf, .inl (cI, 20, .inl Model_handOf)), (a_Model_crossedAt, .inl (cZ, 20, .inl Model_crossedAt)), (a_Model_strokeOf, .inl (cI, 40, .inl Model_strokeOf))] s.heap.size = A at hD hE ⊢
  have hA : ∀ q : Nat, s.heap.size ≤ q → A q := fun q h => by rw [← hAe]; exact Or.inr h
  clear hAe hD0
  have hS : va_S A s.heap s.heap [] := va_S.rf
  have hK := hE.1
  have hl := lv_entry ([.ref a_Model, .int p1]) (n := 2) (Nat.le_of_ble_eq_true rfl)
  rw [lg_entry_eq]
  generalize (lg_sl ([.ref a_Model, .int p1]) ++ List.replicate (2 - (lg_sl ([.ref a_Model, .int p1])).length) Slot.unset).toArray = ls at hl ⊢
  have hl : lv_has ls 2 [(0, .ref a_Model), (1, .int p1)] := hl
  refine w_q (fun Q9 hQ9 => ?_)
  have kc61 := hts (.constant RX11 61 (-100006)) (by decide +kernel)
  have fl31 := hts (.fieldLink RX11 31 "StickRoomModel" "handOf" "[I") (by decide +kernel)
  have inX11 : ∀ w ∈ wsX110, w ∈ wsX11_hand := by decide +kernel
  have kc70 := hts (.constant RX11 70 (-100001)) (by decide +kernel)
  unfold f_Model_hand at hf
  refine lv_aload_n hx hb dX11_hand_0 rfl (lv_at hl 0 rfl) ?_
  refine lv_iload_n hx hb dX11_hand_1 rfl (lv_at hl 1 rfl) ?_
  obtain ⟨r1, g2, hf⟩ := b1_s hf
  refine k_Vi (rest := []) ⟨hx, hb, hml, hown, hts⟩ (c_Model_isNote l D cI cZ t a_Model a_Model_now a_Model_past a_Model_bits a_Model_sizes a_Model_sheets a_Model_least a_Model_ways a_Model_handOf a_Model_crossedAt a_Model_strokeOf a_Model_prices a_Model_hitAt a_Model_carried s.heap.size Model_now Model_kept Model_findings Model_thenCost Model_thenWays Model_bothCost Model_bothWays p1 r1 g2) (cwV 1 hts gX11_hand_X11_isNote rfl rfl rfl (by decide +kernel) ⟨Nat.le_of_ble_eq_true rfl, Nat.le_of_ble_eq_true rfl⟩) hE hP hD hS hA [0, 1] [2, 3, 4, 5, 6] rfl rfl rfl rfl rfl 0 11 rfl rfl rfl rfl hl.1 rfl (Nat.le_of_ble_eq_true rfl) dX11_hand_2 ⟨Nat.le_of_ble_eq_true rfl, Nat.le_of_ble_eq_true rfl⟩ (fun rq uq H locs hrq hP hD hS => ?_)
  refine lv_tpx hrq.symm ?_
  have hP : va_P D vwCl [(a_Model_least, .inl (cI, 8400, .inl Model_least)), (a_Model_ways, .inl (cI, 8400, .inl Model_ways)), (a_Model_handOf, .inl (cI, 20, .inl Model_handOf)), (a_Model_crossedAt, .inl (cZ, 20, .inl Model_crossedAt)), (a_Model_strokeOf, .inl (cI, 40, .inl Model_strokeOf)), (a_Model, .inr (11, [.ref a_Model_now, .ref a_Model_past, .int Model_kept, .int Model_findings, .ref a_Model_bits, .ref a_Model_sizes, .ref a_Model_sheets, .ref a_Model_least, .ref a_Model_ways, .int Model_thenCost, .int Model_thenWays, .int Model_bothCost, .int Model_bothWays, .ref a_Model_handOf, .ref a_Model_crossedAt, .ref a_Model_strokeOf, .ref a_Model_prices, .ref a_Model_hitAt, .ref a_Model_carried])), (a_Model_now, .inl (cI, 187, .inl Model_now))] H := hP
  have hD : va_D A [(a_Model_least, .inl (cI, 8400, .inl Model_least)), (a_Model_ways, .inl (cI, 8400, .inl Model_ways)), (a_Model_handOf, .inl (cI, 20, .inl Model_handOf)), (a_Model_crossedAt, .inl (cZ, 20, .inl Model_crossedAt)), (a_Model_strokeOf, .inl (cI, 40, .inl Model_strokeOf)), (a_Model, .inr (11, [.ref a_Model_now, .ref a_Model_past, .int Model_kept, .int Model_findings, .ref a_Model_bits, .ref a_Model_sizes, .ref a_Model_sheets, .ref a_Model_least, .ref a_Model_ways, .int Model_thenCost, .int Model_thenWays, .int Model_bothCost, .int Model_bothWays, .ref a_Model_handOf, .ref a_Model_crossedAt, .ref a_Model_strokeOf, .ref a_Model_prices, .ref a_Model_hitAt, .ref a_Model_carried])), (a_Model_now, .inl (cI, 187, .inl Model_now))] := hD
  refine lv_if_ne (tgt := 15) hx hb dX11_hand_5 (by decide) (fun c3 => ?_) (fun c3 => ?_)
  · have hf := ite_f c3 hf
    refine lv_aload_n hx hb dX11_hand_15 rfl (lv_at hl 0 rfl) ?_
    obtain ⟨r4, y5, y6, y7, y8, y9, y10, y11, y12, y13, g14, hf⟩ := b10_s hf
    refine k_Vi (rest := []) ⟨hx, hb, hml, hown, hts⟩ (c_Model_findThem l D cI cZ t a_Model a_Model_now a_Model_past a_Model_bits a_Model_sizes a_Model_sheets a_Model_least a_Model_ways a_Model_handOf a_Model_crossedAt a_Model_strokeOf a_Model_prices a_Model_hitAt a_Model_carried H.size Model_now Model_least Model_ways Model_thenCost Model_thenWays Model_bothCost Model_bothWays Model_handOf Model_crossedAt Model_strokeOf Model_kept Model_findings r4 y5 y6 y7 y8 y9 y10 y11 y12 y13 g14) (cwV 0 hts gX11_hand_X11_findThem rfl rfl rfl (by decide +kernel) ⟨Nat.le_of_ble_eq_true rfl, Nat.le_of_ble_eq_true rfl⟩) hE hP hD hS hA [5, 6, 0, 1, 2, 3, 4] [] rfl rfl rfl rfl rfl 0 11 rfl rfl rfl rfl hl.1 rfl (Nat.le_of_ble_eq_true rfl) dX11_hand_16 ⟨Nat.le_of_ble_eq_true rfl, Nat.le_of_ble_eq_true rfl⟩ (fun rq uq H locs hrq hP hD hS => ?_)
    refine lv_tpx hrq.symm ?_
    have hP : va_P D vwCl [(a_Model, .inr (11, [.ref a_Model_now, .ref a_Model_past, .int Model_kept, .int Model_findings, .ref a_Model_bits, .ref a_Model_sizes, .ref a_Model_sheets, .ref a_Model_least, .ref a_Model_ways, .int y7, .int y8, .int y9, .int y10, .ref a_Model_handOf, .ref a_Model_crossedAt, .ref a_Model_strokeOf, .ref a_Model_prices, .ref a_Model_hitAt, .ref a_Model_carried])), (a_Model_now, .inl (cI, 187, .inl Model_now)), (a_Model_least, .inl (cI, 8400, .inl y5)), (a_Model_ways, .inl (cI, 8400, .inl y6)), (a_Model_handOf, .inl (cI, 20, .inl y11)), (a_Model_crossedAt, .inl (cZ, 20, .inl y12)), (a_Model_strokeOf, .inl (cI, 40, .inl y13))] H := hP
    have hD : va_D A [(a_Model, .inr (11, [.ref a_Model_now, .ref a_Model_past, .int Model_kept, .int Model_findings, .ref a_Model_bits, .ref a_Model_sizes, .ref a_Model_sheets, .ref a_Model_least, .ref a_Model_ways, .int y7, .int y8, .int y9, .int y10, .ref a_Model_handOf, .ref a_Model_crossedAt, .ref a_Model_strokeOf, .ref a_Model_prices, .ref a_Model_hitAt, .ref a_Model_carried])), (a_Model_now, .inl (cI, 187, .inl Model_now)), (a_Model_least, .inl (cI, 8400, .inl y5)), (a_Model_ways, .inl (cI, 8400, .inl y6)), (a_Model_handOf, .inl (cI, 20, .inl y11)), (a_Model_crossedAt, .inl (cZ, 20, .inl y12)), (a_Model_strokeOf, .inl (cI, 40, .inl y13))] := hD
    refine lv_if_eq (tgt := 31) hx hb dX11_hand_19 (by decide) (fun c15 => ?_) (fun c15 => ?_)
    · have hf := ite_t c15 hf
      refine lv_aload_n hx hb dX11_hand_31 rfl (lv_at hl 0 rfl) ?_
      refine lv_ldc (v := (-100006)) hx hb hown kc61 dX11_hand_32 ?_
      obtain ⟨r16, y17, g18, hf⟩ := b2_s hf
      refine k_Vi (rest := []) ⟨hx, hb, hml, hown, hts⟩ (c_Model_finding l D cI cZ t a_Model a_Model_now a_Model_past a_Model_bits a_Model_sizes a_Model_sheets a_Model_least a_Model_ways a_Model_handOf a_Model_crossedAt a_Model_strokeOf a_Model_prices a_Model_hitAt a_Model_carried H.size Model_findings Model_kept y7 y8 y9 y10 (-100006) r16 y17 g18) (cwV 1 hts gX11_hand_X11_finding rfl rfl rfl (by decide +kernel) ⟨Nat.le_of_ble_eq_true rfl, Nat.le_of_ble_eq_true rfl⟩) hE hP hD hS hA [0] [1, 2, 3, 4, 5, 6] rfl rfl rfl rfl rfl 0 11 rfl rfl rfl rfl hl.1 rfl (Nat.le_of_ble_eq_true rfl) dX11_hand_34 ⟨Nat.le_of_ble_eq_true rfl, Nat.le_of_ble_eq_true rfl⟩ (fun rq uq H locs hrq hP hD hS => ?_)
      refine lv_tpx hrq.symm ?_
      have hP : va_P D vwCl [(a_Model_now, .inl (cI, 187, .inl Model_now)), (a_Model_least, .inl (cI, 8400, .inl y5)), (a_Model_ways, .inl (cI, 8400, .inl y6)), (a_Model_handOf, .inl (cI, 20, .inl y11)), (a_Model_crossedAt, .inl (cZ, 20, .inl y12)), (a_Model_strokeOf, .inl (cI, 40, .inl y13)), (a_Model, .inr (11, [.ref a_Model_now, .ref a_Model_past, .int Model_kept, .int y17, .ref a_Model_bits, .ref a_Model_sizes, .ref a_Model_sheets, .ref a_Model_least, .ref a_Model_ways, .int y7, .int y8, .int y9, .int y10, .ref a_Model_handOf, .ref a_Model_crossedAt, .ref a_Model_strokeOf, .ref a_Model_prices, .ref a_Model_hitAt, .ref a_Model_carried]))] H := hP
      have hD : va_D A [(a_Model_now, .inl (cI, 187, .inl Model_now)), (a_Model_least, .inl (cI, 8400, .inl y5)), (a_Model_ways, .inl (cI, 8400, .inl y6)), (a_Model_handOf, .inl (cI, 20, .inl y11)), (a_Model_crossedAt, .inl (cZ, 20, .inl y12)), (a_Model_strokeOf, .inl (cI, 40, .inl y13)), (a_Model, .inr (11, [.ref a_Model_now, .ref a_Model_past, .int Model_kept, .int y17, .ref a_Model_bits, .ref a_Model_sizes, .ref a_Model_sheets, .ref a_Model_least, .ref a_Model_ways, .int y7, .int y8, .int y9, .int y10, .ref a_Model_handOf, .ref a_Model_crossedAt, .ref a_Model_strokeOf, .ref a_Model_prices, .ref a_Model_hitAt, .ref a_Model_carried]))] := hD
      cases hf
      exact k_iret () hQ9 hx hb hr hlocks rfl (hP.sub [6, 0, 1, 2, 3, 4, 5] rfl) (hD.sub [6, 0, 1, 2, 3, 4, 5] (by decide) rfl) hS (Nat.le_of_ble_eq_true rfl) (Nat.le_of_ble_eq_true rfl) dX11_hand_37
    · have hf := ite_f c15 hf
      refine lv_aload_n hx hb dX11_hand_22 rfl (lv_at hl 0 rfl) ?_
      refine va_get (D := D) (ci := 11) (v := .ref a_Model_handOf) (C := RX11) (T := TX11) (N := 19) hx hb hts inX11 hown hK hP 0 rfl rfl 13 (by decide) fl31 (fun _ h9 => h9) rfl dX11_hand_23 ?_
      refine lv_iload_n hx hb dX11_hand_26 rfl (lv_at hl 1 rfl) ?_
      obtain ⟨ix19, x19, ex19, hf⟩ := rd_s hf
      refine va_iald hx hb hK hP 4 0 rfl rfl ix19 dX11_hand_27 ?_
      refine lv_tpx ex19 ?_
      refine lv_goto (tgt := 37) hx hb dX11_hand_28 (by decide) ?_
      cases hf
      exact k_iret () hQ9 hx hb hr hlocks rfl hP hD hS (Nat.le_of_ble_eq_true rfl) (Nat.le_of_ble_eq_true rfl) dX11_hand_37
  · have hf := ite_t c3 hf
    refine lv_aload_n hx hb dX11_hand_8 rfl (lv_at hl 0 rfl) ?_
    refine lv_ldc (v := (-100001)) hx hb hown kc70 dX11_hand_9 ?_
    obtain ⟨r20, y21, g22, hf⟩ := b2_s hf
    refine k_Vi (rest := []) ⟨hx, hb, hml, hown, hts⟩ (c_Model_finding l D cI cZ t a_Model a_Model_now a_Model_past a_Model_bits a_Model_sizes a_Model_sheets a_Model_least a_Model_ways a_Model_handOf a_Model_crossedAt a_Model_strokeOf a_Model_prices a_Model_hitAt a_Model_carried H.size Model_findings Model_kept Model_thenCost Model_thenWays Model_bothCost Model_bothWays (-100001) r20 y21 g22) (cwV 1 hts gX11_hand_X11_finding rfl rfl rfl (by decide +kernel) ⟨Nat.le_of_ble_eq_true rfl, Nat.le_of_ble_eq_true rfl⟩) hE hP hD hS hA [5] [0, 1, 2, 3, 4, 6] rfl rfl rfl rfl rfl 0 11 rfl rfl rfl rfl hl.1 rfl (Nat.le_of_ble_eq_true rfl) dX11_hand_11 ⟨Nat.le_of_ble_eq_true rfl, Nat.le_of_ble_eq_true rfl⟩ (fun rq uq H locs hrq hP hD hS => ?_)
    refine lv_tpx hrq.symm ?_
    have hP : va_P D vwCl [(a_Model_least, .inl (cI, 8400, .inl Model_least)), (a_Model_ways, .inl (cI, 8400, .inl Model_ways)), (a_Model_handOf, .inl (cI, 20, .inl Model_handOf)), (a_Model_crossedAt, .inl (cZ, 20, .inl Model_crossedAt)), (a_Model_strokeOf, .inl (cI, 40, .inl Model_strokeOf)), (a_Model_now, .inl (cI, 187, .inl Model_now)), (a_Model, .inr (11, [.ref a_Model_now, .ref a_Model_past, .int Model_kept, .int y21, .ref a_Model_bits, .ref a_Model_sizes, .ref a_Model_sheets, .ref a_Model_least, .ref a_Model_ways, .int Model_thenCost, .int Model_thenWays, .int Model_bothCost, .int Model_bothWays, .ref a_Model_handOf, .ref a_Model_crossedAt, .ref a_Model_strokeOf, .ref a_Model_prices, .ref a_Model_hitAt, .ref a_Model_carried]))] H := hP
    have hD : va_D A [(a_Model_least, .inl (cI, 8400, .inl Model_least)), (a_Model_ways, .inl (cI, 8400, .inl Model_ways)), (a_Model_handOf, .inl (cI, 20, .inl Model_handOf)), (a_Model_crossedAt, .inl (cZ, 20, .inl Model_crossedAt)), (a_Model_strokeOf, .inl (cI, 40, .inl Model_strokeOf)), (a_Model_now, .inl (cI, 187, .inl Model_now)), (a_Model, .inr (11, [.ref a_Model_now, .ref a_Model_past, .int Model_kept, .int y21, .ref a_Model_bits, .ref a_Model_sizes, .ref a_Model_sheets, .ref a_Model_least, .ref a_Model_ways, .int Model_thenCost, .int Model_thenWays, .int Model_bothCost, .int Model_bothWays, .ref a_Model_handOf, .ref a_Model_crossedAt, .ref a_Model_strokeOf, .ref a_Model_prices, .ref a_Model_hitAt, .ref a_Model_carried]))] := hD
    cases hf
    exact k_iret () hQ9 hx hb hr hlocks rfl (hP.sub [6, 5, 0, 1, 2, 3, 4] rfl) (hD.sub [6, 5, 0, 1, 2, 3, 4] (by decide) rfl) hS (Nat.le_of_ble_eq_true rfl) (Nat.le_of_ble_eq_true rfl) dX11_hand_14
abbrev rm_Model_crossed : Room := { frames := 8, cells := 0, slots := 0, locals := 216 }
set_option maxHeartbeats 4000000 in
set_option maxRecDepth 100000 in
theorem c_Model_crossed (l : Launch) (D : va_G) (cI cZ : ClassId) (t : Nat → Nat) (a_Model a_Model_now a_Model_past a_Model_bits a_Model_sizes a_Model_sheets a_Model_least a_Model_ways a_Model_handOf a_Model_crossedAt a_Model_strokeOf a_Model_prices a_Model_hitAt a_Model_carried sz : Nat) (Model_now : Nat → Int32) (Model_findings : Int32) (Model_least Model_ways : Nat → Int32) (Model_thenCost Model_thenWays Model_bothCost Model_bothWays : Int32) (Model_handOf Model_crossedAt Model_strokeOf : Nat → Int32) (Model_kept p1 zr z_Model_findings : Int32) (z_Model_least z_Model_ways : Nat → Int32) (z_Model_thenCost z_Model_thenWays z_Model_bothCost z_Model_bothWays : Int32) (z_Model_handOf z_Model_crossedAt z_Model_strokeOf : Nat → Int32) (hf : f_Model_crossed Model_now Model_findings Model_least Model_ways Model_thenCost Model_thenWays Model_bothCost Model_bothWays Model_handOf Model_crossedAt Model_strokeOf p1 = some (zr, z_Model_findings, z_Model_least, z_Model_ways, z_Model_thenCost, z_Model_thenWays, z_Model_bothCost, z_Model_bothWays, z_Model_handOf, z_Model_crossedAt, z_Model_strokeOf)) : Met l yX11_crossed wsX11_crossed rm_Model_crossed (va_Pc [.ref a_Model, .int p1] (pcW D cI cZ t [(a_Model, .inr (11, [.ref a_Model_now, .ref a_Model_past, .int Model_kept, .int Model_findings, .ref a_Model_bits, .ref a_Model_sizes, .ref a_Model_sheets, .ref a_Model_least, .ref a_Model_ways, .int Model_thenCost, .int Model_thenWays, .int Model_bothCost, .int Model_bothWays, .ref a_Model_handOf, .ref a_Model_crossedAt, .ref a_Model_strokeOf, .ref a_Model_prices, .ref a_Model_hitAt, .ref a_Model_carried])), (a_Model_now, .inl (cI, 187, .inl Model_now)), (a_Model_least, .inl (cI, 8400, .inl Model_least)), (a_Model_ways, .inl (cI, 8400, .inl Model_ways)), (a_Model_handOf, .inl (cI, 20, .inl Model_handOf)), (a_Model_crossedAt, .inl (cZ, 20, .inl Model_crossedAt)), (a_Model_strokeOf, .inl (cI, 40, .inl Model_strokeOf))] sz)) (va_Qi (fun r (u : Unit) => r = zr) (fun u t' => bW D (va_A [(a_Model, .inr (11, [.ref a_Model_now, .ref a_Model_past, .int Model_kept, .int Model_findings, .ref a_Model_bits, .ref a_Model_sizes, .ref a_Model_sheets, .ref a_Model_least, .ref a_Model_ways, .int Model_thenCost, .int Model_thenWays, .int Model_bothCost, .int Model_bothWays, .ref a_Model_handOf, .ref a_Model_crossedAt, .ref a_Model_strokeOf, .ref a_Model_prices, .ref a_Model_hitAt, .ref a_Model_carried])), (a_Model_now, .inl (cI, 187, .inl Model_now)), (a_Model_least, .inl (cI, 8400, .inl Model_least)), (a_Model_ways, .inl (cI, 8400, .inl Model_ways)), (a_Model_handOf, .inl (cI, 20, .inl Model_handOf)), (a_Model_crossedAt, .inl (cZ, 20, .inl Model_crossedAt)), (a_Model_strokeOf, .inl (cI, 40, .inl Model_strokeOf))] sz) [(a_Model, .inr (11, [.ref a_Model_now, .ref a_Model_past, .int Model_kept, .int z_Model_findings, .ref a_Model_bits, .ref a_Model_sizes, .ref a_Model_sheets, .ref a_Model_least, .ref a_Model_ways, .int z_Model_thenCost, .int z_Model_thenWays, .int z_Model_bothCost, .int z_Model_bothWays, .ref a_Model_handOf, .ref a_Model_crossedAt, .ref a_Model_strokeOf, .ref a_Model_prices, .ref a_Model_hitAt, .ref a_Model_carried])), (a_Model_now, .inl (cI, 187, .inl Model_now)), (a_Model_least, .inl (cI, 8400, .inl z_Model_least)), (a_Model_ways, .inl (cI, 8400, .inl z_Model_ways)), (a_Model_handOf, .inl (cI, 20, .inl z_Model_handOf)), (a_Model_crossedAt, .inl (cZ, 20, .inl z_Model_crossedAt)), (a_Model_strokeOf, .inl (cI, 40, .inl z_Model_strokeOf))] t') (va_A [(a_Model, .inr (11, [.ref a_Model_now, .ref a_Model_past, .int Model_kept, .int Model_findings, .ref a_Model_bits, .ref a_Model_sizes, .ref a_Model_sheets, .ref a_Model_least, .ref a_Model_ways, .int Model_thenCost, .int Model_thenWays, .int Model_bothCost, .int Model_bothWays, .ref a_Model_handOf, .ref a_Model_crossedAt, .ref a_Model_strokeOf, .ref a_Model_prices, .ref a_Model_hitAt, .ref a_Model_carried])), (a_Model_now, .inl (cI, 187, .inl Model_now)), (a_Model_least, .inl (cI, 8400, .inl Model_least)), (a_Model_ways, .inl (cI, 8400, .inl Model_ways)), (a_Model_handOf, .inl (cI, 20, .inl Model_handOf)), (a_Model_crossedAt, .inl (cZ, 20, .inl Model_crossedAt)), (a_Model_strokeOf, .inl (cI, 40, .inl Model_strokeOf))] sz)) 0 0 (va_A [(a_Model, .inr (11, [.ref a_Model_now, .ref a_Model_past, .int Model_kept, .int Model_findings, .ref a_Model_bits, .ref a_Model_sizes, .ref a_Model_sheets, .ref a_Model_least, .ref a_Model_ways, .int Model_thenCost, .int Model_thenWays, .int Model_bothCost, .int Model_bothWays, .ref a_Model_handOf, .ref a_Model_crossedAt, .ref a_Model_strokeOf, .ref a_Model_prices, .ref a_Model_hitAt, .ref a_Model_carried])), (a_Model_now, .inl (cI, 187, .inl Model_now)), (a_Model_least, .inl (cI, 8400, .inl Model_least)), (a_Model_ways, .inl (cI, 8400, .inl Model_ways)), (a_Model_handOf, .inl (cI, 20, .inl Model_handOf)), (a_Model_crossedAt, .inl (cZ, 20, .inl Model_crossedAt)), (a_Model_strokeOf, .inl (cI, 40, .inl Model_strokeOf))] sz) := by
  refine Met.ofW (cc := cX11_crossed) (maxL := 2) (ret := (some .int)) (by decide) rfl ?_
  intro p e s m args below meth c s₁ B hml hv
  obtain ⟨rfl, hsz, hP, hD0, hE⟩ := hv
  have hx := B.exec
  have hb := B.bytes
  have hr := B.returns
  have hts := atoms_spec (ws := wsX11_crossed) B.pre
  have hown : s.vm.findClass RX11 = some m.cls := findClass_of_methodNamed B.named
  have hlocks := B.notSynchronized
  subst hsz
  have hD := hD0.self (sz := s.heap.size)
  generalize hAe : va_A [(a_Model, .inr (11, [.ref a_Model_now, .ref a_Model_past, .int Model_kept, .int Model_findings, .ref a_Model_bits, .ref a_Model_sizes, .ref a_Model_sheets, .ref a_Model_least, .ref a_Model_ways, .int Model_thenCost, .int Model_thenWays, .int Model_bothCost, .int Model_bothWays, .ref a_Model_handOf, .ref a_Model_crossedAt, .ref a_Model_strokeOf, .ref a_Model_prices, .ref a_Model_hitAt, .ref a_Model_carried])), (a_Model_now, .inl (cI, 187, .inl Model_now)), (a_Model_least, .inl (cI, 8400, .inl Model_least)), (a_Model_ways, .inl (cI, 8400, .inl Model_ways)), (a_Model_handOf, .inl (cI, 20, .inl Model_handOf)), (a_Model_crossedAt, .inl (cZ, 20, .inl Model_crossedAt)), (a_Model_strokeOf, .inl (cI, 40, .inl Model_strokeOf))] s.heap.size = A at hD hE ⊢
  have hA : ∀ q : Nat, s.heap.size ≤ q → A q := fun q h => by rw [← hAe]; exact Or.inr h
  clear hAe hD0
  have hS : va_S A s.heap s.heap [] := va_S.rf
  have hK := hE.1
  have hl := lv_entry ([.ref a_Model, .int p1]) (n := 2) (Nat.le_of_ble_eq_true rfl)
  rw [lg_entry_eq]
  generalize (lg_sl ([.ref a_Model, .int p1]) ++ List.replicate (2 - (lg_sl ([.ref a_Model, .int p1])).length) Slot.unset).toArray = ls at hl ⊢
  have hl : lv_has ls 2 [(0, .ref a_Model), (1, .int p1)] := hl
  refine w_q (fun Q9 hQ9 => ?_)
  have fl34 := hts (.fieldLink RX11 34 "StickRoomModel" "crossedAt" "[Z") (by decide +kernel)
  have inX11 : ∀ w ∈ wsX110, w ∈ wsX11_crossed := by decide +kernel
  have kc61 := hts (.constant RX11 61 (-100006)) (by decide +kernel)
  have kc70 := hts (.constant RX11 70 (-100001)) (by decide +kernel)
  unfold f_Model_crossed at hf
  refine lv_aload_n hx hb dX11_crossed_0 rfl (lv_at hl 0 rfl) ?_
  refine lv_iload_n hx hb dX11_crossed_1 rfl (lv_at hl 1 rfl) ?_
  obtain ⟨r1, g2, hf⟩ := b1_s hf
  refine k_Vi (rest := []) ⟨hx, hb, hml, hown, hts⟩ (c_Model_isNote l D cI cZ t a_Model a_Model_now a_Model_past a_Model_bits a_Model_sizes a_Model_sheets a_Model_least a_Model_ways a_Model_handOf a_Model_crossedAt a_Model_strokeOf a_Model_prices a_Model_hitAt a_Model_carried s.heap.size Model_now Model_kept Model_findings Model_thenCost Model_thenWays Model_bothCost Model_bothWays p1 r1 g2) (cwV 1 hts gX11_crossed_X11_isNote rfl rfl rfl (by decide +kernel) ⟨Nat.le_of_ble_eq_true rfl, Nat.le_of_ble_eq_true rfl⟩) hE hP hD hS hA [0, 1] [2, 3, 4, 5, 6] rfl rfl rfl rfl rfl 0 11 rfl rfl rfl rfl hl.1 rfl (Nat.le_of_ble_eq_true rfl) dX11_crossed_2 ⟨Nat.le_of_ble_eq_true rfl, Nat.le_of_ble_eq_true rfl⟩ (fun rq uq H locs hrq hP hD hS => ?_)
  refine lv_tpx hrq.symm ?_
  have hP : va_P D vwCl [(a_Model_least, .inl (cI, 8400, .inl Model_least)), (a_Model_ways, .inl (cI, 8400, .inl Model_ways)), (a_Model_handOf, .inl (cI, 20, .inl Model_handOf)), (a_Model_crossedAt, .inl (cZ, 20, .inl Model_crossedAt)), (a_Model_strokeOf, .inl (cI, 40, .inl Model_strokeOf)), (a_Model, .inr (11, [.ref a_Model_now, .ref a_Model_past, .int Model_kept, .int Model_findings, .ref a_Model_bits, .ref a_Model_sizes, .ref a_Model_sheets, .ref a_Model_least, .ref a_Model_ways, .int Model_thenCost, .int Model_thenWays, .int Model_bothCost, .int Model_bothWays, .ref a_Model_handOf, .ref a_Model_crossedAt, .ref a_Model_strokeOf, .ref a_Model_prices, .ref a_Model_hitAt, .ref a_Model_carried])), (a_Model_now, .inl (cI, 187, .inl Model_now))] H := hP
  have hD : va_D A [(a_Model_least, .inl (cI, 8400, .inl Model_least)), (a_Model_ways, .inl (cI, 8400, .inl Model_ways)), (a_Model_handOf, .inl (cI, 20, .inl Model_handOf)), (a_Model_crossedAt, .inl (cZ, 20, .inl Model_crossedAt)), (a_Model_strokeOf, .inl (cI, 40, .inl Model_strokeOf)), (a_Model, .inr (11, [.ref a_Model_now, .ref a_Model_past, .int Model_kept, .int Model_findings, .ref a_Model_bits, .ref a_Model_sizes, .ref a_Model_sheets, .ref a_Model_least, .ref a_Model_ways, .int Model_thenCost, .int Model_thenWays, .int Model_bothCost, .int Model_bothWays, .ref a_Model_handOf, .ref a_Model_crossedAt, .ref a_Model_strokeOf, .ref a_Model_prices, .ref a_Model_hitAt, .ref a_Model_carried])), (a_Model_now, .inl (cI, 187, .inl Model_now))] := hD
  refine lv_if_ne (tgt := 15) hx hb dX11_crossed_5 (by decide) (fun c3 => ?_) (fun c3 => ?_)
  · have hf := ite_f c3 hf
    refine lv_aload_n hx hb dX11_crossed_15 rfl (lv_at hl 0 rfl) ?_
    obtain ⟨r4, y5, y6, y7, y8, y9, y10, y11, y12, y13, g14, hf⟩ := b10_s hf
    refine k_Vi (rest := []) ⟨hx, hb, hml, hown, hts⟩ (c_Model_findThem l D cI cZ t a_Model a_Model_now a_Model_past a_Model_bits a_Model_sizes a_Model_sheets a_Model_least a_Model_ways a_Model_handOf a_Model_crossedAt a_Model_strokeOf a_Model_prices a_Model_hitAt a_Model_carried H.size Model_now Model_least Model_ways Model_thenCost Model_thenWays Model_bothCost Model_bothWays Model_handOf Model_crossedAt Model_strokeOf Model_kept Model_findings r4 y5 y6 y7 y8 y9 y10 y11 y12 y13 g14) (cwV 0 hts gX11_crossed_X11_findThem rfl rfl rfl (by decide +kernel) ⟨Nat.le_of_ble_eq_true rfl, Nat.le_of_ble_eq_true rfl⟩) hE hP hD hS hA [5, 6, 0, 1, 2, 3, 4] [] rfl rfl rfl rfl rfl 0 11 rfl rfl rfl rfl hl.1 rfl (Nat.le_of_ble_eq_true rfl) dX11_crossed_16 ⟨Nat.le_of_ble_eq_true rfl, Nat.le_of_ble_eq_true rfl⟩ (fun rq uq H locs hrq hP hD hS => ?_)
    refine lv_tpx hrq.symm ?_
    have hP : va_P D vwCl [(a_Model, .inr (11, [.ref a_Model_now, .ref a_Model_past, .int Model_kept, .int Model_findings, .ref a_Model_bits, .ref a_Model_sizes, .ref a_Model_sheets, .ref a_Model_least, .ref a_Model_ways, .int y7, .int y8, .int y9, .int y10, .ref a_Model_handOf, .ref a_Model_crossedAt, .ref a_Model_strokeOf, .ref a_Model_prices, .ref a_Model_hitAt, .ref a_Model_carried])), (a_Model_now, .inl (cI, 187, .inl Model_now)), (a_Model_least, .inl (cI, 8400, .inl y5)), (a_Model_ways, .inl (cI, 8400, .inl y6)), (a_Model_handOf, .inl (cI, 20, .inl y11)), (a_Model_crossedAt, .inl (cZ, 20, .inl y12)), (a_Model_strokeOf, .inl (cI, 40, .inl y13))] H := hP
    have hD : va_D A [(a_Model, .inr (11, [.ref a_Model_now, .ref a_Model_past, .int Model_kept, .int Model_findings, .ref a_Model_bits, .ref a_Model_sizes, .ref a_Model_sheets, .ref a_Model_least, .ref a_Model_ways, .int y7, .int y8, .int y9, .int y10, .ref a_Model_handOf, .ref a_Model_crossedAt, .ref a_Model_strokeOf, .ref a_Model_prices, .ref a_Model_hitAt, .ref a_Model_carried])), (a_Model_now, .inl (cI, 187, .inl Model_now)), (a_Model_least, .inl (cI, 8400, .inl y5)), (a_Model_ways, .inl (cI, 8400, .inl y6)), (a_Model_handOf, .inl (cI, 20, .inl y11)), (a_Model_crossedAt, .inl (cZ, 20, .inl y12)), (a_Model_strokeOf, .inl (cI, 40, .inl y13))] := hD
    refine lv_if_ne (tgt := 31) hx hb dX11_crossed_19 (by decide) (fun c15 => ?_) (fun c15 => ?_)
    · have hf := ite_f c15 hf
      refine lv_aload_n hx hb dX11_crossed_31 rfl (lv_at hl 0 rfl) ?_
      refine va_get (D := D) (ci := 11) (v := .ref a_Model_crossedAt) (C := RX11) (T := TX11) (N := 19) hx hb hts inX11 hown hK hP 0 rfl rfl 14 (by decide) fl34 (fun _ h9 => h9) rfl dX11_crossed_32 ?_
      refine lv_iload_n hx hb dX11_crossed_35 rfl (lv_at hl 1 rfl) ?_
      obtain ⟨ix16, x16, ex16, hf⟩ := rd_s hf
      refine va_zald hx hb hK hP 5 1 rfl rfl ix16 dX11_crossed_36 ?_
      refine lv_tpx ex16 ?_
      refine lv_if_eq (tgt := 44) hx hb dX11_crossed_37 (by decide) (fun c17 => ?_) (fun c17 => ?_)
      · have hf := ite_t c17 hf
        refine lv_iconst (v := 0) hx hb dX11_crossed_44 (by decide) ?_
        cases hf
        exact k_iret () hQ9 hx hb hr hlocks rfl hP hD hS (Nat.le_of_ble_eq_true rfl) (Nat.le_of_ble_eq_true rfl) dX11_crossed_45
      · have hf := ite_f c17 hf
        refine lv_iconst (v := 1) hx hb dX11_crossed_40 (by decide) ?_
        refine lv_goto (tgt := 45) hx hb dX11_crossed_41 (by decide) ?_
        cases hf
        exact k_iret () hQ9 hx hb hr hlocks rfl hP hD hS (Nat.le_of_ble_eq_true rfl) (Nat.le_of_ble_eq_true rfl) dX11_crossed_45
    · have hf := ite_t c15 hf
      refine lv_aload_n hx hb dX11_crossed_22 rfl (lv_at hl 0 rfl) ?_
      refine lv_ldc (v := (-100006)) hx hb hown kc61 dX11_crossed_23 ?_
      obtain ⟨r18, y19, g20, hf⟩ := b2_s hf
      refine k_Vi (rest := []) ⟨hx, hb, hml, hown, hts⟩ (c_Model_finding l D cI cZ t a_Model a_Model_now a_Model_past a_Model_bits a_Model_sizes a_Model_sheets a_Model_least a_Model_ways a_Model_handOf a_Model_crossedAt a_Model_strokeOf a_Model_prices a_Model_hitAt a_Model_carried H.size Model_findings Model_kept y7 y8 y9 y10 (-100006) r18 y19 g20) (cwV 1 hts gX11_crossed_X11_finding rfl rfl rfl (by decide +kernel) ⟨Nat.le_of_ble_eq_true rfl, Nat.le_of_ble_eq_true rfl⟩) hE hP hD hS hA [0] [1, 2, 3, 4, 5, 6] rfl rfl rfl rfl rfl 0 11 rfl rfl rfl rfl hl.1 rfl (Nat.le_of_ble_eq_true rfl) dX11_crossed_25 ⟨Nat.le_of_ble_eq_true rfl, Nat.le_of_ble_eq_true rfl⟩ (fun rq uq H locs hrq hP hD hS => ?_)
      refine lv_tpx hrq.symm ?_
      have hP : va_P D vwCl [(a_Model_now, .inl (cI, 187, .inl Model_now)), (a_Model_least, .inl (cI, 8400, .inl y5)), (a_Model_ways, .inl (cI, 8400, .inl y6)), (a_Model_handOf, .inl (cI, 20, .inl y11)), (a_Model_crossedAt, .inl (cZ, 20, .inl y12)), (a_Model_strokeOf, .inl (cI, 40, .inl y13)), (a_Model, .inr (11, [.ref a_Model_now, .ref a_Model_past, .int Model_kept, .int y19, .ref a_Model_bits, .ref a_Model_sizes, .ref a_Model_sheets, .ref a_Model_least, .ref a_Model_ways, .int y7, .int y8, .int y9, .int y10, .ref a_Model_handOf, .ref a_Model_crossedAt, .ref a_Model_strokeOf, .ref a_Model_prices, .ref a_Model_hitAt, .ref a_Model_carried]))] H := hP
      have hD : va_D A [(a_Model_now, .inl (cI, 187, .inl Model_now)), (a_Model_least, .inl (cI, 8400, .inl y5)), (a_Model_ways, .inl (cI, 8400, .inl y6)), (a_Model_handOf, .inl (cI, 20, .inl y11)), (a_Model_crossedAt, .inl (cZ, 20, .inl y12)), (a_Model_strokeOf, .inl (cI, 40, .inl y13)), (a_Model, .inr (11, [.ref a_Model_now, .ref a_Model_past, .int Model_kept, .int y19, .ref a_Model_bits, .ref a_Model_sizes, .ref a_Model_sheets, .ref a_Model_least, .ref a_Model_ways, .int y7, .int y8, .int y9, .int y10, .ref a_Model_handOf, .ref a_Model_crossedAt, .ref a_Model_strokeOf, .ref a_Model_prices, .ref a_Model_hitAt, .ref a_Model_carried]))] := hD
      refine lv_goto (tgt := 45) hx hb dX11_crossed_28 (by decide) ?_
      cases hf
      exact k_iret () hQ9 hx hb hr hlocks rfl (hP.sub [6, 0, 1, 2, 3, 4, 5] rfl) (hD.sub [6, 0, 1, 2, 3, 4, 5] (by decide) rfl) hS (Nat.le_of_ble_eq_true rfl) (Nat.le_of_ble_eq_true rfl) dX11_crossed_45
  · have hf := ite_t c3 hf
    refine lv_aload_n hx hb dX11_crossed_8 rfl (lv_at hl 0 rfl) ?_
    refine lv_ldc (v := (-100001)) hx hb hown kc70 dX11_crossed_9 ?_
    obtain ⟨r21, y22, g23, hf⟩ := b2_s hf
    refine k_Vi (rest := []) ⟨hx, hb, hml, hown, hts⟩ (c_Model_finding l D cI cZ t a_Model a_Model_now a_Model_past a_Model_bits a_Model_sizes a_Model_sheets a_Model_least a_Model_ways a_Model_handOf a_Model_crossedAt a_Model_strokeOf a_Model_prices a_Model_hitAt a_Model_carried H.size Model_findings Model_kept Model_thenCost Model_thenWays Model_bothCost Model_bothWays (-100001) r21 y22 g23) (cwV 1 hts gX11_crossed_X11_finding rfl rfl rfl (by decide +kernel) ⟨Nat.le_of_ble_eq_true rfl, Nat.le_of_ble_eq_true rfl⟩) hE hP hD hS hA [5] [0, 1, 2, 3, 4, 6] rfl rfl rfl rfl rfl 0 11 rfl rfl rfl rfl hl.1 rfl (Nat.le_of_ble_eq_true rfl) dX11_crossed_11 ⟨Nat.le_of_ble_eq_true rfl, Nat.le_of_ble_eq_true rfl⟩ (fun rq uq H locs hrq hP hD hS => ?_)
    refine lv_tpx hrq.symm ?_
    have hP : va_P D vwCl [(a_Model_least, .inl (cI, 8400, .inl Model_least)), (a_Model_ways, .inl (cI, 8400, .inl Model_ways)), (a_Model_handOf, .inl (cI, 20, .inl Model_handOf)), (a_Model_crossedAt, .inl (cZ, 20, .inl Model_crossedAt)), (a_Model_strokeOf, .inl (cI, 40, .inl Model_strokeOf)), (a_Model_now, .inl (cI, 187, .inl Model_now)), (a_Model, .inr (11, [.ref a_Model_now, .ref a_Model_past, .int Model_kept, .int y22, .ref a_Model_bits, .ref a_Model_sizes, .ref a_Model_sheets, .ref a_Model_least, .ref a_Model_ways, .int Model_thenCost, .int Model_thenWays, .int Model_bothCost, .int Model_bothWays, .ref a_Model_handOf, .ref a_Model_crossedAt, .ref a_Model_strokeOf, .ref a_Model_prices, .ref a_Model_hitAt, .ref a_Model_carried]))] H := hP
    have hD : va_D A [(a_Model_least, .inl (cI, 8400, .inl Model_least)), (a_Model_ways, .inl (cI, 8400, .inl Model_ways)), (a_Model_handOf, .inl (cI, 20, .inl Model_handOf)), (a_Model_crossedAt, .inl (cZ, 20, .inl Model_crossedAt)), (a_Model_strokeOf, .inl (cI, 40, .inl Model_strokeOf)), (a_Model_now, .inl (cI, 187, .inl Model_now)), (a_Model, .inr (11, [.ref a_Model_now, .ref a_Model_past, .int Model_kept, .int y22, .ref a_Model_bits, .ref a_Model_sizes, .ref a_Model_sheets, .ref a_Model_least, .ref a_Model_ways, .int Model_thenCost, .int Model_thenWays, .int Model_bothCost, .int Model_bothWays, .ref a_Model_handOf, .ref a_Model_crossedAt, .ref a_Model_strokeOf, .ref a_Model_prices, .ref a_Model_hitAt, .ref a_Model_carried]))] := hD
    cases hf
    exact k_iret () hQ9 hx hb hr hlocks rfl (hP.sub [6, 5, 0, 1, 2, 3, 4] rfl) (hD.sub [6, 5, 0, 1, 2, 3, 4] (by decide) rfl) hS (Nat.le_of_ble_eq_true rfl) (Nat.le_of_ble_eq_true rfl) dX11_crossed_14
abbrev rm_Model_latest : Room := { frames := 8, cells := 0, slots := 0, locals := 216 }
set_option maxHeartbeats 4000000 in
set_option maxRecDepth 100000 in
theorem c_Model_latest (l : Launch) (D : va_G) (cI cZ : ClassId) (t : Nat → Nat) (a_Model a_Model_now a_Model_past a_Model_bits a_Model_sizes a_Model_sheets a_Model_least a_Model_ways a_Model_handOf a_Model_crossedAt a_Model_strokeOf a_Model_prices a_Model_hitAt a_Model_carried sz : Nat) (Model_now : Nat → Int32) (Model_findings : Int32) (Model_least Model_ways : Nat → Int32) (Model_thenCost Model_thenWays Model_bothCost Model_bothWays : Int32) (Model_handOf Model_crossedAt Model_strokeOf : Nat → Int32) (Model_kept p1 p2 zr z_Model_findings : Int32) (z_Model_least z_Model_ways : Nat → Int32) (z_Model_thenCost z_Model_thenWays z_Model_bothCost z_Model_bothWays : Int32) (z_Model_handOf z_Model_crossedAt z_Model_strokeOf : Nat → Int32) (hf : f_Model_latest Model_now Model_findings Model_least Model_ways Model_thenCost Model_thenWays Model_bothCost Model_bothWays Model_handOf Model_crossedAt Model_strokeOf p1 p2 = some (zr, z_Model_findings, z_Model_least, z_Model_ways, z_Model_thenCost, z_Model_thenWays, z_Model_bothCost, z_Model_bothWays, z_Model_handOf, z_Model_crossedAt, z_Model_strokeOf)) : Met l yX11_latest wsX11_latest rm_Model_latest (va_Pc [.ref a_Model, .int p1, .int p2] (pcW D cI cZ t [(a_Model, .inr (11, [.ref a_Model_now, .ref a_Model_past, .int Model_kept, .int Model_findings, .ref a_Model_bits, .ref a_Model_sizes, .ref a_Model_sheets, .ref a_Model_least, .ref a_Model_ways, .int Model_thenCost, .int Model_thenWays, .int Model_bothCost, .int Model_bothWays, .ref a_Model_handOf, .ref a_Model_crossedAt, .ref a_Model_strokeOf, .ref a_Model_prices, .ref a_Model_hitAt, .ref a_Model_carried])), (a_Model_now, .inl (cI, 187, .inl Model_now)), (a_Model_least, .inl (cI, 8400, .inl Model_least)), (a_Model_ways, .inl (cI, 8400, .inl Model_ways)), (a_Model_handOf, .inl (cI, 20, .inl Model_handOf)), (a_Model_crossedAt, .inl (cZ, 20, .inl Model_crossedAt)), (a_Model_strokeOf, .inl (cI, 40, .inl Model_strokeOf))] sz)) (va_Qi (fun r (u : Unit) => r = zr) (fun u t' => bW D (va_A [(a_Model, .inr (11, [.ref a_Model_now, .ref a_Model_past, .int Model_kept, .int Model_findings, .ref a_Model_bits, .ref a_Model_sizes, .ref a_Model_sheets, .ref a_Model_least, .ref a_Model_ways, .int Model_thenCost, .int Model_thenWays, .int Model_bothCost, .int Model_bothWays, .ref a_Model_handOf, .ref a_Model_crossedAt, .ref a_Model_strokeOf, .ref a_Model_prices, .ref a_Model_hitAt, .ref a_Model_carried])), (a_Model_now, .inl (cI, 187, .inl Model_now)), (a_Model_least, .inl (cI, 8400, .inl Model_least)), (a_Model_ways, .inl (cI, 8400, .inl Model_ways)), (a_Model_handOf, .inl (cI, 20, .inl Model_handOf)), (a_Model_crossedAt, .inl (cZ, 20, .inl Model_crossedAt)), (a_Model_strokeOf, .inl (cI, 40, .inl Model_strokeOf))] sz) [(a_Model, .inr (11, [.ref a_Model_now, .ref a_Model_past, .int Model_kept, .int z_Model_findings, .ref a_Model_bits, .ref a_Model_sizes, .ref a_Model_sheets, .ref a_Model_least, .ref a_Model_ways, .int z_Model_thenCost, .int z_Model_thenWays, .int z_Model_bothCost, .int z_Model_bothWays, .ref a_Model_handOf, .ref a_Model_crossedAt, .ref a_Model_strokeOf, .ref a_Model_prices, .ref a_Model_hitAt, .ref a_Model_carried])), (a_Model_now, .inl (cI, 187, .inl Model_now)), (a_Model_least, .inl (cI, 8400, .inl z_Model_least)), (a_Model_ways, .inl (cI, 8400, .inl z_Model_ways)), (a_Model_handOf, .inl (cI, 20, .inl z_Model_handOf)), (a_Model_crossedAt, .inl (cZ, 20, .inl z_Model_crossedAt)), (a_Model_strokeOf, .inl (cI, 40, .inl z_Model_strokeOf))] t') (va_A [(a_Model, .inr (11, [.ref a_Model_now, .ref a_Model_past, .int Model_kept, .int Model_findings, .ref a_Model_bits, .ref a_Model_sizes, .ref a_Model_sheets, .ref a_Model_least, .ref a_Model_ways, .int Model_thenCost, .int Model_thenWays, .int Model_bothCost, .int Model_bothWays, .ref a_Model_handOf, .ref a_Model_crossedAt, .ref a_Model_strokeOf, .ref a_Model_prices, .ref a_Model_hitAt, .ref a_Model_carried])), (a_Model_now, .inl (cI, 187, .inl Model_now)), (a_Model_least, .inl (cI, 8400, .inl Model_least)), (a_Model_ways, .inl (cI, 8400, .inl Model_ways)), (a_Model_handOf, .inl (cI, 20, .inl Model_handOf)), (a_Model_crossedAt, .inl (cZ, 20, .inl Model_crossedAt)), (a_Model_strokeOf, .inl (cI, 40, .inl Model_strokeOf))] sz)) 0 0 (va_A [(a_Model, .inr (11, [.ref a_Model_now, .ref a_Model_past, .int Model_kept, .int Model_findings, .ref a_Model_bits, .ref a_Model_sizes, .ref a_Model_sheets, .ref a_Model_least, .ref a_Model_ways, .int Model_thenCost, .int Model_thenWays, .int Model_bothCost, .int Model_bothWays, .ref a_Model_handOf, .ref a_Model_crossedAt, .ref a_Model_strokeOf, .ref a_Model_prices, .ref a_Model_hitAt, .ref a_Model_carried])), (a_Model_now, .inl (cI, 187, .inl Model_now)), (a_Model_least, .inl (cI, 8400, .inl Model_least)), (a_Model_ways, .inl (cI, 8400, .inl Model_ways)), (a_Model_handOf, .inl (cI, 20, .inl Model_handOf)), (a_Model_crossedAt, .inl (cZ, 20, .inl Model_crossedAt)), (a_Model_strokeOf, .inl (cI, 40, .inl Model_strokeOf))] sz) := by
  refine Met.ofW (cc := cX11_latest) (maxL := 4) (ret := (some .int)) (by decide) rfl ?_
  intro p e s m args below meth c s₁ B hml hv
  obtain ⟨rfl, hsz, hP, hD0, hE⟩ := hv
  have hx := B.exec
  have hb := B.bytes
  have hr := B.returns
  have hts := atoms_spec (ws := wsX11_latest) B.pre
  have hown : s.vm.findClass RX11 = some m.cls := findClass_of_methodNamed B.named
  have hlocks := B.notSynchronized
  subst hsz
  have hD := hD0.self (sz := s.heap.size)
  generalize hAe : va_A [(a_Model, .inr (11, [.ref a_Model_now, .ref a_Model_past, .int Model_kept, .int Model_findings, .ref a_Model_bits, .ref a_Model_sizes, .ref a_Model_sheets, .ref a_Model_least, .ref a_Model_ways, .int Model_thenCost, .int Model_thenWays, .int Model_bothCost, .int Model_bothWays, .ref a_Model_handOf, .ref a_Model_crossedAt, .ref a_Model_strokeOf, .ref a_Model_prices, .ref a_Model_hitAt, .ref a_Model_carried])), (a_Model_now, .inl (cI, 187, .inl Model_now)), (a_Model_least, .inl (cI, 8400, .inl Model_least)), (a_Model_ways, .inl (cI, 8400, .inl Model_ways)), (a_Model_handOf, .inl (cI, 20, .inl Model_handOf)), (a_Model_crossedAt, .inl (cZ, 20, .inl Model_crossedAt)), (a_Model_strokeOf, .inl (cI, 40, .inl Model_strokeOf))] s.heap.size = A at hD hE ⊢
  have hA : ∀ q : Nat, s.heap.size ≤ q → A q := fun q h => by rw [← hAe]; exact Or.inr h
  clear hAe hD0
  have hS : va_S A s.heap s.heap [] := va_S.rf
  have hK := hE.1
  have hl := lv_entry ([.ref a_Model, .int p1, .int p2]) (n := 4) (Nat.le_of_ble_eq_true rfl)
  rw [lg_entry_eq]
  generalize (lg_sl ([.ref a_Model, .int p1, .int p2]) ++ List.replicate (4 - (lg_sl ([.ref a_Model, .int p1, .int p2])).length) Slot.unset).toArray = ls at hl ⊢
  have hl : lv_has ls 4 [(0, .ref a_Model), (1, .int p1), (2, .int p2)] := hl
  refine w_q (fun Q9 hQ9 => ?_)
  have kc70 := hts (.constant RX11 70 (-100001)) (by decide +kernel)
  have fl38 := hts (.fieldLink RX11 38 "StickRoomModel" "strokeOf" "[I") (by decide +kernel)
  have inX11 : ∀ w ∈ wsX110, w ∈ wsX11_latest := by decide +kernel
  have kc61 := hts (.constant RX11 61 (-100006)) (by decide +kernel)
  unfold f_Model_latest at hf
  refine lv_iload_n hx hb dX11_latest_0 rfl (lv_at hl 1 rfl) ?_
  refine lv_iconst (v := 0) hx hb dX11_latest_1 (by decide) ?_
  refine lv_iconst (v := 1) hx hb dX11_latest_2 (by decide) ?_
  obtain ⟨r1, g2, hf⟩ := b1_s hf
  refine k_Si (rest := []) ⟨hx, hb, hml, hown, hts⟩ (c_Model_within l D cI cZ t  s.heap.size p1 0 1 r1 g2) (va_cwS 3 hts gX11_latest_X11_within rfl rfl rfl (by decide +kernel) ⟨Nat.le_of_ble_eq_true rfl, Nat.le_of_ble_eq_true rfl⟩) hE hP hD hS hA [] [0, 1, 2, 3, 4, 5, 6] rfl rfl rfl rfl rfl rfl hl.1 rfl (Nat.le_of_ble_eq_true rfl) dX11_latest_3 ⟨Nat.le_of_ble_eq_true rfl, Nat.le_of_ble_eq_true rfl⟩ (fun rq uq H locs hrq hP hD hS => ?_)
  refine lv_tpx hrq.symm ?_
  have hP : va_P D vwCl [(a_Model, .inr (11, [.ref a_Model_now, .ref a_Model_past, .int Model_kept, .int Model_findings, .ref a_Model_bits, .ref a_Model_sizes, .ref a_Model_sheets, .ref a_Model_least, .ref a_Model_ways, .int Model_thenCost, .int Model_thenWays, .int Model_bothCost, .int Model_bothWays, .ref a_Model_handOf, .ref a_Model_crossedAt, .ref a_Model_strokeOf, .ref a_Model_prices, .ref a_Model_hitAt, .ref a_Model_carried])), (a_Model_now, .inl (cI, 187, .inl Model_now)), (a_Model_least, .inl (cI, 8400, .inl Model_least)), (a_Model_ways, .inl (cI, 8400, .inl Model_ways)), (a_Model_handOf, .inl (cI, 20, .inl Model_handOf)), (a_Model_crossedAt, .inl (cZ, 20, .inl Model_crossedAt)), (a_Model_strokeOf, .inl (cI, 40, .inl Model_strokeOf))] H := hP
  have hD : va_D A [(a_Model, .inr (11, [.ref a_Model_now, .ref a_Model_past, .int Model_kept, .int Model_findings, .ref a_Model_bits, .ref a_Model_sizes, .ref a_Model_sheets, .ref a_Model_least, .ref a_Model_ways, .int Model_thenCost, .int Model_thenWays, .int Model_bothCost, .int Model_bothWays, .ref a_Model_handOf, .ref a_Model_crossedAt, .ref a_Model_strokeOf, .ref a_Model_prices, .ref a_Model_hitAt, .ref a_Model_carried])), (a_Model_now, .inl (cI, 187, .inl Model_now)), (a_Model_least, .inl (cI, 8400, .inl Model_least)), (a_Model_ways, .inl (cI, 8400, .inl Model_ways)), (a_Model_handOf, .inl (cI, 20, .inl Model_handOf)), (a_Model_crossedAt, .inl (cZ, 20, .inl Model_crossedAt)), (a_Model_strokeOf, .inl (cI, 40, .inl Model_strokeOf))] := hD
  refine lv_if_eq (tgt := 17) hx hb dX11_latest_6 (by decide) (fun c3 => ?_) (fun c3 => ?_)
  · have hf := ite_t c3 hf
    refine lv_aload_n hx hb dX11_latest_17 rfl (lv_at hl 0 rfl) ?_
    refine lv_ldc (v := (-100001)) hx hb hown kc70 dX11_latest_18 ?_
    obtain ⟨r4, y5, g6, hf⟩ := b2_s hf
    refine k_Vi (rest := []) ⟨hx, hb, hml, hown, hts⟩ (c_Model_finding l D cI cZ t a_Model a_Model_now a_Model_past a_Model_bits a_Model_sizes a_Model_sheets a_Model_least a_Model_ways a_Model_handOf a_Model_crossedAt a_Model_strokeOf a_Model_prices a_Model_hitAt a_Model_carried H.size Model_findings Model_kept Model_thenCost Model_thenWays Model_bothCost Model_bothWays (-100001) r4 y5 g6) (cwV 1 hts gX11_latest_X11_finding rfl rfl rfl (by decide +kernel) ⟨Nat.le_of_ble_eq_true rfl, Nat.le_of_ble_eq_true rfl⟩) hE hP hD hS hA [0] [1, 2, 3, 4, 5, 6] rfl rfl rfl rfl rfl 0 11 rfl rfl rfl rfl hl.1 rfl (Nat.le_of_ble_eq_true rfl) dX11_latest_20 ⟨Nat.le_of_ble_eq_true rfl, Nat.le_of_ble_eq_true rfl⟩ (fun rq uq H locs hrq hP hD hS => ?_)
    refine lv_tpx hrq.symm ?_
    have hP : va_P D vwCl [(a_Model_now, .inl (cI, 187, .inl Model_now)), (a_Model_least, .inl (cI, 8400, .inl Model_least)), (a_Model_ways, .inl (cI, 8400, .inl Model_ways)), (a_Model_handOf, .inl (cI, 20, .inl Model_handOf)), (a_Model_crossedAt, .inl (cZ, 20, .inl Model_crossedAt)), (a_Model_strokeOf, .inl (cI, 40, .inl Model_strokeOf)), (a_Model, .inr (11, [.ref a_Model_now, .ref a_Model_past, .int Model_kept, .int y5, .ref a_Model_bits, .ref a_Model_sizes, .ref a_Model_sheets, .ref a_Model_least, .ref a_Model_ways, .int Model_thenCost, .int Model_thenWays, .int Model_bothCost, .int Model_bothWays, .ref a_Model_handOf, .ref a_Model_crossedAt, .ref a_Model_strokeOf, .ref a_Model_prices, .ref a_Model_hitAt, .ref a_Model_carried]))] H := hP
    have hD : va_D A [(a_Model_now, .inl (cI, 187, .inl Model_now)), (a_Model_least, .inl (cI, 8400, .inl Model_least)), (a_Model_ways, .inl (cI, 8400, .inl Model_ways)), (a_Model_handOf, .inl (cI, 20, .inl Model_handOf)), (a_Model_crossedAt, .inl (cZ, 20, .inl Model_crossedAt)), (a_Model_strokeOf, .inl (cI, 40, .inl Model_strokeOf)), (a_Model, .inr (11, [.ref a_Model_now, .ref a_Model_past, .int Model_kept, .int y5, .ref a_Model_bits, .ref a_Model_sizes, .ref a_Model_sheets, .ref a_Model_least, .ref a_Model_ways, .int Model_thenCost, .int Model_thenWays, .int Model_bothCost, .int Model_bothWays, .ref a_Model_handOf, .ref a_Model_crossedAt, .ref a_Model_strokeOf, .ref a_Model_prices, .ref a_Model_hitAt, .ref a_Model_carried]))] := hD
    cases hf
    exact k_iret () hQ9 hx hb hr hlocks rfl (hP.sub [6, 0, 1, 2, 3, 4, 5] rfl) (hD.sub [6, 0, 1, 2, 3, 4, 5] (by decide) rfl) hS (Nat.le_of_ble_eq_true rfl) (Nat.le_of_ble_eq_true rfl) dX11_latest_23
  · have hf := ite_f c3 hf
    refine lv_aload_n hx hb dX11_latest_9 rfl (lv_at hl 0 rfl) ?_
    refine lv_iload_n hx hb dX11_latest_10 rfl (lv_at hl 2 rfl) ?_
    obtain ⟨r7, g8, hf⟩ := b1_s hf
    refine k_Vi (rest := []) ⟨hx, hb, hml, hown, hts⟩ (c_Model_isNote l D cI cZ t a_Model a_Model_now a_Model_past a_Model_bits a_Model_sizes a_Model_sheets a_Model_least a_Model_ways a_Model_handOf a_Model_crossedAt a_Model_strokeOf a_Model_prices a_Model_hitAt a_Model_carried H.size Model_now Model_kept Model_findings Model_thenCost Model_thenWays Model_bothCost Model_bothWays p2 r7 g8) (cwV 1 hts gX11_latest_X11_isNote rfl rfl rfl (by decide +kernel) ⟨Nat.le_of_ble_eq_true rfl, Nat.le_of_ble_eq_true rfl⟩) hE hP hD hS hA [0, 1] [2, 3, 4, 5, 6] rfl rfl rfl rfl rfl 0 11 rfl rfl rfl rfl hl.1 rfl (Nat.le_of_ble_eq_true rfl) dX11_latest_11 ⟨Nat.le_of_ble_eq_true rfl, Nat.le_of_ble_eq_true rfl⟩ (fun rq uq H locs hrq hP hD hS => ?_)
    refine lv_tpx hrq.symm ?_
    have hP : va_P D vwCl [(a_Model_least, .inl (cI, 8400, .inl Model_least)), (a_Model_ways, .inl (cI, 8400, .inl Model_ways)), (a_Model_handOf, .inl (cI, 20, .inl Model_handOf)), (a_Model_crossedAt, .inl (cZ, 20, .inl Model_crossedAt)), (a_Model_strokeOf, .inl (cI, 40, .inl Model_strokeOf)), (a_Model, .inr (11, [.ref a_Model_now, .ref a_Model_past, .int Model_kept, .int Model_findings, .ref a_Model_bits, .ref a_Model_sizes, .ref a_Model_sheets, .ref a_Model_least, .ref a_Model_ways, .int Model_thenCost, .int Model_thenWays, .int Model_bothCost, .int Model_bothWays, .ref a_Model_handOf, .ref a_Model_crossedAt, .ref a_Model_strokeOf, .ref a_Model_prices, .ref a_Model_hitAt, .ref a_Model_carried])), (a_Model_now, .inl (cI, 187, .inl Model_now))] H := hP
    have hD : va_D A [(a_Model_least, .inl (cI, 8400, .inl Model_least)), (a_Model_ways, .inl (cI, 8400, .inl Model_ways)), (a_Model_handOf, .inl (cI, 20, .inl Model_handOf)), (a_Model_crossedAt, .inl (cZ, 20, .inl Model_crossedAt)), (a_Model_strokeOf, .inl (cI, 40, .inl Model_strokeOf)), (a_Model, .inr (11, [.ref a_Model_now, .ref a_Model_past, .int Model_kept, .int Model_findings, .ref a_Model_bits, .ref a_Model_sizes, .ref a_Model_sheets, .ref a_Model_least, .ref a_Model_ways, .int Model_thenCost, .int Model_thenWays, .int Model_bothCost, .int Model_bothWays, .ref a_Model_handOf, .ref a_Model_crossedAt, .ref a_Model_strokeOf, .ref a_Model_prices, .ref a_Model_hitAt, .ref a_Model_carried])), (a_Model_now, .inl (cI, 187, .inl Model_now))] := hD
    refine lv_if_ne (tgt := 24) hx hb dX11_latest_14 (by decide) (fun c9 => ?_) (fun c9 => ?_)
    · have hf := ite_f c9 hf
      refine lv_aload_n hx hb dX11_latest_24 rfl (lv_at hl 0 rfl) ?_
      obtain ⟨r10, y11, y12, y13, y14, y15, y16, y17, y18, y19, g20, hf⟩ := b10_s hf
      refine k_Vi (rest := []) ⟨hx, hb, hml, hown, hts⟩ (c_Model_findThem l D cI cZ t a_Model a_Model_now a_Model_past a_Model_bits a_Model_sizes a_Model_sheets a_Model_least a_Model_ways a_Model_handOf a_Model_crossedAt a_Model_strokeOf a_Model_prices a_Model_hitAt a_Model_carried H.size Model_now Model_least Model_ways Model_thenCost Model_thenWays Model_bothCost Model_bothWays Model_handOf Model_crossedAt Model_strokeOf Model_kept Model_findings r10 y11 y12 y13 y14 y15 y16 y17 y18 y19 g20) (cwV 0 hts gX11_latest_X11_findThem rfl rfl rfl (by decide +kernel) ⟨Nat.le_of_ble_eq_true rfl, Nat.le_of_ble_eq_true rfl⟩) hE hP hD hS hA [5, 6, 0, 1, 2, 3, 4] [] rfl rfl rfl rfl rfl 0 11 rfl rfl rfl rfl hl.1 rfl (Nat.le_of_ble_eq_true rfl) dX11_latest_25 ⟨Nat.le_of_ble_eq_true rfl, Nat.le_of_ble_eq_true rfl⟩ (fun rq uq H locs hrq hP hD hS => ?_)
      refine lv_tpx hrq.symm ?_
      have hP : va_P D vwCl [(a_Model, .inr (11, [.ref a_Model_now, .ref a_Model_past, .int Model_kept, .int Model_findings, .ref a_Model_bits, .ref a_Model_sizes, .ref a_Model_sheets, .ref a_Model_least, .ref a_Model_ways, .int y13, .int y14, .int y15, .int y16, .ref a_Model_handOf, .ref a_Model_crossedAt, .ref a_Model_strokeOf, .ref a_Model_prices, .ref a_Model_hitAt, .ref a_Model_carried])), (a_Model_now, .inl (cI, 187, .inl Model_now)), (a_Model_least, .inl (cI, 8400, .inl y11)), (a_Model_ways, .inl (cI, 8400, .inl y12)), (a_Model_handOf, .inl (cI, 20, .inl y17)), (a_Model_crossedAt, .inl (cZ, 20, .inl y18)), (a_Model_strokeOf, .inl (cI, 40, .inl y19))] H := hP
      have hD : va_D A [(a_Model, .inr (11, [.ref a_Model_now, .ref a_Model_past, .int Model_kept, .int Model_findings, .ref a_Model_bits, .ref a_Model_sizes, .ref a_Model_sheets, .ref a_Model_least, .ref a_Model_ways, .int y13, .int y14, .int y15, .int y16, .ref a_Model_handOf, .ref a_Model_crossedAt, .ref a_Model_strokeOf, .ref a_Model_prices, .ref a_Model_hitAt, .ref a_Model_carried])), (a_Model_now, .inl (cI, 187, .inl Model_now)), (a_Model_least, .inl (cI, 8400, .inl y11)), (a_Model_ways, .inl (cI, 8400, .inl y12)), (a_Model_handOf, .inl (cI, 20, .inl y17)), (a_Model_crossedAt, .inl (cZ, 20, .inl y18)), (a_Model_strokeOf, .inl (cI, 40, .inl y19))] := hD
      refine lv_if_ne (tgt := 38) hx hb dX11_latest_28 (by decide) (fun c21 => ?_) (fun c21 => ?_)
      · have hf := ite_f c21 hf
        refine lv_aload_n hx hb dX11_latest_38 rfl (lv_at hl 0 rfl) ?_
        refine va_get (D := D) (ci := 11) (v := .ref a_Model_strokeOf) (C := RX11) (T := TX11) (N := 19) hx hb hts inX11 hown hK hP 0 rfl rfl 15 (by decide) fl38 (fun _ h9 => h9) rfl dX11_latest_39 ?_
        refine lv_iconst (v := 2) hx hb dX11_latest_42 (by decide) ?_
        refine lv_iload_n hx hb dX11_latest_43 rfl (lv_at hl 2 rfl) ?_
        refine lv_imul hx hb dX11_latest_44 ?_
        refine lv_iload_n hx hb dX11_latest_45 rfl (lv_at hl 1 rfl) ?_
        refine lv_iadd hx hb dX11_latest_46 ?_
        obtain ⟨ix22, x22, ex22, hf⟩ := rd_s hf
        refine va_iald hx hb hK hP 6 0 rfl rfl ix22 dX11_latest_47 ?_
        refine lv_tpx ex22 ?_
        refine lv_istore_n (lv' := [(3, .int x22), (0, .ref a_Model), (1, .int p1), (2, .int p2)]) hx hb dX11_latest_48 rfl hl (by decide) rfl (fun ls hl => ?_)
        refine lv_iload_n hx hb dX11_latest_49 rfl (lv_at hl 0 rfl) ?_
        refine lv_if_ne (tgt := 62) hx hb dX11_latest_50 (by decide) (fun c23 => ?_) (fun c23 => ?_)
        · have hf := ite_f c23 hf
          refine lv_aload_n hx hb dX11_latest_62 rfl (lv_at hl 1 rfl) ?_
          refine lv_iload_n hx hb dX11_latest_63 rfl (lv_at hl 0 rfl) ?_
          obtain ⟨r24, g25, hf⟩ := b1_s hf
          refine k_Vi (rest := []) ⟨hx, hb, hml, hown, hts⟩ (c_Model_tickOf l D cI cZ t a_Model a_Model_now a_Model_past a_Model_bits a_Model_sizes a_Model_sheets a_Model_least a_Model_ways a_Model_handOf a_Model_crossedAt a_Model_strokeOf a_Model_prices a_Model_hitAt a_Model_carried H.size Model_now Model_kept Model_findings y13 y14 y15 y16 x22 r24 g25) (cwV 1 hts gX11_latest_X11_tickOf rfl rfl rfl (by decide +kernel) ⟨Nat.le_of_ble_eq_true rfl, Nat.le_of_ble_eq_true rfl⟩) hE hP hD hS hA [0, 1] [2, 3, 4, 5, 6] rfl rfl rfl rfl rfl 0 11 rfl rfl rfl rfl hl.1 rfl (Nat.le_of_ble_eq_true rfl) dX11_latest_64 ⟨Nat.le_of_ble_eq_true rfl, Nat.le_of_ble_eq_true rfl⟩ (fun rq uq H locs hrq hP hD hS => ?_)
          refine lv_tpx hrq.symm ?_
          have hP : va_P D vwCl [(a_Model_least, .inl (cI, 8400, .inl y11)), (a_Model_ways, .inl (cI, 8400, .inl y12)), (a_Model_handOf, .inl (cI, 20, .inl y17)), (a_Model_crossedAt, .inl (cZ, 20, .inl y18)), (a_Model_strokeOf, .inl (cI, 40, .inl y19)), (a_Model, .inr (11, [.ref a_Model_now, .ref a_Model_past, .int Model_kept, .int Model_findings, .ref a_Model_bits, .ref a_Model_sizes, .ref a_Model_sheets, .ref a_Model_least, .ref a_Model_ways, .int y13, .int y14, .int y15, .int y16, .ref a_Model_handOf, .ref a_Model_crossedAt, .ref a_Model_strokeOf, .ref a_Model_prices, .ref a_Model_hitAt, .ref a_Model_carried])), (a_Model_now, .inl (cI, 187, .inl Model_now))] H := hP
          have hD : va_D A [(a_Model_least, .inl (cI, 8400, .inl y11)), (a_Model_ways, .inl (cI, 8400, .inl y12)), (a_Model_handOf, .inl (cI, 20, .inl y17)), (a_Model_crossedAt, .inl (cZ, 20, .inl y18)), (a_Model_strokeOf, .inl (cI, 40, .inl y19)), (a_Model, .inr (11, [.ref a_Model_now, .ref a_Model_past, .int Model_kept, .int Model_findings, .ref a_Model_bits, .ref a_Model_sizes, .ref a_Model_sheets, .ref a_Model_least, .ref a_Model_ways, .int y13, .int y14, .int y15, .int y16, .ref a_Model_handOf, .ref a_Model_crossedAt, .ref a_Model_strokeOf, .ref a_Model_prices, .ref a_Model_hitAt, .ref a_Model_carried])), (a_Model_now, .inl (cI, 187, .inl Model_now))] := hD
          cases hf
          exact k_iret () hQ9 hx hb hr hlocks rfl (hP.sub [5, 6, 0, 1, 2, 3, 4] rfl) (hD.sub [5, 6, 0, 1, 2, 3, 4] (by decide) rfl) hS (Nat.le_of_ble_eq_true rfl) (Nat.le_of_ble_eq_true rfl) dX11_latest_67
        · have hf := ite_t c23 hf
          refine lv_aload_n hx hb dX11_latest_53 rfl (lv_at hl 1 rfl) ?_
          refine lv_ldc (v := (-100006)) hx hb hown kc61 dX11_latest_54 ?_
          obtain ⟨r26, y27, g28, hf⟩ := b2_s hf
          refine k_Vi (rest := []) ⟨hx, hb, hml, hown, hts⟩ (c_Model_finding l D cI cZ t a_Model a_Model_now a_Model_past a_Model_bits a_Model_sizes a_Model_sheets a_Model_least a_Model_ways a_Model_handOf a_Model_crossedAt a_Model_strokeOf a_Model_prices a_Model_hitAt a_Model_carried H.size Model_findings Model_kept y13 y14 y15 y16 (-100006) r26 y27 g28) (cwV 1 hts gX11_latest_X11_finding rfl rfl rfl (by decide +kernel) ⟨Nat.le_of_ble_eq_true rfl, Nat.le_of_ble_eq_true rfl⟩) hE hP hD hS hA [0] [1, 2, 3, 4, 5, 6] rfl rfl rfl rfl rfl 0 11 rfl rfl rfl rfl hl.1 rfl (Nat.le_of_ble_eq_true rfl) dX11_latest_56 ⟨Nat.le_of_ble_eq_true rfl, Nat.le_of_ble_eq_true rfl⟩ (fun rq uq H locs hrq hP hD hS => ?_)
          refine lv_tpx hrq.symm ?_
          have hP : va_P D vwCl [(a_Model_now, .inl (cI, 187, .inl Model_now)), (a_Model_least, .inl (cI, 8400, .inl y11)), (a_Model_ways, .inl (cI, 8400, .inl y12)), (a_Model_handOf, .inl (cI, 20, .inl y17)), (a_Model_crossedAt, .inl (cZ, 20, .inl y18)), (a_Model_strokeOf, .inl (cI, 40, .inl y19)), (a_Model, .inr (11, [.ref a_Model_now, .ref a_Model_past, .int Model_kept, .int y27, .ref a_Model_bits, .ref a_Model_sizes, .ref a_Model_sheets, .ref a_Model_least, .ref a_Model_ways, .int y13, .int y14, .int y15, .int y16, .ref a_Model_handOf, .ref a_Model_crossedAt, .ref a_Model_strokeOf, .ref a_Model_prices, .ref a_Model_hitAt, .ref a_Model_carried]))] H := hP
          have hD : va_D A [(a_Model_now, .inl (cI, 187, .inl Model_now)), (a_Model_least, .inl (cI, 8400, .inl y11)), (a_Model_ways, .inl (cI, 8400, .inl y12)), (a_Model_handOf, .inl (cI, 20, .inl y17)), (a_Model_crossedAt, .inl (cZ, 20, .inl y18)), (a_Model_strokeOf, .inl (cI, 40, .inl y19)), (a_Model, .inr (11, [.ref a_Model_now, .ref a_Model_past, .int Model_kept, .int y27, .ref a_Model_bits, .ref a_Model_sizes, .ref a_Model_sheets, .ref a_Model_least, .ref a_Model_ways, .int y13, .int y14, .int y15, .int y16, .ref a_Model_handOf, .ref a_Model_crossedAt, .ref a_Model_strokeOf, .ref a_Model_prices, .ref a_Model_hitAt, .ref a_Model_carried]))] := hD
          refine lv_goto (tgt := 67) hx hb dX11_latest_59 (by decide) ?_
          cases hf
          exact k_iret () hQ9 hx hb hr hlocks rfl (hP.sub [6, 0, 1, 2, 3, 4, 5] rfl) (hD.sub [6, 0, 1, 2, 3, 4, 5] (by decide) rfl) hS (Nat.le_of_ble_eq_true rfl) (Nat.le_of_ble_eq_true rfl) dX11_latest_67
      · have hf := ite_t c21 hf
        refine lv_aload_n hx hb dX11_latest_31 rfl (lv_at hl 0 rfl) ?_
        refine lv_ldc (v := (-100006)) hx hb hown kc61 dX11_latest_32 ?_
        obtain ⟨r29, y30, g31, hf⟩ := b2_s hf
        refine k_Vi (rest := []) ⟨hx, hb, hml, hown, hts⟩ (c_Model_finding l D cI cZ t a_Model a_Model_now a_Model_past a_Model_bits a_Model_sizes a_Model_sheets a_Model_least a_Model_ways a_Model_handOf a_Model_crossedAt a_Model_strokeOf a_Model_prices a_Model_hitAt a_Model_carried H.size Model_findings Model_kept y13 y14 y15 y16 (-100006) r29 y30 g31) (cwV 1 hts gX11_latest_X11_finding rfl rfl rfl (by decide +kernel) ⟨Nat.le_of_ble_eq_true rfl, Nat.le_of_ble_eq_true rfl⟩) hE hP hD hS hA [0] [1, 2, 3, 4, 5, 6] rfl rfl rfl rfl rfl 0 11 rfl rfl rfl rfl hl.1 rfl (Nat.le_of_ble_eq_true rfl) dX11_latest_34 ⟨Nat.le_of_ble_eq_true rfl, Nat.le_of_ble_eq_true rfl⟩ (fun rq uq H locs hrq hP hD hS => ?_)
        refine lv_tpx hrq.symm ?_
        have hP : va_P D vwCl [(a_Model_now, .inl (cI, 187, .inl Model_now)), (a_Model_least, .inl (cI, 8400, .inl y11)), (a_Model_ways, .inl (cI, 8400, .inl y12)), (a_Model_handOf, .inl (cI, 20, .inl y17)), (a_Model_crossedAt, .inl (cZ, 20, .inl y18)), (a_Model_strokeOf, .inl (cI, 40, .inl y19)), (a_Model, .inr (11, [.ref a_Model_now, .ref a_Model_past, .int Model_kept, .int y30, .ref a_Model_bits, .ref a_Model_sizes, .ref a_Model_sheets, .ref a_Model_least, .ref a_Model_ways, .int y13, .int y14, .int y15, .int y16, .ref a_Model_handOf, .ref a_Model_crossedAt, .ref a_Model_strokeOf, .ref a_Model_prices, .ref a_Model_hitAt, .ref a_Model_carried]))] H := hP
        have hD : va_D A [(a_Model_now, .inl (cI, 187, .inl Model_now)), (a_Model_least, .inl (cI, 8400, .inl y11)), (a_Model_ways, .inl (cI, 8400, .inl y12)), (a_Model_handOf, .inl (cI, 20, .inl y17)), (a_Model_crossedAt, .inl (cZ, 20, .inl y18)), (a_Model_strokeOf, .inl (cI, 40, .inl y19)), (a_Model, .inr (11, [.ref a_Model_now, .ref a_Model_past, .int Model_kept, .int y30, .ref a_Model_bits, .ref a_Model_sizes, .ref a_Model_sheets, .ref a_Model_least, .ref a_Model_ways, .int y13, .int y14, .int y15, .int y16, .ref a_Model_handOf, .ref a_Model_crossedAt, .ref a_Model_strokeOf, .ref a_Model_prices, .ref a_Model_hitAt, .ref a_Model_carried]))] := hD
        cases hf
        exact k_iret () hQ9 hx hb hr hlocks rfl (hP.sub [6, 0, 1, 2, 3, 4, 5] rfl) (hD.sub [6, 0, 1, 2, 3, 4, 5] (by decide) rfl) hS (Nat.le_of_ble_eq_true rfl) (Nat.le_of_ble_eq_true rfl) dX11_latest_37
    · have hf := ite_t c9 hf
      refine lv_aload_n hx hb dX11_latest_17 rfl (lv_at hl 0 rfl) ?_
      refine lv_ldc (v := (-100001)) hx hb hown kc70 dX11_latest_18 ?_
      obtain ⟨r32, y33, g34, hf⟩ := b2_s hf
      refine k_Vi (rest := []) ⟨hx, hb, hml, hown, hts⟩ (c_Model_finding l D cI cZ t a_Model a_Model_now a_Model_past a_Model_bits a_Model_sizes a_Model_sheets a_Model_least a_Model_ways a_Model_handOf a_Model_crossedAt a_Model_strokeOf a_Model_prices a_Model_hitAt a_Model_carried H.size Model_findings Model_kept Model_thenCost Model_thenWays Model_bothCost Model_bothWays (-100001) r32 y33 g34) (cwV 1 hts gX11_latest_X11_finding rfl rfl rfl (by decide +kernel) ⟨Nat.le_of_ble_eq_true rfl, Nat.le_of_ble_eq_true rfl⟩) hE hP hD hS hA [5] [0, 1, 2, 3, 4, 6] rfl rfl rfl rfl rfl 0 11 rfl rfl rfl rfl hl.1 rfl (Nat.le_of_ble_eq_true rfl) dX11_latest_20 ⟨Nat.le_of_ble_eq_true rfl, Nat.le_of_ble_eq_true rfl⟩ (fun rq uq H locs hrq hP hD hS => ?_)
      refine lv_tpx hrq.symm ?_
      have hP : va_P D vwCl [(a_Model_least, .inl (cI, 8400, .inl Model_least)), (a_Model_ways, .inl (cI, 8400, .inl Model_ways)), (a_Model_handOf, .inl (cI, 20, .inl Model_handOf)), (a_Model_crossedAt, .inl (cZ, 20, .inl Model_crossedAt)), (a_Model_strokeOf, .inl (cI, 40, .inl Model_strokeOf)), (a_Model_now, .inl (cI, 187, .inl Model_now)), (a_Model, .inr (11, [.ref a_Model_now, .ref a_Model_past, .int Model_kept, .int y33, .ref a_Model_bits, .ref a_Model_sizes, .ref a_Model_sheets, .ref a_Model_least, .ref a_Model_ways, .int Model_thenCost, .int Model_thenWays, .int Model_bothCost, .int Model_bothWays, .ref a_Model_handOf, .ref a_Model_crossedAt, .ref a_Model_strokeOf, .ref a_Model_prices, .ref a_Model_hitAt, .ref a_Model_carried]))] H := hP
      have hD : va_D A [(a_Model_least, .inl (cI, 8400, .inl Model_least)), (a_Model_ways, .inl (cI, 8400, .inl Model_ways)), (a_Model_handOf, .inl (cI, 20, .inl Model_handOf)), (a_Model_crossedAt, .inl (cZ, 20, .inl Model_crossedAt)), (a_Model_strokeOf, .inl (cI, 40, .inl Model_strokeOf)), (a_Model_now, .inl (cI, 187, .inl Model_now)), (a_Model, .inr (11, [.ref a_Model_now, .ref a_Model_past, .int Model_kept, .int y33, .ref a_Model_bits, .ref a_Model_sizes, .ref a_Model_sheets, .ref a_Model_least, .ref a_Model_ways, .int Model_thenCost, .int Model_thenWays, .int Model_bothCost, .int Model_bothWays, .ref a_Model_handOf, .ref a_Model_crossedAt, .ref a_Model_strokeOf, .ref a_Model_prices, .ref a_Model_hitAt, .ref a_Model_carried]))] := hD
      cases hf
      exact k_iret () hQ9 hx hb hr hlocks rfl (hP.sub [6, 5, 0, 1, 2, 3, 4] rfl) (hD.sub [6, 5, 0, 1, 2, 3, 4] (by decide) rfl) hS (Nat.le_of_ble_eq_true rfl) (Nat.le_of_ble_eq_true rfl) dX11_latest_23
