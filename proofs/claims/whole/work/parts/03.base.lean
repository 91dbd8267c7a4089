/-! four static tables, the nest words, the environment that every contract takes -/
def sT0 : Nat → Int32 := fun k => match k with
  | 0 => 1
  | 1 => 3
  | 2 => 2
  | _ => 2
def sT1 : Nat → Int32 := fun k => match k with
  | 0 => 0
  | 1 => 0
  | 2 => 1
  | _ => 2
def sT2 : Nat → Int32 := fun k => match k with
  | 0 => 200
  | 1 => 100
  | 2 => 4
  | 3 => 200
  | _ => 100
def sT3 : Nat → Int32 := fun k => match k with
  | 0 => 0
  | 1 => 1
  | 2 => 2
  | 3 => 3
  | 4 => 4
  | 5 => 3
  | 6 => 2
  | _ => 1
def sZ (t : Nat → Nat) (A : Nat → Prop) (U : State) (H : Heap) : Prop := (va_Z "StickRoom$Line" "HEIGHTS" "[I" (.ref (t 0)) A U H ∧ va_T .int (t 0) 4 (fun j => .int (sT0 j)) A U H) ∧ (va_Z "StickRoom$Line" "GRACES" "[I" (.ref (t 1)) A U H ∧ va_T .int (t 1) 4 (fun j => .int (sT1 j)) A U H) ∧ (va_Z "StickRoom$Rules" "LIMITS" "[I" (.ref (t 2)) A U H ∧ va_T .int (t 2) 5 (fun j => .int (sT2 j)) A U H) ∧ (va_Z "StickRoom$Basses" "UP_AND_DOWN" "[I" (.ref (t 3)) A U H ∧ va_T .int (t 3) 8 (fun j => .int (sT3 j)) A U H)
theorem sZ_kept {t : Nat → Nat} {A : Nat → Prop} {U : State} {H H1 : Heap} (h : sZ t A U H) (hq : ∀ a : Nat, a < H.size → ¬ A a → H1[a]? = H[a]?) : sZ t A U H1 := by
  obtain ⟨⟨a0, b0⟩, ⟨a1, b1⟩, ⟨a2, b2⟩, ⟨a3, b3⟩⟩ := h
  exact ⟨⟨a0.kept hq, b0.kept hq⟩, ⟨a1.kept hq, b1.kept hq⟩, ⟨a2.kept hq, b2.kept hq⟩, ⟨a3.kept hq, b3.kept hq⟩⟩
theorem sZ_narrow {t : Nat → Nat} {A B : Nat → Prop} {U : State} {H : Heap} (h : sZ t A U H) (hq : ∀ q, B q → A q) : sZ t B U H := by
  obtain ⟨⟨a0, b0⟩, ⟨a1, b1⟩, ⟨a2, b2⟩, ⟨a3, b3⟩⟩ := h
  exact ⟨⟨a0.narrow hq, b0.narrow hq⟩, ⟨a1.narrow hq, b1.narrow hq⟩, ⟨a2.narrow hq, b2.narrow hq⟩, ⟨a3.narrow hq, b3.narrow hq⟩⟩
theorem sZ_moved {t : Nat → Nat} {A : Nat → Prop} {u U : State} {H : Heap} (hvm : u.vm.Alike U.vm) (h : sZ t A u H) : sZ t A U H := by
  obtain ⟨⟨a0, b0⟩, ⟨a1, b1⟩, ⟨a2, b2⟩, ⟨a3, b3⟩⟩ := h
  exact ⟨⟨a0.moved hvm, b0.moved hvm⟩, ⟨a1.moved hvm, b1.moved hvm⟩, ⟨a2.moved hvm, b2.moved hvm⟩, ⟨a3.moved hvm, b3.moved hvm⟩⟩
def nZ (U : State) : Prop := va_Nw (.fieldLinkNest RX3 80 "StickRoom$Ends" "keys" "[I" "StickRoom") U ∧ va_Nw (.fieldLinkNest RX3 120 "StickRoom$Ends" "prices" "[I" "StickRoom") U ∧ va_Nw (.fieldLinkNest RX3 129 "StickRoom$Ends" "firsts" "[I" "StickRoom") U ∧ va_Nw (.fieldLinkNest RX3 132 "StickRoom$Ends" "wayCounts" "[I" "StickRoom") U ∧ va_Nw (.fieldLinkNest RX3 77 "StickRoom$Ends" "size" "I" "StickRoom") U ∧ va_Nw (.methodLinkNest RX10 9 yX7_init "StickRoom") U ∧ va_Nw (.methodLinkNest RX10 18 yX4_init "StickRoom") U ∧ va_Nw (.methodLinkNest RX3 29 yX2_init "StickRoom") U ∧ va_Nw (.methodLinkNest RX10 41 yX9_init "StickRoom") U ∧ va_Nw (.methodLinkNest RX10 57 yX8_init "StickRoom") U ∧ va_Nw (.methodLinkNest RX10 64 yX5_init "StickRoom") U ∧ va_Nw (.methodLinkNest RX4 34 yX10_isBelow "StickRoom") U ∧ va_Nw (.methodLinkNest RX7 13 yX10_isBelow "StickRoom") U ∧ va_Nw (.methodLinkNest RX2 30 yX10_isBelow "StickRoom") U ∧ va_Nw (.methodLinkNest RX3 144 yX10_handIn "StickRoom") U
theorem nZ_warm {s U : State} (hW : s.WarmedH U.vm) (h : nZ s) : nZ U := by
  obtain ⟨h0, h1, h2, h3, h4, h5, h6, h7, h8, h9, h10, h11, h12, h13, h14⟩ := h
  exact ⟨va_Nw.warmF hW h0, va_Nw.warmF hW h1, va_Nw.warmF hW h2, va_Nw.warmF hW h3, va_Nw.warmF hW h4, va_Nw.warmM hW h5, va_Nw.warmM hW h6, va_Nw.warmM hW h7, va_Nw.warmM hW h8, va_Nw.warmM hW h9, va_Nw.warmM hW h10, va_Nw.warmM hW h11, va_Nw.warmM hW h12, va_Nw.warmM hW h13, va_Nw.warmM hW h14⟩
theorem nZ_same {u U : State} (hv : u.vm = U.vm) (h : nZ u) : nZ U := by
  obtain ⟨h0, h1, h2, h3, h4, h5, h6, h7, h8, h9, h10, h11, h12, h13, h14⟩ := h
  exact ⟨va_Nw.same rfl hv h0, va_Nw.same rfl hv h1, va_Nw.same rfl hv h2, va_Nw.same rfl hv h3, va_Nw.same rfl hv h4, va_Nw.same rfl hv h5, va_Nw.same rfl hv h6, va_Nw.same rfl hv h7, va_Nw.same rfl hv h8, va_Nw.same rfl hv h9, va_Nw.same rfl hv h10, va_Nw.same rfl hv h11, va_Nw.same rfl hv h12, va_Nw.same rfl hv h13, va_Nw.same rfl hv h14⟩
theorem nZ_RX3_80 {U : State} (h : nZ U) : va_Nw (.fieldLinkNest RX3 80 "StickRoom$Ends" "keys" "[I" "StickRoom") U := h.1
theorem nZ_RX3_120 {U : State} (h : nZ U) : va_Nw (.fieldLinkNest RX3 120 "StickRoom$Ends" "prices" "[I" "StickRoom") U := h.2.1
theorem nZ_RX3_129 {U : State} (h : nZ U) : va_Nw (.fieldLinkNest RX3 129 "StickRoom$Ends" "firsts" "[I" "StickRoom") U := h.2.2.1
theorem nZ_RX3_132 {U : State} (h : nZ U) : va_Nw (.fieldLinkNest RX3 132 "StickRoom$Ends" "wayCounts" "[I" "StickRoom") U := h.2.2.2.1
theorem nZ_RX3_77 {U : State} (h : nZ U) : va_Nw (.fieldLinkNest RX3 77 "StickRoom$Ends" "size" "I" "StickRoom") U := h.2.2.2.2.1
theorem nZ_RX10_9 {U : State} (h : nZ U) : va_Nw (.methodLinkNest RX10 9 yX7_init "StickRoom") U := h.2.2.2.2.2.1
theorem nZ_RX10_18 {U : State} (h : nZ U) : va_Nw (.methodLinkNest RX10 18 yX4_init "StickRoom") U := h.2.2.2.2.2.2.1
theorem nZ_RX3_29 {U : State} (h : nZ U) : va_Nw (.methodLinkNest RX3 29 yX2_init "StickRoom") U := h.2.2.2.2.2.2.2.1
theorem nZ_RX10_41 {U : State} (h : nZ U) : va_Nw (.methodLinkNest RX10 41 yX9_init "StickRoom") U := h.2.2.2.2.2.2.2.2.1
theorem nZ_RX10_57 {U : State} (h : nZ U) : va_Nw (.methodLinkNest RX10 57 yX8_init "StickRoom") U := h.2.2.2.2.2.2.2.2.2.1
theorem nZ_RX10_64 {U : State} (h : nZ U) : va_Nw (.methodLinkNest RX10 64 yX5_init "StickRoom") U := h.2.2.2.2.2.2.2.2.2.2.1
theorem nZ_RX4_34 {U : State} (h : nZ U) : va_Nw (.methodLinkNest RX4 34 yX10_isBelow "StickRoom") U := h.2.2.2.2.2.2.2.2.2.2.2.1
theorem nZ_RX7_13 {U : State} (h : nZ U) : va_Nw (.methodLinkNest RX7 13 yX10_isBelow "StickRoom") U := h.2.2.2.2.2.2.2.2.2.2.2.2.1
theorem nZ_RX2_30 {U : State} (h : nZ U) : va_Nw (.methodLinkNest RX2 30 yX10_isBelow "StickRoom") U := h.2.2.2.2.2.2.2.2.2.2.2.2.2.1
theorem nZ_RX3_144 {U : State} (h : nZ U) : va_Nw (.methodLinkNest RX3 144 yX10_handIn "StickRoom") U := h.2.2.2.2.2.2.2.2.2.2.2.2.2.2
def en (D : va_G) (cI cZ : ClassId) (t : Nat → Nat) (A : Nat → Prop) (U : State) (H : Heap) : Prop := va_K D vwCl [(cI, .int), (cZ, .boolean)] U ∧ nZ U ∧ sZ t A U H
theorem en_call {D : va_G} {cI cZ : ClassId} {t : Nat → Nat} {A B : Nat → Prop} {s U : State} {H : Heap} {locs : List Loc} (h : en D cI cZ t A s s.heap) (hS : va_S A s.heap H locs) (hB : ∀ q, B q → A q) (hU : U.heap = H) (hW : s.WarmedH U.vm) : en D cI cZ t B U U.heap := by
  rw [hU]
  exact ⟨va_K.moved hW.alike h.1, nZ_warm hW h.2.1, sZ_moved hW.alike (sZ_narrow (sZ_kept h.2.2 hS.2.1) hB)⟩
theorem en_blind {D : va_G} {cI cZ : ClassId} {t : Nat → Nat} {A : Nat → Prop} {U : State} {H : Heap} (g : JFrame) (mk : MethodId) (a : Array Value) (h : en D cI cZ t A U H) : en D cI cZ t A (U.calling g mk a) H :=
  ⟨va_K.moved (u := U) (U := U.calling g mk a) (Vm.Alike.refl U.vm) h.1, nZ_same (u := U) (U := U.calling g mk a) rfl h.2.1, sZ_moved (u := U) (U := U.calling g mk a) (Vm.Alike.refl U.vm) h.2.2⟩
def pcW (D : va_G) (cI cZ : ClassId) (t : Nat → Nat) (ws : va_W) (sz : Nat) : State → Prop := fun U => U.heap.size = sz ∧ va_P D vwCl ws U.heap ∧ va_D (fun _ => True) ws ∧ en D cI cZ t (va_A ws sz) U U.heap
abbrev bW (D : va_G) (A : Nat → Prop) (ws : va_W) (t : State) : Prop := va_P D vwCl ws t.heap ∧ va_D A ws
theorem pcW_blind {D : va_G} {cI cZ : ClassId} {t : Nat → Nat} {ws : va_W} {sz : Nat} {av : List Value} : FrameBlind (va_Pc av (pcW D cI cZ t ws sz)) := by
  intro a U g mk q
  obtain ⟨q0, q1, qP, qD, qE⟩ := q
  exact ⟨q0, q1, qP, qD, en_blind g mk a qE⟩
/-! pure words of a method: reads and writes inside their rows, names, calls, branches -/
def rd {α : Type} (n : Nat) (f : Nat → Int32) (i : Int32) (k : Int32 → Option α) : Option α := if i < 0 ∨ n ≤ i.toNatClampNeg then none else k (f i.toNatClampNeg)
theorem rd_s {α : Type} {n : Nat} {f : Nat → Int32} {i : Int32} {k : Int32 → Option α} {z : α} (h : rd n f i k = some z) : vp_in i n ∧ ∃ x, x = f i.toNatClampNeg ∧ k x = some z := by
  unfold rd at h
  by_cases c : i < 0 ∨ n ≤ i.toNatClampNeg
  · rw [if_pos c] at h; cases h
  · rw [if_neg c] at h; exact ⟨c, _, rfl, h⟩
def ck {α : Type} (n : Nat) (i : Int32) (k : Option α) : Option α := if i < 0 ∨ n ≤ i.toNatClampNeg then none else k
theorem ck_s {α : Type} {n : Nat} {i : Int32} {k : Option α} {z : α} (h : ck n i k = some z) : vp_in i n ∧ k = some z := by
  unfold ck at h
  by_cases c : i < 0 ∨ n ≤ i.toNatClampNeg
  · rw [if_pos c] at h; cases h
  · rw [if_neg c] at h; exact ⟨c, h⟩
def nm {α : Type} (e : Int32) (k : Int32 → Option α) : Option α := k e
theorem nm_s {α : Type} {e : Int32} {k : Int32 → Option α} {z : α} (h : nm e k = some z) : ∃ x, x = e ∧ k x = some z := ⟨e, rfl, h⟩
def zb {α : Type} (v : Int32) (k : Option α) : Option α := if v = 0 ∨ v = 1 then k else none
theorem zb_s {α : Type} {v : Int32} {k : Option α} {z : α} (h : zb v k = some z) : (v = 0 ∨ v = 1) ∧ k = some z := by
  unfold zb at h
  by_cases c : v = 0 ∨ v = 1
  · rw [if_pos c] at h; exact ⟨c, h⟩
  · rw [if_neg c] at h; cases h
theorem zb_n {v : Int32} (h : v = 0 ∨ v = 1) : narrow .boolean (.int v) = .int v := by rcases h with rfl | rfl <;> rfl
def mv {α : Type} (n : Nat) (f : Nat → Int32) (sp dp c : Int32) (k : (Nat → Int32) → Option α) : Option α := if sp < 0 ∨ dp < 0 ∨ c < 0 ∨ n < sp.toNatClampNeg + c.toNatClampNeg ∨ n < dp.toNatClampNeg + c.toNatClampNeg then none else k (va_cpy f f sp.toNatClampNeg dp.toNatClampNeg c.toNatClampNeg)
theorem mv_s {α : Type} {n : Nat} {f : Nat → Int32} {sp dp c : Int32} {k : (Nat → Int32) → Option α} {z : α} (h : mv n f sp dp c k = some z) : ¬ sp < 0 ∧ ¬ dp < 0 ∧ ¬ c < 0 ∧ sp.toNatClampNeg + c.toNatClampNeg ≤ n ∧ dp.toNatClampNeg + c.toNatClampNeg ≤ n ∧ k (va_cpy f f sp.toNatClampNeg dp.toNatClampNeg c.toNatClampNeg) = some z := by
  unfold mv at h
  by_cases q : sp < 0 ∨ dp < 0 ∨ c < 0 ∨ n < sp.toNatClampNeg + c.toNatClampNeg ∨ n < dp.toNatClampNeg + c.toNatClampNeg
  · rw [if_pos q] at h; cases h
  · rw [if_neg q] at h
    exact ⟨fun x => q (Or.inl x), fun x => q (Or.inr (Or.inl x)), fun x => q (Or.inr (Or.inr (Or.inl x))), Nat.not_lt.mp fun x => q (Or.inr (Or.inr (Or.inr (Or.inl x)))), Nat.not_lt.mp fun x => q (Or.inr (Or.inr (Or.inr (Or.inr x)))), h⟩
theorem ite_t {α : Type} {c : Prop} {i : Decidable c} {a b z : α} (hc : c) (h : @ite α c i a b = z) : a = z := by rw [if_pos hc] at h; exact h
theorem ite_f {α : Type} {c : Prop} {i : Decidable c} {a b z : α} (hc : ¬ c) (h : @ite α c i a b = z) : b = z := by rw [if_neg hc] at h; exact h
def jrem (x y : Int32) : Int32 := x - x / y * y
def jmax (x y : Int32) : Int32 := if x < y then y else x
def jmin (x y : Int32) : Int32 := if y < x then y else x
def jabs (x : Int32) : Int32 := if 0 ≤ x then x else 0 - x
def jush (x y : Int32) : Int32 := (x.toUInt32 >>> (y.toUInt32 &&& Int32.toUInt32 31)).toInt32
def jshl (x y : Int32) : Int32 := x <<< (y &&& 31)
def jshr (x y : Int32) : Int32 := x >>> (y &&& 31)
def fu : Nat := 5000
theorem sw_ne {x y : Int32} (h : ¬ x = y) : x.toInt ≠ y.toInt := fun e => h (Int32.toInt_inj.mp e)
def b0 {β : Type} (x : Option (Unit)) (k : Option β) : Option β := match x with
  | some () => k 
  | none => none
theorem b0_s {β : Type} {x : Option (Unit)} {k : Option β} {z : β} (h : b0 x k = some z) : x = some () ∧ k  = some z := by
  cases x with
  | none => cases h
  | some u => exact ⟨rfl, h⟩
def b1 {A0 β : Type} (x : Option (A0)) (k : A0 → Option β) : Option β := match x with
  | some a0 => k a0
  | none => none
theorem b1_s {A0 β : Type} {x : Option (A0)} {k : A0 → Option β} {z : β} (h : b1 x k = some z) : ∃ a0, x = some a0 ∧ k a0 = some z := by
  cases x with
  | none => cases h
  | some u => exact ⟨u, rfl, h⟩
def b2 {A0 A1 β : Type} (x : Option (A0 × A1)) (k : A0 → A1 → Option β) : Option β := match x with
  | some (a0, a1) => k a0 a1
  | none => none
theorem b2_s {A0 A1 β : Type} {x : Option (A0 × A1)} {k : A0 → A1 → Option β} {z : β} (h : b2 x k = some z) : ∃ a0 a1, x = some (a0, a1) ∧ k a0 a1 = some z := by
  cases x with
  | none => cases h
  | some u =>
    obtain ⟨a0, a1⟩ := u
    exact ⟨a0, a1, rfl, h⟩
def b3 {A0 A1 A2 β : Type} (x : Option (A0 × A1 × A2)) (k : A0 → A1 → A2 → Option β) : Option β := match x with
  | some (a0, a1, a2) => k a0 a1 a2
  | none => none
theorem b3_s {A0 A1 A2 β : Type} {x : Option (A0 × A1 × A2)} {k : A0 → A1 → A2 → Option β} {z : β} (h : b3 x k = some z) : ∃ a0 a1 a2, x = some (a0, a1, a2) ∧ k a0 a1 a2 = some z := by
  cases x with
  | none => cases h
  | some u =>
    obtain ⟨a0, a1, a2⟩ := u
    exact ⟨a0, a1, a2, rfl, h⟩
def b4 {A0 A1 A2 A3 β : Type} (x : Option (A0 × A1 × A2 × A3)) (k : A0 → A1 → A2 → A3 → Option β) : Option β := match x with
  | some (a0, a1, a2, a3) => k a0 a1 a2 a3
  | none => none
theorem b4_s {A0 A1 A2 A3 β : Type} {x : Option (A0 × A1 × A2 × A3)} {k : A0 → A1 → A2 → A3 → Option β} {z : β} (h : b4 x k = some z) : ∃ a0 a1 a2 a3, x = some (a0, a1, a2, a3) ∧ k a0 a1 a2 a3 = some z := by
  cases x with
  | none => cases h
  | some u =>
    obtain ⟨a0, a1, a2, a3⟩ := u
    exact ⟨a0, a1, a2, a3, rfl, h⟩
def b5 {A0 A1 A2 A3 A4 β : Type} (x : Option (A0 × A1 × A2 × A3 × A4)) (k : A0 → A1 → A2 → A3 → A4 → Option β) : Option β := match x with
  | some (a0, a1, a2, a3, a4) => k a0 a1 a2 a3 a4
  | none => none
theorem b5_s {A0 A1 A2 A3 A4 β : Type} {x : Option (A0 × A1 × A2 × A3 × A4)} {k : A0 → A1 → A2 → A3 → A4 → Option β} {z : β} (h : b5 x k = some z) : ∃ a0 a1 a2 a3 a4, x = some (a0, a1, a2, a3, a4) ∧ k a0 a1 a2 a3 a4 = some z := by
  cases x with
  | none => cases h
  | some u =>
    obtain ⟨a0, a1, a2, a3, a4⟩ := u
    exact ⟨a0, a1, a2, a3, a4, rfl, h⟩
def b6 {A0 A1 A2 A3 A4 A5 β : Type} (x : Option (A0 × A1 × A2 × A3 × A4 × A5)) (k : A0 → A1 → A2 → A3 → A4 → A5 → Option β) : Option β := match x with
  | some (a0, a1, a2, a3, a4, a5) => k a0 a1 a2 a3 a4 a5
  | none => none
theorem b6_s {A0 A1 A2 A3 A4 A5 β : Type} {x : Option (A0 × A1 × A2 × A3 × A4 × A5)} {k : A0 → A1 → A2 → A3 → A4 → A5 → Option β} {z : β} (h : b6 x k = some z) : ∃ a0 a1 a2 a3 a4 a5, x = some (a0, a1, a2, a3, a4, a5) ∧ k a0 a1 a2 a3 a4 a5 = some z := by
  cases x with
  | none => cases h
  | some u =>
    obtain ⟨a0, a1, a2, a3, a4, a5⟩ := u
    exact ⟨a0, a1, a2, a3, a4, a5, rfl, h⟩
def b7 {A0 A1 A2 A3 A4 A5 A6 β : Type} (x : Option (A0 × A1 × A2 × A3 × A4 × A5 × A6)) (k : A0 → A1 → A2 → A3 → A4 → A5 → A6 → Option β) : Option β := match x with
  | some (a0, a1, a2, a3, a4, a5, a6) => k a0 a1 a2 a3 a4 a5 a6
  | none => none
theorem b7_s {A0 A1 A2 A3 A4 A5 A6 β : Type} {x : Option (A0 × A1 × A2 × A3 × A4 × A5 × A6)} {k : A0 → A1 → A2 → A3 → A4 → A5 → A6 → Option β} {z : β} (h : b7 x k = some z) : ∃ a0 a1 a2 a3 a4 a5 a6, x = some (a0, a1, a2, a3, a4, a5, a6) ∧ k a0 a1 a2 a3 a4 a5 a6 = some z := by
  cases x with
  | none => cases h
  | some u =>
    obtain ⟨a0, a1, a2, a3, a4, a5, a6⟩ := u
    exact ⟨a0, a1, a2, a3, a4, a5, a6, rfl, h⟩
def b8 {A0 A1 A2 A3 A4 A5 A6 A7 β : Type} (x : Option (A0 × A1 × A2 × A3 × A4 × A5 × A6 × A7)) (k : A0 → A1 → A2 → A3 → A4 → A5 → A6 → A7 → Option β) : Option β := match x with
  | some (a0, a1, a2, a3, a4, a5, a6, a7) => k a0 a1 a2 a3 a4 a5 a6 a7
  | none => none
theorem b8_s {A0 A1 A2 A3 A4 A5 A6 A7 β : Type} {x : Option (A0 × A1 × A2 × A3 × A4 × A5 × A6 × A7)} {k : A0 → A1 → A2 → A3 → A4 → A5 → A6 → A7 → Option β} {z : β} (h : b8 x k = some z) : ∃ a0 a1 a2 a3 a4 a5 a6 a7, x = some (a0, a1, a2, a3, a4, a5, a6, a7) ∧ k a0 a1 a2 a3 a4 a5 a6 a7 = some z := by
  cases x with
  | none => cases h
  | some u =>
    obtain ⟨a0, a1, a2, a3, a4, a5, a6, a7⟩ := u
    exact ⟨a0, a1, a2, a3, a4, a5, a6, a7, rfl, h⟩
def b9 {A0 A1 A2 A3 A4 A5 A6 A7 A8 β : Type} (x : Option (A0 × A1 × A2 × A3 × A4 × A5 × A6 × A7 × A8)) (k : A0 → A1 → A2 → A3 → A4 → A5 → A6 → A7 → A8 → Option β) : Option β := match x with
  | some (a0, a1, a2, a3, a4, a5, a6, a7, a8) => k a0 a1 a2 a3 a4 a5 a6 a7 a8
  | none => none
theorem b9_s {A0 A1 A2 A3 A4 A5 A6 A7 A8 β : Type} {x : Option (A0 × A1 × A2 × A3 × A4 × A5 × A6 × A7 × A8)} {k : A0 → A1 → A2 → A3 → A4 → A5 → A6 → A7 → A8 → Option β} {z : β} (h : b9 x k = some z) : ∃ a0 a1 a2 a3 a4 a5 a6 a7 a8, x = some (a0, a1, a2, a3, a4, a5, a6, a7, a8) ∧ k a0 a1 a2 a3 a4 a5 a6 a7 a8 = some z := by
  cases x with
  | none => cases h
  | some u =>
    obtain ⟨a0, a1, a2, a3, a4, a5, a6, a7, a8⟩ := u
    exact ⟨a0, a1, a2, a3, a4, a5, a6, a7, a8, rfl, h⟩
def b10 {A0 A1 A2 A3 A4 A5 A6 A7 A8 A9 β : Type} (x : Option (A0 × A1 × A2 × A3 × A4 × A5 × A6 × A7 × A8 × A9)) (k : A0 → A1 → A2 → A3 → A4 → A5 → A6 → A7 → A8 → A9 → Option β) : Option β := match x with
  | some (a0, a1, a2, a3, a4, a5, a6, a7, a8, a9) => k a0 a1 a2 a3 a4 a5 a6 a7 a8 a9
  | none => none
theorem b10_s {A0 A1 A2 A3 A4 A5 A6 A7 A8 A9 β : Type} {x : Option (A0 × A1 × A2 × A3 × A4 × A5 × A6 × A7 × A8 × A9)} {k : A0 → A1 → A2 → A3 → A4 → A5 → A6 → A7 → A8 → A9 → Option β} {z : β} (h : b10 x k = some z) : ∃ a0 a1 a2 a3 a4 a5 a6 a7 a8 a9, x = some (a0, a1, a2, a3, a4, a5, a6, a7, a8, a9) ∧ k a0 a1 a2 a3 a4 a5 a6 a7 a8 a9 = some z := by
  cases x with
  | none => cases h
  | some u =>
    obtain ⟨a0, a1, a2, a3, a4, a5, a6, a7, a8, a9⟩ := u
    exact ⟨a0, a1, a2, a3, a4, a5, a6, a7, a8, a9, rfl, h⟩
def b11 {A0 A1 A2 A3 A4 A5 A6 A7 A8 A9 A10 β : Type} (x : Option (A0 × A1 × A2 × A3 × A4 × A5 × A6 × A7 × A8 × A9 × A10)) (k : A0 → A1 → A2 → A3 → A4 → A5 → A6 → A7 → A8 → A9 → A10 → Option β) : Option β := match x with
  | some (a0, a1, a2, a3, a4, a5, a6, a7, a8, a9, a10) => k a0 a1 a2 a3 a4 a5 a6 a7 a8 a9 a10
  | none => none
theorem b11_s {A0 A1 A2 A3 A4 A5 A6 A7 A8 A9 A10 β : Type} {x : Option (A0 × A1 × A2 × A3 × A4 × A5 × A6 × A7 × A8 × A9 × A10)} {k : A0 → A1 → A2 → A3 → A4 → A5 → A6 → A7 → A8 → A9 → A10 → Option β} {z : β} (h : b11 x k = some z) : ∃ a0 a1 a2 a3 a4 a5 a6 a7 a8 a9 a10, x = some (a0, a1, a2, a3, a4, a5, a6, a7, a8, a9, a10) ∧ k a0 a1 a2 a3 a4 a5 a6 a7 a8 a9 a10 = some z := by
  cases x with
  | none => cases h
  | some u =>
    obtain ⟨a0, a1, a2, a3, a4, a5, a6, a7, a8, a9, a10⟩ := u
    exact ⟨a0, a1, a2, a3, a4, a5, a6, a7, a8, a9, a10, rfl, h⟩
def b12 {A0 A1 A2 A3 A4 A5 A6 A7 A8 A9 A10 A11 β : Type} (x : Option (A0 × A1 × A2 × A3 × A4 × A5 × A6 × A7 × A8 × A9 × A10 × A11)) (k : A0 → A1 → A2 → A3 → A4 → A5 → A6 → A7 → A8 → A9 → A10 → A11 → Option β) : Option β := match x with
  | some (a0, a1, a2, a3, a4, a5, a6, a7, a8, a9, a10, a11) => k a0 a1 a2 a3 a4 a5 a6 a7 a8 a9 a10 a11
  | none => none
theorem b12_s {A0 A1 A2 A3 A4 A5 A6 A7 A8 A9 A10 A11 β : Type} {x : Option (A0 × A1 × A2 × A3 × A4 × A5 × A6 × A7 × A8 × A9 × A10 × A11)} {k : A0 → A1 → A2 → A3 → A4 → A5 → A6 → A7 → A8 → A9 → A10 → A11 → Option β} {z : β} (h : b12 x k = some z) : ∃ a0 a1 a2 a3 a4 a5 a6 a7 a8 a9 a10 a11, x = some (a0, a1, a2, a3, a4, a5, a6, a7, a8, a9, a10, a11) ∧ k a0 a1 a2 a3 a4 a5 a6 a7 a8 a9 a10 a11 = some z := by
  cases x with
  | none => cases h
  | some u =>
    obtain ⟨a0, a1, a2, a3, a4, a5, a6, a7, a8, a9, a10, a11⟩ := u
    exact ⟨a0, a1, a2, a3, a4, a5, a6, a7, a8, a9, a10, a11, rfl, h⟩
def b13 {A0 A1 A2 A3 A4 A5 A6 A7 A8 A9 A10 A11 A12 β : Type} (x : Option (A0 × A1 × A2 × A3 × A4 × A5 × A6 × A7 × A8 × A9 × A10 × A11 × A12)) (k : A0 → A1 → A2 → A3 → A4 → A5 → A6 → A7 → A8 → A9 → A10 → A11 → A12 → Option β) : Option β := match x with
  | some (a0, a1, a2, a3, a4, a5, a6, a7, a8, a9, a10, a11, a12) => k a0 a1 a2 a3 a4 a5 a6 a7 a8 a9 a10 a11 a12
  | none => none
theorem b13_s {A0 A1 A2 A3 A4 A5 A6 A7 A8 A9 A10 A11 A12 β : Type} {x : Option (A0 × A1 × A2 × A3 × A4 × A5 × A6 × A7 × A8 × A9 × A10 × A11 × A12)} {k : A0 → A1 → A2 → A3 → A4 → A5 → A6 → A7 → A8 → A9 → A10 → A11 → A12 → Option β} {z : β} (h : b13 x k = some z) : ∃ a0 a1 a2 a3 a4 a5 a6 a7 a8 a9 a10 a11 a12, x = some (a0, a1, a2, a3, a4, a5, a6, a7, a8, a9, a10, a11, a12) ∧ k a0 a1 a2 a3 a4 a5 a6 a7 a8 a9 a10 a11 a12 = some z := by
  cases x with
  | none => cases h
  | some u =>
    obtain ⟨a0, a1, a2, a3, a4, a5, a6, a7, a8, a9, a10, a11, a12⟩ := u
    exact ⟨a0, a1, a2, a3, a4, a5, a6, a7, a8, a9, a10, a11, a12, rfl, h⟩
def b14 {A0 A1 A2 A3 A4 A5 A6 A7 A8 A9 A10 A11 A12 A13 β : Type} (x : Option (A0 × A1 × A2 × A3 × A4 × A5 × A6 × A7 × A8 × A9 × A10 × A11 × A12 × A13)) (k : A0 → A1 → A2 → A3 → A4 → A5 → A6 → A7 → A8 → A9 → A10 → A11 → A12 → A13 → Option β) : Option β := match x with
  | some (a0, a1, a2, a3, a4, a5, a6, a7, a8, a9, a10, a11, a12, a13) => k a0 a1 a2 a3 a4 a5 a6 a7 a8 a9 a10 a11 a12 a13
  | none => none
theorem b14_s {A0 A1 A2 A3 A4 A5 A6 A7 A8 A9 A10 A11 A12 A13 β : Type} {x : Option (A0 × A1 × A2 × A3 × A4 × A5 × A6 × A7 × A8 × A9 × A10 × A11 × A12 × A13)} {k : A0 → A1 → A2 → A3 → A4 → A5 → A6 → A7 → A8 → A9 → A10 → A11 → A12 → A13 → Option β} {z : β} (h : b14 x k = some z) : ∃ a0 a1 a2 a3 a4 a5 a6 a7 a8 a9 a10 a11 a12 a13, x = some (a0, a1, a2, a3, a4, a5, a6, a7, a8, a9, a10, a11, a12, a13) ∧ k a0 a1 a2 a3 a4 a5 a6 a7 a8 a9 a10 a11 a12 a13 = some z := by
  cases x with
  | none => cases h
  | some u =>
    obtain ⟨a0, a1, a2, a3, a4, a5, a6, a7, a8, a9, a10, a11, a12, a13⟩ := u
    exact ⟨a0, a1, a2, a3, a4, a5, a6, a7, a8, a9, a10, a11, a12, a13, rfl, h⟩
def b15 {A0 A1 A2 A3 A4 A5 A6 A7 A8 A9 A10 A11 A12 A13 A14 β : Type} (x : Option (A0 × A1 × A2 × A3 × A4 × A5 × A6 × A7 × A8 × A9 × A10 × A11 × A12 × A13 × A14)) (k : A0 → A1 → A2 → A3 → A4 → A5 → A6 → A7 → A8 → A9 → A10 → A11 → A12 → A13 → A14 → Option β) : Option β := match x with
  | some (a0, a1, a2, a3, a4, a5, a6, a7, a8, a9, a10, a11, a12, a13, a14) => k a0 a1 a2 a3 a4 a5 a6 a7 a8 a9 a10 a11 a12 a13 a14
  | none => none
theorem b15_s {A0 A1 A2 A3 A4 A5 A6 A7 A8 A9 A10 A11 A12 A13 A14 β : Type} {x : Option (A0 × A1 × A2 × A3 × A4 × A5 × A6 × A7 × A8 × A9 × A10 × A11 × A12 × A13 × A14)} {k : A0 → A1 → A2 → A3 → A4 → A5 → A6 → A7 → A8 → A9 → A10 → A11 → A12 → A13 → A14 → Option β} {z : β} (h : b15 x k = some z) : ∃ a0 a1 a2 a3 a4 a5 a6 a7 a8 a9 a10 a11 a12 a13 a14, x = some (a0, a1, a2, a3, a4, a5, a6, a7, a8, a9, a10, a11, a12, a13, a14) ∧ k a0 a1 a2 a3 a4 a5 a6 a7 a8 a9 a10 a11 a12 a13 a14 = some z := by
  cases x with
  | none => cases h
  | some u =>
    obtain ⟨a0, a1, a2, a3, a4, a5, a6, a7, a8, a9, a10, a11, a12, a13, a14⟩ := u
    exact ⟨a0, a1, a2, a3, a4, a5, a6, a7, a8, a9, a10, a11, a12, a13, a14, rfl, h⟩
def b16 {A0 A1 A2 A3 A4 A5 A6 A7 A8 A9 A10 A11 A12 A13 A14 A15 β : Type} (x : Option (A0 × A1 × A2 × A3 × A4 × A5 × A6 × A7 × A8 × A9 × A10 × A11 × A12 × A13 × A14 × A15)) (k : A0 → A1 → A2 → A3 → A4 → A5 → A6 → A7 → A8 → A9 → A10 → A11 → A12 → A13 → A14 → A15 → Option β) : Option β := match x with
  | some (a0, a1, a2, a3, a4, a5, a6, a7, a8, a9, a10, a11, a12, a13, a14, a15) => k a0 a1 a2 a3 a4 a5 a6 a7 a8 a9 a10 a11 a12 a13 a14 a15
  | none => none
theorem b16_s {A0 A1 A2 A3 A4 A5 A6 A7 A8 A9 A10 A11 A12 A13 A14 A15 β : Type} {x : Option (A0 × A1 × A2 × A3 × A4 × A5 × A6 × A7 × A8 × A9 × A10 × A11 × A12 × A13 × A14 × A15)} {k : A0 → A1 → A2 → A3 → A4 → A5 → A6 → A7 → A8 → A9 → A10 → A11 → A12 → A13 → A14 → A15 → Option β} {z : β} (h : b16 x k = some z) : ∃ a0 a1 a2 a3 a4 a5 a6 a7 a8 a9 a10 a11 a12 a13 a14 a15, x = some (a0, a1, a2, a3, a4, a5, a6, a7, a8, a9, a10, a11, a12, a13, a14, a15) ∧ k a0 a1 a2 a3 a4 a5 a6 a7 a8 a9 a10 a11 a12 a13 a14 a15 = some z := by
  cases x with
  | none => cases h
  | some u =>
    obtain ⟨a0, a1, a2, a3, a4, a5, a6, a7, a8, a9, a10, a11, a12, a13, a14, a15⟩ := u
    exact ⟨a0, a1, a2, a3, a4, a5, a6, a7, a8, a9, a10, a11, a12, a13, a14, a15, rfl, h⟩
def b17 {A0 A1 A2 A3 A4 A5 A6 A7 A8 A9 A10 A11 A12 A13 A14 A15 A16 β : Type} (x : Option (A0 × A1 × A2 × A3 × A4 × A5 × A6 × A7 × A8 × A9 × A10 × A11 × A12 × A13 × A14 × A15 × A16)) (k : A0 → A1 → A2 → A3 → A4 → A5 → A6 → A7 → A8 → A9 → A10 → A11 → A12 → A13 → A14 → A15 → A16 → Option β) : Option β := match x with
  | some (a0, a1, a2, a3, a4, a5, a6, a7, a8, a9, a10, a11, a12, a13, a14, a15, a16) => k a0 a1 a2 a3 a4 a5 a6 a7 a8 a9 a10 a11 a12 a13 a14 a15 a16
  | none => none
theorem b17_s {A0 A1 A2 A3 A4 A5 A6 A7 A8 A9 A10 A11 A12 A13 A14 A15 A16 β : Type} {x : Option (A0 × A1 × A2 × A3 × A4 × A5 × A6 × A7 × A8 × A9 × A10 × A11 × A12 × A13 × A14 × A15 × A16)} {k : A0 → A1 → A2 → A3 → A4 → A5 → A6 → A7 → A8 → A9 → A10 → A11 → A12 → A13 → A14 → A15 → A16 → Option β} {z : β} (h : b17 x k = some z) : ∃ a0 a1 a2 a3 a4 a5 a6 a7 a8 a9 a10 a11 a12 a13 a14 a15 a16, x = some (a0, a1, a2, a3, a4, a5, a6, a7, a8, a9, a10, a11, a12, a13, a14, a15, a16) ∧ k a0 a1 a2 a3 a4 a5 a6 a7 a8 a9 a10 a11 a12 a13 a14 a15 a16 = some z := by
  cases x with
  | none => cases h
  | some u =>
    obtain ⟨a0, a1, a2, a3, a4, a5, a6, a7, a8, a9, a10, a11, a12, a13, a14, a15, a16⟩ := u
    exact ⟨a0, a1, a2, a3, a4, a5, a6, a7, a8, a9, a10, a11, a12, a13, a14, a15, a16, rfl, h⟩
def b18 {A0 A1 A2 A3 A4 A5 A6 A7 A8 A9 A10 A11 A12 A13 A14 A15 A16 A17 β : Type} (x : Option (A0 × A1 × A2 × A3 × A4 × A5 × A6 × A7 × A8 × A9 × A10 × A11 × A12 × A13 × A14 × A15 × A16 × A17)) (k : A0 → A1 → A2 → A3 → A4 → A5 → A6 → A7 → A8 → A9 → A10 → A11 → A12 → A13 → A14 → A15 → A16 → A17 → Option β) : Option β := match x with
  | some (a0, a1, a2, a3, a4, a5, a6, a7, a8, a9, a10, a11, a12, a13, a14, a15, a16, a17) => k a0 a1 a2 a3 a4 a5 a6 a7 a8 a9 a10 a11 a12 a13 a14 a15 a16 a17
  | none => none
theorem b18_s {A0 A1 A2 A3 A4 A5 A6 A7 A8 A9 A10 A11 A12 A13 A14 A15 A16 A17 β : Type} {x : Option (A0 × A1 × A2 × A3 × A4 × A5 × A6 × A7 × A8 × A9 × A10 × A11 × A12 × A13 × A14 × A15 × A16 × A17)} {k : A0 → A1 → A2 → A3 → A4 → A5 → A6 → A7 → A8 → A9 → A10 → A11 → A12 → A13 → A14 → A15 → A16 → A17 → Option β} {z : β} (h : b18 x k = some z) : ∃ a0 a1 a2 a3 a4 a5 a6 a7 a8 a9 a10 a11 a12 a13 a14 a15 a16 a17, x = some (a0, a1, a2, a3, a4, a5, a6, a7, a8, a9, a10, a11, a12, a13, a14, a15, a16, a17) ∧ k a0 a1 a2 a3 a4 a5 a6 a7 a8 a9 a10 a11 a12 a13 a14 a15 a16 a17 = some z := by
  cases x with
  | none => cases h
  | some u =>
    obtain ⟨a0, a1, a2, a3, a4, a5, a6, a7, a8, a9, a10, a11, a12, a13, a14, a15, a16, a17⟩ := u
    exact ⟨a0, a1, a2, a3, a4, a5, a6, a7, a8, a9, a10, a11, a12, a13, a14, a15, a16, a17, rfl, h⟩
def b19 {A0 A1 A2 A3 A4 A5 A6 A7 A8 A9 A10 A11 A12 A13 A14 A15 A16 A17 A18 β : Type} (x : Option (A0 × A1 × A2 × A3 × A4 × A5 × A6 × A7 × A8 × A9 × A10 × A11 × A12 × A13 × A14 × A15 × A16 × A17 × A18)) (k : A0 → A1 → A2 → A3 → A4 → A5 → A6 → A7 → A8 → A9 → A10 → A11 → A12 → A13 → A14 → A15 → A16 → A17 → A18 → Option β) : Option β := match x with
  | some (a0, a1, a2, a3, a4, a5, a6, a7, a8, a9, a10, a11, a12, a13, a14, a15, a16, a17, a18) => k a0 a1 a2 a3 a4 a5 a6 a7 a8 a9 a10 a11 a12 a13 a14 a15 a16 a17 a18
  | none => none
theorem b19_s {A0 A1 A2 A3 A4 A5 A6 A7 A8 A9 A10 A11 A12 A13 A14 A15 A16 A17 A18 β : Type} {x : Option (A0 × A1 × A2 × A3 × A4 × A5 × A6 × A7 × A8 × A9 × A10 × A11 × A12 × A13 × A14 × A15 × A16 × A17 × A18)} {k : A0 → A1 → A2 → A3 → A4 → A5 → A6 → A7 → A8 → A9 → A10 → A11 → A12 → A13 → A14 → A15 → A16 → A17 → A18 → Option β} {z : β} (h : b19 x k = some z) : ∃ a0 a1 a2 a3 a4 a5 a6 a7 a8 a9 a10 a11 a12 a13 a14 a15 a16 a17 a18, x = some (a0, a1, a2, a3, a4, a5, a6, a7, a8, a9, a10, a11, a12, a13, a14, a15, a16, a17, a18) ∧ k a0 a1 a2 a3 a4 a5 a6 a7 a8 a9 a10 a11 a12 a13 a14 a15 a16 a17 a18 = some z := by
  cases x with
  | none => cases h
  | some u =>
    obtain ⟨a0, a1, a2, a3, a4, a5, a6, a7, a8, a9, a10, a11, a12, a13, a14, a15, a16, a17, a18⟩ := u
    exact ⟨a0, a1, a2, a3, a4, a5, a6, a7, a8, a9, a10, a11, a12, a13, a14, a15, a16, a17, a18, rfl, h⟩
def b20 {A0 A1 A2 A3 A4 A5 A6 A7 A8 A9 A10 A11 A12 A13 A14 A15 A16 A17 A18 A19 β : Type} (x : Option (A0 × A1 × A2 × A3 × A4 × A5 × A6 × A7 × A8 × A9 × A10 × A11 × A12 × A13 × A14 × A15 × A16 × A17 × A18 × A19)) (k : A0 → A1 → A2 → A3 → A4 → A5 → A6 → A7 → A8 → A9 → A10 → A11 → A12 → A13 → A14 → A15 → A16 → A17 → A18 → A19 → Option β) : Option β := match x with
  | some (a0, a1, a2, a3, a4, a5, a6, a7, a8, a9, a10, a11, a12, a13, a14, a15, a16, a17, a18, a19) => k a0 a1 a2 a3 a4 a5 a6 a7 a8 a9 a10 a11 a12 a13 a14 a15 a16 a17 a18 a19
  | none => none
theorem b20_s {A0 A1 A2 A3 A4 A5 A6 A7 A8 A9 A10 A11 A12 A13 A14 A15 A16 A17 A18 A19 β : Type} {x : Option (A0 × A1 × A2 × A3 × A4 × A5 × A6 × A7 × A8 × A9 × A10 × A11 × A12 × A13 × A14 × A15 × A16 × A17 × A18 × A19)} {k : A0 → A1 → A2 → A3 → A4 → A5 → A6 → A7 → A8 → A9 → A10 → A11 → A12 → A13 → A14 → A15 → A16 → A17 → A18 → A19 → Option β} {z : β} (h : b20 x k = some z) : ∃ a0 a1 a2 a3 a4 a5 a6 a7 a8 a9 a10 a11 a12 a13 a14 a15 a16 a17 a18 a19, x = some (a0, a1, a2, a3, a4, a5, a6, a7, a8, a9, a10, a11, a12, a13, a14, a15, a16, a17, a18, a19) ∧ k a0 a1 a2 a3 a4 a5 a6 a7 a8 a9 a10 a11 a12 a13 a14 a15 a16 a17 a18 a19 = some z := by
  cases x with
  | none => cases h
  | some u =>
    obtain ⟨a0, a1, a2, a3, a4, a5, a6, a7, a8, a9, a10, a11, a12, a13, a14, a15, a16, a17, a18, a19⟩ := u
    exact ⟨a0, a1, a2, a3, a4, a5, a6, a7, a8, a9, a10, a11, a12, a13, a14, a15, a16, a17, a18, a19, rfl, h⟩
def b21 {A0 A1 A2 A3 A4 A5 A6 A7 A8 A9 A10 A11 A12 A13 A14 A15 A16 A17 A18 A19 A20 β : Type} (x : Option (A0 × A1 × A2 × A3 × A4 × A5 × A6 × A7 × A8 × A9 × A10 × A11 × A12 × A13 × A14 × A15 × A16 × A17 × A18 × A19 × A20)) (k : A0 → A1 → A2 → A3 → A4 → A5 → A6 → A7 → A8 → A9 → A10 → A11 → A12 → A13 → A14 → A15 → A16 → A17 → A18 → A19 → A20 → Option β) : Option β := match x with
  | some (a0, a1, a2, a3, a4, a5, a6, a7, a8, a9, a10, a11, a12, a13, a14, a15, a16, a17, a18, a19, a20) => k a0 a1 a2 a3 a4 a5 a6 a7 a8 a9 a10 a11 a12 a13 a14 a15 a16 a17 a18 a19 a20
  | none => none
theorem b21_s {A0 A1 A2 A3 A4 A5 A6 A7 A8 A9 A10 A11 A12 A13 A14 A15 A16 A17 A18 A19 A20 β : Type} {x : Option (A0 × A1 × A2 × A3 × A4 × A5 × A6 × A7 × A8 × A9 × A10 × A11 × A12 × A13 × A14 × A15 × A16 × A17 × A18 × A19 × A20)} {k : A0 → A1 → A2 → A3 → A4 → A5 → A6 → A7 → A8 → A9 → A10 → A11 → A12 → A13 → A14 → A15 → A16 → A17 → A18 → A19 → A20 → Option β} {z : β} (h : b21 x k = some z) : ∃ a0 a1 a2 a3 a4 a5 a6 a7 a8 a9 a10 a11 a12 a13 a14 a15 a16 a17 a18 a19 a20, x = some (a0, a1, a2, a3, a4, a5, a6, a7, a8, a9, a10, a11, a12, a13, a14, a15, a16, a17, a18, a19, a20) ∧ k a0 a1 a2 a3 a4 a5 a6 a7 a8 a9 a10 a11 a12 a13 a14 a15 a16 a17 a18 a19 a20 = some z := by
  cases x with
  | none => cases h
  | some u =>
    obtain ⟨a0, a1, a2, a3, a4, a5, a6, a7, a8, a9, a10, a11, a12, a13, a14, a15, a16, a17, a18, a19, a20⟩ := u
    exact ⟨a0, a1, a2, a3, a4, a5, a6, a7, a8, a9, a10, a11, a12, a13, a14, a15, a16, a17, a18, a19, a20, rfl, h⟩
def b22 {A0 A1 A2 A3 A4 A5 A6 A7 A8 A9 A10 A11 A12 A13 A14 A15 A16 A17 A18 A19 A20 A21 β : Type} (x : Option (A0 × A1 × A2 × A3 × A4 × A5 × A6 × A7 × A8 × A9 × A10 × A11 × A12 × A13 × A14 × A15 × A16 × A17 × A18 × A19 × A20 × A21)) (k : A0 → A1 → A2 → A3 → A4 → A5 → A6 → A7 → A8 → A9 → A10 → A11 → A12 → A13 → A14 → A15 → A16 → A17 → A18 → A19 → A20 → A21 → Option β) : Option β := match x with
  | some (a0, a1, a2, a3, a4, a5, a6, a7, a8, a9, a10, a11, a12, a13, a14, a15, a16, a17, a18, a19, a20, a21) => k a0 a1 a2 a3 a4 a5 a6 a7 a8 a9 a10 a11 a12 a13 a14 a15 a16 a17 a18 a19 a20 a21
  | none => none
theorem b22_s {A0 A1 A2 A3 A4 A5 A6 A7 A8 A9 A10 A11 A12 A13 A14 A15 A16 A17 A18 A19 A20 A21 β : Type} {x : Option (A0 × A1 × A2 × A3 × A4 × A5 × A6 × A7 × A8 × A9 × A10 × A11 × A12 × A13 × A14 × A15 × A16 × A17 × A18 × A19 × A20 × A21)} {k : A0 → A1 → A2 → A3 → A4 → A5 → A6 → A7 → A8 → A9 → A10 → A11 → A12 → A13 → A14 → A15 → A16 → A17 → A18 → A19 → A20 → A21 → Option β} {z : β} (h : b22 x k = some z) : ∃ a0 a1 a2 a3 a4 a5 a6 a7 a8 a9 a10 a11 a12 a13 a14 a15 a16 a17 a18 a19 a20 a21, x = some (a0, a1, a2, a3, a4, a5, a6, a7, a8, a9, a10, a11, a12, a13, a14, a15, a16, a17, a18, a19, a20, a21) ∧ k a0 a1 a2 a3 a4 a5 a6 a7 a8 a9 a10 a11 a12 a13 a14 a15 a16 a17 a18 a19 a20 a21 = some z := by
  cases x with
  | none => cases h
  | some u =>
    obtain ⟨a0, a1, a2, a3, a4, a5, a6, a7, a8, a9, a10, a11, a12, a13, a14, a15, a16, a17, a18, a19, a20, a21⟩ := u
    exact ⟨a0, a1, a2, a3, a4, a5, a6, a7, a8, a9, a10, a11, a12, a13, a14, a15, a16, a17, a18, a19, a20, a21, rfl, h⟩
def b23 {A0 A1 A2 A3 A4 A5 A6 A7 A8 A9 A10 A11 A12 A13 A14 A15 A16 A17 A18 A19 A20 A21 A22 β : Type} (x : Option (A0 × A1 × A2 × A3 × A4 × A5 × A6 × A7 × A8 × A9 × A10 × A11 × A12 × A13 × A14 × A15 × A16 × A17 × A18 × A19 × A20 × A21 × A22)) (k : A0 → A1 → A2 → A3 → A4 → A5 → A6 → A7 → A8 → A9 → A10 → A11 → A12 → A13 → A14 → A15 → A16 → A17 → A18 → A19 → A20 → A21 → A22 → Option β) : Option β := match x with
  | some (a0, a1, a2, a3, a4, a5, a6, a7, a8, a9, a10, a11, a12, a13, a14, a15, a16, a17, a18, a19, a20, a21, a22) => k a0 a1 a2 a3 a4 a5 a6 a7 a8 a9 a10 a11 a12 a13 a14 a15 a16 a17 a18 a19 a20 a21 a22
  | none => none
theorem b23_s {A0 A1 A2 A3 A4 A5 A6 A7 A8 A9 A10 A11 A12 A13 A14 A15 A16 A17 A18 A19 A20 A21 A22 β : Type} {x : Option (A0 × A1 × A2 × A3 × A4 × A5 × A6 × A7 × A8 × A9 × A10 × A11 × A12 × A13 × A14 × A15 × A16 × A17 × A18 × A19 × A20 × A21 × A22)} {k : A0 → A1 → A2 → A3 → A4 → A5 → A6 → A7 → A8 → A9 → A10 → A11 → A12 → A13 → A14 → A15 → A16 → A17 → A18 → A19 → A20 → A21 → A22 → Option β} {z : β} (h : b23 x k = some z) : ∃ a0 a1 a2 a3 a4 a5 a6 a7 a8 a9 a10 a11 a12 a13 a14 a15 a16 a17 a18 a19 a20 a21 a22, x = some (a0, a1, a2, a3, a4, a5, a6, a7, a8, a9, a10, a11, a12, a13, a14, a15, a16, a17, a18, a19, a20, a21, a22) ∧ k a0 a1 a2 a3 a4 a5 a6 a7 a8 a9 a10 a11 a12 a13 a14 a15 a16 a17 a18 a19 a20 a21 a22 = some z := by
  cases x with
  | none => cases h
  | some u =>
    obtain ⟨a0, a1, a2, a3, a4, a5, a6, a7, a8, a9, a10, a11, a12, a13, a14, a15, a16, a17, a18, a19, a20, a21, a22⟩ := u
    exact ⟨a0, a1, a2, a3, a4, a5, a6, a7, a8, a9, a10, a11, a12, a13, a14, a15, a16, a17, a18, a19, a20, a21, a22, rfl, h⟩
def b24 {A0 A1 A2 A3 A4 A5 A6 A7 A8 A9 A10 A11 A12 A13 A14 A15 A16 A17 A18 A19 A20 A21 A22 A23 β : Type} (x : Option (A0 × A1 × A2 × A3 × A4 × A5 × A6 × A7 × A8 × A9 × A10 × A11 × A12 × A13 × A14 × A15 × A16 × A17 × A18 × A19 × A20 × A21 × A22 × A23)) (k : A0 → A1 → A2 → A3 → A4 → A5 → A6 → A7 → A8 → A9 → A10 → A11 → A12 → A13 → A14 → A15 → A16 → A17 → A18 → A19 → A20 → A21 → A22 → A23 → Option β) : Option β := match x with
  | some (a0, a1, a2, a3, a4, a5, a6, a7, a8, a9, a10, a11, a12, a13, a14, a15, a16, a17, a18, a19, a20, a21, a22, a23) => k a0 a1 a2 a3 a4 a5 a6 a7 a8 a9 a10 a11 a12 a13 a14 a15 a16 a17 a18 a19 a20 a21 a22 a23
  | none => none
theorem b24_s {A0 A1 A2 A3 A4 A5 A6 A7 A8 A9 A10 A11 A12 A13 A14 A15 A16 A17 A18 A19 A20 A21 A22 A23 β : Type} {x : Option (A0 × A1 × A2 × A3 × A4 × A5 × A6 × A7 × A8 × A9 × A10 × A11 × A12 × A13 × A14 × A15 × A16 × A17 × A18 × A19 × A20 × A21 × A22 × A23)} {k : A0 → A1 → A2 → A3 → A4 → A5 → A6 → A7 → A8 → A9 → A10 → A11 → A12 → A13 → A14 → A15 → A16 → A17 → A18 → A19 → A20 → A21 → A22 → A23 → Option β} {z : β} (h : b24 x k = some z) : ∃ a0 a1 a2 a3 a4 a5 a6 a7 a8 a9 a10 a11 a12 a13 a14 a15 a16 a17 a18 a19 a20 a21 a22 a23, x = some (a0, a1, a2, a3, a4, a5, a6, a7, a8, a9, a10, a11, a12, a13, a14, a15, a16, a17, a18, a19, a20, a21, a22, a23) ∧ k a0 a1 a2 a3 a4 a5 a6 a7 a8 a9 a10 a11 a12 a13 a14 a15 a16 a17 a18 a19 a20 a21 a22 a23 = some z := by
  cases x with
  | none => cases h
  | some u =>
    obtain ⟨a0, a1, a2, a3, a4, a5, a6, a7, a8, a9, a10, a11, a12, a13, a14, a15, a16, a17, a18, a19, a20, a21, a22, a23⟩ := u
    exact ⟨a0, a1, a2, a3, a4, a5, a6, a7, a8, a9, a10, a11, a12, a13, a14, a15, a16, a17, a18, a19, a20, a21, a22, a23, rfl, h⟩
def b25 {A0 A1 A2 A3 A4 A5 A6 A7 A8 A9 A10 A11 A12 A13 A14 A15 A16 A17 A18 A19 A20 A21 A22 A23 A24 β : Type} (x : Option (A0 × A1 × A2 × A3 × A4 × A5 × A6 × A7 × A8 × A9 × A10 × A11 × A12 × A13 × A14 × A15 × A16 × A17 × A18 × A19 × A20 × A21 × A22 × A23 × A24)) (k : A0 → A1 → A2 → A3 → A4 → A5 → A6 → A7 → A8 → A9 → A10 → A11 → A12 → A13 → A14 → A15 → A16 → A17 → A18 → A19 → A20 → A21 → A22 → A23 → A24 → Option β) : Option β := match x with
  | some (a0, a1, a2, a3, a4, a5, a6, a7, a8, a9, a10, a11, a12, a13, a14, a15, a16, a17, a18, a19, a20, a21, a22, a23, a24) => k a0 a1 a2 a3 a4 a5 a6 a7 a8 a9 a10 a11 a12 a13 a14 a15 a16 a17 a18 a19 a20 a21 a22 a23 a24
  | none => none
theorem b25_s {A0 A1 A2 A3 A4 A5 A6 A7 A8 A9 A10 A11 A12 A13 A14 A15 A16 A17 A18 A19 A20 A21 A22 A23 A24 β : Type} {x : Option (A0 × A1 × A2 × A3 × A4 × A5 × A6 × A7 × A8 × A9 × A10 × A11 × A12 × A13 × A14 × A15 × A16 × A17 × A18 × A19 × A20 × A21 × A22 × A23 × A24)} {k : A0 → A1 → A2 → A3 → A4 → A5 → A6 → A7 → A8 → A9 → A10 → A11 → A12 → A13 → A14 → A15 → A16 → A17 → A18 → A19 → A20 → A21 → A22 → A23 → A24 → Option β} {z : β} (h : b25 x k = some z) : ∃ a0 a1 a2 a3 a4 a5 a6 a7 a8 a9 a10 a11 a12 a13 a14 a15 a16 a17 a18 a19 a20 a21 a22 a23 a24, x = some (a0, a1, a2, a3, a4, a5, a6, a7, a8, a9, a10, a11, a12, a13, a14, a15, a16, a17, a18, a19, a20, a21, a22, a23, a24) ∧ k a0 a1 a2 a3 a4 a5 a6 a7 a8 a9 a10 a11 a12 a13 a14 a15 a16 a17 a18 a19 a20 a21 a22 a23 a24 = some z := by
  cases x with
  | none => cases h
  | some u =>
    obtain ⟨a0, a1, a2, a3, a4, a5, a6, a7, a8, a9, a10, a11, a12, a13, a14, a15, a16, a17, a18, a19, a20, a21, a22, a23, a24⟩ := u
    exact ⟨a0, a1, a2, a3, a4, a5, a6, a7, a8, a9, a10, a11, a12, a13, a14, a15, a16, a17, a18, a19, a20, a21, a22, a23, a24, rfl, h⟩
def b26 {A0 A1 A2 A3 A4 A5 A6 A7 A8 A9 A10 A11 A12 A13 A14 A15 A16 A17 A18 A19 A20 A21 A22 A23 A24 A25 β : Type} (x : Option (A0 × A1 × A2 × A3 × A4 × A5 × A6 × A7 × A8 × A9 × A10 × A11 × A12 × A13 × A14 × A15 × A16 × A17 × A18 × A19 × A20 × A21 × A22 × A23 × A24 × A25)) (k : A0 → A1 → A2 → A3 → A4 → A5 → A6 → A7 → A8 → A9 → A10 → A11 → A12 → A13 → A14 → A15 → A16 → A17 → A18 → A19 → A20 → A21 → A22 → A23 → A24 → A25 → Option β) : Option β := match x with
  | some (a0, a1, a2, a3, a4, a5, a6, a7, a8, a9, a10, a11, a12, a13, a14, a15, a16, a17, a18, a19, a20, a21, a22, a23, a24, a25) => k a0 a1 a2 a3 a4 a5 a6 a7 a8 a9 a10 a11 a12 a13 a14 a15 a16 a17 a18 a19 a20 a21 a22 a23 a24 a25
  | none => none
theorem b26_s {A0 A1 A2 A3 A4 A5 A6 A7 A8 A9 A10 A11 A12 A13 A14 A15 A16 A17 A18 A19 A20 A21 A22 A23 A24 A25 β : Type} {x : Option (A0 × A1 × A2 × A3 × A4 × A5 × A6 × A7 × A8 × A9 × A10 × A11 × A12 × A13 × A14 × A15 × A16 × A17 × A18 × A19 × A20 × A21 × A22 × A23 × A24 × A25)} {k : A0 → A1 → A2 → A3 → A4 → A5 → A6 → A7 → A8 → A9 → A10 → A11 → A12 → A13 → A14 → A15 → A16 → A17 → A18 → A19 → A20 → A21 → A22 → A23 → A24 → A25 → Option β} {z : β} (h : b26 x k = some z) : ∃ a0 a1 a2 a3 a4 a5 a6 a7 a8 a9 a10 a11 a12 a13 a14 a15 a16 a17 a18 a19 a20 a21 a22 a23 a24 a25, x = some (a0, a1, a2, a3, a4, a5, a6, a7, a8, a9, a10, a11, a12, a13, a14, a15, a16, a17, a18, a19, a20, a21, a22, a23, a24, a25) ∧ k a0 a1 a2 a3 a4 a5 a6 a7 a8 a9 a10 a11 a12 a13 a14 a15 a16 a17 a18 a19 a20 a21 a22 a23 a24 a25 = some z := by
  cases x with
  | none => cases h
  | some u =>
    obtain ⟨a0, a1, a2, a3, a4, a5, a6, a7, a8, a9, a10, a11, a12, a13, a14, a15, a16, a17, a18, a19, a20, a21, a22, a23, a24, a25⟩ := u
    exact ⟨a0, a1, a2, a3, a4, a5, a6, a7, a8, a9, a10, a11, a12, a13, a14, a15, a16, a17, a18, a19, a20, a21, a22, a23, a24, a25, rfl, h⟩
def va_pk (ws : va_W) (is : List Nat) : va_W := is.filterMap (fun i => ws[i]?)
theorem va_pm {ws wc : va_W} {is : List Nat} (h : is.map (fun i => ws[i]?) = wc.map some) : is.filterMap (fun i => ws[i]?) = wc := by
  have e : is.filterMap (fun i => ws[i]?) = (is.map (fun i => ws[i]?)).filterMap id := by rw [List.filterMap_map]; rfl
  rw [e, h, List.filterMap_map]
  have e2 : (id ∘ some : (Nat × va_E) → Option (Nat × va_E)) = some := rfl
  rw [e2, List.filterMap_some]
section KC
variable {p : Program} {l : Launch} {e : Env} {R : Room} {s : State} {m : MethodId} {args : Array Value} {below : List Frame} {meth : Method} {c : Code} {H : Heap} {locs : List Loc} {cells slots : Nat} {Q : State → Prop}
variable {y : MethodName} {bytes cc : ByteArray} {maxL nL mc ms n index pc : Nat} {ret : Option FieldType} {ws : List Cond} {rm : Room} {Ts : List Cond} {own C host : String} {b : Addr} {As rest st0 : List Value} {ls : Array Slot}
variable {D : va_G} {cI cZ : ClassId} {t : Nat → Nat} {A : Nat → Prop} {wW wc : va_W} {S : Type}
theorem lv_tpx {x y : Int32} (h : y = x) (k : W p l e R s m args below meth c H locs cells slots Q (F0 m pc ls (.int y :: rest))) : W p l e R s m args below meth c H locs cells slots Q (F0 m pc ls (.int x :: rest)) := by
  subst h
  exact k
theorem w_q {g : JFrame} (k : ∀ Q9 : State → Prop, Q9 = Q → W p l e R s m args below meth c H locs cells slots Q9 g) : W p l e R s m args below meth c H locs cells slots Q g := k Q rfl
theorem k_Vi {post : Int32 → S → Prop} {w1 : S → va_W} (F : CallFix p m c cc nL s args Ts own) (hM : Met l y ws rm (va_Pc (.ref b :: As) (pcW D cI cZ t wc H.size)) (va_Qi post (fun u t' => bW D (va_A wc H.size) (w1 u) t') (va_A wc H.size)) mc ms (va_A wc H.size)) (cw : CallW R s args own C index y bytes maxL ret ws rm mc ms n)
    (hE : en D cI cZ t A s s.heap) (hP : va_P D vwCl wW H) (hD : va_D A wW) (hS : va_S A s.heap H locs) (hA : ∀ q, s.heap.size ≤ q → A q) (isC isR : List Nat) (hC : isC.map (fun i => wW[i]?) = wc.map some) (hR : isR.map (fun i => wW[i]?) = (va_pk wW isR).map some) (hnC : va_nd isC = true) (hnR : va_nd isR = true) (hdis : isR.all (fun i => !isC.contains i) = true) (q0 ci : Nat) {q : vw_C} {fs : List Value} (hc : vwCl[ci]? = some q) (he : wc[q0]? = some (b, .inr (ci, fs))) (hq : q.1 = C) 
    (hn : As.length = n) (hsize : ls.size = nL) (hst : st0 = As.reverse ++ .ref b :: rest) (hWd : (rest.map fun v => v.category).sum ≤ 8) (hdg : decode cc pc = .ok (.invokevirtual index, 3)) (hf : cells + mc ≤ R.cells ∧ slots + ms ≤ R.slots)
    (kk : ∀ (r : Int32) (u : S) (H1 : Heap) (locs1 : List Loc), post r u → va_P D vwCl (va_pk wW isR ++ w1 u) H1 → va_D A (va_pk wW isR ++ w1 u) → va_S A s.heap H1 locs1 → W p l e R s m args below meth c H1 locs1 (cells + mc) (slots + ms) Q (F0 m (pc + 3) ls (.int r :: rest))) : W p l e R s m args below meth c H locs cells slots Q (F0 m pc ls st0) := by
  have hFc := va_free (wc := wc) hD hS hA isC hC
  have hPc : va_P D vwCl wc H := hP.sub isC (va_pm hC)
  have hDc : va_D A wc := hD.sub isC hnC hC
  have hdis2 : ∀ i ∈ isR, i ∉ isC := fun i h => by have h2 := List.all_eq_true.mp hdis i h; simpa using h2
  have hrc : ∃ cell : Cell, H[b]? = some cell ∧ cell.vm.isStatics = false ∧ s.vm.findClass C = some cell.cls := by
    rw [← hq]
    exact va_recv hE.1 hPc hc he
  refine va_calli (va_runV (As := As) (rest := rest) F hM cw ⟨pcW_blind, hrc, fun U hU hW => ⟨rfl, by rw [hU], by rw [hU]; exact hPc, hDc.weaken (fun _ _ _ _ => trivial), en_call hE hS hFc hU hW⟩⟩ rfl hn hsize hst (lv_room hWd) hdg hf) hS (fun q _ h => hFc q h) hFc (fun r u t' H1 locs1 ht hvm hw hB hz1 hk1 hS1 => ?_)
  obtain ⟨hP1, hD1⟩ := hB
  rw [ht] at hP1
  obtain ⟨hP2, hD2⟩ := va_join (wr := va_pk wW isR) (w1 := w1 u) hP hD isC isR hC hR hnR hdis2 hk1 hFc hP1 hD1
  exact kk r u H1 locs1 hw hP2 hD2 hS1
theorem k_Vv {post : S → Prop} {w1 : S → va_W} (F : CallFix p m c cc nL s args Ts own) (hM : Met l y ws rm (va_Pc (.ref b :: As) (pcW D cI cZ t wc H.size)) (va_Qv post (fun u t' => bW D (va_A wc H.size) (w1 u) t') (va_A wc H.size)) mc ms (va_A wc H.size)) (cw : CallW R s args own C index y bytes maxL ret ws rm mc ms n)
    (hE : en D cI cZ t A s s.heap) (hP : va_P D vwCl wW H) (hD : va_D A wW) (hS : va_S A s.heap H locs) (hA : ∀ q, s.heap.size ≤ q → A q) (isC isR : List Nat) (hC : isC.map (fun i => wW[i]?) = wc.map some) (hR : isR.map (fun i => wW[i]?) = (va_pk wW isR).map some) (hnC : va_nd isC = true) (hnR : va_nd isR = true) (hdis : isR.all (fun i => !isC.contains i) = true) (q0 ci : Nat) {q : vw_C} {fs : List Value} (hc : vwCl[ci]? = some q) (he : wc[q0]? = some (b, .inr (ci, fs))) (hq : q.1 = C) 
    (hn : As.length = n) (hsize : ls.size = nL) (hst : st0 = As.reverse ++ .ref b :: rest) (hWd : (rest.map fun v => v.category).sum ≤ 8) (hdg : decode cc pc = .ok (.invokevirtual index, 3)) (hf : cells + mc ≤ R.cells ∧ slots + ms ≤ R.slots)
    (kk : ∀ (u : S) (H1 : Heap) (locs1 : List Loc), post u → va_P D vwCl (va_pk wW isR ++ w1 u) H1 → va_D A (va_pk wW isR ++ w1 u) → va_S A s.heap H1 locs1 → W p l e R s m args below meth c H1 locs1 (cells + mc) (slots + ms) Q (F0 m (pc + 3) ls rest)) : W p l e R s m args below meth c H locs cells slots Q (F0 m pc ls st0) := by
  have hFc := va_free (wc := wc) hD hS hA isC hC
  have hPc : va_P D vwCl wc H := hP.sub isC (va_pm hC)
  have hDc : va_D A wc := hD.sub isC hnC hC
  have hdis2 : ∀ i ∈ isR, i ∉ isC := fun i h => by have h2 := List.all_eq_true.mp hdis i h; simpa using h2
  have hrc : ∃ cell : Cell, H[b]? = some cell ∧ cell.vm.isStatics = false ∧ s.vm.findClass C = some cell.cls := by
    rw [← hq]
    exact va_recv hE.1 hPc hc he
  refine va_callv (va_runV (As := As) (rest := rest) F hM cw ⟨pcW_blind, hrc, fun U hU hW => ⟨rfl, by rw [hU], by rw [hU]; exact hPc, hDc.weaken (fun _ _ _ _ => trivial), en_call hE hS hFc hU hW⟩⟩ rfl hn hsize hst (lv_room hWd) hdg hf) hS (fun q _ h => hFc q h) hFc (fun u t' H1 locs1 ht hvm hw hB hz1 hk1 hS1 => ?_)
  obtain ⟨hP1, hD1⟩ := hB
  rw [ht] at hP1
  obtain ⟨hP2, hD2⟩ := va_join (wr := va_pk wW isR) (w1 := w1 u) hP hD isC isR hC hR hnR hdis2 hk1 hFc hP1 hD1
  exact kk u H1 locs1 hw hP2 hD2 hS1
theorem k_Si {post : Int32 → S → Prop} {w1 : S → va_W} (F : CallFix p m c cc nL s args Ts own) (hM : Met l y ws rm (va_Pc As (pcW D cI cZ t wc H.size)) (va_Qi post (fun u t' => bW D (va_A wc H.size) (w1 u) t') (va_A wc H.size)) mc ms (va_A wc H.size)) (cw : CallB R s args own index y bytes maxL ret ws rm mc ms n ∧ (Cond.static y).before args s = true)
    (hE : en D cI cZ t A s s.heap) (hP : va_P D vwCl wW H) (hD : va_D A wW) (hS : va_S A s.heap H locs) (hA : ∀ q, s.heap.size ≤ q → A q) (isC isR : List Nat) (hC : isC.map (fun i => wW[i]?) = wc.map some) (hR : isR.map (fun i => wW[i]?) = (va_pk wW isR).map some) (hnC : va_nd isC = true) (hnR : va_nd isR = true) (hdis : isR.all (fun i => !isC.contains i) = true) 
    (hn : As.length = n) (hsize : ls.size = nL) (hst : st0 = As.reverse ++ rest) (hWd : (rest.map fun v => v.category).sum ≤ 8) (hdg : decode cc pc = .ok (.invokestatic index, 3)) (hf : cells + mc ≤ R.cells ∧ slots + ms ≤ R.slots)
    (kk : ∀ (r : Int32) (u : S) (H1 : Heap) (locs1 : List Loc), post r u → va_P D vwCl (va_pk wW isR ++ w1 u) H1 → va_D A (va_pk wW isR ++ w1 u) → va_S A s.heap H1 locs1 → W p l e R s m args below meth c H1 locs1 (cells + mc) (slots + ms) Q (F0 m (pc + 3) ls (.int r :: rest))) : W p l e R s m args below meth c H locs cells slots Q (F0 m pc ls st0) := by
  have hFc := va_free (wc := wc) hD hS hA isC hC
  have hPc : va_P D vwCl wc H := hP.sub isC (va_pm hC)
  have hDc : va_D A wc := hD.sub isC hnC hC
  have hdis2 : ∀ i ∈ isR, i ∉ isC := fun i h => by have h2 := List.all_eq_true.mp hdis i h; simpa using h2
  refine va_calli (va_runS (As := As) (rest := rest) F hM cw ⟨pcW_blind, fun U hU hW => ⟨rfl, by rw [hU], by rw [hU]; exact hPc, hDc.weaken (fun _ _ _ _ => trivial), en_call hE hS hFc hU hW⟩⟩ rfl hn hsize hst (lv_room hWd) hdg hf) hS (fun q _ h => hFc q h) hFc (fun r u t' H1 locs1 ht hvm hw hB hz1 hk1 hS1 => ?_)
  obtain ⟨hP1, hD1⟩ := hB
  rw [ht] at hP1
  obtain ⟨hP2, hD2⟩ := va_join (wr := va_pk wW isR) (w1 := w1 u) hP hD isC isR hC hR hnR hdis2 hk1 hFc hP1 hD1
  exact kk r u H1 locs1 hw hP2 hD2 hS1
theorem k_SNi {post : Int32 → S → Prop} {w1 : S → va_W} (F : CallFix p m c cc nL s args Ts own) (hM : Met l y ws rm (va_Pc As (pcW D cI cZ t wc H.size)) (va_Qi post (fun u t' => bW D (va_A wc H.size) (w1 u) t') (va_A wc H.size)) mc ms (va_A wc H.size)) (cw : va_CN R s args own index y host bytes maxL ret ws rm mc ms n ∧ (Cond.static y).before args s = true ∧ True)
    (hE : en D cI cZ t A s s.heap) (hP : va_P D vwCl wW H) (hD : va_D A wW) (hS : va_S A s.heap H locs) (hA : ∀ q, s.heap.size ≤ q → A q) (isC isR : List Nat) (hC : isC.map (fun i => wW[i]?) = wc.map some) (hR : isR.map (fun i => wW[i]?) = (va_pk wW isR).map some) (hnC : va_nd isC = true) (hnR : va_nd isR = true) (hdis : isR.all (fun i => !isC.contains i) = true) 
    (hn : As.length = n) (hsize : ls.size = nL) (hst : st0 = As.reverse ++ rest) (hWd : (rest.map fun v => v.category).sum ≤ 8) (hdg : decode cc pc = .ok (.invokestatic index, 3)) (hf : cells + mc ≤ R.cells ∧ slots + ms ≤ R.slots)
    (kk : ∀ (r : Int32) (u : S) (H1 : Heap) (locs1 : List Loc), post r u → va_P D vwCl (va_pk wW isR ++ w1 u) H1 → va_D A (va_pk wW isR ++ w1 u) → va_S A s.heap H1 locs1 → W p l e R s m args below meth c H1 locs1 (cells + mc) (slots + ms) Q (F0 m (pc + 3) ls (.int r :: rest))) : W p l e R s m args below meth c H locs cells slots Q (F0 m pc ls st0) := by
  have hFc := va_free (wc := wc) hD hS hA isC hC
  have hPc : va_P D vwCl wc H := hP.sub isC (va_pm hC)
  have hDc : va_D A wc := hD.sub isC hnC hC
  have hdis2 : ∀ i ∈ isR, i ∉ isC := fun i h => by have h2 := List.all_eq_true.mp hdis i h; simpa using h2
  refine va_calli (va_runSN (As := As) (rest := rest) F hM cw ⟨pcW_blind, fun U hU hW => ⟨rfl, by rw [hU], by rw [hU]; exact hPc, hDc.weaken (fun _ _ _ _ => trivial), en_call hE hS hFc hU hW⟩⟩ rfl hn hsize hst (lv_room hWd) hdg hf) hS (fun q _ h => hFc q h) hFc (fun r u t' H1 locs1 ht hvm hw hB hz1 hk1 hS1 => ?_)
  obtain ⟨hP1, hD1⟩ := hB
  rw [ht] at hP1
  obtain ⟨hP2, hD2⟩ := va_join (wr := va_pk wW isR) (w1 := w1 u) hP hD isC isR hC hR hnR hdis2 hk1 hFc hP1 hD1
  exact kk r u H1 locs1 hw hP2 hD2 hS1
theorem k_Iv {post : S → Prop} {w1 : S → va_W} (F : CallFix p m c cc nL s args Ts own) (hM : Met l y ws rm (va_Pc (.ref b :: As) (pcW D cI cZ t wc H.size)) (va_Qv post (fun u t' => bW D (va_A wc H.size) (w1 u) t') (va_A wc H.size)) mc ms (va_A wc H.size)) (cw : CallB R s args own index y bytes maxL none ws rm mc ms n ∧ y.name = "<init>" ∧ (Cond.instanceMethod y).before args s = true)
    (hE : en D cI cZ t A s s.heap) (hP : va_P D vwCl wW H) (hD : va_D A wW) (hS : va_S A s.heap H locs) (hA : ∀ q, s.heap.size ≤ q → A q) (isC isR : List Nat) (hC : isC.map (fun i => wW[i]?) = wc.map some) (hR : isR.map (fun i => wW[i]?) = (va_pk wW isR).map some) (hnC : va_nd isC = true) (hnR : va_nd isR = true) (hdis : isR.all (fun i => !isC.contains i) = true) 
    (hn : As.length = n) (hsize : ls.size = nL) (hst : st0 = As.reverse ++ .ref b :: rest) (hWd : (rest.map fun v => v.category).sum ≤ 8) (hdg : decode cc pc = .ok (.invokespecial index, 3)) (hf : cells + mc ≤ R.cells ∧ slots + ms ≤ R.slots)
    (kk : ∀ (u : S) (H1 : Heap) (locs1 : List Loc), post u → va_P D vwCl (va_pk wW isR ++ w1 u) H1 → va_D A (va_pk wW isR ++ w1 u) → va_S A s.heap H1 locs1 → W p l e R s m args below meth c H1 locs1 (cells + mc) (slots + ms) Q (F0 m (pc + 3) ls rest)) : W p l e R s m args below meth c H locs cells slots Q (F0 m pc ls st0) := by
  have hFc := va_free (wc := wc) hD hS hA isC hC
  have hPc : va_P D vwCl wc H := hP.sub isC (va_pm hC)
  have hDc : va_D A wc := hD.sub isC hnC hC
  have hdis2 : ∀ i ∈ isR, i ∉ isC := fun i h => by have h2 := List.all_eq_true.mp hdis i h; simpa using h2
  refine va_callv (va_runI (As := As) (rest := rest) F hM cw ⟨pcW_blind, fun U hU hW => ⟨rfl, by rw [hU], by rw [hU]; exact hPc, hDc.weaken (fun _ _ _ _ => trivial), en_call hE hS hFc hU hW⟩⟩ rfl hn hsize hst (lv_room hWd) hdg hf) hS (fun q _ h => hFc q h) hFc (fun u t' H1 locs1 ht hvm hw hB hz1 hk1 hS1 => ?_)
  obtain ⟨hP1, hD1⟩ := hB
  rw [ht] at hP1
  obtain ⟨hP2, hD2⟩ := va_join (wr := va_pk wW isR) (w1 := w1 u) hP hD isC isR hC hR hnR hdis2 hk1 hFc hP1 hD1
  exact kk u H1 locs1 hw hP2 hD2 hS1
theorem k_INv {post : S → Prop} {w1 : S → va_W} (F : CallFix p m c cc nL s args Ts own) (hM : Met l y ws rm (va_Pc (.ref b :: As) (pcW D cI cZ t wc H.size)) (va_Qv post (fun u t' => bW D (va_A wc H.size) (w1 u) t') (va_A wc H.size)) mc ms (va_A wc H.size)) (cw : va_CN R s args own index y host bytes maxL none ws rm mc ms n ∧ y.name = "<init>" ∧ (Cond.instanceMethod y).before args s = true)
    (hE : en D cI cZ t A s s.heap) (hP : va_P D vwCl wW H) (hD : va_D A wW) (hS : va_S A s.heap H locs) (hA : ∀ q, s.heap.size ≤ q → A q) (isC isR : List Nat) (hC : isC.map (fun i => wW[i]?) = wc.map some) (hR : isR.map (fun i => wW[i]?) = (va_pk wW isR).map some) (hnC : va_nd isC = true) (hnR : va_nd isR = true) (hdis : isR.all (fun i => !isC.contains i) = true) 
    (hn : As.length = n) (hsize : ls.size = nL) (hst : st0 = As.reverse ++ .ref b :: rest) (hWd : (rest.map fun v => v.category).sum ≤ 8) (hdg : decode cc pc = .ok (.invokespecial index, 3)) (hf : cells + mc ≤ R.cells ∧ slots + ms ≤ R.slots)
    (kk : ∀ (u : S) (H1 : Heap) (locs1 : List Loc), post u → va_P D vwCl (va_pk wW isR ++ w1 u) H1 → va_D A (va_pk wW isR ++ w1 u) → va_S A s.heap H1 locs1 → W p l e R s m args below meth c H1 locs1 (cells + mc) (slots + ms) Q (F0 m (pc + 3) ls rest)) : W p l e R s m args below meth c H locs cells slots Q (F0 m pc ls st0) := by
  have hFc := va_free (wc := wc) hD hS hA isC hC
  have hPc : va_P D vwCl wc H := hP.sub isC (va_pm hC)
  have hDc : va_D A wc := hD.sub isC hnC hC
  have hdis2 : ∀ i ∈ isR, i ∉ isC := fun i h => by have h2 := List.all_eq_true.mp hdis i h; simpa using h2
  refine va_callv (va_runIN (As := As) (rest := rest) F hM cw ⟨pcW_blind, fun U hU hW => ⟨rfl, by rw [hU], by rw [hU]; exact hPc, hDc.weaken (fun _ _ _ _ => trivial), en_call hE hS hFc hU hW⟩⟩ rfl hn hsize hst (lv_room hWd) hdg hf) hS (fun q _ h => hFc q h) hFc (fun u t' H1 locs1 ht hvm hw hB hz1 hk1 hS1 => ?_)
  obtain ⟨hP1, hD1⟩ := hB
  rw [ht] at hP1
  obtain ⟨hP2, hD2⟩ := va_join (wr := va_pk wW isR) (w1 := w1 u) hP hD isC isR hC hR hnR hdis2 hk1 hFc hP1 hD1
  exact kk u H1 locs1 hw hP2 hD2 hS1
theorem k_iret {post : Int32 → S → Prop} {w1 : S → va_W} {v : Int32} (u : S) (hQ : Q = MQ below (va_Qi post (fun u t' => bW D A (w1 u) t') A) args s mc ms A) (hx : p.tables.exec = Jvm.exec) (hb : c.code = cc) (hr : meth.sig.returnType = some .int) (hlocks : meth.locks = false) (hp : post v u) (hP : va_P D vwCl (w1 u) H) (hD : va_D A (w1 u)) (hS : va_S A s.heap H locs) (hcm : cells ≤ mc) (hsm : slots ≤ ms) (hdg : decode cc pc = .ok (.ireturn, 1)) : W p l e R s m args below meth c H locs cells slots Q (F0 m pc ls [.int v]) := by
  subst hQ
  refine W.widen (k := mc) (n := ms) hcm hsm ?_
  exact W.iret hx hb hr (fun t' ht hW => ⟨⟨v, u, rfl, hp, by rw [ht]; exact hP, hD⟩, hS.F ht⟩) hS.2.2 hdg hlocks
theorem k_zret {post : Int32 → S → Prop} {w1 : S → va_W} {v : Int32} (u : S) (hQ : Q = MQ below (va_Qi post (fun u t' => bW D A (w1 u) t') A) args s mc ms A) (hx : p.tables.exec = Jvm.exec) (hb : c.code = cc) (hr : meth.sig.returnType = some .boolean) (hlocks : meth.locks = false) (hz : v = 0 ∨ v = 1) (hp : post v u) (hP : va_P D vwCl (w1 u) H) (hD : va_D A (w1 u)) (hS : va_S A s.heap H locs) (hcm : cells ≤ mc) (hsm : slots ≤ ms) (hdg : decode cc pc = .ok (.ireturn, 1)) : W p l e R s m args below meth c H locs cells slots Q (F0 m pc ls [.int v]) := by
  subst hQ
  refine W.widen (k := mc) (n := ms) hcm hsm ?_
  exact W.zret hx hb hr (zb_n hz) (fun t' ht hW => ⟨⟨v, u, rfl, hp, by rw [ht]; exact hP, hD⟩, hS.F ht⟩) hS.2.2 hdg hlocks
theorem k_vret {post : S → Prop} {w1 : S → va_W} (u : S) (hQ : Q = MQ below (va_Qv post (fun u t' => bW D A (w1 u) t') A) args s mc ms A) (hx : p.tables.exec = Jvm.exec) (hb : c.code = cc) (hr : meth.sig.returnType = none) (hlocks : meth.locks = false) (hp : post u) (hP : va_P D vwCl (w1 u) H) (hD : va_D A (w1 u)) (hS : va_S A s.heap H locs) (hcm : cells ≤ mc) (hsm : slots ≤ ms) (hdg : decode cc pc = .ok (.return_, 1)) : W p l e R s m args below meth c H locs cells slots Q (F0 m pc ls []) := by
  subst hQ
  refine W.widen (k := mc) (n := ms) hcm hsm ?_
  exact W.vret hx hb hr (fun t' ht hW => ⟨⟨u, rfl, hp, by rw [ht]; exact hP, hD⟩, hS.F ht⟩) hS.2.2 hdg hlocks
end KC
