/-! numbers: nI for naturals, zI for integers -/
def zI (z : Int) : Int32 := Int32.ofInt z
theorem zI_toInt {z : Int} (h1 : -2147483648 ≤ z) (h2 : z < 2147483648) : (zI z).toInt = z := by
  unfold zI
  rw [Int32.toInt_ofInt]
  have e : (Int32.size : Int) = 4294967296 := rfl
  exact Int.bmod_eq_of_le (by omega) (by omega)
theorem zI_self (x : Int32) : zI x.toInt = x := Int32.ofInt_toInt x
theorem zI_nI (n : Nat) : zI (n : Int) = nI n := by
  first
    | rfl
    | exact Int32.toBitVec_inj.mp (BitVec.ofInt_natCast 32 n)
    | (apply Int32.toBitVec_inj.mp; simp [zI, nI])
theorem zI_add (a b : Int) : zI a + zI b = zI (a + b) := (Int32.ofInt_add a b).symm
theorem zI_sub (a b : Int) : zI a - zI b = zI (a - b) := (Int32.ofInt_sub a b).symm
theorem zI_mul (a b : Int) : zI a * zI b = zI (a * b) := (Int32.ofInt_mul a b).symm
theorem rng (x : Int32) : -2147483648 ≤ x.toInt ∧ x.toInt < 2147483648 := ⟨Int32.le_toInt x, Int32.toInt_lt x⟩
theorem zI_lt {a b : Int} (h1 : -2147483648 ≤ a) (h2 : a < 2147483648) (h3 : -2147483648 ≤ b) (h4 : b < 2147483648) : zI a < zI b ↔ a < b := by
  rw [Int32.lt_iff_toInt_lt, zI_toInt h1 h2, zI_toInt h3 h4]
theorem zI_le {a b : Int} (h1 : -2147483648 ≤ a) (h2 : a < 2147483648) (h3 : -2147483648 ≤ b) (h4 : b < 2147483648) : zI a ≤ zI b ↔ a ≤ b := by
  rw [Int32.le_iff_toInt_le, zI_toInt h1 h2, zI_toInt h3 h4]
theorem zI_eq {a b : Int} (h1 : -2147483648 ≤ a) (h2 : a < 2147483648) (h3 : -2147483648 ≤ b) (h4 : b < 2147483648) : zI a = zI b ↔ a = b := by
  constructor
  · intro h
    have e := congrArg Int32.toInt h
    rwa [zI_toInt h1 h2, zI_toInt h3 h4] at e
  · intro h
    rw [h]
theorem iof {x : Int32} {n : Nat} (h : x.toInt = (n : Int)) : x = nI n := by
  rw [← zI_nI, ← h, zI_self]
theorem ito {n : Nat} (h : n < 2147483648) : (nI n).toInt = (n : Int) := nI_toInt h
/-- a number between bounds is a natural's -/
theorem inat {x : Int32} {lo hi : Int} (h : lo ≤ x.toInt ∧ x.toInt ≤ hi) (h0 : 0 ≤ lo) : ∃ j : Nat, x = nI j ∧ lo ≤ (j : Int) ∧ (j : Int) ≤ hi ∧ x.toInt = (j : Int) := by
  have e : x.toInt = ((x.toInt.toNat : Nat) : Int) := by omega
  exact ⟨x.toInt.toNat, iof e, by omega, by omega, e⟩
/-! reads and writes at a natural place -/
theorem vp_n {j n : Nat} (h : j < n) (hn : n < 2147483648) : ¬ (nI j < 0 ∨ n ≤ (nI j).toNatClampNeg) := vp_in_nI h hn
theorem rd_n {α : Type} {n j : Nat} {f : Nat → Int32} {k : Int32 → Option α} (h : j < n) (hn : n < 2147483648) : rd n f (nI j) k = k (f j) := by
  unfold rd
  rw [if_neg (vp_n h hn), nI_clamp (by omega)]
theorem ck_n {α : Type} {n j : Nat} {k : Option α} (h : j < n) (hn : n < 2147483648) : ck n (nI j) k = k := by
  unfold ck
  rw [if_neg (vp_n h hn)]
theorem cl_n {j : Nat} (h : j < 2147483648) : (nI j).toNatClampNeg = j := nI_clamp h
theorem nm_e1 {α : Type} (e : Int32) (k : Int32 → Option α) : nm e k = k e := rfl
theorem zb_0 {α : Type} (k : Option α) : zb 0 k = k := rfl
theorem zb_1 {α : Type} (k : Option α) : zb 1 k = k := rfl
/-- literals as naturals -/
theorem pl_0 : (0 : Int32) = nI 0 := rfl
theorem pl_n (n : Nat) : (OfNat.ofNat n : Int32) = nI n := rfl
theorem sub_n {a b : Nat} (h : b ≤ a) : nI a - nI b = nI (a - b) := pk_sub h
theorem add_n (a b : Nat) : nI a + nI b = nI (a + b) := nI_add a b
theorem mul_n (a b : Nat) : nI a * nI b = nI (a * b) := pk_mul a b
theorem upd_s {f : Nat → Int32} {k : Nat} {x : Int32} : upd f k x k = x := pk_us
theorem upd_n {f : Nat → Int32} {k j : Nat} {x : Int32} (h : j ≠ k) : upd f k x j = f j := pk_un h
theorem upd_d (f : Nat → Int32) (k j : Nat) (x : Int32) : upd f k x j = if j = k then x else f j := rfl
theorem ltI (a b : Int32) : a < b ↔ a.toInt < b.toInt := Int32.lt_iff_toInt_lt
theorem leI (a b : Int32) : a ≤ b ↔ a.toInt ≤ b.toInt := Int32.le_iff_toInt_le
theorem eqI (a b : Int32) : a = b ↔ a.toInt = b.toInt := Int32.toInt_inj.symm
theorem bit_b (c : Prop) [Decidable c] : (if c then (1 : Int32) else 0) = 0 ↔ ¬ c := by
  by_cases h : c
  · rw [if_pos h]; exact ⟨fun q => absurd q (by decide), fun q => absurd h q⟩
  · rw [if_neg h]; exact ⟨fun _ => h, fun _ => rfl⟩
theorem ite_some {α : Type} (c : Prop) [Decidable c] (a b : α) : (if c then some a else some b) = some (if c then a else b) := by
  by_cases h : c
  · rw [if_pos h, if_pos h]
  · rw [if_neg h, if_neg h]
