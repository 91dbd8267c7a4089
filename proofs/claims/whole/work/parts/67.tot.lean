section TOT
abbrev sT3N : Type := Nat × Nat × Nat
def crN (x : Nat → Int32) : Nat := (x 4).toNatClampNeg
def mineN (k : Nat) : Nat := if k = 0 then 0 else 2 * k - 1
/-- one note more by a hand: the new end and what it costs -/
def trN (x : Nat → Int32) (k : Nat) (st : sT3N) (h : Nat) : Option (sT3N × Nat) :=
  if canB x k h (if h = st.1 then mineN k else st.2.1) (if h = st.1 then st.2.1 else mineN k) = true then
    (if st.2.2 + (if crsB x k h (othN x k (if h = st.1 then st.2.1 else mineN k)) = true then 1 else 0) ≤ crN x then
      some ((h, othN x k (if h = st.1 then st.2.1 else mineN k), st.2.2 + (if crsB x k h (othN x k (if h = st.1 then st.2.1 else mineN k)) = true then 1 else 0)), awkN x k h (decide (k ≠ 0 ∧ h = st.1)) (crsB x k h (othN x k (if h = st.1 then st.2.1 else mineN k))))
    else none)
  else none
def nxt (f : sT3N → vT → vT) (o : Option (sT3N × Nat)) (v : vT) (h : Nat) : vT := match o with
  | none => none
  | some (st, a) => f st (act v a h)
/-- all ways to go on for d notes from note k, out of an end with a value -/
def tot (x : Nat → Int32) : Nat → Nat → sT3N → vT → vT
  | 0, _, _, v => v
  | d + 1, k, st, v => mrg (nxt (tot x d (k + 1)) (trN x k st 0) v 0) (nxt (tot x d (k + 1)) (trN x k st 1) v 1)
theorem tot_s (x : Nat → Int32) (d k : Nat) (st : sT3N) (v : vT) : tot x (d + 1) k st v = mrg (nxt (tot x d (k + 1)) (trN x k st 0) v 0) (nxt (tot x d (k + 1)) (trN x k st 1) v 1) := rfl
theorem tot_n (x : Nat → Int32) : ∀ d k st, tot x d k st none = none := by
  intro d
  induction d with
  | zero => intro k st; rfl
  | succ d ih =>
    intro k st
    rw [tot_s]
    have e : ∀ o h, nxt (tot x d (k + 1)) o none h = none := by
      intro o h
      cases o with
      | none => rfl
      | some p => exact ih (k + 1) p.1
    rw [e, e]
    rfl
theorem tot_m (x : Nat → Int32) : ∀ d k st u v, tot x d k st (mrg u v) = mrg (tot x d k st u) (tot x d k st v) := by
  intro d
  induction d with
  | zero => intro k st u v; rfl
  | succ d ih =>
    intro k st u v
    rw [tot_s, tot_s, tot_s]
    have e : ∀ o h, nxt (tot x d (k + 1)) o (mrg u v) h = mrg (nxt (tot x d (k + 1)) o u h) (nxt (tot x d (k + 1)) o v h) := by
      intro o h
      cases o with
      | none => rfl
      | some p =>
        show tot x d (k + 1) p.1 (act (mrg u v) p.2 h) = _
        rw [act_m, ih]
        rfl
    rw [e, e]
    generalize nxt (tot x d (k + 1)) (trN x k st 0) u 0 = A
    generalize nxt (tot x d (k + 1)) (trN x k st 0) v 0 = B
    generalize nxt (tot x d (k + 1)) (trN x k st 1) u 1 = C
    generalize nxt (tot x d (k + 1)) (trN x k st 1) v 1 = E
    rw [mrg_a, mrg_a, ← mrg_a B C E, mrg_c B C, mrg_a C B E]
def shv (d c f w : Nat) (u : vT) : vT := match u with
  | none => none
  | some y => some (c + y.1, f * 2 ^ d + y.2.1, w * y.2.2)
theorem shv_m (d c f w : Nat) (u v : vT) : shv d c f w (mrg u v) = mrg (shv d c f w u) (shv d c f w v) := by
  cases u with
  | none => rw [mrg_0]; exact (mrg_0 _).symm
  | some y =>
    cases v with
    | none => rw [mrg_n]; rfl
    | some z =>
      rcases Nat.lt_trichotomy y.1 z.1 with h | h | h
      · rw [mrg_lt h]
        exact (mrg_lt (show c + y.1 < c + z.1 by omega)).symm
      · rw [mrg_eq h]
        refine Eq.trans ?_ (mrg_eq (show c + y.1 = c + z.1 by omega)).symm
        show some (c + y.1, f * 2 ^ d + min y.2.1 z.2.1, w * (y.2.2 + z.2.2)) = some (c + y.1, min (f * 2 ^ d + y.2.1) (f * 2 ^ d + z.2.1), w * y.2.2 + w * z.2.2)
        rw [Nat.mul_add]
        have e : f * 2 ^ d + min y.2.1 z.2.1 = min (f * 2 ^ d + y.2.1) (f * 2 ^ d + z.2.1) := by omega
        rw [e]
      · rw [mrg_gt h]
        exact (mrg_gt (show c + z.1 < c + y.1 by omega)).symm
theorem tot_sh (x : Nat → Int32) : ∀ d k st c f w, tot x d k st (some (c, f, w)) = shv d c f w (tot x d k st (some (0, 0, 1))) := by
  intro d
  induction d with
  | zero =>
    intro k st c f w
    show some (c, f, w) = some (c + 0, f * 2 ^ 0 + 0, w * 1)
    rw [Nat.add_zero, Nat.pow_zero, Nat.mul_one, Nat.add_zero, Nat.mul_one]
  | succ d ih =>
    intro k st c f w
    rw [tot_s, tot_s, shv_m]
    have e : ∀ o h, nxt (tot x d (k + 1)) o (some (c, f, w)) h = shv (d + 1) c f w (nxt (tot x d (k + 1)) o (some (0, 0, 1)) h) := by
      intro o h
      cases o with
      | none => rfl
      | some p =>
        show tot x d (k + 1) p.1 (some (c + p.2, 2 * f + h, w)) = shv (d + 1) c f w (tot x d (k + 1) p.1 (some (0 + p.2, 2 * 0 + h, 1)))
        rw [ih (k + 1) p.1 (c + p.2) (2 * f + h) w, ih (k + 1) p.1 (0 + p.2) (2 * 0 + h) 1]
        cases tot x d (k + 1) p.1 (some (0, 0, 1)) with
        | none => rfl
        | some y =>
          show some (c + p.2 + y.1, (2 * f + h) * 2 ^ d + y.2.1, w * y.2.2) = some (c + (0 + p.2 + y.1), f * 2 ^ (d + 1) + ((2 * 0 + h) * 2 ^ d + y.2.1), w * (1 * y.2.2))
          have e1 : (2 * f + h) * 2 ^ d = f * 2 ^ (d + 1) + (2 * 0 + h) * 2 ^ d := by
            rw [Nat.add_mul, Nat.pow_succ, Nat.mul_comm 2 f, Nat.mul_assoc, Nat.mul_comm 2 (2 ^ d), Nat.mul_zero, Nat.zero_add]
          rw [e1, Nat.one_mul, Nat.zero_add]
          congr 2
          · omega
          · congr 1
            omega
    rw [e, e]
def T1 (x : Nat → Int32) (d k : Nat) (st : sT3N) : vT := tot x d k st (some (0, 0, 1))
theorem awk_b (x : Nat → Int32) (k h : Nat) (s c : Bool) : awkN x k h s c ≤ 9 := by
  unfold awkN
  split <;> split <;> split <;> (try split) <;> (try split) <;> omega
/-- bounds of a value: price, first, ways -/
def vbd (d : Nat) (u : vT) : Prop := ∀ y, u = some y → y.1 ≤ 9 * d ∧ y.2.1 < 2 ^ d ∧ 0 < y.2.2 ∧ y.2.2 ≤ 2 ^ d
theorem trN_a {x : Nat → Int32} {k h : Nat} {st st2 : sT3N} {a : Nat} (e : trN x k st h = some (st2, a)) : a ≤ 9 ∧ st2.1 = h := by
  unfold trN at e
  generalize (if h = st.1 then mineN k else st.2.1) = ow at e
  generalize (if h = st.1 then st.2.1 else mineN k) = ot at e
  generalize crsB x k h (othN x k ot) = cb at e
  by_cases c1 : canB x k h ow ot = true
  · rw [if_pos c1] at e
    by_cases c2 : st.2.2 + (if cb = true then 1 else 0) ≤ crN x
    · rw [if_pos c2] at e
      cases e
      exact ⟨awk_b _ _ _ _ _, rfl⟩
    · rw [if_neg c2] at e
      cases e
  · rw [if_neg c1] at e
    cases e
theorem mrg_some {u v : vT} {y : Nat × Nat × Nat} (h : mrg u v = some y) : (u = some y ∨ v = some y) ∨ ∃ p r, u = some p ∧ v = some r ∧ p.1 = r.1 ∧ y = (p.1, min p.2.1 r.2.1, p.2.2 + r.2.2) := by
  cases u with
  | none => rw [mrg_0] at h; exact Or.inl (Or.inr h)
  | some p =>
    cases v with
    | none => rw [mrg_n] at h; exact Or.inl (Or.inl h)
    | some r =>
      rcases Nat.lt_trichotomy p.1 r.1 with q | q | q
      · rw [mrg_lt q] at h; exact Or.inl (Or.inl h)
      · rw [mrg_eq q] at h
        cases h
        exact Or.inr ⟨p, r, rfl, rfl, q, rfl⟩
      · rw [mrg_gt q] at h; exact Or.inl (Or.inr h)
theorem T1_b (x : Nat → Int32) : ∀ d k st, vbd d (T1 x d k st) := by
  intro d
  induction d with
  | zero =>
    intro k st y h
    cases h
    exact ⟨by omega, by decide, by decide, by decide⟩
  | succ d ih =>
    intro k st
    have hb : ∀ h, h < 2 → ∀ y, nxt (tot x d (k + 1)) (trN x k st h) (some (0, 0, 1)) h = some y → y.1 ≤ 9 * (d + 1) ∧ (h * 2 ^ d ≤ y.2.1 ∧ y.2.1 < (h + 1) * 2 ^ d) ∧ 0 < y.2.2 ∧ y.2.2 ≤ 2 ^ d := by
      intro h hh y hy
      cases ht : trN x k st h with
      | none => rw [ht] at hy; cases hy
      | some p =>
        rw [ht] at hy
        obtain ⟨st2, a⟩ := p
        obtain ⟨ha, -⟩ := trN_a ht
        have hy' : tot x d (k + 1) st2 (some (0 + a, 2 * 0 + h, 1)) = some y := hy
        rw [tot_sh] at hy'
        cases hT : tot x d (k + 1) st2 (some (0, 0, 1)) with
        | none => rw [hT] at hy'; cases hy'
        | some z =>
          rw [hT] at hy'
          obtain ⟨z1, z2, z3, z4⟩ := ih (k + 1) st2 z hT
          have e : some (0 + a + z.1, (2 * 0 + h) * 2 ^ d + z.2.1, 1 * z.2.2) = some y := hy'
          cases e
          dsimp only
          refine ⟨by omega, ⟨by rw [Nat.mul_zero, Nat.zero_add]; omega, ?_⟩, by omega, by omega⟩
          rw [Nat.mul_zero, Nat.zero_add, Nat.add_mul, Nat.one_mul]
          omega
    intro y h
    have h' : mrg (nxt (tot x d (k + 1)) (trN x k st 0) (some (0, 0, 1)) 0) (nxt (tot x d (k + 1)) (trN x k st 1) (some (0, 0, 1)) 1) = some y := h
    have e2 : 2 ^ (d + 1) = 2 * 2 ^ d := by rw [Nat.pow_succ, Nat.mul_comm]
    rcases mrg_some h' with (q | q) | ⟨p, r, q1, q2, q3, rfl⟩
    · obtain ⟨a, b, c, e⟩ := hb 0 (by omega) y q
      exact ⟨a, by omega, c, by omega⟩
    · obtain ⟨a, b, c, e⟩ := hb 1 (by omega) y q
      exact ⟨a, by omega, c, by omega⟩
    · obtain ⟨a, b, c, e⟩ := hb 0 (by omega) p q1
      obtain ⟨a2, b2, c2, e3⟩ := hb 1 (by omega) r q2
      dsimp only
      exact ⟨a, by omega, by omega, by omega⟩
def cst (u : vT) : Nat := match u with
  | none => 1000000
  | some y => y.1
def wys (u : vT) : Nat := match u with
  | none => 0
  | some y => y.2.2
end TOT
