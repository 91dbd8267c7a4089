section PATH
/-! bits -/
theorem sh_u : ∀ k : Fin 32, (((nI k.val).toUInt32 &&& Int32.toUInt32 31).toBitVec % 32).toNat = k.val := by decide +kernel
theorem sh_s : ∀ k : Fin 32, ((nI k.val &&& 31 : Int32).toBitVec.smod 32).toNat = k.val := by decide +kernel
theorem ush_n {v k : Nat} (hv : v < 2 ^ 32) (hk : k < 32) : jush (nI v) (nI k) = nI (v / 2 ^ k) := pk_ushrN hv (nI k) k (sh_u ⟨k, hk⟩)
theorem shr_n {v k : Nat} (hv : v < 2 ^ 31) (hk : k < 32) : jshr (nI v) (nI k) = nI (v / 2 ^ k) := pk_shrN hv (nI k &&& 31) k (sh_s ⟨k, hk⟩)
theorem shl_n {v k : Nat} (hk : k < 32) (h : v * 2 ^ k < 2 ^ 32) : jshl (nI v) (nI k) = nI (v * 2 ^ k) := pk_shlN (nI k &&& 31) k (sh_s ⟨k, hk⟩) h
theorem and_1 {v : Nat} (hv : v < 2 ^ 32) : nI v &&& 1 = nI (v % 2) := pk_andN (m := 1) hv 1 (by decide)
theorem or_n {a b k : Nat} (ha : a < 2 ^ k) (hb : b < 2) (hk : k < 31) : nI a ||| nI (b * 2 ^ k) = nI (a + b * 2 ^ k) := by
  have h31 : 2 ^ k ≤ 2 ^ 30 := Nat.pow_le_pow_right (by decide) (by omega)
  have h30 : 2 ^ 30 = 1073741824 := by decide
  have hb2 : b * 2 ^ k ≤ 2 ^ k := by
    rcases (show b = 0 ∨ b = 1 by omega) with q | q <;> subst q <;> omega
  have e : (nI a ||| nI (b * 2 ^ k)).toBitVec.toNat = (nI (a + b * 2 ^ k)).toBitVec.toNat := by
    rw [pk_tn (by omega)]
    show ((nI a).toBitVec ||| (nI (b * 2 ^ k)).toBitVec).toNat = _
    rw [BitVec.toNat_or, pk_tn (by omega), pk_tn (by omega), Nat.or_comm, Nat.mul_comm, ← Nat.two_pow_add_eq_or_of_lt ha]
    omega
  exact Int32.toBitVec_inj.mp (BitVec.eq_of_toNat_eq e)
/-- the hand of a note in a number with note 0 highest -/
def bt (F n k : Nat) : Nat := F / 2 ^ (n - 1 - k) % 2
theorem bt_2 (F n k : Nat) : bt F n k < 2 := Nat.mod_lt _ (by decide)
def rvN (F n : Nat) : Nat → Nat
  | 0 => 0
  | k + 1 => rvN F n k + bt F n k * 2 ^ k
theorem rv_b (F n : Nat) : ∀ k, rvN F n k < 2 ^ k := by
  intro k
  induction k with
  | zero => exact Nat.zero_lt_one
  | succ k ih =>
    show rvN F n k + bt F n k * 2 ^ k < 2 ^ (k + 1)
    have := bt_2 F n k
    rw [Nat.pow_succ]
    rcases (show bt F n k = 0 ∨ bt F n k = 1 by omega) with q | q <;> rw [q] <;> omega
theorem rv_d (F n : Nat) {j : Nat} : ∀ d, rvN F n (j + 1 + d) / 2 ^ j % 2 = bt F n j := by
  intro d
  induction d with
  | zero =>
    show (rvN F n j + bt F n j * 2 ^ j) / 2 ^ j % 2 = _
    have h2 := bt_2 F n j
    have hp : 0 < 2 ^ j := Nat.two_pow_pos j
    rw [Nat.add_mul_div_right _ _ hp, Nat.div_eq_of_lt (rv_b F n j), Nat.zero_add]
    omega
  | succ d ih =>
    show (rvN F n (j + 1 + d) + bt F n (j + 1 + d) * 2 ^ (j + 1 + d)) / 2 ^ j % 2 = _
    have hp : 0 < 2 ^ j := Nat.two_pow_pos j
    have e : bt F n (j + 1 + d) * 2 ^ (j + 1 + d) = (2 * (bt F n (j + 1 + d) * 2 ^ d)) * 2 ^ j := by
      rw [Nat.pow_add, Nat.pow_add, Nat.pow_one]
      generalize bt F n (j + 1 + d) = b
      generalize 2 ^ j = x
      generalize 2 ^ d = y
      rw [Nat.mul_comm x 2, Nat.mul_assoc 2 x y, Nat.mul_comm x y, ← Nat.mul_assoc 2 y x, ← Nat.mul_assoc b (2 * y) x, Nat.mul_left_comm b 2 y]
    rw [e, Nat.add_mul_div_right _ _ hp, Nat.add_mul_mod_self_left]
    exact ih
theorem rv_e (F : Nat) {n j : Nat} (h : j < n) : rvN F n n / 2 ^ j % 2 = bt F n j := by
  have := rv_d F n (j := j) (n - (j + 1))
  rw [show j + 1 + (n - (j + 1)) = n by omega] at this
  exact this
theorem hi_n {v k : Nat} (hv : v < 2 ^ 31) (hk : k < 32) : f_Room_handIn (nI v) (nI k) = some (nI (v / 2 ^ k % 2)) := by
  unfold f_Room_handIn
  have h := Nat.div_le_self v (2 ^ k)
  have h32 : (2 : Nat) ^ 31 < 2 ^ 32 := by decide
  rw [ush_n (by omega) hk, nm_e1, and_1 (by omega)]
theorem p20 {n : Nat} (hn : n ≤ 20) : 2 ^ n ≤ 1048576 := Nat.pow_le_pow_right (n := 2) (by decide) hn
theorem wz_c {F n : Nat} (hn : n ≤ 20) (hF : F < 2 ^ n) : ∀ (d k N : Nat), k + d = n → d < N → f_Hands_withNoteZeroLowest_4 (nI n) N (nI F) (nI (rvN F n k)) (nI k) = some (nI (rvN F n n)) := by
  have hp := p20 hn
  intro d
  induction d with
  | zero =>
    intro k N h1 h2
    obtain ⟨N, rfl⟩ : ∃ m, N = m + 1 := ⟨N - 1, by omega⟩
    show f_Hands_withNoteZeroLowest_4_b (nI n) (f_Hands_withNoteZeroLowest_4 (nI n) N) _ _ _ = _
    unfold f_Hands_withNoteZeroLowest_4_b
    rw [if_pos ((le_i (by omega) (by omega)).mpr (by omega))]
    rw [show k = n by omega]
  | succ d ih =>
    intro k N h1 h2
    obtain ⟨N, rfl⟩ : ∃ m, N = m + 1 := ⟨N - 1, by omega⟩
    show f_Hands_withNoteZeroLowest_4_b (nI n) (f_Hands_withNoteZeroLowest_4 (nI n) N) _ _ _ = _
    unfold f_Hands_withNoteZeroLowest_4_b
    have e1 : (nI n - 1) - nI k = nI (n - 1 - k) := by
      rw [show nI n - 1 = nI (n - 1) from sub_n (b := 1) (by omega), sub_n (by omega)]
    have hdv := Nat.div_le_self F (2 ^ (n - 1 - k))
    have hb := bt_2 F n k
    have hk0 := Nat.two_pow_pos k
    have hk2 : 2 ^ k ≤ 2 ^ n := Nat.pow_le_pow_right (by decide) (by omega)
    have hbk : bt F n k * 2 ^ k ≤ 2 ^ k := by
      rcases (show bt F n k = 0 ∨ bt F n k = 1 by omega) with q | q <;> rw [q] <;> omega
    have h32 : (2 : Nat) ^ 32 = 4294967296 := by decide
    rw [if_neg (fun q => by have q' := (le_i (by omega) (by omega)).mp q; omega), e1, ush_n (by omega) (by omega), nm_e1, nm_e1, nm_e1, nm_e1, and_1 (by omega), nI_1]
    show f_Hands_withNoteZeroLowest_4 (nI n) N (nI F) (nI (rvN F n k) ||| jshl (nI (bt F n k)) (nI k)) (nI (k + 1)) = _
    rw [shl_n (by omega) (by omega), or_n (rv_b F n k) hb (by omega)]
    exact ih (k + 1) N (by omega) (by omega)
/-! the first of the best ways, end by end -/
variable {x : Nat → Int32}
theorem trN_i {k h : Nat} {st st2 : sT3N} {a : Nat} (e : trN x k st h = some (st2, a)) : canB x k h (owN k st h) (otN k st h) = true ∧ st2 = (h, othN x k (otN k st h), st.2.2 + (if crsB x k h (othN x k (otN k st h)) = true then 1 else 0)) ∧ a = awkN x k h (decide (k ≠ 0 ∧ h = st.1)) (crsB x k h (othN x k (otN k st h))) ∧ st2.2.2 ≤ crN x := by
  rw [trN_e] at e
  generalize othN x k (otN k st h) = o at e ⊢
  by_cases c1 : canB x k h (owN k st h) (otN k st h) = true
  · rw [if_pos c1] at e
    by_cases c2 : st.2.2 + (if crsB x k h o = true then 1 else 0) ≤ crN x
    · rw [if_pos c2] at e
      cases e
      exact ⟨c1, rfl, rfl, c2⟩
    · rw [if_neg c2] at e
      cases e
  · rw [if_neg c1] at e
    cases e
theorem Vh_s {l k h : Nat} {st : sT3N} {y : Nat × Nat × Nat} (e : Vh x l k st h = some y) : ∃ st2 a c f w, trN x k st h = some (st2, a) ∧ T1 x (l - k) (k + 1) st2 = some (c, f, w) ∧ f < 2 ^ (l - k) ∧ y = (a + c, h * 2 ^ (l - k) + f, w) := by
  unfold Vh at e
  cases ht : trN x k st h with
  | none => rw [ht] at e; cases e
  | some p =>
    rw [ht] at e
    obtain ⟨st2, a⟩ := p
    have e2 : tot x (l - k) (k + 1) st2 (some (0 + a, 2 * 0 + h, 1)) = some y := e
    rw [tot_sh] at e2
    have hb := T1_b x (l - k) (k + 1) st2
    unfold T1 at hb
    cases hT : tot x (l - k) (k + 1) st2 (some (0, 0, 1)) with
    | none => rw [hT] at e2; cases e2
    | some z =>
      rw [hT] at e2 hb
      have e3 : some (0 + a + z.1, (2 * 0 + h) * 2 ^ (l - k) + z.2.1, 1 * z.2.2) = some y := e2
      cases e3
      refine ⟨st2, a, z.1, z.2.1, z.2.2, rfl, hT, (hb z rfl).2.1, ?_⟩
      rw [Nat.zero_add, Nat.mul_zero, Nat.zero_add, Nat.one_mul]
theorem T1_step {l k : Nat} {st : sT3N} (hl : l < 20) (hk : k ≤ l) {y : Nat × Nat × Nat} (e : T1 x (l + 1 - k) k st = some y) : ∃ h st2 a c f w, h < 2 ∧ trN x k st h = some (st2, a) ∧ T1 x (l - k) (k + 1) st2 = some (c, f, w) ∧ f < 2 ^ (l - k) ∧ y.2.1 = h * 2 ^ (l - k) + f ∧ y.1 = a + c ∧ (h = 0 ↔ cst (Vh x l k st 0) = y.1) := by
  have eT : T1 x (l + 1 - k) k st = mrg (Vh x l k st 0) (Vh x l k st 1) := by
    have e : l + 1 - k = (l - k) + 1 := by omega
    rw [e]
    rfl
  rw [eT] at e
  have take : ∀ h y2, h < 2 → Vh x l k st h = some y2 → y2.1 = y.1 → y2.2.1 = y.2.1 → (h = 0 ↔ cst (Vh x l k st 0) = y.1) → ∃ h st2 a c f w, h < 2 ∧ trN x k st h = some (st2, a) ∧ T1 x (l - k) (k + 1) st2 = some (c, f, w) ∧ f < 2 ^ (l - k) ∧ y.2.1 = h * 2 ^ (l - k) + f ∧ y.1 = a + c ∧ (h = 0 ↔ cst (Vh x l k st 0) = y.1) := by
    intro h y2 hh e1 e2 e3 e4
    obtain ⟨st2, a, c, f, w, i1, i2, i3, i4⟩ := Vh_s e1
    rw [i4] at e2 e3
    exact ⟨h, st2, a, c, f, w, hh, i1, i2, i3, e3.symm, e2.symm, e4⟩
  have b0 := Vh_b x (k := k) st 0 hl
  have b1' := Vh_b x (k := k) st 1 hl
  have ou : ∀ u : vT, u = none ∨ ∃ p, u = some p := by
    intro u
    cases u with
    | none => exact Or.inl rfl
    | some p => exact Or.inr ⟨p, rfl⟩
  rcases ou (Vh x l k st 0) with hu | ⟨p, hu⟩
  · rw [hu, mrg_0] at e
    refine take 1 y (by omega) e rfl rfl ?_
    rw [hu]
    have := (b1' y e).1
    constructor
    · intro q; omega
    · intro q
      have q' : 1000000 = y.1 := q
      omega
  · rcases ou (Vh x l k st 1) with hv | ⟨r, hv⟩
    · rw [hu, hv, mrg_n] at e
      have ey := Option.some.inj e
      refine take 0 p (by omega) hu (by rw [ey]) (by rw [ey]) ?_
      rw [hu, ← ey]
      exact ⟨fun _ => rfl, fun _ => rfl⟩
    · rw [hu, hv] at e
      rcases Nat.lt_trichotomy p.1 r.1 with q | q | q
      · rw [mrg_lt q] at e
        have ey := Option.some.inj e
        refine take 0 p (by omega) hu (by rw [ey]) (by rw [ey]) ?_
        rw [hu, ← ey]
        exact ⟨fun _ => rfl, fun _ => rfl⟩
      · rw [mrg_eq q] at e
        have ey := Option.some.inj e
        obtain ⟨_, _, _, f0, _, _, _, g1, g2⟩ := Vh_s hu
        obtain ⟨_, _, _, f1, _, _, _, g3, g4⟩ := Vh_s hv
        refine take 0 p (by omega) hu (by rw [← ey]) ?_ ?_
        · rw [← ey]
          show p.2.1 = min p.2.1 r.2.1
          have k1 : p.2.1 = 0 * 2 ^ (l - k) + f0 := by rw [g2]
          have k2 : r.2.1 = 1 * 2 ^ (l - k) + f1 := by rw [g4]
          omega
        · rw [hu, ← ey]
          exact ⟨fun _ => rfl, fun _ => rfl⟩
      · rw [mrg_gt q] at e
        have ey := Option.some.inj e
        refine take 1 r (by omega) hv (by rw [ey]) (by rw [ey]) ?_
        rw [hu, ← ey]
        constructor
        · intro z; omega
        · intro z
          have z' : p.1 = r.1 := z
          omega
theorem cut_e {F d h f : Nat} (hh : h < 2) (hf : f < 2 ^ d) (e : F % 2 ^ (d + 1) = h * 2 ^ d + f) : F / 2 ^ d % 2 = h ∧ F % 2 ^ d = f := by
  have hp : 0 < 2 ^ d := Nat.two_pow_pos d
  rw [Nat.mod_pow_succ] at e
  have h1 : F % 2 ^ d < 2 ^ d := Nat.mod_lt _ hp
  have h2 : F / 2 ^ d % 2 < 2 := Nat.mod_lt _ (by decide)
  generalize F / 2 ^ d % 2 = b at e h2 ⊢
  generalize F % 2 ^ d = g at e h1 ⊢
  rcases (show b = 0 ∨ b = 1 by omega) with q | q <;> rcases (show h = 0 ∨ h = 1 by omega) with r | r <;> subst q <;> subst r <;> omega
def pS (x : Nat → Int32) (F n : Nat) : Nat → sT3N
  | 0 => (0, 0, 0)
  | k + 1 => match trN x k (pS x F n k) (bt F n k) with
    | none => (0, 0, 0)
    | some p => p.1
/-- the way that is first of the best -/
def way (x : Nat → Int32) (F n : Nat) : Prop := (∀ k, k ≤ n → vS k (pS x F n k)) ∧ ∀ k, k < n → (∃ a, trN x k (pS x F n k) (bt F n k) = some (pS x F n (k + 1), a)) ∧ (bt F n k = 0 ↔ cst (Vh x (n - 1) k (pS x F n k) 0) = cst (T1 x (n - k) k (pS x F n k)))
theorem way_e (hW : wf x) {n c F w : Nat} (hn : n ≤ 20) (e : TT x n = some (c, F, w)) : F < 2 ^ n ∧ way x F n := by
  have hF : F < 2 ^ n := (T1_b x n 0 (0, 0, 0) _ e).2.1
  refine ⟨hF, ?_⟩
  have main : ∀ k, k ≤ n → vS k (pS x F n k) ∧ ∃ c w, T1 x (n - k) k (pS x F n k) = some (c, F % 2 ^ (n - k), w) := by
    intro k
    induction k with
    | zero =>
      intro _
      refine ⟨vS_0, c, w, ?_⟩
      rw [Nat.sub_zero, Nat.mod_eq_of_lt hF]
      exact e
    | succ k ih =>
      intro hk
      obtain ⟨i1, c, w, i2⟩ := ih (by omega)
      have e1 : n - k = n - 1 + 1 - k := by omega
      rw [e1] at i2
      obtain ⟨h, st2, a, c2, f2, w2, j1, j2, j3, j4, j5, j6, j7⟩ := T1_step (by omega) (by omega) i2
      dsimp only at j5
      have e2 : n - 1 + 1 - k = n - 1 - k + 1 := by omega
      rw [e2] at j5
      obtain ⟨g1, g2⟩ := cut_e j1 j4 j5
      have g3 : bt F n k = h := g1
      have g4 : pS x F n (k + 1) = st2 := by
        show (match trN x k (pS x F n k) (bt F n k) with
          | none => (0, 0, 0)
          | some p => p.1) = st2
        rw [g3, j2]
      rw [g4]
      refine ⟨trN_v hW j1 i1 j2, c2, w2, ?_⟩
      have e3 : n - (k + 1) = n - 1 - k := by omega
      rw [e3, g2]
      exact j3
  refine ⟨fun k hk => (main k hk).1, fun k hk => ?_⟩
  obtain ⟨i1, c, w, i2⟩ := main k (by omega)
  have e1 : n - k = n - 1 + 1 - k := by omega
  have i3 := i2
  rw [e1] at i2
  obtain ⟨h, st2, a, c2, f2, w2, j1, j2, j3, j4, j5, j6, j7⟩ := T1_step (by omega) (by omega) i2
  dsimp only at j5 j7
  have e2 : n - 1 + 1 - k = n - 1 - k + 1 := by omega
  rw [e2] at j5
  obtain ⟨g1, g2⟩ := cut_e j1 j4 j5
  have g3 : bt F n k = h := g1
  have g4 : pS x F n (k + 1) = st2 := by
    show (match trN x k (pS x F n k) (bt F n k) with
      | none => (0, 0, 0)
      | some p => p.1) = st2
    rw [g3, j2]
  rw [g4, g3]
  refine ⟨⟨a, j2⟩, ?_⟩
  rw [i3]
  exact j7
/-- the latest strokes of both hands at an end -/
def aL (k : Nat) (st : sT3N) : Nat := if st.1 = 0 then mineN k else st.2.1
def aR (k : Nat) (st : sT3N) : Nat := if st.1 = 0 then st.2.1 else mineN k
theorem ow_a {k h : Nat} {st : sT3N} (hh : h < 2) (hs : st.1 < 2) : owN k st h = (if h = 0 then aL k st else aR k st) ∧ otN k st h = (if h = 0 then aR k st else aL k st) := by
  unfold owN otN aL aR
  rcases (show h = 0 ∨ h = 1 by omega) with q | q <;> rcases (show st.1 = 0 ∨ st.1 = 1 by omega) with r | r <;> rw [q, r] <;> exact ⟨rfl, rfl⟩
theorem a_n {k h o c : Nat} (hh : h < 2) : aL (k + 1) (h, o, c) = (if h = 0 then 2 * k + 1 else o) ∧ aR (k + 1) (h, o, c) = (if h = 0 then o else 2 * k + 1) := by
  have e : mineN (k + 1) = 2 * k + 1 := by unfold mineN; rw [if_neg (by omega)]; omega
  unfold aL aR
  rw [e]
  exact ⟨rfl, rfl⟩
theorem a_b {k : Nat} {st : sT3N} (hs : vS k st) : aL k st ≤ 2 * k ∧ aR k st ≤ 2 * k := by
  have h1 := (mine_b k).1
  have h2 := hs.2.1
  unfold aL aR
  split <;> omega
end PATH
