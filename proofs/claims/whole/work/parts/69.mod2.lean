section MOD2
variable {now : Nat → Int32}
theorem fol_m (hW : wf now) {least ways : Nat → Int32} {k l h : Nat} {st : sT3N} (hk : k ≤ l) (hl : l < nn now) (hh : h < 2) (hs : vS k st) (hA : k < l → ∀ st2, vS (k + 1) st2 → okS now l least ways k st2) {a : Int32} (ha : a = if k = 0 then -1 else nI st.1) (tc tw : Int32) : f_Model_follows now least ways tc tw (zI ((k : Int) - 1)) a (nI st.2.1) (nI st.2.2) (nI h) (nI l) = some (nI (cst (Vh now l k st h)), nI (wys (Vh now l k st h))) := by
  have hn := (wf_n hW).1
  have ek : zI ((k : Int) - 1) + 1 = nI k := by
    rw [← zI_nI]
    show zI ((k : Int) - 1) + zI 1 = _
    rw [zI_add]
    congr 1
    omega
  have hs1 := hs.1
  have hm : decide (k ≠ 0 ∧ h = st.1) = true ↔ nI h = a := by
    rw [ha, decide_eq_true_iff]
    by_cases c : k = 0
    · rw [if_pos c]
      constructor
      · intro q; exact absurd c q.1
      · intro q
        exfalso
        rcases (show h = 0 ∨ h = 1 by omega) with r | r <;> rw [r] at q <;> revert q <;> decide
    · rw [if_neg c, eq_i (by omega) (by omega)]
      constructor
      · intro q; exact q.2
      · intro q; exact ⟨c, q⟩
  have h18 : f_Model_follows_18 now least ways a (nI st.2.1) (nI st.2.2) (nI h) (nI l) (nI k) (nI (mineN k)) tc tw = some (nI (cst (Vh now l k st h)), nI (wys (Vh now l k st h))) := by
    have h46 := fol46 hW hk hl hh hs hA hm tc tw
    unfold f_Model_follows_18
    by_cases c : k = 0
    · subst c
      have e1 : st.2.1 = 0 := by have := hs.2.1; omega
      have e2 : mineN 0 = 0 := rfl
      have e3 : owN 0 st h = 0 := by unfold owN; split <;> assumption
      have e4 : otN 0 st h = 0 := by unfold otN; split <;> assumption
      rw [e3, e4] at h46
      rw [e1, e2, h46]
      by_cases c2 : nI h = a
      · rw [if_pos c2, if_pos c2]
      · rw [if_neg c2, if_neg c2]
    · have e0 : (nI h = a) ↔ h = st.1 := by
        rw [← hm, decide_eq_true_iff]
        constructor
        · intro q; exact q.2
        · intro q; exact ⟨c, q⟩
      unfold owN otN at h46
      by_cases c2 : h = st.1
      · rw [if_pos c2, if_pos c2] at h46
        rw [if_pos (e0.mpr c2), if_pos (e0.mpr c2), h46]
      · rw [if_neg c2, if_neg c2] at h46
        rw [if_neg (fun q => c2 (e0.mp q)), if_neg (fun q => c2 (e0.mp q)), h46]
  unfold f_Model_follows
  rw [ek, nm_e1]
  by_cases c : k = 0
  · rw [if_neg (show ¬ (0 : Int32) ≤ zI ((k : Int) - 1) by rw [c]; decide)]
    have e2 : mineN k = 0 := by rw [c]; rfl
    rw [e2] at h18
    exact h18
  · have e3 : (1 : Int32) + (2 * zI ((k : Int) - 1)) = nI (mineN k) := by
      show zI 1 + (zI 2 * zI ((k : Int) - 1)) = _
      rw [zI_mul, zI_add, ← zI_nI]
      congr 1
      unfold mineN
      rw [if_neg c]
      omega
    rw [if_pos (show (0 : Int32) ≤ zI ((k : Int) - 1) by show zI 0 ≤ _; rw [zI_le (by omega) (by omega) (by omega) (by omega)]; omega), e3]
    exact h18
theorem Vh_b (now : Nat → Int32) {l k : Nat} (st : sT3N) (h : Nat) (hl : l < 20) : ∀ y, Vh now l k st h = some y → y.1 ≤ 200 ∧ 0 < y.2.2 ∧ y.2.2 ≤ 2 ^ 20 := by
  intro y e
  unfold Vh at e
  cases ht : trN now k st h with
  | none => rw [ht] at e; cases e
  | some p =>
    rw [ht] at e
    obtain ⟨st2, a⟩ := p
    have ha := (trN_a ht).1
    have e2 : tot now (l - k) (k + 1) st2 (some (0 + a, 2 * 0 + h, 1)) = some y := e
    rw [tot_sh] at e2
    have hb := T1_b now (l - k) (k + 1) st2
    unfold T1 at hb
    cases hT : tot now (l - k) (k + 1) st2 (some (0, 0, 1)) with
    | none => rw [hT] at e2; cases e2
    | some z =>
      rw [hT] at e2 hb
      have hq := wys_b hb (by omega)
      obtain ⟨z1, z2, z3, z4⟩ := hb z rfl
      have e3 : some (0 + a + z.1, (2 * 0 + h) * 2 ^ (l - k) + z.2.1, 1 * z.2.2) = some y := e2
      cases e3
      dsimp only
      have hq2 : z.2.2 ≤ 2 ^ 20 := hq
      exact ⟨by omega, by omega, by omega⟩
theorem both_m (hW : wf now) {least ways : Nat → Int32} {k l : Nat} {st : sT3N} (hk : k ≤ l) (hl : l < nn now) (hs : vS k st) (hA : k < l → ∀ st2, vS (k + 1) st2 → okS now l least ways k st2) {a : Int32} (ha : a = if k = 0 then -1 else nI st.1) (tc tw bc bw : Int32) : f_Model_both now least ways tc tw bc bw (zI ((k : Int) - 1)) a (nI st.2.1) (nI st.2.2) (nI l) = some (nI (cst (Vh now l k st 1)), nI (wys (Vh now l k st 1)), nI (cst (T1 now (l + 1 - k) k st)), nI (wys (T1 now (l + 1 - k) k st))) := by
  have hn := (wf_n hW).1
  have eT : T1 now (l + 1 - k) k st = mrg (Vh now l k st 0) (Vh now l k st 1) := by
    have e : l + 1 - k = (l - k) + 1 := by omega
    rw [e]
    rfl
  have b0 := Vh_b now (k := k) st 0 (show l < 20 by omega)
  have b1' := Vh_b now (k := k) st 1 (show l < 20 by omega)
  have f0 := fun tc tw => fol_m hW hk hl (show 0 < 2 by omega) hs hA ha tc tw
  have f1 := fun tc tw => fol_m hW hk hl (show 1 < 2 by omega) hs hA ha tc tw
  rw [eT]
  unfold f_Model_both
  rw [show fu = 4997 + 3 from rfl]
  generalize 4997 = m
  show f_Model_both_14_b now least ways (f_Model_both_14 now least ways (m + 2)) _ _ _ _ _ _ _ _ _ _ = _
  unfold f_Model_both_14_b
  have f0' : f_Model_follows now least ways tc tw (zI ((k : Int) - 1)) a (nI st.2.1) (nI st.2.2) 0 (nI l) = _ := f0 tc tw
  rw [if_neg (by decide), f0', b2_e]
  have e1 : (0 : Int32) + 1 = nI 1 := rfl
  have s2 : ∀ tc tw : Int32, f_Model_both_14 now least ways (m + 2) (zI ((k : Int) - 1)) a (nI st.2.1) (nI st.2.2) (nI l) (nI 1) tc tw (nI (cst (Vh now l k st 0))) (nI (wys (Vh now l k st 0))) = some (nI (cst (Vh now l k st 1)), nI (wys (Vh now l k st 1)), nI (cst (mrg (Vh now l k st 0) (Vh now l k st 1))), nI (wys (mrg (Vh now l k st 0) (Vh now l k st 1)))) := by
    intro tc tw
    show f_Model_both_14_b now least ways (f_Model_both_14 now least ways (m + 1)) _ _ _ _ _ _ _ _ _ _ = _
    unfold f_Model_both_14_b
    rw [if_neg (by decide), f1 tc tw, b2_e]
    have e2 : nI 1 + 1 = nI 2 := rfl
    have s3 : ∀ a1 a2 a3 a4 : Int32, f_Model_both_14 now least ways (m + 1) (zI ((k : Int) - 1)) a (nI st.2.1) (nI st.2.2) (nI l) (nI 2) a1 a2 a3 a4 = some (a1, a2, a3, a4) := by
      intro a1 a2 a3 a4
      show f_Model_both_14_b now least ways (f_Model_both_14 now least ways m) _ _ _ _ _ _ _ _ _ _ = _
      unfold f_Model_both_14_b
      rw [if_pos (by decide)]
    rw [e2]
    simp only [nm_e1, s3]
    cases hu : Vh now l k st 0 with
    | none =>
      cases hv : Vh now l k st 1 with
      | none =>
        rw [if_pos (by decide), if_pos (by decide), if_pos (by decide)]
        rfl
      | some z =>
        obtain ⟨z1, z2, z3⟩ := b1' z hv
        have : ¬ nI 1000000 ≤ nI z.1 := fun q => by rw [le_i (by omega) (by omega)] at q; omega
        rw [if_neg (show ¬ nI (cst none) ≤ nI (cst (some z)) from this)]
        rfl
    | some y =>
      obtain ⟨y1, y2, y3⟩ := b0 y hu
      cases hv : Vh now l k st 1 with
      | none =>
        have g1 : nI y.1 ≤ nI 1000000 := (le_i (by omega) (by omega)).mpr (by omega)
        have g2 : ¬ nI 1000000 = nI y.1 := fun q => by rw [eq_i (by omega) (by omega)] at q; omega
        rw [if_pos (show nI (cst (some y)) ≤ nI (cst none) from g1), if_neg (show ¬ nI (cst none) = nI (cst (some y)) from g2)]
        rfl
      | some z =>
        obtain ⟨z1, z2, z3⟩ := b1' z hv
        show (if nI y.1 ≤ nI z.1 then (if nI z.1 = nI y.1 then (if (1000000 : Int32) ≤ nI z.1 then some (nI z.1, nI z.2.2, nI y.1, nI y.2.2) else some (nI z.1, nI z.2.2, nI y.1, nI y.2.2 + nI z.2.2)) else some (nI z.1, nI z.2.2, nI y.1, nI y.2.2)) else some (nI z.1, nI z.2.2, nI z.1, nI z.2.2)) = some (nI z.1, nI z.2.2, nI (cst (mrg (some y) (some z))), nI (wys (mrg (some y) (some z))))
        rw [add_n]
        have e6 : ¬ (1000000 : Int32) ≤ nI z.1 := by
          show ¬ nI 1000000 ≤ nI z.1
          rw [le_i (by omega) (by omega)]
          omega
        rw [if_neg e6]
        rcases Nat.lt_trichotomy y.1 z.1 with q | q | q
        · rw [if_pos ((le_i (by omega) (by omega)).mpr (by omega)), if_neg (fun r => by rw [eq_i (by omega) (by omega)] at r; omega), mrg_lt q]
          rfl
        · rw [if_pos ((le_i (by omega) (by omega)).mpr (by omega)), if_pos ((eq_i (by omega) (by omega)).mpr (by omega)), mrg_eq q]
          rfl
        · rw [if_neg (fun r => by rw [le_i (by omega) (by omega)] at r; omega), mrg_gt q]
          rfl
  simp only [nm_e1]
  rw [e1]
  cases hu : Vh now l k st 0 with
  | none =>
    rw [hu] at s2
    rw [if_pos (by decide), if_pos (by decide), if_pos (by decide)]
    exact s2 _ _
  | some y =>
    rw [hu] at s2
    obtain ⟨y1, y2, y3⟩ := b0 y hu
    rw [if_neg (show ¬ (1000000 : Int32) ≤ nI (cst (some y)) from fun q => by
      have q' : nI 1000000 ≤ nI y.1 := q
      rw [le_i (by omega) (by omega)] at q'
      omega)]
    exact s2 _ _
/-- how far the tables are filled -/
def dne (now : Nat → Int32) (l : Nat) (least ways : Nat → Int32) (k j : Nat) : Prop := (∀ k2 st, k < k2 → k2 < l → vS (k2 + 1) st → okS now l least ways k2 st) ∧ ∀ st, vS (k + 1) st → jN st < j → okS now l least ways k st
theorem fh31 (hW : wf now) {l k h o : Nat} (hl : l < nn now) (hk : k < l) (hh : h < 2) (ho : o ≤ 2 * k + 2) (K4 : Int32 → Int32 → (Nat → Int32) → (Nat → Int32) → Int32 → Int32 → Int32 → Int32 → Option ((Nat → Int32) × (Nat → Int32) × Int32 × Int32 × Int32 × Int32)) (K10 : Int32 → Int32 → Int32 → (Nat → Int32) → (Nat → Int32) → Int32 → Int32 → Int32 → Int32 → Option ((Nat → Int32) × (Nat → Int32) × Int32 × Int32 × Int32 × Int32)) (K18 : Int32 → Int32 → Int32 → Int32 → (Nat → Int32) → (Nat → Int32) → Int32 → Int32 → Int32 → Int32 → Option ((Nat → Int32) × (Nat → Int32) × Int32 × Int32 × Int32 × Int32)) : ∀ (d c n : Nat) (least ways : Nat → Int32) (t1 t2 b1 b2 : Int32), c + d = 5 → d < n → dne now l least ways k ((h * 42 + o) * 5 + c) → ∃ least2 ways2 t1' t2' b1' b2', f_Model_findHands_31 now K4 K10 K18 n (nI l) (nI k) (nI h) (nI o) (nI c) least ways t1 t2 b1 b2 = K18 (nI l) (nI k) (nI h) (nI (o + 1)) least2 ways2 t1' t2' b1' b2' ∧ dne now l least2 ways2 k ((h * 42 + (o + 1)) * 5) := by
  have hn := (wf_n hW).1
  intro d
  induction d with
  | zero =>
    intro c n least ways t1 t2 b1 b2 h1 h2 hD
    obtain ⟨n, rfl⟩ : ∃ m, n = m + 1 := ⟨n - 1, by omega⟩
    refine ⟨least, ways, t1, t2, b1, b2, ?_, ?_⟩
    · show f_Model_findHands_31_b now K4 K10 K18 (f_Model_findHands_31 now K4 K10 K18 n) _ _ _ _ _ _ _ _ _ _ _ = _
      unfold f_Model_findHands_31_b
      rw [if_pos (show (5 : Int32) ≤ nI c from (le_i (a := 5) (by omega) (by omega)).mpr (by omega)), nm_e1, nI_1]
    · have e : (h * 42 + (o + 1)) * 5 = (h * 42 + o) * 5 + c := by omega
      rw [e]
      exact hD
  | succ d ih =>
    intro c n least ways t1 t2 b1 b2 h1 h2 hD
    obtain ⟨n, rfl⟩ : ∃ m, n = m + 1 := ⟨n - 1, by omega⟩
    have hv : vS (k + 1) (h, o, c) := ⟨hh, by show o ≤ 2 * (k + 1); omega, by show c ≤ 4; omega, fun q => by omega⟩
    have hb := both_m hW (k := k + 1) (st := (h, o, c)) (by omega) hl hv (fun q st2 v2 => hD.1 (k + 1) st2 (by omega) q v2) (a := nI h) (by rw [if_neg (by omega)]) t1 t2 b1 b2
    have e1 : zI (((k + 1 : Nat) : Int) - 1) = nI k := by
      rw [← zI_nI]
      congr 1
      omega
    have e2 : l + 1 - (k + 1) = l - k := by omega
    rw [e1, e2] at hb
    dsimp only at hb
    have jb := jN_b hv (by omega)
    have hst : stN k (h, o, c) < 8400 := by unfold stN; omega
    have hD2 : dne now l (upd least (stN k (h, o, c)) (nI (cst (T1 now (l - k) (k + 1) (h, o, c))))) (upd ways (stN k (h, o, c)) (nI (wys (T1 now (l - k) (k + 1) (h, o, c))))) k ((h * 42 + o) * 5 + (c + 1)) := by
      constructor
      · intro k2 st q1 q2 v2
        have hne : stN k2 st ≠ stN k (h, o, c) := by
          intro q
          have := (stN_i v2 hv (by omega) (by omega) q).1
          omega
        unfold okS
        rw [upd_n hne, upd_n hne]
        exact hD.1 k2 st q1 q2 v2
      · intro st v2 q
        by_cases ce : st = (h, o, c)
        · subst ce
          unfold okS
          rw [upd_s, upd_s]
          exact ⟨rfl, rfl⟩
        · have hne : stN k st ≠ stN k (h, o, c) := fun q => ce (stN_i v2 hv (by omega) (by omega) q).2
          have hj : jN st ≠ jN (h, o, c) := fun q => ce (jN_i v2 hv (by omega) q)
          unfold okS
          rw [upd_n hne, upd_n hne]
          refine hD.2 st v2 ?_
          have e3 : jN (h, o, c) = (h * 42 + o) * 5 + c := rfl
          omega
    obtain ⟨l2, w2, a1, a2, a3, a4, i1, i2⟩ := ih (c + 1) n _ _ (nI (cst (Vh now l (k + 1) (h, o, c) 1))) (nI (wys (Vh now l (k + 1) (h, o, c) 1))) (nI (cst (T1 now (l - k) (k + 1) (h, o, c)))) (nI (wys (T1 now (l - k) (k + 1) (h, o, c)))) (by omega) (by omega) hD2
    refine ⟨l2, w2, a1, a2, a3, a4, ?_, i2⟩
    rw [← i1]
    show f_Model_findHands_31_b now K4 K10 K18 (f_Model_findHands_31 now K4 K10 K18 n) _ _ _ _ _ _ _ _ _ _ _ = _
    unfold f_Model_findHands_31_b
    rw [if_neg (show ¬ (5 : Int32) ≤ nI c from fun q => by have q' := (le_i (a := 5) (by omega) (by omega)).mp q; omega), hb, b4_e, so_m, b1_e, ck_n hst (by omega), ck_n hst (by omega), nm_e1, nI_1, cl_n (by omega)]
theorem fh18 (hW : wf now) {l k h : Nat} (hl : l < nn now) (hk : k < l) (hh : h < 2) (K4 : Int32 → Int32 → (Nat → Int32) → (Nat → Int32) → Int32 → Int32 → Int32 → Int32 → Option ((Nat → Int32) × (Nat → Int32) × Int32 × Int32 × Int32 × Int32)) (K10 : Int32 → Int32 → Int32 → (Nat → Int32) → (Nat → Int32) → Int32 → Int32 → Int32 → Int32 → Option ((Nat → Int32) × (Nat → Int32) × Int32 × Int32 × Int32 × Int32)) : ∀ (d o n : Nat) (least ways : Nat → Int32) (t1 t2 b1 b2 : Int32), o + d = 2 * k + 3 → d < n → dne now l least ways k ((h * 42 + o) * 5) → ∃ least2 ways2 t1' t2' b1' b2', f_Model_findHands_18 now K4 K10 n (nI l) (nI k) (nI h) (nI o) least ways t1 t2 b1 b2 = K10 (nI l) (nI k) (nI (h + 1)) least2 ways2 t1' t2' b1' b2' ∧ dne now l least2 ways2 k ((h + 1) * 210) := by
  have hn := (wf_n hW).1
  have e2k : (2 : Int32) + (2 * nI k) = nI (2 * k + 2) := by
    show nI 2 + nI 2 * nI k = _
    rw [mul_n, add_n, Nat.add_comm]
  intro d
  induction d with
  | zero =>
    intro o n least ways t1 t2 b1 b2 h1 h2 hD
    obtain ⟨n, rfl⟩ : ∃ m, n = m + 1 := ⟨n - 1, by omega⟩
    refine ⟨least, ways, t1, t2, b1, b2, ?_, hD.1, ?_⟩
    · show f_Model_findHands_18_b now K4 K10 (f_Model_findHands_18 now K4 K10 n) _ _ _ _ _ _ _ _ _ _ = _
      unfold f_Model_findHands_18_b
      rw [e2k, if_pos ((lt_i (by omega) (by omega)).mpr (by omega)), nm_e1, nI_1]
    · intro st v2 q
      refine hD.2 st v2 ?_
      obtain ⟨v1, v2, v3, -⟩ := v2
      unfold jN at q ⊢
      omega
  | succ d ih =>
    intro o n least ways t1 t2 b1 b2 h1 h2 hD
    obtain ⟨n, rfl⟩ : ∃ m, n = m + 1 := ⟨n - 1, by omega⟩
    obtain ⟨l2, w2, a1, a2, a3, a4, i1, i2⟩ := fh31 hW hl hk hh (show o ≤ 2 * k + 2 by omega) K4 K10 (f_Model_findHands_18 now K4 K10 n) 5 0 fu least ways t1 t2 b1 b2 (by omega) (by unfold fu; omega) hD
    obtain ⟨l3, w3, c1, c2, c3, c4, j1, j2⟩ := ih (o + 1) n l2 w2 a1 a2 a3 a4 (by omega) (by omega) i2
    refine ⟨l3, w3, c1, c2, c3, c4, ?_, j2⟩
    rw [← j1, ← i1]
    show f_Model_findHands_18_b now K4 K10 (f_Model_findHands_18 now K4 K10 n) _ _ _ _ _ _ _ _ _ _ = _
    unfold f_Model_findHands_18_b
    rw [e2k, if_neg (fun q => by have q' := (lt_i (by omega) (by omega)).mp q; omega)]
    rfl
theorem fh10 (hW : wf now) {l k : Nat} (hl : l < nn now) (hk : k < l) (K4 : Int32 → Int32 → (Nat → Int32) → (Nat → Int32) → Int32 → Int32 → Int32 → Int32 → Option ((Nat → Int32) × (Nat → Int32) × Int32 × Int32 × Int32 × Int32)) : ∀ (d h n : Nat) (least ways : Nat → Int32) (t1 t2 b1 b2 : Int32), h + d = 2 → d < n → dne now l least ways k (h * 210) → ∃ least2 ways2 t1' t2' b1' b2', f_Model_findHands_10 now K4 n (nI l) (nI k) (nI h) least ways t1 t2 b1 b2 = K4 (nI l) (dn k) least2 ways2 t1' t2' b1' b2' ∧ dne now l least2 ways2 k 420 := by
  have hn := (wf_n hW).1
  intro d
  induction d with
  | zero =>
    intro h n least ways t1 t2 b1 b2 h1 h2 hD
    obtain ⟨n, rfl⟩ : ∃ m, n = m + 1 := ⟨n - 1, by omega⟩
    refine ⟨least, ways, t1, t2, b1, b2, ?_, ?_⟩
    · show f_Model_findHands_10_b now K4 (f_Model_findHands_10 now K4 n) _ _ _ _ _ _ _ _ _ = _
      unfold f_Model_findHands_10_b
      rw [if_pos (show (2 : Int32) ≤ nI h from (le_i (a := 2) (by omega) (by omega)).mpr (by omega)), nm_e1, dn_m]
    · have e : h = 2 := by omega
      rw [e] at hD
      exact hD
  | succ d ih =>
    intro h n least ways t1 t2 b1 b2 h1 h2 hD
    obtain ⟨n, rfl⟩ : ∃ m, n = m + 1 := ⟨n - 1, by omega⟩
    have e0 : h * 210 = (h * 42 + 0) * 5 := by omega
    rw [e0] at hD
    obtain ⟨l2, w2, a1, a2, a3, a4, i1, i2⟩ := fh18 hW hl hk (show h < 2 by omega) K4 (f_Model_findHands_10 now K4 n) (2 * k + 3) 0 fu least ways t1 t2 b1 b2 (by omega) (by unfold fu; omega) hD
    obtain ⟨l3, w3, c1, c2, c3, c4, j1, j2⟩ := ih (h + 1) n l2 w2 a1 a2 a3 a4 (by omega) (by omega) i2
    refine ⟨l3, w3, c1, c2, c3, c4, ?_, j2⟩
    rw [← j1, ← i1]
    show f_Model_findHands_10_b now K4 (f_Model_findHands_10 now K4 n) _ _ _ _ _ _ _ _ _ = _
    unfold f_Model_findHands_10_b
    rw [if_neg (show ¬ (2 : Int32) ≤ nI h from fun q => by have q' := (le_i (a := 2) (by omega) (by omega)).mp q; omega)]
    rfl
theorem fh4 (hW : wf now) {l : Nat} (hl : l < nn now) : ∀ (d n : Nat) (least ways : Nat → Int32) (t1 t2 b1 b2 : Int32), d ≤ l → d < n → (∀ k2 st, d ≤ k2 → k2 < l → vS (k2 + 1) st → okS now l least ways k2 st) → ∃ least2 ways2 t1' t2' b1' b2', f_Model_findHands_4 now n (nI l) (dn d) least ways t1 t2 b1 b2 = some (least2, ways2, t1', t2', b1', b2') ∧ ∀ k2 st, k2 < l → vS (k2 + 1) st → okS now l least2 ways2 k2 st := by
  have hn := (wf_n hW).1
  intro d
  induction d with
  | zero =>
    intro n least ways t1 t2 b1 b2 h1 h2 hD
    obtain ⟨n, rfl⟩ : ∃ m, n = m + 1 := ⟨n - 1, by omega⟩
    refine ⟨least, ways, t1, t2, b1, b2, ?_, fun k2 st q v => hD k2 st (by omega) q v⟩
    show f_Model_findHands_4_b now (f_Model_findHands_4 now n) _ _ _ _ _ _ _ _ = _
    unfold f_Model_findHands_4_b
    rw [if_pos dn_0]
  | succ d ih =>
    intro n least ways t1 t2 b1 b2 h1 h2 hD
    obtain ⟨n, rfl⟩ : ∃ m, n = m + 1 := ⟨n - 1, by omega⟩
    obtain ⟨l2, w2, a1, a2, a3, a4, i1, i2⟩ := fh10 hW hl (show d < l by omega) (f_Model_findHands_4 now n) 2 0 fu least ways t1 t2 b1 b2 (by omega) (by unfold fu; omega) ⟨fun k2 st q1 q2 v => hD k2 st (by omega) q2 v, fun st v q => absurd q (by omega)⟩
    obtain ⟨l3, w3, c1, c2, c3, c4, j1, j2⟩ := ih n l2 w2 a1 a2 a3 a4 (by omega) (by omega) (by
      intro k2 st q1 q2 v
      by_cases c : k2 = d
      · subst c
        exact i2.2 st v (jN_b v (by omega))
      · exact i2.1 k2 st (by omega) q2 v)
    refine ⟨l3, w3, c1, c2, c3, c4, ?_, j2⟩
    rw [← j1, ← i1]
    show f_Model_findHands_4_b now (f_Model_findHands_4 now n) _ _ _ _ _ _ _ _ = _
    unfold f_Model_findHands_4_b
    rw [dn_s, if_neg (show ¬ nI d < 0 from fun q => by have q' := (lt_i (b := 0) (by omega) (by omega)).mp q; omega)]
    rfl
/-- the best of all ways over the first m notes -/
def TT (now : Nat → Int32) (m : Nat) : vT := T1 now m 0 (0, 0, 0)
theorem vS_0 : vS 0 (0, 0, 0) := ⟨by decide, by decide, by decide, fun _ => rfl⟩
theorem cu_m (hW : wf now) {m : Nat} (hm : m ≤ nn now) (least ways : Nat → Int32) (t1 t2 b1 b2 : Int32) : ∃ least2 ways2 t1' t2' b1', f_Model_costUpTo now least ways t1 t2 b1 b2 (zI ((m : Int) - 1)) = some (nI (cst (TT now m)), least2, ways2, t1', t2', b1', nI (wys (TT now m))) ∧ ∀ k2 st, k2 + 1 < m → vS (k2 + 1) st → okS now (m - 1) least2 ways2 k2 st := by
  have hn := (wf_n hW).1
  unfold f_Model_costUpTo
  by_cases c : m = 0
  · subst c
    rw [if_neg (by decide)]
    exact ⟨least, ways, t1, t2, b1, rfl, fun k2 st q => absurd q (by omega)⟩
  · have e1 : zI ((m : Int) - 1) = nI (m - 1) := by
      rw [← zI_nI]
      congr 1
      omega
    rw [if_pos (show (0 : Int32) ≤ zI ((m : Int) - 1) by show zI 0 ≤ _; rw [zI_le (by omega) (by omega) (by omega) (by omega)]; omega), e1]
    obtain ⟨l2, w2, a1, a2, a3, a4, i1, i2⟩ := fh4 hW (l := m - 1) (by omega) (m - 1) fu least ways t1 t2 b1 b2 (by omega) (by unfold fu; omega) (fun k2 st q1 q2 => absurd q1 (by omega))
    have e2 : f_Model_findHands now least ways t1 t2 b1 b2 (nI (m - 1)) = some (l2, w2, a1, a2, a3, a4) := by
      unfold f_Model_findHands
      rw [nm_e1, ← i1]
      congr 1
      unfold dn
      rw [← zI_nI]
      show zI _ - zI 1 = _
      rw [zI_sub]
    have hb := both_m hW (k := 0) (l := m - 1) (st := (0, 0, 0)) (least := l2) (ways := w2) (by omega) (by omega) vS_0 (fun q st2 v2 => i2 0 st2 q v2) (a := -1) rfl a1 a2 a3 a4
    have e3 : m - 1 + 1 - 0 = m := by omega
    rw [e3] at hb
    have hb' : f_Model_both now l2 w2 a1 a2 a3 a4 (-1) (-1) 0 0 (nI (m - 1)) = _ := hb
    rw [e2, b6_e, hb', b4_e]
    exact ⟨l2, w2, _, _, _, rfl, fun k2 st q v => i2 k2 st (by omega) v⟩
end MOD2
