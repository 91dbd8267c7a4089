section MOD1
theorem le_i {a b : Nat} (ha : a < 2147483648) (hb : b < 2147483648) : nI a ≤ nI b ↔ a ≤ b := by
  rw [leI, ito ha, ito hb]
  omega
theorem lt_i {a b : Nat} (ha : a < 2147483648) (hb : b < 2147483648) : nI a < nI b ↔ a < b := by
  rw [ltI, ito ha, ito hb]
  omega
theorem eq_i {a b : Nat} (ha : a < 2147483648) (hb : b < 2147483648) : nI a = nI b ↔ a = b := by
  rw [eqI, ito ha, ito hb]
  omega
variable {now : Nat → Int32}
/-- an end that is possible before note k -/
def vS (k : Nat) (st : sT3N) : Prop := st.1 < 2 ∧ st.2.1 ≤ 2 * k ∧ st.2.2 ≤ 4 ∧ (k = 0 → st.1 = 0)
def jN (st : sT3N) : Nat := (st.1 * 42 + st.2.1) * 5 + st.2.2
def stN (k : Nat) (st : sT3N) : Nat := k * 420 + jN st
def owN (k : Nat) (st : sT3N) (h : Nat) : Nat := if h = st.1 then mineN k else st.2.1
def otN (k : Nat) (st : sT3N) (h : Nat) : Nat := if h = st.1 then st.2.1 else mineN k
theorem trN_e (x : Nat → Int32) (k : Nat) (st : sT3N) (h : Nat) : trN x k st h = if canB x k h (owN k st h) (otN k st h) = true then (if st.2.2 + (if crsB x k h (othN x k (otN k st h)) = true then 1 else 0) ≤ crN x then some ((h, othN x k (otN k st h), st.2.2 + (if crsB x k h (othN x k (otN k st h)) = true then 1 else 0)), awkN x k h (decide (k ≠ 0 ∧ h = st.1)) (crsB x k h (othN x k (otN k st h)))) else none) else none := rfl
theorem cr_e (hW : wf now) : crN now ≤ 4 ∧ now 4 = nI (crN now) := by
  obtain ⟨j, e, h1, h2, h3⟩ := inat hW.2.2.1.2.2.1 (by omega)
  have e2 : crN now = j := by unfold crN; rw [e]; exact cl_n (by omega)
  rw [e2]
  exact ⟨by omega, e⟩
theorem mine_b (k : Nat) : mineN k ≤ 2 * k ∧ (mineN k = 0 ∨ (0 < k ∧ mineN k = 2 * k - 1)) := by
  unfold mineN
  split <;> omega
theorem ot_b {k : Nat} {st : sT3N} {h : Nat} (hs : vS k st) : owN k st h ≤ 2 * k ∧ otN k st h ≤ 2 * k := by
  have h1 := (mine_b k).1
  have h2 := hs.2.1
  unfold owN otN
  split <;> omega
theorem oth_b {x : Nat → Int32} {k o : Nat} (h : o ≤ 2 * k) : othN x k o ≤ 2 * (k + 1) := by
  unfold othN
  split <;> omega
theorem vst_b {n k o : Nat} (h : o ≤ 2 * k) (hk : k ≤ n) : vst n o := by
  unfold vst
  omega
theorem trN_v (hW : wf now) {k h : Nat} {st st2 : sT3N} {a : Nat} (hh : h < 2) (hs : vS k st) (e : trN now k st h = some (st2, a)) : vS (k + 1) st2 := by
  have hc := (cr_e hW).1
  have h1 := (ot_b (h := h) hs).2
  have h2 := oth_b (x := now) h1
  rw [trN_e] at e
  generalize othN now k (otN k st h) = o at e h2
  by_cases c1 : canB now k h (owN k st h) (otN k st h) = true
  · rw [if_pos c1] at e
    by_cases c2 : st.2.2 + (if crsB now k h o = true then 1 else 0) ≤ crN now
    · rw [if_pos c2] at e
      cases e
      exact ⟨hh, h2, Nat.le_trans c2 hc, fun q => by omega⟩
    · rw [if_neg c2] at e
      cases e
  · rw [if_neg c1] at e
    cases e
theorem jN_b {k : Nat} {st : sT3N} (hs : vS (k + 1) st) (hk : k < 20) : jN st < 420 := by
  obtain ⟨h1, h2, h3, -⟩ := hs
  unfold jN
  omega
theorem jN_i {k : Nat} {st st2 : sT3N} (hs : vS (k + 1) st) (hs2 : vS (k + 1) st2) (hk : k < 20) (e : jN st = jN st2) : st = st2 := by
  obtain ⟨a, b, c⟩ := st
  obtain ⟨a2, b2, c2⟩ := st2
  obtain ⟨h1, h2, h3, -⟩ := hs
  obtain ⟨g1, g2, g3, -⟩ := hs2
  dsimp only at h1 h2 h3 g1 g2 g3
  unfold jN at e
  dsimp only at e
  have q1 : c = c2 := by omega
  have q2 : a * 42 + b = a2 * 42 + b2 := by omega
  have q3 : a = a2 := by omega
  have q4 : b = b2 := by omega
  rw [q1, q3, q4]
theorem stN_i {k k2 : Nat} {st st2 : sT3N} (hs : vS (k + 1) st) (hs2 : vS (k2 + 1) st2) (hk : k < 20) (hk2 : k2 < 20) (e : stN k st = stN k2 st2) : k = k2 ∧ st = st2 := by
  have b1 := jN_b hs hk
  have b2 := jN_b hs2 hk2
  unfold stN at e
  have q : k = k2 := by omega
  subst q
  exact ⟨rfl, jN_i hs hs2 hk (by omega)⟩
theorem so_m {k : Nat} {h o c : Nat} : f_Model_stateOf (nI k) (nI h) (nI o) (nI c) = some (nI (stN k (h, o, c))) := by
  unfold f_Model_stateOf
  rw [nm_e1]
  show some ((((((nI k * nI 2) + nI h) * nI 42) + nI o) * nI 5) + nI c) = _
  rw [mul_n, add_n, mul_n, add_n, mul_n, add_n]
  congr 2
  unfold stN jN
  dsimp only
  omega
/-- what is in the table of one end -/
def okS (now : Nat → Int32) (l : Nat) (least ways : Nat → Int32) (k : Nat) (st : sT3N) : Prop := least (stN k st) = nI (cst (T1 now (l - k) (k + 1) st)) ∧ ways (stN k st) = nI (wys (T1 now (l - k) (k + 1) st))
def Vh (now : Nat → Int32) (l k : Nat) (st : sT3N) (h : Nat) : vT := nxt (tot now (l - k) (k + 1)) (trN now k st h) (some (0, 0, 1)) h
theorem cst_sh {d a h : Nat} {u : vT} (hb : vbd d u) (hd : d ≤ 20) (ha : a ≤ 9) : cst (shv d a h 1 u) = min 1000000 (a + cst u) ∧ wys (shv d a h 1 u) = wys u := by
  cases u with
  | none =>
    refine ⟨?_, rfl⟩
    show 1000000 = min 1000000 (a + 1000000)
    omega
  | some y =>
    obtain ⟨b1, -⟩ := hb y rfl
    refine ⟨?_, ?_⟩
    · show a + y.1 = min 1000000 (a + y.1)
      omega
    · show 1 * y.2.2 = y.2.2
      omega
theorem wys_b {d : Nat} {u : vT} (hb : vbd d u) (hd : d ≤ 20) : wys u ≤ 2 ^ 20 := by
  cases u with
  | none => exact Nat.zero_le _
  | some y => exact Nat.le_trans (hb y rfl).2.2.2 (Nat.pow_le_pow_right (by decide) hd)
theorem cst_b {d : Nat} {u : vT} (hb : vbd d u) (hd : d ≤ 20) : cst u ≤ 1000000 := by
  cases u with
  | none => exact Nat.le_refl _
  | some y =>
    have := (hb y rfl).1
    show y.1 ≤ _
    omega
/-- one hand more, in the model -/
theorem fol46 (hW : wf now) {least ways : Nat → Int32} {k l h : Nat} {st : sT3N} (hk : k ≤ l) (hl : l < nn now) (hh : h < 2) (hs : vS k st) (hA : k < l → ∀ st2, vS (k + 1) st2 → okS now l least ways k st2) {a : Int32} (ha : decide (k ≠ 0 ∧ h = st.1) = true ↔ nI h = a) (tc tw : Int32) : f_Model_follows_46 now least ways a (nI st.2.2) (nI h) (nI l) (nI k) (nI (owN k st h)) (nI (otN k st h)) tc tw = some (nI (cst (Vh now l k st h)), nI (wys (Vh now l k st h))) := by
  have hn := (wf_n hW).1
  obtain ⟨hc1, hc2⟩ := cr_e hW
  obtain ⟨o1, o2⟩ := ot_b (h := h) hs
  have o3 := oth_b (x := now) o2
  have hkn : k < nn now := by omega
  have hz : decide (k ≠ 0 ∧ h = st.1) = true → 0 < k := by
    intro q
    have := of_decide_eq_true q
    omega
  have hfr : ∀ v : Int32, f_Model_follows_109 now least ways a (nI h) (nI l) (nI k) (nI (othN now k (otN k st h))) (b2i (crsB now k h (othN now k (otN k st h)))) (nI st.2.2) (b2i (crsB now k h (othN now k (otN k st h)))) 1000000 0 = some (nI (cst (nxt (tot now (l - k) (k + 1)) (if st.2.2 + (if crsB now k h (othN now k (otN k st h)) = true then 1 else 0) ≤ crN now then some ((h, othN now k (otN k st h), st.2.2 + (if crsB now k h (othN now k (otN k st h)) = true then 1 else 0)), awkN now k h (decide (k ≠ 0 ∧ h = st.1)) (crsB now k h (othN now k (otN k st h)))) else none) (some (0, 0, 1)) h)), nI (wys (nxt (tot now (l - k) (k + 1)) (if st.2.2 + (if crsB now k h (othN now k (otN k st h)) = true then 1 else 0) ≤ crN now then some ((h, othN now k (otN k st h), st.2.2 + (if crsB now k h (othN now k (otN k st h)) = true then 1 else 0)), awkN now k h (decide (k ≠ 0 ∧ h = st.1)) (crsB now k h (othN now k (otN k st h)))) else none) (some (0, 0, 1)) h))) := by
    intro _
    have hb1 : b2i (crsB now k h (othN now k (otN k st h))) = nI (if crsB now k h (othN now k (otN k st h)) = true then 1 else 0) := by
      cases crsB now k h (othN now k (otN k st h)) <;> rfl
    have hm : (if crsB now k h (othN now k (otN k st h)) = true then 1 else 0) ≤ 1 := by split <;> omega
    have haw := awk_m hW hkn hh ha hz (crsB now k h (othN now k (otN k st h)))
    have hab := awk_b now k h (decide (k ≠ 0 ∧ h = st.1)) (crsB now k h (othN now k (otN k st h)))
    generalize awkN now k h (decide (k ≠ 0 ∧ h = st.1)) (crsB now k h (othN now k (otN k st h))) = aw at haw hab ⊢
    rw [hb1] at haw ⊢
    generalize (if crsB now k h (othN now k (otN k st h)) = true then 1 else 0) = m at hm haw ⊢
    generalize othN now k (otN k st h) = o at o3 haw ⊢
    have hs4 := hs.2.2.1
    unfold f_Model_follows_109
    rw [add_n, nm_e1, rd_l (i := 4) 4 rfl (by omega) (by omega), hc2]
    by_cases c : st.2.2 + m ≤ crN now
    · rw [if_pos ((le_i (by omega) (by omega)).mpr c), so_m, b1_e, if_pos c]
      have hv2 : vS (k + 1) (h, o, st.2.2 + m) := ⟨hh, o3, Nat.le_trans c hc1, fun q => by omega⟩
      have hVe : nxt (tot now (l - k) (k + 1)) (some ((h, o, st.2.2 + m), aw)) (some (0, 0, 1)) h = shv (l - k) aw h 1 (T1 now (l - k) (k + 1) (h, o, st.2.2 + m)) := by
        show tot now (l - k) (k + 1) (h, o, st.2.2 + m) (some (0 + aw, 2 * 0 + h, 1)) = _
        rw [tot_sh, Nat.zero_add, Nat.mul_zero, Nat.zero_add]
        rfl
      rw [hVe]
      obtain ⟨e1, e2⟩ := cst_sh (h := h) (T1_b now (l - k) (k + 1) (h, o, st.2.2 + m)) (by omega) hab
      rw [e1, e2]
      have hcb := cst_b (T1_b now (l - k) (k + 1) (h, o, st.2.2 + m)) (by omega)
      have h155 : ∀ rest : Nat, rest ≤ 1000000 → f_Model_follows_155 now least ways a (nI h) (nI l) (nI k) (nI m) (nI (stN k (h, o, st.2.2 + m))) (nI rest) 1000000 0 = if nI k = nI l then some (nI (min 1000000 (aw + rest)), 1) else rd 8400 ways (nI (stN k (h, o, st.2.2 + m))) fun x5 => some (nI (min 1000000 (aw + rest)), x5) := by
        intro rest hr
        unfold f_Model_follows_155
        rw [haw, b1_e, add_n, nm_e1]
        have ej : jmin 1000000 (nI (aw + rest)) = nI (min 1000000 (aw + rest)) := jmin_n (a := 1000000) (by omega) (by omega)
        rw [ej]
      by_cases ck : k = l
      · subst ck
        rw [if_pos rfl]
        have := h155 0 (by omega)
        rw [show nI 0 = (0 : Int32) from rfl] at this
        rw [this, if_pos rfl, Nat.sub_self]
        rfl
      · rw [if_neg (fun q => ck ((eq_i (by omega) (by omega)).mp q))]
        obtain ⟨t1, t2⟩ := hA (by omega) _ hv2
        have jb := jN_b hv2 (by omega)
        have hst : stN k (h, o, st.2.2 + m) < 8400 := by unfold stN; omega
        rw [rd_n hst (by omega), t1, h155 _ hcb, if_neg (fun q => ck ((eq_i (by omega) (by omega)).mp q)), rd_n hst (by omega), t2]
    · rw [if_neg (fun q => c ((le_i (by omega) (by omega)).mp q)), if_neg c]
      rfl
  unfold f_Model_follows_46 Vh
  rw [can_m hW hkn hh (vst_b o1 (by omega)) (vst_b o2 (by omega)), b1_e, b2i_t, oth_m hW hkn, b1_e, crs_m hW hkn hh (vst_b (k := k + 1) o3 (by omega)), b1_e, trN_e]
  by_cases c1 : canB now k h (owN k st h) (otN k st h) = true
  · rw [if_pos c1, if_pos c1, b2i_t]
    have h0 := hfr 0
    cases hcb : crsB now k h (othN now k (otN k st h)) with
    | true =>
      rw [hcb] at h0
      rw [if_pos rfl]
      exact h0
    | false =>
      rw [hcb] at h0
      rw [if_neg (by decide)]
      exact h0
  · rw [if_neg c1, if_neg c1]
    rfl
end MOD1
