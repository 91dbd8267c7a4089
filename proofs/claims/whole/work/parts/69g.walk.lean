section WALK
variable {kinds ticks drums marks values counts hits now sT sH : Nat → Int32} {count there : Int32}
theorem strk (h : lin kinds ticks drums marks sT sH values now) {k hh L R : Nat} (hk : k < nn now) (h2 : hh < 2) (hL : L ≤ 2 * k) (hR : R ≤ 2 * k) : (if hh = 0 then 2 * k + 1 else othN now k L) ≤ 2 * (k + 1) ∧ (if hh = 0 then othN now k R else 2 * k + 1) ≤ 2 * (k + 1) ∧ f_Arms_areCrossed (nI (if hh = 0 then 2 * k + 1 else othN now k L)) (nI (if hh = 0 then othN now k R else 2 * k + 1)) drums = some (b2i (crsB now k hh (othN now k (if hh = 0 then R else L)))) := by
  have o1 := oth_b (x := now) hL
  have o2 := oth_b (x := now) hR
  rcases (show hh = 0 ∨ hh = 1 by omega) with q | q <;> subst q
  · refine ⟨by rw [if_pos rfl]; omega, by rw [if_pos rfl]; omega, ?_⟩
    rw [if_pos rfl, if_pos rfl, if_pos rfl, cr_c h (vst_b (k := k + 1) (by omega) (by omega)) (vst_b (k := k + 1) o2 (by omega)), crL_0]
  · refine ⟨by rw [if_neg (by omega)]; omega, by rw [if_neg (by omega)]; omega, ?_⟩
    rw [if_neg (by omega), if_neg (by omega), if_neg (by omega), cr_c h (vst_b (k := k + 1) o1 (by omega)) (vst_b (k := k + 1) (by omega) (by omega)), crL_1]
theorem wk23 (h : lin kinds ticks drums marks sT sH values now) {F n j : Nat} (hn : n = nn now) (hw : way now F n) (hj : j < n) : ∀ (d k N : Nat) (wp : Int32), k + d = j + 1 → d < N → ∃ r wp2, f_Hands_walk_23 kinds ticks drums marks sT sH (nI n) values N (nI (rvN F n n)) (nI j) (nI (pS now F n k).2.2) (if k = 0 then -1 else nI (pS now F n k).1) (nI k) wp (nI (aL k (pS now F n k))) (nI (aR k (pS now F n k))) = some (r, wp2, nI (aL (j + 1) (pS now F n (j + 1))), nI (aR (j + 1) (pS now F n (j + 1)))) := by
  have hn20 := (wf_n h.1).1
  have hrv := rv_b F n n
  have hp := p20 (show n ≤ 20 by omega)
  intro d
  induction d with
  | zero =>
    intro k N wp h1 h2
    obtain ⟨N, rfl⟩ : ∃ m, N = m + 1 := ⟨N - 1, by omega⟩
    have hk : k = j + 1 := by omega
    show ∃ r wp2, f_Hands_walk_23_b kinds ticks drums marks sT sH (nI n) values (f_Hands_walk_23 kinds ticks drums marks sT sH (nI n) values N) _ _ _ _ _ _ _ _ = _
    unfold f_Hands_walk_23_b
    rw [if_pos ((lt_i (by omega) (by omega)).mpr (by omega))]
    unfold f_Hands_walk_115
    rw [rd_l (i := 2) 2 rfl (by omega) (by omega), ite_some, hk]
    by_cases c : values 2 < nI (pS now F n (j + 1)).2.2
    · rw [if_pos c]
      exact ⟨0, wp, rfl⟩
    · rw [if_neg c]
      exact ⟨1, wp, rfl⟩
  | succ d ih =>
    intro k N wp h1 h2
    obtain ⟨N, rfl⟩ : ∃ m, N = m + 1 := ⟨N - 1, by omega⟩
    have hkn : k < n := by omega
    have hv := hw.1 k (by omega)
    obtain ⟨⟨a, htr⟩, -⟩ := hw.2 k hkn
    obtain ⟨q1, q2, q3, q4⟩ := trN_i htr
    have hb2 := bt_2 F n k
    obtain ⟨b1', b2'⟩ := a_b hv
    have hhi : f_Room_handIn (nI (rvN F n n)) (nI k) = some (nI (bt F n k)) := by
      rw [hi_n (by omega) (by omega), rv_e F hkn]
    obtain ⟨o1, o2⟩ := ow_a (k := k) hb2 hv.1
    have hst := st_c h (k := k) (hh := bt F n k) (L := aL k (pS now F n k)) (R := aR k (pS now F n k)) (by omega) hb2 (vst_b b1' (by omega)) (vst_b b2' (by omega))
    rw [← o1, ← o2, if_pos q1] at hst
    obtain ⟨e1, e2, e3⟩ := strk h (k := k) (by omega) hb2 b1' b2'
    rw [← o2] at e3
    have haL : aL (k + 1) (pS now F n (k + 1)) = (if bt F n k = 0 then 2 * k + 1 else othN now k (aL k (pS now F n k))) := by
      rw [q2, (a_n hb2).1]
      by_cases c : bt F n k = 0
      · rw [if_pos c, if_pos c]
      · rw [if_neg c, if_neg c, o2, if_neg c]
    have haR : aR (k + 1) (pS now F n (k + 1)) = (if bt F n k = 0 then othN now k (aR k (pS now F n k)) else 2 * k + 1) := by
      rw [q2, (a_n hb2).2]
      by_cases c : bt F n k = 0
      · rw [if_pos c, if_pos c, o2, if_pos c]
      · rw [if_neg c, if_neg c]
    rw [← haL, ← haR] at hst e3
    rw [← haL] at e1
    rw [← haR] at e2
    have haw := aw_c h (k := k) (hh := bt F n k) (L := aL (k + 1) (pS now F n (k + 1))) (R := aR (k + 1) (pS now F n (k + 1))) (vst_b e1 (by omega)) (vst_b e2 (by omega)) (by omega) hb2 (a := if k = 0 then -1 else nI (pS now F n k).1) (same := decide (k ≠ 0 ∧ nI (bt F n k) = if k = 0 then -1 else nI (pS now F n k).1)) (by rw [decide_eq_true_iff])
    have hS1 : (pS now F n (k + 1)).1 = bt F n k := by rw [q2]
    have hS2 : (pS now F n (k + 1)).2.2 = (pS now F n k).2.2 + (if crsB now k (bt F n k) (othN now k (otN k (pS now F n k) (bt F n k))) = true then 1 else 0) := by rw [q2]
    have h81 : ∀ m : Nat, m = (if crsB now k (bt F n k) (othN now k (otN k (pS now F n k) (bt F n k))) = true then 1 else 0) → ∃ r wp2, f_Hands_walk_81 kinds ticks drums marks sT sH (nI n) values (f_Hands_walk_23 kinds ticks drums marks sT sH (nI n) values N) (nI (rvN F n n)) (nI j) (if k = 0 then -1 else nI (pS now F n k).1) (nI k) (nI (bt F n k)) (nI (pS now F n k).2.2) (nI m) wp (nI (aL (k + 1) (pS now F n (k + 1)))) (nI (aR (k + 1) (pS now F n (k + 1)))) = some (r, wp2, nI (aL (j + 1) (pS now F n (j + 1))), nI (aR (j + 1) (pS now F n (j + 1)))) := by
      intro m hm
      unfold f_Hands_walk_81
      rw [add_n, nm_e1, haw, b1_e, nm_e1, nm_e1, nI_1, hm, ← hS2, ← hS1]
      have := ih (k + 1) N (wp + nI (awkN now k (bt F n k) (decide (k ≠ 0 ∧ nI (bt F n k) = if k = 0 then -1 else nI (pS now F n k).1)) (crL now (aL (k + 1) (pS now F n (k + 1))) (aR (k + 1) (pS now F n (k + 1)))))) (by omega) (by omega)
      rw [if_neg (by omega)] at this
      rw [← hS1] at this
      exact this
    show ∃ r wp2, f_Hands_walk_23_b kinds ticks drums marks sT sH (nI n) values (f_Hands_walk_23 kinds ticks drums marks sT sH (nI n) values N) _ _ _ _ _ _ _ _ = _
    unfold f_Hands_walk_23_b
    rw [if_neg (fun q => by have q' := (lt_i (by omega) (by omega)).mp q; omega), if_neg (fun q => by have q' := (le_i (by omega) (by omega)).mp q; omega), hhi, b1_e, hst, b3_e, if_neg (by decide), e3, b1_e, b2i_t]
    by_cases c : crsB now k (bt F n k) (othN now k (otN k (pS now F n k) (bt F n k))) = true
    · rw [if_pos c]
      exact h81 1 (by rw [if_pos c])
    · rw [if_neg c]
      exact h81 0 (by rw [if_neg c])
theorem walk_c (h : lin kinds ticks drums marks sT sH values now) {F n j : Nat} (hn : n = nn now) (hw : way now F n) (hj : j < n) (wp l r : Int32) : ∃ rr wp2, f_Hands_walk wp l r kinds ticks drums marks sT sH (nI n) values (nI (rvN F n n)) (nI j) = some (rr, wp2, nI (aL (j + 1) (pS now F n (j + 1))), nI (aR (j + 1) (pS now F n (j + 1)))) := by
  have hn20 := (wf_n h.1).1
  unfold f_Hands_walk
  have e : f_Arms_hold l r 0 0 0 = some (nI 0, nI 0) := rfl
  rw [e, b2_e]
  exact wk23 h hn hw hj (j + 1) 0 fu 0 (by omega) (by unfold fu; omega)
/-- where both are after a note of the best way -/
theorem way_x {F n j : Nat} (hw : way now F n) (hj : j < n) : crL now (aL (j + 1) (pS now F n (j + 1))) (aR (j + 1) (pS now F n (j + 1))) = crsB now j (bt F n j) (pS now F n (j + 1)).2.1 := by
  obtain ⟨⟨a, htr⟩, -⟩ := hw.2 j hj
  obtain ⟨q1, q2, q3, q4⟩ := trN_i htr
  have hb2 := bt_2 F n j
  rw [q2, (a_n hb2).1, (a_n hb2).2]
  dsimp only
  generalize bt F n j = h at hb2 ⊢
  rcases (show h = 0 ∨ h = 1 by omega) with q | q <;> subst q
  · rw [if_pos rfl, if_pos rfl, crL_0]
  · rw [if_neg (by omega), if_neg (by omega), crL_1]
end WALK
