theorem i10 {α : Type} (a b : α) : (if (1 : Int32) = 0 then a else b) = b := if_neg (by decide)
theorem i00 {α : Type} (a b : α) : (if (0 : Int32) = 0 then a else b) = a := if_pos rfl
/-! as, of -/
theorem graces_c {kinds : Nat → Int32} {j : Nat} (hj : j < 20) (hk : rg 0 3 (kinds j)) : f_Line_graces kinds (nI j) = some (sT1 (kinds j).toNatClampNeg) := by
  obtain ⟨k, e, h1, h2, h3⟩ := inat hk (by omega)
  unfold f_Line_graces
  rw [rd_n hj (by omega), e, rd_n (by omega) (by omega), cl_n (by omega)]
theorem graces_m {now : Nat → Int32} {j : Nat} (hj : j < 20) (hk : rg 0 3 (now (7 + j))) : f_Model_graces now (nI j) = some (sT1 (now (7 + j)).toNatClampNeg) := by
  obtain ⟨k, e, h1, h2, h3⟩ := inat hk (by omega)
  unfold f_Model_graces
  have a : (7 : Int32) + nI j = nI (7 + j) := add_n 7 j
  rw [a, rd_n (by omega) (by omega), e, rd_n (by omega) (by omega), e, cl_n (by omega)]
  rcases (show k = 0 ∨ k = 1 ∨ k = 2 ∨ k = 3 by omega) with rfl | rfl | rfl | rfl <;> rfl
theorem op_as {kinds now : Nat → Int32} {n : Nat} (hn : n ≤ 20) (h0 : now 0 = nI n) (hk : ∀ k, k < n → kinds k = now (7 + k) ∧ rg 0 3 (now (7 + k))) (x p1 p2 : Int32) : ∃ r y, f_Room_as x kinds (nI n) p1 p2 = some (r, y) ∧ f_Model_as now x p1 p2 = some (r, y) := by
  unfold f_Room_as f_Model_as
  rw [hasN hn, isN h0 hn]
  by_cases c1 : 0 ≤ p1.toInt ∧ p1.toInt < (n : Int)
  · obtain ⟨j, hj, rfl⟩ := at_n c1
    rw [if_pos c1, b1_e, if_neg (by decide), b1_e, if_neg (by decide), isB (z := 4) rfl, wit (a := 0) (b := 3) rfl rfl]
    by_cases c2 : 0 ≤ p2.toInt ∧ p2.toInt < 4
    · have a : (7 : Int32) + nI j = nI (7 + j) := add_n 7 j
      rw [if_pos c2, if_pos (by omega), b1_e, if_neg (by decide), b1_e, if_neg (by decide), a, rd_n (by omega) (by omega)]
      unfold f_Line_isOfKind
      rw [rd_n (by omega) (by omega), (hk j hj).1]
      generalize now (7 + j) = v
      by_cases d1 : p2 = v
      · subst d1
        rw [if_pos rfl, b1_e, if_neg (by decide)]
        by_cases d2 : p2 = 0
        · rw [if_pos d2]; exact ⟨_, _, rfl, rfl⟩
        · rw [if_neg d2, if_pos rfl]; exact ⟨_, _, rfl, rfl⟩
      · rw [if_neg d1, if_neg (show ¬ v = p2 from fun q => d1 q.symm)]
        by_cases d2 : p2 = 0
        · rw [if_pos d2, if_pos d2]; exact ⟨_, _, rfl, rfl⟩
        · rw [if_neg d2, if_neg d2]
          by_cases d3 : p2 = 2
          · rw [if_pos d3, if_pos d3]
            by_cases d4 : v = 3
            · rw [if_pos d4, if_pos d4]; exact ⟨_, _, rfl, rfl⟩
            · rw [if_neg d4, if_neg d4]; exact ⟨_, _, rfl, rfl⟩
          · rw [if_neg d3, if_neg d3]; exact ⟨_, _, rfl, rfl⟩
    · rw [if_neg c2, if_neg (by omega)]; exact ⟨_, _, rfl, rfl⟩
  · rw [if_neg c1]; exact ⟨_, _, rfl, rfl⟩
theorem op_of {kinds ticks drums now : Nat → Int32} {n : Nat} (hn : n ≤ 20) (h0 : now 0 = nI n) (hk : ∀ k, k < n → kinds k = now (7 + k) ∧ ticks k = now (27 + k) ∧ drums k = now (47 + k) ∧ rg 0 3 (now (7 + k))) (x p1 p2 : Int32) : ∃ r y, f_Room_of x kinds ticks drums (nI n) p1 p2 = some (r, y) ∧ f_Model_of now x p1 p2 = some (r, y) := by
  unfold f_Room_of f_Model_of
  rw [hasN hn, isN h0 hn]
  by_cases c1 : 0 ≤ p1.toInt ∧ p1.toInt < (n : Int)
  · obtain ⟨j, hj, rfl⟩ := at_n c1
    obtain ⟨k1, k2, k3, k4⟩ := hk j hj
    have a7 : (7 : Int32) + nI j = nI (7 + j) := add_n 7 j
    have a27 : (27 : Int32) + nI j = nI (27 + j) := add_n 27 j
    have a47 : (47 : Int32) + nI j = nI (47 + j) := add_n 47 j
    simp only [if_pos c1, b1_e, i10, wit (p := p2) (lo := 0) (hi := 3) (a := 0) (b := 3) rfl rfl, a7, a27, a47, graces_m (show j < 20 by omega) k4, graces_c (show j < 20 by omega) (show rg 0 3 (kinds j) by rw [k1]; exact k4), rd_n (n := 20) (j := j) (by omega) (by omega), rd_n (n := 187) (j := 7 + j) (by omega) (by omega), rd_n (n := 187) (j := 27 + j) (by omega) (by omega), rd_n (n := 187) (j := 47 + j) (by omega) (by omega), k1, k2, k3]
    by_cases d0 : p2 = 0
    · subst d0
      exact ⟨_, _, rfl, rfl⟩
    · by_cases d1 : p2 = 1
      · subst d1
        exact ⟨_, _, rfl, rfl⟩
      · by_cases d2 : p2 = 2
        · subst d2
          exact ⟨_, _, rfl, rfl⟩
        · by_cases d3 : p2 = 3
          · subst d3
            exact ⟨_, _, rfl, rfl⟩
          · have q0 : p2.toInt ≠ 0 := fun q => d0 (Int32.toInt_inj.mp q)
            have q1 : p2.toInt ≠ 1 := fun q => d1 (Int32.toInt_inj.mp q)
            have q2 : p2.toInt ≠ 2 := fun q => d2 (Int32.toInt_inj.mp q)
            have q3 : p2.toInt ≠ 3 := fun q => d3 (Int32.toInt_inj.mp q)
            rw [if_neg d0, if_neg d1, if_neg d2, if_neg d3, if_neg (show ¬ (0 ≤ p2.toInt ∧ p2.toInt ≤ 3) by omega)]
            exact ⟨_, _, rfl, rfl⟩
  · rw [if_neg c1]; exact ⟨_, _, rfl, rfl⟩
