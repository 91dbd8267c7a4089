section BASS
variable {kinds ticks drums marks values counts hits now : Nat → Int32} {count there : Int32}
theorem i_t {α : Type} (a b : α) : (if True then a else b) = a := if_pos trivial
theorem c82 (now : Nat → Int32) : ∀ (N : Nat) (l : Int32), f_Model_bassOf_82 now N l = f_Model_bassOf_82 (fun _ => now 1) N l := by
  intro N
  induction N with
  | zero => intro l; rfl
  | succ N ih =>
    intro l
    show f_Model_bassOf_82_b now (f_Model_bassOf_82 now N) l = f_Model_bassOf_82_b (fun _ => now 1) (f_Model_bassOf_82 (fun _ => now 1) N) l
    unfold f_Model_bassOf_82_b
    simp only [rd_l (n := 187) (i := 1) 1 rfl (by omega) (by omega), nm_e1, ih]
theorem c49 (now : Nat → Int32) : ∀ (N : Nat) (a l : Int32), f_Model_bassOf_49 now N a l = f_Model_bassOf_49 (fun _ => now 1) N a l := by
  intro N
  induction N with
  | zero => intro a l; rfl
  | succ N ih =>
    intro a l
    show f_Model_bassOf_49_b now (f_Model_bassOf_49 now N) a l = f_Model_bassOf_49_b (fun _ => now 1) (f_Model_bassOf_49 (fun _ => now 1) N) a l
    unfold f_Model_bassOf_49_b
    simp only [rd_l (n := 187) (i := 1) 1 rfl (by omega) (by omega), nm_e1, ih, c82 now fu]
theorem own_d : ∀ b : Fin 32, ∀ w : Fin 5, b.val = 0 ∨ ∃ r : Fin 5, f_Basses_owner_9 (nI b.val) fu (nI w.val) (nI w.val) = some (nI r.val) ∧ f_Model_bassOf_49 (fun _ => nI b.val) fu (nI w.val) (nI w.val) = some (nI r.val) := by decide +kernel
theorem wri_d : ∀ s : Fin 3, ∀ k : Fin 20, ∃ w : Fin 5, f_Basses_written (nI s.val) (nI k.val) = some (nI w.val) ∧ (if nI s.val = 0 then jrem (nI k.val) 5 else if nI s.val = 1 then 4 - jrem (nI k.val) 5 else if 5 ≤ jrem (nI k.val) 8 then 8 - jrem (nI k.val) 8 else jrem (nI k.val) 8) = nI w.val := by decide +kernel
noncomputable def own (b s k : Nat) : Nat := match f_Basses_owner (nI b) (nI s) (nI k) with
  | some v => v.toNatClampNeg
  | none => 0
theorem own_e {b s k : Nat} (hb : 0 < b) (hb2 : b < 32) (hs : s < 3) (hk : k < 20) (h1 : now 1 = nI b) : own b s k < 5 ∧ f_Basses_owner (nI b) (nI s) (nI k) = some (nI (own b s k)) ∧ f_Model_bassOf now (nI s) (nI k) = some (nI (own b s k)) := by
  obtain ⟨w, e1, e2⟩ := wri_d ⟨s, hs⟩ ⟨k, hk⟩
  rcases own_d ⟨b, hb2⟩ w with z | ⟨r, e3, e4⟩
  · exact absurd z (by show b ≠ 0; omega)
  dsimp only at e1 e2 e3 e4
  have g1 : f_Basses_owner (nI b) (nI s) (nI k) = some (nI r.val) := by
    unfold f_Basses_owner
    rw [e1, b1_e, e3]
  have g2 : own b s k = r.val := by
    unfold own
    rw [g1]
    exact cl_n (by omega)
  have g3 : f_Model_bassOf now (nI s) (nI k) = some (nI r.val) := by
    unfold f_Model_bassOf f_Model_bassOf_45
    simp only [nm_e1]
    have e5 : ∀ z : Int32, z = nI w.val → f_Model_bassOf_49 now fu z z = some (nI r.val) := by
      intro z hz
      rw [hz, c49, h1, e4]
    by_cases c0 : nI s = 0
    · rw [if_pos c0] at e2 ⊢
      exact e5 _ e2
    · rw [if_neg c0] at e2 ⊢
      by_cases c1 : nI s = 1
      · rw [if_pos c1] at e2 ⊢
        exact e5 _ e2
      · rw [if_neg c1] at e2 ⊢
        by_cases c2 : 5 ≤ jrem (nI k) 8
        · rw [if_pos c2] at e2 ⊢
          exact e5 _ e2
        · rw [if_neg c2] at e2 ⊢
          exact e5 _ e2
  rw [g2]
  exact ⟨r.isLt, g1, g3⟩
theorem run_c {n : Nat} (hn : n ≤ 20) (p1 p2 : Int32) : f_Room_isRun (nI n) p1 p2 = some (if (0 ≤ p1.toInt ∧ p1.toInt < (n : Int)) ∧ (0 ≤ p2.toInt ∧ p2.toInt < (n : Int)) ∧ p1.toInt ≤ p2.toInt then 1 else 0) := by
  unfold f_Room_isRun
  rw [hasN hn, hasN hn]
  by_cases c1 : 0 ≤ p1.toInt ∧ p1.toInt < (n : Int)
  · by_cases c2 : 0 ≤ p2.toInt ∧ p2.toInt < (n : Int)
    · simp only [if_pos c1, if_pos c2, b1_e, i10]
      by_cases c3 : p2 < p1
      · rw [if_pos c3, if_neg (by rw [ltI] at c3; omega)]
      · rw [if_neg c3, if_pos ⟨c1, c2, by rw [ltI] at c3; omega⟩]
    · simp only [if_pos c1, if_neg c2, b1_e, i10, i00, i_t]
      rw [if_neg (fun h => c2 h.2.1)]
  · simp only [if_neg c1, b1_e, i00, i_t]
    rw [if_neg (fun h => c1 h.1)]
theorem run_m {n : Nat} (hn : n ≤ 20) (h0 : now 0 = nI n) (p1 p2 p3 : Int32) : f_Model_isRun now p1 p2 p3 = some (if ((0 ≤ p1.toInt ∧ p1.toInt < (n : Int)) ∧ (0 ≤ p2.toInt ∧ p2.toInt < (n : Int)) ∧ p1.toInt ≤ p2.toInt) ∧ 0 ≤ p3.toInt ∧ p3.toInt < 3 then 1 else 0) := by
  unfold f_Model_isRun
  rw [isN h0 hn, isN h0 hn, wit (p := p3) (lo := 0) (hi := 2) (a := 0) (b := 2) rfl rfl]
  by_cases c1 : 0 ≤ p1.toInt ∧ p1.toInt < (n : Int)
  · by_cases c2 : 0 ≤ p2.toInt ∧ p2.toInt < (n : Int)
    · simp only [if_pos c1, if_pos c2, b1_e, i10]
      by_cases c3 : p2 < p1
      · rw [if_pos c3, if_neg (by rw [ltI] at c3; omega)]
      · rw [if_neg c3]
        by_cases c4 : 0 ≤ p3.toInt ∧ p3.toInt ≤ 2
        · simp only [if_pos c4, b1_e, i10]
          rw [if_pos ⟨⟨c1, c2, by rw [ltI] at c3; omega⟩, by omega⟩]
        · simp only [if_neg c4, b1_e, i00, i_t]
          rw [if_neg (fun h => c4 (by omega))]
    · simp only [if_pos c1, if_neg c2, b1_e, i10, i00, i_t]
      rw [if_neg (fun h => c2 h.1.2.1)]
  · simp only [if_neg c1, b1_e, i00, i_t]
    rw [if_neg (fun h => c1 h.1.1)]
theorem op_split (hR : rep kinds ticks drums marks count values there counts hits now) (hW : wf now) (x p1 p2 p3 p4 : Int32) : ∃ r y, f_Room_split x count there p1 p2 p3 p4 = some (r, y) ∧ f_Model_split now x p1 p2 p3 p4 = some (r, y) := by
  obtain ⟨hn, h0⟩ := wf_n hW
  have ec : count = nI (nn now) := hR.1.trans h0
  obtain ⟨b, eb, b1', b2', b3'⟩ := inat hW.2.1 (by omega)
  have et : there = nI b := hR.2.1.trans eb
  unfold f_Room_split f_Model_split f_Room_split_29
  rw [ec, et, run_c hn, run_m hn h0, isB (p := p3) (q := 3) (z := 3) rfl, wit (p := p4) (lo := p1) (hi := p2) (a := p1.toInt) (b := p2.toInt) rfl rfl]
  by_cases c1 : (0 ≤ p1.toInt ∧ p1.toInt < (nn now : Int)) ∧ (0 ≤ p2.toInt ∧ p2.toInt < (nn now : Int)) ∧ p1.toInt ≤ p2.toInt
  · by_cases c2 : 0 ≤ p3.toInt ∧ p3.toInt < 3
    · simp only [if_pos c1, if_pos c2, if_pos (show ((0 ≤ p1.toInt ∧ p1.toInt < (nn now : Int)) ∧ (0 ≤ p2.toInt ∧ p2.toInt < (nn now : Int)) ∧ p1.toInt ≤ p2.toInt) ∧ 0 ≤ p3.toInt ∧ p3.toInt < 3 from ⟨c1, c2⟩), b1_e, i10]
      by_cases c3 : p1.toInt ≤ p4.toInt ∧ p4.toInt ≤ p2.toInt
      · have d1 : ¬ p4 < p1 := by rw [ltI]; omega
        have d2 : p4 ≤ p2 := by rw [leI]; omega
        obtain ⟨i, hi, rfl⟩ := at_n c1.1
        obtain ⟨s, hs, rfl⟩ := at_n (n := 3) c2
        have q1 : (nI i).toInt = (i : Int) := ito (by omega)
        obtain ⟨j, hj, rfl⟩ := at_n (p := p4) (n := nn now) (by omega)
        have q2 : (nI j).toInt = (j : Int) := ito (by omega)
        simp only [if_neg d1, if_pos d2, if_pos c3, i10, rd_l (n := 187) (i := 1) 1 rfl (by omega) (by omega), eb, sub_n (show i ≤ j by omega)]
        by_cases c4 : nI b = 0
        · simp only [if_pos c4, rfd, mfd, b2_e]
          exact ⟨_, _, rfl, rfl⟩
        · have hb0 : 0 < b := by
            rcases Nat.eq_zero_or_pos b with z | z
            · exact absurd (by rw [z]; rfl) c4
            · exact z
          obtain ⟨o1, o2, o3⟩ := own_e (now := now) hb0 (show b < 32 by omega) hs (show j - i < 20 by omega) eb
          rw [if_neg c4, if_neg c4, o2, o3]
          exact ⟨_, _, rfl, rfl⟩
      · simp only [if_neg c3, i00, rfd, mfd, b2_e]
        by_cases d1 : p4 < p1
        · rw [if_pos d1]
          exact ⟨_, _, rfl, rfl⟩
        · have d2 : ¬ p4 ≤ p2 := by rw [leI]; rw [ltI] at d1; omega
          rw [if_neg d1, if_neg d2]
          exact ⟨_, _, rfl, rfl⟩
    · simp only [if_pos c1, if_neg c2, if_neg (show ¬ (((0 ≤ p1.toInt ∧ p1.toInt < (nn now : Int)) ∧ (0 ≤ p2.toInt ∧ p2.toInt < (nn now : Int)) ∧ p1.toInt ≤ p2.toInt) ∧ 0 ≤ p3.toInt ∧ p3.toInt < 3) from fun h => c2 h.2), b1_e, i10, i00, rfd, mfd, b2_e]
      exact ⟨_, _, rfl, rfl⟩
  · simp only [if_neg c1, if_neg (show ¬ (((0 ≤ p1.toInt ∧ p1.toInt < (nn now : Int)) ∧ (0 ≤ p2.toInt ∧ p2.toInt < (nn now : Int)) ∧ p1.toInt ≤ p2.toInt) ∧ 0 ≤ p3.toInt ∧ p3.toInt < 3) from fun h => c1 h.1), b1_e, i00, rfd, mfd, b2_e]
    exact ⟨_, _, rfl, rfl⟩
end BASS
