section OPSA
variable {kinds ticks drums marks values counts hits now : Nat → Int32} {count there : Int32}
def scs (f : Nat → Int32) : Nat → Nat → Int32 → Int32
  | _, 0, acc => acc
  | i, d + 1, acc => scs f (i + 1) d (acc + f i)
def mkc (x : Nat → Int32) : Nat → Nat → Nat
  | _, 0 => 0
  | i, d + 1 => (if x (67 + i) < 0 then 0 else 1) + mkc x (i + 1) d
theorem scs_c {f g : Nat → Int32} : ∀ (d i : Nat) (acc : Int32), (∀ k, i ≤ k → k < i + d → f k = g k) → scs f i d acc = scs g i d acc := by
  intro d
  induction d with
  | zero => intro i acc h; rfl
  | succ d ih =>
    intro i acc h
    show scs f (i + 1) d (acc + f i) = scs g (i + 1) d (acc + g i)
    rw [h i (Nat.le_refl i) (by omega)]
    exact ih (i + 1) _ (fun k h1 h2 => h k (by omega) (by omega))
theorem ca_e (counts : Nat → Int32) : ∀ (d i N : Nat) (acc : Int32), i + d = 4 → d < N → f_Tapes_countAll_4 counts N acc (nI i) = some (scs counts i d acc) := by
  intro d
  induction d with
  | zero =>
    intro i N acc h1 h2
    obtain ⟨N, rfl⟩ : ∃ m, N = m + 1 := ⟨N - 1, by omega⟩
    obtain rfl : i = 4 := by omega
    rfl
  | succ d ih =>
    intro i N acc h1 h2
    obtain ⟨N, rfl⟩ : ∃ m, N = m + 1 := ⟨N - 1, by omega⟩
    show f_Tapes_countAll_4_b counts (f_Tapes_countAll_4 counts N) acc (nI i) = _
    unfold f_Tapes_countAll_4_b
    have e9 : nI i + 1 = nI (i + 1) := nI_1 i
    rw [if_neg (show ¬ (4 : Int32) ≤ nI i from nI_ge (b := 4) (by omega) (by omega)), rd_n (by omega) (by omega), nm_e1, nm_e1, e9, ih (i + 1) N _ (by omega) (by omega)]
    rfl
def pick5 (w a b c d e : Int32) : Int32 := if w = 0 then a else if w = 1 then b else if w = 2 then c else if w = 3 then d else e
theorem ma_e (now : Nat → Int32) (w mk x : Int32) : ∀ (d i N : Nat) (acc : Int32), i + d = 4 → d < N → f_Model_all_64 now N w mk acc (nI i) x = some (pick5 w (now 0) mk (now 1) (scs (fun k => now (87 + k)) i d acc) x, x) := by
  intro d
  induction d with
  | zero =>
    intro i N acc h1 h2
    obtain ⟨N, rfl⟩ : ∃ m, N = m + 1 := ⟨N - 1, by omega⟩
    obtain rfl : i = 4 := by omega
    show f_Model_all_64_b now (f_Model_all_64 now N) w mk acc (nI 4) x = _
    unfold f_Model_all_64_b pick5
    rw [if_pos (show (4 : Int32) ≤ nI 4 by decide), rd_l (n := 187) (i := 0) 0 rfl (by omega) (by omega), rd_l (n := 187) (i := 1) 1 rfl (by omega) (by omega)]
    by_cases c0 : w = 0
    · rw [if_pos c0, if_pos c0]
    · rw [if_neg c0, if_neg c0]
      by_cases c1 : w = 1
      · rw [if_pos c1, if_pos c1]
      · rw [if_neg c1, if_neg c1]
        by_cases c2 : w = 2
        · rw [if_pos c2, if_pos c2]
        · rw [if_neg c2, if_neg c2]
          by_cases c3 : w = 3
          · rw [if_pos c3, if_pos c3]; rfl
          · rw [if_neg c3, if_neg c3]
  | succ d ih =>
    intro i N acc h1 h2
    obtain ⟨N, rfl⟩ : ∃ m, N = m + 1 := ⟨N - 1, by omega⟩
    show f_Model_all_64_b now (f_Model_all_64 now N) w mk acc (nI i) x = _
    unfold f_Model_all_64_b
    have e9 : nI i + 1 = nI (i + 1) := nI_1 i
    have a87 : (87 : Int32) + nI i = nI (87 + i) := add_n 87 i
    rw [if_neg (show ¬ (4 : Int32) ≤ nI i from nI_ge (b := 4) (by omega) (by omega)), a87, rd_n (by omega) (by omega), nm_e1, nm_e1, e9, ih (i + 1) N _ (by omega) (by omega)]
    rfl
theorem mb_e {n : Nat} (hn : n ≤ 20) (h0 : now 0 = nI n) (w x : Int32) : ∀ (d i N mk : Nat), i + d = n → d < N → f_Model_all_23 now N w (nI mk) 0 (nI i) x = some (pick5 w (now 0) (nI (mk + mkc now i d)) (now 1) (scs (fun k => now (87 + k)) 0 4 0) x, x) := by
  intro d
  induction d with
  | zero =>
    intro i N mk h1 h2
    obtain ⟨N, rfl⟩ : ∃ m, N = m + 1 := ⟨N - 1, by omega⟩
    obtain rfl : i = n := by omega
    show f_Model_all_23_b now (f_Model_all_23 now N) w (nI mk) 0 (nI i) x = _
    unfold f_Model_all_23_b
    rw [rd_l (n := 187) (i := 0) 0 rfl (by omega) (by omega), h0, if_pos (nI_le (by omega) (by omega))]
    have e := ma_e now w (nI mk) x 4 0 fu 0 (by omega) (by unfold fu; omega)
    rw [h0] at e
    exact e
  | succ d ih =>
    intro i N mk h1 h2
    obtain ⟨N, rfl⟩ : ∃ m, N = m + 1 := ⟨N - 1, by omega⟩
    show f_Model_all_23_b now (f_Model_all_23 now N) w (nI mk) 0 (nI i) x = _
    unfold f_Model_all_23_b
    have e9 : nI i + 1 = nI (i + 1) := nI_1 i
    have e8 : nI mk + 1 = nI (mk + 1) := nI_1 mk
    have e7 : nI mk + 0 = nI mk := add_n mk 0
    have a67 : (67 : Int32) + nI i = nI (67 + i) := add_n 67 i
    rw [rd_l (n := 187) (i := 0) 0 rfl (by omega) (by omega), h0, if_neg (nI_ge (by omega) (by omega)), a67, rd_n (by omega) (by omega)]
    simp only [nm_e1, e9, e8, e7]
    rw [ih (i + 1) N mk (by omega) (by omega), ih (i + 1) N (mk + 1) (by omega) (by omega), h0]
    show _ = some (pick5 w (nI n) (nI (mk + ((if now (67 + i) < 0 then 0 else 1) + mkc now (i + 1) d))) (now 1) (scs (fun k => now (87 + k)) 0 4 0) x, x)
    by_cases c : now (67 + i) < 0
    · rw [if_pos c, if_pos c, Nat.zero_add]
    · rw [if_neg c, if_neg c, ← Nat.add_assoc]
theorem cm_e {n : Nat} (hn : n ≤ 20) (hm : ∀ k, k < n → marks k = now (67 + k) ∧ rg (-1) 1 (now (67 + k))) : ∀ (d i N c : Nat), i + d = n → d < N → f_Line_countMarks_4 marks (nI n) N (nI c) (nI i) = some (nI (c + mkc now i d)) := by
  intro d
  induction d with
  | zero =>
    intro i N c h1 h2
    obtain ⟨N, rfl⟩ : ∃ m, N = m + 1 := ⟨N - 1, by omega⟩
    obtain rfl : i = n := by omega
    show f_Line_countMarks_4_b marks (nI i) (f_Line_countMarks_4 marks (nI i) N) (nI c) (nI i) = _
    unfold f_Line_countMarks_4_b
    rw [if_pos (nI_le (by omega) (by omega))]
    rfl
  | succ d ih =>
    intro i N c h1 h2
    obtain ⟨N, rfl⟩ : ∃ m, N = m + 1 := ⟨N - 1, by omega⟩
    show f_Line_countMarks_4_b marks (nI n) (f_Line_countMarks_4 marks (nI n) N) (nI c) (nI i) = _
    unfold f_Line_countMarks_4_b
    have e9 : nI i + 1 = nI (i + 1) := nI_1 i
    have e8 : nI c + 1 = nI (c + 1) := nI_1 c
    obtain ⟨m1, m2, m3⟩ := hm i (by omega)
    rw [if_neg (nI_ge (by omega) (by omega)), rd_n (by omega) (by omega), m1]
    simp only [nm_e1, e9, e8]
    rw [ih (i + 1) N c (by omega) (by omega), ih (i + 1) N (c + 1) (by omega) (by omega)]
    show _ = some (nI (c + ((if now (67 + i) < 0 then 0 else 1) + mkc now (i + 1) d)))
    have q1 : (-1 : Int32).toInt = -1 := rfl
    have q0 : (0 : Int32).toInt = 0 := rfl
    by_cases cc : now (67 + i) < 0
    · have e : now (67 + i) = -1 := by rw [eqI, q1]; rw [ltI, q0] at cc; omega
      rw [if_pos e, if_pos cc, Nat.zero_add]
    · have e : ¬ now (67 + i) = -1 := by rw [eqI, q1]; rw [ltI, q0] at cc; omega
      rw [if_neg e, if_neg cc, ← Nat.add_assoc]
theorem op_all (hR : rep kinds ticks drums marks count values there counts hits now) (hW : wf now) (x p1 : Int32) : ∃ r y, f_Room_all x marks count there counts p1 = some (r, y) ∧ f_Model_all now x p1 = some (r, y) := by
  obtain ⟨r0, r1, r2, r3, r4⟩ := hR
  obtain ⟨hn, h0⟩ := wf_n hW
  unfold f_Room_all f_Model_all
  rw [wit (p := p1) (lo := 0) (hi := 4) (a := 0) (b := 4) rfl rfl]
  have hcm : f_Line_countMarks marks count = some (nI (mkc now 0 (nn now))) := by
    unfold f_Line_countMarks
    rw [r0, h0]
    have e := cm_e (marks := marks) (now := now) hn (fun k hk => ⟨(r3 k hk).2.2.2, (hW.2.2.2.1 k hk).2.2.2⟩) (nn now) 0 fu 0 (by omega) (by unfold fu; omega)
    rw [Nat.zero_add] at e
    exact e
  have hca : f_Tapes_countAll counts = some (scs (fun k => now (87 + k)) 0 4 0) := by
    unfold f_Tapes_countAll
    have e := ca_e counts 4 0 fu 0 (by omega) (by unfold fu; omega)
    rw [scs_c 4 0 0 (fun k _ hk => (r4 k (by omega)).1)] at e
    exact e
  rw [hcm, hca]
  by_cases c : 0 ≤ p1.toInt ∧ p1.toInt ≤ 4
  · have e := mb_e hn h0 p1 x (nn now) 0 fu 0 (by omega) (by unfold fu; omega)
    rw [Nat.zero_add] at e
    have e' : f_Model_all_23 now fu p1 0 0 0 x = _ := e
    rw [if_pos c]
    simp only [b1_e, i10, e']
    unfold pick5
    by_cases c0 : p1 = 0
    · rw [if_pos c0, if_pos c0, r0]; exact ⟨_, _, rfl, rfl⟩
    · rw [if_neg c0, if_neg c0]
      by_cases c1 : p1 = 1
      · rw [if_pos c1, if_pos c1]; exact ⟨_, _, rfl, rfl⟩
      · rw [if_neg c1, if_neg c1]
        by_cases c2 : p1 = 2
        · rw [if_pos c2, if_pos c2, r1]; exact ⟨_, _, rfl, rfl⟩
        · rw [if_neg c2, if_neg c2]
          by_cases c3 : p1 = 3
          · rw [if_pos c3, if_pos c3]; exact ⟨_, _, rfl, rfl⟩
          · have c4 : p1 = 4 := by
              have q0 : p1.toInt ≠ 0 := fun q => c0 (Int32.toInt_inj.mp q)
              have q1 : p1.toInt ≠ 1 := fun q => c1 (Int32.toInt_inj.mp q)
              have q2 : p1.toInt ≠ 2 := fun q => c2 (Int32.toInt_inj.mp q)
              have q3 : p1.toInt ≠ 3 := fun q => c3 (Int32.toInt_inj.mp q)
              rw [eqI]
              show p1.toInt = 4
              omega
            rw [if_neg c3, if_neg c3, if_pos c4]; exact ⟨_, _, rfl, rfl⟩
  · have c0 : ¬ p1 = 0 := fun q => c (by rw [q]; decide)
    have c1 : ¬ p1 = 1 := fun q => c (by rw [q]; decide)
    have c2 : ¬ p1 = 2 := fun q => c (by rw [q]; decide)
    have c3 : ¬ p1 = 3 := fun q => c (by rw [q]; decide)
    have c4 : ¬ p1 = 4 := fun q => c (by rw [q]; decide)
    rw [if_neg c, if_neg c0, if_neg c1, if_neg c2, if_neg c3, if_neg c4]
    simp only [b1_e, i00, rfd, mfd, b2_e]
    exact ⟨_, _, rfl, rfl⟩
end OPSA
