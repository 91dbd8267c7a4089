section OPS10
variable {bits sizes numbers mbits msizes msheets : Nat → Int32}
theorem wide (x : Int32) : x.toInt64.toInt = x.toInt := Int32.toInt_toInt64 x
theorem cmp_w {a n z : Int32} : (0 < lg_cmp (a.toInt64 + n.toInt64) z.toInt64) ↔ z.toInt < a.toInt + n.toInt := by
  rw [lg_cmp_gt, Int64.lt_iff_toInt_lt, Int64.toInt_add, wide, wide, wide]
  have h1 := rng a
  have h2 := rng n
  have e : (a.toInt + n.toInt).bmod (2 ^ 64) = a.toInt + n.toInt := Int.bmod_eq_of_le (by omega) (by omega)
  rw [e]
theorem cmp_w2 {a n z : Int32} : (lg_cmp (a.toInt64 + n.toInt64) z.toInt64 ≤ 0) ↔ a.toInt + n.toInt ≤ z.toInt := by
  rw [lg_cmp_le, Int64.le_iff_toInt_le, Int64.toInt_add, wide, wide, wide]
  have h1 := rng a
  have h2 := rng n
  have e : (a.toInt + n.toInt).bmod (2 ^ 64) = a.toInt + n.toInt := Int.bmod_eq_of_le (by omega) (by omega)
  rw [e]
theorem span_e {s z : Nat} (hs : s < 4) (hz : z ≤ 24) (ez : sizes s = nI z) (p2 p3 : Int32) : f_Sheets_hasSpan sizes (nI s) p2 p3 = some (if 0 ≤ p2.toInt ∧ 0 ≤ p3.toInt ∧ p2.toInt + p3.toInt ≤ (z : Int) then 1 else 0) := by
  unfold f_Sheets_hasSpan
  have z0 : (0 : Int32).toInt = 0 := rfl
  have e : (nI z).toInt = (z : Int) := ito (by omega)
  simp only [rd_n (n := 4) (j := s) (by omega) (by omega), ez]
  by_cases c1 : p2 < 0
  · rw [if_pos c1, if_neg (by rw [ltI, z0] at c1; omega)]
  · rw [if_neg c1]
    rw [ltI, z0] at c1
    by_cases c2 : p3 < 0
    · rw [if_pos c2, if_neg (by rw [ltI, z0] at c2; omega)]
    · rw [if_neg c2]
      rw [ltI, z0] at c2
      by_cases c3 : nI z < p2
      · rw [if_pos c3, if_neg (by rw [ltI, e] at c3; omega)]
      · rw [if_neg c3]
        rw [ltI, e] at c3
        have e2 : (nI z - p2).toInt = (z : Int) - p2.toInt := by
          rw [← zI_self p2, ← zI_nI, zI_sub, zI_toInt (by omega) (by omega), zI_toInt (by omega) (by omega)]
        by_cases c4 : nI z - p2 < p3
        · rw [if_pos c4, if_neg (by rw [ltI, e2] at c4; omega)]
        · rw [if_neg c4, if_pos (by rw [ltI, e2] at c4; omega)]
theorem cp2_e {t to n : Nat} (ht : t < 4) (hto : to + n ≤ 24) (x : Int32) (carried : Nat → Int32) : ∀ (d i N : Nat) (f : Nat → Int32), i + d = n → d < N → f_Model_copy_164 mbits msizes N (nI t) (nI to) (nI n) (nI i) x f carried = some (nI n, x, wr f carried (24 * t + to) 0 i n, carried) := by
  intro d
  induction d with
  | zero =>
    intro i N f h1 h2
    obtain ⟨N, rfl⟩ : ∃ m, N = m + 1 := ⟨N - 1, by omega⟩
    show f_Model_copy_164_b mbits msizes (f_Model_copy_164 mbits msizes N) (nI t) (nI to) (nI n) (nI i) x f carried = _
    unfold f_Model_copy_164_b
    obtain rfl : i = n := by omega
    rw [if_pos (nI_le (by omega) (by omega)), wr_0]
  | succ d ih =>
    intro i N f h1 h2
    obtain ⟨N, rfl⟩ : ∃ m, N = m + 1 := ⟨N - 1, by omega⟩
    show f_Model_copy_164_b mbits msizes (f_Model_copy_164 mbits msizes N) (nI t) (nI to) (nI n) (nI i) x f carried = _
    unfold f_Model_copy_164_b
    have e9 : nI i + 1 = nI (i + 1) := nI_1 i
    rw [if_neg (nI_ge (by omega) (by omega)), rd_n (by omega) (by omega), m_24, add_n, ck_n (by omega) (by omega), cl_n (by omega), nm_e1, e9, ih (i + 1) N _ (by omega) (by omega)]
    have e := wr_s (f := f) (g := carried) (a := 24 * t + to) (b := 0) (i := i) (n := n) (by omega)
    rw [Nat.zero_add] at e
    rw [e]
theorem cp1_e {s fr t to n : Nat} (hs : s < 4) (ht : t < 4) (hfr : fr + n ≤ 24) (hto : to + n ≤ 24) (x : Int32) (f : Nat → Int32) : ∀ (d i N : Nat) (carried : Nat → Int32), i + d = n → d < N → f_Model_copy_127 mbits msizes N (nI s) (nI fr) (nI t) (nI to) (nI n) (nI i) x f carried = some (nI n, x, wr f (wr carried f 0 (24 * s + fr) i n) (24 * t + to) 0 0 n, wr carried f 0 (24 * s + fr) i n) := by
  intro d
  induction d with
  | zero =>
    intro i N carried h1 h2
    obtain ⟨N, rfl⟩ : ∃ m, N = m + 1 := ⟨N - 1, by omega⟩
    show f_Model_copy_127_b mbits msizes (f_Model_copy_127 mbits msizes N) (nI s) (nI fr) (nI t) (nI to) (nI n) (nI i) x f carried = _
    unfold f_Model_copy_127_b
    obtain rfl : i = n := by omega
    rw [if_pos (nI_le (by omega) (by omega)), wr_0]
    exact cp2_e ht hto x carried i 0 fu f (by omega) (by unfold fu; omega)
  | succ d ih =>
    intro i N carried h1 h2
    obtain ⟨N, rfl⟩ : ∃ m, N = m + 1 := ⟨N - 1, by omega⟩
    show f_Model_copy_127_b mbits msizes (f_Model_copy_127 mbits msizes N) (nI s) (nI fr) (nI t) (nI to) (nI n) (nI i) x f carried = _
    unfold f_Model_copy_127_b
    have e9 : nI i + 1 = nI (i + 1) := nI_1 i
    rw [if_neg (nI_ge (by omega) (by omega)), m_24, add_n, rd_n (by omega) (by omega), ck_n (by omega) (by omega), cl_n (by omega), nm_e1, e9, ih (i + 1) N _ (by omega) (by omega)]
    have e := wr_s (f := carried) (g := f) (a := 0) (b := 24 * s + fr) (i := i) (n := n) (by omega)
    rw [Nat.zero_add] at e
    rw [e]
theorem op_copy (hSh : shs bits sizes numbers mbits msizes msheets) (x p1 p2 p3 p4 p5 : Int32) (carried : Nat → Int32) : ∃ r y numbers2 msheets2 carried2, f_Room_copy x bits sizes numbers p1 p2 p3 p4 p5 = some (r, y, numbers2) ∧ f_Model_copy x mbits msizes msheets carried p1 p2 p3 p4 p5 = some (r, y, msheets2, carried2) ∧ shs bits sizes numbers2 mbits msizes msheets2 := by
  unfold f_Room_copy f_Model_copy
  rw [isB (p := p1) (q := 4) (z := 4) rfl, isB (p := p3) (q := 4) (z := 4) rfl, msh, msh]
  by_cases c1 : 0 ≤ p1.toInt ∧ p1.toInt < 4
  · rw [if_pos c1, if_pos (show 0 ≤ p1.toInt ∧ p1.toInt ≤ 3 by omega)]
    by_cases c2 : 0 ≤ p3.toInt ∧ p3.toInt < 4
    · rw [if_pos c2, if_pos (show 0 ≤ p3.toInt ∧ p3.toInt ≤ 3 by omega)]
      obtain ⟨s, hs, rfl⟩ := at_n (n := 4) c1
      obtain ⟨t, ht, rfl⟩ := at_n (n := 4) c2
      obtain ⟨s1, s2, s3, s4⟩ := hSh.1 s hs
      obtain ⟨t1, t2, t3, t4⟩ := hSh.1 t ht
      obtain ⟨z, ez, z1, z2, z3⟩ := inat s4 (by omega)
      obtain ⟨v, ev, v1, v2, v3⟩ := inat t4 (by omega)
      rw [mis_e hSh hs, mis_e hSh ht]
      simp only [b1_e, i10, rd_n (n := 4) (j := s) (by omega) (by omega), rd_n (n := 4) (j := t) (by omega) (by omega), s1, t1, ez, ev, span_e hs (show z ≤ 24 by omega) (s2.trans ez), span_e ht (show v ≤ 24 by omega) (t2.trans ev), nm_e1]
      by_cases c3 : mbits s = 0
      · simp only [if_pos c3, i10, rfd, mfd, b2_e]
        exact ⟨_, _, _, _, _, rfl, rfl, hSh⟩
      · by_cases c4 : mbits t = 0
        · simp only [if_neg c3, if_pos c4, i10, i00, b1_e, rfd, mfd, b2_e]
          exact ⟨_, _, _, _, _, rfl, rfl, hSh⟩
        · by_cases c5 : mbits s = mbits t
          · have z0 : (0 : Int32).toInt = 0 := rfl
            have ezz : (nI z).toInt = (z : Int) := ito (by omega)
            have evv : (nI v).toInt = (v : Int) := ito (by omega)
            by_cases c6 : (0 ≤ p2.toInt ∧ 0 ≤ p5.toInt ∧ p2.toInt + p5.toInt ≤ (z : Int)) ∧ (0 ≤ p4.toInt ∧ 0 ≤ p5.toInt ∧ p4.toInt + p5.toInt ≤ (v : Int))
            · obtain ⟨fr, hfr, rfl⟩ := at_le (p := p2) (n := 24) ⟨c6.1.1, by omega⟩
              obtain ⟨to, hto, rfl⟩ := at_le (p := p4) (n := 24) ⟨c6.2.1, by omega⟩
              obtain ⟨n, hn, rfl⟩ := at_le (p := p5) (n := 24) ⟨c6.1.2.1, by omega⟩
              have f1 : (nI fr).toInt = (fr : Int) := ito (by omega)
              have f2 : (nI to).toInt = (to : Int) := ito (by omega)
              have f3 : (nI n).toInt = (n : Int) := ito (by omega)
              have hb1 : fr + n ≤ 24 := by omega
              have hb2 : to + n ≤ 24 := by omega
              have g1 : ¬ nI fr < 0 := nI_pos (by omega)
              have g2 : ¬ nI to < 0 := nI_pos (by omega)
              have g3 : ¬ nI n < 0 := nI_pos (by omega)
              have g4 : ¬ 0 < lg_cmp ((nI fr).toInt64 + (nI n).toInt64) (nI z).toInt64 := by rw [cmp_w]; omega
              have g5 : lg_cmp ((nI to).toInt64 + (nI n).toInt64) (nI v).toInt64 ≤ 0 := by rw [cmp_w2]; omega
              have hmv : f_Sheets_move numbers (nI s) (nI fr) (nI t) (nI to) (nI n) = some (va_cpy numbers numbers (24 * s + fr) (24 * t + to) n) := by
                unfold f_Sheets_move mv
                rw [i_24, i_24, cl_n (by omega), cl_n (by omega), cl_n (by omega), if_neg]
                intro h
                rcases h with h | h | h | h | h
                · exact nI_pos (by omega) h
                · exact nI_pos (by omega) h
                · exact nI_pos (by omega) h
                · omega
                · omega
              have hcp := cp1_e (mbits := mbits) (msizes := msizes) hs ht hb1 hb2 x msheets n 0 fu carried (by omega) (by unfold fu; omega)
              have hcp' : f_Model_copy_127 mbits msizes fu (nI s) (nI fr) (nI t) (nI to) (nI n) 0 x msheets carried = _ := hcp
              simp only [if_neg c3, if_neg c4, if_pos c5, if_pos c6.1, if_pos c6.2, i00, i10, b1_e, hmv, if_neg g1, if_neg g2, if_neg g3, if_neg g4, if_pos g5, hcp']
              refine ⟨_, _, _, _, _, rfl, rfl, hSh.1, fun k hk => ?_⟩
              unfold va_cpy wr
              by_cases c : 24 * t + to ≤ k ∧ k < 24 * t + to + n
              · rw [if_pos c, if_pos (by omega), if_pos (by omega)]
                rw [hSh.2 _ (by omega)]
                congr 1
                omega
              · rw [if_neg c, if_neg (by omega)]
                exact hSh.2 k hk
            · have hR : ∀ A B : Option (Int32 × Int32 × (Nat → Int32)), (if (if 0 ≤ p2.toInt ∧ 0 ≤ p5.toInt ∧ p2.toInt + p5.toInt ≤ (z : Int) then (1 : Int32) else 0) = 0 then A else if (if 0 ≤ p4.toInt ∧ 0 ≤ p5.toInt ∧ p4.toInt + p5.toInt ≤ (v : Int) then (1 : Int32) else 0) = 0 then A else B) = A := by
                intro A B
                by_cases d : 0 ≤ p2.toInt ∧ 0 ≤ p5.toInt ∧ p2.toInt + p5.toInt ≤ (z : Int)
                · rw [if_pos d, i10, if_neg (show ¬ (0 ≤ p4.toInt ∧ 0 ≤ p5.toInt ∧ p4.toInt + p5.toInt ≤ (v : Int)) from fun h => c6 ⟨d, h⟩), i00]
                · rw [if_neg d, i00]
              have hM : ∀ A B : Option (Int32 × Int32 × (Nat → Int32) × (Nat → Int32)), (if p2 < 0 then A else if p4 < 0 then A else if p5 < 0 then A else if 0 < lg_cmp (p2.toInt64 + p5.toInt64) (nI z).toInt64 then A else if lg_cmp (p4.toInt64 + p5.toInt64) (nI v).toInt64 ≤ 0 then B else A) = A := by
                intro A B
                by_cases d1 : p2 < 0
                · rw [if_pos d1]
                · rw [if_neg d1]
                  by_cases d2 : p4 < 0
                  · rw [if_pos d2]
                  · rw [if_neg d2]
                    by_cases d3 : p5 < 0
                    · rw [if_pos d3]
                    · rw [if_neg d3]
                      by_cases d4 : 0 < lg_cmp (p2.toInt64 + p5.toInt64) (nI z).toInt64
                      · rw [if_pos d4]
                      · rw [if_neg d4, if_neg]
                        intro d5
                        rw [ltI, z0] at d1 d2 d3
                        rw [cmp_w, ezz] at d4
                        rw [cmp_w2, evv] at d5
                        exact c6 ⟨⟨by omega, by omega, by omega⟩, by omega, by omega, by omega⟩
              simp only [if_neg c3, if_neg c4, if_pos c5, i00, b1_e, rfd, b2_e, hR, hM]
              unfold f_Model_copy_117
              simp only [mfd, b2_e]
              exact ⟨_, _, _, _, _, rfl, rfl, hSh⟩
          · simp only [if_neg c3, if_neg c4, if_neg c5, i00, b1_e, rfd, mfd, b2_e]
            exact ⟨_, _, _, _, _, rfl, rfl, hSh⟩
    · rw [if_neg c2, if_neg (show ¬ (0 ≤ p3.toInt ∧ p3.toInt ≤ 3) by omega)]
      simp only [b1_e, i10, i00, rfd, mfd, b2_e]
      exact ⟨_, _, _, _, _, rfl, rfl, hSh⟩
  · rw [if_neg c1, if_neg (show ¬ (0 ≤ p1.toInt ∧ p1.toInt ≤ 3) by omega)]
    simp only [b1_e, i00, rfd, mfd, b2_e]
    exact ⟨_, _, _, _, _, rfl, rfl, hSh⟩
end OPS10
