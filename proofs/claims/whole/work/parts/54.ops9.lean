section OPS9
variable {bits sizes numbers mbits msizes msheets : Nat → Int32}
theorem m_24 (p m : Nat) : ((24 : Int32) * nI p) + nI m = nI (24 * p + m) := by
  show nI 24 * nI p + nI m = _
  rw [mul_n, add_n]
theorem bec_e {s : Nat} (hs : s < 4) (b z : Nat → Int32) : ∀ (d i N : Nat) (f : Nat → Int32), i + d = 24 → d < N → f_Sheets_become_25 N (nI s) (nI i) b z f = some (b, z, wr f (fun _ => 0) (24 * s) 0 i 24) := by
  intro d
  induction d with
  | zero =>
    intro i N f h1 h2
    obtain ⟨N, rfl⟩ : ∃ m, N = m + 1 := ⟨N - 1, by omega⟩
    obtain rfl : i = 24 := by omega
    rw [wr_0]
    rfl
  | succ d ih =>
    intro i N f h1 h2
    obtain ⟨N, rfl⟩ : ∃ m, N = m + 1 := ⟨N - 1, by omega⟩
    show f_Sheets_become_25_b (f_Sheets_become_25 N) (nI s) (nI i) b z f = _
    unfold f_Sheets_become_25_b
    have e9 : nI i + 1 = nI (i + 1) := nI_1 i
    rw [if_neg (show ¬ (24 : Int32) ≤ nI i from nI_ge (b := 24) (by omega) (by omega)), i_24, ck_n (by omega) (by omega), cl_n (by omega), nm_e1, e9, ih (i + 1) N _ (by omega) (by omega)]
    rw [wr_s (g := fun _ => 0) (b := 0) (by omega)]
theorem shm_e {s : Nat} (hs : s < 4) (x : Int32) (b z : Nat → Int32) : ∀ (d i N : Nat) (f : Nat → Int32), i + d = 24 → d < N → f_Model_sheet_85 N (nI s) (nI i) x b z f = some (z s, x, b, z, wr f (fun _ => 0) (24 * s) 0 i 24) := by
  intro d
  induction d with
  | zero =>
    intro i N f h1 h2
    obtain ⟨N, rfl⟩ : ∃ m, N = m + 1 := ⟨N - 1, by omega⟩
    obtain rfl : i = 24 := by omega
    show f_Model_sheet_85_b (f_Model_sheet_85 N) (nI s) (nI 24) x b z f = _
    unfold f_Model_sheet_85_b
    rw [if_pos (show (24 : Int32) ≤ nI 24 by decide), rd_n hs (by omega), wr_0]
  | succ d ih =>
    intro i N f h1 h2
    obtain ⟨N, rfl⟩ : ∃ m, N = m + 1 := ⟨N - 1, by omega⟩
    show f_Model_sheet_85_b (f_Model_sheet_85 N) (nI s) (nI i) x b z f = _
    unfold f_Model_sheet_85_b
    have e9 : nI i + 1 = nI (i + 1) := nI_1 i
    rw [if_neg (show ¬ (24 : Int32) ≤ nI i from nI_ge (b := 24) (by omega) (by omega)), m_24, ck_n (by omega) (by omega), cl_n (by omega), nm_e1, e9, ih (i + 1) N _ (by omega) (by omega)]
    rw [wr_s (g := fun _ => 0) (b := 0) (by omega)]
theorem shs_new (h : shs bits sizes numbers mbits msizes msheets) {s : Nat} (hs : s < 4) {b z : Int32} (hb : b = 0 ∨ b = 8 ∨ b = 16 ∨ b = 32) (hz : rg 0 24 z) : shs (upd bits s b) (upd sizes s z) (wr numbers (fun _ => 0) (24 * s) 0 0 24) (upd mbits s b) (upd msizes s z) (wr msheets (fun _ => 0) (24 * s) 0 0 24) := by
  refine ⟨fun k hk => ?_, fun i hi => ?_⟩
  · by_cases c : k = s
    · subst c
      rw [upd_s, upd_s, upd_s, upd_s]
      exact ⟨rfl, rfl, hb, hz⟩
    · rw [upd_n c, upd_n c, upd_n c, upd_n c]
      exact h.1 k hk
  · unfold wr
    by_cases c : 24 * s + 0 ≤ i ∧ i < 24 * s + 24
    · rw [if_pos c, if_pos c]
    · rw [if_neg c, if_neg c]
      exact h.2 i hi
theorem op_sheet (hSh : shs bits sizes numbers mbits msizes msheets) (x p1 p2 p3 : Int32) : ∃ r y bits2 sizes2 numbers2 mbits2 msizes2 msheets2, f_Room_sheet x bits sizes numbers p1 p2 p3 = some (r, y, bits2, sizes2, numbers2) ∧ f_Model_sheet x mbits msizes msheets p1 p2 p3 = some (r, y, mbits2, msizes2, msheets2) ∧ shs bits2 sizes2 numbers2 mbits2 msizes2 msheets2 := by
  unfold f_Room_sheet f_Model_sheet
  rw [isB (p := p1) (q := 4) (z := 4) rfl, msh]
  by_cases c1 : 0 ≤ p1.toInt ∧ p1.toInt < 4
  · obtain ⟨s, hs, rfl⟩ := at_n (n := 4) c1
    rw [if_pos c1, if_pos (show 0 ≤ (nI s).toInt ∧ (nI s).toInt ≤ 3 by omega)]
    simp only [b1_e, i10]
    by_cases c2 : p2 = 0 ∨ p2 = 8 ∨ p2 = 16 ∨ p2 = 32
    · have ha : f_Sheets_areBits p2 = some 1 := by
        rcases c2 with rfl | rfl | rfl | rfl <;> rfl
      have hm : (if p2 = 0 then f_Model_sheet_36 (nI s) p2 p3 x mbits msizes msheets else if p2 = 8 then f_Model_sheet_36 (nI s) p2 p3 x mbits msizes msheets else if p2 = 16 then f_Model_sheet_36 (nI s) p2 p3 x mbits msizes msheets else if p2 = 32 then f_Model_sheet_36 (nI s) p2 p3 x mbits msizes msheets else b2 (f_Model_finding x (-100001)) fun r27 y28 => some (r27, y28, mbits, msizes, msheets)) = f_Model_sheet_36 (nI s) p2 p3 x mbits msizes msheets := by
        rcases c2 with rfl | rfl | rfl | rfl
        · rw [if_pos rfl]
        · rw [if_neg (by decide), if_pos rfl]
        · rw [if_neg (by decide), if_neg (by decide), if_pos rfl]
        · rw [if_neg (by decide), if_neg (by decide), if_neg (by decide), if_pos rfl]
      rw [ha, hm]
      unfold f_Model_sheet_36
      simp only [b1_e, i10]
      have z0 : (0 : Int32).toInt = 0 := rfl
      have z24 : (24 : Int32).toInt = 24 := rfl
      by_cases c3 : 0 ≤ p3
      · by_cases c4 : p3 ≤ 24
        · have hz : rg 0 24 p3 := ⟨by rw [leI, z0] at c3; exact c3, by rw [leI, z24] at c4; exact c4⟩
          have hbe : f_Sheets_become bits sizes numbers (nI s) p2 p3 = some (upd bits s p2, upd sizes s (if p2 = 0 then 0 else p3), wr numbers (fun _ => 0) (24 * s) 0 0 24) := by
            unfold f_Sheets_become
            simp only [ck_n (n := 4) (j := s) hs (by omega), cl_n (show s < 2147483648 by omega)]
            by_cases c : p2 = 0
            · rw [if_pos c, if_pos c]
              exact bec_e hs _ _ 24 0 fu _ (by omega) (by unfold fu; omega)
            · rw [if_neg c, if_neg c]
              exact bec_e hs _ _ 24 0 fu _ (by omega) (by unfold fu; omega)
          rw [if_pos c3, if_pos c4, if_pos c3, if_pos c4, hbe, b3_e, rd_n hs (by omega), upd_s]
          simp only [ck_n (n := 4) (j := s) hs (by omega), cl_n (show s < 2147483648 by omega)]
          by_cases c : p2 = 0
          · rw [if_pos c, if_pos c]
            have e := shm_e hs x (upd mbits s p2) (upd msizes s 0) 24 0 fu msheets (by omega) (by unfold fu; omega)
            rw [upd_s] at e
            exact ⟨_, _, _, _, _, _, _, _, rfl, e, shs_new hSh hs c2 ⟨by decide, by decide⟩⟩
          · rw [if_neg c, if_neg c]
            have e := shm_e hs x (upd mbits s p2) (upd msizes s p3) 24 0 fu msheets (by omega) (by unfold fu; omega)
            rw [upd_s] at e
            exact ⟨_, _, _, _, _, _, _, _, rfl, e, shs_new hSh hs c2 hz⟩
        · simp only [if_pos c3, if_neg c4, rfd, mfd, b2_e]
          exact ⟨_, _, _, _, _, _, _, _, rfl, rfl, hSh⟩
      · simp only [if_neg c3, rfd, mfd, b2_e]
        exact ⟨_, _, _, _, _, _, _, _, rfl, rfl, hSh⟩
    · have d0 : ¬ p2 = 0 := fun h => c2 (Or.inl h)
      have d1 : ¬ p2 = 8 := fun h => c2 (Or.inr (Or.inl h))
      have d2 : ¬ p2 = 16 := fun h => c2 (Or.inr (Or.inr (Or.inl h)))
      have d3 : ¬ p2 = 32 := fun h => c2 (Or.inr (Or.inr (Or.inr h)))
      unfold f_Sheets_areBits
      simp only [if_neg d0, if_neg d1, if_neg d2, if_neg d3, b1_e, i00, rfd, mfd, b2_e]
      exact ⟨_, _, _, _, _, _, _, _, rfl, rfl, hSh⟩
  · rw [if_neg c1, if_neg (show ¬ (0 ≤ p1.toInt ∧ p1.toInt ≤ 3) by omega)]
    simp only [b1_e, i00, rfd, mfd, b2_e]
    exact ⟨_, _, _, _, _, _, _, _, rfl, rfl, hSh⟩
theorem mis_e (hSh : shs bits sizes numbers mbits msizes msheets) {s : Nat} (hs : s < 4) : f_Sheets_isMissing bits (nI s) = some (if mbits s = 0 then 1 else 0) := by
  unfold f_Sheets_isMissing
  rw [rd_n hs (by omega), (hSh.1 s hs).1]
  by_cases c : mbits s = 0
  · rw [if_pos c, if_pos c]
  · rw [if_neg c, if_neg c]
theorem op_put (hSh : shs bits sizes numbers mbits msizes msheets) (x p1 p2 p3 : Int32) : ∃ r y numbers2 msheets2, f_Room_put x bits sizes numbers p1 p2 p3 = some (r, y, numbers2) ∧ f_Model_put x mbits msizes msheets p1 p2 p3 = some (r, y, msheets2) ∧ shs bits sizes numbers2 mbits msizes msheets2 := by
  unfold f_Room_put f_Model_put
  rw [isB (p := p1) (q := 4) (z := 4) rfl, msh]
  by_cases c1 : 0 ≤ p1.toInt ∧ p1.toInt < 4
  · obtain ⟨s, hs, rfl⟩ := at_n (n := 4) c1
    obtain ⟨s1, s2, s3, s4⟩ := hSh.1 s hs
    obtain ⟨z, ez, z1, z2, z3⟩ := inat s4 (by omega)
    rw [if_pos c1, if_pos (show 0 ≤ (nI s).toInt ∧ (nI s).toInt ≤ 3 by omega), mis_e hSh hs]
    simp only [b1_e, i10, rd_n (n := 4) (j := s) (by omega) (by omega), s2, ez]
    by_cases c2 : mbits s = 0
    · simp only [if_pos c2, i10, rfd, mfd, b2_e]
      exact ⟨_, _, _, _, rfl, rfl, hSh⟩
    · have e : (nI z - 1).toInt = (z : Int) - 1 := by
        rw [← zI_nI]
        show (zI z - zI 1).toInt = _
        rw [zI_sub, zI_toInt (by omega) (by omega)]
      rw [if_neg c2, if_neg c2, isB (p := p2) (q := nI z) (z := z) (ito (by omega)), wit (p := p2) (lo := 0) (hi := nI z - 1) (a := 0) (b := (z : Int) - 1) rfl e]
      by_cases c3 : 0 ≤ p2.toInt ∧ p2.toInt < (z : Int)
      · obtain ⟨i, hi, rfl⟩ := at_n c3
        have hw : f_Sheets_write bits numbers (nI s) (nI i) p3 = some (upd numbers (24 * s + i) (jshr (jshl p3 (32 - mbits s)) (32 - mbits s))) := by
          unfold f_Sheets_write
          simp only [rd_n (n := 4) (j := s) (by omega) (by omega), s1, nm_e1, i_24, ck_n (n := 96) (j := 24 * s + i) (by omega) (by omega), cl_n (show 24 * s + i < 2147483648 by omega)]
        rw [if_pos c3, if_pos (show 0 ≤ (nI i).toInt ∧ (nI i).toInt ≤ (z : Int) - 1 by omega)]
        simp only [i00, b1_e, i10, hw, nm_e1, m_24, ck_n (n := 96) (j := 24 * s + i) (by omega) (by omega), cl_n (show 24 * s + i < 2147483648 by omega)]
        refine ⟨_, _, _, _, rfl, rfl, hSh.1, fun k hk => ?_⟩
        rw [upd_d, upd_d]
        by_cases c : k = 24 * s + i
        · rw [if_pos c, if_pos c]
        · rw [if_neg c, if_neg c]
          exact hSh.2 k hk
      · rw [if_neg c3, if_neg (show ¬ (0 ≤ p2.toInt ∧ p2.toInt ≤ (z : Int) - 1) by omega)]
        simp only [i00, b1_e, rfd, mfd, b2_e]
        exact ⟨_, _, _, _, rfl, rfl, hSh⟩
  · rw [if_neg c1, if_neg (show ¬ (0 ≤ p1.toInt ∧ p1.toInt ≤ 3) by omega)]
    simp only [b1_e, i00, rfd, mfd, b2_e]
    exact ⟨_, _, _, _, rfl, rfl, hSh⟩
end OPS9
