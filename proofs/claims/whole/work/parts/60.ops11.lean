section OPS11
variable {kinds ticks drums marks values counts hits now : Nat → Int32} {count there : Int32}
theorem rin_of (hR : rep kinds ticks drums marks count values there counts hits now) (hW : wf now) {p : Nat} (hp : p < 4) : ∃ w, rin ticks hits values counts now (nn now) (hc now p) p w := by
  obtain ⟨r0, r1, r2, r3, r4⟩ := hR
  obtain ⟨w, ew, w1, w2, w3⟩ := inat hW.2.2.1.2.2.2.2 (by omega)
  obtain ⟨hm, em⟩ := wf_h hW hp
  obtain ⟨hn, h0⟩ := wf_n hW
  exact ⟨w, hn, hm, hp, by omega, (r4 p hp).1.trans em, (r2 4 (by omega)).trans ew, h0, em, ew, fun i hi => ⟨(r3 i hi).2.1, (hW.2.2.2.1 i hi).2.1⟩, fun k hk => ⟨(r4 p hp).2 k hk, (hW.2.2.2.2 p hp).2 k hk⟩⟩
theorem op_price (hR : rep kinds ticks drums marks count values there counts hits now) (hW : wf now) (x p1 : Int32) (ma : Nat → Int32) (md : Int32) (pp : Nat → Int32) (pl : Int32) (mp mh : Nat → Int32) : ∃ r y ma2 md2 pp2 pl2 mp2 mh2, f_Room_price x ticks count values counts hits ma md pp pl p1 = some (r, y, ma2, md2, pp2, pl2) ∧ f_Model_price now x mp mh p1 = some (r, y, mp2, mh2) := by
  obtain ⟨hn, h0⟩ := wf_n hW
  have ec : count = nI (nn now) := hR.1.trans h0
  unfold f_Room_price f_Model_price
  rw [isB (z := 4) rfl, mpl, ec]
  by_cases c1 : 0 ≤ p1.toInt ∧ p1.toInt < 4
  · obtain ⟨p, hp, rfl⟩ := at_n (n := 4) c1
    obtain ⟨w, hr⟩ := rin_of hR hW hp
    obtain ⟨ma2, ha2, f2, g2, e1, e2, e3, e4, e5⟩ := find_e hr ma md pp pl mp mh
    rw [if_pos c1, if_pos (show 0 ≤ (nI p).toInt ∧ (nI p).toInt ≤ 3 by omega), e1, e2]
    have q1 : f_Reading_leastPrice f2 = some (f2 0) := by
      unfold f_Reading_leastPrice
      rw [rd_l (i := 0) 0 rfl (by omega) (by omega)]
    have q2 : f_Model_priceFrom g2 0 0 = some (g2 0) := pf_m (i := 0) (k := 0) (by omega) (by omega)
    simp only [b1_e, i10, b4_e, b2_e, q1, q2, e5]
    exact ⟨_, _, _, _, _, _, _, _, rfl, rfl⟩
  · rw [if_neg c1, if_neg (show ¬ (0 ≤ p1.toInt ∧ p1.toInt ≤ 3) by omega)]
    simp only [b1_e, i00, rfd, mfd, b2_e]
    exact ⟨_, _, _, _, _, _, _, _, rfl, rfl⟩
theorem op_read (hR : rep kinds ticks drums marks count values there counts hits now) (hW : wf now) (x p1 p2 : Int32) (ma : Nat → Int32) (md : Int32) (pp : Nat → Int32) (pl : Int32) (mp mh : Nat → Int32) : ∃ r y ma2 md2 pp2 pl2 mp2 mh2, f_Room_read x ticks count values counts hits ma md pp pl p1 p2 = some (r, y, ma2, md2, pp2, pl2) ∧ f_Model_read now x mp mh p1 p2 = some (r, y, mp2, mh2) := by
  obtain ⟨hn, h0⟩ := wf_n hW
  have ec : count = nI (nn now) := hR.1.trans h0
  unfold f_Room_read f_Model_read
  rw [isB (z := 4) rfl, mpl, ec, hasN hn, isN h0 hn]
  by_cases c1 : 0 ≤ p1.toInt ∧ p1.toInt < 4
  · obtain ⟨p, hp, rfl⟩ := at_n (n := 4) c1
    obtain ⟨w, hr⟩ := rin_of hR hW hp
    obtain ⟨ma2, ha2, f2, g2, e1, e2, e3, e4, e5⟩ := find_e hr ma md pp pl mp mh
    rw [if_pos c1, if_pos (show 0 ≤ (nI p).toInt ∧ (nI p).toInt ≤ 3 by omega), e1, e2]
    by_cases c2 : 0 ≤ p2.toInt ∧ p2.toInt < (nn now : Int)
    · obtain ⟨j, hj, rfl⟩ := at_n c2
      rw [if_pos c2]
      simp only [b1_e, i10, b4_e, b2_e, rd_n (n := 20) (j := j) (by omega) (by omega), e3 j hj]
      rcases e4 j hj with e | ⟨h, hh, e⟩
      · rw [e, if_pos rfl, if_neg (show ¬ (0 : Int32) ≤ -1 by decide)]
        simp only [rfd, mfd, b2_e]
        exact ⟨_, _, _, _, _, _, _, _, rfl, rfl⟩
      · have hm := (wf_h hW hp).1
        have d1 : ¬ nI h = -1 := fun q => nI_pos (n := h) (by omega) (by rw [q]; decide)
        rw [e, if_neg d1, if_pos (nI_pos' (by omega))]
        exact ⟨_, _, _, _, _, _, _, _, rfl, rfl⟩
    · rw [if_neg c2]
      simp only [b1_e, i10, i00, rfd, mfd, b2_e]
      exact ⟨_, _, _, _, _, _, _, _, rfl, rfl⟩
  · rw [if_neg c1, if_neg (show ¬ (0 ≤ p1.toInt ∧ p1.toInt ≤ 3) by omega)]
    simp only [b1_e, i00, rfd, mfd, b2_e]
    exact ⟨_, _, _, _, _, _, _, _, rfl, rfl⟩
theorem op_late (hR : rep kinds ticks drums marks count values there counts hits now) (hW : wf now) (x p1 p2 : Int32) (ma : Nat → Int32) (md : Int32) (pp : Nat → Int32) (pl : Int32) (mp mh : Nat → Int32) : ∃ r y ma2 md2 pp2 pl2 mp2 mh2, f_Room_late x ticks count values counts hits ma md pp pl p1 p2 = some (r, y, ma2, md2, pp2, pl2) ∧ f_Model_late now x mp mh p1 p2 = some (r, y, mp2, mh2) := by
  obtain ⟨hn, h0⟩ := wf_n hW
  have ec : count = nI (nn now) := hR.1.trans h0
  unfold f_Room_late f_Model_late
  rw [isB (z := 4) rfl, mpl, ec, hasN hn, isN h0 hn]
  by_cases c1 : 0 ≤ p1.toInt ∧ p1.toInt < 4
  · obtain ⟨p, hp, rfl⟩ := at_n (n := 4) c1
    obtain ⟨w, hr⟩ := rin_of hR hW hp
    obtain ⟨ma2, ha2, f2, g2, e1, e2, e3, e4, e5⟩ := find_e hr ma md pp pl mp mh
    rw [if_pos c1, if_pos (show 0 ≤ (nI p).toInt ∧ (nI p).toInt ≤ 3 by omega), e1, e2]
    by_cases c2 : 0 ≤ p2.toInt ∧ p2.toInt < (nn now : Int)
    · obtain ⟨j, hj, rfl⟩ := at_n c2
      have a27 : (27 : Int32) + nI j = nI (27 + j) := add_n 27 j
      rw [if_pos c2]
      simp only [b1_e, i10, b4_e, b2_e, rd_n (n := 20) (j := j) (by omega) (by omega), e3 j hj, a27, rd_n (n := 187) (j := 27 + j) (by omega) (by omega)]
      rcases e4 j hj with e | ⟨h, hh, e⟩
      · rw [e, if_pos rfl, if_neg (show ¬ (0 : Int32) ≤ -1 by decide)]
        simp only [rfd, mfd, b2_e]
        exact ⟨_, _, _, _, _, _, _, _, rfl, rfl⟩
      · have hm := (wf_h hW hp).1
        have d1 : ¬ nI h = -1 := fun q => nI_pos (n := h) (by omega) (by rw [q]; decide)
        have t1 : f_Tapes_tickAt hits (nI p) (nI h) = some (hits (24 * p + h)) := by
          unfold f_Tapes_tickAt
          rw [i_24, rd_n (by omega) (by omega)]
        have t2 : f_Model_hitOf now (nI p) (nI h) = some (now (91 + 24 * p + h)) := by
          unfold f_Model_hitOf
          rw [i_91, rd_n (by omega) (by omega)]
        rw [e, if_neg d1, if_pos (nI_pos' (by omega)), t1, t2, b1_e, b1_e, (hR.2.2.2.2 p hp).2 h hh, (hR.2.2.2.1 j hj).2.1]
        exact ⟨_, _, _, _, _, _, _, _, rfl, rfl⟩
    · rw [if_neg c2]
      simp only [b1_e, i10, i00, rfd, mfd, b2_e]
      exact ⟨_, _, _, _, _, _, _, _, rfl, rfl⟩
  · rw [if_neg c1, if_neg (show ¬ (0 ≤ p1.toInt ∧ p1.toInt ≤ 3) by omega)]
    simp only [b1_e, i00, rfd, mfd, b2_e]
    exact ⟨_, _, _, _, _, _, _, _, rfl, rfl⟩
theorem ms_e {n p : Nat} (hn : n ≤ 20) (hp : p < 4) (h0 : now 0 = nI n) (p2 x : Int32) (mp ha : Nat → Int32) : ∀ (d i N : Nat), i + d = n → d < N → f_Model_missed_24 now N (nI p) p2 (nI (cnt ha i)) (nI i) x mp ha = some (if p2 = 0 then nI n - nI (cnt ha n) else now (87 + p) - nI (cnt ha n), x, mp, ha) := by
  intro d
  induction d with
  | zero =>
    intro i N g1 g2
    obtain ⟨N, rfl⟩ : ∃ m, N = m + 1 := ⟨N - 1, by omega⟩
    obtain rfl : i = n := by omega
    show f_Model_missed_24_b now (f_Model_missed_24 now N) (nI p) p2 (nI (cnt ha i)) (nI i) x mp ha = _
    unfold f_Model_missed_24_b
    have a87 : (87 : Int32) + nI p = nI (87 + p) := add_n 87 p
    simp only [rd_l (n := 187) (i := 0) 0 rfl (by omega) (by omega), h0, a87, rd_n (n := 187) (j := 87 + p) (by omega) (by omega)]
    rw [if_pos (nI_le (Nat.le_refl _) (by omega))]
    by_cases c : p2 = 0
    · rw [if_pos c, if_pos c]
    · rw [if_neg c, if_neg c]
  | succ d ih =>
    intro i N g1 g2
    obtain ⟨N, rfl⟩ : ∃ m, N = m + 1 := ⟨N - 1, by omega⟩
    show f_Model_missed_24_b now (f_Model_missed_24 now N) (nI p) p2 (nI (cnt ha i)) (nI i) x mp ha = _
    unfold f_Model_missed_24_b
    have e9 : nI i + 1 = nI (i + 1) := nI_1 i
    have e8 : nI (cnt ha i) + 1 = nI (cnt ha i + 1) := nI_1 _
    have e7 : nI (cnt ha i) + 0 = nI (cnt ha i) := add_n _ 0
    have q := ih (i + 1) N (by omega) (by omega)
    have ec : cnt ha (i + 1) = cnt ha i + (if ha i < 0 then 0 else 1) := rfl
    simp only [rd_l (n := 187) (i := 0) 0 rfl (by omega) (by omega), h0, rd_n (n := 20) (j := i) (by omega) (by omega), nm_e1, e9, e8, e7]
    rw [if_neg (nI_ge (by omega) (by omega))]
    by_cases c : ha i < 0
    · rw [if_pos c] at ec ⊢
      rw [ec] at q
      exact q
    · rw [if_neg c] at ec ⊢
      rw [ec] at q
      exact q
theorem op_missed (hR : rep kinds ticks drums marks count values there counts hits now) (hW : wf now) (x p1 p2 : Int32) (ma : Nat → Int32) (md : Int32) (pp : Nat → Int32) (pl : Int32) (mp mh : Nat → Int32) : ∃ r y ma2 md2 pp2 pl2 mp2 mh2, f_Room_missed x ticks count values counts hits ma md pp pl p1 p2 = some (r, y, ma2, md2, pp2, pl2) ∧ f_Model_missed now x mp mh p1 p2 = some (r, y, mp2, mh2) := by
  obtain ⟨hn, h0⟩ := wf_n hW
  have ec : count = nI (nn now) := hR.1.trans h0
  unfold f_Room_missed f_Model_missed
  rw [isB (z := 4) rfl, mpl, ec]
  by_cases c1 : 0 ≤ p1.toInt ∧ p1.toInt < 4
  · obtain ⟨p, hp, rfl⟩ := at_n (n := 4) c1
    obtain ⟨w, hr⟩ := rin_of hR hW hp
    obtain ⟨ma2, ha2, f2, g2, e1, e2, e3, e4, e5⟩ := find_e hr ma md pp pl mp mh
    have q := ms_e (now := now) hn hp h0 p2 x g2 ha2 (nn now) 0 fu (by omega) (by unfold fu; omega)
    have q' : f_Model_missed_24 now fu (nI p) p2 0 0 x g2 ha2 = _ := q
    rw [if_pos c1, if_pos (show 0 ≤ (nI p).toInt ∧ (nI p).toInt ≤ 3 by omega), e1, e2]
    simp only [b1_e, i10, b4_e, b2_e, q', rd_n (n := 4) (j := p) (by omega) (by omega)]
    by_cases c : p2 = 0
    · rw [if_pos c, if_pos c]
      exact ⟨_, _, _, _, _, _, _, _, rfl, rfl⟩
    · rw [if_neg c, if_neg c, (hR.2.2.2.2 p hp).1]
      exact ⟨_, _, _, _, _, _, _, _, rfl, rfl⟩
  · rw [if_neg c1, if_neg (show ¬ (0 ≤ p1.toInt ∧ p1.toInt ≤ 3) by omega)]
    simp only [b1_e, i00, rfd, mfd, b2_e]
    exact ⟨_, _, _, _, _, _, _, _, rfl, rfl⟩
end OPS11
