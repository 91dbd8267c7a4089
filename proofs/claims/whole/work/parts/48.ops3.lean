section OPS3
variable {kinds ticks drums marks values counts hits now past acts fis ses tis drs hts : Nat → Int32} {count there pc ps kept : Int32} {q slot : Nat}
/-- a well formed view with one number changed that isn't a note's -/
theorem wf_rule (hW : wf now) {j : Nat} (hj : j < 5) {v : Int32} (h1 : 0 ≤ v.toInt) (h2 : v.toInt ≤ (sT2 j).toInt) : wf (upd now (2 + j) v) := by
  have hnn : nn (upd now (2 + j) v) = nn now := nn_upd (by omega)
  obtain ⟨w0, w1, ⟨wa, wb, wc, wd, we⟩, w3, w4⟩ := hW
  have l0 : (sT2 0).toInt = 200 := rfl
  have l1 : (sT2 1).toInt = 100 := rfl
  have l2 : (sT2 2).toInt = 4 := rfl
  have l3 : (sT2 3).toInt = 200 := rfl
  have l4 : (sT2 4).toInt = 100 := rfl
  refine ⟨by rw [upd_n (by omega)]; exact w0, by rw [upd_n (by omega)]; exact w1, ?_, fun k hk => ?_, fun p hp => ⟨by rw [upd_n (by omega)]; exact (w4 p hp).1, fun i hi => ?_⟩⟩
  · rcases (show j = 0 ∨ j = 1 ∨ j = 2 ∨ j = 3 ∨ j = 4 by omega) with rfl | rfl | rfl | rfl | rfl
    · exact ⟨⟨h1, by rw [upd_s]; omega⟩, wb, wc, wd, we⟩
    · exact ⟨wa, ⟨h1, by rw [upd_s]; omega⟩, wc, wd, we⟩
    · exact ⟨wa, wb, ⟨h1, by rw [upd_s]; omega⟩, wd, we⟩
    · exact ⟨wa, wb, wc, ⟨h1, by rw [upd_s]; omega⟩, we⟩
    · exact ⟨wa, wb, wc, wd, ⟨h1, by rw [upd_s]; omega⟩⟩
  · rw [hnn] at hk
    rw [upd_n (by omega), upd_n (by omega), upd_n (by omega), upd_n (by omega)]
    exact w3 k hk
  · rw [hc_upd (by omega)] at hi
    rw [upd_n (by omega)]
    exact (w4 p hp).2 i hi
theorem wf_bass (hW : wf now) {v : Int32} (h : rg 0 31 v) : wf (upd now 1 v) := by
  have hnn : nn (upd now 1 v) = nn now := nn_upd (by omega)
  obtain ⟨w0, w1, w2, w3, w4⟩ := hW
  refine ⟨by rw [upd_n (by omega)]; exact w0, by rw [upd_s]; exact h, ⟨by rw [upd_n (by omega)]; exact w2.1, by rw [upd_n (by omega)]; exact w2.2.1, by rw [upd_n (by omega)]; exact w2.2.2.1, by rw [upd_n (by omega)]; exact w2.2.2.2.1, by rw [upd_n (by omega)]; exact w2.2.2.2.2⟩, fun k hk => ?_, fun p hp => ⟨by rw [upd_n (by omega)]; exact (w4 p hp).1, fun i hi => ?_⟩⟩
  · rw [hnn] at hk
    rw [upd_n (by omega), upd_n (by omega), upd_n (by omega), upd_n (by omega)]
    exact w3 k hk
  · rw [hc_upd (by omega)] at hi
    rw [upd_n (by omega)]
    exact (w4 p hp).2 i hi
theorem most_e {j : Nat} (hj : j < 5) : f_Model_mostOf (nI j) = some (sT2 j) := by
  rcases (show j = 0 ∨ j = 1 ∨ j = 2 ∨ j = 3 ∨ j = 4 by omega) with rfl | rfl | rfl | rfl | rfl <;> rfl
theorem may_e {j : Nat} (hj : j < 5) (p2 : Int32) : f_Rules_mayBecome (nI j) p2 = some (if 0 ≤ p2.toInt ∧ p2.toInt ≤ (sT2 j).toInt then 1 else 0) := by
  unfold f_Rules_mayBecome
  have e0 : (0 : Int32).toInt = 0 := rfl
  rw [isB (z := 5) rfl, if_pos (by rw [ito (by omega)]; omega), b1_e, i10, rd_n hj (by omega)]
  by_cases c1 : p2 < 0
  · rw [if_pos c1, if_neg (by rw [ltI, e0] at c1; omega)]
  · rw [if_neg c1]
    rw [ltI, e0] at c1
    by_cases c2 : sT2 j < p2
    · rw [if_pos c2, if_neg (by rw [ltI] at c2; omega)]
    · rw [if_neg c2, if_pos (by rw [ltI] at c2; omega)]
theorem op_rule (hR : rep kinds ticks drums marks count values there counts hits now) (hW : wf now) (hp : pst q slot pc acts fis ses tis drs hts ps now past kept) (x known p1 p2 : Int32) :
    (∃ r, f_Room_rule x known values pc acts fis ses ps p1 p2 = some (r, x + 1, known, values, pc, acts, fis, ses, ps) ∧ f_Model_rule now past kept x p1 p2 = some (r, now, past, kept, x + 1)) ∨
    (∃ r values2 acts2 fis2 ses2 now2 past2 q2 slot2, f_Room_rule x known values pc acts fis ses ps p1 p2 = some (r, x, 0, values2, nI q2, acts2, fis2, ses2, nI slot2) ∧ f_Model_rule now past kept x p1 p2 = some (r, now2, past2, nI q2, x) ∧ rep kinds ticks drums marks count values2 there counts hits now2 ∧ wf now2 ∧ nn now2 = nn now ∧ pst q2 slot2 (nI q2) acts2 fis2 ses2 tis drs hts (nI slot2) now2 past2 (nI q2)) := by
  have hp0 := hp
  obtain ⟨hq, hs, e1, e2, e3, hch⟩ := hp
  obtain ⟨r0, r1, r2, r3, r4⟩ := hR
  unfold f_Room_rule f_Model_rule
  rw [wit (p := p1) (lo := 0) (hi := 4) (a := 0) (b := 4) rfl rfl]
  by_cases c1 : 0 ≤ p1.toInt ∧ p1.toInt ≤ 4
  · obtain ⟨j, hj, rfl⟩ := at_le (n := 4) c1
    have a2 : (2 : Int32) + nI j = nI (2 + j) := add_n 2 j
    simp only [if_pos c1, b1_e, i10, most_e (show j < 5 by omega), may_e (show j < 5 by omega), wit (p := p2) (lo := 0) (hi := sT2 j) (a := 0) (b := (sT2 j).toInt) rfl rfl, a2]
    by_cases c2 : 0 ≤ p2.toInt ∧ p2.toInt ≤ (sT2 j).toInt
    · right
      have hset : f_Rules_change values (nI j) p2 = some (upd values j p2) := by
        unfold f_Rules_change
        rw [may_e (by omega), if_pos c2, b1_e, i10, ck_n (by omega) (by omega), cl_n (by omega)]
      simp only [if_pos c2, i10, rd_n (n := 5) (j := j) (by omega) (by omega), rd_n (n := 187) (j := 2 + j) (by omega) (by omega), ck_n (n := 187) (j := 2 + j) (by omega) (by omega), e1, e2, e3, c_kp hq hs, m_keep now past hq, b6_e, b2_e, hset, b1_e, cl_n (show 2 + j < 2147483648 by omega)]
      have em : values j = now (2 + j) := r2 j (by omega)
      have hnn : nn (upd now (2 + j) p2) = nn now := nn_upd (by omega)
      refine ⟨_, _, _, _, _, _, _, _, _, rfl, by rw [em], ?_, wf_rule hW (by omega) c2.1 c2.2, hnn, ?_⟩
      · refine ⟨r0.trans (upd_n (by omega)).symm, r1.trans (upd_n (by omega)).symm, fun k hk => ?_, fun k hk => ?_, fun p hp => ⟨(r4 p hp).1.trans (upd_n (by omega)).symm, fun i hi => ?_⟩⟩
        · rw [upd_d, upd_d]
          by_cases ck : k = j
          · rw [if_pos ck, if_pos (by omega)]
          · rw [if_neg ck, if_neg (by omega)]
            exact r2 k hk
        · rw [hnn] at hk
          obtain ⟨a, b, c, d⟩ := r3 k hk
          exact ⟨a.trans (upd_n (by omega)).symm, b.trans (upd_n (by omega)).symm, c.trans (upd_n (by omega)).symm, d.trans (upd_n (by omega)).symm⟩
        · rw [hc_upd (by omega)] at hi
          exact ((r4 p hp).2 i hi).trans (upd_n (by omega)).symm
      · have hold : 0 ≤ (now (2 + j)).toInt ∧ (now (2 + j)).toInt ≤ (sT2 j).toInt := by
          obtain ⟨w0, w1, ⟨wa, wb, wc, wd, we⟩, w3, w4⟩ := hW
          rcases (show j = 0 ∨ j = 1 ∨ j = 2 ∨ j = 3 ∨ j = 4 by omega) with rfl | rfl | rfl | rfl | rfl
          · exact wa
          · exact wb
          · exact wc
          · exact wd
          · exact we
        refine pst_act hp0 hW (fun i _ _ => ⟨rfl, rfl, fun k => Or.inl rfl⟩) (Or.inr (Or.inr (Or.inr (Or.inl ⟨rfl, j, by omega, rfl, by rw [em]; exact hold.1, by rw [em]; exact hold.2, ?_⟩))))
        rw [em, upd_back (by omega)]
        exact vis_rf _
    · left
      simp only [if_neg c2, i00]
      exact ⟨_, rfl, rfl⟩
  · left
    have e : f_Rules_mayBecome p1 p2 = some 0 := by
      unfold f_Rules_mayBecome
      rw [isB (z := 5) rfl, if_neg (by omega), b1_e, i00]
    rw [if_neg c1, e]
    exact ⟨_, rfl, rfl⟩
theorem bass_bit : ∀ b : Fin 32, ∀ j : Fin 5, ((jush (nI b) (nI j)) &&& 1 = 1 ↔ (nI b ||| jshl 1 (nI j)) = nI b) ∧ (¬ (jush (nI b) (nI j)) &&& 1 = 1 ↔ (nI b &&& (jshl 1 (nI j) ^^^ (-1))) = nI b) ∧ (0 ≤ (nI b ||| jshl 1 (nI j)).toInt ∧ (nI b ||| jshl 1 (nI j)).toInt ≤ 31) ∧ 0 ≤ (nI b &&& (jshl 1 (nI j) ^^^ (-1))).toInt ∧ (nI b &&& (jshl 1 (nI j) ^^^ (-1))).toInt ≤ 31 := by decide +kernel
theorem op_bass (hR : rep kinds ticks drums marks count values there counts hits now) (hW : wf now) (hp : pst q slot pc acts fis ses tis drs hts ps now past kept) (x known p1 p2 : Int32) (hp2 : p2 = 0 ∨ p2 = 1) :
    (∃ r, f_Room_bass x known there pc acts fis ses ps p1 p2 = some (r, x + 1, known, there, pc, acts, fis, ses, ps) ∧ f_Model_bass now past kept x p1 p2 = some (r, now, past, kept, x + 1)) ∨
    (∃ r there2 acts2 fis2 ses2 now2 past2 q2 slot2, f_Room_bass x known there pc acts fis ses ps p1 p2 = some (r, x, 0, there2, nI q2, acts2, fis2, ses2, nI slot2) ∧ f_Model_bass now past kept x p1 p2 = some (r, now2, past2, nI q2, x) ∧ rep kinds ticks drums marks count values there2 counts hits now2 ∧ wf now2 ∧ nn now2 = nn now ∧ pst q2 slot2 (nI q2) acts2 fis2 ses2 tis drs hts (nI slot2) now2 past2 (nI q2)) := by
  have hp0 := hp
  obtain ⟨hq, hs, e1, e2, e3, hch⟩ := hp
  obtain ⟨r0, r1, r2, r3, r4⟩ := hR
  unfold f_Room_bass f_Model_bass
  rw [wit (p := p1) (lo := 0) (hi := 4) (a := 0) (b := 4) rfl rfl, isB (z := 5) rfl]
  by_cases c1 : 0 ≤ p1.toInt ∧ p1.toInt ≤ 4
  · right
    obtain ⟨j, hj, rfl⟩ := at_le (n := 4) c1
    obtain ⟨b, eb, b1', b2', b3'⟩ := inat hW.2.1 (by omega)
    obtain ⟨k1, k2, k3, k4⟩ := bass_bit ⟨b, by omega⟩ ⟨j, by omega⟩
    dsimp only at k1 k2 k3 k4
    have key : ∀ (v : Int32), rg 0 31 v → rep kinds ticks drums marks count values v counts hits (upd now 1 v) ∧ wf (upd now 1 v) ∧ nn (upd now 1 v) = nn now ∧ pst (kq q) ((slot + 1) % 20) (nI (kq q)) (upd acts ((slot + 1) % 20) 4) (upd fis ((slot + 1) % 20) there) (upd ses ((slot + 1) % 20) 0) tis drs hts (nI ((slot + 1) % 20)) (upd now 1 v) (kpast now past q) (nI (kq q)) := by
      intro v hv
      have hnn : nn (upd now 1 v) = nn now := nn_upd (by omega)
      refine ⟨⟨r0.trans (upd_n (by omega)).symm, upd_s.symm, fun k hk => (r2 k hk).trans (upd_n (by omega)).symm, fun k hk => ?_, fun p hp => ⟨(r4 p hp).1.trans (upd_n (by omega)).symm, fun i hi => ?_⟩⟩, wf_bass hW hv, hnn, ?_⟩
      · rw [hnn] at hk
        obtain ⟨a, b, c, d⟩ := r3 k hk
        exact ⟨a.trans (upd_n (by omega)).symm, b.trans (upd_n (by omega)).symm, c.trans (upd_n (by omega)).symm, d.trans (upd_n (by omega)).symm⟩
      · rw [hc_upd (by omega)] at hi
        exact ((r4 p hp).2 i hi).trans (upd_n (by omega)).symm
      · refine pst_act hp0 hW (fun i _ _ => ⟨rfl, rfl, fun k => Or.inl rfl⟩) (Or.inr (Or.inr (Or.inr (Or.inr (Or.inl ⟨rfl, ?_⟩)))))
        rw [r1, upd_back (by omega)]
        exact vis_rf _
    have i11 : ¬ (1 : Int32) = 0 := by decide
    unfold f_Model_bass_51 f_Room_bass_32 f_Basses_isThere f_Basses_change
    simp only [if_pos c1, if_pos (show 0 ≤ (nI j).toInt ∧ (nI j).toInt < 5 by omega), b1_e, i10, nm_e1, e1, e2, e3, c_kp hq hs, m_keep now past hq, b6_e, b2_e, rd_l (n := 187) (i := 1) 1 rfl (by omega) (by omega), ck_l (n := 187) (i := 1) 1 rfl (by omega) (by omega), show (1 : Int32).toNatClampNeg = 1 from rfl, upd_s]
    rw [r1, eb] at *
    rcases hp2 with rfl | rfl
    · simp only [i00]
      by_cases d : (jush (nI b) (nI j)) &&& 1 = 1
      · have d2 : ¬ nI b = (nI b &&& (jshl 1 (nI j) ^^^ (-1))) := fun h => k2.mpr h.symm d
        rw [if_pos d, b1_e, if_neg i11, if_neg d2]
        exact ⟨_, _, _, _, _, _, _, _, _, rfl, rfl, key _ k4⟩
      · have d2 : nI b = (nI b &&& (jshl 1 (nI j) ^^^ (-1))) := (k2.mp d).symm
        rw [if_neg d, b1_e, if_pos rfl, if_pos d2]
        exact ⟨_, _, _, _, _, _, _, _, _, rfl, rfl, key _ k4⟩
    · simp only [i10]
      by_cases d : (jush (nI b) (nI j)) &&& 1 = 1
      · have d2 : nI b = (nI b ||| jshl 1 (nI j)) := (k1.mp d).symm
        rw [if_pos d, b1_e, if_pos rfl, if_pos d2]
        exact ⟨_, _, _, _, _, _, _, _, _, rfl, rfl, key _ k3⟩
      · have d2 : ¬ nI b = (nI b ||| jshl 1 (nI j)) := fun h => d (k1.mpr h.symm)
        rw [if_neg d, b1_e, if_neg (show ¬ (0 : Int32) = 1 by decide), if_neg d2]
        exact ⟨_, _, _, _, _, _, _, _, _, rfl, rfl, key _ k3⟩
  · left
    rw [if_neg c1, if_neg (by omega)]
    exact ⟨_, rfl, rfl⟩
end OPS3
