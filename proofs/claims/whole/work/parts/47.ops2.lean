section OPS2
variable {kinds ticks drums marks values counts hits now past acts fis ses tis drs hts : Nat → Int32} {count there pc ps kept : Int32} {q slot : Nat}
theorem nn_ct (x : Nat → Int32) : nn (ct x) = nn x := rfl
theorem upd_back {x : Nat → Int32} {i : Nat} {v : Int32} (hi : i < 187) : upd (ct (upd x i v)) i (x i) = ct x := by
  funext k
  rw [upd_d]
  unfold ct
  by_cases c : k = i
  · subst c
    rw [if_pos rfl, if_pos hi]
  · rw [if_neg c, upd_n c]
theorem nn_upd {x : Nat → Int32} {i : Nat} {v : Int32} (hi : 0 < i) : nn (upd x i v) = nn x := nn_e (upd_n (by omega))
theorem hc_upd {x : Nat → Int32} {i p : Nat} {v : Int32} (hi : i ≠ 87 + p) : hc (upd x i v) p = hc x p := hc_e (upd_n (by omega))
/-- a mark -/
theorem op_mark (hR : rep kinds ticks drums marks count values there counts hits now) (hW : wf now) (hp : pst q slot pc acts fis ses tis drs hts ps now past kept) (x known p1 p2 : Int32) :
    (∃ r, f_Room_mark x known marks count pc acts fis ses ps p1 p2 = some (r, x + 1, known, marks, pc, acts, fis, ses, ps) ∧ f_Model_mark now past kept x p1 p2 = some (r, now, past, kept, x + 1)) ∨
    (∃ r marks2 acts2 fis2 ses2 now2 past2 q2 slot2, f_Room_mark x known marks count pc acts fis ses ps p1 p2 = some (r, x, 0, marks2, nI q2, acts2, fis2, ses2, nI slot2) ∧ f_Model_mark now past kept x p1 p2 = some (r, now2, past2, nI q2, x) ∧ rep kinds ticks drums marks2 count values there counts hits now2 ∧ wf now2 ∧ nn now2 = nn now ∧ pst q2 slot2 (nI q2) acts2 fis2 ses2 tis drs hts (nI slot2) now2 past2 (nI q2)) := by
  obtain ⟨hn, h0⟩ := wf_n hW
  have hp0 := hp
  obtain ⟨hq, hs, e1, e2, e3, hch⟩ := hp
  obtain ⟨r0, r1, r2, r3, r4⟩ := hR
  unfold f_Room_mark f_Model_mark
  rw [r0, h0, hasN hn, isN h0 hn]
  have em1 : (-1 : Int32).toInt = -1 := rfl
  have e1' : (1 : Int32).toInt = 1 := rfl
  by_cases c1 : 0 ≤ p1.toInt ∧ p1.toInt < (nn now : Int)
  · obtain ⟨j, hj, rfl⟩ := at_n c1
    have a67 : (67 : Int32) + nI j = nI (67 + j) := add_n 67 j
    simp only [if_pos c1, b1_e, i10, wit (p := p2) (lo := -1) (hi := 1) (a := -1) (b := 1) rfl rfl, a67]
    by_cases c2 : -1 ≤ p2.toInt ∧ p2.toInt ≤ 1
    · right
      have d1 : ¬ p2 < -1 := by rw [ltI, em1]; omega
      have d2 : p2 ≤ 1 := by rw [leI, e1']; omega
      have hset : f_Line_setMark marks (nI (nn now)) (nI j) p2 = some (upd marks j p2) := by
        unfold f_Line_setMark
        rw [hasN hn, if_pos c1, b1_e, i10, ck_n (by omega) (by omega), cl_n (by omega)]
      rw [if_neg d1, if_pos d2, if_pos c2]
      simp only [i10, rd_n (n := 20) (j := j) (by omega) (by omega), rd_n (n := 187) (j := 67 + j) (by omega) (by omega), ck_n (n := 187) (j := 67 + j) (by omega) (by omega), e1, e2, e3, c_kp hq hs, m_keep now past hq, b6_e, b2_e, hset, b1_e, cl_n (show 67 + j < 2147483648 by omega)]
      have em : marks j = now (67 + j) := (r3 j hj).2.2.2
      have hnn : nn (upd now (67 + j) p2) = nn now := nn_upd (by omega)
      refine ⟨_, _, _, _, _, _, _, _, _, rfl, by rw [em], ?_, ?_, hnn, ?_⟩
      · refine ⟨h0.symm.trans (upd_n (by omega)).symm, r1.trans (upd_n (by omega)).symm, fun k hk => (r2 k hk).trans (upd_n (by omega)).symm, fun k hk => ?_, fun p hp => ⟨(r4 p hp).1.trans (upd_n (by omega)).symm, fun i hi => ?_⟩⟩
        · rw [hnn] at hk
          obtain ⟨a, b, c, d⟩ := r3 k hk
          refine ⟨a.trans (upd_n (by omega)).symm, b.trans (upd_n (by omega)).symm, c.trans (upd_n (by omega)).symm, ?_⟩
          rw [upd_d, upd_d]
          by_cases ck : k = j
          · rw [if_pos ck, if_pos (by omega)]
          · rw [if_neg ck, if_neg (by omega)]
            exact d
        · rw [hc_upd (by omega)] at hi
          exact ((r4 p hp).2 i hi).trans (upd_n (by omega)).symm
      · obtain ⟨w0, w1, w2, w3, w4⟩ := hW
        refine ⟨by rw [upd_n (by omega)]; exact w0, by rw [upd_n (by omega)]; exact w1, ⟨by rw [upd_n (by omega)]; exact w2.1, by rw [upd_n (by omega)]; exact w2.2.1, by rw [upd_n (by omega)]; exact w2.2.2.1, by rw [upd_n (by omega)]; exact w2.2.2.2.1, by rw [upd_n (by omega)]; exact w2.2.2.2.2⟩, fun k hk => ?_, fun p hp => ⟨by rw [upd_n (by omega)]; exact (w4 p hp).1, fun i hi => ?_⟩⟩
        · rw [hnn] at hk
          rw [upd_n (by omega), upd_n (by omega), upd_n (by omega), upd_d]
          refine ⟨(w3 k hk).1, (w3 k hk).2.1, (w3 k hk).2.2.1, ?_⟩
          by_cases ck : 67 + k = 67 + j
          · rw [if_pos ck]; exact c2
          · rw [if_neg ck]; exact (w3 k hk).2.2.2
        · rw [hc_upd (by omega)] at hi
          rw [upd_n (by omega)]
          exact (w4 p hp).2 i hi
      · refine pst_act hp0 hW (fun i _ _ => ⟨rfl, rfl, fun k => Or.inl rfl⟩) (Or.inr (Or.inr (Or.inl ⟨rfl, j, by rw [nn_ct, hnn]; exact hj, rfl, ?_⟩)))
        rw [em, upd_back (by omega)]
        exact vis_rf _
    · left
      rw [if_neg c2]
      simp only [i00]
      by_cases d1 : p2 < -1
      · rw [if_pos d1]; exact ⟨_, by rw [← h0]; rfl, rfl⟩
      · have d2 : ¬ p2 ≤ 1 := by rw [leI, e1']; rw [ltI, em1] at d1; omega
        rw [if_neg d1, if_neg d2]; exact ⟨_, by rw [← h0]; rfl, rfl⟩
  · left
    rw [if_neg c1]; exact ⟨_, rfl, rfl⟩
end OPS2
