section OPS8
variable {kinds ticks drums marks values counts hits now past acts fis ses tis drs hts sT sH : Nat → Int32} {count there pc ps kept : Int32} {q slot : Nat} {bits sizes numbers mbits msizes msheets : Nat → Int32}
theorem op_tape (hR : rep kinds ticks drums marks count values there counts hits now) (hW : wf now) (hp : pst q slot pc acts fis ses tis drs hts ps now past kept) (hSh : shs bits sizes numbers mbits msizes msheets) (x known p1 p2 : Int32) :
    (∃ r, f_Room_tape x known counts hits bits sizes numbers pc acts fis ses hts ps p1 p2 = some (r, x + 1, known, counts, hits, pc, acts, fis, ses, hts, ps) ∧ f_Model_tape now past kept x mbits msizes msheets p1 p2 = some (r, now, past, kept, x + 1)) ∨
    (∃ r counts2 hits2 acts2 fis2 ses2 hts2 now2 past2 q2 slot2, f_Room_tape x known counts hits bits sizes numbers pc acts fis ses hts ps p1 p2 = some (r, x, 0, counts2, hits2, nI q2, acts2, fis2, ses2, hts2, nI slot2) ∧ f_Model_tape now past kept x mbits msizes msheets p1 p2 = some (r, now2, past2, nI q2, x) ∧ rep kinds ticks drums marks count values there counts2 hits2 now2 ∧ wf now2 ∧ nn now2 = nn now ∧ pst q2 slot2 (nI q2) acts2 fis2 ses2 tis drs hts2 (nI slot2) now2 past2 (nI q2)) := by
  have hp0 := hp
  obtain ⟨hq, hs, e1, e2, e3, hch⟩ := hp
  obtain ⟨r0, r1, r2, r3, r4⟩ := hR
  have hn := (wf_n hW).1
  unfold f_Room_tape f_Model_tape
  rw [isB (p := p1) (q := 4) (z := 4) rfl, isB (p := p2) (q := 4) (z := 4) rfl, mpl, msh]
  by_cases c1 : 0 ≤ p1.toInt ∧ p1.toInt < 4
  · by_cases c2 : 0 ≤ p2.toInt ∧ p2.toInt < 4
    · obtain ⟨p, hp4, rfl⟩ := at_n (n := 4) c1
      obtain ⟨s, hs4, rfl⟩ := at_n (n := 4) c2
      obtain ⟨s1, s2, s3, s4⟩ := hSh.1 s hs4
      simp only [if_pos c1, if_pos c2, if_pos (show 0 ≤ (nI p).toInt ∧ (nI p).toInt ≤ 3 by omega), if_pos (show 0 ≤ (nI s).toInt ∧ (nI s).toInt ≤ 3 by omega), b1_e, i10, rd_n (n := 4) (j := s) (by omega) (by omega)]
      have hmi : f_Sheets_isMissing bits (nI s) = some (if mbits s = 0 then 1 else 0) := by
        unfold f_Sheets_isMissing
        rw [rd_n hs4 (by omega), s1]
        by_cases c : mbits s = 0
        · rw [if_pos c, if_pos c]
        · rw [if_neg c, if_neg c]
      rw [hmi]
      by_cases c3 : mbits s = 0
      · left
        simp only [if_pos c3, b1_e, i10, rfd, mfd, b2_e]
        exact ⟨_, rfl, rfl⟩
      · right
        obtain ⟨z, ez, z1, z2, z3⟩ := inat s4 (by omega)
        obtain ⟨hm, em⟩ := wf_h hW hp4
        have ec : counts p = nI (hc now p) := (r4 p hp4).1.trans em
        have hcl : f_Tapes_clear counts (nI p) = some (upd counts p 0) := by
          unfold f_Tapes_clear
          rw [ck_n hp4 (by omega), cl_n (by omega)]
        obtain ⟨n, n1, n2, n3, n4, n5⟩ := tape_loop (bits := bits) (sizes := sizes) (numbers := numbers) (mbits := mbits) (msizes := msizes) (msheets := msheets) hp4 hs4 (show z ≤ 24 by omega) (s2.trans ez) ez hSh.2 x 0 (nI (kq q)) (upd acts ((slot + 1) % 20) 6) (upd fis ((slot + 1) % 20) (nI p)) (upd ses ((slot + 1) % 20) (nI (hc now p))) (kh hts hits ((slot + 1) % 20) p 0 (hc now p)) (nI ((slot + 1) % 20)) (kpast now past q) (nI (kq q)) z 0 fu fu (upd counts p 0) hits now (by omega) (by unfold fu; omega) (by unfold fu; omega) (by rw [upd_s]; rfl) (fun k hk => by omega)
        simp only [if_neg c3, b1_e, i00, e1, e2, e3, kt_e hp4 hm ec hq hs, b7_e, m_keep now past hq, b2_e, hcl]
        have n4' : f_Room_tape_56 bits sizes numbers fu (nI p) (nI s) 0 x 0 (upd counts p 0) hits (nI (kq q)) (upd acts ((slot + 1) % 20) 6) (upd fis ((slot + 1) % 20) (nI p)) (upd ses ((slot + 1) % 20) (nI (hc now p))) (kh hts hits ((slot + 1) % 20) p 0 (hc now p)) (nI ((slot + 1) % 20)) = _ := n4
        have n5' : f_Model_tape_43 mbits msizes msheets fu (nI p) (nI s) 0 now (kpast now past q) (nI (kq q)) x = _ := n5
        rw [n4', n5', upd_upd]
        generalize hN : upd (wr now msheets (91 + 24 * p) (24 * s) 0 n) (87 + p) (nI n) = now2
        have wo : ∀ k : Nat, k < 187 → k ≠ 87 + p → ¬ (91 + 24 * p ≤ k ∧ k < 91 + 24 * p + n) → now2 k = now k := by
          intro k h1 h2 h3
          rw [← hN, upd_n h2]
          unfold wr
          rw [if_neg (by omega)]
        have wi : ∀ i : Nat, i < n → now2 (91 + 24 * p + i) = msheets (24 * s + i) := by
          intro i hi
          rw [← hN, upd_n (by omega)]
          unfold wr
          rw [if_pos (by omega)]
          congr 1
          omega
        have w87 : now2 (87 + p) = nI n := by rw [← hN, upd_s]
        have hnn : nn now2 = nn now := nn_e (wo 0 (by omega) (by omega) (by omega))
        have hc3 : hc now2 p = n := by unfold hc; rw [w87]; exact cl_n (by omega)
        have hc2 : ∀ p' : Nat, p' < 4 → p' ≠ p → hc now2 p' = hc now p' := fun p' h1 h2 => hc_e (wo _ (by omega) (by omega) (by omega))
        refine ⟨_, _, _, _, _, _, _, _, _, _, _, rfl, rfl, ?_, ?_, hnn, ?_⟩
        · refine ⟨r0.trans (wo 0 (by omega) (by omega) (by omega)).symm, r1.trans (wo 1 (by omega) (by omega) (by omega)).symm, fun k hk => (r2 k hk).trans (wo _ (by omega) (by omega) (by omega)).symm, fun k hk => ?_, fun p' hp' => ?_⟩
          · rw [hnn] at hk
            obtain ⟨a, b, c, d⟩ := r3 k hk
            exact ⟨a.trans (wo _ (by omega) (by omega) (by omega)).symm, b.trans (wo _ (by omega) (by omega) (by omega)).symm, c.trans (wo _ (by omega) (by omega) (by omega)).symm, d.trans (wo _ (by omega) (by omega) (by omega)).symm⟩
          · by_cases cp : p' = p
            · subst cp
              refine ⟨by rw [upd_s, w87], fun i hi => ?_⟩
              rw [hc3] at hi
              rw [wi i hi]
              unfold wr
              rw [if_pos (by omega)]
              congr 1
              omega
            · refine ⟨by rw [upd_n cp, wo _ (by omega) (by omega) (by omega)]; exact (r4 p' hp').1, fun i hi => ?_⟩
              rw [hc2 p' hp' cp] at hi
              have := (wf_h hW hp').1
              rw [wo _ (by omega) (by omega) (by omega)]
              unfold wr
              rw [if_neg (by omega)]
              exact (r4 p' hp').2 i hi
        · have hW0 := hW
          obtain ⟨w0, w1, w2, w3, w4⟩ := hW
          refine ⟨by rw [wo 0 (by omega) (by omega) (by omega)]; exact w0, by rw [wo 1 (by omega) (by omega) (by omega)]; exact w1, ⟨by rw [wo 2 (by omega) (by omega) (by omega)]; exact w2.1, by rw [wo 3 (by omega) (by omega) (by omega)]; exact w2.2.1, by rw [wo 4 (by omega) (by omega) (by omega)]; exact w2.2.2.1, by rw [wo 5 (by omega) (by omega) (by omega)]; exact w2.2.2.2.1, by rw [wo 6 (by omega) (by omega) (by omega)]; exact w2.2.2.2.2⟩, fun k hk => ?_, fun p' hp' => ?_⟩
          · rw [hnn] at hk
            rw [wo _ (by omega) (by omega) (by omega), wo _ (by omega) (by omega) (by omega), wo _ (by omega) (by omega) (by omega), wo _ (by omega) (by omega) (by omega)]
            exact w3 k hk
          · by_cases cp : p' = p
            · subst cp
              refine ⟨by rw [w87]; unfold rg; rw [ito (by omega)]; omega, fun i hi => ?_⟩
              rw [hc3] at hi
              rw [wi i hi]
              exact n3 i (by omega) hi
            · refine ⟨by rw [wo _ (by omega) (by omega) (by omega)]; exact (w4 p' hp').1, fun i hi => ?_⟩
              rw [hc2 p' hp' cp] at hi
              have := (wf_h hW0 hp').1
              rw [wo _ (by omega) (by omega) (by omega)]
              exact (w4 p' hp').2 i hi
        · refine pst_act hp0 hW (fun i hi hne => ⟨rfl, rfl, fun k => ?_⟩) (lnk_tape hW hp4 rfl (fun i hi => ?_) (fun k h1 h2 h3 => wo k h1 h2 (by omega)) _ _)
          · by_cases c : k < 24
            · left
              unfold kh
              rw [if_neg (by omega)]
            · right; omega
          · unfold kh
            rw [if_pos (by omega)]
            have e : 24 * p + (24 * ((slot + 1) % 20) + i - 24 * ((slot + 1) % 20)) = 24 * p + i := by omega
            rw [e]
            exact (r4 p hp4).2 i hi
    · left
      rw [if_pos c1, if_neg c2, if_pos (show 0 ≤ p1.toInt ∧ p1.toInt ≤ 3 by omega), if_neg (show ¬ (0 ≤ p2.toInt ∧ p2.toInt ≤ 3) by omega)]
      simp only [b1_e, i10, i00, rfd, mfd, b2_e]
      exact ⟨_, rfl, rfl⟩
  · left
    rw [if_neg c1, if_neg (show ¬ (0 ≤ p1.toInt ∧ p1.toInt ≤ 3) by omega)]
    simp only [b1_e, i00, rfd, mfd, b2_e]
    exact ⟨_, rfl, rfl⟩
end OPS8
