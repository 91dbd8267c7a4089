section OPS4
variable {kinds ticks drums marks values counts hits now past acts fis ses tis drs hts : Nat → Int32} {count there pc ps kept : Int32} {q slot : Nat}
theorem i_24 (p m : Nat) : (nI p * 24) + nI m = nI (24 * p + m) := by
  show nI p * nI 24 + nI m = _
  rw [mul_n, add_n, Nat.mul_comm]
theorem i_91 (p m : Nat) : ((91 : Int32) + (24 * nI p)) + nI m = nI (91 + 24 * p + m) := by
  show nI 91 + nI 24 * nI p + nI m = _
  rw [mul_n, add_n, add_n]
theorem lt_e {p : Nat} (hp : p < 4) {m : Nat} (hm : m ≤ 24) (hc1 : counts p = nI m) : f_Tapes_latestTick counts hits (nI p) = some (if m = 0 then -1 else hits (24 * p + (m - 1))) := by
  unfold f_Tapes_latestTick f_Tapes_tickAt
  simp only [rd_n (n := 4) (j := p) (by omega) (by omega), hc1]
  by_cases c : m = 0
  · subst c
    rfl
  · have e : nI m - 1 = nI (m - 1) := sub_n (b := 1) (by omega)
    rw [if_neg (show ¬ nI m = 0 from nI_ne0 (by omega) (by omega)), if_neg c, e, i_24, rd_n (by omega) (by omega)]
    rfl
theorem op_hit (hR : rep kinds ticks drums marks count values there counts hits now) (hW : wf now) (hp : pst q slot pc acts fis ses tis drs hts ps now past kept) (x known p1 p2 : Int32) :
    (∃ r, f_Room_hit x known counts hits pc acts fis ses ps p1 p2 = some (r, x + 1, known, counts, hits, pc, acts, fis, ses, ps) ∧ f_Model_hit now past kept x p1 p2 = some (r, now, past, kept, x + 1)) ∨
    (∃ r counts2 hits2 acts2 fis2 ses2 now2 past2 q2 slot2, f_Room_hit x known counts hits pc acts fis ses ps p1 p2 = some (r, x, 0, counts2, hits2, nI q2, acts2, fis2, ses2, nI slot2) ∧ f_Model_hit now past kept x p1 p2 = some (r, now2, past2, nI q2, x) ∧ rep kinds ticks drums marks count values there counts2 hits2 now2 ∧ wf now2 ∧ nn now2 = nn now ∧ pst q2 slot2 (nI q2) acts2 fis2 ses2 tis drs hts (nI slot2) now2 past2 (nI q2)) := by
  have hp0 := hp
  obtain ⟨hq, hs, e1, e2, e3, hch⟩ := hp
  have hR0 := hR
  obtain ⟨r0, r1, r2, r3, r4⟩ := hR
  have hn := (wf_n hW).1
  unfold f_Room_hit f_Model_hit
  rw [isB (z := 4) rfl, isT, mpl, mtk]
  by_cases c1 : 0 ≤ p1.toInt ∧ p1.toInt < 4
  · obtain ⟨p, hp4, rfl⟩ := at_n (n := 4) c1
    by_cases c2 : 0 ≤ p2.toInt ∧ p2.toInt ≤ 9999
    · obtain ⟨hm, em⟩ := wf_h hW hp4
      have ec : counts p = nI (hc now p) := (r4 p hp4).1.trans em
      generalize hme : hc now p = m at hm em ec
      have a87 : (87 : Int32) + nI p = nI (87 + p) := add_n 87 p
      simp only [if_pos c1, if_pos c2, if_pos (show 0 ≤ (nI p).toInt ∧ (nI p).toInt ≤ 3 by omega), b1_e, i10, lt_e hp4 hm ec, a87, rd_n (n := 4) (j := p) (by omega) (by omega), rd_n (n := 187) (j := 87 + p) (by omega) (by omega), em, ec]
      have hlast : 0 < m → hits (24 * p + (m - 1)) = now (91 + 24 * p + (m - 1)) := fun h => (r4 p hp4).2 (m - 1) (by omega)
      have hho : 0 < m → f_Model_hitOf now (nI p) (nI m - 1) = some (now (91 + 24 * p + (m - 1))) := by
        intro h
        have e : nI m - 1 = nI (m - 1) := sub_n (b := 1) (by omega)
        unfold f_Model_hitOf
        rw [e, i_91, rd_n (by omega) (by omega)]
      by_cases c3 : 0 < m ∧ p2.toInt < (now (91 + 24 * p + (m - 1))).toInt
      · left
        rw [if_neg (show ¬ nI m ≤ 0 from nI_nle c3.1 (by omega)), hho c3.1, b1_e, if_neg (show ¬ m = 0 by omega), hlast c3.1]
        have c9 : ¬ now (91 + 24 * p + (m - 1)) ≤ p2 := by rw [leI]; omega
        simp only [if_neg c9, rfd, mfd, b2_e]
        exact ⟨_, rfl, rfl⟩
      · have hcl : (if m = 0 then (-1 : Int32) else hits (24 * p + (m - 1))) ≤ p2 := by
          by_cases cm : m = 0
          · rw [if_pos cm, leI, show (-1 : Int32).toInt = -1 from rfl]; omega
          · rw [if_neg cm, hlast (by omega), leI]; omega
        have hmo : (if nI m ≤ 0 then f_Model_hit_54 (nI p) p2 (nI m) now past kept x else b1 (f_Model_hitOf now (nI p) (nI m - 1)) fun r23 => if r23 ≤ p2 then f_Model_hit_54 (nI p) p2 (nI m) now past kept x else b2 (f_Model_finding x (-100003)) fun r26 y27 => some (r26, now, past, kept, y27)) = f_Model_hit_54 (nI p) p2 (nI m) now past kept x := by
          by_cases cm : m = 0
          · rw [if_pos (show nI m ≤ 0 by rw [cm]; decide)]
          · rw [if_neg (show ¬ nI m ≤ 0 from nI_nle (by omega) (by omega)), hho (by omega), b1_e, if_pos (show now (91 + 24 * p + (m - 1)) ≤ p2 by rw [leI]; omega)]
        rw [if_pos hcl, hmo]
        unfold f_Model_hit_54
        by_cases c4 : m = 24
        · left
          have n1 : ¬ nI m < 24 := by rw [c4]; decide
          have n2 : nI m = 24 := by rw [c4]; rfl
          rw [if_neg n1, if_pos n2]
          simp only [rfd, mfd, b2_e]
          exact ⟨_, rfl, rfl⟩
        · right
          have n24 : nI m < 24 := nI_lt (b := 24) (by omega) (by omega)
          have n24' : ¬ nI m = 24 := fun h => c4 ((nI_eq (by omega) (by omega)).mp h)
          have hap : f_Tapes_append counts hits (nI p) p2 = some (upd counts p (nI (m + 1)), upd hits (24 * p + m) p2) := by
            unfold f_Tapes_append
            have e : nI m + 1 = nI (m + 1) := nI_1 m
            simp only [rd_n (n := 4) (j := p) (by omega) (by omega), ec, i_24, ck_n (n := 96) (j := 24 * p + m) (by omega) (by omega), ck_n (n := 4) (j := p) (by omega) (by omega), nm_e1, e, cl_n (show p < 2147483648 by omega), cl_n (show 24 * p + m < 2147483648 by omega)]
            rw [if_neg (show ¬ (24 : Int32) ≤ nI m from nI_ge (b := 24) (by omega) (by omega))]
          have e87 : upd now (91 + 24 * p + m) p2 (87 + p) = nI m := by rw [upd_n (by omega)]; exact em
          have e9 : nI m + 1 = nI (m + 1) := nI_1 m
          rw [if_pos n24, if_neg n24']
          simp only [e1, e2, e3, c_kp hq hs, m_keep now past hq, b6_e, b2_e, hap, a87, i_91, ck_n (n := 187) (j := 91 + 24 * p + m) (by omega) (by omega), ck_n (n := 187) (j := 87 + p) (by omega) (by omega), rd_n (n := 4) (j := p) (by omega) (by omega), rd_n (n := 187) (j := 87 + p) (by omega) (by omega), cl_n (show 91 + 24 * p + m < 2147483648 by omega), cl_n (show 87 + p < 2147483648 by omega), e87, nm_e1, e9, upd_s]
          have hnn : nn (upd (upd now (91 + 24 * p + m) p2) (87 + p) (nI (m + 1))) = nn now := by rw [nn_upd (by omega), nn_upd (by omega)]
          have hc2 : ∀ p' : Nat, p' < 4 → p' ≠ p → hc (upd (upd now (91 + 24 * p + m) p2) (87 + p) (nI (m + 1))) p' = hc now p' := fun p' h1 h2 => by rw [hc_upd (by omega), hc_upd (by omega)]
          have hc3 : hc (upd (upd now (91 + 24 * p + m) p2) (87 + p) (nI (m + 1))) p = m + 1 := by unfold hc; rw [upd_s]; exact cl_n (by omega)
          have lo : ∀ k : Nat, k < 87 → upd (upd now (91 + 24 * p + m) p2) (87 + p) (nI (m + 1)) k = now k := fun k h => by rw [upd_n (by omega), upd_n (by omega)]
          refine ⟨_, _, _, _, _, _, _, _, _, _, rfl, rfl, ?_, ?_, hnn, ?_⟩
          · refine ⟨r0.trans (lo 0 (by omega)).symm, r1.trans (lo 1 (by omega)).symm, fun k hk => (r2 k hk).trans (lo _ (by omega)).symm, fun k hk => ?_, fun p' hp' => ?_⟩
            · rw [hnn] at hk
              obtain ⟨a, b, c, d⟩ := r3 k hk
              exact ⟨a.trans (lo _ (by omega)).symm, b.trans (lo _ (by omega)).symm, c.trans (lo _ (by omega)).symm, d.trans (lo _ (by omega)).symm⟩
            · by_cases cp : p' = p
              · subst cp
                refine ⟨by rw [upd_s, upd_s], fun i hi => ?_⟩
                rw [hc3] at hi
                rw [upd_n (show 91 + 24 * p' + i ≠ 87 + p' by omega), upd_d, upd_d]
                by_cases ci : i = m
                · rw [if_pos (by omega), if_pos (by omega)]
                · rw [if_neg (by omega), if_neg (by omega)]
                  exact (r4 p' hp').2 i (by omega)
              · refine ⟨by rw [upd_n cp, upd_n (by omega), upd_n (by omega)]; exact (r4 p' hp').1, fun i hi => ?_⟩
                rw [hc2 p' hp' cp] at hi
                have := (wf_h hW hp').1
                rw [upd_n (show 24 * p' + i ≠ 24 * p + m by omega), upd_n (by omega), upd_n (by omega)]
                exact (r4 p' hp').2 i hi
          · obtain ⟨w0, w1, w2, w3, w4⟩ := hW
            refine ⟨by rw [lo 0 (by omega)]; exact w0, by rw [lo 1 (by omega)]; exact w1, ⟨by rw [lo _ (by omega)]; exact w2.1, by rw [lo _ (by omega)]; exact w2.2.1, by rw [lo _ (by omega)]; exact w2.2.2.1, by rw [lo _ (by omega)]; exact w2.2.2.2.1, by rw [lo _ (by omega)]; exact w2.2.2.2.2⟩, fun k hk => ?_, fun p' hp' => ?_⟩
            · rw [hnn] at hk
              rw [lo _ (by omega), lo _ (by omega), lo _ (by omega), lo _ (by omega)]
              exact w3 k hk
            · by_cases cp : p' = p
              · subst cp
                refine ⟨by rw [upd_s]; unfold rg; rw [ito (by omega)]; omega, fun i hi => ?_⟩
                rw [hc3] at hi
                rw [upd_n (show 91 + 24 * p' + i ≠ 87 + p' by omega), upd_d]
                by_cases ci : i = m
                · rw [if_pos (by omega)]; exact c2
                · rw [if_neg (by omega)]
                  exact (w4 p' hp').2 i (by omega)
              · refine ⟨by rw [upd_n (by omega), upd_n (by omega)]; exact (w4 p' hp').1, fun i hi => ?_⟩
                rw [hc2 p' hp' cp] at hi
                have h24 := (inat (w4 p' hp').1 (by omega))
                obtain ⟨jj, ej, -, hj2, -⟩ := h24
                have : hc now p' = jj := by unfold hc; rw [ej]; exact cl_n (by omega)
                rw [upd_n (by omega), upd_n (by omega)]
                exact (w4 p' hp').2 i hi
          · refine pst_act hp0 hW (fun i _ _ => ⟨rfl, rfl, fun k => Or.inl rfl⟩) (Or.inr (Or.inr (Or.inr (Or.inr (Or.inr (Or.inl ⟨rfl, p, hp4, rfl, ?_, ?_⟩))))))
            · show 0 < hc (ct _) p
              have e : hc (ct (upd (upd now (91 + 24 * p + m) p2) (87 + p) (nI (m + 1)))) p = m + 1 := (hc_e (ct_l (by omega))).trans hc3
              rw [e]; omega
            · have ev : ct (upd (upd now (91 + 24 * p + m) p2) (87 + p) (nI (m + 1))) (87 + p) - 1 = nI m := by
                rw [ct_l (by omega), upd_s]
                exact sub_n (b := 1) (by omega)
              rw [ev]
              have ee : ∀ k : Nat, k < 187 → k ≠ 91 + 24 * p + m → upd (ct (upd (upd now (91 + 24 * p + m) p2) (87 + p) (nI (m + 1)))) (87 + p) (nI m) k = ct now k := by
                intro k h1 h2
                rw [upd_d]
                by_cases c : k = 87 + p
                · subst c
                  rw [if_pos rfl, ct_l h1]; exact em.symm
                · rw [if_neg c, ct_l h1, ct_l h1, upd_n c, upd_n h2]
              have hnn2 : nn (upd (ct (upd (upd now (91 + 24 * p + m) p2) (87 + p) (nI (m + 1)))) (87 + p) (nI m)) = nn now := by rw [nn_upd (by omega), nn_ct, hnn]
              refine ⟨ee 0 (by omega) (by omega), ee 1 (by omega) (by omega), fun k hk => ee _ (by omega) (by omega), fun k hk => ?_, fun p' hp' => ⟨ee _ (by omega) (by omega), fun i hi => ?_⟩⟩
              · rw [hnn2] at hk
                exact ⟨ee _ (by omega) (by omega), ee _ (by omega) (by omega), ee _ (by omega) (by omega), ee _ (by omega) (by omega)⟩
              · have e5 : hc (upd (ct (upd (upd now (91 + 24 * p + m) p2) (87 + p) (nI (m + 1)))) (87 + p) (nI m)) p' = hc now p' := (hc_e (ee _ (by omega) (by omega))).trans (hc_e (ct_l (by omega)))
                rw [e5] at hi
                have := (wf_h hW hp').1
                refine ee _ (by omega) ?_
                by_cases cp : p' = p
                · subst cp; omega
                · omega
    · left
      simp only [if_pos c1, if_neg c2, if_pos (show 0 ≤ (nI p).toInt ∧ (nI p).toInt ≤ 3 by omega), b1_e, i10, i00, rfd, mfd, b2_e]
      exact ⟨_, rfl, rfl⟩
  · left
    rw [if_neg c1, if_neg (show ¬ (0 ≤ p1.toInt ∧ p1.toInt ≤ 3) by omega)]
    simp only [b1_e, i00, rfd, mfd, b2_e]
    exact ⟨_, rfl, rfl⟩
end OPS4
