section OPS5
variable {kinds ticks drums marks values counts hits now past acts fis ses tis drs hts sT sH : Nat → Int32} {count there pc ps kept : Int32} {q slot : Nat}
/-- one more note in a view -/
def nad (x : Nat → Int32) (n : Nat) (a b c d v : Int32) : Nat → Int32 := upd (upd (upd (upd (upd x (7 + n) a) (27 + n) b) (47 + n) c) (67 + n) d) 0 v
theorem nad_o {x : Nat → Int32} {n k : Nat} {a b c d v : Int32} (h0 : k ≠ 0) (h1 : k ≠ 7 + n) (h2 : k ≠ 27 + n) (h3 : k ≠ 47 + n) (h4 : k ≠ 67 + n) : nad x n a b c d v k = x k := by
  unfold nad
  rw [upd_n h0, upd_n h4, upd_n h3, upd_n h2, upd_n h1]
theorem nad_7 {x : Nat → Int32} {n : Nat} {a b c d v : Int32} : nad x n a b c d v (7 + n) = a := by
  unfold nad
  rw [upd_n (by omega), upd_n (by omega), upd_n (by omega), upd_n (by omega), upd_s]
theorem nad_27 {x : Nat → Int32} {n : Nat} {a b c d v : Int32} : nad x n a b c d v (27 + n) = b := by
  unfold nad
  rw [upd_n (by omega), upd_n (by omega), upd_n (by omega), upd_s]
theorem nad_47 {x : Nat → Int32} {n : Nat} {a b c d v : Int32} : nad x n a b c d v (47 + n) = c := by
  unfold nad
  rw [upd_n (by omega), upd_n (by omega), upd_s]
theorem nad_67 {x : Nat → Int32} {n : Nat} {a b c d v : Int32} : nad x n a b c d v (67 + n) = d := by
  unfold nad
  rw [upd_n (by omega), upd_s]
theorem nad_0 {x : Nat → Int32} {n : Nat} {a b c d v : Int32} : nad x n a b c d v 0 = v := by
  unfold nad
  rw [upd_s]
theorem nad_nn {x : Nat → Int32} {n : Nat} {a b c d : Int32} (hn : n < 20) : nn (nad x n a b c d (nI (n + 1))) = n + 1 := by
  unfold nn
  rw [nad_0]
  exact cl_n (by omega)
theorem nad_rep (hR : rep kinds ticks drums marks count values there counts hits now) (hW : wf now) (hn : nn now < 20) (a b c d : Int32) : rep (upd kinds (nn now) a) (upd ticks (nn now) b) (upd drums (nn now) c) (upd marks (nn now) d) (nI (nn now + 1)) values there counts hits (nad now (nn now) a b c d (nI (nn now + 1))) := by
  obtain ⟨r0, r1, r2, r3, r4⟩ := hR
  have hnn := nad_nn (x := now) (a := a) (b := b) (c := c) (d := d) hn
  refine ⟨nad_0.symm, r1.trans (nad_o (by omega) (by omega) (by omega) (by omega) (by omega)).symm, fun k hk => (r2 k hk).trans (nad_o (by omega) (by omega) (by omega) (by omega) (by omega)).symm, fun k hk => ?_, fun p hp => ?_⟩
  · rw [hnn] at hk
    by_cases ck : k = nn now
    · subst ck
      rw [nad_7, nad_27, nad_47, nad_67]
      exact ⟨upd_s, upd_s, upd_s, upd_s⟩
    · rw [upd_n ck, upd_n ck, upd_n ck, upd_n ck, nad_o (by omega) (by omega) (by omega) (by omega) (by omega), nad_o (by omega) (by omega) (by omega) (by omega) (by omega), nad_o (by omega) (by omega) (by omega) (by omega) (by omega), nad_o (by omega) (by omega) (by omega) (by omega) (by omega)]
      exact r3 k (by omega)
  · have e : nad now (nn now) a b c d (nI (nn now + 1)) (87 + p) = now (87 + p) := nad_o (by omega) (by omega) (by omega) (by omega) (by omega)
    refine ⟨(r4 p hp).1.trans e.symm, fun i hi => ?_⟩
    rw [hc_e e] at hi
    exact ((r4 p hp).2 i hi).trans (nad_o (by omega) (by omega) (by omega) (by omega) (by omega)).symm
theorem nad_wf (hW : wf now) (hn : nn now < 20) {a b c d : Int32} (ha : rg 0 3 a) (hb : rg 0 9999 b) (hc0 : rg 0 4 c) (hd : rg (-1) 1 d) : wf (nad now (nn now) a b c d (nI (nn now + 1))) := by
  obtain ⟨w0, w1, w2, w3, w4⟩ := hW
  have hnn := nad_nn (x := now) (a := a) (b := b) (c := c) (d := d) hn
  have o : ∀ k : Nat, k ≠ 0 → k < 7 → nad now (nn now) a b c d (nI (nn now + 1)) k = now k := fun k h1 h2 => nad_o h1 (by omega) (by omega) (by omega) (by omega)
  refine ⟨by rw [nad_0]; unfold rg; rw [ito (by omega)]; omega, by rw [o 1 (by omega) (by omega)]; exact w1, ⟨by rw [o 2 (by omega) (by omega)]; exact w2.1, by rw [o 3 (by omega) (by omega)]; exact w2.2.1, by rw [o 4 (by omega) (by omega)]; exact w2.2.2.1, by rw [o 5 (by omega) (by omega)]; exact w2.2.2.2.1, by rw [o 6 (by omega) (by omega)]; exact w2.2.2.2.2⟩, fun k hk => ?_, fun p hp => ?_⟩
  · rw [hnn] at hk
    by_cases ck : k = nn now
    · subst ck
      rw [nad_7, nad_27, nad_47, nad_67]
      exact ⟨ha, hb, hc0, hd⟩
    · rw [nad_o (by omega) (by omega) (by omega) (by omega) (by omega), nad_o (by omega) (by omega) (by omega) (by omega) (by omega), nad_o (by omega) (by omega) (by omega) (by omega) (by omega), nad_o (by omega) (by omega) (by omega) (by omega) (by omega)]
      exact w3 k (by omega)
  · have e : nad now (nn now) a b c d (nI (nn now + 1)) (87 + p) = now (87 + p) := nad_o (by omega) (by omega) (by omega) (by omega) (by omega)
    refine ⟨by rw [e]; exact (w4 p hp).1, fun i hi => ?_⟩
    rw [hc_e e] at hi
    rw [nad_o (by omega) (by omega) (by omega) (by omega) (by omega)]
    exact (w4 p hp).2 i hi
theorem stk_add {n : Nat} (h : stk kinds ticks sT sH n) (a b : Int32) : stk (upd kinds n a) (upd ticks n b) (upd (upd sT (2 * n + 1) b) (2 * n + 2) (b - 4)) (upd (upd sH (2 * n + 1) (sT0 a.toNatClampNeg)) (2 * n + 2) 1) (n + 1) := by
  intro k hk
  by_cases ck : k = n
  · subst ck
    rw [upd_n (show 2 * k + 1 ≠ 2 * k + 2 by omega), upd_s, upd_s, upd_s, upd_n (show 2 * k + 1 ≠ 2 * k + 2 by omega), upd_s, upd_s, upd_s]
    exact ⟨rfl, rfl, rfl, rfl⟩
  · rw [upd_n (show 2 * k + 1 ≠ 2 * n + 2 by omega), upd_n (show 2 * k + 1 ≠ 2 * n + 1 by omega), upd_n (show 2 * k + 2 ≠ 2 * n + 2 by omega), upd_n (show 2 * k + 2 ≠ 2 * n + 1 by omega), upd_n (show 2 * k + 1 ≠ 2 * n + 2 by omega), upd_n (show 2 * k + 1 ≠ 2 * n + 1 by omega), upd_n (show 2 * k + 2 ≠ 2 * n + 2 by omega), upd_n (show 2 * k + 2 ≠ 2 * n + 1 by omega), upd_n ck, upd_n ck]
    exact h k (by omega)
theorem app_e {n : Nat} (hn : n < 20) (kinds ticks drums marks sT sH : Nat → Int32) {a : Int32} (ha : rg 0 3 a) (b c d : Int32) : f_Line_append kinds ticks drums marks sT sH (nI n) a b c d = some (upd kinds n a, upd ticks n b, upd drums n c, upd marks n d, upd (upd sT (2 * n + 1) b) (2 * n + 2) (b - 4), upd (upd sH (2 * n + 1) (sT0 a.toNatClampNeg)) (2 * n + 2) 1, nI (n + 1)) := by
  obtain ⟨k, rfl, k1, k2, k3⟩ := inat ha (by omega)
  have m1 : f_Line_mainOf (nI n) = some (nI (2 * n + 1)) := by
    unfold f_Line_mainOf
    show some (nI 1 + nI 2 * nI n) = _
    rw [mul_n, add_n, Nat.add_comm]
  have m2 : f_Line_graceOf (nI n) = some (nI (2 * n + 2)) := by
    unfold f_Line_graceOf
    show some (nI 2 + nI 2 * nI n) = _
    rw [mul_n, add_n, Nat.add_comm]
  have e9 : nI n + 1 = nI (n + 1) := nI_1 n
  unfold f_Line_append
  rw [if_pos (show nI n < 20 from nI_lt (b := 20) (by omega) (by omega))]
  simp only [ck_n (n := 20) (j := n) (by omega) (by omega), m1, m2, b1_e, ck_n (n := 41) (j := 2 * n + 1) (by omega) (by omega), ck_n (n := 41) (j := 2 * n + 2) (by omega) (by omega), nm_e1, rd_n (n := 4) (j := k) (by omega) (by omega), e9, cl_n (show n < 2147483648 by omega), cl_n (show 2 * n + 1 < 2147483648 by omega), cl_n (show 2 * n + 2 < 2147483648 by omega), cl_n (show k < 2147483648 by omega)]
theorem op_note (hR : rep kinds ticks drums marks count values there counts hits now) (hW : wf now) (hK : stk kinds ticks sT sH (nn now)) (hp : pst q slot pc acts fis ses tis drs hts ps now past kept) (x known p1 p2 p3 : Int32) :
    (∃ r, f_Room_note x known kinds ticks drums marks sT sH count pc acts fis ses ps p1 p2 p3 = some (r, x + 1, known, kinds, ticks, drums, marks, sT, sH, count, pc, acts, fis, ses, ps) ∧ f_Model_note now past kept x p1 p2 p3 = some (r, now, past, kept, x + 1)) ∨
    (∃ r kinds2 ticks2 drums2 marks2 sT2 sH2 count2 acts2 fis2 ses2 now2 past2 q2 slot2, f_Room_note x known kinds ticks drums marks sT sH count pc acts fis ses ps p1 p2 p3 = some (r, x, 0, kinds2, ticks2, drums2, marks2, sT2, sH2, count2, nI q2, acts2, fis2, ses2, nI slot2) ∧ f_Model_note now past kept x p1 p2 p3 = some (r, now2, past2, nI q2, x) ∧ rep kinds2 ticks2 drums2 marks2 count2 values there counts hits now2 ∧ wf now2 ∧ stk kinds2 ticks2 sT2 sH2 (nn now2) ∧ pst q2 slot2 (nI q2) acts2 fis2 ses2 tis drs hts (nI slot2) now2 past2 (nI q2)) := by
  have hp0 := hp
  obtain ⟨hq, hs, e1, e2, e3, hch⟩ := hp
  have hR0 := hR
  obtain ⟨r0, r1, r2, r3, r4⟩ := hR
  obtain ⟨hn, h0⟩ := wf_n hW
  have ecount : count = nI (nn now) := r0.trans h0
  unfold f_Room_note f_Model_note
  rw [isB (p := p1) (q := 4) (z := 4) rfl, isB (p := p3) (q := 5) (z := 5) rfl, isT, mtk, wit (p := p1) (lo := 0) (hi := 3) (a := 0) (b := 3) rfl rfl, wit (p := p3) (lo := 0) (hi := 4) (a := 0) (b := 4) rfl rfl]
  by_cases c1 : 0 ≤ p1.toInt ∧ p1.toInt < 4
  · by_cases c2 : 0 ≤ p2.toInt ∧ p2.toInt ≤ 9999
    · by_cases c3 : 0 ≤ p3.toInt ∧ p3.toInt < 5
      · simp only [if_pos c1, if_pos c2, if_pos c3, if_pos (show 0 ≤ p1.toInt ∧ p1.toInt ≤ 3 by omega), if_pos (show 0 ≤ p3.toInt ∧ p3.toInt ≤ 4 by omega), b1_e, i10, rd_l (n := 187) (i := 0) 0 rfl (by omega) (by omega), h0, ecount]
        generalize hne : nn now = n at *
        have hlt : f_Line_latestTick ticks (nI n) = some (if n = 0 then -1 else now (27 + (n - 1))) := by
          unfold f_Line_latestTick
          by_cases cn : n = 0
          · rw [if_pos (show nI n = 0 by rw [cn]; rfl), if_pos cn]
          · have e : nI n - 1 = nI (n - 1) := sub_n (b := 1) (by omega)
            rw [if_neg (show ¬ nI n = 0 from nI_ne0 (by omega) (by omega)), if_neg cn, e, rd_n (by omega) (by omega), (r3 (n - 1) (by omega)).2.1]
        have hl2 : 0 < n → ((27 : Int32) + nI n) - 1 = nI (27 + (n - 1)) := by
          intro h
          show (nI 27 + nI n) - nI 1 = _
          rw [add_n, sub_n (by omega)]
          congr 1
          omega
        rw [hlt, b1_e]
        by_cases c4 : 0 < n ∧ p2.toInt ≤ (now (27 + (n - 1))).toInt
        · left
          have c9 : ¬ now (27 + (n - 1)) < p2 := by rw [ltI]; omega
          rw [if_neg (show ¬ nI n ≤ 0 from nI_nle c4.1 (by omega)), hl2 c4.1, rd_n (by omega) (by omega), if_neg (show ¬ n = 0 by omega)]
          simp only [if_neg c9, rfd, mfd, b2_e]
          exact ⟨_, rfl, rfl⟩
        · have hcl : (if n = 0 then (-1 : Int32) else now (27 + (n - 1))) < p2 := by
            by_cases cn : n = 0
            · rw [if_pos cn, ltI, show (-1 : Int32).toInt = -1 from rfl]; omega
            · rw [if_neg cn, ltI]; omega
          have hmo : (if nI n ≤ 0 then f_Model_note_68 p1 p2 p3 (nI n) now past kept x else rd 187 now (((27 : Int32) + nI n) - 1) fun x29 => if x29 < p2 then f_Model_note_68 p1 p2 p3 (nI n) now past kept x else b2 (f_Model_finding x (-100003)) fun r31 y32 => some (r31, now, past, kept, y32)) = f_Model_note_68 p1 p2 p3 (nI n) now past kept x := by
            by_cases cn : n = 0
            · rw [if_pos (show nI n ≤ 0 by rw [cn]; decide)]
            · rw [if_neg (show ¬ nI n ≤ 0 from nI_nle (by omega) (by omega)), hl2 (by omega), rd_n (by omega) (by omega), if_pos (show now (27 + (n - 1)) < p2 by rw [ltI]; omega)]
          rw [if_pos hcl, hmo]
          unfold f_Model_note_68
          by_cases c5 : n = 20
          · left
            rw [if_neg (show ¬ nI n < 20 by rw [c5]; decide), if_pos (show nI n = 20 by rw [c5]; rfl)]
            simp only [rfd, mfd, b2_e]
            exact ⟨_, rfl, rfl⟩
          · right
            have hp1 : rg 0 3 p1 := ⟨c1.1, by omega⟩
            have a7 : (7 : Int32) + nI n = nI (7 + n) := add_n 7 n
            have a27 : (27 : Int32) + nI n = nI (27 + n) := add_n 27 n
            have a47 : (47 : Int32) + nI n = nI (47 + n) := add_n 47 n
            have a67 : (67 : Int32) + nI n = nI (67 + n) := add_n 67 n
            have en : upd (upd (upd (upd now (7 + n) p1) (27 + n) p2) (47 + n) p3) (67 + n) (-1) 0 = nI n := by
              rw [upd_n (by omega), upd_n (by omega), upd_n (by omega), upd_n (by omega)]; exact h0
            have e9 : nI n + 1 = nI (n + 1) := nI_1 n
            have e8 : nI (n + 1) - 1 = nI n := nI_pred n
            rw [if_pos (show nI n < 20 from nI_lt (b := 20) (by omega) (by omega)), if_neg (show ¬ nI n = 20 from fun h => c5 ((nI_eq (b := 20) (by omega) (by omega)).mp h))]
            simp only [e1, e2, e3, c_kp hq hs, m_keep now past hq, b6_e, b7_e, b2_e, app_e (show n < 20 by omega) kinds ticks drums marks sT sH hp1, a7, a27, a47, a67, ck_n (n := 187) (j := 7 + n) (by omega) (by omega), ck_n (n := 187) (j := 27 + n) (by omega) (by omega), ck_n (n := 187) (j := 47 + n) (by omega) (by omega), ck_n (n := 187) (j := 67 + n) (by omega) (by omega), cl_n (show 7 + n < 2147483648 by omega), cl_n (show 27 + n < 2147483648 by omega), cl_n (show 47 + n < 2147483648 by omega), cl_n (show 67 + n < 2147483648 by omega), rd_l (n := 187) (i := 0) 0 rfl (by omega) (by omega), ck_l (n := 187) (i := 0) 0 rfl (by omega) (by omega), en, nm_e1, e9, e8, show (0 : Int32).toNatClampNeg = 0 from rfl]
            have hN : nad now n p1 p2 p3 (-1) (nI (n + 1)) = upd (upd (upd (upd (upd now (7 + n) p1) (27 + n) p2) (47 + n) p3) (67 + n) (-1)) 0 (nI (n + 1)) := rfl
            rw [← hN]
            subst hne
            have hnn := nad_nn (x := now) (a := p1) (b := p2) (c := p3) (d := -1) (show nn now < 20 by omega)
            refine ⟨_, _, _, _, _, _, _, _, _, _, _, _, _, _, _, rfl, rfl, nad_rep hR0 hW (by omega) p1 p2 p3 (-1), nad_wf hW (by omega) hp1 c2 ⟨c3.1, by omega⟩ ⟨by decide, by decide⟩, ?_, ?_⟩
            · rw [hnn]
              exact stk_add hK p1 p2
            · refine pst_act hp0 hW (fun i _ _ => ⟨rfl, rfl, fun k => Or.inl rfl⟩) (Or.inl ⟨rfl, by rw [nn_ct, hnn]; omega, ?_⟩)
              have ev : ct (nad now (nn now) p1 p2 p3 (-1) (nI (nn now + 1))) 0 - 1 = nI (nn now) := by
                rw [ct_l (by omega), nad_0]; exact nI_pred _
              rw [ev]
              have ee : ∀ k : Nat, k < 187 → k ≠ 7 + nn now → k ≠ 27 + nn now → k ≠ 47 + nn now → k ≠ 67 + nn now → upd (ct (nad now (nn now) p1 p2 p3 (-1) (nI (nn now + 1)))) 0 (nI (nn now)) k = ct now k := by
                intro k g1 g2 g3 g4 g5
                by_cases c : k = 0
                · subst c
                  rw [upd_s, ct_l g1]; exact h0.symm
                · rw [upd_n c, ct_l g1, ct_l g1, nad_o c g2 g3 g4 g5]
              have hnn2 : nn (upd (ct (nad now (nn now) p1 p2 p3 (-1) (nI (nn now + 1)))) 0 (nI (nn now))) = nn now := by
                unfold nn
                rw [upd_s]
                exact cl_n (by unfold nn at hn; omega)
              refine ⟨ee 0 (by omega) (by omega) (by omega) (by omega) (by omega), ee 1 (by omega) (by omega) (by omega) (by omega) (by omega), fun k hk => ee _ (by omega) (by omega) (by omega) (by omega) (by omega), fun k hk => ?_, fun p hp => ⟨ee _ (by omega) (by omega) (by omega) (by omega) (by omega), fun i hi => ?_⟩⟩
              · rw [hnn2] at hk
                exact ⟨ee _ (by omega) (by omega) (by omega) (by omega) (by omega), ee _ (by omega) (by omega) (by omega) (by omega) (by omega), ee _ (by omega) (by omega) (by omega) (by omega) (by omega), ee _ (by omega) (by omega) (by omega) (by omega) (by omega)⟩
              · have e5 : hc (upd (ct (nad now (nn now) p1 p2 p3 (-1) (nI (nn now + 1)))) 0 (nI (nn now))) p = hc now p := (hc_e (ee _ (by omega) (by omega) (by omega) (by omega) (by omega))).trans (hc_e (ct_l (by omega)))
                rw [e5] at hi
                have := (wf_h hW hp).1
                exact ee _ (by omega) (by omega) (by omega) (by omega) (by omega)
      · left
        simp only [if_pos c1, if_pos c2, if_neg c3, if_pos (show 0 ≤ p1.toInt ∧ p1.toInt ≤ 3 by omega), if_neg (show ¬ (0 ≤ p3.toInt ∧ p3.toInt ≤ 4) by omega), b1_e, i10, i00]
        exact ⟨_, rfl, rfl⟩
    · left
      simp only [if_pos c1, if_neg c2, if_pos (show 0 ≤ p1.toInt ∧ p1.toInt ≤ 3 by omega), b1_e, i10, i00]
      exact ⟨_, rfl, rfl⟩
  · left
    simp only [if_neg c1, if_neg (show ¬ (0 ≤ p1.toInt ∧ p1.toInt ≤ 3) by omega), b1_e, i00]
    exact ⟨_, rfl, rfl⟩
end OPS5
