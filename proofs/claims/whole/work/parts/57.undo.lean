section UNDO
variable {kinds ticks drums marks values counts hits now past acts fis ses tis drs hts sT sH : Nat → Int32} {count there pc ps kept : Int32} {q slot : Nat}
theorem mu_e (past : Nat → Int32) {j : Nat} (hj : j < 20) (x : Int32) : ∀ (d i N : Nat) (f : Nat → Int32), i + d = 187 → d < N → f_Model_undo_26 past N (nI i) f (nI j) x = some (nI j, wr f past 0 (187 * j) i 187, nI j, x) := by
  intro d
  induction d with
  | zero =>
    intro i N f h1 h2
    obtain ⟨N, rfl⟩ : ∃ m, N = m + 1 := ⟨N - 1, by omega⟩
    obtain rfl : i = 187 := by omega
    show f_Model_undo_26_b past (f_Model_undo_26 past N) (nI 187) f (nI j) x = _
    unfold f_Model_undo_26_b
    rw [if_pos (show (187 : Int32) ≤ nI 187 by decide), wr_0]
  | succ d ih =>
    intro i N f h1 h2
    obtain ⟨N, rfl⟩ : ∃ m, N = m + 1 := ⟨N - 1, by omega⟩
    show f_Model_undo_26_b past (f_Model_undo_26 past N) (nI i) f (nI j) x = _
    unfold f_Model_undo_26_b
    have e9 : nI i + 1 = nI (i + 1) := nI_1 i
    have e1 : (nI j * 187) + nI i = nI (187 * j + i) := by
      show nI j * nI 187 + nI i = _
      rw [mul_n, add_n, Nat.mul_comm]
    rw [if_neg (show ¬ (187 : Int32) ≤ nI i from nI_ge (b := 187) (by omega) (by omega)), e1, rd_n (by omega) (by omega), ck_n (by omega) (by omega), cl_n (by omega), nm_e1, e9, ih (i + 1) N _ (by omega) (by omega)]
    have e := wr_s (f := f) (g := past) (a := 0) (b := 187 * j) (i := i) (n := 187) (by omega)
    rw [Nat.zero_add] at e
    rw [e]
theorem ru_e {p m s : Nat} (hp : p < 4) (hm : m ≤ 24) (hs : s < 20) (acts fis ses tis drs hts : Nat → Int32) (a1 a2 a3 a4 a5 a6 : Nat → Int32) (c1 : Int32) (v1 : Nat → Int32) (t1 : Int32) : ∀ (d i N : Nat) (counts hits : Nat → Int32), i + d = m → d < N → counts p = nI i → f_Room_revert_152 acts fis ses tis drs hts (nI s) N (nI p) (nI m) (nI i) a1 a2 a3 a4 a5 a6 c1 v1 t1 counts hits = some (a1, a2, a3, a4, a5, a6, c1, v1, t1, upd counts p (nI m), wr hits hts (24 * p) (24 * s) i m) := by
  intro d
  induction d with
  | zero =>
    intro i N counts hits h1 h2 ec
    obtain ⟨N, rfl⟩ : ∃ m, N = m + 1 := ⟨N - 1, by omega⟩
    obtain rfl : i = m := by omega
    show f_Room_revert_152_b acts fis ses tis drs hts (nI s) (f_Room_revert_152 acts fis ses tis drs hts (nI s) N) (nI p) (nI i) (nI i) a1 a2 a3 a4 a5 a6 c1 v1 t1 counts hits = _
    unfold f_Room_revert_152_b
    rw [if_pos (nI_le (by omega) (by omega)), wr_0, upd_same ec]
  | succ d ih =>
    intro i N counts hits h1 h2 ec
    obtain ⟨N, rfl⟩ : ∃ m, N = m + 1 := ⟨N - 1, by omega⟩
    show f_Room_revert_152_b acts fis ses tis drs hts (nI s) (f_Room_revert_152 acts fis ses tis drs hts (nI s) N) (nI p) (nI m) (nI i) a1 a2 a3 a4 a5 a6 c1 v1 t1 counts hits = _
    unfold f_Room_revert_152_b f_Past_hitAt
    have e9 : nI i + 1 = nI (i + 1) := nI_1 i
    rw [if_neg (nI_ge (by omega) (by omega)), i_24, rd_n (by omega) (by omega), b1_e, ap_e hp (by omega) ec, b2_e, nm_e1, e9, ih (i + 1) N _ _ (by omega) (by omega) upd_s, upd_upd, wr_s (by omega)]
/-- what the room's revert does is what the link says -/
theorem rev_e (hR : rep kinds ticks drums marks count values there counts hits now) (hW : wf now) (hK : stk kinds ticks sT sH (nn now)) (hs : slot < 20) {y : Nat → Int32} (hl : lnk (acts slot) (fis slot) (ses slot) (tis slot) (drs slot) (fun k => hts (24 * slot + k)) (ct now) y) :
    ∃ kinds2 ticks2 drums2 marks2 sT2 sH2 count2 values2 there2 counts2 hits2, f_Room_revert kinds ticks drums marks sT sH count values there counts hits acts fis ses tis drs hts (nI slot) = some (kinds2, ticks2, drums2, marks2, sT2, sH2, count2, values2, there2, counts2, hits2) ∧ rep kinds2 ticks2 drums2 marks2 count2 values2 there2 counts2 hits2 y ∧ stk kinds2 ticks2 sT2 sH2 (nn y) := by
  have hRc : rep kinds ticks drums marks count values there counts hits (ct now) := rep_vis hR (vis_ct hW)
  have hWc : wf (ct now) := wf_vis (vis_ct hW) hW
  obtain ⟨hn, h0⟩ := wf_n hWc
  have hR0 := hRc
  obtain ⟨r0, r1, r2, r3, r4⟩ := hRc
  rw [← nn_ct now] at hK
  generalize ct now = X at *
  have ecount : count = nI (nn X) := r0.trans h0
  unfold f_Room_revert f_Past_first f_Past_second f_Past_act f_Past_tick f_Past_drum
  simp only [rd_n (n := 20) (j := slot) (by omega) (by omega), b1_e]
  rcases hl with ⟨ha, hn0, hv⟩ | ⟨ha, hn20, hfi, hv⟩ | ⟨ha, j, hj, hfi, hv⟩ | ⟨ha, j, hj, hfi, g1, g2, hv⟩ | ⟨ha, hv⟩ | ⟨ha, p, hp, hfi, hh, hv⟩ | ⟨ha, p, m, hp, hm, hfi, hse, hv⟩
  · rw [ha, if_pos rfl]
    have hrl : f_Line_removeLatest count = some (nI (nn X - 1)) := by
      unfold f_Line_removeLatest
      have em : nI (nn X) - 1 = nI (nn X - 1) := sub_n (b := 1) (by omega)
      rw [ecount, if_neg (show ¬ nI (nn X) ≤ 0 from nI_nle (by omega) (by omega)), nm_e1, em]
    have e0 : X 0 - 1 = nI (nn X - 1) := by rw [h0]; exact sub_n (b := 1) (by omega)
    rw [hrl]
    simp only [b1_e]
    have hnn : nn (upd X 0 (X 0 - 1)) = nn X - 1 := by
      have : nn (upd X 0 (X 0 - 1)) = (upd X 0 (X 0 - 1) 0).toNatClampNeg := rfl
      rw [this, upd_s, e0]
      exact cl_n (by omega)
    refine ⟨_, _, _, _, _, _, _, _, _, _, _, rfl, rep_vis ?_ hv, ?_⟩
    · refine ⟨by rw [upd_s, e0], r1.trans (upd_n (by omega)).symm, fun k hk => (r2 k hk).trans (upd_n (by omega)).symm, fun k hk => ?_, fun p hp => ⟨(r4 p hp).1.trans (upd_n (by omega)).symm, fun i hi => ?_⟩⟩
      · rw [hnn] at hk
        obtain ⟨a, b, c, d⟩ := r3 k (by omega)
        exact ⟨a.trans (upd_n (by omega)).symm, b.trans (upd_n (by omega)).symm, c.trans (upd_n (by omega)).symm, d.trans (upd_n (by omega)).symm⟩
      · rw [hc_upd (by omega)] at hi
        exact ((r4 p hp).2 i hi).trans (upd_n (by omega)).symm
    · rw [← nn_e hv.1, hnn]
      exact fun k hk => hK k (by omega)
  · rw [ha, if_neg (by decide), if_pos rfl, ecount, app_e hn20 kinds ticks drums marks sT sH hfi, b7_e]
    have e1 : X 0 + 1 = nI (nn X + 1) := by rw [h0]; exact nI_1 _
    rw [e1] at hv
    have hv' : vis (nad X (nn X) (fis slot) (tis slot) (drs slot) (ses slot) (nI (nn X + 1))) y := hv
    refine ⟨_, _, _, _, _, _, _, _, _, _, _, rfl, rep_vis (nad_rep hR0 hWc hn20 _ _ _ _) hv', ?_⟩
    rw [← nn_e hv'.1, nad_nn hn20]
    exact stk_add hK _ _
  · rw [ha, if_neg (by decide), if_neg (by decide), if_pos rfl, hfi, ecount]
    have hset : f_Line_setMark marks (nI (nn X)) (nI j) (ses slot) = some (upd marks j (ses slot)) := by
      unfold f_Line_setMark
      rw [hasN hn, if_pos (by rw [ito (by omega)]; omega), b1_e, i10, ck_n (by omega) (by omega), cl_n (by omega)]
    have hnn : nn (upd X (67 + j) (ses slot)) = nn X := nn_upd (by omega)
    rw [hset, b1_e]
    refine ⟨_, _, _, _, _, _, _, _, _, _, _, rfl, rep_vis ?_ hv, ?_⟩
    · refine ⟨h0.symm.trans (upd_n (by omega)).symm, r1.trans (upd_n (by omega)).symm, fun k hk => (r2 k hk).trans (upd_n (by omega)).symm, fun k hk => ?_, fun p hp => ⟨(r4 p hp).1.trans (upd_n (by omega)).symm, fun i hi => ?_⟩⟩
      · rw [hnn] at hk
        obtain ⟨a, b, c, d⟩ := r3 k hk
        refine ⟨a.trans (upd_n (by omega)).symm, b.trans (upd_n (by omega)).symm, c.trans (upd_n (by omega)).symm, ?_⟩
        rw [upd_d, upd_d]
        by_cases ck : k = j
        · rw [if_pos ck, if_pos (by omega)]
        · rw [if_neg ck, if_neg (by omega)]
          exact d
      · rw [hc_upd (by omega)] at hi
        exact ((r4 p hp).2 i hi).trans (upd_n (by omega)).symm
    · rw [← nn_e hv.1, hnn]
      exact hK
  · rw [ha, if_neg (by decide), if_neg (by decide), if_neg (by decide), if_pos rfl, hfi]
    have hset : f_Rules_change values (nI j) (ses slot) = some (upd values j (ses slot)) := by
      unfold f_Rules_change
      rw [may_e (by omega), if_pos ⟨g1, g2⟩, b1_e, i10, ck_n (by omega) (by omega), cl_n (by omega)]
    have hnn : nn (upd X (2 + j) (ses slot)) = nn X := nn_upd (by omega)
    rw [hset, b1_e]
    refine ⟨_, _, _, _, _, _, _, _, _, _, _, rfl, rep_vis ?_ hv, ?_⟩
    · refine ⟨r0.trans (upd_n (by omega)).symm, r1.trans (upd_n (by omega)).symm, fun k hk => ?_, fun k hk => ?_, fun p hp => ⟨(r4 p hp).1.trans (upd_n (by omega)).symm, fun i hi => ?_⟩⟩
      · rw [upd_d, upd_d]
        by_cases ck : k = j
        · rw [if_pos ck, if_pos (by omega)]
        · rw [if_neg ck, if_neg (by omega)]
          exact r2 k hk
      · rw [hnn] at hk
        obtain ⟨a, b, c, d⟩ := r3 k hk
        exact ⟨a.trans (upd_n (by omega)).symm, b.trans (upd_n (by omega)).symm, c.trans (upd_n (by omega)).symm, d.trans (upd_n (by omega)).symm⟩
      · rw [hc_upd (by omega)] at hi
        exact ((r4 p hp).2 i hi).trans (upd_n (by omega)).symm
    · rw [← nn_e hv.1, hnn]
      exact hK
  · rw [ha, if_neg (by decide), if_neg (by decide), if_neg (by decide), if_neg (by decide), if_pos rfl]
    have hnn : nn (upd X 1 (fis slot)) = nn X := nn_upd (by omega)
    refine ⟨_, _, _, _, _, _, _, _, _, _, _, rfl, rep_vis ?_ hv, ?_⟩
    · refine ⟨r0.trans (upd_n (by omega)).symm, upd_s.symm, fun k hk => (r2 k hk).trans (upd_n (by omega)).symm, fun k hk => ?_, fun p hp => ⟨(r4 p hp).1.trans (upd_n (by omega)).symm, fun i hi => ?_⟩⟩
      · rw [hnn] at hk
        obtain ⟨a, b, c, d⟩ := r3 k hk
        exact ⟨a.trans (upd_n (by omega)).symm, b.trans (upd_n (by omega)).symm, c.trans (upd_n (by omega)).symm, d.trans (upd_n (by omega)).symm⟩
      · rw [hc_upd (by omega)] at hi
        exact ((r4 p hp).2 i hi).trans (upd_n (by omega)).symm
    · rw [← nn_e hv.1, hnn]
      exact hK
  · rw [ha, if_neg (by decide), if_neg (by decide), if_neg (by decide), if_neg (by decide), if_neg (by decide), if_pos rfl, hfi]
    obtain ⟨hm24, em⟩ := wf_h hWc hp
    have ec : counts p = nI (hc X p) := (r4 p hp).1.trans em
    have e1 : X (87 + p) - 1 = nI (hc X p - 1) := by rw [em]; exact sub_n (b := 1) (by omega)
    have hset : f_Tapes_removeLatest counts (nI p) = some (upd counts p (nI (hc X p - 1))) := by
      unfold f_Tapes_removeLatest
      have e2 : nI (hc X p) - 1 = nI (hc X p - 1) := sub_n (b := 1) (by omega)
      simp only [rd_n (n := 4) (j := p) (by omega) (by omega), ec, nm_e1, e2, ck_n (n := 4) (j := p) (by omega) (by omega), cl_n (show p < 2147483648 by omega)]
      rw [if_neg (show ¬ nI (hc X p) ≤ 0 from nI_nle (by omega) (by omega))]
    have hnn : nn (upd X (87 + p) (X (87 + p) - 1)) = nn X := nn_upd (by omega)
    have hc3 : hc (upd X (87 + p) (X (87 + p) - 1)) p = hc X p - 1 := by
      have : hc (upd X (87 + p) (X (87 + p) - 1)) p = (upd X (87 + p) (X (87 + p) - 1) (87 + p)).toNatClampNeg := rfl
      rw [this, upd_s, e1]
      exact cl_n (by omega)
    rw [hset, b1_e]
    refine ⟨_, _, _, _, _, _, _, _, _, _, _, rfl, rep_vis ?_ hv, ?_⟩
    · refine ⟨r0.trans (upd_n (by omega)).symm, r1.trans (upd_n (by omega)).symm, fun k hk => (r2 k hk).trans (upd_n (by omega)).symm, fun k hk => ?_, fun p' hp' => ?_⟩
      · rw [hnn] at hk
        obtain ⟨a, b, c, d⟩ := r3 k hk
        exact ⟨a.trans (upd_n (by omega)).symm, b.trans (upd_n (by omega)).symm, c.trans (upd_n (by omega)).symm, d.trans (upd_n (by omega)).symm⟩
      · by_cases cp : p' = p
        · subst cp
          refine ⟨by rw [upd_s, upd_s, e1], fun i hi => ?_⟩
          rw [hc3] at hi
          rw [upd_n (by omega)]
          exact (r4 p' hp').2 i (by omega)
        · refine ⟨by rw [upd_n cp, upd_n (by omega)]; exact (r4 p' hp').1, fun i hi => ?_⟩
          rw [hc_upd (by omega)] at hi
          rw [upd_n (by omega)]
          exact (r4 p' hp').2 i hi
    · rw [← nn_e hv.1, hnn]
      exact hK
  · rw [ha, if_neg (by decide), if_neg (by decide), if_neg (by decide), if_neg (by decide), if_neg (by decide), if_neg (by decide), hfi, hse]
    have hcl : f_Tapes_clear counts (nI p) = some (upd counts p 0) := by
      unfold f_Tapes_clear
      rw [ck_n hp (by omega), cl_n (by omega)]
    have hru := ru_e hp hm hs acts fis ses tis drs hts kinds ticks drums marks sT sH count values there m 0 fu (upd counts p 0) hits (by omega) (by unfold fu; omega) (by rw [upd_s]; rfl)
    have hru' : f_Room_revert_152 acts fis ses tis drs hts (nI slot) fu (nI p) (nI m) 0 kinds ticks drums marks sT sH count values there (upd counts p 0) hits = _ := hru
    rw [hcl, b1_e, hru', upd_upd]
    generalize hY : (fun k => if k = 87 + p then nI m else if 91 + 24 * p ≤ k ∧ k < 91 + 24 * p + m then (fun k => hts (24 * slot + k)) (k - (91 + 24 * p)) else X k) = Y at hv
    have yo : ∀ k : Nat, k ≠ 87 + p → ¬ (91 + 24 * p ≤ k ∧ k < 91 + 24 * p + m) → Y k = X k := fun k h1 h2 => by rw [← hY]; dsimp only; rw [if_neg h1, if_neg h2]
    have y87 : Y (87 + p) = nI m := by rw [← hY]; dsimp only; rw [if_pos rfl]
    have yi : ∀ i : Nat, i < m → Y (91 + 24 * p + i) = hts (24 * slot + i) := fun i hi => by
      rw [← hY]
      dsimp only
      rw [if_neg (by omega), if_pos (by omega)]
      congr 1
      omega
    have hnn : nn Y = nn X := nn_e (yo 0 (by omega) (by omega))
    have hc3 : hc Y p = m := by
      have : hc Y p = (Y (87 + p)).toNatClampNeg := rfl
      rw [this, y87]
      exact cl_n (by omega)
    refine ⟨_, _, _, _, _, _, _, _, _, _, _, rfl, rep_vis ?_ hv, ?_⟩
    · refine ⟨r0.trans (yo 0 (by omega) (by omega)).symm, r1.trans (yo 1 (by omega) (by omega)).symm, fun k hk => (r2 k hk).trans (yo _ (by omega) (by omega)).symm, fun k hk => ?_, fun p' hp' => ?_⟩
      · rw [hnn] at hk
        obtain ⟨a, b, c, d⟩ := r3 k hk
        exact ⟨a.trans (yo _ (by omega) (by omega)).symm, b.trans (yo _ (by omega) (by omega)).symm, c.trans (yo _ (by omega) (by omega)).symm, d.trans (yo _ (by omega) (by omega)).symm⟩
      · by_cases cp : p' = p
        · subst cp
          refine ⟨by rw [upd_s, y87], fun i hi => ?_⟩
          rw [hc3] at hi
          rw [yi i hi]
          unfold wr
          rw [if_pos (by omega)]
          congr 1
          omega
        · have e5 : Y (87 + p') = X (87 + p') := yo _ (by omega) (by omega)
          refine ⟨by rw [upd_n cp, e5]; exact (r4 p' hp').1, fun i hi => ?_⟩
          rw [hc_e e5] at hi
          have := (wf_h hWc hp').1
          rw [yo _ (by omega) (by omega)]
          unfold wr
          rw [if_neg (by omega)]
          exact (r4 p' hp').2 i hi
    · rw [← nn_e hv.1, hnn]
      exact hK
theorem op_undo (hR : rep kinds ticks drums marks count values there counts hits now) (hW : wf now) (hK : stk kinds ticks sT sH (nn now)) (hp : pst q slot pc acts fis ses tis drs hts ps now past kept) (x known : Int32) :
    (f_Room_undo x known kinds ticks drums marks sT sH count values there counts hits pc acts fis ses tis drs hts ps = some (-100006, x + 1, known, kinds, ticks, drums, marks, sT, sH, count, values, there, counts, hits, pc, ps) ∧ f_Model_undo now past kept x = some (-100006, now, kept, x + 1)) ∨
    (∃ r kinds2 ticks2 drums2 marks2 sT2 sH2 count2 values2 there2 counts2 hits2 now2 q2 slot2, f_Room_undo x known kinds ticks drums marks sT sH count values there counts hits pc acts fis ses tis drs hts ps = some (r, x, 0, kinds2, ticks2, drums2, marks2, sT2, sH2, count2, values2, there2, counts2, hits2, nI q2, nI slot2) ∧ f_Model_undo now past kept x = some (r, now2, nI q2, x) ∧ rep kinds2 ticks2 drums2 marks2 count2 values2 there2 counts2 hits2 now2 ∧ wf now2 ∧ stk kinds2 ticks2 sT2 sH2 (nn now2) ∧ pst q2 slot2 (nI q2) acts fis ses tis drs hts (nI slot2) now2 past (nI q2)) := by
  obtain ⟨hq, hs, e1, e2, e3, hch⟩ := hp
  unfold f_Room_undo f_Model_undo
  rw [e1, e2, e3]
  by_cases c : q = 0
  · left
    have c9 : nI q = 0 := by rw [c]; rfl
    rw [if_pos c9, if_pos c9]
    exact ⟨rfl, rfl⟩
  · right
    have c9 : ¬ nI q = 0 := nI_ne0 (by omega) (by omega)
    have em : nI q - 1 = nI (q - 1) := sub_n (b := 1) (by omega)
    have h0 := hch 0 (by omega)
    have es : (slot + 20 - 0) % 20 = slot := by omega
    rw [es] at h0
    obtain ⟨hw1, hl1⟩ := h0
    have hw1 : wf (vw now past q 1) := hw1
    obtain ⟨k2, t2, d2, m2, a2, b2, n2, v2, th2, c2, h2, hrev, hrep, hstk⟩ := rev_e (sT := sT) (sH := sH) hR hW hK hs hl1
    have hfl : f_Past_forgetLatest (nI q) (nI slot) = some (nI (q - 1), nI ((slot + 19) % 20)) := by
      unfold f_Past_forgetLatest
      have e4 : (nI slot + 20) - 1 = nI (slot + 19) := by
        show (nI slot + nI 20) - nI 1 = _
        rw [add_n, sub_n (by omega)]
        congr 1
      have e5 : jrem (nI (slot + 19)) 20 = nI ((slot + 19) % 20) := jrem_n (b := 20) (by omega) (by omega) (by omega)
      rw [if_neg (show ¬ nI q ≤ 0 from nI_nle (by omega) (by omega)), nm_e1, nm_e1, em, e4, e5]
    have hmu := mu_e past (show q - 1 < 20 by omega) x 187 0 fu now (by omega) (by unfold fu; omega)
    have hmu' : f_Model_undo_26 past fu 0 now (nI (q - 1)) x = _ := hmu
    simp only [if_neg c9, hrev, b11_e, hfl, b2_e, nm_e1, em, hmu']
    have hcw : ct (wr now past 0 (187 * (q - 1)) 0 187) = vw now past q 1 := by
      funext k
      show ct (wr now past 0 (187 * (q - 1)) 0 187) k = snp past (q - 1 - 0) k
      unfold ct snp wr
      by_cases ck : k < 187
      · rw [if_pos ck, if_pos ck, if_pos (by omega)]
        rfl
      · rw [if_neg ck, if_neg ck]
    have hvis : vis (vw now past q 1) (wr now past 0 (187 * (q - 1)) 0 187) := by
      have hn := (wf_n hw1).1
      have ee : ∀ k : Nat, k < 187 → vw now past q 1 k = wr now past 0 (187 * (q - 1)) 0 187 k := fun k hk => by rw [← hcw, ct_l hk]
      refine ⟨ee 0 (by omega), ee 1 (by omega), fun k hk => ee _ (by omega), fun k hk => ⟨ee _ (by omega), ee _ (by omega), ee _ (by omega), ee _ (by omega)⟩, fun p hp => ⟨ee _ (by omega), fun i hi => ?_⟩⟩
      have := (wf_h hw1 hp).1
      exact ee _ (by omega)
    refine ⟨_, _, _, _, _, _, _, _, _, _, _, _, _, _, _, rfl, rfl, rep_vis hrep hvis, wf_vis hvis hw1, ?_, ?_⟩
    · rw [← nn_e hvis.1]
      exact hstk
    · refine ⟨by omega, Nat.mod_lt _ (by omega), rfl, rfl, rfl, fun a ha => ?_⟩
      have h1 := hch (a + 1) (by omega)
      have e6 : ((slot + 19) % 20 + 20 - a) % 20 = (slot + 20 - (a + 1)) % 20 := by omega
      have e7 : ∀ b : Nat, vw (wr now past 0 (187 * (q - 1)) 0 187) past (q - 1) b = vw now past q (b + 1) := by
        intro b
        cases b with
        | zero => exact hcw
        | succ b =>
          show snp past (q - 1 - 1 - b) = snp past (q - 1 - (b + 1))
          congr 1
          omega
      rw [e6, e7, e7]
      exact h1
end UNDO
