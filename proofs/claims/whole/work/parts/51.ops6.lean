section OPS6
variable {kinds ticks drums marks values counts hits now past acts fis ses tis drs hts sT sH : Nat → Int32} {count there pc ps kept : Int32} {q slot : Nat}
theorem op_drop (hR : rep kinds ticks drums marks count values there counts hits now) (hW : wf now) (hp : pst q slot pc acts fis ses tis drs hts ps now past kept) (x known : Int32) :
    (∃ r, f_Room_drop x known kinds ticks drums marks count pc acts fis ses tis drs ps = some (r, x + 1, known, count, pc, acts, fis, ses, tis, drs, ps) ∧ f_Model_drop now past kept x = some (r, now, past, kept, x + 1)) ∨
    (∃ r count2 acts2 fis2 ses2 tis2 drs2 now2 past2 q2 slot2, f_Room_drop x known kinds ticks drums marks count pc acts fis ses tis drs ps = some (r, x, 0, count2, nI q2, acts2, fis2, ses2, tis2, drs2, nI slot2) ∧ f_Model_drop now past kept x = some (r, now2, past2, nI q2, x) ∧ rep kinds ticks drums marks count2 values there counts hits now2 ∧ wf now2 ∧ nn now2 ≤ nn now ∧ pst q2 slot2 (nI q2) acts2 fis2 ses2 tis2 drs2 hts (nI slot2) now2 past2 (nI q2)) := by
  have hp0 := hp
  obtain ⟨hq, hs, e1, e2, e3, hch⟩ := hp
  obtain ⟨r0, r1, r2, r3, r4⟩ := hR
  obtain ⟨hn, h0⟩ := wf_n hW
  have ecount : count = nI (nn now) := r0.trans h0
  unfold f_Room_drop f_Model_drop
  rw [rd_l (n := 187) (i := 0) 0 rfl (by omega) (by omega), h0, ecount]
  by_cases c : nn now = 0
  · left
    have c9 : nI (nn now) = 0 := by rw [c]; rfl
    simp only [if_pos c9, rfd, mfd, b2_e]
    exact ⟨_, rfl, rfl⟩
  · right
    have c9 : ¬ nI (nn now) = 0 := nI_ne0 (by omega) (by omega)
    have em : nI (nn now) - 1 = nI (nn now - 1) := sub_n (b := 1) (by omega)
    have hm : (slot + 1) % 20 < 20 := Nat.mod_lt _ (by omega)
    have hkp : ∀ a b : Int32, f_Past_keepPlace tis drs (nI ((slot + 1) % 20)) a b = some (upd tis ((slot + 1) % 20) a, upd drs ((slot + 1) % 20) b) := by
      intro a b
      unfold f_Past_keepPlace
      rw [ck_n hm (by omega), ck_n hm (by omega), cl_n (by omega)]
    have hrl : f_Line_removeLatest (nI (nn now)) = some (nI (nn now - 1)) := by
      unfold f_Line_removeLatest
      rw [if_neg (show ¬ nI (nn now) ≤ 0 from nI_nle (by omega) (by omega)), nm_e1, em]
    obtain ⟨k1, k2, k3, k4⟩ := r3 (nn now - 1) (by omega)
    simp only [if_neg c9, em, nm_e1, rd_n (n := 20) (j := nn now - 1) (by omega) (by omega), e1, e2, e3, c_kp hq hs, m_keep now past hq, b6_e, b2_e, b1_e, hkp, hrl, rd_l (n := 187) (i := 0) 0 rfl (by omega) (by omega), h0, ck_l (n := 187) (i := 0) 0 rfl (by omega) (by omega), show (0 : Int32).toNatClampNeg = 0 from rfl, upd_s]
    have hnn : nn (upd now 0 (nI (nn now - 1))) = nn now - 1 := by
      unfold nn
      rw [upd_s]
      exact cl_n (by unfold nn at hn; omega)
    refine ⟨_, _, _, _, _, _, _, _, _, _, _, rfl, rfl, ?_, ?_, by rw [hnn]; omega, ?_⟩
    · refine ⟨upd_s.symm, r1.trans (upd_n (by omega)).symm, fun k hk => (r2 k hk).trans (upd_n (by omega)).symm, fun k hk => ?_, fun p hp => ⟨(r4 p hp).1.trans (upd_n (by omega)).symm, fun i hi => ?_⟩⟩
      · rw [hnn] at hk
        obtain ⟨a, b, c, d⟩ := r3 k (by omega)
        exact ⟨a.trans (upd_n (by omega)).symm, b.trans (upd_n (by omega)).symm, c.trans (upd_n (by omega)).symm, d.trans (upd_n (by omega)).symm⟩
      · rw [hc_upd (by omega)] at hi
        exact ((r4 p hp).2 i hi).trans (upd_n (by omega)).symm
    · obtain ⟨w0, w1, w2, w3, w4⟩ := hW
      refine ⟨by rw [upd_s]; unfold rg; rw [ito (by omega)]; omega, by rw [upd_n (by omega)]; exact w1, ⟨by rw [upd_n (by omega)]; exact w2.1, by rw [upd_n (by omega)]; exact w2.2.1, by rw [upd_n (by omega)]; exact w2.2.2.1, by rw [upd_n (by omega)]; exact w2.2.2.2.1, by rw [upd_n (by omega)]; exact w2.2.2.2.2⟩, fun k hk => ?_, fun p hp => ⟨by rw [upd_n (by omega)]; exact (w4 p hp).1, fun i hi => ?_⟩⟩
      · rw [hnn] at hk
        rw [upd_n (by omega), upd_n (by omega), upd_n (by omega), upd_n (by omega)]
        exact w3 k (by omega)
      · rw [hc_upd (by omega)] at hi
        rw [upd_n (by omega)]
        exact (w4 p hp).2 i hi
    · refine pst_act hp0 hW (fun i _ hne => ⟨upd_n hne, upd_n hne, fun k => Or.inl rfl⟩) (Or.inr (Or.inl ⟨rfl, by rw [nn_ct, hnn]; omega, ?_, ?_⟩))
      · rw [k1]; exact (hW.2.2.2.1 (nn now - 1) (by omega)).1
      · rw [upd_s, upd_s, nn_ct, hnn, k1, k2, k3, k4]
        have ev : ct (upd now 0 (nI (nn now - 1))) 0 + 1 = nI (nn now) := by
          rw [ct_l (by omega), upd_s, nI_1]
          congr 1
          omega
        rw [ev]
        have ef : upd (upd (upd (upd (upd (ct (upd now 0 (nI (nn now - 1)))) (7 + (nn now - 1)) (now (7 + (nn now - 1)))) (27 + (nn now - 1)) (now (27 + (nn now - 1)))) (47 + (nn now - 1)) (now (47 + (nn now - 1)))) (67 + (nn now - 1)) (now (67 + (nn now - 1)))) 0 (nI (nn now)) = ct now := by
          funext k
          rw [upd_d, upd_d, upd_d, upd_d, upd_d]
          by_cases d0 : k = 0
          · subst d0; rw [if_pos rfl]; exact h0.symm
          · rw [if_neg d0]
            by_cases d1 : k = 67 + (nn now - 1)
            · rw [if_pos d1, d1, ct_l (by omega)]
            · rw [if_neg d1]
              by_cases d2 : k = 47 + (nn now - 1)
              · rw [if_pos d2, d2, ct_l (by omega)]
              · rw [if_neg d2]
                by_cases d3 : k = 27 + (nn now - 1)
                · rw [if_pos d3, d3, ct_l (by omega)]
                · rw [if_neg d3]
                  by_cases d4 : k = 7 + (nn now - 1)
                  · rw [if_pos d4, d4, ct_l (by omega)]
                  · rw [if_neg d4]
                    unfold ct
                    rw [upd_n d0]
        rw [ef]
        exact vis_rf _
/-! hits kept -/
def kh (PH hits : Nat → Int32) (s p i m : Nat) : Nat → Int32 := fun k => if 24 * s + i ≤ k ∧ k < 24 * s + m then hits (24 * p + (k - 24 * s)) else PH k
theorem kh_e {p s m : Nat} (hp : p < 4) (hs : s < 20) (hm : m ≤ 24) (hc1 : counts p = nI m) : ∀ (d i n : Nat) (PH : Nat → Int32), i + d = m → d < n → f_Past_keepHits_2 counts hits (nI s) n (nI p) (nI i) PH = some (kh PH hits s p i m) := by
  intro d
  induction d with
  | zero =>
    intro i n PH h1 h2
    obtain ⟨n, rfl⟩ : ∃ m, n = m + 1 := ⟨n - 1, by omega⟩
    show f_Past_keepHits_2_b counts hits (nI s) (f_Past_keepHits_2 counts hits (nI s) n) (nI p) (nI i) PH = _
    unfold f_Past_keepHits_2_b
    rw [rd_n hp (by omega), hc1, if_pos (nI_le (by omega) (by omega))]
    congr 1
    funext k
    unfold kh
    rw [if_neg (by omega)]
  | succ d ih =>
    intro i n PH h1 h2
    obtain ⟨n, rfl⟩ : ∃ m, n = m + 1 := ⟨n - 1, by omega⟩
    show f_Past_keepHits_2_b counts hits (nI s) (f_Past_keepHits_2 counts hits (nI s) n) (nI p) (nI i) PH = _
    unfold f_Past_keepHits_2_b f_Tapes_tickAt
    have e9 : nI i + 1 = nI (i + 1) := nI_1 i
    rw [rd_n hp (by omega), hc1, if_neg (nI_ge (by omega) (by omega)), i_24, rd_n (by omega) (by omega), b1_e, i_24, ck_n (by omega) (by omega), cl_n (by omega), nm_e1, e9, ih (i + 1) n _ (by omega) (by omega)]
    congr 1
    funext k
    unfold kh
    rw [upd_d]
    by_cases c1 : k = 24 * s + i
    · rw [if_neg (by omega), if_pos c1, if_pos (by omega)]
      congr 1
      omega
    · rw [if_neg c1]
      by_cases c2 : 24 * s + (i + 1) ≤ k ∧ k < 24 * s + m
      · rw [if_pos c2, if_pos (by omega)]
      · rw [if_neg c2, if_neg (by omega)]
theorem kt_e {p m : Nat} (hp : p < 4) (hm : m ≤ 24) (hc1 : counts p = nI m) (hq : q ≤ 20) (hs : slot < 20) (known : Int32) (acts fis ses hts : Nat → Int32) : f_Room_keepTape known counts hits (nI q) acts fis ses hts (nI slot) (nI p) = some (0, nI (kq q), upd acts ((slot + 1) % 20) 6, upd fis ((slot + 1) % 20) (nI p), upd ses ((slot + 1) % 20) (nI m), kh hts hits ((slot + 1) % 20) p 0 m, nI ((slot + 1) % 20)) := by
  have hk : f_Past_keepHits counts hits hts (nI ((slot + 1) % 20)) (nI p) = some (kh hts hits ((slot + 1) % 20) p 0 m) := kh_e hp (Nat.mod_lt _ (by omega)) hm hc1 m 0 fu hts (by omega) (by unfold fu; omega)
  unfold f_Room_keepTape
  rw [rd_n hp (by omega), hc1, c_kp hq hs, b6_e, hk, b1_e]
/-- an act that wrote one player's tape alone can be taken back -/
theorem lnk_tape {now2 hts2 : Nat → Int32} {p m s : Nat} (hW : wf now) (hp : p < 4) (hm : hc now p = m) (hh : ∀ i, i < m → hts2 (24 * s + i) = now (91 + 24 * p + i)) (ho : ∀ k, k < 187 → k ≠ 87 + p → ¬ (91 + 24 * p ≤ k ∧ k < 91 + 24 * p + 24) → now2 k = now k) (ti dr : Int32) : lnk 6 (nI p) (nI m) ti dr (fun k => hts2 (24 * s + k)) (ct now2) (ct now) := by
  obtain ⟨hm24, em⟩ := wf_h hW hp
  rw [hm] at hm24 em
  refine Or.inr (Or.inr (Or.inr (Or.inr (Or.inr (Or.inr ⟨rfl, p, m, hp, hm24, rfl, rfl, ?_⟩)))))
  have ee : ∀ k : Nat, k < 187 → ¬ (91 + 24 * p + m ≤ k ∧ k < 91 + 24 * p + 24) → (if k = 87 + p then nI m else if 91 + 24 * p ≤ k ∧ k < 91 + 24 * p + m then hts2 (24 * s + (k - (91 + 24 * p))) else ct now2 k) = ct now k := by
    intro k h1 h2
    rw [ct_l (x := now) h1]
    by_cases c1 : k = 87 + p
    · rw [if_pos c1, c1]; exact em.symm
    · rw [if_neg c1]
      by_cases c2 : 91 + 24 * p ≤ k ∧ k < 91 + 24 * p + m
      · rw [if_pos c2, hh _ (by omega)]
        congr 1
        omega
      · rw [if_neg c2, ct_l h1]
        exact ho k h1 c1 (by omega)
  have hn := (wf_n hW).1
  have e0 := ee 0 (by omega) (by omega)
  have hnn : nn (fun k => if k = 87 + p then nI m else if 91 + 24 * p ≤ k ∧ k < 91 + 24 * p + m then hts2 (24 * s + (k - (91 + 24 * p))) else ct now2 k) = nn now := nn_e e0
  refine ⟨e0, ee 1 (by omega) (by omega), fun k hk => ee _ (by omega) (by omega), fun k hk => ?_, fun p' hp' => ⟨ee _ (by omega) (by omega), fun i hi => ?_⟩⟩
  · rw [hnn] at hk
    exact ⟨ee _ (by omega) (by omega), ee _ (by omega) (by omega), ee _ (by omega) (by omega), ee _ (by omega) (by omega)⟩
  · have e5 : hc (fun k => if k = 87 + p then nI m else if 91 + 24 * p ≤ k ∧ k < 91 + 24 * p + m then hts2 (24 * s + (k - (91 + 24 * p))) else ct now2 k) p' = hc now p' := (hc_e (ee _ (by omega) (by omega))).trans (hc_e (ct_l (by omega)))
    rw [e5] at hi
    have := (wf_h hW hp').1
    refine ee _ (by omega) ?_
    by_cases cp : p' = p
    · subst cp; omega
    · omega
theorem op_wipe (hR : rep kinds ticks drums marks count values there counts hits now) (hW : wf now) (hp : pst q slot pc acts fis ses tis drs hts ps now past kept) (x known p1 : Int32) :
    (∃ r, f_Room_wipe x known counts hits pc acts fis ses hts ps p1 = some (r, x + 1, known, counts, pc, acts, fis, ses, hts, ps) ∧ f_Model_wipe now past kept x p1 = some (r, now, past, kept, x + 1)) ∨
    (∃ r counts2 acts2 fis2 ses2 hts2 now2 past2 q2 slot2, f_Room_wipe x known counts hits pc acts fis ses hts ps p1 = some (r, x, 0, counts2, nI q2, acts2, fis2, ses2, hts2, nI slot2) ∧ f_Model_wipe now past kept x p1 = some (r, now2, past2, nI q2, x) ∧ rep kinds ticks drums marks count values there counts2 hits now2 ∧ wf now2 ∧ nn now2 = nn now ∧ pst q2 slot2 (nI q2) acts2 fis2 ses2 tis drs hts2 (nI slot2) now2 past2 (nI q2)) := by
  have hp0 := hp
  obtain ⟨hq, hs, e1, e2, e3, hch⟩ := hp
  obtain ⟨r0, r1, r2, r3, r4⟩ := hR
  have hn := (wf_n hW).1
  unfold f_Room_wipe f_Model_wipe
  rw [isB (z := 4) rfl, mpl]
  by_cases c1 : 0 ≤ p1.toInt ∧ p1.toInt < 4
  · right
    obtain ⟨p, hp4, rfl⟩ := at_n (n := 4) c1
    obtain ⟨hm, em⟩ := wf_h hW hp4
    have ec : counts p = nI (hc now p) := (r4 p hp4).1.trans em
    have a87 : (87 : Int32) + nI p = nI (87 + p) := add_n 87 p
    have hcl : f_Tapes_clear counts (nI p) = some (upd counts p 0) := by
      unfold f_Tapes_clear
      rw [ck_n hp4 (by omega), cl_n (by omega)]
    simp only [if_pos c1, if_pos (show 0 ≤ (nI p).toInt ∧ (nI p).toInt ≤ 3 by omega), b1_e, i10, e1, e2, e3, kt_e hp4 hm ec hq hs, b7_e, m_keep now past hq, b2_e, hcl, a87, rd_n (n := 4) (j := p) (by omega) (by omega), rd_n (n := 187) (j := 87 + p) (by omega) (by omega), ck_n (n := 187) (j := 87 + p) (by omega) (by omega), cl_n (show 87 + p < 2147483648 by omega), ec, em]
    have hnn : nn (upd now (87 + p) 0) = nn now := nn_upd (by omega)
    have hc3 : hc (upd now (87 + p) 0) p = 0 := by unfold hc; rw [upd_s]; rfl
    refine ⟨_, _, _, _, _, _, _, _, _, _, rfl, rfl, ?_, ?_, hnn, ?_⟩
    · refine ⟨r0.trans (upd_n (by omega)).symm, r1.trans (upd_n (by omega)).symm, fun k hk => (r2 k hk).trans (upd_n (by omega)).symm, fun k hk => ?_, fun p' hp' => ?_⟩
      · rw [hnn] at hk
        obtain ⟨a, b, c, d⟩ := r3 k hk
        exact ⟨a.trans (upd_n (by omega)).symm, b.trans (upd_n (by omega)).symm, c.trans (upd_n (by omega)).symm, d.trans (upd_n (by omega)).symm⟩
      · by_cases cp : p' = p
        · subst cp
          refine ⟨by rw [upd_s, upd_s], fun i hi => ?_⟩
          rw [hc3] at hi
          omega
        · refine ⟨by rw [upd_n cp, upd_n (by omega)]; exact (r4 p' hp').1, fun i hi => ?_⟩
          rw [hc_upd (by omega)] at hi
          rw [upd_n (by omega)]
          exact (r4 p' hp').2 i hi
    · obtain ⟨w0, w1, w2, w3, w4⟩ := hW
      refine ⟨by rw [upd_n (by omega)]; exact w0, by rw [upd_n (by omega)]; exact w1, ⟨by rw [upd_n (by omega)]; exact w2.1, by rw [upd_n (by omega)]; exact w2.2.1, by rw [upd_n (by omega)]; exact w2.2.2.1, by rw [upd_n (by omega)]; exact w2.2.2.2.1, by rw [upd_n (by omega)]; exact w2.2.2.2.2⟩, fun k hk => ?_, fun p' hp' => ?_⟩
      · rw [hnn] at hk
        rw [upd_n (by omega), upd_n (by omega), upd_n (by omega), upd_n (by omega)]
        exact w3 k hk
      · by_cases cp : p' = p
        · subst cp
          refine ⟨by rw [upd_s]; exact ⟨by decide, by decide⟩, fun i hi => ?_⟩
          rw [hc3] at hi
          omega
        · refine ⟨by rw [upd_n (by omega)]; exact (w4 p' hp').1, fun i hi => ?_⟩
          rw [hc_upd (by omega)] at hi
          rw [upd_n (by omega)]
          exact (w4 p' hp').2 i hi
    · refine pst_act hp0 hW (fun i hi hne => ⟨rfl, rfl, fun k => ?_⟩) (lnk_tape hW hp4 rfl (fun i hi => ?_) (fun k h1 h2 h3 => upd_n h2) _ _)
      · by_cases c : k < 24
        · left
          unfold kh
          rw [if_neg (by omega)]
        · right; omega
      · unfold kh
        rw [if_pos (by omega)]
        have e : 24 * p + (24 * ((slot + 1) % 20) + i - 24 * ((slot + 1) % 20)) = 24 * p + i := by omega
        rw [e]
        exact (r4 p hp4).2 i hi
  · left
    rw [if_neg c1, if_neg (show ¬ (0 ≤ p1.toInt ∧ p1.toInt ≤ 3) by omega)]
    simp only [b1_e, i00, rfd, mfd, b2_e]
    exact ⟨_, rfl, rfl⟩
end OPS6
