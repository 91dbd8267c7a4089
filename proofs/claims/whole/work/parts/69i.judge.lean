section JUDGE
variable {kinds ticks drums marks values counts hits now sT sH : Nat → Int32} {count there : Int32}
theorem jd (h : lin kinds ticks drums marks sT sH values now) {v : Nat} (hv : v < 2 ^ 30) (x : Int32) : ∀ (d k N M cr pr L R : Nat) (a : Int32) (lat : Nat → Int32), k + d = nn now → d < N → d < M → L ≤ 2 * k → R ≤ 2 * k → lat 0 = nI L → lat 1 = nI R → cr ≤ k → pr ≤ 9 * k → (k = 0 → a = -1) → ∃ r wp2 l2 r2, f_Hands_walk_23 kinds ticks drums marks sT sH (nI (nn now)) values N (nI v) (zI ((nn now : Int) - 1)) (nI cr) a (nI k) (nI pr) (nI L) (nI R) = some (r, wp2, l2, r2) ∧ f_Model_judge_40 now M (nI v) a (nI pr) (nI cr) (nI k) x lat = (if r = 0 then some (-100004, x + 1) else some (wp2, x)) := by
  have hW := h.1
  obtain ⟨hn, h0⟩ := wf_n hW
  obtain ⟨hc1, hc2⟩ := cr_e hW
  have hv2e : values 2 = nI (crN now) := by
    rw [h.2.2.2 2 (by omega)]
    exact hc2
  intro d
  induction d with
  | zero =>
    intro k N M cr pr L R a lat h1 hN hM hL hR l0 l1 hcr hpr ha
    obtain ⟨N, rfl⟩ : ∃ m, N = m + 1 := ⟨N - 1, by omega⟩
    obtain ⟨M, rfl⟩ : ∃ m, M = m + 1 := ⟨M - 1, by omega⟩
    refine ⟨if crN now < cr then 0 else 1, nI pr, nI L, nI R, ?_, ?_⟩
    · show f_Hands_walk_23_b kinds ticks drums marks sT sH (nI (nn now)) values (f_Hands_walk_23 kinds ticks drums marks sT sH (nI (nn now)) values N) _ _ _ _ _ _ _ _ = _
      unfold f_Hands_walk_23_b
      rw [if_pos (show zI ((nn now : Int) - 1) < nI k by rw [← zI_nI, zI_lt (by omega) (by omega) (by omega) (by omega)]; omega)]
      unfold f_Hands_walk_115
      rw [rd_l (i := 2) 2 rfl (by omega) (by omega), hv2e]
      by_cases c : crN now < cr
      · rw [if_pos c, if_pos ((lt_i (by omega) (by omega)).mpr c)]
      · rw [if_neg c, if_neg (fun q => c ((lt_i (by omega) (by omega)).mp q))]
    · show f_Model_judge_40_b now (f_Model_judge_40 now M) _ _ _ _ _ _ _ = _
      unfold f_Model_judge_40_b
      rw [rd_l (i := 0) 0 rfl (by omega) (by omega), h0, if_pos ((le_i (by omega) (by omega)).mpr (by omega)), rd_l (i := 4) 4 rfl (by omega) (by omega), hc2]
      by_cases c : crN now < cr
      · rw [if_neg (fun q => by have q' := (le_i (by omega) (by omega)).mp q; omega), if_pos c, if_pos rfl, mfd, b2_e]
      · rw [if_pos ((le_i (by omega) (by omega)).mpr (by omega)), if_neg c, if_neg (by decide)]
  | succ d ih =>
    intro k N M cr pr L R a lat h1 hN hM hL hR l0 l1 hcr hpr ha
    obtain ⟨N, rfl⟩ : ∃ m, N = m + 1 := ⟨N - 1, by omega⟩
    obtain ⟨M, rfl⟩ : ∃ m, M = m + 1 := ⟨M - 1, by omega⟩
    have hk : k < nn now := by omega
    have hdv := Nat.div_le_self v (2 ^ k)
    have h30 : (2 : Nat) ^ 30 = 1073741824 := by decide
    have h31 : (2 : Nat) ^ 31 = 2147483648 := by decide
    have h32 : (2 : Nat) ^ 32 = 4294967296 := by decide
    have hb2 : v / 2 ^ k % 2 < 2 := Nat.mod_lt _ (by decide)
    have hhi := hi_n (v := v) (k := k) (by omega) (by omega)
    have hst := st_c h (k := k) (hh := v / 2 ^ k % 2) (L := L) (R := R) hk hb2 (vst_b hL (by omega)) (vst_b hR (by omega))
    obtain ⟨e1, e2, e3⟩ := strk h hk hb2 hL hR
    have hshr : jshr (nI v) (nI k) &&& 1 = nI (v / 2 ^ k % 2) := by
      rw [shr_n (by omega) (by omega), and_1 (by omega)]
    generalize v / 2 ^ k % 2 = hh at hb2 hhi hst e1 e2 e3 hshr
    have hone : (1 : Int32) - nI hh = nI (1 - hh) := sub_n (a := 1) (by omega)
    have hown : lat hh = nI (if hh = 0 then L else R) ∧ lat (1 - hh) = nI (if hh = 0 then R else L) := by
      rcases (show hh = 0 ∨ hh = 1 by omega) with q | q <;> subst q
      · exact ⟨l0, l1⟩
      · exact ⟨l1, l0⟩
    have how : (if hh = 0 then L else R) ≤ 2 * k := by split <;> omega
    have hot : (if hh = 0 then R else L) ≤ 2 * k := by split <;> omega
    have hoo := oth_b (x := now) hot
    have hL2 : (if hh = 0 then 2 * k + 1 else othN now k L) = (if hh = 0 then 2 * k + 1 else othN now k (if hh = 0 then R else L)) := by
      by_cases c : hh = 0
      · rw [if_pos c, if_pos c]
      · rw [if_neg c, if_neg c, if_neg c]
    have hR2 : (if hh = 0 then othN now k R else 2 * k + 1) = (if hh = 0 then othN now k (if hh = 0 then R else L) else 2 * k + 1) := by
      by_cases c : hh = 0
      · rw [if_pos c, if_pos c, if_pos c]
      · rw [if_neg c, if_neg c]
    rw [hL2] at e1
    rw [hR2] at e2
    rw [hL2, hR2] at e3 hst
    have ecl : f_Hands_walk_23 kinds ticks drums marks sT sH (nI (nn now)) values (N + 1) (nI v) (zI ((nn now : Int) - 1)) (nI cr) a (nI k) (nI pr) (nI L) (nI R) = f_Hands_walk_23_b kinds ticks drums marks sT sH (nI (nn now)) values (f_Hands_walk_23 kinds ticks drums marks sT sH (nI (nn now)) values N) (nI v) (zI ((nn now : Int) - 1)) (nI cr) a (nI k) (nI pr) (nI L) (nI R) := rfl
    have eml : f_Model_judge_40 now (M + 1) (nI v) a (nI pr) (nI cr) (nI k) x lat = f_Model_judge_40_b now (f_Model_judge_40 now M) (nI v) a (nI pr) (nI cr) (nI k) x lat := rfl
    rw [ecl, eml]
    unfold f_Hands_walk_23_b f_Model_judge_40_b
    rw [if_neg (show ¬ zI ((nn now : Int) - 1) < nI k by rw [← zI_nI, zI_lt (by omega) (by omega) (by omega) (by omega)]; omega), if_neg (show ¬ nI (nn now) ≤ nI k from fun q => by have q' := (le_i (by omega) (by omega)).mp q; omega), hhi, b1_e, hst]
    rw [rd_l (i := 0) 0 rfl (by omega) (by omega), h0, if_neg (show ¬ nI (nn now) ≤ nI k from fun q => by have q' := (le_i (by omega) (by omega)).mp q; omega), nm_e1, nm_e1, hshr, hone, rd_n (n := 2) (by omega) (by omega), rd_n (n := 2) (by omega) (by omega), hown.1, hown.2, can_m hW hk hb2 (vst_b how (by omega)) (vst_b hot (by omega)), b1_e, b2i_t]
    by_cases c1 : canB now k hh (if hh = 0 then L else R) (if hh = 0 then R else L) = true
    · rw [if_pos c1, if_pos c1, b3_e, if_neg (by decide), e3, b1_e, b2i_t]
      have e21 : (1 : Int32) + (2 * nI k) = nI (2 * k + 1) := by
        show nI 1 + nI 2 * nI k = _
        rw [mul_n, add_n, Nat.add_comm]
      have hne : 1 - hh ≠ hh := by omega
      rw [e21, nm_e1, ck_n (n := 2) (by omega) (by omega), rd_n (n := 2) (by omega) (by omega), cl_n (by omega), cl_n (by omega), upd_n hne, hown.2, oth_m hW hk, b1_e, ck_n (n := 2) (by omega) (by omega), rd_n (n := 2) (by omega) (by omega), upd_s, crs_m hW hk hb2 (vst_b (k := k + 1) hoo (by omega)), b1_e, b2i_t]
      generalize hLL : (if hh = 0 then 2 * k + 1 else othN now k (if hh = 0 then R else L)) = L' at e1 e3 ⊢
      generalize hRR : (if hh = 0 then othN now k (if hh = 0 then R else L) else 2 * k + 1) = R' at e2 e3 ⊢
      have hcr2 : crL now L' R' = crsB now k hh (othN now k (if hh = 0 then R else L)) := by
        rw [← hLL, ← hRR]
        rcases (show hh = 0 ∨ hh = 1 by omega) with q | q <;> subst q
        · rw [if_pos rfl, if_pos rfl, crL_0]
        · rw [if_neg (by omega), if_neg (by omega), if_neg (by omega), crL_1]
      have hla : (upd (upd lat hh (nI (2 * k + 1))) (1 - hh) (nI (othN now k (if hh = 0 then R else L)))) 0 = nI L' ∧ (upd (upd lat hh (nI (2 * k + 1))) (1 - hh) (nI (othN now k (if hh = 0 then R else L)))) 1 = nI R' := by
        rw [← hLL, ← hRR]
        rcases (show hh = 0 ∨ hh = 1 by omega) with q | q <;> subst q
        · rw [if_pos rfl, if_pos rfl, if_pos rfl]
          exact ⟨rfl, rfl⟩
        · rw [if_neg (by omega), if_neg (by omega), if_neg (by omega)]
          exact ⟨rfl, rfl⟩
      generalize hsm : decide (k ≠ 0 ∧ nI hh = a) = same
      have hs1 : same = true ↔ (k ≠ 0 ∧ nI hh = a) := by rw [← hsm, decide_eq_true_iff]
      have hs2 : same = true ↔ nI hh = a := by
        rw [hs1]
        constructor
        · intro q; exact q.2
        · intro q
          refine ⟨?_, q⟩
          intro k0
          rw [ha k0] at q
          rcases (show hh = 0 ∨ hh = 1 by omega) with r | r <;> rw [r] at q <;> revert q <;> decide
      have haw := aw_c h (k := k) (hh := hh) (L := L') (R := R') (vst_b (k := k + 1) e1 (by omega)) (vst_b (k := k + 1) e2 (by omega)) hk hb2 (a := a) hs1
      rw [hcr2] at haw
      generalize hcb : crsB now k hh (othN now k (if hh = 0 then R else L)) = cb at haw ⊢
      have hmw := awk_m hW hk hb2 hs2 (fun q => by have := (hs1.mp q).1; omega) cb
      have hab := awk_b now k hh same cb
      have go : ∀ m : Nat, m ≤ 1 → ∃ r wp2 l2 r2, f_Hands_walk_81 kinds ticks drums marks sT sH (nI (nn now)) values (f_Hands_walk_23 kinds ticks drums marks sT sH (nI (nn now)) values N) (nI v) (zI ((nn now : Int) - 1)) a (nI k) (nI hh) (nI cr) (nI m) (nI pr) (nI L') (nI R') = some (r, wp2, l2, r2) ∧ f_Model_judge_143 now (f_Model_judge_40 now M) (nI v) a (nI pr) (nI k) (nI hh) (b2i cb) (nI cr) (nI m) x (upd (upd lat hh (nI (2 * k + 1))) (1 - hh) (nI (othN now k (if hh = 0 then R else L)))) = (if r = 0 then some (-100004, x + 1) else some (wp2, x)) := by
        intro m hm
        unfold f_Hands_walk_81 f_Model_judge_143
        rw [add_n, nm_e1, haw, b1_e, add_n, nm_e1, nm_e1, nI_1, nm_e1, hmw, b1_e, add_n, nm_e1, nm_e1]
        exact ih (k + 1) N M (cr + m) (pr + awkN now k hh same cb) L' R' (nI hh) _ (by omega) (by omega) (by omega) e1 e2 hla.1 hla.2 (by omega) (by omega) (fun q => by omega)
      cases cb with
      | true =>
        rw [if_pos rfl, if_pos rfl]
        exact go 1 (by omega)
      | false =>
        rw [if_neg (by decide), if_neg (by decide)]
        exact go 0 (by omega)
    · rw [if_neg c1, if_neg c1, b3_e, if_pos rfl, mfd, b2_e]
      exact ⟨0, _, _, _, rfl, by rw [if_pos rfl]⟩
theorem i_bv (p : Int32) : p = nI p.toBitVec.toNat := by
  refine Int32.toBitVec_inj.mp (BitVec.eq_of_toNat_eq ?_)
  rw [pk_tn p.toBitVec.isLt]
theorem neg_bv {m : Nat} (h1 : 2147483648 ≤ m) (h2 : m < 4294967296) : (nI m).toInt < 0 := by
  have e : (nI m).toInt = (nI m).toBitVec.toInt := rfl
  rw [e, BitVec.toInt_eq_toNat_cond, pk_tn (by omega), if_neg (by omega)]
  omega
theorem op_judge (h : lin kinds ticks drums marks sT sH values now) (x wp l r p1 : Int32) : ∃ rr y wp2 l2 r2, f_Room_judge x wp l r kinds ticks drums marks sT sH (nI (nn now)) values p1 = some (rr, y, wp2, l2, r2) ∧ f_Model_judge now x p1 = some (rr, y) := by
  have hW := h.1
  obtain ⟨hn, h0⟩ := wf_n hW
  have hp := p20 hn
  have hp0 := Nat.two_pow_pos (nn now)
  have hlt : p1.toBitVec.toNat < 4294967296 := p1.toBitVec.isLt
  have hpe := i_bv p1
  generalize p1.toBitVec.toNat = m at hlt hpe
  have hus : jush p1 (nI (nn now)) = nI (m / 2 ^ nn now) := by rw [hpe]; exact ush_n (by omega) (by omega)
  have hsl : jshl 1 (nI (nn now)) = nI (2 ^ nn now) := by
    have := shl_n (v := 1) (k := nn now) (by omega) (by omega)
    rw [Nat.one_mul] at this
    exact this
  have hs1 : nI (2 ^ nn now) - 1 = nI (2 ^ nn now - 1) := sub_n (b := 1) (by omega)
  have hw := wit (p := p1) (lo := 0) (hi := nI (2 ^ nn now - 1)) (a := 0) (b := ((2 ^ nn now - 1 : Nat) : Int)) rfl (ito (by omega))
  unfold f_Room_judge f_Model_judge
  rw [hus, nm_e1, rd_l (i := 0) 0 rfl (by omega) (by omega), h0, hsl, nm_e1, hs1, hw, b1_e]
  by_cases c : m < 2 ^ nn now
  · have hti : p1.toInt = (m : Int) := by rw [hpe]; exact ito (by omega)
    rw [Nat.div_eq_of_lt c, if_pos (show nI 0 = 0 from rfl), if_pos (show 0 ≤ p1.toInt ∧ p1.toInt ≤ ((2 ^ nn now - 1 : Nat) : Int) from ⟨by omega, by omega⟩), if_neg (by decide), n_1]
    have hho : f_Arms_hold l r 0 0 0 = some (nI 0, nI 0) := rfl
    unfold f_Hands_walk
    rw [hho, b2_e]
    obtain ⟨r1, wp2, l2, r2, j1, j2⟩ := jd h (v := m) (by omega) x (nn now) 0 fu fu 0 0 0 0 (-1) (fun _ => 0) (by omega) (by unfold fu; omega) (by unfold fu; omega) (by omega) (by omega) rfl rfl (by omega) (by omega) (fun _ => rfl)
    rw [← hpe] at j1 j2
    have j1' : f_Hands_walk_23 kinds ticks drums marks sT sH (nI (nn now)) values fu p1 (zI ((nn now : Int) - 1)) 0 (-1) 0 0 (nI 0) (nI 0) = _ := j1
    have j2' : f_Model_judge_40 now fu p1 (-1) 0 0 0 x (fun _ => 0) = _ := j2
    rw [j1', j2', b4_e]
    by_cases cr : r1 = 0
    · rw [if_pos cr, if_pos cr, rfd, b2_e]
      exact ⟨_, _, _, _, _, rfl, rfl⟩
    · rw [if_neg cr, if_neg cr]
      exact ⟨_, _, _, _, _, rfl, rfl⟩
  · have hq : 0 < m / 2 ^ nn now := Nat.div_pos (by omega) hp0
    have hq2 := Nat.div_le_self m (2 ^ nn now)
    have hne : ¬ nI (m / 2 ^ nn now) = 0 := by
      intro q
      have this : (nI (m / 2 ^ nn now)).toBitVec.toNat = (0 : Int32).toBitVec.toNat := congrArg (fun z : Int32 => z.toBitVec.toNat) q
      rw [pk_tn (by omega)] at this
      have z : (0 : Int32).toBitVec.toNat = 0 := rfl
      omega
    have hr : ¬ (0 ≤ p1.toInt ∧ p1.toInt ≤ ((2 ^ nn now - 1 : Nat) : Int)) := by
      intro q
      by_cases c2 : m < 2147483648
      · have hti : p1.toInt = (m : Int) := by rw [hpe]; exact ito c2
        omega
      · have := neg_bv (m := m) (by omega) (by omega)
        rw [← hpe] at this
        omega
    rw [if_neg hne, if_neg hr, if_pos rfl, rfd, mfd, b2_e, b2_e]
    exact ⟨_, _, _, _, _, rfl, rfl⟩
end JUDGE
