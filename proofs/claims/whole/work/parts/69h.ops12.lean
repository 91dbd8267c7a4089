section OPS12
variable {kinds ticks drums marks values counts hits now sT sH : Nat → Int32} {count there : Int32}
theorem n_1 (n : Nat) : nI n - 1 = zI ((n : Int) - 1) := by
  rw [← zI_nI]
  show zI (n : Int) - zI 1 = _
  rw [zI_sub]
theorem lt_M {p : Nat} (h : p ≤ 200) : nI p < (1000000 : Int32) := (lt_i (b := 1000000) (by omega) (by omega)).mpr (by omega)
theorem awk_op (hW : wf now) (x : Int32) (least ways : Nat → Int32) (tc tw bc bw : Int32) : ∃ l2 w2 a b c d, f_Model_awkward now x least ways tc tw bc bw = (match TT now (nn now) with
    | none => some (-100006, x + 1, l2, w2, a, b, c, d)
    | some v => some (nI v.1, x, l2, w2, a, b, c, d)) ∧ f_Model_ways now x least ways tc tw bc bw = (match TT now (nn now) with
    | none => some (-100006, x + 1, l2, w2, a, b, c, d)
    | some v => some (nI v.2.2, x, l2, w2, a, b, c, d)) := by
  obtain ⟨hn, h0⟩ := wf_n hW
  obtain ⟨l2, w2, a, b, c, e1, e2⟩ := cu_m hW (Nat.le_refl (nn now)) least ways tc tw bc bw
  refine ⟨l2, w2, a, b, c, nI (wys (TT now (nn now))), ?_, ?_⟩
  · unfold f_Model_awkward
    rw [rd_l (i := 0) 0 rfl (by omega) (by omega), h0, n_1, e1, b7_e]
    cases hT : TT now (nn now) with
    | none => rfl
    | some v =>
      have hv : v.1 ≤ 9 * nn now := (T1_b now (nn now) 0 (0, 0, 0) _ hT).1
      rw [if_pos (show nI (cst (some v)) < 1000000 from lt_M (show v.1 ≤ 200 by omega))]
      rfl
  · unfold f_Model_ways
    rw [rd_l (i := 0) 0 rfl (by omega) (by omega), h0, n_1, e1, b7_e]
    cases hT : TT now (nn now) with
    | none => rfl
    | some v =>
      have hv : v.1 ≤ 9 * nn now := (T1_b now (nn now) 0 (0, 0, 0) _ hT).1
      rw [if_pos (show nI (cst (some v)) < 1000000 from lt_M (show v.1 ≤ 200 by omega))]
      rfl
theorem op_awkward (h : lin kinds ticks drums marks sT sH values now) {lp be bw sa kn : Int32} (x l r : Int32) {kA pA fA wA : Nat → Int32} {sA : Int32} {kB pB fB wB : Nat → Int32} {sB : Int32} (hc : kno now lp be bw sa kn) (hA : eok kA wA sA) (hB : eok kB wB sB) (least ways : Nat → Int32) (tc tw bc bwm : Int32) : ∃ rr y lp2 be2 bw2 sa2 kn2 l2 r2 kA2 pA2 fA2 wA2 sA2 kB2 pB2 fB2 wB2 sB2 least2 ways2 tc2 tw2 bc2 bwm2, f_Room_awkward x lp be bw sa kn l r kA pA fA wA sA kB pB fB wB sB kinds ticks drums marks sT sH (nI (nn now)) values = some (rr, y, lp2, be2, bw2, sa2, kn2, l2, r2, kA2, pA2, fA2, wA2, sA2, kB2, pB2, fB2, wB2, sB2) ∧ f_Model_awkward now x least ways tc tw bc bwm = some (rr, y, least2, ways2, tc2, tw2, bc2, bwm2) ∧ kno now lp2 be2 bw2 sa2 kn2 ∧ eok kA2 wA2 sA2 ∧ eok kB2 wB2 sB2 := by
  obtain ⟨m1, m2, m3, m4, m5, m6, e1, e2⟩ := awk_op h.1 x least ways tc tw bc bwm
  obtain ⟨rr, lp2, be2, bw2, sa2, l2, r2, kA2, pA2, fA2, wA2, sA2, kB2, pB2, fB2, wB2, sB2, i1, i2, i3, i4⟩ := exist_c h l r (pA := pA) (fA := fA) (pB := pB) (fB := fB) hc hA hB
  unfold f_Room_awkward
  rw [i1, b18_e, e1]
  rcases i4 with ⟨g1, p, F, w, g2, g3, g4, g5, g6⟩ | ⟨g1, g2, g3⟩
  · rw [g1, if_neg (by decide), g2, g3]
    rw [g3] at i2
    exact ⟨_, _, _, _, _, _, _, _, _, _, _, _, _, _, _, _, _, _, _, _, _, _, _, _, _, rfl, rfl, Or.inr ⟨rfl, i2⟩, i3.1, i3.2⟩
  · rw [g1, if_pos rfl, g2, rfd, b2_e]
    exact ⟨_, _, _, _, _, _, _, _, _, _, _, _, _, _, _, _, _, _, _, _, _, _, _, _, _, rfl, rfl, Or.inr ⟨rfl, i2⟩, i3.1, i3.2⟩
theorem op_ways (h : lin kinds ticks drums marks sT sH values now) {lp be bw sa kn : Int32} (x l r : Int32) {kA pA fA wA : Nat → Int32} {sA : Int32} {kB pB fB wB : Nat → Int32} {sB : Int32} (hc : kno now lp be bw sa kn) (hA : eok kA wA sA) (hB : eok kB wB sB) (least ways : Nat → Int32) (tc tw bc bwm : Int32) : ∃ rr y lp2 be2 bw2 sa2 kn2 l2 r2 kA2 pA2 fA2 wA2 sA2 kB2 pB2 fB2 wB2 sB2 least2 ways2 tc2 tw2 bc2 bwm2, f_Room_ways x lp be bw sa kn l r kA pA fA wA sA kB pB fB wB sB kinds ticks drums marks sT sH (nI (nn now)) values = some (rr, y, lp2, be2, bw2, sa2, kn2, l2, r2, kA2, pA2, fA2, wA2, sA2, kB2, pB2, fB2, wB2, sB2) ∧ f_Model_ways now x least ways tc tw bc bwm = some (rr, y, least2, ways2, tc2, tw2, bc2, bwm2) ∧ kno now lp2 be2 bw2 sa2 kn2 ∧ eok kA2 wA2 sA2 ∧ eok kB2 wB2 sB2 := by
  obtain ⟨m1, m2, m3, m4, m5, m6, e1, e2⟩ := awk_op h.1 x least ways tc tw bc bwm
  obtain ⟨rr, lp2, be2, bw2, sa2, l2, r2, kA2, pA2, fA2, wA2, sA2, kB2, pB2, fB2, wB2, sB2, i1, i2, i3, i4⟩ := exist_c h l r (pA := pA) (fA := fA) (pB := pB) (fB := fB) hc hA hB
  unfold f_Room_ways
  rw [i1, b18_e, e2]
  rcases i4 with ⟨g1, p, F, w, g2, g3, g4, g5, g6⟩ | ⟨g1, g2, g3⟩
  · rw [g1, if_neg (by decide), g2, g5]
    rw [g5] at i2
    exact ⟨_, _, _, _, _, _, _, _, _, _, _, _, _, _, _, _, _, _, _, _, _, _, _, _, _, rfl, rfl, Or.inr ⟨rfl, i2⟩, i3.1, i3.2⟩
  · rw [g1, if_pos rfl, g2, rfd, b2_e]
    exact ⟨_, _, _, _, _, _, _, _, _, _, _, _, _, _, _, _, _, _, _, _, _, _, _, _, _, rfl, rfl, Or.inr ⟨rfl, i2⟩, i3.1, i3.2⟩
/-- the model's stuck -/
theorem ms2 (hW : wf now) {z : Int32} (hz : (z = -1 ∧ TT now (nn now) ≠ none) ∨ ∃ k, k < nn now ∧ z = nI k ∧ TT now (k + 1) = none ∧ ∀ m, m ≤ k → TT now m ≠ none) : ∀ (d k N : Nat) (least ways : Nat → Int32) (tc tw bc bw : Int32), k + d = nn now → d < N → TT now k ≠ none → ∃ l2 w2 a b c d, f_Model_stuck_2 now N (nI k) least ways tc tw bc bw = some (z, l2, w2, a, b, c, d) := by
  obtain ⟨hn, h0⟩ := wf_n hW
  intro d
  induction d with
  | zero =>
    intro k N least ways tc tw bc bw h1 h2 hk
    obtain ⟨N, rfl⟩ : ∃ m, N = m + 1 := ⟨N - 1, by omega⟩
    refine ⟨least, ways, tc, tw, bc, bw, ?_⟩
    show f_Model_stuck_2_b now (f_Model_stuck_2 now N) _ _ _ _ _ _ _ = _
    unfold f_Model_stuck_2_b
    rw [rd_l (i := 0) 0 rfl (by omega) (by omega), h0, if_pos ((le_i (by omega) (by omega)).mpr (by omega))]
    rcases hz with ⟨q, -⟩ | ⟨k2, q1, q2, q3, q4⟩
    · rw [q]
    · exact absurd (TT_mono hW (k := k2 + 1) (by omega) (by omega) q3) hk
  | succ d ih =>
    intro k N least ways tc tw bc bw h1 h2 hk
    obtain ⟨N, rfl⟩ : ∃ m, N = m + 1 := ⟨N - 1, by omega⟩
    obtain ⟨l2, w2, a, b, c, e1, e2⟩ := cu_m hW (show k + 1 ≤ nn now by omega) least ways tc tw bc bw
    have e3 : zI (((k + 1 : Nat) : Int) - 1) = nI k := by
      rw [← zI_nI]
      congr 1
      omega
    rw [e3] at e1
    show ∃ l2 w2 a b c d, f_Model_stuck_2_b now (f_Model_stuck_2 now N) _ _ _ _ _ _ _ = _
    unfold f_Model_stuck_2_b
    rw [rd_l (i := 0) 0 rfl (by omega) (by omega), h0, if_neg (fun q => by have q' := (le_i (by omega) (by omega)).mp q; omega), e1, b7_e]
    cases hT : TT now (k + 1) with
    | none =>
      rw [if_neg (show ¬ nI (cst none) < (1000000 : Int32) by decide)]
      refine ⟨l2, w2, a, b, c, nI (wys none), ?_⟩
      rcases hz with ⟨-, q⟩ | ⟨k2, q1, q2, q3, q4⟩
      · exact absurd (TT_mono hW (k := k + 1) (by omega) (by omega) hT) q
      · have hkk : k2 = k := by
          rcases Nat.lt_trichotomy k2 k with r | r | r
          · exact absurd (TT_mono hW (k := k2 + 1) (by omega) (by omega) q3) hk
          · exact r
          · exact absurd hT (q4 (k + 1) (by omega))
        rw [q2, hkk]
    | some v =>
      have hv : v.1 ≤ 9 * (k + 1) := (T1_b now (k + 1) 0 (0, 0, 0) _ hT).1
      rw [if_pos (show nI (cst (some v)) < 1000000 from lt_M (show v.1 ≤ 200 by omega)), nm_e1, nI_1]
      exact ih (k + 1) N l2 w2 a b c _ (by omega) (by omega) (by rw [hT]; intro q; cases q)
theorem op_stuck (h : lin kinds ticks drums marks sT sH values now) {lp be bw sa kn : Int32} (l r : Int32) {kA pA fA wA : Nat → Int32} {sA : Int32} {kB pB fB wB : Nat → Int32} {sB : Int32} (hc : kno now lp be bw sa kn) (hA : eok kA wA sA) (hB : eok kB wB sB) (least ways : Nat → Int32) (tc tw bc bwm : Int32) : ∃ rr lp2 be2 bw2 sa2 kn2 l2 r2 kA2 pA2 fA2 wA2 sA2 kB2 pB2 fB2 wB2 sB2 least2 ways2 tc2 tw2 bc2 bwm2, f_Room_stuck lp be bw sa kn l r kA pA fA wA sA kB pB fB wB sB kinds ticks drums marks sT sH (nI (nn now)) values = some (rr, lp2, be2, bw2, sa2, kn2, l2, r2, kA2, pA2, fA2, wA2, sA2, kB2, pB2, fB2, wB2, sB2) ∧ f_Model_stuck now least ways tc tw bc bwm = some (rr, least2, ways2, tc2, tw2, bc2, bwm2) ∧ kno now lp2 be2 bw2 sa2 kn2 ∧ eok kA2 wA2 sA2 ∧ eok kB2 wB2 sB2 := by
  have hn := (wf_n h.1).1
  obtain ⟨rr, lp2, be2, bw2, sa2, l2, r2, kA2, pA2, fA2, wA2, sA2, kB2, pB2, fB2, wB2, sB2, i1, i2, i3, i4⟩ := exist_c h l r (pA := pA) (fA := fA) (pB := pB) (fB := fB) hc hA hB
  have h0 : TT now 0 ≠ none := by intro q; cases q
  unfold f_Room_stuck
  rw [i1, b18_e]
  rcases i4 with ⟨g1, p, F, w, g2, g3, g4, g5, g6⟩ | ⟨g1, g2, g3⟩
  · obtain ⟨y1, y2, y3, y4, y5, y6, j1⟩ := ms2 h.1 (z := -1) (Or.inl ⟨rfl, by rw [g2]; intro q; cases q⟩) (nn now) 0 fu least ways tc tw bc bwm (by omega) (by unfold fu; omega) h0
    have j1' : f_Model_stuck now least ways tc tw bc bwm = _ := j1
    rw [g1, if_neg (by decide), j1']
    exact ⟨_, _, _, _, _, _, _, _, _, _, _, _, _, _, _, _, _, _, _, _, _, _, _, _, rfl, rfl, Or.inr ⟨rfl, i2⟩, i3.1, i3.2⟩
  · obtain ⟨y1, y2, y3, y4, y5, y6, j1⟩ := ms2 h.1 (z := sa2) (Or.inr g3) (nn now) 0 fu least ways tc tw bc bwm (by omega) (by unfold fu; omega) h0
    have j1' : f_Model_stuck now least ways tc tw bc bwm = _ := j1
    rw [g1, if_pos rfl, j1']
    exact ⟨_, _, _, _, _, _, _, _, _, _, _, _, _, _, _, _, _, _, _, _, _, _, _, _, rfl, rfl, Or.inr ⟨rfl, i2⟩, i3.1, i3.2⟩
theorem op_hand (h : lin kinds ticks drums marks sT sH values now) {lp be bw sa kn : Int32} (x l r p1 : Int32) {kA pA fA wA : Nat → Int32} {sA : Int32} {kB pB fB wB : Nat → Int32} {sB : Int32} (hc : kno now lp be bw sa kn) (hA : eok kA wA sA) (hB : eok kB wB sB) (least ways : Nat → Int32) (tc tw bc bwm : Int32) (ho ca so : Nat → Int32) : ∃ rr y lp2 be2 bw2 sa2 kn2 l2 r2 kA2 pA2 fA2 wA2 sA2 kB2 pB2 fB2 wB2 sB2 least2 ways2 tc2 tw2 bc2 bwm2 ho2 ca2 so2, f_Room_hand x lp be bw sa kn l r kA pA fA wA sA kB pB fB wB sB kinds ticks drums marks sT sH (nI (nn now)) values p1 = some (rr, y, lp2, be2, bw2, sa2, kn2, l2, r2, kA2, pA2, fA2, wA2, sA2, kB2, pB2, fB2, wB2, sB2) ∧ f_Model_hand now x least ways tc tw bc bwm ho ca so p1 = some (rr, y, least2, ways2, tc2, tw2, bc2, bwm2, ho2, ca2, so2) ∧ kno now lp2 be2 bw2 sa2 kn2 ∧ eok kA2 wA2 sA2 ∧ eok kB2 wB2 sB2 := by
  obtain ⟨hn, h0⟩ := wf_n h.1
  obtain ⟨f1, f2⟩ := ft_m h.1 least ways tc tw bc bwm ho ca so
  obtain ⟨rr, lp2, be2, bw2, sa2, l2, r2, kA2, pA2, fA2, wA2, sA2, kB2, pB2, fB2, wB2, sB2, i1, i2, i3, i4⟩ := exist_c h l r (pA := pA) (fA := fA) (pB := pB) (fB := fB) hc hA hB
  unfold f_Room_hand f_Model_hand
  rw [hasN hn, isN h0 hn, b1_e, b1_e]
  by_cases c : 0 ≤ p1.toInt ∧ p1.toInt < (nn now : Int)
  · obtain ⟨j, hj, hp⟩ := at_n c
    rw [if_pos c, if_neg (by decide), if_neg (by decide), i1, b18_e]
    rcases i4 with ⟨g1, p, F, w, g2, g3, g4, g5, g6⟩ | ⟨g1, g2, g3⟩
    · obtain ⟨k1, k2, k3, k4, k5, k6, ho2, ca2, so2, k7, k8⟩ := f2 p F w g2
      obtain ⟨hF, hw⟩ := way_e h.1 hn g2
      have hp2 := p20 hn
      have hrv := rv_b F (nn now) (nn now)
      rw [g1, if_neg (by decide), k7, b10_e, if_neg (by decide), g4, hp, hi_n (by omega) (by omega), rv_e F hj, b1_e, rd_n (by omega) (by omega), (k8 j hj).1]
      rw [g4] at i2
      exact ⟨_, _, _, _, _, _, _, _, _, _, _, _, _, _, _, _, _, _, _, _, _, _, _, _, _, _, _, _, rfl, rfl, Or.inr ⟨rfl, i2⟩, i3.1, i3.2⟩
    · obtain ⟨k1, k2, k3, k4, k5, k6, k7⟩ := f1 g2
      rw [g1, if_pos rfl, k7, b10_e, if_pos rfl, rfd, mfd, b2_e, b2_e]
      exact ⟨_, _, _, _, _, _, _, _, _, _, _, _, _, _, _, _, _, _, _, _, _, _, _, _, _, _, _, _, rfl, rfl, Or.inr ⟨rfl, i2⟩, i3.1, i3.2⟩
  · rw [if_neg c, if_pos rfl, if_pos rfl, rfd, mfd, b2_e, b2_e]
    exact ⟨_, _, _, _, _, _, _, _, _, _, _, _, _, _, _, _, _, _, _, _, _, _, _, _, _, _, _, _, rfl, rfl, hc, hA, hB⟩
theorem op_crossed (h : lin kinds ticks drums marks sT sH values now) {lp be bw sa kn : Int32} (x wp l r p1 : Int32) {kA pA fA wA : Nat → Int32} {sA : Int32} {kB pB fB wB : Nat → Int32} {sB : Int32} (hc : kno now lp be bw sa kn) (hA : eok kA wA sA) (hB : eok kB wB sB) (least ways : Nat → Int32) (tc tw bc bwm : Int32) (ho ca so : Nat → Int32) : ∃ rr y lp2 be2 bw2 sa2 wp2 kn2 l2 r2 kA2 pA2 fA2 wA2 sA2 kB2 pB2 fB2 wB2 sB2 least2 ways2 tc2 tw2 bc2 bwm2 ho2 ca2 so2, f_Room_crossed x lp be bw sa wp kn l r kA pA fA wA sA kB pB fB wB sB kinds ticks drums marks sT sH (nI (nn now)) values p1 = some (rr, y, lp2, be2, bw2, sa2, wp2, kn2, l2, r2, kA2, pA2, fA2, wA2, sA2, kB2, pB2, fB2, wB2, sB2) ∧ f_Model_crossed now x least ways tc tw bc bwm ho ca so p1 = some (rr, y, least2, ways2, tc2, tw2, bc2, bwm2, ho2, ca2, so2) ∧ kno now lp2 be2 bw2 sa2 kn2 ∧ eok kA2 wA2 sA2 ∧ eok kB2 wB2 sB2 := by
  obtain ⟨hn, h0⟩ := wf_n h.1
  obtain ⟨f1, f2⟩ := ft_m h.1 least ways tc tw bc bwm ho ca so
  obtain ⟨rr, lp2, be2, bw2, sa2, l2, r2, kA2, pA2, fA2, wA2, sA2, kB2, pB2, fB2, wB2, sB2, i1, i2, i3, i4⟩ := exist_c h l r (pA := pA) (fA := fA) (pB := pB) (fB := fB) hc hA hB
  unfold f_Room_crossed f_Model_crossed
  rw [hasN hn, isN h0 hn, b1_e, b1_e]
  by_cases c : 0 ≤ p1.toInt ∧ p1.toInt < (nn now : Int)
  · obtain ⟨j, hj, hp⟩ := at_n c
    rw [if_pos c, if_neg (by decide), if_neg (by decide), i1, b18_e]
    rcases i4 with ⟨g1, p, F, w, g2, g3, g4, g5, g6⟩ | ⟨g1, g2, g3⟩
    · obtain ⟨k1, k2, k3, k4, k5, k6, ho2, ca2, so2, k7, k8⟩ := f2 p F w g2
      obtain ⟨hF, hw⟩ := way_e h.1 hn g2
      obtain ⟨rr3, wp3, w1⟩ := walk_c h rfl hw hj wp l2 r2
      obtain ⟨b1', b2'⟩ := a_b (hw.1 (j + 1) (by omega))
      rw [g1, if_neg (by decide), k7, b10_e, if_neg (by decide), g4, hp, w1, b4_e, cr_c h (vst_b b1' (by omega)) (vst_b b2' (by omega)), way_x hw hj, b1_e, b2i_t, rd_n (by omega) (by omega), (k8 j hj).2.1, b2i_t]
      rw [g4] at i2
      cases crsB now j (bt F (nn now) j) (pS now F (nn now) (j + 1)).2.1 with
      | true =>
        rw [if_pos rfl, if_pos rfl]
        exact ⟨_, _, _, _, _, _, _, _, _, _, _, _, _, _, _, _, _, _, _, _, _, _, _, _, _, _, _, _, _, rfl, rfl, Or.inr ⟨rfl, i2⟩, i3.1, i3.2⟩
      | false =>
        rw [if_neg (by decide), if_neg (by decide)]
        exact ⟨_, _, _, _, _, _, _, _, _, _, _, _, _, _, _, _, _, _, _, _, _, _, _, _, _, _, _, _, _, rfl, rfl, Or.inr ⟨rfl, i2⟩, i3.1, i3.2⟩
    · obtain ⟨k1, k2, k3, k4, k5, k6, k7⟩ := f1 g2
      rw [g1, if_pos rfl, k7, b10_e, if_pos rfl, rfd, mfd, b2_e, b2_e]
      exact ⟨_, _, _, _, _, _, _, _, _, _, _, _, _, _, _, _, _, _, _, _, _, _, _, _, _, _, _, _, _, rfl, rfl, Or.inr ⟨rfl, i2⟩, i3.1, i3.2⟩
  · rw [if_neg c, if_pos rfl, if_pos rfl, rfd, mfd, b2_e, b2_e]
    exact ⟨_, _, _, _, _, _, _, _, _, _, _, _, _, _, _, _, _, _, _, _, _, _, _, _, _, _, _, _, _, rfl, rfl, hc, hA, hB⟩
theorem op_latest (h : lin kinds ticks drums marks sT sH values now) {lp be bw sa kn : Int32} (x wp l r p1 p2 : Int32) {kA pA fA wA : Nat → Int32} {sA : Int32} {kB pB fB wB : Nat → Int32} {sB : Int32} (hc : kno now lp be bw sa kn) (hA : eok kA wA sA) (hB : eok kB wB sB) (least ways : Nat → Int32) (tc tw bc bwm : Int32) (ho ca so : Nat → Int32) : ∃ rr y lp2 be2 bw2 sa2 wp2 kn2 l2 r2 kA2 pA2 fA2 wA2 sA2 kB2 pB2 fB2 wB2 sB2 least2 ways2 tc2 tw2 bc2 bwm2 ho2 ca2 so2, f_Room_latest x lp be bw sa wp kn l r kA pA fA wA sA kB pB fB wB sB kinds ticks drums marks sT sH (nI (nn now)) values p1 p2 = some (rr, y, lp2, be2, bw2, sa2, wp2, kn2, l2, r2, kA2, pA2, fA2, wA2, sA2, kB2, pB2, fB2, wB2, sB2) ∧ f_Model_latest now x least ways tc tw bc bwm ho ca so p1 p2 = some (rr, y, least2, ways2, tc2, tw2, bc2, bwm2, ho2, ca2, so2) ∧ kno now lp2 be2 bw2 sa2 kn2 ∧ eok kA2 wA2 sA2 ∧ eok kB2 wB2 sB2 := by
  obtain ⟨hn, h0⟩ := wf_n h.1
  obtain ⟨f1, f2⟩ := ft_m h.1 least ways tc tw bc bwm ho ca so
  obtain ⟨rr, lp2, be2, bw2, sa2, l2, r2, kA2, pA2, fA2, wA2, sA2, kB2, pB2, fB2, wB2, sB2, i1, i2, i3, i4⟩ := exist_c h l r (pA := pA) (fA := fA) (pB := pB) (fB := fB) hc hA hB
  unfold f_Room_latest f_Model_latest
  rw [isB (z := 2) rfl, wit (a := 0) (b := 1) rfl rfl, b1_e, b1_e]
  by_cases c0 : 0 ≤ p1.toInt ∧ p1.toInt < 2
  · obtain ⟨hh, h2, hp1⟩ := at_n (n := 2) c0
    rw [if_pos c0, if_pos (show 0 ≤ p1.toInt ∧ p1.toInt ≤ 1 by omega), if_neg (by decide), if_neg (by decide), hasN hn, isN h0 hn, b1_e, b1_e]
    by_cases c : 0 ≤ p2.toInt ∧ p2.toInt < (nn now : Int)
    · obtain ⟨j, hj, hp⟩ := at_n c
      rw [if_pos c, if_neg (by decide), if_neg (by decide), i1, b18_e]
      rcases i4 with ⟨g1, p, F, w, g2, g3, g4, g5, g6⟩ | ⟨g1, g2, g3⟩
      · obtain ⟨k1, k2, k3, k4, k5, k6, ho2, ca2, so2, k7, k8⟩ := f2 p F w g2
        obtain ⟨hF, hw⟩ := way_e h.1 hn g2
        obtain ⟨rr3, wp3, w1⟩ := walk_c h rfl hw hj wp l2 r2
        obtain ⟨b1', b2'⟩ := a_b (hw.1 (j + 1) (by omega))
        have hso : so2 (2 * j + hh) = nI (if hh = 0 then aL (j + 1) (pS now F (nn now) (j + 1)) else aR (j + 1) (pS now F (nn now) (j + 1))) := by
          rcases (show hh = 0 ∨ hh = 1 by omega) with q | q <;> subst q
          · rw [if_pos rfl]
            exact (k8 j hj).2.2.1
          · rw [if_neg (by omega)]
            exact (k8 j hj).2.2.2
        have hsb : (if hh = 0 then aL (j + 1) (pS now F (nn now) (j + 1)) else aR (j + 1) (pS now F (nn now) (j + 1))) ≤ 2 * (j + 1) := by split <;> omega
        have e2j : ((2 : Int32) * nI j) + nI hh = nI (2 * j + hh) := by
          show nI 2 * nI j + nI hh = _
          rw [mul_n, add_n]
        rw [g1, if_neg (by decide), k7, b10_e, if_neg (by decide), g4, hp, hp1, w1, b4_e, (so_c h2).1, b1_e, e2j, rd_n (n := 40) (f := so2) (by omega) (by omega), hso]
        rw [g4] at i2
        generalize (if hh = 0 then aL (j + 1) (pS now F (nn now) (j + 1)) else aR (j + 1) (pS now F (nn now) (j + 1))) = s at hsb
        by_cases cs : s = 0
        · rw [if_pos (show nI s = 0 by rw [cs]; rfl), if_pos (show nI s = 0 by rw [cs]; rfl), rfd, mfd, b2_e, b2_e]
          exact ⟨_, _, _, _, _, _, _, _, _, _, _, _, _, _, _, _, _, _, _, _, _, _, _, _, _, _, _, _, _, rfl, rfl, Or.inr ⟨rfl, i2⟩, i3.1, i3.2⟩
        · rw [if_neg (show ¬ nI s = 0 from nI_ne0 (by omega) (by omega)), if_neg (show ¬ nI s = 0 from nI_ne0 (by omega) (by omega)), rd_n (by omega) (by omega), (sT_e h (s := s) (by omega) (by omega)).1, tkO_m h.1 (by omega) (by omega), b1_e]
          exact ⟨_, _, _, _, _, _, _, _, _, _, _, _, _, _, _, _, _, _, _, _, _, _, _, _, _, _, _, _, _, rfl, rfl, Or.inr ⟨rfl, i2⟩, i3.1, i3.2⟩
      · obtain ⟨k1, k2, k3, k4, k5, k6, k7⟩ := f1 g2
        rw [g1, if_pos rfl, k7, b10_e, if_pos rfl, rfd, mfd, b2_e, b2_e]
        exact ⟨_, _, _, _, _, _, _, _, _, _, _, _, _, _, _, _, _, _, _, _, _, _, _, _, _, _, _, _, _, rfl, rfl, Or.inr ⟨rfl, i2⟩, i3.1, i3.2⟩
    · rw [if_neg c, if_pos rfl, if_pos rfl, rfd, mfd, b2_e, b2_e]
      exact ⟨_, _, _, _, _, _, _, _, _, _, _, _, _, _, _, _, _, _, _, _, _, _, _, _, _, _, _, _, _, rfl, rfl, hc, hA, hB⟩
  · rw [if_neg c0, if_neg (show ¬ (0 ≤ p1.toInt ∧ p1.toInt ≤ 1) by omega), if_pos rfl, if_pos rfl, rfd, mfd, b2_e, b2_e]
    exact ⟨_, _, _, _, _, _, _, _, _, _, _, _, _, _, _, _, _, _, _, _, _, _, _, _, _, _, _, _, _, rfl, rfl, hc, hA, hB⟩
end OPS12
