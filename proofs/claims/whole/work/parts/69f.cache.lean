section CACHE
variable {kinds ticks drums marks values counts hits now sT sH : Nat → Int32} {count there : Int32}
/-- what is found for a line -/
def sol (x : Nat → Int32) (lp be bw sa : Int32) : Prop := (∃ p F w, TT x (nn x) = some (p, F, w) ∧ lp = nI p ∧ be = nI (rvN F (nn x) (nn x)) ∧ bw = nI w ∧ sa = -1) ∨ ∃ k, k < nn x ∧ sa = nI k ∧ TT x (k + 1) = none ∧ ∀ m, m ≤ k → TT x m ≠ none
theorem sv30 (h : lin kinds ticks drums marks sT sH values now) (lp be bw : Int32) : ∀ (d k N : Nat) (l r : Int32) (kA pA fA wA : Nat → Int32) (sA : Int32) (kB pB fB wB : Nat → Int32) (sB : Int32), k + d = nn now → d < N → eR kA pA fA wA sA (fE now k) → eok kB wB sB → (∀ m, m ≤ k → TT now m ≠ none) → ∃ lp2 be2 bw2 sa2 l2 r2 kA2 pA2 fA2 wA2 sA2 kB2 pB2 fB2 wB2 sB2, f_Hands_solve_30 kinds ticks drums marks sT sH (nI (nn now)) values N (nI k) lp be bw (-1) l r kA pA fA wA sA kB pB fB wB sB = some (lp2, be2, bw2, sa2, l2, r2, kA2, pA2, fA2, wA2, sA2, kB2, pB2, fB2, wB2, sB2) ∧ sol now lp2 be2 bw2 sa2 ∧ eok kA2 wA2 sA2 ∧ eok kB2 wB2 sB2 := by
  have hW := h.1
  have hn := (wf_n hW).1
  have h20 : ∀ j, j ≤ 20 → 2 ^ j ≤ 1048576 := fun j hj => Nat.pow_le_pow_right (n := 2) (by decide) hj
  intro d
  induction d with
  | zero =>
    intro k N l r kA pA fA wA sA kB pB fB wB sB h1 h2 hA hB hm
    obtain ⟨N, rfl⟩ : ∃ m, N = m + 1 := ⟨N - 1, by omega⟩
    have hk : k = nn now := by omega
    obtain ⟨v1, v2⟩ := fE_v hW k (by omega)
    have hp := h20 k (by omega)
    have hlen := eR_len hA
    obtain ⟨f2, lp2, bw2, j1, j2⟩ := cb9 (n := nn now) hA be (fE now k) 0 fu 0 lp 0 none rfl (by omega) (by unfold fu; omega) rfl (by show 0 + Wt (fE now k) ≤ 2097152; omega)
    rw [mrg_0, ← fE_n hW (by omega)] at j1
    cases hT : TT now k with
    | none => exact absurd hT (hm k (Nat.le_refl k))
    | some y =>
      rw [hT] at j1
      obtain ⟨a1, a2, a3, a4, a5, a6⟩ := j1
      obtain ⟨p, F, w⟩ := y
      have hF : F < 2 ^ nn now := by
        rw [hk] at hT
        exact (T1_b now (nn now) 0 (0, 0, 0) _ hT).2.1
      have hwz : f_Hands_withNoteZeroLowest (nI (nn now)) f2 = some (nI (rvN F (nn now) (nn now))) := by
        rw [a1]
        exact wz_c hn hF (nn now) 0 fu (by omega) (by unfold fu; omega)
      refine ⟨lp2, nI (rvN F (nn now) (nn now)), bw2, -1, l, r, kA, pA, fA, wA, sA, kB, pB, fB, wB, sB, ?_, ?_, eR_ok hA, hB⟩
      · show f_Hands_solve_30_b kinds ticks drums marks sT sH (nI (nn now)) values (f_Hands_solve_30 kinds ticks drums marks sT sH (nI (nn now)) values N) _ _ _ _ _ _ _ _ _ _ _ _ _ _ _ _ _ = _
        unfold f_Hands_solve_30_b f_Hands_chooseBest
        have j2' : f_Hands_chooseBest_9 kA pA fA wA sA (nI (nn now)) fu 0 0 lp be 0 = _ := j2
        rw [if_pos ((le_i (by omega) (by omega)).mpr (by omega)), j2', hwz, b1_e, b3_e]
      · refine Or.inl ⟨p, F, w, ?_, a2, rfl, a3, rfl⟩
        rw [← hk]
        exact hT
  | succ d ih =>
    intro k N l r kA pA fA wA sA kB pB fB wB sB h1 h2 hA hB hm
    obtain ⟨N, rfl⟩ : ∃ m, N = m + 1 := ⟨N - 1, by omega⟩
    obtain ⟨v1, v2⟩ := fE_v hW k (by omega)
    have hp := h20 k (by omega)
    have hlen := eR_len hA
    obtain ⟨wB1, c1, c2⟩ := clr_c hB
    obtain ⟨l2, r2, kB2, pB2, fB2, wB2, sB2, j1, j2⟩ := sv50 h (k := k) (by omega) hA v1 (lp := lp) (be := be) (bw := bw) (sa := -1) (f_Hands_solve_30 kinds ticks drums marks sT sH (nI (nn now)) values N) (fE now k) 0 fu l r kB pB fB wB1 0 [] rfl (by omega) (by unfold fu; omega) (eR_0 kB pB fB c2) (fun e he => by cases he) (by show 0 + 2 * Wt (fE now k) ≤ 2097152; omega)
    have j1' : eR kB2 pB2 fB2 wB2 sB2 (fE now (k + 1)) := j1
    have hlen2 := eR_len j1'
    have e0 : f_Hands_solve_30 kinds ticks drums marks sT sH (nI (nn now)) values (N + 1) (nI k) lp be bw (-1) l r kA pA fA wA sA kB pB fB wB sB = (if sB2 = 0 then some (lp, be, bw, nI k, l2, r2, kA, pA, fA, wA, sA, kB2, pB2, fB2, wB2, sB2) else f_Hands_solve_30 kinds ticks drums marks sT sH (nI (nn now)) values N (nI (k + 1)) lp be bw (-1) l2 r2 kB2 pB2 fB2 wB2 sB2 kA pA fA wA sA) := by
      rw [← j2]
      show f_Hands_solve_30_b kinds ticks drums marks sT sH (nI (nn now)) values (f_Hands_solve_30 kinds ticks drums marks sT sH (nI (nn now)) values N) _ _ _ _ _ _ _ _ _ _ _ _ _ _ _ _ _ = _
      unfold f_Hands_solve_30_b
      rw [if_neg (fun q => by have q' := (le_i (by omega) (by omega)).mp q; omega), c1, b2_e]
      rfl
    rw [e0]
    by_cases c : fE now (k + 1) = []
    · have hz : sB2 = 0 := by rw [j1'.1, c]; rfl
      rw [if_pos hz]
      refine ⟨lp, be, bw, nI k, l2, r2, kA, pA, fA, wA, sA, kB2, pB2, fB2, wB2, sB2, rfl, Or.inr ⟨k, by omega, rfl, ?_, hm⟩, eR_ok hA, eR_ok j1'⟩
      rw [fE_n hW (by omega), SM_n]
      exact c
    · have hz : ¬ sB2 = 0 := by
        rw [j1'.1]
        have : 0 < (fE now (k + 1)).length := List.length_pos_iff.mpr c
        exact nI_ne0 (by omega) (by omega)
      rw [if_neg hz]
      refine ih (k + 1) N l2 r2 kB2 pB2 fB2 wB2 sB2 kA pA fA wA sA (by omega) (by omega) j1' (eR_ok hA) ?_
      intro m hm2
      by_cases cm : m = k + 1
      · subst cm
        rw [fE_n hW (by omega)]
        intro q
        exact c (SM_n.mp q)
      · exact hm m (by omega)
theorem solve_c (h : lin kinds ticks drums marks sT sH values now) (lp be bw sa l r : Int32) {kA pA fA wA : Nat → Int32} {sA : Int32} {kB pB fB wB : Nat → Int32} {sB : Int32} (hA : eok kA wA sA) (hB : eok kB wB sB) : ∃ lp2 be2 bw2 sa2 l2 r2 kA2 pA2 fA2 wA2 sA2 kB2 pB2 fB2 wB2 sB2, f_Hands_solve lp be bw sa l r kA pA fA wA sA kB pB fB wB sB kinds ticks drums marks sT sH (nI (nn now)) values = some (lp2, be2, bw2, sa2, l2, r2, kA2, pA2, fA2, wA2, sA2, kB2, pB2, fB2, wB2, sB2) ∧ sol now lp2 be2 bw2 sa2 ∧ eok kA2 wA2 sA2 ∧ eok kB2 wB2 sB2 := by
  have hn := (wf_n h.1).1
  obtain ⟨wA1, c1, c2⟩ := clr_c hA
  obtain ⟨k3, p3, f3, w3, s3, i1, i2⟩ := off_c (eR_0 kA pA fA c2) (k := 0) (p := 0) (f := 0) (w := 1) (by omega) (by omega) (by omega) (by omega) (by omega) (by decide)
  have i2' : eR k3 p3 f3 w3 s3 (fE now 0) := i2
  have hs := sv30 h lp be bw (nn now) 0 fu l r k3 p3 f3 w3 s3 kB pB fB wB sB (by omega) (by unfold fu; omega) i2' hB (by
    intro m hm
    have : m = 0 := by omega
    rw [this]
    intro q
    cases q)
  have e : f_Hands_solve lp be bw sa l r kA pA fA wA sA kB pB fB wB sB kinds ticks drums marks sT sH (nI (nn now)) values = f_Hands_solve_30 kinds ticks drums marks sT sH (nI (nn now)) values fu (nI 0) lp be bw (-1) l r k3 p3 f3 w3 s3 kB pB fB wB sB := by
    unfold f_Hands_solve
    have ek : f_End_keyOf 0 0 0 = some (nI 0) := rfl
    have i1' : f_End_offer kA pA fA wA1 0 (nI 0) 0 0 1 = _ := i1
    rw [c1, b2_e, ek, b1_e, i1', b5_e]
    rfl
  rw [e]
  exact hs
/-- what is kept of it -/
def kno (x : Nat → Int32) (lp be bw sa kn : Int32) : Prop := kn = 0 ∨ (kn = 1 ∧ sol x lp be bw sa)
theorem exist_c (h : lin kinds ticks drums marks sT sH values now) {lp be bw sa kn : Int32} (l r : Int32) {kA pA fA wA : Nat → Int32} {sA : Int32} {kB pB fB wB : Nat → Int32} {sB : Int32} (hc : kno now lp be bw sa kn) (hA : eok kA wA sA) (hB : eok kB wB sB) : ∃ rr lp2 be2 bw2 sa2 l2 r2 kA2 pA2 fA2 wA2 sA2 kB2 pB2 fB2 wB2 sB2, f_Hands_exist lp be bw sa kn l r kA pA fA wA sA kB pB fB wB sB kinds ticks drums marks sT sH (nI (nn now)) values = some (rr, lp2, be2, bw2, sa2, 1, l2, r2, kA2, pA2, fA2, wA2, sA2, kB2, pB2, fB2, wB2, sB2) ∧ sol now lp2 be2 bw2 sa2 ∧ (eok kA2 wA2 sA2 ∧ eok kB2 wB2 sB2) ∧ ((rr = 1 ∧ ∃ p F w, TT now (nn now) = some (p, F, w) ∧ lp2 = nI p ∧ be2 = nI (rvN F (nn now) (nn now)) ∧ bw2 = nI w ∧ sa2 = -1) ∨ (rr = 0 ∧ TT now (nn now) = none ∧ ∃ k, k < nn now ∧ sa2 = nI k ∧ TT now (k + 1) = none ∧ ∀ m, m ≤ k → TT now m ≠ none)) := by
  have hn := (wf_n h.1).1
  have fin : ∀ {lp be bw sa : Int32}, sol now lp be bw sa → (¬ (0 : Int32) ≤ sa ∧ ∃ p F w, TT now (nn now) = some (p, F, w) ∧ lp = nI p ∧ be = nI (rvN F (nn now) (nn now)) ∧ bw = nI w ∧ sa = -1) ∨ ((0 : Int32) ≤ sa ∧ TT now (nn now) = none ∧ ∃ k, k < nn now ∧ sa = nI k ∧ TT now (k + 1) = none ∧ ∀ m, m ≤ k → TT now m ≠ none) := by
    intro lp be bw sa hs
    rcases hs with ⟨p, F, w, q1, q2, q3, q4, q5⟩ | ⟨k, q1, q2, q3, q4⟩
    · exact Or.inl ⟨by rw [q5]; decide, p, F, w, q1, q2, q3, q4, q5⟩
    · refine Or.inr ⟨?_, TT_mono h.1 (k := k + 1) (by omega) (by omega) q3, k, q1, q2, q3, q4⟩
      rw [q2]
      exact (le_i (a := 0) (by omega) (by omega)).mpr (by omega)
  unfold f_Hands_exist
  rcases hc with q | ⟨q, hs⟩
  · rw [if_pos q]
    obtain ⟨lp2, be2, bw2, sa2, l2, r2, kA2, pA2, fA2, wA2, sA2, kB2, pB2, fB2, wB2, sB2, e1, e2, e3, e4⟩ := solve_c h lp be bw sa l r (pA := pA) (fA := fA) (pB := pB) (fB := fB) hA hB
    rw [e1, b16_e]
    rcases fin e2 with ⟨g1, g2⟩ | ⟨g1, g2, g3⟩
    · rw [if_neg g1]
      exact ⟨1, lp2, be2, bw2, sa2, l2, r2, kA2, pA2, fA2, wA2, sA2, kB2, pB2, fB2, wB2, sB2, rfl, e2, ⟨e3, e4⟩, Or.inl ⟨rfl, g2⟩⟩
    · rw [if_pos g1]
      exact ⟨0, lp2, be2, bw2, sa2, l2, r2, kA2, pA2, fA2, wA2, sA2, kB2, pB2, fB2, wB2, sB2, rfl, e2, ⟨e3, e4⟩, Or.inr ⟨rfl, g2, g3⟩⟩
  · rw [if_neg (show ¬ kn = 0 by rw [q]; decide), q]
    rcases fin hs with ⟨g1, g2⟩ | ⟨g1, g2, g3⟩
    · rw [if_neg g1]
      exact ⟨1, lp, be, bw, sa, l, r, kA, pA, fA, wA, sA, kB, pB, fB, wB, sB, rfl, hs, ⟨hA, hB⟩, Or.inl ⟨rfl, g2⟩⟩
    · rw [if_pos g1]
      exact ⟨0, lp, be, bw, sa, l, r, kA, pA, fA, wA, sA, kB, pB, fB, wB, sB, rfl, hs, ⟨hA, hB⟩, Or.inr ⟨rfl, g2, g3⟩⟩
end CACHE
