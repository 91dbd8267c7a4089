section BASS2
variable {kinds ticks drums marks values counts hits now : Nat → Int32} {count there : Int32}
theorem has_l {b s fr to bs : Nat} (hb : 0 < b) (hb2 : b < 32) (hs : s < 3) (hto : to < 20) (hfr : fr ≤ to) (h1 : now 1 = nI b) (hbs : bs < 5) (x : Int32) : ∀ (e k c N N2 : Nat), fr + k + e = to + 1 → e < N → e < N2 → ∃ C, f_Basses_notesOf_6 (nI b) N (nI bs) (nI fr) (nI to) (nI s) (nI c) (nI (fr + k)) = some (nI C) ∧ f_Model_has_49 now N2 (nI fr) (nI to) (nI s) (nI bs) (nI c) (nI k) x = some (nI C, x) := by
  intro e
  induction e with
  | zero =>
    intro k c N N2 g1 g2 g3
    obtain ⟨N, rfl⟩ : ∃ m, N = m + 1 := ⟨N - 1, by omega⟩
    obtain ⟨N2, rfl⟩ : ∃ m, N2 = m + 1 := ⟨N2 - 1, by omega⟩
    refine ⟨c, ?_, ?_⟩
    · show f_Basses_notesOf_6_b (nI b) (f_Basses_notesOf_6 (nI b) N) (nI bs) (nI fr) (nI to) (nI s) (nI c) (nI (fr + k)) = _
      unfold f_Basses_notesOf_6_b
      rw [if_pos (nI_lt (by omega) (by omega))]
    · show f_Model_has_49_b now (f_Model_has_49 now N2) (nI fr) (nI to) (nI s) (nI bs) (nI c) (nI k) x = _
      unfold f_Model_has_49_b
      rw [sub_n hfr, if_pos (nI_lt (by omega) (by omega))]
  | succ e ih =>
    intro k c N N2 g1 g2 g3
    obtain ⟨N, rfl⟩ : ∃ m, N = m + 1 := ⟨N - 1, by omega⟩
    obtain ⟨N2, rfl⟩ : ∃ m, N2 = m + 1 := ⟨N2 - 1, by omega⟩
    obtain ⟨o1, o2, o3⟩ := own_e (now := now) hb hb2 hs (show k < 20 by omega) h1
    have u1 : f_Basses_notesOf_6 (nI b) (N + 1) (nI bs) (nI fr) (nI to) (nI s) (nI c) (nI (fr + k)) = f_Basses_notesOf_6_b (nI b) (f_Basses_notesOf_6 (nI b) N) (nI bs) (nI fr) (nI to) (nI s) (nI c) (nI (fr + k)) := rfl
    have u2 : f_Model_has_49 now (N2 + 1) (nI fr) (nI to) (nI s) (nI bs) (nI c) (nI k) x = f_Model_has_49_b now (f_Model_has_49 now N2) (nI fr) (nI to) (nI s) (nI bs) (nI c) (nI k) x := rfl
    rw [u1, u2]
    unfold f_Basses_notesOf_6_b f_Model_has_49_b
    have e1 : nI (fr + k) - nI fr = nI k := by rw [sub_n (by omega)]; congr 1; omega
    have e2 : nI (fr + k) + 1 = nI (fr + (k + 1)) := by rw [nI_1]; congr 1
    have e3 : nI k + 1 = nI (k + 1) := nI_1 k
    have e4 : nI c + 1 = nI (c + 1) := nI_1 c
    have e5 : nI c + 0 = nI c := add_n c 0
    rw [if_neg (nI_nlt (by omega) (by omega)), sub_n hfr, if_neg (nI_nlt (by omega) (by omega)), e1, o2, o3]
    simp only [b1_e, nm_e1, e2, e3, e4, e5]
    by_cases c1 : nI (own b s k) = nI bs
    · rw [if_pos c1, if_pos c1]
      exact ih (k + 1) (c + 1) N N2 (by omega) (by omega) (by omega)
    · rw [if_neg c1, if_neg c1]
      exact ih (k + 1) c N N2 (by omega) (by omega) (by omega)
theorem op_has (hR : rep kinds ticks drums marks count values there counts hits now) (hW : wf now) (x p1 p2 p3 p4 : Int32) : ∃ r y, f_Room_has x count there p1 p2 p3 p4 = some (r, y) ∧ f_Model_has now x p1 p2 p3 p4 = some (r, y) := by
  obtain ⟨hn, h0⟩ := wf_n hW
  have ec : count = nI (nn now) := hR.1.trans h0
  obtain ⟨b, eb, b1', b2', b3'⟩ := inat hW.2.1 (by omega)
  have et : there = nI b := hR.2.1.trans eb
  unfold f_Room_has f_Model_has f_Room_has_26
  rw [ec, et, run_c hn, run_m hn h0, isB (p := p3) (q := 3) (z := 3) rfl, isB (p := p4) (q := 5) (z := 5) rfl, wit (p := p4) (lo := 0) (hi := 4) (a := 0) (b := 4) rfl rfl]
  by_cases c1 : (0 ≤ p1.toInt ∧ p1.toInt < (nn now : Int)) ∧ (0 ≤ p2.toInt ∧ p2.toInt < (nn now : Int)) ∧ p1.toInt ≤ p2.toInt
  · by_cases c2 : 0 ≤ p3.toInt ∧ p3.toInt < 3
    · by_cases c3 : 0 ≤ p4.toInt ∧ p4.toInt < 5
      · simp only [if_pos c1, if_pos c2, if_pos c3, if_pos (show 0 ≤ p4.toInt ∧ p4.toInt ≤ 4 by omega), if_pos (show ((0 ≤ p1.toInt ∧ p1.toInt < (nn now : Int)) ∧ (0 ≤ p2.toInt ∧ p2.toInt < (nn now : Int)) ∧ p1.toInt ≤ p2.toInt) ∧ 0 ≤ p3.toInt ∧ p3.toInt < 3 from ⟨c1, c2⟩), b1_e, i10, rd_l (n := 187) (i := 1) 1 rfl (by omega) (by omega), eb]
        by_cases c4 : nI b = 0
        · simp only [if_pos c4, rfd, mfd, b2_e]
          exact ⟨_, _, rfl, rfl⟩
        · have hb0 : 0 < b := by
            rcases Nat.eq_zero_or_pos b with z | z
            · exact absurd (by rw [z]; rfl) c4
            · exact z
          obtain ⟨i, hi, rfl⟩ := at_n c1.1
          obtain ⟨j, hj, rfl⟩ := at_n c1.2.1
          obtain ⟨s, hs, rfl⟩ := at_n (n := 3) c2
          obtain ⟨v, hv, rfl⟩ := at_n (n := 5) c3
          have q1 : (nI i).toInt = (i : Int) := ito (by omega)
          have q2 : (nI j).toInt = (j : Int) := ito (by omega)
          obtain ⟨C, g1, g2⟩ := has_l (now := now) hb0 (show b < 32 by omega) hs (show j < 20 by omega) (show i ≤ j by omega) eb hv x (j + 1 - i) 0 0 fu fu (by omega) (by unfold fu; omega) (by unfold fu; omega)
          rw [if_neg c4, if_neg c4]
          unfold f_Basses_notesOf
          have g1' : f_Basses_notesOf_6 (nI b) fu (nI v) (nI i) (nI j) (nI s) 0 (nI i) = some (nI C) := g1
          have g2' : f_Model_has_49 now fu (nI i) (nI j) (nI s) (nI v) 0 0 x = some (nI C, x) := g2
          rw [g1', g2']
          exact ⟨_, _, rfl, rfl⟩
      · simp only [if_neg c3, if_neg (show ¬ (0 ≤ p4.toInt ∧ p4.toInt ≤ 4) by omega), if_pos (show ((0 ≤ p1.toInt ∧ p1.toInt < (nn now : Int)) ∧ (0 ≤ p2.toInt ∧ p2.toInt < (nn now : Int)) ∧ p1.toInt ≤ p2.toInt) ∧ 0 ≤ p3.toInt ∧ p3.toInt < 3 from ⟨c1, c2⟩), b1_e, i10, i00, rfd, mfd, b2_e]
        exact ⟨_, _, rfl, rfl⟩
    · simp only [if_pos c1, if_neg c2, if_neg (show ¬ (((0 ≤ p1.toInt ∧ p1.toInt < (nn now : Int)) ∧ (0 ≤ p2.toInt ∧ p2.toInt < (nn now : Int)) ∧ p1.toInt ≤ p2.toInt) ∧ 0 ≤ p3.toInt ∧ p3.toInt < 3) from fun h => c2 h.2), b1_e, i10, i00, rfd, mfd, b2_e]
      by_cases c3 : 0 ≤ p4.toInt ∧ p4.toInt < 5
      · rw [if_pos c3]; exact ⟨_, _, rfl, rfl⟩
      · rw [if_neg c3]; exact ⟨_, _, rfl, rfl⟩
  · simp only [if_neg c1, if_neg (show ¬ (((0 ≤ p1.toInt ∧ p1.toInt < (nn now : Int)) ∧ (0 ≤ p2.toInt ∧ p2.toInt < (nn now : Int)) ∧ p1.toInt ≤ p2.toInt) ∧ 0 ≤ p3.toInt ∧ p3.toInt < 3) from fun h => c1 h.1), b1_e, i00, rfd, mfd, b2_e]
    by_cases c3 : 0 ≤ p4.toInt ∧ p4.toInt < 5
    · rw [if_pos c3]; exact ⟨_, _, rfl, rfl⟩
    · rw [if_neg c3]; exact ⟨_, _, rfl, rfl⟩
/-! too fast -/
def la (bs : Nat → Nat) (r : Nat) : Nat → Option Nat
  | 0 => none
  | d + 1 => if bs d = r then some d else la bs r d
theorem la_lt (bs : Nat → Nat) (r : Nat) : ∀ d j, la bs r d = some j → j < d := by
  intro d
  induction d with
  | zero => intro j h; cases h
  | succ d ih =>
    intro j h
    have h' : (if bs d = r then some d else la bs r d) = some j := h
    by_cases c : bs d = r
    · rw [if_pos c] at h'; cases h'; omega
    · rw [if_neg c] at h'
      have := ih j h'
      omega
def tfs (now : Nat → Int32) (gap : Int32) (fr : Nat) (i : Nat) (o : Option Nat) : Bool := match o with
  | none => false
  | some j => decide (¬ (2 * gap) ≤ (now (27 + i) - now (27 + (fr + j))))
theorem bk_e {b s fr to : Nat} (hb : 0 < b) (hb2 : b < 32) (hs : s < 3) (hto : to < 20) (h1 : now 1 = nI b) (K6 : Int32 → Int32 → Int32 → Int32 → Int32 → Option Int32) {r : Nat} (hr : r < 5) {d c : Nat} (hd : fr + d ≤ to) : ∀ (k N : Nat), k ≤ d → k < N → f_Model_tooFast_29 now K6 N (nI fr) (nI to) (nI s) (nI c) (nI (fr + d)) (nI r) (dn (fr + k)) = K6 (nI fr) (nI to) (nI s) (nI (c + if tfs now (now 2) fr (fr + d) (la (own b s) r k) = true then 1 else 0)) (nI (fr + d + 1)) := by
  intro k
  induction k with
  | zero =>
    intro N g1 g2
    obtain ⟨N, rfl⟩ : ∃ m, N = m + 1 := ⟨N - 1, by omega⟩
    show f_Model_tooFast_29_b now K6 (f_Model_tooFast_29 now K6 N) (nI fr) (nI to) (nI s) (nI c) (nI (fr + d)) (nI r) (dn (fr + 0)) = _
    unfold f_Model_tooFast_29_b f_Model_tooFast_55
    have hlt : dn (fr + 0) < nI fr := (dn_lt (by omega) (by omega)).mpr (Nat.le_refl _)
    rw [if_pos hlt, if_pos hlt, nm_e1, nm_e1, nI_1]
    show K6 (nI fr) (nI to) (nI s) (nI c + 0) _ = K6 (nI fr) (nI to) (nI s) (nI (c + if false = true then 1 else 0)) _
    have e5 : nI c + 0 = nI c := add_n c 0
    rw [e5]
    rfl
  | succ k ih =>
    intro N g1 g2
    obtain ⟨N, rfl⟩ : ∃ m, N = m + 1 := ⟨N - 1, by omega⟩
    show f_Model_tooFast_29_b now K6 (f_Model_tooFast_29 now K6 N) (nI fr) (nI to) (nI s) (nI c) (nI (fr + d)) (nI r) (dn (fr + k + 1)) = _
    obtain ⟨o1, o2, o3⟩ := own_e (now := now) hb hb2 hs (show k < 20 by omega) h1
    have e1 : nI (fr + k) - nI fr = nI k := by rw [sub_n (by omega)]; congr 1; omega
    have nl : ¬ nI (fr + k) < nI fr := nI_nlt (by omega) (by omega)
    have a1 : (27 : Int32) + nI (fr + d) = nI (27 + (fr + d)) := add_n 27 _
    have a2 : (27 : Int32) + nI (fr + k) = nI (27 + (fr + k)) := add_n 27 _
    have hla : la (own b s) r (k + 1) = if own b s k = r then some k else la (own b s) r k := rfl
    unfold f_Model_tooFast_29_b f_Model_tooFast_55
    rw [dn_s, if_neg nl, if_neg nl, e1, o3, b1_e, a1, a2]
    simp only [rd_n (n := 187) (j := 27 + (fr + d)) (by omega) (by omega), rd_n (n := 187) (j := 27 + (fr + k)) (by omega) (by omega), rd_l (n := 187) (i := 2) 2 rfl (by omega) (by omega), nm_e1, dn_m, nI_1]
    by_cases c1 : own b s k = r
    · rw [if_pos (by rw [c1]), hla, if_pos c1]
      have e5 : nI c + 0 = nI c := add_n c 0
      by_cases c2 : (2 * now 2) ≤ (now (27 + (fr + d)) - now (27 + (fr + k)))
      · have t : ¬ tfs now (now 2) fr (fr + d) (some k) = true := by unfold tfs; simp [c2]
        rw [if_pos c2, if_neg t, e5]
        rfl
      · have t : tfs now (now 2) fr (fr + d) (some k) = true := by unfold tfs; simp [c2]
        rw [if_neg c2, if_pos t]
    · rw [if_neg (fun q => c1 ((nI_eq (by omega) (by omega)).mp q)), hla, if_neg c1]
      exact ih N (by omega) (by omega)
def ltk (now : Nat → Int32) (fr : Nat) (o : Option Nat) : Int32 := match o with
  | none => -1
  | some j => now (27 + (fr + j))
theorem tf_l {b s fr to : Nat} (hR : rep kinds ticks drums marks count values there counts hits now) (hW : wf now) (hb : 0 < b) (hb2 : b < 32) (hs : s < 3) (hto : to < nn now) (hfr : fr ≤ to) (h1 : now 1 = nI b) : ∀ (e d c N N2 : Nat) (lt : Nat → Int32), fr + d + e = to + 1 → e < N → e < N2 → (∀ r, r < 5 → lt r = ltk now fr (la (own b s) r d)) → ∃ C lt2, C ≤ c + e ∧ f_Basses_tooFast_29 ticks values (nI b) N (nI fr) (nI to) (nI s) (nI c) (nI (fr + d)) lt = some (nI C, lt2) ∧ f_Model_tooFast_6 now N2 (nI fr) (nI to) (nI s) (nI c) (nI (fr + d)) = some (nI C) := by
  have hn := (wf_n hW).1
  intro e
  induction e with
  | zero =>
    intro d c N N2 lt g1 g2 g3 g4
    obtain ⟨N, rfl⟩ : ∃ m, N = m + 1 := ⟨N - 1, by omega⟩
    obtain ⟨N2, rfl⟩ : ∃ m, N2 = m + 1 := ⟨N2 - 1, by omega⟩
    refine ⟨c, lt, by omega, ?_, ?_⟩
    · show f_Basses_tooFast_29_b ticks values (nI b) (f_Basses_tooFast_29 ticks values (nI b) N) (nI fr) (nI to) (nI s) (nI c) (nI (fr + d)) lt = _
      unfold f_Basses_tooFast_29_b
      rw [if_pos (nI_lt (by omega) (by omega))]
    · show f_Model_tooFast_6_b now (f_Model_tooFast_6 now N2) (nI fr) (nI to) (nI s) (nI c) (nI (fr + d)) = _
      unfold f_Model_tooFast_6_b
      rw [if_pos (nI_lt (by omega) (by omega))]
  | succ e ih =>
    intro d c N N2 lt g1 g2 g3 g4
    obtain ⟨N, rfl⟩ : ∃ m, N = m + 1 := ⟨N - 1, by omega⟩
    obtain ⟨N2, rfl⟩ : ∃ m, N2 = m + 1 := ⟨N2 - 1, by omega⟩
    obtain ⟨o1, o2, o3⟩ := own_e (now := now) hb hb2 hs (show d < 20 by omega) h1
    have e1 : nI (fr + d) - nI fr = nI d := by rw [sub_n (by omega)]; congr 1; omega
    have em : nI (fr + d) - 1 = dn (fr + d) := by
      unfold dn
      rw [← zI_nI]
      show zI (fr + d : Nat) - zI 1 = _
      rw [zI_sub]
    have u1 : f_Basses_tooFast_29 ticks values (nI b) (N + 1) (nI fr) (nI to) (nI s) (nI c) (nI (fr + d)) lt = f_Basses_tooFast_29_b ticks values (nI b) (f_Basses_tooFast_29 ticks values (nI b) N) (nI fr) (nI to) (nI s) (nI c) (nI (fr + d)) lt := rfl
    have u2 : f_Model_tooFast_6 now (N2 + 1) (nI fr) (nI to) (nI s) (nI c) (nI (fr + d)) = f_Model_tooFast_6_b now (f_Model_tooFast_6 now N2) (nI fr) (nI to) (nI s) (nI c) (nI (fr + d)) := rfl
    have hbk := bk_e (now := now) hb hb2 hs (show to < 20 by omega) h1 (f_Model_tooFast_6 now N2) o1 (c := c) (show fr + d ≤ to by omega) d fu (Nat.le_refl d) (by unfold fu; omega)
    rw [u1, u2]
    unfold f_Basses_tooFast_29_b f_Model_tooFast_6_b f_Basses_tooFast_95
    rw [if_neg (nI_nlt (by omega) (by omega)), if_neg (nI_nlt (by omega) (by omega)), e1, o2, o3, b1_e, b1_e, em, nm_e1 (dn (fr + d)), hbk]
    have et : ticks (fr + d) = now (27 + (fr + d)) := (hR.2.2.2.1 (fr + d) (by omega)).2.1
    have ev : values 0 = now 2 := hR.2.2.1 0 (by omega)
    simp only [rd_n (n := 20) (j := fr + d) (by omega) (by omega), rd_n (n := 5) (j := own b s d) (by omega) (by omega), rd_l (n := 5) (i := 0) 0 rfl (by omega) (by omega), ck_n (n := 5) (j := own b s d) (by omega) (by omega), cl_n (show own b s d < 2147483648 by omega), nm_e1, nI_1, et, ev, g4 (own b s d) o1]
    have hinv : ∀ r, r < 5 → upd lt (own b s d) (now (27 + (fr + d))) r = ltk now fr (la (own b s) r (d + 1)) := by
      intro r hr
      have hla : la (own b s) r (d + 1) = if own b s d = r then some d else la (own b s) r d := rfl
      rw [upd_d, hla]
      by_cases cc : r = own b s d
      · rw [if_pos cc, if_pos cc.symm]; rfl
      · rw [if_neg cc, if_neg (fun q => cc q.symm)]; exact g4 r hr
    have go : ∀ c2 : Nat, c2 ≤ c + 1 → ∃ C lt2, C ≤ c + (e + 1) ∧ f_Basses_tooFast_29 ticks values (nI b) N (nI fr) (nI to) (nI s) (nI c2) (nI (fr + d + 1)) (upd lt (own b s d) (now (27 + (fr + d)))) = some (nI C, lt2) ∧ f_Model_tooFast_6 now N2 (nI fr) (nI to) (nI s) (nI c2) (nI (fr + d + 1)) = some (nI C) := by
      intro c2 hc2
      obtain ⟨C, lt2, q1, q2, q3⟩ := ih (d + 1) c2 N N2 _ (by omega) (by omega) (by omega) hinv
      exact ⟨C, lt2, by omega, q2, q3⟩
    generalize hL : la (own b s) (own b s d) d = L
    cases L with
    | none =>
      show ∃ C lt2, C ≤ c + (e + 1) ∧ (if (-1 : Int32) = -1 then _ else _) = _ ∧ f_Model_tooFast_6 now N2 (nI fr) (nI to) (nI s) (nI (c + if false = true then 1 else 0)) _ = _
      rw [if_pos rfl]
      exact go c (by omega)
    | some j =>
      have hj := la_lt _ _ _ _ hL
      have tk := (hW.2.2.2.1 (fr + j) (by omega)).2.1
      have nne : ¬ ltk now fr (some j) = -1 := by
        show ¬ now (27 + (fr + j)) = -1
        intro q
        rw [q] at tk
        exact absurd tk.1 (by decide)
      rw [if_neg nne]
      by_cases c2 : (2 * now 2) ≤ (now (27 + (fr + d)) - now (27 + (fr + j)))
      · have t : ¬ tfs now (now 2) fr (fr + d) (some j) = true := by unfold tfs; simp [c2]
        rw [if_pos (show (2 * now 2) ≤ (now (27 + (fr + d)) - ltk now fr (some j)) from c2), if_neg t]
        exact go c (by omega)
      · have t : tfs now (now 2) fr (fr + d) (some j) = true := by unfold tfs; simp [c2]
        rw [if_neg (show ¬ (2 * now 2) ≤ (now (27 + (fr + d)) - ltk now fr (some j)) from c2), if_pos t]
        exact go (c + 1) (by omega)
theorem tf_0 {ticks values : Nat → Int32} {t fr to s : Int32} : ∀ (e i N : Nat) (lt : Nat → Int32), i + e = 5 → e < N → (∀ r, r < i → lt r = -1) → ∃ lt2, (∀ r, r < 5 → lt2 r = -1) ∧ f_Basses_tooFast_3 ticks values t N fr to s (nI i) lt = f_Basses_tooFast_29 ticks values t fu fr to s 0 fr lt2 := by
  intro e
  induction e with
  | zero =>
    intro i N lt g1 g2 g3
    obtain ⟨N, rfl⟩ : ∃ m, N = m + 1 := ⟨N - 1, by omega⟩
    obtain rfl : i = 5 := by omega
    refine ⟨lt, g3, ?_⟩
    show f_Basses_tooFast_3_b ticks values t (f_Basses_tooFast_3 ticks values t N) fr to s (nI 5) lt = _
    unfold f_Basses_tooFast_3_b
    rw [if_pos (show (5 : Int32) ≤ nI 5 by decide)]
  | succ e ih =>
    intro i N lt g1 g2 g3
    obtain ⟨N, rfl⟩ : ∃ m, N = m + 1 := ⟨N - 1, by omega⟩
    obtain ⟨lt2, q1, q2⟩ := ih (i + 1) N (upd lt i (-1)) (by omega) (by omega) (fun r hr => by
      rw [upd_d]
      by_cases c : r = i
      · rw [if_pos c]
      · rw [if_neg c]; exact g3 r (by omega))
    refine ⟨lt2, q1, ?_⟩
    show f_Basses_tooFast_3_b ticks values t (f_Basses_tooFast_3 ticks values t N) fr to s (nI i) lt = _
    unfold f_Basses_tooFast_3_b
    rw [if_neg (show ¬ (5 : Int32) ≤ nI i from nI_ge (b := 5) (by omega) (by omega)), ck_n (by omega) (by omega), cl_n (by omega), nm_e1, nI_1, q2]
theorem tf_e {b s fr to : Nat} (hR : rep kinds ticks drums marks count values there counts hits now) (hW : wf now) (hb : 0 < b) (hb2 : b < 32) (hs : s < 3) (hto : to < nn now) (hfr : fr ≤ to) (h1 : now 1 = nI b) : ∃ C, C ≤ 20 ∧ f_Model_tooFast now (nI fr) (nI to) (nI s) = some (nI C) ∧ ∀ lt, ∃ lt2, f_Basses_tooFast ticks values (nI b) lt (nI fr) (nI to) (nI s) = some (nI C, lt2) := by
  have hn := (wf_n hW).1
  obtain ⟨C, lt2, q1, q2, q3⟩ := tf_l hR hW hb hb2 hs hto hfr h1 (to + 1 - fr) 0 0 fu fu (fun _ => -1) (by omega) (by unfold fu; omega) (by unfold fu; omega) (fun r _ => rfl)
  refine ⟨C, by omega, q3, fun lt => ?_⟩
  obtain ⟨lt3, z1, z2⟩ := tf_0 (ticks := ticks) (values := values) (t := nI b) (fr := nI fr) (to := nI to) (s := nI s) 5 0 fu lt (by omega) (by unfold fu; omega) (fun r hr => by omega)
  obtain ⟨C2, lt4, q4, q5, q6⟩ := tf_l hR hW hb hb2 hs hto hfr h1 (to + 1 - fr) 0 0 fu fu lt3 (by omega) (by unfold fu; omega) (by unfold fu; omega) (fun r hr => z1 r hr)
  have ee : nI C2 = nI C := Option.some.inj (q6.symm.trans q3)
  have z2' : f_Basses_tooFast ticks values (nI b) lt (nI fr) (nI to) (nI s) = _ := z2
  have q5' : f_Basses_tooFast_29 ticks values (nI b) fu (nI fr) (nI to) (nI s) 0 (nI fr) lt3 = _ := q5
  rw [ee] at q5'
  exact ⟨lt4, z2'.trans q5'⟩
theorem op_fast (hR : rep kinds ticks drums marks count values there counts hits now) (hW : wf now) (x p1 p2 p3 : Int32) (lt : Nat → Int32) : ∃ r y lt2, f_Room_fast x ticks count values there lt p1 p2 p3 = some (r, y, lt2) ∧ f_Model_fast now x p1 p2 p3 = some (r, y) := by
  obtain ⟨hn, h0⟩ := wf_n hW
  have ec : count = nI (nn now) := hR.1.trans h0
  obtain ⟨b, eb, b1', b2', b3'⟩ := inat hW.2.1 (by omega)
  have et : there = nI b := hR.2.1.trans eb
  unfold f_Room_fast f_Model_fast
  rw [ec, et, run_c hn, run_m hn h0, isB (p := p3) (q := 3) (z := 3) rfl]
  by_cases c1 : (0 ≤ p1.toInt ∧ p1.toInt < (nn now : Int)) ∧ (0 ≤ p2.toInt ∧ p2.toInt < (nn now : Int)) ∧ p1.toInt ≤ p2.toInt
  · by_cases c2 : 0 ≤ p3.toInt ∧ p3.toInt < 3
    · simp only [if_pos c1, if_pos c2, if_pos (show ((0 ≤ p1.toInt ∧ p1.toInt < (nn now : Int)) ∧ (0 ≤ p2.toInt ∧ p2.toInt < (nn now : Int)) ∧ p1.toInt ≤ p2.toInt) ∧ 0 ≤ p3.toInt ∧ p3.toInt < 3 from ⟨c1, c2⟩), b1_e, i10, rd_l (n := 187) (i := 1) 1 rfl (by omega) (by omega), eb]
      by_cases c4 : nI b = 0
      · simp only [if_pos c4, rfd, mfd, b2_e]
        exact ⟨_, _, _, rfl, rfl⟩
      · have hb0 : 0 < b := by
          rcases Nat.eq_zero_or_pos b with z | z
          · exact absurd (by rw [z]; rfl) c4
          · exact z
        obtain ⟨i, hi, rfl⟩ := at_n c1.1
        obtain ⟨j, hj, rfl⟩ := at_n c1.2.1
        obtain ⟨s, hs, rfl⟩ := at_n (n := 3) c2
        have q1 : (nI i).toInt = (i : Int) := ito (by omega)
        have q2 : (nI j).toInt = (j : Int) := ito (by omega)
        obtain ⟨C, hC, g1, g2⟩ := tf_e hR hW hb0 (show b < 32 by omega) hs hj (show i ≤ j by omega) eb
        obtain ⟨lt2, g3⟩ := g2 lt
        rw [if_neg c4, if_neg c4, g1, g3]
        exact ⟨_, _, _, rfl, rfl⟩
    · simp only [if_pos c1, if_neg c2, if_neg (show ¬ (((0 ≤ p1.toInt ∧ p1.toInt < (nn now : Int)) ∧ (0 ≤ p2.toInt ∧ p2.toInt < (nn now : Int)) ∧ p1.toInt ≤ p2.toInt) ∧ 0 ≤ p3.toInt ∧ p3.toInt < 3) from fun h => c2 h.2), b1_e, i10, i00, rfd, mfd, b2_e]
      exact ⟨_, _, _, rfl, rfl⟩
  · simp only [if_neg c1, if_neg (show ¬ (((0 ≤ p1.toInt ∧ p1.toInt < (nn now : Int)) ∧ (0 ≤ p2.toInt ∧ p2.toInt < (nn now : Int)) ∧ p1.toInt ≤ p2.toInt) ∧ 0 ≤ p3.toInt ∧ p3.toInt < 3) from fun h => c1 h.1), b1_e, i00, rfd, mfd, b2_e]
    exact ⟨_, _, _, rfl, rfl⟩
theorem shp_l {b fr to : Nat} (hR : rep kinds ticks drums marks count values there counts hits now) (hW : wf now) (hb : 0 < b) (hb2 : b < 32) (hto : to < nn now) (hfr : fr ≤ to) (h1 : now 1 = nI b) (x : Int32) : ∀ (e s best least N N2 : Nat) (lt : Nat → Int32), s + e = 3 → best < 3 → e < N → e < N2 → f_Model_tooFast now (nI fr) (nI to) (nI best) = some (nI least) → least ≤ 20 → ∃ r lt2, f_Basses_slowestShape_14 ticks values (nI b) N (nI fr) (nI to) (nI best) (nI least) (nI s) lt = some (r, lt2) ∧ f_Model_shape_38 now N2 (nI fr) (nI to) (nI best) (nI s) x = some (r, x) := by
  intro e
  induction e with
  | zero =>
    intro s best least N N2 lt g1 g2 g3 g4 g5 g6
    obtain ⟨N, rfl⟩ : ∃ m, N = m + 1 := ⟨N - 1, by omega⟩
    obtain ⟨N2, rfl⟩ : ∃ m, N2 = m + 1 := ⟨N2 - 1, by omega⟩
    obtain rfl : s = 3 := by omega
    exact ⟨nI best, lt, rfl, rfl⟩
  | succ e ih =>
    intro s best least N N2 lt g1 g2 g3 g4 g5 g6
    obtain ⟨N, rfl⟩ : ∃ m, N = m + 1 := ⟨N - 1, by omega⟩
    obtain ⟨N2, rfl⟩ : ∃ m, N2 = m + 1 := ⟨N2 - 1, by omega⟩
    obtain ⟨C, hC, q1, q2⟩ := tf_e hR hW hb hb2 (show s < 3 by omega) hto hfr h1
    obtain ⟨lt2, q3⟩ := q2 lt
    have u1 : f_Basses_slowestShape_14 ticks values (nI b) (N + 1) (nI fr) (nI to) (nI best) (nI least) (nI s) lt = f_Basses_slowestShape_14_b ticks values (nI b) (f_Basses_slowestShape_14 ticks values (nI b) N) (nI fr) (nI to) (nI best) (nI least) (nI s) lt := rfl
    have u2 : f_Model_shape_38 now (N2 + 1) (nI fr) (nI to) (nI best) (nI s) x = f_Model_shape_38_b now (f_Model_shape_38 now N2) (nI fr) (nI to) (nI best) (nI s) x := rfl
    rw [u1, u2]
    unfold f_Basses_slowestShape_14_b f_Model_shape_38_b
    have n3 : ¬ (3 : Int32) ≤ nI s := nI_ge (b := 3) (by omega) (by omega)
    rw [if_neg n3, if_neg n3, q1, q3, g5]
    simp only [b2_e, b1_e, nm_e1, nI_1]
    by_cases c : nI least ≤ nI C
    · rw [if_pos c, if_pos c]
      exact ih (s + 1) best least N N2 lt2 (by omega) g2 (by omega) (by omega) g5 g6
    · rw [if_neg c, if_neg c]
      exact ih (s + 1) s C N N2 lt2 (by omega) (by omega) (by omega) (by omega) q1 hC
theorem op_shape (hR : rep kinds ticks drums marks count values there counts hits now) (hW : wf now) (x p1 p2 : Int32) (lt : Nat → Int32) : ∃ r y lt2, f_Room_shape x ticks count values there lt p1 p2 = some (r, y, lt2) ∧ f_Model_shape now x p1 p2 = some (r, y) := by
  obtain ⟨hn, h0⟩ := wf_n hW
  have ec : count = nI (nn now) := hR.1.trans h0
  obtain ⟨b, eb, b1', b2', b3'⟩ := inat hW.2.1 (by omega)
  have et : there = nI b := hR.2.1.trans eb
  unfold f_Room_shape f_Model_shape
  rw [ec, et, run_c hn, run_m hn h0]
  have z0 : 0 ≤ (0 : Int32).toInt ∧ (0 : Int32).toInt < 3 := by decide
  by_cases c1 : (0 ≤ p1.toInt ∧ p1.toInt < (nn now : Int)) ∧ (0 ≤ p2.toInt ∧ p2.toInt < (nn now : Int)) ∧ p1.toInt ≤ p2.toInt
  · rw [if_pos c1, if_pos (show ((0 ≤ p1.toInt ∧ p1.toInt < (nn now : Int)) ∧ (0 ≤ p2.toInt ∧ p2.toInt < (nn now : Int)) ∧ p1.toInt ≤ p2.toInt) ∧ 0 ≤ (0 : Int32).toInt ∧ (0 : Int32).toInt < 3 from ⟨c1, z0⟩)]
    simp only [b1_e, i10, rd_l (n := 187) (i := 1) 1 rfl (by omega) (by omega), eb]
    by_cases c4 : nI b = 0
    · simp only [if_pos c4, rfd, mfd, b2_e]
      exact ⟨_, _, _, rfl, rfl⟩
    · have hb0 : 0 < b := by
        rcases Nat.eq_zero_or_pos b with z | z
        · exact absurd (by rw [z]; rfl) c4
        · exact z
      obtain ⟨i, hi, rfl⟩ := at_n c1.1
      obtain ⟨j, hj, rfl⟩ := at_n c1.2.1
      have q1 : (nI i).toInt = (i : Int) := ito (by omega)
      have q2 : (nI j).toInt = (j : Int) := ito (by omega)
      obtain ⟨C, hC, g1, g2⟩ := tf_e (s := 0) hR hW hb0 (show b < 32 by omega) (by omega) hj (show i ≤ j by omega) eb
      obtain ⟨lt2, g3⟩ := g2 lt
      obtain ⟨r, lt3, g4, g5⟩ := shp_l hR hW hb0 (show b < 32 by omega) hj (show i ≤ j by omega) eb x 2 1 0 C fu fu lt2 (by omega) (by omega) (by unfold fu; omega) (by unfold fu; omega) g1 hC
      have g3' : f_Basses_tooFast ticks values (nI b) lt (nI i) (nI j) 0 = some (nI C, lt2) := g3
      have g4' : f_Basses_slowestShape_14 ticks values (nI b) fu (nI i) (nI j) 0 (nI C) 1 lt2 = some (r, lt3) := g4
      have g5' : f_Model_shape_38 now fu (nI i) (nI j) 0 1 x = some (r, x) := g5
      unfold f_Basses_slowestShape
      rw [if_neg c4, if_neg c4, g3', b2_e, g4', g5', b2_e]
      exact ⟨_, _, _, rfl, rfl⟩
  · rw [if_neg c1, if_neg (show ¬ (((0 ≤ p1.toInt ∧ p1.toInt < (nn now : Int)) ∧ (0 ≤ p2.toInt ∧ p2.toInt < (nn now : Int)) ∧ p1.toInt ≤ p2.toInt) ∧ 0 ≤ (0 : Int32).toInt ∧ (0 : Int32).toInt < 3) from fun h => c1 h.1)]
    simp only [b1_e, i00, rfd, mfd, b2_e]
    exact ⟨_, _, _, rfl, rfl⟩
end BASS2
