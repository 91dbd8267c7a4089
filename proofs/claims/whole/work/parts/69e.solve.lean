section SOLVE
variable {kinds ticks drums marks values counts hits now sT sH : Nat → Int32} {count there : Int32}
theorem div_n {a d : Nat} (ha : a < 2147483648) (hd : 0 < d) (hd2 : d < 2147483648) : nI a / nI d = nI (a / d) := pk_div ha hd hd2
theorem dec_c {k : Nat} (hk : k < 410) : f_End_handOf (nI k) = some (nI (dec k).1) ∧ f_End_otherStrokeOf (nI k) = some (nI (dec k).2.1) ∧ f_End_crossesOf (nI k) = some (nI (dec k).2.2) := by
  have e1 : nI k / 5 = nI (k / 5) := div_n (d := 5) (by omega) (by omega) (by omega)
  have e2 : nI (k / 5) / 41 = nI (k / 5 / 41) := div_n (d := 41) (by omega) (by omega) (by omega)
  have e3 : jrem (nI (k / 5)) 41 = nI (k / 5 % 41) := jrem_n (b := 41) (by omega) (by omega) (by omega)
  have e4 : jrem (nI k) 5 = nI (k % 5) := jrem_n (b := 5) (by omega) (by omega) (by omega)
  refine ⟨?_, ?_, ?_⟩
  · unfold f_End_handOf
    rw [e1, nm_e1, e2, nm_e1]
    rfl
  · unfold f_End_otherStrokeOf
    rw [e1, nm_e1, e3, nm_e1]
    rfl
  · unfold f_End_crossesOf
    rw [e4, nm_e1]
    rfl
theorem ko_c (h o c : Nat) : f_End_keyOf (nI h) (nI o) (nI c) = some (nI (enc (h, o, c))) := by
  unfold f_End_keyOf
  show some ((((nI h * nI 41) + nI o) * nI 5) + nI c) = _
  rw [mul_n, add_n, mul_n, add_n]
  rfl
/-- the arms after a stroke -/
theorem arm_c {k h : Nat} {st : sT3N} (hh : h < 2) (hs : st.1 < 2) : (if h = 0 then 2 * k + 1 else othN now k (aL k st)) = (if h = 0 then 2 * k + 1 else othN now k (otN k st h)) ∧ (if h = 0 then othN now k (aR k st) else 2 * k + 1) = (if h = 0 then othN now k (otN k st h) else 2 * k + 1) ∧ crL now (if h = 0 then 2 * k + 1 else othN now k (otN k st h)) (if h = 0 then othN now k (otN k st h) else 2 * k + 1) = crsB now k h (othN now k (otN k st h)) := by
  have e := (ow_a (k := k) hh hs).2
  rcases (show h = 0 ∨ h = 1 by omega) with q | q <;> subst q
  · rw [if_pos rfl] at e
    rw [e]
    exact ⟨rfl, rfl, crL_0 now k _⟩
  · rw [if_neg (by omega)] at e
    rw [e]
    exact ⟨rfl, rfl, crL_1 now k _⟩
theorem ext_c (h : lin kinds ticks drums marks sT sH values now) {k hh key : Nat} (hk : k < nn now) (h2 : hh < 2) (hky : key < 410) (hs : vS k (dec key)) {v : v3} {pA fA wA : Nat → Int32} (hA : cel (pA key) (fA key) (wA key) (some v)) (hv1 : v.1 ≤ 9 * k) (hv2 : v.2.1 < 2 ^ k) {kB pB fB wB : Nat → Int32} {sB : Int32} {acc : List eT} (hB : eR kB pB fB wB sB acc) (hw2 : v.2.2 ≤ 2097152) (hWt : Wt acc ≤ 2097152) (l r : Int32) : ∃ l2 r2 kB2 pB2 fB2 wB2 sB2, f_Hands_extend l r pA fA wA kB pB fB wB sB kinds ticks drums marks sT sH values (nI k) (nI key) (nI hh) = some (l2, r2, kB2, pB2, fB2, wB2, sB2) ∧ eR kB2 pB2 fB2 wB2 sB2 (one now k (dec key) v hh acc) := by
  have hW := h.1
  have hn := (wf_n hW).1
  obtain ⟨hc1, hc2⟩ := cr_e hW
  obtain ⟨a1, a2, a3, a4, a5, a6⟩ := hA
  obtain ⟨d1, d2, d3⟩ := dec_c hky
  generalize dec key = st at d1 d2 d3 hs ⊢
  obtain ⟨b1', b2'⟩ := a_b hs
  obtain ⟨o1, o2⟩ := ow_a (k := k) h2 hs.1
  have ob := (ot_b (h := hh) hs).2
  have ob2 := oth_b (x := now) ob
  obtain ⟨m1, m2, m3⟩ := arm_c (now := now) (k := k) h2 hs.1
  have hp20 : 2 ^ k ≤ 2 ^ 19 := Nat.pow_le_pow_right (by decide) (by omega)
  have h219 : (2 : Nat) ^ 19 = 524288 := by decide
  have h20 : ∀ z : Int32, z = nI (mineN k) → ∃ l2 r2 kB2 pB2 fB2 wB2 sB2, f_Hands_extend_20 pA fA wA kinds ticks drums marks sT sH values (nI k) (nI key) (nI hh) (nI st.1) z l r kB pB fB wB sB = some (l2, r2, kB2, pB2, fB2, wB2, sB2) ∧ eR kB2 pB2 fB2 wB2 sB2 (one now k st v hh acc) := by
    intro z hz
    unfold f_Hands_extend_20
    have hst := st_c h (L := aL k st) (R := aR k st) hk h2 (vst_b b1' (by omega)) (vst_b b2' (by omega))
    rw [← o1, ← o2, m1, m2] at hst
    rw [hz, d2, b1_e, hd_c hs.1, b2_e]
    show ∃ l2 r2 kB2 pB2 fB2 wB2 sB2, b3 (f_Arms_strike (nI (aL k st)) (nI (aR k st)) kinds ticks marks sT sH values (nI k) (nI hh)) _ = _ ∧ _
    rw [hst]
    unfold one
    rw [trN_e]
    by_cases c1 : canB now k hh (owN k st hh) (otN k st hh) = true
    · rw [if_pos c1, if_pos c1, b3_e, if_neg (by decide), d3, b1_e]
      generalize hL : (if hh = 0 then 2 * k + 1 else othN now k (otN k st hh)) = L at m3 ⊢
      generalize hR : (if hh = 0 then othN now k (otN k st hh) else 2 * k + 1) = R at m3 ⊢
      have vL : vst (nn now) L := by
        refine vst_b (k := k + 1) ?_ (by omega)
        rw [← hL]
        split <;> omega
      have vR : vst (nn now) R := by
        refine vst_b (k := k + 1) ?_ (by omega)
        rw [← hR]
        split <;> omega
      have hcr := cr_c h vL vR
      have haw := aw_c h (k := k) (hh := hh) vL vR hk h2 (a := nI st.1) (same := decide (k ≠ 0 ∧ hh = st.1)) (by
        have hs1 := hs.1
        rw [decide_eq_true_iff, eq_i (by omega) (by omega)])
      have hso := (so_c (L := L) (R := R) h2).2
      have hso2 : (if hh = 0 then R else L) = othN now k (otN k st hh) := by
        rw [← hL, ← hR]
        by_cases c : hh = 0
        · rw [if_pos c, if_pos c]
        · rw [if_neg c, if_neg c]
      rw [hso2] at hso
      rw [m3] at hcr haw
      rw [hcr, b1_e, b2i_t]
      have hab := awk_b now k hh (decide (k ≠ 0 ∧ hh = st.1)) (crsB now k hh (othN now k (otN k st hh)))
      have h69 : ∀ m : Nat, m ≤ 1 → ∃ l2 r2 kB2 pB2 fB2 wB2 sB2, f_Hands_extend_69 pA fA wA kinds ticks drums marks sT sH values (nI k) (nI key) (nI hh) (nI st.1) (nI st.2.2) (nI m) (nI L) (nI R) kB pB fB wB sB = some (l2, r2, kB2, pB2, fB2, wB2, sB2) ∧ eR kB2 pB2 fB2 wB2 sB2 (match (if st.2.2 + m ≤ crN now then some (((hh, othN now k (otN k st hh), st.2.2 + m) : sT3N), awkN now k hh (decide (k ≠ 0 ∧ hh = st.1)) (crsB now k hh (othN now k (otN k st hh)))) else none) with
          | none => acc
          | some p => off acc (enc p.1) (v.1 + p.2, 2 * v.2.1 + hh, v.2.2)) := by
        intro m hm
        have hs4 := hs.2.2.1
        unfold f_Hands_extend_69
        have hv2e : values 2 = nI (crN now) := by
          rw [h.2.2.2 2 (by omega)]
          exact hc2
        rw [add_n, nm_e1, rd_l (i := 2) 2 rfl (by omega) (by omega), hv2e]
        by_cases c : st.2.2 + m ≤ crN now
        · rw [if_pos ((le_i (by omega) (by omega)).mpr c), if_pos c, rd_n hky (by omega), a1, haw, b1_e, add_n, nm_e1, hso, b1_e, ko_c, b1_e, rd_n hky (by omega), rd_n hky (by omega), a2, a3]
          have ef : (nI v.2.1 * 2) + nI hh = nI (2 * v.2.1 + hh) := by
            show nI v.2.1 * nI 2 + nI hh = _
            rw [mul_n, add_n, Nat.mul_comm]
          rw [ef]
          have hvv : vS (k + 1) (hh, othN now k (otN k st hh), st.2.2 + m) := ⟨h2, ob2, Nat.le_trans c hc1, fun q => by omega⟩
          obtain ⟨-, hkb⟩ := dec_e hvv (by omega)
          obtain ⟨kB2, pB2, fB2, wB2, sB2, i1, i2⟩ := off_c hB (k := enc (hh, othN now k (otN k st hh), st.2.2 + m)) (p := v.1 + awkN now k hh (decide (k ≠ 0 ∧ hh = st.1)) (crsB now k hh (othN now k (otN k st hh)))) (f := 2 * v.2.1 + hh) (w := v.2.2) hkb (by omega) (by omega) a6 hw2 hWt
          rw [i1, b5_e]
          exact ⟨_, _, kB2, pB2, fB2, wB2, sB2, rfl, i2⟩
        · rw [if_neg (fun q => c ((le_i (by omega) (by omega)).mp q)), if_neg c]
          exact ⟨_, _, kB, pB, fB, wB, sB, rfl, hB⟩
      cases hcb : crsB now k hh (othN now k (otN k st hh)) with
      | true =>
        rw [hcb] at h69
        rw [if_pos rfl]
        exact h69 1 (by omega)
      | false =>
        rw [hcb] at h69
        rw [if_neg (by decide)]
        exact h69 0 (by omega)
    · rw [if_neg c1, if_neg c1, b3_e, if_pos rfl]
      exact ⟨_, _, kB, pB, fB, wB, sB, rfl, hB⟩
  unfold f_Hands_extend
  rw [d1, b1_e]
  by_cases c : k = 0
  · rw [if_pos (show nI k = 0 by rw [c]; rfl)]
    exact h20 0 (by rw [c]; rfl)
  · have e1 : nI k - 1 = nI (k - 1) := sub_n (b := 1) (by omega)
    rw [if_neg (show ¬ nI k = 0 from nI_ne0 (by omega) (by omega)), e1, mn_c, b1_e]
    refine h20 _ ?_
    congr 1
    unfold mineN
    rw [if_neg c]
    omega
/-- all ends of one note -/
theorem sv50 (h : lin kinds ticks drums marks sT sH values now) {k : Nat} (hk : k < nn now) {kA pA fA wA : Nat → Int32} {sA : Int32} {E : List eT} (hA : eR kA pA fA wA sA E) (hE : vE k E) {lp be bw sa : Int32} (K30 : Int32 → Int32 → Int32 → Int32 → Int32 → Int32 → Int32 → (Nat → Int32) → (Nat → Int32) → (Nat → Int32) → (Nat → Int32) → Int32 → (Nat → Int32) → (Nat → Int32) → (Nat → Int32) → (Nat → Int32) → Int32 → Option (Int32 × Int32 × Int32 × Int32 × Int32 × Int32 × (Nat → Int32) × (Nat → Int32) × (Nat → Int32) × (Nat → Int32) × Int32 × (Nat → Int32) × (Nat → Int32) × (Nat → Int32) × (Nat → Int32) × Int32)) : ∀ (t : List eT) (i N : Nat) (l r : Int32) (kB pB fB wB : Nat → Int32) (sB : Int32) (acc : List eT), E.drop i = t → i ≤ E.length → t.length < N → eR kB pB fB wB sB acc → vE (k + 1) acc → Wt acc + 2 * Wt t ≤ 2097152 → ∃ l2 r2 kB2 pB2 fB2 wB2 sB2, eR kB2 pB2 fB2 wB2 sB2 (ext now k t acc) ∧ f_Hands_solve_50 kinds ticks drums marks sT sH (nI (nn now)) values K30 N (nI k) (nI i) lp be bw sa l r kA pA fA wA sA kB pB fB wB sB = (if sB2 = 0 then some (lp, be, bw, nI k, l2, r2, kA, pA, fA, wA, sA, kB2, pB2, fB2, wB2, sB2) else K30 (nI (k + 1)) lp be bw sa l2 r2 kB2 pB2 fB2 wB2 sB2 kA pA fA wA sA) := by
  have hn := (wf_n h.1).1
  have hlen := eR_len hA
  intro t
  induction t with
  | nil =>
    intro i N l r kB pB fB wB sB acc ht hi2 hN hB hv hWt
    obtain ⟨N, rfl⟩ : ∃ m, N = m + 1 := ⟨N - 1, by omega⟩
    refine ⟨l, r, kB, pB, fB, wB, sB, hB, ?_⟩
    show f_Hands_solve_50_b kinds ticks drums marks sT sH (nI (nn now)) values K30 (f_Hands_solve_50 kinds ticks drums marks sT sH (nI (nn now)) values K30 N) _ _ _ _ _ _ _ _ _ _ _ _ _ _ _ _ _ _ = _
    unfold f_Hands_solve_50_b
    have hi : E.length ≤ i := List.drop_eq_nil_iff.mp ht
    rw [if_pos (show sA ≤ nI i by rw [hA.1]; exact (le_i (by omega) (by omega)).mpr hi), nm_e1, nI_1]
  | cons e t ih =>
    intro i N l r kB pB fB wB sB acc ht hi2 hN hB hv hWt
    obtain ⟨N, rfl⟩ : ∃ m, N = m + 1 := ⟨N - 1, by omega⟩
    have hge : E[i]? = some e := by
      have := List.getElem?_drop (xs := E) (i := i) (j := 0)
      rw [ht, Nat.add_zero] at this
      exact this.symm
    have hi : i < E.length := by
      by_cases c : i < E.length
      · exact c
      · rw [List.getElem?_eq_none (by omega)] at hge
        cases hge
    have hmem : e ∈ E := List.mem_of_getElem? hge
    have hkg : (ks E)[i]? = some e.1 := by
      unfold ks
      rw [List.getElem?_map, hge]
      rfl
    obtain ⟨hk1, hk2⟩ := hA.2.2.1 i e.1 hkg
    have hcel := hA.2.2.2 e.1 hk2
    rw [lk_m hA.2.1 hmem] at hcel
    obtain ⟨-, v1, v2, v3'⟩ := hE e hmem
    obtain ⟨dv, -⟩ := vE_d (by omega) hE hmem
    have hWt' : Wt acc + 2 * (e.2.2.2 + Wt t) ≤ 2097152 := hWt
    obtain ⟨la, ra, kB1, pB1, fB1, wB1, sB1, x1, x2⟩ := ext_c h hk (hh := 0) (by omega) hk2 dv hcel v1 v2 hB (by omega) (by omega) l r
    obtain ⟨y1, y2⟩ := one_v h.1 (h := 0) (by omega) dv v1 v2 v3' hv
    obtain ⟨lb, rb, kB3, pB3, fB3, wB3, sB3, z1, z2⟩ := ext_c h hk (hh := 1) (by omega) hk2 dv hcel v1 v2 x2 (by omega) (by omega) la ra
    obtain ⟨u1, u2⟩ := one_v h.1 (h := 1) (by omega) dv v1 v2 v3' y1
    have htl : E.drop (i + 1) = t := by
      have := List.drop_drop (i := 1) (j := i) (l := E)
      rw [ht] at this
      rw [← this]
      rfl
    obtain ⟨l2, r2, kB4, pB4, fB4, wB4, sB4, j1, j2⟩ := ih (i + 1) N lb rb kB3 pB3 fB3 wB3 sB3 _ htl (by omega) (by have : (e :: t).length = t.length + 1 := rfl; omega) z2 u1 (by omega)
    refine ⟨l2, r2, kB4, pB4, fB4, wB4, sB4, j1, ?_⟩
    rw [← j2]
    show f_Hands_solve_50_b kinds ticks drums marks sT sH (nI (nn now)) values K30 (f_Hands_solve_50 kinds ticks drums marks sT sH (nI (nn now)) values K30 N) _ _ _ _ _ _ _ _ _ _ _ _ _ _ _ _ _ _ = _
    unfold f_Hands_solve_50_b
    have x1' : f_Hands_extend l r pA fA wA kB pB fB wB sB kinds ticks drums marks sT sH values (nI k) (nI e.1) 0 = _ := x1
    have z1' : f_Hands_extend la ra pA fA wA kB1 pB1 fB1 wB1 sB1 kinds ticks drums marks sT sH values (nI k) (nI e.1) 1 = _ := z1
    rw [if_neg (show ¬ sA ≤ nI i from fun q => by rw [hA.1] at q; have q' := (le_i (by omega) (by omega)).mp q; omega), rd_n (by omega) (by omega), hk1, x1', b7_e, rd_n (by omega) (by omega), hk1, z1', b7_e, nm_e1, nI_1]
/-- the best of the ends -/
def aok (f lp bw : Int32) (o : vT) : Prop := match o with
  | none => bw = 0
  | some v => f = nI v.2.1 ∧ lp = nI v.1 ∧ bw = nI v.2.2 ∧ v.1 ≤ 1000 ∧ v.2.1 < 2097152 ∧ 0 < v.2.2
theorem cb9 {n : Nat} {kA pA fA wA : Nat → Int32} {sA : Int32} {E : List eT} (hA : eR kA pA fA wA sA E) (be : Int32) : ∀ (t : List eT) (i N : Nat) (f lp bw : Int32) (acc : vT), E.drop i = t → i ≤ E.length → t.length < N → aok f lp bw acc → wys acc + Wt t ≤ 2097152 → ∃ f2 lp2 bw2, aok f2 lp2 bw2 (mrg acc (SM (fun _ u => u) t)) ∧ f_Hands_chooseBest_9 kA pA fA wA sA (nI n) N f (nI i) lp be bw = b1 (f_Hands_withNoteZeroLowest (nI n) f2) fun r => some (lp2, r, bw2) := by
  have hlen := eR_len hA
  intro t
  induction t with
  | nil =>
    intro i N f lp bw acc ht hi2 hN ha hw
    obtain ⟨N, rfl⟩ : ∃ m, N = m + 1 := ⟨N - 1, by omega⟩
    have hi : E.length ≤ i := List.drop_eq_nil_iff.mp ht
    refine ⟨f, lp, bw, ?_, ?_⟩
    · show aok f lp bw (mrg acc none)
      rw [mrg_n]
      exact ha
    · show f_Hands_chooseBest_9_b kA pA fA wA sA (nI n) (f_Hands_chooseBest_9 kA pA fA wA sA (nI n) N) _ _ _ _ _ = _
      unfold f_Hands_chooseBest_9_b
      rw [hA.1, if_pos ((le_i (by omega) (by omega)).mpr hi)]
  | cons e t ih =>
    intro i N f lp bw acc ht hi2 hN ha hw
    obtain ⟨N, rfl⟩ : ∃ m, N = m + 1 := ⟨N - 1, by omega⟩
    have hge : E[i]? = some e := by
      have := List.getElem?_drop (xs := E) (i := i) (j := 0)
      rw [ht, Nat.add_zero] at this
      exact this.symm
    have hi : i < E.length := by
      by_cases c : i < E.length
      · exact c
      · rw [List.getElem?_eq_none (by omega)] at hge
        cases hge
    have hmem : e ∈ E := List.mem_of_getElem? hge
    have hkg : (ks E)[i]? = some e.1 := by
      unfold ks
      rw [List.getElem?_map, hge]
      rfl
    obtain ⟨hk1, hk2⟩ := hA.2.2.1 i e.1 hkg
    have hcel := hA.2.2.2 e.1 hk2
    rw [lk_m hA.2.1 hmem] at hcel
    obtain ⟨c1, c2, c3, c4, c5, c6⟩ := hcel
    have htl : E.drop (i + 1) = t := by
      have := List.drop_drop (i := 1) (j := i) (l := E)
      rw [ht] at this
      rw [← this]
      rfl
    have hw' : wys acc + (e.2.2.2 + Wt t) ≤ 2097152 := hw
    have hlt : t.length < N := by have : (e :: t).length = t.length + 1 := rfl; omega
    have hsum : mrg acc (SM (fun _ u => u) (e :: t)) = mrg (mrg acc (some e.2)) (SM (fun _ u => u) t) := by
      rw [mrg_a]
      rfl
    rw [hsum]
    have go : ∀ f3 lp3 bw3, aok f3 lp3 bw3 (mrg acc (some e.2)) → wys (mrg acc (some e.2)) ≤ wys acc + e.2.2.2 → f_Hands_chooseBest_9_b kA pA fA wA sA (nI n) (f_Hands_chooseBest_9 kA pA fA wA sA (nI n) N) f (nI i) lp be bw = f_Hands_chooseBest_9 kA pA fA wA sA (nI n) N f3 (nI (i + 1)) lp3 be bw3 → ∃ f2 lp2 bw2, aok f2 lp2 bw2 (mrg (mrg acc (some e.2)) (SM (fun _ u => u) t)) ∧ f_Hands_chooseBest_9 kA pA fA wA sA (nI n) (N + 1) f (nI i) lp be bw = b1 (f_Hands_withNoteZeroLowest (nI n) f2) fun r => some (lp2, r, bw2) := by
      intro f3 lp3 bw3 g1 g2 g3
      obtain ⟨f2, lp2, bw2, j1, j2⟩ := ih (i + 1) N f3 lp3 bw3 _ htl (by omega) hlt g1 (by omega)
      exact ⟨f2, lp2, bw2, j1, by rw [← j2, ← g3]; rfl⟩
    have h57 : f_Hands_chooseBest_57 kA pA fA wA sA (nI n) (f_Hands_chooseBest_9 kA pA fA wA sA (nI n) N) (nI i) (nI e.1) (nI e.2.1) lp be bw = f_Hands_chooseBest_9 kA pA fA wA sA (nI n) N (nI e.2.2.1) (nI (i + 1)) (nI e.2.1) be (nI e.2.2.2) := by
      unfold f_Hands_chooseBest_57
      rw [rd_n hk2 (by omega), rd_n hk2 (by omega), c2, c3, nm_e1, nI_1]
    have pre : f_Hands_chooseBest_9_b kA pA fA wA sA (nI n) (f_Hands_chooseBest_9 kA pA fA wA sA (nI n) N) f (nI i) lp be bw = (if bw = 0 then f_Hands_chooseBest_9 kA pA fA wA sA (nI n) N (nI e.2.2.1) (nI (i + 1)) (nI e.2.1) be (nI e.2.2.2) else if lp ≤ nI e.2.1 then (if nI e.2.1 = lp then f_Hands_chooseBest_9 kA pA fA wA sA (nI n) N (jmin f (nI e.2.2.1)) (nI (i + 1)) lp be (bw + nI e.2.2.2) else f_Hands_chooseBest_9 kA pA fA wA sA (nI n) N f (nI (i + 1)) lp be bw) else f_Hands_chooseBest_9 kA pA fA wA sA (nI n) N (nI e.2.2.1) (nI (i + 1)) (nI e.2.1) be (nI e.2.2.2)) := by
      unfold f_Hands_chooseBest_9_b
      rw [if_neg (show ¬ sA ≤ nI i from fun q => by rw [hA.1] at q; have q' := (le_i (by omega) (by omega)).mp q; omega), rd_n (by omega) (by omega), hk1, rd_n hk2 (by omega), c1, h57]
      simp only [nm_e1, rd_n (α := Int32 × Int32 × Int32) (n := 410) (j := e.1) hk2 (by omega), c2, c3, nI_1]
    rw [pre] at go
    cases hacc : acc with
    | none =>
      rw [hacc] at ha go
      have ha' : bw = 0 := ha
      refine go (nI e.2.2.1) (nI e.2.1) (nI e.2.2.2) ?_ ?_ ?_
      · rw [mrg_0]
        exact ⟨rfl, rfl, rfl, c4, c5, c6⟩
      · rw [mrg_0]
        show e.2.2.2 ≤ 0 + e.2.2.2
        omega
      · rw [if_pos ha']
    | some u =>
      rw [hacc] at ha go hw'
      obtain ⟨a1, a2, a3, a4, a5, a6⟩ := ha
      have hwu : u.2.2 + (e.2.2.2 + Wt t) ≤ 2097152 := hw'
      have hne : ¬ bw = 0 := by
        rw [a3]
        exact nI_ne0 (by omega) (by omega)
      subst a1
      subst a2
      subst a3
      rcases Nat.lt_trichotomy u.1 e.2.1 with q | q | q
      · refine go (nI u.2.1) (nI u.1) (nI u.2.2) ?_ ?_ ?_
        · rw [mrg_lt q]
          exact ⟨rfl, rfl, rfl, a4, a5, a6⟩
        · rw [mrg_lt q]
          show u.2.2 ≤ u.2.2 + e.2.2.2
          omega
        · rw [if_neg hne, if_pos ((le_i (by omega) (by omega)).mpr (by omega)), if_neg (fun z => by rw [eq_i (by omega) (by omega)] at z; omega)]
      · refine go (nI (min u.2.1 e.2.2.1)) (nI u.1) (nI (u.2.2 + e.2.2.2)) ?_ ?_ ?_
        · rw [mrg_eq q]
          refine ⟨rfl, rfl, rfl, a4, ?_, ?_⟩
          · dsimp only
            omega
          · dsimp only
            omega
        · rw [mrg_eq q]
          exact Nat.le_refl _
        · rw [if_neg hne, if_pos ((le_i (by omega) (by omega)).mpr (by omega)), if_pos ((eq_i (by omega) (by omega)).mpr q.symm), jmin_n (by omega) (by omega), add_n]
      · refine go (nI e.2.2.1) (nI e.2.1) (nI e.2.2.2) ?_ ?_ ?_
        · rw [mrg_gt q]
          exact ⟨rfl, rfl, rfl, c4, c5, c6⟩
        · rw [mrg_gt q]
          show e.2.2.2 ≤ u.2.2 + e.2.2.2
          omega
        · rw [if_neg hne, if_neg (fun z => by rw [le_i (by omega) (by omega)] at z; omega)]
end SOLVE
