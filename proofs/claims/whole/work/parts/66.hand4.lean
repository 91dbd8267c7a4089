section HAND4
variable {kinds ticks drums marks values counts hits now sT sH : Nat → Int32} {count there : Int32}
def crL (x : Nat → Int32) (L R : Nat) : Bool := decide (L ≠ 0) && (decide (R ≠ 0) && decide (drI x ((R - 1) / 2) < drI x ((L - 1) / 2)))
theorem crL_0 (x : Nat → Int32) (k o : Nat) : crL x (2 * k + 1) o = crsB x k 0 o := by
  unfold crL crsB
  have e : (2 * k + 1 - 1) / 2 = k := by omega
  rw [e, if_neg (by omega)]
  simp
theorem crL_1 (x : Nat → Int32) (k o : Nat) : crL x o (2 * k + 1) = crsB x k 1 o := by
  unfold crL crsB
  have e : (2 * k + 1 - 1) / 2 = k := by omega
  rw [e, if_pos rfl]
  simp
theorem no_c {s : Nat} (h1 : 0 < s) (h2 : s ≤ 100) : f_Line_noteOf (nI s) = some (nI ((s - 1) / 2)) := by
  unfold f_Line_noteOf
  rw [hf_e h1 h2, nm_e1]
theorem cr_c (h : lin kinds ticks drums marks sT sH values now) {L R : Nat} (hL : vst (nn now) L) (hR : vst (nn now) R) : f_Arms_areCrossed (nI L) (nI R) drums = some (b2i (crL now L R)) := by
  obtain ⟨hW, hl, hK, hv⟩ := h
  have hn := (wf_n hW).1
  unfold f_Arms_areCrossed crL
  by_cases c1 : L = 0
  · rw [if_pos (show nI L = 0 by rw [c1]; rfl)]
    simp [c1, b2i]
  · have hL2 := hL.resolve_left c1
    rw [if_neg (show ¬ nI L = 0 from nI_ne0 (by omega) (by omega))]
    by_cases c2 : R = 0
    · rw [if_pos (show nI R = 0 by rw [c2]; rfl)]
      simp [c2, b2i]
    · have hR2 := hR.resolve_left c2
      obtain ⟨d1, d2, d3⟩ := dr_e hW hL2
      obtain ⟨e1, e2, e3⟩ := dr_e hW hR2
      rw [if_neg (show ¬ nI R = 0 from nI_ne0 (by omega) (by omega)), no_c (by omega) (by omega), b1_e, rd_n (by omega) (by omega), no_c (by omega) (by omega), b1_e, rd_n (by omega) (by omega), (hl _ hL2).2.2.1, (hl _ hR2).2.2.1, d3, e3]
      by_cases c3 : drI now ((R - 1) / 2) < drI now ((L - 1) / 2)
      · rw [if_neg (show ¬ zI (drI now ((L - 1) / 2)) ≤ zI (drI now ((R - 1) / 2)) by rw [zI_le (by omega) (by omega) (by omega) (by omega)]; omega)]
        simp [c1, c2, c3, b2i]
      · rw [if_pos (show zI (drI now ((L - 1) / 2)) ≤ zI (drI now ((R - 1) / 2)) by rw [zI_le (by omega) (by omega) (by omega) (by omega)]; omega)]
        simp [c3, b2i]
theorem aw_c (h : lin kinds ticks drums marks sT sH values now) {L R k hh : Nat} (hL : vst (nn now) L) (hR : vst (nn now) R) (hk : k < nn now) (h2 : hh < 2) {a : Int32} {same : Bool} (hs : same = true ↔ (k ≠ 0 ∧ nI hh = a)) : f_Arms_awkwardness (nI L) (nI R) kinds ticks drums values (nI k) (nI hh) a = some (nI (awkN now k hh same (crL now L R))) := by
  have h0 := h
  obtain ⟨hW, hl, hK, hv⟩ := h
  have hn := (wf_n hW).1
  obtain ⟨k4, ke⟩ := kd_e hW hk
  obtain ⟨t1, t2, t3⟩ := tk_e hW hk
  have hg := gr_c now k
  have h85 : 0 < k → ∀ u : Nat, u ≤ 100 → f_Arms_awkwardness_85 (nI L) (nI R) kinds ticks drums values (nI k) (nI u) = some (nI (u + (if 0 < grN now k ∧ 0 < grN now (k - 1) then 3 else 0))) := by
    intro hk0 u hu
    have hg1 := gr_c now (k - 1)
    unfold f_Arms_awkwardness_85
    have ek : nI k - 1 = nI (k - 1) := sub_n (b := 1) (by omega)
    have e3 : ∀ z : Nat, nI z + 3 = nI (z + 3) := fun z => add_n z 3
    rw [gr_l h0 hk, ek, gr_l h0 (show k - 1 < nn now by omega)]
    simp only [nm_e1, b1_e, e3]
    by_cases c1 : grN now k = 0
    · rw [if_pos (show nI (grN now k) ≤ 0 by rw [c1]; decide), if_neg (by omega)]
      rfl
    · rw [if_neg (show ¬ nI (grN now k) ≤ 0 from nI_nle (by omega) (by omega))]
      by_cases c2 : grN now (k - 1) = 0
      · rw [if_pos (show nI (grN now (k - 1)) ≤ 0 by rw [c2]; decide), if_neg (by omega)]
        rfl
      · rw [if_neg (show ¬ nI (grN now (k - 1)) ≤ 0 from nI_nle (by omega) (by omega)), if_pos (by omega)]
  have h34 : ∀ u : Nat, u ≤ 10 → f_Arms_awkwardness_34 (nI L) (nI R) kinds ticks drums values (nI k) (nI hh) a (nI u) = some (nI (u + (if same = true then 2 + (if tkI now k - tkI now (k - 1) < (now 5).toInt then 1 else 0) + (if 0 < grN now k ∧ 0 < grN now (k - 1) then 3 else 0) else 0))) := by
    intro u hu
    unfold f_Arms_awkwardness_34
    by_cases c0 : k = 0
    · have c1 : ¬ same = true := fun q => (hs.mp q).1 c0
      rw [if_pos (show nI k = 0 by rw [c0]; rfl), if_neg c1]
      rfl
    · rw [if_neg (show ¬ nI k = 0 from nI_ne0 (by omega) (by omega))]
      by_cases c1 : same = true
      · rw [if_pos (hs.mp c1).2, if_pos c1]
        obtain ⟨s1, s2, s3⟩ := tk_e hW (show k - 1 < nn now by omega)
        have f5 : 0 ≤ (now 5).toInt ∧ (now 5).toInt ≤ 200 := hW.2.2.1.2.2.2.1
        have f5e : now 5 = zI (now 5).toInt := (zI_self _).symm
        have ek : nI k - 1 = nI (k - 1) := sub_n (b := 1) (by omega)
        have e2 : nI u + 2 = nI (u + 2) := add_n _ 2
        have e1 : nI (u + 2) + 1 = nI (u + 3) := add_n _ 1
        rw [e2, nm_e1, rd_n (by omega) (by omega), ek, rd_n (by omega) (by omega), rd_l (i := 3) 3 rfl (by omega) (by omega), (hl k hk).2.1, (hl (k - 1) (by omega)).2.1, hv 3 (by omega), t3, s3, zI_sub, e1, nm_e1, h85 (by omega) (u + 2) (by omega), h85 (by omega) (u + 3) (by omega)]
        show (if now 5 ≤ _ then _ else _) = _
        rw [f5e, zI_toInt (by omega) (by omega)]
        by_cases c2 : tkI now k - tkI now (k - 1) < (now 5).toInt
        · rw [if_neg (show ¬ zI (now 5).toInt ≤ zI (tkI now k - tkI now (k - 1)) by rw [zI_le (by omega) (by omega) (by omega) (by omega)]; omega), if_pos c2]
          congr 2
          omega
        · rw [if_pos (show zI (now 5).toInt ≤ zI (tkI now k - tkI now (k - 1)) by rw [zI_le (by omega) (by omega) (by omega) (by omega)]; omega), if_neg c2]
          congr 2
          omega
      · rw [if_neg (fun q => c1 (hs.mpr ⟨c0, q⟩)), if_neg c1]
        rfl
  have h12 : ∀ u : Nat, u ≤ 5 → f_Arms_awkwardness_12 (nI L) (nI R) kinds ticks drums values (nI k) (nI hh) a (nI u) = some (nI (u + (if kdN now k = 1 ∧ hh = 0 then 1 else 0) + (if same = true then 2 + (if tkI now k - tkI now (k - 1) < (now 5).toInt then 1 else 0) + (if 0 < grN now k ∧ 0 < grN now (k - 1) then 3 else 0) else 0))) := by
    intro u hu
    unfold f_Arms_awkwardness_12
    have e1 : nI u + 1 = nI (u + 1) := nI_1 u
    rw [rd_n (by omega) (by omega), (hl k hk).1, ke, e1, nm_e1, h34 u (by omega), h34 (u + 1) (by omega)]
    by_cases c1 : kdN now k = 1
    · rw [if_pos (show nI (kdN now k) = 1 by rw [c1]; rfl)]
      by_cases c2 : hh = 0
      · rw [if_pos (show nI hh = 0 by rw [c2]; rfl), if_pos (show kdN now k = 1 ∧ hh = 0 from ⟨c1, c2⟩)]
      · rw [if_neg (show ¬ nI hh = 0 from nI_ne0 (by omega) (by omega)), if_neg (show ¬ (kdN now k = 1 ∧ hh = 0) from fun q => c2 q.2)]
        rfl
    · rw [if_neg (show ¬ nI (kdN now k) = (1 : Int32) from fun q => c1 ((nI_eq (b := 1) (by omega) (by omega)).mp q)), if_neg (show ¬ (kdN now k = 1 ∧ hh = 0) from fun q => c1 q.1)]
      rfl
  unfold f_Arms_awkwardness awkN
  have w0 := h12 0 (by omega)
  have w2 := h12 2 (by omega)
  have w0' : f_Arms_awkwardness_12 (nI L) (nI R) kinds ticks drums values (nI k) (nI hh) a 0 = _ := w0
  have w2' : f_Arms_awkwardness_12 (nI L) (nI R) kinds ticks drums values (nI k) (nI hh) a 2 = _ := w2
  rw [cr_c h0 hL hR, b1_e, w0', w2', b2i_t]
  cases crL now L R <;> rfl
/-! values of ways: the least price, the first, how many; and how they are put together -/
abbrev vT : Type := Option (Nat × Nat × Nat)
def mrg (a b : vT) : vT := match a, b with
  | none, b => b
  | some x, none => some x
  | some x, some y => if x.1 < y.1 then some x else if y.1 < x.1 then some y else some (x.1, min x.2.1 y.2.1, x.2.2 + y.2.2)
def act (v : vT) (a h : Nat) : vT := match v with
  | none => none
  | some x => some (x.1 + a, 2 * x.2.1 + h, x.2.2)
theorem mrg_0 (a : vT) : mrg none a = a := by cases a <;> rfl
theorem mrg_n (a : vT) : mrg a none = a := by cases a <;> rfl
theorem mrg_c (a b : vT) : mrg a b = mrg b a := by
  cases a with
  | none => rw [mrg_0, mrg_n]
  | some x =>
    cases b with
    | none => rfl
    | some y =>
      show (if x.1 < y.1 then some x else if y.1 < x.1 then some y else some (x.1, min x.2.1 y.2.1, x.2.2 + y.2.2)) = (if y.1 < x.1 then some y else if x.1 < y.1 then some x else some (y.1, min y.2.1 x.2.1, y.2.2 + x.2.2))
      by_cases c1 : x.1 < y.1
      · rw [if_pos c1, if_neg (by omega), if_pos c1]
      · by_cases c2 : y.1 < x.1
        · rw [if_neg c1, if_pos c2, if_pos c2]
        · have e : x.1 = y.1 := by omega
          rw [if_neg c1, if_neg c2, if_neg c2, if_neg c1, e, Nat.min_comm, Nat.add_comm]
theorem mrg_lt {x y : Nat × Nat × Nat} (h : x.1 < y.1) : mrg (some x) (some y) = some x := if_pos h
theorem mrg_gt {x y : Nat × Nat × Nat} (h : y.1 < x.1) : mrg (some x) (some y) = some y := by
  show (if x.1 < y.1 then some x else if y.1 < x.1 then some y else some (x.1, min x.2.1 y.2.1, x.2.2 + y.2.2)) = _
  rw [if_neg (by omega), if_pos h]
theorem mrg_eq {x y : Nat × Nat × Nat} (h : x.1 = y.1) : mrg (some x) (some y) = some (x.1, min x.2.1 y.2.1, x.2.2 + y.2.2) := by
  show (if x.1 < y.1 then some x else if y.1 < x.1 then some y else some (x.1, min x.2.1 y.2.1, x.2.2 + y.2.2)) = _
  rw [if_neg (by omega), if_neg (by omega)]
theorem mrg_a (a b c : vT) : mrg (mrg a b) c = mrg a (mrg b c) := by
  cases a with
  | none => rw [mrg_0, mrg_0]
  | some x =>
    cases b with
    | none => rw [mrg_n, mrg_0]
    | some y =>
      cases c with
      | none => rw [mrg_n, mrg_n]
      | some z =>
        rcases Nat.lt_trichotomy x.1 y.1 with h1 | h1 | h1
        · rw [mrg_lt h1]
          rcases Nat.lt_trichotomy y.1 z.1 with h2 | h2 | h2
          · rw [mrg_lt h2, mrg_lt h1, mrg_lt (show x.1 < z.1 by omega)]
          · rw [mrg_eq h2, mrg_lt (show x.1 < z.1 by omega), mrg_lt (show x.1 < (y.1, min y.2.1 z.2.1, y.2.2 + z.2.2).1 from h1)]
          · rw [mrg_gt h2]
        · rw [mrg_eq h1]
          rcases Nat.lt_trichotomy y.1 z.1 with h2 | h2 | h2
          · rw [mrg_lt h2, mrg_eq h1, mrg_lt (show (x.1, min x.2.1 y.2.1, x.2.2 + y.2.2).1 < z.1 by show x.1 < z.1; omega)]
          · rw [mrg_eq h2, mrg_eq (show (x.1, min x.2.1 y.2.1, x.2.2 + y.2.2).1 = z.1 by show x.1 = z.1; omega), mrg_eq (show x.1 = (y.1, min y.2.1 z.2.1, y.2.2 + z.2.2).1 from h1)]
            dsimp only
            rw [Nat.min_assoc, Nat.add_assoc]
          · rw [mrg_gt h2, mrg_gt (show z.1 < (x.1, min x.2.1 y.2.1, x.2.2 + y.2.2).1 by show z.1 < x.1; omega), mrg_gt (show z.1 < x.1 by omega)]
        · rw [mrg_gt h1]
          rcases Nat.lt_trichotomy y.1 z.1 with h2 | h2 | h2
          · rw [mrg_lt h2, mrg_gt h1]
          · rw [mrg_eq h2, mrg_gt (show (y.1, min y.2.1 z.2.1, y.2.2 + z.2.2).1 < x.1 from h1)]
          · rw [mrg_gt h2, mrg_gt (show z.1 < x.1 by omega)]
theorem act_m (a b : vT) (p h : Nat) : act (mrg a b) p h = mrg (act a p h) (act b p h) := by
  cases a with
  | none => rw [mrg_0]; exact (mrg_0 _).symm
  | some x =>
    cases b with
    | none => rw [mrg_n]; rfl
    | some y =>
      obtain ⟨x1, x2, x3⟩ := x
      obtain ⟨y1, y2, y3⟩ := y
      unfold mrg act
      dsimp only
      by_cases c1 : x1 < y1
      · rw [if_pos c1, if_pos (by omega)]
      · by_cases c2 : y1 < x1
        · rw [if_neg c1, if_pos c2, if_neg (by omega), if_pos (by omega)]
        · rw [if_neg c1, if_neg c2, if_neg (by omega), if_neg (by omega)]
          dsimp only
          have e : 2 * min x2 y2 + h = min (2 * x2 + h) (2 * y2 + h) := by omega
          rw [e]
end HAND4
