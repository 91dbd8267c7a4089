section HAND3
variable {kinds ticks drums marks values counts hits now sT sH : Nat → Int32} {count there : Int32}
/-- the line of the room behind a view -/
def lin (kinds ticks drums marks sT sH values : Nat → Int32) (x : Nat → Int32) : Prop := wf x ∧ (∀ k, k < nn x → kinds k = x (7 + k) ∧ ticks k = x (27 + k) ∧ drums k = x (47 + k) ∧ marks k = x (67 + k)) ∧ stk kinds ticks sT sH (nn x) ∧ ∀ k, k < 5 → values k = x (2 + k)
theorem lin_of (hR : rep kinds ticks drums marks count values there counts hits now) (hW : wf now) (hK : stk kinds ticks sT sH (nn now)) : lin kinds ticks drums marks sT sH values now := ⟨hW, hR.2.2.2.1, hK, hR.2.2.1⟩
theorem sT_e (h : lin kinds ticks drums marks sT sH values now) {s : Nat} (h1 : 0 < s) (h2 : (s - 1) / 2 < nn now) : sT s = zI (sTk now s) ∧ sH s = nI (sHt now s) := by
  obtain ⟨hW, hl, hK, hv⟩ := h
  obtain ⟨k1, k2, k3, k4⟩ := hK _ h2
  obtain ⟨t1, t2, t3⟩ := tk_e hW h2
  obtain ⟨q4, qe⟩ := kd_e hW h2
  have hkd : (kinds ((s - 1) / 2)).toNatClampNeg = kdN now ((s - 1) / 2) := by rw [(hl _ h2).1]; rfl
  unfold sTk sHt
  rcases (show s % 2 = 0 ∨ s % 2 = 1 by omega) with q | q
  · have es : s = 2 * ((s - 1) / 2) + 2 := by omega
    rw [if_neg (by omega), if_neg (by omega)]
    refine ⟨?_, ?_⟩
    · rw [es, k2, (hl _ h2).2.1, t3]
      show zI _ - zI 4 = _
      rw [zI_sub]
      congr 3
      omega
    · rw [es, k4]
      rfl
  · have es : s = 2 * ((s - 1) / 2) + 1 := by omega
    rw [if_pos q, if_pos q]
    refine ⟨?_, ?_⟩
    · rw [es, k1, (hl _ h2).2.1, t3]
      congr 2
      omega
    · have e9 : sH s = sH (2 * ((s - 1) / 2) + 1) := congrArg sH es
      rw [e9, k3, hkd]
      unfold htN
      rcases (show kdN now ((s - 1) / 2) = 0 ∨ kdN now ((s - 1) / 2) = 1 ∨ kdN now ((s - 1) / 2) = 2 ∨ kdN now ((s - 1) / 2) = 3 by omega) with q | q | q | q <;> rw [q] <;> rfl
theorem jmax_z {a b : Int} (h1 : -1000000 ≤ a) (h2 : a ≤ 1000000) (h3 : -1000000 ≤ b) (h4 : b ≤ 1000000) : jmax (zI a) (zI b) = zI (max a b) := by
  unfold jmax
  by_cases c : a < b
  · rw [if_pos ((zI_lt (by omega) (by omega) (by omega) (by omega)).mpr c)]
    congr 1
    omega
  · rw [if_neg (fun q => c ((zI_lt (by omega) (by omega) (by omega) (by omega)).mp q))]
    congr 1
    omega
theorem it_c (h : lin kinds ticks drums marks sT sH values now) {s hh : Nat} (hs : vst (nn now) s) {t : Int} (h1 : -8 ≤ t) (h2 : t ≤ 9999) (hg : 1 ≤ hh ∧ hh ≤ 3) : f_Arms_isInTime sT sH values (nI s) (zI t) (nI hh) = some (b2i (okB now s t hh)) := by
  have h0 := h
  obtain ⟨hW, hl, hK, hv⟩ := h
  have hn := (wf_n hW).1
  unfold f_Arms_isInTime okB
  by_cases c : s = 0
  · rw [if_pos (show nI s = 0 by rw [c]; rfl)]
    simp [c, b2i]
  · have h3 : (s - 1) / 2 < nn now := hs.resolve_left c
    obtain ⟨b1, b2⟩ := stk_b hW h3
    obtain ⟨g1, g2, g3, g4⟩ := rl_e hW
    have hd : (((hh : Int) - sHt now s).natAbs : Nat) ≤ 2 := by have := sht_c now s; omega
    have hlb := lift_b g2.1 g2.2 hd
    obtain ⟨s1, s2⟩ := sT_e h0 (show 0 < s by omega) h3
    have hj : jabs (nI hh - nI (sHt now s)) = nI ((hh : Int) - sHt now s).natAbs := by
      rw [← zI_nI, ← zI_nI, zI_sub]
      have := sht_c now s
      exact jabs_z (by omega) (by omega)
    have v0 : values 0 = zI (now 2).toInt := (hv 0 (by omega)).trans g3
    have v1 : values 1 = zI (now 3).toInt := (hv 1 (by omega)).trans g4
    rw [if_neg (show ¬ nI s = 0 from nI_ne0 (by omega) (by omega)), rd_l (i := 1) 1 rfl (by omega) (by omega), rd_n (by omega) (by omega), s2, nm_e1, hj, nm_e1, rd_n (by omega) (by omega), s1, rd_l (i := 0) 0 rfl (by omega) (by omega), nm_e1, v0, v1, ← zI_nI, zI_mul, zI_sub]
    have d0 : decide (s = 0) = false := by simp [c]
    rw [d0, Bool.false_or]
    have hz1 : -10007 ≤ t - sTk now s := by omega
    have hz2 : t - sTk now s ≤ 10003 := by omega
    obtain ⟨gl, gu⟩ := g1
    obtain ⟨ll, lu⟩ := hlb
    generalize (now 3).toInt * ((((hh : Int) - sHt now s).natAbs : Nat) : Int) = L at *
    generalize (now 2).toInt = G at *
    generalize t - sTk now s = Z at *
    rw [jmax_z (by omega) (by omega) (by omega) (by omega)]
    by_cases c1 : G ≤ Z ∧ L ≤ Z
    · rw [if_neg (show ¬ zI Z < zI (max G L) by rw [zI_lt (by omega) (by omega) (by omega) (by omega)]; omega)]
      simp [c1.1, c1.2, b2i]
    · rw [if_pos (show zI Z < zI (max G L) by rw [zI_lt (by omega) (by omega) (by omega) (by omega)]; omega)]
      by_cases c2 : G ≤ Z
      · have c3 : ¬ L ≤ Z := fun q => c1 ⟨c2, q⟩
        simp [c2, c3, b2i]
      · simp [c2, b2i]
theorem may_c (h : lin kinds ticks drums marks sT sH values now) {k hh : Nat} (hk : k < nn now) (h2 : hh < 2) : f_Line_mayBeBy marks (nI k) (nI hh) = some (b2i (decide ((now (67 + k)).toInt < 0) || decide ((now (67 + k)).toInt = (hh : Int)))) := by
  obtain ⟨hW, hl, hK, hv⟩ := h
  have hn := (wf_n hW).1
  have hm := (hW.2.2.2.1 k hk).2.2.2
  unfold rg at hm
  unfold f_Line_mayBeBy
  simp only [rd_n (n := 20) (j := k) (by omega) (by omega), (hl k hk).2.2.2]
  have zm : (-1 : Int32).toInt = -1 := rfl
  have zh : (nI hh).toInt = (hh : Int) := ito (by omega)
  by_cases c1 : now (67 + k) = -1
  · rw [if_pos c1]
    have d : (now (67 + k)).toInt < 0 := by rw [c1]; decide
    simp [d, b2i]
  · have d : ¬ (now (67 + k)).toInt < 0 := by rw [eqI, zm] at c1; omega
    rw [if_neg c1]
    by_cases c2 : now (67 + k) = nI hh
    · rw [if_pos c2]
      have d2 : (now (67 + k)).toInt = (hh : Int) := by rw [c2, zh]
      simp [d2, b2i]
    · rw [if_neg c2]
      have d2 : ¬ (now (67 + k)).toInt = (hh : Int) := by rw [eqI, zh] at c2; exact c2
      simp [d, d2, b2i]
theorem gr_l (h : lin kinds ticks drums marks sT sH values now) {k : Nat} (hk : k < nn now) : f_Line_graces kinds (nI k) = some (nI (grN now k)) := by
  obtain ⟨hW, hl, hK, hv⟩ := h
  have hn := (wf_n hW).1
  obtain ⟨h4, e⟩ := kd_e hW hk
  unfold f_Line_graces grN
  rw [rd_n (by omega) (by omega), (hl k hk).1, e, rd_n (by omega) (by omega)]
  rcases (show kdN now k = 0 ∨ kdN now k = 1 ∨ kdN now k = 2 ∨ kdN now k = 3 by omega) with q | q | q | q <;> rw [q] <;> rfl
theorem fg_l (h : lin kinds ticks drums marks sT sH values now) {k : Nat} (hk : k < nn now) : f_Line_firstGraceTick kinds ticks (nI k) = some (zI (tkI now k - 4 * grN now k)) := by
  have h0 := h
  obtain ⟨hW, hl, hK, hv⟩ := h
  have hn := (wf_n hW).1
  obtain ⟨h4, e⟩ := kd_e hW hk
  obtain ⟨t1, t2, t3⟩ := tk_e hW hk
  have hg : sT1 (kdN now k) = nI (grN now k) := by
    unfold grN
    rcases (show kdN now k = 0 ∨ kdN now k = 1 ∨ kdN now k = 2 ∨ kdN now k = 3 by omega) with q | q | q | q <;> rw [q] <;> rfl
  unfold f_Line_firstGraceTick
  rw [rd_n (by omega) (by omega), rd_n (by omega) (by omega), (hl k hk).1, e, rd_n (by omega) (by omega), (hl k hk).2.1, t3, hg, ← zI_nI]
  show some (zI (tkI now k) - (zI 4 * zI _)) = _
  rw [zI_mul, zI_sub]
/-- the arms: the stroke of either hand -/
theorem so_c {L R h : Nat} (hh : h < 2) : f_Arms_strokeOf (nI L) (nI R) (nI h) = some (nI (if h = 0 then L else R)) ∧ f_Arms_strokeOf (nI L) (nI R) (1 - nI h) = some (nI (if h = 0 then R else L)) := by
  rcases (show h = 0 ∨ h = 1 by omega) with rfl | rfl <;> exact ⟨rfl, rfl⟩
theorem hd_c {h a b : Nat} (hh : h < 2) (l r : Int32) : f_Arms_hold l r (nI h) (nI a) (nI b) = some (nI (if h = 0 then a else b), nI (if h = 0 then b else a)) := by
  rcases (show h = 0 ∨ h = 1 by omega) with rfl | rfl <;> rfl
theorem mn_c (k : Nat) : f_Line_mainOf (nI k) = some (nI (2 * k + 1)) := by
  unfold f_Line_mainOf
  show some (nI 1 + nI 2 * nI k) = _
  rw [mul_n, add_n, Nat.add_comm]
theorem gc_c (k : Nat) : f_Line_graceOf (nI k) = some (nI (2 * k + 2)) := by
  unfold f_Line_graceOf
  show some (nI 2 + nI 2 * nI k) = _
  rw [mul_n, add_n, Nat.add_comm]
theorem st_c (h : lin kinds ticks drums marks sT sH values now) {k hh L R : Nat} (hk : k < nn now) (h2 : hh < 2) (hL : vst (nn now) L) (hR : vst (nn now) R) : f_Arms_strike (nI L) (nI R) kinds ticks marks sT sH values (nI k) (nI hh) = some (if canB now k hh (if hh = 0 then L else R) (if hh = 0 then R else L) = true then ((1 : Int32), nI (if hh = 0 then 2 * k + 1 else othN now k L), nI (if hh = 0 then othN now k R else 2 * k + 1)) else ((0 : Int32), nI L, nI R)) := by
  have h0 := h
  obtain ⟨hW, hl, hK, hv⟩ := h
  have hn := (wf_n hW).1
  obtain ⟨t1, t2, t3⟩ := tk_e hW hk
  have hg := gr_c now k
  have hO : vst (nn now) (if hh = 0 then L else R) := by split <;> assumption
  have hT : vst (nn now) (if hh = 0 then R else L) := by split <;> assumption
  obtain ⟨s1, s2⟩ := so_c (L := L) (R := R) h2
  have hmh : sH (2 * k + 1) = nI (htN now k) := by
    have e := (sT_e h0 (show 0 < 2 * k + 1 by omega) (show (2 * k + 1 - 1) / 2 < nn now by omega)).2
    rw [e]
    unfold sHt
    rw [if_pos (by omega)]
    congr 2
    omega
  have hfold : ∀ a b : Nat, (if hh = 0 then 2 * k + 1 else othN now k L) = (if hh = 0 then 2 * k + 1 else othN now k L) := fun _ _ => rfl
  unfold f_Arms_strike
  rw [mn_c, b1_e, s2, b1_e, may_c h0 hk h2, b1_e, b2i_t, s1, b1_e, rd_n (by omega) (by omega), rd_n (by omega) (by omega), (hl k hk).2.1, t3, hmh, it_c h0 hO (by omega) (by omega) (ht_c now k), b1_e, b2i_t, gr_l h0 hk, b1_e, fg_l h0 hk, b1_e]
  have it1 := it_c h0 hT (t := tkI now k - 4 * grN now k) (hh := 1) (by omega) (by omega) (by omega)
  have it1' : f_Arms_isInTime sT sH values (nI (if hh = 0 then R else L)) (zI (tkI now k - 4 * grN now k)) 1 = _ := it1
  rw [it1', b1_e, b2i_t, gc_c, b1_e, hd_c h2, b2_e, hd_c h2, b2_e]
  unfold canB
  generalize (decide ((now (67 + k)).toInt < 0) || decide ((now (67 + k)).toInt = (hh : Int))) = B1
  generalize okB now (if hh = 0 then L else R) (tkI now k) (htN now k) = B2
  generalize okB now (if hh = 0 then R else L) (tkI now k - 4 * grN now k) 1 = B3
  unfold othN
  cases B1 with
  | false => rfl
  | true =>
    cases B2 with
    | false => rfl
    | true =>
      by_cases c : grN now k = 0
      · rw [if_pos (show nI (grN now k) = 0 by rw [c]; rfl)]
        simp only [c, decide_true, Bool.true_or, Bool.true_and, if_true]
        rcases (show hh = 0 ∨ hh = 1 by omega) with rfl | rfl <;> rfl
      · rw [if_neg (show ¬ nI (grN now k) = 0 from nI_ne0 (by omega) (by omega))]
        simp only [c, decide_false, Bool.false_or, Bool.true_and, if_true]
        cases B3 with
        | false => rfl
        | true => rcases (show hh = 0 ∨ hh = 1 by omega) with rfl | rfl <;> rfl
end HAND3
