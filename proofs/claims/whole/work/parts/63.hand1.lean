section HAND1
/-! strokes and times of a view -/
def kdN (x : Nat → Int32) (k : Nat) : Nat := (x (7 + k)).toNatClampNeg
def grN (x : Nat → Int32) (k : Nat) : Nat := if kdN x k = 3 then 2 else if kdN x k = 2 then 1 else 0
def htN (x : Nat → Int32) (k : Nat) : Nat := if kdN x k = 0 then 1 else if kdN x k = 1 then 3 else 2
def tkI (x : Nat → Int32) (k : Nat) : Int := (x (27 + k)).toInt
def drI (x : Nat → Int32) (k : Nat) : Int := (x (47 + k)).toInt
def sTk (x : Nat → Int32) (s : Nat) : Int := if s % 2 = 1 then tkI x ((s - 1) / 2) else tkI x ((s - 1) / 2) - 4
def sHt (x : Nat → Int32) (s : Nat) : Nat := if s % 2 = 1 then htN x ((s - 1) / 2) else 1
def okB (x : Nat → Int32) (s : Nat) (t : Int) (h : Nat) : Bool := decide (s = 0) || (decide ((x 2).toInt ≤ t - sTk x s) && decide ((x 3).toInt * ((((h : Int) - sHt x s).natAbs : Nat) : Int) ≤ t - sTk x s))
def canB (x : Nat → Int32) (k h ow ot : Nat) : Bool := (decide ((x (67 + k)).toInt < 0) || decide ((x (67 + k)).toInt = (h : Int))) && okB x ow (tkI x k) (htN x k) && (decide (grN x k = 0) || okB x ot (tkI x k - 4 * grN x k) 1)
def othN (x : Nat → Int32) (k o : Nat) : Nat := if grN x k = 0 then o else 2 * k + 2
def crsB (x : Nat → Int32) (k h o : Nat) : Bool := decide (o ≠ 0) && (if h = 1 then decide (drI x k < drI x ((o - 1) / 2)) else decide (drI x ((o - 1) / 2) < drI x k))
def awkN (x : Nat → Int32) (k h : Nat) (same cr : Bool) : Nat := (if cr = true then 2 else 0) + (if kdN x k = 1 ∧ h = 0 then 1 else 0) + (if same = true then 2 + (if tkI x k - tkI x (k - 1) < (x 5).toInt then 1 else 0) + (if 0 < grN x k ∧ 0 < grN x (k - 1) then 3 else 0) else 0)
def b2i (b : Bool) : Int32 := if b = true then 1 else 0
theorem b2i_0 (b : Bool) : b2i b = 0 ↔ b = false := by cases b <;> decide
theorem b2i_01 (b : Bool) : b2i b = 0 ∨ b2i b = 1 := by cases b <;> decide
variable {now : Nat → Int32}
theorem kd_e (hW : wf now) {k : Nat} (hk : k < nn now) : kdN now k < 4 ∧ now (7 + k) = nI (kdN now k) := by
  obtain ⟨j, e, h1, h2, h3⟩ := inat (hW.2.2.2.1 k hk).1 (by omega)
  have e2 : kdN now k = j := by unfold kdN; rw [e]; exact cl_n (by omega)
  rw [e2]
  exact ⟨by omega, e⟩
theorem tk_e (hW : wf now) {k : Nat} (hk : k < nn now) : 0 ≤ tkI now k ∧ tkI now k ≤ 9999 ∧ now (27 + k) = zI (tkI now k) := ⟨(hW.2.2.2.1 k hk).2.1.1, (hW.2.2.2.1 k hk).2.1.2, (zI_self _).symm⟩
theorem dr_e (hW : wf now) {k : Nat} (hk : k < nn now) : 0 ≤ drI now k ∧ drI now k ≤ 4 ∧ now (47 + k) = zI (drI now k) := ⟨(hW.2.2.2.1 k hk).2.2.1.1, (hW.2.2.2.1 k hk).2.2.1.2, (zI_self _).symm⟩
theorem gr_c (x : Nat → Int32) (k : Nat) : grN x k ≤ 2 := by unfold grN; split <;> (try split) <;> omega
theorem ht_c (x : Nat → Int32) (k : Nat) : 1 ≤ htN x k ∧ htN x k ≤ 3 := by unfold htN; split <;> (try split) <;> omega
theorem sht_c (x : Nat → Int32) (s : Nat) : 1 ≤ sHt x s ∧ sHt x s ≤ 3 := by
  unfold sHt
  split
  · exact ht_c x _
  · omega
theorem gr_m (hW : wf now) {k : Nat} (hk : k < nn now) : f_Model_graces now (nI k) = some (nI (grN now k)) := by
  have hn := (wf_n hW).1
  obtain ⟨h4, e⟩ := kd_e hW hk
  unfold f_Model_graces grN
  have a7 : (7 : Int32) + nI k = nI (7 + k) := add_n 7 k
  rw [a7, rd_n (by omega) (by omega), rd_n (by omega) (by omega), e]
  rcases (show kdN now k = 0 ∨ kdN now k = 1 ∨ kdN now k = 2 ∨ kdN now k = 3 by omega) with q | q | q | q <;> rw [q] <;> rfl
/-- a stroke that is there, or none -/
def vst (n s : Nat) : Prop := s = 0 ∨ (s - 1) / 2 < n
theorem hf_e {s : Nat} (h1 : 0 < s) (h2 : s ≤ 100) : (nI s - 1) / 2 = nI ((s - 1) / 2) := by
  have e : nI s - 1 = nI (s - 1) := sub_n (b := 1) (by omega)
  rw [e]
  exact pk_div (d := 2) (by omega) (by omega) (by omega)
theorem rm_e {s : Nat} (h2 : s ≤ 100) : jrem (nI s) 2 = nI (s % 2) := jrem_n (b := 2) (by omega) (by omega) (by omega)
theorem tkO_m (hW : wf now) {s : Nat} (h1 : 0 < s) (h2 : (s - 1) / 2 < nn now) : f_Model_tickOf now (nI s) = some (zI (sTk now s)) := by
  have hn := (wf_n hW).1
  obtain ⟨t1, t2, t3⟩ := tk_e hW h2
  unfold f_Model_tickOf sTk
  have a : (27 : Int32) + nI ((s - 1) / 2) = nI (27 + (s - 1) / 2) := add_n 27 _
  simp only [hf_e h1 (show s ≤ 100 by omega), rm_e (show s ≤ 100 by omega), nm_e1, a, rd_n (n := 187) (j := 27 + (s - 1) / 2) (by omega) (by omega), t3]
  rcases (show s % 2 = 0 ∨ s % 2 = 1 by omega) with q | q
  · rw [q, if_neg (show ¬ nI 0 = 1 by decide), if_neg (by omega)]
    show some (zI _ - zI 4) = _
    rw [zI_sub]
  · rw [q, if_pos (show nI 1 = 1 from rfl), if_pos rfl]
theorem htO_m (hW : wf now) {s : Nat} (h1 : 0 < s) (h2 : (s - 1) / 2 < nn now) : f_Model_heightOf now (nI s) = some (nI (sHt now s)) := by
  have hn := (wf_n hW).1
  obtain ⟨h4, e⟩ := kd_e hW h2
  unfold f_Model_heightOf sHt htN
  have a : (7 : Int32) + nI ((s - 1) / 2) = nI (7 + (s - 1) / 2) := add_n 7 _
  simp only [hf_e h1 (show s ≤ 100 by omega), rm_e (show s ≤ 100 by omega), nm_e1, a, rd_n (n := 187) (j := 7 + (s - 1) / 2) (by omega) (by omega), e]
  rcases (show s % 2 = 0 ∨ s % 2 = 1 by omega) with q | q
  · rw [q, if_pos (show nI 0 = 0 from rfl), if_neg (by omega)]
    rfl
  · rw [q, if_neg (show ¬ nI 1 = 0 by decide), if_pos rfl]
    rcases (show kdN now ((s - 1) / 2) = 0 ∨ kdN now ((s - 1) / 2) = 1 ∨ kdN now ((s - 1) / 2) = 2 ∨ kdN now ((s - 1) / 2) = 3 by omega) with q | q | q | q <;> rw [q] <;> rfl
theorem stk_b (hW : wf now) {s : Nat} (h2 : (s - 1) / 2 < nn now) : -4 ≤ sTk now s ∧ sTk now s ≤ 9999 := by
  obtain ⟨t1, t2, t3⟩ := tk_e hW h2
  unfold sTk
  split <;> omega
theorem rl_e (hW : wf now) : (0 ≤ (now 2).toInt ∧ (now 2).toInt ≤ 200) ∧ (0 ≤ (now 3).toInt ∧ (now 3).toInt ≤ 100) ∧ now 2 = zI (now 2).toInt ∧ now 3 = zI (now 3).toInt := ⟨hW.2.2.1.1, hW.2.2.1.2.1, (zI_self _).symm, (zI_self _).symm⟩
theorem lift_b {L : Int} {d : Nat} (h1 : 0 ≤ L) (h2 : L ≤ 100) (hd : d ≤ 2) : 0 ≤ L * (d : Int) ∧ L * (d : Int) ≤ 200 := by
  rcases (show d = 0 ∨ d = 1 ∨ d = 2 by omega) with rfl | rfl | rfl <;> omega
theorem kt_m (hW : wf now) {s h : Nat} (hs : vst (nn now) s) {t : Int} (h1 : -8 ≤ t) (h2 : t ≤ 9999) (hh : 1 ≤ h ∧ h ≤ 3) : f_Model_keepsTime now (nI s) (zI t) (nI h) = some (b2i (okB now s t h)) := by
  have hn := (wf_n hW).1
  unfold f_Model_keepsTime okB
  by_cases c : s = 0
  · rw [if_pos (show nI s = 0 by rw [c]; rfl)]
    simp [c, b2i]
  · have h3 : (s - 1) / 2 < nn now := hs.resolve_left c
    obtain ⟨b1, b2⟩ := stk_b hW h3
    obtain ⟨g1, g2, g3, g4⟩ := rl_e hW
    have hd : (((h : Int) - sHt now s).natAbs : Nat) ≤ 2 := by have := sht_c now s; omega
    have hl := lift_b g2.1 g2.2 hd
    have hj : jabs (nI h - nI (sHt now s)) = nI ((h : Int) - sHt now s).natAbs := by
      rw [← zI_nI, ← zI_nI, zI_sub]
      have := sht_c now s
      exact jabs_z (by omega) (by omega)
    rw [if_neg (show ¬ nI s = 0 from nI_ne0 (by omega) (by omega)), tkO_m hW (by omega) h3, b1_e, zI_sub, nm_e1, rd_l (i := 2) 2 rfl (by omega) (by omega), rd_l (i := 3) 3 rfl (by omega) (by omega), htO_m hW (by omega) h3, b1_e, nm_e1, hj, g3, g4, ← zI_nI, zI_mul]
    have d0 : decide (s = 0) = false := by simp [c]
    rw [d0, Bool.false_or, zI_toInt (by omega) (by omega), zI_toInt (by omega) (by omega)]
    by_cases c1 : (now 2).toInt ≤ t - sTk now s
    · rw [if_neg (show ¬ zI (t - sTk now s) < zI (now 2).toInt by rw [zI_lt (by omega) (by omega) (by omega) (by omega)]; omega)]
      by_cases c2 : (now 3).toInt * ((((h : Int) - sHt now s).natAbs : Nat) : Int) ≤ t - sTk now s
      · rw [if_neg (show ¬ zI (t - sTk now s) < zI ((now 3).toInt * ((((h : Int) - sHt now s).natAbs : Nat) : Int)) by rw [zI_lt (by omega) (by omega) (by omega) (by omega)]; omega)]
        simp [c1, c2, b2i]
      · rw [if_pos (show zI (t - sTk now s) < zI ((now 3).toInt * ((((h : Int) - sHt now s).natAbs : Nat) : Int)) by rw [zI_lt (by omega) (by omega) (by omega) (by omega)]; omega)]
        simp [c1, c2, b2i]
    · rw [if_pos (show zI (t - sTk now s) < zI (now 2).toInt by rw [zI_lt (by omega) (by omega) (by omega) (by omega)]; omega)]
      simp [c1, b2i]
end HAND1
