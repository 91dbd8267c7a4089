section HAND2
variable {kinds ticks drums marks values counts hits now sT sH : Nat → Int32} {count there : Int32}
theorem b2i_t {α : Type} (b : Bool) (p q : α) : (if b2i b = 0 then p else q) = if b = true then q else p := by cases b <;> rfl
theorem can_m (hW : wf now) {k h ow ot : Nat} (hk : k < nn now) (hh : h < 2) (ho : vst (nn now) ow) (ht : vst (nn now) ot) : f_Model_canBe now (nI k) (nI h) (nI ow) (nI ot) = some (b2i (canB now k h ow ot)) := by
  have hn := (wf_n hW).1
  obtain ⟨t1, t2, t3⟩ := tk_e hW hk
  have hg := gr_c now k
  have h27 : f_Model_canBe_27 now (nI k) (nI ow) (nI ot) = some (b2i (okB now ow (tkI now k) (htN now k) && (decide (grN now k = 0) || okB now ot (tkI now k - 4 * grN now k) 1))) := by
    have hmain : f_Model_heightOf now (1 + (2 * nI k)) = some (nI (htN now k)) := by
      have e : (1 : Int32) + (2 * nI k) = nI (2 * k + 1) := by
        show nI 1 + nI 2 * nI k = _
        rw [mul_n, add_n, Nat.add_comm]
      rw [e, htO_m hW (by omega) (by omega)]
      unfold sHt
      rw [if_pos (by omega)]
      congr 3
      omega
    have h71 : ∀ v : Bool, f_Model_canBe_71 now (nI k) (nI ow) (zI (tkI now k)) (b2i v) = some (b2i (okB now ow (tkI now k) (htN now k) && v)) := by
      intro v
      unfold f_Model_canBe_71
      rw [b2i_t, hmain, b1_e, kt_m hW ho (by omega) (by omega) (ht_c now k), b1_e, b2i_t]
      cases v <;> cases okB now ow (tkI now k) (htN now k) <;> rfl
    unfold f_Model_canBe_27
    have a27 : (27 : Int32) + nI k = nI (27 + k) := add_n 27 k
    rw [a27, rd_n (by omega) (by omega), t3, gr_m hW hk]
    simp only [b1_e]
    by_cases c : grN now k = 0
    · rw [if_pos (show nI (grN now k) = 0 by rw [c]; rfl)]
      have := h71 true
      rw [show b2i true = 1 from rfl] at this
      rw [this]
      simp [c]
    · have e4 : zI (tkI now k) - (4 * nI (grN now k)) = zI (tkI now k - 4 * grN now k) := by
        rw [← zI_nI]
        show zI (tkI now k) - (zI 4 * zI _) = _
        rw [zI_mul, zI_sub]
      rw [if_neg (show ¬ nI (grN now k) = 0 from nI_ne0 (by omega) (by omega)), e4]
      have hk1 := kt_m hW ht (t := tkI now k - 4 * grN now k) (h := 1) (by omega) (by omega) (by omega)
      have hk1' : f_Model_keepsTime now (nI ot) (zI (tkI now k - 4 * grN now k)) 1 = _ := hk1
      rw [hk1', b1_e, b2i_t]
      have d0 : decide (grN now k = 0) = false := by simp [c]
      rw [d0, Bool.false_or]
      have q1 := h71 true
      have q0 := h71 false
      rw [show b2i true = 1 from rfl] at q1
      rw [show b2i false = 0 from rfl] at q0
      rw [q1, q0]
      cases okB now ot (tkI now k - 4 * grN now k) 1 <;> rfl
  unfold f_Model_canBe
  have a67 : (67 : Int32) + nI k = nI (67 + k) := add_n 67 k
  rw [a67, rd_n (by omega) (by omega), rd_n (by omega) (by omega), h27]
  unfold canB
  have z0 : (0 : Int32).toInt = 0 := rfl
  have zh : (nI h).toInt = (h : Int) := ito (by omega)
  by_cases c1 : now (67 + k) < 0
  · rw [if_pos c1]
    have d : decide ((now (67 + k)).toInt < 0) = true := by rw [ltI, z0] at c1; simp [c1]
    rw [d, Bool.true_or, Bool.true_and]
  · rw [if_neg c1]
    have d : decide ((now (67 + k)).toInt < 0) = false := by rw [ltI, z0] at c1; simp [c1]
    rw [d, Bool.false_or]
    by_cases c2 : now (67 + k) = nI h
    · rw [if_pos c2]
      have d2 : decide ((now (67 + k)).toInt = (h : Int)) = true := by rw [c2, zh]; simp
      rw [d2, Bool.true_and]
    · rw [if_neg c2]
      have d2 : decide ((now (67 + k)).toInt = (h : Int)) = false := by
        rw [eqI, zh] at c2
        simp [c2]
      rw [d2]
      rfl
theorem oth_m (hW : wf now) {k o : Nat} (hk : k < nn now) : f_Model_otherThen now (nI k) (nI o) = some (nI (othN now k o)) := by
  have hn := (wf_n hW).1
  have hg := gr_c now k
  unfold f_Model_otherThen othN
  rw [gr_m hW hk, b1_e]
  by_cases c : grN now k = 0
  · rw [if_pos (show nI (grN now k) ≤ 0 by rw [c]; decide), if_pos c]
  · rw [if_neg (show ¬ nI (grN now k) ≤ 0 from nI_nle (by omega) (by omega)), if_neg c]
    show some (nI 2 + nI 2 * nI k) = _
    rw [mul_n, add_n, Nat.add_comm]
theorem crs_m (hW : wf now) {k h o : Nat} (hk : k < nn now) (hh : h < 2) (ho : vst (nn now) o) : f_Model_isCrossed now (nI k) (nI h) (nI o) = some (b2i (crsB now k h o)) := by
  have hn := (wf_n hW).1
  obtain ⟨d1, d2, d3⟩ := dr_e hW hk
  unfold f_Model_isCrossed crsB
  by_cases c : o = 0
  · rw [if_pos (show nI o = 0 by rw [c]; rfl)]
    simp [c, b2i]
  · have h3 : (o - 1) / 2 < nn now := ho.resolve_left c
    obtain ⟨e1, e2, e3⟩ := dr_e hW h3
    have a1 : (47 : Int32) + nI k = nI (47 + k) := add_n 47 k
    have a2 : (47 : Int32) + nI ((o - 1) / 2) = nI (47 + (o - 1) / 2) := add_n 47 _
    rw [if_neg (show ¬ nI o = 0 from nI_ne0 (by omega) (by omega)), a1, rd_n (by omega) (by omega), hf_e (by omega) (by omega), nm_e1, a2, rd_n (by omega) (by omega), d3, e3]
    have dd : decide (o ≠ 0) = true := by simp [c]
    rw [dd, Bool.true_and]
    rcases (show h = 0 ∨ h = 1 by omega) with rfl | rfl
    · rw [if_neg (show ¬ nI 0 = 1 by decide), if_neg (show ¬ (0 : Nat) = 1 by omega)]
      by_cases c2 : drI now ((o - 1) / 2) < drI now k
      · rw [if_neg (show ¬ zI (drI now k) ≤ zI (drI now ((o - 1) / 2)) by rw [zI_le (by omega) (by omega) (by omega) (by omega)]; omega)]
        simp [c2, b2i]
      · rw [if_pos (show zI (drI now k) ≤ zI (drI now ((o - 1) / 2)) by rw [zI_le (by omega) (by omega) (by omega) (by omega)]; omega)]
        simp [c2, b2i]
    · rw [if_pos (show nI 1 = 1 from rfl), if_pos (show (1 : Nat) = 1 from rfl)]
      by_cases c2 : drI now k < drI now ((o - 1) / 2)
      · rw [if_neg (show ¬ zI (drI now ((o - 1) / 2)) ≤ zI (drI now k) by rw [zI_le (by omega) (by omega) (by omega) (by omega)]; omega)]
        simp [c2, b2i]
      · rw [if_pos (show zI (drI now ((o - 1) / 2)) ≤ zI (drI now k) by rw [zI_le (by omega) (by omega) (by omega) (by omega)]; omega)]
        simp [c2, b2i]
theorem awk_m (hW : wf now) {k h : Nat} (hk : k < nn now) (hh : h < 2) {a : Int32} {same : Bool} (hs : same = true ↔ nI h = a) (hs0 : same = true → 0 < k) (cr : Bool) : f_Model_awkwardness now (nI k) (nI h) a (b2i cr) = some (nI (awkN now k h same cr)) := by
  have hn := (wf_n hW).1
  obtain ⟨k4, ke⟩ := kd_e hW hk
  obtain ⟨t1, t2, t3⟩ := tk_e hW hk
  have hg := gr_c now k
  have h84 : 0 < k → ∀ u v : Nat, u ≤ 100 → v ≤ 1 → f_Model_awkwardness_84 now (nI k) (nI u) (nI v) = some (nI (u + v + (if 0 < grN now k ∧ 0 < grN now (k - 1) then 3 else 0))) := by
    intro hk0 u v hu hv
    have hg1 := gr_c now (k - 1)
    unfold f_Model_awkwardness_84
    have ek : nI k - 1 = nI (k - 1) := sub_n (b := 1) (by omega)
    have e0 : ∀ z : Nat, nI z + 0 = nI z := fun z => add_n z 0
    have e3 : ∀ z : Nat, nI z + 3 = nI (z + 3) := fun z => add_n z 3
    rw [gr_m hW hk, ek, gr_m hW (show k - 1 < nn now by omega)]
    simp only [nm_e1, b1_e, add_n, e0, e3]
    by_cases c1 : grN now k = 0
    · rw [if_pos (show nI (grN now k) ≤ 0 by rw [c1]; decide), if_neg (by omega)]
      rfl
    · rw [if_neg (show ¬ nI (grN now k) ≤ 0 from nI_nle (by omega) (by omega))]
      by_cases c2 : grN now (k - 1) = 0
      · rw [if_pos (show nI (grN now (k - 1)) ≤ 0 by rw [c2]; decide), if_neg (by omega)]
        rfl
      · rw [if_neg (show ¬ nI (grN now (k - 1)) ≤ 0 from nI_nle (by omega) (by omega)), if_pos (by omega)]
  have h36 : ∀ u v : Nat, u ≤ 10 → v ≤ 1 → f_Model_awkwardness_36 now (nI k) (nI h) a (nI u) (nI v) = some (nI (u + v + (if same = true then 2 + (if tkI now k - tkI now (k - 1) < (now 5).toInt then 1 else 0) + (if 0 < grN now k ∧ 0 < grN now (k - 1) then 3 else 0) else 0))) := by
    intro u v hu hv
    unfold f_Model_awkwardness_36
    rw [add_n, nm_e1]
    by_cases c1 : same = true
    · rw [if_pos (hs.mp c1), if_pos c1]
      have hk0 := hs0 c1
      obtain ⟨s1, s2, s3⟩ := tk_e hW (show k - 1 < nn now by omega)
      have f5 : 0 ≤ (now 5).toInt ∧ (now 5).toInt ≤ 200 := hW.2.2.1.2.2.2.1
      have f5e : now 5 = zI (now 5).toInt := (zI_self _).symm
      have a27 : (27 : Int32) + nI k = nI (27 + k) := add_n 27 k
      have a26 : ((27 : Int32) + nI k) - 1 = nI (27 + (k - 1)) := by
        show (nI 27 + nI k) - nI 1 = _
        rw [add_n, sub_n (by omega)]
        congr 1
        omega
      have e2 : nI (u + v) + 2 = nI (u + v + 2) := add_n _ 2
      have x0 := h84 hk0 (u + v + 2) 0 (by omega) (by omega)
      have x1 := h84 hk0 (u + v + 2) 1 (by omega) (by omega)
      have x0' : f_Model_awkwardness_84 now (nI k) (nI (u + v + 2)) 0 = _ := x0
      have x1' : f_Model_awkwardness_84 now (nI k) (nI (u + v + 2)) 1 = _ := x1
      rw [e2, nm_e1, a26, a27, rd_n (by omega) (by omega), rd_n (by omega) (by omega), rd_l (i := 5) 5 rfl (by omega) (by omega), t3, s3, zI_sub, x0', x1', f5e, zI_toInt (by omega) (by omega)]
      by_cases c2 : tkI now k - tkI now (k - 1) < (now 5).toInt
      · rw [if_neg (show ¬ zI (now 5).toInt ≤ zI (tkI now k - tkI now (k - 1)) by rw [zI_le (by omega) (by omega) (by omega) (by omega)]; omega), if_pos c2]
        congr 2
        omega
      · rw [if_pos (show zI (now 5).toInt ≤ zI (tkI now k - tkI now (k - 1)) by rw [zI_le (by omega) (by omega) (by omega) (by omega)]; omega), if_neg c2]
        congr 2
        omega
    · rw [if_neg (fun q => c1 (hs.mpr q)), if_neg c1]
      rfl
  have h10 : ∀ u : Nat, u ≤ 10 → f_Model_awkwardness_10 now (nI k) (nI h) a (nI u) = some (nI (u + (if kdN now k = 1 ∧ h = 0 then 1 else 0) + (if same = true then 2 + (if tkI now k - tkI now (k - 1) < (now 5).toInt then 1 else 0) + (if 0 < grN now k ∧ 0 < grN now (k - 1) then 3 else 0) else 0))) := by
    intro u hu
    unfold f_Model_awkwardness_10
    have a7 : (7 : Int32) + nI k = nI (7 + k) := add_n 7 k
    have y0 := h36 u 0 hu (by omega)
    have y1 := h36 u 1 hu (by omega)
    have y0' : f_Model_awkwardness_36 now (nI k) (nI h) a (nI u) 0 = _ := y0
    have y1' : f_Model_awkwardness_36 now (nI k) (nI h) a (nI u) 1 = _ := y1
    rw [a7, rd_n (by omega) (by omega), ke, y0', y1']
    by_cases c1 : kdN now k = 1
    · rw [if_pos (show nI (kdN now k) = 1 by rw [c1]; rfl)]
      by_cases c2 : h = 0
      · rw [if_pos (show nI h = 0 by rw [c2]; rfl), if_pos (show kdN now k = 1 ∧ h = 0 from ⟨c1, c2⟩)]
      · rw [if_neg (show ¬ nI h = 0 from nI_ne0 (by omega) (by omega)), if_neg (show ¬ (kdN now k = 1 ∧ h = 0) from fun q => c2 q.2)]
    · rw [if_neg (show ¬ nI (kdN now k) = (1 : Int32) from fun q => c1 ((nI_eq (b := 1) (by omega) (by omega)).mp q)), if_neg (show ¬ (kdN now k = 1 ∧ h = 0) from fun q => c1 q.1)]
  unfold f_Model_awkwardness awkN
  have w0 := h10 0 (by omega)
  have w2 := h10 2 (by omega)
  have w0' : f_Model_awkwardness_10 now (nI k) (nI h) a 0 = _ := w0
  have w2' : f_Model_awkwardness_10 now (nI k) (nI h) a 2 = _ := w2
  rw [w0', w2', b2i_t]
  cases cr <;> rfl
end HAND2
