section THEM
variable {now : Nat → Int32}
def fnd (now : Nat → Int32) (F n : Nat) (ho ca so : Nat → Int32) (j : Nat) : Prop := ho j = nI (bt F n j) ∧ ca j = b2i (crsB now j (bt F n j) (pS now F n (j + 1)).2.1) ∧ so (2 * j) = nI (aL (j + 1) (pS now F n (j + 1))) ∧ so (2 * j + 1) = nI (aR (j + 1) (pS now F n (j + 1)))
theorem nar_b (b : Bool) : vp_nar .boolean (b2i b) = b2i b := by cases b <;> rfl
theorem ft31 (hW : wf now) {F n : Nat} (hn : n = nn now) (hw : way now F n) {least ways : Nat → Int32} (hA : ∀ k2 st, k2 + 1 < n → vS (k2 + 1) st → okS now (n - 1) least ways k2 st) : ∀ (d k N : Nat) (tc tw bc bw : Int32) (ho ca so : Nat → Int32), k + d = n → d < N → (∀ j, j < k → fnd now F n ho ca so j) → ∃ tc2 tw2 bc2 bw2 ho2 ca2 so2, f_Model_findThem_31 now N (zI ((n : Int) - 1)) (if k = 0 then -1 else nI (pS now F n k).1) (nI (pS now F n k).2.1) (nI (pS now F n k).2.2) (nI k) least ways tc tw bc bw ho ca so = some (1, least, ways, tc2, tw2, bc2, bw2, ho2, ca2, so2) ∧ ∀ j, j < n → fnd now F n ho2 ca2 so2 j := by
  have hn20 := (wf_n hW).1
  intro d
  induction d with
  | zero =>
    intro k N tc tw bc bw ho ca so h1 h2 hf
    obtain ⟨N, rfl⟩ : ∃ m, N = m + 1 := ⟨N - 1, by omega⟩
    refine ⟨tc, tw, bc, bw, ho, ca, so, ?_, fun j hj => hf j (by omega)⟩
    show f_Model_findThem_31_b now (f_Model_findThem_31 now N) _ _ _ _ _ _ _ _ _ _ _ _ _ _ = _
    unfold f_Model_findThem_31_b
    rw [if_pos (show zI ((n : Int) - 1) < nI k by rw [← zI_nI, zI_lt (by omega) (by omega) (by omega) (by omega)]; omega)]
  | succ d ih =>
    intro k N tc tw bc bw ho ca so h1 h2 hf
    obtain ⟨N, rfl⟩ : ∃ m, N = m + 1 := ⟨N - 1, by omega⟩
    have hkn : k < n := by omega
    have hv := hw.1 k (by omega)
    obtain ⟨⟨a, htr⟩, hch⟩ := hw.2 k hkn
    obtain ⟨q1, q2, q3, q4⟩ := trN_i htr
    have hb2 := bt_2 F n k
    have hl : n - 1 < nn now := by omega
    have hm := both_m hW (k := k) (l := n - 1) (st := pS now F n k) (by omega) hl hv (fun q st2 v2 => hA k st2 (by omega) v2) rfl tc tw bc bw
    have hfo := fol_m hW (k := k) (l := n - 1) (h := 0) (st := pS now F n k) (by omega) hl (by omega) hv (fun q st2 v2 => hA k st2 (by omega) v2) rfl (nI (cst (Vh now (n - 1) k (pS now F n k) 1))) (nI (wys (Vh now (n - 1) k (pS now F n k) 1)))
    have e1 : n - 1 + 1 - k = n - k := by omega
    rw [e1] at hm
    have e2 : zI ((n : Int) - 1) = nI (n - 1) := by
      rw [← zI_nI]
      congr 1
      omega
    have e3 : nI k - 1 = zI ((k : Int) - 1) := by
      rw [← zI_nI]
      show zI (k : Int) - zI 1 = _
      rw [zI_sub]
    have hcb : cst (T1 now (n - k) k (pS now F n k)) ≤ 1000000 := cst_b (T1_b now (n - k) k _) (by omega)
    have hcb2 : cst (Vh now (n - 1) k (pS now F n k) 0) ≤ 1000000 := by
      cases hu : Vh now (n - 1) k (pS now F n k) 0 with
      | none => exact Nat.le_refl _
      | some y =>
        have := (Vh_b now (k := k) (pS now F n k) 0 (show n - 1 < 20 by omega) y hu).1
        show y.1 ≤ 1000000
        omega
    have ho2 := (ot_b (h := bt F n k) hv).2
    have ho3 := oth_b (x := now) ho2
    generalize hst : pS now F n k = st at *
    generalize hbt : bt F n k = h at *
    have hst2 : (pS now F n (k + 1)).1 = h := by rw [q2]
    have hst3 : (pS now F n (k + 1)).2.1 = othN now k (otN k st h) := by rw [q2]
    have hst4 : (pS now F n (k + 1)).2.2 = st.2.2 + (if crsB now k h (othN now k (otN k st h)) = true then 1 else 0) := by rw [q2]
    have haL : aL (k + 1) (pS now F n (k + 1)) = (if h = 0 then 2 * k + 1 else othN now k (otN k st h)) := by rw [q2]; exact (a_n hb2).1
    have haR : aR (k + 1) (pS now F n (k + 1)) = (if h = 0 then othN now k (otN k st h) else 2 * k + 1) := by rw [q2]; exact (a_n hb2).2
    obtain ⟨tc2, tw2, bc2, bw2, ho4, ca4, so4, i1, i2⟩ := ih (k + 1) N (nI (cst (Vh now (n - 1) k st 0))) (nI (wys (Vh now (n - 1) k st 0))) (nI (cst (T1 now (n - k) k st))) (nI (wys (T1 now (n - k) k st))) (upd ho k (nI h)) (upd ca k (b2i (crsB now k h (othN now k (otN k st h))))) (upd (upd so (2 * k + h) (nI (2 * k + 1))) (2 * k + 1 - h) (nI (othN now k (otN k st h)))) (by omega) (by omega) (by
      intro j hj
      by_cases c : j = k
      · subst c
        unfold fnd
        rw [upd_s, upd_s, hbt, hst3, haL, haR]
        refine ⟨rfl, rfl, ?_, ?_⟩
        · rcases (show h = 0 ∨ h = 1 by omega) with r | r <;> subst r
          · rw [upd_n (by omega), Nat.add_zero, upd_s, if_pos rfl]
          · rw [show 2 * j + 1 - 1 = 2 * j by omega, upd_s, if_neg (by omega)]
        · rcases (show h = 0 ∨ h = 1 by omega) with r | r <;> subst r
          · rw [show 2 * j + 1 - 0 = 2 * j + 1 by omega, upd_s, if_pos rfl]
          · rw [upd_n (by omega), upd_s, if_neg (by omega)]
      · obtain ⟨g1, g2, g3, g4⟩ := hf j (by omega)
        unfold fnd
        rw [upd_n c, upd_n c, upd_n (by omega), upd_n (by omega), upd_n (by omega), upd_n (by omega)]
        exact ⟨g1, g2, g3, g4⟩)
    refine ⟨tc2, tw2, bc2, bw2, ho4, ca4, so4, ?_, i2⟩
    rw [← i1]
    show f_Model_findThem_31_b now (f_Model_findThem_31 now N) _ _ _ _ _ _ _ _ _ _ _ _ _ _ = _
    unfold f_Model_findThem_31_b
    rw [if_neg (show ¬ zI ((n : Int) - 1) < nI k by rw [← zI_nI, zI_lt (by omega) (by omega) (by omega) (by omega)]; omega), e3, e2, hm, b4_e]
    have hfo' : f_Model_follows now least ways (nI (cst (Vh now (n - 1) k st 1))) (nI (wys (Vh now (n - 1) k st 1))) (zI ((k : Int) - 1)) (if k = 0 then -1 else nI st.1) (nI st.2.1) (nI st.2.2) 0 (nI (n - 1)) = _ := hfo
    rw [hfo', b2_e]
    have hif : ∀ (p q : Option (Int32 × (Nat → Int32) × (Nat → Int32) × Int32 × Int32 × Int32 × Int32 × (Nat → Int32) × (Nat → Int32) × (Nat → Int32))), (if nI (cst (Vh now (n - 1) k st 0)) = nI (cst (T1 now (n - k) k st)) then p else q) = if h = 0 then p else q := by
      intro p q
      by_cases c : h = 0
      · rw [if_pos c, if_pos ((eq_i (by omega) (by omega)).mpr (hch.mp c))]
      · rw [if_neg c, if_neg (fun r => c (hch.mpr ((eq_i (by omega) (by omega)).mp r)))]
    rw [hif]
    have h84 : f_Model_findThem_84 now (f_Model_findThem_31 now N) (nI (n - 1)) (if k = 0 then -1 else nI st.1) (nI st.2.1) (nI st.2.2) (nI k) (nI h) least ways (nI (cst (Vh now (n - 1) k st 0))) (nI (wys (Vh now (n - 1) k st 0))) (nI (cst (T1 now (n - k) k st))) (nI (wys (T1 now (n - k) k st))) ho ca so = f_Model_findThem_31 now N (nI (n - 1)) (if k + 1 = 0 then -1 else nI (pS now F n (k + 1)).1) (nI (pS now F n (k + 1)).2.1) (nI (pS now F n (k + 1)).2.2) (nI (k + 1)) least ways (nI (cst (Vh now (n - 1) k st 0))) (nI (wys (Vh now (n - 1) k st 0))) (nI (cst (T1 now (n - k) k st))) (nI (wys (T1 now (n - k) k st))) (upd ho k (nI h)) (upd ca k (b2i (crsB now k h (othN now k (otN k st h))))) (upd (upd so (2 * k + h) (nI (2 * k + 1))) (2 * k + 1 - h) (nI (othN now k (otN k st h)))) := by
      rw [if_neg (show ¬ k + 1 = 0 by omega), hst2, hst3, hst4]
      have h118 : f_Model_findThem_118 now (f_Model_findThem_31 now N) (nI (n - 1)) (nI st.2.2) (nI k) (nI h) (nI k) (nI (otN k st h)) least ways (nI (cst (Vh now (n - 1) k st 0))) (nI (wys (Vh now (n - 1) k st 0))) (nI (cst (T1 now (n - k) k st))) (nI (wys (T1 now (n - k) k st))) ho ca so = f_Model_findThem_31 now N (nI (n - 1)) (nI h) (nI (othN now k (otN k st h))) (nI (st.2.2 + (if crsB now k h (othN now k (otN k st h)) = true then 1 else 0))) (nI (k + 1)) least ways (nI (cst (Vh now (n - 1) k st 0))) (nI (wys (Vh now (n - 1) k st 0))) (nI (cst (T1 now (n - k) k st))) (nI (wys (T1 now (n - k) k st))) (upd ho k (nI h)) (upd ca k (b2i (crsB now k h (othN now k (otN k st h))))) (upd (upd so (2 * k + h) (nI (2 * k + 1))) (2 * k + 1 - h) (nI (othN now k (otN k st h)))) := by
        have h167 : ∀ v : Nat, f_Model_findThem_167 now (f_Model_findThem_31 now N) (nI (n - 1)) (nI h) (nI (othN now k (otN k st h))) (nI k) (nI h) (nI st.2.2) (nI v) least ways (nI (cst (Vh now (n - 1) k st 0))) (nI (wys (Vh now (n - 1) k st 0))) (nI (cst (T1 now (n - k) k st))) (nI (wys (T1 now (n - k) k st))) (upd ho k (nI h)) (upd ca k (b2i (crsB now k h (othN now k (otN k st h))))) so = f_Model_findThem_31 now N (nI (n - 1)) (nI h) (nI (othN now k (otN k st h))) (nI (st.2.2 + v)) (nI (k + 1)) least ways (nI (cst (Vh now (n - 1) k st 0))) (nI (wys (Vh now (n - 1) k st 0))) (nI (cst (T1 now (n - k) k st))) (nI (wys (T1 now (n - k) k st))) (upd ho k (nI h)) (upd ca k (b2i (crsB now k h (othN now k (otN k st h))))) (upd (upd so (2 * k + h) (nI (2 * k + 1))) (2 * k + 1 - h) (nI (othN now k (otN k st h)))) := by
          intro v
          unfold f_Model_findThem_167
          have g1 : (1 : Int32) + (2 * nI k) = nI (2 * k + 1) := by
            show nI 1 + nI 2 * nI k = _
            rw [mul_n, add_n, Nat.add_comm]
          have g2 : ((2 : Int32) * nI k) + nI h = nI (2 * k + h) := by
            show nI 2 * nI k + nI h = _
            rw [mul_n, add_n]
          have g3 : (((2 : Int32) * nI k) + 1) - nI h = nI (2 * k + 1 - h) := by
            show (nI 2 * nI k + nI 1) - nI h = _
            rw [mul_n, add_n, sub_n (by omega)]
          rw [add_n, nm_e1, g1, nm_e1, g2, g3, ck_n (by omega) (by omega), ck_n (by omega) (by omega), nm_e1, nI_1, cl_n (by omega), cl_n (by omega)]
        unfold f_Model_findThem_118
        rw [oth_m hW (by omega), b1_e, ck_n (by omega) (by omega), crs_m hW (by omega) hb2 (vst_b (k := k + 1) ho3 (by omega)), b1_e, ck_n (by omega) (by omega), cl_n (by omega), nar_b, rd_n (by omega) (by omega), upd_s, b2i_t]
        have z0 := h167 0
        have z1 := h167 1
        rw [show nI 0 = (0 : Int32) from rfl] at z0
        rw [show nI 1 = (1 : Int32) from rfl] at z1
        rw [z0, z1]
        cases crsB now k h (othN now k (otN k st h)) <;> rfl
      have h101 : f_Model_findThem_101 now (f_Model_findThem_31 now N) (nI (n - 1)) (if k = 0 then -1 else nI st.1) (nI st.2.1) (nI st.2.2) (nI k) (nI h) (nI (mineN k)) least ways (nI (cst (Vh now (n - 1) k st 0))) (nI (wys (Vh now (n - 1) k st 0))) (nI (cst (T1 now (n - k) k st))) (nI (wys (T1 now (n - k) k st))) ho ca so = f_Model_findThem_118 now (f_Model_findThem_31 now N) (nI (n - 1)) (nI st.2.2) (nI k) (nI h) (nI k) (nI (otN k st h)) least ways (nI (cst (Vh now (n - 1) k st 0))) (nI (wys (Vh now (n - 1) k st 0))) (nI (cst (T1 now (n - k) k st))) (nI (wys (T1 now (n - k) k st))) ho ca so := by
        unfold f_Model_findThem_101
        have hs1 := hv.1
        by_cases c : k = 0
        · have e4 : st.2.1 = 0 := by have := hv.2.1; omega
          have e5 : mineN k = 0 := by rw [c]; rfl
          have e6 : otN k st h = 0 := by unfold otN; split <;> assumption
          rw [e4, e5, e6, ite_self]
        · rw [if_neg c]
          unfold otN
          by_cases c2 : h = st.1
          · rw [if_pos ((eq_i (by omega) (by omega)).mpr c2), if_pos c2]
          · rw [if_neg (fun q => c2 ((eq_i (by omega) (by omega)).mp q)), if_neg c2]
      rw [← h118, ← h101]
      unfold f_Model_findThem_84
      by_cases c : k = 0
      · have e5 : mineN k = 0 := by rw [c]; rfl
        rw [if_pos (show nI k = 0 by rw [c]; rfl), e5]
        rfl
      · have e5 : ((2 : Int32) * nI k) - 1 = nI (mineN k) := by
          show nI 2 * nI k - nI 1 = _
          rw [mul_n, sub_n (by omega)]
          unfold mineN
          rw [if_neg c]
        rw [if_neg (show ¬ nI k = 0 from nI_ne0 (by omega) (by omega)), e5]
    rw [← h84]
    rcases (show h = 0 ∨ h = 1 by omega) with r | r <;> subst r
    · rw [if_pos rfl]
      rfl
    · rw [if_neg (by omega)]
      rfl
theorem ft_m (hW : wf now) (least ways : Nat → Int32) (tc tw bc bw : Int32) (ho ca so : Nat → Int32) : (TT now (nn now) = none → ∃ l2 w2 a b c d, f_Model_findThem now least ways tc tw bc bw ho ca so = some (0, l2, w2, a, b, c, d, ho, ca, so)) ∧ ∀ p F w, TT now (nn now) = some (p, F, w) → ∃ l2 w2 a b c d ho2 ca2 so2, f_Model_findThem now least ways tc tw bc bw ho ca so = some (1, l2, w2, a, b, c, d, ho2, ca2, so2) ∧ ∀ j, j < nn now → fnd now F (nn now) ho2 ca2 so2 j := by
  obtain ⟨hn, h0⟩ := wf_n hW
  obtain ⟨l2, w2, a, b, c, e1, e2⟩ := cu_m hW (Nat.le_refl (nn now)) least ways tc tw bc bw
  have e3 : nI (nn now) - 1 = zI (((nn now : Nat) : Int) - 1) := by
    rw [← zI_nI]
    show zI ((nn now : Nat) : Int) - zI 1 = _
    rw [zI_sub]
  constructor
  · intro hT
    refine ⟨l2, w2, a, b, c, nI (wys none), ?_⟩
    unfold f_Model_findThem
    rw [rd_l (i := 0) 0 rfl (by omega) (by omega), h0, nm_e1, e3, e1, b7_e, hT, if_neg (show ¬ nI (cst none) < (1000000 : Int32) by decide)]
  · intro p F w hT
    obtain ⟨hF, hw⟩ := way_e hW hn hT
    have hp : p ≤ 9 * nn now := (T1_b now (nn now) 0 (0, 0, 0) _ hT).1
    obtain ⟨tc2, tw2, bc2, bw2, ho2, ca2, so2, i1, i2⟩ := ft31 hW rfl hw e2 (nn now) 0 fu a b c (nI (wys (TT now (nn now)))) ho ca so (by omega) (by unfold fu; omega) (fun j hj => absurd hj (by omega))
    refine ⟨l2, w2, tc2, tw2, bc2, bw2, ho2, ca2, so2, ?_, i2⟩
    unfold f_Model_findThem
    rw [rd_l (i := 0) 0 rfl (by omega) (by omega), h0, nm_e1, e3, e1, b7_e]
    have hlt : nI (cst (TT now (nn now))) < (1000000 : Int32) := by
      rw [hT]
      show nI p < nI 1000000
      rw [lt_i (by omega) (by omega)]
      omega
    rw [if_pos hlt]
    exact i1
end THEM
