section MATCH
variable {ticks hits values counts now : Nat → Int32} {n m p w : Nat}
def okh (ap : Nat → Nat → Nat) (w n m i nx h : Nat) : Bool := decide (ap i h ≤ w) && decide (40 * (h - nx) + ap i h + pr ap w n m (n - (i + 1)) (m - (h + 1)) = pr ap w n m (n - i) (m - nx))
def fbm (ok : Nat → Bool) : Nat → Nat → Int32
  | _, 0 => -1
  | h, d + 1 => if ok h = true then nI h else fbm ok (h + 1) d
theorem fbm_or (ok : Nat → Bool) : ∀ d h, fbm ok h d = -1 ∨ ∃ j, h ≤ j ∧ j < h + d ∧ fbm ok h d = nI j := by
  intro d
  induction d with
  | zero => intro h; exact Or.inl rfl
  | succ d ih =>
    intro h
    show (if ok h = true then nI h else fbm ok (h + 1) d) = -1 ∨ ∃ j, h ≤ j ∧ j < h + (d + 1) ∧ (if ok h = true then nI h else fbm ok (h + 1) d) = nI j
    by_cases c : ok h = true
    · rw [if_pos c]; exact Or.inr ⟨h, by omega, by omega, rfl⟩
    · rw [if_neg c]
      rcases ih (h + 1) with e | ⟨j, a, b, e⟩
      · exact Or.inl e
      · exact Or.inr ⟨j, by omega, by omega, e⟩
def cnt (f : Nat → Int32) : Nat → Nat
  | 0 => 0
  | i + 1 => cnt f i + (if f i < 0 then 0 else 1)
theorem cnt_c {f g : Nat → Int32} : ∀ i, (∀ j, j < i → f j = g j) → cnt f i = cnt g i := by
  intro i
  induction i with
  | zero => intro _; rfl
  | succ i ih =>
    intro h
    show cnt f i + (if f i < 0 then 0 else 1) = cnt g i + (if g i < 0 then 0 else 1)
    rw [ih (fun j hj => h j (by omega)), h i (by omega)]
theorem cnt_le (f : Nat → Int32) : ∀ i, cnt f i ≤ i := by
  intro i
  induction i with
  | zero => exact Nat.le_refl 0
  | succ i ih =>
    show cnt f i + (if f i < 0 then 0 else 1) ≤ i + 1
    split <;> omega
def tab (ticks hits : Nat → Int32) (p w n m : Nat) (f : Nat → Int32) : Prop := ∀ i k, i ≤ n → k ≤ m → f (25 * i + k) = nI (pr (apf ticks hits p) w n m (n - i) (m - k))
theorem fb_c (h : rin ticks hits values counts now n m p w) {f : Nat → Int32} (hf : tab ticks hits p w n m f) {i nx : Nat} (hi : i < n) (hnx : nx ≤ m) : ∀ (d k N : Nat), k + d = m → nx ≤ k → d < N → f_Reading_firstBestMatch_16 ticks values hits f (nI p) N (nI i) (nI nx) (nI m) (nI (pr (apf ticks hits p) w n m (n - i) (m - nx))) (nI k) = some (fbm (okh (apf ticks hits p) w n m i nx) k d) := by
  have h0 := h
  obtain ⟨h1, h2, h3, h4, h5, h6, h7, h8, h9, h10, h11⟩ := h
  intro d
  induction d with
  | zero =>
    intro k N g1 g2 g3
    obtain ⟨N, rfl⟩ : ∃ m, N = m + 1 := ⟨N - 1, by omega⟩
    obtain rfl : k = m := by omega
    show f_Reading_firstBestMatch_16_b ticks values hits f (nI p) (f_Reading_firstBestMatch_16 ticks values hits f (nI p) N) (nI i) (nI nx) (nI k) _ (nI k) = _
    unfold f_Reading_firstBestMatch_16_b
    rw [if_pos (nI_le (Nat.le_refl _) (by omega))]
    rfl
  | succ d ih =>
    intro k N g1 g2 g3
    obtain ⟨N, rfl⟩ : ∃ m, N = m + 1 := ⟨N - 1, by omega⟩
    show f_Reading_firstBestMatch_16_b ticks values hits f (nI p) (f_Reading_firstBestMatch_16 ticks values hits f (nI p) N) (nI i) (nI nx) (nI m) _ (nI k) = _
    unfold f_Reading_firstBestMatch_16_b
    have hap := ap_b h0 hi (show k < m by omega)
    have e3 : (((nI i + 1) * 25) + nI k) + 1 = nI (25 * (i + 1) + (k + 1)) := by rw [nI_1, x_25, nI_1]; congr 1
    have e40 : ∀ z : Nat, (40 : Int32) * nI z = nI (40 * z) := fun z => mul_n 40 z
    have e9 : nI k + 1 = nI (k + 1) := nI_1 k
    have q1 := pr_le (apf ticks hits p) w n m (n - (i + 1)) (m - (k + 1))
    have q2 := pr_le (apf ticks hits p) w n m (n - i) (m - nx)
    rw [if_neg (nI_ge (by omega) (by omega)), ap_c h0 hi (by omega), b1_e, e3, rd_n (by omega) (by omega), nm_e1, rd_l (i := 4) 4 rfl (by omega) (by omega), h6, hf (i + 1) (k + 1) (by omega) (by omega), sub_n g2, e40, add_n, add_n]
    simp only [nm_e1, e9]
    rw [ih (k + 1) N (by omega) (by omega) (by omega)]
    show _ = some (if okh (apf ticks hits p) w n m i nx k = true then nI k else fbm (okh (apf ticks hits p) w n m i nx) (k + 1) d)
    by_cases c1 : apf ticks hits p i k ≤ w
    · rw [if_neg (nI_nlt c1 (by omega))]
      by_cases c2 : 40 * (k - nx) + apf ticks hits p i k + pr (apf ticks hits p) w n m (n - (i + 1)) (m - (k + 1)) = pr (apf ticks hits p) w n m (n - i) (m - nx)
      · have o : okh (apf ticks hits p) w n m i nx k = true := by unfold okh; simp [c1, c2]
        rw [if_pos (by rw [c2]), if_pos o]
      · have o : ¬ okh (apf ticks hits p) w n m i nx k = true := by unfold okh; simp [c1, c2]
        rw [if_neg (fun q => c2 ((nI_eq (by omega) (by omega)).mp q)), if_neg o]
    · have o : ¬ okh (apf ticks hits p) w n m i nx k = true := by unfold okh; simp [c1]
      rw [if_pos (nI_lt (by omega) (by omega)), if_neg o]
theorem dn_lt {c nx : Nat} (hc1 : c ≤ 100) (hn : nx ≤ 100) : dn c < nI nx ↔ c ≤ nx := by
  unfold dn
  rw [← zI_nI, zI_lt (by omega) (by omega) (by omega) (by omega)]
  omega
theorem fb_m (h : rin ticks hits values counts now n m p w) {f : Nat → Int32} (hf : tab ticks hits p w n m f) {i nx : Nat} (hi : i < n) (hnx : nx ≤ m) (K : Int32 → Int32 → Int32 → Int32 → Int32 → (Nat → Int32) → (Nat → Int32) → Option ((Nat → Int32) × (Nat → Int32))) : ∀ (e c N : Nat) (ha : Nat → Int32), nx + e = c → c ≤ m → e < N → ha i = fbm (okh (apf ticks hits p) w n m i nx) c (m - c) → f_Model_findReading_177 now K N (nI p) (nI n) (nI m) (nI nx) (nI i) (dn c) f ha = (if fbm (okh (apf ticks hits p) w n m i nx) nx (m - nx) < 0 then K (nI p) (nI n) (nI m) (nI nx) (nI (i + 1)) f (upd ha i (fbm (okh (apf ticks hits p) w n m i nx) nx (m - nx))) else K (nI p) (nI n) (nI m) (fbm (okh (apf ticks hits p) w n m i nx) nx (m - nx) + 1) (nI (i + 1)) f (upd ha i (fbm (okh (apf ticks hits p) w n m i nx) nx (m - nx)))) := by
  have h0 := h
  obtain ⟨h1, h2, h3, h4, h5, h6, h7, h8, h9, h10, h11⟩ := h
  intro e
  induction e with
  | zero =>
    intro c N ha g1 g2 g3 g4
    obtain ⟨N, rfl⟩ : ∃ m, N = m + 1 := ⟨N - 1, by omega⟩
    obtain rfl : nx = c := by omega
    show f_Model_findReading_177_b now K (f_Model_findReading_177 now K N) (nI p) (nI n) (nI m) (nI nx) (nI i) (dn nx) f ha = _
    unfold f_Model_findReading_177_b
    have e9 : nI i + 1 = nI (i + 1) := nI_1 i
    rw [if_pos ((dn_lt (by omega) (by omega)).mpr (Nat.le_refl _))]
    simp only [rd_n (n := 20) (j := i) (by omega) (by omega), nm_e1, e9]
    rw [← g4, upd_same rfl]
  | succ e ih =>
    intro c N ha g1 g2 g3 g4
    obtain ⟨N, rfl⟩ : ∃ m, N = m + 1 := ⟨N - 1, by omega⟩
    obtain ⟨k, rfl⟩ : ∃ k, c = k + 1 := ⟨c - 1, by omega⟩
    have hap := ap_b h0 hi (show k < m by omega)
    have q1 := pr_le (apf ticks hits p) w n m (n - (i + 1)) (m - (k + 1))
    have q2 := pr_le (apf ticks hits p) w n m (n - i) (m - nx)
    have e40 : ∀ z : Nat, (40 : Int32) * nI z = nI (40 * z) := fun z => mul_n 40 z
    have e9 : nI i + 1 = nI (i + 1) := nI_1 i
    have e8 : nI k + 1 = nI (k + 1) := nI_1 k
    have ed : m - k = (m - (k + 1)) + 1 := by omega
    show f_Model_findReading_177_b now K (f_Model_findReading_177 now K N) (nI p) (nI n) (nI m) (nI nx) (nI i) (dn (k + 1)) f ha = _
    unfold f_Model_findReading_177_b f_Model_findReading_231
    rw [if_neg (fun q => by rw [dn_lt (by omega) (by omega)] at q; omega), dn_s, e9, e8, ap_m h0 hi (by omega), b1_e, pf_m (by omega) (by omega), b1_e, pf_m (by omega) (by omega), b1_e, hf (i + 1) (k + 1) (by omega) (by omega), hf i nx (by omega) (by omega), sub_n (by omega), e40, add_n, add_n]
    simp only [rd_n (n := 20) (j := i) (by omega) (by omega), ck_n (n := 20) (j := i) (by omega) (by omega), cl_n (show i < 2147483648 by omega), nm_e1, dn_m, i10, i00]
    have st : ∀ v : Int32, v = fbm (okh (apf ticks hits p) w n m i nx) k (m - k) → f_Model_findReading_177 now K N (nI p) (nI n) (nI m) (nI nx) (nI i) (dn k) f (upd ha i v) = (if fbm (okh (apf ticks hits p) w n m i nx) nx (m - nx) < 0 then K (nI p) (nI n) (nI m) (nI nx) (nI (i + 1)) f (upd ha i (fbm (okh (apf ticks hits p) w n m i nx) nx (m - nx))) else K (nI p) (nI n) (nI m) (fbm (okh (apf ticks hits p) w n m i nx) nx (m - nx) + 1) (nI (i + 1)) f (upd ha i (fbm (okh (apf ticks hits p) w n m i nx) nx (m - nx)))) := fun v hv => by
      have := ih k N (upd ha i v) (by omega) (by omega) (by omega) (by rw [upd_s]; exact hv)
      rw [upd_upd] at this
      exact this
    by_cases o : okh (apf ticks hits p) w n m i nx k = true
    · have o2 := o
      unfold okh at o2
      simp only [Bool.and_eq_true, decide_eq_true_eq] at o2
      rw [if_pos o2.1, if_pos (by rw [o2.2])]
      refine st _ ?_
      rw [ed]
      show _ = if okh (apf ticks hits p) w n m i nx k = true then nI k else fbm (okh (apf ticks hits p) w n m i nx) (k + 1) (m - (k + 1))
      rw [if_pos o]
    · have hne : ¬ nI (40 * (k - nx) + (if apf ticks hits p i k ≤ w then apf ticks hits p i k else 1000000) + pr (apf ticks hits p) w n m (n - (i + 1)) (m - (k + 1))) = nI (pr (apf ticks hits p) w n m (n - i) (m - nx)) := by
        intro q
        rw [nI_eq (by split <;> omega) (by omega)] at q
        by_cases c1 : apf ticks hits p i k ≤ w
        · rw [if_pos c1] at q
          exact o (by unfold okh; simp [c1, q])
        · rw [if_neg c1] at q
          omega
      rw [if_neg hne]
      first | rw [if_pos True.intro] | skip
      refine st _ ?_
      rw [g4, ed]
      show _ = if okh (apf ticks hits p) w n m i nx k = true then nI k else fbm (okh (apf ticks hits p) w n m i nx) (k + 1) (m - (k + 1))
      rw [if_neg o]
def gdh (m : Nat) (f : Nat → Int32) (i : Nat) : Prop := ∀ j, j < i → f j = -1 ∨ ∃ h, h < m ∧ f j = nI h
/-- both choose the same matches -/
theorem ch_e (h : rin ticks hits values counts now n m p w) {f g : Nat → Int32} (hf : tab ticks hits p w n m f) (hg : tab ticks hits p w n m g) : ∀ (d i nx N N2 : Nat) (ma ha : Nat → Int32), i + d = n → nx ≤ m → d < N → d < N2 → (∀ j, j < i → ma j = ha j) → gdh m ha i → ∃ ma2 ha2, f_Reading_chooseMatches_9 ticks (nI n) values hits f (nI p) N (nI m) (nI nx) (nI i) ma (nI (cnt ha i)) = some (ma2, nI (cnt ha2 n)) ∧ f_Model_findReading_158 now N2 (nI p) (nI n) (nI m) (nI nx) (nI i) g ha = some (g, ha2) ∧ (∀ j, j < n → ma2 j = ha2 j) ∧ gdh m ha2 n := by
  have h0 := h
  obtain ⟨h1, h2, h3, h4, h5, h6, h7, h8, h9, h10, h11⟩ := h
  intro d
  induction d with
  | zero =>
    intro i nx N N2 ma ha g1 g2 g3 g4 g5 g6
    obtain ⟨N, rfl⟩ : ∃ m, N = m + 1 := ⟨N - 1, by omega⟩
    obtain ⟨N2, rfl⟩ : ∃ m, N2 = m + 1 := ⟨N2 - 1, by omega⟩
    obtain rfl : i = n := by omega
    refine ⟨ma, ha, ?_, ?_, g5, g6⟩
    · show f_Reading_chooseMatches_9_b ticks (nI i) values hits f (nI p) (f_Reading_chooseMatches_9 ticks (nI i) values hits f (nI p) N) (nI m) (nI nx) (nI i) ma (nI (cnt ha i)) = _
      unfold f_Reading_chooseMatches_9_b
      rw [if_pos (nI_le (Nat.le_refl _) (by omega))]
    · show f_Model_findReading_158_b now (f_Model_findReading_158 now N2) (nI p) (nI i) (nI m) (nI nx) (nI i) g ha = _
      unfold f_Model_findReading_158_b
      rw [if_pos (nI_le (Nat.le_refl _) (by omega))]
  | succ d ih =>
    intro i nx N N2 ma ha g1 g2 g3 g4 g5 g6
    obtain ⟨N, rfl⟩ : ∃ m, N = m + 1 := ⟨N - 1, by omega⟩
    obtain ⟨N2, rfl⟩ : ∃ m, N2 = m + 1 := ⟨N2 - 1, by omega⟩
    have u1 : f_Reading_chooseMatches_9 ticks (nI n) values hits f (nI p) (N + 1) (nI m) (nI nx) (nI i) ma (nI (cnt ha i)) = f_Reading_chooseMatches_9_b ticks (nI n) values hits f (nI p) (f_Reading_chooseMatches_9 ticks (nI n) values hits f (nI p) N) (nI m) (nI nx) (nI i) ma (nI (cnt ha i)) := rfl
    have u2 : f_Model_findReading_158 now (N2 + 1) (nI p) (nI n) (nI m) (nI nx) (nI i) g ha = f_Model_findReading_158_b now (f_Model_findReading_158 now N2) (nI p) (nI n) (nI m) (nI nx) (nI i) g ha := rfl
    rw [u1, u2]
    unfold f_Reading_chooseMatches_9_b f_Model_findReading_158_b f_Reading_firstBestMatch
    have e9 : nI i + 1 = nI (i + 1) := nI_1 i
    have em : nI m - 1 = dn m := by
      unfold dn
      rw [← zI_nI]
      show zI m - zI 1 = _
      rw [zI_sub]
    have hmm := fb_m h0 hg (show i < n by omega) g2 (f_Model_findReading_158 now N2) (m - nx) m fu (upd ha i (-1)) (by omega) (Nat.le_refl m) (by unfold fu; omega) (by rw [upd_s, Nat.sub_self]; rfl)
    have hcc := fb_c h0 hf (show i < n by omega) g2 (m - nx) nx fu (by omega) (Nat.le_refl nx) (by unfold fu; omega)
    rw [if_neg (nI_ge (by omega) (by omega)), if_neg (nI_ge (by omega) (by omega)), x_25, rd_n (by omega) (by omega), hf i nx (by omega) g2, hcc, b1_e, ck_n (by omega) (by omega), ck_n (by omega) (by omega), cl_n (by omega), em, nm_e1 (dn m), hmm, upd_upd]
    simp only [nm_e1, e9]
    have hv := fbm_or (okh (apf ticks hits p) w n m i nx) (m - nx) nx
    generalize fbm (okh (apf ticks hits p) w n m i nx) nx (m - nx) = v at *
    have key : (v = -1 ∨ ∃ j, nx ≤ j ∧ j < m ∧ v = nI j) → ∃ ma2 ha2, (if v = -1 then f_Reading_chooseMatches_9 ticks (nI n) values hits f (nI p) N (nI m) (nI nx) (nI (i + 1)) (upd ma i v) (nI (cnt ha i)) else f_Reading_chooseMatches_9 ticks (nI n) values hits f (nI p) N (nI m) (v + 1) (nI (i + 1)) (upd ma i v) (nI (cnt ha i) + 1)) = some (ma2, nI (cnt ha2 n)) ∧ (if v < 0 then f_Model_findReading_158 now N2 (nI p) (nI n) (nI m) (nI nx) (nI (i + 1)) g (upd ha i v) else f_Model_findReading_158 now N2 (nI p) (nI n) (nI m) (v + 1) (nI (i + 1)) g (upd ha i v)) = some (g, ha2) ∧ (∀ j, j < n → ma2 j = ha2 j) ∧ gdh m ha2 n := by
      intro hv
      have ag : ∀ j, j < i + 1 → upd ma i v j = upd ha i v j := fun j hj => by
        rw [upd_d, upd_d]
        by_cases c : j = i
        · rw [if_pos c, if_pos c]
        · rw [if_neg c, if_neg c]; exact g5 j (by omega)
      have gd : gdh m (upd ha i v) (i + 1) := fun j hj => by
        rw [upd_d]
        by_cases c : j = i
        · rw [if_pos c]
          rcases hv with e | ⟨j, -, b, e⟩
          · exact Or.inl e
          · exact Or.inr ⟨j, b, e⟩
        · rw [if_neg c]; exact g6 j (by omega)
      have ec : cnt (upd ha i v) (i + 1) = cnt ha i + (if v < 0 then 0 else 1) := by
        show cnt (upd ha i v) i + (if upd ha i v i < 0 then 0 else 1) = _
        rw [upd_s, cnt_c i (fun j hj => upd_n (by omega))]
      rcases hv with e | ⟨j, a, b, e⟩
      · have d1 : v < 0 := by rw [e]; decide
        have ec2 : cnt (upd ha i v) (i + 1) = cnt ha i := by rw [ec, if_pos d1]; rfl
        rw [if_pos e, if_pos d1, ← ec2]
        exact ih (i + 1) nx N N2 _ _ (by omega) g2 (by omega) (by omega) ag gd
      · have d1 : ¬ v < 0 := by rw [e]; exact nI_pos (by omega)
        have d2 : ¬ v = -1 := fun q => d1 (by rw [q]; decide)
        have e7 : v + 1 = nI (j + 1) := by rw [e]; exact nI_1 j
        have hcl := cnt_le ha i
        rw [if_neg d1] at ec
        rw [if_neg d2, if_neg d1, e7, nI_1, ← ec]
        exact ih (i + 1) (j + 1) N N2 _ _ (by omega) (by omega) (by omega) (by omega) ag gd
    exact key (by
      first
        | exact hv
        | (rcases hv with e | ⟨j, a, b, e⟩
           · exact Or.inl e
           · exact Or.inr ⟨j, a, by omega, e⟩))
theorem find_e (h : rin ticks hits values counts now n m p w) (ma : Nat → Int32) (md : Int32) (pp : Nat → Int32) (pl : Int32) (mp mh : Nat → Int32) : ∃ ma2 ha2 f2 g2, f_Reading_find ticks (nI n) values counts hits ma md pp pl (nI p) = some (ma2, nI (cnt ha2 n), f2, nI p) ∧ f_Model_findReading now mp mh (nI p) = some (g2, ha2) ∧ (∀ j, j < n → ma2 j = ha2 j) ∧ gdh m ha2 n ∧ f2 0 = g2 0 := by
  have h0 := h
  obtain ⟨h1, h2, h3, h4, h5, h6, h7, h8, h9, h10, h11⟩ := h
  obtain ⟨f2, hf2, ef⟩ := fo_c h0 ma md (n + 1) fu pp (by omega) (by unfold fu; omega) (fun i k a b c => by omega)
  obtain ⟨g2, hg2, eg⟩ := fo_m h0 mh (n + 1) fu mp (by omega) (by unfold fu; omega) (fun i k a b c => by omega)
  obtain ⟨ma2, ha2, e1, e2, e3, e4⟩ := ch_e h0 hf2 hg2 n 0 0 fu fu ma mh (by omega) (by omega) (by unfold fu; omega) (by unfold fu; omega) (fun j hj => by omega) (fun j hj => by omega)
  refine ⟨ma2, ha2, f2, g2, ?_, ?_, e3, e4, ?_⟩
  · unfold f_Reading_find
    rw [rd_n h3 (by omega), h5]
    rw [dn_s] at ef
    rw [ef]
    unfold f_Reading_chooseMatches
    have e1' : f_Reading_chooseMatches_9 ticks (nI n) values hits f2 (nI p) fu (nI m) 0 0 ma 0 = _ := e1
    rw [e1', b2_e]
  · unfold f_Model_findReading
    have a87 : (87 : Int32) + nI p = nI (87 + p) := add_n 87 p
    rw [rd_l (i := 0) 0 rfl (by omega) (by omega), a87, rd_n (by omega) (by omega), h7, h8]
    rw [dn_s] at eg
    rw [eg]
    exact e2
  · have a := hf2 0 0 (by omega) (by omega)
    have b := hg2 0 0 (by omega) (by omega)
    exact a.trans b.symm
end MATCH
