section READ
/-- the least price with a notes and b hits left, by how far they are apart -/
def pr (ap : Nat → Nat → Nat) (w n m : Nat) : Nat → Nat → Nat
  | 0, b => 40 * b
  | a + 1, 0 => 40 * (a + 1)
  | a + 1, b + 1 => if ap (n - (a + 1)) (m - (b + 1)) ≤ w then min (40 + min (pr ap w n m a (b + 1)) (pr ap w n m (a + 1) b)) (ap (n - (a + 1)) (m - (b + 1)) + pr ap w n m a b) else 40 + min (pr ap w n m a (b + 1)) (pr ap w n m (a + 1) b)
termination_by a b => a + b
theorem pr_0 (ap : Nat → Nat → Nat) (w n m b : Nat) : pr ap w n m 0 b = 40 * b := by rw [pr]
theorem pr_a (ap : Nat → Nat → Nat) (w n m a : Nat) : pr ap w n m (a + 1) 0 = 40 * (a + 1) := by rw [pr]
theorem pr_s (ap : Nat → Nat → Nat) (w n m a b : Nat) : pr ap w n m (a + 1) (b + 1) = if ap (n - (a + 1)) (m - (b + 1)) ≤ w then min (40 + min (pr ap w n m a (b + 1)) (pr ap w n m (a + 1) b)) (ap (n - (a + 1)) (m - (b + 1)) + pr ap w n m a b) else 40 + min (pr ap w n m a (b + 1)) (pr ap w n m (a + 1) b) := by rw [pr]
theorem pr_le (ap : Nat → Nat → Nat) (w n m : Nat) : ∀ a b, pr ap w n m a b ≤ 40 * (a + b) := by
  intro a
  induction a with
  | zero => intro b; rw [pr_0]; omega
  | succ a ih =>
    intro b
    cases b with
    | zero => rw [pr_a]; omega
    | succ b =>
      rw [pr_s]
      have := ih (b + 1)
      split <;> omega
theorem jabs_z {z : Int} (h1 : -1000000 ≤ z) (h2 : z ≤ 1000000) : jabs (zI z) = nI z.natAbs := by
  unfold jabs
  have e0 : (0 : Int32) = zI 0 := rfl
  have e1 : (0 : Int32) ≤ zI z ↔ 0 ≤ z := by rw [e0]; exact zI_le (by omega) (by omega) (by omega) (by omega)
  by_cases c : 0 ≤ z
  · rw [if_pos (e1.mpr c), ← zI_nI]
    congr 1
    omega
  · rw [if_neg (fun q => c (e1.mp q)), e0, zI_sub, ← zI_nI]
    congr 1
    omega
def dn (c : Nat) : Int32 := zI ((c : Int) - 1)
theorem dn_s (k : Nat) : dn (k + 1) = nI k := by
  unfold dn
  rw [← zI_nI]
  congr 1
  omega
theorem dn_m (k : Nat) : nI k + (-1) = dn k := by
  rw [← zI_nI]
  show zI k + zI (-1) = _
  rw [zI_add]
  rfl
theorem dn_0 : dn 0 < 0 := by decide
def apf (ticks hits : Nat → Int32) (p : Nat) (i k : Nat) : Nat := ((hits (24 * p + k)).toInt - (ticks i).toInt).natAbs
variable {ticks hits values counts now : Nat → Int32} {n m p w : Nat}
/-- what both readings work on -/
def rin (ticks hits values counts now : Nat → Int32) (n m p w : Nat) : Prop := n ≤ 20 ∧ m ≤ 24 ∧ p < 4 ∧ w ≤ 100 ∧ counts p = nI m ∧ values 4 = nI w ∧ now 0 = nI n ∧ now (87 + p) = nI m ∧ now 6 = nI w ∧ (∀ i, i < n → ticks i = now (27 + i) ∧ rg 0 9999 (now (27 + i))) ∧ ∀ k, k < m → hits (24 * p + k) = now (91 + 24 * p + k) ∧ rg 0 9999 (now (91 + 24 * p + k))
theorem ap_b (h : rin ticks hits values counts now n m p w) {i k : Nat} (hi : i < n) (hk : k < m) : apf ticks hits p i k ≤ 9999 := by
  obtain ⟨h1, h2, h3, h4, h5, h6, h7, h8, h9, h10, h11⟩ := h
  obtain ⟨a1, a2, a3⟩ := h10 i hi
  obtain ⟨b1, b2, b3⟩ := h11 k hk
  unfold apf
  rw [a1, b1]
  omega
theorem ap_c (h : rin ticks hits values counts now n m p w) {i k : Nat} (hi : i < n) (hk : k < m) : f_Reading_apart ticks hits (nI p) (nI i) (nI k) = some (nI (apf ticks hits p i k)) := by
  obtain ⟨h1, h2, h3, h4, h5, h6, h7, h8, h9, h10, h11⟩ := h
  obtain ⟨a1, a2, a3⟩ := h10 i hi
  obtain ⟨b1, b2, b3⟩ := h11 k hk
  unfold f_Reading_apart f_Tapes_tickAt apf
  rw [i_24, rd_n (by omega) (by omega), b1_e, rd_n (by omega) (by omega), nm_e1]
  rw [← zI_self (hits (24 * p + k)), ← zI_self (ticks i), zI_sub, zI_self, zI_self, jabs_z (by rw [a1, b1]; omega) (by rw [a1, b1]; omega)]
theorem ap_m (h : rin ticks hits values counts now n m p w) {i k : Nat} (hi : i < n) (hk : k < m) : f_Model_matched now (nI p) (nI i) (nI k) = some (nI (if apf ticks hits p i k ≤ w then apf ticks hits p i k else 1000000)) := by
  have hb := ap_b h hi hk
  obtain ⟨h1, h2, h3, h4, h5, h6, h7, h8, h9, h10, h11⟩ := h
  obtain ⟨a1, a2, a3⟩ := h10 i hi
  obtain ⟨b1, b2, b3⟩ := h11 k hk
  have e27 : (27 : Int32) + nI i = nI (27 + i) := add_n 27 i
  have hj : jabs (now (27 + i) - now (91 + 24 * p + k)) = nI (apf ticks hits p i k) := by
    rw [← zI_self (now (27 + i)), ← zI_self (now (91 + 24 * p + k)), zI_sub, jabs_z (by omega) (by omega)]
    unfold apf
    rw [a1, b1]
    congr 1
    omega
  unfold f_Model_matched f_Model_hitOf
  rw [e27, rd_n (by omega) (by omega), i_91, rd_n (by omega) (by omega), b1_e, nm_e1, hj, rd_l (i := 6) 6 rfl (by omega) (by omega), h9]
  by_cases c : apf ticks hits p i k ≤ w
  · rw [if_pos ((nI_leI (by omega) (by omega)).mpr c), if_pos c]
  · rw [if_neg (fun q => c ((nI_leI (by omega) (by omega)).mp q)), if_neg c]
    rfl
/-- the rows from one on, and of one its places from one on, are as they should be -/
def rgd (ap : Nat → Nat → Nat) (w n m : Nat) (i0 k0 : Nat) (f : Nat → Int32) : Prop := ∀ i k, i ≤ n → k ≤ m → (i0 < i ∨ (i = i0 ∧ k0 ≤ k)) → f (25 * i + k) = nI (pr ap w n m (n - i) (m - k))
theorem x_25 (i k : Nat) : (nI i * 25) + nI k = nI (25 * i + k) := by
  show nI i * nI 25 + nI k = _
  rw [mul_n, add_n, Nat.mul_comm]
theorem y_25 (i k : Nat) : ((25 : Int32) * nI i) + nI k = nI (25 * i + k) := by
  show nI 25 * nI i + nI k = _
  rw [mul_n, add_n]
theorem rgd_upd {ap : Nat → Nat → Nat} {i0 k0 : Nat} {f : Nat → Int32} (hi : i0 ≤ n) (hk : k0 ≤ m) (hm : m ≤ 24) (h : rgd ap w n m i0 (k0 + 1) f) : rgd ap w n m i0 k0 (upd f (25 * i0 + k0) (nI (pr ap w n m (n - i0) (m - k0)))) := by
  intro i k h1 h2 h3
  rw [upd_d]
  by_cases c : i = i0 ∧ k = k0
  · obtain ⟨rfl, rfl⟩ := c
    rw [if_pos rfl]
  · rw [if_neg (by omega)]
    exact h i k h1 h2 (by omega)
theorem pf_c (h : rin ticks hits values counts now n m p w) {i k : Nat} (hi : i ≤ n) (hk : k ≤ m) {f : Nat → Int32} (hf : rgd (apf ticks hits p) w n m i (k + 1) f) : f_Reading_priceFrom ticks (nI n) values hits f (nI p) (nI i) (nI k) (nI m) = some (nI (pr (apf ticks hits p) w n m (n - i) (m - k))) := by
  have h0 := h
  obtain ⟨h1, h2, h3, h4, h5, h6, h7, h8, h9, h10, h11⟩ := h
  unfold f_Reading_priceFrom
  by_cases c1 : i = n
  · subst c1
    rw [if_pos rfl, Nat.sub_self, pr_0, sub_n (by omega)]
    show some (nI 40 * nI (m - k)) = _
    rw [mul_n]
  · rw [if_neg (fun q => c1 ((nI_eq (by omega) (by omega)).mp q))]
    by_cases c2 : k = m
    · subst c2
      obtain ⟨a, ha⟩ : ∃ a, n - i = a + 1 := ⟨n - i - 1, by omega⟩
      rw [if_pos rfl, Nat.sub_self, sub_n (by omega), ha, pr_a]
      show some (nI 40 * nI (a + 1)) = _
      rw [mul_n]
    · have hap := ap_b h0 (show i < n by omega) (show k < m by omega)
      obtain ⟨a, ha⟩ : ∃ a, n - i = a + 1 := ⟨n - i - 1, by omega⟩
      obtain ⟨b, hb⟩ : ∃ b, m - k = b + 1 := ⟨m - k - 1, by omega⟩
      have ei : n - (a + 1) = i := by omega
      have ek : m - (b + 1) = k := by omega
      have f1 : f (25 * (i + 1) + k) = nI (pr (apf ticks hits p) w n m a (b + 1)) := by
        rw [hf (i + 1) k (by omega) (by omega) (Or.inl (by omega)), hb]
        congr 2
        omega
      have f2 : f (25 * i + (k + 1)) = nI (pr (apf ticks hits p) w n m (a + 1) b) := by
        rw [hf i (k + 1) (by omega) (by omega) (Or.inr ⟨rfl, by omega⟩), ha]
        congr 2
        omega
      have f3 : f (25 * (i + 1) + (k + 1)) = nI (pr (apf ticks hits p) w n m a b) := by
        rw [hf (i + 1) (k + 1) (by omega) (by omega) (Or.inl (by omega))]
        congr 2
        · omega
        · omega
      have g1 := pr_le (apf ticks hits p) w n m a (b + 1)
      have g2 := pr_le (apf ticks hits p) w n m (a + 1) b
      have g3 := pr_le (apf ticks hits p) w n m a b
      have e1 : ((nI i + 1) * 25) + nI k = nI (25 * (i + 1) + k) := by rw [nI_1, x_25]
      have e2 : ((nI i * 25) + nI k) + 1 = nI (25 * i + (k + 1)) := by rw [x_25, nI_1]; congr 1
      have e3 : (((nI i + 1) * 25) + nI k) + 1 = nI (25 * (i + 1) + (k + 1)) := by rw [nI_1, x_25, nI_1]; congr 1
      rw [if_neg (fun q => c2 ((nI_eq (by omega) (by omega)).mp q)), e3, e1, e2, rd_n (by omega) (by omega), rd_n (by omega) (by omega), nm_e1, nm_e1, ap_c h0 (by omega) (by omega), b1_e, rd_l (i := 4) 4 rfl (by omega) (by omega), h6, rd_n (by omega) (by omega), nm_e1, f1, f2, f3, jmin_n (by omega) (by omega)]
      have e40 : ∀ z : Nat, (40 : Int32) + nI z = nI (40 + z) := fun z => add_n 40 z
      rw [e40, add_n, jmin_n (by omega) (by omega), ha, hb, pr_s, ei, ek]
      by_cases c3 : apf ticks hits p i k ≤ w
      · rw [if_pos ((nI_leI (by omega) (by omega)).mpr c3), if_pos c3]
      · rw [if_neg (fun q => c3 ((nI_leI (by omega) (by omega)).mp q)), if_neg c3]
theorem fi_c (h : rin ticks hits values counts now n m p w) {i : Nat} (hi : i ≤ n) (K : Int32 → Int32 → (Nat → Int32) → Int32 → (Nat → Int32) → Int32 → Option ((Nat → Int32) × Int32 × (Nat → Int32) × Int32)) (ma : Nat → Int32) (md : Int32) : ∀ (c N : Nat) (f : Nat → Int32), c ≤ m + 1 → c < N → rgd (apf ticks hits p) w n m i c f → ∃ f2, rgd (apf ticks hits p) w n m i 0 f2 ∧ f_Reading_find_33 ticks (nI n) values counts hits K N (nI m) (nI i) (dn c) ma md f (nI p) = K (nI m) (dn i) ma md f2 (nI p) := by
  have h0 := h
  obtain ⟨h1, h2, h3, h4, h5, h6, h7, h8, h9, h10, h11⟩ := h
  intro c
  induction c with
  | zero =>
    intro N f g1 g2 hf
    obtain ⟨N, rfl⟩ : ∃ m, N = m + 1 := ⟨N - 1, by omega⟩
    refine ⟨f, hf, ?_⟩
    show f_Reading_find_33_b ticks (nI n) values counts hits K (f_Reading_find_33 ticks (nI n) values counts hits K N) (nI m) (nI i) (dn 0) ma md f (nI p) = _
    unfold f_Reading_find_33_b
    rw [if_pos dn_0, nm_e1, dn_m]
  | succ c ih =>
    intro N f g1 g2 hf
    obtain ⟨N, rfl⟩ : ∃ m, N = m + 1 := ⟨N - 1, by omega⟩
    obtain ⟨f2, hf2, e⟩ := ih N (upd f (25 * i + c) (nI (pr (apf ticks hits p) w n m (n - i) (m - c)))) (by omega) (by omega) (rgd_upd hi (by omega) h2 hf)
    refine ⟨f2, hf2, ?_⟩
    show f_Reading_find_33_b ticks (nI n) values counts hits K (f_Reading_find_33 ticks (nI n) values counts hits K N) (nI m) (nI i) (dn (c + 1)) ma md f (nI p) = _
    unfold f_Reading_find_33_b
    rw [dn_s, if_neg (nI_pos (by omega)), pf_c h0 hi (by omega) hf, b1_e, x_25, ck_n (by omega) (by omega), cl_n (by omega), nm_e1, dn_m, e]
theorem fo_c (h : rin ticks hits values counts now n m p w) (ma : Nat → Int32) (md : Int32) : ∀ (c N : Nat) (f : Nat → Int32), c ≤ n + 1 → c < N → rgd (apf ticks hits p) w n m c 0 f → ∃ f2, (∀ i k, i ≤ n → k ≤ m → f2 (25 * i + k) = nI (pr (apf ticks hits p) w n m (n - i) (m - k))) ∧ f_Reading_find_26 ticks (nI n) values counts hits N (nI m) (dn c) ma md f (nI p) = b2 (f_Reading_chooseMatches ticks (nI n) values hits ma md f2 (nI p) (nI m)) fun y8 y9 => some (y8, y9, f2, nI p) := by
  have h0 := h
  obtain ⟨h1, h2, h3, h4, h5, h6, h7, h8, h9, h10, h11⟩ := h
  intro c
  induction c with
  | zero =>
    intro N f g1 g2 hf
    obtain ⟨N, rfl⟩ : ∃ m, N = m + 1 := ⟨N - 1, by omega⟩
    refine ⟨f, fun i k a b => hf i k a b (by omega), ?_⟩
    show f_Reading_find_26_b ticks (nI n) values counts hits (f_Reading_find_26 ticks (nI n) values counts hits N) (nI m) (dn 0) ma md f (nI p) = _
    unfold f_Reading_find_26_b
    rw [if_pos dn_0]
  | succ c ih =>
    intro N f g1 g2 hf
    obtain ⟨N, rfl⟩ : ∃ m, N = m + 1 := ⟨N - 1, by omega⟩
    have hf' : rgd (apf ticks hits p) w n m c (m + 1) f := fun i k a b d => hf i k a b (by omega)
    obtain ⟨f1, hf1, e1⟩ := fi_c h0 (show c ≤ n by omega) (f_Reading_find_26 ticks (nI n) values counts hits N) ma md (m + 1) fu f (by omega) (by unfold fu; omega) hf'
    obtain ⟨f2, hf2, e2⟩ := ih N f1 (by omega) (by omega) (fun i k a b d => hf1 i k a b (by omega))
    refine ⟨f2, hf2, ?_⟩
    show f_Reading_find_26_b ticks (nI n) values counts hits (f_Reading_find_26 ticks (nI n) values counts hits N) (nI m) (dn (c + 1)) ma md f (nI p) = _
    unfold f_Reading_find_26_b
    rw [dn_s] at e1
    rw [dn_s, if_neg (nI_pos (by omega)), e1, e2]
theorem pf_m {f : Nat → Int32} {i k : Nat} (hi : i ≤ 20) (hk : k ≤ 24) : f_Model_priceFrom f (nI i) (nI k) = some (f (25 * i + k)) := by
  unfold f_Model_priceFrom
  rw [y_25, rd_n (by omega) (by omega)]
theorem fi_m (h : rin ticks hits values counts now n m p w) {i : Nat} (hi : i ≤ n) (K : Int32 → Int32 → Int32 → Int32 → (Nat → Int32) → (Nat → Int32) → Option ((Nat → Int32) × (Nat → Int32))) (ha : Nat → Int32) : ∀ (c N : Nat) (f : Nat → Int32), c ≤ m + 1 → c < N → rgd (apf ticks hits p) w n m i c f → ∃ f2, rgd (apf ticks hits p) w n m i 0 f2 ∧ f_Model_findReading_28 now K N (nI p) (nI n) (nI m) (nI i) (dn c) f ha = K (nI p) (nI n) (nI m) (dn i) f2 ha := by
  have h0 := h
  obtain ⟨h1, h2, h3, h4, h5, h6, h7, h8, h9, h10, h11⟩ := h
  intro c
  induction c with
  | zero =>
    intro N f g1 g2 hf
    obtain ⟨N, rfl⟩ : ∃ m, N = m + 1 := ⟨N - 1, by omega⟩
    refine ⟨f, hf, ?_⟩
    show f_Model_findReading_28_b now K (f_Model_findReading_28 now K N) (nI p) (nI n) (nI m) (nI i) (dn 0) f ha = _
    unfold f_Model_findReading_28_b
    rw [if_pos dn_0, nm_e1, dn_m]
  | succ k ih =>
    intro N f g1 g2 hf
    obtain ⟨N, rfl⟩ : ∃ m, N = m + 1 := ⟨N - 1, by omega⟩
    obtain ⟨f2, hf2, e⟩ := ih N (upd f (25 * i + k) (nI (pr (apf ticks hits p) w n m (n - i) (m - k)))) (by omega) (by omega) (rgd_upd hi (by omega) h2 hf)
    refine ⟨f2, hf2, ?_⟩
    have h125 : ∀ v : Int32, v = nI (pr (apf ticks hits p) w n m (n - i) (m - k)) → f_Model_findReading_125 now K (f_Model_findReading_28 now K N) (nI p) (nI n) (nI m) (nI i) (nI k) v f ha = K (nI p) (nI n) (nI m) (dn i) f2 ha := by
      intro v hv
      unfold f_Model_findReading_125
      rw [y_25, ck_n (by omega) (by omega), cl_n (by omega), nm_e1, dn_m, hv, e]
    show f_Model_findReading_28_b now K (f_Model_findReading_28 now K N) (nI p) (nI n) (nI m) (nI i) (dn (k + 1)) f ha = _
    unfold f_Model_findReading_28_b f_Model_findReading_62
    rw [dn_s, if_neg (nI_pos (by omega))]
    by_cases c1 : i = n
    · subst c1
      rw [if_pos rfl, if_pos (nI_le (Nat.le_refl _) (by omega))]
      refine h125 _ ?_
      rw [Nat.sub_self, pr_0, sub_n (by omega)]
      show nI 40 * nI (m - k) = _
      rw [mul_n]
    · have e9 : nI i + 1 = nI (i + 1) := nI_1 i
      have e8 : nI k + 1 = nI (k + 1) := nI_1 k
      obtain ⟨a, ha'⟩ : ∃ a, n - i = a + 1 := ⟨n - i - 1, by omega⟩
      have g1 := fun b => pr_le (apf ticks hits p) w n m a b
      have g2' := fun b => pr_le (apf ticks hits p) w n m (a + 1) b
      have e40 : ∀ z : Nat, (40 : Int32) + nI z = nI (40 + z) := fun z => add_n 40 z
      have f1 : f (25 * (i + 1) + k) = nI (pr (apf ticks hits p) w n m a (m - k)) := by
        rw [hf (i + 1) k (by omega) (by omega) (Or.inl (by omega))]
        congr 2
        omega
      rw [if_neg (fun q => c1 ((nI_eq (by omega) (by omega)).mp q)), e9, pf_m (by omega) (by omega), b1_e, if_neg (nI_ge (by omega) (by omega)), f1, e40]
      by_cases c2 : k = m
      · subst c2
        rw [if_pos (nI_le (Nat.le_refl _) (by omega))]
        refine h125 _ ?_
        rw [Nat.sub_self, ha', pr_a]
        congr 1
        cases a with
        | zero => rw [pr_0]
        | succ a => rw [pr_a]; omega
      · have hap := ap_b h0 (show i < n by omega) (show k < m by omega)
        obtain ⟨b, hb⟩ : ∃ b, m - k = b + 1 := ⟨m - k - 1, by omega⟩
        have ei : n - (a + 1) = i := by omega
        have ek : m - (b + 1) = k := by omega
        have f2' : f (25 * i + (k + 1)) = nI (pr (apf ticks hits p) w n m (a + 1) b) := by
          rw [hf i (k + 1) (by omega) (by omega) (Or.inr ⟨rfl, by omega⟩), ha']
          congr 2
          omega
        have f3 : f (25 * (i + 1) + (k + 1)) = nI (pr (apf ticks hits p) w n m a b) := by
          rw [hf (i + 1) (k + 1) (by omega) (by omega) (Or.inl (by omega))]
          congr 2
          · omega
          · omega
        have g3 := g1 (b + 1)
        have g4 := g2' b
        have g5 := g1 b
        rw [if_neg (nI_ge (by omega) (by omega)), e8, pf_m (by omega) (by omega), b1_e, nm_e1, ap_m h0 (by omega) (by omega), b1_e, pf_m (by omega) (by omega), b1_e, nm_e1, f2', f3, hb]
        refine h125 _ ?_
        rw [e40, jmin_n (by omega) (by omega), add_n, jmin_n (by omega) (by split <;> omega), ha', hb, pr_s, ei, ek]
        congr 1
        by_cases c3 : apf ticks hits p i k ≤ w
        · rw [if_pos c3, if_pos c3]; omega
        · rw [if_neg c3, if_neg c3]; omega
theorem fo_m (h : rin ticks hits values counts now n m p w) (ha : Nat → Int32) : ∀ (c N : Nat) (f : Nat → Int32), c ≤ n + 1 → c < N → rgd (apf ticks hits p) w n m c 0 f → ∃ f2, (∀ i k, i ≤ n → k ≤ m → f2 (25 * i + k) = nI (pr (apf ticks hits p) w n m (n - i) (m - k))) ∧ f_Model_findReading_20 now N (nI p) (nI n) (nI m) (dn c) f ha = f_Model_findReading_158 now fu (nI p) (nI n) (nI m) 0 0 f2 ha := by
  have h0 := h
  obtain ⟨h1, h2, h3, h4, h5, h6, h7, h8, h9, h10, h11⟩ := h
  intro c
  induction c with
  | zero =>
    intro N f g1 g2 hf
    obtain ⟨N, rfl⟩ : ∃ m, N = m + 1 := ⟨N - 1, by omega⟩
    refine ⟨f, fun i k a b => hf i k a b (by omega), ?_⟩
    show f_Model_findReading_20_b now (f_Model_findReading_20 now N) (nI p) (nI n) (nI m) (dn 0) f ha = _
    unfold f_Model_findReading_20_b
    rw [if_pos dn_0]
  | succ c ih =>
    intro N f g1 g2 hf
    obtain ⟨N, rfl⟩ : ∃ m, N = m + 1 := ⟨N - 1, by omega⟩
    have hf' : rgd (apf ticks hits p) w n m c (m + 1) f := fun i k a b d => hf i k a b (by omega)
    obtain ⟨f1, hf1, e1⟩ := fi_m h0 (show c ≤ n by omega) (f_Model_findReading_20 now N) ha (m + 1) fu f (by omega) (by unfold fu; omega) hf'
    obtain ⟨f2, hf2, e2⟩ := ih N f1 (by omega) (by omega) (fun i k a b d => hf1 i k a b (by omega))
    refine ⟨f2, hf2, ?_⟩
    show f_Model_findReading_20_b now (f_Model_findReading_20 now N) (nI p) (nI n) (nI m) (dn (c + 1)) f ha = _
    unfold f_Model_findReading_20_b
    rw [dn_s] at e1
    rw [dn_s, if_neg (nI_pos (by omega)), e1, e2]
end READ
