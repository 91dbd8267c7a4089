section OFFER
def cel (p f w : Int32) (o : vT) : Prop := match o with
  | none => w = 0
  | some v => p = nI v.1 ∧ f = nI v.2.1 ∧ w = nI v.2.2 ∧ v.1 ≤ 1000 ∧ v.2.1 < 2097152 ∧ 0 < v.2.2
def eR (keys prices firsts ways : Nat → Int32) (size : Int32) (E : List eT) : Prop := size = nI E.length ∧ (ks E).Nodup ∧ (∀ (i k : Nat), (ks E)[i]? = some k → keys i = nI k ∧ k < 410) ∧ ∀ k, k < 410 → cel (prices k) (firsts k) (ways k) (lk E k)
/-- what a later clearing needs -/
def eok (keys ways : Nat → Int32) (size : Int32) : Prop := ∃ l : List Nat, size = nI l.length ∧ l.length ≤ 410 ∧ (∀ (i k : Nat), l[i]? = some k → keys i = nI k ∧ k < 410) ∧ ∀ k, k < 410 → k ∉ l → ways k = 0
variable {keys prices firsts ways : Nat → Int32} {size : Int32} {E : List eT}
theorem ks_len (E : List eT) : (ks E).length = E.length := List.length_map _
theorem eR_lt (h : eR keys prices firsts ways size E) {k : Nat} (hk : k ∈ ks E) : k < 410 := by
  obtain ⟨i, hi⟩ := List.getElem?_of_mem hk
  exact (h.2.2.1 i k hi).2
theorem eR_len (h : eR keys prices firsts ways size E) : E.length ≤ 410 := by
  rw [← ks_len]
  exact pig 410 _ h.2.1 (fun a ha => eR_lt h ha)
theorem eR_ok (h : eR keys prices firsts ways size E) : eok keys ways size := by
  refine ⟨ks E, by rw [ks_len]; exact h.1, by rw [ks_len]; exact eR_len h, h.2.2.1, fun k hk hn => ?_⟩
  have := h.2.2.2 k hk
  rw [lk_n.mpr hn] at this
  exact this
theorem eok_0 (keys : Nat → Int32) : eok keys (fun _ => 0) 0 := ⟨[], rfl, by decide, fun i k h => (by cases h), fun _ _ _ => rfl⟩
theorem eR_0 (keys prices firsts : Nat → Int32) {ways : Nat → Int32} (h : ∀ k, k < 410 → ways k = 0) : eR keys prices firsts ways 0 [] := ⟨rfl, List.nodup_nil, fun i k h => (by cases h), fun k hk => h k hk⟩
theorem cl_c {l : List Nat} (hl : l.length ≤ 410) (hk : ∀ (i k : Nat), l[i]? = some k → keys i = nI k ∧ k < 410) : ∀ (d i N : Nat) (ways : Nat → Int32), i + d = l.length → d < N → (∀ k, k < 410 → (k ∉ l.drop i) → ways k = 0) → ∃ ways2, f_End_clear_2 keys N (nI i) ways (nI l.length) = some (ways2, 0) ∧ ∀ k, k < 410 → ways2 k = 0 := by
  intro d
  induction d with
  | zero =>
    intro i N ways h1 h2 hz
    obtain ⟨N, rfl⟩ : ∃ m, N = m + 1 := ⟨N - 1, by omega⟩
    refine ⟨ways, ?_, ?_⟩
    · show f_End_clear_2_b keys (f_End_clear_2 keys N) _ _ _ = _
      unfold f_End_clear_2_b
      rw [if_pos ((le_i (by omega) (by omega)).mpr (by omega))]
    · intro k hk
      refine hz k hk ?_
      rw [List.drop_eq_nil_of_le (by omega)]
      intro q
      cases q
  | succ d ih =>
    intro i N ways h1 h2 hz
    obtain ⟨N, rfl⟩ : ∃ m, N = m + 1 := ⟨N - 1, by omega⟩
    have hi : i < l.length := by omega
    obtain ⟨e1, e2⟩ := hk i (l[i]) (List.getElem?_eq_getElem hi)
    obtain ⟨w2, j1, j2⟩ := ih (i + 1) N (upd ways l[i] 0) (by omega) (by omega) (by
      intro k hk2 hn
      by_cases c : k = l[i]
      · rw [c, upd_s]
      · rw [upd_n c]
        refine hz k hk2 ?_
        rw [List.drop_eq_getElem_cons hi, List.mem_cons, not_or]
        exact ⟨c, hn⟩)
    refine ⟨w2, ?_, j2⟩
    rw [← j1]
    show f_End_clear_2_b keys (f_End_clear_2 keys N) _ _ _ = _
    unfold f_End_clear_2_b
    rw [if_neg (fun q => by have q' := (le_i (by omega) (by omega)).mp q; omega), rd_n (by omega) (by omega), e1, ck_n e2 (by omega), nm_e1, nI_1, cl_n (by omega)]
theorem clr_c {ways : Nat → Int32} {size : Int32} (h : eok keys ways size) : ∃ ways2, f_End_clear keys ways size = some (ways2, 0) ∧ ∀ k, k < 410 → ways2 k = 0 := by
  obtain ⟨l, h1, h2, h3, h4⟩ := h
  rw [h1]
  exact cl_c h2 h3 l.length 0 fu ways (by omega) (by unfold fu; omega) (fun k hk hn => h4 k hk hn)
theorem off_c (h : eR keys prices firsts ways size E) {k p f w : Nat} (hk : k < 410) (hp : p ≤ 1000) (hf : f < 2097152) (hw : 0 < w) (hw2 : w ≤ 2097152) (hW : Wt E ≤ 2097152) : ∃ keys2 prices2 firsts2 ways2 size2, f_End_offer keys prices firsts ways size (nI k) (nI p) (nI f) (nI w) = some (keys2, prices2, firsts2, ways2, size2) ∧ eR keys2 prices2 firsts2 ways2 size2 (off E k (p, f, w)) := by
  obtain ⟨r1, r2, r3, r4⟩ := h
  have hlen := eR_len ⟨r1, r2, r3, r4⟩
  have hlt : ∀ a ∈ ks E, a < 410 := fun a ha => eR_lt ⟨r1, r2, r3, r4⟩ ha
  have hc := r4 k hk
  have hi : f_Room_isBelow (nI k) 410 = some 1 := by
    rw [isB (z := 410) rfl, if_pos]
    rw [ito (by omega)]
    omega
  have rest : ∀ (prices2 firsts2 ways2 : Nat → Int32), (∀ j, j ≠ k → prices2 j = prices j ∧ firsts2 j = firsts j ∧ ways2 j = ways j) → cel (prices2 k) (firsts2 k) (ways2 k) (some (put1 (lk E k) (p, f, w))) → ∀ j, j < 410 → cel (prices2 j) (firsts2 j) (ways2 j) (lk (off E k (p, f, w)) j) := by
    intro prices2 firsts2 ways2 ho hkk j hj
    rw [lk_off]
    by_cases c : j = k
    · rw [if_pos c, c]
      exact hkk
    · rw [if_neg c]
      obtain ⟨o1, o2, o3⟩ := ho j c
      rw [o1, o2, o3]
      exact r4 j hj
  unfold f_End_offer
  rw [hi, b1_e, if_neg (by decide), rd_n hk (by omega)]
  cases hl : lk E k with
  | none =>
    have hnm : k ∉ ks E := lk_n.mp hl
    rw [hl] at hc rest
    have hnd : (ks E ++ [k]).Nodup := by
      rw [List.nodup_append]
      refine ⟨r2, by simp, ?_⟩
      intro a ha b hb
      have := List.mem_singleton.mp hb
      rw [this]
      intro q
      exact hnm (q ▸ ha)
    have hl2 : E.length < 410 := by
      have := pig 410 _ hnd (by
        intro a ha
        rcases List.mem_append.mp ha with q | q
        · exact hlt a q
        · rw [List.mem_singleton.mp q]; exact hk)
      rw [List.length_append, ks_len] at this
      have h1 : [k].length = 1 := rfl
      omega
    have hks : ks (off E k (p, f, w)) = ks E ++ [k] := by rw [ks_off, if_neg hnm]
    refine ⟨upd keys E.length (nI k), upd prices k (nI p), upd firsts k (nI f), upd ways k (nI w), nI (E.length + 1), ?_, ?_, ?_, ?_, ?_⟩
    · rw [show ways k = 0 from hc, if_pos rfl, r1, if_neg (show ¬ (410 : Int32) ≤ nI E.length from fun q => by have q' := (le_i (a := 410) (by omega) (by omega)).mp q; omega), ck_n hl2 (by omega), nm_e1, nI_1, cl_n (by omega)]
      unfold f_End_offer_102
      rw [ck_n hk (by omega), ck_n hk (by omega), ck_n hk (by omega), cl_n (by omega)]
    · rw [← ks_len (off E k (p, f, w)), hks, List.length_append, ks_len]
      rfl
    · rw [hks]
      exact hnd
    · rw [hks]
      intro i j hij
      rw [List.getElem?_append] at hij
      by_cases c : i < (ks E).length
      · rw [if_pos c] at hij
        rw [ks_len] at c
        rw [upd_n (by omega)]
        exact r3 i j hij
      · rw [if_neg c] at hij
        have hz : i - (ks E).length = 0 := by
          cases hq : i - (ks E).length with
          | zero => rfl
          | succ m => rw [hq] at hij; cases hij
        rw [hz] at hij
        cases hij
        rw [ks_len] at c hz
        have : i = E.length := by omega
        rw [this, upd_s]
        exact ⟨rfl, hk⟩
    · refine rest _ _ _ (fun j hj => ⟨upd_n hj, upd_n hj, upd_n hj⟩) ?_
      rw [upd_s, upd_s, upd_s]
      exact ⟨rfl, rfl, rfl, hp, hf, hw⟩
  | some u =>
    rw [hl] at hc rest
    obtain ⟨c1, c2, c3, c4, c5, c6⟩ := hc
    have hu := lk_W hl
    have hin : k ∈ ks E := by
      by_cases q : k ∈ ks E
      · exact q
      · rw [lk_n.mpr q] at hl
        cases hl
    have hks : ks (off E k (p, f, w)) = ks E := by rw [ks_off, if_pos hin]
    have hlo : (off E k (p, f, w)).length = E.length := by rw [← ks_len, hks, ks_len]
    have hne : ¬ ways k = 0 := by
      rw [c3]
      exact nI_ne0 (by omega) (by omega)
    have keep : ∀ prices2 firsts2 ways2 : Nat → Int32, (∀ j, j ≠ k → prices2 j = prices j ∧ firsts2 j = firsts j ∧ ways2 j = ways j) → cel (prices2 k) (firsts2 k) (ways2 k) (some (mg u (p, f, w))) → eR keys prices2 firsts2 ways2 size (off E k (p, f, w)) := by
      intro prices2 firsts2 ways2 q1 q2
      refine ⟨by rw [hlo]; exact r1, by rw [hks]; exact r2, by rw [hks]; exact r3, rest _ _ _ q1 q2⟩
    rw [if_neg hne]
    unfold f_End_offer_53
    rw [rd_n hk (by omega), rd_n hk (by omega), rd_n hk (by omega), nm_e1, ck_n hk (by omega), rd_n hk (by omega), nm_e1, c1, c2, c3]
    rcases Nat.lt_trichotomy p u.1 with q | q | q
    · refine ⟨keys, upd prices k (nI p), upd firsts k (nI f), upd ways k (nI w), size, ?_, ?_⟩
      · rw [if_pos ((le_i (by omega) (by omega)).mpr (by omega)), if_neg (fun r => by rw [eq_i (by omega) (by omega)] at r; omega)]
        unfold f_End_offer_102
        rw [ck_n hk (by omega), ck_n hk (by omega), ck_n hk (by omega), cl_n (by omega)]
      · refine keep _ _ _ (fun j hj => ⟨upd_n hj, upd_n hj, upd_n hj⟩) ?_
        have e : mg u (p, f, w) = (p, f, w) := by
          unfold mg
          rw [if_neg (show ¬ u.1 < p by omega), if_pos (show p < u.1 from q)]
        rw [upd_s, upd_s, upd_s, e]
        exact ⟨rfl, rfl, rfl, hp, hf, hw⟩
    · refine ⟨keys, prices, upd firsts k (nI (min f u.2.1)), upd ways k (nI (u.2.2 + w)), size, ?_, ?_⟩
      · rw [if_pos ((le_i (by omega) (by omega)).mpr (by omega)), if_pos ((eq_i (by omega) (by omega)).mpr q), jmin_n (by omega) (by omega), add_n, ck_n hk (by omega), cl_n (by omega)]
      · refine keep _ _ _ (fun j hj => ⟨rfl, upd_n hj, upd_n hj⟩) ?_
        have e : mg u (p, f, w) = (u.1, min u.2.1 f, u.2.2 + w) := by
          unfold mg
          rw [if_neg (show ¬ u.1 < p by omega), if_neg (show ¬ p < u.1 by omega)]
        rw [upd_s, upd_s, e]
        refine ⟨c1, ?_, rfl, c4, ?_, ?_⟩
        · dsimp only
          rw [Nat.min_comm]
        · dsimp only
          omega
        · dsimp only
          omega
    · refine ⟨keys, prices, firsts, ways, size, ?_, ?_⟩
      · rw [if_neg (fun r => by rw [le_i (by omega) (by omega)] at r; omega)]
      · refine keep _ _ _ (fun j hj => ⟨rfl, rfl, rfl⟩) ?_
        have e : mg u (p, f, w) = u := by
          unfold mg
          rw [if_pos (show u.1 < p from q)]
        rw [e]
        exact ⟨c1, c2, c3, c4, c5, c6⟩
end OFFER
