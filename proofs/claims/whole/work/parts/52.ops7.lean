section OPS7
variable {kinds ticks drums marks values counts hits now past acts fis ses tis drs hts sT sH : Nat → Int32} {count there pc ps kept : Int32} {q slot : Nat} {bits sizes numbers mbits msizes msheets : Nat → Int32}
/-! a tape out of a sheet: both loops stop at one place -/
def wr (f g : Nat → Int32) (a b i n : Nat) : Nat → Int32 := fun k => if a + i ≤ k ∧ k < a + n then g (b + (k - a)) else f k
theorem wr_0 (f g : Nat → Int32) (a b i : Nat) : wr f g a b i i = f := by
  funext k
  unfold wr
  rw [if_neg (by omega)]
theorem wr_s {f g : Nat → Int32} {a b i n : Nat} (h : i < n) : wr (upd f (a + i) (g (b + i))) g a b (i + 1) n = wr f g a b i n := by
  funext k
  unfold wr
  rw [upd_d]
  by_cases c1 : k = a + i
  · rw [if_neg (by omega), if_pos c1, if_pos (by omega)]
    congr 1
    omega
  · rw [if_neg c1]
    by_cases c2 : a + (i + 1) ≤ k ∧ k < a + n
    · rw [if_pos c2, if_pos (by omega)]
    · rw [if_neg c2, if_neg (by omega)]
theorem upd_same {f : Nat → Int32} {k : Nat} {v : Int32} (h : f k = v) : upd f k v = f := by
  funext j
  rw [upd_d]
  by_cases c : j = k
  · rw [if_pos c, c, h]
  · rw [if_neg c]
theorem upd_upd {f : Nat → Int32} {k : Nat} {v w : Int32} : upd (upd f k v) k w = upd f k w := by
  funext j
  rw [upd_d, upd_d, upd_d]
  by_cases c : j = k
  · rw [if_pos c, if_pos c]
  · rw [if_neg c, if_neg c, if_neg c]
theorem ap_e {p m : Nat} (hp : p < 4) (hm : m < 24) (ec : counts p = nI m) (v : Int32) : f_Tapes_append counts hits (nI p) v = some (upd counts p (nI (m + 1)), upd hits (24 * p + m) v) := by
  unfold f_Tapes_append
  have e : nI m + 1 = nI (m + 1) := nI_1 m
  simp only [rd_n (n := 4) (j := p) (by omega) (by omega), ec, i_24, ck_n (n := 96) (j := 24 * p + m) (by omega) (by omega), ck_n (n := 4) (j := p) (by omega) (by omega), nm_e1, e, cl_n (show p < 2147483648 by omega), cl_n (show 24 * p + m < 2147483648 by omega)]
  rw [if_neg (show ¬ (24 : Int32) ≤ nI m from nI_ge (b := 24) (by omega) (by omega))]
theorem tape_loop {p s z : Nat} (hp : p < 4) (hs : s < 4) (hz : z ≤ 24) (ez : sizes s = nI z) (ez2 : msizes s = nI z) (hnum : ∀ i, i < 96 → numbers i = msheets i) (x known : Int32) (pc2 : Int32) (a2 f2 s2 h2 : Nat → Int32) (ps2 : Int32) (past2 : Nat → Int32) (kept2 : Int32) :
    ∀ (d i : Nat) (N N2 : Nat) (counts hits now : Nat → Int32), i + d = z → d < N → d < N2 → counts p = nI i → (∀ k, k < i → hits (24 * p + k) = msheets (24 * s + k)) → ∃ n, i ≤ n ∧ n ≤ z ∧ (∀ k, i ≤ k → k < n → rg 0 9999 (msheets (24 * s + k))) ∧ f_Room_tape_56 bits sizes numbers N (nI p) (nI s) (nI i) x known counts hits pc2 a2 f2 s2 h2 ps2 = some (nI n, x, known, upd counts p (nI n), wr hits msheets (24 * p) (24 * s) i n, pc2, a2, f2, s2, h2, ps2) ∧ f_Model_tape_43 mbits msizes msheets N2 (nI p) (nI s) (nI i) now past2 kept2 x = some (nI n, upd (wr now msheets (91 + 24 * p) (24 * s) i n) (87 + p) (nI n), past2, kept2, x) := by
  intro d
  have stopc : ∀ (i : Nat) (counts hits : Nat → Int32), counts p = nI i → f_Room_tape_120 bits sizes numbers (nI p) x known counts hits pc2 a2 f2 s2 h2 ps2 = some (nI i, x, known, upd counts p (nI i), wr hits msheets (24 * p) (24 * s) i i, pc2, a2, f2, s2, h2, ps2) := by
    intro i counts hits ec
    unfold f_Room_tape_120
    rw [rd_n hp (by omega), ec, wr_0, upd_same ec]
  have stopm : ∀ (i : Nat) (now : Nat → Int32), f_Model_tape_132 mbits msizes msheets (nI p) (nI i) now past2 kept2 x = some (nI i, upd (wr now msheets (91 + 24 * p) (24 * s) i i) (87 + p) (nI i), past2, kept2, x) := by
    intro i now
    have a87 : (87 : Int32) + nI p = nI (87 + p) := add_n 87 p
    unfold f_Model_tape_132
    rw [a87, ck_n (by omega) (by omega), cl_n (by omega), wr_0]
  induction d with
  | zero =>
    intro i N N2 counts hits now h1 hN hN2 ec hh
    obtain ⟨N, rfl⟩ : ∃ m, N = m + 1 := ⟨N - 1, by omega⟩
    obtain ⟨N2, rfl⟩ : ∃ m, N2 = m + 1 := ⟨N2 - 1, by omega⟩
    refine ⟨i, Nat.le_refl i, by omega, fun k a b => by omega, ?_, ?_⟩
    · show f_Room_tape_56_b bits sizes numbers (f_Room_tape_56 bits sizes numbers N) (nI p) (nI s) (nI i) x known counts hits pc2 a2 f2 s2 h2 ps2 = _
      unfold f_Room_tape_56_b
      rw [rd_n hs (by omega), ez, if_pos (nI_le (by omega) (by omega))]
      exact stopc i counts hits ec
    · show f_Model_tape_43_b mbits msizes msheets (f_Model_tape_43 mbits msizes msheets N2) (nI p) (nI s) (nI i) now past2 kept2 x = _
      unfold f_Model_tape_43_b
      rw [rd_n hs (by omega), ez2, if_pos (nI_le (by omega) (by omega))]
      exact stopm i now
  | succ d ih =>
    intro i N N2 counts hits now h1 hN hN2 ec hh
    obtain ⟨N, rfl⟩ : ∃ m, N = m + 1 := ⟨N - 1, by omega⟩
    obtain ⟨N2, rfl⟩ : ∃ m, N2 = m + 1 := ⟨N2 - 1, by omega⟩
    have u1 : f_Room_tape_56 bits sizes numbers (N + 1) (nI p) (nI s) (nI i) x known counts hits pc2 a2 f2 s2 h2 ps2 = f_Room_tape_56_b bits sizes numbers (f_Room_tape_56 bits sizes numbers N) (nI p) (nI s) (nI i) x known counts hits pc2 a2 f2 s2 h2 ps2 := rfl
    have u2 : f_Model_tape_43 mbits msizes msheets (N2 + 1) (nI p) (nI s) (nI i) now past2 kept2 x = f_Model_tape_43_b mbits msizes msheets (f_Model_tape_43 mbits msizes msheets N2) (nI p) (nI s) (nI i) now past2 kept2 x := rfl
    rw [u1, u2]
    unfold f_Room_tape_56_b f_Model_tape_43_b f_Sheets_numberAt
    have is24 : ((24 : Int32) * nI s) + nI i = nI (24 * s + i) := by
      show nI 24 * nI s + nI i = _
      rw [mul_n, add_n]
    have e9 : nI i + 1 = nI (i + 1) := nI_1 i
    have nz : ¬ nI z ≤ nI i := nI_ge (by omega) (by omega)
    have en : numbers (24 * s + i) = msheets (24 * s + i) := hnum _ (by omega)
    simp only [rd_n (n := 4) (j := s) (by omega) (by omega), ez, ez2, if_neg nz, i_24, is24, rd_n (n := 96) (j := 24 * s + i) (by omega) (by omega), b1_e, isT, mtk, en]
    by_cases c1 : 0 ≤ (msheets (24 * s + i)).toInt ∧ (msheets (24 * s + i)).toInt ≤ 9999
    · have t101 : f_Model_tape_101 mbits msizes msheets (f_Model_tape_43 mbits msizes msheets N2) (nI p) (nI s) (nI i) now past2 kept2 x = f_Model_tape_43 mbits msizes msheets N2 (nI p) (nI s) (nI (i + 1)) (upd now (91 + 24 * p + i) (msheets (24 * s + i))) past2 kept2 x := by
        unfold f_Model_tape_101
        rw [is24, rd_n (by omega) (by omega), i_91, ck_n (by omega) (by omega), cl_n (by omega), nm_e1, e9]
      rw [if_pos c1, lt_e hp (show i ≤ 24 by omega) ec]
      simp only [i10, b1_e, ap_e hp (show i < 24 by omega) ec, b2_e, nm_e1, e9, t101]
      by_cases c2 : 0 < i ∧ (msheets (24 * s + i)).toInt < (msheets (24 * s + (i - 1))).toInt
      · refine ⟨i, Nat.le_refl i, by omega, fun k a b => by omega, ?_, ?_⟩
        · rw [if_neg (show ¬ i = 0 by omega), hh (i - 1) (by omega), if_neg (show ¬ msheets (24 * s + (i - 1)) ≤ msheets (24 * s + i) by rw [leI]; omega)]
          exact stopc i counts hits ec
        · have ei : nI (24 * s + i) - 1 = nI (24 * s + (i - 1)) := by
            show nI (24 * s + i) - nI 1 = _
            rw [sub_n (by omega)]
            congr 1
            omega
          rw [if_neg (show ¬ nI i = 0 from nI_ne0 (by omega) (by omega)), ei, rd_n (by omega) (by omega), if_pos (show msheets (24 * s + i) < msheets (24 * s + (i - 1)) by rw [ltI]; omega)]
          exact stopm i now
      · obtain ⟨n, n1, n2, n3, n4, n5⟩ := ih (i + 1) N N2 (upd counts p (nI (i + 1))) (upd hits (24 * p + i) (msheets (24 * s + i))) (upd now (91 + 24 * p + i) (msheets (24 * s + i))) (by omega) (by omega) (by omega) upd_s (fun k hk => by
          rw [upd_d]
          by_cases c : 24 * p + k = 24 * p + i
          · rw [if_pos c]
            congr 1
            omega
          · rw [if_neg c]; exact hh k (by omega))
        refine ⟨n, by omega, n2, fun k a b => ?_, ?_, ?_⟩
        · by_cases c : k = i
          · rw [c]; exact c1
          · exact n3 k (by omega) b
        · have hle : (if i = 0 then (-1 : Int32) else hits (24 * p + (i - 1))) ≤ msheets (24 * s + i) := by
            by_cases c : i = 0
            · rw [if_pos c, leI, show (-1 : Int32).toInt = -1 from rfl]; omega
            · rw [if_neg c, hh (i - 1) (by omega), leI]; omega
          rw [if_pos hle, n4, upd_upd, wr_s (by omega)]
        · have hm : (if nI i = 0 then f_Model_tape_43 mbits msizes msheets N2 (nI p) (nI s) (nI (i + 1)) (upd now (91 + 24 * p + i) (msheets (24 * s + i))) past2 kept2 x else rd 96 msheets (nI (24 * s + i) - 1) fun x13 => if msheets (24 * s + i) < x13 then f_Model_tape_132 mbits msizes msheets (nI p) (nI i) now past2 kept2 x else f_Model_tape_43 mbits msizes msheets N2 (nI p) (nI s) (nI (i + 1)) (upd now (91 + 24 * p + i) (msheets (24 * s + i))) past2 kept2 x) = f_Model_tape_43 mbits msizes msheets N2 (nI p) (nI s) (nI (i + 1)) (upd now (91 + 24 * p + i) (msheets (24 * s + i))) past2 kept2 x := by
            by_cases c : i = 0
            · rw [if_pos (show nI i = 0 by rw [c]; rfl)]
            · have ei : nI (24 * s + i) - 1 = nI (24 * s + (i - 1)) := by
                show nI (24 * s + i) - nI 1 = _
                rw [sub_n (by omega)]
                congr 1
                omega
              rw [if_neg (show ¬ nI i = 0 from nI_ne0 (by omega) (by omega)), ei, rd_n (by omega) (by omega), if_neg (show ¬ msheets (24 * s + i) < msheets (24 * s + (i - 1)) by rw [ltI]; omega)]
          rw [hm, n5, wr_s (by omega)]
    · refine ⟨i, Nat.le_refl i, by omega, fun k a b => by omega, ?_, ?_⟩
      · rw [if_neg c1]
        exact stopc i counts hits ec
      · rw [if_neg c1]
        exact stopm i now
end OPS7
