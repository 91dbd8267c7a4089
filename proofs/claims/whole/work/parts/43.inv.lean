/-! views of 187 numbers: what is seen of them, what is well formed, how an act is taken back -/
def nn (x : Nat → Int32) : Nat := (x 0).toNatClampNeg
def hc (x : Nat → Int32) (p : Nat) : Nat := (x (87 + p)).toNatClampNeg
def rg (lo hi : Int) (v : Int32) : Prop := lo ≤ v.toInt ∧ v.toInt ≤ hi
def wf (x : Nat → Int32) : Prop := rg 0 20 (x 0) ∧ rg 0 31 (x 1) ∧ (rg 0 200 (x 2) ∧ rg 0 100 (x 3) ∧ rg 0 4 (x 4) ∧ rg 0 200 (x 5) ∧ rg 0 100 (x 6)) ∧ (∀ k, k < nn x → rg 0 3 (x (7 + k)) ∧ rg 0 9999 (x (27 + k)) ∧ rg 0 4 (x (47 + k)) ∧ rg (-1) 1 (x (67 + k))) ∧ ∀ p, p < 4 → rg 0 24 (x (87 + p)) ∧ ∀ i, i < hc x p → rg 0 9999 (x (91 + 24 * p + i))
def vis (x y : Nat → Int32) : Prop := x 0 = y 0 ∧ x 1 = y 1 ∧ (∀ k, k < 5 → x (2 + k) = y (2 + k)) ∧ (∀ k, k < nn x → x (7 + k) = y (7 + k) ∧ x (27 + k) = y (27 + k) ∧ x (47 + k) = y (47 + k) ∧ x (67 + k) = y (67 + k)) ∧ ∀ p, p < 4 → x (87 + p) = y (87 + p) ∧ ∀ i, i < hc x p → x (91 + 24 * p + i) = y (91 + 24 * p + i)
theorem nn_e {x y : Nat → Int32} (h : x 0 = y 0) : nn x = nn y := by unfold nn; rw [h]
theorem hc_e {x y : Nat → Int32} {p : Nat} (h : x (87 + p) = y (87 + p)) : hc x p = hc y p := by unfold hc; rw [h]
theorem vis_rf (x : Nat → Int32) : vis x x := ⟨rfl, rfl, fun _ _ => rfl, fun _ _ => ⟨rfl, rfl, rfl, rfl⟩, fun _ _ => ⟨rfl, fun _ _ => rfl⟩⟩
theorem vis_sy {x y : Nat → Int32} (h : vis x y) : vis y x := by
  obtain ⟨h0, h1, h2, h3, h4⟩ := h
  refine ⟨h0.symm, h1.symm, fun k q => (h2 k q).symm, fun k q => ?_, fun p q => ⟨(h4 p q).1.symm, fun i r => ((h4 p q).2 i ?_).symm⟩⟩
  · obtain ⟨a, b, c, d⟩ := h3 k (by rw [nn_e h0]; exact q)
    exact ⟨a.symm, b.symm, c.symm, d.symm⟩
  · rw [hc_e (h4 p q).1]; exact r
theorem vis_tr {x y z : Nat → Int32} (h : vis x y) (g : vis y z) : vis x z := by
  obtain ⟨h0, h1, h2, h3, h4⟩ := h
  obtain ⟨g0, g1, g2, g3, g4⟩ := g
  refine ⟨h0.trans g0, h1.trans g1, fun k q => (h2 k q).trans (g2 k q), fun k q => ?_, fun p q => ⟨(h4 p q).1.trans (g4 p q).1, fun i r => ((h4 p q).2 i r).trans ((g4 p q).2 i ?_)⟩⟩
  · obtain ⟨a, b, c, d⟩ := h3 k q
    obtain ⟨a2, b2, c2, d2⟩ := g3 k (by rw [← nn_e h0]; exact q)
    exact ⟨a.trans a2, b.trans b2, c.trans c2, d.trans d2⟩
  · rw [← hc_e (h4 p q).1]; exact r
theorem wf_vis {x y : Nat → Int32} (h : vis x y) (w : wf x) : wf y := by
  obtain ⟨h0, h1, h2, h3, h4⟩ := h
  obtain ⟨w0, w1, ⟨wa, wb, wc, wd, we⟩, w3, w4⟩ := w
  refine ⟨by rw [← h0]; exact w0, by rw [← h1]; exact w1, ⟨by rw [← h2 0 (by omega)]; exact wa, by rw [← h2 1 (by omega)]; exact wb, by rw [← h2 2 (by omega)]; exact wc, by rw [← h2 3 (by omega)]; exact wd, by rw [← h2 4 (by omega)]; exact we⟩, fun k q => ?_, fun p q => ⟨by rw [← (h4 p q).1]; exact (w4 p q).1, fun i r => ?_⟩⟩
  · have q2 : k < nn x := by rw [nn_e h0]; exact q
    obtain ⟨a, b, c, d⟩ := h3 k q2
    rw [← a, ← b, ← c, ← d]
    exact w3 k q2
  · have r2 : i < hc x p := by rw [hc_e (h4 p q).1]; exact r
    rw [← (h4 p q).2 i r2]
    exact (w4 p q).2 i r2
theorem wf_n {x : Nat → Int32} (w : wf x) : nn x ≤ 20 ∧ x 0 = nI (nn x) := by
  obtain ⟨j, e, h1, h2, h3⟩ := inat w.1 (by omega)
  have e2 : nn x = j := by unfold nn; rw [e]; exact cl_n (by omega)
  rw [e2]
  exact ⟨by omega, e⟩
theorem wf_h {x : Nat → Int32} (w : wf x) {p : Nat} (hp : p < 4) : hc x p ≤ 24 ∧ x (87 + p) = nI (hc x p) := by
  obtain ⟨j, e, h1, h2, h3⟩ := inat (w.2.2.2.2 p hp).1 (by omega)
  have e2 : hc x p = j := by unfold hc; rw [e]; exact cl_n (by omega)
  rw [e2]
  exact ⟨by omega, e⟩
def ct (x : Nat → Int32) : Nat → Int32 := fun k => if k < 187 then x k else 0
def snp (past : Nat → Int32) (j : Nat) : Nat → Int32 := fun k => if k < 187 then past (187 * j + k) else 0
theorem ct_l {x : Nat → Int32} {k : Nat} (h : k < 187) : ct x k = x k := if_pos h
theorem vis_ct {x : Nat → Int32} (w : wf x) : vis x (ct x) := by
  have h := (wf_n w).1
  refine ⟨rfl, rfl, fun k q => (ct_l (by omega)).symm, fun k q => ⟨(ct_l (by omega)).symm, (ct_l (by omega)).symm, (ct_l (by omega)).symm, (ct_l (by omega)).symm⟩, fun p q => ⟨(ct_l (by omega)).symm, fun i r => ?_⟩⟩
  have h2 := (wf_h w q).1
  exact (ct_l (by omega)).symm
def vw (now past : Nat → Int32) (q : Nat) : Nat → Nat → Int32
  | 0 => ct now
  | a + 1 => snp past (q - 1 - a)
def lnk (act fi se ti dr : Int32) (hs : Nat → Int32) (x y : Nat → Int32) : Prop :=
  (act = 0 ∧ 0 < nn x ∧ vis (upd x 0 (x 0 - 1)) y) ∨
  (act = 1 ∧ nn x < 20 ∧ rg 0 3 fi ∧ vis (upd (upd (upd (upd (upd x (7 + nn x) fi) (27 + nn x) ti) (47 + nn x) dr) (67 + nn x) se) 0 (x 0 + 1)) y) ∨
  (act = 2 ∧ ∃ j : Nat, j < nn x ∧ fi = nI j ∧ vis (upd x (67 + j) se) y) ∨
  (act = 3 ∧ ∃ j : Nat, j < 5 ∧ fi = nI j ∧ 0 ≤ se.toInt ∧ se.toInt ≤ (sT2 j).toInt ∧ vis (upd x (2 + j) se) y) ∨
  (act = 4 ∧ vis (upd x 1 fi) y) ∨
  (act = 5 ∧ ∃ p : Nat, p < 4 ∧ fi = nI p ∧ 0 < hc x p ∧ vis (upd x (87 + p) (x (87 + p) - 1)) y) ∨
  (act = 6 ∧ ∃ p m : Nat, p < 4 ∧ m ≤ 24 ∧ fi = nI p ∧ se = nI m ∧ vis (fun k => if k = 87 + p then nI m else if 91 + 24 * p ≤ k ∧ k < 91 + 24 * p + m then hs (k - (91 + 24 * p)) else x k) y)
def chn (now past : Nat → Int32) (q slot : Nat) (acts fis ses tis drs hts : Nat → Int32) : Prop := ∀ a, a < q → wf (vw now past q (a + 1)) ∧ lnk (acts ((slot + 20 - a) % 20)) (fis ((slot + 20 - a) % 20)) (ses ((slot + 20 - a) % 20)) (tis ((slot + 20 - a) % 20)) (drs ((slot + 20 - a) % 20)) (fun k => hts (24 * ((slot + 20 - a) % 20) + k)) (vw now past q a) (vw now past q (a + 1))
/-! the model's keep -/
def kb (now past : Nat → Int32) (q i : Nat) : Nat → Int32 := fun m => if 187 * q + i ≤ m ∧ m < 187 * q + 187 then now (m - 187 * q) else past m
theorem mk_52 (now : Nat → Int32) (q : Nat) (hq : q < 20) : ∀ (d i n : Nat) (past : Nat → Int32), i + d = 187 → d < n → f_Model_keep_52 now n (nI i) past (nI q) = some (kb now past q i, nI (q + 1)) := by
  intro d
  induction d with
  | zero =>
    intro i n past h1 h2
    obtain ⟨n, rfl⟩ : ∃ m, n = m + 1 := ⟨n - 1, by omega⟩
    show f_Model_keep_52_b now (f_Model_keep_52 now n) (nI i) past (nI q) = _
    unfold f_Model_keep_52_b
    rw [if_pos (show (187 : Int32) ≤ nI i from nI_le (a := 187) (by omega) (by omega))]
    have e : kb now past q i = past := by
      funext m
      unfold kb
      rw [if_neg (by omega)]
    rw [e, nm_e1, nI_1]
  | succ d ih =>
    intro i n past h1 h2
    obtain ⟨n, rfl⟩ : ∃ m, n = m + 1 := ⟨n - 1, by omega⟩
    show f_Model_keep_52_b now (f_Model_keep_52 now n) (nI i) past (nI q) = _
    unfold f_Model_keep_52_b
    rw [if_neg (show ¬ (187 : Int32) ≤ nI i from nI_ge (b := 187) (by omega) (by omega)), rd_n (by omega) (by omega)]
    have e1 : (nI q * 187) + nI i = nI (187 * q + i) := by
      show nI q * nI 187 + nI i = _
      rw [mul_n, add_n, Nat.mul_comm]
    rw [e1, ck_n (by omega) (by omega), cl_n (by omega), nm_e1]
    have e2 : nI i + 1 = nI (i + 1) := nI_1 i
    rw [e2, ih (i + 1) n _ (by omega) (by omega)]
    congr 2
    funext m
    unfold kb
    rw [upd_d]
    by_cases c1 : m = 187 * q + i
    · subst c1
      rw [if_neg (by omega), if_pos rfl, if_pos (by omega)]
      congr 1
      omega
    · rw [if_neg c1]
      by_cases c2 : 187 * q + (i + 1) ≤ m ∧ m < 187 * q + 187
      · rw [if_pos c2, if_pos (by omega)]
      · rw [if_neg c2, if_neg (by omega)]
def sh (past : Nat → Int32) (i : Nat) : Nat → Int32 := fun m => if i ≤ m ∧ m < 3553 then past (m + 187) else past m
theorem mk_11 (now : Nat → Int32) : ∀ (d i n : Nat) (past : Nat → Int32), i + d = 3553 → d < n → f_Model_keep_11 now n (nI i) past (nI 20) = some (kb now (sh past i) 19 0, nI 20) := by
  intro d
  induction d with
  | zero =>
    intro i n past h1 h2
    obtain ⟨n, rfl⟩ : ∃ m, n = m + 1 := ⟨n - 1, by omega⟩
    show f_Model_keep_11_b now (f_Model_keep_11 now n) (nI i) past (nI 20) = _
    unfold f_Model_keep_11_b
    rw [if_pos (show (3553 : Int32) ≤ nI i from nI_le (a := 3553) (by omega) (by omega)), nm_e1]
    have e : sh past i = past := by
      funext m
      unfold sh
      rw [if_neg (by omega)]
    have e2 : nI 20 - 1 = nI 19 := rfl
    rw [e, e2]
    exact mk_52 now 19 (by omega) 187 0 fu past (by omega) (by unfold fu; omega)
  | succ d ih =>
    intro i n past h1 h2
    obtain ⟨n, rfl⟩ : ∃ m, n = m + 1 := ⟨n - 1, by omega⟩
    show f_Model_keep_11_b now (f_Model_keep_11 now n) (nI i) past (nI 20) = _
    unfold f_Model_keep_11_b
    have e1 : nI i + 187 = nI (i + 187) := add_n i 187
    have e2 : nI i + 1 = nI (i + 1) := nI_1 i
    rw [if_neg (show ¬ (3553 : Int32) ≤ nI i from nI_ge (b := 3553) (by omega) (by omega)), e1, rd_n (by omega) (by omega), ck_n (by omega) (by omega), cl_n (by omega), nm_e1, e2, ih (i + 1) n _ (by omega) (by omega)]
    congr 3
    funext m
    unfold sh
    rw [upd_d, upd_d]
    by_cases c1 : m = i
    · subst c1
      rw [if_neg (by omega), if_pos rfl, if_pos (by omega)]
    · rw [if_neg c1]
      by_cases c2 : i + 1 ≤ m ∧ m < 3553
      · rw [if_pos c2, if_neg (by omega), if_pos (by omega)]
      · rw [if_neg c2, if_neg (by omega)]
def kpast (now past : Nat → Int32) (q : Nat) : Nat → Int32 := if q = 20 then kb now (sh past 0) 19 0 else kb now past q 0
def kq (q : Nat) : Nat := if q = 20 then 20 else q + 1
theorem m_keep (now past : Nat → Int32) {q : Nat} (hq : q ≤ 20) : f_Model_keep now past (nI q) = some (kpast now past q, nI (kq q)) := by
  unfold f_Model_keep kpast kq
  by_cases c : q = 20
  · subst c
    rw [if_pos rfl, if_pos rfl, if_pos (show nI 20 = (20 : Int32) from rfl)]
    exact mk_11 now 3553 0 fu past (by omega) (by unfold fu; omega)
  · rw [if_neg (show ¬ nI q = (20 : Int32) from fun h => c ((nI_eq (by omega) (by omega)).mp h)), if_neg c, if_neg c]
    exact mk_52 now q (by omega) 187 0 fu past (by omega) (by unfold fu; omega)
