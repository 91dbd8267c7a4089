def rep (kinds ticks drums marks : Nat → Int32) (count : Int32) (values : Nat → Int32) (there : Int32) (counts hits : Nat → Int32) (x : Nat → Int32) : Prop := count = x 0 ∧ there = x 1 ∧ (∀ k, k < 5 → values k = x (2 + k)) ∧ (∀ k, k < nn x → kinds k = x (7 + k) ∧ ticks k = x (27 + k) ∧ drums k = x (47 + k) ∧ marks k = x (67 + k)) ∧ ∀ p, p < 4 → counts p = x (87 + p) ∧ ∀ i, i < hc x p → hits (24 * p + i) = x (91 + 24 * p + i)
def stk (kinds ticks sT sH : Nat → Int32) (n : Nat) : Prop := ∀ k, k < n → sT (2 * k + 1) = ticks k ∧ sT (2 * k + 2) = ticks k - 4 ∧ sH (2 * k + 1) = sT0 (kinds k).toNatClampNeg ∧ sH (2 * k + 2) = 1
def shs (bits sizes numbers mbits msizes msheets : Nat → Int32) : Prop := (∀ s, s < 4 → bits s = mbits s ∧ sizes s = msizes s ∧ (mbits s = 0 ∨ mbits s = 8 ∨ mbits s = 16 ∨ mbits s = 32) ∧ rg 0 24 (msizes s)) ∧ ∀ i, i < 96 → numbers i = msheets i
def pst (q slot : Nat) (pc : Int32) (acts fis ses tis drs hts : Nat → Int32) (ps : Int32) (now past : Nat → Int32) (kept : Int32) : Prop := q ≤ 20 ∧ slot < 20 ∧ pc = nI q ∧ kept = nI q ∧ ps = nI slot ∧ chn now past q slot acts fis ses tis drs hts
theorem rep_vis {kinds ticks drums marks : Nat → Int32} {count : Int32} {values : Nat → Int32} {there : Int32} {counts hits x y : Nat → Int32} (h : rep kinds ticks drums marks count values there counts hits x) (v : vis x y) : rep kinds ticks drums marks count values there counts hits y := by
  obtain ⟨h0, h1, h2, h3, h4⟩ := h
  obtain ⟨v0, v1, v2, v3, v4⟩ := v
  refine ⟨h0.trans v0, h1.trans v1, fun k q => (h2 k q).trans (v2 k q), fun k q => ?_, fun p q => ⟨(h4 p q).1.trans (v4 p q).1, fun i r => ?_⟩⟩
  · have q2 : k < nn x := by rw [nn_e v0]; exact q
    obtain ⟨a, b, c, d⟩ := h3 k q2
    obtain ⟨a2, b2, c2, d2⟩ := v3 k q2
    exact ⟨a.trans a2, b.trans b2, c.trans c2, d.trans d2⟩
  · have r2 : i < hc x p := by rw [hc_e (v4 p q).1]; exact r
    exact ((h4 p q).2 i r2).trans ((v4 p q).2 i r2)
theorem rd_l {α : Type} {n : Nat} (j : Nat) {i : Int32} {f : Nat → Int32} {k : Int32 → Option α} (hi : i = nI j) (h : j < n) (hn : n < 2147483648) : rd n f i k = k (f j) := by rw [hi]; exact rd_n h hn
theorem ck_l {α : Type} {n : Nat} (j : Nat) {i : Int32} {k : Option α} (hi : i = nI j) (h : j < n) (hn : n < 2147483648) : ck n i k = k := by rw [hi]; exact ck_n h hn
/-! small tests -/
theorem isB {p q : Int32} {z : Int} (hq : q.toInt = z) : f_Room_isBelow p q = some (if 0 ≤ p.toInt ∧ p.toInt < z then 1 else 0) := by
  unfold f_Room_isBelow
  have e : (0 : Int32).toInt = 0 := rfl
  by_cases c1 : p < 0
  · rw [if_pos c1, if_neg (by rw [ltI, e] at c1; omega)]
  · rw [if_neg c1]
    rw [ltI, e] at c1
    by_cases c2 : q ≤ p
    · rw [if_pos c2, if_neg (by rw [leI] at c2; omega)]
    · rw [if_neg c2, if_pos (by rw [leI] at c2; omega)]
theorem isT (p : Int32) : f_Room_isTick p = some (if 0 ≤ p.toInt ∧ p.toInt ≤ 9999 then 1 else 0) := by
  unfold f_Room_isTick
  have e : (0 : Int32).toInt = 0 := rfl
  have e2 : (9999 : Int32).toInt = 9999 := rfl
  by_cases c1 : p < 0
  · rw [if_pos c1, if_neg (by rw [ltI, e] at c1; omega)]
  · rw [if_neg c1]
    rw [ltI, e] at c1
    by_cases c2 : 9999 < p
    · rw [if_pos c2, if_neg (by rw [ltI, e2] at c2; omega)]
    · rw [if_neg c2, if_pos (by rw [ltI, e2] at c2; omega)]
theorem wit {p lo hi : Int32} {a b : Int} (ha : lo.toInt = a) (hb : hi.toInt = b) : f_Model_within p lo hi = some (if a ≤ p.toInt ∧ p.toInt ≤ b then 1 else 0) := by
  unfold f_Model_within
  by_cases c1 : p < lo
  · rw [if_pos c1, if_neg (by rw [ltI] at c1; omega)]
  · rw [if_neg c1]
    rw [ltI] at c1
    by_cases c2 : hi < p
    · rw [if_pos c2, if_neg (by rw [ltI] at c2; omega)]
    · rw [if_neg c2, if_pos (by rw [ltI] at c2; omega)]
theorem zb_i {c : Prop} [Decidable c] {α : Type} (k : Option α) : zb (if c then (1 : Int32) else 0) k = k := by
  by_cases h : c
  · rw [if_pos h]; rfl
  · rw [if_neg h]; rfl
theorem mtk (p : Int32) : f_Model_isTick p = some (if 0 ≤ p.toInt ∧ p.toInt ≤ 9999 then 1 else 0) := by
  unfold f_Model_isTick
  rw [wit (a := 0) (b := 9999) rfl rfl, b1_e, zb_i]
theorem mpl (p : Int32) : f_Model_isPlayer p = some (if 0 ≤ p.toInt ∧ p.toInt ≤ 3 then 1 else 0) := by
  unfold f_Model_isPlayer
  rw [wit (a := 0) (b := 3) rfl rfl, b1_e, zb_i]
theorem msh (p : Int32) : f_Model_isSheet p = some (if 0 ≤ p.toInt ∧ p.toInt ≤ 3 then 1 else 0) := by
  unfold f_Model_isSheet
  rw [wit (a := 0) (b := 3) rfl rfl, b1_e, zb_i]
theorem hasN {n : Nat} (hn : n ≤ 20) (p : Int32) : f_Line_hasNote (nI n) p = some (if 0 ≤ p.toInt ∧ p.toInt < (n : Int) then 1 else 0) := by
  unfold f_Line_hasNote
  rw [isB (z := n) (ito (by omega)), b1_e, zb_i]
theorem isN {now : Nat → Int32} {n : Nat} (h0 : now 0 = nI n) (hn : n ≤ 20) (p : Int32) : f_Model_isNote now p = some (if 0 ≤ p.toInt ∧ p.toInt < (n : Int) then 1 else 0) := by
  unfold f_Model_isNote
  rw [rd_l (i := 0) 0 rfl (by omega) (by omega), h0]
  have e : (nI n - 1).toInt = (n : Int) - 1 := by
    rw [← zI_nI]
    show (zI n - zI 1).toInt = _
    rw [zI_sub, zI_toInt (by omega) (by omega)]
  rw [wit (a := 0) (b := (n : Int) - 1) rfl e, b1_e, zb_i]
  congr 1
  by_cases c : 0 ≤ p.toInt ∧ p.toInt < (n : Int)
  · rw [if_pos c, if_pos (by omega)]
  · rw [if_neg c, if_neg (by omega)]
/-- a number that is told to be a place -/
theorem at_n {p : Int32} {n : Nat} (h : 0 ≤ p.toInt ∧ p.toInt < (n : Int)) : ∃ j : Nat, j < n ∧ p = nI j := by
  have e : p.toInt = ((p.toInt.toNat : Nat) : Int) := by omega
  exact ⟨p.toInt.toNat, by omega, iof e⟩
theorem at_le {p : Int32} {n : Nat} (h : 0 ≤ p.toInt ∧ p.toInt ≤ (n : Int)) : ∃ j : Nat, j ≤ n ∧ p = nI j := by
  have e : p.toInt = ((p.toInt.toNat : Nat) : Int) := by omega
  exact ⟨p.toInt.toNat, by omega, iof e⟩
theorem rfd (x p : Int32) : f_Room_finding x p = some (p, x + 1) := rfl
theorem mfd (x p : Int32) : f_Model_finding x p = some (p, x + 1) := rfl
theorem jrem_n {a b : Nat} (ha : a < 2147483648) (hb : 0 < b) (hb2 : b < 2147483648) : jrem (nI a) (nI b) = nI (a % b) := pk_rem ha hb hb2
theorem jmin_n {a b : Nat} (ha : a < 2147483648) (hb : b < 2147483648) : jmin (nI a) (nI b) = nI (min a b) := by
  unfold jmin
  by_cases c : b < a
  · rw [if_pos (nI_lt c (by omega))]
    congr 1
    omega
  · rw [if_neg (nI_nlt (by omega) (by omega))]
    congr 1
    omega
/-- the room's keep -/
theorem c_kp {q slot : Nat} (hq : q ≤ 20) (hs : slot < 20) (known : Int32) (acts fis ses : Nat → Int32) (act fi se : Int32) : f_Room_keep known (nI q) acts fis ses (nI slot) act fi se = some (0, nI (kq q), upd acts ((slot + 1) % 20) act, upd fis ((slot + 1) % 20) fi, upd ses ((slot + 1) % 20) se, nI ((slot + 1) % 20)) := by
  have hm : (slot + 1) % 20 < 20 := Nat.mod_lt _ (by omega)
  have e1 : f_Past_keepAct (nI q) acts fis ses (nI slot) act fi se = some (nI (kq q), upd acts ((slot + 1) % 20) act, upd fis ((slot + 1) % 20) fi, upd ses ((slot + 1) % 20) se, nI ((slot + 1) % 20)) := by
    unfold f_Past_keepAct
    have a1 : nI slot + 1 = nI (slot + 1) := nI_1 slot
    have a2 : nI q + 1 = nI (q + 1) := nI_1 q
    have a3 : jrem (nI (slot + 1)) 20 = nI ((slot + 1) % 20) := jrem_n (b := 20) (by omega) (by omega) (by omega)
    have a4 : jmin (nI (q + 1)) 20 = nI (kq q) := by
      rw [show (20 : Int32) = nI 20 from rfl, jmin_n (by omega) (by omega)]
      congr 1
      unfold kq
      split <;> omega
    rw [a1, a2, nm_e1, nm_e1, a3, a4, ck_n hm (by omega), ck_n hm (by omega), ck_n hm (by omega), cl_n (by omega)]
  unfold f_Room_keep
  rw [e1, b5_e]
  rfl
theorem pst_act {q slot : Nat} {pc : Int32} {acts fis ses tis drs hts : Nat → Int32} {ps : Int32} {now past : Nat → Int32} {kept : Int32} (h : pst q slot pc acts fis ses tis drs hts ps now past kept) (hw : wf now) {now2 tis2 drs2 hts2 : Nat → Int32} {act fi se : Int32}
    (ho : ∀ i, i < 20 → i ≠ (slot + 1) % 20 → tis2 i = tis i ∧ drs2 i = drs i ∧ ∀ k, hts2 (24 * i + k) = hts (24 * i + k) ∨ 24 ≤ k)
    (hl : lnk act fi se (tis2 ((slot + 1) % 20)) (drs2 ((slot + 1) % 20)) (fun k => hts2 (24 * ((slot + 1) % 20) + k)) (ct now2) (ct now)) :
    pst (kq q) ((slot + 1) % 20) (nI (kq q)) (upd acts ((slot + 1) % 20) act) (upd fis ((slot + 1) % 20) fi) (upd ses ((slot + 1) % 20) se) tis2 drs2 hts2 (nI ((slot + 1) % 20)) now2 (kpast now past q) (nI (kq q)) := by
  obtain ⟨hq, hs, -, -, -, hc0⟩ := h
  refine ⟨by unfold kq; split <;> omega, Nat.mod_lt _ (by omega), rfl, rfl, rfl, ?_⟩
  refine chn_keep hq hs hw hc0 (fun i hi hne => ⟨upd_n hne, upd_n hne, upd_n hne, (ho i hi hne).1, (ho i hi hne).2.1, (ho i hi hne).2.2⟩) ?_
  rw [upd_s, upd_s, upd_s]
  exact hl
