theorem kp_old {now past : Nat → Int32} {q a k : Nat} (hq : q ≤ 20) (ha : a < q) (ha2 : a + 1 < kq q) (hk : k < 187) : kpast now past q (187 * (kq q - 1 - (a + 1)) + k) = past (187 * (q - 1 - a) + k) := by
  unfold kpast kq at *
  by_cases c : q = 20
  · rw [if_pos c] at ha2 ⊢
    rw [if_pos c]
    unfold kb sh
    rw [if_neg (by omega), if_pos (by omega)]
    congr 1
    omega
  · rw [if_neg c] at ha2 ⊢
    rw [if_neg c]
    unfold kb
    rw [if_neg (by omega)]
    congr 1
    congr 1
    congr 1
    omega
theorem kp_new {now past : Nat → Int32} {q k : Nat} (hq : q ≤ 20) (hk : k < 187) : kpast now past q (187 * (kq q - 1) + k) = now k := by
  unfold kpast kq
  by_cases c : q = 20
  · rw [if_pos c, if_pos c]
    unfold kb
    have e : 187 * (20 - 1) + k - 187 * 19 = k := by omega
    rw [if_pos (by omega), e]
  · rw [if_neg c, if_neg c]
    unfold kb
    have e : 187 * (q + 1 - 1) + k - 187 * q = k := by omega
    rw [if_pos (by omega), e]
theorem vw_new {now now2 past : Nat → Int32} {q : Nat} (hq : q ≤ 20) : vw now2 (kpast now past q) (kq q) 1 = ct now := by
  funext k
  show snp (kpast now past q) (kq q - 1 - 0) k = ct now k
  unfold snp ct
  by_cases c : k < 187
  · rw [if_pos c, if_pos c]
    exact kp_new hq c
  · rw [if_neg c, if_neg c]
theorem vw_old {now now2 past : Nat → Int32} {q a : Nat} (hq : q ≤ 20) (ha : a + 1 < kq q) : vw now2 (kpast now past q) (kq q) (a + 2) = vw now past q (a + 1) := by
  funext k
  show snp (kpast now past q) (kq q - 1 - (a + 1)) k = snp past (q - 1 - a) k
  unfold snp
  by_cases c : k < 187
  · rw [if_pos c, if_pos c]
    exact kp_old hq (by unfold kq at ha; split at ha <;> omega) ha c
  · rw [if_neg c, if_neg c]
/-- one more act: the chain goes on, if the new act can be taken back -/
theorem chn_keep {now now2 past : Nat → Int32} {q slot : Nat} {acts fis ses tis drs hts acts2 fis2 ses2 tis2 drs2 hts2 : Nat → Int32} (hq : q ≤ 20) (hs : slot < 20) (hw : wf now) (hc0 : chn now past q slot acts fis ses tis drs hts)
    (ho : ∀ i, i < 20 → i ≠ (slot + 1) % 20 → acts2 i = acts i ∧ fis2 i = fis i ∧ ses2 i = ses i ∧ tis2 i = tis i ∧ drs2 i = drs i ∧ ∀ k, hts2 (24 * i + k) = hts (24 * i + k) ∨ 24 ≤ k)
    (hl : lnk (acts2 ((slot + 1) % 20)) (fis2 ((slot + 1) % 20)) (ses2 ((slot + 1) % 20)) (tis2 ((slot + 1) % 20)) (drs2 ((slot + 1) % 20)) (fun k => hts2 (24 * ((slot + 1) % 20) + k)) (ct now2) (ct now)) :
    chn now2 (kpast now past q) (kq q) ((slot + 1) % 20) acts2 fis2 ses2 tis2 drs2 hts2 := by
  intro a ha
  cases a with
  | zero =>
    rw [vw_new hq]
    have e : ((slot + 1) % 20 + 20 - 0) % 20 = (slot + 1) % 20 := by omega
    rw [e]
    exact ⟨wf_vis (vis_ct hw) hw, hl⟩
  | succ a =>
    rw [vw_old hq ha]
    have hq2 : a < q := by unfold kq at ha; split at ha <;> omega
    have e : ((slot + 1) % 20 + 20 - (a + 1)) % 20 = (slot + 20 - a) % 20 := by omega
    have hk20 : a + 1 < 20 := by unfold kq at ha; split at ha <;> omega
    have e2 : (slot + 20 - a) % 20 ≠ (slot + 1) % 20 := by omega
    rw [e]
    obtain ⟨o1, o2, o3, o4, o5, o6⟩ := ho ((slot + 20 - a) % 20) (Nat.mod_lt _ (by omega)) e2
    obtain ⟨w, l⟩ := hc0 a hq2
    refine ⟨w, ?_⟩
    rw [o1, o2, o3, o4, o5]
    have e3 : vw now2 (kpast now past q) (kq q) (a + 1) = vw now past q a := by
      cases a with
      | zero => exact vw_new hq
      | succ a => exact vw_old hq (by omega)
    rw [e3]
    rcases l with l | l | l | l | l | l | ⟨l0, p, m, l1, l2, l3, l4, l5⟩
    · exact Or.inl l
    · exact Or.inr (Or.inl l)
    · exact Or.inr (Or.inr (Or.inl l))
    · exact Or.inr (Or.inr (Or.inr (Or.inl l)))
    · exact Or.inr (Or.inr (Or.inr (Or.inr (Or.inl l))))
    · exact Or.inr (Or.inr (Or.inr (Or.inr (Or.inr (Or.inl l)))))
    · refine Or.inr (Or.inr (Or.inr (Or.inr (Or.inr (Or.inr ⟨l0, p, m, l1, l2, l3, l4, ?_⟩)))))
      have e4 : (fun k => if k = 87 + p then nI m else if 91 + 24 * p ≤ k ∧ k < 91 + 24 * p + m then (fun k => hts2 (24 * ((slot + 20 - a) % 20) + k)) (k - (91 + 24 * p)) else vw now past q a k) = (fun k => if k = 87 + p then nI m else if 91 + 24 * p ≤ k ∧ k < 91 + 24 * p + m then (fun k => hts (24 * ((slot + 20 - a) % 20) + k)) (k - (91 + 24 * p)) else vw now past q a k) := by
        funext k
        by_cases c : 91 + 24 * p ≤ k ∧ k < 91 + 24 * p + m
        · rcases o6 (k - (91 + 24 * p)) with h | h
          · simp only [h]
          · omega
        · rw [if_neg c, if_neg c]
      rw [e4]
      exact l5
