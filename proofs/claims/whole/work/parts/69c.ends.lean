section ENDS
abbrev v3 : Type := Nat × Nat × Nat
abbrev eT : Type := Nat × v3
def mg (u v : v3) : v3 := if u.1 < v.1 then u else if v.1 < u.1 then v else (u.1, min u.2.1 v.2.1, u.2.2 + v.2.2)
theorem mg_e (u v : v3) : mrg (some u) (some v) = some (mg u v) := by
  unfold mg
  rcases Nat.lt_trichotomy u.1 v.1 with h | h | h
  · rw [mrg_lt h, if_pos h]
  · rw [mrg_eq h, if_neg (by omega), if_neg (by omega)]
  · rw [mrg_gt h, if_neg (by omega), if_pos h]
theorem mg_b (u v : v3) {a b : Nat} (h1 : u.1 ≤ a) (h2 : v.1 ≤ a) (h3 : u.2.1 < b) (h4 : v.2.1 < b) (h5 : 0 < u.2.2) (h6 : 0 < v.2.2) : (mg u v).1 ≤ a ∧ (mg u v).2.1 < b ∧ 0 < (mg u v).2.2 ∧ (mg u v).2.2 ≤ u.2.2 + v.2.2 := by
  unfold mg
  split
  · exact ⟨h1, h3, h5, by omega⟩
  · split
    · exact ⟨h2, h4, h6, by omega⟩
    · dsimp only
      exact ⟨h1, by omega, by omega, by omega⟩
def off : List eT → Nat → v3 → List eT
  | [], k, v => [(k, v)]
  | e :: t, k, v => if e.1 = k then (e.1, mg e.2 v) :: t else e :: off t k v
def lk : List eT → Nat → vT
  | [], _ => none
  | e :: t, k => if e.1 = k then some e.2 else lk t k
def ks (E : List eT) : List Nat := E.map Prod.fst
def Wt : List eT → Nat
  | [] => 0
  | e :: t => e.2.2.2 + Wt t
def SM (g : Nat → vT → vT) : List eT → vT
  | [] => none
  | e :: t => mrg (g e.1 (some e.2)) (SM g t)
def put1 (o : vT) (v : v3) : v3 := match o with
  | none => v
  | some u => mg u v
theorem lk_off (k : Nat) (v : v3) (j : Nat) : ∀ E, lk (off E k v) j = if j = k then some (put1 (lk E k) v) else lk E j := by
  intro E
  induction E with
  | nil =>
    show (if k = j then some v else none) = _
    by_cases c : j = k
    · rw [if_pos c, if_pos c.symm]
      rfl
    · rw [if_neg c, if_neg (fun q => c q.symm)]
      rfl
  | cons e t ih =>
    unfold off
    by_cases c1 : e.1 = k
    · rw [if_pos c1]
      show (if e.1 = j then some (mg e.2 v) else lk t j) = if j = k then some (put1 (if e.1 = k then some e.2 else lk t k) v) else if e.1 = j then some e.2 else lk t j
      rw [if_pos c1, c1]
      by_cases c : j = k
      · rw [if_pos c, if_pos c.symm]
        rfl
      · rw [if_neg c, if_neg (fun q => c q.symm), if_neg (fun q => c q.symm)]
    · rw [if_neg c1]
      show (if e.1 = j then some e.2 else lk (off t k v) j) = if j = k then some (put1 (if e.1 = k then some e.2 else lk t k) v) else if e.1 = j then some e.2 else lk t j
      rw [if_neg c1, ih]
      by_cases c2 : e.1 = j
      · rw [if_pos c2, if_pos c2, if_neg (fun q => c1 (c2.trans q))]
      · rw [if_neg c2, if_neg c2]
theorem lk_n {k : Nat} : ∀ {E : List eT}, lk E k = none ↔ k ∉ ks E := by
  intro E
  induction E with
  | nil => exact ⟨fun _ => (by intro q; cases q), fun _ => rfl⟩
  | cons e t ih =>
    show (if e.1 = k then some e.2 else lk t k) = none ↔ k ∉ e.1 :: ks t
    rw [List.mem_cons, not_or, ← ih]
    by_cases c : e.1 = k
    · rw [if_pos c]
      exact ⟨fun q => (by cases q), fun q => absurd c.symm q.1⟩
    · rw [if_neg c]
      exact ⟨fun q => ⟨fun r => c r.symm, q⟩, fun q => q.2⟩
theorem ks_off (k : Nat) (v : v3) : ∀ E, ks (off E k v) = if k ∈ ks E then ks E else ks E ++ [k] := by
  intro E
  induction E with
  | nil =>
    rw [if_neg (by intro q; cases q)]
    rfl
  | cons e t ih =>
    unfold off
    by_cases c : e.1 = k
    · rw [if_pos c, if_pos (show k ∈ ks (e :: t) from (by show k ∈ e.1 :: ks t; rw [c]; exact List.mem_cons_self))]
      rfl
    · rw [if_neg c]
      show e.1 :: ks (off t k v) = _
      rw [ih]
      by_cases c2 : k ∈ ks t
      · rw [if_pos c2, if_pos (show k ∈ ks (e :: t) from List.mem_cons_of_mem _ c2)]
        rfl
      · rw [if_neg c2, if_neg (show ¬ k ∈ ks (e :: t) from (by show ¬ k ∈ e.1 :: ks t; rw [List.mem_cons, not_or]; exact ⟨fun q => c q.symm, c2⟩))]
        rfl
theorem mem_off {k : Nat} {v : v3} {e : eT} : ∀ {E : List eT}, e ∈ off E k v → e ∈ E ∨ e = (k, v) ∨ ∃ u, (k, u) ∈ E ∧ e = (k, mg u v) := by
  intro E
  induction E with
  | nil =>
    intro h
    exact Or.inr (Or.inl (List.mem_singleton.mp h))
  | cons a t ih =>
    intro h
    unfold off at h
    by_cases c : a.1 = k
    · rw [if_pos c] at h
      rcases List.mem_cons.mp h with q | q
      · refine Or.inr (Or.inr ⟨a.2, ?_, ?_⟩)
        · rw [← c]
          exact List.mem_cons_self
        · rw [q, c]
      · exact Or.inl (List.mem_cons_of_mem _ q)
    · rw [if_neg c] at h
      rcases List.mem_cons.mp h with q | q
      · exact Or.inl (by rw [q]; exact List.mem_cons_self)
      · rcases ih q with r | r | ⟨u, r1, r2⟩
        · exact Or.inl (List.mem_cons_of_mem _ r)
        · exact Or.inr (Or.inl r)
        · exact Or.inr (Or.inr ⟨u, List.mem_cons_of_mem _ r1, r2⟩)
theorem Wt_off (k : Nat) (v : v3) : ∀ E, Wt (off E k v) ≤ Wt E + v.2.2 := by
  intro E
  induction E with
  | nil =>
    show v.2.2 + 0 ≤ 0 + v.2.2
    omega
  | cons e t ih =>
    unfold off
    by_cases c : e.1 = k
    · rw [if_pos c]
      show (mg e.2 v).2.2 + Wt t ≤ e.2.2.2 + Wt t + v.2.2
      have : (mg e.2 v).2.2 ≤ e.2.2.2 + v.2.2 := by
        unfold mg
        split
        · omega
        · split
          · omega
          · dsimp only
            omega
      omega
    · rw [if_neg c]
      show e.2.2.2 + Wt (off t k v) ≤ e.2.2.2 + Wt t + v.2.2
      omega
theorem lk_W {k : Nat} {v : v3} : ∀ {E : List eT}, lk E k = some v → v.2.2 ≤ Wt E := by
  intro E
  induction E with
  | nil => intro h; cases h
  | cons e t ih =>
    intro h
    have h' : (if e.1 = k then some e.2 else lk t k) = some v := h
    show v.2.2 ≤ e.2.2.2 + Wt t
    by_cases c : e.1 = k
    · rw [if_pos c] at h'
      cases h'
      omega
    · rw [if_neg c] at h'
      have := ih h'
      omega
theorem lk_m : ∀ {E : List eT} {e : eT}, (ks E).Nodup → e ∈ E → lk E e.1 = some e.2 := by
  intro E
  induction E with
  | nil => intro e _ h; cases h
  | cons a t ih =>
    intro e hn h
    have hn' : (a.1 :: ks t).Nodup := hn
    rw [List.nodup_cons] at hn'
    show (if a.1 = e.1 then some a.2 else lk t e.1) = some e.2
    rcases List.mem_cons.mp h with q | q
    · rw [q, if_pos rfl]
    · have hm : e.1 ∈ ks t := List.mem_map_of_mem q
      rw [if_neg (show ¬ a.1 = e.1 from fun r => hn'.1 (by rw [r]; exact hm)), ih hn'.2 q]
theorem lk_s {k : Nat} {v : v3} : ∀ {E : List eT}, lk E k = some v → (k, v) ∈ E := by
  intro E
  induction E with
  | nil => intro h; cases h
  | cons e t ih =>
    intro h
    have h' : (if e.1 = k then some e.2 else lk t k) = some v := h
    by_cases c : e.1 = k
    · rw [if_pos c] at h'
      cases h'
      rw [← c]
      exact List.mem_cons_self
    · rw [if_neg c] at h'
      exact List.mem_cons_of_mem _ (ih h')
theorem SM_off {g : Nat → vT → vT} (hg : ∀ k u v, g k (mrg u v) = mrg (g k u) (g k v)) (k : Nat) (v : v3) : ∀ E, SM g (off E k v) = mrg (SM g E) (g k (some v)) := by
  intro E
  induction E with
  | nil =>
    show mrg (g k (some v)) none = mrg none (g k (some v))
    rw [mrg_n, mrg_0]
  | cons e t ih =>
    unfold off
    by_cases c : e.1 = k
    · rw [if_pos c]
      show mrg (g e.1 (some (mg e.2 v))) (SM g t) = mrg (mrg (g e.1 (some e.2)) (SM g t)) (g k (some v))
      rw [← mg_e, hg, c, mrg_a, mrg_a, mrg_c (g k (some v)) (SM g t)]
    · rw [if_neg c]
      show mrg (g e.1 (some e.2)) (SM g (off t k v)) = mrg (mrg (g e.1 (some e.2)) (SM g t)) (g k (some v))
      rw [ih, mrg_a]
/-! keys -/
def enc (st : sT3N) : Nat := (st.1 * 41 + st.2.1) * 5 + st.2.2
def dec (k : Nat) : sT3N := (k / 5 / 41, k / 5 % 41, k % 5)
theorem dec_e {k : Nat} {st : sT3N} (hs : vS k st) (hk : k ≤ 20) : dec (enc st) = st ∧ enc st < 410 := by
  obtain ⟨a, b, c⟩ := st
  obtain ⟨h1, h2, h3, -⟩ := hs
  dsimp only at h1 h2 h3
  unfold dec enc
  dsimp only
  have e1 : ((a * 41 + b) * 5 + c) / 5 = a * 41 + b := by omega
  have e2 : ((a * 41 + b) * 5 + c) % 5 = c := by omega
  have e3 : (a * 41 + b) / 41 = a := by omega
  have e4 : (a * 41 + b) % 41 = b := by omega
  rw [e1, e2, e3, e4]
  exact ⟨rfl, by omega⟩
variable {x : Nat → Int32}
def one (x : Nat → Int32) (k : Nat) (st : sT3N) (v : v3) (h : Nat) (acc : List eT) : List eT := match trN x k st h with
  | none => acc
  | some p => off acc (enc p.1) (v.1 + p.2, 2 * v.2.1 + h, v.2.2)
def ext (x : Nat → Int32) (k : Nat) : List eT → List eT → List eT
  | [], acc => acc
  | e :: t, acc => ext x k t (one x k (dec e.1) e.2 1 (one x k (dec e.1) e.2 0 acc))
def fE (x : Nat → Int32) : Nat → List eT
  | 0 => [(0, (0, 0, 1))]
  | k + 1 => ext x k (fE x k) []
def gT (x : Nat → Int32) (d k : Nat) (key : Nat) (u : vT) : vT := tot x d k (dec key) u
theorem gT_m (x : Nat → Int32) (d k : Nat) : ∀ key u v, gT x d k key (mrg u v) = mrg (gT x d k key u) (gT x d k key v) := fun key u v => tot_m x d k (dec key) u v
/-- entries before note k -/
def vE (k : Nat) (E : List eT) : Prop := ∀ e ∈ E, (∃ st, vS k st ∧ e.1 = enc st) ∧ e.2.1 ≤ 9 * k ∧ e.2.2.1 < 2 ^ k ∧ 0 < e.2.2.2
theorem vE_off {k : Nat} {E : List eT} (h : vE k E) {st : sT3N} (hs : vS k st) {v : v3} (h1 : v.1 ≤ 9 * k) (h2 : v.2.1 < 2 ^ k) (h3 : 0 < v.2.2) : vE k (off E (enc st) v) := by
  intro e he
  rcases mem_off he with q | q | ⟨u, q1, q2⟩
  · exact h e q
  · rw [q]
    exact ⟨⟨st, hs, rfl⟩, h1, h2, h3⟩
  · obtain ⟨-, g1, g2, g3⟩ := h _ q1
    rw [q2]
    obtain ⟨m1, m2, m3, -⟩ := mg_b u v g1 h1 g2 h2 g3 h3
    exact ⟨⟨st, hs, rfl⟩, m1, m2, m3⟩
theorem one_v (hW : wf x) {k h : Nat} (hh : h < 2) {st : sT3N} (hs : vS k st) {v : v3} (h1 : v.1 ≤ 9 * k) (h2 : v.2.1 < 2 ^ k) (h3 : 0 < v.2.2) {acc : List eT} (ha : vE (k + 1) acc) : vE (k + 1) (one x k st v h acc) ∧ Wt (one x k st v h acc) ≤ Wt acc + v.2.2 := by
  unfold one
  cases ht : trN x k st h with
  | none => exact ⟨ha, by dsimp only; omega⟩
  | some p =>
    obtain ⟨st2, a⟩ := p
    have hp : 2 ^ (k + 1) = 2 * 2 ^ k := by rw [Nat.pow_succ, Nat.mul_comm]
    have := (trN_a ht).1
    dsimp only
    refine ⟨vE_off ha (trN_v hW hh hs ht) ?_ ?_ h3, Wt_off _ _ _⟩
    · dsimp only
      omega
    · dsimp only
      omega
theorem one_s (hW : wf x) {k h d : Nat} (hk : k < 20) (hh : h < 2) {st : sT3N} (hs : vS k st) {v : v3} (acc : List eT) : SM (gT x d (k + 1)) (one x k st v h acc) = mrg (SM (gT x d (k + 1)) acc) (nxt (tot x d (k + 1)) (trN x k st h) (some v) h) := by
  unfold one
  cases ht : trN x k st h with
  | none => exact (mrg_n _).symm
  | some p =>
    obtain ⟨st2, a⟩ := p
    dsimp only
    rw [SM_off (gT_m x d (k + 1))]
    congr 1
    show tot x d (k + 1) (dec (enc st2)) _ = tot x d (k + 1) st2 _
    rw [(dec_e (trN_v hW hh hs ht) (by omega)).1]
    rfl
theorem vE_d {k : Nat} (hk : k ≤ 20) {E : List eT} (h : vE k E) {e : eT} (he : e ∈ E) : vS k (dec e.1) ∧ enc (dec e.1) = e.1 ∧ e.1 < 410 := by
  obtain ⟨⟨st, h1, h2⟩, -⟩ := h e he
  obtain ⟨d1, d2⟩ := dec_e h1 hk
  rw [h2, d1]
  exact ⟨h1, rfl, d2⟩
theorem ext_v (hW : wf x) {k : Nat} (hk : k < 20) : ∀ (E acc : List eT), vE k E → vE (k + 1) acc → vE (k + 1) (ext x k E acc) ∧ Wt (ext x k E acc) ≤ Wt acc + 2 * Wt E := by
  intro E
  induction E with
  | nil => intro acc _ h; exact ⟨h, by show Wt acc ≤ Wt acc + 2 * 0; omega⟩
  | cons e t ih =>
    intro acc hE ha
    obtain ⟨-, b1, b2, b3⟩ := hE e List.mem_cons_self
    obtain ⟨d1, -⟩ := vE_d (by omega) hE List.mem_cons_self
    obtain ⟨a1, a2⟩ := one_v hW (h := 0) (by omega) d1 b1 b2 b3 ha
    obtain ⟨c1, c2⟩ := one_v hW (h := 1) (by omega) d1 b1 b2 b3 a1
    obtain ⟨i1, i2⟩ := ih _ (fun e he => hE e (List.mem_cons_of_mem _ he)) c1
    refine ⟨i1, ?_⟩
    show _ ≤ Wt acc + 2 * (e.2.2.2 + Wt t)
    have i2' : Wt (ext x k (e :: t) acc) ≤ _ := i2
    omega
theorem ext_s (hW : wf x) {k d : Nat} (hk : k < 20) : ∀ (E acc : List eT), vE k E → SM (gT x d (k + 1)) (ext x k E acc) = mrg (SM (gT x d (k + 1)) acc) (SM (gT x (d + 1) k) E) := by
  intro E
  induction E with
  | nil => intro acc _; exact (mrg_n _).symm
  | cons e t ih =>
    intro acc hE
    obtain ⟨d1, -⟩ := vE_d (by omega) hE List.mem_cons_self
    show SM (gT x d (k + 1)) (ext x k t _) = mrg _ (mrg (tot x (d + 1) k (dec e.1) (some e.2)) (SM (gT x (d + 1) k) t))
    rw [ih _ (fun e he => hE e (List.mem_cons_of_mem _ he)), one_s hW hk (by omega) d1, one_s hW hk (by omega) d1, tot_s, mrg_a, mrg_a, mrg_a]
theorem fE_v (hW : wf x) : ∀ k, k ≤ 20 → vE k (fE x k) ∧ Wt (fE x k) ≤ 2 ^ k := by
  intro k
  induction k with
  | zero =>
    intro _
    refine ⟨?_, Nat.le_refl 1⟩
    intro e he
    have := List.mem_singleton.mp he
    rw [this]
    exact ⟨⟨(0, 0, 0), vS_0, rfl⟩, by decide, by decide, by decide⟩
  | succ k ih =>
    intro hk
    obtain ⟨i1, i2⟩ := ih (by omega)
    obtain ⟨j1, j2⟩ := ext_v hW (k := k) (by omega) (fE x k) [] i1 (fun e he => by cases he)
    refine ⟨j1, ?_⟩
    have j2' : Wt (fE x (k + 1)) ≤ 0 + 2 * Wt (fE x k) := j2
    rw [Nat.pow_succ]
    omega
theorem fE_s (hW : wf x) : ∀ k d, k ≤ 20 → SM (gT x d k) (fE x k) = TT x (k + d) := by
  intro k
  induction k with
  | zero =>
    intro d _
    show mrg (tot x d 0 (dec 0) (some (0, 0, 1))) none = _
    rw [mrg_n, Nat.zero_add]
    rfl
  | succ k ih =>
    intro d hk
    show SM (gT x d (k + 1)) (ext x k (fE x k) []) = _
    rw [ext_s hW (by omega) _ _ (fE_v hW k (by omega)).1, ih (d + 1) (by omega)]
    show mrg none _ = _
    rw [mrg_0, show k + (d + 1) = k + 1 + d by omega]
theorem fE_n (hW : wf x) {k : Nat} (hk : k ≤ 20) : TT x k = SM (fun _ u => u) (fE x k) := (fE_s hW k 0 hk).symm
theorem SM_n : ∀ {E : List eT}, SM (fun _ u => u) E = none ↔ E = [] := by
  intro E
  cases E with
  | nil => exact ⟨fun _ => rfl, fun _ => rfl⟩
  | cons e t =>
    constructor
    · intro h
      have h' : mrg (some e.2) (SM (fun _ u => u) t) = none := h
      cases hs : SM (fun _ u => u) t with
      | none => rw [hs, mrg_n] at h'; cases h'
      | some r => rw [hs, mg_e] at h'; cases h'
    · intro h; cases h
theorem TT_mono (hW : wf x) {k m : Nat} (hk : k ≤ 20) (hm : k ≤ m) (h : TT x k = none) : TT x m = none := by
  rw [fE_n hW hk, SM_n] at h
  have := fE_s hW k (m - k) hk
  rw [h, show k + (m - k) = m by omega] at this
  exact this.symm
/-! pigeons -/
theorem pig : ∀ (n : Nat) (l : List Nat), l.Nodup → (∀ a ∈ l, a < n) → l.length ≤ n := by
  intro n
  induction n with
  | zero =>
    intro l _ h
    cases l with
    | nil => exact Nat.le_refl _
    | cons a t => exact absurd (h a List.mem_cons_self) (by omega)
  | succ n ih =>
    intro l hn h
    have h1 := ih (l.erase n) (hn.erase n) (by
      intro a ha
      have := (hn.mem_erase_iff).mp ha
      have := h a this.2
      omega)
    by_cases c : n ∈ l
    · rw [List.length_erase_of_mem c] at h1
      omega
    · rw [List.erase_of_not_mem c] at h1
      omega
end ENDS
