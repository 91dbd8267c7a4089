section STEPS
/-! what holds between two calls -/
def inv (Room_findings Hands_leastPrice Hands_best Hands_bestWays Hands_stuckAt Hands_walkPrice Hands_isKnown Arms_left Arms_right : Int32) (EndA_keys EndA_prices EndA_firsts EndA_wayCounts : Nat → Int32) (EndA_size : Int32) (EndB_keys EndB_prices EndB_firsts EndB_wayCounts : Nat → Int32) (EndB_size : Int32) (Line_kinds Line_ticks Line_drums Line_marks Line_strokeTicks Line_strokeHeights : Nat → Int32) (Line_count : Int32) (Rules_values : Nat → Int32) (Basses_there : Int32) (Basses_latestTicks Tapes_counts Tapes_hits Reading_matches : Nat → Int32) (Reading_matched : Int32) (Reading_prices : Nat → Int32) (Reading_player : Int32) (Sheets_bits Sheets_sizes Sheets_numbers : Nat → Int32) (Past_count : Int32) (Past_acts Past_firsts Past_seconds Past_ticks Past_drums Past_hits : Nat → Int32) (Past_slot : Int32) (Model_now Model_past : Nat → Int32) (Model_kept Model_findings : Int32) (Model_bits Model_sizes Model_sheets Model_least Model_ways : Nat → Int32) (Model_thenCost Model_thenWays Model_bothCost Model_bothWays : Int32) (Model_handOf Model_crossedAt Model_strokeOf Model_prices Model_hitAt Model_carried : Nat → Int32) : Prop := Room_findings = Model_findings ∧ rep Line_kinds Line_ticks Line_drums Line_marks Line_count Rules_values Basses_there Tapes_counts Tapes_hits Model_now ∧ wf Model_now ∧ stk Line_kinds Line_ticks Line_strokeTicks Line_strokeHeights (nn Model_now) ∧ shs Sheets_bits Sheets_sizes Sheets_numbers Model_bits Model_sizes Model_sheets ∧ (∃ q slot, pst q slot Past_count Past_acts Past_firsts Past_seconds Past_ticks Past_drums Past_hits Past_slot Model_now Model_past Model_kept) ∧ kno Model_now Hands_leastPrice Hands_best Hands_bestWays Hands_stuckAt Hands_isKnown ∧ eok EndA_keys EndA_wayCounts EndA_size ∧ eok EndB_keys EndB_wayCounts EndB_size
def x_0 : Nat → Int32 := upd (upd (upd (upd (upd (upd (fun _ => 0) 1 31) 2 20) 3 8) 4 1) 5 40) 6 15
theorem x_0z {k : Nat} (h : 7 ≤ k) : x_0 k = 0 := by
  unfold x_0
  rw [upd_n (by omega), upd_n (by omega), upd_n (by omega), upd_n (by omega), upd_n (by omega), upd_n (by omega)]
theorem x_0n : nn x_0 = 0 := rfl
theorem x_0h {p : Nat} : hc x_0 p = 0 := by
  unfold hc
  rw [x_0z (by omega)]
  rfl
theorem wf_0 : wf x_0 := by
  refine ⟨by unfold rg; decide, by unfold rg; decide, ⟨by unfold rg; decide, by unfold rg; decide, by unfold rg; decide, by unfold rg; decide, by unfold rg; decide⟩, ?_, ?_⟩
  · intro k hk
    rw [x_0n] at hk
    omega
  · intro p hp
    refine ⟨?_, ?_⟩
    · rw [x_0z (by omega)]
      unfold rg
      decide
    · intro i hi
      rw [x_0h] at hi
      omega
theorem inv_0 : inv 0 0 0 0 (-1) 0 0 0 0 (fun _ => 0) (fun _ => 0) (fun _ => 0) (fun _ => 0) 0 (fun _ => 0) (fun _ => 0) (fun _ => 0) (fun _ => 0) 0 (fun _ => 0) (fun _ => 0) (fun _ => 0) (fun _ => 0) (fun _ => 0) (fun _ => 0) 0 (upd (upd (upd (upd (upd (fun _ => 0) (0 : Int32).toNatClampNeg 20) (1 : Int32).toNatClampNeg 8) (2 : Int32).toNatClampNeg 1) (3 : Int32).toNatClampNeg 40) (4 : Int32).toNatClampNeg 15) 31 (fun _ => 0) (fun _ => 0) (fun _ => 0) (fun _ => 0) 0 (fun _ => 0) 0 (fun _ => 0) (fun _ => 0) (fun _ => 0) 0 (fun _ => 0) (fun _ => 0) (fun _ => 0) (fun _ => 0) (fun _ => 0) (fun _ => 0) 0 (upd (upd (upd (upd (upd (upd (fun _ => 0) (1 : Int32).toNatClampNeg 31) (2 : Int32).toNatClampNeg 20) (3 : Int32).toNatClampNeg 8) (4 : Int32).toNatClampNeg 1) (5 : Int32).toNatClampNeg 40) (6 : Int32).toNatClampNeg 15) (fun _ => 0) 0 0 (fun _ => 0) (fun _ => 0) (fun _ => 0) (fun _ => 0) (fun _ => 0) 0 0 0 0 (fun _ => 0) (fun _ => 0) (fun _ => 0) (fun _ => 0) (fun _ => 0) (fun _ => 0) := by
  have hr : rep (fun _ => 0) (fun _ => 0) (fun _ => 0) (fun _ => 0) 0 (upd (upd (upd (upd (upd (fun _ => 0) 0 20) 1 8) 2 1) 3 40) 4 15) 31 (fun _ => 0) (fun _ => 0) x_0 := by
    refine ⟨rfl, rfl, ?_, ?_, ?_⟩
    · intro k hk
      rcases (show k = 0 ∨ k = 1 ∨ k = 2 ∨ k = 3 ∨ k = 4 by omega) with q | q | q | q | q <;> subst q <;> rfl
    · intro k hk
      rw [x_0n] at hk
      omega
    · intro p hp
      refine ⟨?_, ?_⟩
      · rw [x_0z (by omega)]
      · intro i hi
        rw [x_0h] at hi
        omega
  have hs : shs (fun _ => 0) (fun _ => 0) (fun _ => 0) (fun _ => 0) (fun _ => 0) (fun _ => 0) := ⟨fun s _ => ⟨rfl, rfl, Or.inl rfl, ⟨Int.le_refl 0, (by decide : (0 : Int) ≤ 24)⟩⟩, fun i _ => rfl⟩
  unfold inv
  exact ⟨rfl, hr, wf_0, fun k hk => absurd hk (by have := x_0n; show ¬ k < nn x_0; omega), hs, ⟨0, 0, by omega, by omega, rfl, rfl, rfl, fun a ha => absurd ha (by omega)⟩, Or.inl rfl, eok_0 _, eok_0 _⟩
end STEPS
