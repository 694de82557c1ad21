section BEG
theorem RR0 : RR h0C h0M := by
  have z0 : (0 : Int32) = nI 0 := nI_0.symm
  have i0 : (0 : Int32).toInt = 0 := i32_z
  have n0 : nLd h0M = 0 := by decide
  refine ⟨⟨?_, ?_, ?_, ?_, ?_, ?_, ?_, ?_, ?_, ?_⟩, ⟨?_, ?_, ?_, ?_, ?_⟩, rfl⟩
  · exact ⟨rfl, fun _ => rfl, fun _ => rfl, fun _ => rfl, fun _ => rfl, fun _ => rfl⟩
  · exact ⟨rfl, rfl, rfl, rfl, rfl, rfl, fun _ => rfl, fun _ => rfl, fun _ => rfl, rfl, rfl, rfl⟩
  · exact ⟨rfl, fun k => by show (0 : Int32) = 0 &&& 255; decide, ⟨0, by omega, z0⟩, fun k => by show (0 : Int32).toInt8.toInt32 = 0; decide⟩
  · exact ⟨rfl, 0, by omega, z0, fun k hk => by omega⟩
  · exact ⟨rfl, rfl, fun k => by show (0 : Int32).toInt8.toInt32 = 0; decide, 0, 0, by omega, by omega, z0, z0, fun k hk => by omega, fun k hk => by omega⟩
  · exact ⟨rfl, fun _ => rfl, fun _ => rfl, fun _ => rfl, fun _ => rfl⟩
  · exact ⟨rfl, rfl, fun _ => rfl, fun _ => rfl, fun _ => rfl, fun _ => rfl, ⟨0, by omega, z0, fun t ht => by omega⟩, 0, by omega, z0, fun k hk => by omega⟩
  · exact ⟨fun _ => rfl, fun _ => rfl, fun k hk h => absurd rfl h⟩
  · refine ⟨fun i hi => ⟨Or.inl rfl, fun _ => ?_, fun h => absurd rfl h, fun k hk => ?_⟩, fun _ => rfl, fun _ => rfl, fun _ => rfl⟩
    · have c : i = 0 ∨ i = 1 ∨ i = 2 := by omega
      rcases c with rfl | rfl | rfl <;> decide
    · have c : i = 0 ∨ i = 1 ∨ i = 2 := by omega
      rcases c with rfl | rfl | rfl <;> rfl
  · have e : tanksM h0M = [] := by
      unfold tanksM
      rw [n0]
      rfl
    refine ⟨by rw [e]; exact z0, fun k j h => ?_⟩
    rw [e, List.getElem?_nil] at h
    cases h
  · exact ⟨⟨0, by omega, z0⟩, fun i hi => by rw [n0] at hi; omega⟩
  · have r : ∀ (x : Int32) (a b : Int), (decide (a ≤ x.toInt) && decide (x.toInt ≤ b)) = true → a ≤ x.toInt ∧ x.toInt ≤ b := fun x a b h => by
      rw [Bool.and_eq_true, decide_eq_true_iff, decide_eq_true_iff] at h
      exact h
    exact ⟨r (gI h0M 0 6) _ _ (by decide +kernel), r (gI h0M 0 7) _ _ (by decide +kernel), r (gI h0M 0 8) _ _ (by decide +kernel), r (gI h0M 0 9) _ _ (by decide +kernel), r (gI h0M 0 10) _ _ (by decide +kernel), ⟨0, by omega, z0, fun i j h1 h2 => by omega⟩, fun i hi => by rw [show nLy h0M = 0 by decide] at hi; omega, r (gI h0M 8 0) _ _ (by decide +kernel), r (gI h0M 8 1) _ _ (by decide +kernel), r (gI h0M 8 2) _ _ (by decide +kernel), r (gI h0M 0 15) _ _ (by decide +kernel)⟩
  · exact ⟨0, by omega, z0, fun p hp => by omega⟩
  · refine ⟨fun k hk => ⟨?_, ?_⟩, fun k _ _ => rfl, fun k hk => by rw [n0] at hk; omega⟩
    · show 0 ≤ (0 : Int32).toInt ∧ (0 : Int32).toInt ≤ 50
      rw [i0]; omega
    · show 0 ≤ (0 : Int32).toInt ∧ (0 : Int32).toInt ≤ 100
      rw [i0]; omega
  · exact fun i hi h => absurd rfl h
end BEG
