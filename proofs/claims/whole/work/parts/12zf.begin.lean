theorem kr_begin : kr_R kx_s0 kx_s1 := by
  have a1 : ∀ a, 60 ≤ a → a < 70 → kx_s0.1 a 1 = -1 := fun a h1 h2 => if_pos ⟨h1, h2, rfl⟩
  have a0 : ∀ a j, ¬ (60 ≤ a ∧ a < 70 ∧ j = 1) → ¬ (30 ≤ a ∧ a < 60 ∧ j = 4) → kx_s0.1 a j = 0 := by
    intro a j h1 h2
    show (if 60 ≤ a ∧ a < 70 ∧ j = 1 then (-1 : Int32) else if 30 ≤ a ∧ a < 60 ∧ j = 4 then -9 else 0) = 0
    rw [if_neg h1, if_neg h2]
  have a9 : ∀ a, 30 ≤ a → a < 60 → kx_s0.1 a 4 = -9 := by
    intro a h1 h2
    show (if 60 ≤ a ∧ a < 70 ∧ 4 = 1 then (-1 : Int32) else if 30 ≤ a ∧ a < 60 ∧ 4 = 4 then -9 else 0) = -9
    rw [if_neg (by omega), if_pos ⟨h1, h2, rfl⟩]
  have b1 : ∀ a j, (a = 6 ∨ a = 8 ∨ a = 1 ∧ (j = 616 ∨ j = 1232 ∨ j = 1848)) → kx_s1.1 a j = -1 := fun a j h => if_pos h
  have b0 : ∀ a j, ¬ (a = 6 ∨ a = 8 ∨ a = 1 ∧ (j = 616 ∨ j = 1232 ∨ j = 1848)) → kx_s1.1 a j = 0 := fun a j h => if_neg h
  refine ⟨fun r hr => ?_, fun r hr => ?_, ⟨?_, fun f hf => ?_⟩, ⟨?_, rfl, rfl⟩, ?_, ?_⟩
  · exact ⟨by rw [b1 _ _ (by omega), a1 _ (by omega) (by omega)], Or.inl (a1 _ (by omega) (by omega))⟩
  · exact ⟨by rw [b1 _ _ (by omega), a1 _ (by omega) (by omega)], Or.inl (a1 _ (by omega) (by omega))⟩
  · rw [a0 _ _ (by omega) (by omega), b0 _ _ (by omega)]
  · rw [a0 _ _ (by omega) (by omega), b0 _ _ (by omega)]
  · rw [a0 _ _ (by omega) (by omega), b0 _ _ (by omega)]
  · refine ⟨0, fun _ => 0, fun _ => 0, fun _ => 0, fun _ => 0, 0, 0, fun _ _ => 0, ⟨⟨by omega, by omega, fun _ _ => (by decide : (0 : Nat) < 10), fun i hi => by omega⟩, ⟨a0 _ _ (by omega) (by omega), a0 _ _ (by omega) (by omega), fun h hh => a0 _ _ (by omega) (by omega), fun i hi => by omega⟩, ⟨b0 _ _ (by omega), b0 _ _ (by omega), fun h hh => b0 _ _ (by omega), fun i hi => by omega⟩, by omega, ⟨a0 _ _ (by omega) (by omega), a0 _ _ (by omega) (by omega), a0 _ _ (by omega) (by omega), fun i hi => by omega⟩, ⟨b0 _ _ (by omega), fun k hk => b0 _ _ (by omega), fun d hd => by omega⟩, fun d hd => ⟨⟨fun i hi => ?_, fun i hi => hi, fun i hi => by omega, fun i hi => (by decide : (0 : Nat) ≤ 60), fun i hi _ => rfl⟩, Nat.zero_le _⟩, fun d hd => by omega⟩, fun k hk => Or.inl ⟨a0 _ _ (by omega) (by omega), b1 _ _ (by omega)⟩⟩
    rw [Nat.zero_testBit] at hi; cases hi
  · refine ⟨⟨a0 _ _ (by omega) (by omega), a0 _ _ (by omega) (by omega), a0 _ _ (by omega) (by omega), fun i hi => ⟨a9 _ (by omega) (by omega), a0 _ _ (by omega) (by omega)⟩⟩, fun a ha hb => Or.inl (a0 _ _ (by omega) (by omega))⟩
