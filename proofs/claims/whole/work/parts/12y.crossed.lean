/-! crossed: the class counts pairs upwards, the reference all places of a square downwards -/
section
variable {σ τ : kx_St} {n : Nat} {kd wd hv w : Nat → Nat} {wt dc : Nat} {H : Nat → Nat → Nat}
def kd_up (g : Nat → Bool) : Nat → Nat
  | 0 => 0
  | m + 1 => kd_up g m + (if g m = true then 1 else 0)
def kd_fu (g : Nat → Bool) (c : Nat → Nat) : Nat → Nat
  | 0 => 0
  | m + 1 => if kd_up g m = 0 ∧ g m = true then c m else kd_fu g c m
/-- the first hit of the last d places ahead of M -/
def kd_fd (g : Nat → Bool) (c : Nat → Nat) (M : Nat) : Nat → Option Nat
  | 0 => none
  | d + 1 => if g (M - (d + 1)) = true then some (c (M - (d + 1))) else kd_fd g c M d
theorem kd_up_le (g : Nat → Bool) : ∀ m, kd_up g m ≤ m := by
  intro m
  induction m with
  | zero => exact Nat.le_refl _
  | succ m ih => rw [kd_up]; split <;> omega
theorem kd_first (g : Nat → Bool) (c : Nat → Nat) (M : Nat) : ∀ d, d ≤ M → (kd_up g (M - d) = 0 → kd_fd g c M d = (if kd_up g M = 0 then none else some (kd_fu g c M))) ∧ (0 < kd_up g (M - d) → 0 < kd_up g M ∧ kd_fu g c M = kd_fu g c (M - d)) := by
  intro d
  induction d with
  | zero =>
    intro _
    refine ⟨fun z => ?_, fun z => ⟨z, rfl⟩⟩
    rw [Nat.sub_zero] at z
    rw [if_pos z]; rfl
  | succ d ih =>
    intro hd
    obtain ⟨i1, i2⟩ := ih (by omega)
    have e : M - d = (M - (d + 1)) + 1 := by omega
    rw [e] at i1 i2
    refine ⟨fun z => ?_, fun z => ?_⟩
    · rw [kd_fd]
      rcases hg : g (M - (d + 1)) with _ | _
      · rw [if_neg (by decide)]
        exact i1 (by rw [kd_up, z, if_neg (by rw [hg]; decide)])
      · rw [if_pos rfl]
        have p : 0 < kd_up g (M - (d + 1) + 1) := by rw [kd_up, if_pos hg]; omega
        obtain ⟨j1, j2⟩ := i2 p
        rw [if_neg (by omega), j2, kd_fu, if_pos ⟨z, hg⟩]
    · have p : 0 < kd_up g (M - (d + 1) + 1) := by rw [kd_up]; omega
      obtain ⟨j1, j2⟩ := i2 p
      refine ⟨j1, ?_⟩
      rw [j2, kd_fu, if_neg (fun r => by omega)]
end
