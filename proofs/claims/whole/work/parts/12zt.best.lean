/-! the best of some options, hour by hour -/
def kb_B (lit : Bool) (out : Nat → Bool) (f : Nat → Nat) (b0 : Nat) : Nat → Nat
  | 0 => b0
  | m + 1 => if out m = true then kb_B lit out f b0 m else if lit = true then min (kb_B lit out f b0 m) (f m) else max (kb_B lit out f b0 m) (f m)
def kb_V (n : Nat) (dl : Bool) (fb : Nat → Nat → Bool) (g : Nat → Nat → Nat) : Nat → Nat → Nat → Nat
  | 0, _, _ => 0
  | d + 1, h, u => kb_B (dl && (h % 2 == 1)) (fun i => fb h i || u.testBit i) (fun i => g h i + kb_V n dl fb g d (h + 1) (u ||| 2 ^ i)) (kb_V n dl fb g d (h + 1) u) n
theorem kb_B_le {lit : Bool} {out : Nat → Bool} {f : Nat → Nat} {b0 M : Nat} (h0 : b0 ≤ M) : ∀ m, (∀ i, i < m → f i ≤ M) → kb_B lit out f b0 m ≤ M
  | 0, _ => h0
  | m + 1, h => by
    have a := kb_B_le (lit := lit) (out := out) (f := f) h0 m (fun i hi => h i (by omega))
    have b := h m (by omega)
    rw [kb_B]
    split
    · exact a
    · split <;> omega
theorem kb_V_le {n : Nat} {dl : Bool} {fb : Nat → Nat → Bool} {g : Nat → Nat → Nat} (hg : ∀ h i, i < n → g h i ≤ 51) : ∀ d h u, kb_V n dl fb g d h u ≤ 51 * d
  | 0, _, _ => Nat.le_refl _
  | d + 1, h, u => by
    rw [kb_V]
    refine kb_B_le ?_ n (fun i hi => ?_)
    · have := kb_V_le (dl := dl) (fb := fb) hg d (h + 1) u
      omega
    · have a := kb_V_le (dl := dl) (fb := fb) hg d (h + 1) (u ||| 2 ^ i)
      have b := hg h i hi
      omega
theorem kb_B_cg {lit : Bool} {out out' : Nat → Bool} {f f' : Nat → Nat} {b0 : Nat} : ∀ m, (∀ i, i < m → out i = out' i ∧ f i = f' i) → kb_B lit out f b0 m = kb_B lit out' f' b0 m
  | 0, _ => rfl
  | m + 1, h => by rw [kb_B, kb_B, kb_B_cg m (fun i hi => h i (by omega)), (h m (by omega)).1, (h m (by omega)).2]
/-- the first that is best: 0 none, else i + 1 -/
def kb_D (out : Nat → Bool) (f : Nat → Nat) (b0 : Nat) : Nat → Nat
  | 0 => 0
  | m + 1 => if out m = true then kb_D out f b0 m else if kb_B false out f b0 m < f m then m + 1 else kb_D out f b0 m
theorem kb_D_le {out : Nat → Bool} {f : Nat → Nat} {b0 : Nat} : ∀ m, kb_D out f b0 m ≤ m
  | 0 => Nat.le_refl _
  | m + 1 => by
    have := kb_D_le (out := out) (f := f) (b0 := b0) m
    rw [kb_D]
    split
    · omega
    · split <;> omega
theorem kb_D_spec {out : Nat → Bool} {f : Nat → Nat} {b0 : Nat} : ∀ m, (∀ i, i < m → out i = false → f i ≤ kb_B false out f b0 m) ∧ ((kb_D out f b0 m = 0 ∧ kb_B false out f b0 m = b0) ∨ ∃ i, i < m ∧ kb_D out f b0 m = i + 1 ∧ out i = false ∧ f i = kb_B false out f b0 m ∧ b0 < kb_B false out f b0 m ∧ ∀ j, j < i → out j = false → f j < kb_B false out f b0 m)
  | 0 => ⟨fun i hi => absurd hi (Nat.not_lt_zero _), Or.inl ⟨rfl, rfl⟩⟩
  | m + 1 => by
    obtain ⟨a, b⟩ := kb_D_spec (out := out) (f := f) (b0 := b0) m
    rw [kb_D, kb_B]
    by_cases o : out m = true
    · rw [if_pos o, if_pos o]
      refine ⟨fun i hi oi => ?_, ?_⟩
      · by_cases e : i = m
        · subst e; rw [o] at oi; cases oi
        · exact a i (by omega) oi
      · rcases b with b | ⟨i, hi, b⟩
        · exact Or.inl b
        · exact Or.inr ⟨i, by omega, b⟩
    · have of : out m = false := by simpa using o
      rw [if_neg o, if_neg o, if_neg (show ¬ (false : Bool) = true by decide)]
      have top : b0 ≤ kb_B false out f b0 m := by rcases b with ⟨_, b⟩ | ⟨_, _, _, _, _, b, _⟩ <;> omega
      by_cases g : kb_B false out f b0 m < f m
      · rw [if_pos g, Nat.max_eq_right (by omega)]
        refine ⟨fun i hi oi => ?_, Or.inr ⟨m, by omega, rfl, of, rfl, by omega, fun j hj oj => ?_⟩⟩
        · by_cases e : i = m
          · subst e; exact Nat.le_refl _
          · have := a i (by omega) oi; omega
        · have := a j hj oj; omega
      · rw [if_neg g, Nat.max_eq_left (by omega)]
        refine ⟨fun i hi oi => ?_, ?_⟩
        · by_cases e : i = m
          · subst e; omega
          · exact a i (by omega) oi
        · rcases b with b | ⟨i, hi, b⟩
          · exact Or.inl b
          · exact Or.inr ⟨i, by omega, b⟩
theorem kb_B_up {out : Nat → Bool} {f : Nat → Nat} {b0 : Nat} (m : Nat) : b0 ≤ kb_B false out f b0 m := by
  rcases (kb_D_spec (out := out) (f := f) (b0 := b0) m).2 with ⟨_, b⟩ | ⟨_, _, _, _, _, b, _⟩ <;> omega
/-- the line that is told: digits 0 none, i + 1 the KITE i -/
def kb_dg (n : Nat) (fb : Nat → Nat → Bool) (g : Nat → Nat → Nat) (d h u : Nat) : Nat := kb_D (fun i => fb h i || u.testBit i) (fun i => g h i + kb_V n false fb g d (h + 1) (u ||| 2 ^ i)) (kb_V n false fb g d (h + 1) u) n
def kb_nx (u c : Nat) : Nat := if c = 0 then u else u ||| 2 ^ (c - 1)
def kb_ln (n : Nat) (fb : Nat → Nat → Bool) (g : Nat → Nat → Nat) : Nat → Nat → Nat → Nat → Nat
  | 0, _, _, _ => 0
  | d + 1, h, u, p => if p = h then kb_dg n fb g d h u else kb_ln n fb g d (h + 1) (kb_nx u (kb_dg n fb g d h u)) p
theorem kb_ln_le (n : Nat) (fb : Nat → Nat → Bool) (g : Nat → Nat → Nat) : ∀ d h u p, kb_ln n fb g d h u p ≤ n
  | 0, _, _, _ => Nat.zero_le _
  | d + 1, h, u, p => by
    rw [kb_ln]
    split
    · exact kb_D_le n
    · exact kb_ln_le n fb g d _ _ p
def kb_val (c : Nat) : Int32 := if c = 0 then -9 else nI (c - 1)
theorem kb_max {a b : Nat} (ha : a < 1000000) (hb : b < 1000000) : (if nI a < nI b then nI b else nI a) = nI (max a b) := by
  by_cases h : a < b
  · rw [if_pos ((kv_ltN (by omega) (by omega)).mpr h), Nat.max_eq_right (by omega)]
  · rw [if_neg (fun z => h ((kv_ltN (by omega) (by omega)).mp z)), Nat.max_eq_left (by omega)]
theorem kb_min {a b : Nat} (ha : a < 1000000) (hb : b < 1000000) : (if nI b < nI a then nI b else nI a) = nI (min a b) := by
  by_cases h : b < a
  · rw [if_pos ((kv_ltN (by omega) (by omega)).mpr h), Nat.min_eq_right (by omega)]
  · rw [if_neg (fun z => h ((kv_ltN (by omega) (by omega)).mp z)), Nat.min_eq_left (by omega)]
