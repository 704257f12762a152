/-! KITES in pairs -/
def km_ml (n S : Nat) : Bool := (n - ko_pc S) % 2 == 1
def km_f (ml : Bool) (out : Nat → Bool) (f : Nat → Nat) (b0 : Nat) : Nat → Option (Nat × Nat)
  | 0 => if ml = true then some (b0, 0) else none
  | m + 1 => if out m = true then km_f ml out f b0 m else match km_f ml out f b0 m with
    | none => some (f m, m + 1)
    | some p => if p.1 < f m then some (f m, m + 1) else some p
def km_v (o : Option (Nat × Nat)) : Nat := match o with
  | none => 0
  | some p => p.1
def km_c (o : Option (Nat × Nat)) : Nat := match o with
  | none => 0
  | some p => p.2
theorem km_f_max {ml : Bool} {out : Nat → Bool} {f : Nat → Nat} {b0 m : Nat} (h : out m = false) : km_v (km_f ml out f b0 (m + 1)) = max (km_v (km_f ml out f b0 m)) (f m) := by
  rw [km_f, if_neg (by rw [h]; decide)]
  cases km_f ml out f b0 m with
  | none => show f m = max 0 (f m); omega
  | some p =>
    show km_v (if p.1 < f m then some (f m, m + 1) else some p) = max p.1 (f m)
    by_cases c : p.1 < f m
    · rw [if_pos c]; show f m = _; omega
    · rw [if_neg c]; show p.1 = _; omega
theorem km_f_spec {ml : Bool} {out : Nat → Bool} {f : Nat → Nat} {b0 : Nat} : ∀ m, (km_f ml out f b0 m = none → ml = false ∧ ∀ j, j < m → out j = true) ∧ ∀ a c, km_f ml out f b0 m = some (a, c) → (∀ j, j < m → out j = false → f j ≤ a) ∧ ((c = 0 ∧ ml = true ∧ a = b0) ∨ ∃ j, j < m ∧ c = j + 1 ∧ out j = false ∧ f j = a ∧ (ml = true → b0 < a) ∧ ∀ i, i < j → out i = false → f i < a)
  | 0 => by
    cases ml with
    | true =>
      refine ⟨fun h => (by cases h), fun a c h => ?_⟩
      cases h
      exact ⟨fun j hj => absurd hj (Nat.not_lt_zero _), Or.inl ⟨rfl, rfl, rfl⟩⟩
    | false => exact ⟨fun _ => ⟨rfl, fun j hj => absurd hj (Nat.not_lt_zero _)⟩, fun a c h => (by cases h)⟩
  | m + 1 => by
    obtain ⟨h0, h1⟩ := km_f_spec (ml := ml) (out := out) (f := f) (b0 := b0) m
    rw [km_f]
    by_cases o : out m = true
    · rw [if_pos o]
      refine ⟨fun h => ⟨(h0 h).1, fun j hj => ?_⟩, fun a c h => ?_⟩
      · by_cases e : j = m
        · rw [e]; exact o
        · exact (h0 h).2 j (by omega)
      · obtain ⟨t, sp⟩ := h1 a c h
        refine ⟨fun j hj oj => ?_, ?_⟩
        · by_cases e : j = m
          · subst e; rw [o] at oj; cases oj
          · exact t j (by omega) oj
        · rcases sp with sp | ⟨j, hj, sp⟩
          · exact Or.inl sp
          · exact Or.inr ⟨j, by omega, sp⟩
    · have of : out m = false := by simpa using o
      rw [if_neg o]
      cases hk : km_f ml out f b0 m with
      | none =>
        refine ⟨fun h => (by cases h), fun a c h => ?_⟩
        cases h
        obtain ⟨m0, all⟩ := h0 hk
        refine ⟨fun j hj oj => ?_, Or.inr ⟨m, by omega, rfl, of, rfl, fun z => (by rw [m0] at z; cases z), fun i hi oi => (by rw [all i hi] at oi; cases oi)⟩⟩
        by_cases e : j = m
        · rw [e]; exact Nat.le_refl _
        · rw [all j (by omega)] at oj; cases oj
      | some p =>
        obtain ⟨t, sp⟩ := h1 p.1 p.2 hk
        dsimp only
        by_cases g : p.1 < f m
        · rw [if_pos g]
          refine ⟨fun h => (by cases h), fun a c h => ?_⟩
          cases h
          refine ⟨fun j hj oj => ?_, Or.inr ⟨m, by omega, rfl, of, rfl, fun z => ?_, fun i hi oi => by have := t i hi oi; omega⟩⟩
          · by_cases e : j = m
            · rw [e]; exact Nat.le_refl _
            · have := t j (by omega) oj; omega
          · rcases sp with ⟨_, _, e⟩ | ⟨_, _, _, _, _, e, _⟩
            · omega
            · have := e z; omega
        · rw [if_neg g]
          refine ⟨fun h => (by cases h), fun a c h => ?_⟩
          cases h
          refine ⟨fun j hj oj => ?_, ?_⟩
          · by_cases e : j = m
            · subst e; omega
            · exact t j (by omega) oj
          · rcases sp with sp | ⟨j, hj, sp⟩
            · exact Or.inl sp
            · exact Or.inr ⟨j, by omega, sp⟩
def km_out (S k : Nat) (j : Nat) : Bool := decide (j ≤ k) || S.testBit j
def km_V (n : Nat) (cr : Nat → Nat → Nat) : Nat → Nat → Nat → Nat
  | 0, _, _ => 0
  | d + 1, k, S => if S.testBit k = true then km_V n cr d (k + 1) S else km_v (km_f (km_ml n S) (km_out S k) (fun j => cr k j + km_V n cr d (k + 1) (S ||| 2 ^ k ||| 2 ^ j)) (km_V n cr d (k + 1) (S ||| 2 ^ k)) n)
def km_o (n : Nat) (cr : Nat → Nat → Nat) (d k S : Nat) : Option (Nat × Nat) := km_f (km_ml n S) (km_out S k) (fun j => cr k j + km_V n cr d (k + 1) (S ||| 2 ^ k ||| 2 ^ j)) (km_V n cr d (k + 1) (S ||| 2 ^ k)) n
def km_up (q : Nat → Nat) (k j : Nat) : Nat → Nat := fun x => if x = k then j + 1 else if x = j then k + 1 else q x
def km_ln (n : Nat) (cr : Nat → Nat → Nat) : Nat → Nat → Nat → (Nat → Nat) → Nat → Nat
  | 0, _, _, q => q
  | d + 1, k, S, q => if S.testBit k = true then km_ln n cr d (k + 1) S q else if km_c (km_o n cr d k S) = 0 then km_ln n cr d (k + 1) (S ||| 2 ^ k) q else km_ln n cr d (k + 1) (S ||| 2 ^ k ||| 2 ^ (km_c (km_o n cr d k S) - 1)) (km_up q k (km_c (km_o n cr d k S) - 1))
/-! what a line of partners comes to -/
def km_okb (l : Nat → Nat) : Nat → Bool
  | 0 => true
  | i + 1 => km_okb l i && (l i == 0 || (l i - 1 != i && l (l i - 1) == i + 1))
def km_z (l : Nat → Nat) : Nat → Nat
  | 0 => 0
  | i + 1 => km_z l i + (if l i = 0 then 1 else 0)
def km_s (cr : Nat → Nat → Nat) (l : Nat → Nat) : Nat → Nat
  | 0 => 0
  | i + 1 => km_s cr l i + (if i < l i - 1 then cr i (l i - 1) else 0)
def km_ev (n : Nat) (cr : Nat → Nat → Nat) (l : Nat → Nat) : Nat := if (km_okb l n && km_z l n == n % 2) = true then km_s cr l n + 1 else 0
theorem km_okb_iff (l : Nat → Nat) : ∀ m, km_okb l m = true ↔ ∀ i, i < m → l i = 0 ∨ (l i - 1 ≠ i ∧ l (l i - 1) = i + 1)
  | 0 => ⟨fun _ i hi => absurd hi (Nat.not_lt_zero _), fun _ => rfl⟩
  | m + 1 => by
    have ih := km_okb_iff l m
    rw [km_okb, Bool.and_eq_true, ih, Bool.or_eq_true, Bool.and_eq_true, beq_iff_eq, bne_iff_ne, beq_iff_eq]
    refine ⟨fun h i hi => ?_, fun h => ⟨fun i hi => h i (by omega), h m (by omega)⟩⟩
    by_cases e : i = m
    · rw [e]; exact h.2
    · exact h.1 i (by omega)
theorem km_ev_0 {n : Nat} {cr : Nat → Nat → Nat} {l : Nat → Nat} (h : (∀ i, i < n → l i = 0 ∨ (l i - 1 ≠ i ∧ l (l i - 1) = i + 1)) → km_z l n = n % 2 → False) : km_ev n cr l = 0 := by
  unfold km_ev
  refine if_neg (fun c => ?_)
  rw [Bool.and_eq_true, km_okb_iff, beq_iff_eq] at c
  exact h c.1 c.2
theorem km_ev_1 {n : Nat} {cr : Nat → Nat → Nat} {l : Nat → Nat} (h : ∀ i, i < n → l i = 0 ∨ (l i - 1 ≠ i ∧ l (l i - 1) = i + 1)) (h2 : km_z l n = n % 2) : km_ev n cr l = km_s cr l n + 1 := by
  unfold km_ev
  refine if_pos ?_
  rw [Bool.and_eq_true, km_okb_iff, beq_iff_eq]
  exact ⟨h, h2⟩
theorem km_z_cg {l l' : Nat → Nat} : ∀ m, (∀ x, x < m → l x = l' x) → km_z l m = km_z l' m
  | 0, _ => rfl
  | m + 1, h => by rw [km_z, km_z, km_z_cg m (fun x hx => h x (by omega)), h m (by omega)]
theorem km_s_cg {cr : Nat → Nat → Nat} {l l' : Nat → Nat} : ∀ m, (∀ x, x < m → l x = l' x) → km_s cr l m = km_s cr l' m
  | 0, _ => rfl
  | m + 1, h => by rw [km_s, km_s, km_s_cg m (fun x hx => h x (by omega)), h m (by omega)]
theorem km_z_mono (l : Nat → Nat) (a : Nat) : ∀ d, km_z l a ≤ km_z l (a + d)
  | 0 => Nat.le_refl _
  | d + 1 => by
    have := km_z_mono l a d
    rw [show a + (d + 1) = a + d + 1 from rfl, km_z]
    omega
theorem km_pc1 : ∀ S, S < 64 → ∀ i, i < 6 → S.testBit i = false → ko_pc (S ||| 2 ^ i) = ko_pc S + 1 := by decide +kernel
theorem km_pcn : ∀ n, n < 7 → ∀ S, S < 64 → S < 2 ^ n → ko_pc S ≤ n := by decide +kernel
theorem km_pcf : ∀ n, n < 7 → ∀ S, S < 64 → S < 2 ^ n → (∀ i, i < n → S.testBit i = true) → ko_pc S = n := by decide +kernel
theorem km_two {n S k : Nat} (hn : n ≤ 6) (h2 : S < 2 ^ n) (hk : k < n) (lo : ∀ i, i < k → S.testBit i = true) (k0 : S.testBit k = false) (ev : (n - ko_pc S) % 2 = 0) : ¬ ∀ j, j < n → k < j → S.testBit j = true := fun all => by
  have o := kb_or hn h2 hk
  have a := km_pcf n (by omega) (S ||| 2 ^ k) o.2.2 o.1 (fun i hi => by
    rw [kv_tb]
    rcases Nat.lt_trichotomy i k with c | c | c
    · exact Or.inl (lo i c)
    · exact Or.inr c.symm
    · exact Or.inl (all i hi c))
  have b := km_pc1 S o.2.1 k (by omega) k0
  omega
