/-! longs that are numbers; shares in lowest terms -/
def nL (a : Nat) : Int64 := Int64.ofNat a
theorem nL_add (a b : Nat) : nL a + nL b = nL (a + b) := (Int64.ofNat_add a b).symm
theorem nL_mul (a b : Nat) : nL a * nL b = nL (a * b) := (Int64.ofNat_mul a b).symm
theorem nL_toInt {a : Nat} (h : a < 2 ^ 62) : (nL a).toInt = (a : Int) := Int64.toInt_ofNat_of_lt (by omega)
theorem nL_of {a : Nat} (h : a < 2147483648) : (nI a).toInt64 = nL a := by
  rw [← Int64.toInt_inj, kv_l, kv_n h, nL_toInt (by omega)]
theorem nL_inj {a b : Nat} (ha : a < 2 ^ 62) (hb : b < 2 ^ 62) : nL a = nL b ↔ a = b := by
  rw [← Int64.toInt_inj, nL_toInt ha, nL_toInt hb]; omega
theorem nL_div {a b : Nat} (ha : a < 2 ^ 62) (hb : b < 2 ^ 62) (b0 : 0 < b) : nL a / nL b = nL (a / b) := by
  have d := Nat.div_le_self a b
  rw [← Int64.toInt_inj, kl_div (by rw [nL_toInt ha]; omega) (by rw [nL_toInt hb]; omega), nL_toInt ha, nL_toInt hb, nL_toInt (by omega)]
  exact (Int.natCast_ediv a b).symm
theorem nL_rem {a b : Nat} (ha : a < 2 ^ 62) (hb : b < 2 ^ 62) (b0 : 0 < b) : nL a - nL a / nL b * nL b = nL (a % b) := by
  have d := Nat.mod_le a b
  rw [← Int64.toInt_inj, kl_rem (by rw [nL_toInt ha]; omega) (by rw [nL_toInt hb]; omega), nL_toInt ha, nL_toInt hb, nL_toInt (by omega)]
  exact (Int.natCast_emod a b).symm
theorem nL_0 {a : Nat} (ha : a < 2 ^ 62) : nL a = 0 ↔ a = 0 := nL_inj (b := 0) ha (by decide)
theorem kl_eq0 {a : Nat} (ha : a < 2 ^ 62) : lg_cmp (nL a) 0 = 0 ↔ a = 0 := by rw [lg_cmp_eq, nL_0 ha]
theorem ko_half {x y : Nat} (h : 0 < x % y) (y0 : 0 < y) : 2 * (y % (x % y)) < y := by
  have a := Nat.mod_lt x y0
  have b := Nat.mod_lt y h
  have c := Nat.div_add_mod y (x % y)
  have q : 1 ≤ y / (x % y) := (Nat.one_le_div_iff h).mpr (by omega)
  have : x % y * 1 ≤ x % y * (y / (x % y)) := Nat.mul_le_mul_left _ q
  omega
theorem s6_gcd {Q : Int64 → Prop} : ∀ m x y k, x < 2 ^ 62 → y < 2 ^ m → m ≤ 62 → k + 2 * m ≤ 198 → Q (nL (Nat.gcd x y)) → p6_greatestDivisor_L9 (2 * m + 1) (nL x) (nL y) (nI k) Q := by
  have done : ∀ f x k, x < 2 ^ 62 → k < 200 → Q (nL x) → p6_greatestDivisor_L9 (f + 1) (nL x) (nL 0) (nI k) Q := by
    intro f x k hx hk q
    unfold p6_greatestDivisor_L9
    exact kv_f (by show ¬ nI 200 ≤ nI k; rw [kv_leN (by omega) (by omega)]; omega) (kv_t ((kl_eq0 (by decide)).mpr rfl) q)
  have step : ∀ f x y k, x < 2 ^ 62 → 0 < y → y < 2 ^ 62 → k < 200 → p6_greatestDivisor_L9 f (nL y) (nL (x % y)) (nI (k + 1)) Q → p6_greatestDivisor_L9 (f + 1) (nL x) (nL y) (nI k) Q := by
    intro f x y k hx y0 hy hk q
    rw [p6_greatestDivisor_L9, nL_rem hx hy y0, show nI k + 1 = nI (k + 1) from nI_1 _]
    exact kv_f (by show ¬ nI 200 ≤ nI k; rw [kv_leN (by omega) (by omega)]; omega) (kv_f (by rw [kl_eq0 hy]; omega) ⟨by rw [nL_0 hy]; omega, q⟩)
  intro m
  induction m with
  | zero =>
    intro x y k hx hy _ hk q
    obtain rfl : y = 0 := by omega
    rw [Nat.gcd_zero_right] at q
    exact done 0 x k hx (by omega) q
  | succ m ih =>
    intro x y k hx hy hm hk q
    have hy2 : y < 2 ^ 62 := Nat.lt_of_lt_of_le hy (Nat.pow_le_pow_right (by decide) hm)
    by_cases y0 : y = 0
    · subst y0
      rw [Nat.gcd_zero_right] at q
      exact done _ x k hx (by omega) q
    · rw [show 2 * (m + 1) + 1 = 2 * m + 1 + 1 + 1 from rfl]
      have g1 : Nat.gcd x y = Nat.gcd y (x % y) := by rw [Nat.gcd_comm x y, Nat.gcd_rec y x, Nat.gcd_comm]
      have l1 := Nat.mod_lt x (show 0 < y by omega)
      refine step _ x y k hx (by omega) hy2 (by omega) ?_
      rw [g1] at q
      by_cases r0 : x % y = 0
      · rw [r0, Nat.gcd_zero_right] at q
        rw [r0]
        exact done _ y (k + 1) hy2 (by omega) q
      · have g2 : Nat.gcd y (x % y) = Nat.gcd (x % y) (y % (x % y)) := by rw [Nat.gcd_comm y, Nat.gcd_rec (x % y) y, Nat.gcd_comm]
        rw [g2] at q
        have hf := ko_half (x := x) (y := y) (by omega) (by omega)
        refine step _ y (x % y) (k + 1) hy2 (by omega) (by omega) (by omega) (ih (x % y) (y % (x % y)) (k + 1 + 1) (by omega) ?_ (by omega) (by omega) q)
        have : 2 ^ (m + 1) = 2 * 2 ^ m := Nat.pow_succ'
        omega
theorem s6_tellParts {σ : kx_St} {a b : Nat} {Q : kx_St → Prop} (ha : a < 2 ^ 62) (hb : b < 2 ^ 62) (b0 : 0 < b) (q : Q (kx_sL (kx_sL σ 11 (nL (a / Nat.gcd a b))) 12 (nL (b / Nat.gcd a b)))) : p6_tellParts σ (nL a) (nL b) Q := by
  have g0 := Nat.gcd_pos_of_pos_right a b0
  have g1 : Nat.gcd a b < 2 ^ 62 := Nat.lt_of_le_of_lt (Nat.gcd_le_right a b0) hb
  refine ⟨_, s6_gcd 62 a b 0 ha hb (by decide) (by decide) ?_⟩
  have n0 : ¬ nL (Nat.gcd a b) = 0 := by rw [nL_0 g1]; omega
  refine kv_f ?_ ⟨n0, n0, ?_⟩
  · rw [lg_cmp_le, Int64.le_iff_toInt_le, nL_toInt g1]
    show ¬ _ ≤ (0 : Int)
    omega
  · rw [nL_div ha g1 g0, nL_div hb g1 g0]
    exact q
theorem s7_tellParts {τ : kx_St} {a b : Nat} {Q : kx_St → Prop} (ha : a < 2 ^ 62) (hb : b < 2 ^ 62) (b0 : 0 < b) (q : Q (kx_sL (kx_sL τ 12 (nL (a / Nat.gcd a b))) 13 (nL (b / Nat.gcd a b)))) : p7_tellParts τ (nL a) (nL b) Q := by
  have g0 := Nat.gcd_pos_of_pos_right a b0
  have g1 : Nat.gcd a b < 2 ^ 62 := Nat.lt_of_le_of_lt (Nat.gcd_le_right a b0) hb
  have n0 : ¬ nL (Nat.gcd a b) = 0 := by rw [nL_0 g1]; omega
  have L : ∀ f x y, x < 2 ^ 62 → y < 2 ^ 62 → y < f → Nat.gcd x y = Nat.gcd a b → p7_tellParts_L6 f τ (nL a) (nL b) (nL x) (nL y) Q := by
    intro f
    induction f with
    | zero => intro x y _ _ h; exact absurd h (Nat.not_lt_zero _)
    | succ f ih =>
      intro x y hx hy hf e
      unfold p7_tellParts_L6
      by_cases y0 : y = 0
      · subst y0
        rw [Nat.gcd_zero_right] at e
        subst e
        refine kv_t ((kl_eq0 (by decide)).mpr rfl) ⟨n0, n0, ?_⟩
        rw [nL_div ha g1 g0, nL_div hb g1 g0]
        exact q
      · refine kv_f (by rw [kl_eq0 hy]; exact y0) ⟨by rw [nL_0 hy]; exact y0, ?_⟩
        rw [nL_rem hx hy (by omega)]
        have l1 := Nat.mod_lt x (show 0 < y by omega)
        refine ih y (x % y) hy (by omega) (by omega) ?_
        rw [← e, Nat.gcd_comm x y, Nat.gcd_rec y x, Nat.gcd_comm]
  exact ⟨b + 1, L _ a b ha hb (by omega) rfl⟩
theorem ko_low {a b c d : Nat} (hb : 0 < b) (hd : 0 < d) (e : a * d = c * b) : a / Nat.gcd a b = c / Nat.gcd c d ∧ b / Nat.gcd a b = d / Nat.gcd c d := by
  have g1 : Nat.gcd a b * d = Nat.gcd (c * b) (d * b) := by rw [← Nat.gcd_mul_right, e, Nat.mul_comm b d]
  have g2 : Nat.gcd c d * b = Nat.gcd (c * b) (d * b) := (Nat.gcd_mul_right c b d).symm
  constructor
  · rw [← Nat.mul_div_mul_right a (Nat.gcd a b) hd, ← Nat.mul_div_mul_right c (Nat.gcd c d) hb, g1, g2, e]
  · rw [← Nat.mul_div_mul_right b (Nat.gcd a b) hd, ← Nat.mul_div_mul_right d (Nat.gcd c d) hb, g1, g2, Nat.mul_comm b d]
theorem kr_parts {σ τ : kx_St} (h : kr_R σ τ) (x y : Int64) : kr_R (kx_sL (kx_sL σ 11 x) 12 y) (kx_sL (kx_sL τ 12 x) 13 y) := ⟨h.1, h.2.1, h.2.2.1, ⟨h.2.2.2.1.1, rfl, rfl⟩, h.2.2.2.2.1, h.2.2.2.2.2⟩
