/-! sums over all calms -/
def ko_r (F : Nat) : Nat → Nat
  | 0 => 0
  | i + 1 => ko_r F i + (if F.testBit i = true then 0 else 1)
def ko_s (A B : Nat → Nat) (F c : Nat) : Nat → Nat
  | 0 => 0
  | i + 1 => ko_s A B F c i + (if F.testBit i = true then 0 else if c.testBit (ko_r F i) = true then B i else A i)
def ko_w (p c : Nat) : Nat → Nat
  | 0 => 1
  | h + 1 => ko_w p c h * (if c.testBit h = true then p else 12 - p)
def ko_S (f : Nat → Nat) : Nat → Nat
  | 0 => 0
  | m + 1 => ko_S f m + f m
theorem ko_r_le (F : Nat) : ∀ i, ko_r F i ≤ i
  | 0 => Nat.le_refl _
  | i + 1 => by
    have := ko_r_le F i
    rw [ko_r]
    split <;> omega
theorem ko_S_add (f : Nat → Nat) (a : Nat) : ∀ b, ko_S f (a + b) = ko_S f a + ko_S (fun c => f (a + c)) b
  | 0 => rfl
  | b + 1 => by
    rw [show a + (b + 1) = a + b + 1 from rfl, ko_S, ko_S_add f a b, ko_S, Nat.add_assoc]
theorem ko_S_cg {f g : Nat → Nat} : ∀ m, (∀ c, c < m → f c = g c) → ko_S f m = ko_S g m
  | 0, _ => rfl
  | m + 1, h => by rw [ko_S, ko_S, ko_S_cg m (fun c hc => h c (by omega)), h m (by omega)]
theorem ko_S_mul (f : Nat → Nat) (k : Nat) : ∀ m, ko_S (fun c => f c * k) m = ko_S f m * k
  | 0 => (Nat.zero_mul k).symm
  | m + 1 => by rw [ko_S, ko_S, ko_S_mul f k m, Nat.add_mul]
theorem ko_S_sum (f g : Nat → Nat) : ∀ m, ko_S (fun c => f c + g c) m = ko_S f m + ko_S g m
  | 0 => rfl
  | m + 1 => by rw [ko_S, ko_S, ko_S, ko_S_sum f g m]; omega
theorem ko_S_le {f : Nat → Nat} {M : Nat} : ∀ m, (∀ c, c < m → f c ≤ M) → ko_S f m ≤ m * M
  | 0, _ => Nat.zero_le _
  | m + 1, h => by
    have := ko_S_le m (fun c hc => h c (by omega))
    have := h m (by omega)
    rw [ko_S, Nat.add_mul, Nat.one_mul]
    omega
theorem ko_bt {h c : Nat} (hc : c < 2 ^ h) : c.testBit h = false ∧ (2 ^ h + c).testBit h = true := by
  refine ⟨Nat.testBit_lt_two_pow hc, ?_⟩
  rw [Nat.testBit_two_pow_add_eq, Nat.testBit_lt_two_pow hc]; rfl
theorem ko_w_hi (p : Nat) {h c : Nat} : ∀ k, k ≤ h → ko_w p (2 ^ h + c) k = ko_w p c k
  | 0, _ => rfl
  | k + 1, hk => by rw [ko_w, ko_w, ko_w_hi p k (by omega), Nat.testBit_two_pow_add_gt (show k < h by omega)]
theorem ko_w1 {p h c : Nat} (hc : c < 2 ^ h) : ko_w p c (h + 1) = ko_w p c h * (12 - p) ∧ ko_w p (2 ^ h + c) (h + 1) = ko_w p c h * p := by
  constructor
  · rw [ko_w, (ko_bt hc).1, if_neg (by decide)]
  · rw [ko_w, (ko_bt hc).2, if_pos rfl, ko_w_hi p h (Nat.le_refl _)]
theorem ko_12 {p : Nat} (hp : p ≤ 12) : ∀ h, ko_S (fun c => ko_w p c h) (2 ^ h) = 12 ^ h
  | 0 => rfl
  | h + 1 => by
    rw [Nat.pow_succ 2 h, Nat.mul_two, ko_S_add, ko_S_cg (2 ^ h) (g := fun c => ko_w p c h * (12 - p)) (fun c hc => (ko_w1 hc).1), ko_S_cg (f := fun c => ko_w p (2 ^ h + c) (h + 1)) (2 ^ h) (g := fun c => ko_w p c h * p) (fun c hc => (ko_w1 hc).2), ko_S_mul, ko_S_mul, ko_12 hp h, ← Nat.mul_add, Nat.pow_succ, show 12 - p + p = 12 by omega]
theorem ko_s_hi (A B : Nat → Nat) (F : Nat) {h c : Nat} : ∀ i, ko_r F i ≤ h → ko_s A B F (2 ^ h + c) i = ko_s A B F c i
  | 0, _ => rfl
  | i + 1, hi => by
    rw [ko_r] at hi
    rw [ko_s, ko_s, ko_s_hi A B F i (by omega)]
    by_cases f : F.testBit i = true
    · rw [if_pos f, if_pos f]
    · rw [if_neg f] at hi
      rw [if_neg f, if_neg f, Nat.testBit_two_pow_add_gt (show ko_r F i < h by omega)]
theorem ko_alg {E T q p a b x y : Nat} (hq : q + p = 12) (ih : 12 * E = T * (q * x + p * y)) : 12 * ((E * q + T * (q * a)) + (E * p + T * (p * b))) = T * 12 * (q * (x + a) + p * (y + b)) := by
  have e : E * q + E * p = E * 12 := by rw [← Nat.mul_add, hq]
  rw [Nat.mul_add] at ih
  rw [Nat.mul_comm T 12, Nat.mul_assoc, Nat.mul_add q, Nat.mul_add p, Nat.mul_add T, Nat.mul_add T, Nat.mul_add T]
  omega
/-- the mean -/
theorem ko_mean (A B : Nat → Nat) (F : Nat) {p : Nat} (hp : p ≤ 12) : ∀ i, i ≤ 6 → 12 * ko_S (fun c => ko_w p c (ko_r F i) * ko_s A B F c i) (2 ^ ko_r F i) = 12 ^ ko_r F i * ((12 - p) * ko_s A B F 0 i + p * ko_s A B F 63 i)
  | 0, _ => by simp [ko_r, ko_s, ko_w, ko_S]
  | i + 1, hi => by
    have ih := ko_mean A B F hp i (by omega)
    by_cases f : F.testBit i = true
    · have e1 : ko_r F (i + 1) = ko_r F i := by rw [ko_r, if_pos f]; rfl
      have e2 : ∀ c, ko_s A B F c (i + 1) = ko_s A B F c i := fun c => by rw [ko_s, if_pos f]; rfl
      simp only [e1, e2]
      exact ih
    · have rl := ko_r_le F i
      obtain ⟨h, hh⟩ : ∃ h, h = ko_r F i := ⟨_, rfl⟩
      have e1 : ko_r F (i + 1) = h + 1 := by rw [ko_r, if_neg f, hh]
      have e2 : ∀ c, ko_s A B F c (i + 1) = ko_s A B F c i + (if c.testBit h = true then B i else A i) := fun c => by rw [ko_s, if_neg f, hh]
      rw [← hh] at ih
      have z0 : ko_s A B F 0 (i + 1) = ko_s A B F 0 i + A i := by rw [e2, Nat.zero_testBit, if_neg (by decide)]
      have z63 : ko_s A B F 63 (i + 1) = ko_s A B F 63 i + B i := by
        rw [e2, show (63 : Nat) = 2 ^ 6 - 1 from rfl, Nat.testBit_two_pow_sub_one, decide_eq_true (show h < 6 by omega), if_pos rfl]
      have lo : ∀ c, c < 2 ^ h → ko_w p c (h + 1) * ko_s A B F c (i + 1) = ko_w p c h * ko_s A B F c i * (12 - p) + ko_w p c h * ((12 - p) * A i) := fun c hc => by
        rw [(ko_w1 hc).1, e2, (ko_bt hc).1, if_neg (by decide), Nat.mul_add, Nat.mul_right_comm, Nat.mul_assoc (ko_w p c h) (12 - p) (A i)]
      have up : ∀ c, c < 2 ^ h → ko_w p (2 ^ h + c) (h + 1) * ko_s A B F (2 ^ h + c) (i + 1) = ko_w p c h * ko_s A B F c i * p + ko_w p c h * (p * B i) := fun c hc => by
        rw [(ko_w1 hc).2, e2, (ko_bt hc).2, if_pos rfl, ko_s_hi A B F i (by omega), Nat.mul_add, Nat.mul_right_comm, Nat.mul_assoc (ko_w p c h) p (B i)]
      rw [z0, z63, e1, Nat.pow_succ 2 h, Nat.mul_two, ko_S_add, ko_S_cg (2 ^ h) lo, ko_S_cg (f := fun c => ko_w p (2 ^ h + c) (h + 1) * ko_s A B F (2 ^ h + c) (i + 1)) (2 ^ h) up, ko_S_sum, ko_S_sum, ko_S_mul, ko_S_mul, ko_S_mul, ko_S_mul, ko_12 hp, Nat.pow_succ]
      exact ko_alg (by omega) ih
