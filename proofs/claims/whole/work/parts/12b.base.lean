/-! arguments, ranges, the small predicates of both sides -/
theorem kv_arg (x : Int32) (N : Nat) : (∃ k, k < N ∧ x = nI k) ∨ (x.toInt < 0 ∨ (N : Int) ≤ x.toInt) := by
  by_cases h : x < 0
  · exact Or.inr (Or.inl (by simpa using Int32.lt_iff_toInt_lt.mp h))
  · obtain ⟨j, hj, rfl⟩ := nI_of h
    rw [nI_toInt hj]
    by_cases hk : j < N
    · exact Or.inl ⟨j, hk, rfl⟩
    · exact Or.inr (Or.inr (by omega))
theorem kv_arg1 (x : Int32) (N : Nat) : (∃ k, k < N ∧ x = nI (k + 1)) ∨ (x.toInt < 1 ∨ (N : Int) < x.toInt) := by
  rcases kv_arg x (N + 1) with ⟨k, hk, rfl⟩ | h
  · rcases Nat.eq_zero_or_pos k with rfl | hp
    · exact Or.inr (Or.inl (by decide))
    · exact Or.inl ⟨k - 1, by omega, by rw [Nat.sub_add_cancel hp]⟩
  · exact Or.inr (by omega)
theorem kv_lt {x y : Int32} : x < y ↔ x.toInt < y.toInt := Int32.lt_iff_toInt_lt
theorem kv_le {x y : Int32} : x ≤ y ↔ x.toInt ≤ y.toInt := Int32.le_iff_toInt_le
theorem kv_eq {x y : Int32} : x = y ↔ x.toInt = y.toInt := Int32.toInt_inj.symm
theorem kv_n {n : Nat} (h : n < 2147483648) : (nI n).toInt = (n : Int) := nI_toInt h
theorem kv_l (x : Int32) : x.toInt64.toInt = x.toInt := by simp
theorem kv_c {n : Nat} (h : n < 2147483648) : (nI n).toNatClampNeg = n := nI_clamp h
theorem kv_in {k N : Nat} (h : k < N) (hN : N < 100000) : vp_in (nI k) N := vp_in_nI h (by omega)
theorem kv_o (n : Nat) : Int32.ofNat n = nI n := rfl
theorem kv_add (a b : Nat) : nI a + nI b = nI (a + b) := nI_add a b
theorem kv_mul (a b : Nat) : nI a * nI b = nI (a * b) := pk_mul a b
theorem kv_sub {a b : Nat} (h : b ≤ a) : nI a - nI b = nI (a - b) := pk_sub h
theorem kv_div {a d : Nat} (ha : a < 2147483648) (h0 : 0 < d) (hd : d < 2147483648) : nI a / nI d = nI (a / d) := pk_div ha h0 hd
theorem kv_rem {a d : Nat} (ha : a < 2147483648) (h0 : 0 < d) (hd : d < 2147483648) : nI a - nI a / nI d * nI d = nI (a % d) := pk_rem ha h0 hd
theorem kv_inj {a b : Nat} (ha : a < 2147483648) (hb : b < 2147483648) : nI a = nI b ↔ a = b := nI_eq ha hb
theorem kv_ltN {a b : Nat} (ha : a < 2147483648) (hb : b < 2147483648) : nI a < nI b ↔ a < b := nI_ltI ha hb
theorem kv_leN {a b : Nat} (ha : a < 2147483648) (hb : b < 2147483648) : nI a ≤ nI b ↔ a ≤ b := nI_leI ha hb
theorem kv_i (z : Int32) (n : Nat) (h : z = nI n) : z = nI n := h
/-- branches by what omega says -/
theorem kv_t {c A B : Prop} (h : c) (a : A) : (c → A) ∧ (¬ c → B) := br_t h a
theorem kv_f {c A B : Prop} (h : ¬ c) (b : B) : (c → A) ∧ (¬ c → B) := br_f h b
theorem kv_T {c A B : Prop} (h : c) (a : A) : (¬ c → B) ∧ (c → A) := ⟨fun q => absurd h q, fun _ => a⟩
theorem kv_F {c A B : Prop} (h : ¬ c) (b : B) : (¬ c → B) ∧ (c → A) := ⟨fun _ => b, fun q => absurd q h⟩
theorem s7_in {x lo hi : Int64} {Q : Int32 → Prop} (h1 : lo.toInt ≤ x.toInt ∧ x.toInt ≤ hi.toInt → Q 1) (h0 : ¬ (lo.toInt ≤ x.toInt ∧ x.toInt ≤ hi.toInt) → Q 0) : p7_in x lo hi Q := by
  unfold p7_in
  simp only [lg_cmp_lt, lg_cmp_gt, Int64.lt_iff_toInt_lt]
  refine ⟨fun c => h0 (by omega), fun c => ⟨fun c2 => h0 (by omega), fun c2 => h1 (by omega)⟩⟩
theorem s7_isRow_in {k : Nat} {Q : Int32 → Prop} (h : k < 6) (q : Q 1) : p7_isRow (nI k) Q := by
  unfold p7_isRow
  refine s7_in (fun _ => ⟨Or.inr rfl, q⟩) (fun c => absurd ?_ c)
  rw [kv_l, kv_n (by omega)]
  show (0 : Int) ≤ _ ∧ _ ≤ (5 : Int)
  omega
theorem s7_isRow_out {x : Int32} {Q : Int32 → Prop} (h : x.toInt < 0 ∨ (6 : Int) ≤ x.toInt) (q : Q 0) : p7_isRow x Q := by
  unfold p7_isRow
  refine s7_in (fun c => ?_) (fun _ => ⟨Or.inl rfl, q⟩)
  rw [kv_l] at c
  have c : (0 : Int) ≤ x.toInt ∧ x.toInt ≤ (5 : Int) := c
  omega
theorem s7_isText_in {k : Nat} {Q : Int32 → Prop} (h : k < 4) (q : Q 1) : p7_isText (nI k) Q := by
  unfold p7_isText
  refine s7_in (fun _ => ⟨Or.inr rfl, q⟩) (fun c => absurd ?_ c)
  rw [kv_l, kv_n (by omega)]
  show (0 : Int) ≤ _ ∧ _ ≤ (3 : Int)
  omega
theorem s7_isText_out {x : Int32} {Q : Int32 → Prop} (h : x.toInt < 0 ∨ (4 : Int) ≤ x.toInt) (q : Q 0) : p7_isText x Q := by
  unfold p7_isText
  refine s7_in (fun c => ?_) (fun _ => ⟨Or.inl rfl, q⟩)
  rw [kv_l] at c
  have c : (0 : Int) ≤ x.toInt ∧ x.toInt ≤ (3 : Int) := c
  omega
theorem ky_rowk : ∀ k, k < 10 → kx_k 0 (60 + k) = 5 ∧ kx_r 0 (60 + k) 0 = 70 + k ∧ kx_l 0 (70 + k) = (if k < 6 then 40 else 60) := by decide +kernel
theorem s6_pick1_in {σ : kx_St} {k : Nat} {Q : Option Nat → Prop} (h : k < 6) (q : Q (some (60 + k))) : p6_pick σ 1 (nI k) Q := by
  unfold p6_pick
  refine ⟨rfl, kv_f (by rw [kv_lt, kv_n (by omega)]; show ¬ _ < (0 : Int); omega) (kv_f ?_ ⟨kv_in h (by decide), ?_⟩)⟩
  · show ¬ nI 6 ≤ nI k
    rw [kv_leN (by decide) (by omega)]
    omega
  · rw [kv_c (by omega)]
    exact q
theorem s6_pick1_out {σ : kx_St} {x : Int32} {Q : Option Nat → Prop} (h : x.toInt < 0 ∨ (6 : Int) ≤ x.toInt) (q : Q none) : p6_pick σ 1 x Q := by
  unfold p6_pick
  refine ⟨rfl, fun _ => q, fun c => kv_t ?_ q⟩
  show nI 6 ≤ x
  rw [kv_le, kv_n (by decide)]
  have c : ¬ x.toInt < 0 := fun r => c (kv_lt.mpr r)
  omega
theorem s6_pick2_in {σ : kx_St} {k : Nat} {Q : Option Nat → Prop} (h : k < 4) (q : Q (some (66 + k))) : p6_pick σ 2 (nI k) Q := by
  unfold p6_pick
  refine ⟨rfl, kv_f (by rw [kv_lt, kv_n (by omega)]; show ¬ _ < (0 : Int); omega) (kv_f ?_ ⟨kv_in h (by decide), ?_⟩)⟩
  · show ¬ nI 4 ≤ nI k
    rw [kv_leN (by decide) (by omega)]
    omega
  · rw [kv_c (by omega)]
    exact q
theorem s6_pick2_out {σ : kx_St} {x : Int32} {Q : Option Nat → Prop} (h : x.toInt < 0 ∨ (4 : Int) ≤ x.toInt) (q : Q none) : p6_pick σ 2 x Q := by
  unfold p6_pick
  refine ⟨rfl, fun _ => q, fun c => kv_t ?_ q⟩
  show nI 4 ≤ x
  rw [kv_le, kv_n (by decide)]
  have c : ¬ x.toInt < 0 := fun r => c (kv_lt.mpr r)
  omega
/-- a nullable answer -/
theorem kv_none {A : Prop} {B : Nat → Prop} (a : A) : ((none : Option Nat) = none → A) ∧ (∀ b, (none : Option Nat) = some b → B b) := ⟨fun _ => a, fun _ h => (by cases h)⟩
theorem kv_some {A : Prop} {B : Nat → Prop} {a : Nat} (b : B a) : ((some a : Option Nat) = none → A) ∧ (∀ b, (some a : Option Nat) = some b → B b) := ⟨fun h => (by cases h), fun _ h => (by cases h; exact b)⟩
theorem kv_u (σ : kx_St) (a k : Nat) (v : Int32) (b j : Nat) : (kx_sI σ a k v).1 b j = if b = a ∧ j = k then v else σ.1 b j := rfl
theorem kv_u2 (σ : kx_St) (a k : Nat) (v : Int32) : (kx_sI σ a k v).2 = σ.2 := rfl
theorem kv_us (σ : kx_St) (a k : Nat) (v : Int32) : (kx_sI σ a k v).1 a k = v := by simp [kx_sI]
theorem kv_un {σ : kx_St} {a k : Nat} {v : Int32} {b j : Nat} (h : ¬ (b = a ∧ j = k)) : (kx_sI σ a k v).1 b j = σ.1 b j := if_neg h
theorem kv_ua {σ : kx_St} {a k : Nat} {v : Int32} {b : Nat} (h : b ≠ a) : (kx_sI σ a k v).1 b = σ.1 b := by
  funext j
  exact kv_un (fun q => h q.1)
