/-! remainders of longs, for the lots -/
theorem kl_tdiv {a c : Int} (ha : 0 ≤ a) : a.tdiv c = a / c := Int.tdiv_eq_ediv_of_nonneg ha
theorem kl_div {x c : Int64} (hx : 0 ≤ x.toInt) (hc : 0 < c.toInt) : (x / c).toInt = x.toInt / c.toInt := by
  have h2 := Int64.toInt_lt x
  have d0 : 0 ≤ x.toInt / c.toInt := Int.ediv_nonneg hx (by omega)
  have d1 : x.toInt / c.toInt ≤ x.toInt := Int.ediv_le_self _ hx
  rw [Int64.toInt_div, kl_tdiv hx]
  apply Int.bmod_eq_of_le <;> omega
theorem kl_rem {x c : Int64} (hx : 0 ≤ x.toInt) (hc : 0 < c.toInt) : (x - x / c * c).toInt = x.toInt % c.toInt := by
  have h2 := Int64.toInt_lt x
  have d0 : 0 ≤ x.toInt / c.toInt := Int.ediv_nonneg hx (by omega)
  have e : x.toInt / c.toInt * c.toInt = x.toInt - x.toInt % c.toInt := by
    have := Int.emod_add_ediv_mul x.toInt c.toInt
    omega
  have m0 := Int.emod_nonneg x.toInt (show c.toInt ≠ 0 by omega)
  have m1 : 0 ≤ x.toInt / c.toInt * c.toInt := Int.mul_nonneg d0 (by omega)
  have em : (x / c * c).toInt = x.toInt / c.toInt * c.toInt := by
    rw [Int64.toInt_mul, kl_div hx hc]
    apply Int.bmod_eq_of_le <;> omega
  rw [Int64.toInt_sub, em, e]
  rw [show x.toInt - (x.toInt - x.toInt % c.toInt) = x.toInt % c.toInt by omega]
  have m2 : x.toInt % c.toInt ≤ x.toInt := by omega
  apply Int.bmod_eq_of_le <;> omega
theorem kl_lot {x : Int64} (h0 : 0 ≤ x.toInt) (h1 : x.toInt < 2147483648) : 0 ≤ ((x * 48271) - (x * 48271) / 2147483647 * 2147483647).toInt ∧ ((x * 48271) - (x * 48271) / 2147483647 * 2147483647).toInt < 2147483648 := by
  have e : (x * 48271).toInt = x.toInt * 48271 := by
    rw [Int64.toInt_mul, show (48271 : Int64).toInt = 48271 from rfl]
    apply Int.bmod_eq_of_le <;> omega
  have c : (2147483647 : Int64).toInt = 2147483647 := rfl
  rw [kl_rem (by omega) (by rw [c]; decide), e, c]
  omega
theorem kl_pick {y : Int64} {n : Nat} (h0 : 0 ≤ y.toInt) (hn : 0 < n) (hn6 : n ≤ 6) : ∃ i, i < n ∧ ((y / 8) - (y / 8) / (nI n).toInt64 * (nI n).toInt64).toInt32 = nI i := by
  have c8 : (8 : Int64).toInt = 8 := rfl
  have cn : (nI n).toInt64.toInt = (n : Int) := by rw [kv_l, kv_n (by omega)]
  have e8 : (y / 8).toInt = y.toInt / 8 := by rw [kl_div h0 (by rw [c8]; decide), c8]
  have er : ((y / 8) - (y / 8) / (nI n).toInt64 * (nI n).toInt64).toInt = y.toInt / 8 % (n : Int) := by
    rw [kl_rem (by omega) (by omega), cn, e8]
  have m0 := Int.emod_nonneg (y.toInt / 8) (show (n : Int) ≠ 0 by omega)
  have m1 := Int.emod_lt_of_pos (y.toInt / 8) (show (0 : Int) < (n : Int) by omega)
  refine ⟨(y.toInt / 8 % (n : Int)).toNat, by omega, ?_⟩
  rw [kv_eq, kv_n (by omega)]
  rw [show ∀ z : Int64, z.toInt32.toInt = z.toInt.bmod 4294967296 from fun z => by simp, er, Int.toNat_of_nonneg m0]
  apply Int.bmod_eq_of_le <;> omega
