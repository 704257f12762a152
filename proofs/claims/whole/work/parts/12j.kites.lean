/-! the KITES of the PARISH that is: both sides on the numbers -/
section
variable {σ τ : kx_St} {n : Nat} {kd wd hv w : Nat → Nat} {wt dc : Nat} {H : Nat → Nat → Nat}
theorem ky_par : ∀ j, j < 5 → kx_k 0 (4 + j) = 3 ∧ kx_r 0 (4 + j) 0 = 10 + j ∧ kx_r 0 (4 + j) 1 = 15 + j ∧ kx_r 0 (4 + j) 2 = 20 + j ∧ kx_l 0 (10 + j) = 4 ∧ kx_l 0 (15 + j) = 6 ∧ kx_l 0 (20 + j) = 40 := by decide +kernel
theorem ky_kit : ∀ j, j < 5 → ∀ i, i < 6 → kx_k 0 (30 + 6 * j + i) = 1 ∧ kx_r 0 (15 + j) i = 30 + 6 * j + i := by decide +kernel
theorem kv_ge {i : Nat} (h : i < 2147483648) : ¬ nI i < 0 := by rw [kv_lt, kv_n h]; show ¬ _ < (0 : Int); omega
theorem s3_kiteAt_in {j i : Nat} {Q : Option Nat → Prop} (hj : j < 5) (hs : σ.1 (4 + j) 3 = nI n) (hn : n ≤ 6) (hi : i < n) (q : Q (some (30 + 6 * j + i))) : p3_kiteAt σ (4 + j) (nI i) Q := by
  obtain ⟨k1, r0, r1, r2, l0, l1, l2⟩ := ky_par j hj
  unfold p3_kiteAt
  rw [hs, r1, l1]
  refine ⟨k1, kv_f (kv_ge (by omega)) (kv_f (by rw [kv_leN (by omega) (by omega)]; omega) (kv_f ?_ ⟨kv_in (by omega) (by decide), ?_⟩))⟩
  · show ¬ nI 6 ≤ nI i
    rw [kv_leN (by omega) (by omega)]; omega
  · rw [kv_c (by omega), (ky_kit j hj i (by omega)).2]; exact q
theorem s3_kiteAt_out {j : Nat} {x : Int32} {Q : Option Nat → Prop} (hj : j < 5) (hs : σ.1 (4 + j) 3 = nI n) (hn : n ≤ 6) (hi : x.toInt < 0 ∨ (n : Int) ≤ x.toInt) (q : Q none) : p3_kiteAt σ (4 + j) x Q := by
  unfold p3_kiteAt
  rw [hs]
  refine ⟨(ky_par j hj).1, fun _ => q, fun c => kv_t ?_ q⟩
  rw [kv_le, kv_n (by omega)]
  have c : ¬ x.toInt < 0 := fun r => c (kv_lt.mpr r)
  omega
theorem kv_x4 : ∀ a, a < 1000 → (0 : Int32) ≤ nI a ^^^ 4 := by decide +kernel
theorem s9_floorMod {a : Nat} {Q : Int32 → Prop} (ha : a < 1000) (h : Q (nI (a % 4))) : pJ9_floorMod_7cf53 (nI a) 4 Q := by
  unfold pJ9_floorMod_7cf53
  refine ⟨by decide, kv_t (kv_x4 a ha) ?_⟩
  rw [show (4 : Int32) = nI 4 from rfl, kv_rem (by omega) (by decide) (by decide)]
  exact h
theorem s3_windIn {j t a : Nat} {x : Int32} {Q : Int32 → Prop} (hj : j < 5) (ht : σ.1 (4 + j) 5 + x = nI a) (ha : a < 1000) (hw : ∀ h, h < 4 → σ.1 (10 + j) h = nI (w h)) (q : Q (nI (w (a % 4)))) : p3_windIn σ (4 + j) x Q := by
  obtain ⟨k1, r0, r1, r2, l0, l1, l2⟩ := ky_par j hj
  unfold p3_windIn
  rw [ht, r0, l0]
  refine ⟨k1, s9_floorMod ha ⟨kv_in (Nat.mod_lt _ (by decide)) (by decide), ?_⟩⟩
  rw [kv_c (by omega), hw _ (Nat.mod_lt _ (by decide))]
  exact q
theorem s7_windAt {a : Nat} {x : Int32} {Q : Int32 → Prop} (hx : x = nI a) (ha : a < 1000) (hw : ∀ h, h < 4 → τ.1 2 h = nI (w h)) (q : Q (nI (w (a % 4)))) : p7_windAt τ x Q := by
  unfold p7_windAt
  rw [hx, show (4 : Int32) = nI 4 from rfl, kv_rem (by omega) (by decide) (by decide)]
  refine ⟨kv_in (Nat.mod_lt _ (by decide)) (by decide), ?_⟩
  rw [kv_c (by omega), hw _ (Nat.mod_lt _ (by decide))]
  exact q
theorem s7_isKite_in {i : Nat} {Q : Int32 → Prop} (hs : τ.1 0 3 = nI n) (hn : n ≤ 6) (hi : i < n) (q : Q 1) : p7_isKite τ (nI i) Q := by
  unfold p7_isKite
  refine s7_in (fun _ => ⟨Or.inr rfl, q⟩) (fun c => absurd ?_ c)
  rw [hs, show (1 : Int32) = nI 1 from rfl, kv_sub (by omega), kv_l, kv_l, kv_n (by omega), kv_n (by omega)]
  show (0 : Int) ≤ _ ∧ _
  omega
theorem s7_isKite_out {x : Int32} {Q : Int32 → Prop} (hs : τ.1 0 3 = nI n) (hn : n ≤ 6) (hi : x.toInt < 0 ∨ (n : Int) ≤ x.toInt) (q : Q 0) : p7_isKite τ x Q := by
  unfold p7_isKite
  refine s7_in (fun c => ?_) (fun _ => ⟨Or.inl rfl, q⟩)
  exfalso
  rw [hs] at c
  have h0 : (nI n - 1).toInt = (n : Int) - 1 := by
    rcases Nat.eq_zero_or_pos n with rfl | hp
    · decide
    · rw [show (1 : Int32) = nI 1 from rfl, kv_sub hp, kv_n (by omega)]; omega
  rw [kv_l, kv_l, h0] at c
  have c : (0 : Int) ≤ x.toInt ∧ x.toInt ≤ (n : Int) - 1 := c
  omega
theorem ku_b1 : ∀ w, w < 10 → ∀ t, t < 4 → ∀ x, x < 10 → nI w * nI x / 2 = nI (w * x / 2) ∧ (nI (w * x / 2) ≤ 2 * nI t → (0 : Int32) = nI (ku_plain w t x)) ∧ (¬ nI (w * x / 2) ≤ 2 * nI t → nI (w * x / 2) - 2 * nI t = nI (ku_plain w t x)) := by decide +kernel
theorem ku_b2 : ∀ w, w < 10 → ∀ x, x < 10 → (nI x ≤ 2 → nI (w * x / 2) = nI (ku_box w x)) ∧ (¬ nI x ≤ 2 → nI (w * x / 2) + 2 = nI (ku_box w x)) := by decide +kernel
theorem ku_b3 : ∀ w, w < 10 → ∀ t, t < 4 → ∀ x, x < 10 → (3 ≤ nI (ku_plain w t x) → nI (ku_plain w t x) / 3 = nI (max 1 (ku_plain w t x / 3))) ∧ (¬ 3 ≤ nI (ku_plain w t x) → (1 : Int32) = nI (max 1 (ku_plain w t x / 3))) := by decide +kernel
theorem s7_liftsBy {k w t x : Nat} {Q : Int32 → Prop} (k5 : k < 6) (w9 : w < 10) (t3 : t < 4) (x9 : x < 10) (h : Q (nI (ku_lift k w t x))) : p7_liftsBy (nI k) (nI w) (nI t) (nI x) Q := by
  obtain ⟨b0, b1, b2⟩ := ku_b1 w w9 t t3 x x9
  obtain ⟨b3, b4⟩ := ku_b2 w w9 x x9
  obtain ⟨b5, b6⟩ := ku_b3 w w9 t t3 x x9
  have e1 := ku_l1 w w9 t t3 x x9
  have e2 := ku_l2 w w9 t t3 x x9
  have e4 : nI (ku_box w x) + nI x = nI (ku_box w x + x) := nI_add _ _
  have e5 := ku_l5 x x9
  have A : p7_liftsBy_J41 (nI k) (nI x) (nI (ku_plain w t x)) (nI (ku_box w x)) Q := by
    unfold p7_liftsBy_J41
    rcases (show k = 0 ∨ k = 1 ∨ k = 2 ∨ k = 3 ∨ k = 4 ∨ k = 5 by omega) with rfl | rfl | rfl | rfl | rfl | rfl
    · exact br_f (by decide) (br_f (by decide) (br_f (by decide) (br_f (by decide) (br_f (by decide) h))))
    · exact br_t (by decide) (by rw [e1]; exact h)
    · refine br_f (by decide) (br_t (by decide) ⟨fun c => ?_, fun c => ?_⟩)
      · have := e5.mp c
        simp only [ku_lift, this, if_true] at h
        rw [e2]
        simpa using h
      · have : ¬ x ≤ 6 := fun q => c (e5.mpr q)
        simp only [ku_lift, this] at h
        exact h
    · exact br_f (by decide) (br_f (by decide) (br_t (by decide) h))
    · refine br_f (by decide) (br_f (by decide) (br_f (by decide) (br_t (by decide) ⟨fun c => ?_, fun c => ?_⟩)))
      · rw [b5 c]; exact h
      · rw [b6 c]; exact h
    · exact br_f (by decide) (br_f (by decide) (br_f (by decide) (br_f (by decide) (br_t (by decide) (by rw [e4]; exact h)))))
  have B : p7_liftsBy_J25 (nI k) (nI x) (nI (w * x / 2)) (nI (ku_plain w t x)) Q := by
    unfold p7_liftsBy_J25
    refine ⟨fun c => ?_, fun c => ?_⟩
    · rw [b3 c]; exact A
    · rw [b4 c]; exact A
  unfold p7_liftsBy
  rw [b0]
  refine ⟨fun c => ?_, fun c => ?_⟩
  · rw [b1 c]; exact B
  · rw [b2 c]; exact B
def ku_M (τ : kx_St) (b i k w hv t : Nat) : Prop := i < 6 ∧ b ≤ 2464 ∧ τ.1 3 i = nI k ∧ τ.1 4 i = nI w ∧ τ.1 5 i = nI hv ∧ τ.1 1 (b + 4 + i) = nI t ∧ k < 6 ∧ w < 10 ∧ hv < 10 ∧ t < 4
theorem s7_liftsIn {b i k w hv t x : Nat} {B : Int32} {Q : Int32 → Prop} (hB : B = nI b) (M : ku_M τ b i k w hv t) (x9 : x < 10) (h : Q (nI (ku_lift k w t x))) : p7_liftsIn τ B (nI i) (nI x) Q := by
  obtain ⟨hi, hb, e0, e1, e2, e3, k5, w9, hv9, t3⟩ := M
  unfold p7_liftsIn
  rw [hB, show (4 : Int32) = nI 4 from rfl, kv_add, kv_add, kv_c (by omega), kv_c (by omega), e0, e1, e3]
  exact ⟨kv_in (by omega) (by decide), kv_in (by omega) (by decide), kv_in (by omega) (by decide), s7_liftsBy k5 w9 t3 x9 h⟩
theorem s7_isLifted {b i k w hv t x : Nat} {B : Int32} {Q : Int32 → Prop} (hB : B = nI b) (M : ku_M τ b i k w hv t) (x9 : x < 10) (h1 : 4 * hv < ku_lift k w t x → Q 1) (h0 : ¬ 4 * hv < ku_lift k w t x → Q 0) : p7_isLifted τ B (nI i) (nI x) Q := by
  have M' := M
  obtain ⟨hi, hb, e0, e1, e2, e3, k5, w9, hv9, t3⟩ := M
  have hle := ku_lift_le k k5 w w9 t t3 x x9
  unfold p7_isLifted
  refine s7_liftsIn hB M' x9 ⟨kv_in hi (by decide), ?_⟩
  rw [kv_c (by omega), e2]
  refine ⟨fun c => h0 ?_, fun c => h1 ?_⟩
  · have := (ku_cmp (by omega) hv9).mp c
    omega
  · exact Nat.lt_of_not_le (fun q => c ((ku_cmp (by omega) hv9).mpr q))
theorem s7_paysIn {b i k w hv t x : Nat} {B : Int32} {Q : Int32 → Prop} (hB : B = nI b) (M : ku_M τ b i k w hv t) (x9 : x < 10) (h : Q (nI (ku_pay k w hv t x))) : p7_paysIn τ B (nI i) (nI x) Q := by
  unfold p7_paysIn
  unfold ku_pay at h
  refine s7_isLifted hB M x9 (fun c => br_f (by decide) ?_) (fun c => br_t (by decide) (s7_liftsIn hB M x9 ?_))
  · rw [if_pos c] at h; exact h
  · rw [if_neg c] at h; exact h
/-! what the relation says of the PARISH that is -/
theorem kn_n6 (N : kr_now σ τ n kd wd hv w wt dc H) : n ≤ 6 := N.1.1
theorem kn_w (N : kr_now σ τ n kd wd hv w wt dc H) : ∀ h, h < 4 → w h < 10 := N.1.2.2.1
theorem kn_wm (N : kr_now σ τ n kd wd hv w wt dc H) (a : Nat) : w (a % 4) < 10 := kn_w N _ (Nat.mod_lt _ (by decide))
theorem kn_cn (N : kr_now σ τ n kd wd hv w wt dc H) : σ.1 (4 + 0) 3 = nI n := N.2.1.1
theorem kn_mn (N : kr_now σ τ n kd wd hv w wt dc H) : τ.1 0 3 = nI n := N.2.2.1.1
theorem kn_cw (N : kr_now σ τ n kd wd hv w wt dc H) : ∀ h, h < 4 → σ.1 (10 + 0) h = nI (w h) := N.2.1.2.2.1
theorem kn_mw (N : kr_now σ τ n kd wd hv w wt dc H) : ∀ h, h < 4 → τ.1 2 h = nI (w h) := N.2.2.1.2.2.1
theorem kn_ch (N : kr_now σ τ n kd wd hv w wt dc H) : σ.1 (4 + 0) 5 = nI (H dc 0) := N.2.2.2.2.1.1
theorem kn_mh (N : kr_now σ τ n kd wd hv w wt dc H) : τ.1 1 1 = nI (H dc 0) := N.2.2.2.2.2.1.2.1 0 (by decide)
theorem kn_md (N : kr_now σ τ n kd wd hv w wt dc H) : τ.1 1 0 = nI dc := N.2.2.2.2.2.1.1
theorem kn_cd (N : kr_now σ τ n kd wd hv w wt dc H) : σ.1 (4 + 0) 6 = nI dc := N.2.2.2.2.1.2.1
theorem kn_dc (N : kr_now σ τ n kd wd hv w wt dc H) : dc ≤ 40 := N.2.2.2.1
theorem kn_mk (N : kr_now σ τ n kd wd hv w wt dc H) {k : Nat} (hk : k < 15) : τ.1 1 (1 + k) = nI (H dc k) := N.2.2.2.2.2.1.2.1 k hk
theorem kn_v (N : kr_now σ τ n kd wd hv w wt dc H) : kp_v n (H dc) := (N.2.2.2.2.2.2.1 dc (Nat.le_refl _)).1
theorem kn_h (N : kr_now σ τ n kd wd hv w wt dc H) : H dc 0 ≤ dc := (N.2.2.2.2.2.2.1 dc (Nat.le_refl _)).2
theorem kn_h40 (N : kr_now σ τ n kd wd hv w wt dc H) : H dc 0 ≤ 40 := Nat.le_trans (kn_h N) (kn_dc N)
theorem kn_K (N : kr_now σ τ n kd wd hv w wt dc H) {i : Nat} (hi : i < n) : ku_K σ (30 + i) (kd i) (wd i) (hv i) (H dc (3 + i)) := by
  obtain ⟨a0, a1, a2⟩ := N.2.1.2.2.2 i hi
  obtain ⟨c0, c1, c2⟩ := N.1.2.2.2 i hi
  have n6 := kn_n6 N
  exact ⟨(ky_kit 0 (by decide) i (by omega)).1, a0, a1, a2, (N.2.2.2.2.1.2.2.2 i hi).1, c0, c1, c2, (kn_v N).2.2.1 i hi⟩
theorem kn_M (N : kr_now σ τ n kd wd hv w wt dc H) {i : Nat} (hi : i < n) : ku_M τ 0 i (kd i) (wd i) (hv i) (H dc (3 + i)) := by
  obtain ⟨a0, a1, a2⟩ := N.2.2.1.2.2.2 i hi
  obtain ⟨c0, c1, c2⟩ := N.1.2.2.2 i hi
  have n6 := kn_n6 N
  refine ⟨by omega, by omega, a0, a1, a2, ?_, c0, c1, c2, (kn_v N).2.2.1 i hi⟩
  have := kn_mk N (k := 3 + i) (by omega)
  rwa [show 1 + (3 + i) = 0 + 4 + i by omega] at this
theorem kn_Mc (N : kr_now σ τ n kd wd hv w wt dc H) {i : Nat} (hi : i < n) : τ.1 1 (4 + i) = nI (H dc (3 + i)) := by
  have := (kn_M N hi).2.2.2.2.2.1
  rwa [show 0 + 4 + i = 4 + i by omega] at this
theorem kn_paid (N : kr_now σ τ n kd wd hv w wt dc H) {i : Nat} (hi : i < n) : σ.1 (30 + i) 4 = (if (H dc 1).testBit i = true then nI (H dc (9 + i)) else -9) := (N.2.2.2.2.1.2.2.2 i hi).2.1
theorem kn_lftd (N : kr_now σ τ n kd wd hv w wt dc H) {i : Nat} (hi : i < n) : σ.1 (30 + i) 5 = (if (H dc 2).testBit i = true then 1 else 0) := (N.2.2.2.2.1.2.2.2 i hi).2.2
theorem kp_f64 {v : Nat → Nat} (V : kp_v n v) (hn : n ≤ 6) : v 1 < 64 ∧ v 2 < 64 := by
  have a : v 1 < 2 ^ 6 := Nat.lt_pow_two_of_testBit _ (fun i hi => by
    rcases h : (v 1).testBit i with _ | _
    · rfl
    · have := V.1 i h; omega)
  have b : v 2 < 2 ^ 6 := Nat.lt_pow_two_of_testBit _ (fun i hi => by
    rcases h : (v 2).testBit i with _ | _
    · rfl
    · have := V.1 i (V.2.1 i h); omega)
  exact ⟨a, b⟩
theorem ku_bit : ∀ s, s < 64 → ∀ i, i < 6 → (((nI s >>> (nI i &&& 31)) &&& 1) = 1 ↔ s.testBit i = true) := by decide +kernel
theorem s7_has {s i : Nat} {x : Int32} {Q : Int32 → Prop} (hx : x = nI s) (hs : s < 64) (hi : i < 6) (h1 : s.testBit i = true → Q 1) (h0 : s.testBit i = false → Q 0) : p7_has x (nI i) Q := by
  unfold p7_has
  rw [hx]
  refine ⟨fun c => h0 ?_, fun c => h1 ((ku_bit s hs i hi).mp c)⟩
  rcases h : s.testBit i with _ | _
  · rfl
  · exact absurd ((ku_bit s hs i hi).mpr h) c
theorem kn_cwind (N : kr_now σ τ n kd wd hv w wt dc H) {a : Nat} {Q : Int32 → Prop} (ha : a < 100) (q : Q (nI (w ((H dc 0 + a) % 4)))) : p3_windIn σ 4 (nI a) Q := by
  have h40 := kn_h40 N
  exact s3_windIn (j := 0) (t := 0) (a := H dc 0 + a) (by decide) (by rw [kn_ch N, kv_add]) (by omega) (kn_cw N) q
theorem kn_mwind (N : kr_now σ τ n kd wd hv w wt dc H) {a : Nat} {x : Int32} {Q : Int32 → Prop} (hx : x = nI (H dc 0 + a)) (ha : a < 100) (q : Q (nI (w ((H dc 0 + a) % 4)))) : p7_windAt τ x Q := by
  have h40 := kn_h40 N
  exact s7_windAt hx (by omega) (kn_mw N) q
theorem s6_isWind_in {x : Nat} {Q : Int32 → Prop} (hx : x < 10) (q : Q 1) : p6_isWind (nI x) Q := by
  unfold p6_isWind
  refine kv_f (kv_ge (by omega)) (kv_f ?_ q)
  show ¬ nI 9 < nI x
  rw [kv_ltN (by omega) (by omega)]; omega
theorem s6_isWind_out {x : Int32} {Q : Int32 → Prop} (hx : x.toInt < 0 ∨ (10 : Int) ≤ x.toInt) (q : Q 0) : p6_isWind x Q := by
  unfold p6_isWind
  refine ⟨fun _ => q, fun c => kv_t ?_ q⟩
  have c : ¬ x.toInt < 0 := fun r => c (kv_lt.mpr r)
  rw [kv_lt]
  show (9 : Int) < _
  omega
theorem s7_rng_in {k N : Nat} {Q : Int32 → Prop} {hi : Int64} (hN : hi.toInt = (N : Int)) (hk : k < N + 1) (hb : N < 100000) (q : Q 1) : p7_in (nI k).toInt64 0 hi Q := by
  refine s7_in (fun _ => q) (fun c => absurd ?_ c)
  rw [kv_l, kv_n (by omega), hN]
  show (0 : Int) ≤ _ ∧ _
  omega
theorem s7_rng_out {x : Int32} {N : Nat} {Q : Int32 → Prop} {hi : Int64} (hN : hi.toInt = (N : Int)) (hx : x.toInt < 0 ∨ ((N + 1 : Nat) : Int) ≤ x.toInt) (q : Q 0) : p7_in x.toInt64 0 hi Q := by
  refine s7_in (fun c => ?_) (fun _ => q)
  exfalso
  rw [kv_l, hN] at c
  have c : (0 : Int) ≤ x.toInt ∧ x.toInt ≤ (N : Int) := c
  omega
theorem s3_kite_in (N : kr_now σ τ n kd wd hv w wt dc H) {i : Nat} {Q : Option Nat → Prop} (hi : i < n) (q : Q (some (30 + i))) : p3_kiteAt σ 4 (nI i) Q := s3_kiteAt_in (j := 0) (by decide) (kn_cn N) (kn_n6 N) hi q
theorem s3_kite_out (N : kr_now σ τ n kd wd hv w wt dc H) {x : Int32} {Q : Option Nat → Prop} (hi : x.toInt < 0 ∨ (n : Int) ≤ x.toInt) (q : Q none) : p3_kiteAt σ 4 x Q := s3_kiteAt_out (j := 0) (by decide) (kn_cn N) (kn_n6 N) hi q
theorem s7_kite_in (N : kr_now σ τ n kd wd hv w wt dc H) {i : Nat} {Q : Int32 → Prop} (hi : i < n) (q : Q 1) : p7_isKite τ (nI i) Q := s7_isKite_in (kn_mn N) (kn_n6 N) hi q
theorem s7_kite_out (N : kr_now σ τ n kd wd hv w wt dc H) {x : Int32} {Q : Int32 → Prop} (hi : x.toInt < 0 ∨ (n : Int) ≤ x.toInt) (q : Q 0) : p7_isKite τ x Q := s7_isKite_out (kn_mn N) (kn_n6 N) hi q
theorem th_lifts (σ τ : kx_St) (h : kr_R σ τ) : lt_lifts kr_R σ τ := by
  obtain ⟨n, kd, wd, hv, w, wt, dc, H, N, K⟩ := h.2.2.2.2.1
  intro a0 a1
  unfold p6_lifts p7_lifts
  rcases kv_arg a0 n with ⟨i, hi, rfl⟩ | ho
  · have KK := kn_K N hi
    rcases kv_arg a1 10 with ⟨x, hx, rfl⟩ | hx
    · exact ⟨_, s3_kite_in N hi (kv_some ⟨KK.1, s6_isWind_in hx (kv_F (by decide) (s1_liftIn KK hx ⟨rfl, s7_kite_in N hi (kv_f (by decide) (s7_rng_in (N := 9) rfl hx (by decide) (kv_f (by decide) (s7_liftsIn rfl (kn_M N hi) hx ⟨rfl, h⟩))))⟩))⟩)⟩
    · exact ⟨_, s3_kite_in N hi (kv_some ⟨KK.1, s6_isWind_out hx (kv_T rfl ⟨rfl, s7_kite_in N hi (kv_f (by decide) (s7_rng_out (N := 9) rfl hx (kv_t rfl ⟨rfl, h⟩)))⟩)⟩)⟩
  · exact ⟨_, s3_kite_out N ho (kv_none ⟨rfl, s7_kite_out N ho (kv_t rfl ⟨rfl, h⟩)⟩)⟩
end
