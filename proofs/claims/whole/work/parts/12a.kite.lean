/-! what a KITE LIFTS and PAYS, on numbers; the class's and the reference's predicates on it -/
theorem ku_max {x y : Int32} {Q : Int32 → Prop} (h : Q (if x < y then y else x)) : pJ9_max_7cf53 x y Q := by
  unfold pJ9_max_7cf53
  refine ⟨fun c => ?_, fun c => ?_⟩
  · rwa [if_pos c] at h
  · rwa [if_neg c] at h
theorem ku_min {x y : Int32} {Q : Int32 → Prop} (h : Q (if y < x then y else x)) : pJ9_min_7cf53 x y Q := by
  unfold pJ9_min_7cf53
  refine ⟨fun c => ?_, fun c => ?_⟩
  · rwa [if_pos c] at h
  · rwa [if_neg c] at h
def ku_plain (w t x : Nat) : Nat := w * x / 2 - 2 * t
def ku_box (w x : Nat) : Nat := w * x / 2 + (if x < 3 then 0 else 2)
def ku_lift (k w t x : Nat) : Nat := if k = 1 then ku_plain w t x / 3 else if k = 2 then (if x ≤ 6 then ku_plain w t x / 2 else 0) else if k = 3 then ku_box w x else if k = 4 then max 1 (ku_plain w t x / 3) else if k = 5 then ku_box w x + x else ku_plain w t x
def ku_up (k w h t x : Nat) : Prop := 4 * h < ku_lift k w t x
def ku_pay (k w h t x : Nat) : Nat := if 4 * h < ku_lift k w t x then 0 else ku_lift k w t x
theorem ku_plain_le : ∀ w, w < 10 → ∀ t, t < 4 → ∀ x, x < 10 → ku_plain w t x ≤ 40 := by decide +kernel
theorem ku_lift_le : ∀ k, k < 6 → ∀ w, w < 10 → ∀ t, t < 4 → ∀ x, x < 10 → ku_lift k w t x ≤ 51 := by decide +kernel
theorem ku_pay_le {k w h t x : Nat} (hk : k < 6) (hw : w < 10) (ht : t < 4) (hx : x < 10) : ku_pay k w h t x ≤ 51 := by
  have := ku_lift_le k hk w hw t ht x hx
  unfold ku_pay
  split <;> omega
theorem ku_pl : ∀ w, w < 10 → ∀ t, t < 4 → ∀ x, x < 10 → (nI w * nI x / 2 ≤ 2 * nI t → (0 : Int32) = nI (ku_plain w t x)) ∧ (¬ nI w * nI x / 2 ≤ 2 * nI t → nI w * nI x / 2 - 2 * nI t = nI (ku_plain w t x)) := by decide +kernel
theorem ku_bx : ∀ w, w < 10 → ∀ x, x < 10 → (nI x < 3 → nI w * nI x / 2 = nI (ku_box w x)) ∧ (¬ nI x < 3 → nI w * nI x / 2 + 2 = nI (ku_box w x)) := by decide +kernel
theorem ku_l1 : ∀ w, w < 10 → ∀ t, t < 4 → ∀ x, x < 10 → nI (ku_plain w t x) / 3 = nI (ku_plain w t x / 3) := by decide +kernel
theorem ku_l2 : ∀ w, w < 10 → ∀ t, t < 4 → ∀ x, x < 10 → nI (ku_plain w t x) / 2 = nI (ku_plain w t x / 2) := by decide +kernel
theorem ku_l3 : ∀ w, w < 10 → ∀ t, t < 4 → ∀ x, x < 10 → ((3 : Int32) ≤ nI (ku_plain w t x) → nI (ku_plain w t x) / 3 = nI (max 1 (ku_plain w t x / 3))) ∧ (¬ (3 : Int32) ≤ nI (ku_plain w t x) → (1 : Int32) = nI (max 1 (ku_plain w t x / 3))) := by decide +kernel
theorem ku_l5 : ∀ x, x < 10 → (nI x ≤ 6 ↔ x ≤ 6) := by decide +kernel
theorem s1_lift44 {σ : kx_St} {k w t x : Nat} {Q : Int32 → Prop} (k5 : k < 6) (w9 : w < 10) (t3 : t < 4) (x9 : x < 10) (h : Q (nI (ku_lift k w t x))) : p1_liftAs_J44 σ (nI k) (nI x) (nI (ku_plain w t x)) (nI (ku_box w x)) Q := by
  unfold p1_liftAs_J44
  have e1 := ku_l1 w w9 t t3 x x9
  have e2 := ku_l2 w w9 t t3 x x9
  obtain ⟨e3, e30⟩ := ku_l3 w w9 t t3 x x9
  have e4 : nI (ku_box w x) + nI x = nI (ku_box w x + x) := nI_add _ _
  have e5 := ku_l5 x x9
  rcases (show k = 0 ∨ k = 1 ∨ k = 2 ∨ k = 3 ∨ k = 4 ∨ k = 5 by omega) with rfl | rfl | rfl | rfl | rfl | rfl
  · exact br_f (by decide) (br_f (by decide) (br_f (by decide) (br_f (by decide) (br_f (by decide) h))))
  · exact br_t (by decide) (by rw [e1]; exact h)
  · refine br_f (by decide) (br_t (by decide) ⟨fun c => ?_, fun c => ?_⟩)
    · have := e5.mp c
      simp only [ku_lift, this, if_true] at h
      rw [e2]
      simpa using h
    · have : ¬ x ≤ 6 := fun q => c (e5.mpr q)
      simp only [ku_lift, this] at h
      exact h
  · exact br_f (by decide) (br_f (by decide) (br_t (by decide) h))
  · exact br_f (by decide) (br_f (by decide) (br_f (by decide) (br_t (by decide) ⟨fun c => by rw [e3 c]; exact h, fun c => by rw [e30 c]; exact h⟩)))
  · exact br_f (by decide) (br_f (by decide) (br_f (by decide) (br_f (by decide) (br_t (by decide) (by rw [e4]; exact h)))))
theorem s1_lift28 {σ : kx_St} {k w t x : Nat} {Q : Int32 → Prop} (k5 : k < 6) (w9 : w < 10) (t3 : t < 4) (x9 : x < 10) (h : Q (nI (ku_lift k w t x))) : p1_liftAs_J28 σ (nI k) (nI x) (nI w * nI x / 2) (nI (ku_plain w t x)) Q := by
  unfold p1_liftAs_J28
  obtain ⟨b1, b2⟩ := ku_bx w w9 x x9
  refine ⟨fun c => ?_, fun c => ?_⟩
  · rw [b1 c]; exact s1_lift44 k5 w9 t3 x9 h
  · rw [b2 c]; exact s1_lift44 k5 w9 t3 x9 h
theorem s1_liftAs {σ : kx_St} {a k w t x : Nat} {Q : Int32 → Prop} (hk : kx_k 0 a = 1) (hw : σ.1 a 1 = nI w) (k5 : k < 6) (w9 : w < 10) (t3 : t < 4) (x9 : x < 10) (h : Q (nI (ku_lift k w t x))) : p1_liftAs σ a (nI k) (nI t) (nI x) Q := by
  unfold p1_liftAs
  obtain ⟨b1, b2⟩ := ku_pl w w9 t t3 x x9
  rw [hw]
  refine ⟨hk, fun c => ?_, fun c => ?_⟩
  · rw [b1 c]; exact s1_lift28 k5 w9 t3 x9 h
  · rw [b2 c]; exact s1_lift28 k5 w9 t3 x9 h
/-- a KITE's cell of the class: kind, wide, heavy, tail -/
def ku_K (σ : kx_St) (a k w hv t : Nat) : Prop := kx_k 0 a = 1 ∧ σ.1 a 0 = nI k ∧ σ.1 a 1 = nI w ∧ σ.1 a 2 = nI hv ∧ σ.1 a 3 = nI t ∧ k < 6 ∧ w < 10 ∧ hv < 10 ∧ t < 4
theorem s1_liftIn {σ : kx_St} {a k w hv t x : Nat} {Q : Int32 → Prop} (K : ku_K σ a k w hv t) (x9 : x < 10) (h : Q (nI (ku_lift k w t x))) : p1_liftIn σ a (nI x) Q := by
  obtain ⟨hk, h0, h1, h2, h3, k5, w9, hv9, t3⟩ := K
  unfold p1_liftIn
  refine ⟨hk, ?_⟩
  rw [h0, h3]
  exact s1_liftAs hk h1 k5 w9 t3 x9 h
theorem ku_cmp {a h : Nat} (ha : a < 100) (hh : h < 10) : nI a ≤ 4 * nI h ↔ a ≤ 4 * h := by
  rw [show (4 : Int32) = nI 4 from rfl, pk_mul, nI_leI (by omega) (by omega)]
theorem s1_tooMuch {σ : kx_St} {a hv l : Nat} {Q : Int32 → Prop} (hk : kx_k 0 a = 1) (e2 : σ.1 a 2 = nI hv) (hv9 : hv < 10) (hl : l < 100) (h1 : 4 * hv < l → Q 1) (h0 : ¬ 4 * hv < l → Q 0) : p1_isTooMuch σ a (nI l) Q := by
  unfold p1_isTooMuch
  rw [e2]
  refine ⟨hk, fun c => h0 ?_, fun c => h1 ?_⟩
  · have := (ku_cmp hl hv9).mp c
    omega
  · exact Nat.lt_of_not_le (fun q => c ((ku_cmp hl hv9).mpr q))
theorem s1_isLiftedIn {σ : kx_St} {a k w hv t x : Nat} {Q : Int32 → Prop} (K : ku_K σ a k w hv t) (x9 : x < 10) (h1 : 4 * hv < ku_lift k w t x → Q 1) (h0 : ¬ 4 * hv < ku_lift k w t x → Q 0) : p1_isLiftedIn σ a (nI x) Q := by
  have K' := K
  obtain ⟨hk, e0, e1, e2, e3, k5, w9, hv9, t3⟩ := K
  have hle := ku_lift_le k k5 w w9 t t3 x x9
  unfold p1_isLiftedIn
  exact ⟨hk, s1_liftIn K' x9 (s1_tooMuch hk e2 hv9 (by omega) (fun c => ⟨Or.inr rfl, h1 c⟩) (fun c => ⟨Or.inl rfl, h0 c⟩))⟩
theorem s1_payIn {σ : kx_St} {a k w hv t x : Nat} {Q : Int32 → Prop} (K : ku_K σ a k w hv t) (x9 : x < 10) (h : Q (nI (ku_pay k w hv t x))) : p1_payIn σ a (nI x) Q := by
  have K' := K
  obtain ⟨hk, e0, e1, e2, e3, k5, w9, hv9, t3⟩ := K
  have hle := ku_lift_le k k5 w w9 t t3 x x9
  unfold p1_payIn
  refine ⟨hk, s1_liftIn K' x9 (s1_tooMuch hk e2 hv9 (by omega) (fun c => br_f (by decide) ?_) (fun c => br_t rfl ?_))⟩
  · unfold ku_pay at h
    rw [if_pos c] at h
    exact h
  · unfold ku_pay at h
    rw [if_neg c] at h
    exact h
