section
variable {σ τ s t s' t' : kx_St} {n r m : Nat}
theorem s6_parish_L {Q : kx_St → Int32 → Prop} : ∀ d k s, k + d = 3 → (∀ s' : kx_St, (∀ a, ¬ (6 ≤ a ∧ a < 9) → s'.1 a = s.1 a) → (∀ j, j < 3 → k ≤ j ∨ s.1 (6 + j) 3 = 0 → s'.1 (6 + j) 3 = 0) → s'.2 = s.2 → Q s' (s'.1 4 3)) → p6_parish_L61 (d + 1) s (nI k) Q := by
  intro d
  induction d with
  | zero =>
    intro k s hk q
    obtain rfl : k = 3 := by omega
    unfold p6_parish_L61
    exact kv_t (by decide) (q s (fun _ _ => rfl) (fun j hj h => h.elim (fun z => by omega) id) rfl)
  | succ d ih =>
    intro k s hk q
    rw [p6_parish_L61, kv_c (by omega), ky_kept k (by omega), show nI k + 1 = nI (k + 1) from nI_1 _]
    refine kv_f (by show ¬ nI 3 ≤ nI k; rw [kv_leN (by omega) (by omega)]; omega) ⟨kv_in (by omega) (by decide), ih (k + 1) _ (by omega) (fun s' h1 h2 h3 => q s' (fun a ha => (h1 a ha).trans (kv_ua (by omega))) (fun j hj h => h2 j hj ?_) h3)⟩
    by_cases e : j = k
    · subst e; exact Or.inr (by rw [show 4 + (2 + j) = 6 + j by omega]; exact kv_us _ _ _ _)
    · rcases h with h | h
      · exact Or.inl (by omega)
      · exact Or.inr (by rw [kv_un (by omega)]; exact h)
theorem s7_parish_D {Q : kx_St → Int32 → Prop} : ∀ d k t, k + d = 4 → 0 < k → (∀ t' : kx_St, (∀ a, a ≠ 1 → t'.1 a = t.1 a) → (∀ j, j < 616 → t'.1 1 j = t.1 1 j) → (∀ j, 0 < j → j < 4 → k ≤ j ∨ t.1 1 (616 * j) = -1 → t'.1 1 (616 * j) = -1) → t'.2 = t.2 → Q t' (t'.1 0 3)) → p7_parish_L182 (d + 1) t (nI k) Q := by
  intro d
  induction d with
  | zero =>
    intro k t hk k0 q
    obtain rfl : k = 4 := by omega
    unfold p7_parish_L182
    exact kv_t (by decide) (q t (fun _ _ => rfl) (fun _ _ => rfl) (fun j _ hj h => h.elim (fun z => by omega) id) rfl)
  | succ d ih =>
    intro k t hk k0 q
    have e : (616 : Int32) * nI k + 0 = nI (616 * k) := by rw [show (616 : Int32) = nI 616 from rfl, kv_mul]; exact kv_add _ 0
    rw [p7_parish_L182, e, kv_c (by omega), show nI k + 1 = nI (k + 1) from nI_1 _]
    refine kv_f (by show ¬ nI 4 ≤ nI k; rw [kv_leN (by omega) (by omega)]; omega) ⟨kv_in (by omega) (by decide), ih (k + 1) _ (by omega) (by omega) (fun t' h1 h2 h3 h4 => q t' (fun a ha => (h1 a ha).trans (kv_ua ha)) (fun j hj => (h2 j hj).trans (kv_un (by omega))) (fun j j0 hj h => h3 j j0 hj ?_) h4)⟩
    by_cases e : j = k
    · subst e; exact Or.inr (kv_us _ _ _ _)
    · rcases h with h | h
      · exact Or.inl (by omega)
      · exact Or.inr (by rw [kv_un (by omega)]; exact h)
theorem s7_parish_C {Q : kx_St → Int32 → Prop} (hn : n ≤ 6) : ∀ d i t, i + d = n → t.1 0 3 = nI n → (∀ t' : kx_St, (∀ a, a ≠ 1 → a ≠ 3 → a ≠ 4 → a ≠ 5 → t'.1 a = t.1 a) → (∀ j, ¬ (4 + i ≤ j ∧ j < 4 + n) → t'.1 1 j = t.1 1 j) → (∀ x, i ≤ x → x < n → t'.1 3 x = t.1 12 (4 * x) ∧ t'.1 4 x = t.1 12 (4 * x + 1) ∧ t'.1 5 x = t.1 12 (4 * x + 2) ∧ t'.1 1 (4 + x) = t.1 12 (4 * x + 3)) → (∀ x, x < i → t'.1 3 x = t.1 3 x ∧ t'.1 4 x = t.1 4 x ∧ t'.1 5 x = t.1 5 x) → t'.2 = t.2 → ∃ m, p7_parish_L182 m t' 1 Q) → p7_parish_L102 (d + 1) t (nI i) Q := by
  intro d
  induction d with
  | zero =>
    intro i t hi h3 q
    obtain rfl : i = n := by omega
    unfold p7_parish_L102
    rw [h3]
    exact kv_t (by rw [kv_leN (by omega) (by omega)]; omega) (q t (fun _ _ _ _ _ => rfl) (fun _ _ => rfl) (fun x h1 h2 => by omega) (fun _ _ => ⟨rfl, rfl, rfl⟩) rfl)
  | succ d ih =>
    intro i t hi h3 q
    have e4 : (4 : Int32) * nI i = nI (4 * i) := by rw [show (4 : Int32) = nI 4 from rfl, kv_mul]
    rw [p7_parish_L102, h3, e4, show nI (4 * i) + 1 = nI (4 * i + 1) from kv_add _ 1, show nI (4 * i) + 2 = nI (4 * i + 2) from kv_add _ 2, show nI (4 * i) + 3 = nI (4 * i + 3) from kv_add _ 3, show (4 : Int32) + nI i = nI (4 + i) from kv_add 4 i, kv_c (show i < 2147483648 by omega), kv_c (show 4 * i < 2147483648 by omega), kv_c (show 4 * i + 1 < 2147483648 by omega), kv_c (show 4 * i + 2 < 2147483648 by omega), kv_c (show 4 * i + 3 < 2147483648 by omega), kv_c (show 4 + i < 2147483648 by omega), show nI i + 1 = nI (i + 1) from nI_1 _]
    refine kv_f (by rw [kv_leN (by omega) (by omega)]; omega) ⟨kv_in (by omega) (by decide), kv_in (by omega) (by decide), kv_in (by omega) (by decide), kv_in (by omega) (by decide), kv_in (by omega) (by decide), kv_in (by omega) (by decide), kv_in (by omega) (by decide), kv_in (by omega) (by decide), ?_⟩
    refine ih (i + 1) _ (by omega) (by rw [kv_un (by omega), kv_un (by omega), kv_un (by omega), kv_un (by omega)]; exact h3) (fun t' h1 h2 h4 h5 h6 => q t' (fun a a1 a3 a4 a5 => (h1 a a1 a3 a4 a5).trans (by rw [kv_ua a1, kv_ua a5, kv_ua a4, kv_ua a3])) (fun j hj => (h2 j (by omega)).trans (by rw [kv_un (by omega), kv_un (by omega), kv_un (by omega), kv_un (by omega)])) (fun x x1 x2 => ?_) (fun x hx => ?_) h6)
    · have k12 : ∀ j, (kx_sI (kx_sI (kx_sI (kx_sI t 3 i (t.1 12 (4 * i))) 4 i ((kx_sI t 3 i (t.1 12 (4 * i))).1 12 (4 * i + 1))) 5 i ((kx_sI (kx_sI t 3 i (t.1 12 (4 * i))) 4 i ((kx_sI t 3 i (t.1 12 (4 * i))).1 12 (4 * i + 1))).1 12 (4 * i + 2))) 1 (4 + i) ((kx_sI (kx_sI (kx_sI t 3 i (t.1 12 (4 * i))) 4 i ((kx_sI t 3 i (t.1 12 (4 * i))).1 12 (4 * i + 1))) 5 i ((kx_sI (kx_sI t 3 i (t.1 12 (4 * i))) 4 i ((kx_sI t 3 i (t.1 12 (4 * i))).1 12 (4 * i + 1))).1 12 (4 * i + 2))).1 12 (4 * i + 3))).1 12 j = t.1 12 j := fun j => by
        rw [kv_un (by omega), kv_un (by omega), kv_un (by omega), kv_un (by omega)]
      by_cases e : x = i
      · subst e
        obtain ⟨a, b, c⟩ := h5 x (by omega)
        refine ⟨a.trans ?_, b.trans ?_, c.trans ?_, (h2 (4 + x) (by omega)).trans ?_⟩
        · rw [kv_un (by omega), kv_un (by omega), kv_un (by omega), kv_us]
        · rw [kv_un (by omega), kv_un (by omega), kv_us, kv_un (by omega)]
        · rw [kv_un (by omega), kv_us, kv_un (by omega), kv_un (by omega)]
        · rw [kv_us, kv_un (by omega), kv_un (by omega), kv_un (by omega)]
      · have := h4 x (by omega) x2
        rw [k12, k12, k12, k12] at this
        exact this
    · obtain ⟨a, b, c⟩ := h5 x (by omega)
      refine ⟨a.trans ?_, b.trans ?_, c.trans ?_⟩
      · rw [kv_un (by omega), kv_un (by omega), kv_un (by omega), kv_un (by omega)]
      · rw [kv_un (by omega), kv_un (by omega), kv_un (by omega), kv_un (by omega)]
      · rw [kv_un (by omega), kv_un (by omega), kv_un (by omega), kv_un (by omega)]
theorem s7_parish_B {Q : kx_St → Int32 → Prop} : ∀ d k t, k + d = 4 → (∀ t' : kx_St, (∀ a, a ≠ 2 → t'.1 a = t.1 a) → (∀ x, k ≤ x → x < 4 → t'.1 2 x = t.1 11 x) → (∀ x, x < k → t'.1 2 x = t.1 2 x) → t'.2 = t.2 → ∃ m, p7_parish_L102 m (kx_sI (kx_sI t' 0 2 (t'.1 0 20)) 0 3 (t'.1 0 22)) 0 Q) → p7_parish_L61 (d + 1) t (nI k) Q := by
  intro d
  induction d with
  | zero =>
    intro k t hk q
    obtain rfl : k = 4 := by omega
    unfold p7_parish_L61
    refine kv_t (by decide) ?_
    have := q t (fun _ _ => rfl) (fun x h1 h2 => by omega) (fun _ _ => rfl) rfl
    show ∃ m, p7_parish_L102 m (kx_sI (kx_sI t 0 2 (t.1 0 20)) 0 3 ((kx_sI t 0 2 (t.1 0 20)).1 0 22)) 0 Q
    rw [kv_un (by decide)]
    exact this
  | succ d ih =>
    intro k t hk q
    rw [p7_parish_L61, kv_c (by omega), show nI k + 1 = nI (k + 1) from nI_1 _]
    refine kv_f (by show ¬ nI 4 ≤ nI k; rw [kv_leN (by omega) (by omega)]; omega) ⟨kv_in (by omega) (by decide), kv_in (by omega) (by decide), ih (k + 1) _ (by omega) (fun t' h1 h2 h3 h4 => q t' (fun a ha => (h1 a ha).trans (kv_ua ha)) (fun x x1 x2 => ?_) (fun x hx => (h3 x (by omega)).trans (kv_un (by omega))) h4)⟩
    by_cases e : x = k
    · subst e; rw [h3 x (by omega), kv_us]
    · rw [h2 x (by omega) x2, kv_un (by omega)]
theorem s7_parish_A {Q : kx_St → Int32 → Prop} (q : ∃ m, p7_parish_L61 m (kq_fill t 1 0 616 0) 0 Q) : ∀ f k, k ≤ 616 → 616 - k < f → p7_parish_L39 f (kq_fill t 1 0 k 0) (nI k) Q := by
  intro f
  induction f with
  | zero => intro k h1 h2; omega
  | succ f ih =>
    intro k hk hf
    unfold p7_parish_L39
    by_cases h6 : k = 616
    · subst h6; exact kv_t (by decide) q
    · refine kv_f (by show ¬ nI 616 ≤ nI k; rw [kv_leN (by omega) (by omega)]; omega) ⟨kv_in (by omega) (by decide), ?_⟩
      rw [kv_c (by omega), show nI k + 1 = nI (k + 1) from nI_1 _]
      have e := kq_fillS t 1 0 k 0
      rw [Nat.zero_add] at e
      show p7_parish_L39 f (kx_sI (kq_fill t 1 0 k 0) 1 k 0) (nI (k + 1)) Q
      rw [e]
      exact ih (k + 1) (by omega) (by omega)
end
