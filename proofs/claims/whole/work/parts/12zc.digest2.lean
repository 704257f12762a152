section
variable {σ τ : kx_St} {n : Nat} {kd wd hv w : Nat → Nat} {wt dc : Nat} {H : Nat → Nat → Nat}
theorem kr_digI (N : kr_now σ τ n kd wd hv w wt dc H) {i : Nat} (hi : i < n) : ∀ e j, j + e = 7 → ∀ x : Int64, ∃ y, (∀ (k70 : Int64 → Int32 → Prop) (Q : Int64 → Prop), k70 y (nI (i + 1)) → p6_digest_L94 (e + 1) σ x (nI i) (some (30 + i)) (nI j) k70 Q) ∧ ∀ (f : Nat) (Q : Int64 → Prop), p7_digest_L60 f τ y (nI (7 * (i + 1))) Q → p7_digest_L60 (f + e) τ x (nI (7 * i + j)) Q := by
  have n6 := kn_n6 N
  intro e
  induction e with
  | zero =>
    intro j hj x
    obtain rfl : j = 7 := by omega
    refine ⟨x, fun k70 Q q => ?_, fun f Q q => q⟩
    unfold p6_digest_L94
    refine kv_some ⟨(kn_K N hi).1, kv_t (by decide) ?_⟩
    rw [show nI i + 1 = nI (i + 1) from nI_1 _]; exact q
  | succ e ih =>
    intro j hj x
    obtain ⟨y, y1, y2⟩ := ih (j + 1) (by omega) (31 * x + (kn_told kd wd hv w (H dc) i j).toInt64)
    refine ⟨y, fun k70 Q q => ?_, fun f Q q => ?_⟩
    · rw [p6_digest_L94]
      refine kv_some ⟨(kn_K N hi).1, kv_f (by show ¬ nI 7 ≤ nI j; rw [kv_leN (by omega) (by omega)]; omega) (s6_ofKite N hi (by omega) ?_)⟩
      rw [show nI j + 1 = nI (j + 1) from nI_1 _]; exact y1 k70 Q q
    · rw [show f + (e + 1) = f + e + 1 from rfl, p7_digest_L60, kn_mn N, show (7 : Int32) = nI 7 from rfl, kv_mul, kv_rem (by omega) (by decide) (by decide), kv_div (by omega) (by decide) (by decide), show (7 * i + j) / 7 = i by omega, show (7 * i + j) % 7 = j by omega]
      refine kv_f (by rw [kv_leN (by omega) (by omega)]; omega) (s7_toldOf N hi (by omega) ?_)
      rw [show nI (7 * i + j) + 1 = nI (7 * i + (j + 1)) from nI_1 _]; exact y2 f Q q
theorem kr_digC (N : kr_now σ τ n kd wd hv w wt dc H) : ∀ d i, i + d = n → ∀ x : Int64, ∃ y, (∀ Q : Int64 → Prop, (∃ f, p6_digest_L136 f σ y 0 Q) → p6_digest_L70 (d + 1) σ x (nI i) Q) ∧ ∀ Q : Int64 → Prop, (∃ f, p7_digest_L99 f τ y 1 Q) → ∃ f, p7_digest_L60 f τ x (nI (7 * i)) Q := by
  have n6 := kn_n6 N
  intro d
  induction d with
  | zero =>
    intro i hi x
    obtain rfl : i = n := by omega
    refine ⟨x, fun Q q => ?_, fun Q q => ⟨1, ?_⟩⟩
    · unfold p6_digest_L70
      rw [show σ.1 4 3 = nI i from kn_cn N]
      exact kv_t (by rw [kv_leN (by omega) (by omega)]; omega) q
    · unfold p7_digest_L60
      rw [kn_mn N, show (7 : Int32) = nI 7 from rfl, kv_mul]
      exact kv_t (by rw [kv_leN (by omega) (by omega)]; omega) q
  | succ d ih =>
    intro i hi x
    obtain ⟨y, y1, y2⟩ := kr_digI N (i := i) (by omega) 7 0 (by omega) x
    obtain ⟨z, z1, z2⟩ := ih (i + 1) (by omega) y
    refine ⟨z, fun Q q => ?_, fun Q q => ?_⟩
    · rw [p6_digest_L70, show σ.1 4 3 = nI n from kn_cn N]
      refine kv_f (by rw [kv_leN (by omega) (by omega)]; omega) (s3_kite_in N (by omega) (kv_some ⟨(kn_K N (by omega)).1, 8, ?_⟩))
      exact y1 _ Q (z1 Q q)
    · obtain ⟨f, hf⟩ := z2 Q q
      exact ⟨f + 7, y2 f Q hf⟩
theorem kr_digD (N : kr_now σ τ n kd wd hv w wt dc H) (K : kr_kep σ τ n kd wd hv w wt) : ∀ d k, k + d = 3 → ∀ x : Int64, ∃ y, (∀ Q : Int64 → Prop, p6_digestOf σ 1 y (fun r2 => p6_digestOf σ 2 r2 (fun r3 => Q r3)) → p6_digest_L136 (d + 1) σ x (nI k) Q) ∧ ∀ Q : Int64 → Prop, (∃ f, p7_digest_L132 f τ y 0 Q) → p7_digest_L99 (d + 1) τ x (nI (k + 1)) Q := by
  have n6 := kn_n6 N
  intro d
  induction d with
  | zero =>
    intro k hk x
    obtain rfl : k = 3 := by omega
    refine ⟨x, fun Q q => ?_, fun Q q => ?_⟩
    · unfold p6_digest_L136; exact kv_t (by decide) q
    · unfold p7_digest_L99; exact kv_t (by decide) q
  | succ d ih =>
    intro k hk x
    have z : (616 : Int32) * nI (k + 1) + 0 = nI (616 * (k + 1)) := by rw [show (616 : Int32) = nI 616 from rfl, kv_mul]; exact kv_add _ 0
    have ref : ∀ v, τ.1 1 (616 * (k + 1)) = v → ∀ y, (∀ Q : Int64 → Prop, (∃ f, p7_digest_L132 f τ y 0 Q) → p7_digest_L99 (d + 1) τ (31 * x + v.toInt64) (nI (k + 1 + 1)) Q) → ∀ Q : Int64 → Prop, (∃ f, p7_digest_L132 f τ y 0 Q) → p7_digest_L99 (d + 1 + 1) τ x (nI (k + 1)) Q := by
      intro v hv y hy Q q
      rw [p7_digest_L99, z, kv_c (by omega), hv]
      refine kv_f (by show ¬ nI 4 ≤ nI (k + 1); rw [kv_leN (by omega) (by omega)]; omega) ⟨kv_in (by omega) (by decide), ?_⟩
      rw [show nI (k + 1) + 1 = nI (k + 1 + 1) from nI_1 _]
      exact hy Q q
    rcases K k (by omega) with ⟨a, b⟩ | ⟨a, b, dc', H', c⟩
    · obtain ⟨y, y1, y2⟩ := ih (k + 1) (by omega) (31 * x + (-1 : Int32).toInt64)
      refine ⟨y, fun Q q => ?_, ref _ b y y2⟩
      rw [p6_digest_L136, kv_c (by omega), ky_kept k (by omega)]
      refine kv_f (by show ¬ nI 3 ≤ nI k; rw [kv_leN (by omega) (by omega)]; omega) ⟨kv_in (by omega) (by decide), s3_isEmpty (n := 0) (j := 2 + k) (by omega) (by rw [show 4 + (2 + k) = 6 + k by omega]; exact a) (by omega) (fun r => absurd r (by decide)) (fun _ => kv_f (by decide) ?_)⟩
      rw [show nI k + 1 = nI (k + 1) from nI_1 _]
      exact y1 Q q
    · obtain ⟨y, y1, y2⟩ := ih (k + 1) (by omega) (31 * x + (nI dc').toInt64)
      refine ⟨y, fun Q q => ?_, ref _ c.2.2.1.1 y y2⟩
      rw [p6_digest_L136, kv_c (by omega), ky_kept k (by omega)]
      refine kv_f (by show ¬ nI 3 ≤ nI k; rw [kv_leN (by omega) (by omega)]; omega) ⟨kv_in (by omega) (by decide), s3_isEmpty (n := n) (j := 2 + k) (by omega) b.1 n6 (fun _ => kv_t rfl ⟨kv_in (by omega) (by decide), ?_⟩) (fun r => by omega)⟩
      rw [show nI k + 1 = nI (k + 1) from nI_1 _, c.2.1.2.1]
      exact y1 Q q
end
