section
variable {σ τ : kx_St} {n : Nat} {kd wd hv w : Nat → Nat} {wt dc : Nat} {H : Nat → Nat → Nat}
theorem kr_count (h : kr_R σ τ) (N : kr_now σ τ n kd wd hv w wt dc H) (K : kr_kep σ τ n kd wd hv w wt) {m : Nat} (hm : m < 12) : ∃ v, (∀ Q : Int32 → Prop, Q v → p6_count σ (nI m) Q) ∧ ∀ Q : Int32 → Prop, Q v → p7_countOf τ (nI m) Q := by
  have eh1 : τ.1 1 (1 : Int32).toNatClampNeg = nI (H dc 0) := kn_mh N
  have eh : τ.1 1 (1 : Int32).toNatClampNeg = nI (H dc 0 + 0) := eh1
  unfold p6_count p7_countOf
  rcases (show m = 0 ∨ m = 1 ∨ m = 2 ∨ m = 3 ∨ m = 4 ∨ m = 5 ∨ m = 6 ∨ m = 7 ∨ m = 8 ∨ m = 9 ∨ m = 10 ∨ m = 11 by omega) with rfl | rfl | rfl | rfl | rfl | rfl | rfl | rfl | rfl | rfl | rfl | rfl
  · exact ⟨_, fun Q q => kv_t (by decide) ((by rw [show σ.1 4 3 = nI n from kn_cn N]; exact q)), fun Q q => kv_t (by decide) ((by rw [kn_mn N]; exact q))⟩
  · exact ⟨_, fun Q q => kv_f (by decide) (kv_t (by decide) ((by rw [show σ.1 4 5 = nI (H dc 0) from kn_ch N]; exact q))), fun Q q => kv_f (by decide) (kv_t (by decide) ((by rw [eh1]; exact q)))⟩
  · exact ⟨_, fun Q q => kv_f (by decide) (kv_f (by decide) (kv_t (by decide) ((by rw [show σ.1 4 6 = nI dc from kn_cd N]; exact q)))), fun Q q => kv_f (by decide) (kv_f (by decide) (kv_t (by decide) ((by rw [show τ.1 1 (0 : Int32).toNatClampNeg = nI dc from kn_md N]; exact q))))⟩
  · exact ⟨_, fun Q q => kv_f (by decide) (kv_f (by decide) (kv_f (by decide) (kv_t (by decide) (kn_cwind N (a := 0) (by decide) q)))), fun Q q => kv_f (by decide) (kv_f (by decide) (kv_f (by decide) (kv_t (by decide) ((by rw [eh]; exact kn_mwind N rfl (by decide) q)))))⟩
  · exact ⟨_, fun Q q => kv_f (by decide) (kv_f (by decide) (kv_f (by decide) (kv_f (by decide) (kv_t (by decide) (s3_flownSet N q))))), fun Q q => kv_f (by decide) (kv_f (by decide) (kv_f (by decide) (kv_f (by decide) (kv_t (by decide) ((by rw [show τ.1 1 (2 : Int32).toNatClampNeg = nI (H dc 1) from kn_mk N (k := 1) (by decide)]; exact q))))))⟩
  · exact ⟨_, fun Q q => kv_f (by decide) (kv_f (by decide) (kv_f (by decide) (kv_f (by decide) (kv_f (by decide) (kv_t (by decide) (s3_liftedSet N q)))))), fun Q q => kv_f (by decide) (kv_f (by decide) (kv_f (by decide) (kv_f (by decide) (kv_f (by decide) (kv_t (by decide) ((by rw [show τ.1 1 (3 : Int32).toNatClampNeg = nI (H dc 2) from kn_mk N (k := 2) (by decide)]; exact q)))))))⟩
  · exact ⟨_, fun Q q => kv_f (by decide) (kv_f (by decide) (kv_f (by decide) (kv_f (by decide) (kv_f (by decide) (kv_f (by decide) (kv_t (by decide) ((by rw [show σ.1 4 7 = nI (kp_sum (H dc)) from N.2.2.2.2.1.2.2.1]; exact q)))))))), fun Q q => kv_f (by decide) (kv_f (by decide) (kv_f (by decide) (kv_f (by decide) (kv_f (by decide) (kv_f (by decide) (kv_t (by decide) (s7_paidIn N q)))))))⟩
  · exact ⟨_, fun Q q => kv_f (by decide) (kv_f (by decide) (kv_f (by decide) (kv_f (by decide) (kv_f (by decide) (kv_f (by decide) (kv_f (by decide) (kv_t (by decide) ((by rw [show σ.1 4 4 = nI wt from N.2.1.2.1]; exact q))))))))), fun Q q => kv_f (by decide) (kv_f (by decide) (kv_f (by decide) (kv_f (by decide) (kv_f (by decide) (kv_f (by decide) (kv_f (by decide) (kv_t (by decide) ((by rw [N.2.2.1.2.1]; exact q)))))))))⟩
  · exact ⟨_, fun Q q => kv_f (by decide) (kv_f (by decide) (kv_f (by decide) (kv_f (by decide) (kv_f (by decide) (kv_f (by decide) (kv_f (by decide) (kv_f (by decide) (kv_t (by decide) (s6_rows h q))))))))), fun Q q => kv_f (by decide) (kv_f (by decide) (kv_f (by decide) (kv_f (by decide) (kv_f (by decide) (kv_f (by decide) (kv_f (by decide) (kv_f (by decide) (kv_f (by decide) (s7_rows h q)))))))))⟩
  · exact ⟨_, fun Q q => kv_f (by decide) (kv_f (by decide) (kv_f (by decide) (kv_f (by decide) (kv_f (by decide) (kv_f (by decide) (kv_f (by decide) (kv_f (by decide) (kv_f (by decide) (kv_t (by decide) (s6_txts h q)))))))))), fun Q q => kv_f (by decide) (kv_f (by decide) (kv_f (by decide) (kv_f (by decide) (kv_f (by decide) (kv_f (by decide) (kv_f (by decide) (kv_f (by decide) (kv_f (by decide) (s7_txts h q)))))))))⟩
  · exact ⟨_, fun Q q => kv_f (by decide) (kv_f (by decide) (kv_f (by decide) (kv_f (by decide) (kv_f (by decide) (kv_f (by decide) (kv_f (by decide) (kv_f (by decide) (kv_f (by decide) (kv_f (by decide) (kv_t (by decide) (s6_kept N K q))))))))))), fun Q q => kv_f (by decide) (kv_f (by decide) (kv_f (by decide) (kv_f (by decide) (kv_f (by decide) (kv_f (by decide) (kv_f (by decide) (kv_f (by decide) (kv_f (by decide) (s7_kept N K q)))))))))⟩
  · exact ⟨_, fun Q q => kv_f (by decide) (kv_f (by decide) (kv_f (by decide) (kv_f (by decide) (kv_f (by decide) (kv_f (by decide) (kv_f (by decide) (kv_f (by decide) (kv_f (by decide) (kv_f (by decide) (kv_f (by decide) (kv_t (by decide) (s3_boxes N q)))))))))))), fun Q q => kv_f (by decide) (kv_f (by decide) (kv_f (by decide) (kv_f (by decide) (kv_f (by decide) (kv_f (by decide) (kv_f (by decide) (kv_f (by decide) (kv_t (by decide) (s7_boxes N q)))))))))⟩
theorem kr_digA (h : kr_R σ τ) (N : kr_now σ τ n kd wd hv w wt dc H) (K : kr_kep σ τ n kd wd hv w wt) : ∀ d m, m + d = 12 → ∀ x : Int64, ∃ y, (∀ Q : Int64 → Prop, (∃ f, p6_digest_L33 f σ y 0 Q) → p6_digest_L6 (d + 1) σ x (nI m) Q) ∧ ∀ Q : Int64 → Prop, (∃ f, p7_digest_L33 f τ y 0 Q) → p7_digest_L6 (d + 1) τ x (nI m) Q := by
  intro d
  induction d with
  | zero =>
    intro m hm x
    obtain rfl : m = 12 := by omega
    refine ⟨x, fun Q q => ?_, fun Q q => ?_⟩
    · unfold p6_digest_L6; exact kv_t (by decide) q
    · unfold p7_digest_L6; exact kv_t (by decide) q
  | succ d ih =>
    intro m hm x
    obtain ⟨v, v1, v2⟩ := kr_count h N K (m := m) (by omega)
    obtain ⟨y, y1, y2⟩ := ih (m + 1) (by omega) (31 * x + v.toInt64)
    refine ⟨y, fun Q q => ?_, fun Q q => ?_⟩
    · rw [p6_digest_L6]
      refine kv_f (by show ¬ nI 12 ≤ nI m; rw [kv_leN (by omega) (by omega)]; omega) (v1 _ ?_)
      rw [show nI m + 1 = nI (m + 1) from nI_1 _]; exact y1 Q q
    · rw [p7_digest_L6]
      refine kv_f (by show ¬ nI 12 ≤ nI m; rw [kv_leN (by omega) (by omega)]; omega) (v2 _ ?_)
      rw [show nI m + 1 = nI (m + 1) from nI_1 _]; exact y2 Q q
theorem kr_digB (N : kr_now σ τ n kd wd hv w wt dc H) : ∀ d m, m + d = 4 → ∀ x : Int64, ∃ y, (∀ Q : Int64 → Prop, (∃ f, p6_digest_L70 f σ y 0 Q) → p6_digest_L33 (d + 1) σ x (nI m) Q) ∧ ∀ Q : Int64 → Prop, (∃ f, p7_digest_L60 f τ y 0 Q) → p7_digest_L33 (d + 1) τ x (nI m) Q := by
  intro d
  induction d with
  | zero =>
    intro m hm x
    obtain rfl : m = 4 := by omega
    refine ⟨x, fun Q q => ?_, fun Q q => ?_⟩
    · unfold p6_digest_L33; exact kv_t (by decide) q
    · unfold p7_digest_L33; exact kv_t (by decide) q
  | succ d ih =>
    intro m hm x
    obtain ⟨y, y1, y2⟩ := ih (m + 1) (by omega) (31 * x + (nI (w m)).toInt64)
    refine ⟨y, fun Q q => ?_, fun Q q => ?_⟩
    · rw [p6_digest_L33]
      refine kv_f (by show ¬ nI 4 ≤ nI m; rw [kv_leN (by omega) (by omega)]; omega) ⟨kv_in (by omega) (by decide), ?_⟩
      rw [show nI m + 1 = nI (m + 1) from nI_1 _, kv_c (by omega), show σ.1 10 m = nI (w m) from kn_cw N m (by omega)]; exact y1 Q q
    · rw [p7_digest_L33]
      refine kv_f (by show ¬ nI 4 ≤ nI m; rw [kv_leN (by omega) (by omega)]; omega) ⟨kv_in (by omega) (by decide), ?_⟩
      rw [show nI m + 1 = nI (m + 1) from nI_1 _, kv_c (by omega), kn_mw N m (by omega)]; exact y2 Q q
end
