section
variable {σ τ : kx_St} {n : Nat} {kd wd hv w : Nat → Nat} {wt dc : Nat} {H : Nat → Nat → Nat}
def ku_tw (p : Nat → Nat) : Nat → Nat
  | 0 => 0
  | m + 1 => if p (ku_tw p m) ≤ p (m + 1) then ku_tw p m else m + 1
def kn_G (wi t : Nat) (S : Int32) (x : Nat) : Nat := ks_gp S (fun k => ku_lift k wi t x) 6
theorem s6_test_L {a k0 wi hi t : Nat} {S : Int32} {Q : kx_St → Int32 → Prop} (K : ku_K σ a k0 wi hi t) (q : Q (kx_sI σ 0 10 (nI (kn_G wi t S (ku_tw (kn_G wi t S) 9)))) (nI (ku_tw (kn_G wi t S) 9))) : ∀ f m, m ≤ 9 → 9 - m < f → p6_test_L80 f σ a S (nI (ku_tw (kn_G wi t S) m)) (nI (kn_G wi t S (ku_tw (kn_G wi t S) m))) (nI (m + 1)) Q := by
  intro f
  induction f with
  | zero => intro m h1 h2; omega
  | succ f ih =>
    intro m hm hf
    unfold p6_test_L80
    by_cases h9 : m = 9
    · subst h9; exact kv_t (by decide) q
    · have nx := ih (m + 1) (by omega) (by omega)
      have l1 : kn_G wi t S (m + 1) ≤ 6 := ks_gp_le _ _ _
      have l2 : kn_G wi t S (ku_tw (kn_G wi t S) m) ≤ 6 := ks_gp_le _ _ _
      rw [ku_tw] at nx
      rw [show nI (m + 1) + 1 = nI (m + 1 + 1) from nI_1 _]
      refine kv_f (by show ¬ nI 9 < nI (m + 1); rw [kv_ltN (by omega) (by omega)]; omega) (s6_gp K (by omega) ?_)
      show (_ ≤ nI (kn_G wi t S (m + 1)) → _) ∧ (¬ _ ≤ nI (kn_G wi t S (m + 1)) → _)
      refine ⟨fun d => ?_, fun d => ?_⟩
      · rw [if_pos ((kv_leN (by omega) (by omega)).mp d)] at nx; exact nx
      · rw [if_neg (fun r => d ((kv_leN (by omega) (by omega)).mpr r))] at nx; exact nx
theorem s7_test_L {i k0 wi hi t : Nat} {S : Int32} {Q : kx_St → Int32 → Prop} (M : ku_M τ 0 i k0 wi hi t) (q : Q (kx_sI τ 0 11 (nI (kn_G wi t S (ku_tw (kn_G wi t S) 9)))) (nI (ku_tw (kn_G wi t S) 9))) : ∀ f m, m ≤ 9 → 9 - m < f → p7_test_L56 f τ (nI i) S (nI (ku_tw (kn_G wi t S) m)) (nI (kn_G wi t S (ku_tw (kn_G wi t S) m))) (nI (m + 1)) Q := by
  intro f
  induction f with
  | zero => intro m h1 h2; omega
  | succ f ih =>
    intro m hm hf
    unfold p7_test_L56
    by_cases h9 : m = 9
    · subst h9; exact kv_t (by decide) q
    · have nx := ih (m + 1) (by omega) (by omega)
      have l1 : kn_G wi t S (m + 1) ≤ 6 := ks_gp_le _ _ _
      have l2 : kn_G wi t S (ku_tw (kn_G wi t S) m) ≤ 6 := ks_gp_le _ _ _
      rw [ku_tw] at nx
      refine kv_f (by show ¬ nI 10 ≤ nI (m + 1); rw [kv_leN (by omega) (by omega)]; omega) (s7_gp M (by omega) ?_)
      show (_ ≤ nI (kn_G wi t S (m + 1)) → _) ∧ (¬ _ ≤ nI (kn_G wi t S (m + 1)) → _)
      unfold p7_test_J88
      rw [show nI (m + 1) + 1 = nI (m + 1 + 1) from nI_1 _]
      refine ⟨fun d => ?_, fun d => ?_⟩
      · rw [if_pos ((kv_leN (by omega) (by omega)).mp d)] at nx; exact kv_t d nx
      · rw [if_neg (fun r => d ((kv_leN (by omega) (by omega)).mpr r))] at nx; exact kv_f d nx
theorem th_test (σ τ : kx_St) (h : kr_R σ τ) : lt_test kr_R σ τ := by
  obtain ⟨n, kd, wd, hv, w, wt, dc, H, N, K⟩ := h.2.2.2.2.1
  intro a0 a1
  unfold p6_test
  rcases kv_arg a0 n with ⟨i, hi, rfl⟩ | ho
  · rcases kv_arg a1 6 with ⟨r, hr, rfl⟩ | hr
    · rcases kr_pairs_c h hr with ⟨f, hf, A, B⟩ | ⟨m, hm, h2, es, et, hp, O, A, B⟩
      · have f6 : f < 6 := by omega
        have f0 : ¬ nI f = 0 := fun e => by have := (kv_inj (b := 0) (by omega) (by decide)).mp e; omega
        have mm : p7_test τ (nI i) (nI r) (fun w q => q = -3 ∧ kr_R (kq_f σ f) w) := s7_kite_in N hi (kv_f (by decide) (s7_isRow_in hr (kv_F (by decide) (B _ (kv_f (by decide) ⟨rfl, kr_found h f6⟩)))))
        exact ⟨-3, s3_kite_in N hi (kv_some ⟨(kn_K N hi).1, s6_pick1_in hr (kv_some ⟨(ku_row hr).1, A _ (kv_f f0 (s6_found rfl f6 ⟨rfl, mm⟩))⟩)⟩)⟩
      · obtain ⟨S, hS⟩ : ∃ S, S = ks_set (fun k => ks_so k (wd i) (H dc (3 + i)) (σ.1 (70 + r)) m) 6 := ⟨_, rfl⟩
        have kc : ∀ Q : Int32 → Prop, Q S → p6_fittingKinds σ (30 + i) (60 + r) Q := fun Q q => ⟨(kn_K N hi).1, (ku_row hr).1, 7, s6_kinds_L N hi hr es hm h2 O (by rw [← hS]; exact q) 7 0 (by omega) (by omega)⟩
        have km : ∀ Q : Int32 → Prop, Q S → p7_kindsBy τ (nI i) (nI r) Q := fun Q q => ⟨7, s7_kinds_L N hi hr et hm h2 hp O (by rw [← hS]; exact q) 7 0 (by omega) (by omega)⟩
        by_cases s0 : S = 0
        · have mm : p7_test τ (nI i) (nI r) (fun w q => q = -9 ∧ kr_R σ w) := s7_kite_in N hi (kv_f (by decide) (s7_isRow_in hr (kv_F (by decide) (B _ (kv_t rfl (km _ (kv_T s0 ⟨rfl, h⟩)))))))
          exact ⟨-9, s3_kite_in N hi (kv_some ⟨(kn_K N hi).1, s6_pick1_in hr (kv_some ⟨(ku_row hr).1, A _ (kv_t rfl (kc _ (kv_T s0 ⟨rfl, mm⟩)))⟩)⟩)⟩
        · have MM := kn_M N hi
          have KK := kn_K N hi
          have l0 : kn_G (wd i) (H dc (3 + i)) S 0 ≤ 6 := ks_gp_le _ _ _
          have mm : p7_test τ (nI i) (nI r) (fun w q => q = nI (ku_tw (kn_G (wd i) (H dc (3 + i)) S) 9) ∧ kr_R (kx_sI σ 0 10 (nI (kn_G (wd i) (H dc (3 + i)) S (ku_tw (kn_G (wd i) (H dc (3 + i)) S) 9)))) w) := by
            refine s7_kite_in N hi (kv_f (by decide) (s7_isRow_in hr (kv_F (by decide) (B _ (kv_t rfl (km _ (kv_F s0 ⟨11, ?_⟩)))))))
            rw [p7_test_L56]
            refine kv_f (by decide) (s7_gp (x := 0) MM (by decide) ?_)
            have c : ¬ (99999 : Int32) ≤ nI (kn_G (wd i) (H dc (3 + i)) S 0) := by
              rw [kv_le, kv_n (by omega)]
              show ¬ (99999 : Int) ≤ _
              omega
            exact kv_f c (kv_f c (s7_test_L MM ⟨rfl, kr_tell h _⟩ 10 0 (by omega) (by omega)))
          refine ⟨nI (ku_tw (kn_G (wd i) (H dc (3 + i)) S) 9), s3_kite_in N hi (kv_some ⟨KK.1, s6_pick1_in hr (kv_some ⟨(ku_row hr).1, A _ (kv_t rfl (kc _ (kv_F s0 (s6_gp (x := 0) KK (by decide) ⟨10, ?_⟩))))⟩)⟩)⟩
          exact s6_test_L KK ⟨rfl, mm⟩ 10 0 (by omega) (by omega)
    · have mm : p7_test τ (nI i) a1 (fun w q => q = -1 ∧ kr_R σ w) := s7_kite_in N hi (kv_f (by decide) (s7_isRow_out hr (kv_T rfl ⟨rfl, h⟩)))
      exact ⟨-1, s3_kite_in N hi (kv_some ⟨(kn_K N hi).1, s6_pick1_out hr (kv_none ⟨rfl, mm⟩)⟩)⟩
  · have m : p7_test τ a0 a1 (fun w q => q = -1 ∧ kr_R σ w) := s7_kite_out N ho (kv_t rfl ⟨rfl, h⟩)
    exact ⟨-1, s3_kite_out N ho (kv_none (s6_pick1_any (kv_none ⟨rfl, m⟩) (fun k hk => kv_some ⟨(ku_row hk).1, rfl, m⟩)))⟩
end
