section
variable {σ τ : kx_St} {n : Nat} {kd wd hv w : Nat → Nat} {wt dc : Nat} {H : Nat → Nat → Nat}
theorem ko_big {f : Nat → Nat} {h M : Nat} (h6 : h ≤ 6) (hf : ∀ c, c < 2 ^ h → f c ≤ M) (hM : M ≤ 10000000000) : ko_S f (2 ^ h) < 2 ^ 62 := by
  have a := ko_S_le (f := f) (M := M) (2 ^ h) hf
  have b := (ko_126 h6).2.1
  have c : 2 ^ h * M ≤ 64 * 10000000000 := Nat.mul_le_mul b hM
  omega
theorem ko_fin {a b c T X : Nat} (h : 12 * X = T * (b + c)) : (12 * a + b + c) * T = (T * a + X) * 12 := by
  rw [Nat.mul_comm _ T, Nat.add_assoc, Nat.mul_add T (12 * a), ← h, Nat.mul_left_comm T 12 a]
  omega
theorem kp_left (N : kr_now σ τ n kd wd hv w wt dc H) : nI n - nI (ko_pc (H dc 1)) = nI (ko_r (H dc 1) n) ∧ ko_r (H dc 1) n ≤ 6 := by
  have n6 := kn_n6 N
  have V := kn_v N
  have f64 := kp_f64 V n6
  have e := (kp_fn V).1
  have lt : H dc 1 < 2 ^ n := by rw [← e]; exact Nat.mod_lt _ (Nat.pow_pos (by decide))
  have l := ko_left _ f64.1 n (by omega) lt
  have rl := ko_r_le (H dc 1) n
  refine ⟨?_, by omega⟩
  rw [kv_sub (by omega)]
  congr 1
  omega
theorem th_odds (σ τ : kx_St) (h : kr_R σ τ) : lt_odds kr_R σ τ := by
  obtain ⟨n, kd, wd, hv, w, wt, dc, H, N, K⟩ := h.2.2.2.2.1
  intro a0
  have n6 := kn_n6 N
  have hmn := kn_mn N
  rcases kv_arg a0 13 with ⟨p, hp, rfl⟩ | ho
  · have g1 : nI p ≤ 12 := by show nI p ≤ nI 12; rw [kv_leN (by omega) (by decide)]; omega
    by_cases h0 : n = 0
    · subst h0
      exact ⟨-4, kv_f (kv_ge (by omega)) (kv_t g1 (s3_isEmpty (j := 0) (by decide) (kn_cn N) n6 (fun q => absurd q (by decide)) (fun _ => kv_f (by decide) ⟨rfl, s7_rng_in (N := 12) rfl hp (by decide) (kv_F (by decide) (kv_T hmn ⟨rfl, h⟩))⟩)))⟩
    · have m0 : ¬ τ.1 0 3 = 0 := by rw [hmn]; exact fun q => h0 ((kv_inj (by omega) (by decide)).mp q)
      obtain ⟨le, l6⟩ := kp_left N
      obtain ⟨l, hl⟩ : ∃ l, l = ko_r (H dc 1) n := ⟨_, rfl⟩
      rw [← hl] at le l6
      have b12 := ko_126 l6
      have fb : ∀ c, c < 2 ^ l → kn_f kd wd hv w (H dc) wt n p c ≤ 2985984 := fun c _ => by
        unfold kn_f
        rw [← hl]
        have := ko_w_le (p := p) (by omega) c l
        split <;> omega
      have big := ko_big l6 fb (by decide)
      have f64 := kp_f64 (kn_v N) n6
      refine ⟨1, kv_f (kv_ge (by omega)) (kv_t g1 (s3_isEmpty (j := 0) (by decide) (kn_cn N) n6 (fun _ => kv_t rfl (s3_flownSet N (sJ_bits f64.1 ?_))) (fun q => absurd q h0)))⟩
      rw [show σ.1 4 3 = nI n from kn_cn N, le]
      have A := s6_odds_L N (T := 12 ^ l) (Q := fun u r => r = 1 ∧ p7_odds τ (nI p) (fun w q => q = 1 ∧ kr_R u w)) hl (show p ≤ 12 by omega) (s6_tellParts big (by omega) b12.2.2 ⟨rfl, ?_⟩) (2 ^ l) 0 (by omega)
      · exact ⟨l + 1, s6_odds_A l6 ⟨_, A⟩ l 0 (by omega)⟩
      · refine s7_rng_in (N := 12) rfl hp (by decide) (kv_F (by decide) (kv_F m0 (s7_calm_N N ?_)))
        rw [← hl]
        refine ⟨2 ^ l + 1, s7_calm_L N (g := kn_f kd wd hv w (H dc) wt n p) hl (by omega) (fun c hc A S q => kv_t rfl ?_) (s7_tellParts big (by omega) b12.2.2 ⟨rfl, kr_parts h _ _⟩) (2 ^ l) 0 (by omega)⟩
        have kl := kn_s_le N c (Nat.le_refl n)
        have sl := kp_sum_le N
        have wt1 := N.1.2.1
        unfold kn_f at q
        rw [kv_ltN (by omega) (by omega)]
        refine ⟨fun z => ?_, fun z => ?_⟩
        · rw [if_neg (by omega)] at q
          rw [show nL S + 0 = nL (S + 0) from nL_add S 0]
          exact q
        · rw [if_pos (by omega), ← hl] at q
          rw [nL_add]
          exact q
  · have m : p7_odds τ a0 (fun w q => q = -1 ∧ kr_R σ w) := s7_rng_out (N := 12) rfl ho (kv_T rfl ⟨rfl, h⟩)
    refine ⟨-1, fun _ => ⟨rfl, m⟩, fun c => kv_f ?_ ⟨rfl, m⟩⟩
    show ¬ a0 ≤ nI 12
    have c : ¬ a0.toInt < 0 := fun r => c (kv_lt.mpr r)
    rw [kv_le, kv_n (by omega)]; omega
theorem th_mid (σ τ : kx_St) (h : kr_R σ τ) : lt_mid kr_R σ τ := by
  obtain ⟨n, kd, wd, hv, w, wt, dc, H, N, K⟩ := h.2.2.2.2.1
  intro a0
  have n6 := kn_n6 N
  have hmn := kn_mn N
  rcases kv_arg a0 13 with ⟨p, hp, rfl⟩ | ho
  · have g1 : nI p ≤ 12 := by show nI p ≤ nI 12; rw [kv_leN (by omega) (by decide)]; omega
    by_cases h0 : n = 0
    · subst h0
      exact ⟨-4, kv_f (kv_ge (by omega)) (kv_t g1 (s3_isEmpty (j := 0) (by decide) (kn_cn N) n6 (fun q => absurd q (by decide)) (fun _ => kv_f (by decide) ⟨rfl, s7_rng_in (N := 12) rfl hp (by decide) (kv_F (by decide) (kv_T hmn ⟨rfl, h⟩))⟩)))⟩
    · have m0 : ¬ τ.1 0 3 = 0 := by rw [hmn]; exact fun q => h0 ((kv_inj (by omega) (by decide)).mp q)
      obtain ⟨_, l6⟩ := kp_left N
      obtain ⟨l, hl⟩ : ∃ l, l = ko_r (H dc 1) n := ⟨_, rfl⟩
      rw [← hl] at l6
      have b12 := ko_126 l6
      have sl := kp_sum_le N
      have k0 := kn_s_le N 0 (Nat.le_refl n)
      have k63 := kn_s_le N 63 (Nat.le_refl n)
      obtain ⟨g, hg⟩ : ∃ g : Nat → Nat, g = fun c => ko_w p c l * kp_sum (H dc) + ko_w p c l * kn_s kd wd hv w (H dc) c n := ⟨_, rfl⟩
      have gb : ∀ c, c < 2 ^ l → g c ≤ 2985984 * 360 + 2985984 * 306 := fun c _ => by
        have a := ko_w_le (p := p) (by omega) c l
        have b := kn_s_le N c (Nat.le_refl n)
        rw [hg]
        exact Nat.add_le_add (Nat.mul_le_mul (by omega) sl) (Nat.mul_le_mul (by omega) b)
      have big := ko_big l6 gb (by decide)
      have u1 : (12 - p) * kn_s kd wd hv w (H dc) 0 n ≤ 12 * 306 := Nat.mul_le_mul (by omega) k0
      have u2 : p * kn_s kd wd hv w (H dc) 63 n ≤ 12 * 306 := Nat.mul_le_mul (by omega) k63
      have mean := ko_mean (kn_A kd wd hv w (H dc)) (kn_B kd wd hv (H dc)) (H dc 1) (show p ≤ 12 by omega) n n6
      have eS : ko_S g (2 ^ l) = 12 ^ l * kp_sum (H dc) + ko_S (fun c => ko_w p c (ko_r (H dc 1) n) * ko_s (kn_A kd wd hv w (H dc)) (kn_B kd wd hv (H dc)) (H dc 1) c n) (2 ^ ko_r (H dc 1) n) := by
        rw [hg, ko_S_sum, ko_S_mul, ko_12 (by omega), hl]
        rfl
      have lw := ko_low (a := 12 * kp_sum (H dc) + (12 - p) * kn_s kd wd hv w (H dc) 0 n + p * kn_s kd wd hv w (H dc) 63 n) (b := 12) (c := ko_S g (2 ^ l)) (d := 12 ^ l) (by decide) b12.2.2 (by
        rw [eS, ← hl]
        rw [← hl] at mean
        exact ko_fin mean)
      refine ⟨1, kv_f (kv_ge (by omega)) (kv_t g1 (s3_isEmpty (j := 0) (by decide) (kn_cn N) n6 (fun _ => kv_t rfl (s6_paidCalms (c := 0) N (by decide) (s6_paidCalms (c := 63) N (by decide) ?_))) (fun q => absurd q h0)))⟩
      rw [show σ.1 4 7 = nI (kp_sum (H dc)) from N.2.2.2.2.1.2.2.1, (ko_p (show p ≤ 12 by omega)).1, (ko_p (show p ≤ 12 by omega)).2, nL_of (by omega), nL_of (by omega), nL_of (by omega), show (12 : Int64) = nL 12 from rfl, nL_mul, nL_mul, nL_mul, nL_add, nL_add]
      refine s6_tellParts (by omega) (by decide) (by decide) ⟨rfl, ?_⟩
      refine s7_rng_in (N := 12) rfl hp (by decide) (kv_F (by decide) (kv_F m0 (s7_calm_N N ?_)))
      rw [← hl]
      refine ⟨2 ^ l + 1, s7_calm_L N (g := g) hl (by omega) (fun c hc A S q => kv_f (by decide) ?_) (s7_tellParts big (by omega) b12.2.2 ⟨rfl, ?_⟩) (2 ^ l) 0 (by omega)⟩
      · have kl := kn_s_le N c (Nat.le_refl n)
        rw [nL_of (by omega), nL_mul, nL_add]
        rw [hg] at q
        dsimp only at q
        rw [← Nat.mul_add] at q
        exact q
      · rw [lw.1, lw.2]
        exact kr_parts h _ _
  · have m : p7_mid τ a0 (fun w q => q = -1 ∧ kr_R σ w) := s7_rng_out (N := 12) rfl ho (kv_T rfl ⟨rfl, h⟩)
    refine ⟨-1, fun _ => ⟨rfl, m⟩, fun c => kv_f ?_ ⟨rfl, m⟩⟩
    show ¬ a0 ≤ nI 12
    have c : ¬ a0.toInt < 0 := fun r => c (kv_lt.mpr r)
    rw [kv_le, kv_n (by omega)]; omega
end
