section
variable {σ τ : kx_St} {n : Nat} {kd wd hv w : Nat → Nat} {wt dc : Nat} {H : Nat → Nat → Nat}
def kd_cd (g : Nat → Bool) (M : Nat) : Nat → Nat
  | 0 => 0
  | d + 1 => kd_cd g M d + (if g (M - (d + 1)) = true then 1 else 0)
theorem kd_cd_up (g : Nat → Bool) (M : Nat) : ∀ d, d ≤ M → kd_up g (M - d) + kd_cd g M d = kd_up g M := by
  intro d
  induction d with
  | zero => intro _; rfl
  | succ d ih =>
    intro hd
    have i := ih (by omega)
    rw [show M - d = (M - (d + 1)) + 1 by omega, kd_up] at i
    rw [kd_cd]
    omega
def kd_o : Option Nat → Int32
  | none => -9
  | some c => nI c
theorem s7_crossed_L (N : kr_now σ τ n kd wd hv w wt dc H) {v x M : Nat} {Q : kx_St → Int32 → Prop} (hM : M = n * n) (n0 : 0 < n) (hv2 : v ≤ 200) (hx : x < 10) (q1 : 0 < kd_up (kd_g n (fun i => kn_L kd wd (H dc) i x) v) M → Q (kx_sI τ 0 11 (nI (kd_fu (kd_g n (fun i => kn_L kd wd (H dc) i x) v) (kd_c n) M))) (nI (kd_up (kd_g n (fun i => kn_L kd wd (H dc) i x) v) M))) (q0 : kd_up (kd_g n (fun i => kn_L kd wd (H dc) i x) v) M = 0 → Q (kx_sI τ 0 11 (τ.1 0 11)) (-9)) : ∀ f d, d ≤ M → M - d < f → p7_crossed_L55 f τ (nI v) (nI x) (nI (kd_cd (kd_g n (fun i => kn_L kd wd (H dc) i x) v) M d)) (kd_o (kd_fd (kd_g n (fun i => kn_L kd wd (H dc) i x) v) (kd_c n) M d)) (nI (M - d) - 1) Q := by
  have n6 := kn_n6 N
  have M36 : M ≤ 36 := by rw [hM]; exact Nat.le_trans (Nat.mul_le_mul n6 n6) (by decide)
  have uM := kd_up_le (kd_g n (fun i => kn_L kd wd (H dc) i x) v) M
  intro f
  induction f with
  | zero => intro d h1 h2; omega
  | succ f ih =>
    intro d h1 h2
    unfold p7_crossed_L55
    have cu := kd_cd_up (kd_g n (fun i => kn_L kd wd (H dc) i x) v) M d h1
    by_cases hd : d = M
    · subst hd
      have e := (kd_first (kd_g n (fun i => kn_L kd wd (H dc) i x) v) (kd_c n) d d (Nat.le_refl _)).1 (by rw [Nat.sub_self]; rfl)
      rw [Nat.sub_self] at cu ⊢
      have cu : kd_cd (kd_g n (fun i => kn_L kd wd (H dc) i x) v) d d = kd_up (kd_g n (fun i => kn_L kd wd (H dc) i x) v) d := by
        rw [← cu]; exact (Nat.zero_add _).symm
      rw [cu, e]
      refine kv_t (by decide) ?_
      unfold p7_crossed_J158
      by_cases z : kd_up (kd_g n (fun i => kn_L kd wd (H dc) i x) v) d = 0
      · rw [z]
        exact kv_T rfl (kv_T rfl (q0 z))
      · have z2 : ¬ nI (kd_up (kd_g n (fun i => kn_L kd wd (H dc) i x) v) d) = 0 := fun r => z ((kv_inj (b := 0) (by omega) (by decide)).mp r)
        rw [if_neg z]
        exact kv_F z2 (kv_F z2 (q1 (by omega)))
    · have nx := ih (d + 1) (by omega) (by omega)
      obtain ⟨y, hy⟩ : ∃ y, y = M - (d + 1) := ⟨_, rfl⟩
      have yM : y < n * n := by omega
      have y1 : y / n < n := Nat.div_lt_of_lt_mul yM
      have y2 : y % n < n := Nat.mod_lt _ n0
      have l1 := kn_L_le N y1 hx
      have l2 := kn_L_le N y2 hx
      have cb : ku_cr (kn_L kd wd (H dc) (y / n) x) (kn_L kd wd (H dc) (y % n) x) ≤ 105 := by unfold ku_cr; split <;> (try split) <;> omega
      have nn : ¬ nI n = 0 := fun r => by have := (kv_inj (b := 0) (by omega) (by decide)).mp r; omega
      rw [kd_cd, kd_fd, ← hy] at nx
      rw [show M - d = y + 1 by omega, kv_p1, kn_mn N, kv_rem (by omega) n0 (by omega), kv_div (by omega) n0 (by omega)]
      refine kv_f (kv_ge (by omega)) ⟨nn, nn, fun z => ?_, fun z => s7_crossedIn N y1 y2 hx ⟨fun z2 => ?_, fun z2 => ?_⟩⟩
      · have z := (kv_leN (by omega) (by omega)).mp z
        have g : kd_g n (fun i => kn_L kd wd (H dc) i x) v y = false := decide_eq_false (fun r => by omega)
        rw [g, if_neg (by decide), if_neg (by decide)] at nx
        unfold p7_crossed_J103 p7_crossed_J116
        rw [kv_m1, show ∀ c : Nat, nI c + 0 = nI (c + 0) from fun c => kv_add c 0]
        exact kv_t rfl (kv_t rfl nx)
      · have g : kd_g n (fun i => kn_L kd wd (H dc) i x) v y = false := decide_eq_false (fun r => z2 (by rw [r.2]))
        rw [g, if_neg (by decide), if_neg (by decide)] at nx
        unfold p7_crossed_J103 p7_crossed_J116
        rw [kv_m1, show ∀ c : Nat, nI c + 0 = nI (c + 0) from fun c => kv_add c 0]
        exact kv_t rfl (kv_t rfl nx)
      · have z2 := (kv_inj (by omega) (by omega)).mp z2
        have z : y / n < y % n := Nat.lt_of_not_le (fun r => z ((kv_leN (by omega) (by omega)).mpr r))
        have g : kd_g n (fun i => kn_L kd wd (H dc) i x) v y = true := decide_eq_true ⟨z, z2⟩
        rw [g, if_pos rfl, if_pos rfl] at nx
        unfold p7_crossed_J103 p7_crossed_J116
        rw [kv_m1, show ∀ c : Nat, nI c + 1 = nI (c + 1) from fun c => nI_1 c, show (10 : Int32) * nI (y / n) + nI (y % n) = nI (10 * (y / n) + y % n) from by rw [show (10 : Int32) = nI 10 from rfl, kv_mul, kv_add]]
        exact kv_f (by decide) (kv_f (by decide) nx)
theorem kx_self (τ : kx_St) (a k : Nat) : kx_sI τ a k (τ.1 a k) = τ := by
  refine Prod.ext ?_ rfl
  funext b j
  by_cases h : b = a ∧ j = k
  · obtain ⟨rfl, rfl⟩ := h; exact kv_us _ _ _ _
  · exact kv_un h
theorem th_crossed (σ τ : kx_St) (h : kr_R σ τ) : lt_crossed kr_R σ τ := by
  obtain ⟨n, kd, wd, hv, w, wt, dc, H, N, K⟩ := h.2.2.2.2.1
  have n6 := kn_n6 N
  have hmn := kn_mn N
  intro a0 a1
  unfold p6_crossed
  rcases kv_arg a0 201 with ⟨v, hv2, rfl⟩ | ho
  · have g2 : ¬ (200 : Int32) < nI v := by show ¬ nI 200 < nI v; rw [kv_ltN (by omega) (by omega)]; omega
    rcases kv_arg a1 10 with ⟨x, hx, rfl⟩ | hx
    · by_cases h0 : n = 0
      · subst h0
        have mm : p7_crossed τ (nI v) (nI x) (fun w q => q = -4 ∧ kr_R σ w) := s7_rng_in (N := 200) rfl hv2 (by decide) (kv_f (by decide) (s7_rng_in (N := 9) rfl hx (by decide) (kv_F (by decide) (kv_T hmn ⟨rfl, h⟩))))
        exact ⟨-4, kv_f (kv_ge (by omega)) (kv_f g2 (s6_isWind_in hx (kv_F (by decide) (s3_isEmpty (j := 0) (by decide) (kn_cn N) n6 (fun q => absurd q (by decide)) (fun _ => kv_f (by decide) ⟨rfl, mm⟩)))))⟩
      · have n0 : 0 < n := by omega
        have m0 : ¬ τ.1 0 3 = 0 := by rw [hmn]; exact fun q => h0 ((kv_inj (by omega) (by decide)).mp q)
        have M1 : nI n * nI n - 1 = nI (n * n - 0) - 1 := by rw [kv_mul]; rfl
        have R : ∀ Q : kx_St → Int32 → Prop, p7_crossed_L55 (n * n + 1) τ (nI v) (nI x) 0 (-9) (nI (n * n - 0) - 1) Q → p7_crossed τ (nI v) (nI x) Q := by
          intro Q q
          unfold p7_crossed
          refine s7_rng_in (N := 200) rfl hv2 (by decide) (kv_f (by decide) (s7_rng_in (N := 9) rfl hx (by decide) (kv_F (by decide) (kv_F m0 ⟨n * n + 1, ?_⟩))))
          rw [hmn, M1]
          exact q
        have C : ∀ Q : kx_St → Int32 → Prop, p6_crossed_L41 (n + 1) σ (nI v) (nI x) 0 0 0 Q → (nI v < 0 → Q σ (-1)) ∧ (¬ nI v < 0 → (200 < nI v → Q σ (-1)) ∧ (¬ 200 < nI v → p6_isWind (nI x) (fun r3 => (¬ r3 = 0 → p3_isEmpty σ 4 (fun r5 => (r5 = 0 → ∃ m41, p6_crossed_L41 m41 σ (nI v) (nI x) 0 0 0 Q) ∧ (¬ r5 = 0 → Q σ (-4)))) ∧ (r3 = 0 → Q σ (-1))))) := by
          intro Q q
          exact kv_f (kv_ge (by omega)) (kv_f g2 (s6_isWind_in hx (kv_F (by decide) (s3_isEmpty (j := 0) (by decide) (kn_cn N) n6 (fun _ => kv_t rfl ⟨n + 1, q⟩) (fun q => absurd q h0)))))
        rcases Nat.eq_zero_or_pos (kd_up (kd_g n (fun i => kn_L kd wd (H dc) i x) v) (n * n)) with z | z
        · refine ⟨-9, C (fun u r => r = -9 ∧ p7_crossed τ (nI v) (nI x) (fun w q => q = -9 ∧ kr_R u w)) (s6_crossed_O (Q := fun u r => r = -9 ∧ p7_crossed τ (nI v) (nI x) (fun w q => q = -9 ∧ kr_R u w)) N (by omega) hx (fun r => by omega) (fun _ => ⟨rfl, R _ ?_⟩) (n + 1) 0 (by omega) (by omega))⟩
          exact s7_crossed_L N (M := n * n) rfl n0 (by omega) hx (fun r => by omega) (fun _ => ⟨rfl, by rw [kx_self]; exact h⟩) (n * n + 1) 0 (by omega) (by omega)
        · refine ⟨nI (kd_up (kd_g n (fun i => kn_L kd wd (H dc) i x) v) (n * n)), C (fun u r => r = nI (kd_up (kd_g n (fun i => kn_L kd wd (H dc) i x) v) (n * n)) ∧ p7_crossed τ (nI v) (nI x) (fun w q => q = nI (kd_up (kd_g n (fun i => kn_L kd wd (H dc) i x) v) (n * n)) ∧ kr_R u w)) (s6_crossed_O (Q := fun u r => r = nI (kd_up (kd_g n (fun i => kn_L kd wd (H dc) i x) v) (n * n)) ∧ p7_crossed τ (nI v) (nI x) (fun w q => q = nI (kd_up (kd_g n (fun i => kn_L kd wd (H dc) i x) v) (n * n)) ∧ kr_R u w)) N (by omega) hx (fun _ => ⟨rfl, R _ ?_⟩) (fun r => by omega) (n + 1) 0 (by omega) (by omega))⟩
          exact s7_crossed_L N (M := n * n) rfl n0 (by omega) hx (fun _ => ⟨rfl, kr_tell h _⟩) (fun r => by omega) (n * n + 1) 0 (by omega) (by omega)
    · have mm : p7_crossed τ (nI v) a1 (fun w q => q = -1 ∧ kr_R σ w) := s7_rng_in (N := 200) rfl hv2 (by decide) (kv_f (by decide) (s7_rng_out (N := 9) rfl hx (kv_T rfl ⟨rfl, h⟩)))
      exact ⟨-1, kv_f (kv_ge (by omega)) (kv_f g2 (s6_isWind_out hx (kv_T rfl ⟨rfl, mm⟩)))⟩
  · have mm : p7_crossed τ a0 a1 (fun w q => q = -1 ∧ kr_R σ w) := s7_rng_out (N := 200) rfl ho (kv_t rfl ⟨rfl, h⟩)
    refine ⟨-1, fun _ => ⟨rfl, mm⟩, fun c => kv_t ?_ ⟨rfl, mm⟩⟩
    have c : ¬ a0.toInt < 0 := fun r => c (kv_lt.mpr r)
    rw [kv_lt]
    show (200 : Int) < _
    omega
end
