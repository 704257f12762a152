section
variable {σ τ : kx_St} {n : Nat} {kd wd hv w : Nat → Nat} {wt dc : Nat} {H : Nat → Nat → Nat}
def kd_g (n : Nat) (L : Nat → Nat) (v : Nat) (x : Nat) : Bool := decide (x / n < x % n ∧ ku_cr (L (x / n)) (L (x % n)) = v)
def kd_c (n : Nat) (x : Nat) : Nat := 10 * (x / n) + x % n
theorem kd_dm {n i j : Nat} (h : j < n) : (n * i + j) / n = i ∧ (n * i + j) % n = j := by
  constructor
  · rw [Nat.mul_add_div (by omega), Nat.div_eq_of_lt h]; rfl
  · rw [Nat.mul_add_mod, Nat.mod_eq_of_lt h]
theorem kd_skip {n v : Nat} {L : Nat → Nat} (i : Nat) : ∀ j, j ≤ i + 1 → j ≤ n → kd_up (kd_g n L v) (n * i + j) = kd_up (kd_g n L v) (n * i) ∧ kd_fu (kd_g n L v) (kd_c n) (n * i + j) = kd_fu (kd_g n L v) (kd_c n) (n * i) := by
  intro j
  induction j with
  | zero => intro _ _; exact ⟨rfl, rfl⟩
  | succ j ih =>
    intro h1 h2
    obtain ⟨a, b⟩ := ih (by omega) (by omega)
    obtain ⟨d1, d2⟩ := kd_dm (n := n) (i := i) (j := j) (by omega)
    have g : kd_g n L v (n * i + j) = false := decide_eq_false (fun r => by rw [d1, d2] at r; omega)
    refine ⟨?_, ?_⟩
    · rw [show n * i + (j + 1) = n * i + j + 1 from rfl, kd_up, g]; exact a
    · rw [show n * i + (j + 1) = n * i + j + 1 from rfl, kd_fu, if_neg (fun r => by rw [g] at r; cases r.2)]; exact b
theorem s6_crossed_I (N : kr_now σ τ n kd wd hv w wt dc H) {v x i : Nat} {Q : kx_St → Int32 → Prop} {k41 : kx_St → Int32 → Int32 → Int32 → Int32 → Int32 → Prop} (hv2 : v ≤ 200) (hx : x < 10) (hi : i < n) (q : k41 σ (nI v) (nI x) (nI (kd_up (kd_g n (fun i => kn_L kd wd (H dc) i x) v) (n * (i + 1)))) (nI (kd_fu (kd_g n (fun i => kn_L kd wd (H dc) i x) v) (kd_c n) (n * (i + 1)))) (nI (i + 1))) : ∀ f j, i < j → j ≤ n → n - j < f → p6_crossed_L59 f σ (nI v) (nI x) (nI (kd_up (kd_g n (fun i => kn_L kd wd (H dc) i x) v) (n * i + j))) (nI (kd_fu (kd_g n (fun i => kn_L kd wd (H dc) i x) v) (kd_c n) (n * i + j))) (nI i) (nI j) k41 Q := by
  have n6 := kn_n6 N
  intro f
  induction f with
  | zero => intro j h1 h2 h3; omega
  | succ f ih =>
    intro j h1 h2 h3
    unfold p6_crossed_L59
    rw [show σ.1 4 3 = nI n from kn_cn N]
    by_cases hj : j = n
    · subst hj
      rw [show j * i + j = j * (i + 1) from rfl, show nI i + 1 = nI (i + 1) from nI_1 _]
      exact kv_t (by rw [kv_leN (by omega) (by omega)]; omega) q
    · have nx := ih (j + 1) (by omega) (by omega) (by omega)
      obtain ⟨d1, d2⟩ := kd_dm (n := n) (i := i) (j := j) (by omega)
      have b0 := kd_up_le (kd_g n (fun i => kn_L kd wd (H dc) i x) v) (n * i + j)
      have b1 : n * i ≤ 36 := Nat.le_trans (Nat.mul_le_mul n6 (show i ≤ 6 by omega)) (by decide)
      have l1 := kn_L_le N hi hx
      have l2 := kn_L_le N (i := j) (by omega) hx
      have cb : ku_cr (kn_L kd wd (H dc) i x) (kn_L kd wd (H dc) j x) ≤ 105 := by unfold ku_cr; split <;> (try split) <;> omega
      rw [show n * i + (j + 1) = n * i + j + 1 from rfl, kd_up, kd_fu] at nx
      rw [show nI j + 1 = nI (j + 1) from nI_1 _]
      refine kv_f (by rw [kv_leN (by omega) (by omega)]; omega) (s3_crossLift N hi (by omega) hx ⟨fun z => ?_, fun z => ?_⟩)
      · have g : kd_g n (fun i => kn_L kd wd (H dc) i x) v (n * i + j) = false := decide_eq_false (fun r => z (by rw [d1, d2] at r; rw [r.2]))
        rw [g, if_neg (by decide), if_neg (fun r => by cases r.2)] at nx
        exact nx
      · have z := (kv_inj (by omega) (by omega)).mp z
        have g : kd_g n (fun i => kn_L kd wd (H dc) i x) v (n * i + j) = true := decide_eq_true (by rw [d1, d2]; exact ⟨h1, z⟩)
        rw [g, if_pos rfl] at nx
        rw [show ∀ y : Nat, nI y + 1 = nI (y + 1) from fun y => nI_1 y]
        refine ⟨fun y => ?_, fun y => ?_⟩
        · have y : ¬ kd_up (kd_g n (fun i => kn_L kd wd (H dc) i x) v) (n * i + j) = 0 := fun r => y (by rw [r]; rfl)
          rw [if_neg (fun r => y r.1)] at nx
          exact nx
        · have y := (kv_inj (b := 0) (by omega) (by decide)).mp y
          rw [if_pos ⟨y, rfl⟩, kd_c, d1, d2] at nx
          rw [show (10 : Int32) * nI i + nI j = nI (10 * i + j) from by rw [show (10 : Int32) = nI 10 from rfl, kv_mul, kv_add]]
          exact nx
theorem s6_crossed_O (N : kr_now σ τ n kd wd hv w wt dc H) {v x : Nat} {Q : kx_St → Int32 → Prop} (hv2 : v ≤ 200) (hx : x < 10) (q1 : 0 < kd_up (kd_g n (fun i => kn_L kd wd (H dc) i x) v) (n * n) → Q (kx_sI σ 0 10 (nI (kd_fu (kd_g n (fun i => kn_L kd wd (H dc) i x) v) (kd_c n) (n * n)))) (nI (kd_up (kd_g n (fun i => kn_L kd wd (H dc) i x) v) (n * n)))) (q0 : kd_up (kd_g n (fun i => kn_L kd wd (H dc) i x) v) (n * n) = 0 → Q σ (-9)) : ∀ f i, i ≤ n → n - i < f → p6_crossed_L41 f σ (nI v) (nI x) (nI (kd_up (kd_g n (fun i => kn_L kd wd (H dc) i x) v) (n * i))) (nI (kd_fu (kd_g n (fun i => kn_L kd wd (H dc) i x) v) (kd_c n) (n * i))) (nI i) Q := by
  have n6 := kn_n6 N
  intro f
  induction f with
  | zero => intro i h1 h2; omega
  | succ f ih =>
    intro i h1 h2
    unfold p6_crossed_L41
    rw [show σ.1 4 3 = nI n from kn_cn N]
    by_cases hi : i = n
    · subst hi
      have b0 := kd_up_le (kd_g i (fun y => kn_L kd wd (H dc) y x) v) (i * i)
      have b1 : i * i ≤ 36 := Nat.le_trans (Nat.mul_le_mul n6 n6) (by decide)
      refine kv_t (by rw [kv_leN (by omega) (by omega)]; omega) ⟨fun z => q1 ?_, fun z => q0 ((kv_inj (b := 0) (by omega) (by decide)).mp z)⟩
      rcases Nat.eq_zero_or_pos (kd_up (kd_g i (fun y => kn_L kd wd (H dc) y x) v) (i * i)) with e | e
      · exact absurd (by rw [e]; rfl) z
      · exact e
    · refine kv_f (by rw [kv_leN (by omega) (by omega)]; omega) ⟨n + 1, ?_⟩
      have nx := ih (i + 1) (by omega) (by omega)
      obtain ⟨s1, s2⟩ := kd_skip (n := n) (v := v) (L := fun i => kn_L kd wd (H dc) i x) i (i + 1) (by omega) (by omega)
      have := s6_crossed_I N (Q := Q) (k41 := fun σ x1 x2 x3 x4 x5 => p6_crossed_L41 f σ x1 x2 x3 x4 x5 Q) hv2 hx (show i < n by omega) nx (n + 1) (i + 1) (by omega) (by omega) (by omega)
      rw [s1, s2] at this
      rw [show nI i + 1 = nI (i + 1) from nI_1 _]
      exact this
end
