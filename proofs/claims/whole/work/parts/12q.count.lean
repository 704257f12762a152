section
variable {σ τ : kx_St} {n : Nat} {kd wd hv w : Nat → Nat} {wt dc : Nat} {H : Nat → Nat → Nat}
theorem ku_bits : ∀ s, s < 64 → ∀ i, i < 6 → (s.testBit i = true → nI (s % 2 ^ i) ||| ((1 : Int32) <<< (nI i &&& 31)) = nI (s % 2 ^ (i + 1))) ∧ (s.testBit i = false → nI (s % 2 ^ i) ||| 0 = nI (s % 2 ^ (i + 1))) := by decide +kernel
theorem kp_fn {v : Nat → Nat} (V : kp_v n v) : v 1 % 2 ^ n = v 1 ∧ v 2 % 2 ^ n = v 2 := by
  refine ⟨Nat.mod_eq_of_lt (Nat.lt_pow_two_of_testBit _ (fun i hi => ?_)), Nat.mod_eq_of_lt (Nat.lt_pow_two_of_testBit _ (fun i hi => ?_))⟩
  · rcases h : (v 1).testBit i with _ | _
    · rfl
    · have := V.1 i h; omega
  · rcases h : (v 2).testBit i with _ | _
    · rfl
    · have := V.1 i (V.2.1 i h); omega
theorem s1_wasFlown (N : kr_now σ τ n kd wd hv w wt dc H) {i : Nat} {Q : Int32 → Prop} (hi : i < n) (h1 : (H dc 1).testBit i = true → Q 1) (h0 : (H dc 1).testBit i = false → Q 0) : p1_wasFlown σ (30 + i) Q := by
  unfold p1_wasFlown
  rw [kn_paid N hi]
  refine ⟨(kn_K N hi).1, ?_⟩
  have n6 := kn_n6 N
  have := (kn_v N).2.2.2.1 i (by omega)
  rcases hb : (H dc 1).testBit i with _ | _
  · exact kv_t rfl (h0 hb)
  · refine kv_f ?_ (h1 hb)
    show ¬ nI (H dc (9 + i)) = -9
    rw [kv_eq, kv_n (by omega)]
    show ¬ _ = (-9 : Int)
    omega
theorem s3_flownSet (N : kr_now σ τ n kd wd hv w wt dc H) {Q : Int32 → Prop} (q : Q (nI (H dc 1))) : p3_flownSet σ 4 Q := by
  have n6 := kn_n6 N
  have V := kn_v N
  have L : ∀ f i, i ≤ n → n - i < f → p3_flownSet_L4 f σ 4 (nI (H dc 1 % 2 ^ i)) (nI i) Q := by
    intro f
    induction f with
    | zero => intro i h1 h2; omega
    | succ f ih =>
      intro i hi hf
      unfold p3_flownSet_L4
      rw [show σ.1 4 3 = nI n from kn_cn N]
      by_cases hin : i = n
      · subst hin
        refine kv_t (by rw [kv_leN (by omega) (by omega)]; omega) ?_
        rw [(kp_fn V).1]; exact q
      · obtain ⟨b1, b0⟩ := ku_bits (H dc 1) (kp_f64 V n6).1 i (by omega)
        have nx := ih (i + 1) (by omega) (by omega)
        rw [show nI i + 1 = nI (i + 1) from nI_1 i]
        refine kv_f (by rw [kv_leN (by omega) (by omega)]; omega) (s3_kite_in N (by omega) (kv_some ⟨(kn_K N (by omega)).1, s1_wasFlown N (by omega) (fun c => kv_f (by decide) ?_) (fun c => kv_t rfl ?_)⟩))
        · rw [b1 c]; exact nx
        · rw [b0 c]; exact nx
  refine ⟨(ky_par 0 (by decide)).1, n + 1, ?_⟩
  have := L (n + 1) 0 (by omega) (by omega)
  rw [show H dc 1 % 2 ^ 0 = 0 from Nat.mod_one _] at this
  exact this
theorem s3_liftedSet (N : kr_now σ τ n kd wd hv w wt dc H) {Q : Int32 → Prop} (q : Q (nI (H dc 2))) : p3_liftedSet σ 4 Q := by
  have n6 := kn_n6 N
  have V := kn_v N
  have L : ∀ f i, i ≤ n → n - i < f → p3_liftedSet_L4 f σ 4 (nI (H dc 2 % 2 ^ i)) (nI i) Q := by
    intro f
    induction f with
    | zero => intro i h1 h2; omega
    | succ f ih =>
      intro i hi hf
      unfold p3_liftedSet_L4
      rw [show σ.1 4 3 = nI n from kn_cn N]
      by_cases hin : i = n
      · subst hin
        refine kv_t (by rw [kv_leN (by omega) (by omega)]; omega) ?_
        rw [(kp_fn V).2]; exact q
      · obtain ⟨b1, b0⟩ := ku_bits (H dc 2) (kp_f64 V n6).2 i (by omega)
        have nx := ih (i + 1) (by omega) (by omega)
        rw [show nI i + 1 = nI (i + 1) from nI_1 i]
        refine kv_f (by rw [kv_leN (by omega) (by omega)]; omega) (s3_kite_in N (by omega) (kv_some ⟨(kn_K N (by omega)).1, ?_⟩))
        rw [kn_lftd N (by omega)]
        rcases hb : (H dc 2).testBit i with _ | _
        · rw [b0 hb]; exact kv_t (by decide) nx
        · rw [b1 hb]; exact kv_f (by decide) nx
  refine ⟨(ky_par 0 (by decide)).1, n + 1, ?_⟩
  have := L (n + 1) 0 (by omega) (by omega)
  rw [show H dc 2 % 2 ^ 0 = 0 from Nat.mod_one _] at this
  exact this
theorem ku_of3 {k : Nat} : ku_of k 3 ↔ (k = 3 ∨ k = 5) := by unfold ku_of; omega
def ku_nb (kd : Nat → Nat) : Nat → Nat
  | 0 => 0
  | m + 1 => ku_nb kd m + (if kd m = 3 ∨ kd m = 5 then 1 else 0)
theorem s3_boxes (N : kr_now σ τ n kd wd hv w wt dc H) {Q : Int32 → Prop} (q : Q (nI (ku_nb kd n))) : p3_boxes σ 4 Q := by
  have n6 := kn_n6 N
  have L : ∀ f i, i ≤ n → n - i < f → p3_boxes_L4 f σ 4 (nI (ku_nb kd i)) (nI i) Q := by
    intro f
    induction f with
    | zero => intro i h1 h2; omega
    | succ f ih =>
      intro i hi hf
      unfold p3_boxes_L4
      rw [show σ.1 4 3 = nI n from kn_cn N]
      by_cases hin : i = n
      · subst hin
        exact kv_t (by rw [kv_leN (by omega) (by omega)]; omega) q
      · have nx := ih (i + 1) (by omega) (by omega)
        rw [show nI i + 1 = nI (i + 1) from nI_1 i]
        refine kv_f (by rw [kv_leN (by omega) (by omega)]; omega) (s3_kite_in N (by omega) (kv_some ⟨(kn_K N (by omega)).1, s1_isOf (m := 3) (kn_K N (by omega)) (by decide) (fun c => kv_f (by decide) ?_) (fun c => kv_t rfl ?_)⟩))
        · rw [ku_nb, if_pos (ku_of3.mp c)] at nx
          rw [show nI (ku_nb kd i) + 1 = nI (ku_nb kd i + 1) from nI_1 _]; exact nx
        · rw [ku_nb, if_neg (fun r => c (ku_of3.mpr r))] at nx
          rw [show nI (ku_nb kd i) + 0 = nI (ku_nb kd i + 0) from kv_add _ 0]; exact nx
  exact ⟨(ky_par 0 (by decide)).1, n + 1, L (n + 1) 0 (by omega) (by omega)⟩
theorem s7_boxes (N : kr_now σ τ n kd wd hv w wt dc H) {Q : Int32 → Prop} (q : Q (nI (ku_nb kd n))) : p7_boxes τ Q := by
  have n6 := kn_n6 N
  have L : ∀ f i, i ≤ n → n - i < f → p7_boxes_L4 f τ (nI (ku_nb kd i)) (nI i) Q := by
    intro f
    induction f with
    | zero => intro i h1 h2; omega
    | succ f ih =>
      intro i hi hf
      unfold p7_boxes_L4
      rw [kn_mn N]
      by_cases hin : i = n
      · subst hin
        exact kv_t (by rw [kv_leN (by omega) (by omega)]; omega) q
      · have nx := ih (i + 1) (by omega) (by omega)
        rw [show nI i + 1 = nI (i + 1) from nI_1 i]
        refine kv_f (by rw [kv_leN (by omega) (by omega)]; omega) (s7_isOf (m := 3) (kn_M N (by omega)) (by decide) (by decide) (fun c => kv_f (by decide) ?_) (fun c => kv_t rfl ?_))
        · rw [ku_nb, if_pos (ku_of3.mp c)] at nx
          rw [show nI (ku_nb kd i) + 1 = nI (ku_nb kd i + 1) from nI_1 _]; exact nx
        · rw [ku_nb, if_neg (fun r => c (ku_of3.mpr r))] at nx
          rw [show nI (ku_nb kd i) + 0 = nI (ku_nb kd i + 0) from kv_add _ 0]; exact nx
  exact ⟨n + 1, L (n + 1) 0 (by omega) (by omega)⟩
def kp_ps (v : Nat → Nat) : Nat → Nat
  | 0 => 0
  | m + 1 => kp_ps v m + v (9 + m)
theorem s7_paidIn (N : kr_now σ τ n kd wd hv w wt dc H) {Q : Int32 → Prop} (q : Q (nI (kp_sum (H dc)))) : p7_paidIn τ 0 Q := by
  have e : ∀ j, j < 6 → τ.1 1 (10 + j) = nI (H dc (9 + j)) := fun j hj => by
    have := kn_mk N (k := 9 + j) (by omega)
    rwa [show 1 + (9 + j) = 10 + j by omega] at this
  have r : kp_ps (H dc) 6 = kp_sum (H dc) := by
    show 0 + H dc 9 + H dc 10 + H dc 11 + H dc 12 + H dc 13 + H dc 14 = H dc 9 + H dc 10 + H dc 11 + H dc 12 + H dc 13 + H dc 14
    omega
  have L : ∀ f m, m ≤ 6 → 6 - m < f → p7_paidIn_L4 f τ 0 (nI (kp_ps (H dc) m)) (nI m) Q := by
    intro f
    induction f with
    | zero => intro m h1 h2; omega
    | succ f ih =>
      intro m hm hf
      unfold p7_paidIn_L4
      by_cases h6 : m = 6
      · subst h6
        rw [r]
        exact kv_t (by decide) q
      · have nx := ih (m + 1) (by omega) (by omega)
        refine kv_f (by show ¬ nI 6 ≤ nI m; rw [kv_leN (by omega) (by omega)]; omega) ?_
        rw [show (0 : Int32) + 10 + nI m = nI (10 + m) from by rw [show (0 : Int32) + 10 = nI 10 from rfl, kv_add], kv_c (by omega), e m (by omega), kv_add, show nI m + 1 = nI (m + 1) from nI_1 m]
        exact ⟨kv_in (by omega) (by decide), nx⟩
  exact ⟨7, L 7 0 (by omega) (by omega)⟩
end
