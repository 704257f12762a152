section
variable {σ τ : kx_St} {n : Nat} {kd wd hv w : Nat → Nat} {wt dc : Nat} {H : Nat → Nat → Nat}
def ku_nt (g : Nat → Bool) : Nat → Nat
  | 0 => 0
  | m + 1 => ku_nt g m + (if g m = true then 1 else 0)
theorem s6_thoseThere {x0 M base : Nat} {g : Nat → Bool} {Q : Int32 → Prop} (hk : kx_k 0 x0 = 11) (hl : kx_l 0 x0 = M) (hr : ∀ i, i < M → kx_r 0 x0 i = base + i) (hM : M ≤ 6) (hg : ∀ i, i < M → ∀ Q : Int32 → Prop, (g i = true → Q 1) → (g i = false → Q 0) → p5_isThere σ (base + i) Q) (q : Q (nI (ku_nt g M))) : p6_thoseThere σ x0 Q := by
  have L : ∀ f m, m ≤ M → M - m < f → p6_thoseThere_L4 f σ x0 (nI (ku_nt g m)) (nI m) Q := by
    intro f
    induction f with
    | zero => intro m h1 h2; omega
    | succ f ih =>
      intro m hm hf
      unfold p6_thoseThere_L4
      rw [hl]
      by_cases h6 : m = M
      · subst h6
        exact kv_t (by show nI m ≤ nI m; rw [kv_leN (by omega) (by omega)]; omega) q
      · have nx := ih (m + 1) (by omega) (by omega)
        refine kv_f (by show ¬ nI M ≤ nI m; rw [kv_leN (by omega) (by omega)]; omega) ⟨kv_in (by omega) (by omega), ?_⟩
        rw [kv_c (by omega), hr m (by omega), show nI m + 1 = nI (m + 1) from nI_1 m]
        refine hg m (by omega) _ (fun c => kv_f (by decide) ?_) (fun c => kv_t rfl ?_)
        · rw [ku_nt, if_pos c] at nx
          rw [show nI (ku_nt g m) + 1 = nI (ku_nt g m + 1) from nI_1 _]; exact nx
        · rw [ku_nt, if_neg (by rw [c]; decide)] at nx
          exact nx
  exact ⟨hk, M + 1, L (M + 1) 0 (by omega) (by omega)⟩
theorem s6_keptParishes {g : Nat → Bool} {Q : Int32 → Prop} (hg : ∀ i, i < 3 → ∀ Q : Int32 → Prop, (g i = true → Q 0) → (g i = false → Q 1) → p3_isEmpty σ (4 + (2 + i)) Q) (q : Q (nI (ku_nt g 3))) : p6_keptParishes σ Q := by
  have L : ∀ f m, m ≤ 3 → 3 - m < f → p6_keptParishes_L4 f σ (nI (ku_nt g m)) (nI m) Q := by
    intro f
    induction f with
    | zero => intro m h1 h2; omega
    | succ f ih =>
      intro m hm hf
      unfold p6_keptParishes_L4
      by_cases h6 : m = 3
      · subst h6
        exact kv_t (by decide) q
      · have nx := ih (m + 1) (by omega) (by omega)
        refine kv_f (by show ¬ nI 3 ≤ nI m; rw [kv_leN (by omega) (by omega)]; omega) ⟨kv_in (by omega) (by decide), ?_⟩
        rw [kv_c (by omega), ky_kept m (by omega), show nI m + 1 = nI (m + 1) from nI_1 m]
        refine hg m (by omega) _ (fun c => kv_T rfl ?_) (fun c => kv_F (by decide) ?_)
        · rw [ku_nt, if_pos c] at nx
          rw [show nI (ku_nt g m) + 1 = nI (ku_nt g m + 1) from nI_1 _]; exact nx
        · rw [ku_nt, if_neg (by rw [c]; decide)] at nx
          exact nx
  exact ⟨4, L 4 0 (by omega) (by omega)⟩
theorem s7_thereOf {x : Int32} {g : Nat → Bool} {Q : Int32 → Prop} (st : ∀ m, m < 6 → ∀ A B : Prop, (g m = true → A) → (g m = false → B) → (¬ x = 8 → (¬ x = 9 → (3 ≤ nI m → B) ∧ (¬ 3 ≤ nI m → vp_in ((616 * (1 + nI m)) + 0) 2480 ∧ ((τ.1 1 ((616 * (1 + nI m)) + 0).toNatClampNeg < 0 → B) ∧ (¬ τ.1 1 ((616 * (1 + nI m)) + 0).toNatClampNeg < 0 → A)))) ∧ (x = 9 → (4 ≤ nI m → B) ∧ (¬ 4 ≤ nI m → vp_in (nI m) 4 ∧ ((τ.1 8 (nI m).toNatClampNeg < 0 → B) ∧ (¬ τ.1 8 (nI m).toNatClampNeg < 0 → A))))) ∧ (x = 8 → vp_in (nI m) 6 ∧ ((0 ≤ τ.1 6 (nI m).toNatClampNeg → A) ∧ (¬ 0 ≤ τ.1 6 (nI m).toNatClampNeg → B)))) (q : Q (nI (ku_nt g 6))) : p7_thereOf τ x Q := by
  have L : ∀ f m, m ≤ 6 → 6 - m < f → p7_thereOf_L4 f τ x (nI (ku_nt g m)) (nI m) Q := by
    intro f
    induction f with
    | zero => intro m h1 h2; omega
    | succ f ih =>
      intro m hm hf
      unfold p7_thereOf_L4
      by_cases h6 : m = 6
      · subst h6
        exact kv_t (by decide) q
      · have nx := ih (m + 1) (by omega) (by omega)
        refine kv_f (by show ¬ nI 6 ≤ nI m; rw [kv_leN (by omega) (by omega)]; omega) ?_
        rw [show nI m + 1 = nI (m + 1) from nI_1 m]
        refine st m (by omega) _ _ (fun c => ?_) (fun c => ?_)
        · rw [ku_nt, if_pos c] at nx
          rw [show nI (ku_nt g m) + 1 = nI (ku_nt g m + 1) from nI_1 _]; exact nx
        · rw [ku_nt, if_neg (by rw [c]; decide)] at nx
          rw [show nI (ku_nt g m) + 0 = nI (ku_nt g m + 0) from kv_add _ 0]; exact nx
  exact ⟨7, L 7 0 (by omega) (by omega)⟩
theorem kv_dt {p : Prop} [Decidable p] (h : decide p = true) : p := of_decide_eq_true h
theorem kv_df {p : Prop} [Decidable p] (h : decide p = false) : ¬ p := of_decide_eq_false h
def kg_row (σ : kx_St) (r : Nat) : Bool := decide (r < 6 ∧ 0 ≤ σ.1 (60 + r) 1)
def kg_txt (σ : kx_St) (r : Nat) : Bool := decide (r < 4 ∧ 0 ≤ σ.1 (66 + r) 1)
def kg_kep (σ : kx_St) (r : Nat) : Bool := decide (r < 3 ∧ ¬ σ.1 (6 + r) 3 = 0)
theorem ky_rows : kx_k 0 1 = 11 ∧ kx_l 0 1 = 6 ∧ kx_k 0 2 = 11 ∧ kx_l 0 2 = 4 ∧ (∀ i, i < 6 → kx_r 0 1 i = 60 + i) ∧ ∀ i, i < 4 → kx_r 0 2 i = 66 + i := by decide +kernel
theorem s6_rows (h : kr_R σ τ) {Q : Int32 → Prop} (q : Q (nI (ku_nt (kg_row σ) 6))) : p6_thoseThere σ 1 Q := by
  refine s6_thoseThere (M := 6) (base := 60) ky_rows.1 ky_rows.2.1 ky_rows.2.2.2.2.1 (by decide) (fun i hi Q h1 h0 => ?_) q
  rcases (h.1 i hi).2 with e | ⟨m, hm, e, _⟩
  · exact s5_isThere_no (ku_row hi) e (h0 (by unfold kg_row; rw [e]; exact decide_eq_false (fun r => absurd r.2 (by decide))))
  · exact s5_isThere_yes (ku_row hi) e hm (h1 (by unfold kg_row; rw [e]; exact decide_eq_true ⟨hi, kv_ge0 (by omega)⟩))
theorem s6_txts (h : kr_R σ τ) {Q : Int32 → Prop} (q : Q (nI (ku_nt (kg_txt σ) 4))) : p6_thoseThere σ 2 Q := by
  refine s6_thoseThere (M := 4) (base := 66) ky_rows.2.2.1 ky_rows.2.2.2.1 ky_rows.2.2.2.2.2 (by decide) (fun i hi Q h1 h0 => ?_) q
  rcases (h.2.1 i hi).2 with e | ⟨m, hm, e, _⟩
  · exact s5_isThere_no (ku_txt hi) e (h0 (by unfold kg_txt; rw [e]; exact decide_eq_false (fun r => absurd r.2 (by decide))))
  · exact s5_isThere_yes (ku_txt hi) e hm (h1 (by unfold kg_txt; rw [e]; exact decide_eq_true ⟨hi, kv_ge0 (by omega)⟩))
theorem s6_kept (N : kr_now σ τ n kd wd hv w wt dc H) (K : kr_kep σ τ n kd wd hv w wt) {Q : Int32 → Prop} (q : Q (nI (ku_nt (kg_kep σ) 3))) : p6_keptParishes σ Q := by
  have n6 := kn_n6 N
  refine s6_keptParishes (fun i hi Q h1 h0 => ?_) q
  rcases K i hi with ⟨a, b⟩ | ⟨a, b, _⟩
  · exact s3_isEmpty (n := 0) (j := 2 + i) (by omega) (by rw [show 4 + (2 + i) = 6 + i by omega]; exact a) (by omega) (fun r => absurd r (by decide)) (fun _ => h0 (by unfold kg_kep; exact decide_eq_false (fun r => r.2 a)))
  · have e := b.1
    have ne : ¬ σ.1 (6 + i) 3 = 0 := by
      intro r
      rw [show 4 + (2 + i) = 6 + i by omega, r] at e
      have := (kv_inj (a := 0) (by decide) (by omega)).mp e
      omega
    exact s3_isEmpty (n := n) (j := 2 + i) (by omega) b.1 n6 (fun _ => h1 (by unfold kg_kep; exact decide_eq_true ⟨hi, ne⟩)) (fun r => by omega)
theorem s7_rows (h : kr_R σ τ) {Q : Int32 → Prop} (q : Q (nI (ku_nt (kg_row σ) 6))) : p7_thereOf τ 8 Q := by
  refine s7_thereOf (g := kg_row σ) (fun m hm A B hA hB => ⟨fun r => absurd rfl r, fun _ => ⟨kv_in hm (by decide), ?_⟩⟩) q
  rw [kv_c (by omega), (h.1 m hm).1]
  exact ⟨fun c => hA (decide_eq_true ⟨hm, c⟩), fun c => hB (decide_eq_false (fun r => c r.2))⟩
theorem s7_txts (h : kr_R σ τ) {Q : Int32 → Prop} (q : Q (nI (ku_nt (kg_txt σ) 4))) : p7_thereOf τ 9 Q := by
  have g4 : kg_txt σ 4 = false := decide_eq_false (fun r => absurd r.1 (by decide))
  have g5 : kg_txt σ 5 = false := decide_eq_false (fun r => absurd r.1 (by decide))
  have e : ku_nt (kg_txt σ) 6 = ku_nt (kg_txt σ) 4 := by
    show ku_nt (kg_txt σ) 4 + (if kg_txt σ 4 = true then 1 else 0) + (if kg_txt σ 5 = true then 1 else 0) = _
    rw [g4, g5]; rfl
  refine s7_thereOf (g := kg_txt σ) (fun m hm A B hA hB => ⟨fun _ => ⟨fun r => absurd rfl r, fun _ => ?_⟩, fun r => absurd r (by decide)⟩) (by rw [e]; exact q)
  by_cases h4 : m < 4
  · refine kv_f (by show ¬ nI 4 ≤ nI m; rw [kv_leN (by omega) (by omega)]; omega) ⟨kv_in h4 (by decide), ?_⟩
    rw [kv_c (by omega), (h.2.1 m h4).1]
    refine ⟨fun c => hB (decide_eq_false (fun r => ?_)), fun c => hA (decide_eq_true ⟨h4, ?_⟩)⟩
    · have r := kv_le.mp r.2
      have c := kv_lt.mp c
      omega
    · rw [kv_le]
      have c : ¬ (σ.1 (66 + m) 1).toInt < (0 : Int32).toInt := fun r => c (kv_lt.mpr r)
      omega
  · exact kv_t (by show nI 4 ≤ nI m; rw [kv_leN (by omega) (by omega)]; omega) (hB (decide_eq_false (fun r => h4 r.1)))
theorem s7_kept (N : kr_now σ τ n kd wd hv w wt dc H) (K : kr_kep σ τ n kd wd hv w wt) {Q : Int32 → Prop} (q : Q (nI (ku_nt (kg_kep σ) 3))) : p7_thereOf τ 10 Q := by
  have n6 := kn_n6 N
  have g3 : kg_kep σ 3 = false := decide_eq_false (fun r => absurd r.1 (by decide))
  have g4 : kg_kep σ 4 = false := decide_eq_false (fun r => absurd r.1 (by decide))
  have g5 : kg_kep σ 5 = false := decide_eq_false (fun r => absurd r.1 (by decide))
  have e : ku_nt (kg_kep σ) 6 = ku_nt (kg_kep σ) 3 := by
    show ku_nt (kg_kep σ) 3 + (if kg_kep σ 3 = true then 1 else 0) + (if kg_kep σ 4 = true then 1 else 0) + (if kg_kep σ 5 = true then 1 else 0) = _
    rw [g3, g4, g5]; rfl
  refine s7_thereOf (g := kg_kep σ) (fun m hm A B hA hB => ⟨fun _ => ⟨fun _ => ?_, fun r => absurd r (by decide)⟩, fun r => absurd r (by decide)⟩) (by rw [e]; exact q)
  by_cases h4 : m < 3
  · have z : (616 : Int32) * (1 + nI m) + 0 = nI (616 * (m + 1)) := by rw [kv_616]; exact kv_add _ 0
    refine kv_f (by show ¬ nI 3 ≤ nI m; rw [kv_leN (by omega) (by omega)]; omega) ?_
    rw [z, kv_c (by omega)]
    refine ⟨kv_in (by omega) (by decide), ?_⟩
    rcases K m h4 with ⟨a, b⟩ | ⟨a, b, dc', H', c⟩
    · rw [b]
      exact kv_t (by decide) (hB (decide_eq_false (fun r => r.2 a)))
    · have d40 : dc' ≤ 40 := c.1
      rw [c.2.2.1.1]
      refine kv_f (kv_ge (by omega)) (hA (decide_eq_true ⟨h4, fun r => ?_⟩))
      have e := b.1
      rw [show 4 + (2 + m) = 6 + m by omega, r] at e
      have := (kv_inj (a := 0) (by decide) (by omega)).mp e
      omega
  · exact kv_t (by show nI 3 ≤ nI m; rw [kv_leN (by omega) (by omega)]; omega) (hB (decide_eq_false (fun r => h4 r.1)))
theorem th_count (σ τ : kx_St) (h : kr_R σ τ) : lt_count kr_R σ τ := by
  obtain ⟨n, kd, wd, hv, w, wt, dc, H, N, K⟩ := h.2.2.2.2.1
  intro a0
  have eh0 : τ.1 1 1 = nI (H dc 0) := kn_mh N
  have eh : τ.1 1 (1 : Int32).toNatClampNeg = nI (H dc 0 + 0) := eh0
  unfold p6_count p7_count p7_countOf
  rcases kv_arg a0 12 with ⟨m, hm, rfl⟩ | ho
  · rcases (show m = 0 ∨ m = 1 ∨ m = 2 ∨ m = 3 ∨ m = 4 ∨ m = 5 ∨ m = 6 ∨ m = 7 ∨ m = 8 ∨ m = 9 ∨ m = 10 ∨ m = 11 by omega) with rfl | rfl | rfl | rfl | rfl | rfl | rfl | rfl | rfl | rfl | rfl | rfl
    · exact ⟨_, kv_t (by decide) (⟨kn_cn N, s7_rng_in (N := 11) rfl (k := 0) (by decide) (by decide) (kv_f (by decide) (kv_t (by decide) (⟨kn_mn N, h⟩)))⟩)⟩
    · exact ⟨_, kv_f (by decide) (kv_t (by decide) (⟨kn_ch N, s7_rng_in (N := 11) rfl (k := 1) (by decide) (by decide) (kv_f (by decide) (kv_f (by decide) (kv_t (by decide) (⟨kn_mh N, h⟩))))⟩))⟩
    · exact ⟨_, kv_f (by decide) (kv_f (by decide) (kv_t (by decide) (⟨kn_cd N, s7_rng_in (N := 11) rfl (k := 2) (by decide) (by decide) (kv_f (by decide) (kv_f (by decide) (kv_f (by decide) (kv_t (by decide) (⟨kn_md N, h⟩)))))⟩)))⟩
    · exact ⟨_, kv_f (by decide) (kv_f (by decide) (kv_f (by decide) (kv_t (by decide) (kn_cwind N (a := 0) (by decide) ⟨rfl, s7_rng_in (N := 11) rfl (k := 3) (by decide) (by decide) (kv_f (by decide) (kv_f (by decide) (kv_f (by decide) (kv_f (by decide) (kv_t (by decide) ((by rw [eh]; exact kn_mwind N rfl (by decide) ⟨rfl, h⟩)))))))⟩))))⟩
    · exact ⟨_, kv_f (by decide) (kv_f (by decide) (kv_f (by decide) (kv_f (by decide) (kv_t (by decide) (s3_flownSet N ⟨rfl, s7_rng_in (N := 11) rfl (k := 4) (by decide) (by decide) (kv_f (by decide) (kv_f (by decide) (kv_f (by decide) (kv_f (by decide) (kv_f (by decide) (kv_t (by decide) (⟨kn_mk N (k := 1) (by decide), h⟩)))))))⟩)))))⟩
    · exact ⟨_, kv_f (by decide) (kv_f (by decide) (kv_f (by decide) (kv_f (by decide) (kv_f (by decide) (kv_t (by decide) (s3_liftedSet N ⟨rfl, s7_rng_in (N := 11) rfl (k := 5) (by decide) (by decide) (kv_f (by decide) (kv_f (by decide) (kv_f (by decide) (kv_f (by decide) (kv_f (by decide) (kv_f (by decide) (kv_t (by decide) (⟨kn_mk N (k := 2) (by decide), h⟩))))))))⟩))))))⟩
    · exact ⟨_, kv_f (by decide) (kv_f (by decide) (kv_f (by decide) (kv_f (by decide) (kv_f (by decide) (kv_f (by decide) (kv_t (by decide) (⟨N.2.2.2.2.1.2.2.1, s7_rng_in (N := 11) rfl (k := 6) (by decide) (by decide) (kv_f (by decide) (kv_f (by decide) (kv_f (by decide) (kv_f (by decide) (kv_f (by decide) (kv_f (by decide) (kv_f (by decide) (kv_t (by decide) (s7_paidIn N ⟨rfl, h⟩)))))))))⟩)))))))⟩
    · exact ⟨_, kv_f (by decide) (kv_f (by decide) (kv_f (by decide) (kv_f (by decide) (kv_f (by decide) (kv_f (by decide) (kv_f (by decide) (kv_t (by decide) (⟨N.2.1.2.1, s7_rng_in (N := 11) rfl (k := 7) (by decide) (by decide) (kv_f (by decide) (kv_f (by decide) (kv_f (by decide) (kv_f (by decide) (kv_f (by decide) (kv_f (by decide) (kv_f (by decide) (kv_f (by decide) (kv_t (by decide) (⟨N.2.2.1.2.1, h⟩))))))))))⟩))))))))⟩
    · exact ⟨_, kv_f (by decide) (kv_f (by decide) (kv_f (by decide) (kv_f (by decide) (kv_f (by decide) (kv_f (by decide) (kv_f (by decide) (kv_f (by decide) (kv_t (by decide) (s6_rows h ⟨rfl, s7_rng_in (N := 11) rfl (k := 8) (by decide) (by decide) (kv_f (by decide) (kv_f (by decide) (kv_f (by decide) (kv_f (by decide) (kv_f (by decide) (kv_f (by decide) (kv_f (by decide) (kv_f (by decide) (kv_f (by decide) (kv_f (by decide) (s7_rows h ⟨rfl, h⟩)))))))))))⟩)))))))))⟩
    · exact ⟨_, kv_f (by decide) (kv_f (by decide) (kv_f (by decide) (kv_f (by decide) (kv_f (by decide) (kv_f (by decide) (kv_f (by decide) (kv_f (by decide) (kv_f (by decide) (kv_t (by decide) (s6_txts h ⟨rfl, s7_rng_in (N := 11) rfl (k := 9) (by decide) (by decide) (kv_f (by decide) (kv_f (by decide) (kv_f (by decide) (kv_f (by decide) (kv_f (by decide) (kv_f (by decide) (kv_f (by decide) (kv_f (by decide) (kv_f (by decide) (kv_f (by decide) (s7_txts h ⟨rfl, h⟩)))))))))))⟩))))))))))⟩
    · exact ⟨_, kv_f (by decide) (kv_f (by decide) (kv_f (by decide) (kv_f (by decide) (kv_f (by decide) (kv_f (by decide) (kv_f (by decide) (kv_f (by decide) (kv_f (by decide) (kv_f (by decide) (kv_t (by decide) (s6_kept N K ⟨rfl, s7_rng_in (N := 11) rfl (k := 10) (by decide) (by decide) (kv_f (by decide) (kv_f (by decide) (kv_f (by decide) (kv_f (by decide) (kv_f (by decide) (kv_f (by decide) (kv_f (by decide) (kv_f (by decide) (kv_f (by decide) (kv_f (by decide) (s7_kept N K ⟨rfl, h⟩)))))))))))⟩)))))))))))⟩
    · exact ⟨_, kv_f (by decide) (kv_f (by decide) (kv_f (by decide) (kv_f (by decide) (kv_f (by decide) (kv_f (by decide) (kv_f (by decide) (kv_f (by decide) (kv_f (by decide) (kv_f (by decide) (kv_f (by decide) (kv_t (by decide) (s3_boxes N ⟨rfl, s7_rng_in (N := 11) rfl (k := 11) (by decide) (by decide) (kv_f (by decide) (kv_f (by decide) (kv_f (by decide) (kv_f (by decide) (kv_f (by decide) (kv_f (by decide) (kv_f (by decide) (kv_f (by decide) (kv_f (by decide) (kv_t (by decide) (s7_boxes N ⟨rfl, h⟩)))))))))))⟩))))))))))))⟩
  · have ne : ∀ j, j < 12 → ¬ a0 = nI j := by
      intro j hj e
      rw [e, kv_n (by omega)] at ho
      omega
    exact ⟨-1, kv_f (ne 0 (by decide)) (kv_f (ne 1 (by decide)) (kv_f (ne 2 (by decide)) (kv_f (ne 3 (by decide)) (kv_f (ne 4 (by decide)) (kv_f (ne 5 (by decide)) (kv_f (ne 6 (by decide)) (kv_f (ne 7 (by decide)) (kv_f (ne 8 (by decide)) (kv_f (ne 9 (by decide)) (kv_f (ne 10 (by decide)) (kv_f (ne 11 (by decide)) (⟨rfl, s7_rng_out (N := 11) rfl ho (kv_t rfl ⟨rfl, h⟩)⟩))))))))))))⟩
end
