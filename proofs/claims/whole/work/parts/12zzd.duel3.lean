section
variable {σ τ t : kx_St} {n : Nat} {kd wd hv w : Nat → Nat} {wt dc : Nat} {H : Nat → Nat → Nat}
def kd_out (n : Nat) (kd wd hv w v : Nat → Nat) (tn u : Nat) (i : Nat) : Bool := kb_fb true kd wd hv w v tn i || u.testBit i
def kd_fS (n : Nat) (kd wd hv w v : Nat → Nat) (d tn u s : Nat) (i : Nat) : Nat := s + (kb_g kd wd hv w v tn i + kb_W true n kd wd hv w v d (tn + 1) (u ||| 2 ^ i))
def kd_O (τ : kx_St) (n : Nat) (kd wd hv w v : Nat → Nat) (NT d tn u : Nat) (Q : kx_St → Int32 → Prop) (i u' c : Nat) : Prop := ∀ (F s : Nat) (t0 t : kx_St) (x3 : Int32) (o : Option Nat) (pay : Nat), s ≤ 51 * tn → pay ≤ 51 → (∀ a, o = some a → a < 99999) → kd_S τ t0 t tn i u s o → (∀ t' z3, kd_S τ t0 t' tn (i + 1) u s (some (kd_op (kb_lI true tn) o (s + pay + kb_W true n kd wd hv w v d (tn + 1) u'))) → p7_duel_L56 F t' (nI NT) (nI tn) z3 Q) → p7_duel_J211 t (nI NT) (nI tn) x3 (nI i) (nI s) (nI pay) (fun σ x1 x2 x3 => p7_duel_L56 (F + c) σ x1 x2 x3 Q) Q
theorem s7_turn_I (N : kr_now σ τ n kd wd hv w wt dc H) {NT d tn u : Nat} {Q : kx_St → Int32 → Prop} (hNT : NT ≤ 6) (ht : tn + (d + 1) = NT) (hu : u < 2 ^ n) (O : ∀ i u', (i < n ∧ u' = u ||| 2 ^ i) ∨ (i = n ∧ u' = u) → ∃ c, kd_O τ n kd wd hv w (H dc) NT d tn u Q i u' c) : ∀ e i, i + e = n → ∃ c, ∀ (F s : Nat) (t0 t : kx_St) (x3 : Int32), s ≤ 51 * tn → kd_S τ t0 t tn i u s (kd_f (kb_lI true tn) (kd_out n kd wd hv w (H dc) tn u) (kd_fS n kd wd hv w (H dc) d tn u s) i) → (∀ t' z3, kd_S τ t0 t' tn (n + 1) u s (some (s + kb_W true n kd wd hv w (H dc) (d + 1) tn u)) → p7_duel_L56 F t' (nI NT) (nI tn) z3 Q) → p7_duel_L56 (F + c + 1) t (nI NT) (nI tn) x3 Q := by
  have n6 := kn_n6 N
  have p64 := (ko_126 n6).2.1
  have mn : τ.1 0 3 = nI n := kn_mn N
  have v7 : vp_in (nI tn) 7 := kv_in (by omega) (by decide)
  have bd : ∀ (s i : Nat), s ≤ 51 * tn → i ≤ n → ∀ a, kd_f (kb_lI true tn) (kd_out n kd wd hv w (H dc) tn u) (kd_fS n kd wd hv w (H dc) d tn u s) i = some a → a < 99999 := fun s i hs hi a ha => by
    have := kd_f_le (M := 51 * 6 + 51 + 306) i (fun j hj => by
      have g : kb_g kd wd hv w (H dc) tn j ≤ 51 := kn_P_le N (by omega) tn
      have b := kb_W_le N true (show d ≤ 6 by omega) (tn + 1) (u ||| 2 ^ j)
      unfold kd_fS
      omega) a ha
    omega
  have g1 : ¬ nI NT ≤ 0 := by rw [kv_le0 (by omega)]; omega
  intro e
  induction e with
  | zero =>
    intro i hi
    obtain rfl : i = n := by omega
    obtain ⟨c, hc⟩ := O i u (Or.inr ⟨rfl, rfl⟩)
    refine ⟨c, fun F s t0 t x3 hs S q => ?_⟩
    rw [p7_duel_L56]
    refine kv_f g1 (kv_f (kv_ge (by omega)) ⟨1, ?_⟩)
    rw [p7_duel_L64, kv_c (show tn < 2147483648 by omega), S.2.2.1, S.1.2.1 0 (by decide) (by decide), mn]
    refine ⟨v7, kv_t (by rw [kv_leN (by omega) (by omega)]; omega) (s7_opt_J N (by omega) (Nat.le_refl _) S (fun z => by omega) (fun _ => hc F s t0 t x3 _ 0 hs (by decide) (bd s i hs (Nat.le_refl _)) S (fun t' z3 S' => q t' z3 ?_)))⟩
    rw [kd_f_B, show s + 0 = s from rfl] at S'
    have e1 : kb_B (kb_lI true tn) (kd_out i kd wd hv w (H dc) tn u) (kd_fS i kd wd hv w (H dc) d tn u s) (s + kb_W true i kd wd hv w (H dc) d (tn + 1) u) i = s + kb_W true i kd wd hv w (H dc) (d + 1) tn u := kb_B_s _ _ _ _ _ _
    rw [e1] at S'
    exact S'
  | succ e ih =>
    intro i hi
    have hin : i < n := by omega
    obtain ⟨c1, h1⟩ := ih (i + 1) (by omega)
    have o := kb_or n6 hu hin
    by_cases gone : u.testBit i = true
    · refine ⟨c1, fun F s t0 t x3 hs S q => ?_⟩
      have ef : kd_f (kb_lI true tn) (kd_out n kd wd hv w (H dc) tn u) (kd_fS n kd wd hv w (H dc) d tn u s) (i + 1) = kd_f (kb_lI true tn) (kd_out n kd wd hv w (H dc) tn u) (kd_fS n kd wd hv w (H dc) d tn u s) i := by
        rw [kd_f, if_pos (by unfold kd_out; rw [gone]; exact Bool.or_true _)]
      have S1 : kd_S τ t0 (kx_sI t 15 tn (nI (i + 1))) tn (i + 1) u s (kd_f (kb_lI true tn) (kd_out n kd wd hv w (H dc) tn u) (kd_fS n kd wd hv w (H dc) d tn u s) (i + 1)) := by
        obtain ⟨F', fr, a, b, c, d⟩ := S
        refine ⟨kt_sc F' (by decide) _ _, fun x x1 x2 y hy => (kv_un (by omega)).trans (fr x x1 x2 y hy), kv_us _ _ _ _, (kv_un (by omega)).trans b, (kv_un (by omega)).trans c, ?_⟩
        rw [ef]
        exact (kv_un (by omega)).trans d
      have X := h1 F s t0 _ x3 hs S1 q
      rw [p7_duel_L56] at X
      obtain ⟨m, hm⟩ := (X.2 g1).2 (kv_ge (by omega))
      rw [p7_duel_L56]
      refine kv_f g1 (kv_f (kv_ge (by omega)) ⟨m + 1, ?_⟩)
      rw [p7_duel_L64, kv_c (show tn < 2147483648 by omega), S.2.2.1, S.2.2.2.1, S.1.2.1 0 (by decide) (by decide), mn, show nI i + 1 = nI (i + 1) from nI_1 _]
      exact ⟨v7, kv_f (by rw [kv_leN (by omega) (by omega)]; omega) ⟨v7, v7, s7_has rfl o.2.1 (by omega) (fun _ => kv_f (by decide) ⟨v7, v7, hm⟩) (fun z => by rw [gone] at z; cases z)⟩⟩
    · have ng : u.testBit i = false := by simpa using gone
      obtain ⟨c2, h2⟩ := O i (u ||| 2 ^ i) (Or.inl ⟨hin, rfl⟩)
      refine ⟨c1 + 1 + c2, fun F s t0 t x3 hs S q => ?_⟩
      have ef : kd_f (kb_lI true tn) (kd_out n kd wd hv w (H dc) tn u) (kd_fS n kd wd hv w (H dc) d tn u s) (i + 1) = some (kd_op (kb_lI true tn) (kd_f (kb_lI true tn) (kd_out n kd wd hv w (H dc) tn u) (kd_fS n kd wd hv w (H dc) d tn u s) i) (kd_fS n kd wd hv w (H dc) d tn u s i)) := by
        rw [kd_f, if_neg (by unfold kd_out kb_fb; rw [ng]; simp)]
      have g : kb_g kd wd hv w (H dc) tn i ≤ 51 := kn_P_le N hin tn
      have Y := h2 (F + c1 + 1) s t0 t x3 _ (kb_g kd wd hv w (H dc) tn i) hs g (bd s i hs (by omega)) S (fun t' z3 S' => h1 F s t0 t' z3 hs (by
        rw [ef]
        rw [Nat.add_assoc] at S'
        exact S') q)
      rw [show F + (c1 + 1 + c2) + 1 = F + c1 + 1 + c2 + 1 by omega, p7_duel_L56]
      refine kv_f g1 (kv_f (kv_ge (by omega)) ⟨1, ?_⟩)
      rw [p7_duel_L64, kv_c (show tn < 2147483648 by omega), S.2.2.1, S.2.2.2.1, S.1.2.1 0 (by decide) (by decide), mn]
      exact ⟨v7, kv_f (by rw [kv_leN (by omega) (by omega)]; omega) ⟨v7, v7, s7_has rfl o.2.1 (by omega) (fun z => by rw [ng] at z; cases z) (fun _ => kv_t rfl (s7_opt_J N (by omega) (by omega) S (fun _ => Y) (fun z => by omega)))⟩⟩
theorem s7_turns (N : kr_now σ τ n kd wd hv w wt dc H) {NT : Nat} {Q : kx_St → Int32 → Prop} (hNT : NT ≤ 6) : ∀ d tn u, tn + (d + 1) = NT → u < 2 ^ n → ∃ c, ∀ (F s : Nat) (t : kx_St) (x3 : Int32), s ≤ 51 * tn → kd_S τ t t tn 0 u s none → (∀ t' z3, kd_S τ t t' tn (n + 1) u s (some (s + kb_W true n kd wd hv w (H dc) (d + 1) tn u)) → p7_duel_L56 F t' (nI NT) (nI tn) z3 Q) → p7_duel_L56 (F + c) t (nI NT) (nI tn) x3 Q := by
  have n6 := kn_n6 N
  have fin : ∀ d tn u, tn + (d + 1) = NT → u < 2 ^ n → (∀ i u', (i < n ∧ u' = u ||| 2 ^ i) ∨ (i = n ∧ u' = u) → ∃ c, kd_O τ n kd wd hv w (H dc) NT d tn u Q i u' c) → ∃ c, ∀ (F s : Nat) (t : kx_St) (x3 : Int32), s ≤ 51 * tn → kd_S τ t t tn 0 u s none → (∀ t' z3, kd_S τ t t' tn (n + 1) u s (some (s + kb_W true n kd wd hv w (H dc) (d + 1) tn u)) → p7_duel_L56 F t' (nI NT) (nI tn) z3 Q) → p7_duel_L56 (F + c) t (nI NT) (nI tn) x3 Q := by
    intro d tn u ht hu O
    obtain ⟨c, h⟩ := s7_turn_I N hNT ht hu O n 0 (by omega)
    exact ⟨c + 1, fun F s t x3 hs S q => h F s t t x3 hs S q⟩
  intro d
  induction d with
  | zero =>
    intro tn u ht hu
    refine fin 0 tn u ht hu (fun i u' hi => ⟨0, fun F s t0 t x3 o pay hs hp ho S q => s7_opt_0 N hNT ht (by omega) ho S (fun t' S' => q t' x3 S')⟩)
  | succ d ih =>
    intro tn u ht hu
    refine fin (d + 1) tn u ht hu (fun i u' hi => ?_)
    have hu' : u' < 2 ^ n := by
      rcases hi with ⟨hi, e⟩ | ⟨_, e⟩
      · rw [e]; exact (kb_or n6 hu hi).1
      · rw [e]; exact hu
    obtain ⟨c, h⟩ := ih (tn + 1) u' (by omega) hu'
    refine ⟨1 + c, fun F s t0 t x3 o pay hs hp ho S q => ?_⟩
    have b := kb_W_le N true (show d + 1 ≤ 6 by omega) (tn + 1) u'
    rw [← Nat.add_assoc]
    exact s7_opt_1 N hNT (by omega) hi hu (by omega) ho S (fun G t1 y3 S1 p => h G (s + pay) t1 y3 (by omega) S1 p) q
theorem th_duel (σ τ : kx_St) (h : kr_R σ τ) : lt_duel kr_R σ τ := by
  obtain ⟨n, kd, wd, hv, w, wt, dc, H, N, K⟩ := h.2.2.2.2.1
  intro a0
  have n6 := kn_n6 N
  have mn := kn_mn N
  have fl : H dc 1 < 2 ^ n := by rw [← (kp_fn (kn_v N)).1]; exact Nat.mod_lt _ (Nat.pow_pos (by decide))
  rcases kv_arg a0 7 with ⟨m, hm, rfl⟩ | ho
  · have g6 : nI m ≤ 6 := by show nI m ≤ nI 6; rw [kv_leN (by omega) (by decide)]; omega
    by_cases h0 : n = 0
    · exact ⟨-4, kv_f (kv_ge (by omega)) (kv_t g6 (s3_isEmpty (j := 0) (by decide) (kn_cn N) n6 (fun z => by omega) (fun _ => kv_f (by decide) ⟨rfl, s7_rng_in (N := 6) rfl hm (by decide) (kv_F (by decide) (kv_T (mn.trans (by rw [h0]; rfl)) ⟨rfl, h⟩))⟩)))⟩
    · have c0 : ¬ τ.1 0 3 = 0 := by rw [mn]; exact fun e => h0 ((kv_inj (b := 0) (by omega) (by decide)).mp e)
      refine ⟨nI (kb_W true n kd wd hv w (H dc) m 0 (H dc 1)), kv_f (kv_ge (by omega)) (kv_t g6 (s3_isEmpty (j := 0) (by decide) (kn_cn N) n6 (fun _ => kv_t rfl ⟨ky_fl.1, (ky_par 0 (by decide)).1, s0_weigh N (dl := true) (kb_refl σ) (by omega) (fun s1 I1 => ⟨rfl, s7_rng_in (N := 6) rfl hm (by decide) (kv_F (by decide) (kv_F c0 ?_))⟩)⟩) (fun z => absurd z h0)))⟩
      have R1 := kb_R h I1.1
      have e2 : τ.1 1 (2 : Int32).toNatClampNeg = nI (H dc 1) := kn_mk N (k := 1) (by decide)
      rw [e2]
      show (nI m ≤ 0 → ∃ m56, p7_duel_L56 m56 (kx_sI (kx_sI τ 16 0 (nI (H dc 1))) 17 0 0) (nI m) 0 0 _) ∧ (¬ nI m ≤ 0 → p7_beginTurn (kx_sI (kx_sI τ 16 0 (nI (H dc 1))) 17 0 0) 0 (fun σ8 => ∃ m56, p7_duel_L56 m56 σ8 (nI m) 0 0 _))
      have F0 : kt_F τ (kx_sI (kx_sI τ 16 0 (nI (H dc 1))) 17 0 0) := kt_sc (kt_sc (kt_refl τ) (by decide) _ _) (by decide) _ _
      rw [kv_le0 (by omega)]
      by_cases m0 : m = 0
      · subst m0
        refine kv_t rfl ⟨1, ?_⟩
        rw [p7_duel_L56]
        exact kv_t (by decide) ⟨rfl, kt_R R1 F0⟩
      · refine kv_f m0 (s7_begin (tn := 0) (by decide) F0 (fun t1 F1 _ a15 a16 a17 a18 => ?_))
        obtain ⟨d, hd⟩ : ∃ d, m = d + 1 := ⟨m - 1, by omega⟩
        obtain ⟨c, hc⟩ := s7_turns N (NT := m) (Q := fun w' q => q = nI (kb_W true n kd wd hv w (H dc) m 0 (H dc 1)) ∧ kr_R s1 w') (by omega) d 0 (H dc 1) (by omega) fl
        refine ⟨2 + c, hc 2 0 t1 0 (by omega) ⟨F1, fun _ _ _ _ _ => rfl, a15, ?_, ?_, a18⟩ (fun t' z3 S' => ?_)⟩
        · rw [a16, kv_un (by decide), kv_us]
        · rw [a17, kv_us]; rfl
        · have g1 : ¬ nI m ≤ 0 := by rw [kv_le0 (by omega)]; exact m0
          have v0 : vp_in (nI 0) 7 := kv_in (by decide) (by decide)
          have b18 : t'.1 18 0 = nI (0 + kb_W true n kd wd hv w (H dc) (d + 1) 0 (H dc 1)) := S'.2.2.2.2.2
          have m3 : t'.1 0 3 = nI n := by rw [S'.1.2.1 0 (by decide) (by decide)]; exact mn
          rw [p7_duel_L56]
          refine kv_f g1 (kv_f (by decide) ⟨1, ?_⟩)
          rw [p7_duel_L64, kv_c (show 0 < 2147483648 by decide), S'.2.2.1, m3]
          refine ⟨v0, kv_t (by rw [kv_leN (by omega) (by omega)]; omega) ?_⟩
          unfold p7_duel_J108
          rw [kv_c (show 0 < 2147483648 by decide), S'.2.2.1, m3]
          refine ⟨v0, kv_f (by rw [kv_leN (by omega) (by omega)]; omega) ⟨v0, kv_t (by decide) ?_⟩⟩
          show p7_duel_L56 (0 + 1) t' (nI m) (nI 0 + -1) (t'.1 18 0) _
          rw [p7_duel_L56, b18, Nat.zero_add, ← hd]
          exact kv_f g1 (kv_t (by decide) ⟨rfl, kt_R R1 S'.1⟩)
  · have m : p7_duel τ a0 (fun w q => q = -1 ∧ kr_R σ w) := s7_rng_out (N := 6) rfl ho (kv_T rfl ⟨rfl, h⟩)
    refine ⟨-1, fun _ => ⟨rfl, m⟩, fun c => kv_f ?_ ⟨rfl, m⟩⟩
    show ¬ a0 ≤ nI 6
    have c : ¬ a0.toInt < 0 := fun r => c (kv_lt.mpr r)
    rw [kv_le, kv_n (by omega)]; omega
end
