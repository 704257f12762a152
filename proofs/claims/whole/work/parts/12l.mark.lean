section
variable {σ τ : kx_St} {n : Nat} {kd wd hv w : Nat → Nat} {wt dc : Nat} {H : Nat → Nat → Nat}
def ku_of (kd k : Nat) : Prop := k = 0 ∨ k = kd ∨ (k = 1 ∧ kd = 4) ∨ (k = 3 ∧ kd = 5)
theorem s1_isOf {a k w hv t m : Nat} {Q : Int32 → Prop} (K : ku_K σ a k w hv t) (hm : m < 6) (h1 : ku_of k m → Q 1) (h0 : ¬ ku_of k m → Q 0) : p1_isOf σ a (nI m) Q := by
  obtain ⟨hk, e0, _, _, _, k5, _⟩ := K
  have zm : ∀ q, q < 6 → (nI m = nI q ↔ m = q) := fun q hq => kv_inj (by omega) (by omega)
  have zk : ∀ q, q < 6 → (nI k = nI q ↔ k = q) := fun q hq => kv_inj (by omega) (by omega)
  have J : ¬ m = 0 → ¬ m = k → ¬ (m = 1 ∧ k = 4) → p1_isOf_J25 σ a (nI m) Q := by
    intro c1 c2 c3
    unfold p1_isOf_J25
    rw [e0]
    refine ⟨fun c => h0 ?_, fun c => ⟨fun d => h0 ?_, fun d => h1 ?_⟩⟩
    · have c : ¬ m = 3 := fun r => c ((zm 3 (by decide)).mpr r)
      unfold ku_of; omega
    · have c : m = 3 := (zm 3 (by decide)).mp c
      have d : ¬ k = 5 := fun r => d ((zk 5 (by decide)).mpr r)
      unfold ku_of; omega
    · have c : m = 3 := (zm 3 (by decide)).mp c
      have d : k = 5 := (zk 5 (by decide)).mp d
      unfold ku_of; omega
  unfold p1_isOf
  rw [e0]
  refine ⟨hk, fun c => h1 (Or.inl ((zm 0 (by decide)).mp c)), fun c => ⟨fun c2 => h1 (Or.inr (Or.inl ((zm k k5).mp c2))), fun c2 => ?_⟩⟩
  have c : ¬ m = 0 := fun r => c ((zm 0 (by decide)).mpr r)
  have c2 : ¬ m = k := fun r => c2 ((zm k k5).mpr r)
  refine ⟨fun c3 => J c c2 (fun r => c3 ((zm 1 (by decide)).mpr r.1)), fun c3 => ⟨fun c4 => h1 ?_, fun c4 => J c c2 (fun r => c4 ((zk 4 (by decide)).mpr r.2))⟩⟩
  exact Or.inr (Or.inr (Or.inl ⟨(zm 1 (by decide)).mp c3, (zk 4 (by decide)).mp c4⟩))
theorem s7_isOf {b i k w hv t m : Nat} {Q : Int32 → Prop} (M : ku_M τ b i k w hv t) (hm : m < 6) (m0 : 0 < m) (h1 : ku_of k m → Q 1) (h0 : ¬ ku_of k m → Q 0) : p7_isOf τ (nI i) (nI m) Q := by
  obtain ⟨i6, _, e0, _, _, _, k5, _⟩ := M
  have zm : ∀ q, q < 6 → (nI m = nI q ↔ m = q) := fun q hq => kv_inj (by omega) (by omega)
  have zk : ∀ q, q < 6 → (nI k = nI q ↔ k = q) := fun q hq => kv_inj (by omega) (by omega)
  have J : ¬ m = k → ¬ (m = 1 ∧ k = 4) → p7_isOf_J22 τ (nI m) (nI k) Q := by
    intro c2 c3
    unfold p7_isOf_J22
    refine ⟨fun c => h0 ?_, fun c => ⟨fun d => h0 ?_, fun d => h1 ?_⟩⟩
    · have c : ¬ m = 3 := fun r => c ((zm 3 (by decide)).mpr r)
      unfold ku_of; omega
    · have c : m = 3 := (zm 3 (by decide)).mp c
      have d : ¬ k = 5 := fun r => d ((zk 5 (by decide)).mpr r)
      unfold ku_of; omega
    · have c : m = 3 := (zm 3 (by decide)).mp c
      have d : k = 5 := (zk 5 (by decide)).mp d
      unfold ku_of; omega
  unfold p7_isOf
  rw [kv_c (by omega), e0]
  refine ⟨kv_in i6 (by decide), fun c2 => h1 (Or.inr (Or.inl ((zk m hm).mp c2).symm)), fun c2 => ?_⟩
  have c2 : ¬ m = k := fun r => c2 ((zk m hm).mpr r.symm)
  refine ⟨fun c3 => J c2 (fun r => c3 ((zm 1 (by decide)).mpr r.1)), fun c3 => ⟨fun c4 => h1 ?_, fun c4 => J c2 (fun r => c4 ((zk 4 (by decide)).mpr r.2))⟩⟩
  exact Or.inr (Or.inr (Or.inl ⟨(zm 1 (by decide)).mp c3, (zk 4 (by decide)).mp c4⟩))
def ku_gw (f : Nat → Nat) : Nat → Int32
  | 0 => -9
  | m + 1 => if f m = 0 then ku_gw f m else nI m
theorem kv_p1 (m : Nat) : nI (m + 1) - 1 = nI m := by rw [show (1 : Int32) = nI 1 from rfl, kv_sub (by omega)]; rfl
theorem kv_m1 (x : Int32) : x + -1 = x - 1 := (Int32.sub_eq_add_neg ..).symm
theorem s6_gw {a k w hv t : Nat} {Q : Int32 → Prop} (K : ku_K σ a k w hv t) : ∀ m, m ≤ 10 → Q (ku_gw (ku_lift k w t) m) → p6_greatestWindLifting_L3 (m + 1) σ a (nI m - 1) Q := by
  intro m
  induction m with
  | zero => intro _ q; unfold p6_greatestWindLifting_L3; exact kv_t (by decide) q
  | succ m ih =>
    intro hm q
    have hle : ku_lift k w t m ≤ 51 := by
      obtain ⟨_, _, _, _, _, k5, w9, _, t3⟩ := K
      exact ku_lift_le _ k5 _ w9 _ t3 _ (by omega)
    unfold p6_greatestWindLifting_L3
    rw [kv_p1]
    refine kv_f (kv_ge (by omega)) (s1_liftIn K (by omega) ⟨fun c => ?_, fun c => ?_⟩)
    · have c := (kv_le0 (by omega)).mp c
      rw [kv_m1]
      refine ih (by omega) ?_
      rw [ku_gw, if_pos c] at q
      exact q
    · have c : ¬ ku_lift k w t m = 0 := fun r => c ((kv_le0 (by omega)).mpr r)
      rw [ku_gw, if_neg c] at q
      exact q
theorem s7_gw {b i k w hv t : Nat} {B : Int32} {Q : Int32 → Prop} (hB : (0 : Int32) = nI b) (M : ku_M τ b i k w hv t) : ∀ m, m ≤ 10 → Q (ku_gw (ku_lift k w t) m) → p7_greatestWind_L3 (m + 1) τ (nI i) (nI m - 1) Q := by
  intro m
  induction m with
  | zero => intro _ q; unfold p7_greatestWind_L3; exact kv_t (by decide) (kv_f (by decide) q)
  | succ m ih =>
    intro hm q
    have hle : ku_lift k w t m ≤ 51 := by
      obtain ⟨_, _, _, _, _, _, k5, w9, _, t3⟩ := M
      exact ku_lift_le _ k5 _ w9 _ t3 _ (by omega)
    unfold p7_greatestWind_L3
    rw [kv_p1]
    refine kv_f (kv_ge (by omega)) (s7_liftsIn hB M (by omega) ⟨fun c => ?_, fun c => ?_⟩)
    · have c : ¬ ku_lift k w t m = 0 := fun r => c ((kv_inj (by omega) (by decide)).mpr r)
      rw [ku_gw, if_neg c] at q
      exact kv_t (kv_ge0 (by omega)) q
    · have c : ku_lift k w t m = 0 := (kv_inj (by omega) (by decide)).mp c
      rw [kv_m1]
      refine ih (by omega) ?_
      rw [ku_gw, if_pos c] at q
      exact q
def ku_ab (f g : Nat → Nat) : Nat → Nat
  | 0 => 0
  | m + 1 => ku_ab f g m + (if f m ≤ g m then 0 else 1)
theorem s6_ab {a k w hv t : Nat} {Q : Int32 → Prop} (K : ku_K σ a k w hv t) (q : Q (nI (ku_ab (ku_lift k w t) (ku_lift 1 w t) 10))) : ∀ f m, m ≤ 10 → 10 - m < f → p6_windsAboveHandkerchief_L4 f σ a (nI (ku_ab (ku_lift k w t) (ku_lift 1 w t) m)) (nI m) Q := by
  intro f
  induction f with
  | zero => intro m h1 h2; omega
  | succ f ih =>
    intro m hm hf
    have K' := K
    obtain ⟨k1, e0, e1, e2, e3, k5, w9, _, t3⟩ := K'
    unfold p6_windsAboveHandkerchief_L4
    by_cases h10 : m = 10
    · subst h10; exact kv_t (by decide) q
    · have l1 := ku_lift_le _ k5 _ w9 _ t3 m (by omega)
      have l2 := ku_lift_le 1 (by decide) _ w9 _ t3 m (by omega)
      refine kv_f (by show ¬ nI 9 < nI m; rw [kv_ltN (by omega) (by omega)]; omega) (s1_liftIn K (by omega) ?_)
      rw [e3]
      refine s1_liftAs (k := 1) k1 e1 (by decide) w9 t3 (by omega) ⟨fun c => ?_, fun c => ?_⟩
      · have c := (kv_leN (by omega) (by omega)).mp c
        have := ih (m + 1) (by omega) (by omega)
        rw [ku_ab, if_pos c] at this
        rw [show nI m + 1 = nI (m + 1) from nI_1 m]
        exact this
      · have c : ¬ ku_lift k w t m ≤ ku_lift 1 w t m := fun r => c ((kv_leN (by omega) (by omega)).mpr r)
        have := ih (m + 1) (by omega) (by omega)
        rw [ku_ab, if_neg c] at this
        rw [show (1 : Int32) = nI 1 from rfl, kv_add, kv_add]
        exact this
theorem s7_ab {i k w hv t : Nat} {Q : Int32 → Prop} (M : ku_M τ 0 i k w hv t) (q : Q (nI (ku_ab (ku_lift k w t) (ku_lift 1 w t) 10))) : ∀ f m, m ≤ 10 → 10 - m < f → p7_moreThanCloth_L4 f τ (nI i) (nI (ku_ab (ku_lift k w t) (ku_lift 1 w t) m)) (nI m) Q := by
  intro f
  induction f with
  | zero => intro m h1 h2; omega
  | succ f ih =>
    intro m hm hf
    have M' := M
    obtain ⟨i6, _, e0, e1, e2, e3, k5, w9, _, t3⟩ := M'
    unfold p7_moreThanCloth_L4
    by_cases h10 : m = 10
    · subst h10; exact kv_t (by decide) q
    · have l1 := ku_lift_le _ k5 _ w9 _ t3 m (by omega)
      have l2 := ku_lift_le 1 (by decide) _ w9 _ t3 m (by omega)
      refine kv_f (by show ¬ nI 10 ≤ nI m; rw [kv_leN (by omega) (by omega)]; omega) (s7_liftsIn rfl M (by omega) ?_)
      rw [show (4 : Int32) + nI i = nI (0 + 4 + i) from by rw [show (4 : Int32) = nI 4 from rfl, kv_add, Nat.zero_add], kv_c (by omega), kv_c (by omega), e1, e3]
      refine ⟨kv_in i6 (by decide), kv_in (by omega) (by decide), s7_liftsBy (k := 1) (by decide) w9 t3 (by omega) ⟨fun c => ?_, fun c => ?_⟩⟩
      · have c := (kv_leN (by omega) (by omega)).mp c
        have := ih (m + 1) (by omega) (by omega)
        rw [ku_ab, if_pos c] at this
        rw [show (0 : Int32) = nI 0 from rfl, show (1 : Int32) = nI 1 from rfl, kv_add, kv_add]
        exact this
      · have c : ¬ ku_lift k w t m ≤ ku_lift 1 w t m := fun r => c ((kv_leN (by omega) (by omega)).mpr r)
        have := ih (m + 1) (by omega) (by omega)
        rw [ku_ab, if_neg c] at this
        rw [show (1 : Int32) = nI 1 from rfl, kv_add, kv_add]
        exact this
def ku_lw (f : Nat → Nat) (h : Nat) : Nat → Int32
  | 0 => -9
  | d + 1 => if 4 * h < f (9 - d) then nI (9 - d) else ku_lw f h d
theorem s6_lw {a k w hv t : Nat} {Q : Int32 → Prop} (K : ku_K σ a k w hv t) : ∀ d, d ≤ 10 → Q (ku_lw (ku_lift k w t) hv d) → p6_leastWindLifted_L2 (d + 1) σ a (nI (10 - d)) Q := by
  intro d
  induction d with
  | zero => intro _ q; unfold p6_leastWindLifted_L2; exact kv_t (by decide) q
  | succ d ih =>
    intro hd q
    unfold p6_leastWindLifted_L2
    rw [show 10 - (d + 1) = 9 - d by omega]
    refine kv_f (by show ¬ nI 9 < nI (9 - d); rw [kv_ltN (by omega) (by omega)]; omega) (s1_isLiftedIn K (by omega) (fun c => kv_f (by decide) ?_) (fun c => kv_t rfl ?_))
    · rw [ku_lw, if_pos c] at q; exact q
    · rw [ku_lw, if_neg c] at q
      rw [show (1 : Int32) = nI 1 from rfl, kv_add, show 9 - d + 1 = 10 - d by omega]
      exact ih (by omega) q
theorem s7_lw {i k w hv t : Nat} {Q : Int32 → Prop} (M : ku_M τ 0 i k w hv t) : ∀ d, d ≤ 10 → Q (ku_lw (ku_lift k w t) hv d) → p7_leastLifting_L2 (d + 1) τ (nI i) (nI (10 - d)) Q := by
  intro d
  induction d with
  | zero => intro _ q; unfold p7_leastLifting_L2; exact kv_t (by decide) ⟨fun z => absurd rfl z, fun _ => q⟩
  | succ d ih =>
    intro hd q
    unfold p7_leastLifting_L2
    rw [show 10 - (d + 1) = 9 - d by omega]
    refine kv_f (by show ¬ nI 10 ≤ nI (9 - d); rw [kv_leN (by omega) (by omega)]; omega) (s7_isLifted rfl M (by omega) (fun c => kv_F (by decide) ?_) (fun c => ⟨fun z => absurd rfl z, fun _ => ?_⟩))
    · rw [ku_lw, if_pos c] at q
      unfold p7_leastLifting_J24
      exact kv_F (by show ¬ nI (9 - d) = nI 10; rw [kv_inj (by omega) (by omega)]; omega) q
    · rw [ku_lw, if_neg c] at q
      rw [show (1 : Int32) = nI 1 from rfl, kv_add, show 9 - d + 1 = 10 - d by omega]
      exact ih (by omega) q
theorem th_mark (σ τ : kx_St) (h : kr_R σ τ) : lt_mark kr_R σ τ := by
  obtain ⟨n, kd, wd, hv, w, wt, dc, H, N, K⟩ := h.2.2.2.2.1
  intro a0 a1
  rcases kv_arg a0 n with ⟨i, hi, rfl⟩ | ho
  · have KK := kn_K N hi
    have MM := kn_M N hi
    obtain ⟨k1, e0, e1, e2, e3, k5, w9, _, t3⟩ := KK
    obtain ⟨i6, _, f0, f1, f2, f3, _⟩ := MM
    have KK := kn_K N hi
    have MM := kn_M N hi
    have m0 : ∀ {x : Int32} {Q : Int32 → Prop}, (x.toInt < 1 ∨ (5 : Int) < x.toInt) → Q 0 → p7_in x.toInt64 1 5 Q := by
      intro x Q hx q
      refine s7_in (fun c => ?_) (fun _ => q)
      exfalso
      rw [kv_l] at c
      have c : (1 : Int) ≤ x.toInt ∧ x.toInt ≤ (5 : Int) := c
      omega
    have m1 : ∀ {m : Nat} {Q : Int32 → Prop}, m < 5 → Q 1 → p7_in (nI (m + 1)).toInt64 1 5 Q := by
      intro m Q hm q
      refine s7_in (fun _ => q) (fun c => absurd ?_ c)
      rw [kv_l, kv_n (by omega)]
      show (1 : Int) ≤ _ ∧ _ ≤ (5 : Int)
      omega
    rcases kv_arg1 a1 5 with ⟨m, hm, rfl⟩ | hx
    · have g1 : ¬ nI (m + 1) ≤ 0 := by rw [kv_le0 (by omega)]; omega
      have g2 : nI (m + 1) < 6 := by show nI (m + 1) < nI 6; rw [kv_ltN (by omega) (by omega)]; omega
      by_cases ho : ku_of (kd i) (m + 1)
      · have eh0 : τ.1 1 1 = nI (H dc 0) := kn_mh N
        have eh : τ.1 1 (1 : Int32).toNatClampNeg = nI (H dc 0 + 0) := eh0
        have ww := kn_wm N (H dc 0 + 0)
        have cls : ∀ Q : kx_St → Int32 → Prop, (m = 0 → Q σ (100 + nI (ku_lift 0 (wd i) (H dc (3 + i)) (w ((H dc 0 + 0) % 4))) - nI (ku_lift (kd i) (wd i) (H dc (3 + i)) (w ((H dc 0 + 0) % 4))))) → (m = 1 → Q σ (ku_gw (ku_lift (kd i) (wd i) (H dc (3 + i))) 10)) → (m = 2 → Q σ (nI (ku_lift (kd i) (wd i) (H dc (3 + i)) (w ((H dc 0 + 0) % 4))) - nI (ku_lift 0 (wd i) (H dc (3 + i)) (w ((H dc 0 + 0) % 4))))) → (m = 3 → Q σ (nI (ku_ab (ku_lift (kd i) (wd i) (H dc (3 + i))) (ku_lift 1 (wd i) (H dc (3 + i))) 10))) → (m = 4 → Q σ (ku_lw (ku_lift (kd i) (wd i) (H dc (3 + i))) (hv i) 10)) → p6_mark σ (nI i) (nI (m + 1)) Q := by
          intro Q q0 q1 q2 q3 q4
          unfold p6_mark
          refine s3_kite_in N hi (kv_some ⟨k1, kv_f g1 (kv_t g2 (s1_isOf KK (by omega) (fun _ => kv_F (by decide) (kn_cwind N (a := 0) (by decide) ?_)) (fun q => absurd ho q)))⟩)
          rw [e3]
          rcases (show m = 0 ∨ m = 1 ∨ m = 2 ∨ m = 3 ∨ m = 4 by omega) with rfl | rfl | rfl | rfl | rfl
          · exact kv_t (by decide) (s1_liftAs (k := 0) k1 e1 (by decide) w9 t3 ww (s1_liftIn KK ww (q0 rfl)))
          · exact kv_f (by decide) (kv_t (by decide) ⟨k1, 11, s6_gw KK 10 (by omega) (q1 rfl)⟩)
          · exact kv_f (by decide) (kv_f (by decide) (kv_t (by decide) (s1_liftIn KK ww (s1_liftAs (k := 0) k1 e1 (by decide) w9 t3 ww (q2 rfl)))))
          · exact kv_f (by decide) (kv_f (by decide) (kv_f (by decide) (kv_t (by decide) ⟨k1, 11, s6_ab KK (q3 rfl) 11 0 (by omega) (by omega)⟩)))
          · exact kv_f (by decide) (kv_f (by decide) (kv_f (by decide) (kv_f (by decide) ⟨k1, 11, s6_lw KK 10 (by omega) (q4 rfl)⟩)))
        have ref : ∀ Q : kx_St → Int32 → Prop, (m = 0 → Q τ (100 + nI (ku_lift 0 (wd i) (H dc (3 + i)) (w ((H dc 0 + 0) % 4))) - nI (ku_lift (kd i) (wd i) (H dc (3 + i)) (w ((H dc 0 + 0) % 4))))) → (m = 1 → Q τ (ku_gw (ku_lift (kd i) (wd i) (H dc (3 + i))) 10)) → (m = 2 → Q τ (nI (ku_lift (kd i) (wd i) (H dc (3 + i)) (w ((H dc 0 + 0) % 4))) - nI (ku_lift 0 (wd i) (H dc (3 + i)) (w ((H dc 0 + 0) % 4))))) → (m = 3 → Q τ (nI (ku_ab (ku_lift (kd i) (wd i) (H dc (3 + i))) (ku_lift 1 (wd i) (H dc (3 + i))) 10))) → (m = 4 → Q τ (ku_lw (ku_lift (kd i) (wd i) (H dc (3 + i))) (hv i) 10)) → p7_mark τ (nI i) (nI (m + 1)) Q := by
          intro Q q0 q1 q2 q3 q4
          unfold p7_mark
          refine s7_kite_in N hi (kv_f (by decide) (m1 hm (kv_F (by decide) (s7_isOf MM (by omega) (by omega) (fun _ => kv_F (by decide) ?_) (fun q => absurd ho q)))))
          rw [eh]
          refine kn_mwind N rfl (by decide) ?_
          rw [show (4 : Int32) + nI i = nI (0 + 4 + i) from by rw [show (4 : Int32) = nI 4 from rfl, kv_add, Nat.zero_add], kv_c (show i < 2147483648 by omega), kv_c (show 0 + 4 + i < 2147483648 by omega), f1, f3]
          refine ⟨kv_in i6 (by decide), kv_in (by omega) (by decide), s7_liftsBy (k := 0) (by decide) w9 t3 ww ?_⟩
          rcases (show m = 0 ∨ m = 1 ∨ m = 2 ∨ m = 3 ∨ m = 4 by omega) with rfl | rfl | rfl | rfl | rfl
          · exact kv_t (by decide) (s7_liftsIn rfl MM ww (q0 rfl))
          · exact kv_f (by decide) (kv_t (by decide) ⟨11, s7_gw (B := 0) rfl MM 10 (by omega) (q1 rfl)⟩)
          · exact kv_f (by decide) (kv_f (by decide) (kv_t (by decide) (s7_liftsIn rfl MM ww (q2 rfl))))
          · exact kv_f (by decide) (kv_f (by decide) (kv_f (by decide) (kv_t (by decide) ⟨11, s7_ab MM (q3 rfl) 11 0 (by omega) (by omega)⟩)))
          · exact kv_f (by decide) (kv_f (by decide) (kv_f (by decide) (kv_f (by decide) ⟨11, s7_lw MM 10 (by omega) (q4 rfl)⟩)))
        rcases (show m = 0 ∨ m = 1 ∨ m = 2 ∨ m = 3 ∨ m = 4 by omega) with rfl | rfl | rfl | rfl | rfl
        · exact ⟨_, cls _ (fun _ => ⟨rfl, ref _ (fun _ => ⟨rfl, h⟩) (fun e => by omega) (fun e => by omega) (fun e => by omega) (fun e => by omega)⟩) (fun e => by omega) (fun e => by omega) (fun e => by omega) (fun e => by omega)⟩
        · exact ⟨_, cls _ (fun e => by omega) (fun _ => ⟨rfl, ref _ (fun e => by omega) (fun _ => ⟨rfl, h⟩) (fun e => by omega) (fun e => by omega) (fun e => by omega)⟩) (fun e => by omega) (fun e => by omega) (fun e => by omega)⟩
        · exact ⟨_, cls _ (fun e => by omega) (fun e => by omega) (fun _ => ⟨rfl, ref _ (fun e => by omega) (fun e => by omega) (fun _ => ⟨rfl, h⟩) (fun e => by omega) (fun e => by omega)⟩) (fun e => by omega) (fun e => by omega)⟩
        · exact ⟨_, cls _ (fun e => by omega) (fun e => by omega) (fun e => by omega) (fun _ => ⟨rfl, ref _ (fun e => by omega) (fun e => by omega) (fun e => by omega) (fun _ => ⟨rfl, h⟩) (fun e => by omega)⟩) (fun e => by omega)⟩
        · exact ⟨_, cls _ (fun e => by omega) (fun e => by omega) (fun e => by omega) (fun e => by omega) (fun _ => ⟨rfl, ref _ (fun e => by omega) (fun e => by omega) (fun e => by omega) (fun e => by omega) (fun _ => ⟨rfl, h⟩)⟩)⟩
      · exact ⟨-3, s3_kite_in N hi (kv_some ⟨k1, kv_f g1 (kv_t g2 (s1_isOf KK (by omega) (fun q => absurd q ho) (fun _ => ⟨fun q => absurd rfl q, fun _ => s6_found (f := 3) rfl (by decide) ⟨rfl, s7_kite_in N hi (kv_f (by decide) (m1 hm (kv_F (by decide) (s7_isOf MM (by omega) (by omega) (fun q => absurd q ho) (fun _ => ⟨fun q => absurd rfl q, fun _ => s7_find (f := 3) rfl (by decide) ⟨rfl, kr_found h (by decide)⟩⟩)))))⟩⟩)))⟩)⟩
    · have mm : p7_mark τ (nI i) a1 (fun w q => q = -1 ∧ kr_R σ w) := s7_kite_in N hi (kv_f (by decide) (m0 hx ⟨fun q => absurd rfl q, fun _ => ⟨rfl, h⟩⟩))
      by_cases hx0 : a1 ≤ 0
      · exact ⟨-1, s3_kite_in N hi (kv_some ⟨k1, kv_t hx0 ⟨rfl, mm⟩⟩)⟩
      · refine ⟨-1, s3_kite_in N hi (kv_some ⟨k1, kv_f hx0 (kv_f ?_ ⟨rfl, mm⟩)⟩)⟩
        rw [kv_lt]
        show ¬ _ < (6 : Int)
        rw [kv_le] at hx0
        have hx0 : ¬ a1.toInt ≤ (0 : Int) := hx0
        omega
  · exact ⟨_, s3_kite_out N ho (kv_none ⟨rfl, s7_kite_out N ho (kv_t rfl ⟨rfl, h⟩)⟩)⟩
/-! when a KITE does best -/
def ku_bt (p : Nat → Nat) : Nat → Nat
  | 0 => 0
  | m + 1 => if p (m + 1) ≤ p (ku_bt p m) then ku_bt p m else m + 1
theorem ku_bt_le (p : Nat → Nat) : ∀ m, ku_bt p m ≤ m := by
  intro m
  induction m with
  | zero => exact Nat.le_refl _
  | succ m ih => unfold ku_bt; split <;> omega
def kn_P (kd wd hv w v : Nat → Nat) (i h : Nat) : Nat := ku_pay (kd i) (wd i) (hv i) (v (3 + i)) (w ((v 0 + h) % 4))
theorem kn_P_le (N : kr_now σ τ n kd wd hv w wt dc H) {i : Nat} (hi : i < n) (h : Nat) : kn_P kd wd hv w (H dc) i h ≤ 51 := by
  obtain ⟨_, _, _, _, _, k5, w9, _, t3⟩ := kn_K N hi
  exact ku_pay_le k5 w9 t3 (kn_wm N _)
theorem s6_when_L (N : kr_now σ τ n kd wd hv w wt dc H) {i : Nat} {Q : kx_St → Int32 → Prop} (hi : i < n) (q : Q (kx_sI σ 0 10 (nI (kn_P kd wd hv w (H dc) i (ku_bt (kn_P kd wd hv w (H dc) i) 3)))) (nI (ku_bt (kn_P kd wd hv w (H dc) i) 3))) : ∀ f m, m ≤ 3 → 3 - m < f → p6_when_L20 f σ (30 + i) (nI (ku_bt (kn_P kd wd hv w (H dc) i) m)) (nI (m + 1)) Q := by
  intro f
  induction f with
  | zero => intro m h1 h2; omega
  | succ f ih =>
    intro m hm hf
    have K := kn_K N hi
    have hb := ku_bt_le (kn_P kd wd hv w (H dc) i) m
    have l1 := kn_P_le N hi (m + 1)
    have l2 := kn_P_le N hi (ku_bt (kn_P kd wd hv w (H dc) i) m)
    unfold p6_when_L20
    by_cases h3 : m = 3
    · subst h3
      exact kv_t (by decide) (kn_cwind N (by omega) (s1_payIn K (kn_wm N _) q))
    · refine kv_f (by show ¬ nI 4 ≤ nI (m + 1); rw [kv_leN (by omega) (by omega)]; omega) (kn_cwind N (by omega) (s1_payIn K (kn_wm N _) (kn_cwind N (by omega) (s1_payIn K (kn_wm N _) ?_))))
      show (nI (kn_P kd wd hv w (H dc) i (m + 1)) ≤ nI (kn_P kd wd hv w (H dc) i (ku_bt (kn_P kd wd hv w (H dc) i) m)) → _) ∧ (¬ nI (kn_P kd wd hv w (H dc) i (m + 1)) ≤ nI (kn_P kd wd hv w (H dc) i (ku_bt (kn_P kd wd hv w (H dc) i) m)) → _)
      rw [show nI (m + 1) + 1 = nI (m + 1 + 1) from nI_1 (m + 1)]
      have := ih (m + 1) (by omega) (by omega)
      refine ⟨fun c => ?_, fun c => ?_⟩
      · have c := (kv_leN (by omega) (by omega)).mp c
        rw [ku_bt, if_pos c] at this
        exact this
      · have c : ¬ kn_P kd wd hv w (H dc) i (m + 1) ≤ kn_P kd wd hv w (H dc) i (ku_bt (kn_P kd wd hv w (H dc) i) m) := fun r => c ((kv_leN (by omega) (by omega)).mpr r)
        rw [ku_bt, if_neg c] at this
        exact this
theorem s7_when_L (N : kr_now σ τ n kd wd hv w wt dc H) {i : Nat} {Q : kx_St → Int32 → Prop} (hi : i < n) (q : Q (kx_sI τ 0 11 (nI (kn_P kd wd hv w (H dc) i (ku_bt (kn_P kd wd hv w (H dc) i) 3)))) (nI (ku_bt (kn_P kd wd hv w (H dc) i) 3))) : ∀ f m, m ≤ 3 → 3 - m < f → p7_when_L17 f τ (nI i) (nI (ku_bt (kn_P kd wd hv w (H dc) i) m)) (nI (kn_P kd wd hv w (H dc) i (ku_bt (kn_P kd wd hv w (H dc) i) m))) (nI (m + 1)) Q := by
  intro f
  induction f with
  | zero => intro m h1 h2; omega
  | succ f ih =>
    intro m hm hf
    have M := kn_M N hi
    have hb := ku_bt_le (kn_P kd wd hv w (H dc) i) m
    have l1 := kn_P_le N hi (m + 1)
    have l2 := kn_P_le N hi (ku_bt (kn_P kd wd hv w (H dc) i) m)
    unfold p7_when_L17
    by_cases h3 : m = 3
    · subst h3
      exact kv_t (by decide) q
    · have eh : τ.1 1 (1 : Int32).toNatClampNeg = nI (H dc 0) := kn_mh (σ := σ) N
      rw [eh]
      have l1' := l1
      refine kv_f (by show ¬ nI 4 ≤ nI (m + 1); rw [kv_leN (by omega) (by omega)]; omega) (kn_mwind N (kv_add _ _) (by omega) (s7_paysIn rfl M (kn_wm N _) ?_))
      show (nI (kn_P kd wd hv w (H dc) i (m + 1)) ≤ _ → _) ∧ (¬ nI (kn_P kd wd hv w (H dc) i (m + 1)) ≤ _ → _)
      unfold p7_when_J56
      rw [show nI (m + 1) + 1 = nI (m + 1 + 1) from nI_1 (m + 1)]
      refine ⟨fun c => ?_, fun c => ?_⟩
      · have c2 := (kv_leN (by omega) (by omega)).mp c
        have := ih (m + 1) (by omega) (by omega)
        rw [ku_bt, if_pos c2] at this
        exact kv_t c this
      · have c2 : ¬ kn_P kd wd hv w (H dc) i (m + 1) ≤ kn_P kd wd hv w (H dc) i (ku_bt (kn_P kd wd hv w (H dc) i) m) := fun r => c ((kv_leN (by omega) (by omega)).mpr r)
        have := ih (m + 1) (by omega) (by omega)
        rw [ku_bt, if_neg c2] at this
        exact kv_f c this
theorem th_when (σ τ : kx_St) (h : kr_R σ τ) : lt_when kr_R σ τ := by
  obtain ⟨n, kd, wd, hv, w, wt, dc, H, N, K⟩ := h.2.2.2.2.1
  intro a0
  unfold p6_when p7_when
  rcases kv_arg a0 n with ⟨i, hi, rfl⟩ | ho
  · have l0 := kn_P_le N hi 0
    refine ⟨_, s3_kite_in N hi (kv_some ⟨(kn_K N hi).1, 4, s6_when_L N hi ⟨rfl, s7_kite_in N hi (kv_F (by decide) ⟨5, ?_⟩)⟩ 4 0 (by omega) (by omega)⟩)⟩
    have eh : τ.1 1 (1 : Int32).toNatClampNeg = nI (H dc 0) := kn_mh (σ := σ) N
    rw [p7_when_L17, eh]
    refine kv_f (by decide) (kn_mwind N (a := 0) (kv_add _ 0) (by omega) (s7_paysIn rfl (kn_M N hi) (kn_wm N _) ?_))
    show (nI (kn_P kd wd hv w (H dc) i 0) ≤ -1 → _) ∧ (¬ nI (kn_P kd wd hv w (H dc) i 0) ≤ -1 → _)
    have c : ¬ nI (kn_P kd wd hv w (H dc) i 0) ≤ -1 := by rw [kv_le, kv_n (by omega)]; show ¬ _ ≤ (-1 : Int); omega
    exact kv_f c (kv_f c (s7_when_L N hi ⟨rfl, kr_tell h _⟩ 4 0 (by omega) (by omega)))
  · exact ⟨-1, s3_kite_out N ho (kv_none ⟨rfl, s7_kite_out N ho (kv_T rfl ⟨rfl, h⟩)⟩)⟩
end
