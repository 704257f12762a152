section
variable {σ τ : kx_St} {n : Nat} {kd wd hv w : Nat → Nat} {wt dc : Nat} {H : Nat → Nat → Nat}
theorem ku_andn : ∀ a, a < 64 → ∀ b, b < 64 → nI a &&& (nI b ^^^ (-1 : Int32)) = nI (a &&& (63 ^^^ b)) := by decide +kernel
theorem kf_only {x l F : Nat} (hl : l < 64) (hF : F < 64) (h1 : ∀ i, x.testBit i = true → F.testBit i = true) (h2 : ∀ i, l.testBit i = true → F.testBit i = false) : (x ||| l) &&& (63 ^^^ F) = l := by
  refine Nat.eq_of_testBit_eq fun i => ?_
  rw [Nat.testBit_and, Nat.testBit_or, Nat.testBit_xor, show (63 : Nat) = 2 ^ 6 - 1 from rfl, Nat.testBit_two_pow_sub_one]
  by_cases hi : i < 6
  · rw [decide_eq_true hi]
    have a := h1 i
    have b := h2 i
    revert a b
    cases x.testBit i <;> cases l.testBit i <;> cases F.testBit i <;> simp
  · have e : l.testBit i = false := Nat.testBit_lt_two_pow (Nat.lt_of_lt_of_le hl (show 2 ^ 6 ≤ 2 ^ i from Nat.pow_le_pow_right (by decide) (by omega)))
    have eF : F.testBit i = false := Nat.testBit_lt_two_pow (Nat.lt_of_lt_of_le hF (show 2 ^ 6 ≤ 2 ^ i from Nat.pow_le_pow_right (by decide) (by omega)))
    rw [e, eF, decide_eq_false hi]
    simp
theorem kf_or64 {a b : Nat} (ha : a < 64) (hb : b < 64) : a ||| b < 64 := Nat.or_lt_two_pow (n := 6) ha hb
def kf_S (P : Nat → Nat → Nat) (p : Nat → Int32) : Nat → Nat → Nat → Nat
  | 0, _, s => s
  | d + 1, j, s => if p j = -9 then kf_S P p d (j + 1) s else kf_S P p d (j + 1) (s + P (p j).toNatClampNeg j)
def kf_B (U : Nat → Nat → Bool) (p : Nat → Int32) : Nat → Nat → Nat → Nat
  | 0, _, l => l
  | d + 1, j, l => if p j = -9 then kf_B U p d (j + 1) l else kf_B U p d (j + 1) (if U (p j).toNatClampNeg j = true then l ||| 2 ^ (p j).toNatClampNeg else l)
def kf_U (kd wd hv w v : Nat → Nat) (h0 i j : Nat) : Bool := decide (4 * hv i < ku_lift (kd i) (wd i) (v (3 + i)) (w ((h0 + j) % 4)))
def kf_P (kd wd hv w v : Nat → Nat) (h0 i j : Nat) : Nat := kt_P kd wd hv w v i (h0 + j)
theorem s6_flL (N : kr_now σ τ n kd wd hv w wt dc H) {r m : Nat} {Q : kx_St → Int32 → Prop} (hr : r < 6) (hm : m ≤ 20) (hs : σ.1 (60 + r) 1 = nI m) : ∀ d j u s l, j + d = m → l < 64 → kf_ok n (σ.1 (70 + r)) d j u → Q (kx_sI σ 0 10 (nI (kf_B (kf_U kd wd hv w (H dc) (H dc 0)) (σ.1 (70 + r)) d j l))) (nI (kf_S (kf_P kd wd hv w (H dc) (H dc 0)) (σ.1 (70 + r)) d j s)) → p6_flown_L78 (d + 1) σ (60 + r) (nI s) (nI l) (nI j) Q := by
  have n6 := kn_n6 N
  intro d
  induction d with
  | zero =>
    intro j u s l hj hl ok q
    obtain rfl : j = m := by omega
    unfold p6_flown_L78
    rw [hs]
    exact kv_t (by rw [kv_leN (by omega) (by omega)]; omega) q
  | succ d ih =>
    intro j u s l hj hl ok q
    have hjm : j < m := by omega
    have nle : ¬ nI m ≤ nI j := by rw [kv_leN (by omega) (by omega)]; omega
    rw [p6_flown_L78, hs]
    refine kv_f nle (s5_get (ku_row hr) hs (by omega) hjm ?_)
    rw [show nI j + 1 = nI (j + 1) from nI_1 _]
    rcases ok with ⟨x9, ok⟩ | ⟨i, hi, xi, ub, ok⟩
    · rw [kf_B, kf_S, if_pos x9, if_pos x9] at q
      rw [x9]
      exact s3_kite_out N (Or.inl (by decide)) (kv_none (ih (j + 1) u s l (by omega) hl ok q))
    · have i6 : i < 6 := by omega
      have x9 : ¬ σ.1 (70 + r) j = -9 := by rw [xi]; exact kf_n9 i6
      rw [kf_B, kf_S, if_neg x9, if_neg x9, xi, kv_c (by omega)] at q
      rw [xi]
      refine s3_kite_in N hi (kv_some ⟨(kn_K N hi).1, kn_cwind N (by omega) (s1_payIn (kn_K N hi) (kn_wm N _) (s1_isLiftedIn (kn_K N hi) (kn_wm N _) (fun c => kv_f (by decide) ?_) (fun c => kv_t rfl ?_)))⟩)
      · refine s5_get (ku_row hr) hs (by omega) hjm ?_
        rw [xi, (ku_or l hl i i6).1, kv_add]
        rw [if_pos (show kf_U kd wd hv w (H dc) (H dc 0) i j = true from decide_eq_true c)] at q
        exact ih (j + 1) _ _ _ (by omega) (ku_or64 l hl i i6) ok q
      · rw [(ku_or l hl 0 (by decide)).2, kv_add]
        rw [if_neg (show ¬ kf_U kd wd hv w (H dc) (H dc 0) i j = true by rw [kf_U, decide_eq_false c]; decide)] at q
        exact ih (j + 1) _ _ _ (by omega) hl ok q
theorem s7_flL (N : kr_now σ τ n kd wd hv w wt dc H) {r m : Nat} {p : Nat → Int32} {Q : kx_St → Int32 → Prop} (hr : r < 6) (hm : m ≤ 20) (ht : τ.1 6 r = nI m) (hp : ∀ j, j < m → τ.1 7 (40 * r + j) = p j) : ∀ d j u s l t, j + d = m → u < 64 → l < 64 → kf_ok n p d j u → (∀ i, (H dc 1).testBit i = true → u.testBit i = true) → (∀ i, l.testBit i = true → (H dc 1).testBit i = false) → kt_F τ t → kt_I t n (H dc) (H dc 0 + j) u (H dc 2 ||| l) → (∀ t', kt_F τ t' → Q (kx_sI t' 0 11 (nI (kf_B (kf_U kd wd hv w (H dc) (H dc 0)) p d j l))) (nI (kf_S (kf_P kd wd hv w (H dc) (H dc 0)) p d j s))) → p7_flown_L73 (d + 1) t (nI r) (nI s) (nI j) Q := by
  have n6 := kn_n6 N
  have V := kn_v N
  have f64 := kp_f64 V n6
  have h40 := kn_h40 N
  have v6 : vp_in (nI r) 6 := kv_in hr (by decide)
  intro d
  induction d with
  | zero =>
    intro j u s l t hj hu hl ok Fu Lf F I q
    obtain rfl : j = m := by omega
    unfold p7_flown_L73
    rw [kv_c (show r < 2147483648 by omega), F.2.1 6 (by decide) (by decide), ht]
    refine ⟨v6, kv_t (by rw [kv_leN (by omega) (by omega)]; omega) ?_⟩
    have e1 : t.1 1 (2467 : Int32).toNatClampNeg = nI (H dc 2 ||| l) := I.2.2.1
    have e2 : t.1 1 (2 : Int32).toNatClampNeg = nI (H dc 1) := (F.1 2 (by decide)).trans (kn_mk N (k := 1) (by decide))
    rw [e1, e2, ku_andn _ (kf_or64 f64.2 hl) _ f64.1, kf_only hl f64.1 V.2.1 Lf]
    exact q t F
  | succ d ih =>
    intro j u s l t hj hu hl ok Fu Lf F I q
    have hjm : j < m := by omega
    have nle : ¬ nI m ≤ nI j := by rw [kv_leN (by omega) (by omega)]; omega
    rw [p7_flown_L73, kv_c (show r < 2147483648 by omega), kv_40, kv_c (show 40 * r + j < 2147483648 by omega), F.2.1 6 (by decide) (by decide), F.2.1 7 (by decide) (by decide), ht, hp j hjm, show nI j + 1 = nI (j + 1) from nI_1 _]
    refine ⟨v6, kv_f nle ⟨kv_in (by omega) (by decide), ?_⟩⟩
    rcases ok with ⟨x9, ok⟩ | ⟨i, hi, xi, ub, ok⟩
    · rw [kf_B, kf_S, if_pos x9, if_pos x9] at q
      have FI := kt_hour F I
      refine kv_T x9 ?_
      have e : t.1 1 (2465 : Int32).toNatClampNeg = nI (H dc 0 + j) := I.1
      rw [e, show nI (H dc 0 + j) + 1 = nI (H dc 0 + j + 1) from nI_1 _]
      exact ih (j + 1) u s l _ (by omega) hu hl ok Fu Lf FI.1 FI.2 q
    · have i6 : i < 6 := by omega
      have x9 : ¬ p j = -9 := by rw [xi]; exact kf_n9 i6
      have uF : (H dc 1).testBit i = false := by
        rcases hh : (H dc 1).testBit i with _ | _
        · rfl
        · rw [Fu i hh] at ub; cases ub
      have Fu' : ∀ k, (H dc 1).testBit k = true → (u ||| 2 ^ i).testBit k = true := fun k hk => kv_tb.mpr (Or.inl (Fu k hk))
      rw [kf_B, kf_S, if_neg x9, if_neg x9, xi, kv_c (by omega)] at q
      refine kv_F x9 ?_
      rw [xi]
      refine kt_fly N F I hi (by omega) hu (kf_or64 f64.2 hl) (fun t' F' I' _ => ?_)
      rw [kv_add]
      by_cases c : 4 * hv i < ku_lift (kd i) (wd i) (H dc (3 + i)) (w ((H dc 0 + j) % 4))
      · rw [if_pos c, Nat.or_assoc] at I'
        rw [if_pos (show kf_U kd wd hv w (H dc) (H dc 0) i j = true from decide_eq_true c)] at q
        refine ih (j + 1) _ _ _ t' (by omega) (ku_or64 u hu i i6) (ku_or64 l hl i i6) ok Fu' (fun k hk => ?_) F' I' q
        rcases kv_tb.mp hk with z | z
        · exact Lf k z
        · rw [← z]; exact uF
      · rw [if_neg c] at I'
        rw [if_neg (show ¬ kf_U kd wd hv w (H dc) (H dc 0) i j = true by rw [kf_U, decide_eq_false c]; decide)] at q
        exact ih (j + 1) _ _ _ t' (by omega) (ku_or64 u hu i i6) hl ok Fu' Lf F' I' q
theorem th_flown (σ τ : kx_St) (h : kr_R σ τ) : lt_flown kr_R σ τ := by
  obtain ⟨n, kd, wd, hv, w, wt, dc, H, N, K⟩ := h.2.2.2.2.1
  intro a0
  have n6 := kn_n6 N
  have f64 := kp_f64 (kn_v N) n6
  unfold p6_flown
  rcases kv_arg a0 6 with ⟨r, hr, rfl⟩ | ho
  · have R := ku_row hr
    by_cases n0 : n = 0
    · refine ⟨-4, s6_pick1_in hr (kv_some ⟨R.1, s3_isEmpty (j := 0) (by decide) (kn_cn N) n6 (fun z => by omega) (fun _ => kv_f (by decide) ⟨rfl, ?_⟩)⟩)⟩
      unfold p7_flown
      exact s7_isRow_in hr (kv_F (by decide) (kv_T ((kn_mn N).trans (by rw [n0]; rfl)) ⟨rfl, h⟩))
    · have c0 : ¬ τ.1 0 3 = 0 := by
        rw [kn_mn N]
        exact fun e => n0 ((kv_inj (b := 0) (by omega) (by decide)).mp e)
      obtain ⟨e1, e2⟩ := h.1 r hr
      have M : ∀ {Q : kx_St → Int32 → Prop}, ((0 ≤ σ.1 (60 + r) 1 → (σ.1 (60 + r) 1 ≤ 20 → p7_isFlying τ (nI r) (fun r8 => (¬ r8 = 0 → p7_layTried τ (fun σ11 => ∃ m73, p7_flown_L73 m73 σ11 (nI r) 0 0 Q)) ∧ (r8 = 0 → p7_find τ 3 (fun σ13 r12 => Q σ13 r12)))) ∧ (¬ σ.1 (60 + r) 1 ≤ 20 → p7_find τ 5 (fun σ15 r14 => Q σ15 r14))) ∧ (¬ 0 ≤ σ.1 (60 + r) 1 → p7_find τ 1 (fun σ17 r16 => Q σ17 r16))) → p7_flown τ (nI r) Q := by
        intro Q q
        unfold p7_flown
        rw [kv_c (show r < 2147483648 by omega), e1]
        exact s7_isRow_in hr (kv_F (by decide) (kv_F c0 ⟨kv_in hr (by decide), fun z => ⟨kv_in hr (by decide), q.1 z⟩, q.2⟩))
      have E : ∀ {Q : Int32 → Prop}, Q 0 → p3_isEmpty σ 4 Q := fun q => s3_isEmpty (j := 0) (by decide) (kn_cn N) n6 (fun _ => q) (fun z => absurd z n0)
      rcases e2 with e2 | ⟨m, hm, e2, e3⟩
      · refine ⟨-3, s6_pick1_in hr (kv_some ⟨R.1, E (kv_t rfl (s5_isThere_no R e2 (kv_T rfl (s6_found (f := 1) rfl (by decide) ⟨rfl, M ⟨fun z => ?_, fun _ => s7_find (f := 1) rfl (by decide) ⟨rfl, kr_found h (by decide)⟩⟩⟩))))⟩)⟩
        rw [e2] at z
        exact absurd z (by decide)
      · have z0 : (0 : Int32) ≤ σ.1 (60 + r) 1 := by rw [e2]; exact kv_ge0 (by omega)
        by_cases m20 : m ≤ 20
        · have z20 : σ.1 (60 + r) 1 ≤ 20 := by rw [e2]; show nI m ≤ nI 20; rw [kv_leN (by omega) (by decide)]; exact m20
          obtain ⟨b, hb, b1, b2⟩ := kr_isFl N hr hm e2 (e1.trans e2) e3 m 0 (H dc 1) (by omega) f64.1
          have A1 : ∀ {Q : Int32 → Prop}, Q b → p6_isFlying σ (60 + r) Q := fun {Q} q => ⟨R.1, s3_flownSet N ⟨_, b1 Q q⟩⟩
          have A2 : ∀ {Q : Int32 → Prop}, Q b → p7_isFlying τ (nI r) Q := fun {Q} q => by
            unfold p7_isFlying
            rw [show τ.1 1 (2 : Int32).toNatClampNeg = nI (H dc 1) from kn_mk N (k := 1) (by decide)]
            exact ⟨_, b2 Q q⟩
          rcases hb with hb | ⟨hb, ok⟩
          · subst hb
            exact ⟨-3, s6_pick1_in hr (kv_some ⟨R.1, E (kv_t rfl (s5_isThere_yes R e2 hm (kv_F (by decide) (kv_t z20 (A1 (kv_T rfl (s6_found (f := 3) rfl (by decide) ⟨rfl, M ⟨fun _ => kv_t z20 (A2 (kv_T rfl (s7_find (f := 3) rfl (by decide) ⟨rfl, kr_found h (by decide)⟩))), fun z => absurd z0 z⟩⟩)))))))⟩)⟩
          · subst hb
            have Lay := kt_lay N
            refine ⟨nI (kf_S (kf_P kd wd hv w (H dc) (H dc 0)) (σ.1 (70 + r)) m 0 0), s6_pick1_in hr (kv_some ⟨R.1, E (kv_t rfl (s5_isThere_yes R e2 hm (kv_F (by decide) (kv_t z20 (A1 (kv_F (by decide) ⟨m + 1, s6_flL N hr m20 e2 m 0 (H dc 1) 0 0 (by omega) (by decide) ok ⟨rfl, M ⟨fun _ => kv_t z20 (A2 (kv_F (by decide) (s7_layTried ⟨m + 1, s7_flL N hr m20 (e1.trans e2) e3 m 0 (H dc 1) 0 0 _ (by omega) f64.1 (by decide) ok (fun _ z => z) (fun i z => by rw [Nat.zero_testBit] at z; cases z) Lay.1 ?_ (fun t' F' => ⟨rfl, kr_tell (kt_R h F') _⟩)⟩))), fun z => absurd z0 z⟩⟩⟩))))))⟩)⟩
            rw [Nat.or_zero]
            exact Lay.2.1
        · have z20 : ¬ σ.1 (60 + r) 1 ≤ 20 := by rw [e2]; show ¬ nI m ≤ nI 20; rw [kv_leN (by omega) (by decide)]; exact m20
          exact ⟨-3, s6_pick1_in hr (kv_some ⟨R.1, E (kv_t rfl (s5_isThere_yes R e2 hm (kv_F (by decide) (kv_f z20 (s6_found (f := 5) rfl (by decide) ⟨rfl, M ⟨fun _ => kv_f z20 (s7_find (f := 5) rfl (by decide) ⟨rfl, kr_found h (by decide)⟩), fun z => absurd z0 z⟩⟩)))))⟩)⟩
  · refine ⟨-1, s6_pick1_out ho (kv_none ⟨rfl, ?_⟩)⟩
    unfold p7_flown
    exact s7_isRow_out ho (kv_T rfl ⟨rfl, h⟩)
end
