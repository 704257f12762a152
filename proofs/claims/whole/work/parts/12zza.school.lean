section
variable {σ τ s t : kx_St} {n : Nat} {kd wd hv w : Nat → Nat} {wt dc : Nat} {H : Nat → Nat → Nat}
theorem s6_weighMost (N : kr_now σ τ n kd wd hv w wt dc H) {hrs : Nat} {Q : kx_St → Int32 → Prop} (F : kb_F σ s) (hr : hrs ≤ 6) (q : ∀ s', kb_I σ false n kd wd hv w (H dc) hrs 0 s' → Q s' (nI (kb_W false n kd wd hv w (H dc) hrs 0 (H dc 1)))) : p0_weighMost s 26 4 (nI hrs) Q := ⟨ky_fl.1, (ky_par 0 (by decide)).1, s0_weigh N (dl := false) F hr q⟩
theorem th_most (σ τ : kx_St) (h : kr_R σ τ) : lt_most kr_R σ τ := by
  obtain ⟨n, kd, wd, hv, w, wt, dc, H, N, K⟩ := h.2.2.2.2.1
  intro a0 a1
  have n6 := kn_n6 N
  have mn := kn_mn N
  have no7 : ∀ {x : Int32}, (x.toInt < 0 ∨ ((5 + 1 : Nat) : Int) ≤ x.toInt) → p7_most τ x a1 (fun w q => q = -1 ∧ kr_R σ w) := fun ho => s7_rng_out (N := 5) rfl ho (kv_t rfl ⟨rfl, h⟩)
  rcases kv_arg a1 6 with ⟨r, r6, rfl⟩ | hro
  · have R := ku_row r6
    rcases kv_arg a0 6 with ⟨m, hm, rfl⟩ | ho
    · have g5 : nI m ≤ 5 := by show nI m ≤ nI 5; rw [kv_leN (by omega) (by decide)]; omega
      by_cases h0 : n = 0
      · exact ⟨-4, s6_pick1_in r6 (kv_some ⟨R.1, kv_f (kv_ge (by omega)) (kv_t g5 (s3_isEmpty (j := 0) (by decide) (kn_cn N) n6 (fun z => by omega) (fun _ => kv_f (by decide) ⟨rfl, s7_rng_in (N := 5) rfl hm (by decide) (kv_f (by decide) (s7_isRow_in r6 (kv_F (by decide) (kv_T (mn.trans (by rw [h0]; rfl)) ⟨rfl, h⟩))))⟩)))⟩)⟩
      · have c0 : ¬ τ.1 0 3 = 0 := by rw [mn]; exact fun e => h0 ((kv_inj (b := 0) (by omega) (by decide)).mp e)
        exact ⟨_, s6_pick1_in r6 (kv_some ⟨R.1, kv_f (kv_ge (by omega)) (kv_t g5 (s3_isEmpty (j := 0) (by decide) (kn_cn N) n6 (fun _ => kv_t rfl (s6_weighMost N (kb_refl σ) (by omega) (fun s1 I1 => s0_tellFirst N (by omega) r6 I1 (fun s2 T2 => ⟨rfl, s7_rng_in (N := 5) rfl hm (by decide) (kv_f (by decide) (s7_isRow_in r6 (kv_F (by decide) (kv_F c0 (s7_mostIn N (by omega) (kt_refl τ) (fun t1 F1 b1 => s7_tellLine (by omega) r6 (fun x hx => by have := kb_ln_le n (kb_fb false kd wd hv w (H dc)) (kb_g kd wd hv w (H dc)) m 0 (H dc 1) x; omega) b1 (fun t2 U2 => ⟨rfl, kr_T (kt_R (kb_R h I1.1) F1) r6 (by omega) T2 U2⟩)))))))⟩)))) (fun z => absurd z h0)))⟩)⟩
    · refine ⟨-1, s6_pick1_in r6 (kv_some ⟨R.1, fun _ => ⟨rfl, no7 ho⟩, fun c => kv_f ?_ ⟨rfl, no7 ho⟩⟩)⟩
      show ¬ a0 ≤ nI 5
      have c : ¬ a0.toInt < 0 := fun r => c (kv_lt.mpr r)
      rw [kv_le, kv_n (by omega)]; omega
  · refine ⟨-1, s6_pick1_out hro (kv_none ⟨rfl, ?_⟩)⟩
    rcases kv_arg a0 6 with ⟨m, hm, rfl⟩ | ho
    · exact s7_rng_in (N := 5) rfl hm (by decide) (kv_f (by decide) (s7_isRow_out hro (kv_T rfl ⟨rfl, h⟩)))
    · exact no7 ho
def kn_en (n : Nat) (kd wd hv w v : Nat → Nat) (wt j : Nat) : Prop := wt ≤ kp_sum v + kb_W false n kd wd hv w v j 0 (v 1)
theorem s6_sch_L (N : kr_now σ τ n kd wd hv w wt dc H) {r : Nat} {Q : kx_St → Int32 → Prop} (r6 : r < 6) : ∀ d m s, m + d = 6 → kb_F σ s → ((∀ j, m ≤ j → j < 6 → ¬ kn_en n kd wd hv w (H dc) wt j) → ∀ s', kb_F σ s' → Q s' (-9)) → (∀ j, m ≤ j → j < 6 → kn_en n kd wd hv w (H dc) wt j → (∀ i, m ≤ i → i < j → ¬ kn_en n kd wd hv w (H dc) wt i) → ∀ s1 s2, kb_F σ s1 → kb_T r j (kb_ln n (kb_fb false kd wd hv w (H dc)) (kb_g kd wd hv w (H dc)) j 0 (H dc 1)) s1 s2 → Q s2 (nI j)) → p6_school_L30 (d + 1) s (60 + r) (nI m) Q := by
  have n6 := kn_n6 N
  have sl := kp_sum_le N
  have wt1 := N.1.2.1
  intro d
  induction d with
  | zero =>
    intro m s hm F q9 q
    obtain rfl : m = 6 := by omega
    unfold p6_school_L30
    exact kv_t (by decide) (q9 (fun j h1 h2 => by omega) s F)
  | succ d ih =>
    intro m s hm F q9 q
    have bl := kb_W_le N false (show m ≤ 6 by omega) 0 (H dc 1)
    rw [p6_school_L30, show nI m + 1 = nI (m + 1) from nI_1 _]
    refine kv_f (by show ¬ nI 5 < nI m; rw [kv_ltN (by decide) (by omega)]; omega) (s6_weighMost N F (by omega) (fun s1 I1 => ?_))
    rw [F.1 4 (by decide) (by decide), I1.1.1 4 (by decide) (by decide), show σ.1 4 7 = nI (kp_sum (H dc)) from N.2.2.2.2.1.2.2.1, show σ.1 4 4 = nI wt from N.2.1.2.1, kv_add, kv_ltN (by omega) (by omega)]
    refine ⟨fun z => ih (m + 1) s1 (by omega) I1.1 (fun h9 => q9 (fun j h1 h2 => ?_)) (fun j h1 h2 h3 h4 => q j (by omega) h2 h3 (fun i i1 i2 => ?_)), fun z => s0_tellFirst N (by omega) r6 I1 (fun s2 T2 => q m (Nat.le_refl _) (by omega) (by unfold kn_en; omega) (fun i h1 h2 => by omega) s1 s2 I1.1 T2)⟩
    · by_cases e : j = m
      · subst e; unfold kn_en; omega
      · exact h9 j (by omega) h2
    · by_cases e : i = m
      · subst e; unfold kn_en; omega
      · exact h4 i (by omega) i2
theorem s7_sch_L (N : kr_now σ τ n kd wd hv w wt dc H) {r : Nat} {Q : kx_St → Int32 → Prop} (r6 : r < 6) : ∀ d m t, m + d = 6 → kt_F τ t → ((∀ j, m ≤ j → j < 6 → ¬ kn_en n kd wd hv w (H dc) wt j) → ∀ t', kt_F τ t' → Q t' (-9)) → (∀ j, m ≤ j → j < 6 → kn_en n kd wd hv w (H dc) wt j → (∀ i, m ≤ i → i < j → ¬ kn_en n kd wd hv w (H dc) wt i) → ∀ t1 t2, kt_F τ t1 → kt_T r j (kb_ln n (kb_fb false kd wd hv w (H dc)) (kb_g kd wd hv w (H dc)) j 0 (H dc 1)) t1 t2 → Q t2 (nI j)) → p7_school_L21 (d + 1) t (nI r) (nI m) Q := by
  have n6 := kn_n6 N
  have sl := kp_sum_le N
  have wt1 := N.1.2.1
  intro d
  induction d with
  | zero =>
    intro m t hm F q9 q
    obtain rfl : m = 6 := by omega
    unfold p7_school_L21
    exact kv_t (by decide) (q9 (fun j h1 h2 => by omega) t F)
  | succ d ih =>
    intro m t hm F q9 q
    have bl := kb_W_le N false (show m ≤ 6 by omega) 0 (H dc 1)
    rw [p7_school_L21, show nI m + 1 = nI (m + 1) from nI_1 _]
    refine kv_f (by show ¬ nI 6 ≤ nI m; rw [kv_leN (by decide) (by omega)]; omega) (s7_paidIn (kt_N N F) (s7_mostIn N (by omega) F (fun t1 F1 b1 => ?_)))
    rw [F1.2.1 0 (by decide) (by decide), show τ.1 0 2 = nI wt from N.2.2.1.2.1, kv_add, kv_ltN (by omega) (by omega)]
    refine ⟨fun z => ih (m + 1) t1 (by omega) F1 (fun h9 => q9 (fun j h1 h2 => ?_)) (fun j h1 h2 h3 h4 => q j (by omega) h2 h3 (fun i i1 i2 => ?_)), fun z => s7_tellLine (by omega) r6 (fun x hx => by have := kb_ln_le n (kb_fb false kd wd hv w (H dc)) (kb_g kd wd hv w (H dc)) m 0 (H dc 1) x; omega) b1 (fun t2 U2 => q m (Nat.le_refl _) (by omega) (by unfold kn_en; omega) (fun i h1 h2 => by omega) t1 t2 F1 U2)⟩
    · by_cases e : j = m
      · subst e; unfold kn_en; omega
      · exact h9 j (by omega) h2
    · by_cases e : i = m
      · subst e; unfold kn_en; omega
      · exact h4 i (by omega) i2
theorem kn_min (P : Nat → Prop) (h : ¬ ∃ j, j < 6 ∧ P j ∧ ∀ i, i < j → ¬ P i) : ∀ j, j < 6 → ¬ P j := by
  intro j
  induction j using Nat.strongRecOn with
  | _ j ih => exact fun hj hp => h ⟨j, hj, hp, fun i hi => ih i hi (by omega)⟩
theorem th_school (σ τ : kx_St) (h : kr_R σ τ) : lt_school kr_R σ τ := by
  obtain ⟨n, kd, wd, hv, w, wt, dc, H, N, K⟩ := h.2.2.2.2.1
  intro a0
  have n6 := kn_n6 N
  have mn := kn_mn N
  rcases kv_arg a0 6 with ⟨r, r6, rfl⟩ | hro
  · have R := ku_row r6
    by_cases h0 : n = 0
    · exact ⟨-4, s6_pick1_in r6 (kv_some ⟨R.1, s3_isEmpty (j := 0) (by decide) (kn_cn N) n6 (fun z => by omega) (fun _ => kv_f (by decide) ⟨rfl, s7_isRow_in r6 (kv_F (by decide) (kv_T (mn.trans (by rw [h0]; rfl)) ⟨rfl, h⟩))⟩)⟩)⟩
    · have c0 : ¬ τ.1 0 3 = 0 := by rw [mn]; exact fun e => h0 ((kv_inj (b := 0) (by omega) (by decide)).mp e)
      have E : ∀ {Q : Int32 → Prop}, Q 0 → p3_isEmpty σ 4 Q := fun q => s3_isEmpty (j := 0) (by decide) (kn_cn N) n6 (fun _ => q) (fun z => absurd z h0)
      have M : ∀ {Q : kx_St → Int32 → Prop}, (∃ m21, p7_school_L21 m21 τ (nI r) 0 Q) → p7_school τ (nI r) Q := fun q => s7_isRow_in r6 (kv_F (by decide) (kv_F c0 q))
      by_cases ex : ∃ j, j < 6 ∧ kn_en n kd wd hv w (H dc) wt j ∧ ∀ i, i < j → ¬ kn_en n kd wd hv w (H dc) wt i
      · obtain ⟨j0, j6, en0, mi⟩ := ex
        have un : ∀ j, j < 6 → kn_en n kd wd hv w (H dc) wt j → (∀ i, 0 ≤ i → i < j → ¬ kn_en n kd wd hv w (H dc) wt i) → j = j0 := fun j _ e m => by
          rcases Nat.lt_trichotomy j j0 with c | c | c
          · exact absurd e (mi j c)
          · exact c
          · exact absurd en0 (m j0 (Nat.zero_le _) c)
        refine ⟨nI j0, s6_pick1_in r6 (kv_some ⟨R.1, E (kv_t rfl ⟨7, s6_sch_L N r6 6 0 σ (by decide) (kb_refl σ) (fun no => absurd en0 (no j0 (Nat.zero_le _) j6)) (fun j _ hj e m s1 s2 F1 T2 => ?_)⟩)⟩)⟩
        obtain rfl := un j hj e m
        refine ⟨rfl, M ⟨7, s7_sch_L N r6 6 0 τ (by decide) (kt_refl τ) (fun no => absurd en0 (no j (Nat.zero_le _) j6)) (fun i _ hi e' m' t1 t2 F2 U2 => ?_)⟩⟩
        obtain rfl := un i hi e' m'
        exact ⟨rfl, kr_T (kt_R (kb_R h F1) F2) r6 (by omega) T2 U2⟩
      · have no := kn_min _ ex
        exact ⟨-9, s6_pick1_in r6 (kv_some ⟨R.1, E (kv_t rfl ⟨7, s6_sch_L N r6 6 0 σ (by decide) (kb_refl σ) (fun _ s' F1 => ⟨rfl, M ⟨7, s7_sch_L N r6 6 0 τ (by decide) (kt_refl τ) (fun _ t' F2 => ⟨rfl, kt_R (kb_R h F1) F2⟩) (fun j _ hj e => absurd e (no j hj))⟩⟩) (fun j _ hj e => absurd e (no j hj))⟩)⟩)⟩
  · refine ⟨-1, s6_pick1_out hro (kv_none ⟨rfl, ?_⟩)⟩
    exact s7_isRow_out hro (kv_T rfl ⟨rfl, h⟩)
end
