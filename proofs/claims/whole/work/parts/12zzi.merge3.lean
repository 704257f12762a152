section
variable {σ τ s : kx_St} {n : Nat} {kd wd hv w : Nat → Nat} {wt dc : Nat} {H : Nat → Nat → Nat}
theorem ku_bef : ∀ S, S < 64 → ∀ i, i < 6 → S.testBit i = false → nI (S ||| 2 ^ i) &&& (((1 : Int32) <<< (nI i &&& 31)) ^^^ (-1 : Int32)) = nI S := by decide +kernel
theorem s2_firstBest (N : kr_now σ τ n kd wd hv w wt dc H) {x k d S : Nat} {Q : Int32 → Prop} (hx : x < 10) (hk : k + (d + 1) = n) (hS : S < 2 ^ n) (lo : ∀ j, j < k → S.testBit j = true) (b : S.testBit k = false) (W : ∀ T, T < 2 ^ n → σ.1 25 T = nI (km_W n (kn_cr kd wd (H dc) x) T)) (q : Q (kb_val (km_c (km_o n (kn_cr kd wd (H dc) x) d k S)))) : p2_firstBest σ 27 4 (nI x) (nI (S ||| 2 ^ k)) (nI k) Q := by
  have n6 := kn_n6 N
  have p64 := (ko_126 n6).2.1
  have kn : k < n := by omega
  have o := kb_or n6 hS kn
  obtain ⟨e1, e2, e3⟩ := km_eq (cr := kn_cr kd wd (H dc) x) hk lo b
  have cl : ∀ i j, i < n → j < n → kn_cr kd wd (H dc) x i j ≤ 105 := fun i j hi hj => kn_cr_le N hi hj hx
  have Wl : ∀ T, km_W n (kn_cr kd wd (H dc) x) T ≤ 105 * n := fun T => km_V_le cl n 0 T (by omega)
  have L : ∀ e j, j + e = n → k < j → ((∃ j0, j ≤ j0 ∧ j0 < n ∧ S.testBit j0 = false ∧ kn_cr kd wd (H dc) x k j0 + km_W n (kn_cr kd wd (H dc) x) (S ||| 2 ^ k ||| 2 ^ j0) = km_W n (kn_cr kd wd (H dc) x) S ∧ (∀ i, j ≤ i → i < j0 → S.testBit i = false → kn_cr kd wd (H dc) x k i + km_W n (kn_cr kd wd (H dc) x) (S ||| 2 ^ k ||| 2 ^ i) ≠ km_W n (kn_cr kd wd (H dc) x) S) ∧ Q (nI j0)) ∨ ((∀ i, j ≤ i → i < n → S.testBit i = true) ∧ Q (-9))) → p2_firstBest_L42 (e + 1) σ 27 4 (nI x) (nI (S ||| 2 ^ k)) (nI k) (nI S) (nI j) Q := by
    intro e
    induction e with
    | zero =>
      intro j hj kj hy
      obtain rfl : j = n := by omega
      unfold p2_firstBest_L42
      rw [show σ.1 4 3 = nI j from kn_cn N]
      refine kv_t (by rw [kv_leN (by omega) (by omega)]; omega) ?_
      rcases hy with ⟨j0, h1, h2, _⟩ | ⟨_, h⟩
      · omega
      · exact h
    | succ e ih =>
      intro j hj kj hy
      have hjn : j < n := by omega
      have o2 := kb_or n6 o.1 hjn
      have b0 := ku_bit0 (S ||| 2 ^ k) o.2.2 j (by omega)
      have eb : (S ||| 2 ^ k).testBit j = S.testBit j := by
        rcases hh : S.testBit j with _ | _
        · rcases h2 : (S ||| 2 ^ k).testBit j with _ | _
          · rfl
          · rcases kv_tb.mp h2 with h | h
            · rw [hh] at h; cases h
            · omega
        · exact kv_tb.mpr (Or.inl hh)
      rw [eb] at b0
      have v2 := cl k j kn hjn
      have v3 := Wl (S ||| 2 ^ k ||| 2 ^ j)
      have v4 := Wl S
      rw [p2_firstBest_L42, show σ.1 4 3 = nI n from kn_cn N, show nI j + 1 = nI (j + 1) from nI_1 _]
      refine kv_f (by rw [kv_leN (by omega) (by omega)]; omega) ⟨fun z => ih (j + 1) (by omega) (by omega) ?_, fun z => s3_crossLift N kn hjn hx ?_⟩
      · have bj : S.testBit j = true := by
          rcases hh : S.testBit j with _ | _
          · exact absurd (b0.mpr hh) z
          · rfl
        rcases hy with ⟨j0, h1, h2, h3, h4, h5, h6⟩ | ⟨h1, h2⟩
        · refine Or.inl ⟨j0, ?_, h2, h3, h4, fun i i1 i2 i3 => h5 i (by omega) i2 i3, h6⟩
          have : j ≠ j0 := fun e => by rw [e, h3] at bj; cases bj
          omega
        · exact Or.inr ⟨fun i i1 i2 => h1 i (by omega) i2, h2⟩
      · have bj := b0.mp z
        rw [(ku_or (S ||| 2 ^ k) o.2.2 j (by omega)).1]
        refine s2_worth o2.2.2 (s2_worth o.2.1 ?_)
        rw [W _ o2.1, W _ hS, kv_add, kv_inj (by unfold kn_cr at v2; omega) (by omega)]
        refine ⟨fun ne => ih (j + 1) (by omega) (by omega) ?_, fun eq => ?_⟩
        · rcases hy with ⟨j0, h1, h2, h3, h4, h5, h6⟩ | ⟨h1, h2⟩
          · refine Or.inl ⟨j0, ?_, h2, h3, h4, fun i i1 i2 i3 => h5 i (by omega) i2 i3, h6⟩
            have : j ≠ j0 := fun e => by rw [← e] at h4; exact ne h4
            omega
          · exact Or.inr ⟨fun i i1 i2 => h1 i (by omega) i2, h2⟩
        · rcases hy with ⟨j0, h1, h2, h3, h4, h5, h6⟩ | ⟨h1, h2⟩
          · by_cases e : j = j0
            · rw [e]; exact h6
            · exact absurd eq (h5 j (Nat.le_refl _) (by omega) bj)
          · rw [h1 j (Nat.le_refl _) hjn] at bj; cases bj
  have sp := km_f_spec (ml := km_ml n S) (out := km_out S k) (f := fun j => kn_cr kd wd (H dc) x k j + km_V n (kn_cr kd wd (H dc) x) d (k + 1) (S ||| 2 ^ k ||| 2 ^ j)) (b0 := km_V n (kn_cr kd wd (H dc) x) d (k + 1) (S ||| 2 ^ k)) n
  have free : ∀ i, km_out S k i = false ↔ k < i ∧ S.testBit i = false := fun i => by
    unfold km_out
    rw [Bool.or_eq_false_iff, decide_eq_false_iff_not]
    exact ⟨fun z => ⟨by have := z.1; omega, z.2⟩, fun z => ⟨by have := z.1; omega, z.2⟩⟩
  have go : km_c (km_o n (kn_cr kd wd (H dc) x) d k S) ≠ 0 ∨ km_o n (kn_cr kd wd (H dc) x) d k S = none → p2_firstBest_L42 (n - (k + 1) + 1) σ 27 4 (nI x) (nI (S ||| 2 ^ k)) (nI k) (nI S) (nI (k + 1)) Q := by
    intro hc
    refine L _ (k + 1) (by omega) (by omega) ?_
    cases ho : km_o n (kn_cr kd wd (H dc) x) d k S with
    | none =>
      rw [ho] at q
      obtain ⟨_, all⟩ := sp.1 ho
      refine Or.inr ⟨fun i i1 i2 => ?_, q⟩
      rcases hh : S.testBit i with _ | _
      · have := all i i2
        rw [(free i).mpr ⟨by omega, hh⟩] at this
        cases this
      · rfl
    | some p =>
      rw [ho] at q e1 hc
      obtain ⟨_, s2⟩ := sp.2 p.1 p.2 ho
      have e1 : km_W n (kn_cr kd wd (H dc) x) S = p.1 := e1
      rcases s2 with ⟨c0, _⟩ | ⟨j, hj, c, oj, fj, _, below⟩
      · rcases hc with hc | hc
        · exact absurd c0 hc
        · cases hc
      · have fr := (free j).mp oj
        rw [e2 j hj] at fj
        refine Or.inl ⟨j, by omega, hj, fr.2, by rw [e1]; exact fj, fun i i1 i2 i3 => ?_, ?_⟩
        · have := below i i2 ((free i).mpr ⟨by omega, i3⟩)
          rw [e2 i (by omega)] at this
          rw [e1]; omega
        · have q : Q (kb_val p.2) := q
          rw [c] at q
          exact q
  refine ⟨ky_pa.1, ky_pa.2.2.2, ?_⟩
  rw [ku_bef S o.2.1 k (by omega) b, show nI k + 1 = nI (k + 1) from nI_1 _]
  refine s2_mayLeave N hS (fun ml => kv_f (by decide) (s2_worth o.2.2 (s2_worth o.2.1 ?_))) (fun ml => kv_t rfl ⟨_, go ?_⟩)
  · have v1 := Wl (S ||| 2 ^ k)
    have v2 := Wl S
    rw [W _ o.1, W _ hS, kv_inj (by omega) (by omega)]
    cases ho : km_o n (kn_cr kd wd (H dc) x) d k S with
    | none =>
      have := (sp.1 ho).1
      rw [ml] at this; cases this
    | some p =>
      obtain ⟨_, s2⟩ := sp.2 p.1 p.2 ho
      have e1' : km_W n (kn_cr kd wd (H dc) x) S = p.1 := by rw [e1, ho]; rfl
      rcases s2 with ⟨c0, _, e⟩ | ⟨j, hj, c, oj, fj, up, below⟩
      · refine kv_T ?_ ?_
        · rw [e1', ← e3]; exact e.symm
        · rw [ho] at q
          have q : Q (kb_val p.2) := q
          rw [c0] at q
          exact q
      · refine kv_F (fun z => ?_) ⟨_, go (Or.inl ?_)⟩
        · have := up ml
          rw [e3] at this
          omega
        · rw [ho]
          show p.2 ≠ 0
          omega
  · cases ho : km_o n (kn_cr kd wd (H dc) x) d k S with
    | none => exact Or.inr rfl
    | some p =>
      obtain ⟨_, s2⟩ := sp.2 p.1 p.2 ho
      rcases s2 with ⟨_, m1, _⟩ | ⟨j, hj, c, _⟩
      · rw [ml] at m1; cases m1
      · refine Or.inl ?_
        show p.2 ≠ 0
        omega
theorem s2_tell_L {x r : Nat} {Q : kx_St → Prop} (hx : x < 10) (r6 : r < 6) : ∀ d k S q s, k + d = n → kr_now s τ n kd wd hv w wt dc H → S < 2 ^ n → (∀ j, j < k → S.testBit j = true) → (∀ T, T < 2 ^ n → s.1 25 T = nI (km_W n (kn_cr kd wd (H dc) x) T)) → s.1 (60 + r) 1 = nI n → (∀ p, p < n → s.1 (70 + r) p = kb_val (q p)) → (∀ s', (∀ a, a ≠ 70 + r → s'.1 a = s.1 a) → s'.2 = s.2 → (∀ p, p < n → s'.1 (70 + r) p = kb_val (km_ln n (kn_cr kd wd (H dc) x) d k S q p)) → Q s') → p2_tellFirst_L16 (d + 1) s 27 4 (nI x) (60 + r) (nI S) (nI k) Q := by
  intro d
  induction d with
  | zero =>
    intro k S q s hk N hS lo W hs row q'
    obtain rfl : k = n := by omega
    have n6 := kn_n6 N
    unfold p2_tellFirst_L16
    rw [show s.1 4 3 = nI k from kn_cn N]
    exact kv_t (by rw [kv_leN (by omega) (by omega)]; omega) (q' s (fun _ _ => rfl) rfl row)
  | succ d ih =>
    intro k S q s hk N hS lo W hs row q'
    have n6 := kn_n6 N
    have kn : k < n := by omega
    have o := kb_or n6 hS kn
    rw [p2_tellFirst_L16, show s.1 4 3 = nI n from kn_cn N, show nI k + 1 = nI (k + 1) from nI_1 _]
    rw [km_ln] at q'
    refine kv_f (by rw [kv_leN (by omega) (by omega)]; omega) (s6_bit o.2.1 (by omega) (fun b => ?_) (fun b => ?_))
    · rw [if_pos b] at q'
      refine ih (k + 1) S q s (by omega) N hS (fun j hj => ?_) W hs row q'
      by_cases e : j = k
      · rw [e]; exact b
      · exact lo j (by omega)
    · rw [if_neg (by rw [b]; decide)] at q'
      rw [(ku_or S o.2.1 k (by omega)).1]
      have up : ∀ j, j < k + 1 → (S ||| 2 ^ k).testBit j = true := fun j hj => by
        rw [kv_tb]
        by_cases e : j = k
        · exact Or.inr e.symm
        · exact Or.inl (lo j (by omega))
      refine s2_firstBest N hx hk hS lo b W ?_
      obtain ⟨c, hc⟩ : ∃ c, c = km_c (km_o n (kn_cr kd wd (H dc) x) d k S) := ⟨_, rfl⟩
      rw [← hc] at q' ⊢
      by_cases c0 : c = 0
      · rw [if_pos c0] at q'
        rw [c0]
        exact kv_t rfl (ih (k + 1) _ q s (by omega) N o.1 up W hs row q')
      · rw [if_neg c0] at q'
        obtain ⟨j, hj⟩ : ∃ j, c = j + 1 := ⟨c - 1, by omega⟩
        have kj : k < j ∧ j < n := by
          have sp := (km_f_spec (ml := km_ml n S) (out := km_out S k) (f := fun j => kn_cr kd wd (H dc) x k j + km_V n (kn_cr kd wd (H dc) x) d (k + 1) (S ||| 2 ^ k ||| 2 ^ j)) (b0 := km_V n (kn_cr kd wd (H dc) x) d (k + 1) (S ||| 2 ^ k)) n).2
          cases ho : km_o n (kn_cr kd wd (H dc) x) d k S with
          | none => rw [ho] at hc; exact absurd hc c0
          | some p =>
            rw [ho] at hc
            have hc : c = p.2 := hc
            rcases (sp p.1 p.2 ho).2 with ⟨e, _⟩ | ⟨i, hi, e, oi, _⟩
            · omega
            · unfold km_out at oi
              rw [Bool.or_eq_false_iff, decide_eq_false_iff_not] at oi
              omega
        rw [hj, show j + 1 - 1 = j from rfl] at q'
        have ev : kb_val c = nI j := by rw [hj]; rfl
        rw [ev]
        have o2 := kb_or n6 o.1 kj.2
        have s1 : (kx_sI s (70 + r) k (nI j)).1 (60 + r) 1 = nI n := (kv_un (by omega)).trans hs
        refine kv_f (kg_n9 (by omega)) (s5_set (ku_row r6) hs (by omega) kn (s5_set (ku_row r6) s1 (by omega) kj.2 ?_))
        rw [(ku_or (S ||| 2 ^ k) o.2.2 j (by omega)).1]
        refine ih (k + 1) _ (km_up q k j) _ (by omega) (kr_now_fr N (fun a ha => ?_) rfl rfl (fun _ _ => by intros; rfl) (fun _ _ => rfl)) o2.1 (fun i hi => kv_tb.mpr (Or.inl (up i hi))) (fun T hT => ?_) ((kv_un (by omega)).trans s1) (fun p hp => ?_) (fun s' f1 f2 f3 => q' s' (fun a ha => (f1 a ha).trans ((kv_ua ha).trans (kv_ua ha))) f2 f3)
        · unfold kr_pc at ha
          rw [kv_ua (by omega), kv_ua (by omega)]
        · rw [kv_un (by omega), kv_un (by omega)]; exact W T hT
        · by_cases e1 : p = j
          · subst e1
            rw [kv_us, km_up_j q kj.1]; rfl
          · rw [kv_un (by omega)]
            by_cases e2 : p = k
            · subst e2
              rw [kv_us, km_up_k]; rfl
            · rw [kv_un (by omega), km_up_x q e2 e1]; exact row p hp
theorem s2_tellFirst (N : kr_now σ τ n kd wd hv w wt dc H) {x r : Nat} {Q : kx_St → Prop} (hx : x < 10) (r6 : r < 6) (F : kp_F σ s) (W : ∀ T, T < 2 ^ n → s.1 25 T = nI (km_W n (kn_cr kd wd (H dc) x) T)) (q : ∀ s', kb_T r n (km_T n (kn_cr kd wd (H dc) x)) s s' → Q s') : p2_tellFirst s 27 4 (nI x) (60 + r) Q := by
  have n6 := kn_n6 N
  have Ns := kp_N N F
  have ne : ∀ a, a ≠ 60 + r → a ≠ 70 + r → (kq_beg s (60 + r) (70 + r) n (-9)).1 a = s.1 a := fun a h1 h2 => by
    unfold kq_beg
    rw [kq_fill_ne h2, kv_ua h1]
  have sz : (kq_beg s (60 + r) (70 + r) n (-9)).1 (60 + r) 1 = nI n := by
    unfold kq_beg
    rw [kq_fill_ne (by omega), kv_us]
  have N2 : kr_now (kq_beg s (60 + r) (70 + r) n (-9)) τ n kd wd hv w wt dc H := kr_now_fr Ns (fun a ha => ne a (by unfold kr_pc at ha; omega) (by unfold kr_pc at ha; omega)) rfl rfl (fun _ _ _ => rfl) (fun _ _ => rfl)
  refine ⟨ky_pa.1, ky_pa.2.2.2, (ku_row r6).1, ?_⟩
  rw [show s.1 4 3 = nI n from kn_cn Ns]
  refine s5_begin (ku_row r6) (by omega) ⟨n + 1, s2_tell_L hx r6 n 0 0 (fun _ => 0) _ (by omega) N2 (Nat.pow_pos (by decide)) (fun j hj => absurd hj (Nat.not_lt_zero _)) (fun T hT => ?_) sz (fun p hp => ?_) (fun s' f1 f2 f3 => q s' ⟨fun a h1 h2 => (f1 a h2).trans (ne a h1 h2), f2, ?_, f3⟩)⟩
  · rw [ne 25 (by omega) (by omega)]; exact W T hT
  · exact if_pos (by omega)
  · rw [f1 (60 + r) (by omega)]; exact sz
theorem th_merge (σ τ : kx_St) (h : kr_R σ τ) : lt_merge kr_R σ τ := by
  obtain ⟨n, kd, wd, hv, w, wt, dc, H, N, K⟩ := h.2.2.2.2.1
  intro a0 a1
  have n6 := kn_n6 N
  have mn := kn_mn N
  have no7 : ∀ {x : Int32}, (x.toInt < 0 ∨ ((9 + 1 : Nat) : Int) ≤ x.toInt) → p7_merge τ x a1 (fun w q => q = -1 ∧ kr_R σ w) := fun ho => s7_rng_out (N := 9) rfl ho (kv_t rfl ⟨rfl, h⟩)
  rcases kv_arg a1 6 with ⟨r, r6, rfl⟩ | hro
  · have R := ku_row r6
    rcases kv_arg a0 10 with ⟨x, hx, rfl⟩ | ho
    · by_cases h0 : n = 0
      · exact ⟨-4, s6_pick1_in r6 (kv_some ⟨R.1, s6_isWind_in hx (kv_F (by decide) (s3_isEmpty (j := 0) (by decide) (kn_cn N) n6 (fun z => by omega) (fun _ => kv_f (by decide) ⟨rfl, s7_rng_in (N := 9) rfl hx (by decide) (kv_f (by decide) (s7_isRow_in r6 (kv_F (by decide) (kv_T (mn.trans (by rw [h0]; rfl)) ⟨rfl, h⟩))))⟩)))⟩)⟩
      · have c0 : ¬ τ.1 0 3 = 0 := by rw [mn]; exact fun e => h0 ((kv_inj (b := 0) (by omega) (by decide)).mp e)
        exact ⟨_, s6_pick1_in r6 (kv_some ⟨R.1, s6_isWind_in hx (kv_F (by decide) (s3_isEmpty (j := 0) (by decide) (kn_cn N) n6 (fun _ => kv_t rfl (s2_weigh N hx (fun s1 F1 W1 => s2_tellFirst N hx r6 F1 W1 (fun s2 T2 => ⟨rfl, s7_rng_in (N := 9) rfl hx (by decide) (kv_f (by decide) (s7_isRow_in r6 (kv_F (by decide) (kv_F c0 (s7_mergeL N hx (fun t1 F2 b1 => s7_tellLine n6 r6 (fun y hy => by have := km_ln_le (n := n) (cr := kn_cr kd wd (H dc) x) n 0 0 (fun _ => 0) (by omega) (fun _ => Nat.zero_le _) y; unfold km_T; omega) b1 (fun t2 U2 => ⟨rfl, kr_T (kt_R (kp_R h F1) F2) r6 n6 T2 U2⟩)))))))⟩)))) (fun z => absurd z h0)))⟩)⟩
    · exact ⟨-1, s6_pick1_in r6 (kv_some ⟨R.1, s6_isWind_out ho (kv_T rfl ⟨rfl, no7 ho⟩)⟩)⟩
  · refine ⟨-1, s6_pick1_out hro (kv_none ⟨rfl, ?_⟩)⟩
    rcases kv_arg a0 10 with ⟨m, hm, rfl⟩ | ho
    · exact s7_rng_in (N := 9) rfl hm (by decide) (kv_f (by decide) (s7_isRow_out hro (kv_T rfl ⟨rfl, h⟩)))
    · exact no7 ho
end
