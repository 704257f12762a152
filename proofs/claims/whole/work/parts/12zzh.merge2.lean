section
variable {σ τ s : kx_St} {n : Nat} {kd wd hv w : Nat → Nat} {wt dc : Nat} {H : Nat → Nat → Nat}
def kp_F (σ s : kx_St) : Prop := (∀ a, a ≠ 25 → a < 80 → s.1 a = σ.1 a) ∧ s.2 = σ.2
theorem kp_w (F : kp_F σ s) (k : Nat) (v : Int32) : kp_F σ (kx_sI s 25 k v) := ⟨fun x h1 h2 => (kv_ua h1).trans (F.1 x h1 h2), F.2⟩
theorem kp_N (N : kr_now σ τ n kd wd hv w wt dc H) (F : kp_F σ s) : kr_now s τ n kd wd hv w wt dc H := kr_now_fr N (fun a ha => F.1 a (by unfold kr_pc at ha; omega) (by unfold kr_pc at ha; omega)) rfl rfl (fun _ _ _ => rfl) (fun _ _ => rfl)
theorem kp_R (h : kr_R σ τ) (F : kp_F σ s) : kr_R s τ := kr_R_fr h (fun a h1 h2 h3 h4 h5 h6 h7 => F.1 a h4 h7) (fun k _ _ => by rw [F.1 5 (by decide) (by decide)]) (fun i hi k _ => by rw [F.1 (36 + i) (by omega) (by omega)]) F.2 (fun _ _ => rfl) (fun _ _ => rfl) (fun _ _ _ => rfl) rfl
def km_W (n : Nat) (cr : Nat → Nat → Nat) (S : Nat) : Nat := km_V n cr n 0 S
theorem km_skip {cr : Nat → Nat → Nat} {S : Nat} : ∀ k d, k + d = n → (∀ j, j < k → S.testBit j = true) → km_V n cr d k S = km_W n cr S
  | 0, d, h, _ => by
    obtain rfl : d = n := by omega
    rfl
  | k + 1, d, h, b => by
    have := km_skip (cr := cr) (S := S) k (d + 1) (by omega) (fun j hj => b j (by omega))
    rw [km_V, if_pos (b k (by omega))] at this
    exact this
theorem km_V_le {cr : Nat → Nat → Nat} (hc : ∀ i j, i < n → j < n → cr i j ≤ 105) : ∀ d k S, k + d = n → km_V n cr d k S ≤ 105 * d := by
  intro d
  induction d with
  | zero => intro k S _; exact Nat.le_refl _
  | succ d ih =>
    intro k S hk
    rw [km_V]
    split
    · have := ih (k + 1) S (by omega); omega
    · have sp := (km_f_spec (ml := km_ml n S) (out := km_out S k) (f := fun j => cr k j + km_V n cr d (k + 1) (S ||| 2 ^ k ||| 2 ^ j)) (b0 := km_V n cr d (k + 1) (S ||| 2 ^ k)) n).2
      cases h : km_f (km_ml n S) (km_out S k) (fun j => cr k j + km_V n cr d (k + 1) (S ||| 2 ^ k ||| 2 ^ j)) (km_V n cr d (k + 1) (S ||| 2 ^ k)) n with
      | none => exact Nat.zero_le _
      | some p =>
        show p.1 ≤ _
        rcases (sp p.1 p.2 h).2 with ⟨_, _, e⟩ | ⟨j, hj, _, _, e, _⟩
        · have := ih (k + 1) (S ||| 2 ^ k) (by omega); omega
        · have a := ih (k + 1) (S ||| 2 ^ k ||| 2 ^ j) (by omega)
          have b := hc k j (by omega) hj
          omega
theorem km_f_out {ml : Bool} {out : Nat → Bool} {f : Nat → Nat} {b0 : Nat} : ∀ m, (∀ j, j < m → out j = true) → km_f ml out f b0 m = if ml = true then some (b0, 0) else none
  | 0, _ => rfl
  | m + 1, h => by rw [km_f, if_pos (h m (by omega)), km_f_out m (fun j hj => h j (by omega))]
theorem km_lt : ∀ S, S < 64 → ∀ i, i < 6 → S.testBit i = false → S < S ||| 2 ^ i := by decide +kernel
/-- the first that is out, and what its set is worth -/
theorem km_eq {cr : Nat → Nat → Nat} {k d S : Nat} (hk : k + (d + 1) = n) (lo : ∀ j, j < k → S.testBit j = true) (b : S.testBit k = false) : km_W n cr S = km_v (km_o n cr d k S) ∧ (∀ j, j < n → km_V n cr d (k + 1) (S ||| 2 ^ k ||| 2 ^ j) = km_W n cr (S ||| 2 ^ k ||| 2 ^ j)) ∧ km_V n cr d (k + 1) (S ||| 2 ^ k) = km_W n cr (S ||| 2 ^ k) := by
  have up : ∀ j, j < k + 1 → (S ||| 2 ^ k).testBit j = true := fun j hj => by
    rw [kv_tb]
    by_cases e : j = k
    · exact Or.inr e.symm
    · exact Or.inl (lo j (by omega))
  refine ⟨?_, fun j _ => km_skip (k + 1) d (by omega) (fun i hi => kv_tb.mpr (Or.inl (up i hi))), km_skip (k + 1) d (by omega) up⟩
  rw [← km_skip (cr := cr) k (d + 1) hk lo, km_V, if_neg (by rw [b]; decide)]
  rfl
theorem ky_pa : kx_k 0 27 = 2 ∧ kx_r 0 27 0 = 25 ∧ kx_l 0 25 = 64 ∧ kx_k 0 4 = 3 := by decide +kernel
theorem s2_worth {S : Nat} {Q : Int32 → Prop} (hS : S < 64) (q : Q (s.1 25 S)) : p2_worth s 27 (nI S) Q := by
  obtain ⟨k27, r25, l25, _⟩ := ky_pa
  unfold p2_worth
  rw [r25, l25, kv_c (by omega)]
  refine ⟨k27, kv_f (kv_ge (by omega)) (kv_f ?_ ⟨kv_in hS (by decide), q⟩)⟩
  show ¬ nI 64 ≤ nI S
  rw [kv_leN (by decide) (by omega)]; omega
theorem s2_firstOut (N : kr_now σ τ n kd wd hv w wt dc H) {k S : Nat} {Q : Int32 → Prop} (hS : S < 64) (hk : k < n) (lo : ∀ j, j < k → S.testBit j = true) (b : S.testBit k = false) (q : Q (nI k)) : p2_firstOut σ 4 (nI S) Q := by
  have n6 := kn_n6 N
  have L : ∀ d i, i + d = k → p2_firstOut_L2 (d + 1) σ 4 (nI S) (nI i) Q := by
    intro d
    induction d with
    | zero =>
      intro i hi
      obtain rfl : i = k := by omega
      unfold p2_firstOut_L2
      rw [show σ.1 4 3 = nI n from kn_cn N]
      exact kv_f (by rw [kv_leN (by omega) (by omega)]; omega) (kv_T ((ku_bit0 S hS i (by omega)).mpr b) q)
    | succ d ih =>
      intro i hi
      rw [p2_firstOut_L2, show σ.1 4 3 = nI n from kn_cn N, show nI i + 1 = nI (i + 1) from nI_1 _]
      exact kv_f (by rw [kv_leN (by omega) (by omega)]; omega) (kv_F (fun z => by have := (ku_bit0 S hS i (by omega)).mp z; rw [lo i (by omega)] at this; cases this) (ih (i + 1) (by omega)))
  exact ⟨ky_pa.2.2.2, k + 1, L k 0 (by omega)⟩
theorem s2_mayLeave (N : kr_now σ τ n kd wd hv w wt dc H) {S : Nat} {Q : Int32 → Prop} (hS : S < 2 ^ n) (q1 : km_ml n S = true → Q 1) (q0 : km_ml n S = false → Q 0) : p2_mayLeave σ 4 (nI S) Q := by
  have n6 := kn_n6 N
  have p64 := (ko_126 n6).2.1
  have pn := km_pcn n (by omega) S (by omega) hS
  refine ⟨ky_pa.2.2.2, sJ_bits (by omega) ?_⟩
  have z2 : nI (n - ko_pc S) - nI (n - ko_pc S) / 2 * 2 = nI ((n - ko_pc S) % 2) := by rw [show (2 : Int32) = nI 2 from rfl, kv_rem (by omega) (by decide) (by decide)]
  rw [show σ.1 4 3 = nI n from kn_cn N, kv_sub pn, z2]
  rcases (show (n - ko_pc S) % 2 = 0 ∨ (n - ko_pc S) % 2 = 1 by omega) with e | e
  · rw [e]
    exact kv_t rfl (q0 (by unfold km_ml; rw [e]; rfl))
  · rw [e]
    exact kv_f (by decide) (q1 (by unfold km_ml; rw [e]; rfl))
theorem s2_bestOf (N : kr_now σ τ n kd wd hv w wt dc H) {x k S : Nat} {Q : Int32 → Prop} (hx : x < 10) (hS : S < 2 ^ n) (hk : k < n) (lo : ∀ j, j < k → S.testBit j = true) (b : S.testBit k = false) (W : ∀ T, S < T → T < 2 ^ n → σ.1 25 T = nI (km_W n (kn_cr kd wd (H dc) x) T)) (q : Q (nI (km_W n (kn_cr kd wd (H dc) x) S))) : p2_bestOf σ 27 4 (nI x) (nI S) Q := by
  have n6 := kn_n6 N
  have p64 := (ko_126 n6).2.1
  obtain ⟨d, hd⟩ : ∃ d, k + (d + 1) = n := ⟨n - k - 1, by omega⟩
  obtain ⟨e1, e2, e3⟩ := km_eq (cr := kn_cr kd wd (H dc) x) hd lo b
  have o := kb_or n6 hS hk
  have cl : ∀ i j, i < n → j < n → kn_cr kd wd (H dc) x i j ≤ 105 := fun i j hi hj => kn_cr_le N hi hj hx
  have Wl : ∀ T, km_W n (kn_cr kd wd (H dc) x) T ≤ 105 * n := fun T => km_V_le cl n 0 T (by omega)
  have lt1 := km_lt S o.2.1 k (by omega) b
  have w1 : σ.1 25 (S ||| 2 ^ k) = nI (km_W n (kn_cr kd wd (H dc) x) (S ||| 2 ^ k)) := W _ lt1 o.1
  have vl : ∀ m, m ≤ n → km_v (km_f (km_ml n S) (km_out S k) (fun j => kn_cr kd wd (H dc) x k j + km_V n (kn_cr kd wd (H dc) x) d (k + 1) (S ||| 2 ^ k ||| 2 ^ j)) (km_V n (kn_cr kd wd (H dc) x) d (k + 1) (S ||| 2 ^ k)) m) ≤ 105 * n + 105 := fun m hm => by
    have sp := (km_f_spec (ml := km_ml n S) (out := km_out S k) (f := fun j => kn_cr kd wd (H dc) x k j + km_V n (kn_cr kd wd (H dc) x) d (k + 1) (S ||| 2 ^ k ||| 2 ^ j)) (b0 := km_V n (kn_cr kd wd (H dc) x) d (k + 1) (S ||| 2 ^ k)) m).2
    cases h : km_f (km_ml n S) (km_out S k) (fun j => kn_cr kd wd (H dc) x k j + km_V n (kn_cr kd wd (H dc) x) d (k + 1) (S ||| 2 ^ k ||| 2 ^ j)) (km_V n (kn_cr kd wd (H dc) x) d (k + 1) (S ||| 2 ^ k)) m with
    | none => exact Nat.zero_le _
    | some p =>
      show p.1 ≤ _
      rcases (sp p.1 p.2 h).2 with ⟨_, _, e⟩ | ⟨j, hj, _, _, e, _⟩
      · have := Wl (S ||| 2 ^ k); rw [e3] at e; omega
      · have a := Wl (S ||| 2 ^ k ||| 2 ^ j)
        have c := cl k j hk (by omega)
        rw [e2 j (by omega)] at e
        omega
  have L : ∀ e j, j + e = n → k < j → p2_bestOf_L41 (e + 1) σ 27 4 (nI x) (nI S) (nI k) (nI (S ||| 2 ^ k)) (nI (km_v (km_f (km_ml n S) (km_out S k) (fun j => kn_cr kd wd (H dc) x k j + km_V n (kn_cr kd wd (H dc) x) d (k + 1) (S ||| 2 ^ k ||| 2 ^ j)) (km_V n (kn_cr kd wd (H dc) x) d (k + 1) (S ||| 2 ^ k)) j))) (nI j) Q := by
    intro e
    induction e with
    | zero =>
      intro j hj kj
      obtain rfl : j = n := by omega
      unfold p2_bestOf_L41
      rw [show σ.1 4 3 = nI j from kn_cn N]
      refine kv_t (by rw [kv_leN (by omega) (by omega)]; omega) ?_
      rw [e1] at q
      exact q
    | succ e ih =>
      intro j hj kj
      have hjn : j < n := by omega
      have nx := ih (j + 1) (by omega) (by omega)
      have o2 := kb_or n6 o.1 hjn
      have b0 := ku_bit0 S o.2.1 j (by omega)
      rw [p2_bestOf_L41, show σ.1 4 3 = nI n from kn_cn N, show nI j + 1 = nI (j + 1) from nI_1 _]
      refine kv_f (by rw [kv_leN (by omega) (by omega)]; omega) ⟨fun z => ?_, fun z => ?_⟩
      · have bj : S.testBit j = true := by
          rcases hh : S.testBit j with _ | _
          · exact absurd (b0.mpr hh) z
          · rfl
        rw [km_f, if_pos (by unfold km_out; rw [bj]; exact Bool.or_true _)] at nx
        exact nx
      · have bj := b0.mp z
        have ou : km_out S k j = false := by
          unfold km_out
          rw [bj, decide_eq_false (by omega)]; rfl
        rw [km_f_max ou] at nx
        refine s3_crossLift N hk hjn hx ?_
        rw [(ku_or (S ||| 2 ^ k) o.2.2 j (by omega)).1]
        refine s2_worth o2.2.2 ?_
        have lt2 : S < S ||| 2 ^ k ||| 2 ^ j := Nat.lt_of_lt_of_le lt1 Nat.left_le_or
        have v1 := vl j (by omega)
        have v2 := cl k j hk hjn
        have v3 := Wl (S ||| 2 ^ k ||| 2 ^ j)
        rw [W _ lt2 o2.1, kv_add]
        rw [e2 j hjn] at nx
        refine ku_max ?_
        unfold kn_cr at v2 nx
        rw [kb_max (by omega) (by omega)]
        exact nx
  have st := L (n - (k + 1)) (k + 1) (by omega) (by omega)
  rw [km_f_out (k + 1) (fun j hj => by unfold km_out; rw [decide_eq_true (by omega)]; rfl)] at st
  refine ⟨ky_pa.1, ky_pa.2.2.2, s2_firstOut N o.2.1 hk lo b (s2_mayLeave N hS (fun ml => kv_f (by decide) ?_) (fun ml => kv_t rfl ?_))⟩
  · rw [(ku_or S o.2.1 k (by omega)).1, show nI k + 1 = nI (k + 1) from nI_1 _]
    refine s2_worth o.2.2 ?_
    rw [w1]
    rw [if_pos ml, e3] at st
    exact ⟨_, st⟩
  · rw [(ku_or S o.2.1 k (by omega)).1, show nI k + 1 = nI (k + 1) from nI_1 _]
    rw [if_neg (by rw [ml]; decide)] at st
    exact ⟨_, st⟩
theorem km_ex : ∀ n, n < 7 → ∀ S, S < 64 → S < 2 ^ n - 1 → ¬ ∀ i, i < n → S.testBit i = true := by decide +kernel
theorem km_first {n S : Nat} (h : ¬ ∀ i, i < n → S.testBit i = true) : ∃ k, k < n ∧ (∀ j, j < k → S.testBit j = true) ∧ S.testBit k = false := by
  have : ∀ m, m ≤ n → (∀ j, j < m → S.testBit j = true) ∨ ∃ k, k < m ∧ (∀ j, j < k → S.testBit j = true) ∧ S.testBit k = false := by
    intro m
    induction m with
    | zero => exact fun _ => Or.inl (fun j hj => absurd hj (Nat.not_lt_zero _))
    | succ m ih =>
      intro hm
      rcases ih (by omega) with a | ⟨k, hk, a⟩
      · rcases b : S.testBit m with _ | _
        · exact Or.inr ⟨m, by omega, a, b⟩
        · refine Or.inl (fun j hj => ?_)
          by_cases e : j = m
          · rw [e]; exact b
          · exact a j (by omega)
      · exact Or.inr ⟨k, by omega, a⟩
  rcases this n (Nat.le_refl _) with a | a
  · exact absurd a h
  · exact a
theorem s2_weigh (N : kr_now σ τ n kd wd hv w wt dc H) {x : Nat} {Q : kx_St → Int32 → Prop} (hx : x < 10) (q : ∀ s', kp_F σ s' → (∀ T, T < 2 ^ n → s'.1 25 T = nI (km_W n (kn_cr kd wd (H dc) x) T)) → Q s' (nI (km_W n (kn_cr kd wd (H dc) x) 0))) : p2_weigh σ 27 4 (nI x) Q := by
  have n6 := kn_n6 N
  have p64 := (ko_126 n6).2.1
  have p1 : 0 < 2 ^ n := Nat.pow_pos (by decide)
  obtain ⟨k27, r25, l25, k4⟩ := ky_pa
  have L : ∀ m s, m ≤ 2 ^ n - 1 → kp_F σ s → (∀ T, m ≤ T → T < 2 ^ n → s.1 25 T = nI (km_W n (kn_cr kd wd (H dc) x) T)) → p2_weigh_L26 (m + 1) s 27 4 (nI x) (nI m - 1) Q := by
    intro m
    induction m with
    | zero =>
      intro s hm F W
      unfold p2_weigh_L26
      rw [r25, l25, show (0 : Int32).toNatClampNeg = 0 from rfl, W 0 (Nat.le_refl _) p1]
      exact kv_t (by decide) ⟨kv_in (k := 0) (by decide) (by decide), q s F (fun T hT => W T (Nat.zero_le _) hT)⟩
    | succ m ih =>
      intro s hm F W
      obtain ⟨k, hk, lo, b⟩ := km_first (km_ex n (by omega) m (by omega) (by omega))
      rw [p2_weigh_L26, kv_p1, r25, l25, kv_c (by omega), show nI m + -1 = nI m - 1 from (Int32.sub_eq_add_neg _ _).symm]
      refine kv_f (kv_ge (by omega)) (s2_bestOf (kp_N N F) hx (by omega) hk lo b (fun T h1 h2 => W T h1 h2) ⟨kv_in (by omega) (by decide), ih _ (by omega) (kp_w F _ _) (fun T h1 h2 => ?_)⟩)
      by_cases e : T = m
      · subst e; exact kv_us _ _ _ _
      · exact (kv_un (by omega)).trans (W T (by omega) h2)
  have all : km_W n (kn_cr kd wd (H dc) x) (2 ^ n - 1) = 0 := by
    rw [← km_skip (cr := kn_cr kd wd (H dc) x) n 0 (by omega) (fun j hj => by rw [Nat.testBit_two_pow_sub_one, decide_eq_true hj])]
    rfl
  refine ⟨k27, k4, ku_min ?_⟩
  rw [show σ.1 4 3 = nI n from kn_cn N, show (6 : Int32) = nI 6 from rfl, kb_min (by omega) (by decide), Nat.min_eq_left n6, ko_sh n (by omega), show (1 : Int32) = nI 1 from rfl, kv_sub (by omega), r25, l25, kv_c (by omega)]
  refine ⟨kv_in (by omega) (by decide), 2 ^ n - 1 + 1, L (2 ^ n - 1) _ (Nat.le_refl _) (kp_w ⟨fun _ _ _ => rfl, rfl⟩ _ _) (fun T h1 h2 => ?_)⟩
  obtain rfl : T = 2 ^ n - 1 := by omega
  rw [kv_us, all]; rfl
end
