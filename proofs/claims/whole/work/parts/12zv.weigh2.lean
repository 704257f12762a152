section
variable {σ τ s s' : kx_St} {n : Nat} {kd wd hv w : Nat → Nat} {wt dc : Nat} {H : Nat → Nat → Nat}
def kb_W (dl : Bool) (n : Nat) (kd wd hv w v : Nat → Nat) (d h u : Nat) : Nat := kb_V n dl (kb_fb dl kd wd hv w v) (kb_g kd wd hv w v) d h u
theorem kb_W_le (N : kr_now σ τ n kd wd hv w wt dc H) (dl : Bool) {d : Nat} (hd : d ≤ 6) (h u : Nat) : kb_W dl n kd wd hv w (H dc) d h u ≤ 306 := by
  have := kb_V_le (n := n) (dl := dl) (fb := kb_fb dl kd wd hv w (H dc)) (g := kb_g kd wd hv w (H dc)) (fun h i hi => kn_P_le N hi h) d h u
  unfold kb_W
  omega
theorem kb_or {n u i : Nat} (hn : n ≤ 6) (hu : u < 2 ^ n) (hi : i < n) : u ||| 2 ^ i < 2 ^ n ∧ u < 64 ∧ u ||| 2 ^ i < 64 := by
  have a := (ko_126 hn).2.1
  have b : u ||| 2 ^ i < 2 ^ n := Nat.or_lt_two_pow hu (Nat.pow_lt_pow_right (by decide) hi)
  omega
def kb_lI (dl : Bool) (h : Nat) : Bool := dl && (h % 2 == 1)
theorem s0_bestOf (N : kr_now σ τ n kd wd hv w wt dc H) {dl : Bool} {h d u : Nat} {Q : Int32 → Prop} (h6 : h < 6) (hd : d < 6) (hu : u < 2 ^ n) (h2 : s.1 26 2 = nI n) (G : ∀ i, i < n → s.1 (81 + h) i = kb_gn dl kd wd hv w (H dc) h i) (W : ∀ u, u < 2 ^ n → s.1 (87 + (h + 1)) u = nI (kb_W dl n kd wd hv w (H dc) d (h + 1) u)) (q : Q (nI (kb_W dl n kd wd hv w (H dc) (d + 1) h u))) : p0_bestOf s 26 (nI h) (nI u) (kb_dI (kb_lI dl h)) Q := by
  have n6 := kn_n6 N
  have p64 := (ko_126 n6).2.1
  obtain ⟨k26, r29, l29, _, _, rg, _⟩ := ky_fl
  obtain ⟨rh, lh⟩ := rg h h6
  have L : ∀ e i, i + e = n → p0_bestOf_L13 (e + 1) s 26 (nI h) (nI u) (kb_dI (kb_lI dl h)) (nI (kb_B (kb_lI dl h) (fun i => kb_fb dl kd wd hv w (H dc) h i || u.testBit i) (fun i => kb_g kd wd hv w (H dc) h i + kb_W dl n kd wd hv w (H dc) d (h + 1) (u ||| 2 ^ i)) (kb_W dl n kd wd hv w (H dc) d (h + 1) u) i)) (nI i) Q := by
    intro e
    induction e with
    | zero =>
      intro i hi
      obtain rfl : i = n := by omega
      unfold p0_bestOf_L13
      rw [h2]
      exact kv_t (by rw [kv_leN (by omega) (by omega)]; omega) q
    | succ e ih =>
      intro i hi
      have hin : i < n := by omega
      have nx := ih (i + 1) (by omega)
      have hg := kn_P_le N hin h
      have o := kb_or n6 hu hin
      have bB : kb_B (kb_lI dl h) (fun i => kb_fb dl kd wd hv w (H dc) h i || u.testBit i) (fun i => kb_g kd wd hv w (H dc) h i + kb_W dl n kd wd hv w (H dc) d (h + 1) (u ||| 2 ^ i)) (kb_W dl n kd wd hv w (H dc) d (h + 1) u) i ≤ 400 := kb_B_le (by have := kb_W_le N dl (show d ≤ 6 by omega) (h + 1) u; omega) i (fun j hj => by
        have a := kn_P_le N (show j < n by omega) h
        have b := kb_W_le N dl (show d ≤ 6 by omega) (h + 1) (u ||| 2 ^ j)
        unfold kb_g
        omega)
      have bW := kb_W_le N dl (show d ≤ 6 by omega) (h + 1) (u ||| 2 ^ i)
      have ei : nI i + 1 = nI (i + 1) := nI_1 _
      have eg : kx_r 0 (kx_r 0 26 0) (nI h).toNatClampNeg = 81 + h := by rw [kv_c (by omega), r29]; exact rh
      rw [kb_B] at nx
      rw [p0_bestOf_L13, h2, eg, r29, l29, lh, kv_c (show i < 2147483648 by omega)]
      refine kv_f (by rw [kv_leN (by omega) (by omega)]; omega) (s0_isFree (dl := dl) h6 (by omega) o.2.1 (G i hin) (fun z => kv_t rfl ?_) (fun z eg => kv_f (by decide) ⟨kv_in h6 (by decide), kv_in (by omega) (by decide), ?_⟩) (by unfold kb_g; omega))
      · rw [if_pos z] at nx
        rw [ei]; exact nx
      · rw [if_neg (by rw [z]; decide)] at nx
        rw [(ku_or u o.2.1 i (by omega)).1, show nI h + 1 = nI (h + 1) from nI_1 _]
        refine s0_worth (by omega) o.2.2 ?_
        rw [W _ o.1, eg, kv_add, ei]
        have g6 : kb_g kd wd hv w (H dc) h i ≤ 51 := hg
        rcases hl : kb_lI dl h with _ | _
        · rw [hl, if_neg (by decide)] at nx
          rw [hl] at bB
          refine kv_t rfl (ku_max ?_)
          rw [kb_max (by omega) (by omega)]
          exact nx
        · rw [hl, if_pos rfl] at nx
          rw [hl] at bB
          refine kv_f (by decide) (ku_min ?_)
          rw [kb_min (by omega) (by omega)]
          exact nx
  refine ⟨k26, ?_⟩
  rw [show nI h + 1 = nI (h + 1) from nI_1 _]
  refine s0_worth (by omega) (by omega) ?_
  rw [W u hu]
  exact ⟨n + 1, L n 0 (by omega)⟩
/-- worths known from HOUR k on -/
def kb_I (σ : kx_St) (dl : Bool) (n : Nat) (kd wd hv w v : Nat → Nat) (hrs k : Nat) (s : kx_St) : Prop := kb_F σ s ∧ s.1 26 2 = nI n ∧ (∀ h, h < hrs → ∀ i, i < n → s.1 (81 + h) i = kb_gn dl kd wd hv w v h i) ∧ ∀ h, k ≤ h → h ≤ hrs → ∀ u, u < 2 ^ n → s.1 (87 + h) u = nI (kb_W dl n kd wd hv w v (hrs - h) h u)
theorem s0_weigh_U (N : kr_now σ τ n kd wd hv w wt dc H) {dl : Bool} {hrs h : Nat} {x3 : Int32} {k63 : kx_St → Nat → Nat → Int32 → Int32 → Prop} {Q : kx_St → Int32 → Prop} (hr : hrs ≤ 6) (hh : h < hrs) (q : ∀ s', kb_I σ dl n kd wd hv w (H dc) hrs h s' → k63 s' 26 4 x3 (nI h - 1)) : ∀ d u s, u + d = 2 ^ n → kb_I σ dl n kd wd hv w (H dc) hrs (h + 1) s → (∀ x, x < u → s.1 (87 + h) x = nI (kb_W dl n kd wd hv w (H dc) (hrs - h) h x)) → p0_weigh_L90 (d + 1) s 26 4 x3 (nI h) (kb_dI (kb_lI dl h)) (nI u) k63 Q := by
  have n6 := kn_n6 N
  have p64 := (ko_126 n6).2.1
  obtain ⟨k26, _, _, r80, l80, _, rw7⟩ := ky_fl
  obtain ⟨rh, lh⟩ := rw7 h (by omega)
  intro d
  induction d with
  | zero =>
    intro u s hu I W
    obtain rfl : u = 2 ^ n := by omega
    unfold p0_weigh_L90
    rw [I.2.1, ko_sh n (by omega), show nI h + -1 = nI h - 1 from (Int32.sub_eq_add_neg _ _).symm]
    refine kv_t (by rw [kv_leN (by omega) (by omega)]; omega) (q s ⟨I.1, I.2.1, I.2.2.1, fun x x1 x2 y hy => ?_⟩)
    by_cases e : x = h
    · subst e; exact W y hy
    · exact I.2.2.2 x (by omega) x2 y hy
  | succ d ih =>
    intro u s hu I W
    have hu2 : u < 2 ^ n := by omega
    rw [p0_weigh_L90, I.2.1, ko_sh n (by omega), r80, l80, kv_c (show h < 2147483648 by omega), rh, lh, kv_c (show u < 2147483648 by omega), show nI u + 1 = nI (u + 1) from nI_1 _]
    have e1 : hrs - h = hrs - (h + 1) + 1 := by omega
    refine kv_f (by rw [kv_leN (by omega) (by omega)]; omega) ⟨kv_in (by omega) (by decide), s0_bestOf N (d := hrs - (h + 1)) (by omega) (by omega) hu2 I.2.1 (fun i hi => I.2.2.1 h hh i hi) (fun y hy => I.2.2.2 (h + 1) (Nat.le_refl _) (by omega) y hy) ⟨kv_in (by omega) (by decide), ?_⟩⟩
    rw [← e1]
    refine ih (u + 1) _ (by omega) ⟨kb_w I.1 (by omega) _ _, (kv_un (by omega)).trans I.2.1, fun x hx i hi => (kv_un (by omega)).trans (I.2.2.1 x hx i hi), fun x x1 x2 y hy => (kv_un (by omega)).trans (I.2.2.2 x x1 x2 y hy)⟩ (fun x hx => ?_)
    by_cases e : x = u
    · subst e; exact kv_us _ _ _ _
    · exact (kv_un (by omega)).trans (W x (by omega))
theorem s0_weigh_H (N : kr_now σ τ n kd wd hv w wt dc H) {dl : Bool} {hrs : Nat} {Q : kx_St → Int32 → Prop} (hr : hrs ≤ 6) (q : ∀ s', kb_I σ dl n kd wd hv w (H dc) hrs 0 s' → Q s' (nI (kb_W dl n kd wd hv w (H dc) hrs 0 (H dc 1)))) : ∀ k s, k ≤ hrs → kb_I σ dl n kd wd hv w (H dc) hrs k s → p0_weigh_L63 (k + 1) s 26 4 (kb_dI dl) (nI k - 1) Q := by
  have n6 := kn_n6 N
  have f64 := (kp_f64 (kn_v N) n6).1
  have fl : H dc 1 < 2 ^ n := by rw [← (kp_fn (kn_v N)).1]; exact Nat.mod_lt _ (Nat.pow_pos (by decide))
  intro k
  induction k with
  | zero =>
    intro s hk I
    unfold p0_weigh_L63
    refine kv_t (by decide) (s3_flownSet (kb_N N I.1) (s0_worth (h := 0) (by decide) f64 ?_))
    rw [I.2.2.2 0 (Nat.le_refl _) (Nat.zero_le _) _ fl]
    exact q s I
  | succ k ih =>
    intro s hk I
    rw [p0_weigh_L63, kv_p1]
    refine kv_f (kv_ge (by omega)) ?_
    have U := s0_weigh_U N (dl := dl) (h := k) (x3 := kb_dI dl) (k63 := fun σ x0 x1 x3 x4 => p0_weigh_L63 (k + 1) σ x0 x1 x3 x4 Q) (Q := Q) hr (by omega) (fun s' I' => ih s' (by omega) I') (2 ^ n) 0 s (by omega) I (fun x hx => absurd hx (Nat.not_lt_zero _))
    cases dl with
    | false => exact kv_t (by decide) ⟨_, U⟩
    | true =>
      refine kv_f (by decide) ?_
      have z2 : nI k - nI k / 2 * 2 = nI (k % 2) := by rw [show (2 : Int32) = nI 2 from rfl, kv_rem (by omega) (by decide) (by decide)]
      rw [z2]
      rcases (show k % 2 = 0 ∨ k % 2 = 1 by omega) with e | e
      · rw [e]
        have el : kb_lI true k = false := by unfold kb_lI; rw [e]; rfl
        rw [el] at U
        exact kv_F (by decide) ⟨_, U⟩
      · rw [e]
        have el : kb_lI true k = true := by unfold kb_lI; rw [e]; rfl
        rw [el] at U
        exact kv_T rfl ⟨_, U⟩
theorem s0_weigh_Z (N : kr_now σ τ n kd wd hv w wt dc H) {dl : Bool} {hrs : Nat} {Q : kx_St → Int32 → Prop} (hr : hrs ≤ 6) (q : ∀ s', kb_I σ dl n kd wd hv w (H dc) hrs 0 s' → Q s' (nI (kb_W dl n kd wd hv w (H dc) hrs 0 (H dc 1)))) : ∀ d x s, x + d = 64 → kb_F σ s → s.1 26 2 = nI n → (∀ h, h < hrs → ∀ i, i < n → s.1 (81 + h) i = kb_gn dl kd wd hv w (H dc) h i) → (∀ y, y < x → s.1 (87 + hrs) y = 0) → p0_weigh_L35 (d + 1) s 26 4 (nI hrs) (kb_dI dl) (nI x) Q := by
  have n6 := kn_n6 N
  have p64 := (ko_126 n6).2.1
  obtain ⟨k26, _, _, r80, l80, _, rw7⟩ := ky_fl
  obtain ⟨rh, lh⟩ := rw7 hrs (by omega)
  intro d
  induction d with
  | zero =>
    intro x s hx F h2 G Z
    obtain rfl : x = 64 := by omega
    unfold p0_weigh_L35
    refine kv_t (by decide) ⟨hrs + 1, s0_weigh_H N hr q hrs s (Nat.le_refl _) ⟨F, h2, G, fun h a b u hu => ?_⟩⟩
    obtain rfl : h = hrs := by omega
    rw [Z u (by omega), Nat.sub_self]
    rfl
  | succ d ih =>
    intro x s hx F h2 G Z
    rw [p0_weigh_L35, r80, l80, kv_c (show hrs < 2147483648 by omega), rh, lh, kv_c (show x < 2147483648 by omega), show nI x + 1 = nI (x + 1) from nI_1 _]
    refine kv_f (by show ¬ nI 64 ≤ nI x; rw [kv_leN (by omega) (by omega)]; omega) ⟨kv_in (by omega) (by decide), kv_in (by omega) (by decide), ih (x + 1) _ (by omega) (kb_w F (by omega) _ _) ((kv_un (by omega)).trans h2) (fun h hh i hi => (kv_un (by omega)).trans (G h hh i hi)) (fun y hy => ?_)⟩
    by_cases e : y = x
    · subst e; exact kv_us _ _ _ _
    · exact (kv_un (by omega)).trans (Z y (by omega))
theorem s0_weigh (N : kr_now σ τ n kd wd hv w wt dc H) {dl : Bool} {hrs : Nat} {Q : kx_St → Int32 → Prop} (F : kb_F σ s) (hr : hrs ≤ 6) (q : ∀ s', kb_I σ dl n kd wd hv w (H dc) hrs 0 s' → Q s' (nI (kb_W dl n kd wd hv w (H dc) hrs 0 (H dc 1)))) : p0_weigh s 26 4 (nI hrs) (kb_dI dl) Q := by
  have n6 := kn_n6 N
  refine ⟨ky_fl.1, (ky_par 0 (by decide)).1, kv_f (kv_ge (by omega)) (kv_t (by show nI hrs ≤ nI 6; rw [kv_leN (by omega) (by decide)]; omega) (ku_min ?_))⟩
  rw [show s.1 4 3 = nI n from kn_cn (kb_N N F), show (6 : Int32) = nI 6 from rfl, kb_min (by omega) (by decide), Nat.min_eq_left n6]
  exact ⟨ky_fl.1, (ky_par 0 (by decide)).1, hrs + 1, s0_gains_L N hr hrs 0 _ (by omega) (kb_w F (by omega) _ _) (kv_us _ _ _ _) (fun s' F' h2' _ G => ⟨65, s0_weigh_Z N hr q 64 0 s' (by decide) F' h2' (fun h hh i hi => G h (Nat.zero_le _) hh i hi) (fun y hy => absurd hy (Nat.not_lt_zero _))⟩)⟩
end
