section
variable {σ τ s s' : kx_St} {n : Nat} {kd wd hv w : Nat → Nat} {wt dc : Nat} {H : Nat → Nat → Nat}
theorem s0_firstBest (N : kr_now σ τ n kd wd hv w wt dc H) {h d u : Nat} {Q : Int32 → Prop} (h6 : h < 6) (hd : d < 6) (hu : u < 2 ^ n) (h2 : s.1 26 2 = nI n) (G : ∀ i, i < n → s.1 (81 + h) i = kb_gn false kd wd hv w (H dc) h i) (W0 : ∀ u, u < 2 ^ n → s.1 (87 + h) u = nI (kb_W false n kd wd hv w (H dc) (d + 1) h u)) (W1 : ∀ u, u < 2 ^ n → s.1 (87 + (h + 1)) u = nI (kb_W false n kd wd hv w (H dc) d (h + 1) u)) (q : Q (kb_val (kb_dg n (kb_fb false kd wd hv w (H dc)) (kb_g kd wd hv w (H dc)) d h u))) : p0_firstBest s 26 (nI h) (nI u) Q := by
  have n6 := kn_n6 N
  have p64 := (ko_126 n6).2.1
  obtain ⟨k26, r29, l29, _, _, rg, _⟩ := ky_fl
  obtain ⟨rh, lh⟩ := rg h h6
  refine ⟨k26, s0_worth (by omega) (by omega) ?_⟩
  rw [show nI h + 1 = nI (h + 1) from nI_1 _]
  refine s0_worth (by omega) (by omega) ?_
  rw [W0 u hu, W1 u hu]
  have l0 := kb_W_le N false (show d + 1 ≤ 6 by omega) h u
  have l1 := kb_W_le N false (show d ≤ 6 by omega) (h + 1) u
  obtain ⟨top, sp⟩ := kb_D_spec (out := fun i => kb_fb false kd wd hv w (H dc) h i || u.testBit i) (f := fun i => kb_g kd wd hv w (H dc) h i + kb_W false n kd wd hv w (H dc) d (h + 1) (u ||| 2 ^ i)) (b0 := kb_W false n kd wd hv w (H dc) d (h + 1) u) n
  have eB : kb_W false n kd wd hv w (H dc) (d + 1) h u = kb_B false (fun i => kb_fb false kd wd hv w (H dc) h i || u.testBit i) (fun i => kb_g kd wd hv w (H dc) h i + kb_W false n kd wd hv w (H dc) d (h + 1) (u ||| 2 ^ i)) (kb_W false n kd wd hv w (H dc) d (h + 1) u) n := rfl
  have eD : kb_dg n (kb_fb false kd wd hv w (H dc)) (kb_g kd wd hv w (H dc)) d h u = kb_D (fun i => kb_fb false kd wd hv w (H dc) h i || u.testBit i) (fun i => kb_g kd wd hv w (H dc) h i + kb_W false n kd wd hv w (H dc) d (h + 1) (u ||| 2 ^ i)) (kb_W false n kd wd hv w (H dc) d (h + 1) u) n := rfl
  rw [← eB] at sp
  rw [eD] at q
  rcases sp with ⟨c0, e⟩ | ⟨i, hi, c, oi, fi, up, below⟩
  · rw [c0] at q
    exact kv_T (by rw [e]) q
  · rw [c] at q
    have q : Q (nI i) := q
    refine kv_F (fun z => by have := (kv_inj (by omega) (by omega)).mp z; omega) ⟨i + 1, ?_⟩
    have L : ∀ e j, j + e = i → p0_firstBest_L25 (e + 1) s 26 (nI h) (nI u) (nI (kb_W false n kd wd hv w (H dc) (d + 1) h u)) (nI j) Q := by
      have step : ∀ (e j : Nat), j < n → ((kb_fb false kd wd hv w (H dc) h j || u.testBit j) = true → p0_firstBest_L25 e s 26 (nI h) (nI u) (nI (kb_W false n kd wd hv w (H dc) (d + 1) h u)) (nI (j + 1)) Q) → ((kb_fb false kd wd hv w (H dc) h j || u.testBit j) = false → (¬ kb_g kd wd hv w (H dc) h j + kb_W false n kd wd hv w (H dc) d (h + 1) (u ||| 2 ^ j) = kb_W false n kd wd hv w (H dc) (d + 1) h u → p0_firstBest_L25 e s 26 (nI h) (nI u) (nI (kb_W false n kd wd hv w (H dc) (d + 1) h u)) (nI (j + 1)) Q) ∧ (kb_g kd wd hv w (H dc) h j + kb_W false n kd wd hv w (H dc) d (h + 1) (u ||| 2 ^ j) = kb_W false n kd wd hv w (H dc) (d + 1) h u → Q (nI j))) → p0_firstBest_L25 (e + 1) s 26 (nI h) (nI u) (nI (kb_W false n kd wd hv w (H dc) (d + 1) h u)) (nI j) Q := by
        intro e j hj q0 q1
        have hg := kn_P_le N hj h
        have o := kb_or n6 hu hj
        have bW := kb_W_le N false (show d ≤ 6 by omega) (h + 1) (u ||| 2 ^ j)
        have g6 : kb_g kd wd hv w (H dc) h j ≤ 51 := hg
        have eg : kx_r 0 (kx_r 0 26 0) (nI h).toNatClampNeg = 81 + h := by rw [kv_c (by omega), r29]; exact rh
        rw [p0_firstBest_L25, h2, eg, r29, l29, lh, kv_c (show j < 2147483648 by omega), show nI j + 1 = nI (j + 1) from nI_1 _]
        refine kv_f (by rw [kv_leN (by omega) (by omega)]; omega) (s0_isFree (dl := false) h6 (by omega) o.2.1 (G j hj) (fun z => kv_t rfl (q0 z)) (fun z eg => kv_f (by decide) ⟨kv_in h6 (by decide), kv_in (by omega) (by decide), ?_⟩) (by unfold kb_g; omega))
        rw [(ku_or u o.2.1 j (by omega)).1, show nI h + 1 = nI (h + 1) from nI_1 _]
        refine s0_worth (by omega) o.2.2 ?_
        rw [W1 _ o.1, eg, kv_add, kv_inj (by omega) (by omega)]
        exact q1 z
      intro e
      induction e with
      | zero =>
        intro j hj
        obtain rfl : j = i := by omega
        exact step 0 j hi (fun z => by rw [oi] at z; cases z) (fun _ => ⟨fun z => absurd fi z, fun _ => q⟩)
      | succ e ih =>
        intro j hj
        have nx := ih (j + 1) (by omega)
        exact step (e + 1) j (by omega) (fun _ => nx) (fun z => ⟨fun _ => nx, fun z2 => by have := below j (by omega) z; omega⟩)
    exact L i 0 (by omega)
theorem s0_tell_L (N : kr_now σ τ n kd wd hv w wt dc H) {hrs r : Nat} {Q : kx_St → Prop} (hr : hrs ≤ 5) (r6 : r < 6) : ∀ d h u s, h + d = hrs → u < 2 ^ n → s.1 26 2 = nI n → (∀ h, h < hrs → ∀ i, i < n → s.1 (81 + h) i = kb_gn false kd wd hv w (H dc) h i) → (∀ h, h ≤ hrs → ∀ u, u < 2 ^ n → s.1 (87 + h) u = nI (kb_W false n kd wd hv w (H dc) (hrs - h) h u)) → s.1 (60 + r) 1 = nI hrs → (∀ s', (∀ a, a ≠ 70 + r → s'.1 a = s.1 a) → s'.2 = s.2 → (∀ p, p < h → s'.1 (70 + r) p = s.1 (70 + r) p) → (∀ p, h ≤ p → p < hrs → s'.1 (70 + r) p = kb_val (kb_ln n (kb_fb false kd wd hv w (H dc)) (kb_g kd wd hv w (H dc)) d h u p)) → Q s') → p0_tellFirst_L16 (d + 1) s 26 (nI hrs) (60 + r) (nI u) (nI h) Q := by
  have n6 := kn_n6 N
  have p64 := (ko_126 n6).2.1
  intro d
  induction d with
  | zero =>
    intro h u s hh hu h2 G W hs q
    obtain rfl : h = hrs := by omega
    unfold p0_tellFirst_L16
    exact kv_t (by rw [kv_leN (by omega) (by omega)]; omega) (q s (fun _ _ => rfl) rfl (fun _ _ => rfl) (fun p h1 h2 => by omega))
  | succ d ih =>
    intro h u s hh hu h2 G W hs q
    obtain ⟨c, hc⟩ : ∃ c, c = kb_dg n (kb_fb false kd wd hv w (H dc)) (kb_g kd wd hv w (H dc)) d h u := ⟨_, rfl⟩
    have cn : c ≤ n := by rw [hc]; exact kb_D_le n
    have e1 : hrs - h = d + 1 := by omega
    have e2 : hrs - (h + 1) = d := by omega
    have W0 := W h (by omega)
    have W1 := W (h + 1) (by omega)
    rw [e1] at W0
    rw [e2] at W1
    rw [p0_tellFirst_L16, show nI h + 1 = nI (h + 1) from nI_1 _]
    refine kv_f (by rw [kv_leN (by omega) (by omega)]; omega) (s0_firstBest N (d := d) (by omega) (by omega) hu h2 (G h (by omega)) W0 W1 (s5_set (ku_row r6) hs (by omega) (by omega) ?_))
    rw [← hc]
    have nx : kb_nx u c < 2 ^ n := by
      unfold kb_nx
      split
      · exact hu
      · exact (kb_or n6 hu (show c - 1 < n by omega)).1
    have go := ih (h + 1) (kb_nx u c) (kx_sI s (70 + r) h (kb_val c)) (by omega) nx ((kv_un (by omega)).trans h2) (fun x hx i hi => (kv_un (by omega)).trans (G x hx i hi)) (fun x hx y hy => (kv_un (by omega)).trans (W x hx y hy)) ((kv_un (by omega)).trans hs) (fun s' f1 f2 f3 f4 => q s' (fun a ha => (f1 a ha).trans (kv_ua ha)) f2 (fun p hp => (f3 p (by omega)).trans (kv_un (by omega))) (fun p p1 p2 => by
      rw [kb_ln, ← hc]
      by_cases e : p = h
      · subst e; rw [f3 p (by omega), kv_us, if_pos rfl]
      · rw [if_neg e]; exact f4 p (by omega) p2))
    by_cases c0 : c = 0
    · have ev : kb_val c = -9 := if_pos c0
      have ex : kb_nx u c = u := if_pos c0
      rw [ex, ev] at go
      rw [ev]
      refine kv_T rfl ?_
      rw [(ku_or u (by omega) 0 (by decide)).2]
      exact go
    · have ev : kb_val c = nI (c - 1) := if_neg c0
      have ex : kb_nx u c = u ||| 2 ^ (c - 1) := if_neg c0
      rw [ex, ev] at go
      rw [ev]
      refine kv_F (kg_n9 (by omega)) ?_
      rw [(ku_or u (by omega) (c - 1) (by omega)).1]
      exact go
/-- the ROW r is a line of so many places -/
def kb_T (r m : Nat) (L : Nat → Nat) (s s' : kx_St) : Prop := (∀ a, a ≠ 60 + r → a ≠ 70 + r → s'.1 a = s.1 a) ∧ s'.2 = s.2 ∧ s'.1 (60 + r) 1 = nI m ∧ ∀ p, p < m → s'.1 (70 + r) p = kb_val (L p)
theorem s0_tellFirst (N : kr_now σ τ n kd wd hv w wt dc H) {hrs r : Nat} {Q : kx_St → Prop} (hr : hrs ≤ 5) (r6 : r < 6) (I : kb_I σ false n kd wd hv w (H dc) hrs 0 s) (q : ∀ s', kb_T r hrs (kb_ln n (kb_fb false kd wd hv w (H dc)) (kb_g kd wd hv w (H dc)) hrs 0 (H dc 1)) s s' → Q s') : p0_tellFirst s 26 4 (nI hrs) (60 + r) Q := by
  have n6 := kn_n6 N
  have fl : H dc 1 < 2 ^ n := by rw [← (kp_fn (kn_v N)).1]; exact Nat.mod_lt _ (Nat.pow_pos (by decide))
  have ne : ∀ a, a ≠ 60 + r → a ≠ 70 + r → (kq_beg s (60 + r) (70 + r) hrs (-9)).1 a = s.1 a := fun a h1 h2 => by
    unfold kq_beg
    rw [kq_fill_ne h2, kv_ua h1]
  have sz : (kq_beg s (60 + r) (70 + r) hrs (-9)).1 (60 + r) 1 = nI hrs := by
    unfold kq_beg
    rw [kq_fill_ne (by omega), kv_us]
  have N2 : kr_now (kq_beg s (60 + r) (70 + r) hrs (-9)) τ n kd wd hv w wt dc H := kr_now_fr (kb_N N I.1) (fun a ha => ne a (by unfold kr_pc at ha; omega) (by unfold kr_pc at ha; omega)) rfl rfl (fun _ _ _ => rfl) (fun _ _ => rfl)
  refine ⟨ky_fl.1, (ky_par 0 (by decide)).1, (ku_row r6).1, s5_begin (ku_row r6) (by omega) (s3_flownSet N2 ⟨hrs + 1, s0_tell_L N hr r6 hrs 0 (H dc 1) _ (by omega) fl ?_ (fun h hh i hi => ?_) (fun h hh u hu => ?_) sz (fun s' f1 f2 f3 f4 => q s' ⟨fun a h1 h2 => (f1 a h2).trans (ne a h1 h2), f2, ?_, fun p hp => f4 p (Nat.zero_le _) hp⟩)⟩)⟩
  · rw [ne 26 (by omega) (by omega)]; exact I.2.1
  · rw [ne (81 + h) (by omega) (by omega)]; exact I.2.2.1 h hh i hi
  · rw [ne (87 + h) (by omega) (by omega)]; exact I.2.2.2 h (Nat.zero_le _) hh u hu
  · rw [f1 (60 + r) (by omega)]; exact sz
end
