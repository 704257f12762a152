section
variable {σ τ s s' : kx_St} {n : Nat} {kd wd hv w : Nat → Nat} {wt dc : Nat} {H : Nat → Nat → Nat}
/-! Flyings: gains, worths -/
theorem ky_fl : kx_k 0 26 = 0 ∧ kx_r 0 26 0 = 29 ∧ kx_l 0 29 = 6 ∧ kx_r 0 26 1 = 80 ∧ kx_l 0 80 = 7 ∧ (∀ h, h < 6 → kx_r 0 29 h = 81 + h ∧ kx_l 0 (81 + h) = 6) ∧ ∀ h, h < 7 → kx_r 0 80 h = 87 + h ∧ kx_l 0 (87 + h) = 64 := by decide +kernel
def kb_F (σ s : kx_St) : Prop := (∀ a, a ≠ 26 → a < 80 → s.1 a = σ.1 a) ∧ s.2 = σ.2
theorem kb_refl (σ : kx_St) : kb_F σ σ := ⟨fun _ _ _ => rfl, rfl⟩
theorem kb_w (F : kb_F σ s) {a : Nat} (h : a = 26 ∨ 80 ≤ a) (k : Nat) (v : Int32) : kb_F σ (kx_sI s a k v) := ⟨fun x h1 h2 => (kv_ua (by omega)).trans (F.1 x h1 h2), F.2⟩
theorem kb_N (N : kr_now σ τ n kd wd hv w wt dc H) (F : kb_F σ s) : kr_now s τ n kd wd hv w wt dc H := kr_now_fr N (fun a ha => F.1 a (by unfold kr_pc at ha; omega) (by unfold kr_pc at ha; omega)) rfl rfl (fun _ _ _ => rfl) (fun _ _ => rfl)
theorem kb_R (h : kr_R σ τ) (F : kb_F σ s) : kr_R s τ := kr_R_fr h (fun a h1 h2 h3 h4 h5 h6 h7 => F.1 a h5 h7) (fun k _ _ => by rw [F.1 5 (by decide) (by decide)]) (fun i hi k _ => by rw [F.1 (36 + i) (by omega) (by omega)]) F.2 (fun _ _ => rfl) (fun _ _ => rfl) (fun _ _ _ => rfl) rfl
def kb_fb (dl : Bool) (kd wd hv w v : Nat → Nat) (h i : Nat) : Bool := !dl && decide (4 * hv i < ku_lift (kd i) (wd i) (v (3 + i)) (w ((v 0 + h) % 4)))
def kb_g (kd wd hv w v : Nat → Nat) (h i : Nat) : Nat := kn_P kd wd hv w v i h
def kb_gn (dl : Bool) (kd wd hv w v : Nat → Nat) (h i : Nat) : Int32 := if kb_fb dl kd wd hv w v h i = true then -1 else nI (kb_g kd wd hv w v h i)
def kb_dI (dl : Bool) : Int32 := if dl = true then 1 else 0
theorem s0_gains_I (N : kr_now σ τ n kd wd hv w wt dc H) {dl : Bool} {h : Nat} {x2 : Int32} {k3 : kx_St → Nat → Nat → Int32 → Int32 → Int32 → Prop} {Q : kx_St → Prop} (h6 : h < 6) : ∀ d i s, i + d = n → kb_F σ s → s.1 26 2 = nI n → (∀ s', kb_F σ s' → s'.1 26 2 = nI n → (∀ a, a ≠ 81 + h → s'.1 a = s.1 a) → (∀ j, j < i → s'.1 (81 + h) j = s.1 (81 + h) j) → (∀ j, i ≤ j → j < n → s'.1 (81 + h) j = kb_gn dl kd wd hv w (H dc) h j) → k3 s' 26 4 x2 (kb_dI dl) (nI (h + 1))) → p0_fillGains_L20 (d + 1) s 26 4 x2 (kb_dI dl) (nI h) (nI (w ((H dc 0 + h) % 4))) (nI i) k3 Q := by
  have n6 := kn_n6 N
  obtain ⟨_, r29, l29, _, _, rg, _⟩ := ky_fl
  obtain ⟨rh, lh⟩ := rg h h6
  intro d
  induction d with
  | zero =>
    intro i s hi F h2 q
    obtain rfl : i = n := by omega
    unfold p0_fillGains_L20
    rw [h2, show nI h + 1 = nI (h + 1) from nI_1 _]
    exact kv_t (by rw [kv_leN (by omega) (by omega)]; omega) (q s F h2 (fun _ _ => rfl) (fun _ _ => rfl) (fun j h1 h2 => by omega))
  | succ d ih =>
    intro i s hi F h2 q
    have hin : i < n := by omega
    have N' := kb_N N F
    have go : ∀ v : Int32, v = kb_gn dl kd wd hv w (H dc) h i → p0_fillGains_J88 s 26 4 x2 (kb_dI dl) (nI h) (nI (w ((H dc 0 + h) % 4))) (nI i) (81 + h) (nI i) v (fun σ x0 x1 x2 x3 x4 x5 x6 => p0_fillGains_L20 (d + 1) σ x0 x1 x2 x3 x4 x5 x6 k3 Q) Q := by
      intro v hv'
      unfold p0_fillGains_J88
      rw [lh, kv_c (by omega), show nI i + 1 = nI (i + 1) from nI_1 _]
      refine ⟨kv_in (by omega) (by decide), ih (i + 1) _ (by omega) (kb_w F (by omega) _ _) ((kv_un (by omega)).trans h2) (fun s' F' h2' e1 e2 e3 => q s' F' h2' (fun a ha => (e1 a ha).trans (kv_ua ha)) (fun j hj => (e2 j (by omega)).trans (kv_un (by omega))) (fun j h1 h3 => ?_))⟩
      by_cases e : j = i
      · subst e; rw [e2 j (by omega), kv_us, hv']
      · exact e3 j (by omega) h3
    have vh : vp_in (nI h) (kx_l 0 (kx_r 0 26 0)) := by rw [r29, l29]; exact kv_in h6 (by decide)
    have eg : kx_r 0 (kx_r 0 26 0) (nI h).toNatClampNeg = 81 + h := by rw [kv_c (by omega), r29]; exact rh
    rw [p0_fillGains_L20, h2, eg]
    have ww : w ((H dc 0 + h) % 4) < 10 := kn_wm N _
    refine kv_f (by rw [kv_leN (by omega) (by omega)]; omega) (s3_kite_in N' hin (kv_some ⟨(kn_K N' hin).1, ?_⟩))
    cases dl with
    | true =>
      refine kv_F (show ¬ kb_dI true = 0 by decide) ⟨vh, s1_payIn (kn_K N' hin) ww (go _ ?_)⟩
      unfold kb_gn kb_fb
      rw [if_neg (by simp)]
      rfl
    | false =>
      refine kv_T (show kb_dI false = 0 by decide) (s1_isLiftedIn (kn_K N' hin) ww (fun c => kv_f (by decide) ⟨vh, go _ ?_⟩) (fun c => kv_t rfl ⟨vh, s1_payIn (kn_K N' hin) ww (go _ ?_)⟩))
      · unfold kb_gn kb_fb
        rw [decide_eq_true c, if_pos (by decide)]
      · unfold kb_gn kb_fb
        rw [decide_eq_false c, if_neg (by decide)]
        rfl
/-- what is known while it weighs: gains, worths from HOUR k on -/
def kb_G (dl : Bool) (n : Nat) (kd wd hv w v : Nat → Nat) (hrs : Nat) (s : kx_St) : Prop := ∀ h, h < hrs → ∀ i, i < n → s.1 (81 + h) i = kb_gn dl kd wd hv w v h i
theorem s0_gains_L (N : kr_now σ τ n kd wd hv w wt dc H) {dl : Bool} {hrs : Nat} {Q : kx_St → Prop} (hr : hrs ≤ 6) : ∀ d h s, h + d = hrs → kb_F σ s → s.1 26 2 = nI n → (∀ s', kb_F σ s' → s'.1 26 2 = nI n → (∀ x, x < h → s'.1 (81 + x) = s.1 (81 + x)) → (∀ x, h ≤ x → x < hrs → ∀ i, i < n → s'.1 (81 + x) i = kb_gn dl kd wd hv w (H dc) x i) → Q s') → p0_fillGains_L3 (d + 1) s 26 4 (nI hrs) (kb_dI dl) (nI h) Q := by
  have n6 := kn_n6 N
  intro d
  induction d with
  | zero =>
    intro h s hh F h2 q
    obtain rfl : h = hrs := by omega
    unfold p0_fillGains_L3
    exact kv_t (by rw [kv_leN (by omega) (by omega)]; omega) (q s F h2 (fun _ _ => rfl) (fun x h1 h2 => by omega))
  | succ d ih =>
    intro h s hh F h2 q
    rw [p0_fillGains_L3]
    refine kv_f (by rw [kv_leN (by omega) (by omega)]; omega) (kn_cwind (kb_N N F) (a := h) (by omega) ⟨n + 1, s0_gains_I N (h := h) (by omega) n 0 s (by omega) F h2 (fun s1 F1 h21 e1 _ e3 => ih (h + 1) s1 (by omega) F1 h21 (fun s' F' h2' e4 e5 => q s' F' h2' (fun x hx => (e4 x (by omega)).trans (e1 _ (by omega))) (fun x x1 x2 i hi => ?_)))⟩)
    by_cases e : x = h
    · subst e; rw [e4 x (by omega)]; exact e3 i (Nat.zero_le _) hi
    · exact e5 x (by omega) x2 i hi
theorem s0_worth {h u : Nat} {Q : Int32 → Prop} (hh : h < 7) (hu : u < 64) (q : Q (s.1 (87 + h) u)) : p0_worth s 26 (nI h) (nI u) Q := by
  obtain ⟨k26, _, _, r80, l80, _, rw7⟩ := ky_fl
  obtain ⟨rh, lh⟩ := rw7 h hh
  unfold p0_worth
  rw [r80, l80, kv_c (by omega), rh, lh, kv_c (by omega)]
  refine ⟨k26, kv_f (kv_ge (by omega)) (kv_f ?_ (kv_f (kv_ge (by omega)) (kv_f ?_ ⟨kv_in hh (by decide), kv_in hu (by decide), q⟩)))⟩
  · show ¬ nI 6 < nI h
    rw [kv_ltN (by decide) (by omega)]; omega
  · show ¬ nI 64 ≤ nI u
    rw [kv_leN (by decide) (by omega)]; omega
theorem ku_bit0 : ∀ s, s < 64 → ∀ i, i < 6 → (((nI s >>> (nI i &&& 31)) &&& 1) = 0 ↔ s.testBit i = false) := by decide +kernel
theorem s0_isFree {dl : Bool} {kd wd hv w v : Nat → Nat} {h i u : Nat} {Q : Int32 → Prop} (hh : h < 6) (hi : i < 6) (hu : u < 64) (e : s.1 (81 + h) i = kb_gn dl kd wd hv w v h i) (q0 : (kb_fb dl kd wd hv w v h i || u.testBit i) = true → Q 0) (q1 : (kb_fb dl kd wd hv w v h i || u.testBit i) = false → s.1 (81 + h) i = nI (kb_g kd wd hv w v h i) → Q 1) (hg : kb_g kd wd hv w v h i < 1000) : p0_isFree s 26 (nI h) (nI i) (nI u) Q := by
  obtain ⟨k26, r29, l29, _, _, rg, _⟩ := ky_fl
  obtain ⟨rh, lh⟩ := rg h hh
  unfold p0_isFree
  rw [r29, l29, kv_c (by omega), rh, lh, kv_c (by omega)]
  have b := ku_bit0 u hu i hi
  refine ⟨k26, kv_f (kv_ge (by omega)) (kv_f ?_ (kv_f (kv_ge (by omega)) (kv_f ?_ ⟨fun z => q0 ?_, fun z => ⟨kv_in hh (by decide), kv_in hi (by decide), fun z2 => q0 ?_, fun z2 => ?_⟩⟩)))⟩
  · show ¬ nI 6 ≤ nI h
    rw [kv_leN (by decide) (by omega)]; omega
  · show ¬ nI 6 ≤ nI i
    rw [kv_leN (by decide) (by omega)]; omega
  · rcases hb : u.testBit i with _ | _
    · exact absurd (b.mpr hb) z
    · exact Bool.or_true _
  · rw [e] at z2
    unfold kb_gn at z2
    by_cases f : kb_fb dl kd wd hv w v h i = true
    · rw [f]; rfl
    · rw [if_neg f, kv_eq, kv_n (by omega)] at z2
      have z2 : ((kb_g kd wd hv w v h i : Nat) : Int) = -1 := z2
      omega
  · have ub := b.mp z
    have f : kb_fb dl kd wd hv w v h i = false := by
      rcases hf : kb_fb dl kd wd hv w v h i with _ | _
      · rfl
      · exact absurd (by rw [e]; unfold kb_gn; rw [hf]; rfl) z2
    refine q1 (by rw [ub, f]; rfl) ?_
    rw [e]
    unfold kb_gn
    rw [f]
    rfl
end
