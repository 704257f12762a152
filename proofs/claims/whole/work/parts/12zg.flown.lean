section
variable {σ τ t : kx_St} {n : Nat} {kd wd hv w : Nat → Nat} {wt dc : Nat} {H : Nat → Nat → Nat}
/-! cells that the reference tries on -/
def kt_F (τ t : kx_St) : Prop := (∀ k, k < 2464 → t.1 1 k = τ.1 1 k) ∧ (∀ c, c ≠ 1 → c < 11 → t.1 c = τ.1 c) ∧ t.2 = τ.2
theorem kt_refl (τ : kx_St) : kt_F τ τ := ⟨fun _ _ => rfl, fun _ _ _ => rfl, rfl⟩
theorem kt_tr {s : kx_St} (a : kt_F τ s) (b : kt_F s t) : kt_F τ t := ⟨fun k hk => (b.1 k hk).trans (a.1 k hk), fun c h1 h2 => (b.2.1 c h1 h2).trans (a.2.1 c h1 h2), b.2.2.trans a.2.2⟩
theorem kt_N (N : kr_now σ τ n kd wd hv w wt dc H) (F : kt_F τ t) : kr_now σ t n kd wd hv w wt dc H := kr_now_fr N (fun _ _ => rfl) (by rw [F.2.1 0 (by decide) (by decide)]) (by rw [F.2.1 0 (by decide) (by decide)]) (fun c h1 h2 => F.2.1 c (by omega) (by omega)) F.1
theorem kt_R (h : kr_R σ τ) (F : kt_F τ t) : kr_R σ t := kr_R_fr h (fun _ _ _ _ _ _ _ _ => rfl) (fun _ _ _ => rfl) (fun _ _ _ _ => rfl) rfl (fun k _ => by rw [F.2.1 0 (by decide) (by decide)]) F.1 (fun c h1 h2 => F.2.1 c (by omega) (by omega)) F.2.2
theorem kt_s1 (F : kt_F τ t) {k : Nat} (hk : 2464 ≤ k) (v : Int32) : kt_F τ (kx_sI t 1 k v) := ⟨fun j hj => by rw [kv_un (by omega)]; exact F.1 j hj, fun c h1 h2 => by rw [kv_ua h1]; exact F.2.1 c h1 h2, F.2.2⟩
theorem kt_sc (F : kt_F τ t) {c : Nat} (hc : 11 ≤ c) (k : Nat) (v : Int32) : kt_F τ (kx_sI t c k v) := ⟨fun j hj => by rw [kv_ua (by omega)]; exact F.1 j hj, fun x h1 h2 => by rw [kv_ua (by omega)]; exact F.2.1 x h1 h2, F.2.2⟩
theorem s7_layTried {Q : kx_St → Prop} (q : Q (kq_c6 τ 0 2464 16)) : p7_layTried τ Q := by
  have L : ∀ f m, m ≤ 16 → 16 - m < f → p7_layTried_L2 f (kq_c6 τ 0 2464 m) (nI m) Q := by
    intro f
    induction f with
    | zero => intro m h1 h2; omega
    | succ f ih =>
      intro m hm hf
      unfold p7_layTried_L2
      by_cases h6 : m = 16
      · subst h6
        exact kv_t (by decide) q
      · refine kv_f (by show ¬ nI 16 ≤ nI m; rw [kv_leN (by omega) (by omega)]; omega) ?_
        rw [show (2464 : Int32) + nI m = nI (2464 + m) from kv_add 2464 m, kv_c (by omega), kv_c (by omega), show nI m + 1 = nI (m + 1) from nI_1 m]
        refine ⟨kv_in (by omega) (by decide), kv_in (by omega) (by decide), ?_⟩
        have e : (kq_c6 τ 0 2464 m).1 1 m = τ.1 1 (0 + m) := (if_neg (by omega)).trans (by rw [Nat.zero_add])
        show p7_layTried_L2 f (kx_sI (kq_c6 τ 0 2464 m) 1 (2464 + m) ((kq_c6 τ 0 2464 m).1 1 m)) (nI (m + 1)) Q
        rw [e, kq_c6S]
        exact ih (m + 1) (by omega) (by omega)
  have := L 17 0 (by omega) (by omega)
  rw [kq_c60] at this
  exact ⟨17, this⟩
/-- what is tried: HOUR, flown, LIFTED, TAILS -/
def kt_I (t : kx_St) (n : Nat) (v : Nat → Nat) (h u l : Nat) : Prop := t.1 1 2465 = nI h ∧ t.1 1 2466 = nI u ∧ t.1 1 2467 = nI l ∧ ∀ i, i < n → t.1 1 (2468 + i) = nI (v (3 + i))
theorem kt_lay (N : kr_now σ τ n kd wd hv w wt dc H) : kt_F τ (kq_c6 τ 0 2464 16) ∧ kt_I (kq_c6 τ 0 2464 16) n (H dc) (H dc 0) (H dc 1) (H dc 2) ∧ ∀ c, c ≠ 1 → (kq_c6 τ 0 2464 16).1 c = τ.1 c := by
  have n6 := kn_n6 N
  have e : ∀ k, k < 15 → (kq_c6 τ 0 2464 16).1 1 (2465 + k) = nI (H dc k) := fun k hk => by
    rw [kq_c6_at, if_pos (by omega), show 0 + (2465 + k - 2464) = 1 + k by omega]
    exact kn_mk N hk
  refine ⟨⟨fun k hk => if_neg (by omega), fun c h1 _ => by funext x; exact if_neg (by omega), rfl⟩, ⟨e 0 (by decide), e 1 (by decide), e 2 (by decide), fun i hi => ?_⟩, fun c h1 => by funext x; exact if_neg (by omega)⟩
  rw [show 2468 + i = 2465 + (3 + i) by omega]
  exact e _ (by omega)
theorem kt_M (N : kr_now σ τ n kd wd hv w wt dc H) (F : kt_F τ t) {h u l i : Nat} (I : kt_I t n (H dc) h u l) (hi : i < n) : ku_M t 2464 i (kd i) (wd i) (hv i) (H dc (3 + i)) := by
  obtain ⟨a, b, c, d, e, f, g⟩ := kn_M N hi
  refine ⟨a, Nat.le_refl _, ?_, ?_, ?_, I.2.2.2 i hi, g⟩
  · rw [F.2.1 3 (by decide) (by decide)]; exact c
  · rw [F.2.1 4 (by decide) (by decide)]; exact d
  · rw [F.2.1 5 (by decide) (by decide)]; exact e
def kt_L (hv kd wd w v : Nat → Nat) (i h : Nat) : Prop := 4 * hv i < ku_lift (kd i) (wd i) (v (3 + i)) (w (h % 4))
def kt_P (kd wd hv w v : Nat → Nat) (i h : Nat) : Nat := ku_pay (kd i) (wd i) (hv i) (v (3 + i)) (w (h % 4))
theorem kt_P_le (N : kr_now σ τ n kd wd hv w wt dc H) {i : Nat} (hi : i < n) (h : Nat) : kt_P kd wd hv w (H dc) i h ≤ 51 := by
  obtain ⟨_, _, _, _, _, k5, w9, _, t3⟩ := kn_K N hi
  exact ku_pay_le k5 w9 t3 (kn_wm N h)
theorem kt_fly (N : kr_now σ τ n kd wd hv w wt dc H) (F : kt_F τ t) {h u l i : Nat} (I : kt_I t n (H dc) h u l) (hi : i < n) (hh : h < 1000) (hu : u < 64) (hl : l < 64) {Q : kx_St → Int32 → Prop} (q : ∀ t', kt_F τ t' → kt_I t' n (H dc) (h + 1) (u ||| 2 ^ i) (if 4 * hv i < ku_lift (kd i) (wd i) (H dc (3 + i)) (w (h % 4)) then l ||| 2 ^ i else l) → (∀ c, c ≠ 1 → t'.1 c = t.1 c) → Q t' (nI (kt_P kd wd hv w (H dc) i h))) : p7_flies t 2464 (nI i) Q := by
  have n6 := kn_n6 N
  have N' := kt_N N F
  refine s7_flies (b := 2464) (a := h) (f := u) (l := l) (w := w) rfl (kt_M N F I hi) I.1 hh (fun x hx => kn_mw N' x hx) (kn_w N) I.2.1 hu I.2.2.1 hl (q _ ?_ ?_ ?_)
  · exact kt_s1 (kt_s1 (kt_s1 (kt_s1 F (by omega) _) (by omega) _) (by omega) _) (by omega) _
  · refine ⟨kv_us _ _ _ _, ?_, ?_, fun j hj => ?_⟩
    · unfold kq_fly
      rw [kv_un (by omega)]; exact kv_us _ _ _ _
    · unfold kq_fly
      rw [kv_un (by omega), kv_un (by omega), kv_un (by omega)]; exact kv_us _ _ _ _
    · unfold kq_fly
      rw [kv_un (by omega), kv_un (by omega), kv_un (by omega), kv_un (by omega)]; exact I.2.2.2 j hj
  · intro c hc
    unfold kq_fly
    rw [kv_ua hc, kv_ua hc, kv_ua hc, kv_ua hc]
theorem kt_hour (F : kt_F τ t) {h u l : Nat} {v : Nat → Nat} (I : kt_I t n v h u l) : kt_F τ (kx_sI t 1 2465 (nI (h + 1))) ∧ kt_I (kx_sI t 1 2465 (nI (h + 1))) n v (h + 1) u l := by
  refine ⟨kt_s1 F (by omega) _, kv_us _ _ _ _, ?_, ?_, fun i hi => ?_⟩
  · rw [kv_un (by omega)]; exact I.2.1
  · rw [kv_un (by omega)]; exact I.2.2.1
  · rw [kv_un (by omega)]; exact I.2.2.2 i hi
/-! a flying told by a ROW -/
def kf_ok (n : Nat) (p : Nat → Int32) : Nat → Nat → Nat → Prop
  | 0, _, _ => True
  | d + 1, j, u => (p j = -9 ∧ kf_ok n p d (j + 1) u) ∨ ∃ i, i < n ∧ p j = nI i ∧ u.testBit i = false ∧ kf_ok n p d (j + 1) (u ||| 2 ^ i)
theorem ku_or64 : ∀ a, a < 64 → ∀ i, i < 6 → a ||| 2 ^ i < 64 := by decide +kernel
theorem kf_n9 {i : Nat} (h : i < 6) : ¬ nI i = -9 := by
  rw [kv_eq, kv_n (by omega)]
  show ¬ _ = (-9 : Int)
  omega
theorem s6_bit {s i : Nat} {A B : Prop} (hs : s < 64) (hi : i < 6) (h1 : s.testBit i = true → A) (h0 : s.testBit i = false → B) : (¬ ((nI s >>> (nI i &&& 31)) &&& (1 : Int32)) = (1 : Int32) → B) ∧ (((nI s >>> (nI i &&& 31)) &&& (1 : Int32)) = (1 : Int32) → A) := by
  have e := ku_bit s hs i hi
  refine ⟨fun c => h0 ?_, fun c => h1 (e.mp c)⟩
  rcases hh : s.testBit i with _ | _
  · rfl
  · exact absurd (e.mpr hh) c
theorem kr_isFl (N : kr_now σ τ n kd wd hv w wt dc H) {r m : Nat} (hr : r < 6) (hm : m ≤ 40) (hs : σ.1 (60 + r) 1 = nI m) (ht : τ.1 6 r = nI m) (hp : ∀ j, j < m → τ.1 7 (40 * r + j) = σ.1 (70 + r) j) : ∀ d j u, j + d = m → u < 64 → ∃ b : Int32, (b = 0 ∨ (b = 1 ∧ kf_ok n (σ.1 (70 + r)) d j u)) ∧ (∀ Q : Int32 → Prop, Q b → p6_isFlying_L10 (d + 1) σ (60 + r) (nI u) (nI j) Q) ∧ ∀ Q : Int32 → Prop, Q b → p7_isFlying_L12 (d + 2) τ (nI r) (nI u) 1 (nI j) Q := by
  have n6 := kn_n6 N
  intro d
  induction d with
  | zero =>
    intro j u hj hu
    obtain rfl : j = m := by omega
    refine ⟨1, Or.inr ⟨rfl, trivial⟩, fun Q q => ?_, fun Q q => ?_⟩
    · unfold p6_isFlying_L10
      rw [hs]
      exact kv_t (by rw [kv_leN (by omega) (by omega)]; omega) q
    · unfold p7_isFlying_L12
      rw [kv_c (by omega), ht]
      exact ⟨kv_in hr (by decide), kv_t (by rw [kv_leN (by omega) (by omega)]; omega) ⟨Or.inr rfl, q⟩⟩
  | succ d ih =>
    intro j u hj hu
    have hjm : j < m := by omega
    have nle : ¬ nI m ≤ nI j := by rw [kv_leN (by omega) (by omega)]; omega
    have C : ∀ Q : Int32 → Prop, (∀ x, x = σ.1 (70 + r) j → (¬ x = (-9 : Int32) → p3_kiteAt σ 4 x (fun o4 => (o4 = none → Q (0 : Int32)) ∧ (∀ b5, o4 = some b5 → kx_k 0 b5 = 1 ∧ ((¬ ((nI u >>> (x &&& 31)) &&& (1 : Int32)) = (1 : Int32) → p6_isFlying_L10 (d + 1) σ (60 + r) (nI u ||| ((1 : Int32) <<< (x &&& 31))) (nI (j + 1)) Q) ∧ (((nI u >>> (x &&& 31)) &&& (1 : Int32)) = (1 : Int32) → Q (0 : Int32)))))) ∧ (x = (-9 : Int32) → p6_isFlying_L10 (d + 1) σ (60 + r) (nI u) (nI (j + 1)) Q)) → p6_isFlying_L10 (d + 1 + 1) σ (60 + r) (nI u) (nI j) Q := by
      intro Q q
      rw [p6_isFlying_L10, hs]
      refine kv_f nle (s5_get (ku_row hr) hs hm hjm ?_)
      rw [show nI j + 1 = nI (j + 1) from nI_1 _]
      exact q _ rfl
    have M : ∀ Q : Int32 → Prop, (∀ x, x = σ.1 (70 + r) j → (x = (-9 : Int32) → p7_isFlying_J71 τ (nI r) (nI u) (nI j) x (1 : Int32) (fun x1 x2 x3 x4 => p7_isFlying_L12 (d + 2) τ x1 x2 x3 x4 Q) Q) ∧ (¬ x = (-9 : Int32) → p7_isKite τ x (fun r9 => (r9 = 0 → p7_isFlying_J71 τ (nI r) (nI u) (nI j) x (0 : Int32) (fun x1 x2 x3 x4 => p7_isFlying_L12 (d + 2) τ x1 x2 x3 x4 Q) Q) ∧ (¬ r9 = 0 → p7_has (nI u) x (fun r12 => (¬ r12 = 0 → p7_isFlying_J71 τ (nI r) (nI u) (nI j) x (0 : Int32) (fun x1 x2 x3 x4 => p7_isFlying_L12 (d + 2) τ x1 x2 x3 x4 Q) Q) ∧ (r12 = 0 → p7_isFlying_J71 τ (nI r) (nI u) (nI j) x (1 : Int32) (fun x1 x2 x3 x4 => p7_isFlying_L12 (d + 2) τ x1 x2 x3 x4 Q) Q)))))) → p7_isFlying_L12 (d + 1 + 2) τ (nI r) (nI u) 1 (nI j) Q := by
      intro Q q
      rw [show d + 1 + 2 = d + 2 + 1 from rfl, p7_isFlying_L12, kv_c (show r < 2147483648 by omega), ht, kv_40, kv_c (show 40 * r + j < 2147483648 by omega), hp j hjm]
      exact ⟨kv_in hr (by decide), kv_f nle (kv_f (by decide) ⟨kv_in (by omega) (by decide), q _ rfl⟩)⟩
    have Z : ∀ (U : Int32) (Q : Int32 → Prop), Q 0 → p7_isFlying_L12 (d + 2) τ (nI r) U 0 (nI (j + 1)) Q := by
      intro U Q q
      rw [show d + 2 = d + 1 + 1 from rfl, p7_isFlying_L12, kv_c (show r < 2147483648 by omega)]
      exact ⟨kv_in hr (by decide), fun _ => ⟨Or.inl rfl, q⟩, fun _ => kv_t rfl ⟨Or.inl rfl, q⟩⟩
    generalize hx : σ.1 (70 + r) j = x at C M
    by_cases x9 : x = -9
    · obtain ⟨b, hb, b1, b2⟩ := ih (j + 1) u (by omega) hu
      refine ⟨b, ?_, fun Q q => C Q (fun y hy => ?_), fun Q q => M Q (fun y hy => ?_)⟩
      · rcases hb with hb | ⟨hb, ok⟩
        · exact Or.inl hb
        · exact Or.inr ⟨hb, Or.inl ⟨hx.trans x9, ok⟩⟩
      · subst hy; exact kv_T x9 (b1 Q q)
      · subst hy
        refine kv_t x9 ?_
        unfold p7_isFlying_J71
        subst x9
        refine s7_kite_out N (Or.inl (by decide)) (kv_t rfl ?_)
        rw [show nI j + 1 = nI (j + 1) from nI_1 _, (ku_or u hu 0 (by decide)).2]
        exact b2 Q q
    · rcases kv_arg x n with ⟨i, hi, rfl⟩ | ho
      · rcases ub : u.testBit i with _ | _
        · obtain ⟨b, hb, b1, b2⟩ := ih (j + 1) (u ||| 2 ^ i) (by omega) (ku_or64 u hu i (by omega))
          refine ⟨b, ?_, fun Q q => C Q (fun y hy => ?_), fun Q q => M Q (fun y hy => ?_)⟩
          · rcases hb with hb | ⟨hb, ok⟩
            · exact Or.inl hb
            · exact Or.inr ⟨hb, Or.inr ⟨i, hi, hx, ub, ok⟩⟩
          · subst hy
            refine ⟨fun _ => s3_kite_in N hi (kv_some ⟨(kn_K N hi).1, s6_bit hu (by omega) (fun z => by rw [ub] at z; cases z) (fun _ => ?_)⟩), fun z => absurd z x9⟩
            rw [(ku_or u hu i (by omega)).1]
            exact b1 Q q
          · subst hy
            refine kv_f x9 (s7_kite_in N hi (kv_f (by decide) (s7_has rfl hu (by omega) (fun z => by rw [ub] at z; cases z) (fun _ => kv_T rfl ?_))))
            unfold p7_isFlying_J71
            refine s7_kite_in N hi (kv_f (by decide) ?_)
            rw [show nI j + 1 = nI (j + 1) from nI_1 _, (ku_or u hu i (by omega)).1]
            exact b2 Q q
        · refine ⟨0, Or.inl rfl, fun Q q => C Q (fun y hy => ?_), fun Q q => M Q (fun y hy => ?_)⟩
          · subst hy
            exact ⟨fun _ => s3_kite_in N hi (kv_some ⟨(kn_K N hi).1, s6_bit hu (by omega) (fun _ => q) (fun z => by rw [ub] at z; cases z)⟩), fun z => absurd z x9⟩
          · subst hy
            refine kv_f x9 (s7_kite_in N hi (kv_f (by decide) (s7_has rfl hu (by omega) (fun _ => kv_F (by decide) ?_) (fun z => by rw [ub] at z; cases z))))
            unfold p7_isFlying_J71
            refine s7_kite_in N hi (kv_f (by decide) ?_)
            rw [show nI j + 1 = nI (j + 1) from nI_1 _]
            exact Z _ Q q
      · refine ⟨0, Or.inl rfl, fun Q q => C Q (fun y hy => ?_), fun Q q => M Q (fun y hy => ?_)⟩
        · subst hy
          exact ⟨fun _ => s3_kite_out N ho (kv_none q), fun z => absurd z x9⟩
        · subst hy
          refine kv_f x9 (s7_kite_out N ho (kv_t rfl ?_))
          unfold p7_isFlying_J71
          refine s7_kite_out N ho (kv_t rfl ?_)
          rw [show nI j + 1 = nI (j + 1) from nI_1 _]
          exact Z _ Q q
end
