section
variable {σ τ : kx_St} {n : Nat} {kd wd hv w : Nat → Nat} {wt dc : Nat} {H : Nat → Nat → Nat}
theorem kr_pass (h : kr_R σ τ) (N : kr_now σ τ n kd wd hv w wt dc H) (K : kr_kep σ τ n kd wd hv w wt) (hd : dc < 40) : kr_R (kx_sI (kx_sI (kx_sI σ 4 5 (nI (H dc 0 + 1))) 20 dc (8 * 1 + 0)) 4 6 (nI (dc + 1))) (kx_sI (kq_past τ dc) 1 1 (nI (H dc 0 + 1))) := by
  have V := kn_v N
  obtain ⟨v', v0, ev⟩ : ∃ v' : Nat → Nat, v' 0 = H dc 0 + 1 ∧ ∀ k, 1 ≤ k → v' k = H dc k := ⟨fun k => if k = 0 then H dc 0 + 1 else H dc k, rfl, fun k hk => if_neg (by omega)⟩
  have es : kp_sum v' = kp_sum (H dc) := by unfold kp_sum; rw [ev 9 (by omega), ev 10 (by omega), ev 11 (by omega), ev 12 (by omega), ev 13 (by omega), ev 14 (by omega)]
  refine kr_deed h N K hd v' (nI 8) ?_ ?_ (Or.inr (Or.inl ⟨rfl, v0, fun k hk _ => ev k hk⟩)) (fun a q1 q2 q3 => ?_) (fun k hk => ?_) (fun d hd => ?_) ?_ (fun i hi k hk => ?_) (fun i hi => Or.inl ?_) rfl ?_ (fun c hc => ?_) rfl ?_ (fun k hk => ?_) (fun x hx => ?_)
  · unfold kp_v
    rw [ev 1 (by omega), ev 2 (by omega)]
    refine ⟨V.1, V.2.1, fun i hi => ?_, fun i hi => ?_, fun i hi hb => ?_⟩
    · rw [ev _ (by omega)]; exact V.2.2.1 i hi
    · rw [ev _ (by omega)]; exact V.2.2.2.1 i hi
    · rw [ev _ (by omega)]; exact V.2.2.2.2 i hi hb
  · rw [v0]
    have := kn_h N
    omega
  · rw [kv_ua q1, kv_ua q2, kv_ua q1]
  · rw [kv_un (by omega), kv_un (by omega), kv_un (by omega)]
  · rw [kv_un (by omega), kv_un (by omega), kv_un (by omega)]
  · rw [kv_un (by omega), kv_us]; rfl
  · rw [kv_un (by omega), kv_un (by omega), kv_un (by omega)]
  · rw [kv_un (by omega), kv_un (by omega), kv_un (by omega)]
  · obtain ⟨c1, c2, c3, c4⟩ := N.2.2.2.2.1
    refine ⟨?_, ?_, ?_, fun i hi => ?_⟩
    · show (kx_sI _ 4 6 _).1 4 5 = nI (v' 0)
      rw [kv_un (by omega), kv_un (by omega), kv_us, v0]
    · exact kv_us _ 4 6 _
    · show (kx_sI _ 4 6 _).1 4 7 = _
      rw [kv_un (by omega), kv_un (by omega), kv_un (by omega), es]; exact c3
    · rw [kv_un (by omega), kv_un (by omega), kv_un (by omega), kv_un (by omega), kv_un (by omega), kv_un (by omega), kv_un (by omega), kv_un (by omega), kv_un (by omega), ev _ (by omega), ev _ (by omega), ev _ (by omega), ev _ (by omega)]
      exact c4 i hi
  · rw [kv_ua hc, kq_past_ne τ dc hc]
  · show (kx_sI (kq_past τ dc) 1 1 _).1 1 0 = _
    rw [kv_un (by omega)]; exact (kq_past_at τ dc 1 0).trans (if_pos ⟨rfl, rfl⟩)
  · show (kx_sI (kq_past τ dc) 1 1 _).1 1 (1 + k) = _
    by_cases hk0 : k = 0
    · subst hk0; rw [v0]; exact kv_us _ 1 1 _
    · rw [kv_un (by omega), kq_past_lo τ dc hk, ev k (by omega)]
      exact kn_mk N hk
  · show (kx_sI (kq_past τ dc) 1 1 _).1 1 x = _
    rw [kv_un (by omega)]
theorem s3_doPass (N : kr_now σ τ n kd wd hv w wt dc H) (hd : dc < 40) {Q : kx_St → Prop} (q : Q (kx_sI (kx_sI (kx_sI σ 4 5 (nI (H dc 0 + 1))) 20 dc (8 * 1 + 0)) 4 6 (nI (dc + 1)))) : p3_doPass σ 4 Q := by
  have hch : σ.1 4 5 = nI (H dc 0) := kn_ch N
  refine ⟨(ky_par 0 (by decide)).1, s3_isFull (kn_cd N) (by omega) (fun _ => kv_t rfl ?_) (fun q => by omega)⟩
  rw [hch, show nI (H dc 0) + 1 = nI (H dc 0 + 1) from nI_1 _]
  exact s3_note (dc := dc) (by rw [kv_un (by omega)]; exact kn_cd N) hd q
theorem kr_lots {n c : Nat} (n0 : 0 < n) (c20 : c ≤ 20) : ∀ d s t x k dc, kr_R s t → s.1 4 3 = nI n → s.1 4 6 = nI dc → n ≤ 6 → k + d = c → dc + d ≤ 40 → 0 ≤ Int64.toInt x → Int64.toInt x < 2147483648 → ∃ v u w, (∀ Q : kx_St → Int32 → Prop, Q u v → p6_lots_L63 (d + 1) s (nI c) x (nI k) Q) ∧ (∀ Q : kx_St → Int32 → Prop, Q w v → p7_lots_L58 (d + 1) t (nI c) x (nI k) Q) ∧ kr_R u w := by
  intro d
  induction d with
  | zero =>
    intro s t x k dc h hs3 hs6 n6 hk hd hx0 hx1
    obtain ⟨n', kd, wd, hv, w, wt, dc', H, N, K⟩ := h.2.2.2.2.1
    refine ⟨nI (kp_sum (H dc')), s, t, fun Q q => ?_, fun Q q => ?_, h⟩
    · unfold p6_lots_L63
      refine kv_t (by rw [kv_leN (by omega) (by omega)]; omega) ?_
      rw [show s.1 4 7 = nI (kp_sum (H dc')) from N.2.2.2.2.1.2.2.1]
      exact q
    · unfold p7_lots_L58
      exact kv_t (by rw [kv_leN (by omega) (by omega)]; omega) (s7_paidIn N q)
  | succ d ih =>
    intro s t x k dc h hs3 hs6 n6 hk hd hx0 hx1
    obtain ⟨n', kd, wd, hv, w, wt, dc', H, N, K⟩ := h.2.2.2.2.1
    have n6' := kn_n6 N
    have d40' := kn_dc N
    have en : n' = n := (kv_inj (by omega) (by omega)).mp ((kn_cn N).symm.trans hs3)
    have ed : dc' = dc := (kv_inj (by omega) (by omega)).mp ((kn_cd N).symm.trans hs6)
    subst en ed
    have hd40 : dc' < 40 := by omega
    obtain ⟨y, hy⟩ : ∃ y, y = (x * 48271) - (x * 48271) / 2147483647 * 2147483647 := ⟨_, rfl⟩
    have hl := kl_lot hx0 hx1
    rw [← hy] at hl
    obtain ⟨i, hi, hp⟩ := kl_pick (n := n') hl.1 n0 n6'
    have nz : ¬ (nI n').toInt64 = 0 := ks_n0 (by omega) n0
    have p0 : 0 < s.1 4 3 := by rw [hs3]; exact (kv_ltN (by decide) (by omega)).mpr n0
    have KK := kn_K N hi
    have V := kn_v N
    have e3 : s.1 (30 + i) 3 = nI (H dc' (3 + i)) := KK.2.2.2.2.1
    have t3 : H dc' (3 + i) < 4 := V.2.2.1 i hi
    have f1 : (kq_past t dc').1 1 (2 : Int32).toNatClampNeg = nI (H dc' 1) := (kq_past_lo t dc' (k := 1) (by decide)).trans (kn_mk N (by decide))
    have m4 : (kq_past t dc').1 1 (4 + i) = nI (H dc' (3 + i)) := by
      rw [show 4 + i = 1 + (3 + i) by omega, kq_past_lo t dc' (by omega)]; exact kn_mk N (by omega)
    have m1 : (kq_past t dc').1 1 (1 : Int32).toNatClampNeg = nI (H dc' 0) := (kq_past_lo t dc' (k := 0) (by decide)).trans (kn_mk N (by decide))
    -- the class' step, the reference's step
    have C : ∀ (Q : kx_St → Int32 → Prop) (u : kx_St), (∀ Q' : kx_St → Prop, Q' u → p6_doByLot s y Q') → p6_lots_L63 (d + 1) u (nI c) y (nI (k + 1)) Q → p6_lots_L63 (d + 1 + 1) s (nI c) x (nI k) Q := by
      intro Q u hu q
      rw [p6_lots_L63, ← hy]
      refine kv_f (by rw [kv_leN (by omega) (by omega)]; omega) (hu _ ?_)
      rw [show nI k + 1 = nI (k + 1) from nI_1 _]
      exact q
    have pass : (∀ Q' : kx_St → Prop, p6_doByLot_J92 s Q' → p6_doByLot s y Q') → (∀ Q : kx_St → Int32 → Prop, p7_lots_J156 (kq_past t dc') (nI c) y (nI k) (fun σ x1 x3 x5 => p7_lots_L58 (d + 1) σ x1 x3 x5 Q) Q → p7_lots_L58 (d + 1 + 1) t (nI c) x (nI k) Q) → ∃ v u w, (∀ Q : kx_St → Int32 → Prop, Q u v → p6_lots_L63 (d + 1 + 1) s (nI c) x (nI k) Q) ∧ (∀ Q : kx_St → Int32 → Prop, Q w v → p7_lots_L58 (d + 1 + 1) t (nI c) x (nI k) Q) ∧ kr_R u w := by
      intro hc hm
      obtain ⟨v, u, w', q1, q2, q3⟩ := ih _ _ y (k + 1) (dc' + 1) (kr_pass h N K hd40) (by rw [kv_un (by omega), kv_un (by omega), kv_un (by omega)]; exact hs3) (kv_us _ _ _ _) n6 (by omega) (by omega) hl.1 hl.2
      refine ⟨v, u, w', fun Q q => C Q _ (fun Q' q' => hc Q' (s3_doPass N hd40 q')) (q1 Q q), fun Q q => hm Q ?_, q3⟩
      unfold p7_lots_J156
      rw [m1, show nI k + 1 = nI (k + 1) from nI_1 _, show nI (H dc' 0) + 1 = nI (H dc' 0 + 1) from nI_1 _]
      exact q2 Q q
    have M : ∀ Q : kx_St → Int32 → Prop, (((H dc' 1).testBit i = true → vp_in (4 + nI i) 2480 ∧ ((3 ≤ nI (H dc' (3 + i)) → p7_lots_J156 (kq_past t dc') (nI c) y (nI k) (fun σ x1 x3 x5 => p7_lots_L58 (d + 1) σ x1 x3 x5 Q) Q) ∧ (¬ 3 ≤ nI (H dc' (3 + i)) → (¬ (lg_cmp (y - y / 2 * 2) 0) = 0 → p7_lots_J156 (kq_past t dc') (nI c) y (nI k) (fun σ x1 x3 x5 => p7_lots_L58 (d + 1) σ x1 x3 x5 Q) Q) ∧ ((lg_cmp (y - y / 2 * 2) 0) = 0 → vp_in (4 + nI i) 2480 ∧ (vp_in (4 + nI i) 2480 ∧ p7_lots_L58 (d + 1) (kx_sI (kq_past t dc') 1 (4 + i) (nI (H dc' (3 + i)) + 1)) (nI c) y (nI k + 1) Q))))) ∧ ((H dc' 1).testBit i = false → p7_flies (kq_past t dc') 0 (nI i) (fun σ17 r16 => p7_lots_L58 (d + 1) σ17 (nI c) y (nI k + 1) Q))) → p7_lots_L58 (d + 1 + 1) t (nI c) x (nI k) Q := by
      intro Q q
      rw [p7_lots_L58, ← hy, kn_mn N, hp]
      refine kv_f (by rw [kv_leN (by omega) (by omega)]; omega) ⟨nz, s7_keepPast (kn_md N) hd40 (s7_has f1 (kp_f64 V n6').1 (by omega) (fun z => kv_F (by decide) ?_) (fun z => ⟨fun r => absurd rfl r, fun _ => q.2 z⟩))⟩
      have q := q.1 z
      rw [show (4 : Int32) + nI i = nI (4 + i) from kv_add 4 i] at q ⊢
      rw [kv_c (show 4 + i < 2147483648 by omega), m4]
      exact q
    have v4 : vp_in (4 + nI i) 2480 := by rw [show (4 : Int32) + nI i = nI (4 + i) from kv_add 4 i]; exact kv_in (by omega) (by decide)
    have D : ∀ Q' : kx_St → Prop, (((H dc' 1).testBit i = true → (3 ≤ nI (H dc' (3 + i)) → p6_doByLot_J92 s Q') ∧ (¬ 3 ≤ nI (H dc' (3 + i)) → (¬ (lg_cmp (y - y / 2 * 2) 0) = 0 → p6_doByLot_J92 s Q') ∧ ((lg_cmp (y - y / 2 * 2) 0) = 0 → p3_doTie s 4 (nI i) Q'))) ∧ ((H dc' 1).testBit i = false → p3_doFly s 4 (nI i) Q')) → p6_doByLot s y Q' := by
      intro Q' q
      unfold p6_doByLot
      refine kv_t p0 ?_
      rw [hs3, hp]
      refine ⟨nz, s3_kite_in N hi (kv_some ⟨KK.1, s1_wasFlown N hi (fun z => kv_F (by decide) ?_) (fun z => ⟨fun r => absurd rfl r, fun _ => q.2 z⟩)⟩)⟩
      rw [e3]
      exact q.1 z
    rcases hb : (H dc' 1).testBit i with _ | _
    · have hpp := kn_P_le N hi 0
      have RR := kr_fly h N K hd40 hi hb hpp (4 * hv i < ku_lift (kd i) (wd i) (H dc' (3 + i)) (w ((H dc' 0 + 0) % 4)))
      obtain ⟨v, u, w', q1, q2, q3⟩ := ih _ _ y (k + 1) (dc' + 1) RR (by unfold kq_flown; rw [kv_un (by omega), kv_un (by omega), kv_un (by omega), kv_un (by omega), kv_un (by omega), kv_un (by omega)]; exact hs3) (kv_us _ _ _ _) n6 (by omega) (by omega) hl.1 hl.2
      refine ⟨v, u, w', fun Q q => C Q _ (fun Q' q' => D Q' ⟨fun z => (by rw [hb] at z; cases z), fun _ => s3_doFly N hd40 hi hb q'⟩) (q1 Q q), fun Q q => M Q ⟨fun z => (by rw [hb] at z; cases z), fun _ => ?_⟩, q3⟩
      rw [show nI k + 1 = nI (k + 1) from nI_1 _]
      have MM : ku_M (kq_past t dc') 0 i (kd i) (wd i) (hv i) (H dc' (3 + i)) := ku_M_fr (kn_M N hi) (kq_past_ne t dc' (by decide)) (kq_past_ne t dc' (by decide)) (kq_past_ne t dc' (by decide)) (by rw [show 0 + 4 + i = 1 + (3 + i) by omega]; exact kq_past_lo t dc' (by omega))
      have h40 := kn_h40 N
      exact s7_flies (b := 0) (a := H dc' 0 + 0) (f := H dc' 1) (l := H dc' 2) (w := w) rfl MM ((kq_past_lo t dc' (k := 0) (by decide)).trans (kn_mk N (by decide))) (by omega) (fun h hh => by rw [kq_past_ne t dc' (by decide)]; exact kn_mw N h hh) (kn_w N) ((kq_past_lo t dc' (k := 1) (by decide)).trans (kn_mk N (by decide))) (kp_f64 V n6').1 ((kq_past_lo t dc' (k := 2) (by decide)).trans (kn_mk N (by decide))) (kp_f64 V n6').2 (q2 Q q)
    · by_cases t2 : 3 ≤ nI (H dc' (3 + i))
      · exact pass (fun Q' q' => D Q' ⟨fun _ => kv_t t2 q', fun z => (by rw [hb] at z; cases z)⟩) (fun Q q => M Q ⟨fun _ => ⟨v4, kv_t t2 q⟩, fun z => (by rw [hb] at z; cases z)⟩)
      · by_cases par : (lg_cmp (y - y / 2 * 2) 0) = 0
        · have tl : H dc' (3 + i) < 3 := Nat.lt_of_not_le (fun r => t2 ((kv_leN (a := 3) (by decide) (by omega)).mpr r))
          obtain ⟨v, u, w', q1, q2, q3⟩ := ih _ _ y (k + 1) (dc' + 1) (kr_tail h N K hd40 hi (t' := H dc' (3 + i) + 1) (by omega) (Or.inl ⟨rfl, rfl⟩)) (by rw [kv_un (by omega), kv_un (by omega), kv_un (by omega)]; exact hs3) (kv_us _ _ _ _) n6 (by omega) (by omega) hl.1 hl.2
          refine ⟨v, u, w', fun Q q => C Q _ (fun Q' q' => D Q' ⟨fun _ => kv_f t2 (kv_T par (s3_doTie N hd40 hi q')), fun z => (by rw [hb] at z; cases z)⟩) (q1 Q q), fun Q q => M Q ⟨fun _ => ⟨v4, kv_f t2 (kv_T par ⟨v4, v4, ?_⟩)⟩, fun z => (by rw [hb] at z; cases z)⟩, q3⟩
          rw [show nI k + 1 = nI (k + 1) from nI_1 _, show nI (H dc' (3 + i)) + 1 = nI (H dc' (3 + i) + 1) from nI_1 _]
          exact q2 Q q
        · exact pass (fun Q' q' => D Q' ⟨fun _ => kv_f t2 (kv_F par q'), fun z => (by rw [hb] at z; cases z)⟩) (fun Q q => M Q ⟨fun _ => ⟨v4, kv_f t2 (kv_F par q)⟩, fun z => (by rw [hb] at z; cases z)⟩)
theorem th_lots (σ τ : kx_St) (h : kr_R σ τ) : lt_lots kr_R σ τ := by
  obtain ⟨n, kd, wd, hv, w, wt, dc, H, N, K⟩ := h.2.2.2.2.1
  intro a0 a1
  have n6 := kn_n6 N
  have d40 := kn_dc N
  have u1 := Int32.toInt_lt a1
  have i1 : ∀ {Q : Int32 → Prop}, (1 ≤ a0.toInt ∧ a0.toInt ≤ 20 → Q 1) → (¬ (1 ≤ a0.toInt ∧ a0.toInt ≤ 20) → Q 0) → p7_in a0.toInt64 1 20 Q := fun q1 q0 => s7_in (fun c => q1 (by rw [kv_l] at c; exact c)) (fun c => q0 (by rw [kv_l] at c; exact c))
  have i2 : ∀ {Q : Int32 → Prop}, (1 ≤ a1.toInt ∧ a1.toInt ≤ 2147483646 → Q 1) → (¬ (1 ≤ a1.toInt ∧ a1.toInt ≤ 2147483646) → Q 0) → p7_in a1.toInt64 1 2147483646 Q := fun q1 q0 => s7_in (fun c => q1 (by rw [kv_l] at c; exact c)) (fun c => q0 (by rw [kv_l] at c; exact c))
  have c1 : a0 < 1 ↔ a0.toInt < 1 := kv_lt
  have c2 : 20 < a0 ↔ (20 : Int) < a0.toInt := kv_lt
  have c3 : a1 < 1 ↔ a1.toInt < 1 := kv_lt
  have c4 : lg_cmp a1.toInt64 2147483647 < 0 ↔ a1.toInt < 2147483647 := by
    simp only [lg_cmp_lt, Int64.lt_iff_toInt_lt, kv_l]
    exact Iff.rfl
  unfold p6_lots
  rw [c1, c2, c3, c4]
  by_cases hA : 1 ≤ a0.toInt ∧ a0.toInt ≤ 20
  · by_cases hB : 1 ≤ a1.toInt ∧ a1.toInt ≤ 2147483646
    · rcases kv_arg a0 21 with ⟨c, hc, rfl⟩ | ho
      · have hmn := kn_mn N
        have hmd : τ.1 1 (0 : Int32).toNatClampNeg = nI dc := kn_md N
        have R : ∀ Q : kx_St → Int32 → Prop, ((¬ τ.1 0 3 = 0 → (τ.1 1 (0 : Int32).toNatClampNeg + nI c ≤ 40 → ∃ m58, p7_lots_L58 m58 τ (nI c) (a1.toInt64) 0 Q) ∧ (¬ τ.1 1 (0 : Int32).toNatClampNeg + nI c ≤ 40 → Q τ (-2))) ∧ (τ.1 0 3 = 0 → Q τ (-4))) → p7_lots τ (nI c) a1 Q := by
          intro Q q
          unfold p7_lots
          exact i1 (fun _ => kv_f (by decide) (i2 (fun _ => kv_F (by decide) q) (fun z => absurd hB z))) (fun z => absurd hA z)
        by_cases h0 : n = 0
        · subst h0
          exact ⟨-4, kv_f (by omega) (kv_f (by omega) (kv_f (by omega) (kv_t (by omega) (s3_isEmpty (j := 0) (by decide) (kn_cn N) n6 (fun q => absurd q (by decide)) (fun _ => kv_f (by decide) ⟨rfl, R _ (kv_T hmn ⟨rfl, h⟩)⟩)))))⟩
        · have m0 : ¬ τ.1 0 3 = 0 := by rw [hmn]; exact fun q => h0 ((kv_inj (by omega) (by decide)).mp q)
          have g : ∀ x : Int32, x = nI dc → (x + nI c ≤ 40 ↔ dc + c ≤ 40) := fun x e => by
            rw [e, kv_add]
            exact kv_leN (b := 40) (by omega) (by decide)
          have g1 := g _ (show σ.1 4 6 = nI dc from kn_cd N)
          have g2 := g _ hmd
          by_cases hd : dc + c ≤ 40
          · obtain ⟨v, u, w', q1, q2, q3⟩ := kr_lots (n := n) (c := c) (by omega) (by omega) c σ τ a1.toInt64 0 dc h (kn_cn N) (kn_cd N) n6 (by omega) hd (by rw [kv_l]; omega) (by rw [kv_l]; omega)
            exact ⟨v, kv_f (by omega) (kv_f (by omega) (kv_f (by omega) (kv_t (by omega) (s3_isEmpty (j := 0) (by decide) (kn_cn N) n6 (fun _ => kv_t rfl (kv_t (g1.mpr hd) ⟨c + 1, q1 _ ⟨rfl, R _ (kv_F m0 (kv_t (g2.mpr hd) ⟨c + 1, q2 _ ⟨rfl, q3⟩⟩))⟩⟩)) (fun q => absurd q h0)))))⟩
          · exact ⟨-2, kv_f (by omega) (kv_f (by omega) (kv_f (by omega) (kv_t (by omega) (s3_isEmpty (j := 0) (by decide) (kn_cn N) n6 (fun _ => kv_t rfl (kv_f (fun r => hd (g1.mp r)) ⟨rfl, R _ (kv_F m0 (kv_f (fun r => hd (g2.mp r)) ⟨rfl, h⟩))⟩)) (fun q => absurd q h0)))))⟩
      · exfalso; omega
    · have mm : p7_lots τ a0 a1 (fun w q => q = -1 ∧ kr_R σ w) := i1 (fun _ => kv_f (by decide) (i2 (fun z => absurd z hB) (fun _ => kv_T rfl ⟨rfl, h⟩))) (fun z => absurd hA z)
      by_cases z : a1.toInt < 1
      · exact ⟨-1, kv_f (by omega) (kv_f (by omega) (kv_t z ⟨rfl, mm⟩))⟩
      · exact ⟨-1, kv_f (by omega) (kv_f (by omega) (kv_f z (kv_f (by omega) ⟨rfl, mm⟩)))⟩
  · have mm : p7_lots τ a0 a1 (fun w q => q = -1 ∧ kr_R σ w) := i1 (fun z => absurd z hA) (fun _ => kv_t rfl ⟨rfl, h⟩)
    by_cases z : a0.toInt < 1
    · exact ⟨-1, kv_t z ⟨rfl, mm⟩⟩
    · exact ⟨-1, kv_f z (kv_t (by omega) ⟨rfl, mm⟩)⟩
end
