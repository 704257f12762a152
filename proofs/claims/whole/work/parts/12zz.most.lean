section
variable {σ τ t : kx_St} {n : Nat} {kd wd hv w : Nat → Nat} {wt dc : Nat} {H : Nat → Nat → Nat}
theorem s7_paid_L (N : kr_now σ τ n kd wd hv w wt dc H) {hrs : Nat} {l : Nat → Nat} {Q : kx_St → Int32 → Prop} (hr : hrs ≤ 6) (hl : ∀ x, x < hrs → l x ≤ n) : ∀ d h u s a t, h + d = hrs → u < 64 → a < 64 → kt_F τ t → kt_I t n (H dc) (H dc 0 + h) u a → (∀ x, x < hrs → t.1 13 x = nI (l x)) → (∀ t', kt_F τ t' → (∀ c, c ≠ 1 → t'.1 c = t.1 c) → Q t' (nI (kb_pv (kb_fb false kd wd hv w (H dc)) (kb_g kd wd hv w (H dc)) l d h u s) - 1)) → p7_paidBy_L11 (d + 2) t (nI hrs) (nI s) 1 (nI h) Q := by
  have n6 := kn_n6 N
  have h40 := kn_h40 N
  intro d
  induction d with
  | zero =>
    intro h u s a t hh hu ha F I hL q
    obtain rfl : h = hrs := by omega
    unfold p7_paidBy_L11 p7_paidBy_J116
    refine kv_t (by rw [kv_leN (by omega) (by omega)]; omega) (kv_f (by decide) ?_)
    have := q t F (fun _ _ => rfl)
    rw [kb_pv, kv_p1] at this
    exact this
  | succ d ih =>
    intro h u s a t hh hu ha F I hL q
    have hx : h < hrs := by omega
    have N' := kt_N N F
    have lx := hl h hx
    have e65 : t.1 1 (2465 : Int32).toNatClampNeg = nI (H dc 0 + h) := I.1
    have e66 : t.1 1 (2466 : Int32).toNatClampNeg = nI u := I.2.1
    rw [show d + 1 + 2 = d + 2 + 1 from rfl, p7_paidBy_L11, kv_c (show h < 2147483648 by omega), hL h hx, show nI h + 1 = nI (h + 1) from nI_1 _]
    refine kv_f (by rw [kv_leN (by omega) (by omega)]; omega) (kv_f (by decide) ⟨kv_in (by omega) (by decide), ?_⟩)
    by_cases c0 : l h = 0
    · have FI := kt_hour F I
      rw [c0]
      refine kv_f (by decide) ?_
      rw [e65, show nI (H dc 0 + h) + 1 = nI (H dc 0 + h + 1) from nI_1 _]
      refine ih (h + 1) u s a _ (by omega) hu ha FI.1 FI.2 (fun x hx => (kv_un (by omega)).trans (hL x hx)) (fun t' F' c' => ?_)
      have := q t' F' (fun c hc => (c' c hc).trans (kv_ua hc))
      rw [kb_pv, if_pos c0] at this
      exact this
    · obtain ⟨i, hi⟩ : ∃ i, l h = i + 1 := ⟨l h - 1, by omega⟩
      have hin : i < n := by omega
      have i6 : i < 6 := by omega
      have ww : w ((H dc 0 + h) % 4) < 10 := kn_wm N _
      have q' : ∀ t', kt_F τ t' → (∀ c, c ≠ 1 → t'.1 c = t.1 c) → Q t' (nI (if (kb_fb false kd wd hv w (H dc) h i || u.testBit i) = true then 0 else kb_pv (kb_fb false kd wd hv w (H dc)) (kb_g kd wd hv w (H dc)) l d (h + 1) (u ||| 2 ^ i) (s + kb_g kd wd hv w (H dc) h i)) - 1) := fun t' F' c' => by
        have := q t' F' c'
        rw [kb_pv, if_neg c0, hi, show i + 1 - 1 = i from rfl] at this
        exact this
      rw [hi, kv_p1]
      refine kv_t (kv_ge0 (by omega)) ?_
      have bad : (kb_fb false kd wd hv w (H dc) h i || u.testBit i) = true → p7_paidBy_J97 t (nI hrs) (nI s) (nI h) (nI i) 0 (fun σ x1 x2 x3 x4 => p7_paidBy_L11 (d + 2) σ x1 x2 x3 x4 Q) Q := by
        intro o
        rw [if_pos o] at q'
        unfold p7_paidBy_J97
        refine kt_fly N F I hin (by omega) hu ha (fun t' F' _ c' => ?_)
        have J : p7_paidBy_J116 t' (nI s + nI (kt_P kd wd hv w (H dc) i (H dc 0 + h))) 0 Q := kv_t rfl (q' t' F' c')
        show p7_paidBy_L11 (d + 1 + 1) t' (nI hrs) (nI s + nI (kt_P kd wd hv w (H dc) i (H dc 0 + h))) 0 (nI h + 1) Q
        rw [p7_paidBy_L11]
        exact ⟨fun _ => J, fun _ => kv_t rfl J⟩
      rw [e66]
      refine s7_has rfl hu i6 (fun b => kv_F (by decide) (bad (by rw [b]; exact Bool.or_true _))) (fun b => kv_T rfl ?_)
      rw [e65]
      refine s7_windAt rfl (by omega) (kn_mw N') (s7_isLifted rfl (kt_M N F I hin) ww (fun c => kv_F (by decide) (bad ?_)) (fun c => kv_T rfl ?_))
      · unfold kb_fb
        rw [decide_eq_true c]; rfl
      · have o : ¬ (kb_fb false kd wd hv w (H dc) h i || u.testBit i) = true := by
          unfold kb_fb
          rw [decide_eq_false c, b]; decide
        rw [if_neg o] at q'
        unfold p7_paidBy_J97
        refine kt_fly N F I hin (by omega) hu ha (fun t' F' I' c' => ?_)
        rw [kv_add, show nI h + 1 = nI (h + 1) from nI_1 _]
        exact ih (h + 1) (u ||| 2 ^ i) (s + kt_P kd wd hv w (H dc) i (H dc 0 + h)) _ t' (by omega) (ku_or64 u hu i i6) (by split; exact ku_or64 a ha i i6; exact ha) F' I' (fun x hx => by rw [c' 13 (by decide)]; exact hL x hx) (fun t2 F2 c2 => q' t2 F2 (fun c hc => (c2 c hc).trans (c' c hc)))
def kn_ev (n : Nat) (kd wd hv w v : Nat → Nat) (hrs : Nat) (l : Nat → Nat) : Nat := kb_pv (kb_fb false kd wd hv w v) (kb_g kd wd hv w v) l hrs 0 (v 1) 0
theorem s7_paidBy (N : kr_now σ τ n kd wd hv w wt dc H) {hrs : Nat} {l : Nat → Nat} {Q : kx_St → Int32 → Prop} (hr : hrs ≤ 6) (hl : ∀ x, x < hrs → l x ≤ n) (F : kt_F τ t) (hL : ∀ x, x < hrs → t.1 13 x = nI (l x)) (q : ∀ t', kt_F τ t' → (∀ c, c ≠ 1 → t'.1 c = t.1 c) → Q t' (nI (kn_ev n kd wd hv w (H dc) hrs l) - 1)) : p7_paidBy t (nI hrs) Q := by
  have n6 := kn_n6 N
  have f64 := kp_f64 (kn_v N) n6
  obtain ⟨a, b, c⟩ := kt_lay (kt_N N F)
  refine s7_layTried ⟨hrs + 2, s7_paid_L N hr hl hrs 0 (H dc 1) 0 (H dc 2) _ (by omega) f64.1 f64.2 (kt_tr F a) b (fun x hx => ?_) (fun t' F' c' => q t' F' (fun x hx => (c' x hx).trans (c x hx)))⟩
  rw [c 13 (by decide)]
  exact hL x hx
theorem s7_copyLine {N : Nat} {m : Int32} {l : Nat → Nat} {k74 : kx_St → Int32 → Int32 → Prop} {Q : kx_St → Int32 → Prop} (hN : N ≤ 6) (q : ∀ t', kn_E τ N t' l l → k74 t' (nI N) m) : ∀ d j t, j + d = N → kt_F τ t → (∀ x, x < N → t.1 13 x = nI (l x)) → (∀ x, x < j → t.1 14 x = nI (l x)) → p7_mostIn_L48 (d + 1) t (nI N) m (nI j) k74 Q := by
  intro d
  induction d with
  | zero =>
    intro j t hj F hL hB
    obtain rfl : j = N := by omega
    unfold p7_mostIn_L48
    exact kv_t (by rw [kv_leN (by omega) (by omega)]; omega) (q t ⟨F, hL, hB⟩)
  | succ d ih =>
    intro j t hj F hL hB
    rw [p7_mostIn_L48, kv_c (by omega), hL j (by omega), show nI j + 1 = nI (j + 1) from nI_1 _]
    refine kv_f (by rw [kv_leN (by omega) (by omega)]; omega) ⟨kv_in (by omega) (by decide), kv_in (by omega) (by decide), ih (j + 1) _ (by omega) (kt_sc F (by decide) _ _) (fun x hx => (kv_un (by omega)).trans (hL x hx)) (fun x hx => ?_)⟩
    by_cases e : x = j
    · subst e; exact kv_us _ _ _ _
    · exact (kv_un (by omega)).trans (hB x (by omega))
theorem kn_m1 {a b : Nat} (ha : a < 1000000) (hb : b < 1000000) : nI a - 1 ≤ nI b - 1 ↔ a ≤ b := by
  have e : ∀ x, x < 1000000 → (nI x - 1).toInt = (x : Int) - 1 := fun x hx => by
    rcases Nat.eq_zero_or_pos x with rfl | h
    · decide
    · rw [show (1 : Int32) = nI 1 from rfl, kv_sub h, kv_n (by omega)]; omega
  rw [kv_le, e a ha, e b hb]
  omega
theorem kb_pv_le (N : kr_now σ τ n kd wd hv w wt dc H) {l : Nat → Nat} {hrs : Nat} (hl : ∀ x, x < hrs → l x ≤ n) : ∀ d h u s, h + d = hrs → kb_pv (kb_fb false kd wd hv w (H dc)) (kb_g kd wd hv w (H dc)) l d h u s ≤ s + 51 * d + 1 := by
  intro d
  induction d with
  | zero => intro h u s _; exact Nat.le_refl _
  | succ d ih =>
    intro h u s hh
    rw [kb_pv]
    have lx := hl h (by omega)
    split
    · have := ih (h + 1) u s (by omega); omega
    · split
      · omega
      · have a := ih (h + 1) (u ||| 2 ^ (l h - 1)) (s + kb_g kd wd hv w (H dc) h (l h - 1)) (by omega)
        have b : kb_g kd wd hv w (H dc) h (l h - 1) ≤ 51 := kn_P_le N (by omega) h
        omega
theorem nI_any (x : Int32) : ∃ k, x = nI k := ⟨x.toBitVec.toNat, by apply Int32.toBitVec_inj.mp; simp [nI]⟩
theorem s7_mostIn (N : kr_now σ τ n kd wd hv w wt dc H) {hrs : Nat} {Q : kx_St → Int32 → Prop} (hr : hrs ≤ 6) (F : kt_F τ t) (q : ∀ t', kt_F τ t' → (∀ x, x < hrs → t'.1 14 x = nI (kb_ln n (kb_fb false kd wd hv w (H dc)) (kb_g kd wd hv w (H dc)) hrs 0 (H dc 1) x)) → Q t' (nI (kb_W false n kd wd hv w (H dc) hrs 0 (H dc 1)))) : p7_mostIn t (nI hrs) Q := by
  have n6 := kn_n6 N
  have mn : τ.1 0 3 = nI n := kn_mn N
  have em : (nI 0 - 1 : Int32) = -1 := by decide
  have L6 : ∀ d j t, j + d = 6 → kt_F τ t → (∀ x, x < j → t.1 13 x = nI 0) → p7_mostIn_L2 (d + 1) t (nI hrs) (nI j) Q := by
    intro d
    induction d with
    | succ d ih =>
      intro j t hj F hL
      rw [p7_mostIn_L2, kv_c (by omega), show nI j + 1 = nI (j + 1) from nI_1 _]
      refine kv_f (by show ¬ nI 6 ≤ nI j; rw [kv_leN (by omega) (by omega)]; omega) ⟨kv_in (by omega) (by decide), ih (j + 1) _ (by omega) (kt_sc F (by decide) _ _) (fun x hx => ?_)⟩
      by_cases e : x = j
      · subst e; exact kv_us _ _ _ _
      · exact (kv_un (by omega)).trans (hL x (by omega))
    | zero =>
      intro j t hj F hL
      obtain rfl : j = 6 := by omega
      unfold p7_mostIn_L2
      refine kv_t (by decide) ⟨1 + (n + 1) ^ hrs, ?_⟩
      obtain ⟨b0, hb0⟩ : ∃ b0 : Nat → Nat, ∀ x, t.1 14 x = nI (b0 x) := ⟨fun x => Classical.choose (nI_any (t.1 14 x)), fun x => Classical.choose_spec (nI_any (t.1 14 x))⟩
      have val := en_most (n := n) (fb := kb_fb false kd wd hv w (H dc)) (g := kb_g kd wd hv w (H dc)) (ev := kn_ev n kd wd hv w (H dc) hrs) hrs 0 (fun _ => 0) (H dc 1) 0 (0, b0) (fun _ _ => rfl) (fun l' _ => rfl)
      rw [if_neg (by dsimp only; omega)] at val
      have B := en_block (K := n) (N := hrs) (ev := kn_ev n kd wd hv w (H dc) hrs) (Inv := kn_E τ hrs) (Head := fun f t m => m < 1000000 → p7_mostIn_L25 f t (nI hrs) (nI m - 1) 1 Q) (Next := fun f t m => m < 1000000 → p7_mostIn_J74 t (nI hrs) (nI m - 1) (fun σ x1 x2 x3 => p7_mostIn_L25 f σ x1 x2 x3 Q) Q) (fun t l l' b h I => kn_E_cg t l l' b h I) (fun f t l b m hl I q hm => ?_) (fun f t l b m k hk lk la hl I q hm => ?_) hrs 0 (fun _ => 0) (0, b0) t 1 (by omega) (fun _ _ => rfl) (fun _ _ => Nat.zero_le _) ⟨F, fun x hx => hL x (by omega), fun x _ => hb0 x⟩ ?_ (show (0 : Nat) < 1000000 by decide)
      · rw [← em]; exact B
      · rw [p7_mostIn_L25]
        have evb : kn_ev n kd wd hv w (H dc) hrs l < 1000000 := by
          have := kb_pv_le N hl hrs 0 (H dc 1) 0 (by omega)
          unfold kn_ev
          omega
        refine kv_f (by decide) (s7_paidBy N hr hl I.1 I.2.1 (fun t' F' c' => ?_))
        by_cases c : kn_ev n kd wd hv w (H dc) hrs l ≤ m
        · rw [if_pos c, if_pos c] at q
          exact kv_t ((kn_m1 evb hm).mpr c) (q t' ⟨F', fun x hx => by rw [c' 13 (by decide)]; exact I.2.1 x hx, fun x hx => by rw [c' 14 (by decide)]; exact I.2.2 x hx⟩ hm)
        · rw [if_neg c, if_neg c] at q
          exact kv_f (fun z => c ((kn_m1 evb hm).mp z)) ⟨hrs + 1, s7_copyLine hr (fun t2 I2 => q t2 I2 evb) hrs 0 t' (by omega) F' (fun x hx => by rw [c' 13 (by decide)]; exact I.2.1 x hx) (fun x hx => absurd hx (Nat.not_lt_zero _))⟩
      · refine ⟨hrs + 1, s7_next_L hr (by omega) mn hrs t l (Nat.le_refl _) hl I (fun k' h1 h2 h3 t' I' => ?_) (fun h1 t' _ _ => ?_)⟩
        · have e : k' = k := by
            rcases Nat.lt_trichotomy k' k with c | c | c
            · have := h3 k c hk; omega
            · exact c
            · have := la k' c h1; omega
          subst e
          refine q t' (kn_E_cg _ _ _ _ (fun x hx => ?_) I') hm
          by_cases e1 : x < k'
          · rw [if_pos e1, if_pos e1]
          · rw [if_neg e1, if_neg e1]
            by_cases e2 : x = k'
            · rw [if_pos e2, if_pos e2]
            · rw [if_neg e2, if_neg e2, if_pos hx]
        · have := h1 k hk; omega
      · intro t' I' _
        rw [val] at I' ⊢
        refine ⟨hrs + 1, s7_next_L hr (by omega) mn hrs t' _ (Nat.le_refl _) (fun x _ => by rw [if_neg (by omega)]; exact Nat.le_refl _) I' (fun k' _ h2 _ t2 _ => ?_) (fun _ t2 F2 b2 => ?_)⟩
        · rw [if_neg (by omega)] at h2; omega
        · show p7_mostIn_L25 (0 + 1) t2 (nI hrs) (nI (0 + kb_W false n kd wd hv w (H dc) hrs 0 (H dc 1) + 1) - 1) 0 Q
          rw [p7_mostIn_L25]
          refine kv_t rfl ?_
          rw [kv_p1, Nat.zero_add]
          exact q t2 F2 (fun x hx => by rw [b2 x hx]; dsimp only; rw [if_neg (by omega)])
  exact ⟨7, L6 6 0 t (by decide) F (fun x hx => absurd hx (Nat.not_lt_zero _))⟩
/-- the ROW r is the best line -/
def kt_T (r m : Nat) (L : Nat → Nat) (t t' : kx_St) : Prop := (∀ c, c ≠ 6 → c ≠ 7 → t'.1 c = t.1 c) ∧ t'.2 = t.2 ∧ t'.1 6 r = nI m ∧ (∀ x, x ≠ r → t'.1 6 x = t.1 6 x) ∧ (∀ j, ¬ (40 * r ≤ j ∧ j < 40 * r + 40) → t'.1 7 j = t.1 7 j) ∧ ∀ p, p < m → t'.1 7 (40 * r + p) = kb_val (L p)
theorem s7_tellLine {m r : Nat} {L : Nat → Nat} {Q : kx_St → Prop} (hm : m ≤ 6) (r6 : r < 6) (hL : ∀ x, x < m → L x < 100) (hb : ∀ x, x < m → t.1 14 x = nI (L x)) (q : ∀ t', kt_T r m L t t' → Q t') : p7_tellLine t (nI m) (nI r) Q := by
  have G : ∀ d j s, j + d = m → (∀ x, x < m → s.1 14 x = nI (L x)) → (∀ t', (∀ c, c ≠ 7 → t'.1 c = s.1 c) → t'.2 = s.2 → (∀ x, ¬ (40 * r + j ≤ x ∧ x < 40 * r + m) → t'.1 7 x = s.1 7 x) → (∀ p, j ≤ p → p < m → t'.1 7 (40 * r + p) = kb_val (L p)) → Q t') → p7_tellLine_L8 (d + 1) s (nI m) (nI r) (nI j) Q := by
    intro d
    induction d with
    | zero =>
      intro j s hj hb q
      obtain rfl : j = m := by omega
      unfold p7_tellLine_L8
      exact kv_t (by rw [kv_leN (by omega) (by omega)]; omega) (q s (fun _ _ => rfl) rfl (fun _ _ => rfl) (fun p h1 h2 => by omega))
    | succ d ih =>
      intro j s hj hb q
      have lj := hL j (by omega)
      have st : ∀ v : Int32, v = kb_val (L j) → p7_tellLine_J45 s (nI m) (nI r) (nI j) 7 (40 * nI r + nI j) v (fun σ x1 x2 x3 => p7_tellLine_L8 (d + 1) σ x1 x2 x3 Q) Q := by
        intro v hv
        unfold p7_tellLine_J45
        rw [show kx_l 1 7 = 240 from by decide, kv_40, kv_c (by omega), show nI j + 1 = nI (j + 1) from nI_1 _]
        refine ⟨kv_in (by omega) (by decide), ih (j + 1) _ (by omega) (fun x hx => (kv_un (by omega)).trans (hb x hx)) (fun t' f1 f2 f3 f4 => q t' (fun c hc => (f1 c hc).trans (kv_ua hc)) f2 (fun x hx => (f3 x (by omega)).trans (kv_un (by omega))) (fun p p1 p2 => ?_))⟩
        by_cases e : p = j
        · subst e; rw [f3 _ (by omega), kv_us, hv]
        · exact f4 p (by omega) p2
      rw [p7_tellLine_L8, kv_c (show j < 2147483648 by omega), hb j (by omega)]
      refine kv_f (by rw [kv_leN (by omega) (by omega)]; omega) ⟨kv_in (by omega) (by decide), fun z => ⟨kv_in (by omega) (by decide), st _ ?_⟩, fun z => st _ ?_⟩
      · have l0 : L j ≠ 0 := fun e => z (by rw [e]; rfl)
        unfold kb_val
        rw [if_neg l0, show (1 : Int32) = nI 1 from rfl, kv_sub (by omega)]
      · have l0 : L j = 0 := (kv_inj (b := 0) (by omega) (by decide)).mp z
        unfold kb_val
        rw [if_pos l0]
  refine s7_makeRow r6 ⟨m + 1, G m 0 _ (by omega) (fun x hx => ?_) (fun t' f1 f2 f3 f4 => q t' ⟨fun c h1 h2 => ?_, f2, ?_, fun x hx => ?_, fun j hj => ?_, fun p hp => f4 p (Nat.zero_le _) hp⟩)⟩
  · rw [kq_fill_ne (by decide), kv_ua (by decide)]; exact hb x hx
  · rw [f1 c h2, kq_fill_ne h2, kv_ua h1]
  · rw [f1 6 (by decide), kq_fill_ne (by decide), kv_us]
  · rw [f1 6 (by decide), kq_fill_ne (by decide), kv_un (by omega)]
  · rw [f3 j (by omega)]
    exact (if_neg (by omega)).trans (kv_un (by omega))
theorem kr_T {s s' t' : kx_St} {r m : Nat} {L : Nat → Nat} (h : kr_R s t) (r6 : r < 6) (hm : m ≤ 6) (A : kb_T r m L s s') (B : kt_T r m L t t') : kr_R s' t' := by
  obtain ⟨a1, a2, a3, a4⟩ := A
  obtain ⟨b1, b2, b3, b4, b5, b6⟩ := B
  refine kr_R_row h r6 a1 a2 b1 b2 b4 b5 ⟨b3.trans a3.symm, Or.inr ⟨m, by omega, a3, fun i hi => ?_⟩⟩
  show t'.1 7 (40 * r + i) = _
  rw [b6 i hi, a4 i hi]
end
