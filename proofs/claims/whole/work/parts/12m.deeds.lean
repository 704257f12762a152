/-! DEEDS: what both sides do with one, and the relation after it -/
def kq_ps (τ : kx_St) (dc j : Nat) : kx_St := (fun c x => if c = 1 ∧ 16 + 15 * dc ≤ x ∧ x < 16 + 15 * dc + j then τ.1 1 (1 + (x - (16 + 15 * dc))) else τ.1 c x, τ.2)
theorem kq_ps0 (τ : kx_St) (dc : Nat) : kq_ps τ dc 0 = τ := by
  refine Prod.ext ?_ rfl
  funext c x
  exact if_neg (by omega)
theorem kq_psS (τ : kx_St) (dc j : Nat) : kx_sI (kq_ps τ dc j) 1 (16 + 15 * dc + j) (τ.1 1 (1 + j)) = kq_ps τ dc (j + 1) := by
  refine Prod.ext ?_ rfl
  funext c x
  simp only [kx_sI, kq_ps]
  by_cases h1 : c = 1 ∧ x = 16 + 15 * dc + j
  · rw [if_pos h1, if_pos (by omega)]
    exact congrArg (τ.1 1) (by omega)
  · rw [if_neg h1]
    by_cases h2 : c = 1 ∧ 16 + 15 * dc ≤ x ∧ x < 16 + 15 * dc + j
    · rw [if_pos h2, if_pos (by omega)]
    · rw [if_neg h2, if_neg (by omega)]
def kq_past (τ : kx_St) (dc : Nat) : kx_St := kx_sI (kq_ps τ dc 15) 1 0 (nI (dc + 1))
theorem kq_past_at (τ : kx_St) (dc c x : Nat) : (kq_past τ dc).1 c x = if c = 1 ∧ x = 0 then nI (dc + 1) else if c = 1 ∧ 16 + 15 * dc ≤ x ∧ x < 16 + 15 * dc + 15 then τ.1 1 (1 + (x - (16 + 15 * dc))) else τ.1 c x := rfl
theorem kq_past_ne (τ : kx_St) (dc : Nat) {c : Nat} (h : c ≠ 1) : (kq_past τ dc).1 c = τ.1 c := by
  funext x
  rw [kq_past_at, if_neg (by omega), if_neg (by omega)]
theorem kq_past_lo (τ : kx_St) (dc : Nat) {k : Nat} (h : k < 15) : (kq_past τ dc).1 1 (1 + k) = τ.1 1 (1 + k) := by
  rw [kq_past_at, if_neg (by omega), if_neg (by omega)]
theorem s7_keepPast_L {τ : kx_St} {dc : Nat} {Q : kx_St → Prop} (hd : τ.1 1 0 = nI dc) (h40 : dc < 40) (q : Q (kq_past τ dc)) : ∀ f j, j ≤ 15 → 15 - j < f → p7_keepPast_L2 f (kq_ps τ dc j) (nI j) Q := by
  intro f
  induction f with
  | zero => intro j h1 h2; omega
  | succ f ih =>
    intro j hj hf
    have z : (kq_ps τ dc j).1 1 (0 : Int32).toNatClampNeg = nI dc := by
      show (kq_ps τ dc j).1 1 0 = nI dc
      rw [← hd]
      exact if_neg (by omega)
    unfold p7_keepPast_L2
    rw [z]
    by_cases h15 : j = 15
    · subst h15
      refine kv_t (by decide) ?_
      rw [show nI dc + 1 = nI (dc + 1) from nI_1 dc]
      exact q
    · refine kv_f (by show ¬ nI 15 ≤ nI j; rw [kv_leN (by omega) (by omega)]; omega) ?_
      rw [show (16 : Int32) + 15 * nI dc + nI j = nI (16 + 15 * dc + j) from by rw [show (16 : Int32) = nI 16 from rfl, show (15 : Int32) = nI 15 from rfl, kv_mul, kv_add, kv_add], show (1 : Int32) + nI j = nI (1 + j) from kv_add 1 j, show nI j + 1 = nI (j + 1) from nI_1 j, kv_c (by omega), kv_c (by omega)]
      refine ⟨kv_in (by omega) (by decide), kv_in (by omega) (by decide), ?_⟩
      have e : (kq_ps τ dc j).1 1 (1 + j) = τ.1 1 (1 + j) := if_neg (by omega)
      show p7_keepPast_L2 f (kx_sI (kq_ps τ dc j) 1 (16 + 15 * dc + j) ((kq_ps τ dc j).1 1 (1 + j))) (nI (j + 1)) Q
      rw [e, kq_psS]
      exact ih (j + 1) (by omega) (by omega)
theorem s7_keepPast {τ : kx_St} {dc : Nat} {Q : kx_St → Prop} (hd : τ.1 1 0 = nI dc) (h40 : dc < 40) (q : Q (kq_past τ dc)) : p7_keepPast τ Q := by
  refine ⟨16, ?_⟩
  have := s7_keepPast_L hd h40 q 16 0 (by omega) (by omega)
  rw [kq_ps0] at this
  exact this
theorem s3_isEmpty {σ : kx_St} {j n : Nat} {Q : Int32 → Prop} (hj : j < 5) (hs : σ.1 (4 + j) 3 = nI n) (hn : n ≤ 6) (h0 : 0 < n → Q 0) (h1 : n = 0 → Q 1) : p3_isEmpty σ (4 + j) Q := by
  unfold p3_isEmpty
  rw [hs]
  refine ⟨(ky_par j hj).1, fun c => h0 ?_, fun c => h1 ?_⟩
  · rcases Nat.eq_zero_or_pos n with rfl | hp
    · exact absurd rfl c
    · exact hp
  · exact (kv_inj (by omega) (by decide)).mp c
theorem s3_isFull {σ : kx_St} {dc : Nat} {Q : Int32 → Prop} (hs : σ.1 4 6 = nI dc) (hd : dc ≤ 40) (h0 : dc < 40 → Q 0) (h1 : dc = 40 → Q 1) : p3_isFull σ 4 Q := by
  unfold p3_isFull
  rw [hs]
  refine ⟨(ky_par 0 (by decide)).1, fun c => h0 ((kv_ltN (by omega) (by decide)).mp c), fun c => h1 ?_⟩
  have c : ¬ dc < 40 := fun r => c ((kv_ltN (by omega) (by decide)).mpr r)
  omega
theorem s3_note {σ : kx_St} {dc : Nat} {x y : Int32} {Q : kx_St → Prop} (hs : σ.1 4 6 = nI dc) (hd : dc < 40) (q : Q (kx_sI (kx_sI σ 20 dc (8 * x + y)) 4 6 (nI (dc + 1)))) : p3_note σ 4 x y Q := by
  obtain ⟨k1, r0, r1, r2, l0, l1, l2⟩ := ky_par 0 (by decide)
  have r2 : kx_r 0 4 2 = 20 := r2
  have l2 : kx_l 0 20 = 40 := l2
  unfold p3_note
  rw [r2, l2, hs, kv_c (by omega)]
  refine ⟨k1, kv_f (kv_ge (by omega)) (kv_f ?_ ⟨kv_in hd (by decide), ?_⟩)⟩
  · show ¬ nI 40 ≤ nI dc
    rw [kv_leN (by omega) (by omega)]; omega
  · have e : (kx_sI σ 20 dc (8 * x + y)).1 4 6 = nI dc := by rw [kv_un (by omega)]; exact hs
    show Q (kx_sI (kx_sI σ 20 dc (8 * x + y)) 4 6 ((kx_sI σ 20 dc (8 * x + y)).1 4 6 + 1))
    rw [e, show nI dc + 1 = nI (dc + 1) from nI_1 dc]
    exact q
section
variable {σ τ σ' τ' : kx_St} {n : Nat} {kd wd hv w : Nat → Nat} {wt dc : Nat} {H : Nat → Nat → Nat}
theorem kr_deed (h : kr_R σ τ) (N : kr_now σ τ n kd wd hv w wt dc H) (K : kr_kep σ τ n kd wd hv w wt) (hd : dc < 40) (v' : Nat → Nat) (c : Int32) (V : kp_v n v') (V0 : v' 0 ≤ dc + 1) (D : kd_deed n c (H dc) v') (h1 : ∀ a, a ≠ 4 → a ≠ 20 → ¬ (30 ≤ a ∧ a < 36) → σ'.1 a = σ.1 a) (h4 : ∀ k, k < 5 → σ'.1 4 k = σ.1 4 k) (h20 : ∀ d, d ≠ dc → σ'.1 20 d = σ.1 20 d) (h20c : σ'.1 20 dc = c) (h30 : ∀ i, i < 6 → ∀ k, k < 3 → σ'.1 (30 + i) k = σ.1 (30 + i) k) (h35 : ∀ i, i < 6 → σ'.1 (30 + i) 5 = σ.1 (30 + i) 5 ∨ σ'.1 (30 + i) 5 = 0 ∨ σ'.1 (30 + i) 5 = 1) (hl : σ'.2 = σ.2) (C : kc_dyn σ' 0 n (dc + 1) v') (t1 : ∀ c, c ≠ 1 → τ'.1 c = τ.1 c) (tm : τ'.2 = τ.2) (t0 : τ'.1 1 0 = nI (dc + 1)) (tv : ∀ k, k < 15 → τ'.1 1 (1 + k) = nI (v' k)) (tp : ∀ x, 16 ≤ x → τ'.1 1 x = (kq_past τ dc).1 1 x) : kr_R σ' τ' := by
  obtain ⟨a, b, e, d, _, f⟩ := h
  have n6 := kn_n6 N
  refine ⟨kr_row_fr a (fun r hr => ⟨h1 _ (by omega) (by omega) (by omega), h1 _ (by omega) (by omega) (by omega)⟩) (t1 6 (by decide)) (t1 7 (by decide)),
    kr_txt_fr b (fun r hr => ⟨h1 _ (by omega) (by omega) (by omega), h1 _ (by omega) (by omega) (by omega)⟩) (t1 8 (by decide)) (t1 9 (by decide)), ?_, ?_, ?_, ?_⟩
  · refine ⟨?_, fun g hg => ?_⟩
    · rw [h1 0 (by decide) (by decide) (by decide), t1 0 (by decide)]; exact e.1
    · rw [h1 28 (by decide) (by decide) (by decide), t1 10 (by decide)]; exact e.2 g hg
  · unfold kr_tld
    rw [h1 0 (by decide) (by decide) (by decide), t1 0 (by decide), hl, tm]; exact d
  · refine ⟨n, kd, wd, hv, w, wt, dc + 1, fun d => if d ≤ dc then H d else v', ⟨N.1, kc_sta_fr N.2.1 (h4 3 (by decide)) (h4 4 (by decide)) (h1 10 (by decide) (by decide) (by decide)) (fun i hi k hk => h30 i (by omega) k hk), km_sta_fr N.2.2.1 (by rw [t1 0 (by decide)]) (by rw [t1 0 (by decide)]) (fun c q1 q2 => t1 c (by omega)), ?_⟩, ?_⟩
    · have e1 : (fun d => if d ≤ dc then H d else v') (dc + 1) = v' := if_neg (by omega)
      refine ⟨by omega, by rw [e1]; exact C, ⟨t0, fun k hk => ?_, fun d hd k hk => ?_⟩, fun d hd => ?_, fun d hd => ?_⟩
      · rw [e1]
        have := tv k hk
        rwa [show 0 + 1 + k = 1 + k by omega]
      · have e2 : (fun d => if d ≤ dc then H d else v') d = H d := if_pos (by omega)
        rw [e2, tp _ (by omega), kq_past_at, if_neg (by omega)]
        by_cases hdd : d = dc
        · subst hdd
          rw [if_pos (by omega), show 1 + (0 + 16 + 15 * d + k - (16 + 15 * d)) = 1 + k by omega]
          exact kn_mk N hk
        · rw [if_neg (by omega)]
          exact N.2.2.2.2.2.1.2.2 d (by omega) k hk
      · by_cases hdd : d ≤ dc
        · have e2 : (fun d => if d ≤ dc then H d else v') d = H d := if_pos hdd
          rw [e2]
          exact N.2.2.2.2.2.2.1 d hdd
        · have e2 : (fun d => if d ≤ dc then H d else v') d = v' := if_neg hdd
          rw [e2]
          exact ⟨V, by omega⟩
      · have e2 : (fun d => if d ≤ dc then H d else v') d = H d := if_pos (by omega)
        rw [e2]
        by_cases hdd : d = dc
        · subst hdd
          rw [e1]
          show kd_deed n (σ'.1 20 d) _ _
          rw [h20c]; exact D
        · have e3 : (fun d => if d ≤ dc then H d else v') (d + 1) = H (d + 1) := if_pos (by omega)
          rw [e3]
          show kd_deed n (σ'.1 20 d) _ _
          rw [h20 d hdd]
          exact N.2.2.2.2.2.2.2 d (by omega)
    · refine kr_kep_fr K n6 (fun a ha q1 q2 q3 q4 => h1 a q1 q3 q4) (fun k hk hk2 => ?_)
      rw [tp _ (by omega), kq_past_at, if_neg (by omega), if_neg (by omega)]
  · obtain ⟨⟨f1, f2, f3, f4⟩, f5⟩ := f
    have k5 : σ'.1 5 = σ.1 5 := h1 5 (by decide) (by decide) (by decide)
    refine ⟨⟨by rw [k5]; exact f1, by rw [k5]; exact f2, by rw [k5]; exact f3, fun i hi => ?_⟩, fun a ha hb => ?_⟩
    · rw [h1 (36 + i) (by omega) (by omega) (by omega)]; exact f4 i hi
    · by_cases hq : a < 36
      · have := h35 (a - 30) (by omega)
        rw [show 30 + (a - 30) = a by omega] at this
        rcases this with q | q
        · rw [q]; exact f5 a ha hb
        · exact q
      · rw [h1 a (by omega) (by omega) (by omega)]; exact f5 a ha hb
theorem th_rest (σ τ : kx_St) (h : kr_R σ τ) : lt_rest kr_R σ τ := by
  obtain ⟨n, kd, wd, hv, w, wt, dc, H, N, K⟩ := h.2.2.2.2.1
  have n6 := kn_n6 N
  have d40 := kn_dc N
  have hmn := kn_mn N
  have hmd : τ.1 1 (0 : Int32).toNatClampNeg = nI dc := kn_md N
  have hcd : σ.1 4 6 = nI dc := kn_cd N
  have hch : σ.1 4 5 = nI (H dc 0) := kn_ch N
  have hmh : τ.1 1 1 = nI (H dc 0) := kn_mh N
  by_cases h0 : n = 0
  · subst h0
    exact ⟨-4, s3_isEmpty (j := 0) (by decide) (kn_cn N) n6 (fun q => absurd q (by decide)) (fun _ => kv_f (by decide) ⟨rfl, kv_T hmn ⟨rfl, h⟩⟩)⟩
  · have m0 : ¬ τ.1 0 3 = 0 := by rw [hmn]; exact fun q => h0 ((kv_inj (by omega) (by decide)).mp q)
    by_cases hd : dc = 40
    · have m1 : τ.1 1 (0 : Int32).toNatClampNeg = 40 := by rw [hmd, hd]; rfl
      exact ⟨-2, s3_isEmpty (j := 0) (by decide) (kn_cn N) n6 (fun _ => kv_t rfl (s3_isFull hcd d40 (fun q => by omega) (fun _ => kv_f (by decide) ⟨rfl, kv_F (c := τ.1 0 3 = 0) m0 (kv_T m1 ⟨rfl, h⟩)⟩))) (fun q => absurd q h0)⟩
    · have m1 : ¬ τ.1 1 (0 : Int32).toNatClampNeg = 40 := by rw [hmd]; exact fun q => hd ((kv_inj (by omega) (by decide)).mp q)
      have hd : dc < 40 := by omega
      refine ⟨nI (H dc 0 + 1), s3_isEmpty (j := 0) (by decide) (kn_cn N) n6 (fun _ => kv_t rfl (s3_isFull hcd d40 (fun _ => kv_t rfl ?_) (fun q => by omega))) (fun q => absurd q h0)⟩
      refine ⟨(ky_par 0 (by decide)).1, s3_isFull hcd d40 (fun _ => kv_t rfl ?_) (fun q => by omega)⟩
      rw [hch, show nI (H dc 0) + 1 = nI (H dc 0 + 1) from nI_1 _]
      refine s3_note (dc := dc) (by rw [kv_un (by omega)]; exact hcd) hd ⟨?_, kv_F m0 (kv_F m1 (s7_keepPast (kn_md N) hd ⟨?_, ?_⟩))⟩
      · show (kx_sI (kx_sI (kx_sI σ 4 5 (nI (H dc 0 + 1))) 20 dc (8 * 1 + 0)) 4 6 (nI (dc + 1))).1 4 5 = _
        rw [kv_un (by omega), kv_un (by omega), kv_us]
      · show (kx_sI (kq_past τ dc) 1 1 ((kq_past τ dc).1 1 1 + 1)).1 1 1 = _
        rw [kv_us, show (kq_past τ dc).1 1 1 = τ.1 1 1 from kq_past_lo τ dc (k := 0) (by decide), hmh]
        exact nI_1 _
      · have V := kn_v N
        have e1 : (kq_past τ dc).1 1 (1 : Int32).toNatClampNeg + 1 = nI (H dc 0 + 1) := by
          rw [show (kq_past τ dc).1 1 (1 : Int32).toNatClampNeg = τ.1 1 1 from kq_past_lo τ dc (k := 0) (by decide), hmh]
          exact nI_1 _
        rw [e1]
        obtain ⟨v', v0, ev⟩ : ∃ v' : Nat → Nat, v' 0 = H dc 0 + 1 ∧ ∀ k, 1 ≤ k → v' k = H dc k := ⟨fun k => if k = 0 then H dc 0 + 1 else H dc k, rfl, fun k hk => if_neg (by omega)⟩
        have es : kp_sum v' = kp_sum (H dc) := by unfold kp_sum; rw [ev 9 (by omega), ev 10 (by omega), ev 11 (by omega), ev 12 (by omega), ev 13 (by omega), ev 14 (by omega)]
        refine kr_deed h N K hd v' (nI 8) ?_ ?_ (Or.inr (Or.inl ⟨rfl, v0, fun k hk _ => ev k hk⟩)) (fun a q1 q2 q3 => ?_) (fun k hk => ?_) (fun d hd => ?_) ?_ (fun i hi k hk => ?_) (fun i hi => Or.inl ?_) rfl ?_ (fun c hc => ?_) rfl ?_ (fun k hk => ?_) (fun x hx => ?_)
        · unfold kp_v
          rw [ev 1 (by omega), ev 2 (by omega)]
          refine ⟨V.1, V.2.1, fun i hi => ?_, fun i hi => ?_, fun i hi hb => ?_⟩
          · rw [ev _ (by omega)]; exact V.2.2.1 i hi
          · rw [ev _ (by omega)]; exact V.2.2.2.1 i hi
          · rw [ev _ (by omega)]; exact V.2.2.2.2 i hi hb
        · rw [v0]
          have := kn_h N
          omega
        · rw [kv_ua q1, kv_ua q2, kv_ua q1]
        · rw [kv_un (by omega), kv_un (by omega), kv_un (by omega)]
        · rw [kv_un (by omega), kv_un (by omega), kv_un (by omega)]
        · rw [kv_un (by omega), kv_us]; rfl
        · rw [kv_un (by omega), kv_un (by omega), kv_un (by omega)]
        · rw [kv_un (by omega), kv_un (by omega), kv_un (by omega)]
        · obtain ⟨c1, c2, c3, c4⟩ := N.2.2.2.2.1
          refine ⟨?_, ?_, ?_, fun i hi => ?_⟩
          · show (kx_sI _ 4 6 _).1 4 5 = nI (v' 0)
            rw [kv_un (by omega), kv_un (by omega), kv_us, v0]
          · exact kv_us _ 4 6 _
          · show (kx_sI _ 4 6 _).1 4 7 = _
            rw [kv_un (by omega), kv_un (by omega), kv_un (by omega), es]; exact c3
          · rw [kv_un (by omega), kv_un (by omega), kv_un (by omega), kv_un (by omega), kv_un (by omega), kv_un (by omega), kv_un (by omega), kv_un (by omega), kv_un (by omega), ev _ (by omega), ev _ (by omega), ev _ (by omega), ev _ (by omega)]
            exact c4 i hi
        · rw [kv_ua hc, kq_past_ne τ dc hc]
        · show (kx_sI (kq_past τ dc) 1 1 _).1 1 0 = _
          rw [kv_un (by omega)]; exact (kq_past_at τ dc 1 0).trans (if_pos ⟨rfl, rfl⟩)
        · show (kx_sI (kq_past τ dc) 1 1 _).1 1 (1 + k) = _
          by_cases hk0 : k = 0
          · subst hk0; rw [v0]; exact kv_us _ 1 1 _
          · rw [kv_un (by omega), kq_past_lo τ dc hk, ev k (by omega)]
            exact kn_mk N hk
        · show (kx_sI (kq_past τ dc) 1 1 _).1 1 x = _
          rw [kv_un (by omega)]
theorem kr_tail (h : kr_R σ τ) (N : kr_now σ τ n kd wd hv w wt dc H) (K : kr_kep σ τ n kd wd hv w wt) (hd : dc < 40) {i t' : Nat} (hi : i < n) (ht : t' < 4) {c : Int32} (D : (c = nI (16 + i) ∧ t' = H dc (3 + i) + 1) ∨ (c = nI (24 + i) ∧ H dc (3 + i) = t' + 1)) : kr_R (kx_sI (kx_sI (kx_sI σ (30 + i) 3 (nI t')) 20 dc c) 4 6 (nI (dc + 1))) (kx_sI (kq_past τ dc) 1 (4 + i) (nI t')) := by
  have V := kn_v N
  have n6 := kn_n6 N
  obtain ⟨v', v0, ev⟩ : ∃ v' : Nat → Nat, v' (3 + i) = t' ∧ ∀ k, k ≠ 3 + i → v' k = H dc k := ⟨fun k => if k = 3 + i then t' else H dc k, if_pos rfl, fun k hk => if_neg hk⟩
  have es : kp_sum v' = kp_sum (H dc) := by unfold kp_sum; rw [ev 9 (by omega), ev 10 (by omega), ev 11 (by omega), ev 12 (by omega), ev 13 (by omega), ev 14 (by omega)]
  refine kr_deed h N K hd v' c ?_ ?_ ?_ (fun a q1 q2 q3 => ?_) (fun k hk => ?_) (fun d hd => ?_) ?_ (fun q hq k hk => ?_) (fun q hq => Or.inl ?_) rfl ?_ (fun c hc => ?_) rfl ?_ (fun k hk => ?_) (fun x hx => ?_)
  · unfold kp_v
    rw [ev 1 (by omega), ev 2 (by omega)]
    refine ⟨V.1, V.2.1, fun q hq => ?_, fun q hq => ?_, fun q hq hb => ?_⟩
    · by_cases e : q = i
      · subst e; rw [v0]; exact ht
      · rw [ev _ (by omega)]; exact V.2.2.1 q hq
    · rw [ev _ (by omega)]; exact V.2.2.2.1 q hq
    · rw [ev _ (by omega)]; exact V.2.2.2.2 q hq hb
  · rw [ev 0 (by omega)]
    have := kn_h N
    omega
  · rcases D with ⟨d1, d2⟩ | ⟨d1, d2⟩
    · exact Or.inr (Or.inr (Or.inl ⟨i, hi, d1, by rw [v0]; exact d2, fun k _ hk => ev k hk⟩))
    · exact Or.inr (Or.inr (Or.inr ⟨i, hi, d1, by rw [v0]; exact d2, fun k _ hk => ev k hk⟩))
  · rw [kv_ua q1, kv_ua q2, kv_ua (by omega)]
  · rw [kv_un (by omega), kv_un (by omega), kv_un (by omega)]
  · rw [kv_un (by omega), kv_un (by omega), kv_un (by omega)]
  · rw [kv_un (by omega), kv_us]
  · rw [kv_un (by omega), kv_un (by omega), kv_un (by omega)]
  · rw [kv_un (by omega), kv_un (by omega), kv_un (by omega)]
  · obtain ⟨c1, c2, c3, c4⟩ := N.2.2.2.2.1
    refine ⟨?_, ?_, ?_, fun q hq => ?_⟩
    · show (kx_sI _ 4 6 _).1 4 5 = nI (v' 0)
      rw [kv_un (by omega), kv_un (by omega), kv_un (by omega), ev 0 (by omega)]; exact c1
    · exact kv_us _ 4 6 _
    · show (kx_sI _ 4 6 _).1 4 7 = _
      rw [kv_un (by omega), kv_un (by omega), kv_un (by omega), es]; exact c3
    · obtain ⟨g1, g2, g3⟩ := c4 q hq
      refine ⟨?_, ?_, ?_⟩
      · rw [kv_un (by omega), kv_un (by omega)]
        by_cases e : q = i
        · subst e; rw [v0]
          show (kx_sI σ (30 + q) 3 (nI t')).1 (30 + q) 3 = _
          exact kv_us _ _ _ _
        · rw [kv_un (by omega), ev _ (by omega)]; exact g1
      · rw [kv_un (by omega), kv_un (by omega), kv_un (by omega), ev _ (by omega), ev _ (by omega)]; exact g2
      · rw [kv_un (by omega), kv_un (by omega), kv_un (by omega), ev _ (by omega)]; exact g3
  · rw [kv_ua hc, kq_past_ne τ dc hc]
  · rw [kv_un (by omega)]; exact (kq_past_at τ dc 1 0).trans (if_pos ⟨rfl, rfl⟩)
  · by_cases hk0 : k = 3 + i
    · subst hk0; rw [v0, show 1 + (3 + i) = 4 + i by omega]; exact kv_us _ 1 _ _
    · rw [kv_un (by omega), kq_past_lo τ dc hk, ev k hk0]
      exact kn_mk N hk
  · rw [kv_un (by omega)]
theorem s7_makeTail_out {i : Nat} {x : Int32} {Q : kx_St → Int32 → Prop} (hx : x.toInt < 0 ∨ ((3 + 1 : Nat) : Int) ≤ x.toInt) (q : Q τ (-4)) : p7_makeTail τ (nI i) x Q := by
  unfold p7_makeTail
  exact s7_rng_out (N := 3) rfl hx (kv_T rfl q)
theorem s7_makeTail_full {i t : Nat} {Q : kx_St → Int32 → Prop} (ht : t < 4) (hd : τ.1 1 0 = nI 40) (q : Q τ (-2)) : p7_makeTail τ (nI i) (nI t) Q := by
  unfold p7_makeTail
  exact s7_rng_in (N := 3) rfl ht (by decide) (kv_F (by decide) (kv_T hd q))
theorem s7_makeTail_ok {i t : Nat} {Q : kx_St → Int32 → Prop} (hi : i < 6) (ht : t < 4) (hd : τ.1 1 0 = nI dc) (h40 : dc < 40) (q : Q (kx_sI (kq_past τ dc) 1 (4 + i) (nI t)) (nI t)) : p7_makeTail τ (nI i) (nI t) Q := by
  unfold p7_makeTail
  have m1 : ¬ τ.1 1 (0 : Int32).toNatClampNeg = 40 := by
    show ¬ τ.1 1 0 = nI 40
    rw [hd, kv_inj (by omega) (by decide)]; omega
  refine s7_rng_in (N := 3) rfl ht (by decide) (kv_F (by decide) (kv_F m1 (s7_keepPast hd h40 ?_)))
  rw [show (4 : Int32) + nI i = nI (4 + i) from kv_add 4 i, kv_c (by omega)]
  exact ⟨kv_in (by omega) (by decide), q⟩
theorem s3_doTie (N : kr_now σ τ n kd wd hv w wt dc H) (hd : dc < 40) {i : Nat} {Q : kx_St → Prop} (hi : i < n) (q : Q (kx_sI (kx_sI (kx_sI σ (30 + i) 3 (nI (H dc (3 + i) + 1))) 20 dc (nI (16 + i))) 4 6 (nI (dc + 1)))) : p3_doTie σ 4 (nI i) Q := by
  have K := kn_K N hi
  have e3 : σ.1 (30 + i) 3 = nI (H dc (3 + i)) := K.2.2.2.2.1
  unfold p3_doTie
  refine ⟨(ky_par 0 (by decide)).1, s3_kite_in N hi (kv_some ⟨K.1, s3_isFull (kn_cd N) (by omega) (fun _ => kv_t rfl ?_) (fun r => by omega)⟩)⟩
  rw [e3, show nI (H dc (3 + i)) + 1 = nI (H dc (3 + i) + 1) from nI_1 _]
  refine s3_note (dc := dc) (by rw [kv_un (by omega)]; exact kn_cd N) hd ?_
  rw [show (8 : Int32) * 2 + nI i = nI (16 + i) from kv_add 16 i]
  exact q
theorem s3_doCut (N : kr_now σ τ n kd wd hv w wt dc H) (hd : dc < 40) {i : Nat} {Q : kx_St → Prop} (hi : i < n) (h0 : 0 < H dc (3 + i)) (q : Q (kx_sI (kx_sI (kx_sI σ (30 + i) 3 (nI (H dc (3 + i) - 1))) 20 dc (nI (24 + i))) 4 6 (nI (dc + 1)))) : p3_doCut σ 4 (nI i) Q := by
  have K := kn_K N hi
  have e3 : σ.1 (30 + i) 3 = nI (H dc (3 + i)) := K.2.2.2.2.1
  unfold p3_doCut
  refine ⟨(ky_par 0 (by decide)).1, s3_kite_in N hi (kv_some ⟨K.1, s3_isFull (kn_cd N) (by omega) (fun _ => kv_t rfl ?_) (fun r => by omega)⟩)⟩
  rw [e3, show nI (H dc (3 + i)) - 1 = nI (H dc (3 + i) - 1) from kv_sub h0]
  refine s3_note (dc := dc) (by rw [kv_un (by omega)]; exact kn_cd N) hd ?_
  rw [show (8 : Int32) * 3 + nI i = nI (24 + i) from kv_add 24 i]
  exact q
theorem th_tie (σ τ : kx_St) (h : kr_R σ τ) : lt_tie kr_R σ τ := by
  obtain ⟨n, kd, wd, hv, w, wt, dc, H, N, K⟩ := h.2.2.2.2.1
  intro a0
  unfold p6_tie
  rcases kv_arg a0 n with ⟨i, hi, rfl⟩ | ho
  · have n6 := kn_n6 N
    have d40 := kn_dc N
    have KK := kn_K N hi
    have e3 : σ.1 (30 + i) 3 = nI (H dc (3 + i)) := KK.2.2.2.2.1
    have t3 : H dc (3 + i) < 4 := (kn_v N).2.2.1 i hi
    have R : ∀ {Q : kx_St → Int32 → Prop}, p7_makeTail τ (nI i) (nI (H dc (3 + i) + 1)) Q → p7_tie τ (nI i) Q := by
      intro Q q
      unfold p7_tie
      refine s7_kite_in N hi (kv_f (by decide) ?_)
      rw [show (4 : Int32) + nI i = nI (4 + i) from kv_add 4 i, kv_c (by omega), kn_Mc N hi, show nI (H dc (3 + i)) + 1 = nI (H dc (3 + i) + 1) from nI_1 _]
      exact ⟨kv_in (by omega) (by decide), q⟩
    by_cases ht : H dc (3 + i) < 3
    · have g1 : σ.1 (30 + i) 3 < 3 := by rw [e3]; exact (kv_ltN (by omega) (by decide)).mpr ht
      by_cases hd : dc = 40
      · subst hd
        exact ⟨-2, s3_kite_in N hi (kv_some ⟨KK.1, kv_t g1 (s3_isFull (kn_cd N) (by omega) (fun q => by omega) (fun _ => kv_f (by decide) ⟨rfl, R (s7_makeTail_full (by omega) (kn_md N) ⟨rfl, h⟩)⟩))⟩)⟩
      · have hd : dc < 40 := by omega
        refine ⟨nI (H dc (3 + i) + 1), s3_kite_in N hi (kv_some ⟨KK.1, kv_t g1 (s3_isFull (kn_cd N) (by omega) (fun _ => kv_t rfl (s3_doTie N hd hi ⟨?_, R (s7_makeTail_ok (by omega) (by omega) (kn_md N) hd ⟨rfl, kr_tail h N K hd hi (by omega) (Or.inl ⟨rfl, rfl⟩)⟩)⟩)) (fun q => by omega))⟩)⟩
        rw [kv_un (by omega), kv_un (by omega), kv_us]
    · have g1 : ¬ σ.1 (30 + i) 3 < 3 := by rw [e3]; exact fun q => ht ((kv_ltN (by omega) (by decide)).mp q)
      exact ⟨-4, s3_kite_in N hi (kv_some ⟨KK.1, kv_f g1 ⟨rfl, R (s7_makeTail_out (by rw [kv_n (by omega)]; omega) ⟨rfl, h⟩)⟩⟩)⟩
  · exact ⟨-1, s3_kite_out N ho (kv_none ⟨rfl, s7_kite_out N ho (kv_t rfl ⟨rfl, h⟩)⟩)⟩
theorem th_cut (σ τ : kx_St) (h : kr_R σ τ) : lt_cut kr_R σ τ := by
  obtain ⟨n, kd, wd, hv, w, wt, dc, H, N, K⟩ := h.2.2.2.2.1
  intro a0
  unfold p6_cut
  rcases kv_arg a0 n with ⟨i, hi, rfl⟩ | ho
  · have n6 := kn_n6 N
    have d40 := kn_dc N
    have KK := kn_K N hi
    have e3 : σ.1 (30 + i) 3 = nI (H dc (3 + i)) := KK.2.2.2.2.1
    have t3 : H dc (3 + i) < 4 := (kn_v N).2.2.1 i hi
    have R : ∀ {Q : kx_St → Int32 → Prop}, p7_makeTail τ (nI i) (nI (H dc (3 + i)) - 1) Q → p7_cut τ (nI i) Q := by
      intro Q q
      unfold p7_cut
      refine s7_kite_in N hi (kv_f (by decide) ?_)
      rw [show (4 : Int32) + nI i = nI (4 + i) from kv_add 4 i, kv_c (by omega), kn_Mc N hi]
      exact ⟨kv_in (by omega) (by decide), q⟩
    by_cases ht : 0 < H dc (3 + i)
    · have g1 : 0 < σ.1 (30 + i) 3 := by rw [e3]; exact (kv_ltN (by decide) (by omega)).mpr ht
      have e1 : nI (H dc (3 + i)) - 1 = nI (H dc (3 + i) - 1) := kv_sub ht
      rw [e1] at R
      by_cases hd : dc = 40
      · subst hd
        exact ⟨-2, s3_kite_in N hi (kv_some ⟨KK.1, kv_t g1 (s3_isFull (kn_cd N) (by omega) (fun q => by omega) (fun _ => kv_f (by decide) ⟨rfl, R (s7_makeTail_full (by omega) (kn_md N) ⟨rfl, h⟩)⟩))⟩)⟩
      · have hd : dc < 40 := by omega
        refine ⟨nI (H dc (3 + i) - 1), s3_kite_in N hi (kv_some ⟨KK.1, kv_t g1 (s3_isFull (kn_cd N) (by omega) (fun _ => kv_t rfl (s3_doCut N hd hi ht ⟨?_, R (s7_makeTail_ok (by omega) (by omega) (kn_md N) hd ⟨rfl, kr_tail h N K hd hi (by omega) (Or.inr ⟨rfl, by omega⟩)⟩)⟩)) (fun q => by omega))⟩)⟩
        rw [kv_un (by omega), kv_un (by omega), kv_us]
    · have z : H dc (3 + i) = 0 := by omega
      have g1 : ¬ 0 < σ.1 (30 + i) 3 := by rw [e3, z]; decide
      rw [z] at R
      exact ⟨-4, s3_kite_in N hi (kv_some ⟨KK.1, kv_f g1 ⟨rfl, R (s7_makeTail_out (Or.inl (by decide)) ⟨rfl, h⟩)⟩⟩)⟩
  · exact ⟨-1, s3_kite_out N ho (kv_none ⟨rfl, s7_kite_out N ho (kv_t rfl ⟨rfl, h⟩)⟩)⟩
end
