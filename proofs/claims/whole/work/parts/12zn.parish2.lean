section
variable {σ τ s t s' t' : kx_St} {n r m : Nat}
theorem kr_new {u x : kx_St} {w : Nat → Nat} {wt : Nat} (h : kr_R s t) (n0 : 0 < n) (n6 : n ≤ 6) (h3 : s.1 5 3 = nI n) (K : kg_kk s t n) (W : kg_W s t w wt) (T : kt_of s' s 0 1) (u1 : ∀ a, ¬ (6 ≤ a ∧ a < 9) → u.1 a = s'.1 a) (u2 : ∀ j, j < 3 → u.1 (6 + j) 3 = 0) (u3 : u.2 = s'.2) (x0 : x.1 0 2 = t.1 0 20) (x1 : x.1 0 3 = nI n) (x2 : ∀ k, k < 16 → k ≠ 2 → k ≠ 3 → x.1 0 k = t.1 0 k) (x3 : ∀ c, 6 ≤ c → c < 11 → x.1 c = t.1 c) (x4 : ∀ k, k < 4 → x.1 2 k = t.1 11 k) (x5 : ∀ i, i < n → x.1 3 i = t.1 12 (4 * i) ∧ x.1 4 i = t.1 12 (4 * i + 1) ∧ x.1 5 i = t.1 12 (4 * i + 2) ∧ x.1 1 (4 + i) = t.1 12 (4 * i + 3)) (x6 : ∀ k, k < 16 → ¬ (4 ≤ k ∧ k < 4 + n) → x.1 1 k = 0) (x7 : ∀ k, 0 < k → k < 4 → x.1 1 (616 * k) = -1) (x8 : x.2 = t.2) : kr_R u x := by
  obtain ⟨R1, R2, R3, R4, _, R6⟩ := h
  obtain ⟨t1, t2, t3, t4, t5, t6⟩ := T
  obtain ⟨⟨d5, d6, d7, d8⟩, d9⟩ := R6
  have su : ∀ a, 9 ≤ a → a ≠ 10 → a ≠ 20 → ¬ (30 ≤ a ∧ a < 36) → u.1 a = s.1 a := fun a h1 h2 h3 h4 => (u1 a (by omega)).trans (t5 a (by omega) (by omega) (by omega) h4)
  have su0 : ∀ a, a < 6 → a ≠ 4 → u.1 a = s.1 a := fun a h1 h2 => (u1 a (by omega)).trans (t5 a (by omega) (by omega) (by omega) (by omega))
  have kite : ∀ i, i < 6 → ∀ k, k < 6 → u.1 (30 + i) k = s.1 (36 + i) k := fun i hi k hk => by rw [u1 _ (by omega)]; exact t4 i hi k hk
  have kf : ∀ i, i < n → kg_k1 s t i (s.1 (36 + i) 0).toNatClampNeg (s.1 (36 + i) 1).toNatClampNeg (s.1 (36 + i) 2).toNatClampNeg (s.1 (36 + i) 3).toNatClampNeg := fun i hi => by
    obtain ⟨k, wi, hi', ta, a⟩ := K i hi
    have a1 := a.1
    rw [a.2.1.1, a.2.1.2.1, a.2.1.2.2.1, a.2.1.2.2.2, kv_c (by omega), kv_c (by omega), kv_c (by omega), kv_c (by omega)]
    exact a
  obtain ⟨w1, w2, w3, w4⟩ := W
  have pg : ∀ k, 3 ≤ k → k < 8 → u.1 4 k = s.1 5 k := fun k h1 h2 => by rw [u1 4 (by omega)]; exact t1 k h1 h2
  obtain ⟨v, v0, v1⟩ : ∃ v : Nat → Nat, (∀ k, ¬ (3 ≤ k ∧ k < 3 + n) → v k = 0) ∧ ∀ i, i < n → v (3 + i) = (s.1 (36 + i) 3).toNatClampNeg := ⟨fun k => if 3 ≤ k ∧ k < 3 + n then (s.1 (36 + (k - 3)) 3).toNatClampNeg else 0, fun k hk => if_neg hk, fun i hi => by
    show (if 3 ≤ 3 + i ∧ 3 + i < 3 + n then _ else _) = _
    rw [if_pos (by omega), show 3 + i - 3 = i by omega]⟩
  have b1 : ∀ i, (v 1).testBit i = false := fun i => by rw [v0 1 (by omega)]; exact Nat.zero_testBit i
  have b2 : ∀ i, (v 2).testBit i = false := fun i => by rw [v0 2 (by omega)]; exact Nat.zero_testBit i
  obtain ⟨H, hH⟩ : ∃ H : Nat → Nat → Nat, ∀ d, H d = v := ⟨fun _ => v, fun _ => rfl⟩
  refine ⟨kr_row_fr R1 (fun r hr => ⟨su _ (by omega) (by omega) (by omega) (by omega), su _ (by omega) (by omega) (by omega) (by omega)⟩) (x3 6 (by decide) (by decide)) (x3 7 (by decide) (by decide)),
    kr_txt_fr R2 (fun r hr => ⟨su _ (by omega) (by omega) (by omega) (by omega), su _ (by omega) (by omega) (by omega) (by omega)⟩) (x3 8 (by decide) (by decide)) (x3 9 (by decide) (by decide)), ⟨?_, fun f hf => ?_⟩, ⟨?_, ?_, ?_⟩, ?_, ⟨⟨?_, ?_, ?_, fun i hi => ?_⟩, fun a ha hb => ?_⟩⟩
  · rw [su0 0 (by decide) (by decide), x2 14 (by decide) (by decide) (by decide)]; exact R3.1
  · rw [su 28 (by decide) (by decide) (by decide) (by decide), x3 10 (by decide) (by decide)]; exact R3.2 f hf
  · rw [su0 0 (by decide) (by decide), x2 11 (by decide) (by decide) (by decide)]; exact R4.1
  · rw [u3, t6, x8]; exact R4.2.1
  · rw [u3, t6, x8]; exact R4.2.2
  · refine ⟨n, fun i => (s.1 (36 + i) 0).toNatClampNeg, fun i => (s.1 (36 + i) 1).toNatClampNeg, fun i => (s.1 (36 + i) 2).toNatClampNeg, w, wt, 0, H, ⟨⟨n6, w1, fun h hh => (w2 h hh).1, fun i hi => ⟨(kf i hi).1.1, (kf i hi).1.2.1, (kf i hi).1.2.2.1⟩⟩, ⟨?_, ?_, fun h hh => ?_, fun i hi => ⟨?_, ?_, ?_⟩⟩, ⟨x1, ?_, fun h hh => ?_, fun i hi => ⟨?_, ?_, ?_⟩⟩, ⟨by decide, ⟨?_, ?_, ?_, fun i hi => ⟨?_, ?_, ?_⟩⟩, ⟨?_, fun k hk => ?_, fun d hd => by omega⟩, fun d hd => ⟨⟨fun i hi => ?_, fun i hi => ?_, fun i hi => ?_, fun i hi => ?_, fun i hi _ => ?_⟩, ?_⟩, fun d hd => by omega⟩⟩, fun k hk => Or.inl ⟨u2 k hk, x7 (k + 1) (by omega) (by omega)⟩⟩
    · exact (pg 3 (by decide) (by decide)).trans h3
    · exact (pg 4 (by decide) (by decide)).trans w3
    · rw [u1 _ (by omega), t2 h hh]; exact (w2 h hh).2.1
    · exact (kite i (by omega) 0 (by decide)).trans (kf i hi).2.1.1
    · exact (kite i (by omega) 1 (by decide)).trans (kf i hi).2.1.2.1
    · exact (kite i (by omega) 2 (by decide)).trans (kf i hi).2.1.2.2.1
    · exact x0.trans w4
    · rw [x4 h hh]; exact (w2 h hh).2.2
    · exact (x5 i hi).1.trans (kf i hi).2.2.1
    · exact (x5 i hi).2.1.trans (kf i hi).2.2.2.1
    · exact (x5 i hi).2.2.1.trans (kf i hi).2.2.2.2.1
    · rw [hH, v0 0 (by omega)]; exact (pg 5 (by decide) (by decide)).trans d5
    · exact (pg 6 (by decide) (by decide)).trans d6
    · rw [hH, show kp_sum v = 0 from by unfold kp_sum; rw [v0 9 (by omega), v0 10 (by omega), v0 11 (by omega), v0 12 (by omega), v0 13 (by omega), v0 14 (by omega)]]
      exact (pg 7 (by decide) (by decide)).trans d7
    · rw [hH, v1 i hi]; exact (kite i (by omega) 3 (by decide)).trans (kf i hi).2.1.2.2.2
    · rw [hH, if_neg (by rw [b1]; decide)]; exact (kite i (by omega) 4 (by decide)).trans (d8 i (by omega)).1
    · rw [hH, if_neg (by rw [b2]; decide)]; exact (kite i (by omega) 5 (by decide)).trans (d8 i (by omega)).2
    · exact x6 0 (by omega) (by omega)
    · rw [hH]
      by_cases e : 3 ≤ k ∧ k < 3 + n
      · have := v1 (k - 3) (by omega)
        rw [show 3 + (k - 3) = k by omega] at this
        rw [this, show 0 + 1 + k = 4 + (k - 3) by omega, (x5 (k - 3) (by omega)).2.2.2]
        exact (kf (k - 3) (by omega)).2.2.2.2.2
      · rw [v0 k e, show 0 + 1 + k = 1 + k by omega]; exact x6 _ (by omega) (by omega)
    · rw [hH, b1] at hi; cases hi
    · rw [hH, b2] at hi; cases hi
    · rw [hH, v1 i hi]; exact (kf i hi).1.2.2.2
    · rw [hH, v0 _ (by omega)]; omega
    · rw [hH]; exact v0 _ (by omega)
    · rw [hH, v0 0 (by omega)]; omega
  · rw [su0 5 (by decide) (by decide)]; exact d5
  · rw [su0 5 (by decide) (by decide)]; exact d6
  · rw [su0 5 (by decide) (by decide)]; exact d7
  · rw [su _ (by omega) (by omega) (by omega) (by omega)]; exact d8 i hi
  · rw [u1 a (by omega)]
    exact kt_bool (by decide) (by decide) ⟨t1, t2, t3, t4, t5, t6⟩ d9 a ha hb
theorem th_parish (σ τ : kx_St) (h : kr_R σ τ) : lt_parish kr_R σ τ := by
  intro a0
  rcases kv_arg a0 4 with ⟨r, hr, rfl⟩ | ho
  · have R := ku_txt hr
    obtain ⟨e1, e2⟩ := h.2.1 r hr
    have M : ∀ {Q : kx_St → Int32 → Prop}, ((0 ≤ σ.1 (66 + r) 1 → p7_faultOf τ (nI r) (fun σ6 r5 => (r5 = (-9 : Int32) → ∃ m39, p7_parish_L39 m39 σ6 (0 : Int32) Q) ∧ (¬ r5 = (-9 : Int32) → Q σ6 (-4 : Int32)))) ∧ (¬ 0 ≤ σ.1 (66 + r) 1 → p7_find τ 1 (fun σ8 r7 => Q σ8 r7))) → p7_parish τ (nI r) Q := by
      intro Q q
      unfold p7_parish
      rw [kv_c (show r < 2147483648 by omega), e1]
      exact s7_isText_in hr (kv_F (by decide) ⟨kv_in hr (by decide), q⟩)
    rcases e2 with e2 | ⟨m, hm, e2, e3⟩
    · refine ⟨-3, s6_pick2_in hr (kv_some ⟨R.1, s5_isThere_no R e2 (kv_T rfl (s6_found (f := 1) rfl (by decide) ⟨rfl, M ⟨fun z => ?_, fun _ => s7_find (f := 1) rfl (by decide) ⟨rfl, kr_found h (by decide)⟩⟩⟩))⟩)⟩
      rw [e2] at z
      exact absurd z (by decide)
    · obtain ⟨v, s, t, q1, q2, c, d, hv⟩ := kr_read h hr hm e2 (e1.trans e2) e3
      have RR := kg_R' h c d
      have G : ∀ {A B : Prop}, A → (0 ≤ σ.1 (66 + r) 1 → A) ∧ (¬ 0 ≤ σ.1 (66 + r) 1 → B) := fun {A B} a => ⟨fun _ => a, fun z => by rw [e2] at z; exact absurd (kv_ge0 (by omega)) z⟩
      rcases hv with hv | ⟨hv, n, w, wt, n0, n6, x3, x22, K, W⟩
      · exact ⟨-4, s6_pick2_in hr (kv_some ⟨R.1, s5_isThere_yes R e2 hm (kv_F (by decide) (q1 _ (kv_f hv ⟨rfl, M (G (q2 _ (kv_f hv ⟨rfl, RR⟩)))⟩)))⟩)⟩
      · subst hv
        refine ⟨nI n, s6_pick2_in hr (kv_some ⟨R.1, s5_isThere_yes R e2 hm (kv_F (by decide) (q1 _ (kv_t rfl (s3_takeFrom (j := 0) (j' := 1) (by decide) (by decide) (by decide) (fun i hi => RR.2.2.2.2.2.2 _ (by omega) (by omega)) (fun s' T => ⟨4, s6_parish_L 3 0 s' (by decide) (fun u u1 u2 u3 => ⟨?_, M (G (q2 _ (kv_t rfl ⟨617, ?_⟩)))⟩)⟩)))))⟩)⟩
        · rw [u1 4 (by decide)]; exact (T.1 3 (by decide) (by decide)).trans x3
        · have A := s7_parish_A (t := t) (Q := fun w q => q = nI n ∧ kr_R u w) ⟨5, s7_parish_B 4 0 _ (by decide) (fun t1 a1 a2 _ a4 => ⟨n + 1, s7_parish_C n6 n 0 _ (by omega) ?_ (fun t2 b1 b2 b3 _ b5 => ⟨4, s7_parish_D 3 1 t2 (by decide) (by decide) (fun x c1 c2 c3 c4 => ⟨?_, ?_⟩)⟩)⟩)⟩ 617 0 (by decide) (by decide)
          · rw [kq_fill0] at A
            exact A
          · rw [kv_us, a1 0 (by decide), kq_fill_ne (by decide)]; exact x22
          · rw [c1 0 (by decide), b1 0 (by decide) (by decide) (by decide) (by decide), kv_us, a1 0 (by decide), kq_fill_ne (by decide)]; exact x22
          · have f0 : ∀ c, c ≠ 1 → c ≠ 2 → c ≠ 3 → c ≠ 4 → c ≠ 5 → c ≠ 0 → x.1 c = t.1 c := fun c h1 h2 h3 h4 h5 h0 => by
              rw [c1 c h1, b1 c h1 h3 h4 h5, kv_ua h0, kv_ua h0, a1 c h2, kq_fill_ne h1]
            have f00 : x.1 0 = (kx_sI (kx_sI t1 0 2 (t1.1 0 20)) 0 3 (t1.1 0 22)).1 0 := by rw [c1 0 (by decide), b1 0 (by decide) (by decide) (by decide) (by decide)]
            have t10 : t1.1 0 = t.1 0 := by rw [a1 0 (by decide), kq_fill_ne (by decide)]
            refine kr_new RR n0 n6 x3 K W T u1 (fun j hj => u2 j hj (Or.inl (by omega))) u3 ?_ ?_ (fun k k1 k2 k3 => ?_) (fun c h1 h2 => f0 c (by omega) (by omega) (by omega) (by omega) (by omega) (by omega)) (fun k hk => ?_) (fun i hi => ?_) (fun k hk hk2 => ?_) (fun k h1 h2 => c3 k h1 h2 (Or.inl (by omega))) ?_
            · rw [f00, kv_un (by decide), kv_us, t10]
            · rw [f00, kv_us, t10]; exact x22
            · rw [f00, kv_un (by omega), kv_un (by omega), t10]
            · rw [c1 2 (by decide), b1 2 (by decide) (by decide) (by decide) (by decide), kv_ua (by decide), kv_ua (by decide), a2 k (by omega) hk, kq_fill_ne (by decide)]
            · obtain ⟨g1, g2, g3, g4⟩ := b3 i (by omega) hi
              have e12 : ∀ j, (kx_sI (kx_sI t1 0 2 (t1.1 0 20)) 0 3 (t1.1 0 22)).1 12 j = t.1 12 j := fun j => by rw [kv_un (by omega), kv_un (by omega), a1 12 (by decide), kq_fill_ne (by decide)]
              rw [e12] at g1 g2 g3 g4
              rw [c1 3 (by decide), c1 4 (by decide), c1 5 (by decide), c2 (4 + i) (by omega)]
              exact ⟨g1, g2, g3, g4⟩
            · rw [c2 k (by omega), b2 k (by omega), kv_un (by omega), kv_un (by omega), a1 1 (by decide)]
              exact if_pos (by omega)
            · rw [c4, b5, kx_sI, kx_sI, a4]; rfl
  · refine ⟨-1, s6_pick2_out ho (kv_none ⟨rfl, ?_⟩)⟩
    unfold p7_parish
    exact s7_isText_out ho (kv_T rfl ⟨rfl, h⟩)
end
