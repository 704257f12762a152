theorem kx_comm (σ : kx_St) {a k a' k' : Nat} {v v' : Int32} (h : ¬ (a = a' ∧ k = k')) : kx_sI (kx_sI σ a k v) a' k' v' = kx_sI (kx_sI σ a' k' v') a k v := by
  refine Prod.ext ?_ rfl
  funext c j
  simp only [kx_sI]
  by_cases h1 : c = a' ∧ j = k'
  · rw [if_pos h1, if_neg (by omega), if_pos h1]
  · rw [if_neg h1]
    by_cases h2 : c = a ∧ j = k
    · rw [if_pos h2, if_pos h2]
    · rw [if_neg h2, if_neg h2, if_neg h1]
section
variable {σ τ : kx_St}
theorem s7_refused_out {x y : Int32} {Q : kx_St → Int32 → Prop} (ho : x.toInt < 0 ∨ (6 : Int) ≤ x.toInt) (h : Q τ (-1)) : p7_refused τ x y Q := s7_isRow_out ho (kv_T rfl h)
theorem s7_refused_no {k : Nat} {y : Int32} {Q : kx_St → Int32 → Prop} (hk : k < 6) (hs : τ.1 6 k = -1) (h : Q (kq_g τ 1) (-3)) : p7_refused τ (nI k) y Q := by
  refine s7_isRow_in hk (kv_F (by decide) ⟨kv_in hk (by decide), ?_⟩)
  rw [kv_c (by omega), hs]
  exact kv_f (by decide) (s7_find (f := 1) rfl (by decide) h)
theorem s7_refused_in {k n i : Nat} {Q : kx_St → Int32 → Prop} (hk : k < 6) (hs : τ.1 6 k = nI n) (hn : n ≤ 60) (hi : i < n) (h : Q τ 0) : p7_refused τ (nI k) (nI i) Q := by
  refine s7_isRow_in hk (kv_F (by decide) ⟨kv_in hk (by decide), ?_⟩)
  rw [kv_c (by omega), hs]
  refine kv_t (by rw [kv_le, kv_n (by omega)]; show (0 : Int) ≤ _; omega) ⟨kv_in hk (by decide), s7_in (fun _ => kv_f (by decide) h) (fun c => absurd ?_ c)⟩
  rw [kv_l, kv_l, kv_n (by omega), show (1 : Int32) = nI 1 from rfl, kv_sub (by omega), kv_n (by omega)]
  show (0 : Int) ≤ _ ∧ _
  omega
theorem s7_refused_beyond {k n : Nat} {y : Int32} {Q : kx_St → Int32 → Prop} (hk : k < 6) (hs : τ.1 6 k = nI n) (hn : n ≤ 60) (hi : y.toInt < 0 ∨ (n : Int) ≤ y.toInt) (h : Q (kq_g τ 2) (-3)) : p7_refused τ (nI k) y Q := by
  refine s7_isRow_in hk (kv_F (by decide) ⟨kv_in hk (by decide), ?_⟩)
  rw [kv_c (by omega), hs]
  refine kv_t (by rw [kv_le, kv_n (by omega)]; show (0 : Int) ≤ _; omega) ⟨kv_in hk (by decide), s7_in (fun c => ?_) (fun c => kv_t rfl (s7_find (f := 2) rfl (by decide) h))⟩
  exfalso
  have e : (nI n - 1).toInt = (n : Int) - 1 := pk_sub_toInt (a := n) (b := 1) (by omega) (by omega)
  rw [kv_l, kv_l, e] at c
  have c : (0 : Int) ≤ y.toInt ∧ y.toInt ≤ (n : Int) - 1 := c
  omega
theorem kr_set (h : kr_R σ τ) {k n i : Nat} (hk : k < 6) (hs : σ.1 (60 + k) 1 = nI n) (hn : n ≤ 40) (hi : i < n) (v : Int32) : kr_R (kx_sI σ (70 + k) i v) (kx_sI τ 7 (40 * k + i) v) := by
  refine kr_R_row h hk (fun a h1 h2 => kv_ua h2) rfl (fun c h1 h2 => kv_ua h2) rfl (fun r hr => by rw [kv_ua (by omega)]) (fun j hj => kv_un (by omega)) ?_
  obtain ⟨e1, e2⟩ := h.1 k hk
  rw [kv_ua (show 60 + k ≠ 70 + k by omega), kv_ua (show 6 ≠ 7 by omega)]
  refine ⟨e1, ?_⟩
  rcases e2 with e2 | ⟨n', hn', e3, e4⟩
  · exact Or.inl e2
  · refine Or.inr ⟨n', hn', e3, fun j hj => ?_⟩
    simp only [kv_u]
    by_cases hij : j = i
    · subst hij; simp
    · rw [if_neg (by omega), if_neg (by omega)]; exact e4 j hj
theorem kv_40 {k i : Nat} : (40 : Int32) * nI k + nI i = nI (40 * k + i) := by rw [show (40 : Int32) = nI 40 from rfl, kv_mul, kv_add]
theorem kv_60 {k i : Nat} : (60 : Int32) * nI k + nI i = nI (60 * k + i) := by rw [show (60 : Int32) = nI 60 from rfl, kv_mul, kv_add]
theorem th_lay (σ τ : kx_St) (h : kr_R σ τ) : lt_lay kr_R σ τ := by
  intro a0 a1 a2
  unfold p6_lay p7_lay
  rcases kv_arg a0 6 with ⟨k, hk, rfl⟩ | ho
  · have R := ku_row hk
    obtain ⟨e1, e2⟩ := h.1 k hk
    rcases e2 with e2 | ⟨n, hn, e3, e4⟩
    · exact ⟨-3, s6_pick1_in hk (kv_some ⟨R.1, s5_isThere_no R e2 (kv_T rfl (s6_found (f := 1) rfl (by decide) ⟨rfl, s7_refused_no hk (e1.trans e2) (kv_f (by decide) ⟨rfl, kr_found h (by decide)⟩)⟩))⟩)⟩
    · rcases kv_arg a1 n with ⟨i, hi, rfl⟩ | h1
      · refine ⟨1, s6_pick1_in hk (kv_some ⟨R.1, s5_isThere_yes R e3 hn (kv_F (by decide) (s5_holds_yes R e3 hn hi (kv_F (by decide) (s5_get R e3 hn hi (s5_set (n := n) R (by rw [kv_ua (by omega)]; exact e3) hn hi ⟨rfl, s7_refused_in hk (e1.trans e3) (by omega) hi (kv_t rfl ?_)⟩)))))⟩)⟩
        rw [kv_40, kv_c (by omega)]
        refine ⟨kv_in (by omega) (by decide), kv_in (by omega) (by decide), s7_tell ⟨rfl, ?_⟩⟩
        rw [show τ.1 7 (40 * k + i) = σ.1 (70 + k) i from e4 i hi, kx_comm τ (by omega)]
        exact kr_set (kr_tell h _) hk (by rw [kv_ua (by omega)]; exact e3) hn hi a2
      · exact ⟨-3, s6_pick1_in hk (kv_some ⟨R.1, s5_isThere_yes R e3 hn (kv_F (by decide) (s5_holds_no R e3 hn h1 (kv_T rfl (s6_found (f := 2) rfl (by decide) ⟨rfl, s7_refused_beyond hk (e1.trans e3) (by omega) h1 (kv_f (by decide) ⟨rfl, kr_found h (by decide)⟩)⟩))))⟩)⟩
  · exact ⟨-1, s6_pick1_out ho (kv_none ⟨rfl, s7_refused_out ho (kv_f (by decide) ⟨rfl, h⟩)⟩)⟩
theorem th_at (σ τ : kx_St) (h : kr_R σ τ) : lt_at kr_R σ τ := by
  intro a0 a1
  unfold p6_at p7_at
  rcases kv_arg a0 6 with ⟨k, hk, rfl⟩ | ho
  · have R := ku_row hk
    obtain ⟨e1, e2⟩ := h.1 k hk
    rcases e2 with e2 | ⟨n, hn, e3, e4⟩
    · exact ⟨-3, s6_pick1_in hk (kv_some ⟨R.1, s5_isThere_no R e2 (kv_T rfl (s6_found (f := 1) rfl (by decide) ⟨rfl, s7_refused_no hk (e1.trans e2) (kv_f (by decide) ⟨rfl, kr_found h (by decide)⟩)⟩))⟩)⟩
    · rcases kv_arg a1 n with ⟨i, hi, rfl⟩ | h1
      · refine ⟨1, s6_pick1_in hk (kv_some ⟨R.1, s5_isThere_yes R e3 hn (kv_F (by decide) (s5_holds_yes R e3 hn hi (kv_F (by decide) (s5_get R e3 hn hi ⟨rfl, s7_refused_in hk (e1.trans e3) (by omega) hi (kv_t rfl ?_)⟩))))⟩)⟩
        rw [kv_40, kv_c (by omega)]
        refine ⟨kv_in (by omega) (by decide), s7_tell ⟨rfl, ?_⟩⟩
        rw [show τ.1 7 (40 * k + i) = σ.1 (70 + k) i from e4 i hi]
        exact kr_tell h _
      · exact ⟨-3, s6_pick1_in hk (kv_some ⟨R.1, s5_isThere_yes R e3 hn (kv_F (by decide) (s5_holds_no R e3 hn h1 (kv_T rfl (s6_found (f := 2) rfl (by decide) ⟨rfl, s7_refused_beyond hk (e1.trans e3) (by omega) h1 (kv_f (by decide) ⟨rfl, kr_found h (by decide)⟩)⟩))))⟩)⟩
  · exact ⟨-1, s6_pick1_out ho (kv_none ⟨rfl, s7_refused_out ho (kv_f (by decide) ⟨rfl, h⟩)⟩)⟩
theorem kv_ge0 {n : Nat} (h : n < 2147483648) : (0 : Int32) ≤ nI n := by rw [kv_le, kv_n h]; show (0 : Int) ≤ _; omega
theorem kr_tear (h : kr_R σ τ) {k : Nat} (hk : k < 6) : kr_R (kx_sI σ (60 + k) 1 (-1)) (kx_sI τ 6 k (-1)) := by
  refine kr_R_row h hk (fun a h1 h2 => kv_ua h1) rfl (fun c h1 h2 => kv_ua h1) rfl (fun r hr => kv_un (by omega)) (fun j hj => by rw [kv_ua (by omega)]) ⟨?_, Or.inl ?_⟩
  · rw [kv_us, kv_us]
  · rw [kv_us]
theorem th_tear (σ τ : kx_St) (h : kr_R σ τ) : lt_tear kr_R σ τ := by
  intro a0
  unfold p6_tear p7_tear
  rcases kv_arg a0 6 with ⟨k, hk, rfl⟩ | ho
  · have R := ku_row hk
    obtain ⟨e1, e2⟩ := h.1 k hk
    rcases e2 with e2 | ⟨n, hn, e3, e4⟩
    · refine ⟨-3, s6_pick1_in hk (kv_some ⟨R.1, s5_isThere_no R e2 (kv_T rfl (s6_found (f := 1) rfl (by decide) ⟨rfl, s7_isRow_in hk (kv_F (by decide) ⟨kv_in hk (by decide), ?_⟩)⟩))⟩)⟩
      rw [kv_c (by omega), e1, e2]
      exact kv_f (by decide) (s7_find (f := 1) rfl (by decide) ⟨rfl, kr_found h (by decide)⟩)
    · refine ⟨1, s6_pick1_in hk (kv_some ⟨R.1, s5_isThere_yes R e3 hn (kv_F (by decide) ⟨R.1, rfl, s7_isRow_in hk (kv_F (by decide) ⟨kv_in hk (by decide), ?_⟩)⟩)⟩)⟩
      rw [kv_c (by omega), e1, e3]
      exact kv_t (kv_ge0 (by omega)) ⟨kv_in hk (by decide), rfl, kr_tear h hk⟩
  · exact ⟨-1, s6_pick1_out ho (kv_none ⟨rfl, s7_isRow_out ho (kv_T rfl ⟨rfl, h⟩)⟩)⟩
end
