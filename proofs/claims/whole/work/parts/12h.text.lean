section
variable {σ τ : kx_St}
theorem s7_text_L {r n : Nat} {Q : kx_St → Int32 → Prop} (hr : r < 4) (h : Q (kq_fill τ 9 (60 * r) 60 32) (nI n)) : ∀ m i, i ≤ 60 → 60 - i < m → p7_text_L34 m (kq_fill τ 9 (60 * r) i 32) (nI r) (nI n) (nI i) Q := by
  intro m
  induction m with
  | zero => intro i h1 h2; omega
  | succ m ih =>
    intro i hi hm
    unfold p7_text_L34
    by_cases hin : i = 60
    · subst hin
      exact kv_t (by decide) h
    · refine kv_f (by rw [show (60 : Int32) = nI 60 from rfl, kv_leN (by omega) (by omega)]; omega) ?_
      rw [kv_60, kv_c (by omega), kq_fillS, show nI i + 1 = nI (i + 1) from nI_1 i]
      exact ⟨kv_in (by omega) (by omega), ih (i + 1) (by omega) (by omega)⟩
theorem kr_begT (h : kr_R σ τ) {k n : Nat} (hk : k < 4) (hn : n ≤ 60) : kr_R (kq_beg σ (66 + k) (76 + k) n 32) (kq_fill (kx_sI τ 8 k (nI n)) 9 (60 * k) 60 32) := by
  refine kr_R_txt h hk (fun a h1 h2 => ?_) rfl (fun c h1 h2 => ?_) rfl (fun r hr => ?_) (fun j hj => ?_) ⟨?_, Or.inr ⟨n, hn, ?_, fun i hi => ?_⟩⟩
  · unfold kq_beg; rw [kq_fill_ne h2, kv_ua h1]
  · rw [kq_fill_ne h2, kv_ua h1]
  · rw [kq_fill_ne (by omega)]; exact kv_un (by omega)
  · show (if 9 = 9 ∧ 60 * k ≤ j ∧ j < 60 * k + 60 then 32 else _) = _
    rw [if_neg (by omega)]; exact kv_un (by omega)
  · unfold kq_beg
    rw [kq_fill_ne (by omega), kq_fill_ne (by omega), kv_us, kv_us]
  · unfold kq_beg
    rw [kq_fill_ne (by omega), kv_us]
  · show (if 9 = 9 ∧ 60 * k ≤ 60 * k + i ∧ 60 * k + i < 60 * k + 60 then (32 : Int32) else _) = (if 76 + k = 76 + k ∧ 0 ≤ i ∧ i < 0 + n then (32 : Int32) else _)
    rw [if_pos (by omega), if_pos (by omega)]
theorem th_text (σ τ : kx_St) (h : kr_R σ τ) : lt_text kr_R σ τ := by
  intro a0 a1
  unfold p6_text p7_text
  rcases kv_arg a0 4 with ⟨k, hk, rfl⟩ | ho
  · have R := ku_txt hk
    rcases kv_arg a1 61 with ⟨n, hn, rfl⟩ | h1
    · refine ⟨nI n, s6_pick2_in hk (kv_some ⟨R.1, s6_begin_ok R (by omega) ⟨rfl, s7_isText_in hk (kv_f (by decide) (kv_t ?_ (kv_t (kv_ge0 (by omega)) ⟨kv_in hk (by decide), 61, ?_⟩)))⟩⟩)⟩
      · rw [show (60 : Int32) = nI 60 from rfl, kv_leN (by omega) (by omega)]; omega
      · rw [kv_c (by omega)]
        have := s7_text_L (τ := kx_sI τ 8 k (nI n)) (n := n) (Q := fun w q => q = nI n ∧ kr_R (kq_beg σ (66 + k) (76 + k) n 32) w) hk ⟨rfl, kr_begT h hk (by omega)⟩ 61 0 (by omega) (by omega)
        rw [kq_fill0] at this
        exact this
    · by_cases h2 : a1.toInt < 0
      · refine ⟨-3, s6_pick2_in hk (kv_some ⟨R.1, s6_begin_neg R h2 ⟨rfl, s7_isText_in hk (kv_f (by decide) (kv_t ?_ (kv_f ?_ (s7_find (f := 5) rfl (by decide) ⟨rfl, kr_found h (by decide)⟩))))⟩⟩)⟩
        · rw [kv_le]; show _ ≤ (60 : Int); omega
        · rw [kv_le]; show ¬ (0 : Int) ≤ _; omega
      · refine ⟨-1, s6_pick2_in hk (kv_some ⟨R.1, s6_begin_big R (by omega) ⟨rfl, s7_isText_in hk (kv_f (by decide) (kv_f ?_ ⟨rfl, h⟩))⟩⟩)⟩
        rw [kv_le]; show ¬ _ ≤ (60 : Int); omega
  · exact ⟨-1, s6_pick2_out ho (kv_none (s6_begin_none ⟨rfl, s7_isText_out ho (kv_t rfl ⟨rfl, h⟩)⟩))⟩
theorem kr_setT (h : kr_R σ τ) {k n i : Nat} (hk : k < 4) (hs : σ.1 (66 + k) 1 = nI n) (hn : n ≤ 60) (hi : i < n) (v : Int32) : kr_R (kx_sI σ (76 + k) i v) (kx_sI τ 9 (60 * k + i) v) := by
  refine kr_R_txt h hk (fun a h1 h2 => kv_ua h2) rfl (fun c h1 h2 => kv_ua h2) rfl (fun r hr => by rw [kv_ua (by omega)]) (fun j hj => kv_un (by omega)) ?_
  obtain ⟨e1, e2⟩ := h.2.1 k hk
  rw [kv_ua (show 66 + k ≠ 76 + k by omega), kv_ua (show 8 ≠ 9 by omega)]
  refine ⟨e1, ?_⟩
  rcases e2 with e2 | ⟨n', hn', e3, e4⟩
  · exact Or.inl e2
  · refine Or.inr ⟨n', hn', e3, fun j hj => ?_⟩
    simp only [kv_u]
    by_cases hij : j = i
    · subst hij; simp
    · rw [if_neg (by omega), if_neg (by omega)]; exact e4 j hj
theorem th_put (σ τ : kx_St) (h : kr_R σ τ) : lt_put kr_R σ τ := by
  intro a0 a1 a2
  unfold p6_put p7_put
  rcases kv_arg a0 4 with ⟨k, hk, rfl⟩ | ho
  · have R := ku_txt hk
    obtain ⟨e1, e2⟩ := h.2.1 k hk
    rcases e2 with e2 | ⟨n, hn, e3, e4⟩
    · refine ⟨-3, s6_pick2_in hk (kv_some ⟨R.1, s5_isThere_no R e2 (kv_T rfl (s6_found (f := 1) rfl (by decide) ⟨rfl, s7_isText_in hk (kv_F (by decide) ⟨kv_in hk (by decide), ?_⟩)⟩))⟩)⟩
      rw [kv_c (by omega), e1, e2]
      exact kv_f (by decide) (s7_find (f := 1) rfl (by decide) ⟨rfl, kr_found h (by decide)⟩)
    · have em : (nI n - 1).toInt = (n : Int) - 1 := pk_sub_toInt (a := n) (b := 1) (by omega) (by omega)
      rcases kv_arg a1 n with ⟨i, hi, rfl⟩ | h1
      · refine ⟨_, s6_pick2_in hk (kv_some ⟨R.1, s5_isThere_yes R e3 hn (kv_F (by decide) (s5_holds_yes R e3 hn hi (kv_F (by decide) (s5_get R e3 hn hi (s5_set R e3 hn hi ⟨rfl, s7_isText_in hk (kv_F (by decide) ⟨kv_in hk (by decide), ?_⟩)⟩)))))⟩)⟩
        rw [kv_c (by omega), e1, e3]
        refine kv_t (kv_ge0 (by omega)) ⟨kv_in hk (by decide), s7_in (fun _ => kv_F (by decide) ?_) (fun c => absurd ?_ c)⟩
        · rw [kv_60, kv_c (by omega)]
          exact ⟨kv_in (by omega) (by decide), kv_in (by omega) (by decide), by rw [show τ.1 9 (60 * k + i) = σ.1 (76 + k) i from e4 i hi], kr_setT h hk e3 hn hi _⟩
        · rw [kv_l, kv_l, kv_n (by omega), em]
          show (0 : Int) ≤ _ ∧ _
          omega
      · refine ⟨-3, s6_pick2_in hk (kv_some ⟨R.1, s5_isThere_yes R e3 hn (kv_F (by decide) (s5_holds_no R e3 hn h1 (kv_T rfl (s6_found (f := 2) rfl (by decide) ⟨rfl, s7_isText_in hk (kv_F (by decide) ⟨kv_in hk (by decide), ?_⟩)⟩))))⟩)⟩
        rw [kv_c (by omega), e1, e3]
        refine kv_t (kv_ge0 (by omega)) ⟨kv_in hk (by decide), s7_in (fun c => ?_) (fun _ => kv_T rfl (s7_find (f := 2) rfl (by decide) ⟨rfl, kr_found h (by decide)⟩))⟩
        exfalso
        rw [kv_l, kv_l, em] at c
        have c : (0 : Int) ≤ a1.toInt ∧ a1.toInt ≤ (n : Int) - 1 := c
        omega
  · exact ⟨-1, s6_pick2_out ho (kv_none ⟨rfl, s7_isText_out ho (kv_T rfl ⟨rfl, h⟩)⟩)⟩
/-- a ROW's ints together -/
def ks_sum (p : Nat → Int32) : Nat → Int64
  | 0 => 0
  | n + 1 => ks_sum p n + (p n).toInt64
theorem ks_n0 {n : Nat} (h : n < 100) (h0 : 0 < n) : ¬ (nI n).toInt64 = 0 := by
  rw [nI_l (by omega)]
  intro q
  have := (pk_lEQ (a := n) (b := 0) (by omega) (by omega)).mp q
  omega
theorem s6_mean_L {a b N n : Nat} {Q : kx_St → Int32 → Prop} (R : ku_Row a b N) (hs : σ.1 a 1 = nI n) (hn : n ≤ N) (h0 : 0 < n) (h : Q (kx_sI σ 0 10 (ks_sum (σ.1 b) n / (nI n).toInt64).toInt32) 1) : ∀ m i, i ≤ n → n - i < m → p6_mean_L46 m σ a (ks_sum (σ.1 b) i) (nI i) Q := by
  have r4 := R.2.2.2.1
  intro m
  induction m with
  | zero => intro i h1 h2; omega
  | succ m ih =>
    intro i hi hm
    unfold p6_mean_L46
    rw [hs]
    by_cases hin : i = n
    · subst hin
      exact kv_t (by rw [kv_leN (by omega) (by omega)]; omega) ⟨ks_n0 (by omega) h0, h⟩
    · refine kv_f (by rw [kv_leN (by omega) (by omega)]; omega) (s5_get R hs hn (by omega) ?_)
      rw [show nI i + 1 = nI (i + 1) from nI_1 i]
      exact ih (i + 1) (by omega) (by omega)
theorem s7_mean_L {k n : Nat} {p : Nat → Int32} {Q : kx_St → Int32 → Prop} (hk : k < 6) (hs : τ.1 6 k = nI n) (hn : n ≤ 40) (h0 : 0 < n) (hp : ∀ i, i < n → τ.1 7 (40 * k + i) = p i) (h : Q (kx_sI τ 0 11 (ks_sum p n / (nI n).toInt64).toInt32) 1) : ∀ m i, i ≤ n → n - i < m → p7_mean_L44 m τ (nI k) (ks_sum p i) (nI i) Q := by
  intro m
  induction m with
  | zero => intro i h1 h2; omega
  | succ m ih =>
    intro i hi hm
    unfold p7_mean_L44
    rw [kv_c (show k < 2147483648 by omega), hs]
    refine ⟨kv_in hk (by decide), ?_⟩
    by_cases hin : i = n
    · subst hin
      exact kv_t (by rw [kv_leN (by omega) (by omega)]; omega) ⟨kv_in hk (by decide), ks_n0 (by omega) h0, s7_tell h⟩
    · refine kv_f (by rw [kv_leN (by omega) (by omega)]; omega) ?_
      rw [kv_40, kv_c (by omega), hp i (by omega), show nI i + 1 = nI (i + 1) from nI_1 i]
      exact ⟨kv_in (by omega) (by decide), ih (i + 1) (by omega) (by omega)⟩
theorem th_mean (σ τ : kx_St) (h : kr_R σ τ) : lt_mean kr_R σ τ := by
  intro a0
  unfold p6_mean p7_mean
  rcases kv_arg a0 6 with ⟨k, hk, rfl⟩ | ho
  · have R := ku_row hk
    obtain ⟨e1, e2⟩ := h.1 k hk
    rcases e2 with e2 | ⟨n, hn, e3, e4⟩
    · refine ⟨-3, s6_pick1_in hk (kv_some ⟨R.1, s5_isThere_no R e2 (kv_T rfl (s6_found (f := 1) rfl (by decide) ⟨rfl, s7_isRow_in hk (kv_F (by decide) ⟨kv_in hk (by decide), ?_⟩)⟩))⟩)⟩
      rw [kv_c (by omega), e1, e2]
      exact kv_f (by decide) (s7_find (f := 1) rfl (by decide) ⟨rfl, kr_found h (by decide)⟩)
    · by_cases h0 : n = 0
      · subst h0
        refine ⟨-3, s6_pick1_in hk (kv_some ⟨R.1, s5_isThere_yes R e3 hn (kv_F (by decide) (kv_T e3 (s6_found (f := 4) rfl (by decide) ⟨rfl, s7_isRow_in hk (kv_F (by decide) ⟨kv_in hk (by decide), ?_⟩)⟩)))⟩)⟩
        rw [kv_c (by omega), e1, e3]
        exact kv_t (by decide) ⟨kv_in hk (by decide), kv_T rfl (s7_find (f := 4) rfl (by decide) ⟨rfl, kr_found h (by decide)⟩)⟩
      · have hz : ¬ nI n = 0 := fun q => h0 ((kv_inj (b := 0) (by omega) (by omega)).mp q)
        refine ⟨1, s6_pick1_in hk (kv_some ⟨R.1, s5_isThere_yes R e3 hn (kv_F (by decide) (kv_F (by rw [e3]; exact hz) ⟨n + 1, s6_mean_L R e3 hn (by omega) ⟨rfl, s7_isRow_in hk (kv_F (by decide) ⟨kv_in hk (by decide), ?_⟩)⟩ (n + 1) 0 (by omega) (by omega)⟩))⟩)⟩
        rw [kv_c (by omega), e1, e3]
        exact kv_t (kv_ge0 (by omega)) ⟨kv_in hk (by decide), kv_F hz ⟨n + 1, s7_mean_L (p := σ.1 (70 + k)) hk (e1.trans e3) hn (by omega) e4 ⟨rfl, kr_tell h _⟩ (n + 1) 0 (by omega) (by omega)⟩⟩
  · exact ⟨-1, s6_pick1_out ho (kv_none ⟨rfl, s7_isRow_out ho (kv_T rfl ⟨rfl, h⟩)⟩)⟩
end
