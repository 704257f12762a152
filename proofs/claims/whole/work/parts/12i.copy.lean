section
variable {σ τ : kx_St}
theorem s6_pick1_any {x : Int32} {Q : Option Nat → Prop} (h0 : Q none) (h1 : ∀ k, k < 6 → Q (some (60 + k))) : p6_pick σ 1 x Q := by
  rcases kv_arg x 6 with ⟨k, hk, rfl⟩ | ho
  · exact s6_pick1_in hk (h1 k hk)
  · exact s6_pick1_out ho h0
theorem kv_ladd (x y : Int32) : (x.toInt64 + y.toInt64).toInt = x.toInt + y.toInt := by
  rw [Int64.toInt_add, kv_l, kv_l]
  have a1 := Int32.le_toInt x
  have a2 := Int32.toInt_lt x
  have b1 := Int32.le_toInt y
  have b2 := Int32.toInt_lt y
  apply Int.bmod_eq_of_le <;> omega
theorem s5_spans_yes {a b N n i c : Nat} {Q : Int32 → Prop} (R : ku_Row a b N) (hs : σ.1 a 1 = nI n) (hn : n ≤ N) (hi : i + c ≤ n) (h : Q 1) : p5_spans σ a (nI i) (nI c) Q := by
  have r4 := R.2.2.2.1
  unfold p5_spans
  rw [hs]
  refine ⟨R.1, kv_f ?_ (kv_f ?_ (kv_f ?_ (kv_f ?_ h)))⟩
  · rw [kv_lt, kv_n (by omega)]; show ¬ _ < (0 : Int); omega
  · rw [kv_lt, kv_n (by omega)]; show ¬ _ < (0 : Int); omega
  · rw [kv_ltN (by omega) (by omega)]; omega
  · rw [kv_sub (by omega), kv_ltN (by omega) (by omega)]; omega
theorem s5_spans_no {a b N n c : Nat} {x : Int32} {Q : Int32 → Prop} (R : ku_Row a b N) (hs : σ.1 a 1 = nI n) (hn : n ≤ N) (hc : c < 2147483648) (hi : ¬ (0 ≤ x.toInt ∧ x.toInt + c ≤ n)) (h : Q 0) : p5_spans σ a x (nI c) Q := by
  have r4 := R.2.2.2.1
  unfold p5_spans
  rw [hs]
  refine ⟨R.1, fun _ => h, fun c1 => kv_f ?_ ⟨fun _ => h, fun c2 => kv_t ?_ h⟩⟩
  · rw [kv_lt, kv_n hc]; show ¬ _ < (0 : Int); omega
  · have c1 : ¬ x.toInt < 0 := fun r => c1 (kv_lt.mpr r)
    have c2 : ¬ (n : Int) < x.toInt := fun r => c2 (by rw [kv_lt, kv_n (by omega)]; exact r)
    rcases kv_arg x (n + 1) with ⟨i, hi2, rfl⟩ | h3
    · rw [kv_n (by omega)] at hi c1 c2
      rw [kv_sub (by omega), kv_ltN (by omega) hc]; omega
    · omega
theorem s7_isSpan {k n c : Nat} {x : Int32} {Q : Int32 → Prop} (hk : k < 6) (hs : τ.1 6 k = nI n) (hn : n ≤ 40) (hc : c < 2147483648) (h1 : 0 ≤ x.toInt ∧ x.toInt + c ≤ n → Q 1) (h0 : ¬ (0 ≤ x.toInt ∧ x.toInt + c ≤ n) → Q 0) : p7_isSpan τ (nI k) x (nI c) Q := by
  unfold p7_isSpan
  rw [kv_c (by omega), hs]
  simp only [lg_cmp_gt, Int64.lt_iff_toInt_lt, kv_ladd, kv_l]
  rw [kv_n hc, kv_n (show n < 2147483648 by omega)]
  refine ⟨fun c1 => h0 ?_, fun c1 => ⟨kv_in hk (by decide), fun c2 => h0 (by omega), fun c2 => h1 ?_⟩⟩
  · have c1 : x.toInt < 0 := kv_lt.mp c1
    omega
  · have c1 : ¬ x.toInt < 0 := fun r => c1 (kv_lt.mpr r)
    omega
/-- c places from s on moved to d on, those from lo on, len of them -/
def kq_mv (τ : kx_St) (s d lo len : Nat) : kx_St := (fun c x => if c = 7 ∧ d + lo ≤ x ∧ x < d + lo + len then τ.1 7 (s + (x - d)) else τ.1 c x, τ.2)
theorem kq_mv0 (τ : kx_St) (s d lo : Nat) : kq_mv τ s d lo 0 = τ := by
  refine Prod.ext ?_ rfl
  funext c j
  exact if_neg (by omega)
theorem kq_mvF (τ : kx_St) (s d len : Nat) : kx_sI (kq_mv τ s d 0 len) 7 (d + len) (τ.1 7 (s + len)) = kq_mv τ s d 0 (len + 1) := by
  refine Prod.ext ?_ rfl
  funext c x
  simp only [kx_sI, kq_mv]
  by_cases h1 : c = 7 ∧ x = d + len
  · rw [if_pos h1, if_pos (by omega)]
    exact congrArg (τ.1 7) (by omega)
  · rw [if_neg h1]
    by_cases h2 : c = 7 ∧ d + 0 ≤ x ∧ x < d + 0 + len
    · rw [if_pos h2, if_pos (by omega)]
    · rw [if_neg h2, if_neg (by omega)]
theorem kq_mvB (τ : kx_St) (s d lo len : Nat) : kx_sI (kq_mv τ s d (lo + 1) len) 7 (d + lo) (τ.1 7 (s + lo)) = kq_mv τ s d lo (len + 1) := by
  refine Prod.ext ?_ rfl
  funext c x
  simp only [kx_sI, kq_mv]
  by_cases h1 : c = 7 ∧ x = d + lo
  · rw [if_pos h1, if_pos (by omega)]
    exact congrArg (τ.1 7) (by omega)
  · rw [if_neg h1]
    by_cases h2 : c = 7 ∧ d + (lo + 1) ≤ x ∧ x < d + (lo + 1) + len
    · rw [if_pos h2, if_pos (by omega)]
    · rw [if_neg h2, if_neg (by omega)]
theorem s7_copy_F {k k' i j c : Nat} {Q : kx_St → Int32 → Prop} (hk : k < 6) (hk' : k' < 6) (hi : i + c ≤ 40) (hj : j + c ≤ 40) (hle : j ≤ i ∨ k ≠ k') (h : Q (kq_mv τ (40 * k + i) (40 * k' + j) 0 c) 1) : ∀ m q, q ≤ c → c - q < m → p7_copy_L96 m (kq_mv τ (40 * k + i) (40 * k' + j) 0 q) (nI k) (nI i) (nI k') (nI j) (nI c) 0 (nI q) Q := by
  intro m
  induction m with
  | zero => intro q h1 h2; omega
  | succ m ih =>
    intro q hq hm
    unfold p7_copy_L96
    by_cases hqc : q = c
    · subst hqc
      exact kv_t (by rw [kv_leN (by omega) (by omega)]; omega) h
    · refine kv_f (by rw [kv_leN (by omega) (by omega)]; omega) (kv_t rfl ?_)
      unfold p7_copy_J120
      rw [kv_40, kv_40, kv_add, kv_add, kv_c (by omega), kv_c (by omega), show nI q + 1 = nI (q + 1) from nI_1 q]
      refine ⟨kv_in (by omega) (by decide), kv_in (by omega) (by decide), ?_⟩
      have e : (kq_mv τ (40 * k + i) (40 * k' + j) 0 q).1 7 (40 * k + i + q) = τ.1 7 (40 * k + i + q) := if_neg (by omega)
      show p7_copy_L96 m (kx_sI (kq_mv τ (40 * k + i) (40 * k' + j) 0 q) 7 (40 * k' + j + q) ((kq_mv τ (40 * k + i) (40 * k' + j) 0 q).1 7 (40 * k + i + q))) (nI k) (nI i) (nI k') (nI j) (nI c) 0 (nI (q + 1)) Q
      rw [e, kq_mvF]
      exact ih (q + 1) (by omega) (by omega)
theorem s7_copy_B {k k' i j c : Nat} {Q : kx_St → Int32 → Prop} (hk : k < 6) (hk' : k' < 6) (hi : i + c ≤ 40) (hj : j + c ≤ 40) (hlt : i < j ∨ k ≠ k') (h : Q (kq_mv τ (40 * k + i) (40 * k' + j) 0 c) 1) : ∀ m q, q ≤ c → c - q < m → p7_copy_L96 m (kq_mv τ (40 * k + i) (40 * k' + j) (c - q) q) (nI k) (nI i) (nI k') (nI j) (nI c) 1 (nI q) Q := by
  intro m
  induction m with
  | zero => intro q h1 h2; omega
  | succ m ih =>
    intro q hq hm
    unfold p7_copy_L96
    by_cases hqc : q = c
    · subst hqc
      rw [Nat.sub_self]
      exact kv_t (by rw [kv_leN (by omega) (by omega)]; omega) h
    · refine kv_f (by rw [kv_leN (by omega) (by omega)]; omega) (kv_f (by decide) ?_)
      unfold p7_copy_J120
      have e1 : nI c - 1 - nI q = nI (c - 1 - q) := by rw [show (1 : Int32) = nI 1 from rfl, kv_sub (by omega), kv_sub (by omega)]
      rw [e1, kv_40, kv_40, kv_add, kv_add, kv_c (by omega), kv_c (by omega), show nI q + 1 = nI (q + 1) from nI_1 q]
      refine ⟨kv_in (by omega) (by decide), kv_in (by omega) (by decide), ?_⟩
      have e : (kq_mv τ (40 * k + i) (40 * k' + j) (c - q) q).1 7 (40 * k + i + (c - 1 - q)) = τ.1 7 (40 * k + i + (c - 1 - q)) := if_neg (by omega)
      show p7_copy_L96 m (kx_sI (kq_mv τ (40 * k + i) (40 * k' + j) (c - q) q) 7 (40 * k' + j + (c - 1 - q)) ((kq_mv τ (40 * k + i) (40 * k' + j) (c - q) q).1 7 (40 * k + i + (c - 1 - q)))) (nI k) (nI i) (nI k') (nI j) (nI c) 1 (nI (q + 1)) Q
      rw [e]
      have e2 := kq_mvB τ (40 * k + i) (40 * k' + j) (c - 1 - q) q
      rw [show c - 1 - q + 1 = c - q by omega] at e2
      rw [e2, show c - 1 - q = c - (q + 1) by omega]
      exact ih (q + 1) (by omega) (by omega)
theorem kr_copy (h : kr_R σ τ) {k k' i j c n n' : Nat} (hk : k < 6) (hk' : k' < 6) (hs : σ.1 (60 + k) 1 = nI n) (hn : n ≤ 40) (hs' : σ.1 (60 + k') 1 = nI n') (hn' : n' ≤ 40) (hi : i + c ≤ n) (hj : j + c ≤ n') : kr_R (kx_cp σ (70 + k) (70 + k') i j c) (kq_mv τ (40 * k + i) (40 * k' + j) 0 c) := by
  have ne : ∀ a, a ≠ 70 + k' → (kx_cp σ (70 + k) (70 + k') i j c).1 a = σ.1 a := fun a ha => by funext x; simp [kx_cp, ha]
  refine kr_R_row h hk' (fun a h1 h2 => ne a h2) rfl (fun x h1 h2 => by funext y; exact if_neg (fun q => h2 q.1)) rfl (fun r hr => by simp [kq_mv]) (fun x hx => if_neg (by omega)) ?_
  obtain ⟨e1, e2⟩ := h.1 k' hk'
  obtain ⟨f1, f2⟩ := h.1 k hk
  rw [ne (60 + k') (by omega)]
  refine ⟨by rw [show (kq_mv τ (40 * k + i) (40 * k' + j) 0 c).1 6 k' = τ.1 6 k' from by simp [kq_mv]]; exact e1, ?_⟩
  have nn : ∀ z w, z ≤ 40 → w ≤ 40 → nI z = nI w → z = w := fun z w hz hw q => (kv_inj (by omega) (by omega)).mp q
  rcases e2 with e2 | ⟨n2, hn2, e3, e4⟩
  · exact Or.inl e2
  · refine Or.inr ⟨n2, hn2, e3, fun q hq => ?_⟩
    have : n2 = n' := nn _ _ hn2 hn' (e3.symm.trans hs')
    subst this
    show (if 7 = 7 ∧ 40 * k' + j + 0 ≤ 40 * k' + q ∧ 40 * k' + q < 40 * k' + j + 0 + c then τ.1 7 (40 * k + i + (40 * k' + q - (40 * k' + j))) else τ.1 7 (40 * k' + q)) = (if 70 + k' = 70 + k' then va_cpy (σ.1 (70 + k)) (σ.1 (70 + k')) i j c q else σ.1 (70 + k') q)
    rw [if_pos (rfl : 70 + k' = 70 + k')]
    by_cases hin : j ≤ q ∧ q < j + c
    · rw [if_pos (by omega), pk_cpy_in hin.1 hin.2]
      rcases f2 with f2 | ⟨n3, hn3, f3, f4⟩
      · exfalso
        rw [hs] at f2
        have := congrArg Int32.toInt f2
        rw [kv_n (by omega)] at this
        have h9 : (-1 : Int32).toInt = -1 := by decide
        omega
      · have : n3 = n := nn _ _ hn3 hn (f3.symm.trans hs)
        subst this
        have t := f4 (i + (q - j)) (by omega)
        refine Eq.trans (congrArg (τ.1 7) ?_) (t.trans (congrArg (σ.1 (70 + k)) ?_)) <;> omega
    · rw [if_neg (by omega), pk_cpy_out (by omega)]
      exact e4 q hq
theorem th_copy (σ τ : kx_St) (h : kr_R σ τ) : lt_copy kr_R σ τ := by
  intro a0 a1 a2 a3 a4
  unfold p6_copy p7_copy
  rcases kv_arg a0 6 with ⟨k, hk, rfl⟩ | ho
  · have R := ku_row hk
    rcases kv_arg a2 6 with ⟨k', hk', rfl⟩ | ho'
    · have R' := ku_row hk'
      by_cases h4 : a4.toInt < 0
      · refine ⟨-3, s6_pick1_in hk (kv_some ⟨R.1, s6_pick1_in hk' (kv_some ⟨R'.1, kv_f ?_ (s6_found (f := 5) rfl (by decide) ⟨rfl, s7_isRow_in hk (kv_f (by decide) (s7_isRow_in hk' (kv_F (by decide) (kv_f ?_ (s7_find (f := 5) rfl (by decide) ⟨rfl, kr_found h (by decide)⟩)))))⟩)⟩)⟩)⟩
        · rw [kv_le]; show ¬ (0 : Int) ≤ _; omega
        · rw [kv_le]; show ¬ (0 : Int) ≤ _; omega
      · have h40 : (0 : Int32) ≤ a4 := by rw [kv_le]; show (0 : Int) ≤ _; omega
        obtain ⟨c, hc, rfl⟩ := nI_of (x := a4) (fun q => h4 (by have := kv_lt.mp q; exact this))
        obtain ⟨e1, e2⟩ := h.1 k hk
        obtain ⟨f1, f2⟩ := h.1 k' hk'
        have m1 : p7_copy_J45 τ (fun w q => q = -3 ∧ kr_R (kq_f σ 1) w) := s7_find (f := 1) rfl (by decide) ⟨rfl, kr_found h (by decide)⟩
        have m2 : p7_copy_J74 τ (fun w q => q = -3 ∧ kr_R (kq_f σ 2) w) := s7_find (f := 2) rfl (by decide) ⟨rfl, kr_found h (by decide)⟩
        rcases e2 with e2 | ⟨n, hn, e3, e4⟩
        · refine ⟨-3, s6_pick1_in hk (kv_some ⟨R.1, s6_pick1_in hk' (kv_some ⟨R'.1, kv_t h40 (s5_isThere_no R e2 (kv_t rfl (s6_found (f := 1) rfl (by decide) ⟨rfl, s7_isRow_in hk (kv_f (by decide) (s7_isRow_in hk' (kv_F (by decide) (kv_t h40 ⟨kv_in hk (by decide), ?_⟩))))⟩)))⟩)⟩)⟩
          rw [kv_c (show k < 2147483648 by omega), e1, e2]
          exact kv_t (by decide) m1
        · have hge : ¬ nI n < 0 := by rw [kv_lt, kv_n (by omega)]; show ¬ _ < (0 : Int); omega
          rcases f2 with f2 | ⟨n', hn', f3, f4⟩
          · refine ⟨-3, s6_pick1_in hk (kv_some ⟨R.1, s6_pick1_in hk' (kv_some ⟨R'.1, kv_t h40 (s5_isThere_yes R e3 hn (kv_f (by decide) (s5_isThere_no R' f2 (kv_T rfl (s6_found (f := 1) rfl (by decide) ⟨rfl, s7_isRow_in hk (kv_f (by decide) (s7_isRow_in hk' (kv_F (by decide) (kv_t h40 ⟨kv_in hk (by decide), ?_⟩))))⟩)))))⟩)⟩)⟩
            rw [kv_c (show k < 2147483648 by omega), kv_c (show k' < 2147483648 by omega), e1, e3, f1, f2]
            exact kv_f hge ⟨kv_in hk' (by decide), kv_f (by decide) m1⟩
          · by_cases g1 : 0 ≤ a1.toInt ∧ a1.toInt + c ≤ n
            · by_cases g2 : 0 ≤ a3.toInt ∧ a3.toInt + c ≤ n'
              · obtain ⟨i, hi, rfl⟩ := nI_of (x := a1) (fun q => by have := kv_lt.mp q; have h0 : (0 : Int32).toInt = 0 := rfl; omega)
                obtain ⟨j, hj, rfl⟩ := nI_of (x := a3) (fun q => by have := kv_lt.mp q; have h0 : (0 : Int32).toInt = 0 := rfl; omega)
                have g1' := g1
                have g2' := g2
                rw [kv_n (by omega)] at g1 g2
                have z : ∀ y, y < 2147483648 → ¬ nI y < 0 := fun y hy => by rw [kv_lt, kv_n hy]; show ¬ _ < (0 : Int); omega
                refine ⟨1, s6_pick1_in hk (kv_some ⟨R.1, s6_pick1_in hk' (kv_some ⟨R'.1, kv_t h40 (s5_isThere_yes R e3 hn (kv_f (by decide) (s5_isThere_yes R' f3 hn' (kv_F (by decide) (s5_spans_yes R e3 hn (by omega) (kv_f (by decide) (s5_spans_yes R' f3 hn' (by omega) (kv_F (by decide) ⟨z _ hi, z _ hj, z _ hc, ?_, ?_, ?_⟩))))))))⟩)⟩)⟩
                · rw [R.2.1, R.2.2.1, kv_c hi, kv_c hc]; omega
                · rw [R'.2.1, R'.2.2.1, kv_c hj, kv_c hc]; omega
                · rw [R.2.1, R'.2.1, kv_c hi, kv_c hc, kv_c hj]
                  refine ⟨rfl, s7_isRow_in hk (kv_f (by decide) (s7_isRow_in hk' (kv_F (by decide) (kv_t h40 ⟨kv_in hk (by decide), ?_⟩))))⟩
                  rw [kv_c (show k < 2147483648 by omega), kv_c (show k' < 2147483648 by omega), e1, e3, f1, f3]
                  refine kv_f hge ⟨kv_in hk' (by decide), kv_t (kv_ge0 (by omega)) (s7_isSpan hk (e1.trans e3) hn hc (fun _ => kv_f (by decide) (s7_isSpan hk' (f1.trans f3) hn' hc (fun _ => kv_F (by decide) ?_) (fun q => absurd g2' q))) (fun q => absurd g1' q))⟩
                  have rr := kr_copy h hk hk' e3 hn f3 hn' (i := i) (j := j) (c := c) (by omega) (by omega)
                  by_cases hji : j ≤ i
                  · refine kv_t (by rw [kv_leN (by omega) (by omega)]; exact hji) ⟨c + 1, ?_⟩
                    have := s7_copy_F (τ := τ) (Q := fun w q => q = 1 ∧ kr_R (kx_cp σ (70 + k) (70 + k') i j c) w) hk hk' (i := i) (j := j) (c := c) (by omega) (by omega) (Or.inl hji) ⟨rfl, rr⟩ (c + 1) 0 (by omega) (by omega)
                    rw [kq_mv0] at this
                    exact this
                  · refine kv_f (by rw [kv_leN (by omega) (by omega)]; exact hji) ⟨c + 1, ?_⟩
                    have := s7_copy_B (τ := τ) (Q := fun w q => q = 1 ∧ kr_R (kx_cp σ (70 + k) (70 + k') i j c) w) hk hk' (i := i) (j := j) (c := c) (by omega) (by omega) (Or.inl (by omega)) ⟨rfl, rr⟩ (c + 1) 0 (by omega) (by omega)
                    rw [kq_mv0] at this
                    exact this
              · obtain ⟨i, hi, rfl⟩ := nI_of (x := a1) (fun q => by have := kv_lt.mp q; have h0 : (0 : Int32).toInt = 0 := rfl; omega)
                have g1' := g1
                rw [kv_n (by omega)] at g1
                refine ⟨-3, s6_pick1_in hk (kv_some ⟨R.1, s6_pick1_in hk' (kv_some ⟨R'.1, kv_t h40 (s5_isThere_yes R e3 hn (kv_f (by decide) (s5_isThere_yes R' f3 hn' (kv_F (by decide) (s5_spans_yes R e3 hn (by omega) (kv_f (by decide) (s5_spans_no R' f3 hn' hc g2 (kv_T rfl (s6_found (f := 2) rfl (by decide) ⟨rfl, s7_isRow_in hk (kv_f (by decide) (s7_isRow_in hk' (kv_F (by decide) (kv_t h40 ⟨kv_in hk (by decide), ?_⟩))))⟩)))))))))⟩)⟩)⟩
                rw [kv_c (show k < 2147483648 by omega), kv_c (show k' < 2147483648 by omega), e1, e3, f1, f3]
                exact kv_f hge ⟨kv_in hk' (by decide), kv_t (kv_ge0 (by omega)) (s7_isSpan hk (e1.trans e3) hn hc (fun _ => kv_f (by decide) (s7_isSpan hk' (f1.trans f3) hn' hc (fun q => absurd q g2) (fun _ => kv_T rfl m2))) (fun q => absurd g1' q))⟩
            · refine ⟨-3, s6_pick1_in hk (kv_some ⟨R.1, s6_pick1_in hk' (kv_some ⟨R'.1, kv_t h40 (s5_isThere_yes R e3 hn (kv_f (by decide) (s5_isThere_yes R' f3 hn' (kv_F (by decide) (s5_spans_no R e3 hn hc g1 (kv_t rfl (s6_found (f := 2) rfl (by decide) ⟨rfl, s7_isRow_in hk (kv_f (by decide) (s7_isRow_in hk' (kv_F (by decide) (kv_t h40 ⟨kv_in hk (by decide), ?_⟩))))⟩)))))))⟩)⟩)⟩
              rw [kv_c (show k < 2147483648 by omega), kv_c (show k' < 2147483648 by omega), e1, e3, f1, f3]
              exact kv_f hge ⟨kv_in hk' (by decide), kv_t (kv_ge0 (by omega)) (s7_isSpan hk (e1.trans e3) hn hc (fun q => absurd q g1) (fun _ => kv_t rfl m2))⟩
    · exact ⟨-1, s6_pick1_in hk (kv_some ⟨R.1, s6_pick1_out ho' (kv_none ⟨rfl, s7_isRow_in hk (kv_f (by decide) (s7_isRow_out ho' (kv_T rfl ⟨rfl, h⟩)))⟩)⟩)⟩
  · exact ⟨-1, s6_pick1_out ho (kv_none (s6_pick1_any (kv_none ⟨rfl, s7_isRow_out ho (kv_t rfl ⟨rfl, h⟩)⟩) (fun k hk => kv_some ⟨(ku_row hk).1, rfl, s7_isRow_out ho (kv_t rfl ⟨rfl, h⟩)⟩)))⟩
theorem th_asked (σ τ : kx_St) (h : kr_R σ τ) : lt_asked kr_R σ τ := ⟨_, rfl, h.2.2.2.1.1.symm, h⟩
theorem th_upper (σ τ : kx_St) (h : kr_R σ τ) : lt_upper kr_R σ τ := ⟨_, rfl, h.2.2.2.1.2.1.symm, h⟩
theorem th_lower (σ τ : kx_St) (h : kr_R σ τ) : lt_lower kr_R σ τ := ⟨_, rfl, h.2.2.2.1.2.2.symm, h⟩
theorem th_finding (σ τ : kx_St) (h : kr_R σ τ) : lt_finding kr_R σ τ := ⟨_, rfl, h.2.2.1.1.symm, h⟩
theorem th_findings (σ τ : kx_St) (h : kr_R σ τ) : lt_findings kr_R σ τ := by
  intro a0
  unfold p6_findings p7_findings
  rcases kv_arg1 a0 5 with ⟨k, hk, rfl⟩ | ho
  · refine ⟨_, kv_f ?_ (kv_t ?_ ⟨kv_in (by omega) (by decide), rfl, s7_in (fun _ => kv_f (by decide) ⟨kv_in (by omega) (by decide), ?_, h⟩) (fun c => absurd ?_ c)⟩)⟩
    · rw [kv_lt, kv_n (by omega)]; show ¬ _ < (1 : Int); omega
    · show nI (k + 1) < nI 6
      rw [kv_ltN (by omega) (by omega)]; omega
    · rw [kv_c (by omega)]; exact (h.2.2.1.2 (k + 1) (by omega)).symm
    · rw [kv_l, kv_n (by omega)]; show (1 : Int) ≤ _ ∧ _ ≤ (5 : Int); omega
  · have m : p7_in a0.toInt64 1 5 (fun r1 => (r1 = 0 → (-1 : Int32) = -1 ∧ kr_R σ τ) ∧ (¬ r1 = 0 → vp_in a0 6 ∧ (τ.1 10 a0.toNatClampNeg = -1 ∧ kr_R σ τ))) := by
      refine s7_in (fun c => ?_) (fun _ => kv_t rfl ⟨rfl, h⟩)
      exfalso
      rw [kv_l] at c
      have c : (1 : Int) ≤ a0.toInt ∧ a0.toInt ≤ (5 : Int) := c
      omega
    by_cases h1 : a0.toInt < 1
    · exact ⟨-1, kv_t (by rw [kv_lt]; exact h1) ⟨rfl, m⟩⟩
    · refine ⟨-1, kv_f (by rw [kv_lt]; exact h1) (kv_f ?_ ⟨rfl, m⟩)⟩
      show ¬ a0 < nI 6
      rw [kv_lt, kv_n (by omega)]; omega
end
