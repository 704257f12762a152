/-! rows and texts of both sides, call by call -/
theorem kr_one_at {N : Nat} {s s' : Int32} {p p' q' : Nat → Int32} (h : kr_one N s p s' p') (e : ∀ i, i < N → q' i = p' i) : kr_one N s p s' q' := by
  obtain ⟨a, b⟩ := h
  refine ⟨a, ?_⟩
  rcases b with b | ⟨n, hn, c, d⟩
  · exact Or.inl b
  · exact Or.inr ⟨n, hn, c, fun i hi => (e i (by omega)).trans (d i hi)⟩
theorem kr_R_row {σ τ σ' τ' : kx_St} (h : kr_R σ τ) {k : Nat} (hk : k < 6) (h1 : ∀ a, a ≠ 60 + k → a ≠ 70 + k → σ'.1 a = σ.1 a) (hl : σ'.2 = σ.2) (h2 : ∀ c, c ≠ 6 → c ≠ 7 → τ'.1 c = τ.1 c) (hm : τ'.2 = τ.2) (h3 : ∀ r, r ≠ k → τ'.1 6 r = τ.1 6 r) (h4 : ∀ j, ¬ (40 * k ≤ j ∧ j < 40 * k + 40) → τ'.1 7 j = τ.1 7 j)
    (ho : kr_one 40 (σ'.1 (60 + k) 1) (σ'.1 (70 + k)) (τ'.1 6 k) (fun i => τ'.1 7 (40 * k + i))) : kr_R σ' τ' := by
  obtain ⟨a, b, c, d, e, f⟩ := h
  refine ⟨fun r hr => ?_, kr_txt_fr b (fun r hr => ⟨h1 _ (by omega) (by omega), h1 _ (by omega) (by omega)⟩) (h2 _ (by omega) (by omega)) (h2 _ (by omega) (by omega)), ⟨?_, fun i hi => ?_⟩, ⟨?_, ?_, ?_⟩,
    kr_par_fr e (fun a ha => by unfold kr_pc at ha; exact h1 _ (by omega) (by omega)) (by rw [h2 0 (by omega) (by omega)]) (by rw [h2 0 (by omega) (by omega)]) (fun c q1 q2 => h2 _ (by omega) (by omega)) (fun k _ => by rw [h2 1 (by omega) (by omega)]),
    kr_dra_fr f (fun k _ _ => by rw [h1 5 (by omega) (by omega)]) (fun i hi => by rw [h1 (36 + i) (by omega) (by omega)]) (fun a q1 q2 => by rw [h1 a (by omega) (by omega)])⟩
  · by_cases hrk : r = k
    · subst hrk; exact ho
    · rw [h1 (60 + r) (by omega) (by omega), h1 (70 + r) (by omega) (by omega), h3 r hrk]
      exact kr_one_at (a r hr) (fun i hi => h4 _ (by omega))
  · rw [h1 0 (by omega) (by omega), h2 0 (by omega) (by omega)]; exact c.1
  · rw [h1 28 (by omega) (by omega), h2 10 (by omega) (by omega)]; exact c.2 i hi
  · rw [h1 0 (by omega) (by omega), h2 0 (by omega) (by omega)]; exact d.1
  · rw [hl, hm]; exact d.2.1
  · rw [hl, hm]; exact d.2.2
theorem kr_R_txt {σ τ σ' τ' : kx_St} (h : kr_R σ τ) {k : Nat} (hk : k < 4) (h1 : ∀ a, a ≠ 66 + k → a ≠ 76 + k → σ'.1 a = σ.1 a) (hl : σ'.2 = σ.2) (h2 : ∀ c, c ≠ 8 → c ≠ 9 → τ'.1 c = τ.1 c) (hm : τ'.2 = τ.2) (h3 : ∀ r, r ≠ k → τ'.1 8 r = τ.1 8 r) (h4 : ∀ j, ¬ (60 * k ≤ j ∧ j < 60 * k + 60) → τ'.1 9 j = τ.1 9 j)
    (ho : kr_one 60 (σ'.1 (66 + k) 1) (σ'.1 (76 + k)) (τ'.1 8 k) (fun i => τ'.1 9 (60 * k + i))) : kr_R σ' τ' := by
  obtain ⟨a, b, c, d, e, f⟩ := h
  refine ⟨kr_row_fr a (fun r hr => ⟨h1 _ (by omega) (by omega), h1 _ (by omega) (by omega)⟩) (h2 _ (by omega) (by omega)) (h2 _ (by omega) (by omega)), fun r hr => ?_, ⟨?_, fun i hi => ?_⟩, ⟨?_, ?_, ?_⟩,
    kr_par_fr e (fun a ha => by unfold kr_pc at ha; exact h1 _ (by omega) (by omega)) (by rw [h2 0 (by omega) (by omega)]) (by rw [h2 0 (by omega) (by omega)]) (fun c q1 q2 => h2 _ (by omega) (by omega)) (fun k _ => by rw [h2 1 (by omega) (by omega)]),
    kr_dra_fr f (fun k _ _ => by rw [h1 5 (by omega) (by omega)]) (fun i hi => by rw [h1 (36 + i) (by omega) (by omega)]) (fun a q1 q2 => by rw [h1 a (by omega) (by omega)])⟩
  · by_cases hrk : r = k
    · subst hrk; exact ho
    · rw [h1 (66 + r) (by omega) (by omega), h1 (76 + r) (by omega) (by omega), h3 r hrk]
      exact kr_one_at (b r hr) (fun i hi => h4 _ (by omega))
  · rw [h1 0 (by omega) (by omega), h2 0 (by omega) (by omega)]; exact c.1
  · rw [h1 28 (by omega) (by omega), h2 10 (by omega) (by omega)]; exact c.2 i hi
  · rw [h1 0 (by omega) (by omega), h2 0 (by omega) (by omega)]; exact d.1
  · rw [hl, hm]; exact d.2.1
  · rw [hl, hm]; exact d.2.2
section
variable {σ τ : kx_St} {a b N n : Nat}
theorem s6_begin_none {x v : Int32} {Q : kx_St → Int32 → Prop} (h : Q σ (-1)) : p6_begin σ none x v Q := kv_none h
theorem s6_begin_ok {v : Int32} {Q : kx_St → Int32 → Prop} (R : ku_Row a b N) (hn : n ≤ N) (h : Q (kq_beg σ a b n v) (nI n)) : p6_begin σ (some a) (nI n) v Q := by
  have r4 := R.2.2.2.1
  unfold p6_begin
  refine kv_some ⟨R.1, kv_t ?_ (kv_t ?_ (s5_begin R hn h))⟩
  · rw [R.2.1, R.2.2.1, kv_o, kv_leN (by omega) (by omega)]; exact hn
  · rw [kv_le, kv_n (by omega)]; show (0 : Int) ≤ _; omega
theorem s6_begin_big {x v : Int32} {Q : kx_St → Int32 → Prop} (R : ku_Row a b N) (hx : (N : Int) < x.toInt) (h : Q σ (-1)) : p6_begin σ (some a) x v Q := by
  have r4 := R.2.2.2.1
  unfold p6_begin
  refine kv_some ⟨R.1, kv_f ?_ h⟩
  rw [R.2.1, R.2.2.1, kv_o, kv_le, kv_n (by omega)]; omega
theorem s6_begin_neg {x v : Int32} {Q : kx_St → Int32 → Prop} (R : ku_Row a b N) (hx : x.toInt < 0) (h : Q (kq_f σ 5) (-3)) : p6_begin σ (some a) x v Q := by
  have r4 := R.2.2.2.1
  unfold p6_begin
  refine kv_some ⟨R.1, kv_t ?_ (kv_f ?_ (s6_found (f := 5) rfl (by decide) h))⟩
  · rw [R.2.1, R.2.2.1, kv_o, kv_le, kv_n (by omega)]; omega
  · rw [kv_le]; show ¬ (0 : Int) ≤ _; omega
theorem s7_makeRow_L {r : Nat} {Q : kx_St → Prop} (hr : r < 6) (h : Q (kq_fill τ 7 (40 * r) 40 0)) : ∀ m i, i ≤ 40 → 40 - i < m → p7_makeRow_L9 m (kq_fill τ 7 (40 * r) i 0) (nI r) (nI i) Q := by
  intro m
  induction m with
  | zero => intro i h1 h2; omega
  | succ m ih =>
    intro i hi hm
    unfold p7_makeRow_L9
    rw [show (40 : Int32) = nI 40 from rfl]
    by_cases hin : i = 40
    · subst hin
      exact kv_t (by rw [kv_leN (by omega) (by omega)]; omega) h
    · refine kv_f (by rw [kv_leN (by omega) (by omega)]; omega) ?_
      rw [kv_mul, kv_add, kv_c (by omega), kq_fillS, show nI i + 1 = nI (i + 1) from nI_1 i]
      exact ⟨kv_in (by omega) (by omega), ih (i + 1) (by omega) (by omega)⟩
theorem s7_makeRow {r : Nat} {x : Int32} {Q : kx_St → Prop} (hr : r < 6) (h : Q (kq_fill (kx_sI τ 6 r x) 7 (40 * r) 40 0)) : p7_makeRow τ (nI r) x Q := by
  unfold p7_makeRow
  rw [kv_c (by omega)]
  refine ⟨kv_in hr (by decide), 41, ?_⟩
  have := s7_makeRow_L (τ := kx_sI τ 6 r x) hr h 41 0 (by omega) (by omega)
  rw [kq_fill0] at this
  exact this
theorem kr_beg (h : kr_R σ τ) {k : Nat} (hk : k < 6) (hn : n ≤ 40) : kr_R (kq_beg σ (60 + k) (70 + k) n 0) (kq_fill (kx_sI τ 6 k (nI n)) 7 (40 * k) 40 0) := by
  refine kr_R_row h hk (fun a h1 h2 => ?_) rfl (fun c h1 h2 => ?_) rfl (fun r hr => ?_) (fun j hj => ?_) ⟨?_, Or.inr ⟨n, hn, ?_, fun i hi => ?_⟩⟩
  · unfold kq_beg; rw [kq_fill_ne h2, kv_ua h1]
  · rw [kq_fill_ne h2, kv_ua h1]
  · rw [kq_fill_ne (by omega)]; exact kv_un (by omega)
  · show (if 7 = 7 ∧ 40 * k ≤ j ∧ j < 40 * k + 40 then 0 else _) = _
    rw [if_neg (by omega)]; exact kv_un (by omega)
  · unfold kq_beg
    rw [kq_fill_ne (by omega), kq_fill_ne (by omega), kv_us, kv_us]
  · unfold kq_beg
    rw [kq_fill_ne (by omega), kv_us]
  · show (if 7 = 7 ∧ 40 * k ≤ 40 * k + i ∧ 40 * k + i < 40 * k + 40 then (0 : Int32) else _) = (if 70 + k = 70 + k ∧ 0 ≤ i ∧ i < 0 + n then (0 : Int32) else _)
    rw [if_pos (by omega), if_pos (by omega)]
theorem th_row (σ τ : kx_St) (h : kr_R σ τ) : lt_row kr_R σ τ := by
  intro a0 a1
  unfold p6_row p7_row
  rcases kv_arg a0 6 with ⟨k, hk, rfl⟩ | ho
  · have R := ku_row hk
    rcases kv_arg a1 41 with ⟨n, hn, rfl⟩ | h1
    · refine ⟨nI n, s6_pick1_in hk (kv_some ⟨R.1, s6_begin_ok R (by omega) ⟨rfl, s7_isRow_in hk (kv_f (by decide) (kv_t ?_ (kv_t ?_ (s7_makeRow hk ⟨rfl, kr_beg h hk (by omega)⟩))))⟩⟩)⟩
      · rw [show (40 : Int32) = nI 40 from rfl, kv_leN (by omega) (by omega)]; omega
      · rw [kv_le, kv_n (by omega)]; show (0 : Int) ≤ _; omega
    · by_cases h2 : a1.toInt < 0
      · refine ⟨-3, s6_pick1_in hk (kv_some ⟨R.1, s6_begin_neg R h2 ⟨rfl, s7_isRow_in hk (kv_f (by decide) (kv_t ?_ (kv_f ?_ (s7_find (f := 5) rfl (by decide) ⟨rfl, kr_found h (by decide)⟩))))⟩⟩)⟩
        · rw [kv_le]; show _ ≤ (40 : Int); omega
        · rw [kv_le]; show ¬ (0 : Int) ≤ _; omega
      · refine ⟨-1, s6_pick1_in hk (kv_some ⟨R.1, s6_begin_big R (by omega) ⟨rfl, s7_isRow_in hk (kv_f (by decide) (kv_f ?_ ⟨rfl, h⟩))⟩⟩)⟩
        rw [kv_le]; show ¬ _ ≤ (40 : Int); omega
  · exact ⟨-1, s6_pick1_out ho (kv_none (s6_begin_none ⟨rfl, s7_isRow_out ho (kv_t rfl ⟨rfl, h⟩)⟩))⟩
end
