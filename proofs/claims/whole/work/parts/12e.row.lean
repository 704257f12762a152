/-! findings, what is told, rows: both sides' predicates -/
theorem kr_R_sm {σ τ σ' τ' : kx_St} (h : kr_R σ τ) (h1 : ∀ a, a ≠ 0 → a ≠ 28 → σ'.1 a = σ.1 a) (h2 : τ'.1 0 2 = τ.1 0 2) (h3 : τ'.1 0 3 = τ.1 0 3) (h4 : ∀ c, 1 ≤ c → c ≠ 10 → τ'.1 c = τ.1 c) (hf : kr_fnd σ' τ') (ht : kr_tld σ' τ') : kr_R σ' τ' := by
  obtain ⟨a, b, c, d, e, f⟩ := h
  exact ⟨kr_row_fr a (fun r hr => ⟨h1 _ (by omega) (by omega), h1 _ (by omega) (by omega)⟩) (h4 _ (by omega) (by omega)) (h4 _ (by omega) (by omega)),
    kr_txt_fr b (fun r hr => ⟨h1 _ (by omega) (by omega), h1 _ (by omega) (by omega)⟩) (h4 _ (by omega) (by omega)) (h4 _ (by omega) (by omega)), hf, ht,
    kr_par_fr e (fun a ha => by unfold kr_pc at ha; exact h1 _ (by omega) (by omega)) h3 h2 (fun c q1 q2 => h4 _ (by omega) (by omega)) (fun k _ => by rw [h4 1 (by omega) (by omega)]),
    kr_dra_fr f (fun k _ _ => by rw [h1 5 (by omega) (by omega)]) (fun i hi => by rw [h1 (36 + i) (by omega) (by omega)]) (fun a q1 q2 => by rw [h1 a (by omega) (by omega)])⟩
def kq_f (σ : kx_St) (f : Nat) : kx_St := kx_sI (kx_sI σ 0 9 (nI f)) 28 f (σ.1 28 f + 1)
def kq_g (τ : kx_St) (f : Nat) : kx_St := kx_sI (kx_sI τ 0 14 (nI f)) 10 f (τ.1 10 f + 1)
theorem s6_found {σ : kx_St} {x : Int32} {f : Nat} {Q : kx_St → Int32 → Prop} (hx : x = nI f) (hf : f < 6) (h : Q (kq_f σ f) (-3)) : p6_found σ x Q := by
  subst hx
  unfold p6_found
  refine kv_f (by rw [kv_lt, kv_n (by omega)]; show ¬ _ < (0 : Int); omega) (kv_f ?_ ?_)
  · show ¬ nI 6 ≤ nI f
    rw [kv_leN (by decide) (by omega)]; omega
  · refine ⟨kv_in hf (by decide), kv_in hf (by decide), ?_⟩
    rw [kv_c (by omega)]
    exact h
theorem s7_find {τ : kx_St} {x : Int32} {f : Nat} {Q : kx_St → Int32 → Prop} (hx : x = nI f) (hf : f < 6) (h : Q (kq_g τ f) (-3)) : p7_find τ x Q := by
  subst hx
  unfold p7_find
  refine ⟨kv_in hf (by decide), kv_in hf (by decide), ?_⟩
  rw [kv_c (by omega)]
  exact h
theorem kr_found {σ τ : kx_St} (h : kr_R σ τ) {f : Nat} (hf : f < 6) : kr_R (kq_f σ f) (kq_g τ f) := by
  refine kr_R_sm h (fun a h0 h1 => ?_) (by simp [kq_g, kx_sI]) (by simp [kq_g, kx_sI]) (fun c h0 h1 => ?_) ⟨by simp [kq_f, kq_g, kx_sI], fun i hi => ?_⟩ ?_
  · unfold kq_f; rw [kv_ua h1, kv_ua h0]
  · unfold kq_g; rw [kv_ua h1, kv_ua (by omega)]
  · have e := h.2.2.1.2
    by_cases hif : i = f
    · subst hif
      simp [kq_f, kq_g, kx_sI, e i hi]
    · simp [kq_f, kq_g, kx_sI, hif, e i hi]
  · obtain ⟨a, b, c⟩ := h.2.2.2.1
    refine ⟨by simpa [kq_f, kq_g, kx_sI] using a, b, c⟩
theorem kr_tell {σ τ : kx_St} (h : kr_R σ τ) (v : Int32) : kr_R (kx_sI σ 0 10 v) (kx_sI τ 0 11 v) := by
  refine kr_R_sm h (fun a h0 h1 => kv_ua h0) (by simp [kx_sI]) (by simp [kx_sI]) (fun c h0 h1 => kv_ua (by omega)) ⟨?_, fun i hi => ?_⟩ ⟨?_, h.2.2.2.1.2⟩
  · simpa [kx_sI] using h.2.2.1.1
  · simpa [kx_sI] using h.2.2.1.2 i hi
  · simp [kx_sI]
theorem s7_tell {τ : kx_St} {v : Int32} {Q : kx_St → Int32 → Prop} (h : Q (kx_sI τ 0 11 v) 1) : p7_tell τ v Q := h
/-- places lo .. lo + n of a cell all become v -/
def kq_fill (σ : kx_St) (b lo n : Nat) (v : Int32) : kx_St := (fun c j => if c = b ∧ lo ≤ j ∧ j < lo + n then v else σ.1 c j, σ.2)
theorem kq_fill0 (σ : kx_St) (b lo : Nat) (v : Int32) : kq_fill σ b lo 0 v = σ := by
  unfold kq_fill
  refine Prod.ext ?_ rfl
  funext c j
  exact if_neg (by omega)
theorem kq_fillS (σ : kx_St) (b lo n : Nat) (v : Int32) : kx_sI (kq_fill σ b lo n v) b (lo + n) v = kq_fill σ b lo (n + 1) v := by
  refine Prod.ext ?_ rfl
  funext c j
  simp only [kx_sI, kq_fill]
  by_cases h1 : c = b
  · by_cases h2 : j = lo + n
    · rw [if_pos ⟨h1, h2⟩, if_pos ⟨h1, by omega, by omega⟩]
    · rw [if_neg (by omega)]
      by_cases h3 : lo ≤ j ∧ j < lo + n
      · rw [if_pos ⟨h1, h3⟩, if_pos ⟨h1, by omega, by omega⟩]
      · rw [if_neg (by omega), if_neg (by omega)]
  · rw [if_neg (by omega), if_neg (by omega), if_neg (by omega)]
theorem kq_fill_ne {σ : kx_St} {b lo n c : Nat} {v : Int32} (h : c ≠ b) : (kq_fill σ b lo n v).1 c = σ.1 c := by
  funext j
  exact if_neg (by omega)
/-- a ROW's cell of the class: its places in the cell b, room for N -/
def ku_Row (a b N : Nat) : Prop := kx_k 0 a = 5 ∧ kx_r 0 a 0 = b ∧ kx_l 0 b = N ∧ N ≤ 60 ∧ a ≠ b
theorem ku_row {k : Nat} (h : k < 6) : ku_Row (60 + k) (70 + k) 40 := by
  obtain ⟨a, b, c⟩ := ky_rowk k (by omega)
  exact ⟨a, b, by rw [c, if_pos h], by omega, by omega⟩
theorem ku_txt {k : Nat} (h : k < 4) : ku_Row (66 + k) (76 + k) 60 := by
  obtain ⟨a, b, c⟩ := ky_rowk (6 + k) (by omega)
  rw [show 60 + (6 + k) = 66 + k by omega] at a b
  rw [show 70 + (6 + k) = 76 + k by omega] at b c
  exact ⟨a, b, by rw [c, if_neg (by omega)], by omega, by omega⟩
section
variable {σ : kx_St} {a b N n i : Nat}
theorem s5_isThere_no {Q : Int32 → Prop} (R : ku_Row a b N) (hs : σ.1 a 1 = -1) (h : Q 0) : p5_isThere σ a Q := by
  unfold p5_isThere
  rw [hs]
  exact ⟨R.1, kv_t (by decide) h⟩
theorem s5_isThere_yes {Q : Int32 → Prop} (R : ku_Row a b N) (hs : σ.1 a 1 = nI n) (hn : n ≤ N) (h : Q 1) : p5_isThere σ a Q := by
  unfold p5_isThere
  rw [hs]
  have := R.2.2.2.1
  exact ⟨R.1, kv_f (by rw [kv_lt, kv_n (by omega)]; show ¬ _ < (0 : Int); omega) h⟩
theorem s5_holds_yes {Q : Int32 → Prop} (R : ku_Row a b N) (hs : σ.1 a 1 = nI n) (hn : n ≤ N) (hi : i < n) (h : Q 1) : p5_holds σ a (nI i) Q := by
  obtain ⟨r1, r2, r3, r4, r5⟩ := R
  unfold p5_holds
  rw [hs, r2, r3]
  refine ⟨r1, kv_f (by rw [kv_lt, kv_n (by omega)]; show ¬ _ < (0 : Int); omega) (kv_f ?_ (kv_f ?_ h))⟩
  · rw [kv_leN (by omega) (by omega)]; omega
  · rw [kv_o, kv_leN (by omega) (by omega)]; omega
theorem s5_holds_no {x : Int32} {Q : Int32 → Prop} (R : ku_Row a b N) (hs : σ.1 a 1 = nI n) (hn : n ≤ N) (hi : x.toInt < 0 ∨ (n : Int) ≤ x.toInt) (h : Q 0) : p5_holds σ a x Q := by
  obtain ⟨r1, r2, r3, r4, r5⟩ := R
  unfold p5_holds
  rw [hs]
  refine ⟨r1, fun _ => h, fun c => kv_t ?_ h⟩
  rw [kv_le, kv_n (by omega)]
  have c : ¬ x.toInt < 0 := fun r => c (kv_lt.mpr r)
  omega
theorem s5_get {Q : Int32 → Prop} (R : ku_Row a b N) (hs : σ.1 a 1 = nI n) (hn : n ≤ N) (hi : i < n) (h : Q (σ.1 b i)) : p5_get σ a (nI i) Q := by
  unfold p5_get
  have r4 := R.2.2.2.1
  refine ⟨R.1, s5_holds_yes R hs hn hi (kv_f (by decide) ?_)⟩
  rw [R.2.1, R.2.2.1, kv_c (by omega)]
  exact ⟨kv_in (by omega) (by omega), h⟩
theorem s5_set {v : Int32} {Q : kx_St → Prop} (R : ku_Row a b N) (hs : σ.1 a 1 = nI n) (hn : n ≤ N) (hi : i < n) (h : Q (kx_sI σ b i v)) : p5_set σ a (nI i) v Q := by
  unfold p5_set
  have r4 := R.2.2.2.1
  refine ⟨R.1, s5_holds_yes R hs hn hi (kv_f (by decide) ?_)⟩
  rw [R.2.1, R.2.2.1, kv_c (by omega)]
  exact ⟨kv_in (by omega) (by omega), h⟩
theorem s5_begin_L {v : Int32} {Q : kx_St → Prop} (R : ku_Row a b N) (hs : σ.1 a 1 = nI n) (hn : n ≤ N) (h : Q (kq_fill σ b 0 n v)) : ∀ m i, i ≤ n → n - i < m → p5_begin_L19 m (kq_fill σ b 0 i v) a v (nI i) Q := by
  have r4 := R.2.2.2.1
  intro m
  induction m with
  | zero => intro i h1 h2; omega
  | succ m ih =>
    intro i hi hm
    unfold p5_begin_L19
    have hsz : (kq_fill σ b 0 i v).1 a 1 = nI n := by rw [kq_fill_ne R.2.2.2.2]; exact hs
    by_cases hin : i = n
    · subst hin
      rw [hsz]
      exact kv_t (by rw [kv_leN (by omega) (by omega)]; omega) h
    · rw [hsz]
      refine kv_f (by rw [kv_leN (by omega) (by omega)]; omega) (s5_set R hsz hn (by omega) ?_)
      have e : kx_sI (kq_fill σ b 0 i v) b i v = kq_fill σ b 0 (i + 1) v := by
        have := kq_fillS σ b 0 i v
        rwa [Nat.zero_add] at this
      rw [e, show nI i + 1 = nI (i + 1) from nI_1 i]
      exact ih (i + 1) (by omega) (by omega)
def kq_beg (σ : kx_St) (a b n : Nat) (v : Int32) : kx_St := kq_fill (kx_sI σ a 1 (nI n)) b 0 n v
theorem s5_begin {v : Int32} {Q : kx_St → Prop} (R : ku_Row a b N) (hn : n ≤ N) (h : Q (kq_beg σ a b n v)) : p5_begin σ a (nI n) v Q := by
  have r4 := R.2.2.2.1
  unfold p5_begin
  rw [R.2.1, R.2.2.1, kv_o]
  refine ⟨R.1, ku_min (ku_max ?_)⟩
  have e1 : (if nI N < nI n then nI N else nI n) = nI n := by
    by_cases h1 : nI N < nI n
    · rw [if_pos h1]
      have := (kv_ltN (by omega) (by omega)).mp h1
      congr 1; omega
    · rw [if_neg h1]
  have e2 : (if (0 : Int32) < nI n then nI n else 0) = nI n := by
    by_cases h1 : (0 : Int32) < nI n
    · rw [if_pos h1]
    · rw [if_neg h1]
      have : ¬ 0 < n := fun q => h1 (by rw [show (0 : Int32) = nI 0 from rfl, kv_ltN (by omega) (by omega)]; exact q)
      have : n = 0 := by omega
      subst this; rfl
  rw [e1, e2]
  refine ⟨n + 1, ?_⟩
  have := s5_begin_L (σ := kx_sI σ a 1 (nI n)) (v := v) (Q := Q) R (kv_us _ _ _ _) hn h (n + 1) 0 (by omega) (by omega)
  rw [kq_fill0] at this
  exact this
end
