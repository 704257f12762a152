section
variable {σ τ σ' τ' : kx_St} {n : Nat} {kd wd hv w : Nat → Nat} {wt dc : Nat} {H : Nat → Nat → Nat}
theorem kr_R_par (h : kr_R σ τ) (h1 : ∀ a, ¬ kr_pc a → a ≠ 9 → a ≠ 11 → a ≠ 25 → a ≠ 26 → a < 80 → σ'.1 a = σ.1 a) (h5 : ∀ a, 30 ≤ a → a < 60 → σ'.1 a 5 = 0 ∨ σ'.1 a 5 = 1) (hl : σ'.2 = σ.2) (t1 : ∀ c, c ≠ 1 → τ'.1 c = τ.1 c) (tm : τ'.2 = τ.2) (p : kr_par σ' τ') : kr_R σ' τ' := by
  obtain ⟨a, b, e, d, _, f⟩ := h
  refine ⟨kr_row_fr a (fun r hr => ⟨h1 _ (by unfold kr_pc; omega) (by omega) (by omega) (by omega) (by omega) (by omega), h1 _ (by unfold kr_pc; omega) (by omega) (by omega) (by omega) (by omega) (by omega)⟩) (t1 6 (by decide)) (t1 7 (by decide)),
    kr_txt_fr b (fun r hr => ⟨h1 _ (by unfold kr_pc; omega) (by omega) (by omega) (by omega) (by omega) (by omega), h1 _ (by unfold kr_pc; omega) (by omega) (by omega) (by omega) (by omega) (by omega)⟩) (t1 8 (by decide)) (t1 9 (by decide)), ?_, ?_, p, ?_⟩
  · refine ⟨?_, fun g hg => ?_⟩
    · rw [h1 0 (by unfold kr_pc; omega) (by decide) (by decide) (by decide) (by decide) (by decide), t1 0 (by decide)]; exact e.1
    · rw [h1 28 (by unfold kr_pc; omega) (by decide) (by decide) (by decide) (by decide) (by decide), t1 10 (by decide)]; exact e.2 g hg
  · unfold kr_tld
    rw [h1 0 (by unfold kr_pc; omega) (by decide) (by decide) (by decide) (by decide) (by decide), t1 0 (by decide), hl, tm]; exact d
  · obtain ⟨⟨f1, f2, f3, f4⟩, f5⟩ := f
    have k5 : σ'.1 5 = σ.1 5 := h1 5 (by unfold kr_pc; omega) (by decide) (by decide) (by decide) (by decide) (by decide)
    refine ⟨⟨by rw [k5]; exact f1, by rw [k5]; exact f2, by rw [k5]; exact f3, fun i hi => ?_⟩, h5⟩
    rw [h1 (36 + i) (by unfold kr_pc; omega) (by omega) (by omega) (by omega) (by omega) (by omega)]; exact f4 i hi
def kq_kt (σ : kx_St) (x0 x1 : Nat) : kx_St := (fun a x => if a = x0 ∧ x < 6 then σ.1 x1 x else σ.1 a x, σ.2)
theorem s1_takeFrom {x0 x1 : Nat} {Q : kx_St → Prop} (k0 : kx_k 0 x0 = 1) (k1 : kx_k 0 x1 = 1) (ne : x1 ≠ x0) (hb : σ.1 x1 5 = 0 ∨ σ.1 x1 5 = 1) (q : Q (kq_kt σ x0 x1)) : p1_takeFrom σ x0 x1 Q := by
  unfold p1_takeFrom
  refine ⟨k0, k1, ?_⟩
  have r : ∀ (s : kx_St) (k : Nat) (v : Int32) (j : Nat), (kx_sI s x0 k v).1 x1 j = s.1 x1 j := fun s k v j => kv_un (fun z => ne z.1)
  simp only [r]
  refine ⟨hb, ?_⟩
  have e : kx_sI (kx_sI (kx_sI (kx_sI (kx_sI (kx_sI σ x0 0 (σ.1 x1 0)) x0 1 (σ.1 x1 1)) x0 2 (σ.1 x1 2)) x0 3 (σ.1 x1 3)) x0 4 (σ.1 x1 4)) x0 5 (σ.1 x1 5) = kq_kt σ x0 x1 := by
    refine Prod.ext ?_ rfl
    funext a x
    by_cases ha : a = x0
    · subst ha
      rcases (show x = 0 ∨ x = 1 ∨ x = 2 ∨ x = 3 ∨ x = 4 ∨ x = 5 ∨ 6 ≤ x by omega) with rfl | rfl | rfl | rfl | rfl | rfl | hx
      · simp [kx_sI, kq_kt]
      · simp [kx_sI, kq_kt]
      · simp [kx_sI, kq_kt]
      · simp [kx_sI, kq_kt]
      · simp [kx_sI, kq_kt]
      · simp [kx_sI, kq_kt]
      · rw [kv_un (by omega), kv_un (by omega), kv_un (by omega), kv_un (by omega), kv_un (by omega), kv_un (by omega)]
        exact (if_neg (by omega)).symm
    · rw [kv_un (by omega), kv_un (by omega), kv_un (by omega), kv_un (by omega), kv_un (by omega), kv_un (by omega)]
      exact (if_neg (by omega)).symm
  rw [e]
  exact q
/-- the PARISH j of σ' is the PARISH j' of σ; all else as it was -/
def kt_of (σ' σ : kx_St) (j j' : Nat) : Prop := (∀ x, 3 ≤ x → x < 8 → σ'.1 (4 + j) x = σ.1 (4 + j') x) ∧ (∀ x, x < 4 → σ'.1 (10 + j) x = σ.1 (10 + j') x) ∧ (∀ x, x < 40 → σ'.1 (20 + j) x = σ.1 (20 + j') x) ∧ (∀ i, i < 6 → ∀ x, x < 6 → σ'.1 (30 + 6 * j + i) x = σ.1 (30 + 6 * j' + i) x) ∧ (∀ a, a ≠ 4 + j → a ≠ 10 + j → a ≠ 20 + j → ¬ (30 + 6 * j ≤ a ∧ a < 36 + 6 * j) → σ'.1 a = σ.1 a) ∧ σ'.2 = σ.2
def kq_tkm (σ : kx_St) (j j' m : Nat) : kx_St := (fun a x => if 30 + 6 * j ≤ a ∧ a < 30 + 6 * j + m ∧ x < 6 then σ.1 (30 + 6 * j' + (a - (30 + 6 * j))) x else σ.1 a x, σ.2)
theorem kq_tkm0 (σ : kx_St) (j j' : Nat) : kq_tkm σ j j' 0 = σ := by
  refine Prod.ext ?_ rfl
  funext a x
  exact if_neg (by omega)
theorem kq_tkmS (σ : kx_St) {j j' m : Nat} (ne : j ≠ j') (hm : m < 6) : kq_kt (kq_tkm σ j j' m) (30 + 6 * j + m) (30 + 6 * j' + m) = kq_tkm σ j j' (m + 1) := by
  refine Prod.ext ?_ rfl
  funext a x
  simp only [kq_kt, kq_tkm]
  by_cases h1 : a = 30 + 6 * j + m ∧ x < 6
  · rw [if_pos h1, if_neg (by omega), if_pos (by omega), h1.1, show 30 + 6 * j' + (30 + 6 * j + m - (30 + 6 * j)) = 30 + 6 * j' + m by omega]
  · rw [if_neg h1]
    by_cases h2 : 30 + 6 * j ≤ a ∧ a < 30 + 6 * j + m ∧ x < 6
    · rw [if_pos h2, if_pos (by omega)]
    · rw [if_neg h2, if_neg (by omega)]
theorem s3_takeFrom {j j' : Nat} {Q : kx_St → Prop} (hj : j < 5) (hj' : j' < 5) (ne : j ≠ j') (hb : ∀ i, i < 6 → σ.1 (30 + 6 * j' + i) 5 = 0 ∨ σ.1 (30 + 6 * j' + i) 5 = 1) (q : ∀ σ', kt_of σ' σ j j' → Q σ') : p3_takeFrom σ (4 + j) (4 + j') Q := by
  obtain ⟨k1, r0, r1, r2, l0, l1, l2⟩ := ky_par j hj
  obtain ⟨k1', r0', r1', r2', l0', l1', l2'⟩ := ky_par j' hj'
  unfold p3_takeFrom
  rw [r0, r0', r2, r2', l0, l0', l2, l2']
  refine ⟨k1, k1', (by decide : 0 + 4 ≤ 4), (by decide : 0 + 4 ≤ 4), (by decide : 0 + 40 ≤ 40), (by decide : 0 + 40 ≤ 40), 7, ?_⟩
  have hs : ∃ s, s = kx_cp (kx_cp σ (10 + j') (10 + j) 0 0 4) (20 + j') (20 + j) 0 0 40 := ⟨_, rfl⟩
  obtain ⟨s, hs⟩ := hs
  have s1 : ∀ a, a ≠ 10 + j → a ≠ 20 + j → s.1 a = σ.1 a := fun a h1 h2 => by
    rw [hs]; funext x; simp [kx_cp, h1, h2]
  have s10 : ∀ x, x < 4 → s.1 (10 + j) x = σ.1 (10 + j') x := fun x hx => by
    rw [hs]
    show (if 10 + j = 20 + j then _ else if 10 + j = 10 + j then va_cpy (σ.1 (10 + j')) (σ.1 (10 + j)) 0 0 4 x else _) = _
    rw [if_neg (by omega), if_pos rfl, pk_cpy_in (by omega) (by omega)]
    exact congrArg _ (by omega)
  have s20 : ∀ x, x < 40 → s.1 (20 + j) x = σ.1 (20 + j') x := fun x hx => by
    rw [hs]
    show (if 20 + j = 20 + j then va_cpy ((kx_cp σ (10 + j') (10 + j) 0 0 4).1 (20 + j')) ((kx_cp σ (10 + j') (10 + j) 0 0 4).1 (20 + j)) 0 0 40 x else _) = _
    rw [if_pos rfl, pk_cpy_in (by omega) (by omega)]
    show (if 20 + j' = 10 + j then _ else σ.1 (20 + j') (0 + (x - 0))) = _
    rw [if_neg (by omega)]
    exact congrArg _ (by omega)
  have s2 : s.2 = σ.2 := by rw [hs]; rfl
  have L : ∀ f m, m ≤ 6 → 6 - m < f → p3_takeFrom_L31 f (kq_tkm s j j' m) (4 + j) (4 + j') (nI m) Q := by
    intro f
    induction f with
    | zero => intro m h1 h2; omega
    | succ f ih =>
      intro m hm hf
      unfold p3_takeFrom_L31
      rw [r1, r1', l1, l1']
      by_cases h6 : m = 6
      · subst h6
        refine kv_t (by decide) ?_
        have r : ∀ (s : kx_St) (k : Nat) (v : Int32) (x : Nat), (kx_sI s (4 + j) k v).1 (4 + j') x = s.1 (4 + j') x := fun s k v x => kv_un (by omega)
        simp only [r]
        have g4 : ∀ a x, ¬ (30 + 6 * j ≤ a ∧ a < 36 + 6 * j) → (kq_tkm s j j' 6).1 a x = s.1 a x := fun a x ha => if_neg (by omega)
        have g4' : ∀ x, (kq_tkm s j j' 6).1 (4 + j') x = σ.1 (4 + j') x := fun x => by rw [g4 _ _ (by omega), s1 _ (by omega) (by omega)]
        refine q _ ⟨fun x h3 h8 => ?_, fun x hx => ?_, fun x hx => ?_, fun i hi x hx => ?_, fun a a1 a2 a3 a4 => ?_, s2⟩
        · rcases (show x = 3 ∨ x = 4 ∨ x = 5 ∨ x = 6 ∨ x = 7 by omega) with rfl | rfl | rfl | rfl | rfl
          · rw [kv_un (by omega), kv_un (by omega), kv_un (by omega), kv_un (by omega), kv_us, g4']
          · rw [kv_un (by omega), kv_un (by omega), kv_un (by omega), kv_us, g4']
          · rw [kv_un (by omega), kv_un (by omega), kv_us, g4']
          · rw [kv_un (by omega), kv_us, g4']
          · rw [kv_us, g4']
        · rw [kv_un (by omega), kv_un (by omega), kv_un (by omega), kv_un (by omega), kv_un (by omega), g4 _ _ (by omega), s10 x hx]
        · rw [kv_un (by omega), kv_un (by omega), kv_un (by omega), kv_un (by omega), kv_un (by omega), g4 _ _ (by omega), s20 x hx]
        · rw [kv_un (by omega), kv_un (by omega), kv_un (by omega), kv_un (by omega), kv_un (by omega)]
          have : (kq_tkm s j j' 6).1 (30 + 6 * j + i) x = s.1 (30 + 6 * j' + (30 + 6 * j + i - (30 + 6 * j))) x := if_pos (by omega)
          rw [this, s1 _ (by omega) (by omega), show 30 + 6 * j' + (30 + 6 * j + i - (30 + 6 * j)) = 30 + 6 * j' + i by omega]
        · rw [kv_ua a1, kv_ua a1, kv_ua a1, kv_ua a1, kv_ua a1]
          funext x
          rw [g4 _ _ a4, s1 _ a2 a3]
      · have m6 : m < 6 := by omega
        refine kv_f (by show ¬ nI 6 ≤ nI m; rw [kv_leN (by omega) (by omega)]; omega) ⟨kv_in m6 (by decide), kv_in m6 (by decide), ?_⟩
        rw [kv_c (by omega), (ky_kit j hj m m6).2, (ky_kit j' hj' m m6).2]
        have g5 : (kq_tkm s j j' m).1 (30 + 6 * j' + m) 5 = σ.1 (30 + 6 * j' + m) 5 := by
          have : (kq_tkm s j j' m).1 (30 + 6 * j' + m) 5 = s.1 (30 + 6 * j' + m) 5 := if_neg (by omega)
          rw [this, s1 _ (by omega) (by omega)]
        refine s1_takeFrom (ky_kit j hj m m6).1 (ky_kit j' hj' m m6).1 (by omega) (by rw [g5]; exact hb m m6) ?_
        rw [kq_tkmS s ne m6, show nI m + 1 = nI (m + 1) from nI_1 m]
        exact ih (m + 1) (by omega) (by omega)
  have := L 7 0 (by omega) (by omega)
  rw [kq_tkm0, hs] at this
  exact this
def kq_c6 (τ : kx_St) (s d len : Nat) : kx_St := (fun c x => if c = 1 ∧ d ≤ x ∧ x < d + len then τ.1 1 (s + (x - d)) else τ.1 c x, τ.2)
theorem kq_c6_at (τ : kx_St) (s d len c x : Nat) : (kq_c6 τ s d len).1 c x = if c = 1 ∧ d ≤ x ∧ x < d + len then τ.1 1 (s + (x - d)) else τ.1 c x := rfl
theorem kq_c60 (τ : kx_St) (s d : Nat) : kq_c6 τ s d 0 = τ := by
  refine Prod.ext ?_ rfl
  funext c x
  exact if_neg (by omega)
theorem kq_c6S (τ : kx_St) (s d len : Nat) : kx_sI (kq_c6 τ s d len) 1 (d + len) (τ.1 1 (s + len)) = kq_c6 τ s d (len + 1) := by
  refine Prod.ext ?_ rfl
  funext c x
  simp only [kx_sI, kq_c6]
  by_cases h1 : c = 1 ∧ x = d + len
  · rw [if_pos h1, if_pos (by omega)]
    exact congrArg (τ.1 1) (by omega)
  · rw [if_neg h1]
    by_cases h2 : c = 1 ∧ d ≤ x ∧ x < d + len
    · rw [if_pos h2, if_pos (by omega)]
    · rw [if_neg h2, if_neg (by omega)]
theorem s7_copyParish {s d : Nat} {S D : Int32} {Q : kx_St → Prop} (hS : S = nI s) (hD : D = nI d) (hs : s ≤ 1848) (hd : d ≤ 1848) (dis : s + 616 ≤ d ∨ d + 616 ≤ s) (q : Q (kq_c6 τ s d 616)) : p7_copyParish τ S D Q := by
  subst hS hD
  have L : ∀ f m, m ≤ 616 → 616 - m < f → p7_copyParish_L2 f (kq_c6 τ s d m) (nI s) (nI d) (nI m) Q := by
    intro f
    induction f with
    | zero => intro m h1 h2; omega
    | succ f ih =>
      intro m hm hf
      unfold p7_copyParish_L2
      by_cases h6 : m = 616
      · subst h6
        exact kv_t (by decide) q
      · refine kv_f (by show ¬ nI 616 ≤ nI m; rw [kv_leN (by omega) (by omega)]; omega) ?_
        rw [kv_add, kv_add, kv_c (by omega), kv_c (by omega), show nI m + 1 = nI (m + 1) from nI_1 m]
        refine ⟨kv_in (by omega) (by decide), kv_in (by omega) (by decide), ?_⟩
        have e : (kq_c6 τ s d m).1 1 (s + m) = τ.1 1 (s + m) := if_neg (by omega)
        show p7_copyParish_L2 f (kx_sI (kq_c6 τ s d m) 1 (d + m) ((kq_c6 τ s d m).1 1 (s + m))) (nI s) (nI d) (nI (m + 1)) Q
        rw [e, kq_c6S]
        exact ih (m + 1) (by omega) (by omega)
  have := L 617 0 (by omega) (by omega)
  rw [kq_c60] at this
  exact ⟨617, this⟩
theorem kc_sta_cp {j j' : Nat} (hn : n ≤ 6) (T : kt_of σ' σ j j') (h : kc_sta σ j' n kd wd hv w wt) : kc_sta σ' j n kd wd hv w wt := by
  obtain ⟨a, b, c, d⟩ := h
  obtain ⟨t1, t2, t3, t4, _⟩ := T
  refine ⟨by rw [t1 3 (by omega) (by omega)]; exact a, by rw [t1 4 (by omega) (by omega)]; exact b, fun x hx => by rw [t2 x hx]; exact c x hx, fun i hi => ?_⟩
  rw [t4 i (by omega) 0 (by omega), t4 i (by omega) 1 (by omega), t4 i (by omega) 2 (by omega)]
  exact d i hi
theorem kr_his_cp {j j' b b' : Nat} (hn : n ≤ 6) (T : kt_of σ' σ j j') (h5 : ∀ k, k < 616 → τ'.1 1 (b + k) = τ.1 1 (b' + k)) (h : kr_his σ τ j' b' n dc H) : kr_his σ' τ' j b n dc H := by
  obtain ⟨a, ⟨c1, c2, c3, c4⟩, ⟨m1, m2, m3⟩, e, f⟩ := h
  obtain ⟨t1, t2, t3, t4, _⟩ := T
  refine ⟨a, ⟨by rw [t1 5 (by omega) (by omega)]; exact c1, by rw [t1 6 (by omega) (by omega)]; exact c2, by rw [t1 7 (by omega) (by omega)]; exact c3, fun i hi => ?_⟩, ⟨(h5 0 (by omega)).trans m1, fun k hk => ?_, fun d hd k hk => ?_⟩, e, fun d hd => ?_⟩
  · rw [t4 i (by omega) 3 (by omega), t4 i (by omega) 4 (by omega), t4 i (by omega) 5 (by omega)]
    exact c4 i hi
  · have := m2 k hk
    rw [show b' + 1 + k = b' + (1 + k) by omega, ← h5 _ (by omega)] at this
    rwa [show b + 1 + k = b + (1 + k) by omega]
  · have := m3 d hd k hk
    rw [show b' + 16 + 15 * d + k = b' + (16 + 15 * d + k) by omega, ← h5 _ (by omega)] at this
    rwa [show b + 16 + 15 * d + k = b + (16 + 15 * d + k) by omega]
  · rw [t3 d (by omega)]; exact f d hd
theorem ky_kept : ∀ k, k < 3 → kx_r 0 3 k = 4 + (2 + k) := by decide +kernel
theorem kv_616 {k : Nat} : (616 : Int32) * (1 + nI k) = nI (616 * (k + 1)) := by
  rw [show (1 : Int32) + nI k = nI (1 + k) from kv_add 1 k, show (616 : Int32) = nI 616 from rfl, kv_mul, Nat.add_comm 1 k]
theorem kt_bool {j j' : Nat} (hj : j < 5) (hj' : j' < 5) (T : kt_of σ' σ j j') (h : ∀ a, 30 ≤ a → a < 60 → σ.1 a 5 = 0 ∨ σ.1 a 5 = 1) : ∀ a, 30 ≤ a → a < 60 → σ'.1 a 5 = 0 ∨ σ'.1 a 5 = 1 := by
  intro a ha hb
  obtain ⟨_, _, _, t4, t5, _⟩ := T
  by_cases hq : 30 + 6 * j ≤ a ∧ a < 36 + 6 * j
  · have := t4 (a - (30 + 6 * j)) (by omega) 5 (by omega)
    rw [show 30 + 6 * j + (a - (30 + 6 * j)) = a by omega] at this
    rw [this]
    exact h _ (by omega) (by omega)
  · rw [t5 a (by omega) (by omega) (by omega) hq]; exact h a ha hb
theorem kr_keep (h : kr_R σ τ) (N : kr_now σ τ n kd wd hv w wt dc H) (K : kr_kep σ τ n kd wd hv w wt) (n0 : 0 < n) {k : Nat} (hk : k < 3) (T : kt_of σ' σ (2 + k) 0) : kr_R σ' (kq_c6 τ 0 (616 * (k + 1)) 616) := by
  have n6 := kn_n6 N
  have T' := T
  obtain ⟨t1, t2, t3, t4, t5, t6⟩ := T'
  have m1 : ∀ x, x < 616 → (kq_c6 τ 0 (616 * (k + 1)) 616).1 1 (616 * (k + 1) + x) = τ.1 1 (0 + x) := fun x hx => by
    have : (kq_c6 τ 0 (616 * (k + 1)) 616).1 1 (616 * (k + 1) + x) = τ.1 1 (0 + (616 * (k + 1) + x - 616 * (k + 1))) := if_pos (by omega)
    rw [this, show 616 * (k + 1) + x - 616 * (k + 1) = x by omega]
  have m2 : ∀ x, ¬ (616 * (k + 1) ≤ x ∧ x < 616 * (k + 1) + 616) → (kq_c6 τ 0 (616 * (k + 1)) 616).1 1 x = τ.1 1 x := fun x hx => if_neg (by omega)
  have m3 : ∀ c, c ≠ 1 → (kq_c6 τ 0 (616 * (k + 1)) 616).1 c = τ.1 c := fun c hc => by funext x; exact if_neg (by omega)
  refine kr_R_par h (fun a ha _ _ _ _ _ => t5 a (by unfold kr_pc at ha; omega) (by unfold kr_pc at ha; omega) (by unfold kr_pc at ha; omega) (by unfold kr_pc at ha; omega)) (kt_bool (by omega) (by decide) T h.2.2.2.2.2.2) t6 m3 rfl ⟨n, kd, wd, hv, w, wt, dc, H, ?_, ?_⟩
  · obtain ⟨a, b, c, d⟩ := N
    have q : ∀ a, a = 4 ∨ a = 10 ∨ a = 20 ∨ (30 ≤ a ∧ a < 36) → ∀ x, σ'.1 a x = σ.1 a x := fun a ha x => by rw [t5 a (by omega) (by omega) (by omega) (by omega)]
    exact ⟨a, kc_sta_fr b (q _ (by omega) _) (q _ (by omega) _) (t5 10 (by omega) (by omega) (by omega) (by omega)) (fun i hi x _ => q _ (by omega) _), km_sta_fr c (by rw [m3 0 (by decide)]) (by rw [m3 0 (by decide)]) (fun c q1 q2 => m3 c (by omega)), kr_his_fr d (fun x _ _ => q _ (by omega) _) (fun i hi x _ _ => q _ (by omega) _) (t5 20 (by omega) (by omega) (by omega) (by omega)) (fun x hx => m2 _ (by omega))⟩
  · intro k' hk'
    by_cases e : k' = k
    · subst e
      exact Or.inr ⟨n0, kc_sta_cp n6 T N.2.1, dc, H, kr_his_cp n6 T m1 N.2.2.2⟩
    · have q : ∀ a, a = 6 + k' ∨ a = 4 + (2 + k') ∨ a = 10 + (2 + k') ∨ a = 20 + (2 + k') ∨ (30 + 6 * (2 + k') ≤ a ∧ a < 36 + 6 * (2 + k')) → ∀ x, σ'.1 a x = σ.1 a x := fun a ha x => by rw [t5 a (by omega) (by omega) (by omega) (by omega)]
      rcases K k' hk' with ⟨a, b⟩ | ⟨a, b, dc', H', c⟩
      · exact Or.inl ⟨by rw [q _ (by omega)]; exact a, by rw [m2 _ (by omega)]; exact b⟩
      · exact Or.inr ⟨a, kc_sta_fr b (q _ (by omega) _) (q _ (by omega) _) (t5 _ (by omega) (by omega) (by omega) (by omega)) (fun i hi x _ => q _ (by omega) _), dc', H', kr_his_fr c (fun x _ _ => q _ (by omega) _) (fun i hi x _ _ => q _ (by omega) _) (t5 _ (by omega) (by omega) (by omega) (by omega)) (fun x hx => m2 _ (by omega))⟩
theorem kr_on (h : kr_R σ τ) (N : kr_now σ τ n kd wd hv w wt dc H) (K : kr_kep σ τ n kd wd hv w wt) {k dc' : Nat} {H' : Nat → Nat → Nat} (hk : k < 3) (S : kc_sta σ (2 + k) n kd wd hv w wt) (Hs : kr_his σ τ (2 + k) (616 * (k + 1)) n dc' H') (T : kt_of σ' σ 0 (2 + k)) : kr_R σ' (kq_c6 τ (616 * (k + 1)) 0 616) := by
  have n6 := kn_n6 N
  have T' := T
  obtain ⟨t1, t2, t3, t4, t5, t6⟩ := T'
  have m1 : ∀ x, x < 616 → (kq_c6 τ (616 * (k + 1)) 0 616).1 1 (0 + x) = τ.1 1 (616 * (k + 1) + x) := fun x hx => by
    have : (kq_c6 τ (616 * (k + 1)) 0 616).1 1 (0 + x) = τ.1 1 (616 * (k + 1) + (0 + x - 0)) := if_pos (by omega)
    rw [this, show 0 + x - 0 = x by omega]
  have m2 : ∀ x, 616 ≤ x → (kq_c6 τ (616 * (k + 1)) 0 616).1 1 x = τ.1 1 x := fun x hx => if_neg (by omega)
  have m3 : ∀ c, c ≠ 1 → (kq_c6 τ (616 * (k + 1)) 0 616).1 c = τ.1 c := fun c hc => by funext x; exact if_neg (by omega)
  refine kr_R_par h (fun a ha _ _ _ _ _ => t5 a (by unfold kr_pc at ha; omega) (by unfold kr_pc at ha; omega) (by unfold kr_pc at ha; omega) (by unfold kr_pc at ha; omega)) (kt_bool (by decide) (by omega) T h.2.2.2.2.2.2) t6 m3 rfl ⟨n, kd, wd, hv, w, wt, dc', H', ?_, ?_⟩
  · exact ⟨N.1, kc_sta_cp n6 T S, km_sta_fr N.2.2.1 (by rw [m3 0 (by decide)]) (by rw [m3 0 (by decide)]) (fun c q1 q2 => m3 c (by omega)), kr_his_cp n6 T m1 Hs⟩
  · exact kr_kep_fr K n6 (fun a ha a1 a2 a3 a4 => t5 a a1 a2 a3 (by omega)) (fun x hx _ => m2 x hx)
theorem th_keep (σ τ : kx_St) (h : kr_R σ τ) : lt_keep kr_R σ τ := by
  obtain ⟨n, kd, wd, hv, w, wt, dc, H, N, K⟩ := h.2.2.2.2.1
  intro a0
  unfold p6_keep
  have n6 := kn_n6 N
  have hmn := kn_mn N
  rcases kv_arg a0 3 with ⟨k, hk, rfl⟩ | ho
  · have g2 : nI k < (Int32.ofNat 3) := by show nI k < nI 3; rw [kv_ltN (by omega) (by omega)]; exact hk
    by_cases h0 : n = 0
    · subst h0
      exact ⟨-4, kv_f (kv_ge (by omega)) (kv_t g2 (s3_isEmpty (j := 0) (by decide) (kn_cn N) n6 (fun q => absurd q (by decide)) (fun _ => kv_f (by decide) ⟨rfl, s7_rng_in (N := 2) rfl hk (by decide) (kv_F (by decide) (kv_T hmn ⟨rfl, h⟩))⟩)))⟩
    · have m0 : ¬ τ.1 0 3 = 0 := by rw [hmn]; exact fun q => h0 ((kv_inj (by omega) (by decide)).mp q)
      refine ⟨nI dc, kv_f (kv_ge (by omega)) (kv_t g2 (s3_isEmpty (j := 0) (by decide) (kn_cn N) n6 (fun _ => kv_t rfl ⟨kv_in hk (by decide), ?_⟩) (fun q => absurd q h0)))⟩
      rw [kv_c (by omega), ky_kept k hk]
      refine s3_takeFrom (j := 2 + k) (j' := 0) (by omega) (by decide) (by omega) (fun i hi => h.2.2.2.2.2.2 _ (by omega) (by omega)) (fun σ' T => ⟨?_, s7_rng_in (N := 2) rfl hk (by decide) (kv_F (by decide) (kv_F m0 (s7_copyParish (s := 0) (d := 616 * (k + 1)) rfl kv_616 (by omega) (by omega) (Or.inl (by omega)) ⟨?_, kr_keep h N K (by omega) hk T⟩)))⟩)
      · rw [T.2.2.2.2.1 4 (by omega) (by omega) (by omega) (by omega)]; exact kn_cd N
      · show (kq_c6 τ 0 (616 * (k + 1)) 616).1 1 0 = _
        have e : (kq_c6 τ 0 (616 * (k + 1)) 616).1 1 0 = τ.1 1 0 := by rw [kq_c6_at, if_neg (by omega)]
        exact e.trans (kn_md N)
  · have m : p7_keep τ a0 (fun w q => q = -1 ∧ kr_R σ w) := s7_rng_out (N := 2) rfl ho (kv_T rfl ⟨rfl, h⟩)
    refine ⟨-1, fun _ => ⟨rfl, m⟩, fun c => kv_f ?_ ⟨rfl, m⟩⟩
    show ¬ a0 < nI 3
    have c : ¬ a0.toInt < 0 := fun r => c (kv_lt.mpr r)
    rw [kv_lt, kv_n (by omega)]; omega
theorem th_on (σ τ : kx_St) (h : kr_R σ τ) : lt_on kr_R σ τ := by
  obtain ⟨n, kd, wd, hv, w, wt, dc, H, N, K⟩ := h.2.2.2.2.1
  intro a0
  unfold p6_on
  have n6 := kn_n6 N
  rcases kv_arg a0 3 with ⟨k, hk, rfl⟩ | ho
  · have g2 : nI k < (Int32.ofNat 3) := by show nI k < nI 3; rw [kv_ltN (by omega) (by omega)]; exact hk
    have z : (616 : Int32) * (1 + nI k) + 0 = nI (616 * (k + 1)) := by rw [kv_616]; exact kv_add _ 0
    have R : ∀ {Q : kx_St → Int32 → Prop}, ((0 ≤ τ.1 1 (616 * (k + 1)) → p7_copyParish τ (616 * (1 + nI k)) 0 (fun σ6 => Q σ6 (σ6.1 1 (0 : Int32).toNatClampNeg))) ∧ (¬ 0 ≤ τ.1 1 (616 * (k + 1)) → p7_find τ 1 (fun σ8 r7 => Q σ8 r7))) → p7_on τ (nI k) Q := by
      intro Q q
      unfold p7_on
      rw [z, kv_c (show 616 * (k + 1) < 2147483648 by omega)]
      exact s7_rng_in (N := 2) rfl hk (by decide) (kv_F (by decide) ⟨kv_in (by omega) (by decide), q⟩)
    rcases K k hk with ⟨a, b⟩ | ⟨a, b, dc', H', c⟩
    · refine ⟨-3, kv_f (kv_ge (by omega)) (kv_t g2 ⟨kv_in hk (by decide), ?_⟩)⟩
      rw [kv_c (by omega), ky_kept k hk]
      refine s3_isEmpty (n := 0) (j := 2 + k) (by omega) (by rw [show 4 + (2 + k) = 6 + k by omega]; exact a) (by omega) (fun q => absurd q (by decide)) (fun _ => kv_f (by decide) (s6_found (f := 1) rfl (by decide) ⟨rfl, R (kv_f (by rw [b]; decide) (s7_find (f := 1) rfl (by decide) ⟨rfl, kr_found h (by decide)⟩))⟩))
    · have hd40 : dc' ≤ 40 := c.1
      have hm : τ.1 1 (616 * (k + 1)) = nI dc' := c.2.2.1.1
      refine ⟨nI dc', kv_f (kv_ge (by omega)) (kv_t g2 ⟨kv_in hk (by decide), ?_⟩)⟩
      rw [kv_c (by omega), ky_kept k hk]
      refine s3_isEmpty (n := n) (j := 2 + k) (by omega) b.1 n6 (fun _ => kv_t rfl ⟨kv_in hk (by decide), ?_⟩) (fun q => by omega)
      refine s3_takeFrom (j := 0) (j' := 2 + k) (by decide) (by omega) (by omega) (fun i hi => h.2.2.2.2.2.2 _ (by omega) (by omega)) (fun σ' T => ⟨?_, R (kv_t (by rw [hm]; exact kv_ge0 (by omega)) (s7_copyParish (s := 616 * (k + 1)) (d := 0) kv_616 rfl (by omega) (by omega) (Or.inr (by omega)) ⟨?_, kr_on h N K hk b c T⟩))⟩)
      · exact (T.1 6 (by omega) (by omega)).trans c.2.1.2.1
      · show (kq_c6 τ (616 * (k + 1)) 0 616).1 1 0 = _
        have e : (kq_c6 τ (616 * (k + 1)) 0 616).1 1 0 = τ.1 1 (616 * (k + 1) + (0 - 0)) := by rw [kq_c6_at, if_pos (by omega)]
        exact e.trans hm
  · have m : p7_on τ a0 (fun w q => q = -1 ∧ kr_R σ w) := s7_rng_out (N := 2) rfl ho (kv_T rfl ⟨rfl, h⟩)
    refine ⟨-1, fun _ => ⟨rfl, m⟩, fun c => kv_f ?_ ⟨rfl, m⟩⟩
    show ¬ a0 < nI 3
    have c : ¬ a0.toInt < 0 := fun r => c (kv_lt.mpr r)
    rw [kv_lt, kv_n (by omega)]; omega
end
