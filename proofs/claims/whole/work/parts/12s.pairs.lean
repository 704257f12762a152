section
variable {σ τ : kx_St} {n : Nat} {kd wd hv w : Nat → Nat} {wt dc : Nat} {H : Nat → Nat → Nat}
/-- place j of a row of pairs is as it must be -/
def ks_ok (p : Nat → Int32) (j : Nat) : Prop := 0 ≤ (p j).toInt ∧ (p j).toInt ≤ (if j % 2 = 0 then 9 else 99)
theorem s6_pairs_L {a b N m : Nat} {Q : Int32 → Prop} (R : ku_Row a b N) (hs : σ.1 a 1 = nI m) (hm : m ≤ N) (h2 : m % 2 = 0) (q0 : (∀ j, j < m → ks_ok (σ.1 b) j) → Q 0) (q3 : (¬ ∀ j, j < m → ks_ok (σ.1 b) j) → Q 3) : ∀ f k, 2 * k ≤ m → m - 2 * k < f → (∀ j, j < 2 * k → ks_ok (σ.1 b) j) → p6_findingOfPairs_L22 f σ a (nI (2 * k)) Q := by
  have r4 := R.2.2.2.1
  intro f
  induction f with
  | zero => intro k h1 h2; omega
  | succ f ih =>
    intro k h1 hf O
    unfold p6_findingOfPairs_L22
    rw [hs]
    by_cases he : 2 * k = m
    · subst he
      exact kv_t (by rw [kv_leN (by omega) (by omega)]; omega) (q0 O)
    · refine kv_f (by rw [kv_leN (by omega) (by omega)]; omega) ?_
      rw [show nI (2 * k) + 1 = nI (2 * k + 1) from nI_1 _, show nI (2 * k) + 2 = nI (2 * (k + 1)) from kv_add (2 * k) 2]
      refine s5_get R hs hm (by omega) (s5_get R hs hm (by omega) ?_)
      have bad0 : ¬ ks_ok (σ.1 b) (2 * k) → Q 3 := fun z => q3 (fun o => z (o _ (by omega)))
      have bad1 : ¬ ks_ok (σ.1 b) (2 * k + 1) → Q 3 := fun z => q3 (fun o => z (o _ (by omega)))
      have e0 : ks_ok (σ.1 b) (2 * k) ↔ (0 ≤ (σ.1 b (2 * k)).toInt ∧ (σ.1 b (2 * k)).toInt ≤ 9) := by
        unfold ks_ok; rw [if_pos (by omega)]
      have e1 : ks_ok (σ.1 b) (2 * k + 1) ↔ (0 ≤ (σ.1 b (2 * k + 1)).toInt ∧ (σ.1 b (2 * k + 1)).toInt ≤ 99) := by
        unfold ks_ok; rw [if_neg (by omega)]
      rcases kv_arg (σ.1 b (2 * k)) 10 with ⟨x, hx, hxe⟩ | ho
      · rw [hxe]
        refine s6_isWind_in hx (kv_f (by decide) ⟨fun c => bad1 ?_, fun c => ⟨fun d => ?_, fun d => bad1 ?_⟩⟩)
        · rw [e1]; have c : (σ.1 b (2 * k + 1)).toInt < (0 : Int) := kv_lt.mp c; omega
        · refine ih (k + 1) (by omega) (by omega) (fun j hj => ?_)
          by_cases j0 : j < 2 * k
          · exact O j j0
          · by_cases j1 : j = 2 * k
            · subst j1
              rw [e0, hxe, kv_n (by omega)]; omega
            · have : j = 2 * k + 1 := by omega
              subst this
              rw [e1]
              have c : ¬ (σ.1 b (2 * k + 1)).toInt < (0 : Int) := fun r => c (kv_lt.mpr r)
              have d : (σ.1 b (2 * k + 1)).toInt ≤ (99 : Int) := kv_le.mp d
              omega
        · rw [e1]; have d : ¬ (σ.1 b (2 * k + 1)).toInt ≤ (99 : Int) := fun r => d (kv_le.mpr r); omega
      · exact s6_isWind_out ho (kv_t rfl (bad0 (by rw [e0]; omega)))
theorem s7_pairs_0 {r m : Nat} {Q : kx_St → Int32 → Prop} (hr : r < 6) (hs : τ.1 6 r = nI m) (hm : m ≤ 40) (q : Q (kq_g τ 3) (-3)) : ∀ f j, j ≤ m → m - j < f → p7_noPairs_L37 f τ (nI r) 0 (nI j) Q := by
  intro f
  induction f with
  | zero => intro j h1 h2; omega
  | succ f ih =>
    intro j h1 hf
    unfold p7_noPairs_L37
    rw [kv_c (by omega), hs]
    refine ⟨kv_in hr (by decide), ?_⟩
    by_cases he : j = m
    · subst he
      exact kv_t (by rw [kv_leN (by omega) (by omega)]; omega) (kv_t rfl (s7_find (f := 3) rfl (by decide) q))
    · refine kv_f (by rw [kv_leN (by omega) (by omega)]; omega) (kv_t rfl ?_)
      rw [show nI j + 1 = nI (j + 1) from nI_1 _]
      exact ih (j + 1) (by omega) (by omega)
theorem s7_pairs_1 {r m : Nat} {p : Nat → Int32} {Q : kx_St → Int32 → Prop} (hr : r < 6) (hs : τ.1 6 r = nI m) (hm : m ≤ 40) (hp : ∀ j, j < m → τ.1 7 (40 * r + j) = p j) (q0 : (∀ j, j < m → ks_ok p j) → Q τ 0) (q3 : (¬ ∀ j, j < m → ks_ok p j) → Q (kq_g τ 3) (-3)) : ∀ f j, j ≤ m → m - j < f → (∀ i, i < j → ks_ok p i) → p7_noPairs_L37 f τ (nI r) 1 (nI j) Q := by
  intro f
  induction f with
  | zero => intro j h1 h2; omega
  | succ f ih =>
    intro j h1 hf O
    unfold p7_noPairs_L37
    rw [kv_c (show r < 2147483648 by omega), hs]
    refine ⟨kv_in hr (by decide), ?_⟩
    by_cases he : j = m
    · subst he
      exact kv_t (by rw [kv_leN (by omega) (by omega)]; omega) (kv_f (by decide) (q0 O))
    · refine kv_f (by rw [kv_leN (by omega) (by omega)]; omega) (kv_f (by decide) ?_)
      rw [kv_40, kv_c (by omega), hp j (by omega), show (2 : Int32) = nI 2 from rfl, kv_rem (by omega) (by decide) (by decide)]
      refine ⟨kv_in (by omega) (by decide), ?_⟩
      have good : ks_ok p j → p7_noPairs_L37 f τ (nI r) 1 (nI (j + 1)) Q := fun z => ih (j + 1) (by omega) (by omega) (fun i hi => by
        by_cases e : i = j
        · subst e; exact z
        · exact O i (by omega))
      have bad : ¬ ks_ok p j → p7_noPairs_L37 f τ (nI r) 0 (nI (j + 1)) Q := fun z => s7_pairs_0 hr hs hm (q3 (fun o => z (o j (by omega)))) f (j + 1) (by omega) (by omega)
      have st : ∀ hi : Int64, hi.toInt = (if j % 2 = 0 then 9 else 99) → p7_noPairs_J79 τ (nI r) (nI j) (p j).toInt64 0 hi (fun σ x1 x2 x3 => p7_noPairs_L37 f σ x1 x2 x3 Q) Q := by
        intro hi hh
        unfold p7_noPairs_J79
        rw [show nI j + 1 = nI (j + 1) from nI_1 _]
        refine s7_in (fun c => kv_f (by decide) (good ?_)) (fun c => kv_t rfl (bad ?_))
        · rw [kv_l, hh] at c; exact c
        · rw [kv_l, hh] at c; exact c
      refine ⟨fun c => st 99 ?_, fun c => st 9 ?_⟩
      · have : ¬ j % 2 = 0 := fun r => c ((kv_inj (b := 0) (by omega) (by decide)).mpr r)
        rw [if_neg this]; rfl
      · have : j % 2 = 0 := (kv_inj (b := 0) (by omega) (by decide)).mp c
        rw [if_pos this]; rfl
/-- what holds of a row that is a row of pairs: winds y, what LIFTS z -/
def ks_so (k wi t : Nat) (p : Nat → Int32) (m : Nat) : Prop := ∀ j, j < m → j % 2 = 0 → nI (ku_lift k wi t (p j).toNatClampNeg) = p (j + 1)
theorem ks_wind {p : Nat → Int32} {j : Nat} (h : ks_ok p j) (hj : j % 2 = 0) : ∃ x, x < 10 ∧ p j = nI x ∧ (p j).toNatClampNeg = x := by
  unfold ks_ok at h
  rw [if_pos hj] at h
  rcases kv_arg (p j) 10 with ⟨x, hx, e⟩ | ho
  · exact ⟨x, hx, e, by rw [e, kv_c (by omega)]⟩
  · omega
theorem s6_fits_L {a b N m ka k wi t : Nat} {Q : Int32 → Prop} (kk : kx_k 0 ka = 1) (hw : σ.1 ka 1 = nI wi) (k5 : k < 6) (w9 : wi < 10) (t3 : t < 4) (R : ku_Row a b N) (hs : σ.1 a 1 = nI m) (hm : m ≤ N) (h2 : m % 2 = 0) (O : ∀ j, j < m → ks_ok (σ.1 b) j) (q1 : ks_so k wi t (σ.1 b) m → Q 1) (q0 : ¬ ks_so k wi t (σ.1 b) m → Q 0) : ∀ f i, 2 * i ≤ m → m - 2 * i < f → ks_so k wi t (σ.1 b) (2 * i) → p6_fits_L3 f σ ka (nI k) (nI t) a (nI (2 * i)) Q := by
  have r4 := R.2.2.2.1
  intro f
  induction f with
  | zero => intro i h1 h2; omega
  | succ f ih =>
    intro i h1 hf S
    unfold p6_fits_L3
    rw [hs]
    by_cases he : 2 * i = m
    · subst he
      exact kv_t (by rw [kv_leN (by omega) (by omega)]; omega) (q1 S)
    · refine kv_f (by rw [kv_leN (by omega) (by omega)]; omega) ?_
      rw [show nI (2 * i) + 1 = nI (2 * i + 1) from nI_1 _, show nI (2 * i) + 2 = nI (2 * (i + 1)) from kv_add (2 * i) 2]
      obtain ⟨x, hx, e, e'⟩ := ks_wind (O (2 * i) (by omega)) (by omega)
      refine s5_get R hs hm (by omega) ?_
      rw [e]
      refine s1_liftAs kk hw k5 w9 t3 hx (s5_get R hs hm (by omega) ⟨fun c => ih (i + 1) (by omega) (by omega) (fun j hj hj2 => ?_), fun c => q0 (fun s => c ?_)⟩)
      · by_cases j0 : j < 2 * i
        · exact S j j0 hj2
        · have : j = 2 * i := by omega
          subst this
          rw [e']; exact c
      · have := s (2 * i) (by omega) (by omega)
        rw [e'] at this; exact this
theorem s7_isSo_0 {r m : Nat} {x1 x2 x3 : Int32} {Q : Int32 → Prop} (hr : r < 6) (hs : τ.1 6 r = nI m) (hm : m ≤ 40) (h2 : m % 2 = 0) (q : Q 0) : ∀ f i, 2 * i ≤ m → m - 2 * i < f → p7_isSo_L6 f τ x1 x2 x3 (nI r) 0 (nI (2 * i)) Q := by
  intro f
  induction f with
  | zero => intro i h1 h2; omega
  | succ f ih =>
    intro i h1 hf
    unfold p7_isSo_L6
    rw [kv_c (by omega), hs]
    refine ⟨kv_in hr (by decide), ?_⟩
    by_cases he : 2 * i = m
    · subst he
      exact kv_t (by rw [kv_leN (by omega) (by omega)]; omega) ⟨Or.inl rfl, q⟩
    · refine kv_f (by rw [kv_leN (by omega) (by omega)]; omega) (kv_t rfl ?_)
      rw [show nI (2 * i) + 2 = nI (2 * (i + 1)) from kv_add (2 * i) 2]
      exact ih (i + 1) (by omega) (by omega)
theorem s7_isSo_1 {r m k wi t : Nat} {p : Nat → Int32} {Q : Int32 → Prop} (k5 : k < 6) (w9 : wi < 10) (t3 : t < 4) (hr : r < 6) (hs : τ.1 6 r = nI m) (hm : m ≤ 40) (h2 : m % 2 = 0) (hp : ∀ j, j < m → τ.1 7 (40 * r + j) = p j) (O : ∀ j, j < m → ks_ok p j) (q1 : ks_so k wi t p m → Q 1) (q0 : ¬ ks_so k wi t p m → Q 0) : ∀ f i, 2 * i ≤ m → m - 2 * i < f → ks_so k wi t p (2 * i) → p7_isSo_L6 f τ (nI k) (nI wi) (nI t) (nI r) 1 (nI (2 * i)) Q := by
  intro f
  induction f with
  | zero => intro i h1 h2; omega
  | succ f ih =>
    intro i h1 hf S
    unfold p7_isSo_L6
    rw [kv_c (show r < 2147483648 by omega), hs]
    refine ⟨kv_in hr (by decide), ?_⟩
    by_cases he : 2 * i = m
    · subst he
      exact kv_t (by rw [kv_leN (by omega) (by omega)]; omega) ⟨Or.inr rfl, q1 S⟩
    · refine kv_f (by rw [kv_leN (by omega) (by omega)]; omega) (kv_f (by decide) ?_)
      obtain ⟨x, hx, e, e'⟩ := ks_wind (O (2 * i) (by omega)) (by omega)
      rw [kv_40, show nI (40 * r + 2 * i) + 1 = nI (40 * r + (2 * i + 1)) from nI_1 _, show nI (2 * i) + 2 = nI (2 * (i + 1)) from kv_add (2 * i) 2, kv_c (by omega), kv_c (by omega), hp (2 * i) (by omega), hp (2 * i + 1) (by omega), e]
      refine ⟨kv_in (by omega) (by decide), s7_liftsBy k5 w9 t3 hx ⟨kv_in (by omega) (by decide), fun c => ?_, fun c => ?_⟩⟩
      · exact s7_isSo_0 hr hs hm h2 (q0 (fun s => c (by have := s (2 * i) (by omega) (by omega); rw [e'] at this; exact this))) f (i + 1) (by omega) (by omega)
      · refine ih (i + 1) (by omega) (by omega) (fun j hj hj2 => ?_)
        by_cases j0 : j < 2 * i
        · exact S j j0 hj2
        · have : j = 2 * i := by omega
          subst this
          rw [e']; exact c
end
