section
variable {σ τ : kx_St} {n : Nat} {kd wd hv w : Nat → Nat} {wt dc : Nat} {H : Nat → Nat → Nat}
theorem s6_fits {a b N m ka k wi t : Nat} {Q : Int32 → Prop} (kk : kx_k 0 ka = 1) (hw : σ.1 ka 1 = nI wi) (k5 : k < 6) (w9 : wi < 10) (t3 : t < 4) (R : ku_Row a b N) (hs : σ.1 a 1 = nI m) (hm : m ≤ N) (h2 : m % 2 = 0) (O : ∀ j, j < m → ks_ok (σ.1 b) j) (q1 : ks_so k wi t (σ.1 b) m → Q 1) (q0 : ¬ ks_so k wi t (σ.1 b) m → Q 0) : p6_fits σ ka (nI k) (nI t) a Q :=
  ⟨kk, R.1, m + 1, s6_fits_L kk hw k5 w9 t3 R hs hm h2 O q1 q0 (m + 1) 0 (by omega) (by omega) (fun j hj => by omega)⟩
theorem s7_isSo {r m k wi t : Nat} {p : Nat → Int32} {Q : Int32 → Prop} (k5 : k < 6) (w9 : wi < 10) (t3 : t < 4) (hr : r < 6) (hs : τ.1 6 r = nI m) (hm : m ≤ 40) (h2 : m % 2 = 0) (hp : ∀ j, j < m → τ.1 7 (40 * r + j) = p j) (O : ∀ j, j < m → ks_ok p j) (q1 : ks_so k wi t p m → Q 1) (q0 : ¬ ks_so k wi t p m → Q 0) : p7_isSo τ (nI k) (nI wi) (nI t) (nI r) Q :=
  ⟨m + 1, s7_isSo_1 k5 w9 t3 hr hs hm h2 hp O q1 q0 (m + 1) 0 (by omega) (by omega) (fun j hj => by omega)⟩
/-- which of the first m hold, as bits -/
noncomputable def ks_set (b : Nat → Prop) : Nat → Int32
  | 0 => 0
  | m + 1 => ks_set b m ||| (if Classical.propDecidable (b m) |>.decide then (1 : Int32) <<< (nI m &&& 31) else 0)
theorem ks_set_t {b : Nat → Prop} {m : Nat} (h : b m) : ks_set b (m + 1) = ks_set b m ||| ((1 : Int32) <<< (nI m &&& 31)) := by
  have : (Classical.propDecidable (b m)).decide = true := by
    cases hh : Classical.propDecidable (b m) with
    | isTrue _ => rfl
    | isFalse z => exact absurd h z
  rw [ks_set, this]
  rfl
theorem ks_set_f {b : Nat → Prop} {m : Nat} (h : ¬ b m) : ks_set b (m + 1) = ks_set b m ||| 0 := by
  have : (Classical.propDecidable (b m)).decide = false := by
    cases hh : Classical.propDecidable (b m) with
    | isTrue z => exact absurd z h
    | isFalse _ => rfl
  rw [ks_set, this]
  rfl
/-- how a call that takes a KITE and a row of pairs begins, on both sides -/
theorem kr_pairs_c (h : kr_R σ τ) {r : Nat} (hr : r < 6) : (∃ f, (f = 1 ∨ f = 3 ∨ f = 5) ∧ (∀ Q : Int32 → Prop, Q (nI f) → p6_findingOfPairs σ (60 + r) Q) ∧ ∀ Q : kx_St → Int32 → Prop, Q (kq_g τ f) (-3) → p7_noPairs τ (nI r) Q) ∨ (∃ m, m ≤ 40 ∧ m % 2 = 0 ∧ σ.1 (60 + r) 1 = nI m ∧ τ.1 6 r = nI m ∧ (∀ j, j < m → τ.1 7 (40 * r + j) = σ.1 (70 + r) j) ∧ (∀ j, j < m → ks_ok (σ.1 (70 + r)) j) ∧ (∀ Q : Int32 → Prop, Q 0 → p6_findingOfPairs σ (60 + r) Q) ∧ ∀ Q : kx_St → Int32 → Prop, Q τ 0 → p7_noPairs τ (nI r) Q) := by
  have R := ku_row hr
  obtain ⟨e1, e2⟩ := h.1 r hr
  rcases e2 with e2 | ⟨m, hm, e2, e3⟩
  · refine Or.inl ⟨1, Or.inl rfl, fun Q q => ⟨R.1, s5_isThere_no R e2 (kv_T rfl q)⟩, fun Q q => ?_⟩
    unfold p7_noPairs
    rw [kv_c (by omega), e1, e2]
    exact ⟨kv_in hr (by decide), kv_f (by decide) (s7_find (f := 1) rfl (by decide) q)⟩
  · have z2 : nI m - nI m / 2 * 2 = nI (m % 2) := by rw [show (2 : Int32) = nI 2 from rfl, kv_rem (by omega) (by decide) (by decide)]
    by_cases h2 : m % 2 = 0
    · by_cases O : ∀ j, j < m → ks_ok (σ.1 (70 + r)) j
      · refine Or.inr ⟨m, hm, h2, e2, e1.trans e2, e3, O, fun Q q => ⟨R.1, s5_isThere_yes R e2 hm (kv_F (by decide) ?_)⟩, fun Q q => ?_⟩
        · rw [e2, z2, h2]
          exact kv_t rfl ⟨m + 1, s6_pairs_L R e2 hm h2 (fun _ => q) (fun z => absurd O z) (m + 1) 0 (by omega) (by omega) (fun j hj => by omega)⟩
        · unfold p7_noPairs
          rw [kv_c (by omega), e1, e2, z2, h2]
          exact ⟨kv_in hr (by decide), kv_t (kv_ge0 (by omega)) ⟨kv_in hr (by decide), kv_F (by decide) ⟨m + 1, s7_pairs_1 hr (e1.trans e2) hm e3 (fun _ => q) (fun z => absurd O z) (m + 1) 0 (by omega) (by omega) (fun i hi => by omega)⟩⟩⟩
      · refine Or.inl ⟨3, Or.inr (Or.inl rfl), fun Q q => ⟨R.1, s5_isThere_yes R e2 hm (kv_F (by decide) ?_)⟩, fun Q q => ?_⟩
        · rw [e2, z2, h2]
          exact kv_t rfl ⟨m + 1, s6_pairs_L R e2 hm h2 (fun z => absurd z O) (fun _ => q) (m + 1) 0 (by omega) (by omega) (fun j hj => by omega)⟩
        · unfold p7_noPairs
          rw [kv_c (by omega), e1, e2, z2, h2]
          exact ⟨kv_in hr (by decide), kv_t (kv_ge0 (by omega)) ⟨kv_in hr (by decide), kv_F (by decide) ⟨m + 1, s7_pairs_1 hr (e1.trans e2) hm e3 (fun z => absurd z O) (fun _ => q) (m + 1) 0 (by omega) (by omega) (fun i hi => by omega)⟩⟩⟩
    · have h1 : m % 2 = 1 := by omega
      refine Or.inl ⟨5, Or.inr (Or.inr rfl), fun Q q => ⟨R.1, s5_isThere_yes R e2 hm (kv_F (by decide) ?_)⟩, fun Q q => ?_⟩
      · rw [e2, z2, h1]
        exact kv_f (by decide) q
      · unfold p7_noPairs
        rw [kv_c (by omega), e1, e2, z2, h1]
        exact ⟨kv_in hr (by decide), kv_t (kv_ge0 (by omega)) ⟨kv_in hr (by decide), kv_T (by decide) (s7_find (f := 5) rfl (by decide) q)⟩⟩
theorem s6_tails_L (N : kr_now σ τ n kd wd hv w wt dc H) {i r m : Nat} {Q : kx_St → Int32 → Prop} (hi : i < n) (hr : r < 6) (hs : σ.1 (60 + r) 1 = nI m) (hm : m ≤ 40) (h2 : m % 2 = 0) (O : ∀ j, j < m → ks_ok (σ.1 (70 + r)) j) (q : Q σ (ks_set (fun t => ks_so (kd i) (wd i) t (σ.1 (70 + r)) m) 4)) : ∀ f t, t ≤ 4 → 4 - t < f → p6_tails_L55 f σ (30 + i) (60 + r) (ks_set (fun t => ks_so (kd i) (wd i) t (σ.1 (70 + r)) m) t) (nI t) Q := by
  obtain ⟨kk, e0, ew, _, _, k5, w9, _, _⟩ := kn_K N hi
  intro f
  induction f with
  | zero => intro t h1 h2; omega
  | succ f ih =>
    intro t ht hf
    unfold p6_tails_L55
    by_cases h4 : t = 4
    · subst h4; exact kv_t (by decide) q
    · have nx := ih (t + 1) (by omega) (by omega)
      rw [e0, show nI t + 1 = nI (t + 1) from nI_1 _]
      refine kv_f (by show ¬ nI 4 ≤ nI t; rw [kv_leN (by omega) (by omega)]; omega) (s6_fits kk ew k5 w9 (by omega) (ku_row hr) hs hm h2 O (fun c => kv_f (by decide) ?_) (fun c => kv_t rfl ?_))
      · rw [ks_set_t (b := fun t => ks_so (kd i) (wd i) t (σ.1 (70 + r)) m) c] at nx; exact nx
      · rw [ks_set_f (b := fun t => ks_so (kd i) (wd i) t (σ.1 (70 + r)) m) c] at nx; exact nx
theorem s7_tails_L (N : kr_now σ τ n kd wd hv w wt dc H) {i r m : Nat} {p : Nat → Int32} {Q : kx_St → Int32 → Prop} (hi : i < n) (hr : r < 6) (hs : τ.1 6 r = nI m) (hm : m ≤ 40) (h2 : m % 2 = 0) (hp : ∀ j, j < m → τ.1 7 (40 * r + j) = p j) (O : ∀ j, j < m → ks_ok p j) (q : Q τ (ks_set (fun t => ks_so (kd i) (wd i) t p m) 4)) : ∀ f t, t ≤ 4 → 4 - t < f → p7_tails_L35 f τ (nI i) (nI r) (ks_set (fun t => ks_so (kd i) (wd i) t p m) t) (nI t) Q := by
  obtain ⟨i6, _, e0, ew, _, _, k5, w9, _, _⟩ := kn_M N hi
  intro f
  induction f with
  | zero => intro t h1 h2; omega
  | succ f ih =>
    intro t ht hf
    unfold p7_tails_L35
    by_cases h4 : t = 4
    · subst h4; exact kv_t (by decide) q
    · have nx := ih (t + 1) (by omega) (by omega)
      rw [kv_c (by omega), e0, ew, show nI t + 1 = nI (t + 1) from nI_1 _]
      refine kv_f (by show ¬ nI 4 ≤ nI t; rw [kv_leN (by omega) (by omega)]; omega) ⟨kv_in i6 (by decide), kv_in i6 (by decide), s7_isSo k5 w9 (by omega) hr hs hm h2 hp O (fun c => kv_f (by decide) ?_) (fun c => kv_t rfl ?_)⟩
      · rw [ks_set_t (b := fun t => ks_so (kd i) (wd i) t p m) c] at nx; exact nx
      · rw [ks_set_f (b := fun t => ks_so (kd i) (wd i) t p m) c] at nx; exact nx
theorem th_tails (σ τ : kx_St) (h : kr_R σ τ) : lt_tails kr_R σ τ := by
  obtain ⟨n, kd, wd, hv, w, wt, dc, H, N, K⟩ := h.2.2.2.2.1
  intro a0 a1
  unfold p6_tails p7_tails
  rcases kv_arg a0 n with ⟨i, hi, rfl⟩ | ho
  · rcases kv_arg a1 6 with ⟨r, hr, rfl⟩ | hr
    · rcases kr_pairs_c h hr with ⟨f, hf, A, B⟩ | ⟨m, hm, h2, es, et, hp, O, A, B⟩
      · have f6 : f < 6 := by omega
        have f0 : ¬ nI f = 0 := fun e => by have := (kv_inj (b := 0) (by omega) (by decide)).mp e; omega
        exact ⟨-3, s3_kite_in N hi (kv_some ⟨(kn_K N hi).1, s6_pick1_in hr (kv_some ⟨(ku_row hr).1, A _ (kv_f f0 (s6_found rfl f6 ⟨rfl, s7_kite_in N hi (kv_f (by decide) (s7_isRow_in hr (kv_F (by decide) (B _ (kv_f (by decide) ⟨rfl, kr_found h f6⟩)))))⟩))⟩)⟩)⟩
      · exact ⟨_, s3_kite_in N hi (kv_some ⟨(kn_K N hi).1, s6_pick1_in hr (kv_some ⟨(ku_row hr).1, A _ (kv_t rfl ⟨5, s6_tails_L N hi hr es hm h2 O ⟨rfl, s7_kite_in N hi (kv_f (by decide) (s7_isRow_in hr (kv_F (by decide) (B _ (kv_t rfl ⟨5, s7_tails_L N hi hr et hm h2 hp O ⟨rfl, h⟩ 5 0 (by omega) (by omega)⟩)))))⟩ 5 0 (by omega) (by omega)⟩)⟩)⟩)⟩
    · exact ⟨-1, s3_kite_in N hi (kv_some ⟨(kn_K N hi).1, s6_pick1_out hr (kv_none ⟨rfl, s7_kite_in N hi (kv_f (by decide) (s7_isRow_out hr (kv_T rfl ⟨rfl, h⟩)))⟩)⟩)⟩
  · have m : p7_isKite τ a0 (fun r1 => (r1 = 0 → (-1 : Int32) = -1 ∧ kr_R σ τ) ∧ (¬ r1 = 0 → p7_isRow a1 (fun r3 => (¬ r3 = 0 → p7_noPairs τ a1 (fun σ6 r5 => (r5 = 0 → ∃ m35, p7_tails_L35 m35 σ6 a0 a1 0 0 (fun w q => q = -1 ∧ kr_R σ w)) ∧ (¬ r5 = 0 → r5 = -1 ∧ kr_R σ σ6))) ∧ (r3 = 0 → (-1 : Int32) = -1 ∧ kr_R σ τ)))) := s7_kite_out N ho (kv_t rfl ⟨rfl, h⟩)
    exact ⟨-1, s3_kite_out N ho (kv_none (s6_pick1_any (kv_none ⟨rfl, m⟩) (fun k hk => kv_some ⟨(ku_row hk).1, rfl, m⟩)))⟩
theorem s6_kinds_L (N : kr_now σ τ n kd wd hv w wt dc H) {i r m : Nat} {Q : Int32 → Prop} (hi : i < n) (hr : r < 6) (hs : σ.1 (60 + r) 1 = nI m) (hm : m ≤ 40) (h2 : m % 2 = 0) (O : ∀ j, j < m → ks_ok (σ.1 (70 + r)) j) (q : Q (ks_set (fun k => ks_so k (wd i) (H dc (3 + i)) (σ.1 (70 + r)) m) 6)) : ∀ f k, k ≤ 6 → 6 - k < f → p6_fittingKinds_L4 f σ (30 + i) (60 + r) (ks_set (fun k => ks_so k (wd i) (H dc (3 + i)) (σ.1 (70 + r)) m) k) (nI k) Q := by
  obtain ⟨kk, _, ew, _, e3, _, w9, _, t3⟩ := kn_K N hi
  intro f
  induction f with
  | zero => intro k h1 h2; omega
  | succ f ih =>
    intro k hk hf
    unfold p6_fittingKinds_L4
    by_cases h4 : k = 6
    · subst h4; exact kv_t (by decide) q
    · have nx := ih (k + 1) (by omega) (by omega)
      rw [e3, show nI k + 1 = nI (k + 1) from nI_1 _]
      refine kv_f (by show ¬ nI 6 ≤ nI k; rw [kv_leN (by omega) (by omega)]; omega) (s6_fits kk ew (by omega) w9 t3 (ku_row hr) hs hm h2 O (fun c => kv_f (by decide) ?_) (fun c => kv_t rfl ?_))
      · rw [ks_set_t (b := fun k => ks_so k (wd i) (H dc (3 + i)) (σ.1 (70 + r)) m) c] at nx; exact nx
      · rw [ks_set_f (b := fun k => ks_so k (wd i) (H dc (3 + i)) (σ.1 (70 + r)) m) c] at nx; exact nx
theorem s7_kinds_L (N : kr_now σ τ n kd wd hv w wt dc H) {i r m : Nat} {p : Nat → Int32} {Q : Int32 → Prop} (hi : i < n) (hr : r < 6) (hs : τ.1 6 r = nI m) (hm : m ≤ 40) (h2 : m % 2 = 0) (hp : ∀ j, j < m → τ.1 7 (40 * r + j) = p j) (O : ∀ j, j < m → ks_ok p j) (q : Q (ks_set (fun k => ks_so k (wd i) (H dc (3 + i)) p m) 6)) : ∀ f k, k ≤ 6 → 6 - k < f → p7_kindsBy_L5 f τ (nI i) (nI r) (ks_set (fun k => ks_so k (wd i) (H dc (3 + i)) p m) k) (nI k) Q := by
  obtain ⟨i6, _, _, ew, _, _, _, w9, _, t3⟩ := kn_M N hi
  intro f
  induction f with
  | zero => intro k h1 h2; omega
  | succ f ih =>
    intro k hk hf
    unfold p7_kindsBy_L5
    by_cases h4 : k = 6
    · subst h4; exact kv_t (by decide) q
    · have nx := ih (k + 1) (by omega) (by omega)
      rw [show (4 : Int32) + nI i = nI (4 + i) from kv_add 4 i, kv_c (show i < 2147483648 by omega), kv_c (show 4 + i < 2147483648 by omega), ew, kn_Mc N hi, show nI k + 1 = nI (k + 1) from nI_1 _]
      refine kv_f (by show ¬ nI 6 ≤ nI k; rw [kv_leN (by omega) (by omega)]; omega) ⟨kv_in i6 (by decide), kv_in (by omega) (by decide), s7_isSo (by omega) w9 t3 hr hs hm h2 hp O (fun c => kv_f (by decide) ?_) (fun c => kv_t rfl ?_)⟩
      · rw [ks_set_t (b := fun k => ks_so k (wd i) (H dc (3 + i)) p m) c] at nx; exact nx
      · rw [ks_set_f (b := fun k => ks_so k (wd i) (H dc (3 + i)) p m) c] at nx; exact nx
theorem th_kinds (σ τ : kx_St) (h : kr_R σ τ) : lt_kinds kr_R σ τ := by
  obtain ⟨n, kd, wd, hv, w, wt, dc, H, N, K⟩ := h.2.2.2.2.1
  intro a0 a1
  unfold p6_kinds p7_kinds
  rcases kv_arg a0 n with ⟨i, hi, rfl⟩ | ho
  · rcases kv_arg a1 6 with ⟨r, hr, rfl⟩ | hr
    · rcases kr_pairs_c h hr with ⟨f, hf, A, B⟩ | ⟨m, hm, h2, es, et, hp, O, A, B⟩
      · have f6 : f < 6 := by omega
        have f0 : ¬ nI f = 0 := fun e => by have := (kv_inj (b := 0) (by omega) (by decide)).mp e; omega
        exact ⟨-3, s3_kite_in N hi (kv_some ⟨(kn_K N hi).1, s6_pick1_in hr (kv_some ⟨(ku_row hr).1, A _ (kv_f f0 (s6_found rfl f6 ⟨rfl, s7_kite_in N hi (kv_f (by decide) (s7_isRow_in hr (kv_F (by decide) (B _ (kv_f (by decide) ⟨rfl, kr_found h f6⟩)))))⟩))⟩)⟩)⟩
      · exact ⟨_, s3_kite_in N hi (kv_some ⟨(kn_K N hi).1, s6_pick1_in hr (kv_some ⟨(ku_row hr).1, A _ (kv_t rfl ⟨(kn_K N hi).1, (ku_row hr).1, 7, s6_kinds_L N hi hr es hm h2 O ⟨rfl, s7_kite_in N hi (kv_f (by decide) (s7_isRow_in hr (kv_F (by decide) (B _ (kv_t rfl ⟨7, s7_kinds_L N hi hr et hm h2 hp O ⟨rfl, h⟩ 7 0 (by omega) (by omega)⟩)))))⟩ 7 0 (by omega) (by omega)⟩)⟩)⟩)⟩
    · exact ⟨-1, s3_kite_in N hi (kv_some ⟨(kn_K N hi).1, s6_pick1_out hr (kv_none ⟨rfl, s7_kite_in N hi (kv_f (by decide) (s7_isRow_out hr (kv_T rfl ⟨rfl, h⟩)))⟩)⟩)⟩
  · have m : p7_kinds τ a0 a1 (fun w q => q = -1 ∧ kr_R σ w) := s7_kite_out N ho (kv_t rfl ⟨rfl, h⟩)
    exact ⟨-1, s3_kite_out N ho (kv_none (s6_pick1_any (kv_none ⟨rfl, m⟩) (fun k hk => kv_some ⟨(ku_row hk).1, rfl, m⟩)))⟩
end
