section
variable {σ τ s t s' t' : kx_St} {r m : Nat}
def kg_k1 (s t : kx_St) (x k wi hi ta : Nat) : Prop := (k < 6 ∧ wi < 10 ∧ hi < 10 ∧ ta < 4) ∧ (s.1 (36 + x) 0 = nI k ∧ s.1 (36 + x) 1 = nI wi ∧ s.1 (36 + x) 2 = nI hi ∧ s.1 (36 + x) 3 = nI ta) ∧ t.1 12 (4 * x) = nI k ∧ t.1 12 (4 * x + 1) = nI wi ∧ t.1 12 (4 * x + 2) = nI hi ∧ t.1 12 (4 * x + 3) = nI ta
def kg_kk (s t : kx_St) (i : Nat) : Prop := ∀ x, x < i → ∃ k wi hi ta, kg_k1 s t x k wi hi ta
theorem kg_ks_ne (s : kx_St) (i k wi hi ta : Nat) {a : Nat} (h : a ≠ 36 + i) : (kg_ks s i k wi hi ta).1 a = s.1 a := by
  unfold kg_ks
  rw [kv_ua h, kv_ua h, kv_ua h, kv_ua h]
theorem kg_kt_c (t : kx_St) (i k wi hi ta : Nat) {a : Nat} (h : a ≠ 0) (h2 : a ≠ 12) : (kg_kt t i k wi hi ta).1 a = t.1 a := by
  unfold kg_kt
  rw [kv_ua h, kv_ua h2, kv_ua h2, kv_ua h2, kv_ua h2]
theorem kg_kk_S {i : Nat} (K : kg_kk s t i) {k wi hi ta : Nat} (b : k < 6 ∧ wi < 10 ∧ hi < 10 ∧ ta < 4) : kg_kk (kg_ks s i k wi hi ta) (kg_kt t i k wi hi ta) (i + 1) := by
  intro x hx
  by_cases e : x = i
  · subst e
    refine ⟨k, wi, hi, ta, b, ⟨?_, ?_, ?_, ?_⟩, ?_, ?_, ?_, ?_⟩
    · unfold kg_ks; rw [kv_un (by omega), kv_un (by omega), kv_un (by omega), kv_us]
    · unfold kg_ks; rw [kv_un (by omega), kv_un (by omega), kv_us]
    · unfold kg_ks; rw [kv_un (by omega), kv_us]
    · unfold kg_ks; rw [kv_us]
    · unfold kg_kt; rw [kv_un (by omega), kv_un (by omega), kv_un (by omega), kv_un (by omega), kv_us]
    · unfold kg_kt; rw [kv_un (by omega), kv_un (by omega), kv_un (by omega), kv_us]
    · unfold kg_kt; rw [kv_un (by omega), kv_un (by omega), kv_us]
    · unfold kg_kt; rw [kv_un (by omega), kv_us]
  · obtain ⟨k', wi', hi', ta', a1, ⟨a2, a3, a4, a5⟩, a6, a7, a8, a9⟩ := K x (by omega)
    have q : ∀ j, j < 4 * i → (kg_kt t i k wi hi ta).1 12 j = t.1 12 j := fun j hj => by
      unfold kg_kt
      rw [kv_un (by omega), kv_un (by omega), kv_un (by omega), kv_un (by omega), kv_un (by omega)]
    refine ⟨k', wi', hi', ta', a1, ?_, ?_⟩
    · rw [kg_ks_ne s i k wi hi ta (by omega)]
      exact ⟨a2, a3, a4, a5⟩
    · rw [q _ (by omega), q _ (by omega), q _ (by omega), q _ (by omega)]
      exact ⟨a6, a7, a8, a9⟩
theorem kg_kk_fr {i : Nat} (K : kg_kk s t i) (h1 : ∀ x, x < i → s'.1 (36 + x) = s.1 (36 + x)) (h2 : t'.1 12 = t.1 12) : kg_kk s' t' i := fun x hx => by
  obtain ⟨k, wi, hi, ta, a⟩ := K x hx
  refine ⟨k, wi, hi, ta, ?_⟩
  unfold kg_k1
  rw [h1 x hx, h2]
  exact a
theorem kr_kites : ∀ d i s t j, i + d = 6 → kg_C s t r m → j ≤ m → s.1 5 3 = nI i → t.1 0 22 = nI i → kg_kk s t i → ∃ (b v : Int32) (j' : Nat) (s' t' : kx_St), kg_c2 s s' ∧ kg_m2 t t' ∧ (∀ Q : kx_St → Int32 → Prop, Q (kg_s s' j') b → p4_readKites_L12 (d + 1) (kg_s s j) 9 (66 + r) 5 (nI i) Q) ∧ (∀ Q : kx_St → Int32 → Prop, Q (kg_t t' j') v → p7_faultOf_L41 (d + 2) (kg_t t j) 1 Q) ∧ ((b = 0 ∧ v = nI j' ∧ j' ≤ m) ∨ (b = 1 ∧ v = -9 ∧ ∃ n, 0 < n ∧ n ≤ 6 ∧ s'.1 5 3 = nI n ∧ t'.1 0 22 = nI n ∧ kg_kk s' t' n)) := by
  have r16 : kx_r 0 5 1 = 16 := by decide
  have l6 : kx_l 0 16 = 6 := by decide
  have endm : ∀ (d i : Nat) (s t : kx_St) (j : Nat), i ≤ 6 → kg_C s t r m → j = m → s.1 5 3 = nI i → t.1 0 22 = nI i → kg_kk s t i → (∀ Q : kx_St → Int32 → Prop, p4_readKites_J69 (kg_s s j) 9 (66 + r) 5 Q → p4_readKites_L12 (d + 1) (kg_s s j) 9 (66 + r) 5 (nI i) Q) → (∀ Q : kx_St → Int32 → Prop, p7_faultOf_J72 (kg_t t j) 1 Q → p7_faultOf_L41 (d + 2) (kg_t t j) 1 Q) → ∃ (b v : Int32) (j' : Nat) (s' t' : kx_St), kg_c2 s s' ∧ kg_m2 t t' ∧ (∀ Q : kx_St → Int32 → Prop, Q (kg_s s' j') b → p4_readKites_L12 (d + 1) (kg_s s j) 9 (66 + r) 5 (nI i) Q) ∧ (∀ Q : kx_St → Int32 → Prop, Q (kg_t t' j') v → p7_faultOf_L41 (d + 2) (kg_t t j) 1 Q) ∧ ((b = 0 ∧ v = nI j' ∧ j' ≤ m) ∨ (b = 1 ∧ v = -9 ∧ ∃ n, 0 < n ∧ n ≤ 6 ∧ s'.1 5 3 = nI n ∧ t'.1 0 22 = nI n ∧ kg_kk s' t' n)) := by
    intro d i s t j hi C hj e3 e22 K A1 A2
    subst hj
    have x3 : (kg_s s j).1 5 3 = nI i := by rw [kg_sa s j (by decide)]; exact e3
    have x22 : (kg_t t j).1 0 22 = nI i := (kg_t0 t j (by decide)).trans e22
    by_cases i0 : i = 0
    · refine ⟨0, nI j, j, s, t, kg_c2_refl s, kg_m2_refl t, fun Q q => A1 Q ?_, fun Q q => A2 Q ?_, Or.inl ⟨rfl, rfl, Nat.le_refl _⟩⟩
      · unfold p4_readKites_J69
        rw [x3, i0]
        exact kv_t (by decide) q
      · unfold p7_faultOf_J72
        rw [x22, i0, kg_tp]
        exact kv_f (by decide) (kv_t (by decide) q)
    · have g0 : ¬ nI i ≤ 0 := by rw [kv_le0 (by omega)]; exact i0
      refine ⟨1, -9, j, s, t, kg_c2_refl s, kg_m2_refl t, fun Q q => A1 Q ?_, fun Q q => A2 Q ?_, Or.inr ⟨rfl, rfl, i, by omega, hi, e3, e22, K⟩⟩
      · unfold p4_readKites_J69
        rw [x3, kg_sp, kg_sz C]
        exact kv_f g0 (kv_T rfl q)
      · unfold p7_faultOf_J72
        rw [x22]
        exact kv_f (by decide) (kv_f g0 q)
  intro d
  induction d with
  | zero =>
    intro i s t j hi C hj e3 e22 K
    obtain rfl : i = 6 := by omega
    have m60 := C.2.1
    have h18 : (kg_t t j).1 0 18 = nI m := (kg_t0 t j (by decide)).trans C.2.2.2.2.2
    have A1 : ∀ Q : kx_St → Int32 → Prop, p4_readKites_J69 (kg_s s j) 9 (66 + r) 5 Q → p4_readKites_L12 (0 + 1) (kg_s s j) 9 (66 + r) 5 (nI 6) Q := by
      intro Q q
      rw [p4_readKites_L12, r16, l6]
      exact kv_t (by decide) q
    by_cases hm : j = m
    · refine endm 0 6 s t j (by decide) C hm e3 e22 K A1 (fun Q q => ?_)
      rw [p7_faultOf_L41, h18, kg_tp]
      exact kv_f (by decide) (kv_t (by rw [kv_leN (by omega) (by omega)]; omega) q)
    · -- a seventh KITE
      refine ⟨0, nI j, j, s, t, kg_c2_refl s, kg_m2_refl t, fun Q q => A1 Q ?_, fun Q q => ?_, Or.inl ⟨rfl, rfl, hj⟩⟩
      · unfold p4_readKites_J69
        rw [kg_sa s j (by decide), e3, kg_sp, kg_sa s j (by omega), C.2.2.1]
        exact kv_f (by decide) (kv_F (fun e => hm ((kv_inj (by omega) (by omega)).mp e)) q)
      · rw [p7_faultOf_L41, h18, kg_tp]
        have F : p7_faultOf_L41 (0 + 1) (kg_t t j) 0 Q := by
          rw [p7_faultOf_L41]
          refine kv_t rfl ?_
          unfold p7_faultOf_J72
          rw [kg_tp]
          exact kv_t rfl q
        refine kv_f (by decide) (kv_f (by rw [kv_leN (by omega) (by omega)]; omega) (kg_here C (by omega) ?_))
        rw [kg_t0 t j (by decide), e22]
        rcases kg_kind (s.1 (76 + r) j) with ⟨k, k6, f1, f2⟩ | ⟨f1, f2⟩
        · exact f2 _ (kv_f (kg_n9 (by omega)) (kv_T rfl (kv_t rfl F)))
        · exact f2 _ (kv_t rfl (kv_t rfl F))
  | succ d ih =>
    intro i s t j hi C hj e3 e22 K
    have m60 := C.2.1
    have i6 : i < 6 := by omega
    have h18 : (kg_t t j).1 0 18 = nI m := (kg_t0 t j (by decide)).trans C.2.2.2.2.2
    have g6 : ¬ Int32.ofNat 6 ≤ nI i := by show ¬ nI 6 ≤ nI i; rw [kv_leN (by omega) (by omega)]; omega
    by_cases hm : j = m
    · refine endm (d + 1) i s t j (by omega) C hm e3 e22 K (fun Q q => ?_) (fun Q q => ?_)
      · rw [p4_readKites_L12, r16, l6, kg_sz C, kg_sp]
        exact kv_f g6 (kv_t (by rw [kv_leN (by omega) (by omega)]; omega) q)
      · rw [p7_faultOf_L41, h18, kg_tp]
        exact kv_f (by decide) (kv_t (by rw [kv_leN (by omega) (by omega)]; omega) q)
    · have nle : ¬ nI m ≤ nI j := by rw [kv_leN (by omega) (by omega)]; omega
      have A1 : ∀ Q : kx_St → Int32 → Prop, p4_readKite (kg_s s j) 9 (66 + r) (36 + i) (fun σ5 r4 => (¬ r4 = 0 → (fun σ7 : kx_St => p4_skipBlanks σ7 9 (66 + r) (fun σ9 => p4_readKites_L12 (d + 1) σ9 9 (66 + r) 5 (nI (i + 1)) Q)) (kx_sI σ5 5 3 ((σ5.1 5 3) + (1 : Int32)))) ∧ (r4 = 0 → Q σ5 (0 : Int32))) → p4_readKites_L12 (d + 1 + 1) (kg_s s j) 9 (66 + r) 5 (nI i) Q := by
        intro Q q
        rw [p4_readKites_L12, r16, l6, kg_sz C, kg_sp, kv_c (by omega), (ky_d i i6).2, show nI i + 1 = nI (i + 1) from nI_1 _]
        exact kv_f g6 (kv_f nle ⟨kv_in i6 (by decide), q⟩)
      have A2 : ∀ Q : kx_St → Int32 → Prop, p7_readsKite (kg_t t j) (fun σ4 r3 => (r3 = 0 → p7_faultOf_L41 (d + 2) σ4 r3 Q) ∧ (¬ r3 = 0 → p7_skip σ4 (fun σ7 => p7_faultOf_L41 (d + 2) σ7 r3 Q))) → p7_faultOf_L41 (d + 1 + 2) (kg_t t j) 1 Q := by
        intro Q q
        rw [show d + 1 + 2 = d + 2 + 1 from rfl, p7_faultOf_L41, h18, kg_tp]
        exact kv_f (by decide) (kv_f nle q)
      rcases kr_kite1 (j := j) i6 C (by omega) e22 with ⟨k, wi, hv, ta, j', b1, b2, b3, b4, hj', f1, f2⟩ | ⟨j', s', hj', c', C', f1, f2⟩
      · have cs : kg_c2 s (kx_sI (kg_ks s i k wi hv ta) 5 3 (nI (i + 1))) := kg_c2_tr (kg_c2_tr (kg_c2_tr (kg_c2_tr (kg_c2w s _ (by omega)) (kg_c2w _ _ (by omega))) (kg_c2w _ _ (by omega))) (kg_c2w _ _ (by omega))) (kg_c2w _ _ (by omega))
        have mt : kg_m2 t (kg_kt t i k wi hv ta) := kg_m2_tr (kg_m2_tr (kg_m2_tr (kg_m2_tr (kg_m2w t _ (by omega)) (kg_m2w _ _ (by omega))) (kg_m2w _ _ (by omega))) (kg_m2w _ _ (by omega))) (kg_m2w _ _ (by omega))
        have C1 : kg_C (kx_sI (kg_ks s i k wi hv ta) 5 3 (nI (i + 1))) (kg_kt t i k wi hv ta) r m := kg_Cs (kg_Cs (kg_Cs (kg_Cs (kg_Cs (kg_Ct (kg_Ct (kg_Ct (kg_Ct (kg_Ct C _ (by omega) (by omega)) _ (by omega) (by omega)) _ (by omega) (by omega)) _ (by omega) (by omega)) _ (by omega) (by omega)) _ (by omega)) _ (by omega)) _ (by omega)) _ (by omega)) _ (by omega)
        obtain ⟨j2, _, hj2, g1, g2⟩ := kg_skip C1 (m - j') j' (by omega)
        have K1 : kg_kk (kx_sI (kg_ks s i k wi hv ta) 5 3 (nI (i + 1))) (kg_kt t i k wi hv ta) (i + 1) := kg_kk_fr (kg_kk_S K ⟨b1, b2, b3, b4⟩) (fun x hx => kv_ua (by omega)) rfl
        obtain ⟨b, v, j3, s3, t3, a1, a2, q1, q2, a3⟩ := ih (i + 1) _ _ j2 (by omega) C1 hj2 (kv_us _ _ _ _) (kv_us _ _ _ _) K1
        refine ⟨b, v, j3, s3, t3, kg_c2_tr cs a1, kg_m2_tr mt a2, fun Q q => A1 Q (f1 _ (kv_F (by decide) ?_)), fun Q q => A2 Q (f2 _ (kv_f (by decide) ⟨_, g2 _ (q2 Q q)⟩)), a3⟩
        have x3 : (kg_s (kg_ks s i k wi hv ta) j').1 5 3 = nI i := by rw [kg_sa _ _ (by decide), kg_ks_ne s i k wi hv ta (by omega)]; exact e3
        rw [x3, show nI i + 1 = nI (i + 1) from nI_1 _, kg_sw _ _ _ (by decide)]
        exact ⟨rfl, (kg_R C).1, _, g1 _ (q1 Q q)⟩
      · refine ⟨0, nI j', j', s', t, c', kg_m2_refl t, fun Q q => A1 Q (f1 _ (kv_T rfl q)), fun Q q => A2 Q (f2 _ (kv_t rfl ?_)), Or.inl ⟨rfl, rfl, hj'⟩⟩
        rw [p7_faultOf_L41]
        refine kv_t rfl ?_
        unfold p7_faultOf_J72
        rw [kg_tp]
        exact kv_t rfl q
theorem kr_read (h : kr_R σ τ) (hr : r < 4) (hm : m ≤ 60) (hs : σ.1 (66 + r) 1 = nI m) (ht : τ.1 8 r = nI m) (hp : ∀ i, i < m → τ.1 9 (60 * r + i) = σ.1 (76 + r) i) : ∃ (v : Int32) (s t : kx_St), (∀ Q : kx_St → Int32 → Prop, Q s v → p4_read σ 9 (66 + r) 5 Q) ∧ (∀ Q : kx_St → Int32 → Prop, Q t v → p7_faultOf τ (nI r) Q) ∧ kg_c σ s ∧ kg_m τ t ∧ (v ≠ -9 ∨ (v = -9 ∧ ∃ n w wt, 0 < n ∧ n ≤ 6 ∧ s.1 5 3 = nI n ∧ t.1 0 22 = nI n ∧ kg_kk s t n ∧ kg_W s t w wt)) := by
  have R := ku_txt hr
  obtain ⟨t0, ht0⟩ : ∃ t0, t0 = kx_sI (kx_sI (kx_sI τ 0 16 (nI (60 * r))) 0 18 (nI m)) 0 22 (nI 0) := ⟨_, rfl⟩
  have m0 : kg_m τ t0 := by rw [ht0]; exact kg_m_tr (kg_m_tr (kg_mw τ _ (by omega)) (kg_mw _ _ (by omega))) (kg_mw _ _ (by omega))
  have C0 : kg_C σ t0 r m := by
    subst ht0
    refine ⟨hr, hm, hs, fun i hi => ?_, ?_, ?_⟩
    · rw [kv_ua (by decide), kv_ua (by decide), kv_ua (by decide)]; exact hp i hi
    · rw [kv_un (by decide), kv_un (by decide), kv_us]
    · rw [kv_un (by decide), kv_us]
  have e22 : t0.1 0 22 = nI 0 := by rw [ht0]; exact kv_us _ _ _ _
  have B2 : ∀ Q : kx_St → Int32 → Prop, p7_readsHead (kg_t t0 0) (fun σ7 r6 => (r6 = 0 → ∃ m41, p7_faultOf_L41 m41 σ7 r6 Q) ∧ (¬ r6 = 0 → p7_skip σ7 (fun σ10 => ∃ m41, p7_faultOf_L41 m41 σ10 r6 Q))) → p7_faultOf τ (nI r) Q := by
    intro Q q
    have e60 : (60 : Int32) * nI r = nI (60 * r) := by rw [show (60 : Int32) = nI 60 from rfl, kv_mul]
    have et : kg_t t0 0 = kx_sI (kx_sI (kx_sI (kx_sI τ 0 16 (nI (60 * r))) 0 17 0) 0 18 (nI m)) 0 22 0 := by
      subst ht0
      unfold kg_t
      rw [kx_comm _ (by omega), kx_comm (kx_sI τ 0 16 (nI (60 * r))) (by omega)]
      rfl
    rw [et] at q
    refine ⟨kv_in hr (by decide), ?_⟩
    show p7_readsHead (kx_sI (kx_sI (kx_sI (kx_sI τ 0 16 (60 * nI r)) 0 17 0) 0 18 ((kx_sI (kx_sI τ 0 16 (60 * nI r)) 0 17 0).1 8 (nI r).toNatClampNeg)) 0 22 0) _
    rw [e60, kv_c (by omega), kv_ua (by decide), kv_ua (by decide), ht]
    exact q
  obtain ⟨j1, _, hj1, f1, f2⟩ := kg_skip C0 m 0 (by omega)
  have L0 : ∀ (v : Int32) (j : Nat) (s t : kx_St), kg_c σ s → kg_m τ t → j ≤ m → (∀ Q : kx_St → Int32 → Prop, Q (kg_s s j) 0 → p4_readWinds (kg_s σ 0) 9 (66 + r) 5 Q) → (∀ Q : kx_St → Int32 → Prop, Q (kg_t t j) 0 → p7_readsHead (kg_t t0 0) Q) → ∃ (v : Int32) (s t : kx_St), (∀ Q : kx_St → Int32 → Prop, Q s v → p4_read σ 9 (66 + r) 5 Q) ∧ (∀ Q : kx_St → Int32 → Prop, Q t v → p7_faultOf τ (nI r) Q) ∧ kg_c σ s ∧ kg_m τ t ∧ (v ≠ -9 ∨ (v = -9 ∧ ∃ n w wt, 0 < n ∧ n ≤ 6 ∧ s.1 5 3 = nI n ∧ t.1 0 22 = nI n ∧ kg_kk s t n ∧ kg_W s t w wt)) := by
    intro _ j s t c d hj q1 q2
    refine ⟨nI j, kg_s s j, kg_t t j, fun Q q => ⟨rfl, R.1, rfl, q1 _ (kv_t rfl ?_)⟩, fun Q q => B2 Q (q2 _ (kv_t rfl ⟨1, ?_⟩)), kg_c_tr c (kg_cw s _ (by omega)), kg_m_tr d (kg_mw t _ (by omega)), Or.inl (kg_n9 (by omega))⟩
    · rw [kg_sp]; exact q
    · rw [p7_faultOf_L41]
      refine kv_t rfl ?_
      unfold p7_faultOf_J72
      rw [kg_tp]
      exact kv_t rfl q
  have h18 : (kg_t t0 j1).1 0 18 = nI m := (kg_t0 t0 j1 (by decide)).trans C0.2.2.2.2.2
  have H1 : ∀ Q : kx_St → Int32 → Prop, p4_sign (kg_s σ j1) 9 (66 + r) (fun r3 => (r3 = (119 : Int32) → (fun σ5 : kx_St => ∃ m29, p4_readWinds_L29 m29 σ5 9 (66 + r) 5 (0 : Int32) Q) (kx_sI (kg_s σ j1) 9 0 (((kg_s σ j1).1 9 0) + (1 : Int32)))) ∧ (¬ r3 = (119 : Int32) → Q (kg_s σ j1) (0 : Int32))) → p4_readWinds (kg_s σ 0) 9 (66 + r) 5 Q := fun Q q => ⟨rfl, R.1, rfl, rfl, R.1, _, f1 _ q⟩
  have H2 : ∀ Q : kx_St → Int32 → Prop, ((nI j1 = nI m → Q (kg_t t0 j1) (0 : Int32)) ∧ (¬ nI j1 = nI m → p7_here (kg_t t0 j1) (fun r4 => (r4 = (119 : Int32) → (fun σ6 : kx_St => ∃ m38, p7_readsHead_L38 m38 σ6 (0 : Int32) Q) (kx_sI (kg_t t0 j1) 0 17 (((kg_t t0 j1).1 0 17) + (1 : Int32)))) ∧ (¬ r4 = (119 : Int32) → Q (kg_t t0 j1) (0 : Int32))))) → p7_readsHead (kg_t t0 0) Q := by
    intro Q q
    refine ⟨_, f2 _ ?_⟩
    rw [h18]
    rw [kg_tp t0 j1] at q ⊢
    exact q
  by_cases hjm : j1 = m
  · refine L0 0 j1 σ t0 (kg_c_refl σ) m0 hj1 (fun Q q => H1 Q (kg_sign C0 hj1 (fun z => by omega) (fun _ => kv_f (by decide) q))) (fun Q q => H2 Q (kv_t (by rw [hjm]) q))
  · have ne : ¬ nI j1 = nI m := fun e => hjm ((kv_inj (by omega) (by omega)).mp e)
    by_cases w : σ.1 (76 + r) j1 = 119
    · obtain ⟨b, j2, s2, t2, hj2, C2, c2, ⟨d2, d22⟩, q1, q2, hb⟩ := kr_winds 4 0 σ t0 (j1 + 1) (by omega) C0 (by omega) (fun x hx => by omega)
      have G1 : ∀ Q : kx_St → Int32 → Prop, Q (kg_s s2 j2) b → p4_readWinds (kg_s σ 0) 9 (66 + r) 5 Q := fun Q q => H1 Q (kg_sign C0 hj1 (fun _ => kv_t w (by
        rw [kg_sp, show nI j1 + 1 = nI (j1 + 1) from nI_1 _, kg_ss]
        exact ⟨_, q1 Q q⟩)) (fun z => by omega))
      have G2 : ∀ Q : kx_St → Int32 → Prop, Q (kg_t t2 j2) b → p7_readsHead (kg_t t0 0) Q := fun Q q => H2 Q (kv_f ne (kg_here C0 (by omega) (kv_t w (by
        rw [kg_tp, show nI j1 + 1 = nI (j1 + 1) from nI_1 _, kg_tt]
        exact ⟨_, q2 Q q⟩))))
      rcases hb with hb | ⟨hb, ww, wt, W⟩
      · subst hb
        exact L0 0 j2 s2 t2 c2 (kg_m_tr m0 d2) hj2 G1 G2
      · subst hb
        have C3 : kg_C (kx_sI s2 5 3 (nI 0)) t2 r m := kg_Cs C2 _ (by decide)
        obtain ⟨j3, _, hj3, g1, g2⟩ := kg_skip C3 (m - j2) j2 (by omega)
        obtain ⟨b, v, j4, s4, t4, c4, d4, i1, i2, hb⟩ := kr_kites 6 0 _ t2 j3 (by omega) C3 hj3 (kv_us _ _ _ _) (d22.trans e22) (fun x hx => by omega)
        have cc : kg_c σ (kg_s s4 j4) := kg_c_tr (kg_c_tr (kg_c_tr c2 (kg_cw s2 (a := 5) (k := 3) (nI 0) (by omega))) c4.1) (kg_cw s4 _ (by omega))
        have dd : kg_m τ (kg_t t4 j4) := kg_m_tr (kg_m_tr (kg_m_tr m0 d2) d4.1) (kg_mw t4 _ (by omega))
        have E1 : ∀ Q : kx_St → Int32 → Prop, ((b = 0 → Q (kg_s s4 j4) (nI j4)) ∧ (¬ b = 0 → Q (kg_s s4 j4) (-9))) → p4_read σ 9 (66 + r) 5 Q := by
          intro Q q
          refine ⟨rfl, R.1, rfl, G1 _ (kv_f (by decide) ⟨rfl, R.1, rfl, ?_⟩)⟩
          rw [kg_sw s2 _ _ (by decide)]
          refine ⟨rfl, R.1, _, g1 _ ⟨_, i1 _ ?_⟩⟩
          rw [kg_sp]
          exact q
        have E2 : ∀ Q : kx_St → Int32 → Prop, Q (kg_t t4 j4) v → p7_faultOf τ (nI r) Q := fun Q q => B2 Q (G2 _ (kv_f (by decide) ⟨_, g2 _ ⟨_, i2 Q q⟩⟩))
        rcases hb with ⟨hb, hv, hj4⟩ | ⟨hb, hv, n, n0, n6, x3, x22, K⟩
        · subst hb hv
          exact ⟨nI j4, _, _, fun Q q => E1 Q (kv_t rfl q), E2, cc, dd, Or.inl (kg_n9 (by omega))⟩
        · subst hb hv
          refine ⟨-9, _, _, fun Q q => E1 Q (kv_f (by decide) q), E2, cc, dd, Or.inr ⟨rfl, n, ww, wt, n0, n6, ?_, ?_, ?_, ?_⟩⟩
          · rw [kg_sa s4 _ (by decide)]; exact x3
          · rw [kg_t0 t4 _ (by decide)]; exact x22
          · exact kg_kk_fr K (fun x hx => kg_sa s4 _ (by omega)) (kg_ta t4 _ (by decide))
          · obtain ⟨w1, w2, w3, w4⟩ := W
            refine ⟨w1, fun x hx => ?_, ?_, ?_⟩
            · rw [kg_sa s4 _ (by decide), kg_ta t4 _ (by decide), c4.2.1, d4.2.1, kv_ua (by decide)]
              exact w2 x hx
            · rw [kg_sa s4 _ (by decide), c4.2.2, kv_un (by decide)]; exact w3
            · rw [kg_t0 t4 _ (by decide), d4.2.2]; exact w4
    · refine L0 0 j1 σ t0 (kg_c_refl σ) m0 hj1 (fun Q q => H1 Q (kg_sign C0 hj1 (fun _ => kv_f w q) (fun z => by omega))) (fun Q q => H2 Q (kv_f ne (kg_here C0 (by omega) (kv_f w q))))
theorem th_fault (σ τ : kx_St) (h : kr_R σ τ) : lt_fault kr_R σ τ := by
  intro a0
  rcases kv_arg a0 4 with ⟨r, hr, rfl⟩ | ho
  · have R := ku_txt hr
    obtain ⟨e1, e2⟩ := h.2.1 r hr
    have M : ∀ {Q : kx_St → Int32 → Prop}, ((0 ≤ σ.1 (66 + r) 1 → p7_faultOf τ (nI r) (fun σ6 r5 => Q σ6 r5)) ∧ (¬ 0 ≤ σ.1 (66 + r) 1 → p7_find τ 1 (fun σ8 r7 => Q σ8 r7))) → p7_fault τ (nI r) Q := by
      intro Q q
      unfold p7_fault
      rw [kv_c (show r < 2147483648 by omega), e1]
      exact s7_isText_in hr (kv_F (by decide) ⟨kv_in hr (by decide), q⟩)
    rcases e2 with e2 | ⟨m, hm, e2, e3⟩
    · refine ⟨-3, s6_pick2_in hr (kv_some ⟨R.1, s5_isThere_no R e2 (kv_T rfl (s6_found (f := 1) rfl (by decide) ⟨rfl, M ⟨fun z => ?_, fun _ => s7_find (f := 1) rfl (by decide) ⟨rfl, kr_found h (by decide)⟩⟩⟩))⟩)⟩
      rw [e2] at z
      exact absurd z (by decide)
    · obtain ⟨v, s, t, q1, q2, c, d, _⟩ := kr_read h hr hm e2 (e1.trans e2) e3
      refine ⟨v, s6_pick2_in hr (kv_some ⟨R.1, s5_isThere_yes R e2 hm (kv_F (by decide) (q1 _ ⟨rfl, M ⟨fun _ => q2 _ ⟨rfl, kg_R' h c d⟩, fun z => ?_⟩⟩))⟩)⟩
      rw [e2] at z
      exact absurd (kv_ge0 (by omega)) z
  · refine ⟨-1, s6_pick2_out ho (kv_none ⟨rfl, ?_⟩)⟩
    unfold p7_fault
    exact s7_isText_out ho (kv_T rfl ⟨rfl, h⟩)
end
