section
variable {σ τ s t s' t' : kx_St} {r m : Nat}
theorem kg_kind (x : Int32) : (∃ k, k < 6 ∧ (∀ Q : Int32 → Prop, Q (nI k) → p4_kindOf x Q) ∧ ∀ Q : Int32 → Prop, Q (nI k) → p7_kindOfLetter x Q) ∨ ((∀ Q : Int32 → Prop, Q (-1) → p4_kindOf x Q) ∧ ∀ Q : Int32 → Prop, Q (-9) → p7_kindOfLetter x Q) := by
  unfold p4_kindOf p7_kindOfLetter
  by_cases c0 : x = 107
  · subst c0
    exact Or.inl ⟨0, by decide, fun Q q => kv_f (by decide) (kv_f (by decide) (kv_f (by decide) (kv_f (by decide) (kv_t rfl q)))), fun Q q => kv_T rfl q⟩
  by_cases c1 : x = 104
  · subst c1
    exact Or.inl ⟨1, by decide, fun Q q => kv_f (by decide) (kv_f (by decide) (kv_t rfl q)), fun Q q => kv_F (by decide) (kv_T rfl q)⟩
  by_cases c2 : x = 99
  · subst c2
    exact Or.inl ⟨2, by decide, fun Q q => kv_f (by decide) (kv_t rfl q), fun Q q => kv_F (by decide) (kv_F (by decide) (kv_T rfl q))⟩
  by_cases c3 : x = 98
  · subst c3
    exact Or.inl ⟨3, by decide, fun Q q => kv_t rfl q, fun Q q => kv_F (by decide) (kv_F (by decide) (kv_F (by decide) (kv_T rfl q)))⟩
  by_cases c4 : x = 106
  · subst c4
    exact Or.inl ⟨4, by decide, fun Q q => kv_f (by decide) (kv_f (by decide) (kv_f (by decide) (kv_t rfl q))), fun Q q => kv_F (by decide) (kv_F (by decide) (kv_F (by decide) (kv_F (by decide) (kv_T rfl q))))⟩
  by_cases c5 : x = 115
  · subst c5
    exact Or.inl ⟨5, by decide, fun Q q => kv_f (by decide) (kv_f (by decide) (kv_f (by decide) (kv_f (by decide) (kv_f (by decide) (kv_t rfl q))))), fun Q q => kv_F (by decide) (kv_F (by decide) (kv_F (by decide) (kv_F (by decide) (kv_F (by decide) (kv_T rfl q)))))⟩
  exact Or.inr ⟨fun Q q => kv_f c3 (kv_f c2 (kv_f c1 (kv_f c4 (kv_f c0 (kv_f c5 q))))), fun Q q => kv_F c0 (kv_F c1 (kv_F c2 (kv_F c3 (kv_F c4 (kv_F c5 q)))))⟩
def kg_c2 (σ s : kx_St) : Prop := kg_c σ s ∧ s.1 11 = σ.1 11 ∧ s.1 5 4 = σ.1 5 4
def kg_m2 (τ t : kx_St) : Prop := kg_m τ t ∧ t.1 11 = τ.1 11 ∧ t.1 0 20 = τ.1 0 20
theorem kg_c2_tr (a : kg_c2 σ s) (b : kg_c2 s s') : kg_c2 σ s' := ⟨kg_c_tr a.1 b.1, b.2.1.trans a.2.1, b.2.2.trans a.2.2⟩
theorem kg_m2_tr (a : kg_m2 τ t) (b : kg_m2 t t') : kg_m2 τ t' := ⟨kg_m_tr a.1 b.1, b.2.1.trans a.2.1, b.2.2.trans a.2.2⟩
theorem kg_c2_refl (σ : kx_St) : kg_c2 σ σ := ⟨kg_c_refl σ, rfl, rfl⟩
theorem kg_m2_refl (τ : kx_St) : kg_m2 τ τ := ⟨kg_m_refl τ, rfl, rfl⟩
theorem kg_c2w (s : kx_St) {a k : Nat} (v : Int32) (h : a = 9 ∨ (a = 5 ∧ k = 3) ∨ (36 ≤ a ∧ a < 42 ∧ k < 4)) : kg_c2 s (kx_sI s a k v) := ⟨kg_cw s v (by omega), kv_ua (by omega), kv_un (by omega)⟩
theorem kg_m2w (t : kx_St) {a k : Nat} (v : Int32) (h : (a = 0 ∧ 16 ≤ k ∧ k ≠ 20) ∨ a = 12) : kg_m2 t (kx_sI t a k v) := ⟨kg_mw t v (by omega), kv_ua (by omega), kv_un (by omega)⟩
def kg_ks (s : kx_St) (i k wi hi ta : Nat) : kx_St := kx_sI (kx_sI (kx_sI (kx_sI s (36 + i) 0 (nI k)) (36 + i) 1 (nI wi)) (36 + i) 2 (nI hi)) (36 + i) 3 (nI ta)
def kg_kt (t : kx_St) (i k wi hi ta : Nat) : kx_St := kx_sI (kx_sI (kx_sI (kx_sI (kx_sI t 12 (4 * i) (nI k)) 12 (4 * i + 1) (nI wi)) 12 (4 * i + 2) (nI hi)) 12 (4 * i + 3) (nI ta)) 0 22 (nI (i + 1))
theorem ky_d : ∀ i, i < 6 → kx_k 0 (36 + i) = 1 ∧ kx_r 0 16 i = 36 + i := by decide +kernel
theorem kr_kite1 {i j : Nat} (hi : i < 6) (C : kg_C s t r m) (hj : j < m) (h22 : t.1 0 22 = nI i) : (∃ k wi hv ta j', k < 6 ∧ wi < 10 ∧ hv < 10 ∧ ta < 4 ∧ j' ≤ m ∧ (∀ Q : kx_St → Int32 → Prop, Q (kg_s (kg_ks s i k wi hv ta) j') 1 → p4_readKite (kg_s s j) 9 (66 + r) (36 + i) Q) ∧ ∀ Q : kx_St → Int32 → Prop, Q (kg_t (kg_kt t i k wi hv ta) j') 1 → p7_readsKite (kg_t t j) Q) ∨ (∃ j' s', j' ≤ m ∧ kg_c2 s s' ∧ kg_C s' t r m ∧ (∀ Q : kx_St → Int32 → Prop, Q (kg_s s' j') 0 → p4_readKite (kg_s s j) 9 (66 + r) (36 + i) Q) ∧ ∀ Q : kx_St → Int32 → Prop, Q (kg_t t j') 0 → p7_readsKite (kg_t t j) Q) := by
  obtain ⟨k1, _⟩ := ky_d i hi
  have e22 : ∀ j, (kg_t t j).1 0 22 = nI i := fun j => (kg_t0 t j (by decide)).trans h22
  have n6 : ¬ nI i = 6 := fun e => by have := (kv_inj (b := 6) (by omega) (by decide)).mp e; omega
  have e4 : (4 : Int32) * nI i = nI (4 * i) := by rw [show (4 : Int32) = nI 4 from rfl, kv_mul]
  have ws : ∀ (s : kx_St) (j : Nat) (k : Nat) (v : Int32), kx_sI (kg_s s j) (36 + i) k v = kg_s (kx_sI s (36 + i) k v) j := fun s j k v => kg_sw s j v (by omega)
  have us : ∀ (s : kx_St) (j : Nat) (k : Nat) (v : Int32), (kg_s (kx_sI s (36 + i) k v) j).1 (36 + i) k = v := fun s j k v => by rw [kg_sa _ _ (by omega), kv_us]
  have c2 : ∀ (s : kx_St) (k : Nat) (v : Int32), k < 4 → kg_c2 s (kx_sI s (36 + i) k v) := fun s k v hk => kg_c2w s v (by omega)
  rcases kg_kind (s.1 (76 + r) j) with ⟨k, k6, f1, f2⟩ | ⟨f1, f2⟩
  · have A1 : ∀ Q : kx_St → Int32 → Prop, p4_readFigure (kg_s (kx_sI s (36 + i) 0 (nI k)) (j + 1)) 9 (66 + r) (nI 1) (nI 9) (fun σ7 r6 => (fun σ8 : kx_St => (0 ≤ (σ8.1 (36 + i) 1) → p4_readFigure σ8 9 (66 + r) (nI 0) (nI 9) (fun σ11 r10 => (fun σ12 : kx_St => (0 ≤ (σ12.1 (36 + i) 2) → p4_readFigure σ12 9 (66 + r) (nI 0) (nI 3) (fun σ15 r14 => (fun σ16 : kx_St => ((σ16.1 (36 + i) 3) < 0 → Q σ16 (0 : Int32)) ∧ (¬ (σ16.1 (36 + i) 3) < 0 → Q σ16 (1 : Int32))) (kx_sI σ15 (36 + i) 3 r14))) ∧ (¬ 0 ≤ (σ12.1 (36 + i) 2) → Q σ12 (0 : Int32))) (kx_sI σ11 (36 + i) 2 r10))) ∧ (¬ 0 ≤ (σ8.1 (36 + i) 1) → Q σ8 (0 : Int32))) (kx_sI σ7 (36 + i) 1 r6)) → p4_readKite (kg_s s j) 9 (66 + r) (36 + i) Q := by
      intro Q q
      refine ⟨rfl, (kg_R C).1, k1, kg_sign C (by omega) (fun _ => f1 _ ?_) (fun z => by omega)⟩
      rw [ws]
      refine kv_t (by rw [us]; exact kv_ge0 (by omega)) ?_
      rw [kg_sp, show nI j + 1 = nI (j + 1) from nI_1 _, kg_ss]
      exact q
    have A2 : ∀ Q : kx_St → Int32 → Prop, p7_figure (kg_t t (j + 1)) (nI 1) (nI 9) (fun σ7 r6 => (¬ r6 = (-9 : Int32) → p7_figure σ7 (nI 0) (nI 9) (fun σ10 r9 => p7_readsKite_J68 σ10 (nI (4 * i)) (nI k) r6 r9 Q)) ∧ (r6 = (-9 : Int32) → p7_readsKite_J68 σ7 (nI (4 * i)) (nI k) r6 (-9 : Int32) Q)) → p7_readsKite (kg_t t j) Q := by
      intro Q q
      refine kg_here C hj (f2 _ (kv_f (kg_n9 (by omega)) ?_))
      rw [e22, e4]
      refine kv_F n6 ?_
      rw [kg_tp, show nI j + 1 = nI (j + 1) from nI_1 _, kg_tt]
      exact q
    have C1 := kg_Cs C (a := 36 + i) (k := 0) (nI k) (by omega)
    have fr1 := c2 s 0 (nI k) (by decide)
    rcases kg_fig (lo := 1) (hi := 9) (j := j + 1) C1 (by omega) (by decide) (by decide) with ⟨wi, _, w9, j1, g1, g2⟩ | ⟨g1, g2⟩
    · have C2 := kg_Cs C1 (a := 36 + i) (k := 1) (nI wi) (by omega)
      have fr2 := kg_c2_tr fr1 (c2 _ 1 (nI wi) (by decide))
      rcases kg_fig (lo := 0) (hi := 9) (j := j + 1 + 1) C2 (by omega) (by decide) (by decide) with ⟨hv, _, h9, j2, i1, i2⟩ | ⟨i1, i2⟩
      · have C3 := kg_Cs C2 (a := 36 + i) (k := 2) (nI hv) (by omega)
        have fr3 := kg_c2_tr fr2 (c2 _ 2 (nI hv) (by decide))
        rcases kg_fig (lo := 0) (hi := 3) (j := j + 1 + 1 + 1) C3 (by omega) (by decide) (by decide) with ⟨ta, _, t3, j3, l1, l2⟩ | ⟨l1, l2⟩
        · refine Or.inl ⟨k, wi, hv, ta, j + 1 + 1 + 1 + 1, k6, by omega, by omega, by omega, by omega, fun Q q => A1 Q (g1 _ ?_), fun Q q => A2 Q (g2 _ (kv_F (kg_n9 (by omega)) (i2 _ ?_)))⟩
          · rw [ws]
            refine kv_t (by rw [us]; exact kv_ge0 (by omega)) (i1 _ ?_)
            rw [ws]
            refine kv_t (by rw [us]; exact kv_ge0 (by omega)) (l1 _ ?_)
            rw [ws]
            exact kv_f (by rw [us]; exact kv_ge (by omega)) q
          · unfold p7_readsKite_J68
            refine kv_F (kg_n9 (by omega)) (l2 _ ?_)
            unfold p7_readsKite_J88
            refine kv_F (kg_n9 (by omega)) ?_
            rw [show nI (4 * i) + 1 = nI (4 * i + 1) from kv_add _ 1, show nI (4 * i) + 2 = nI (4 * i + 2) from kv_add _ 2, show nI (4 * i) + 3 = nI (4 * i + 3) from kv_add _ 3, kv_c (show 4 * i < 2147483648 by omega), kv_c (show 4 * i + 1 < 2147483648 by omega), kv_c (show 4 * i + 2 < 2147483648 by omega), kv_c (show 4 * i + 3 < 2147483648 by omega)]
            refine ⟨kv_in (by omega) (by decide), kv_in (by omega) (by decide), kv_in (by omega) (by decide), kv_in (by omega) (by decide), ?_⟩
            rw [kg_tw t _ _ (by omega), kg_tw _ _ _ (by omega), kg_tw _ _ _ (by omega), kg_tw _ _ _ (by omega)]
            dsimp only
            rw [kg_t0 _ _ (by decide), kv_un (by omega), kv_un (by omega), kv_un (by omega), kv_un (by omega), h22, show nI i + 1 = nI (i + 1) from nI_1 _, kg_tw _ _ _ (by omega)]
            exact q
        · refine Or.inr ⟨j + 1 + 1 + 1, _, by omega, kg_c2_tr fr3 (c2 _ 3 (-1) (by decide)), kg_Cs C3 _ (by omega), fun Q q => A1 Q (g1 _ ?_), fun Q q => A2 Q (g2 _ (kv_F (kg_n9 (by omega)) (i2 _ ?_)))⟩
          · rw [ws]
            refine kv_t (by rw [us]; exact kv_ge0 (by omega)) (i1 _ ?_)
            rw [ws]
            refine kv_t (by rw [us]; exact kv_ge0 (by omega)) (l1 _ ?_)
            rw [ws]
            exact kv_t (by rw [us]; decide) q
          · unfold p7_readsKite_J68
            refine kv_F (kg_n9 (by omega)) (l2 _ ?_)
            unfold p7_readsKite_J88
            exact kv_T rfl q
      · refine Or.inr ⟨j + 1 + 1, _, by omega, kg_c2_tr fr2 (c2 _ 2 (-1) (by decide)), kg_Cs C2 _ (by omega), fun Q q => A1 Q (g1 _ ?_), fun Q q => A2 Q (g2 _ (kv_F (kg_n9 (by omega)) (i2 _ ?_)))⟩
        · rw [ws]
          refine kv_t (by rw [us]; exact kv_ge0 (by omega)) (i1 _ ?_)
          rw [ws]
          exact kv_f (by rw [us]; decide) q
        · unfold p7_readsKite_J68
          refine kv_T rfl ?_
          unfold p7_readsKite_J88
          exact kv_T rfl q
    · refine Or.inr ⟨j + 1, _, by omega, kg_c2_tr fr1 (c2 _ 1 (-1) (by decide)), kg_Cs C1 _ (by omega), fun Q q => A1 Q (g1 _ ?_), fun Q q => A2 Q (g2 _ (kv_T rfl ?_))⟩
      · rw [ws]
        exact kv_f (by rw [us]; decide) q
      · unfold p7_readsKite_J68
        refine kv_T rfl ?_
        unfold p7_readsKite_J88
        exact kv_T rfl q
  · refine Or.inr ⟨j, kx_sI s (36 + i) 0 (-1), by omega, c2 s 0 _ (by decide), kg_Cs C _ (by omega), fun Q q => ⟨rfl, (kg_R C).1, k1, kg_sign C (by omega) (fun _ => f1 _ ?_) (fun z => by omega)⟩, fun Q q => kg_here C hj (f2 _ (kv_t rfl q))⟩
    rw [ws]
    exact kv_f (by rw [us]; decide) q
end
