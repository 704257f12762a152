section
variable {σ τ s t s' t' : kx_St} {r m : Nat}
theorem kg_n9 {i : Nat} (h : i < 1000) : ¬ nI i = -9 := by
  rw [kv_eq, kv_n (by omega)]
  show ¬ _ = (-9 : Int)
  omega
def kg_c (σ s : kx_St) : Prop := (∀ a, a ≠ 9 → a ≠ 5 → a ≠ 11 → ¬ (36 ≤ a ∧ a < 42) → s.1 a = σ.1 a) ∧ (∀ k, k ≠ 3 → k ≠ 4 → s.1 5 k = σ.1 5 k) ∧ (∀ i, i < 6 → ∀ k, 4 ≤ k → s.1 (36 + i) k = σ.1 (36 + i) k) ∧ s.2 = σ.2
def kg_m (τ t : kx_St) : Prop := (∀ k, k < 16 → t.1 0 k = τ.1 0 k) ∧ (∀ c, c ≠ 0 → c ≠ 11 → c ≠ 12 → t.1 c = τ.1 c) ∧ t.2 = τ.2
theorem kg_c_refl (σ : kx_St) : kg_c σ σ := ⟨fun _ _ _ _ _ => rfl, fun _ _ _ => rfl, fun _ _ _ _ => rfl, rfl⟩
theorem kg_m_refl (τ : kx_St) : kg_m τ τ := ⟨fun _ _ => rfl, fun _ _ _ _ => rfl, rfl⟩
theorem kg_c_tr (a : kg_c σ s) (b : kg_c s s') : kg_c σ s' := ⟨fun x h1 h2 h3 h4 => (b.1 x h1 h2 h3 h4).trans (a.1 x h1 h2 h3 h4), fun k h1 h2 => (b.2.1 k h1 h2).trans (a.2.1 k h1 h2), fun i hi k hk => (b.2.2.1 i hi k hk).trans (a.2.2.1 i hi k hk), b.2.2.2.trans a.2.2.2⟩
theorem kg_m_tr (a : kg_m τ t) (b : kg_m t t') : kg_m τ t' := ⟨fun k hk => (b.1 k hk).trans (a.1 k hk), fun c h1 h2 h3 => (b.2.1 c h1 h2 h3).trans (a.2.1 c h1 h2 h3), b.2.2.trans a.2.2⟩
theorem kg_cw (s : kx_St) {a k : Nat} (v : Int32) (h : a = 9 ∨ a = 11 ∨ (a = 5 ∧ (k = 3 ∨ k = 4)) ∨ (36 ≤ a ∧ a < 42 ∧ k < 4)) : kg_c s (kx_sI s a k v) := ⟨fun x _ _ _ _ => kv_ua (by omega), fun j _ _ => kv_un (by omega), fun i hi j hj => kv_un (by omega), rfl⟩
theorem kg_mw (t : kx_St) {a k : Nat} (v : Int32) (h : (a = 0 ∧ 16 ≤ k) ∨ a = 11 ∨ a = 12) : kg_m t (kx_sI t a k v) := ⟨fun j hj => kv_un (by omega), fun c _ _ _ => kv_ua (by omega), rfl⟩
theorem kg_R' (h : kr_R σ τ) (c : kg_c σ s) (d : kg_m τ t) : kr_R s t := kr_R_fr h (fun a h1 h2 h3 _ _ h6 _ => c.1 a h2 h1 h3 h6) (fun k h5 h8 => c.2.1 k (by omega) (by omega)) (fun i hi k hk => c.2.2.1 i hi k hk) c.2.2.2 d.1 (fun k _ => by rw [d.2.1 1 (by decide) (by decide) (by decide)]) (fun x h1 h2 => d.2.1 x (by omega) (by omega) (by omega)) d.2.2
/-- WINDS and what the SCHOOL wants, read by both -/
def kg_W (s t : kx_St) (w : Nat → Nat) (wt : Nat) : Prop := wt < 100 ∧ (∀ x, x < 4 → w x < 10 ∧ s.1 11 x = nI (w x) ∧ t.1 11 x = nI (w x)) ∧ s.1 5 4 = nI wt ∧ t.1 0 20 = nI wt
theorem kr_winds : ∀ d h s t j, h + d = 4 → kg_C s t r m → j ≤ m → (∀ x, x < h → ∃ v, v < 10 ∧ s.1 11 x = nI v ∧ t.1 11 x = nI v) → ∃ (b : Int32) (j' : Nat) (s' t' : kx_St), j' ≤ m ∧ kg_C s' t' r m ∧ kg_c s s' ∧ (kg_m t t' ∧ t'.1 0 22 = t.1 0 22) ∧ (∀ Q : kx_St → Int32 → Prop, Q (kg_s s' j') b → p4_readWinds_L29 (d + 1) (kg_s s j) 9 (66 + r) 5 (nI h) Q) ∧ (∀ Q : kx_St → Int32 → Prop, Q (kg_t t' j') b → p7_readsHead_L38 (d + 1) (kg_t t j) (nI h) Q) ∧ (b = 0 ∨ (b = 1 ∧ ∃ w wt, kg_W s' t' w wt)) := by
  have r11 : kx_r 0 5 0 = 11 := by decide
  have l4 : kx_l 0 11 = 4 := by decide
  intro d
  induction d with
  | zero =>
    intro h s t j hh C hj W
    obtain rfl : h = 4 := by omega
    have go1 : ∀ Q : kx_St → Int32 → Prop, p4_readFigure (kg_s s j) 9 (66 + r) (nI 0) (nI 9) (fun σ3 r2 => (0 ≤ r2 → p4_readFigure σ3 9 (66 + r) (nI 0) (nI 9) (fun σ6 r5 => p4_readWinds_J94 σ6 5 r2 r5 Q)) ∧ (¬ 0 ≤ r2 → p4_readWinds_J94 σ3 5 r2 r2 Q)) → p4_readWinds_L29 (0 + 1) (kg_s s j) 9 (66 + r) 5 (nI 4) Q := by
      intro Q q
      rw [p4_readWinds_L29, r11, l4]
      exact kv_t (by decide) q
    have go2 : ∀ Q : kx_St → Int32 → Prop, p7_figure (kg_t t j) (nI 0) (nI 9) (fun σ3 r2 => (¬ r2 = (-9 : Int32) → p7_figure σ3 (nI 0) (nI 9) (fun σ6 r5 => p7_readsHead_J98 σ6 r2 r5 Q)) ∧ (r2 = (-9 : Int32) → p7_readsHead_J98 σ3 r2 (-9 : Int32) Q)) → p7_readsHead_L38 (0 + 1) (kg_t t j) (nI 4) Q := by
      intro Q q
      rw [p7_readsHead_L38]
      exact kv_t (by decide) q
    rcases kg_fig (lo := 0) (hi := 9) C hj (by decide) (by decide) with ⟨v, _, v9, hjm, f1, f2⟩ | ⟨f1, f2⟩
    · rcases kg_fig (lo := 0) (hi := 9) (j := j + 1) C (by omega) (by decide) (by decide) with ⟨u, _, u9, hjm2, g1, g2⟩ | ⟨g1, g2⟩
      · have e : (10 : Int32) * nI v + nI u = nI (10 * v + u) := by rw [show (10 : Int32) = nI 10 from rfl, kv_mul, kv_add]
        refine ⟨1, j + 1 + 1, kx_sI s 5 4 (nI (10 * v + u)), kx_sI t 0 20 (nI (10 * v + u)), by omega, kg_Ct (kg_Cs C _ (by decide)) _ (by decide) (by decide), kg_cw s _ (by omega), ⟨kg_mw t _ (by omega), kv_un (by omega)⟩, fun Q q => go1 Q (f1 _ (kv_t (kv_ge0 (by omega)) (g1 _ ?_))), fun Q q => go2 Q (f2 _ (kv_F ((kg_n9 (by omega))) (g2 _ ?_))), Or.inr ⟨rfl, fun x => (s.1 11 x).toNatClampNeg, 10 * v + u, by omega, fun x hx => ?_, kv_us _ _ _ _, kv_us _ _ _ _⟩⟩
        · unfold p4_readWinds_J94
          rw [e, kg_sw s _ _ (by decide)]
          exact kv_f (kv_ge (by omega)) q
        · unfold p7_readsHead_J98
          rw [e, kg_tw t _ _ (by decide)]
          exact kv_f ((kg_n9 (by omega))) q
        · obtain ⟨y, y9, y1, y2⟩ := W x hx
          have ew : (s.1 11 x).toNatClampNeg = y := by rw [y1, kv_c (by omega)]
          rw [kv_ua (by decide), kv_ua (by decide), y2, y1]
          show (s.1 11 x).toNatClampNeg < 10 ∧ nI y = nI (s.1 11 x).toNatClampNeg ∧ nI y = nI (s.1 11 x).toNatClampNeg
          rw [ew]
          exact ⟨y9, rfl, rfl⟩
      · refine ⟨0, j + 1, kx_sI s 5 4 (10 * nI v + -1), kx_sI t 0 20 (10 * nI v + -9), by omega, kg_Ct (kg_Cs C _ (by decide)) _ (by decide) (by decide), kg_cw s _ (by omega), ⟨kg_mw t _ (by omega), kv_un (by omega)⟩, fun Q q => go1 Q (f1 _ (kv_t (kv_ge0 (by omega)) (g1 _ ?_))), fun Q q => go2 Q (f2 _ (kv_F ((kg_n9 (by omega))) (g2 _ ?_))), Or.inl rfl⟩
        · unfold p4_readWinds_J94
          rw [kg_sw s _ _ (by decide)]
          exact kv_t (by decide) q
        · unfold p7_readsHead_J98
          rw [kg_tw t _ _ (by decide)]
          exact kv_t rfl q
    · refine ⟨0, j, kx_sI s 5 4 (10 * -1 + -1), kx_sI t 0 20 (10 * -9 + -9), hj, kg_Ct (kg_Cs C _ (by decide)) _ (by decide) (by decide), kg_cw s _ (by omega), ⟨kg_mw t _ (by omega), kv_un (by omega)⟩, fun Q q => go1 Q (f1 _ (kv_f (by decide) ?_)), fun Q q => go2 Q (f2 _ (kv_T rfl ?_)), Or.inl rfl⟩
      · unfold p4_readWinds_J94
        rw [kg_sw s _ _ (by decide)]
        exact kv_t (by decide) q
      · unfold p7_readsHead_J98
        rw [kg_tw t _ _ (by decide)]
        exact kv_t rfl q
  | succ d ih =>
    intro h s t j hh C hj W
    have h4 : h < 4 := by omega
    have go1 : ∀ Q : kx_St → Int32 → Prop, p4_readFigure (kg_s s j) 9 (66 + r) (nI 0) (nI 9) (fun σ8 r7 => (0 ≤ (kx_sI σ8 11 h r7).1 11 h → p4_readWinds_L29 (d + 1) (kx_sI σ8 11 h r7) 9 (66 + r) 5 (nI (h + 1)) Q) ∧ (¬ 0 ≤ (kx_sI σ8 11 h r7).1 11 h → Q (kx_sI σ8 11 h r7) 0)) → p4_readWinds_L29 (d + 1 + 1) (kg_s s j) 9 (66 + r) 5 (nI h) Q := by
      intro Q q
      rw [p4_readWinds_L29, r11, l4]
      refine kv_f (by show ¬ nI 4 ≤ nI h; rw [kv_leN (by omega) (by omega)]; omega) ?_
      rw [kv_c (by omega), show nI h + 1 = nI (h + 1) from nI_1 _]
      have v4 : vp_in (nI h) 4 := kv_in h4 (by decide)
      simp only [v4, true_and]
      exact q
    have go2 : ∀ Q : kx_St → Int32 → Prop, p7_figure (kg_t t j) (nI 0) (nI 9) (fun σ8 r7 => (¬ r7 = (-9 : Int32) → p7_readsHead_L38 (d + 1) (kx_sI σ8 11 h r7) (nI (h + 1)) Q) ∧ (r7 = (-9 : Int32) → Q σ8 (0 : Int32))) → p7_readsHead_L38 (d + 1 + 1) (kg_t t j) (nI h) Q := by
      intro Q q
      rw [p7_readsHead_L38]
      refine kv_f (by show ¬ nI 4 ≤ nI h; rw [kv_leN (by omega) (by omega)]; omega) ?_
      rw [kv_c (by omega), show nI h + 1 = nI (h + 1) from nI_1 _]
      have v4 : vp_in (nI h) 4 := kv_in h4 (by decide)
      simp only [v4, true_and]
      exact q
    rcases kg_fig (lo := 0) (hi := 9) C hj (by decide) (by decide) with ⟨v, _, v9, hjm, f1, f2⟩ | ⟨f1, f2⟩
    · obtain ⟨b, j', s', t', a1, a2, a3, a4, q1, q2, a5⟩ := ih (h + 1) (kx_sI s 11 h (nI v)) (kx_sI t 11 h (nI v)) (j + 1) (by omega) (kg_Ct (kg_Cs C _ (by decide)) _ (by decide) (by omega)) (by omega) (fun x hx => by
        by_cases e : x = h
        · subst e; exact ⟨v, by omega, kv_us _ _ _ _, kv_us _ _ _ _⟩
        · rw [kv_un (by omega), kv_un (by omega)]; exact W x (by omega))
      refine ⟨b, j', s', t', a1, a2, kg_c_tr (kg_cw s _ (by omega)) a3, ⟨kg_m_tr (kg_mw t _ (by omega)) a4.1, a4.2.trans (kv_un (by omega))⟩, fun Q q => go1 Q (f1 _ ?_), fun Q q => go2 Q (f2 _ (kv_F ((kg_n9 (by omega))) ?_)), a5⟩
      · rw [kg_sw s _ _ (by decide)]
        refine kv_t ?_ (q1 Q q)
        rw [kg_sa _ _ (by decide), kv_us]
        exact kv_ge0 (by omega)
      · rw [kg_tw t _ _ (by omega)]
        exact q2 Q q
    · refine ⟨0, j, kx_sI s 11 h (-1), t, hj, kg_Cs C _ (by decide), kg_cw s _ (by omega), ⟨kg_m_refl t, rfl⟩, fun Q q => go1 Q (f1 _ ?_), fun Q q => go2 Q (f2 _ (kv_T rfl q)), Or.inl rfl⟩
      rw [kg_sw s _ _ (by decide)]
      refine kv_f ?_ q
      rw [kg_sa _ _ (by decide), kv_us]
      decide
end
