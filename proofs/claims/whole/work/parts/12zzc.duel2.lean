section
variable {σ τ t : kx_St} {n : Nat} {kd wd hv w : Nat → Nat} {wt dc : Nat} {H : Nat → Nat → Nat}
theorem kd_S_up {t0 : kx_St} {tn i u s v : Nat} {o : Option Nat} (S : kd_S τ t0 t tn i u s o) : kd_S τ t0 (kx_sI (kx_sI t 18 tn (nI v)) 15 tn (nI (i + 1))) tn (i + 1) u s (some v) := by
  obtain ⟨F, fr, a, b, c, d⟩ := S
  refine ⟨kt_sc (kt_sc F (by decide) _ _) (by decide) _ _, fun x x1 x2 y hy => ?_, kv_us _ _ _ _, ?_, ?_, ?_⟩
  · rw [kv_un (by omega), kv_un (by omega)]; exact fr x x1 x2 y hy
  · rw [kv_un (by omega), kv_un (by omega)]; exact b
  · rw [kv_un (by omega), kv_un (by omega)]; exact c
  · rw [kv_un (by omega), kv_us]; rfl
/-- one option at a turn: the last turn -/
theorem s7_opt_0 (N : kr_now σ τ n kd wd hv w wt dc H) {NT tn i u s pay : Nat} {o : Option Nat} {x3 : Int32} {t0 : kx_St} {k56 : kx_St → Int32 → Int32 → Int32 → Prop} {Q : kx_St → Int32 → Prop} (hNT : NT ≤ 6) (ht : tn + 1 = NT) (hv2 : s + pay < 99999) (ho : ∀ a, o = some a → a < 99999) (S : kd_S τ t0 t tn i u s o) (q : ∀ t', kd_S τ t0 t' tn (i + 1) u s (some (kd_op (kb_lI true tn) o (s + pay))) → k56 t' (nI NT) (nI tn) x3) : p7_duel_J211 t (nI NT) (nI tn) x3 (nI i) (nI s) (nI pay) k56 Q := by
  have v7 : vp_in (nI tn) 7 := kv_in (by omega) (by decide)
  have e1 : nI NT - 1 = nI tn := by rw [← ht, kv_p1]
  unfold p7_duel_J211
  rw [e1, kv_add, kv_c (show tn < 2147483648 by omega)]
  refine kv_T rfl ⟨v7, ?_⟩
  rw [S.2.2.2.2.2]
  refine s7_better (by omega) hv2 ho ⟨v7, v7, v7, ?_⟩
  have e15 : (kx_sI t 18 tn (nI (kd_op (kb_lI true tn) o (s + pay)))).1 15 tn + 1 = nI (i + 1) := by
    rw [kv_un (by omega), S.2.2.1]; exact nI_1 _
  dsimp only
  rw [e15]
  exact q _ (kd_S_up S)
/-- not the last turn: down, and back up -/
theorem s7_opt_1 (N : kr_now σ τ n kd wd hv w wt dc H) {NT tn i u s pay u' c F W : Nat} {o : Option Nat} {x3 : Int32} {t0 : kx_St} {Q : kx_St → Int32 → Prop} (hNT : NT ≤ 6) (ht : tn + 1 < NT) (hi : (i < n ∧ u' = u ||| 2 ^ i) ∨ (i = n ∧ u' = u)) (hu : u < 2 ^ n) (hv2 : s + pay + W < 99999) (ho : ∀ a, o = some a → a < 99999) (S : kd_S τ t0 t tn i u s o)
    (P : ∀ (G : Nat) (t1 : kx_St) (y3 : Int32), kd_S τ t1 t1 (tn + 1) 0 u' (s + pay) none → (∀ t' z3, kd_S τ t1 t' (tn + 1) (n + 1) u' (s + pay) (some (s + pay + W)) → p7_duel_L56 G t' (nI NT) (nI (tn + 1)) z3 Q) → p7_duel_L56 (G + c) t1 (nI NT) (nI (tn + 1)) y3 Q)
    (q : ∀ t' z3, kd_S τ t0 t' tn (i + 1) u s (some (kd_op (kb_lI true tn) o (s + pay + W))) → p7_duel_L56 F t' (nI NT) (nI tn) z3 Q) : p7_duel_J211 t (nI NT) (nI tn) x3 (nI i) (nI s) (nI pay) (fun σ x1 x2 x3 => p7_duel_L56 (F + 1 + c) σ x1 x2 x3 Q) Q := by
  have n6 := kn_n6 N
  have mn : τ.1 0 3 = nI n := kn_mn N
  have v7 : vp_in (nI tn) 7 := kv_in (by omega) (by decide)
  have v71 : vp_in (nI (tn + 1)) 7 := kv_in (by omega) (by decide)
  have l16 : kx_l 1 16 = 7 := by decide
  have ne : ¬ nI tn = nI NT - 1 := by
    obtain ⟨k, hk⟩ : ∃ k, NT = k + 1 := ⟨NT - 1, by omega⟩
    rw [hk, kv_p1]
    exact fun e => by have := (kv_inj (by omega) (by omega)).mp e; omega
  have m3 : t.1 0 3 = nI n := by rw [S.1.2.1 0 (by decide) (by decide)]; exact mn
  have D : ∀ v : Int32, v = nI u' → p7_duel_J293 t (nI NT) (nI (tn + 1)) x3 (nI (s + pay)) 16 (nI (tn + 1)) v (fun σ x1 x2 x3 => p7_duel_L56 (F + 1 + c) σ x1 x2 x3 Q) Q := by
    intro v hv
    subst hv
    unfold p7_duel_J293
    rw [l16, kv_c (show tn + 1 < 2147483648 by omega)]
    refine ⟨v71, v71, s7_begin (by omega) (kt_sc (kt_sc S.1 (by decide) _ _) (by decide) _ _) (fun t1 F1 fr a15 a16 a17 a18 => ?_)⟩
    have S1 : kd_S τ t1 t1 (tn + 1) 0 u' (s + pay) none := by
      refine ⟨F1, fun _ _ _ _ _ => rfl, a15, ?_, ?_, a18⟩
      · rw [a16, kv_un (by omega), kv_us]
      · rw [a17, kv_us]
    have low : ∀ x, 15 ≤ x → x ≤ 18 → ∀ y, y < tn + 1 → t1.1 x y = t.1 x y := fun x x1 x2 y hy => by
      rw [fr x x1 x2 y (by omega), kv_un (by omega), kv_un (by omega)]
    refine P (F + 1) t1 x3 S1 (fun t' z3 S' => ?_)
    obtain ⟨F', fr', b15, b16, b17, b18⟩ := S'
    have low' : ∀ x, 15 ≤ x → x ≤ 18 → ∀ y, y < tn + 1 → t'.1 x y = t.1 x y := fun x x1 x2 y hy => (fr' x x1 x2 y hy).trans (low x x1 x2 y hy)
    have S2 : kd_S τ t0 t' tn i u s o := ⟨F', fun x x1 x2 y hy => (low' x x1 x2 y (by omega)).trans (S.2.1 x x1 x2 y hy), by rw [low' 15 (by decide) (by decide) tn (by omega)]; exact S.2.2.1, by rw [low' 16 (by decide) (by decide) tn (by omega)]; exact S.2.2.2.1, by rw [low' 17 (by decide) (by decide) tn (by omega)]; exact S.2.2.2.2.1, by rw [low' 18 (by decide) (by decide) tn (by omega)]; exact S.2.2.2.2.2⟩
    have m3' : t'.1 0 3 = nI n := by rw [F'.2.1 0 (by decide) (by decide)]; exact mn
    have b18 : t'.1 18 (tn + 1) = nI (s + pay + W) := b18
    have em : nI (tn + 1) + -1 = nI tn := by rw [show nI (tn + 1) + -1 = nI (tn + 1) - 1 from (Int32.sub_eq_add_neg _ _).symm, kv_p1]
    rw [p7_duel_L56]
    refine kv_f (by rw [kv_le0 (by omega)]; omega) (kv_f (kv_ge (by omega)) ⟨1, ?_⟩)
    rw [p7_duel_L64, kv_c (show tn + 1 < 2147483648 by omega), b15, m3']
    refine ⟨v71, kv_t (by rw [kv_leN (by omega) (by omega)]; omega) ?_⟩
    unfold p7_duel_J108
    rw [kv_c (show tn + 1 < 2147483648 by omega), b15, m3', em, b18, kv_c (show tn < 2147483648 by omega), S2.2.2.2.2.2]
    refine ⟨v71, kv_f (by rw [kv_leN (by omega) (by omega)]; omega) ⟨v71, kv_f (kv_ge (by omega)) ⟨v7, s7_better (by omega) hv2 ho ⟨v7, v7, v7, ?_⟩⟩⟩⟩
    have e15 : (kx_sI t' 18 tn (nI (kd_op (kb_lI true tn) o (s + pay + W)))).1 15 tn + 1 = nI (i + 1) := by
      rw [kv_un (by omega), S2.2.2.1]; exact nI_1 _
    dsimp only
    rw [e15]
    exact q _ _ (kd_S_up S2)
  unfold p7_duel_J211
  rw [kv_add, show nI tn + 1 = nI (tn + 1) from nI_1 _, kv_p1, kv_c (show tn < 2147483648 by omega), S.2.2.2.1, m3]
  refine kv_F ne ?_
  rcases hi with ⟨hi, hu'⟩ | ⟨hi, hu'⟩
  · refine kv_f (by rw [kv_leN (by omega) (by omega)]; omega) ⟨v7, D _ ?_⟩
    rw [(ku_or u (kb_or n6 hu hi).2.1 i (by omega)).1, hu']
  · exact kv_t (by rw [kv_leN (by omega) (by omega)]; omega) ⟨v7, D _ (by rw [hu'])⟩
/-- from an option that isn't gone -/
theorem s7_opt_J (N : kr_now σ τ n kd wd hv w wt dc H) {tn i u s : Nat} {o : Option Nat} {x1 x3 : Int32} {t0 : kx_St} {k56 : kx_St → Int32 → Int32 → Int32 → Prop} {Q : kx_St → Int32 → Prop} (ht : tn < 6) (hi : i ≤ n) (S : kd_S τ t0 t tn i u s o) (q1 : i < n → p7_duel_J211 t x1 (nI tn) x3 (nI i) (nI s) (nI (kb_g kd wd hv w (H dc) tn i)) k56 Q) (q0 : i = n → p7_duel_J211 t x1 (nI tn) x3 (nI i) (nI s) (nI 0) k56 Q) : p7_duel_J108 t x1 (nI tn) x3 k56 Q := by
  have n6 := kn_n6 N
  have v7 : vp_in (nI tn) 7 := kv_in (by omega) (by decide)
  have N' := kt_N N S.1
  have m3 : t.1 0 3 = nI n := kn_mn N'
  unfold p7_duel_J108
  rw [kv_c (show tn < 2147483648 by omega), S.2.2.1, m3, S.2.2.2.2.1]
  refine ⟨v7, kv_t (by rw [kv_leN (by omega) (by omega)]; omega) ⟨v7, v7, ?_⟩⟩
  by_cases e : i = n
  · exact kv_t (by rw [kv_leN (by omega) (by omega)]; omega) (q0 e)
  · refine kv_f (by rw [kv_leN (by omega) (by omega)]; omega) (kn_mwind N' (a := tn) ?_ (by omega) (s7_paysIn (b := 0) rfl (kn_M N' (by omega)) (kn_wm N _) (q1 (by omega))))
    rw [show t.1 1 (1 : Int32).toNatClampNeg = nI (H dc 0) from kn_mh N', kv_add]
end
