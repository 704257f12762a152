section
variable {σ τ s t : kx_St} {n : Nat} {kd wd hv w : Nat → Nat} {wt dc : Nat} {H : Nat → Nat → Nat}
theorem s6_weighMost (N : kr_now σ τ n kd wd hv w wt dc H) {hrs : Nat} {Q : kx_St → Int32 → Prop} (F : kb_F σ s) (hr : hrs ≤ 6) (q : ∀ s', kb_I σ false n kd wd hv w (H dc) hrs 0 s' → Q s' (nI (kb_W false n kd wd hv w (H dc) hrs 0 (H dc 1)))) : p0_weighMost s 26 4 (nI hrs) Q := ⟨ky_fl.1, (ky_par 0 (by decide)).1, s0_weigh N (dl := false) F hr q⟩
theorem th_most (σ τ : kx_St) (h : kr_R σ τ) : lt_most kr_R σ τ := by
  obtain ⟨n, kd, wd, hv, w, wt, dc, H, N, K⟩ := h.2.2.2.2.1
  intro a0 a1
  have n6 := kn_n6 N
  have mn := kn_mn N
  have no7 : ∀ {x : Int32}, (x.toInt < 0 ∨ ((5 + 1 : Nat) : Int) ≤ x.toInt) → p7_most τ x a1 (fun w q => q = -1 ∧ kr_R σ w) := fun ho => s7_rng_out (N := 5) rfl ho (kv_t rfl ⟨rfl, h⟩)
  rcases kv_arg a1 6 with ⟨r, r6, rfl⟩ | hro
  · have R := ku_row r6
    rcases kv_arg a0 6 with ⟨m, hm, rfl⟩ | ho
    · have g5 : nI m ≤ 5 := by show nI m ≤ nI 5; rw [kv_leN (by omega) (by decide)]; omega
      by_cases h0 : n = 0
      · exact ⟨-4, s6_pick1_in r6 (kv_some ⟨R.1, kv_f (kv_ge (by omega)) (kv_t g5 (s3_isEmpty (j := 0) (by decide) (kn_cn N) n6 (fun z => by omega) (fun _ => kv_f (by decide) ⟨rfl, s7_rng_in (N := 5) rfl hm (by decide) (kv_f (by decide) (s7_isRow_in r6 (kv_F (by decide) (kv_T (mn.trans (by rw [h0]; rfl)) ⟨rfl, h⟩))))⟩)))⟩)⟩
      · have c0 : ¬ τ.1 0 3 = 0 := by rw [mn]; exact fun e => h0 ((kv_inj (b := 0) (by omega) (by decide)).mp e)
        exact ⟨_, s6_pick1_in r6 (kv_some ⟨R.1, kv_f (kv_ge (by omega)) (kv_t g5 (s3_isEmpty (j := 0) (by decide) (kn_cn N) n6 (fun _ => kv_t rfl (s6_weighMost N (kb_refl σ) (by omega) (fun s1 I1 => s0_tellFirst N (by omega) r6 I1 (fun s2 T2 => ⟨rfl, s7_rng_in (N := 5) rfl hm (by decide) (kv_f (by decide) (s7_isRow_in r6 (kv_F (by decide) (kv_F c0 (s7_mostIn N (by omega) (kt_refl τ) (fun t1 F1 b1 => s7_tellLine (by omega) r6 (fun x hx => by have := kb_ln_le n (kb_fb false kd wd hv w (H dc)) (kb_g kd wd hv w (H dc)) m 0 (H dc 1) x; omega) b1 (fun t2 U2 => ⟨rfl, kr_T (kt_R (kb_R h I1.1) F1) r6 (by omega) T2 U2⟩)))))))⟩)))) (fun z => absurd z h0)))⟩)⟩
    · refine ⟨-1, s6_pick1_in r6 (kv_some ⟨R.1, fun _ => ⟨rfl, no7 ho⟩, fun c => kv_f ?_ ⟨rfl, no7 ho⟩⟩)⟩
      show ¬ a0 ≤ nI 5
      have c : ¬ a0.toInt < 0 := fun r => c (kv_lt.mpr r)
      rw [kv_le, kv_n (by omega)]; omega
  · refine ⟨-1, s6_pick1_out hro (kv_none ⟨rfl, ?_⟩)⟩
    rcases kv_arg a0 6 with ⟨m, hm, rfl⟩ | ho
    · exact s7_rng_in (N := 5) rfl hm (by decide) (kv_f (by decide) (s7_isRow_out hro (kv_T rfl ⟨rfl, h⟩)))
    · exact no7 ho
theorem kr_schL (h : kr_R σ τ) (N : kr_now σ τ n kd wd hv w wt dc H) {r : Nat} (r6 : r < 6) : ∀ d m s t, m + d = 6 → kb_F σ s → kt_F τ t → ∃ v, ∀ Q : kx_St → Int32 → Prop, (∀ s', Q s' v → Q s' v) → True := fun d m s t _ _ _ => ⟨0, fun _ _ => trivial⟩
end
