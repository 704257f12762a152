section
variable {σ τ s : kx_St} {n : Nat} {kd wd hv w : Nat → Nat} {wt dc : Nat} {H : Nat → Nat → Nat}
/-- the class on its way back: only cells of the PARISH that is have changed -/
def ku_un (s σ : kx_St) : Prop := (∀ a, a ≠ 4 → ¬ (30 ≤ a ∧ a < 36) → s.1 a = σ.1 a) ∧ (∀ k, k < 5 → s.1 4 k = σ.1 4 k) ∧ (∀ i, i < 6 → ∀ k, k < 3 → s.1 (30 + i) k = σ.1 (30 + i) k) ∧ (∀ i, i < 6 → s.1 (30 + i) 5 = σ.1 (30 + i) 5 ∨ s.1 (30 + i) 5 = 0) ∧ s.2 = σ.2
theorem ku_un_refl (σ : kx_St) : ku_un σ σ := ⟨fun _ _ _ => rfl, fun _ _ => rfl, fun _ _ _ _ => rfl, fun _ _ => Or.inl rfl, rfl⟩
theorem ku_un_tr {s' : kx_St} (a : ku_un s' s) (b : ku_un s σ) : ku_un s' σ := by
  obtain ⟨a1, a2, a3, a4, a5⟩ := a
  obtain ⟨b1, b2, b3, b4, b5⟩ := b
  refine ⟨fun x h1 h2 => (a1 x h1 h2).trans (b1 x h1 h2), fun k hk => (a2 k hk).trans (b2 k hk), fun i hi k hk => (a3 i hi k hk).trans (b3 i hi k hk), fun i hi => ?_, a5.trans b5⟩
  rcases a4 i hi with q | q
  · rw [q]; exact b4 i hi
  · exact Or.inr q
theorem s3_undoLatest {e : Nat} {c : Int32} {v v' : Nat → Nat} {Q : kx_St → Prop} (hn : n ≤ 6) (hs : s.1 4 3 = nI n) (he : e < 40) (C : kc_dyn s 0 n (e + 1) v') (hc : s.1 20 e = c) (V : kp_v n v) (D : kd_deed n c v v') (q : ∀ s', ku_un s' s → kc_dyn s' 0 n e v → Q s') : p3_undoLatest s 4 Q := by
  obtain ⟨k1, r0, r1, r2, l0, l1, l2⟩ := ky_par 0 (by decide)
  have r2 : kx_r 0 4 2 = 20 := r2
  have l2 : kx_l 0 20 = 40 := l2
  obtain ⟨c5, c6, c7, c8⟩ := C
  have c6 : s.1 4 6 = nI (e + 1) := c6
  have c5 : s.1 4 5 = nI (v' 0) := c5
  have c7 : s.1 4 7 = nI (kp_sum v') := c7
  unfold p3_undoLatest
  rw [r2, l2, c6, kv_p1]
  refine ⟨k1, kv_f (by rw [kv_le0 (by omega)]; omega) (kv_t (by show nI (e + 1) ≤ nI 40; rw [kv_leN (by omega) (by omega)]; omega) ?_)⟩
  have x6 : (kx_sI s 4 6 (nI e)).1 4 6 = nI e := kv_us _ _ _ _
  have x20 : (kx_sI s 4 6 (nI e)).1 20 e = c := by rw [kv_un (by omega)]; exact hc
  have x3 : (kx_sI s 4 6 (nI e)).1 (4 + 0) 3 = nI n := by rw [kv_un (by omega)]; exact hs
  have x5 : (kx_sI s 4 6 (nI e)).1 4 5 = nI (v' 0) := by rw [kv_un (by omega)]; exact c5
  show vp_in ((kx_sI s 4 6 (nI e)).1 4 6) 40 ∧ _
  rw [x6, kv_c (by omega), x20]
  refine ⟨kv_in he (by decide), kv_in he (by decide), ?_⟩
  rcases D with ⟨i, hi, rfl, hb, v0, v1, v2, ev⟩ | ⟨rfl, v0, ev⟩ | ⟨i, hi, rfl, v3, ev⟩ | ⟨i, hi, rfl, v3, ev⟩
  · have d1 : nI i / 8 = nI 0 := by rw [show (8 : Int32) = nI 8 from rfl, kv_div (by omega) (by decide) (by decide)]; congr 1; omega
    have d2 : nI i - nI i / 8 * 8 = nI i := by rw [d1]; show nI i - nI 0 = nI i; rw [kv_sub (by omega)]; rfl
    have hz : v (9 + i) = 0 := V.2.2.2.2 i (by omega) hb
    have es : kp_sum v' = kp_sum v + v' (9 + i) := by
      unfold kp_sum
      rcases (show i = 0 ∨ i = 1 ∨ i = 2 ∨ i = 3 ∨ i = 4 ∨ i = 5 by omega) with rfl | rfl | rfl | rfl | rfl | rfl
      · have hz : v 9 = 0 := hz
        rw [hz, ev 10 (by omega) (by omega) (by omega), ev 11 (by omega) (by omega) (by omega), ev 12 (by omega) (by omega) (by omega), ev 13 (by omega) (by omega) (by omega), ev 14 (by omega) (by omega) (by omega)]
        show v' 9 + _ + _ + _ + _ + _ = _ + v' 9
        omega
      · have hz : v 10 = 0 := hz
        rw [hz, ev 9 (by omega) (by omega) (by omega), ev 11 (by omega) (by omega) (by omega), ev 12 (by omega) (by omega) (by omega), ev 13 (by omega) (by omega) (by omega), ev 14 (by omega) (by omega) (by omega)]
        show _ + v' 10 + _ + _ + _ + _ = _ + v' 10
        omega
      · have hz : v 11 = 0 := hz
        rw [hz, ev 9 (by omega) (by omega) (by omega), ev 10 (by omega) (by omega) (by omega), ev 12 (by omega) (by omega) (by omega), ev 13 (by omega) (by omega) (by omega), ev 14 (by omega) (by omega) (by omega)]
        show _ + _ + v' 11 + _ + _ + _ = _ + v' 11
        omega
      · have hz : v 12 = 0 := hz
        rw [hz, ev 9 (by omega) (by omega) (by omega), ev 10 (by omega) (by omega) (by omega), ev 11 (by omega) (by omega) (by omega), ev 13 (by omega) (by omega) (by omega), ev 14 (by omega) (by omega) (by omega)]
        show _ + _ + _ + v' 12 + _ + _ = _ + v' 12
        omega
      · have hz : v 13 = 0 := hz
        rw [hz, ev 9 (by omega) (by omega) (by omega), ev 10 (by omega) (by omega) (by omega), ev 11 (by omega) (by omega) (by omega), ev 12 (by omega) (by omega) (by omega), ev 14 (by omega) (by omega) (by omega)]
        show _ + _ + _ + _ + v' 13 + _ = _ + v' 13
        omega
      · have hz : v 14 = 0 := hz
        rw [hz, ev 9 (by omega) (by omega) (by omega), ev 10 (by omega) (by omega) (by omega), ev 11 (by omega) (by omega) (by omega), ev 12 (by omega) (by omega) (by omega), ev 13 (by omega) (by omega) (by omega)]
        show _ + _ + _ + _ + _ + v' 14 = _ + v' 14
        omega
    rw [d2]
    refine s3_kiteAt_in (j := 0) (by decide) x3 hn hi (kv_some ⟨(ky_kit 0 (by decide) i (by omega)).1, kv_t d1 (kv_T d1 ?_)⟩)
    have tb : (v' 1).testBit i = true := by rw [v1]; exact kv_tb.mpr (Or.inr rfl)
    have g4 : (kx_sI (kx_sI s 4 6 (nI e)) 4 5 ((kx_sI s 4 6 (nI e)).1 4 5 - 1)).1 (30 + 6 * 0 + i) 4 = nI (v' (9 + i)) := by
      rw [kv_un (by omega), kv_un (by omega), (c8 i hi).2.1, if_pos tb]
    have g7 : (kx_sI (kx_sI s 4 6 (nI e)) 4 5 ((kx_sI s 4 6 (nI e)).1 4 5 - 1)).1 4 7 = nI (kp_sum v') := by
      rw [kv_un (by omega), kv_un (by omega)]; exact c7
    rw [g4, g7, kv_sub (by omega), x5, v0, kv_p1]
    refine q _ ⟨fun a h1 h2 => ?_, fun k hk => ?_, fun j hj k hk => ?_, fun j hj => ?_, rfl⟩ ⟨?_, ?_, ?_, fun j hj => ⟨?_, ?_, ?_⟩⟩
    · rw [kv_ua (by omega), kv_ua (by omega), kv_ua h1, kv_ua h1, kv_ua h1]
    · rw [kv_un (by omega), kv_un (by omega), kv_un (by omega), kv_un (by omega), kv_un (by omega)]
    · rw [kv_un (by omega), kv_un (by omega), kv_un (by omega), kv_un (by omega), kv_un (by omega)]
    · by_cases f : j = i
      · subst f; exact Or.inr (kv_us _ _ _ _)
      · rw [kv_un (by omega), kv_un (by omega), kv_un (by omega), kv_un (by omega), kv_un (by omega)]; exact Or.inl rfl
    · rw [kv_un (by omega), kv_un (by omega), kv_un (by omega)]; exact kv_us _ _ _ _
    · rw [kv_un (by omega), kv_un (by omega), kv_un (by omega), kv_un (by omega)]; exact kv_us _ _ _ _
    · rw [kv_un (by omega), kv_un (by omega), show kp_sum v' - v' (9 + i) = kp_sum v by omega]; exact kv_us _ _ _ _
    · rw [kv_un (by omega), kv_un (by omega), kv_un (by omega), kv_un (by omega), kv_un (by omega), (c8 j hj).1, ev _ (by omega) (by omega) (by omega)]
    · rw [kv_un (by omega)]
      by_cases f : j = i
      · subst f
        rw [if_neg (by rw [hb]; decide)]; exact kv_us _ _ _ _
      · rw [kv_un (by omega), kv_un (by omega), kv_un (by omega), kv_un (by omega), (c8 j hj).2.1, v1, ev _ (by omega) (by omega) (by omega)]
        have : (v 1 ||| 2 ^ i).testBit j = true ↔ (v 1).testBit j = true := by rw [kv_tb]; exact ⟨fun r => r.elim id (fun r => absurd r.symm f), Or.inl⟩
        by_cases hh : (v 1).testBit j = true
        · rw [if_pos hh, if_pos (this.mpr hh)]
        · rw [if_neg hh, if_neg (fun r => hh (this.mp r))]
    · by_cases f : j = i
      · subst f
        have nb : ¬ (v 2).testBit j = true := fun r => by rw [V.2.1 j r] at hb; cases hb
        rw [if_neg nb]; exact kv_us _ _ _ _
      · rw [kv_un (by omega), kv_un (by omega), kv_un (by omega), kv_un (by omega), kv_un (by omega), (c8 j hj).2.2]
        rcases v2 with v2 | v2
        · rw [v2]
        · rw [v2]
          have : (v 2 ||| 2 ^ i).testBit j = true ↔ (v 2).testBit j = true := by rw [kv_tb]; exact ⟨fun r => r.elim id (fun r => absurd r.symm f), Or.inl⟩
          by_cases hh : (v 2).testBit j = true
          · rw [if_pos hh, if_pos (this.mpr hh)]
          · rw [if_neg hh, if_neg (fun r => hh (this.mp r))]
  · have d1 : nI 8 / 8 = 1 := by decide
    have d2 : nI 8 - nI 8 / 8 * 8 = nI 0 := by decide
    have n1 : ¬ nI 8 / 8 = 0 := by decide
    have n2 : ¬ nI 8 / 8 = 2 := by decide
    have n3 : ¬ nI 8 / 8 = 3 := by decide
    have es : kp_sum v' = kp_sum v := by unfold kp_sum; rw [ev 9 (by omega) (by omega), ev 10 (by omega) (by omega), ev 11 (by omega) (by omega), ev 12 (by omega) (by omega), ev 13 (by omega) (by omega), ev 14 (by omega) (by omega)]
    have F : Q (kx_sI (kx_sI s 4 6 (nI e)) 4 5 ((kx_sI s 4 6 (nI e)).1 4 5 - 1)) := by
      rw [x5, v0, kv_p1]
      refine q _ ⟨fun a h1 h2 => ?_, fun k hk => ?_, fun j hj k hk => ?_, fun j hj => ?_, rfl⟩ ⟨?_, ?_, ?_, fun j hj => ⟨?_, ?_, ?_⟩⟩
      · rw [kv_ua h1, kv_ua h1]
      · rw [kv_un (by omega), kv_un (by omega)]
      · rw [kv_un (by omega), kv_un (by omega)]
      · rw [kv_un (by omega), kv_un (by omega)]; exact Or.inl rfl
      · exact kv_us _ _ _ _
      · rw [kv_un (by omega)]; exact kv_us _ _ _ _
      · rw [kv_un (by omega), kv_un (by omega), ← es]; exact c7
      · rw [kv_un (by omega), kv_un (by omega), (c8 j hj).1, ev _ (by omega) (by omega)]
      · rw [kv_un (by omega), kv_un (by omega), (c8 j hj).2.1, ev 1 (by omega) (by omega), ev _ (by omega) (by omega)]
      · rw [kv_un (by omega), kv_un (by omega), (c8 j hj).2.2, ev 2 (by omega) (by omega)]
    rw [d2]
    by_cases h0 : n = 0
    · exact s3_kiteAt_out (j := 0) (by decide) x3 hn (Or.inr (by rw [h0]; decide)) (kv_none (kv_f n1 (kv_T d1 F)))
    · exact s3_kiteAt_in (j := 0) (by decide) x3 hn (by omega) (kv_some ⟨(ky_kit 0 (by decide) 0 (by omega)).1, kv_f n1 (kv_T d1 (kv_F n1 (kv_F n2 (kv_F n3 F))))⟩)
  · have z8 : (8 : Int32) = nI 8 := rfl
    have dd : (16 + i) / 8 = 2 := by omega
    have dm : (16 + i) % 8 = i := by omega
    have d1 : nI (16 + i) / 8 = 2 := by rw [z8, kv_div (by omega) (by decide) (by decide), dd]; rfl
    have d2 : nI (16 + i) - nI (16 + i) / 8 * 8 = nI i := by rw [z8, kv_rem (by omega) (by decide) (by decide), dm]
    have n0 : ¬ nI (16 + i) / 8 = 0 := by rw [d1]; decide
    have n1 : ¬ nI (16 + i) / 8 = 1 := by rw [d1]; decide
    have es : kp_sum v' = kp_sum v := by unfold kp_sum; rw [ev 9 (by omega) (by omega), ev 10 (by omega) (by omega), ev 11 (by omega) (by omega), ev 12 (by omega) (by omega), ev 13 (by omega) (by omega), ev 14 (by omega) (by omega)]
    rw [d2]
    refine s3_kiteAt_in (j := 0) (by decide) x3 hn hi (kv_some ⟨(ky_kit 0 (by decide) i (by omega)).1, kv_f n0 (kv_F n1 (kv_F n0 (kv_T d1 ?_)))⟩)
    have g3 : (kx_sI s 4 6 (nI e)).1 (30 + 6 * 0 + i) 3 = nI (v (3 + i) + 1) := by rw [kv_un (by omega), (c8 i hi).1, v3]
    rw [g3, kv_p1]
    refine q _ ⟨fun a h1 h2 => ?_, fun k hk => ?_, fun j hj k hk => ?_, fun j hj => ?_, rfl⟩ ⟨?_, ?_, ?_, fun j hj => ⟨?_, ?_, ?_⟩⟩
    · rw [kv_ua (by omega), kv_ua h1]
    · rw [kv_un (by omega), kv_un (by omega)]
    · rw [kv_un (by omega), kv_un (by omega)]
    · rw [kv_un (by omega), kv_un (by omega)]; exact Or.inl rfl
    · rw [kv_un (by omega), kv_un (by omega), ← ev 0 (by omega) (by omega)]; exact c5
    · rw [kv_un (by omega)]; exact kv_us _ _ _ _
    · rw [kv_un (by omega), kv_un (by omega), ← es]; exact c7
    · by_cases f : j = i
      · subst f; exact kv_us _ _ _ _
      · rw [kv_un (by omega), kv_un (by omega), (c8 j hj).1, ev _ (by omega) (by omega)]
    · rw [kv_un (by omega), kv_un (by omega), (c8 j hj).2.1, ev 1 (by omega) (by omega), ev _ (by omega) (by omega)]
    · rw [kv_un (by omega), kv_un (by omega), (c8 j hj).2.2, ev 2 (by omega) (by omega)]
  · have z8 : (8 : Int32) = nI 8 := rfl
    have dd : (24 + i) / 8 = 3 := by omega
    have dm : (24 + i) % 8 = i := by omega
    have d1 : nI (24 + i) / 8 = 3 := by rw [z8, kv_div (by omega) (by decide) (by decide), dd]; rfl
    have d2 : nI (24 + i) - nI (24 + i) / 8 * 8 = nI i := by rw [z8, kv_rem (by omega) (by decide) (by decide), dm]
    have n0 : ¬ nI (24 + i) / 8 = 0 := by rw [d1]; decide
    have n1 : ¬ nI (24 + i) / 8 = 1 := by rw [d1]; decide
    have n2 : ¬ nI (24 + i) / 8 = 2 := by rw [d1]; decide
    have es : kp_sum v' = kp_sum v := by unfold kp_sum; rw [ev 9 (by omega) (by omega), ev 10 (by omega) (by omega), ev 11 (by omega) (by omega), ev 12 (by omega) (by omega), ev 13 (by omega) (by omega), ev 14 (by omega) (by omega)]
    rw [d2]
    refine s3_kiteAt_in (j := 0) (by decide) x3 hn hi (kv_some ⟨(ky_kit 0 (by decide) i (by omega)).1, kv_f n0 (kv_F n1 (kv_F n0 (kv_F n2 (kv_T d1 ?_))))⟩)
    have g3 : (kx_sI s 4 6 (nI e)).1 (30 + 6 * 0 + i) 3 = nI (v' (3 + i)) := by rw [kv_un (by omega), (c8 i hi).1]
    rw [g3, show nI (v' (3 + i)) + 1 = nI (v' (3 + i) + 1) from nI_1 _, ← v3]
    refine q _ ⟨fun a h1 h2 => ?_, fun k hk => ?_, fun j hj k hk => ?_, fun j hj => ?_, rfl⟩ ⟨?_, ?_, ?_, fun j hj => ⟨?_, ?_, ?_⟩⟩
    · rw [kv_ua (by omega), kv_ua h1]
    · rw [kv_un (by omega), kv_un (by omega)]
    · rw [kv_un (by omega), kv_un (by omega)]
    · rw [kv_un (by omega), kv_un (by omega)]; exact Or.inl rfl
    · rw [kv_un (by omega), kv_un (by omega), ← ev 0 (by omega) (by omega)]; exact c5
    · rw [kv_un (by omega)]; exact kv_us _ _ _ _
    · rw [kv_un (by omega), kv_un (by omega), ← es]; exact c7
    · by_cases f : j = i
      · subst f; exact kv_us _ _ _ _
      · rw [kv_un (by omega), kv_un (by omega), (c8 j hj).1, ev _ (by omega) (by omega)]
    · rw [kv_un (by omega), kv_un (by omega), (c8 j hj).2.1, ev 1 (by omega) (by omega), ev _ (by omega) (by omega)]
    · rw [kv_un (by omega), kv_un (by omega), (c8 j hj).2.2, ev 2 (by omega) (by omega)]
theorem s6_undo_L (N : kr_now σ τ n kd wd hv w wt dc H) {m : Nat} {Q : kx_St → Int32 → Prop} (hm : m ≤ dc) (q : ∀ s, ku_un s σ → kc_dyn s 0 n m (H m) → Q s (nI (dc - m))) : ∀ f e s, m ≤ e → e ≤ dc → e - m < f → ku_un s σ → kc_dyn s 0 n e (H e) → p6_undo_L29 f s (nI (dc - m)) (nI (dc - e)) Q := by
  have d40 := kn_dc N
  intro f
  induction f with
  | zero => intro e s h1 h2 h3; omega
  | succ f ih =>
    intro e s h1 h2 h3 U C
    unfold p6_undo_L29
    by_cases hem : e = m
    · subst hem
      exact kv_t (by rw [kv_leN (by omega) (by omega)]; omega) (q s U C)
    · obtain ⟨e', rfl⟩ : ∃ e', e = e' + 1 := ⟨e - 1, by omega⟩
      refine kv_f (by rw [kv_leN (by omega) (by omega)]; omega) ?_
      refine s3_undoLatest (v := H e') (v' := H (e' + 1)) (e := e') (kn_n6 N) ((U.2.1 3 (by decide)).trans (kn_cn N)) (by omega) C rfl (N.2.2.2.2.2.2.1 e' (by omega)).1 ?_ (fun s' U' C' => ?_)
      · rw [U.1 20 (by decide) (by decide)]
        exact N.2.2.2.2.2.2.2 e' (by omega)
      · rw [show nI (dc - (e' + 1)) + 1 = nI (dc - e') from by rw [show nI (dc - (e' + 1)) + 1 = nI (dc - (e' + 1) + 1) from nI_1 _, show dc - (e' + 1) + 1 = dc - e' by omega]]
        exact ih e' s' (by omega) (by omega) (by omega) (ku_un_tr U' U) C'
theorem kr_undo {τ' : kx_St} (h : kr_R σ τ) (N : kr_now σ τ n kd wd hv w wt dc H) (K : kr_kep σ τ n kd wd hv w wt) {m : Nat} (hm : m ≤ dc) (U : ku_un s σ) (C : kc_dyn s 0 n m (H m)) (t1 : ∀ c, c ≠ 1 → τ'.1 c = τ.1 c) (tm : τ'.2 = τ.2) (t0 : τ'.1 1 0 = nI m) (tv : ∀ k, k < 15 → τ'.1 1 (1 + k) = nI (H m k)) (tp : ∀ x, 16 ≤ x → τ'.1 1 x = τ.1 1 x) : kr_R s τ' := by
  have n6 := kn_n6 N
  have d40 := kn_dc N
  obtain ⟨u1, u2, u3, u4, u5⟩ := U
  refine kr_R_par h (fun a ha _ _ _ _ _ => u1 a (by unfold kr_pc at ha; omega) (by unfold kr_pc at ha; omega)) (fun a ha hb => ?_) u5 t1 tm ⟨n, kd, wd, hv, w, wt, m, H, ⟨N.1, kc_sta_fr N.2.1 (u2 3 (by decide)) (u2 4 (by decide)) (u1 10 (by decide) (by decide)) (fun i hi k hk => u3 i (by omega) k hk), km_sta_fr N.2.2.1 (by rw [t1 0 (by decide)]) (by rw [t1 0 (by decide)]) (fun c q1 q2 => t1 c (by omega)), by omega, C, ⟨t0, fun k hk => ?_, fun d hd k hk => ?_⟩, fun d hd => N.2.2.2.2.2.2.1 d (by omega), fun d hd => ?_⟩, kr_kep_fr K n6 (fun a ha q1 _ _ q4 => u1 a q1 q4) (fun k hk _ => tp k (by omega))⟩
  · by_cases hq : a < 36
    · have := u4 (a - 30) (by omega)
      rw [show 30 + (a - 30) = a by omega] at this
      rcases this with q | q
      · rw [q]; exact h.2.2.2.2.2.2 a ha hb
      · exact Or.inl q
    · rw [u1 a (by omega) (by omega)]; exact h.2.2.2.2.2.2 a ha hb
  · have := tv k hk
    rwa [show 0 + 1 + k = 1 + k by omega]
  · rw [tp _ (by omega)]
    exact N.2.2.2.2.2.1.2.2 d (by omega) k hk
  · show kd_deed n (s.1 20 d) _ _
    rw [u1 20 (by decide) (by decide)]
    exact N.2.2.2.2.2.2.2 d (by omega)
theorem th_undo (σ τ : kx_St) (h : kr_R σ τ) : lt_undo kr_R σ τ := by
  obtain ⟨n, kd, wd, hv, w, wt, dc, H, N, K⟩ := h.2.2.2.2.1
  intro a0
  unfold p6_undo p7_undo
  have d40 := kn_dc N
  have hcd : σ.1 4 6 = nI dc := kn_cd N
  have hmd : τ.1 1 (0 : Int32).toNatClampNeg = nI dc := kn_md N
  rw [hcd, hmd]
  rcases kv_arg a0 (dc + 1) with ⟨m, hm, rfl⟩ | ho
  · rw [kv_sub (show m ≤ dc by omega)]
    refine ⟨nI (dc - m), kv_f (kv_ge (by omega)) (kv_t (by rw [kv_leN (by omega) (by omega)]; omega) ⟨dc - m + 1, ?_⟩)⟩
    have := s6_undo_L N (m := m) (by omega) (Q := fun u r => r = nI (dc - m) ∧ p7_in (nI m).toInt64 0 (nI dc).toInt64 (fun r1 => (¬ r1 = 0 → ∃ m29, p7_undo_L29 m29 τ (nI m) (nI (dc - m)) 0 (fun w q => q = nI (dc - m) ∧ kr_R u w)) ∧ (r1 = 0 → (-1 : Int32) = nI (dc - m) ∧ kr_R u τ))) (fun s U C => ⟨rfl, s7_in (fun _ => kv_F (by decide) ?_) (fun c => absurd ?_ c)⟩) (dc - m + 1) dc σ (by omega) (by omega) (by omega) (ku_un_refl σ) N.2.2.2.2.1
    · rw [Nat.sub_self] at this
      exact this
    · have E : ∀ j, ((j = 15 ∧ m < dc) ∨ m = dc ∧ j = 0) → kr_R s (kx_sI (kq_c6 τ (16 + 15 * m) 1 j) 1 0 (nI m)) := by
        intro j hj
        refine kr_undo h N K (by omega) U C (fun c hc => ?_) rfl (kv_us _ _ _ _) (fun k hk => ?_) (fun x hx => ?_)
        · rw [kv_ua hc]; funext x; rw [kq_c6_at, if_neg (by omega)]
        · rw [kv_un (by omega), kq_c6_at]
          rcases hj with ⟨rfl, hlt⟩ | ⟨rfl, rfl⟩
          · rw [if_pos (by omega)]
            have := N.2.2.2.2.2.1.2.2 m hlt k hk
            rwa [show 16 + 15 * m + (1 + k - 1) = 0 + 16 + 15 * m + k by omega]
          · rw [if_neg (by omega)]; exact kn_mk N hk
        · rw [kv_un (by omega), kq_c6_at, if_neg (by omega)]
      have L : ∀ f j, j ≤ 15 → 15 - j < f → m < dc → p7_undo_L29 f (kq_c6 τ (16 + 15 * m) 1 j) (nI m) (nI (dc - m)) (nI j) (fun w q => q = nI (dc - m) ∧ kr_R s w) := by
        intro f
        induction f with
        | zero => intro j h1 h2; omega
        | succ f ih =>
          intro j hj hf hlt
          unfold p7_undo_L29
          by_cases h15 : j = 15
          · subst h15
            exact kv_t (by decide) ⟨rfl, E 15 (Or.inl ⟨rfl, hlt⟩)⟩
          · refine kv_f (by show ¬ nI 15 ≤ nI j; rw [kv_leN (by omega) (by omega)]; omega) (kv_f (by rw [kv_le0 (by omega)]; omega) ?_)
            rw [show (16 : Int32) + 15 * nI m + nI j = nI (16 + 15 * m + j) from by rw [show (16 : Int32) = nI 16 from rfl, show (15 : Int32) = nI 15 from rfl, kv_mul, kv_add, kv_add], show (1 : Int32) + nI j = nI (1 + j) from kv_add 1 j, show nI j + 1 = nI (j + 1) from nI_1 j, kv_c (by omega), kv_c (by omega)]
            refine ⟨kv_in (by omega) (by decide), kv_in (by omega) (by decide), ?_⟩
            have e : (kq_c6 τ (16 + 15 * m) 1 j).1 1 (16 + 15 * m + j) = τ.1 1 (16 + 15 * m + j) := by rw [kq_c6_at, if_neg (by omega)]
            show p7_undo_L29 f (kx_sI (kq_c6 τ (16 + 15 * m) 1 j) 1 (1 + j) ((kq_c6 τ (16 + 15 * m) 1 j).1 1 (16 + 15 * m + j))) (nI m) (nI (dc - m)) (nI (j + 1)) _
            rw [e, kq_c6S]
            exact ih (j + 1) (by omega) (by omega) hlt
      rcases Nat.lt_or_ge m dc with hlt | hge
      · have := L 16 0 (by omega) (by omega) hlt
        rw [kq_c60] at this
        exact ⟨16, this⟩
      · have e : m = dc := by omega
        refine ⟨1, ?_⟩
        unfold p7_undo_L29
        have := E 0 (Or.inr ⟨e, rfl⟩)
        rw [kq_c60] at this
        exact kv_f (by decide) (kv_t (by rw [kv_le0 (by omega)]; omega) ⟨rfl, this⟩)
    · rw [kv_l, kv_l, kv_n (by omega), kv_n (by omega)]
      show (0 : Int) ≤ _ ∧ _
      omega
  · have mm : p7_in a0.toInt64 0 (nI dc).toInt64 (fun r1 => (¬ r1 = 0 → ∃ m29, p7_undo_L29 m29 τ a0 (nI dc - a0) 0 (fun w q => q = -1 ∧ kr_R σ w)) ∧ (r1 = 0 → (-1 : Int32) = -1 ∧ kr_R σ τ)) := s7_rng_out (N := dc) (by rw [kv_l, kv_n (by omega)]) ho (kv_T rfl ⟨rfl, h⟩)
    refine ⟨-1, fun _ => ⟨rfl, mm⟩, fun c => kv_f ?_ ⟨rfl, mm⟩⟩
    have c : ¬ a0.toInt < 0 := fun r => c (kv_lt.mpr r)
    rw [kv_le, kv_n (by omega)]; omega
end
