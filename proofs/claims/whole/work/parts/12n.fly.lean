section
variable {σ τ ρ : kx_St} {n : Nat} {kd wd hv w : Nat → Nat} {wt dc : Nat} {H : Nat → Nat → Nat}
theorem ku_or : ∀ a, a < 64 → ∀ i, i < 6 → nI a ||| ((1 : Int32) <<< (nI i &&& 31)) = nI (a ||| 2 ^ i) ∧ nI a ||| 0 = nI a := by decide +kernel
def kq_fly (ρ : kx_St) (b i : Nat) (L P F A : Int32) : kx_St := kx_sI (kx_sI (kx_sI (kx_sI ρ 1 (b + 3) L) 1 (b + 10 + i) P) 1 (b + 2) F) 1 (b + 1) A
theorem ku_M_fr {τ τ' : kx_St} {b i k w hv t : Nat} (M : ku_M τ b i k w hv t) (h3 : τ'.1 3 = τ.1 3) (h4 : τ'.1 4 = τ.1 4) (h5 : τ'.1 5 = τ.1 5) (h1 : τ'.1 1 (b + 4 + i) = τ.1 1 (b + 4 + i)) : ku_M τ' b i k w hv t := by
  unfold ku_M
  rw [h3, h4, h5, h1]
  exact M
theorem s7_flies {b i k wi hi t a f l : Nat} {B : Int32} {Q : kx_St → Int32 → Prop} (hB : B = nI b) (M : ku_M ρ b i k wi hi t) (ha : ρ.1 1 (b + 1) = nI a) (ha2 : a < 1000) (hw : ∀ h, h < 4 → ρ.1 2 h = nI (w h)) (hw9 : ∀ h, h < 4 → w h < 10) (hf : ρ.1 1 (b + 2) = nI f) (f64 : f < 64) (hl : ρ.1 1 (b + 3) = nI l) (l64 : l < 64) (q : Q (kq_fly ρ b i (nI (if 4 * hi < ku_lift k wi t (w (a % 4)) then l ||| 2 ^ i else l)) (nI (ku_pay k wi hi t (w (a % 4)))) (nI (f ||| 2 ^ i)) (nI (a + 1))) (nI (ku_pay k wi hi t (w (a % 4))))) : p7_flies ρ B (nI i) Q := by
  have i6 : i < 6 := M.1
  have b2464 : b ≤ 2464 := M.2.1
  have ww : w (a % 4) < 10 := hw9 _ (Nat.mod_lt _ (by decide))
  subst hB
  have z1 : (nI b + 1 : Int32) = nI (b + 1) := nI_1 b
  have z2 : (nI b + 2 : Int32) = nI (b + 2) := kv_add b 2
  have z3 : (nI b + 3 : Int32) = nI (b + 3) := kv_add b 3
  have z10 : (nI b + 10 + nI i : Int32) = nI (b + 10 + i) := by rw [show (nI b + 10 : Int32) = nI (b + 10) from kv_add b 10, kv_add]
  have J : ∀ (s : Int32) (L : Nat), nI l ||| s = nI L → Q (kq_fly ρ b i (nI L) (nI (ku_pay k wi hi t (w (a % 4)))) (nI (f ||| 2 ^ i)) (nI (a + 1))) (nI (ku_pay k wi hi t (w (a % 4)))) → p7_flies_J39 ρ (nI b) (nI i) (nI (w (a % 4))) 1 (nI (b + 3)) (nI l) s Q := by
    intro s L hs q
    unfold p7_flies_J39
    rw [z1, z2, z10, hs, kv_c (show b + 3 < 2147483648 by omega), kv_c (show b + 2 < 2147483648 by omega), kv_c (show b + 1 < 2147483648 by omega), kv_c (show b + 10 + i < 2147483648 by omega)]
    refine ⟨kv_in (show b + 3 < 2480 by omega) (by decide), ?_⟩
    refine s7_paysIn rfl (ku_M_fr M (kv_ua (by decide)) (kv_ua (by decide)) (kv_ua (by decide)) (kv_un (by omega))) ww ⟨kv_in (by omega) (by decide), ?_⟩
    refine ⟨kv_in (by omega) (by decide), kv_in (by omega) (by decide), ?_⟩
    have e2 : (kx_sI (kx_sI ρ 1 (b + 3) (nI L)) 1 (b + 10 + i) (nI (ku_pay k wi hi t (w (a % 4))))).1 1 (b + 2) = nI f := by rw [kv_un (by omega), kv_un (by omega)]; exact hf
    show vp_in (nI (b + 1)) 2480 ∧ _
    refine ⟨kv_in (by omega) (by decide), kv_in (by omega) (by decide), ?_⟩
    show vp_in (nI (b + 10 + i)) 2480 ∧ _
    refine ⟨kv_in (by omega) (by decide), ?_⟩
    rw [e2, (ku_or f f64 i i6).1]
    have e1 : (kx_sI (kx_sI (kx_sI ρ 1 (b + 3) (nI L)) 1 (b + 10 + i) (nI (ku_pay k wi hi t (w (a % 4))))) 1 (b + 2) (nI (f ||| 2 ^ i))).1 1 (b + 1) = nI a := by rw [kv_un (by omega), kv_un (by omega), kv_un (by omega)]; exact ha
    rw [e1, show nI a + 1 = nI (a + 1) from nI_1 a]
    have e0 : (kx_sI (kx_sI (kx_sI (kx_sI ρ 1 (b + 3) (nI L)) 1 (b + 10 + i) (nI (ku_pay k wi hi t (w (a % 4))))) 1 (b + 2) (nI (f ||| 2 ^ i))) 1 (b + 1) (nI (a + 1))).1 1 (b + 10 + i) = nI (ku_pay k wi hi t (w (a % 4))) := by rw [kv_un (by omega), kv_un (by omega), kv_us]
    rw [e0]
    exact q
  unfold p7_flies
  rw [z1, z3, kv_c (show b + 3 < 2147483648 by omega), kv_c (show b + 1 < 2147483648 by omega), ha, hl]
  refine ⟨kv_in (by omega) (by decide), s7_windAt rfl ha2 hw ⟨kv_in (by omega) (by decide), s7_isLifted rfl M ww (fun c => kv_f (by decide) (J _ _ (ku_or l l64 i i6).1 ?_)) (fun c => kv_t rfl (J _ _ (ku_or l l64 i i6).2 ?_))⟩⟩
  · rw [if_pos c] at q; exact q
  · rw [if_neg c] at q; exact q
def kq_flown (σ : kx_St) (i dc : Nat) (p l s hr : Int32) : kx_St := kx_sI (kx_sI (kx_sI (kx_sI (kx_sI (kx_sI σ (30 + i) 4 p) (30 + i) 5 l) 4 7 s) 4 5 hr) 20 dc (nI i)) 4 6 (nI (dc + 1))
theorem kv_tb {v i j : Nat} : (v ||| 2 ^ i).testBit j = true ↔ v.testBit j = true ∨ i = j := by
  rw [Nat.testBit_or, Nat.testBit_two_pow, Bool.or_eq_true, decide_eq_true_iff]
theorem kr_fly (h : kr_R σ τ) (N : kr_now σ τ n kd wd hv w wt dc H) (K : kr_kep σ τ n kd wd hv w wt) (hd : dc < 40) {i p : Nat} (hi : i < n) (hb : (H dc 1).testBit i = false) (hp : p ≤ 51) (b : Prop) [Decidable b] : kr_R (kq_flown σ i dc (nI p) (if b then 1 else 0) (nI (kp_sum (H dc) + p)) (nI (H dc 0 + 1))) (kq_fly (kq_past τ dc) 0 i (nI (if b then H dc 2 ||| 2 ^ i else H dc 2)) (nI p) (nI (H dc 1 ||| 2 ^ i)) (nI (H dc 0 + 1))) := by
  have V := kn_v N
  have n6 := kn_n6 N
  obtain ⟨v', v0, v1, v2, vp, ev⟩ : ∃ v' : Nat → Nat, v' 0 = H dc 0 + 1 ∧ v' 1 = H dc 1 ||| 2 ^ i ∧ v' 2 = (if b then H dc 2 ||| 2 ^ i else H dc 2) ∧ v' (9 + i) = p ∧ ∀ k, 3 ≤ k → k ≠ 9 + i → v' k = H dc k := ⟨fun k => if k = 0 then H dc 0 + 1 else if k = 1 then H dc 1 ||| 2 ^ i else if k = 2 then (if b then H dc 2 ||| 2 ^ i else H dc 2) else if k = 9 + i then p else H dc k, rfl, rfl, rfl, by
    show (if 9 + i = 0 then _ else if 9 + i = 1 then _ else if 9 + i = 2 then _ else if 9 + i = 9 + i then p else H dc (9 + i)) = p
    rw [if_neg (by omega), if_neg (by omega), if_neg (by omega), if_pos rfl], fun k h1 h2 => by
    show (if k = 0 then _ else if k = 1 then _ else if k = 2 then _ else if k = 9 + i then p else H dc k) = _
    rw [if_neg (by omega), if_neg (by omega), if_neg (by omega), if_neg h2]⟩
  have hz : H dc (9 + i) = 0 := V.2.2.2.2 i (by omega) hb
  have es : kp_sum v' = kp_sum (H dc) + p := by
    unfold kp_sum
    rcases (show i = 0 ∨ i = 1 ∨ i = 2 ∨ i = 3 ∨ i = 4 ∨ i = 5 by omega) with rfl | rfl | rfl | rfl | rfl | rfl
    · have vp : v' 9 = p := vp
      have hz : H dc 9 = 0 := hz
      rw [vp, hz, ev 10 (by omega) (by omega), ev 11 (by omega) (by omega), ev 12 (by omega) (by omega), ev 13 (by omega) (by omega), ev 14 (by omega) (by omega)]; omega
    · have vp : v' 10 = p := vp
      have hz : H dc 10 = 0 := hz
      rw [vp, hz, ev 9 (by omega) (by omega), ev 11 (by omega) (by omega), ev 12 (by omega) (by omega), ev 13 (by omega) (by omega), ev 14 (by omega) (by omega)]; omega
    · have vp : v' 11 = p := vp
      have hz : H dc 11 = 0 := hz
      rw [vp, hz, ev 9 (by omega) (by omega), ev 10 (by omega) (by omega), ev 12 (by omega) (by omega), ev 13 (by omega) (by omega), ev 14 (by omega) (by omega)]; omega
    · have vp : v' 12 = p := vp
      have hz : H dc 12 = 0 := hz
      rw [vp, hz, ev 9 (by omega) (by omega), ev 10 (by omega) (by omega), ev 11 (by omega) (by omega), ev 13 (by omega) (by omega), ev 14 (by omega) (by omega)]; omega
    · have vp : v' 13 = p := vp
      have hz : H dc 13 = 0 := hz
      rw [vp, hz, ev 9 (by omega) (by omega), ev 10 (by omega) (by omega), ev 11 (by omega) (by omega), ev 12 (by omega) (by omega), ev 14 (by omega) (by omega)]; omega
    · have vp : v' 14 = p := vp
      have hz : H dc 14 = 0 := hz
      rw [vp, hz, ev 9 (by omega) (by omega), ev 10 (by omega) (by omega), ev 11 (by omega) (by omega), ev 12 (by omega) (by omega), ev 13 (by omega) (by omega)]; omega
  have w2 : ∀ j, (v' 2).testBit j = true → (H dc 2).testBit j = true ∨ i = j := by
    intro j hj
    rw [v2] at hj
    by_cases hb2 : b
    · rw [if_pos hb2] at hj; exact kv_tb.mp hj
    · rw [if_neg hb2] at hj; exact Or.inl hj
  unfold kq_flown kq_fly
  refine kr_deed h N K hd v' (nI i) ?_ ?_ ?_ (fun a q1 q2 q3 => ?_) (fun k hk => ?_) (fun d hd => ?_) ?_ (fun q hq k hk => ?_) (fun q hq => ?_) rfl ?_ (fun c hc => ?_) rfl ?_ (fun k hk => ?_) (fun x hx => ?_)
  · refine ⟨fun j hj => ?_, fun j hj => ?_, fun q hq => ?_, fun q hq => ?_, fun q hq hb => ?_⟩
    · rw [v1] at hj
      rcases kv_tb.mp hj with q | q
      · exact V.1 j q
      · omega
    · rw [v1]
      rcases w2 j hj with q | q
      · exact kv_tb.mpr (Or.inl (V.2.1 j q))
      · exact kv_tb.mpr (Or.inr q)
    · rw [ev _ (by omega) (by omega)]; exact V.2.2.1 q hq
    · by_cases e : q = i
      · subst e; rw [vp]; omega
      · rw [ev _ (by omega) (by omega)]; exact V.2.2.2.1 q hq
    · have nb : ¬ (v' 1).testBit q = true := by rw [hb]; decide
      rw [v1, kv_tb] at nb
      have e : q ≠ i := fun r => nb (Or.inr r.symm)
      rw [ev _ (by omega) (by omega)]
      refine V.2.2.2.2 q hq ?_
      rcases hh : (H dc 1).testBit q with _ | _
      · rfl
      · exact absurd (Or.inl hh) nb
  · rw [v0]
    have := kn_h N
    omega
  · refine Or.inl ⟨i, hi, rfl, hb, v0, v1, ?_, fun k h3 _ hk => ev k h3 hk⟩
    rw [v2]
    by_cases hb2 : b
    · rw [if_pos hb2]; exact Or.inr rfl
    · rw [if_neg hb2]; exact Or.inl rfl
  · rw [kv_ua q1, kv_ua q2, kv_ua q1, kv_ua q1, kv_ua (by omega), kv_ua (by omega)]
  · rw [kv_un (by omega), kv_un (by omega), kv_un (by omega), kv_un (by omega), kv_un (by omega), kv_un (by omega)]
  · rw [kv_un (by omega), kv_un (by omega), kv_un (by omega), kv_un (by omega), kv_un (by omega), kv_un (by omega)]
  · rw [kv_un (by omega), kv_us]
  · rw [kv_un (by omega), kv_un (by omega), kv_un (by omega), kv_un (by omega), kv_un (by omega), kv_un (by omega)]
  · rw [kv_un (by omega), kv_un (by omega), kv_un (by omega), kv_un (by omega)]
    by_cases e : q = i
    · subst e
      refine Or.inr ?_
      rw [kv_us]
      by_cases hb2 : b
      · rw [if_pos hb2]; exact Or.inr rfl
      · rw [if_neg hb2]; exact Or.inl rfl
    · rw [kv_un (by omega), kv_un (by omega)]; exact Or.inl rfl
  · obtain ⟨c1, c2, c3, c4⟩ := N.2.2.2.2.1
    refine ⟨?_, ?_, ?_, fun q hq => ?_⟩
    · show (kx_sI _ 4 6 _).1 4 5 = nI (v' 0)
      rw [kv_un (by omega), kv_un (by omega), kv_us, v0]
    · exact kv_us _ 4 6 _
    · show (kx_sI _ 4 6 _).1 4 7 = _
      rw [kv_un (by omega), kv_un (by omega), kv_un (by omega), kv_us, es]
    · obtain ⟨g1, g2, g3⟩ := c4 q hq
      refine ⟨?_, ?_, ?_⟩
      · rw [kv_un (by omega), kv_un (by omega), kv_un (by omega), kv_un (by omega), kv_un (by omega), kv_un (by omega), ev _ (by omega) (by omega)]; exact g1
      · rw [kv_un (by omega), kv_un (by omega), kv_un (by omega), kv_un (by omega), kv_un (by omega), v1]
        by_cases e : q = i
        · subst e
          rw [if_pos (kv_tb.mpr (Or.inr rfl)), vp]
          show (kx_sI σ (30 + q) 4 (nI p)).1 (30 + q) 4 = _
          exact kv_us _ _ _ _
        · rw [kv_un (by omega), ev _ (by omega) (by omega), g2]
          have : (H dc 1 ||| 2 ^ i).testBit q = true ↔ (H dc 1).testBit q = true := by rw [kv_tb]; exact ⟨fun r => r.elim id (fun r => absurd r.symm e), Or.inl⟩
          by_cases hh : (H dc 1).testBit q = true
          · rw [if_pos hh, if_pos (this.mpr hh)]
          · rw [if_neg hh, if_neg (fun r => hh (this.mp r))]
      · rw [kv_un (by omega), kv_un (by omega), kv_un (by omega), kv_un (by omega), v2]
        have nb2 : ¬ (H dc 2).testBit i = true := fun r => by rw [V.2.1 i r] at hb; cases hb
        by_cases e : q = i
        · subst e
          rw [show (kx_sI (kx_sI σ (30 + q) 4 (nI p)) (30 + q) 5 (if b then 1 else 0)).1 (30 + 6 * 0 + q) 5 = (if b then 1 else 0) from kv_us _ _ _ _]
          by_cases hb2 : b
          · rw [if_pos hb2, if_pos hb2, if_pos (kv_tb.mpr (Or.inr rfl))]
          · rw [if_neg hb2, if_neg hb2, if_neg nb2]
        · rw [kv_un (by omega), kv_un (by omega), g3]
          by_cases hb2 : b
          · rw [if_pos hb2]
            have : (H dc 2 ||| 2 ^ i).testBit q = true ↔ (H dc 2).testBit q = true := by rw [kv_tb]; exact ⟨fun r => r.elim id (fun r => absurd r.symm e), Or.inl⟩
            by_cases hh : (H dc 2).testBit q = true
            · rw [if_pos hh, if_pos (this.mpr hh)]
            · rw [if_neg hh, if_neg (fun r => hh (this.mp r))]
          · rw [if_neg hb2]
  · rw [kv_ua hc, kv_ua hc, kv_ua hc, kv_ua hc, kq_past_ne τ dc hc]
  · rw [kv_un (by omega), kv_un (by omega), kv_un (by omega), kv_un (by omega)]; exact (kq_past_at τ dc 1 0).trans (if_pos ⟨rfl, rfl⟩)
  · by_cases k0 : k = 0
    · subst k0; rw [v0]; exact kv_us _ 1 _ _
    · rw [kv_un (by omega)]
      by_cases k1 : k = 1
      · subst k1; rw [v1]; exact kv_us _ 1 _ _
      · rw [kv_un (by omega)]
        by_cases k9 : k = 9 + i
        · subst k9; rw [vp, show 1 + (9 + i) = 0 + 10 + i by omega]; exact kv_us _ 1 _ _
        · rw [kv_un (by omega)]
          by_cases k2 : k = 2
          · subst k2; rw [v2]; exact kv_us _ 1 _ _
          · rw [kv_un (by omega), kq_past_lo τ dc hk, ev k (by omega) k9]
            exact kn_mk N hk
  · rw [kv_un (by omega), kv_un (by omega), kv_un (by omega), kv_un (by omega)]
theorem s3_doFly (N : kr_now σ τ n kd wd hv w wt dc H) (hd : dc < 40) {i : Nat} {Q : kx_St → Prop} (hi : i < n) (hb : (H dc 1).testBit i = false) (q : Q (kq_flown σ i dc (nI (kn_P kd wd hv w (H dc) i 0)) (if 4 * hv i < ku_lift (kd i) (wd i) (H dc (3 + i)) (w ((H dc 0 + 0) % 4)) then 1 else 0) (nI (kp_sum (H dc) + kn_P kd wd hv w (H dc) i 0)) (nI (H dc 0 + 1)))) : p3_doFly σ 4 (nI i) Q := by
  have K := kn_K N hi
  have n6 := kn_n6 N
  have h40 := kn_h40 N
  have e4 : σ.1 (30 + i) 4 = -9 := by rw [kn_paid N hi, if_neg (by rw [hb]; decide)]
  unfold p3_doFly
  refine ⟨(ky_par 0 (by decide)).1, s3_kite_in N hi (kv_some ⟨K.1, ⟨K.1, kv_t e4 (kv_T rfl ?_)⟩⟩)⟩
  refine s3_isFull (kn_cd N) (by omega) (fun _ => kv_t rfl (kn_cwind N (a := 0) (by decide) (s1_payIn K (kn_wm N _) ?_))) (fun r => by omega)
  have K9 : ku_K (kx_sI σ (30 + i) 4 (nI (kn_P kd wd hv w (H dc) i 0))) (30 + i) (kd i) (wd i) (hv i) (H dc (3 + i)) := by
    unfold ku_K
    rw [kv_un (by omega), kv_un (by omega), kv_un (by omega), kv_un (by omega)]
    exact K
  have F : ∀ l : Int32, (l = 0 ∨ l = 1) → Q (kq_flown σ i dc (nI (kn_P kd wd hv w (H dc) i 0)) l (nI (kp_sum (H dc) + kn_P kd wd hv w (H dc) i 0)) (nI (H dc 0 + 1))) → (l = 0 ∨ l = 1) ∧ ((fun σ13 : kx_St => (fun σ14 : kx_St => (fun σ15 : kx_St => p3_note σ15 4 0 (nI i) (fun σ17 => Q σ17)) (kx_sI σ14 4 5 ((σ14.1 4 5) + 1))) (kx_sI σ13 4 7 ((σ13.1 4 7) + (σ13.1 (30 + i) 4)))) (kx_sI (kx_sI σ (30 + i) 4 (nI (kn_P kd wd hv w (H dc) i 0))) (30 + i) 5 l)) := by
    intro l hl q
    refine ⟨hl, ?_⟩
    show p3_note (kx_sI (kx_sI (kx_sI (kx_sI σ (30 + i) 4 (nI (kn_P kd wd hv w (H dc) i 0))) (30 + i) 5 l) 4 7 _) 4 5 _) 4 0 (nI i) (fun σ17 => Q σ17)
    rw [show (kx_sI (kx_sI σ (30 + i) 4 (nI (kn_P kd wd hv w (H dc) i 0))) (30 + i) 5 l).1 4 7 = nI (kp_sum (H dc)) from by rw [kv_un (by omega), kv_un (by omega)]; exact N.2.2.2.2.1.2.2.1, show (kx_sI (kx_sI σ (30 + i) 4 (nI (kn_P kd wd hv w (H dc) i 0))) (30 + i) 5 l).1 (30 + i) 4 = nI (kn_P kd wd hv w (H dc) i 0) from by rw [kv_un (by omega), kv_us], kv_add]
    rw [show (kx_sI (kx_sI (kx_sI σ (30 + i) 4 (nI (kn_P kd wd hv w (H dc) i 0))) (30 + i) 5 l) 4 7 (nI (kp_sum (H dc) + kn_P kd wd hv w (H dc) i 0))).1 4 5 = nI (H dc 0) from by rw [kv_un (by omega), kv_un (by omega), kv_un (by omega)]; exact kn_ch N, show nI (H dc 0) + 1 = nI (H dc 0 + 1) from nI_1 _]
    refine s3_note (dc := dc) (by rw [kv_un (by omega), kv_un (by omega), kv_un (by omega), kv_un (by omega)]; exact kn_cd N) hd ?_
    rw [show (8 : Int32) * 0 + nI i = nI i from by rw [show (8 : Int32) * 0 = nI 0 from rfl, kv_add, Nat.zero_add]]
    exact q
  refine s3_windIn (j := 0) (t := 0) (a := H dc 0 + 0) (w := w) (by decide) ?_ (by omega) (fun h hh => ?_) (s1_isLiftedIn K9 (kn_wm N _) (fun c => F 1 (Or.inr rfl) ?_) (fun c => F 0 (Or.inl rfl) ?_))
  · rw [kv_un (by omega), kn_ch N]; exact kv_add _ 0
  · rw [kv_un (by omega)]; exact kn_cw N h hh
  · rw [if_pos c] at q; exact q
  · rw [if_neg c] at q; exact q
theorem th_fly (σ τ : kx_St) (h : kr_R σ τ) : lt_fly kr_R σ τ := by
  obtain ⟨n, kd, wd, hv, w, wt, dc, H, N, K⟩ := h.2.2.2.2.1
  intro a0
  unfold p6_fly
  rcases kv_arg a0 n with ⟨i, hi, rfl⟩ | ho
  · have n6 := kn_n6 N
    have d40 := kn_dc N
    have h40 := kn_h40 N
    have KK := kn_K N hi
    have V := kn_v N
    have f1 : τ.1 1 (2 : Int32).toNatClampNeg = nI (H dc 1) := kn_mk N (k := 1) (by decide)
    have f0 : τ.1 1 (0 : Int32).toNatClampNeg = nI dc := kn_md N
    rcases hb : (H dc 1).testBit i with _ | _
    · have e4 : σ.1 (30 + i) 4 = -9 := by rw [kn_paid N hi, if_neg (by rw [hb]; decide)]
      by_cases hd : dc = 40
      · subst hd
        refine ⟨-2, s3_kite_in N hi (kv_some ⟨KK.1, KK.1, kv_t e4 (kv_t rfl (s3_isFull (kn_cd N) (by omega) (fun q => by omega) (fun _ => kv_f (by decide) ⟨rfl, ?_⟩)))⟩)⟩
        refine s7_kite_in N hi (kv_F (by decide) (s7_has f1 (kp_f64 V n6).1 (by omega) (fun q => by rw [hb] at q; cases q) (fun _ => kv_t rfl (kv_T f0 ⟨rfl, h⟩))))
      · have hd : dc < 40 := by omega
        have m1 : ¬ τ.1 1 (0 : Int32).toNatClampNeg = 40 := by
          rw [f0]
          show ¬ nI dc = nI 40
          rw [kv_inj (by omega) (by decide)]; omega
        have hp := kn_P_le N hi 0
        refine ⟨nI (kn_P kd wd hv w (H dc) i 0), s3_kite_in N hi (kv_some ⟨KK.1, KK.1, kv_t e4 (kv_t rfl (s3_isFull (kn_cd N) (by omega) (fun _ => kv_t rfl (s3_doFly N hd hi hb ⟨?_, ?_⟩)) (fun q => by omega)))⟩)⟩
        · unfold kq_flown
          rw [kv_un (by omega), kv_un (by omega), kv_un (by omega), kv_un (by omega), kv_un (by omega), kv_us]
        · refine s7_kite_in N hi (kv_F (by decide) (s7_has f1 (kp_f64 V n6).1 (by omega) (fun q => by rw [hb] at q; cases q) (fun _ => kv_t rfl (kv_F m1 (s7_keepPast (kn_md N) hd ?_)))))
          have M := kn_M N hi
          have M' : ku_M (kq_past τ dc) 0 i (kd i) (wd i) (hv i) (H dc (3 + i)) := ku_M_fr M (kq_past_ne τ dc (by decide)) (kq_past_ne τ dc (by decide)) (kq_past_ne τ dc (by decide)) (by rw [show 0 + 4 + i = 1 + (3 + i) by omega]; exact kq_past_lo τ dc (by omega))
          refine s7_flies (b := 0) (a := H dc 0 + 0) (f := H dc 1) (l := H dc 2) (w := w) rfl M' ((kq_past_lo τ dc (k := 0) (by decide)).trans (kn_mk N (by decide))) (by omega) (fun h hh => by rw [kq_past_ne τ dc (by decide)]; exact kn_mw N h hh) (kn_w N) ((kq_past_lo τ dc (k := 1) (by decide)).trans (kn_mk N (by decide))) (kp_f64 V n6).1 ((kq_past_lo τ dc (k := 2) (by decide)).trans (kn_mk N (by decide))) (kp_f64 V n6).2 ⟨rfl, ?_⟩
          exact kr_fly h N K hd hi hb hp _
    · have e4 : ¬ σ.1 (30 + i) 4 = -9 := by
        have := V.2.2.2.1 i (by omega)
        rw [kn_paid N hi, if_pos hb, kv_eq, kv_n (by omega)]
        show ¬ _ = (-9 : Int)
        omega
      exact ⟨-4, s3_kite_in N hi (kv_some ⟨KK.1, KK.1, kv_f e4 (kv_f (by decide) ⟨rfl, s7_kite_in N hi (kv_F (by decide) (s7_has f1 (kp_f64 V n6).1 (by omega) (fun _ => kv_f (by decide) ⟨rfl, h⟩) (fun q => by rw [hb] at q; cases q)))⟩)⟩)⟩
  · exact ⟨-1, s3_kite_out N ho (kv_none ⟨rfl, s7_kite_out N ho (kv_T rfl ⟨rfl, h⟩)⟩)⟩
end
