section
variable {σ τ : kx_St} {n : Nat} {kd wd hv w : Nat → Nat} {wt dc : Nat} {H : Nat → Nat → Nat}
def kn_A (kd wd hv w v : Nat → Nat) (i : Nat) : Nat := ku_pay (kd i) (wd i) (hv i) (v (3 + i)) (w ((v 0 + ko_r (v 1) i) % 4))
def kn_B (kd wd hv v : Nat → Nat) (i : Nat) : Nat := ku_pay (kd i) (wd i) (hv i) (v (3 + i)) 0
def kn_s (kd wd hv w v : Nat → Nat) (c i : Nat) : Nat := ko_s (kn_A kd wd hv w v) (kn_B kd wd hv v) (v 1) c i
theorem ko_s_le {A B : Nat → Nat} (F c : Nat) : ∀ i, (∀ j, j < i → A j ≤ 51 ∧ B j ≤ 51) → ko_s A B F c i ≤ 51 * i
  | 0, _ => Nat.le_refl _
  | i + 1, h => by
    have a := ko_s_le (A := A) (B := B) F c i (fun j hj => h j (by omega))
    have b := h i (by omega)
    rw [ko_s]
    split
    · omega
    · split <;> omega
theorem kn_s_le (N : kr_now σ τ n kd wd hv w wt dc H) (c : Nat) {i : Nat} (hi : i ≤ n) : kn_s kd wd hv w (H dc) c i ≤ 306 := by
  have n6 := kn_n6 N
  have a := ko_s_le (A := kn_A kd wd hv w (H dc)) (B := kn_B kd wd hv (H dc)) (H dc 1) c i (fun j hj => by
    obtain ⟨_, _, _, _, _, k5, w9, _, t3⟩ := kn_K N (show j < n by omega)
    exact ⟨ku_pay_le k5 w9 t3 (kn_wm N _), ku_pay_le k5 w9 t3 (by decide)⟩)
  unfold kn_s
  omega
theorem kp_sum_le (N : kr_now σ τ n kd wd hv w wt dc H) : kp_sum (H dc) ≤ 360 := by
  have V := (kn_v N).2.2.2.1
  have a : H dc 9 ≤ 60 := V 0 (by decide)
  have b : H dc 10 ≤ 60 := V 1 (by decide)
  have c : H dc 11 ≤ 60 := V 2 (by decide)
  have d : H dc 12 ≤ 60 := V 3 (by decide)
  have e : H dc 13 ≤ 60 := V 4 (by decide)
  have f : H dc 14 ≤ 60 := V 5 (by decide)
  unfold kp_sum
  omega
theorem ko_w_le {p : Nat} (hp : p ≤ 12) (c : Nat) : ∀ h, ko_w p c h ≤ 12 ^ h
  | 0 => Nat.le_refl _
  | h + 1 => by
    rw [ko_w, Nat.pow_succ]
    exact Nat.mul_le_mul (ko_w_le hp c h) (by split <;> omega)
theorem ko_126 {h : Nat} (hh : h ≤ 6) : 12 ^ h ≤ 2985984 ∧ 2 ^ h ≤ 64 ∧ 0 < 12 ^ h := ⟨Nat.le_trans (Nat.pow_le_pow_right (by decide) hh) (by decide), Nat.le_trans (Nat.pow_le_pow_right (by decide) hh) (by decide), Nat.pow_pos (by decide)⟩
theorem ko_sh : ∀ h, h < 7 → (1 : Int32) <<< (nI h &&& 31) = nI (2 ^ h) := by decide +kernel
theorem ko_r6 (F : Nat) {i : Nat} (hi : i < 6) : ko_r F i < 6 := Nat.lt_of_le_of_lt (ko_r_le F i) hi
theorem s6_paidCalms (N : kr_now σ τ n kd wd hv w wt dc H) {c : Nat} {Q : Int32 → Prop} (hc : c < 64) (q : Q (nI (kn_s kd wd hv w (H dc) c n))) : p6_paidWithCalms σ (nI c) Q := by
  have n6 := kn_n6 N
  have cn : σ.1 4 3 = nI n := kn_cn N
  have L : ∀ d i, i + d = n → p6_paidWithCalms_L7 (d + 1) σ (nI c) (nI (kn_s kd wd hv w (H dc) c i)) (nI (ko_r (H dc 1) i)) (nI i) Q := by
    intro d
    induction d with
    | zero =>
      intro i hi
      obtain rfl : i = n := by omega
      unfold p6_paidWithCalms_L7
      rw [cn]
      exact kv_t (by rw [kv_leN (by omega) (by omega)]; omega) q
    | succ d ih =>
      intro i hi
      have hin : i < n := by omega
      have nx := ih (i + 1) (by omega)
      have r6 := ko_r6 (H dc 1) (show i < 6 by omega)
      rw [kn_s, ko_s, ko_r] at nx
      rw [p6_paidWithCalms_L7, cn]
      refine kv_f (by rw [kv_leN (by omega) (by omega)]; omega) (s3_kite_in N hin (kv_some ⟨(kn_K N hin).1, s1_wasFlown N hin (fun f => kv_F (by decide) ?_) (fun f => kv_T rfl ?_)⟩))
      · rw [if_pos f, if_pos f] at nx
        rw [show nI i + 1 = nI (i + 1) from nI_1 _]
        exact nx
      · have nf : ¬ (H dc 1).testBit i = true := by rw [f]; decide
        rw [if_neg nf, if_neg nf] at nx
        refine s6_bit hc r6 (fun b => ?_) (fun b => kn_cwind N (by omega) ?_)
        · rw [if_pos b] at nx
          refine s1_payIn (x := 0) (kn_K N hin) (by decide) ?_
          rw [kv_add, show nI (ko_r (H dc 1) i) + 1 = nI (ko_r (H dc 1) i + 1) from nI_1 _, show nI i + 1 = nI (i + 1) from nI_1 _]
          exact nx
        · have nb : ¬ c.testBit (ko_r (H dc 1) i) = true := by rw [b]; decide
          rw [if_neg nb] at nx
          refine s1_payIn (kn_K N hin) (kn_wm N _) ?_
          rw [kv_add, show nI (ko_r (H dc 1) i) + 1 = nI (ko_r (H dc 1) i + 1) from nI_1 _, show nI i + 1 = nI (i + 1) from nI_1 _]
          exact nx
  exact ⟨n + 1, L n 0 (by omega)⟩
theorem ko_p {p : Nat} (hp : p ≤ 12) : ((12 : Int32) - nI p).toInt64 = nL (12 - p) ∧ (nI p).toInt64 = nL p := ⟨by rw [show (12 : Int32) = nI 12 from rfl, kv_sub hp, nL_of (by omega)], nL_of (by omega)⟩
theorem s6_weight {c h p : Nat} {Q : Int64 → Prop} (hc : c < 64) (hh : h ≤ 6) (hp : p ≤ 12) (q : Q (nL (ko_w p c h))) : p6_weightOfCalms (nI c) (nI h) (nI p) Q := by
  have L : ∀ d k, k + d = h → p6_weightOfCalms_L5 (d + 1) (nI c) (nI h) (nI p) (nL (ko_w p c k)) (nI k) Q := by
    intro d
    induction d with
    | zero =>
      intro k hk
      obtain rfl : k = h := by omega
      unfold p6_weightOfCalms_L5
      exact kv_t (by rw [kv_leN (by omega) (by omega)]; omega) q
    | succ d ih =>
      intro k hk
      have nx := ih (k + 1) (by omega)
      rw [ko_w] at nx
      rw [p6_weightOfCalms_L5, (ko_p hp).1, (ko_p hp).2, nL_mul, nL_mul, show nI k + 1 = nI (k + 1) from nI_1 _]
      refine kv_f (by rw [kv_leN (by omega) (by omega)]; omega) (s6_bit hc (by omega) (fun b => ?_) (fun b => ?_))
      · rw [if_pos b] at nx; exact nx
      · rw [if_neg (by rw [b]; decide)] at nx; exact nx
  exact ⟨h + 1, L h 0 (by omega)⟩
def kn_f (kd wd hv w v : Nat → Nat) (wt n p : Nat) (c : Nat) : Nat := if wt ≤ kp_sum v + kn_s kd wd hv w v c n then ko_w p c (ko_r (v 1) n) else 0
theorem s6_odds_L (N : kr_now σ τ n kd wd hv w wt dc H) {p h T : Nat} {Q : kx_St → Int32 → Prop} (hh : h = ko_r (H dc 1) n) (hp : p ≤ 12) (q : p6_tellParts σ (nL (ko_S (kn_f kd wd hv w (H dc) wt n p) (2 ^ h))) (nL T) (fun σ3 => Q σ3 1)) : ∀ d c, c + d = 2 ^ h → p6_odds_L73 (d + 1) σ (nI p) (nI h) (nL T) (nL (ko_S (kn_f kd wd hv w (H dc) wt n p) c)) (nI c) Q := by
  have n6 := kn_n6 N
  have rl := ko_r_le (H dc 1) n
  have h6 : h ≤ 6 := by omega
  have p6 := (ko_126 h6).2.1
  have s7 : σ.1 4 7 = nI (kp_sum (H dc)) := N.2.2.2.2.1.2.2.1
  have s4 : σ.1 4 4 = nI wt := N.2.1.2.1
  have wt1 := N.1.2.1
  have sl := kp_sum_le N
  intro d
  induction d with
  | zero =>
    intro c hc
    obtain rfl : c = 2 ^ h := by omega
    unfold p6_odds_L73
    rw [ko_sh h (by omega)]
    exact kv_t (by rw [kv_leN (by omega) (by omega)]; omega) q
  | succ d ih =>
    intro c hc
    have nx := ih (c + 1) (by omega)
    have kl := kn_s_le N c (Nat.le_refl n)
    rw [ko_S, kn_f] at nx
    rw [p6_odds_L73, ko_sh h (by omega), s7, s4, show nI c + 1 = nI (c + 1) from nI_1 _]
    refine kv_f (by rw [kv_leN (by omega) (by omega)]; omega) (s6_paidCalms N (by omega) ?_)
    rw [kv_add, kv_ltN (by omega) (by omega)]
    refine ⟨fun z => ?_, fun z => s6_weight (by omega) h6 hp ?_⟩
    · rw [if_neg (by omega)] at nx; exact nx
    · rw [if_pos (by omega), ← hh] at nx
      rw [nL_add]; exact nx
theorem s6_odds_A {p h : Nat} {Q : kx_St → Int32 → Prop} (h6 : h ≤ 6) (q : ∃ m, p6_odds_L73 m σ (nI p) (nI h) (nL (12 ^ h)) 0 0 Q) : ∀ d k, k + d = h → p6_odds_L49 (d + 1) σ (nI p) (nI h) (nL (12 ^ k)) (nI k) Q := by
  intro d
  induction d with
  | zero =>
    intro k hk
    obtain rfl : k = h := by omega
    unfold p6_odds_L49
    exact kv_t (by rw [kv_leN (by omega) (by omega)]; omega) q
  | succ d ih =>
    intro k hk
    have nx := ih (k + 1) (by omega)
    rw [p6_odds_L49, show (12 : Int64) = nL 12 from rfl, nL_mul, ← Nat.pow_succ, show nI k + 1 = nI (k + 1) from nI_1 _]
    exact kv_f (by rw [kv_leN (by omega) (by omega)]; omega) nx
end
