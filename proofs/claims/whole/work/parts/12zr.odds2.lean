section
variable {σ τ : kx_St} {n : Nat} {kd wd hv w : Nat → Nat} {wt dc : Nat} {H : Nat → Nat → Nat}
theorem s7_calm_I (N : kr_now σ τ n kd wd hv w wt dc H) {p c : Nat} {x2 x3 : Int32} {a b : Int64} {k51 : kx_St → Int32 → Int32 → Int32 → Int64 → Int64 → Int32 → Prop} {Q : kx_St → Int32 → Prop} (hp : p ≤ 12) (hc : c < 64) (q : (x2 = 0 → (nI (kp_sum (H dc) + kn_s kd wd hv w (H dc) c n) < nI wt → k51 τ (nI p) x2 x3 (a + 0) (b + nL (ko_w p c (ko_r (H dc 1) n))) (nI (c + 1))) ∧ (¬ nI (kp_sum (H dc) + kn_s kd wd hv w (H dc) c n) < nI wt → k51 τ (nI p) x2 x3 (a + nL (ko_w p c (ko_r (H dc 1) n))) (b + nL (ko_w p c (ko_r (H dc 1) n))) (nI (c + 1)))) ∧ (¬ x2 = 0 → k51 τ (nI p) x2 x3 (a + nL (ko_w p c (ko_r (H dc 1) n)) * (nI (kp_sum (H dc) + kn_s kd wd hv w (H dc) c n)).toInt64) (b + nL (ko_w p c (ko_r (H dc 1) n))) (nI (c + 1)))) : ∀ d i, i + d = n → p7_tellCalm_L75 (d + 1) τ (nI p) x2 x3 a b (nI c) (nI (ko_r (H dc 1) i)) (nI (kp_sum (H dc) + kn_s kd wd hv w (H dc) c i)) (nL (ko_w p c (ko_r (H dc 1) i))) (nI i) k51 Q := by
  have n6 := kn_n6 N
  have f64 := kp_f64 (kn_v N) n6
  have mn : τ.1 0 3 = nI n := kn_mn N
  have m2 : τ.1 0 2 = nI wt := N.2.2.1.2.1
  intro d
  induction d with
  | zero =>
    intro i hi
    obtain rfl : i = n := by omega
    unfold p7_tellCalm_L75
    rw [mn, m2, show nI c + 1 = nI (c + 1) from nI_1 _]
    exact kv_t (by rw [kv_leN (by omega) (by omega)]; omega) q
  | succ d ih =>
    intro i hi
    have hin : i < n := by omega
    have nx := ih (i + 1) (by omega)
    have r6 := ko_r6 (H dc 1) (show i < 6 by omega)
    rw [kn_s, ko_s, ko_r] at nx
    rw [p7_tellCalm_L75, mn]
    refine kv_f (by rw [kv_leN (by omega) (by omega)]; omega) (s7_has (kn_mk N (k := 1) (by decide)) f64.1 (by omega) (fun f => kv_F (by decide) ?_) (fun f => kv_T rfl ?_))
    · rw [if_pos f, if_pos f] at nx
      rw [show nI i + 1 = nI (i + 1) from nI_1 _]
      exact nx
    · have nf : ¬ (H dc 1).testBit i = true := by rw [f]; decide
      rw [if_neg nf, if_neg nf, ko_w] at nx
      have er : nI (ko_r (H dc 1) i) + 1 = nI (ko_r (H dc 1) i + 1) := nI_1 _
      have ei : nI i + 1 = nI (i + 1) := nI_1 _
      refine s7_has rfl hc r6 (fun b => kv_f (by decide) ?_) (fun b => kv_t rfl ?_)
      · rw [if_pos b, if_pos b] at nx
        unfold p7_tellCalm_J120
        refine s7_has rfl hc r6 (fun _ => kv_f (by decide) ?_) (fun z => by rw [b] at z; cases z)
        unfold p7_tellCalm_J156
        refine s7_paysIn (b := 0) (x := 0) rfl (kn_M N hin) (by decide) ?_
        rw [kv_add, er, ei, (ko_p hp).2, nL_mul, Nat.add_assoc]
        exact nx
      · have nb : ¬ c.testBit (ko_r (H dc 1) i) = true := by rw [b]; decide
        rw [if_neg nb, if_neg nb] at nx
        unfold p7_tellCalm_J120
        refine s7_has rfl hc r6 (fun z => by rw [b] at z; cases z) (fun _ => kv_t rfl (kn_mwind N (a := ko_r (H dc 1) i) ?_ (by omega) ?_))
        · rw [show τ.1 1 (1 : Int32).toNatClampNeg = nI (H dc 0) from kn_mh N, kv_add]
        · unfold p7_tellCalm_J156
          refine s7_paysIn (b := 0) rfl (kn_M N hin) (kn_wm N _) ?_
          rw [kv_add, er, ei, (ko_p hp).1, nL_mul, Nat.add_assoc]
          exact nx
theorem s7_calm_L (N : kr_now σ τ n kd wd hv w wt dc H) {p h : Nat} {x2 : Int32} {g : Nat → Nat} {Q : kx_St → Int32 → Prop} (hh : h = ko_r (H dc 1) n) (hp : p ≤ 12) (hg : ∀ c, c < 2 ^ h → ∀ (A : Int64 → Prop) (S : Nat), A (nL (S + g c)) → (x2 = 0 → (nI (kp_sum (H dc) + kn_s kd wd hv w (H dc) c n) < nI wt → A (nL S + 0)) ∧ (¬ nI (kp_sum (H dc) + kn_s kd wd hv w (H dc) c n) < nI wt → A (nL S + nL (ko_w p c h)))) ∧ (¬ x2 = 0 → A (nL S + nL (ko_w p c h) * (nI (kp_sum (H dc) + kn_s kd wd hv w (H dc) c n)).toInt64))) (q : p7_tellParts τ (nL (ko_S g (2 ^ h))) (nL (12 ^ h)) (fun σ3 => Q σ3 1)) : ∀ d c, c + d = 2 ^ h → p7_tellCalm_L51 (d + 1) τ (nI p) x2 (nI h) (nL (ko_S g c)) (nL (ko_S (fun c => ko_w p c h) c)) (nI c) Q := by
  have n6 := kn_n6 N
  have rl := ko_r_le (H dc 1) n
  have h6 : h ≤ 6 := by omega
  have p6 := (ko_126 h6).2.1
  intro d
  induction d with
  | zero =>
    intro c hc
    obtain rfl : c = 2 ^ h := by omega
    unfold p7_tellCalm_L51
    rw [ko_sh h (by omega), ko_12 hp]
    exact kv_t (by rw [kv_leN (by omega) (by omega)]; omega) q
  | succ d ih =>
    intro c hc
    have nx := ih (c + 1) (by omega)
    rw [ko_S, ko_S] at nx
    rw [p7_tellCalm_L51, ko_sh h (by omega)]
    refine kv_f (by rw [kv_leN (by omega) (by omega)]; omega) (s7_paidIn N ⟨n + 1, ?_⟩)
    have I := s7_calm_I N (p := p) (c := c) (x2 := x2) (x3 := nI h) (a := nL (ko_S g c)) (b := nL (ko_S (fun c => ko_w p c h) c)) (k51 := fun σ x1 x2 x3 x4 x6 x8 => p7_tellCalm_L51 (d + 1) σ x1 x2 x3 x4 x6 x8 Q) (Q := Q) hp (by omega) ?_ n 0 (by omega)
    · exact I
    · rw [← hh, nL_add]
      exact hg c (by omega) (fun z => p7_tellCalm_L51 (d + 1) τ (nI p) x2 (nI h) z (nL (ko_S (fun c => ko_w p c h) c + ko_w p c h)) (nI (c + 1)) Q) _ nx
theorem s7_calm_N (N : kr_now σ τ n kd wd hv w wt dc H) {x1 x2 : Int32} {Q : kx_St → Int32 → Prop} (q : ∃ m, p7_tellCalm_L51 m τ x1 x2 (nI (ko_r (H dc 1) n)) 0 0 0 Q) : p7_tellCalm τ x1 x2 Q := by
  have n6 := kn_n6 N
  have f64 := kp_f64 (kn_v N) n6
  have mn : τ.1 0 3 = nI n := kn_mn N
  have L : ∀ d i, i + d = n → p7_tellCalm_L5 (d + 1) τ x1 x2 (nI (ko_r (H dc 1) i)) (nI i) Q := by
    intro d
    induction d with
    | zero =>
      intro i hi
      obtain rfl : i = n := by omega
      unfold p7_tellCalm_L5
      rw [mn]
      exact kv_t (by rw [kv_leN (by omega) (by omega)]; omega) q
    | succ d ih =>
      intro i hi
      have nx := ih (i + 1) (by omega)
      rw [ko_r] at nx
      rw [p7_tellCalm_L5, mn, show nI i + 1 = nI (i + 1) from nI_1 _]
      refine kv_f (by rw [kv_leN (by omega) (by omega)]; omega) (s7_has (kn_mk N (k := 1) (by decide)) f64.1 (by omega) (fun f => kv_f (by decide) ?_) (fun f => kv_t rfl ?_))
      · rw [if_pos f] at nx
        rw [show nI (ko_r (H dc 1) i) + 0 = nI (ko_r (H dc 1) i + 0) from kv_add _ 0]
        exact nx
      · rw [if_neg (by rw [f]; decide)] at nx
        rw [show nI (ko_r (H dc 1) i) + 1 = nI (ko_r (H dc 1) i + 1) from nI_1 _]
        exact nx
  exact ⟨n + 1, L n 0 (by omega)⟩
def ko_pc (F : Nat) : Nat := (if F.testBit 0 then 1 else 0) + (if F.testBit 1 then 1 else 0) + (if F.testBit 2 then 1 else 0) + (if F.testBit 3 then 1 else 0) + (if F.testBit 4 then 1 else 0) + (if F.testBit 5 then 1 else 0)
theorem sJ_bits {F : Nat} {Q : Int32 → Prop} (hF : F < 64) (q : Q (nI (ko_pc F))) : pJ6_bitCount_0f7a4 (nI F) Q := by
  have L : ∀ F, F < 64 → pJ6_bitCount_0f7a4 (nI F) (fun r => r = nI (ko_pc F)) := by
    intro F hF
    unfold pJ6_bitCount_0f7a4
    revert F
    decide +kernel
  have := L F hF
  unfold pJ6_bitCount_0f7a4 at this ⊢
  rw [this]
  exact q
theorem ko_left : ∀ F, F < 64 → ∀ n, n < 7 → F < 2 ^ n → n = ko_r F n + ko_pc F := by decide +kernel
end
