section
variable {σ τ : kx_St} {n : Nat} {kd wd hv w : Nat → Nat} {wt dc : Nat} {H : Nat → Nat → Nat}
def ks_al (S : Int32) (f : Nat → Nat) (c : Nat) : Nat → Nat
  | 0 => 0
  | m + 1 => ks_al S f c m + (if ((S >>> (nI m &&& 31)) &&& 1) = 1 ∧ f m = c then 1 else 0)
theorem ks_al_le (S : Int32) (f : Nat → Nat) (c : Nat) : ∀ m, ks_al S f c m ≤ m := by
  intro m
  induction m with
  | zero => exact Nat.le_refl _
  | succ m ih => rw [ks_al]; split <;> omega
def ks_gp (S : Int32) (f : Nat → Nat) : Nat → Nat
  | 0 => 0
  | m + 1 => max (ks_gp S f m) (if ((S >>> (nI m &&& 31)) &&& 1) = 1 then ks_al S f (f m) 6 else 0)
theorem ks_gp_le (S : Int32) (f : Nat → Nat) : ∀ m, ks_gp S f m ≤ 6 := by
  intro m
  induction m with
  | zero => exact Nat.zero_le _
  | succ m ih =>
    have := ks_al_le S f (f m) 6
    rw [ks_gp]; split <;> omega
theorem s6_alike {a k0 wi hi t x c : Nat} {S : Int32} {Q : Int32 → Prop} (K : ku_K σ a k0 wi hi t) (hx : x < 10) (hc : c < 6) (q : Q (nI (ks_al S (fun k => ku_lift k wi t x) (ku_lift c wi t x) 6))) : p6_liftingAlike σ a S (nI x) (nI c) Q := by
  obtain ⟨kk, _, ew, _, e3, _, w9, _, t3⟩ := K
  have L : ∀ f m, m ≤ 6 → 6 - m < f → p6_liftingAlike_L18 f σ a S (nI x) (nI (ku_lift c wi t x)) (nI (ks_al S (fun k => ku_lift k wi t x) (ku_lift c wi t x) m)) (nI m) Q := by
    intro f
    induction f with
    | zero => intro m h1 h2; omega
    | succ f ih =>
      intro m hm hf
      unfold p6_liftingAlike_L18
      by_cases h6 : m = 6
      · subst h6; exact kv_t (by decide) q
      · have nx := ih (m + 1) (by omega) (by omega)
        rw [ks_al] at nx
        rw [e3, show nI m + 1 = nI (m + 1) from nI_1 _]
        refine kv_f (by show ¬ nI 6 ≤ nI m; rw [kv_leN (by omega) (by omega)]; omega) ⟨fun z => ?_, fun z => s1_liftAs kk ew (by omega) w9 t3 hx ⟨fun d => ?_, fun d => ?_⟩⟩
        · rw [if_neg (fun r => z r.1)] at nx; exact nx
        · have l1 := ku_lift_le m (by omega) _ w9 _ t3 _ hx
          have l2 := ku_lift_le c hc _ w9 _ t3 _ hx
          rw [if_neg (fun r => d (by rw [show ku_lift m wi t x = ku_lift c wi t x from r.2]))] at nx; exact nx
        · have l1 := ku_lift_le m (by omega) _ w9 _ t3 _ hx
          have l2 := ku_lift_le c hc _ w9 _ t3 _ hx
          rw [if_pos ⟨z, (kv_inj (by omega) (by omega)).mp d⟩] at nx
          rw [show nI (ks_al S (fun k => ku_lift k wi t x) (ku_lift c wi t x) m) + 1 = nI (ks_al S (fun k => ku_lift k wi t x) (ku_lift c wi t x) m + 1) from nI_1 _]
          exact nx
  refine ⟨kk, ?_⟩
  rw [e3]
  exact s1_liftAs kk ew hc w9 t3 hx ⟨7, L 7 0 (by omega) (by omega)⟩
theorem s6_gp {a k0 wi hi t x : Nat} {S : Int32} {Q : Int32 → Prop} (K : ku_K σ a k0 wi hi t) (hx : x < 10) (q : Q (nI (ks_gp S (fun k => ku_lift k wi t x) 6))) : p6_greatestPart σ a S (nI x) Q := by
  have L : ∀ f m, m ≤ 6 → 6 - m < f → p6_greatestPart_L5 f σ a S (nI x) (nI (ks_gp S (fun k => ku_lift k wi t x) m)) (nI m) Q := by
    intro f
    induction f with
    | zero => intro m h1 h2; omega
    | succ f ih =>
      intro m hm hf
      unfold p6_greatestPart_L5
      by_cases h6 : m = 6
      · subst h6; exact kv_t (by decide) q
      · have nx := ih (m + 1) (by omega) (by omega)
        have g := ks_gp_le S (fun k => ku_lift k wi t x) m
        have l := ks_al_le S (fun k => ku_lift k wi t x) (ku_lift m wi t x) 6
        rw [ks_gp] at nx
        rw [show nI m + 1 = nI (m + 1) from nI_1 _]
        refine kv_f (by show ¬ nI 6 ≤ nI m; rw [kv_leN (by omega) (by omega)]; omega) ⟨fun z => ?_, fun z => s6_alike K hx (by omega) (ku_max ?_)⟩
        · rw [if_neg z, Nat.max_eq_left (Nat.zero_le _)] at nx; exact nx
        · rw [if_pos z] at nx
          have e : (if nI (ks_gp S (fun k => ku_lift k wi t x) m) < nI (ks_al S (fun k => ku_lift k wi t x) (ku_lift m wi t x) 6) then nI (ks_al S (fun k => ku_lift k wi t x) (ku_lift m wi t x) 6) else nI (ks_gp S (fun k => ku_lift k wi t x) m)) = nI (max (ks_gp S (fun k => ku_lift k wi t x) m) (ks_al S (fun k => ku_lift k wi t x) (ku_lift m wi t x) 6)) := by
            by_cases d : ks_gp S (fun k => ku_lift k wi t x) m < ks_al S (fun k => ku_lift k wi t x) (ku_lift m wi t x) 6
            · rw [if_pos ((kv_ltN (by omega) (by omega)).mpr d), Nat.max_eq_right (by omega)]
            · rw [if_neg (fun r => d ((kv_ltN (by omega) (by omega)).mp r)), Nat.max_eq_left (by omega)]
          rw [e]
          exact nx
  exact ⟨K.1, 7, L 7 0 (by omega) (by omega)⟩
theorem s7_gp {i k0 wi hi t x : Nat} {S : Int32} {Q : Int32 → Prop} (M : ku_M τ 0 i k0 wi hi t) (hx : x < 10) (q : Q (nI (ks_gp S (fun k => ku_lift k wi t x) 6))) : p7_greatestPart τ (nI i) S (nI x) Q := by
  obtain ⟨i6, _, _, ew, _, e3, _, w9, _, t3⟩ := M
  rw [show 0 + 4 + i = 4 + i by omega] at e3
  have L : ∀ f m, m ≤ 6 → 6 - m < f → p7_greatestPart_L6 f τ (nI i) S (nI x) (nI (ks_gp S (fun k => ku_lift k wi t x) m)) (nI m) Q := by
    intro f
    induction f with
    | zero => intro m h1 h2; omega
    | succ f ih =>
      intro m hm hf
      unfold p7_greatestPart_L6
      by_cases h6 : m = 6
      · subst h6; exact kv_t (by decide) q
      · have nx := ih (m + 1) (by omega) (by omega)
        have g := ks_gp_le S (fun k => ku_lift k wi t x) m
        rw [ks_gp] at nx
        refine kv_f (by show ¬ nI 6 ≤ nI m; rw [kv_leN (by omega) (by omega)]; omega) ⟨7, ?_⟩
        have fin : ∀ y, y ≤ 6 → y = (if ((S >>> (nI m &&& 31)) &&& 1) = 1 then ks_al S (fun k => ku_lift k wi t x) (ku_lift m wi t x) 6 else 0) → (nI y ≤ nI (ks_gp S (fun k => ku_lift k wi t x) m) → p7_greatestPart_L6 f τ (nI i) S (nI x) (nI (ks_gp S (fun k => ku_lift k wi t x) m)) (nI m + 1) Q) ∧ (¬ nI y ≤ nI (ks_gp S (fun k => ku_lift k wi t x) m) → p7_greatestPart_L6 f τ (nI i) S (nI x) (nI y) (nI m + 1) Q) := by
          intro y hy ey
          rw [← ey] at nx
          rw [show nI m + 1 = nI (m + 1) from nI_1 _]
          refine ⟨fun d => ?_, fun d => ?_⟩
          · rw [Nat.max_eq_left ((kv_leN (by omega) (by omega)).mp d)] at nx; exact nx
          · have d : ¬ y ≤ ks_gp S (fun k => ku_lift k wi t x) m := fun r => d ((kv_leN (by omega) (by omega)).mpr r)
            rw [Nat.max_eq_right (by omega)] at nx; exact nx
        have I : ∀ g j, j ≤ 6 → 6 - j < g → p7_greatestPart_L19 g τ (nI i) S (nI x) (nI (ks_gp S (fun k => ku_lift k wi t x) m)) (nI m) (nI (if ((S >>> (nI m &&& 31)) &&& 1) = 1 then ks_al S (fun k => ku_lift k wi t x) (ku_lift m wi t x) j else 0)) (nI j) (fun x1 x2 x3 x4 x5 => p7_greatestPart_L6 f τ x1 x2 x3 x4 x5 Q) Q := by
          intro g
          induction g with
          | zero => intro j h1 h2; omega
          | succ g ig =>
            intro j hj hg
            unfold p7_greatestPart_L19
            by_cases j6 : j = 6
            · subst j6
              refine kv_t (by decide) (fin _ ?_ rfl)
              have := ks_al_le S (fun k => ku_lift k wi t x) (ku_lift m wi t x) 6
              split <;> omega
            · have nj := ig (j + 1) (by omega) (by omega)
              rw [ks_al] at nj
              refine kv_f (by show ¬ nI 6 ≤ nI j; rw [kv_leN (by omega) (by omega)]; omega) ⟨fun z => kv_t rfl ?_, fun z => kv_f (by decide) ⟨fun z2 => kv_t rfl ?_, fun z2 => kv_f (by decide) ?_⟩⟩
              · unfold p7_greatestPart_J49
                rw [if_neg z] at nj ⊢
                rw [show nI j + 1 = nI (j + 1) from nI_1 _]
                exact kv_t rfl nj
              · unfold p7_greatestPart_J49
                rw [if_pos z, if_neg (fun r => z2 r.1)] at nj
                rw [if_pos z, show nI j + 1 = nI (j + 1) from nI_1 _, show ∀ v : Nat, nI v + 0 = nI (v + 0) from fun v => kv_add v 0]
                exact kv_t rfl nj
              · unfold p7_greatestPart_J49
                rw [if_pos z] at nj ⊢
                have l1 := ku_lift_le m (by omega) _ w9 _ t3 _ hx
                have l2 := ku_lift_le j (by omega) _ w9 _ t3 _ hx
                rw [show (4 : Int32) + nI i = nI (4 + i) from kv_add 4 i, kv_c (show i < 2147483648 by omega), kv_c (show 4 + i < 2147483648 by omega), ew, e3, show nI j + 1 = nI (j + 1) from nI_1 _]
                refine kv_f (by decide) ⟨kv_in i6 (by decide), kv_in (by omega) (by decide), s7_liftsBy (by omega) w9 t3 hx ⟨kv_in i6 (by decide), kv_in (by omega) (by decide), s7_liftsBy (by omega) w9 t3 hx ⟨fun d => ?_, fun d => ?_⟩⟩⟩
                · rw [if_neg (fun r => d (by rw [show ku_lift j wi t x = ku_lift m wi t x from r.2]))] at nj
                  rw [show ∀ v : Nat, nI v + 0 = nI (v + 0) from fun v => kv_add v 0]
                  exact nj
                · rw [if_pos ⟨z2, ((kv_inj (by omega) (by omega)).mp d).symm⟩] at nj
                  rw [show ∀ v : Nat, nI v + 1 = nI (v + 1) from fun v => nI_1 v]
                  exact nj
        have := I 7 0 (by omega) (by omega)
        rw [show (if ((S >>> (nI m &&& 31)) &&& 1) = 1 then ks_al S (fun k => ku_lift k wi t x) (ku_lift m wi t x) 0 else 0) = 0 from by split <;> rfl] at this
        exact this
  exact ⟨7, L 7 0 (by omega) (by omega)⟩
end
