/-! all lines, one behind another -/
def en_f {α : Type} (st : Nat → α → α) : Nat → α → α
  | 0, p => p
  | c + 1, p => st c (en_f st c p)
def en_l (K : Nat) (ev : (Nat → Nat) → Nat) : Nat → Nat → (Nat → Nat) → Nat × (Nat → Nat) → Nat × (Nat → Nat)
  | 0, _, l, p => if ev l ≤ p.1 then p else (ev l, l)
  | d + 1, k, l, p => en_f (fun c p => en_l K ev d (k + 1) (fun x => if x = k then c else l x) p) (K + 1) p
theorem en_block {K N : Nat} {ev : (Nat → Nat) → Nat} {Inv : kx_St → (Nat → Nat) → (Nat → Nat) → Prop} {Head Next : Nat → kx_St → Nat → Prop}
    (cg : ∀ t l l' b, (∀ x, x < N → l x = l' x) → Inv t l b → Inv t l' b)
    (hE : ∀ f t l b m, (∀ x, x < N → l x ≤ K) → Inv t l b → (∀ t', Inv t' l (if ev l ≤ m then b else l) → Next f t' (if ev l ≤ m then m else ev l)) → Head (f + 1) t m)
    (hN : ∀ f t l b m k, k < N → l k < K → (∀ x, k < x → x < N → l x = K) → (∀ x, x < N → l x ≤ K) → Inv t l b → (∀ t', Inv t' (fun x => if x < k then l x else if x = k then l k + 1 else 0) b → Head f t' m) → Next f t m) :
    ∀ d k l p t f, k + d = N → (∀ x, k ≤ x → l x = 0) → (∀ x, x < N → l x ≤ K) → Inv t l p.2 → (∀ t', Inv t' (fun x => if x < k then l x else K) (en_l K ev d k l p).2 → Next f t' (en_l K ev d k l p).1) → Head (f + (K + 1) ^ d) t p.1 := by
  intro d
  induction d with
  | zero =>
    intro k l p t f hk hz hK I q
    obtain rfl : k = N := by omega
    refine hE f t l p.2 p.1 hK I (fun t' I' => ?_)
    have := q t'
    unfold en_l at this
    by_cases c : ev l ≤ p.1
    · rw [if_pos c] at this I' ⊢
      exact this (cg _ _ _ _ (fun x hx => (if_pos hx).symm) I')
    · rw [if_neg c] at this I' ⊢
      exact this (cg _ _ _ _ (fun x hx => (if_pos hx).symm) I')
  | succ d ih =>
    intro k l p t f hk hz hK I q
    have C : ∀ e c t, c + e = K → Inv t (fun x => if x = k then c else l x) (en_f (fun c p => en_l K ev d (k + 1) (fun x => if x = k then c else l x) p) c p).2 → Head (f + (e + 1) * (K + 1) ^ d) t (en_f (fun c p => en_l K ev d (k + 1) (fun x => if x = k then c else l x) p) c p).1 := by
      intro e
      induction e with
      | zero =>
        intro c t hc I
        obtain rfl : c = K := by omega
        rw [Nat.zero_add, Nat.one_mul]
        refine ih (k + 1) (fun x => if x = k then c else l x) _ t f (by omega) (fun x hx => ?_) (fun x hx => ?_) I (fun t' I' => q t' (cg _ _ _ _ (fun x hx => ?_) I'))
        · rw [if_neg (by omega)]; exact hz x (by omega)
        · by_cases e : x = k
          · rw [if_pos e]; omega
          · rw [if_neg e]; exact hK x hx
        · by_cases e : x = k
          · rw [if_pos (by omega), if_pos e, if_neg (by omega)]
          · by_cases e2 : x < k
            · rw [if_pos (by omega), if_neg e, if_pos e2]
            · rw [if_neg (by omega), if_neg e2]
      | succ e ihe =>
        intro c t hc I
        have ef : f + (e + 1 + 1) * (K + 1) ^ d = f + (e + 1) * (K + 1) ^ d + (K + 1) ^ d := by rw [Nat.add_mul (e + 1) 1, Nat.one_mul, Nat.add_assoc]
        rw [ef]
        refine ih (k + 1) (fun x => if x = k then c else l x) _ t _ (by omega) (fun x hx => ?_) (fun x hx => ?_) I (fun t' I' => ?_)
        · rw [if_neg (by omega)]; exact hz x (by omega)
        · by_cases e : x = k
          · rw [if_pos e]; omega
          · rw [if_neg e]; exact hK x hx
        · refine hN _ t' _ _ _ k (by omega) ?_ (fun x x1 x2 => ?_) (fun x hx => ?_) I' (fun t2 I2 => ihe (c + 1) t2 (by omega) (cg _ _ _ _ (fun x hx => ?_) I2))
          · rw [if_pos (by omega), if_pos rfl]; omega
          · exact if_neg (by omega)
          · by_cases e2 : x < k + 1
            · rw [if_pos e2]
              by_cases e : x = k
              · rw [if_pos e]; omega
              · rw [if_neg e]; exact hK x hx
            · rw [if_neg e2]; exact Nat.le_refl _
          · by_cases e2 : x < k
            · rw [if_pos e2, if_pos (by omega), if_neg (by omega), if_neg (by omega)]
            · rw [if_neg e2]
              by_cases e : x = k
              · rw [if_pos e, if_pos e, if_pos (by omega), if_pos rfl]
              · rw [if_neg e, if_neg e]; exact (hz x (by omega)).symm
    have := C K 0 t (by omega) (cg _ _ _ _ (fun x hx => by
      by_cases e : x = k
      · rw [if_pos e, e]; exact hz k (Nat.le_refl _)
      · rw [if_neg e]) I)
    rw [Nat.pow_succ, Nat.mul_comm]
    exact this
section
variable {σ τ t : kx_St} {n : Nat} {kd wd hv w : Nat → Nat} {wt dc : Nat} {H : Nat → Nat → Nat}
/-- a state with the line l and the best line b -/
def kn_E (τ : kx_St) (N : Nat) (t : kx_St) (l b : Nat → Nat) : Prop := kt_F τ t ∧ (∀ j, j < N → t.1 13 j = nI (l j)) ∧ ∀ j, j < N → t.1 14 j = nI (b j)
theorem kn_E_cg {N : Nat} (t : kx_St) (l l' b : Nat → Nat) (h : ∀ x, x < N → l x = l' x) (I : kn_E τ N t l b) : kn_E τ N t l' b := ⟨I.1, fun j hj => by rw [← h j hj]; exact I.2.1 j hj, I.2.2⟩
theorem s7_next_L {N K : Nat} {Q : kx_St → Int32 → Prop} {b : Nat → Nat} (hN : N ≤ 6) (hK : K < 100) (h3 : τ.1 0 3 = nI K) : ∀ j t l, j ≤ N → (∀ x, x < N → l x ≤ K) → kn_E τ N t l b → (∀ k, k < j → l k < K → (∀ x, k < x → x < j → l x = K) → ∀ t', kn_E τ N t' (fun x => if x < k then l x else if x = k then l k + 1 else if x < j then 0 else l x) b → Q t' 1) → ((∀ x, x < j → l x = K) → ∀ t', kt_F τ t' → (∀ x, x < N → t'.1 14 x = nI (b x)) → Q t' 0) → p7_nextLine_L4 (j + 1) t (nI j - 1) Q := by
  intro j
  induction j with
  | zero =>
    intro t l hj hK2 I q1 q0
    unfold p7_nextLine_L4 p7_nextLine_J34 p7_nextLine_J48
    exact kv_t (by decide) (kv_t (by decide) (kv_t (by decide) (q0 (fun x hx => absurd hx (Nat.not_lt_zero _)) t I.1 I.2.2)))
  | succ j ih =>
    intro t l hj hK2 I q1 q0
    have lj := hK2 j (by omega)
    rw [p7_nextLine_L4, kv_p1, kv_c (by omega), I.2.1 j (by omega), I.1.2.1 0 (by decide) (by decide), h3, show nI j + -1 = nI j - 1 from (Int32.sub_eq_add_neg _ _).symm]
    refine kv_f (kv_ge (by omega)) ⟨kv_in (by omega) (by decide), fun z => ?_, fun z => ⟨kv_in (by omega) (by decide), ?_⟩⟩
    · have lk : l j < K := by
        have : l j ≠ K := fun e => z (by rw [e])
        omega
      unfold p7_nextLine_J34 p7_nextLine_J48
      refine kv_f (kv_ge (by omega)) ⟨kv_in (by omega) (by decide), kv_in (by omega) (by decide), kv_f (kv_ge (by omega)) ?_⟩
      rw [kv_c (by omega), I.2.1 j (by omega), show nI (l j) + 1 = nI (l j + 1) from nI_1 _]
      refine q1 j (by omega) lk (fun x x1 x2 => by omega) _ ⟨kt_sc I.1 (by decide) _ _, fun x hx => ?_, fun x hx => ?_⟩
      · dsimp only
        by_cases e : x = j
        · subst e; rw [kv_us, if_neg (by omega), if_pos rfl]
        · rw [kv_un (by omega), I.2.1 x hx]
          by_cases e2 : x < j
          · rw [if_pos e2]
          · rw [if_neg e2, if_neg e, if_neg (by omega)]
      · rw [kv_un (by omega)]; exact I.2.2 x hx
    · have lk : l j = K := (kv_inj (by omega) (by omega)).mp z
      refine ih _ (fun x => if x = j then 0 else l x) (by omega) (fun x hx => ?_) ⟨kt_sc I.1 (by decide) _ _, fun x hx => ?_, fun x hx => ?_⟩ (fun k k1 k2 k3 t' I' => ?_) (fun k3 t' F' b' => q0 (fun x hx => ?_) t' F' b')
      · by_cases e : x = j
        · rw [if_pos e]; omega
        · rw [if_neg e]; exact hK2 x hx
      · dsimp only
        by_cases e : x = j
        · subst e; rw [kv_us, if_pos rfl]; rfl
        · rw [kv_un (by omega), if_neg e]; exact I.2.1 x hx
      · rw [kv_un (by omega)]; exact I.2.2 x hx
      · rw [if_neg (by omega)] at k2
        refine q1 k (by omega) k2 (fun x x1 x2 => ?_) t' (kn_E_cg _ _ _ _ (fun x hx => ?_) I')
        · by_cases e : x = j
          · rw [e]; exact lk
          · have := k3 x x1 (by omega)
            rwa [if_neg e] at this
        · by_cases e1 : x < k
          · rw [if_pos e1, if_pos e1, if_neg (by omega)]
          · rw [if_neg e1, if_neg e1]
            by_cases e2 : x = k
            · rw [if_pos e2, if_pos e2, if_neg (by omega)]
            · rw [if_neg e2, if_neg e2]
              by_cases e3 : x < j
              · rw [if_pos e3, if_pos (by omega)]
              · rw [if_neg e3]
                by_cases e4 : x = j
                · rw [if_pos e4, if_pos (by omega)]
                · rw [if_neg e4, if_neg (by omega)]
      · by_cases e : x = j
        · rw [e]; exact lk
        · have := k3 x (by omega)
          rwa [if_neg e] at this
end
