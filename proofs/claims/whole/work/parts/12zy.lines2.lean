/-! what all lines of flyings come to -/
theorem en_f_id {α : Type} {st : Nat → α → α} (h : ∀ c p, st c p = p) (p : α) : ∀ c, en_f st c p = p
  | 0 => rfl
  | c + 1 => by rw [en_f, h, en_f_id h p c]
theorem en_0 {K : Nat} {ev : (Nat → Nat) → Nat} : ∀ d k l p, (∀ l', (∀ x, x < k → l' x = l x) → ev l' = 0) → en_l K ev d k l p = p := by
  intro d
  induction d with
  | zero =>
    intro k l p h
    unfold en_l
    rw [h l (fun _ _ => rfl)]
    exact if_pos (Nat.zero_le _)
  | succ d ih =>
    intro k l p h
    rw [en_l]
    refine en_f_id (fun c q => ih (k + 1) _ q (fun l' hl => h l' (fun x hx => ?_))) p (K + 1)
    rw [hl x (by omega), if_neg (by omega)]
def kb_pv (fb : Nat → Nat → Bool) (g : Nat → Nat → Nat) (l : Nat → Nat) : Nat → Nat → Nat → Nat → Nat
  | 0, _, _, s => s + 1
  | d + 1, h, u, s => if l h = 0 then kb_pv fb g l d (h + 1) u s else if (fb h (l h - 1) || u.testBit (l h - 1)) = true then 0 else kb_pv fb g l d (h + 1) (u ||| 2 ^ (l h - 1)) (s + g h (l h - 1))
theorem en_most {n : Nat} {fb : Nat → Nat → Bool} {g : Nat → Nat → Nat} {ev : (Nat → Nat) → Nat} : ∀ d k l u s p, (∀ x, k ≤ x → l x = 0) → (∀ l', (∀ x, x < k → l' x = l x) → ev l' = kb_pv fb g l' d k u s) → en_l n ev d k l p = if s + kb_V n false fb g d k u + 1 ≤ p.1 then p else (s + kb_V n false fb g d k u + 1, fun x => if x < k then l x else kb_ln n fb g d k u x) := by
  intro d
  induction d with
  | zero =>
    intro k l u s p hz hp
    unfold en_l
    rw [hp l (fun _ _ => rfl)]
    show (if s + 1 ≤ p.1 then p else (s + 1, l)) = if s + 0 + 1 ≤ p.1 then p else (s + 0 + 1, fun x => if x < k then l x else 0)
    rw [Nat.add_zero, show (fun x => if x < k then l x else 0) = l from funext fun x => by
      by_cases e : x < k
      · rw [if_pos e]
      · rw [if_neg e]; exact (hz x (by omega)).symm]
  | succ d ih =>
    intro k l u s p hz hp
    rw [en_l]
    have C : ∀ m, m ≤ n → en_f (fun c p => en_l n ev d (k + 1) (fun x => if x = k then c else l x) p) (m + 1) p = if s + kb_B false (fun i => fb k i || u.testBit i) (fun i => g k i + kb_V n false fb g d (k + 1) (u ||| 2 ^ i)) (kb_V n false fb g d (k + 1) u) m + 1 ≤ p.1 then p else (s + kb_B false (fun i => fb k i || u.testBit i) (fun i => g k i + kb_V n false fb g d (k + 1) (u ||| 2 ^ i)) (kb_V n false fb g d (k + 1) u) m + 1, fun x => if x < k then l x else if x = k then kb_D (fun i => fb k i || u.testBit i) (fun i => g k i + kb_V n false fb g d (k + 1) (u ||| 2 ^ i)) (kb_V n false fb g d (k + 1) u) m else kb_ln n fb g d (k + 1) (kb_nx u (kb_D (fun i => fb k i || u.testBit i) (fun i => g k i + kb_V n false fb g d (k + 1) (u ||| 2 ^ i)) (kb_V n false fb g d (k + 1) u) m)) x) := by
      intro m
      induction m with
      | zero =>
        intro _
        rw [en_f, en_f, ih (k + 1) (fun x => if x = k then 0 else l x) u s p (fun x hx => by rw [if_neg (by omega)]; exact hz x (by omega)) (fun l' hl => by
          rw [hp l' (fun x hx => by rw [hl x (by omega), if_neg (by omega)]), kb_pv, if_pos (by rw [hl k (by omega), if_pos rfl])])]
        have el : (fun x => if x < k + 1 then (if x = k then 0 else l x) else kb_ln n fb g d (k + 1) u x) = fun x => if x < k then l x else if x = k then 0 else kb_ln n fb g d (k + 1) u x := funext fun x => by
          by_cases e1 : x < k
          · rw [if_pos (by omega), if_neg (by omega), if_pos e1]
          · rw [if_neg e1]
            by_cases e2 : x = k
            · rw [if_pos (by omega), if_pos e2, if_pos e2]
            · rw [if_neg (by omega), if_neg e2]
        rw [el]
        rfl
      | succ m ihm =>
        intro hm
        rw [en_f, ihm (by omega), kb_B, kb_D]
        by_cases o : (fb k m || u.testBit m) = true
        · rw [if_pos o, if_pos o]
          refine en_0 d (k + 1) _ _ (fun l' hl => ?_)
          have e1 : l' k = m + 1 := by rw [hl k (by omega), if_pos rfl]
          rw [hp l' (fun x hx => by rw [hl x (by omega), if_neg (by omega)]), kb_pv, e1, if_neg (by omega), show m + 1 - 1 = m from rfl, if_pos o]
        · rw [if_neg o, if_neg o, if_neg (show ¬ (false : Bool) = true by decide)]
          rw [ih (k + 1) (fun x => if x = k then m + 1 else l x) (u ||| 2 ^ m) (s + g k m) _ (fun x hx => by rw [if_neg (by omega)]; exact hz x (by omega)) (fun l' hl => by
            have e1 : l' k = m + 1 := by rw [hl k (by omega), if_pos rfl]
            rw [hp l' (fun x hx => by rw [hl x (by omega), if_neg (by omega)]), kb_pv, e1, if_neg (by omega), show m + 1 - 1 = m from rfl, if_neg o])]
          have el : (fun x => if x < k + 1 then (if x = k then m + 1 else l x) else kb_ln n fb g d (k + 1) (u ||| 2 ^ m) x) = fun x => if x < k then l x else if x = k then m + 1 else kb_ln n fb g d (k + 1) (kb_nx u (m + 1)) x := funext fun x => by
            by_cases e1 : x < k
            · rw [if_pos (by omega), if_neg (by omega), if_pos e1]
            · rw [if_neg e1]
              by_cases e2 : x = k
              · rw [if_pos (by omega), if_pos e2, if_pos e2]
              · rw [if_neg (by omega), if_neg e2]
                rfl
          rw [el, show s + g k m + kb_V n false fb g d (k + 1) (u ||| 2 ^ m) = s + (g k m + kb_V n false fb g d (k + 1) (u ||| 2 ^ m)) from Nat.add_assoc _ _ _]
          generalize kb_B false (fun i => fb k i || u.testBit i) (fun i => g k i + kb_V n false fb g d (k + 1) (u ||| 2 ^ i)) (kb_V n false fb g d (k + 1) u) m = B
          generalize g k m + kb_V n false fb g d (k + 1) (u ||| 2 ^ m) = F
          by_cases c1 : B < F
          · rw [if_pos c1, Nat.max_eq_right (by omega)]
            by_cases c2 : s + B + 1 ≤ p.1
            · rw [if_pos c2]
            · rw [if_neg c2, if_neg (by dsimp only; omega), if_neg (by omega)]
          · rw [if_neg c1, Nat.max_eq_left (by omega)]
            by_cases c2 : s + B + 1 ≤ p.1
            · rw [if_pos c2, if_pos (by omega)]
            · rw [if_neg c2, if_pos (by dsimp only; omega)]
    rw [C n (Nat.le_refl _)]
    rfl
