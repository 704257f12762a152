/-! by turns: the best so far, of none at first -/
def kd_op (lit : Bool) (o : Option Nat) (v : Nat) : Nat := match o with
  | none => v
  | some a => if lit = true then min a v else max a v
def kd_i (lit : Bool) (o : Option Nat) : Int32 := match o with
  | none => if lit = true then 99999 else -1
  | some a => nI a
def kd_f (lit : Bool) (out : Nat → Bool) (f : Nat → Nat) : Nat → Option Nat
  | 0 => none
  | m + 1 => if out m = true then kd_f lit out f m else some (kd_op lit (kd_f lit out f m) (f m))
theorem kd_f_B (lit : Bool) (out : Nat → Bool) (f : Nat → Nat) (b0 : Nat) : ∀ m, kd_op lit (kd_f lit out f m) b0 = kb_B lit out f b0 m
  | 0 => rfl
  | m + 1 => by
    have ih := kd_f_B lit out f b0 m
    rw [kd_f, kb_B, ← ih]
    by_cases o : out m = true
    · rw [if_pos o, if_pos o]
    · rw [if_neg o, if_neg o]
      cases kd_f lit out f m with
      | none =>
        cases lit with
        | true => show min (f m) b0 = min b0 (f m); omega
        | false => show max (f m) b0 = max b0 (f m); omega
      | some a =>
        cases lit with
        | true => show min (min a (f m)) b0 = min (min a b0) (f m); omega
        | false => show max (max a (f m)) b0 = max (max a b0) (f m); omega
theorem kb_B_s (lit : Bool) (out : Nat → Bool) (f : Nat → Nat) (b0 s : Nat) : ∀ m, kb_B lit out (fun i => s + f i) (s + b0) m = s + kb_B lit out f b0 m
  | 0 => rfl
  | m + 1 => by
    rw [kb_B, kb_B, kb_B_s lit out f b0 s m]
    split
    · rfl
    · split <;> omega
theorem kd_f_le {lit : Bool} {out : Nat → Bool} {f : Nat → Nat} {M : Nat} : ∀ m, (∀ i, i < m → f i ≤ M) → ∀ a, kd_f lit out f m = some a → a ≤ M
  | 0, _, a, h => by cases h
  | m + 1, hf, a, h => by
    rw [kd_f] at h
    have ih := kd_f_le (lit := lit) (out := out) (f := f) m (fun i hi => hf i (by omega))
    have fm := hf m (by omega)
    split at h
    · exact ih a h
    · cases h
      cases ho : kd_f lit out f m with
      | none => exact fm
      | some b =>
        have := ih b ho
        unfold kd_op
        dsimp only
        split <;> omega
section
variable {σ τ t : kx_St} {n : Nat} {kd wd hv w : Nat → Nat} {wt dc : Nat} {H : Nat → Nat → Nat}
theorem s7_better {tn v : Nat} {o : Option Nat} {Q : Int32 → Prop} (ht : tn < 7) (hv : v < 99999) (ho : ∀ a, o = some a → a < 99999) (q : Q (nI (kd_op (kb_lI true tn) o v))) : p7_better (nI tn) (kd_i (kb_lI true tn) o) (nI v) Q := by
  have z2 : nI tn - nI tn / 2 * 2 = nI (tn % 2) := by rw [show (2 : Int32) = nI 2 from rfl, kv_rem (by omega) (by decide) (by decide)]
  unfold p7_better
  rw [z2]
  rcases (show tn % 2 = 0 ∨ tn % 2 = 1 by omega) with e | e
  · have el : kb_lI true tn = false := by unfold kb_lI; rw [e]; rfl
    rw [el] at q ⊢
    rw [e]
    refine kv_T rfl ?_
    cases o with
    | none =>
      refine kv_t ?_ q
      show (-1 : Int32) ≤ nI v
      rw [kv_le, kv_n (by omega)]
      show (-1 : Int) ≤ _
      omega
    | some a =>
      have := ho a rfl
      show (nI a ≤ nI v → Q (nI v)) ∧ (¬ nI a ≤ nI v → Q (nI a))
      rw [kv_leN (by omega) (by omega)]
      have q : Q (nI (max a v)) := q
      refine ⟨fun c => ?_, fun c => ?_⟩
      · rw [Nat.max_eq_right c] at q; exact q
      · rw [Nat.max_eq_left (by omega)] at q; exact q
  · have el : kb_lI true tn = true := by unfold kb_lI; rw [e]; rfl
    rw [el] at q ⊢
    rw [e]
    refine kv_F (by decide) ?_
    cases o with
    | none =>
      refine kv_t ?_ q
      show nI v ≤ nI 99999
      rw [kv_leN (by omega) (by omega)]; omega
    | some a =>
      have := ho a rfl
      show (nI v ≤ nI a → Q (nI v)) ∧ (¬ nI v ≤ nI a → Q (nI a))
      rw [kv_leN (by omega) (by omega)]
      have q : Q (nI (min a v)) := q
      refine ⟨fun c => ?_, fun c => ?_⟩
      · rw [Nat.min_eq_right c] at q; exact q
      · rw [Nat.min_eq_left (by omega)] at q; exact q
/-- at turn tn the option i is next; all ahead of this turn is as in t0 -/
def kd_S (τ t0 t : kx_St) (tn i u s : Nat) (o : Option Nat) : Prop := kt_F τ t ∧ (∀ c, 15 ≤ c → c ≤ 18 → ∀ x, x < tn → t.1 c x = t0.1 c x) ∧ t.1 15 tn = nI i ∧ t.1 16 tn = nI u ∧ t.1 17 tn = nI s ∧ t.1 18 tn = kd_i (kb_lI true tn) o
theorem s7_begin {tn : Nat} {Q : kx_St → Prop} (ht : tn < 7) (F : kt_F τ t) (q : ∀ t', kt_F τ t' → (∀ c, 15 ≤ c → c ≤ 18 → ∀ x, x ≠ tn → t'.1 c x = t.1 c x) → t'.1 15 tn = nI 0 → t'.1 16 tn = t.1 16 tn → t'.1 17 tn = t.1 17 tn → t'.1 18 tn = kd_i (kb_lI true tn) none → Q t') : p7_beginTurn t (nI tn) Q := by
  have z2 : nI tn - nI tn / 2 * 2 = nI (tn % 2) := by rw [show (2 : Int32) = nI 2 from rfl, kv_rem (by omega) (by decide) (by decide)]
  have l18 : kx_l 1 18 = 7 := by decide
  have go : ∀ v : Int32, v = kd_i (kb_lI true tn) none → p7_beginTurn_J24 (kx_sI t 15 tn 0) 18 (nI tn) v Q := by
    intro v hv
    unfold p7_beginTurn_J24
    rw [l18, kv_c (by omega)]
    refine ⟨kv_in ht (by decide), q _ (kt_sc (kt_sc F (by decide) _ _) (by decide) _ _) (fun c c1 c2 x hx => ?_) ?_ ?_ ?_ ?_⟩
    · rw [kv_un (by omega), kv_un (by omega)]
    · rw [kv_un (by omega), kv_us]; rfl
    · rw [kv_un (by omega), kv_un (by omega)]
    · rw [kv_un (by omega), kv_un (by omega)]
    · rw [kv_us]; exact hv
  unfold p7_beginTurn
  rw [kv_c (by omega), z2]
  refine ⟨kv_in ht (by decide), ?_⟩
  rcases (show tn % 2 = 0 ∨ tn % 2 = 1 by omega) with e | e
  · have el : kb_lI true tn = false := by unfold kb_lI; rw [e]; rfl
    rw [e]
    exact kv_T rfl (go _ (by rw [el]; rfl))
  · have el : kb_lI true tn = true := by unfold kb_lI; rw [e]; rfl
    rw [e]
    exact kv_F (by decide) (go _ (by rw [el]; rfl))
end
