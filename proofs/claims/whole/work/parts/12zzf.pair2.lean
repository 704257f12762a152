section
variable {n : Nat} {cr : Nat → Nat → Nat}
def km_P (n : Nat) (cr : Nat → Nat → Nat) (k : Nat) (q : Nat → Nat) (S z s : Nat) : Prop := S < 2 ^ n ∧ (∀ i, i < n → q i ≤ n ∧ (q i = 0 ∨ (q i - 1 ≠ i ∧ q (q i - 1) = i + 1))) ∧ (∀ j, j < n → (S.testBit j = true ↔ j < k ∨ q j ≠ 0)) ∧ (∀ j, j < n → k ≤ j → q j ≠ 0 → q j - 1 < k) ∧ z = km_z q k ∧ z ≤ n % 2 ∧ (ko_pc S + z) % 2 = 0 ∧ s = km_s cr q k
theorem km_P_in {k S z s : Nat} {q : Nat → Nat} (P : km_P n cr k q S z s) (hk : k < n) (b : S.testBit k = true) : km_P n cr (k + 1) q S z s := by
  obtain ⟨a1, a2, a3, a4, a5, a6, a7, a8⟩ := P
  have qk : q k ≠ 0 := by
    rcases (a3 k hk).mp b with h | h
    · omega
    · exact h
  have qk2 := a4 k hk (Nat.le_refl _) qk
  refine ⟨a1, a2, fun j hj => ?_, fun j hj h1 h2 => ?_, ?_, a6, a7, ?_⟩
  · rw [a3 j hj]
    constructor
    · rintro (h | h)
      · exact Or.inl (by omega)
      · exact Or.inr h
    · rintro (h | h)
      · by_cases e : j = k
        · rw [e]; exact Or.inr qk
        · exact Or.inl (by omega)
      · exact Or.inr h
  · have := a4 j hj (by omega) h2; omega
  · rw [km_z, if_neg qk]; exact a5
  · rw [km_s, if_neg (by omega)]; exact a8
theorem km_P_lv {k S z s : Nat} {q : Nat → Nat} (n6 : n ≤ 6) (P : km_P n cr k q S z s) (hk : k < n) (b : S.testBit k = false) (hz : z + 1 ≤ n % 2) : km_P n cr (k + 1) q (S ||| 2 ^ k) (z + 1) s := by
  obtain ⟨a1, a2, a3, a4, a5, a6, a7, a8⟩ := P
  have o := kb_or n6 a1 hk
  have qk : q k = 0 := by
    by_cases e : q k = 0
    · exact e
    · rw [(a3 k hk).mpr (Or.inr e)] at b; cases b
  have pc := km_pc1 S o.2.1 k (by omega) b
  refine ⟨o.1, a2, fun j hj => ?_, fun j hj h1 h2 => ?_, ?_, hz, by omega, ?_⟩
  · rw [kv_tb, a3 j hj]
    constructor
    · rintro ((h | h) | h)
      · exact Or.inl (by omega)
      · exact Or.inr h
      · exact Or.inl (by omega)
    · rintro (h | h)
      · by_cases e : j = k
        · exact Or.inr e.symm
        · exact Or.inl (Or.inl (by omega))
      · exact Or.inl (Or.inr h)
  · have := a4 j hj (by omega) h2; omega
  · rw [km_z, if_pos qk, a5]
  · rw [km_s, if_neg (by omega)]; exact a8
theorem km_up_k (q : Nat → Nat) (k j : Nat) : km_up q k j k = j + 1 := if_pos rfl
theorem km_up_j (q : Nat → Nat) {k j : Nat} (h : k < j) : km_up q k j j = k + 1 := (if_neg (by omega)).trans (if_pos rfl)
theorem km_up_x (q : Nat → Nat) {k j x : Nat} (h1 : x ≠ k) (h2 : x ≠ j) : km_up q k j x = q x := (if_neg h1).trans (if_neg h2)
theorem km_P_pr {k j S z s : Nat} {q : Nat → Nat} (n6 : n ≤ 6) (P : km_P n cr k q S z s) (hj : j < n) (kj : k < j) (b : S.testBit k = false) (bj : S.testBit j = false) : km_P n cr (k + 1) (km_up q k j) (S ||| 2 ^ k ||| 2 ^ j) z (s + cr k j) := by
  obtain ⟨a1, a2, a3, a4, a5, a6, a7, a8⟩ := P
  have hk : k < n := by omega
  have o := kb_or n6 a1 hk
  have o2 := kb_or n6 o.1 hj
  have qk : q k = 0 := by
    by_cases e : q k = 0
    · exact e
    · rw [(a3 k hk).mpr (Or.inr e)] at b; cases b
  have qj : q j = 0 := by
    by_cases e : q j = 0
    · exact e
    · rw [(a3 j hj).mpr (Or.inr e)] at bj; cases bj
  have bj2 : (S ||| 2 ^ k).testBit j = false := by
    rcases hh : (S ||| 2 ^ k).testBit j with _ | _
    · rfl
    · rcases kv_tb.mp hh with h | h
      · rw [bj] at h; cases h
      · omega
  have pc := km_pc1 S o.2.1 k (by omega) b
  have pc2 := km_pc1 (S ||| 2 ^ k) o.2.2 j (by omega) bj2
  refine ⟨o2.1, fun i hi => ?_, fun x hx => ?_, fun x hx h1 h2 => ?_, ?_, a6, by omega, ?_⟩
  · by_cases e1 : i = k
    · subst e1
      rw [km_up_k]
      refine ⟨by omega, Or.inr ⟨by omega, ?_⟩⟩
      rw [show j + 1 - 1 = j from rfl, km_up_j q kj]
    · by_cases e2 : i = j
      · subst e2
        rw [km_up_j q kj]
        refine ⟨by omega, Or.inr ⟨by omega, ?_⟩⟩
        rw [show k + 1 - 1 = k from rfl, km_up_k]
      · rw [km_up_x q e1 e2]
        obtain ⟨c1, c2⟩ := a2 i hi
        refine ⟨c1, ?_⟩
        rcases c2 with c2 | ⟨c2, c3⟩
        · exact Or.inl c2
        · refine Or.inr ⟨c2, ?_⟩
          rw [km_up_x q (fun e => by rw [e, qk] at c3; omega) (fun e => by rw [e, qj] at c3; omega)]
          exact c3
  · rw [kv_tb, kv_tb, a3 x hx]
    by_cases e1 : x = k
    · subst e1
      exact ⟨fun _ => Or.inl (by omega), fun _ => Or.inl (Or.inr rfl)⟩
    · by_cases e2 : x = j
      · subst e2
        exact ⟨fun _ => Or.inr (by rw [km_up_j q kj]; omega), fun _ => Or.inr rfl⟩
      · rw [km_up_x q e1 e2]
        constructor
        · rintro (((h | h) | h) | h)
          · exact Or.inl (by omega)
          · exact Or.inr h
          · exact absurd h.symm e1
          · exact absurd h.symm e2
        · rintro (h | h)
          · exact Or.inl (Or.inl (Or.inl (by omega)))
          · exact Or.inl (Or.inl (Or.inr h))
  · by_cases e2 : x = j
    · subst e2; rw [km_up_j q kj]; omega
    · rw [km_up_x q (by omega) e2] at h2 ⊢
      have := a4 x hx (by omega) h2; omega
  · rw [km_z, km_up_k, if_neg (by omega), km_z_cg (l := km_up q k j) (l' := q) k (fun x hx => km_up_x q (by omega) (by omega))]
    exact a5
  · rw [km_s, km_up_k, show j + 1 - 1 = j from rfl, if_pos kj, km_s_cg (l := km_up q k j) (l' := q) k (fun x hx => km_up_x q (by omega) (by omega)), a8]
theorem en_f_no {α : Type} {st : Nat → α → α} {c0 : Nat} (h : ∀ c p, c ≠ c0 → st c p = p) (p : α) : ∀ m, m ≤ c0 → en_f st m p = p
  | 0, _ => rfl
  | m + 1, hm => by rw [en_f, h m _ (by omega), en_f_no h p m (by omega)]
theorem en_f_one {α : Type} {st : Nat → α → α} {c0 : Nat} (h : ∀ c p, c ≠ c0 → st c p = p) (p : α) : ∀ m, c0 < m → en_f st m p = st c0 p
  | 0, hm => absurd hm (Nat.not_lt_zero _)
  | m + 1, hm => by
    rw [en_f]
    by_cases e : m = c0
    · rw [e, en_f_no h p c0 (Nat.le_refl _)]
    · rw [h m _ e, en_f_one h p m (by omega)]
def km_R (n : Nat) (cr : Nat → Nat → Nat) (d k S : Nat) (q : Nat → Nat) (c : Nat) : Nat → Nat := if c = 0 then km_ln n cr d (k + 1) (S ||| 2 ^ k) q else km_ln n cr d (k + 1) (S ||| 2 ^ k ||| 2 ^ (c - 1)) (km_up q k (c - 1))
def km_res (n : Nat) (cr : Nat → Nat → Nat) (d k S : Nat) (q : Nat → Nat) (s : Nat) (o : Option (Nat × Nat)) (p : Nat × (Nat → Nat)) : Nat × (Nat → Nat) := match o with
  | none => p
  | some ac => if s + ac.1 + 1 ≤ p.1 then p else (s + ac.1 + 1, fun x => if x < n then km_R n cr d k S q ac.2 x else 0)
theorem en_merge (n6 : n ≤ 6) : ∀ d k q S z s p, k + d = n → km_P n cr k q S z s → en_l n (km_ev n cr) d k (fun x => if x < k then q x else 0) p = if s + km_V n cr d k S + 1 ≤ p.1 then p else (s + km_V n cr d k S + 1, fun x => if x < n then km_ln n cr d k S q x else 0) := by
  intro d
  induction d with
  | zero =>
    intro k q S z s p hk P
    obtain rfl : k = n := by omega
    obtain ⟨a1, a2, a3, a4, a5, a6, a7, a8⟩ := P
    have p64 := (ko_126 n6).2.1
    have pc := km_pcf k (by omega) S (by omega) a1 (fun i hi => (a3 i hi).mpr (Or.inl hi))
    have ev : km_ev k cr (fun x => if x < k then q x else 0) = s + 1 := by
      have o1 : ∀ i, i < k → (fun x => if x < k then q x else 0) i = 0 ∨ ((fun x => if x < k then q x else 0) i - 1 ≠ i ∧ (fun x => if x < k then q x else 0) ((fun x => if x < k then q x else 0) i - 1) = i + 1) := fun i hi => by
        dsimp only
        rw [if_pos hi]
        obtain ⟨c1, c2⟩ := a2 i hi
        rcases c2 with c2 | ⟨c2, c3⟩
        · exact Or.inl c2
        · refine Or.inr ⟨c2, ?_⟩
          rw [if_pos (by omega)]; exact c3
      have o2 : km_z (fun x => if x < k then q x else 0) k = k % 2 := by
        rw [km_z_cg (l := fun x => if x < k then q x else 0) (l' := q) k (fun x hx => if_pos hx), ← a5]
        omega
      rw [km_ev_1 o1 o2, km_s_cg (l := fun x => if x < k then q x else 0) (l' := q) k (fun x hx => if_pos hx), ← a8]
    unfold en_l
    rw [ev]
    rfl
  | succ d ih =>
    intro k q S z s p hk P
    have hkn : k < n := by omega
    have P' := P
    obtain ⟨a1, a2, a3, a4, a5, a6, a7, a8⟩ := P'
    have p64 := (ko_126 n6).2.1
    have pn := km_pcn n (by omega) S (by omega) a1
    rw [en_l]
    by_cases b : S.testBit k = true
    · have qk : q k ≠ 0 := by
        rcases (a3 k hkn).mp b with h | h
        · omega
        · exact h
      have qk2 := a4 k hkn (Nat.le_refl _) qk
      have qa : q (q k - 1) = k + 1 := by
        rcases (a2 k hkn).2 with h | h
        · exact absurd h qk
        · exact h.2
      have qn := (a2 k hkn).1
      rw [en_f_one (c0 := q k) (fun c p' hc => en_0 d (k + 1) _ p' (fun l' hl => km_ev_0 (fun ok _ => ?_))) p (n + 1) (by omega)]
      · have el : (fun x => if x = k then q k else if x < k then q x else 0) = fun x => if x < k + 1 then q x else 0 := funext fun x => by
          by_cases e1 : x = k
          · rw [if_pos e1, if_pos (by omega), e1]
          · rw [if_neg e1]
            by_cases e2 : x < k
            · rw [if_pos e2, if_pos (by omega)]
            · rw [if_neg e2, if_neg (by omega)]
        rw [el, ih (k + 1) q S z s p (by omega) (km_P_in P hkn b), km_V, if_pos b, km_ln, if_pos b]
      · have la : l' (q k - 1) = k + 1 := by rw [hl _ (by omega), if_neg (by omega), if_pos qk2]; exact qa
        have lk : l' k = c := by rw [hl k (by omega), if_pos rfl]
        rcases ok (q k - 1) (by omega) with h | ⟨_, h⟩
        · omega
        · rw [la, show k + 1 - 1 = k from rfl, lk] at h
          omega
    · have bf : S.testBit k = false := by simpa using b
      have qk : q k = 0 := by
        by_cases e : q k = 0
        · exact e
        · rw [(a3 k hkn).mpr (Or.inr e)] at bf; cases bf
      have mlz : km_ml n S = true ↔ z + 1 ≤ n % 2 := by
        unfold km_ml
        rw [beq_iff_eq]
        omega
      have C : ∀ m, m ≤ n → en_f (fun c p => en_l n (km_ev n cr) d (k + 1) (fun x => if x = k then c else if x < k then q x else 0) p) (m + 1) p = km_res n cr d k S q s (km_f (km_ml n S) (km_out S k) (fun j => cr k j + km_V n cr d (k + 1) (S ||| 2 ^ k ||| 2 ^ j)) (km_V n cr d (k + 1) (S ||| 2 ^ k)) m) p := by
        intro m
        induction m with
        | zero =>
          intro _
          rw [en_f, en_f, km_f]
          by_cases ml : km_ml n S = true
          · rw [if_pos ml]
            have el : (fun x => if x = k then 0 else if x < k then q x else 0) = fun x => if x < k + 1 then q x else 0 := funext fun x => by
              by_cases e1 : x = k
              · rw [if_pos e1, if_pos (by omega), e1, qk]
              · rw [if_neg e1]
                by_cases e2 : x < k
                · rw [if_pos e2, if_pos (by omega)]
                · rw [if_neg e2, if_neg (by omega)]
            rw [el, ih (k + 1) q (S ||| 2 ^ k) (z + 1) s p (by omega) (km_P_lv n6 P hkn bf (mlz.mp ml))]
            rfl
          · rw [if_neg ml]
            refine en_0 d (k + 1) _ p (fun l' hl => km_ev_0 (fun _ hz => ?_))
            have mono := km_z_mono l' (k + 1) (n - (k + 1))
            rw [show k + 1 + (n - (k + 1)) = n by omega, km_z, hl k (by omega), if_pos rfl, if_pos rfl, km_z_cg (l := l') (l' := q) k (fun x hx => by rw [hl x (by omega), if_neg (by omega), if_pos hx]), ← a5] at mono
            have : ¬ z + 1 ≤ n % 2 := fun c => ml (mlz.mpr c)
            omega
        | succ m ihm =>
          intro hm
          rw [en_f, ihm (by omega), km_f]
          by_cases o : km_out S k m = true
          · rw [if_pos o]
            refine en_0 d (k + 1) _ _ (fun l' hl => km_ev_0 (fun ok _ => ?_))
            have lk : l' k = m + 1 := by rw [hl k (by omega), if_pos rfl]
            have low : ∀ x, x < k → l' x = q x := fun x hx => by rw [hl x (by omega), if_neg (by omega), if_pos hx]
            rcases ok k hkn with h | ⟨h1, h2⟩
            · omega
            · rw [lk, show m + 1 - 1 = m from rfl] at h1 h2
              unfold km_out at o
              rw [Bool.or_eq_true, decide_eq_true_iff] at o
              by_cases mk : m < k
              · rw [low m mk] at h2
                rcases (a2 m (by omega)).2 with h | ⟨_, h⟩
                · omega
                · rw [h2, show k + 1 - 1 = k from rfl, qk] at h
                  omega
              · have bm : S.testBit m = true := by
                  rcases o with o | o
                  · omega
                  · exact o
                have qm : q m ≠ 0 := by
                  rcases (a3 m (by omega)).mp bm with h | h
                  · omega
                  · exact h
                have qm2 := a4 m (by omega) (by omega) qm
                have qa : q (q m - 1) = m + 1 := by
                  rcases (a2 m (by omega)).2 with h | h
                  · exact absurd h qm
                  · exact h.2
                rcases ok (q m - 1) (by omega) with h | ⟨_, h⟩
                · rw [low _ qm2] at h; omega
                · rw [low _ qm2, qa, show m + 1 - 1 = m from rfl, h2] at h
                  omega
          · rw [if_neg o]
            have of : km_out S k m = false := by simpa using o
            have of2 := of
            unfold km_out at of2
            rw [Bool.or_eq_false_iff, decide_eq_false_iff_not] at of2
            obtain ⟨km, bm⟩ := of2
            have el : (fun x => if x = k then m + 1 else if x < k then q x else 0) = fun x => if x < k + 1 then km_up q k m x else 0 := funext fun x => by
              by_cases e1 : x = k
              · rw [if_pos e1, if_pos (by omega), e1, km_up_k]
              · rw [if_neg e1]
                by_cases e2 : x < k
                · rw [if_pos e2, if_pos (by omega), km_up_x q e1 (by omega)]
                · rw [if_neg e2, if_neg (by omega)]
            rw [el, ih (k + 1) (km_up q k m) (S ||| 2 ^ k ||| 2 ^ m) z (s + cr k m) _ (by omega) (km_P_pr n6 P (by omega) (by omega) bf bm), show s + cr k m + km_V n cr d (k + 1) (S ||| 2 ^ k ||| 2 ^ m) = s + (cr k m + km_V n cr d (k + 1) (S ||| 2 ^ k ||| 2 ^ m)) from Nat.add_assoc _ _ _]
            have eR : km_R n cr d k S q (m + 1) = km_ln n cr d (k + 1) (S ||| 2 ^ k ||| 2 ^ m) (km_up q k m) := if_neg (by omega)
            rw [← eR]
            generalize cr k m + km_V n cr d (k + 1) (S ||| 2 ^ k ||| 2 ^ m) = F
            cases km_f (km_ml n S) (km_out S k) (fun j => cr k j + km_V n cr d (k + 1) (S ||| 2 ^ k ||| 2 ^ j)) (km_V n cr d (k + 1) (S ||| 2 ^ k)) m with
            | none => rfl
            | some ac =>
              show (if s + F + 1 ≤ (km_res n cr d k S q s (some ac) p).1 then km_res n cr d k S q s (some ac) p else (s + F + 1, fun x => if x < n then km_R n cr d k S q (m + 1) x else 0)) = km_res n cr d k S q s (if ac.1 < F then some (F, m + 1) else some ac) p
              by_cases c2 : s + ac.1 + 1 ≤ p.1
              · have e : km_res n cr d k S q s (some ac) p = p := if_pos c2
                rw [e]
                by_cases c1 : ac.1 < F
                · rw [if_pos c1]; rfl
                · rw [if_neg c1, if_pos (by omega), e]
              · have e : km_res n cr d k S q s (some ac) p = (s + ac.1 + 1, fun x => if x < n then km_R n cr d k S q ac.2 x else 0) := if_neg c2
                rw [e]
                by_cases c1 : ac.1 < F
                · rw [if_neg (show ¬ s + F + 1 ≤ s + ac.1 + 1 by omega), if_pos c1]
                  exact (if_neg (show ¬ s + F + 1 ≤ p.1 by omega)).symm
                · rw [if_pos (show s + F + 1 ≤ s + ac.1 + 1 by omega), if_neg c1, e]
      rw [C n (Nat.le_refl _)]
      have eo : km_o n cr d k S = km_f (km_ml n S) (km_out S k) (fun j => cr k j + km_V n cr d (k + 1) (S ||| 2 ^ k ||| 2 ^ j)) (km_V n cr d (k + 1) (S ||| 2 ^ k)) n := rfl
      have eV : km_V n cr (d + 1) k S = km_v (km_o n cr d k S) := by rw [km_V, if_neg b]; rfl
      have eL : km_ln n cr (d + 1) k S q = km_R n cr d k S q (km_c (km_o n cr d k S)) := by rw [km_ln, if_neg b]; rfl
      rw [← eo, eV, eL]
      cases ho : km_o n cr d k S with
      | some ac => rfl
      | none =>
        exfalso
        obtain ⟨m0, all⟩ := (km_f_spec (ml := km_ml n S) (out := km_out S k) (f := fun j => cr k j + km_V n cr d (k + 1) (S ||| 2 ^ k ||| 2 ^ j)) (b0 := km_V n cr d (k + 1) (S ||| 2 ^ k)) n).1 (eo.symm.trans ho)
        refine km_two n6 a1 hkn (fun i hi => (a3 i (by omega)).mpr (Or.inl hi)) bf ?_ (fun j hj kj => ?_)
        · unfold km_ml at m0
          have := beq_eq_false_iff_ne.mp m0
          omega
        · have := all j hj
          unfold km_out at this
          rw [Bool.or_eq_true, decide_eq_true_iff] at this
          rcases this with h | h
          · omega
          · exact h
end
