section
variable {σ τ t : kx_St} {n : Nat} {kd wd hv w : Nat → Nat} {wt dc : Nat} {H : Nat → Nat → Nat}
def kn_cr (kd wd v : Nat → Nat) (x i j : Nat) : Nat := ku_cr (kn_L kd wd v i x) (kn_L kd wd v j x)
theorem kn_cr_le (N : kr_now σ τ n kd wd hv w wt dc H) {i j x : Nat} (hi : i < n) (hj : j < n) (hx : x < 10) : kn_cr kd wd (H dc) x i j ≤ 105 := by
  have a := kn_L_le N hi hx
  have b := kn_L_le N hj hx
  unfold kn_cr ku_cr
  split
  · omega
  · split <;> omega
theorem km_s_le (N : kr_now σ τ n kd wd hv w wt dc H) {x : Nat} {l : Nat → Nat} (hx : x < 10) (hl : ∀ i, i < n → l i ≤ n) : ∀ m, m ≤ n → km_s (kn_cr kd wd (H dc) x) l m ≤ 105 * m
  | 0, _ => Nat.le_refl _
  | m + 1, hm => by
    have a := km_s_le N (l := l) hx hl m (by omega)
    have b := hl m (by omega)
    rw [km_s]
    split
    · have := kn_cr_le N (i := m) (j := l m - 1) (by omega) (by omega) hx
      omega
    · omega
theorem s7_mergedBy (N : kr_now σ τ n kd wd hv w wt dc H) {x : Nat} {l : Nat → Nat} {Q : Int32 → Prop} (hx : x < 10) (hl : ∀ i, i < n → l i ≤ n) (hL : ∀ i, i < n → τ.1 13 i = nI (l i)) (q : Q (nI (km_ev n (kn_cr kd wd (H dc) x) l) - 1)) : p7_mergedBy τ (nI x) Q := by
  have n6 := kn_n6 N
  have mn : τ.1 0 3 = nI n := kn_mn N
  have L : ∀ d i, i + d = n → p7_mergedBy_L10 (d + 1) τ (nI x) (nI (km_s (kn_cr kd wd (H dc) x) l i)) (nI (km_z l i)) (kb_dI (km_okb l i)) (nI i) Q := by
    intro d
    induction d with
    | zero =>
      intro i hi
      obtain rfl : i = n := by omega
      have z2 : nI i - nI i / 2 * 2 = nI (i % 2) := by rw [show (2 : Int32) = nI 2 from rfl, kv_rem (by omega) (by decide) (by decide)]
      have zl : ∀ m, km_z l m ≤ m := fun m => by
        induction m with
        | zero => exact Nat.le_refl _
        | succ m ih => rw [km_z]; split <;> omega
      have zi := zl i
      unfold p7_mergedBy_L10
      rw [mn, z2]
      refine kv_t (by rw [kv_leN (by omega) (by omega)]; omega) ?_
      unfold km_ev at q
      cases ok : km_okb l i with
      | false =>
        rw [ok, if_neg (by simp)] at q
        exact kv_t rfl q
      | true =>
        rw [ok] at q
        refine kv_f (by decide) ?_
        by_cases e : km_z l i = i % 2
        · rw [if_pos (by rw [e]; simp), kv_p1] at q
          exact kv_T (by rw [e]) q
        · rw [if_neg (by simp [e])] at q
          exact kv_F (fun z => e ((kv_inj (by omega) (by omega)).mp z)) q
    | succ d ih =>
      intro i hi
      have hin : i < n := by omega
      have nx := ih (i + 1) (by omega)
      have li := hl i hin
      have ei : nI i + 1 = nI (i + 1) := nI_1 _
      rw [p7_mergedBy_L10, mn, kv_c (by omega), hL i hin]
      refine kv_f (by rw [kv_leN (by omega) (by omega)]; omega) ⟨kv_in (by omega) (by decide), ?_⟩
      by_cases c0 : l i = 0
      · rw [km_okb, km_z, km_s, if_pos c0, if_neg (show ¬ i < l i - 1 by omega), Nat.add_zero, c0, show ((0 : Nat) == 0) = true from rfl, Bool.true_or, Bool.and_true] at nx
        have em : (nI 0 - 1 : Int32) = -1 := by decide
        have J : ∀ b : Int32, b = kb_dI (km_okb l i) → p7_mergedBy_J79 τ (nI x) (nI (km_s (kn_cr kd wd (H dc) x) l i)) (nI (km_z l i) + 1) (nI i) (-1) b (fun x1 x2 x3 x4 x5 => p7_mergedBy_L10 (d + 1) τ x1 x2 x3 x4 x5 Q) Q := by
          intro b hb
          unfold p7_mergedBy_J79
          rw [ei, show nI (km_z l i) + 1 = nI (km_z l i + 1) from nI_1 _, show nI (km_s (kn_cr kd wd (H dc) x) l i) + 0 = nI (km_s (kn_cr kd wd (H dc) x) l i + 0) from kv_add _ 0, Nat.add_zero, hb]
          refine kv_t ?_ nx
          rw [kv_le, kv_n (by omega)]
          show (-1 : Int) ≤ _
          omega
        rw [c0, em]
        refine kv_f (by decide) ?_
        unfold p7_mergedBy_J41
        cases ok : km_okb l i with
        | false => exact kv_t rfl (J _ (by rw [ok]; rfl))
        | true => exact kv_f (by decide) (kv_t (by decide) (J _ (by rw [ok]; rfl)))
      · obtain ⟨j, hj⟩ : ∃ j, l i = j + 1 := ⟨l i - 1, by omega⟩
        have hjn : j < n := by omega
        have sb := km_s_le N (l := l) hx hl i (by omega)
        rw [km_okb, km_z, km_s, if_neg c0, Nat.add_zero, hj, show j + 1 - 1 = j from rfl, show ((j + 1 : Nat) == 0) = false from rfl, Bool.false_or] at nx
        have J : ∀ b : Int32, b = kb_dI (km_okb l i && (j != i && l j == i + 1)) → p7_mergedBy_J79 τ (nI x) (nI (km_s (kn_cr kd wd (H dc) x) l i)) (nI (km_z l i) + 0) (nI i) (nI j) b (fun x1 x2 x3 x4 x5 => p7_mergedBy_L10 (d + 1) τ x1 x2 x3 x4 x5 Q) Q := by
          intro b hb
          unfold p7_mergedBy_J79
          rw [ei, show nI (km_z l i) + 0 = nI (km_z l i + 0) from kv_add _ 0, Nat.add_zero, hb]
          by_cases ij : i < j
          · rw [if_pos ij] at nx
            refine kv_f (by rw [kv_leN (by omega) (by omega)]; omega) (s7_crossedIn N hin hjn hx ?_)
            rw [kv_add]
            exact nx
          · rw [if_neg ij, Nat.add_zero] at nx
            rw [show nI (km_s (kn_cr kd wd (H dc) x) l i) + 0 = nI (km_s (kn_cr kd wd (H dc) x) l i + 0) from kv_add _ 0, Nat.add_zero]
            exact kv_t (by rw [kv_leN (by omega) (by omega)]; omega) nx
        rw [hj, kv_p1]
        refine kv_t (kv_ge0 (by omega)) ?_
        unfold p7_mergedBy_J41
        cases ok : km_okb l i with
        | false => exact kv_t rfl (J _ (by rw [ok]; rfl))
        | true =>
          refine kv_f (by decide) (kv_f (kv_ge (by omega)) ?_)
          by_cases e : j = i
          · refine kv_t (by rw [e]) (J _ ?_)
            rw [ok, e]
            simp [kb_dI]
          · refine kv_f (fun z => e ((kv_inj (by omega) (by omega)).mp z)) ⟨kv_in (by omega) (by decide), ?_⟩
            have lj := hl j hjn
            rw [kv_c (by omega), hL j hjn, ei]
            by_cases e2 : l j = i + 1
            · refine kv_T (by rw [e2]) (J _ ?_)
              rw [ok, e2]
              simp [kb_dI, e]
            · refine kv_F (fun z => e2 ((kv_inj (by omega) (by omega)).mp z)) (J _ ?_)
              rw [ok]
              simp [kb_dI, e2]
  exact ⟨n + 1, L n 0 (by omega)⟩
theorem km_c_le {ml : Bool} {out : Nat → Bool} {f : Nat → Nat} {b0 m : Nat} : km_c (km_f ml out f b0 m) ≤ m := by
  have sp := (km_f_spec (ml := ml) (out := out) (f := f) (b0 := b0) m).2
  cases h : km_f ml out f b0 m with
  | none => exact Nat.zero_le _
  | some p =>
    rcases (sp p.1 p.2 h).2 with ⟨e, _⟩ | ⟨j, hj, e, _⟩
    · show p.2 ≤ m; omega
    · show p.2 ≤ m; omega
theorem km_ln_le {cr : Nat → Nat → Nat} : ∀ d k S q, k + d = n → (∀ x, q x ≤ n) → ∀ x, km_ln n cr d k S q x ≤ n := by
  intro d
  induction d with
  | zero => intro k S q _ h x; exact h x
  | succ d ih =>
    intro k S q hk h x
    rw [km_ln]
    split
    · exact ih _ _ _ (by omega) h x
    · split
      · exact ih _ _ _ (by omega) h x
      · refine ih _ _ _ (by omega) (fun y => ?_) x
        have : km_c (km_o n cr d k S) ≤ n := km_c_le
        unfold km_up
        split
        · omega
        · split
          · omega
          · exact h y
theorem s7_copyMerge {N : Nat} {x2 m : Int32} {x1 : Int32} {l : Nat → Nat} {k110 : kx_St → Int32 → Int32 → Int32 → Prop} {Q : kx_St → Int32 → Prop} (hN : N ≤ 6) (h3 : τ.1 0 3 = nI N) (q : ∀ t', kn_E τ N t' l l → k110 t' x1 x2 m) : ∀ d j t, j + d = N → kt_F τ t → (∀ x, x < N → t.1 13 x = nI (l x)) → (∀ x, x < j → t.1 14 x = nI (l x)) → p7_merge_L81 (d + 1) t x1 x2 m (nI j) k110 Q := by
  intro d
  induction d with
  | zero =>
    intro j t hj F hL hB
    obtain rfl : j = N := by omega
    unfold p7_merge_L81
    rw [F.2.1 0 (by decide) (by decide), h3]
    exact kv_t (by rw [kv_leN (by omega) (by omega)]; omega) (q t ⟨F, hL, hB⟩)
  | succ d ih =>
    intro j t hj F hL hB
    rw [p7_merge_L81, F.2.1 0 (by decide) (by decide), h3, kv_c (by omega), hL j (by omega), show nI j + 1 = nI (j + 1) from nI_1 _]
    refine kv_f (by rw [kv_leN (by omega) (by omega)]; omega) ⟨kv_in (by omega) (by decide), kv_in (by omega) (by decide), ih (j + 1) _ (by omega) (kt_sc F (by decide) _ _) (fun x hx => (kv_un (by omega)).trans (hL x hx)) (fun x hx => ?_)⟩
    by_cases e : x = j
    · subst e; exact kv_us _ _ _ _
    · exact (kv_un (by omega)).trans (hB x (by omega))
def km_T (n : Nat) (cr : Nat → Nat → Nat) : Nat → Nat := km_ln n cr n 0 0 (fun _ => 0)
theorem km_P0 (n : Nat) (cr : Nat → Nat → Nat) : km_P n cr 0 (fun _ => 0) 0 0 0 := by
  refine ⟨Nat.pow_pos (by decide), fun i _ => ⟨Nat.zero_le _, Or.inl rfl⟩, fun j _ => ?_, fun j _ _ h => absurd rfl h, rfl, Nat.zero_le _, by decide, rfl⟩
  rw [Nat.zero_testBit]
  constructor
  · intro h; cases h
  · rintro (h | h)
    · exact absurd h (Nat.not_lt_zero _)
    · exact absurd rfl h
theorem s7_mergeL (N : kr_now σ τ n kd wd hv w wt dc H) {x r : Nat} {Q : kx_St → Int32 → Prop} (hx : x < 10) (q : ∀ t', kt_F τ t' → (∀ j, j < n → t'.1 14 j = nI (km_T n (kn_cr kd wd (H dc) x) j)) → p7_tellLine t' (nI n) (nI r) (fun σ3 => Q σ3 (nI (km_V n (kn_cr kd wd (H dc) x) n 0 0)))) : ∃ m33, p7_merge_L33 m33 τ (nI x) (nI r) 0 Q := by
  have n6 := kn_n6 N
  have mn : τ.1 0 3 = nI n := kn_mn N
  have em : (nI 0 - 1 : Int32) = -1 := by decide
  have L6 : ∀ d j t, j + d = 6 → kt_F τ t → (∀ x, x < j → t.1 13 x = nI 0) → p7_merge_L33 (d + 1) t (nI x) (nI r) (nI j) Q := by
    intro d
    induction d with
    | succ d ih =>
      intro j t hj F hL
      rw [p7_merge_L33, kv_c (by omega), show nI j + 1 = nI (j + 1) from nI_1 _]
      refine kv_f (by show ¬ nI 6 ≤ nI j; rw [kv_leN (by omega) (by omega)]; omega) ⟨kv_in (by omega) (by decide), ih (j + 1) _ (by omega) (kt_sc F (by decide) _ _) (fun x hx => ?_)⟩
      by_cases e : x = j
      · subst e; exact kv_us _ _ _ _
      · exact (kv_un (by omega)).trans (hL x (by omega))
    | zero =>
      intro j t hj F hL
      obtain rfl : j = 6 := by omega
      unfold p7_merge_L33
      refine kv_t (by decide) ⟨1 + (n + 1) ^ n, ?_⟩
      obtain ⟨b0, hb0⟩ : ∃ b0 : Nat → Nat, ∀ x, t.1 14 x = nI (b0 x) := ⟨fun x => Classical.choose (nI_any (t.1 14 x)), fun x => Classical.choose_spec (nI_any (t.1 14 x))⟩
      have val := en_merge (cr := kn_cr kd wd (H dc) x) n6 n 0 (fun _ => 0) 0 0 0 (0, b0) (by omega) (km_P0 n _)
      rw [if_neg (by dsimp only; omega)] at val
      have B := en_block (K := n) (N := n) (ev := km_ev n (kn_cr kd wd (H dc) x)) (Inv := kn_E τ n) (Head := fun f t m => m < 1000000 → p7_merge_L57 f t (nI x) (nI r) (nI m - 1) 1 Q) (Next := fun f t m => m < 1000000 → p7_merge_J110 t (nI x) (nI r) (nI m - 1) (fun σ x1 x2 x3 x4 => p7_merge_L57 f σ x1 x2 x3 x4 Q) Q) (fun t l l' b h I => kn_E_cg t l l' b h I) (fun f t l b m hl I q hm => ?_) (fun f t l b m k hk lk la hl I q hm => ?_) n 0 (fun x => if x < 0 then 0 else 0) (0, b0) t 1 (by omega) (fun _ _ => if_neg (by omega)) (fun _ _ => by rw [if_neg (by omega)]; exact Nat.zero_le _) ⟨F, fun y hy => by dsimp only; rw [if_neg (by omega)]; exact hL y (by omega), fun x _ => hb0 x⟩ ?_ (show (0 : Nat) < 1000000 by decide)
      · rw [← em]; exact B
      · rw [p7_merge_L57]
        have sb := km_s_le N (l := l) hx hl n (Nat.le_refl _)
        have evb : km_ev n (kn_cr kd wd (H dc) x) l < 1000000 := by
          unfold km_ev
          split <;> omega
        refine kv_f (by decide) (s7_mergedBy (kt_N N I.1) hx hl I.2.1 ?_)
        by_cases c : km_ev n (kn_cr kd wd (H dc) x) l ≤ m
        · rw [if_pos c, if_pos c] at q
          exact kv_t ((kn_m1 evb hm).mpr c) (q t I hm)
        · rw [if_neg c, if_neg c] at q
          exact kv_f (fun z => c ((kn_m1 evb hm).mp z)) ⟨n + 1, s7_copyMerge n6 mn (fun t2 I2 => q t2 I2 evb) n 0 t (by omega) I.1 I.2.1 (fun x hx => absurd hx (Nat.not_lt_zero _))⟩
      · unfold p7_merge_J110
        rw [I.1.2.1 0 (by decide) (by decide), mn]
        refine ⟨n + 1, s7_next_L n6 (by omega) mn n t l (Nat.le_refl _) hl I (fun k' h1 h2 h3 t' I' => ?_) (fun h1 t' _ _ => ?_)⟩
        · have e : k' = k := by
            rcases Nat.lt_trichotomy k' k with c | c | c
            · have := h3 k c hk; omega
            · exact c
            · have := la k' c h1; omega
          subst e
          refine q t' (kn_E_cg _ _ _ _ (fun x hx => ?_) I') hm
          by_cases e1 : x < k'
          · rw [if_pos e1, if_pos e1]
          · rw [if_neg e1, if_neg e1]
            by_cases e2 : x = k'
            · rw [if_pos e2, if_pos e2]
            · rw [if_neg e2, if_neg e2, if_pos hx]
        · have := h1 k hk; omega
      · intro t' I' _
        rw [val] at I' ⊢
        unfold p7_merge_J110
        rw [I'.1.2.1 0 (by decide) (by decide), mn]
        refine ⟨n + 1, s7_next_L n6 (by omega) mn n t' _ (Nat.le_refl _) (fun x _ => by rw [if_neg (by omega)]; exact Nat.le_refl _) I' (fun k' _ h2 _ t2 _ => ?_) (fun _ t2 F2 b2 => ?_)⟩
        · rw [if_neg (by omega)] at h2; omega
        · show p7_merge_L57 (0 + 1) t2 (nI x) (nI r) (nI (0 + km_V n (kn_cr kd wd (H dc) x) n 0 0 + 1) - 1) 0 Q
          rw [p7_merge_L57]
          refine kv_t rfl ?_
          rw [kv_p1, Nat.zero_add, F2.2.1 0 (by decide) (by decide), mn]
          exact q t2 F2 (fun y hy => by rw [b2 y hy]; dsimp only; rw [if_pos hy]; rfl)
  exact ⟨7, L6 6 0 τ (by decide) (kt_refl τ) (fun x hx => absurd hx (Nat.not_lt_zero _))⟩
end
