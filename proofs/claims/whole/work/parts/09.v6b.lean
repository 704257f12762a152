section
variable {p : Program} {l : Launch} {e : Env} {s : State} {m : MethodId} {args : Array Value} {below : List Frame} {meth : Method} {c : Code} {D : va_G} {cy : Nat → ClassId} {ad : Nat → Nat} {A : Nat → Prop}

def p6_undo_L29 : Nat → kx_St → Int32 → Int32 → (kx_St → Int32 → Prop) → Prop
  | 0, _, _, _, _ => False
  | n + 1, σ, x2, x3, Q => (x2 ≤ x3 → Q σ x2) ∧ (¬ x2 ≤ x3 → p3_undoLatest σ 4 (fun σ3 => p6_undo_L29 n σ3 x2 (x3 + (1 : Int32)) Q))
set_option maxHeartbeats 4000000 in
theorem w6_undo_L29  {Q : kx_St → Int32 → Prop} (cx : kx_Cx p s m args meth c D cy RX6 cX6_undo 4 (some .int))  : ∀ (n : Nat) (σ : kx_St) (x2 : Int32) (x3 : Int32) (H : Heap) (locs : List Loc) (ls : Array Slot), p6_undo_L29 n σ x2 x3 Q → va_P D vwCl (kx_ws cy 0 ad σ) H → va_D A (kx_ws cy 0 ad σ) → va_S A s.heap H locs → lv_has ls 4 [(0, .ref (ad 0)), (2, .int x2), (3, .int x3)] → W p l e rm6_undo s m args below meth c H locs 0 0 (MQ below (kx_Qc kx_ci Q (kx_Wd D cy 0 ad A) A) args s 0 0 A) (F0 m 29 ls []) := by
  obtain ⟨hx, hb, hr, hlocks, hml, hown, hts, hK⟩ := id cx
  intro n
  induction n with
  | zero => intro _ _ _ _ _ _ h; exact False.elim h
  | succ n ih =>
    intro σ x2 x3 H locs ls h hP hD hS hl
    refine lv_iload_n (pc := 29) hx hb dX6_undo_29 rfl (lv_at hl 2 rfl) ?_
    refine lv_iload_n (pc := 30) hx hb dX6_undo_30 rfl (lv_at hl 1 rfl) ?_
    refine lv_icmp_ge (pc := 31) (tgt := 47) hx hb dX6_undo_31 (by decide) (fun c1 => ?_) (fun c1 => ?_)
    · have h := h.1 c1
      refine lv_iload_n (pc := 47) hx hb dX6_undo_47 rfl (lv_at hl 1 rfl) ?_
      exact kx_iret (pc := 48) hx hb hr hlocks hK hP hD hS h dX6_undo_48
    · have h := h.2 c1
      refine lv_aload_n (pc := 34) hx hb dX6_undo_34 rfl (lv_at hl 0 rfl) ?_
      refine fg6_25 (pc := 35) (b := 4) hx hb hown hts hK hP rfl rfl dX6_undo_35 ?_
      refine kx_iVv (pc := 38) [] hx hb hml hown hts hK hP hD hS (q3_undoLatest h) (cw6_206 hts ⟨Nat.le_of_ble_eq_true rfl, Nat.le_of_ble_eq_true rfl⟩) rfl (by decide) rfl rfl hl.1 rfl (Nat.le_of_ble_eq_true rfl) ⟨Nat.le_of_ble_eq_true rfl, Nat.le_of_ble_eq_true rfl⟩ dX6_undo_38 (fun _ σ3 H locs hP hD hS h => ?_)
      refine lv_iinc (pc := 41) (v := (x3 + (1 : Int32))) (lv' := [(3, .int (x3 + (1 : Int32))), (0, .ref (ad 0)), (2, .int x2)]) hx hb dX6_undo_41 hl (k := 2) rfl rfl (by decide) rfl (fun ls hl => ?_)
      refine lv_goto (pc := 44) (tgt := 29) hx hb dX6_undo_44 (by decide) ?_
      exact ih _ _ _ _ _ _ h hP hD hS (lv_sub hl [1, 2, 0] rfl)
def p6_undo (σ : kx_St) (x1 : Int32) (Q : kx_St → Int32 → Prop) : Prop := (x1 < 0 → Q σ (-1 : Int32)) ∧ (¬ x1 < 0 → (x1 ≤ (σ.1 4 6) → ∃ m29, p6_undo_L29 m29 σ ((σ.1 4 6) - x1) (0 : Int32) Q) ∧ (¬ x1 ≤ (σ.1 4 6) → Q σ (-1 : Int32)))
set_option maxHeartbeats 4000000 in
theorem q6_undo {σ : kx_St} {x1 : Int32} {Q : kx_St → Int32 → Prop} (h : p6_undo σ x1 Q) : Met l yX6_undo (Cond.code yX6_undo cX6_undo 4 (some .int) :: kx_big) rm6_undo (va_Pc [.ref (ad 0), .int x1] (kx_Wd D cy 0 ad A σ)) (kx_Qc kx_ci Q (kx_Wd D cy 0 ad A) A) 0 0 A := by
  refine kx_head (plainFor_of_name (by decide)) (Nat.le_of_ble_eq_true rfl) ?_
  intro p e s m below meth c ls cx hP hD hS hl
  obtain ⟨hx, hb, hr, hlocks, hml, hown, hts, hK⟩ := id cx
  have hl : lv_has ls 4 [(0, .ref (ad 0)), (1, .int x1)] := hl
  refine lv_iload_n (pc := 0) hx hb dX6_undo_0 rfl (lv_at hl 1 rfl) ?_
  refine lv_if_lt (pc := 1) (tgt := 15) hx hb dX6_undo_1 (by decide) (fun c1 => ?_) (fun c1 => ?_)
  · have h := h.1 c1
    refine lv_iconst (pc := 15) (v := (-1 : Int32)) hx hb dX6_undo_15 (by decide) ?_
    exact kx_iret (pc := 16) hx hb hr hlocks hK hP hD hS h dX6_undo_16
  · have h := h.2 c1
    refine lv_iload_n (pc := 4) hx hb dX6_undo_4 rfl (lv_at hl 1 rfl) ?_
    refine lv_aload_n (pc := 5) hx hb dX6_undo_5 rfl (lv_at hl 0 rfl) ?_
    refine fg6_25 (pc := 6) (b := 4) hx hb hown hts hK hP rfl rfl dX6_undo_6 ?_
    refine fg6_203 (pc := 9) hx hb hown hts hK hP rfl dX6_undo_9 ?_
    refine lv_icmp_le (pc := 12) (tgt := 17) hx hb dX6_undo_12 (by decide) (fun c2 => ?_) (fun c2 => ?_)
    · have h := h.1 c2
      refine lv_aload_n (pc := 17) hx hb dX6_undo_17 rfl (lv_at hl 0 rfl) ?_
      refine fg6_25 (pc := 18) (b := 4) hx hb hown hts hK hP rfl rfl dX6_undo_18 ?_
      refine fg6_203 (pc := 21) hx hb hown hts hK hP rfl dX6_undo_21 ?_
      refine lv_iload_n (pc := 24) hx hb dX6_undo_24 rfl (lv_at hl 1 rfl) ?_
      refine lv_isub (pc := 25) hx hb dX6_undo_25 ?_
      refine lv_istore_n (pc := 26) (lv' := [(2, .int ((σ.1 4 6) - x1)), (0, .ref (ad 0)), (1, .int x1)]) hx hb dX6_undo_26 rfl hl (by decide) rfl (fun ls hl => ?_)
      refine lv_iconst (pc := 27) (v := (0 : Int32)) hx hb dX6_undo_27 (by decide) ?_
      refine lv_istore_n (pc := 28) (lv' := [(3, .int (0 : Int32)), (2, .int ((σ.1 4 6) - x1)), (0, .ref (ad 0)), (1, .int x1)]) hx hb dX6_undo_28 rfl hl (by decide) rfl (fun ls hl => ?_)
      obtain ⟨n0, h⟩ := h
      exact w6_undo_L29 cx  n0 _ _ _ _ _ _ h hP hD hS (lv_sub hl [2, 1, 0] rfl)
    · have h := h.2 c2
      refine lv_iconst (pc := 15) (v := (-1 : Int32)) hx hb dX6_undo_15 (by decide) ?_
      exact kx_iret (pc := 16) hx hb hr hlocks hK hP hD hS h dX6_undo_16
def p6_keep (σ : kx_St) (x1 : Int32) (Q : kx_St → Int32 → Prop) : Prop := (x1 < 0 → Q σ (-1 : Int32)) ∧ (¬ x1 < 0 → (x1 < (Int32.ofNat 3) → p3_isEmpty σ 4 (fun r3 => (r3 = 0 → vp_in x1 3 ∧ (p3_takeFrom σ (kx_r 0 3 x1.toNatClampNeg) 4 (fun σ7 => Q σ7 (σ7.1 4 6)))) ∧ (¬ r3 = 0 → Q σ (-4 : Int32)))) ∧ (¬ x1 < (Int32.ofNat 3) → Q σ (-1 : Int32)))
set_option maxHeartbeats 4000000 in
theorem q6_keep {σ : kx_St} {x1 : Int32} {Q : kx_St → Int32 → Prop} (h : p6_keep σ x1 Q) : Met l yX6_keep (Cond.code yX6_keep cX6_keep 2 (some .int) :: kx_big) rm6_keep (va_Pc [.ref (ad 0), .int x1] (kx_Wd D cy 0 ad A σ)) (kx_Qc kx_ci Q (kx_Wd D cy 0 ad A) A) 0 0 A := by
  refine kx_head (plainFor_of_name (by decide)) (Nat.le_of_ble_eq_true rfl) ?_
  intro p e s m below meth c ls cx hP hD hS hl
  obtain ⟨hx, hb, hr, hlocks, hml, hown, hts, hK⟩ := id cx
  have hl : lv_has ls 2 [(0, .ref (ad 0)), (1, .int x1)] := hl
  refine lv_iload_n (pc := 0) hx hb dX6_keep_0 rfl (lv_at hl 1 rfl) ?_
  refine lv_if_lt (pc := 1) (tgt := 13) hx hb dX6_keep_1 (by decide) (fun c1 => ?_) (fun c1 => ?_)
  · have h := h.1 c1
    refine lv_iconst (pc := 13) (v := (-1 : Int32)) hx hb dX6_keep_13 (by decide) ?_
    exact kx_iret (pc := 14) hx hb hr hlocks hK hP hD hS h dX6_keep_14
  · have h := h.2 c1
    refine lv_iload_n (pc := 4) hx hb dX6_keep_4 rfl (lv_at hl 1 rfl) ?_
    refine lv_aload_n (pc := 5) hx hb dX6_keep_5 rfl (lv_at hl 0 rfl) ?_
    refine fg6_20 (pc := 6) (b := 3) hx hb hown hts hK hP rfl rfl dX6_keep_6 ?_
    refine kx_alen (pc := 9) hx hb hK hP rfl (by decide) (by decide) dX6_keep_9 ?_
    refine lv_icmp_lt (pc := 10) (tgt := 15) hx hb dX6_keep_10 (by decide) (fun c2 => ?_) (fun c2 => ?_)
    · have h := h.1 c2
      refine lv_aload_n (pc := 15) hx hb dX6_keep_15 rfl (lv_at hl 0 rfl) ?_
      refine fg6_25 (pc := 16) (b := 4) hx hb hown hts hK hP rfl rfl dX6_keep_16 ?_
      refine kx_iVi (pc := 19) [] hx hb hml hown hts hK hP hD hS (q3_isEmpty h) (cw6_188 hts ⟨Nat.le_of_ble_eq_true rfl, Nat.le_of_ble_eq_true rfl⟩) rfl (by decide) rfl rfl hl.1 rfl (Nat.le_of_ble_eq_true rfl) ⟨Nat.le_of_ble_eq_true rfl, Nat.le_of_ble_eq_true rfl⟩ dX6_keep_19 (fun r3 u_ H locs hP hD hS h => ?_)
      obtain ⟨hu_, h⟩ := h
      rw [hu_] at hP hD
      refine lv_if_eq (pc := 22) (tgt := 28) hx hb dX6_keep_22 (by decide) (fun c4 => ?_) (fun c4 => ?_)
      · have h := h.1 c4
        refine lv_aload_n (pc := 28) hx hb dX6_keep_28 rfl (lv_at hl 0 rfl) ?_
        refine fg6_20 (pc := 29) (b := 3) hx hb hown hts hK hP rfl rfl dX6_keep_29 ?_
        refine lv_iload_n (pc := 32) hx hb dX6_keep_32 rfl (lv_at hl 1 rfl) ?_
        obtain ⟨g5, h⟩ := h
        refine kx_aald (pc := 33) hx hb hK hP rfl (by decide) (by decide) g5 dX6_keep_33 ?_
        refine lv_aload_n (pc := 34) hx hb dX6_keep_34 rfl (lv_at hl 0 rfl) ?_
        refine fg6_25 (pc := 35) (b := 4) hx hb hown hts hK hP rfl rfl dX6_keep_35 ?_
        refine kx_iVv (pc := 38) [.ref (ad 4)] hx hb hml hown hts hK hP hD hS (q3_takeFrom h) (cw6_124 hts ⟨Nat.le_of_ble_eq_true rfl, Nat.le_of_ble_eq_true rfl⟩) (ky_10 rfl g5) (by decide) rfl rfl hl.1 rfl (Nat.le_of_ble_eq_true rfl) ⟨Nat.le_of_ble_eq_true rfl, Nat.le_of_ble_eq_true rfl⟩ dX6_keep_38 (fun _ σ7 H locs hP hD hS h => ?_)
        refine lv_aload_n (pc := 41) hx hb dX6_keep_41 rfl (lv_at hl 0 rfl) ?_
        refine fg6_25 (pc := 42) (b := 4) hx hb hown hts hK hP rfl rfl dX6_keep_42 ?_
        refine fg6_203 (pc := 45) hx hb hown hts hK hP rfl dX6_keep_45 ?_
        exact kx_iret (pc := 48) hx hb hr hlocks hK hP hD hS h dX6_keep_48
      · have h := h.2 c4
        refine lv_bipush (pc := 25) (v := (-4 : Int32)) hx hb dX6_keep_25 (by decide) ?_
        exact kx_iret (pc := 27) hx hb hr hlocks hK hP hD hS h dX6_keep_27
    · have h := h.2 c2
      refine lv_iconst (pc := 13) (v := (-1 : Int32)) hx hb dX6_keep_13 (by decide) ?_
      exact kx_iret (pc := 14) hx hb hr hlocks hK hP hD hS h dX6_keep_14
def p6_on (σ : kx_St) (x1 : Int32) (Q : kx_St → Int32 → Prop) : Prop := (x1 < 0 → Q σ (-1 : Int32)) ∧ (¬ x1 < 0 → (x1 < (Int32.ofNat 3) → vp_in x1 3 ∧ (p3_isEmpty σ (kx_r 0 3 x1.toNatClampNeg) (fun r4 => (r4 = 0 → vp_in x1 3 ∧ (p3_takeFrom σ 4 (kx_r 0 3 x1.toNatClampNeg) (fun σ8 => Q σ8 (σ8.1 4 6)))) ∧ (¬ r4 = 0 → p6_found σ (1 : Int32) (fun σ10 r9 => Q σ10 r9))))) ∧ (¬ x1 < (Int32.ofNat 3) → Q σ (-1 : Int32)))
set_option maxHeartbeats 4000000 in
theorem q6_on {σ : kx_St} {x1 : Int32} {Q : kx_St → Int32 → Prop} (h : p6_on σ x1 Q) : Met l yX6_on (Cond.code yX6_on cX6_on 2 (some .int) :: kx_big) rm6_on (va_Pc [.ref (ad 0), .int x1] (kx_Wd D cy 0 ad A σ)) (kx_Qc kx_ci Q (kx_Wd D cy 0 ad A) A) 0 0 A := by
  refine kx_head (plainFor_of_name (by decide)) (Nat.le_of_ble_eq_true rfl) ?_
  intro p e s m below meth c ls cx hP hD hS hl
  obtain ⟨hx, hb, hr, hlocks, hml, hown, hts, hK⟩ := id cx
  have hl : lv_has ls 2 [(0, .ref (ad 0)), (1, .int x1)] := hl
  refine lv_iload_n (pc := 0) hx hb dX6_on_0 rfl (lv_at hl 1 rfl) ?_
  refine lv_if_lt (pc := 1) (tgt := 13) hx hb dX6_on_1 (by decide) (fun c1 => ?_) (fun c1 => ?_)
  · have h := h.1 c1
    refine lv_iconst (pc := 13) (v := (-1 : Int32)) hx hb dX6_on_13 (by decide) ?_
    exact kx_iret (pc := 14) hx hb hr hlocks hK hP hD hS h dX6_on_14
  · have h := h.2 c1
    refine lv_iload_n (pc := 4) hx hb dX6_on_4 rfl (lv_at hl 1 rfl) ?_
    refine lv_aload_n (pc := 5) hx hb dX6_on_5 rfl (lv_at hl 0 rfl) ?_
    refine fg6_20 (pc := 6) (b := 3) hx hb hown hts hK hP rfl rfl dX6_on_6 ?_
    refine kx_alen (pc := 9) hx hb hK hP rfl (by decide) (by decide) dX6_on_9 ?_
    refine lv_icmp_lt (pc := 10) (tgt := 15) hx hb dX6_on_10 (by decide) (fun c2 => ?_) (fun c2 => ?_)
    · have h := h.1 c2
      refine lv_aload_n (pc := 15) hx hb dX6_on_15 rfl (lv_at hl 0 rfl) ?_
      refine fg6_20 (pc := 16) (b := 3) hx hb hown hts hK hP rfl rfl dX6_on_16 ?_
      refine lv_iload_n (pc := 19) hx hb dX6_on_19 rfl (lv_at hl 1 rfl) ?_
      obtain ⟨g3, h⟩ := h
      refine kx_aald (pc := 20) hx hb hK hP rfl (by decide) (by decide) g3 dX6_on_20 ?_
      refine kx_iVi (pc := 21) [] hx hb hml hown hts hK hP hD hS (q3_isEmpty h) (cw6_188 hts ⟨Nat.le_of_ble_eq_true rfl, Nat.le_of_ble_eq_true rfl⟩) (ky_10 rfl g3) (by decide) rfl rfl hl.1 rfl (Nat.le_of_ble_eq_true rfl) ⟨Nat.le_of_ble_eq_true rfl, Nat.le_of_ble_eq_true rfl⟩ dX6_on_21 (fun r4 u_ H locs hP hD hS h => ?_)
      obtain ⟨hu_, h⟩ := h
      rw [hu_] at hP hD
      refine lv_if_eq (pc := 24) (tgt := 33) hx hb dX6_on_24 (by decide) (fun c5 => ?_) (fun c5 => ?_)
      · have h := h.1 c5
        refine lv_aload_n (pc := 33) hx hb dX6_on_33 rfl (lv_at hl 0 rfl) ?_
        refine fg6_25 (pc := 34) (b := 4) hx hb hown hts hK hP rfl rfl dX6_on_34 ?_
        refine lv_aload_n (pc := 37) hx hb dX6_on_37 rfl (lv_at hl 0 rfl) ?_
        refine fg6_20 (pc := 38) (b := 3) hx hb hown hts hK hP rfl rfl dX6_on_38 ?_
        refine lv_iload_n (pc := 41) hx hb dX6_on_41 rfl (lv_at hl 1 rfl) ?_
        obtain ⟨g6, h⟩ := h
        refine kx_aald (pc := 42) hx hb hK hP rfl (by decide) (by decide) g6 dX6_on_42 ?_
        refine kx_iVv (pc := 43) [.ref (ad (kx_r 0 3 x1.toNatClampNeg))] hx hb hml hown hts hK hP hD hS (q3_takeFrom h) (cw6_124 hts ⟨Nat.le_of_ble_eq_true rfl, Nat.le_of_ble_eq_true rfl⟩) rfl (by decide) rfl rfl hl.1 rfl (Nat.le_of_ble_eq_true rfl) ⟨Nat.le_of_ble_eq_true rfl, Nat.le_of_ble_eq_true rfl⟩ dX6_on_43 (fun _ σ8 H locs hP hD hS h => ?_)
        refine lv_aload_n (pc := 46) hx hb dX6_on_46 rfl (lv_at hl 0 rfl) ?_
        refine fg6_25 (pc := 47) (b := 4) hx hb hown hts hK hP rfl rfl dX6_on_47 ?_
        refine fg6_203 (pc := 50) hx hb hown hts hK hP rfl dX6_on_50 ?_
        exact kx_iret (pc := 53) hx hb hr hlocks hK hP hD hS h dX6_on_53
      · have h := h.2 c5
        refine lv_aload_n (pc := 27) hx hb dX6_on_27 rfl (lv_at hl 0 rfl) ?_
        refine lv_iconst (pc := 28) (v := (1 : Int32)) hx hb dX6_on_28 (by decide) ?_
        refine kx_iVi (pc := 29) [.int (1 : Int32)] hx hb hml hown hts hK hP hD hS (q6_found h) (cw6_86 hts ⟨Nat.le_of_ble_eq_true rfl, Nat.le_of_ble_eq_true rfl⟩) rfl (by decide) rfl rfl hl.1 rfl (Nat.le_of_ble_eq_true rfl) ⟨Nat.le_of_ble_eq_true rfl, Nat.le_of_ble_eq_true rfl⟩ dX6_on_29 (fun r9 σ10 H locs hP hD hS h => ?_)
        exact kx_iret (pc := 32) hx hb hr hlocks hK hP hD hS h dX6_on_32
    · have h := h.2 c2
      refine lv_iconst (pc := 13) (v := (-1 : Int32)) hx hb dX6_on_13 (by decide) ?_
      exact kx_iret (pc := 14) hx hb hr hlocks hK hP hD hS h dX6_on_14
def p6_most (σ : kx_St) (x1 : Int32) (x2 : Int32) (Q : kx_St → Int32 → Prop) : Prop := p6_pick σ 1 x2 (fun o1 => (o1 = none → Q σ (-1 : Int32)) ∧ (∀ b2, o1 = some b2 → kx_k 0 b2 = 5 ∧ ((x1 < 0 → Q σ (-1 : Int32)) ∧ (¬ x1 < 0 → (x1 ≤ (5 : Int32) → p3_isEmpty σ 4 (fun r5 => (r5 = 0 → p0_weighMost σ 26 4 x1 (fun σ8 r7 => p0_tellFirst σ8 26 4 x1 b2 (fun σ10 => Q σ10 r7))) ∧ (¬ r5 = 0 → Q σ (-4 : Int32)))) ∧ (¬ x1 ≤ (5 : Int32) → Q σ (-1 : Int32))))))
set_option maxHeartbeats 4000000 in
theorem q6_most {σ : kx_St} {x1 : Int32} {x2 : Int32} {Q : kx_St → Int32 → Prop} (h : p6_most σ x1 x2 Q) : Met l yX6_most (Cond.code yX6_most cX6_most 5 (some .int) :: kx_big) rm6_most (va_Pc [.ref (ad 0), .int x1, .int x2] (kx_Wd D cy 0 ad A σ)) (kx_Qc kx_ci Q (kx_Wd D cy 0 ad A) A) 0 0 A := by
  refine kx_head (plainFor_of_name (by decide)) (Nat.le_of_ble_eq_true rfl) ?_
  intro p e s m below meth c ls cx hP hD hS hl
  obtain ⟨hx, hb, hr, hlocks, hml, hown, hts, hK⟩ := id cx
  have hl : lv_has ls 5 [(0, .ref (ad 0)), (1, .int x1), (2, .int x2)] := hl
  refine lv_aload_n (pc := 0) hx hb dX6_most_0 rfl (lv_at hl 0 rfl) ?_
  refine fg6_11 (pc := 1) (b := 1) hx hb hown hts hK hP rfl rfl dX6_most_1 ?_
  refine lv_iload_n (pc := 4) hx hb dX6_most_4 rfl (lv_at hl 2 rfl) ?_
  refine kx_iSr (pc := 5) [.ref (ad 1), .int x2] hx hb hml hown hts hK hP hD hS (q6_pick h) (cw6_74 hts ⟨Nat.le_of_ble_eq_true rfl, Nat.le_of_ble_eq_true rfl⟩) rfl hl.1 rfl (Nat.le_of_ble_eq_true rfl) ⟨Nat.le_of_ble_eq_true rfl, Nat.le_of_ble_eq_true rfl⟩ dX6_most_5 (fun o1 u_ H locs hP hD hS h => ?_)
  obtain ⟨hu_, h⟩ := h
  rw [hu_] at hP hD
  rcases o1 with _ | b2
  · have h := h.1 rfl
    refine lv_astore_nN (pc := 8) (lv' := [(3, .null), (0, .ref (ad 0)), (1, .int x1), (2, .int x2)]) hx hb dX6_most_8 rfl hl (by decide) rfl (fun ls hl => ?_)
    refine lv_aload_nN (pc := 9) hx hb dX6_most_9 rfl (lv_at hl 0 rfl) ?_
    refine lv_ifnullN (pc := 10) (tgt := 22) hx hb dX6_most_10 (by decide) ?_
    refine lv_iconst (pc := 22) (v := (-1 : Int32)) hx hb dX6_most_22 (by decide) ?_
    exact kx_iret (pc := 23) hx hb hr hlocks hK hP hD hS h dX6_most_23
  · obtain ⟨hk_b2, h⟩ := h.2 b2 rfl
    refine lv_astore_n (pc := 8) (lv' := [(3, .ref (ad b2)), (0, .ref (ad 0)), (1, .int x1), (2, .int x2)]) hx hb dX6_most_8 rfl hl (by decide) rfl (fun ls hl => ?_)
    refine lv_aload_n (pc := 9) hx hb dX6_most_9 rfl (lv_at hl 0 rfl) ?_
    refine lv_ifnull (pc := 10) hx hb dX6_most_10 ?_
    refine lv_iload_n (pc := 13) hx hb dX6_most_13 rfl (lv_at hl 2 rfl) ?_
    refine lv_if_lt (pc := 14) (tgt := 22) hx hb dX6_most_14 (by decide) (fun c3 => ?_) (fun c3 => ?_)
    · have h := h.1 c3
      refine lv_iconst (pc := 22) (v := (-1 : Int32)) hx hb dX6_most_22 (by decide) ?_
      exact kx_iret (pc := 23) hx hb hr hlocks hK hP hD hS h dX6_most_23
    · have h := h.2 c3
      refine lv_iload_n (pc := 17) hx hb dX6_most_17 rfl (lv_at hl 2 rfl) ?_
      refine lv_iconst (pc := 18) (v := (5 : Int32)) hx hb dX6_most_18 (by decide) ?_
      refine lv_icmp_le (pc := 19) (tgt := 24) hx hb dX6_most_19 (by decide) (fun c4 => ?_) (fun c4 => ?_)
      · have h := h.1 c4
        refine lv_aload_n (pc := 24) hx hb dX6_most_24 rfl (lv_at hl 1 rfl) ?_
        refine fg6_25 (pc := 25) (b := 4) hx hb hown hts hK hP rfl rfl dX6_most_25 ?_
        refine kx_iVi (pc := 28) [] hx hb hml hown hts hK hP hD hS (q3_isEmpty h) (cw6_188 hts ⟨Nat.le_of_ble_eq_true rfl, Nat.le_of_ble_eq_true rfl⟩) rfl (by decide) rfl rfl hl.1 rfl (Nat.le_of_ble_eq_true rfl) ⟨Nat.le_of_ble_eq_true rfl, Nat.le_of_ble_eq_true rfl⟩ dX6_most_28 (fun r5 u_ H locs hP hD hS h => ?_)
        obtain ⟨hu_, h⟩ := h
        rw [hu_] at hP hD
        refine lv_if_eq (pc := 31) (tgt := 37) hx hb dX6_most_31 (by decide) (fun c6 => ?_) (fun c6 => ?_)
        · have h := h.1 c6
          refine lv_aload_n (pc := 37) hx hb dX6_most_37 rfl (lv_at hl 1 rfl) ?_
          refine fg6_42 (pc := 38) (b := 26) hx hb hown hts hK hP rfl rfl dX6_most_38 ?_
          refine lv_aload_n (pc := 41) hx hb dX6_most_41 rfl (lv_at hl 1 rfl) ?_
          refine fg6_25 (pc := 42) (b := 4) hx hb hown hts hK hP rfl rfl dX6_most_42 ?_
          refine lv_iload_n (pc := 45) hx hb dX6_most_45 rfl (lv_at hl 2 rfl) ?_
          refine kx_iVi (pc := 46) [.ref (ad 4), .int x1] hx hb hml hown hts hK hP hD hS (q0_weighMost h) (cw6_209 hts ⟨Nat.le_of_ble_eq_true rfl, Nat.le_of_ble_eq_true rfl⟩) rfl (by decide) rfl rfl hl.1 rfl (Nat.le_of_ble_eq_true rfl) ⟨Nat.le_of_ble_eq_true rfl, Nat.le_of_ble_eq_true rfl⟩ dX6_most_46 (fun r7 σ8 H locs hP hD hS h => ?_)
          refine lv_istore (pc := 49) (lv' := [(4, .int r7), (3, .ref (ad b2)), (0, .ref (ad 0)), (1, .int x1), (2, .int x2)]) hx hb dX6_most_49 hl (by decide) rfl (fun ls hl => ?_)
          refine lv_aload_n (pc := 51) hx hb dX6_most_51 rfl (lv_at hl 2 rfl) ?_
          refine fg6_42 (pc := 52) (b := 26) hx hb hown hts hK hP rfl rfl dX6_most_52 ?_
          refine lv_aload_n (pc := 55) hx hb dX6_most_55 rfl (lv_at hl 2 rfl) ?_
          refine fg6_25 (pc := 56) (b := 4) hx hb hown hts hK hP rfl rfl dX6_most_56 ?_
          refine lv_iload_n (pc := 59) hx hb dX6_most_59 rfl (lv_at hl 3 rfl) ?_
          refine lv_aload_n (pc := 60) hx hb dX6_most_60 rfl (lv_at hl 1 rfl) ?_
          refine kx_iVv (pc := 61) [.ref (ad 4), .int x1, .ref (ad b2)] hx hb hml hown hts hK hP hD hS (q0_tellFirst h) (cw6_213 hts ⟨Nat.le_of_ble_eq_true rfl, Nat.le_of_ble_eq_true rfl⟩) rfl (by decide) rfl rfl hl.1 rfl (Nat.le_of_ble_eq_true rfl) ⟨Nat.le_of_ble_eq_true rfl, Nat.le_of_ble_eq_true rfl⟩ dX6_most_61 (fun _ σ10 H locs hP hD hS h => ?_)
          refine lv_iload (pc := 64) hx hb dX6_most_64 (lv_at hl 0 rfl) ?_
          exact kx_iret (pc := 66) hx hb hr hlocks hK hP hD hS h dX6_most_66
        · have h := h.2 c6
          refine lv_bipush (pc := 34) (v := (-4 : Int32)) hx hb dX6_most_34 (by decide) ?_
          exact kx_iret (pc := 36) hx hb hr hlocks hK hP hD hS h dX6_most_36
      · have h := h.2 c4
        refine lv_iconst (pc := 22) (v := (-1 : Int32)) hx hb dX6_most_22 (by decide) ?_
        exact kx_iret (pc := 23) hx hb hr hlocks hK hP hD hS h dX6_most_23
def p6_school_L30 : Nat → kx_St → Nat → Int32 → (kx_St → Int32 → Prop) → Prop
  | 0, _, _, _, _ => False
  | n + 1, σ, x2, x3, Q => ((5 : Int32) < x3 → Q σ (-9 : Int32)) ∧ (¬ (5 : Int32) < x3 → p0_weighMost σ 26 4 x3 (fun σ3 r2 => (((σ.1 4 7) + r2) < (σ3.1 4 4) → p6_school_L30 n σ3 x2 (x3 + (1 : Int32)) Q) ∧ (¬ ((σ.1 4 7) + r2) < (σ3.1 4 4) → p0_tellFirst σ3 26 4 x3 x2 (fun σ6 => Q σ6 x3))))
set_option maxHeartbeats 4000000 in
theorem w6_school_L30  {Q : kx_St → Int32 → Prop} (cx : kx_Cx p s m args meth c D cy RX6 cX6_school 4 (some .int))  : ∀ (n : Nat) (σ : kx_St) (x2 : Nat) (x3 : Int32) (H : Heap) (locs : List Loc) (ls : Array Slot), kx_k 0 x2 = 5 → p6_school_L30 n σ x2 x3 Q → va_P D vwCl (kx_ws cy 0 ad σ) H → va_D A (kx_ws cy 0 ad σ) → va_S A s.heap H locs → lv_has ls 4 [(0, .ref (ad 0)), (2, .ref (ad x2)), (3, .int x3)] → W p l e rm6_school s m args below meth c H locs 0 0 (MQ below (kx_Qc kx_ci Q (kx_Wd D cy 0 ad A) A) args s 0 0 A) (F0 m 30 ls []) := by
  obtain ⟨hx, hb, hr, hlocks, hml, hown, hts, hK⟩ := id cx
  intro n
  induction n with
  | zero => intro _ _ _ _ _ _ _ h; exact False.elim h
  | succ n ih =>
    intro σ x2 x3 H locs ls hk_x2 h hP hD hS hl
    refine lv_iload_n (pc := 30) hx hb dX6_school_30 rfl (lv_at hl 2 rfl) ?_
    refine lv_iconst (pc := 31) (v := (5 : Int32)) hx hb dX6_school_31 (by decide) ?_
    refine lv_icmp_gt (pc := 32) (tgt := 86) hx hb dX6_school_32 (by decide) (fun c1 => ?_) (fun c1 => ?_)
    · have h := h.1 c1
      refine lv_bipush (pc := 86) (v := (-9 : Int32)) hx hb dX6_school_86 (by decide) ?_
      exact kx_iret (pc := 88) hx hb hr hlocks hK hP hD hS h dX6_school_88
    · have h := h.2 c1
      refine lv_aload_n (pc := 35) hx hb dX6_school_35 rfl (lv_at hl 0 rfl) ?_
      refine fg6_25 (pc := 36) (b := 4) hx hb hown hts hK hP rfl rfl dX6_school_36 ?_
      refine fg6_217 (pc := 39) hx hb hown hts hK hP rfl dX6_school_39 ?_
      refine lv_aload_n (pc := 42) hx hb dX6_school_42 rfl (lv_at hl 0 rfl) ?_
      refine fg6_42 (pc := 43) (b := 26) hx hb hown hts hK hP rfl rfl dX6_school_43 ?_
      refine lv_aload_n (pc := 46) hx hb dX6_school_46 rfl (lv_at hl 0 rfl) ?_
      refine fg6_25 (pc := 47) (b := 4) hx hb hown hts hK hP rfl rfl dX6_school_47 ?_
      refine lv_iload_n (pc := 50) hx hb dX6_school_50 rfl (lv_at hl 2 rfl) ?_
      refine kx_iVi (pc := 51) [.ref (ad 4), .int x3] hx hb hml hown hts hK hP hD hS (q0_weighMost h) (cw6_209 hts ⟨Nat.le_of_ble_eq_true rfl, Nat.le_of_ble_eq_true rfl⟩) rfl (by decide) rfl rfl hl.1 rfl (Nat.le_of_ble_eq_true rfl) ⟨Nat.le_of_ble_eq_true rfl, Nat.le_of_ble_eq_true rfl⟩ dX6_school_51 (fun r2 σ3 H locs hP hD hS h => ?_)
      refine lv_iadd (pc := 54) hx hb dX6_school_54 ?_
      refine lv_aload_n (pc := 55) hx hb dX6_school_55 rfl (lv_at hl 0 rfl) ?_
      refine fg6_25 (pc := 56) (b := 4) hx hb hown hts hK hP rfl rfl dX6_school_56 ?_
      refine fg6_218 (pc := 59) hx hb hown hts hK hP rfl dX6_school_59 ?_
      refine lv_icmp_lt (pc := 62) (tgt := 80) hx hb dX6_school_62 (by decide) (fun c4 => ?_) (fun c4 => ?_)
      · have h := h.1 c4
        refine lv_iinc (pc := 80) (v := (x3 + (1 : Int32))) (lv' := [(3, .int (x3 + (1 : Int32))), (0, .ref (ad 0)), (2, .ref (ad x2))]) hx hb dX6_school_80 hl (k := 2) rfl rfl (by decide) rfl (fun ls hl => ?_)
        refine lv_goto (pc := 83) (tgt := 30) hx hb dX6_school_83 (by decide) ?_
        exact ih _ _ _ _ _ _ hk_x2 h hP hD hS (lv_sub hl [1, 2, 0] rfl)
      · have h := h.2 c4
        refine lv_aload_n (pc := 65) hx hb dX6_school_65 rfl (lv_at hl 0 rfl) ?_
        refine fg6_42 (pc := 66) (b := 26) hx hb hown hts hK hP rfl rfl dX6_school_66 ?_
        refine lv_aload_n (pc := 69) hx hb dX6_school_69 rfl (lv_at hl 0 rfl) ?_
        refine fg6_25 (pc := 70) (b := 4) hx hb hown hts hK hP rfl rfl dX6_school_70 ?_
        refine lv_iload_n (pc := 73) hx hb dX6_school_73 rfl (lv_at hl 2 rfl) ?_
        refine lv_aload_n (pc := 74) hx hb dX6_school_74 rfl (lv_at hl 1 rfl) ?_
        refine kx_iVv (pc := 75) [.ref (ad 4), .int x3, .ref (ad x2)] hx hb hml hown hts hK hP hD hS (q0_tellFirst h) (cw6_213 hts ⟨Nat.le_of_ble_eq_true rfl, Nat.le_of_ble_eq_true rfl⟩) rfl (by decide) rfl rfl hl.1 rfl (Nat.le_of_ble_eq_true rfl) ⟨Nat.le_of_ble_eq_true rfl, Nat.le_of_ble_eq_true rfl⟩ dX6_school_75 (fun _ σ6 H locs hP hD hS h => ?_)
        refine lv_iload_n (pc := 78) hx hb dX6_school_78 rfl (lv_at hl 2 rfl) ?_
        exact kx_iret (pc := 79) hx hb hr hlocks hK hP hD hS h dX6_school_79
def p6_school (σ : kx_St) (x1 : Int32) (Q : kx_St → Int32 → Prop) : Prop := p6_pick σ 1 x1 (fun o1 => (o1 = none → Q σ (-1 : Int32)) ∧ (∀ b2, o1 = some b2 → kx_k 0 b2 = 5 ∧ (p3_isEmpty σ 4 (fun r3 => (r3 = 0 → ∃ m30, p6_school_L30 m30 σ b2 (0 : Int32) Q) ∧ (¬ r3 = 0 → Q σ (-4 : Int32))))))
set_option maxHeartbeats 4000000 in
theorem q6_school {σ : kx_St} {x1 : Int32} {Q : kx_St → Int32 → Prop} (h : p6_school σ x1 Q) : Met l yX6_school (Cond.code yX6_school cX6_school 4 (some .int) :: kx_big) rm6_school (va_Pc [.ref (ad 0), .int x1] (kx_Wd D cy 0 ad A σ)) (kx_Qc kx_ci Q (kx_Wd D cy 0 ad A) A) 0 0 A := by
  refine kx_head (plainFor_of_name (by decide)) (Nat.le_of_ble_eq_true rfl) ?_
  intro p e s m below meth c ls cx hP hD hS hl
  obtain ⟨hx, hb, hr, hlocks, hml, hown, hts, hK⟩ := id cx
  have hl : lv_has ls 4 [(0, .ref (ad 0)), (1, .int x1)] := hl
  refine lv_aload_n (pc := 0) hx hb dX6_school_0 rfl (lv_at hl 0 rfl) ?_
  refine fg6_11 (pc := 1) (b := 1) hx hb hown hts hK hP rfl rfl dX6_school_1 ?_
  refine lv_iload_n (pc := 4) hx hb dX6_school_4 rfl (lv_at hl 1 rfl) ?_
  refine kx_iSr (pc := 5) [.ref (ad 1), .int x1] hx hb hml hown hts hK hP hD hS (q6_pick h) (cw6_74 hts ⟨Nat.le_of_ble_eq_true rfl, Nat.le_of_ble_eq_true rfl⟩) rfl hl.1 rfl (Nat.le_of_ble_eq_true rfl) ⟨Nat.le_of_ble_eq_true rfl, Nat.le_of_ble_eq_true rfl⟩ dX6_school_5 (fun o1 u_ H locs hP hD hS h => ?_)
  obtain ⟨hu_, h⟩ := h
  rw [hu_] at hP hD
  rcases o1 with _ | b2
  · have h := h.1 rfl
    refine lv_astore_nN (pc := 8) (lv' := [(2, .null), (0, .ref (ad 0)), (1, .int x1)]) hx hb dX6_school_8 rfl hl (by decide) rfl (fun ls hl => ?_)
    refine lv_aload_nN (pc := 9) hx hb dX6_school_9 rfl (lv_at hl 0 rfl) ?_
    refine lv_ifnonnullN (pc := 10) hx hb dX6_school_10 ?_
    refine lv_iconst (pc := 13) (v := (-1 : Int32)) hx hb dX6_school_13 (by decide) ?_
    exact kx_iret (pc := 14) hx hb hr hlocks hK hP hD hS h dX6_school_14
  · obtain ⟨hk_b2, h⟩ := h.2 b2 rfl
    refine lv_astore_n (pc := 8) (lv' := [(2, .ref (ad b2)), (0, .ref (ad 0)), (1, .int x1)]) hx hb dX6_school_8 rfl hl (by decide) rfl (fun ls hl => ?_)
    refine lv_aload_n (pc := 9) hx hb dX6_school_9 rfl (lv_at hl 0 rfl) ?_
    refine lv_ifnonnull (pc := 10) (tgt := 15) hx hb dX6_school_10 (by decide) ?_
    refine lv_aload_n (pc := 15) hx hb dX6_school_15 rfl (lv_at hl 1 rfl) ?_
    refine fg6_25 (pc := 16) (b := 4) hx hb hown hts hK hP rfl rfl dX6_school_16 ?_
    refine kx_iVi (pc := 19) [] hx hb hml hown hts hK hP hD hS (q3_isEmpty h) (cw6_188 hts ⟨Nat.le_of_ble_eq_true rfl, Nat.le_of_ble_eq_true rfl⟩) rfl (by decide) rfl rfl hl.1 rfl (Nat.le_of_ble_eq_true rfl) ⟨Nat.le_of_ble_eq_true rfl, Nat.le_of_ble_eq_true rfl⟩ dX6_school_19 (fun r3 u_ H locs hP hD hS h => ?_)
    obtain ⟨hu_, h⟩ := h
    rw [hu_] at hP hD
    refine lv_if_eq (pc := 22) (tgt := 28) hx hb dX6_school_22 (by decide) (fun c4 => ?_) (fun c4 => ?_)
    · have h := h.1 c4
      refine lv_iconst (pc := 28) (v := (0 : Int32)) hx hb dX6_school_28 (by decide) ?_
      refine lv_istore_n (pc := 29) (lv' := [(3, .int (0 : Int32)), (2, .ref (ad b2)), (0, .ref (ad 0)), (1, .int x1)]) hx hb dX6_school_29 rfl hl (by decide) rfl (fun ls hl => ?_)
      obtain ⟨n0, h⟩ := h
      exact w6_school_L30 cx  n0 _ _ _ _ _ _ hk_b2 h hP hD hS (lv_sub hl [2, 1, 0] rfl)
    · have h := h.2 c4
      refine lv_bipush (pc := 25) (v := (-4 : Int32)) hx hb dX6_school_25 (by decide) ?_
      exact kx_iret (pc := 27) hx hb hr hlocks hK hP hD hS h dX6_school_27
def p6_isFlying_L10 : Nat → kx_St → Nat → Int32 → Int32 → (Int32 → Prop) → Prop
  | 0, _, _, _, _, _ => False
  | n + 1, σ, x1, x2, x3, Q => ((σ.1 x1 1) ≤ x3 → Q (1 : Int32)) ∧ (¬ (σ.1 x1 1) ≤ x3 → p5_get σ x1 x3 (fun r2 => (¬ r2 = (-9 : Int32) → p3_kiteAt σ 4 r2 (fun o4 => (o4 = none → Q (0 : Int32)) ∧ (∀ b5, o4 = some b5 → kx_k 0 b5 = 1 ∧ ((¬ ((x2 >>> (r2 &&& 31)) &&& (1 : Int32)) = (1 : Int32) → p6_isFlying_L10 n σ x1 (x2 ||| ((1 : Int32) <<< (r2 &&& 31))) (x3 + (1 : Int32)) Q) ∧ (((x2 >>> (r2 &&& 31)) &&& (1 : Int32)) = (1 : Int32) → Q (0 : Int32)))))) ∧ (r2 = (-9 : Int32) → p6_isFlying_L10 n σ x1 x2 (x3 + (1 : Int32)) Q)))
set_option maxHeartbeats 4000000 in
theorem w6_isFlying_L10 {σ : kx_St}  {Q : Int32 → Prop} (cx : kx_Cx p s m args meth c D cy RX6 cX6_isFlying 5 (some .boolean))  : ∀ (n : Nat) (x1 : Nat) (x2 : Int32) (x3 : Int32) (H : Heap) (locs : List Loc) (ls : Array Slot), kx_k 0 x1 = 5 → p6_isFlying_L10 n σ x1 x2 x3 Q → va_P D vwCl (kx_ws cy 0 ad σ) H → va_D A (kx_ws cy 0 ad σ) → va_S A s.heap H locs → lv_has ls 5 [(0, .ref (ad 0)), (1, .ref (ad x1)), (2, .int x2), (3, .int x3)] → W p l e rm6_isFlying s m args below meth c H locs 0 0 (MQ below (kx_Qc kx_ci (fun u r => u = σ ∧ Q r) (kx_Wd D cy 0 ad A) A) args s 0 0 A) (F0 m 10 ls []) := by
  obtain ⟨hx, hb, hr, hlocks, hml, hown, hts, hK⟩ := id cx
  intro n
  induction n with
  | zero => intro _ _ _ _ _ _ _ h; exact False.elim h
  | succ n ih =>
    intro x1 x2 x3 H locs ls hk_x1 h hP hD hS hl
    refine lv_iload_n (pc := 10) hx hb dX6_isFlying_10 rfl (lv_at hl 3 rfl) ?_
    refine lv_aload_n (pc := 11) hx hb dX6_isFlying_11 rfl (lv_at hl 1 rfl) ?_
    refine fg6_117 (pc := 12) hx hb hown hts hK hP hk_x1 dX6_isFlying_12 ?_
    refine lv_icmp_ge (pc := 15) (tgt := 72) hx hb dX6_isFlying_15 (by decide) (fun c1 => ?_) (fun c1 => ?_)
    · have h := h.1 c1
      refine lv_iconst (pc := 72) (v := (1 : Int32)) hx hb dX6_isFlying_72 (by decide) ?_
      exact kx_zret (pc := 73) hx hb hr hlocks hK hP hD hS (by decide) ⟨rfl, h⟩ dX6_isFlying_73
    · have h := h.2 c1
      refine lv_aload_n (pc := 18) hx hb dX6_isFlying_18 rfl (lv_at hl 1 rfl) ?_
      refine lv_iload_n (pc := 19) hx hb dX6_isFlying_19 rfl (lv_at hl 3 rfl) ?_
      refine kx_iVi (pc := 20) [.int x3] hx hb hml hown hts hK hP hD hS (q5_get h) (cw6_94 hts ⟨Nat.le_of_ble_eq_true rfl, Nat.le_of_ble_eq_true rfl⟩) hk_x1 (by decide) rfl rfl hl.1 rfl (Nat.le_of_ble_eq_true rfl) ⟨Nat.le_of_ble_eq_true rfl, Nat.le_of_ble_eq_true rfl⟩ dX6_isFlying_20 (fun r2 u_ H locs hP hD hS h => ?_)
      obtain ⟨hu_, h⟩ := h
      rw [hu_] at hP hD
      refine lv_istore (pc := 23) (lv' := [(4, .int r2), (0, .ref (ad 0)), (1, .ref (ad x1)), (2, .int x2), (3, .int x3)]) hx hb dX6_isFlying_23 hl (by decide) rfl (fun ls hl => ?_)
      refine lv_iload (pc := 25) hx hb dX6_isFlying_25 (lv_at hl 0 rfl) ?_
      refine lv_bipush (pc := 27) (v := (-9 : Int32)) hx hb dX6_isFlying_27 (by decide) ?_
      refine lv_icmp_ne (pc := 29) (tgt := 35) hx hb dX6_isFlying_29 (by decide) (fun c3 => ?_) (fun c3 => ?_)
      · have h := h.1 c3
        refine lv_aload_n (pc := 35) hx hb dX6_isFlying_35 rfl (lv_at hl 1 rfl) ?_
        refine fg6_25 (pc := 36) (b := 4) hx hb hown hts hK hP rfl rfl dX6_isFlying_36 ?_
        refine lv_iload (pc := 39) hx hb dX6_isFlying_39 (lv_at hl 0 rfl) ?_
        refine kx_iVr (pc := 41) [.int r2] hx hb hml hown hts hK hP hD hS (q3_kiteAt h) (cw6_131 hts ⟨Nat.le_of_ble_eq_true rfl, Nat.le_of_ble_eq_true rfl⟩) rfl (by decide) rfl rfl hl.1 rfl (Nat.le_of_ble_eq_true rfl) ⟨Nat.le_of_ble_eq_true rfl, Nat.le_of_ble_eq_true rfl⟩ dX6_isFlying_41 (fun o4 u_ H locs hP hD hS h => ?_)
        obtain ⟨hu_, h⟩ := h
        rw [hu_] at hP hD
        rcases o4 with _ | b5
        · have h := h.1 rfl
          refine lv_ifnullN (pc := 44) (tgt := 57) hx hb dX6_isFlying_44 (by decide) ?_
          refine lv_iconst (pc := 57) (v := (0 : Int32)) hx hb dX6_isFlying_57 (by decide) ?_
          exact kx_zret (pc := 58) hx hb hr hlocks hK hP hD hS (by decide) ⟨rfl, h⟩ dX6_isFlying_58
        · obtain ⟨hk_b5, h⟩ := h.2 b5 rfl
          refine lv_ifnull (pc := 44) hx hb dX6_isFlying_44 ?_
          refine lv_iload_n (pc := 47) hx hb dX6_isFlying_47 rfl (lv_at hl 3 rfl) ?_
          refine lv_iload (pc := 48) hx hb dX6_isFlying_48 (lv_at hl 0 rfl) ?_
          refine lv_ishr (pc := 50) hx hb dX6_isFlying_50 ?_
          refine lv_iconst (pc := 51) (v := (1 : Int32)) hx hb dX6_isFlying_51 (by decide) ?_
          refine lv_iand (pc := 52) hx hb dX6_isFlying_52 ?_
          refine lv_iconst (pc := 53) (v := (1 : Int32)) hx hb dX6_isFlying_53 (by decide) ?_
          refine lv_icmp_ne (pc := 54) (tgt := 59) hx hb dX6_isFlying_54 (by decide) (fun c6 => ?_) (fun c6 => ?_)
          · have h := h.1 c6
            refine lv_iload_n (pc := 59) hx hb dX6_isFlying_59 rfl (lv_at hl 3 rfl) ?_
            refine lv_iconst (pc := 60) (v := (1 : Int32)) hx hb dX6_isFlying_60 (by decide) ?_
            refine lv_iload (pc := 61) hx hb dX6_isFlying_61 (lv_at hl 0 rfl) ?_
            refine lv_ishl (pc := 63) hx hb dX6_isFlying_63 ?_
            refine lv_ior (pc := 64) hx hb dX6_isFlying_64 ?_
            refine lv_istore_n (pc := 65) (lv' := [(2, .int (x2 ||| ((1 : Int32) <<< (r2 &&& 31)))), (4, .int r2), (0, .ref (ad 0)), (1, .ref (ad x1)), (3, .int x3)]) hx hb dX6_isFlying_65 rfl hl (by decide) rfl (fun ls hl => ?_)
            refine lv_iinc (pc := 66) (v := (x3 + (1 : Int32))) (lv' := [(3, .int (x3 + (1 : Int32))), (2, .int (x2 ||| ((1 : Int32) <<< (r2 &&& 31)))), (4, .int r2), (0, .ref (ad 0)), (1, .ref (ad x1))]) hx hb dX6_isFlying_66 hl (k := 4) rfl rfl (by decide) rfl (fun ls hl => ?_)
            refine lv_goto (pc := 69) (tgt := 10) hx hb dX6_isFlying_69 (by decide) ?_
            exact ih _ _ _ _ _ _ hk_x1 h hP hD hS (lv_sub hl [3, 4, 1, 0] rfl)
          · have h := h.2 c6
            refine lv_iconst (pc := 57) (v := (0 : Int32)) hx hb dX6_isFlying_57 (by decide) ?_
            exact kx_zret (pc := 58) hx hb hr hlocks hK hP hD hS (by decide) ⟨rfl, h⟩ dX6_isFlying_58
      · have h := h.2 c3
        refine lv_goto (pc := 32) (tgt := 66) hx hb dX6_isFlying_32 (by decide) ?_
        refine lv_iinc (pc := 66) (v := (x3 + (1 : Int32))) (lv' := [(3, .int (x3 + (1 : Int32))), (4, .int r2), (0, .ref (ad 0)), (1, .ref (ad x1)), (2, .int x2)]) hx hb dX6_isFlying_66 hl (k := 4) rfl rfl (by decide) rfl (fun ls hl => ?_)
        refine lv_goto (pc := 69) (tgt := 10) hx hb dX6_isFlying_69 (by decide) ?_
        exact ih _ _ _ _ _ _ hk_x1 h hP hD hS (lv_sub hl [2, 3, 4, 0] rfl)
def p6_isFlying (σ : kx_St) (x1 : Nat) (Q : Int32 → Prop) : Prop := kx_k 0 x1 = 5 ∧ (p3_flownSet σ 4 (fun r1 => ∃ m10, p6_isFlying_L10 m10 σ x1 r1 (0 : Int32) Q))
set_option maxHeartbeats 4000000 in
theorem q6_isFlying {σ : kx_St} {x1 : Nat} {Q : Int32 → Prop} (h : p6_isFlying σ x1 Q) : Met l yX6_isFlying (Cond.code yX6_isFlying cX6_isFlying 5 (some .boolean) :: kx_big) rm6_isFlying (va_Pc [.ref (ad 0), .ref (ad x1)] (kx_Wd D cy 0 ad A σ)) (kx_Qc kx_ci (fun u r => u = σ ∧ Q r) (kx_Wd D cy 0 ad A) A) 0 0 A := by
  refine kx_head (plainFor_of_name (by decide)) (Nat.le_of_ble_eq_true rfl) ?_
  intro p e s m below meth c ls cx hP hD hS hl
  obtain ⟨hx, hb, hr, hlocks, hml, hown, hts, hK⟩ := id cx
  obtain ⟨hk_x1, h⟩ := h
  have hl : lv_has ls 5 [(0, .ref (ad 0)), (1, .ref (ad x1))] := hl
  refine lv_aload_n (pc := 0) hx hb dX6_isFlying_0 rfl (lv_at hl 0 rfl) ?_
  refine fg6_25 (pc := 1) (b := 4) hx hb hown hts hK hP rfl rfl dX6_isFlying_1 ?_
  refine kx_iVi (pc := 4) [] hx hb hml hown hts hK hP hD hS (q3_flownSet h) (cw6_254 hts ⟨Nat.le_of_ble_eq_true rfl, Nat.le_of_ble_eq_true rfl⟩) rfl (by decide) rfl rfl hl.1 rfl (Nat.le_of_ble_eq_true rfl) ⟨Nat.le_of_ble_eq_true rfl, Nat.le_of_ble_eq_true rfl⟩ dX6_isFlying_4 (fun r1 u_ H locs hP hD hS h => ?_)
  obtain ⟨hu_, h⟩ := h
  rw [hu_] at hP hD
  refine lv_istore_n (pc := 7) (lv' := [(2, .int r1), (0, .ref (ad 0)), (1, .ref (ad x1))]) hx hb dX6_isFlying_7 rfl hl (by decide) rfl (fun ls hl => ?_)
  refine lv_iconst (pc := 8) (v := (0 : Int32)) hx hb dX6_isFlying_8 (by decide) ?_
  refine lv_istore_n (pc := 9) (lv' := [(3, .int (0 : Int32)), (2, .int r1), (0, .ref (ad 0)), (1, .ref (ad x1))]) hx hb dX6_isFlying_9 rfl hl (by decide) rfl (fun ls hl => ?_)
  obtain ⟨n0, h⟩ := h
  exact w6_isFlying_L10 cx  n0 _ _ _ _ _ _ hk_x1 h hP hD hS (lv_sub hl [2, 3, 1, 0] rfl)
def p6_flown_L78 : Nat → kx_St → Nat → Int32 → Int32 → Int32 → (kx_St → Int32 → Prop) → Prop
  | 0, _, _, _, _, _, _ => False
  | n + 1, σ, x2, x3, x4, x5, Q => ((σ.1 x2 1) ≤ x5 → (fun σ2 : kx_St => Q σ2 x3) (kx_sI σ 0 10 x4)) ∧ (¬ (σ.1 x2 1) ≤ x5 → p5_get σ x2 x5 (fun r3 => p3_kiteAt σ 4 r3 (fun o4 => (o4 = none → p6_flown_L78 n σ x2 x3 x4 (x5 + (1 : Int32)) Q) ∧ (∀ b5, o4 = some b5 → kx_k 0 b5 = 1 ∧ (p3_windIn σ 4 x5 (fun r6 => p1_payIn σ b5 r6 (fun r7 => p1_isLiftedIn σ b5 r6 (fun r8 => (r8 = 0 → p6_flown_L78 n σ x2 (x3 + r7) (x4 ||| (0 : Int32)) (x5 + (1 : Int32)) Q) ∧ (¬ r8 = 0 → p5_get σ x2 x5 (fun r10 => p6_flown_L78 n σ x2 (x3 + r7) (x4 ||| ((1 : Int32) <<< (r10 &&& 31))) (x5 + (1 : Int32)) Q))))))))))
set_option maxHeartbeats 4000000 in
theorem w6_flown_L78  {Q : kx_St → Int32 → Prop} (cx : kx_Cx p s m args meth c D cy RX6 cX6_flown 8 (some .int))  : ∀ (n : Nat) (σ : kx_St) (x2 : Nat) (x3 : Int32) (x4 : Int32) (x5 : Int32) (H : Heap) (locs : List Loc) (ls : Array Slot), kx_k 0 x2 = 5 → p6_flown_L78 n σ x2 x3 x4 x5 Q → va_P D vwCl (kx_ws cy 0 ad σ) H → va_D A (kx_ws cy 0 ad σ) → va_S A s.heap H locs → lv_has ls 8 [(0, .ref (ad 0)), (2, .ref (ad x2)), (3, .int x3), (4, .int x4), (5, .int x5)] → W p l e rm6_flown s m args below meth c H locs 0 0 (MQ below (kx_Qc kx_ci Q (kx_Wd D cy 0 ad A) A) args s 0 0 A) (F0 m 78 ls []) := by
  obtain ⟨hx, hb, hr, hlocks, hml, hown, hts, hK⟩ := id cx
  intro n
  induction n with
  | zero => intro _ _ _ _ _ _ _ _ _ h; exact False.elim h
  | succ n ih =>
    intro σ x2 x3 x4 x5 H locs ls hk_x2 h hP hD hS hl
    refine lv_iload (pc := 78) hx hb dX6_flown_78 (lv_at hl 4 rfl) ?_
    refine lv_aload_n (pc := 80) hx hb dX6_flown_80 rfl (lv_at hl 1 rfl) ?_
    refine fg6_117 (pc := 81) hx hb hown hts hK hP hk_x2 dX6_flown_81 ?_
    refine lv_icmp_ge (pc := 84) (tgt := 161) hx hb dX6_flown_84 (by decide) (fun c1 => ?_) (fun c1 => ?_)
    · have h := h.1 c1
      refine lv_aload_n (pc := 161) hx hb dX6_flown_161 rfl (lv_at hl 0 rfl) ?_
      refine lv_iload (pc := 162) hx hb dX6_flown_162 (lv_at hl 3 rfl) ?_
      refine fp6_61 (pc := 164) hx hb hown hts hK hP hD hS rfl dX6_flown_164 (fun H locs hP hD hS => ?_)
      refine lv_iload_n (pc := 167) hx hb dX6_flown_167 rfl (lv_at hl 2 rfl) ?_
      exact kx_iret (pc := 168) hx hb hr hlocks hK hP hD hS h dX6_flown_168
    · have h := h.2 c1
      refine lv_aload_n (pc := 87) hx hb dX6_flown_87 rfl (lv_at hl 0 rfl) ?_
      refine fg6_25 (pc := 88) (b := 4) hx hb hown hts hK hP rfl rfl dX6_flown_88 ?_
      refine lv_aload_n (pc := 91) hx hb dX6_flown_91 rfl (lv_at hl 1 rfl) ?_
      refine lv_iload (pc := 92) hx hb dX6_flown_92 (lv_at hl 4 rfl) ?_
      refine kx_iVi (pc := 94) [.int x5] hx hb hml hown hts hK hP hD hS (q5_get h) (cw6_94 hts ⟨Nat.le_of_ble_eq_true rfl, Nat.le_of_ble_eq_true rfl⟩) hk_x2 (by decide) rfl rfl hl.1 rfl (Nat.le_of_ble_eq_true rfl) ⟨Nat.le_of_ble_eq_true rfl, Nat.le_of_ble_eq_true rfl⟩ dX6_flown_94 (fun r3 u_ H locs hP hD hS h => ?_)
      obtain ⟨hu_, h⟩ := h
      rw [hu_] at hP hD
      refine kx_iVr (pc := 97) [.int r3] hx hb hml hown hts hK hP hD hS (q3_kiteAt h) (cw6_131 hts ⟨Nat.le_of_ble_eq_true rfl, Nat.le_of_ble_eq_true rfl⟩) rfl (by decide) rfl rfl hl.1 rfl (Nat.le_of_ble_eq_true rfl) ⟨Nat.le_of_ble_eq_true rfl, Nat.le_of_ble_eq_true rfl⟩ dX6_flown_97 (fun o4 u_ H locs hP hD hS h => ?_)
      obtain ⟨hu_, h⟩ := h
      rw [hu_] at hP hD
      rcases o4 with _ | b5
      · have h := h.1 rfl
        refine lv_astoreN (pc := 100) (lv' := [(6, .null), (0, .ref (ad 0)), (2, .ref (ad x2)), (3, .int x3), (4, .int x4), (5, .int x5)]) hx hb dX6_flown_100 hl (by decide) rfl (fun ls hl => ?_)
        refine lv_aloadN (pc := 102) hx hb dX6_flown_102 (lv_at hl 0 rfl) ?_
        refine lv_ifnullN (pc := 104) (tgt := 155) hx hb dX6_flown_104 (by decide) ?_
        refine lv_iinc (pc := 155) (v := (x5 + (1 : Int32))) (lv' := [(5, .int (x5 + (1 : Int32))), (6, .null), (0, .ref (ad 0)), (2, .ref (ad x2)), (3, .int x3), (4, .int x4)]) hx hb dX6_flown_155 hl (k := 5) rfl rfl (by decide) rfl (fun ls hl => ?_)
        refine lv_goto (pc := 158) (tgt := 78) hx hb dX6_flown_158 (by decide) ?_
        exact ih _ _ _ _ _ _ _ _ hk_x2 h hP hD hS (lv_sub hl [2, 3, 4, 5, 0] rfl)
      · obtain ⟨hk_b5, h⟩ := h.2 b5 rfl
        refine lv_astore (pc := 100) (lv' := [(6, .ref (ad b5)), (0, .ref (ad 0)), (2, .ref (ad x2)), (3, .int x3), (4, .int x4), (5, .int x5)]) hx hb dX6_flown_100 hl (by decide) rfl (fun ls hl => ?_)
        refine lv_aload (pc := 102) hx hb dX6_flown_102 (lv_at hl 0 rfl) ?_
        refine lv_ifnull (pc := 104) hx hb dX6_flown_104 ?_
        refine lv_aload_n (pc := 107) hx hb dX6_flown_107 rfl (lv_at hl 1 rfl) ?_
        refine fg6_25 (pc := 108) (b := 4) hx hb hown hts hK hP rfl rfl dX6_flown_108 ?_
        refine lv_iload (pc := 111) hx hb dX6_flown_111 (lv_at hl 5 rfl) ?_
        refine kx_iVi (pc := 113) [.int x5] hx hb hml hown hts hK hP hD hS (q3_windIn h) (cw6_144 hts ⟨Nat.le_of_ble_eq_true rfl, Nat.le_of_ble_eq_true rfl⟩) rfl (by decide) rfl rfl hl.1 rfl (Nat.le_of_ble_eq_true rfl) ⟨Nat.le_of_ble_eq_true rfl, Nat.le_of_ble_eq_true rfl⟩ dX6_flown_113 (fun r6 u_ H locs hP hD hS h => ?_)
        obtain ⟨hu_, h⟩ := h
        rw [hu_] at hP hD
        refine lv_istore (pc := 116) (lv' := [(7, .int r6), (6, .ref (ad b5)), (0, .ref (ad 0)), (2, .ref (ad x2)), (3, .int x3), (4, .int x4), (5, .int x5)]) hx hb dX6_flown_116 hl (by decide) rfl (fun ls hl => ?_)
        refine lv_iload_n (pc := 118) hx hb dX6_flown_118 rfl (lv_at hl 4 rfl) ?_
        refine lv_aload (pc := 119) hx hb dX6_flown_119 (lv_at hl 1 rfl) ?_
        refine lv_iload (pc := 121) hx hb dX6_flown_121 (lv_at hl 0 rfl) ?_
        refine kx_iVi (pc := 123) [.int r6] hx hb hml hown hts hK hP hD hS (q1_payIn h) (cw6_173 hts ⟨Nat.le_of_ble_eq_true rfl, Nat.le_of_ble_eq_true rfl⟩) hk_b5 (by decide) rfl rfl hl.1 rfl (Nat.le_of_ble_eq_true rfl) ⟨Nat.le_of_ble_eq_true rfl, Nat.le_of_ble_eq_true rfl⟩ dX6_flown_123 (fun r7 u_ H locs hP hD hS h => ?_)
        obtain ⟨hu_, h⟩ := h
        rw [hu_] at hP hD
        refine lv_iadd (pc := 126) hx hb dX6_flown_126 ?_
        refine lv_istore_n (pc := 127) (lv' := [(3, .int (x3 + r7)), (7, .int r6), (6, .ref (ad b5)), (0, .ref (ad 0)), (2, .ref (ad x2)), (4, .int x4), (5, .int x5)]) hx hb dX6_flown_127 rfl hl (by decide) rfl (fun ls hl => ?_)
        refine lv_iload (pc := 128) hx hb dX6_flown_128 (lv_at hl 5 rfl) ?_
        refine lv_aload (pc := 130) hx hb dX6_flown_130 (lv_at hl 2 rfl) ?_
        refine lv_iload (pc := 132) hx hb dX6_flown_132 (lv_at hl 1 rfl) ?_
        refine kx_iVi (pc := 134) [.int r6] hx hb hml hown hts hK hP hD hS (q1_isLiftedIn h) (cw6_170 hts ⟨Nat.le_of_ble_eq_true rfl, Nat.le_of_ble_eq_true rfl⟩) hk_b5 (by decide) rfl rfl hl.1 rfl (Nat.le_of_ble_eq_true rfl) ⟨Nat.le_of_ble_eq_true rfl, Nat.le_of_ble_eq_true rfl⟩ dX6_flown_134 (fun r8 u_ H locs hP hD hS h => ?_)
        obtain ⟨hu_, h⟩ := h
        rw [hu_] at hP hD
        refine lv_if_eq (pc := 137) (tgt := 151) hx hb dX6_flown_137 (by decide) (fun c9 => ?_) (fun c9 => ?_)
        · have h := h.1 c9
          refine lv_iconst (pc := 151) (v := (0 : Int32)) hx hb dX6_flown_151 (by decide) ?_
          refine lv_ior (pc := 152) hx hb dX6_flown_152 ?_
          refine lv_istore (pc := 153) (lv' := [(4, .int (x4 ||| (0 : Int32))), (3, .int (x3 + r7)), (7, .int r6), (6, .ref (ad b5)), (0, .ref (ad 0)), (2, .ref (ad x2)), (5, .int x5)]) hx hb dX6_flown_153 hl (by decide) rfl (fun ls hl => ?_)
          refine lv_iinc (pc := 155) (v := (x5 + (1 : Int32))) (lv' := [(5, .int (x5 + (1 : Int32))), (4, .int (x4 ||| (0 : Int32))), (3, .int (x3 + r7)), (7, .int r6), (6, .ref (ad b5)), (0, .ref (ad 0)), (2, .ref (ad x2))]) hx hb dX6_flown_155 hl (k := 6) rfl rfl (by decide) rfl (fun ls hl => ?_)
          refine lv_goto (pc := 158) (tgt := 78) hx hb dX6_flown_158 (by decide) ?_
          exact ih _ _ _ _ _ _ _ _ hk_x2 h hP hD hS (lv_sub hl [5, 6, 2, 1, 0] rfl)
        · have h := h.2 c9
          refine lv_iconst (pc := 140) (v := (1 : Int32)) hx hb dX6_flown_140 (by decide) ?_
          refine lv_aload_n (pc := 141) hx hb dX6_flown_141 rfl (lv_at hl 4 rfl) ?_
          refine lv_iload (pc := 142) hx hb dX6_flown_142 (lv_at hl 6 rfl) ?_
          refine kx_iVi (pc := 144) [.int x5] hx hb hml hown hts hK hP hD hS (q5_get h) (cw6_94 hts ⟨Nat.le_of_ble_eq_true rfl, Nat.le_of_ble_eq_true rfl⟩) hk_x2 (by decide) rfl rfl hl.1 rfl (Nat.le_of_ble_eq_true rfl) ⟨Nat.le_of_ble_eq_true rfl, Nat.le_of_ble_eq_true rfl⟩ dX6_flown_144 (fun r10 u_ H locs hP hD hS h => ?_)
          obtain ⟨hu_, h⟩ := h
          rw [hu_] at hP hD
          refine lv_ishl (pc := 147) hx hb dX6_flown_147 ?_
          refine lv_goto (pc := 148) (tgt := 152) hx hb dX6_flown_148 (by decide) ?_
          refine lv_ior (pc := 152) hx hb dX6_flown_152 ?_
          refine lv_istore (pc := 153) (lv' := [(4, .int (x4 ||| ((1 : Int32) <<< (r10 &&& 31)))), (3, .int (x3 + r7)), (7, .int r6), (6, .ref (ad b5)), (0, .ref (ad 0)), (2, .ref (ad x2)), (5, .int x5)]) hx hb dX6_flown_153 hl (by decide) rfl (fun ls hl => ?_)
          refine lv_iinc (pc := 155) (v := (x5 + (1 : Int32))) (lv' := [(5, .int (x5 + (1 : Int32))), (4, .int (x4 ||| ((1 : Int32) <<< (r10 &&& 31)))), (3, .int (x3 + r7)), (7, .int r6), (6, .ref (ad b5)), (0, .ref (ad 0)), (2, .ref (ad x2))]) hx hb dX6_flown_155 hl (k := 6) rfl rfl (by decide) rfl (fun ls hl => ?_)
          refine lv_goto (pc := 158) (tgt := 78) hx hb dX6_flown_158 (by decide) ?_
          exact ih _ _ _ _ _ _ _ _ hk_x2 h hP hD hS (lv_sub hl [5, 6, 2, 1, 0] rfl)
def p6_flown (σ : kx_St) (x1 : Int32) (Q : kx_St → Int32 → Prop) : Prop := p6_pick σ 1 x1 (fun o1 => (o1 = none → Q σ (-1 : Int32)) ∧ (∀ b2, o1 = some b2 → kx_k 0 b2 = 5 ∧ (p3_isEmpty σ 4 (fun r3 => (r3 = 0 → p5_isThere σ b2 (fun r5 => (¬ r5 = 0 → ((σ.1 b2 1) ≤ (20 : Int32) → p6_isFlying σ b2 (fun r8 => (¬ r8 = 0 → ∃ m78, p6_flown_L78 m78 σ b2 (0 : Int32) (0 : Int32) (0 : Int32) Q) ∧ (r8 = 0 → p6_found σ (3 : Int32) (fun σ11 r10 => Q σ11 r10)))) ∧ (¬ (σ.1 b2 1) ≤ (20 : Int32) → p6_found σ (5 : Int32) (fun σ13 r12 => Q σ13 r12))) ∧ (r5 = 0 → p6_found σ (1 : Int32) (fun σ15 r14 => Q σ15 r14)))) ∧ (¬ r3 = 0 → Q σ (-4 : Int32))))))
set_option maxHeartbeats 4000000 in
theorem q6_flown {σ : kx_St} {x1 : Int32} {Q : kx_St → Int32 → Prop} (h : p6_flown σ x1 Q) : Met l yX6_flown (Cond.code yX6_flown cX6_flown 8 (some .int) :: kx_big) rm6_flown (va_Pc [.ref (ad 0), .int x1] (kx_Wd D cy 0 ad A σ)) (kx_Qc kx_ci Q (kx_Wd D cy 0 ad A) A) 0 0 A := by
  refine kx_head (plainFor_of_name (by decide)) (Nat.le_of_ble_eq_true rfl) ?_
  intro p e s m below meth c ls cx hP hD hS hl
  obtain ⟨hx, hb, hr, hlocks, hml, hown, hts, hK⟩ := id cx
  have hl : lv_has ls 8 [(0, .ref (ad 0)), (1, .int x1)] := hl
  refine lv_aload_n (pc := 0) hx hb dX6_flown_0 rfl (lv_at hl 0 rfl) ?_
  refine fg6_11 (pc := 1) (b := 1) hx hb hown hts hK hP rfl rfl dX6_flown_1 ?_
  refine lv_iload_n (pc := 4) hx hb dX6_flown_4 rfl (lv_at hl 1 rfl) ?_
  refine kx_iSr (pc := 5) [.ref (ad 1), .int x1] hx hb hml hown hts hK hP hD hS (q6_pick h) (cw6_74 hts ⟨Nat.le_of_ble_eq_true rfl, Nat.le_of_ble_eq_true rfl⟩) rfl hl.1 rfl (Nat.le_of_ble_eq_true rfl) ⟨Nat.le_of_ble_eq_true rfl, Nat.le_of_ble_eq_true rfl⟩ dX6_flown_5 (fun o1 u_ H locs hP hD hS h => ?_)
  obtain ⟨hu_, h⟩ := h
  rw [hu_] at hP hD
  rcases o1 with _ | b2
  · have h := h.1 rfl
    refine lv_astore_nN (pc := 8) (lv' := [(2, .null), (0, .ref (ad 0)), (1, .int x1)]) hx hb dX6_flown_8 rfl hl (by decide) rfl (fun ls hl => ?_)
    refine lv_aload_nN (pc := 9) hx hb dX6_flown_9 rfl (lv_at hl 0 rfl) ?_
    refine lv_ifnonnullN (pc := 10) hx hb dX6_flown_10 ?_
    refine lv_iconst (pc := 13) (v := (-1 : Int32)) hx hb dX6_flown_13 (by decide) ?_
    exact kx_iret (pc := 14) hx hb hr hlocks hK hP hD hS h dX6_flown_14
  · obtain ⟨hk_b2, h⟩ := h.2 b2 rfl
    refine lv_astore_n (pc := 8) (lv' := [(2, .ref (ad b2)), (0, .ref (ad 0)), (1, .int x1)]) hx hb dX6_flown_8 rfl hl (by decide) rfl (fun ls hl => ?_)
    refine lv_aload_n (pc := 9) hx hb dX6_flown_9 rfl (lv_at hl 0 rfl) ?_
    refine lv_ifnonnull (pc := 10) (tgt := 15) hx hb dX6_flown_10 (by decide) ?_
    refine lv_aload_n (pc := 15) hx hb dX6_flown_15 rfl (lv_at hl 1 rfl) ?_
    refine fg6_25 (pc := 16) (b := 4) hx hb hown hts hK hP rfl rfl dX6_flown_16 ?_
    refine kx_iVi (pc := 19) [] hx hb hml hown hts hK hP hD hS (q3_isEmpty h) (cw6_188 hts ⟨Nat.le_of_ble_eq_true rfl, Nat.le_of_ble_eq_true rfl⟩) rfl (by decide) rfl rfl hl.1 rfl (Nat.le_of_ble_eq_true rfl) ⟨Nat.le_of_ble_eq_true rfl, Nat.le_of_ble_eq_true rfl⟩ dX6_flown_19 (fun r3 u_ H locs hP hD hS h => ?_)
    obtain ⟨hu_, h⟩ := h
    rw [hu_] at hP hD
    refine lv_if_eq (pc := 22) (tgt := 28) hx hb dX6_flown_22 (by decide) (fun c4 => ?_) (fun c4 => ?_)
    · have h := h.1 c4
      refine lv_aload_n (pc := 28) hx hb dX6_flown_28 rfl (lv_at hl 0 rfl) ?_
      refine kx_iVi (pc := 29) [] hx hb hml hown hts hK hP hD hS (q5_isThere h) (cw6_82 hts ⟨Nat.le_of_ble_eq_true rfl, Nat.le_of_ble_eq_true rfl⟩) hk_b2 (by decide) rfl rfl hl.1 rfl (Nat.le_of_ble_eq_true rfl) ⟨Nat.le_of_ble_eq_true rfl, Nat.le_of_ble_eq_true rfl⟩ dX6_flown_29 (fun r5 u_ H locs hP hD hS h => ?_)
      obtain ⟨hu_, h⟩ := h
      rw [hu_] at hP hD
      refine lv_if_ne (pc := 32) (tgt := 41) hx hb dX6_flown_32 (by decide) (fun c6 => ?_) (fun c6 => ?_)
      · have h := h.1 c6
        refine lv_aload_n (pc := 41) hx hb dX6_flown_41 rfl (lv_at hl 0 rfl) ?_
        refine fg6_117 (pc := 42) hx hb hown hts hK hP hk_b2 dX6_flown_42 ?_
        refine lv_bipush (pc := 45) (v := (20 : Int32)) hx hb dX6_flown_45 (by decide) ?_
        refine lv_icmp_le (pc := 47) (tgt := 56) hx hb dX6_flown_47 (by decide) (fun c7 => ?_) (fun c7 => ?_)
        · have h := h.1 c7
          refine lv_aload_n (pc := 56) hx hb dX6_flown_56 rfl (lv_at hl 1 rfl) ?_
          refine lv_aload_n (pc := 57) hx hb dX6_flown_57 rfl (lv_at hl 0 rfl) ?_
          refine kx_iVi (pc := 58) [.ref (ad b2)] hx hb hml hown hts hK hP hD hS (q6_isFlying h) (cw6_221 hts ⟨Nat.le_of_ble_eq_true rfl, Nat.le_of_ble_eq_true rfl⟩) rfl (by decide) rfl rfl hl.1 rfl (Nat.le_of_ble_eq_true rfl) ⟨Nat.le_of_ble_eq_true rfl, Nat.le_of_ble_eq_true rfl⟩ dX6_flown_58 (fun r8 u_ H locs hP hD hS h => ?_)
          obtain ⟨hu_, h⟩ := h
          rw [hu_] at hP hD
          refine lv_if_ne (pc := 61) (tgt := 70) hx hb dX6_flown_61 (by decide) (fun c9 => ?_) (fun c9 => ?_)
          · have h := h.1 c9
            refine lv_iconst (pc := 70) (v := (0 : Int32)) hx hb dX6_flown_70 (by decide) ?_
            refine lv_istore_n (pc := 71) (lv' := [(3, .int (0 : Int32)), (2, .ref (ad b2)), (0, .ref (ad 0)), (1, .int x1)]) hx hb dX6_flown_71 rfl hl (by decide) rfl (fun ls hl => ?_)
            refine lv_iconst (pc := 72) (v := (0 : Int32)) hx hb dX6_flown_72 (by decide) ?_
            refine lv_istore (pc := 73) (lv' := [(4, .int (0 : Int32)), (3, .int (0 : Int32)), (2, .ref (ad b2)), (0, .ref (ad 0)), (1, .int x1)]) hx hb dX6_flown_73 hl (by decide) rfl (fun ls hl => ?_)
            refine lv_iconst (pc := 75) (v := (0 : Int32)) hx hb dX6_flown_75 (by decide) ?_
            refine lv_istore (pc := 76) (lv' := [(5, .int (0 : Int32)), (4, .int (0 : Int32)), (3, .int (0 : Int32)), (2, .ref (ad b2)), (0, .ref (ad 0)), (1, .int x1)]) hx hb dX6_flown_76 hl (by decide) rfl (fun ls hl => ?_)
            obtain ⟨n0, h⟩ := h
            exact w6_flown_L78 cx  n0 _ _ _ _ _ _ _ _ hk_b2 h hP hD hS (lv_sub hl [4, 3, 2, 1, 0] rfl)
          · have h := h.2 c9
            refine lv_aload_n (pc := 64) hx hb dX6_flown_64 rfl (lv_at hl 1 rfl) ?_
            refine lv_iconst (pc := 65) (v := (3 : Int32)) hx hb dX6_flown_65 (by decide) ?_
            refine kx_iVi (pc := 66) [.int (3 : Int32)] hx hb hml hown hts hK hP hD hS (q6_found h) (cw6_86 hts ⟨Nat.le_of_ble_eq_true rfl, Nat.le_of_ble_eq_true rfl⟩) rfl (by decide) rfl rfl hl.1 rfl (Nat.le_of_ble_eq_true rfl) ⟨Nat.le_of_ble_eq_true rfl, Nat.le_of_ble_eq_true rfl⟩ dX6_flown_66 (fun r10 σ11 H locs hP hD hS h => ?_)
            exact kx_iret (pc := 69) hx hb hr hlocks hK hP hD hS h dX6_flown_69
        · have h := h.2 c7
          refine lv_aload_n (pc := 50) hx hb dX6_flown_50 rfl (lv_at hl 1 rfl) ?_
          refine lv_iconst (pc := 51) (v := (5 : Int32)) hx hb dX6_flown_51 (by decide) ?_
          refine kx_iVi (pc := 52) [.int (5 : Int32)] hx hb hml hown hts hK hP hD hS (q6_found h) (cw6_86 hts ⟨Nat.le_of_ble_eq_true rfl, Nat.le_of_ble_eq_true rfl⟩) rfl (by decide) rfl rfl hl.1 rfl (Nat.le_of_ble_eq_true rfl) ⟨Nat.le_of_ble_eq_true rfl, Nat.le_of_ble_eq_true rfl⟩ dX6_flown_52 (fun r12 σ13 H locs hP hD hS h => ?_)
          exact kx_iret (pc := 55) hx hb hr hlocks hK hP hD hS h dX6_flown_55
      · have h := h.2 c6
        refine lv_aload_n (pc := 35) hx hb dX6_flown_35 rfl (lv_at hl 1 rfl) ?_
        refine lv_iconst (pc := 36) (v := (1 : Int32)) hx hb dX6_flown_36 (by decide) ?_
        refine kx_iVi (pc := 37) [.int (1 : Int32)] hx hb hml hown hts hK hP hD hS (q6_found h) (cw6_86 hts ⟨Nat.le_of_ble_eq_true rfl, Nat.le_of_ble_eq_true rfl⟩) rfl (by decide) rfl rfl hl.1 rfl (Nat.le_of_ble_eq_true rfl) ⟨Nat.le_of_ble_eq_true rfl, Nat.le_of_ble_eq_true rfl⟩ dX6_flown_37 (fun r14 σ15 H locs hP hD hS h => ?_)
        exact kx_iret (pc := 40) hx hb hr hlocks hK hP hD hS h dX6_flown_40
    · have h := h.2 c4
      refine lv_bipush (pc := 25) (v := (-4 : Int32)) hx hb dX6_flown_25 (by decide) ?_
      exact kx_iret (pc := 27) hx hb hr hlocks hK hP hD hS h dX6_flown_27
def p6_when_L20 : Nat → kx_St → Nat → Int32 → Int32 → (kx_St → Int32 → Prop) → Prop
  | 0, _, _, _, _, _ => False
  | n + 1, σ, x2, x3, x4, Q => ((4 : Int32) ≤ x4 → p3_windIn σ 4 x3 (fun r2 => p1_payIn σ x2 r2 (fun r3 => (fun σ4 : kx_St => Q σ4 x3) (kx_sI σ 0 10 r3)))) ∧ (¬ (4 : Int32) ≤ x4 → p3_windIn σ 4 x4 (fun r5 => p1_payIn σ x2 r5 (fun r6 => p3_windIn σ 4 x3 (fun r7 => p1_payIn σ x2 r7 (fun r8 => (r6 ≤ r8 → p6_when_L20 n σ x2 x3 (x4 + (1 : Int32)) Q) ∧ (¬ r6 ≤ r8 → p6_when_L20 n σ x2 x4 (x4 + (1 : Int32)) Q))))))
set_option maxHeartbeats 4000000 in
theorem w6_when_L20  {Q : kx_St → Int32 → Prop} (cx : kx_Cx p s m args meth c D cy RX6 cX6_when 5 (some .int))  : ∀ (n : Nat) (σ : kx_St) (x2 : Nat) (x3 : Int32) (x4 : Int32) (H : Heap) (locs : List Loc) (ls : Array Slot), kx_k 0 x2 = 1 → p6_when_L20 n σ x2 x3 x4 Q → va_P D vwCl (kx_ws cy 0 ad σ) H → va_D A (kx_ws cy 0 ad σ) → va_S A s.heap H locs → lv_has ls 5 [(0, .ref (ad 0)), (2, .ref (ad x2)), (3, .int x3), (4, .int x4)] → W p l e rm6_when s m args below meth c H locs 0 0 (MQ below (kx_Qc kx_ci Q (kx_Wd D cy 0 ad A) A) args s 0 0 A) (F0 m 20 ls []) := by
  obtain ⟨hx, hb, hr, hlocks, hml, hown, hts, hK⟩ := id cx
  intro n
  induction n with
  | zero => intro _ _ _ _ _ _ _ _ h; exact False.elim h
  | succ n ih =>
    intro σ x2 x3 x4 H locs ls hk_x2 h hP hD hS hl
    refine lv_iload (pc := 20) hx hb dX6_when_20 (lv_at hl 3 rfl) ?_
    refine lv_iconst (pc := 22) (v := (4 : Int32)) hx hb dX6_when_22 (by decide) ?_
    refine lv_icmp_ge (pc := 23) (tgt := 63) hx hb dX6_when_23 (by decide) (fun c1 => ?_) (fun c1 => ?_)
    · have h := h.1 c1
      refine lv_aload_n (pc := 63) hx hb dX6_when_63 rfl (lv_at hl 0 rfl) ?_
      refine lv_aload_n (pc := 64) hx hb dX6_when_64 rfl (lv_at hl 1 rfl) ?_
      refine lv_aload_n (pc := 65) hx hb dX6_when_65 rfl (lv_at hl 0 rfl) ?_
      refine fg6_25 (pc := 66) (b := 4) hx hb hown hts hK hP rfl rfl dX6_when_66 ?_
      refine lv_iload_n (pc := 69) hx hb dX6_when_69 rfl (lv_at hl 2 rfl) ?_
      refine kx_iVi (pc := 70) [.int x3] hx hb hml hown hts hK hP hD hS (q3_windIn h) (cw6_144 hts ⟨Nat.le_of_ble_eq_true rfl, Nat.le_of_ble_eq_true rfl⟩) rfl (by decide) rfl rfl hl.1 rfl (Nat.le_of_ble_eq_true rfl) ⟨Nat.le_of_ble_eq_true rfl, Nat.le_of_ble_eq_true rfl⟩ dX6_when_70 (fun r2 u_ H locs hP hD hS h => ?_)
      obtain ⟨hu_, h⟩ := h
      rw [hu_] at hP hD
      refine kx_iVi (pc := 73) [.int r2] hx hb hml hown hts hK hP hD hS (q1_payIn h) (cw6_173 hts ⟨Nat.le_of_ble_eq_true rfl, Nat.le_of_ble_eq_true rfl⟩) hk_x2 (by decide) rfl rfl hl.1 rfl (Nat.le_of_ble_eq_true rfl) ⟨Nat.le_of_ble_eq_true rfl, Nat.le_of_ble_eq_true rfl⟩ dX6_when_73 (fun r3 u_ H locs hP hD hS h => ?_)
      obtain ⟨hu_, h⟩ := h
      rw [hu_] at hP hD
      refine fp6_61 (pc := 76) hx hb hown hts hK hP hD hS rfl dX6_when_76 (fun H locs hP hD hS => ?_)
      refine lv_iload_n (pc := 79) hx hb dX6_when_79 rfl (lv_at hl 2 rfl) ?_
      exact kx_iret (pc := 80) hx hb hr hlocks hK hP hD hS h dX6_when_80
    · have h := h.2 c1
      refine lv_aload_n (pc := 26) hx hb dX6_when_26 rfl (lv_at hl 1 rfl) ?_
      refine lv_aload_n (pc := 27) hx hb dX6_when_27 rfl (lv_at hl 0 rfl) ?_
      refine fg6_25 (pc := 28) (b := 4) hx hb hown hts hK hP rfl rfl dX6_when_28 ?_
      refine lv_iload (pc := 31) hx hb dX6_when_31 (lv_at hl 3 rfl) ?_
      refine kx_iVi (pc := 33) [.int x4] hx hb hml hown hts hK hP hD hS (q3_windIn h) (cw6_144 hts ⟨Nat.le_of_ble_eq_true rfl, Nat.le_of_ble_eq_true rfl⟩) rfl (by decide) rfl rfl hl.1 rfl (Nat.le_of_ble_eq_true rfl) ⟨Nat.le_of_ble_eq_true rfl, Nat.le_of_ble_eq_true rfl⟩ dX6_when_33 (fun r5 u_ H locs hP hD hS h => ?_)
      obtain ⟨hu_, h⟩ := h
      rw [hu_] at hP hD
      refine kx_iVi (pc := 36) [.int r5] hx hb hml hown hts hK hP hD hS (q1_payIn h) (cw6_173 hts ⟨Nat.le_of_ble_eq_true rfl, Nat.le_of_ble_eq_true rfl⟩) hk_x2 (by decide) rfl rfl hl.1 rfl (Nat.le_of_ble_eq_true rfl) ⟨Nat.le_of_ble_eq_true rfl, Nat.le_of_ble_eq_true rfl⟩ dX6_when_36 (fun r6 u_ H locs hP hD hS h => ?_)
      obtain ⟨hu_, h⟩ := h
      rw [hu_] at hP hD
      refine lv_aload_n (pc := 39) hx hb dX6_when_39 rfl (lv_at hl 1 rfl) ?_
      refine lv_aload_n (pc := 40) hx hb dX6_when_40 rfl (lv_at hl 0 rfl) ?_
      refine fg6_25 (pc := 41) (b := 4) hx hb hown hts hK hP rfl rfl dX6_when_41 ?_
      refine lv_iload_n (pc := 44) hx hb dX6_when_44 rfl (lv_at hl 2 rfl) ?_
      refine kx_iVi (pc := 45) [.int x3] hx hb hml hown hts hK hP hD hS (q3_windIn h) (cw6_144 hts ⟨Nat.le_of_ble_eq_true rfl, Nat.le_of_ble_eq_true rfl⟩) rfl (by decide) rfl rfl hl.1 rfl (Nat.le_of_ble_eq_true rfl) ⟨Nat.le_of_ble_eq_true rfl, Nat.le_of_ble_eq_true rfl⟩ dX6_when_45 (fun r7 u_ H locs hP hD hS h => ?_)
      obtain ⟨hu_, h⟩ := h
      rw [hu_] at hP hD
      refine kx_iVi (pc := 48) [.int r7] hx hb hml hown hts hK hP hD hS (q1_payIn h) (cw6_173 hts ⟨Nat.le_of_ble_eq_true rfl, Nat.le_of_ble_eq_true rfl⟩) hk_x2 (by decide) rfl rfl hl.1 rfl (Nat.le_of_ble_eq_true rfl) ⟨Nat.le_of_ble_eq_true rfl, Nat.le_of_ble_eq_true rfl⟩ dX6_when_48 (fun r8 u_ H locs hP hD hS h => ?_)
      obtain ⟨hu_, h⟩ := h
      rw [hu_] at hP hD
      refine lv_icmp_le (pc := 51) (tgt := 57) hx hb dX6_when_51 (by decide) (fun c9 => ?_) (fun c9 => ?_)
      · have h := h.1 c9
        refine lv_iinc (pc := 57) (v := (x4 + (1 : Int32))) (lv' := [(4, .int (x4 + (1 : Int32))), (0, .ref (ad 0)), (2, .ref (ad x2)), (3, .int x3)]) hx hb dX6_when_57 hl (k := 3) rfl rfl (by decide) rfl (fun ls hl => ?_)
        refine lv_goto (pc := 60) (tgt := 20) hx hb dX6_when_60 (by decide) ?_
        exact ih _ _ _ _ _ _ _ hk_x2 h hP hD hS (lv_sub hl [1, 2, 3, 0] rfl)
      · have h := h.2 c9
        refine lv_iload (pc := 54) hx hb dX6_when_54 (lv_at hl 3 rfl) ?_
        refine lv_istore_n (pc := 56) (lv' := [(3, .int x4), (0, .ref (ad 0)), (2, .ref (ad x2)), (4, .int x4)]) hx hb dX6_when_56 rfl hl (by decide) rfl (fun ls hl => ?_)
        refine lv_iinc (pc := 57) (v := (x4 + (1 : Int32))) (lv' := [(4, .int (x4 + (1 : Int32))), (3, .int x4), (0, .ref (ad 0)), (2, .ref (ad x2))]) hx hb dX6_when_57 hl (k := 3) rfl rfl (by decide) rfl (fun ls hl => ?_)
        refine lv_goto (pc := 60) (tgt := 20) hx hb dX6_when_60 (by decide) ?_
        exact ih _ _ _ _ _ _ _ hk_x2 h hP hD hS (lv_sub hl [2, 3, 1, 0] rfl)
def p6_when (σ : kx_St) (x1 : Int32) (Q : kx_St → Int32 → Prop) : Prop := p3_kiteAt σ 4 x1 (fun o1 => (o1 = none → Q σ (-1 : Int32)) ∧ (∀ b2, o1 = some b2 → kx_k 0 b2 = 1 ∧ (∃ m20, p6_when_L20 m20 σ b2 (0 : Int32) (1 : Int32) Q)))
set_option maxHeartbeats 4000000 in
theorem q6_when {σ : kx_St} {x1 : Int32} {Q : kx_St → Int32 → Prop} (h : p6_when σ x1 Q) : Met l yX6_when (Cond.code yX6_when cX6_when 5 (some .int) :: kx_big) rm6_when (va_Pc [.ref (ad 0), .int x1] (kx_Wd D cy 0 ad A σ)) (kx_Qc kx_ci Q (kx_Wd D cy 0 ad A) A) 0 0 A := by
  refine kx_head (plainFor_of_name (by decide)) (Nat.le_of_ble_eq_true rfl) ?_
  intro p e s m below meth c ls cx hP hD hS hl
  obtain ⟨hx, hb, hr, hlocks, hml, hown, hts, hK⟩ := id cx
  have hl : lv_has ls 5 [(0, .ref (ad 0)), (1, .int x1)] := hl
  refine lv_aload_n (pc := 0) hx hb dX6_when_0 rfl (lv_at hl 0 rfl) ?_
  refine fg6_25 (pc := 1) (b := 4) hx hb hown hts hK hP rfl rfl dX6_when_1 ?_
  refine lv_iload_n (pc := 4) hx hb dX6_when_4 rfl (lv_at hl 1 rfl) ?_
  refine kx_iVr (pc := 5) [.int x1] hx hb hml hown hts hK hP hD hS (q3_kiteAt h) (cw6_131 hts ⟨Nat.le_of_ble_eq_true rfl, Nat.le_of_ble_eq_true rfl⟩) rfl (by decide) rfl rfl hl.1 rfl (Nat.le_of_ble_eq_true rfl) ⟨Nat.le_of_ble_eq_true rfl, Nat.le_of_ble_eq_true rfl⟩ dX6_when_5 (fun o1 u_ H locs hP hD hS h => ?_)
  obtain ⟨hu_, h⟩ := h
  rw [hu_] at hP hD
  rcases o1 with _ | b2
  · have h := h.1 rfl
    refine lv_astore_nN (pc := 8) (lv' := [(2, .null), (0, .ref (ad 0)), (1, .int x1)]) hx hb dX6_when_8 rfl hl (by decide) rfl (fun ls hl => ?_)
    refine lv_aload_nN (pc := 9) hx hb dX6_when_9 rfl (lv_at hl 0 rfl) ?_
    refine lv_ifnonnullN (pc := 10) hx hb dX6_when_10 ?_
    refine lv_iconst (pc := 13) (v := (-1 : Int32)) hx hb dX6_when_13 (by decide) ?_
    exact kx_iret (pc := 14) hx hb hr hlocks hK hP hD hS h dX6_when_14
  · obtain ⟨hk_b2, h⟩ := h.2 b2 rfl
    refine lv_astore_n (pc := 8) (lv' := [(2, .ref (ad b2)), (0, .ref (ad 0)), (1, .int x1)]) hx hb dX6_when_8 rfl hl (by decide) rfl (fun ls hl => ?_)
    refine lv_aload_n (pc := 9) hx hb dX6_when_9 rfl (lv_at hl 0 rfl) ?_
    refine lv_ifnonnull (pc := 10) (tgt := 15) hx hb dX6_when_10 (by decide) ?_
    refine lv_iconst (pc := 15) (v := (0 : Int32)) hx hb dX6_when_15 (by decide) ?_
    refine lv_istore_n (pc := 16) (lv' := [(3, .int (0 : Int32)), (2, .ref (ad b2)), (0, .ref (ad 0)), (1, .int x1)]) hx hb dX6_when_16 rfl hl (by decide) rfl (fun ls hl => ?_)
    refine lv_iconst (pc := 17) (v := (1 : Int32)) hx hb dX6_when_17 (by decide) ?_
    refine lv_istore (pc := 18) (lv' := [(4, .int (1 : Int32)), (3, .int (0 : Int32)), (2, .ref (ad b2)), (0, .ref (ad 0)), (1, .int x1)]) hx hb dX6_when_18 hl (by decide) rfl (fun ls hl => ?_)
    obtain ⟨n0, h⟩ := h
    exact w6_when_L20 cx  n0 _ _ _ _ _ _ _ hk_b2 h hP hD hS (lv_sub hl [3, 2, 1, 0] rfl)
def p6_cross (σ : kx_St) (x1 : Int32) (x2 : Int32) (x3 : Int32) (Q : Int32 → Prop) : Prop := p3_kiteAt σ 4 x1 (fun o1 => (o1 = none → Q (-1 : Int32)) ∧ (∀ b2, o1 = some b2 → kx_k 0 b2 = 1 ∧ (p3_kiteAt σ 4 x2 (fun o3 => (o3 = none → Q (-1 : Int32)) ∧ (∀ b4, o3 = some b4 → kx_k 0 b4 = 1 ∧ ((x1 = x2 → Q (-1 : Int32)) ∧ (¬ x1 = x2 → p6_isWind x3 (fun r6 => (¬ r6 = 0 → p3_crossLift σ 4 x1 x2 x3 (fun r8 => Q r8)) ∧ (r6 = 0 → Q (-1 : Int32))))))))))
set_option maxHeartbeats 4000000 in
theorem q6_cross {σ : kx_St} {x1 : Int32} {x2 : Int32} {x3 : Int32} {Q : Int32 → Prop} (h : p6_cross σ x1 x2 x3 Q) : Met l yX6_cross (Cond.code yX6_cross cX6_cross 4 (some .int) :: kx_big) rm6_cross (va_Pc [.ref (ad 0), .int x1, .int x2, .int x3] (kx_Wd D cy 0 ad A σ)) (kx_Qc kx_ci (fun u r => u = σ ∧ Q r) (kx_Wd D cy 0 ad A) A) 0 0 A := by
  refine kx_head (plainFor_of_name (by decide)) (Nat.le_of_ble_eq_true rfl) ?_
  intro p e s m below meth c ls cx hP hD hS hl
  obtain ⟨hx, hb, hr, hlocks, hml, hown, hts, hK⟩ := id cx
  have hl : lv_has ls 4 [(0, .ref (ad 0)), (1, .int x1), (2, .int x2), (3, .int x3)] := hl
  refine lv_aload_n (pc := 0) hx hb dX6_cross_0 rfl (lv_at hl 0 rfl) ?_
  refine fg6_25 (pc := 1) (b := 4) hx hb hown hts hK hP rfl rfl dX6_cross_1 ?_
  refine lv_iload_n (pc := 4) hx hb dX6_cross_4 rfl (lv_at hl 1 rfl) ?_
  refine kx_iVr (pc := 5) [.int x1] hx hb hml hown hts hK hP hD hS (q3_kiteAt h) (cw6_131 hts ⟨Nat.le_of_ble_eq_true rfl, Nat.le_of_ble_eq_true rfl⟩) rfl (by decide) rfl rfl hl.1 rfl (Nat.le_of_ble_eq_true rfl) ⟨Nat.le_of_ble_eq_true rfl, Nat.le_of_ble_eq_true rfl⟩ dX6_cross_5 (fun o1 u_ H locs hP hD hS h => ?_)
  obtain ⟨hu_, h⟩ := h
  rw [hu_] at hP hD
  rcases o1 with _ | b2
  · have h := h.1 rfl
    refine lv_ifnullN (pc := 8) (tgt := 34) hx hb dX6_cross_8 (by decide) ?_
    refine lv_iconst (pc := 34) (v := (-1 : Int32)) hx hb dX6_cross_34 (by decide) ?_
    exact kx_iret (pc := 35) hx hb hr hlocks hK hP hD hS ⟨rfl, h⟩ dX6_cross_35
  · obtain ⟨hk_b2, h⟩ := h.2 b2 rfl
    refine lv_ifnull (pc := 8) hx hb dX6_cross_8 ?_
    refine lv_aload_n (pc := 11) hx hb dX6_cross_11 rfl (lv_at hl 0 rfl) ?_
    refine fg6_25 (pc := 12) (b := 4) hx hb hown hts hK hP rfl rfl dX6_cross_12 ?_
    refine lv_iload_n (pc := 15) hx hb dX6_cross_15 rfl (lv_at hl 2 rfl) ?_
    refine kx_iVr (pc := 16) [.int x2] hx hb hml hown hts hK hP hD hS (q3_kiteAt h) (cw6_131 hts ⟨Nat.le_of_ble_eq_true rfl, Nat.le_of_ble_eq_true rfl⟩) rfl (by decide) rfl rfl hl.1 rfl (Nat.le_of_ble_eq_true rfl) ⟨Nat.le_of_ble_eq_true rfl, Nat.le_of_ble_eq_true rfl⟩ dX6_cross_16 (fun o3 u_ H locs hP hD hS h => ?_)
    obtain ⟨hu_, h⟩ := h
    rw [hu_] at hP hD
    rcases o3 with _ | b4
    · have h := h.1 rfl
      refine lv_ifnullN (pc := 19) (tgt := 34) hx hb dX6_cross_19 (by decide) ?_
      refine lv_iconst (pc := 34) (v := (-1 : Int32)) hx hb dX6_cross_34 (by decide) ?_
      exact kx_iret (pc := 35) hx hb hr hlocks hK hP hD hS ⟨rfl, h⟩ dX6_cross_35
    · obtain ⟨hk_b4, h⟩ := h.2 b4 rfl
      refine lv_ifnull (pc := 19) hx hb dX6_cross_19 ?_
      refine lv_iload_n (pc := 22) hx hb dX6_cross_22 rfl (lv_at hl 1 rfl) ?_
      refine lv_iload_n (pc := 23) hx hb dX6_cross_23 rfl (lv_at hl 2 rfl) ?_
      refine lv_icmp_eq (pc := 24) (tgt := 34) hx hb dX6_cross_24 (by decide) (fun c5 => ?_) (fun c5 => ?_)
      · have h := h.1 c5
        refine lv_iconst (pc := 34) (v := (-1 : Int32)) hx hb dX6_cross_34 (by decide) ?_
        exact kx_iret (pc := 35) hx hb hr hlocks hK hP hD hS ⟨rfl, h⟩ dX6_cross_35
      · have h := h.2 c5
        refine lv_iload_n (pc := 27) hx hb dX6_cross_27 rfl (lv_at hl 3 rfl) ?_
        refine kx_iSi (pc := 28) [.int x3] hx hb hml hown hts hK hP hD hS (q6_isWind h) (cw6_167 hts ⟨Nat.le_of_ble_eq_true rfl, Nat.le_of_ble_eq_true rfl⟩) rfl hl.1 rfl (Nat.le_of_ble_eq_true rfl) ⟨Nat.le_of_ble_eq_true rfl, Nat.le_of_ble_eq_true rfl⟩ dX6_cross_28 (fun r6 u_ H locs hP hD hS h => ?_)
        obtain ⟨hu_, h⟩ := h
        rw [hu_] at hP hD
        refine lv_if_ne (pc := 31) (tgt := 36) hx hb dX6_cross_31 (by decide) (fun c7 => ?_) (fun c7 => ?_)
        · have h := h.1 c7
          refine lv_aload_n (pc := 36) hx hb dX6_cross_36 rfl (lv_at hl 0 rfl) ?_
          refine fg6_25 (pc := 37) (b := 4) hx hb hown hts hK hP rfl rfl dX6_cross_37 ?_
          refine lv_iload_n (pc := 40) hx hb dX6_cross_40 rfl (lv_at hl 1 rfl) ?_
          refine lv_iload_n (pc := 41) hx hb dX6_cross_41 rfl (lv_at hl 2 rfl) ?_
          refine lv_iload_n (pc := 42) hx hb dX6_cross_42 rfl (lv_at hl 3 rfl) ?_
          refine kx_iVi (pc := 43) [.int x1, .int x2, .int x3] hx hb hml hown hts hK hP hD hS (q3_crossLift h) (cw6_225 hts ⟨Nat.le_of_ble_eq_true rfl, Nat.le_of_ble_eq_true rfl⟩) rfl (by decide) rfl rfl hl.1 rfl (Nat.le_of_ble_eq_true rfl) ⟨Nat.le_of_ble_eq_true rfl, Nat.le_of_ble_eq_true rfl⟩ dX6_cross_43 (fun r8 u_ H locs hP hD hS h => ?_)
          obtain ⟨hu_, h⟩ := h
          rw [hu_] at hP hD
          exact kx_iret (pc := 46) hx hb hr hlocks hK hP hD hS ⟨rfl, h⟩ dX6_cross_46
        · have h := h.2 c7
          refine lv_iconst (pc := 34) (v := (-1 : Int32)) hx hb dX6_cross_34 (by decide) ?_
          exact kx_iret (pc := 35) hx hb hr hlocks hK hP hD hS ⟨rfl, h⟩ dX6_cross_35
def p6_crossed_L59 : Nat → kx_St → Int32 → Int32 → Int32 → Int32 → Int32 → Int32 → (kx_St → Int32 → Int32 → Int32 → Int32 → Int32 → Prop) → (kx_St → Int32 → Prop) → Prop
  | 0, _, _, _, _, _, _, _, _, _ => False
  | n + 1, σ, x1, x2, x3, x4, x5, x6, k41, Q => ((σ.1 4 3) ≤ x6 → k41 σ x1 x2 x3 x4 (x5 + (1 : Int32))) ∧ (¬ (σ.1 4 3) ≤ x6 → p3_crossLift σ 4 x5 x6 x2 (fun r2 => (¬ r2 = x1 → p6_crossed_L59 n σ x1 x2 x3 x4 x5 (x6 + (1 : Int32)) k41 Q) ∧ (r2 = x1 → (¬ x3 = 0 → p6_crossed_L59 n σ x1 x2 (x3 + (1 : Int32)) x4 x5 (x6 + (1 : Int32)) k41 Q) ∧ (x3 = 0 → p6_crossed_L59 n σ x1 x2 (x3 + (1 : Int32)) (((10 : Int32) * x5) + x6) x5 (x6 + (1 : Int32)) k41 Q))))
set_option maxHeartbeats 4000000 in
theorem w6_crossed_L59 {k41 : kx_St → Int32 → Int32 → Int32 → Int32 → Int32 → Prop} {Q : kx_St → Int32 → Prop} (cx : kx_Cx p s m args meth c D cy RX6 cX6_crossed 7 (some .int)) (hk41 : ∀ (σ : kx_St) (x1 : Int32) (x2 : Int32) (x3 : Int32) (x4 : Int32) (x5 : Int32) (H : Heap) (locs : List Loc) (ls : Array Slot), k41 σ x1 x2 x3 x4 x5 → va_P D vwCl (kx_ws cy 0 ad σ) H → va_D A (kx_ws cy 0 ad σ) → va_S A s.heap H locs → lv_has ls 7 [(0, .ref (ad 0)), (1, .int x1), (2, .int x2), (3, .int x3), (4, .int x4), (5, .int x5)] → W p l e rm6_crossed s m args below meth c H locs 0 0 (MQ below (kx_Qc kx_ci Q (kx_Wd D cy 0 ad A) A) args s 0 0 A) (F0 m 41 ls [])) : ∀ (n : Nat) (σ : kx_St) (x1 : Int32) (x2 : Int32) (x3 : Int32) (x4 : Int32) (x5 : Int32) (x6 : Int32) (H : Heap) (locs : List Loc) (ls : Array Slot), p6_crossed_L59 n σ x1 x2 x3 x4 x5 x6 k41 Q → va_P D vwCl (kx_ws cy 0 ad σ) H → va_D A (kx_ws cy 0 ad σ) → va_S A s.heap H locs → lv_has ls 7 [(0, .ref (ad 0)), (1, .int x1), (2, .int x2), (3, .int x3), (4, .int x4), (5, .int x5), (6, .int x6)] → W p l e rm6_crossed s m args below meth c H locs 0 0 (MQ below (kx_Qc kx_ci Q (kx_Wd D cy 0 ad A) A) args s 0 0 A) (F0 m 59 ls []) := by
  obtain ⟨hx, hb, hr, hlocks, hml, hown, hts, hK⟩ := id cx
  intro n
  induction n with
  | zero => intro _ _ _ _ _ _ _ _ _ _ h; exact False.elim h
  | succ n ih =>
    intro σ x1 x2 x3 x4 x5 x6 H locs ls h hP hD hS hl
    refine lv_iload (pc := 59) hx hb dX6_crossed_59 (lv_at hl 6 rfl) ?_
    refine lv_aload_n (pc := 61) hx hb dX6_crossed_61 rfl (lv_at hl 0 rfl) ?_
    refine fg6_25 (pc := 62) (b := 4) hx hb hown hts hK hP rfl rfl dX6_crossed_62 ?_
    refine fg6_128 (pc := 65) hx hb hown hts hK hP rfl dX6_crossed_65 ?_
    refine lv_icmp_ge (pc := 68) (tgt := 115) hx hb dX6_crossed_68 (by decide) (fun c1 => ?_) (fun c1 => ?_)
    · have h := h.1 c1
      refine lv_iinc (pc := 115) (v := (x5 + (1 : Int32))) (lv' := [(5, .int (x5 + (1 : Int32))), (0, .ref (ad 0)), (1, .int x1), (2, .int x2), (3, .int x3), (4, .int x4), (6, .int x6)]) hx hb dX6_crossed_115 hl (k := 5) rfl rfl (by decide) rfl (fun ls hl => ?_)
      refine lv_goto (pc := 118) (tgt := 41) hx hb dX6_crossed_118 (by decide) ?_
      exact hk41 _ _ _ _ _ _ _ _ _ h hP hD hS (lv_sub hl [1, 2, 3, 4, 5, 0] rfl)
    · have h := h.2 c1
      refine lv_aload_n (pc := 71) hx hb dX6_crossed_71 rfl (lv_at hl 0 rfl) ?_
      refine fg6_25 (pc := 72) (b := 4) hx hb hown hts hK hP rfl rfl dX6_crossed_72 ?_
      refine lv_iload (pc := 75) hx hb dX6_crossed_75 (lv_at hl 5 rfl) ?_
      refine lv_iload (pc := 77) hx hb dX6_crossed_77 (lv_at hl 6 rfl) ?_
      refine lv_iload_n (pc := 79) hx hb dX6_crossed_79 rfl (lv_at hl 2 rfl) ?_
      refine kx_iVi (pc := 80) [.int x5, .int x6, .int x2] hx hb hml hown hts hK hP hD hS (q3_crossLift h) (cw6_225 hts ⟨Nat.le_of_ble_eq_true rfl, Nat.le_of_ble_eq_true rfl⟩) rfl (by decide) rfl rfl hl.1 rfl (Nat.le_of_ble_eq_true rfl) ⟨Nat.le_of_ble_eq_true rfl, Nat.le_of_ble_eq_true rfl⟩ dX6_crossed_80 (fun r2 u_ H locs hP hD hS h => ?_)
      obtain ⟨hu_, h⟩ := h
      rw [hu_] at hP hD
      refine lv_iload_n (pc := 83) hx hb dX6_crossed_83 rfl (lv_at hl 1 rfl) ?_
      refine lv_icmp_ne (pc := 84) (tgt := 109) hx hb dX6_crossed_84 (by decide) (fun c3 => ?_) (fun c3 => ?_)
      · have h := h.1 c3
        refine lv_iinc (pc := 109) (v := (x6 + (1 : Int32))) (lv' := [(6, .int (x6 + (1 : Int32))), (0, .ref (ad 0)), (1, .int x1), (2, .int x2), (3, .int x3), (4, .int x4), (5, .int x5)]) hx hb dX6_crossed_109 hl (k := 6) rfl rfl (by decide) rfl (fun ls hl => ?_)
        refine lv_goto (pc := 112) (tgt := 59) hx hb dX6_crossed_112 (by decide) ?_
        exact ih _ _ _ _ _ _ _ _ _ _ h hP hD hS (lv_sub hl [1, 2, 3, 4, 5, 6, 0] rfl)
      · have h := h.2 c3
        refine lv_iload_n (pc := 87) hx hb dX6_crossed_87 rfl (lv_at hl 3 rfl) ?_
        refine lv_if_ne (pc := 88) (tgt := 102) hx hb dX6_crossed_88 (by decide) (fun c4 => ?_) (fun c4 => ?_)
        · have h := h.1 c4
          refine lv_iload (pc := 102) hx hb dX6_crossed_102 (lv_at hl 4 rfl) ?_
          refine lv_istore (pc := 104) (lv' := [(4, .int x4), (0, .ref (ad 0)), (1, .int x1), (2, .int x2), (3, .int x3), (5, .int x5), (6, .int x6)]) hx hb dX6_crossed_104 hl (by decide) rfl (fun ls hl => ?_)
          refine lv_iinc (pc := 106) (v := (x3 + (1 : Int32))) (lv' := [(3, .int (x3 + (1 : Int32))), (4, .int x4), (0, .ref (ad 0)), (1, .int x1), (2, .int x2), (5, .int x5), (6, .int x6)]) hx hb dX6_crossed_106 hl (k := 4) rfl rfl (by decide) rfl (fun ls hl => ?_)
          refine lv_iinc (pc := 109) (v := (x6 + (1 : Int32))) (lv' := [(6, .int (x6 + (1 : Int32))), (3, .int (x3 + (1 : Int32))), (4, .int x4), (0, .ref (ad 0)), (1, .int x1), (2, .int x2), (5, .int x5)]) hx hb dX6_crossed_109 hl (k := 6) rfl rfl (by decide) rfl (fun ls hl => ?_)
          refine lv_goto (pc := 112) (tgt := 59) hx hb dX6_crossed_112 (by decide) ?_
          exact ih _ _ _ _ _ _ _ _ _ _ h hP hD hS (lv_sub hl [3, 4, 5, 1, 2, 6, 0] rfl)
        · have h := h.2 c4
          refine lv_bipush (pc := 91) (v := (10 : Int32)) hx hb dX6_crossed_91 (by decide) ?_
          refine lv_iload (pc := 93) hx hb dX6_crossed_93 (lv_at hl 5 rfl) ?_
          refine lv_imul (pc := 95) hx hb dX6_crossed_95 ?_
          refine lv_iload (pc := 96) hx hb dX6_crossed_96 (lv_at hl 6 rfl) ?_
          refine lv_iadd (pc := 98) hx hb dX6_crossed_98 ?_
          refine lv_goto (pc := 99) (tgt := 104) hx hb dX6_crossed_99 (by decide) ?_
          refine lv_istore (pc := 104) (lv' := [(4, .int (((10 : Int32) * x5) + x6)), (0, .ref (ad 0)), (1, .int x1), (2, .int x2), (3, .int x3), (5, .int x5), (6, .int x6)]) hx hb dX6_crossed_104 hl (by decide) rfl (fun ls hl => ?_)
          refine lv_iinc (pc := 106) (v := (x3 + (1 : Int32))) (lv' := [(3, .int (x3 + (1 : Int32))), (4, .int (((10 : Int32) * x5) + x6)), (0, .ref (ad 0)), (1, .int x1), (2, .int x2), (5, .int x5), (6, .int x6)]) hx hb dX6_crossed_106 hl (k := 4) rfl rfl (by decide) rfl (fun ls hl => ?_)
          refine lv_iinc (pc := 109) (v := (x6 + (1 : Int32))) (lv' := [(6, .int (x6 + (1 : Int32))), (3, .int (x3 + (1 : Int32))), (4, .int (((10 : Int32) * x5) + x6)), (0, .ref (ad 0)), (1, .int x1), (2, .int x2), (5, .int x5)]) hx hb dX6_crossed_109 hl (k := 6) rfl rfl (by decide) rfl (fun ls hl => ?_)
          refine lv_goto (pc := 112) (tgt := 59) hx hb dX6_crossed_112 (by decide) ?_
          exact ih _ _ _ _ _ _ _ _ _ _ h hP hD hS (lv_sub hl [3, 4, 5, 1, 2, 6, 0] rfl)
def p6_crossed_L41 : Nat → kx_St → Int32 → Int32 → Int32 → Int32 → Int32 → (kx_St → Int32 → Prop) → Prop
  | 0, _, _, _, _, _, _, _ => False
  | n + 1, σ, x1, x2, x3, x4, x5, Q => ((σ.1 4 3) ≤ x5 → (¬ x3 = 0 → (fun σ3 : kx_St => Q σ3 x3) (kx_sI σ 0 10 x4)) ∧ (x3 = 0 → Q σ (-9 : Int32))) ∧ (¬ (σ.1 4 3) ≤ x5 → ∃ m59, p6_crossed_L59 m59 σ x1 x2 x3 x4 x5 (x5 + (1 : Int32)) (fun σ x1 x2 x3 x4 x5 => p6_crossed_L41 n σ x1 x2 x3 x4 x5 Q) Q)
set_option maxHeartbeats 4000000 in
theorem w6_crossed_L41  {Q : kx_St → Int32 → Prop} (cx : kx_Cx p s m args meth c D cy RX6 cX6_crossed 7 (some .int))  : ∀ (n : Nat) (σ : kx_St) (x1 : Int32) (x2 : Int32) (x3 : Int32) (x4 : Int32) (x5 : Int32) (H : Heap) (locs : List Loc) (ls : Array Slot), p6_crossed_L41 n σ x1 x2 x3 x4 x5 Q → va_P D vwCl (kx_ws cy 0 ad σ) H → va_D A (kx_ws cy 0 ad σ) → va_S A s.heap H locs → lv_has ls 7 [(0, .ref (ad 0)), (1, .int x1), (2, .int x2), (3, .int x3), (4, .int x4), (5, .int x5)] → W p l e rm6_crossed s m args below meth c H locs 0 0 (MQ below (kx_Qc kx_ci Q (kx_Wd D cy 0 ad A) A) args s 0 0 A) (F0 m 41 ls []) := by
  obtain ⟨hx, hb, hr, hlocks, hml, hown, hts, hK⟩ := id cx
  intro n
  induction n with
  | zero => intro _ _ _ _ _ _ _ _ _ h; exact False.elim h
  | succ n ih =>
    intro σ x1 x2 x3 x4 x5 H locs ls h hP hD hS hl
    refine lv_iload (pc := 41) hx hb dX6_crossed_41 (lv_at hl 5 rfl) ?_
    refine lv_aload_n (pc := 43) hx hb dX6_crossed_43 rfl (lv_at hl 0 rfl) ?_
    refine fg6_25 (pc := 44) (b := 4) hx hb hown hts hK hP rfl rfl dX6_crossed_44 ?_
    refine fg6_128 (pc := 47) hx hb hown hts hK hP rfl dX6_crossed_47 ?_
    refine lv_icmp_ge (pc := 50) (tgt := 121) hx hb dX6_crossed_50 (by decide) (fun c1 => ?_) (fun c1 => ?_)
    · have h := h.1 c1
      refine lv_iload_n (pc := 121) hx hb dX6_crossed_121 rfl (lv_at hl 3 rfl) ?_
      refine lv_if_ne (pc := 122) (tgt := 128) hx hb dX6_crossed_122 (by decide) (fun c2 => ?_) (fun c2 => ?_)
      · have h := h.1 c2
        refine lv_aload_n (pc := 128) hx hb dX6_crossed_128 rfl (lv_at hl 0 rfl) ?_
        refine lv_iload (pc := 129) hx hb dX6_crossed_129 (lv_at hl 4 rfl) ?_
        refine fp6_61 (pc := 131) hx hb hown hts hK hP hD hS rfl dX6_crossed_131 (fun H locs hP hD hS => ?_)
        refine lv_iload_n (pc := 134) hx hb dX6_crossed_134 rfl (lv_at hl 3 rfl) ?_
        exact kx_iret (pc := 135) hx hb hr hlocks hK hP hD hS h dX6_crossed_135
      · have h := h.2 c2
        refine lv_bipush (pc := 125) (v := (-9 : Int32)) hx hb dX6_crossed_125 (by decide) ?_
        exact kx_iret (pc := 127) hx hb hr hlocks hK hP hD hS h dX6_crossed_127
    · have h := h.2 c1
      refine lv_iload (pc := 53) hx hb dX6_crossed_53 (lv_at hl 5 rfl) ?_
      refine lv_iconst (pc := 55) (v := (1 : Int32)) hx hb dX6_crossed_55 (by decide) ?_
      refine lv_iadd (pc := 56) hx hb dX6_crossed_56 ?_
      refine lv_istore (pc := 57) (lv' := [(6, .int (x5 + (1 : Int32))), (0, .ref (ad 0)), (1, .int x1), (2, .int x2), (3, .int x3), (4, .int x4), (5, .int x5)]) hx hb dX6_crossed_57 hl (by decide) rfl (fun ls hl => ?_)
      have hc4 : ∀ (σ : kx_St) (x1 : Int32) (x2 : Int32) (x3 : Int32) (x4 : Int32) (x5 : Int32) (H : Heap) (locs : List Loc) (ls : Array Slot), (fun σ x1 x2 x3 x4 x5 => p6_crossed_L41 n σ x1 x2 x3 x4 x5 Q) σ x1 x2 x3 x4 x5 → va_P D vwCl (kx_ws cy 0 ad σ) H → va_D A (kx_ws cy 0 ad σ) → va_S A s.heap H locs → lv_has ls 7 [(0, .ref (ad 0)), (1, .int x1), (2, .int x2), (3, .int x3), (4, .int x4), (5, .int x5)] → W p l e rm6_crossed s m args below meth c H locs 0 0 (MQ below (kx_Qc kx_ci Q (kx_Wd D cy 0 ad A) A) args s 0 0 A) (F0 m 41 ls []) := fun σ x1 x2 x3 x4 x5 H locs ls h hP hD hS hl => ih _ _ _ _ _ _ _ _ _ h hP hD hS hl
      obtain ⟨n0, h⟩ := h
      exact w6_crossed_L59 cx hc4 n0 _ _ _ _ _ _ _ _ _ _ h hP hD hS (lv_sub hl [1, 2, 3, 4, 5, 6, 0] rfl)
def p6_crossed (σ : kx_St) (x1 : Int32) (x2 : Int32) (Q : kx_St → Int32 → Prop) : Prop := (x1 < 0 → Q σ (-1 : Int32)) ∧ (¬ x1 < 0 → ((200 : Int32) < x1 → Q σ (-1 : Int32)) ∧ (¬ (200 : Int32) < x1 → p6_isWind x2 (fun r3 => (¬ r3 = 0 → p3_isEmpty σ 4 (fun r5 => (r5 = 0 → ∃ m41, p6_crossed_L41 m41 σ x1 x2 (0 : Int32) (0 : Int32) (0 : Int32) Q) ∧ (¬ r5 = 0 → Q σ (-4 : Int32)))) ∧ (r3 = 0 → Q σ (-1 : Int32)))))
set_option maxHeartbeats 4000000 in
theorem q6_crossed {σ : kx_St} {x1 : Int32} {x2 : Int32} {Q : kx_St → Int32 → Prop} (h : p6_crossed σ x1 x2 Q) : Met l yX6_crossed (Cond.code yX6_crossed cX6_crossed 7 (some .int) :: kx_big) rm6_crossed (va_Pc [.ref (ad 0), .int x1, .int x2] (kx_Wd D cy 0 ad A σ)) (kx_Qc kx_ci Q (kx_Wd D cy 0 ad A) A) 0 0 A := by
  refine kx_head (plainFor_of_name (by decide)) (Nat.le_of_ble_eq_true rfl) ?_
  intro p e s m below meth c ls cx hP hD hS hl
  obtain ⟨hx, hb, hr, hlocks, hml, hown, hts, hK⟩ := id cx
  have hl : lv_has ls 7 [(0, .ref (ad 0)), (1, .int x1), (2, .int x2)] := hl
  refine lv_iload_n (pc := 0) hx hb dX6_crossed_0 rfl (lv_at hl 1 rfl) ?_
  refine lv_if_lt (pc := 1) (tgt := 18) hx hb dX6_crossed_1 (by decide) (fun c1 => ?_) (fun c1 => ?_)
  · have h := h.1 c1
    refine lv_iconst (pc := 18) (v := (-1 : Int32)) hx hb dX6_crossed_18 (by decide) ?_
    exact kx_iret (pc := 19) hx hb hr hlocks hK hP hD hS h dX6_crossed_19
  · have h := h.2 c1
    refine lv_iload_n (pc := 4) hx hb dX6_crossed_4 rfl (lv_at hl 1 rfl) ?_
    refine lv_sipush (pc := 5) (v := (200 : Int32)) hx hb dX6_crossed_5 (by decide) ?_
    refine lv_icmp_gt (pc := 8) (tgt := 18) hx hb dX6_crossed_8 (by decide) (fun c2 => ?_) (fun c2 => ?_)
    · have h := h.1 c2
      refine lv_iconst (pc := 18) (v := (-1 : Int32)) hx hb dX6_crossed_18 (by decide) ?_
      exact kx_iret (pc := 19) hx hb hr hlocks hK hP hD hS h dX6_crossed_19
    · have h := h.2 c2
      refine lv_iload_n (pc := 11) hx hb dX6_crossed_11 rfl (lv_at hl 2 rfl) ?_
      refine kx_iSi (pc := 12) [.int x2] hx hb hml hown hts hK hP hD hS (q6_isWind h) (cw6_167 hts ⟨Nat.le_of_ble_eq_true rfl, Nat.le_of_ble_eq_true rfl⟩) rfl hl.1 rfl (Nat.le_of_ble_eq_true rfl) ⟨Nat.le_of_ble_eq_true rfl, Nat.le_of_ble_eq_true rfl⟩ dX6_crossed_12 (fun r3 u_ H locs hP hD hS h => ?_)
      obtain ⟨hu_, h⟩ := h
      rw [hu_] at hP hD
      refine lv_if_ne (pc := 15) (tgt := 20) hx hb dX6_crossed_15 (by decide) (fun c4 => ?_) (fun c4 => ?_)
      · have h := h.1 c4
        refine lv_aload_n (pc := 20) hx hb dX6_crossed_20 rfl (lv_at hl 0 rfl) ?_
        refine fg6_25 (pc := 21) (b := 4) hx hb hown hts hK hP rfl rfl dX6_crossed_21 ?_
        refine kx_iVi (pc := 24) [] hx hb hml hown hts hK hP hD hS (q3_isEmpty h) (cw6_188 hts ⟨Nat.le_of_ble_eq_true rfl, Nat.le_of_ble_eq_true rfl⟩) rfl (by decide) rfl rfl hl.1 rfl (Nat.le_of_ble_eq_true rfl) ⟨Nat.le_of_ble_eq_true rfl, Nat.le_of_ble_eq_true rfl⟩ dX6_crossed_24 (fun r5 u_ H locs hP hD hS h => ?_)
        obtain ⟨hu_, h⟩ := h
        rw [hu_] at hP hD
        refine lv_if_eq (pc := 27) (tgt := 33) hx hb dX6_crossed_27 (by decide) (fun c6 => ?_) (fun c6 => ?_)
        · have h := h.1 c6
          refine lv_iconst (pc := 33) (v := (0 : Int32)) hx hb dX6_crossed_33 (by decide) ?_
          refine lv_istore_n (pc := 34) (lv' := [(3, .int (0 : Int32)), (0, .ref (ad 0)), (1, .int x1), (2, .int x2)]) hx hb dX6_crossed_34 rfl hl (by decide) rfl (fun ls hl => ?_)
          refine lv_iconst (pc := 35) (v := (0 : Int32)) hx hb dX6_crossed_35 (by decide) ?_
          refine lv_istore (pc := 36) (lv' := [(4, .int (0 : Int32)), (3, .int (0 : Int32)), (0, .ref (ad 0)), (1, .int x1), (2, .int x2)]) hx hb dX6_crossed_36 hl (by decide) rfl (fun ls hl => ?_)
          refine lv_iconst (pc := 38) (v := (0 : Int32)) hx hb dX6_crossed_38 (by decide) ?_
          refine lv_istore (pc := 39) (lv' := [(5, .int (0 : Int32)), (4, .int (0 : Int32)), (3, .int (0 : Int32)), (0, .ref (ad 0)), (1, .int x1), (2, .int x2)]) hx hb dX6_crossed_39 hl (by decide) rfl (fun ls hl => ?_)
          obtain ⟨n0, h⟩ := h
          exact w6_crossed_L41 cx  n0 _ _ _ _ _ _ _ _ _ h hP hD hS (lv_sub hl [3, 4, 5, 2, 1, 0] rfl)
        · have h := h.2 c6
          refine lv_bipush (pc := 30) (v := (-4 : Int32)) hx hb dX6_crossed_30 (by decide) ?_
          exact kx_iret (pc := 32) hx hb hr hlocks hK hP hD hS h dX6_crossed_32
      · have h := h.2 c4
        refine lv_iconst (pc := 18) (v := (-1 : Int32)) hx hb dX6_crossed_18 (by decide) ?_
        exact kx_iret (pc := 19) hx hb hr hlocks hK hP hD hS h dX6_crossed_19
def p6_merge (σ : kx_St) (x1 : Int32) (x2 : Int32) (Q : kx_St → Int32 → Prop) : Prop := p6_pick σ 1 x2 (fun o1 => (o1 = none → Q σ (-1 : Int32)) ∧ (∀ b2, o1 = some b2 → kx_k 0 b2 = 5 ∧ (p6_isWind x1 (fun r3 => (¬ r3 = 0 → p3_isEmpty σ 4 (fun r5 => (r5 = 0 → p2_weigh σ 27 4 x1 (fun σ8 r7 => p2_tellFirst σ8 27 4 x1 b2 (fun σ10 => Q σ10 r7))) ∧ (¬ r5 = 0 → Q σ (-4 : Int32)))) ∧ (r3 = 0 → Q σ (-1 : Int32))))))
set_option maxHeartbeats 4000000 in
theorem q6_merge {σ : kx_St} {x1 : Int32} {x2 : Int32} {Q : kx_St → Int32 → Prop} (h : p6_merge σ x1 x2 Q) : Met l yX6_merge (Cond.code yX6_merge cX6_merge 5 (some .int) :: kx_big) rm6_merge (va_Pc [.ref (ad 0), .int x1, .int x2] (kx_Wd D cy 0 ad A σ)) (kx_Qc kx_ci Q (kx_Wd D cy 0 ad A) A) 0 0 A := by
  refine kx_head (plainFor_of_name (by decide)) (Nat.le_of_ble_eq_true rfl) ?_
  intro p e s m below meth c ls cx hP hD hS hl
  obtain ⟨hx, hb, hr, hlocks, hml, hown, hts, hK⟩ := id cx
  have hl : lv_has ls 5 [(0, .ref (ad 0)), (1, .int x1), (2, .int x2)] := hl
  refine lv_aload_n (pc := 0) hx hb dX6_merge_0 rfl (lv_at hl 0 rfl) ?_
  refine fg6_11 (pc := 1) (b := 1) hx hb hown hts hK hP rfl rfl dX6_merge_1 ?_
  refine lv_iload_n (pc := 4) hx hb dX6_merge_4 rfl (lv_at hl 2 rfl) ?_
  refine kx_iSr (pc := 5) [.ref (ad 1), .int x2] hx hb hml hown hts hK hP hD hS (q6_pick h) (cw6_74 hts ⟨Nat.le_of_ble_eq_true rfl, Nat.le_of_ble_eq_true rfl⟩) rfl hl.1 rfl (Nat.le_of_ble_eq_true rfl) ⟨Nat.le_of_ble_eq_true rfl, Nat.le_of_ble_eq_true rfl⟩ dX6_merge_5 (fun o1 u_ H locs hP hD hS h => ?_)
  obtain ⟨hu_, h⟩ := h
  rw [hu_] at hP hD
  rcases o1 with _ | b2
  · have h := h.1 rfl
    refine lv_astore_nN (pc := 8) (lv' := [(3, .null), (0, .ref (ad 0)), (1, .int x1), (2, .int x2)]) hx hb dX6_merge_8 rfl hl (by decide) rfl (fun ls hl => ?_)
    refine lv_aload_nN (pc := 9) hx hb dX6_merge_9 rfl (lv_at hl 0 rfl) ?_
    refine lv_ifnullN (pc := 10) (tgt := 20) hx hb dX6_merge_10 (by decide) ?_
    refine lv_iconst (pc := 20) (v := (-1 : Int32)) hx hb dX6_merge_20 (by decide) ?_
    exact kx_iret (pc := 21) hx hb hr hlocks hK hP hD hS h dX6_merge_21
  · obtain ⟨hk_b2, h⟩ := h.2 b2 rfl
    refine lv_astore_n (pc := 8) (lv' := [(3, .ref (ad b2)), (0, .ref (ad 0)), (1, .int x1), (2, .int x2)]) hx hb dX6_merge_8 rfl hl (by decide) rfl (fun ls hl => ?_)
    refine lv_aload_n (pc := 9) hx hb dX6_merge_9 rfl (lv_at hl 0 rfl) ?_
    refine lv_ifnull (pc := 10) hx hb dX6_merge_10 ?_
    refine lv_iload_n (pc := 13) hx hb dX6_merge_13 rfl (lv_at hl 2 rfl) ?_
    refine kx_iSi (pc := 14) [.int x1] hx hb hml hown hts hK hP hD hS (q6_isWind h) (cw6_167 hts ⟨Nat.le_of_ble_eq_true rfl, Nat.le_of_ble_eq_true rfl⟩) rfl hl.1 rfl (Nat.le_of_ble_eq_true rfl) ⟨Nat.le_of_ble_eq_true rfl, Nat.le_of_ble_eq_true rfl⟩ dX6_merge_14 (fun r3 u_ H locs hP hD hS h => ?_)
    obtain ⟨hu_, h⟩ := h
    rw [hu_] at hP hD
    refine lv_if_ne (pc := 17) (tgt := 22) hx hb dX6_merge_17 (by decide) (fun c4 => ?_) (fun c4 => ?_)
    · have h := h.1 c4
      refine lv_aload_n (pc := 22) hx hb dX6_merge_22 rfl (lv_at hl 1 rfl) ?_
      refine fg6_25 (pc := 23) (b := 4) hx hb hown hts hK hP rfl rfl dX6_merge_23 ?_
      refine kx_iVi (pc := 26) [] hx hb hml hown hts hK hP hD hS (q3_isEmpty h) (cw6_188 hts ⟨Nat.le_of_ble_eq_true rfl, Nat.le_of_ble_eq_true rfl⟩) rfl (by decide) rfl rfl hl.1 rfl (Nat.le_of_ble_eq_true rfl) ⟨Nat.le_of_ble_eq_true rfl, Nat.le_of_ble_eq_true rfl⟩ dX6_merge_26 (fun r5 u_ H locs hP hD hS h => ?_)
      obtain ⟨hu_, h⟩ := h
      rw [hu_] at hP hD
      refine lv_if_eq (pc := 29) (tgt := 35) hx hb dX6_merge_29 (by decide) (fun c6 => ?_) (fun c6 => ?_)
      · have h := h.1 c6
        refine lv_aload_n (pc := 35) hx hb dX6_merge_35 rfl (lv_at hl 1 rfl) ?_
        refine fg6_49 (pc := 36) (b := 27) hx hb hown hts hK hP rfl rfl dX6_merge_36 ?_
        refine lv_aload_n (pc := 39) hx hb dX6_merge_39 rfl (lv_at hl 1 rfl) ?_
        refine fg6_25 (pc := 40) (b := 4) hx hb hown hts hK hP rfl rfl dX6_merge_40 ?_
        refine lv_iload_n (pc := 43) hx hb dX6_merge_43 rfl (lv_at hl 2 rfl) ?_
        refine kx_iVi (pc := 44) [.ref (ad 4), .int x1] hx hb hml hown hts hK hP hD hS (q2_weigh h) (cw6_228 hts ⟨Nat.le_of_ble_eq_true rfl, Nat.le_of_ble_eq_true rfl⟩) rfl (by decide) rfl rfl hl.1 rfl (Nat.le_of_ble_eq_true rfl) ⟨Nat.le_of_ble_eq_true rfl, Nat.le_of_ble_eq_true rfl⟩ dX6_merge_44 (fun r7 σ8 H locs hP hD hS h => ?_)
        refine lv_istore (pc := 47) (lv' := [(4, .int r7), (3, .ref (ad b2)), (0, .ref (ad 0)), (1, .int x1), (2, .int x2)]) hx hb dX6_merge_47 hl (by decide) rfl (fun ls hl => ?_)
        refine lv_aload_n (pc := 49) hx hb dX6_merge_49 rfl (lv_at hl 2 rfl) ?_
        refine fg6_49 (pc := 50) (b := 27) hx hb hown hts hK hP rfl rfl dX6_merge_50 ?_
        refine lv_aload_n (pc := 53) hx hb dX6_merge_53 rfl (lv_at hl 2 rfl) ?_
        refine fg6_25 (pc := 54) (b := 4) hx hb hown hts hK hP rfl rfl dX6_merge_54 ?_
        refine lv_iload_n (pc := 57) hx hb dX6_merge_57 rfl (lv_at hl 3 rfl) ?_
        refine lv_aload_n (pc := 58) hx hb dX6_merge_58 rfl (lv_at hl 1 rfl) ?_
        refine kx_iVv (pc := 59) [.ref (ad 4), .int x1, .ref (ad b2)] hx hb hml hown hts hK hP hD hS (q2_tellFirst h) (cw6_231 hts ⟨Nat.le_of_ble_eq_true rfl, Nat.le_of_ble_eq_true rfl⟩) rfl (by decide) rfl rfl hl.1 rfl (Nat.le_of_ble_eq_true rfl) ⟨Nat.le_of_ble_eq_true rfl, Nat.le_of_ble_eq_true rfl⟩ dX6_merge_59 (fun _ σ10 H locs hP hD hS h => ?_)
        refine lv_iload (pc := 62) hx hb dX6_merge_62 (lv_at hl 0 rfl) ?_
        exact kx_iret (pc := 64) hx hb hr hlocks hK hP hD hS h dX6_merge_64
      · have h := h.2 c6
        refine lv_bipush (pc := 32) (v := (-4 : Int32)) hx hb dX6_merge_32 (by decide) ?_
        exact kx_iret (pc := 34) hx hb hr hlocks hK hP hD hS h dX6_merge_34
    · have h := h.2 c4
      refine lv_iconst (pc := 20) (v := (-1 : Int32)) hx hb dX6_merge_20 (by decide) ?_
      exact kx_iret (pc := 21) hx hb hr hlocks hK hP hD hS h dX6_merge_21
def p6_findingOfPairs_L22 : Nat → kx_St → Nat → Int32 → (Int32 → Prop) → Prop
  | 0, _, _, _, _ => False
  | n + 1, σ, x0, x1, Q => ((σ.1 x0 1) ≤ x1 → Q (0 : Int32)) ∧ (¬ (σ.1 x0 1) ≤ x1 → p5_get σ x0 (x1 + (1 : Int32)) (fun r2 => p5_get σ x0 x1 (fun r3 => p6_isWind r3 (fun r4 => (r4 = 0 → Q (3 : Int32)) ∧ (¬ r4 = 0 → (r2 < 0 → Q (3 : Int32)) ∧ (¬ r2 < 0 → (r2 ≤ (99 : Int32) → p6_findingOfPairs_L22 n σ x0 (x1 + (2 : Int32)) Q) ∧ (¬ r2 ≤ (99 : Int32) → Q (3 : Int32))))))))
set_option maxHeartbeats 4000000 in
theorem w6_findingOfPairs_L22 {σ : kx_St}  {Q : Int32 → Prop} (cx : kx_Cx p s m args meth c D cy RX6 cX6_findingOfPairs 3 (some .int))  : ∀ (n : Nat) (x0 : Nat) (x1 : Int32) (H : Heap) (locs : List Loc) (ls : Array Slot), kx_k 0 x0 = 5 → p6_findingOfPairs_L22 n σ x0 x1 Q → va_P D vwCl (kx_ws cy 0 ad σ) H → va_D A (kx_ws cy 0 ad σ) → va_S A s.heap H locs → lv_has ls 3 [(0, .ref (ad x0)), (1, .int x1)] → W p l e rm6_findingOfPairs s m args below meth c H locs 0 0 (MQ below (kx_Qc kx_ci (fun u r => u = σ ∧ Q r) (kx_Wd D cy 0 ad A) A) args s 0 0 A) (F0 m 22 ls []) := by
  obtain ⟨hx, hb, hr, hlocks, hml, hown, hts, hK⟩ := id cx
  intro n
  induction n with
  | zero => intro _ _ _ _ _ _ h; exact False.elim h
  | succ n ih =>
    intro x0 x1 H locs ls hk_x0 h hP hD hS hl
    refine lv_iload_n (pc := 22) hx hb dX6_findingOfPairs_22 rfl (lv_at hl 1 rfl) ?_
    refine lv_aload_n (pc := 23) hx hb dX6_findingOfPairs_23 rfl (lv_at hl 0 rfl) ?_
    refine fg6_117 (pc := 24) hx hb hown hts hK hP hk_x0 dX6_findingOfPairs_24 ?_
    refine lv_icmp_ge (pc := 27) (tgt := 67) hx hb dX6_findingOfPairs_27 (by decide) (fun c1 => ?_) (fun c1 => ?_)
    · have h := h.1 c1
      refine lv_iconst (pc := 67) (v := (0 : Int32)) hx hb dX6_findingOfPairs_67 (by decide) ?_
      exact kx_iret (pc := 68) hx hb hr hlocks hK hP hD hS ⟨rfl, h⟩ dX6_findingOfPairs_68
    · have h := h.2 c1
      refine lv_aload_n (pc := 30) hx hb dX6_findingOfPairs_30 rfl (lv_at hl 0 rfl) ?_
      refine lv_iload_n (pc := 31) hx hb dX6_findingOfPairs_31 rfl (lv_at hl 1 rfl) ?_
      refine lv_iconst (pc := 32) (v := (1 : Int32)) hx hb dX6_findingOfPairs_32 (by decide) ?_
      refine lv_iadd (pc := 33) hx hb dX6_findingOfPairs_33 ?_
      refine kx_iVi (pc := 34) [.int (x1 + (1 : Int32))] hx hb hml hown hts hK hP hD hS (q5_get h) (cw6_94 hts ⟨Nat.le_of_ble_eq_true rfl, Nat.le_of_ble_eq_true rfl⟩) hk_x0 (by decide) rfl rfl hl.1 rfl (Nat.le_of_ble_eq_true rfl) ⟨Nat.le_of_ble_eq_true rfl, Nat.le_of_ble_eq_true rfl⟩ dX6_findingOfPairs_34 (fun r2 u_ H locs hP hD hS h => ?_)
      obtain ⟨hu_, h⟩ := h
      rw [hu_] at hP hD
      refine lv_istore_n (pc := 37) (lv' := [(2, .int r2), (0, .ref (ad x0)), (1, .int x1)]) hx hb dX6_findingOfPairs_37 rfl hl (by decide) rfl (fun ls hl => ?_)
      refine lv_aload_n (pc := 38) hx hb dX6_findingOfPairs_38 rfl (lv_at hl 1 rfl) ?_
      refine lv_iload_n (pc := 39) hx hb dX6_findingOfPairs_39 rfl (lv_at hl 2 rfl) ?_
      refine kx_iVi (pc := 40) [.int x1] hx hb hml hown hts hK hP hD hS (q5_get h) (cw6_94 hts ⟨Nat.le_of_ble_eq_true rfl, Nat.le_of_ble_eq_true rfl⟩) hk_x0 (by decide) rfl rfl hl.1 rfl (Nat.le_of_ble_eq_true rfl) ⟨Nat.le_of_ble_eq_true rfl, Nat.le_of_ble_eq_true rfl⟩ dX6_findingOfPairs_40 (fun r3 u_ H locs hP hD hS h => ?_)
      obtain ⟨hu_, h⟩ := h
      rw [hu_] at hP hD
      refine kx_iSi (pc := 43) [.int r3] hx hb hml hown hts hK hP hD hS (q6_isWind h) (cw6_167 hts ⟨Nat.le_of_ble_eq_true rfl, Nat.le_of_ble_eq_true rfl⟩) rfl hl.1 rfl (Nat.le_of_ble_eq_true rfl) ⟨Nat.le_of_ble_eq_true rfl, Nat.le_of_ble_eq_true rfl⟩ dX6_findingOfPairs_43 (fun r4 u_ H locs hP hD hS h => ?_)
      obtain ⟨hu_, h⟩ := h
      rw [hu_] at hP hD
      refine lv_if_eq (pc := 46) (tgt := 59) hx hb dX6_findingOfPairs_46 (by decide) (fun c5 => ?_) (fun c5 => ?_)
      · have h := h.1 c5
        refine lv_iconst (pc := 59) (v := (3 : Int32)) hx hb dX6_findingOfPairs_59 (by decide) ?_
        exact kx_iret (pc := 60) hx hb hr hlocks hK hP hD hS ⟨rfl, h⟩ dX6_findingOfPairs_60
      · have h := h.2 c5
        refine lv_iload_n (pc := 49) hx hb dX6_findingOfPairs_49 rfl (lv_at hl 0 rfl) ?_
        refine lv_if_lt (pc := 50) (tgt := 59) hx hb dX6_findingOfPairs_50 (by decide) (fun c6 => ?_) (fun c6 => ?_)
        · have h := h.1 c6
          refine lv_iconst (pc := 59) (v := (3 : Int32)) hx hb dX6_findingOfPairs_59 (by decide) ?_
          exact kx_iret (pc := 60) hx hb hr hlocks hK hP hD hS ⟨rfl, h⟩ dX6_findingOfPairs_60
        · have h := h.2 c6
          refine lv_iload_n (pc := 53) hx hb dX6_findingOfPairs_53 rfl (lv_at hl 0 rfl) ?_
          refine lv_bipush (pc := 54) (v := (99 : Int32)) hx hb dX6_findingOfPairs_54 (by decide) ?_
          refine lv_icmp_le (pc := 56) (tgt := 61) hx hb dX6_findingOfPairs_56 (by decide) (fun c7 => ?_) (fun c7 => ?_)
          · have h := h.1 c7
            refine lv_iinc (pc := 61) (v := (x1 + (2 : Int32))) (lv' := [(1, .int (x1 + (2 : Int32))), (2, .int r2), (0, .ref (ad x0))]) hx hb dX6_findingOfPairs_61 hl (k := 2) rfl rfl (by decide) rfl (fun ls hl => ?_)
            refine lv_goto (pc := 64) (tgt := 22) hx hb dX6_findingOfPairs_64 (by decide) ?_
            exact ih _ _ _ _ _ hk_x0 h hP hD hS (lv_sub hl [2, 0] rfl)
          · have h := h.2 c7
            refine lv_iconst (pc := 59) (v := (3 : Int32)) hx hb dX6_findingOfPairs_59 (by decide) ?_
            exact kx_iret (pc := 60) hx hb hr hlocks hK hP hD hS ⟨rfl, h⟩ dX6_findingOfPairs_60
def p6_findingOfPairs (σ : kx_St) (x0 : Nat) (Q : Int32 → Prop) : Prop := kx_k 0 x0 = 5 ∧ (p5_isThere σ x0 (fun r1 => (¬ r1 = 0 → (((σ.1 x0 1) - (σ.1 x0 1) / (2 : Int32) * (2 : Int32)) = 0 → ∃ m22, p6_findingOfPairs_L22 m22 σ x0 (0 : Int32) Q) ∧ (¬ ((σ.1 x0 1) - (σ.1 x0 1) / (2 : Int32) * (2 : Int32)) = 0 → Q (5 : Int32))) ∧ (r1 = 0 → Q (1 : Int32))))
set_option maxHeartbeats 4000000 in
theorem q6_findingOfPairs {σ : kx_St} {x0 : Nat} {Q : Int32 → Prop} (h : p6_findingOfPairs σ x0 Q) : Met l yX6_findingOfPairs (Cond.code yX6_findingOfPairs cX6_findingOfPairs 3 (some .int) :: kx_big) rm6_findingOfPairs (va_Pc [.ref (ad x0)] (kx_Wd D cy 0 ad A σ)) (kx_Qc kx_ci (fun u r => u = σ ∧ Q r) (kx_Wd D cy 0 ad A) A) 0 0 A := by
  refine kx_head (plainFor_of_name (by decide)) (Nat.le_of_ble_eq_true rfl) ?_
  intro p e s m below meth c ls cx hP hD hS hl
  obtain ⟨hx, hb, hr, hlocks, hml, hown, hts, hK⟩ := id cx
  obtain ⟨hk_x0, h⟩ := h
  have hl : lv_has ls 3 [(0, .ref (ad x0))] := hl
  refine lv_aload_n (pc := 0) hx hb dX6_findingOfPairs_0 rfl (lv_at hl 0 rfl) ?_
  refine kx_iVi (pc := 1) [] hx hb hml hown hts hK hP hD hS (q5_isThere h) (cw6_82 hts ⟨Nat.le_of_ble_eq_true rfl, Nat.le_of_ble_eq_true rfl⟩) hk_x0 (by decide) rfl rfl hl.1 rfl (Nat.le_of_ble_eq_true rfl) ⟨Nat.le_of_ble_eq_true rfl, Nat.le_of_ble_eq_true rfl⟩ dX6_findingOfPairs_1 (fun r1 u_ H locs hP hD hS h => ?_)
  obtain ⟨hu_, h⟩ := h
  rw [hu_] at hP hD
  refine lv_if_ne (pc := 4) (tgt := 9) hx hb dX6_findingOfPairs_4 (by decide) (fun c2 => ?_) (fun c2 => ?_)
  · have h := h.1 c2
    refine lv_aload_n (pc := 9) hx hb dX6_findingOfPairs_9 rfl (lv_at hl 0 rfl) ?_
    refine fg6_117 (pc := 10) hx hb hown hts hK hP hk_x0 dX6_findingOfPairs_10 ?_
    refine lv_iconst (pc := 13) (v := (2 : Int32)) hx hb dX6_findingOfPairs_13 (by decide) ?_
    refine lv_irem (pc := 14) hx hb dX6_findingOfPairs_14 (by decide) ?_
    refine lv_if_eq (pc := 15) (tgt := 20) hx hb dX6_findingOfPairs_15 (by decide) (fun c3 => ?_) (fun c3 => ?_)
    · have h := h.1 c3
      refine lv_iconst (pc := 20) (v := (0 : Int32)) hx hb dX6_findingOfPairs_20 (by decide) ?_
      refine lv_istore_n (pc := 21) (lv' := [(1, .int (0 : Int32)), (0, .ref (ad x0))]) hx hb dX6_findingOfPairs_21 rfl hl (by decide) rfl (fun ls hl => ?_)
      obtain ⟨n0, h⟩ := h
      exact w6_findingOfPairs_L22 cx  n0 _ _ _ _ _ hk_x0 h hP hD hS (lv_sub hl [1, 0] rfl)
    · have h := h.2 c3
      refine lv_iconst (pc := 18) (v := (5 : Int32)) hx hb dX6_findingOfPairs_18 (by decide) ?_
      exact kx_iret (pc := 19) hx hb hr hlocks hK hP hD hS ⟨rfl, h⟩ dX6_findingOfPairs_19
  · have h := h.2 c2
    refine lv_iconst (pc := 7) (v := (1 : Int32)) hx hb dX6_findingOfPairs_7 (by decide) ?_
    exact kx_iret (pc := 8) hx hb hr hlocks hK hP hD hS ⟨rfl, h⟩ dX6_findingOfPairs_8
def p6_fits_L3 : Nat → kx_St → Nat → Int32 → Int32 → Nat → Int32 → (Int32 → Prop) → Prop
  | 0, _, _, _, _, _, _, _ => False
  | n + 1, σ, x0, x1, x2, x3, x4, Q => ((σ.1 x3 1) ≤ x4 → Q (1 : Int32)) ∧ (¬ (σ.1 x3 1) ≤ x4 → p5_get σ x3 x4 (fun r2 => p1_liftAs σ x0 x1 x2 r2 (fun r3 => p5_get σ x3 (x4 + (1 : Int32)) (fun r4 => (r3 = r4 → p6_fits_L3 n σ x0 x1 x2 x3 (x4 + (2 : Int32)) Q) ∧ (¬ r3 = r4 → Q (0 : Int32))))))
set_option maxHeartbeats 4000000 in
theorem w6_fits_L3 {σ : kx_St}  {Q : Int32 → Prop} (cx : kx_Cx p s m args meth c D cy RX6 cX6_fits 5 (some .boolean))  : ∀ (n : Nat) (x0 : Nat) (x1 : Int32) (x2 : Int32) (x3 : Nat) (x4 : Int32) (H : Heap) (locs : List Loc) (ls : Array Slot), kx_k 0 x0 = 1 → kx_k 0 x3 = 5 → p6_fits_L3 n σ x0 x1 x2 x3 x4 Q → va_P D vwCl (kx_ws cy 0 ad σ) H → va_D A (kx_ws cy 0 ad σ) → va_S A s.heap H locs → lv_has ls 5 [(0, .ref (ad x0)), (1, .int x1), (2, .int x2), (3, .ref (ad x3)), (4, .int x4)] → W p l e rm6_fits s m args below meth c H locs 0 0 (MQ below (kx_Qc kx_ci (fun u r => u = σ ∧ Q r) (kx_Wd D cy 0 ad A) A) args s 0 0 A) (F0 m 3 ls []) := by
  obtain ⟨hx, hb, hr, hlocks, hml, hown, hts, hK⟩ := id cx
  intro n
  induction n with
  | zero => intro _ _ _ _ _ _ _ _ _ _ h; exact False.elim h
  | succ n ih =>
    intro x0 x1 x2 x3 x4 H locs ls hk_x0 hk_x3 h hP hD hS hl
    refine lv_iload (pc := 3) hx hb dX6_fits_3 (lv_at hl 4 rfl) ?_
    refine lv_aload_n (pc := 5) hx hb dX6_fits_5 rfl (lv_at hl 3 rfl) ?_
    refine fg6_117 (pc := 6) hx hb hown hts hK hP hk_x3 dX6_fits_6 ?_
    refine lv_icmp_ge (pc := 9) (tgt := 43) hx hb dX6_fits_9 (by decide) (fun c1 => ?_) (fun c1 => ?_)
    · have h := h.1 c1
      refine lv_iconst (pc := 43) (v := (1 : Int32)) hx hb dX6_fits_43 (by decide) ?_
      exact kx_zret (pc := 44) hx hb hr hlocks hK hP hD hS (by decide) ⟨rfl, h⟩ dX6_fits_44
    · have h := h.2 c1
      refine lv_aload_n (pc := 12) hx hb dX6_fits_12 rfl (lv_at hl 0 rfl) ?_
      refine lv_iload_n (pc := 13) hx hb dX6_fits_13 rfl (lv_at hl 1 rfl) ?_
      refine lv_iload_n (pc := 14) hx hb dX6_fits_14 rfl (lv_at hl 2 rfl) ?_
      refine lv_aload_n (pc := 15) hx hb dX6_fits_15 rfl (lv_at hl 3 rfl) ?_
      refine lv_iload (pc := 16) hx hb dX6_fits_16 (lv_at hl 4 rfl) ?_
      refine kx_iVi (pc := 18) [.int x4] hx hb hml hown hts hK hP hD hS (q5_get h) (cw6_94 hts ⟨Nat.le_of_ble_eq_true rfl, Nat.le_of_ble_eq_true rfl⟩) hk_x3 (by decide) rfl rfl hl.1 rfl (Nat.le_of_ble_eq_true rfl) ⟨Nat.le_of_ble_eq_true rfl, Nat.le_of_ble_eq_true rfl⟩ dX6_fits_18 (fun r2 u_ H locs hP hD hS h => ?_)
      obtain ⟨hu_, h⟩ := h
      rw [hu_] at hP hD
      refine kx_iVi (pc := 21) [.int x1, .int x2, .int r2] hx hb hml hown hts hK hP hD hS (q1_liftAs h) (cw6_150 hts ⟨Nat.le_of_ble_eq_true rfl, Nat.le_of_ble_eq_true rfl⟩) hk_x0 (by decide) rfl rfl hl.1 rfl (Nat.le_of_ble_eq_true rfl) ⟨Nat.le_of_ble_eq_true rfl, Nat.le_of_ble_eq_true rfl⟩ dX6_fits_21 (fun r3 u_ H locs hP hD hS h => ?_)
      obtain ⟨hu_, h⟩ := h
      rw [hu_] at hP hD
      refine lv_aload_n (pc := 24) hx hb dX6_fits_24 rfl (lv_at hl 3 rfl) ?_
      refine lv_iload (pc := 25) hx hb dX6_fits_25 (lv_at hl 4 rfl) ?_
      refine lv_iconst (pc := 27) (v := (1 : Int32)) hx hb dX6_fits_27 (by decide) ?_
      refine lv_iadd (pc := 28) hx hb dX6_fits_28 ?_
      refine kx_iVi (pc := 29) [.int (x4 + (1 : Int32))] hx hb hml hown hts hK hP hD hS (q5_get h) (cw6_94 hts ⟨Nat.le_of_ble_eq_true rfl, Nat.le_of_ble_eq_true rfl⟩) hk_x3 (by decide) rfl rfl hl.1 rfl (Nat.le_of_ble_eq_true rfl) ⟨Nat.le_of_ble_eq_true rfl, Nat.le_of_ble_eq_true rfl⟩ dX6_fits_29 (fun r4 u_ H locs hP hD hS h => ?_)
      obtain ⟨hu_, h⟩ := h
      rw [hu_] at hP hD
      refine lv_icmp_eq (pc := 32) (tgt := 37) hx hb dX6_fits_32 (by decide) (fun c5 => ?_) (fun c5 => ?_)
      · have h := h.1 c5
        refine lv_iinc (pc := 37) (v := (x4 + (2 : Int32))) (lv' := [(4, .int (x4 + (2 : Int32))), (0, .ref (ad x0)), (1, .int x1), (2, .int x2), (3, .ref (ad x3))]) hx hb dX6_fits_37 hl (k := 4) rfl rfl (by decide) rfl (fun ls hl => ?_)
        refine lv_goto (pc := 40) (tgt := 3) hx hb dX6_fits_40 (by decide) ?_
        exact ih _ _ _ _ _ _ _ _ hk_x0 hk_x3 h hP hD hS (lv_sub hl [1, 2, 3, 4, 0] rfl)
      · have h := h.2 c5
        refine lv_iconst (pc := 35) (v := (0 : Int32)) hx hb dX6_fits_35 (by decide) ?_
        exact kx_zret (pc := 36) hx hb hr hlocks hK hP hD hS (by decide) ⟨rfl, h⟩ dX6_fits_36
def p6_fits (σ : kx_St) (x0 : Nat) (x1 : Int32) (x2 : Int32) (x3 : Nat) (Q : Int32 → Prop) : Prop := kx_k 0 x0 = 1 ∧ (kx_k 0 x3 = 5 ∧ (∃ m3, p6_fits_L3 m3 σ x0 x1 x2 x3 (0 : Int32) Q))
set_option maxHeartbeats 4000000 in
theorem q6_fits {σ : kx_St} {x0 : Nat} {x1 : Int32} {x2 : Int32} {x3 : Nat} {Q : Int32 → Prop} (h : p6_fits σ x0 x1 x2 x3 Q) : Met l yX6_fits (Cond.code yX6_fits cX6_fits 5 (some .boolean) :: kx_big) rm6_fits (va_Pc [.ref (ad x0), .int x1, .int x2, .ref (ad x3)] (kx_Wd D cy 0 ad A σ)) (kx_Qc kx_ci (fun u r => u = σ ∧ Q r) (kx_Wd D cy 0 ad A) A) 0 0 A := by
  refine kx_head (plainFor_of_name (by decide)) (Nat.le_of_ble_eq_true rfl) ?_
  intro p e s m below meth c ls cx hP hD hS hl
  obtain ⟨hx, hb, hr, hlocks, hml, hown, hts, hK⟩ := id cx
  obtain ⟨hk_x0, h⟩ := h
  obtain ⟨hk_x3, h⟩ := h
  have hl : lv_has ls 5 [(0, .ref (ad x0)), (1, .int x1), (2, .int x2), (3, .ref (ad x3))] := hl
  refine lv_iconst (pc := 0) (v := (0 : Int32)) hx hb dX6_fits_0 (by decide) ?_
  refine lv_istore (pc := 1) (lv' := [(4, .int (0 : Int32)), (0, .ref (ad x0)), (1, .int x1), (2, .int x2), (3, .ref (ad x3))]) hx hb dX6_fits_1 hl (by decide) rfl (fun ls hl => ?_)
  obtain ⟨n0, h⟩ := h
  exact w6_fits_L3 cx  n0 _ _ _ _ _ _ _ _ hk_x0 hk_x3 h hP hD hS (lv_sub hl [1, 2, 3, 4, 0] rfl)
def p6_tails_L55 : Nat → kx_St → Nat → Nat → Int32 → Int32 → (kx_St → Int32 → Prop) → Prop
  | 0, _, _, _, _, _, _ => False
  | n + 1, σ, x3, x4, x6, x7, Q => ((4 : Int32) ≤ x7 → Q σ x6) ∧ (¬ (4 : Int32) ≤ x7 → p6_fits σ x3 (σ.1 x3 0) x7 x4 (fun r2 => (r2 = 0 → p6_tails_L55 n σ x3 x4 (x6 ||| (0 : Int32)) (x7 + (1 : Int32)) Q) ∧ (¬ r2 = 0 → p6_tails_L55 n σ x3 x4 (x6 ||| ((1 : Int32) <<< (x7 &&& 31))) (x7 + (1 : Int32)) Q)))
set_option maxHeartbeats 4000000 in
theorem w6_tails_L55  {Q : kx_St → Int32 → Prop} (cx : kx_Cx p s m args meth c D cy RX6 cX6_tails 8 (some .int))  : ∀ (n : Nat) (σ : kx_St) (x3 : Nat) (x4 : Nat) (x6 : Int32) (x7 : Int32) (H : Heap) (locs : List Loc) (ls : Array Slot), kx_k 0 x3 = 1 → kx_k 0 x4 = 5 → p6_tails_L55 n σ x3 x4 x6 x7 Q → va_P D vwCl (kx_ws cy 0 ad σ) H → va_D A (kx_ws cy 0 ad σ) → va_S A s.heap H locs → lv_has ls 8 [(3, .ref (ad x3)), (4, .ref (ad x4)), (6, .int x6), (7, .int x7)] → W p l e rm6_tails s m args below meth c H locs 0 0 (MQ below (kx_Qc kx_ci Q (kx_Wd D cy 0 ad A) A) args s 0 0 A) (F0 m 55 ls []) := by
  obtain ⟨hx, hb, hr, hlocks, hml, hown, hts, hK⟩ := id cx
  intro n
  induction n with
  | zero => intro _ _ _ _ _ _ _ _ _ _ h; exact False.elim h
  | succ n ih =>
    intro σ x3 x4 x6 x7 H locs ls hk_x3 hk_x4 h hP hD hS hl
    refine lv_iload (pc := 55) hx hb dX6_tails_55 (lv_at hl 3 rfl) ?_
    refine lv_iconst (pc := 57) (v := (4 : Int32)) hx hb dX6_tails_57 (by decide) ?_
    refine lv_icmp_ge (pc := 58) (tgt := 95) hx hb dX6_tails_58 (by decide) (fun c1 => ?_) (fun c1 => ?_)
    · have h := h.1 c1
      refine lv_iload (pc := 95) hx hb dX6_tails_95 (lv_at hl 2 rfl) ?_
      exact kx_iret (pc := 97) hx hb hr hlocks hK hP hD hS h dX6_tails_97
    · have h := h.2 c1
      refine lv_iload (pc := 61) hx hb dX6_tails_61 (lv_at hl 2 rfl) ?_
      refine lv_aload_n (pc := 63) hx hb dX6_tails_63 rfl (lv_at hl 0 rfl) ?_
      refine lv_aload_n (pc := 64) hx hb dX6_tails_64 rfl (lv_at hl 0 rfl) ?_
      refine fg6_236 (pc := 65) hx hb hown hts hK hP hk_x3 dX6_tails_65 ?_
      refine lv_iload (pc := 68) hx hb dX6_tails_68 (lv_at hl 3 rfl) ?_
      refine lv_aload (pc := 70) hx hb dX6_tails_70 (lv_at hl 1 rfl) ?_
      refine kx_iSi (pc := 72) [.ref (ad x3), .int (σ.1 x3 0), .int x7, .ref (ad x4)] hx hb hml hown hts hK hP hD hS (q6_fits h) (cw6_239 hts ⟨Nat.le_of_ble_eq_true rfl, Nat.le_of_ble_eq_true rfl⟩) rfl hl.1 rfl (Nat.le_of_ble_eq_true rfl) ⟨Nat.le_of_ble_eq_true rfl, Nat.le_of_ble_eq_true rfl⟩ dX6_tails_72 (fun r2 u_ H locs hP hD hS h => ?_)
      obtain ⟨hu_, h⟩ := h
      rw [hu_] at hP hD
      refine lv_if_eq (pc := 75) (tgt := 85) hx hb dX6_tails_75 (by decide) (fun c3 => ?_) (fun c3 => ?_)
      · have h := h.1 c3
        refine lv_iconst (pc := 85) (v := (0 : Int32)) hx hb dX6_tails_85 (by decide) ?_
        refine lv_ior (pc := 86) hx hb dX6_tails_86 ?_
        refine lv_istore (pc := 87) (lv' := [(6, .int (x6 ||| (0 : Int32))), (3, .ref (ad x3)), (4, .ref (ad x4)), (7, .int x7)]) hx hb dX6_tails_87 hl (by decide) rfl (fun ls hl => ?_)
        refine lv_iinc (pc := 89) (v := (x7 + (1 : Int32))) (lv' := [(7, .int (x7 + (1 : Int32))), (6, .int (x6 ||| (0 : Int32))), (3, .ref (ad x3)), (4, .ref (ad x4))]) hx hb dX6_tails_89 hl (k := 3) rfl rfl (by decide) rfl (fun ls hl => ?_)
        refine lv_goto (pc := 92) (tgt := 55) hx hb dX6_tails_92 (by decide) ?_
        exact ih _ _ _ _ _ _ _ _ hk_x3 hk_x4 h hP hD hS (lv_sub hl [2, 3, 1, 0] rfl)
      · have h := h.2 c3
        refine lv_iconst (pc := 78) (v := (1 : Int32)) hx hb dX6_tails_78 (by decide) ?_
        refine lv_iload (pc := 79) hx hb dX6_tails_79 (lv_at hl 3 rfl) ?_
        refine lv_ishl (pc := 81) hx hb dX6_tails_81 ?_
        refine lv_goto (pc := 82) (tgt := 86) hx hb dX6_tails_82 (by decide) ?_
        refine lv_ior (pc := 86) hx hb dX6_tails_86 ?_
        refine lv_istore (pc := 87) (lv' := [(6, .int (x6 ||| ((1 : Int32) <<< (x7 &&& 31)))), (3, .ref (ad x3)), (4, .ref (ad x4)), (7, .int x7)]) hx hb dX6_tails_87 hl (by decide) rfl (fun ls hl => ?_)
        refine lv_iinc (pc := 89) (v := (x7 + (1 : Int32))) (lv' := [(7, .int (x7 + (1 : Int32))), (6, .int (x6 ||| ((1 : Int32) <<< (x7 &&& 31)))), (3, .ref (ad x3)), (4, .ref (ad x4))]) hx hb dX6_tails_89 hl (k := 3) rfl rfl (by decide) rfl (fun ls hl => ?_)
        refine lv_goto (pc := 92) (tgt := 55) hx hb dX6_tails_92 (by decide) ?_
        exact ih _ _ _ _ _ _ _ _ hk_x3 hk_x4 h hP hD hS (lv_sub hl [2, 3, 1, 0] rfl)
def p6_tails (σ : kx_St) (x1 : Int32) (x2 : Int32) (Q : kx_St → Int32 → Prop) : Prop := p3_kiteAt σ 4 x1 (fun o1 => (o1 = none → p6_pick σ 1 x2 (fun o3 => (o3 = none → Q σ (-1 : Int32)) ∧ (∀ b4, o3 = some b4 → kx_k 0 b4 = 5 ∧ (Q σ (-1 : Int32))))) ∧ (∀ b2, o1 = some b2 → kx_k 0 b2 = 1 ∧ (p6_pick σ 1 x2 (fun o5 => (o5 = none → Q σ (-1 : Int32)) ∧ (∀ b6, o5 = some b6 → kx_k 0 b6 = 5 ∧ (p6_findingOfPairs σ b6 (fun r7 => (r7 = 0 → ∃ m55, p6_tails_L55 m55 σ b2 b6 (0 : Int32) (0 : Int32) Q) ∧ (¬ r7 = 0 → p6_found σ r7 (fun σ10 r9 => Q σ10 r9)))))))))
set_option maxHeartbeats 4000000 in
theorem q6_tails {σ : kx_St} {x1 : Int32} {x2 : Int32} {Q : kx_St → Int32 → Prop} (h : p6_tails σ x1 x2 Q) : Met l yX6_tails (Cond.code yX6_tails cX6_tails 8 (some .int) :: kx_big) rm6_tails (va_Pc [.ref (ad 0), .int x1, .int x2] (kx_Wd D cy 0 ad A σ)) (kx_Qc kx_ci Q (kx_Wd D cy 0 ad A) A) 0 0 A := by
  refine kx_head (plainFor_of_name (by decide)) (Nat.le_of_ble_eq_true rfl) ?_
  intro p e s m below meth c ls cx hP hD hS hl
  obtain ⟨hx, hb, hr, hlocks, hml, hown, hts, hK⟩ := id cx
  have hl : lv_has ls 8 [(0, .ref (ad 0)), (1, .int x1), (2, .int x2)] := hl
  refine lv_aload_n (pc := 0) hx hb dX6_tails_0 rfl (lv_at hl 0 rfl) ?_
  refine fg6_25 (pc := 1) (b := 4) hx hb hown hts hK hP rfl rfl dX6_tails_1 ?_
  refine lv_iload_n (pc := 4) hx hb dX6_tails_4 rfl (lv_at hl 1 rfl) ?_
  refine kx_iVr (pc := 5) [.int x1] hx hb hml hown hts hK hP hD hS (q3_kiteAt h) (cw6_131 hts ⟨Nat.le_of_ble_eq_true rfl, Nat.le_of_ble_eq_true rfl⟩) rfl (by decide) rfl rfl hl.1 rfl (Nat.le_of_ble_eq_true rfl) ⟨Nat.le_of_ble_eq_true rfl, Nat.le_of_ble_eq_true rfl⟩ dX6_tails_5 (fun o1 u_ H locs hP hD hS h => ?_)
  obtain ⟨hu_, h⟩ := h
  rw [hu_] at hP hD
  rcases o1 with _ | b2
  · have h := h.1 rfl
    refine lv_astore_nN (pc := 8) (lv' := [(3, .null), (0, .ref (ad 0)), (1, .int x1), (2, .int x2)]) hx hb dX6_tails_8 rfl hl (by decide) rfl (fun ls hl => ?_)
    refine lv_aload_n (pc := 9) hx hb dX6_tails_9 rfl (lv_at hl 1 rfl) ?_
    refine fg6_11 (pc := 10) (b := 1) hx hb hown hts hK hP rfl rfl dX6_tails_10 ?_
    refine lv_iload_n (pc := 13) hx hb dX6_tails_13 rfl (lv_at hl 3 rfl) ?_
    refine kx_iSr (pc := 14) [.ref (ad 1), .int x2] hx hb hml hown hts hK hP hD hS (q6_pick h) (cw6_74 hts ⟨Nat.le_of_ble_eq_true rfl, Nat.le_of_ble_eq_true rfl⟩) rfl hl.1 rfl (Nat.le_of_ble_eq_true rfl) ⟨Nat.le_of_ble_eq_true rfl, Nat.le_of_ble_eq_true rfl⟩ dX6_tails_14 (fun o3 u_ H locs hP hD hS h => ?_)
    obtain ⟨hu_, h⟩ := h
    rw [hu_] at hP hD
    rcases o3 with _ | b4
    · have h := h.1 rfl
      refine lv_astoreN (pc := 17) (lv' := [(4, .null), (3, .null), (0, .ref (ad 0)), (1, .int x1), (2, .int x2)]) hx hb dX6_tails_17 hl (by decide) rfl (fun ls hl => ?_)
      refine lv_aload_nN (pc := 19) hx hb dX6_tails_19 rfl (lv_at hl 1 rfl) ?_
      refine lv_ifnullN (pc := 20) (tgt := 28) hx hb dX6_tails_20 (by decide) ?_
      refine lv_iconst (pc := 28) (v := (-1 : Int32)) hx hb dX6_tails_28 (by decide) ?_
      exact kx_iret (pc := 29) hx hb hr hlocks hK hP hD hS h dX6_tails_29
    · obtain ⟨hk_b4, h⟩ := h.2 b4 rfl
      refine lv_astore (pc := 17) (lv' := [(4, .ref (ad b4)), (3, .null), (0, .ref (ad 0)), (1, .int x1), (2, .int x2)]) hx hb dX6_tails_17 hl (by decide) rfl (fun ls hl => ?_)
      refine lv_aload_nN (pc := 19) hx hb dX6_tails_19 rfl (lv_at hl 1 rfl) ?_
      refine lv_ifnullN (pc := 20) (tgt := 28) hx hb dX6_tails_20 (by decide) ?_
      refine lv_iconst (pc := 28) (v := (-1 : Int32)) hx hb dX6_tails_28 (by decide) ?_
      exact kx_iret (pc := 29) hx hb hr hlocks hK hP hD hS h dX6_tails_29
  · obtain ⟨hk_b2, h⟩ := h.2 b2 rfl
    refine lv_astore_n (pc := 8) (lv' := [(3, .ref (ad b2)), (0, .ref (ad 0)), (1, .int x1), (2, .int x2)]) hx hb dX6_tails_8 rfl hl (by decide) rfl (fun ls hl => ?_)
    refine lv_aload_n (pc := 9) hx hb dX6_tails_9 rfl (lv_at hl 1 rfl) ?_
    refine fg6_11 (pc := 10) (b := 1) hx hb hown hts hK hP rfl rfl dX6_tails_10 ?_
    refine lv_iload_n (pc := 13) hx hb dX6_tails_13 rfl (lv_at hl 3 rfl) ?_
    refine kx_iSr (pc := 14) [.ref (ad 1), .int x2] hx hb hml hown hts hK hP hD hS (q6_pick h) (cw6_74 hts ⟨Nat.le_of_ble_eq_true rfl, Nat.le_of_ble_eq_true rfl⟩) rfl hl.1 rfl (Nat.le_of_ble_eq_true rfl) ⟨Nat.le_of_ble_eq_true rfl, Nat.le_of_ble_eq_true rfl⟩ dX6_tails_14 (fun o5 u_ H locs hP hD hS h => ?_)
    obtain ⟨hu_, h⟩ := h
    rw [hu_] at hP hD
    rcases o5 with _ | b6
    · have h := h.1 rfl
      refine lv_astoreN (pc := 17) (lv' := [(4, .null), (3, .ref (ad b2)), (0, .ref (ad 0)), (1, .int x1), (2, .int x2)]) hx hb dX6_tails_17 hl (by decide) rfl (fun ls hl => ?_)
      refine lv_aload_n (pc := 19) hx hb dX6_tails_19 rfl (lv_at hl 1 rfl) ?_
      refine lv_ifnull (pc := 20) hx hb dX6_tails_20 ?_
      refine lv_aloadN (pc := 23) hx hb dX6_tails_23 (lv_at hl 0 rfl) ?_
      refine lv_ifnonnullN (pc := 25) hx hb dX6_tails_25 ?_
      refine lv_iconst (pc := 28) (v := (-1 : Int32)) hx hb dX6_tails_28 (by decide) ?_
      exact kx_iret (pc := 29) hx hb hr hlocks hK hP hD hS h dX6_tails_29
    · obtain ⟨hk_b6, h⟩ := h.2 b6 rfl
      refine lv_astore (pc := 17) (lv' := [(4, .ref (ad b6)), (3, .ref (ad b2)), (0, .ref (ad 0)), (1, .int x1), (2, .int x2)]) hx hb dX6_tails_17 hl (by decide) rfl (fun ls hl => ?_)
      refine lv_aload_n (pc := 19) hx hb dX6_tails_19 rfl (lv_at hl 1 rfl) ?_
      refine lv_ifnull (pc := 20) hx hb dX6_tails_20 ?_
      refine lv_aload (pc := 23) hx hb dX6_tails_23 (lv_at hl 0 rfl) ?_
      refine lv_ifnonnull (pc := 25) (tgt := 30) hx hb dX6_tails_25 (by decide) ?_
      refine lv_aload (pc := 30) hx hb dX6_tails_30 (lv_at hl 0 rfl) ?_
      refine kx_iSi (pc := 32) [.ref (ad b6)] hx hb hml hown hts hK hP hD hS (q6_findingOfPairs h) (cw6_232 hts ⟨Nat.le_of_ble_eq_true rfl, Nat.le_of_ble_eq_true rfl⟩) rfl hl.1 rfl (Nat.le_of_ble_eq_true rfl) ⟨Nat.le_of_ble_eq_true rfl, Nat.le_of_ble_eq_true rfl⟩ dX6_tails_32 (fun r7 u_ H locs hP hD hS h => ?_)
      obtain ⟨hu_, h⟩ := h
      rw [hu_] at hP hD
      refine lv_istore (pc := 35) (lv' := [(5, .int r7), (4, .ref (ad b6)), (3, .ref (ad b2)), (0, .ref (ad 0)), (1, .int x1), (2, .int x2)]) hx hb dX6_tails_35 hl (by decide) rfl (fun ls hl => ?_)
      refine lv_iload (pc := 37) hx hb dX6_tails_37 (lv_at hl 0 rfl) ?_
      refine lv_if_eq (pc := 39) (tgt := 49) hx hb dX6_tails_39 (by decide) (fun c8 => ?_) (fun c8 => ?_)
      · have h := h.1 c8
        refine lv_iconst (pc := 49) (v := (0 : Int32)) hx hb dX6_tails_49 (by decide) ?_
        refine lv_istore (pc := 50) (lv' := [(6, .int (0 : Int32)), (5, .int r7), (4, .ref (ad b6)), (3, .ref (ad b2)), (0, .ref (ad 0)), (1, .int x1), (2, .int x2)]) hx hb dX6_tails_50 hl (by decide) rfl (fun ls hl => ?_)
        refine lv_iconst (pc := 52) (v := (0 : Int32)) hx hb dX6_tails_52 (by decide) ?_
        refine lv_istore (pc := 53) (lv' := [(7, .int (0 : Int32)), (6, .int (0 : Int32)), (5, .int r7), (4, .ref (ad b6)), (3, .ref (ad b2)), (0, .ref (ad 0)), (1, .int x1), (2, .int x2)]) hx hb dX6_tails_53 hl (by decide) rfl (fun ls hl => ?_)
        obtain ⟨n0, h⟩ := h
        exact w6_tails_L55 cx  n0 _ _ _ _ _ _ _ _ hk_b2 hk_b6 h hP hD hS (lv_sub hl [4, 3, 1, 0] rfl)
      · have h := h.2 c8
        refine lv_aload_n (pc := 42) hx hb dX6_tails_42 rfl (lv_at hl 3 rfl) ?_
        refine lv_iload (pc := 43) hx hb dX6_tails_43 (lv_at hl 0 rfl) ?_
        refine kx_iVi (pc := 45) [.int r7] hx hb hml hown hts hK hP hD hS (q6_found h) (cw6_86 hts ⟨Nat.le_of_ble_eq_true rfl, Nat.le_of_ble_eq_true rfl⟩) rfl (by decide) rfl rfl hl.1 rfl (Nat.le_of_ble_eq_true rfl) ⟨Nat.le_of_ble_eq_true rfl, Nat.le_of_ble_eq_true rfl⟩ dX6_tails_45 (fun r9 σ10 H locs hP hD hS h => ?_)
        exact kx_iret (pc := 48) hx hb hr hlocks hK hP hD hS h dX6_tails_48
def p6_fittingKinds_L4 : Nat → kx_St → Nat → Nat → Int32 → Int32 → (Int32 → Prop) → Prop
  | 0, _, _, _, _, _, _ => False
  | n + 1, σ, x0, x1, x2, x3, Q => ((6 : Int32) ≤ x3 → Q x2) ∧ (¬ (6 : Int32) ≤ x3 → p6_fits σ x0 x3 (σ.1 x0 3) x1 (fun r2 => (r2 = 0 → p6_fittingKinds_L4 n σ x0 x1 (x2 ||| (0 : Int32)) (x3 + (1 : Int32)) Q) ∧ (¬ r2 = 0 → p6_fittingKinds_L4 n σ x0 x1 (x2 ||| ((1 : Int32) <<< (x3 &&& 31))) (x3 + (1 : Int32)) Q)))
set_option maxHeartbeats 4000000 in
theorem w6_fittingKinds_L4 {σ : kx_St}  {Q : Int32 → Prop} (cx : kx_Cx p s m args meth c D cy RX6 cX6_fittingKinds 4 (some .int))  : ∀ (n : Nat) (x0 : Nat) (x1 : Nat) (x2 : Int32) (x3 : Int32) (H : Heap) (locs : List Loc) (ls : Array Slot), kx_k 0 x0 = 1 → kx_k 0 x1 = 5 → p6_fittingKinds_L4 n σ x0 x1 x2 x3 Q → va_P D vwCl (kx_ws cy 0 ad σ) H → va_D A (kx_ws cy 0 ad σ) → va_S A s.heap H locs → lv_has ls 4 [(0, .ref (ad x0)), (1, .ref (ad x1)), (2, .int x2), (3, .int x3)] → W p l e rm6_fittingKinds s m args below meth c H locs 0 0 (MQ below (kx_Qc kx_ci (fun u r => u = σ ∧ Q r) (kx_Wd D cy 0 ad A) A) args s 0 0 A) (F0 m 4 ls []) := by
  obtain ⟨hx, hb, hr, hlocks, hml, hown, hts, hK⟩ := id cx
  intro n
  induction n with
  | zero => intro _ _ _ _ _ _ _ _ _ h; exact False.elim h
  | succ n ih =>
    intro x0 x1 x2 x3 H locs ls hk_x0 hk_x1 h hP hD hS hl
    refine lv_iload_n (pc := 4) hx hb dX6_fittingKinds_4 rfl (lv_at hl 3 rfl) ?_
    refine lv_bipush (pc := 5) (v := (6 : Int32)) hx hb dX6_fittingKinds_5 (by decide) ?_
    refine lv_icmp_ge (pc := 7) (tgt := 39) hx hb dX6_fittingKinds_7 (by decide) (fun c1 => ?_) (fun c1 => ?_)
    · have h := h.1 c1
      refine lv_iload_n (pc := 39) hx hb dX6_fittingKinds_39 rfl (lv_at hl 2 rfl) ?_
      exact kx_iret (pc := 40) hx hb hr hlocks hK hP hD hS ⟨rfl, h⟩ dX6_fittingKinds_40
    · have h := h.2 c1
      refine lv_iload_n (pc := 10) hx hb dX6_fittingKinds_10 rfl (lv_at hl 2 rfl) ?_
      refine lv_aload_n (pc := 11) hx hb dX6_fittingKinds_11 rfl (lv_at hl 0 rfl) ?_
      refine lv_iload_n (pc := 12) hx hb dX6_fittingKinds_12 rfl (lv_at hl 3 rfl) ?_
      refine lv_aload_n (pc := 13) hx hb dX6_fittingKinds_13 rfl (lv_at hl 0 rfl) ?_
      refine fg6_147 (pc := 14) hx hb hown hts hK hP hk_x0 dX6_fittingKinds_14 ?_
      refine lv_aload_n (pc := 17) hx hb dX6_fittingKinds_17 rfl (lv_at hl 1 rfl) ?_
      refine kx_iSi (pc := 18) [.ref (ad x0), .int x3, .int (σ.1 x0 3), .ref (ad x1)] hx hb hml hown hts hK hP hD hS (q6_fits h) (cw6_239 hts ⟨Nat.le_of_ble_eq_true rfl, Nat.le_of_ble_eq_true rfl⟩) rfl hl.1 rfl (Nat.le_of_ble_eq_true rfl) ⟨Nat.le_of_ble_eq_true rfl, Nat.le_of_ble_eq_true rfl⟩ dX6_fittingKinds_18 (fun r2 u_ H locs hP hD hS h => ?_)
      obtain ⟨hu_, h⟩ := h
      rw [hu_] at hP hD
      refine lv_if_eq (pc := 21) (tgt := 30) hx hb dX6_fittingKinds_21 (by decide) (fun c3 => ?_) (fun c3 => ?_)
      · have h := h.1 c3
        refine lv_iconst (pc := 30) (v := (0 : Int32)) hx hb dX6_fittingKinds_30 (by decide) ?_
        refine lv_ior (pc := 31) hx hb dX6_fittingKinds_31 ?_
        refine lv_istore_n (pc := 32) (lv' := [(2, .int (x2 ||| (0 : Int32))), (0, .ref (ad x0)), (1, .ref (ad x1)), (3, .int x3)]) hx hb dX6_fittingKinds_32 rfl hl (by decide) rfl (fun ls hl => ?_)
        refine lv_iinc (pc := 33) (v := (x3 + (1 : Int32))) (lv' := [(3, .int (x3 + (1 : Int32))), (2, .int (x2 ||| (0 : Int32))), (0, .ref (ad x0)), (1, .ref (ad x1))]) hx hb dX6_fittingKinds_33 hl (k := 3) rfl rfl (by decide) rfl (fun ls hl => ?_)
        refine lv_goto (pc := 36) (tgt := 4) hx hb dX6_fittingKinds_36 (by decide) ?_
        exact ih _ _ _ _ _ _ _ hk_x0 hk_x1 h hP hD hS (lv_sub hl [2, 3, 1, 0] rfl)
      · have h := h.2 c3
        refine lv_iconst (pc := 24) (v := (1 : Int32)) hx hb dX6_fittingKinds_24 (by decide) ?_
        refine lv_iload_n (pc := 25) hx hb dX6_fittingKinds_25 rfl (lv_at hl 3 rfl) ?_
        refine lv_ishl (pc := 26) hx hb dX6_fittingKinds_26 ?_
        refine lv_goto (pc := 27) (tgt := 31) hx hb dX6_fittingKinds_27 (by decide) ?_
        refine lv_ior (pc := 31) hx hb dX6_fittingKinds_31 ?_
        refine lv_istore_n (pc := 32) (lv' := [(2, .int (x2 ||| ((1 : Int32) <<< (x3 &&& 31)))), (0, .ref (ad x0)), (1, .ref (ad x1)), (3, .int x3)]) hx hb dX6_fittingKinds_32 rfl hl (by decide) rfl (fun ls hl => ?_)
        refine lv_iinc (pc := 33) (v := (x3 + (1 : Int32))) (lv' := [(3, .int (x3 + (1 : Int32))), (2, .int (x2 ||| ((1 : Int32) <<< (x3 &&& 31)))), (0, .ref (ad x0)), (1, .ref (ad x1))]) hx hb dX6_fittingKinds_33 hl (k := 3) rfl rfl (by decide) rfl (fun ls hl => ?_)
        refine lv_goto (pc := 36) (tgt := 4) hx hb dX6_fittingKinds_36 (by decide) ?_
        exact ih _ _ _ _ _ _ _ hk_x0 hk_x1 h hP hD hS (lv_sub hl [2, 3, 1, 0] rfl)
def p6_fittingKinds (σ : kx_St) (x0 : Nat) (x1 : Nat) (Q : Int32 → Prop) : Prop := kx_k 0 x0 = 1 ∧ (kx_k 0 x1 = 5 ∧ (∃ m4, p6_fittingKinds_L4 m4 σ x0 x1 (0 : Int32) (0 : Int32) Q))
set_option maxHeartbeats 4000000 in
theorem q6_fittingKinds {σ : kx_St} {x0 : Nat} {x1 : Nat} {Q : Int32 → Prop} (h : p6_fittingKinds σ x0 x1 Q) : Met l yX6_fittingKinds (Cond.code yX6_fittingKinds cX6_fittingKinds 4 (some .int) :: kx_big) rm6_fittingKinds (va_Pc [.ref (ad x0), .ref (ad x1)] (kx_Wd D cy 0 ad A σ)) (kx_Qc kx_ci (fun u r => u = σ ∧ Q r) (kx_Wd D cy 0 ad A) A) 0 0 A := by
  refine kx_head (plainFor_of_name (by decide)) (Nat.le_of_ble_eq_true rfl) ?_
  intro p e s m below meth c ls cx hP hD hS hl
  obtain ⟨hx, hb, hr, hlocks, hml, hown, hts, hK⟩ := id cx
  obtain ⟨hk_x0, h⟩ := h
  obtain ⟨hk_x1, h⟩ := h
  have hl : lv_has ls 4 [(0, .ref (ad x0)), (1, .ref (ad x1))] := hl
  refine lv_iconst (pc := 0) (v := (0 : Int32)) hx hb dX6_fittingKinds_0 (by decide) ?_
  refine lv_istore_n (pc := 1) (lv' := [(2, .int (0 : Int32)), (0, .ref (ad x0)), (1, .ref (ad x1))]) hx hb dX6_fittingKinds_1 rfl hl (by decide) rfl (fun ls hl => ?_)
  refine lv_iconst (pc := 2) (v := (0 : Int32)) hx hb dX6_fittingKinds_2 (by decide) ?_
  refine lv_istore_n (pc := 3) (lv' := [(3, .int (0 : Int32)), (2, .int (0 : Int32)), (0, .ref (ad x0)), (1, .ref (ad x1))]) hx hb dX6_fittingKinds_3 rfl hl (by decide) rfl (fun ls hl => ?_)
  obtain ⟨n0, h⟩ := h
  exact w6_fittingKinds_L4 cx  n0 _ _ _ _ _ _ _ hk_x0 hk_x1 h hP hD hS (lv_sub hl [2, 3, 1, 0] rfl)
def p6_kinds (σ : kx_St) (x1 : Int32) (x2 : Int32) (Q : kx_St → Int32 → Prop) : Prop := p3_kiteAt σ 4 x1 (fun o1 => (o1 = none → p6_pick σ 1 x2 (fun o3 => (o3 = none → Q σ (-1 : Int32)) ∧ (∀ b4, o3 = some b4 → kx_k 0 b4 = 5 ∧ (Q σ (-1 : Int32))))) ∧ (∀ b2, o1 = some b2 → kx_k 0 b2 = 1 ∧ (p6_pick σ 1 x2 (fun o5 => (o5 = none → Q σ (-1 : Int32)) ∧ (∀ b6, o5 = some b6 → kx_k 0 b6 = 5 ∧ (p6_findingOfPairs σ b6 (fun r7 => (r7 = 0 → p6_fittingKinds σ b2 b6 (fun r9 => Q σ r9)) ∧ (¬ r7 = 0 → p6_found σ r7 (fun σ11 r10 => Q σ11 r10)))))))))
set_option maxHeartbeats 4000000 in
theorem q6_kinds {σ : kx_St} {x1 : Int32} {x2 : Int32} {Q : kx_St → Int32 → Prop} (h : p6_kinds σ x1 x2 Q) : Met l yX6_kinds (Cond.code yX6_kinds cX6_kinds 6 (some .int) :: kx_big) rm6_kinds (va_Pc [.ref (ad 0), .int x1, .int x2] (kx_Wd D cy 0 ad A σ)) (kx_Qc kx_ci Q (kx_Wd D cy 0 ad A) A) 0 0 A := by
  refine kx_head (plainFor_of_name (by decide)) (Nat.le_of_ble_eq_true rfl) ?_
  intro p e s m below meth c ls cx hP hD hS hl
  obtain ⟨hx, hb, hr, hlocks, hml, hown, hts, hK⟩ := id cx
  have hl : lv_has ls 6 [(0, .ref (ad 0)), (1, .int x1), (2, .int x2)] := hl
  refine lv_aload_n (pc := 0) hx hb dX6_kinds_0 rfl (lv_at hl 0 rfl) ?_
  refine fg6_25 (pc := 1) (b := 4) hx hb hown hts hK hP rfl rfl dX6_kinds_1 ?_
  refine lv_iload_n (pc := 4) hx hb dX6_kinds_4 rfl (lv_at hl 1 rfl) ?_
  refine kx_iVr (pc := 5) [.int x1] hx hb hml hown hts hK hP hD hS (q3_kiteAt h) (cw6_131 hts ⟨Nat.le_of_ble_eq_true rfl, Nat.le_of_ble_eq_true rfl⟩) rfl (by decide) rfl rfl hl.1 rfl (Nat.le_of_ble_eq_true rfl) ⟨Nat.le_of_ble_eq_true rfl, Nat.le_of_ble_eq_true rfl⟩ dX6_kinds_5 (fun o1 u_ H locs hP hD hS h => ?_)
  obtain ⟨hu_, h⟩ := h
  rw [hu_] at hP hD
  rcases o1 with _ | b2
  · have h := h.1 rfl
    refine lv_astore_nN (pc := 8) (lv' := [(3, .null), (0, .ref (ad 0)), (1, .int x1), (2, .int x2)]) hx hb dX6_kinds_8 rfl hl (by decide) rfl (fun ls hl => ?_)
    refine lv_aload_n (pc := 9) hx hb dX6_kinds_9 rfl (lv_at hl 1 rfl) ?_
    refine fg6_11 (pc := 10) (b := 1) hx hb hown hts hK hP rfl rfl dX6_kinds_10 ?_
    refine lv_iload_n (pc := 13) hx hb dX6_kinds_13 rfl (lv_at hl 3 rfl) ?_
    refine kx_iSr (pc := 14) [.ref (ad 1), .int x2] hx hb hml hown hts hK hP hD hS (q6_pick h) (cw6_74 hts ⟨Nat.le_of_ble_eq_true rfl, Nat.le_of_ble_eq_true rfl⟩) rfl hl.1 rfl (Nat.le_of_ble_eq_true rfl) ⟨Nat.le_of_ble_eq_true rfl, Nat.le_of_ble_eq_true rfl⟩ dX6_kinds_14 (fun o3 u_ H locs hP hD hS h => ?_)
    obtain ⟨hu_, h⟩ := h
    rw [hu_] at hP hD
    rcases o3 with _ | b4
    · have h := h.1 rfl
      refine lv_astoreN (pc := 17) (lv' := [(4, .null), (3, .null), (0, .ref (ad 0)), (1, .int x1), (2, .int x2)]) hx hb dX6_kinds_17 hl (by decide) rfl (fun ls hl => ?_)
      refine lv_aload_nN (pc := 19) hx hb dX6_kinds_19 rfl (lv_at hl 1 rfl) ?_
      refine lv_ifnullN (pc := 20) (tgt := 28) hx hb dX6_kinds_20 (by decide) ?_
      refine lv_iconst (pc := 28) (v := (-1 : Int32)) hx hb dX6_kinds_28 (by decide) ?_
      exact kx_iret (pc := 29) hx hb hr hlocks hK hP hD hS h dX6_kinds_29
    · obtain ⟨hk_b4, h⟩ := h.2 b4 rfl
      refine lv_astore (pc := 17) (lv' := [(4, .ref (ad b4)), (3, .null), (0, .ref (ad 0)), (1, .int x1), (2, .int x2)]) hx hb dX6_kinds_17 hl (by decide) rfl (fun ls hl => ?_)
      refine lv_aload_nN (pc := 19) hx hb dX6_kinds_19 rfl (lv_at hl 1 rfl) ?_
      refine lv_ifnullN (pc := 20) (tgt := 28) hx hb dX6_kinds_20 (by decide) ?_
      refine lv_iconst (pc := 28) (v := (-1 : Int32)) hx hb dX6_kinds_28 (by decide) ?_
      exact kx_iret (pc := 29) hx hb hr hlocks hK hP hD hS h dX6_kinds_29
  · obtain ⟨hk_b2, h⟩ := h.2 b2 rfl
    refine lv_astore_n (pc := 8) (lv' := [(3, .ref (ad b2)), (0, .ref (ad 0)), (1, .int x1), (2, .int x2)]) hx hb dX6_kinds_8 rfl hl (by decide) rfl (fun ls hl => ?_)
    refine lv_aload_n (pc := 9) hx hb dX6_kinds_9 rfl (lv_at hl 1 rfl) ?_
    refine fg6_11 (pc := 10) (b := 1) hx hb hown hts hK hP rfl rfl dX6_kinds_10 ?_
    refine lv_iload_n (pc := 13) hx hb dX6_kinds_13 rfl (lv_at hl 3 rfl) ?_
    refine kx_iSr (pc := 14) [.ref (ad 1), .int x2] hx hb hml hown hts hK hP hD hS (q6_pick h) (cw6_74 hts ⟨Nat.le_of_ble_eq_true rfl, Nat.le_of_ble_eq_true rfl⟩) rfl hl.1 rfl (Nat.le_of_ble_eq_true rfl) ⟨Nat.le_of_ble_eq_true rfl, Nat.le_of_ble_eq_true rfl⟩ dX6_kinds_14 (fun o5 u_ H locs hP hD hS h => ?_)
    obtain ⟨hu_, h⟩ := h
    rw [hu_] at hP hD
    rcases o5 with _ | b6
    · have h := h.1 rfl
      refine lv_astoreN (pc := 17) (lv' := [(4, .null), (3, .ref (ad b2)), (0, .ref (ad 0)), (1, .int x1), (2, .int x2)]) hx hb dX6_kinds_17 hl (by decide) rfl (fun ls hl => ?_)
      refine lv_aload_n (pc := 19) hx hb dX6_kinds_19 rfl (lv_at hl 1 rfl) ?_
      refine lv_ifnull (pc := 20) hx hb dX6_kinds_20 ?_
      refine lv_aloadN (pc := 23) hx hb dX6_kinds_23 (lv_at hl 0 rfl) ?_
      refine lv_ifnonnullN (pc := 25) hx hb dX6_kinds_25 ?_
      refine lv_iconst (pc := 28) (v := (-1 : Int32)) hx hb dX6_kinds_28 (by decide) ?_
      exact kx_iret (pc := 29) hx hb hr hlocks hK hP hD hS h dX6_kinds_29
    · obtain ⟨hk_b6, h⟩ := h.2 b6 rfl
      refine lv_astore (pc := 17) (lv' := [(4, .ref (ad b6)), (3, .ref (ad b2)), (0, .ref (ad 0)), (1, .int x1), (2, .int x2)]) hx hb dX6_kinds_17 hl (by decide) rfl (fun ls hl => ?_)
      refine lv_aload_n (pc := 19) hx hb dX6_kinds_19 rfl (lv_at hl 1 rfl) ?_
      refine lv_ifnull (pc := 20) hx hb dX6_kinds_20 ?_
      refine lv_aload (pc := 23) hx hb dX6_kinds_23 (lv_at hl 0 rfl) ?_
      refine lv_ifnonnull (pc := 25) (tgt := 30) hx hb dX6_kinds_25 (by decide) ?_
      refine lv_aload (pc := 30) hx hb dX6_kinds_30 (lv_at hl 0 rfl) ?_
      refine kx_iSi (pc := 32) [.ref (ad b6)] hx hb hml hown hts hK hP hD hS (q6_findingOfPairs h) (cw6_232 hts ⟨Nat.le_of_ble_eq_true rfl, Nat.le_of_ble_eq_true rfl⟩) rfl hl.1 rfl (Nat.le_of_ble_eq_true rfl) ⟨Nat.le_of_ble_eq_true rfl, Nat.le_of_ble_eq_true rfl⟩ dX6_kinds_32 (fun r7 u_ H locs hP hD hS h => ?_)
      obtain ⟨hu_, h⟩ := h
      rw [hu_] at hP hD
      refine lv_istore (pc := 35) (lv' := [(5, .int r7), (4, .ref (ad b6)), (3, .ref (ad b2)), (0, .ref (ad 0)), (1, .int x1), (2, .int x2)]) hx hb dX6_kinds_35 hl (by decide) rfl (fun ls hl => ?_)
      refine lv_iload (pc := 37) hx hb dX6_kinds_37 (lv_at hl 0 rfl) ?_
      refine lv_if_eq (pc := 39) (tgt := 51) hx hb dX6_kinds_39 (by decide) (fun c8 => ?_) (fun c8 => ?_)
      · have h := h.1 c8
        refine lv_aload_n (pc := 51) hx hb dX6_kinds_51 rfl (lv_at hl 2 rfl) ?_
        refine lv_aload (pc := 52) hx hb dX6_kinds_52 (lv_at hl 1 rfl) ?_
        refine kx_iSi (pc := 54) [.ref (ad b2), .ref (ad b6)] hx hb hml hown hts hK hP hD hS (q6_fittingKinds h) (cw6_243 hts ⟨Nat.le_of_ble_eq_true rfl, Nat.le_of_ble_eq_true rfl⟩) rfl hl.1 rfl (Nat.le_of_ble_eq_true rfl) ⟨Nat.le_of_ble_eq_true rfl, Nat.le_of_ble_eq_true rfl⟩ dX6_kinds_54 (fun r9 u_ H locs hP hD hS h => ?_)
        obtain ⟨hu_, h⟩ := h
        rw [hu_] at hP hD
        exact kx_iret (pc := 57) hx hb hr hlocks hK hP hD hS h dX6_kinds_57
      · have h := h.2 c8
        refine lv_aload_n (pc := 42) hx hb dX6_kinds_42 rfl (lv_at hl 3 rfl) ?_
        refine lv_iload (pc := 43) hx hb dX6_kinds_43 (lv_at hl 0 rfl) ?_
        refine kx_iVi (pc := 45) [.int r7] hx hb hml hown hts hK hP hD hS (q6_found h) (cw6_86 hts ⟨Nat.le_of_ble_eq_true rfl, Nat.le_of_ble_eq_true rfl⟩) rfl (by decide) rfl rfl hl.1 rfl (Nat.le_of_ble_eq_true rfl) ⟨Nat.le_of_ble_eq_true rfl, Nat.le_of_ble_eq_true rfl⟩ dX6_kinds_45 (fun r10 σ11 H locs hP hD hS h => ?_)
        refine lv_goto (pc := 48) (tgt := 57) hx hb dX6_kinds_48 (by decide) ?_
        exact kx_iret (pc := 57) hx hb hr hlocks hK hP hD hS h dX6_kinds_57
def p6_liftingAlike_L18 : Nat → kx_St → Nat → Int32 → Int32 → Int32 → Int32 → Int32 → (Int32 → Prop) → Prop
  | 0, _, _, _, _, _, _, _, _ => False
  | n + 1, σ, x0, x1, x2, x4, x5, x6, Q => ((6 : Int32) ≤ x6 → Q x5) ∧ (¬ (6 : Int32) ≤ x6 → (¬ ((x1 >>> (x6 &&& 31)) &&& (1 : Int32)) = (1 : Int32) → p6_liftingAlike_L18 n σ x0 x1 x2 x4 x5 (x6 + (1 : Int32)) Q) ∧ (((x1 >>> (x6 &&& 31)) &&& (1 : Int32)) = (1 : Int32) → p1_liftAs σ x0 x6 (σ.1 x0 3) x2 (fun r3 => (¬ r3 = x4 → p6_liftingAlike_L18 n σ x0 x1 x2 x4 x5 (x6 + (1 : Int32)) Q) ∧ (r3 = x4 → p6_liftingAlike_L18 n σ x0 x1 x2 x4 (x5 + (1 : Int32)) (x6 + (1 : Int32)) Q))))
set_option maxHeartbeats 4000000 in
theorem w6_liftingAlike_L18 {σ : kx_St}  {Q : Int32 → Prop} (cx : kx_Cx p s m args meth c D cy RX6 cX6_liftingAlike 7 (some .int))  : ∀ (n : Nat) (x0 : Nat) (x1 : Int32) (x2 : Int32) (x4 : Int32) (x5 : Int32) (x6 : Int32) (H : Heap) (locs : List Loc) (ls : Array Slot), kx_k 0 x0 = 1 → p6_liftingAlike_L18 n σ x0 x1 x2 x4 x5 x6 Q → va_P D vwCl (kx_ws cy 0 ad σ) H → va_D A (kx_ws cy 0 ad σ) → va_S A s.heap H locs → lv_has ls 7 [(0, .ref (ad x0)), (1, .int x1), (2, .int x2), (4, .int x4), (5, .int x5), (6, .int x6)] → W p l e rm6_liftingAlike s m args below meth c H locs 0 0 (MQ below (kx_Qc kx_ci (fun u r => u = σ ∧ Q r) (kx_Wd D cy 0 ad A) A) args s 0 0 A) (F0 m 18 ls []) := by
  obtain ⟨hx, hb, hr, hlocks, hml, hown, hts, hK⟩ := id cx
  intro n
  induction n with
  | zero => intro _ _ _ _ _ _ _ _ _ _ h; exact False.elim h
  | succ n ih =>
    intro x0 x1 x2 x4 x5 x6 H locs ls hk_x0 h hP hD hS hl
    refine lv_iload (pc := 18) hx hb dX6_liftingAlike_18 (lv_at hl 5 rfl) ?_
    refine lv_bipush (pc := 20) (v := (6 : Int32)) hx hb dX6_liftingAlike_20 (by decide) ?_
    refine lv_icmp_ge (pc := 22) (tgt := 60) hx hb dX6_liftingAlike_22 (by decide) (fun c1 => ?_) (fun c1 => ?_)
    · have h := h.1 c1
      refine lv_iload (pc := 60) hx hb dX6_liftingAlike_60 (lv_at hl 4 rfl) ?_
      exact kx_iret (pc := 62) hx hb hr hlocks hK hP hD hS ⟨rfl, h⟩ dX6_liftingAlike_62
    · have h := h.2 c1
      refine lv_iload_n (pc := 25) hx hb dX6_liftingAlike_25 rfl (lv_at hl 1 rfl) ?_
      refine lv_iload (pc := 26) hx hb dX6_liftingAlike_26 (lv_at hl 5 rfl) ?_
      refine lv_ishr (pc := 28) hx hb dX6_liftingAlike_28 ?_
      refine lv_iconst (pc := 29) (v := (1 : Int32)) hx hb dX6_liftingAlike_29 (by decide) ?_
      refine lv_iand (pc := 30) hx hb dX6_liftingAlike_30 ?_
      refine lv_iconst (pc := 31) (v := (1 : Int32)) hx hb dX6_liftingAlike_31 (by decide) ?_
      refine lv_icmp_ne (pc := 32) (tgt := 54) hx hb dX6_liftingAlike_32 (by decide) (fun c2 => ?_) (fun c2 => ?_)
      · have h := h.1 c2
        refine lv_iinc (pc := 54) (v := (x6 + (1 : Int32))) (lv' := [(6, .int (x6 + (1 : Int32))), (0, .ref (ad x0)), (1, .int x1), (2, .int x2), (4, .int x4), (5, .int x5)]) hx hb dX6_liftingAlike_54 hl (k := 5) rfl rfl (by decide) rfl (fun ls hl => ?_)
        refine lv_goto (pc := 57) (tgt := 18) hx hb dX6_liftingAlike_57 (by decide) ?_
        exact ih _ _ _ _ _ _ _ _ _ hk_x0 h hP hD hS (lv_sub hl [1, 2, 3, 4, 5, 0] rfl)
      · have h := h.2 c2
        refine lv_aload_n (pc := 35) hx hb dX6_liftingAlike_35 rfl (lv_at hl 0 rfl) ?_
        refine lv_iload (pc := 36) hx hb dX6_liftingAlike_36 (lv_at hl 5 rfl) ?_
        refine lv_aload_n (pc := 38) hx hb dX6_liftingAlike_38 rfl (lv_at hl 0 rfl) ?_
        refine fg6_147 (pc := 39) hx hb hown hts hK hP hk_x0 dX6_liftingAlike_39 ?_
        refine lv_iload_n (pc := 42) hx hb dX6_liftingAlike_42 rfl (lv_at hl 2 rfl) ?_
        refine kx_iVi (pc := 43) [.int x6, .int (σ.1 x0 3), .int x2] hx hb hml hown hts hK hP hD hS (q1_liftAs h) (cw6_150 hts ⟨Nat.le_of_ble_eq_true rfl, Nat.le_of_ble_eq_true rfl⟩) hk_x0 (by decide) rfl rfl hl.1 rfl (Nat.le_of_ble_eq_true rfl) ⟨Nat.le_of_ble_eq_true rfl, Nat.le_of_ble_eq_true rfl⟩ dX6_liftingAlike_43 (fun r3 u_ H locs hP hD hS h => ?_)
        obtain ⟨hu_, h⟩ := h
        rw [hu_] at hP hD
        refine lv_iload (pc := 46) hx hb dX6_liftingAlike_46 (lv_at hl 3 rfl) ?_
        refine lv_icmp_ne (pc := 48) (tgt := 54) hx hb dX6_liftingAlike_48 (by decide) (fun c4 => ?_) (fun c4 => ?_)
        · have h := h.1 c4
          refine lv_iinc (pc := 54) (v := (x6 + (1 : Int32))) (lv' := [(6, .int (x6 + (1 : Int32))), (0, .ref (ad x0)), (1, .int x1), (2, .int x2), (4, .int x4), (5, .int x5)]) hx hb dX6_liftingAlike_54 hl (k := 5) rfl rfl (by decide) rfl (fun ls hl => ?_)
          refine lv_goto (pc := 57) (tgt := 18) hx hb dX6_liftingAlike_57 (by decide) ?_
          exact ih _ _ _ _ _ _ _ _ _ hk_x0 h hP hD hS (lv_sub hl [1, 2, 3, 4, 5, 0] rfl)
        · have h := h.2 c4
          refine lv_iinc (pc := 51) (v := (x5 + (1 : Int32))) (lv' := [(5, .int (x5 + (1 : Int32))), (0, .ref (ad x0)), (1, .int x1), (2, .int x2), (4, .int x4), (6, .int x6)]) hx hb dX6_liftingAlike_51 hl (k := 4) rfl rfl (by decide) rfl (fun ls hl => ?_)
          refine lv_iinc (pc := 54) (v := (x6 + (1 : Int32))) (lv' := [(6, .int (x6 + (1 : Int32))), (5, .int (x5 + (1 : Int32))), (0, .ref (ad x0)), (1, .int x1), (2, .int x2), (4, .int x4)]) hx hb dX6_liftingAlike_54 hl (k := 5) rfl rfl (by decide) rfl (fun ls hl => ?_)
          refine lv_goto (pc := 57) (tgt := 18) hx hb dX6_liftingAlike_57 (by decide) ?_
          exact ih _ _ _ _ _ _ _ _ _ hk_x0 h hP hD hS (lv_sub hl [2, 3, 4, 5, 1, 0] rfl)
def p6_liftingAlike (σ : kx_St) (x0 : Nat) (x1 : Int32) (x2 : Int32) (x3 : Int32) (Q : Int32 → Prop) : Prop := kx_k 0 x0 = 1 ∧ (p1_liftAs σ x0 x3 (σ.1 x0 3) x2 (fun r1 => ∃ m18, p6_liftingAlike_L18 m18 σ x0 x1 x2 r1 (0 : Int32) (0 : Int32) Q))
set_option maxHeartbeats 4000000 in
theorem q6_liftingAlike {σ : kx_St} {x0 : Nat} {x1 : Int32} {x2 : Int32} {x3 : Int32} {Q : Int32 → Prop} (h : p6_liftingAlike σ x0 x1 x2 x3 Q) : Met l yX6_liftingAlike (Cond.code yX6_liftingAlike cX6_liftingAlike 7 (some .int) :: kx_big) rm6_liftingAlike (va_Pc [.ref (ad x0), .int x1, .int x2, .int x3] (kx_Wd D cy 0 ad A σ)) (kx_Qc kx_ci (fun u r => u = σ ∧ Q r) (kx_Wd D cy 0 ad A) A) 0 0 A := by
  refine kx_head (plainFor_of_name (by decide)) (Nat.le_of_ble_eq_true rfl) ?_
  intro p e s m below meth c ls cx hP hD hS hl
  obtain ⟨hx, hb, hr, hlocks, hml, hown, hts, hK⟩ := id cx
  obtain ⟨hk_x0, h⟩ := h
  have hl : lv_has ls 7 [(0, .ref (ad x0)), (1, .int x1), (2, .int x2), (3, .int x3)] := hl
  refine lv_aload_n (pc := 0) hx hb dX6_liftingAlike_0 rfl (lv_at hl 0 rfl) ?_
  refine lv_iload_n (pc := 1) hx hb dX6_liftingAlike_1 rfl (lv_at hl 3 rfl) ?_
  refine lv_aload_n (pc := 2) hx hb dX6_liftingAlike_2 rfl (lv_at hl 0 rfl) ?_
  refine fg6_147 (pc := 3) hx hb hown hts hK hP hk_x0 dX6_liftingAlike_3 ?_
  refine lv_iload_n (pc := 6) hx hb dX6_liftingAlike_6 rfl (lv_at hl 2 rfl) ?_
  refine kx_iVi (pc := 7) [.int x3, .int (σ.1 x0 3), .int x2] hx hb hml hown hts hK hP hD hS (q1_liftAs h) (cw6_150 hts ⟨Nat.le_of_ble_eq_true rfl, Nat.le_of_ble_eq_true rfl⟩) hk_x0 (by decide) rfl rfl hl.1 rfl (Nat.le_of_ble_eq_true rfl) ⟨Nat.le_of_ble_eq_true rfl, Nat.le_of_ble_eq_true rfl⟩ dX6_liftingAlike_7 (fun r1 u_ H locs hP hD hS h => ?_)
  obtain ⟨hu_, h⟩ := h
  rw [hu_] at hP hD
  refine lv_istore (pc := 10) (lv' := [(4, .int r1), (0, .ref (ad x0)), (1, .int x1), (2, .int x2), (3, .int x3)]) hx hb dX6_liftingAlike_10 hl (by decide) rfl (fun ls hl => ?_)
  refine lv_iconst (pc := 12) (v := (0 : Int32)) hx hb dX6_liftingAlike_12 (by decide) ?_
  refine lv_istore (pc := 13) (lv' := [(5, .int (0 : Int32)), (4, .int r1), (0, .ref (ad x0)), (1, .int x1), (2, .int x2), (3, .int x3)]) hx hb dX6_liftingAlike_13 hl (by decide) rfl (fun ls hl => ?_)
  refine lv_iconst (pc := 15) (v := (0 : Int32)) hx hb dX6_liftingAlike_15 (by decide) ?_
  refine lv_istore (pc := 16) (lv' := [(6, .int (0 : Int32)), (5, .int (0 : Int32)), (4, .int r1), (0, .ref (ad x0)), (1, .int x1), (2, .int x2), (3, .int x3)]) hx hb dX6_liftingAlike_16 hl (by decide) rfl (fun ls hl => ?_)
  obtain ⟨n0, h⟩ := h
  exact w6_liftingAlike_L18 cx  n0 _ _ _ _ _ _ _ _ _ hk_x0 h hP hD hS (lv_sub hl [3, 4, 5, 2, 1, 0] rfl)
def p6_greatestPart_L5 : Nat → kx_St → Nat → Int32 → Int32 → Int32 → Int32 → (Int32 → Prop) → Prop
  | 0, _, _, _, _, _, _, _ => False
  | n + 1, σ, x0, x1, x2, x3, x4, Q => ((6 : Int32) ≤ x4 → Q x3) ∧ (¬ (6 : Int32) ≤ x4 → (¬ ((x1 >>> (x4 &&& 31)) &&& (1 : Int32)) = (1 : Int32) → p6_greatestPart_L5 n σ x0 x1 x2 x3 (x4 + (1 : Int32)) Q) ∧ (((x1 >>> (x4 &&& 31)) &&& (1 : Int32)) = (1 : Int32) → p6_liftingAlike σ x0 x1 x2 x4 (fun r3 => pJ9_max_7cf53 x3 r3 (fun r4 => p6_greatestPart_L5 n σ x0 x1 x2 r4 (x4 + (1 : Int32)) Q))))
set_option maxHeartbeats 4000000 in
theorem w6_greatestPart_L5 {σ : kx_St}  {Q : Int32 → Prop} (cx : kx_Cx p s m args meth c D cy RX6 cX6_greatestPart 5 (some .int))  : ∀ (n : Nat) (x0 : Nat) (x1 : Int32) (x2 : Int32) (x3 : Int32) (x4 : Int32) (H : Heap) (locs : List Loc) (ls : Array Slot), kx_k 0 x0 = 1 → p6_greatestPart_L5 n σ x0 x1 x2 x3 x4 Q → va_P D vwCl (kx_ws cy 0 ad σ) H → va_D A (kx_ws cy 0 ad σ) → va_S A s.heap H locs → lv_has ls 5 [(0, .ref (ad x0)), (1, .int x1), (2, .int x2), (3, .int x3), (4, .int x4)] → W p l e rm6_greatestPart s m args below meth c H locs 0 0 (MQ below (kx_Qc kx_ci (fun u r => u = σ ∧ Q r) (kx_Wd D cy 0 ad A) A) args s 0 0 A) (F0 m 5 ls []) := by
  obtain ⟨hx, hb, hr, hlocks, hml, hown, hts, hK⟩ := id cx
  intro n
  induction n with
  | zero => intro _ _ _ _ _ _ _ _ _ h; exact False.elim h
  | succ n ih =>
    intro x0 x1 x2 x3 x4 H locs ls hk_x0 h hP hD hS hl
    refine lv_iload (pc := 5) hx hb dX6_greatestPart_5 (lv_at hl 4 rfl) ?_
    refine lv_bipush (pc := 7) (v := (6 : Int32)) hx hb dX6_greatestPart_7 (by decide) ?_
    refine lv_icmp_ge (pc := 9) (tgt := 41) hx hb dX6_greatestPart_9 (by decide) (fun c1 => ?_) (fun c1 => ?_)
    · have h := h.1 c1
      refine lv_iload_n (pc := 41) hx hb dX6_greatestPart_41 rfl (lv_at hl 3 rfl) ?_
      exact kx_iret (pc := 42) hx hb hr hlocks hK hP hD hS ⟨rfl, h⟩ dX6_greatestPart_42
    · have h := h.2 c1
      refine lv_iload_n (pc := 12) hx hb dX6_greatestPart_12 rfl (lv_at hl 1 rfl) ?_
      refine lv_iload (pc := 13) hx hb dX6_greatestPart_13 (lv_at hl 4 rfl) ?_
      refine lv_ishr (pc := 15) hx hb dX6_greatestPart_15 ?_
      refine lv_iconst (pc := 16) (v := (1 : Int32)) hx hb dX6_greatestPart_16 (by decide) ?_
      refine lv_iand (pc := 17) hx hb dX6_greatestPart_17 ?_
      refine lv_iconst (pc := 18) (v := (1 : Int32)) hx hb dX6_greatestPart_18 (by decide) ?_
      refine lv_icmp_ne (pc := 19) (tgt := 35) hx hb dX6_greatestPart_19 (by decide) (fun c2 => ?_) (fun c2 => ?_)
      · have h := h.1 c2
        refine lv_iinc (pc := 35) (v := (x4 + (1 : Int32))) (lv' := [(4, .int (x4 + (1 : Int32))), (0, .ref (ad x0)), (1, .int x1), (2, .int x2), (3, .int x3)]) hx hb dX6_greatestPart_35 hl (k := 4) rfl rfl (by decide) rfl (fun ls hl => ?_)
        refine lv_goto (pc := 38) (tgt := 5) hx hb dX6_greatestPart_38 (by decide) ?_
        exact ih _ _ _ _ _ _ _ _ hk_x0 h hP hD hS (lv_sub hl [1, 2, 3, 4, 0] rfl)
      · have h := h.2 c2
        refine lv_iload_n (pc := 22) hx hb dX6_greatestPart_22 rfl (lv_at hl 3 rfl) ?_
        refine lv_aload_n (pc := 23) hx hb dX6_greatestPart_23 rfl (lv_at hl 0 rfl) ?_
        refine lv_iload_n (pc := 24) hx hb dX6_greatestPart_24 rfl (lv_at hl 1 rfl) ?_
        refine lv_iload_n (pc := 25) hx hb dX6_greatestPart_25 rfl (lv_at hl 2 rfl) ?_
        refine lv_iload (pc := 26) hx hb dX6_greatestPart_26 (lv_at hl 4 rfl) ?_
        refine kx_iSi (pc := 28) [.ref (ad x0), .int x1, .int x2, .int x4] hx hb hml hown hts hK hP hD hS (q6_liftingAlike h) (cw6_319 hts ⟨Nat.le_of_ble_eq_true rfl, Nat.le_of_ble_eq_true rfl⟩) rfl hl.1 rfl (Nat.le_of_ble_eq_true rfl) ⟨Nat.le_of_ble_eq_true rfl, Nat.le_of_ble_eq_true rfl⟩ dX6_greatestPart_28 (fun r3 u_ H locs hP hD hS h => ?_)
        obtain ⟨hu_, h⟩ := h
        rw [hu_] at hP hD
        refine kx_iSi (pc := 31) [.int x3, .int r3] hx hb hml hown hts hK hP hD hS (qJ9_max_7cf53 h) (cw6_323 hts ⟨Nat.le_of_ble_eq_true rfl, Nat.le_of_ble_eq_true rfl⟩) rfl hl.1 rfl (Nat.le_of_ble_eq_true rfl) ⟨Nat.le_of_ble_eq_true rfl, Nat.le_of_ble_eq_true rfl⟩ dX6_greatestPart_31 (fun r4 u_ H locs hP hD hS h => ?_)
        obtain ⟨hu_, h⟩ := h
        rw [hu_] at hP hD
        refine lv_istore_n (pc := 34) (lv' := [(3, .int r4), (0, .ref (ad x0)), (1, .int x1), (2, .int x2), (4, .int x4)]) hx hb dX6_greatestPart_34 rfl hl (by decide) rfl (fun ls hl => ?_)
        refine lv_iinc (pc := 35) (v := (x4 + (1 : Int32))) (lv' := [(4, .int (x4 + (1 : Int32))), (3, .int r4), (0, .ref (ad x0)), (1, .int x1), (2, .int x2)]) hx hb dX6_greatestPart_35 hl (k := 4) rfl rfl (by decide) rfl (fun ls hl => ?_)
        refine lv_goto (pc := 38) (tgt := 5) hx hb dX6_greatestPart_38 (by decide) ?_
        exact ih _ _ _ _ _ _ _ _ hk_x0 h hP hD hS (lv_sub hl [2, 3, 4, 1, 0] rfl)
def p6_greatestPart (σ : kx_St) (x0 : Nat) (x1 : Int32) (x2 : Int32) (Q : Int32 → Prop) : Prop := kx_k 0 x0 = 1 ∧ (∃ m5, p6_greatestPart_L5 m5 σ x0 x1 x2 (0 : Int32) (0 : Int32) Q)
set_option maxHeartbeats 4000000 in
theorem q6_greatestPart {σ : kx_St} {x0 : Nat} {x1 : Int32} {x2 : Int32} {Q : Int32 → Prop} (h : p6_greatestPart σ x0 x1 x2 Q) : Met l yX6_greatestPart (Cond.code yX6_greatestPart cX6_greatestPart 5 (some .int) :: kx_big) rm6_greatestPart (va_Pc [.ref (ad x0), .int x1, .int x2] (kx_Wd D cy 0 ad A σ)) (kx_Qc kx_ci (fun u r => u = σ ∧ Q r) (kx_Wd D cy 0 ad A) A) 0 0 A := by
  refine kx_head (plainFor_of_name (by decide)) (Nat.le_of_ble_eq_true rfl) ?_
  intro p e s m below meth c ls cx hP hD hS hl
  obtain ⟨hx, hb, hr, hlocks, hml, hown, hts, hK⟩ := id cx
  obtain ⟨hk_x0, h⟩ := h
  have hl : lv_has ls 5 [(0, .ref (ad x0)), (1, .int x1), (2, .int x2)] := hl
  refine lv_iconst (pc := 0) (v := (0 : Int32)) hx hb dX6_greatestPart_0 (by decide) ?_
  refine lv_istore_n (pc := 1) (lv' := [(3, .int (0 : Int32)), (0, .ref (ad x0)), (1, .int x1), (2, .int x2)]) hx hb dX6_greatestPart_1 rfl hl (by decide) rfl (fun ls hl => ?_)
  refine lv_iconst (pc := 2) (v := (0 : Int32)) hx hb dX6_greatestPart_2 (by decide) ?_
  refine lv_istore (pc := 3) (lv' := [(4, .int (0 : Int32)), (3, .int (0 : Int32)), (0, .ref (ad x0)), (1, .int x1), (2, .int x2)]) hx hb dX6_greatestPart_3 hl (by decide) rfl (fun ls hl => ?_)
  obtain ⟨n0, h⟩ := h
  exact w6_greatestPart_L5 cx  n0 _ _ _ _ _ _ _ _ hk_x0 h hP hD hS (lv_sub hl [2, 3, 4, 1, 0] rfl)
end
