section
variable {p : Program} {l : Launch} {e : Env} {s : State} {m : MethodId} {args : Array Value} {below : List Frame} {meth : Method} {c : Code} {D : va_G} {cy : Nat → ClassId} {ad : Nat → Nat} {A : Nat → Prop}

def p7_in (x0 : Int64) (x2 : Int64) (x4 : Int64) (Q : Int32 → Prop) : Prop := ((lg_cmp x0 x2) < 0 → Q (0 : Int32)) ∧ (¬ (lg_cmp x0 x2) < 0 → (0 < (lg_cmp x0 x4) → Q (0 : Int32)) ∧ (¬ 0 < (lg_cmp x0 x4) → Q (1 : Int32)))
set_option maxHeartbeats 4000000 in
theorem q7_in {σ : kx_St} {x0 : Int64} {x2 : Int64} {x4 : Int64} {Q : Int32 → Prop} (h : p7_in x0 x2 x4 Q) : Met l yX7_in (Cond.code yX7_in cX7_in 6 (some .boolean) :: kx_big) rm7_in (va_Pc [.long x0, .long x2, .long x4] (kx_Wd D cy 1 ad A σ)) (kx_Qc kx_ci (fun u r => u = σ ∧ Q r) (kx_Wd D cy 1 ad A) A) 0 0 A := by
  refine kx_head (plainFor_of_name (by decide)) (Nat.le_of_ble_eq_true rfl) ?_
  intro p e s m below meth c ls cx hP hD hS hl
  obtain ⟨hx, hb, hr, hlocks, hml, hown, hts, hK⟩ := id cx
  have hl : lv_has ls 6 [(0, .long x0), (2, .long x2), (4, .long x4)] := hl
  refine lv_lload_n (pc := 0) hx hb dX7_in_0 rfl (lv_at hl 0 rfl) ?_
  refine lv_lload_n (pc := 1) hx hb dX7_in_1 rfl (lv_at hl 1 rfl) ?_
  refine W.lcmp (pc := 2) hx hb dX7_in_2 ?_
  refine lv_if_lt (pc := 3) (tgt := 17) hx hb dX7_in_3 (by decide) (fun c1 => ?_) (fun c1 => ?_)
  · have h := h.1 c1
    refine lv_iconst (pc := 17) (v := (0 : Int32)) hx hb dX7_in_17 (by decide) ?_
    exact kx_zret (pc := 18) hx hb hr hlocks hK hP hD hS (by decide) ⟨rfl, h⟩ dX7_in_18
  · have h := h.2 c1
    refine lv_lload_n (pc := 6) hx hb dX7_in_6 rfl (lv_at hl 0 rfl) ?_
    refine lv_lload (pc := 7) hx hb dX7_in_7 (lv_at hl 2 rfl) ?_
    refine W.lcmp (pc := 9) hx hb dX7_in_9 ?_
    refine lv_if_gt (pc := 10) (tgt := 17) hx hb dX7_in_10 (by decide) (fun c2 => ?_) (fun c2 => ?_)
    · have h := h.1 c2
      refine lv_iconst (pc := 17) (v := (0 : Int32)) hx hb dX7_in_17 (by decide) ?_
      exact kx_zret (pc := 18) hx hb hr hlocks hK hP hD hS (by decide) ⟨rfl, h⟩ dX7_in_18
    · have h := h.2 c2
      refine lv_iconst (pc := 13) (v := (1 : Int32)) hx hb dX7_in_13 (by decide) ?_
      refine lv_goto (pc := 14) (tgt := 18) hx hb dX7_in_14 (by decide) ?_
      exact kx_zret (pc := 18) hx hb hr hlocks hK hP hD hS (by decide) ⟨rfl, h⟩ dX7_in_18
def p7_has (x0 : Int32) (x1 : Int32) (Q : Int32 → Prop) : Prop := (¬ ((x0 >>> (x1 &&& 31)) &&& (1 : Int32)) = (1 : Int32) → Q (0 : Int32)) ∧ (((x0 >>> (x1 &&& 31)) &&& (1 : Int32)) = (1 : Int32) → Q (1 : Int32))
set_option maxHeartbeats 4000000 in
theorem q7_has {σ : kx_St} {x0 : Int32} {x1 : Int32} {Q : Int32 → Prop} (h : p7_has x0 x1 Q) : Met l yX7_has (Cond.code yX7_has cX7_has 2 (some .boolean) :: kx_big) rm7_has (va_Pc [.int x0, .int x1] (kx_Wd D cy 1 ad A σ)) (kx_Qc kx_ci (fun u r => u = σ ∧ Q r) (kx_Wd D cy 1 ad A) A) 0 0 A := by
  refine kx_head (plainFor_of_name (by decide)) (Nat.le_of_ble_eq_true rfl) ?_
  intro p e s m below meth c ls cx hP hD hS hl
  obtain ⟨hx, hb, hr, hlocks, hml, hown, hts, hK⟩ := id cx
  have hl : lv_has ls 2 [(0, .int x0), (1, .int x1)] := hl
  refine lv_iload_n (pc := 0) hx hb dX7_has_0 rfl (lv_at hl 0 rfl) ?_
  refine lv_iload_n (pc := 1) hx hb dX7_has_1 rfl (lv_at hl 1 rfl) ?_
  refine lv_ishr (pc := 2) hx hb dX7_has_2 ?_
  refine lv_iconst (pc := 3) (v := (1 : Int32)) hx hb dX7_has_3 (by decide) ?_
  refine lv_iand (pc := 4) hx hb dX7_has_4 ?_
  refine lv_iconst (pc := 5) (v := (1 : Int32)) hx hb dX7_has_5 (by decide) ?_
  refine lv_icmp_ne (pc := 6) (tgt := 13) hx hb dX7_has_6 (by decide) (fun c1 => ?_) (fun c1 => ?_)
  · have h := h.1 c1
    refine lv_iconst (pc := 13) (v := (0 : Int32)) hx hb dX7_has_13 (by decide) ?_
    exact kx_zret (pc := 14) hx hb hr hlocks hK hP hD hS (by decide) ⟨rfl, h⟩ dX7_has_14
  · have h := h.2 c1
    refine lv_iconst (pc := 9) (v := (1 : Int32)) hx hb dX7_has_9 (by decide) ?_
    refine lv_goto (pc := 10) (tgt := 14) hx hb dX7_has_10 (by decide) ?_
    exact kx_zret (pc := 14) hx hb hr hlocks hK hP hD hS (by decide) ⟨rfl, h⟩ dX7_has_14
def p7_find (σ : kx_St) (x1 : Int32) (Q : kx_St → Int32 → Prop) : Prop := (fun σ1 : kx_St => vp_in x1 6 ∧ (vp_in x1 6 ∧ ((fun σ4 : kx_St => Q σ4 (-3 : Int32)) (kx_sI σ1 10 x1.toNatClampNeg ((σ1.1 10 x1.toNatClampNeg) + (1 : Int32)))))) (kx_sI σ 0 14 x1)
set_option maxHeartbeats 4000000 in
theorem q7_find {σ : kx_St} {x1 : Int32} {Q : kx_St → Int32 → Prop} (h : p7_find σ x1 Q) : Met l yX7_find (Cond.code yX7_find cX7_find 2 (some .int) :: kx_big) rm7_find (va_Pc [.ref (ad 0), .int x1] (kx_Wd D cy 1 ad A σ)) (kx_Qc kx_ci Q (kx_Wd D cy 1 ad A) A) 0 0 A := by
  refine kx_head (plainFor_of_name (by decide)) (Nat.le_of_ble_eq_true rfl) ?_
  intro p e s m below meth c ls cx hP hD hS hl
  obtain ⟨hx, hb, hr, hlocks, hml, hown, hts, hK⟩ := id cx
  have hl : lv_has ls 2 [(0, .ref (ad 0)), (1, .int x1)] := hl
  refine lv_aload_n (pc := 0) hx hb dX7_find_0 rfl (lv_at hl 0 rfl) ?_
  refine lv_iload_n (pc := 1) hx hb dX7_find_1 rfl (lv_at hl 1 rfl) ?_
  refine fp7_68 (pc := 2) hx hb hown hts hK hP hD hS rfl dX7_find_2 (fun H locs hP hD hS => ?_)
  refine lv_aload_n (pc := 5) hx hb dX7_find_5 rfl (lv_at hl 0 rfl) ?_
  refine fg7_41 (pc := 6) (b := 10) hx hb hown hts hK hP rfl rfl dX7_find_6 ?_
  refine lv_iload_n (pc := 9) hx hb dX7_find_9 rfl (lv_at hl 1 rfl) ?_
  refine lv_dup2_11 (pc := 10) hx hb dX7_find_10 rfl rfl ?_
  obtain ⟨g2, h⟩ := h
  refine kx_iald (pc := 11) hx hb hK hP rfl g2 dX7_find_11 ?_
  refine lv_iconst (pc := 12) (v := (1 : Int32)) hx hb dX7_find_12 (by decide) ?_
  refine lv_iadd (pc := 13) hx hb dX7_find_13 ?_
  obtain ⟨g3, h⟩ := h
  refine kx_iast (pc := 14) hx hb hK hP hD hS rfl g3 dX7_find_14 (fun H locs hP hD hS => ?_)
  refine lv_bipush (pc := 15) (v := (-3 : Int32)) hx hb dX7_find_15 (by decide) ?_
  exact kx_iret (pc := 17) hx hb hr hlocks hK hP hD hS h dX7_find_17
def p7_tell (σ : kx_St) (x1 : Int32) (Q : kx_St → Int32 → Prop) : Prop := (fun σ1 : kx_St => Q σ1 (1 : Int32)) (kx_sI σ 0 11 x1)
set_option maxHeartbeats 4000000 in
theorem q7_tell {σ : kx_St} {x1 : Int32} {Q : kx_St → Int32 → Prop} (h : p7_tell σ x1 Q) : Met l yX7_tell (Cond.code yX7_tell cX7_tell 2 (some .int) :: kx_big) rm7_tell (va_Pc [.ref (ad 0), .int x1] (kx_Wd D cy 1 ad A σ)) (kx_Qc kx_ci Q (kx_Wd D cy 1 ad A) A) 0 0 A := by
  refine kx_head (plainFor_of_name (by decide)) (Nat.le_of_ble_eq_true rfl) ?_
  intro p e s m below meth c ls cx hP hD hS hl
  obtain ⟨hx, hb, hr, hlocks, hml, hown, hts, hK⟩ := id cx
  have hl : lv_has ls 2 [(0, .ref (ad 0)), (1, .int x1)] := hl
  refine lv_aload_n (pc := 0) hx hb dX7_tell_0 rfl (lv_at hl 0 rfl) ?_
  refine lv_iload_n (pc := 1) hx hb dX7_tell_1 rfl (lv_at hl 1 rfl) ?_
  refine fp7_72 (pc := 2) hx hb hown hts hK hP hD hS rfl dX7_tell_2 (fun H locs hP hD hS => ?_)
  refine lv_iconst (pc := 5) (v := (1 : Int32)) hx hb dX7_tell_5 (by decide) ?_
  exact kx_iret (pc := 6) hx hb hr hlocks hK hP hD hS h dX7_tell_6
def p7_isRow (x0 : Int32) (Q : Int32 → Prop) : Prop := p7_in (x0.toInt64) (0 : Int64) (5 : Int64) (fun r1 => (r1 = 0 ∨ r1 = 1) ∧ (Q r1))
set_option maxHeartbeats 4000000 in
theorem q7_isRow {σ : kx_St} {x0 : Int32} {Q : Int32 → Prop} (h : p7_isRow x0 Q) : Met l yX7_isRow (Cond.code yX7_isRow cX7_isRow 1 (some .boolean) :: kx_big) rm7_isRow (va_Pc [.int x0] (kx_Wd D cy 1 ad A σ)) (kx_Qc kx_ci (fun u r => u = σ ∧ Q r) (kx_Wd D cy 1 ad A) A) 0 0 A := by
  refine kx_head (plainFor_of_name (by decide)) (Nat.le_of_ble_eq_true rfl) ?_
  intro p e s m below meth c ls cx hP hD hS hl
  obtain ⟨hx, hb, hr, hlocks, hml, hown, hts, hK⟩ := id cx
  have hl : lv_has ls 1 [(0, .int x0)] := hl
  refine lv_iload_n (pc := 0) hx hb dX7_isRow_0 rfl (lv_at hl 0 rfl) ?_
  refine lv_i2l (pc := 1) (v := (x0.toInt64)) hx hb dX7_isRow_1 rfl ?_
  refine lv_lconst (pc := 2) (v := (0 : Int64)) hx hb dX7_isRow_2 (by decide) ?_
  refine lv_ldc2 (pc := 3) (v := (5 : Int64)) hx hb hown (hts _ tb_816) dX7_isRow_3 ?_
  refine kx_iSi (pc := 6) [.long (x0.toInt64), .long (0 : Int64), .long (5 : Int64)] hx hb hml hown hts hK hP hD hS (q7_in h) (cw7_77 hts ⟨Nat.le_of_ble_eq_true rfl, Nat.le_of_ble_eq_true rfl⟩) rfl hl.1 rfl (Nat.le_of_ble_eq_true rfl) ⟨Nat.le_of_ble_eq_true rfl, Nat.le_of_ble_eq_true rfl⟩ dX7_isRow_6 (fun r1 u_ H locs hP hD hS h => ?_)
  obtain ⟨hu_, h⟩ := h
  rw [hu_] at hP hD
  obtain ⟨g2, h⟩ := h
  exact kx_zret (pc := 9) hx hb hr hlocks hK hP hD hS g2 ⟨rfl, h⟩ dX7_isRow_9
def p7_isText (x0 : Int32) (Q : Int32 → Prop) : Prop := p7_in (x0.toInt64) (0 : Int64) (3 : Int64) (fun r1 => (r1 = 0 ∨ r1 = 1) ∧ (Q r1))
set_option maxHeartbeats 4000000 in
theorem q7_isText {σ : kx_St} {x0 : Int32} {Q : Int32 → Prop} (h : p7_isText x0 Q) : Met l yX7_isText (Cond.code yX7_isText cX7_isText 1 (some .boolean) :: kx_big) rm7_isText (va_Pc [.int x0] (kx_Wd D cy 1 ad A σ)) (kx_Qc kx_ci (fun u r => u = σ ∧ Q r) (kx_Wd D cy 1 ad A) A) 0 0 A := by
  refine kx_head (plainFor_of_name (by decide)) (Nat.le_of_ble_eq_true rfl) ?_
  intro p e s m below meth c ls cx hP hD hS hl
  obtain ⟨hx, hb, hr, hlocks, hml, hown, hts, hK⟩ := id cx
  have hl : lv_has ls 1 [(0, .int x0)] := hl
  refine lv_iload_n (pc := 0) hx hb dX7_isText_0 rfl (lv_at hl 0 rfl) ?_
  refine lv_i2l (pc := 1) (v := (x0.toInt64)) hx hb dX7_isText_1 rfl ?_
  refine lv_lconst (pc := 2) (v := (0 : Int64)) hx hb dX7_isText_2 (by decide) ?_
  refine lv_ldc2 (pc := 3) (v := (3 : Int64)) hx hb hown (hts _ tb_867) dX7_isText_3 ?_
  refine kx_iSi (pc := 6) [.long (x0.toInt64), .long (0 : Int64), .long (3 : Int64)] hx hb hml hown hts hK hP hD hS (q7_in h) (cw7_77 hts ⟨Nat.le_of_ble_eq_true rfl, Nat.le_of_ble_eq_true rfl⟩) rfl hl.1 rfl (Nat.le_of_ble_eq_true rfl) ⟨Nat.le_of_ble_eq_true rfl, Nat.le_of_ble_eq_true rfl⟩ dX7_isText_6 (fun r1 u_ H locs hP hD hS h => ?_)
  obtain ⟨hu_, h⟩ := h
  rw [hu_] at hP hD
  obtain ⟨g2, h⟩ := h
  exact kx_zret (pc := 9) hx hb hr hlocks hK hP hD hS g2 ⟨rfl, h⟩ dX7_isText_9
def p7_makeRow_L9 : Nat → kx_St → Int32 → Int32 → (kx_St → Prop) → Prop
  | 0, _, _, _, _ => False
  | n + 1, σ, x1, x3, Q => ((40 : Int32) ≤ x3 → Q σ) ∧ (¬ (40 : Int32) ≤ x3 → vp_in (((40 : Int32) * x1) + x3) 240 ∧ ((fun σ3 : kx_St => p7_makeRow_L9 n σ3 x1 (x3 + (1 : Int32)) Q) (kx_sI σ 7 (((40 : Int32) * x1) + x3).toNatClampNeg (0 : Int32))))
set_option maxHeartbeats 4000000 in
theorem w7_makeRow_L9  {Q : kx_St → Prop} (cx : kx_Cx p s m args meth c D cy RX7 cX7_makeRow 4 none)  : ∀ (n : Nat) (σ : kx_St) (x1 : Int32) (x3 : Int32) (H : Heap) (locs : List Loc) (ls : Array Slot), p7_makeRow_L9 n σ x1 x3 Q → va_P D vwCl (kx_ws cy 1 ad σ) H → va_D A (kx_ws cy 1 ad σ) → va_S A s.heap H locs → lv_has ls 4 [(0, .ref (ad 0)), (1, .int x1), (3, .int x3)] → W p l e rm7_makeRow s m args below meth c H locs 0 0 (MQ below (kx_Qc kx_cv (fun u _ => Q u) (kx_Wd D cy 1 ad A) A) args s 0 0 A) (F0 m 9 ls []) := by
  obtain ⟨hx, hb, hr, hlocks, hml, hown, hts, hK⟩ := id cx
  intro n
  induction n with
  | zero => intro _ _ _ _ _ _ h; exact False.elim h
  | succ n ih =>
    intro σ x1 x3 H locs ls h hP hD hS hl
    refine lv_iload_n (pc := 9) hx hb dX7_makeRow_9 rfl (lv_at hl 2 rfl) ?_
    refine lv_bipush (pc := 10) (v := (40 : Int32)) hx hb dX7_makeRow_10 (by decide) ?_
    refine lv_icmp_ge (pc := 12) (tgt := 33) hx hb dX7_makeRow_12 (by decide) (fun c1 => ?_) (fun c1 => ?_)
    · have h := h.1 c1
      exact kx_vret (pc := 33) hx hb hr hlocks hK hP hD hS h dX7_makeRow_33
    · have h := h.2 c1
      refine lv_aload_n (pc := 15) hx hb dX7_makeRow_15 rfl (lv_at hl 0 rfl) ?_
      refine fg7_28 (pc := 16) (b := 7) hx hb hown hts hK hP rfl rfl dX7_makeRow_16 ?_
      refine lv_bipush (pc := 19) (v := (40 : Int32)) hx hb dX7_makeRow_19 (by decide) ?_
      refine lv_iload_n (pc := 21) hx hb dX7_makeRow_21 rfl (lv_at hl 1 rfl) ?_
      refine lv_imul (pc := 22) hx hb dX7_makeRow_22 ?_
      refine lv_iload_n (pc := 23) hx hb dX7_makeRow_23 rfl (lv_at hl 2 rfl) ?_
      refine lv_iadd (pc := 24) hx hb dX7_makeRow_24 ?_
      refine lv_iconst (pc := 25) (v := (0 : Int32)) hx hb dX7_makeRow_25 (by decide) ?_
      obtain ⟨g2, h⟩ := h
      refine kx_iast (pc := 26) hx hb hK hP hD hS rfl g2 dX7_makeRow_26 (fun H locs hP hD hS => ?_)
      refine lv_iinc (pc := 27) (v := (x3 + (1 : Int32))) (lv' := [(3, .int (x3 + (1 : Int32))), (0, .ref (ad 0)), (1, .int x1)]) hx hb dX7_makeRow_27 hl (k := 2) rfl rfl (by decide) rfl (fun ls hl => ?_)
      refine lv_goto (pc := 30) (tgt := 9) hx hb dX7_makeRow_30 (by decide) ?_
      exact ih _ _ _ _ _ _ h hP hD hS (lv_sub hl [1, 2, 0] rfl)
def p7_makeRow (σ : kx_St) (x1 : Int32) (x2 : Int32) (Q : kx_St → Prop) : Prop := vp_in x1 6 ∧ ((fun σ2 : kx_St => ∃ m9, p7_makeRow_L9 m9 σ2 x1 (0 : Int32) Q) (kx_sI σ 6 x1.toNatClampNeg x2))
set_option maxHeartbeats 4000000 in
theorem q7_makeRow {σ : kx_St} {x1 : Int32} {x2 : Int32} {Q : kx_St → Prop} (h : p7_makeRow σ x1 x2 Q) : Met l yX7_makeRow (Cond.code yX7_makeRow cX7_makeRow 4 none :: kx_big) rm7_makeRow (va_Pc [.ref (ad 0), .int x1, .int x2] (kx_Wd D cy 1 ad A σ)) (kx_Qc kx_cv (fun u _ => Q u) (kx_Wd D cy 1 ad A) A) 0 0 A := by
  refine kx_head (plainFor_of_name (by decide)) (Nat.le_of_ble_eq_true rfl) ?_
  intro p e s m below meth c ls cx hP hD hS hl
  obtain ⟨hx, hb, hr, hlocks, hml, hown, hts, hK⟩ := id cx
  have hl : lv_has ls 4 [(0, .ref (ad 0)), (1, .int x1), (2, .int x2)] := hl
  refine lv_aload_n (pc := 0) hx hb dX7_makeRow_0 rfl (lv_at hl 0 rfl) ?_
  refine fg7_25 (pc := 1) (b := 6) hx hb hown hts hK hP rfl rfl dX7_makeRow_1 ?_
  refine lv_iload_n (pc := 4) hx hb dX7_makeRow_4 rfl (lv_at hl 1 rfl) ?_
  refine lv_iload_n (pc := 5) hx hb dX7_makeRow_5 rfl (lv_at hl 2 rfl) ?_
  obtain ⟨g1, h⟩ := h
  refine kx_iast (pc := 6) hx hb hK hP hD hS rfl g1 dX7_makeRow_6 (fun H locs hP hD hS => ?_)
  refine lv_iconst (pc := 7) (v := (0 : Int32)) hx hb dX7_makeRow_7 (by decide) ?_
  refine lv_istore_n (pc := 8) (lv' := [(3, .int (0 : Int32)), (0, .ref (ad 0)), (1, .int x1), (2, .int x2)]) hx hb dX7_makeRow_8 rfl hl (by decide) rfl (fun ls hl => ?_)
  obtain ⟨n0, h⟩ := h
  exact w7_makeRow_L9 cx  n0 _ _ _ _ _ _ h hP hD hS (lv_sub hl [1, 2, 0] rfl)
def p7_row (σ : kx_St) (x1 : Int32) (x2 : Int32) (Q : kx_St → Int32 → Prop) : Prop := p7_isRow x1 (fun r1 => (r1 = 0 → Q σ (-1 : Int32)) ∧ (¬ r1 = 0 → (x2 ≤ (40 : Int32) → (0 ≤ x2 → p7_makeRow σ x1 x2 (fun σ6 => Q σ6 x2)) ∧ (¬ 0 ≤ x2 → p7_find σ (5 : Int32) (fun σ8 r7 => Q σ8 r7))) ∧ (¬ x2 ≤ (40 : Int32) → Q σ (-1 : Int32))))
set_option maxHeartbeats 4000000 in
theorem q7_row {σ : kx_St} {x1 : Int32} {x2 : Int32} {Q : kx_St → Int32 → Prop} (h : p7_row σ x1 x2 Q) : Met l yX7_row (Cond.code yX7_row cX7_row 3 (some .int) :: kx_big) rm7_row (va_Pc [.ref (ad 0), .int x1, .int x2] (kx_Wd D cy 1 ad A σ)) (kx_Qc kx_ci Q (kx_Wd D cy 1 ad A) A) 0 0 A := by
  refine kx_head (plainFor_of_name (by decide)) (Nat.le_of_ble_eq_true rfl) ?_
  intro p e s m below meth c ls cx hP hD hS hl
  obtain ⟨hx, hb, hr, hlocks, hml, hown, hts, hK⟩ := id cx
  have hl : lv_has ls 3 [(0, .ref (ad 0)), (1, .int x1), (2, .int x2)] := hl
  refine lv_iload_n (pc := 0) hx hb dX7_row_0 rfl (lv_at hl 1 rfl) ?_
  refine kx_iSi (pc := 1) [.int x1] hx hb hml hown hts hK hP hD hS (q7_isRow h) (cw7_83 hts ⟨Nat.le_of_ble_eq_true rfl, Nat.le_of_ble_eq_true rfl⟩) rfl hl.1 rfl (Nat.le_of_ble_eq_true rfl) ⟨Nat.le_of_ble_eq_true rfl, Nat.le_of_ble_eq_true rfl⟩ dX7_row_1 (fun r1 u_ H locs hP hD hS h => ?_)
  obtain ⟨hu_, h⟩ := h
  rw [hu_] at hP hD
  refine lv_if_eq (pc := 4) (tgt := 13) hx hb dX7_row_4 (by decide) (fun c2 => ?_) (fun c2 => ?_)
  · have h := h.1 c2
    refine lv_iconst (pc := 13) (v := (-1 : Int32)) hx hb dX7_row_13 (by decide) ?_
    exact kx_iret (pc := 14) hx hb hr hlocks hK hP hD hS h dX7_row_14
  · have h := h.2 c2
    refine lv_iload_n (pc := 7) hx hb dX7_row_7 rfl (lv_at hl 2 rfl) ?_
    refine lv_bipush (pc := 8) (v := (40 : Int32)) hx hb dX7_row_8 (by decide) ?_
    refine lv_icmp_le (pc := 10) (tgt := 15) hx hb dX7_row_10 (by decide) (fun c3 => ?_) (fun c3 => ?_)
    · have h := h.1 c3
      refine lv_iload_n (pc := 15) hx hb dX7_row_15 rfl (lv_at hl 2 rfl) ?_
      refine lv_if_ge (pc := 16) (tgt := 25) hx hb dX7_row_16 (by decide) (fun c4 => ?_) (fun c4 => ?_)
      · have h := h.1 c4
        refine lv_aload_n (pc := 25) hx hb dX7_row_25 rfl (lv_at hl 0 rfl) ?_
        refine lv_iload_n (pc := 26) hx hb dX7_row_26 rfl (lv_at hl 1 rfl) ?_
        refine lv_iload_n (pc := 27) hx hb dX7_row_27 rfl (lv_at hl 2 rfl) ?_
        refine kx_iVv (pc := 28) [.int x1, .int x2] hx hb hml hown hts hK hP hD hS (q7_makeRow h) (cw7_91 hts ⟨Nat.le_of_ble_eq_true rfl, Nat.le_of_ble_eq_true rfl⟩) rfl (by decide) rfl rfl hl.1 rfl (Nat.le_of_ble_eq_true rfl) ⟨Nat.le_of_ble_eq_true rfl, Nat.le_of_ble_eq_true rfl⟩ dX7_row_28 (fun _ σ6 H locs hP hD hS h => ?_)
        refine lv_iload_n (pc := 31) hx hb dX7_row_31 rfl (lv_at hl 2 rfl) ?_
        exact kx_iret (pc := 32) hx hb hr hlocks hK hP hD hS h dX7_row_32
      · have h := h.2 c4
        refine lv_aload_n (pc := 19) hx hb dX7_row_19 rfl (lv_at hl 0 rfl) ?_
        refine lv_iconst (pc := 20) (v := (5 : Int32)) hx hb dX7_row_20 (by decide) ?_
        refine kx_iVi (pc := 21) [.int (5 : Int32)] hx hb hml hown hts hK hP hD hS (q7_find h) (cw7_87 hts ⟨Nat.le_of_ble_eq_true rfl, Nat.le_of_ble_eq_true rfl⟩) rfl (by decide) rfl rfl hl.1 rfl (Nat.le_of_ble_eq_true rfl) ⟨Nat.le_of_ble_eq_true rfl, Nat.le_of_ble_eq_true rfl⟩ dX7_row_21 (fun r7 σ8 H locs hP hD hS h => ?_)
        exact kx_iret (pc := 24) hx hb hr hlocks hK hP hD hS h dX7_row_24
    · have h := h.2 c3
      refine lv_iconst (pc := 13) (v := (-1 : Int32)) hx hb dX7_row_13 (by decide) ?_
      exact kx_iret (pc := 14) hx hb hr hlocks hK hP hD hS h dX7_row_14
def p7_refused (σ : kx_St) (x1 : Int32) (x2 : Int32) (Q : kx_St → Int32 → Prop) : Prop := p7_isRow x1 (fun r1 => (¬ r1 = 0 → vp_in x1 6 ∧ ((0 ≤ (σ.1 6 x1.toNatClampNeg) → vp_in x1 6 ∧ (p7_in (x2.toInt64) (0 : Int64) (((σ.1 6 x1.toNatClampNeg) - (1 : Int32)).toInt64) (fun r6 => (r6 = 0 → p7_find σ (2 : Int32) (fun σ9 r8 => Q σ9 r8)) ∧ (¬ r6 = 0 → Q σ (0 : Int32))))) ∧ (¬ 0 ≤ (σ.1 6 x1.toNatClampNeg) → p7_find σ (1 : Int32) (fun σ11 r10 => Q σ11 r10)))) ∧ (r1 = 0 → Q σ (-1 : Int32)))
set_option maxHeartbeats 4000000 in
theorem q7_refused {σ : kx_St} {x1 : Int32} {x2 : Int32} {Q : kx_St → Int32 → Prop} (h : p7_refused σ x1 x2 Q) : Met l yX7_refused (Cond.code yX7_refused cX7_refused 3 (some .int) :: kx_big) rm7_refused (va_Pc [.ref (ad 0), .int x1, .int x2] (kx_Wd D cy 1 ad A σ)) (kx_Qc kx_ci Q (kx_Wd D cy 1 ad A) A) 0 0 A := by
  refine kx_head (plainFor_of_name (by decide)) (Nat.le_of_ble_eq_true rfl) ?_
  intro p e s m below meth c ls cx hP hD hS hl
  obtain ⟨hx, hb, hr, hlocks, hml, hown, hts, hK⟩ := id cx
  have hl : lv_has ls 3 [(0, .ref (ad 0)), (1, .int x1), (2, .int x2)] := hl
  refine lv_iload_n (pc := 0) hx hb dX7_refused_0 rfl (lv_at hl 1 rfl) ?_
  refine kx_iSi (pc := 1) [.int x1] hx hb hml hown hts hK hP hD hS (q7_isRow h) (cw7_83 hts ⟨Nat.le_of_ble_eq_true rfl, Nat.le_of_ble_eq_true rfl⟩) rfl hl.1 rfl (Nat.le_of_ble_eq_true rfl) ⟨Nat.le_of_ble_eq_true rfl, Nat.le_of_ble_eq_true rfl⟩ dX7_refused_1 (fun r1 u_ H locs hP hD hS h => ?_)
  obtain ⟨hu_, h⟩ := h
  rw [hu_] at hP hD
  refine lv_if_ne (pc := 4) (tgt := 11) hx hb dX7_refused_4 (by decide) (fun c2 => ?_) (fun c2 => ?_)
  · have h := h.1 c2
    refine lv_aload_n (pc := 11) hx hb dX7_refused_11 rfl (lv_at hl 0 rfl) ?_
    refine fg7_25 (pc := 12) (b := 6) hx hb hown hts hK hP rfl rfl dX7_refused_12 ?_
    refine lv_iload_n (pc := 15) hx hb dX7_refused_15 rfl (lv_at hl 1 rfl) ?_
    obtain ⟨g3, h⟩ := h
    refine kx_iald (pc := 16) hx hb hK hP rfl g3 dX7_refused_16 ?_
    refine lv_if_ge (pc := 17) (tgt := 28) hx hb dX7_refused_17 (by decide) (fun c4 => ?_) (fun c4 => ?_)
    · have h := h.1 c4
      refine lv_iload_n (pc := 28) hx hb dX7_refused_28 rfl (lv_at hl 2 rfl) ?_
      refine lv_i2l (pc := 29) (v := (x2.toInt64)) hx hb dX7_refused_29 rfl ?_
      refine lv_lconst (pc := 30) (v := (0 : Int64)) hx hb dX7_refused_30 (by decide) ?_
      refine lv_aload_n (pc := 31) hx hb dX7_refused_31 rfl (lv_at hl 0 rfl) ?_
      refine fg7_25 (pc := 32) (b := 6) hx hb hown hts hK hP rfl rfl dX7_refused_32 ?_
      refine lv_iload_n (pc := 35) hx hb dX7_refused_35 rfl (lv_at hl 1 rfl) ?_
      obtain ⟨g5, h⟩ := h
      refine kx_iald (pc := 36) hx hb hK hP rfl g5 dX7_refused_36 ?_
      refine lv_iconst (pc := 37) (v := (1 : Int32)) hx hb dX7_refused_37 (by decide) ?_
      refine lv_isub (pc := 38) hx hb dX7_refused_38 ?_
      refine lv_i2l (pc := 39) (v := (((σ.1 6 x1.toNatClampNeg) - (1 : Int32)).toInt64)) hx hb dX7_refused_39 rfl ?_
      refine kx_iSi (pc := 40) [.long (x2.toInt64), .long (0 : Int64), .long (((σ.1 6 x1.toNatClampNeg) - (1 : Int32)).toInt64)] hx hb hml hown hts hK hP hD hS (q7_in h) (cw7_77 hts ⟨Nat.le_of_ble_eq_true rfl, Nat.le_of_ble_eq_true rfl⟩) rfl hl.1 rfl (Nat.le_of_ble_eq_true rfl) ⟨Nat.le_of_ble_eq_true rfl, Nat.le_of_ble_eq_true rfl⟩ dX7_refused_40 (fun r6 u_ H locs hP hD hS h => ?_)
      obtain ⟨hu_, h⟩ := h
      rw [hu_] at hP hD
      refine lv_if_eq (pc := 43) (tgt := 50) hx hb dX7_refused_43 (by decide) (fun c7 => ?_) (fun c7 => ?_)
      · have h := h.1 c7
        refine lv_aload_n (pc := 50) hx hb dX7_refused_50 rfl (lv_at hl 0 rfl) ?_
        refine lv_iconst (pc := 51) (v := (2 : Int32)) hx hb dX7_refused_51 (by decide) ?_
        refine kx_iVi (pc := 52) [.int (2 : Int32)] hx hb hml hown hts hK hP hD hS (q7_find h) (cw7_87 hts ⟨Nat.le_of_ble_eq_true rfl, Nat.le_of_ble_eq_true rfl⟩) rfl (by decide) rfl rfl hl.1 rfl (Nat.le_of_ble_eq_true rfl) ⟨Nat.le_of_ble_eq_true rfl, Nat.le_of_ble_eq_true rfl⟩ dX7_refused_52 (fun r8 σ9 H locs hP hD hS h => ?_)
        exact kx_iret (pc := 55) hx hb hr hlocks hK hP hD hS h dX7_refused_55
      · have h := h.2 c7
        refine lv_iconst (pc := 46) (v := (0 : Int32)) hx hb dX7_refused_46 (by decide) ?_
        refine lv_goto (pc := 47) (tgt := 55) hx hb dX7_refused_47 (by decide) ?_
        exact kx_iret (pc := 55) hx hb hr hlocks hK hP hD hS h dX7_refused_55
    · have h := h.2 c4
      refine lv_aload_n (pc := 20) hx hb dX7_refused_20 rfl (lv_at hl 0 rfl) ?_
      refine lv_iconst (pc := 21) (v := (1 : Int32)) hx hb dX7_refused_21 (by decide) ?_
      refine kx_iVi (pc := 22) [.int (1 : Int32)] hx hb hml hown hts hK hP hD hS (q7_find h) (cw7_87 hts ⟨Nat.le_of_ble_eq_true rfl, Nat.le_of_ble_eq_true rfl⟩) rfl (by decide) rfl rfl hl.1 rfl (Nat.le_of_ble_eq_true rfl) ⟨Nat.le_of_ble_eq_true rfl, Nat.le_of_ble_eq_true rfl⟩ dX7_refused_22 (fun r10 σ11 H locs hP hD hS h => ?_)
      refine lv_goto (pc := 25) (tgt := 55) hx hb dX7_refused_25 (by decide) ?_
      exact kx_iret (pc := 55) hx hb hr hlocks hK hP hD hS h dX7_refused_55
  · have h := h.2 c2
    refine lv_iconst (pc := 7) (v := (-1 : Int32)) hx hb dX7_refused_7 (by decide) ?_
    refine lv_goto (pc := 8) (tgt := 55) hx hb dX7_refused_8 (by decide) ?_
    exact kx_iret (pc := 55) hx hb hr hlocks hK hP hD hS h dX7_refused_55
def p7_lay (σ : kx_St) (x1 : Int32) (x2 : Int32) (x3 : Int32) (Q : kx_St → Int32 → Prop) : Prop := p7_refused σ x1 x2 (fun σ2 r1 => (r1 = 0 → vp_in (((40 : Int32) * x1) + x2) 240 ∧ (vp_in (((40 : Int32) * x1) + x2) 240 ∧ ((fun σ6 : kx_St => p7_tell σ6 (σ2.1 7 (((40 : Int32) * x1) + x2).toNatClampNeg) (fun σ8 r7 => Q σ8 r7)) (kx_sI σ2 7 (((40 : Int32) * x1) + x2).toNatClampNeg x3)))) ∧ (¬ r1 = 0 → Q σ2 r1))
set_option maxHeartbeats 4000000 in
theorem q7_lay {σ : kx_St} {x1 : Int32} {x2 : Int32} {x3 : Int32} {Q : kx_St → Int32 → Prop} (h : p7_lay σ x1 x2 x3 Q) : Met l yX7_lay (Cond.code yX7_lay cX7_lay 6 (some .int) :: kx_big) rm7_lay (va_Pc [.ref (ad 0), .int x1, .int x2, .int x3] (kx_Wd D cy 1 ad A σ)) (kx_Qc kx_ci Q (kx_Wd D cy 1 ad A) A) 0 0 A := by
  refine kx_head (plainFor_of_name (by decide)) (Nat.le_of_ble_eq_true rfl) ?_
  intro p e s m below meth c ls cx hP hD hS hl
  obtain ⟨hx, hb, hr, hlocks, hml, hown, hts, hK⟩ := id cx
  have hl : lv_has ls 6 [(0, .ref (ad 0)), (1, .int x1), (2, .int x2), (3, .int x3)] := hl
  refine lv_aload_n (pc := 0) hx hb dX7_lay_0 rfl (lv_at hl 0 rfl) ?_
  refine lv_iload_n (pc := 1) hx hb dX7_lay_1 rfl (lv_at hl 1 rfl) ?_
  refine lv_iload_n (pc := 2) hx hb dX7_lay_2 rfl (lv_at hl 2 rfl) ?_
  refine kx_iVi (pc := 3) [.int x1, .int x2] hx hb hml hown hts hK hP hD hS (q7_refused h) (cw7_95 hts ⟨Nat.le_of_ble_eq_true rfl, Nat.le_of_ble_eq_true rfl⟩) rfl (by decide) rfl rfl hl.1 rfl (Nat.le_of_ble_eq_true rfl) ⟨Nat.le_of_ble_eq_true rfl, Nat.le_of_ble_eq_true rfl⟩ dX7_lay_3 (fun r1 σ2 H locs hP hD hS h => ?_)
  refine lv_istore (pc := 6) (lv' := [(4, .int r1), (0, .ref (ad 0)), (1, .int x1), (2, .int x2), (3, .int x3)]) hx hb dX7_lay_6 hl (by decide) rfl (fun ls hl => ?_)
  refine lv_iload (pc := 8) hx hb dX7_lay_8 (lv_at hl 0 rfl) ?_
  refine lv_if_eq (pc := 10) (tgt := 16) hx hb dX7_lay_10 (by decide) (fun c3 => ?_) (fun c3 => ?_)
  · have h := h.1 c3
    refine lv_aload_n (pc := 16) hx hb dX7_lay_16 rfl (lv_at hl 1 rfl) ?_
    refine fg7_28 (pc := 17) (b := 7) hx hb hown hts hK hP rfl rfl dX7_lay_17 ?_
    refine lv_bipush (pc := 20) (v := (40 : Int32)) hx hb dX7_lay_20 (by decide) ?_
    refine lv_iload_n (pc := 22) hx hb dX7_lay_22 rfl (lv_at hl 2 rfl) ?_
    refine lv_imul (pc := 23) hx hb dX7_lay_23 ?_
    refine lv_iload_n (pc := 24) hx hb dX7_lay_24 rfl (lv_at hl 3 rfl) ?_
    refine lv_iadd (pc := 25) hx hb dX7_lay_25 ?_
    obtain ⟨g4, h⟩ := h
    refine kx_iald (pc := 26) hx hb hK hP rfl g4 dX7_lay_26 ?_
    refine lv_istore (pc := 27) (lv' := [(5, .int _), (4, .int r1), (0, .ref (ad 0)), (1, .int x1), (2, .int x2), (3, .int x3)]) hx hb dX7_lay_27 hl (by decide) rfl (fun ls hl => ?_)
    refine lv_aload_n (pc := 29) hx hb dX7_lay_29 rfl (lv_at hl 2 rfl) ?_
    refine fg7_28 (pc := 30) (b := 7) hx hb hown hts hK hP rfl rfl dX7_lay_30 ?_
    refine lv_bipush (pc := 33) (v := (40 : Int32)) hx hb dX7_lay_33 (by decide) ?_
    refine lv_iload_n (pc := 35) hx hb dX7_lay_35 rfl (lv_at hl 3 rfl) ?_
    refine lv_imul (pc := 36) hx hb dX7_lay_36 ?_
    refine lv_iload_n (pc := 37) hx hb dX7_lay_37 rfl (lv_at hl 4 rfl) ?_
    refine lv_iadd (pc := 38) hx hb dX7_lay_38 ?_
    refine lv_iload_n (pc := 39) hx hb dX7_lay_39 rfl (lv_at hl 5 rfl) ?_
    obtain ⟨g5, h⟩ := h
    refine kx_iast (pc := 40) hx hb hK hP hD hS rfl g5 dX7_lay_40 (fun H locs hP hD hS => ?_)
    refine lv_aload_n (pc := 41) hx hb dX7_lay_41 rfl (lv_at hl 2 rfl) ?_
    refine lv_iload (pc := 42) hx hb dX7_lay_42 (lv_at hl 0 rfl) ?_
    refine kx_iVi (pc := 44) [.int _] hx hb hml hown hts hK hP hD hS (q7_tell h) (cw7_99 hts ⟨Nat.le_of_ble_eq_true rfl, Nat.le_of_ble_eq_true rfl⟩) rfl (by decide) rfl rfl hl.1 rfl (Nat.le_of_ble_eq_true rfl) ⟨Nat.le_of_ble_eq_true rfl, Nat.le_of_ble_eq_true rfl⟩ dX7_lay_44 (fun r7 σ8 H locs hP hD hS h => ?_)
    exact kx_iret (pc := 47) hx hb hr hlocks hK hP hD hS h dX7_lay_47
  · have h := h.2 c3
    refine lv_iload (pc := 13) hx hb dX7_lay_13 (lv_at hl 0 rfl) ?_
    exact kx_iret (pc := 15) hx hb hr hlocks hK hP hD hS h dX7_lay_15
def p7_at (σ : kx_St) (x1 : Int32) (x2 : Int32) (Q : kx_St → Int32 → Prop) : Prop := p7_refused σ x1 x2 (fun σ2 r1 => (r1 = 0 → vp_in (((40 : Int32) * x1) + x2) 240 ∧ (p7_tell σ2 (σ2.1 7 (((40 : Int32) * x1) + x2).toNatClampNeg) (fun σ6 r5 => Q σ6 r5))) ∧ (¬ r1 = 0 → Q σ2 r1))
set_option maxHeartbeats 4000000 in
theorem q7_at {σ : kx_St} {x1 : Int32} {x2 : Int32} {Q : kx_St → Int32 → Prop} (h : p7_at σ x1 x2 Q) : Met l yX7_at (Cond.code yX7_at cX7_at 4 (some .int) :: kx_big) rm7_at (va_Pc [.ref (ad 0), .int x1, .int x2] (kx_Wd D cy 1 ad A σ)) (kx_Qc kx_ci Q (kx_Wd D cy 1 ad A) A) 0 0 A := by
  refine kx_head (plainFor_of_name (by decide)) (Nat.le_of_ble_eq_true rfl) ?_
  intro p e s m below meth c ls cx hP hD hS hl
  obtain ⟨hx, hb, hr, hlocks, hml, hown, hts, hK⟩ := id cx
  have hl : lv_has ls 4 [(0, .ref (ad 0)), (1, .int x1), (2, .int x2)] := hl
  refine lv_aload_n (pc := 0) hx hb dX7_at_0 rfl (lv_at hl 0 rfl) ?_
  refine lv_iload_n (pc := 1) hx hb dX7_at_1 rfl (lv_at hl 1 rfl) ?_
  refine lv_iload_n (pc := 2) hx hb dX7_at_2 rfl (lv_at hl 2 rfl) ?_
  refine kx_iVi (pc := 3) [.int x1, .int x2] hx hb hml hown hts hK hP hD hS (q7_refused h) (cw7_95 hts ⟨Nat.le_of_ble_eq_true rfl, Nat.le_of_ble_eq_true rfl⟩) rfl (by decide) rfl rfl hl.1 rfl (Nat.le_of_ble_eq_true rfl) ⟨Nat.le_of_ble_eq_true rfl, Nat.le_of_ble_eq_true rfl⟩ dX7_at_3 (fun r1 σ2 H locs hP hD hS h => ?_)
  refine lv_istore_n (pc := 6) (lv' := [(3, .int r1), (0, .ref (ad 0)), (1, .int x1), (2, .int x2)]) hx hb dX7_at_6 rfl hl (by decide) rfl (fun ls hl => ?_)
  refine lv_iload_n (pc := 7) hx hb dX7_at_7 rfl (lv_at hl 0 rfl) ?_
  refine lv_if_eq (pc := 8) (tgt := 15) hx hb dX7_at_8 (by decide) (fun c3 => ?_) (fun c3 => ?_)
  · have h := h.1 c3
    refine lv_aload_n (pc := 15) hx hb dX7_at_15 rfl (lv_at hl 1 rfl) ?_
    refine lv_aload_n (pc := 16) hx hb dX7_at_16 rfl (lv_at hl 1 rfl) ?_
    refine fg7_28 (pc := 17) (b := 7) hx hb hown hts hK hP rfl rfl dX7_at_17 ?_
    refine lv_bipush (pc := 20) (v := (40 : Int32)) hx hb dX7_at_20 (by decide) ?_
    refine lv_iload_n (pc := 22) hx hb dX7_at_22 rfl (lv_at hl 2 rfl) ?_
    refine lv_imul (pc := 23) hx hb dX7_at_23 ?_
    refine lv_iload_n (pc := 24) hx hb dX7_at_24 rfl (lv_at hl 3 rfl) ?_
    refine lv_iadd (pc := 25) hx hb dX7_at_25 ?_
    obtain ⟨g4, h⟩ := h
    refine kx_iald (pc := 26) hx hb hK hP rfl g4 dX7_at_26 ?_
    refine kx_iVi (pc := 27) [.int _] hx hb hml hown hts hK hP hD hS (q7_tell h) (cw7_99 hts ⟨Nat.le_of_ble_eq_true rfl, Nat.le_of_ble_eq_true rfl⟩) rfl (by decide) rfl rfl hl.1 rfl (Nat.le_of_ble_eq_true rfl) ⟨Nat.le_of_ble_eq_true rfl, Nat.le_of_ble_eq_true rfl⟩ dX7_at_27 (fun r5 σ6 H locs hP hD hS h => ?_)
    exact kx_iret (pc := 30) hx hb hr hlocks hK hP hD hS h dX7_at_30
  · have h := h.2 c3
    refine lv_iload_n (pc := 11) hx hb dX7_at_11 rfl (lv_at hl 0 rfl) ?_
    refine lv_goto (pc := 12) (tgt := 30) hx hb dX7_at_12 (by decide) ?_
    exact kx_iret (pc := 30) hx hb hr hlocks hK hP hD hS h dX7_at_30
def p7_tear (σ : kx_St) (x1 : Int32) (Q : kx_St → Int32 → Prop) : Prop := p7_isRow x1 (fun r1 => (¬ r1 = 0 → vp_in x1 6 ∧ ((0 ≤ (σ.1 6 x1.toNatClampNeg) → vp_in x1 6 ∧ ((fun σ6 : kx_St => Q σ6 (1 : Int32)) (kx_sI σ 6 x1.toNatClampNeg (-1 : Int32)))) ∧ (¬ 0 ≤ (σ.1 6 x1.toNatClampNeg) → p7_find σ (1 : Int32) (fun σ8 r7 => Q σ8 r7)))) ∧ (r1 = 0 → Q σ (-1 : Int32)))
set_option maxHeartbeats 4000000 in
theorem q7_tear {σ : kx_St} {x1 : Int32} {Q : kx_St → Int32 → Prop} (h : p7_tear σ x1 Q) : Met l yX7_tear (Cond.code yX7_tear cX7_tear 2 (some .int) :: kx_big) rm7_tear (va_Pc [.ref (ad 0), .int x1] (kx_Wd D cy 1 ad A σ)) (kx_Qc kx_ci Q (kx_Wd D cy 1 ad A) A) 0 0 A := by
  refine kx_head (plainFor_of_name (by decide)) (Nat.le_of_ble_eq_true rfl) ?_
  intro p e s m below meth c ls cx hP hD hS hl
  obtain ⟨hx, hb, hr, hlocks, hml, hown, hts, hK⟩ := id cx
  have hl : lv_has ls 2 [(0, .ref (ad 0)), (1, .int x1)] := hl
  refine lv_iload_n (pc := 0) hx hb dX7_tear_0 rfl (lv_at hl 1 rfl) ?_
  refine kx_iSi (pc := 1) [.int x1] hx hb hml hown hts hK hP hD hS (q7_isRow h) (cw7_83 hts ⟨Nat.le_of_ble_eq_true rfl, Nat.le_of_ble_eq_true rfl⟩) rfl hl.1 rfl (Nat.le_of_ble_eq_true rfl) ⟨Nat.le_of_ble_eq_true rfl, Nat.le_of_ble_eq_true rfl⟩ dX7_tear_1 (fun r1 u_ H locs hP hD hS h => ?_)
  obtain ⟨hu_, h⟩ := h
  rw [hu_] at hP hD
  refine lv_if_ne (pc := 4) (tgt := 9) hx hb dX7_tear_4 (by decide) (fun c2 => ?_) (fun c2 => ?_)
  · have h := h.1 c2
    refine lv_aload_n (pc := 9) hx hb dX7_tear_9 rfl (lv_at hl 0 rfl) ?_
    refine fg7_25 (pc := 10) (b := 6) hx hb hown hts hK hP rfl rfl dX7_tear_10 ?_
    refine lv_iload_n (pc := 13) hx hb dX7_tear_13 rfl (lv_at hl 1 rfl) ?_
    obtain ⟨g3, h⟩ := h
    refine kx_iald (pc := 14) hx hb hK hP rfl g3 dX7_tear_14 ?_
    refine lv_if_ge (pc := 15) (tgt := 24) hx hb dX7_tear_15 (by decide) (fun c4 => ?_) (fun c4 => ?_)
    · have h := h.1 c4
      refine lv_aload_n (pc := 24) hx hb dX7_tear_24 rfl (lv_at hl 0 rfl) ?_
      refine fg7_25 (pc := 25) (b := 6) hx hb hown hts hK hP rfl rfl dX7_tear_25 ?_
      refine lv_iload_n (pc := 28) hx hb dX7_tear_28 rfl (lv_at hl 1 rfl) ?_
      refine lv_iconst (pc := 29) (v := (-1 : Int32)) hx hb dX7_tear_29 (by decide) ?_
      obtain ⟨g5, h⟩ := h
      refine kx_iast (pc := 30) hx hb hK hP hD hS rfl g5 dX7_tear_30 (fun H locs hP hD hS => ?_)
      refine lv_iconst (pc := 31) (v := (1 : Int32)) hx hb dX7_tear_31 (by decide) ?_
      exact kx_iret (pc := 32) hx hb hr hlocks hK hP hD hS h dX7_tear_32
    · have h := h.2 c4
      refine lv_aload_n (pc := 18) hx hb dX7_tear_18 rfl (lv_at hl 0 rfl) ?_
      refine lv_iconst (pc := 19) (v := (1 : Int32)) hx hb dX7_tear_19 (by decide) ?_
      refine kx_iVi (pc := 20) [.int (1 : Int32)] hx hb hml hown hts hK hP hD hS (q7_find h) (cw7_87 hts ⟨Nat.le_of_ble_eq_true rfl, Nat.le_of_ble_eq_true rfl⟩) rfl (by decide) rfl rfl hl.1 rfl (Nat.le_of_ble_eq_true rfl) ⟨Nat.le_of_ble_eq_true rfl, Nat.le_of_ble_eq_true rfl⟩ dX7_tear_20 (fun r7 σ8 H locs hP hD hS h => ?_)
      exact kx_iret (pc := 23) hx hb hr hlocks hK hP hD hS h dX7_tear_23
  · have h := h.2 c2
    refine lv_iconst (pc := 7) (v := (-1 : Int32)) hx hb dX7_tear_7 (by decide) ?_
    exact kx_iret (pc := 8) hx hb hr hlocks hK hP hD hS h dX7_tear_8
def p7_isSpan (σ : kx_St) (x1 : Int32) (x2 : Int32) (x3 : Int32) (Q : Int32 → Prop) : Prop := (x2 < 0 → Q (0 : Int32)) ∧ (¬ x2 < 0 → vp_in x1 6 ∧ ((0 < (lg_cmp ((x2.toInt64) + (x3.toInt64)) ((σ.1 6 x1.toNatClampNeg).toInt64)) → Q (0 : Int32)) ∧ (¬ 0 < (lg_cmp ((x2.toInt64) + (x3.toInt64)) ((σ.1 6 x1.toNatClampNeg).toInt64)) → Q (1 : Int32))))
set_option maxHeartbeats 4000000 in
theorem q7_isSpan {σ : kx_St} {x1 : Int32} {x2 : Int32} {x3 : Int32} {Q : Int32 → Prop} (h : p7_isSpan σ x1 x2 x3 Q) : Met l yX7_isSpan (Cond.code yX7_isSpan cX7_isSpan 4 (some .boolean) :: kx_big) rm7_isSpan (va_Pc [.ref (ad 0), .int x1, .int x2, .int x3] (kx_Wd D cy 1 ad A σ)) (kx_Qc kx_ci (fun u r => u = σ ∧ Q r) (kx_Wd D cy 1 ad A) A) 0 0 A := by
  refine kx_head (plainFor_of_name (by decide)) (Nat.le_of_ble_eq_true rfl) ?_
  intro p e s m below meth c ls cx hP hD hS hl
  obtain ⟨hx, hb, hr, hlocks, hml, hown, hts, hK⟩ := id cx
  have hl : lv_has ls 4 [(0, .ref (ad 0)), (1, .int x1), (2, .int x2), (3, .int x3)] := hl
  refine lv_iload_n (pc := 0) hx hb dX7_isSpan_0 rfl (lv_at hl 2 rfl) ?_
  refine lv_if_lt (pc := 1) (tgt := 24) hx hb dX7_isSpan_1 (by decide) (fun c1 => ?_) (fun c1 => ?_)
  · have h := h.1 c1
    refine lv_iconst (pc := 24) (v := (0 : Int32)) hx hb dX7_isSpan_24 (by decide) ?_
    exact kx_zret (pc := 25) hx hb hr hlocks hK hP hD hS (by decide) ⟨rfl, h⟩ dX7_isSpan_25
  · have h := h.2 c1
    refine lv_iload_n (pc := 4) hx hb dX7_isSpan_4 rfl (lv_at hl 2 rfl) ?_
    refine lv_i2l (pc := 5) (v := (x2.toInt64)) hx hb dX7_isSpan_5 rfl ?_
    refine lv_iload_n (pc := 6) hx hb dX7_isSpan_6 rfl (lv_at hl 3 rfl) ?_
    refine lv_i2l (pc := 7) (v := (x3.toInt64)) hx hb dX7_isSpan_7 rfl ?_
    refine lv_ladd (pc := 8) hx hb dX7_isSpan_8 ?_
    refine lv_aload_n (pc := 9) hx hb dX7_isSpan_9 rfl (lv_at hl 0 rfl) ?_
    refine fg7_25 (pc := 10) (b := 6) hx hb hown hts hK hP rfl rfl dX7_isSpan_10 ?_
    refine lv_iload_n (pc := 13) hx hb dX7_isSpan_13 rfl (lv_at hl 1 rfl) ?_
    obtain ⟨g2, h⟩ := h
    refine kx_iald (pc := 14) hx hb hK hP rfl g2 dX7_isSpan_14 ?_
    refine lv_i2l (pc := 15) (v := ((σ.1 6 x1.toNatClampNeg).toInt64)) hx hb dX7_isSpan_15 rfl ?_
    refine W.lcmp (pc := 16) hx hb dX7_isSpan_16 ?_
    refine lv_if_gt (pc := 17) (tgt := 24) hx hb dX7_isSpan_17 (by decide) (fun c3 => ?_) (fun c3 => ?_)
    · have h := h.1 c3
      refine lv_iconst (pc := 24) (v := (0 : Int32)) hx hb dX7_isSpan_24 (by decide) ?_
      exact kx_zret (pc := 25) hx hb hr hlocks hK hP hD hS (by decide) ⟨rfl, h⟩ dX7_isSpan_25
    · have h := h.2 c3
      refine lv_iconst (pc := 20) (v := (1 : Int32)) hx hb dX7_isSpan_20 (by decide) ?_
      refine lv_goto (pc := 21) (tgt := 25) hx hb dX7_isSpan_21 (by decide) ?_
      exact kx_zret (pc := 25) hx hb hr hlocks hK hP hD hS (by decide) ⟨rfl, h⟩ dX7_isSpan_25
def p7_copy_J45 (σ : kx_St) (Q : kx_St → Int32 → Prop) : Prop := p7_find σ (1 : Int32) (fun σ2 r1 => Q σ2 r1)
set_option maxHeartbeats 4000000 in
theorem w7_copy_J45 {σ : kx_St}   {Q : kx_St → Int32 → Prop} {H : Heap} {locs : List Loc} {ls : Array Slot} (cx : kx_Cx p s m args meth c D cy RX7 cX7_copy 9 (some .int))   (h : p7_copy_J45 σ Q) (hP : va_P D vwCl (kx_ws cy 1 ad σ) H) (hD : va_D A (kx_ws cy 1 ad σ)) (hS : va_S A s.heap H locs) (hl : lv_has ls 9 [(0, .ref (ad 0))]) : W p l e rm7_copy s m args below meth c H locs 0 0 (MQ below (kx_Qc kx_ci Q (kx_Wd D cy 1 ad A) A) args s 0 0 A) (F0 m 45 ls []) := by
  obtain ⟨hx, hb, hr, hlocks, hml, hown, hts, hK⟩ := id cx
  refine lv_aload_n (pc := 45) hx hb dX7_copy_45 rfl (lv_at hl 0 rfl) ?_
  refine lv_iconst (pc := 46) (v := (1 : Int32)) hx hb dX7_copy_46 (by decide) ?_
  refine kx_iVi (pc := 47) [.int (1 : Int32)] hx hb hml hown hts hK hP hD hS (q7_find h) (cw7_87 hts ⟨Nat.le_of_ble_eq_true rfl, Nat.le_of_ble_eq_true rfl⟩) rfl (by decide) rfl rfl hl.1 rfl (Nat.le_of_ble_eq_true rfl) ⟨Nat.le_of_ble_eq_true rfl, Nat.le_of_ble_eq_true rfl⟩ dX7_copy_47 (fun r1 σ2 H locs hP hD hS h => ?_)
  exact kx_iret (pc := 50) hx hb hr hlocks hK hP hD hS h dX7_copy_50
def p7_copy_J74 (σ : kx_St) (Q : kx_St → Int32 → Prop) : Prop := p7_find σ (2 : Int32) (fun σ2 r1 => Q σ2 r1)
set_option maxHeartbeats 4000000 in
theorem w7_copy_J74 {σ : kx_St}   {Q : kx_St → Int32 → Prop} {H : Heap} {locs : List Loc} {ls : Array Slot} (cx : kx_Cx p s m args meth c D cy RX7 cX7_copy 9 (some .int))   (h : p7_copy_J74 σ Q) (hP : va_P D vwCl (kx_ws cy 1 ad σ) H) (hD : va_D A (kx_ws cy 1 ad σ)) (hS : va_S A s.heap H locs) (hl : lv_has ls 9 [(0, .ref (ad 0))]) : W p l e rm7_copy s m args below meth c H locs 0 0 (MQ below (kx_Qc kx_ci Q (kx_Wd D cy 1 ad A) A) args s 0 0 A) (F0 m 74 ls []) := by
  obtain ⟨hx, hb, hr, hlocks, hml, hown, hts, hK⟩ := id cx
  refine lv_aload_n (pc := 74) hx hb dX7_copy_74 rfl (lv_at hl 0 rfl) ?_
  refine lv_iconst (pc := 75) (v := (2 : Int32)) hx hb dX7_copy_75 (by decide) ?_
  refine kx_iVi (pc := 76) [.int (2 : Int32)] hx hb hml hown hts hK hP hD hS (q7_find h) (cw7_87 hts ⟨Nat.le_of_ble_eq_true rfl, Nat.le_of_ble_eq_true rfl⟩) rfl (by decide) rfl rfl hl.1 rfl (Nat.le_of_ble_eq_true rfl) ⟨Nat.le_of_ble_eq_true rfl, Nat.le_of_ble_eq_true rfl⟩ dX7_copy_76 (fun r1 σ2 H locs hP hD hS h => ?_)
  exact kx_iret (pc := 79) hx hb hr hlocks hK hP hD hS h dX7_copy_79
def p7_copy_J120 (σ : kx_St) (x1 : Int32) (x2 : Int32) (x3 : Int32) (x4 : Int32) (x5 : Int32) (x6 : Int32) (x7 : Int32) (s0 : Int32) (k96 : kx_St → Int32 → Int32 → Int32 → Int32 → Int32 → Int32 → Int32 → Prop) (Q : kx_St → Int32 → Prop) : Prop := vp_in ((((40 : Int32) * x1) + x2) + s0) 240 ∧ (vp_in ((((40 : Int32) * x3) + x4) + s0) 240 ∧ ((fun σ3 : kx_St => k96 σ3 x1 x2 x3 x4 x5 x6 (x7 + (1 : Int32))) (kx_sI σ 7 ((((40 : Int32) * x3) + x4) + s0).toNatClampNeg (σ.1 7 ((((40 : Int32) * x1) + x2) + s0).toNatClampNeg))))
set_option maxHeartbeats 4000000 in
theorem w7_copy_J120 {σ : kx_St} {x1 : Int32} {x2 : Int32} {x3 : Int32} {x4 : Int32} {x5 : Int32} {x6 : Int32} {x7 : Int32} {s0 : Int32} {k96 : kx_St → Int32 → Int32 → Int32 → Int32 → Int32 → Int32 → Int32 → Prop} {Q : kx_St → Int32 → Prop} {H : Heap} {locs : List Loc} {ls : Array Slot} (cx : kx_Cx p s m args meth c D cy RX7 cX7_copy 9 (some .int)) (hk96 : ∀ (σ : kx_St) (x1 : Int32) (x2 : Int32) (x3 : Int32) (x4 : Int32) (x5 : Int32) (x6 : Int32) (x7 : Int32) (H : Heap) (locs : List Loc) (ls : Array Slot), k96 σ x1 x2 x3 x4 x5 x6 x7 → va_P D vwCl (kx_ws cy 1 ad σ) H → va_D A (kx_ws cy 1 ad σ) → va_S A s.heap H locs → lv_has ls 9 [(0, .ref (ad 0)), (1, .int x1), (2, .int x2), (3, .int x3), (4, .int x4), (5, .int x5), (6, .int x6), (7, .int x7)] → W p l e rm7_copy s m args below meth c H locs 0 0 (MQ below (kx_Qc kx_ci Q (kx_Wd D cy 1 ad A) A) args s 0 0 A) (F0 m 96 ls []))  (h : p7_copy_J120 σ x1 x2 x3 x4 x5 x6 x7 s0 k96 Q) (hP : va_P D vwCl (kx_ws cy 1 ad σ) H) (hD : va_D A (kx_ws cy 1 ad σ)) (hS : va_S A s.heap H locs) (hl : lv_has ls 9 [(0, .ref (ad 0)), (1, .int x1), (2, .int x2), (3, .int x3), (4, .int x4), (5, .int x5), (6, .int x6), (7, .int x7)]) : W p l e rm7_copy s m args below meth c H locs 0 0 (MQ below (kx_Qc kx_ci Q (kx_Wd D cy 1 ad A) A) args s 0 0 A) (F0 m 120 ls [.int s0]) := by
  obtain ⟨hx, hb, hr, hlocks, hml, hown, hts, hK⟩ := id cx
  refine lv_istore (pc := 120) (lv' := [(8, .int s0), (0, .ref (ad 0)), (1, .int x1), (2, .int x2), (3, .int x3), (4, .int x4), (5, .int x5), (6, .int x6), (7, .int x7)]) hx hb dX7_copy_120 hl (by decide) rfl (fun ls hl => ?_)
  refine lv_aload_n (pc := 122) hx hb dX7_copy_122 rfl (lv_at hl 1 rfl) ?_
  refine fg7_28 (pc := 123) (b := 7) hx hb hown hts hK hP rfl rfl dX7_copy_123 ?_
  refine lv_bipush (pc := 126) (v := (40 : Int32)) hx hb dX7_copy_126 (by decide) ?_
  refine lv_iload_n (pc := 128) hx hb dX7_copy_128 rfl (lv_at hl 4 rfl) ?_
  refine lv_imul (pc := 129) hx hb dX7_copy_129 ?_
  refine lv_iload (pc := 130) hx hb dX7_copy_130 (lv_at hl 5 rfl) ?_
  refine lv_iadd (pc := 132) hx hb dX7_copy_132 ?_
  refine lv_iload (pc := 133) hx hb dX7_copy_133 (lv_at hl 0 rfl) ?_
  refine lv_iadd (pc := 135) hx hb dX7_copy_135 ?_
  refine lv_aload_n (pc := 136) hx hb dX7_copy_136 rfl (lv_at hl 1 rfl) ?_
  refine fg7_28 (pc := 137) (b := 7) hx hb hown hts hK hP rfl rfl dX7_copy_137 ?_
  refine lv_bipush (pc := 140) (v := (40 : Int32)) hx hb dX7_copy_140 (by decide) ?_
  refine lv_iload_n (pc := 142) hx hb dX7_copy_142 rfl (lv_at hl 2 rfl) ?_
  refine lv_imul (pc := 143) hx hb dX7_copy_143 ?_
  refine lv_iload_n (pc := 144) hx hb dX7_copy_144 rfl (lv_at hl 3 rfl) ?_
  refine lv_iadd (pc := 145) hx hb dX7_copy_145 ?_
  refine lv_iload (pc := 146) hx hb dX7_copy_146 (lv_at hl 0 rfl) ?_
  refine lv_iadd (pc := 148) hx hb dX7_copy_148 ?_
  obtain ⟨g1, h⟩ := h
  refine kx_iald (pc := 149) hx hb hK hP rfl g1 dX7_copy_149 ?_
  obtain ⟨g2, h⟩ := h
  refine kx_iast (pc := 150) hx hb hK hP hD hS rfl g2 dX7_copy_150 (fun H locs hP hD hS => ?_)
  refine lv_iinc (pc := 151) (v := (x7 + (1 : Int32))) (lv' := [(7, .int (x7 + (1 : Int32))), (8, .int s0), (0, .ref (ad 0)), (1, .int x1), (2, .int x2), (3, .int x3), (4, .int x4), (5, .int x5), (6, .int x6)]) hx hb dX7_copy_151 hl (k := 8) rfl rfl (by decide) rfl (fun ls hl => ?_)
  refine lv_goto (pc := 154) (tgt := 96) hx hb dX7_copy_154 (by decide) ?_
  exact hk96 _ _ _ _ _ _ _ _ _ _ _ h hP hD hS (lv_sub hl [2, 3, 4, 5, 6, 7, 8, 0] rfl)
def p7_copy_L96 : Nat → kx_St → Int32 → Int32 → Int32 → Int32 → Int32 → Int32 → Int32 → (kx_St → Int32 → Prop) → Prop
  | 0, _, _, _, _, _, _, _, _, _ => False
  | n + 1, σ, x1, x2, x3, x4, x5, x6, x7, Q => (x5 ≤ x7 → Q σ (1 : Int32)) ∧ (¬ x5 ≤ x7 → (x6 = 0 → p7_copy_J120 σ x1 x2 x3 x4 x5 x6 x7 x7 (fun σ x1 x2 x3 x4 x5 x6 x7 => p7_copy_L96 n σ x1 x2 x3 x4 x5 x6 x7 Q) Q) ∧ (¬ x6 = 0 → p7_copy_J120 σ x1 x2 x3 x4 x5 x6 x7 ((x5 - (1 : Int32)) - x7) (fun σ x1 x2 x3 x4 x5 x6 x7 => p7_copy_L96 n σ x1 x2 x3 x4 x5 x6 x7 Q) Q))
set_option maxHeartbeats 4000000 in
theorem w7_copy_L96  {Q : kx_St → Int32 → Prop} (cx : kx_Cx p s m args meth c D cy RX7 cX7_copy 9 (some .int))  : ∀ (n : Nat) (σ : kx_St) (x1 : Int32) (x2 : Int32) (x3 : Int32) (x4 : Int32) (x5 : Int32) (x6 : Int32) (x7 : Int32) (H : Heap) (locs : List Loc) (ls : Array Slot), p7_copy_L96 n σ x1 x2 x3 x4 x5 x6 x7 Q → va_P D vwCl (kx_ws cy 1 ad σ) H → va_D A (kx_ws cy 1 ad σ) → va_S A s.heap H locs → lv_has ls 9 [(0, .ref (ad 0)), (1, .int x1), (2, .int x2), (3, .int x3), (4, .int x4), (5, .int x5), (6, .int x6), (7, .int x7)] → W p l e rm7_copy s m args below meth c H locs 0 0 (MQ below (kx_Qc kx_ci Q (kx_Wd D cy 1 ad A) A) args s 0 0 A) (F0 m 96 ls []) := by
  obtain ⟨hx, hb, hr, hlocks, hml, hown, hts, hK⟩ := id cx
  intro n
  induction n with
  | zero => intro _ _ _ _ _ _ _ _ _ _ _ h; exact False.elim h
  | succ n ih =>
    intro σ x1 x2 x3 x4 x5 x6 x7 H locs ls h hP hD hS hl
    refine lv_iload (pc := 96) hx hb dX7_copy_96 (lv_at hl 7 rfl) ?_
    refine lv_iload (pc := 98) hx hb dX7_copy_98 (lv_at hl 5 rfl) ?_
    refine lv_icmp_ge (pc := 100) (tgt := 157) hx hb dX7_copy_100 (by decide) (fun c1 => ?_) (fun c1 => ?_)
    · have h := h.1 c1
      refine lv_iconst (pc := 157) (v := (1 : Int32)) hx hb dX7_copy_157 (by decide) ?_
      exact kx_iret (pc := 158) hx hb hr hlocks hK hP hD hS h dX7_copy_158
    · have h := h.2 c1
      refine lv_iload (pc := 103) hx hb dX7_copy_103 (lv_at hl 6 rfl) ?_
      refine lv_if_eq (pc := 105) (tgt := 118) hx hb dX7_copy_105 (by decide) (fun c2 => ?_) (fun c2 => ?_)
      · have h := h.1 c2
        refine lv_iload (pc := 118) hx hb dX7_copy_118 (lv_at hl 7 rfl) ?_
        have hc3 : ∀ (σ : kx_St) (x1 : Int32) (x2 : Int32) (x3 : Int32) (x4 : Int32) (x5 : Int32) (x6 : Int32) (x7 : Int32) (H : Heap) (locs : List Loc) (ls : Array Slot), (fun σ x1 x2 x3 x4 x5 x6 x7 => p7_copy_L96 n σ x1 x2 x3 x4 x5 x6 x7 Q) σ x1 x2 x3 x4 x5 x6 x7 → va_P D vwCl (kx_ws cy 1 ad σ) H → va_D A (kx_ws cy 1 ad σ) → va_S A s.heap H locs → lv_has ls 9 [(0, .ref (ad 0)), (1, .int x1), (2, .int x2), (3, .int x3), (4, .int x4), (5, .int x5), (6, .int x6), (7, .int x7)] → W p l e rm7_copy s m args below meth c H locs 0 0 (MQ below (kx_Qc kx_ci Q (kx_Wd D cy 1 ad A) A) args s 0 0 A) (F0 m 96 ls []) := fun σ x1 x2 x3 x4 x5 x6 x7 H locs ls h hP hD hS hl => ih _ _ _ _ _ _ _ _ _ _ _ h hP hD hS hl
        exact w7_copy_J120 cx hc3 h hP hD hS (lv_sub hl [0, 1, 2, 3, 4, 5, 6, 7] rfl)
      · have h := h.2 c2
        refine lv_iload (pc := 108) hx hb dX7_copy_108 (lv_at hl 5 rfl) ?_
        refine lv_iconst (pc := 110) (v := (1 : Int32)) hx hb dX7_copy_110 (by decide) ?_
        refine lv_isub (pc := 111) hx hb dX7_copy_111 ?_
        refine lv_iload (pc := 112) hx hb dX7_copy_112 (lv_at hl 7 rfl) ?_
        refine lv_isub (pc := 114) hx hb dX7_copy_114 ?_
        refine lv_goto (pc := 115) (tgt := 120) hx hb dX7_copy_115 (by decide) ?_
        have hc4 : ∀ (σ : kx_St) (x1 : Int32) (x2 : Int32) (x3 : Int32) (x4 : Int32) (x5 : Int32) (x6 : Int32) (x7 : Int32) (H : Heap) (locs : List Loc) (ls : Array Slot), (fun σ x1 x2 x3 x4 x5 x6 x7 => p7_copy_L96 n σ x1 x2 x3 x4 x5 x6 x7 Q) σ x1 x2 x3 x4 x5 x6 x7 → va_P D vwCl (kx_ws cy 1 ad σ) H → va_D A (kx_ws cy 1 ad σ) → va_S A s.heap H locs → lv_has ls 9 [(0, .ref (ad 0)), (1, .int x1), (2, .int x2), (3, .int x3), (4, .int x4), (5, .int x5), (6, .int x6), (7, .int x7)] → W p l e rm7_copy s m args below meth c H locs 0 0 (MQ below (kx_Qc kx_ci Q (kx_Wd D cy 1 ad A) A) args s 0 0 A) (F0 m 96 ls []) := fun σ x1 x2 x3 x4 x5 x6 x7 H locs ls h hP hD hS hl => ih _ _ _ _ _ _ _ _ _ _ _ h hP hD hS hl
        exact w7_copy_J120 cx hc4 h hP hD hS (lv_sub hl [0, 1, 2, 3, 4, 5, 6, 7] rfl)
def p7_copy (σ : kx_St) (x1 : Int32) (x2 : Int32) (x3 : Int32) (x4 : Int32) (x5 : Int32) (Q : kx_St → Int32 → Prop) : Prop := p7_isRow x1 (fun r1 => (r1 = 0 → Q σ (-1 : Int32)) ∧ (¬ r1 = 0 → p7_isRow x3 (fun r3 => (¬ r3 = 0 → (0 ≤ x5 → vp_in x1 6 ∧ (((σ.1 6 x1.toNatClampNeg) < 0 → p7_copy_J45 σ Q) ∧ (¬ (σ.1 6 x1.toNatClampNeg) < 0 → vp_in x3 6 ∧ ((0 ≤ (σ.1 6 x3.toNatClampNeg) → p7_isSpan σ x1 x2 x5 (fun r10 => (r10 = 0 → p7_copy_J74 σ Q) ∧ (¬ r10 = 0 → p7_isSpan σ x3 x4 x5 (fun r12 => (¬ r12 = 0 → (x4 ≤ x2 → ∃ m96, p7_copy_L96 m96 σ x1 x2 x3 x4 x5 (0 : Int32) (0 : Int32) Q) ∧ (¬ x4 ≤ x2 → ∃ m96, p7_copy_L96 m96 σ x1 x2 x3 x4 x5 (1 : Int32) (0 : Int32) Q)) ∧ (r12 = 0 → p7_copy_J74 σ Q))))) ∧ (¬ 0 ≤ (σ.1 6 x3.toNatClampNeg) → p7_copy_J45 σ Q))))) ∧ (¬ 0 ≤ x5 → p7_find σ (5 : Int32) (fun σ16 r15 => Q σ16 r15))) ∧ (r3 = 0 → Q σ (-1 : Int32)))))
set_option maxHeartbeats 4000000 in
theorem q7_copy {σ : kx_St} {x1 : Int32} {x2 : Int32} {x3 : Int32} {x4 : Int32} {x5 : Int32} {Q : kx_St → Int32 → Prop} (h : p7_copy σ x1 x2 x3 x4 x5 Q) : Met l yX7_copy (Cond.code yX7_copy cX7_copy 9 (some .int) :: kx_big) rm7_copy (va_Pc [.ref (ad 0), .int x1, .int x2, .int x3, .int x4, .int x5] (kx_Wd D cy 1 ad A σ)) (kx_Qc kx_ci Q (kx_Wd D cy 1 ad A) A) 0 0 A := by
  refine kx_head (plainFor_of_name (by decide)) (Nat.le_of_ble_eq_true rfl) ?_
  intro p e s m below meth c ls cx hP hD hS hl
  obtain ⟨hx, hb, hr, hlocks, hml, hown, hts, hK⟩ := id cx
  have hl : lv_has ls 9 [(0, .ref (ad 0)), (1, .int x1), (2, .int x2), (3, .int x3), (4, .int x4), (5, .int x5)] := hl
  refine lv_iload_n (pc := 0) hx hb dX7_copy_0 rfl (lv_at hl 1 rfl) ?_
  refine kx_iSi (pc := 1) [.int x1] hx hb hml hown hts hK hP hD hS (q7_isRow h) (cw7_83 hts ⟨Nat.le_of_ble_eq_true rfl, Nat.le_of_ble_eq_true rfl⟩) rfl hl.1 rfl (Nat.le_of_ble_eq_true rfl) ⟨Nat.le_of_ble_eq_true rfl, Nat.le_of_ble_eq_true rfl⟩ dX7_copy_1 (fun r1 u_ H locs hP hD hS h => ?_)
  obtain ⟨hu_, h⟩ := h
  rw [hu_] at hP hD
  refine lv_if_eq (pc := 4) (tgt := 14) hx hb dX7_copy_4 (by decide) (fun c2 => ?_) (fun c2 => ?_)
  · have h := h.1 c2
    refine lv_iconst (pc := 14) (v := (-1 : Int32)) hx hb dX7_copy_14 (by decide) ?_
    exact kx_iret (pc := 15) hx hb hr hlocks hK hP hD hS h dX7_copy_15
  · have h := h.2 c2
    refine lv_iload_n (pc := 7) hx hb dX7_copy_7 rfl (lv_at hl 3 rfl) ?_
    refine kx_iSi (pc := 8) [.int x3] hx hb hml hown hts hK hP hD hS (q7_isRow h) (cw7_83 hts ⟨Nat.le_of_ble_eq_true rfl, Nat.le_of_ble_eq_true rfl⟩) rfl hl.1 rfl (Nat.le_of_ble_eq_true rfl) ⟨Nat.le_of_ble_eq_true rfl, Nat.le_of_ble_eq_true rfl⟩ dX7_copy_8 (fun r3 u_ H locs hP hD hS h => ?_)
    obtain ⟨hu_, h⟩ := h
    rw [hu_] at hP hD
    refine lv_if_ne (pc := 11) (tgt := 16) hx hb dX7_copy_11 (by decide) (fun c4 => ?_) (fun c4 => ?_)
    · have h := h.1 c4
      refine lv_iload (pc := 16) hx hb dX7_copy_16 (lv_at hl 5 rfl) ?_
      refine lv_if_ge (pc := 18) (tgt := 27) hx hb dX7_copy_18 (by decide) (fun c5 => ?_) (fun c5 => ?_)
      · have h := h.1 c5
        refine lv_aload_n (pc := 27) hx hb dX7_copy_27 rfl (lv_at hl 0 rfl) ?_
        refine fg7_25 (pc := 28) (b := 6) hx hb hown hts hK hP rfl rfl dX7_copy_28 ?_
        refine lv_iload_n (pc := 31) hx hb dX7_copy_31 rfl (lv_at hl 1 rfl) ?_
        obtain ⟨g6, h⟩ := h
        refine kx_iald (pc := 32) hx hb hK hP rfl g6 dX7_copy_32 ?_
        refine lv_if_lt (pc := 33) (tgt := 45) hx hb dX7_copy_33 (by decide) (fun c7 => ?_) (fun c7 => ?_)
        · have h := h.1 c7
          exact w7_copy_J45 cx  h hP hD hS (lv_sub hl [0] rfl)
        · have h := h.2 c7
          refine lv_aload_n (pc := 36) hx hb dX7_copy_36 rfl (lv_at hl 0 rfl) ?_
          refine fg7_25 (pc := 37) (b := 6) hx hb hown hts hK hP rfl rfl dX7_copy_37 ?_
          refine lv_iload_n (pc := 40) hx hb dX7_copy_40 rfl (lv_at hl 3 rfl) ?_
          obtain ⟨g8, h⟩ := h
          refine kx_iald (pc := 41) hx hb hK hP rfl g8 dX7_copy_41 ?_
          refine lv_if_ge (pc := 42) (tgt := 51) hx hb dX7_copy_42 (by decide) (fun c9 => ?_) (fun c9 => ?_)
          · have h := h.1 c9
            refine lv_aload_n (pc := 51) hx hb dX7_copy_51 rfl (lv_at hl 0 rfl) ?_
            refine lv_iload_n (pc := 52) hx hb dX7_copy_52 rfl (lv_at hl 1 rfl) ?_
            refine lv_iload_n (pc := 53) hx hb dX7_copy_53 rfl (lv_at hl 2 rfl) ?_
            refine lv_iload (pc := 54) hx hb dX7_copy_54 (lv_at hl 5 rfl) ?_
            refine kx_iVi (pc := 56) [.int x1, .int x2, .int x5] hx hb hml hown hts hK hP hD hS (q7_isSpan h) (cw7_102 hts ⟨Nat.le_of_ble_eq_true rfl, Nat.le_of_ble_eq_true rfl⟩) rfl (by decide) rfl rfl hl.1 rfl (Nat.le_of_ble_eq_true rfl) ⟨Nat.le_of_ble_eq_true rfl, Nat.le_of_ble_eq_true rfl⟩ dX7_copy_56 (fun r10 u_ H locs hP hD hS h => ?_)
            obtain ⟨hu_, h⟩ := h
            rw [hu_] at hP hD
            refine lv_if_eq (pc := 59) (tgt := 74) hx hb dX7_copy_59 (by decide) (fun c11 => ?_) (fun c11 => ?_)
            · have h := h.1 c11
              exact w7_copy_J74 cx  h hP hD hS (lv_sub hl [0] rfl)
            · have h := h.2 c11
              refine lv_aload_n (pc := 62) hx hb dX7_copy_62 rfl (lv_at hl 0 rfl) ?_
              refine lv_iload_n (pc := 63) hx hb dX7_copy_63 rfl (lv_at hl 3 rfl) ?_
              refine lv_iload (pc := 64) hx hb dX7_copy_64 (lv_at hl 4 rfl) ?_
              refine lv_iload (pc := 66) hx hb dX7_copy_66 (lv_at hl 5 rfl) ?_
              refine kx_iVi (pc := 68) [.int x3, .int x4, .int x5] hx hb hml hown hts hK hP hD hS (q7_isSpan h) (cw7_102 hts ⟨Nat.le_of_ble_eq_true rfl, Nat.le_of_ble_eq_true rfl⟩) rfl (by decide) rfl rfl hl.1 rfl (Nat.le_of_ble_eq_true rfl) ⟨Nat.le_of_ble_eq_true rfl, Nat.le_of_ble_eq_true rfl⟩ dX7_copy_68 (fun r12 u_ H locs hP hD hS h => ?_)
              obtain ⟨hu_, h⟩ := h
              rw [hu_] at hP hD
              refine lv_if_ne (pc := 71) (tgt := 80) hx hb dX7_copy_71 (by decide) (fun c13 => ?_) (fun c13 => ?_)
              · have h := h.1 c13
                refine lv_iload_n (pc := 80) hx hb dX7_copy_80 rfl (lv_at hl 2 rfl) ?_
                refine lv_iload (pc := 81) hx hb dX7_copy_81 (lv_at hl 4 rfl) ?_
                refine lv_icmp_ge (pc := 83) (tgt := 90) hx hb dX7_copy_83 (by decide) (fun c14 => ?_) (fun c14 => ?_)
                · have h := h.1 c14
                  refine lv_iconst (pc := 90) (v := (0 : Int32)) hx hb dX7_copy_90 (by decide) ?_
                  refine lv_istore (pc := 91) (lv' := [(6, .int (0 : Int32)), (0, .ref (ad 0)), (1, .int x1), (2, .int x2), (3, .int x3), (4, .int x4), (5, .int x5)]) hx hb dX7_copy_91 hl (by decide) rfl (fun ls hl => ?_)
                  refine lv_iconst (pc := 93) (v := (0 : Int32)) hx hb dX7_copy_93 (by decide) ?_
                  refine lv_istore (pc := 94) (lv' := [(7, .int (0 : Int32)), (6, .int (0 : Int32)), (0, .ref (ad 0)), (1, .int x1), (2, .int x2), (3, .int x3), (4, .int x4), (5, .int x5)]) hx hb dX7_copy_94 hl (by decide) rfl (fun ls hl => ?_)
                  obtain ⟨n0, h⟩ := h
                  exact w7_copy_L96 cx  n0 _ _ _ _ _ _ _ _ _ _ _ h hP hD hS (lv_sub hl [2, 3, 4, 5, 6, 7, 1, 0] rfl)
                · have h := h.2 c14
                  refine lv_iconst (pc := 86) (v := (1 : Int32)) hx hb dX7_copy_86 (by decide) ?_
                  refine lv_goto (pc := 87) (tgt := 91) hx hb dX7_copy_87 (by decide) ?_
                  refine lv_istore (pc := 91) (lv' := [(6, .int (1 : Int32)), (0, .ref (ad 0)), (1, .int x1), (2, .int x2), (3, .int x3), (4, .int x4), (5, .int x5)]) hx hb dX7_copy_91 hl (by decide) rfl (fun ls hl => ?_)
                  refine lv_iconst (pc := 93) (v := (0 : Int32)) hx hb dX7_copy_93 (by decide) ?_
                  refine lv_istore (pc := 94) (lv' := [(7, .int (0 : Int32)), (6, .int (1 : Int32)), (0, .ref (ad 0)), (1, .int x1), (2, .int x2), (3, .int x3), (4, .int x4), (5, .int x5)]) hx hb dX7_copy_94 hl (by decide) rfl (fun ls hl => ?_)
                  obtain ⟨n0, h⟩ := h
                  exact w7_copy_L96 cx  n0 _ _ _ _ _ _ _ _ _ _ _ h hP hD hS (lv_sub hl [2, 3, 4, 5, 6, 7, 1, 0] rfl)
              · have h := h.2 c13
                exact w7_copy_J74 cx  h hP hD hS (lv_sub hl [0] rfl)
          · have h := h.2 c9
            exact w7_copy_J45 cx  h hP hD hS (lv_sub hl [0] rfl)
      · have h := h.2 c5
        refine lv_aload_n (pc := 21) hx hb dX7_copy_21 rfl (lv_at hl 0 rfl) ?_
        refine lv_iconst (pc := 22) (v := (5 : Int32)) hx hb dX7_copy_22 (by decide) ?_
        refine kx_iVi (pc := 23) [.int (5 : Int32)] hx hb hml hown hts hK hP hD hS (q7_find h) (cw7_87 hts ⟨Nat.le_of_ble_eq_true rfl, Nat.le_of_ble_eq_true rfl⟩) rfl (by decide) rfl rfl hl.1 rfl (Nat.le_of_ble_eq_true rfl) ⟨Nat.le_of_ble_eq_true rfl, Nat.le_of_ble_eq_true rfl⟩ dX7_copy_23 (fun r15 σ16 H locs hP hD hS h => ?_)
        exact kx_iret (pc := 26) hx hb hr hlocks hK hP hD hS h dX7_copy_26
    · have h := h.2 c4
      refine lv_iconst (pc := 14) (v := (-1 : Int32)) hx hb dX7_copy_14 (by decide) ?_
      exact kx_iret (pc := 15) hx hb hr hlocks hK hP hD hS h dX7_copy_15
def p7_mean_L44 : Nat → kx_St → Int32 → Int64 → Int32 → (kx_St → Int32 → Prop) → Prop
  | 0, _, _, _, _, _ => False
  | n + 1, σ, x1, x2, x4, Q => vp_in x1 6 ∧ (((σ.1 6 x1.toNatClampNeg) ≤ x4 → vp_in x1 6 ∧ (¬ ((σ.1 6 x1.toNatClampNeg).toInt64) = 0 ∧ (p7_tell σ ((x2 / ((σ.1 6 x1.toNatClampNeg).toInt64)).toInt32) (fun σ6 r5 => Q σ6 r5)))) ∧ (¬ (σ.1 6 x1.toNatClampNeg) ≤ x4 → vp_in (((40 : Int32) * x1) + x4) 240 ∧ (p7_mean_L44 n σ x1 (x2 + ((σ.1 7 (((40 : Int32) * x1) + x4).toNatClampNeg).toInt64)) (x4 + (1 : Int32)) Q)))
set_option maxHeartbeats 4000000 in
theorem w7_mean_L44  {Q : kx_St → Int32 → Prop} (cx : kx_Cx p s m args meth c D cy RX7 cX7_mean 5 (some .int))  : ∀ (n : Nat) (σ : kx_St) (x1 : Int32) (x2 : Int64) (x4 : Int32) (H : Heap) (locs : List Loc) (ls : Array Slot), p7_mean_L44 n σ x1 x2 x4 Q → va_P D vwCl (kx_ws cy 1 ad σ) H → va_D A (kx_ws cy 1 ad σ) → va_S A s.heap H locs → lv_has ls 5 [(0, .ref (ad 0)), (1, .int x1), (2, .long x2), (4, .int x4)] → W p l e rm7_mean s m args below meth c H locs 0 0 (MQ below (kx_Qc kx_ci Q (kx_Wd D cy 1 ad A) A) args s 0 0 A) (F0 m 44 ls []) := by
  obtain ⟨hx, hb, hr, hlocks, hml, hown, hts, hK⟩ := id cx
  intro n
  induction n with
  | zero => intro _ _ _ _ _ _ _ h; exact False.elim h
  | succ n ih =>
    intro σ x1 x2 x4 H locs ls h hP hD hS hl
    refine lv_iload (pc := 44) hx hb dX7_mean_44 (lv_at hl 3 rfl) ?_
    refine lv_aload_n (pc := 46) hx hb dX7_mean_46 rfl (lv_at hl 0 rfl) ?_
    refine fg7_25 (pc := 47) (b := 6) hx hb hown hts hK hP rfl rfl dX7_mean_47 ?_
    refine lv_iload_n (pc := 50) hx hb dX7_mean_50 rfl (lv_at hl 1 rfl) ?_
    obtain ⟨g1, h⟩ := h
    refine kx_iald (pc := 51) hx hb hK hP rfl g1 dX7_mean_51 ?_
    refine lv_icmp_ge (pc := 52) (tgt := 77) hx hb dX7_mean_52 (by decide) (fun c2 => ?_) (fun c2 => ?_)
    · have h := h.1 c2
      refine lv_aload_n (pc := 77) hx hb dX7_mean_77 rfl (lv_at hl 0 rfl) ?_
      refine lv_lload_n (pc := 78) hx hb dX7_mean_78 rfl (lv_at hl 2 rfl) ?_
      refine lv_aload_n (pc := 79) hx hb dX7_mean_79 rfl (lv_at hl 0 rfl) ?_
      refine fg7_25 (pc := 80) (b := 6) hx hb hown hts hK hP rfl rfl dX7_mean_80 ?_
      refine lv_iload_n (pc := 83) hx hb dX7_mean_83 rfl (lv_at hl 1 rfl) ?_
      obtain ⟨g3, h⟩ := h
      refine kx_iald (pc := 84) hx hb hK hP rfl g3 dX7_mean_84 ?_
      refine lv_i2l (pc := 85) (v := ((σ.1 6 x1.toNatClampNeg).toInt64)) hx hb dX7_mean_85 rfl ?_
      obtain ⟨g4, h⟩ := h
      refine lv_ldiv (pc := 86) hx hb dX7_mean_86 g4 ?_
      refine lv_l2i (pc := 87) (v := ((x2 / ((σ.1 6 x1.toNatClampNeg).toInt64)).toInt32)) hx hb dX7_mean_87 rfl ?_
      refine kx_iVi (pc := 88) [.int ((x2 / ((σ.1 6 x1.toNatClampNeg).toInt64)).toInt32)] hx hb hml hown hts hK hP hD hS (q7_tell h) (cw7_99 hts ⟨Nat.le_of_ble_eq_true rfl, Nat.le_of_ble_eq_true rfl⟩) rfl (by decide) rfl rfl hl.1 rfl (Nat.le_of_ble_eq_true rfl) ⟨Nat.le_of_ble_eq_true rfl, Nat.le_of_ble_eq_true rfl⟩ dX7_mean_88 (fun r5 σ6 H locs hP hD hS h => ?_)
      exact kx_iret (pc := 91) hx hb hr hlocks hK hP hD hS h dX7_mean_91
    · have h := h.2 c2
      refine lv_lload_n (pc := 55) hx hb dX7_mean_55 rfl (lv_at hl 2 rfl) ?_
      refine lv_aload_n (pc := 56) hx hb dX7_mean_56 rfl (lv_at hl 0 rfl) ?_
      refine fg7_28 (pc := 57) (b := 7) hx hb hown hts hK hP rfl rfl dX7_mean_57 ?_
      refine lv_bipush (pc := 60) (v := (40 : Int32)) hx hb dX7_mean_60 (by decide) ?_
      refine lv_iload_n (pc := 62) hx hb dX7_mean_62 rfl (lv_at hl 1 rfl) ?_
      refine lv_imul (pc := 63) hx hb dX7_mean_63 ?_
      refine lv_iload (pc := 64) hx hb dX7_mean_64 (lv_at hl 3 rfl) ?_
      refine lv_iadd (pc := 66) hx hb dX7_mean_66 ?_
      obtain ⟨g7, h⟩ := h
      refine kx_iald (pc := 67) hx hb hK hP rfl g7 dX7_mean_67 ?_
      refine lv_i2l (pc := 68) (v := ((σ.1 7 (((40 : Int32) * x1) + x4).toNatClampNeg).toInt64)) hx hb dX7_mean_68 rfl ?_
      refine lv_ladd (pc := 69) hx hb dX7_mean_69 ?_
      refine lv_lstore_n (pc := 70) (lv' := [(2, .long (x2 + ((σ.1 7 (((40 : Int32) * x1) + x4).toNatClampNeg).toInt64))), (0, .ref (ad 0)), (1, .int x1), (4, .int x4)]) hx hb dX7_mean_70 rfl hl (by decide) rfl (fun ls hl => ?_)
      refine lv_iinc (pc := 71) (v := (x4 + (1 : Int32))) (lv' := [(4, .int (x4 + (1 : Int32))), (2, .long (x2 + ((σ.1 7 (((40 : Int32) * x1) + x4).toNatClampNeg).toInt64))), (0, .ref (ad 0)), (1, .int x1)]) hx hb dX7_mean_71 hl (k := 3) rfl rfl (by decide) rfl (fun ls hl => ?_)
      refine lv_goto (pc := 74) (tgt := 44) hx hb dX7_mean_74 (by decide) ?_
      exact ih _ _ _ _ _ _ _ h hP hD hS (lv_sub hl [2, 3, 1, 0] rfl)
def p7_mean (σ : kx_St) (x1 : Int32) (Q : kx_St → Int32 → Prop) : Prop := p7_isRow x1 (fun r1 => (¬ r1 = 0 → vp_in x1 6 ∧ ((0 ≤ (σ.1 6 x1.toNatClampNeg) → vp_in x1 6 ∧ ((¬ (σ.1 6 x1.toNatClampNeg) = 0 → ∃ m44, p7_mean_L44 m44 σ x1 (0 : Int64) (0 : Int32) Q) ∧ ((σ.1 6 x1.toNatClampNeg) = 0 → p7_find σ (4 : Int32) (fun σ8 r7 => Q σ8 r7)))) ∧ (¬ 0 ≤ (σ.1 6 x1.toNatClampNeg) → p7_find σ (1 : Int32) (fun σ10 r9 => Q σ10 r9)))) ∧ (r1 = 0 → Q σ (-1 : Int32)))
set_option maxHeartbeats 4000000 in
theorem q7_mean {σ : kx_St} {x1 : Int32} {Q : kx_St → Int32 → Prop} (h : p7_mean σ x1 Q) : Met l yX7_mean (Cond.code yX7_mean cX7_mean 5 (some .int) :: kx_big) rm7_mean (va_Pc [.ref (ad 0), .int x1] (kx_Wd D cy 1 ad A σ)) (kx_Qc kx_ci Q (kx_Wd D cy 1 ad A) A) 0 0 A := by
  refine kx_head (plainFor_of_name (by decide)) (Nat.le_of_ble_eq_true rfl) ?_
  intro p e s m below meth c ls cx hP hD hS hl
  obtain ⟨hx, hb, hr, hlocks, hml, hown, hts, hK⟩ := id cx
  have hl : lv_has ls 5 [(0, .ref (ad 0)), (1, .int x1)] := hl
  refine lv_iload_n (pc := 0) hx hb dX7_mean_0 rfl (lv_at hl 1 rfl) ?_
  refine kx_iSi (pc := 1) [.int x1] hx hb hml hown hts hK hP hD hS (q7_isRow h) (cw7_83 hts ⟨Nat.le_of_ble_eq_true rfl, Nat.le_of_ble_eq_true rfl⟩) rfl hl.1 rfl (Nat.le_of_ble_eq_true rfl) ⟨Nat.le_of_ble_eq_true rfl, Nat.le_of_ble_eq_true rfl⟩ dX7_mean_1 (fun r1 u_ H locs hP hD hS h => ?_)
  obtain ⟨hu_, h⟩ := h
  rw [hu_] at hP hD
  refine lv_if_ne (pc := 4) (tgt := 9) hx hb dX7_mean_4 (by decide) (fun c2 => ?_) (fun c2 => ?_)
  · have h := h.1 c2
    refine lv_aload_n (pc := 9) hx hb dX7_mean_9 rfl (lv_at hl 0 rfl) ?_
    refine fg7_25 (pc := 10) (b := 6) hx hb hown hts hK hP rfl rfl dX7_mean_10 ?_
    refine lv_iload_n (pc := 13) hx hb dX7_mean_13 rfl (lv_at hl 1 rfl) ?_
    obtain ⟨g3, h⟩ := h
    refine kx_iald (pc := 14) hx hb hK hP rfl g3 dX7_mean_14 ?_
    refine lv_if_ge (pc := 15) (tgt := 24) hx hb dX7_mean_15 (by decide) (fun c4 => ?_) (fun c4 => ?_)
    · have h := h.1 c4
      refine lv_aload_n (pc := 24) hx hb dX7_mean_24 rfl (lv_at hl 0 rfl) ?_
      refine fg7_25 (pc := 25) (b := 6) hx hb hown hts hK hP rfl rfl dX7_mean_25 ?_
      refine lv_iload_n (pc := 28) hx hb dX7_mean_28 rfl (lv_at hl 1 rfl) ?_
      obtain ⟨g5, h⟩ := h
      refine kx_iald (pc := 29) hx hb hK hP rfl g5 dX7_mean_29 ?_
      refine lv_if_ne (pc := 30) (tgt := 39) hx hb dX7_mean_30 (by decide) (fun c6 => ?_) (fun c6 => ?_)
      · have h := h.1 c6
        refine lv_lconst (pc := 39) (v := (0 : Int64)) hx hb dX7_mean_39 (by decide) ?_
        refine lv_lstore_n (pc := 40) (lv' := [(2, .long (0 : Int64)), (0, .ref (ad 0)), (1, .int x1)]) hx hb dX7_mean_40 rfl hl (by decide) rfl (fun ls hl => ?_)
        refine lv_iconst (pc := 41) (v := (0 : Int32)) hx hb dX7_mean_41 (by decide) ?_
        refine lv_istore (pc := 42) (lv' := [(4, .int (0 : Int32)), (2, .long (0 : Int64)), (0, .ref (ad 0)), (1, .int x1)]) hx hb dX7_mean_42 hl (by decide) rfl (fun ls hl => ?_)
        obtain ⟨n0, h⟩ := h
        exact w7_mean_L44 cx  n0 _ _ _ _ _ _ _ h hP hD hS (lv_sub hl [2, 3, 1, 0] rfl)
      · have h := h.2 c6
        refine lv_aload_n (pc := 33) hx hb dX7_mean_33 rfl (lv_at hl 0 rfl) ?_
        refine lv_iconst (pc := 34) (v := (4 : Int32)) hx hb dX7_mean_34 (by decide) ?_
        refine kx_iVi (pc := 35) [.int (4 : Int32)] hx hb hml hown hts hK hP hD hS (q7_find h) (cw7_87 hts ⟨Nat.le_of_ble_eq_true rfl, Nat.le_of_ble_eq_true rfl⟩) rfl (by decide) rfl rfl hl.1 rfl (Nat.le_of_ble_eq_true rfl) ⟨Nat.le_of_ble_eq_true rfl, Nat.le_of_ble_eq_true rfl⟩ dX7_mean_35 (fun r7 σ8 H locs hP hD hS h => ?_)
        exact kx_iret (pc := 38) hx hb hr hlocks hK hP hD hS h dX7_mean_38
    · have h := h.2 c4
      refine lv_aload_n (pc := 18) hx hb dX7_mean_18 rfl (lv_at hl 0 rfl) ?_
      refine lv_iconst (pc := 19) (v := (1 : Int32)) hx hb dX7_mean_19 (by decide) ?_
      refine kx_iVi (pc := 20) [.int (1 : Int32)] hx hb hml hown hts hK hP hD hS (q7_find h) (cw7_87 hts ⟨Nat.le_of_ble_eq_true rfl, Nat.le_of_ble_eq_true rfl⟩) rfl (by decide) rfl rfl hl.1 rfl (Nat.le_of_ble_eq_true rfl) ⟨Nat.le_of_ble_eq_true rfl, Nat.le_of_ble_eq_true rfl⟩ dX7_mean_20 (fun r9 σ10 H locs hP hD hS h => ?_)
      exact kx_iret (pc := 23) hx hb hr hlocks hK hP hD hS h dX7_mean_23
  · have h := h.2 c2
    refine lv_iconst (pc := 7) (v := (-1 : Int32)) hx hb dX7_mean_7 (by decide) ?_
    exact kx_iret (pc := 8) hx hb hr hlocks hK hP hD hS h dX7_mean_8
def p7_text_L34 : Nat → kx_St → Int32 → Int32 → Int32 → (kx_St → Int32 → Prop) → Prop
  | 0, _, _, _, _, _ => False
  | n + 1, σ, x1, x2, x3, Q => ((60 : Int32) ≤ x3 → Q σ x2) ∧ (¬ (60 : Int32) ≤ x3 → vp_in (((60 : Int32) * x1) + x3) 240 ∧ ((fun σ3 : kx_St => p7_text_L34 n σ3 x1 x2 (x3 + (1 : Int32)) Q) (kx_sI σ 9 (((60 : Int32) * x1) + x3).toNatClampNeg (32 : Int32))))
set_option maxHeartbeats 4000000 in
theorem w7_text_L34  {Q : kx_St → Int32 → Prop} (cx : kx_Cx p s m args meth c D cy RX7 cX7_text 4 (some .int))  : ∀ (n : Nat) (σ : kx_St) (x1 : Int32) (x2 : Int32) (x3 : Int32) (H : Heap) (locs : List Loc) (ls : Array Slot), p7_text_L34 n σ x1 x2 x3 Q → va_P D vwCl (kx_ws cy 1 ad σ) H → va_D A (kx_ws cy 1 ad σ) → va_S A s.heap H locs → lv_has ls 4 [(0, .ref (ad 0)), (1, .int x1), (2, .int x2), (3, .int x3)] → W p l e rm7_text s m args below meth c H locs 0 0 (MQ below (kx_Qc kx_ci Q (kx_Wd D cy 1 ad A) A) args s 0 0 A) (F0 m 34 ls []) := by
  obtain ⟨hx, hb, hr, hlocks, hml, hown, hts, hK⟩ := id cx
  intro n
  induction n with
  | zero => intro _ _ _ _ _ _ _ h; exact False.elim h
  | succ n ih =>
    intro σ x1 x2 x3 H locs ls h hP hD hS hl
    refine lv_iload_n (pc := 34) hx hb dX7_text_34 rfl (lv_at hl 3 rfl) ?_
    refine lv_bipush (pc := 35) (v := (60 : Int32)) hx hb dX7_text_35 (by decide) ?_
    refine lv_icmp_ge (pc := 37) (tgt := 59) hx hb dX7_text_37 (by decide) (fun c1 => ?_) (fun c1 => ?_)
    · have h := h.1 c1
      refine lv_iload_n (pc := 59) hx hb dX7_text_59 rfl (lv_at hl 2 rfl) ?_
      exact kx_iret (pc := 60) hx hb hr hlocks hK hP hD hS h dX7_text_60
    · have h := h.2 c1
      refine lv_aload_n (pc := 40) hx hb dX7_text_40 rfl (lv_at hl 0 rfl) ?_
      refine fg7_34 (pc := 41) (b := 9) hx hb hown hts hK hP rfl rfl dX7_text_41 ?_
      refine lv_bipush (pc := 44) (v := (60 : Int32)) hx hb dX7_text_44 (by decide) ?_
      refine lv_iload_n (pc := 46) hx hb dX7_text_46 rfl (lv_at hl 1 rfl) ?_
      refine lv_imul (pc := 47) hx hb dX7_text_47 ?_
      refine lv_iload_n (pc := 48) hx hb dX7_text_48 rfl (lv_at hl 3 rfl) ?_
      refine lv_iadd (pc := 49) hx hb dX7_text_49 ?_
      refine lv_bipush (pc := 50) (v := (32 : Int32)) hx hb dX7_text_50 (by decide) ?_
      obtain ⟨g2, h⟩ := h
      refine kx_iast (pc := 52) hx hb hK hP hD hS rfl g2 dX7_text_52 (fun H locs hP hD hS => ?_)
      refine lv_iinc (pc := 53) (v := (x3 + (1 : Int32))) (lv' := [(3, .int (x3 + (1 : Int32))), (0, .ref (ad 0)), (1, .int x1), (2, .int x2)]) hx hb dX7_text_53 hl (k := 3) rfl rfl (by decide) rfl (fun ls hl => ?_)
      refine lv_goto (pc := 56) (tgt := 34) hx hb dX7_text_56 (by decide) ?_
      exact ih _ _ _ _ _ _ _ h hP hD hS (lv_sub hl [1, 2, 3, 0] rfl)
def p7_text (σ : kx_St) (x1 : Int32) (x2 : Int32) (Q : kx_St → Int32 → Prop) : Prop := p7_isText x1 (fun r1 => (r1 = 0 → Q σ (-1 : Int32)) ∧ (¬ r1 = 0 → (x2 ≤ (60 : Int32) → (0 ≤ x2 → vp_in x1 4 ∧ ((fun σ6 : kx_St => ∃ m34, p7_text_L34 m34 σ6 x1 x2 (0 : Int32) Q) (kx_sI σ 8 x1.toNatClampNeg x2))) ∧ (¬ 0 ≤ x2 → p7_find σ (5 : Int32) (fun σ8 r7 => Q σ8 r7))) ∧ (¬ x2 ≤ (60 : Int32) → Q σ (-1 : Int32))))
set_option maxHeartbeats 4000000 in
theorem q7_text {σ : kx_St} {x1 : Int32} {x2 : Int32} {Q : kx_St → Int32 → Prop} (h : p7_text σ x1 x2 Q) : Met l yX7_text (Cond.code yX7_text cX7_text 4 (some .int) :: kx_big) rm7_text (va_Pc [.ref (ad 0), .int x1, .int x2] (kx_Wd D cy 1 ad A σ)) (kx_Qc kx_ci Q (kx_Wd D cy 1 ad A) A) 0 0 A := by
  refine kx_head (plainFor_of_name (by decide)) (Nat.le_of_ble_eq_true rfl) ?_
  intro p e s m below meth c ls cx hP hD hS hl
  obtain ⟨hx, hb, hr, hlocks, hml, hown, hts, hK⟩ := id cx
  have hl : lv_has ls 4 [(0, .ref (ad 0)), (1, .int x1), (2, .int x2)] := hl
  refine lv_iload_n (pc := 0) hx hb dX7_text_0 rfl (lv_at hl 1 rfl) ?_
  refine kx_iSi (pc := 1) [.int x1] hx hb hml hown hts hK hP hD hS (q7_isText h) (cw7_106 hts ⟨Nat.le_of_ble_eq_true rfl, Nat.le_of_ble_eq_true rfl⟩) rfl hl.1 rfl (Nat.le_of_ble_eq_true rfl) ⟨Nat.le_of_ble_eq_true rfl, Nat.le_of_ble_eq_true rfl⟩ dX7_text_1 (fun r1 u_ H locs hP hD hS h => ?_)
  obtain ⟨hu_, h⟩ := h
  rw [hu_] at hP hD
  refine lv_if_eq (pc := 4) (tgt := 13) hx hb dX7_text_4 (by decide) (fun c2 => ?_) (fun c2 => ?_)
  · have h := h.1 c2
    refine lv_iconst (pc := 13) (v := (-1 : Int32)) hx hb dX7_text_13 (by decide) ?_
    exact kx_iret (pc := 14) hx hb hr hlocks hK hP hD hS h dX7_text_14
  · have h := h.2 c2
    refine lv_iload_n (pc := 7) hx hb dX7_text_7 rfl (lv_at hl 2 rfl) ?_
    refine lv_bipush (pc := 8) (v := (60 : Int32)) hx hb dX7_text_8 (by decide) ?_
    refine lv_icmp_le (pc := 10) (tgt := 15) hx hb dX7_text_10 (by decide) (fun c3 => ?_) (fun c3 => ?_)
    · have h := h.1 c3
      refine lv_iload_n (pc := 15) hx hb dX7_text_15 rfl (lv_at hl 2 rfl) ?_
      refine lv_if_ge (pc := 16) (tgt := 25) hx hb dX7_text_16 (by decide) (fun c4 => ?_) (fun c4 => ?_)
      · have h := h.1 c4
        refine lv_aload_n (pc := 25) hx hb dX7_text_25 rfl (lv_at hl 0 rfl) ?_
        refine fg7_31 (pc := 26) (b := 8) hx hb hown hts hK hP rfl rfl dX7_text_26 ?_
        refine lv_iload_n (pc := 29) hx hb dX7_text_29 rfl (lv_at hl 1 rfl) ?_
        refine lv_iload_n (pc := 30) hx hb dX7_text_30 rfl (lv_at hl 2 rfl) ?_
        obtain ⟨g5, h⟩ := h
        refine kx_iast (pc := 31) hx hb hK hP hD hS rfl g5 dX7_text_31 (fun H locs hP hD hS => ?_)
        refine lv_iconst (pc := 32) (v := (0 : Int32)) hx hb dX7_text_32 (by decide) ?_
        refine lv_istore_n (pc := 33) (lv' := [(3, .int (0 : Int32)), (0, .ref (ad 0)), (1, .int x1), (2, .int x2)]) hx hb dX7_text_33 rfl hl (by decide) rfl (fun ls hl => ?_)
        obtain ⟨n0, h⟩ := h
        exact w7_text_L34 cx  n0 _ _ _ _ _ _ _ h hP hD hS (lv_sub hl [1, 2, 3, 0] rfl)
      · have h := h.2 c4
        refine lv_aload_n (pc := 19) hx hb dX7_text_19 rfl (lv_at hl 0 rfl) ?_
        refine lv_iconst (pc := 20) (v := (5 : Int32)) hx hb dX7_text_20 (by decide) ?_
        refine kx_iVi (pc := 21) [.int (5 : Int32)] hx hb hml hown hts hK hP hD hS (q7_find h) (cw7_87 hts ⟨Nat.le_of_ble_eq_true rfl, Nat.le_of_ble_eq_true rfl⟩) rfl (by decide) rfl rfl hl.1 rfl (Nat.le_of_ble_eq_true rfl) ⟨Nat.le_of_ble_eq_true rfl, Nat.le_of_ble_eq_true rfl⟩ dX7_text_21 (fun r7 σ8 H locs hP hD hS h => ?_)
        exact kx_iret (pc := 24) hx hb hr hlocks hK hP hD hS h dX7_text_24
    · have h := h.2 c3
      refine lv_iconst (pc := 13) (v := (-1 : Int32)) hx hb dX7_text_13 (by decide) ?_
      exact kx_iret (pc := 14) hx hb hr hlocks hK hP hD hS h dX7_text_14
def p7_put (σ : kx_St) (x1 : Int32) (x2 : Int32) (x3 : Int32) (Q : kx_St → Int32 → Prop) : Prop := p7_isText x1 (fun r1 => (¬ r1 = 0 → vp_in x1 4 ∧ ((0 ≤ (σ.1 8 x1.toNatClampNeg) → vp_in x1 4 ∧ (p7_in (x2.toInt64) (0 : Int64) (((σ.1 8 x1.toNatClampNeg) - (1 : Int32)).toInt64) (fun r6 => (¬ r6 = 0 → vp_in (((60 : Int32) * x1) + x2) 240 ∧ (vp_in (((60 : Int32) * x1) + x2) 240 ∧ ((fun σ10 : kx_St => Q σ10 ((σ.1 9 (((60 : Int32) * x1) + x2).toNatClampNeg) + (1000 : Int32))) (kx_sI σ 9 (((60 : Int32) * x1) + x2).toNatClampNeg (x3.toInt8.toInt32))))) ∧ (r6 = 0 → p7_find σ (2 : Int32) (fun σ12 r11 => Q σ12 r11))))) ∧ (¬ 0 ≤ (σ.1 8 x1.toNatClampNeg) → p7_find σ (1 : Int32) (fun σ14 r13 => Q σ14 r13)))) ∧ (r1 = 0 → Q σ (-1 : Int32)))
set_option maxHeartbeats 4000000 in
theorem q7_put {σ : kx_St} {x1 : Int32} {x2 : Int32} {x3 : Int32} {Q : kx_St → Int32 → Prop} (h : p7_put σ x1 x2 x3 Q) : Met l yX7_put (Cond.code yX7_put cX7_put 5 (some .int) :: kx_big) rm7_put (va_Pc [.ref (ad 0), .int x1, .int x2, .int x3] (kx_Wd D cy 1 ad A σ)) (kx_Qc kx_ci Q (kx_Wd D cy 1 ad A) A) 0 0 A := by
  refine kx_head (plainFor_of_name (by decide)) (Nat.le_of_ble_eq_true rfl) ?_
  intro p e s m below meth c ls cx hP hD hS hl
  obtain ⟨hx, hb, hr, hlocks, hml, hown, hts, hK⟩ := id cx
  have hl : lv_has ls 5 [(0, .ref (ad 0)), (1, .int x1), (2, .int x2), (3, .int x3)] := hl
  refine lv_iload_n (pc := 0) hx hb dX7_put_0 rfl (lv_at hl 1 rfl) ?_
  refine kx_iSi (pc := 1) [.int x1] hx hb hml hown hts hK hP hD hS (q7_isText h) (cw7_106 hts ⟨Nat.le_of_ble_eq_true rfl, Nat.le_of_ble_eq_true rfl⟩) rfl hl.1 rfl (Nat.le_of_ble_eq_true rfl) ⟨Nat.le_of_ble_eq_true rfl, Nat.le_of_ble_eq_true rfl⟩ dX7_put_1 (fun r1 u_ H locs hP hD hS h => ?_)
  obtain ⟨hu_, h⟩ := h
  rw [hu_] at hP hD
  refine lv_if_ne (pc := 4) (tgt := 9) hx hb dX7_put_4 (by decide) (fun c2 => ?_) (fun c2 => ?_)
  · have h := h.1 c2
    refine lv_aload_n (pc := 9) hx hb dX7_put_9 rfl (lv_at hl 0 rfl) ?_
    refine fg7_31 (pc := 10) (b := 8) hx hb hown hts hK hP rfl rfl dX7_put_10 ?_
    refine lv_iload_n (pc := 13) hx hb dX7_put_13 rfl (lv_at hl 1 rfl) ?_
    obtain ⟨g3, h⟩ := h
    refine kx_iald (pc := 14) hx hb hK hP rfl g3 dX7_put_14 ?_
    refine lv_if_ge (pc := 15) (tgt := 24) hx hb dX7_put_15 (by decide) (fun c4 => ?_) (fun c4 => ?_)
    · have h := h.1 c4
      refine lv_iload_n (pc := 24) hx hb dX7_put_24 rfl (lv_at hl 2 rfl) ?_
      refine lv_i2l (pc := 25) (v := (x2.toInt64)) hx hb dX7_put_25 rfl ?_
      refine lv_lconst (pc := 26) (v := (0 : Int64)) hx hb dX7_put_26 (by decide) ?_
      refine lv_aload_n (pc := 27) hx hb dX7_put_27 rfl (lv_at hl 0 rfl) ?_
      refine fg7_31 (pc := 28) (b := 8) hx hb hown hts hK hP rfl rfl dX7_put_28 ?_
      refine lv_iload_n (pc := 31) hx hb dX7_put_31 rfl (lv_at hl 1 rfl) ?_
      obtain ⟨g5, h⟩ := h
      refine kx_iald (pc := 32) hx hb hK hP rfl g5 dX7_put_32 ?_
      refine lv_iconst (pc := 33) (v := (1 : Int32)) hx hb dX7_put_33 (by decide) ?_
      refine lv_isub (pc := 34) hx hb dX7_put_34 ?_
      refine lv_i2l (pc := 35) (v := (((σ.1 8 x1.toNatClampNeg) - (1 : Int32)).toInt64)) hx hb dX7_put_35 rfl ?_
      refine kx_iSi (pc := 36) [.long (x2.toInt64), .long (0 : Int64), .long (((σ.1 8 x1.toNatClampNeg) - (1 : Int32)).toInt64)] hx hb hml hown hts hK hP hD hS (q7_in h) (cw7_77 hts ⟨Nat.le_of_ble_eq_true rfl, Nat.le_of_ble_eq_true rfl⟩) rfl hl.1 rfl (Nat.le_of_ble_eq_true rfl) ⟨Nat.le_of_ble_eq_true rfl, Nat.le_of_ble_eq_true rfl⟩ dX7_put_36 (fun r6 u_ H locs hP hD hS h => ?_)
      obtain ⟨hu_, h⟩ := h
      rw [hu_] at hP hD
      refine lv_if_ne (pc := 39) (tgt := 48) hx hb dX7_put_39 (by decide) (fun c7 => ?_) (fun c7 => ?_)
      · have h := h.1 c7
        refine lv_aload_n (pc := 48) hx hb dX7_put_48 rfl (lv_at hl 0 rfl) ?_
        refine fg7_34 (pc := 49) (b := 9) hx hb hown hts hK hP rfl rfl dX7_put_49 ?_
        refine lv_bipush (pc := 52) (v := (60 : Int32)) hx hb dX7_put_52 (by decide) ?_
        refine lv_iload_n (pc := 54) hx hb dX7_put_54 rfl (lv_at hl 1 rfl) ?_
        refine lv_imul (pc := 55) hx hb dX7_put_55 ?_
        refine lv_iload_n (pc := 56) hx hb dX7_put_56 rfl (lv_at hl 2 rfl) ?_
        refine lv_iadd (pc := 57) hx hb dX7_put_57 ?_
        obtain ⟨g8, h⟩ := h
        refine kx_iald (pc := 58) hx hb hK hP rfl g8 dX7_put_58 ?_
        refine lv_istore (pc := 59) (lv' := [(4, .int (σ.1 9 (((60 : Int32) * x1) + x2).toNatClampNeg)), (0, .ref (ad 0)), (1, .int x1), (2, .int x2), (3, .int x3)]) hx hb dX7_put_59 hl (by decide) rfl (fun ls hl => ?_)
        refine lv_aload_n (pc := 61) hx hb dX7_put_61 rfl (lv_at hl 1 rfl) ?_
        refine fg7_34 (pc := 62) (b := 9) hx hb hown hts hK hP rfl rfl dX7_put_62 ?_
        refine lv_bipush (pc := 65) (v := (60 : Int32)) hx hb dX7_put_65 (by decide) ?_
        refine lv_iload_n (pc := 67) hx hb dX7_put_67 rfl (lv_at hl 2 rfl) ?_
        refine lv_imul (pc := 68) hx hb dX7_put_68 ?_
        refine lv_iload_n (pc := 69) hx hb dX7_put_69 rfl (lv_at hl 3 rfl) ?_
        refine lv_iadd (pc := 70) hx hb dX7_put_70 ?_
        refine lv_iload_n (pc := 71) hx hb dX7_put_71 rfl (lv_at hl 4 rfl) ?_
        refine lv_i2b (pc := 72) (v := (x3.toInt8.toInt32)) hx hb dX7_put_72 rfl ?_
        obtain ⟨g9, h⟩ := h
        refine kx_iast (pc := 73) hx hb hK hP hD hS rfl g9 dX7_put_73 (fun H locs hP hD hS => ?_)
        refine lv_iload (pc := 74) hx hb dX7_put_74 (lv_at hl 0 rfl) ?_
        refine lv_sipush (pc := 76) (v := (1000 : Int32)) hx hb dX7_put_76 (by decide) ?_
        refine lv_iadd (pc := 79) hx hb dX7_put_79 ?_
        exact kx_iret (pc := 80) hx hb hr hlocks hK hP hD hS h dX7_put_80
      · have h := h.2 c7
        refine lv_aload_n (pc := 42) hx hb dX7_put_42 rfl (lv_at hl 0 rfl) ?_
        refine lv_iconst (pc := 43) (v := (2 : Int32)) hx hb dX7_put_43 (by decide) ?_
        refine kx_iVi (pc := 44) [.int (2 : Int32)] hx hb hml hown hts hK hP hD hS (q7_find h) (cw7_87 hts ⟨Nat.le_of_ble_eq_true rfl, Nat.le_of_ble_eq_true rfl⟩) rfl (by decide) rfl rfl hl.1 rfl (Nat.le_of_ble_eq_true rfl) ⟨Nat.le_of_ble_eq_true rfl, Nat.le_of_ble_eq_true rfl⟩ dX7_put_44 (fun r11 σ12 H locs hP hD hS h => ?_)
        exact kx_iret (pc := 47) hx hb hr hlocks hK hP hD hS h dX7_put_47
    · have h := h.2 c4
      refine lv_aload_n (pc := 18) hx hb dX7_put_18 rfl (lv_at hl 0 rfl) ?_
      refine lv_iconst (pc := 19) (v := (1 : Int32)) hx hb dX7_put_19 (by decide) ?_
      refine kx_iVi (pc := 20) [.int (1 : Int32)] hx hb hml hown hts hK hP hD hS (q7_find h) (cw7_87 hts ⟨Nat.le_of_ble_eq_true rfl, Nat.le_of_ble_eq_true rfl⟩) rfl (by decide) rfl rfl hl.1 rfl (Nat.le_of_ble_eq_true rfl) ⟨Nat.le_of_ble_eq_true rfl, Nat.le_of_ble_eq_true rfl⟩ dX7_put_20 (fun r13 σ14 H locs hP hD hS h => ?_)
      exact kx_iret (pc := 23) hx hb hr hlocks hK hP hD hS h dX7_put_23
  · have h := h.2 c2
    refine lv_iconst (pc := 7) (v := (-1 : Int32)) hx hb dX7_put_7 (by decide) ?_
    exact kx_iret (pc := 8) hx hb hr hlocks hK hP hD hS h dX7_put_8
def p7_here (σ : kx_St) (Q : Int32 → Prop) : Prop := vp_in ((σ.1 0 16) + (σ.1 0 17)) 240 ∧ (Q (σ.1 9 ((σ.1 0 16) + (σ.1 0 17)).toNatClampNeg))
set_option maxHeartbeats 4000000 in
theorem q7_here {σ : kx_St}  {Q : Int32 → Prop} (h : p7_here σ Q) : Met l yX7_here (Cond.code yX7_here cX7_here 1 (some .int) :: kx_big) rm7_here (va_Pc [.ref (ad 0)] (kx_Wd D cy 1 ad A σ)) (kx_Qc kx_ci (fun u r => u = σ ∧ Q r) (kx_Wd D cy 1 ad A) A) 0 0 A := by
  refine kx_head (plainFor_of_name (by decide)) (Nat.le_of_ble_eq_true rfl) ?_
  intro p e s m below meth c ls cx hP hD hS hl
  obtain ⟨hx, hb, hr, hlocks, hml, hown, hts, hK⟩ := id cx
  have hl : lv_has ls 1 [(0, .ref (ad 0))] := hl
  refine lv_aload_n (pc := 0) hx hb dX7_here_0 rfl (lv_at hl 0 rfl) ?_
  refine fg7_34 (pc := 1) (b := 9) hx hb hown hts hK hP rfl rfl dX7_here_1 ?_
  refine lv_aload_n (pc := 4) hx hb dX7_here_4 rfl (lv_at hl 0 rfl) ?_
  refine fg7_109 (pc := 5) hx hb hown hts hK hP rfl dX7_here_5 ?_
  refine lv_aload_n (pc := 8) hx hb dX7_here_8 rfl (lv_at hl 0 rfl) ?_
  refine fg7_112 (pc := 9) hx hb hown hts hK hP rfl dX7_here_9 ?_
  refine lv_iadd (pc := 12) hx hb dX7_here_12 ?_
  obtain ⟨g1, h⟩ := h
  refine kx_iald (pc := 13) hx hb hK hP rfl g1 dX7_here_13 ?_
  exact kx_iret (pc := 14) hx hb hr hlocks hK hP hD hS ⟨rfl, h⟩ dX7_here_14
def p7_skip_L0 : Nat → kx_St → (kx_St → Prop) → Prop
  | 0, _, _ => False
  | n + 1, σ, Q => ((σ.1 0 18) ≤ (σ.1 0 17) → Q σ) ∧ (¬ (σ.1 0 18) ≤ (σ.1 0 17) → p7_here σ (fun r2 => (¬ r2 = (32 : Int32) → Q σ) ∧ (r2 = (32 : Int32) → (fun σ4 : kx_St => p7_skip_L0 n σ4 Q) (kx_sI σ 0 17 ((σ.1 0 17) + (1 : Int32))))))
set_option maxHeartbeats 4000000 in
theorem w7_skip_L0  {Q : kx_St → Prop} (cx : kx_Cx p s m args meth c D cy RX7 cX7_skip 1 none)  : ∀ (n : Nat) (σ : kx_St)  (H : Heap) (locs : List Loc) (ls : Array Slot), p7_skip_L0 n σ Q → va_P D vwCl (kx_ws cy 1 ad σ) H → va_D A (kx_ws cy 1 ad σ) → va_S A s.heap H locs → lv_has ls 1 [(0, .ref (ad 0))] → W p l e rm7_skip s m args below meth c H locs 0 0 (MQ below (kx_Qc kx_cv (fun u _ => Q u) (kx_Wd D cy 1 ad A) A) args s 0 0 A) (F0 m 0 ls []) := by
  obtain ⟨hx, hb, hr, hlocks, hml, hown, hts, hK⟩ := id cx
  intro n
  induction n with
  | zero => intro _ _ _ _ h; exact False.elim h
  | succ n ih =>
    intro σ H locs ls h hP hD hS hl
    refine lv_aload_n (pc := 0) hx hb dX7_skip_0 rfl (lv_at hl 0 rfl) ?_
    refine fg7_112 (pc := 1) hx hb hown hts hK hP rfl dX7_skip_1 ?_
    refine lv_aload_n (pc := 4) hx hb dX7_skip_4 rfl (lv_at hl 0 rfl) ?_
    refine fg7_115 (pc := 5) hx hb hown hts hK hP rfl dX7_skip_5 ?_
    refine lv_icmp_ge (pc := 8) (tgt := 33) hx hb dX7_skip_8 (by decide) (fun c1 => ?_) (fun c1 => ?_)
    · have h := h.1 c1
      exact kx_vret (pc := 33) hx hb hr hlocks hK hP hD hS h dX7_skip_33
    · have h := h.2 c1
      refine lv_aload_n (pc := 11) hx hb dX7_skip_11 rfl (lv_at hl 0 rfl) ?_
      refine kx_iVi (pc := 12) [] hx hb hml hown hts hK hP hD hS (q7_here h) (cw7_118 hts ⟨Nat.le_of_ble_eq_true rfl, Nat.le_of_ble_eq_true rfl⟩) rfl (by decide) rfl rfl hl.1 rfl (Nat.le_of_ble_eq_true rfl) ⟨Nat.le_of_ble_eq_true rfl, Nat.le_of_ble_eq_true rfl⟩ dX7_skip_12 (fun r2 u_ H locs hP hD hS h => ?_)
      obtain ⟨hu_, h⟩ := h
      rw [hu_] at hP hD
      refine lv_bipush (pc := 15) (v := (32 : Int32)) hx hb dX7_skip_15 (by decide) ?_
      refine lv_icmp_ne (pc := 17) (tgt := 33) hx hb dX7_skip_17 (by decide) (fun c3 => ?_) (fun c3 => ?_)
      · have h := h.1 c3
        exact kx_vret (pc := 33) hx hb hr hlocks hK hP hD hS h dX7_skip_33
      · have h := h.2 c3
        refine lv_aload_n (pc := 20) hx hb dX7_skip_20 rfl (lv_at hl 0 rfl) ?_
        refine lv_dup (pc := 21) hx hb dX7_skip_21 rfl ?_
        refine fg7_112 (pc := 22) hx hb hown hts hK hP rfl dX7_skip_22 ?_
        refine lv_iconst (pc := 25) (v := (1 : Int32)) hx hb dX7_skip_25 (by decide) ?_
        refine lv_iadd (pc := 26) hx hb dX7_skip_26 ?_
        refine fp7_112 (pc := 27) hx hb hown hts hK hP hD hS rfl dX7_skip_27 (fun H locs hP hD hS => ?_)
        refine lv_goto (pc := 30) (tgt := 0) hx hb dX7_skip_30 (by decide) ?_
        exact ih _  _ _ _ h hP hD hS (lv_sub hl [0] rfl)
def p7_skip (σ : kx_St) (Q : kx_St → Prop) : Prop := ∃ m0, p7_skip_L0 m0 σ Q
set_option maxHeartbeats 4000000 in
theorem q7_skip {σ : kx_St}  {Q : kx_St → Prop} (h : p7_skip σ Q) : Met l yX7_skip (Cond.code yX7_skip cX7_skip 1 none :: kx_big) rm7_skip (va_Pc [.ref (ad 0)] (kx_Wd D cy 1 ad A σ)) (kx_Qc kx_cv (fun u _ => Q u) (kx_Wd D cy 1 ad A) A) 0 0 A := by
  refine kx_head (plainFor_of_name (by decide)) (Nat.le_of_ble_eq_true rfl) ?_
  intro p e s m below meth c ls cx hP hD hS hl
  obtain ⟨hx, hb, hr, hlocks, hml, hown, hts, hK⟩ := id cx
  have hl : lv_has ls 1 [(0, .ref (ad 0))] := hl
  obtain ⟨n0, h⟩ := h
  exact w7_skip_L0 cx  n0 _  _ _ _ h hP hD hS (lv_sub hl [0] rfl)
def p7_figure (σ : kx_St) (x1 : Int32) (x2 : Int32) (Q : kx_St → Int32 → Prop) : Prop := ((σ.1 0 17) = (σ.1 0 18) → Q σ (-9 : Int32)) ∧ (¬ (σ.1 0 17) = (σ.1 0 18) → p7_here σ (fun r2 => p7_in (r2.toInt64) (((48 : Int32) + x1).toInt64) (((48 : Int32) + x2).toInt64) (fun r3 => (¬ r3 = 0 → (fun σ5 : kx_St => vp_in (((σ5.1 0 16) + (σ5.1 0 17)) - (1 : Int32)) 240 ∧ (Q σ5 ((σ5.1 9 (((σ5.1 0 16) + (σ5.1 0 17)) - (1 : Int32)).toNatClampNeg) - (48 : Int32)))) (kx_sI σ 0 17 ((σ.1 0 17) + (1 : Int32)))) ∧ (r3 = 0 → Q σ (-9 : Int32)))))
set_option maxHeartbeats 4000000 in
theorem q7_figure {σ : kx_St} {x1 : Int32} {x2 : Int32} {Q : kx_St → Int32 → Prop} (h : p7_figure σ x1 x2 Q) : Met l yX7_figure (Cond.code yX7_figure cX7_figure 3 (some .int) :: kx_big) rm7_figure (va_Pc [.ref (ad 0), .int x1, .int x2] (kx_Wd D cy 1 ad A σ)) (kx_Qc kx_ci Q (kx_Wd D cy 1 ad A) A) 0 0 A := by
  refine kx_head (plainFor_of_name (by decide)) (Nat.le_of_ble_eq_true rfl) ?_
  intro p e s m below meth c ls cx hP hD hS hl
  obtain ⟨hx, hb, hr, hlocks, hml, hown, hts, hK⟩ := id cx
  have hl : lv_has ls 3 [(0, .ref (ad 0)), (1, .int x1), (2, .int x2)] := hl
  refine lv_aload_n (pc := 0) hx hb dX7_figure_0 rfl (lv_at hl 0 rfl) ?_
  refine fg7_112 (pc := 1) hx hb hown hts hK hP rfl dX7_figure_1 ?_
  refine lv_aload_n (pc := 4) hx hb dX7_figure_4 rfl (lv_at hl 0 rfl) ?_
  refine fg7_115 (pc := 5) hx hb hown hts hK hP rfl dX7_figure_5 ?_
  refine lv_icmp_eq (pc := 8) (tgt := 32) hx hb dX7_figure_8 (by decide) (fun c1 => ?_) (fun c1 => ?_)
  · have h := h.1 c1
    refine lv_bipush (pc := 32) (v := (-9 : Int32)) hx hb dX7_figure_32 (by decide) ?_
    exact kx_iret (pc := 34) hx hb hr hlocks hK hP hD hS h dX7_figure_34
  · have h := h.2 c1
    refine lv_aload_n (pc := 11) hx hb dX7_figure_11 rfl (lv_at hl 0 rfl) ?_
    refine kx_iVi (pc := 12) [] hx hb hml hown hts hK hP hD hS (q7_here h) (cw7_118 hts ⟨Nat.le_of_ble_eq_true rfl, Nat.le_of_ble_eq_true rfl⟩) rfl (by decide) rfl rfl hl.1 rfl (Nat.le_of_ble_eq_true rfl) ⟨Nat.le_of_ble_eq_true rfl, Nat.le_of_ble_eq_true rfl⟩ dX7_figure_12 (fun r2 u_ H locs hP hD hS h => ?_)
    obtain ⟨hu_, h⟩ := h
    rw [hu_] at hP hD
    refine lv_i2l (pc := 15) (v := (r2.toInt64)) hx hb dX7_figure_15 rfl ?_
    refine lv_bipush (pc := 16) (v := (48 : Int32)) hx hb dX7_figure_16 (by decide) ?_
    refine lv_iload_n (pc := 18) hx hb dX7_figure_18 rfl (lv_at hl 1 rfl) ?_
    refine lv_iadd (pc := 19) hx hb dX7_figure_19 ?_
    refine lv_i2l (pc := 20) (v := (((48 : Int32) + x1).toInt64)) hx hb dX7_figure_20 rfl ?_
    refine lv_bipush (pc := 21) (v := (48 : Int32)) hx hb dX7_figure_21 (by decide) ?_
    refine lv_iload_n (pc := 23) hx hb dX7_figure_23 rfl (lv_at hl 2 rfl) ?_
    refine lv_iadd (pc := 24) hx hb dX7_figure_24 ?_
    refine lv_i2l (pc := 25) (v := (((48 : Int32) + x2).toInt64)) hx hb dX7_figure_25 rfl ?_
    refine kx_iSi (pc := 26) [.long (r2.toInt64), .long (((48 : Int32) + x1).toInt64), .long (((48 : Int32) + x2).toInt64)] hx hb hml hown hts hK hP hD hS (q7_in h) (cw7_77 hts ⟨Nat.le_of_ble_eq_true rfl, Nat.le_of_ble_eq_true rfl⟩) rfl hl.1 rfl (Nat.le_of_ble_eq_true rfl) ⟨Nat.le_of_ble_eq_true rfl, Nat.le_of_ble_eq_true rfl⟩ dX7_figure_26 (fun r3 u_ H locs hP hD hS h => ?_)
    obtain ⟨hu_, h⟩ := h
    rw [hu_] at hP hD
    refine lv_if_ne (pc := 29) (tgt := 35) hx hb dX7_figure_29 (by decide) (fun c4 => ?_) (fun c4 => ?_)
    · have h := h.1 c4
      refine lv_aload_n (pc := 35) hx hb dX7_figure_35 rfl (lv_at hl 0 rfl) ?_
      refine lv_dup (pc := 36) hx hb dX7_figure_36 rfl ?_
      refine fg7_112 (pc := 37) hx hb hown hts hK hP rfl dX7_figure_37 ?_
      refine lv_iconst (pc := 40) (v := (1 : Int32)) hx hb dX7_figure_40 (by decide) ?_
      refine lv_iadd (pc := 41) hx hb dX7_figure_41 ?_
      refine fp7_112 (pc := 42) hx hb hown hts hK hP hD hS rfl dX7_figure_42 (fun H locs hP hD hS => ?_)
      refine lv_aload_n (pc := 45) hx hb dX7_figure_45 rfl (lv_at hl 0 rfl) ?_
      refine fg7_34 (pc := 46) (b := 9) hx hb hown hts hK hP rfl rfl dX7_figure_46 ?_
      refine lv_aload_n (pc := 49) hx hb dX7_figure_49 rfl (lv_at hl 0 rfl) ?_
      refine fg7_109 (pc := 50) hx hb hown hts hK hP rfl dX7_figure_50 ?_
      refine lv_aload_n (pc := 53) hx hb dX7_figure_53 rfl (lv_at hl 0 rfl) ?_
      refine fg7_112 (pc := 54) hx hb hown hts hK hP rfl dX7_figure_54 ?_
      refine lv_iadd (pc := 57) hx hb dX7_figure_57 ?_
      refine lv_iconst (pc := 58) (v := (1 : Int32)) hx hb dX7_figure_58 (by decide) ?_
      refine lv_isub (pc := 59) hx hb dX7_figure_59 ?_
      obtain ⟨g6, h⟩ := h
      refine kx_iald (pc := 60) hx hb hK hP rfl g6 dX7_figure_60 ?_
      refine lv_bipush (pc := 61) (v := (48 : Int32)) hx hb dX7_figure_61 (by decide) ?_
      refine lv_isub (pc := 63) hx hb dX7_figure_63 ?_
      exact kx_iret (pc := 64) hx hb hr hlocks hK hP hD hS h dX7_figure_64
    · have h := h.2 c4
      refine lv_bipush (pc := 32) (v := (-9 : Int32)) hx hb dX7_figure_32 (by decide) ?_
      exact kx_iret (pc := 34) hx hb hr hlocks hK hP hD hS h dX7_figure_34
def p7_readsHead_J98 (σ : kx_St) (x1 : Int32) (s0 : Int32) (Q : kx_St → Int32 → Prop) : Prop := (fun σ1 : kx_St => (s0 = (-9 : Int32) → Q σ1 (0 : Int32)) ∧ (¬ s0 = (-9 : Int32) → Q σ1 (1 : Int32))) (kx_sI σ 0 20 (((10 : Int32) * x1) + s0))
set_option maxHeartbeats 4000000 in
theorem w7_readsHead_J98 {σ : kx_St} {x1 : Int32} {s0 : Int32}  {Q : kx_St → Int32 → Prop} {H : Heap} {locs : List Loc} {ls : Array Slot} (cx : kx_Cx p s m args meth c D cy RX7 cX7_readsHead 3 (some .boolean))   (h : p7_readsHead_J98 σ x1 s0 Q) (hP : va_P D vwCl (kx_ws cy 1 ad σ) H) (hD : va_D A (kx_ws cy 1 ad σ)) (hS : va_S A s.heap H locs) (hl : lv_has ls 3 [(0, .ref (ad 0)), (1, .int x1)]) : W p l e rm7_readsHead s m args below meth c H locs 0 0 (MQ below (kx_Qc kx_ci Q (kx_Wd D cy 1 ad A) A) args s 0 0 A) (F0 m 98 ls [.int s0]) := by
  obtain ⟨hx, hb, hr, hlocks, hml, hown, hts, hK⟩ := id cx
  refine lv_istore_n (pc := 98) (lv' := [(2, .int s0), (0, .ref (ad 0)), (1, .int x1)]) hx hb dX7_readsHead_98 rfl hl (by decide) rfl (fun ls hl => ?_)
  refine lv_aload_n (pc := 99) hx hb dX7_readsHead_99 rfl (lv_at hl 1 rfl) ?_
  refine lv_bipush (pc := 100) (v := (10 : Int32)) hx hb dX7_readsHead_100 (by decide) ?_
  refine lv_iload_n (pc := 102) hx hb dX7_readsHead_102 rfl (lv_at hl 2 rfl) ?_
  refine lv_imul (pc := 103) hx hb dX7_readsHead_103 ?_
  refine lv_iload_n (pc := 104) hx hb dX7_readsHead_104 rfl (lv_at hl 0 rfl) ?_
  refine lv_iadd (pc := 105) hx hb dX7_readsHead_105 ?_
  refine fp7_128 (pc := 106) hx hb hown hts hK hP hD hS rfl dX7_readsHead_106 (fun H locs hP hD hS => ?_)
  refine lv_iload_n (pc := 109) hx hb dX7_readsHead_109 rfl (lv_at hl 0 rfl) ?_
  refine lv_bipush (pc := 110) (v := (-9 : Int32)) hx hb dX7_readsHead_110 (by decide) ?_
  refine lv_icmp_eq (pc := 112) (tgt := 119) hx hb dX7_readsHead_112 (by decide) (fun c2 => ?_) (fun c2 => ?_)
  · have h := h.1 c2
    refine lv_iconst (pc := 119) (v := (0 : Int32)) hx hb dX7_readsHead_119 (by decide) ?_
    exact kx_zret (pc := 120) hx hb hr hlocks hK hP hD hS (by decide) h dX7_readsHead_120
  · have h := h.2 c2
    refine lv_iconst (pc := 115) (v := (1 : Int32)) hx hb dX7_readsHead_115 (by decide) ?_
    refine lv_goto (pc := 116) (tgt := 120) hx hb dX7_readsHead_116 (by decide) ?_
    exact kx_zret (pc := 120) hx hb hr hlocks hK hP hD hS (by decide) h dX7_readsHead_120
def p7_readsHead_L38 : Nat → kx_St → Int32 → (kx_St → Int32 → Prop) → Prop
  | 0, _, _, _ => False
  | n + 1, σ, x1, Q => ((4 : Int32) ≤ x1 → p7_figure σ (0 : Int32) (9 : Int32) (fun σ3 r2 => (¬ r2 = (-9 : Int32) → p7_figure σ3 (0 : Int32) (9 : Int32) (fun σ6 r5 => p7_readsHead_J98 σ6 r2 r5 Q)) ∧ (r2 = (-9 : Int32) → p7_readsHead_J98 σ3 r2 (-9 : Int32) Q))) ∧ (¬ (4 : Int32) ≤ x1 → p7_figure σ (0 : Int32) (9 : Int32) (fun σ8 r7 => (¬ r7 = (-9 : Int32) → vp_in x1 4 ∧ ((fun σ11 : kx_St => p7_readsHead_L38 n σ11 (x1 + (1 : Int32)) Q) (kx_sI σ8 11 x1.toNatClampNeg r7))) ∧ (r7 = (-9 : Int32) → Q σ8 (0 : Int32))))
set_option maxHeartbeats 4000000 in
theorem w7_readsHead_L38  {Q : kx_St → Int32 → Prop} (cx : kx_Cx p s m args meth c D cy RX7 cX7_readsHead 3 (some .boolean))  : ∀ (n : Nat) (σ : kx_St) (x1 : Int32) (H : Heap) (locs : List Loc) (ls : Array Slot), p7_readsHead_L38 n σ x1 Q → va_P D vwCl (kx_ws cy 1 ad σ) H → va_D A (kx_ws cy 1 ad σ) → va_S A s.heap H locs → lv_has ls 3 [(0, .ref (ad 0)), (1, .int x1)] → W p l e rm7_readsHead s m args below meth c H locs 0 0 (MQ below (kx_Qc kx_ci Q (kx_Wd D cy 1 ad A) A) args s 0 0 A) (F0 m 38 ls []) := by
  obtain ⟨hx, hb, hr, hlocks, hml, hown, hts, hK⟩ := id cx
  intro n
  induction n with
  | zero => intro _ _ _ _ _ h; exact False.elim h
  | succ n ih =>
    intro σ x1 H locs ls h hP hD hS hl
    refine lv_iload_n (pc := 38) hx hb dX7_readsHead_38 rfl (lv_at hl 1 rfl) ?_
    refine lv_iconst (pc := 39) (v := (4 : Int32)) hx hb dX7_readsHead_39 (by decide) ?_
    refine lv_icmp_ge (pc := 40) (tgt := 72) hx hb dX7_readsHead_40 (by decide) (fun c1 => ?_) (fun c1 => ?_)
    · have h := h.1 c1
      refine lv_aload_n (pc := 72) hx hb dX7_readsHead_72 rfl (lv_at hl 0 rfl) ?_
      refine lv_iconst (pc := 73) (v := (0 : Int32)) hx hb dX7_readsHead_73 (by decide) ?_
      refine lv_bipush (pc := 74) (v := (9 : Int32)) hx hb dX7_readsHead_74 (by decide) ?_
      refine kx_iVi (pc := 76) [.int (0 : Int32), .int (9 : Int32)] hx hb hml hown hts hK hP hD hS (q7_figure h) (cw7_125 hts ⟨Nat.le_of_ble_eq_true rfl, Nat.le_of_ble_eq_true rfl⟩) rfl (by decide) rfl rfl hl.1 rfl (Nat.le_of_ble_eq_true rfl) ⟨Nat.le_of_ble_eq_true rfl, Nat.le_of_ble_eq_true rfl⟩ dX7_readsHead_76 (fun r2 σ3 H locs hP hD hS h => ?_)
      refine lv_istore_n (pc := 79) (lv' := [(1, .int r2), (0, .ref (ad 0))]) hx hb dX7_readsHead_79 rfl hl (by decide) rfl (fun ls hl => ?_)
      refine lv_iload_n (pc := 80) hx hb dX7_readsHead_80 rfl (lv_at hl 0 rfl) ?_
      refine lv_bipush (pc := 81) (v := (-9 : Int32)) hx hb dX7_readsHead_81 (by decide) ?_
      refine lv_icmp_ne (pc := 83) (tgt := 91) hx hb dX7_readsHead_83 (by decide) (fun c4 => ?_) (fun c4 => ?_)
      · have h := h.1 c4
        refine lv_aload_n (pc := 91) hx hb dX7_readsHead_91 rfl (lv_at hl 1 rfl) ?_
        refine lv_iconst (pc := 92) (v := (0 : Int32)) hx hb dX7_readsHead_92 (by decide) ?_
        refine lv_bipush (pc := 93) (v := (9 : Int32)) hx hb dX7_readsHead_93 (by decide) ?_
        refine kx_iVi (pc := 95) [.int (0 : Int32), .int (9 : Int32)] hx hb hml hown hts hK hP hD hS (q7_figure h) (cw7_125 hts ⟨Nat.le_of_ble_eq_true rfl, Nat.le_of_ble_eq_true rfl⟩) rfl (by decide) rfl rfl hl.1 rfl (Nat.le_of_ble_eq_true rfl) ⟨Nat.le_of_ble_eq_true rfl, Nat.le_of_ble_eq_true rfl⟩ dX7_readsHead_95 (fun r5 σ6 H locs hP hD hS h => ?_)
        exact w7_readsHead_J98 cx  h hP hD hS (lv_sub hl [1, 0] rfl)
      · have h := h.2 c4
        refine lv_bipush (pc := 86) (v := (-9 : Int32)) hx hb dX7_readsHead_86 (by decide) ?_
        refine lv_goto (pc := 88) (tgt := 98) hx hb dX7_readsHead_88 (by decide) ?_
        exact w7_readsHead_J98 cx  h hP hD hS (lv_sub hl [1, 0] rfl)
    · have h := h.2 c1
      refine lv_aload_n (pc := 43) hx hb dX7_readsHead_43 rfl (lv_at hl 0 rfl) ?_
      refine lv_iconst (pc := 44) (v := (0 : Int32)) hx hb dX7_readsHead_44 (by decide) ?_
      refine lv_bipush (pc := 45) (v := (9 : Int32)) hx hb dX7_readsHead_45 (by decide) ?_
      refine kx_iVi (pc := 47) [.int (0 : Int32), .int (9 : Int32)] hx hb hml hown hts hK hP hD hS (q7_figure h) (cw7_125 hts ⟨Nat.le_of_ble_eq_true rfl, Nat.le_of_ble_eq_true rfl⟩) rfl (by decide) rfl rfl hl.1 rfl (Nat.le_of_ble_eq_true rfl) ⟨Nat.le_of_ble_eq_true rfl, Nat.le_of_ble_eq_true rfl⟩ dX7_readsHead_47 (fun r7 σ8 H locs hP hD hS h => ?_)
      refine lv_istore_n (pc := 50) (lv' := [(2, .int r7), (0, .ref (ad 0)), (1, .int x1)]) hx hb dX7_readsHead_50 rfl hl (by decide) rfl (fun ls hl => ?_)
      refine lv_iload_n (pc := 51) hx hb dX7_readsHead_51 rfl (lv_at hl 0 rfl) ?_
      refine lv_bipush (pc := 52) (v := (-9 : Int32)) hx hb dX7_readsHead_52 (by decide) ?_
      refine lv_icmp_ne (pc := 54) (tgt := 59) hx hb dX7_readsHead_54 (by decide) (fun c9 => ?_) (fun c9 => ?_)
      · have h := h.1 c9
        refine lv_aload_n (pc := 59) hx hb dX7_readsHead_59 rfl (lv_at hl 1 rfl) ?_
        refine fg7_44 (pc := 60) (b := 11) hx hb hown hts hK hP rfl rfl dX7_readsHead_60 ?_
        refine lv_iload_n (pc := 63) hx hb dX7_readsHead_63 rfl (lv_at hl 2 rfl) ?_
        refine lv_iload_n (pc := 64) hx hb dX7_readsHead_64 rfl (lv_at hl 0 rfl) ?_
        obtain ⟨g10, h⟩ := h
        refine kx_iast (pc := 65) hx hb hK hP hD hS rfl g10 dX7_readsHead_65 (fun H locs hP hD hS => ?_)
        refine lv_iinc (pc := 66) (v := (x1 + (1 : Int32))) (lv' := [(1, .int (x1 + (1 : Int32))), (2, .int r7), (0, .ref (ad 0))]) hx hb dX7_readsHead_66 hl (k := 2) rfl rfl (by decide) rfl (fun ls hl => ?_)
        refine lv_goto (pc := 69) (tgt := 38) hx hb dX7_readsHead_69 (by decide) ?_
        exact ih _ _ _ _ _ h hP hD hS (lv_sub hl [2, 0] rfl)
      · have h := h.2 c9
        refine lv_iconst (pc := 57) (v := (0 : Int32)) hx hb dX7_readsHead_57 (by decide) ?_
        exact kx_zret (pc := 58) hx hb hr hlocks hK hP hD hS (by decide) h dX7_readsHead_58
def p7_readsHead (σ : kx_St) (Q : kx_St → Int32 → Prop) : Prop := p7_skip σ (fun σ2 => ((σ2.1 0 17) = (σ2.1 0 18) → Q σ2 (0 : Int32)) ∧ (¬ (σ2.1 0 17) = (σ2.1 0 18) → p7_here σ2 (fun r4 => (r4 = (119 : Int32) → (fun σ6 : kx_St => ∃ m38, p7_readsHead_L38 m38 σ6 (0 : Int32) Q) (kx_sI σ2 0 17 ((σ2.1 0 17) + (1 : Int32)))) ∧ (¬ r4 = (119 : Int32) → Q σ2 (0 : Int32)))))
set_option maxHeartbeats 4000000 in
theorem q7_readsHead {σ : kx_St}  {Q : kx_St → Int32 → Prop} (h : p7_readsHead σ Q) : Met l yX7_readsHead (Cond.code yX7_readsHead cX7_readsHead 3 (some .boolean) :: kx_big) rm7_readsHead (va_Pc [.ref (ad 0)] (kx_Wd D cy 1 ad A σ)) (kx_Qc kx_ci Q (kx_Wd D cy 1 ad A) A) 0 0 A := by
  refine kx_head (plainFor_of_name (by decide)) (Nat.le_of_ble_eq_true rfl) ?_
  intro p e s m below meth c ls cx hP hD hS hl
  obtain ⟨hx, hb, hr, hlocks, hml, hown, hts, hK⟩ := id cx
  have hl : lv_has ls 3 [(0, .ref (ad 0))] := hl
  refine lv_aload_n (pc := 0) hx hb dX7_readsHead_0 rfl (lv_at hl 0 rfl) ?_
  refine kx_iVv (pc := 1) [] hx hb hml hown hts hK hP hD hS (q7_skip h) (cw7_122 hts ⟨Nat.le_of_ble_eq_true rfl, Nat.le_of_ble_eq_true rfl⟩) rfl (by decide) rfl rfl hl.1 rfl (Nat.le_of_ble_eq_true rfl) ⟨Nat.le_of_ble_eq_true rfl, Nat.le_of_ble_eq_true rfl⟩ dX7_readsHead_1 (fun _ σ2 H locs hP hD hS h => ?_)
  refine lv_aload_n (pc := 4) hx hb dX7_readsHead_4 rfl (lv_at hl 0 rfl) ?_
  refine fg7_112 (pc := 5) hx hb hown hts hK hP rfl dX7_readsHead_5 ?_
  refine lv_aload_n (pc := 8) hx hb dX7_readsHead_8 rfl (lv_at hl 0 rfl) ?_
  refine fg7_115 (pc := 9) hx hb hown hts hK hP rfl dX7_readsHead_9 ?_
  refine lv_icmp_eq (pc := 12) (tgt := 24) hx hb dX7_readsHead_12 (by decide) (fun c3 => ?_) (fun c3 => ?_)
  · have h := h.1 c3
    refine lv_iconst (pc := 24) (v := (0 : Int32)) hx hb dX7_readsHead_24 (by decide) ?_
    exact kx_zret (pc := 25) hx hb hr hlocks hK hP hD hS (by decide) h dX7_readsHead_25
  · have h := h.2 c3
    refine lv_aload_n (pc := 15) hx hb dX7_readsHead_15 rfl (lv_at hl 0 rfl) ?_
    refine kx_iVi (pc := 16) [] hx hb hml hown hts hK hP hD hS (q7_here h) (cw7_118 hts ⟨Nat.le_of_ble_eq_true rfl, Nat.le_of_ble_eq_true rfl⟩) rfl (by decide) rfl rfl hl.1 rfl (Nat.le_of_ble_eq_true rfl) ⟨Nat.le_of_ble_eq_true rfl, Nat.le_of_ble_eq_true rfl⟩ dX7_readsHead_16 (fun r4 u_ H locs hP hD hS h => ?_)
    obtain ⟨hu_, h⟩ := h
    rw [hu_] at hP hD
    refine lv_bipush (pc := 19) (v := (119 : Int32)) hx hb dX7_readsHead_19 (by decide) ?_
    refine lv_icmp_eq (pc := 21) (tgt := 26) hx hb dX7_readsHead_21 (by decide) (fun c5 => ?_) (fun c5 => ?_)
    · have h := h.1 c5
      refine lv_aload_n (pc := 26) hx hb dX7_readsHead_26 rfl (lv_at hl 0 rfl) ?_
      refine lv_dup (pc := 27) hx hb dX7_readsHead_27 rfl ?_
      refine fg7_112 (pc := 28) hx hb hown hts hK hP rfl dX7_readsHead_28 ?_
      refine lv_iconst (pc := 31) (v := (1 : Int32)) hx hb dX7_readsHead_31 (by decide) ?_
      refine lv_iadd (pc := 32) hx hb dX7_readsHead_32 ?_
      refine fp7_112 (pc := 33) hx hb hown hts hK hP hD hS rfl dX7_readsHead_33 (fun H locs hP hD hS => ?_)
      refine lv_iconst (pc := 36) (v := (0 : Int32)) hx hb dX7_readsHead_36 (by decide) ?_
      refine lv_istore_n (pc := 37) (lv' := [(1, .int (0 : Int32)), (0, .ref (ad 0))]) hx hb dX7_readsHead_37 rfl hl (by decide) rfl (fun ls hl => ?_)
      obtain ⟨n0, h⟩ := h
      exact w7_readsHead_L38 cx  n0 _ _ _ _ _ h hP hD hS (lv_sub hl [1, 0] rfl)
    · have h := h.2 c5
      refine lv_iconst (pc := 24) (v := (0 : Int32)) hx hb dX7_readsHead_24 (by decide) ?_
      exact kx_zret (pc := 25) hx hb hr hlocks hK hP hD hS (by decide) h dX7_readsHead_25
def p7_kindOfLetter (x0 : Int32) (Q : Int32 → Prop) : Prop := (¬ x0 = (107 : Int32) → (¬ x0 = (104 : Int32) → (¬ x0 = (99 : Int32) → (¬ x0 = (98 : Int32) → (¬ x0 = (106 : Int32) → (¬ x0 = (115 : Int32) → Q (-9 : Int32)) ∧ (x0 = (115 : Int32) → Q (5 : Int32))) ∧ (x0 = (106 : Int32) → Q (4 : Int32))) ∧ (x0 = (98 : Int32) → Q (3 : Int32))) ∧ (x0 = (99 : Int32) → Q (2 : Int32))) ∧ (x0 = (104 : Int32) → Q (1 : Int32))) ∧ (x0 = (107 : Int32) → Q (0 : Int32))
set_option maxHeartbeats 4000000 in
theorem q7_kindOfLetter {σ : kx_St} {x0 : Int32} {Q : Int32 → Prop} (h : p7_kindOfLetter x0 Q) : Met l yX7_kindOfLetter (Cond.code yX7_kindOfLetter cX7_kindOfLetter 1 (some .int) :: kx_big) rm7_kindOfLetter (va_Pc [.int x0] (kx_Wd D cy 1 ad A σ)) (kx_Qc kx_ci (fun u r => u = σ ∧ Q r) (kx_Wd D cy 1 ad A) A) 0 0 A := by
  refine kx_head (plainFor_of_name (by decide)) (Nat.le_of_ble_eq_true rfl) ?_
  intro p e s m below meth c ls cx hP hD hS hl
  obtain ⟨hx, hb, hr, hlocks, hml, hown, hts, hK⟩ := id cx
  have hl : lv_has ls 1 [(0, .int x0)] := hl
  refine lv_iload_n (pc := 0) hx hb dX7_kindOfLetter_0 rfl (lv_at hl 0 rfl) ?_
  refine lv_bipush (pc := 1) (v := (107 : Int32)) hx hb dX7_kindOfLetter_1 (by decide) ?_
  refine lv_icmp_ne (pc := 3) (tgt := 10) hx hb dX7_kindOfLetter_3 (by decide) (fun c1 => ?_) (fun c1 => ?_)
  · have h := h.1 c1
    refine lv_iload_n (pc := 10) hx hb dX7_kindOfLetter_10 rfl (lv_at hl 0 rfl) ?_
    refine lv_bipush (pc := 11) (v := (104 : Int32)) hx hb dX7_kindOfLetter_11 (by decide) ?_
    refine lv_icmp_ne (pc := 13) (tgt := 20) hx hb dX7_kindOfLetter_13 (by decide) (fun c2 => ?_) (fun c2 => ?_)
    · have h := h.1 c2
      refine lv_iload_n (pc := 20) hx hb dX7_kindOfLetter_20 rfl (lv_at hl 0 rfl) ?_
      refine lv_bipush (pc := 21) (v := (99 : Int32)) hx hb dX7_kindOfLetter_21 (by decide) ?_
      refine lv_icmp_ne (pc := 23) (tgt := 30) hx hb dX7_kindOfLetter_23 (by decide) (fun c3 => ?_) (fun c3 => ?_)
      · have h := h.1 c3
        refine lv_iload_n (pc := 30) hx hb dX7_kindOfLetter_30 rfl (lv_at hl 0 rfl) ?_
        refine lv_bipush (pc := 31) (v := (98 : Int32)) hx hb dX7_kindOfLetter_31 (by decide) ?_
        refine lv_icmp_ne (pc := 33) (tgt := 40) hx hb dX7_kindOfLetter_33 (by decide) (fun c4 => ?_) (fun c4 => ?_)
        · have h := h.1 c4
          refine lv_iload_n (pc := 40) hx hb dX7_kindOfLetter_40 rfl (lv_at hl 0 rfl) ?_
          refine lv_bipush (pc := 41) (v := (106 : Int32)) hx hb dX7_kindOfLetter_41 (by decide) ?_
          refine lv_icmp_ne (pc := 43) (tgt := 50) hx hb dX7_kindOfLetter_43 (by decide) (fun c5 => ?_) (fun c5 => ?_)
          · have h := h.1 c5
            refine lv_iload_n (pc := 50) hx hb dX7_kindOfLetter_50 rfl (lv_at hl 0 rfl) ?_
            refine lv_bipush (pc := 51) (v := (115 : Int32)) hx hb dX7_kindOfLetter_51 (by decide) ?_
            refine lv_icmp_ne (pc := 53) (tgt := 60) hx hb dX7_kindOfLetter_53 (by decide) (fun c6 => ?_) (fun c6 => ?_)
            · have h := h.1 c6
              refine lv_bipush (pc := 60) (v := (-9 : Int32)) hx hb dX7_kindOfLetter_60 (by decide) ?_
              exact kx_iret (pc := 62) hx hb hr hlocks hK hP hD hS ⟨rfl, h⟩ dX7_kindOfLetter_62
            · have h := h.2 c6
              refine lv_iconst (pc := 56) (v := (5 : Int32)) hx hb dX7_kindOfLetter_56 (by decide) ?_
              refine lv_goto (pc := 57) (tgt := 62) hx hb dX7_kindOfLetter_57 (by decide) ?_
              exact kx_iret (pc := 62) hx hb hr hlocks hK hP hD hS ⟨rfl, h⟩ dX7_kindOfLetter_62
          · have h := h.2 c5
            refine lv_iconst (pc := 46) (v := (4 : Int32)) hx hb dX7_kindOfLetter_46 (by decide) ?_
            refine lv_goto (pc := 47) (tgt := 62) hx hb dX7_kindOfLetter_47 (by decide) ?_
            exact kx_iret (pc := 62) hx hb hr hlocks hK hP hD hS ⟨rfl, h⟩ dX7_kindOfLetter_62
        · have h := h.2 c4
          refine lv_iconst (pc := 36) (v := (3 : Int32)) hx hb dX7_kindOfLetter_36 (by decide) ?_
          refine lv_goto (pc := 37) (tgt := 62) hx hb dX7_kindOfLetter_37 (by decide) ?_
          exact kx_iret (pc := 62) hx hb hr hlocks hK hP hD hS ⟨rfl, h⟩ dX7_kindOfLetter_62
      · have h := h.2 c3
        refine lv_iconst (pc := 26) (v := (2 : Int32)) hx hb dX7_kindOfLetter_26 (by decide) ?_
        refine lv_goto (pc := 27) (tgt := 62) hx hb dX7_kindOfLetter_27 (by decide) ?_
        exact kx_iret (pc := 62) hx hb hr hlocks hK hP hD hS ⟨rfl, h⟩ dX7_kindOfLetter_62
    · have h := h.2 c2
      refine lv_iconst (pc := 16) (v := (1 : Int32)) hx hb dX7_kindOfLetter_16 (by decide) ?_
      refine lv_goto (pc := 17) (tgt := 62) hx hb dX7_kindOfLetter_17 (by decide) ?_
      exact kx_iret (pc := 62) hx hb hr hlocks hK hP hD hS ⟨rfl, h⟩ dX7_kindOfLetter_62
  · have h := h.2 c1
    refine lv_iconst (pc := 6) (v := (0 : Int32)) hx hb dX7_kindOfLetter_6 (by decide) ?_
    refine lv_goto (pc := 7) (tgt := 62) hx hb dX7_kindOfLetter_7 (by decide) ?_
    exact kx_iret (pc := 62) hx hb hr hlocks hK hP hD hS ⟨rfl, h⟩ dX7_kindOfLetter_62
def p7_readsKite_J88 (σ : kx_St) (x1 : Int32) (x2 : Int32) (x3 : Int32) (x4 : Int32) (s0 : Int32) (Q : kx_St → Int32 → Prop) : Prop := (¬ s0 = (-9 : Int32) → vp_in x1 24 ∧ ((fun σ3 : kx_St => vp_in (x1 + (1 : Int32)) 24 ∧ ((fun σ5 : kx_St => vp_in (x1 + (2 : Int32)) 24 ∧ ((fun σ7 : kx_St => vp_in (x1 + (3 : Int32)) 24 ∧ ((fun σ9 : kx_St => (fun σ10 : kx_St => Q σ10 (1 : Int32)) (kx_sI σ9 0 22 ((σ9.1 0 22) + (1 : Int32)))) (kx_sI σ7 12 (x1 + (3 : Int32)).toNatClampNeg s0))) (kx_sI σ5 12 (x1 + (2 : Int32)).toNatClampNeg x4))) (kx_sI σ3 12 (x1 + (1 : Int32)).toNatClampNeg x3))) (kx_sI σ 12 x1.toNatClampNeg x2))) ∧ (s0 = (-9 : Int32) → Q σ (0 : Int32))
set_option maxHeartbeats 4000000 in
theorem w7_readsKite_J88 {σ : kx_St} {x1 : Int32} {x2 : Int32} {x3 : Int32} {x4 : Int32} {s0 : Int32}  {Q : kx_St → Int32 → Prop} {H : Heap} {locs : List Loc} {ls : Array Slot} (cx : kx_Cx p s m args meth c D cy RX7 cX7_readsKite 6 (some .boolean))   (h : p7_readsKite_J88 σ x1 x2 x3 x4 s0 Q) (hP : va_P D vwCl (kx_ws cy 1 ad σ) H) (hD : va_D A (kx_ws cy 1 ad σ)) (hS : va_S A s.heap H locs) (hl : lv_has ls 6 [(0, .ref (ad 0)), (1, .int x1), (2, .int x2), (3, .int x3), (4, .int x4)]) : W p l e rm7_readsKite s m args below meth c H locs 0 0 (MQ below (kx_Qc kx_ci Q (kx_Wd D cy 1 ad A) A) args s 0 0 A) (F0 m 88 ls [.int s0]) := by
  obtain ⟨hx, hb, hr, hlocks, hml, hown, hts, hK⟩ := id cx
  refine lv_istore (pc := 88) (lv' := [(5, .int s0), (0, .ref (ad 0)), (1, .int x1), (2, .int x2), (3, .int x3), (4, .int x4)]) hx hb dX7_readsKite_88 hl (by decide) rfl (fun ls hl => ?_)
  refine lv_iload (pc := 90) hx hb dX7_readsKite_90 (lv_at hl 0 rfl) ?_
  refine lv_bipush (pc := 92) (v := (-9 : Int32)) hx hb dX7_readsKite_92 (by decide) ?_
  refine lv_icmp_ne (pc := 94) (tgt := 99) hx hb dX7_readsKite_94 (by decide) (fun c1 => ?_) (fun c1 => ?_)
  · have h := h.1 c1
    refine lv_aload_n (pc := 99) hx hb dX7_readsKite_99 rfl (lv_at hl 1 rfl) ?_
    refine fg7_47 (pc := 100) (b := 12) hx hb hown hts hK hP rfl rfl dX7_readsKite_100 ?_
    refine lv_iload_n (pc := 103) hx hb dX7_readsKite_103 rfl (lv_at hl 2 rfl) ?_
    refine lv_iload_n (pc := 104) hx hb dX7_readsKite_104 rfl (lv_at hl 3 rfl) ?_
    obtain ⟨g2, h⟩ := h
    refine kx_iast (pc := 105) hx hb hK hP hD hS rfl g2 dX7_readsKite_105 (fun H locs hP hD hS => ?_)
    refine lv_aload_n (pc := 106) hx hb dX7_readsKite_106 rfl (lv_at hl 1 rfl) ?_
    refine fg7_47 (pc := 107) (b := 12) hx hb hown hts hK hP rfl rfl dX7_readsKite_107 ?_
    refine lv_iload_n (pc := 110) hx hb dX7_readsKite_110 rfl (lv_at hl 2 rfl) ?_
    refine lv_iconst (pc := 111) (v := (1 : Int32)) hx hb dX7_readsKite_111 (by decide) ?_
    refine lv_iadd (pc := 112) hx hb dX7_readsKite_112 ?_
    refine lv_iload_n (pc := 113) hx hb dX7_readsKite_113 rfl (lv_at hl 4 rfl) ?_
    obtain ⟨g4, h⟩ := h
    refine kx_iast (pc := 114) hx hb hK hP hD hS rfl g4 dX7_readsKite_114 (fun H locs hP hD hS => ?_)
    refine lv_aload_n (pc := 115) hx hb dX7_readsKite_115 rfl (lv_at hl 1 rfl) ?_
    refine fg7_47 (pc := 116) (b := 12) hx hb hown hts hK hP rfl rfl dX7_readsKite_116 ?_
    refine lv_iload_n (pc := 119) hx hb dX7_readsKite_119 rfl (lv_at hl 2 rfl) ?_
    refine lv_iconst (pc := 120) (v := (2 : Int32)) hx hb dX7_readsKite_120 (by decide) ?_
    refine lv_iadd (pc := 121) hx hb dX7_readsKite_121 ?_
    refine lv_iload (pc := 122) hx hb dX7_readsKite_122 (lv_at hl 5 rfl) ?_
    obtain ⟨g6, h⟩ := h
    refine kx_iast (pc := 124) hx hb hK hP hD hS rfl g6 dX7_readsKite_124 (fun H locs hP hD hS => ?_)
    refine lv_aload_n (pc := 125) hx hb dX7_readsKite_125 rfl (lv_at hl 1 rfl) ?_
    refine fg7_47 (pc := 126) (b := 12) hx hb hown hts hK hP rfl rfl dX7_readsKite_126 ?_
    refine lv_iload_n (pc := 129) hx hb dX7_readsKite_129 rfl (lv_at hl 2 rfl) ?_
    refine lv_iconst (pc := 130) (v := (3 : Int32)) hx hb dX7_readsKite_130 (by decide) ?_
    refine lv_iadd (pc := 131) hx hb dX7_readsKite_131 ?_
    refine lv_iload (pc := 132) hx hb dX7_readsKite_132 (lv_at hl 0 rfl) ?_
    obtain ⟨g8, h⟩ := h
    refine kx_iast (pc := 134) hx hb hK hP hD hS rfl g8 dX7_readsKite_134 (fun H locs hP hD hS => ?_)
    refine lv_aload_n (pc := 135) hx hb dX7_readsKite_135 rfl (lv_at hl 1 rfl) ?_
    refine lv_dup (pc := 136) hx hb dX7_readsKite_136 rfl ?_
    refine fg7_131 (pc := 137) hx hb hown hts hK hP rfl dX7_readsKite_137 ?_
    refine lv_iconst (pc := 140) (v := (1 : Int32)) hx hb dX7_readsKite_140 (by decide) ?_
    refine lv_iadd (pc := 141) hx hb dX7_readsKite_141 ?_
    refine fp7_131 (pc := 142) hx hb hown hts hK hP hD hS rfl dX7_readsKite_142 (fun H locs hP hD hS => ?_)
    refine lv_iconst (pc := 145) (v := (1 : Int32)) hx hb dX7_readsKite_145 (by decide) ?_
    exact kx_zret (pc := 146) hx hb hr hlocks hK hP hD hS (by decide) h dX7_readsKite_146
  · have h := h.2 c1
    refine lv_iconst (pc := 97) (v := (0 : Int32)) hx hb dX7_readsKite_97 (by decide) ?_
    exact kx_zret (pc := 98) hx hb hr hlocks hK hP hD hS (by decide) h dX7_readsKite_98
def p7_readsKite_J68 (σ : kx_St) (x1 : Int32) (x2 : Int32) (x3 : Int32) (s0 : Int32) (Q : kx_St → Int32 → Prop) : Prop := (¬ s0 = (-9 : Int32) → p7_figure σ (0 : Int32) (3 : Int32) (fun σ3 r2 => p7_readsKite_J88 σ3 x1 x2 x3 s0 r2 Q)) ∧ (s0 = (-9 : Int32) → p7_readsKite_J88 σ x1 x2 x3 s0 (-9 : Int32) Q)
set_option maxHeartbeats 4000000 in
theorem w7_readsKite_J68 {σ : kx_St} {x1 : Int32} {x2 : Int32} {x3 : Int32} {s0 : Int32}  {Q : kx_St → Int32 → Prop} {H : Heap} {locs : List Loc} {ls : Array Slot} (cx : kx_Cx p s m args meth c D cy RX7 cX7_readsKite 6 (some .boolean))   (h : p7_readsKite_J68 σ x1 x2 x3 s0 Q) (hP : va_P D vwCl (kx_ws cy 1 ad σ) H) (hD : va_D A (kx_ws cy 1 ad σ)) (hS : va_S A s.heap H locs) (hl : lv_has ls 6 [(0, .ref (ad 0)), (1, .int x1), (2, .int x2), (3, .int x3)]) : W p l e rm7_readsKite s m args below meth c H locs 0 0 (MQ below (kx_Qc kx_ci Q (kx_Wd D cy 1 ad A) A) args s 0 0 A) (F0 m 68 ls [.int s0]) := by
  obtain ⟨hx, hb, hr, hlocks, hml, hown, hts, hK⟩ := id cx
  refine lv_istore (pc := 68) (lv' := [(4, .int s0), (0, .ref (ad 0)), (1, .int x1), (2, .int x2), (3, .int x3)]) hx hb dX7_readsKite_68 hl (by decide) rfl (fun ls hl => ?_)
  refine lv_iload (pc := 70) hx hb dX7_readsKite_70 (lv_at hl 0 rfl) ?_
  refine lv_bipush (pc := 72) (v := (-9 : Int32)) hx hb dX7_readsKite_72 (by decide) ?_
  refine lv_icmp_ne (pc := 74) (tgt := 82) hx hb dX7_readsKite_74 (by decide) (fun c1 => ?_) (fun c1 => ?_)
  · have h := h.1 c1
    refine lv_aload_n (pc := 82) hx hb dX7_readsKite_82 rfl (lv_at hl 1 rfl) ?_
    refine lv_iconst (pc := 83) (v := (0 : Int32)) hx hb dX7_readsKite_83 (by decide) ?_
    refine lv_iconst (pc := 84) (v := (3 : Int32)) hx hb dX7_readsKite_84 (by decide) ?_
    refine kx_iVi (pc := 85) [.int (0 : Int32), .int (3 : Int32)] hx hb hml hown hts hK hP hD hS (q7_figure h) (cw7_125 hts ⟨Nat.le_of_ble_eq_true rfl, Nat.le_of_ble_eq_true rfl⟩) rfl (by decide) rfl rfl hl.1 rfl (Nat.le_of_ble_eq_true rfl) ⟨Nat.le_of_ble_eq_true rfl, Nat.le_of_ble_eq_true rfl⟩ dX7_readsKite_85 (fun r2 σ3 H locs hP hD hS h => ?_)
    exact w7_readsKite_J88 cx  h hP hD hS (lv_sub hl [1, 2, 3, 4, 0] rfl)
  · have h := h.2 c1
    refine lv_bipush (pc := 77) (v := (-9 : Int32)) hx hb dX7_readsKite_77 (by decide) ?_
    refine lv_goto (pc := 79) (tgt := 88) hx hb dX7_readsKite_79 (by decide) ?_
    exact w7_readsKite_J88 cx  h hP hD hS (lv_sub hl [1, 2, 3, 4, 0] rfl)
def p7_readsKite (σ : kx_St) (Q : kx_St → Int32 → Prop) : Prop := p7_here σ (fun r1 => p7_kindOfLetter r1 (fun r2 => (r2 = (-9 : Int32) → Q σ (0 : Int32)) ∧ (¬ r2 = (-9 : Int32) → (¬ (σ.1 0 22) = (6 : Int32) → (fun σ5 : kx_St => p7_figure σ5 (1 : Int32) (9 : Int32) (fun σ7 r6 => (¬ r6 = (-9 : Int32) → p7_figure σ7 (0 : Int32) (9 : Int32) (fun σ10 r9 => p7_readsKite_J68 σ10 ((4 : Int32) * (σ.1 0 22)) r2 r6 r9 Q)) ∧ (r6 = (-9 : Int32) → p7_readsKite_J68 σ7 ((4 : Int32) * (σ.1 0 22)) r2 r6 (-9 : Int32) Q))) (kx_sI σ 0 17 ((σ.1 0 17) + (1 : Int32)))) ∧ ((σ.1 0 22) = (6 : Int32) → Q σ (0 : Int32)))))
set_option maxHeartbeats 4000000 in
theorem q7_readsKite {σ : kx_St}  {Q : kx_St → Int32 → Prop} (h : p7_readsKite σ Q) : Met l yX7_readsKite (Cond.code yX7_readsKite cX7_readsKite 6 (some .boolean) :: kx_big) rm7_readsKite (va_Pc [.ref (ad 0)] (kx_Wd D cy 1 ad A σ)) (kx_Qc kx_ci Q (kx_Wd D cy 1 ad A) A) 0 0 A := by
  refine kx_head (plainFor_of_name (by decide)) (Nat.le_of_ble_eq_true rfl) ?_
  intro p e s m below meth c ls cx hP hD hS hl
  obtain ⟨hx, hb, hr, hlocks, hml, hown, hts, hK⟩ := id cx
  have hl : lv_has ls 6 [(0, .ref (ad 0))] := hl
  refine lv_iconst (pc := 0) (v := (4 : Int32)) hx hb dX7_readsKite_0 (by decide) ?_
  refine lv_aload_n (pc := 1) hx hb dX7_readsKite_1 rfl (lv_at hl 0 rfl) ?_
  refine fg7_131 (pc := 2) hx hb hown hts hK hP rfl dX7_readsKite_2 ?_
  refine lv_imul (pc := 5) hx hb dX7_readsKite_5 ?_
  refine lv_istore_n (pc := 6) (lv' := [(1, .int ((4 : Int32) * (σ.1 0 22))), (0, .ref (ad 0))]) hx hb dX7_readsKite_6 rfl hl (by decide) rfl (fun ls hl => ?_)
  refine lv_aload_n (pc := 7) hx hb dX7_readsKite_7 rfl (lv_at hl 1 rfl) ?_
  refine kx_iVi (pc := 8) [] hx hb hml hown hts hK hP hD hS (q7_here h) (cw7_118 hts ⟨Nat.le_of_ble_eq_true rfl, Nat.le_of_ble_eq_true rfl⟩) rfl (by decide) rfl rfl hl.1 rfl (Nat.le_of_ble_eq_true rfl) ⟨Nat.le_of_ble_eq_true rfl, Nat.le_of_ble_eq_true rfl⟩ dX7_readsKite_8 (fun r1 u_ H locs hP hD hS h => ?_)
  obtain ⟨hu_, h⟩ := h
  rw [hu_] at hP hD
  refine kx_iSi (pc := 11) [.int r1] hx hb hml hown hts hK hP hD hS (q7_kindOfLetter h) (cw7_134 hts ⟨Nat.le_of_ble_eq_true rfl, Nat.le_of_ble_eq_true rfl⟩) rfl hl.1 rfl (Nat.le_of_ble_eq_true rfl) ⟨Nat.le_of_ble_eq_true rfl, Nat.le_of_ble_eq_true rfl⟩ dX7_readsKite_11 (fun r2 u_ H locs hP hD hS h => ?_)
  obtain ⟨hu_, h⟩ := h
  rw [hu_] at hP hD
  refine lv_istore_n (pc := 14) (lv' := [(2, .int r2), (1, .int ((4 : Int32) * (σ.1 0 22))), (0, .ref (ad 0))]) hx hb dX7_readsKite_14 rfl hl (by decide) rfl (fun ls hl => ?_)
  refine lv_iload_n (pc := 15) hx hb dX7_readsKite_15 rfl (lv_at hl 0 rfl) ?_
  refine lv_bipush (pc := 16) (v := (-9 : Int32)) hx hb dX7_readsKite_16 (by decide) ?_
  refine lv_icmp_eq (pc := 18) (tgt := 30) hx hb dX7_readsKite_18 (by decide) (fun c3 => ?_) (fun c3 => ?_)
  · have h := h.1 c3
    refine lv_iconst (pc := 30) (v := (0 : Int32)) hx hb dX7_readsKite_30 (by decide) ?_
    exact kx_zret (pc := 31) hx hb hr hlocks hK hP hD hS (by decide) h dX7_readsKite_31
  · have h := h.2 c3
    refine lv_aload_n (pc := 21) hx hb dX7_readsKite_21 rfl (lv_at hl 2 rfl) ?_
    refine fg7_131 (pc := 22) hx hb hown hts hK hP rfl dX7_readsKite_22 ?_
    refine lv_bipush (pc := 25) (v := (6 : Int32)) hx hb dX7_readsKite_25 (by decide) ?_
    refine lv_icmp_ne (pc := 27) (tgt := 32) hx hb dX7_readsKite_27 (by decide) (fun c4 => ?_) (fun c4 => ?_)
    · have h := h.1 c4
      refine lv_aload_n (pc := 32) hx hb dX7_readsKite_32 rfl (lv_at hl 2 rfl) ?_
      refine lv_dup (pc := 33) hx hb dX7_readsKite_33 rfl ?_
      refine fg7_112 (pc := 34) hx hb hown hts hK hP rfl dX7_readsKite_34 ?_
      refine lv_iconst (pc := 37) (v := (1 : Int32)) hx hb dX7_readsKite_37 (by decide) ?_
      refine lv_iadd (pc := 38) hx hb dX7_readsKite_38 ?_
      refine fp7_112 (pc := 39) hx hb hown hts hK hP hD hS rfl dX7_readsKite_39 (fun H locs hP hD hS => ?_)
      refine lv_aload_n (pc := 42) hx hb dX7_readsKite_42 rfl (lv_at hl 2 rfl) ?_
      refine lv_iconst (pc := 43) (v := (1 : Int32)) hx hb dX7_readsKite_43 (by decide) ?_
      refine lv_bipush (pc := 44) (v := (9 : Int32)) hx hb dX7_readsKite_44 (by decide) ?_
      refine kx_iVi (pc := 46) [.int (1 : Int32), .int (9 : Int32)] hx hb hml hown hts hK hP hD hS (q7_figure h) (cw7_125 hts ⟨Nat.le_of_ble_eq_true rfl, Nat.le_of_ble_eq_true rfl⟩) rfl (by decide) rfl rfl hl.1 rfl (Nat.le_of_ble_eq_true rfl) ⟨Nat.le_of_ble_eq_true rfl, Nat.le_of_ble_eq_true rfl⟩ dX7_readsKite_46 (fun r6 σ7 H locs hP hD hS h => ?_)
      refine lv_istore_n (pc := 49) (lv' := [(3, .int r6), (2, .int r2), (1, .int ((4 : Int32) * (σ.1 0 22))), (0, .ref (ad 0))]) hx hb dX7_readsKite_49 rfl hl (by decide) rfl (fun ls hl => ?_)
      refine lv_iload_n (pc := 50) hx hb dX7_readsKite_50 rfl (lv_at hl 0 rfl) ?_
      refine lv_bipush (pc := 51) (v := (-9 : Int32)) hx hb dX7_readsKite_51 (by decide) ?_
      refine lv_icmp_ne (pc := 53) (tgt := 61) hx hb dX7_readsKite_53 (by decide) (fun c8 => ?_) (fun c8 => ?_)
      · have h := h.1 c8
        refine lv_aload_n (pc := 61) hx hb dX7_readsKite_61 rfl (lv_at hl 3 rfl) ?_
        refine lv_iconst (pc := 62) (v := (0 : Int32)) hx hb dX7_readsKite_62 (by decide) ?_
        refine lv_bipush (pc := 63) (v := (9 : Int32)) hx hb dX7_readsKite_63 (by decide) ?_
        refine kx_iVi (pc := 65) [.int (0 : Int32), .int (9 : Int32)] hx hb hml hown hts hK hP hD hS (q7_figure h) (cw7_125 hts ⟨Nat.le_of_ble_eq_true rfl, Nat.le_of_ble_eq_true rfl⟩) rfl (by decide) rfl rfl hl.1 rfl (Nat.le_of_ble_eq_true rfl) ⟨Nat.le_of_ble_eq_true rfl, Nat.le_of_ble_eq_true rfl⟩ dX7_readsKite_65 (fun r9 σ10 H locs hP hD hS h => ?_)
        exact w7_readsKite_J68 cx  h hP hD hS (lv_sub hl [3, 2, 1, 0] rfl)
      · have h := h.2 c8
        refine lv_bipush (pc := 56) (v := (-9 : Int32)) hx hb dX7_readsKite_56 (by decide) ?_
        refine lv_goto (pc := 58) (tgt := 68) hx hb dX7_readsKite_58 (by decide) ?_
        exact w7_readsKite_J68 cx  h hP hD hS (lv_sub hl [3, 2, 1, 0] rfl)
    · have h := h.2 c4
      refine lv_iconst (pc := 30) (v := (0 : Int32)) hx hb dX7_readsKite_30 (by decide) ?_
      exact kx_zret (pc := 31) hx hb hr hlocks hK hP hD hS (by decide) h dX7_readsKite_31
def p7_faultOf_J72 (σ : kx_St) (x2 : Int32) (Q : kx_St → Int32 → Prop) : Prop := (x2 = 0 → Q σ (σ.1 0 17)) ∧ (¬ x2 = 0 → ((σ.1 0 22) ≤ 0 → Q σ (σ.1 0 17)) ∧ (¬ (σ.1 0 22) ≤ 0 → Q σ (-9 : Int32)))
set_option maxHeartbeats 4000000 in
theorem w7_faultOf_J72 {σ : kx_St} {x2 : Int32}  {Q : kx_St → Int32 → Prop} {H : Heap} {locs : List Loc} {ls : Array Slot} (cx : kx_Cx p s m args meth c D cy RX7 cX7_faultOf 3 (some .int))   (h : p7_faultOf_J72 σ x2 Q) (hP : va_P D vwCl (kx_ws cy 1 ad σ) H) (hD : va_D A (kx_ws cy 1 ad σ)) (hS : va_S A s.heap H locs) (hl : lv_has ls 3 [(0, .ref (ad 0)), (2, .int x2)]) : W p l e rm7_faultOf s m args below meth c H locs 0 0 (MQ below (kx_Qc kx_ci Q (kx_Wd D cy 1 ad A) A) args s 0 0 A) (F0 m 72 ls []) := by
  obtain ⟨hx, hb, hr, hlocks, hml, hown, hts, hK⟩ := id cx
  refine lv_iload_n (pc := 72) hx hb dX7_faultOf_72 rfl (lv_at hl 1 rfl) ?_
  refine lv_if_eq (pc := 73) (tgt := 88) hx hb dX7_faultOf_73 (by decide) (fun c1 => ?_) (fun c1 => ?_)
  · have h := h.1 c1
    refine lv_aload_n (pc := 88) hx hb dX7_faultOf_88 rfl (lv_at hl 0 rfl) ?_
    refine fg7_112 (pc := 89) hx hb hown hts hK hP rfl dX7_faultOf_89 ?_
    exact kx_iret (pc := 92) hx hb hr hlocks hK hP hD hS h dX7_faultOf_92
  · have h := h.2 c1
    refine lv_aload_n (pc := 76) hx hb dX7_faultOf_76 rfl (lv_at hl 0 rfl) ?_
    refine fg7_131 (pc := 77) hx hb hown hts hK hP rfl dX7_faultOf_77 ?_
    refine lv_if_le (pc := 80) (tgt := 88) hx hb dX7_faultOf_80 (by decide) (fun c2 => ?_) (fun c2 => ?_)
    · have h := h.1 c2
      refine lv_aload_n (pc := 88) hx hb dX7_faultOf_88 rfl (lv_at hl 0 rfl) ?_
      refine fg7_112 (pc := 89) hx hb hown hts hK hP rfl dX7_faultOf_89 ?_
      exact kx_iret (pc := 92) hx hb hr hlocks hK hP hD hS h dX7_faultOf_92
    · have h := h.2 c2
      refine lv_bipush (pc := 83) (v := (-9 : Int32)) hx hb dX7_faultOf_83 (by decide) ?_
      refine lv_goto (pc := 85) (tgt := 92) hx hb dX7_faultOf_85 (by decide) ?_
      exact kx_iret (pc := 92) hx hb hr hlocks hK hP hD hS h dX7_faultOf_92
def p7_faultOf_L41 : Nat → kx_St → Int32 → (kx_St → Int32 → Prop) → Prop
  | 0, _, _, _ => False
  | n + 1, σ, x2, Q => (x2 = 0 → p7_faultOf_J72 σ x2 Q) ∧ (¬ x2 = 0 → ((σ.1 0 18) ≤ (σ.1 0 17) → p7_faultOf_J72 σ x2 Q) ∧ (¬ (σ.1 0 18) ≤ (σ.1 0 17) → p7_readsKite σ (fun σ4 r3 => (r3 = 0 → p7_faultOf_L41 n σ4 r3 Q) ∧ (¬ r3 = 0 → p7_skip σ4 (fun σ7 => p7_faultOf_L41 n σ7 r3 Q)))))
set_option maxHeartbeats 4000000 in
theorem w7_faultOf_L41  {Q : kx_St → Int32 → Prop} (cx : kx_Cx p s m args meth c D cy RX7 cX7_faultOf 3 (some .int))  : ∀ (n : Nat) (σ : kx_St) (x2 : Int32) (H : Heap) (locs : List Loc) (ls : Array Slot), p7_faultOf_L41 n σ x2 Q → va_P D vwCl (kx_ws cy 1 ad σ) H → va_D A (kx_ws cy 1 ad σ) → va_S A s.heap H locs → lv_has ls 3 [(0, .ref (ad 0)), (2, .int x2)] → W p l e rm7_faultOf s m args below meth c H locs 0 0 (MQ below (kx_Qc kx_ci Q (kx_Wd D cy 1 ad A) A) args s 0 0 A) (F0 m 41 ls []) := by
  obtain ⟨hx, hb, hr, hlocks, hml, hown, hts, hK⟩ := id cx
  intro n
  induction n with
  | zero => intro _ _ _ _ _ h; exact False.elim h
  | succ n ih =>
    intro σ x2 H locs ls h hP hD hS hl
    refine lv_iload_n (pc := 41) hx hb dX7_faultOf_41 rfl (lv_at hl 1 rfl) ?_
    refine lv_if_eq (pc := 42) (tgt := 72) hx hb dX7_faultOf_42 (by decide) (fun c1 => ?_) (fun c1 => ?_)
    · have h := h.1 c1
      exact w7_faultOf_J72 cx  h hP hD hS (lv_sub hl [0, 1] rfl)
    · have h := h.2 c1
      refine lv_aload_n (pc := 45) hx hb dX7_faultOf_45 rfl (lv_at hl 0 rfl) ?_
      refine fg7_112 (pc := 46) hx hb hown hts hK hP rfl dX7_faultOf_46 ?_
      refine lv_aload_n (pc := 49) hx hb dX7_faultOf_49 rfl (lv_at hl 0 rfl) ?_
      refine fg7_115 (pc := 50) hx hb hown hts hK hP rfl dX7_faultOf_50 ?_
      refine lv_icmp_ge (pc := 53) (tgt := 72) hx hb dX7_faultOf_53 (by decide) (fun c2 => ?_) (fun c2 => ?_)
      · have h := h.1 c2
        exact w7_faultOf_J72 cx  h hP hD hS (lv_sub hl [0, 1] rfl)
      · have h := h.2 c2
        refine lv_aload_n (pc := 56) hx hb dX7_faultOf_56 rfl (lv_at hl 0 rfl) ?_
        refine kx_iVi (pc := 57) [] hx hb hml hown hts hK hP hD hS (q7_readsKite h) (cw7_141 hts ⟨Nat.le_of_ble_eq_true rfl, Nat.le_of_ble_eq_true rfl⟩) rfl (by decide) rfl rfl hl.1 rfl (Nat.le_of_ble_eq_true rfl) ⟨Nat.le_of_ble_eq_true rfl, Nat.le_of_ble_eq_true rfl⟩ dX7_faultOf_57 (fun r3 σ4 H locs hP hD hS h => ?_)
        refine lv_istore_n (pc := 60) (lv' := [(2, .int r3), (0, .ref (ad 0))]) hx hb dX7_faultOf_60 rfl hl (by decide) rfl (fun ls hl => ?_)
        refine lv_iload_n (pc := 61) hx hb dX7_faultOf_61 rfl (lv_at hl 0 rfl) ?_
        refine lv_if_eq (pc := 62) (tgt := 41) hx hb dX7_faultOf_62 (by decide) (fun c5 => ?_) (fun c5 => ?_)
        · have h := h.1 c5
          exact ih _ _ _ _ _ h hP hD hS (lv_sub hl [1, 0] rfl)
        · have h := h.2 c5
          refine lv_aload_n (pc := 65) hx hb dX7_faultOf_65 rfl (lv_at hl 1 rfl) ?_
          refine kx_iVv (pc := 66) [] hx hb hml hown hts hK hP hD hS (q7_skip h) (cw7_122 hts ⟨Nat.le_of_ble_eq_true rfl, Nat.le_of_ble_eq_true rfl⟩) rfl (by decide) rfl rfl hl.1 rfl (Nat.le_of_ble_eq_true rfl) ⟨Nat.le_of_ble_eq_true rfl, Nat.le_of_ble_eq_true rfl⟩ dX7_faultOf_66 (fun _ σ7 H locs hP hD hS h => ?_)
          refine lv_goto (pc := 69) (tgt := 41) hx hb dX7_faultOf_69 (by decide) ?_
          exact ih _ _ _ _ _ h hP hD hS (lv_sub hl [1, 0] rfl)
def p7_faultOf (σ : kx_St) (x1 : Int32) (Q : kx_St → Int32 → Prop) : Prop := (fun σ1 : kx_St => (fun σ2 : kx_St => vp_in x1 4 ∧ ((fun σ4 : kx_St => (fun σ5 : kx_St => p7_readsHead σ5 (fun σ7 r6 => (r6 = 0 → ∃ m41, p7_faultOf_L41 m41 σ7 r6 Q) ∧ (¬ r6 = 0 → p7_skip σ7 (fun σ10 => ∃ m41, p7_faultOf_L41 m41 σ10 r6 Q)))) (kx_sI σ4 0 22 (0 : Int32))) (kx_sI σ2 0 18 (σ2.1 8 x1.toNatClampNeg)))) (kx_sI σ1 0 17 (0 : Int32))) (kx_sI σ 0 16 ((60 : Int32) * x1))
set_option maxHeartbeats 4000000 in
theorem q7_faultOf {σ : kx_St} {x1 : Int32} {Q : kx_St → Int32 → Prop} (h : p7_faultOf σ x1 Q) : Met l yX7_faultOf (Cond.code yX7_faultOf cX7_faultOf 3 (some .int) :: kx_big) rm7_faultOf (va_Pc [.ref (ad 0), .int x1] (kx_Wd D cy 1 ad A σ)) (kx_Qc kx_ci Q (kx_Wd D cy 1 ad A) A) 0 0 A := by
  refine kx_head (plainFor_of_name (by decide)) (Nat.le_of_ble_eq_true rfl) ?_
  intro p e s m below meth c ls cx hP hD hS hl
  obtain ⟨hx, hb, hr, hlocks, hml, hown, hts, hK⟩ := id cx
  have hl : lv_has ls 3 [(0, .ref (ad 0)), (1, .int x1)] := hl
  refine lv_aload_n (pc := 0) hx hb dX7_faultOf_0 rfl (lv_at hl 0 rfl) ?_
  refine lv_bipush (pc := 1) (v := (60 : Int32)) hx hb dX7_faultOf_1 (by decide) ?_
  refine lv_iload_n (pc := 3) hx hb dX7_faultOf_3 rfl (lv_at hl 1 rfl) ?_
  refine lv_imul (pc := 4) hx hb dX7_faultOf_4 ?_
  refine fp7_109 (pc := 5) hx hb hown hts hK hP hD hS rfl dX7_faultOf_5 (fun H locs hP hD hS => ?_)
  refine lv_aload_n (pc := 8) hx hb dX7_faultOf_8 rfl (lv_at hl 0 rfl) ?_
  refine lv_iconst (pc := 9) (v := (0 : Int32)) hx hb dX7_faultOf_9 (by decide) ?_
  refine fp7_112 (pc := 10) hx hb hown hts hK hP hD hS rfl dX7_faultOf_10 (fun H locs hP hD hS => ?_)
  refine lv_aload_n (pc := 13) hx hb dX7_faultOf_13 rfl (lv_at hl 0 rfl) ?_
  refine lv_aload_n (pc := 14) hx hb dX7_faultOf_14 rfl (lv_at hl 0 rfl) ?_
  refine fg7_31 (pc := 15) (b := 8) hx hb hown hts hK hP rfl rfl dX7_faultOf_15 ?_
  refine lv_iload_n (pc := 18) hx hb dX7_faultOf_18 rfl (lv_at hl 1 rfl) ?_
  obtain ⟨g3, h⟩ := h
  refine kx_iald (pc := 19) hx hb hK hP rfl g3 dX7_faultOf_19 ?_
  refine fp7_115 (pc := 20) hx hb hown hts hK hP hD hS rfl dX7_faultOf_20 (fun H locs hP hD hS => ?_)
  refine lv_aload_n (pc := 23) hx hb dX7_faultOf_23 rfl (lv_at hl 0 rfl) ?_
  refine lv_iconst (pc := 24) (v := (0 : Int32)) hx hb dX7_faultOf_24 (by decide) ?_
  refine fp7_131 (pc := 25) hx hb hown hts hK hP hD hS rfl dX7_faultOf_25 (fun H locs hP hD hS => ?_)
  refine lv_aload_n (pc := 28) hx hb dX7_faultOf_28 rfl (lv_at hl 0 rfl) ?_
  refine kx_iVi (pc := 29) [] hx hb hml hown hts hK hP hD hS (q7_readsHead h) (cw7_137 hts ⟨Nat.le_of_ble_eq_true rfl, Nat.le_of_ble_eq_true rfl⟩) rfl (by decide) rfl rfl hl.1 rfl (Nat.le_of_ble_eq_true rfl) ⟨Nat.le_of_ble_eq_true rfl, Nat.le_of_ble_eq_true rfl⟩ dX7_faultOf_29 (fun r6 σ7 H locs hP hD hS h => ?_)
  refine lv_istore_n (pc := 32) (lv' := [(2, .int r6), (0, .ref (ad 0)), (1, .int x1)]) hx hb dX7_faultOf_32 rfl hl (by decide) rfl (fun ls hl => ?_)
  refine lv_iload_n (pc := 33) hx hb dX7_faultOf_33 rfl (lv_at hl 0 rfl) ?_
  refine lv_if_eq (pc := 34) (tgt := 41) hx hb dX7_faultOf_34 (by decide) (fun c8 => ?_) (fun c8 => ?_)
  · have h := h.1 c8
    obtain ⟨n0, h⟩ := h
    exact w7_faultOf_L41 cx  n0 _ _ _ _ _ h hP hD hS (lv_sub hl [1, 0] rfl)
  · have h := h.2 c8
    refine lv_aload_n (pc := 37) hx hb dX7_faultOf_37 rfl (lv_at hl 1 rfl) ?_
    refine kx_iVv (pc := 38) [] hx hb hml hown hts hK hP hD hS (q7_skip h) (cw7_122 hts ⟨Nat.le_of_ble_eq_true rfl, Nat.le_of_ble_eq_true rfl⟩) rfl (by decide) rfl rfl hl.1 rfl (Nat.le_of_ble_eq_true rfl) ⟨Nat.le_of_ble_eq_true rfl, Nat.le_of_ble_eq_true rfl⟩ dX7_faultOf_38 (fun _ σ10 H locs hP hD hS h => ?_)
    obtain ⟨n0, h⟩ := h
    exact w7_faultOf_L41 cx  n0 _ _ _ _ _ h hP hD hS (lv_sub hl [1, 0] rfl)
def p7_fault (σ : kx_St) (x1 : Int32) (Q : kx_St → Int32 → Prop) : Prop := p7_isText x1 (fun r1 => (¬ r1 = 0 → vp_in x1 4 ∧ ((0 ≤ (σ.1 8 x1.toNatClampNeg) → p7_faultOf σ x1 (fun σ6 r5 => Q σ6 r5)) ∧ (¬ 0 ≤ (σ.1 8 x1.toNatClampNeg) → p7_find σ (1 : Int32) (fun σ8 r7 => Q σ8 r7)))) ∧ (r1 = 0 → Q σ (-1 : Int32)))
set_option maxHeartbeats 4000000 in
theorem q7_fault {σ : kx_St} {x1 : Int32} {Q : kx_St → Int32 → Prop} (h : p7_fault σ x1 Q) : Met l yX7_fault (Cond.code yX7_fault cX7_fault 2 (some .int) :: kx_big) rm7_fault (va_Pc [.ref (ad 0), .int x1] (kx_Wd D cy 1 ad A σ)) (kx_Qc kx_ci Q (kx_Wd D cy 1 ad A) A) 0 0 A := by
  refine kx_head (plainFor_of_name (by decide)) (Nat.le_of_ble_eq_true rfl) ?_
  intro p e s m below meth c ls cx hP hD hS hl
  obtain ⟨hx, hb, hr, hlocks, hml, hown, hts, hK⟩ := id cx
  have hl : lv_has ls 2 [(0, .ref (ad 0)), (1, .int x1)] := hl
  refine lv_iload_n (pc := 0) hx hb dX7_fault_0 rfl (lv_at hl 1 rfl) ?_
  refine kx_iSi (pc := 1) [.int x1] hx hb hml hown hts hK hP hD hS (q7_isText h) (cw7_106 hts ⟨Nat.le_of_ble_eq_true rfl, Nat.le_of_ble_eq_true rfl⟩) rfl hl.1 rfl (Nat.le_of_ble_eq_true rfl) ⟨Nat.le_of_ble_eq_true rfl, Nat.le_of_ble_eq_true rfl⟩ dX7_fault_1 (fun r1 u_ H locs hP hD hS h => ?_)
  obtain ⟨hu_, h⟩ := h
  rw [hu_] at hP hD
  refine lv_if_ne (pc := 4) (tgt := 9) hx hb dX7_fault_4 (by decide) (fun c2 => ?_) (fun c2 => ?_)
  · have h := h.1 c2
    refine lv_aload_n (pc := 9) hx hb dX7_fault_9 rfl (lv_at hl 0 rfl) ?_
    refine fg7_31 (pc := 10) (b := 8) hx hb hown hts hK hP rfl rfl dX7_fault_10 ?_
    refine lv_iload_n (pc := 13) hx hb dX7_fault_13 rfl (lv_at hl 1 rfl) ?_
    obtain ⟨g3, h⟩ := h
    refine kx_iald (pc := 14) hx hb hK hP rfl g3 dX7_fault_14 ?_
    refine lv_if_ge (pc := 15) (tgt := 26) hx hb dX7_fault_15 (by decide) (fun c4 => ?_) (fun c4 => ?_)
    · have h := h.1 c4
      refine lv_aload_n (pc := 26) hx hb dX7_fault_26 rfl (lv_at hl 0 rfl) ?_
      refine lv_iload_n (pc := 27) hx hb dX7_fault_27 rfl (lv_at hl 1 rfl) ?_
      refine kx_iVi (pc := 28) [.int x1] hx hb hml hown hts hK hP hD hS (q7_faultOf h) (cw7_144 hts ⟨Nat.le_of_ble_eq_true rfl, Nat.le_of_ble_eq_true rfl⟩) rfl (by decide) rfl rfl hl.1 rfl (Nat.le_of_ble_eq_true rfl) ⟨Nat.le_of_ble_eq_true rfl, Nat.le_of_ble_eq_true rfl⟩ dX7_fault_28 (fun r5 σ6 H locs hP hD hS h => ?_)
      exact kx_iret (pc := 31) hx hb hr hlocks hK hP hD hS h dX7_fault_31
    · have h := h.2 c4
      refine lv_aload_n (pc := 18) hx hb dX7_fault_18 rfl (lv_at hl 0 rfl) ?_
      refine lv_iconst (pc := 19) (v := (1 : Int32)) hx hb dX7_fault_19 (by decide) ?_
      refine kx_iVi (pc := 20) [.int (1 : Int32)] hx hb hml hown hts hK hP hD hS (q7_find h) (cw7_87 hts ⟨Nat.le_of_ble_eq_true rfl, Nat.le_of_ble_eq_true rfl⟩) rfl (by decide) rfl rfl hl.1 rfl (Nat.le_of_ble_eq_true rfl) ⟨Nat.le_of_ble_eq_true rfl, Nat.le_of_ble_eq_true rfl⟩ dX7_fault_20 (fun r7 σ8 H locs hP hD hS h => ?_)
      refine lv_goto (pc := 23) (tgt := 31) hx hb dX7_fault_23 (by decide) ?_
      exact kx_iret (pc := 31) hx hb hr hlocks hK hP hD hS h dX7_fault_31
  · have h := h.2 c2
    refine lv_iconst (pc := 7) (v := (-1 : Int32)) hx hb dX7_fault_7 (by decide) ?_
    exact kx_iret (pc := 8) hx hb hr hlocks hK hP hD hS h dX7_fault_8
def p7_parish_L182 : Nat → kx_St → Int32 → (kx_St → Int32 → Prop) → Prop
  | 0, _, _, _ => False
  | n + 1, σ, x2, Q => ((4 : Int32) ≤ x2 → Q σ (σ.1 0 3)) ∧ (¬ (4 : Int32) ≤ x2 → vp_in (((616 : Int32) * x2) + (0 : Int32)) 2480 ∧ ((fun σ3 : kx_St => p7_parish_L182 n σ3 (x2 + (1 : Int32)) Q) (kx_sI σ 1 (((616 : Int32) * x2) + (0 : Int32)).toNatClampNeg (-1 : Int32))))
set_option maxHeartbeats 4000000 in
theorem w7_parish_L182  {Q : kx_St → Int32 → Prop} (cx : kx_Cx p s m args meth c D cy RX7 cX7_parish 3 (some .int))  : ∀ (n : Nat) (σ : kx_St) (x2 : Int32) (H : Heap) (locs : List Loc) (ls : Array Slot), p7_parish_L182 n σ x2 Q → va_P D vwCl (kx_ws cy 1 ad σ) H → va_D A (kx_ws cy 1 ad σ) → va_S A s.heap H locs → lv_has ls 3 [(0, .ref (ad 0)), (2, .int x2)] → W p l e rm7_parish s m args below meth c H locs 0 0 (MQ below (kx_Qc kx_ci Q (kx_Wd D cy 1 ad A) A) args s 0 0 A) (F0 m 182 ls []) := by
  obtain ⟨hx, hb, hr, hlocks, hml, hown, hts, hK⟩ := id cx
  intro n
  induction n with
  | zero => intro _ _ _ _ _ h; exact False.elim h
  | succ n ih =>
    intro σ x2 H locs ls h hP hD hS hl
    refine lv_iload_n (pc := 182) hx hb dX7_parish_182 rfl (lv_at hl 1 rfl) ?_
    refine lv_iconst (pc := 183) (v := (4 : Int32)) hx hb dX7_parish_183 (by decide) ?_
    refine lv_icmp_ge (pc := 184) (tgt := 206) hx hb dX7_parish_184 (by decide) (fun c1 => ?_) (fun c1 => ?_)
    · have h := h.1 c1
      refine lv_aload_n (pc := 206) hx hb dX7_parish_206 rfl (lv_at hl 0 rfl) ?_
      refine fg7_150 (pc := 207) hx hb hown hts hK hP rfl dX7_parish_207 ?_
      exact kx_iret (pc := 210) hx hb hr hlocks hK hP hD hS h dX7_parish_210
    · have h := h.2 c1
      refine lv_aload_n (pc := 187) hx hb dX7_parish_187 rfl (lv_at hl 0 rfl) ?_
      refine fg7_7 (pc := 188) (b := 1) hx hb hown hts hK hP rfl rfl dX7_parish_188 ?_
      refine lv_sipush (pc := 191) (v := (616 : Int32)) hx hb dX7_parish_191 (by decide) ?_
      refine lv_iload_n (pc := 194) hx hb dX7_parish_194 rfl (lv_at hl 1 rfl) ?_
      refine lv_imul (pc := 195) hx hb dX7_parish_195 ?_
      refine lv_iconst (pc := 196) (v := (0 : Int32)) hx hb dX7_parish_196 (by decide) ?_
      refine lv_iadd (pc := 197) hx hb dX7_parish_197 ?_
      refine lv_iconst (pc := 198) (v := (-1 : Int32)) hx hb dX7_parish_198 (by decide) ?_
      obtain ⟨g2, h⟩ := h
      refine kx_iast (pc := 199) hx hb hK hP hD hS rfl g2 dX7_parish_199 (fun H locs hP hD hS => ?_)
      refine lv_iinc (pc := 200) (v := (x2 + (1 : Int32))) (lv' := [(2, .int (x2 + (1 : Int32))), (0, .ref (ad 0))]) hx hb dX7_parish_200 hl (k := 1) rfl rfl (by decide) rfl (fun ls hl => ?_)
      refine lv_goto (pc := 203) (tgt := 182) hx hb dX7_parish_203 (by decide) ?_
      exact ih _ _ _ _ _ h hP hD hS (lv_sub hl [1, 0] rfl)
def p7_parish_L102 : Nat → kx_St → Int32 → (kx_St → Int32 → Prop) → Prop
  | 0, _, _, _ => False
  | n + 1, σ, x2, Q => ((σ.1 0 3) ≤ x2 → ∃ m182, p7_parish_L182 m182 σ (1 : Int32) Q) ∧ (¬ (σ.1 0 3) ≤ x2 → vp_in ((4 : Int32) * x2) 24 ∧ (vp_in x2 6 ∧ ((fun σ4 : kx_St => vp_in (((4 : Int32) * x2) + (1 : Int32)) 24 ∧ (vp_in x2 6 ∧ ((fun σ7 : kx_St => vp_in (((4 : Int32) * x2) + (2 : Int32)) 24 ∧ (vp_in x2 6 ∧ ((fun σ10 : kx_St => vp_in (((4 : Int32) * x2) + (3 : Int32)) 24 ∧ (vp_in ((4 : Int32) + x2) 2480 ∧ ((fun σ13 : kx_St => p7_parish_L102 n σ13 (x2 + (1 : Int32)) Q) (kx_sI σ10 1 ((4 : Int32) + x2).toNatClampNeg (σ10.1 12 (((4 : Int32) * x2) + (3 : Int32)).toNatClampNeg))))) (kx_sI σ7 5 x2.toNatClampNeg (σ7.1 12 (((4 : Int32) * x2) + (2 : Int32)).toNatClampNeg))))) (kx_sI σ4 4 x2.toNatClampNeg (σ4.1 12 (((4 : Int32) * x2) + (1 : Int32)).toNatClampNeg))))) (kx_sI σ 3 x2.toNatClampNeg (σ.1 12 ((4 : Int32) * x2).toNatClampNeg)))))
set_option maxHeartbeats 4000000 in
theorem w7_parish_L102  {Q : kx_St → Int32 → Prop} (cx : kx_Cx p s m args meth c D cy RX7 cX7_parish 3 (some .int))  : ∀ (n : Nat) (σ : kx_St) (x2 : Int32) (H : Heap) (locs : List Loc) (ls : Array Slot), p7_parish_L102 n σ x2 Q → va_P D vwCl (kx_ws cy 1 ad σ) H → va_D A (kx_ws cy 1 ad σ) → va_S A s.heap H locs → lv_has ls 3 [(0, .ref (ad 0)), (2, .int x2)] → W p l e rm7_parish s m args below meth c H locs 0 0 (MQ below (kx_Qc kx_ci Q (kx_Wd D cy 1 ad A) A) args s 0 0 A) (F0 m 102 ls []) := by
  obtain ⟨hx, hb, hr, hlocks, hml, hown, hts, hK⟩ := id cx
  intro n
  induction n with
  | zero => intro _ _ _ _ _ h; exact False.elim h
  | succ n ih =>
    intro σ x2 H locs ls h hP hD hS hl
    refine lv_iload_n (pc := 102) hx hb dX7_parish_102 rfl (lv_at hl 1 rfl) ?_
    refine lv_aload_n (pc := 103) hx hb dX7_parish_103 rfl (lv_at hl 0 rfl) ?_
    refine fg7_150 (pc := 104) hx hb hown hts hK hP rfl dX7_parish_104 ?_
    refine lv_icmp_ge (pc := 107) (tgt := 180) hx hb dX7_parish_107 (by decide) (fun c1 => ?_) (fun c1 => ?_)
    · have h := h.1 c1
      refine lv_iconst (pc := 180) (v := (1 : Int32)) hx hb dX7_parish_180 (by decide) ?_
      refine lv_istore_n (pc := 181) (lv' := [(2, .int (1 : Int32)), (0, .ref (ad 0))]) hx hb dX7_parish_181 rfl hl (by decide) rfl (fun ls hl => ?_)
      obtain ⟨n0, h⟩ := h
      exact w7_parish_L182 cx  n0 _ _ _ _ _ h hP hD hS (lv_sub hl [1, 0] rfl)
    · have h := h.2 c1
      refine lv_aload_n (pc := 110) hx hb dX7_parish_110 rfl (lv_at hl 0 rfl) ?_
      refine fg7_16 (pc := 111) (b := 3) hx hb hown hts hK hP rfl rfl dX7_parish_111 ?_
      refine lv_iload_n (pc := 114) hx hb dX7_parish_114 rfl (lv_at hl 1 rfl) ?_
      refine lv_aload_n (pc := 115) hx hb dX7_parish_115 rfl (lv_at hl 0 rfl) ?_
      refine fg7_47 (pc := 116) (b := 12) hx hb hown hts hK hP rfl rfl dX7_parish_116 ?_
      refine lv_iconst (pc := 119) (v := (4 : Int32)) hx hb dX7_parish_119 (by decide) ?_
      refine lv_iload_n (pc := 120) hx hb dX7_parish_120 rfl (lv_at hl 1 rfl) ?_
      refine lv_imul (pc := 121) hx hb dX7_parish_121 ?_
      obtain ⟨g2, h⟩ := h
      refine kx_iald (pc := 122) hx hb hK hP rfl g2 dX7_parish_122 ?_
      obtain ⟨g3, h⟩ := h
      refine kx_iast (pc := 123) hx hb hK hP hD hS rfl g3 dX7_parish_123 (fun H locs hP hD hS => ?_)
      refine lv_aload_n (pc := 124) hx hb dX7_parish_124 rfl (lv_at hl 0 rfl) ?_
      refine fg7_19 (pc := 125) (b := 4) hx hb hown hts hK hP rfl rfl dX7_parish_125 ?_
      refine lv_iload_n (pc := 128) hx hb dX7_parish_128 rfl (lv_at hl 1 rfl) ?_
      refine lv_aload_n (pc := 129) hx hb dX7_parish_129 rfl (lv_at hl 0 rfl) ?_
      refine fg7_47 (pc := 130) (b := 12) hx hb hown hts hK hP rfl rfl dX7_parish_130 ?_
      refine lv_iconst (pc := 133) (v := (4 : Int32)) hx hb dX7_parish_133 (by decide) ?_
      refine lv_iload_n (pc := 134) hx hb dX7_parish_134 rfl (lv_at hl 1 rfl) ?_
      refine lv_imul (pc := 135) hx hb dX7_parish_135 ?_
      refine lv_iconst (pc := 136) (v := (1 : Int32)) hx hb dX7_parish_136 (by decide) ?_
      refine lv_iadd (pc := 137) hx hb dX7_parish_137 ?_
      obtain ⟨g5, h⟩ := h
      refine kx_iald (pc := 138) hx hb hK hP rfl g5 dX7_parish_138 ?_
      obtain ⟨g6, h⟩ := h
      refine kx_iast (pc := 139) hx hb hK hP hD hS rfl g6 dX7_parish_139 (fun H locs hP hD hS => ?_)
      refine lv_aload_n (pc := 140) hx hb dX7_parish_140 rfl (lv_at hl 0 rfl) ?_
      refine fg7_22 (pc := 141) (b := 5) hx hb hown hts hK hP rfl rfl dX7_parish_141 ?_
      refine lv_iload_n (pc := 144) hx hb dX7_parish_144 rfl (lv_at hl 1 rfl) ?_
      refine lv_aload_n (pc := 145) hx hb dX7_parish_145 rfl (lv_at hl 0 rfl) ?_
      refine fg7_47 (pc := 146) (b := 12) hx hb hown hts hK hP rfl rfl dX7_parish_146 ?_
      refine lv_iconst (pc := 149) (v := (4 : Int32)) hx hb dX7_parish_149 (by decide) ?_
      refine lv_iload_n (pc := 150) hx hb dX7_parish_150 rfl (lv_at hl 1 rfl) ?_
      refine lv_imul (pc := 151) hx hb dX7_parish_151 ?_
      refine lv_iconst (pc := 152) (v := (2 : Int32)) hx hb dX7_parish_152 (by decide) ?_
      refine lv_iadd (pc := 153) hx hb dX7_parish_153 ?_
      obtain ⟨g8, h⟩ := h
      refine kx_iald (pc := 154) hx hb hK hP rfl g8 dX7_parish_154 ?_
      obtain ⟨g9, h⟩ := h
      refine kx_iast (pc := 155) hx hb hK hP hD hS rfl g9 dX7_parish_155 (fun H locs hP hD hS => ?_)
      refine lv_aload_n (pc := 156) hx hb dX7_parish_156 rfl (lv_at hl 0 rfl) ?_
      refine fg7_7 (pc := 157) (b := 1) hx hb hown hts hK hP rfl rfl dX7_parish_157 ?_
      refine lv_iconst (pc := 160) (v := (4 : Int32)) hx hb dX7_parish_160 (by decide) ?_
      refine lv_iload_n (pc := 161) hx hb dX7_parish_161 rfl (lv_at hl 1 rfl) ?_
      refine lv_iadd (pc := 162) hx hb dX7_parish_162 ?_
      refine lv_aload_n (pc := 163) hx hb dX7_parish_163 rfl (lv_at hl 0 rfl) ?_
      refine fg7_47 (pc := 164) (b := 12) hx hb hown hts hK hP rfl rfl dX7_parish_164 ?_
      refine lv_iconst (pc := 167) (v := (4 : Int32)) hx hb dX7_parish_167 (by decide) ?_
      refine lv_iload_n (pc := 168) hx hb dX7_parish_168 rfl (lv_at hl 1 rfl) ?_
      refine lv_imul (pc := 169) hx hb dX7_parish_169 ?_
      refine lv_iconst (pc := 170) (v := (3 : Int32)) hx hb dX7_parish_170 (by decide) ?_
      refine lv_iadd (pc := 171) hx hb dX7_parish_171 ?_
      obtain ⟨g11, h⟩ := h
      refine kx_iald (pc := 172) hx hb hK hP rfl g11 dX7_parish_172 ?_
      obtain ⟨g12, h⟩ := h
      refine kx_iast (pc := 173) hx hb hK hP hD hS rfl g12 dX7_parish_173 (fun H locs hP hD hS => ?_)
      refine lv_iinc (pc := 174) (v := (x2 + (1 : Int32))) (lv' := [(2, .int (x2 + (1 : Int32))), (0, .ref (ad 0))]) hx hb dX7_parish_174 hl (k := 1) rfl rfl (by decide) rfl (fun ls hl => ?_)
      refine lv_goto (pc := 177) (tgt := 102) hx hb dX7_parish_177 (by decide) ?_
      exact ih _ _ _ _ _ h hP hD hS (lv_sub hl [1, 0] rfl)
def p7_parish_L61 : Nat → kx_St → Int32 → (kx_St → Int32 → Prop) → Prop
  | 0, _, _, _ => False
  | n + 1, σ, x2, Q => ((4 : Int32) ≤ x2 → (fun σ2 : kx_St => (fun σ3 : kx_St => ∃ m102, p7_parish_L102 m102 σ3 (0 : Int32) Q) (kx_sI σ2 0 3 (σ2.1 0 22))) (kx_sI σ 0 2 (σ.1 0 20))) ∧ (¬ (4 : Int32) ≤ x2 → vp_in x2 4 ∧ (vp_in x2 4 ∧ ((fun σ6 : kx_St => p7_parish_L61 n σ6 (x2 + (1 : Int32)) Q) (kx_sI σ 2 x2.toNatClampNeg (σ.1 11 x2.toNatClampNeg)))))
set_option maxHeartbeats 4000000 in
theorem w7_parish_L61  {Q : kx_St → Int32 → Prop} (cx : kx_Cx p s m args meth c D cy RX7 cX7_parish 3 (some .int))  : ∀ (n : Nat) (σ : kx_St) (x2 : Int32) (H : Heap) (locs : List Loc) (ls : Array Slot), p7_parish_L61 n σ x2 Q → va_P D vwCl (kx_ws cy 1 ad σ) H → va_D A (kx_ws cy 1 ad σ) → va_S A s.heap H locs → lv_has ls 3 [(0, .ref (ad 0)), (2, .int x2)] → W p l e rm7_parish s m args below meth c H locs 0 0 (MQ below (kx_Qc kx_ci Q (kx_Wd D cy 1 ad A) A) args s 0 0 A) (F0 m 61 ls []) := by
  obtain ⟨hx, hb, hr, hlocks, hml, hown, hts, hK⟩ := id cx
  intro n
  induction n with
  | zero => intro _ _ _ _ _ h; exact False.elim h
  | succ n ih =>
    intro σ x2 H locs ls h hP hD hS hl
    refine lv_iload_n (pc := 61) hx hb dX7_parish_61 rfl (lv_at hl 1 rfl) ?_
    refine lv_iconst (pc := 62) (v := (4 : Int32)) hx hb dX7_parish_62 (by decide) ?_
    refine lv_icmp_ge (pc := 63) (tgt := 84) hx hb dX7_parish_63 (by decide) (fun c1 => ?_) (fun c1 => ?_)
    · have h := h.1 c1
      refine lv_aload_n (pc := 84) hx hb dX7_parish_84 rfl (lv_at hl 0 rfl) ?_
      refine lv_aload_n (pc := 85) hx hb dX7_parish_85 rfl (lv_at hl 0 rfl) ?_
      refine fg7_128 (pc := 86) hx hb hown hts hK hP rfl dX7_parish_86 ?_
      refine fp7_147 (pc := 89) hx hb hown hts hK hP hD hS rfl dX7_parish_89 (fun H locs hP hD hS => ?_)
      refine lv_aload_n (pc := 92) hx hb dX7_parish_92 rfl (lv_at hl 0 rfl) ?_
      refine lv_aload_n (pc := 93) hx hb dX7_parish_93 rfl (lv_at hl 0 rfl) ?_
      refine fg7_131 (pc := 94) hx hb hown hts hK hP rfl dX7_parish_94 ?_
      refine fp7_150 (pc := 97) hx hb hown hts hK hP hD hS rfl dX7_parish_97 (fun H locs hP hD hS => ?_)
      refine lv_iconst (pc := 100) (v := (0 : Int32)) hx hb dX7_parish_100 (by decide) ?_
      refine lv_istore_n (pc := 101) (lv' := [(2, .int (0 : Int32)), (0, .ref (ad 0))]) hx hb dX7_parish_101 rfl hl (by decide) rfl (fun ls hl => ?_)
      obtain ⟨n0, h⟩ := h
      exact w7_parish_L102 cx  n0 _ _ _ _ _ h hP hD hS (lv_sub hl [1, 0] rfl)
    · have h := h.2 c1
      refine lv_aload_n (pc := 66) hx hb dX7_parish_66 rfl (lv_at hl 0 rfl) ?_
      refine fg7_13 (pc := 67) (b := 2) hx hb hown hts hK hP rfl rfl dX7_parish_67 ?_
      refine lv_iload_n (pc := 70) hx hb dX7_parish_70 rfl (lv_at hl 1 rfl) ?_
      refine lv_aload_n (pc := 71) hx hb dX7_parish_71 rfl (lv_at hl 0 rfl) ?_
      refine fg7_44 (pc := 72) (b := 11) hx hb hown hts hK hP rfl rfl dX7_parish_72 ?_
      refine lv_iload_n (pc := 75) hx hb dX7_parish_75 rfl (lv_at hl 1 rfl) ?_
      obtain ⟨g4, h⟩ := h
      refine kx_iald (pc := 76) hx hb hK hP rfl g4 dX7_parish_76 ?_
      obtain ⟨g5, h⟩ := h
      refine kx_iast (pc := 77) hx hb hK hP hD hS rfl g5 dX7_parish_77 (fun H locs hP hD hS => ?_)
      refine lv_iinc (pc := 78) (v := (x2 + (1 : Int32))) (lv' := [(2, .int (x2 + (1 : Int32))), (0, .ref (ad 0))]) hx hb dX7_parish_78 hl (k := 1) rfl rfl (by decide) rfl (fun ls hl => ?_)
      refine lv_goto (pc := 81) (tgt := 61) hx hb dX7_parish_81 (by decide) ?_
      exact ih _ _ _ _ _ h hP hD hS (lv_sub hl [1, 0] rfl)
def p7_parish_L39 : Nat → kx_St → Int32 → (kx_St → Int32 → Prop) → Prop
  | 0, _, _, _ => False
  | n + 1, σ, x2, Q => ((616 : Int32) ≤ x2 → ∃ m61, p7_parish_L61 m61 σ (0 : Int32) Q) ∧ (¬ (616 : Int32) ≤ x2 → vp_in x2 2480 ∧ ((fun σ3 : kx_St => p7_parish_L39 n σ3 (x2 + (1 : Int32)) Q) (kx_sI σ 1 x2.toNatClampNeg (0 : Int32))))
set_option maxHeartbeats 4000000 in
theorem w7_parish_L39  {Q : kx_St → Int32 → Prop} (cx : kx_Cx p s m args meth c D cy RX7 cX7_parish 3 (some .int))  : ∀ (n : Nat) (σ : kx_St) (x2 : Int32) (H : Heap) (locs : List Loc) (ls : Array Slot), p7_parish_L39 n σ x2 Q → va_P D vwCl (kx_ws cy 1 ad σ) H → va_D A (kx_ws cy 1 ad σ) → va_S A s.heap H locs → lv_has ls 3 [(0, .ref (ad 0)), (2, .int x2)] → W p l e rm7_parish s m args below meth c H locs 0 0 (MQ below (kx_Qc kx_ci Q (kx_Wd D cy 1 ad A) A) args s 0 0 A) (F0 m 39 ls []) := by
  obtain ⟨hx, hb, hr, hlocks, hml, hown, hts, hK⟩ := id cx
  intro n
  induction n with
  | zero => intro _ _ _ _ _ h; exact False.elim h
  | succ n ih =>
    intro σ x2 H locs ls h hP hD hS hl
    refine lv_iload_n (pc := 39) hx hb dX7_parish_39 rfl (lv_at hl 1 rfl) ?_
    refine lv_sipush (pc := 40) (v := (616 : Int32)) hx hb dX7_parish_40 (by decide) ?_
    refine lv_icmp_ge (pc := 43) (tgt := 59) hx hb dX7_parish_43 (by decide) (fun c1 => ?_) (fun c1 => ?_)
    · have h := h.1 c1
      refine lv_iconst (pc := 59) (v := (0 : Int32)) hx hb dX7_parish_59 (by decide) ?_
      refine lv_istore_n (pc := 60) (lv' := [(2, .int (0 : Int32)), (0, .ref (ad 0))]) hx hb dX7_parish_60 rfl hl (by decide) rfl (fun ls hl => ?_)
      obtain ⟨n0, h⟩ := h
      exact w7_parish_L61 cx  n0 _ _ _ _ _ h hP hD hS (lv_sub hl [1, 0] rfl)
    · have h := h.2 c1
      refine lv_aload_n (pc := 46) hx hb dX7_parish_46 rfl (lv_at hl 0 rfl) ?_
      refine fg7_7 (pc := 47) (b := 1) hx hb hown hts hK hP rfl rfl dX7_parish_47 ?_
      refine lv_iload_n (pc := 50) hx hb dX7_parish_50 rfl (lv_at hl 1 rfl) ?_
      refine lv_iconst (pc := 51) (v := (0 : Int32)) hx hb dX7_parish_51 (by decide) ?_
      obtain ⟨g2, h⟩ := h
      refine kx_iast (pc := 52) hx hb hK hP hD hS rfl g2 dX7_parish_52 (fun H locs hP hD hS => ?_)
      refine lv_iinc (pc := 53) (v := (x2 + (1 : Int32))) (lv' := [(2, .int (x2 + (1 : Int32))), (0, .ref (ad 0))]) hx hb dX7_parish_53 hl (k := 1) rfl rfl (by decide) rfl (fun ls hl => ?_)
      refine lv_goto (pc := 56) (tgt := 39) hx hb dX7_parish_56 (by decide) ?_
      exact ih _ _ _ _ _ h hP hD hS (lv_sub hl [1, 0] rfl)
def p7_parish (σ : kx_St) (x1 : Int32) (Q : kx_St → Int32 → Prop) : Prop := p7_isText x1 (fun r1 => (¬ r1 = 0 → vp_in x1 4 ∧ ((0 ≤ (σ.1 8 x1.toNatClampNeg) → p7_faultOf σ x1 (fun σ6 r5 => (r5 = (-9 : Int32) → ∃ m39, p7_parish_L39 m39 σ6 (0 : Int32) Q) ∧ (¬ r5 = (-9 : Int32) → Q σ6 (-4 : Int32)))) ∧ (¬ 0 ≤ (σ.1 8 x1.toNatClampNeg) → p7_find σ (1 : Int32) (fun σ9 r8 => Q σ9 r8)))) ∧ (r1 = 0 → Q σ (-1 : Int32)))
set_option maxHeartbeats 4000000 in
theorem q7_parish {σ : kx_St} {x1 : Int32} {Q : kx_St → Int32 → Prop} (h : p7_parish σ x1 Q) : Met l yX7_parish (Cond.code yX7_parish cX7_parish 3 (some .int) :: kx_big) rm7_parish (va_Pc [.ref (ad 0), .int x1] (kx_Wd D cy 1 ad A σ)) (kx_Qc kx_ci Q (kx_Wd D cy 1 ad A) A) 0 0 A := by
  refine kx_head (plainFor_of_name (by decide)) (Nat.le_of_ble_eq_true rfl) ?_
  intro p e s m below meth c ls cx hP hD hS hl
  obtain ⟨hx, hb, hr, hlocks, hml, hown, hts, hK⟩ := id cx
  have hl : lv_has ls 3 [(0, .ref (ad 0)), (1, .int x1)] := hl
  refine lv_iload_n (pc := 0) hx hb dX7_parish_0 rfl (lv_at hl 1 rfl) ?_
  refine kx_iSi (pc := 1) [.int x1] hx hb hml hown hts hK hP hD hS (q7_isText h) (cw7_106 hts ⟨Nat.le_of_ble_eq_true rfl, Nat.le_of_ble_eq_true rfl⟩) rfl hl.1 rfl (Nat.le_of_ble_eq_true rfl) ⟨Nat.le_of_ble_eq_true rfl, Nat.le_of_ble_eq_true rfl⟩ dX7_parish_1 (fun r1 u_ H locs hP hD hS h => ?_)
  obtain ⟨hu_, h⟩ := h
  rw [hu_] at hP hD
  refine lv_if_ne (pc := 4) (tgt := 9) hx hb dX7_parish_4 (by decide) (fun c2 => ?_) (fun c2 => ?_)
  · have h := h.1 c2
    refine lv_aload_n (pc := 9) hx hb dX7_parish_9 rfl (lv_at hl 0 rfl) ?_
    refine fg7_31 (pc := 10) (b := 8) hx hb hown hts hK hP rfl rfl dX7_parish_10 ?_
    refine lv_iload_n (pc := 13) hx hb dX7_parish_13 rfl (lv_at hl 1 rfl) ?_
    obtain ⟨g3, h⟩ := h
    refine kx_iald (pc := 14) hx hb hK hP rfl g3 dX7_parish_14 ?_
    refine lv_if_ge (pc := 15) (tgt := 24) hx hb dX7_parish_15 (by decide) (fun c4 => ?_) (fun c4 => ?_)
    · have h := h.1 c4
      refine lv_aload_n (pc := 24) hx hb dX7_parish_24 rfl (lv_at hl 0 rfl) ?_
      refine lv_iload_n (pc := 25) hx hb dX7_parish_25 rfl (lv_at hl 1 rfl) ?_
      refine kx_iVi (pc := 26) [.int x1] hx hb hml hown hts hK hP hD hS (q7_faultOf h) (cw7_144 hts ⟨Nat.le_of_ble_eq_true rfl, Nat.le_of_ble_eq_true rfl⟩) rfl (by decide) rfl rfl hl.1 rfl (Nat.le_of_ble_eq_true rfl) ⟨Nat.le_of_ble_eq_true rfl, Nat.le_of_ble_eq_true rfl⟩ dX7_parish_26 (fun r5 σ6 H locs hP hD hS h => ?_)
      refine lv_bipush (pc := 29) (v := (-9 : Int32)) hx hb dX7_parish_29 (by decide) ?_
      refine lv_icmp_eq (pc := 31) (tgt := 37) hx hb dX7_parish_31 (by decide) (fun c7 => ?_) (fun c7 => ?_)
      · have h := h.1 c7
        refine lv_iconst (pc := 37) (v := (0 : Int32)) hx hb dX7_parish_37 (by decide) ?_
        refine lv_istore_n (pc := 38) (lv' := [(2, .int (0 : Int32)), (0, .ref (ad 0)), (1, .int x1)]) hx hb dX7_parish_38 rfl hl (by decide) rfl (fun ls hl => ?_)
        obtain ⟨n0, h⟩ := h
        exact w7_parish_L39 cx  n0 _ _ _ _ _ h hP hD hS (lv_sub hl [1, 0] rfl)
      · have h := h.2 c7
        refine lv_bipush (pc := 34) (v := (-4 : Int32)) hx hb dX7_parish_34 (by decide) ?_
        exact kx_iret (pc := 36) hx hb hr hlocks hK hP hD hS h dX7_parish_36
    · have h := h.2 c4
      refine lv_aload_n (pc := 18) hx hb dX7_parish_18 rfl (lv_at hl 0 rfl) ?_
      refine lv_iconst (pc := 19) (v := (1 : Int32)) hx hb dX7_parish_19 (by decide) ?_
      refine kx_iVi (pc := 20) [.int (1 : Int32)] hx hb hml hown hts hK hP hD hS (q7_find h) (cw7_87 hts ⟨Nat.le_of_ble_eq_true rfl, Nat.le_of_ble_eq_true rfl⟩) rfl (by decide) rfl rfl hl.1 rfl (Nat.le_of_ble_eq_true rfl) ⟨Nat.le_of_ble_eq_true rfl, Nat.le_of_ble_eq_true rfl⟩ dX7_parish_20 (fun r8 σ9 H locs hP hD hS h => ?_)
      exact kx_iret (pc := 23) hx hb hr hlocks hK hP hD hS h dX7_parish_23
  · have h := h.2 c2
    refine lv_iconst (pc := 7) (v := (-1 : Int32)) hx hb dX7_parish_7 (by decide) ?_
    exact kx_iret (pc := 8) hx hb hr hlocks hK hP hD hS h dX7_parish_8
end
