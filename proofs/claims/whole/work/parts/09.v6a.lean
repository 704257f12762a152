section
variable {p : Program} {l : Launch} {e : Env} {s : State} {m : MethodId} {args : Array Value} {below : List Frame} {meth : Method} {c : Code} {D : va_G} {cy : Nat → ClassId} {ad : Nat → Nat} {A : Nat → Prop}

def p6_pick (σ : kx_St) (x0 : Nat) (x1 : Int32) (Q : Option Nat → Prop) : Prop := kx_k 0 x0 = 11 ∧ ((x1 < 0 → Q none) ∧ (¬ x1 < 0 → ((Int32.ofNat (kx_l 0 x0)) ≤ x1 → Q none) ∧ (¬ (Int32.ofNat (kx_l 0 x0)) ≤ x1 → vp_in x1 (kx_l 0 x0) ∧ (Q (some (kx_r 0 x0 x1.toNatClampNeg))))))
set_option maxHeartbeats 4000000 in
theorem q6_pick {σ : kx_St} {x0 : Nat} {x1 : Int32} {Q : Option Nat → Prop} (h : p6_pick σ x0 x1 Q) : Met l yX6_pick (Cond.code yX6_pick cX6_pick 2 (some (.object "KiteTaxes$Row")) :: kx_big) rm6_pick (va_Pc [.ref (ad x0), .int x1] (kx_Wd D cy 0 ad A σ)) (kx_Qc (kx_cr ad) (fun u r => u = σ ∧ Q r) (kx_Wd D cy 0 ad A) A) 0 0 A := by
  refine kx_head (plainFor_of_name (by decide)) (Nat.le_of_ble_eq_true rfl) ?_
  intro p e s m below meth c ls cx hP hD hS hl
  obtain ⟨hx, hb, hr, hlocks, hml, hown, hts, hK⟩ := id cx
  obtain ⟨hk_x0, h⟩ := h
  have hl : lv_has ls 2 [(0, .ref (ad x0)), (1, .int x1)] := hl
  refine lv_iload_n (pc := 0) hx hb dX6_pick_0 rfl (lv_at hl 1 rfl) ?_
  refine lv_if_lt (pc := 1) (tgt := 16) hx hb dX6_pick_1 (by decide) (fun c1 => ?_) (fun c1 => ?_)
  · have h := h.1 c1
    refine lv_null (pc := 16) hx hb dX6_pick_16 ?_
    exact kx_aret (pc := 17) hx hb hr hlocks hK hP hD hS none rfl ⟨rfl, h⟩ dX6_pick_17
  · have h := h.2 c1
    refine lv_iload_n (pc := 4) hx hb dX6_pick_4 rfl (lv_at hl 1 rfl) ?_
    refine lv_aload_n (pc := 5) hx hb dX6_pick_5 rfl (lv_at hl 0 rfl) ?_
    refine kx_alen (pc := 6) hx hb hK hP hk_x0 (by decide) (by decide) dX6_pick_6 ?_
    refine lv_icmp_ge (pc := 7) (tgt := 16) hx hb dX6_pick_7 (by decide) (fun c2 => ?_) (fun c2 => ?_)
    · have h := h.1 c2
      refine lv_null (pc := 16) hx hb dX6_pick_16 ?_
      exact kx_aret (pc := 17) hx hb hr hlocks hK hP hD hS none rfl ⟨rfl, h⟩ dX6_pick_17
    · have h := h.2 c2
      refine lv_aload_n (pc := 10) hx hb dX6_pick_10 rfl (lv_at hl 0 rfl) ?_
      refine lv_iload_n (pc := 11) hx hb dX6_pick_11 rfl (lv_at hl 1 rfl) ?_
      obtain ⟨g3, h⟩ := h
      refine kx_aald (pc := 12) hx hb hK hP hk_x0 (by decide) (by decide) g3 dX6_pick_12 ?_
      refine lv_goto (pc := 13) (tgt := 17) hx hb dX6_pick_13 (by decide) ?_
      exact kx_aret (pc := 17) hx hb hr hlocks hK hP hD hS (some (kx_r 0 x0 x1.toNatClampNeg)) rfl ⟨rfl, h⟩ dX6_pick_17
def p6_found (σ : kx_St) (x1 : Int32) (Q : kx_St → Int32 → Prop) : Prop := (x1 < 0 → Q σ (-3 : Int32)) ∧ (¬ x1 < 0 → ((Int32.ofNat 6) ≤ x1 → Q σ (-3 : Int32)) ∧ (¬ (Int32.ofNat 6) ≤ x1 → (fun σ3 : kx_St => vp_in x1 6 ∧ (vp_in x1 6 ∧ ((fun σ6 : kx_St => Q σ6 (-3 : Int32)) (kx_sI σ3 28 x1.toNatClampNeg ((σ3.1 28 x1.toNatClampNeg) + (1 : Int32)))))) (kx_sI σ 0 9 x1)))
set_option maxHeartbeats 4000000 in
theorem q6_found {σ : kx_St} {x1 : Int32} {Q : kx_St → Int32 → Prop} (h : p6_found σ x1 Q) : Met l yX6_found (Cond.code yX6_found cX6_found 2 (some .int) :: kx_big) rm6_found (va_Pc [.ref (ad 0), .int x1] (kx_Wd D cy 0 ad A σ)) (kx_Qc kx_ci Q (kx_Wd D cy 0 ad A) A) 0 0 A := by
  refine kx_head (plainFor_of_name (by decide)) (Nat.le_of_ble_eq_true rfl) ?_
  intro p e s m below meth c ls cx hP hD hS hl
  obtain ⟨hx, hb, hr, hlocks, hml, hown, hts, hK⟩ := id cx
  have hl : lv_has ls 2 [(0, .ref (ad 0)), (1, .int x1)] := hl
  refine lv_iload_n (pc := 0) hx hb dX6_found_0 rfl (lv_at hl 1 rfl) ?_
  refine lv_if_lt (pc := 1) (tgt := 28) hx hb dX6_found_1 (by decide) (fun c1 => ?_) (fun c1 => ?_)
  · have h := h.1 c1
    refine lv_bipush (pc := 28) (v := (-3 : Int32)) hx hb dX6_found_28 (by decide) ?_
    exact kx_iret (pc := 30) hx hb hr hlocks hK hP hD hS h dX6_found_30
  · have h := h.2 c1
    refine lv_iload_n (pc := 4) hx hb dX6_found_4 rfl (lv_at hl 1 rfl) ?_
    refine lv_aload_n (pc := 5) hx hb dX6_found_5 rfl (lv_at hl 0 rfl) ?_
    refine fg6_53 (pc := 6) (b := 28) hx hb hown hts hK hP rfl rfl dX6_found_6 ?_
    refine kx_alen (pc := 9) hx hb hK hP rfl (by decide) (by decide) dX6_found_9 ?_
    refine lv_icmp_ge (pc := 10) (tgt := 28) hx hb dX6_found_10 (by decide) (fun c2 => ?_) (fun c2 => ?_)
    · have h := h.1 c2
      refine lv_bipush (pc := 28) (v := (-3 : Int32)) hx hb dX6_found_28 (by decide) ?_
      exact kx_iret (pc := 30) hx hb hr hlocks hK hP hD hS h dX6_found_30
    · have h := h.2 c2
      refine lv_aload_n (pc := 13) hx hb dX6_found_13 rfl (lv_at hl 0 rfl) ?_
      refine lv_iload_n (pc := 14) hx hb dX6_found_14 rfl (lv_at hl 1 rfl) ?_
      refine fp6_57 (pc := 15) hx hb hown hts hK hP hD hS rfl dX6_found_15 (fun H locs hP hD hS => ?_)
      refine lv_aload_n (pc := 18) hx hb dX6_found_18 rfl (lv_at hl 0 rfl) ?_
      refine fg6_53 (pc := 19) (b := 28) hx hb hown hts hK hP rfl rfl dX6_found_19 ?_
      refine lv_iload_n (pc := 22) hx hb dX6_found_22 rfl (lv_at hl 1 rfl) ?_
      refine lv_dup2_11 (pc := 23) hx hb dX6_found_23 rfl rfl ?_
      obtain ⟨g4, h⟩ := h
      refine kx_iald (pc := 24) hx hb hK hP rfl g4 dX6_found_24 ?_
      refine lv_iconst (pc := 25) (v := (1 : Int32)) hx hb dX6_found_25 (by decide) ?_
      refine lv_iadd (pc := 26) hx hb dX6_found_26 ?_
      obtain ⟨g5, h⟩ := h
      refine kx_iast (pc := 27) hx hb hK hP hD hS rfl g5 dX6_found_27 (fun H locs hP hD hS => ?_)
      refine lv_bipush (pc := 28) (v := (-3 : Int32)) hx hb dX6_found_28 (by decide) ?_
      exact kx_iret (pc := 30) hx hb hr hlocks hK hP hD hS h dX6_found_30
def p6_begin (σ : kx_St) (x1 : Option Nat) (x2 : Int32) (x3 : Int32) (Q : kx_St → Int32 → Prop) : Prop := (x1 = none → Q σ (-1 : Int32)) ∧ (∀ b1, x1 = some b1 → kx_k 0 b1 = 5 ∧ ((x2 ≤ (Int32.ofNat (kx_l 0 (kx_r 0 b1 0))) → (0 ≤ x2 → p5_begin σ b1 x2 x3 (fun σ4 => Q σ4 x2)) ∧ (¬ 0 ≤ x2 → p6_found σ (5 : Int32) (fun σ6 r5 => Q σ6 r5))) ∧ (¬ x2 ≤ (Int32.ofNat (kx_l 0 (kx_r 0 b1 0))) → Q σ (-1 : Int32))))
set_option maxHeartbeats 4000000 in
theorem q6_begin {σ : kx_St} {x1 : Option Nat} {x2 : Int32} {x3 : Int32} {Q : kx_St → Int32 → Prop} (h : p6_begin σ x1 x2 x3 Q) : Met l yX6_begin (Cond.code yX6_begin cX6_begin 4 (some .int) :: kx_big) rm6_begin (va_Pc [.ref (ad 0), kx_rf ad x1, .int x2, .int x3] (kx_Wd D cy 0 ad A σ)) (kx_Qc kx_ci Q (kx_Wd D cy 0 ad A) A) 0 0 A := by
  refine kx_head (plainFor_of_name (by decide)) (by cases x1 <;> exact Nat.le_of_ble_eq_true rfl) ?_
  intro p e s m below meth c ls cx hP hD hS hl
  obtain ⟨hx, hb, hr, hlocks, hml, hown, hts, hK⟩ := id cx
  rcases x1 with _ | b1
  · have h := h.1 rfl
    have hl : lv_has ls 4 [(0, .ref (ad 0)), (1, .null), (2, .int x2), (3, .int x3)] := hl
    refine lv_aload_nN (pc := 0) hx hb dX6_begin_0 rfl (lv_at hl 1 rfl) ?_
    refine lv_ifnullN (pc := 1) (tgt := 13) hx hb dX6_begin_1 (by decide) ?_
    refine lv_iconst (pc := 13) (v := (-1 : Int32)) hx hb dX6_begin_13 (by decide) ?_
    exact kx_iret (pc := 14) hx hb hr hlocks hK hP hD hS h dX6_begin_14
  · obtain ⟨hk_b1, h⟩ := h.2 b1 rfl
    have hl : lv_has ls 4 [(0, .ref (ad 0)), (1, .ref (ad b1)), (2, .int x2), (3, .int x3)] := hl
    refine lv_aload_n (pc := 0) hx hb dX6_begin_0 rfl (lv_at hl 1 rfl) ?_
    refine lv_ifnull (pc := 1) hx hb dX6_begin_1 ?_
    refine lv_iload_n (pc := 4) hx hb dX6_begin_4 rfl (lv_at hl 2 rfl) ?_
    refine lv_aload_n (pc := 5) hx hb dX6_begin_5 rfl (lv_at hl 1 rfl) ?_
    refine fg6_108 (pc := 6) hx hb hown hts hK hP hk_b1 rfl dX6_begin_6 ?_
    refine kx_alen (pc := 9) hx hb hK hP (ky_5_0 hk_b1) (by decide) (by decide) dX6_begin_9 ?_
    refine lv_icmp_le (pc := 10) (tgt := 15) hx hb dX6_begin_10 (by decide) (fun c1 => ?_) (fun c1 => ?_)
    · have h := h.1 c1
      refine lv_iload_n (pc := 15) hx hb dX6_begin_15 rfl (lv_at hl 2 rfl) ?_
      refine lv_if_ge (pc := 16) (tgt := 25) hx hb dX6_begin_16 (by decide) (fun c2 => ?_) (fun c2 => ?_)
      · have h := h.1 c2
        refine lv_aload_n (pc := 25) hx hb dX6_begin_25 rfl (lv_at hl 1 rfl) ?_
        refine lv_iload_n (pc := 26) hx hb dX6_begin_26 rfl (lv_at hl 2 rfl) ?_
        refine lv_iload_n (pc := 27) hx hb dX6_begin_27 rfl (lv_at hl 3 rfl) ?_
        refine kx_iVv (pc := 28) [.int x2, .int x3] hx hb hml hown hts hK hP hD hS (q5_begin h) (cw6_311 hts ⟨Nat.le_of_ble_eq_true rfl, Nat.le_of_ble_eq_true rfl⟩) hk_b1 (by decide) rfl rfl hl.1 rfl (Nat.le_of_ble_eq_true rfl) ⟨Nat.le_of_ble_eq_true rfl, Nat.le_of_ble_eq_true rfl⟩ dX6_begin_28 (fun _ σ4 H locs hP hD hS h => ?_)
        refine lv_iload_n (pc := 31) hx hb dX6_begin_31 rfl (lv_at hl 2 rfl) ?_
        exact kx_iret (pc := 32) hx hb hr hlocks hK hP hD hS h dX6_begin_32
      · have h := h.2 c2
        refine lv_aload_n (pc := 19) hx hb dX6_begin_19 rfl (lv_at hl 0 rfl) ?_
        refine lv_iconst (pc := 20) (v := (5 : Int32)) hx hb dX6_begin_20 (by decide) ?_
        refine kx_iVi (pc := 21) [.int (5 : Int32)] hx hb hml hown hts hK hP hD hS (q6_found h) (cw6_86 hts ⟨Nat.le_of_ble_eq_true rfl, Nat.le_of_ble_eq_true rfl⟩) rfl (by decide) rfl rfl hl.1 rfl (Nat.le_of_ble_eq_true rfl) ⟨Nat.le_of_ble_eq_true rfl, Nat.le_of_ble_eq_true rfl⟩ dX6_begin_21 (fun r5 σ6 H locs hP hD hS h => ?_)
        exact kx_iret (pc := 24) hx hb hr hlocks hK hP hD hS h dX6_begin_24
    · have h := h.2 c1
      refine lv_iconst (pc := 13) (v := (-1 : Int32)) hx hb dX6_begin_13 (by decide) ?_
      exact kx_iret (pc := 14) hx hb hr hlocks hK hP hD hS h dX6_begin_14
def p6_row (σ : kx_St) (x1 : Int32) (x2 : Int32) (Q : kx_St → Int32 → Prop) : Prop := p6_pick σ 1 x1 (fun o1 => (o1 = none → p6_begin σ none x2 (0 : Int32) (fun σ4 r3 => Q σ4 r3)) ∧ (∀ b2, o1 = some b2 → kx_k 0 b2 = 5 ∧ (p6_begin σ (some b2) x2 (0 : Int32) (fun σ6 r5 => Q σ6 r5))))
set_option maxHeartbeats 4000000 in
theorem q6_row {σ : kx_St} {x1 : Int32} {x2 : Int32} {Q : kx_St → Int32 → Prop} (h : p6_row σ x1 x2 Q) : Met l yX6_row (Cond.code yX6_row cX6_row 3 (some .int) :: kx_big) rm6_row (va_Pc [.ref (ad 0), .int x1, .int x2] (kx_Wd D cy 0 ad A σ)) (kx_Qc kx_ci Q (kx_Wd D cy 0 ad A) A) 0 0 A := by
  refine kx_head (plainFor_of_name (by decide)) (Nat.le_of_ble_eq_true rfl) ?_
  intro p e s m below meth c ls cx hP hD hS hl
  obtain ⟨hx, hb, hr, hlocks, hml, hown, hts, hK⟩ := id cx
  have hl : lv_has ls 3 [(0, .ref (ad 0)), (1, .int x1), (2, .int x2)] := hl
  refine lv_aload_n (pc := 0) hx hb dX6_row_0 rfl (lv_at hl 0 rfl) ?_
  refine lv_aload_n (pc := 1) hx hb dX6_row_1 rfl (lv_at hl 0 rfl) ?_
  refine fg6_11 (pc := 2) (b := 1) hx hb hown hts hK hP rfl rfl dX6_row_2 ?_
  refine lv_iload_n (pc := 5) hx hb dX6_row_5 rfl (lv_at hl 1 rfl) ?_
  refine kx_iSr (pc := 6) [.ref (ad 1), .int x1] hx hb hml hown hts hK hP hD hS (q6_pick h) (cw6_74 hts ⟨Nat.le_of_ble_eq_true rfl, Nat.le_of_ble_eq_true rfl⟩) rfl hl.1 rfl (Nat.le_of_ble_eq_true rfl) ⟨Nat.le_of_ble_eq_true rfl, Nat.le_of_ble_eq_true rfl⟩ dX6_row_6 (fun o1 u_ H locs hP hD hS h => ?_)
  obtain ⟨hu_, h⟩ := h
  rw [hu_] at hP hD
  rcases o1 with _ | b2
  · have h := h.1 rfl
    refine lv_iload_n (pc := 9) hx hb dX6_row_9 rfl (lv_at hl 2 rfl) ?_
    refine lv_iconst (pc := 10) (v := (0 : Int32)) hx hb dX6_row_10 (by decide) ?_
    refine kx_iVi (pc := 11) [.null, .int x2, .int (0 : Int32)] hx hb hml hown hts hK hP hD hS (q6_begin h) (cw6_78 hts ⟨Nat.le_of_ble_eq_true rfl, Nat.le_of_ble_eq_true rfl⟩) rfl (by decide) rfl rfl hl.1 rfl (Nat.le_of_ble_eq_true rfl) ⟨Nat.le_of_ble_eq_true rfl, Nat.le_of_ble_eq_true rfl⟩ dX6_row_11 (fun r3 σ4 H locs hP hD hS h => ?_)
    exact kx_iret (pc := 14) hx hb hr hlocks hK hP hD hS h dX6_row_14
  · obtain ⟨hk_b2, h⟩ := h.2 b2 rfl
    refine lv_iload_n (pc := 9) hx hb dX6_row_9 rfl (lv_at hl 2 rfl) ?_
    refine lv_iconst (pc := 10) (v := (0 : Int32)) hx hb dX6_row_10 (by decide) ?_
    refine kx_iVi (pc := 11) [.ref (ad b2), .int x2, .int (0 : Int32)] hx hb hml hown hts hK hP hD hS (q6_begin h) (cw6_78 hts ⟨Nat.le_of_ble_eq_true rfl, Nat.le_of_ble_eq_true rfl⟩) rfl (by decide) rfl rfl hl.1 rfl (Nat.le_of_ble_eq_true rfl) ⟨Nat.le_of_ble_eq_true rfl, Nat.le_of_ble_eq_true rfl⟩ dX6_row_11 (fun r5 σ6 H locs hP hD hS h => ?_)
    exact kx_iret (pc := 14) hx hb hr hlocks hK hP hD hS h dX6_row_14
def p6_lay (σ : kx_St) (x1 : Int32) (x2 : Int32) (x3 : Int32) (Q : kx_St → Int32 → Prop) : Prop := p6_pick σ 1 x1 (fun o1 => (o1 = none → Q σ (-1 : Int32)) ∧ (∀ b2, o1 = some b2 → kx_k 0 b2 = 5 ∧ (p5_isThere σ b2 (fun r3 => (¬ r3 = 0 → p5_holds σ b2 x2 (fun r5 => (¬ r5 = 0 → p5_get σ b2 x2 (fun r7 => (fun σ8 : kx_St => p5_set σ8 b2 x2 x3 (fun σ10 => Q σ10 (1 : Int32))) (kx_sI σ 0 10 r7))) ∧ (r5 = 0 → p6_found σ (2 : Int32) (fun σ12 r11 => Q σ12 r11)))) ∧ (r3 = 0 → p6_found σ (1 : Int32) (fun σ14 r13 => Q σ14 r13))))))
set_option maxHeartbeats 4000000 in
theorem q6_lay {σ : kx_St} {x1 : Int32} {x2 : Int32} {x3 : Int32} {Q : kx_St → Int32 → Prop} (h : p6_lay σ x1 x2 x3 Q) : Met l yX6_lay (Cond.code yX6_lay cX6_lay 5 (some .int) :: kx_big) rm6_lay (va_Pc [.ref (ad 0), .int x1, .int x2, .int x3] (kx_Wd D cy 0 ad A σ)) (kx_Qc kx_ci Q (kx_Wd D cy 0 ad A) A) 0 0 A := by
  refine kx_head (plainFor_of_name (by decide)) (Nat.le_of_ble_eq_true rfl) ?_
  intro p e s m below meth c ls cx hP hD hS hl
  obtain ⟨hx, hb, hr, hlocks, hml, hown, hts, hK⟩ := id cx
  have hl : lv_has ls 5 [(0, .ref (ad 0)), (1, .int x1), (2, .int x2), (3, .int x3)] := hl
  refine lv_aload_n (pc := 0) hx hb dX6_lay_0 rfl (lv_at hl 0 rfl) ?_
  refine fg6_11 (pc := 1) (b := 1) hx hb hown hts hK hP rfl rfl dX6_lay_1 ?_
  refine lv_iload_n (pc := 4) hx hb dX6_lay_4 rfl (lv_at hl 1 rfl) ?_
  refine kx_iSr (pc := 5) [.ref (ad 1), .int x1] hx hb hml hown hts hK hP hD hS (q6_pick h) (cw6_74 hts ⟨Nat.le_of_ble_eq_true rfl, Nat.le_of_ble_eq_true rfl⟩) rfl hl.1 rfl (Nat.le_of_ble_eq_true rfl) ⟨Nat.le_of_ble_eq_true rfl, Nat.le_of_ble_eq_true rfl⟩ dX6_lay_5 (fun o1 u_ H locs hP hD hS h => ?_)
  obtain ⟨hu_, h⟩ := h
  rw [hu_] at hP hD
  rcases o1 with _ | b2
  · have h := h.1 rfl
    refine lv_astoreN (pc := 8) (lv' := [(4, .null), (0, .ref (ad 0)), (1, .int x1), (2, .int x2), (3, .int x3)]) hx hb dX6_lay_8 hl (by decide) rfl (fun ls hl => ?_)
    refine lv_aloadN (pc := 10) hx hb dX6_lay_10 (lv_at hl 0 rfl) ?_
    refine lv_ifnonnullN (pc := 12) hx hb dX6_lay_12 ?_
    refine lv_iconst (pc := 15) (v := (-1 : Int32)) hx hb dX6_lay_15 (by decide) ?_
    exact kx_iret (pc := 16) hx hb hr hlocks hK hP hD hS h dX6_lay_16
  · obtain ⟨hk_b2, h⟩ := h.2 b2 rfl
    refine lv_astore (pc := 8) (lv' := [(4, .ref (ad b2)), (0, .ref (ad 0)), (1, .int x1), (2, .int x2), (3, .int x3)]) hx hb dX6_lay_8 hl (by decide) rfl (fun ls hl => ?_)
    refine lv_aload (pc := 10) hx hb dX6_lay_10 (lv_at hl 0 rfl) ?_
    refine lv_ifnonnull (pc := 12) (tgt := 17) hx hb dX6_lay_12 (by decide) ?_
    refine lv_aload (pc := 17) hx hb dX6_lay_17 (lv_at hl 0 rfl) ?_
    refine kx_iVi (pc := 19) [] hx hb hml hown hts hK hP hD hS (q5_isThere h) (cw6_82 hts ⟨Nat.le_of_ble_eq_true rfl, Nat.le_of_ble_eq_true rfl⟩) hk_b2 (by decide) rfl rfl hl.1 rfl (Nat.le_of_ble_eq_true rfl) ⟨Nat.le_of_ble_eq_true rfl, Nat.le_of_ble_eq_true rfl⟩ dX6_lay_19 (fun r3 u_ H locs hP hD hS h => ?_)
    obtain ⟨hu_, h⟩ := h
    rw [hu_] at hP hD
    refine lv_if_ne (pc := 22) (tgt := 31) hx hb dX6_lay_22 (by decide) (fun c4 => ?_) (fun c4 => ?_)
    · have h := h.1 c4
      refine lv_aload (pc := 31) hx hb dX6_lay_31 (lv_at hl 0 rfl) ?_
      refine lv_iload_n (pc := 33) hx hb dX6_lay_33 rfl (lv_at hl 3 rfl) ?_
      refine kx_iVi (pc := 34) [.int x2] hx hb hml hown hts hK hP hD hS (q5_holds h) (cw6_90 hts ⟨Nat.le_of_ble_eq_true rfl, Nat.le_of_ble_eq_true rfl⟩) hk_b2 (by decide) rfl rfl hl.1 rfl (Nat.le_of_ble_eq_true rfl) ⟨Nat.le_of_ble_eq_true rfl, Nat.le_of_ble_eq_true rfl⟩ dX6_lay_34 (fun r5 u_ H locs hP hD hS h => ?_)
      obtain ⟨hu_, h⟩ := h
      rw [hu_] at hP hD
      refine lv_if_ne (pc := 37) (tgt := 46) hx hb dX6_lay_37 (by decide) (fun c6 => ?_) (fun c6 => ?_)
      · have h := h.1 c6
        refine lv_aload_n (pc := 46) hx hb dX6_lay_46 rfl (lv_at hl 1 rfl) ?_
        refine lv_aload (pc := 47) hx hb dX6_lay_47 (lv_at hl 0 rfl) ?_
        refine lv_iload_n (pc := 49) hx hb dX6_lay_49 rfl (lv_at hl 3 rfl) ?_
        refine kx_iVi (pc := 50) [.int x2] hx hb hml hown hts hK hP hD hS (q5_get h) (cw6_94 hts ⟨Nat.le_of_ble_eq_true rfl, Nat.le_of_ble_eq_true rfl⟩) hk_b2 (by decide) rfl rfl hl.1 rfl (Nat.le_of_ble_eq_true rfl) ⟨Nat.le_of_ble_eq_true rfl, Nat.le_of_ble_eq_true rfl⟩ dX6_lay_50 (fun r7 u_ H locs hP hD hS h => ?_)
        obtain ⟨hu_, h⟩ := h
        rw [hu_] at hP hD
        refine fp6_61 (pc := 53) hx hb hown hts hK hP hD hS rfl dX6_lay_53 (fun H locs hP hD hS => ?_)
        refine lv_aload (pc := 56) hx hb dX6_lay_56 (lv_at hl 0 rfl) ?_
        refine lv_iload_n (pc := 58) hx hb dX6_lay_58 rfl (lv_at hl 3 rfl) ?_
        refine lv_iload_n (pc := 59) hx hb dX6_lay_59 rfl (lv_at hl 4 rfl) ?_
        refine kx_iVv (pc := 60) [.int x2, .int x3] hx hb hml hown hts hK hP hD hS (q5_set h) (cw6_97 hts ⟨Nat.le_of_ble_eq_true rfl, Nat.le_of_ble_eq_true rfl⟩) hk_b2 (by decide) rfl rfl hl.1 rfl (Nat.le_of_ble_eq_true rfl) ⟨Nat.le_of_ble_eq_true rfl, Nat.le_of_ble_eq_true rfl⟩ dX6_lay_60 (fun _ σ10 H locs hP hD hS h => ?_)
        refine lv_iconst (pc := 63) (v := (1 : Int32)) hx hb dX6_lay_63 (by decide) ?_
        exact kx_iret (pc := 64) hx hb hr hlocks hK hP hD hS h dX6_lay_64
      · have h := h.2 c6
        refine lv_aload_n (pc := 40) hx hb dX6_lay_40 rfl (lv_at hl 1 rfl) ?_
        refine lv_iconst (pc := 41) (v := (2 : Int32)) hx hb dX6_lay_41 (by decide) ?_
        refine kx_iVi (pc := 42) [.int (2 : Int32)] hx hb hml hown hts hK hP hD hS (q6_found h) (cw6_86 hts ⟨Nat.le_of_ble_eq_true rfl, Nat.le_of_ble_eq_true rfl⟩) rfl (by decide) rfl rfl hl.1 rfl (Nat.le_of_ble_eq_true rfl) ⟨Nat.le_of_ble_eq_true rfl, Nat.le_of_ble_eq_true rfl⟩ dX6_lay_42 (fun r11 σ12 H locs hP hD hS h => ?_)
        exact kx_iret (pc := 45) hx hb hr hlocks hK hP hD hS h dX6_lay_45
    · have h := h.2 c4
      refine lv_aload_n (pc := 25) hx hb dX6_lay_25 rfl (lv_at hl 1 rfl) ?_
      refine lv_iconst (pc := 26) (v := (1 : Int32)) hx hb dX6_lay_26 (by decide) ?_
      refine kx_iVi (pc := 27) [.int (1 : Int32)] hx hb hml hown hts hK hP hD hS (q6_found h) (cw6_86 hts ⟨Nat.le_of_ble_eq_true rfl, Nat.le_of_ble_eq_true rfl⟩) rfl (by decide) rfl rfl hl.1 rfl (Nat.le_of_ble_eq_true rfl) ⟨Nat.le_of_ble_eq_true rfl, Nat.le_of_ble_eq_true rfl⟩ dX6_lay_27 (fun r13 σ14 H locs hP hD hS h => ?_)
      exact kx_iret (pc := 30) hx hb hr hlocks hK hP hD hS h dX6_lay_30
def p6_at (σ : kx_St) (x1 : Int32) (x2 : Int32) (Q : kx_St → Int32 → Prop) : Prop := p6_pick σ 1 x1 (fun o1 => (o1 = none → Q σ (-1 : Int32)) ∧ (∀ b2, o1 = some b2 → kx_k 0 b2 = 5 ∧ (p5_isThere σ b2 (fun r3 => (¬ r3 = 0 → p5_holds σ b2 x2 (fun r5 => (¬ r5 = 0 → p5_get σ b2 x2 (fun r7 => (fun σ8 : kx_St => Q σ8 (1 : Int32)) (kx_sI σ 0 10 r7))) ∧ (r5 = 0 → p6_found σ (2 : Int32) (fun σ10 r9 => Q σ10 r9)))) ∧ (r3 = 0 → p6_found σ (1 : Int32) (fun σ12 r11 => Q σ12 r11))))))
set_option maxHeartbeats 4000000 in
theorem q6_at {σ : kx_St} {x1 : Int32} {x2 : Int32} {Q : kx_St → Int32 → Prop} (h : p6_at σ x1 x2 Q) : Met l yX6_at (Cond.code yX6_at cX6_at 4 (some .int) :: kx_big) rm6_at (va_Pc [.ref (ad 0), .int x1, .int x2] (kx_Wd D cy 0 ad A σ)) (kx_Qc kx_ci Q (kx_Wd D cy 0 ad A) A) 0 0 A := by
  refine kx_head (plainFor_of_name (by decide)) (Nat.le_of_ble_eq_true rfl) ?_
  intro p e s m below meth c ls cx hP hD hS hl
  obtain ⟨hx, hb, hr, hlocks, hml, hown, hts, hK⟩ := id cx
  have hl : lv_has ls 4 [(0, .ref (ad 0)), (1, .int x1), (2, .int x2)] := hl
  refine lv_aload_n (pc := 0) hx hb dX6_at_0 rfl (lv_at hl 0 rfl) ?_
  refine fg6_11 (pc := 1) (b := 1) hx hb hown hts hK hP rfl rfl dX6_at_1 ?_
  refine lv_iload_n (pc := 4) hx hb dX6_at_4 rfl (lv_at hl 1 rfl) ?_
  refine kx_iSr (pc := 5) [.ref (ad 1), .int x1] hx hb hml hown hts hK hP hD hS (q6_pick h) (cw6_74 hts ⟨Nat.le_of_ble_eq_true rfl, Nat.le_of_ble_eq_true rfl⟩) rfl hl.1 rfl (Nat.le_of_ble_eq_true rfl) ⟨Nat.le_of_ble_eq_true rfl, Nat.le_of_ble_eq_true rfl⟩ dX6_at_5 (fun o1 u_ H locs hP hD hS h => ?_)
  obtain ⟨hu_, h⟩ := h
  rw [hu_] at hP hD
  rcases o1 with _ | b2
  · have h := h.1 rfl
    refine lv_astore_nN (pc := 8) (lv' := [(3, .null), (0, .ref (ad 0)), (1, .int x1), (2, .int x2)]) hx hb dX6_at_8 rfl hl (by decide) rfl (fun ls hl => ?_)
    refine lv_aload_nN (pc := 9) hx hb dX6_at_9 rfl (lv_at hl 0 rfl) ?_
    refine lv_ifnonnullN (pc := 10) hx hb dX6_at_10 ?_
    refine lv_iconst (pc := 13) (v := (-1 : Int32)) hx hb dX6_at_13 (by decide) ?_
    exact kx_iret (pc := 14) hx hb hr hlocks hK hP hD hS h dX6_at_14
  · obtain ⟨hk_b2, h⟩ := h.2 b2 rfl
    refine lv_astore_n (pc := 8) (lv' := [(3, .ref (ad b2)), (0, .ref (ad 0)), (1, .int x1), (2, .int x2)]) hx hb dX6_at_8 rfl hl (by decide) rfl (fun ls hl => ?_)
    refine lv_aload_n (pc := 9) hx hb dX6_at_9 rfl (lv_at hl 0 rfl) ?_
    refine lv_ifnonnull (pc := 10) (tgt := 15) hx hb dX6_at_10 (by decide) ?_
    refine lv_aload_n (pc := 15) hx hb dX6_at_15 rfl (lv_at hl 0 rfl) ?_
    refine kx_iVi (pc := 16) [] hx hb hml hown hts hK hP hD hS (q5_isThere h) (cw6_82 hts ⟨Nat.le_of_ble_eq_true rfl, Nat.le_of_ble_eq_true rfl⟩) hk_b2 (by decide) rfl rfl hl.1 rfl (Nat.le_of_ble_eq_true rfl) ⟨Nat.le_of_ble_eq_true rfl, Nat.le_of_ble_eq_true rfl⟩ dX6_at_16 (fun r3 u_ H locs hP hD hS h => ?_)
    obtain ⟨hu_, h⟩ := h
    rw [hu_] at hP hD
    refine lv_if_ne (pc := 19) (tgt := 28) hx hb dX6_at_19 (by decide) (fun c4 => ?_) (fun c4 => ?_)
    · have h := h.1 c4
      refine lv_aload_n (pc := 28) hx hb dX6_at_28 rfl (lv_at hl 0 rfl) ?_
      refine lv_iload_n (pc := 29) hx hb dX6_at_29 rfl (lv_at hl 3 rfl) ?_
      refine kx_iVi (pc := 30) [.int x2] hx hb hml hown hts hK hP hD hS (q5_holds h) (cw6_90 hts ⟨Nat.le_of_ble_eq_true rfl, Nat.le_of_ble_eq_true rfl⟩) hk_b2 (by decide) rfl rfl hl.1 rfl (Nat.le_of_ble_eq_true rfl) ⟨Nat.le_of_ble_eq_true rfl, Nat.le_of_ble_eq_true rfl⟩ dX6_at_30 (fun r5 u_ H locs hP hD hS h => ?_)
      obtain ⟨hu_, h⟩ := h
      rw [hu_] at hP hD
      refine lv_if_ne (pc := 33) (tgt := 42) hx hb dX6_at_33 (by decide) (fun c6 => ?_) (fun c6 => ?_)
      · have h := h.1 c6
        refine lv_aload_n (pc := 42) hx hb dX6_at_42 rfl (lv_at hl 1 rfl) ?_
        refine lv_aload_n (pc := 43) hx hb dX6_at_43 rfl (lv_at hl 0 rfl) ?_
        refine lv_iload_n (pc := 44) hx hb dX6_at_44 rfl (lv_at hl 3 rfl) ?_
        refine kx_iVi (pc := 45) [.int x2] hx hb hml hown hts hK hP hD hS (q5_get h) (cw6_94 hts ⟨Nat.le_of_ble_eq_true rfl, Nat.le_of_ble_eq_true rfl⟩) hk_b2 (by decide) rfl rfl hl.1 rfl (Nat.le_of_ble_eq_true rfl) ⟨Nat.le_of_ble_eq_true rfl, Nat.le_of_ble_eq_true rfl⟩ dX6_at_45 (fun r7 u_ H locs hP hD hS h => ?_)
        obtain ⟨hu_, h⟩ := h
        rw [hu_] at hP hD
        refine fp6_61 (pc := 48) hx hb hown hts hK hP hD hS rfl dX6_at_48 (fun H locs hP hD hS => ?_)
        refine lv_iconst (pc := 51) (v := (1 : Int32)) hx hb dX6_at_51 (by decide) ?_
        exact kx_iret (pc := 52) hx hb hr hlocks hK hP hD hS h dX6_at_52
      · have h := h.2 c6
        refine lv_aload_n (pc := 36) hx hb dX6_at_36 rfl (lv_at hl 1 rfl) ?_
        refine lv_iconst (pc := 37) (v := (2 : Int32)) hx hb dX6_at_37 (by decide) ?_
        refine kx_iVi (pc := 38) [.int (2 : Int32)] hx hb hml hown hts hK hP hD hS (q6_found h) (cw6_86 hts ⟨Nat.le_of_ble_eq_true rfl, Nat.le_of_ble_eq_true rfl⟩) rfl (by decide) rfl rfl hl.1 rfl (Nat.le_of_ble_eq_true rfl) ⟨Nat.le_of_ble_eq_true rfl, Nat.le_of_ble_eq_true rfl⟩ dX6_at_38 (fun r9 σ10 H locs hP hD hS h => ?_)
        exact kx_iret (pc := 41) hx hb hr hlocks hK hP hD hS h dX6_at_41
    · have h := h.2 c4
      refine lv_aload_n (pc := 22) hx hb dX6_at_22 rfl (lv_at hl 1 rfl) ?_
      refine lv_iconst (pc := 23) (v := (1 : Int32)) hx hb dX6_at_23 (by decide) ?_
      refine kx_iVi (pc := 24) [.int (1 : Int32)] hx hb hml hown hts hK hP hD hS (q6_found h) (cw6_86 hts ⟨Nat.le_of_ble_eq_true rfl, Nat.le_of_ble_eq_true rfl⟩) rfl (by decide) rfl rfl hl.1 rfl (Nat.le_of_ble_eq_true rfl) ⟨Nat.le_of_ble_eq_true rfl, Nat.le_of_ble_eq_true rfl⟩ dX6_at_24 (fun r11 σ12 H locs hP hD hS h => ?_)
      exact kx_iret (pc := 27) hx hb hr hlocks hK hP hD hS h dX6_at_27
def p6_tear (σ : kx_St) (x1 : Int32) (Q : kx_St → Int32 → Prop) : Prop := p6_pick σ 1 x1 (fun o1 => (o1 = none → Q σ (-1 : Int32)) ∧ (∀ b2, o1 = some b2 → kx_k 0 b2 = 5 ∧ (p5_isThere σ b2 (fun r3 => (¬ r3 = 0 → p5_remove σ b2 (fun σ6 => Q σ6 (1 : Int32))) ∧ (r3 = 0 → p6_found σ (1 : Int32) (fun σ8 r7 => Q σ8 r7))))))
set_option maxHeartbeats 4000000 in
theorem q6_tear {σ : kx_St} {x1 : Int32} {Q : kx_St → Int32 → Prop} (h : p6_tear σ x1 Q) : Met l yX6_tear (Cond.code yX6_tear cX6_tear 3 (some .int) :: kx_big) rm6_tear (va_Pc [.ref (ad 0), .int x1] (kx_Wd D cy 0 ad A σ)) (kx_Qc kx_ci Q (kx_Wd D cy 0 ad A) A) 0 0 A := by
  refine kx_head (plainFor_of_name (by decide)) (Nat.le_of_ble_eq_true rfl) ?_
  intro p e s m below meth c ls cx hP hD hS hl
  obtain ⟨hx, hb, hr, hlocks, hml, hown, hts, hK⟩ := id cx
  have hl : lv_has ls 3 [(0, .ref (ad 0)), (1, .int x1)] := hl
  refine lv_aload_n (pc := 0) hx hb dX6_tear_0 rfl (lv_at hl 0 rfl) ?_
  refine fg6_11 (pc := 1) (b := 1) hx hb hown hts hK hP rfl rfl dX6_tear_1 ?_
  refine lv_iload_n (pc := 4) hx hb dX6_tear_4 rfl (lv_at hl 1 rfl) ?_
  refine kx_iSr (pc := 5) [.ref (ad 1), .int x1] hx hb hml hown hts hK hP hD hS (q6_pick h) (cw6_74 hts ⟨Nat.le_of_ble_eq_true rfl, Nat.le_of_ble_eq_true rfl⟩) rfl hl.1 rfl (Nat.le_of_ble_eq_true rfl) ⟨Nat.le_of_ble_eq_true rfl, Nat.le_of_ble_eq_true rfl⟩ dX6_tear_5 (fun o1 u_ H locs hP hD hS h => ?_)
  obtain ⟨hu_, h⟩ := h
  rw [hu_] at hP hD
  rcases o1 with _ | b2
  · have h := h.1 rfl
    refine lv_astore_nN (pc := 8) (lv' := [(2, .null), (0, .ref (ad 0)), (1, .int x1)]) hx hb dX6_tear_8 rfl hl (by decide) rfl (fun ls hl => ?_)
    refine lv_aload_nN (pc := 9) hx hb dX6_tear_9 rfl (lv_at hl 0 rfl) ?_
    refine lv_ifnonnullN (pc := 10) hx hb dX6_tear_10 ?_
    refine lv_iconst (pc := 13) (v := (-1 : Int32)) hx hb dX6_tear_13 (by decide) ?_
    exact kx_iret (pc := 14) hx hb hr hlocks hK hP hD hS h dX6_tear_14
  · obtain ⟨hk_b2, h⟩ := h.2 b2 rfl
    refine lv_astore_n (pc := 8) (lv' := [(2, .ref (ad b2)), (0, .ref (ad 0)), (1, .int x1)]) hx hb dX6_tear_8 rfl hl (by decide) rfl (fun ls hl => ?_)
    refine lv_aload_n (pc := 9) hx hb dX6_tear_9 rfl (lv_at hl 0 rfl) ?_
    refine lv_ifnonnull (pc := 10) (tgt := 15) hx hb dX6_tear_10 (by decide) ?_
    refine lv_aload_n (pc := 15) hx hb dX6_tear_15 rfl (lv_at hl 0 rfl) ?_
    refine kx_iVi (pc := 16) [] hx hb hml hown hts hK hP hD hS (q5_isThere h) (cw6_82 hts ⟨Nat.le_of_ble_eq_true rfl, Nat.le_of_ble_eq_true rfl⟩) hk_b2 (by decide) rfl rfl hl.1 rfl (Nat.le_of_ble_eq_true rfl) ⟨Nat.le_of_ble_eq_true rfl, Nat.le_of_ble_eq_true rfl⟩ dX6_tear_16 (fun r3 u_ H locs hP hD hS h => ?_)
    obtain ⟨hu_, h⟩ := h
    rw [hu_] at hP hD
    refine lv_if_ne (pc := 19) (tgt := 28) hx hb dX6_tear_19 (by decide) (fun c4 => ?_) (fun c4 => ?_)
    · have h := h.1 c4
      refine lv_aload_n (pc := 28) hx hb dX6_tear_28 rfl (lv_at hl 0 rfl) ?_
      refine kx_iVv (pc := 29) [] hx hb hml hown hts hK hP hD hS (q5_remove h) (cw6_101 hts ⟨Nat.le_of_ble_eq_true rfl, Nat.le_of_ble_eq_true rfl⟩) hk_b2 (by decide) rfl rfl hl.1 rfl (Nat.le_of_ble_eq_true rfl) ⟨Nat.le_of_ble_eq_true rfl, Nat.le_of_ble_eq_true rfl⟩ dX6_tear_29 (fun _ σ6 H locs hP hD hS h => ?_)
      refine lv_iconst (pc := 32) (v := (1 : Int32)) hx hb dX6_tear_32 (by decide) ?_
      exact kx_iret (pc := 33) hx hb hr hlocks hK hP hD hS h dX6_tear_33
    · have h := h.2 c4
      refine lv_aload_n (pc := 22) hx hb dX6_tear_22 rfl (lv_at hl 1 rfl) ?_
      refine lv_iconst (pc := 23) (v := (1 : Int32)) hx hb dX6_tear_23 (by decide) ?_
      refine kx_iVi (pc := 24) [.int (1 : Int32)] hx hb hml hown hts hK hP hD hS (q6_found h) (cw6_86 hts ⟨Nat.le_of_ble_eq_true rfl, Nat.le_of_ble_eq_true rfl⟩) rfl (by decide) rfl rfl hl.1 rfl (Nat.le_of_ble_eq_true rfl) ⟨Nat.le_of_ble_eq_true rfl, Nat.le_of_ble_eq_true rfl⟩ dX6_tear_24 (fun r7 σ8 H locs hP hD hS h => ?_)
      exact kx_iret (pc := 27) hx hb hr hlocks hK hP hD hS h dX6_tear_27
def p6_copy_J59 (σ : kx_St) (Q : kx_St → Int32 → Prop) : Prop := p6_found σ (1 : Int32) (fun σ2 r1 => Q σ2 r1)
set_option maxHeartbeats 4000000 in
theorem w6_copy_J59 {σ : kx_St}   {Q : kx_St → Int32 → Prop} {H : Heap} {locs : List Loc} {ls : Array Slot} (cx : kx_Cx p s m args meth c D cy RX6 cX6_copy 8 (some .int))   (h : p6_copy_J59 σ Q) (hP : va_P D vwCl (kx_ws cy 0 ad σ) H) (hD : va_D A (kx_ws cy 0 ad σ)) (hS : va_S A s.heap H locs) (hl : lv_has ls 8 [(0, .ref (ad 0))]) : W p l e rm6_copy s m args below meth c H locs 0 0 (MQ below (kx_Qc kx_ci Q (kx_Wd D cy 0 ad A) A) args s 0 0 A) (F0 m 59 ls []) := by
  obtain ⟨hx, hb, hr, hlocks, hml, hown, hts, hK⟩ := id cx
  refine lv_aload_n (pc := 59) hx hb dX6_copy_59 rfl (lv_at hl 0 rfl) ?_
  refine lv_iconst (pc := 60) (v := (1 : Int32)) hx hb dX6_copy_60 (by decide) ?_
  refine kx_iVi (pc := 61) [.int (1 : Int32)] hx hb hml hown hts hK hP hD hS (q6_found h) (cw6_86 hts ⟨Nat.le_of_ble_eq_true rfl, Nat.le_of_ble_eq_true rfl⟩) rfl (by decide) rfl rfl hl.1 rfl (Nat.le_of_ble_eq_true rfl) ⟨Nat.le_of_ble_eq_true rfl, Nat.le_of_ble_eq_true rfl⟩ dX6_copy_61 (fun r1 σ2 H locs hP hD hS h => ?_)
  exact kx_iret (pc := 64) hx hb hr hlocks hK hP hD hS h dX6_copy_64
def p6_copy_J88 (σ : kx_St) (Q : kx_St → Int32 → Prop) : Prop := p6_found σ (2 : Int32) (fun σ2 r1 => Q σ2 r1)
set_option maxHeartbeats 4000000 in
theorem w6_copy_J88 {σ : kx_St}   {Q : kx_St → Int32 → Prop} {H : Heap} {locs : List Loc} {ls : Array Slot} (cx : kx_Cx p s m args meth c D cy RX6 cX6_copy 8 (some .int))   (h : p6_copy_J88 σ Q) (hP : va_P D vwCl (kx_ws cy 0 ad σ) H) (hD : va_D A (kx_ws cy 0 ad σ)) (hS : va_S A s.heap H locs) (hl : lv_has ls 8 [(0, .ref (ad 0))]) : W p l e rm6_copy s m args below meth c H locs 0 0 (MQ below (kx_Qc kx_ci Q (kx_Wd D cy 0 ad A) A) args s 0 0 A) (F0 m 88 ls []) := by
  obtain ⟨hx, hb, hr, hlocks, hml, hown, hts, hK⟩ := id cx
  refine lv_aload_n (pc := 88) hx hb dX6_copy_88 rfl (lv_at hl 0 rfl) ?_
  refine lv_iconst (pc := 89) (v := (2 : Int32)) hx hb dX6_copy_89 (by decide) ?_
  refine kx_iVi (pc := 90) [.int (2 : Int32)] hx hb hml hown hts hK hP hD hS (q6_found h) (cw6_86 hts ⟨Nat.le_of_ble_eq_true rfl, Nat.le_of_ble_eq_true rfl⟩) rfl (by decide) rfl rfl hl.1 rfl (Nat.le_of_ble_eq_true rfl) ⟨Nat.le_of_ble_eq_true rfl, Nat.le_of_ble_eq_true rfl⟩ dX6_copy_90 (fun r1 σ2 H locs hP hD hS h => ?_)
  exact kx_iret (pc := 93) hx hb hr hlocks hK hP hD hS h dX6_copy_93
def p6_copy (σ : kx_St) (x1 : Int32) (x2 : Int32) (x3 : Int32) (x4 : Int32) (x5 : Int32) (Q : kx_St → Int32 → Prop) : Prop := p6_pick σ 1 x1 (fun o1 => (o1 = none → p6_pick σ 1 x3 (fun o3 => (o3 = none → Q σ (-1 : Int32)) ∧ (∀ b4, o3 = some b4 → kx_k 0 b4 = 5 ∧ (Q σ (-1 : Int32))))) ∧ (∀ b2, o1 = some b2 → kx_k 0 b2 = 5 ∧ (p6_pick σ 1 x3 (fun o5 => (o5 = none → Q σ (-1 : Int32)) ∧ (∀ b6, o5 = some b6 → kx_k 0 b6 = 5 ∧ ((0 ≤ x5 → p5_isThere σ b2 (fun r8 => (r8 = 0 → p6_copy_J59 σ Q) ∧ (¬ r8 = 0 → p5_isThere σ b6 (fun r10 => (¬ r10 = 0 → p5_spans σ b2 x2 x5 (fun r12 => (r12 = 0 → p6_copy_J88 σ Q) ∧ (¬ r12 = 0 → p5_spans σ b6 x4 x5 (fun r14 => (¬ r14 = 0 → ¬ x2 < 0 ∧ (¬ x4 < 0 ∧ (¬ x5 < 0 ∧ (x2.toNatClampNeg + x5.toNatClampNeg ≤ (kx_l 0 (kx_r 0 b2 0)) ∧ (x4.toNatClampNeg + x5.toNatClampNeg ≤ (kx_l 0 (kx_r 0 b6 0)) ∧ ((fun σ21 : kx_St => Q σ21 (1 : Int32)) (kx_cp σ (kx_r 0 b2 0) (kx_r 0 b6 0) x2.toNatClampNeg x4.toNatClampNeg x5.toNatClampNeg))))))) ∧ (r14 = 0 → p6_copy_J88 σ Q))))) ∧ (r10 = 0 → p6_copy_J59 σ Q))))) ∧ (¬ 0 ≤ x5 → p6_found σ (5 : Int32) (fun σ23 r22 => Q σ23 r22))))))))
set_option maxHeartbeats 4000000 in
theorem q6_copy {σ : kx_St} {x1 : Int32} {x2 : Int32} {x3 : Int32} {x4 : Int32} {x5 : Int32} {Q : kx_St → Int32 → Prop} (h : p6_copy σ x1 x2 x3 x4 x5 Q) : Met l yX6_copy (Cond.code yX6_copy cX6_copy 8 (some .int) :: kx_big) rm6_copy (va_Pc [.ref (ad 0), .int x1, .int x2, .int x3, .int x4, .int x5] (kx_Wd D cy 0 ad A σ)) (kx_Qc kx_ci Q (kx_Wd D cy 0 ad A) A) 0 0 A := by
  refine kx_head (plainFor_of_name (by decide)) (Nat.le_of_ble_eq_true rfl) ?_
  intro p e s m below meth c ls cx hP hD hS hl
  obtain ⟨hx, hb, hr, hlocks, hml, hown, hts, hK⟩ := id cx
  have hl : lv_has ls 8 [(0, .ref (ad 0)), (1, .int x1), (2, .int x2), (3, .int x3), (4, .int x4), (5, .int x5)] := hl
  refine lv_aload_n (pc := 0) hx hb dX6_copy_0 rfl (lv_at hl 0 rfl) ?_
  refine fg6_11 (pc := 1) (b := 1) hx hb hown hts hK hP rfl rfl dX6_copy_1 ?_
  refine lv_iload_n (pc := 4) hx hb dX6_copy_4 rfl (lv_at hl 1 rfl) ?_
  refine kx_iSr (pc := 5) [.ref (ad 1), .int x1] hx hb hml hown hts hK hP hD hS (q6_pick h) (cw6_74 hts ⟨Nat.le_of_ble_eq_true rfl, Nat.le_of_ble_eq_true rfl⟩) rfl hl.1 rfl (Nat.le_of_ble_eq_true rfl) ⟨Nat.le_of_ble_eq_true rfl, Nat.le_of_ble_eq_true rfl⟩ dX6_copy_5 (fun o1 u_ H locs hP hD hS h => ?_)
  obtain ⟨hu_, h⟩ := h
  rw [hu_] at hP hD
  rcases o1 with _ | b2
  · have h := h.1 rfl
    refine lv_astoreN (pc := 8) (lv' := [(6, .null), (0, .ref (ad 0)), (1, .int x1), (2, .int x2), (3, .int x3), (4, .int x4), (5, .int x5)]) hx hb dX6_copy_8 hl (by decide) rfl (fun ls hl => ?_)
    refine lv_aload_n (pc := 10) hx hb dX6_copy_10 rfl (lv_at hl 1 rfl) ?_
    refine fg6_11 (pc := 11) (b := 1) hx hb hown hts hK hP rfl rfl dX6_copy_11 ?_
    refine lv_iload_n (pc := 14) hx hb dX6_copy_14 rfl (lv_at hl 4 rfl) ?_
    refine kx_iSr (pc := 15) [.ref (ad 1), .int x3] hx hb hml hown hts hK hP hD hS (q6_pick h) (cw6_74 hts ⟨Nat.le_of_ble_eq_true rfl, Nat.le_of_ble_eq_true rfl⟩) rfl hl.1 rfl (Nat.le_of_ble_eq_true rfl) ⟨Nat.le_of_ble_eq_true rfl, Nat.le_of_ble_eq_true rfl⟩ dX6_copy_15 (fun o3 u_ H locs hP hD hS h => ?_)
    obtain ⟨hu_, h⟩ := h
    rw [hu_] at hP hD
    rcases o3 with _ | b4
    · have h := h.1 rfl
      refine lv_astoreN (pc := 18) (lv' := [(7, .null), (6, .null), (0, .ref (ad 0)), (1, .int x1), (2, .int x2), (3, .int x3), (4, .int x4), (5, .int x5)]) hx hb dX6_copy_18 hl (by decide) rfl (fun ls hl => ?_)
      refine lv_aloadN (pc := 20) hx hb dX6_copy_20 (lv_at hl 1 rfl) ?_
      refine lv_ifnullN (pc := 22) (tgt := 30) hx hb dX6_copy_22 (by decide) ?_
      refine lv_iconst (pc := 30) (v := (-1 : Int32)) hx hb dX6_copy_30 (by decide) ?_
      exact kx_iret (pc := 31) hx hb hr hlocks hK hP hD hS h dX6_copy_31
    · obtain ⟨hk_b4, h⟩ := h.2 b4 rfl
      refine lv_astore (pc := 18) (lv' := [(7, .ref (ad b4)), (6, .null), (0, .ref (ad 0)), (1, .int x1), (2, .int x2), (3, .int x3), (4, .int x4), (5, .int x5)]) hx hb dX6_copy_18 hl (by decide) rfl (fun ls hl => ?_)
      refine lv_aloadN (pc := 20) hx hb dX6_copy_20 (lv_at hl 1 rfl) ?_
      refine lv_ifnullN (pc := 22) (tgt := 30) hx hb dX6_copy_22 (by decide) ?_
      refine lv_iconst (pc := 30) (v := (-1 : Int32)) hx hb dX6_copy_30 (by decide) ?_
      exact kx_iret (pc := 31) hx hb hr hlocks hK hP hD hS h dX6_copy_31
  · obtain ⟨hk_b2, h⟩ := h.2 b2 rfl
    refine lv_astore (pc := 8) (lv' := [(6, .ref (ad b2)), (0, .ref (ad 0)), (1, .int x1), (2, .int x2), (3, .int x3), (4, .int x4), (5, .int x5)]) hx hb dX6_copy_8 hl (by decide) rfl (fun ls hl => ?_)
    refine lv_aload_n (pc := 10) hx hb dX6_copy_10 rfl (lv_at hl 1 rfl) ?_
    refine fg6_11 (pc := 11) (b := 1) hx hb hown hts hK hP rfl rfl dX6_copy_11 ?_
    refine lv_iload_n (pc := 14) hx hb dX6_copy_14 rfl (lv_at hl 4 rfl) ?_
    refine kx_iSr (pc := 15) [.ref (ad 1), .int x3] hx hb hml hown hts hK hP hD hS (q6_pick h) (cw6_74 hts ⟨Nat.le_of_ble_eq_true rfl, Nat.le_of_ble_eq_true rfl⟩) rfl hl.1 rfl (Nat.le_of_ble_eq_true rfl) ⟨Nat.le_of_ble_eq_true rfl, Nat.le_of_ble_eq_true rfl⟩ dX6_copy_15 (fun o5 u_ H locs hP hD hS h => ?_)
    obtain ⟨hu_, h⟩ := h
    rw [hu_] at hP hD
    rcases o5 with _ | b6
    · have h := h.1 rfl
      refine lv_astoreN (pc := 18) (lv' := [(7, .null), (6, .ref (ad b2)), (0, .ref (ad 0)), (1, .int x1), (2, .int x2), (3, .int x3), (4, .int x4), (5, .int x5)]) hx hb dX6_copy_18 hl (by decide) rfl (fun ls hl => ?_)
      refine lv_aload (pc := 20) hx hb dX6_copy_20 (lv_at hl 1 rfl) ?_
      refine lv_ifnull (pc := 22) hx hb dX6_copy_22 ?_
      refine lv_aloadN (pc := 25) hx hb dX6_copy_25 (lv_at hl 0 rfl) ?_
      refine lv_ifnonnullN (pc := 27) hx hb dX6_copy_27 ?_
      refine lv_iconst (pc := 30) (v := (-1 : Int32)) hx hb dX6_copy_30 (by decide) ?_
      exact kx_iret (pc := 31) hx hb hr hlocks hK hP hD hS h dX6_copy_31
    · obtain ⟨hk_b6, h⟩ := h.2 b6 rfl
      refine lv_astore (pc := 18) (lv' := [(7, .ref (ad b6)), (6, .ref (ad b2)), (0, .ref (ad 0)), (1, .int x1), (2, .int x2), (3, .int x3), (4, .int x4), (5, .int x5)]) hx hb dX6_copy_18 hl (by decide) rfl (fun ls hl => ?_)
      refine lv_aload (pc := 20) hx hb dX6_copy_20 (lv_at hl 1 rfl) ?_
      refine lv_ifnull (pc := 22) hx hb dX6_copy_22 ?_
      refine lv_aload (pc := 25) hx hb dX6_copy_25 (lv_at hl 0 rfl) ?_
      refine lv_ifnonnull (pc := 27) (tgt := 32) hx hb dX6_copy_27 (by decide) ?_
      refine lv_iload (pc := 32) hx hb dX6_copy_32 (lv_at hl 7 rfl) ?_
      refine lv_if_ge (pc := 34) (tgt := 43) hx hb dX6_copy_34 (by decide) (fun c7 => ?_) (fun c7 => ?_)
      · have h := h.1 c7
        refine lv_aload (pc := 43) hx hb dX6_copy_43 (lv_at hl 1 rfl) ?_
        refine kx_iVi (pc := 45) [] hx hb hml hown hts hK hP hD hS (q5_isThere h) (cw6_82 hts ⟨Nat.le_of_ble_eq_true rfl, Nat.le_of_ble_eq_true rfl⟩) hk_b2 (by decide) rfl rfl hl.1 rfl (Nat.le_of_ble_eq_true rfl) ⟨Nat.le_of_ble_eq_true rfl, Nat.le_of_ble_eq_true rfl⟩ dX6_copy_45 (fun r8 u_ H locs hP hD hS h => ?_)
        obtain ⟨hu_, h⟩ := h
        rw [hu_] at hP hD
        refine lv_if_eq (pc := 48) (tgt := 59) hx hb dX6_copy_48 (by decide) (fun c9 => ?_) (fun c9 => ?_)
        · have h := h.1 c9
          exact w6_copy_J59 cx  h hP hD hS (lv_sub hl [2] rfl)
        · have h := h.2 c9
          refine lv_aload (pc := 51) hx hb dX6_copy_51 (lv_at hl 0 rfl) ?_
          refine kx_iVi (pc := 53) [] hx hb hml hown hts hK hP hD hS (q5_isThere h) (cw6_82 hts ⟨Nat.le_of_ble_eq_true rfl, Nat.le_of_ble_eq_true rfl⟩) hk_b6 (by decide) rfl rfl hl.1 rfl (Nat.le_of_ble_eq_true rfl) ⟨Nat.le_of_ble_eq_true rfl, Nat.le_of_ble_eq_true rfl⟩ dX6_copy_53 (fun r10 u_ H locs hP hD hS h => ?_)
          obtain ⟨hu_, h⟩ := h
          rw [hu_] at hP hD
          refine lv_if_ne (pc := 56) (tgt := 65) hx hb dX6_copy_56 (by decide) (fun c11 => ?_) (fun c11 => ?_)
          · have h := h.1 c11
            refine lv_aload (pc := 65) hx hb dX6_copy_65 (lv_at hl 1 rfl) ?_
            refine lv_iload_n (pc := 67) hx hb dX6_copy_67 rfl (lv_at hl 4 rfl) ?_
            refine lv_iload (pc := 68) hx hb dX6_copy_68 (lv_at hl 7 rfl) ?_
            refine kx_iVi (pc := 70) [.int x2, .int x5] hx hb hml hown hts hK hP hD hS (q5_spans h) (cw6_104 hts ⟨Nat.le_of_ble_eq_true rfl, Nat.le_of_ble_eq_true rfl⟩) hk_b2 (by decide) rfl rfl hl.1 rfl (Nat.le_of_ble_eq_true rfl) ⟨Nat.le_of_ble_eq_true rfl, Nat.le_of_ble_eq_true rfl⟩ dX6_copy_70 (fun r12 u_ H locs hP hD hS h => ?_)
            obtain ⟨hu_, h⟩ := h
            rw [hu_] at hP hD
            refine lv_if_eq (pc := 73) (tgt := 88) hx hb dX6_copy_73 (by decide) (fun c13 => ?_) (fun c13 => ?_)
            · have h := h.1 c13
              exact w6_copy_J88 cx  h hP hD hS (lv_sub hl [2] rfl)
            · have h := h.2 c13
              refine lv_aload (pc := 76) hx hb dX6_copy_76 (lv_at hl 0 rfl) ?_
              refine lv_iload (pc := 78) hx hb dX6_copy_78 (lv_at hl 6 rfl) ?_
              refine lv_iload (pc := 80) hx hb dX6_copy_80 (lv_at hl 7 rfl) ?_
              refine kx_iVi (pc := 82) [.int x4, .int x5] hx hb hml hown hts hK hP hD hS (q5_spans h) (cw6_104 hts ⟨Nat.le_of_ble_eq_true rfl, Nat.le_of_ble_eq_true rfl⟩) hk_b6 (by decide) rfl rfl hl.1 rfl (Nat.le_of_ble_eq_true rfl) ⟨Nat.le_of_ble_eq_true rfl, Nat.le_of_ble_eq_true rfl⟩ dX6_copy_82 (fun r14 u_ H locs hP hD hS h => ?_)
              obtain ⟨hu_, h⟩ := h
              rw [hu_] at hP hD
              refine lv_if_ne (pc := 85) (tgt := 94) hx hb dX6_copy_85 (by decide) (fun c15 => ?_) (fun c15 => ?_)
              · have h := h.1 c15
                refine lv_aload (pc := 94) hx hb dX6_copy_94 (lv_at hl 1 rfl) ?_
                refine fg6_108 (pc := 96) hx hb hown hts hK hP hk_b2 rfl dX6_copy_96 ?_
                refine lv_iload_n (pc := 99) hx hb dX6_copy_99 rfl (lv_at hl 4 rfl) ?_
                refine lv_aload (pc := 100) hx hb dX6_copy_100 (lv_at hl 0 rfl) ?_
                refine fg6_108 (pc := 102) hx hb hown hts hK hP hk_b6 rfl dX6_copy_102 ?_
                refine lv_iload (pc := 105) hx hb dX6_copy_105 (lv_at hl 6 rfl) ?_
                refine lv_iload (pc := 107) hx hb dX6_copy_107 (lv_at hl 7 rfl) ?_
                obtain ⟨g16, h⟩ := h
                obtain ⟨g17, h⟩ := h
                obtain ⟨g18, h⟩ := h
                obtain ⟨g19, h⟩ := h
                obtain ⟨g20, h⟩ := h
                refine kx_copy (pc := 109) hx hb (hml.trans hl.1.symm) hown (hts _ tb_266) (hts _ tb_268) (hts _ tb_267) (hts _ tb_10) hK hP hD hS (ky_5_0 hk_b2) (ky_5_0 hk_b6) g16 g17 g18 g19 g20 (Nat.le_of_ble_eq_true rfl) (Nat.le_of_ble_eq_true rfl) dX6_copy_109 (fun H locs hP hD hS => ?_)
                refine lv_iconst (pc := 112) (v := (1 : Int32)) hx hb dX6_copy_112 (by decide) ?_
                exact kx_iret (pc := 113) hx hb hr hlocks hK hP hD hS h dX6_copy_113
              · have h := h.2 c15
                exact w6_copy_J88 cx  h hP hD hS (lv_sub hl [2] rfl)
          · have h := h.2 c11
            exact w6_copy_J59 cx  h hP hD hS (lv_sub hl [2] rfl)
      · have h := h.2 c7
        refine lv_aload_n (pc := 37) hx hb dX6_copy_37 rfl (lv_at hl 2 rfl) ?_
        refine lv_iconst (pc := 38) (v := (5 : Int32)) hx hb dX6_copy_38 (by decide) ?_
        refine kx_iVi (pc := 39) [.int (5 : Int32)] hx hb hml hown hts hK hP hD hS (q6_found h) (cw6_86 hts ⟨Nat.le_of_ble_eq_true rfl, Nat.le_of_ble_eq_true rfl⟩) rfl (by decide) rfl rfl hl.1 rfl (Nat.le_of_ble_eq_true rfl) ⟨Nat.le_of_ble_eq_true rfl, Nat.le_of_ble_eq_true rfl⟩ dX6_copy_39 (fun r22 σ23 H locs hP hD hS h => ?_)
        exact kx_iret (pc := 42) hx hb hr hlocks hK hP hD hS h dX6_copy_42
def p6_mean_L46 : Nat → kx_St → Nat → Int64 → Int32 → (kx_St → Int32 → Prop) → Prop
  | 0, _, _, _, _, _ => False
  | n + 1, σ, x2, x3, x5, Q => ((σ.1 x2 1) ≤ x5 → ¬ ((σ.1 x2 1).toInt64) = 0 ∧ ((fun σ3 : kx_St => Q σ3 (1 : Int32)) (kx_sI σ 0 10 ((x3 / ((σ.1 x2 1).toInt64)).toInt32)))) ∧ (¬ (σ.1 x2 1) ≤ x5 → p5_get σ x2 x5 (fun r4 => p6_mean_L46 n σ x2 (x3 + (r4.toInt64)) (x5 + (1 : Int32)) Q))
set_option maxHeartbeats 4000000 in
theorem w6_mean_L46  {Q : kx_St → Int32 → Prop} (cx : kx_Cx p s m args meth c D cy RX6 cX6_mean 6 (some .int))  : ∀ (n : Nat) (σ : kx_St) (x2 : Nat) (x3 : Int64) (x5 : Int32) (H : Heap) (locs : List Loc) (ls : Array Slot), kx_k 0 x2 = 5 → p6_mean_L46 n σ x2 x3 x5 Q → va_P D vwCl (kx_ws cy 0 ad σ) H → va_D A (kx_ws cy 0 ad σ) → va_S A s.heap H locs → lv_has ls 6 [(0, .ref (ad 0)), (2, .ref (ad x2)), (3, .long x3), (5, .int x5)] → W p l e rm6_mean s m args below meth c H locs 0 0 (MQ below (kx_Qc kx_ci Q (kx_Wd D cy 0 ad A) A) args s 0 0 A) (F0 m 46 ls []) := by
  obtain ⟨hx, hb, hr, hlocks, hml, hown, hts, hK⟩ := id cx
  intro n
  induction n with
  | zero => intro _ _ _ _ _ _ _ _ h; exact False.elim h
  | succ n ih =>
    intro σ x2 x3 x5 H locs ls hk_x2 h hP hD hS hl
    refine lv_iload (pc := 46) hx hb dX6_mean_46 (lv_at hl 3 rfl) ?_
    refine lv_aload_n (pc := 48) hx hb dX6_mean_48 rfl (lv_at hl 1 rfl) ?_
    refine fg6_117 (pc := 49) hx hb hown hts hK hP hk_x2 dX6_mean_49 ?_
    refine lv_icmp_ge (pc := 52) (tgt := 71) hx hb dX6_mean_52 (by decide) (fun c1 => ?_) (fun c1 => ?_)
    · have h := h.1 c1
      refine lv_aload_n (pc := 71) hx hb dX6_mean_71 rfl (lv_at hl 0 rfl) ?_
      refine lv_lload_n (pc := 72) hx hb dX6_mean_72 rfl (lv_at hl 2 rfl) ?_
      refine lv_aload_n (pc := 73) hx hb dX6_mean_73 rfl (lv_at hl 1 rfl) ?_
      refine fg6_117 (pc := 74) hx hb hown hts hK hP hk_x2 dX6_mean_74 ?_
      refine lv_i2l (pc := 77) (v := ((σ.1 x2 1).toInt64)) hx hb dX6_mean_77 rfl ?_
      obtain ⟨g2, h⟩ := h
      refine lv_ldiv (pc := 78) hx hb dX6_mean_78 g2 ?_
      refine lv_l2i (pc := 79) (v := ((x3 / ((σ.1 x2 1).toInt64)).toInt32)) hx hb dX6_mean_79 rfl ?_
      refine fp6_61 (pc := 80) hx hb hown hts hK hP hD hS rfl dX6_mean_80 (fun H locs hP hD hS => ?_)
      refine lv_iconst (pc := 83) (v := (1 : Int32)) hx hb dX6_mean_83 (by decide) ?_
      exact kx_iret (pc := 84) hx hb hr hlocks hK hP hD hS h dX6_mean_84
    · have h := h.2 c1
      refine lv_lload_n (pc := 55) hx hb dX6_mean_55 rfl (lv_at hl 2 rfl) ?_
      refine lv_aload_n (pc := 56) hx hb dX6_mean_56 rfl (lv_at hl 1 rfl) ?_
      refine lv_iload (pc := 57) hx hb dX6_mean_57 (lv_at hl 3 rfl) ?_
      refine kx_iVi (pc := 59) [.int x5] hx hb hml hown hts hK hP hD hS (q5_get h) (cw6_94 hts ⟨Nat.le_of_ble_eq_true rfl, Nat.le_of_ble_eq_true rfl⟩) hk_x2 (by decide) rfl rfl hl.1 rfl (Nat.le_of_ble_eq_true rfl) ⟨Nat.le_of_ble_eq_true rfl, Nat.le_of_ble_eq_true rfl⟩ dX6_mean_59 (fun r4 u_ H locs hP hD hS h => ?_)
      obtain ⟨hu_, h⟩ := h
      rw [hu_] at hP hD
      refine lv_i2l (pc := 62) (v := (r4.toInt64)) hx hb dX6_mean_62 rfl ?_
      refine lv_ladd (pc := 63) hx hb dX6_mean_63 ?_
      refine lv_lstore_n (pc := 64) (lv' := [(3, .long (x3 + (r4.toInt64))), (0, .ref (ad 0)), (2, .ref (ad x2)), (5, .int x5)]) hx hb dX6_mean_64 rfl hl (by decide) rfl (fun ls hl => ?_)
      refine lv_iinc (pc := 65) (v := (x5 + (1 : Int32))) (lv' := [(5, .int (x5 + (1 : Int32))), (3, .long (x3 + (r4.toInt64))), (0, .ref (ad 0)), (2, .ref (ad x2))]) hx hb dX6_mean_65 hl (k := 3) rfl rfl (by decide) rfl (fun ls hl => ?_)
      refine lv_goto (pc := 68) (tgt := 46) hx hb dX6_mean_68 (by decide) ?_
      exact ih _ _ _ _ _ _ _ hk_x2 h hP hD hS (lv_sub hl [2, 3, 1, 0] rfl)
def p6_mean (σ : kx_St) (x1 : Int32) (Q : kx_St → Int32 → Prop) : Prop := p6_pick σ 1 x1 (fun o1 => (o1 = none → Q σ (-1 : Int32)) ∧ (∀ b2, o1 = some b2 → kx_k 0 b2 = 5 ∧ (p5_isThere σ b2 (fun r3 => (¬ r3 = 0 → (¬ (σ.1 b2 1) = 0 → ∃ m46, p6_mean_L46 m46 σ b2 (0 : Int64) (0 : Int32) Q) ∧ ((σ.1 b2 1) = 0 → p6_found σ (4 : Int32) (fun σ7 r6 => Q σ7 r6))) ∧ (r3 = 0 → p6_found σ (1 : Int32) (fun σ9 r8 => Q σ9 r8))))))
set_option maxHeartbeats 4000000 in
theorem q6_mean {σ : kx_St} {x1 : Int32} {Q : kx_St → Int32 → Prop} (h : p6_mean σ x1 Q) : Met l yX6_mean (Cond.code yX6_mean cX6_mean 6 (some .int) :: kx_big) rm6_mean (va_Pc [.ref (ad 0), .int x1] (kx_Wd D cy 0 ad A σ)) (kx_Qc kx_ci Q (kx_Wd D cy 0 ad A) A) 0 0 A := by
  refine kx_head (plainFor_of_name (by decide)) (Nat.le_of_ble_eq_true rfl) ?_
  intro p e s m below meth c ls cx hP hD hS hl
  obtain ⟨hx, hb, hr, hlocks, hml, hown, hts, hK⟩ := id cx
  have hl : lv_has ls 6 [(0, .ref (ad 0)), (1, .int x1)] := hl
  refine lv_aload_n (pc := 0) hx hb dX6_mean_0 rfl (lv_at hl 0 rfl) ?_
  refine fg6_11 (pc := 1) (b := 1) hx hb hown hts hK hP rfl rfl dX6_mean_1 ?_
  refine lv_iload_n (pc := 4) hx hb dX6_mean_4 rfl (lv_at hl 1 rfl) ?_
  refine kx_iSr (pc := 5) [.ref (ad 1), .int x1] hx hb hml hown hts hK hP hD hS (q6_pick h) (cw6_74 hts ⟨Nat.le_of_ble_eq_true rfl, Nat.le_of_ble_eq_true rfl⟩) rfl hl.1 rfl (Nat.le_of_ble_eq_true rfl) ⟨Nat.le_of_ble_eq_true rfl, Nat.le_of_ble_eq_true rfl⟩ dX6_mean_5 (fun o1 u_ H locs hP hD hS h => ?_)
  obtain ⟨hu_, h⟩ := h
  rw [hu_] at hP hD
  rcases o1 with _ | b2
  · have h := h.1 rfl
    refine lv_astore_nN (pc := 8) (lv' := [(2, .null), (0, .ref (ad 0)), (1, .int x1)]) hx hb dX6_mean_8 rfl hl (by decide) rfl (fun ls hl => ?_)
    refine lv_aload_nN (pc := 9) hx hb dX6_mean_9 rfl (lv_at hl 0 rfl) ?_
    refine lv_ifnonnullN (pc := 10) hx hb dX6_mean_10 ?_
    refine lv_iconst (pc := 13) (v := (-1 : Int32)) hx hb dX6_mean_13 (by decide) ?_
    exact kx_iret (pc := 14) hx hb hr hlocks hK hP hD hS h dX6_mean_14
  · obtain ⟨hk_b2, h⟩ := h.2 b2 rfl
    refine lv_astore_n (pc := 8) (lv' := [(2, .ref (ad b2)), (0, .ref (ad 0)), (1, .int x1)]) hx hb dX6_mean_8 rfl hl (by decide) rfl (fun ls hl => ?_)
    refine lv_aload_n (pc := 9) hx hb dX6_mean_9 rfl (lv_at hl 0 rfl) ?_
    refine lv_ifnonnull (pc := 10) (tgt := 15) hx hb dX6_mean_10 (by decide) ?_
    refine lv_aload_n (pc := 15) hx hb dX6_mean_15 rfl (lv_at hl 0 rfl) ?_
    refine kx_iVi (pc := 16) [] hx hb hml hown hts hK hP hD hS (q5_isThere h) (cw6_82 hts ⟨Nat.le_of_ble_eq_true rfl, Nat.le_of_ble_eq_true rfl⟩) hk_b2 (by decide) rfl rfl hl.1 rfl (Nat.le_of_ble_eq_true rfl) ⟨Nat.le_of_ble_eq_true rfl, Nat.le_of_ble_eq_true rfl⟩ dX6_mean_16 (fun r3 u_ H locs hP hD hS h => ?_)
    obtain ⟨hu_, h⟩ := h
    rw [hu_] at hP hD
    refine lv_if_ne (pc := 19) (tgt := 28) hx hb dX6_mean_19 (by decide) (fun c4 => ?_) (fun c4 => ?_)
    · have h := h.1 c4
      refine lv_aload_n (pc := 28) hx hb dX6_mean_28 rfl (lv_at hl 0 rfl) ?_
      refine fg6_117 (pc := 29) hx hb hown hts hK hP hk_b2 dX6_mean_29 ?_
      refine lv_if_ne (pc := 32) (tgt := 41) hx hb dX6_mean_32 (by decide) (fun c5 => ?_) (fun c5 => ?_)
      · have h := h.1 c5
        refine lv_lconst (pc := 41) (v := (0 : Int64)) hx hb dX6_mean_41 (by decide) ?_
        refine lv_lstore_n (pc := 42) (lv' := [(3, .long (0 : Int64)), (2, .ref (ad b2)), (0, .ref (ad 0)), (1, .int x1)]) hx hb dX6_mean_42 rfl hl (by decide) rfl (fun ls hl => ?_)
        refine lv_iconst (pc := 43) (v := (0 : Int32)) hx hb dX6_mean_43 (by decide) ?_
        refine lv_istore (pc := 44) (lv' := [(5, .int (0 : Int32)), (3, .long (0 : Int64)), (2, .ref (ad b2)), (0, .ref (ad 0)), (1, .int x1)]) hx hb dX6_mean_44 hl (by decide) rfl (fun ls hl => ?_)
        obtain ⟨n0, h⟩ := h
        exact w6_mean_L46 cx  n0 _ _ _ _ _ _ _ hk_b2 h hP hD hS (lv_sub hl [3, 2, 1, 0] rfl)
      · have h := h.2 c5
        refine lv_aload_n (pc := 35) hx hb dX6_mean_35 rfl (lv_at hl 1 rfl) ?_
        refine lv_iconst (pc := 36) (v := (4 : Int32)) hx hb dX6_mean_36 (by decide) ?_
        refine kx_iVi (pc := 37) [.int (4 : Int32)] hx hb hml hown hts hK hP hD hS (q6_found h) (cw6_86 hts ⟨Nat.le_of_ble_eq_true rfl, Nat.le_of_ble_eq_true rfl⟩) rfl (by decide) rfl rfl hl.1 rfl (Nat.le_of_ble_eq_true rfl) ⟨Nat.le_of_ble_eq_true rfl, Nat.le_of_ble_eq_true rfl⟩ dX6_mean_37 (fun r6 σ7 H locs hP hD hS h => ?_)
        exact kx_iret (pc := 40) hx hb hr hlocks hK hP hD hS h dX6_mean_40
    · have h := h.2 c4
      refine lv_aload_n (pc := 22) hx hb dX6_mean_22 rfl (lv_at hl 1 rfl) ?_
      refine lv_iconst (pc := 23) (v := (1 : Int32)) hx hb dX6_mean_23 (by decide) ?_
      refine kx_iVi (pc := 24) [.int (1 : Int32)] hx hb hml hown hts hK hP hD hS (q6_found h) (cw6_86 hts ⟨Nat.le_of_ble_eq_true rfl, Nat.le_of_ble_eq_true rfl⟩) rfl (by decide) rfl rfl hl.1 rfl (Nat.le_of_ble_eq_true rfl) ⟨Nat.le_of_ble_eq_true rfl, Nat.le_of_ble_eq_true rfl⟩ dX6_mean_24 (fun r8 σ9 H locs hP hD hS h => ?_)
      exact kx_iret (pc := 27) hx hb hr hlocks hK hP hD hS h dX6_mean_27
def p6_text (σ : kx_St) (x1 : Int32) (x2 : Int32) (Q : kx_St → Int32 → Prop) : Prop := p6_pick σ 2 x1 (fun o1 => (o1 = none → p6_begin σ none x2 (32 : Int32) (fun σ4 r3 => Q σ4 r3)) ∧ (∀ b2, o1 = some b2 → kx_k 0 b2 = 5 ∧ (p6_begin σ (some b2) x2 (32 : Int32) (fun σ6 r5 => Q σ6 r5))))
set_option maxHeartbeats 4000000 in
theorem q6_text {σ : kx_St} {x1 : Int32} {x2 : Int32} {Q : kx_St → Int32 → Prop} (h : p6_text σ x1 x2 Q) : Met l yX6_text (Cond.code yX6_text cX6_text 3 (some .int) :: kx_big) rm6_text (va_Pc [.ref (ad 0), .int x1, .int x2] (kx_Wd D cy 0 ad A σ)) (kx_Qc kx_ci Q (kx_Wd D cy 0 ad A) A) 0 0 A := by
  refine kx_head (plainFor_of_name (by decide)) (Nat.le_of_ble_eq_true rfl) ?_
  intro p e s m below meth c ls cx hP hD hS hl
  obtain ⟨hx, hb, hr, hlocks, hml, hown, hts, hK⟩ := id cx
  have hl : lv_has ls 3 [(0, .ref (ad 0)), (1, .int x1), (2, .int x2)] := hl
  refine lv_aload_n (pc := 0) hx hb dX6_text_0 rfl (lv_at hl 0 rfl) ?_
  refine lv_aload_n (pc := 1) hx hb dX6_text_1 rfl (lv_at hl 0 rfl) ?_
  refine fg6_15 (pc := 2) (b := 2) hx hb hown hts hK hP rfl rfl dX6_text_2 ?_
  refine lv_iload_n (pc := 5) hx hb dX6_text_5 rfl (lv_at hl 1 rfl) ?_
  refine kx_iSr (pc := 6) [.ref (ad 2), .int x1] hx hb hml hown hts hK hP hD hS (q6_pick h) (cw6_74 hts ⟨Nat.le_of_ble_eq_true rfl, Nat.le_of_ble_eq_true rfl⟩) rfl hl.1 rfl (Nat.le_of_ble_eq_true rfl) ⟨Nat.le_of_ble_eq_true rfl, Nat.le_of_ble_eq_true rfl⟩ dX6_text_6 (fun o1 u_ H locs hP hD hS h => ?_)
  obtain ⟨hu_, h⟩ := h
  rw [hu_] at hP hD
  rcases o1 with _ | b2
  · have h := h.1 rfl
    refine lv_iload_n (pc := 9) hx hb dX6_text_9 rfl (lv_at hl 2 rfl) ?_
    refine lv_bipush (pc := 10) (v := (32 : Int32)) hx hb dX6_text_10 (by decide) ?_
    refine kx_iVi (pc := 12) [.null, .int x2, .int (32 : Int32)] hx hb hml hown hts hK hP hD hS (q6_begin h) (cw6_78 hts ⟨Nat.le_of_ble_eq_true rfl, Nat.le_of_ble_eq_true rfl⟩) rfl (by decide) rfl rfl hl.1 rfl (Nat.le_of_ble_eq_true rfl) ⟨Nat.le_of_ble_eq_true rfl, Nat.le_of_ble_eq_true rfl⟩ dX6_text_12 (fun r3 σ4 H locs hP hD hS h => ?_)
    exact kx_iret (pc := 15) hx hb hr hlocks hK hP hD hS h dX6_text_15
  · obtain ⟨hk_b2, h⟩ := h.2 b2 rfl
    refine lv_iload_n (pc := 9) hx hb dX6_text_9 rfl (lv_at hl 2 rfl) ?_
    refine lv_bipush (pc := 10) (v := (32 : Int32)) hx hb dX6_text_10 (by decide) ?_
    refine kx_iVi (pc := 12) [.ref (ad b2), .int x2, .int (32 : Int32)] hx hb hml hown hts hK hP hD hS (q6_begin h) (cw6_78 hts ⟨Nat.le_of_ble_eq_true rfl, Nat.le_of_ble_eq_true rfl⟩) rfl (by decide) rfl rfl hl.1 rfl (Nat.le_of_ble_eq_true rfl) ⟨Nat.le_of_ble_eq_true rfl, Nat.le_of_ble_eq_true rfl⟩ dX6_text_12 (fun r5 σ6 H locs hP hD hS h => ?_)
    exact kx_iret (pc := 15) hx hb hr hlocks hK hP hD hS h dX6_text_15
def p6_put (σ : kx_St) (x1 : Int32) (x2 : Int32) (x3 : Int32) (Q : kx_St → Int32 → Prop) : Prop := p6_pick σ 2 x1 (fun o1 => (o1 = none → Q σ (-1 : Int32)) ∧ (∀ b2, o1 = some b2 → kx_k 0 b2 = 5 ∧ (p5_isThere σ b2 (fun r3 => (¬ r3 = 0 → p5_holds σ b2 x2 (fun r5 => (¬ r5 = 0 → p5_get σ b2 x2 (fun r7 => p5_set σ b2 x2 (x3.toInt8.toInt32) (fun σ9 => Q σ9 (r7 + (1000 : Int32))))) ∧ (r5 = 0 → p6_found σ (2 : Int32) (fun σ11 r10 => Q σ11 r10)))) ∧ (r3 = 0 → p6_found σ (1 : Int32) (fun σ13 r12 => Q σ13 r12))))))
set_option maxHeartbeats 4000000 in
theorem q6_put {σ : kx_St} {x1 : Int32} {x2 : Int32} {x3 : Int32} {Q : kx_St → Int32 → Prop} (h : p6_put σ x1 x2 x3 Q) : Met l yX6_put (Cond.code yX6_put cX6_put 6 (some .int) :: kx_big) rm6_put (va_Pc [.ref (ad 0), .int x1, .int x2, .int x3] (kx_Wd D cy 0 ad A σ)) (kx_Qc kx_ci Q (kx_Wd D cy 0 ad A) A) 0 0 A := by
  refine kx_head (plainFor_of_name (by decide)) (Nat.le_of_ble_eq_true rfl) ?_
  intro p e s m below meth c ls cx hP hD hS hl
  obtain ⟨hx, hb, hr, hlocks, hml, hown, hts, hK⟩ := id cx
  have hl : lv_has ls 6 [(0, .ref (ad 0)), (1, .int x1), (2, .int x2), (3, .int x3)] := hl
  refine lv_aload_n (pc := 0) hx hb dX6_put_0 rfl (lv_at hl 0 rfl) ?_
  refine fg6_15 (pc := 1) (b := 2) hx hb hown hts hK hP rfl rfl dX6_put_1 ?_
  refine lv_iload_n (pc := 4) hx hb dX6_put_4 rfl (lv_at hl 1 rfl) ?_
  refine kx_iSr (pc := 5) [.ref (ad 2), .int x1] hx hb hml hown hts hK hP hD hS (q6_pick h) (cw6_74 hts ⟨Nat.le_of_ble_eq_true rfl, Nat.le_of_ble_eq_true rfl⟩) rfl hl.1 rfl (Nat.le_of_ble_eq_true rfl) ⟨Nat.le_of_ble_eq_true rfl, Nat.le_of_ble_eq_true rfl⟩ dX6_put_5 (fun o1 u_ H locs hP hD hS h => ?_)
  obtain ⟨hu_, h⟩ := h
  rw [hu_] at hP hD
  rcases o1 with _ | b2
  · have h := h.1 rfl
    refine lv_astoreN (pc := 8) (lv' := [(4, .null), (0, .ref (ad 0)), (1, .int x1), (2, .int x2), (3, .int x3)]) hx hb dX6_put_8 hl (by decide) rfl (fun ls hl => ?_)
    refine lv_aloadN (pc := 10) hx hb dX6_put_10 (lv_at hl 0 rfl) ?_
    refine lv_ifnonnullN (pc := 12) hx hb dX6_put_12 ?_
    refine lv_iconst (pc := 15) (v := (-1 : Int32)) hx hb dX6_put_15 (by decide) ?_
    exact kx_iret (pc := 16) hx hb hr hlocks hK hP hD hS h dX6_put_16
  · obtain ⟨hk_b2, h⟩ := h.2 b2 rfl
    refine lv_astore (pc := 8) (lv' := [(4, .ref (ad b2)), (0, .ref (ad 0)), (1, .int x1), (2, .int x2), (3, .int x3)]) hx hb dX6_put_8 hl (by decide) rfl (fun ls hl => ?_)
    refine lv_aload (pc := 10) hx hb dX6_put_10 (lv_at hl 0 rfl) ?_
    refine lv_ifnonnull (pc := 12) (tgt := 17) hx hb dX6_put_12 (by decide) ?_
    refine lv_aload (pc := 17) hx hb dX6_put_17 (lv_at hl 0 rfl) ?_
    refine kx_iVi (pc := 19) [] hx hb hml hown hts hK hP hD hS (q5_isThere h) (cw6_82 hts ⟨Nat.le_of_ble_eq_true rfl, Nat.le_of_ble_eq_true rfl⟩) hk_b2 (by decide) rfl rfl hl.1 rfl (Nat.le_of_ble_eq_true rfl) ⟨Nat.le_of_ble_eq_true rfl, Nat.le_of_ble_eq_true rfl⟩ dX6_put_19 (fun r3 u_ H locs hP hD hS h => ?_)
    obtain ⟨hu_, h⟩ := h
    rw [hu_] at hP hD
    refine lv_if_ne (pc := 22) (tgt := 31) hx hb dX6_put_22 (by decide) (fun c4 => ?_) (fun c4 => ?_)
    · have h := h.1 c4
      refine lv_aload (pc := 31) hx hb dX6_put_31 (lv_at hl 0 rfl) ?_
      refine lv_iload_n (pc := 33) hx hb dX6_put_33 rfl (lv_at hl 3 rfl) ?_
      refine kx_iVi (pc := 34) [.int x2] hx hb hml hown hts hK hP hD hS (q5_holds h) (cw6_90 hts ⟨Nat.le_of_ble_eq_true rfl, Nat.le_of_ble_eq_true rfl⟩) hk_b2 (by decide) rfl rfl hl.1 rfl (Nat.le_of_ble_eq_true rfl) ⟨Nat.le_of_ble_eq_true rfl, Nat.le_of_ble_eq_true rfl⟩ dX6_put_34 (fun r5 u_ H locs hP hD hS h => ?_)
      obtain ⟨hu_, h⟩ := h
      rw [hu_] at hP hD
      refine lv_if_ne (pc := 37) (tgt := 46) hx hb dX6_put_37 (by decide) (fun c6 => ?_) (fun c6 => ?_)
      · have h := h.1 c6
        refine lv_aload (pc := 46) hx hb dX6_put_46 (lv_at hl 0 rfl) ?_
        refine lv_iload_n (pc := 48) hx hb dX6_put_48 rfl (lv_at hl 3 rfl) ?_
        refine kx_iVi (pc := 49) [.int x2] hx hb hml hown hts hK hP hD hS (q5_get h) (cw6_94 hts ⟨Nat.le_of_ble_eq_true rfl, Nat.le_of_ble_eq_true rfl⟩) hk_b2 (by decide) rfl rfl hl.1 rfl (Nat.le_of_ble_eq_true rfl) ⟨Nat.le_of_ble_eq_true rfl, Nat.le_of_ble_eq_true rfl⟩ dX6_put_49 (fun r7 u_ H locs hP hD hS h => ?_)
        obtain ⟨hu_, h⟩ := h
        rw [hu_] at hP hD
        refine lv_istore (pc := 52) (lv' := [(5, .int r7), (4, .ref (ad b2)), (0, .ref (ad 0)), (1, .int x1), (2, .int x2), (3, .int x3)]) hx hb dX6_put_52 hl (by decide) rfl (fun ls hl => ?_)
        refine lv_aload (pc := 54) hx hb dX6_put_54 (lv_at hl 1 rfl) ?_
        refine lv_iload_n (pc := 56) hx hb dX6_put_56 rfl (lv_at hl 4 rfl) ?_
        refine lv_iload_n (pc := 57) hx hb dX6_put_57 rfl (lv_at hl 5 rfl) ?_
        refine lv_i2b (pc := 58) (v := (x3.toInt8.toInt32)) hx hb dX6_put_58 rfl ?_
        refine kx_iVv (pc := 59) [.int x2, .int (x3.toInt8.toInt32)] hx hb hml hown hts hK hP hD hS (q5_set h) (cw6_97 hts ⟨Nat.le_of_ble_eq_true rfl, Nat.le_of_ble_eq_true rfl⟩) hk_b2 (by decide) rfl rfl hl.1 rfl (Nat.le_of_ble_eq_true rfl) ⟨Nat.le_of_ble_eq_true rfl, Nat.le_of_ble_eq_true rfl⟩ dX6_put_59 (fun _ σ9 H locs hP hD hS h => ?_)
        refine lv_iload (pc := 62) hx hb dX6_put_62 (lv_at hl 0 rfl) ?_
        refine lv_sipush (pc := 64) (v := (1000 : Int32)) hx hb dX6_put_64 (by decide) ?_
        refine lv_iadd (pc := 67) hx hb dX6_put_67 ?_
        exact kx_iret (pc := 68) hx hb hr hlocks hK hP hD hS h dX6_put_68
      · have h := h.2 c6
        refine lv_aload_n (pc := 40) hx hb dX6_put_40 rfl (lv_at hl 1 rfl) ?_
        refine lv_iconst (pc := 41) (v := (2 : Int32)) hx hb dX6_put_41 (by decide) ?_
        refine kx_iVi (pc := 42) [.int (2 : Int32)] hx hb hml hown hts hK hP hD hS (q6_found h) (cw6_86 hts ⟨Nat.le_of_ble_eq_true rfl, Nat.le_of_ble_eq_true rfl⟩) rfl (by decide) rfl rfl hl.1 rfl (Nat.le_of_ble_eq_true rfl) ⟨Nat.le_of_ble_eq_true rfl, Nat.le_of_ble_eq_true rfl⟩ dX6_put_42 (fun r10 σ11 H locs hP hD hS h => ?_)
        exact kx_iret (pc := 45) hx hb hr hlocks hK hP hD hS h dX6_put_45
    · have h := h.2 c4
      refine lv_aload_n (pc := 25) hx hb dX6_put_25 rfl (lv_at hl 1 rfl) ?_
      refine lv_iconst (pc := 26) (v := (1 : Int32)) hx hb dX6_put_26 (by decide) ?_
      refine kx_iVi (pc := 27) [.int (1 : Int32)] hx hb hml hown hts hK hP hD hS (q6_found h) (cw6_86 hts ⟨Nat.le_of_ble_eq_true rfl, Nat.le_of_ble_eq_true rfl⟩) rfl (by decide) rfl rfl hl.1 rfl (Nat.le_of_ble_eq_true rfl) ⟨Nat.le_of_ble_eq_true rfl, Nat.le_of_ble_eq_true rfl⟩ dX6_put_27 (fun r12 σ13 H locs hP hD hS h => ?_)
      exact kx_iret (pc := 30) hx hb hr hlocks hK hP hD hS h dX6_put_30
def p6_fault (σ : kx_St) (x1 : Int32) (Q : kx_St → Int32 → Prop) : Prop := p6_pick σ 2 x1 (fun o1 => (o1 = none → Q σ (-1 : Int32)) ∧ (∀ b2, o1 = some b2 → kx_k 0 b2 = 5 ∧ (p5_isThere σ b2 (fun r3 => (¬ r3 = 0 → p4_read σ 9 b2 5 (fun σ6 r5 => Q σ6 r5)) ∧ (r3 = 0 → p6_found σ (1 : Int32) (fun σ8 r7 => Q σ8 r7))))))
set_option maxHeartbeats 4000000 in
theorem q6_fault {σ : kx_St} {x1 : Int32} {Q : kx_St → Int32 → Prop} (h : p6_fault σ x1 Q) : Met l yX6_fault (Cond.code yX6_fault cX6_fault 3 (some .int) :: kx_big) rm6_fault (va_Pc [.ref (ad 0), .int x1] (kx_Wd D cy 0 ad A σ)) (kx_Qc kx_ci Q (kx_Wd D cy 0 ad A) A) 0 0 A := by
  refine kx_head (plainFor_of_name (by decide)) (Nat.le_of_ble_eq_true rfl) ?_
  intro p e s m below meth c ls cx hP hD hS hl
  obtain ⟨hx, hb, hr, hlocks, hml, hown, hts, hK⟩ := id cx
  have hl : lv_has ls 3 [(0, .ref (ad 0)), (1, .int x1)] := hl
  refine lv_aload_n (pc := 0) hx hb dX6_fault_0 rfl (lv_at hl 0 rfl) ?_
  refine fg6_15 (pc := 1) (b := 2) hx hb hown hts hK hP rfl rfl dX6_fault_1 ?_
  refine lv_iload_n (pc := 4) hx hb dX6_fault_4 rfl (lv_at hl 1 rfl) ?_
  refine kx_iSr (pc := 5) [.ref (ad 2), .int x1] hx hb hml hown hts hK hP hD hS (q6_pick h) (cw6_74 hts ⟨Nat.le_of_ble_eq_true rfl, Nat.le_of_ble_eq_true rfl⟩) rfl hl.1 rfl (Nat.le_of_ble_eq_true rfl) ⟨Nat.le_of_ble_eq_true rfl, Nat.le_of_ble_eq_true rfl⟩ dX6_fault_5 (fun o1 u_ H locs hP hD hS h => ?_)
  obtain ⟨hu_, h⟩ := h
  rw [hu_] at hP hD
  rcases o1 with _ | b2
  · have h := h.1 rfl
    refine lv_astore_nN (pc := 8) (lv' := [(2, .null), (0, .ref (ad 0)), (1, .int x1)]) hx hb dX6_fault_8 rfl hl (by decide) rfl (fun ls hl => ?_)
    refine lv_aload_nN (pc := 9) hx hb dX6_fault_9 rfl (lv_at hl 0 rfl) ?_
    refine lv_ifnonnullN (pc := 10) hx hb dX6_fault_10 ?_
    refine lv_iconst (pc := 13) (v := (-1 : Int32)) hx hb dX6_fault_13 (by decide) ?_
    exact kx_iret (pc := 14) hx hb hr hlocks hK hP hD hS h dX6_fault_14
  · obtain ⟨hk_b2, h⟩ := h.2 b2 rfl
    refine lv_astore_n (pc := 8) (lv' := [(2, .ref (ad b2)), (0, .ref (ad 0)), (1, .int x1)]) hx hb dX6_fault_8 rfl hl (by decide) rfl (fun ls hl => ?_)
    refine lv_aload_n (pc := 9) hx hb dX6_fault_9 rfl (lv_at hl 0 rfl) ?_
    refine lv_ifnonnull (pc := 10) (tgt := 15) hx hb dX6_fault_10 (by decide) ?_
    refine lv_aload_n (pc := 15) hx hb dX6_fault_15 rfl (lv_at hl 0 rfl) ?_
    refine kx_iVi (pc := 16) [] hx hb hml hown hts hK hP hD hS (q5_isThere h) (cw6_82 hts ⟨Nat.le_of_ble_eq_true rfl, Nat.le_of_ble_eq_true rfl⟩) hk_b2 (by decide) rfl rfl hl.1 rfl (Nat.le_of_ble_eq_true rfl) ⟨Nat.le_of_ble_eq_true rfl, Nat.le_of_ble_eq_true rfl⟩ dX6_fault_16 (fun r3 u_ H locs hP hD hS h => ?_)
    obtain ⟨hu_, h⟩ := h
    rw [hu_] at hP hD
    refine lv_if_ne (pc := 19) (tgt := 28) hx hb dX6_fault_19 (by decide) (fun c4 => ?_) (fun c4 => ?_)
    · have h := h.1 c4
      refine lv_aload_n (pc := 28) hx hb dX6_fault_28 rfl (lv_at hl 1 rfl) ?_
      refine fg6_35 (pc := 29) (b := 9) hx hb hown hts hK hP rfl rfl dX6_fault_29 ?_
      refine lv_aload_n (pc := 32) hx hb dX6_fault_32 rfl (lv_at hl 0 rfl) ?_
      refine lv_aload_n (pc := 33) hx hb dX6_fault_33 rfl (lv_at hl 1 rfl) ?_
      refine fg6_29 (pc := 34) (b := 5) hx hb hown hts hK hP rfl rfl dX6_fault_34 ?_
      refine kx_iVi (pc := 37) [.ref (ad b2), .ref (ad 5)] hx hb hml hown hts hK hP hD hS (q4_read h) (cw6_120 hts ⟨Nat.le_of_ble_eq_true rfl, Nat.le_of_ble_eq_true rfl⟩) rfl (by decide) rfl rfl hl.1 rfl (Nat.le_of_ble_eq_true rfl) ⟨Nat.le_of_ble_eq_true rfl, Nat.le_of_ble_eq_true rfl⟩ dX6_fault_37 (fun r5 σ6 H locs hP hD hS h => ?_)
      exact kx_iret (pc := 40) hx hb hr hlocks hK hP hD hS h dX6_fault_40
    · have h := h.2 c4
      refine lv_aload_n (pc := 22) hx hb dX6_fault_22 rfl (lv_at hl 1 rfl) ?_
      refine lv_iconst (pc := 23) (v := (1 : Int32)) hx hb dX6_fault_23 (by decide) ?_
      refine kx_iVi (pc := 24) [.int (1 : Int32)] hx hb hml hown hts hK hP hD hS (q6_found h) (cw6_86 hts ⟨Nat.le_of_ble_eq_true rfl, Nat.le_of_ble_eq_true rfl⟩) rfl (by decide) rfl rfl hl.1 rfl (Nat.le_of_ble_eq_true rfl) ⟨Nat.le_of_ble_eq_true rfl, Nat.le_of_ble_eq_true rfl⟩ dX6_fault_24 (fun r7 σ8 H locs hP hD hS h => ?_)
      exact kx_iret (pc := 27) hx hb hr hlocks hK hP hD hS h dX6_fault_27
def p6_parish_L61 : Nat → kx_St → Int32 → (kx_St → Int32 → Prop) → Prop
  | 0, _, _, _ => False
  | n + 1, σ, x3, Q => ((Int32.ofNat 3) ≤ x3 → Q σ (σ.1 4 3)) ∧ (¬ (Int32.ofNat 3) ≤ x3 → vp_in x3 3 ∧ ((fun σ3 : kx_St => p6_parish_L61 n σ3 (x3 + (1 : Int32)) Q) (kx_sI σ (kx_r 0 3 x3.toNatClampNeg) 3 (0 : Int32))))
set_option maxHeartbeats 4000000 in
theorem w6_parish_L61  {Q : kx_St → Int32 → Prop} (cx : kx_Cx p s m args meth c D cy RX6 cX6_parish 4 (some .int))  : ∀ (n : Nat) (σ : kx_St) (x3 : Int32) (H : Heap) (locs : List Loc) (ls : Array Slot), p6_parish_L61 n σ x3 Q → va_P D vwCl (kx_ws cy 0 ad σ) H → va_D A (kx_ws cy 0 ad σ) → va_S A s.heap H locs → lv_has ls 4 [(0, .ref (ad 0)), (3, .int x3)] → W p l e rm6_parish s m args below meth c H locs 0 0 (MQ below (kx_Qc kx_ci Q (kx_Wd D cy 0 ad A) A) args s 0 0 A) (F0 m 61 ls []) := by
  obtain ⟨hx, hb, hr, hlocks, hml, hown, hts, hK⟩ := id cx
  intro n
  induction n with
  | zero => intro _ _ _ _ _ h; exact False.elim h
  | succ n ih =>
    intro σ x3 H locs ls h hP hD hS hl
    refine lv_iload_n (pc := 61) hx hb dX6_parish_61 rfl (lv_at hl 1 rfl) ?_
    refine lv_aload_n (pc := 62) hx hb dX6_parish_62 rfl (lv_at hl 0 rfl) ?_
    refine fg6_20 (pc := 63) (b := 3) hx hb hown hts hK hP rfl rfl dX6_parish_63 ?_
    refine kx_alen (pc := 66) hx hb hK hP rfl (by decide) (by decide) dX6_parish_66 ?_
    refine lv_icmp_ge (pc := 67) (tgt := 86) hx hb dX6_parish_67 (by decide) (fun c1 => ?_) (fun c1 => ?_)
    · have h := h.1 c1
      refine lv_aload_n (pc := 86) hx hb dX6_parish_86 rfl (lv_at hl 0 rfl) ?_
      refine fg6_25 (pc := 87) (b := 4) hx hb hown hts hK hP rfl rfl dX6_parish_87 ?_
      refine fg6_128 (pc := 90) hx hb hown hts hK hP rfl dX6_parish_90 ?_
      exact kx_iret (pc := 93) hx hb hr hlocks hK hP hD hS h dX6_parish_93
    · have h := h.2 c1
      refine lv_aload_n (pc := 70) hx hb dX6_parish_70 rfl (lv_at hl 0 rfl) ?_
      refine fg6_20 (pc := 71) (b := 3) hx hb hown hts hK hP rfl rfl dX6_parish_71 ?_
      refine lv_iload_n (pc := 74) hx hb dX6_parish_74 rfl (lv_at hl 1 rfl) ?_
      obtain ⟨g2, h⟩ := h
      refine kx_aald (pc := 75) hx hb hK hP rfl (by decide) (by decide) g2 dX6_parish_75 ?_
      refine lv_iconst (pc := 76) (v := (0 : Int32)) hx hb dX6_parish_76 (by decide) ?_
      refine fp6_128 (pc := 77) hx hb hown hts hK hP hD hS (ky_10 rfl g2) dX6_parish_77 (fun H locs hP hD hS => ?_)
      refine lv_iinc (pc := 80) (v := (x3 + (1 : Int32))) (lv' := [(3, .int (x3 + (1 : Int32))), (0, .ref (ad 0))]) hx hb dX6_parish_80 hl (k := 1) rfl rfl (by decide) rfl (fun ls hl => ?_)
      refine lv_goto (pc := 83) (tgt := 61) hx hb dX6_parish_83 (by decide) ?_
      exact ih _ _ _ _ _ h hP hD hS (lv_sub hl [1, 0] rfl)
def p6_parish (σ : kx_St) (x1 : Int32) (Q : kx_St → Int32 → Prop) : Prop := p6_pick σ 2 x1 (fun o1 => (o1 = none → Q σ (-1 : Int32)) ∧ (∀ b2, o1 = some b2 → kx_k 0 b2 = 5 ∧ (p5_isThere σ b2 (fun r3 => (¬ r3 = 0 → p4_read σ 9 b2 5 (fun σ6 r5 => (r5 = (-9 : Int32) → p3_takeFrom σ6 4 5 (fun σ9 => ∃ m61, p6_parish_L61 m61 σ9 (0 : Int32) Q)) ∧ (¬ r5 = (-9 : Int32) → Q σ6 (-4 : Int32)))) ∧ (r3 = 0 → p6_found σ (1 : Int32) (fun σ11 r10 => Q σ11 r10))))))
set_option maxHeartbeats 4000000 in
theorem q6_parish {σ : kx_St} {x1 : Int32} {Q : kx_St → Int32 → Prop} (h : p6_parish σ x1 Q) : Met l yX6_parish (Cond.code yX6_parish cX6_parish 4 (some .int) :: kx_big) rm6_parish (va_Pc [.ref (ad 0), .int x1] (kx_Wd D cy 0 ad A σ)) (kx_Qc kx_ci Q (kx_Wd D cy 0 ad A) A) 0 0 A := by
  refine kx_head (plainFor_of_name (by decide)) (Nat.le_of_ble_eq_true rfl) ?_
  intro p e s m below meth c ls cx hP hD hS hl
  obtain ⟨hx, hb, hr, hlocks, hml, hown, hts, hK⟩ := id cx
  have hl : lv_has ls 4 [(0, .ref (ad 0)), (1, .int x1)] := hl
  refine lv_aload_n (pc := 0) hx hb dX6_parish_0 rfl (lv_at hl 0 rfl) ?_
  refine fg6_15 (pc := 1) (b := 2) hx hb hown hts hK hP rfl rfl dX6_parish_1 ?_
  refine lv_iload_n (pc := 4) hx hb dX6_parish_4 rfl (lv_at hl 1 rfl) ?_
  refine kx_iSr (pc := 5) [.ref (ad 2), .int x1] hx hb hml hown hts hK hP hD hS (q6_pick h) (cw6_74 hts ⟨Nat.le_of_ble_eq_true rfl, Nat.le_of_ble_eq_true rfl⟩) rfl hl.1 rfl (Nat.le_of_ble_eq_true rfl) ⟨Nat.le_of_ble_eq_true rfl, Nat.le_of_ble_eq_true rfl⟩ dX6_parish_5 (fun o1 u_ H locs hP hD hS h => ?_)
  obtain ⟨hu_, h⟩ := h
  rw [hu_] at hP hD
  rcases o1 with _ | b2
  · have h := h.1 rfl
    refine lv_astore_nN (pc := 8) (lv' := [(2, .null), (0, .ref (ad 0)), (1, .int x1)]) hx hb dX6_parish_8 rfl hl (by decide) rfl (fun ls hl => ?_)
    refine lv_aload_nN (pc := 9) hx hb dX6_parish_9 rfl (lv_at hl 0 rfl) ?_
    refine lv_ifnonnullN (pc := 10) hx hb dX6_parish_10 ?_
    refine lv_iconst (pc := 13) (v := (-1 : Int32)) hx hb dX6_parish_13 (by decide) ?_
    exact kx_iret (pc := 14) hx hb hr hlocks hK hP hD hS h dX6_parish_14
  · obtain ⟨hk_b2, h⟩ := h.2 b2 rfl
    refine lv_astore_n (pc := 8) (lv' := [(2, .ref (ad b2)), (0, .ref (ad 0)), (1, .int x1)]) hx hb dX6_parish_8 rfl hl (by decide) rfl (fun ls hl => ?_)
    refine lv_aload_n (pc := 9) hx hb dX6_parish_9 rfl (lv_at hl 0 rfl) ?_
    refine lv_ifnonnull (pc := 10) (tgt := 15) hx hb dX6_parish_10 (by decide) ?_
    refine lv_aload_n (pc := 15) hx hb dX6_parish_15 rfl (lv_at hl 0 rfl) ?_
    refine kx_iVi (pc := 16) [] hx hb hml hown hts hK hP hD hS (q5_isThere h) (cw6_82 hts ⟨Nat.le_of_ble_eq_true rfl, Nat.le_of_ble_eq_true rfl⟩) hk_b2 (by decide) rfl rfl hl.1 rfl (Nat.le_of_ble_eq_true rfl) ⟨Nat.le_of_ble_eq_true rfl, Nat.le_of_ble_eq_true rfl⟩ dX6_parish_16 (fun r3 u_ H locs hP hD hS h => ?_)
    obtain ⟨hu_, h⟩ := h
    rw [hu_] at hP hD
    refine lv_if_ne (pc := 19) (tgt := 28) hx hb dX6_parish_19 (by decide) (fun c4 => ?_) (fun c4 => ?_)
    · have h := h.1 c4
      refine lv_aload_n (pc := 28) hx hb dX6_parish_28 rfl (lv_at hl 1 rfl) ?_
      refine fg6_35 (pc := 29) (b := 9) hx hb hown hts hK hP rfl rfl dX6_parish_29 ?_
      refine lv_aload_n (pc := 32) hx hb dX6_parish_32 rfl (lv_at hl 0 rfl) ?_
      refine lv_aload_n (pc := 33) hx hb dX6_parish_33 rfl (lv_at hl 1 rfl) ?_
      refine fg6_29 (pc := 34) (b := 5) hx hb hown hts hK hP rfl rfl dX6_parish_34 ?_
      refine kx_iVi (pc := 37) [.ref (ad b2), .ref (ad 5)] hx hb hml hown hts hK hP hD hS (q4_read h) (cw6_120 hts ⟨Nat.le_of_ble_eq_true rfl, Nat.le_of_ble_eq_true rfl⟩) rfl (by decide) rfl rfl hl.1 rfl (Nat.le_of_ble_eq_true rfl) ⟨Nat.le_of_ble_eq_true rfl, Nat.le_of_ble_eq_true rfl⟩ dX6_parish_37 (fun r5 σ6 H locs hP hD hS h => ?_)
      refine lv_bipush (pc := 40) (v := (-9 : Int32)) hx hb dX6_parish_40 (by decide) ?_
      refine lv_icmp_eq (pc := 42) (tgt := 48) hx hb dX6_parish_42 (by decide) (fun c7 => ?_) (fun c7 => ?_)
      · have h := h.1 c7
        refine lv_aload_n (pc := 48) hx hb dX6_parish_48 rfl (lv_at hl 1 rfl) ?_
        refine fg6_25 (pc := 49) (b := 4) hx hb hown hts hK hP rfl rfl dX6_parish_49 ?_
        refine lv_aload_n (pc := 52) hx hb dX6_parish_52 rfl (lv_at hl 1 rfl) ?_
        refine fg6_29 (pc := 53) (b := 5) hx hb hown hts hK hP rfl rfl dX6_parish_53 ?_
        refine kx_iVv (pc := 56) [.ref (ad 5)] hx hb hml hown hts hK hP hD hS (q3_takeFrom h) (cw6_124 hts ⟨Nat.le_of_ble_eq_true rfl, Nat.le_of_ble_eq_true rfl⟩) rfl (by decide) rfl rfl hl.1 rfl (Nat.le_of_ble_eq_true rfl) ⟨Nat.le_of_ble_eq_true rfl, Nat.le_of_ble_eq_true rfl⟩ dX6_parish_56 (fun _ σ9 H locs hP hD hS h => ?_)
        refine lv_iconst (pc := 59) (v := (0 : Int32)) hx hb dX6_parish_59 (by decide) ?_
        refine lv_istore_n (pc := 60) (lv' := [(3, .int (0 : Int32)), (2, .ref (ad b2)), (0, .ref (ad 0)), (1, .int x1)]) hx hb dX6_parish_60 rfl hl (by decide) rfl (fun ls hl => ?_)
        obtain ⟨n0, h⟩ := h
        exact w6_parish_L61 cx  n0 _ _ _ _ _ h hP hD hS (lv_sub hl [2, 0] rfl)
      · have h := h.2 c7
        refine lv_bipush (pc := 45) (v := (-4 : Int32)) hx hb dX6_parish_45 (by decide) ?_
        exact kx_iret (pc := 47) hx hb hr hlocks hK hP hD hS h dX6_parish_47
    · have h := h.2 c4
      refine lv_aload_n (pc := 22) hx hb dX6_parish_22 rfl (lv_at hl 1 rfl) ?_
      refine lv_iconst (pc := 23) (v := (1 : Int32)) hx hb dX6_parish_23 (by decide) ?_
      refine kx_iVi (pc := 24) [.int (1 : Int32)] hx hb hml hown hts hK hP hD hS (q6_found h) (cw6_86 hts ⟨Nat.le_of_ble_eq_true rfl, Nat.le_of_ble_eq_true rfl⟩) rfl (by decide) rfl rfl hl.1 rfl (Nat.le_of_ble_eq_true rfl) ⟨Nat.le_of_ble_eq_true rfl, Nat.le_of_ble_eq_true rfl⟩ dX6_parish_24 (fun r10 σ11 H locs hP hD hS h => ?_)
      exact kx_iret (pc := 27) hx hb hr hlocks hK hP hD hS h dX6_parish_27
def p6_ofKite (σ : kx_St) (x1 : Nat) (x2 : Int32) (Q : Int32 → Prop) : Prop := kx_k 0 x1 = 1 ∧ (p3_windIn σ 4 (0 : Int32) (fun r1 => (x2 = (0 : Int32) → Q (σ.1 x1 0)) ∧ (¬ x2 = (0 : Int32) → (x2 = (1 : Int32) → Q (σ.1 x1 1)) ∧ (¬ x2 = (1 : Int32) → (x2 = (2 : Int32) → Q (σ.1 x1 2)) ∧ (¬ x2 = (2 : Int32) → (x2 = (3 : Int32) → Q (σ.1 x1 3)) ∧ (¬ x2 = (3 : Int32) → (x2 = (4 : Int32) → p1_liftIn σ x1 r1 (fun r7 => Q r7)) ∧ (¬ x2 = (4 : Int32) → (x2 = (5 : Int32) → p1_payIn σ x1 r1 (fun r9 => Q r9)) ∧ (¬ x2 = (5 : Int32) → Q (σ.1 x1 4)))))))))
set_option maxHeartbeats 4000000 in
theorem q6_ofKite {σ : kx_St} {x1 : Nat} {x2 : Int32} {Q : Int32 → Prop} (h : p6_ofKite σ x1 x2 Q) : Met l yX6_ofKite (Cond.code yX6_ofKite cX6_ofKite 4 (some .int) :: kx_big) rm6_ofKite (va_Pc [.ref (ad 0), .ref (ad x1), .int x2] (kx_Wd D cy 0 ad A σ)) (kx_Qc kx_ci (fun u r => u = σ ∧ Q r) (kx_Wd D cy 0 ad A) A) 0 0 A := by
  refine kx_head (plainFor_of_name (by decide)) (Nat.le_of_ble_eq_true rfl) ?_
  intro p e s m below meth c ls cx hP hD hS hl
  obtain ⟨hx, hb, hr, hlocks, hml, hown, hts, hK⟩ := id cx
  obtain ⟨hk_x1, h⟩ := h
  have hl : lv_has ls 4 [(0, .ref (ad 0)), (1, .ref (ad x1)), (2, .int x2)] := hl
  refine lv_aload_n (pc := 0) hx hb dX6_ofKite_0 rfl (lv_at hl 0 rfl) ?_
  refine fg6_25 (pc := 1) (b := 4) hx hb hown hts hK hP rfl rfl dX6_ofKite_1 ?_
  refine lv_iconst (pc := 4) (v := (0 : Int32)) hx hb dX6_ofKite_4 (by decide) ?_
  refine kx_iVi (pc := 5) [.int (0 : Int32)] hx hb hml hown hts hK hP hD hS (q3_windIn h) (cw6_144 hts ⟨Nat.le_of_ble_eq_true rfl, Nat.le_of_ble_eq_true rfl⟩) rfl (by decide) rfl rfl hl.1 rfl (Nat.le_of_ble_eq_true rfl) ⟨Nat.le_of_ble_eq_true rfl, Nat.le_of_ble_eq_true rfl⟩ dX6_ofKite_5 (fun r1 u_ H locs hP hD hS h => ?_)
  obtain ⟨hu_, h⟩ := h
  rw [hu_] at hP hD
  refine lv_istore_n (pc := 8) (lv' := [(3, .int r1), (0, .ref (ad 0)), (1, .ref (ad x1)), (2, .int x2)]) hx hb dX6_ofKite_8 rfl hl (by decide) rfl (fun ls hl => ?_)
  refine lv_iload_n (pc := 9) hx hb dX6_ofKite_9 rfl (lv_at hl 3 rfl) ?_
  by_cases c2 : x2 = (0 : Int32)
  · have h := h.1 c2
    refine lv_tableIn (pc := 10) (tgt := 48) hx hb dX6_ofKite_10 (by rw [c2]; decide) (by rw [c2]; decide) (off := 38) (by rw [c2]; rfl) (by decide) ?_
    refine lv_aload_n (pc := 48) hx hb dX6_ofKite_48 rfl (lv_at hl 2 rfl) ?_
    refine fg6_236 (pc := 49) hx hb hown hts hK hP hk_x1 dX6_ofKite_49 ?_
    exact kx_iret (pc := 52) hx hb hr hlocks hK hP hD hS ⟨rfl, h⟩ dX6_ofKite_52
  · have h := h.2 c2
    by_cases c3 : x2 = (1 : Int32)
    · have h := h.1 c3
      refine lv_tableIn (pc := 10) (tgt := 53) hx hb dX6_ofKite_10 (by rw [c3]; decide) (by rw [c3]; decide) (off := 43) (by rw [c3]; rfl) (by decide) ?_
      refine lv_aload_n (pc := 53) hx hb dX6_ofKite_53 rfl (lv_at hl 2 rfl) ?_
      refine fg6_313 (pc := 54) hx hb hown hts hK hP hk_x1 dX6_ofKite_54 ?_
      exact kx_iret (pc := 57) hx hb hr hlocks hK hP hD hS ⟨rfl, h⟩ dX6_ofKite_57
    · have h := h.2 c3
      by_cases c4 : x2 = (2 : Int32)
      · have h := h.1 c4
        refine lv_tableIn (pc := 10) (tgt := 58) hx hb dX6_ofKite_10 (by rw [c4]; decide) (by rw [c4]; decide) (off := 48) (by rw [c4]; rfl) (by decide) ?_
        refine lv_aload_n (pc := 58) hx hb dX6_ofKite_58 rfl (lv_at hl 2 rfl) ?_
        refine fg6_316 (pc := 59) hx hb hown hts hK hP hk_x1 dX6_ofKite_59 ?_
        exact kx_iret (pc := 62) hx hb hr hlocks hK hP hD hS ⟨rfl, h⟩ dX6_ofKite_62
      · have h := h.2 c4
        by_cases c5 : x2 = (3 : Int32)
        · have h := h.1 c5
          refine lv_tableIn (pc := 10) (tgt := 63) hx hb dX6_ofKite_10 (by rw [c5]; decide) (by rw [c5]; decide) (off := 53) (by rw [c5]; rfl) (by decide) ?_
          refine lv_aload_n (pc := 63) hx hb dX6_ofKite_63 rfl (lv_at hl 2 rfl) ?_
          refine fg6_147 (pc := 64) hx hb hown hts hK hP hk_x1 dX6_ofKite_64 ?_
          exact kx_iret (pc := 67) hx hb hr hlocks hK hP hD hS ⟨rfl, h⟩ dX6_ofKite_67
        · have h := h.2 c5
          by_cases c6 : x2 = (4 : Int32)
          · have h := h.1 c6
            refine lv_tableIn (pc := 10) (tgt := 68) hx hb dX6_ofKite_10 (by rw [c6]; decide) (by rw [c6]; decide) (off := 58) (by rw [c6]; rfl) (by decide) ?_
            refine lv_aload_n (pc := 68) hx hb dX6_ofKite_68 rfl (lv_at hl 2 rfl) ?_
            refine lv_iload_n (pc := 69) hx hb dX6_ofKite_69 rfl (lv_at hl 0 rfl) ?_
            refine kx_iVi (pc := 70) [.int r1] hx hb hml hown hts hK hP hD hS (q1_liftIn h) (cw6_154 hts ⟨Nat.le_of_ble_eq_true rfl, Nat.le_of_ble_eq_true rfl⟩) hk_x1 (by decide) rfl rfl hl.1 rfl (Nat.le_of_ble_eq_true rfl) ⟨Nat.le_of_ble_eq_true rfl, Nat.le_of_ble_eq_true rfl⟩ dX6_ofKite_70 (fun r7 u_ H locs hP hD hS h => ?_)
            obtain ⟨hu_, h⟩ := h
            rw [hu_] at hP hD
            exact kx_iret (pc := 73) hx hb hr hlocks hK hP hD hS ⟨rfl, h⟩ dX6_ofKite_73
          · have h := h.2 c6
            by_cases c8 : x2 = (5 : Int32)
            · have h := h.1 c8
              refine lv_tableIn (pc := 10) (tgt := 74) hx hb dX6_ofKite_10 (by rw [c8]; decide) (by rw [c8]; decide) (off := 64) (by rw [c8]; rfl) (by decide) ?_
              refine lv_aload_n (pc := 74) hx hb dX6_ofKite_74 rfl (lv_at hl 2 rfl) ?_
              refine lv_iload_n (pc := 75) hx hb dX6_ofKite_75 rfl (lv_at hl 0 rfl) ?_
              refine kx_iVi (pc := 76) [.int r1] hx hb hml hown hts hK hP hD hS (q1_payIn h) (cw6_173 hts ⟨Nat.le_of_ble_eq_true rfl, Nat.le_of_ble_eq_true rfl⟩) hk_x1 (by decide) rfl rfl hl.1 rfl (Nat.le_of_ble_eq_true rfl) ⟨Nat.le_of_ble_eq_true rfl, Nat.le_of_ble_eq_true rfl⟩ dX6_ofKite_76 (fun r9 u_ H locs hP hD hS h => ?_)
              obtain ⟨hu_, h⟩ := h
              rw [hu_] at hP hD
              exact kx_iret (pc := 79) hx hb hr hlocks hK hP hD hS ⟨rfl, h⟩ dX6_ofKite_79
            · have h := h.2 c8
              have tc2 : x2.toInt ≠ 0 := fun q => c2 (Int32.toInt_inj.mp (q.trans (by decide)))
              have tc3 : x2.toInt ≠ 1 := fun q => c3 (Int32.toInt_inj.mp (q.trans (by decide)))
              have tc4 : x2.toInt ≠ 2 := fun q => c4 (Int32.toInt_inj.mp (q.trans (by decide)))
              have tc5 : x2.toInt ≠ 3 := fun q => c5 (Int32.toInt_inj.mp (q.trans (by decide)))
              have tc6 : x2.toInt ≠ 4 := fun q => c6 (Int32.toInt_inj.mp (q.trans (by decide)))
              have tc8 : x2.toInt ≠ 5 := fun q => c8 (Int32.toInt_inj.mp (q.trans (by decide)))
              refine lv_tableOut (pc := 10) (tgt := 80) hx hb dX6_ofKite_10 (kx_swd (fun k q1 q2 => by omega)) (by decide) ?_
              refine lv_aload_n (pc := 80) hx hb dX6_ofKite_80 rfl (lv_at hl 2 rfl) ?_
              refine fg6_185 (pc := 81) hx hb hown hts hK hP hk_x1 dX6_ofKite_81 ?_
              exact kx_iret (pc := 84) hx hb hr hlocks hK hP hD hS ⟨rfl, h⟩ dX6_ofKite_84
def p6_kite (σ : kx_St) (x1 : Int32) (x2 : Int32) (Q : kx_St → Int32 → Prop) : Prop := p3_kiteAt σ 4 x1 (fun o1 => (o1 = none → Q σ (-1 : Int32)) ∧ (∀ b2, o1 = some b2 → kx_k 0 b2 = 1 ∧ ((x2 < 0 → Q σ (-1 : Int32)) ∧ (¬ x2 < 0 → (x2 < (7 : Int32) → p6_ofKite σ b2 x2 (fun r5 => (fun σ6 : kx_St => Q σ6 (1 : Int32)) (kx_sI σ 0 10 r5))) ∧ (¬ x2 < (7 : Int32) → Q σ (-1 : Int32))))))
set_option maxHeartbeats 4000000 in
theorem q6_kite {σ : kx_St} {x1 : Int32} {x2 : Int32} {Q : kx_St → Int32 → Prop} (h : p6_kite σ x1 x2 Q) : Met l yX6_kite (Cond.code yX6_kite cX6_kite 4 (some .int) :: kx_big) rm6_kite (va_Pc [.ref (ad 0), .int x1, .int x2] (kx_Wd D cy 0 ad A σ)) (kx_Qc kx_ci Q (kx_Wd D cy 0 ad A) A) 0 0 A := by
  refine kx_head (plainFor_of_name (by decide)) (Nat.le_of_ble_eq_true rfl) ?_
  intro p e s m below meth c ls cx hP hD hS hl
  obtain ⟨hx, hb, hr, hlocks, hml, hown, hts, hK⟩ := id cx
  have hl : lv_has ls 4 [(0, .ref (ad 0)), (1, .int x1), (2, .int x2)] := hl
  refine lv_aload_n (pc := 0) hx hb dX6_kite_0 rfl (lv_at hl 0 rfl) ?_
  refine fg6_25 (pc := 1) (b := 4) hx hb hown hts hK hP rfl rfl dX6_kite_1 ?_
  refine lv_iload_n (pc := 4) hx hb dX6_kite_4 rfl (lv_at hl 1 rfl) ?_
  refine kx_iVr (pc := 5) [.int x1] hx hb hml hown hts hK hP hD hS (q3_kiteAt h) (cw6_131 hts ⟨Nat.le_of_ble_eq_true rfl, Nat.le_of_ble_eq_true rfl⟩) rfl (by decide) rfl rfl hl.1 rfl (Nat.le_of_ble_eq_true rfl) ⟨Nat.le_of_ble_eq_true rfl, Nat.le_of_ble_eq_true rfl⟩ dX6_kite_5 (fun o1 u_ H locs hP hD hS h => ?_)
  obtain ⟨hu_, h⟩ := h
  rw [hu_] at hP hD
  rcases o1 with _ | b2
  · have h := h.1 rfl
    refine lv_astore_nN (pc := 8) (lv' := [(3, .null), (0, .ref (ad 0)), (1, .int x1), (2, .int x2)]) hx hb dX6_kite_8 rfl hl (by decide) rfl (fun ls hl => ?_)
    refine lv_aload_nN (pc := 9) hx hb dX6_kite_9 rfl (lv_at hl 0 rfl) ?_
    refine lv_ifnullN (pc := 10) (tgt := 23) hx hb dX6_kite_10 (by decide) ?_
    refine lv_iconst (pc := 23) (v := (-1 : Int32)) hx hb dX6_kite_23 (by decide) ?_
    exact kx_iret (pc := 24) hx hb hr hlocks hK hP hD hS h dX6_kite_24
  · obtain ⟨hk_b2, h⟩ := h.2 b2 rfl
    refine lv_astore_n (pc := 8) (lv' := [(3, .ref (ad b2)), (0, .ref (ad 0)), (1, .int x1), (2, .int x2)]) hx hb dX6_kite_8 rfl hl (by decide) rfl (fun ls hl => ?_)
    refine lv_aload_n (pc := 9) hx hb dX6_kite_9 rfl (lv_at hl 0 rfl) ?_
    refine lv_ifnull (pc := 10) hx hb dX6_kite_10 ?_
    refine lv_iload_n (pc := 13) hx hb dX6_kite_13 rfl (lv_at hl 3 rfl) ?_
    refine lv_if_lt (pc := 14) (tgt := 23) hx hb dX6_kite_14 (by decide) (fun c3 => ?_) (fun c3 => ?_)
    · have h := h.1 c3
      refine lv_iconst (pc := 23) (v := (-1 : Int32)) hx hb dX6_kite_23 (by decide) ?_
      exact kx_iret (pc := 24) hx hb hr hlocks hK hP hD hS h dX6_kite_24
    · have h := h.2 c3
      refine lv_iload_n (pc := 17) hx hb dX6_kite_17 rfl (lv_at hl 3 rfl) ?_
      refine lv_bipush (pc := 18) (v := (7 : Int32)) hx hb dX6_kite_18 (by decide) ?_
      refine lv_icmp_lt (pc := 20) (tgt := 25) hx hb dX6_kite_20 (by decide) (fun c4 => ?_) (fun c4 => ?_)
      · have h := h.1 c4
        refine lv_aload_n (pc := 25) hx hb dX6_kite_25 rfl (lv_at hl 1 rfl) ?_
        refine lv_aload_n (pc := 26) hx hb dX6_kite_26 rfl (lv_at hl 1 rfl) ?_
        refine lv_aload_n (pc := 27) hx hb dX6_kite_27 rfl (lv_at hl 0 rfl) ?_
        refine lv_iload_n (pc := 28) hx hb dX6_kite_28 rfl (lv_at hl 3 rfl) ?_
        refine kx_iVi (pc := 29) [.ref (ad b2), .int x2] hx hb hml hown hts hK hP hD hS (q6_ofKite h) (cw6_135 hts ⟨Nat.le_of_ble_eq_true rfl, Nat.le_of_ble_eq_true rfl⟩) rfl (by decide) rfl rfl hl.1 rfl (Nat.le_of_ble_eq_true rfl) ⟨Nat.le_of_ble_eq_true rfl, Nat.le_of_ble_eq_true rfl⟩ dX6_kite_29 (fun r5 u_ H locs hP hD hS h => ?_)
        obtain ⟨hu_, h⟩ := h
        rw [hu_] at hP hD
        refine fp6_61 (pc := 32) hx hb hown hts hK hP hD hS rfl dX6_kite_32 (fun H locs hP hD hS => ?_)
        refine lv_iconst (pc := 35) (v := (1 : Int32)) hx hb dX6_kite_35 (by decide) ?_
        exact kx_iret (pc := 36) hx hb hr hlocks hK hP hD hS h dX6_kite_36
      · have h := h.2 c4
        refine lv_iconst (pc := 23) (v := (-1 : Int32)) hx hb dX6_kite_23 (by decide) ?_
        exact kx_iret (pc := 24) hx hb hr hlocks hK hP hD hS h dX6_kite_24
def p6_greatestWindLifting_L3 : Nat → kx_St → Nat → Int32 → (Int32 → Prop) → Prop
  | 0, _, _, _, _ => False
  | n + 1, σ, x0, x1, Q => (x1 < 0 → Q (-9 : Int32)) ∧ (¬ x1 < 0 → p1_liftIn σ x0 x1 (fun r2 => (r2 ≤ 0 → p6_greatestWindLifting_L3 n σ x0 (x1 + (-1 : Int32)) Q) ∧ (¬ r2 ≤ 0 → Q x1)))
set_option maxHeartbeats 4000000 in
theorem w6_greatestWindLifting_L3 {σ : kx_St}  {Q : Int32 → Prop} (cx : kx_Cx p s m args meth c D cy RX6 cX6_greatestWindLifting 2 (some .int))  : ∀ (n : Nat) (x0 : Nat) (x1 : Int32) (H : Heap) (locs : List Loc) (ls : Array Slot), kx_k 0 x0 = 1 → p6_greatestWindLifting_L3 n σ x0 x1 Q → va_P D vwCl (kx_ws cy 0 ad σ) H → va_D A (kx_ws cy 0 ad σ) → va_S A s.heap H locs → lv_has ls 2 [(0, .ref (ad x0)), (1, .int x1)] → W p l e rm6_greatestWindLifting s m args below meth c H locs 0 0 (MQ below (kx_Qc kx_ci (fun u r => u = σ ∧ Q r) (kx_Wd D cy 0 ad A) A) args s 0 0 A) (F0 m 3 ls []) := by
  obtain ⟨hx, hb, hr, hlocks, hml, hown, hts, hK⟩ := id cx
  intro n
  induction n with
  | zero => intro _ _ _ _ _ _ h; exact False.elim h
  | succ n ih =>
    intro x0 x1 H locs ls hk_x0 h hP hD hS hl
    refine lv_iload_n (pc := 3) hx hb dX6_greatestWindLifting_3 rfl (lv_at hl 1 rfl) ?_
    refine lv_if_lt (pc := 4) (tgt := 23) hx hb dX6_greatestWindLifting_4 (by decide) (fun c1 => ?_) (fun c1 => ?_)
    · have h := h.1 c1
      refine lv_bipush (pc := 23) (v := (-9 : Int32)) hx hb dX6_greatestWindLifting_23 (by decide) ?_
      exact kx_iret (pc := 25) hx hb hr hlocks hK hP hD hS ⟨rfl, h⟩ dX6_greatestWindLifting_25
    · have h := h.2 c1
      refine lv_aload_n (pc := 7) hx hb dX6_greatestWindLifting_7 rfl (lv_at hl 0 rfl) ?_
      refine lv_iload_n (pc := 8) hx hb dX6_greatestWindLifting_8 rfl (lv_at hl 1 rfl) ?_
      refine kx_iVi (pc := 9) [.int x1] hx hb hml hown hts hK hP hD hS (q1_liftIn h) (cw6_154 hts ⟨Nat.le_of_ble_eq_true rfl, Nat.le_of_ble_eq_true rfl⟩) hk_x0 (by decide) rfl rfl hl.1 rfl (Nat.le_of_ble_eq_true rfl) ⟨Nat.le_of_ble_eq_true rfl, Nat.le_of_ble_eq_true rfl⟩ dX6_greatestWindLifting_9 (fun r2 u_ H locs hP hD hS h => ?_)
      obtain ⟨hu_, h⟩ := h
      rw [hu_] at hP hD
      refine lv_if_le (pc := 12) (tgt := 17) hx hb dX6_greatestWindLifting_12 (by decide) (fun c3 => ?_) (fun c3 => ?_)
      · have h := h.1 c3
        refine lv_iinc (pc := 17) (v := (x1 + (-1 : Int32))) (lv' := [(1, .int (x1 + (-1 : Int32))), (0, .ref (ad x0))]) hx hb dX6_greatestWindLifting_17 hl (k := 1) rfl rfl (by decide) rfl (fun ls hl => ?_)
        refine lv_goto (pc := 20) (tgt := 3) hx hb dX6_greatestWindLifting_20 (by decide) ?_
        exact ih _ _ _ _ _ hk_x0 h hP hD hS (lv_sub hl [1, 0] rfl)
      · have h := h.2 c3
        refine lv_iload_n (pc := 15) hx hb dX6_greatestWindLifting_15 rfl (lv_at hl 1 rfl) ?_
        exact kx_iret (pc := 16) hx hb hr hlocks hK hP hD hS ⟨rfl, h⟩ dX6_greatestWindLifting_16
def p6_greatestWindLifting (σ : kx_St) (x0 : Nat) (Q : Int32 → Prop) : Prop := kx_k 0 x0 = 1 ∧ (∃ m3, p6_greatestWindLifting_L3 m3 σ x0 (9 : Int32) Q)
set_option maxHeartbeats 4000000 in
theorem q6_greatestWindLifting {σ : kx_St} {x0 : Nat} {Q : Int32 → Prop} (h : p6_greatestWindLifting σ x0 Q) : Met l yX6_greatestWindLifting (Cond.code yX6_greatestWindLifting cX6_greatestWindLifting 2 (some .int) :: kx_big) rm6_greatestWindLifting (va_Pc [.ref (ad x0)] (kx_Wd D cy 0 ad A σ)) (kx_Qc kx_ci (fun u r => u = σ ∧ Q r) (kx_Wd D cy 0 ad A) A) 0 0 A := by
  refine kx_head (plainFor_of_name (by decide)) (Nat.le_of_ble_eq_true rfl) ?_
  intro p e s m below meth c ls cx hP hD hS hl
  obtain ⟨hx, hb, hr, hlocks, hml, hown, hts, hK⟩ := id cx
  obtain ⟨hk_x0, h⟩ := h
  have hl : lv_has ls 2 [(0, .ref (ad x0))] := hl
  refine lv_bipush (pc := 0) (v := (9 : Int32)) hx hb dX6_greatestWindLifting_0 (by decide) ?_
  refine lv_istore_n (pc := 2) (lv' := [(1, .int (9 : Int32)), (0, .ref (ad x0))]) hx hb dX6_greatestWindLifting_2 rfl hl (by decide) rfl (fun ls hl => ?_)
  obtain ⟨n0, h⟩ := h
  exact w6_greatestWindLifting_L3 cx  n0 _ _ _ _ _ hk_x0 h hP hD hS (lv_sub hl [1, 0] rfl)
def p6_windsAboveHandkerchief_L4 : Nat → kx_St → Nat → Int32 → Int32 → (Int32 → Prop) → Prop
  | 0, _, _, _, _, _ => False
  | n + 1, σ, x0, x1, x2, Q => ((9 : Int32) < x2 → Q x1) ∧ (¬ (9 : Int32) < x2 → p1_liftIn σ x0 x2 (fun r2 => p1_liftAs σ x0 (1 : Int32) (σ.1 x0 3) x2 (fun r3 => (r2 ≤ r3 → p6_windsAboveHandkerchief_L4 n σ x0 x1 (x2 + (1 : Int32)) Q) ∧ (¬ r2 ≤ r3 → p6_windsAboveHandkerchief_L4 n σ x0 (x1 + (1 : Int32)) (x2 + (1 : Int32)) Q))))
set_option maxHeartbeats 4000000 in
theorem w6_windsAboveHandkerchief_L4 {σ : kx_St}  {Q : Int32 → Prop} (cx : kx_Cx p s m args meth c D cy RX6 cX6_windsAboveHandkerchief 3 (some .int))  : ∀ (n : Nat) (x0 : Nat) (x1 : Int32) (x2 : Int32) (H : Heap) (locs : List Loc) (ls : Array Slot), kx_k 0 x0 = 1 → p6_windsAboveHandkerchief_L4 n σ x0 x1 x2 Q → va_P D vwCl (kx_ws cy 0 ad σ) H → va_D A (kx_ws cy 0 ad σ) → va_S A s.heap H locs → lv_has ls 3 [(0, .ref (ad x0)), (1, .int x1), (2, .int x2)] → W p l e rm6_windsAboveHandkerchief s m args below meth c H locs 0 0 (MQ below (kx_Qc kx_ci (fun u r => u = σ ∧ Q r) (kx_Wd D cy 0 ad A) A) args s 0 0 A) (F0 m 4 ls []) := by
  obtain ⟨hx, hb, hr, hlocks, hml, hown, hts, hK⟩ := id cx
  intro n
  induction n with
  | zero => intro _ _ _ _ _ _ _ h; exact False.elim h
  | succ n ih =>
    intro x0 x1 x2 H locs ls hk_x0 h hP hD hS hl
    refine lv_iload_n (pc := 4) hx hb dX6_windsAboveHandkerchief_4 rfl (lv_at hl 2 rfl) ?_
    refine lv_bipush (pc := 5) (v := (9 : Int32)) hx hb dX6_windsAboveHandkerchief_5 (by decide) ?_
    refine lv_icmp_gt (pc := 7) (tgt := 37) hx hb dX6_windsAboveHandkerchief_7 (by decide) (fun c1 => ?_) (fun c1 => ?_)
    · have h := h.1 c1
      refine lv_iload_n (pc := 37) hx hb dX6_windsAboveHandkerchief_37 rfl (lv_at hl 1 rfl) ?_
      exact kx_iret (pc := 38) hx hb hr hlocks hK hP hD hS ⟨rfl, h⟩ dX6_windsAboveHandkerchief_38
    · have h := h.2 c1
      refine lv_aload_n (pc := 10) hx hb dX6_windsAboveHandkerchief_10 rfl (lv_at hl 0 rfl) ?_
      refine lv_iload_n (pc := 11) hx hb dX6_windsAboveHandkerchief_11 rfl (lv_at hl 2 rfl) ?_
      refine kx_iVi (pc := 12) [.int x2] hx hb hml hown hts hK hP hD hS (q1_liftIn h) (cw6_154 hts ⟨Nat.le_of_ble_eq_true rfl, Nat.le_of_ble_eq_true rfl⟩) hk_x0 (by decide) rfl rfl hl.1 rfl (Nat.le_of_ble_eq_true rfl) ⟨Nat.le_of_ble_eq_true rfl, Nat.le_of_ble_eq_true rfl⟩ dX6_windsAboveHandkerchief_12 (fun r2 u_ H locs hP hD hS h => ?_)
      obtain ⟨hu_, h⟩ := h
      rw [hu_] at hP hD
      refine lv_aload_n (pc := 15) hx hb dX6_windsAboveHandkerchief_15 rfl (lv_at hl 0 rfl) ?_
      refine lv_iconst (pc := 16) (v := (1 : Int32)) hx hb dX6_windsAboveHandkerchief_16 (by decide) ?_
      refine lv_aload_n (pc := 17) hx hb dX6_windsAboveHandkerchief_17 rfl (lv_at hl 0 rfl) ?_
      refine fg6_147 (pc := 18) hx hb hown hts hK hP hk_x0 dX6_windsAboveHandkerchief_18 ?_
      refine lv_iload_n (pc := 21) hx hb dX6_windsAboveHandkerchief_21 rfl (lv_at hl 2 rfl) ?_
      refine kx_iVi (pc := 22) [.int (1 : Int32), .int (σ.1 x0 3), .int x2] hx hb hml hown hts hK hP hD hS (q1_liftAs h) (cw6_150 hts ⟨Nat.le_of_ble_eq_true rfl, Nat.le_of_ble_eq_true rfl⟩) hk_x0 (by decide) rfl rfl hl.1 rfl (Nat.le_of_ble_eq_true rfl) ⟨Nat.le_of_ble_eq_true rfl, Nat.le_of_ble_eq_true rfl⟩ dX6_windsAboveHandkerchief_22 (fun r3 u_ H locs hP hD hS h => ?_)
      obtain ⟨hu_, h⟩ := h
      rw [hu_] at hP hD
      refine lv_icmp_le (pc := 25) (tgt := 31) hx hb dX6_windsAboveHandkerchief_25 (by decide) (fun c4 => ?_) (fun c4 => ?_)
      · have h := h.1 c4
        refine lv_iinc (pc := 31) (v := (x2 + (1 : Int32))) (lv' := [(2, .int (x2 + (1 : Int32))), (0, .ref (ad x0)), (1, .int x1)]) hx hb dX6_windsAboveHandkerchief_31 hl (k := 2) rfl rfl (by decide) rfl (fun ls hl => ?_)
        refine lv_goto (pc := 34) (tgt := 4) hx hb dX6_windsAboveHandkerchief_34 (by decide) ?_
        exact ih _ _ _ _ _ _ hk_x0 h hP hD hS (lv_sub hl [1, 2, 0] rfl)
      · have h := h.2 c4
        refine lv_iinc (pc := 28) (v := (x1 + (1 : Int32))) (lv' := [(1, .int (x1 + (1 : Int32))), (0, .ref (ad x0)), (2, .int x2)]) hx hb dX6_windsAboveHandkerchief_28 hl (k := 1) rfl rfl (by decide) rfl (fun ls hl => ?_)
        refine lv_iinc (pc := 31) (v := (x2 + (1 : Int32))) (lv' := [(2, .int (x2 + (1 : Int32))), (1, .int (x1 + (1 : Int32))), (0, .ref (ad x0))]) hx hb dX6_windsAboveHandkerchief_31 hl (k := 2) rfl rfl (by decide) rfl (fun ls hl => ?_)
        refine lv_goto (pc := 34) (tgt := 4) hx hb dX6_windsAboveHandkerchief_34 (by decide) ?_
        exact ih _ _ _ _ _ _ hk_x0 h hP hD hS (lv_sub hl [2, 1, 0] rfl)
def p6_windsAboveHandkerchief (σ : kx_St) (x0 : Nat) (Q : Int32 → Prop) : Prop := kx_k 0 x0 = 1 ∧ (∃ m4, p6_windsAboveHandkerchief_L4 m4 σ x0 (0 : Int32) (0 : Int32) Q)
set_option maxHeartbeats 4000000 in
theorem q6_windsAboveHandkerchief {σ : kx_St} {x0 : Nat} {Q : Int32 → Prop} (h : p6_windsAboveHandkerchief σ x0 Q) : Met l yX6_windsAboveHandkerchief (Cond.code yX6_windsAboveHandkerchief cX6_windsAboveHandkerchief 3 (some .int) :: kx_big) rm6_windsAboveHandkerchief (va_Pc [.ref (ad x0)] (kx_Wd D cy 0 ad A σ)) (kx_Qc kx_ci (fun u r => u = σ ∧ Q r) (kx_Wd D cy 0 ad A) A) 0 0 A := by
  refine kx_head (plainFor_of_name (by decide)) (Nat.le_of_ble_eq_true rfl) ?_
  intro p e s m below meth c ls cx hP hD hS hl
  obtain ⟨hx, hb, hr, hlocks, hml, hown, hts, hK⟩ := id cx
  obtain ⟨hk_x0, h⟩ := h
  have hl : lv_has ls 3 [(0, .ref (ad x0))] := hl
  refine lv_iconst (pc := 0) (v := (0 : Int32)) hx hb dX6_windsAboveHandkerchief_0 (by decide) ?_
  refine lv_istore_n (pc := 1) (lv' := [(1, .int (0 : Int32)), (0, .ref (ad x0))]) hx hb dX6_windsAboveHandkerchief_1 rfl hl (by decide) rfl (fun ls hl => ?_)
  refine lv_iconst (pc := 2) (v := (0 : Int32)) hx hb dX6_windsAboveHandkerchief_2 (by decide) ?_
  refine lv_istore_n (pc := 3) (lv' := [(2, .int (0 : Int32)), (1, .int (0 : Int32)), (0, .ref (ad x0))]) hx hb dX6_windsAboveHandkerchief_3 rfl hl (by decide) rfl (fun ls hl => ?_)
  obtain ⟨n0, h⟩ := h
  exact w6_windsAboveHandkerchief_L4 cx  n0 _ _ _ _ _ _ hk_x0 h hP hD hS (lv_sub hl [2, 1, 0] rfl)
def p6_leastWindLifted_L2 : Nat → kx_St → Nat → Int32 → (Int32 → Prop) → Prop
  | 0, _, _, _, _ => False
  | n + 1, σ, x0, x1, Q => ((9 : Int32) < x1 → Q (-9 : Int32)) ∧ (¬ (9 : Int32) < x1 → p1_isLiftedIn σ x0 x1 (fun r2 => (r2 = 0 → p6_leastWindLifted_L2 n σ x0 (x1 + (1 : Int32)) Q) ∧ (¬ r2 = 0 → Q x1)))
set_option maxHeartbeats 4000000 in
theorem w6_leastWindLifted_L2 {σ : kx_St}  {Q : Int32 → Prop} (cx : kx_Cx p s m args meth c D cy RX6 cX6_leastWindLifted 2 (some .int))  : ∀ (n : Nat) (x0 : Nat) (x1 : Int32) (H : Heap) (locs : List Loc) (ls : Array Slot), kx_k 0 x0 = 1 → p6_leastWindLifted_L2 n σ x0 x1 Q → va_P D vwCl (kx_ws cy 0 ad σ) H → va_D A (kx_ws cy 0 ad σ) → va_S A s.heap H locs → lv_has ls 2 [(0, .ref (ad x0)), (1, .int x1)] → W p l e rm6_leastWindLifted s m args below meth c H locs 0 0 (MQ below (kx_Qc kx_ci (fun u r => u = σ ∧ Q r) (kx_Wd D cy 0 ad A) A) args s 0 0 A) (F0 m 2 ls []) := by
  obtain ⟨hx, hb, hr, hlocks, hml, hown, hts, hK⟩ := id cx
  intro n
  induction n with
  | zero => intro _ _ _ _ _ _ h; exact False.elim h
  | succ n ih =>
    intro x0 x1 H locs ls hk_x0 h hP hD hS hl
    refine lv_iload_n (pc := 2) hx hb dX6_leastWindLifted_2 rfl (lv_at hl 1 rfl) ?_
    refine lv_bipush (pc := 3) (v := (9 : Int32)) hx hb dX6_leastWindLifted_3 (by decide) ?_
    refine lv_icmp_gt (pc := 5) (tgt := 24) hx hb dX6_leastWindLifted_5 (by decide) (fun c1 => ?_) (fun c1 => ?_)
    · have h := h.1 c1
      refine lv_bipush (pc := 24) (v := (-9 : Int32)) hx hb dX6_leastWindLifted_24 (by decide) ?_
      exact kx_iret (pc := 26) hx hb hr hlocks hK hP hD hS ⟨rfl, h⟩ dX6_leastWindLifted_26
    · have h := h.2 c1
      refine lv_aload_n (pc := 8) hx hb dX6_leastWindLifted_8 rfl (lv_at hl 0 rfl) ?_
      refine lv_iload_n (pc := 9) hx hb dX6_leastWindLifted_9 rfl (lv_at hl 1 rfl) ?_
      refine kx_iVi (pc := 10) [.int x1] hx hb hml hown hts hK hP hD hS (q1_isLiftedIn h) (cw6_170 hts ⟨Nat.le_of_ble_eq_true rfl, Nat.le_of_ble_eq_true rfl⟩) hk_x0 (by decide) rfl rfl hl.1 rfl (Nat.le_of_ble_eq_true rfl) ⟨Nat.le_of_ble_eq_true rfl, Nat.le_of_ble_eq_true rfl⟩ dX6_leastWindLifted_10 (fun r2 u_ H locs hP hD hS h => ?_)
      obtain ⟨hu_, h⟩ := h
      rw [hu_] at hP hD
      refine lv_if_eq (pc := 13) (tgt := 18) hx hb dX6_leastWindLifted_13 (by decide) (fun c3 => ?_) (fun c3 => ?_)
      · have h := h.1 c3
        refine lv_iinc (pc := 18) (v := (x1 + (1 : Int32))) (lv' := [(1, .int (x1 + (1 : Int32))), (0, .ref (ad x0))]) hx hb dX6_leastWindLifted_18 hl (k := 1) rfl rfl (by decide) rfl (fun ls hl => ?_)
        refine lv_goto (pc := 21) (tgt := 2) hx hb dX6_leastWindLifted_21 (by decide) ?_
        exact ih _ _ _ _ _ hk_x0 h hP hD hS (lv_sub hl [1, 0] rfl)
      · have h := h.2 c3
        refine lv_iload_n (pc := 16) hx hb dX6_leastWindLifted_16 rfl (lv_at hl 1 rfl) ?_
        exact kx_iret (pc := 17) hx hb hr hlocks hK hP hD hS ⟨rfl, h⟩ dX6_leastWindLifted_17
def p6_leastWindLifted (σ : kx_St) (x0 : Nat) (Q : Int32 → Prop) : Prop := kx_k 0 x0 = 1 ∧ (∃ m2, p6_leastWindLifted_L2 m2 σ x0 (0 : Int32) Q)
set_option maxHeartbeats 4000000 in
theorem q6_leastWindLifted {σ : kx_St} {x0 : Nat} {Q : Int32 → Prop} (h : p6_leastWindLifted σ x0 Q) : Met l yX6_leastWindLifted (Cond.code yX6_leastWindLifted cX6_leastWindLifted 2 (some .int) :: kx_big) rm6_leastWindLifted (va_Pc [.ref (ad x0)] (kx_Wd D cy 0 ad A σ)) (kx_Qc kx_ci (fun u r => u = σ ∧ Q r) (kx_Wd D cy 0 ad A) A) 0 0 A := by
  refine kx_head (plainFor_of_name (by decide)) (Nat.le_of_ble_eq_true rfl) ?_
  intro p e s m below meth c ls cx hP hD hS hl
  obtain ⟨hx, hb, hr, hlocks, hml, hown, hts, hK⟩ := id cx
  obtain ⟨hk_x0, h⟩ := h
  have hl : lv_has ls 2 [(0, .ref (ad x0))] := hl
  refine lv_iconst (pc := 0) (v := (0 : Int32)) hx hb dX6_leastWindLifted_0 (by decide) ?_
  refine lv_istore_n (pc := 1) (lv' := [(1, .int (0 : Int32)), (0, .ref (ad x0))]) hx hb dX6_leastWindLifted_1 rfl hl (by decide) rfl (fun ls hl => ?_)
  obtain ⟨n0, h⟩ := h
  exact w6_leastWindLifted_L2 cx  n0 _ _ _ _ _ hk_x0 h hP hD hS (lv_sub hl [1, 0] rfl)
def p6_mark (σ : kx_St) (x1 : Int32) (x2 : Int32) (Q : kx_St → Int32 → Prop) : Prop := p3_kiteAt σ 4 x1 (fun o1 => (o1 = none → Q σ (-1 : Int32)) ∧ (∀ b2, o1 = some b2 → kx_k 0 b2 = 1 ∧ ((x2 ≤ 0 → Q σ (-1 : Int32)) ∧ (¬ x2 ≤ 0 → (x2 < (6 : Int32) → p1_isOf σ b2 x2 (fun r5 => (¬ r5 = 0 → p3_windIn σ 4 (0 : Int32) (fun r7 => (x2 = (1 : Int32) → p1_liftAs σ b2 (0 : Int32) (σ.1 b2 3) r7 (fun r9 => p1_liftIn σ b2 r7 (fun r10 => Q σ (((100 : Int32) + r9) - r10)))) ∧ (¬ x2 = (1 : Int32) → (x2 = (2 : Int32) → p6_greatestWindLifting σ b2 (fun r12 => Q σ r12)) ∧ (¬ x2 = (2 : Int32) → (x2 = (3 : Int32) → p1_liftIn σ b2 r7 (fun r14 => p1_liftAs σ b2 (0 : Int32) (σ.1 b2 3) r7 (fun r15 => Q σ (r14 - r15)))) ∧ (¬ x2 = (3 : Int32) → (x2 = (4 : Int32) → p6_windsAboveHandkerchief σ b2 (fun r17 => Q σ r17)) ∧ (¬ x2 = (4 : Int32) → p6_leastWindLifted σ b2 (fun r18 => Q σ r18))))))) ∧ (r5 = 0 → p6_found σ (3 : Int32) (fun σ20 r19 => Q σ20 r19)))) ∧ (¬ x2 < (6 : Int32) → Q σ (-1 : Int32))))))
set_option maxHeartbeats 4000000 in
theorem q6_mark {σ : kx_St} {x1 : Int32} {x2 : Int32} {Q : kx_St → Int32 → Prop} (h : p6_mark σ x1 x2 Q) : Met l yX6_mark (Cond.code yX6_mark cX6_mark 5 (some .int) :: kx_big) rm6_mark (va_Pc [.ref (ad 0), .int x1, .int x2] (kx_Wd D cy 0 ad A σ)) (kx_Qc kx_ci Q (kx_Wd D cy 0 ad A) A) 0 0 A := by
  refine kx_head (plainFor_of_name (by decide)) (Nat.le_of_ble_eq_true rfl) ?_
  intro p e s m below meth c ls cx hP hD hS hl
  obtain ⟨hx, hb, hr, hlocks, hml, hown, hts, hK⟩ := id cx
  have hl : lv_has ls 5 [(0, .ref (ad 0)), (1, .int x1), (2, .int x2)] := hl
  refine lv_aload_n (pc := 0) hx hb dX6_mark_0 rfl (lv_at hl 0 rfl) ?_
  refine fg6_25 (pc := 1) (b := 4) hx hb hown hts hK hP rfl rfl dX6_mark_1 ?_
  refine lv_iload_n (pc := 4) hx hb dX6_mark_4 rfl (lv_at hl 1 rfl) ?_
  refine kx_iVr (pc := 5) [.int x1] hx hb hml hown hts hK hP hD hS (q3_kiteAt h) (cw6_131 hts ⟨Nat.le_of_ble_eq_true rfl, Nat.le_of_ble_eq_true rfl⟩) rfl (by decide) rfl rfl hl.1 rfl (Nat.le_of_ble_eq_true rfl) ⟨Nat.le_of_ble_eq_true rfl, Nat.le_of_ble_eq_true rfl⟩ dX6_mark_5 (fun o1 u_ H locs hP hD hS h => ?_)
  obtain ⟨hu_, h⟩ := h
  rw [hu_] at hP hD
  rcases o1 with _ | b2
  · have h := h.1 rfl
    refine lv_astore_nN (pc := 8) (lv' := [(3, .null), (0, .ref (ad 0)), (1, .int x1), (2, .int x2)]) hx hb dX6_mark_8 rfl hl (by decide) rfl (fun ls hl => ?_)
    refine lv_aload_nN (pc := 9) hx hb dX6_mark_9 rfl (lv_at hl 0 rfl) ?_
    refine lv_ifnullN (pc := 10) (tgt := 23) hx hb dX6_mark_10 (by decide) ?_
    refine lv_iconst (pc := 23) (v := (-1 : Int32)) hx hb dX6_mark_23 (by decide) ?_
    exact kx_iret (pc := 24) hx hb hr hlocks hK hP hD hS h dX6_mark_24
  · obtain ⟨hk_b2, h⟩ := h.2 b2 rfl
    refine lv_astore_n (pc := 8) (lv' := [(3, .ref (ad b2)), (0, .ref (ad 0)), (1, .int x1), (2, .int x2)]) hx hb dX6_mark_8 rfl hl (by decide) rfl (fun ls hl => ?_)
    refine lv_aload_n (pc := 9) hx hb dX6_mark_9 rfl (lv_at hl 0 rfl) ?_
    refine lv_ifnull (pc := 10) hx hb dX6_mark_10 ?_
    refine lv_iload_n (pc := 13) hx hb dX6_mark_13 rfl (lv_at hl 3 rfl) ?_
    refine lv_if_le (pc := 14) (tgt := 23) hx hb dX6_mark_14 (by decide) (fun c3 => ?_) (fun c3 => ?_)
    · have h := h.1 c3
      refine lv_iconst (pc := 23) (v := (-1 : Int32)) hx hb dX6_mark_23 (by decide) ?_
      exact kx_iret (pc := 24) hx hb hr hlocks hK hP hD hS h dX6_mark_24
    · have h := h.2 c3
      refine lv_iload_n (pc := 17) hx hb dX6_mark_17 rfl (lv_at hl 3 rfl) ?_
      refine lv_bipush (pc := 18) (v := (6 : Int32)) hx hb dX6_mark_18 (by decide) ?_
      refine lv_icmp_lt (pc := 20) (tgt := 25) hx hb dX6_mark_20 (by decide) (fun c4 => ?_) (fun c4 => ?_)
      · have h := h.1 c4
        refine lv_aload_n (pc := 25) hx hb dX6_mark_25 rfl (lv_at hl 0 rfl) ?_
        refine lv_iload_n (pc := 26) hx hb dX6_mark_26 rfl (lv_at hl 3 rfl) ?_
        refine kx_iVi (pc := 27) [.int x2] hx hb hml hown hts hK hP hD hS (q1_isOf h) (cw6_139 hts ⟨Nat.le_of_ble_eq_true rfl, Nat.le_of_ble_eq_true rfl⟩) hk_b2 (by decide) rfl rfl hl.1 rfl (Nat.le_of_ble_eq_true rfl) ⟨Nat.le_of_ble_eq_true rfl, Nat.le_of_ble_eq_true rfl⟩ dX6_mark_27 (fun r5 u_ H locs hP hD hS h => ?_)
        obtain ⟨hu_, h⟩ := h
        rw [hu_] at hP hD
        refine lv_if_ne (pc := 30) (tgt := 39) hx hb dX6_mark_30 (by decide) (fun c6 => ?_) (fun c6 => ?_)
        · have h := h.1 c6
          refine lv_aload_n (pc := 39) hx hb dX6_mark_39 rfl (lv_at hl 1 rfl) ?_
          refine fg6_25 (pc := 40) (b := 4) hx hb hown hts hK hP rfl rfl dX6_mark_40 ?_
          refine lv_iconst (pc := 43) (v := (0 : Int32)) hx hb dX6_mark_43 (by decide) ?_
          refine kx_iVi (pc := 44) [.int (0 : Int32)] hx hb hml hown hts hK hP hD hS (q3_windIn h) (cw6_144 hts ⟨Nat.le_of_ble_eq_true rfl, Nat.le_of_ble_eq_true rfl⟩) rfl (by decide) rfl rfl hl.1 rfl (Nat.le_of_ble_eq_true rfl) ⟨Nat.le_of_ble_eq_true rfl, Nat.le_of_ble_eq_true rfl⟩ dX6_mark_44 (fun r7 u_ H locs hP hD hS h => ?_)
          obtain ⟨hu_, h⟩ := h
          rw [hu_] at hP hD
          refine lv_istore (pc := 47) (lv' := [(4, .int r7), (3, .ref (ad b2)), (0, .ref (ad 0)), (1, .int x1), (2, .int x2)]) hx hb dX6_mark_47 hl (by decide) rfl (fun ls hl => ?_)
          refine lv_iload_n (pc := 49) hx hb dX6_mark_49 rfl (lv_at hl 4 rfl) ?_
          by_cases c8 : x2 = (1 : Int32)
          · have h := h.1 c8
            refine lv_tableIn (pc := 50) (tgt := 80) hx hb dX6_mark_50 (by rw [c8]; decide) (by rw [c8]; decide) (off := 30) (by rw [c8]; rfl) (by decide) ?_
            refine lv_bipush (pc := 80) (v := (100 : Int32)) hx hb dX6_mark_80 (by decide) ?_
            refine lv_aload_n (pc := 82) hx hb dX6_mark_82 rfl (lv_at hl 1 rfl) ?_
            refine lv_iconst (pc := 83) (v := (0 : Int32)) hx hb dX6_mark_83 (by decide) ?_
            refine lv_aload_n (pc := 84) hx hb dX6_mark_84 rfl (lv_at hl 1 rfl) ?_
            refine fg6_147 (pc := 85) hx hb hown hts hK hP hk_b2 dX6_mark_85 ?_
            refine lv_iload (pc := 88) hx hb dX6_mark_88 (lv_at hl 0 rfl) ?_
            refine kx_iVi (pc := 90) [.int (0 : Int32), .int (σ.1 b2 3), .int r7] hx hb hml hown hts hK hP hD hS (q1_liftAs h) (cw6_150 hts ⟨Nat.le_of_ble_eq_true rfl, Nat.le_of_ble_eq_true rfl⟩) hk_b2 (by decide) rfl rfl hl.1 rfl (Nat.le_of_ble_eq_true rfl) ⟨Nat.le_of_ble_eq_true rfl, Nat.le_of_ble_eq_true rfl⟩ dX6_mark_90 (fun r9 u_ H locs hP hD hS h => ?_)
            obtain ⟨hu_, h⟩ := h
            rw [hu_] at hP hD
            refine lv_iadd (pc := 93) hx hb dX6_mark_93 ?_
            refine lv_aload_n (pc := 94) hx hb dX6_mark_94 rfl (lv_at hl 1 rfl) ?_
            refine lv_iload (pc := 95) hx hb dX6_mark_95 (lv_at hl 0 rfl) ?_
            refine kx_iVi (pc := 97) [.int r7] hx hb hml hown hts hK hP hD hS (q1_liftIn h) (cw6_154 hts ⟨Nat.le_of_ble_eq_true rfl, Nat.le_of_ble_eq_true rfl⟩) hk_b2 (by decide) rfl rfl hl.1 rfl (Nat.le_of_ble_eq_true rfl) ⟨Nat.le_of_ble_eq_true rfl, Nat.le_of_ble_eq_true rfl⟩ dX6_mark_97 (fun r10 u_ H locs hP hD hS h => ?_)
            obtain ⟨hu_, h⟩ := h
            rw [hu_] at hP hD
            refine lv_isub (pc := 100) hx hb dX6_mark_100 ?_
            exact kx_iret (pc := 101) hx hb hr hlocks hK hP hD hS h dX6_mark_101
          · have h := h.2 c8
            by_cases c11 : x2 = (2 : Int32)
            · have h := h.1 c11
              refine lv_tableIn (pc := 50) (tgt := 102) hx hb dX6_mark_50 (by rw [c11]; decide) (by rw [c11]; decide) (off := 52) (by rw [c11]; rfl) (by decide) ?_
              refine lv_aload_n (pc := 102) hx hb dX6_mark_102 rfl (lv_at hl 1 rfl) ?_
              refine kx_iSi (pc := 103) [.ref (ad b2)] hx hb hml hown hts hK hP hD hS (q6_greatestWindLifting h) (cw6_157 hts ⟨Nat.le_of_ble_eq_true rfl, Nat.le_of_ble_eq_true rfl⟩) rfl hl.1 rfl (Nat.le_of_ble_eq_true rfl) ⟨Nat.le_of_ble_eq_true rfl, Nat.le_of_ble_eq_true rfl⟩ dX6_mark_103 (fun r12 u_ H locs hP hD hS h => ?_)
              obtain ⟨hu_, h⟩ := h
              rw [hu_] at hP hD
              exact kx_iret (pc := 106) hx hb hr hlocks hK hP hD hS h dX6_mark_106
            · have h := h.2 c11
              by_cases c13 : x2 = (3 : Int32)
              · have h := h.1 c13
                refine lv_tableIn (pc := 50) (tgt := 107) hx hb dX6_mark_50 (by rw [c13]; decide) (by rw [c13]; decide) (off := 57) (by rw [c13]; rfl) (by decide) ?_
                refine lv_aload_n (pc := 107) hx hb dX6_mark_107 rfl (lv_at hl 1 rfl) ?_
                refine lv_iload (pc := 108) hx hb dX6_mark_108 (lv_at hl 0 rfl) ?_
                refine kx_iVi (pc := 110) [.int r7] hx hb hml hown hts hK hP hD hS (q1_liftIn h) (cw6_154 hts ⟨Nat.le_of_ble_eq_true rfl, Nat.le_of_ble_eq_true rfl⟩) hk_b2 (by decide) rfl rfl hl.1 rfl (Nat.le_of_ble_eq_true rfl) ⟨Nat.le_of_ble_eq_true rfl, Nat.le_of_ble_eq_true rfl⟩ dX6_mark_110 (fun r14 u_ H locs hP hD hS h => ?_)
                obtain ⟨hu_, h⟩ := h
                rw [hu_] at hP hD
                refine lv_aload_n (pc := 113) hx hb dX6_mark_113 rfl (lv_at hl 1 rfl) ?_
                refine lv_iconst (pc := 114) (v := (0 : Int32)) hx hb dX6_mark_114 (by decide) ?_
                refine lv_aload_n (pc := 115) hx hb dX6_mark_115 rfl (lv_at hl 1 rfl) ?_
                refine fg6_147 (pc := 116) hx hb hown hts hK hP hk_b2 dX6_mark_116 ?_
                refine lv_iload (pc := 119) hx hb dX6_mark_119 (lv_at hl 0 rfl) ?_
                refine kx_iVi (pc := 121) [.int (0 : Int32), .int (σ.1 b2 3), .int r7] hx hb hml hown hts hK hP hD hS (q1_liftAs h) (cw6_150 hts ⟨Nat.le_of_ble_eq_true rfl, Nat.le_of_ble_eq_true rfl⟩) hk_b2 (by decide) rfl rfl hl.1 rfl (Nat.le_of_ble_eq_true rfl) ⟨Nat.le_of_ble_eq_true rfl, Nat.le_of_ble_eq_true rfl⟩ dX6_mark_121 (fun r15 u_ H locs hP hD hS h => ?_)
                obtain ⟨hu_, h⟩ := h
                rw [hu_] at hP hD
                refine lv_isub (pc := 124) hx hb dX6_mark_124 ?_
                exact kx_iret (pc := 125) hx hb hr hlocks hK hP hD hS h dX6_mark_125
              · have h := h.2 c13
                by_cases c16 : x2 = (4 : Int32)
                · have h := h.1 c16
                  refine lv_tableIn (pc := 50) (tgt := 126) hx hb dX6_mark_50 (by rw [c16]; decide) (by rw [c16]; decide) (off := 76) (by rw [c16]; rfl) (by decide) ?_
                  refine lv_aload_n (pc := 126) hx hb dX6_mark_126 rfl (lv_at hl 1 rfl) ?_
                  refine kx_iSi (pc := 127) [.ref (ad b2)] hx hb hml hown hts hK hP hD hS (q6_windsAboveHandkerchief h) (cw6_161 hts ⟨Nat.le_of_ble_eq_true rfl, Nat.le_of_ble_eq_true rfl⟩) rfl hl.1 rfl (Nat.le_of_ble_eq_true rfl) ⟨Nat.le_of_ble_eq_true rfl, Nat.le_of_ble_eq_true rfl⟩ dX6_mark_127 (fun r17 u_ H locs hP hD hS h => ?_)
                  obtain ⟨hu_, h⟩ := h
                  rw [hu_] at hP hD
                  exact kx_iret (pc := 130) hx hb hr hlocks hK hP hD hS h dX6_mark_130
                · have h := h.2 c16
                  have tc8 : x2.toInt ≠ 1 := fun q => c8 (Int32.toInt_inj.mp (q.trans (by decide)))
                  have tc11 : x2.toInt ≠ 2 := fun q => c11 (Int32.toInt_inj.mp (q.trans (by decide)))
                  have tc13 : x2.toInt ≠ 3 := fun q => c13 (Int32.toInt_inj.mp (q.trans (by decide)))
                  have tc16 : x2.toInt ≠ 4 := fun q => c16 (Int32.toInt_inj.mp (q.trans (by decide)))
                  refine lv_tableOut (pc := 50) (tgt := 131) hx hb dX6_mark_50 (kx_swd (fun k q1 q2 => by omega)) (by decide) ?_
                  refine lv_aload_n (pc := 131) hx hb dX6_mark_131 rfl (lv_at hl 1 rfl) ?_
                  refine kx_iSi (pc := 132) [.ref (ad b2)] hx hb hml hown hts hK hP hD hS (q6_leastWindLifted h) (cw6_164 hts ⟨Nat.le_of_ble_eq_true rfl, Nat.le_of_ble_eq_true rfl⟩) rfl hl.1 rfl (Nat.le_of_ble_eq_true rfl) ⟨Nat.le_of_ble_eq_true rfl, Nat.le_of_ble_eq_true rfl⟩ dX6_mark_132 (fun r18 u_ H locs hP hD hS h => ?_)
                  obtain ⟨hu_, h⟩ := h
                  rw [hu_] at hP hD
                  exact kx_iret (pc := 135) hx hb hr hlocks hK hP hD hS h dX6_mark_135
        · have h := h.2 c6
          refine lv_aload_n (pc := 33) hx hb dX6_mark_33 rfl (lv_at hl 1 rfl) ?_
          refine lv_iconst (pc := 34) (v := (3 : Int32)) hx hb dX6_mark_34 (by decide) ?_
          refine kx_iVi (pc := 35) [.int (3 : Int32)] hx hb hml hown hts hK hP hD hS (q6_found h) (cw6_86 hts ⟨Nat.le_of_ble_eq_true rfl, Nat.le_of_ble_eq_true rfl⟩) rfl (by decide) rfl rfl hl.1 rfl (Nat.le_of_ble_eq_true rfl) ⟨Nat.le_of_ble_eq_true rfl, Nat.le_of_ble_eq_true rfl⟩ dX6_mark_35 (fun r19 σ20 H locs hP hD hS h => ?_)
          exact kx_iret (pc := 38) hx hb hr hlocks hK hP hD hS h dX6_mark_38
      · have h := h.2 c4
        refine lv_iconst (pc := 23) (v := (-1 : Int32)) hx hb dX6_mark_23 (by decide) ?_
        exact kx_iret (pc := 24) hx hb hr hlocks hK hP hD hS h dX6_mark_24
def p6_isWind (x0 : Int32) (Q : Int32 → Prop) : Prop := (x0 < 0 → Q (0 : Int32)) ∧ (¬ x0 < 0 → ((9 : Int32) < x0 → Q (0 : Int32)) ∧ (¬ (9 : Int32) < x0 → Q (1 : Int32)))
set_option maxHeartbeats 4000000 in
theorem q6_isWind {σ : kx_St} {x0 : Int32} {Q : Int32 → Prop} (h : p6_isWind x0 Q) : Met l yX6_isWind (Cond.code yX6_isWind cX6_isWind 1 (some .boolean) :: kx_big) rm6_isWind (va_Pc [.int x0] (kx_Wd D cy 0 ad A σ)) (kx_Qc kx_ci (fun u r => u = σ ∧ Q r) (kx_Wd D cy 0 ad A) A) 0 0 A := by
  refine kx_head (plainFor_of_name (by decide)) (Nat.le_of_ble_eq_true rfl) ?_
  intro p e s m below meth c ls cx hP hD hS hl
  obtain ⟨hx, hb, hr, hlocks, hml, hown, hts, hK⟩ := id cx
  have hl : lv_has ls 1 [(0, .int x0)] := hl
  refine lv_iload_n (pc := 0) hx hb dX6_isWind_0 rfl (lv_at hl 0 rfl) ?_
  refine lv_if_lt (pc := 1) (tgt := 14) hx hb dX6_isWind_1 (by decide) (fun c1 => ?_) (fun c1 => ?_)
  · have h := h.1 c1
    refine lv_iconst (pc := 14) (v := (0 : Int32)) hx hb dX6_isWind_14 (by decide) ?_
    exact kx_zret (pc := 15) hx hb hr hlocks hK hP hD hS (by decide) ⟨rfl, h⟩ dX6_isWind_15
  · have h := h.2 c1
    refine lv_iload_n (pc := 4) hx hb dX6_isWind_4 rfl (lv_at hl 0 rfl) ?_
    refine lv_bipush (pc := 5) (v := (9 : Int32)) hx hb dX6_isWind_5 (by decide) ?_
    refine lv_icmp_gt (pc := 7) (tgt := 14) hx hb dX6_isWind_7 (by decide) (fun c2 => ?_) (fun c2 => ?_)
    · have h := h.1 c2
      refine lv_iconst (pc := 14) (v := (0 : Int32)) hx hb dX6_isWind_14 (by decide) ?_
      exact kx_zret (pc := 15) hx hb hr hlocks hK hP hD hS (by decide) ⟨rfl, h⟩ dX6_isWind_15
    · have h := h.2 c2
      refine lv_iconst (pc := 10) (v := (1 : Int32)) hx hb dX6_isWind_10 (by decide) ?_
      refine lv_goto (pc := 11) (tgt := 15) hx hb dX6_isWind_11 (by decide) ?_
      exact kx_zret (pc := 15) hx hb hr hlocks hK hP hD hS (by decide) ⟨rfl, h⟩ dX6_isWind_15
def p6_lifts (σ : kx_St) (x1 : Int32) (x2 : Int32) (Q : Int32 → Prop) : Prop := p3_kiteAt σ 4 x1 (fun o1 => (o1 = none → Q (-1 : Int32)) ∧ (∀ b2, o1 = some b2 → kx_k 0 b2 = 1 ∧ (p6_isWind x2 (fun r3 => (¬ r3 = 0 → p1_liftIn σ b2 x2 (fun r5 => Q r5)) ∧ (r3 = 0 → Q (-1 : Int32))))))
set_option maxHeartbeats 4000000 in
theorem q6_lifts {σ : kx_St} {x1 : Int32} {x2 : Int32} {Q : Int32 → Prop} (h : p6_lifts σ x1 x2 Q) : Met l yX6_lifts (Cond.code yX6_lifts cX6_lifts 4 (some .int) :: kx_big) rm6_lifts (va_Pc [.ref (ad 0), .int x1, .int x2] (kx_Wd D cy 0 ad A σ)) (kx_Qc kx_ci (fun u r => u = σ ∧ Q r) (kx_Wd D cy 0 ad A) A) 0 0 A := by
  refine kx_head (plainFor_of_name (by decide)) (Nat.le_of_ble_eq_true rfl) ?_
  intro p e s m below meth c ls cx hP hD hS hl
  obtain ⟨hx, hb, hr, hlocks, hml, hown, hts, hK⟩ := id cx
  have hl : lv_has ls 4 [(0, .ref (ad 0)), (1, .int x1), (2, .int x2)] := hl
  refine lv_aload_n (pc := 0) hx hb dX6_lifts_0 rfl (lv_at hl 0 rfl) ?_
  refine fg6_25 (pc := 1) (b := 4) hx hb hown hts hK hP rfl rfl dX6_lifts_1 ?_
  refine lv_iload_n (pc := 4) hx hb dX6_lifts_4 rfl (lv_at hl 1 rfl) ?_
  refine kx_iVr (pc := 5) [.int x1] hx hb hml hown hts hK hP hD hS (q3_kiteAt h) (cw6_131 hts ⟨Nat.le_of_ble_eq_true rfl, Nat.le_of_ble_eq_true rfl⟩) rfl (by decide) rfl rfl hl.1 rfl (Nat.le_of_ble_eq_true rfl) ⟨Nat.le_of_ble_eq_true rfl, Nat.le_of_ble_eq_true rfl⟩ dX6_lifts_5 (fun o1 u_ H locs hP hD hS h => ?_)
  obtain ⟨hu_, h⟩ := h
  rw [hu_] at hP hD
  rcases o1 with _ | b2
  · have h := h.1 rfl
    refine lv_astore_nN (pc := 8) (lv' := [(3, .null), (0, .ref (ad 0)), (1, .int x1), (2, .int x2)]) hx hb dX6_lifts_8 rfl hl (by decide) rfl (fun ls hl => ?_)
    refine lv_aload_nN (pc := 9) hx hb dX6_lifts_9 rfl (lv_at hl 0 rfl) ?_
    refine lv_ifnullN (pc := 10) (tgt := 20) hx hb dX6_lifts_10 (by decide) ?_
    refine lv_iconst (pc := 20) (v := (-1 : Int32)) hx hb dX6_lifts_20 (by decide) ?_
    exact kx_iret (pc := 21) hx hb hr hlocks hK hP hD hS ⟨rfl, h⟩ dX6_lifts_21
  · obtain ⟨hk_b2, h⟩ := h.2 b2 rfl
    refine lv_astore_n (pc := 8) (lv' := [(3, .ref (ad b2)), (0, .ref (ad 0)), (1, .int x1), (2, .int x2)]) hx hb dX6_lifts_8 rfl hl (by decide) rfl (fun ls hl => ?_)
    refine lv_aload_n (pc := 9) hx hb dX6_lifts_9 rfl (lv_at hl 0 rfl) ?_
    refine lv_ifnull (pc := 10) hx hb dX6_lifts_10 ?_
    refine lv_iload_n (pc := 13) hx hb dX6_lifts_13 rfl (lv_at hl 3 rfl) ?_
    refine kx_iSi (pc := 14) [.int x2] hx hb hml hown hts hK hP hD hS (q6_isWind h) (cw6_167 hts ⟨Nat.le_of_ble_eq_true rfl, Nat.le_of_ble_eq_true rfl⟩) rfl hl.1 rfl (Nat.le_of_ble_eq_true rfl) ⟨Nat.le_of_ble_eq_true rfl, Nat.le_of_ble_eq_true rfl⟩ dX6_lifts_14 (fun r3 u_ H locs hP hD hS h => ?_)
    obtain ⟨hu_, h⟩ := h
    rw [hu_] at hP hD
    refine lv_if_ne (pc := 17) (tgt := 22) hx hb dX6_lifts_17 (by decide) (fun c4 => ?_) (fun c4 => ?_)
    · have h := h.1 c4
      refine lv_aload_n (pc := 22) hx hb dX6_lifts_22 rfl (lv_at hl 0 rfl) ?_
      refine lv_iload_n (pc := 23) hx hb dX6_lifts_23 rfl (lv_at hl 3 rfl) ?_
      refine kx_iVi (pc := 24) [.int x2] hx hb hml hown hts hK hP hD hS (q1_liftIn h) (cw6_154 hts ⟨Nat.le_of_ble_eq_true rfl, Nat.le_of_ble_eq_true rfl⟩) hk_b2 (by decide) rfl rfl hl.1 rfl (Nat.le_of_ble_eq_true rfl) ⟨Nat.le_of_ble_eq_true rfl, Nat.le_of_ble_eq_true rfl⟩ dX6_lifts_24 (fun r5 u_ H locs hP hD hS h => ?_)
      obtain ⟨hu_, h⟩ := h
      rw [hu_] at hP hD
      exact kx_iret (pc := 27) hx hb hr hlocks hK hP hD hS ⟨rfl, h⟩ dX6_lifts_27
    · have h := h.2 c4
      refine lv_iconst (pc := 20) (v := (-1 : Int32)) hx hb dX6_lifts_20 (by decide) ?_
      exact kx_iret (pc := 21) hx hb hr hlocks hK hP hD hS ⟨rfl, h⟩ dX6_lifts_21
def p6_pays (σ : kx_St) (x1 : Int32) (x2 : Int32) (Q : Int32 → Prop) : Prop := p3_kiteAt σ 4 x1 (fun o1 => (o1 = none → Q (-1 : Int32)) ∧ (∀ b2, o1 = some b2 → kx_k 0 b2 = 1 ∧ (p6_isWind x2 (fun r3 => (¬ r3 = 0 → p1_isLiftedIn σ b2 x2 (fun r5 => (r5 = 0 → p1_payIn σ b2 x2 (fun r7 => Q r7)) ∧ (¬ r5 = 0 → Q (-9 : Int32)))) ∧ (r3 = 0 → Q (-1 : Int32))))))
set_option maxHeartbeats 4000000 in
theorem q6_pays {σ : kx_St} {x1 : Int32} {x2 : Int32} {Q : Int32 → Prop} (h : p6_pays σ x1 x2 Q) : Met l yX6_pays (Cond.code yX6_pays cX6_pays 4 (some .int) :: kx_big) rm6_pays (va_Pc [.ref (ad 0), .int x1, .int x2] (kx_Wd D cy 0 ad A σ)) (kx_Qc kx_ci (fun u r => u = σ ∧ Q r) (kx_Wd D cy 0 ad A) A) 0 0 A := by
  refine kx_head (plainFor_of_name (by decide)) (Nat.le_of_ble_eq_true rfl) ?_
  intro p e s m below meth c ls cx hP hD hS hl
  obtain ⟨hx, hb, hr, hlocks, hml, hown, hts, hK⟩ := id cx
  have hl : lv_has ls 4 [(0, .ref (ad 0)), (1, .int x1), (2, .int x2)] := hl
  refine lv_aload_n (pc := 0) hx hb dX6_pays_0 rfl (lv_at hl 0 rfl) ?_
  refine fg6_25 (pc := 1) (b := 4) hx hb hown hts hK hP rfl rfl dX6_pays_1 ?_
  refine lv_iload_n (pc := 4) hx hb dX6_pays_4 rfl (lv_at hl 1 rfl) ?_
  refine kx_iVr (pc := 5) [.int x1] hx hb hml hown hts hK hP hD hS (q3_kiteAt h) (cw6_131 hts ⟨Nat.le_of_ble_eq_true rfl, Nat.le_of_ble_eq_true rfl⟩) rfl (by decide) rfl rfl hl.1 rfl (Nat.le_of_ble_eq_true rfl) ⟨Nat.le_of_ble_eq_true rfl, Nat.le_of_ble_eq_true rfl⟩ dX6_pays_5 (fun o1 u_ H locs hP hD hS h => ?_)
  obtain ⟨hu_, h⟩ := h
  rw [hu_] at hP hD
  rcases o1 with _ | b2
  · have h := h.1 rfl
    refine lv_astore_nN (pc := 8) (lv' := [(3, .null), (0, .ref (ad 0)), (1, .int x1), (2, .int x2)]) hx hb dX6_pays_8 rfl hl (by decide) rfl (fun ls hl => ?_)
    refine lv_aload_nN (pc := 9) hx hb dX6_pays_9 rfl (lv_at hl 0 rfl) ?_
    refine lv_ifnullN (pc := 10) (tgt := 20) hx hb dX6_pays_10 (by decide) ?_
    refine lv_iconst (pc := 20) (v := (-1 : Int32)) hx hb dX6_pays_20 (by decide) ?_
    exact kx_iret (pc := 21) hx hb hr hlocks hK hP hD hS ⟨rfl, h⟩ dX6_pays_21
  · obtain ⟨hk_b2, h⟩ := h.2 b2 rfl
    refine lv_astore_n (pc := 8) (lv' := [(3, .ref (ad b2)), (0, .ref (ad 0)), (1, .int x1), (2, .int x2)]) hx hb dX6_pays_8 rfl hl (by decide) rfl (fun ls hl => ?_)
    refine lv_aload_n (pc := 9) hx hb dX6_pays_9 rfl (lv_at hl 0 rfl) ?_
    refine lv_ifnull (pc := 10) hx hb dX6_pays_10 ?_
    refine lv_iload_n (pc := 13) hx hb dX6_pays_13 rfl (lv_at hl 3 rfl) ?_
    refine kx_iSi (pc := 14) [.int x2] hx hb hml hown hts hK hP hD hS (q6_isWind h) (cw6_167 hts ⟨Nat.le_of_ble_eq_true rfl, Nat.le_of_ble_eq_true rfl⟩) rfl hl.1 rfl (Nat.le_of_ble_eq_true rfl) ⟨Nat.le_of_ble_eq_true rfl, Nat.le_of_ble_eq_true rfl⟩ dX6_pays_14 (fun r3 u_ H locs hP hD hS h => ?_)
    obtain ⟨hu_, h⟩ := h
    rw [hu_] at hP hD
    refine lv_if_ne (pc := 17) (tgt := 22) hx hb dX6_pays_17 (by decide) (fun c4 => ?_) (fun c4 => ?_)
    · have h := h.1 c4
      refine lv_aload_n (pc := 22) hx hb dX6_pays_22 rfl (lv_at hl 0 rfl) ?_
      refine lv_iload_n (pc := 23) hx hb dX6_pays_23 rfl (lv_at hl 3 rfl) ?_
      refine kx_iVi (pc := 24) [.int x2] hx hb hml hown hts hK hP hD hS (q1_isLiftedIn h) (cw6_170 hts ⟨Nat.le_of_ble_eq_true rfl, Nat.le_of_ble_eq_true rfl⟩) hk_b2 (by decide) rfl rfl hl.1 rfl (Nat.le_of_ble_eq_true rfl) ⟨Nat.le_of_ble_eq_true rfl, Nat.le_of_ble_eq_true rfl⟩ dX6_pays_24 (fun r5 u_ H locs hP hD hS h => ?_)
      obtain ⟨hu_, h⟩ := h
      rw [hu_] at hP hD
      refine lv_if_eq (pc := 27) (tgt := 35) hx hb dX6_pays_27 (by decide) (fun c6 => ?_) (fun c6 => ?_)
      · have h := h.1 c6
        refine lv_aload_n (pc := 35) hx hb dX6_pays_35 rfl (lv_at hl 0 rfl) ?_
        refine lv_iload_n (pc := 36) hx hb dX6_pays_36 rfl (lv_at hl 3 rfl) ?_
        refine kx_iVi (pc := 37) [.int x2] hx hb hml hown hts hK hP hD hS (q1_payIn h) (cw6_173 hts ⟨Nat.le_of_ble_eq_true rfl, Nat.le_of_ble_eq_true rfl⟩) hk_b2 (by decide) rfl rfl hl.1 rfl (Nat.le_of_ble_eq_true rfl) ⟨Nat.le_of_ble_eq_true rfl, Nat.le_of_ble_eq_true rfl⟩ dX6_pays_37 (fun r7 u_ H locs hP hD hS h => ?_)
        obtain ⟨hu_, h⟩ := h
        rw [hu_] at hP hD
        exact kx_iret (pc := 40) hx hb hr hlocks hK hP hD hS ⟨rfl, h⟩ dX6_pays_40
      · have h := h.2 c6
        refine lv_bipush (pc := 30) (v := (-9 : Int32)) hx hb dX6_pays_30 (by decide) ?_
        refine lv_goto (pc := 32) (tgt := 40) hx hb dX6_pays_32 (by decide) ?_
        exact kx_iret (pc := 40) hx hb hr hlocks hK hP hD hS ⟨rfl, h⟩ dX6_pays_40
    · have h := h.2 c4
      refine lv_iconst (pc := 20) (v := (-1 : Int32)) hx hb dX6_pays_20 (by decide) ?_
      exact kx_iret (pc := 21) hx hb hr hlocks hK hP hD hS ⟨rfl, h⟩ dX6_pays_21
def p6_fly (σ : kx_St) (x1 : Int32) (Q : kx_St → Int32 → Prop) : Prop := p3_kiteAt σ 4 x1 (fun o1 => (o1 = none → Q σ (-1 : Int32)) ∧ (∀ b2, o1 = some b2 → kx_k 0 b2 = 1 ∧ (p1_wasFlown σ b2 (fun r3 => (r3 = 0 → p3_isFull σ 4 (fun r5 => (r5 = 0 → p3_doFly σ 4 x1 (fun σ8 => Q σ8 (σ8.1 b2 4))) ∧ (¬ r5 = 0 → Q σ (-2 : Int32)))) ∧ (¬ r3 = 0 → Q σ (-4 : Int32))))))
set_option maxHeartbeats 4000000 in
theorem q6_fly {σ : kx_St} {x1 : Int32} {Q : kx_St → Int32 → Prop} (h : p6_fly σ x1 Q) : Met l yX6_fly (Cond.code yX6_fly cX6_fly 3 (some .int) :: kx_big) rm6_fly (va_Pc [.ref (ad 0), .int x1] (kx_Wd D cy 0 ad A σ)) (kx_Qc kx_ci Q (kx_Wd D cy 0 ad A) A) 0 0 A := by
  refine kx_head (plainFor_of_name (by decide)) (Nat.le_of_ble_eq_true rfl) ?_
  intro p e s m below meth c ls cx hP hD hS hl
  obtain ⟨hx, hb, hr, hlocks, hml, hown, hts, hK⟩ := id cx
  have hl : lv_has ls 3 [(0, .ref (ad 0)), (1, .int x1)] := hl
  refine lv_aload_n (pc := 0) hx hb dX6_fly_0 rfl (lv_at hl 0 rfl) ?_
  refine fg6_25 (pc := 1) (b := 4) hx hb hown hts hK hP rfl rfl dX6_fly_1 ?_
  refine lv_iload_n (pc := 4) hx hb dX6_fly_4 rfl (lv_at hl 1 rfl) ?_
  refine kx_iVr (pc := 5) [.int x1] hx hb hml hown hts hK hP hD hS (q3_kiteAt h) (cw6_131 hts ⟨Nat.le_of_ble_eq_true rfl, Nat.le_of_ble_eq_true rfl⟩) rfl (by decide) rfl rfl hl.1 rfl (Nat.le_of_ble_eq_true rfl) ⟨Nat.le_of_ble_eq_true rfl, Nat.le_of_ble_eq_true rfl⟩ dX6_fly_5 (fun o1 u_ H locs hP hD hS h => ?_)
  obtain ⟨hu_, h⟩ := h
  rw [hu_] at hP hD
  rcases o1 with _ | b2
  · have h := h.1 rfl
    refine lv_astore_nN (pc := 8) (lv' := [(2, .null), (0, .ref (ad 0)), (1, .int x1)]) hx hb dX6_fly_8 rfl hl (by decide) rfl (fun ls hl => ?_)
    refine lv_aload_nN (pc := 9) hx hb dX6_fly_9 rfl (lv_at hl 0 rfl) ?_
    refine lv_ifnonnullN (pc := 10) hx hb dX6_fly_10 ?_
    refine lv_iconst (pc := 13) (v := (-1 : Int32)) hx hb dX6_fly_13 (by decide) ?_
    exact kx_iret (pc := 14) hx hb hr hlocks hK hP hD hS h dX6_fly_14
  · obtain ⟨hk_b2, h⟩ := h.2 b2 rfl
    refine lv_astore_n (pc := 8) (lv' := [(2, .ref (ad b2)), (0, .ref (ad 0)), (1, .int x1)]) hx hb dX6_fly_8 rfl hl (by decide) rfl (fun ls hl => ?_)
    refine lv_aload_n (pc := 9) hx hb dX6_fly_9 rfl (lv_at hl 0 rfl) ?_
    refine lv_ifnonnull (pc := 10) (tgt := 15) hx hb dX6_fly_10 (by decide) ?_
    refine lv_aload_n (pc := 15) hx hb dX6_fly_15 rfl (lv_at hl 0 rfl) ?_
    refine kx_iVi (pc := 16) [] hx hb hml hown hts hK hP hD hS (q1_wasFlown h) (cw6_176 hts ⟨Nat.le_of_ble_eq_true rfl, Nat.le_of_ble_eq_true rfl⟩) hk_b2 (by decide) rfl rfl hl.1 rfl (Nat.le_of_ble_eq_true rfl) ⟨Nat.le_of_ble_eq_true rfl, Nat.le_of_ble_eq_true rfl⟩ dX6_fly_16 (fun r3 u_ H locs hP hD hS h => ?_)
    obtain ⟨hu_, h⟩ := h
    rw [hu_] at hP hD
    refine lv_if_eq (pc := 19) (tgt := 25) hx hb dX6_fly_19 (by decide) (fun c4 => ?_) (fun c4 => ?_)
    · have h := h.1 c4
      refine lv_aload_n (pc := 25) hx hb dX6_fly_25 rfl (lv_at hl 1 rfl) ?_
      refine fg6_25 (pc := 26) (b := 4) hx hb hown hts hK hP rfl rfl dX6_fly_26 ?_
      refine kx_iVi (pc := 29) [] hx hb hml hown hts hK hP hD hS (q3_isFull h) (cw6_179 hts ⟨Nat.le_of_ble_eq_true rfl, Nat.le_of_ble_eq_true rfl⟩) rfl (by decide) rfl rfl hl.1 rfl (Nat.le_of_ble_eq_true rfl) ⟨Nat.le_of_ble_eq_true rfl, Nat.le_of_ble_eq_true rfl⟩ dX6_fly_29 (fun r5 u_ H locs hP hD hS h => ?_)
      obtain ⟨hu_, h⟩ := h
      rw [hu_] at hP hD
      refine lv_if_eq (pc := 32) (tgt := 38) hx hb dX6_fly_32 (by decide) (fun c6 => ?_) (fun c6 => ?_)
      · have h := h.1 c6
        refine lv_aload_n (pc := 38) hx hb dX6_fly_38 rfl (lv_at hl 1 rfl) ?_
        refine fg6_25 (pc := 39) (b := 4) hx hb hown hts hK hP rfl rfl dX6_fly_39 ?_
        refine lv_iload_n (pc := 42) hx hb dX6_fly_42 rfl (lv_at hl 2 rfl) ?_
        refine kx_iVv (pc := 43) [.int x1] hx hb hml hown hts hK hP hD hS (q3_doFly h) (cw6_182 hts ⟨Nat.le_of_ble_eq_true rfl, Nat.le_of_ble_eq_true rfl⟩) rfl (by decide) rfl rfl hl.1 rfl (Nat.le_of_ble_eq_true rfl) ⟨Nat.le_of_ble_eq_true rfl, Nat.le_of_ble_eq_true rfl⟩ dX6_fly_43 (fun _ σ8 H locs hP hD hS h => ?_)
        refine lv_aload_n (pc := 46) hx hb dX6_fly_46 rfl (lv_at hl 0 rfl) ?_
        refine fg6_185 (pc := 47) hx hb hown hts hK hP hk_b2 dX6_fly_47 ?_
        exact kx_iret (pc := 50) hx hb hr hlocks hK hP hD hS h dX6_fly_50
      · have h := h.2 c6
        refine lv_bipush (pc := 35) (v := (-2 : Int32)) hx hb dX6_fly_35 (by decide) ?_
        exact kx_iret (pc := 37) hx hb hr hlocks hK hP hD hS h dX6_fly_37
    · have h := h.2 c4
      refine lv_bipush (pc := 22) (v := (-4 : Int32)) hx hb dX6_fly_22 (by decide) ?_
      exact kx_iret (pc := 24) hx hb hr hlocks hK hP hD hS h dX6_fly_24
def p6_rest (σ : kx_St) (Q : kx_St → Int32 → Prop) : Prop := p3_isEmpty σ 4 (fun r1 => (r1 = 0 → p3_isFull σ 4 (fun r3 => (r3 = 0 → p3_doPass σ 4 (fun σ6 => Q σ6 (σ6.1 4 5))) ∧ (¬ r3 = 0 → Q σ (-2 : Int32)))) ∧ (¬ r1 = 0 → Q σ (-4 : Int32)))
set_option maxHeartbeats 4000000 in
theorem q6_rest {σ : kx_St}  {Q : kx_St → Int32 → Prop} (h : p6_rest σ Q) : Met l yX6_rest (Cond.code yX6_rest cX6_rest 1 (some .int) :: kx_big) rm6_rest (va_Pc [.ref (ad 0)] (kx_Wd D cy 0 ad A σ)) (kx_Qc kx_ci Q (kx_Wd D cy 0 ad A) A) 0 0 A := by
  refine kx_head (plainFor_of_name (by decide)) (Nat.le_of_ble_eq_true rfl) ?_
  intro p e s m below meth c ls cx hP hD hS hl
  obtain ⟨hx, hb, hr, hlocks, hml, hown, hts, hK⟩ := id cx
  have hl : lv_has ls 1 [(0, .ref (ad 0))] := hl
  refine lv_aload_n (pc := 0) hx hb dX6_rest_0 rfl (lv_at hl 0 rfl) ?_
  refine fg6_25 (pc := 1) (b := 4) hx hb hown hts hK hP rfl rfl dX6_rest_1 ?_
  refine kx_iVi (pc := 4) [] hx hb hml hown hts hK hP hD hS (q3_isEmpty h) (cw6_188 hts ⟨Nat.le_of_ble_eq_true rfl, Nat.le_of_ble_eq_true rfl⟩) rfl (by decide) rfl rfl hl.1 rfl (Nat.le_of_ble_eq_true rfl) ⟨Nat.le_of_ble_eq_true rfl, Nat.le_of_ble_eq_true rfl⟩ dX6_rest_4 (fun r1 u_ H locs hP hD hS h => ?_)
  obtain ⟨hu_, h⟩ := h
  rw [hu_] at hP hD
  refine lv_if_eq (pc := 7) (tgt := 13) hx hb dX6_rest_7 (by decide) (fun c2 => ?_) (fun c2 => ?_)
  · have h := h.1 c2
    refine lv_aload_n (pc := 13) hx hb dX6_rest_13 rfl (lv_at hl 0 rfl) ?_
    refine fg6_25 (pc := 14) (b := 4) hx hb hown hts hK hP rfl rfl dX6_rest_14 ?_
    refine kx_iVi (pc := 17) [] hx hb hml hown hts hK hP hD hS (q3_isFull h) (cw6_179 hts ⟨Nat.le_of_ble_eq_true rfl, Nat.le_of_ble_eq_true rfl⟩) rfl (by decide) rfl rfl hl.1 rfl (Nat.le_of_ble_eq_true rfl) ⟨Nat.le_of_ble_eq_true rfl, Nat.le_of_ble_eq_true rfl⟩ dX6_rest_17 (fun r3 u_ H locs hP hD hS h => ?_)
    obtain ⟨hu_, h⟩ := h
    rw [hu_] at hP hD
    refine lv_if_eq (pc := 20) (tgt := 26) hx hb dX6_rest_20 (by decide) (fun c4 => ?_) (fun c4 => ?_)
    · have h := h.1 c4
      refine lv_aload_n (pc := 26) hx hb dX6_rest_26 rfl (lv_at hl 0 rfl) ?_
      refine fg6_25 (pc := 27) (b := 4) hx hb hown hts hK hP rfl rfl dX6_rest_27 ?_
      refine kx_iVv (pc := 30) [] hx hb hml hown hts hK hP hD hS (q3_doPass h) (cw6_191 hts ⟨Nat.le_of_ble_eq_true rfl, Nat.le_of_ble_eq_true rfl⟩) rfl (by decide) rfl rfl hl.1 rfl (Nat.le_of_ble_eq_true rfl) ⟨Nat.le_of_ble_eq_true rfl, Nat.le_of_ble_eq_true rfl⟩ dX6_rest_30 (fun _ σ6 H locs hP hD hS h => ?_)
      refine lv_aload_n (pc := 33) hx hb dX6_rest_33 rfl (lv_at hl 0 rfl) ?_
      refine fg6_25 (pc := 34) (b := 4) hx hb hown hts hK hP rfl rfl dX6_rest_34 ?_
      refine fg6_194 (pc := 37) hx hb hown hts hK hP rfl dX6_rest_37 ?_
      exact kx_iret (pc := 40) hx hb hr hlocks hK hP hD hS h dX6_rest_40
    · have h := h.2 c4
      refine lv_bipush (pc := 23) (v := (-2 : Int32)) hx hb dX6_rest_23 (by decide) ?_
      exact kx_iret (pc := 25) hx hb hr hlocks hK hP hD hS h dX6_rest_25
  · have h := h.2 c2
    refine lv_bipush (pc := 10) (v := (-4 : Int32)) hx hb dX6_rest_10 (by decide) ?_
    exact kx_iret (pc := 12) hx hb hr hlocks hK hP hD hS h dX6_rest_12
def p6_tie (σ : kx_St) (x1 : Int32) (Q : kx_St → Int32 → Prop) : Prop := p3_kiteAt σ 4 x1 (fun o1 => (o1 = none → Q σ (-1 : Int32)) ∧ (∀ b2, o1 = some b2 → kx_k 0 b2 = 1 ∧ (((σ.1 b2 3) < (3 : Int32) → p3_isFull σ 4 (fun r4 => (r4 = 0 → p3_doTie σ 4 x1 (fun σ7 => Q σ7 (σ7.1 b2 3))) ∧ (¬ r4 = 0 → Q σ (-2 : Int32)))) ∧ (¬ (σ.1 b2 3) < (3 : Int32) → Q σ (-4 : Int32)))))
set_option maxHeartbeats 4000000 in
theorem q6_tie {σ : kx_St} {x1 : Int32} {Q : kx_St → Int32 → Prop} (h : p6_tie σ x1 Q) : Met l yX6_tie (Cond.code yX6_tie cX6_tie 3 (some .int) :: kx_big) rm6_tie (va_Pc [.ref (ad 0), .int x1] (kx_Wd D cy 0 ad A σ)) (kx_Qc kx_ci Q (kx_Wd D cy 0 ad A) A) 0 0 A := by
  refine kx_head (plainFor_of_name (by decide)) (Nat.le_of_ble_eq_true rfl) ?_
  intro p e s m below meth c ls cx hP hD hS hl
  obtain ⟨hx, hb, hr, hlocks, hml, hown, hts, hK⟩ := id cx
  have hl : lv_has ls 3 [(0, .ref (ad 0)), (1, .int x1)] := hl
  refine lv_aload_n (pc := 0) hx hb dX6_tie_0 rfl (lv_at hl 0 rfl) ?_
  refine fg6_25 (pc := 1) (b := 4) hx hb hown hts hK hP rfl rfl dX6_tie_1 ?_
  refine lv_iload_n (pc := 4) hx hb dX6_tie_4 rfl (lv_at hl 1 rfl) ?_
  refine kx_iVr (pc := 5) [.int x1] hx hb hml hown hts hK hP hD hS (q3_kiteAt h) (cw6_131 hts ⟨Nat.le_of_ble_eq_true rfl, Nat.le_of_ble_eq_true rfl⟩) rfl (by decide) rfl rfl hl.1 rfl (Nat.le_of_ble_eq_true rfl) ⟨Nat.le_of_ble_eq_true rfl, Nat.le_of_ble_eq_true rfl⟩ dX6_tie_5 (fun o1 u_ H locs hP hD hS h => ?_)
  obtain ⟨hu_, h⟩ := h
  rw [hu_] at hP hD
  rcases o1 with _ | b2
  · have h := h.1 rfl
    refine lv_astore_nN (pc := 8) (lv' := [(2, .null), (0, .ref (ad 0)), (1, .int x1)]) hx hb dX6_tie_8 rfl hl (by decide) rfl (fun ls hl => ?_)
    refine lv_aload_nN (pc := 9) hx hb dX6_tie_9 rfl (lv_at hl 0 rfl) ?_
    refine lv_ifnonnullN (pc := 10) hx hb dX6_tie_10 ?_
    refine lv_iconst (pc := 13) (v := (-1 : Int32)) hx hb dX6_tie_13 (by decide) ?_
    exact kx_iret (pc := 14) hx hb hr hlocks hK hP hD hS h dX6_tie_14
  · obtain ⟨hk_b2, h⟩ := h.2 b2 rfl
    refine lv_astore_n (pc := 8) (lv' := [(2, .ref (ad b2)), (0, .ref (ad 0)), (1, .int x1)]) hx hb dX6_tie_8 rfl hl (by decide) rfl (fun ls hl => ?_)
    refine lv_aload_n (pc := 9) hx hb dX6_tie_9 rfl (lv_at hl 0 rfl) ?_
    refine lv_ifnonnull (pc := 10) (tgt := 15) hx hb dX6_tie_10 (by decide) ?_
    refine lv_aload_n (pc := 15) hx hb dX6_tie_15 rfl (lv_at hl 0 rfl) ?_
    refine fg6_147 (pc := 16) hx hb hown hts hK hP hk_b2 dX6_tie_16 ?_
    refine lv_iconst (pc := 19) (v := (3 : Int32)) hx hb dX6_tie_19 (by decide) ?_
    refine lv_icmp_lt (pc := 20) (tgt := 26) hx hb dX6_tie_20 (by decide) (fun c3 => ?_) (fun c3 => ?_)
    · have h := h.1 c3
      refine lv_aload_n (pc := 26) hx hb dX6_tie_26 rfl (lv_at hl 1 rfl) ?_
      refine fg6_25 (pc := 27) (b := 4) hx hb hown hts hK hP rfl rfl dX6_tie_27 ?_
      refine kx_iVi (pc := 30) [] hx hb hml hown hts hK hP hD hS (q3_isFull h) (cw6_179 hts ⟨Nat.le_of_ble_eq_true rfl, Nat.le_of_ble_eq_true rfl⟩) rfl (by decide) rfl rfl hl.1 rfl (Nat.le_of_ble_eq_true rfl) ⟨Nat.le_of_ble_eq_true rfl, Nat.le_of_ble_eq_true rfl⟩ dX6_tie_30 (fun r4 u_ H locs hP hD hS h => ?_)
      obtain ⟨hu_, h⟩ := h
      rw [hu_] at hP hD
      refine lv_if_eq (pc := 33) (tgt := 39) hx hb dX6_tie_33 (by decide) (fun c5 => ?_) (fun c5 => ?_)
      · have h := h.1 c5
        refine lv_aload_n (pc := 39) hx hb dX6_tie_39 rfl (lv_at hl 1 rfl) ?_
        refine fg6_25 (pc := 40) (b := 4) hx hb hown hts hK hP rfl rfl dX6_tie_40 ?_
        refine lv_iload_n (pc := 43) hx hb dX6_tie_43 rfl (lv_at hl 2 rfl) ?_
        refine kx_iVv (pc := 44) [.int x1] hx hb hml hown hts hK hP hD hS (q3_doTie h) (cw6_197 hts ⟨Nat.le_of_ble_eq_true rfl, Nat.le_of_ble_eq_true rfl⟩) rfl (by decide) rfl rfl hl.1 rfl (Nat.le_of_ble_eq_true rfl) ⟨Nat.le_of_ble_eq_true rfl, Nat.le_of_ble_eq_true rfl⟩ dX6_tie_44 (fun _ σ7 H locs hP hD hS h => ?_)
        refine lv_aload_n (pc := 47) hx hb dX6_tie_47 rfl (lv_at hl 0 rfl) ?_
        refine fg6_147 (pc := 48) hx hb hown hts hK hP hk_b2 dX6_tie_48 ?_
        exact kx_iret (pc := 51) hx hb hr hlocks hK hP hD hS h dX6_tie_51
      · have h := h.2 c5
        refine lv_bipush (pc := 36) (v := (-2 : Int32)) hx hb dX6_tie_36 (by decide) ?_
        exact kx_iret (pc := 38) hx hb hr hlocks hK hP hD hS h dX6_tie_38
    · have h := h.2 c3
      refine lv_bipush (pc := 23) (v := (-4 : Int32)) hx hb dX6_tie_23 (by decide) ?_
      exact kx_iret (pc := 25) hx hb hr hlocks hK hP hD hS h dX6_tie_25
def p6_cut (σ : kx_St) (x1 : Int32) (Q : kx_St → Int32 → Prop) : Prop := p3_kiteAt σ 4 x1 (fun o1 => (o1 = none → Q σ (-1 : Int32)) ∧ (∀ b2, o1 = some b2 → kx_k 0 b2 = 1 ∧ ((0 < (σ.1 b2 3) → p3_isFull σ 4 (fun r4 => (r4 = 0 → p3_doCut σ 4 x1 (fun σ7 => Q σ7 (σ7.1 b2 3))) ∧ (¬ r4 = 0 → Q σ (-2 : Int32)))) ∧ (¬ 0 < (σ.1 b2 3) → Q σ (-4 : Int32)))))
set_option maxHeartbeats 4000000 in
theorem q6_cut {σ : kx_St} {x1 : Int32} {Q : kx_St → Int32 → Prop} (h : p6_cut σ x1 Q) : Met l yX6_cut (Cond.code yX6_cut cX6_cut 3 (some .int) :: kx_big) rm6_cut (va_Pc [.ref (ad 0), .int x1] (kx_Wd D cy 0 ad A σ)) (kx_Qc kx_ci Q (kx_Wd D cy 0 ad A) A) 0 0 A := by
  refine kx_head (plainFor_of_name (by decide)) (Nat.le_of_ble_eq_true rfl) ?_
  intro p e s m below meth c ls cx hP hD hS hl
  obtain ⟨hx, hb, hr, hlocks, hml, hown, hts, hK⟩ := id cx
  have hl : lv_has ls 3 [(0, .ref (ad 0)), (1, .int x1)] := hl
  refine lv_aload_n (pc := 0) hx hb dX6_cut_0 rfl (lv_at hl 0 rfl) ?_
  refine fg6_25 (pc := 1) (b := 4) hx hb hown hts hK hP rfl rfl dX6_cut_1 ?_
  refine lv_iload_n (pc := 4) hx hb dX6_cut_4 rfl (lv_at hl 1 rfl) ?_
  refine kx_iVr (pc := 5) [.int x1] hx hb hml hown hts hK hP hD hS (q3_kiteAt h) (cw6_131 hts ⟨Nat.le_of_ble_eq_true rfl, Nat.le_of_ble_eq_true rfl⟩) rfl (by decide) rfl rfl hl.1 rfl (Nat.le_of_ble_eq_true rfl) ⟨Nat.le_of_ble_eq_true rfl, Nat.le_of_ble_eq_true rfl⟩ dX6_cut_5 (fun o1 u_ H locs hP hD hS h => ?_)
  obtain ⟨hu_, h⟩ := h
  rw [hu_] at hP hD
  rcases o1 with _ | b2
  · have h := h.1 rfl
    refine lv_astore_nN (pc := 8) (lv' := [(2, .null), (0, .ref (ad 0)), (1, .int x1)]) hx hb dX6_cut_8 rfl hl (by decide) rfl (fun ls hl => ?_)
    refine lv_aload_nN (pc := 9) hx hb dX6_cut_9 rfl (lv_at hl 0 rfl) ?_
    refine lv_ifnonnullN (pc := 10) hx hb dX6_cut_10 ?_
    refine lv_iconst (pc := 13) (v := (-1 : Int32)) hx hb dX6_cut_13 (by decide) ?_
    exact kx_iret (pc := 14) hx hb hr hlocks hK hP hD hS h dX6_cut_14
  · obtain ⟨hk_b2, h⟩ := h.2 b2 rfl
    refine lv_astore_n (pc := 8) (lv' := [(2, .ref (ad b2)), (0, .ref (ad 0)), (1, .int x1)]) hx hb dX6_cut_8 rfl hl (by decide) rfl (fun ls hl => ?_)
    refine lv_aload_n (pc := 9) hx hb dX6_cut_9 rfl (lv_at hl 0 rfl) ?_
    refine lv_ifnonnull (pc := 10) (tgt := 15) hx hb dX6_cut_10 (by decide) ?_
    refine lv_aload_n (pc := 15) hx hb dX6_cut_15 rfl (lv_at hl 0 rfl) ?_
    refine fg6_147 (pc := 16) hx hb hown hts hK hP hk_b2 dX6_cut_16 ?_
    refine lv_if_gt (pc := 19) (tgt := 25) hx hb dX6_cut_19 (by decide) (fun c3 => ?_) (fun c3 => ?_)
    · have h := h.1 c3
      refine lv_aload_n (pc := 25) hx hb dX6_cut_25 rfl (lv_at hl 1 rfl) ?_
      refine fg6_25 (pc := 26) (b := 4) hx hb hown hts hK hP rfl rfl dX6_cut_26 ?_
      refine kx_iVi (pc := 29) [] hx hb hml hown hts hK hP hD hS (q3_isFull h) (cw6_179 hts ⟨Nat.le_of_ble_eq_true rfl, Nat.le_of_ble_eq_true rfl⟩) rfl (by decide) rfl rfl hl.1 rfl (Nat.le_of_ble_eq_true rfl) ⟨Nat.le_of_ble_eq_true rfl, Nat.le_of_ble_eq_true rfl⟩ dX6_cut_29 (fun r4 u_ H locs hP hD hS h => ?_)
      obtain ⟨hu_, h⟩ := h
      rw [hu_] at hP hD
      refine lv_if_eq (pc := 32) (tgt := 38) hx hb dX6_cut_32 (by decide) (fun c5 => ?_) (fun c5 => ?_)
      · have h := h.1 c5
        refine lv_aload_n (pc := 38) hx hb dX6_cut_38 rfl (lv_at hl 1 rfl) ?_
        refine fg6_25 (pc := 39) (b := 4) hx hb hown hts hK hP rfl rfl dX6_cut_39 ?_
        refine lv_iload_n (pc := 42) hx hb dX6_cut_42 rfl (lv_at hl 2 rfl) ?_
        refine kx_iVv (pc := 43) [.int x1] hx hb hml hown hts hK hP hD hS (q3_doCut h) (cw6_200 hts ⟨Nat.le_of_ble_eq_true rfl, Nat.le_of_ble_eq_true rfl⟩) rfl (by decide) rfl rfl hl.1 rfl (Nat.le_of_ble_eq_true rfl) ⟨Nat.le_of_ble_eq_true rfl, Nat.le_of_ble_eq_true rfl⟩ dX6_cut_43 (fun _ σ7 H locs hP hD hS h => ?_)
        refine lv_aload_n (pc := 46) hx hb dX6_cut_46 rfl (lv_at hl 0 rfl) ?_
        refine fg6_147 (pc := 47) hx hb hown hts hK hP hk_b2 dX6_cut_47 ?_
        exact kx_iret (pc := 50) hx hb hr hlocks hK hP hD hS h dX6_cut_50
      · have h := h.2 c5
        refine lv_bipush (pc := 35) (v := (-2 : Int32)) hx hb dX6_cut_35 (by decide) ?_
        exact kx_iret (pc := 37) hx hb hr hlocks hK hP hD hS h dX6_cut_37
    · have h := h.2 c3
      refine lv_bipush (pc := 22) (v := (-4 : Int32)) hx hb dX6_cut_22 (by decide) ?_
      exact kx_iret (pc := 24) hx hb hr hlocks hK hP hD hS h dX6_cut_24
end
