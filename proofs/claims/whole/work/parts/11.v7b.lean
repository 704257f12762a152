section
variable {p : Program} {l : Launch} {e : Env} {s : State} {m : MethodId} {args : Array Value} {below : List Frame} {meth : Method} {c : Code} {D : va_G} {cy : Nat → ClassId} {ad : Nat → Nat} {A : Nat → Prop}

def p7_isKite (σ : kx_St) (x1 : Int32) (Q : Int32 → Prop) : Prop := p7_in (x1.toInt64) (0 : Int64) (((σ.1 0 3) - (1 : Int32)).toInt64) (fun r1 => (r1 = 0 ∨ r1 = 1) ∧ (Q r1))
set_option maxHeartbeats 4000000 in
theorem q7_isKite {σ : kx_St} {x1 : Int32} {Q : Int32 → Prop} (h : p7_isKite σ x1 Q) : Met l yX7_isKite (Cond.code yX7_isKite cX7_isKite 2 (some .boolean) :: kx_big) rm7_isKite (va_Pc [.ref (ad 0), .int x1] (kx_Wd D cy 1 ad A σ)) (kx_Qc kx_ci (fun u r => u = σ ∧ Q r) (kx_Wd D cy 1 ad A) A) 0 0 A := by
  refine kx_head (plainFor_of_name (by decide)) (Nat.le_of_ble_eq_true rfl) ?_
  intro p e s m below meth c ls cx hP hD hS hl
  obtain ⟨hx, hb, hr, hlocks, hml, hown, hts, hK⟩ := id cx
  have hl : lv_has ls 2 [(0, .ref (ad 0)), (1, .int x1)] := hl
  refine lv_iload_n (pc := 0) hx hb dX7_isKite_0 rfl (lv_at hl 1 rfl) ?_
  refine lv_i2l (pc := 1) (v := (x1.toInt64)) hx hb dX7_isKite_1 rfl ?_
  refine lv_lconst (pc := 2) (v := (0 : Int64)) hx hb dX7_isKite_2 (by decide) ?_
  refine lv_aload_n (pc := 3) hx hb dX7_isKite_3 rfl (lv_at hl 0 rfl) ?_
  refine fg7_150 (pc := 4) hx hb hown hts hK hP rfl dX7_isKite_4 ?_
  refine lv_iconst (pc := 7) (v := (1 : Int32)) hx hb dX7_isKite_7 (by decide) ?_
  refine lv_isub (pc := 8) hx hb dX7_isKite_8 ?_
  refine lv_i2l (pc := 9) (v := (((σ.1 0 3) - (1 : Int32)).toInt64)) hx hb dX7_isKite_9 rfl ?_
  refine kx_iSi (pc := 10) [.long (x1.toInt64), .long (0 : Int64), .long (((σ.1 0 3) - (1 : Int32)).toInt64)] hx hb hml hown hts hK hP hD hS (q7_in h) (cw7_77 hts ⟨Nat.le_of_ble_eq_true rfl, Nat.le_of_ble_eq_true rfl⟩) rfl hl.1 rfl (Nat.le_of_ble_eq_true rfl) ⟨Nat.le_of_ble_eq_true rfl, Nat.le_of_ble_eq_true rfl⟩ dX7_isKite_10 (fun r1 u_ H locs hP hD hS h => ?_)
  obtain ⟨hu_, h⟩ := h
  rw [hu_] at hP hD
  obtain ⟨g2, h⟩ := h
  exact kx_zret (pc := 13) hx hb hr hlocks hK hP hD hS g2 ⟨rfl, h⟩ dX7_isKite_13
def p7_liftsBy_J41 (x0 : Int32) (x3 : Int32) (x5 : Int32) (s0 : Int32) (Q : Int32 → Prop) : Prop := (x0 = (1 : Int32) → Q (x5 / (3 : Int32))) ∧ (¬ x0 = (1 : Int32) → (x0 = (2 : Int32) → (x3 ≤ (6 : Int32) → Q (x5 / (2 : Int32))) ∧ (¬ x3 ≤ (6 : Int32) → Q (0 : Int32))) ∧ (¬ x0 = (2 : Int32) → (x0 = (3 : Int32) → Q s0) ∧ (¬ x0 = (3 : Int32) → (x0 = (4 : Int32) → ((3 : Int32) ≤ x5 → Q (x5 / (3 : Int32))) ∧ (¬ (3 : Int32) ≤ x5 → Q (1 : Int32))) ∧ (¬ x0 = (4 : Int32) → (x0 = (5 : Int32) → Q (s0 + x3)) ∧ (¬ x0 = (5 : Int32) → Q x5)))))
set_option maxHeartbeats 4000000 in
theorem w7_liftsBy_J41 {σ : kx_St} {x0 : Int32} {x3 : Int32} {x5 : Int32} {s0 : Int32}  {Q : Int32 → Prop} {H : Heap} {locs : List Loc} {ls : Array Slot} (cx : kx_Cx p s m args meth c D cy RX7 cX7_liftsBy 7 (some .int))   (h : p7_liftsBy_J41 x0 x3 x5 s0 Q) (hP : va_P D vwCl (kx_ws cy 1 ad σ) H) (hD : va_D A (kx_ws cy 1 ad σ)) (hS : va_S A s.heap H locs) (hl : lv_has ls 7 [(0, .int x0), (3, .int x3), (5, .int x5)]) : W p l e rm7_liftsBy s m args below meth c H locs 0 0 (MQ below (kx_Qc kx_ci (fun u r => u = σ ∧ Q r) (kx_Wd D cy 1 ad A) A) args s 0 0 A) (F0 m 41 ls [.int s0]) := by
  obtain ⟨hx, hb, hr, hlocks, hml, hown, hts, hK⟩ := id cx
  refine lv_istore (pc := 41) (lv' := [(6, .int s0), (0, .int x0), (3, .int x3), (5, .int x5)]) hx hb dX7_liftsBy_41 hl (by decide) rfl (fun ls hl => ?_)
  refine lv_iload_n (pc := 43) hx hb dX7_liftsBy_43 rfl (lv_at hl 1 rfl) ?_
  by_cases c1 : x0 = (1 : Int32)
  · have h := h.1 c1
    refine lv_tableIn (pc := 44) (tgt := 80) hx hb dX7_liftsBy_44 (by rw [c1]; decide) (by rw [c1]; decide) (off := 36) (by rw [c1]; rfl) (by decide) ?_
    refine lv_iload (pc := 80) hx hb dX7_liftsBy_80 (lv_at hl 3 rfl) ?_
    refine lv_iconst (pc := 82) (v := (3 : Int32)) hx hb dX7_liftsBy_82 (by decide) ?_
    refine lv_idiv (pc := 83) hx hb dX7_liftsBy_83 (by decide) ?_
    exact kx_iret (pc := 84) hx hb hr hlocks hK hP hD hS ⟨rfl, h⟩ dX7_liftsBy_84
  · have h := h.2 c1
    by_cases c2 : x0 = (2 : Int32)
    · have h := h.1 c2
      refine lv_tableIn (pc := 44) (tgt := 85) hx hb dX7_liftsBy_44 (by rw [c2]; decide) (by rw [c2]; decide) (off := 41) (by rw [c2]; rfl) (by decide) ?_
      refine lv_iload_n (pc := 85) hx hb dX7_liftsBy_85 rfl (lv_at hl 2 rfl) ?_
      refine lv_bipush (pc := 86) (v := (6 : Int32)) hx hb dX7_liftsBy_86 (by decide) ?_
      refine lv_icmp_le (pc := 88) (tgt := 95) hx hb dX7_liftsBy_88 (by decide) (fun c3 => ?_) (fun c3 => ?_)
      · have h := h.1 c3
        refine lv_iload (pc := 95) hx hb dX7_liftsBy_95 (lv_at hl 3 rfl) ?_
        refine lv_iconst (pc := 97) (v := (2 : Int32)) hx hb dX7_liftsBy_97 (by decide) ?_
        refine lv_idiv (pc := 98) hx hb dX7_liftsBy_98 (by decide) ?_
        exact kx_iret (pc := 99) hx hb hr hlocks hK hP hD hS ⟨rfl, h⟩ dX7_liftsBy_99
      · have h := h.2 c3
        refine lv_iconst (pc := 91) (v := (0 : Int32)) hx hb dX7_liftsBy_91 (by decide) ?_
        refine lv_goto (pc := 92) (tgt := 99) hx hb dX7_liftsBy_92 (by decide) ?_
        exact kx_iret (pc := 99) hx hb hr hlocks hK hP hD hS ⟨rfl, h⟩ dX7_liftsBy_99
    · have h := h.2 c2
      by_cases c4 : x0 = (3 : Int32)
      · have h := h.1 c4
        refine lv_tableIn (pc := 44) (tgt := 100) hx hb dX7_liftsBy_44 (by rw [c4]; decide) (by rw [c4]; decide) (off := 56) (by rw [c4]; rfl) (by decide) ?_
        refine lv_iload (pc := 100) hx hb dX7_liftsBy_100 (lv_at hl 0 rfl) ?_
        exact kx_iret (pc := 102) hx hb hr hlocks hK hP hD hS ⟨rfl, h⟩ dX7_liftsBy_102
      · have h := h.2 c4
        by_cases c5 : x0 = (4 : Int32)
        · have h := h.1 c5
          refine lv_tableIn (pc := 44) (tgt := 103) hx hb dX7_liftsBy_44 (by rw [c5]; decide) (by rw [c5]; decide) (off := 59) (by rw [c5]; rfl) (by decide) ?_
          refine lv_iload (pc := 103) hx hb dX7_liftsBy_103 (lv_at hl 3 rfl) ?_
          refine lv_iconst (pc := 105) (v := (3 : Int32)) hx hb dX7_liftsBy_105 (by decide) ?_
          refine lv_icmp_ge (pc := 106) (tgt := 113) hx hb dX7_liftsBy_106 (by decide) (fun c6 => ?_) (fun c6 => ?_)
          · have h := h.1 c6
            refine lv_iload (pc := 113) hx hb dX7_liftsBy_113 (lv_at hl 3 rfl) ?_
            refine lv_iconst (pc := 115) (v := (3 : Int32)) hx hb dX7_liftsBy_115 (by decide) ?_
            refine lv_idiv (pc := 116) hx hb dX7_liftsBy_116 (by decide) ?_
            exact kx_iret (pc := 117) hx hb hr hlocks hK hP hD hS ⟨rfl, h⟩ dX7_liftsBy_117
          · have h := h.2 c6
            refine lv_iconst (pc := 109) (v := (1 : Int32)) hx hb dX7_liftsBy_109 (by decide) ?_
            refine lv_goto (pc := 110) (tgt := 117) hx hb dX7_liftsBy_110 (by decide) ?_
            exact kx_iret (pc := 117) hx hb hr hlocks hK hP hD hS ⟨rfl, h⟩ dX7_liftsBy_117
        · have h := h.2 c5
          by_cases c7 : x0 = (5 : Int32)
          · have h := h.1 c7
            refine lv_tableIn (pc := 44) (tgt := 118) hx hb dX7_liftsBy_44 (by rw [c7]; decide) (by rw [c7]; decide) (off := 74) (by rw [c7]; rfl) (by decide) ?_
            refine lv_iload (pc := 118) hx hb dX7_liftsBy_118 (lv_at hl 0 rfl) ?_
            refine lv_iload_n (pc := 120) hx hb dX7_liftsBy_120 rfl (lv_at hl 2 rfl) ?_
            refine lv_iadd (pc := 121) hx hb dX7_liftsBy_121 ?_
            exact kx_iret (pc := 122) hx hb hr hlocks hK hP hD hS ⟨rfl, h⟩ dX7_liftsBy_122
          · have h := h.2 c7
            have tc1 : x0.toInt ≠ 1 := fun q => c1 (Int32.toInt_inj.mp (q.trans (by decide)))
            have tc2 : x0.toInt ≠ 2 := fun q => c2 (Int32.toInt_inj.mp (q.trans (by decide)))
            have tc4 : x0.toInt ≠ 3 := fun q => c4 (Int32.toInt_inj.mp (q.trans (by decide)))
            have tc5 : x0.toInt ≠ 4 := fun q => c5 (Int32.toInt_inj.mp (q.trans (by decide)))
            have tc7 : x0.toInt ≠ 5 := fun q => c7 (Int32.toInt_inj.mp (q.trans (by decide)))
            refine lv_tableOut (pc := 44) (tgt := 123) hx hb dX7_liftsBy_44 (kx_swd (fun k q1 q2 => by omega)) (by decide) ?_
            refine lv_iload (pc := 123) hx hb dX7_liftsBy_123 (lv_at hl 3 rfl) ?_
            exact kx_iret (pc := 125) hx hb hr hlocks hK hP hD hS ⟨rfl, h⟩ dX7_liftsBy_125
def p7_liftsBy_J25 (x0 : Int32) (x3 : Int32) (x4 : Int32) (s0 : Int32) (Q : Int32 → Prop) : Prop := (x3 ≤ (2 : Int32) → p7_liftsBy_J41 x0 x3 s0 x4 Q) ∧ (¬ x3 ≤ (2 : Int32) → p7_liftsBy_J41 x0 x3 s0 (x4 + (2 : Int32)) Q)
set_option maxHeartbeats 4000000 in
theorem w7_liftsBy_J25 {σ : kx_St} {x0 : Int32} {x3 : Int32} {x4 : Int32} {s0 : Int32}  {Q : Int32 → Prop} {H : Heap} {locs : List Loc} {ls : Array Slot} (cx : kx_Cx p s m args meth c D cy RX7 cX7_liftsBy 7 (some .int))   (h : p7_liftsBy_J25 x0 x3 x4 s0 Q) (hP : va_P D vwCl (kx_ws cy 1 ad σ) H) (hD : va_D A (kx_ws cy 1 ad σ)) (hS : va_S A s.heap H locs) (hl : lv_has ls 7 [(0, .int x0), (3, .int x3), (4, .int x4)]) : W p l e rm7_liftsBy s m args below meth c H locs 0 0 (MQ below (kx_Qc kx_ci (fun u r => u = σ ∧ Q r) (kx_Wd D cy 1 ad A) A) args s 0 0 A) (F0 m 25 ls [.int s0]) := by
  obtain ⟨hx, hb, hr, hlocks, hml, hown, hts, hK⟩ := id cx
  refine lv_istore (pc := 25) (lv' := [(5, .int s0), (0, .int x0), (3, .int x3), (4, .int x4)]) hx hb dX7_liftsBy_25 hl (by decide) rfl (fun ls hl => ?_)
  refine lv_iload_n (pc := 27) hx hb dX7_liftsBy_27 rfl (lv_at hl 2 rfl) ?_
  refine lv_iconst (pc := 28) (v := (2 : Int32)) hx hb dX7_liftsBy_28 (by decide) ?_
  refine lv_icmp_le (pc := 29) (tgt := 39) hx hb dX7_liftsBy_29 (by decide) (fun c1 => ?_) (fun c1 => ?_)
  · have h := h.1 c1
    refine lv_iload (pc := 39) hx hb dX7_liftsBy_39 (lv_at hl 3 rfl) ?_
    exact w7_liftsBy_J41 cx  h hP hD hS (lv_sub hl [1, 2, 0] rfl)
  · have h := h.2 c1
    refine lv_iload (pc := 32) hx hb dX7_liftsBy_32 (lv_at hl 3 rfl) ?_
    refine lv_iconst (pc := 34) (v := (2 : Int32)) hx hb dX7_liftsBy_34 (by decide) ?_
    refine lv_iadd (pc := 35) hx hb dX7_liftsBy_35 ?_
    refine lv_goto (pc := 36) (tgt := 41) hx hb dX7_liftsBy_36 (by decide) ?_
    exact w7_liftsBy_J41 cx  h hP hD hS (lv_sub hl [1, 2, 0] rfl)
def p7_liftsBy (x0 : Int32) (x1 : Int32) (x2 : Int32) (x3 : Int32) (Q : Int32 → Prop) : Prop := (((x1 * x3) / (2 : Int32)) ≤ ((2 : Int32) * x2) → p7_liftsBy_J25 x0 x3 ((x1 * x3) / (2 : Int32)) (0 : Int32) Q) ∧ (¬ ((x1 * x3) / (2 : Int32)) ≤ ((2 : Int32) * x2) → p7_liftsBy_J25 x0 x3 ((x1 * x3) / (2 : Int32)) (((x1 * x3) / (2 : Int32)) - ((2 : Int32) * x2)) Q)
set_option maxHeartbeats 4000000 in
theorem q7_liftsBy {σ : kx_St} {x0 : Int32} {x1 : Int32} {x2 : Int32} {x3 : Int32} {Q : Int32 → Prop} (h : p7_liftsBy x0 x1 x2 x3 Q) : Met l yX7_liftsBy (Cond.code yX7_liftsBy cX7_liftsBy 7 (some .int) :: kx_big) rm7_liftsBy (va_Pc [.int x0, .int x1, .int x2, .int x3] (kx_Wd D cy 1 ad A σ)) (kx_Qc kx_ci (fun u r => u = σ ∧ Q r) (kx_Wd D cy 1 ad A) A) 0 0 A := by
  refine kx_head (plainFor_of_name (by decide)) (Nat.le_of_ble_eq_true rfl) ?_
  intro p e s m below meth c ls cx hP hD hS hl
  obtain ⟨hx, hb, hr, hlocks, hml, hown, hts, hK⟩ := id cx
  have hl : lv_has ls 7 [(0, .int x0), (1, .int x1), (2, .int x2), (3, .int x3)] := hl
  refine lv_iload_n (pc := 0) hx hb dX7_liftsBy_0 rfl (lv_at hl 1 rfl) ?_
  refine lv_iload_n (pc := 1) hx hb dX7_liftsBy_1 rfl (lv_at hl 3 rfl) ?_
  refine lv_imul (pc := 2) hx hb dX7_liftsBy_2 ?_
  refine lv_iconst (pc := 3) (v := (2 : Int32)) hx hb dX7_liftsBy_3 (by decide) ?_
  refine lv_idiv (pc := 4) hx hb dX7_liftsBy_4 (by decide) ?_
  refine lv_istore (pc := 5) (lv' := [(4, .int ((x1 * x3) / (2 : Int32))), (0, .int x0), (1, .int x1), (2, .int x2), (3, .int x3)]) hx hb dX7_liftsBy_5 hl (by decide) rfl (fun ls hl => ?_)
  refine lv_iload (pc := 7) hx hb dX7_liftsBy_7 (lv_at hl 0 rfl) ?_
  refine lv_iconst (pc := 9) (v := (2 : Int32)) hx hb dX7_liftsBy_9 (by decide) ?_
  refine lv_iload_n (pc := 10) hx hb dX7_liftsBy_10 rfl (lv_at hl 3 rfl) ?_
  refine lv_imul (pc := 11) hx hb dX7_liftsBy_11 ?_
  refine lv_icmp_le (pc := 12) (tgt := 24) hx hb dX7_liftsBy_12 (by decide) (fun c1 => ?_) (fun c1 => ?_)
  · have h := h.1 c1
    refine lv_iconst (pc := 24) (v := (0 : Int32)) hx hb dX7_liftsBy_24 (by decide) ?_
    exact w7_liftsBy_J25 cx  h hP hD hS (lv_sub hl [1, 4, 0] rfl)
  · have h := h.2 c1
    refine lv_iload (pc := 15) hx hb dX7_liftsBy_15 (lv_at hl 0 rfl) ?_
    refine lv_iconst (pc := 17) (v := (2 : Int32)) hx hb dX7_liftsBy_17 (by decide) ?_
    refine lv_iload_n (pc := 18) hx hb dX7_liftsBy_18 rfl (lv_at hl 3 rfl) ?_
    refine lv_imul (pc := 19) hx hb dX7_liftsBy_19 ?_
    refine lv_isub (pc := 20) hx hb dX7_liftsBy_20 ?_
    refine lv_goto (pc := 21) (tgt := 25) hx hb dX7_liftsBy_21 (by decide) ?_
    exact w7_liftsBy_J25 cx  h hP hD hS (lv_sub hl [1, 4, 0] rfl)
def p7_liftsIn (σ : kx_St) (x1 : Int32) (x2 : Int32) (x3 : Int32) (Q : Int32 → Prop) : Prop := vp_in x2 6 ∧ (vp_in x2 6 ∧ (vp_in ((x1 + (4 : Int32)) + x2) 2480 ∧ (p7_liftsBy (σ.1 3 x2.toNatClampNeg) (σ.1 4 x2.toNatClampNeg) (σ.1 1 ((x1 + (4 : Int32)) + x2).toNatClampNeg) x3 (fun r4 => Q r4))))
set_option maxHeartbeats 4000000 in
theorem q7_liftsIn {σ : kx_St} {x1 : Int32} {x2 : Int32} {x3 : Int32} {Q : Int32 → Prop} (h : p7_liftsIn σ x1 x2 x3 Q) : Met l yX7_liftsIn (Cond.code yX7_liftsIn cX7_liftsIn 4 (some .int) :: kx_big) rm7_liftsIn (va_Pc [.ref (ad 0), .int x1, .int x2, .int x3] (kx_Wd D cy 1 ad A σ)) (kx_Qc kx_ci (fun u r => u = σ ∧ Q r) (kx_Wd D cy 1 ad A) A) 0 0 A := by
  refine kx_head (plainFor_of_name (by decide)) (Nat.le_of_ble_eq_true rfl) ?_
  intro p e s m below meth c ls cx hP hD hS hl
  obtain ⟨hx, hb, hr, hlocks, hml, hown, hts, hK⟩ := id cx
  have hl : lv_has ls 4 [(0, .ref (ad 0)), (1, .int x1), (2, .int x2), (3, .int x3)] := hl
  refine lv_aload_n (pc := 0) hx hb dX7_liftsIn_0 rfl (lv_at hl 0 rfl) ?_
  refine fg7_16 (pc := 1) (b := 3) hx hb hown hts hK hP rfl rfl dX7_liftsIn_1 ?_
  refine lv_iload_n (pc := 4) hx hb dX7_liftsIn_4 rfl (lv_at hl 2 rfl) ?_
  obtain ⟨g1, h⟩ := h
  refine kx_iald (pc := 5) hx hb hK hP rfl g1 dX7_liftsIn_5 ?_
  refine lv_aload_n (pc := 6) hx hb dX7_liftsIn_6 rfl (lv_at hl 0 rfl) ?_
  refine fg7_19 (pc := 7) (b := 4) hx hb hown hts hK hP rfl rfl dX7_liftsIn_7 ?_
  refine lv_iload_n (pc := 10) hx hb dX7_liftsIn_10 rfl (lv_at hl 2 rfl) ?_
  obtain ⟨g2, h⟩ := h
  refine kx_iald (pc := 11) hx hb hK hP rfl g2 dX7_liftsIn_11 ?_
  refine lv_aload_n (pc := 12) hx hb dX7_liftsIn_12 rfl (lv_at hl 0 rfl) ?_
  refine fg7_7 (pc := 13) (b := 1) hx hb hown hts hK hP rfl rfl dX7_liftsIn_13 ?_
  refine lv_iload_n (pc := 16) hx hb dX7_liftsIn_16 rfl (lv_at hl 1 rfl) ?_
  refine lv_iconst (pc := 17) (v := (4 : Int32)) hx hb dX7_liftsIn_17 (by decide) ?_
  refine lv_iadd (pc := 18) hx hb dX7_liftsIn_18 ?_
  refine lv_iload_n (pc := 19) hx hb dX7_liftsIn_19 rfl (lv_at hl 2 rfl) ?_
  refine lv_iadd (pc := 20) hx hb dX7_liftsIn_20 ?_
  obtain ⟨g3, h⟩ := h
  refine kx_iald (pc := 21) hx hb hK hP rfl g3 dX7_liftsIn_21 ?_
  refine lv_iload_n (pc := 22) hx hb dX7_liftsIn_22 rfl (lv_at hl 3 rfl) ?_
  refine kx_iSi (pc := 23) [.int (σ.1 3 x2.toNatClampNeg), .int (σ.1 4 x2.toNatClampNeg), .int (σ.1 1 ((x1 + (4 : Int32)) + x2).toNatClampNeg), .int x3] hx hb hml hown hts hK hP hD hS (q7_liftsBy h) (cw7_153 hts ⟨Nat.le_of_ble_eq_true rfl, Nat.le_of_ble_eq_true rfl⟩) rfl hl.1 rfl (Nat.le_of_ble_eq_true rfl) ⟨Nat.le_of_ble_eq_true rfl, Nat.le_of_ble_eq_true rfl⟩ dX7_liftsIn_23 (fun r4 u_ H locs hP hD hS h => ?_)
  obtain ⟨hu_, h⟩ := h
  rw [hu_] at hP hD
  exact kx_iret (pc := 26) hx hb hr hlocks hK hP hD hS ⟨rfl, h⟩ dX7_liftsIn_26
def p7_isLifted (σ : kx_St) (x1 : Int32) (x2 : Int32) (x3 : Int32) (Q : Int32 → Prop) : Prop := p7_liftsIn σ x1 x2 x3 (fun r1 => vp_in x2 6 ∧ ((r1 ≤ ((4 : Int32) * (σ.1 5 x2.toNatClampNeg)) → Q (0 : Int32)) ∧ (¬ r1 ≤ ((4 : Int32) * (σ.1 5 x2.toNatClampNeg)) → Q (1 : Int32))))
set_option maxHeartbeats 4000000 in
theorem q7_isLifted {σ : kx_St} {x1 : Int32} {x2 : Int32} {x3 : Int32} {Q : Int32 → Prop} (h : p7_isLifted σ x1 x2 x3 Q) : Met l yX7_isLifted (Cond.code yX7_isLifted cX7_isLifted 4 (some .boolean) :: kx_big) rm7_isLifted (va_Pc [.ref (ad 0), .int x1, .int x2, .int x3] (kx_Wd D cy 1 ad A σ)) (kx_Qc kx_ci (fun u r => u = σ ∧ Q r) (kx_Wd D cy 1 ad A) A) 0 0 A := by
  refine kx_head (plainFor_of_name (by decide)) (Nat.le_of_ble_eq_true rfl) ?_
  intro p e s m below meth c ls cx hP hD hS hl
  obtain ⟨hx, hb, hr, hlocks, hml, hown, hts, hK⟩ := id cx
  have hl : lv_has ls 4 [(0, .ref (ad 0)), (1, .int x1), (2, .int x2), (3, .int x3)] := hl
  refine lv_aload_n (pc := 0) hx hb dX7_isLifted_0 rfl (lv_at hl 0 rfl) ?_
  refine lv_iload_n (pc := 1) hx hb dX7_isLifted_1 rfl (lv_at hl 1 rfl) ?_
  refine lv_iload_n (pc := 2) hx hb dX7_isLifted_2 rfl (lv_at hl 2 rfl) ?_
  refine lv_iload_n (pc := 3) hx hb dX7_isLifted_3 rfl (lv_at hl 3 rfl) ?_
  refine kx_iVi (pc := 4) [.int x1, .int x2, .int x3] hx hb hml hown hts hK hP hD hS (q7_liftsIn h) (cw7_157 hts ⟨Nat.le_of_ble_eq_true rfl, Nat.le_of_ble_eq_true rfl⟩) rfl (by decide) rfl rfl hl.1 rfl (Nat.le_of_ble_eq_true rfl) ⟨Nat.le_of_ble_eq_true rfl, Nat.le_of_ble_eq_true rfl⟩ dX7_isLifted_4 (fun r1 u_ H locs hP hD hS h => ?_)
  obtain ⟨hu_, h⟩ := h
  rw [hu_] at hP hD
  refine lv_iconst (pc := 7) (v := (4 : Int32)) hx hb dX7_isLifted_7 (by decide) ?_
  refine lv_aload_n (pc := 8) hx hb dX7_isLifted_8 rfl (lv_at hl 0 rfl) ?_
  refine fg7_22 (pc := 9) (b := 5) hx hb hown hts hK hP rfl rfl dX7_isLifted_9 ?_
  refine lv_iload_n (pc := 12) hx hb dX7_isLifted_12 rfl (lv_at hl 2 rfl) ?_
  obtain ⟨g2, h⟩ := h
  refine kx_iald (pc := 13) hx hb hK hP rfl g2 dX7_isLifted_13 ?_
  refine lv_imul (pc := 14) hx hb dX7_isLifted_14 ?_
  refine lv_icmp_le (pc := 15) (tgt := 22) hx hb dX7_isLifted_15 (by decide) (fun c3 => ?_) (fun c3 => ?_)
  · have h := h.1 c3
    refine lv_iconst (pc := 22) (v := (0 : Int32)) hx hb dX7_isLifted_22 (by decide) ?_
    exact kx_zret (pc := 23) hx hb hr hlocks hK hP hD hS (by decide) ⟨rfl, h⟩ dX7_isLifted_23
  · have h := h.2 c3
    refine lv_iconst (pc := 18) (v := (1 : Int32)) hx hb dX7_isLifted_18 (by decide) ?_
    refine lv_goto (pc := 19) (tgt := 23) hx hb dX7_isLifted_19 (by decide) ?_
    exact kx_zret (pc := 23) hx hb hr hlocks hK hP hD hS (by decide) ⟨rfl, h⟩ dX7_isLifted_23
def p7_paysIn (σ : kx_St) (x1 : Int32) (x2 : Int32) (x3 : Int32) (Q : Int32 → Prop) : Prop := p7_isLifted σ x1 x2 x3 (fun r1 => (r1 = 0 → p7_liftsIn σ x1 x2 x3 (fun r3 => Q r3)) ∧ (¬ r1 = 0 → Q (0 : Int32)))
set_option maxHeartbeats 4000000 in
theorem q7_paysIn {σ : kx_St} {x1 : Int32} {x2 : Int32} {x3 : Int32} {Q : Int32 → Prop} (h : p7_paysIn σ x1 x2 x3 Q) : Met l yX7_paysIn (Cond.code yX7_paysIn cX7_paysIn 4 (some .int) :: kx_big) rm7_paysIn (va_Pc [.ref (ad 0), .int x1, .int x2, .int x3] (kx_Wd D cy 1 ad A σ)) (kx_Qc kx_ci (fun u r => u = σ ∧ Q r) (kx_Wd D cy 1 ad A) A) 0 0 A := by
  refine kx_head (plainFor_of_name (by decide)) (Nat.le_of_ble_eq_true rfl) ?_
  intro p e s m below meth c ls cx hP hD hS hl
  obtain ⟨hx, hb, hr, hlocks, hml, hown, hts, hK⟩ := id cx
  have hl : lv_has ls 4 [(0, .ref (ad 0)), (1, .int x1), (2, .int x2), (3, .int x3)] := hl
  refine lv_aload_n (pc := 0) hx hb dX7_paysIn_0 rfl (lv_at hl 0 rfl) ?_
  refine lv_iload_n (pc := 1) hx hb dX7_paysIn_1 rfl (lv_at hl 1 rfl) ?_
  refine lv_iload_n (pc := 2) hx hb dX7_paysIn_2 rfl (lv_at hl 2 rfl) ?_
  refine lv_iload_n (pc := 3) hx hb dX7_paysIn_3 rfl (lv_at hl 3 rfl) ?_
  refine kx_iVi (pc := 4) [.int x1, .int x2, .int x3] hx hb hml hown hts hK hP hD hS (q7_isLifted h) (cw7_161 hts ⟨Nat.le_of_ble_eq_true rfl, Nat.le_of_ble_eq_true rfl⟩) rfl (by decide) rfl rfl hl.1 rfl (Nat.le_of_ble_eq_true rfl) ⟨Nat.le_of_ble_eq_true rfl, Nat.le_of_ble_eq_true rfl⟩ dX7_paysIn_4 (fun r1 u_ H locs hP hD hS h => ?_)
  obtain ⟨hu_, h⟩ := h
  rw [hu_] at hP hD
  refine lv_if_eq (pc := 7) (tgt := 14) hx hb dX7_paysIn_7 (by decide) (fun c2 => ?_) (fun c2 => ?_)
  · have h := h.1 c2
    refine lv_aload_n (pc := 14) hx hb dX7_paysIn_14 rfl (lv_at hl 0 rfl) ?_
    refine lv_iload_n (pc := 15) hx hb dX7_paysIn_15 rfl (lv_at hl 1 rfl) ?_
    refine lv_iload_n (pc := 16) hx hb dX7_paysIn_16 rfl (lv_at hl 2 rfl) ?_
    refine lv_iload_n (pc := 17) hx hb dX7_paysIn_17 rfl (lv_at hl 3 rfl) ?_
    refine kx_iVi (pc := 18) [.int x1, .int x2, .int x3] hx hb hml hown hts hK hP hD hS (q7_liftsIn h) (cw7_157 hts ⟨Nat.le_of_ble_eq_true rfl, Nat.le_of_ble_eq_true rfl⟩) rfl (by decide) rfl rfl hl.1 rfl (Nat.le_of_ble_eq_true rfl) ⟨Nat.le_of_ble_eq_true rfl, Nat.le_of_ble_eq_true rfl⟩ dX7_paysIn_18 (fun r3 u_ H locs hP hD hS h => ?_)
    obtain ⟨hu_, h⟩ := h
    rw [hu_] at hP hD
    exact kx_iret (pc := 21) hx hb hr hlocks hK hP hD hS ⟨rfl, h⟩ dX7_paysIn_21
  · have h := h.2 c2
    refine lv_iconst (pc := 10) (v := (0 : Int32)) hx hb dX7_paysIn_10 (by decide) ?_
    refine lv_goto (pc := 11) (tgt := 21) hx hb dX7_paysIn_11 (by decide) ?_
    exact kx_iret (pc := 21) hx hb hr hlocks hK hP hD hS ⟨rfl, h⟩ dX7_paysIn_21
def p7_windAt (σ : kx_St) (x1 : Int32) (Q : Int32 → Prop) : Prop := vp_in (x1 - x1 / (4 : Int32) * (4 : Int32)) 4 ∧ (Q (σ.1 2 (x1 - x1 / (4 : Int32) * (4 : Int32)).toNatClampNeg))
set_option maxHeartbeats 4000000 in
theorem q7_windAt {σ : kx_St} {x1 : Int32} {Q : Int32 → Prop} (h : p7_windAt σ x1 Q) : Met l yX7_windAt (Cond.code yX7_windAt cX7_windAt 2 (some .int) :: kx_big) rm7_windAt (va_Pc [.ref (ad 0), .int x1] (kx_Wd D cy 1 ad A σ)) (kx_Qc kx_ci (fun u r => u = σ ∧ Q r) (kx_Wd D cy 1 ad A) A) 0 0 A := by
  refine kx_head (plainFor_of_name (by decide)) (Nat.le_of_ble_eq_true rfl) ?_
  intro p e s m below meth c ls cx hP hD hS hl
  obtain ⟨hx, hb, hr, hlocks, hml, hown, hts, hK⟩ := id cx
  have hl : lv_has ls 2 [(0, .ref (ad 0)), (1, .int x1)] := hl
  refine lv_aload_n (pc := 0) hx hb dX7_windAt_0 rfl (lv_at hl 0 rfl) ?_
  refine fg7_13 (pc := 1) (b := 2) hx hb hown hts hK hP rfl rfl dX7_windAt_1 ?_
  refine lv_iload_n (pc := 4) hx hb dX7_windAt_4 rfl (lv_at hl 1 rfl) ?_
  refine lv_iconst (pc := 5) (v := (4 : Int32)) hx hb dX7_windAt_5 (by decide) ?_
  refine lv_irem (pc := 6) hx hb dX7_windAt_6 (by decide) ?_
  obtain ⟨g1, h⟩ := h
  refine kx_iald (pc := 7) hx hb hK hP rfl g1 dX7_windAt_7 ?_
  exact kx_iret (pc := 8) hx hb hr hlocks hK hP hD hS ⟨rfl, h⟩ dX7_windAt_8
def p7_toldOf (σ : kx_St) (x1 : Int32) (x2 : Int32) (Q : Int32 → Prop) : Prop := p7_windAt σ (σ.1 1 (1 : Int32).toNatClampNeg) (fun r1 => (x2 = (0 : Int32) → vp_in x1 6 ∧ (Q (σ.1 3 x1.toNatClampNeg))) ∧ (¬ x2 = (0 : Int32) → (x2 = (1 : Int32) → vp_in x1 6 ∧ (Q (σ.1 4 x1.toNatClampNeg))) ∧ (¬ x2 = (1 : Int32) → (x2 = (2 : Int32) → vp_in x1 6 ∧ (Q (σ.1 5 x1.toNatClampNeg))) ∧ (¬ x2 = (2 : Int32) → (x2 = (3 : Int32) → vp_in ((4 : Int32) + x1) 2480 ∧ (Q (σ.1 1 ((4 : Int32) + x1).toNatClampNeg))) ∧ (¬ x2 = (3 : Int32) → (x2 = (4 : Int32) → p7_liftsIn σ (0 : Int32) x1 r1 (fun r11 => Q r11)) ∧ (¬ x2 = (4 : Int32) → (x2 = (5 : Int32) → p7_paysIn σ (0 : Int32) x1 r1 (fun r13 => Q r13)) ∧ (¬ x2 = (5 : Int32) → p7_has (σ.1 1 (2 : Int32).toNatClampNeg) x1 (fun r14 => (r14 = 0 → Q (-9 : Int32)) ∧ (¬ r14 = 0 → vp_in ((10 : Int32) + x1) 2480 ∧ (Q (σ.1 1 ((10 : Int32) + x1).toNatClampNeg)))))))))))
set_option maxHeartbeats 4000000 in
theorem q7_toldOf {σ : kx_St} {x1 : Int32} {x2 : Int32} {Q : Int32 → Prop} (h : p7_toldOf σ x1 x2 Q) : Met l yX7_toldOf (Cond.code yX7_toldOf cX7_toldOf 4 (some .int) :: kx_big) rm7_toldOf (va_Pc [.ref (ad 0), .int x1, .int x2] (kx_Wd D cy 1 ad A σ)) (kx_Qc kx_ci (fun u r => u = σ ∧ Q r) (kx_Wd D cy 1 ad A) A) 0 0 A := by
  refine kx_head (plainFor_of_name (by decide)) (Nat.le_of_ble_eq_true rfl) ?_
  intro p e s m below meth c ls cx hP hD hS hl
  obtain ⟨hx, hb, hr, hlocks, hml, hown, hts, hK⟩ := id cx
  have hl : lv_has ls 4 [(0, .ref (ad 0)), (1, .int x1), (2, .int x2)] := hl
  refine lv_aload_n (pc := 0) hx hb dX7_toldOf_0 rfl (lv_at hl 0 rfl) ?_
  refine lv_aload_n (pc := 1) hx hb dX7_toldOf_1 rfl (lv_at hl 0 rfl) ?_
  refine fg7_7 (pc := 2) (b := 1) hx hb hown hts hK hP rfl rfl dX7_toldOf_2 ?_
  refine lv_iconst (pc := 5) (v := (1 : Int32)) hx hb dX7_toldOf_5 (by decide) ?_
  refine kx_iald (pc := 6) hx hb hK hP rfl (by unfold vp_in; decide) dX7_toldOf_6 ?_
  refine kx_iVi (pc := 7) [.int (σ.1 1 (1 : Int32).toNatClampNeg)] hx hb hml hown hts hK hP hD hS (q7_windAt h) (cw7_164 hts ⟨Nat.le_of_ble_eq_true rfl, Nat.le_of_ble_eq_true rfl⟩) rfl (by decide) rfl rfl hl.1 rfl (Nat.le_of_ble_eq_true rfl) ⟨Nat.le_of_ble_eq_true rfl, Nat.le_of_ble_eq_true rfl⟩ dX7_toldOf_7 (fun r1 u_ H locs hP hD hS h => ?_)
  obtain ⟨hu_, h⟩ := h
  rw [hu_] at hP hD
  refine lv_istore_n (pc := 10) (lv' := [(3, .int r1), (0, .ref (ad 0)), (1, .int x1), (2, .int x2)]) hx hb dX7_toldOf_10 rfl hl (by decide) rfl (fun ls hl => ?_)
  refine lv_iload_n (pc := 11) hx hb dX7_toldOf_11 rfl (lv_at hl 3 rfl) ?_
  by_cases c2 : x2 = (0 : Int32)
  · have h := h.1 c2
    refine lv_tableIn (pc := 12) (tgt := 52) hx hb dX7_toldOf_12 (by rw [c2]; decide) (by rw [c2]; decide) (off := 40) (by rw [c2]; rfl) (by decide) ?_
    refine lv_aload_n (pc := 52) hx hb dX7_toldOf_52 rfl (lv_at hl 1 rfl) ?_
    refine fg7_16 (pc := 53) (b := 3) hx hb hown hts hK hP rfl rfl dX7_toldOf_53 ?_
    refine lv_iload_n (pc := 56) hx hb dX7_toldOf_56 rfl (lv_at hl 2 rfl) ?_
    obtain ⟨g3, h⟩ := h
    refine kx_iald (pc := 57) hx hb hK hP rfl g3 dX7_toldOf_57 ?_
    exact kx_iret (pc := 58) hx hb hr hlocks hK hP hD hS ⟨rfl, h⟩ dX7_toldOf_58
  · have h := h.2 c2
    by_cases c4 : x2 = (1 : Int32)
    · have h := h.1 c4
      refine lv_tableIn (pc := 12) (tgt := 59) hx hb dX7_toldOf_12 (by rw [c4]; decide) (by rw [c4]; decide) (off := 47) (by rw [c4]; rfl) (by decide) ?_
      refine lv_aload_n (pc := 59) hx hb dX7_toldOf_59 rfl (lv_at hl 1 rfl) ?_
      refine fg7_19 (pc := 60) (b := 4) hx hb hown hts hK hP rfl rfl dX7_toldOf_60 ?_
      refine lv_iload_n (pc := 63) hx hb dX7_toldOf_63 rfl (lv_at hl 2 rfl) ?_
      obtain ⟨g5, h⟩ := h
      refine kx_iald (pc := 64) hx hb hK hP rfl g5 dX7_toldOf_64 ?_
      exact kx_iret (pc := 65) hx hb hr hlocks hK hP hD hS ⟨rfl, h⟩ dX7_toldOf_65
    · have h := h.2 c4
      by_cases c6 : x2 = (2 : Int32)
      · have h := h.1 c6
        refine lv_tableIn (pc := 12) (tgt := 66) hx hb dX7_toldOf_12 (by rw [c6]; decide) (by rw [c6]; decide) (off := 54) (by rw [c6]; rfl) (by decide) ?_
        refine lv_aload_n (pc := 66) hx hb dX7_toldOf_66 rfl (lv_at hl 1 rfl) ?_
        refine fg7_22 (pc := 67) (b := 5) hx hb hown hts hK hP rfl rfl dX7_toldOf_67 ?_
        refine lv_iload_n (pc := 70) hx hb dX7_toldOf_70 rfl (lv_at hl 2 rfl) ?_
        obtain ⟨g7, h⟩ := h
        refine kx_iald (pc := 71) hx hb hK hP rfl g7 dX7_toldOf_71 ?_
        exact kx_iret (pc := 72) hx hb hr hlocks hK hP hD hS ⟨rfl, h⟩ dX7_toldOf_72
      · have h := h.2 c6
        by_cases c8 : x2 = (3 : Int32)
        · have h := h.1 c8
          refine lv_tableIn (pc := 12) (tgt := 73) hx hb dX7_toldOf_12 (by rw [c8]; decide) (by rw [c8]; decide) (off := 61) (by rw [c8]; rfl) (by decide) ?_
          refine lv_aload_n (pc := 73) hx hb dX7_toldOf_73 rfl (lv_at hl 1 rfl) ?_
          refine fg7_7 (pc := 74) (b := 1) hx hb hown hts hK hP rfl rfl dX7_toldOf_74 ?_
          refine lv_iconst (pc := 77) (v := (4 : Int32)) hx hb dX7_toldOf_77 (by decide) ?_
          refine lv_iload_n (pc := 78) hx hb dX7_toldOf_78 rfl (lv_at hl 2 rfl) ?_
          refine lv_iadd (pc := 79) hx hb dX7_toldOf_79 ?_
          obtain ⟨g9, h⟩ := h
          refine kx_iald (pc := 80) hx hb hK hP rfl g9 dX7_toldOf_80 ?_
          exact kx_iret (pc := 81) hx hb hr hlocks hK hP hD hS ⟨rfl, h⟩ dX7_toldOf_81
        · have h := h.2 c8
          by_cases c10 : x2 = (4 : Int32)
          · have h := h.1 c10
            refine lv_tableIn (pc := 12) (tgt := 82) hx hb dX7_toldOf_12 (by rw [c10]; decide) (by rw [c10]; decide) (off := 70) (by rw [c10]; rfl) (by decide) ?_
            refine lv_aload_n (pc := 82) hx hb dX7_toldOf_82 rfl (lv_at hl 1 rfl) ?_
            refine lv_iconst (pc := 83) (v := (0 : Int32)) hx hb dX7_toldOf_83 (by decide) ?_
            refine lv_iload_n (pc := 84) hx hb dX7_toldOf_84 rfl (lv_at hl 2 rfl) ?_
            refine lv_iload_n (pc := 85) hx hb dX7_toldOf_85 rfl (lv_at hl 0 rfl) ?_
            refine kx_iVi (pc := 86) [.int (0 : Int32), .int x1, .int r1] hx hb hml hown hts hK hP hD hS (q7_liftsIn h) (cw7_157 hts ⟨Nat.le_of_ble_eq_true rfl, Nat.le_of_ble_eq_true rfl⟩) rfl (by decide) rfl rfl hl.1 rfl (Nat.le_of_ble_eq_true rfl) ⟨Nat.le_of_ble_eq_true rfl, Nat.le_of_ble_eq_true rfl⟩ dX7_toldOf_86 (fun r11 u_ H locs hP hD hS h => ?_)
            obtain ⟨hu_, h⟩ := h
            rw [hu_] at hP hD
            exact kx_iret (pc := 89) hx hb hr hlocks hK hP hD hS ⟨rfl, h⟩ dX7_toldOf_89
          · have h := h.2 c10
            by_cases c12 : x2 = (5 : Int32)
            · have h := h.1 c12
              refine lv_tableIn (pc := 12) (tgt := 90) hx hb dX7_toldOf_12 (by rw [c12]; decide) (by rw [c12]; decide) (off := 78) (by rw [c12]; rfl) (by decide) ?_
              refine lv_aload_n (pc := 90) hx hb dX7_toldOf_90 rfl (lv_at hl 1 rfl) ?_
              refine lv_iconst (pc := 91) (v := (0 : Int32)) hx hb dX7_toldOf_91 (by decide) ?_
              refine lv_iload_n (pc := 92) hx hb dX7_toldOf_92 rfl (lv_at hl 2 rfl) ?_
              refine lv_iload_n (pc := 93) hx hb dX7_toldOf_93 rfl (lv_at hl 0 rfl) ?_
              refine kx_iVi (pc := 94) [.int (0 : Int32), .int x1, .int r1] hx hb hml hown hts hK hP hD hS (q7_paysIn h) (cw7_167 hts ⟨Nat.le_of_ble_eq_true rfl, Nat.le_of_ble_eq_true rfl⟩) rfl (by decide) rfl rfl hl.1 rfl (Nat.le_of_ble_eq_true rfl) ⟨Nat.le_of_ble_eq_true rfl, Nat.le_of_ble_eq_true rfl⟩ dX7_toldOf_94 (fun r13 u_ H locs hP hD hS h => ?_)
              obtain ⟨hu_, h⟩ := h
              rw [hu_] at hP hD
              exact kx_iret (pc := 97) hx hb hr hlocks hK hP hD hS ⟨rfl, h⟩ dX7_toldOf_97
            · have h := h.2 c12
              have tc2 : x2.toInt ≠ 0 := fun q => c2 (Int32.toInt_inj.mp (q.trans (by decide)))
              have tc4 : x2.toInt ≠ 1 := fun q => c4 (Int32.toInt_inj.mp (q.trans (by decide)))
              have tc6 : x2.toInt ≠ 2 := fun q => c6 (Int32.toInt_inj.mp (q.trans (by decide)))
              have tc8 : x2.toInt ≠ 3 := fun q => c8 (Int32.toInt_inj.mp (q.trans (by decide)))
              have tc10 : x2.toInt ≠ 4 := fun q => c10 (Int32.toInt_inj.mp (q.trans (by decide)))
              have tc12 : x2.toInt ≠ 5 := fun q => c12 (Int32.toInt_inj.mp (q.trans (by decide)))
              refine lv_tableOut (pc := 12) (tgt := 98) hx hb dX7_toldOf_12 (kx_swd (fun k q1 q2 => by omega)) (by decide) ?_
              refine lv_aload_n (pc := 98) hx hb dX7_toldOf_98 rfl (lv_at hl 1 rfl) ?_
              refine fg7_7 (pc := 99) (b := 1) hx hb hown hts hK hP rfl rfl dX7_toldOf_99 ?_
              refine lv_iconst (pc := 102) (v := (2 : Int32)) hx hb dX7_toldOf_102 (by decide) ?_
              refine kx_iald (pc := 103) hx hb hK hP rfl (by unfold vp_in; decide) dX7_toldOf_103 ?_
              refine lv_iload_n (pc := 104) hx hb dX7_toldOf_104 rfl (lv_at hl 2 rfl) ?_
              refine kx_iSi (pc := 105) [.int (σ.1 1 (2 : Int32).toNatClampNeg), .int x1] hx hb hml hown hts hK hP hD hS (q7_has h) (cw7_170 hts ⟨Nat.le_of_ble_eq_true rfl, Nat.le_of_ble_eq_true rfl⟩) rfl hl.1 rfl (Nat.le_of_ble_eq_true rfl) ⟨Nat.le_of_ble_eq_true rfl, Nat.le_of_ble_eq_true rfl⟩ dX7_toldOf_105 (fun r14 u_ H locs hP hD hS h => ?_)
              obtain ⟨hu_, h⟩ := h
              rw [hu_] at hP hD
              refine lv_if_eq (pc := 108) (tgt := 123) hx hb dX7_toldOf_108 (by decide) (fun c15 => ?_) (fun c15 => ?_)
              · have h := h.1 c15
                refine lv_bipush (pc := 123) (v := (-9 : Int32)) hx hb dX7_toldOf_123 (by decide) ?_
                exact kx_iret (pc := 125) hx hb hr hlocks hK hP hD hS ⟨rfl, h⟩ dX7_toldOf_125
              · have h := h.2 c15
                refine lv_aload_n (pc := 111) hx hb dX7_toldOf_111 rfl (lv_at hl 1 rfl) ?_
                refine fg7_7 (pc := 112) (b := 1) hx hb hown hts hK hP rfl rfl dX7_toldOf_112 ?_
                refine lv_bipush (pc := 115) (v := (10 : Int32)) hx hb dX7_toldOf_115 (by decide) ?_
                refine lv_iload_n (pc := 117) hx hb dX7_toldOf_117 rfl (lv_at hl 2 rfl) ?_
                refine lv_iadd (pc := 118) hx hb dX7_toldOf_118 ?_
                obtain ⟨g16, h⟩ := h
                refine kx_iald (pc := 119) hx hb hK hP rfl g16 dX7_toldOf_119 ?_
                refine lv_goto (pc := 120) (tgt := 125) hx hb dX7_toldOf_120 (by decide) ?_
                exact kx_iret (pc := 125) hx hb hr hlocks hK hP hD hS ⟨rfl, h⟩ dX7_toldOf_125
def p7_kite (σ : kx_St) (x1 : Int32) (x2 : Int32) (Q : kx_St → Int32 → Prop) : Prop := p7_isKite σ x1 (fun r1 => (r1 = 0 → Q σ (-1 : Int32)) ∧ (¬ r1 = 0 → p7_in (x2.toInt64) (0 : Int64) (6 : Int64) (fun r3 => (r3 = 0 → Q σ (-1 : Int32)) ∧ (¬ r3 = 0 → p7_toldOf σ x1 x2 (fun r5 => p7_tell σ r5 (fun σ7 r6 => Q σ7 r6))))))
set_option maxHeartbeats 4000000 in
theorem q7_kite {σ : kx_St} {x1 : Int32} {x2 : Int32} {Q : kx_St → Int32 → Prop} (h : p7_kite σ x1 x2 Q) : Met l yX7_kite (Cond.code yX7_kite cX7_kite 3 (some .int) :: kx_big) rm7_kite (va_Pc [.ref (ad 0), .int x1, .int x2] (kx_Wd D cy 1 ad A σ)) (kx_Qc kx_ci Q (kx_Wd D cy 1 ad A) A) 0 0 A := by
  refine kx_head (plainFor_of_name (by decide)) (Nat.le_of_ble_eq_true rfl) ?_
  intro p e s m below meth c ls cx hP hD hS hl
  obtain ⟨hx, hb, hr, hlocks, hml, hown, hts, hK⟩ := id cx
  have hl : lv_has ls 3 [(0, .ref (ad 0)), (1, .int x1), (2, .int x2)] := hl
  refine lv_aload_n (pc := 0) hx hb dX7_kite_0 rfl (lv_at hl 0 rfl) ?_
  refine lv_iload_n (pc := 1) hx hb dX7_kite_1 rfl (lv_at hl 1 rfl) ?_
  refine kx_iVi (pc := 2) [.int x1] hx hb hml hown hts hK hP hD hS (q7_isKite h) (cw7_174 hts ⟨Nat.le_of_ble_eq_true rfl, Nat.le_of_ble_eq_true rfl⟩) rfl (by decide) rfl rfl hl.1 rfl (Nat.le_of_ble_eq_true rfl) ⟨Nat.le_of_ble_eq_true rfl, Nat.le_of_ble_eq_true rfl⟩ dX7_kite_2 (fun r1 u_ H locs hP hD hS h => ?_)
  obtain ⟨hu_, h⟩ := h
  rw [hu_] at hP hD
  refine lv_if_eq (pc := 5) (tgt := 33) hx hb dX7_kite_5 (by decide) (fun c2 => ?_) (fun c2 => ?_)
  · have h := h.1 c2
    refine lv_iconst (pc := 33) (v := (-1 : Int32)) hx hb dX7_kite_33 (by decide) ?_
    exact kx_iret (pc := 34) hx hb hr hlocks hK hP hD hS h dX7_kite_34
  · have h := h.2 c2
    refine lv_iload_n (pc := 8) hx hb dX7_kite_8 rfl (lv_at hl 2 rfl) ?_
    refine lv_i2l (pc := 9) (v := (x2.toInt64)) hx hb dX7_kite_9 rfl ?_
    refine lv_lconst (pc := 10) (v := (0 : Int64)) hx hb dX7_kite_10 (by decide) ?_
    refine lv_ldc2 (pc := 11) (v := (6 : Int64)) hx hb hown (hts _ tb_915) dX7_kite_11 ?_
    refine kx_iSi (pc := 14) [.long (x2.toInt64), .long (0 : Int64), .long (6 : Int64)] hx hb hml hown hts hK hP hD hS (q7_in h) (cw7_77 hts ⟨Nat.le_of_ble_eq_true rfl, Nat.le_of_ble_eq_true rfl⟩) rfl hl.1 rfl (Nat.le_of_ble_eq_true rfl) ⟨Nat.le_of_ble_eq_true rfl, Nat.le_of_ble_eq_true rfl⟩ dX7_kite_14 (fun r3 u_ H locs hP hD hS h => ?_)
    obtain ⟨hu_, h⟩ := h
    rw [hu_] at hP hD
    refine lv_if_eq (pc := 17) (tgt := 33) hx hb dX7_kite_17 (by decide) (fun c4 => ?_) (fun c4 => ?_)
    · have h := h.1 c4
      refine lv_iconst (pc := 33) (v := (-1 : Int32)) hx hb dX7_kite_33 (by decide) ?_
      exact kx_iret (pc := 34) hx hb hr hlocks hK hP hD hS h dX7_kite_34
    · have h := h.2 c4
      refine lv_aload_n (pc := 20) hx hb dX7_kite_20 rfl (lv_at hl 0 rfl) ?_
      refine lv_aload_n (pc := 21) hx hb dX7_kite_21 rfl (lv_at hl 0 rfl) ?_
      refine lv_iload_n (pc := 22) hx hb dX7_kite_22 rfl (lv_at hl 1 rfl) ?_
      refine lv_iload_n (pc := 23) hx hb dX7_kite_23 rfl (lv_at hl 2 rfl) ?_
      refine kx_iVi (pc := 24) [.int x1, .int x2] hx hb hml hown hts hK hP hD hS (q7_toldOf h) (cw7_179 hts ⟨Nat.le_of_ble_eq_true rfl, Nat.le_of_ble_eq_true rfl⟩) rfl (by decide) rfl rfl hl.1 rfl (Nat.le_of_ble_eq_true rfl) ⟨Nat.le_of_ble_eq_true rfl, Nat.le_of_ble_eq_true rfl⟩ dX7_kite_24 (fun r5 u_ H locs hP hD hS h => ?_)
      obtain ⟨hu_, h⟩ := h
      rw [hu_] at hP hD
      refine kx_iVi (pc := 27) [.int r5] hx hb hml hown hts hK hP hD hS (q7_tell h) (cw7_99 hts ⟨Nat.le_of_ble_eq_true rfl, Nat.le_of_ble_eq_true rfl⟩) rfl (by decide) rfl rfl hl.1 rfl (Nat.le_of_ble_eq_true rfl) ⟨Nat.le_of_ble_eq_true rfl, Nat.le_of_ble_eq_true rfl⟩ dX7_kite_27 (fun r6 σ7 H locs hP hD hS h => ?_)
      refine lv_goto (pc := 30) (tgt := 34) hx hb dX7_kite_30 (by decide) ?_
      exact kx_iret (pc := 34) hx hb hr hlocks hK hP hD hS h dX7_kite_34
def p7_isOf_J22 (σ : kx_St) (x2 : Int32) (x3 : Int32) (Q : Int32 → Prop) : Prop := (¬ x2 = (3 : Int32) → Q (0 : Int32)) ∧ (x2 = (3 : Int32) → (¬ x3 = (5 : Int32) → Q (0 : Int32)) ∧ (x3 = (5 : Int32) → Q (1 : Int32)))
set_option maxHeartbeats 4000000 in
theorem w7_isOf_J22 {σ : kx_St} {x2 : Int32} {x3 : Int32}  {Q : Int32 → Prop} {H : Heap} {locs : List Loc} {ls : Array Slot} (cx : kx_Cx p s m args meth c D cy RX7 cX7_isOf 4 (some .boolean))   (h : p7_isOf_J22 σ x2 x3 Q) (hP : va_P D vwCl (kx_ws cy 1 ad σ) H) (hD : va_D A (kx_ws cy 1 ad σ)) (hS : va_S A s.heap H locs) (hl : lv_has ls 4 [(2, .int x2), (3, .int x3)]) : W p l e rm7_isOf s m args below meth c H locs 0 0 (MQ below (kx_Qc kx_ci (fun u r => u = σ ∧ Q r) (kx_Wd D cy 1 ad A) A) args s 0 0 A) (F0 m 22 ls []) := by
  obtain ⟨hx, hb, hr, hlocks, hml, hown, hts, hK⟩ := id cx
  refine lv_iload_n (pc := 22) hx hb dX7_isOf_22 rfl (lv_at hl 0 rfl) ?_
  refine lv_iconst (pc := 23) (v := (3 : Int32)) hx hb dX7_isOf_23 (by decide) ?_
  refine lv_icmp_ne (pc := 24) (tgt := 36) hx hb dX7_isOf_24 (by decide) (fun c1 => ?_) (fun c1 => ?_)
  · have h := h.1 c1
    refine lv_iconst (pc := 36) (v := (0 : Int32)) hx hb dX7_isOf_36 (by decide) ?_
    exact kx_zret (pc := 37) hx hb hr hlocks hK hP hD hS (by decide) ⟨rfl, h⟩ dX7_isOf_37
  · have h := h.2 c1
    refine lv_iload_n (pc := 27) hx hb dX7_isOf_27 rfl (lv_at hl 1 rfl) ?_
    refine lv_iconst (pc := 28) (v := (5 : Int32)) hx hb dX7_isOf_28 (by decide) ?_
    refine lv_icmp_ne (pc := 29) (tgt := 36) hx hb dX7_isOf_29 (by decide) (fun c2 => ?_) (fun c2 => ?_)
    · have h := h.1 c2
      refine lv_iconst (pc := 36) (v := (0 : Int32)) hx hb dX7_isOf_36 (by decide) ?_
      exact kx_zret (pc := 37) hx hb hr hlocks hK hP hD hS (by decide) ⟨rfl, h⟩ dX7_isOf_37
    · have h := h.2 c2
      refine lv_iconst (pc := 32) (v := (1 : Int32)) hx hb dX7_isOf_32 (by decide) ?_
      refine lv_goto (pc := 33) (tgt := 37) hx hb dX7_isOf_33 (by decide) ?_
      exact kx_zret (pc := 37) hx hb hr hlocks hK hP hD hS (by decide) ⟨rfl, h⟩ dX7_isOf_37
def p7_isOf (σ : kx_St) (x1 : Int32) (x2 : Int32) (Q : Int32 → Prop) : Prop := vp_in x1 6 ∧ (((σ.1 3 x1.toNatClampNeg) = x2 → Q (1 : Int32)) ∧ (¬ (σ.1 3 x1.toNatClampNeg) = x2 → (¬ x2 = (1 : Int32) → p7_isOf_J22 σ x2 (σ.1 3 x1.toNatClampNeg) Q) ∧ (x2 = (1 : Int32) → ((σ.1 3 x1.toNatClampNeg) = (4 : Int32) → Q (1 : Int32)) ∧ (¬ (σ.1 3 x1.toNatClampNeg) = (4 : Int32) → p7_isOf_J22 σ x2 (σ.1 3 x1.toNatClampNeg) Q))))
set_option maxHeartbeats 4000000 in
theorem q7_isOf {σ : kx_St} {x1 : Int32} {x2 : Int32} {Q : Int32 → Prop} (h : p7_isOf σ x1 x2 Q) : Met l yX7_isOf (Cond.code yX7_isOf cX7_isOf 4 (some .boolean) :: kx_big) rm7_isOf (va_Pc [.ref (ad 0), .int x1, .int x2] (kx_Wd D cy 1 ad A σ)) (kx_Qc kx_ci (fun u r => u = σ ∧ Q r) (kx_Wd D cy 1 ad A) A) 0 0 A := by
  refine kx_head (plainFor_of_name (by decide)) (Nat.le_of_ble_eq_true rfl) ?_
  intro p e s m below meth c ls cx hP hD hS hl
  obtain ⟨hx, hb, hr, hlocks, hml, hown, hts, hK⟩ := id cx
  have hl : lv_has ls 4 [(0, .ref (ad 0)), (1, .int x1), (2, .int x2)] := hl
  refine lv_aload_n (pc := 0) hx hb dX7_isOf_0 rfl (lv_at hl 0 rfl) ?_
  refine fg7_16 (pc := 1) (b := 3) hx hb hown hts hK hP rfl rfl dX7_isOf_1 ?_
  refine lv_iload_n (pc := 4) hx hb dX7_isOf_4 rfl (lv_at hl 1 rfl) ?_
  obtain ⟨g1, h⟩ := h
  refine kx_iald (pc := 5) hx hb hK hP rfl g1 dX7_isOf_5 ?_
  refine lv_istore_n (pc := 6) (lv' := [(3, .int (σ.1 3 x1.toNatClampNeg)), (0, .ref (ad 0)), (1, .int x1), (2, .int x2)]) hx hb dX7_isOf_6 rfl hl (by decide) rfl (fun ls hl => ?_)
  refine lv_iload_n (pc := 7) hx hb dX7_isOf_7 rfl (lv_at hl 0 rfl) ?_
  refine lv_iload_n (pc := 8) hx hb dX7_isOf_8 rfl (lv_at hl 3 rfl) ?_
  refine lv_icmp_eq (pc := 9) (tgt := 32) hx hb dX7_isOf_9 (by decide) (fun c2 => ?_) (fun c2 => ?_)
  · have h := h.1 c2
    refine lv_iconst (pc := 32) (v := (1 : Int32)) hx hb dX7_isOf_32 (by decide) ?_
    refine lv_goto (pc := 33) (tgt := 37) hx hb dX7_isOf_33 (by decide) ?_
    exact kx_zret (pc := 37) hx hb hr hlocks hK hP hD hS (by decide) ⟨rfl, h⟩ dX7_isOf_37
  · have h := h.2 c2
    refine lv_iload_n (pc := 12) hx hb dX7_isOf_12 rfl (lv_at hl 3 rfl) ?_
    refine lv_iconst (pc := 13) (v := (1 : Int32)) hx hb dX7_isOf_13 (by decide) ?_
    refine lv_icmp_ne (pc := 14) (tgt := 22) hx hb dX7_isOf_14 (by decide) (fun c3 => ?_) (fun c3 => ?_)
    · have h := h.1 c3
      exact w7_isOf_J22 cx  h hP hD hS (lv_sub hl [3, 0] rfl)
    · have h := h.2 c3
      refine lv_iload_n (pc := 17) hx hb dX7_isOf_17 rfl (lv_at hl 0 rfl) ?_
      refine lv_iconst (pc := 18) (v := (4 : Int32)) hx hb dX7_isOf_18 (by decide) ?_
      refine lv_icmp_eq (pc := 19) (tgt := 32) hx hb dX7_isOf_19 (by decide) (fun c4 => ?_) (fun c4 => ?_)
      · have h := h.1 c4
        refine lv_iconst (pc := 32) (v := (1 : Int32)) hx hb dX7_isOf_32 (by decide) ?_
        refine lv_goto (pc := 33) (tgt := 37) hx hb dX7_isOf_33 (by decide) ?_
        exact kx_zret (pc := 37) hx hb hr hlocks hK hP hD hS (by decide) ⟨rfl, h⟩ dX7_isOf_37
      · have h := h.2 c4
        exact w7_isOf_J22 cx  h hP hD hS (lv_sub hl [3, 0] rfl)
def p7_greatestWind_J23 (σ : kx_St) (x2 : Int32) (Q : Int32 → Prop) : Prop := (0 ≤ x2 → Q x2) ∧ (¬ 0 ≤ x2 → Q (-9 : Int32))
set_option maxHeartbeats 4000000 in
theorem w7_greatestWind_J23 {σ : kx_St} {x2 : Int32}  {Q : Int32 → Prop} {H : Heap} {locs : List Loc} {ls : Array Slot} (cx : kx_Cx p s m args meth c D cy RX7 cX7_greatestWind 3 (some .int))   (h : p7_greatestWind_J23 σ x2 Q) (hP : va_P D vwCl (kx_ws cy 1 ad σ) H) (hD : va_D A (kx_ws cy 1 ad σ)) (hS : va_S A s.heap H locs) (hl : lv_has ls 3 [(2, .int x2)]) : W p l e rm7_greatestWind s m args below meth c H locs 0 0 (MQ below (kx_Qc kx_ci (fun u r => u = σ ∧ Q r) (kx_Wd D cy 1 ad A) A) args s 0 0 A) (F0 m 23 ls []) := by
  obtain ⟨hx, hb, hr, hlocks, hml, hown, hts, hK⟩ := id cx
  refine lv_iload_n (pc := 23) hx hb dX7_greatestWind_23 rfl (lv_at hl 0 rfl) ?_
  refine lv_if_ge (pc := 24) (tgt := 32) hx hb dX7_greatestWind_24 (by decide) (fun c1 => ?_) (fun c1 => ?_)
  · have h := h.1 c1
    refine lv_iload_n (pc := 32) hx hb dX7_greatestWind_32 rfl (lv_at hl 0 rfl) ?_
    exact kx_iret (pc := 33) hx hb hr hlocks hK hP hD hS ⟨rfl, h⟩ dX7_greatestWind_33
  · have h := h.2 c1
    refine lv_bipush (pc := 27) (v := (-9 : Int32)) hx hb dX7_greatestWind_27 (by decide) ?_
    refine lv_goto (pc := 29) (tgt := 33) hx hb dX7_greatestWind_29 (by decide) ?_
    exact kx_iret (pc := 33) hx hb hr hlocks hK hP hD hS ⟨rfl, h⟩ dX7_greatestWind_33
def p7_greatestWind_L3 : Nat → kx_St → Int32 → Int32 → (Int32 → Prop) → Prop
  | 0, _, _, _, _ => False
  | n + 1, σ, x1, x2, Q => (x2 < 0 → p7_greatestWind_J23 σ x2 Q) ∧ (¬ x2 < 0 → p7_liftsIn σ (0 : Int32) x1 x2 (fun r2 => (¬ r2 = 0 → p7_greatestWind_J23 σ x2 Q) ∧ (r2 = 0 → p7_greatestWind_L3 n σ x1 (x2 + (-1 : Int32)) Q)))
set_option maxHeartbeats 4000000 in
theorem w7_greatestWind_L3 {σ : kx_St}  {Q : Int32 → Prop} (cx : kx_Cx p s m args meth c D cy RX7 cX7_greatestWind 3 (some .int))  : ∀ (n : Nat) (x1 : Int32) (x2 : Int32) (H : Heap) (locs : List Loc) (ls : Array Slot), p7_greatestWind_L3 n σ x1 x2 Q → va_P D vwCl (kx_ws cy 1 ad σ) H → va_D A (kx_ws cy 1 ad σ) → va_S A s.heap H locs → lv_has ls 3 [(0, .ref (ad 0)), (1, .int x1), (2, .int x2)] → W p l e rm7_greatestWind s m args below meth c H locs 0 0 (MQ below (kx_Qc kx_ci (fun u r => u = σ ∧ Q r) (kx_Wd D cy 1 ad A) A) args s 0 0 A) (F0 m 3 ls []) := by
  obtain ⟨hx, hb, hr, hlocks, hml, hown, hts, hK⟩ := id cx
  intro n
  induction n with
  | zero => intro _ _ _ _ _ h; exact False.elim h
  | succ n ih =>
    intro x1 x2 H locs ls h hP hD hS hl
    refine lv_iload_n (pc := 3) hx hb dX7_greatestWind_3 rfl (lv_at hl 2 rfl) ?_
    refine lv_if_lt (pc := 4) (tgt := 23) hx hb dX7_greatestWind_4 (by decide) (fun c1 => ?_) (fun c1 => ?_)
    · have h := h.1 c1
      exact w7_greatestWind_J23 cx  h hP hD hS (lv_sub hl [2] rfl)
    · have h := h.2 c1
      refine lv_aload_n (pc := 7) hx hb dX7_greatestWind_7 rfl (lv_at hl 0 rfl) ?_
      refine lv_iconst (pc := 8) (v := (0 : Int32)) hx hb dX7_greatestWind_8 (by decide) ?_
      refine lv_iload_n (pc := 9) hx hb dX7_greatestWind_9 rfl (lv_at hl 1 rfl) ?_
      refine lv_iload_n (pc := 10) hx hb dX7_greatestWind_10 rfl (lv_at hl 2 rfl) ?_
      refine kx_iVi (pc := 11) [.int (0 : Int32), .int x1, .int x2] hx hb hml hown hts hK hP hD hS (q7_liftsIn h) (cw7_157 hts ⟨Nat.le_of_ble_eq_true rfl, Nat.le_of_ble_eq_true rfl⟩) rfl (by decide) rfl rfl hl.1 rfl (Nat.le_of_ble_eq_true rfl) ⟨Nat.le_of_ble_eq_true rfl, Nat.le_of_ble_eq_true rfl⟩ dX7_greatestWind_11 (fun r2 u_ H locs hP hD hS h => ?_)
      obtain ⟨hu_, h⟩ := h
      rw [hu_] at hP hD
      refine lv_if_ne (pc := 14) (tgt := 23) hx hb dX7_greatestWind_14 (by decide) (fun c3 => ?_) (fun c3 => ?_)
      · have h := h.1 c3
        exact w7_greatestWind_J23 cx  h hP hD hS (lv_sub hl [2] rfl)
      · have h := h.2 c3
        refine lv_iinc (pc := 17) (v := (x2 + (-1 : Int32))) (lv' := [(2, .int (x2 + (-1 : Int32))), (0, .ref (ad 0)), (1, .int x1)]) hx hb dX7_greatestWind_17 hl (k := 2) rfl rfl (by decide) rfl (fun ls hl => ?_)
        refine lv_goto (pc := 20) (tgt := 3) hx hb dX7_greatestWind_20 (by decide) ?_
        exact ih _ _ _ _ _ h hP hD hS (lv_sub hl [1, 2, 0] rfl)
def p7_greatestWind (σ : kx_St) (x1 : Int32) (Q : Int32 → Prop) : Prop := ∃ m3, p7_greatestWind_L3 m3 σ x1 (9 : Int32) Q
set_option maxHeartbeats 4000000 in
theorem q7_greatestWind {σ : kx_St} {x1 : Int32} {Q : Int32 → Prop} (h : p7_greatestWind σ x1 Q) : Met l yX7_greatestWind (Cond.code yX7_greatestWind cX7_greatestWind 3 (some .int) :: kx_big) rm7_greatestWind (va_Pc [.ref (ad 0), .int x1] (kx_Wd D cy 1 ad A σ)) (kx_Qc kx_ci (fun u r => u = σ ∧ Q r) (kx_Wd D cy 1 ad A) A) 0 0 A := by
  refine kx_head (plainFor_of_name (by decide)) (Nat.le_of_ble_eq_true rfl) ?_
  intro p e s m below meth c ls cx hP hD hS hl
  obtain ⟨hx, hb, hr, hlocks, hml, hown, hts, hK⟩ := id cx
  have hl : lv_has ls 3 [(0, .ref (ad 0)), (1, .int x1)] := hl
  refine lv_bipush (pc := 0) (v := (9 : Int32)) hx hb dX7_greatestWind_0 (by decide) ?_
  refine lv_istore_n (pc := 2) (lv' := [(2, .int (9 : Int32)), (0, .ref (ad 0)), (1, .int x1)]) hx hb dX7_greatestWind_2 rfl hl (by decide) rfl (fun ls hl => ?_)
  obtain ⟨n0, h⟩ := h
  exact w7_greatestWind_L3 cx  n0 _ _ _ _ _ h hP hD hS (lv_sub hl [1, 2, 0] rfl)
def p7_leastLifting_J24 (σ : kx_St) (x2 : Int32) (Q : Int32 → Prop) : Prop := (¬ x2 = (10 : Int32) → Q x2) ∧ (x2 = (10 : Int32) → Q (-9 : Int32))
set_option maxHeartbeats 4000000 in
theorem w7_leastLifting_J24 {σ : kx_St} {x2 : Int32}  {Q : Int32 → Prop} {H : Heap} {locs : List Loc} {ls : Array Slot} (cx : kx_Cx p s m args meth c D cy RX7 cX7_leastLifting 3 (some .int))   (h : p7_leastLifting_J24 σ x2 Q) (hP : va_P D vwCl (kx_ws cy 1 ad σ) H) (hD : va_D A (kx_ws cy 1 ad σ)) (hS : va_S A s.heap H locs) (hl : lv_has ls 3 [(2, .int x2)]) : W p l e rm7_leastLifting s m args below meth c H locs 0 0 (MQ below (kx_Qc kx_ci (fun u r => u = σ ∧ Q r) (kx_Wd D cy 1 ad A) A) args s 0 0 A) (F0 m 24 ls []) := by
  obtain ⟨hx, hb, hr, hlocks, hml, hown, hts, hK⟩ := id cx
  refine lv_iload_n (pc := 24) hx hb dX7_leastLifting_24 rfl (lv_at hl 0 rfl) ?_
  refine lv_bipush (pc := 25) (v := (10 : Int32)) hx hb dX7_leastLifting_25 (by decide) ?_
  refine lv_icmp_ne (pc := 27) (tgt := 35) hx hb dX7_leastLifting_27 (by decide) (fun c1 => ?_) (fun c1 => ?_)
  · have h := h.1 c1
    refine lv_iload_n (pc := 35) hx hb dX7_leastLifting_35 rfl (lv_at hl 0 rfl) ?_
    exact kx_iret (pc := 36) hx hb hr hlocks hK hP hD hS ⟨rfl, h⟩ dX7_leastLifting_36
  · have h := h.2 c1
    refine lv_bipush (pc := 30) (v := (-9 : Int32)) hx hb dX7_leastLifting_30 (by decide) ?_
    refine lv_goto (pc := 32) (tgt := 36) hx hb dX7_leastLifting_32 (by decide) ?_
    exact kx_iret (pc := 36) hx hb hr hlocks hK hP hD hS ⟨rfl, h⟩ dX7_leastLifting_36
def p7_leastLifting_L2 : Nat → kx_St → Int32 → Int32 → (Int32 → Prop) → Prop
  | 0, _, _, _, _ => False
  | n + 1, σ, x1, x2, Q => ((10 : Int32) ≤ x2 → p7_leastLifting_J24 σ x2 Q) ∧ (¬ (10 : Int32) ≤ x2 → p7_isLifted σ (0 : Int32) x1 x2 (fun r2 => (¬ r2 = 0 → p7_leastLifting_J24 σ x2 Q) ∧ (r2 = 0 → p7_leastLifting_L2 n σ x1 (x2 + (1 : Int32)) Q)))
set_option maxHeartbeats 4000000 in
theorem w7_leastLifting_L2 {σ : kx_St}  {Q : Int32 → Prop} (cx : kx_Cx p s m args meth c D cy RX7 cX7_leastLifting 3 (some .int))  : ∀ (n : Nat) (x1 : Int32) (x2 : Int32) (H : Heap) (locs : List Loc) (ls : Array Slot), p7_leastLifting_L2 n σ x1 x2 Q → va_P D vwCl (kx_ws cy 1 ad σ) H → va_D A (kx_ws cy 1 ad σ) → va_S A s.heap H locs → lv_has ls 3 [(0, .ref (ad 0)), (1, .int x1), (2, .int x2)] → W p l e rm7_leastLifting s m args below meth c H locs 0 0 (MQ below (kx_Qc kx_ci (fun u r => u = σ ∧ Q r) (kx_Wd D cy 1 ad A) A) args s 0 0 A) (F0 m 2 ls []) := by
  obtain ⟨hx, hb, hr, hlocks, hml, hown, hts, hK⟩ := id cx
  intro n
  induction n with
  | zero => intro _ _ _ _ _ h; exact False.elim h
  | succ n ih =>
    intro x1 x2 H locs ls h hP hD hS hl
    refine lv_iload_n (pc := 2) hx hb dX7_leastLifting_2 rfl (lv_at hl 2 rfl) ?_
    refine lv_bipush (pc := 3) (v := (10 : Int32)) hx hb dX7_leastLifting_3 (by decide) ?_
    refine lv_icmp_ge (pc := 5) (tgt := 24) hx hb dX7_leastLifting_5 (by decide) (fun c1 => ?_) (fun c1 => ?_)
    · have h := h.1 c1
      exact w7_leastLifting_J24 cx  h hP hD hS (lv_sub hl [2] rfl)
    · have h := h.2 c1
      refine lv_aload_n (pc := 8) hx hb dX7_leastLifting_8 rfl (lv_at hl 0 rfl) ?_
      refine lv_iconst (pc := 9) (v := (0 : Int32)) hx hb dX7_leastLifting_9 (by decide) ?_
      refine lv_iload_n (pc := 10) hx hb dX7_leastLifting_10 rfl (lv_at hl 1 rfl) ?_
      refine lv_iload_n (pc := 11) hx hb dX7_leastLifting_11 rfl (lv_at hl 2 rfl) ?_
      refine kx_iVi (pc := 12) [.int (0 : Int32), .int x1, .int x2] hx hb hml hown hts hK hP hD hS (q7_isLifted h) (cw7_161 hts ⟨Nat.le_of_ble_eq_true rfl, Nat.le_of_ble_eq_true rfl⟩) rfl (by decide) rfl rfl hl.1 rfl (Nat.le_of_ble_eq_true rfl) ⟨Nat.le_of_ble_eq_true rfl, Nat.le_of_ble_eq_true rfl⟩ dX7_leastLifting_12 (fun r2 u_ H locs hP hD hS h => ?_)
      obtain ⟨hu_, h⟩ := h
      rw [hu_] at hP hD
      refine lv_if_ne (pc := 15) (tgt := 24) hx hb dX7_leastLifting_15 (by decide) (fun c3 => ?_) (fun c3 => ?_)
      · have h := h.1 c3
        exact w7_leastLifting_J24 cx  h hP hD hS (lv_sub hl [2] rfl)
      · have h := h.2 c3
        refine lv_iinc (pc := 18) (v := (x2 + (1 : Int32))) (lv' := [(2, .int (x2 + (1 : Int32))), (0, .ref (ad 0)), (1, .int x1)]) hx hb dX7_leastLifting_18 hl (k := 2) rfl rfl (by decide) rfl (fun ls hl => ?_)
        refine lv_goto (pc := 21) (tgt := 2) hx hb dX7_leastLifting_21 (by decide) ?_
        exact ih _ _ _ _ _ h hP hD hS (lv_sub hl [1, 2, 0] rfl)
def p7_leastLifting (σ : kx_St) (x1 : Int32) (Q : Int32 → Prop) : Prop := ∃ m2, p7_leastLifting_L2 m2 σ x1 (0 : Int32) Q
set_option maxHeartbeats 4000000 in
theorem q7_leastLifting {σ : kx_St} {x1 : Int32} {Q : Int32 → Prop} (h : p7_leastLifting σ x1 Q) : Met l yX7_leastLifting (Cond.code yX7_leastLifting cX7_leastLifting 3 (some .int) :: kx_big) rm7_leastLifting (va_Pc [.ref (ad 0), .int x1] (kx_Wd D cy 1 ad A σ)) (kx_Qc kx_ci (fun u r => u = σ ∧ Q r) (kx_Wd D cy 1 ad A) A) 0 0 A := by
  refine kx_head (plainFor_of_name (by decide)) (Nat.le_of_ble_eq_true rfl) ?_
  intro p e s m below meth c ls cx hP hD hS hl
  obtain ⟨hx, hb, hr, hlocks, hml, hown, hts, hK⟩ := id cx
  have hl : lv_has ls 3 [(0, .ref (ad 0)), (1, .int x1)] := hl
  refine lv_iconst (pc := 0) (v := (0 : Int32)) hx hb dX7_leastLifting_0 (by decide) ?_
  refine lv_istore_n (pc := 1) (lv' := [(2, .int (0 : Int32)), (0, .ref (ad 0)), (1, .int x1)]) hx hb dX7_leastLifting_1 rfl hl (by decide) rfl (fun ls hl => ?_)
  obtain ⟨n0, h⟩ := h
  exact w7_leastLifting_L2 cx  n0 _ _ _ _ _ h hP hD hS (lv_sub hl [1, 2, 0] rfl)
def p7_moreThanCloth_L4 : Nat → kx_St → Int32 → Int32 → Int32 → (Int32 → Prop) → Prop
  | 0, _, _, _, _, _ => False
  | n + 1, σ, x1, x2, x3, Q => ((10 : Int32) ≤ x3 → Q x2) ∧ (¬ (10 : Int32) ≤ x3 → p7_liftsIn σ (0 : Int32) x1 x3 (fun r2 => vp_in x1 6 ∧ (vp_in ((4 : Int32) + x1) 2480 ∧ (p7_liftsBy (1 : Int32) (σ.1 4 x1.toNatClampNeg) (σ.1 1 ((4 : Int32) + x1).toNatClampNeg) x3 (fun r5 => (r2 ≤ r5 → p7_moreThanCloth_L4 n σ x1 (x2 + (0 : Int32)) (x3 + (1 : Int32)) Q) ∧ (¬ r2 ≤ r5 → p7_moreThanCloth_L4 n σ x1 (x2 + (1 : Int32)) (x3 + (1 : Int32)) Q))))))
set_option maxHeartbeats 4000000 in
theorem w7_moreThanCloth_L4 {σ : kx_St}  {Q : Int32 → Prop} (cx : kx_Cx p s m args meth c D cy RX7 cX7_moreThanCloth 4 (some .int))  : ∀ (n : Nat) (x1 : Int32) (x2 : Int32) (x3 : Int32) (H : Heap) (locs : List Loc) (ls : Array Slot), p7_moreThanCloth_L4 n σ x1 x2 x3 Q → va_P D vwCl (kx_ws cy 1 ad σ) H → va_D A (kx_ws cy 1 ad σ) → va_S A s.heap H locs → lv_has ls 4 [(0, .ref (ad 0)), (1, .int x1), (2, .int x2), (3, .int x3)] → W p l e rm7_moreThanCloth s m args below meth c H locs 0 0 (MQ below (kx_Qc kx_ci (fun u r => u = σ ∧ Q r) (kx_Wd D cy 1 ad A) A) args s 0 0 A) (F0 m 4 ls []) := by
  obtain ⟨hx, hb, hr, hlocks, hml, hown, hts, hK⟩ := id cx
  intro n
  induction n with
  | zero => intro _ _ _ _ _ _ h; exact False.elim h
  | succ n ih =>
    intro x1 x2 x3 H locs ls h hP hD hS hl
    refine lv_iload_n (pc := 4) hx hb dX7_moreThanCloth_4 rfl (lv_at hl 3 rfl) ?_
    refine lv_bipush (pc := 5) (v := (10 : Int32)) hx hb dX7_moreThanCloth_5 (by decide) ?_
    refine lv_icmp_ge (pc := 7) (tgt := 53) hx hb dX7_moreThanCloth_7 (by decide) (fun c1 => ?_) (fun c1 => ?_)
    · have h := h.1 c1
      refine lv_iload_n (pc := 53) hx hb dX7_moreThanCloth_53 rfl (lv_at hl 2 rfl) ?_
      exact kx_iret (pc := 54) hx hb hr hlocks hK hP hD hS ⟨rfl, h⟩ dX7_moreThanCloth_54
    · have h := h.2 c1
      refine lv_iload_n (pc := 10) hx hb dX7_moreThanCloth_10 rfl (lv_at hl 2 rfl) ?_
      refine lv_aload_n (pc := 11) hx hb dX7_moreThanCloth_11 rfl (lv_at hl 0 rfl) ?_
      refine lv_iconst (pc := 12) (v := (0 : Int32)) hx hb dX7_moreThanCloth_12 (by decide) ?_
      refine lv_iload_n (pc := 13) hx hb dX7_moreThanCloth_13 rfl (lv_at hl 1 rfl) ?_
      refine lv_iload_n (pc := 14) hx hb dX7_moreThanCloth_14 rfl (lv_at hl 3 rfl) ?_
      refine kx_iVi (pc := 15) [.int (0 : Int32), .int x1, .int x3] hx hb hml hown hts hK hP hD hS (q7_liftsIn h) (cw7_157 hts ⟨Nat.le_of_ble_eq_true rfl, Nat.le_of_ble_eq_true rfl⟩) rfl (by decide) rfl rfl hl.1 rfl (Nat.le_of_ble_eq_true rfl) ⟨Nat.le_of_ble_eq_true rfl, Nat.le_of_ble_eq_true rfl⟩ dX7_moreThanCloth_15 (fun r2 u_ H locs hP hD hS h => ?_)
      obtain ⟨hu_, h⟩ := h
      rw [hu_] at hP hD
      refine lv_iconst (pc := 18) (v := (1 : Int32)) hx hb dX7_moreThanCloth_18 (by decide) ?_
      refine lv_aload_n (pc := 19) hx hb dX7_moreThanCloth_19 rfl (lv_at hl 0 rfl) ?_
      refine fg7_19 (pc := 20) (b := 4) hx hb hown hts hK hP rfl rfl dX7_moreThanCloth_20 ?_
      refine lv_iload_n (pc := 23) hx hb dX7_moreThanCloth_23 rfl (lv_at hl 1 rfl) ?_
      obtain ⟨g3, h⟩ := h
      refine kx_iald (pc := 24) hx hb hK hP rfl g3 dX7_moreThanCloth_24 ?_
      refine lv_aload_n (pc := 25) hx hb dX7_moreThanCloth_25 rfl (lv_at hl 0 rfl) ?_
      refine fg7_7 (pc := 26) (b := 1) hx hb hown hts hK hP rfl rfl dX7_moreThanCloth_26 ?_
      refine lv_iconst (pc := 29) (v := (4 : Int32)) hx hb dX7_moreThanCloth_29 (by decide) ?_
      refine lv_iload_n (pc := 30) hx hb dX7_moreThanCloth_30 rfl (lv_at hl 1 rfl) ?_
      refine lv_iadd (pc := 31) hx hb dX7_moreThanCloth_31 ?_
      obtain ⟨g4, h⟩ := h
      refine kx_iald (pc := 32) hx hb hK hP rfl g4 dX7_moreThanCloth_32 ?_
      refine lv_iload_n (pc := 33) hx hb dX7_moreThanCloth_33 rfl (lv_at hl 3 rfl) ?_
      refine kx_iSi (pc := 34) [.int (1 : Int32), .int (σ.1 4 x1.toNatClampNeg), .int (σ.1 1 ((4 : Int32) + x1).toNatClampNeg), .int x3] hx hb hml hown hts hK hP hD hS (q7_liftsBy h) (cw7_153 hts ⟨Nat.le_of_ble_eq_true rfl, Nat.le_of_ble_eq_true rfl⟩) rfl hl.1 rfl (Nat.le_of_ble_eq_true rfl) ⟨Nat.le_of_ble_eq_true rfl, Nat.le_of_ble_eq_true rfl⟩ dX7_moreThanCloth_34 (fun r5 u_ H locs hP hD hS h => ?_)
      obtain ⟨hu_, h⟩ := h
      rw [hu_] at hP hD
      refine lv_icmp_le (pc := 37) (tgt := 44) hx hb dX7_moreThanCloth_37 (by decide) (fun c6 => ?_) (fun c6 => ?_)
      · have h := h.1 c6
        refine lv_iconst (pc := 44) (v := (0 : Int32)) hx hb dX7_moreThanCloth_44 (by decide) ?_
        refine lv_iadd (pc := 45) hx hb dX7_moreThanCloth_45 ?_
        refine lv_istore_n (pc := 46) (lv' := [(2, .int (x2 + (0 : Int32))), (0, .ref (ad 0)), (1, .int x1), (3, .int x3)]) hx hb dX7_moreThanCloth_46 rfl hl (by decide) rfl (fun ls hl => ?_)
        refine lv_iinc (pc := 47) (v := (x3 + (1 : Int32))) (lv' := [(3, .int (x3 + (1 : Int32))), (2, .int (x2 + (0 : Int32))), (0, .ref (ad 0)), (1, .int x1)]) hx hb dX7_moreThanCloth_47 hl (k := 3) rfl rfl (by decide) rfl (fun ls hl => ?_)
        refine lv_goto (pc := 50) (tgt := 4) hx hb dX7_moreThanCloth_50 (by decide) ?_
        exact ih _ _ _ _ _ _ h hP hD hS (lv_sub hl [2, 3, 1, 0] rfl)
      · have h := h.2 c6
        refine lv_iconst (pc := 40) (v := (1 : Int32)) hx hb dX7_moreThanCloth_40 (by decide) ?_
        refine lv_goto (pc := 41) (tgt := 45) hx hb dX7_moreThanCloth_41 (by decide) ?_
        refine lv_iadd (pc := 45) hx hb dX7_moreThanCloth_45 ?_
        refine lv_istore_n (pc := 46) (lv' := [(2, .int (x2 + (1 : Int32))), (0, .ref (ad 0)), (1, .int x1), (3, .int x3)]) hx hb dX7_moreThanCloth_46 rfl hl (by decide) rfl (fun ls hl => ?_)
        refine lv_iinc (pc := 47) (v := (x3 + (1 : Int32))) (lv' := [(3, .int (x3 + (1 : Int32))), (2, .int (x2 + (1 : Int32))), (0, .ref (ad 0)), (1, .int x1)]) hx hb dX7_moreThanCloth_47 hl (k := 3) rfl rfl (by decide) rfl (fun ls hl => ?_)
        refine lv_goto (pc := 50) (tgt := 4) hx hb dX7_moreThanCloth_50 (by decide) ?_
        exact ih _ _ _ _ _ _ h hP hD hS (lv_sub hl [2, 3, 1, 0] rfl)
def p7_moreThanCloth (σ : kx_St) (x1 : Int32) (Q : Int32 → Prop) : Prop := ∃ m4, p7_moreThanCloth_L4 m4 σ x1 (0 : Int32) (0 : Int32) Q
set_option maxHeartbeats 4000000 in
theorem q7_moreThanCloth {σ : kx_St} {x1 : Int32} {Q : Int32 → Prop} (h : p7_moreThanCloth σ x1 Q) : Met l yX7_moreThanCloth (Cond.code yX7_moreThanCloth cX7_moreThanCloth 4 (some .int) :: kx_big) rm7_moreThanCloth (va_Pc [.ref (ad 0), .int x1] (kx_Wd D cy 1 ad A σ)) (kx_Qc kx_ci (fun u r => u = σ ∧ Q r) (kx_Wd D cy 1 ad A) A) 0 0 A := by
  refine kx_head (plainFor_of_name (by decide)) (Nat.le_of_ble_eq_true rfl) ?_
  intro p e s m below meth c ls cx hP hD hS hl
  obtain ⟨hx, hb, hr, hlocks, hml, hown, hts, hK⟩ := id cx
  have hl : lv_has ls 4 [(0, .ref (ad 0)), (1, .int x1)] := hl
  refine lv_iconst (pc := 0) (v := (0 : Int32)) hx hb dX7_moreThanCloth_0 (by decide) ?_
  refine lv_istore_n (pc := 1) (lv' := [(2, .int (0 : Int32)), (0, .ref (ad 0)), (1, .int x1)]) hx hb dX7_moreThanCloth_1 rfl hl (by decide) rfl (fun ls hl => ?_)
  refine lv_iconst (pc := 2) (v := (0 : Int32)) hx hb dX7_moreThanCloth_2 (by decide) ?_
  refine lv_istore_n (pc := 3) (lv' := [(3, .int (0 : Int32)), (2, .int (0 : Int32)), (0, .ref (ad 0)), (1, .int x1)]) hx hb dX7_moreThanCloth_3 rfl hl (by decide) rfl (fun ls hl => ?_)
  obtain ⟨n0, h⟩ := h
  exact w7_moreThanCloth_L4 cx  n0 _ _ _ _ _ _ h hP hD hS (lv_sub hl [2, 3, 1, 0] rfl)
def p7_mark (σ : kx_St) (x1 : Int32) (x2 : Int32) (Q : kx_St → Int32 → Prop) : Prop := p7_isKite σ x1 (fun r1 => (r1 = 0 → Q σ (-1 : Int32)) ∧ (¬ r1 = 0 → p7_in (x2.toInt64) (1 : Int64) (5 : Int64) (fun r3 => (¬ r3 = 0 → p7_isOf σ x1 x2 (fun r5 => (¬ r5 = 0 → p7_windAt σ (σ.1 1 (1 : Int32).toNatClampNeg) (fun r7 => vp_in x1 6 ∧ (vp_in ((4 : Int32) + x1) 2480 ∧ (p7_liftsBy (0 : Int32) (σ.1 4 x1.toNatClampNeg) (σ.1 1 ((4 : Int32) + x1).toNatClampNeg) r7 (fun r10 => (x2 = (1 : Int32) → p7_liftsIn σ (0 : Int32) x1 r7 (fun r12 => Q σ (((100 : Int32) + r10) - r12))) ∧ (¬ x2 = (1 : Int32) → (x2 = (2 : Int32) → p7_greatestWind σ x1 (fun r14 => Q σ r14)) ∧ (¬ x2 = (2 : Int32) → (x2 = (3 : Int32) → p7_liftsIn σ (0 : Int32) x1 r7 (fun r16 => Q σ (r16 - r10))) ∧ (¬ x2 = (3 : Int32) → (x2 = (4 : Int32) → p7_moreThanCloth σ x1 (fun r18 => Q σ r18)) ∧ (¬ x2 = (4 : Int32) → p7_leastLifting σ x1 (fun r19 => Q σ r19)))))))))) ∧ (r5 = 0 → p7_find σ (3 : Int32) (fun σ21 r20 => Q σ21 r20)))) ∧ (r3 = 0 → Q σ (-1 : Int32)))))
set_option maxHeartbeats 4000000 in
theorem q7_mark {σ : kx_St} {x1 : Int32} {x2 : Int32} {Q : kx_St → Int32 → Prop} (h : p7_mark σ x1 x2 Q) : Met l yX7_mark (Cond.code yX7_mark cX7_mark 5 (some .int) :: kx_big) rm7_mark (va_Pc [.ref (ad 0), .int x1, .int x2] (kx_Wd D cy 1 ad A σ)) (kx_Qc kx_ci Q (kx_Wd D cy 1 ad A) A) 0 0 A := by
  refine kx_head (plainFor_of_name (by decide)) (Nat.le_of_ble_eq_true rfl) ?_
  intro p e s m below meth c ls cx hP hD hS hl
  obtain ⟨hx, hb, hr, hlocks, hml, hown, hts, hK⟩ := id cx
  have hl : lv_has ls 5 [(0, .ref (ad 0)), (1, .int x1), (2, .int x2)] := hl
  refine lv_aload_n (pc := 0) hx hb dX7_mark_0 rfl (lv_at hl 0 rfl) ?_
  refine lv_iload_n (pc := 1) hx hb dX7_mark_1 rfl (lv_at hl 1 rfl) ?_
  refine kx_iVi (pc := 2) [.int x1] hx hb hml hown hts hK hP hD hS (q7_isKite h) (cw7_174 hts ⟨Nat.le_of_ble_eq_true rfl, Nat.le_of_ble_eq_true rfl⟩) rfl (by decide) rfl rfl hl.1 rfl (Nat.le_of_ble_eq_true rfl) ⟨Nat.le_of_ble_eq_true rfl, Nat.le_of_ble_eq_true rfl⟩ dX7_mark_2 (fun r1 u_ H locs hP hD hS h => ?_)
  obtain ⟨hu_, h⟩ := h
  rw [hu_] at hP hD
  refine lv_if_eq (pc := 5) (tgt := 20) hx hb dX7_mark_5 (by decide) (fun c2 => ?_) (fun c2 => ?_)
  · have h := h.1 c2
    refine lv_iconst (pc := 20) (v := (-1 : Int32)) hx hb dX7_mark_20 (by decide) ?_
    exact kx_iret (pc := 21) hx hb hr hlocks hK hP hD hS h dX7_mark_21
  · have h := h.2 c2
    refine lv_iload_n (pc := 8) hx hb dX7_mark_8 rfl (lv_at hl 2 rfl) ?_
    refine lv_i2l (pc := 9) (v := (x2.toInt64)) hx hb dX7_mark_9 rfl ?_
    refine lv_lconst (pc := 10) (v := (1 : Int64)) hx hb dX7_mark_10 (by decide) ?_
    refine lv_ldc2 (pc := 11) (v := (5 : Int64)) hx hb hown (hts _ tb_816) dX7_mark_11 ?_
    refine kx_iSi (pc := 14) [.long (x2.toInt64), .long (1 : Int64), .long (5 : Int64)] hx hb hml hown hts hK hP hD hS (q7_in h) (cw7_77 hts ⟨Nat.le_of_ble_eq_true rfl, Nat.le_of_ble_eq_true rfl⟩) rfl hl.1 rfl (Nat.le_of_ble_eq_true rfl) ⟨Nat.le_of_ble_eq_true rfl, Nat.le_of_ble_eq_true rfl⟩ dX7_mark_14 (fun r3 u_ H locs hP hD hS h => ?_)
    obtain ⟨hu_, h⟩ := h
    rw [hu_] at hP hD
    refine lv_if_ne (pc := 17) (tgt := 22) hx hb dX7_mark_17 (by decide) (fun c4 => ?_) (fun c4 => ?_)
    · have h := h.1 c4
      refine lv_aload_n (pc := 22) hx hb dX7_mark_22 rfl (lv_at hl 0 rfl) ?_
      refine lv_iload_n (pc := 23) hx hb dX7_mark_23 rfl (lv_at hl 1 rfl) ?_
      refine lv_iload_n (pc := 24) hx hb dX7_mark_24 rfl (lv_at hl 2 rfl) ?_
      refine kx_iVi (pc := 25) [.int x1, .int x2] hx hb hml hown hts hK hP hD hS (q7_isOf h) (cw7_182 hts ⟨Nat.le_of_ble_eq_true rfl, Nat.le_of_ble_eq_true rfl⟩) rfl (by decide) rfl rfl hl.1 rfl (Nat.le_of_ble_eq_true rfl) ⟨Nat.le_of_ble_eq_true rfl, Nat.le_of_ble_eq_true rfl⟩ dX7_mark_25 (fun r5 u_ H locs hP hD hS h => ?_)
      obtain ⟨hu_, h⟩ := h
      rw [hu_] at hP hD
      refine lv_if_ne (pc := 28) (tgt := 37) hx hb dX7_mark_28 (by decide) (fun c6 => ?_) (fun c6 => ?_)
      · have h := h.1 c6
        refine lv_aload_n (pc := 37) hx hb dX7_mark_37 rfl (lv_at hl 0 rfl) ?_
        refine lv_aload_n (pc := 38) hx hb dX7_mark_38 rfl (lv_at hl 0 rfl) ?_
        refine fg7_7 (pc := 39) (b := 1) hx hb hown hts hK hP rfl rfl dX7_mark_39 ?_
        refine lv_iconst (pc := 42) (v := (1 : Int32)) hx hb dX7_mark_42 (by decide) ?_
        refine kx_iald (pc := 43) hx hb hK hP rfl (by unfold vp_in; decide) dX7_mark_43 ?_
        refine kx_iVi (pc := 44) [.int (σ.1 1 (1 : Int32).toNatClampNeg)] hx hb hml hown hts hK hP hD hS (q7_windAt h) (cw7_164 hts ⟨Nat.le_of_ble_eq_true rfl, Nat.le_of_ble_eq_true rfl⟩) rfl (by decide) rfl rfl hl.1 rfl (Nat.le_of_ble_eq_true rfl) ⟨Nat.le_of_ble_eq_true rfl, Nat.le_of_ble_eq_true rfl⟩ dX7_mark_44 (fun r7 u_ H locs hP hD hS h => ?_)
        obtain ⟨hu_, h⟩ := h
        rw [hu_] at hP hD
        refine lv_istore_n (pc := 47) (lv' := [(3, .int r7), (0, .ref (ad 0)), (1, .int x1), (2, .int x2)]) hx hb dX7_mark_47 rfl hl (by decide) rfl (fun ls hl => ?_)
        refine lv_iconst (pc := 48) (v := (0 : Int32)) hx hb dX7_mark_48 (by decide) ?_
        refine lv_aload_n (pc := 49) hx hb dX7_mark_49 rfl (lv_at hl 1 rfl) ?_
        refine fg7_19 (pc := 50) (b := 4) hx hb hown hts hK hP rfl rfl dX7_mark_50 ?_
        refine lv_iload_n (pc := 53) hx hb dX7_mark_53 rfl (lv_at hl 2 rfl) ?_
        obtain ⟨g8, h⟩ := h
        refine kx_iald (pc := 54) hx hb hK hP rfl g8 dX7_mark_54 ?_
        refine lv_aload_n (pc := 55) hx hb dX7_mark_55 rfl (lv_at hl 1 rfl) ?_
        refine fg7_7 (pc := 56) (b := 1) hx hb hown hts hK hP rfl rfl dX7_mark_56 ?_
        refine lv_iconst (pc := 59) (v := (4 : Int32)) hx hb dX7_mark_59 (by decide) ?_
        refine lv_iload_n (pc := 60) hx hb dX7_mark_60 rfl (lv_at hl 2 rfl) ?_
        refine lv_iadd (pc := 61) hx hb dX7_mark_61 ?_
        obtain ⟨g9, h⟩ := h
        refine kx_iald (pc := 62) hx hb hK hP rfl g9 dX7_mark_62 ?_
        refine lv_iload_n (pc := 63) hx hb dX7_mark_63 rfl (lv_at hl 0 rfl) ?_
        refine kx_iSi (pc := 64) [.int (0 : Int32), .int (σ.1 4 x1.toNatClampNeg), .int (σ.1 1 ((4 : Int32) + x1).toNatClampNeg), .int r7] hx hb hml hown hts hK hP hD hS (q7_liftsBy h) (cw7_153 hts ⟨Nat.le_of_ble_eq_true rfl, Nat.le_of_ble_eq_true rfl⟩) rfl hl.1 rfl (Nat.le_of_ble_eq_true rfl) ⟨Nat.le_of_ble_eq_true rfl, Nat.le_of_ble_eq_true rfl⟩ dX7_mark_64 (fun r10 u_ H locs hP hD hS h => ?_)
        obtain ⟨hu_, h⟩ := h
        rw [hu_] at hP hD
        refine lv_istore (pc := 67) (lv' := [(4, .int r10), (3, .int r7), (0, .ref (ad 0)), (1, .int x1), (2, .int x2)]) hx hb dX7_mark_67 hl (by decide) rfl (fun ls hl => ?_)
        refine lv_iload_n (pc := 69) hx hb dX7_mark_69 rfl (lv_at hl 4 rfl) ?_
        by_cases c11 : x2 = (1 : Int32)
        · have h := h.1 c11
          refine lv_tableIn (pc := 70) (tgt := 100) hx hb dX7_mark_70 (by rw [c11]; decide) (by rw [c11]; decide) (off := 30) (by rw [c11]; rfl) (by decide) ?_
          refine lv_bipush (pc := 100) (v := (100 : Int32)) hx hb dX7_mark_100 (by decide) ?_
          refine lv_iload (pc := 102) hx hb dX7_mark_102 (lv_at hl 0 rfl) ?_
          refine lv_iadd (pc := 104) hx hb dX7_mark_104 ?_
          refine lv_aload_n (pc := 105) hx hb dX7_mark_105 rfl (lv_at hl 2 rfl) ?_
          refine lv_iconst (pc := 106) (v := (0 : Int32)) hx hb dX7_mark_106 (by decide) ?_
          refine lv_iload_n (pc := 107) hx hb dX7_mark_107 rfl (lv_at hl 3 rfl) ?_
          refine lv_iload_n (pc := 108) hx hb dX7_mark_108 rfl (lv_at hl 1 rfl) ?_
          refine kx_iVi (pc := 109) [.int (0 : Int32), .int x1, .int r7] hx hb hml hown hts hK hP hD hS (q7_liftsIn h) (cw7_157 hts ⟨Nat.le_of_ble_eq_true rfl, Nat.le_of_ble_eq_true rfl⟩) rfl (by decide) rfl rfl hl.1 rfl (Nat.le_of_ble_eq_true rfl) ⟨Nat.le_of_ble_eq_true rfl, Nat.le_of_ble_eq_true rfl⟩ dX7_mark_109 (fun r12 u_ H locs hP hD hS h => ?_)
          obtain ⟨hu_, h⟩ := h
          rw [hu_] at hP hD
          refine lv_isub (pc := 112) hx hb dX7_mark_112 ?_
          exact kx_iret (pc := 113) hx hb hr hlocks hK hP hD hS h dX7_mark_113
        · have h := h.2 c11
          by_cases c13 : x2 = (2 : Int32)
          · have h := h.1 c13
            refine lv_tableIn (pc := 70) (tgt := 114) hx hb dX7_mark_70 (by rw [c13]; decide) (by rw [c13]; decide) (off := 44) (by rw [c13]; rfl) (by decide) ?_
            refine lv_aload_n (pc := 114) hx hb dX7_mark_114 rfl (lv_at hl 2 rfl) ?_
            refine lv_iload_n (pc := 115) hx hb dX7_mark_115 rfl (lv_at hl 3 rfl) ?_
            refine kx_iVi (pc := 116) [.int x1] hx hb hml hown hts hK hP hD hS (q7_greatestWind h) (cw7_185 hts ⟨Nat.le_of_ble_eq_true rfl, Nat.le_of_ble_eq_true rfl⟩) rfl (by decide) rfl rfl hl.1 rfl (Nat.le_of_ble_eq_true rfl) ⟨Nat.le_of_ble_eq_true rfl, Nat.le_of_ble_eq_true rfl⟩ dX7_mark_116 (fun r14 u_ H locs hP hD hS h => ?_)
            obtain ⟨hu_, h⟩ := h
            rw [hu_] at hP hD
            exact kx_iret (pc := 119) hx hb hr hlocks hK hP hD hS h dX7_mark_119
          · have h := h.2 c13
            by_cases c15 : x2 = (3 : Int32)
            · have h := h.1 c15
              refine lv_tableIn (pc := 70) (tgt := 120) hx hb dX7_mark_70 (by rw [c15]; decide) (by rw [c15]; decide) (off := 50) (by rw [c15]; rfl) (by decide) ?_
              refine lv_aload_n (pc := 120) hx hb dX7_mark_120 rfl (lv_at hl 2 rfl) ?_
              refine lv_iconst (pc := 121) (v := (0 : Int32)) hx hb dX7_mark_121 (by decide) ?_
              refine lv_iload_n (pc := 122) hx hb dX7_mark_122 rfl (lv_at hl 3 rfl) ?_
              refine lv_iload_n (pc := 123) hx hb dX7_mark_123 rfl (lv_at hl 1 rfl) ?_
              refine kx_iVi (pc := 124) [.int (0 : Int32), .int x1, .int r7] hx hb hml hown hts hK hP hD hS (q7_liftsIn h) (cw7_157 hts ⟨Nat.le_of_ble_eq_true rfl, Nat.le_of_ble_eq_true rfl⟩) rfl (by decide) rfl rfl hl.1 rfl (Nat.le_of_ble_eq_true rfl) ⟨Nat.le_of_ble_eq_true rfl, Nat.le_of_ble_eq_true rfl⟩ dX7_mark_124 (fun r16 u_ H locs hP hD hS h => ?_)
              obtain ⟨hu_, h⟩ := h
              rw [hu_] at hP hD
              refine lv_iload (pc := 127) hx hb dX7_mark_127 (lv_at hl 0 rfl) ?_
              refine lv_isub (pc := 129) hx hb dX7_mark_129 ?_
              exact kx_iret (pc := 130) hx hb hr hlocks hK hP hD hS h dX7_mark_130
            · have h := h.2 c15
              by_cases c17 : x2 = (4 : Int32)
              · have h := h.1 c17
                refine lv_tableIn (pc := 70) (tgt := 131) hx hb dX7_mark_70 (by rw [c17]; decide) (by rw [c17]; decide) (off := 61) (by rw [c17]; rfl) (by decide) ?_
                refine lv_aload_n (pc := 131) hx hb dX7_mark_131 rfl (lv_at hl 2 rfl) ?_
                refine lv_iload_n (pc := 132) hx hb dX7_mark_132 rfl (lv_at hl 3 rfl) ?_
                refine kx_iVi (pc := 133) [.int x1] hx hb hml hown hts hK hP hD hS (q7_moreThanCloth h) (cw7_188 hts ⟨Nat.le_of_ble_eq_true rfl, Nat.le_of_ble_eq_true rfl⟩) rfl (by decide) rfl rfl hl.1 rfl (Nat.le_of_ble_eq_true rfl) ⟨Nat.le_of_ble_eq_true rfl, Nat.le_of_ble_eq_true rfl⟩ dX7_mark_133 (fun r18 u_ H locs hP hD hS h => ?_)
                obtain ⟨hu_, h⟩ := h
                rw [hu_] at hP hD
                exact kx_iret (pc := 136) hx hb hr hlocks hK hP hD hS h dX7_mark_136
              · have h := h.2 c17
                have tc11 : x2.toInt ≠ 1 := fun q => c11 (Int32.toInt_inj.mp (q.trans (by decide)))
                have tc13 : x2.toInt ≠ 2 := fun q => c13 (Int32.toInt_inj.mp (q.trans (by decide)))
                have tc15 : x2.toInt ≠ 3 := fun q => c15 (Int32.toInt_inj.mp (q.trans (by decide)))
                have tc17 : x2.toInt ≠ 4 := fun q => c17 (Int32.toInt_inj.mp (q.trans (by decide)))
                refine lv_tableOut (pc := 70) (tgt := 137) hx hb dX7_mark_70 (kx_swd (fun k q1 q2 => by omega)) (by decide) ?_
                refine lv_aload_n (pc := 137) hx hb dX7_mark_137 rfl (lv_at hl 2 rfl) ?_
                refine lv_iload_n (pc := 138) hx hb dX7_mark_138 rfl (lv_at hl 3 rfl) ?_
                refine kx_iVi (pc := 139) [.int x1] hx hb hml hown hts hK hP hD hS (q7_leastLifting h) (cw7_191 hts ⟨Nat.le_of_ble_eq_true rfl, Nat.le_of_ble_eq_true rfl⟩) rfl (by decide) rfl rfl hl.1 rfl (Nat.le_of_ble_eq_true rfl) ⟨Nat.le_of_ble_eq_true rfl, Nat.le_of_ble_eq_true rfl⟩ dX7_mark_139 (fun r19 u_ H locs hP hD hS h => ?_)
                obtain ⟨hu_, h⟩ := h
                rw [hu_] at hP hD
                exact kx_iret (pc := 142) hx hb hr hlocks hK hP hD hS h dX7_mark_142
      · have h := h.2 c6
        refine lv_aload_n (pc := 31) hx hb dX7_mark_31 rfl (lv_at hl 0 rfl) ?_
        refine lv_iconst (pc := 32) (v := (3 : Int32)) hx hb dX7_mark_32 (by decide) ?_
        refine kx_iVi (pc := 33) [.int (3 : Int32)] hx hb hml hown hts hK hP hD hS (q7_find h) (cw7_87 hts ⟨Nat.le_of_ble_eq_true rfl, Nat.le_of_ble_eq_true rfl⟩) rfl (by decide) rfl rfl hl.1 rfl (Nat.le_of_ble_eq_true rfl) ⟨Nat.le_of_ble_eq_true rfl, Nat.le_of_ble_eq_true rfl⟩ dX7_mark_33 (fun r20 σ21 H locs hP hD hS h => ?_)
        exact kx_iret (pc := 36) hx hb hr hlocks hK hP hD hS h dX7_mark_36
    · have h := h.2 c4
      refine lv_iconst (pc := 20) (v := (-1 : Int32)) hx hb dX7_mark_20 (by decide) ?_
      exact kx_iret (pc := 21) hx hb hr hlocks hK hP hD hS h dX7_mark_21
def p7_lifts (σ : kx_St) (x1 : Int32) (x2 : Int32) (Q : Int32 → Prop) : Prop := p7_isKite σ x1 (fun r1 => (r1 = 0 → Q (-1 : Int32)) ∧ (¬ r1 = 0 → p7_in (x2.toInt64) (0 : Int64) (9 : Int64) (fun r3 => (r3 = 0 → Q (-1 : Int32)) ∧ (¬ r3 = 0 → p7_liftsIn σ (0 : Int32) x1 x2 (fun r5 => Q r5)))))
set_option maxHeartbeats 4000000 in
theorem q7_lifts {σ : kx_St} {x1 : Int32} {x2 : Int32} {Q : Int32 → Prop} (h : p7_lifts σ x1 x2 Q) : Met l yX7_lifts (Cond.code yX7_lifts cX7_lifts 3 (some .int) :: kx_big) rm7_lifts (va_Pc [.ref (ad 0), .int x1, .int x2] (kx_Wd D cy 1 ad A σ)) (kx_Qc kx_ci (fun u r => u = σ ∧ Q r) (kx_Wd D cy 1 ad A) A) 0 0 A := by
  refine kx_head (plainFor_of_name (by decide)) (Nat.le_of_ble_eq_true rfl) ?_
  intro p e s m below meth c ls cx hP hD hS hl
  obtain ⟨hx, hb, hr, hlocks, hml, hown, hts, hK⟩ := id cx
  have hl : lv_has ls 3 [(0, .ref (ad 0)), (1, .int x1), (2, .int x2)] := hl
  refine lv_aload_n (pc := 0) hx hb dX7_lifts_0 rfl (lv_at hl 0 rfl) ?_
  refine lv_iload_n (pc := 1) hx hb dX7_lifts_1 rfl (lv_at hl 1 rfl) ?_
  refine kx_iVi (pc := 2) [.int x1] hx hb hml hown hts hK hP hD hS (q7_isKite h) (cw7_174 hts ⟨Nat.le_of_ble_eq_true rfl, Nat.le_of_ble_eq_true rfl⟩) rfl (by decide) rfl rfl hl.1 rfl (Nat.le_of_ble_eq_true rfl) ⟨Nat.le_of_ble_eq_true rfl, Nat.le_of_ble_eq_true rfl⟩ dX7_lifts_2 (fun r1 u_ H locs hP hD hS h => ?_)
  obtain ⟨hu_, h⟩ := h
  rw [hu_] at hP hD
  refine lv_if_eq (pc := 5) (tgt := 30) hx hb dX7_lifts_5 (by decide) (fun c2 => ?_) (fun c2 => ?_)
  · have h := h.1 c2
    refine lv_iconst (pc := 30) (v := (-1 : Int32)) hx hb dX7_lifts_30 (by decide) ?_
    exact kx_iret (pc := 31) hx hb hr hlocks hK hP hD hS ⟨rfl, h⟩ dX7_lifts_31
  · have h := h.2 c2
    refine lv_iload_n (pc := 8) hx hb dX7_lifts_8 rfl (lv_at hl 2 rfl) ?_
    refine lv_i2l (pc := 9) (v := (x2.toInt64)) hx hb dX7_lifts_9 rfl ?_
    refine lv_lconst (pc := 10) (v := (0 : Int64)) hx hb dX7_lifts_10 (by decide) ?_
    refine lv_ldc2 (pc := 11) (v := (9 : Int64)) hx hb hown (hts _ tb_966) dX7_lifts_11 ?_
    refine kx_iSi (pc := 14) [.long (x2.toInt64), .long (0 : Int64), .long (9 : Int64)] hx hb hml hown hts hK hP hD hS (q7_in h) (cw7_77 hts ⟨Nat.le_of_ble_eq_true rfl, Nat.le_of_ble_eq_true rfl⟩) rfl hl.1 rfl (Nat.le_of_ble_eq_true rfl) ⟨Nat.le_of_ble_eq_true rfl, Nat.le_of_ble_eq_true rfl⟩ dX7_lifts_14 (fun r3 u_ H locs hP hD hS h => ?_)
    obtain ⟨hu_, h⟩ := h
    rw [hu_] at hP hD
    refine lv_if_eq (pc := 17) (tgt := 30) hx hb dX7_lifts_17 (by decide) (fun c4 => ?_) (fun c4 => ?_)
    · have h := h.1 c4
      refine lv_iconst (pc := 30) (v := (-1 : Int32)) hx hb dX7_lifts_30 (by decide) ?_
      exact kx_iret (pc := 31) hx hb hr hlocks hK hP hD hS ⟨rfl, h⟩ dX7_lifts_31
    · have h := h.2 c4
      refine lv_aload_n (pc := 20) hx hb dX7_lifts_20 rfl (lv_at hl 0 rfl) ?_
      refine lv_iconst (pc := 21) (v := (0 : Int32)) hx hb dX7_lifts_21 (by decide) ?_
      refine lv_iload_n (pc := 22) hx hb dX7_lifts_22 rfl (lv_at hl 1 rfl) ?_
      refine lv_iload_n (pc := 23) hx hb dX7_lifts_23 rfl (lv_at hl 2 rfl) ?_
      refine kx_iVi (pc := 24) [.int (0 : Int32), .int x1, .int x2] hx hb hml hown hts hK hP hD hS (q7_liftsIn h) (cw7_157 hts ⟨Nat.le_of_ble_eq_true rfl, Nat.le_of_ble_eq_true rfl⟩) rfl (by decide) rfl rfl hl.1 rfl (Nat.le_of_ble_eq_true rfl) ⟨Nat.le_of_ble_eq_true rfl, Nat.le_of_ble_eq_true rfl⟩ dX7_lifts_24 (fun r5 u_ H locs hP hD hS h => ?_)
      obtain ⟨hu_, h⟩ := h
      rw [hu_] at hP hD
      refine lv_goto (pc := 27) (tgt := 31) hx hb dX7_lifts_27 (by decide) ?_
      exact kx_iret (pc := 31) hx hb hr hlocks hK hP hD hS ⟨rfl, h⟩ dX7_lifts_31
def p7_pays (σ : kx_St) (x1 : Int32) (x2 : Int32) (Q : Int32 → Prop) : Prop := p7_isKite σ x1 (fun r1 => (r1 = 0 → Q (-1 : Int32)) ∧ (¬ r1 = 0 → p7_in (x2.toInt64) (0 : Int64) (9 : Int64) (fun r3 => (¬ r3 = 0 → p7_isLifted σ (0 : Int32) x1 x2 (fun r5 => (r5 = 0 → p7_liftsIn σ (0 : Int32) x1 x2 (fun r7 => Q r7)) ∧ (¬ r5 = 0 → Q (-9 : Int32)))) ∧ (r3 = 0 → Q (-1 : Int32)))))
set_option maxHeartbeats 4000000 in
theorem q7_pays {σ : kx_St} {x1 : Int32} {x2 : Int32} {Q : Int32 → Prop} (h : p7_pays σ x1 x2 Q) : Met l yX7_pays (Cond.code yX7_pays cX7_pays 3 (some .int) :: kx_big) rm7_pays (va_Pc [.ref (ad 0), .int x1, .int x2] (kx_Wd D cy 1 ad A σ)) (kx_Qc kx_ci (fun u r => u = σ ∧ Q r) (kx_Wd D cy 1 ad A) A) 0 0 A := by
  refine kx_head (plainFor_of_name (by decide)) (Nat.le_of_ble_eq_true rfl) ?_
  intro p e s m below meth c ls cx hP hD hS hl
  obtain ⟨hx, hb, hr, hlocks, hml, hown, hts, hK⟩ := id cx
  have hl : lv_has ls 3 [(0, .ref (ad 0)), (1, .int x1), (2, .int x2)] := hl
  refine lv_aload_n (pc := 0) hx hb dX7_pays_0 rfl (lv_at hl 0 rfl) ?_
  refine lv_iload_n (pc := 1) hx hb dX7_pays_1 rfl (lv_at hl 1 rfl) ?_
  refine kx_iVi (pc := 2) [.int x1] hx hb hml hown hts hK hP hD hS (q7_isKite h) (cw7_174 hts ⟨Nat.le_of_ble_eq_true rfl, Nat.le_of_ble_eq_true rfl⟩) rfl (by decide) rfl rfl hl.1 rfl (Nat.le_of_ble_eq_true rfl) ⟨Nat.le_of_ble_eq_true rfl, Nat.le_of_ble_eq_true rfl⟩ dX7_pays_2 (fun r1 u_ H locs hP hD hS h => ?_)
  obtain ⟨hu_, h⟩ := h
  rw [hu_] at hP hD
  refine lv_if_eq (pc := 5) (tgt := 20) hx hb dX7_pays_5 (by decide) (fun c2 => ?_) (fun c2 => ?_)
  · have h := h.1 c2
    refine lv_iconst (pc := 20) (v := (-1 : Int32)) hx hb dX7_pays_20 (by decide) ?_
    exact kx_iret (pc := 21) hx hb hr hlocks hK hP hD hS ⟨rfl, h⟩ dX7_pays_21
  · have h := h.2 c2
    refine lv_iload_n (pc := 8) hx hb dX7_pays_8 rfl (lv_at hl 2 rfl) ?_
    refine lv_i2l (pc := 9) (v := (x2.toInt64)) hx hb dX7_pays_9 rfl ?_
    refine lv_lconst (pc := 10) (v := (0 : Int64)) hx hb dX7_pays_10 (by decide) ?_
    refine lv_ldc2 (pc := 11) (v := (9 : Int64)) hx hb hown (hts _ tb_966) dX7_pays_11 ?_
    refine kx_iSi (pc := 14) [.long (x2.toInt64), .long (0 : Int64), .long (9 : Int64)] hx hb hml hown hts hK hP hD hS (q7_in h) (cw7_77 hts ⟨Nat.le_of_ble_eq_true rfl, Nat.le_of_ble_eq_true rfl⟩) rfl hl.1 rfl (Nat.le_of_ble_eq_true rfl) ⟨Nat.le_of_ble_eq_true rfl, Nat.le_of_ble_eq_true rfl⟩ dX7_pays_14 (fun r3 u_ H locs hP hD hS h => ?_)
    obtain ⟨hu_, h⟩ := h
    rw [hu_] at hP hD
    refine lv_if_ne (pc := 17) (tgt := 22) hx hb dX7_pays_17 (by decide) (fun c4 => ?_) (fun c4 => ?_)
    · have h := h.1 c4
      refine lv_aload_n (pc := 22) hx hb dX7_pays_22 rfl (lv_at hl 0 rfl) ?_
      refine lv_iconst (pc := 23) (v := (0 : Int32)) hx hb dX7_pays_23 (by decide) ?_
      refine lv_iload_n (pc := 24) hx hb dX7_pays_24 rfl (lv_at hl 1 rfl) ?_
      refine lv_iload_n (pc := 25) hx hb dX7_pays_25 rfl (lv_at hl 2 rfl) ?_
      refine kx_iVi (pc := 26) [.int (0 : Int32), .int x1, .int x2] hx hb hml hown hts hK hP hD hS (q7_isLifted h) (cw7_161 hts ⟨Nat.le_of_ble_eq_true rfl, Nat.le_of_ble_eq_true rfl⟩) rfl (by decide) rfl rfl hl.1 rfl (Nat.le_of_ble_eq_true rfl) ⟨Nat.le_of_ble_eq_true rfl, Nat.le_of_ble_eq_true rfl⟩ dX7_pays_26 (fun r5 u_ H locs hP hD hS h => ?_)
      obtain ⟨hu_, h⟩ := h
      rw [hu_] at hP hD
      refine lv_if_eq (pc := 29) (tgt := 37) hx hb dX7_pays_29 (by decide) (fun c6 => ?_) (fun c6 => ?_)
      · have h := h.1 c6
        refine lv_aload_n (pc := 37) hx hb dX7_pays_37 rfl (lv_at hl 0 rfl) ?_
        refine lv_iconst (pc := 38) (v := (0 : Int32)) hx hb dX7_pays_38 (by decide) ?_
        refine lv_iload_n (pc := 39) hx hb dX7_pays_39 rfl (lv_at hl 1 rfl) ?_
        refine lv_iload_n (pc := 40) hx hb dX7_pays_40 rfl (lv_at hl 2 rfl) ?_
        refine kx_iVi (pc := 41) [.int (0 : Int32), .int x1, .int x2] hx hb hml hown hts hK hP hD hS (q7_liftsIn h) (cw7_157 hts ⟨Nat.le_of_ble_eq_true rfl, Nat.le_of_ble_eq_true rfl⟩) rfl (by decide) rfl rfl hl.1 rfl (Nat.le_of_ble_eq_true rfl) ⟨Nat.le_of_ble_eq_true rfl, Nat.le_of_ble_eq_true rfl⟩ dX7_pays_41 (fun r7 u_ H locs hP hD hS h => ?_)
        obtain ⟨hu_, h⟩ := h
        rw [hu_] at hP hD
        exact kx_iret (pc := 44) hx hb hr hlocks hK hP hD hS ⟨rfl, h⟩ dX7_pays_44
      · have h := h.2 c6
        refine lv_bipush (pc := 32) (v := (-9 : Int32)) hx hb dX7_pays_32 (by decide) ?_
        refine lv_goto (pc := 34) (tgt := 44) hx hb dX7_pays_34 (by decide) ?_
        exact kx_iret (pc := 44) hx hb hr hlocks hK hP hD hS ⟨rfl, h⟩ dX7_pays_44
    · have h := h.2 c4
      refine lv_iconst (pc := 20) (v := (-1 : Int32)) hx hb dX7_pays_20 (by decide) ?_
      exact kx_iret (pc := 21) hx hb hr hlocks hK hP hD hS ⟨rfl, h⟩ dX7_pays_21
def p7_keepPast_L2 : Nat → kx_St → Int32 → (kx_St → Prop) → Prop
  | 0, _, _, _ => False
  | n + 1, σ, x1, Q => ((15 : Int32) ≤ x1 → (fun σ2 : kx_St => Q σ2) (kx_sI σ 1 (0 : Int32).toNatClampNeg ((σ.1 1 (0 : Int32).toNatClampNeg) + (1 : Int32)))) ∧ (¬ (15 : Int32) ≤ x1 → vp_in ((1 : Int32) + x1) 2480 ∧ (vp_in (((16 : Int32) + ((15 : Int32) * (σ.1 1 (0 : Int32).toNatClampNeg))) + x1) 2480 ∧ ((fun σ5 : kx_St => p7_keepPast_L2 n σ5 (x1 + (1 : Int32)) Q) (kx_sI σ 1 (((16 : Int32) + ((15 : Int32) * (σ.1 1 (0 : Int32).toNatClampNeg))) + x1).toNatClampNeg (σ.1 1 ((1 : Int32) + x1).toNatClampNeg)))))
set_option maxHeartbeats 4000000 in
theorem w7_keepPast_L2  {Q : kx_St → Prop} (cx : kx_Cx p s m args meth c D cy RX7 cX7_keepPast 2 none)  : ∀ (n : Nat) (σ : kx_St) (x1 : Int32) (H : Heap) (locs : List Loc) (ls : Array Slot), p7_keepPast_L2 n σ x1 Q → va_P D vwCl (kx_ws cy 1 ad σ) H → va_D A (kx_ws cy 1 ad σ) → va_S A s.heap H locs → lv_has ls 2 [(0, .ref (ad 0)), (1, .int x1)] → W p l e rm7_keepPast s m args below meth c H locs 0 0 (MQ below (kx_Qc kx_cv (fun u _ => Q u) (kx_Wd D cy 1 ad A) A) args s 0 0 A) (F0 m 2 ls []) := by
  obtain ⟨hx, hb, hr, hlocks, hml, hown, hts, hK⟩ := id cx
  intro n
  induction n with
  | zero => intro _ _ _ _ _ h; exact False.elim h
  | succ n ih =>
    intro σ x1 H locs ls h hP hD hS hl
    refine lv_iload_n (pc := 2) hx hb dX7_keepPast_2 rfl (lv_at hl 1 rfl) ?_
    refine lv_bipush (pc := 3) (v := (15 : Int32)) hx hb dX7_keepPast_3 (by decide) ?_
    refine lv_icmp_ge (pc := 5) (tgt := 41) hx hb dX7_keepPast_5 (by decide) (fun c1 => ?_) (fun c1 => ?_)
    · have h := h.1 c1
      refine lv_aload_n (pc := 41) hx hb dX7_keepPast_41 rfl (lv_at hl 0 rfl) ?_
      refine fg7_7 (pc := 42) (b := 1) hx hb hown hts hK hP rfl rfl dX7_keepPast_42 ?_
      refine lv_iconst (pc := 45) (v := (0 : Int32)) hx hb dX7_keepPast_45 (by decide) ?_
      refine lv_dup2_11 (pc := 46) hx hb dX7_keepPast_46 rfl rfl ?_
      refine kx_iald (pc := 47) hx hb hK hP rfl (by unfold vp_in; decide) dX7_keepPast_47 ?_
      refine lv_iconst (pc := 48) (v := (1 : Int32)) hx hb dX7_keepPast_48 (by decide) ?_
      refine lv_iadd (pc := 49) hx hb dX7_keepPast_49 ?_
      refine kx_iast (pc := 50) hx hb hK hP hD hS rfl (by unfold vp_in; decide) dX7_keepPast_50 (fun H locs hP hD hS => ?_)
      exact kx_vret (pc := 51) hx hb hr hlocks hK hP hD hS h dX7_keepPast_51
    · have h := h.2 c1
      refine lv_aload_n (pc := 8) hx hb dX7_keepPast_8 rfl (lv_at hl 0 rfl) ?_
      refine fg7_7 (pc := 9) (b := 1) hx hb hown hts hK hP rfl rfl dX7_keepPast_9 ?_
      refine lv_bipush (pc := 12) (v := (16 : Int32)) hx hb dX7_keepPast_12 (by decide) ?_
      refine lv_bipush (pc := 14) (v := (15 : Int32)) hx hb dX7_keepPast_14 (by decide) ?_
      refine lv_aload_n (pc := 16) hx hb dX7_keepPast_16 rfl (lv_at hl 0 rfl) ?_
      refine fg7_7 (pc := 17) (b := 1) hx hb hown hts hK hP rfl rfl dX7_keepPast_17 ?_
      refine lv_iconst (pc := 20) (v := (0 : Int32)) hx hb dX7_keepPast_20 (by decide) ?_
      refine kx_iald (pc := 21) hx hb hK hP rfl (by unfold vp_in; decide) dX7_keepPast_21 ?_
      refine lv_imul (pc := 22) hx hb dX7_keepPast_22 ?_
      refine lv_iadd (pc := 23) hx hb dX7_keepPast_23 ?_
      refine lv_iload_n (pc := 24) hx hb dX7_keepPast_24 rfl (lv_at hl 1 rfl) ?_
      refine lv_iadd (pc := 25) hx hb dX7_keepPast_25 ?_
      refine lv_aload_n (pc := 26) hx hb dX7_keepPast_26 rfl (lv_at hl 0 rfl) ?_
      refine fg7_7 (pc := 27) (b := 1) hx hb hown hts hK hP rfl rfl dX7_keepPast_27 ?_
      refine lv_iconst (pc := 30) (v := (1 : Int32)) hx hb dX7_keepPast_30 (by decide) ?_
      refine lv_iload_n (pc := 31) hx hb dX7_keepPast_31 rfl (lv_at hl 1 rfl) ?_
      refine lv_iadd (pc := 32) hx hb dX7_keepPast_32 ?_
      obtain ⟨g3, h⟩ := h
      refine kx_iald (pc := 33) hx hb hK hP rfl g3 dX7_keepPast_33 ?_
      obtain ⟨g4, h⟩ := h
      refine kx_iast (pc := 34) hx hb hK hP hD hS rfl g4 dX7_keepPast_34 (fun H locs hP hD hS => ?_)
      refine lv_iinc (pc := 35) (v := (x1 + (1 : Int32))) (lv' := [(1, .int (x1 + (1 : Int32))), (0, .ref (ad 0))]) hx hb dX7_keepPast_35 hl (k := 1) rfl rfl (by decide) rfl (fun ls hl => ?_)
      refine lv_goto (pc := 38) (tgt := 2) hx hb dX7_keepPast_38 (by decide) ?_
      exact ih _ _ _ _ _ h hP hD hS (lv_sub hl [1, 0] rfl)
def p7_keepPast (σ : kx_St) (Q : kx_St → Prop) : Prop := ∃ m2, p7_keepPast_L2 m2 σ (0 : Int32) Q
set_option maxHeartbeats 4000000 in
theorem q7_keepPast {σ : kx_St}  {Q : kx_St → Prop} (h : p7_keepPast σ Q) : Met l yX7_keepPast (Cond.code yX7_keepPast cX7_keepPast 2 none :: kx_big) rm7_keepPast (va_Pc [.ref (ad 0)] (kx_Wd D cy 1 ad A σ)) (kx_Qc kx_cv (fun u _ => Q u) (kx_Wd D cy 1 ad A) A) 0 0 A := by
  refine kx_head (plainFor_of_name (by decide)) (Nat.le_of_ble_eq_true rfl) ?_
  intro p e s m below meth c ls cx hP hD hS hl
  obtain ⟨hx, hb, hr, hlocks, hml, hown, hts, hK⟩ := id cx
  have hl : lv_has ls 2 [(0, .ref (ad 0))] := hl
  refine lv_iconst (pc := 0) (v := (0 : Int32)) hx hb dX7_keepPast_0 (by decide) ?_
  refine lv_istore_n (pc := 1) (lv' := [(1, .int (0 : Int32)), (0, .ref (ad 0))]) hx hb dX7_keepPast_1 rfl hl (by decide) rfl (fun ls hl => ?_)
  obtain ⟨n0, h⟩ := h
  exact w7_keepPast_L2 cx  n0 _ _ _ _ _ h hP hD hS (lv_sub hl [1, 0] rfl)
def p7_flies_J39 (σ : kx_St) (x1 : Int32) (x2 : Int32) (x3 : Int32) (s0 : Nat) (s1 : Int32) (s2 : Int32) (s3 : Int32) (Q : kx_St → Int32 → Prop) : Prop := vp_in s1 (kx_l 1 s0) ∧ ((fun σ2 : kx_St => p7_paysIn σ2 x1 x2 x3 (fun r3 => vp_in ((x1 + (10 : Int32)) + x2) 2480 ∧ ((fun σ5 : kx_St => vp_in (x1 + (2 : Int32)) 2480 ∧ (vp_in (x1 + (2 : Int32)) 2480 ∧ ((fun σ8 : kx_St => vp_in (x1 + (1 : Int32)) 2480 ∧ (vp_in (x1 + (1 : Int32)) 2480 ∧ ((fun σ11 : kx_St => vp_in ((x1 + (10 : Int32)) + x2) 2480 ∧ (Q σ11 (σ11.1 1 ((x1 + (10 : Int32)) + x2).toNatClampNeg))) (kx_sI σ8 1 (x1 + (1 : Int32)).toNatClampNeg ((σ8.1 1 (x1 + (1 : Int32)).toNatClampNeg) + (1 : Int32)))))) (kx_sI σ5 1 (x1 + (2 : Int32)).toNatClampNeg ((σ5.1 1 (x1 + (2 : Int32)).toNatClampNeg) ||| ((1 : Int32) <<< (x2 &&& 31))))))) (kx_sI σ2 1 ((x1 + (10 : Int32)) + x2).toNatClampNeg r3)))) (kx_sI σ s0 s1.toNatClampNeg (s2 ||| s3)))
set_option maxHeartbeats 4000000 in
theorem w7_flies_J39 {σ : kx_St} {x1 : Int32} {x2 : Int32} {x3 : Int32} {s0 : Nat} {s1 : Int32} {s2 : Int32} {s3 : Int32}  {Q : kx_St → Int32 → Prop} {H : Heap} {locs : List Loc} {ls : Array Slot} (cx : kx_Cx p s m args meth c D cy RX7 cX7_flies 4 (some .int))  (hk_s0 : kx_k 1 s0 = 8) (h : p7_flies_J39 σ x1 x2 x3 s0 s1 s2 s3 Q) (hP : va_P D vwCl (kx_ws cy 1 ad σ) H) (hD : va_D A (kx_ws cy 1 ad σ)) (hS : va_S A s.heap H locs) (hl : lv_has ls 4 [(0, .ref (ad 0)), (1, .int x1), (2, .int x2), (3, .int x3)]) : W p l e rm7_flies s m args below meth c H locs 0 0 (MQ below (kx_Qc kx_ci Q (kx_Wd D cy 1 ad A) A) args s 0 0 A) (F0 m 39 ls [.int s3, .int s2, .int s1, .ref (ad s0)]) := by
  obtain ⟨hx, hb, hr, hlocks, hml, hown, hts, hK⟩ := id cx
  refine lv_ior (pc := 39) hx hb dX7_flies_39 ?_
  obtain ⟨g1, h⟩ := h
  refine kx_iast (pc := 40) hx hb hK hP hD hS hk_s0 g1 dX7_flies_40 (fun H locs hP hD hS => ?_)
  refine lv_aload_n (pc := 41) hx hb dX7_flies_41 rfl (lv_at hl 0 rfl) ?_
  refine fg7_7 (pc := 42) (b := 1) hx hb hown hts hK hP rfl rfl dX7_flies_42 ?_
  refine lv_iload_n (pc := 45) hx hb dX7_flies_45 rfl (lv_at hl 1 rfl) ?_
  refine lv_bipush (pc := 46) (v := (10 : Int32)) hx hb dX7_flies_46 (by decide) ?_
  refine lv_iadd (pc := 48) hx hb dX7_flies_48 ?_
  refine lv_iload_n (pc := 49) hx hb dX7_flies_49 rfl (lv_at hl 2 rfl) ?_
  refine lv_iadd (pc := 50) hx hb dX7_flies_50 ?_
  refine lv_aload_n (pc := 51) hx hb dX7_flies_51 rfl (lv_at hl 0 rfl) ?_
  refine lv_iload_n (pc := 52) hx hb dX7_flies_52 rfl (lv_at hl 1 rfl) ?_
  refine lv_iload_n (pc := 53) hx hb dX7_flies_53 rfl (lv_at hl 2 rfl) ?_
  refine lv_iload_n (pc := 54) hx hb dX7_flies_54 rfl (lv_at hl 3 rfl) ?_
  refine kx_iVi (pc := 55) [.int x1, .int x2, .int x3] hx hb hml hown hts hK hP hD hS (q7_paysIn h) (cw7_167 hts ⟨Nat.le_of_ble_eq_true rfl, Nat.le_of_ble_eq_true rfl⟩) rfl (by decide) rfl rfl hl.1 rfl (Nat.le_of_ble_eq_true rfl) ⟨Nat.le_of_ble_eq_true rfl, Nat.le_of_ble_eq_true rfl⟩ dX7_flies_55 (fun r3 u_ H locs hP hD hS h => ?_)
  obtain ⟨hu_, h⟩ := h
  rw [hu_] at hP hD
  obtain ⟨g4, h⟩ := h
  refine kx_iast (pc := 58) hx hb hK hP hD hS rfl g4 dX7_flies_58 (fun H locs hP hD hS => ?_)
  refine lv_aload_n (pc := 59) hx hb dX7_flies_59 rfl (lv_at hl 0 rfl) ?_
  refine fg7_7 (pc := 60) (b := 1) hx hb hown hts hK hP rfl rfl dX7_flies_60 ?_
  refine lv_iload_n (pc := 63) hx hb dX7_flies_63 rfl (lv_at hl 1 rfl) ?_
  refine lv_iconst (pc := 64) (v := (2 : Int32)) hx hb dX7_flies_64 (by decide) ?_
  refine lv_iadd (pc := 65) hx hb dX7_flies_65 ?_
  refine lv_dup2_11 (pc := 66) hx hb dX7_flies_66 rfl rfl ?_
  obtain ⟨g6, h⟩ := h
  refine kx_iald (pc := 67) hx hb hK hP rfl g6 dX7_flies_67 ?_
  refine lv_iconst (pc := 68) (v := (1 : Int32)) hx hb dX7_flies_68 (by decide) ?_
  refine lv_iload_n (pc := 69) hx hb dX7_flies_69 rfl (lv_at hl 2 rfl) ?_
  refine lv_ishl (pc := 70) hx hb dX7_flies_70 ?_
  refine lv_ior (pc := 71) hx hb dX7_flies_71 ?_
  obtain ⟨g7, h⟩ := h
  refine kx_iast (pc := 72) hx hb hK hP hD hS rfl g7 dX7_flies_72 (fun H locs hP hD hS => ?_)
  refine lv_aload_n (pc := 73) hx hb dX7_flies_73 rfl (lv_at hl 0 rfl) ?_
  refine fg7_7 (pc := 74) (b := 1) hx hb hown hts hK hP rfl rfl dX7_flies_74 ?_
  refine lv_iload_n (pc := 77) hx hb dX7_flies_77 rfl (lv_at hl 1 rfl) ?_
  refine lv_iconst (pc := 78) (v := (1 : Int32)) hx hb dX7_flies_78 (by decide) ?_
  refine lv_iadd (pc := 79) hx hb dX7_flies_79 ?_
  refine lv_dup2_11 (pc := 80) hx hb dX7_flies_80 rfl rfl ?_
  obtain ⟨g9, h⟩ := h
  refine kx_iald (pc := 81) hx hb hK hP rfl g9 dX7_flies_81 ?_
  refine lv_iconst (pc := 82) (v := (1 : Int32)) hx hb dX7_flies_82 (by decide) ?_
  refine lv_iadd (pc := 83) hx hb dX7_flies_83 ?_
  obtain ⟨g10, h⟩ := h
  refine kx_iast (pc := 84) hx hb hK hP hD hS rfl g10 dX7_flies_84 (fun H locs hP hD hS => ?_)
  refine lv_aload_n (pc := 85) hx hb dX7_flies_85 rfl (lv_at hl 0 rfl) ?_
  refine fg7_7 (pc := 86) (b := 1) hx hb hown hts hK hP rfl rfl dX7_flies_86 ?_
  refine lv_iload_n (pc := 89) hx hb dX7_flies_89 rfl (lv_at hl 1 rfl) ?_
  refine lv_bipush (pc := 90) (v := (10 : Int32)) hx hb dX7_flies_90 (by decide) ?_
  refine lv_iadd (pc := 92) hx hb dX7_flies_92 ?_
  refine lv_iload_n (pc := 93) hx hb dX7_flies_93 rfl (lv_at hl 2 rfl) ?_
  refine lv_iadd (pc := 94) hx hb dX7_flies_94 ?_
  obtain ⟨g12, h⟩ := h
  refine kx_iald (pc := 95) hx hb hK hP rfl g12 dX7_flies_95 ?_
  exact kx_iret (pc := 96) hx hb hr hlocks hK hP hD hS h dX7_flies_96
def p7_flies (σ : kx_St) (x1 : Int32) (x2 : Int32) (Q : kx_St → Int32 → Prop) : Prop := vp_in (x1 + (1 : Int32)) 2480 ∧ (p7_windAt σ (σ.1 1 (x1 + (1 : Int32)).toNatClampNeg) (fun r2 => vp_in (x1 + (3 : Int32)) 2480 ∧ (p7_isLifted σ x1 x2 r2 (fun r4 => (r4 = 0 → p7_flies_J39 σ x1 x2 r2 1 (x1 + (3 : Int32)) (σ.1 1 (x1 + (3 : Int32)).toNatClampNeg) (0 : Int32) Q) ∧ (¬ r4 = 0 → p7_flies_J39 σ x1 x2 r2 1 (x1 + (3 : Int32)) (σ.1 1 (x1 + (3 : Int32)).toNatClampNeg) ((1 : Int32) <<< (x2 &&& 31)) Q)))))
set_option maxHeartbeats 4000000 in
theorem q7_flies {σ : kx_St} {x1 : Int32} {x2 : Int32} {Q : kx_St → Int32 → Prop} (h : p7_flies σ x1 x2 Q) : Met l yX7_flies (Cond.code yX7_flies cX7_flies 4 (some .int) :: kx_big) rm7_flies (va_Pc [.ref (ad 0), .int x1, .int x2] (kx_Wd D cy 1 ad A σ)) (kx_Qc kx_ci Q (kx_Wd D cy 1 ad A) A) 0 0 A := by
  refine kx_head (plainFor_of_name (by decide)) (Nat.le_of_ble_eq_true rfl) ?_
  intro p e s m below meth c ls cx hP hD hS hl
  obtain ⟨hx, hb, hr, hlocks, hml, hown, hts, hK⟩ := id cx
  have hl : lv_has ls 4 [(0, .ref (ad 0)), (1, .int x1), (2, .int x2)] := hl
  refine lv_aload_n (pc := 0) hx hb dX7_flies_0 rfl (lv_at hl 0 rfl) ?_
  refine lv_aload_n (pc := 1) hx hb dX7_flies_1 rfl (lv_at hl 0 rfl) ?_
  refine fg7_7 (pc := 2) (b := 1) hx hb hown hts hK hP rfl rfl dX7_flies_2 ?_
  refine lv_iload_n (pc := 5) hx hb dX7_flies_5 rfl (lv_at hl 1 rfl) ?_
  refine lv_iconst (pc := 6) (v := (1 : Int32)) hx hb dX7_flies_6 (by decide) ?_
  refine lv_iadd (pc := 7) hx hb dX7_flies_7 ?_
  obtain ⟨g1, h⟩ := h
  refine kx_iald (pc := 8) hx hb hK hP rfl g1 dX7_flies_8 ?_
  refine kx_iVi (pc := 9) [.int (σ.1 1 (x1 + (1 : Int32)).toNatClampNeg)] hx hb hml hown hts hK hP hD hS (q7_windAt h) (cw7_164 hts ⟨Nat.le_of_ble_eq_true rfl, Nat.le_of_ble_eq_true rfl⟩) rfl (by decide) rfl rfl hl.1 rfl (Nat.le_of_ble_eq_true rfl) ⟨Nat.le_of_ble_eq_true rfl, Nat.le_of_ble_eq_true rfl⟩ dX7_flies_9 (fun r2 u_ H locs hP hD hS h => ?_)
  obtain ⟨hu_, h⟩ := h
  rw [hu_] at hP hD
  refine lv_istore_n (pc := 12) (lv' := [(3, .int r2), (0, .ref (ad 0)), (1, .int x1), (2, .int x2)]) hx hb dX7_flies_12 rfl hl (by decide) rfl (fun ls hl => ?_)
  refine lv_aload_n (pc := 13) hx hb dX7_flies_13 rfl (lv_at hl 1 rfl) ?_
  refine fg7_7 (pc := 14) (b := 1) hx hb hown hts hK hP rfl rfl dX7_flies_14 ?_
  refine lv_iload_n (pc := 17) hx hb dX7_flies_17 rfl (lv_at hl 2 rfl) ?_
  refine lv_iconst (pc := 18) (v := (3 : Int32)) hx hb dX7_flies_18 (by decide) ?_
  refine lv_iadd (pc := 19) hx hb dX7_flies_19 ?_
  refine lv_dup2_11 (pc := 20) hx hb dX7_flies_20 rfl rfl ?_
  obtain ⟨g3, h⟩ := h
  refine kx_iald (pc := 21) hx hb hK hP rfl g3 dX7_flies_21 ?_
  refine lv_aload_n (pc := 22) hx hb dX7_flies_22 rfl (lv_at hl 1 rfl) ?_
  refine lv_iload_n (pc := 23) hx hb dX7_flies_23 rfl (lv_at hl 2 rfl) ?_
  refine lv_iload_n (pc := 24) hx hb dX7_flies_24 rfl (lv_at hl 3 rfl) ?_
  refine lv_iload_n (pc := 25) hx hb dX7_flies_25 rfl (lv_at hl 0 rfl) ?_
  refine kx_iVi (pc := 26) [.int x1, .int x2, .int r2] hx hb hml hown hts hK hP hD hS (q7_isLifted h) (cw7_161 hts ⟨Nat.le_of_ble_eq_true rfl, Nat.le_of_ble_eq_true rfl⟩) rfl (by decide) rfl rfl hl.1 rfl (Nat.le_of_ble_eq_true rfl) ⟨Nat.le_of_ble_eq_true rfl, Nat.le_of_ble_eq_true rfl⟩ dX7_flies_26 (fun r4 u_ H locs hP hD hS h => ?_)
  obtain ⟨hu_, h⟩ := h
  rw [hu_] at hP hD
  refine lv_if_eq (pc := 29) (tgt := 38) hx hb dX7_flies_29 (by decide) (fun c5 => ?_) (fun c5 => ?_)
  · have h := h.1 c5
    refine lv_iconst (pc := 38) (v := (0 : Int32)) hx hb dX7_flies_38 (by decide) ?_
    exact w7_flies_J39 cx  rfl h hP hD hS (lv_sub hl [1, 2, 3, 0] rfl)
  · have h := h.2 c5
    refine lv_iconst (pc := 32) (v := (1 : Int32)) hx hb dX7_flies_32 (by decide) ?_
    refine lv_iload_n (pc := 33) hx hb dX7_flies_33 rfl (lv_at hl 3 rfl) ?_
    refine lv_ishl (pc := 34) hx hb dX7_flies_34 ?_
    refine lv_goto (pc := 35) (tgt := 39) hx hb dX7_flies_35 (by decide) ?_
    exact w7_flies_J39 cx  rfl h hP hD hS (lv_sub hl [1, 2, 3, 0] rfl)
def p7_fly (σ : kx_St) (x1 : Int32) (Q : kx_St → Int32 → Prop) : Prop := p7_isKite σ x1 (fun r1 => (¬ r1 = 0 → p7_has (σ.1 1 (2 : Int32).toNatClampNeg) x1 (fun r3 => (r3 = 0 → (¬ (σ.1 1 (0 : Int32).toNatClampNeg) = (40 : Int32) → p7_keepPast σ (fun σ7 => p7_flies σ7 (0 : Int32) x1 (fun σ9 r8 => Q σ9 r8))) ∧ ((σ.1 1 (0 : Int32).toNatClampNeg) = (40 : Int32) → Q σ (-2 : Int32))) ∧ (¬ r3 = 0 → Q σ (-4 : Int32)))) ∧ (r1 = 0 → Q σ (-1 : Int32)))
set_option maxHeartbeats 4000000 in
theorem q7_fly {σ : kx_St} {x1 : Int32} {Q : kx_St → Int32 → Prop} (h : p7_fly σ x1 Q) : Met l yX7_fly (Cond.code yX7_fly cX7_fly 2 (some .int) :: kx_big) rm7_fly (va_Pc [.ref (ad 0), .int x1] (kx_Wd D cy 1 ad A σ)) (kx_Qc kx_ci Q (kx_Wd D cy 1 ad A) A) 0 0 A := by
  refine kx_head (plainFor_of_name (by decide)) (Nat.le_of_ble_eq_true rfl) ?_
  intro p e s m below meth c ls cx hP hD hS hl
  obtain ⟨hx, hb, hr, hlocks, hml, hown, hts, hK⟩ := id cx
  have hl : lv_has ls 2 [(0, .ref (ad 0)), (1, .int x1)] := hl
  refine lv_aload_n (pc := 0) hx hb dX7_fly_0 rfl (lv_at hl 0 rfl) ?_
  refine lv_iload_n (pc := 1) hx hb dX7_fly_1 rfl (lv_at hl 1 rfl) ?_
  refine kx_iVi (pc := 2) [.int x1] hx hb hml hown hts hK hP hD hS (q7_isKite h) (cw7_174 hts ⟨Nat.le_of_ble_eq_true rfl, Nat.le_of_ble_eq_true rfl⟩) rfl (by decide) rfl rfl hl.1 rfl (Nat.le_of_ble_eq_true rfl) ⟨Nat.le_of_ble_eq_true rfl, Nat.le_of_ble_eq_true rfl⟩ dX7_fly_2 (fun r1 u_ H locs hP hD hS h => ?_)
  obtain ⟨hu_, h⟩ := h
  rw [hu_] at hP hD
  refine lv_if_ne (pc := 5) (tgt := 10) hx hb dX7_fly_5 (by decide) (fun c2 => ?_) (fun c2 => ?_)
  · have h := h.1 c2
    refine lv_aload_n (pc := 10) hx hb dX7_fly_10 rfl (lv_at hl 0 rfl) ?_
    refine fg7_7 (pc := 11) (b := 1) hx hb hown hts hK hP rfl rfl dX7_fly_11 ?_
    refine lv_iconst (pc := 14) (v := (2 : Int32)) hx hb dX7_fly_14 (by decide) ?_
    refine kx_iald (pc := 15) hx hb hK hP rfl (by unfold vp_in; decide) dX7_fly_15 ?_
    refine lv_iload_n (pc := 16) hx hb dX7_fly_16 rfl (lv_at hl 1 rfl) ?_
    refine kx_iSi (pc := 17) [.int (σ.1 1 (2 : Int32).toNatClampNeg), .int x1] hx hb hml hown hts hK hP hD hS (q7_has h) (cw7_170 hts ⟨Nat.le_of_ble_eq_true rfl, Nat.le_of_ble_eq_true rfl⟩) rfl hl.1 rfl (Nat.le_of_ble_eq_true rfl) ⟨Nat.le_of_ble_eq_true rfl, Nat.le_of_ble_eq_true rfl⟩ dX7_fly_17 (fun r3 u_ H locs hP hD hS h => ?_)
    obtain ⟨hu_, h⟩ := h
    rw [hu_] at hP hD
    refine lv_if_eq (pc := 20) (tgt := 26) hx hb dX7_fly_20 (by decide) (fun c4 => ?_) (fun c4 => ?_)
    · have h := h.1 c4
      refine lv_aload_n (pc := 26) hx hb dX7_fly_26 rfl (lv_at hl 0 rfl) ?_
      refine fg7_7 (pc := 27) (b := 1) hx hb hown hts hK hP rfl rfl dX7_fly_27 ?_
      refine lv_iconst (pc := 30) (v := (0 : Int32)) hx hb dX7_fly_30 (by decide) ?_
      refine kx_iald (pc := 31) hx hb hK hP rfl (by unfold vp_in; decide) dX7_fly_31 ?_
      refine lv_bipush (pc := 32) (v := (40 : Int32)) hx hb dX7_fly_32 (by decide) ?_
      refine lv_icmp_ne (pc := 34) (tgt := 40) hx hb dX7_fly_34 (by decide) (fun c5 => ?_) (fun c5 => ?_)
      · have h := h.1 c5
        refine lv_aload_n (pc := 40) hx hb dX7_fly_40 rfl (lv_at hl 0 rfl) ?_
        refine kx_iVv (pc := 41) [] hx hb hml hown hts hK hP hD hS (q7_keepPast h) (cw7_196 hts ⟨Nat.le_of_ble_eq_true rfl, Nat.le_of_ble_eq_true rfl⟩) rfl (by decide) rfl rfl hl.1 rfl (Nat.le_of_ble_eq_true rfl) ⟨Nat.le_of_ble_eq_true rfl, Nat.le_of_ble_eq_true rfl⟩ dX7_fly_41 (fun _ σ7 H locs hP hD hS h => ?_)
        refine lv_aload_n (pc := 44) hx hb dX7_fly_44 rfl (lv_at hl 0 rfl) ?_
        refine lv_iconst (pc := 45) (v := (0 : Int32)) hx hb dX7_fly_45 (by decide) ?_
        refine lv_iload_n (pc := 46) hx hb dX7_fly_46 rfl (lv_at hl 1 rfl) ?_
        refine kx_iVi (pc := 47) [.int (0 : Int32), .int x1] hx hb hml hown hts hK hP hD hS (q7_flies h) (cw7_199 hts ⟨Nat.le_of_ble_eq_true rfl, Nat.le_of_ble_eq_true rfl⟩) rfl (by decide) rfl rfl hl.1 rfl (Nat.le_of_ble_eq_true rfl) ⟨Nat.le_of_ble_eq_true rfl, Nat.le_of_ble_eq_true rfl⟩ dX7_fly_47 (fun r8 σ9 H locs hP hD hS h => ?_)
        exact kx_iret (pc := 50) hx hb hr hlocks hK hP hD hS h dX7_fly_50
      · have h := h.2 c5
        refine lv_bipush (pc := 37) (v := (-2 : Int32)) hx hb dX7_fly_37 (by decide) ?_
        exact kx_iret (pc := 39) hx hb hr hlocks hK hP hD hS h dX7_fly_39
    · have h := h.2 c4
      refine lv_bipush (pc := 23) (v := (-4 : Int32)) hx hb dX7_fly_23 (by decide) ?_
      exact kx_iret (pc := 25) hx hb hr hlocks hK hP hD hS h dX7_fly_25
  · have h := h.2 c2
    refine lv_iconst (pc := 8) (v := (-1 : Int32)) hx hb dX7_fly_8 (by decide) ?_
    exact kx_iret (pc := 9) hx hb hr hlocks hK hP hD hS h dX7_fly_9
def p7_rest (σ : kx_St) (Q : kx_St → Int32 → Prop) : Prop := (¬ (σ.1 0 3) = 0 → (¬ (σ.1 1 (0 : Int32).toNatClampNeg) = (40 : Int32) → p7_keepPast σ (fun σ4 => (fun σ5 : kx_St => Q σ5 (σ5.1 1 (1 : Int32).toNatClampNeg)) (kx_sI σ4 1 (1 : Int32).toNatClampNeg ((σ4.1 1 (1 : Int32).toNatClampNeg) + (1 : Int32))))) ∧ ((σ.1 1 (0 : Int32).toNatClampNeg) = (40 : Int32) → Q σ (-2 : Int32))) ∧ ((σ.1 0 3) = 0 → Q σ (-4 : Int32))
set_option maxHeartbeats 4000000 in
theorem q7_rest {σ : kx_St}  {Q : kx_St → Int32 → Prop} (h : p7_rest σ Q) : Met l yX7_rest (Cond.code yX7_rest cX7_rest 1 (some .int) :: kx_big) rm7_rest (va_Pc [.ref (ad 0)] (kx_Wd D cy 1 ad A σ)) (kx_Qc kx_ci Q (kx_Wd D cy 1 ad A) A) 0 0 A := by
  refine kx_head (plainFor_of_name (by decide)) (Nat.le_of_ble_eq_true rfl) ?_
  intro p e s m below meth c ls cx hP hD hS hl
  obtain ⟨hx, hb, hr, hlocks, hml, hown, hts, hK⟩ := id cx
  have hl : lv_has ls 1 [(0, .ref (ad 0))] := hl
  refine lv_aload_n (pc := 0) hx hb dX7_rest_0 rfl (lv_at hl 0 rfl) ?_
  refine fg7_150 (pc := 1) hx hb hown hts hK hP rfl dX7_rest_1 ?_
  refine lv_if_ne (pc := 4) (tgt := 10) hx hb dX7_rest_4 (by decide) (fun c1 => ?_) (fun c1 => ?_)
  · have h := h.1 c1
    refine lv_aload_n (pc := 10) hx hb dX7_rest_10 rfl (lv_at hl 0 rfl) ?_
    refine fg7_7 (pc := 11) (b := 1) hx hb hown hts hK hP rfl rfl dX7_rest_11 ?_
    refine lv_iconst (pc := 14) (v := (0 : Int32)) hx hb dX7_rest_14 (by decide) ?_
    refine kx_iald (pc := 15) hx hb hK hP rfl (by unfold vp_in; decide) dX7_rest_15 ?_
    refine lv_bipush (pc := 16) (v := (40 : Int32)) hx hb dX7_rest_16 (by decide) ?_
    refine lv_icmp_ne (pc := 18) (tgt := 24) hx hb dX7_rest_18 (by decide) (fun c2 => ?_) (fun c2 => ?_)
    · have h := h.1 c2
      refine lv_aload_n (pc := 24) hx hb dX7_rest_24 rfl (lv_at hl 0 rfl) ?_
      refine kx_iVv (pc := 25) [] hx hb hml hown hts hK hP hD hS (q7_keepPast h) (cw7_196 hts ⟨Nat.le_of_ble_eq_true rfl, Nat.le_of_ble_eq_true rfl⟩) rfl (by decide) rfl rfl hl.1 rfl (Nat.le_of_ble_eq_true rfl) ⟨Nat.le_of_ble_eq_true rfl, Nat.le_of_ble_eq_true rfl⟩ dX7_rest_25 (fun _ σ4 H locs hP hD hS h => ?_)
      refine lv_aload_n (pc := 28) hx hb dX7_rest_28 rfl (lv_at hl 0 rfl) ?_
      refine fg7_7 (pc := 29) (b := 1) hx hb hown hts hK hP rfl rfl dX7_rest_29 ?_
      refine lv_iconst (pc := 32) (v := (1 : Int32)) hx hb dX7_rest_32 (by decide) ?_
      refine lv_dup2_11 (pc := 33) hx hb dX7_rest_33 rfl rfl ?_
      refine kx_iald (pc := 34) hx hb hK hP rfl (by unfold vp_in; decide) dX7_rest_34 ?_
      refine lv_iconst (pc := 35) (v := (1 : Int32)) hx hb dX7_rest_35 (by decide) ?_
      refine lv_iadd (pc := 36) hx hb dX7_rest_36 ?_
      refine kx_iast (pc := 37) hx hb hK hP hD hS rfl (by unfold vp_in; decide) dX7_rest_37 (fun H locs hP hD hS => ?_)
      refine lv_aload_n (pc := 38) hx hb dX7_rest_38 rfl (lv_at hl 0 rfl) ?_
      refine fg7_7 (pc := 39) (b := 1) hx hb hown hts hK hP rfl rfl dX7_rest_39 ?_
      refine lv_iconst (pc := 42) (v := (1 : Int32)) hx hb dX7_rest_42 (by decide) ?_
      refine kx_iald (pc := 43) hx hb hK hP rfl (by unfold vp_in; decide) dX7_rest_43 ?_
      exact kx_iret (pc := 44) hx hb hr hlocks hK hP hD hS h dX7_rest_44
    · have h := h.2 c2
      refine lv_bipush (pc := 21) (v := (-2 : Int32)) hx hb dX7_rest_21 (by decide) ?_
      exact kx_iret (pc := 23) hx hb hr hlocks hK hP hD hS h dX7_rest_23
  · have h := h.2 c1
    refine lv_bipush (pc := 7) (v := (-4 : Int32)) hx hb dX7_rest_7 (by decide) ?_
    exact kx_iret (pc := 9) hx hb hr hlocks hK hP hD hS h dX7_rest_9
def p7_makeTail (σ : kx_St) (x1 : Int32) (x2 : Int32) (Q : kx_St → Int32 → Prop) : Prop := p7_in (x2.toInt64) (0 : Int64) (3 : Int64) (fun r1 => (¬ r1 = 0 → (¬ (σ.1 1 (0 : Int32).toNatClampNeg) = (40 : Int32) → p7_keepPast σ (fun σ5 => vp_in ((4 : Int32) + x1) 2480 ∧ ((fun σ7 : kx_St => Q σ7 x2) (kx_sI σ5 1 ((4 : Int32) + x1).toNatClampNeg x2)))) ∧ ((σ.1 1 (0 : Int32).toNatClampNeg) = (40 : Int32) → Q σ (-2 : Int32))) ∧ (r1 = 0 → Q σ (-4 : Int32)))
set_option maxHeartbeats 4000000 in
theorem q7_makeTail {σ : kx_St} {x1 : Int32} {x2 : Int32} {Q : kx_St → Int32 → Prop} (h : p7_makeTail σ x1 x2 Q) : Met l yX7_makeTail (Cond.code yX7_makeTail cX7_makeTail 3 (some .int) :: kx_big) rm7_makeTail (va_Pc [.ref (ad 0), .int x1, .int x2] (kx_Wd D cy 1 ad A σ)) (kx_Qc kx_ci Q (kx_Wd D cy 1 ad A) A) 0 0 A := by
  refine kx_head (plainFor_of_name (by decide)) (Nat.le_of_ble_eq_true rfl) ?_
  intro p e s m below meth c ls cx hP hD hS hl
  obtain ⟨hx, hb, hr, hlocks, hml, hown, hts, hK⟩ := id cx
  have hl : lv_has ls 3 [(0, .ref (ad 0)), (1, .int x1), (2, .int x2)] := hl
  refine lv_iload_n (pc := 0) hx hb dX7_makeTail_0 rfl (lv_at hl 2 rfl) ?_
  refine lv_i2l (pc := 1) (v := (x2.toInt64)) hx hb dX7_makeTail_1 rfl ?_
  refine lv_lconst (pc := 2) (v := (0 : Int64)) hx hb dX7_makeTail_2 (by decide) ?_
  refine lv_ldc2 (pc := 3) (v := (3 : Int64)) hx hb hown (hts _ tb_867) dX7_makeTail_3 ?_
  refine kx_iSi (pc := 6) [.long (x2.toInt64), .long (0 : Int64), .long (3 : Int64)] hx hb hml hown hts hK hP hD hS (q7_in h) (cw7_77 hts ⟨Nat.le_of_ble_eq_true rfl, Nat.le_of_ble_eq_true rfl⟩) rfl hl.1 rfl (Nat.le_of_ble_eq_true rfl) ⟨Nat.le_of_ble_eq_true rfl, Nat.le_of_ble_eq_true rfl⟩ dX7_makeTail_6 (fun r1 u_ H locs hP hD hS h => ?_)
  obtain ⟨hu_, h⟩ := h
  rw [hu_] at hP hD
  refine lv_if_ne (pc := 9) (tgt := 15) hx hb dX7_makeTail_9 (by decide) (fun c2 => ?_) (fun c2 => ?_)
  · have h := h.1 c2
    refine lv_aload_n (pc := 15) hx hb dX7_makeTail_15 rfl (lv_at hl 0 rfl) ?_
    refine fg7_7 (pc := 16) (b := 1) hx hb hown hts hK hP rfl rfl dX7_makeTail_16 ?_
    refine lv_iconst (pc := 19) (v := (0 : Int32)) hx hb dX7_makeTail_19 (by decide) ?_
    refine kx_iald (pc := 20) hx hb hK hP rfl (by unfold vp_in; decide) dX7_makeTail_20 ?_
    refine lv_bipush (pc := 21) (v := (40 : Int32)) hx hb dX7_makeTail_21 (by decide) ?_
    refine lv_icmp_ne (pc := 23) (tgt := 29) hx hb dX7_makeTail_23 (by decide) (fun c3 => ?_) (fun c3 => ?_)
    · have h := h.1 c3
      refine lv_aload_n (pc := 29) hx hb dX7_makeTail_29 rfl (lv_at hl 0 rfl) ?_
      refine kx_iVv (pc := 30) [] hx hb hml hown hts hK hP hD hS (q7_keepPast h) (cw7_196 hts ⟨Nat.le_of_ble_eq_true rfl, Nat.le_of_ble_eq_true rfl⟩) rfl (by decide) rfl rfl hl.1 rfl (Nat.le_of_ble_eq_true rfl) ⟨Nat.le_of_ble_eq_true rfl, Nat.le_of_ble_eq_true rfl⟩ dX7_makeTail_30 (fun _ σ5 H locs hP hD hS h => ?_)
      refine lv_aload_n (pc := 33) hx hb dX7_makeTail_33 rfl (lv_at hl 0 rfl) ?_
      refine fg7_7 (pc := 34) (b := 1) hx hb hown hts hK hP rfl rfl dX7_makeTail_34 ?_
      refine lv_iconst (pc := 37) (v := (4 : Int32)) hx hb dX7_makeTail_37 (by decide) ?_
      refine lv_iload_n (pc := 38) hx hb dX7_makeTail_38 rfl (lv_at hl 1 rfl) ?_
      refine lv_iadd (pc := 39) hx hb dX7_makeTail_39 ?_
      refine lv_iload_n (pc := 40) hx hb dX7_makeTail_40 rfl (lv_at hl 2 rfl) ?_
      obtain ⟨g6, h⟩ := h
      refine kx_iast (pc := 41) hx hb hK hP hD hS rfl g6 dX7_makeTail_41 (fun H locs hP hD hS => ?_)
      refine lv_iload_n (pc := 42) hx hb dX7_makeTail_42 rfl (lv_at hl 2 rfl) ?_
      exact kx_iret (pc := 43) hx hb hr hlocks hK hP hD hS h dX7_makeTail_43
    · have h := h.2 c3
      refine lv_bipush (pc := 26) (v := (-2 : Int32)) hx hb dX7_makeTail_26 (by decide) ?_
      exact kx_iret (pc := 28) hx hb hr hlocks hK hP hD hS h dX7_makeTail_28
  · have h := h.2 c2
    refine lv_bipush (pc := 12) (v := (-4 : Int32)) hx hb dX7_makeTail_12 (by decide) ?_
    exact kx_iret (pc := 14) hx hb hr hlocks hK hP hD hS h dX7_makeTail_14
def p7_tie (σ : kx_St) (x1 : Int32) (Q : kx_St → Int32 → Prop) : Prop := p7_isKite σ x1 (fun r1 => (r1 = 0 → Q σ (-1 : Int32)) ∧ (¬ r1 = 0 → vp_in ((4 : Int32) + x1) 2480 ∧ (p7_makeTail σ x1 ((σ.1 1 ((4 : Int32) + x1).toNatClampNeg) + (1 : Int32)) (fun σ5 r4 => Q σ5 r4))))
set_option maxHeartbeats 4000000 in
theorem q7_tie {σ : kx_St} {x1 : Int32} {Q : kx_St → Int32 → Prop} (h : p7_tie σ x1 Q) : Met l yX7_tie (Cond.code yX7_tie cX7_tie 2 (some .int) :: kx_big) rm7_tie (va_Pc [.ref (ad 0), .int x1] (kx_Wd D cy 1 ad A σ)) (kx_Qc kx_ci Q (kx_Wd D cy 1 ad A) A) 0 0 A := by
  refine kx_head (plainFor_of_name (by decide)) (Nat.le_of_ble_eq_true rfl) ?_
  intro p e s m below meth c ls cx hP hD hS hl
  obtain ⟨hx, hb, hr, hlocks, hml, hown, hts, hK⟩ := id cx
  have hl : lv_has ls 2 [(0, .ref (ad 0)), (1, .int x1)] := hl
  refine lv_aload_n (pc := 0) hx hb dX7_tie_0 rfl (lv_at hl 0 rfl) ?_
  refine lv_iload_n (pc := 1) hx hb dX7_tie_1 rfl (lv_at hl 1 rfl) ?_
  refine kx_iVi (pc := 2) [.int x1] hx hb hml hown hts hK hP hD hS (q7_isKite h) (cw7_174 hts ⟨Nat.le_of_ble_eq_true rfl, Nat.le_of_ble_eq_true rfl⟩) rfl (by decide) rfl rfl hl.1 rfl (Nat.le_of_ble_eq_true rfl) ⟨Nat.le_of_ble_eq_true rfl, Nat.le_of_ble_eq_true rfl⟩ dX7_tie_2 (fun r1 u_ H locs hP hD hS h => ?_)
  obtain ⟨hu_, h⟩ := h
  rw [hu_] at hP hD
  refine lv_if_eq (pc := 5) (tgt := 26) hx hb dX7_tie_5 (by decide) (fun c2 => ?_) (fun c2 => ?_)
  · have h := h.1 c2
    refine lv_iconst (pc := 26) (v := (-1 : Int32)) hx hb dX7_tie_26 (by decide) ?_
    exact kx_iret (pc := 27) hx hb hr hlocks hK hP hD hS h dX7_tie_27
  · have h := h.2 c2
    refine lv_aload_n (pc := 8) hx hb dX7_tie_8 rfl (lv_at hl 0 rfl) ?_
    refine lv_iload_n (pc := 9) hx hb dX7_tie_9 rfl (lv_at hl 1 rfl) ?_
    refine lv_aload_n (pc := 10) hx hb dX7_tie_10 rfl (lv_at hl 0 rfl) ?_
    refine fg7_7 (pc := 11) (b := 1) hx hb hown hts hK hP rfl rfl dX7_tie_11 ?_
    refine lv_iconst (pc := 14) (v := (4 : Int32)) hx hb dX7_tie_14 (by decide) ?_
    refine lv_iload_n (pc := 15) hx hb dX7_tie_15 rfl (lv_at hl 1 rfl) ?_
    refine lv_iadd (pc := 16) hx hb dX7_tie_16 ?_
    obtain ⟨g3, h⟩ := h
    refine kx_iald (pc := 17) hx hb hK hP rfl g3 dX7_tie_17 ?_
    refine lv_iconst (pc := 18) (v := (1 : Int32)) hx hb dX7_tie_18 (by decide) ?_
    refine lv_iadd (pc := 19) hx hb dX7_tie_19 ?_
    refine kx_iVi (pc := 20) [.int x1, .int ((σ.1 1 ((4 : Int32) + x1).toNatClampNeg) + (1 : Int32))] hx hb hml hown hts hK hP hD hS (q7_makeTail h) (cw7_201 hts ⟨Nat.le_of_ble_eq_true rfl, Nat.le_of_ble_eq_true rfl⟩) rfl (by decide) rfl rfl hl.1 rfl (Nat.le_of_ble_eq_true rfl) ⟨Nat.le_of_ble_eq_true rfl, Nat.le_of_ble_eq_true rfl⟩ dX7_tie_20 (fun r4 σ5 H locs hP hD hS h => ?_)
    refine lv_goto (pc := 23) (tgt := 27) hx hb dX7_tie_23 (by decide) ?_
    exact kx_iret (pc := 27) hx hb hr hlocks hK hP hD hS h dX7_tie_27
def p7_cut (σ : kx_St) (x1 : Int32) (Q : kx_St → Int32 → Prop) : Prop := p7_isKite σ x1 (fun r1 => (r1 = 0 → Q σ (-1 : Int32)) ∧ (¬ r1 = 0 → vp_in ((4 : Int32) + x1) 2480 ∧ (p7_makeTail σ x1 ((σ.1 1 ((4 : Int32) + x1).toNatClampNeg) - (1 : Int32)) (fun σ5 r4 => Q σ5 r4))))
set_option maxHeartbeats 4000000 in
theorem q7_cut {σ : kx_St} {x1 : Int32} {Q : kx_St → Int32 → Prop} (h : p7_cut σ x1 Q) : Met l yX7_cut (Cond.code yX7_cut cX7_cut 2 (some .int) :: kx_big) rm7_cut (va_Pc [.ref (ad 0), .int x1] (kx_Wd D cy 1 ad A σ)) (kx_Qc kx_ci Q (kx_Wd D cy 1 ad A) A) 0 0 A := by
  refine kx_head (plainFor_of_name (by decide)) (Nat.le_of_ble_eq_true rfl) ?_
  intro p e s m below meth c ls cx hP hD hS hl
  obtain ⟨hx, hb, hr, hlocks, hml, hown, hts, hK⟩ := id cx
  have hl : lv_has ls 2 [(0, .ref (ad 0)), (1, .int x1)] := hl
  refine lv_aload_n (pc := 0) hx hb dX7_cut_0 rfl (lv_at hl 0 rfl) ?_
  refine lv_iload_n (pc := 1) hx hb dX7_cut_1 rfl (lv_at hl 1 rfl) ?_
  refine kx_iVi (pc := 2) [.int x1] hx hb hml hown hts hK hP hD hS (q7_isKite h) (cw7_174 hts ⟨Nat.le_of_ble_eq_true rfl, Nat.le_of_ble_eq_true rfl⟩) rfl (by decide) rfl rfl hl.1 rfl (Nat.le_of_ble_eq_true rfl) ⟨Nat.le_of_ble_eq_true rfl, Nat.le_of_ble_eq_true rfl⟩ dX7_cut_2 (fun r1 u_ H locs hP hD hS h => ?_)
  obtain ⟨hu_, h⟩ := h
  rw [hu_] at hP hD
  refine lv_if_eq (pc := 5) (tgt := 26) hx hb dX7_cut_5 (by decide) (fun c2 => ?_) (fun c2 => ?_)
  · have h := h.1 c2
    refine lv_iconst (pc := 26) (v := (-1 : Int32)) hx hb dX7_cut_26 (by decide) ?_
    exact kx_iret (pc := 27) hx hb hr hlocks hK hP hD hS h dX7_cut_27
  · have h := h.2 c2
    refine lv_aload_n (pc := 8) hx hb dX7_cut_8 rfl (lv_at hl 0 rfl) ?_
    refine lv_iload_n (pc := 9) hx hb dX7_cut_9 rfl (lv_at hl 1 rfl) ?_
    refine lv_aload_n (pc := 10) hx hb dX7_cut_10 rfl (lv_at hl 0 rfl) ?_
    refine fg7_7 (pc := 11) (b := 1) hx hb hown hts hK hP rfl rfl dX7_cut_11 ?_
    refine lv_iconst (pc := 14) (v := (4 : Int32)) hx hb dX7_cut_14 (by decide) ?_
    refine lv_iload_n (pc := 15) hx hb dX7_cut_15 rfl (lv_at hl 1 rfl) ?_
    refine lv_iadd (pc := 16) hx hb dX7_cut_16 ?_
    obtain ⟨g3, h⟩ := h
    refine kx_iald (pc := 17) hx hb hK hP rfl g3 dX7_cut_17 ?_
    refine lv_iconst (pc := 18) (v := (1 : Int32)) hx hb dX7_cut_18 (by decide) ?_
    refine lv_isub (pc := 19) hx hb dX7_cut_19 ?_
    refine kx_iVi (pc := 20) [.int x1, .int ((σ.1 1 ((4 : Int32) + x1).toNatClampNeg) - (1 : Int32))] hx hb hml hown hts hK hP hD hS (q7_makeTail h) (cw7_201 hts ⟨Nat.le_of_ble_eq_true rfl, Nat.le_of_ble_eq_true rfl⟩) rfl (by decide) rfl rfl hl.1 rfl (Nat.le_of_ble_eq_true rfl) ⟨Nat.le_of_ble_eq_true rfl, Nat.le_of_ble_eq_true rfl⟩ dX7_cut_20 (fun r4 σ5 H locs hP hD hS h => ?_)
    refine lv_goto (pc := 23) (tgt := 27) hx hb dX7_cut_23 (by decide) ?_
    exact kx_iret (pc := 27) hx hb hr hlocks hK hP hD hS h dX7_cut_27
def p7_undo_J67 (σ : kx_St) (x1 : Int32) (x2 : Int32) (Q : kx_St → Int32 → Prop) : Prop := (fun σ1 : kx_St => Q σ1 x2) (kx_sI σ 1 (0 : Int32).toNatClampNeg x1)
set_option maxHeartbeats 4000000 in
theorem w7_undo_J67 {σ : kx_St} {x1 : Int32} {x2 : Int32}  {Q : kx_St → Int32 → Prop} {H : Heap} {locs : List Loc} {ls : Array Slot} (cx : kx_Cx p s m args meth c D cy RX7 cX7_undo 4 (some .int))   (h : p7_undo_J67 σ x1 x2 Q) (hP : va_P D vwCl (kx_ws cy 1 ad σ) H) (hD : va_D A (kx_ws cy 1 ad σ)) (hS : va_S A s.heap H locs) (hl : lv_has ls 4 [(0, .ref (ad 0)), (1, .int x1), (2, .int x2)]) : W p l e rm7_undo s m args below meth c H locs 0 0 (MQ below (kx_Qc kx_ci Q (kx_Wd D cy 1 ad A) A) args s 0 0 A) (F0 m 67 ls []) := by
  obtain ⟨hx, hb, hr, hlocks, hml, hown, hts, hK⟩ := id cx
  refine lv_aload_n (pc := 67) hx hb dX7_undo_67 rfl (lv_at hl 0 rfl) ?_
  refine fg7_7 (pc := 68) (b := 1) hx hb hown hts hK hP rfl rfl dX7_undo_68 ?_
  refine lv_iconst (pc := 71) (v := (0 : Int32)) hx hb dX7_undo_71 (by decide) ?_
  refine lv_iload_n (pc := 72) hx hb dX7_undo_72 rfl (lv_at hl 1 rfl) ?_
  refine kx_iast (pc := 73) hx hb hK hP hD hS rfl (by unfold vp_in; decide) dX7_undo_73 (fun H locs hP hD hS => ?_)
  refine lv_iload_n (pc := 74) hx hb dX7_undo_74 rfl (lv_at hl 2 rfl) ?_
  exact kx_iret (pc := 75) hx hb hr hlocks hK hP hD hS h dX7_undo_75
def p7_undo_L29 : Nat → kx_St → Int32 → Int32 → Int32 → (kx_St → Int32 → Prop) → Prop
  | 0, _, _, _, _, _ => False
  | n + 1, σ, x1, x2, x3, Q => ((15 : Int32) ≤ x3 → p7_undo_J67 σ x1 x2 Q) ∧ (¬ (15 : Int32) ≤ x3 → (x2 ≤ 0 → p7_undo_J67 σ x1 x2 Q) ∧ (¬ x2 ≤ 0 → vp_in (((16 : Int32) + ((15 : Int32) * x1)) + x3) 2480 ∧ (vp_in ((1 : Int32) + x3) 2480 ∧ ((fun σ5 : kx_St => p7_undo_L29 n σ5 x1 x2 (x3 + (1 : Int32)) Q) (kx_sI σ 1 ((1 : Int32) + x3).toNatClampNeg (σ.1 1 (((16 : Int32) + ((15 : Int32) * x1)) + x3).toNatClampNeg))))))
set_option maxHeartbeats 4000000 in
theorem w7_undo_L29  {Q : kx_St → Int32 → Prop} (cx : kx_Cx p s m args meth c D cy RX7 cX7_undo 4 (some .int))  : ∀ (n : Nat) (σ : kx_St) (x1 : Int32) (x2 : Int32) (x3 : Int32) (H : Heap) (locs : List Loc) (ls : Array Slot), p7_undo_L29 n σ x1 x2 x3 Q → va_P D vwCl (kx_ws cy 1 ad σ) H → va_D A (kx_ws cy 1 ad σ) → va_S A s.heap H locs → lv_has ls 4 [(0, .ref (ad 0)), (1, .int x1), (2, .int x2), (3, .int x3)] → W p l e rm7_undo s m args below meth c H locs 0 0 (MQ below (kx_Qc kx_ci Q (kx_Wd D cy 1 ad A) A) args s 0 0 A) (F0 m 29 ls []) := by
  obtain ⟨hx, hb, hr, hlocks, hml, hown, hts, hK⟩ := id cx
  intro n
  induction n with
  | zero => intro _ _ _ _ _ _ _ h; exact False.elim h
  | succ n ih =>
    intro σ x1 x2 x3 H locs ls h hP hD hS hl
    refine lv_iload_n (pc := 29) hx hb dX7_undo_29 rfl (lv_at hl 3 rfl) ?_
    refine lv_bipush (pc := 30) (v := (15 : Int32)) hx hb dX7_undo_30 (by decide) ?_
    refine lv_icmp_ge (pc := 32) (tgt := 67) hx hb dX7_undo_32 (by decide) (fun c1 => ?_) (fun c1 => ?_)
    · have h := h.1 c1
      exact w7_undo_J67 cx  h hP hD hS (lv_sub hl [0, 1, 2] rfl)
    · have h := h.2 c1
      refine lv_iload_n (pc := 35) hx hb dX7_undo_35 rfl (lv_at hl 2 rfl) ?_
      refine lv_if_le (pc := 36) (tgt := 67) hx hb dX7_undo_36 (by decide) (fun c2 => ?_) (fun c2 => ?_)
      · have h := h.1 c2
        exact w7_undo_J67 cx  h hP hD hS (lv_sub hl [0, 1, 2] rfl)
      · have h := h.2 c2
        refine lv_aload_n (pc := 39) hx hb dX7_undo_39 rfl (lv_at hl 0 rfl) ?_
        refine fg7_7 (pc := 40) (b := 1) hx hb hown hts hK hP rfl rfl dX7_undo_40 ?_
        refine lv_iconst (pc := 43) (v := (1 : Int32)) hx hb dX7_undo_43 (by decide) ?_
        refine lv_iload_n (pc := 44) hx hb dX7_undo_44 rfl (lv_at hl 3 rfl) ?_
        refine lv_iadd (pc := 45) hx hb dX7_undo_45 ?_
        refine lv_aload_n (pc := 46) hx hb dX7_undo_46 rfl (lv_at hl 0 rfl) ?_
        refine fg7_7 (pc := 47) (b := 1) hx hb hown hts hK hP rfl rfl dX7_undo_47 ?_
        refine lv_bipush (pc := 50) (v := (16 : Int32)) hx hb dX7_undo_50 (by decide) ?_
        refine lv_bipush (pc := 52) (v := (15 : Int32)) hx hb dX7_undo_52 (by decide) ?_
        refine lv_iload_n (pc := 54) hx hb dX7_undo_54 rfl (lv_at hl 1 rfl) ?_
        refine lv_imul (pc := 55) hx hb dX7_undo_55 ?_
        refine lv_iadd (pc := 56) hx hb dX7_undo_56 ?_
        refine lv_iload_n (pc := 57) hx hb dX7_undo_57 rfl (lv_at hl 3 rfl) ?_
        refine lv_iadd (pc := 58) hx hb dX7_undo_58 ?_
        obtain ⟨g3, h⟩ := h
        refine kx_iald (pc := 59) hx hb hK hP rfl g3 dX7_undo_59 ?_
        obtain ⟨g4, h⟩ := h
        refine kx_iast (pc := 60) hx hb hK hP hD hS rfl g4 dX7_undo_60 (fun H locs hP hD hS => ?_)
        refine lv_iinc (pc := 61) (v := (x3 + (1 : Int32))) (lv' := [(3, .int (x3 + (1 : Int32))), (0, .ref (ad 0)), (1, .int x1), (2, .int x2)]) hx hb dX7_undo_61 hl (k := 3) rfl rfl (by decide) rfl (fun ls hl => ?_)
        refine lv_goto (pc := 64) (tgt := 29) hx hb dX7_undo_64 (by decide) ?_
        exact ih _ _ _ _ _ _ _ h hP hD hS (lv_sub hl [1, 2, 3, 0] rfl)
def p7_undo (σ : kx_St) (x1 : Int32) (Q : kx_St → Int32 → Prop) : Prop := p7_in (x1.toInt64) (0 : Int64) ((σ.1 1 (0 : Int32).toNatClampNeg).toInt64) (fun r1 => (¬ r1 = 0 → ∃ m29, p7_undo_L29 m29 σ x1 ((σ.1 1 (0 : Int32).toNatClampNeg) - x1) (0 : Int32) Q) ∧ (r1 = 0 → Q σ (-1 : Int32)))
set_option maxHeartbeats 4000000 in
theorem q7_undo {σ : kx_St} {x1 : Int32} {Q : kx_St → Int32 → Prop} (h : p7_undo σ x1 Q) : Met l yX7_undo (Cond.code yX7_undo cX7_undo 4 (some .int) :: kx_big) rm7_undo (va_Pc [.ref (ad 0), .int x1] (kx_Wd D cy 1 ad A σ)) (kx_Qc kx_ci Q (kx_Wd D cy 1 ad A) A) 0 0 A := by
  refine kx_head (plainFor_of_name (by decide)) (Nat.le_of_ble_eq_true rfl) ?_
  intro p e s m below meth c ls cx hP hD hS hl
  obtain ⟨hx, hb, hr, hlocks, hml, hown, hts, hK⟩ := id cx
  have hl : lv_has ls 4 [(0, .ref (ad 0)), (1, .int x1)] := hl
  refine lv_iload_n (pc := 0) hx hb dX7_undo_0 rfl (lv_at hl 1 rfl) ?_
  refine lv_i2l (pc := 1) (v := (x1.toInt64)) hx hb dX7_undo_1 rfl ?_
  refine lv_lconst (pc := 2) (v := (0 : Int64)) hx hb dX7_undo_2 (by decide) ?_
  refine lv_aload_n (pc := 3) hx hb dX7_undo_3 rfl (lv_at hl 0 rfl) ?_
  refine fg7_7 (pc := 4) (b := 1) hx hb hown hts hK hP rfl rfl dX7_undo_4 ?_
  refine lv_iconst (pc := 7) (v := (0 : Int32)) hx hb dX7_undo_7 (by decide) ?_
  refine kx_iald (pc := 8) hx hb hK hP rfl (by unfold vp_in; decide) dX7_undo_8 ?_
  refine lv_i2l (pc := 9) (v := ((σ.1 1 (0 : Int32).toNatClampNeg).toInt64)) hx hb dX7_undo_9 rfl ?_
  refine kx_iSi (pc := 10) [.long (x1.toInt64), .long (0 : Int64), .long ((σ.1 1 (0 : Int32).toNatClampNeg).toInt64)] hx hb hml hown hts hK hP hD hS (q7_in h) (cw7_77 hts ⟨Nat.le_of_ble_eq_true rfl, Nat.le_of_ble_eq_true rfl⟩) rfl hl.1 rfl (Nat.le_of_ble_eq_true rfl) ⟨Nat.le_of_ble_eq_true rfl, Nat.le_of_ble_eq_true rfl⟩ dX7_undo_10 (fun r1 u_ H locs hP hD hS h => ?_)
  obtain ⟨hu_, h⟩ := h
  rw [hu_] at hP hD
  refine lv_if_ne (pc := 13) (tgt := 18) hx hb dX7_undo_13 (by decide) (fun c2 => ?_) (fun c2 => ?_)
  · have h := h.1 c2
    refine lv_aload_n (pc := 18) hx hb dX7_undo_18 rfl (lv_at hl 0 rfl) ?_
    refine fg7_7 (pc := 19) (b := 1) hx hb hown hts hK hP rfl rfl dX7_undo_19 ?_
    refine lv_iconst (pc := 22) (v := (0 : Int32)) hx hb dX7_undo_22 (by decide) ?_
    refine kx_iald (pc := 23) hx hb hK hP rfl (by unfold vp_in; decide) dX7_undo_23 ?_
    refine lv_iload_n (pc := 24) hx hb dX7_undo_24 rfl (lv_at hl 1 rfl) ?_
    refine lv_isub (pc := 25) hx hb dX7_undo_25 ?_
    refine lv_istore_n (pc := 26) (lv' := [(2, .int ((σ.1 1 (0 : Int32).toNatClampNeg) - x1)), (0, .ref (ad 0)), (1, .int x1)]) hx hb dX7_undo_26 rfl hl (by decide) rfl (fun ls hl => ?_)
    refine lv_iconst (pc := 27) (v := (0 : Int32)) hx hb dX7_undo_27 (by decide) ?_
    refine lv_istore_n (pc := 28) (lv' := [(3, .int (0 : Int32)), (2, .int ((σ.1 1 (0 : Int32).toNatClampNeg) - x1)), (0, .ref (ad 0)), (1, .int x1)]) hx hb dX7_undo_28 rfl hl (by decide) rfl (fun ls hl => ?_)
    obtain ⟨n0, h⟩ := h
    exact w7_undo_L29 cx  n0 _ _ _ _ _ _ _ h hP hD hS (lv_sub hl [2, 3, 1, 0] rfl)
  · have h := h.2 c2
    refine lv_iconst (pc := 16) (v := (-1 : Int32)) hx hb dX7_undo_16 (by decide) ?_
    exact kx_iret (pc := 17) hx hb hr hlocks hK hP hD hS h dX7_undo_17
def p7_copyParish_L2 : Nat → kx_St → Int32 → Int32 → Int32 → (kx_St → Prop) → Prop
  | 0, _, _, _, _, _ => False
  | n + 1, σ, x1, x2, x3, Q => ((616 : Int32) ≤ x3 → Q σ) ∧ (¬ (616 : Int32) ≤ x3 → vp_in (x1 + x3) 2480 ∧ (vp_in (x2 + x3) 2480 ∧ ((fun σ4 : kx_St => p7_copyParish_L2 n σ4 x1 x2 (x3 + (1 : Int32)) Q) (kx_sI σ 1 (x2 + x3).toNatClampNeg (σ.1 1 (x1 + x3).toNatClampNeg)))))
set_option maxHeartbeats 4000000 in
theorem w7_copyParish_L2  {Q : kx_St → Prop} (cx : kx_Cx p s m args meth c D cy RX7 cX7_copyParish 4 none)  : ∀ (n : Nat) (σ : kx_St) (x1 : Int32) (x2 : Int32) (x3 : Int32) (H : Heap) (locs : List Loc) (ls : Array Slot), p7_copyParish_L2 n σ x1 x2 x3 Q → va_P D vwCl (kx_ws cy 1 ad σ) H → va_D A (kx_ws cy 1 ad σ) → va_S A s.heap H locs → lv_has ls 4 [(0, .ref (ad 0)), (1, .int x1), (2, .int x2), (3, .int x3)] → W p l e rm7_copyParish s m args below meth c H locs 0 0 (MQ below (kx_Qc kx_cv (fun u _ => Q u) (kx_Wd D cy 1 ad A) A) args s 0 0 A) (F0 m 2 ls []) := by
  obtain ⟨hx, hb, hr, hlocks, hml, hown, hts, hK⟩ := id cx
  intro n
  induction n with
  | zero => intro _ _ _ _ _ _ _ h; exact False.elim h
  | succ n ih =>
    intro σ x1 x2 x3 H locs ls h hP hD hS hl
    refine lv_iload_n (pc := 2) hx hb dX7_copyParish_2 rfl (lv_at hl 3 rfl) ?_
    refine lv_sipush (pc := 3) (v := (616 : Int32)) hx hb dX7_copyParish_3 (by decide) ?_
    refine lv_icmp_ge (pc := 6) (tgt := 31) hx hb dX7_copyParish_6 (by decide) (fun c1 => ?_) (fun c1 => ?_)
    · have h := h.1 c1
      exact kx_vret (pc := 31) hx hb hr hlocks hK hP hD hS h dX7_copyParish_31
    · have h := h.2 c1
      refine lv_aload_n (pc := 9) hx hb dX7_copyParish_9 rfl (lv_at hl 0 rfl) ?_
      refine fg7_7 (pc := 10) (b := 1) hx hb hown hts hK hP rfl rfl dX7_copyParish_10 ?_
      refine lv_iload_n (pc := 13) hx hb dX7_copyParish_13 rfl (lv_at hl 2 rfl) ?_
      refine lv_iload_n (pc := 14) hx hb dX7_copyParish_14 rfl (lv_at hl 3 rfl) ?_
      refine lv_iadd (pc := 15) hx hb dX7_copyParish_15 ?_
      refine lv_aload_n (pc := 16) hx hb dX7_copyParish_16 rfl (lv_at hl 0 rfl) ?_
      refine fg7_7 (pc := 17) (b := 1) hx hb hown hts hK hP rfl rfl dX7_copyParish_17 ?_
      refine lv_iload_n (pc := 20) hx hb dX7_copyParish_20 rfl (lv_at hl 1 rfl) ?_
      refine lv_iload_n (pc := 21) hx hb dX7_copyParish_21 rfl (lv_at hl 3 rfl) ?_
      refine lv_iadd (pc := 22) hx hb dX7_copyParish_22 ?_
      obtain ⟨g2, h⟩ := h
      refine kx_iald (pc := 23) hx hb hK hP rfl g2 dX7_copyParish_23 ?_
      obtain ⟨g3, h⟩ := h
      refine kx_iast (pc := 24) hx hb hK hP hD hS rfl g3 dX7_copyParish_24 (fun H locs hP hD hS => ?_)
      refine lv_iinc (pc := 25) (v := (x3 + (1 : Int32))) (lv' := [(3, .int (x3 + (1 : Int32))), (0, .ref (ad 0)), (1, .int x1), (2, .int x2)]) hx hb dX7_copyParish_25 hl (k := 3) rfl rfl (by decide) rfl (fun ls hl => ?_)
      refine lv_goto (pc := 28) (tgt := 2) hx hb dX7_copyParish_28 (by decide) ?_
      exact ih _ _ _ _ _ _ _ h hP hD hS (lv_sub hl [1, 2, 3, 0] rfl)
def p7_copyParish (σ : kx_St) (x1 : Int32) (x2 : Int32) (Q : kx_St → Prop) : Prop := ∃ m2, p7_copyParish_L2 m2 σ x1 x2 (0 : Int32) Q
set_option maxHeartbeats 4000000 in
theorem q7_copyParish {σ : kx_St} {x1 : Int32} {x2 : Int32} {Q : kx_St → Prop} (h : p7_copyParish σ x1 x2 Q) : Met l yX7_copyParish (Cond.code yX7_copyParish cX7_copyParish 4 none :: kx_big) rm7_copyParish (va_Pc [.ref (ad 0), .int x1, .int x2] (kx_Wd D cy 1 ad A σ)) (kx_Qc kx_cv (fun u _ => Q u) (kx_Wd D cy 1 ad A) A) 0 0 A := by
  refine kx_head (plainFor_of_name (by decide)) (Nat.le_of_ble_eq_true rfl) ?_
  intro p e s m below meth c ls cx hP hD hS hl
  obtain ⟨hx, hb, hr, hlocks, hml, hown, hts, hK⟩ := id cx
  have hl : lv_has ls 4 [(0, .ref (ad 0)), (1, .int x1), (2, .int x2)] := hl
  refine lv_iconst (pc := 0) (v := (0 : Int32)) hx hb dX7_copyParish_0 (by decide) ?_
  refine lv_istore_n (pc := 1) (lv' := [(3, .int (0 : Int32)), (0, .ref (ad 0)), (1, .int x1), (2, .int x2)]) hx hb dX7_copyParish_1 rfl hl (by decide) rfl (fun ls hl => ?_)
  obtain ⟨n0, h⟩ := h
  exact w7_copyParish_L2 cx  n0 _ _ _ _ _ _ _ h hP hD hS (lv_sub hl [1, 2, 3, 0] rfl)
def p7_keep (σ : kx_St) (x1 : Int32) (Q : kx_St → Int32 → Prop) : Prop := p7_in (x1.toInt64) (0 : Int64) (2 : Int64) (fun r1 => (¬ r1 = 0 → (¬ (σ.1 0 3) = 0 → p7_copyParish σ (0 : Int32) ((616 : Int32) * ((1 : Int32) + x1)) (fun σ5 => Q σ5 (σ5.1 1 (0 : Int32).toNatClampNeg))) ∧ ((σ.1 0 3) = 0 → Q σ (-4 : Int32))) ∧ (r1 = 0 → Q σ (-1 : Int32)))
set_option maxHeartbeats 4000000 in
theorem q7_keep {σ : kx_St} {x1 : Int32} {Q : kx_St → Int32 → Prop} (h : p7_keep σ x1 Q) : Met l yX7_keep (Cond.code yX7_keep cX7_keep 2 (some .int) :: kx_big) rm7_keep (va_Pc [.ref (ad 0), .int x1] (kx_Wd D cy 1 ad A σ)) (kx_Qc kx_ci Q (kx_Wd D cy 1 ad A) A) 0 0 A := by
  refine kx_head (plainFor_of_name (by decide)) (Nat.le_of_ble_eq_true rfl) ?_
  intro p e s m below meth c ls cx hP hD hS hl
  obtain ⟨hx, hb, hr, hlocks, hml, hown, hts, hK⟩ := id cx
  have hl : lv_has ls 2 [(0, .ref (ad 0)), (1, .int x1)] := hl
  refine lv_iload_n (pc := 0) hx hb dX7_keep_0 rfl (lv_at hl 1 rfl) ?_
  refine lv_i2l (pc := 1) (v := (x1.toInt64)) hx hb dX7_keep_1 rfl ?_
  refine lv_lconst (pc := 2) (v := (0 : Int64)) hx hb dX7_keep_2 (by decide) ?_
  refine lv_ldc2 (pc := 3) (v := (2 : Int64)) hx hb hown (hts _ tb_1007) dX7_keep_3 ?_
  refine kx_iSi (pc := 6) [.long (x1.toInt64), .long (0 : Int64), .long (2 : Int64)] hx hb hml hown hts hK hP hD hS (q7_in h) (cw7_77 hts ⟨Nat.le_of_ble_eq_true rfl, Nat.le_of_ble_eq_true rfl⟩) rfl hl.1 rfl (Nat.le_of_ble_eq_true rfl) ⟨Nat.le_of_ble_eq_true rfl, Nat.le_of_ble_eq_true rfl⟩ dX7_keep_6 (fun r1 u_ H locs hP hD hS h => ?_)
  obtain ⟨hu_, h⟩ := h
  rw [hu_] at hP hD
  refine lv_if_ne (pc := 9) (tgt := 14) hx hb dX7_keep_9 (by decide) (fun c2 => ?_) (fun c2 => ?_)
  · have h := h.1 c2
    refine lv_aload_n (pc := 14) hx hb dX7_keep_14 rfl (lv_at hl 0 rfl) ?_
    refine fg7_150 (pc := 15) hx hb hown hts hK hP rfl dX7_keep_15 ?_
    refine lv_if_ne (pc := 18) (tgt := 24) hx hb dX7_keep_18 (by decide) (fun c3 => ?_) (fun c3 => ?_)
    · have h := h.1 c3
      refine lv_aload_n (pc := 24) hx hb dX7_keep_24 rfl (lv_at hl 0 rfl) ?_
      refine lv_iconst (pc := 25) (v := (0 : Int32)) hx hb dX7_keep_25 (by decide) ?_
      refine lv_sipush (pc := 26) (v := (616 : Int32)) hx hb dX7_keep_26 (by decide) ?_
      refine lv_iconst (pc := 29) (v := (1 : Int32)) hx hb dX7_keep_29 (by decide) ?_
      refine lv_iload_n (pc := 30) hx hb dX7_keep_30 rfl (lv_at hl 1 rfl) ?_
      refine lv_iadd (pc := 31) hx hb dX7_keep_31 ?_
      refine lv_imul (pc := 32) hx hb dX7_keep_32 ?_
      refine kx_iVv (pc := 33) [.int (0 : Int32), .int ((616 : Int32) * ((1 : Int32) + x1))] hx hb hml hown hts hK hP hD hS (q7_copyParish h) (cw7_206 hts ⟨Nat.le_of_ble_eq_true rfl, Nat.le_of_ble_eq_true rfl⟩) rfl (by decide) rfl rfl hl.1 rfl (Nat.le_of_ble_eq_true rfl) ⟨Nat.le_of_ble_eq_true rfl, Nat.le_of_ble_eq_true rfl⟩ dX7_keep_33 (fun _ σ5 H locs hP hD hS h => ?_)
      refine lv_aload_n (pc := 36) hx hb dX7_keep_36 rfl (lv_at hl 0 rfl) ?_
      refine fg7_7 (pc := 37) (b := 1) hx hb hown hts hK hP rfl rfl dX7_keep_37 ?_
      refine lv_iconst (pc := 40) (v := (0 : Int32)) hx hb dX7_keep_40 (by decide) ?_
      refine kx_iald (pc := 41) hx hb hK hP rfl (by unfold vp_in; decide) dX7_keep_41 ?_
      exact kx_iret (pc := 42) hx hb hr hlocks hK hP hD hS h dX7_keep_42
    · have h := h.2 c3
      refine lv_bipush (pc := 21) (v := (-4 : Int32)) hx hb dX7_keep_21 (by decide) ?_
      exact kx_iret (pc := 23) hx hb hr hlocks hK hP hD hS h dX7_keep_23
  · have h := h.2 c2
    refine lv_iconst (pc := 12) (v := (-1 : Int32)) hx hb dX7_keep_12 (by decide) ?_
    exact kx_iret (pc := 13) hx hb hr hlocks hK hP hD hS h dX7_keep_13
def p7_on (σ : kx_St) (x1 : Int32) (Q : kx_St → Int32 → Prop) : Prop := p7_in (x1.toInt64) (0 : Int64) (2 : Int64) (fun r1 => (¬ r1 = 0 → vp_in (((616 : Int32) * ((1 : Int32) + x1)) + (0 : Int32)) 2480 ∧ ((0 ≤ (σ.1 1 (((616 : Int32) * ((1 : Int32) + x1)) + (0 : Int32)).toNatClampNeg) → p7_copyParish σ ((616 : Int32) * ((1 : Int32) + x1)) (0 : Int32) (fun σ6 => Q σ6 (σ6.1 1 (0 : Int32).toNatClampNeg))) ∧ (¬ 0 ≤ (σ.1 1 (((616 : Int32) * ((1 : Int32) + x1)) + (0 : Int32)).toNatClampNeg) → p7_find σ (1 : Int32) (fun σ8 r7 => Q σ8 r7)))) ∧ (r1 = 0 → Q σ (-1 : Int32)))
set_option maxHeartbeats 4000000 in
theorem q7_on {σ : kx_St} {x1 : Int32} {Q : kx_St → Int32 → Prop} (h : p7_on σ x1 Q) : Met l yX7_on (Cond.code yX7_on cX7_on 2 (some .int) :: kx_big) rm7_on (va_Pc [.ref (ad 0), .int x1] (kx_Wd D cy 1 ad A σ)) (kx_Qc kx_ci Q (kx_Wd D cy 1 ad A) A) 0 0 A := by
  refine kx_head (plainFor_of_name (by decide)) (Nat.le_of_ble_eq_true rfl) ?_
  intro p e s m below meth c ls cx hP hD hS hl
  obtain ⟨hx, hb, hr, hlocks, hml, hown, hts, hK⟩ := id cx
  have hl : lv_has ls 2 [(0, .ref (ad 0)), (1, .int x1)] := hl
  refine lv_iload_n (pc := 0) hx hb dX7_on_0 rfl (lv_at hl 1 rfl) ?_
  refine lv_i2l (pc := 1) (v := (x1.toInt64)) hx hb dX7_on_1 rfl ?_
  refine lv_lconst (pc := 2) (v := (0 : Int64)) hx hb dX7_on_2 (by decide) ?_
  refine lv_ldc2 (pc := 3) (v := (2 : Int64)) hx hb hown (hts _ tb_1007) dX7_on_3 ?_
  refine kx_iSi (pc := 6) [.long (x1.toInt64), .long (0 : Int64), .long (2 : Int64)] hx hb hml hown hts hK hP hD hS (q7_in h) (cw7_77 hts ⟨Nat.le_of_ble_eq_true rfl, Nat.le_of_ble_eq_true rfl⟩) rfl hl.1 rfl (Nat.le_of_ble_eq_true rfl) ⟨Nat.le_of_ble_eq_true rfl, Nat.le_of_ble_eq_true rfl⟩ dX7_on_6 (fun r1 u_ H locs hP hD hS h => ?_)
  obtain ⟨hu_, h⟩ := h
  rw [hu_] at hP hD
  refine lv_if_ne (pc := 9) (tgt := 14) hx hb dX7_on_9 (by decide) (fun c2 => ?_) (fun c2 => ?_)
  · have h := h.1 c2
    refine lv_aload_n (pc := 14) hx hb dX7_on_14 rfl (lv_at hl 0 rfl) ?_
    refine fg7_7 (pc := 15) (b := 1) hx hb hown hts hK hP rfl rfl dX7_on_15 ?_
    refine lv_sipush (pc := 18) (v := (616 : Int32)) hx hb dX7_on_18 (by decide) ?_
    refine lv_iconst (pc := 21) (v := (1 : Int32)) hx hb dX7_on_21 (by decide) ?_
    refine lv_iload_n (pc := 22) hx hb dX7_on_22 rfl (lv_at hl 1 rfl) ?_
    refine lv_iadd (pc := 23) hx hb dX7_on_23 ?_
    refine lv_imul (pc := 24) hx hb dX7_on_24 ?_
    refine lv_iconst (pc := 25) (v := (0 : Int32)) hx hb dX7_on_25 (by decide) ?_
    refine lv_iadd (pc := 26) hx hb dX7_on_26 ?_
    obtain ⟨g3, h⟩ := h
    refine kx_iald (pc := 27) hx hb hK hP rfl g3 dX7_on_27 ?_
    refine lv_if_ge (pc := 28) (tgt := 37) hx hb dX7_on_28 (by decide) (fun c4 => ?_) (fun c4 => ?_)
    · have h := h.1 c4
      refine lv_aload_n (pc := 37) hx hb dX7_on_37 rfl (lv_at hl 0 rfl) ?_
      refine lv_sipush (pc := 38) (v := (616 : Int32)) hx hb dX7_on_38 (by decide) ?_
      refine lv_iconst (pc := 41) (v := (1 : Int32)) hx hb dX7_on_41 (by decide) ?_
      refine lv_iload_n (pc := 42) hx hb dX7_on_42 rfl (lv_at hl 1 rfl) ?_
      refine lv_iadd (pc := 43) hx hb dX7_on_43 ?_
      refine lv_imul (pc := 44) hx hb dX7_on_44 ?_
      refine lv_iconst (pc := 45) (v := (0 : Int32)) hx hb dX7_on_45 (by decide) ?_
      refine kx_iVv (pc := 46) [.int ((616 : Int32) * ((1 : Int32) + x1)), .int (0 : Int32)] hx hb hml hown hts hK hP hD hS (q7_copyParish h) (cw7_206 hts ⟨Nat.le_of_ble_eq_true rfl, Nat.le_of_ble_eq_true rfl⟩) rfl (by decide) rfl rfl hl.1 rfl (Nat.le_of_ble_eq_true rfl) ⟨Nat.le_of_ble_eq_true rfl, Nat.le_of_ble_eq_true rfl⟩ dX7_on_46 (fun _ σ6 H locs hP hD hS h => ?_)
      refine lv_aload_n (pc := 49) hx hb dX7_on_49 rfl (lv_at hl 0 rfl) ?_
      refine fg7_7 (pc := 50) (b := 1) hx hb hown hts hK hP rfl rfl dX7_on_50 ?_
      refine lv_iconst (pc := 53) (v := (0 : Int32)) hx hb dX7_on_53 (by decide) ?_
      refine kx_iald (pc := 54) hx hb hK hP rfl (by unfold vp_in; decide) dX7_on_54 ?_
      exact kx_iret (pc := 55) hx hb hr hlocks hK hP hD hS h dX7_on_55
    · have h := h.2 c4
      refine lv_aload_n (pc := 31) hx hb dX7_on_31 rfl (lv_at hl 0 rfl) ?_
      refine lv_iconst (pc := 32) (v := (1 : Int32)) hx hb dX7_on_32 (by decide) ?_
      refine kx_iVi (pc := 33) [.int (1 : Int32)] hx hb hml hown hts hK hP hD hS (q7_find h) (cw7_87 hts ⟨Nat.le_of_ble_eq_true rfl, Nat.le_of_ble_eq_true rfl⟩) rfl (by decide) rfl rfl hl.1 rfl (Nat.le_of_ble_eq_true rfl) ⟨Nat.le_of_ble_eq_true rfl, Nat.le_of_ble_eq_true rfl⟩ dX7_on_33 (fun r7 σ8 H locs hP hD hS h => ?_)
      exact kx_iret (pc := 36) hx hb hr hlocks hK hP hD hS h dX7_on_36
  · have h := h.2 c2
    refine lv_iconst (pc := 12) (v := (-1 : Int32)) hx hb dX7_on_12 (by decide) ?_
    exact kx_iret (pc := 13) hx hb hr hlocks hK hP hD hS h dX7_on_13
end
