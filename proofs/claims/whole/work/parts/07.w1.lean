section
variable {p : Program} {l : Launch} {e : Env} {s : State} {m : MethodId} {args : Array Value} {below : List Frame} {meth : Method} {c : Code} {D : va_G} {cy : Nat → ClassId} {ad : Nat → Nat} {A : Nat → Prop}

def pJ9_min_7cf53 (x0 : Int32) (x1 : Int32) (Q : Int32 → Prop) : Prop := (x1 < x0 → Q x1) ∧ (¬ x1 < x0 → Q x0)
set_option maxHeartbeats 4000000 in
theorem qJ9_min_7cf53 {σ : kx_St} {x0 : Int32} {x1 : Int32} {Q : Int32 → Prop} (h : pJ9_min_7cf53 x0 x1 Q) : Met l yJ9_min_7cf53 (Cond.code yJ9_min_7cf53 cJ9_min_7cf53 2 (some .int) :: kx_big) rmJ9_min_7cf53 (va_Pc [.int x0, .int x1] (kx_Wd D cy 0 ad A σ)) (kx_Qc kx_ci (fun u r => u = σ ∧ Q r) (kx_Wd D cy 0 ad A) A) 0 0 A := by
  refine kx_head (by decide +kernel) (Nat.le_of_ble_eq_true rfl) ?_
  intro p e s m below meth c ls cx hP hD hS hl
  obtain ⟨hx, hb, hr, hlocks, hml, hown, hts, hK⟩ := id cx
  have hl : lv_has ls 2 [(0, .int x0), (1, .int x1)] := hl
  refine lv_iload_n (pc := 0) hx hb dJ9_min_7cf53_0 rfl (lv_at hl 0 rfl) ?_
  refine lv_iload_n (pc := 1) hx hb dJ9_min_7cf53_1 rfl (lv_at hl 1 rfl) ?_
  refine lv_icmp_gt (pc := 2) (tgt := 9) hx hb dJ9_min_7cf53_2 (by decide) (fun c1 => ?_) (fun c1 => ?_)
  · have h := h.1 c1
    refine lv_iload_n (pc := 9) hx hb dJ9_min_7cf53_9 rfl (lv_at hl 1 rfl) ?_
    exact kx_iret (pc := 10) hx hb hr hlocks hK hP hD hS ⟨rfl, h⟩ dJ9_min_7cf53_10
  · have h := h.2 c1
    refine lv_iload_n (pc := 5) hx hb dJ9_min_7cf53_5 rfl (lv_at hl 0 rfl) ?_
    refine lv_goto (pc := 6) (tgt := 10) hx hb dJ9_min_7cf53_6 (by decide) ?_
    exact kx_iret (pc := 10) hx hb hr hlocks hK hP hD hS ⟨rfl, h⟩ dJ9_min_7cf53_10
def pJ9_floorMod_7cf53 (x0 : Int32) (x1 : Int32) (Q : Int32 → Prop) : Prop := ¬ x1 = 0 ∧ ((0 ≤ (x0 ^^^ x1) → Q (x0 - x0 / x1 * x1)) ∧ (¬ 0 ≤ (x0 ^^^ x1) → ((x0 - x0 / x1 * x1) = 0 → Q (x0 - x0 / x1 * x1)) ∧ (¬ (x0 - x0 / x1 * x1) = 0 → Q ((x0 - x0 / x1 * x1) + x1))))
set_option maxHeartbeats 4000000 in
theorem qJ9_floorMod_7cf53 {σ : kx_St} {x0 : Int32} {x1 : Int32} {Q : Int32 → Prop} (h : pJ9_floorMod_7cf53 x0 x1 Q) : Met l yJ9_floorMod_7cf53 (Cond.code yJ9_floorMod_7cf53 cJ9_floorMod_7cf53 3 (some .int) :: kx_big) rmJ9_floorMod_7cf53 (va_Pc [.int x0, .int x1] (kx_Wd D cy 0 ad A σ)) (kx_Qc kx_ci (fun u r => u = σ ∧ Q r) (kx_Wd D cy 0 ad A) A) 0 0 A := by
  refine kx_head (by decide +kernel) (Nat.le_of_ble_eq_true rfl) ?_
  intro p e s m below meth c ls cx hP hD hS hl
  obtain ⟨hx, hb, hr, hlocks, hml, hown, hts, hK⟩ := id cx
  have hl : lv_has ls 3 [(0, .int x0), (1, .int x1)] := hl
  refine lv_iload_n (pc := 0) hx hb dJ9_floorMod_7cf53_0 rfl (lv_at hl 0 rfl) ?_
  refine lv_iload_n (pc := 1) hx hb dJ9_floorMod_7cf53_1 rfl (lv_at hl 1 rfl) ?_
  obtain ⟨g1, h⟩ := h
  refine lv_irem (pc := 2) hx hb dJ9_floorMod_7cf53_2 g1 ?_
  refine lv_istore_n (pc := 3) (lv' := [(2, .int (x0 - x0 / x1 * x1)), (0, .int x0), (1, .int x1)]) hx hb dJ9_floorMod_7cf53_3 rfl hl (by decide) rfl (fun ls hl => ?_)
  refine lv_iload_n (pc := 4) hx hb dJ9_floorMod_7cf53_4 rfl (lv_at hl 1 rfl) ?_
  refine lv_iload_n (pc := 5) hx hb dJ9_floorMod_7cf53_5 rfl (lv_at hl 2 rfl) ?_
  refine lv_ixor (pc := 6) hx hb dJ9_floorMod_7cf53_6 ?_
  refine lv_if_ge (pc := 7) (tgt := 18) hx hb dJ9_floorMod_7cf53_7 (by decide) (fun c2 => ?_) (fun c2 => ?_)
  · have h := h.1 c2
    refine lv_iload_n (pc := 18) hx hb dJ9_floorMod_7cf53_18 rfl (lv_at hl 0 rfl) ?_
    exact kx_iret (pc := 19) hx hb hr hlocks hK hP hD hS ⟨rfl, h⟩ dJ9_floorMod_7cf53_19
  · have h := h.2 c2
    refine lv_iload_n (pc := 10) hx hb dJ9_floorMod_7cf53_10 rfl (lv_at hl 0 rfl) ?_
    refine lv_if_eq (pc := 11) (tgt := 18) hx hb dJ9_floorMod_7cf53_11 (by decide) (fun c3 => ?_) (fun c3 => ?_)
    · have h := h.1 c3
      refine lv_iload_n (pc := 18) hx hb dJ9_floorMod_7cf53_18 rfl (lv_at hl 0 rfl) ?_
      exact kx_iret (pc := 19) hx hb hr hlocks hK hP hD hS ⟨rfl, h⟩ dJ9_floorMod_7cf53_19
    · have h := h.2 c3
      refine lv_iload_n (pc := 14) hx hb dJ9_floorMod_7cf53_14 rfl (lv_at hl 0 rfl) ?_
      refine lv_iload_n (pc := 15) hx hb dJ9_floorMod_7cf53_15 rfl (lv_at hl 2 rfl) ?_
      refine lv_iadd (pc := 16) hx hb dJ9_floorMod_7cf53_16 ?_
      exact kx_iret (pc := 17) hx hb hr hlocks hK hP hD hS ⟨rfl, h⟩ dJ9_floorMod_7cf53_17
def p1_liftAs_J44 (σ : kx_St) (x1 : Int32) (x3 : Int32) (x5 : Int32) (s0 : Int32) (Q : Int32 → Prop) : Prop := (x1 = (1 : Int32) → Q (x5 / (3 : Int32))) ∧ (¬ x1 = (1 : Int32) → (x1 = (2 : Int32) → (x3 ≤ (6 : Int32) → Q (x5 / (2 : Int32))) ∧ (¬ x3 ≤ (6 : Int32) → Q (0 : Int32))) ∧ (¬ x1 = (2 : Int32) → (x1 = (3 : Int32) → Q s0) ∧ (¬ x1 = (3 : Int32) → (x1 = (4 : Int32) → ((3 : Int32) ≤ x5 → Q (x5 / (3 : Int32))) ∧ (¬ (3 : Int32) ≤ x5 → Q (1 : Int32))) ∧ (¬ x1 = (4 : Int32) → (x1 = (5 : Int32) → Q (s0 + x3)) ∧ (¬ x1 = (5 : Int32) → Q x5)))))
set_option maxHeartbeats 4000000 in
theorem w1_liftAs_J44 {σ : kx_St} {x1 : Int32} {x3 : Int32} {x5 : Int32} {s0 : Int32}  {Q : Int32 → Prop} {H : Heap} {locs : List Loc} {ls : Array Slot} (cx : kx_Cx p s m args meth c D cy RX1 cX1_liftAs 7 (some .int))   (h : p1_liftAs_J44 σ x1 x3 x5 s0 Q) (hP : va_P D vwCl (kx_ws cy 0 ad σ) H) (hD : va_D A (kx_ws cy 0 ad σ)) (hS : va_S A s.heap H locs) (hl : lv_has ls 7 [(1, .int x1), (3, .int x3), (5, .int x5)]) : W p l e rm1_liftAs s m args below meth c H locs 0 0 (MQ below (kx_Qc kx_ci (fun u r => u = σ ∧ Q r) (kx_Wd D cy 0 ad A) A) args s 0 0 A) (F0 m 44 ls [.int s0]) := by
  obtain ⟨hx, hb, hr, hlocks, hml, hown, hts, hK⟩ := id cx
  refine lv_istore (pc := 44) (lv' := [(6, .int s0), (1, .int x1), (3, .int x3), (5, .int x5)]) hx hb dX1_liftAs_44 hl (by decide) rfl (fun ls hl => ?_)
  refine lv_iload_n (pc := 46) hx hb dX1_liftAs_46 rfl (lv_at hl 1 rfl) ?_
  by_cases c1 : x1 = (1 : Int32)
  · have h := h.1 c1
    refine lv_tableIn (pc := 47) (tgt := 80) hx hb dX1_liftAs_47 (by rw [c1]; decide) (by rw [c1]; decide) (off := 33) (by rw [c1]; rfl) (by decide) ?_
    refine lv_iload (pc := 80) hx hb dX1_liftAs_80 (lv_at hl 3 rfl) ?_
    refine lv_iconst (pc := 82) (v := (3 : Int32)) hx hb dX1_liftAs_82 (by decide) ?_
    refine lv_idiv (pc := 83) hx hb dX1_liftAs_83 (by decide) ?_
    exact kx_iret (pc := 84) hx hb hr hlocks hK hP hD hS ⟨rfl, h⟩ dX1_liftAs_84
  · have h := h.2 c1
    by_cases c2 : x1 = (2 : Int32)
    · have h := h.1 c2
      refine lv_tableIn (pc := 47) (tgt := 85) hx hb dX1_liftAs_47 (by rw [c2]; decide) (by rw [c2]; decide) (off := 38) (by rw [c2]; rfl) (by decide) ?_
      refine lv_iload_n (pc := 85) hx hb dX1_liftAs_85 rfl (lv_at hl 2 rfl) ?_
      refine lv_bipush (pc := 86) (v := (6 : Int32)) hx hb dX1_liftAs_86 (by decide) ?_
      refine lv_icmp_le (pc := 88) (tgt := 95) hx hb dX1_liftAs_88 (by decide) (fun c3 => ?_) (fun c3 => ?_)
      · have h := h.1 c3
        refine lv_iload (pc := 95) hx hb dX1_liftAs_95 (lv_at hl 3 rfl) ?_
        refine lv_iconst (pc := 97) (v := (2 : Int32)) hx hb dX1_liftAs_97 (by decide) ?_
        refine lv_idiv (pc := 98) hx hb dX1_liftAs_98 (by decide) ?_
        exact kx_iret (pc := 99) hx hb hr hlocks hK hP hD hS ⟨rfl, h⟩ dX1_liftAs_99
      · have h := h.2 c3
        refine lv_iconst (pc := 91) (v := (0 : Int32)) hx hb dX1_liftAs_91 (by decide) ?_
        refine lv_goto (pc := 92) (tgt := 99) hx hb dX1_liftAs_92 (by decide) ?_
        exact kx_iret (pc := 99) hx hb hr hlocks hK hP hD hS ⟨rfl, h⟩ dX1_liftAs_99
    · have h := h.2 c2
      by_cases c4 : x1 = (3 : Int32)
      · have h := h.1 c4
        refine lv_tableIn (pc := 47) (tgt := 100) hx hb dX1_liftAs_47 (by rw [c4]; decide) (by rw [c4]; decide) (off := 53) (by rw [c4]; rfl) (by decide) ?_
        refine lv_iload (pc := 100) hx hb dX1_liftAs_100 (lv_at hl 0 rfl) ?_
        exact kx_iret (pc := 102) hx hb hr hlocks hK hP hD hS ⟨rfl, h⟩ dX1_liftAs_102
      · have h := h.2 c4
        by_cases c5 : x1 = (4 : Int32)
        · have h := h.1 c5
          refine lv_tableIn (pc := 47) (tgt := 103) hx hb dX1_liftAs_47 (by rw [c5]; decide) (by rw [c5]; decide) (off := 56) (by rw [c5]; rfl) (by decide) ?_
          refine lv_iload (pc := 103) hx hb dX1_liftAs_103 (lv_at hl 3 rfl) ?_
          refine lv_iconst (pc := 105) (v := (3 : Int32)) hx hb dX1_liftAs_105 (by decide) ?_
          refine lv_icmp_ge (pc := 106) (tgt := 113) hx hb dX1_liftAs_106 (by decide) (fun c6 => ?_) (fun c6 => ?_)
          · have h := h.1 c6
            refine lv_iload (pc := 113) hx hb dX1_liftAs_113 (lv_at hl 3 rfl) ?_
            refine lv_iconst (pc := 115) (v := (3 : Int32)) hx hb dX1_liftAs_115 (by decide) ?_
            refine lv_idiv (pc := 116) hx hb dX1_liftAs_116 (by decide) ?_
            exact kx_iret (pc := 117) hx hb hr hlocks hK hP hD hS ⟨rfl, h⟩ dX1_liftAs_117
          · have h := h.2 c6
            refine lv_iconst (pc := 109) (v := (1 : Int32)) hx hb dX1_liftAs_109 (by decide) ?_
            refine lv_goto (pc := 110) (tgt := 117) hx hb dX1_liftAs_110 (by decide) ?_
            exact kx_iret (pc := 117) hx hb hr hlocks hK hP hD hS ⟨rfl, h⟩ dX1_liftAs_117
        · have h := h.2 c5
          by_cases c7 : x1 = (5 : Int32)
          · have h := h.1 c7
            refine lv_tableIn (pc := 47) (tgt := 118) hx hb dX1_liftAs_47 (by rw [c7]; decide) (by rw [c7]; decide) (off := 71) (by rw [c7]; rfl) (by decide) ?_
            refine lv_iload (pc := 118) hx hb dX1_liftAs_118 (lv_at hl 0 rfl) ?_
            refine lv_iload_n (pc := 120) hx hb dX1_liftAs_120 rfl (lv_at hl 2 rfl) ?_
            refine lv_iadd (pc := 121) hx hb dX1_liftAs_121 ?_
            exact kx_iret (pc := 122) hx hb hr hlocks hK hP hD hS ⟨rfl, h⟩ dX1_liftAs_122
          · have h := h.2 c7
            have tc1 : x1.toInt ≠ 1 := fun q => c1 (Int32.toInt_inj.mp (q.trans (by decide)))
            have tc2 : x1.toInt ≠ 2 := fun q => c2 (Int32.toInt_inj.mp (q.trans (by decide)))
            have tc4 : x1.toInt ≠ 3 := fun q => c4 (Int32.toInt_inj.mp (q.trans (by decide)))
            have tc5 : x1.toInt ≠ 4 := fun q => c5 (Int32.toInt_inj.mp (q.trans (by decide)))
            have tc7 : x1.toInt ≠ 5 := fun q => c7 (Int32.toInt_inj.mp (q.trans (by decide)))
            refine lv_tableOut (pc := 47) (tgt := 123) hx hb dX1_liftAs_47 (kx_swd (fun k q1 q2 => by omega)) (by decide) ?_
            refine lv_iload (pc := 123) hx hb dX1_liftAs_123 (lv_at hl 3 rfl) ?_
            exact kx_iret (pc := 125) hx hb hr hlocks hK hP hD hS ⟨rfl, h⟩ dX1_liftAs_125
def p1_liftAs_J28 (σ : kx_St) (x1 : Int32) (x3 : Int32) (x4 : Int32) (s0 : Int32) (Q : Int32 → Prop) : Prop := (x3 < (3 : Int32) → p1_liftAs_J44 σ x1 x3 s0 x4 Q) ∧ (¬ x3 < (3 : Int32) → p1_liftAs_J44 σ x1 x3 s0 (x4 + (2 : Int32)) Q)
set_option maxHeartbeats 4000000 in
theorem w1_liftAs_J28 {σ : kx_St} {x1 : Int32} {x3 : Int32} {x4 : Int32} {s0 : Int32}  {Q : Int32 → Prop} {H : Heap} {locs : List Loc} {ls : Array Slot} (cx : kx_Cx p s m args meth c D cy RX1 cX1_liftAs 7 (some .int))   (h : p1_liftAs_J28 σ x1 x3 x4 s0 Q) (hP : va_P D vwCl (kx_ws cy 0 ad σ) H) (hD : va_D A (kx_ws cy 0 ad σ)) (hS : va_S A s.heap H locs) (hl : lv_has ls 7 [(1, .int x1), (3, .int x3), (4, .int x4)]) : W p l e rm1_liftAs s m args below meth c H locs 0 0 (MQ below (kx_Qc kx_ci (fun u r => u = σ ∧ Q r) (kx_Wd D cy 0 ad A) A) args s 0 0 A) (F0 m 28 ls [.int s0]) := by
  obtain ⟨hx, hb, hr, hlocks, hml, hown, hts, hK⟩ := id cx
  refine lv_istore (pc := 28) (lv' := [(5, .int s0), (1, .int x1), (3, .int x3), (4, .int x4)]) hx hb dX1_liftAs_28 hl (by decide) rfl (fun ls hl => ?_)
  refine lv_iload_n (pc := 30) hx hb dX1_liftAs_30 rfl (lv_at hl 2 rfl) ?_
  refine lv_iconst (pc := 31) (v := (3 : Int32)) hx hb dX1_liftAs_31 (by decide) ?_
  refine lv_icmp_lt (pc := 32) (tgt := 42) hx hb dX1_liftAs_32 (by decide) (fun c1 => ?_) (fun c1 => ?_)
  · have h := h.1 c1
    refine lv_iload (pc := 42) hx hb dX1_liftAs_42 (lv_at hl 3 rfl) ?_
    exact w1_liftAs_J44 cx  h hP hD hS (lv_sub hl [1, 2, 0] rfl)
  · have h := h.2 c1
    refine lv_iload (pc := 35) hx hb dX1_liftAs_35 (lv_at hl 3 rfl) ?_
    refine lv_iconst (pc := 37) (v := (2 : Int32)) hx hb dX1_liftAs_37 (by decide) ?_
    refine lv_iadd (pc := 38) hx hb dX1_liftAs_38 ?_
    refine lv_goto (pc := 39) (tgt := 44) hx hb dX1_liftAs_39 (by decide) ?_
    exact w1_liftAs_J44 cx  h hP hD hS (lv_sub hl [1, 2, 0] rfl)
def p1_liftAs (σ : kx_St) (x0 : Nat) (x1 : Int32) (x2 : Int32) (x3 : Int32) (Q : Int32 → Prop) : Prop := kx_k 0 x0 = 1 ∧ (((((σ.1 x0 1) * x3) / (2 : Int32)) ≤ ((2 : Int32) * x2) → p1_liftAs_J28 σ x1 x3 (((σ.1 x0 1) * x3) / (2 : Int32)) (0 : Int32) Q) ∧ (¬ (((σ.1 x0 1) * x3) / (2 : Int32)) ≤ ((2 : Int32) * x2) → p1_liftAs_J28 σ x1 x3 (((σ.1 x0 1) * x3) / (2 : Int32)) ((((σ.1 x0 1) * x3) / (2 : Int32)) - ((2 : Int32) * x2)) Q))
set_option maxHeartbeats 4000000 in
theorem q1_liftAs {σ : kx_St} {x0 : Nat} {x1 : Int32} {x2 : Int32} {x3 : Int32} {Q : Int32 → Prop} (h : p1_liftAs σ x0 x1 x2 x3 Q) : Met l yX1_liftAs (Cond.code yX1_liftAs cX1_liftAs 7 (some .int) :: kx_big) rm1_liftAs (va_Pc [.ref (ad x0), .int x1, .int x2, .int x3] (kx_Wd D cy 0 ad A σ)) (kx_Qc kx_ci (fun u r => u = σ ∧ Q r) (kx_Wd D cy 0 ad A) A) 0 0 A := by
  refine kx_head (plainFor_of_name (by decide)) (Nat.le_of_ble_eq_true rfl) ?_
  intro p e s m below meth c ls cx hP hD hS hl
  obtain ⟨hx, hb, hr, hlocks, hml, hown, hts, hK⟩ := id cx
  obtain ⟨hk_x0, h⟩ := h
  have hl : lv_has ls 7 [(0, .ref (ad x0)), (1, .int x1), (2, .int x2), (3, .int x3)] := hl
  refine lv_aload_n (pc := 0) hx hb dX1_liftAs_0 rfl (lv_at hl 0 rfl) ?_
  refine fg1_18 (pc := 1) hx hb hown hts hK hP hk_x0 dX1_liftAs_1 ?_
  refine lv_iload_n (pc := 4) hx hb dX1_liftAs_4 rfl (lv_at hl 3 rfl) ?_
  refine lv_imul (pc := 5) hx hb dX1_liftAs_5 ?_
  refine lv_iconst (pc := 6) (v := (2 : Int32)) hx hb dX1_liftAs_6 (by decide) ?_
  refine lv_idiv (pc := 7) hx hb dX1_liftAs_7 (by decide) ?_
  refine lv_istore (pc := 8) (lv' := [(4, .int (((σ.1 x0 1) * x3) / (2 : Int32))), (0, .ref (ad x0)), (1, .int x1), (2, .int x2), (3, .int x3)]) hx hb dX1_liftAs_8 hl (by decide) rfl (fun ls hl => ?_)
  refine lv_iload (pc := 10) hx hb dX1_liftAs_10 (lv_at hl 0 rfl) ?_
  refine lv_iconst (pc := 12) (v := (2 : Int32)) hx hb dX1_liftAs_12 (by decide) ?_
  refine lv_iload_n (pc := 13) hx hb dX1_liftAs_13 rfl (lv_at hl 3 rfl) ?_
  refine lv_imul (pc := 14) hx hb dX1_liftAs_14 ?_
  refine lv_icmp_le (pc := 15) (tgt := 27) hx hb dX1_liftAs_15 (by decide) (fun c1 => ?_) (fun c1 => ?_)
  · have h := h.1 c1
    refine lv_iconst (pc := 27) (v := (0 : Int32)) hx hb dX1_liftAs_27 (by decide) ?_
    exact w1_liftAs_J28 cx  h hP hD hS (lv_sub hl [2, 4, 0] rfl)
  · have h := h.2 c1
    refine lv_iload (pc := 18) hx hb dX1_liftAs_18 (lv_at hl 0 rfl) ?_
    refine lv_iconst (pc := 20) (v := (2 : Int32)) hx hb dX1_liftAs_20 (by decide) ?_
    refine lv_iload_n (pc := 21) hx hb dX1_liftAs_21 rfl (lv_at hl 3 rfl) ?_
    refine lv_imul (pc := 22) hx hb dX1_liftAs_22 ?_
    refine lv_isub (pc := 23) hx hb dX1_liftAs_23 ?_
    refine lv_goto (pc := 24) (tgt := 28) hx hb dX1_liftAs_24 (by decide) ?_
    exact w1_liftAs_J28 cx  h hP hD hS (lv_sub hl [2, 4, 0] rfl)
def p1_liftIn (σ : kx_St) (x0 : Nat) (x1 : Int32) (Q : Int32 → Prop) : Prop := kx_k 0 x0 = 1 ∧ (p1_liftAs σ x0 (σ.1 x0 0) (σ.1 x0 3) x1 (fun r1 => Q r1))
set_option maxHeartbeats 4000000 in
theorem q1_liftIn {σ : kx_St} {x0 : Nat} {x1 : Int32} {Q : Int32 → Prop} (h : p1_liftIn σ x0 x1 Q) : Met l yX1_liftIn (Cond.code yX1_liftIn cX1_liftIn 2 (some .int) :: kx_big) rm1_liftIn (va_Pc [.ref (ad x0), .int x1] (kx_Wd D cy 0 ad A σ)) (kx_Qc kx_ci (fun u r => u = σ ∧ Q r) (kx_Wd D cy 0 ad A) A) 0 0 A := by
  refine kx_head (plainFor_of_name (by decide)) (Nat.le_of_ble_eq_true rfl) ?_
  intro p e s m below meth c ls cx hP hD hS hl
  obtain ⟨hx, hb, hr, hlocks, hml, hown, hts, hK⟩ := id cx
  obtain ⟨hk_x0, h⟩ := h
  have hl : lv_has ls 2 [(0, .ref (ad x0)), (1, .int x1)] := hl
  refine lv_aload_n (pc := 0) hx hb dX1_liftIn_0 rfl (lv_at hl 0 rfl) ?_
  refine lv_aload_n (pc := 1) hx hb dX1_liftIn_1 rfl (lv_at hl 0 rfl) ?_
  refine fg1_15 (pc := 2) hx hb hown hts hK hP hk_x0 dX1_liftIn_2 ?_
  refine lv_aload_n (pc := 5) hx hb dX1_liftIn_5 rfl (lv_at hl 0 rfl) ?_
  refine fg1_24 (pc := 6) hx hb hown hts hK hP hk_x0 dX1_liftIn_6 ?_
  refine lv_iload_n (pc := 9) hx hb dX1_liftIn_9 rfl (lv_at hl 1 rfl) ?_
  refine kx_iVi (pc := 10) [.int (σ.1 x0 0), .int (σ.1 x0 3), .int x1] hx hb hml hown hts hK hP hD hS (q1_liftAs h) (cw1_31 hts ⟨Nat.le_of_ble_eq_true rfl, Nat.le_of_ble_eq_true rfl⟩) hk_x0 (by decide) rfl rfl hl.1 rfl (Nat.le_of_ble_eq_true rfl) ⟨Nat.le_of_ble_eq_true rfl, Nat.le_of_ble_eq_true rfl⟩ dX1_liftIn_10 (fun r1 u_ H locs hP hD hS h => ?_)
  obtain ⟨hu_, h⟩ := h
  rw [hu_] at hP hD
  exact kx_iret (pc := 13) hx hb hr hlocks hK hP hD hS ⟨rfl, h⟩ dX1_liftIn_13
def p1_isTooMuch (σ : kx_St) (x0 : Nat) (x1 : Int32) (Q : Int32 → Prop) : Prop := kx_k 0 x0 = 1 ∧ ((x1 ≤ ((4 : Int32) * (σ.1 x0 2)) → Q (0 : Int32)) ∧ (¬ x1 ≤ ((4 : Int32) * (σ.1 x0 2)) → Q (1 : Int32)))
set_option maxHeartbeats 4000000 in
theorem q1_isTooMuch {σ : kx_St} {x0 : Nat} {x1 : Int32} {Q : Int32 → Prop} (h : p1_isTooMuch σ x0 x1 Q) : Met l yX1_isTooMuch (Cond.code yX1_isTooMuch cX1_isTooMuch 2 (some .boolean) :: kx_big) rm1_isTooMuch (va_Pc [.ref (ad x0), .int x1] (kx_Wd D cy 0 ad A σ)) (kx_Qc kx_ci (fun u r => u = σ ∧ Q r) (kx_Wd D cy 0 ad A) A) 0 0 A := by
  refine kx_head (plainFor_of_name (by decide)) (Nat.le_of_ble_eq_true rfl) ?_
  intro p e s m below meth c ls cx hP hD hS hl
  obtain ⟨hx, hb, hr, hlocks, hml, hown, hts, hK⟩ := id cx
  obtain ⟨hk_x0, h⟩ := h
  have hl : lv_has ls 2 [(0, .ref (ad x0)), (1, .int x1)] := hl
  refine lv_iload_n (pc := 0) hx hb dX1_isTooMuch_0 rfl (lv_at hl 1 rfl) ?_
  refine lv_iconst (pc := 1) (v := (4 : Int32)) hx hb dX1_isTooMuch_1 (by decide) ?_
  refine lv_aload_n (pc := 2) hx hb dX1_isTooMuch_2 rfl (lv_at hl 0 rfl) ?_
  refine fg1_21 (pc := 3) hx hb hown hts hK hP hk_x0 dX1_isTooMuch_3 ?_
  refine lv_imul (pc := 6) hx hb dX1_isTooMuch_6 ?_
  refine lv_icmp_le (pc := 7) (tgt := 14) hx hb dX1_isTooMuch_7 (by decide) (fun c1 => ?_) (fun c1 => ?_)
  · have h := h.1 c1
    refine lv_iconst (pc := 14) (v := (0 : Int32)) hx hb dX1_isTooMuch_14 (by decide) ?_
    exact kx_zret (pc := 15) hx hb hr hlocks hK hP hD hS (by decide) ⟨rfl, h⟩ dX1_isTooMuch_15
  · have h := h.2 c1
    refine lv_iconst (pc := 10) (v := (1 : Int32)) hx hb dX1_isTooMuch_10 (by decide) ?_
    refine lv_goto (pc := 11) (tgt := 15) hx hb dX1_isTooMuch_11 (by decide) ?_
    exact kx_zret (pc := 15) hx hb hr hlocks hK hP hD hS (by decide) ⟨rfl, h⟩ dX1_isTooMuch_15
def p1_isLiftedIn (σ : kx_St) (x0 : Nat) (x1 : Int32) (Q : Int32 → Prop) : Prop := kx_k 0 x0 = 1 ∧ (p1_liftIn σ x0 x1 (fun r1 => p1_isTooMuch σ x0 r1 (fun r2 => (r2 = 0 ∨ r2 = 1) ∧ (Q r2))))
set_option maxHeartbeats 4000000 in
theorem q1_isLiftedIn {σ : kx_St} {x0 : Nat} {x1 : Int32} {Q : Int32 → Prop} (h : p1_isLiftedIn σ x0 x1 Q) : Met l yX1_isLiftedIn (Cond.code yX1_isLiftedIn cX1_isLiftedIn 2 (some .boolean) :: kx_big) rm1_isLiftedIn (va_Pc [.ref (ad x0), .int x1] (kx_Wd D cy 0 ad A σ)) (kx_Qc kx_ci (fun u r => u = σ ∧ Q r) (kx_Wd D cy 0 ad A) A) 0 0 A := by
  refine kx_head (plainFor_of_name (by decide)) (Nat.le_of_ble_eq_true rfl) ?_
  intro p e s m below meth c ls cx hP hD hS hl
  obtain ⟨hx, hb, hr, hlocks, hml, hown, hts, hK⟩ := id cx
  obtain ⟨hk_x0, h⟩ := h
  have hl : lv_has ls 2 [(0, .ref (ad x0)), (1, .int x1)] := hl
  refine lv_aload_n (pc := 0) hx hb dX1_isLiftedIn_0 rfl (lv_at hl 0 rfl) ?_
  refine lv_aload_n (pc := 1) hx hb dX1_isLiftedIn_1 rfl (lv_at hl 0 rfl) ?_
  refine lv_iload_n (pc := 2) hx hb dX1_isLiftedIn_2 rfl (lv_at hl 1 rfl) ?_
  refine kx_iVi (pc := 3) [.int x1] hx hb hml hown hts hK hP hD hS (q1_liftIn h) (cw1_35 hts ⟨Nat.le_of_ble_eq_true rfl, Nat.le_of_ble_eq_true rfl⟩) hk_x0 (by decide) rfl rfl hl.1 rfl (Nat.le_of_ble_eq_true rfl) ⟨Nat.le_of_ble_eq_true rfl, Nat.le_of_ble_eq_true rfl⟩ dX1_isLiftedIn_3 (fun r1 u_ H locs hP hD hS h => ?_)
  obtain ⟨hu_, h⟩ := h
  rw [hu_] at hP hD
  refine kx_iVi (pc := 6) [.int r1] hx hb hml hown hts hK hP hD hS (q1_isTooMuch h) (cw1_39 hts ⟨Nat.le_of_ble_eq_true rfl, Nat.le_of_ble_eq_true rfl⟩) hk_x0 (by decide) rfl rfl hl.1 rfl (Nat.le_of_ble_eq_true rfl) ⟨Nat.le_of_ble_eq_true rfl, Nat.le_of_ble_eq_true rfl⟩ dX1_isLiftedIn_6 (fun r2 u_ H locs hP hD hS h => ?_)
  obtain ⟨hu_, h⟩ := h
  rw [hu_] at hP hD
  obtain ⟨g3, h⟩ := h
  exact kx_zret (pc := 9) hx hb hr hlocks hK hP hD hS g3 ⟨rfl, h⟩ dX1_isLiftedIn_9
def p1_payIn (σ : kx_St) (x0 : Nat) (x1 : Int32) (Q : Int32 → Prop) : Prop := kx_k 0 x0 = 1 ∧ (p1_liftIn σ x0 x1 (fun r1 => p1_isTooMuch σ x0 r1 (fun r2 => (r2 = 0 → Q r1) ∧ (¬ r2 = 0 → Q (0 : Int32)))))
set_option maxHeartbeats 4000000 in
theorem q1_payIn {σ : kx_St} {x0 : Nat} {x1 : Int32} {Q : Int32 → Prop} (h : p1_payIn σ x0 x1 Q) : Met l yX1_payIn (Cond.code yX1_payIn cX1_payIn 3 (some .int) :: kx_big) rm1_payIn (va_Pc [.ref (ad x0), .int x1] (kx_Wd D cy 0 ad A σ)) (kx_Qc kx_ci (fun u r => u = σ ∧ Q r) (kx_Wd D cy 0 ad A) A) 0 0 A := by
  refine kx_head (plainFor_of_name (by decide)) (Nat.le_of_ble_eq_true rfl) ?_
  intro p e s m below meth c ls cx hP hD hS hl
  obtain ⟨hx, hb, hr, hlocks, hml, hown, hts, hK⟩ := id cx
  obtain ⟨hk_x0, h⟩ := h
  have hl : lv_has ls 3 [(0, .ref (ad x0)), (1, .int x1)] := hl
  refine lv_aload_n (pc := 0) hx hb dX1_payIn_0 rfl (lv_at hl 0 rfl) ?_
  refine lv_iload_n (pc := 1) hx hb dX1_payIn_1 rfl (lv_at hl 1 rfl) ?_
  refine kx_iVi (pc := 2) [.int x1] hx hb hml hown hts hK hP hD hS (q1_liftIn h) (cw1_35 hts ⟨Nat.le_of_ble_eq_true rfl, Nat.le_of_ble_eq_true rfl⟩) hk_x0 (by decide) rfl rfl hl.1 rfl (Nat.le_of_ble_eq_true rfl) ⟨Nat.le_of_ble_eq_true rfl, Nat.le_of_ble_eq_true rfl⟩ dX1_payIn_2 (fun r1 u_ H locs hP hD hS h => ?_)
  obtain ⟨hu_, h⟩ := h
  rw [hu_] at hP hD
  refine lv_istore_n (pc := 5) (lv' := [(2, .int r1), (0, .ref (ad x0)), (1, .int x1)]) hx hb dX1_payIn_5 rfl hl (by decide) rfl (fun ls hl => ?_)
  refine lv_aload_n (pc := 6) hx hb dX1_payIn_6 rfl (lv_at hl 1 rfl) ?_
  refine lv_iload_n (pc := 7) hx hb dX1_payIn_7 rfl (lv_at hl 0 rfl) ?_
  refine kx_iVi (pc := 8) [.int r1] hx hb hml hown hts hK hP hD hS (q1_isTooMuch h) (cw1_39 hts ⟨Nat.le_of_ble_eq_true rfl, Nat.le_of_ble_eq_true rfl⟩) hk_x0 (by decide) rfl rfl hl.1 rfl (Nat.le_of_ble_eq_true rfl) ⟨Nat.le_of_ble_eq_true rfl, Nat.le_of_ble_eq_true rfl⟩ dX1_payIn_8 (fun r2 u_ H locs hP hD hS h => ?_)
  obtain ⟨hu_, h⟩ := h
  rw [hu_] at hP hD
  refine lv_if_eq (pc := 11) (tgt := 18) hx hb dX1_payIn_11 (by decide) (fun c3 => ?_) (fun c3 => ?_)
  · have h := h.1 c3
    refine lv_iload_n (pc := 18) hx hb dX1_payIn_18 rfl (lv_at hl 0 rfl) ?_
    exact kx_iret (pc := 19) hx hb hr hlocks hK hP hD hS ⟨rfl, h⟩ dX1_payIn_19
  · have h := h.2 c3
    refine lv_iconst (pc := 14) (v := (0 : Int32)) hx hb dX1_payIn_14 (by decide) ?_
    refine lv_goto (pc := 15) (tgt := 19) hx hb dX1_payIn_15 (by decide) ?_
    exact kx_iret (pc := 19) hx hb hr hlocks hK hP hD hS ⟨rfl, h⟩ dX1_payIn_19
def pJ9_max_7cf53 (x0 : Int32) (x1 : Int32) (Q : Int32 → Prop) : Prop := (x0 < x1 → Q x1) ∧ (¬ x0 < x1 → Q x0)
set_option maxHeartbeats 4000000 in
theorem qJ9_max_7cf53 {σ : kx_St} {x0 : Int32} {x1 : Int32} {Q : Int32 → Prop} (h : pJ9_max_7cf53 x0 x1 Q) : Met l yJ9_max_7cf53 (Cond.code yJ9_max_7cf53 cJ9_max_7cf53 2 (some .int) :: kx_big) rmJ9_max_7cf53 (va_Pc [.int x0, .int x1] (kx_Wd D cy 0 ad A σ)) (kx_Qc kx_ci (fun u r => u = σ ∧ Q r) (kx_Wd D cy 0 ad A) A) 0 0 A := by
  refine kx_head (by decide +kernel) (Nat.le_of_ble_eq_true rfl) ?_
  intro p e s m below meth c ls cx hP hD hS hl
  obtain ⟨hx, hb, hr, hlocks, hml, hown, hts, hK⟩ := id cx
  have hl : lv_has ls 2 [(0, .int x0), (1, .int x1)] := hl
  refine lv_iload_n (pc := 0) hx hb dJ9_max_7cf53_0 rfl (lv_at hl 0 rfl) ?_
  refine lv_iload_n (pc := 1) hx hb dJ9_max_7cf53_1 rfl (lv_at hl 1 rfl) ?_
  refine lv_icmp_lt (pc := 2) (tgt := 9) hx hb dJ9_max_7cf53_2 (by decide) (fun c1 => ?_) (fun c1 => ?_)
  · have h := h.1 c1
    refine lv_iload_n (pc := 9) hx hb dJ9_max_7cf53_9 rfl (lv_at hl 1 rfl) ?_
    exact kx_iret (pc := 10) hx hb hr hlocks hK hP hD hS ⟨rfl, h⟩ dJ9_max_7cf53_10
  · have h := h.2 c1
    refine lv_iload_n (pc := 5) hx hb dJ9_max_7cf53_5 rfl (lv_at hl 0 rfl) ?_
    refine lv_goto (pc := 6) (tgt := 10) hx hb dJ9_max_7cf53_6 (by decide) ?_
    exact kx_iret (pc := 10) hx hb hr hlocks hK hP hD hS ⟨rfl, h⟩ dJ9_max_7cf53_10
def p1_wasFlown (σ : kx_St) (x0 : Nat) (Q : Int32 → Prop) : Prop := kx_k 0 x0 = 1 ∧ (((σ.1 x0 4) = (-9 : Int32) → Q (0 : Int32)) ∧ (¬ (σ.1 x0 4) = (-9 : Int32) → Q (1 : Int32)))
set_option maxHeartbeats 4000000 in
theorem q1_wasFlown {σ : kx_St} {x0 : Nat} {Q : Int32 → Prop} (h : p1_wasFlown σ x0 Q) : Met l yX1_wasFlown (Cond.code yX1_wasFlown cX1_wasFlown 1 (some .boolean) :: kx_big) rm1_wasFlown (va_Pc [.ref (ad x0)] (kx_Wd D cy 0 ad A σ)) (kx_Qc kx_ci (fun u r => u = σ ∧ Q r) (kx_Wd D cy 0 ad A) A) 0 0 A := by
  refine kx_head (plainFor_of_name (by decide)) (Nat.le_of_ble_eq_true rfl) ?_
  intro p e s m below meth c ls cx hP hD hS hl
  obtain ⟨hx, hb, hr, hlocks, hml, hown, hts, hK⟩ := id cx
  obtain ⟨hk_x0, h⟩ := h
  have hl : lv_has ls 1 [(0, .ref (ad x0))] := hl
  refine lv_aload_n (pc := 0) hx hb dX1_wasFlown_0 rfl (lv_at hl 0 rfl) ?_
  refine fg1_9 (pc := 1) hx hb hown hts hK hP hk_x0 dX1_wasFlown_1 ?_
  refine lv_bipush (pc := 4) (v := (-9 : Int32)) hx hb dX1_wasFlown_4 (by decide) ?_
  refine lv_icmp_eq (pc := 6) (tgt := 13) hx hb dX1_wasFlown_6 (by decide) (fun c1 => ?_) (fun c1 => ?_)
  · have h := h.1 c1
    refine lv_iconst (pc := 13) (v := (0 : Int32)) hx hb dX1_wasFlown_13 (by decide) ?_
    exact kx_zret (pc := 14) hx hb hr hlocks hK hP hD hS (by decide) ⟨rfl, h⟩ dX1_wasFlown_14
  · have h := h.2 c1
    refine lv_iconst (pc := 9) (v := (1 : Int32)) hx hb dX1_wasFlown_9 (by decide) ?_
    refine lv_goto (pc := 10) (tgt := 14) hx hb dX1_wasFlown_10 (by decide) ?_
    exact kx_zret (pc := 14) hx hb hr hlocks hK hP hD hS (by decide) ⟨rfl, h⟩ dX1_wasFlown_14
def p5_holds (σ : kx_St) (x0 : Nat) (x1 : Int32) (Q : Int32 → Prop) : Prop := kx_k 0 x0 = 5 ∧ ((x1 < 0 → Q (0 : Int32)) ∧ (¬ x1 < 0 → ((σ.1 x0 1) ≤ x1 → Q (0 : Int32)) ∧ (¬ (σ.1 x0 1) ≤ x1 → ((Int32.ofNat (kx_l 0 (kx_r 0 x0 0))) ≤ x1 → Q (0 : Int32)) ∧ (¬ (Int32.ofNat (kx_l 0 (kx_r 0 x0 0))) ≤ x1 → Q (1 : Int32)))))
set_option maxHeartbeats 4000000 in
theorem q5_holds {σ : kx_St} {x0 : Nat} {x1 : Int32} {Q : Int32 → Prop} (h : p5_holds σ x0 x1 Q) : Met l yX5_holds (Cond.code yX5_holds cX5_holds 2 (some .boolean) :: kx_big) rm5_holds (va_Pc [.ref (ad x0), .int x1] (kx_Wd D cy 0 ad A σ)) (kx_Qc kx_ci (fun u r => u = σ ∧ Q r) (kx_Wd D cy 0 ad A) A) 0 0 A := by
  refine kx_head (plainFor_of_name (by decide)) (Nat.le_of_ble_eq_true rfl) ?_
  intro p e s m below meth c ls cx hP hD hS hl
  obtain ⟨hx, hb, hr, hlocks, hml, hown, hts, hK⟩ := id cx
  obtain ⟨hk_x0, h⟩ := h
  have hl : lv_has ls 2 [(0, .ref (ad x0)), (1, .int x1)] := hl
  refine lv_iload_n (pc := 0) hx hb dX5_holds_0 rfl (lv_at hl 1 rfl) ?_
  refine lv_if_lt (pc := 1) (tgt := 25) hx hb dX5_holds_1 (by decide) (fun c1 => ?_) (fun c1 => ?_)
  · have h := h.1 c1
    refine lv_iconst (pc := 25) (v := (0 : Int32)) hx hb dX5_holds_25 (by decide) ?_
    exact kx_zret (pc := 26) hx hb hr hlocks hK hP hD hS (by decide) ⟨rfl, h⟩ dX5_holds_26
  · have h := h.2 c1
    refine lv_iload_n (pc := 4) hx hb dX5_holds_4 rfl (lv_at hl 1 rfl) ?_
    refine lv_aload_n (pc := 5) hx hb dX5_holds_5 rfl (lv_at hl 0 rfl) ?_
    refine fg5_7 (pc := 6) hx hb hown hts hK hP hk_x0 dX5_holds_6 ?_
    refine lv_icmp_ge (pc := 9) (tgt := 25) hx hb dX5_holds_9 (by decide) (fun c2 => ?_) (fun c2 => ?_)
    · have h := h.1 c2
      refine lv_iconst (pc := 25) (v := (0 : Int32)) hx hb dX5_holds_25 (by decide) ?_
      exact kx_zret (pc := 26) hx hb hr hlocks hK hP hD hS (by decide) ⟨rfl, h⟩ dX5_holds_26
    · have h := h.2 c2
      refine lv_iload_n (pc := 12) hx hb dX5_holds_12 rfl (lv_at hl 1 rfl) ?_
      refine lv_aload_n (pc := 13) hx hb dX5_holds_13 rfl (lv_at hl 0 rfl) ?_
      refine fg5_19 (pc := 14) hx hb hown hts hK hP hk_x0 rfl dX5_holds_14 ?_
      refine kx_alen (pc := 17) hx hb hK hP (ky_5_0 hk_x0) (by decide) (by decide) dX5_holds_17 ?_
      refine lv_icmp_ge (pc := 18) (tgt := 25) hx hb dX5_holds_18 (by decide) (fun c3 => ?_) (fun c3 => ?_)
      · have h := h.1 c3
        refine lv_iconst (pc := 25) (v := (0 : Int32)) hx hb dX5_holds_25 (by decide) ?_
        exact kx_zret (pc := 26) hx hb hr hlocks hK hP hD hS (by decide) ⟨rfl, h⟩ dX5_holds_26
      · have h := h.2 c3
        refine lv_iconst (pc := 21) (v := (1 : Int32)) hx hb dX5_holds_21 (by decide) ?_
        refine lv_goto (pc := 22) (tgt := 26) hx hb dX5_holds_22 (by decide) ?_
        exact kx_zret (pc := 26) hx hb hr hlocks hK hP hD hS (by decide) ⟨rfl, h⟩ dX5_holds_26
def p5_set (σ : kx_St) (x0 : Nat) (x1 : Int32) (x2 : Int32) (Q : kx_St → Prop) : Prop := kx_k 0 x0 = 5 ∧ (p5_holds σ x0 x1 (fun r1 => (r1 = 0 → Q σ) ∧ (¬ r1 = 0 → vp_in x1 (kx_l 0 (kx_r 0 x0 0)) ∧ ((fun σ4 : kx_St => Q σ4) (kx_sI σ (kx_r 0 x0 0) x1.toNatClampNeg x2)))))
set_option maxHeartbeats 4000000 in
theorem q5_set {σ : kx_St} {x0 : Nat} {x1 : Int32} {x2 : Int32} {Q : kx_St → Prop} (h : p5_set σ x0 x1 x2 Q) : Met l yX5_set (Cond.code yX5_set cX5_set 3 none :: kx_big) rm5_set (va_Pc [.ref (ad x0), .int x1, .int x2] (kx_Wd D cy 0 ad A σ)) (kx_Qc kx_cv (fun u _ => Q u) (kx_Wd D cy 0 ad A) A) 0 0 A := by
  refine kx_head (plainFor_of_name (by decide)) (Nat.le_of_ble_eq_true rfl) ?_
  intro p e s m below meth c ls cx hP hD hS hl
  obtain ⟨hx, hb, hr, hlocks, hml, hown, hts, hK⟩ := id cx
  obtain ⟨hk_x0, h⟩ := h
  have hl : lv_has ls 3 [(0, .ref (ad x0)), (1, .int x1), (2, .int x2)] := hl
  refine lv_aload_n (pc := 0) hx hb dX5_set_0 rfl (lv_at hl 0 rfl) ?_
  refine lv_iload_n (pc := 1) hx hb dX5_set_1 rfl (lv_at hl 1 rfl) ?_
  refine kx_iVi (pc := 2) [.int x1] hx hb hml hown hts hK hP hD hS (q5_holds h) (cw5_23 hts ⟨Nat.le_of_ble_eq_true rfl, Nat.le_of_ble_eq_true rfl⟩) hk_x0 (by decide) rfl rfl hl.1 rfl (Nat.le_of_ble_eq_true rfl) ⟨Nat.le_of_ble_eq_true rfl, Nat.le_of_ble_eq_true rfl⟩ dX5_set_2 (fun r1 u_ H locs hP hD hS h => ?_)
  obtain ⟨hu_, h⟩ := h
  rw [hu_] at hP hD
  refine lv_if_eq (pc := 5) (tgt := 15) hx hb dX5_set_5 (by decide) (fun c2 => ?_) (fun c2 => ?_)
  · have h := h.1 c2
    exact kx_vret (pc := 15) hx hb hr hlocks hK hP hD hS h dX5_set_15
  · have h := h.2 c2
    refine lv_aload_n (pc := 8) hx hb dX5_set_8 rfl (lv_at hl 0 rfl) ?_
    refine fg5_19 (pc := 9) hx hb hown hts hK hP hk_x0 rfl dX5_set_9 ?_
    refine lv_iload_n (pc := 12) hx hb dX5_set_12 rfl (lv_at hl 1 rfl) ?_
    refine lv_iload_n (pc := 13) hx hb dX5_set_13 rfl (lv_at hl 2 rfl) ?_
    obtain ⟨g3, h⟩ := h
    refine kx_iast (pc := 14) hx hb hK hP hD hS (ky_5_0 hk_x0) g3 dX5_set_14 (fun H locs hP hD hS => ?_)
    exact kx_vret (pc := 15) hx hb hr hlocks hK hP hD hS h dX5_set_15
def p5_begin_L19 : Nat → kx_St → Nat → Int32 → Int32 → (kx_St → Prop) → Prop
  | 0, _, _, _, _, _ => False
  | n + 1, σ, x0, x2, x3, Q => ((σ.1 x0 1) ≤ x3 → Q σ) ∧ (¬ (σ.1 x0 1) ≤ x3 → p5_set σ x0 x3 x2 (fun σ3 => p5_begin_L19 n σ3 x0 x2 (x3 + (1 : Int32)) Q))
set_option maxHeartbeats 4000000 in
theorem w5_begin_L19  {Q : kx_St → Prop} (cx : kx_Cx p s m args meth c D cy RX5 cX5_begin 4 none)  : ∀ (n : Nat) (σ : kx_St) (x0 : Nat) (x2 : Int32) (x3 : Int32) (H : Heap) (locs : List Loc) (ls : Array Slot), kx_k 0 x0 = 5 → p5_begin_L19 n σ x0 x2 x3 Q → va_P D vwCl (kx_ws cy 0 ad σ) H → va_D A (kx_ws cy 0 ad σ) → va_S A s.heap H locs → lv_has ls 4 [(0, .ref (ad x0)), (2, .int x2), (3, .int x3)] → W p l e rm5_begin s m args below meth c H locs 0 0 (MQ below (kx_Qc kx_cv (fun u _ => Q u) (kx_Wd D cy 0 ad A) A) args s 0 0 A) (F0 m 19 ls []) := by
  obtain ⟨hx, hb, hr, hlocks, hml, hown, hts, hK⟩ := id cx
  intro n
  induction n with
  | zero => intro _ _ _ _ _ _ _ _ h; exact False.elim h
  | succ n ih =>
    intro σ x0 x2 x3 H locs ls hk_x0 h hP hD hS hl
    refine lv_iload_n (pc := 19) hx hb dX5_begin_19 rfl (lv_at hl 2 rfl) ?_
    refine lv_aload_n (pc := 20) hx hb dX5_begin_20 rfl (lv_at hl 0 rfl) ?_
    refine fg5_7 (pc := 21) hx hb hown hts hK hP hk_x0 dX5_begin_21 ?_
    refine lv_icmp_ge (pc := 24) (tgt := 39) hx hb dX5_begin_24 (by decide) (fun c1 => ?_) (fun c1 => ?_)
    · have h := h.1 c1
      exact kx_vret (pc := 39) hx hb hr hlocks hK hP hD hS h dX5_begin_39
    · have h := h.2 c1
      refine lv_aload_n (pc := 27) hx hb dX5_begin_27 rfl (lv_at hl 0 rfl) ?_
      refine lv_iload_n (pc := 28) hx hb dX5_begin_28 rfl (lv_at hl 2 rfl) ?_
      refine lv_iload_n (pc := 29) hx hb dX5_begin_29 rfl (lv_at hl 1 rfl) ?_
      refine kx_iVv (pc := 30) [.int x3, .int x2] hx hb hml hown hts hK hP hD hS (q5_set h) (cw5_30 hts ⟨Nat.le_of_ble_eq_true rfl, Nat.le_of_ble_eq_true rfl⟩) hk_x0 (by decide) rfl rfl hl.1 rfl (Nat.le_of_ble_eq_true rfl) ⟨Nat.le_of_ble_eq_true rfl, Nat.le_of_ble_eq_true rfl⟩ dX5_begin_30 (fun _ σ3 H locs hP hD hS h => ?_)
      refine lv_iinc (pc := 33) (v := (x3 + (1 : Int32))) (lv' := [(3, .int (x3 + (1 : Int32))), (0, .ref (ad x0)), (2, .int x2)]) hx hb dX5_begin_33 hl (k := 2) rfl rfl (by decide) rfl (fun ls hl => ?_)
      refine lv_goto (pc := 36) (tgt := 19) hx hb dX5_begin_36 (by decide) ?_
      exact ih _ _ _ _ _ _ _ hk_x0 h hP hD hS (lv_sub hl [1, 2, 0] rfl)
def p5_begin (σ : kx_St) (x0 : Nat) (x1 : Int32) (x2 : Int32) (Q : kx_St → Prop) : Prop := kx_k 0 x0 = 5 ∧ (pJ9_min_7cf53 x1 (Int32.ofNat (kx_l 0 (kx_r 0 x0 0))) (fun r1 => pJ9_max_7cf53 (0 : Int32) r1 (fun r2 => (fun σ3 : kx_St => ∃ m19, p5_begin_L19 m19 σ3 x0 x2 (0 : Int32) Q) (kx_sI σ x0 1 r2))))
set_option maxHeartbeats 4000000 in
theorem q5_begin {σ : kx_St} {x0 : Nat} {x1 : Int32} {x2 : Int32} {Q : kx_St → Prop} (h : p5_begin σ x0 x1 x2 Q) : Met l yX5_begin (Cond.code yX5_begin cX5_begin 4 none :: kx_big) rm5_begin (va_Pc [.ref (ad x0), .int x1, .int x2] (kx_Wd D cy 0 ad A σ)) (kx_Qc kx_cv (fun u _ => Q u) (kx_Wd D cy 0 ad A) A) 0 0 A := by
  refine kx_head (plainFor_of_name (by decide)) (Nat.le_of_ble_eq_true rfl) ?_
  intro p e s m below meth c ls cx hP hD hS hl
  obtain ⟨hx, hb, hr, hlocks, hml, hown, hts, hK⟩ := id cx
  obtain ⟨hk_x0, h⟩ := h
  have hl : lv_has ls 4 [(0, .ref (ad x0)), (1, .int x1), (2, .int x2)] := hl
  refine lv_aload_n (pc := 0) hx hb dX5_begin_0 rfl (lv_at hl 0 rfl) ?_
  refine lv_iconst (pc := 1) (v := (0 : Int32)) hx hb dX5_begin_1 (by decide) ?_
  refine lv_iload_n (pc := 2) hx hb dX5_begin_2 rfl (lv_at hl 1 rfl) ?_
  refine lv_aload_n (pc := 3) hx hb dX5_begin_3 rfl (lv_at hl 0 rfl) ?_
  refine fg5_19 (pc := 4) hx hb hown hts hK hP hk_x0 rfl dX5_begin_4 ?_
  refine kx_alen (pc := 7) hx hb hK hP (ky_5_0 hk_x0) (by decide) (by decide) dX5_begin_7 ?_
  refine kx_iSi (pc := 8) [.int x1, .int (Int32.ofNat (kx_l 0 (kx_r 0 x0 0)))] hx hb hml hown hts hK hP hD hS (qJ9_min_7cf53 h) (cw5_27 hts ⟨Nat.le_of_ble_eq_true rfl, Nat.le_of_ble_eq_true rfl⟩) rfl hl.1 rfl (Nat.le_of_ble_eq_true rfl) ⟨Nat.le_of_ble_eq_true rfl, Nat.le_of_ble_eq_true rfl⟩ dX5_begin_8 (fun r1 u_ H locs hP hD hS h => ?_)
  obtain ⟨hu_, h⟩ := h
  rw [hu_] at hP hD
  refine kx_iSi (pc := 11) [.int (0 : Int32), .int r1] hx hb hml hown hts hK hP hD hS (qJ9_max_7cf53 h) (cw5_13 hts ⟨Nat.le_of_ble_eq_true rfl, Nat.le_of_ble_eq_true rfl⟩) rfl hl.1 rfl (Nat.le_of_ble_eq_true rfl) ⟨Nat.le_of_ble_eq_true rfl, Nat.le_of_ble_eq_true rfl⟩ dX5_begin_11 (fun r2 u_ H locs hP hD hS h => ?_)
  obtain ⟨hu_, h⟩ := h
  rw [hu_] at hP hD
  refine fp5_7 (pc := 14) hx hb hown hts hK hP hD hS hk_x0 dX5_begin_14 (fun H locs hP hD hS => ?_)
  refine lv_iconst (pc := 17) (v := (0 : Int32)) hx hb dX5_begin_17 (by decide) ?_
  refine lv_istore_n (pc := 18) (lv' := [(3, .int (0 : Int32)), (0, .ref (ad x0)), (1, .int x1), (2, .int x2)]) hx hb dX5_begin_18 rfl hl (by decide) rfl (fun ls hl => ?_)
  obtain ⟨n0, h⟩ := h
  exact w5_begin_L19 cx  n0 _ _ _ _ _ _ _ hk_x0 h hP hD hS (lv_sub hl [1, 3, 0] rfl)
def p1_takeFrom (σ : kx_St) (x0 : Nat) (x1 : Nat) (Q : kx_St → Prop) : Prop := kx_k 0 x0 = 1 ∧ (kx_k 0 x1 = 1 ∧ ((fun σ1 : kx_St => (fun σ2 : kx_St => (fun σ3 : kx_St => (fun σ4 : kx_St => (fun σ5 : kx_St => ((σ5.1 x1 5) = 0 ∨ (σ5.1 x1 5) = 1) ∧ ((fun σ7 : kx_St => Q σ7) (kx_sI σ5 x0 5 (σ5.1 x1 5)))) (kx_sI σ4 x0 4 (σ4.1 x1 4))) (kx_sI σ3 x0 3 (σ3.1 x1 3))) (kx_sI σ2 x0 2 (σ2.1 x1 2))) (kx_sI σ1 x0 1 (σ1.1 x1 1))) (kx_sI σ x0 0 (σ.1 x1 0))))
set_option maxHeartbeats 4000000 in
theorem q1_takeFrom {σ : kx_St} {x0 : Nat} {x1 : Nat} {Q : kx_St → Prop} (h : p1_takeFrom σ x0 x1 Q) : Met l yX1_takeFrom (Cond.code yX1_takeFrom cX1_takeFrom 2 none :: kx_big) rm1_takeFrom (va_Pc [.ref (ad x0), .ref (ad x1)] (kx_Wd D cy 0 ad A σ)) (kx_Qc kx_cv (fun u _ => Q u) (kx_Wd D cy 0 ad A) A) 0 0 A := by
  refine kx_head (plainFor_of_name (by decide)) (Nat.le_of_ble_eq_true rfl) ?_
  intro p e s m below meth c ls cx hP hD hS hl
  obtain ⟨hx, hb, hr, hlocks, hml, hown, hts, hK⟩ := id cx
  obtain ⟨hk_x0, h⟩ := h
  obtain ⟨hk_x1, h⟩ := h
  have hl : lv_has ls 2 [(0, .ref (ad x0)), (1, .ref (ad x1))] := hl
  refine lv_aload_n (pc := 0) hx hb dX1_takeFrom_0 rfl (lv_at hl 0 rfl) ?_
  refine lv_aload_n (pc := 1) hx hb dX1_takeFrom_1 rfl (lv_at hl 1 rfl) ?_
  refine fg1_15 (pc := 2) hx hb hown hts hK hP hk_x1 dX1_takeFrom_2 ?_
  refine fp1_15 (pc := 5) hx hb hown hts hK hP hD hS hk_x0 dX1_takeFrom_5 (fun H locs hP hD hS => ?_)
  refine lv_aload_n (pc := 8) hx hb dX1_takeFrom_8 rfl (lv_at hl 0 rfl) ?_
  refine lv_aload_n (pc := 9) hx hb dX1_takeFrom_9 rfl (lv_at hl 1 rfl) ?_
  refine fg1_18 (pc := 10) hx hb hown hts hK hP hk_x1 dX1_takeFrom_10 ?_
  refine fp1_18 (pc := 13) hx hb hown hts hK hP hD hS hk_x0 dX1_takeFrom_13 (fun H locs hP hD hS => ?_)
  refine lv_aload_n (pc := 16) hx hb dX1_takeFrom_16 rfl (lv_at hl 0 rfl) ?_
  refine lv_aload_n (pc := 17) hx hb dX1_takeFrom_17 rfl (lv_at hl 1 rfl) ?_
  refine fg1_21 (pc := 18) hx hb hown hts hK hP hk_x1 dX1_takeFrom_18 ?_
  refine fp1_21 (pc := 21) hx hb hown hts hK hP hD hS hk_x0 dX1_takeFrom_21 (fun H locs hP hD hS => ?_)
  refine lv_aload_n (pc := 24) hx hb dX1_takeFrom_24 rfl (lv_at hl 0 rfl) ?_
  refine lv_aload_n (pc := 25) hx hb dX1_takeFrom_25 rfl (lv_at hl 1 rfl) ?_
  refine fg1_24 (pc := 26) hx hb hown hts hK hP hk_x1 dX1_takeFrom_26 ?_
  refine fp1_24 (pc := 29) hx hb hown hts hK hP hD hS hk_x0 dX1_takeFrom_29 (fun H locs hP hD hS => ?_)
  refine lv_aload_n (pc := 32) hx hb dX1_takeFrom_32 rfl (lv_at hl 0 rfl) ?_
  refine lv_aload_n (pc := 33) hx hb dX1_takeFrom_33 rfl (lv_at hl 1 rfl) ?_
  refine fg1_9 (pc := 34) hx hb hown hts hK hP hk_x1 dX1_takeFrom_34 ?_
  refine fp1_9 (pc := 37) hx hb hown hts hK hP hD hS hk_x0 dX1_takeFrom_37 (fun H locs hP hD hS => ?_)
  refine lv_aload_n (pc := 40) hx hb dX1_takeFrom_40 rfl (lv_at hl 0 rfl) ?_
  refine lv_aload_n (pc := 41) hx hb dX1_takeFrom_41 rfl (lv_at hl 1 rfl) ?_
  refine fg1_27 (pc := 42) hx hb hown hts hK hP hk_x1 dX1_takeFrom_42 ?_
  obtain ⟨g6, h⟩ := h
  refine fp1_27 (pc := 45) hx hb hown hts hK hP hD hS hk_x0 g6 dX1_takeFrom_45 (fun H locs hP hD hS => ?_)
  exact kx_vret (pc := 48) hx hb hr hlocks hK hP hD hS h dX1_takeFrom_48
def p1_isOf_J25 (σ : kx_St) (x0 : Nat) (x1 : Int32) (Q : Int32 → Prop) : Prop := (¬ x1 = (3 : Int32) → Q (0 : Int32)) ∧ (x1 = (3 : Int32) → (¬ (σ.1 x0 0) = (5 : Int32) → Q (0 : Int32)) ∧ ((σ.1 x0 0) = (5 : Int32) → Q (1 : Int32)))
set_option maxHeartbeats 4000000 in
theorem w1_isOf_J25 {σ : kx_St} {x0 : Nat} {x1 : Int32}  {Q : Int32 → Prop} {H : Heap} {locs : List Loc} {ls : Array Slot} (cx : kx_Cx p s m args meth c D cy RX1 cX1_isOf 2 (some .boolean))  (hk_x0 : kx_k 0 x0 = 1) (h : p1_isOf_J25 σ x0 x1 Q) (hP : va_P D vwCl (kx_ws cy 0 ad σ) H) (hD : va_D A (kx_ws cy 0 ad σ)) (hS : va_S A s.heap H locs) (hl : lv_has ls 2 [(0, .ref (ad x0)), (1, .int x1)]) : W p l e rm1_isOf s m args below meth c H locs 0 0 (MQ below (kx_Qc kx_ci (fun u r => u = σ ∧ Q r) (kx_Wd D cy 0 ad A) A) args s 0 0 A) (F0 m 25 ls []) := by
  obtain ⟨hx, hb, hr, hlocks, hml, hown, hts, hK⟩ := id cx
  refine lv_iload_n (pc := 25) hx hb dX1_isOf_25 rfl (lv_at hl 1 rfl) ?_
  refine lv_iconst (pc := 26) (v := (3 : Int32)) hx hb dX1_isOf_26 (by decide) ?_
  refine lv_icmp_ne (pc := 27) (tgt := 42) hx hb dX1_isOf_27 (by decide) (fun c1 => ?_) (fun c1 => ?_)
  · have h := h.1 c1
    refine lv_iconst (pc := 42) (v := (0 : Int32)) hx hb dX1_isOf_42 (by decide) ?_
    exact kx_zret (pc := 43) hx hb hr hlocks hK hP hD hS (by decide) ⟨rfl, h⟩ dX1_isOf_43
  · have h := h.2 c1
    refine lv_aload_n (pc := 30) hx hb dX1_isOf_30 rfl (lv_at hl 0 rfl) ?_
    refine fg1_15 (pc := 31) hx hb hown hts hK hP hk_x0 dX1_isOf_31 ?_
    refine lv_iconst (pc := 34) (v := (5 : Int32)) hx hb dX1_isOf_34 (by decide) ?_
    refine lv_icmp_ne (pc := 35) (tgt := 42) hx hb dX1_isOf_35 (by decide) (fun c2 => ?_) (fun c2 => ?_)
    · have h := h.1 c2
      refine lv_iconst (pc := 42) (v := (0 : Int32)) hx hb dX1_isOf_42 (by decide) ?_
      exact kx_zret (pc := 43) hx hb hr hlocks hK hP hD hS (by decide) ⟨rfl, h⟩ dX1_isOf_43
    · have h := h.2 c2
      refine lv_iconst (pc := 38) (v := (1 : Int32)) hx hb dX1_isOf_38 (by decide) ?_
      refine lv_goto (pc := 39) (tgt := 43) hx hb dX1_isOf_39 (by decide) ?_
      exact kx_zret (pc := 43) hx hb hr hlocks hK hP hD hS (by decide) ⟨rfl, h⟩ dX1_isOf_43
def p1_isOf (σ : kx_St) (x0 : Nat) (x1 : Int32) (Q : Int32 → Prop) : Prop := kx_k 0 x0 = 1 ∧ ((x1 = 0 → Q (1 : Int32)) ∧ (¬ x1 = 0 → (x1 = (σ.1 x0 0) → Q (1 : Int32)) ∧ (¬ x1 = (σ.1 x0 0) → (¬ x1 = (1 : Int32) → p1_isOf_J25 σ x0 x1 Q) ∧ (x1 = (1 : Int32) → ((σ.1 x0 0) = (4 : Int32) → Q (1 : Int32)) ∧ (¬ (σ.1 x0 0) = (4 : Int32) → p1_isOf_J25 σ x0 x1 Q)))))
set_option maxHeartbeats 4000000 in
theorem q1_isOf {σ : kx_St} {x0 : Nat} {x1 : Int32} {Q : Int32 → Prop} (h : p1_isOf σ x0 x1 Q) : Met l yX1_isOf (Cond.code yX1_isOf cX1_isOf 2 (some .boolean) :: kx_big) rm1_isOf (va_Pc [.ref (ad x0), .int x1] (kx_Wd D cy 0 ad A σ)) (kx_Qc kx_ci (fun u r => u = σ ∧ Q r) (kx_Wd D cy 0 ad A) A) 0 0 A := by
  refine kx_head (plainFor_of_name (by decide)) (Nat.le_of_ble_eq_true rfl) ?_
  intro p e s m below meth c ls cx hP hD hS hl
  obtain ⟨hx, hb, hr, hlocks, hml, hown, hts, hK⟩ := id cx
  obtain ⟨hk_x0, h⟩ := h
  have hl : lv_has ls 2 [(0, .ref (ad x0)), (1, .int x1)] := hl
  refine lv_iload_n (pc := 0) hx hb dX1_isOf_0 rfl (lv_at hl 1 rfl) ?_
  refine lv_if_eq (pc := 1) (tgt := 38) hx hb dX1_isOf_1 (by decide) (fun c1 => ?_) (fun c1 => ?_)
  · have h := h.1 c1
    refine lv_iconst (pc := 38) (v := (1 : Int32)) hx hb dX1_isOf_38 (by decide) ?_
    refine lv_goto (pc := 39) (tgt := 43) hx hb dX1_isOf_39 (by decide) ?_
    exact kx_zret (pc := 43) hx hb hr hlocks hK hP hD hS (by decide) ⟨rfl, h⟩ dX1_isOf_43
  · have h := h.2 c1
    refine lv_iload_n (pc := 4) hx hb dX1_isOf_4 rfl (lv_at hl 1 rfl) ?_
    refine lv_aload_n (pc := 5) hx hb dX1_isOf_5 rfl (lv_at hl 0 rfl) ?_
    refine fg1_15 (pc := 6) hx hb hown hts hK hP hk_x0 dX1_isOf_6 ?_
    refine lv_icmp_eq (pc := 9) (tgt := 38) hx hb dX1_isOf_9 (by decide) (fun c2 => ?_) (fun c2 => ?_)
    · have h := h.1 c2
      refine lv_iconst (pc := 38) (v := (1 : Int32)) hx hb dX1_isOf_38 (by decide) ?_
      refine lv_goto (pc := 39) (tgt := 43) hx hb dX1_isOf_39 (by decide) ?_
      exact kx_zret (pc := 43) hx hb hr hlocks hK hP hD hS (by decide) ⟨rfl, h⟩ dX1_isOf_43
    · have h := h.2 c2
      refine lv_iload_n (pc := 12) hx hb dX1_isOf_12 rfl (lv_at hl 1 rfl) ?_
      refine lv_iconst (pc := 13) (v := (1 : Int32)) hx hb dX1_isOf_13 (by decide) ?_
      refine lv_icmp_ne (pc := 14) (tgt := 25) hx hb dX1_isOf_14 (by decide) (fun c3 => ?_) (fun c3 => ?_)
      · have h := h.1 c3
        exact w1_isOf_J25 cx  hk_x0 h hP hD hS (lv_sub hl [0, 1] rfl)
      · have h := h.2 c3
        refine lv_aload_n (pc := 17) hx hb dX1_isOf_17 rfl (lv_at hl 0 rfl) ?_
        refine fg1_15 (pc := 18) hx hb hown hts hK hP hk_x0 dX1_isOf_18 ?_
        refine lv_iconst (pc := 21) (v := (4 : Int32)) hx hb dX1_isOf_21 (by decide) ?_
        refine lv_icmp_eq (pc := 22) (tgt := 38) hx hb dX1_isOf_22 (by decide) (fun c4 => ?_) (fun c4 => ?_)
        · have h := h.1 c4
          refine lv_iconst (pc := 38) (v := (1 : Int32)) hx hb dX1_isOf_38 (by decide) ?_
          refine lv_goto (pc := 39) (tgt := 43) hx hb dX1_isOf_39 (by decide) ?_
          exact kx_zret (pc := 43) hx hb hr hlocks hK hP hD hS (by decide) ⟨rfl, h⟩ dX1_isOf_43
        · have h := h.2 c4
          exact w1_isOf_J25 cx  hk_x0 h hP hD hS (lv_sub hl [0, 1] rfl)
def pJ6_bitCount_0f7a4 (x0 : Int32) (Q : Int32 → Prop) : Prop := Q ((((((((x0 - (((x0.toUInt32 >>> ((1 : Int32).toUInt32 &&& Int32.toUInt32 31)).toInt32) &&& (1431655765 : Int32))) &&& (858993459 : Int32)) + ((((x0 - (((x0.toUInt32 >>> ((1 : Int32).toUInt32 &&& Int32.toUInt32 31)).toInt32) &&& (1431655765 : Int32))).toUInt32 >>> ((2 : Int32).toUInt32 &&& Int32.toUInt32 31)).toInt32) &&& (858993459 : Int32))) + (((((x0 - (((x0.toUInt32 >>> ((1 : Int32).toUInt32 &&& Int32.toUInt32 31)).toInt32) &&& (1431655765 : Int32))) &&& (858993459 : Int32)) + ((((x0 - (((x0.toUInt32 >>> ((1 : Int32).toUInt32 &&& Int32.toUInt32 31)).toInt32) &&& (1431655765 : Int32))).toUInt32 >>> ((2 : Int32).toUInt32 &&& Int32.toUInt32 31)).toInt32) &&& (858993459 : Int32))).toUInt32 >>> ((4 : Int32).toUInt32 &&& Int32.toUInt32 31)).toInt32)) &&& (252645135 : Int32)) + (((((((x0 - (((x0.toUInt32 >>> ((1 : Int32).toUInt32 &&& Int32.toUInt32 31)).toInt32) &&& (1431655765 : Int32))) &&& (858993459 : Int32)) + ((((x0 - (((x0.toUInt32 >>> ((1 : Int32).toUInt32 &&& Int32.toUInt32 31)).toInt32) &&& (1431655765 : Int32))).toUInt32 >>> ((2 : Int32).toUInt32 &&& Int32.toUInt32 31)).toInt32) &&& (858993459 : Int32))) + (((((x0 - (((x0.toUInt32 >>> ((1 : Int32).toUInt32 &&& Int32.toUInt32 31)).toInt32) &&& (1431655765 : Int32))) &&& (858993459 : Int32)) + ((((x0 - (((x0.toUInt32 >>> ((1 : Int32).toUInt32 &&& Int32.toUInt32 31)).toInt32) &&& (1431655765 : Int32))).toUInt32 >>> ((2 : Int32).toUInt32 &&& Int32.toUInt32 31)).toInt32) &&& (858993459 : Int32))).toUInt32 >>> ((4 : Int32).toUInt32 &&& Int32.toUInt32 31)).toInt32)) &&& (252645135 : Int32)).toUInt32 >>> ((8 : Int32).toUInt32 &&& Int32.toUInt32 31)).toInt32)) + ((((((((x0 - (((x0.toUInt32 >>> ((1 : Int32).toUInt32 &&& Int32.toUInt32 31)).toInt32) &&& (1431655765 : Int32))) &&& (858993459 : Int32)) + ((((x0 - (((x0.toUInt32 >>> ((1 : Int32).toUInt32 &&& Int32.toUInt32 31)).toInt32) &&& (1431655765 : Int32))).toUInt32 >>> ((2 : Int32).toUInt32 &&& Int32.toUInt32 31)).toInt32) &&& (858993459 : Int32))) + (((((x0 - (((x0.toUInt32 >>> ((1 : Int32).toUInt32 &&& Int32.toUInt32 31)).toInt32) &&& (1431655765 : Int32))) &&& (858993459 : Int32)) + ((((x0 - (((x0.toUInt32 >>> ((1 : Int32).toUInt32 &&& Int32.toUInt32 31)).toInt32) &&& (1431655765 : Int32))).toUInt32 >>> ((2 : Int32).toUInt32 &&& Int32.toUInt32 31)).toInt32) &&& (858993459 : Int32))).toUInt32 >>> ((4 : Int32).toUInt32 &&& Int32.toUInt32 31)).toInt32)) &&& (252645135 : Int32)) + (((((((x0 - (((x0.toUInt32 >>> ((1 : Int32).toUInt32 &&& Int32.toUInt32 31)).toInt32) &&& (1431655765 : Int32))) &&& (858993459 : Int32)) + ((((x0 - (((x0.toUInt32 >>> ((1 : Int32).toUInt32 &&& Int32.toUInt32 31)).toInt32) &&& (1431655765 : Int32))).toUInt32 >>> ((2 : Int32).toUInt32 &&& Int32.toUInt32 31)).toInt32) &&& (858993459 : Int32))) + (((((x0 - (((x0.toUInt32 >>> ((1 : Int32).toUInt32 &&& Int32.toUInt32 31)).toInt32) &&& (1431655765 : Int32))) &&& (858993459 : Int32)) + ((((x0 - (((x0.toUInt32 >>> ((1 : Int32).toUInt32 &&& Int32.toUInt32 31)).toInt32) &&& (1431655765 : Int32))).toUInt32 >>> ((2 : Int32).toUInt32 &&& Int32.toUInt32 31)).toInt32) &&& (858993459 : Int32))).toUInt32 >>> ((4 : Int32).toUInt32 &&& Int32.toUInt32 31)).toInt32)) &&& (252645135 : Int32)).toUInt32 >>> ((8 : Int32).toUInt32 &&& Int32.toUInt32 31)).toInt32)).toUInt32 >>> ((16 : Int32).toUInt32 &&& Int32.toUInt32 31)).toInt32)) &&& (63 : Int32))
set_option maxHeartbeats 4000000 in
theorem qJ6_bitCount_0f7a4 {σ : kx_St} {x0 : Int32} {Q : Int32 → Prop} (h : pJ6_bitCount_0f7a4 x0 Q) : Met l yJ6_bitCount_0f7a4 (Cond.code yJ6_bitCount_0f7a4 cJ6_bitCount_0f7a4 1 (some .int) :: kx_big) rmJ6_bitCount_0f7a4 (va_Pc [.int x0] (kx_Wd D cy 0 ad A σ)) (kx_Qc kx_ci (fun u r => u = σ ∧ Q r) (kx_Wd D cy 0 ad A) A) 0 0 A := by
  refine kx_head (by decide +kernel) (Nat.le_of_ble_eq_true rfl) ?_
  intro p e s m below meth c ls cx hP hD hS hl
  obtain ⟨hx, hb, hr, hlocks, hml, hown, hts, hK⟩ := id cx
  have hl : lv_has ls 1 [(0, .int x0)] := hl
  refine lv_iload_n (pc := 0) hx hb dJ6_bitCount_0f7a4_0 rfl (lv_at hl 0 rfl) ?_
  refine lv_iload_n (pc := 1) hx hb dJ6_bitCount_0f7a4_1 rfl (lv_at hl 0 rfl) ?_
  refine lv_iconst (pc := 2) (v := (1 : Int32)) hx hb dJ6_bitCount_0f7a4_2 (by decide) ?_
  refine lv_iushr (pc := 3) (v := ((x0.toUInt32 >>> ((1 : Int32).toUInt32 &&& Int32.toUInt32 31)).toInt32)) hx hb dJ6_bitCount_0f7a4_3 rfl ?_
  refine lv_ldcw (pc := 4) (v := (1431655765 : Int32)) hx hb hown (hts _ tb_574) dJ6_bitCount_0f7a4_4 ?_
  refine lv_iand (pc := 7) hx hb dJ6_bitCount_0f7a4_7 ?_
  refine lv_isub (pc := 8) hx hb dJ6_bitCount_0f7a4_8 ?_
  refine lv_istore_n (pc := 9) (lv' := [(0, .int (x0 - (((x0.toUInt32 >>> ((1 : Int32).toUInt32 &&& Int32.toUInt32 31)).toInt32) &&& (1431655765 : Int32))))]) hx hb dJ6_bitCount_0f7a4_9 rfl hl (by decide) rfl (fun ls hl => ?_)
  refine lv_iload_n (pc := 10) hx hb dJ6_bitCount_0f7a4_10 rfl (lv_at hl 0 rfl) ?_
  refine lv_ldcw (pc := 11) (v := (858993459 : Int32)) hx hb hown (hts _ tb_575) dJ6_bitCount_0f7a4_11 ?_
  refine lv_iand (pc := 14) hx hb dJ6_bitCount_0f7a4_14 ?_
  refine lv_iload_n (pc := 15) hx hb dJ6_bitCount_0f7a4_15 rfl (lv_at hl 0 rfl) ?_
  refine lv_iconst (pc := 16) (v := (2 : Int32)) hx hb dJ6_bitCount_0f7a4_16 (by decide) ?_
  refine lv_iushr (pc := 17) (v := (((x0 - (((x0.toUInt32 >>> ((1 : Int32).toUInt32 &&& Int32.toUInt32 31)).toInt32) &&& (1431655765 : Int32))).toUInt32 >>> ((2 : Int32).toUInt32 &&& Int32.toUInt32 31)).toInt32)) hx hb dJ6_bitCount_0f7a4_17 rfl ?_
  refine lv_ldcw (pc := 18) (v := (858993459 : Int32)) hx hb hown (hts _ tb_575) dJ6_bitCount_0f7a4_18 ?_
  refine lv_iand (pc := 21) hx hb dJ6_bitCount_0f7a4_21 ?_
  refine lv_iadd (pc := 22) hx hb dJ6_bitCount_0f7a4_22 ?_
  refine lv_istore_n (pc := 23) (lv' := [(0, .int (((x0 - (((x0.toUInt32 >>> ((1 : Int32).toUInt32 &&& Int32.toUInt32 31)).toInt32) &&& (1431655765 : Int32))) &&& (858993459 : Int32)) + ((((x0 - (((x0.toUInt32 >>> ((1 : Int32).toUInt32 &&& Int32.toUInt32 31)).toInt32) &&& (1431655765 : Int32))).toUInt32 >>> ((2 : Int32).toUInt32 &&& Int32.toUInt32 31)).toInt32) &&& (858993459 : Int32))))]) hx hb dJ6_bitCount_0f7a4_23 rfl hl (by decide) rfl (fun ls hl => ?_)
  refine lv_iload_n (pc := 24) hx hb dJ6_bitCount_0f7a4_24 rfl (lv_at hl 0 rfl) ?_
  refine lv_iload_n (pc := 25) hx hb dJ6_bitCount_0f7a4_25 rfl (lv_at hl 0 rfl) ?_
  refine lv_iconst (pc := 26) (v := (4 : Int32)) hx hb dJ6_bitCount_0f7a4_26 (by decide) ?_
  refine lv_iushr (pc := 27) (v := (((((x0 - (((x0.toUInt32 >>> ((1 : Int32).toUInt32 &&& Int32.toUInt32 31)).toInt32) &&& (1431655765 : Int32))) &&& (858993459 : Int32)) + ((((x0 - (((x0.toUInt32 >>> ((1 : Int32).toUInt32 &&& Int32.toUInt32 31)).toInt32) &&& (1431655765 : Int32))).toUInt32 >>> ((2 : Int32).toUInt32 &&& Int32.toUInt32 31)).toInt32) &&& (858993459 : Int32))).toUInt32 >>> ((4 : Int32).toUInt32 &&& Int32.toUInt32 31)).toInt32)) hx hb dJ6_bitCount_0f7a4_27 rfl ?_
  refine lv_iadd (pc := 28) hx hb dJ6_bitCount_0f7a4_28 ?_
  refine lv_ldcw (pc := 29) (v := (252645135 : Int32)) hx hb hown (hts _ tb_576) dJ6_bitCount_0f7a4_29 ?_
  refine lv_iand (pc := 32) hx hb dJ6_bitCount_0f7a4_32 ?_
  refine lv_istore_n (pc := 33) (lv' := [(0, .int (((((x0 - (((x0.toUInt32 >>> ((1 : Int32).toUInt32 &&& Int32.toUInt32 31)).toInt32) &&& (1431655765 : Int32))) &&& (858993459 : Int32)) + ((((x0 - (((x0.toUInt32 >>> ((1 : Int32).toUInt32 &&& Int32.toUInt32 31)).toInt32) &&& (1431655765 : Int32))).toUInt32 >>> ((2 : Int32).toUInt32 &&& Int32.toUInt32 31)).toInt32) &&& (858993459 : Int32))) + (((((x0 - (((x0.toUInt32 >>> ((1 : Int32).toUInt32 &&& Int32.toUInt32 31)).toInt32) &&& (1431655765 : Int32))) &&& (858993459 : Int32)) + ((((x0 - (((x0.toUInt32 >>> ((1 : Int32).toUInt32 &&& Int32.toUInt32 31)).toInt32) &&& (1431655765 : Int32))).toUInt32 >>> ((2 : Int32).toUInt32 &&& Int32.toUInt32 31)).toInt32) &&& (858993459 : Int32))).toUInt32 >>> ((4 : Int32).toUInt32 &&& Int32.toUInt32 31)).toInt32)) &&& (252645135 : Int32)))]) hx hb dJ6_bitCount_0f7a4_33 rfl hl (by decide) rfl (fun ls hl => ?_)
  refine lv_iload_n (pc := 34) hx hb dJ6_bitCount_0f7a4_34 rfl (lv_at hl 0 rfl) ?_
  refine lv_iload_n (pc := 35) hx hb dJ6_bitCount_0f7a4_35 rfl (lv_at hl 0 rfl) ?_
  refine lv_bipush (pc := 36) (v := (8 : Int32)) hx hb dJ6_bitCount_0f7a4_36 (by decide) ?_
  refine lv_iushr (pc := 38) (v := (((((((x0 - (((x0.toUInt32 >>> ((1 : Int32).toUInt32 &&& Int32.toUInt32 31)).toInt32) &&& (1431655765 : Int32))) &&& (858993459 : Int32)) + ((((x0 - (((x0.toUInt32 >>> ((1 : Int32).toUInt32 &&& Int32.toUInt32 31)).toInt32) &&& (1431655765 : Int32))).toUInt32 >>> ((2 : Int32).toUInt32 &&& Int32.toUInt32 31)).toInt32) &&& (858993459 : Int32))) + (((((x0 - (((x0.toUInt32 >>> ((1 : Int32).toUInt32 &&& Int32.toUInt32 31)).toInt32) &&& (1431655765 : Int32))) &&& (858993459 : Int32)) + ((((x0 - (((x0.toUInt32 >>> ((1 : Int32).toUInt32 &&& Int32.toUInt32 31)).toInt32) &&& (1431655765 : Int32))).toUInt32 >>> ((2 : Int32).toUInt32 &&& Int32.toUInt32 31)).toInt32) &&& (858993459 : Int32))).toUInt32 >>> ((4 : Int32).toUInt32 &&& Int32.toUInt32 31)).toInt32)) &&& (252645135 : Int32)).toUInt32 >>> ((8 : Int32).toUInt32 &&& Int32.toUInt32 31)).toInt32)) hx hb dJ6_bitCount_0f7a4_38 rfl ?_
  refine lv_iadd (pc := 39) hx hb dJ6_bitCount_0f7a4_39 ?_
  refine lv_istore_n (pc := 40) (lv' := [(0, .int ((((((x0 - (((x0.toUInt32 >>> ((1 : Int32).toUInt32 &&& Int32.toUInt32 31)).toInt32) &&& (1431655765 : Int32))) &&& (858993459 : Int32)) + ((((x0 - (((x0.toUInt32 >>> ((1 : Int32).toUInt32 &&& Int32.toUInt32 31)).toInt32) &&& (1431655765 : Int32))).toUInt32 >>> ((2 : Int32).toUInt32 &&& Int32.toUInt32 31)).toInt32) &&& (858993459 : Int32))) + (((((x0 - (((x0.toUInt32 >>> ((1 : Int32).toUInt32 &&& Int32.toUInt32 31)).toInt32) &&& (1431655765 : Int32))) &&& (858993459 : Int32)) + ((((x0 - (((x0.toUInt32 >>> ((1 : Int32).toUInt32 &&& Int32.toUInt32 31)).toInt32) &&& (1431655765 : Int32))).toUInt32 >>> ((2 : Int32).toUInt32 &&& Int32.toUInt32 31)).toInt32) &&& (858993459 : Int32))).toUInt32 >>> ((4 : Int32).toUInt32 &&& Int32.toUInt32 31)).toInt32)) &&& (252645135 : Int32)) + (((((((x0 - (((x0.toUInt32 >>> ((1 : Int32).toUInt32 &&& Int32.toUInt32 31)).toInt32) &&& (1431655765 : Int32))) &&& (858993459 : Int32)) + ((((x0 - (((x0.toUInt32 >>> ((1 : Int32).toUInt32 &&& Int32.toUInt32 31)).toInt32) &&& (1431655765 : Int32))).toUInt32 >>> ((2 : Int32).toUInt32 &&& Int32.toUInt32 31)).toInt32) &&& (858993459 : Int32))) + (((((x0 - (((x0.toUInt32 >>> ((1 : Int32).toUInt32 &&& Int32.toUInt32 31)).toInt32) &&& (1431655765 : Int32))) &&& (858993459 : Int32)) + ((((x0 - (((x0.toUInt32 >>> ((1 : Int32).toUInt32 &&& Int32.toUInt32 31)).toInt32) &&& (1431655765 : Int32))).toUInt32 >>> ((2 : Int32).toUInt32 &&& Int32.toUInt32 31)).toInt32) &&& (858993459 : Int32))).toUInt32 >>> ((4 : Int32).toUInt32 &&& Int32.toUInt32 31)).toInt32)) &&& (252645135 : Int32)).toUInt32 >>> ((8 : Int32).toUInt32 &&& Int32.toUInt32 31)).toInt32)))]) hx hb dJ6_bitCount_0f7a4_40 rfl hl (by decide) rfl (fun ls hl => ?_)
  refine lv_iload_n (pc := 41) hx hb dJ6_bitCount_0f7a4_41 rfl (lv_at hl 0 rfl) ?_
  refine lv_iload_n (pc := 42) hx hb dJ6_bitCount_0f7a4_42 rfl (lv_at hl 0 rfl) ?_
  refine lv_bipush (pc := 43) (v := (16 : Int32)) hx hb dJ6_bitCount_0f7a4_43 (by decide) ?_
  refine lv_iushr (pc := 45) (v := ((((((((x0 - (((x0.toUInt32 >>> ((1 : Int32).toUInt32 &&& Int32.toUInt32 31)).toInt32) &&& (1431655765 : Int32))) &&& (858993459 : Int32)) + ((((x0 - (((x0.toUInt32 >>> ((1 : Int32).toUInt32 &&& Int32.toUInt32 31)).toInt32) &&& (1431655765 : Int32))).toUInt32 >>> ((2 : Int32).toUInt32 &&& Int32.toUInt32 31)).toInt32) &&& (858993459 : Int32))) + (((((x0 - (((x0.toUInt32 >>> ((1 : Int32).toUInt32 &&& Int32.toUInt32 31)).toInt32) &&& (1431655765 : Int32))) &&& (858993459 : Int32)) + ((((x0 - (((x0.toUInt32 >>> ((1 : Int32).toUInt32 &&& Int32.toUInt32 31)).toInt32) &&& (1431655765 : Int32))).toUInt32 >>> ((2 : Int32).toUInt32 &&& Int32.toUInt32 31)).toInt32) &&& (858993459 : Int32))).toUInt32 >>> ((4 : Int32).toUInt32 &&& Int32.toUInt32 31)).toInt32)) &&& (252645135 : Int32)) + (((((((x0 - (((x0.toUInt32 >>> ((1 : Int32).toUInt32 &&& Int32.toUInt32 31)).toInt32) &&& (1431655765 : Int32))) &&& (858993459 : Int32)) + ((((x0 - (((x0.toUInt32 >>> ((1 : Int32).toUInt32 &&& Int32.toUInt32 31)).toInt32) &&& (1431655765 : Int32))).toUInt32 >>> ((2 : Int32).toUInt32 &&& Int32.toUInt32 31)).toInt32) &&& (858993459 : Int32))) + (((((x0 - (((x0.toUInt32 >>> ((1 : Int32).toUInt32 &&& Int32.toUInt32 31)).toInt32) &&& (1431655765 : Int32))) &&& (858993459 : Int32)) + ((((x0 - (((x0.toUInt32 >>> ((1 : Int32).toUInt32 &&& Int32.toUInt32 31)).toInt32) &&& (1431655765 : Int32))).toUInt32 >>> ((2 : Int32).toUInt32 &&& Int32.toUInt32 31)).toInt32) &&& (858993459 : Int32))).toUInt32 >>> ((4 : Int32).toUInt32 &&& Int32.toUInt32 31)).toInt32)) &&& (252645135 : Int32)).toUInt32 >>> ((8 : Int32).toUInt32 &&& Int32.toUInt32 31)).toInt32)).toUInt32 >>> ((16 : Int32).toUInt32 &&& Int32.toUInt32 31)).toInt32)) hx hb dJ6_bitCount_0f7a4_45 rfl ?_
  refine lv_iadd (pc := 46) hx hb dJ6_bitCount_0f7a4_46 ?_
  refine lv_istore_n (pc := 47) (lv' := [(0, .int (((((((x0 - (((x0.toUInt32 >>> ((1 : Int32).toUInt32 &&& Int32.toUInt32 31)).toInt32) &&& (1431655765 : Int32))) &&& (858993459 : Int32)) + ((((x0 - (((x0.toUInt32 >>> ((1 : Int32).toUInt32 &&& Int32.toUInt32 31)).toInt32) &&& (1431655765 : Int32))).toUInt32 >>> ((2 : Int32).toUInt32 &&& Int32.toUInt32 31)).toInt32) &&& (858993459 : Int32))) + (((((x0 - (((x0.toUInt32 >>> ((1 : Int32).toUInt32 &&& Int32.toUInt32 31)).toInt32) &&& (1431655765 : Int32))) &&& (858993459 : Int32)) + ((((x0 - (((x0.toUInt32 >>> ((1 : Int32).toUInt32 &&& Int32.toUInt32 31)).toInt32) &&& (1431655765 : Int32))).toUInt32 >>> ((2 : Int32).toUInt32 &&& Int32.toUInt32 31)).toInt32) &&& (858993459 : Int32))).toUInt32 >>> ((4 : Int32).toUInt32 &&& Int32.toUInt32 31)).toInt32)) &&& (252645135 : Int32)) + (((((((x0 - (((x0.toUInt32 >>> ((1 : Int32).toUInt32 &&& Int32.toUInt32 31)).toInt32) &&& (1431655765 : Int32))) &&& (858993459 : Int32)) + ((((x0 - (((x0.toUInt32 >>> ((1 : Int32).toUInt32 &&& Int32.toUInt32 31)).toInt32) &&& (1431655765 : Int32))).toUInt32 >>> ((2 : Int32).toUInt32 &&& Int32.toUInt32 31)).toInt32) &&& (858993459 : Int32))) + (((((x0 - (((x0.toUInt32 >>> ((1 : Int32).toUInt32 &&& Int32.toUInt32 31)).toInt32) &&& (1431655765 : Int32))) &&& (858993459 : Int32)) + ((((x0 - (((x0.toUInt32 >>> ((1 : Int32).toUInt32 &&& Int32.toUInt32 31)).toInt32) &&& (1431655765 : Int32))).toUInt32 >>> ((2 : Int32).toUInt32 &&& Int32.toUInt32 31)).toInt32) &&& (858993459 : Int32))).toUInt32 >>> ((4 : Int32).toUInt32 &&& Int32.toUInt32 31)).toInt32)) &&& (252645135 : Int32)).toUInt32 >>> ((8 : Int32).toUInt32 &&& Int32.toUInt32 31)).toInt32)) + ((((((((x0 - (((x0.toUInt32 >>> ((1 : Int32).toUInt32 &&& Int32.toUInt32 31)).toInt32) &&& (1431655765 : Int32))) &&& (858993459 : Int32)) + ((((x0 - (((x0.toUInt32 >>> ((1 : Int32).toUInt32 &&& Int32.toUInt32 31)).toInt32) &&& (1431655765 : Int32))).toUInt32 >>> ((2 : Int32).toUInt32 &&& Int32.toUInt32 31)).toInt32) &&& (858993459 : Int32))) + (((((x0 - (((x0.toUInt32 >>> ((1 : Int32).toUInt32 &&& Int32.toUInt32 31)).toInt32) &&& (1431655765 : Int32))) &&& (858993459 : Int32)) + ((((x0 - (((x0.toUInt32 >>> ((1 : Int32).toUInt32 &&& Int32.toUInt32 31)).toInt32) &&& (1431655765 : Int32))).toUInt32 >>> ((2 : Int32).toUInt32 &&& Int32.toUInt32 31)).toInt32) &&& (858993459 : Int32))).toUInt32 >>> ((4 : Int32).toUInt32 &&& Int32.toUInt32 31)).toInt32)) &&& (252645135 : Int32)) + (((((((x0 - (((x0.toUInt32 >>> ((1 : Int32).toUInt32 &&& Int32.toUInt32 31)).toInt32) &&& (1431655765 : Int32))) &&& (858993459 : Int32)) + ((((x0 - (((x0.toUInt32 >>> ((1 : Int32).toUInt32 &&& Int32.toUInt32 31)).toInt32) &&& (1431655765 : Int32))).toUInt32 >>> ((2 : Int32).toUInt32 &&& Int32.toUInt32 31)).toInt32) &&& (858993459 : Int32))) + (((((x0 - (((x0.toUInt32 >>> ((1 : Int32).toUInt32 &&& Int32.toUInt32 31)).toInt32) &&& (1431655765 : Int32))) &&& (858993459 : Int32)) + ((((x0 - (((x0.toUInt32 >>> ((1 : Int32).toUInt32 &&& Int32.toUInt32 31)).toInt32) &&& (1431655765 : Int32))).toUInt32 >>> ((2 : Int32).toUInt32 &&& Int32.toUInt32 31)).toInt32) &&& (858993459 : Int32))).toUInt32 >>> ((4 : Int32).toUInt32 &&& Int32.toUInt32 31)).toInt32)) &&& (252645135 : Int32)).toUInt32 >>> ((8 : Int32).toUInt32 &&& Int32.toUInt32 31)).toInt32)).toUInt32 >>> ((16 : Int32).toUInt32 &&& Int32.toUInt32 31)).toInt32)))]) hx hb dJ6_bitCount_0f7a4_47 rfl hl (by decide) rfl (fun ls hl => ?_)
  refine lv_iload_n (pc := 48) hx hb dJ6_bitCount_0f7a4_48 rfl (lv_at hl 0 rfl) ?_
  refine lv_bipush (pc := 49) (v := (63 : Int32)) hx hb dJ6_bitCount_0f7a4_49 (by decide) ?_
  refine lv_iand (pc := 51) hx hb dJ6_bitCount_0f7a4_51 ?_
  exact kx_iret (pc := 52) hx hb hr hlocks hK hP hD hS ⟨rfl, h⟩ dJ6_bitCount_0f7a4_52
def p5_get (σ : kx_St) (x0 : Nat) (x1 : Int32) (Q : Int32 → Prop) : Prop := kx_k 0 x0 = 5 ∧ (p5_holds σ x0 x1 (fun r1 => (r1 = 0 → Q (0 : Int32)) ∧ (¬ r1 = 0 → vp_in x1 (kx_l 0 (kx_r 0 x0 0)) ∧ (Q (σ.1 (kx_r 0 x0 0) x1.toNatClampNeg)))))
set_option maxHeartbeats 4000000 in
theorem q5_get {σ : kx_St} {x0 : Nat} {x1 : Int32} {Q : Int32 → Prop} (h : p5_get σ x0 x1 Q) : Met l yX5_get (Cond.code yX5_get cX5_get 2 (some .int) :: kx_big) rm5_get (va_Pc [.ref (ad x0), .int x1] (kx_Wd D cy 0 ad A σ)) (kx_Qc kx_ci (fun u r => u = σ ∧ Q r) (kx_Wd D cy 0 ad A) A) 0 0 A := by
  refine kx_head (plainFor_of_name (by decide)) (Nat.le_of_ble_eq_true rfl) ?_
  intro p e s m below meth c ls cx hP hD hS hl
  obtain ⟨hx, hb, hr, hlocks, hml, hown, hts, hK⟩ := id cx
  obtain ⟨hk_x0, h⟩ := h
  have hl : lv_has ls 2 [(0, .ref (ad x0)), (1, .int x1)] := hl
  refine lv_aload_n (pc := 0) hx hb dX5_get_0 rfl (lv_at hl 0 rfl) ?_
  refine lv_iload_n (pc := 1) hx hb dX5_get_1 rfl (lv_at hl 1 rfl) ?_
  refine kx_iVi (pc := 2) [.int x1] hx hb hml hown hts hK hP hD hS (q5_holds h) (cw5_23 hts ⟨Nat.le_of_ble_eq_true rfl, Nat.le_of_ble_eq_true rfl⟩) hk_x0 (by decide) rfl rfl hl.1 rfl (Nat.le_of_ble_eq_true rfl) ⟨Nat.le_of_ble_eq_true rfl, Nat.le_of_ble_eq_true rfl⟩ dX5_get_2 (fun r1 u_ H locs hP hD hS h => ?_)
  obtain ⟨hu_, h⟩ := h
  rw [hu_] at hP hD
  refine lv_if_eq (pc := 5) (tgt := 17) hx hb dX5_get_5 (by decide) (fun c2 => ?_) (fun c2 => ?_)
  · have h := h.1 c2
    refine lv_iconst (pc := 17) (v := (0 : Int32)) hx hb dX5_get_17 (by decide) ?_
    exact kx_iret (pc := 18) hx hb hr hlocks hK hP hD hS ⟨rfl, h⟩ dX5_get_18
  · have h := h.2 c2
    refine lv_aload_n (pc := 8) hx hb dX5_get_8 rfl (lv_at hl 0 rfl) ?_
    refine fg5_19 (pc := 9) hx hb hown hts hK hP hk_x0 rfl dX5_get_9 ?_
    refine lv_iload_n (pc := 12) hx hb dX5_get_12 rfl (lv_at hl 1 rfl) ?_
    obtain ⟨g3, h⟩ := h
    refine kx_iald (pc := 13) hx hb hK hP (ky_5_0 hk_x0) g3 dX5_get_13 ?_
    refine lv_goto (pc := 14) (tgt := 18) hx hb dX5_get_14 (by decide) ?_
    exact kx_iret (pc := 18) hx hb hr hlocks hK hP hD hS ⟨rfl, h⟩ dX5_get_18
def p5_isThere (σ : kx_St) (x0 : Nat) (Q : Int32 → Prop) : Prop := kx_k 0 x0 = 5 ∧ (((σ.1 x0 1) < 0 → Q (0 : Int32)) ∧ (¬ (σ.1 x0 1) < 0 → Q (1 : Int32)))
set_option maxHeartbeats 4000000 in
theorem q5_isThere {σ : kx_St} {x0 : Nat} {Q : Int32 → Prop} (h : p5_isThere σ x0 Q) : Met l yX5_isThere (Cond.code yX5_isThere cX5_isThere 1 (some .boolean) :: kx_big) rm5_isThere (va_Pc [.ref (ad x0)] (kx_Wd D cy 0 ad A σ)) (kx_Qc kx_ci (fun u r => u = σ ∧ Q r) (kx_Wd D cy 0 ad A) A) 0 0 A := by
  refine kx_head (plainFor_of_name (by decide)) (Nat.le_of_ble_eq_true rfl) ?_
  intro p e s m below meth c ls cx hP hD hS hl
  obtain ⟨hx, hb, hr, hlocks, hml, hown, hts, hK⟩ := id cx
  obtain ⟨hk_x0, h⟩ := h
  have hl : lv_has ls 1 [(0, .ref (ad x0))] := hl
  refine lv_aload_n (pc := 0) hx hb dX5_isThere_0 rfl (lv_at hl 0 rfl) ?_
  refine fg5_7 (pc := 1) hx hb hown hts hK hP hk_x0 dX5_isThere_1 ?_
  refine lv_if_lt (pc := 4) (tgt := 11) hx hb dX5_isThere_4 (by decide) (fun c1 => ?_) (fun c1 => ?_)
  · have h := h.1 c1
    refine lv_iconst (pc := 11) (v := (0 : Int32)) hx hb dX5_isThere_11 (by decide) ?_
    exact kx_zret (pc := 12) hx hb hr hlocks hK hP hD hS (by decide) ⟨rfl, h⟩ dX5_isThere_12
  · have h := h.2 c1
    refine lv_iconst (pc := 7) (v := (1 : Int32)) hx hb dX5_isThere_7 (by decide) ?_
    refine lv_goto (pc := 8) (tgt := 12) hx hb dX5_isThere_8 (by decide) ?_
    exact kx_zret (pc := 12) hx hb hr hlocks hK hP hD hS (by decide) ⟨rfl, h⟩ dX5_isThere_12
def p5_spans (σ : kx_St) (x0 : Nat) (x1 : Int32) (x2 : Int32) (Q : Int32 → Prop) : Prop := kx_k 0 x0 = 5 ∧ ((x1 < 0 → Q (0 : Int32)) ∧ (¬ x1 < 0 → (x2 < 0 → Q (0 : Int32)) ∧ (¬ x2 < 0 → ((σ.1 x0 1) < x1 → Q (0 : Int32)) ∧ (¬ (σ.1 x0 1) < x1 → (((σ.1 x0 1) - x1) < x2 → Q (0 : Int32)) ∧ (¬ ((σ.1 x0 1) - x1) < x2 → Q (1 : Int32))))))
set_option maxHeartbeats 4000000 in
theorem q5_spans {σ : kx_St} {x0 : Nat} {x1 : Int32} {x2 : Int32} {Q : Int32 → Prop} (h : p5_spans σ x0 x1 x2 Q) : Met l yX5_spans (Cond.code yX5_spans cX5_spans 3 (some .boolean) :: kx_big) rm5_spans (va_Pc [.ref (ad x0), .int x1, .int x2] (kx_Wd D cy 0 ad A σ)) (kx_Qc kx_ci (fun u r => u = σ ∧ Q r) (kx_Wd D cy 0 ad A) A) 0 0 A := by
  refine kx_head (plainFor_of_name (by decide)) (Nat.le_of_ble_eq_true rfl) ?_
  intro p e s m below meth c ls cx hP hD hS hl
  obtain ⟨hx, hb, hr, hlocks, hml, hown, hts, hK⟩ := id cx
  obtain ⟨hk_x0, h⟩ := h
  have hl : lv_has ls 3 [(0, .ref (ad x0)), (1, .int x1), (2, .int x2)] := hl
  refine lv_iload_n (pc := 0) hx hb dX5_spans_0 rfl (lv_at hl 1 rfl) ?_
  refine lv_if_lt (pc := 1) (tgt := 30) hx hb dX5_spans_1 (by decide) (fun c1 => ?_) (fun c1 => ?_)
  · have h := h.1 c1
    refine lv_iconst (pc := 30) (v := (0 : Int32)) hx hb dX5_spans_30 (by decide) ?_
    exact kx_zret (pc := 31) hx hb hr hlocks hK hP hD hS (by decide) ⟨rfl, h⟩ dX5_spans_31
  · have h := h.2 c1
    refine lv_iload_n (pc := 4) hx hb dX5_spans_4 rfl (lv_at hl 2 rfl) ?_
    refine lv_if_lt (pc := 5) (tgt := 30) hx hb dX5_spans_5 (by decide) (fun c2 => ?_) (fun c2 => ?_)
    · have h := h.1 c2
      refine lv_iconst (pc := 30) (v := (0 : Int32)) hx hb dX5_spans_30 (by decide) ?_
      exact kx_zret (pc := 31) hx hb hr hlocks hK hP hD hS (by decide) ⟨rfl, h⟩ dX5_spans_31
    · have h := h.2 c2
      refine lv_iload_n (pc := 8) hx hb dX5_spans_8 rfl (lv_at hl 1 rfl) ?_
      refine lv_aload_n (pc := 9) hx hb dX5_spans_9 rfl (lv_at hl 0 rfl) ?_
      refine fg5_7 (pc := 10) hx hb hown hts hK hP hk_x0 dX5_spans_10 ?_
      refine lv_icmp_gt (pc := 13) (tgt := 30) hx hb dX5_spans_13 (by decide) (fun c3 => ?_) (fun c3 => ?_)
      · have h := h.1 c3
        refine lv_iconst (pc := 30) (v := (0 : Int32)) hx hb dX5_spans_30 (by decide) ?_
        exact kx_zret (pc := 31) hx hb hr hlocks hK hP hD hS (by decide) ⟨rfl, h⟩ dX5_spans_31
      · have h := h.2 c3
        refine lv_iload_n (pc := 16) hx hb dX5_spans_16 rfl (lv_at hl 2 rfl) ?_
        refine lv_aload_n (pc := 17) hx hb dX5_spans_17 rfl (lv_at hl 0 rfl) ?_
        refine fg5_7 (pc := 18) hx hb hown hts hK hP hk_x0 dX5_spans_18 ?_
        refine lv_iload_n (pc := 21) hx hb dX5_spans_21 rfl (lv_at hl 1 rfl) ?_
        refine lv_isub (pc := 22) hx hb dX5_spans_22 ?_
        refine lv_icmp_gt (pc := 23) (tgt := 30) hx hb dX5_spans_23 (by decide) (fun c4 => ?_) (fun c4 => ?_)
        · have h := h.1 c4
          refine lv_iconst (pc := 30) (v := (0 : Int32)) hx hb dX5_spans_30 (by decide) ?_
          exact kx_zret (pc := 31) hx hb hr hlocks hK hP hD hS (by decide) ⟨rfl, h⟩ dX5_spans_31
        · have h := h.2 c4
          refine lv_iconst (pc := 26) (v := (1 : Int32)) hx hb dX5_spans_26 (by decide) ?_
          refine lv_goto (pc := 27) (tgt := 31) hx hb dX5_spans_27 (by decide) ?_
          exact kx_zret (pc := 31) hx hb hr hlocks hK hP hD hS (by decide) ⟨rfl, h⟩ dX5_spans_31
def p5_remove (σ : kx_St) (x0 : Nat) (Q : kx_St → Prop) : Prop := kx_k 0 x0 = 5 ∧ ((fun σ1 : kx_St => Q σ1) (kx_sI σ x0 1 (-1 : Int32)))
set_option maxHeartbeats 4000000 in
theorem q5_remove {σ : kx_St} {x0 : Nat} {Q : kx_St → Prop} (h : p5_remove σ x0 Q) : Met l yX5_remove (Cond.code yX5_remove cX5_remove 1 none :: kx_big) rm5_remove (va_Pc [.ref (ad x0)] (kx_Wd D cy 0 ad A σ)) (kx_Qc kx_cv (fun u _ => Q u) (kx_Wd D cy 0 ad A) A) 0 0 A := by
  refine kx_head (plainFor_of_name (by decide)) (Nat.le_of_ble_eq_true rfl) ?_
  intro p e s m below meth c ls cx hP hD hS hl
  obtain ⟨hx, hb, hr, hlocks, hml, hown, hts, hK⟩ := id cx
  obtain ⟨hk_x0, h⟩ := h
  have hl : lv_has ls 1 [(0, .ref (ad x0))] := hl
  refine lv_aload_n (pc := 0) hx hb dX5_remove_0 rfl (lv_at hl 0 rfl) ?_
  refine lv_iconst (pc := 1) (v := (-1 : Int32)) hx hb dX5_remove_1 (by decide) ?_
  refine fp5_7 (pc := 2) hx hb hown hts hK hP hD hS hk_x0 dX5_remove_2 (fun H locs hP hD hS => ?_)
  exact kx_vret (pc := 5) hx hb hr hlocks hK hP hD hS h dX5_remove_5
end
