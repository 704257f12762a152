section
variable {p : Program} {l : Launch} {e : Env} {s : State} {m : MethodId} {args : Array Value} {below : List Frame} {meth : Method} {c : Code} {D : va_G} {cy : Nat → ClassId} {ad : Nat → Nat} {A : Nat → Prop}

def p6_test_L80 : Nat → kx_St → Nat → Int32 → Int32 → Int32 → Int32 → (kx_St → Int32 → Prop) → Prop
  | 0, _, _, _, _, _, _, _ => False
  | n + 1, σ, x3, x6, x7, x8, x9, Q => ((9 : Int32) < x9 → (fun σ2 : kx_St => Q σ2 x7) (kx_sI σ 0 10 x8)) ∧ (¬ (9 : Int32) < x9 → p6_greatestPart σ x3 x6 x9 (fun r3 => (x8 ≤ r3 → p6_test_L80 n σ x3 x6 x7 x8 (x9 + (1 : Int32)) Q) ∧ (¬ x8 ≤ r3 → p6_test_L80 n σ x3 x6 x9 r3 (x9 + (1 : Int32)) Q)))
set_option maxHeartbeats 4000000 in
theorem w6_test_L80  {Q : kx_St → Int32 → Prop} (cx : kx_Cx p s m args meth c D cy RX6 cX6_test 11 (some .int))  : ∀ (n : Nat) (σ : kx_St) (x3 : Nat) (x6 : Int32) (x7 : Int32) (x8 : Int32) (x9 : Int32) (H : Heap) (locs : List Loc) (ls : Array Slot), kx_k 0 x3 = 1 → p6_test_L80 n σ x3 x6 x7 x8 x9 Q → va_P D vwCl (kx_ws cy 0 ad σ) H → va_D A (kx_ws cy 0 ad σ) → va_S A s.heap H locs → lv_has ls 11 [(0, .ref (ad 0)), (3, .ref (ad x3)), (6, .int x6), (7, .int x7), (8, .int x8), (9, .int x9)] → W p l e rm6_test s m args below meth c H locs 0 0 (MQ below (kx_Qc kx_ci Q (kx_Wd D cy 0 ad A) A) args s 0 0 A) (F0 m 80 ls []) := by
  obtain ⟨hx, hb, hr, hlocks, hml, hown, hts, hK⟩ := id cx
  intro n
  induction n with
  | zero => intro _ _ _ _ _ _ _ _ _ _ h; exact False.elim h
  | succ n ih =>
    intro σ x3 x6 x7 x8 x9 H locs ls hk_x3 h hP hD hS hl
    refine lv_iload (pc := 80) hx hb dX6_test_80 (lv_at hl 5 rfl) ?_
    refine lv_bipush (pc := 82) (v := (9 : Int32)) hx hb dX6_test_82 (by decide) ?_
    refine lv_icmp_gt (pc := 84) (tgt := 118) hx hb dX6_test_84 (by decide) (fun c1 => ?_) (fun c1 => ?_)
    · have h := h.1 c1
      refine lv_aload_n (pc := 118) hx hb dX6_test_118 rfl (lv_at hl 0 rfl) ?_
      refine lv_iload (pc := 119) hx hb dX6_test_119 (lv_at hl 4 rfl) ?_
      refine fp6_61 (pc := 121) hx hb hown hts hK hP hD hS rfl dX6_test_121 (fun H locs hP hD hS => ?_)
      refine lv_iload (pc := 124) hx hb dX6_test_124 (lv_at hl 3 rfl) ?_
      exact kx_iret (pc := 126) hx hb hr hlocks hK hP hD hS h dX6_test_126
    · have h := h.2 c1
      refine lv_aload_n (pc := 87) hx hb dX6_test_87 rfl (lv_at hl 1 rfl) ?_
      refine lv_iload (pc := 88) hx hb dX6_test_88 (lv_at hl 2 rfl) ?_
      refine lv_iload (pc := 90) hx hb dX6_test_90 (lv_at hl 5 rfl) ?_
      refine kx_iSi (pc := 92) [.ref (ad x3), .int x6, .int x9] hx hb hml hown hts hK hP hD hS (q6_greatestPart h) (cw6_247 hts ⟨Nat.le_of_ble_eq_true rfl, Nat.le_of_ble_eq_true rfl⟩) rfl hl.1 rfl (Nat.le_of_ble_eq_true rfl) ⟨Nat.le_of_ble_eq_true rfl, Nat.le_of_ble_eq_true rfl⟩ dX6_test_92 (fun r3 u_ H locs hP hD hS h => ?_)
      obtain ⟨hu_, h⟩ := h
      rw [hu_] at hP hD
      refine lv_istore (pc := 95) (lv' := [(10, .int r3), (0, .ref (ad 0)), (3, .ref (ad x3)), (6, .int x6), (7, .int x7), (8, .int x8), (9, .int x9)]) hx hb dX6_test_95 hl (by decide) rfl (fun ls hl => ?_)
      refine lv_iload (pc := 97) hx hb dX6_test_97 (lv_at hl 0 rfl) ?_
      refine lv_iload (pc := 99) hx hb dX6_test_99 (lv_at hl 5 rfl) ?_
      refine lv_icmp_ge (pc := 101) (tgt := 112) hx hb dX6_test_101 (by decide) (fun c4 => ?_) (fun c4 => ?_)
      · have h := h.1 c4
        refine lv_iinc (pc := 112) (v := (x9 + (1 : Int32))) (lv' := [(9, .int (x9 + (1 : Int32))), (10, .int r3), (0, .ref (ad 0)), (3, .ref (ad x3)), (6, .int x6), (7, .int x7), (8, .int x8)]) hx hb dX6_test_112 hl (k := 6) rfl rfl (by decide) rfl (fun ls hl => ?_)
        refine lv_goto (pc := 115) (tgt := 80) hx hb dX6_test_115 (by decide) ?_
        exact ih _ _ _ _ _ _ _ _ _ hk_x3 h hP hD hS (lv_sub hl [2, 3, 4, 5, 6, 0] rfl)
      · have h := h.2 c4
        refine lv_iload (pc := 104) hx hb dX6_test_104 (lv_at hl 0 rfl) ?_
        refine lv_istore (pc := 106) (lv' := [(8, .int r3), (10, .int r3), (0, .ref (ad 0)), (3, .ref (ad x3)), (6, .int x6), (7, .int x7), (9, .int x9)]) hx hb dX6_test_106 hl (by decide) rfl (fun ls hl => ?_)
        refine lv_iload (pc := 108) hx hb dX6_test_108 (lv_at hl 6 rfl) ?_
        refine lv_istore (pc := 110) (lv' := [(7, .int x9), (8, .int r3), (10, .int r3), (0, .ref (ad 0)), (3, .ref (ad x3)), (6, .int x6), (9, .int x9)]) hx hb dX6_test_110 hl (by decide) rfl (fun ls hl => ?_)
        refine lv_iinc (pc := 112) (v := (x9 + (1 : Int32))) (lv' := [(9, .int (x9 + (1 : Int32))), (7, .int x9), (8, .int r3), (10, .int r3), (0, .ref (ad 0)), (3, .ref (ad x3)), (6, .int x6)]) hx hb dX6_test_112 hl (k := 6) rfl rfl (by decide) rfl (fun ls hl => ?_)
        refine lv_goto (pc := 115) (tgt := 80) hx hb dX6_test_115 (by decide) ?_
        exact ih _ _ _ _ _ _ _ _ _ hk_x3 h hP hD hS (lv_sub hl [4, 5, 6, 1, 2, 0] rfl)
def p6_test (σ : kx_St) (x1 : Int32) (x2 : Int32) (Q : kx_St → Int32 → Prop) : Prop := p3_kiteAt σ 4 x1 (fun o1 => (o1 = none → p6_pick σ 1 x2 (fun o3 => (o3 = none → Q σ (-1 : Int32)) ∧ (∀ b4, o3 = some b4 → kx_k 0 b4 = 5 ∧ (Q σ (-1 : Int32))))) ∧ (∀ b2, o1 = some b2 → kx_k 0 b2 = 1 ∧ (p6_pick σ 1 x2 (fun o5 => (o5 = none → Q σ (-1 : Int32)) ∧ (∀ b6, o5 = some b6 → kx_k 0 b6 = 5 ∧ (p6_findingOfPairs σ b6 (fun r7 => (r7 = 0 → p6_fittingKinds σ b2 b6 (fun r9 => (¬ r9 = 0 → p6_greatestPart σ b2 r9 (0 : Int32) (fun r11 => ∃ m80, p6_test_L80 m80 σ b2 r9 (0 : Int32) r11 (1 : Int32) Q)) ∧ (r9 = 0 → Q σ (-9 : Int32)))) ∧ (¬ r7 = 0 → p6_found σ r7 (fun σ13 r12 => Q σ13 r12)))))))))
set_option maxHeartbeats 4000000 in
theorem q6_test {σ : kx_St} {x1 : Int32} {x2 : Int32} {Q : kx_St → Int32 → Prop} (h : p6_test σ x1 x2 Q) : Met l yX6_test (Cond.code yX6_test cX6_test 11 (some .int) :: kx_big) rm6_test (va_Pc [.ref (ad 0), .int x1, .int x2] (kx_Wd D cy 0 ad A σ)) (kx_Qc kx_ci Q (kx_Wd D cy 0 ad A) A) 0 0 A := by
  refine kx_head (plainFor_of_name (by decide)) (Nat.le_of_ble_eq_true rfl) ?_
  intro p e s m below meth c ls cx hP hD hS hl
  obtain ⟨hx, hb, hr, hlocks, hml, hown, hts, hK⟩ := id cx
  have hl : lv_has ls 11 [(0, .ref (ad 0)), (1, .int x1), (2, .int x2)] := hl
  refine lv_aload_n (pc := 0) hx hb dX6_test_0 rfl (lv_at hl 0 rfl) ?_
  refine fg6_25 (pc := 1) (b := 4) hx hb hown hts hK hP rfl rfl dX6_test_1 ?_
  refine lv_iload_n (pc := 4) hx hb dX6_test_4 rfl (lv_at hl 1 rfl) ?_
  refine kx_iVr (pc := 5) [.int x1] hx hb hml hown hts hK hP hD hS (q3_kiteAt h) (cw6_131 hts ⟨Nat.le_of_ble_eq_true rfl, Nat.le_of_ble_eq_true rfl⟩) rfl (by decide) rfl rfl hl.1 rfl (Nat.le_of_ble_eq_true rfl) ⟨Nat.le_of_ble_eq_true rfl, Nat.le_of_ble_eq_true rfl⟩ dX6_test_5 (fun o1 u_ H locs hP hD hS h => ?_)
  obtain ⟨hu_, h⟩ := h
  rw [hu_] at hP hD
  rcases o1 with _ | b2
  · have h := h.1 rfl
    refine lv_astore_nN (pc := 8) (lv' := [(3, .null), (0, .ref (ad 0)), (1, .int x1), (2, .int x2)]) hx hb dX6_test_8 rfl hl (by decide) rfl (fun ls hl => ?_)
    refine lv_aload_n (pc := 9) hx hb dX6_test_9 rfl (lv_at hl 1 rfl) ?_
    refine fg6_11 (pc := 10) (b := 1) hx hb hown hts hK hP rfl rfl dX6_test_10 ?_
    refine lv_iload_n (pc := 13) hx hb dX6_test_13 rfl (lv_at hl 3 rfl) ?_
    refine kx_iSr (pc := 14) [.ref (ad 1), .int x2] hx hb hml hown hts hK hP hD hS (q6_pick h) (cw6_74 hts ⟨Nat.le_of_ble_eq_true rfl, Nat.le_of_ble_eq_true rfl⟩) rfl hl.1 rfl (Nat.le_of_ble_eq_true rfl) ⟨Nat.le_of_ble_eq_true rfl, Nat.le_of_ble_eq_true rfl⟩ dX6_test_14 (fun o3 u_ H locs hP hD hS h => ?_)
    obtain ⟨hu_, h⟩ := h
    rw [hu_] at hP hD
    rcases o3 with _ | b4
    · have h := h.1 rfl
      refine lv_astoreN (pc := 17) (lv' := [(4, .null), (3, .null), (0, .ref (ad 0)), (1, .int x1), (2, .int x2)]) hx hb dX6_test_17 hl (by decide) rfl (fun ls hl => ?_)
      refine lv_aload_nN (pc := 19) hx hb dX6_test_19 rfl (lv_at hl 1 rfl) ?_
      refine lv_ifnullN (pc := 20) (tgt := 28) hx hb dX6_test_20 (by decide) ?_
      refine lv_iconst (pc := 28) (v := (-1 : Int32)) hx hb dX6_test_28 (by decide) ?_
      exact kx_iret (pc := 29) hx hb hr hlocks hK hP hD hS h dX6_test_29
    · obtain ⟨hk_b4, h⟩ := h.2 b4 rfl
      refine lv_astore (pc := 17) (lv' := [(4, .ref (ad b4)), (3, .null), (0, .ref (ad 0)), (1, .int x1), (2, .int x2)]) hx hb dX6_test_17 hl (by decide) rfl (fun ls hl => ?_)
      refine lv_aload_nN (pc := 19) hx hb dX6_test_19 rfl (lv_at hl 1 rfl) ?_
      refine lv_ifnullN (pc := 20) (tgt := 28) hx hb dX6_test_20 (by decide) ?_
      refine lv_iconst (pc := 28) (v := (-1 : Int32)) hx hb dX6_test_28 (by decide) ?_
      exact kx_iret (pc := 29) hx hb hr hlocks hK hP hD hS h dX6_test_29
  · obtain ⟨hk_b2, h⟩ := h.2 b2 rfl
    refine lv_astore_n (pc := 8) (lv' := [(3, .ref (ad b2)), (0, .ref (ad 0)), (1, .int x1), (2, .int x2)]) hx hb dX6_test_8 rfl hl (by decide) rfl (fun ls hl => ?_)
    refine lv_aload_n (pc := 9) hx hb dX6_test_9 rfl (lv_at hl 1 rfl) ?_
    refine fg6_11 (pc := 10) (b := 1) hx hb hown hts hK hP rfl rfl dX6_test_10 ?_
    refine lv_iload_n (pc := 13) hx hb dX6_test_13 rfl (lv_at hl 3 rfl) ?_
    refine kx_iSr (pc := 14) [.ref (ad 1), .int x2] hx hb hml hown hts hK hP hD hS (q6_pick h) (cw6_74 hts ⟨Nat.le_of_ble_eq_true rfl, Nat.le_of_ble_eq_true rfl⟩) rfl hl.1 rfl (Nat.le_of_ble_eq_true rfl) ⟨Nat.le_of_ble_eq_true rfl, Nat.le_of_ble_eq_true rfl⟩ dX6_test_14 (fun o5 u_ H locs hP hD hS h => ?_)
    obtain ⟨hu_, h⟩ := h
    rw [hu_] at hP hD
    rcases o5 with _ | b6
    · have h := h.1 rfl
      refine lv_astoreN (pc := 17) (lv' := [(4, .null), (3, .ref (ad b2)), (0, .ref (ad 0)), (1, .int x1), (2, .int x2)]) hx hb dX6_test_17 hl (by decide) rfl (fun ls hl => ?_)
      refine lv_aload_n (pc := 19) hx hb dX6_test_19 rfl (lv_at hl 1 rfl) ?_
      refine lv_ifnull (pc := 20) hx hb dX6_test_20 ?_
      refine lv_aloadN (pc := 23) hx hb dX6_test_23 (lv_at hl 0 rfl) ?_
      refine lv_ifnonnullN (pc := 25) hx hb dX6_test_25 ?_
      refine lv_iconst (pc := 28) (v := (-1 : Int32)) hx hb dX6_test_28 (by decide) ?_
      exact kx_iret (pc := 29) hx hb hr hlocks hK hP hD hS h dX6_test_29
    · obtain ⟨hk_b6, h⟩ := h.2 b6 rfl
      refine lv_astore (pc := 17) (lv' := [(4, .ref (ad b6)), (3, .ref (ad b2)), (0, .ref (ad 0)), (1, .int x1), (2, .int x2)]) hx hb dX6_test_17 hl (by decide) rfl (fun ls hl => ?_)
      refine lv_aload_n (pc := 19) hx hb dX6_test_19 rfl (lv_at hl 1 rfl) ?_
      refine lv_ifnull (pc := 20) hx hb dX6_test_20 ?_
      refine lv_aload (pc := 23) hx hb dX6_test_23 (lv_at hl 0 rfl) ?_
      refine lv_ifnonnull (pc := 25) (tgt := 30) hx hb dX6_test_25 (by decide) ?_
      refine lv_aload (pc := 30) hx hb dX6_test_30 (lv_at hl 0 rfl) ?_
      refine kx_iSi (pc := 32) [.ref (ad b6)] hx hb hml hown hts hK hP hD hS (q6_findingOfPairs h) (cw6_232 hts ⟨Nat.le_of_ble_eq_true rfl, Nat.le_of_ble_eq_true rfl⟩) rfl hl.1 rfl (Nat.le_of_ble_eq_true rfl) ⟨Nat.le_of_ble_eq_true rfl, Nat.le_of_ble_eq_true rfl⟩ dX6_test_32 (fun r7 u_ H locs hP hD hS h => ?_)
      obtain ⟨hu_, h⟩ := h
      rw [hu_] at hP hD
      refine lv_istore (pc := 35) (lv' := [(5, .int r7), (4, .ref (ad b6)), (3, .ref (ad b2)), (0, .ref (ad 0)), (1, .int x1), (2, .int x2)]) hx hb dX6_test_35 hl (by decide) rfl (fun ls hl => ?_)
      refine lv_iload (pc := 37) hx hb dX6_test_37 (lv_at hl 0 rfl) ?_
      refine lv_if_eq (pc := 39) (tgt := 49) hx hb dX6_test_39 (by decide) (fun c8 => ?_) (fun c8 => ?_)
      · have h := h.1 c8
        refine lv_aload_n (pc := 49) hx hb dX6_test_49 rfl (lv_at hl 2 rfl) ?_
        refine lv_aload (pc := 50) hx hb dX6_test_50 (lv_at hl 1 rfl) ?_
        refine kx_iSi (pc := 52) [.ref (ad b2), .ref (ad b6)] hx hb hml hown hts hK hP hD hS (q6_fittingKinds h) (cw6_243 hts ⟨Nat.le_of_ble_eq_true rfl, Nat.le_of_ble_eq_true rfl⟩) rfl hl.1 rfl (Nat.le_of_ble_eq_true rfl) ⟨Nat.le_of_ble_eq_true rfl, Nat.le_of_ble_eq_true rfl⟩ dX6_test_52 (fun r9 u_ H locs hP hD hS h => ?_)
        obtain ⟨hu_, h⟩ := h
        rw [hu_] at hP hD
        refine lv_istore (pc := 55) (lv' := [(6, .int r9), (5, .int r7), (4, .ref (ad b6)), (3, .ref (ad b2)), (0, .ref (ad 0)), (1, .int x1), (2, .int x2)]) hx hb dX6_test_55 hl (by decide) rfl (fun ls hl => ?_)
        refine lv_iload (pc := 57) hx hb dX6_test_57 (lv_at hl 0 rfl) ?_
        refine lv_if_ne (pc := 59) (tgt := 65) hx hb dX6_test_59 (by decide) (fun c10 => ?_) (fun c10 => ?_)
        · have h := h.1 c10
          refine lv_iconst (pc := 65) (v := (0 : Int32)) hx hb dX6_test_65 (by decide) ?_
          refine lv_istore (pc := 66) (lv' := [(7, .int (0 : Int32)), (6, .int r9), (5, .int r7), (4, .ref (ad b6)), (3, .ref (ad b2)), (0, .ref (ad 0)), (1, .int x1), (2, .int x2)]) hx hb dX6_test_66 hl (by decide) rfl (fun ls hl => ?_)
          refine lv_aload_n (pc := 68) hx hb dX6_test_68 rfl (lv_at hl 4 rfl) ?_
          refine lv_iload (pc := 69) hx hb dX6_test_69 (lv_at hl 1 rfl) ?_
          refine lv_iconst (pc := 71) (v := (0 : Int32)) hx hb dX6_test_71 (by decide) ?_
          refine kx_iSi (pc := 72) [.ref (ad b2), .int r9, .int (0 : Int32)] hx hb hml hown hts hK hP hD hS (q6_greatestPart h) (cw6_247 hts ⟨Nat.le_of_ble_eq_true rfl, Nat.le_of_ble_eq_true rfl⟩) rfl hl.1 rfl (Nat.le_of_ble_eq_true rfl) ⟨Nat.le_of_ble_eq_true rfl, Nat.le_of_ble_eq_true rfl⟩ dX6_test_72 (fun r11 u_ H locs hP hD hS h => ?_)
          obtain ⟨hu_, h⟩ := h
          rw [hu_] at hP hD
          refine lv_istore (pc := 75) (lv' := [(8, .int r11), (7, .int (0 : Int32)), (6, .int r9), (5, .int r7), (4, .ref (ad b6)), (3, .ref (ad b2)), (0, .ref (ad 0)), (1, .int x1), (2, .int x2)]) hx hb dX6_test_75 hl (by decide) rfl (fun ls hl => ?_)
          refine lv_iconst (pc := 77) (v := (1 : Int32)) hx hb dX6_test_77 (by decide) ?_
          refine lv_istore (pc := 78) (lv' := [(9, .int (1 : Int32)), (8, .int r11), (7, .int (0 : Int32)), (6, .int r9), (5, .int r7), (4, .ref (ad b6)), (3, .ref (ad b2)), (0, .ref (ad 0)), (1, .int x1), (2, .int x2)]) hx hb dX6_test_78 hl (by decide) rfl (fun ls hl => ?_)
          obtain ⟨n0, h⟩ := h
          exact w6_test_L80 cx  n0 _ _ _ _ _ _ _ _ _ hk_b2 h hP hD hS (lv_sub hl [7, 6, 3, 2, 1, 0] rfl)
        · have h := h.2 c10
          refine lv_bipush (pc := 62) (v := (-9 : Int32)) hx hb dX6_test_62 (by decide) ?_
          exact kx_iret (pc := 64) hx hb hr hlocks hK hP hD hS h dX6_test_64
      · have h := h.2 c8
        refine lv_aload_n (pc := 42) hx hb dX6_test_42 rfl (lv_at hl 3 rfl) ?_
        refine lv_iload (pc := 43) hx hb dX6_test_43 (lv_at hl 0 rfl) ?_
        refine kx_iVi (pc := 45) [.int r7] hx hb hml hown hts hK hP hD hS (q6_found h) (cw6_86 hts ⟨Nat.le_of_ble_eq_true rfl, Nat.le_of_ble_eq_true rfl⟩) rfl (by decide) rfl rfl hl.1 rfl (Nat.le_of_ble_eq_true rfl) ⟨Nat.le_of_ble_eq_true rfl, Nat.le_of_ble_eq_true rfl⟩ dX6_test_45 (fun r12 σ13 H locs hP hD hS h => ?_)
        exact kx_iret (pc := 48) hx hb hr hlocks hK hP hD hS h dX6_test_48
def p6_duel (σ : kx_St) (x1 : Int32) (Q : kx_St → Int32 → Prop) : Prop := (x1 < 0 → Q σ (-1 : Int32)) ∧ (¬ x1 < 0 → (x1 ≤ (6 : Int32) → p3_isEmpty σ 4 (fun r3 => (r3 = 0 → p0_weighDuel σ 26 4 x1 (fun σ6 r5 => Q σ6 r5)) ∧ (¬ r3 = 0 → Q σ (-4 : Int32)))) ∧ (¬ x1 ≤ (6 : Int32) → Q σ (-1 : Int32)))
set_option maxHeartbeats 4000000 in
theorem q6_duel {σ : kx_St} {x1 : Int32} {Q : kx_St → Int32 → Prop} (h : p6_duel σ x1 Q) : Met l yX6_duel (Cond.code yX6_duel cX6_duel 2 (some .int) :: kx_big) rm6_duel (va_Pc [.ref (ad 0), .int x1] (kx_Wd D cy 0 ad A σ)) (kx_Qc kx_ci Q (kx_Wd D cy 0 ad A) A) 0 0 A := by
  refine kx_head (plainFor_of_name (by decide)) (Nat.le_of_ble_eq_true rfl) ?_
  intro p e s m below meth c ls cx hP hD hS hl
  obtain ⟨hx, hb, hr, hlocks, hml, hown, hts, hK⟩ := id cx
  have hl : lv_has ls 2 [(0, .ref (ad 0)), (1, .int x1)] := hl
  refine lv_iload_n (pc := 0) hx hb dX6_duel_0 rfl (lv_at hl 1 rfl) ?_
  refine lv_if_lt (pc := 1) (tgt := 10) hx hb dX6_duel_1 (by decide) (fun c1 => ?_) (fun c1 => ?_)
  · have h := h.1 c1
    refine lv_iconst (pc := 10) (v := (-1 : Int32)) hx hb dX6_duel_10 (by decide) ?_
    exact kx_iret (pc := 11) hx hb hr hlocks hK hP hD hS h dX6_duel_11
  · have h := h.2 c1
    refine lv_iload_n (pc := 4) hx hb dX6_duel_4 rfl (lv_at hl 1 rfl) ?_
    refine lv_bipush (pc := 5) (v := (6 : Int32)) hx hb dX6_duel_5 (by decide) ?_
    refine lv_icmp_le (pc := 7) (tgt := 12) hx hb dX6_duel_7 (by decide) (fun c2 => ?_) (fun c2 => ?_)
    · have h := h.1 c2
      refine lv_aload_n (pc := 12) hx hb dX6_duel_12 rfl (lv_at hl 0 rfl) ?_
      refine fg6_25 (pc := 13) (b := 4) hx hb hown hts hK hP rfl rfl dX6_duel_13 ?_
      refine kx_iVi (pc := 16) [] hx hb hml hown hts hK hP hD hS (q3_isEmpty h) (cw6_188 hts ⟨Nat.le_of_ble_eq_true rfl, Nat.le_of_ble_eq_true rfl⟩) rfl (by decide) rfl rfl hl.1 rfl (Nat.le_of_ble_eq_true rfl) ⟨Nat.le_of_ble_eq_true rfl, Nat.le_of_ble_eq_true rfl⟩ dX6_duel_16 (fun r3 u_ H locs hP hD hS h => ?_)
      obtain ⟨hu_, h⟩ := h
      rw [hu_] at hP hD
      refine lv_if_eq (pc := 19) (tgt := 25) hx hb dX6_duel_19 (by decide) (fun c4 => ?_) (fun c4 => ?_)
      · have h := h.1 c4
        refine lv_aload_n (pc := 25) hx hb dX6_duel_25 rfl (lv_at hl 0 rfl) ?_
        refine fg6_42 (pc := 26) (b := 26) hx hb hown hts hK hP rfl rfl dX6_duel_26 ?_
        refine lv_aload_n (pc := 29) hx hb dX6_duel_29 rfl (lv_at hl 0 rfl) ?_
        refine fg6_25 (pc := 30) (b := 4) hx hb hown hts hK hP rfl rfl dX6_duel_30 ?_
        refine lv_iload_n (pc := 33) hx hb dX6_duel_33 rfl (lv_at hl 1 rfl) ?_
        refine kx_iVi (pc := 34) [.ref (ad 4), .int x1] hx hb hml hown hts hK hP hD hS (q0_weighDuel h) (cw6_251 hts ⟨Nat.le_of_ble_eq_true rfl, Nat.le_of_ble_eq_true rfl⟩) rfl (by decide) rfl rfl hl.1 rfl (Nat.le_of_ble_eq_true rfl) ⟨Nat.le_of_ble_eq_true rfl, Nat.le_of_ble_eq_true rfl⟩ dX6_duel_34 (fun r5 σ6 H locs hP hD hS h => ?_)
        exact kx_iret (pc := 37) hx hb hr hlocks hK hP hD hS h dX6_duel_37
      · have h := h.2 c4
        refine lv_bipush (pc := 22) (v := (-4 : Int32)) hx hb dX6_duel_22 (by decide) ?_
        exact kx_iret (pc := 24) hx hb hr hlocks hK hP hD hS h dX6_duel_24
    · have h := h.2 c2
      refine lv_iconst (pc := 10) (v := (-1 : Int32)) hx hb dX6_duel_10 (by decide) ?_
      exact kx_iret (pc := 11) hx hb hr hlocks hK hP hD hS h dX6_duel_11
def p6_paidWithCalms_J67 (σ : kx_St) (x1 : Int32) (x3 : Int32) (x4 : Int32) (s0 : Int32) (s1 : Nat) (s2 : Int32) (k7 : Int32 → Int32 → Int32 → Int32 → Prop) (Q : Int32 → Prop) : Prop := p1_payIn σ s1 s2 (fun r1 => k7 x1 (s0 + r1) (x3 + (1 : Int32)) (x4 + (1 : Int32)))
set_option maxHeartbeats 4000000 in
theorem w6_paidWithCalms_J67 {σ : kx_St} {x1 : Int32} {x3 : Int32} {x4 : Int32} {s0 : Int32} {s1 : Nat} {s2 : Int32} {k7 : Int32 → Int32 → Int32 → Int32 → Prop} {Q : Int32 → Prop} {H : Heap} {locs : List Loc} {ls : Array Slot} (cx : kx_Cx p s m args meth c D cy RX6 cX6_paidWithCalms 6 (some .int)) (hk7 : ∀ (x1 : Int32) (x2 : Int32) (x3 : Int32) (x4 : Int32) (H : Heap) (locs : List Loc) (ls : Array Slot), k7 x1 x2 x3 x4 → va_P D vwCl (kx_ws cy 0 ad σ) H → va_D A (kx_ws cy 0 ad σ) → va_S A s.heap H locs → lv_has ls 6 [(0, .ref (ad 0)), (1, .int x1), (2, .int x2), (3, .int x3), (4, .int x4)] → W p l e rm6_paidWithCalms s m args below meth c H locs 0 0 (MQ below (kx_Qc kx_ci (fun u r => u = σ ∧ Q r) (kx_Wd D cy 0 ad A) A) args s 0 0 A) (F0 m 7 ls [])) (hk_s1 : kx_k 0 s1 = 1) (h : p6_paidWithCalms_J67 σ x1 x3 x4 s0 s1 s2 k7 Q) (hP : va_P D vwCl (kx_ws cy 0 ad σ) H) (hD : va_D A (kx_ws cy 0 ad σ)) (hS : va_S A s.heap H locs) (hl : lv_has ls 6 [(0, .ref (ad 0)), (1, .int x1), (3, .int x3), (4, .int x4)]) : W p l e rm6_paidWithCalms s m args below meth c H locs 0 0 (MQ below (kx_Qc kx_ci (fun u r => u = σ ∧ Q r) (kx_Wd D cy 0 ad A) A) args s 0 0 A) (F0 m 67 ls [.int s2, .ref (ad s1), .int s0]) := by
  obtain ⟨hx, hb, hr, hlocks, hml, hown, hts, hK⟩ := id cx
  refine kx_iVi (pc := 67) [.int s2] hx hb hml hown hts hK hP hD hS (q1_payIn h) (cw6_173 hts ⟨Nat.le_of_ble_eq_true rfl, Nat.le_of_ble_eq_true rfl⟩) hk_s1 (by decide) rfl rfl hl.1 rfl (Nat.le_of_ble_eq_true rfl) ⟨Nat.le_of_ble_eq_true rfl, Nat.le_of_ble_eq_true rfl⟩ dX6_paidWithCalms_67 (fun r1 u_ H locs hP hD hS h => ?_)
  obtain ⟨hu_, h⟩ := h
  rw [hu_] at hP hD
  refine lv_iadd (pc := 70) hx hb dX6_paidWithCalms_70 ?_
  refine lv_istore_n (pc := 71) (lv' := [(2, .int (s0 + r1)), (0, .ref (ad 0)), (1, .int x1), (3, .int x3), (4, .int x4)]) hx hb dX6_paidWithCalms_71 rfl hl (by decide) rfl (fun ls hl => ?_)
  refine lv_iinc (pc := 72) (v := (x3 + (1 : Int32))) (lv' := [(3, .int (x3 + (1 : Int32))), (2, .int (s0 + r1)), (0, .ref (ad 0)), (1, .int x1), (4, .int x4)]) hx hb dX6_paidWithCalms_72 hl (k := 3) rfl rfl (by decide) rfl (fun ls hl => ?_)
  refine lv_iinc (pc := 75) (v := (x4 + (1 : Int32))) (lv' := [(4, .int (x4 + (1 : Int32))), (3, .int (x3 + (1 : Int32))), (2, .int (s0 + r1)), (0, .ref (ad 0)), (1, .int x1)]) hx hb dX6_paidWithCalms_75 hl (k := 4) rfl rfl (by decide) rfl (fun ls hl => ?_)
  refine lv_goto (pc := 78) (tgt := 7) hx hb dX6_paidWithCalms_78 (by decide) ?_
  exact hk7 _ _ _ _ _ _ _ h hP hD hS (lv_sub hl [3, 4, 2, 1, 0] rfl)
def p6_paidWithCalms_L7 : Nat → kx_St → Int32 → Int32 → Int32 → Int32 → (Int32 → Prop) → Prop
  | 0, _, _, _, _, _, _ => False
  | n + 1, σ, x1, x2, x3, x4, Q => ((σ.1 4 3) ≤ x4 → Q x2) ∧ (¬ (σ.1 4 3) ≤ x4 → p3_kiteAt σ 4 x4 (fun o2 => (o2 = none → p6_paidWithCalms_L7 n σ x1 x2 x3 (x4 + (1 : Int32)) Q) ∧ (∀ b3, o2 = some b3 → kx_k 0 b3 = 1 ∧ (p1_wasFlown σ b3 (fun r4 => (¬ r4 = 0 → p6_paidWithCalms_L7 n σ x1 x2 x3 (x4 + (1 : Int32)) Q) ∧ (r4 = 0 → (¬ ((x1 >>> (x3 &&& 31)) &&& (1 : Int32)) = (1 : Int32) → p3_windIn σ 4 x3 (fun r7 => p6_paidWithCalms_J67 σ x1 x3 x4 x2 b3 r7 (fun x1 x2 x3 x4 => p6_paidWithCalms_L7 n σ x1 x2 x3 x4 Q) Q)) ∧ (((x1 >>> (x3 &&& 31)) &&& (1 : Int32)) = (1 : Int32) → p6_paidWithCalms_J67 σ x1 x3 x4 x2 b3 (0 : Int32) (fun x1 x2 x3 x4 => p6_paidWithCalms_L7 n σ x1 x2 x3 x4 Q) Q)))))))
set_option maxHeartbeats 4000000 in
theorem w6_paidWithCalms_L7 {σ : kx_St}  {Q : Int32 → Prop} (cx : kx_Cx p s m args meth c D cy RX6 cX6_paidWithCalms 6 (some .int))  : ∀ (n : Nat) (x1 : Int32) (x2 : Int32) (x3 : Int32) (x4 : Int32) (H : Heap) (locs : List Loc) (ls : Array Slot), p6_paidWithCalms_L7 n σ x1 x2 x3 x4 Q → va_P D vwCl (kx_ws cy 0 ad σ) H → va_D A (kx_ws cy 0 ad σ) → va_S A s.heap H locs → lv_has ls 6 [(0, .ref (ad 0)), (1, .int x1), (2, .int x2), (3, .int x3), (4, .int x4)] → W p l e rm6_paidWithCalms s m args below meth c H locs 0 0 (MQ below (kx_Qc kx_ci (fun u r => u = σ ∧ Q r) (kx_Wd D cy 0 ad A) A) args s 0 0 A) (F0 m 7 ls []) := by
  obtain ⟨hx, hb, hr, hlocks, hml, hown, hts, hK⟩ := id cx
  intro n
  induction n with
  | zero => intro _ _ _ _ _ _ _ h; exact False.elim h
  | succ n ih =>
    intro x1 x2 x3 x4 H locs ls h hP hD hS hl
    refine lv_iload (pc := 7) hx hb dX6_paidWithCalms_7 (lv_at hl 4 rfl) ?_
    refine lv_aload_n (pc := 9) hx hb dX6_paidWithCalms_9 rfl (lv_at hl 0 rfl) ?_
    refine fg6_25 (pc := 10) (b := 4) hx hb hown hts hK hP rfl rfl dX6_paidWithCalms_10 ?_
    refine fg6_128 (pc := 13) hx hb hown hts hK hP rfl dX6_paidWithCalms_13 ?_
    refine lv_icmp_ge (pc := 16) (tgt := 81) hx hb dX6_paidWithCalms_16 (by decide) (fun c1 => ?_) (fun c1 => ?_)
    · have h := h.1 c1
      refine lv_iload_n (pc := 81) hx hb dX6_paidWithCalms_81 rfl (lv_at hl 2 rfl) ?_
      exact kx_iret (pc := 82) hx hb hr hlocks hK hP hD hS ⟨rfl, h⟩ dX6_paidWithCalms_82
    · have h := h.2 c1
      refine lv_aload_n (pc := 19) hx hb dX6_paidWithCalms_19 rfl (lv_at hl 0 rfl) ?_
      refine fg6_25 (pc := 20) (b := 4) hx hb hown hts hK hP rfl rfl dX6_paidWithCalms_20 ?_
      refine lv_iload (pc := 23) hx hb dX6_paidWithCalms_23 (lv_at hl 4 rfl) ?_
      refine kx_iVr (pc := 25) [.int x4] hx hb hml hown hts hK hP hD hS (q3_kiteAt h) (cw6_131 hts ⟨Nat.le_of_ble_eq_true rfl, Nat.le_of_ble_eq_true rfl⟩) rfl (by decide) rfl rfl hl.1 rfl (Nat.le_of_ble_eq_true rfl) ⟨Nat.le_of_ble_eq_true rfl, Nat.le_of_ble_eq_true rfl⟩ dX6_paidWithCalms_25 (fun o2 u_ H locs hP hD hS h => ?_)
      obtain ⟨hu_, h⟩ := h
      rw [hu_] at hP hD
      rcases o2 with _ | b3
      · have h := h.1 rfl
        refine lv_astoreN (pc := 28) (lv' := [(5, .null), (0, .ref (ad 0)), (1, .int x1), (2, .int x2), (3, .int x3), (4, .int x4)]) hx hb dX6_paidWithCalms_28 hl (by decide) rfl (fun ls hl => ?_)
        refine lv_aloadN (pc := 30) hx hb dX6_paidWithCalms_30 (lv_at hl 0 rfl) ?_
        refine lv_ifnullN (pc := 32) (tgt := 75) hx hb dX6_paidWithCalms_32 (by decide) ?_
        refine lv_iinc (pc := 75) (v := (x4 + (1 : Int32))) (lv' := [(4, .int (x4 + (1 : Int32))), (5, .null), (0, .ref (ad 0)), (1, .int x1), (2, .int x2), (3, .int x3)]) hx hb dX6_paidWithCalms_75 hl (k := 5) rfl rfl (by decide) rfl (fun ls hl => ?_)
        refine lv_goto (pc := 78) (tgt := 7) hx hb dX6_paidWithCalms_78 (by decide) ?_
        exact ih _ _ _ _ _ _ _ h hP hD hS (lv_sub hl [2, 3, 4, 5, 0] rfl)
      · obtain ⟨hk_b3, h⟩ := h.2 b3 rfl
        refine lv_astore (pc := 28) (lv' := [(5, .ref (ad b3)), (0, .ref (ad 0)), (1, .int x1), (2, .int x2), (3, .int x3), (4, .int x4)]) hx hb dX6_paidWithCalms_28 hl (by decide) rfl (fun ls hl => ?_)
        refine lv_aload (pc := 30) hx hb dX6_paidWithCalms_30 (lv_at hl 0 rfl) ?_
        refine lv_ifnull (pc := 32) hx hb dX6_paidWithCalms_32 ?_
        refine lv_aload (pc := 35) hx hb dX6_paidWithCalms_35 (lv_at hl 0 rfl) ?_
        refine kx_iVi (pc := 37) [] hx hb hml hown hts hK hP hD hS (q1_wasFlown h) (cw6_176 hts ⟨Nat.le_of_ble_eq_true rfl, Nat.le_of_ble_eq_true rfl⟩) hk_b3 (by decide) rfl rfl hl.1 rfl (Nat.le_of_ble_eq_true rfl) ⟨Nat.le_of_ble_eq_true rfl, Nat.le_of_ble_eq_true rfl⟩ dX6_paidWithCalms_37 (fun r4 u_ H locs hP hD hS h => ?_)
        obtain ⟨hu_, h⟩ := h
        rw [hu_] at hP hD
        refine lv_if_ne (pc := 40) (tgt := 75) hx hb dX6_paidWithCalms_40 (by decide) (fun c5 => ?_) (fun c5 => ?_)
        · have h := h.1 c5
          refine lv_iinc (pc := 75) (v := (x4 + (1 : Int32))) (lv' := [(4, .int (x4 + (1 : Int32))), (5, .ref (ad b3)), (0, .ref (ad 0)), (1, .int x1), (2, .int x2), (3, .int x3)]) hx hb dX6_paidWithCalms_75 hl (k := 5) rfl rfl (by decide) rfl (fun ls hl => ?_)
          refine lv_goto (pc := 78) (tgt := 7) hx hb dX6_paidWithCalms_78 (by decide) ?_
          exact ih _ _ _ _ _ _ _ h hP hD hS (lv_sub hl [2, 3, 4, 5, 0] rfl)
        · have h := h.2 c5
          refine lv_iload_n (pc := 43) hx hb dX6_paidWithCalms_43 rfl (lv_at hl 3 rfl) ?_
          refine lv_aload (pc := 44) hx hb dX6_paidWithCalms_44 (lv_at hl 0 rfl) ?_
          refine lv_iload_n (pc := 46) hx hb dX6_paidWithCalms_46 rfl (lv_at hl 2 rfl) ?_
          refine lv_iload_n (pc := 47) hx hb dX6_paidWithCalms_47 rfl (lv_at hl 4 rfl) ?_
          refine lv_ishr (pc := 48) hx hb dX6_paidWithCalms_48 ?_
          refine lv_iconst (pc := 49) (v := (1 : Int32)) hx hb dX6_paidWithCalms_49 (by decide) ?_
          refine lv_iand (pc := 50) hx hb dX6_paidWithCalms_50 ?_
          refine lv_iconst (pc := 51) (v := (1 : Int32)) hx hb dX6_paidWithCalms_51 (by decide) ?_
          refine lv_icmp_ne (pc := 52) (tgt := 59) hx hb dX6_paidWithCalms_52 (by decide) (fun c6 => ?_) (fun c6 => ?_)
          · have h := h.1 c6
            refine lv_aload_n (pc := 59) hx hb dX6_paidWithCalms_59 rfl (lv_at hl 1 rfl) ?_
            refine fg6_25 (pc := 60) (b := 4) hx hb hown hts hK hP rfl rfl dX6_paidWithCalms_60 ?_
            refine lv_iload_n (pc := 63) hx hb dX6_paidWithCalms_63 rfl (lv_at hl 4 rfl) ?_
            refine kx_iVi (pc := 64) [.int x3] hx hb hml hown hts hK hP hD hS (q3_windIn h) (cw6_144 hts ⟨Nat.le_of_ble_eq_true rfl, Nat.le_of_ble_eq_true rfl⟩) rfl (by decide) rfl rfl hl.1 rfl (Nat.le_of_ble_eq_true rfl) ⟨Nat.le_of_ble_eq_true rfl, Nat.le_of_ble_eq_true rfl⟩ dX6_paidWithCalms_64 (fun r7 u_ H locs hP hD hS h => ?_)
            obtain ⟨hu_, h⟩ := h
            rw [hu_] at hP hD
            have hc8 : ∀ (x1 : Int32) (x2 : Int32) (x3 : Int32) (x4 : Int32) (H : Heap) (locs : List Loc) (ls : Array Slot), (fun x1 x2 x3 x4 => p6_paidWithCalms_L7 n σ x1 x2 x3 x4 Q) x1 x2 x3 x4 → va_P D vwCl (kx_ws cy 0 ad σ) H → va_D A (kx_ws cy 0 ad σ) → va_S A s.heap H locs → lv_has ls 6 [(0, .ref (ad 0)), (1, .int x1), (2, .int x2), (3, .int x3), (4, .int x4)] → W p l e rm6_paidWithCalms s m args below meth c H locs 0 0 (MQ below (kx_Qc kx_ci (fun u r => u = σ ∧ Q r) (kx_Wd D cy 0 ad A) A) args s 0 0 A) (F0 m 7 ls []) := fun x1 x2 x3 x4 H locs ls h hP hD hS hl => ih _ _ _ _ _ _ _ h hP hD hS hl
            exact w6_paidWithCalms_J67 cx hc8 hk_b3 h hP hD hS (lv_sub hl [1, 2, 4, 5] rfl)
          · have h := h.2 c6
            refine lv_iconst (pc := 55) (v := (0 : Int32)) hx hb dX6_paidWithCalms_55 (by decide) ?_
            refine lv_goto (pc := 56) (tgt := 67) hx hb dX6_paidWithCalms_56 (by decide) ?_
            have hc9 : ∀ (x1 : Int32) (x2 : Int32) (x3 : Int32) (x4 : Int32) (H : Heap) (locs : List Loc) (ls : Array Slot), (fun x1 x2 x3 x4 => p6_paidWithCalms_L7 n σ x1 x2 x3 x4 Q) x1 x2 x3 x4 → va_P D vwCl (kx_ws cy 0 ad σ) H → va_D A (kx_ws cy 0 ad σ) → va_S A s.heap H locs → lv_has ls 6 [(0, .ref (ad 0)), (1, .int x1), (2, .int x2), (3, .int x3), (4, .int x4)] → W p l e rm6_paidWithCalms s m args below meth c H locs 0 0 (MQ below (kx_Qc kx_ci (fun u r => u = σ ∧ Q r) (kx_Wd D cy 0 ad A) A) args s 0 0 A) (F0 m 7 ls []) := fun x1 x2 x3 x4 H locs ls h hP hD hS hl => ih _ _ _ _ _ _ _ h hP hD hS hl
            exact w6_paidWithCalms_J67 cx hc9 hk_b3 h hP hD hS (lv_sub hl [1, 2, 4, 5] rfl)
def p6_paidWithCalms (σ : kx_St) (x1 : Int32) (Q : Int32 → Prop) : Prop := ∃ m7, p6_paidWithCalms_L7 m7 σ x1 (0 : Int32) (0 : Int32) (0 : Int32) Q
set_option maxHeartbeats 4000000 in
theorem q6_paidWithCalms {σ : kx_St} {x1 : Int32} {Q : Int32 → Prop} (h : p6_paidWithCalms σ x1 Q) : Met l yX6_paidWithCalms (Cond.code yX6_paidWithCalms cX6_paidWithCalms 6 (some .int) :: kx_big) rm6_paidWithCalms (va_Pc [.ref (ad 0), .int x1] (kx_Wd D cy 0 ad A σ)) (kx_Qc kx_ci (fun u r => u = σ ∧ Q r) (kx_Wd D cy 0 ad A) A) 0 0 A := by
  refine kx_head (plainFor_of_name (by decide)) (Nat.le_of_ble_eq_true rfl) ?_
  intro p e s m below meth c ls cx hP hD hS hl
  obtain ⟨hx, hb, hr, hlocks, hml, hown, hts, hK⟩ := id cx
  have hl : lv_has ls 6 [(0, .ref (ad 0)), (1, .int x1)] := hl
  refine lv_iconst (pc := 0) (v := (0 : Int32)) hx hb dX6_paidWithCalms_0 (by decide) ?_
  refine lv_istore_n (pc := 1) (lv' := [(2, .int (0 : Int32)), (0, .ref (ad 0)), (1, .int x1)]) hx hb dX6_paidWithCalms_1 rfl hl (by decide) rfl (fun ls hl => ?_)
  refine lv_iconst (pc := 2) (v := (0 : Int32)) hx hb dX6_paidWithCalms_2 (by decide) ?_
  refine lv_istore_n (pc := 3) (lv' := [(3, .int (0 : Int32)), (2, .int (0 : Int32)), (0, .ref (ad 0)), (1, .int x1)]) hx hb dX6_paidWithCalms_3 rfl hl (by decide) rfl (fun ls hl => ?_)
  refine lv_iconst (pc := 4) (v := (0 : Int32)) hx hb dX6_paidWithCalms_4 (by decide) ?_
  refine lv_istore (pc := 5) (lv' := [(4, .int (0 : Int32)), (3, .int (0 : Int32)), (2, .int (0 : Int32)), (0, .ref (ad 0)), (1, .int x1)]) hx hb dX6_paidWithCalms_5 hl (by decide) rfl (fun ls hl => ?_)
  obtain ⟨n0, h⟩ := h
  exact w6_paidWithCalms_L7 cx  n0 _ _ _ _ _ _ _ h hP hD hS (lv_sub hl [3, 4, 2, 1, 0] rfl)
def p6_weightOfCalms_L5 : Nat → Int32 → Int32 → Int32 → Int64 → Int32 → (Int64 → Prop) → Prop
  | 0, _, _, _, _, _, _ => False
  | n + 1, x0, x1, x2, x3, x5, Q => (x1 ≤ x5 → Q x3) ∧ (¬ x1 ≤ x5 → (¬ ((x0 >>> (x5 &&& 31)) &&& (1 : Int32)) = (1 : Int32) → p6_weightOfCalms_L5 n x0 x1 x2 (x3 * (((12 : Int32) - x2).toInt64)) (x5 + (1 : Int32)) Q) ∧ (((x0 >>> (x5 &&& 31)) &&& (1 : Int32)) = (1 : Int32) → p6_weightOfCalms_L5 n x0 x1 x2 (x3 * (x2.toInt64)) (x5 + (1 : Int32)) Q))
set_option maxHeartbeats 4000000 in
theorem w6_weightOfCalms_L5 {σ : kx_St}  {Q : Int64 → Prop} (cx : kx_Cx p s m args meth c D cy RX6 cX6_weightOfCalms 6 (some .long))  : ∀ (n : Nat) (x0 : Int32) (x1 : Int32) (x2 : Int32) (x3 : Int64) (x5 : Int32) (H : Heap) (locs : List Loc) (ls : Array Slot), p6_weightOfCalms_L5 n x0 x1 x2 x3 x5 Q → va_P D vwCl (kx_ws cy 0 ad σ) H → va_D A (kx_ws cy 0 ad σ) → va_S A s.heap H locs → lv_has ls 6 [(0, .int x0), (1, .int x1), (2, .int x2), (3, .long x3), (5, .int x5)] → W p l e rm6_weightOfCalms s m args below meth c H locs 0 0 (MQ below (kx_Qc kx_cl (fun u r => u = σ ∧ Q r) (kx_Wd D cy 0 ad A) A) args s 0 0 A) (F0 m 5 ls []) := by
  obtain ⟨hx, hb, hr, hlocks, hml, hown, hts, hK⟩ := id cx
  intro n
  induction n with
  | zero => intro _ _ _ _ _ _ _ _ h; exact False.elim h
  | succ n ih =>
    intro x0 x1 x2 x3 x5 H locs ls h hP hD hS hl
    refine lv_iload (pc := 5) hx hb dX6_weightOfCalms_5 (lv_at hl 4 rfl) ?_
    refine lv_iload_n (pc := 7) hx hb dX6_weightOfCalms_7 rfl (lv_at hl 1 rfl) ?_
    refine lv_icmp_ge (pc := 8) (tgt := 40) hx hb dX6_weightOfCalms_8 (by decide) (fun c1 => ?_) (fun c1 => ?_)
    · have h := h.1 c1
      refine lv_lload_n (pc := 40) hx hb dX6_weightOfCalms_40 rfl (lv_at hl 3 rfl) ?_
      exact kx_lret (pc := 41) hx hb hr hlocks hK hP hD hS ⟨rfl, h⟩ dX6_weightOfCalms_41
    · have h := h.2 c1
      refine lv_lload_n (pc := 11) hx hb dX6_weightOfCalms_11 rfl (lv_at hl 3 rfl) ?_
      refine lv_iload_n (pc := 12) hx hb dX6_weightOfCalms_12 rfl (lv_at hl 0 rfl) ?_
      refine lv_iload (pc := 13) hx hb dX6_weightOfCalms_13 (lv_at hl 4 rfl) ?_
      refine lv_ishr (pc := 15) hx hb dX6_weightOfCalms_15 ?_
      refine lv_iconst (pc := 16) (v := (1 : Int32)) hx hb dX6_weightOfCalms_16 (by decide) ?_
      refine lv_iand (pc := 17) hx hb dX6_weightOfCalms_17 ?_
      refine lv_iconst (pc := 18) (v := (1 : Int32)) hx hb dX6_weightOfCalms_18 (by decide) ?_
      refine lv_icmp_ne (pc := 19) (tgt := 27) hx hb dX6_weightOfCalms_19 (by decide) (fun c2 => ?_) (fun c2 => ?_)
      · have h := h.1 c2
        refine lv_bipush (pc := 27) (v := (12 : Int32)) hx hb dX6_weightOfCalms_27 (by decide) ?_
        refine lv_iload_n (pc := 29) hx hb dX6_weightOfCalms_29 rfl (lv_at hl 2 rfl) ?_
        refine lv_isub (pc := 30) hx hb dX6_weightOfCalms_30 ?_
        refine lv_i2l (pc := 31) (v := (((12 : Int32) - x2).toInt64)) hx hb dX6_weightOfCalms_31 rfl ?_
        refine lv_lmul (pc := 32) hx hb dX6_weightOfCalms_32 ?_
        refine lv_lstore_n (pc := 33) (lv' := [(3, .long (x3 * (((12 : Int32) - x2).toInt64))), (0, .int x0), (1, .int x1), (2, .int x2), (5, .int x5)]) hx hb dX6_weightOfCalms_33 rfl hl (by decide) rfl (fun ls hl => ?_)
        refine lv_iinc (pc := 34) (v := (x5 + (1 : Int32))) (lv' := [(5, .int (x5 + (1 : Int32))), (3, .long (x3 * (((12 : Int32) - x2).toInt64))), (0, .int x0), (1, .int x1), (2, .int x2)]) hx hb dX6_weightOfCalms_34 hl (k := 4) rfl rfl (by decide) rfl (fun ls hl => ?_)
        refine lv_goto (pc := 37) (tgt := 5) hx hb dX6_weightOfCalms_37 (by decide) ?_
        exact ih _ _ _ _ _ _ _ _ h hP hD hS (lv_sub hl [2, 3, 4, 1, 0] rfl)
      · have h := h.2 c2
        refine lv_iload_n (pc := 22) hx hb dX6_weightOfCalms_22 rfl (lv_at hl 2 rfl) ?_
        refine lv_i2l (pc := 23) (v := (x2.toInt64)) hx hb dX6_weightOfCalms_23 rfl ?_
        refine lv_goto (pc := 24) (tgt := 32) hx hb dX6_weightOfCalms_24 (by decide) ?_
        refine lv_lmul (pc := 32) hx hb dX6_weightOfCalms_32 ?_
        refine lv_lstore_n (pc := 33) (lv' := [(3, .long (x3 * (x2.toInt64))), (0, .int x0), (1, .int x1), (2, .int x2), (5, .int x5)]) hx hb dX6_weightOfCalms_33 rfl hl (by decide) rfl (fun ls hl => ?_)
        refine lv_iinc (pc := 34) (v := (x5 + (1 : Int32))) (lv' := [(5, .int (x5 + (1 : Int32))), (3, .long (x3 * (x2.toInt64))), (0, .int x0), (1, .int x1), (2, .int x2)]) hx hb dX6_weightOfCalms_34 hl (k := 4) rfl rfl (by decide) rfl (fun ls hl => ?_)
        refine lv_goto (pc := 37) (tgt := 5) hx hb dX6_weightOfCalms_37 (by decide) ?_
        exact ih _ _ _ _ _ _ _ _ h hP hD hS (lv_sub hl [2, 3, 4, 1, 0] rfl)
def p6_weightOfCalms (x0 : Int32) (x1 : Int32) (x2 : Int32) (Q : Int64 → Prop) : Prop := ∃ m5, p6_weightOfCalms_L5 m5 x0 x1 x2 (1 : Int64) (0 : Int32) Q
set_option maxHeartbeats 4000000 in
theorem q6_weightOfCalms {σ : kx_St} {x0 : Int32} {x1 : Int32} {x2 : Int32} {Q : Int64 → Prop} (h : p6_weightOfCalms x0 x1 x2 Q) : Met l yX6_weightOfCalms (Cond.code yX6_weightOfCalms cX6_weightOfCalms 6 (some .long) :: kx_big) rm6_weightOfCalms (va_Pc [.int x0, .int x1, .int x2] (kx_Wd D cy 0 ad A σ)) (kx_Qc kx_cl (fun u r => u = σ ∧ Q r) (kx_Wd D cy 0 ad A) A) 0 0 A := by
  refine kx_head (plainFor_of_name (by decide)) (Nat.le_of_ble_eq_true rfl) ?_
  intro p e s m below meth c ls cx hP hD hS hl
  obtain ⟨hx, hb, hr, hlocks, hml, hown, hts, hK⟩ := id cx
  have hl : lv_has ls 6 [(0, .int x0), (1, .int x1), (2, .int x2)] := hl
  refine lv_lconst (pc := 0) (v := (1 : Int64)) hx hb dX6_weightOfCalms_0 (by decide) ?_
  refine lv_lstore_n (pc := 1) (lv' := [(3, .long (1 : Int64)), (0, .int x0), (1, .int x1), (2, .int x2)]) hx hb dX6_weightOfCalms_1 rfl hl (by decide) rfl (fun ls hl => ?_)
  refine lv_iconst (pc := 2) (v := (0 : Int32)) hx hb dX6_weightOfCalms_2 (by decide) ?_
  refine lv_istore (pc := 3) (lv' := [(5, .int (0 : Int32)), (3, .long (1 : Int64)), (0, .int x0), (1, .int x1), (2, .int x2)]) hx hb dX6_weightOfCalms_3 hl (by decide) rfl (fun ls hl => ?_)
  obtain ⟨n0, h⟩ := h
  exact w6_weightOfCalms_L5 cx  n0 _ _ _ _ _ _ _ _ h hP hD hS (lv_sub hl [2, 3, 4, 1, 0] rfl)
def p6_greatestDivisor_L9 : Nat → Int64 → Int64 → Int32 → (Int64 → Prop) → Prop
  | 0, _, _, _, _ => False
  | n + 1, x4, x6, x8, Q => ((200 : Int32) ≤ x8 → Q x4) ∧ (¬ (200 : Int32) ≤ x8 → ((lg_cmp x6 (0 : Int64)) = 0 → Q x4) ∧ (¬ (lg_cmp x6 (0 : Int64)) = 0 → ¬ x6 = 0 ∧ (p6_greatestDivisor_L9 n x6 (x4 - x4 / x6 * x6) (x8 + (1 : Int32)) Q)))
set_option maxHeartbeats 4000000 in
theorem w6_greatestDivisor_L9 {σ : kx_St}  {Q : Int64 → Prop} (cx : kx_Cx p s m args meth c D cy RX6 cX6_greatestDivisor 11 (some .long))  : ∀ (n : Nat) (x4 : Int64) (x6 : Int64) (x8 : Int32) (H : Heap) (locs : List Loc) (ls : Array Slot), p6_greatestDivisor_L9 n x4 x6 x8 Q → va_P D vwCl (kx_ws cy 0 ad σ) H → va_D A (kx_ws cy 0 ad σ) → va_S A s.heap H locs → lv_has ls 11 [(4, .long x4), (6, .long x6), (8, .int x8)] → W p l e rm6_greatestDivisor s m args below meth c H locs 0 0 (MQ below (kx_Qc kx_cl (fun u r => u = σ ∧ Q r) (kx_Wd D cy 0 ad A) A) args s 0 0 A) (F0 m 9 ls []) := by
  obtain ⟨hx, hb, hr, hlocks, hml, hown, hts, hK⟩ := id cx
  intro n
  induction n with
  | zero => intro _ _ _ _ _ _ h; exact False.elim h
  | succ n ih =>
    intro x4 x6 x8 H locs ls h hP hD hS hl
    refine lv_iload (pc := 9) hx hb dX6_greatestDivisor_9 (lv_at hl 2 rfl) ?_
    refine lv_sipush (pc := 11) (v := (200 : Int32)) hx hb dX6_greatestDivisor_11 (by decide) ?_
    refine lv_icmp_ge (pc := 14) (tgt := 45) hx hb dX6_greatestDivisor_14 (by decide) (fun c1 => ?_) (fun c1 => ?_)
    · have h := h.1 c1
      refine lv_lload (pc := 45) hx hb dX6_greatestDivisor_45 (lv_at hl 0 rfl) ?_
      exact kx_lret (pc := 47) hx hb hr hlocks hK hP hD hS ⟨rfl, h⟩ dX6_greatestDivisor_47
    · have h := h.2 c1
      refine lv_lload (pc := 17) hx hb dX6_greatestDivisor_17 (lv_at hl 1 rfl) ?_
      refine lv_lconst (pc := 19) (v := (0 : Int64)) hx hb dX6_greatestDivisor_19 (by decide) ?_
      refine W.lcmp (pc := 20) hx hb dX6_greatestDivisor_20 ?_
      refine lv_if_eq (pc := 21) (tgt := 45) hx hb dX6_greatestDivisor_21 (by decide) (fun c2 => ?_) (fun c2 => ?_)
      · have h := h.1 c2
        refine lv_lload (pc := 45) hx hb dX6_greatestDivisor_45 (lv_at hl 0 rfl) ?_
        exact kx_lret (pc := 47) hx hb hr hlocks hK hP hD hS ⟨rfl, h⟩ dX6_greatestDivisor_47
      · have h := h.2 c2
        refine lv_lload (pc := 24) hx hb dX6_greatestDivisor_24 (lv_at hl 0 rfl) ?_
        refine lv_lload (pc := 26) hx hb dX6_greatestDivisor_26 (lv_at hl 1 rfl) ?_
        obtain ⟨g3, h⟩ := h
        refine lv_lrem (pc := 28) hx hb dX6_greatestDivisor_28 g3 ?_
        refine lv_lstore (pc := 29) (lv' := [(9, .long (x4 - x4 / x6 * x6)), (4, .long x4), (6, .long x6), (8, .int x8)]) hx hb dX6_greatestDivisor_29 hl (by decide) rfl (fun ls hl => ?_)
        refine lv_lload (pc := 31) hx hb dX6_greatestDivisor_31 (lv_at hl 2 rfl) ?_
        refine lv_lstore (pc := 33) (lv' := [(4, .long x6), (9, .long (x4 - x4 / x6 * x6)), (6, .long x6), (8, .int x8)]) hx hb dX6_greatestDivisor_33 hl (by decide) rfl (fun ls hl => ?_)
        refine lv_lload (pc := 35) hx hb dX6_greatestDivisor_35 (lv_at hl 1 rfl) ?_
        refine lv_lstore (pc := 37) (lv' := [(6, .long (x4 - x4 / x6 * x6)), (4, .long x6), (9, .long (x4 - x4 / x6 * x6)), (8, .int x8)]) hx hb dX6_greatestDivisor_37 hl (by decide) rfl (fun ls hl => ?_)
        refine lv_iinc (pc := 39) (v := (x8 + (1 : Int32))) (lv' := [(8, .int (x8 + (1 : Int32))), (6, .long (x4 - x4 / x6 * x6)), (4, .long x6), (9, .long (x4 - x4 / x6 * x6))]) hx hb dX6_greatestDivisor_39 hl (k := 3) rfl rfl (by decide) rfl (fun ls hl => ?_)
        refine lv_goto (pc := 42) (tgt := 9) hx hb dX6_greatestDivisor_42 (by decide) ?_
        exact ih _ _ _ _ _ _ h hP hD hS (lv_sub hl [2, 1, 0] rfl)
def p6_greatestDivisor (x0 : Int64) (x2 : Int64) (Q : Int64 → Prop) : Prop := ∃ m9, p6_greatestDivisor_L9 m9 x0 x2 (0 : Int32) Q
set_option maxHeartbeats 4000000 in
theorem q6_greatestDivisor {σ : kx_St} {x0 : Int64} {x2 : Int64} {Q : Int64 → Prop} (h : p6_greatestDivisor x0 x2 Q) : Met l yX6_greatestDivisor (Cond.code yX6_greatestDivisor cX6_greatestDivisor 11 (some .long) :: kx_big) rm6_greatestDivisor (va_Pc [.long x0, .long x2] (kx_Wd D cy 0 ad A σ)) (kx_Qc kx_cl (fun u r => u = σ ∧ Q r) (kx_Wd D cy 0 ad A) A) 0 0 A := by
  refine kx_head (plainFor_of_name (by decide)) (Nat.le_of_ble_eq_true rfl) ?_
  intro p e s m below meth c ls cx hP hD hS hl
  obtain ⟨hx, hb, hr, hlocks, hml, hown, hts, hK⟩ := id cx
  have hl : lv_has ls 11 [(0, .long x0), (2, .long x2)] := hl
  refine lv_lload_n (pc := 0) hx hb dX6_greatestDivisor_0 rfl (lv_at hl 0 rfl) ?_
  refine lv_lstore (pc := 1) (lv' := [(4, .long x0), (0, .long x0), (2, .long x2)]) hx hb dX6_greatestDivisor_1 hl (by decide) rfl (fun ls hl => ?_)
  refine lv_lload_n (pc := 3) hx hb dX6_greatestDivisor_3 rfl (lv_at hl 2 rfl) ?_
  refine lv_lstore (pc := 4) (lv' := [(6, .long x2), (4, .long x0), (0, .long x0), (2, .long x2)]) hx hb dX6_greatestDivisor_4 hl (by decide) rfl (fun ls hl => ?_)
  refine lv_iconst (pc := 6) (v := (0 : Int32)) hx hb dX6_greatestDivisor_6 (by decide) ?_
  refine lv_istore (pc := 7) (lv' := [(8, .int (0 : Int32)), (6, .long x2), (4, .long x0), (0, .long x0), (2, .long x2)]) hx hb dX6_greatestDivisor_7 hl (by decide) rfl (fun ls hl => ?_)
  obtain ⟨n0, h⟩ := h
  exact w6_greatestDivisor_L9 cx  n0 _ _ _ _ _ _ h hP hD hS (lv_sub hl [2, 1, 0] rfl)
def p6_tellParts (σ : kx_St) (x1 : Int64) (x3 : Int64) (Q : kx_St → Prop) : Prop := p6_greatestDivisor x1 x3 (fun r1 => ((lg_cmp r1 (0 : Int64)) ≤ 0 → Q σ) ∧ (¬ (lg_cmp r1 (0 : Int64)) ≤ 0 → ¬ r1 = 0 ∧ ((fun σ4 : kx_St => ¬ r1 = 0 ∧ ((fun σ6 : kx_St => Q σ6) (kx_sL σ4 12 (x3 / r1)))) (kx_sL σ 11 (x1 / r1)))))
set_option maxHeartbeats 4000000 in
theorem q6_tellParts {σ : kx_St} {x1 : Int64} {x3 : Int64} {Q : kx_St → Prop} (h : p6_tellParts σ x1 x3 Q) : Met l yX6_tellParts (Cond.code yX6_tellParts cX6_tellParts 7 none :: kx_big) rm6_tellParts (va_Pc [.ref (ad 0), .long x1, .long x3] (kx_Wd D cy 0 ad A σ)) (kx_Qc kx_cv (fun u _ => Q u) (kx_Wd D cy 0 ad A) A) 0 0 A := by
  refine kx_head (plainFor_of_name (by decide)) (Nat.le_of_ble_eq_true rfl) ?_
  intro p e s m below meth c ls cx hP hD hS hl
  obtain ⟨hx, hb, hr, hlocks, hml, hown, hts, hK⟩ := id cx
  have hl : lv_has ls 7 [(0, .ref (ad 0)), (1, .long x1), (3, .long x3)] := hl
  refine lv_lload_n (pc := 0) hx hb dX6_tellParts_0 rfl (lv_at hl 1 rfl) ?_
  refine lv_lload_n (pc := 1) hx hb dX6_tellParts_1 rfl (lv_at hl 2 rfl) ?_
  refine kx_iSl (pc := 2) [.long x1, .long x3] hx hb hml hown hts hK hP hD hS (q6_greatestDivisor h) (cw6_329 hts ⟨Nat.le_of_ble_eq_true rfl, Nat.le_of_ble_eq_true rfl⟩) rfl hl.1 rfl (Nat.le_of_ble_eq_true rfl) ⟨Nat.le_of_ble_eq_true rfl, Nat.le_of_ble_eq_true rfl⟩ dX6_tellParts_2 (fun r1 u_ H locs hP hD hS h => ?_)
  obtain ⟨hu_, h⟩ := h
  rw [hu_] at hP hD
  refine lv_lstore (pc := 5) (lv' := [(5, .long r1), (0, .ref (ad 0)), (1, .long x1), (3, .long x3)]) hx hb dX6_tellParts_5 hl (by decide) rfl (fun ls hl => ?_)
  refine lv_lload (pc := 7) hx hb dX6_tellParts_7 (lv_at hl 0 rfl) ?_
  refine lv_lconst (pc := 9) (v := (0 : Int64)) hx hb dX6_tellParts_9 (by decide) ?_
  refine W.lcmp (pc := 10) hx hb dX6_tellParts_10 ?_
  refine lv_if_le (pc := 11) (tgt := 30) hx hb dX6_tellParts_11 (by decide) (fun c2 => ?_) (fun c2 => ?_)
  · have h := h.1 c2
    exact kx_vret (pc := 30) hx hb hr hlocks hK hP hD hS h dX6_tellParts_30
  · have h := h.2 c2
    refine lv_aload_n (pc := 14) hx hb dX6_tellParts_14 rfl (lv_at hl 1 rfl) ?_
    refine lv_lload_n (pc := 15) hx hb dX6_tellParts_15 rfl (lv_at hl 2 rfl) ?_
    refine lv_lload (pc := 16) hx hb dX6_tellParts_16 (lv_at hl 0 rfl) ?_
    obtain ⟨g3, h⟩ := h
    refine lv_ldiv (pc := 18) hx hb dX6_tellParts_18 g3 ?_
    refine fp6_64 (pc := 19) hx hb hown hts hK hP hD hS rfl dX6_tellParts_19 (fun H locs hP hD hS => ?_)
    refine lv_aload_n (pc := 22) hx hb dX6_tellParts_22 rfl (lv_at hl 1 rfl) ?_
    refine lv_lload_n (pc := 23) hx hb dX6_tellParts_23 rfl (lv_at hl 3 rfl) ?_
    refine lv_lload (pc := 24) hx hb dX6_tellParts_24 (lv_at hl 0 rfl) ?_
    obtain ⟨g5, h⟩ := h
    refine lv_ldiv (pc := 26) hx hb dX6_tellParts_26 g5 ?_
    refine fp6_68 (pc := 27) hx hb hown hts hK hP hD hS rfl dX6_tellParts_27 (fun H locs hP hD hS => ?_)
    exact kx_vret (pc := 30) hx hb hr hlocks hK hP hD hS h dX6_tellParts_30
def p6_odds_L73 : Nat → kx_St → Int32 → Int32 → Int64 → Int64 → Int32 → (kx_St → Int32 → Prop) → Prop
  | 0, _, _, _, _, _, _, _ => False
  | n + 1, σ, x1, x2, x3, x5, x7, Q => (((1 : Int32) <<< (x2 &&& 31)) ≤ x7 → p6_tellParts σ x5 x3 (fun σ3 => Q σ3 (1 : Int32))) ∧ (¬ ((1 : Int32) <<< (x2 &&& 31)) ≤ x7 → p6_paidWithCalms σ x7 (fun r4 => (((σ.1 4 7) + r4) < (σ.1 4 4) → p6_odds_L73 n σ x1 x2 x3 x5 (x7 + (1 : Int32)) Q) ∧ (¬ ((σ.1 4 7) + r4) < (σ.1 4 4) → p6_weightOfCalms x7 x2 x1 (fun r6 => p6_odds_L73 n σ x1 x2 x3 (x5 + r6) (x7 + (1 : Int32)) Q))))
set_option maxHeartbeats 4000000 in
theorem w6_odds_L73  {Q : kx_St → Int32 → Prop} (cx : kx_Cx p s m args meth c D cy RX6 cX6_odds 8 (some .int))  : ∀ (n : Nat) (σ : kx_St) (x1 : Int32) (x2 : Int32) (x3 : Int64) (x5 : Int64) (x7 : Int32) (H : Heap) (locs : List Loc) (ls : Array Slot), p6_odds_L73 n σ x1 x2 x3 x5 x7 Q → va_P D vwCl (kx_ws cy 0 ad σ) H → va_D A (kx_ws cy 0 ad σ) → va_S A s.heap H locs → lv_has ls 8 [(0, .ref (ad 0)), (1, .int x1), (2, .int x2), (3, .long x3), (5, .long x5), (7, .int x7)] → W p l e rm6_odds s m args below meth c H locs 0 0 (MQ below (kx_Qc kx_ci Q (kx_Wd D cy 0 ad A) A) args s 0 0 A) (F0 m 73 ls []) := by
  obtain ⟨hx, hb, hr, hlocks, hml, hown, hts, hK⟩ := id cx
  intro n
  induction n with
  | zero => intro _ _ _ _ _ _ _ _ _ h; exact False.elim h
  | succ n ih =>
    intro σ x1 x2 x3 x5 x7 H locs ls h hP hD hS hl
    refine lv_iload (pc := 73) hx hb dX6_odds_73 (lv_at hl 5 rfl) ?_
    refine lv_iconst (pc := 75) (v := (1 : Int32)) hx hb dX6_odds_75 (by decide) ?_
    refine lv_iload_n (pc := 76) hx hb dX6_odds_76 rfl (lv_at hl 2 rfl) ?_
    refine lv_ishl (pc := 77) hx hb dX6_odds_77 ?_
    refine lv_icmp_ge (pc := 78) (tgt := 123) hx hb dX6_odds_78 (by decide) (fun c1 => ?_) (fun c1 => ?_)
    · have h := h.1 c1
      refine lv_aload_n (pc := 123) hx hb dX6_odds_123 rfl (lv_at hl 0 rfl) ?_
      refine lv_lload (pc := 124) hx hb dX6_odds_124 (lv_at hl 4 rfl) ?_
      refine lv_lload_n (pc := 126) hx hb dX6_odds_126 rfl (lv_at hl 3 rfl) ?_
      refine kx_iVv (pc := 127) [.long x5, .long x3] hx hb hml hown hts hK hP hD hS (q6_tellParts h) (cw6_272 hts ⟨Nat.le_of_ble_eq_true rfl, Nat.le_of_ble_eq_true rfl⟩) rfl (by decide) rfl rfl hl.1 rfl (Nat.le_of_ble_eq_true rfl) ⟨Nat.le_of_ble_eq_true rfl, Nat.le_of_ble_eq_true rfl⟩ dX6_odds_127 (fun _ σ3 H locs hP hD hS h => ?_)
      refine lv_iconst (pc := 130) (v := (1 : Int32)) hx hb dX6_odds_130 (by decide) ?_
      exact kx_iret (pc := 131) hx hb hr hlocks hK hP hD hS h dX6_odds_131
    · have h := h.2 c1
      refine lv_aload_n (pc := 81) hx hb dX6_odds_81 rfl (lv_at hl 0 rfl) ?_
      refine fg6_25 (pc := 82) (b := 4) hx hb hown hts hK hP rfl rfl dX6_odds_82 ?_
      refine fg6_217 (pc := 85) hx hb hown hts hK hP rfl dX6_odds_85 ?_
      refine lv_aload_n (pc := 88) hx hb dX6_odds_88 rfl (lv_at hl 0 rfl) ?_
      refine lv_iload (pc := 89) hx hb dX6_odds_89 (lv_at hl 5 rfl) ?_
      refine kx_iVi (pc := 91) [.int x7] hx hb hml hown hts hK hP hD hS (q6_paidWithCalms h) (cw6_265 hts ⟨Nat.le_of_ble_eq_true rfl, Nat.le_of_ble_eq_true rfl⟩) rfl (by decide) rfl rfl hl.1 rfl (Nat.le_of_ble_eq_true rfl) ⟨Nat.le_of_ble_eq_true rfl, Nat.le_of_ble_eq_true rfl⟩ dX6_odds_91 (fun r4 u_ H locs hP hD hS h => ?_)
      obtain ⟨hu_, h⟩ := h
      rw [hu_] at hP hD
      refine lv_iadd (pc := 94) hx hb dX6_odds_94 ?_
      refine lv_aload_n (pc := 95) hx hb dX6_odds_95 rfl (lv_at hl 0 rfl) ?_
      refine fg6_25 (pc := 96) (b := 4) hx hb hown hts hK hP rfl rfl dX6_odds_96 ?_
      refine fg6_218 (pc := 99) hx hb hown hts hK hP rfl dX6_odds_99 ?_
      refine lv_icmp_lt (pc := 102) (tgt := 117) hx hb dX6_odds_102 (by decide) (fun c5 => ?_) (fun c5 => ?_)
      · have h := h.1 c5
        refine lv_iinc (pc := 117) (v := (x7 + (1 : Int32))) (lv' := [(7, .int (x7 + (1 : Int32))), (0, .ref (ad 0)), (1, .int x1), (2, .int x2), (3, .long x3), (5, .long x5)]) hx hb dX6_odds_117 hl (k := 5) rfl rfl (by decide) rfl (fun ls hl => ?_)
        refine lv_goto (pc := 120) (tgt := 73) hx hb dX6_odds_120 (by decide) ?_
        exact ih _ _ _ _ _ _ _ _ _ h hP hD hS (lv_sub hl [1, 2, 3, 4, 5, 0] rfl)
      · have h := h.2 c5
        refine lv_lload (pc := 105) hx hb dX6_odds_105 (lv_at hl 4 rfl) ?_
        refine lv_iload (pc := 107) hx hb dX6_odds_107 (lv_at hl 5 rfl) ?_
        refine lv_iload_n (pc := 109) hx hb dX6_odds_109 rfl (lv_at hl 2 rfl) ?_
        refine lv_iload_n (pc := 110) hx hb dX6_odds_110 rfl (lv_at hl 1 rfl) ?_
        refine kx_iSl (pc := 111) [.int x7, .int x2, .int x1] hx hb hml hown hts hK hP hD hS (q6_weightOfCalms h) (cw6_268 hts ⟨Nat.le_of_ble_eq_true rfl, Nat.le_of_ble_eq_true rfl⟩) rfl hl.1 rfl (Nat.le_of_ble_eq_true rfl) ⟨Nat.le_of_ble_eq_true rfl, Nat.le_of_ble_eq_true rfl⟩ dX6_odds_111 (fun r6 u_ H locs hP hD hS h => ?_)
        obtain ⟨hu_, h⟩ := h
        rw [hu_] at hP hD
        refine lv_ladd (pc := 114) hx hb dX6_odds_114 ?_
        refine lv_lstore (pc := 115) (lv' := [(5, .long (x5 + r6)), (0, .ref (ad 0)), (1, .int x1), (2, .int x2), (3, .long x3), (7, .int x7)]) hx hb dX6_odds_115 hl (by decide) rfl (fun ls hl => ?_)
        refine lv_iinc (pc := 117) (v := (x7 + (1 : Int32))) (lv' := [(7, .int (x7 + (1 : Int32))), (5, .long (x5 + r6)), (0, .ref (ad 0)), (1, .int x1), (2, .int x2), (3, .long x3)]) hx hb dX6_odds_117 hl (k := 5) rfl rfl (by decide) rfl (fun ls hl => ?_)
        refine lv_goto (pc := 120) (tgt := 73) hx hb dX6_odds_120 (by decide) ?_
        exact ih _ _ _ _ _ _ _ _ _ h hP hD hS (lv_sub hl [2, 3, 4, 5, 1, 0] rfl)
def p6_odds_L49 : Nat → kx_St → Int32 → Int32 → Int64 → Int32 → (kx_St → Int32 → Prop) → Prop
  | 0, _, _, _, _, _, _ => False
  | n + 1, σ, x1, x2, x3, x5, Q => (x2 ≤ x5 → ∃ m73, p6_odds_L73 m73 σ x1 x2 x3 (0 : Int64) (0 : Int32) Q) ∧ (¬ x2 ≤ x5 → p6_odds_L49 n σ x1 x2 (x3 * (12 : Int64)) (x5 + (1 : Int32)) Q)
set_option maxHeartbeats 4000000 in
theorem w6_odds_L49  {Q : kx_St → Int32 → Prop} (cx : kx_Cx p s m args meth c D cy RX6 cX6_odds 8 (some .int))  : ∀ (n : Nat) (σ : kx_St) (x1 : Int32) (x2 : Int32) (x3 : Int64) (x5 : Int32) (H : Heap) (locs : List Loc) (ls : Array Slot), p6_odds_L49 n σ x1 x2 x3 x5 Q → va_P D vwCl (kx_ws cy 0 ad σ) H → va_D A (kx_ws cy 0 ad σ) → va_S A s.heap H locs → lv_has ls 8 [(0, .ref (ad 0)), (1, .int x1), (2, .int x2), (3, .long x3), (5, .int x5)] → W p l e rm6_odds s m args below meth c H locs 0 0 (MQ below (kx_Qc kx_ci Q (kx_Wd D cy 0 ad A) A) args s 0 0 A) (F0 m 49 ls []) := by
  obtain ⟨hx, hb, hr, hlocks, hml, hown, hts, hK⟩ := id cx
  intro n
  induction n with
  | zero => intro _ _ _ _ _ _ _ _ h; exact False.elim h
  | succ n ih =>
    intro σ x1 x2 x3 x5 H locs ls h hP hD hS hl
    refine lv_iload (pc := 49) hx hb dX6_odds_49 (lv_at hl 4 rfl) ?_
    refine lv_iload_n (pc := 51) hx hb dX6_odds_51 rfl (lv_at hl 2 rfl) ?_
    refine lv_icmp_ge (pc := 52) (tgt := 67) hx hb dX6_odds_52 (by decide) (fun c1 => ?_) (fun c1 => ?_)
    · have h := h.1 c1
      refine lv_lconst (pc := 67) (v := (0 : Int64)) hx hb dX6_odds_67 (by decide) ?_
      refine lv_lstore (pc := 68) (lv' := [(5, .long (0 : Int64)), (0, .ref (ad 0)), (1, .int x1), (2, .int x2), (3, .long x3)]) hx hb dX6_odds_68 hl (by decide) rfl (fun ls hl => ?_)
      refine lv_iconst (pc := 70) (v := (0 : Int32)) hx hb dX6_odds_70 (by decide) ?_
      refine lv_istore (pc := 71) (lv' := [(7, .int (0 : Int32)), (5, .long (0 : Int64)), (0, .ref (ad 0)), (1, .int x1), (2, .int x2), (3, .long x3)]) hx hb dX6_odds_71 hl (by decide) rfl (fun ls hl => ?_)
      obtain ⟨n0, h⟩ := h
      exact w6_odds_L73 cx  n0 _ _ _ _ _ _ _ _ _ h hP hD hS (lv_sub hl [2, 3, 4, 5, 1, 0] rfl)
    · have h := h.2 c1
      refine lv_lload_n (pc := 55) hx hb dX6_odds_55 rfl (lv_at hl 3 rfl) ?_
      refine lv_ldc2 (pc := 56) (v := (12 : Int64)) hx hb hown (hts _ tb_634) dX6_odds_56 ?_
      refine lv_lmul (pc := 59) hx hb dX6_odds_59 ?_
      refine lv_lstore_n (pc := 60) (lv' := [(3, .long (x3 * (12 : Int64))), (0, .ref (ad 0)), (1, .int x1), (2, .int x2), (5, .int x5)]) hx hb dX6_odds_60 rfl hl (by decide) rfl (fun ls hl => ?_)
      refine lv_iinc (pc := 61) (v := (x5 + (1 : Int32))) (lv' := [(5, .int (x5 + (1 : Int32))), (3, .long (x3 * (12 : Int64))), (0, .ref (ad 0)), (1, .int x1), (2, .int x2)]) hx hb dX6_odds_61 hl (k := 4) rfl rfl (by decide) rfl (fun ls hl => ?_)
      refine lv_goto (pc := 64) (tgt := 49) hx hb dX6_odds_64 (by decide) ?_
      exact ih _ _ _ _ _ _ _ _ h hP hD hS (lv_sub hl [2, 3, 4, 1, 0] rfl)
def p6_odds (σ : kx_St) (x1 : Int32) (Q : kx_St → Int32 → Prop) : Prop := (x1 < 0 → Q σ (-1 : Int32)) ∧ (¬ x1 < 0 → (x1 ≤ (12 : Int32) → p3_isEmpty σ 4 (fun r3 => (r3 = 0 → p3_flownSet σ 4 (fun r5 => pJ6_bitCount_0f7a4 r5 (fun r6 => ∃ m49, p6_odds_L49 m49 σ x1 ((σ.1 4 3) - r6) (1 : Int64) (0 : Int32) Q))) ∧ (¬ r3 = 0 → Q σ (-4 : Int32)))) ∧ (¬ x1 ≤ (12 : Int32) → Q σ (-1 : Int32)))
set_option maxHeartbeats 4000000 in
theorem q6_odds {σ : kx_St} {x1 : Int32} {Q : kx_St → Int32 → Prop} (h : p6_odds σ x1 Q) : Met l yX6_odds (Cond.code yX6_odds cX6_odds 8 (some .int) :: kx_big) rm6_odds (va_Pc [.ref (ad 0), .int x1] (kx_Wd D cy 0 ad A σ)) (kx_Qc kx_ci Q (kx_Wd D cy 0 ad A) A) 0 0 A := by
  refine kx_head (plainFor_of_name (by decide)) (Nat.le_of_ble_eq_true rfl) ?_
  intro p e s m below meth c ls cx hP hD hS hl
  obtain ⟨hx, hb, hr, hlocks, hml, hown, hts, hK⟩ := id cx
  have hl : lv_has ls 8 [(0, .ref (ad 0)), (1, .int x1)] := hl
  refine lv_iload_n (pc := 0) hx hb dX6_odds_0 rfl (lv_at hl 1 rfl) ?_
  refine lv_if_lt (pc := 1) (tgt := 10) hx hb dX6_odds_1 (by decide) (fun c1 => ?_) (fun c1 => ?_)
  · have h := h.1 c1
    refine lv_iconst (pc := 10) (v := (-1 : Int32)) hx hb dX6_odds_10 (by decide) ?_
    exact kx_iret (pc := 11) hx hb hr hlocks hK hP hD hS h dX6_odds_11
  · have h := h.2 c1
    refine lv_iload_n (pc := 4) hx hb dX6_odds_4 rfl (lv_at hl 1 rfl) ?_
    refine lv_bipush (pc := 5) (v := (12 : Int32)) hx hb dX6_odds_5 (by decide) ?_
    refine lv_icmp_le (pc := 7) (tgt := 12) hx hb dX6_odds_7 (by decide) (fun c2 => ?_) (fun c2 => ?_)
    · have h := h.1 c2
      refine lv_aload_n (pc := 12) hx hb dX6_odds_12 rfl (lv_at hl 0 rfl) ?_
      refine fg6_25 (pc := 13) (b := 4) hx hb hown hts hK hP rfl rfl dX6_odds_13 ?_
      refine kx_iVi (pc := 16) [] hx hb hml hown hts hK hP hD hS (q3_isEmpty h) (cw6_188 hts ⟨Nat.le_of_ble_eq_true rfl, Nat.le_of_ble_eq_true rfl⟩) rfl (by decide) rfl rfl hl.1 rfl (Nat.le_of_ble_eq_true rfl) ⟨Nat.le_of_ble_eq_true rfl, Nat.le_of_ble_eq_true rfl⟩ dX6_odds_16 (fun r3 u_ H locs hP hD hS h => ?_)
      obtain ⟨hu_, h⟩ := h
      rw [hu_] at hP hD
      refine lv_if_eq (pc := 19) (tgt := 25) hx hb dX6_odds_19 (by decide) (fun c4 => ?_) (fun c4 => ?_)
      · have h := h.1 c4
        refine lv_aload_n (pc := 25) hx hb dX6_odds_25 rfl (lv_at hl 0 rfl) ?_
        refine fg6_25 (pc := 26) (b := 4) hx hb hown hts hK hP rfl rfl dX6_odds_26 ?_
        refine fg6_128 (pc := 29) hx hb hown hts hK hP rfl dX6_odds_29 ?_
        refine lv_aload_n (pc := 32) hx hb dX6_odds_32 rfl (lv_at hl 0 rfl) ?_
        refine fg6_25 (pc := 33) (b := 4) hx hb hown hts hK hP rfl rfl dX6_odds_33 ?_
        refine kx_iVi (pc := 36) [] hx hb hml hown hts hK hP hD hS (q3_flownSet h) (cw6_254 hts ⟨Nat.le_of_ble_eq_true rfl, Nat.le_of_ble_eq_true rfl⟩) rfl (by decide) rfl rfl hl.1 rfl (Nat.le_of_ble_eq_true rfl) ⟨Nat.le_of_ble_eq_true rfl, Nat.le_of_ble_eq_true rfl⟩ dX6_odds_36 (fun r5 u_ H locs hP hD hS h => ?_)
        obtain ⟨hu_, h⟩ := h
        rw [hu_] at hP hD
        refine kx_iSi (pc := 39) [.int r5] hx hb hml hown hts hK hP hD hS (qJ6_bitCount_0f7a4 h) (cw6_258 hts ⟨Nat.le_of_ble_eq_true rfl, Nat.le_of_ble_eq_true rfl⟩) rfl hl.1 rfl (Nat.le_of_ble_eq_true rfl) ⟨Nat.le_of_ble_eq_true rfl, Nat.le_of_ble_eq_true rfl⟩ dX6_odds_39 (fun r6 u_ H locs hP hD hS h => ?_)
        obtain ⟨hu_, h⟩ := h
        rw [hu_] at hP hD
        refine lv_isub (pc := 42) hx hb dX6_odds_42 ?_
        refine lv_istore_n (pc := 43) (lv' := [(2, .int ((σ.1 4 3) - r6)), (0, .ref (ad 0)), (1, .int x1)]) hx hb dX6_odds_43 rfl hl (by decide) rfl (fun ls hl => ?_)
        refine lv_lconst (pc := 44) (v := (1 : Int64)) hx hb dX6_odds_44 (by decide) ?_
        refine lv_lstore_n (pc := 45) (lv' := [(3, .long (1 : Int64)), (2, .int ((σ.1 4 3) - r6)), (0, .ref (ad 0)), (1, .int x1)]) hx hb dX6_odds_45 rfl hl (by decide) rfl (fun ls hl => ?_)
        refine lv_iconst (pc := 46) (v := (0 : Int32)) hx hb dX6_odds_46 (by decide) ?_
        refine lv_istore (pc := 47) (lv' := [(5, .int (0 : Int32)), (3, .long (1 : Int64)), (2, .int ((σ.1 4 3) - r6)), (0, .ref (ad 0)), (1, .int x1)]) hx hb dX6_odds_47 hl (by decide) rfl (fun ls hl => ?_)
        obtain ⟨n0, h⟩ := h
        exact w6_odds_L49 cx  n0 _ _ _ _ _ _ _ _ h hP hD hS (lv_sub hl [3, 4, 2, 1, 0] rfl)
      · have h := h.2 c4
        refine lv_bipush (pc := 22) (v := (-4 : Int32)) hx hb dX6_odds_22 (by decide) ?_
        exact kx_iret (pc := 24) hx hb hr hlocks hK hP hD hS h dX6_odds_24
    · have h := h.2 c2
      refine lv_iconst (pc := 10) (v := (-1 : Int32)) hx hb dX6_odds_10 (by decide) ?_
      exact kx_iret (pc := 11) hx hb hr hlocks hK hP hD hS h dX6_odds_11
def p6_mid (σ : kx_St) (x1 : Int32) (Q : kx_St → Int32 → Prop) : Prop := (x1 < 0 → Q σ (-1 : Int32)) ∧ (¬ x1 < 0 → (x1 ≤ (12 : Int32) → p3_isEmpty σ 4 (fun r3 => (r3 = 0 → p6_paidWithCalms σ (0 : Int32) (fun r5 => p6_paidWithCalms σ (63 : Int32) (fun r6 => p6_tellParts σ ((((12 : Int64) * ((σ.1 4 7).toInt64)) + ((((12 : Int32) - x1).toInt64) * (r5.toInt64))) + ((x1.toInt64) * (r6.toInt64))) (12 : Int64) (fun σ8 => Q σ8 (1 : Int32))))) ∧ (¬ r3 = 0 → Q σ (-4 : Int32)))) ∧ (¬ x1 ≤ (12 : Int32) → Q σ (-1 : Int32)))
set_option maxHeartbeats 4000000 in
theorem q6_mid {σ : kx_St} {x1 : Int32} {Q : kx_St → Int32 → Prop} (h : p6_mid σ x1 Q) : Met l yX6_mid (Cond.code yX6_mid cX6_mid 6 (some .int) :: kx_big) rm6_mid (va_Pc [.ref (ad 0), .int x1] (kx_Wd D cy 0 ad A σ)) (kx_Qc kx_ci Q (kx_Wd D cy 0 ad A) A) 0 0 A := by
  refine kx_head (plainFor_of_name (by decide)) (Nat.le_of_ble_eq_true rfl) ?_
  intro p e s m below meth c ls cx hP hD hS hl
  obtain ⟨hx, hb, hr, hlocks, hml, hown, hts, hK⟩ := id cx
  have hl : lv_has ls 6 [(0, .ref (ad 0)), (1, .int x1)] := hl
  refine lv_iload_n (pc := 0) hx hb dX6_mid_0 rfl (lv_at hl 1 rfl) ?_
  refine lv_if_lt (pc := 1) (tgt := 10) hx hb dX6_mid_1 (by decide) (fun c1 => ?_) (fun c1 => ?_)
  · have h := h.1 c1
    refine lv_iconst (pc := 10) (v := (-1 : Int32)) hx hb dX6_mid_10 (by decide) ?_
    exact kx_iret (pc := 11) hx hb hr hlocks hK hP hD hS h dX6_mid_11
  · have h := h.2 c1
    refine lv_iload_n (pc := 4) hx hb dX6_mid_4 rfl (lv_at hl 1 rfl) ?_
    refine lv_bipush (pc := 5) (v := (12 : Int32)) hx hb dX6_mid_5 (by decide) ?_
    refine lv_icmp_le (pc := 7) (tgt := 12) hx hb dX6_mid_7 (by decide) (fun c2 => ?_) (fun c2 => ?_)
    · have h := h.1 c2
      refine lv_aload_n (pc := 12) hx hb dX6_mid_12 rfl (lv_at hl 0 rfl) ?_
      refine fg6_25 (pc := 13) (b := 4) hx hb hown hts hK hP rfl rfl dX6_mid_13 ?_
      refine kx_iVi (pc := 16) [] hx hb hml hown hts hK hP hD hS (q3_isEmpty h) (cw6_188 hts ⟨Nat.le_of_ble_eq_true rfl, Nat.le_of_ble_eq_true rfl⟩) rfl (by decide) rfl rfl hl.1 rfl (Nat.le_of_ble_eq_true rfl) ⟨Nat.le_of_ble_eq_true rfl, Nat.le_of_ble_eq_true rfl⟩ dX6_mid_16 (fun r3 u_ H locs hP hD hS h => ?_)
      obtain ⟨hu_, h⟩ := h
      rw [hu_] at hP hD
      refine lv_if_eq (pc := 19) (tgt := 25) hx hb dX6_mid_19 (by decide) (fun c4 => ?_) (fun c4 => ?_)
      · have h := h.1 c4
        refine lv_aload_n (pc := 25) hx hb dX6_mid_25 rfl (lv_at hl 0 rfl) ?_
        refine lv_iconst (pc := 26) (v := (0 : Int32)) hx hb dX6_mid_26 (by decide) ?_
        refine kx_iVi (pc := 27) [.int (0 : Int32)] hx hb hml hown hts hK hP hD hS (q6_paidWithCalms h) (cw6_265 hts ⟨Nat.le_of_ble_eq_true rfl, Nat.le_of_ble_eq_true rfl⟩) rfl (by decide) rfl rfl hl.1 rfl (Nat.le_of_ble_eq_true rfl) ⟨Nat.le_of_ble_eq_true rfl, Nat.le_of_ble_eq_true rfl⟩ dX6_mid_27 (fun r5 u_ H locs hP hD hS h => ?_)
        obtain ⟨hu_, h⟩ := h
        rw [hu_] at hP hD
        refine lv_i2l (pc := 30) (v := (r5.toInt64)) hx hb dX6_mid_30 rfl ?_
        refine lv_lstore_n (pc := 31) (lv' := [(2, .long (r5.toInt64)), (0, .ref (ad 0)), (1, .int x1)]) hx hb dX6_mid_31 rfl hl (by decide) rfl (fun ls hl => ?_)
        refine lv_aload_n (pc := 32) hx hb dX6_mid_32 rfl (lv_at hl 1 rfl) ?_
        refine lv_bipush (pc := 33) (v := (63 : Int32)) hx hb dX6_mid_33 (by decide) ?_
        refine kx_iVi (pc := 35) [.int (63 : Int32)] hx hb hml hown hts hK hP hD hS (q6_paidWithCalms h) (cw6_265 hts ⟨Nat.le_of_ble_eq_true rfl, Nat.le_of_ble_eq_true rfl⟩) rfl (by decide) rfl rfl hl.1 rfl (Nat.le_of_ble_eq_true rfl) ⟨Nat.le_of_ble_eq_true rfl, Nat.le_of_ble_eq_true rfl⟩ dX6_mid_35 (fun r6 u_ H locs hP hD hS h => ?_)
        obtain ⟨hu_, h⟩ := h
        rw [hu_] at hP hD
        refine lv_i2l (pc := 38) (v := (r6.toInt64)) hx hb dX6_mid_38 rfl ?_
        refine lv_lstore (pc := 39) (lv' := [(4, .long (r6.toInt64)), (2, .long (r5.toInt64)), (0, .ref (ad 0)), (1, .int x1)]) hx hb dX6_mid_39 hl (by decide) rfl (fun ls hl => ?_)
        refine lv_aload_n (pc := 41) hx hb dX6_mid_41 rfl (lv_at hl 2 rfl) ?_
        refine lv_ldc2 (pc := 42) (v := (12 : Int64)) hx hb hown (hts _ tb_634) dX6_mid_42 ?_
        refine lv_aload_n (pc := 45) hx hb dX6_mid_45 rfl (lv_at hl 2 rfl) ?_
        refine fg6_25 (pc := 46) (b := 4) hx hb hown hts hK hP rfl rfl dX6_mid_46 ?_
        refine fg6_217 (pc := 49) hx hb hown hts hK hP rfl dX6_mid_49 ?_
        refine lv_i2l (pc := 52) (v := ((σ.1 4 7).toInt64)) hx hb dX6_mid_52 rfl ?_
        refine lv_lmul (pc := 53) hx hb dX6_mid_53 ?_
        refine lv_bipush (pc := 54) (v := (12 : Int32)) hx hb dX6_mid_54 (by decide) ?_
        refine lv_iload_n (pc := 56) hx hb dX6_mid_56 rfl (lv_at hl 3 rfl) ?_
        refine lv_isub (pc := 57) hx hb dX6_mid_57 ?_
        refine lv_i2l (pc := 58) (v := (((12 : Int32) - x1).toInt64)) hx hb dX6_mid_58 rfl ?_
        refine lv_lload_n (pc := 59) hx hb dX6_mid_59 rfl (lv_at hl 1 rfl) ?_
        refine lv_lmul (pc := 60) hx hb dX6_mid_60 ?_
        refine lv_ladd (pc := 61) hx hb dX6_mid_61 ?_
        refine lv_iload_n (pc := 62) hx hb dX6_mid_62 rfl (lv_at hl 3 rfl) ?_
        refine lv_i2l (pc := 63) (v := (x1.toInt64)) hx hb dX6_mid_63 rfl ?_
        refine lv_lload (pc := 64) hx hb dX6_mid_64 (lv_at hl 0 rfl) ?_
        refine lv_lmul (pc := 66) hx hb dX6_mid_66 ?_
        refine lv_ladd (pc := 67) hx hb dX6_mid_67 ?_
        refine lv_ldc2 (pc := 68) (v := (12 : Int64)) hx hb hown (hts _ tb_634) dX6_mid_68 ?_
        refine kx_iVv (pc := 71) [.long ((((12 : Int64) * ((σ.1 4 7).toInt64)) + ((((12 : Int32) - x1).toInt64) * (r5.toInt64))) + ((x1.toInt64) * (r6.toInt64))), .long (12 : Int64)] hx hb hml hown hts hK hP hD hS (q6_tellParts h) (cw6_272 hts ⟨Nat.le_of_ble_eq_true rfl, Nat.le_of_ble_eq_true rfl⟩) rfl (by decide) rfl rfl hl.1 rfl (Nat.le_of_ble_eq_true rfl) ⟨Nat.le_of_ble_eq_true rfl, Nat.le_of_ble_eq_true rfl⟩ dX6_mid_71 (fun _ σ8 H locs hP hD hS h => ?_)
        refine lv_iconst (pc := 74) (v := (1 : Int32)) hx hb dX6_mid_74 (by decide) ?_
        exact kx_iret (pc := 75) hx hb hr hlocks hK hP hD hS h dX6_mid_75
      · have h := h.2 c4
        refine lv_bipush (pc := 22) (v := (-4 : Int32)) hx hb dX6_mid_22 (by decide) ?_
        exact kx_iret (pc := 24) hx hb hr hlocks hK hP hD hS h dX6_mid_24
    · have h := h.2 c2
      refine lv_iconst (pc := 10) (v := (-1 : Int32)) hx hb dX6_mid_10 (by decide) ?_
      exact kx_iret (pc := 11) hx hb hr hlocks hK hP hD hS h dX6_mid_11
def p6_doByLot_J92 (σ : kx_St) (Q : kx_St → Prop) : Prop := p3_doPass σ 4 (fun σ2 => Q σ2)
set_option maxHeartbeats 4000000 in
theorem w6_doByLot_J92 {σ : kx_St}   {Q : kx_St → Prop} {H : Heap} {locs : List Loc} {ls : Array Slot} (cx : kx_Cx p s m args meth c D cy RX6 cX6_doByLot 5 none)   (h : p6_doByLot_J92 σ Q) (hP : va_P D vwCl (kx_ws cy 0 ad σ) H) (hD : va_D A (kx_ws cy 0 ad σ)) (hS : va_S A s.heap H locs) (hl : lv_has ls 5 [(0, .ref (ad 0))]) : W p l e rm6_doByLot s m args below meth c H locs 0 0 (MQ below (kx_Qc kx_cv (fun u _ => Q u) (kx_Wd D cy 0 ad A) A) args s 0 0 A) (F0 m 92 ls []) := by
  obtain ⟨hx, hb, hr, hlocks, hml, hown, hts, hK⟩ := id cx
  refine lv_aload_n (pc := 92) hx hb dX6_doByLot_92 rfl (lv_at hl 0 rfl) ?_
  refine fg6_25 (pc := 93) (b := 4) hx hb hown hts hK hP rfl rfl dX6_doByLot_93 ?_
  refine kx_iVv (pc := 96) [] hx hb hml hown hts hK hP hD hS (q3_doPass h) (cw6_191 hts ⟨Nat.le_of_ble_eq_true rfl, Nat.le_of_ble_eq_true rfl⟩) rfl (by decide) rfl rfl hl.1 rfl (Nat.le_of_ble_eq_true rfl) ⟨Nat.le_of_ble_eq_true rfl, Nat.le_of_ble_eq_true rfl⟩ dX6_doByLot_96 (fun _ σ2 H locs hP hD hS h => ?_)
  exact kx_vret (pc := 99) hx hb hr hlocks hK hP hD hS h dX6_doByLot_99
def p6_doByLot (σ : kx_St) (x1 : Int64) (Q : kx_St → Prop) : Prop := (0 < (σ.1 4 3) → ¬ ((σ.1 4 3).toInt64) = 0 ∧ (p3_kiteAt σ 4 (((x1 / (8 : Int64)) - (x1 / (8 : Int64)) / ((σ.1 4 3).toInt64) * ((σ.1 4 3).toInt64)).toInt32) (fun o3 => (o3 = none → Q σ) ∧ (∀ b4, o3 = some b4 → kx_k 0 b4 = 1 ∧ (p1_wasFlown σ b4 (fun r5 => (¬ r5 = 0 → ((3 : Int32) ≤ (σ.1 b4 3) → p6_doByLot_J92 σ Q) ∧ (¬ (3 : Int32) ≤ (σ.1 b4 3) → (¬ (lg_cmp (x1 - x1 / (2 : Int64) * (2 : Int64)) (0 : Int64)) = 0 → p6_doByLot_J92 σ Q) ∧ ((lg_cmp (x1 - x1 / (2 : Int64) * (2 : Int64)) (0 : Int64)) = 0 → p3_doTie σ 4 (((x1 / (8 : Int64)) - (x1 / (8 : Int64)) / ((σ.1 4 3).toInt64) * ((σ.1 4 3).toInt64)).toInt32) (fun σ10 => Q σ10)))) ∧ (r5 = 0 → p3_doFly σ 4 (((x1 / (8 : Int64)) - (x1 / (8 : Int64)) / ((σ.1 4 3).toInt64) * ((σ.1 4 3).toInt64)).toInt32) (fun σ12 => Q σ12)))))))) ∧ (¬ 0 < (σ.1 4 3) → Q σ)
set_option maxHeartbeats 4000000 in
theorem q6_doByLot {σ : kx_St} {x1 : Int64} {Q : kx_St → Prop} (h : p6_doByLot σ x1 Q) : Met l yX6_doByLot (Cond.code yX6_doByLot cX6_doByLot 5 none :: kx_big) rm6_doByLot (va_Pc [.ref (ad 0), .long x1] (kx_Wd D cy 0 ad A σ)) (kx_Qc kx_cv (fun u _ => Q u) (kx_Wd D cy 0 ad A) A) 0 0 A := by
  refine kx_head (plainFor_of_name (by decide)) (Nat.le_of_ble_eq_true rfl) ?_
  intro p e s m below meth c ls cx hP hD hS hl
  obtain ⟨hx, hb, hr, hlocks, hml, hown, hts, hK⟩ := id cx
  have hl : lv_has ls 5 [(0, .ref (ad 0)), (1, .long x1)] := hl
  refine lv_aload_n (pc := 0) hx hb dX6_doByLot_0 rfl (lv_at hl 0 rfl) ?_
  refine fg6_25 (pc := 1) (b := 4) hx hb hown hts hK hP rfl rfl dX6_doByLot_1 ?_
  refine fg6_128 (pc := 4) hx hb hown hts hK hP rfl dX6_doByLot_4 ?_
  refine lv_if_gt (pc := 7) (tgt := 11) hx hb dX6_doByLot_7 (by decide) (fun c1 => ?_) (fun c1 => ?_)
  · have h := h.1 c1
    refine lv_lload_n (pc := 11) hx hb dX6_doByLot_11 rfl (lv_at hl 1 rfl) ?_
    refine lv_ldc2 (pc := 12) (v := (8 : Int64)) hx hb hown (hts _ tb_663) dX6_doByLot_12 ?_
    refine lv_ldiv (pc := 15) hx hb dX6_doByLot_15 (by decide) ?_
    refine lv_aload_n (pc := 16) hx hb dX6_doByLot_16 rfl (lv_at hl 0 rfl) ?_
    refine fg6_25 (pc := 17) (b := 4) hx hb hown hts hK hP rfl rfl dX6_doByLot_17 ?_
    refine fg6_128 (pc := 20) hx hb hown hts hK hP rfl dX6_doByLot_20 ?_
    refine lv_i2l (pc := 23) (v := ((σ.1 4 3).toInt64)) hx hb dX6_doByLot_23 rfl ?_
    obtain ⟨g2, h⟩ := h
    refine lv_lrem (pc := 24) hx hb dX6_doByLot_24 g2 ?_
    refine lv_l2i (pc := 25) (v := (((x1 / (8 : Int64)) - (x1 / (8 : Int64)) / ((σ.1 4 3).toInt64) * ((σ.1 4 3).toInt64)).toInt32)) hx hb dX6_doByLot_25 rfl ?_
    refine lv_istore_n (pc := 26) (lv' := [(3, .int (((x1 / (8 : Int64)) - (x1 / (8 : Int64)) / ((σ.1 4 3).toInt64) * ((σ.1 4 3).toInt64)).toInt32)), (0, .ref (ad 0)), (1, .long x1)]) hx hb dX6_doByLot_26 rfl hl (by decide) rfl (fun ls hl => ?_)
    refine lv_aload_n (pc := 27) hx hb dX6_doByLot_27 rfl (lv_at hl 1 rfl) ?_
    refine fg6_25 (pc := 28) (b := 4) hx hb hown hts hK hP rfl rfl dX6_doByLot_28 ?_
    refine lv_iload_n (pc := 31) hx hb dX6_doByLot_31 rfl (lv_at hl 0 rfl) ?_
    refine kx_iVr (pc := 32) [.int (((x1 / (8 : Int64)) - (x1 / (8 : Int64)) / ((σ.1 4 3).toInt64) * ((σ.1 4 3).toInt64)).toInt32)] hx hb hml hown hts hK hP hD hS (q3_kiteAt h) (cw6_131 hts ⟨Nat.le_of_ble_eq_true rfl, Nat.le_of_ble_eq_true rfl⟩) rfl (by decide) rfl rfl hl.1 rfl (Nat.le_of_ble_eq_true rfl) ⟨Nat.le_of_ble_eq_true rfl, Nat.le_of_ble_eq_true rfl⟩ dX6_doByLot_32 (fun o3 u_ H locs hP hD hS h => ?_)
    obtain ⟨hu_, h⟩ := h
    rw [hu_] at hP hD
    rcases o3 with _ | b4
    · have h := h.1 rfl
      refine lv_astoreN (pc := 35) (lv' := [(4, .null), (3, .int (((x1 / (8 : Int64)) - (x1 / (8 : Int64)) / ((σ.1 4 3).toInt64) * ((σ.1 4 3).toInt64)).toInt32)), (0, .ref (ad 0)), (1, .long x1)]) hx hb dX6_doByLot_35 hl (by decide) rfl (fun ls hl => ?_)
      refine lv_aloadN (pc := 37) hx hb dX6_doByLot_37 (lv_at hl 0 rfl) ?_
      refine lv_ifnonnullN (pc := 39) hx hb dX6_doByLot_39 ?_
      exact kx_vret (pc := 42) hx hb hr hlocks hK hP hD hS h dX6_doByLot_42
    · obtain ⟨hk_b4, h⟩ := h.2 b4 rfl
      refine lv_astore (pc := 35) (lv' := [(4, .ref (ad b4)), (3, .int (((x1 / (8 : Int64)) - (x1 / (8 : Int64)) / ((σ.1 4 3).toInt64) * ((σ.1 4 3).toInt64)).toInt32)), (0, .ref (ad 0)), (1, .long x1)]) hx hb dX6_doByLot_35 hl (by decide) rfl (fun ls hl => ?_)
      refine lv_aload (pc := 37) hx hb dX6_doByLot_37 (lv_at hl 0 rfl) ?_
      refine lv_ifnonnull (pc := 39) (tgt := 43) hx hb dX6_doByLot_39 (by decide) ?_
      refine lv_aload (pc := 43) hx hb dX6_doByLot_43 (lv_at hl 0 rfl) ?_
      refine kx_iVi (pc := 45) [] hx hb hml hown hts hK hP hD hS (q1_wasFlown h) (cw6_176 hts ⟨Nat.le_of_ble_eq_true rfl, Nat.le_of_ble_eq_true rfl⟩) hk_b4 (by decide) rfl rfl hl.1 rfl (Nat.le_of_ble_eq_true rfl) ⟨Nat.le_of_ble_eq_true rfl, Nat.le_of_ble_eq_true rfl⟩ dX6_doByLot_45 (fun r5 u_ H locs hP hD hS h => ?_)
      obtain ⟨hu_, h⟩ := h
      rw [hu_] at hP hD
      refine lv_if_ne (pc := 48) (tgt := 62) hx hb dX6_doByLot_48 (by decide) (fun c6 => ?_) (fun c6 => ?_)
      · have h := h.1 c6
        refine lv_aload (pc := 62) hx hb dX6_doByLot_62 (lv_at hl 0 rfl) ?_
        refine fg6_147 (pc := 64) hx hb hown hts hK hP hk_b4 dX6_doByLot_64 ?_
        refine lv_iconst (pc := 67) (v := (3 : Int32)) hx hb dX6_doByLot_67 (by decide) ?_
        refine lv_icmp_ge (pc := 68) (tgt := 92) hx hb dX6_doByLot_68 (by decide) (fun c7 => ?_) (fun c7 => ?_)
        · have h := h.1 c7
          exact w6_doByLot_J92 cx  h hP hD hS (lv_sub hl [2] rfl)
        · have h := h.2 c7
          refine lv_lload_n (pc := 71) hx hb dX6_doByLot_71 rfl (lv_at hl 3 rfl) ?_
          refine lv_ldc2 (pc := 72) (v := (2 : Int64)) hx hb hown (hts _ tb_664) dX6_doByLot_72 ?_
          refine lv_lrem (pc := 75) hx hb dX6_doByLot_75 (by decide) ?_
          refine lv_lconst (pc := 76) (v := (0 : Int64)) hx hb dX6_doByLot_76 (by decide) ?_
          refine W.lcmp (pc := 77) hx hb dX6_doByLot_77 ?_
          refine lv_if_ne (pc := 78) (tgt := 92) hx hb dX6_doByLot_78 (by decide) (fun c8 => ?_) (fun c8 => ?_)
          · have h := h.1 c8
            exact w6_doByLot_J92 cx  h hP hD hS (lv_sub hl [2] rfl)
          · have h := h.2 c8
            refine lv_aload_n (pc := 81) hx hb dX6_doByLot_81 rfl (lv_at hl 2 rfl) ?_
            refine fg6_25 (pc := 82) (b := 4) hx hb hown hts hK hP rfl rfl dX6_doByLot_82 ?_
            refine lv_iload_n (pc := 85) hx hb dX6_doByLot_85 rfl (lv_at hl 1 rfl) ?_
            refine kx_iVv (pc := 86) [.int (((x1 / (8 : Int64)) - (x1 / (8 : Int64)) / ((σ.1 4 3).toInt64) * ((σ.1 4 3).toInt64)).toInt32)] hx hb hml hown hts hK hP hD hS (q3_doTie h) (cw6_197 hts ⟨Nat.le_of_ble_eq_true rfl, Nat.le_of_ble_eq_true rfl⟩) rfl (by decide) rfl rfl hl.1 rfl (Nat.le_of_ble_eq_true rfl) ⟨Nat.le_of_ble_eq_true rfl, Nat.le_of_ble_eq_true rfl⟩ dX6_doByLot_86 (fun _ σ10 H locs hP hD hS h => ?_)
            refine lv_goto (pc := 89) (tgt := 99) hx hb dX6_doByLot_89 (by decide) ?_
            exact kx_vret (pc := 99) hx hb hr hlocks hK hP hD hS h dX6_doByLot_99
      · have h := h.2 c6
        refine lv_aload_n (pc := 51) hx hb dX6_doByLot_51 rfl (lv_at hl 2 rfl) ?_
        refine fg6_25 (pc := 52) (b := 4) hx hb hown hts hK hP rfl rfl dX6_doByLot_52 ?_
        refine lv_iload_n (pc := 55) hx hb dX6_doByLot_55 rfl (lv_at hl 1 rfl) ?_
        refine kx_iVv (pc := 56) [.int (((x1 / (8 : Int64)) - (x1 / (8 : Int64)) / ((σ.1 4 3).toInt64) * ((σ.1 4 3).toInt64)).toInt32)] hx hb hml hown hts hK hP hD hS (q3_doFly h) (cw6_182 hts ⟨Nat.le_of_ble_eq_true rfl, Nat.le_of_ble_eq_true rfl⟩) rfl (by decide) rfl rfl hl.1 rfl (Nat.le_of_ble_eq_true rfl) ⟨Nat.le_of_ble_eq_true rfl, Nat.le_of_ble_eq_true rfl⟩ dX6_doByLot_56 (fun _ σ12 H locs hP hD hS h => ?_)
        refine lv_goto (pc := 59) (tgt := 99) hx hb dX6_doByLot_59 (by decide) ?_
        exact kx_vret (pc := 99) hx hb hr hlocks hK hP hD hS h dX6_doByLot_99
  · have h := h.2 c1
    exact kx_vret (pc := 10) hx hb hr hlocks hK hP hD hS h dX6_doByLot_10
def p6_lots_L63 : Nat → kx_St → Int32 → Int64 → Int32 → (kx_St → Int32 → Prop) → Prop
  | 0, _, _, _, _, _ => False
  | n + 1, σ, x1, x3, x5, Q => (x1 ≤ x5 → Q σ (σ.1 4 7)) ∧ (¬ x1 ≤ x5 → p6_doByLot σ ((x3 * (48271 : Int64)) - (x3 * (48271 : Int64)) / (2147483647 : Int64) * (2147483647 : Int64)) (fun σ3 => p6_lots_L63 n σ3 x1 ((x3 * (48271 : Int64)) - (x3 * (48271 : Int64)) / (2147483647 : Int64) * (2147483647 : Int64)) (x5 + (1 : Int32)) Q))
set_option maxHeartbeats 4000000 in
theorem w6_lots_L63  {Q : kx_St → Int32 → Prop} (cx : kx_Cx p s m args meth c D cy RX6 cX6_lots 6 (some .int))  : ∀ (n : Nat) (σ : kx_St) (x1 : Int32) (x3 : Int64) (x5 : Int32) (H : Heap) (locs : List Loc) (ls : Array Slot), p6_lots_L63 n σ x1 x3 x5 Q → va_P D vwCl (kx_ws cy 0 ad σ) H → va_D A (kx_ws cy 0 ad σ) → va_S A s.heap H locs → lv_has ls 6 [(0, .ref (ad 0)), (1, .int x1), (3, .long x3), (5, .int x5)] → W p l e rm6_lots s m args below meth c H locs 0 0 (MQ below (kx_Qc kx_ci Q (kx_Wd D cy 0 ad A) A) args s 0 0 A) (F0 m 63 ls []) := by
  obtain ⟨hx, hb, hr, hlocks, hml, hown, hts, hK⟩ := id cx
  intro n
  induction n with
  | zero => intro _ _ _ _ _ _ _ h; exact False.elim h
  | succ n ih =>
    intro σ x1 x3 x5 H locs ls h hP hD hS hl
    refine lv_iload (pc := 63) hx hb dX6_lots_63 (lv_at hl 3 rfl) ?_
    refine lv_iload_n (pc := 65) hx hb dX6_lots_65 rfl (lv_at hl 1 rfl) ?_
    refine lv_icmp_ge (pc := 66) (tgt := 90) hx hb dX6_lots_66 (by decide) (fun c1 => ?_) (fun c1 => ?_)
    · have h := h.1 c1
      refine lv_aload_n (pc := 90) hx hb dX6_lots_90 rfl (lv_at hl 0 rfl) ?_
      refine fg6_25 (pc := 91) (b := 4) hx hb hown hts hK hP rfl rfl dX6_lots_91 ?_
      refine fg6_217 (pc := 94) hx hb hown hts hK hP rfl dX6_lots_94 ?_
      exact kx_iret (pc := 97) hx hb hr hlocks hK hP hD hS h dX6_lots_97
    · have h := h.2 c1
      refine lv_lload_n (pc := 69) hx hb dX6_lots_69 rfl (lv_at hl 2 rfl) ?_
      refine lv_ldc2 (pc := 70) (v := (48271 : Int64)) hx hb hown (hts _ tb_658) dX6_lots_70 ?_
      refine lv_lmul (pc := 73) hx hb dX6_lots_73 ?_
      refine lv_ldc2 (pc := 74) (v := (2147483647 : Int64)) hx hb hown (hts _ tb_657) dX6_lots_74 ?_
      refine lv_lrem (pc := 77) hx hb dX6_lots_77 (by decide) ?_
      refine lv_lstore_n (pc := 78) (lv' := [(3, .long ((x3 * (48271 : Int64)) - (x3 * (48271 : Int64)) / (2147483647 : Int64) * (2147483647 : Int64))), (0, .ref (ad 0)), (1, .int x1), (5, .int x5)]) hx hb dX6_lots_78 rfl hl (by decide) rfl (fun ls hl => ?_)
      refine lv_aload_n (pc := 79) hx hb dX6_lots_79 rfl (lv_at hl 1 rfl) ?_
      refine lv_lload_n (pc := 80) hx hb dX6_lots_80 rfl (lv_at hl 0 rfl) ?_
      refine kx_iVv (pc := 81) [.long ((x3 * (48271 : Int64)) - (x3 * (48271 : Int64)) / (2147483647 : Int64) * (2147483647 : Int64))] hx hb hml hown hts hK hP hD hS (q6_doByLot h) (cw6_280 hts ⟨Nat.le_of_ble_eq_true rfl, Nat.le_of_ble_eq_true rfl⟩) rfl (by decide) rfl rfl hl.1 rfl (Nat.le_of_ble_eq_true rfl) ⟨Nat.le_of_ble_eq_true rfl, Nat.le_of_ble_eq_true rfl⟩ dX6_lots_81 (fun _ σ3 H locs hP hD hS h => ?_)
      refine lv_iinc (pc := 84) (v := (x5 + (1 : Int32))) (lv' := [(5, .int (x5 + (1 : Int32))), (3, .long ((x3 * (48271 : Int64)) - (x3 * (48271 : Int64)) / (2147483647 : Int64) * (2147483647 : Int64))), (0, .ref (ad 0)), (1, .int x1)]) hx hb dX6_lots_84 hl (k := 3) rfl rfl (by decide) rfl (fun ls hl => ?_)
      refine lv_goto (pc := 87) (tgt := 63) hx hb dX6_lots_87 (by decide) ?_
      exact ih _ _ _ _ _ _ _ h hP hD hS (lv_sub hl [2, 3, 1, 0] rfl)
def p6_lots (σ : kx_St) (x1 : Int32) (x2 : Int32) (Q : kx_St → Int32 → Prop) : Prop := (x1 < (1 : Int32) → Q σ (-1 : Int32)) ∧ (¬ x1 < (1 : Int32) → ((20 : Int32) < x1 → Q σ (-1 : Int32)) ∧ (¬ (20 : Int32) < x1 → (x2 < (1 : Int32) → Q σ (-1 : Int32)) ∧ (¬ x2 < (1 : Int32) → ((lg_cmp (x2.toInt64) (2147483647 : Int64)) < 0 → p3_isEmpty σ 4 (fun r5 => (r5 = 0 → (((σ.1 4 6) + x1) ≤ (40 : Int32) → ∃ m63, p6_lots_L63 m63 σ x1 (x2.toInt64) (0 : Int32) Q) ∧ (¬ ((σ.1 4 6) + x1) ≤ (40 : Int32) → Q σ (-2 : Int32))) ∧ (¬ r5 = 0 → Q σ (-4 : Int32)))) ∧ (¬ (lg_cmp (x2.toInt64) (2147483647 : Int64)) < 0 → Q σ (-1 : Int32)))))
set_option maxHeartbeats 4000000 in
theorem q6_lots {σ : kx_St} {x1 : Int32} {x2 : Int32} {Q : kx_St → Int32 → Prop} (h : p6_lots σ x1 x2 Q) : Met l yX6_lots (Cond.code yX6_lots cX6_lots 6 (some .int) :: kx_big) rm6_lots (va_Pc [.ref (ad 0), .int x1, .int x2] (kx_Wd D cy 0 ad A σ)) (kx_Qc kx_ci Q (kx_Wd D cy 0 ad A) A) 0 0 A := by
  refine kx_head (plainFor_of_name (by decide)) (Nat.le_of_ble_eq_true rfl) ?_
  intro p e s m below meth c ls cx hP hD hS hl
  obtain ⟨hx, hb, hr, hlocks, hml, hown, hts, hK⟩ := id cx
  have hl : lv_has ls 6 [(0, .ref (ad 0)), (1, .int x1), (2, .int x2)] := hl
  refine lv_iload_n (pc := 0) hx hb dX6_lots_0 rfl (lv_at hl 1 rfl) ?_
  refine lv_iconst (pc := 1) (v := (1 : Int32)) hx hb dX6_lots_1 (by decide) ?_
  refine lv_icmp_lt (pc := 2) (tgt := 25) hx hb dX6_lots_2 (by decide) (fun c1 => ?_) (fun c1 => ?_)
  · have h := h.1 c1
    refine lv_iconst (pc := 25) (v := (-1 : Int32)) hx hb dX6_lots_25 (by decide) ?_
    exact kx_iret (pc := 26) hx hb hr hlocks hK hP hD hS h dX6_lots_26
  · have h := h.2 c1
    refine lv_iload_n (pc := 5) hx hb dX6_lots_5 rfl (lv_at hl 1 rfl) ?_
    refine lv_bipush (pc := 6) (v := (20 : Int32)) hx hb dX6_lots_6 (by decide) ?_
    refine lv_icmp_gt (pc := 8) (tgt := 25) hx hb dX6_lots_8 (by decide) (fun c2 => ?_) (fun c2 => ?_)
    · have h := h.1 c2
      refine lv_iconst (pc := 25) (v := (-1 : Int32)) hx hb dX6_lots_25 (by decide) ?_
      exact kx_iret (pc := 26) hx hb hr hlocks hK hP hD hS h dX6_lots_26
    · have h := h.2 c2
      refine lv_iload_n (pc := 11) hx hb dX6_lots_11 rfl (lv_at hl 2 rfl) ?_
      refine lv_iconst (pc := 12) (v := (1 : Int32)) hx hb dX6_lots_12 (by decide) ?_
      refine lv_icmp_lt (pc := 13) (tgt := 25) hx hb dX6_lots_13 (by decide) (fun c3 => ?_) (fun c3 => ?_)
      · have h := h.1 c3
        refine lv_iconst (pc := 25) (v := (-1 : Int32)) hx hb dX6_lots_25 (by decide) ?_
        exact kx_iret (pc := 26) hx hb hr hlocks hK hP hD hS h dX6_lots_26
      · have h := h.2 c3
        refine lv_iload_n (pc := 16) hx hb dX6_lots_16 rfl (lv_at hl 2 rfl) ?_
        refine lv_i2l (pc := 17) (v := (x2.toInt64)) hx hb dX6_lots_17 rfl ?_
        refine lv_ldc2 (pc := 18) (v := (2147483647 : Int64)) hx hb hown (hts _ tb_657) dX6_lots_18 ?_
        refine W.lcmp (pc := 21) hx hb dX6_lots_21 ?_
        refine lv_if_lt (pc := 22) (tgt := 27) hx hb dX6_lots_22 (by decide) (fun c4 => ?_) (fun c4 => ?_)
        · have h := h.1 c4
          refine lv_aload_n (pc := 27) hx hb dX6_lots_27 rfl (lv_at hl 0 rfl) ?_
          refine fg6_25 (pc := 28) (b := 4) hx hb hown hts hK hP rfl rfl dX6_lots_28 ?_
          refine kx_iVi (pc := 31) [] hx hb hml hown hts hK hP hD hS (q3_isEmpty h) (cw6_188 hts ⟨Nat.le_of_ble_eq_true rfl, Nat.le_of_ble_eq_true rfl⟩) rfl (by decide) rfl rfl hl.1 rfl (Nat.le_of_ble_eq_true rfl) ⟨Nat.le_of_ble_eq_true rfl, Nat.le_of_ble_eq_true rfl⟩ dX6_lots_31 (fun r5 u_ H locs hP hD hS h => ?_)
          obtain ⟨hu_, h⟩ := h
          rw [hu_] at hP hD
          refine lv_if_eq (pc := 34) (tgt := 40) hx hb dX6_lots_34 (by decide) (fun c6 => ?_) (fun c6 => ?_)
          · have h := h.1 c6
            refine lv_aload_n (pc := 40) hx hb dX6_lots_40 rfl (lv_at hl 0 rfl) ?_
            refine fg6_25 (pc := 41) (b := 4) hx hb hown hts hK hP rfl rfl dX6_lots_41 ?_
            refine fg6_203 (pc := 44) hx hb hown hts hK hP rfl dX6_lots_44 ?_
            refine lv_iload_n (pc := 47) hx hb dX6_lots_47 rfl (lv_at hl 1 rfl) ?_
            refine lv_iadd (pc := 48) hx hb dX6_lots_48 ?_
            refine lv_bipush (pc := 49) (v := (40 : Int32)) hx hb dX6_lots_49 (by decide) ?_
            refine lv_icmp_le (pc := 51) (tgt := 57) hx hb dX6_lots_51 (by decide) (fun c7 => ?_) (fun c7 => ?_)
            · have h := h.1 c7
              refine lv_iload_n (pc := 57) hx hb dX6_lots_57 rfl (lv_at hl 2 rfl) ?_
              refine lv_i2l (pc := 58) (v := (x2.toInt64)) hx hb dX6_lots_58 rfl ?_
              refine lv_lstore_n (pc := 59) (lv' := [(3, .long (x2.toInt64)), (0, .ref (ad 0)), (1, .int x1), (2, .int x2)]) hx hb dX6_lots_59 rfl hl (by decide) rfl (fun ls hl => ?_)
              refine lv_iconst (pc := 60) (v := (0 : Int32)) hx hb dX6_lots_60 (by decide) ?_
              refine lv_istore (pc := 61) (lv' := [(5, .int (0 : Int32)), (3, .long (x2.toInt64)), (0, .ref (ad 0)), (1, .int x1), (2, .int x2)]) hx hb dX6_lots_61 hl (by decide) rfl (fun ls hl => ?_)
              obtain ⟨n0, h⟩ := h
              exact w6_lots_L63 cx  n0 _ _ _ _ _ _ _ h hP hD hS (lv_sub hl [2, 3, 1, 0] rfl)
            · have h := h.2 c7
              refine lv_bipush (pc := 54) (v := (-2 : Int32)) hx hb dX6_lots_54 (by decide) ?_
              exact kx_iret (pc := 56) hx hb hr hlocks hK hP hD hS h dX6_lots_56
          · have h := h.2 c6
            refine lv_bipush (pc := 37) (v := (-4 : Int32)) hx hb dX6_lots_37 (by decide) ?_
            exact kx_iret (pc := 39) hx hb hr hlocks hK hP hD hS h dX6_lots_39
        · have h := h.2 c4
          refine lv_iconst (pc := 25) (v := (-1 : Int32)) hx hb dX6_lots_25 (by decide) ?_
          exact kx_iret (pc := 26) hx hb hr hlocks hK hP hD hS h dX6_lots_26
def p6_asked (σ : kx_St) (Q : Int32 → Prop) : Prop := Q (σ.1 0 10)
set_option maxHeartbeats 4000000 in
theorem q6_asked {σ : kx_St}  {Q : Int32 → Prop} (h : p6_asked σ Q) : Met l yX6_asked (Cond.code yX6_asked cX6_asked 1 (some .int) :: kx_big) rm6_asked (va_Pc [.ref (ad 0)] (kx_Wd D cy 0 ad A σ)) (kx_Qc kx_ci (fun u r => u = σ ∧ Q r) (kx_Wd D cy 0 ad A) A) 0 0 A := by
  refine kx_head (plainFor_of_name (by decide)) (Nat.le_of_ble_eq_true rfl) ?_
  intro p e s m below meth c ls cx hP hD hS hl
  obtain ⟨hx, hb, hr, hlocks, hml, hown, hts, hK⟩ := id cx
  have hl : lv_has ls 1 [(0, .ref (ad 0))] := hl
  refine lv_aload_n (pc := 0) hx hb dX6_asked_0 rfl (lv_at hl 0 rfl) ?_
  refine fg6_61 (pc := 1) hx hb hown hts hK hP rfl dX6_asked_1 ?_
  exact kx_iret (pc := 4) hx hb hr hlocks hK hP hD hS ⟨rfl, h⟩ dX6_asked_4
def p6_upper (σ : kx_St) (Q : Int64 → Prop) : Prop := Q (σ.2 11)
set_option maxHeartbeats 4000000 in
theorem q6_upper {σ : kx_St}  {Q : Int64 → Prop} (h : p6_upper σ Q) : Met l yX6_upper (Cond.code yX6_upper cX6_upper 1 (some .long) :: kx_big) rm6_upper (va_Pc [.ref (ad 0)] (kx_Wd D cy 0 ad A σ)) (kx_Qc kx_cl (fun u r => u = σ ∧ Q r) (kx_Wd D cy 0 ad A) A) 0 0 A := by
  refine kx_head (plainFor_of_name (by decide)) (Nat.le_of_ble_eq_true rfl) ?_
  intro p e s m below meth c ls cx hP hD hS hl
  obtain ⟨hx, hb, hr, hlocks, hml, hown, hts, hK⟩ := id cx
  have hl : lv_has ls 1 [(0, .ref (ad 0))] := hl
  refine lv_aload_n (pc := 0) hx hb dX6_upper_0 rfl (lv_at hl 0 rfl) ?_
  refine fg6_64 (pc := 1) hx hb hown hts hK hP rfl dX6_upper_1 ?_
  exact kx_lret (pc := 4) hx hb hr hlocks hK hP hD hS ⟨rfl, h⟩ dX6_upper_4
def p6_lower (σ : kx_St) (Q : Int64 → Prop) : Prop := Q (σ.2 12)
set_option maxHeartbeats 4000000 in
theorem q6_lower {σ : kx_St}  {Q : Int64 → Prop} (h : p6_lower σ Q) : Met l yX6_lower (Cond.code yX6_lower cX6_lower 1 (some .long) :: kx_big) rm6_lower (va_Pc [.ref (ad 0)] (kx_Wd D cy 0 ad A σ)) (kx_Qc kx_cl (fun u r => u = σ ∧ Q r) (kx_Wd D cy 0 ad A) A) 0 0 A := by
  refine kx_head (plainFor_of_name (by decide)) (Nat.le_of_ble_eq_true rfl) ?_
  intro p e s m below meth c ls cx hP hD hS hl
  obtain ⟨hx, hb, hr, hlocks, hml, hown, hts, hK⟩ := id cx
  have hl : lv_has ls 1 [(0, .ref (ad 0))] := hl
  refine lv_aload_n (pc := 0) hx hb dX6_lower_0 rfl (lv_at hl 0 rfl) ?_
  refine fg6_68 (pc := 1) hx hb hown hts hK hP rfl dX6_lower_1 ?_
  exact kx_lret (pc := 4) hx hb hr hlocks hK hP hD hS ⟨rfl, h⟩ dX6_lower_4
def p6_thoseThere_L4 : Nat → kx_St → Nat → Int32 → Int32 → (Int32 → Prop) → Prop
  | 0, _, _, _, _, _ => False
  | n + 1, σ, x0, x1, x2, Q => ((Int32.ofNat (kx_l 0 x0)) ≤ x2 → Q x1) ∧ (¬ (Int32.ofNat (kx_l 0 x0)) ≤ x2 → vp_in x2 (kx_l 0 x0) ∧ (p5_isThere σ (kx_r 0 x0 x2.toNatClampNeg) (fun r3 => (r3 = 0 → p6_thoseThere_L4 n σ x0 x1 (x2 + (1 : Int32)) Q) ∧ (¬ r3 = 0 → p6_thoseThere_L4 n σ x0 (x1 + (1 : Int32)) (x2 + (1 : Int32)) Q))))
set_option maxHeartbeats 4000000 in
theorem w6_thoseThere_L4 {σ : kx_St}  {Q : Int32 → Prop} (cx : kx_Cx p s m args meth c D cy RX6 cX6_thoseThere 3 (some .int))  : ∀ (n : Nat) (x0 : Nat) (x1 : Int32) (x2 : Int32) (H : Heap) (locs : List Loc) (ls : Array Slot), kx_k 0 x0 = 11 → p6_thoseThere_L4 n σ x0 x1 x2 Q → va_P D vwCl (kx_ws cy 0 ad σ) H → va_D A (kx_ws cy 0 ad σ) → va_S A s.heap H locs → lv_has ls 3 [(0, .ref (ad x0)), (1, .int x1), (2, .int x2)] → W p l e rm6_thoseThere s m args below meth c H locs 0 0 (MQ below (kx_Qc kx_ci (fun u r => u = σ ∧ Q r) (kx_Wd D cy 0 ad A) A) args s 0 0 A) (F0 m 4 ls []) := by
  obtain ⟨hx, hb, hr, hlocks, hml, hown, hts, hK⟩ := id cx
  intro n
  induction n with
  | zero => intro _ _ _ _ _ _ _ h; exact False.elim h
  | succ n ih =>
    intro x0 x1 x2 H locs ls hk_x0 h hP hD hS hl
    refine lv_iload_n (pc := 4) hx hb dX6_thoseThere_4 rfl (lv_at hl 2 rfl) ?_
    refine lv_aload_n (pc := 5) hx hb dX6_thoseThere_5 rfl (lv_at hl 0 rfl) ?_
    refine kx_alen (pc := 6) hx hb hK hP hk_x0 (by decide) (by decide) dX6_thoseThere_6 ?_
    refine lv_icmp_ge (pc := 7) (tgt := 28) hx hb dX6_thoseThere_7 (by decide) (fun c1 => ?_) (fun c1 => ?_)
    · have h := h.1 c1
      refine lv_iload_n (pc := 28) hx hb dX6_thoseThere_28 rfl (lv_at hl 1 rfl) ?_
      exact kx_iret (pc := 29) hx hb hr hlocks hK hP hD hS ⟨rfl, h⟩ dX6_thoseThere_29
    · have h := h.2 c1
      refine lv_aload_n (pc := 10) hx hb dX6_thoseThere_10 rfl (lv_at hl 0 rfl) ?_
      refine lv_iload_n (pc := 11) hx hb dX6_thoseThere_11 rfl (lv_at hl 2 rfl) ?_
      obtain ⟨g2, h⟩ := h
      refine kx_aald (pc := 12) hx hb hK hP hk_x0 (by decide) (by decide) g2 dX6_thoseThere_12 ?_
      refine kx_iVi (pc := 13) [] hx hb hml hown hts hK hP hD hS (q5_isThere h) (cw6_82 hts ⟨Nat.le_of_ble_eq_true rfl, Nat.le_of_ble_eq_true rfl⟩) (ky_11 hk_x0 g2) (by decide) rfl rfl hl.1 rfl (Nat.le_of_ble_eq_true rfl) ⟨Nat.le_of_ble_eq_true rfl, Nat.le_of_ble_eq_true rfl⟩ dX6_thoseThere_13 (fun r3 u_ H locs hP hD hS h => ?_)
      obtain ⟨hu_, h⟩ := h
      rw [hu_] at hP hD
      refine lv_if_eq (pc := 16) (tgt := 22) hx hb dX6_thoseThere_16 (by decide) (fun c4 => ?_) (fun c4 => ?_)
      · have h := h.1 c4
        refine lv_iinc (pc := 22) (v := (x2 + (1 : Int32))) (lv' := [(2, .int (x2 + (1 : Int32))), (0, .ref (ad x0)), (1, .int x1)]) hx hb dX6_thoseThere_22 hl (k := 2) rfl rfl (by decide) rfl (fun ls hl => ?_)
        refine lv_goto (pc := 25) (tgt := 4) hx hb dX6_thoseThere_25 (by decide) ?_
        exact ih _ _ _ _ _ _ hk_x0 h hP hD hS (lv_sub hl [1, 2, 0] rfl)
      · have h := h.2 c4
        refine lv_iinc (pc := 19) (v := (x1 + (1 : Int32))) (lv' := [(1, .int (x1 + (1 : Int32))), (0, .ref (ad x0)), (2, .int x2)]) hx hb dX6_thoseThere_19 hl (k := 1) rfl rfl (by decide) rfl (fun ls hl => ?_)
        refine lv_iinc (pc := 22) (v := (x2 + (1 : Int32))) (lv' := [(2, .int (x2 + (1 : Int32))), (1, .int (x1 + (1 : Int32))), (0, .ref (ad x0))]) hx hb dX6_thoseThere_22 hl (k := 2) rfl rfl (by decide) rfl (fun ls hl => ?_)
        refine lv_goto (pc := 25) (tgt := 4) hx hb dX6_thoseThere_25 (by decide) ?_
        exact ih _ _ _ _ _ _ hk_x0 h hP hD hS (lv_sub hl [2, 1, 0] rfl)
def p6_thoseThere (σ : kx_St) (x0 : Nat) (Q : Int32 → Prop) : Prop := kx_k 0 x0 = 11 ∧ (∃ m4, p6_thoseThere_L4 m4 σ x0 (0 : Int32) (0 : Int32) Q)
set_option maxHeartbeats 4000000 in
theorem q6_thoseThere {σ : kx_St} {x0 : Nat} {Q : Int32 → Prop} (h : p6_thoseThere σ x0 Q) : Met l yX6_thoseThere (Cond.code yX6_thoseThere cX6_thoseThere 3 (some .int) :: kx_big) rm6_thoseThere (va_Pc [.ref (ad x0)] (kx_Wd D cy 0 ad A σ)) (kx_Qc kx_ci (fun u r => u = σ ∧ Q r) (kx_Wd D cy 0 ad A) A) 0 0 A := by
  refine kx_head (plainFor_of_name (by decide)) (Nat.le_of_ble_eq_true rfl) ?_
  intro p e s m below meth c ls cx hP hD hS hl
  obtain ⟨hx, hb, hr, hlocks, hml, hown, hts, hK⟩ := id cx
  obtain ⟨hk_x0, h⟩ := h
  have hl : lv_has ls 3 [(0, .ref (ad x0))] := hl
  refine lv_iconst (pc := 0) (v := (0 : Int32)) hx hb dX6_thoseThere_0 (by decide) ?_
  refine lv_istore_n (pc := 1) (lv' := [(1, .int (0 : Int32)), (0, .ref (ad x0))]) hx hb dX6_thoseThere_1 rfl hl (by decide) rfl (fun ls hl => ?_)
  refine lv_iconst (pc := 2) (v := (0 : Int32)) hx hb dX6_thoseThere_2 (by decide) ?_
  refine lv_istore_n (pc := 3) (lv' := [(2, .int (0 : Int32)), (1, .int (0 : Int32)), (0, .ref (ad x0))]) hx hb dX6_thoseThere_3 rfl hl (by decide) rfl (fun ls hl => ?_)
  obtain ⟨n0, h⟩ := h
  exact w6_thoseThere_L4 cx  n0 _ _ _ _ _ _ hk_x0 h hP hD hS (lv_sub hl [2, 1, 0] rfl)
def p6_keptParishes_L4 : Nat → kx_St → Int32 → Int32 → (Int32 → Prop) → Prop
  | 0, _, _, _, _ => False
  | n + 1, σ, x1, x2, Q => ((Int32.ofNat 3) ≤ x2 → Q x1) ∧ (¬ (Int32.ofNat 3) ≤ x2 → vp_in x2 3 ∧ (p3_isEmpty σ (kx_r 0 3 x2.toNatClampNeg) (fun r3 => (¬ r3 = 0 → p6_keptParishes_L4 n σ x1 (x2 + (1 : Int32)) Q) ∧ (r3 = 0 → p6_keptParishes_L4 n σ (x1 + (1 : Int32)) (x2 + (1 : Int32)) Q))))
set_option maxHeartbeats 4000000 in
theorem w6_keptParishes_L4 {σ : kx_St}  {Q : Int32 → Prop} (cx : kx_Cx p s m args meth c D cy RX6 cX6_keptParishes 3 (some .int))  : ∀ (n : Nat) (x1 : Int32) (x2 : Int32) (H : Heap) (locs : List Loc) (ls : Array Slot), p6_keptParishes_L4 n σ x1 x2 Q → va_P D vwCl (kx_ws cy 0 ad σ) H → va_D A (kx_ws cy 0 ad σ) → va_S A s.heap H locs → lv_has ls 3 [(0, .ref (ad 0)), (1, .int x1), (2, .int x2)] → W p l e rm6_keptParishes s m args below meth c H locs 0 0 (MQ below (kx_Qc kx_ci (fun u r => u = σ ∧ Q r) (kx_Wd D cy 0 ad A) A) args s 0 0 A) (F0 m 4 ls []) := by
  obtain ⟨hx, hb, hr, hlocks, hml, hown, hts, hK⟩ := id cx
  intro n
  induction n with
  | zero => intro _ _ _ _ _ h; exact False.elim h
  | succ n ih =>
    intro x1 x2 H locs ls h hP hD hS hl
    refine lv_iload_n (pc := 4) hx hb dX6_keptParishes_4 rfl (lv_at hl 2 rfl) ?_
    refine lv_aload_n (pc := 5) hx hb dX6_keptParishes_5 rfl (lv_at hl 0 rfl) ?_
    refine fg6_20 (pc := 6) (b := 3) hx hb hown hts hK hP rfl rfl dX6_keptParishes_6 ?_
    refine kx_alen (pc := 9) hx hb hK hP rfl (by decide) (by decide) dX6_keptParishes_9 ?_
    refine lv_icmp_ge (pc := 10) (tgt := 34) hx hb dX6_keptParishes_10 (by decide) (fun c1 => ?_) (fun c1 => ?_)
    · have h := h.1 c1
      refine lv_iload_n (pc := 34) hx hb dX6_keptParishes_34 rfl (lv_at hl 1 rfl) ?_
      exact kx_iret (pc := 35) hx hb hr hlocks hK hP hD hS ⟨rfl, h⟩ dX6_keptParishes_35
    · have h := h.2 c1
      refine lv_aload_n (pc := 13) hx hb dX6_keptParishes_13 rfl (lv_at hl 0 rfl) ?_
      refine fg6_20 (pc := 14) (b := 3) hx hb hown hts hK hP rfl rfl dX6_keptParishes_14 ?_
      refine lv_iload_n (pc := 17) hx hb dX6_keptParishes_17 rfl (lv_at hl 2 rfl) ?_
      obtain ⟨g2, h⟩ := h
      refine kx_aald (pc := 18) hx hb hK hP rfl (by decide) (by decide) g2 dX6_keptParishes_18 ?_
      refine kx_iVi (pc := 19) [] hx hb hml hown hts hK hP hD hS (q3_isEmpty h) (cw6_188 hts ⟨Nat.le_of_ble_eq_true rfl, Nat.le_of_ble_eq_true rfl⟩) (ky_10 rfl g2) (by decide) rfl rfl hl.1 rfl (Nat.le_of_ble_eq_true rfl) ⟨Nat.le_of_ble_eq_true rfl, Nat.le_of_ble_eq_true rfl⟩ dX6_keptParishes_19 (fun r3 u_ H locs hP hD hS h => ?_)
      obtain ⟨hu_, h⟩ := h
      rw [hu_] at hP hD
      refine lv_if_ne (pc := 22) (tgt := 28) hx hb dX6_keptParishes_22 (by decide) (fun c4 => ?_) (fun c4 => ?_)
      · have h := h.1 c4
        refine lv_iinc (pc := 28) (v := (x2 + (1 : Int32))) (lv' := [(2, .int (x2 + (1 : Int32))), (0, .ref (ad 0)), (1, .int x1)]) hx hb dX6_keptParishes_28 hl (k := 2) rfl rfl (by decide) rfl (fun ls hl => ?_)
        refine lv_goto (pc := 31) (tgt := 4) hx hb dX6_keptParishes_31 (by decide) ?_
        exact ih _ _ _ _ _ h hP hD hS (lv_sub hl [1, 2, 0] rfl)
      · have h := h.2 c4
        refine lv_iinc (pc := 25) (v := (x1 + (1 : Int32))) (lv' := [(1, .int (x1 + (1 : Int32))), (0, .ref (ad 0)), (2, .int x2)]) hx hb dX6_keptParishes_25 hl (k := 1) rfl rfl (by decide) rfl (fun ls hl => ?_)
        refine lv_iinc (pc := 28) (v := (x2 + (1 : Int32))) (lv' := [(2, .int (x2 + (1 : Int32))), (1, .int (x1 + (1 : Int32))), (0, .ref (ad 0))]) hx hb dX6_keptParishes_28 hl (k := 2) rfl rfl (by decide) rfl (fun ls hl => ?_)
        refine lv_goto (pc := 31) (tgt := 4) hx hb dX6_keptParishes_31 (by decide) ?_
        exact ih _ _ _ _ _ h hP hD hS (lv_sub hl [2, 1, 0] rfl)
def p6_keptParishes (σ : kx_St) (Q : Int32 → Prop) : Prop := ∃ m4, p6_keptParishes_L4 m4 σ (0 : Int32) (0 : Int32) Q
set_option maxHeartbeats 4000000 in
theorem q6_keptParishes {σ : kx_St}  {Q : Int32 → Prop} (h : p6_keptParishes σ Q) : Met l yX6_keptParishes (Cond.code yX6_keptParishes cX6_keptParishes 3 (some .int) :: kx_big) rm6_keptParishes (va_Pc [.ref (ad 0)] (kx_Wd D cy 0 ad A σ)) (kx_Qc kx_ci (fun u r => u = σ ∧ Q r) (kx_Wd D cy 0 ad A) A) 0 0 A := by
  refine kx_head (plainFor_of_name (by decide)) (Nat.le_of_ble_eq_true rfl) ?_
  intro p e s m below meth c ls cx hP hD hS hl
  obtain ⟨hx, hb, hr, hlocks, hml, hown, hts, hK⟩ := id cx
  have hl : lv_has ls 3 [(0, .ref (ad 0))] := hl
  refine lv_iconst (pc := 0) (v := (0 : Int32)) hx hb dX6_keptParishes_0 (by decide) ?_
  refine lv_istore_n (pc := 1) (lv' := [(1, .int (0 : Int32)), (0, .ref (ad 0))]) hx hb dX6_keptParishes_1 rfl hl (by decide) rfl (fun ls hl => ?_)
  refine lv_iconst (pc := 2) (v := (0 : Int32)) hx hb dX6_keptParishes_2 (by decide) ?_
  refine lv_istore_n (pc := 3) (lv' := [(2, .int (0 : Int32)), (1, .int (0 : Int32)), (0, .ref (ad 0))]) hx hb dX6_keptParishes_3 rfl hl (by decide) rfl (fun ls hl => ?_)
  obtain ⟨n0, h⟩ := h
  exact w6_keptParishes_L4 cx  n0 _ _ _ _ _ h hP hD hS (lv_sub hl [2, 1, 0] rfl)
def p6_count (σ : kx_St) (x1 : Int32) (Q : Int32 → Prop) : Prop := (x1 = (0 : Int32) → Q (σ.1 4 3)) ∧ (¬ x1 = (0 : Int32) → (x1 = (1 : Int32) → Q (σ.1 4 5)) ∧ (¬ x1 = (1 : Int32) → (x1 = (2 : Int32) → Q (σ.1 4 6)) ∧ (¬ x1 = (2 : Int32) → (x1 = (3 : Int32) → p3_windIn σ 4 (0 : Int32) (fun r5 => Q r5)) ∧ (¬ x1 = (3 : Int32) → (x1 = (4 : Int32) → p3_flownSet σ 4 (fun r7 => Q r7)) ∧ (¬ x1 = (4 : Int32) → (x1 = (5 : Int32) → p3_liftedSet σ 4 (fun r9 => Q r9)) ∧ (¬ x1 = (5 : Int32) → (x1 = (6 : Int32) → Q (σ.1 4 7)) ∧ (¬ x1 = (6 : Int32) → (x1 = (7 : Int32) → Q (σ.1 4 4)) ∧ (¬ x1 = (7 : Int32) → (x1 = (8 : Int32) → p6_thoseThere σ 1 (fun r13 => Q r13)) ∧ (¬ x1 = (8 : Int32) → (x1 = (9 : Int32) → p6_thoseThere σ 2 (fun r15 => Q r15)) ∧ (¬ x1 = (9 : Int32) → (x1 = (10 : Int32) → p6_keptParishes σ (fun r17 => Q r17)) ∧ (¬ x1 = (10 : Int32) → (x1 = (11 : Int32) → p3_boxes σ 4 (fun r19 => Q r19)) ∧ (¬ x1 = (11 : Int32) → Q (-1 : Int32)))))))))))))
set_option maxHeartbeats 4000000 in
theorem q6_count {σ : kx_St} {x1 : Int32} {Q : Int32 → Prop} (h : p6_count σ x1 Q) : Met l yX6_count (Cond.code yX6_count cX6_count 2 (some .int) :: kx_big) rm6_count (va_Pc [.ref (ad 0), .int x1] (kx_Wd D cy 0 ad A σ)) (kx_Qc kx_ci (fun u r => u = σ ∧ Q r) (kx_Wd D cy 0 ad A) A) 0 0 A := by
  refine kx_head (plainFor_of_name (by decide)) (Nat.le_of_ble_eq_true rfl) ?_
  intro p e s m below meth c ls cx hP hD hS hl
  obtain ⟨hx, hb, hr, hlocks, hml, hown, hts, hK⟩ := id cx
  have hl : lv_has ls 2 [(0, .ref (ad 0)), (1, .int x1)] := hl
  refine lv_iload_n (pc := 0) hx hb dX6_count_0 rfl (lv_at hl 1 rfl) ?_
  by_cases c1 : x1 = (0 : Int32)
  · have h := h.1 c1
    refine lv_tableIn (pc := 1) (tgt := 64) hx hb dX6_count_1 (by rw [c1]; decide) (by rw [c1]; decide) (off := 63) (by rw [c1]; rfl) (by decide) ?_
    refine lv_aload_n (pc := 64) hx hb dX6_count_64 rfl (lv_at hl 0 rfl) ?_
    refine fg6_25 (pc := 65) (b := 4) hx hb hown hts hK hP rfl rfl dX6_count_65 ?_
    refine fg6_128 (pc := 68) hx hb hown hts hK hP rfl dX6_count_68 ?_
    exact kx_iret (pc := 71) hx hb hr hlocks hK hP hD hS ⟨rfl, h⟩ dX6_count_71
  · have h := h.2 c1
    by_cases c2 : x1 = (1 : Int32)
    · have h := h.1 c2
      refine lv_tableIn (pc := 1) (tgt := 72) hx hb dX6_count_1 (by rw [c2]; decide) (by rw [c2]; decide) (off := 71) (by rw [c2]; rfl) (by decide) ?_
      refine lv_aload_n (pc := 72) hx hb dX6_count_72 rfl (lv_at hl 0 rfl) ?_
      refine fg6_25 (pc := 73) (b := 4) hx hb hown hts hK hP rfl rfl dX6_count_73 ?_
      refine fg6_194 (pc := 76) hx hb hown hts hK hP rfl dX6_count_76 ?_
      exact kx_iret (pc := 79) hx hb hr hlocks hK hP hD hS ⟨rfl, h⟩ dX6_count_79
    · have h := h.2 c2
      by_cases c3 : x1 = (2 : Int32)
      · have h := h.1 c3
        refine lv_tableIn (pc := 1) (tgt := 80) hx hb dX6_count_1 (by rw [c3]; decide) (by rw [c3]; decide) (off := 79) (by rw [c3]; rfl) (by decide) ?_
        refine lv_aload_n (pc := 80) hx hb dX6_count_80 rfl (lv_at hl 0 rfl) ?_
        refine fg6_25 (pc := 81) (b := 4) hx hb hown hts hK hP rfl rfl dX6_count_81 ?_
        refine fg6_203 (pc := 84) hx hb hown hts hK hP rfl dX6_count_84 ?_
        exact kx_iret (pc := 87) hx hb hr hlocks hK hP hD hS ⟨rfl, h⟩ dX6_count_87
      · have h := h.2 c3
        by_cases c4 : x1 = (3 : Int32)
        · have h := h.1 c4
          refine lv_tableIn (pc := 1) (tgt := 88) hx hb dX6_count_1 (by rw [c4]; decide) (by rw [c4]; decide) (off := 87) (by rw [c4]; rfl) (by decide) ?_
          refine lv_aload_n (pc := 88) hx hb dX6_count_88 rfl (lv_at hl 0 rfl) ?_
          refine fg6_25 (pc := 89) (b := 4) hx hb hown hts hK hP rfl rfl dX6_count_89 ?_
          refine lv_iconst (pc := 92) (v := (0 : Int32)) hx hb dX6_count_92 (by decide) ?_
          refine kx_iVi (pc := 93) [.int (0 : Int32)] hx hb hml hown hts hK hP hD hS (q3_windIn h) (cw6_144 hts ⟨Nat.le_of_ble_eq_true rfl, Nat.le_of_ble_eq_true rfl⟩) rfl (by decide) rfl rfl hl.1 rfl (Nat.le_of_ble_eq_true rfl) ⟨Nat.le_of_ble_eq_true rfl, Nat.le_of_ble_eq_true rfl⟩ dX6_count_93 (fun r5 u_ H locs hP hD hS h => ?_)
          obtain ⟨hu_, h⟩ := h
          rw [hu_] at hP hD
          exact kx_iret (pc := 96) hx hb hr hlocks hK hP hD hS ⟨rfl, h⟩ dX6_count_96
        · have h := h.2 c4
          by_cases c6 : x1 = (4 : Int32)
          · have h := h.1 c6
            refine lv_tableIn (pc := 1) (tgt := 97) hx hb dX6_count_1 (by rw [c6]; decide) (by rw [c6]; decide) (off := 96) (by rw [c6]; rfl) (by decide) ?_
            refine lv_aload_n (pc := 97) hx hb dX6_count_97 rfl (lv_at hl 0 rfl) ?_
            refine fg6_25 (pc := 98) (b := 4) hx hb hown hts hK hP rfl rfl dX6_count_98 ?_
            refine kx_iVi (pc := 101) [] hx hb hml hown hts hK hP hD hS (q3_flownSet h) (cw6_254 hts ⟨Nat.le_of_ble_eq_true rfl, Nat.le_of_ble_eq_true rfl⟩) rfl (by decide) rfl rfl hl.1 rfl (Nat.le_of_ble_eq_true rfl) ⟨Nat.le_of_ble_eq_true rfl, Nat.le_of_ble_eq_true rfl⟩ dX6_count_101 (fun r7 u_ H locs hP hD hS h => ?_)
            obtain ⟨hu_, h⟩ := h
            rw [hu_] at hP hD
            exact kx_iret (pc := 104) hx hb hr hlocks hK hP hD hS ⟨rfl, h⟩ dX6_count_104
          · have h := h.2 c6
            by_cases c8 : x1 = (5 : Int32)
            · have h := h.1 c8
              refine lv_tableIn (pc := 1) (tgt := 105) hx hb dX6_count_1 (by rw [c8]; decide) (by rw [c8]; decide) (off := 104) (by rw [c8]; rfl) (by decide) ?_
              refine lv_aload_n (pc := 105) hx hb dX6_count_105 rfl (lv_at hl 0 rfl) ?_
              refine fg6_25 (pc := 106) (b := 4) hx hb hown hts hK hP rfl rfl dX6_count_106 ?_
              refine kx_iVi (pc := 109) [] hx hb hml hown hts hK hP hD hS (q3_liftedSet h) (cw6_284 hts ⟨Nat.le_of_ble_eq_true rfl, Nat.le_of_ble_eq_true rfl⟩) rfl (by decide) rfl rfl hl.1 rfl (Nat.le_of_ble_eq_true rfl) ⟨Nat.le_of_ble_eq_true rfl, Nat.le_of_ble_eq_true rfl⟩ dX6_count_109 (fun r9 u_ H locs hP hD hS h => ?_)
              obtain ⟨hu_, h⟩ := h
              rw [hu_] at hP hD
              exact kx_iret (pc := 112) hx hb hr hlocks hK hP hD hS ⟨rfl, h⟩ dX6_count_112
            · have h := h.2 c8
              by_cases c10 : x1 = (6 : Int32)
              · have h := h.1 c10
                refine lv_tableIn (pc := 1) (tgt := 113) hx hb dX6_count_1 (by rw [c10]; decide) (by rw [c10]; decide) (off := 112) (by rw [c10]; rfl) (by decide) ?_
                refine lv_aload_n (pc := 113) hx hb dX6_count_113 rfl (lv_at hl 0 rfl) ?_
                refine fg6_25 (pc := 114) (b := 4) hx hb hown hts hK hP rfl rfl dX6_count_114 ?_
                refine fg6_217 (pc := 117) hx hb hown hts hK hP rfl dX6_count_117 ?_
                exact kx_iret (pc := 120) hx hb hr hlocks hK hP hD hS ⟨rfl, h⟩ dX6_count_120
              · have h := h.2 c10
                by_cases c11 : x1 = (7 : Int32)
                · have h := h.1 c11
                  refine lv_tableIn (pc := 1) (tgt := 121) hx hb dX6_count_1 (by rw [c11]; decide) (by rw [c11]; decide) (off := 120) (by rw [c11]; rfl) (by decide) ?_
                  refine lv_aload_n (pc := 121) hx hb dX6_count_121 rfl (lv_at hl 0 rfl) ?_
                  refine fg6_25 (pc := 122) (b := 4) hx hb hown hts hK hP rfl rfl dX6_count_122 ?_
                  refine fg6_218 (pc := 125) hx hb hown hts hK hP rfl dX6_count_125 ?_
                  exact kx_iret (pc := 128) hx hb hr hlocks hK hP hD hS ⟨rfl, h⟩ dX6_count_128
                · have h := h.2 c11
                  by_cases c12 : x1 = (8 : Int32)
                  · have h := h.1 c12
                    refine lv_tableIn (pc := 1) (tgt := 129) hx hb dX6_count_1 (by rw [c12]; decide) (by rw [c12]; decide) (off := 128) (by rw [c12]; rfl) (by decide) ?_
                    refine lv_aload_n (pc := 129) hx hb dX6_count_129 rfl (lv_at hl 0 rfl) ?_
                    refine fg6_11 (pc := 130) (b := 1) hx hb hown hts hK hP rfl rfl dX6_count_130 ?_
                    refine kx_iSi (pc := 133) [.ref (ad 1)] hx hb hml hown hts hK hP hD hS (q6_thoseThere h) (cw6_287 hts ⟨Nat.le_of_ble_eq_true rfl, Nat.le_of_ble_eq_true rfl⟩) rfl hl.1 rfl (Nat.le_of_ble_eq_true rfl) ⟨Nat.le_of_ble_eq_true rfl, Nat.le_of_ble_eq_true rfl⟩ dX6_count_133 (fun r13 u_ H locs hP hD hS h => ?_)
                    obtain ⟨hu_, h⟩ := h
                    rw [hu_] at hP hD
                    exact kx_iret (pc := 136) hx hb hr hlocks hK hP hD hS ⟨rfl, h⟩ dX6_count_136
                  · have h := h.2 c12
                    by_cases c14 : x1 = (9 : Int32)
                    · have h := h.1 c14
                      refine lv_tableIn (pc := 1) (tgt := 137) hx hb dX6_count_1 (by rw [c14]; decide) (by rw [c14]; decide) (off := 136) (by rw [c14]; rfl) (by decide) ?_
                      refine lv_aload_n (pc := 137) hx hb dX6_count_137 rfl (lv_at hl 0 rfl) ?_
                      refine fg6_15 (pc := 138) (b := 2) hx hb hown hts hK hP rfl rfl dX6_count_138 ?_
                      refine kx_iSi (pc := 141) [.ref (ad 2)] hx hb hml hown hts hK hP hD hS (q6_thoseThere h) (cw6_287 hts ⟨Nat.le_of_ble_eq_true rfl, Nat.le_of_ble_eq_true rfl⟩) rfl hl.1 rfl (Nat.le_of_ble_eq_true rfl) ⟨Nat.le_of_ble_eq_true rfl, Nat.le_of_ble_eq_true rfl⟩ dX6_count_141 (fun r15 u_ H locs hP hD hS h => ?_)
                      obtain ⟨hu_, h⟩ := h
                      rw [hu_] at hP hD
                      exact kx_iret (pc := 144) hx hb hr hlocks hK hP hD hS ⟨rfl, h⟩ dX6_count_144
                    · have h := h.2 c14
                      by_cases c16 : x1 = (10 : Int32)
                      · have h := h.1 c16
                        refine lv_tableIn (pc := 1) (tgt := 145) hx hb dX6_count_1 (by rw [c16]; decide) (by rw [c16]; decide) (off := 144) (by rw [c16]; rfl) (by decide) ?_
                        refine lv_aload_n (pc := 145) hx hb dX6_count_145 rfl (lv_at hl 0 rfl) ?_
                        refine kx_iVi (pc := 146) [] hx hb hml hown hts hK hP hD hS (q6_keptParishes h) (cw6_291 hts ⟨Nat.le_of_ble_eq_true rfl, Nat.le_of_ble_eq_true rfl⟩) rfl (by decide) rfl rfl hl.1 rfl (Nat.le_of_ble_eq_true rfl) ⟨Nat.le_of_ble_eq_true rfl, Nat.le_of_ble_eq_true rfl⟩ dX6_count_146 (fun r17 u_ H locs hP hD hS h => ?_)
                        obtain ⟨hu_, h⟩ := h
                        rw [hu_] at hP hD
                        exact kx_iret (pc := 149) hx hb hr hlocks hK hP hD hS ⟨rfl, h⟩ dX6_count_149
                      · have h := h.2 c16
                        by_cases c18 : x1 = (11 : Int32)
                        · have h := h.1 c18
                          refine lv_tableIn (pc := 1) (tgt := 150) hx hb dX6_count_1 (by rw [c18]; decide) (by rw [c18]; decide) (off := 149) (by rw [c18]; rfl) (by decide) ?_
                          refine lv_aload_n (pc := 150) hx hb dX6_count_150 rfl (lv_at hl 0 rfl) ?_
                          refine fg6_25 (pc := 151) (b := 4) hx hb hown hts hK hP rfl rfl dX6_count_151 ?_
                          refine kx_iVi (pc := 154) [] hx hb hml hown hts hK hP hD hS (q3_boxes h) (cw6_294 hts ⟨Nat.le_of_ble_eq_true rfl, Nat.le_of_ble_eq_true rfl⟩) rfl (by decide) rfl rfl hl.1 rfl (Nat.le_of_ble_eq_true rfl) ⟨Nat.le_of_ble_eq_true rfl, Nat.le_of_ble_eq_true rfl⟩ dX6_count_154 (fun r19 u_ H locs hP hD hS h => ?_)
                          obtain ⟨hu_, h⟩ := h
                          rw [hu_] at hP hD
                          exact kx_iret (pc := 157) hx hb hr hlocks hK hP hD hS ⟨rfl, h⟩ dX6_count_157
                        · have h := h.2 c18
                          have tc1 : x1.toInt ≠ 0 := fun q => c1 (Int32.toInt_inj.mp (q.trans (by decide)))
                          have tc2 : x1.toInt ≠ 1 := fun q => c2 (Int32.toInt_inj.mp (q.trans (by decide)))
                          have tc3 : x1.toInt ≠ 2 := fun q => c3 (Int32.toInt_inj.mp (q.trans (by decide)))
                          have tc4 : x1.toInt ≠ 3 := fun q => c4 (Int32.toInt_inj.mp (q.trans (by decide)))
                          have tc6 : x1.toInt ≠ 4 := fun q => c6 (Int32.toInt_inj.mp (q.trans (by decide)))
                          have tc8 : x1.toInt ≠ 5 := fun q => c8 (Int32.toInt_inj.mp (q.trans (by decide)))
                          have tc10 : x1.toInt ≠ 6 := fun q => c10 (Int32.toInt_inj.mp (q.trans (by decide)))
                          have tc11 : x1.toInt ≠ 7 := fun q => c11 (Int32.toInt_inj.mp (q.trans (by decide)))
                          have tc12 : x1.toInt ≠ 8 := fun q => c12 (Int32.toInt_inj.mp (q.trans (by decide)))
                          have tc14 : x1.toInt ≠ 9 := fun q => c14 (Int32.toInt_inj.mp (q.trans (by decide)))
                          have tc16 : x1.toInt ≠ 10 := fun q => c16 (Int32.toInt_inj.mp (q.trans (by decide)))
                          have tc18 : x1.toInt ≠ 11 := fun q => c18 (Int32.toInt_inj.mp (q.trans (by decide)))
                          refine lv_tableOut (pc := 1) (tgt := 158) hx hb dX6_count_1 (kx_swd (fun k q1 q2 => by omega)) (by decide) ?_
                          refine lv_iconst (pc := 158) (v := (-1 : Int32)) hx hb dX6_count_158 (by decide) ?_
                          exact kx_iret (pc := 159) hx hb hr hlocks hK hP hD hS ⟨rfl, h⟩ dX6_count_159
def p6_finding (σ : kx_St) (Q : Int32 → Prop) : Prop := Q (σ.1 0 9)
set_option maxHeartbeats 4000000 in
theorem q6_finding {σ : kx_St}  {Q : Int32 → Prop} (h : p6_finding σ Q) : Met l yX6_finding (Cond.code yX6_finding cX6_finding 1 (some .int) :: kx_big) rm6_finding (va_Pc [.ref (ad 0)] (kx_Wd D cy 0 ad A σ)) (kx_Qc kx_ci (fun u r => u = σ ∧ Q r) (kx_Wd D cy 0 ad A) A) 0 0 A := by
  refine kx_head (plainFor_of_name (by decide)) (Nat.le_of_ble_eq_true rfl) ?_
  intro p e s m below meth c ls cx hP hD hS hl
  obtain ⟨hx, hb, hr, hlocks, hml, hown, hts, hK⟩ := id cx
  have hl : lv_has ls 1 [(0, .ref (ad 0))] := hl
  refine lv_aload_n (pc := 0) hx hb dX6_finding_0 rfl (lv_at hl 0 rfl) ?_
  refine fg6_57 (pc := 1) hx hb hown hts hK hP rfl dX6_finding_1 ?_
  exact kx_iret (pc := 4) hx hb hr hlocks hK hP hD hS ⟨rfl, h⟩ dX6_finding_4
def p6_findings (σ : kx_St) (x1 : Int32) (Q : Int32 → Prop) : Prop := (x1 < (1 : Int32) → Q (-1 : Int32)) ∧ (¬ x1 < (1 : Int32) → (x1 < (Int32.ofNat 6) → vp_in x1 6 ∧ (Q (σ.1 28 x1.toNatClampNeg))) ∧ (¬ x1 < (Int32.ofNat 6) → Q (-1 : Int32)))
set_option maxHeartbeats 4000000 in
theorem q6_findings {σ : kx_St} {x1 : Int32} {Q : Int32 → Prop} (h : p6_findings σ x1 Q) : Met l yX6_findings (Cond.code yX6_findings cX6_findings 2 (some .int) :: kx_big) rm6_findings (va_Pc [.ref (ad 0), .int x1] (kx_Wd D cy 0 ad A σ)) (kx_Qc kx_ci (fun u r => u = σ ∧ Q r) (kx_Wd D cy 0 ad A) A) 0 0 A := by
  refine kx_head (plainFor_of_name (by decide)) (Nat.le_of_ble_eq_true rfl) ?_
  intro p e s m below meth c ls cx hP hD hS hl
  obtain ⟨hx, hb, hr, hlocks, hml, hown, hts, hK⟩ := id cx
  have hl : lv_has ls 2 [(0, .ref (ad 0)), (1, .int x1)] := hl
  refine lv_iload_n (pc := 0) hx hb dX6_findings_0 rfl (lv_at hl 1 rfl) ?_
  refine lv_iconst (pc := 1) (v := (1 : Int32)) hx hb dX6_findings_1 (by decide) ?_
  refine lv_icmp_lt (pc := 2) (tgt := 14) hx hb dX6_findings_2 (by decide) (fun c1 => ?_) (fun c1 => ?_)
  · have h := h.1 c1
    refine lv_iconst (pc := 14) (v := (-1 : Int32)) hx hb dX6_findings_14 (by decide) ?_
    exact kx_iret (pc := 15) hx hb hr hlocks hK hP hD hS ⟨rfl, h⟩ dX6_findings_15
  · have h := h.2 c1
    refine lv_iload_n (pc := 5) hx hb dX6_findings_5 rfl (lv_at hl 1 rfl) ?_
    refine lv_aload_n (pc := 6) hx hb dX6_findings_6 rfl (lv_at hl 0 rfl) ?_
    refine fg6_53 (pc := 7) (b := 28) hx hb hown hts hK hP rfl rfl dX6_findings_7 ?_
    refine kx_alen (pc := 10) hx hb hK hP rfl (by decide) (by decide) dX6_findings_10 ?_
    refine lv_icmp_lt (pc := 11) (tgt := 16) hx hb dX6_findings_11 (by decide) (fun c2 => ?_) (fun c2 => ?_)
    · have h := h.1 c2
      refine lv_aload_n (pc := 16) hx hb dX6_findings_16 rfl (lv_at hl 0 rfl) ?_
      refine fg6_53 (pc := 17) (b := 28) hx hb hown hts hK hP rfl rfl dX6_findings_17 ?_
      refine lv_iload_n (pc := 20) hx hb dX6_findings_20 rfl (lv_at hl 1 rfl) ?_
      obtain ⟨g3, h⟩ := h
      refine kx_iald (pc := 21) hx hb hK hP rfl g3 dX6_findings_21 ?_
      exact kx_iret (pc := 22) hx hb hr hlocks hK hP hD hS ⟨rfl, h⟩ dX6_findings_22
    · have h := h.2 c2
      refine lv_iconst (pc := 14) (v := (-1 : Int32)) hx hb dX6_findings_14 (by decide) ?_
      exact kx_iret (pc := 15) hx hb hr hlocks hK hP hD hS ⟨rfl, h⟩ dX6_findings_15
def p6_digestOf_L30 : Nat → kx_St → Nat → Int64 → Int32 → Int32 → (Nat → Int64 → Int32 → Prop) → (Int64 → Prop) → Prop
  | 0, _, _, _, _, _, _, _ => False
  | n + 1, σ, x0, x3, x5, x6, k5, Q => vp_in x5 (kx_l 0 x0) ∧ (((σ.1 (kx_r 0 x0 x5.toNatClampNeg) 1) ≤ x6 → k5 x0 x3 (x5 + (1 : Int32))) ∧ (¬ (σ.1 (kx_r 0 x0 x5.toNatClampNeg) 1) ≤ x6 → vp_in x5 (kx_l 0 x0) ∧ (p5_get σ (kx_r 0 x0 x5.toNatClampNeg) x6 (fun r4 => p6_digestOf_L30 n σ x0 (((31 : Int64) * x3) + (r4.toInt64)) x5 (x6 + (1 : Int32)) k5 Q))))
set_option maxHeartbeats 4000000 in
theorem w6_digestOf_L30 {σ : kx_St} {k5 : Nat → Int64 → Int32 → Prop} {Q : Int64 → Prop} (cx : kx_Cx p s m args meth c D cy RX6 cX6_digestOf 7 (some .long)) (hk5 : ∀ (x0 : Nat) (x3 : Int64) (x5 : Int32) (H : Heap) (locs : List Loc) (ls : Array Slot), kx_k 0 x0 = 11 → k5 x0 x3 x5 → va_P D vwCl (kx_ws cy 0 ad σ) H → va_D A (kx_ws cy 0 ad σ) → va_S A s.heap H locs → lv_has ls 7 [(0, .ref (ad x0)), (3, .long x3), (5, .int x5)] → W p l e rm6_digestOf s m args below meth c H locs 0 0 (MQ below (kx_Qc kx_cl (fun u r => u = σ ∧ Q r) (kx_Wd D cy 0 ad A) A) args s 0 0 A) (F0 m 5 ls [])) : ∀ (n : Nat) (x0 : Nat) (x3 : Int64) (x5 : Int32) (x6 : Int32) (H : Heap) (locs : List Loc) (ls : Array Slot), kx_k 0 x0 = 11 → p6_digestOf_L30 n σ x0 x3 x5 x6 k5 Q → va_P D vwCl (kx_ws cy 0 ad σ) H → va_D A (kx_ws cy 0 ad σ) → va_S A s.heap H locs → lv_has ls 7 [(0, .ref (ad x0)), (3, .long x3), (5, .int x5), (6, .int x6)] → W p l e rm6_digestOf s m args below meth c H locs 0 0 (MQ below (kx_Qc kx_cl (fun u r => u = σ ∧ Q r) (kx_Wd D cy 0 ad A) A) args s 0 0 A) (F0 m 30 ls []) := by
  obtain ⟨hx, hb, hr, hlocks, hml, hown, hts, hK⟩ := id cx
  intro n
  induction n with
  | zero => intro _ _ _ _ _ _ _ _ h; exact False.elim h
  | succ n ih =>
    intro x0 x3 x5 x6 H locs ls hk_x0 h hP hD hS hl
    refine lv_iload (pc := 30) hx hb dX6_digestOf_30 (lv_at hl 3 rfl) ?_
    refine lv_aload_n (pc := 32) hx hb dX6_digestOf_32 rfl (lv_at hl 0 rfl) ?_
    refine lv_iload (pc := 33) hx hb dX6_digestOf_33 (lv_at hl 2 rfl) ?_
    obtain ⟨g1, h⟩ := h
    refine kx_aald (pc := 35) hx hb hK hP hk_x0 (by decide) (by decide) g1 dX6_digestOf_35 ?_
    refine fg6_117 (pc := 36) hx hb hown hts hK hP (ky_11 hk_x0 g1) dX6_digestOf_36 ?_
    refine lv_icmp_ge (pc := 39) (tgt := 65) hx hb dX6_digestOf_39 (by decide) (fun c2 => ?_) (fun c2 => ?_)
    · have h := h.1 c2
      refine lv_iinc (pc := 65) (v := (x5 + (1 : Int32))) (lv' := [(5, .int (x5 + (1 : Int32))), (0, .ref (ad x0)), (3, .long x3), (6, .int x6)]) hx hb dX6_digestOf_65 hl (k := 2) rfl rfl (by decide) rfl (fun ls hl => ?_)
      refine lv_goto (pc := 68) (tgt := 5) hx hb dX6_digestOf_68 (by decide) ?_
      exact hk5 _ _ _ _ _ _ hk_x0 h hP hD hS (lv_sub hl [1, 2, 0] rfl)
    · have h := h.2 c2
      refine lv_ldc2 (pc := 42) (v := (31 : Int64)) hx hb hown (hts _ tb_710) dX6_digestOf_42 ?_
      refine lv_lload_n (pc := 45) hx hb dX6_digestOf_45 rfl (lv_at hl 1 rfl) ?_
      refine lv_lmul (pc := 46) hx hb dX6_digestOf_46 ?_
      refine lv_aload_n (pc := 47) hx hb dX6_digestOf_47 rfl (lv_at hl 0 rfl) ?_
      refine lv_iload (pc := 48) hx hb dX6_digestOf_48 (lv_at hl 2 rfl) ?_
      obtain ⟨g3, h⟩ := h
      refine kx_aald (pc := 50) hx hb hK hP hk_x0 (by decide) (by decide) g3 dX6_digestOf_50 ?_
      refine lv_iload (pc := 51) hx hb dX6_digestOf_51 (lv_at hl 3 rfl) ?_
      refine kx_iVi (pc := 53) [.int x6] hx hb hml hown hts hK hP hD hS (q5_get h) (cw6_94 hts ⟨Nat.le_of_ble_eq_true rfl, Nat.le_of_ble_eq_true rfl⟩) (ky_11 hk_x0 g3) (by decide) rfl rfl hl.1 rfl (Nat.le_of_ble_eq_true rfl) ⟨Nat.le_of_ble_eq_true rfl, Nat.le_of_ble_eq_true rfl⟩ dX6_digestOf_53 (fun r4 u_ H locs hP hD hS h => ?_)
      obtain ⟨hu_, h⟩ := h
      rw [hu_] at hP hD
      refine lv_i2l (pc := 56) (v := (r4.toInt64)) hx hb dX6_digestOf_56 rfl ?_
      refine lv_ladd (pc := 57) hx hb dX6_digestOf_57 ?_
      refine lv_lstore_n (pc := 58) (lv' := [(3, .long (((31 : Int64) * x3) + (r4.toInt64))), (0, .ref (ad x0)), (5, .int x5), (6, .int x6)]) hx hb dX6_digestOf_58 rfl hl (by decide) rfl (fun ls hl => ?_)
      refine lv_iinc (pc := 59) (v := (x6 + (1 : Int32))) (lv' := [(6, .int (x6 + (1 : Int32))), (3, .long (((31 : Int64) * x3) + (r4.toInt64))), (0, .ref (ad x0)), (5, .int x5)]) hx hb dX6_digestOf_59 hl (k := 3) rfl rfl (by decide) rfl (fun ls hl => ?_)
      refine lv_goto (pc := 62) (tgt := 30) hx hb dX6_digestOf_62 (by decide) ?_
      exact ih _ _ _ _ _ _ _ hk_x0 h hP hD hS (lv_sub hl [2, 1, 3, 0] rfl)
def p6_digestOf_L5 : Nat → kx_St → Nat → Int64 → Int32 → (Int64 → Prop) → Prop
  | 0, _, _, _, _, _ => False
  | n + 1, σ, x0, x3, x5, Q => ((Int32.ofNat (kx_l 0 x0)) ≤ x5 → Q x3) ∧ (¬ (Int32.ofNat (kx_l 0 x0)) ≤ x5 → vp_in x5 (kx_l 0 x0) ∧ (∃ m30, p6_digestOf_L30 m30 σ x0 (((31 : Int64) * x3) + ((σ.1 (kx_r 0 x0 x5.toNatClampNeg) 1).toInt64)) x5 (0 : Int32) (fun x0 x3 x5 => p6_digestOf_L5 n σ x0 x3 x5 Q) Q))
set_option maxHeartbeats 4000000 in
theorem w6_digestOf_L5 {σ : kx_St}  {Q : Int64 → Prop} (cx : kx_Cx p s m args meth c D cy RX6 cX6_digestOf 7 (some .long))  : ∀ (n : Nat) (x0 : Nat) (x3 : Int64) (x5 : Int32) (H : Heap) (locs : List Loc) (ls : Array Slot), kx_k 0 x0 = 11 → p6_digestOf_L5 n σ x0 x3 x5 Q → va_P D vwCl (kx_ws cy 0 ad σ) H → va_D A (kx_ws cy 0 ad σ) → va_S A s.heap H locs → lv_has ls 7 [(0, .ref (ad x0)), (3, .long x3), (5, .int x5)] → W p l e rm6_digestOf s m args below meth c H locs 0 0 (MQ below (kx_Qc kx_cl (fun u r => u = σ ∧ Q r) (kx_Wd D cy 0 ad A) A) args s 0 0 A) (F0 m 5 ls []) := by
  obtain ⟨hx, hb, hr, hlocks, hml, hown, hts, hK⟩ := id cx
  intro n
  induction n with
  | zero => intro _ _ _ _ _ _ _ h; exact False.elim h
  | succ n ih =>
    intro x0 x3 x5 H locs ls hk_x0 h hP hD hS hl
    refine lv_iload (pc := 5) hx hb dX6_digestOf_5 (lv_at hl 2 rfl) ?_
    refine lv_aload_n (pc := 7) hx hb dX6_digestOf_7 rfl (lv_at hl 0 rfl) ?_
    refine kx_alen (pc := 8) hx hb hK hP hk_x0 (by decide) (by decide) dX6_digestOf_8 ?_
    refine lv_icmp_ge (pc := 9) (tgt := 71) hx hb dX6_digestOf_9 (by decide) (fun c1 => ?_) (fun c1 => ?_)
    · have h := h.1 c1
      refine lv_lload_n (pc := 71) hx hb dX6_digestOf_71 rfl (lv_at hl 1 rfl) ?_
      exact kx_lret (pc := 72) hx hb hr hlocks hK hP hD hS ⟨rfl, h⟩ dX6_digestOf_72
    · have h := h.2 c1
      refine lv_ldc2 (pc := 12) (v := (31 : Int64)) hx hb hown (hts _ tb_710) dX6_digestOf_12 ?_
      refine lv_lload_n (pc := 15) hx hb dX6_digestOf_15 rfl (lv_at hl 1 rfl) ?_
      refine lv_lmul (pc := 16) hx hb dX6_digestOf_16 ?_
      refine lv_aload_n (pc := 17) hx hb dX6_digestOf_17 rfl (lv_at hl 0 rfl) ?_
      refine lv_iload (pc := 18) hx hb dX6_digestOf_18 (lv_at hl 2 rfl) ?_
      obtain ⟨g2, h⟩ := h
      refine kx_aald (pc := 20) hx hb hK hP hk_x0 (by decide) (by decide) g2 dX6_digestOf_20 ?_
      refine fg6_117 (pc := 21) hx hb hown hts hK hP (ky_11 hk_x0 g2) dX6_digestOf_21 ?_
      refine lv_i2l (pc := 24) (v := ((σ.1 (kx_r 0 x0 x5.toNatClampNeg) 1).toInt64)) hx hb dX6_digestOf_24 rfl ?_
      refine lv_ladd (pc := 25) hx hb dX6_digestOf_25 ?_
      refine lv_lstore_n (pc := 26) (lv' := [(3, .long (((31 : Int64) * x3) + ((σ.1 (kx_r 0 x0 x5.toNatClampNeg) 1).toInt64))), (0, .ref (ad x0)), (5, .int x5)]) hx hb dX6_digestOf_26 rfl hl (by decide) rfl (fun ls hl => ?_)
      refine lv_iconst (pc := 27) (v := (0 : Int32)) hx hb dX6_digestOf_27 (by decide) ?_
      refine lv_istore (pc := 28) (lv' := [(6, .int (0 : Int32)), (3, .long (((31 : Int64) * x3) + ((σ.1 (kx_r 0 x0 x5.toNatClampNeg) 1).toInt64))), (0, .ref (ad x0)), (5, .int x5)]) hx hb dX6_digestOf_28 hl (by decide) rfl (fun ls hl => ?_)
      have hc3 : ∀ (x0 : Nat) (x3 : Int64) (x5 : Int32) (H : Heap) (locs : List Loc) (ls : Array Slot), kx_k 0 x0 = 11 → (fun x0 x3 x5 => p6_digestOf_L5 n σ x0 x3 x5 Q) x0 x3 x5 → va_P D vwCl (kx_ws cy 0 ad σ) H → va_D A (kx_ws cy 0 ad σ) → va_S A s.heap H locs → lv_has ls 7 [(0, .ref (ad x0)), (3, .long x3), (5, .int x5)] → W p l e rm6_digestOf s m args below meth c H locs 0 0 (MQ below (kx_Qc kx_cl (fun u r => u = σ ∧ Q r) (kx_Wd D cy 0 ad A) A) args s 0 0 A) (F0 m 5 ls []) := fun x0 x3 x5 H locs ls hk_x0 h hP hD hS hl => ih _ _ _ _ _ _ hk_x0 h hP hD hS hl
      obtain ⟨n0, h⟩ := h
      exact w6_digestOf_L30 cx hc3 n0 _ _ _ _ _ _ _ hk_x0 h hP hD hS (lv_sub hl [2, 1, 3, 0] rfl)
def p6_digestOf (σ : kx_St) (x0 : Nat) (x1 : Int64) (Q : Int64 → Prop) : Prop := kx_k 0 x0 = 11 ∧ (∃ m5, p6_digestOf_L5 m5 σ x0 x1 (0 : Int32) Q)
set_option maxHeartbeats 4000000 in
theorem q6_digestOf {σ : kx_St} {x0 : Nat} {x1 : Int64} {Q : Int64 → Prop} (h : p6_digestOf σ x0 x1 Q) : Met l yX6_digestOf (Cond.code yX6_digestOf cX6_digestOf 7 (some .long) :: kx_big) rm6_digestOf (va_Pc [.ref (ad x0), .long x1] (kx_Wd D cy 0 ad A σ)) (kx_Qc kx_cl (fun u r => u = σ ∧ Q r) (kx_Wd D cy 0 ad A) A) 0 0 A := by
  refine kx_head (plainFor_of_name (by decide)) (Nat.le_of_ble_eq_true rfl) ?_
  intro p e s m below meth c ls cx hP hD hS hl
  obtain ⟨hx, hb, hr, hlocks, hml, hown, hts, hK⟩ := id cx
  obtain ⟨hk_x0, h⟩ := h
  have hl : lv_has ls 7 [(0, .ref (ad x0)), (1, .long x1)] := hl
  refine lv_lload_n (pc := 0) hx hb dX6_digestOf_0 rfl (lv_at hl 1 rfl) ?_
  refine lv_lstore_n (pc := 1) (lv' := [(3, .long x1), (0, .ref (ad x0)), (1, .long x1)]) hx hb dX6_digestOf_1 rfl hl (by decide) rfl (fun ls hl => ?_)
  refine lv_iconst (pc := 2) (v := (0 : Int32)) hx hb dX6_digestOf_2 (by decide) ?_
  refine lv_istore (pc := 3) (lv' := [(5, .int (0 : Int32)), (3, .long x1), (0, .ref (ad x0)), (1, .long x1)]) hx hb dX6_digestOf_3 hl (by decide) rfl (fun ls hl => ?_)
  obtain ⟨n0, h⟩ := h
  exact w6_digestOf_L5 cx  n0 _ _ _ _ _ _ hk_x0 h hP hD hS (lv_sub hl [2, 1, 0] rfl)
def p6_digest_L94 : Nat → kx_St → Int64 → Int32 → (Option Nat) → Int32 → (Int64 → Int32 → Prop) → (Int64 → Prop) → Prop
  | 0, _, _, _, _, _, _, _ => False
  | n + 1, σ, x1, x3, x4, x5, k70, Q => (x4 = none → k70 x1 (x3 + (1 : Int32))) ∧ (∀ b0, x4 = some b0 → kx_k 0 b0 = 1 ∧ (((7 : Int32) ≤ x5 → k70 x1 (x3 + (1 : Int32))) ∧ (¬ (7 : Int32) ≤ x5 → p6_ofKite σ b0 x5 (fun r2 => p6_digest_L94 n σ (((31 : Int64) * x1) + (r2.toInt64)) x3 (some b0) (x5 + (1 : Int32)) k70 Q))))
set_option maxHeartbeats 4000000 in
theorem w6_digest_L94 {σ : kx_St} {k70 : Int64 → Int32 → Prop} {Q : Int64 → Prop} (cx : kx_Cx p s m args meth c D cy RX6 cX6_digest 6 (some .long)) (hk70 : ∀ (x1 : Int64) (x3 : Int32) (H : Heap) (locs : List Loc) (ls : Array Slot), k70 x1 x3 → va_P D vwCl (kx_ws cy 0 ad σ) H → va_D A (kx_ws cy 0 ad σ) → va_S A s.heap H locs → lv_has ls 6 [(0, .ref (ad 0)), (1, .long x1), (3, .int x3)] → W p l e rm6_digest s m args below meth c H locs 0 0 (MQ below (kx_Qc kx_cl (fun u r => u = σ ∧ Q r) (kx_Wd D cy 0 ad A) A) args s 0 0 A) (F0 m 70 ls [])) : ∀ (n : Nat) (x1 : Int64) (x3 : Int32) (x4 : (Option Nat)) (x5 : Int32) (H : Heap) (locs : List Loc) (ls : Array Slot), p6_digest_L94 n σ x1 x3 x4 x5 k70 Q → va_P D vwCl (kx_ws cy 0 ad σ) H → va_D A (kx_ws cy 0 ad σ) → va_S A s.heap H locs → lv_has ls 6 [(0, .ref (ad 0)), (1, .long x1), (3, .int x3), (4, kx_rf ad x4), (5, .int x5)] → W p l e rm6_digest s m args below meth c H locs 0 0 (MQ below (kx_Qc kx_cl (fun u r => u = σ ∧ Q r) (kx_Wd D cy 0 ad A) A) args s 0 0 A) (F0 m 94 ls []) := by
  obtain ⟨hx, hb, hr, hlocks, hml, hown, hts, hK⟩ := id cx
  intro n
  induction n with
  | zero => intro _ _ _ _ _ _ _ h; exact False.elim h
  | succ n ih =>
    intro x1 x3 x4 x5 H locs ls h hP hD hS hl
    rcases x4 with _ | b0
    · have h := h.1 rfl
      have hl : lv_has ls 6 [(0, .ref (ad 0)), (1, .long x1), (3, .int x3), (4, .null), (5, .int x5)] := hl
      refine lv_aloadN (pc := 94) hx hb dX6_digest_94 (lv_at hl 3 rfl) ?_
      refine lv_ifnullN (pc := 96) (tgt := 128) hx hb dX6_digest_96 (by decide) ?_
      refine lv_iinc (pc := 128) (v := (x3 + (1 : Int32))) (lv' := [(3, .int (x3 + (1 : Int32))), (0, .ref (ad 0)), (1, .long x1), (4, .null), (5, .int x5)]) hx hb dX6_digest_128 hl (k := 2) rfl rfl (by decide) rfl (fun ls hl => ?_)
      refine lv_goto (pc := 131) (tgt := 70) hx hb dX6_digest_131 (by decide) ?_
      exact hk70 _ _ _ _ _ h hP hD hS (lv_sub hl [1, 2, 0] rfl)
    · obtain ⟨hk_b0, h⟩ := h.2 b0 rfl
      have hl : lv_has ls 6 [(0, .ref (ad 0)), (1, .long x1), (3, .int x3), (4, .ref (ad b0)), (5, .int x5)] := hl
      refine lv_aload (pc := 94) hx hb dX6_digest_94 (lv_at hl 3 rfl) ?_
      refine lv_ifnull (pc := 96) hx hb dX6_digest_96 ?_
      refine lv_iload (pc := 99) hx hb dX6_digest_99 (lv_at hl 4 rfl) ?_
      refine lv_bipush (pc := 101) (v := (7 : Int32)) hx hb dX6_digest_101 (by decide) ?_
      refine lv_icmp_ge (pc := 103) (tgt := 128) hx hb dX6_digest_103 (by decide) (fun c1 => ?_) (fun c1 => ?_)
      · have h := h.1 c1
        refine lv_iinc (pc := 128) (v := (x3 + (1 : Int32))) (lv' := [(3, .int (x3 + (1 : Int32))), (0, .ref (ad 0)), (1, .long x1), (4, .ref (ad b0)), (5, .int x5)]) hx hb dX6_digest_128 hl (k := 2) rfl rfl (by decide) rfl (fun ls hl => ?_)
        refine lv_goto (pc := 131) (tgt := 70) hx hb dX6_digest_131 (by decide) ?_
        exact hk70 _ _ _ _ _ h hP hD hS (lv_sub hl [1, 2, 0] rfl)
      · have h := h.2 c1
        refine lv_ldc2 (pc := 106) (v := (31 : Int64)) hx hb hown (hts _ tb_710) dX6_digest_106 ?_
        refine lv_lload_n (pc := 109) hx hb dX6_digest_109 rfl (lv_at hl 1 rfl) ?_
        refine lv_lmul (pc := 110) hx hb dX6_digest_110 ?_
        refine lv_aload_n (pc := 111) hx hb dX6_digest_111 rfl (lv_at hl 0 rfl) ?_
        refine lv_aload (pc := 112) hx hb dX6_digest_112 (lv_at hl 3 rfl) ?_
        refine lv_iload (pc := 114) hx hb dX6_digest_114 (lv_at hl 4 rfl) ?_
        refine kx_iVi (pc := 116) [.ref (ad b0), .int x5] hx hb hml hown hts hK hP hD hS (q6_ofKite h) (cw6_135 hts ⟨Nat.le_of_ble_eq_true rfl, Nat.le_of_ble_eq_true rfl⟩) rfl (by decide) rfl rfl hl.1 rfl (Nat.le_of_ble_eq_true rfl) ⟨Nat.le_of_ble_eq_true rfl, Nat.le_of_ble_eq_true rfl⟩ dX6_digest_116 (fun r2 u_ H locs hP hD hS h => ?_)
        obtain ⟨hu_, h⟩ := h
        rw [hu_] at hP hD
        refine lv_i2l (pc := 119) (v := (r2.toInt64)) hx hb dX6_digest_119 rfl ?_
        refine lv_ladd (pc := 120) hx hb dX6_digest_120 ?_
        refine lv_lstore_n (pc := 121) (lv' := [(1, .long (((31 : Int64) * x1) + (r2.toInt64))), (0, .ref (ad 0)), (3, .int x3), (4, .ref (ad b0)), (5, .int x5)]) hx hb dX6_digest_121 rfl hl (by decide) rfl (fun ls hl => ?_)
        refine lv_iinc (pc := 122) (v := (x5 + (1 : Int32))) (lv' := [(5, .int (x5 + (1 : Int32))), (1, .long (((31 : Int64) * x1) + (r2.toInt64))), (0, .ref (ad 0)), (3, .int x3), (4, .ref (ad b0))]) hx hb dX6_digest_122 hl (k := 4) rfl rfl (by decide) rfl (fun ls hl => ?_)
        refine lv_goto (pc := 125) (tgt := 94) hx hb dX6_digest_125 (by decide) ?_
        exact ih _ _ _ _ _ _ _ h hP hD hS (lv_sub hl [2, 1, 3, 4, 0] rfl)
def p6_digest_L136 : Nat → kx_St → Int64 → Int32 → (Int64 → Prop) → Prop
  | 0, _, _, _, _ => False
  | n + 1, σ, x1, x3, Q => ((Int32.ofNat 3) ≤ x3 → p6_digestOf σ 1 x1 (fun r2 => p6_digestOf σ 2 r2 (fun r3 => Q r3))) ∧ (¬ (Int32.ofNat 3) ≤ x3 → vp_in x3 3 ∧ (p3_isEmpty σ (kx_r 0 3 x3.toNatClampNeg) (fun r5 => (r5 = 0 → vp_in x3 3 ∧ (p6_digest_L136 n σ (((31 : Int64) * x1) + ((σ.1 (kx_r 0 3 x3.toNatClampNeg) 6).toInt64)) (x3 + (1 : Int32)) Q)) ∧ (¬ r5 = 0 → p6_digest_L136 n σ (((31 : Int64) * x1) + ((-1 : Int32).toInt64)) (x3 + (1 : Int32)) Q))))
set_option maxHeartbeats 4000000 in
theorem w6_digest_L136 {σ : kx_St}  {Q : Int64 → Prop} (cx : kx_Cx p s m args meth c D cy RX6 cX6_digest 6 (some .long))  : ∀ (n : Nat) (x1 : Int64) (x3 : Int32) (H : Heap) (locs : List Loc) (ls : Array Slot), p6_digest_L136 n σ x1 x3 Q → va_P D vwCl (kx_ws cy 0 ad σ) H → va_D A (kx_ws cy 0 ad σ) → va_S A s.heap H locs → lv_has ls 6 [(0, .ref (ad 0)), (1, .long x1), (3, .int x3)] → W p l e rm6_digest s m args below meth c H locs 0 0 (MQ below (kx_Qc kx_cl (fun u r => u = σ ∧ Q r) (kx_Wd D cy 0 ad A) A) args s 0 0 A) (F0 m 136 ls []) := by
  obtain ⟨hx, hb, hr, hlocks, hml, hown, hts, hK⟩ := id cx
  intro n
  induction n with
  | zero => intro _ _ _ _ _ h; exact False.elim h
  | succ n ih =>
    intro x1 x3 H locs ls h hP hD hS hl
    refine lv_iload_n (pc := 136) hx hb dX6_digest_136 rfl (lv_at hl 2 rfl) ?_
    refine lv_aload_n (pc := 137) hx hb dX6_digest_137 rfl (lv_at hl 0 rfl) ?_
    refine fg6_20 (pc := 138) (b := 3) hx hb hown hts hK hP rfl rfl dX6_digest_138 ?_
    refine kx_alen (pc := 141) hx hb hK hP rfl (by decide) (by decide) dX6_digest_141 ?_
    refine lv_icmp_ge (pc := 142) (tgt := 184) hx hb dX6_digest_142 (by decide) (fun c1 => ?_) (fun c1 => ?_)
    · have h := h.1 c1
      refine lv_aload_n (pc := 184) hx hb dX6_digest_184 rfl (lv_at hl 0 rfl) ?_
      refine fg6_15 (pc := 185) (b := 2) hx hb hown hts hK hP rfl rfl dX6_digest_185 ?_
      refine lv_aload_n (pc := 188) hx hb dX6_digest_188 rfl (lv_at hl 0 rfl) ?_
      refine fg6_11 (pc := 189) (b := 1) hx hb hown hts hK hP rfl rfl dX6_digest_189 ?_
      refine lv_lload_n (pc := 192) hx hb dX6_digest_192 rfl (lv_at hl 1 rfl) ?_
      refine kx_iSl (pc := 193) [.ref (ad 1), .long x1] hx hb hml hown hts hK hP hD hS (q6_digestOf h) (cw6_307 hts ⟨Nat.le_of_ble_eq_true rfl, Nat.le_of_ble_eq_true rfl⟩) rfl hl.1 rfl (Nat.le_of_ble_eq_true rfl) ⟨Nat.le_of_ble_eq_true rfl, Nat.le_of_ble_eq_true rfl⟩ dX6_digest_193 (fun r2 u_ H locs hP hD hS h => ?_)
      obtain ⟨hu_, h⟩ := h
      rw [hu_] at hP hD
      refine kx_iSl (pc := 196) [.ref (ad 2), .long r2] hx hb hml hown hts hK hP hD hS (q6_digestOf h) (cw6_307 hts ⟨Nat.le_of_ble_eq_true rfl, Nat.le_of_ble_eq_true rfl⟩) rfl hl.1 rfl (Nat.le_of_ble_eq_true rfl) ⟨Nat.le_of_ble_eq_true rfl, Nat.le_of_ble_eq_true rfl⟩ dX6_digest_196 (fun r3 u_ H locs hP hD hS h => ?_)
      obtain ⟨hu_, h⟩ := h
      rw [hu_] at hP hD
      exact kx_lret (pc := 199) hx hb hr hlocks hK hP hD hS ⟨rfl, h⟩ dX6_digest_199
    · have h := h.2 c1
      refine lv_ldc2 (pc := 145) (v := (31 : Int64)) hx hb hown (hts _ tb_710) dX6_digest_145 ?_
      refine lv_lload_n (pc := 148) hx hb dX6_digest_148 rfl (lv_at hl 1 rfl) ?_
      refine lv_lmul (pc := 149) hx hb dX6_digest_149 ?_
      refine lv_aload_n (pc := 150) hx hb dX6_digest_150 rfl (lv_at hl 0 rfl) ?_
      refine fg6_20 (pc := 151) (b := 3) hx hb hown hts hK hP rfl rfl dX6_digest_151 ?_
      refine lv_iload_n (pc := 154) hx hb dX6_digest_154 rfl (lv_at hl 2 rfl) ?_
      obtain ⟨g4, h⟩ := h
      refine kx_aald (pc := 155) hx hb hK hP rfl (by decide) (by decide) g4 dX6_digest_155 ?_
      refine kx_iVi (pc := 156) [] hx hb hml hown hts hK hP hD hS (q3_isEmpty h) (cw6_188 hts ⟨Nat.le_of_ble_eq_true rfl, Nat.le_of_ble_eq_true rfl⟩) (ky_10 rfl g4) (by decide) rfl rfl hl.1 rfl (Nat.le_of_ble_eq_true rfl) ⟨Nat.le_of_ble_eq_true rfl, Nat.le_of_ble_eq_true rfl⟩ dX6_digest_156 (fun r5 u_ H locs hP hD hS h => ?_)
      obtain ⟨hu_, h⟩ := h
      rw [hu_] at hP hD
      refine lv_if_eq (pc := 159) (tgt := 166) hx hb dX6_digest_159 (by decide) (fun c6 => ?_) (fun c6 => ?_)
      · have h := h.1 c6
        refine lv_aload_n (pc := 166) hx hb dX6_digest_166 rfl (lv_at hl 0 rfl) ?_
        refine fg6_20 (pc := 167) (b := 3) hx hb hown hts hK hP rfl rfl dX6_digest_167 ?_
        refine lv_iload_n (pc := 170) hx hb dX6_digest_170 rfl (lv_at hl 2 rfl) ?_
        obtain ⟨g7, h⟩ := h
        refine kx_aald (pc := 171) hx hb hK hP rfl (by decide) (by decide) g7 dX6_digest_171 ?_
        refine fg6_203 (pc := 172) hx hb hown hts hK hP (ky_10 rfl g7) dX6_digest_172 ?_
        refine lv_i2l (pc := 175) (v := ((σ.1 (kx_r 0 3 x3.toNatClampNeg) 6).toInt64)) hx hb dX6_digest_175 rfl ?_
        refine lv_ladd (pc := 176) hx hb dX6_digest_176 ?_
        refine lv_lstore_n (pc := 177) (lv' := [(1, .long (((31 : Int64) * x1) + ((σ.1 (kx_r 0 3 x3.toNatClampNeg) 6).toInt64))), (0, .ref (ad 0)), (3, .int x3)]) hx hb dX6_digest_177 rfl hl (by decide) rfl (fun ls hl => ?_)
        refine lv_iinc (pc := 178) (v := (x3 + (1 : Int32))) (lv' := [(3, .int (x3 + (1 : Int32))), (1, .long (((31 : Int64) * x1) + ((σ.1 (kx_r 0 3 x3.toNatClampNeg) 6).toInt64))), (0, .ref (ad 0))]) hx hb dX6_digest_178 hl (k := 2) rfl rfl (by decide) rfl (fun ls hl => ?_)
        refine lv_goto (pc := 181) (tgt := 136) hx hb dX6_digest_181 (by decide) ?_
        exact ih _ _ _ _ _ h hP hD hS (lv_sub hl [2, 1, 0] rfl)
      · have h := h.2 c6
        refine lv_iconst (pc := 162) (v := (-1 : Int32)) hx hb dX6_digest_162 (by decide) ?_
        refine lv_goto (pc := 163) (tgt := 175) hx hb dX6_digest_163 (by decide) ?_
        refine lv_i2l (pc := 175) (v := ((-1 : Int32).toInt64)) hx hb dX6_digest_175 rfl ?_
        refine lv_ladd (pc := 176) hx hb dX6_digest_176 ?_
        refine lv_lstore_n (pc := 177) (lv' := [(1, .long (((31 : Int64) * x1) + ((-1 : Int32).toInt64))), (0, .ref (ad 0)), (3, .int x3)]) hx hb dX6_digest_177 rfl hl (by decide) rfl (fun ls hl => ?_)
        refine lv_iinc (pc := 178) (v := (x3 + (1 : Int32))) (lv' := [(3, .int (x3 + (1 : Int32))), (1, .long (((31 : Int64) * x1) + ((-1 : Int32).toInt64))), (0, .ref (ad 0))]) hx hb dX6_digest_178 hl (k := 2) rfl rfl (by decide) rfl (fun ls hl => ?_)
        refine lv_goto (pc := 181) (tgt := 136) hx hb dX6_digest_181 (by decide) ?_
        exact ih _ _ _ _ _ h hP hD hS (lv_sub hl [2, 1, 0] rfl)
def p6_digest_L70 : Nat → kx_St → Int64 → Int32 → (Int64 → Prop) → Prop
  | 0, _, _, _, _ => False
  | n + 1, σ, x1, x3, Q => ((σ.1 4 3) ≤ x3 → ∃ m136, p6_digest_L136 m136 σ x1 (0 : Int32) Q) ∧ (¬ (σ.1 4 3) ≤ x3 → p3_kiteAt σ 4 x3 (fun o2 => (o2 = none → ∃ m94, p6_digest_L94 m94 σ x1 x3 none (0 : Int32) (fun x1 x3 => p6_digest_L70 n σ x1 x3 Q) Q) ∧ (∀ b3, o2 = some b3 → kx_k 0 b3 = 1 ∧ (∃ m94, p6_digest_L94 m94 σ x1 x3 (some b3) (0 : Int32) (fun x1 x3 => p6_digest_L70 n σ x1 x3 Q) Q))))
set_option maxHeartbeats 4000000 in
theorem w6_digest_L70 {σ : kx_St}  {Q : Int64 → Prop} (cx : kx_Cx p s m args meth c D cy RX6 cX6_digest 6 (some .long))  : ∀ (n : Nat) (x1 : Int64) (x3 : Int32) (H : Heap) (locs : List Loc) (ls : Array Slot), p6_digest_L70 n σ x1 x3 Q → va_P D vwCl (kx_ws cy 0 ad σ) H → va_D A (kx_ws cy 0 ad σ) → va_S A s.heap H locs → lv_has ls 6 [(0, .ref (ad 0)), (1, .long x1), (3, .int x3)] → W p l e rm6_digest s m args below meth c H locs 0 0 (MQ below (kx_Qc kx_cl (fun u r => u = σ ∧ Q r) (kx_Wd D cy 0 ad A) A) args s 0 0 A) (F0 m 70 ls []) := by
  obtain ⟨hx, hb, hr, hlocks, hml, hown, hts, hK⟩ := id cx
  intro n
  induction n with
  | zero => intro _ _ _ _ _ h; exact False.elim h
  | succ n ih =>
    intro x1 x3 H locs ls h hP hD hS hl
    refine lv_iload_n (pc := 70) hx hb dX6_digest_70 rfl (lv_at hl 2 rfl) ?_
    refine lv_aload_n (pc := 71) hx hb dX6_digest_71 rfl (lv_at hl 0 rfl) ?_
    refine fg6_25 (pc := 72) (b := 4) hx hb hown hts hK hP rfl rfl dX6_digest_72 ?_
    refine fg6_128 (pc := 75) hx hb hown hts hK hP rfl dX6_digest_75 ?_
    refine lv_icmp_ge (pc := 78) (tgt := 134) hx hb dX6_digest_78 (by decide) (fun c1 => ?_) (fun c1 => ?_)
    · have h := h.1 c1
      refine lv_iconst (pc := 134) (v := (0 : Int32)) hx hb dX6_digest_134 (by decide) ?_
      refine lv_istore_n (pc := 135) (lv' := [(3, .int (0 : Int32)), (0, .ref (ad 0)), (1, .long x1)]) hx hb dX6_digest_135 rfl hl (by decide) rfl (fun ls hl => ?_)
      obtain ⟨n0, h⟩ := h
      exact w6_digest_L136 cx  n0 _ _ _ _ _ h hP hD hS (lv_sub hl [1, 2, 0] rfl)
    · have h := h.2 c1
      refine lv_aload_n (pc := 81) hx hb dX6_digest_81 rfl (lv_at hl 0 rfl) ?_
      refine fg6_25 (pc := 82) (b := 4) hx hb hown hts hK hP rfl rfl dX6_digest_82 ?_
      refine lv_iload_n (pc := 85) hx hb dX6_digest_85 rfl (lv_at hl 2 rfl) ?_
      refine kx_iVr (pc := 86) [.int x3] hx hb hml hown hts hK hP hD hS (q3_kiteAt h) (cw6_131 hts ⟨Nat.le_of_ble_eq_true rfl, Nat.le_of_ble_eq_true rfl⟩) rfl (by decide) rfl rfl hl.1 rfl (Nat.le_of_ble_eq_true rfl) ⟨Nat.le_of_ble_eq_true rfl, Nat.le_of_ble_eq_true rfl⟩ dX6_digest_86 (fun o2 u_ H locs hP hD hS h => ?_)
      obtain ⟨hu_, h⟩ := h
      rw [hu_] at hP hD
      rcases o2 with _ | b3
      · have h := h.1 rfl
        refine lv_astoreN (pc := 89) (lv' := [(4, .null), (0, .ref (ad 0)), (1, .long x1), (3, .int x3)]) hx hb dX6_digest_89 hl (by decide) rfl (fun ls hl => ?_)
        refine lv_iconst (pc := 91) (v := (0 : Int32)) hx hb dX6_digest_91 (by decide) ?_
        refine lv_istore (pc := 92) (lv' := [(5, .int (0 : Int32)), (4, .null), (0, .ref (ad 0)), (1, .long x1), (3, .int x3)]) hx hb dX6_digest_92 hl (by decide) rfl (fun ls hl => ?_)
        have hc4 : ∀ (x1 : Int64) (x3 : Int32) (H : Heap) (locs : List Loc) (ls : Array Slot), (fun x1 x3 => p6_digest_L70 n σ x1 x3 Q) x1 x3 → va_P D vwCl (kx_ws cy 0 ad σ) H → va_D A (kx_ws cy 0 ad σ) → va_S A s.heap H locs → lv_has ls 6 [(0, .ref (ad 0)), (1, .long x1), (3, .int x3)] → W p l e rm6_digest s m args below meth c H locs 0 0 (MQ below (kx_Qc kx_cl (fun u r => u = σ ∧ Q r) (kx_Wd D cy 0 ad A) A) args s 0 0 A) (F0 m 70 ls []) := fun x1 x3 H locs ls h hP hD hS hl => ih _ _ _ _ _ h hP hD hS hl
        obtain ⟨n0, h⟩ := h
        exact w6_digest_L94 cx hc4 n0 _ _ _ _ _ _ _ h hP hD hS (lv_sub hl [2, 3, 4, 1, 0] rfl)
      · obtain ⟨hk_b3, h⟩ := h.2 b3 rfl
        refine lv_astore (pc := 89) (lv' := [(4, .ref (ad b3)), (0, .ref (ad 0)), (1, .long x1), (3, .int x3)]) hx hb dX6_digest_89 hl (by decide) rfl (fun ls hl => ?_)
        refine lv_iconst (pc := 91) (v := (0 : Int32)) hx hb dX6_digest_91 (by decide) ?_
        refine lv_istore (pc := 92) (lv' := [(5, .int (0 : Int32)), (4, .ref (ad b3)), (0, .ref (ad 0)), (1, .long x1), (3, .int x3)]) hx hb dX6_digest_92 hl (by decide) rfl (fun ls hl => ?_)
        have hc5 : ∀ (x1 : Int64) (x3 : Int32) (H : Heap) (locs : List Loc) (ls : Array Slot), (fun x1 x3 => p6_digest_L70 n σ x1 x3 Q) x1 x3 → va_P D vwCl (kx_ws cy 0 ad σ) H → va_D A (kx_ws cy 0 ad σ) → va_S A s.heap H locs → lv_has ls 6 [(0, .ref (ad 0)), (1, .long x1), (3, .int x3)] → W p l e rm6_digest s m args below meth c H locs 0 0 (MQ below (kx_Qc kx_cl (fun u r => u = σ ∧ Q r) (kx_Wd D cy 0 ad A) A) args s 0 0 A) (F0 m 70 ls []) := fun x1 x3 H locs ls h hP hD hS hl => ih _ _ _ _ _ h hP hD hS hl
        obtain ⟨n0, h⟩ := h
        exact w6_digest_L94 cx hc5 n0 _ _ _ _ _ _ _ h hP hD hS (lv_sub hl [2, 3, 4, 1, 0] rfl)
def p6_digest_L33 : Nat → kx_St → Int64 → Int32 → (Int64 → Prop) → Prop
  | 0, _, _, _, _ => False
  | n + 1, σ, x1, x3, Q => ((Int32.ofNat 4) ≤ x3 → ∃ m70, p6_digest_L70 m70 σ x1 (0 : Int32) Q) ∧ (¬ (Int32.ofNat 4) ≤ x3 → vp_in x3 4 ∧ (p6_digest_L33 n σ (((31 : Int64) * x1) + ((σ.1 10 x3.toNatClampNeg).toInt64)) (x3 + (1 : Int32)) Q))
set_option maxHeartbeats 4000000 in
theorem w6_digest_L33 {σ : kx_St}  {Q : Int64 → Prop} (cx : kx_Cx p s m args meth c D cy RX6 cX6_digest 6 (some .long))  : ∀ (n : Nat) (x1 : Int64) (x3 : Int32) (H : Heap) (locs : List Loc) (ls : Array Slot), p6_digest_L33 n σ x1 x3 Q → va_P D vwCl (kx_ws cy 0 ad σ) H → va_D A (kx_ws cy 0 ad σ) → va_S A s.heap H locs → lv_has ls 6 [(0, .ref (ad 0)), (1, .long x1), (3, .int x3)] → W p l e rm6_digest s m args below meth c H locs 0 0 (MQ below (kx_Qc kx_cl (fun u r => u = σ ∧ Q r) (kx_Wd D cy 0 ad A) A) args s 0 0 A) (F0 m 33 ls []) := by
  obtain ⟨hx, hb, hr, hlocks, hml, hown, hts, hK⟩ := id cx
  intro n
  induction n with
  | zero => intro _ _ _ _ _ h; exact False.elim h
  | succ n ih =>
    intro x1 x3 H locs ls h hP hD hS hl
    refine lv_iload_n (pc := 33) hx hb dX6_digest_33 rfl (lv_at hl 2 rfl) ?_
    refine lv_aload_n (pc := 34) hx hb dX6_digest_34 rfl (lv_at hl 0 rfl) ?_
    refine fg6_25 (pc := 35) (b := 4) hx hb hown hts hK hP rfl rfl dX6_digest_35 ?_
    refine fg6_304 (pc := 38) (b := 10) hx hb hown hts hK hP rfl rfl dX6_digest_38 ?_
    refine kx_alen (pc := 41) hx hb hK hP rfl (by decide) (by decide) dX6_digest_41 ?_
    refine lv_icmp_ge (pc := 42) (tgt := 68) hx hb dX6_digest_42 (by decide) (fun c1 => ?_) (fun c1 => ?_)
    · have h := h.1 c1
      refine lv_iconst (pc := 68) (v := (0 : Int32)) hx hb dX6_digest_68 (by decide) ?_
      refine lv_istore_n (pc := 69) (lv' := [(3, .int (0 : Int32)), (0, .ref (ad 0)), (1, .long x1)]) hx hb dX6_digest_69 rfl hl (by decide) rfl (fun ls hl => ?_)
      obtain ⟨n0, h⟩ := h
      exact w6_digest_L70 cx  n0 _ _ _ _ _ h hP hD hS (lv_sub hl [1, 2, 0] rfl)
    · have h := h.2 c1
      refine lv_ldc2 (pc := 45) (v := (31 : Int64)) hx hb hown (hts _ tb_710) dX6_digest_45 ?_
      refine lv_lload_n (pc := 48) hx hb dX6_digest_48 rfl (lv_at hl 1 rfl) ?_
      refine lv_lmul (pc := 49) hx hb dX6_digest_49 ?_
      refine lv_aload_n (pc := 50) hx hb dX6_digest_50 rfl (lv_at hl 0 rfl) ?_
      refine fg6_25 (pc := 51) (b := 4) hx hb hown hts hK hP rfl rfl dX6_digest_51 ?_
      refine fg6_304 (pc := 54) (b := 10) hx hb hown hts hK hP rfl rfl dX6_digest_54 ?_
      refine lv_iload_n (pc := 57) hx hb dX6_digest_57 rfl (lv_at hl 2 rfl) ?_
      obtain ⟨g2, h⟩ := h
      refine kx_iald (pc := 58) hx hb hK hP rfl g2 dX6_digest_58 ?_
      refine lv_i2l (pc := 59) (v := ((σ.1 10 x3.toNatClampNeg).toInt64)) hx hb dX6_digest_59 rfl ?_
      refine lv_ladd (pc := 60) hx hb dX6_digest_60 ?_
      refine lv_lstore_n (pc := 61) (lv' := [(1, .long (((31 : Int64) * x1) + ((σ.1 10 x3.toNatClampNeg).toInt64))), (0, .ref (ad 0)), (3, .int x3)]) hx hb dX6_digest_61 rfl hl (by decide) rfl (fun ls hl => ?_)
      refine lv_iinc (pc := 62) (v := (x3 + (1 : Int32))) (lv' := [(3, .int (x3 + (1 : Int32))), (1, .long (((31 : Int64) * x1) + ((σ.1 10 x3.toNatClampNeg).toInt64))), (0, .ref (ad 0))]) hx hb dX6_digest_62 hl (k := 2) rfl rfl (by decide) rfl (fun ls hl => ?_)
      refine lv_goto (pc := 65) (tgt := 33) hx hb dX6_digest_65 (by decide) ?_
      exact ih _ _ _ _ _ h hP hD hS (lv_sub hl [2, 1, 0] rfl)
def p6_digest_L6 : Nat → kx_St → Int64 → Int32 → (Int64 → Prop) → Prop
  | 0, _, _, _, _ => False
  | n + 1, σ, x1, x3, Q => ((12 : Int32) ≤ x3 → ∃ m33, p6_digest_L33 m33 σ x1 (0 : Int32) Q) ∧ (¬ (12 : Int32) ≤ x3 → p6_count σ x3 (fun r2 => p6_digest_L6 n σ (((31 : Int64) * x1) + (r2.toInt64)) (x3 + (1 : Int32)) Q))
set_option maxHeartbeats 4000000 in
theorem w6_digest_L6 {σ : kx_St}  {Q : Int64 → Prop} (cx : kx_Cx p s m args meth c D cy RX6 cX6_digest 6 (some .long))  : ∀ (n : Nat) (x1 : Int64) (x3 : Int32) (H : Heap) (locs : List Loc) (ls : Array Slot), p6_digest_L6 n σ x1 x3 Q → va_P D vwCl (kx_ws cy 0 ad σ) H → va_D A (kx_ws cy 0 ad σ) → va_S A s.heap H locs → lv_has ls 6 [(0, .ref (ad 0)), (1, .long x1), (3, .int x3)] → W p l e rm6_digest s m args below meth c H locs 0 0 (MQ below (kx_Qc kx_cl (fun u r => u = σ ∧ Q r) (kx_Wd D cy 0 ad A) A) args s 0 0 A) (F0 m 6 ls []) := by
  obtain ⟨hx, hb, hr, hlocks, hml, hown, hts, hK⟩ := id cx
  intro n
  induction n with
  | zero => intro _ _ _ _ _ h; exact False.elim h
  | succ n ih =>
    intro x1 x3 H locs ls h hP hD hS hl
    refine lv_iload_n (pc := 6) hx hb dX6_digest_6 rfl (lv_at hl 2 rfl) ?_
    refine lv_bipush (pc := 7) (v := (12 : Int32)) hx hb dX6_digest_7 (by decide) ?_
    refine lv_icmp_ge (pc := 9) (tgt := 31) hx hb dX6_digest_9 (by decide) (fun c1 => ?_) (fun c1 => ?_)
    · have h := h.1 c1
      refine lv_iconst (pc := 31) (v := (0 : Int32)) hx hb dX6_digest_31 (by decide) ?_
      refine lv_istore_n (pc := 32) (lv' := [(3, .int (0 : Int32)), (0, .ref (ad 0)), (1, .long x1)]) hx hb dX6_digest_32 rfl hl (by decide) rfl (fun ls hl => ?_)
      obtain ⟨n0, h⟩ := h
      exact w6_digest_L33 cx  n0 _ _ _ _ _ h hP hD hS (lv_sub hl [1, 2, 0] rfl)
    · have h := h.2 c1
      refine lv_ldc2 (pc := 12) (v := (31 : Int64)) hx hb hown (hts _ tb_710) dX6_digest_12 ?_
      refine lv_lload_n (pc := 15) hx hb dX6_digest_15 rfl (lv_at hl 1 rfl) ?_
      refine lv_lmul (pc := 16) hx hb dX6_digest_16 ?_
      refine lv_aload_n (pc := 17) hx hb dX6_digest_17 rfl (lv_at hl 0 rfl) ?_
      refine lv_iload_n (pc := 18) hx hb dX6_digest_18 rfl (lv_at hl 2 rfl) ?_
      refine kx_iVi (pc := 19) [.int x3] hx hb hml hown hts hK hP hD hS (q6_count h) (cw6_301 hts ⟨Nat.le_of_ble_eq_true rfl, Nat.le_of_ble_eq_true rfl⟩) rfl (by decide) rfl rfl hl.1 rfl (Nat.le_of_ble_eq_true rfl) ⟨Nat.le_of_ble_eq_true rfl, Nat.le_of_ble_eq_true rfl⟩ dX6_digest_19 (fun r2 u_ H locs hP hD hS h => ?_)
      obtain ⟨hu_, h⟩ := h
      rw [hu_] at hP hD
      refine lv_i2l (pc := 22) (v := (r2.toInt64)) hx hb dX6_digest_22 rfl ?_
      refine lv_ladd (pc := 23) hx hb dX6_digest_23 ?_
      refine lv_lstore_n (pc := 24) (lv' := [(1, .long (((31 : Int64) * x1) + (r2.toInt64))), (0, .ref (ad 0)), (3, .int x3)]) hx hb dX6_digest_24 rfl hl (by decide) rfl (fun ls hl => ?_)
      refine lv_iinc (pc := 25) (v := (x3 + (1 : Int32))) (lv' := [(3, .int (x3 + (1 : Int32))), (1, .long (((31 : Int64) * x1) + (r2.toInt64))), (0, .ref (ad 0))]) hx hb dX6_digest_25 hl (k := 2) rfl rfl (by decide) rfl (fun ls hl => ?_)
      refine lv_goto (pc := 28) (tgt := 6) hx hb dX6_digest_28 (by decide) ?_
      exact ih _ _ _ _ _ h hP hD hS (lv_sub hl [2, 1, 0] rfl)
def p6_digest (σ : kx_St) (Q : Int64 → Prop) : Prop := ∃ m6, p6_digest_L6 m6 σ (17 : Int64) (0 : Int32) Q
set_option maxHeartbeats 4000000 in
theorem q6_digest {σ : kx_St}  {Q : Int64 → Prop} (h : p6_digest σ Q) : Met l yX6_digest (Cond.code yX6_digest cX6_digest 6 (some .long) :: kx_big) rm6_digest (va_Pc [.ref (ad 0)] (kx_Wd D cy 0 ad A σ)) (kx_Qc kx_cl (fun u r => u = σ ∧ Q r) (kx_Wd D cy 0 ad A) A) 0 0 A := by
  refine kx_head (plainFor_of_name (by decide)) (Nat.le_of_ble_eq_true rfl) ?_
  intro p e s m below meth c ls cx hP hD hS hl
  obtain ⟨hx, hb, hr, hlocks, hml, hown, hts, hK⟩ := id cx
  have hl : lv_has ls 6 [(0, .ref (ad 0))] := hl
  refine lv_ldc2 (pc := 0) (v := (17 : Int64)) hx hb hown (hts _ tb_709) dX6_digest_0 ?_
  refine lv_lstore_n (pc := 3) (lv' := [(1, .long (17 : Int64)), (0, .ref (ad 0))]) hx hb dX6_digest_3 rfl hl (by decide) rfl (fun ls hl => ?_)
  refine lv_iconst (pc := 4) (v := (0 : Int32)) hx hb dX6_digest_4 (by decide) ?_
  refine lv_istore_n (pc := 5) (lv' := [(3, .int (0 : Int32)), (1, .long (17 : Int64)), (0, .ref (ad 0))]) hx hb dX6_digest_5 rfl hl (by decide) rfl (fun ls hl => ?_)
  obtain ⟨n0, h⟩ := h
  exact w6_digest_L6 cx  n0 _ _ _ _ _ h hP hD hS (lv_sub hl [2, 1, 0] rfl)
end
