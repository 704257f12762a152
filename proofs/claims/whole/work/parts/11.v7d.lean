section
variable {p : Program} {l : Launch} {e : Env} {s : State} {m : MethodId} {args : Array Value} {below : List Frame} {meth : Method} {c : Code} {D : va_G} {cy : Nat → ClassId} {ad : Nat → Nat} {A : Nat → Prop}

def p7_noPairs_J79 (σ : kx_St) (x1 : Int32) (x3 : Int32) (s0 : Int64) (s1 : Int64) (s2 : Int64) (k37 : kx_St → Int32 → Int32 → Int32 → Prop) (Q : kx_St → Int32 → Prop) : Prop := p7_in s0 s1 s2 (fun r1 => (r1 = 0 → k37 σ x1 (0 : Int32) (x3 + (1 : Int32))) ∧ (¬ r1 = 0 → k37 σ x1 (1 : Int32) (x3 + (1 : Int32))))
set_option maxHeartbeats 4000000 in
theorem w7_noPairs_J79 {σ : kx_St} {x1 : Int32} {x3 : Int32} {s0 : Int64} {s1 : Int64} {s2 : Int64} {k37 : kx_St → Int32 → Int32 → Int32 → Prop} {Q : kx_St → Int32 → Prop} {H : Heap} {locs : List Loc} {ls : Array Slot} (cx : kx_Cx p s m args meth c D cy RX7 cX7_noPairs 4 (some .int)) (hk37 : ∀ (σ : kx_St) (x1 : Int32) (x2 : Int32) (x3 : Int32) (H : Heap) (locs : List Loc) (ls : Array Slot), k37 σ x1 x2 x3 → va_P D vwCl (kx_ws cy 1 ad σ) H → va_D A (kx_ws cy 1 ad σ) → va_S A s.heap H locs → lv_has ls 4 [(0, .ref (ad 0)), (1, .int x1), (2, .int x2), (3, .int x3)] → W p l e rm7_noPairs s m args below meth c H locs 0 0 (MQ below (kx_Qc kx_ci Q (kx_Wd D cy 1 ad A) A) args s 0 0 A) (F0 m 37 ls []))  (h : p7_noPairs_J79 σ x1 x3 s0 s1 s2 k37 Q) (hP : va_P D vwCl (kx_ws cy 1 ad σ) H) (hD : va_D A (kx_ws cy 1 ad σ)) (hS : va_S A s.heap H locs) (hl : lv_has ls 4 [(0, .ref (ad 0)), (1, .int x1), (3, .int x3)]) : W p l e rm7_noPairs s m args below meth c H locs 0 0 (MQ below (kx_Qc kx_ci Q (kx_Wd D cy 1 ad A) A) args s 0 0 A) (F0 m 79 ls [.long s2, .long s1, .long s0]) := by
  obtain ⟨hx, hb, hr, hlocks, hml, hown, hts, hK⟩ := id cx
  refine kx_iSi (pc := 79) [.long s0, .long s1, .long s2] hx hb hml hown hts hK hP hD hS (q7_in h) (cw7_77 hts ⟨Nat.le_of_ble_eq_true rfl, Nat.le_of_ble_eq_true rfl⟩) rfl hl.1 rfl (Nat.le_of_ble_eq_true rfl) ⟨Nat.le_of_ble_eq_true rfl, Nat.le_of_ble_eq_true rfl⟩ dX7_noPairs_79 (fun r1 u_ H locs hP hD hS h => ?_)
  obtain ⟨hu_, h⟩ := h
  rw [hu_] at hP hD
  refine lv_if_eq (pc := 82) (tgt := 89) hx hb dX7_noPairs_82 (by decide) (fun c2 => ?_) (fun c2 => ?_)
  · have h := h.1 c2
    refine lv_iconst (pc := 89) (v := (0 : Int32)) hx hb dX7_noPairs_89 (by decide) ?_
    refine lv_istore_n (pc := 90) (lv' := [(2, .int (0 : Int32)), (0, .ref (ad 0)), (1, .int x1), (3, .int x3)]) hx hb dX7_noPairs_90 rfl hl (by decide) rfl (fun ls hl => ?_)
    refine lv_iinc (pc := 91) (v := (x3 + (1 : Int32))) (lv' := [(3, .int (x3 + (1 : Int32))), (2, .int (0 : Int32)), (0, .ref (ad 0)), (1, .int x1)]) hx hb dX7_noPairs_91 hl (k := 3) rfl rfl (by decide) rfl (fun ls hl => ?_)
    refine lv_goto (pc := 94) (tgt := 37) hx hb dX7_noPairs_94 (by decide) ?_
    exact hk37 _ _ _ _ _ _ _ h hP hD hS (lv_sub hl [2, 3, 1, 0] rfl)
  · have h := h.2 c2
    refine lv_iconst (pc := 85) (v := (1 : Int32)) hx hb dX7_noPairs_85 (by decide) ?_
    refine lv_goto (pc := 86) (tgt := 90) hx hb dX7_noPairs_86 (by decide) ?_
    refine lv_istore_n (pc := 90) (lv' := [(2, .int (1 : Int32)), (0, .ref (ad 0)), (1, .int x1), (3, .int x3)]) hx hb dX7_noPairs_90 rfl hl (by decide) rfl (fun ls hl => ?_)
    refine lv_iinc (pc := 91) (v := (x3 + (1 : Int32))) (lv' := [(3, .int (x3 + (1 : Int32))), (2, .int (1 : Int32)), (0, .ref (ad 0)), (1, .int x1)]) hx hb dX7_noPairs_91 hl (k := 3) rfl rfl (by decide) rfl (fun ls hl => ?_)
    refine lv_goto (pc := 94) (tgt := 37) hx hb dX7_noPairs_94 (by decide) ?_
    exact hk37 _ _ _ _ _ _ _ h hP hD hS (lv_sub hl [2, 3, 1, 0] rfl)
def p7_noPairs_L37 : Nat → kx_St → Int32 → Int32 → Int32 → (kx_St → Int32 → Prop) → Prop
  | 0, _, _, _, _, _ => False
  | n + 1, σ, x1, x2, x3, Q => vp_in x1 6 ∧ (((σ.1 6 x1.toNatClampNeg) ≤ x3 → (x2 = 0 → p7_find σ (3 : Int32) (fun σ5 r4 => Q σ5 r4)) ∧ (¬ x2 = 0 → Q σ (0 : Int32))) ∧ (¬ (σ.1 6 x1.toNatClampNeg) ≤ x3 → (x2 = 0 → p7_noPairs_L37 n σ x1 (0 : Int32) (x3 + (1 : Int32)) Q) ∧ (¬ x2 = 0 → vp_in (((40 : Int32) * x1) + x3) 240 ∧ ((¬ (x3 - x3 / (2 : Int32) * (2 : Int32)) = 0 → p7_noPairs_J79 σ x1 x3 ((σ.1 7 (((40 : Int32) * x1) + x3).toNatClampNeg).toInt64) (0 : Int64) (99 : Int64) (fun σ x1 x2 x3 => p7_noPairs_L37 n σ x1 x2 x3 Q) Q) ∧ ((x3 - x3 / (2 : Int32) * (2 : Int32)) = 0 → p7_noPairs_J79 σ x1 x3 ((σ.1 7 (((40 : Int32) * x1) + x3).toNatClampNeg).toInt64) (0 : Int64) (9 : Int64) (fun σ x1 x2 x3 => p7_noPairs_L37 n σ x1 x2 x3 Q) Q)))))
set_option maxHeartbeats 4000000 in
theorem w7_noPairs_L37  {Q : kx_St → Int32 → Prop} (cx : kx_Cx p s m args meth c D cy RX7 cX7_noPairs 4 (some .int))  : ∀ (n : Nat) (σ : kx_St) (x1 : Int32) (x2 : Int32) (x3 : Int32) (H : Heap) (locs : List Loc) (ls : Array Slot), p7_noPairs_L37 n σ x1 x2 x3 Q → va_P D vwCl (kx_ws cy 1 ad σ) H → va_D A (kx_ws cy 1 ad σ) → va_S A s.heap H locs → lv_has ls 4 [(0, .ref (ad 0)), (1, .int x1), (2, .int x2), (3, .int x3)] → W p l e rm7_noPairs s m args below meth c H locs 0 0 (MQ below (kx_Qc kx_ci Q (kx_Wd D cy 1 ad A) A) args s 0 0 A) (F0 m 37 ls []) := by
  obtain ⟨hx, hb, hr, hlocks, hml, hown, hts, hK⟩ := id cx
  intro n
  induction n with
  | zero => intro _ _ _ _ _ _ _ h; exact False.elim h
  | succ n ih =>
    intro σ x1 x2 x3 H locs ls h hP hD hS hl
    refine lv_iload_n (pc := 37) hx hb dX7_noPairs_37 rfl (lv_at hl 3 rfl) ?_
    refine lv_aload_n (pc := 38) hx hb dX7_noPairs_38 rfl (lv_at hl 0 rfl) ?_
    refine fg7_25 (pc := 39) (b := 6) hx hb hown hts hK hP rfl rfl dX7_noPairs_39 ?_
    refine lv_iload_n (pc := 42) hx hb dX7_noPairs_42 rfl (lv_at hl 1 rfl) ?_
    obtain ⟨g1, h⟩ := h
    refine kx_iald (pc := 43) hx hb hK hP rfl g1 dX7_noPairs_43 ?_
    refine lv_icmp_ge (pc := 44) (tgt := 97) hx hb dX7_noPairs_44 (by decide) (fun c2 => ?_) (fun c2 => ?_)
    · have h := h.1 c2
      refine lv_iload_n (pc := 97) hx hb dX7_noPairs_97 rfl (lv_at hl 2 rfl) ?_
      refine lv_if_eq (pc := 98) (tgt := 105) hx hb dX7_noPairs_98 (by decide) (fun c3 => ?_) (fun c3 => ?_)
      · have h := h.1 c3
        refine lv_aload_n (pc := 105) hx hb dX7_noPairs_105 rfl (lv_at hl 0 rfl) ?_
        refine lv_iconst (pc := 106) (v := (3 : Int32)) hx hb dX7_noPairs_106 (by decide) ?_
        refine kx_iVi (pc := 107) [.int (3 : Int32)] hx hb hml hown hts hK hP hD hS (q7_find h) (cw7_87 hts ⟨Nat.le_of_ble_eq_true rfl, Nat.le_of_ble_eq_true rfl⟩) rfl (by decide) rfl rfl hl.1 rfl (Nat.le_of_ble_eq_true rfl) ⟨Nat.le_of_ble_eq_true rfl, Nat.le_of_ble_eq_true rfl⟩ dX7_noPairs_107 (fun r4 σ5 H locs hP hD hS h => ?_)
        exact kx_iret (pc := 110) hx hb hr hlocks hK hP hD hS h dX7_noPairs_110
      · have h := h.2 c3
        refine lv_iconst (pc := 101) (v := (0 : Int32)) hx hb dX7_noPairs_101 (by decide) ?_
        refine lv_goto (pc := 102) (tgt := 110) hx hb dX7_noPairs_102 (by decide) ?_
        exact kx_iret (pc := 110) hx hb hr hlocks hK hP hD hS h dX7_noPairs_110
    · have h := h.2 c2
      refine lv_iload_n (pc := 47) hx hb dX7_noPairs_47 rfl (lv_at hl 2 rfl) ?_
      refine lv_if_eq (pc := 48) (tgt := 89) hx hb dX7_noPairs_48 (by decide) (fun c6 => ?_) (fun c6 => ?_)
      · have h := h.1 c6
        refine lv_iconst (pc := 89) (v := (0 : Int32)) hx hb dX7_noPairs_89 (by decide) ?_
        refine lv_istore_n (pc := 90) (lv' := [(2, .int (0 : Int32)), (0, .ref (ad 0)), (1, .int x1), (3, .int x3)]) hx hb dX7_noPairs_90 rfl hl (by decide) rfl (fun ls hl => ?_)
        refine lv_iinc (pc := 91) (v := (x3 + (1 : Int32))) (lv' := [(3, .int (x3 + (1 : Int32))), (2, .int (0 : Int32)), (0, .ref (ad 0)), (1, .int x1)]) hx hb dX7_noPairs_91 hl (k := 3) rfl rfl (by decide) rfl (fun ls hl => ?_)
        refine lv_goto (pc := 94) (tgt := 37) hx hb dX7_noPairs_94 (by decide) ?_
        exact ih _ _ _ _ _ _ _ h hP hD hS (lv_sub hl [2, 3, 1, 0] rfl)
      · have h := h.2 c6
        refine lv_aload_n (pc := 51) hx hb dX7_noPairs_51 rfl (lv_at hl 0 rfl) ?_
        refine fg7_28 (pc := 52) (b := 7) hx hb hown hts hK hP rfl rfl dX7_noPairs_52 ?_
        refine lv_bipush (pc := 55) (v := (40 : Int32)) hx hb dX7_noPairs_55 (by decide) ?_
        refine lv_iload_n (pc := 57) hx hb dX7_noPairs_57 rfl (lv_at hl 1 rfl) ?_
        refine lv_imul (pc := 58) hx hb dX7_noPairs_58 ?_
        refine lv_iload_n (pc := 59) hx hb dX7_noPairs_59 rfl (lv_at hl 3 rfl) ?_
        refine lv_iadd (pc := 60) hx hb dX7_noPairs_60 ?_
        obtain ⟨g7, h⟩ := h
        refine kx_iald (pc := 61) hx hb hK hP rfl g7 dX7_noPairs_61 ?_
        refine lv_i2l (pc := 62) (v := ((σ.1 7 (((40 : Int32) * x1) + x3).toNatClampNeg).toInt64)) hx hb dX7_noPairs_62 rfl ?_
        refine lv_lconst (pc := 63) (v := (0 : Int64)) hx hb dX7_noPairs_63 (by decide) ?_
        refine lv_iload_n (pc := 64) hx hb dX7_noPairs_64 rfl (lv_at hl 3 rfl) ?_
        refine lv_iconst (pc := 65) (v := (2 : Int32)) hx hb dX7_noPairs_65 (by decide) ?_
        refine lv_irem (pc := 66) hx hb dX7_noPairs_66 (by decide) ?_
        refine lv_if_ne (pc := 67) (tgt := 76) hx hb dX7_noPairs_67 (by decide) (fun c8 => ?_) (fun c8 => ?_)
        · have h := h.1 c8
          refine lv_ldc2 (pc := 76) (v := (99 : Int64)) hx hb hown (hts _ tb_1089) dX7_noPairs_76 ?_
          have hc9 : ∀ (σ : kx_St) (x1 : Int32) (x2 : Int32) (x3 : Int32) (H : Heap) (locs : List Loc) (ls : Array Slot), (fun σ x1 x2 x3 => p7_noPairs_L37 n σ x1 x2 x3 Q) σ x1 x2 x3 → va_P D vwCl (kx_ws cy 1 ad σ) H → va_D A (kx_ws cy 1 ad σ) → va_S A s.heap H locs → lv_has ls 4 [(0, .ref (ad 0)), (1, .int x1), (2, .int x2), (3, .int x3)] → W p l e rm7_noPairs s m args below meth c H locs 0 0 (MQ below (kx_Qc kx_ci Q (kx_Wd D cy 1 ad A) A) args s 0 0 A) (F0 m 37 ls []) := fun σ x1 x2 x3 H locs ls h hP hD hS hl => ih _ _ _ _ _ _ _ h hP hD hS hl
          exact w7_noPairs_J79 cx hc9 h hP hD hS (lv_sub hl [0, 1, 3] rfl)
        · have h := h.2 c8
          refine lv_ldc2 (pc := 70) (v := (9 : Int64)) hx hb hown (hts _ tb_966) dX7_noPairs_70 ?_
          refine lv_goto (pc := 73) (tgt := 79) hx hb dX7_noPairs_73 (by decide) ?_
          have hc10 : ∀ (σ : kx_St) (x1 : Int32) (x2 : Int32) (x3 : Int32) (H : Heap) (locs : List Loc) (ls : Array Slot), (fun σ x1 x2 x3 => p7_noPairs_L37 n σ x1 x2 x3 Q) σ x1 x2 x3 → va_P D vwCl (kx_ws cy 1 ad σ) H → va_D A (kx_ws cy 1 ad σ) → va_S A s.heap H locs → lv_has ls 4 [(0, .ref (ad 0)), (1, .int x1), (2, .int x2), (3, .int x3)] → W p l e rm7_noPairs s m args below meth c H locs 0 0 (MQ below (kx_Qc kx_ci Q (kx_Wd D cy 1 ad A) A) args s 0 0 A) (F0 m 37 ls []) := fun σ x1 x2 x3 H locs ls h hP hD hS hl => ih _ _ _ _ _ _ _ h hP hD hS hl
          exact w7_noPairs_J79 cx hc10 h hP hD hS (lv_sub hl [0, 1, 3] rfl)
def p7_noPairs (σ : kx_St) (x1 : Int32) (Q : kx_St → Int32 → Prop) : Prop := vp_in x1 6 ∧ ((0 ≤ (σ.1 6 x1.toNatClampNeg) → vp_in x1 6 ∧ ((¬ ((σ.1 6 x1.toNatClampNeg) - (σ.1 6 x1.toNatClampNeg) / (2 : Int32) * (2 : Int32)) = (1 : Int32) → ∃ m37, p7_noPairs_L37 m37 σ x1 (1 : Int32) (0 : Int32) Q) ∧ (((σ.1 6 x1.toNatClampNeg) - (σ.1 6 x1.toNatClampNeg) / (2 : Int32) * (2 : Int32)) = (1 : Int32) → p7_find σ (5 : Int32) (fun σ6 r5 => Q σ6 r5)))) ∧ (¬ 0 ≤ (σ.1 6 x1.toNatClampNeg) → p7_find σ (1 : Int32) (fun σ8 r7 => Q σ8 r7)))
set_option maxHeartbeats 4000000 in
theorem q7_noPairs {σ : kx_St} {x1 : Int32} {Q : kx_St → Int32 → Prop} (h : p7_noPairs σ x1 Q) : Met l yX7_noPairs (Cond.code yX7_noPairs cX7_noPairs 4 (some .int) :: kx_big) rm7_noPairs (va_Pc [.ref (ad 0), .int x1] (kx_Wd D cy 1 ad A σ)) (kx_Qc kx_ci Q (kx_Wd D cy 1 ad A) A) 0 0 A := by
  refine kx_head (plainFor_of_name (by decide)) (Nat.le_of_ble_eq_true rfl) ?_
  intro p e s m below meth c ls cx hP hD hS hl
  obtain ⟨hx, hb, hr, hlocks, hml, hown, hts, hK⟩ := id cx
  have hl : lv_has ls 4 [(0, .ref (ad 0)), (1, .int x1)] := hl
  refine lv_aload_n (pc := 0) hx hb dX7_noPairs_0 rfl (lv_at hl 0 rfl) ?_
  refine fg7_25 (pc := 1) (b := 6) hx hb hown hts hK hP rfl rfl dX7_noPairs_1 ?_
  refine lv_iload_n (pc := 4) hx hb dX7_noPairs_4 rfl (lv_at hl 1 rfl) ?_
  obtain ⟨g1, h⟩ := h
  refine kx_iald (pc := 5) hx hb hK hP rfl g1 dX7_noPairs_5 ?_
  refine lv_if_ge (pc := 6) (tgt := 15) hx hb dX7_noPairs_6 (by decide) (fun c2 => ?_) (fun c2 => ?_)
  · have h := h.1 c2
    refine lv_aload_n (pc := 15) hx hb dX7_noPairs_15 rfl (lv_at hl 0 rfl) ?_
    refine fg7_25 (pc := 16) (b := 6) hx hb hown hts hK hP rfl rfl dX7_noPairs_16 ?_
    refine lv_iload_n (pc := 19) hx hb dX7_noPairs_19 rfl (lv_at hl 1 rfl) ?_
    obtain ⟨g3, h⟩ := h
    refine kx_iald (pc := 20) hx hb hK hP rfl g3 dX7_noPairs_20 ?_
    refine lv_iconst (pc := 21) (v := (2 : Int32)) hx hb dX7_noPairs_21 (by decide) ?_
    refine lv_irem (pc := 22) hx hb dX7_noPairs_22 (by decide) ?_
    refine lv_iconst (pc := 23) (v := (1 : Int32)) hx hb dX7_noPairs_23 (by decide) ?_
    refine lv_icmp_ne (pc := 24) (tgt := 33) hx hb dX7_noPairs_24 (by decide) (fun c4 => ?_) (fun c4 => ?_)
    · have h := h.1 c4
      refine lv_iconst (pc := 33) (v := (1 : Int32)) hx hb dX7_noPairs_33 (by decide) ?_
      refine lv_istore_n (pc := 34) (lv' := [(2, .int (1 : Int32)), (0, .ref (ad 0)), (1, .int x1)]) hx hb dX7_noPairs_34 rfl hl (by decide) rfl (fun ls hl => ?_)
      refine lv_iconst (pc := 35) (v := (0 : Int32)) hx hb dX7_noPairs_35 (by decide) ?_
      refine lv_istore_n (pc := 36) (lv' := [(3, .int (0 : Int32)), (2, .int (1 : Int32)), (0, .ref (ad 0)), (1, .int x1)]) hx hb dX7_noPairs_36 rfl hl (by decide) rfl (fun ls hl => ?_)
      obtain ⟨n0, h⟩ := h
      exact w7_noPairs_L37 cx  n0 _ _ _ _ _ _ _ h hP hD hS (lv_sub hl [2, 3, 1, 0] rfl)
    · have h := h.2 c4
      refine lv_aload_n (pc := 27) hx hb dX7_noPairs_27 rfl (lv_at hl 0 rfl) ?_
      refine lv_iconst (pc := 28) (v := (5 : Int32)) hx hb dX7_noPairs_28 (by decide) ?_
      refine kx_iVi (pc := 29) [.int (5 : Int32)] hx hb hml hown hts hK hP hD hS (q7_find h) (cw7_87 hts ⟨Nat.le_of_ble_eq_true rfl, Nat.le_of_ble_eq_true rfl⟩) rfl (by decide) rfl rfl hl.1 rfl (Nat.le_of_ble_eq_true rfl) ⟨Nat.le_of_ble_eq_true rfl, Nat.le_of_ble_eq_true rfl⟩ dX7_noPairs_29 (fun r5 σ6 H locs hP hD hS h => ?_)
      exact kx_iret (pc := 32) hx hb hr hlocks hK hP hD hS h dX7_noPairs_32
  · have h := h.2 c2
    refine lv_aload_n (pc := 9) hx hb dX7_noPairs_9 rfl (lv_at hl 0 rfl) ?_
    refine lv_iconst (pc := 10) (v := (1 : Int32)) hx hb dX7_noPairs_10 (by decide) ?_
    refine kx_iVi (pc := 11) [.int (1 : Int32)] hx hb hml hown hts hK hP hD hS (q7_find h) (cw7_87 hts ⟨Nat.le_of_ble_eq_true rfl, Nat.le_of_ble_eq_true rfl⟩) rfl (by decide) rfl rfl hl.1 rfl (Nat.le_of_ble_eq_true rfl) ⟨Nat.le_of_ble_eq_true rfl, Nat.le_of_ble_eq_true rfl⟩ dX7_noPairs_11 (fun r7 σ8 H locs hP hD hS h => ?_)
    exact kx_iret (pc := 14) hx hb hr hlocks hK hP hD hS h dX7_noPairs_14
def p7_isSo_L6 : Nat → kx_St → Int32 → Int32 → Int32 → Int32 → Int32 → Int32 → (Int32 → Prop) → Prop
  | 0, _, _, _, _, _, _, _, _ => False
  | n + 1, σ, x1, x2, x3, x4, x5, x6, Q => vp_in x4 6 ∧ (((σ.1 6 x4.toNatClampNeg) ≤ x6 → (x5 = 0 ∨ x5 = 1) ∧ (Q x5)) ∧ (¬ (σ.1 6 x4.toNatClampNeg) ≤ x6 → (x5 = 0 → p7_isSo_L6 n σ x1 x2 x3 x4 (0 : Int32) (x6 + (2 : Int32)) Q) ∧ (¬ x5 = 0 → vp_in (((40 : Int32) * x4) + x6) 240 ∧ (p7_liftsBy x1 x2 x3 (σ.1 7 (((40 : Int32) * x4) + x6).toNatClampNeg) (fun r6 => vp_in ((((40 : Int32) * x4) + x6) + (1 : Int32)) 240 ∧ ((¬ r6 = (σ.1 7 ((((40 : Int32) * x4) + x6) + (1 : Int32)).toNatClampNeg) → p7_isSo_L6 n σ x1 x2 x3 x4 (0 : Int32) (x6 + (2 : Int32)) Q) ∧ (r6 = (σ.1 7 ((((40 : Int32) * x4) + x6) + (1 : Int32)).toNatClampNeg) → p7_isSo_L6 n σ x1 x2 x3 x4 (1 : Int32) (x6 + (2 : Int32)) Q)))))))
set_option maxHeartbeats 4000000 in
theorem w7_isSo_L6 {σ : kx_St}  {Q : Int32 → Prop} (cx : kx_Cx p s m args meth c D cy RX7 cX7_isSo 7 (some .boolean))  : ∀ (n : Nat) (x1 : Int32) (x2 : Int32) (x3 : Int32) (x4 : Int32) (x5 : Int32) (x6 : Int32) (H : Heap) (locs : List Loc) (ls : Array Slot), p7_isSo_L6 n σ x1 x2 x3 x4 x5 x6 Q → va_P D vwCl (kx_ws cy 1 ad σ) H → va_D A (kx_ws cy 1 ad σ) → va_S A s.heap H locs → lv_has ls 7 [(0, .ref (ad 0)), (1, .int x1), (2, .int x2), (3, .int x3), (4, .int x4), (5, .int x5), (6, .int x6)] → W p l e rm7_isSo s m args below meth c H locs 0 0 (MQ below (kx_Qc kx_ci (fun u r => u = σ ∧ Q r) (kx_Wd D cy 1 ad A) A) args s 0 0 A) (F0 m 6 ls []) := by
  obtain ⟨hx, hb, hr, hlocks, hml, hown, hts, hK⟩ := id cx
  intro n
  induction n with
  | zero => intro _ _ _ _ _ _ _ _ _ h; exact False.elim h
  | succ n ih =>
    intro x1 x2 x3 x4 x5 x6 H locs ls h hP hD hS hl
    refine lv_iload (pc := 6) hx hb dX7_isSo_6 (lv_at hl 6 rfl) ?_
    refine lv_aload_n (pc := 8) hx hb dX7_isSo_8 rfl (lv_at hl 0 rfl) ?_
    refine fg7_25 (pc := 9) (b := 6) hx hb hown hts hK hP rfl rfl dX7_isSo_9 ?_
    refine lv_iload (pc := 12) hx hb dX7_isSo_12 (lv_at hl 4 rfl) ?_
    obtain ⟨g1, h⟩ := h
    refine kx_iald (pc := 14) hx hb hK hP rfl g1 dX7_isSo_14 ?_
    refine lv_icmp_ge (pc := 15) (tgt := 73) hx hb dX7_isSo_15 (by decide) (fun c2 => ?_) (fun c2 => ?_)
    · have h := h.1 c2
      refine lv_iload (pc := 73) hx hb dX7_isSo_73 (lv_at hl 5 rfl) ?_
      obtain ⟨g3, h⟩ := h
      exact kx_zret (pc := 75) hx hb hr hlocks hK hP hD hS g3 ⟨rfl, h⟩ dX7_isSo_75
    · have h := h.2 c2
      refine lv_iload (pc := 18) hx hb dX7_isSo_18 (lv_at hl 5 rfl) ?_
      refine lv_if_eq (pc := 20) (tgt := 64) hx hb dX7_isSo_20 (by decide) (fun c4 => ?_) (fun c4 => ?_)
      · have h := h.1 c4
        refine lv_iconst (pc := 64) (v := (0 : Int32)) hx hb dX7_isSo_64 (by decide) ?_
        refine lv_istore (pc := 65) (lv' := [(5, .int (0 : Int32)), (0, .ref (ad 0)), (1, .int x1), (2, .int x2), (3, .int x3), (4, .int x4), (6, .int x6)]) hx hb dX7_isSo_65 hl (by decide) rfl (fun ls hl => ?_)
        refine lv_iinc (pc := 67) (v := (x6 + (2 : Int32))) (lv' := [(6, .int (x6 + (2 : Int32))), (5, .int (0 : Int32)), (0, .ref (ad 0)), (1, .int x1), (2, .int x2), (3, .int x3), (4, .int x4)]) hx hb dX7_isSo_67 hl (k := 6) rfl rfl (by decide) rfl (fun ls hl => ?_)
        refine lv_goto (pc := 70) (tgt := 6) hx hb dX7_isSo_70 (by decide) ?_
        exact ih _ _ _ _ _ _ _ _ _ h hP hD hS (lv_sub hl [2, 3, 4, 5, 6, 1, 0] rfl)
      · have h := h.2 c4
        refine lv_iload_n (pc := 23) hx hb dX7_isSo_23 rfl (lv_at hl 1 rfl) ?_
        refine lv_iload_n (pc := 24) hx hb dX7_isSo_24 rfl (lv_at hl 2 rfl) ?_
        refine lv_iload_n (pc := 25) hx hb dX7_isSo_25 rfl (lv_at hl 3 rfl) ?_
        refine lv_aload_n (pc := 26) hx hb dX7_isSo_26 rfl (lv_at hl 0 rfl) ?_
        refine fg7_28 (pc := 27) (b := 7) hx hb hown hts hK hP rfl rfl dX7_isSo_27 ?_
        refine lv_bipush (pc := 30) (v := (40 : Int32)) hx hb dX7_isSo_30 (by decide) ?_
        refine lv_iload (pc := 32) hx hb dX7_isSo_32 (lv_at hl 4 rfl) ?_
        refine lv_imul (pc := 34) hx hb dX7_isSo_34 ?_
        refine lv_iload (pc := 35) hx hb dX7_isSo_35 (lv_at hl 6 rfl) ?_
        refine lv_iadd (pc := 37) hx hb dX7_isSo_37 ?_
        obtain ⟨g5, h⟩ := h
        refine kx_iald (pc := 38) hx hb hK hP rfl g5 dX7_isSo_38 ?_
        refine kx_iSi (pc := 39) [.int x1, .int x2, .int x3, .int (σ.1 7 (((40 : Int32) * x4) + x6).toNatClampNeg)] hx hb hml hown hts hK hP hD hS (q7_liftsBy h) (cw7_153 hts ⟨Nat.le_of_ble_eq_true rfl, Nat.le_of_ble_eq_true rfl⟩) rfl hl.1 rfl (Nat.le_of_ble_eq_true rfl) ⟨Nat.le_of_ble_eq_true rfl, Nat.le_of_ble_eq_true rfl⟩ dX7_isSo_39 (fun r6 u_ H locs hP hD hS h => ?_)
        obtain ⟨hu_, h⟩ := h
        rw [hu_] at hP hD
        refine lv_aload_n (pc := 42) hx hb dX7_isSo_42 rfl (lv_at hl 0 rfl) ?_
        refine fg7_28 (pc := 43) (b := 7) hx hb hown hts hK hP rfl rfl dX7_isSo_43 ?_
        refine lv_bipush (pc := 46) (v := (40 : Int32)) hx hb dX7_isSo_46 (by decide) ?_
        refine lv_iload (pc := 48) hx hb dX7_isSo_48 (lv_at hl 4 rfl) ?_
        refine lv_imul (pc := 50) hx hb dX7_isSo_50 ?_
        refine lv_iload (pc := 51) hx hb dX7_isSo_51 (lv_at hl 6 rfl) ?_
        refine lv_iadd (pc := 53) hx hb dX7_isSo_53 ?_
        refine lv_iconst (pc := 54) (v := (1 : Int32)) hx hb dX7_isSo_54 (by decide) ?_
        refine lv_iadd (pc := 55) hx hb dX7_isSo_55 ?_
        obtain ⟨g7, h⟩ := h
        refine kx_iald (pc := 56) hx hb hK hP rfl g7 dX7_isSo_56 ?_
        refine lv_icmp_ne (pc := 57) (tgt := 64) hx hb dX7_isSo_57 (by decide) (fun c8 => ?_) (fun c8 => ?_)
        · have h := h.1 c8
          refine lv_iconst (pc := 64) (v := (0 : Int32)) hx hb dX7_isSo_64 (by decide) ?_
          refine lv_istore (pc := 65) (lv' := [(5, .int (0 : Int32)), (0, .ref (ad 0)), (1, .int x1), (2, .int x2), (3, .int x3), (4, .int x4), (6, .int x6)]) hx hb dX7_isSo_65 hl (by decide) rfl (fun ls hl => ?_)
          refine lv_iinc (pc := 67) (v := (x6 + (2 : Int32))) (lv' := [(6, .int (x6 + (2 : Int32))), (5, .int (0 : Int32)), (0, .ref (ad 0)), (1, .int x1), (2, .int x2), (3, .int x3), (4, .int x4)]) hx hb dX7_isSo_67 hl (k := 6) rfl rfl (by decide) rfl (fun ls hl => ?_)
          refine lv_goto (pc := 70) (tgt := 6) hx hb dX7_isSo_70 (by decide) ?_
          exact ih _ _ _ _ _ _ _ _ _ h hP hD hS (lv_sub hl [2, 3, 4, 5, 6, 1, 0] rfl)
        · have h := h.2 c8
          refine lv_iconst (pc := 60) (v := (1 : Int32)) hx hb dX7_isSo_60 (by decide) ?_
          refine lv_goto (pc := 61) (tgt := 65) hx hb dX7_isSo_61 (by decide) ?_
          refine lv_istore (pc := 65) (lv' := [(5, .int (1 : Int32)), (0, .ref (ad 0)), (1, .int x1), (2, .int x2), (3, .int x3), (4, .int x4), (6, .int x6)]) hx hb dX7_isSo_65 hl (by decide) rfl (fun ls hl => ?_)
          refine lv_iinc (pc := 67) (v := (x6 + (2 : Int32))) (lv' := [(6, .int (x6 + (2 : Int32))), (5, .int (1 : Int32)), (0, .ref (ad 0)), (1, .int x1), (2, .int x2), (3, .int x3), (4, .int x4)]) hx hb dX7_isSo_67 hl (k := 6) rfl rfl (by decide) rfl (fun ls hl => ?_)
          refine lv_goto (pc := 70) (tgt := 6) hx hb dX7_isSo_70 (by decide) ?_
          exact ih _ _ _ _ _ _ _ _ _ h hP hD hS (lv_sub hl [2, 3, 4, 5, 6, 1, 0] rfl)
def p7_isSo (σ : kx_St) (x1 : Int32) (x2 : Int32) (x3 : Int32) (x4 : Int32) (Q : Int32 → Prop) : Prop := ∃ m6, p7_isSo_L6 m6 σ x1 x2 x3 x4 (1 : Int32) (0 : Int32) Q
set_option maxHeartbeats 4000000 in
theorem q7_isSo {σ : kx_St} {x1 : Int32} {x2 : Int32} {x3 : Int32} {x4 : Int32} {Q : Int32 → Prop} (h : p7_isSo σ x1 x2 x3 x4 Q) : Met l yX7_isSo (Cond.code yX7_isSo cX7_isSo 7 (some .boolean) :: kx_big) rm7_isSo (va_Pc [.ref (ad 0), .int x1, .int x2, .int x3, .int x4] (kx_Wd D cy 1 ad A σ)) (kx_Qc kx_ci (fun u r => u = σ ∧ Q r) (kx_Wd D cy 1 ad A) A) 0 0 A := by
  refine kx_head (plainFor_of_name (by decide)) (Nat.le_of_ble_eq_true rfl) ?_
  intro p e s m below meth c ls cx hP hD hS hl
  obtain ⟨hx, hb, hr, hlocks, hml, hown, hts, hK⟩ := id cx
  have hl : lv_has ls 7 [(0, .ref (ad 0)), (1, .int x1), (2, .int x2), (3, .int x3), (4, .int x4)] := hl
  refine lv_iconst (pc := 0) (v := (1 : Int32)) hx hb dX7_isSo_0 (by decide) ?_
  refine lv_istore (pc := 1) (lv' := [(5, .int (1 : Int32)), (0, .ref (ad 0)), (1, .int x1), (2, .int x2), (3, .int x3), (4, .int x4)]) hx hb dX7_isSo_1 hl (by decide) rfl (fun ls hl => ?_)
  refine lv_iconst (pc := 3) (v := (0 : Int32)) hx hb dX7_isSo_3 (by decide) ?_
  refine lv_istore (pc := 4) (lv' := [(6, .int (0 : Int32)), (5, .int (1 : Int32)), (0, .ref (ad 0)), (1, .int x1), (2, .int x2), (3, .int x3), (4, .int x4)]) hx hb dX7_isSo_4 hl (by decide) rfl (fun ls hl => ?_)
  obtain ⟨n0, h⟩ := h
  exact w7_isSo_L6 cx  n0 _ _ _ _ _ _ _ _ _ h hP hD hS (lv_sub hl [2, 3, 4, 5, 6, 1, 0] rfl)
def p7_tails_L35 : Nat → kx_St → Int32 → Int32 → Int32 → Int32 → (kx_St → Int32 → Prop) → Prop
  | 0, _, _, _, _, _, _ => False
  | n + 1, σ, x1, x2, x4, x5, Q => ((4 : Int32) ≤ x5 → Q σ x4) ∧ (¬ (4 : Int32) ≤ x5 → vp_in x1 6 ∧ (vp_in x1 6 ∧ (p7_isSo σ (σ.1 3 x1.toNatClampNeg) (σ.1 4 x1.toNatClampNeg) x5 x2 (fun r4 => (r4 = 0 → p7_tails_L35 n σ x1 x2 (x4 ||| (0 : Int32)) (x5 + (1 : Int32)) Q) ∧ (¬ r4 = 0 → p7_tails_L35 n σ x1 x2 (x4 ||| ((1 : Int32) <<< (x5 &&& 31))) (x5 + (1 : Int32)) Q)))))
set_option maxHeartbeats 4000000 in
theorem w7_tails_L35  {Q : kx_St → Int32 → Prop} (cx : kx_Cx p s m args meth c D cy RX7 cX7_tails 6 (some .int))  : ∀ (n : Nat) (σ : kx_St) (x1 : Int32) (x2 : Int32) (x4 : Int32) (x5 : Int32) (H : Heap) (locs : List Loc) (ls : Array Slot), p7_tails_L35 n σ x1 x2 x4 x5 Q → va_P D vwCl (kx_ws cy 1 ad σ) H → va_D A (kx_ws cy 1 ad σ) → va_S A s.heap H locs → lv_has ls 6 [(0, .ref (ad 0)), (1, .int x1), (2, .int x2), (4, .int x4), (5, .int x5)] → W p l e rm7_tails s m args below meth c H locs 0 0 (MQ below (kx_Qc kx_ci Q (kx_Wd D cy 1 ad A) A) args s 0 0 A) (F0 m 35 ls []) := by
  obtain ⟨hx, hb, hr, hlocks, hml, hown, hts, hK⟩ := id cx
  intro n
  induction n with
  | zero => intro _ _ _ _ _ _ _ _ h; exact False.elim h
  | succ n ih =>
    intro σ x1 x2 x4 x5 H locs ls h hP hD hS hl
    refine lv_iload (pc := 35) hx hb dX7_tails_35 (lv_at hl 4 rfl) ?_
    refine lv_iconst (pc := 37) (v := (4 : Int32)) hx hb dX7_tails_37 (by decide) ?_
    refine lv_icmp_ge (pc := 38) (tgt := 82) hx hb dX7_tails_38 (by decide) (fun c1 => ?_) (fun c1 => ?_)
    · have h := h.1 c1
      refine lv_iload (pc := 82) hx hb dX7_tails_82 (lv_at hl 3 rfl) ?_
      exact kx_iret (pc := 84) hx hb hr hlocks hK hP hD hS h dX7_tails_84
    · have h := h.2 c1
      refine lv_iload (pc := 41) hx hb dX7_tails_41 (lv_at hl 3 rfl) ?_
      refine lv_aload_n (pc := 43) hx hb dX7_tails_43 rfl (lv_at hl 0 rfl) ?_
      refine lv_aload_n (pc := 44) hx hb dX7_tails_44 rfl (lv_at hl 0 rfl) ?_
      refine fg7_16 (pc := 45) (b := 3) hx hb hown hts hK hP rfl rfl dX7_tails_45 ?_
      refine lv_iload_n (pc := 48) hx hb dX7_tails_48 rfl (lv_at hl 1 rfl) ?_
      obtain ⟨g2, h⟩ := h
      refine kx_iald (pc := 49) hx hb hK hP rfl g2 dX7_tails_49 ?_
      refine lv_aload_n (pc := 50) hx hb dX7_tails_50 rfl (lv_at hl 0 rfl) ?_
      refine fg7_19 (pc := 51) (b := 4) hx hb hown hts hK hP rfl rfl dX7_tails_51 ?_
      refine lv_iload_n (pc := 54) hx hb dX7_tails_54 rfl (lv_at hl 1 rfl) ?_
      obtain ⟨g3, h⟩ := h
      refine kx_iald (pc := 55) hx hb hK hP rfl g3 dX7_tails_55 ?_
      refine lv_iload (pc := 56) hx hb dX7_tails_56 (lv_at hl 4 rfl) ?_
      refine lv_iload_n (pc := 58) hx hb dX7_tails_58 rfl (lv_at hl 2 rfl) ?_
      refine kx_iVi (pc := 59) [.int (σ.1 3 x1.toNatClampNeg), .int (σ.1 4 x1.toNatClampNeg), .int x5, .int x2] hx hb hml hown hts hK hP hD hS (q7_isSo h) (cw7_243 hts ⟨Nat.le_of_ble_eq_true rfl, Nat.le_of_ble_eq_true rfl⟩) rfl (by decide) rfl rfl hl.1 rfl (Nat.le_of_ble_eq_true rfl) ⟨Nat.le_of_ble_eq_true rfl, Nat.le_of_ble_eq_true rfl⟩ dX7_tails_59 (fun r4 u_ H locs hP hD hS h => ?_)
      obtain ⟨hu_, h⟩ := h
      rw [hu_] at hP hD
      refine lv_if_eq (pc := 62) (tgt := 72) hx hb dX7_tails_62 (by decide) (fun c5 => ?_) (fun c5 => ?_)
      · have h := h.1 c5
        refine lv_iconst (pc := 72) (v := (0 : Int32)) hx hb dX7_tails_72 (by decide) ?_
        refine lv_ior (pc := 73) hx hb dX7_tails_73 ?_
        refine lv_istore (pc := 74) (lv' := [(4, .int (x4 ||| (0 : Int32))), (0, .ref (ad 0)), (1, .int x1), (2, .int x2), (5, .int x5)]) hx hb dX7_tails_74 hl (by decide) rfl (fun ls hl => ?_)
        refine lv_iinc (pc := 76) (v := (x5 + (1 : Int32))) (lv' := [(5, .int (x5 + (1 : Int32))), (4, .int (x4 ||| (0 : Int32))), (0, .ref (ad 0)), (1, .int x1), (2, .int x2)]) hx hb dX7_tails_76 hl (k := 4) rfl rfl (by decide) rfl (fun ls hl => ?_)
        refine lv_goto (pc := 79) (tgt := 35) hx hb dX7_tails_79 (by decide) ?_
        exact ih _ _ _ _ _ _ _ _ h hP hD hS (lv_sub hl [2, 3, 4, 1, 0] rfl)
      · have h := h.2 c5
        refine lv_iconst (pc := 65) (v := (1 : Int32)) hx hb dX7_tails_65 (by decide) ?_
        refine lv_iload (pc := 66) hx hb dX7_tails_66 (lv_at hl 4 rfl) ?_
        refine lv_ishl (pc := 68) hx hb dX7_tails_68 ?_
        refine lv_goto (pc := 69) (tgt := 73) hx hb dX7_tails_69 (by decide) ?_
        refine lv_ior (pc := 73) hx hb dX7_tails_73 ?_
        refine lv_istore (pc := 74) (lv' := [(4, .int (x4 ||| ((1 : Int32) <<< (x5 &&& 31)))), (0, .ref (ad 0)), (1, .int x1), (2, .int x2), (5, .int x5)]) hx hb dX7_tails_74 hl (by decide) rfl (fun ls hl => ?_)
        refine lv_iinc (pc := 76) (v := (x5 + (1 : Int32))) (lv' := [(5, .int (x5 + (1 : Int32))), (4, .int (x4 ||| ((1 : Int32) <<< (x5 &&& 31)))), (0, .ref (ad 0)), (1, .int x1), (2, .int x2)]) hx hb dX7_tails_76 hl (k := 4) rfl rfl (by decide) rfl (fun ls hl => ?_)
        refine lv_goto (pc := 79) (tgt := 35) hx hb dX7_tails_79 (by decide) ?_
        exact ih _ _ _ _ _ _ _ _ h hP hD hS (lv_sub hl [2, 3, 4, 1, 0] rfl)
def p7_tails (σ : kx_St) (x1 : Int32) (x2 : Int32) (Q : kx_St → Int32 → Prop) : Prop := p7_isKite σ x1 (fun r1 => (r1 = 0 → Q σ (-1 : Int32)) ∧ (¬ r1 = 0 → p7_isRow x2 (fun r3 => (¬ r3 = 0 → p7_noPairs σ x2 (fun σ6 r5 => (r5 = 0 → ∃ m35, p7_tails_L35 m35 σ6 x1 x2 (0 : Int32) (0 : Int32) Q) ∧ (¬ r5 = 0 → Q σ6 r5))) ∧ (r3 = 0 → Q σ (-1 : Int32)))))
set_option maxHeartbeats 4000000 in
theorem q7_tails {σ : kx_St} {x1 : Int32} {x2 : Int32} {Q : kx_St → Int32 → Prop} (h : p7_tails σ x1 x2 Q) : Met l yX7_tails (Cond.code yX7_tails cX7_tails 6 (some .int) :: kx_big) rm7_tails (va_Pc [.ref (ad 0), .int x1, .int x2] (kx_Wd D cy 1 ad A σ)) (kx_Qc kx_ci Q (kx_Wd D cy 1 ad A) A) 0 0 A := by
  refine kx_head (plainFor_of_name (by decide)) (Nat.le_of_ble_eq_true rfl) ?_
  intro p e s m below meth c ls cx hP hD hS hl
  obtain ⟨hx, hb, hr, hlocks, hml, hown, hts, hK⟩ := id cx
  have hl : lv_has ls 6 [(0, .ref (ad 0)), (1, .int x1), (2, .int x2)] := hl
  refine lv_aload_n (pc := 0) hx hb dX7_tails_0 rfl (lv_at hl 0 rfl) ?_
  refine lv_iload_n (pc := 1) hx hb dX7_tails_1 rfl (lv_at hl 1 rfl) ?_
  refine kx_iVi (pc := 2) [.int x1] hx hb hml hown hts hK hP hD hS (q7_isKite h) (cw7_174 hts ⟨Nat.le_of_ble_eq_true rfl, Nat.le_of_ble_eq_true rfl⟩) rfl (by decide) rfl rfl hl.1 rfl (Nat.le_of_ble_eq_true rfl) ⟨Nat.le_of_ble_eq_true rfl, Nat.le_of_ble_eq_true rfl⟩ dX7_tails_2 (fun r1 u_ H locs hP hD hS h => ?_)
  obtain ⟨hu_, h⟩ := h
  rw [hu_] at hP hD
  refine lv_if_eq (pc := 5) (tgt := 15) hx hb dX7_tails_5 (by decide) (fun c2 => ?_) (fun c2 => ?_)
  · have h := h.1 c2
    refine lv_iconst (pc := 15) (v := (-1 : Int32)) hx hb dX7_tails_15 (by decide) ?_
    exact kx_iret (pc := 16) hx hb hr hlocks hK hP hD hS h dX7_tails_16
  · have h := h.2 c2
    refine lv_iload_n (pc := 8) hx hb dX7_tails_8 rfl (lv_at hl 2 rfl) ?_
    refine kx_iSi (pc := 9) [.int x2] hx hb hml hown hts hK hP hD hS (q7_isRow h) (cw7_83 hts ⟨Nat.le_of_ble_eq_true rfl, Nat.le_of_ble_eq_true rfl⟩) rfl hl.1 rfl (Nat.le_of_ble_eq_true rfl) ⟨Nat.le_of_ble_eq_true rfl, Nat.le_of_ble_eq_true rfl⟩ dX7_tails_9 (fun r3 u_ H locs hP hD hS h => ?_)
    obtain ⟨hu_, h⟩ := h
    rw [hu_] at hP hD
    refine lv_if_ne (pc := 12) (tgt := 17) hx hb dX7_tails_12 (by decide) (fun c4 => ?_) (fun c4 => ?_)
    · have h := h.1 c4
      refine lv_aload_n (pc := 17) hx hb dX7_tails_17 rfl (lv_at hl 0 rfl) ?_
      refine lv_iload_n (pc := 18) hx hb dX7_tails_18 rfl (lv_at hl 2 rfl) ?_
      refine kx_iVi (pc := 19) [.int x2] hx hb hml hown hts hK hP hD hS (q7_noPairs h) (cw7_240 hts ⟨Nat.le_of_ble_eq_true rfl, Nat.le_of_ble_eq_true rfl⟩) rfl (by decide) rfl rfl hl.1 rfl (Nat.le_of_ble_eq_true rfl) ⟨Nat.le_of_ble_eq_true rfl, Nat.le_of_ble_eq_true rfl⟩ dX7_tails_19 (fun r5 σ6 H locs hP hD hS h => ?_)
      refine lv_istore_n (pc := 22) (lv' := [(3, .int r5), (0, .ref (ad 0)), (1, .int x1), (2, .int x2)]) hx hb dX7_tails_22 rfl hl (by decide) rfl (fun ls hl => ?_)
      refine lv_iload_n (pc := 23) hx hb dX7_tails_23 rfl (lv_at hl 0 rfl) ?_
      refine lv_if_eq (pc := 24) (tgt := 29) hx hb dX7_tails_24 (by decide) (fun c7 => ?_) (fun c7 => ?_)
      · have h := h.1 c7
        refine lv_iconst (pc := 29) (v := (0 : Int32)) hx hb dX7_tails_29 (by decide) ?_
        refine lv_istore (pc := 30) (lv' := [(4, .int (0 : Int32)), (3, .int r5), (0, .ref (ad 0)), (1, .int x1), (2, .int x2)]) hx hb dX7_tails_30 hl (by decide) rfl (fun ls hl => ?_)
        refine lv_iconst (pc := 32) (v := (0 : Int32)) hx hb dX7_tails_32 (by decide) ?_
        refine lv_istore (pc := 33) (lv' := [(5, .int (0 : Int32)), (4, .int (0 : Int32)), (3, .int r5), (0, .ref (ad 0)), (1, .int x1), (2, .int x2)]) hx hb dX7_tails_33 hl (by decide) rfl (fun ls hl => ?_)
        obtain ⟨n0, h⟩ := h
        exact w7_tails_L35 cx  n0 _ _ _ _ _ _ _ _ h hP hD hS (lv_sub hl [3, 4, 5, 1, 0] rfl)
      · have h := h.2 c7
        refine lv_iload_n (pc := 27) hx hb dX7_tails_27 rfl (lv_at hl 0 rfl) ?_
        exact kx_iret (pc := 28) hx hb hr hlocks hK hP hD hS h dX7_tails_28
    · have h := h.2 c4
      refine lv_iconst (pc := 15) (v := (-1 : Int32)) hx hb dX7_tails_15 (by decide) ?_
      exact kx_iret (pc := 16) hx hb hr hlocks hK hP hD hS h dX7_tails_16
def p7_kindsBy_L5 : Nat → kx_St → Int32 → Int32 → Int32 → Int32 → (Int32 → Prop) → Prop
  | 0, _, _, _, _, _, _ => False
  | n + 1, σ, x1, x2, x3, x4, Q => ((6 : Int32) ≤ x4 → Q x3) ∧ (¬ (6 : Int32) ≤ x4 → vp_in x1 6 ∧ (vp_in ((4 : Int32) + x1) 2480 ∧ (p7_isSo σ x4 (σ.1 4 x1.toNatClampNeg) (σ.1 1 ((4 : Int32) + x1).toNatClampNeg) x2 (fun r4 => (r4 = 0 → p7_kindsBy_L5 n σ x1 x2 (x3 ||| (0 : Int32)) (x4 + (1 : Int32)) Q) ∧ (¬ r4 = 0 → p7_kindsBy_L5 n σ x1 x2 (x3 ||| ((1 : Int32) <<< (x4 &&& 31))) (x4 + (1 : Int32)) Q)))))
set_option maxHeartbeats 4000000 in
theorem w7_kindsBy_L5 {σ : kx_St}  {Q : Int32 → Prop} (cx : kx_Cx p s m args meth c D cy RX7 cX7_kindsBy 5 (some .int))  : ∀ (n : Nat) (x1 : Int32) (x2 : Int32) (x3 : Int32) (x4 : Int32) (H : Heap) (locs : List Loc) (ls : Array Slot), p7_kindsBy_L5 n σ x1 x2 x3 x4 Q → va_P D vwCl (kx_ws cy 1 ad σ) H → va_D A (kx_ws cy 1 ad σ) → va_S A s.heap H locs → lv_has ls 5 [(0, .ref (ad 0)), (1, .int x1), (2, .int x2), (3, .int x3), (4, .int x4)] → W p l e rm7_kindsBy s m args below meth c H locs 0 0 (MQ below (kx_Qc kx_ci (fun u r => u = σ ∧ Q r) (kx_Wd D cy 1 ad A) A) args s 0 0 A) (F0 m 5 ls []) := by
  obtain ⟨hx, hb, hr, hlocks, hml, hown, hts, hK⟩ := id cx
  intro n
  induction n with
  | zero => intro _ _ _ _ _ _ _ h; exact False.elim h
  | succ n ih =>
    intro x1 x2 x3 x4 H locs ls h hP hD hS hl
    refine lv_iload (pc := 5) hx hb dX7_kindsBy_5 (lv_at hl 4 rfl) ?_
    refine lv_bipush (pc := 7) (v := (6 : Int32)) hx hb dX7_kindsBy_7 (by decide) ?_
    refine lv_icmp_ge (pc := 9) (tgt := 53) hx hb dX7_kindsBy_9 (by decide) (fun c1 => ?_) (fun c1 => ?_)
    · have h := h.1 c1
      refine lv_iload_n (pc := 53) hx hb dX7_kindsBy_53 rfl (lv_at hl 3 rfl) ?_
      exact kx_iret (pc := 54) hx hb hr hlocks hK hP hD hS ⟨rfl, h⟩ dX7_kindsBy_54
    · have h := h.2 c1
      refine lv_iload_n (pc := 12) hx hb dX7_kindsBy_12 rfl (lv_at hl 3 rfl) ?_
      refine lv_aload_n (pc := 13) hx hb dX7_kindsBy_13 rfl (lv_at hl 0 rfl) ?_
      refine lv_iload (pc := 14) hx hb dX7_kindsBy_14 (lv_at hl 4 rfl) ?_
      refine lv_aload_n (pc := 16) hx hb dX7_kindsBy_16 rfl (lv_at hl 0 rfl) ?_
      refine fg7_19 (pc := 17) (b := 4) hx hb hown hts hK hP rfl rfl dX7_kindsBy_17 ?_
      refine lv_iload_n (pc := 20) hx hb dX7_kindsBy_20 rfl (lv_at hl 1 rfl) ?_
      obtain ⟨g2, h⟩ := h
      refine kx_iald (pc := 21) hx hb hK hP rfl g2 dX7_kindsBy_21 ?_
      refine lv_aload_n (pc := 22) hx hb dX7_kindsBy_22 rfl (lv_at hl 0 rfl) ?_
      refine fg7_7 (pc := 23) (b := 1) hx hb hown hts hK hP rfl rfl dX7_kindsBy_23 ?_
      refine lv_iconst (pc := 26) (v := (4 : Int32)) hx hb dX7_kindsBy_26 (by decide) ?_
      refine lv_iload_n (pc := 27) hx hb dX7_kindsBy_27 rfl (lv_at hl 1 rfl) ?_
      refine lv_iadd (pc := 28) hx hb dX7_kindsBy_28 ?_
      obtain ⟨g3, h⟩ := h
      refine kx_iald (pc := 29) hx hb hK hP rfl g3 dX7_kindsBy_29 ?_
      refine lv_iload_n (pc := 30) hx hb dX7_kindsBy_30 rfl (lv_at hl 2 rfl) ?_
      refine kx_iVi (pc := 31) [.int x4, .int (σ.1 4 x1.toNatClampNeg), .int (σ.1 1 ((4 : Int32) + x1).toNatClampNeg), .int x2] hx hb hml hown hts hK hP hD hS (q7_isSo h) (cw7_243 hts ⟨Nat.le_of_ble_eq_true rfl, Nat.le_of_ble_eq_true rfl⟩) rfl (by decide) rfl rfl hl.1 rfl (Nat.le_of_ble_eq_true rfl) ⟨Nat.le_of_ble_eq_true rfl, Nat.le_of_ble_eq_true rfl⟩ dX7_kindsBy_31 (fun r4 u_ H locs hP hD hS h => ?_)
      obtain ⟨hu_, h⟩ := h
      rw [hu_] at hP hD
      refine lv_if_eq (pc := 34) (tgt := 44) hx hb dX7_kindsBy_34 (by decide) (fun c5 => ?_) (fun c5 => ?_)
      · have h := h.1 c5
        refine lv_iconst (pc := 44) (v := (0 : Int32)) hx hb dX7_kindsBy_44 (by decide) ?_
        refine lv_ior (pc := 45) hx hb dX7_kindsBy_45 ?_
        refine lv_istore_n (pc := 46) (lv' := [(3, .int (x3 ||| (0 : Int32))), (0, .ref (ad 0)), (1, .int x1), (2, .int x2), (4, .int x4)]) hx hb dX7_kindsBy_46 rfl hl (by decide) rfl (fun ls hl => ?_)
        refine lv_iinc (pc := 47) (v := (x4 + (1 : Int32))) (lv' := [(4, .int (x4 + (1 : Int32))), (3, .int (x3 ||| (0 : Int32))), (0, .ref (ad 0)), (1, .int x1), (2, .int x2)]) hx hb dX7_kindsBy_47 hl (k := 4) rfl rfl (by decide) rfl (fun ls hl => ?_)
        refine lv_goto (pc := 50) (tgt := 5) hx hb dX7_kindsBy_50 (by decide) ?_
        exact ih _ _ _ _ _ _ _ h hP hD hS (lv_sub hl [2, 3, 4, 1, 0] rfl)
      · have h := h.2 c5
        refine lv_iconst (pc := 37) (v := (1 : Int32)) hx hb dX7_kindsBy_37 (by decide) ?_
        refine lv_iload (pc := 38) hx hb dX7_kindsBy_38 (lv_at hl 4 rfl) ?_
        refine lv_ishl (pc := 40) hx hb dX7_kindsBy_40 ?_
        refine lv_goto (pc := 41) (tgt := 45) hx hb dX7_kindsBy_41 (by decide) ?_
        refine lv_ior (pc := 45) hx hb dX7_kindsBy_45 ?_
        refine lv_istore_n (pc := 46) (lv' := [(3, .int (x3 ||| ((1 : Int32) <<< (x4 &&& 31)))), (0, .ref (ad 0)), (1, .int x1), (2, .int x2), (4, .int x4)]) hx hb dX7_kindsBy_46 rfl hl (by decide) rfl (fun ls hl => ?_)
        refine lv_iinc (pc := 47) (v := (x4 + (1 : Int32))) (lv' := [(4, .int (x4 + (1 : Int32))), (3, .int (x3 ||| ((1 : Int32) <<< (x4 &&& 31)))), (0, .ref (ad 0)), (1, .int x1), (2, .int x2)]) hx hb dX7_kindsBy_47 hl (k := 4) rfl rfl (by decide) rfl (fun ls hl => ?_)
        refine lv_goto (pc := 50) (tgt := 5) hx hb dX7_kindsBy_50 (by decide) ?_
        exact ih _ _ _ _ _ _ _ h hP hD hS (lv_sub hl [2, 3, 4, 1, 0] rfl)
def p7_kindsBy (σ : kx_St) (x1 : Int32) (x2 : Int32) (Q : Int32 → Prop) : Prop := ∃ m5, p7_kindsBy_L5 m5 σ x1 x2 (0 : Int32) (0 : Int32) Q
set_option maxHeartbeats 4000000 in
theorem q7_kindsBy {σ : kx_St} {x1 : Int32} {x2 : Int32} {Q : Int32 → Prop} (h : p7_kindsBy σ x1 x2 Q) : Met l yX7_kindsBy (Cond.code yX7_kindsBy cX7_kindsBy 5 (some .int) :: kx_big) rm7_kindsBy (va_Pc [.ref (ad 0), .int x1, .int x2] (kx_Wd D cy 1 ad A σ)) (kx_Qc kx_ci (fun u r => u = σ ∧ Q r) (kx_Wd D cy 1 ad A) A) 0 0 A := by
  refine kx_head (plainFor_of_name (by decide)) (Nat.le_of_ble_eq_true rfl) ?_
  intro p e s m below meth c ls cx hP hD hS hl
  obtain ⟨hx, hb, hr, hlocks, hml, hown, hts, hK⟩ := id cx
  have hl : lv_has ls 5 [(0, .ref (ad 0)), (1, .int x1), (2, .int x2)] := hl
  refine lv_iconst (pc := 0) (v := (0 : Int32)) hx hb dX7_kindsBy_0 (by decide) ?_
  refine lv_istore_n (pc := 1) (lv' := [(3, .int (0 : Int32)), (0, .ref (ad 0)), (1, .int x1), (2, .int x2)]) hx hb dX7_kindsBy_1 rfl hl (by decide) rfl (fun ls hl => ?_)
  refine lv_iconst (pc := 2) (v := (0 : Int32)) hx hb dX7_kindsBy_2 (by decide) ?_
  refine lv_istore (pc := 3) (lv' := [(4, .int (0 : Int32)), (3, .int (0 : Int32)), (0, .ref (ad 0)), (1, .int x1), (2, .int x2)]) hx hb dX7_kindsBy_3 hl (by decide) rfl (fun ls hl => ?_)
  obtain ⟨n0, h⟩ := h
  exact w7_kindsBy_L5 cx  n0 _ _ _ _ _ _ _ h hP hD hS (lv_sub hl [2, 3, 4, 1, 0] rfl)
def p7_kinds (σ : kx_St) (x1 : Int32) (x2 : Int32) (Q : kx_St → Int32 → Prop) : Prop := p7_isKite σ x1 (fun r1 => (r1 = 0 → Q σ (-1 : Int32)) ∧ (¬ r1 = 0 → p7_isRow x2 (fun r3 => (¬ r3 = 0 → p7_noPairs σ x2 (fun σ6 r5 => (r5 = 0 → p7_kindsBy σ6 x1 x2 (fun r8 => Q σ6 r8)) ∧ (¬ r5 = 0 → Q σ6 r5))) ∧ (r3 = 0 → Q σ (-1 : Int32)))))
set_option maxHeartbeats 4000000 in
theorem q7_kinds {σ : kx_St} {x1 : Int32} {x2 : Int32} {Q : kx_St → Int32 → Prop} (h : p7_kinds σ x1 x2 Q) : Met l yX7_kinds (Cond.code yX7_kinds cX7_kinds 4 (some .int) :: kx_big) rm7_kinds (va_Pc [.ref (ad 0), .int x1, .int x2] (kx_Wd D cy 1 ad A σ)) (kx_Qc kx_ci Q (kx_Wd D cy 1 ad A) A) 0 0 A := by
  refine kx_head (plainFor_of_name (by decide)) (Nat.le_of_ble_eq_true rfl) ?_
  intro p e s m below meth c ls cx hP hD hS hl
  obtain ⟨hx, hb, hr, hlocks, hml, hown, hts, hK⟩ := id cx
  have hl : lv_has ls 4 [(0, .ref (ad 0)), (1, .int x1), (2, .int x2)] := hl
  refine lv_aload_n (pc := 0) hx hb dX7_kinds_0 rfl (lv_at hl 0 rfl) ?_
  refine lv_iload_n (pc := 1) hx hb dX7_kinds_1 rfl (lv_at hl 1 rfl) ?_
  refine kx_iVi (pc := 2) [.int x1] hx hb hml hown hts hK hP hD hS (q7_isKite h) (cw7_174 hts ⟨Nat.le_of_ble_eq_true rfl, Nat.le_of_ble_eq_true rfl⟩) rfl (by decide) rfl rfl hl.1 rfl (Nat.le_of_ble_eq_true rfl) ⟨Nat.le_of_ble_eq_true rfl, Nat.le_of_ble_eq_true rfl⟩ dX7_kinds_2 (fun r1 u_ H locs hP hD hS h => ?_)
  obtain ⟨hu_, h⟩ := h
  rw [hu_] at hP hD
  refine lv_if_eq (pc := 5) (tgt := 15) hx hb dX7_kinds_5 (by decide) (fun c2 => ?_) (fun c2 => ?_)
  · have h := h.1 c2
    refine lv_iconst (pc := 15) (v := (-1 : Int32)) hx hb dX7_kinds_15 (by decide) ?_
    exact kx_iret (pc := 16) hx hb hr hlocks hK hP hD hS h dX7_kinds_16
  · have h := h.2 c2
    refine lv_iload_n (pc := 8) hx hb dX7_kinds_8 rfl (lv_at hl 2 rfl) ?_
    refine kx_iSi (pc := 9) [.int x2] hx hb hml hown hts hK hP hD hS (q7_isRow h) (cw7_83 hts ⟨Nat.le_of_ble_eq_true rfl, Nat.le_of_ble_eq_true rfl⟩) rfl hl.1 rfl (Nat.le_of_ble_eq_true rfl) ⟨Nat.le_of_ble_eq_true rfl, Nat.le_of_ble_eq_true rfl⟩ dX7_kinds_9 (fun r3 u_ H locs hP hD hS h => ?_)
    obtain ⟨hu_, h⟩ := h
    rw [hu_] at hP hD
    refine lv_if_ne (pc := 12) (tgt := 17) hx hb dX7_kinds_12 (by decide) (fun c4 => ?_) (fun c4 => ?_)
    · have h := h.1 c4
      refine lv_aload_n (pc := 17) hx hb dX7_kinds_17 rfl (lv_at hl 0 rfl) ?_
      refine lv_iload_n (pc := 18) hx hb dX7_kinds_18 rfl (lv_at hl 2 rfl) ?_
      refine kx_iVi (pc := 19) [.int x2] hx hb hml hown hts hK hP hD hS (q7_noPairs h) (cw7_240 hts ⟨Nat.le_of_ble_eq_true rfl, Nat.le_of_ble_eq_true rfl⟩) rfl (by decide) rfl rfl hl.1 rfl (Nat.le_of_ble_eq_true rfl) ⟨Nat.le_of_ble_eq_true rfl, Nat.le_of_ble_eq_true rfl⟩ dX7_kinds_19 (fun r5 σ6 H locs hP hD hS h => ?_)
      refine lv_istore_n (pc := 22) (lv' := [(3, .int r5), (0, .ref (ad 0)), (1, .int x1), (2, .int x2)]) hx hb dX7_kinds_22 rfl hl (by decide) rfl (fun ls hl => ?_)
      refine lv_iload_n (pc := 23) hx hb dX7_kinds_23 rfl (lv_at hl 0 rfl) ?_
      refine lv_if_eq (pc := 24) (tgt := 31) hx hb dX7_kinds_24 (by decide) (fun c7 => ?_) (fun c7 => ?_)
      · have h := h.1 c7
        refine lv_aload_n (pc := 31) hx hb dX7_kinds_31 rfl (lv_at hl 1 rfl) ?_
        refine lv_iload_n (pc := 32) hx hb dX7_kinds_32 rfl (lv_at hl 2 rfl) ?_
        refine lv_iload_n (pc := 33) hx hb dX7_kinds_33 rfl (lv_at hl 3 rfl) ?_
        refine kx_iVi (pc := 34) [.int x1, .int x2] hx hb hml hown hts hK hP hD hS (q7_kindsBy h) (cw7_247 hts ⟨Nat.le_of_ble_eq_true rfl, Nat.le_of_ble_eq_true rfl⟩) rfl (by decide) rfl rfl hl.1 rfl (Nat.le_of_ble_eq_true rfl) ⟨Nat.le_of_ble_eq_true rfl, Nat.le_of_ble_eq_true rfl⟩ dX7_kinds_34 (fun r8 u_ H locs hP hD hS h => ?_)
        obtain ⟨hu_, h⟩ := h
        rw [hu_] at hP hD
        exact kx_iret (pc := 37) hx hb hr hlocks hK hP hD hS h dX7_kinds_37
      · have h := h.2 c7
        refine lv_iload_n (pc := 27) hx hb dX7_kinds_27 rfl (lv_at hl 0 rfl) ?_
        refine lv_goto (pc := 28) (tgt := 37) hx hb dX7_kinds_28 (by decide) ?_
        exact kx_iret (pc := 37) hx hb hr hlocks hK hP hD hS h dX7_kinds_37
    · have h := h.2 c4
      refine lv_iconst (pc := 15) (v := (-1 : Int32)) hx hb dX7_kinds_15 (by decide) ?_
      exact kx_iret (pc := 16) hx hb hr hlocks hK hP hD hS h dX7_kinds_16
def p7_greatestPart_J49 (σ : kx_St) (x1 : Int32) (x2 : Int32) (x3 : Int32) (x4 : Int32) (x5 : Int32) (x6 : Int32) (x7 : Int32) (s0 : Int32) (k19 : Int32 → Int32 → Int32 → Int32 → Int32 → Int32 → Int32 → Prop) (Q : Int32 → Prop) : Prop := (s0 = 0 → k19 x1 x2 x3 x4 x5 (x6 + (0 : Int32)) (x7 + (1 : Int32))) ∧ (¬ s0 = 0 → vp_in x1 6 ∧ (vp_in ((4 : Int32) + x1) 2480 ∧ (p7_liftsBy x5 (σ.1 4 x1.toNatClampNeg) (σ.1 1 ((4 : Int32) + x1).toNatClampNeg) x3 (fun r4 => vp_in x1 6 ∧ (vp_in ((4 : Int32) + x1) 2480 ∧ (p7_liftsBy x7 (σ.1 4 x1.toNatClampNeg) (σ.1 1 ((4 : Int32) + x1).toNatClampNeg) x3 (fun r7 => (¬ r4 = r7 → k19 x1 x2 x3 x4 x5 (x6 + (0 : Int32)) (x7 + (1 : Int32))) ∧ (r4 = r7 → k19 x1 x2 x3 x4 x5 (x6 + (1 : Int32)) (x7 + (1 : Int32))))))))))
set_option maxHeartbeats 4000000 in
theorem w7_greatestPart_J49 {σ : kx_St} {x1 : Int32} {x2 : Int32} {x3 : Int32} {x4 : Int32} {x5 : Int32} {x6 : Int32} {x7 : Int32} {s0 : Int32} {k19 : Int32 → Int32 → Int32 → Int32 → Int32 → Int32 → Int32 → Prop} {Q : Int32 → Prop} {H : Heap} {locs : List Loc} {ls : Array Slot} (cx : kx_Cx p s m args meth c D cy RX7 cX7_greatestPart 9 (some .int)) (hk19 : ∀ (x1 : Int32) (x2 : Int32) (x3 : Int32) (x4 : Int32) (x5 : Int32) (x6 : Int32) (x7 : Int32) (H : Heap) (locs : List Loc) (ls : Array Slot), k19 x1 x2 x3 x4 x5 x6 x7 → va_P D vwCl (kx_ws cy 1 ad σ) H → va_D A (kx_ws cy 1 ad σ) → va_S A s.heap H locs → lv_has ls 9 [(0, .ref (ad 0)), (1, .int x1), (2, .int x2), (3, .int x3), (4, .int x4), (5, .int x5), (6, .int x6), (7, .int x7)] → W p l e rm7_greatestPart s m args below meth c H locs 0 0 (MQ below (kx_Qc kx_ci (fun u r => u = σ ∧ Q r) (kx_Wd D cy 1 ad A) A) args s 0 0 A) (F0 m 19 ls []))  (h : p7_greatestPart_J49 σ x1 x2 x3 x4 x5 x6 x7 s0 k19 Q) (hP : va_P D vwCl (kx_ws cy 1 ad σ) H) (hD : va_D A (kx_ws cy 1 ad σ)) (hS : va_S A s.heap H locs) (hl : lv_has ls 9 [(0, .ref (ad 0)), (1, .int x1), (2, .int x2), (3, .int x3), (4, .int x4), (5, .int x5), (6, .int x6), (7, .int x7)]) : W p l e rm7_greatestPart s m args below meth c H locs 0 0 (MQ below (kx_Qc kx_ci (fun u r => u = σ ∧ Q r) (kx_Wd D cy 1 ad A) A) args s 0 0 A) (F0 m 49 ls [.int s0]) := by
  obtain ⟨hx, hb, hr, hlocks, hml, hown, hts, hK⟩ := id cx
  refine lv_istore (pc := 49) (lv' := [(8, .int s0), (0, .ref (ad 0)), (1, .int x1), (2, .int x2), (3, .int x3), (4, .int x4), (5, .int x5), (6, .int x6), (7, .int x7)]) hx hb dX7_greatestPart_49 hl (by decide) rfl (fun ls hl => ?_)
  refine lv_iload (pc := 51) hx hb dX7_greatestPart_51 (lv_at hl 7 rfl) ?_
  refine lv_iload (pc := 53) hx hb dX7_greatestPart_53 (lv_at hl 0 rfl) ?_
  refine lv_if_eq (pc := 55) (tgt := 105) hx hb dX7_greatestPart_55 (by decide) (fun c1 => ?_) (fun c1 => ?_)
  · have h := h.1 c1
    refine lv_iconst (pc := 105) (v := (0 : Int32)) hx hb dX7_greatestPart_105 (by decide) ?_
    refine lv_iadd (pc := 106) hx hb dX7_greatestPart_106 ?_
    refine lv_istore (pc := 107) (lv' := [(6, .int (x6 + (0 : Int32))), (8, .int s0), (0, .ref (ad 0)), (1, .int x1), (2, .int x2), (3, .int x3), (4, .int x4), (5, .int x5), (7, .int x7)]) hx hb dX7_greatestPart_107 hl (by decide) rfl (fun ls hl => ?_)
    refine lv_iinc (pc := 109) (v := (x7 + (1 : Int32))) (lv' := [(7, .int (x7 + (1 : Int32))), (6, .int (x6 + (0 : Int32))), (8, .int s0), (0, .ref (ad 0)), (1, .int x1), (2, .int x2), (3, .int x3), (4, .int x4), (5, .int x5)]) hx hb dX7_greatestPart_109 hl (k := 8) rfl rfl (by decide) rfl (fun ls hl => ?_)
    refine lv_goto (pc := 112) (tgt := 19) hx hb dX7_greatestPart_112 (by decide) ?_
    exact hk19 _ _ _ _ _ _ _ _ _ _ h hP hD hS (lv_sub hl [3, 4, 5, 6, 7, 8, 1, 0] rfl)
  · have h := h.2 c1
    refine lv_iload (pc := 58) hx hb dX7_greatestPart_58 (lv_at hl 6 rfl) ?_
    refine lv_aload_n (pc := 60) hx hb dX7_greatestPart_60 rfl (lv_at hl 1 rfl) ?_
    refine fg7_19 (pc := 61) (b := 4) hx hb hown hts hK hP rfl rfl dX7_greatestPart_61 ?_
    refine lv_iload_n (pc := 64) hx hb dX7_greatestPart_64 rfl (lv_at hl 2 rfl) ?_
    obtain ⟨g2, h⟩ := h
    refine kx_iald (pc := 65) hx hb hK hP rfl g2 dX7_greatestPart_65 ?_
    refine lv_aload_n (pc := 66) hx hb dX7_greatestPart_66 rfl (lv_at hl 1 rfl) ?_
    refine fg7_7 (pc := 67) (b := 1) hx hb hown hts hK hP rfl rfl dX7_greatestPart_67 ?_
    refine lv_iconst (pc := 70) (v := (4 : Int32)) hx hb dX7_greatestPart_70 (by decide) ?_
    refine lv_iload_n (pc := 71) hx hb dX7_greatestPart_71 rfl (lv_at hl 2 rfl) ?_
    refine lv_iadd (pc := 72) hx hb dX7_greatestPart_72 ?_
    obtain ⟨g3, h⟩ := h
    refine kx_iald (pc := 73) hx hb hK hP rfl g3 dX7_greatestPart_73 ?_
    refine lv_iload_n (pc := 74) hx hb dX7_greatestPart_74 rfl (lv_at hl 4 rfl) ?_
    refine kx_iSi (pc := 75) [.int x5, .int (σ.1 4 x1.toNatClampNeg), .int (σ.1 1 ((4 : Int32) + x1).toNatClampNeg), .int x3] hx hb hml hown hts hK hP hD hS (q7_liftsBy h) (cw7_153 hts ⟨Nat.le_of_ble_eq_true rfl, Nat.le_of_ble_eq_true rfl⟩) rfl hl.1 rfl (Nat.le_of_ble_eq_true rfl) ⟨Nat.le_of_ble_eq_true rfl, Nat.le_of_ble_eq_true rfl⟩ dX7_greatestPart_75 (fun r4 u_ H locs hP hD hS h => ?_)
    obtain ⟨hu_, h⟩ := h
    rw [hu_] at hP hD
    refine lv_iload (pc := 78) hx hb dX7_greatestPart_78 (lv_at hl 8 rfl) ?_
    refine lv_aload_n (pc := 80) hx hb dX7_greatestPart_80 rfl (lv_at hl 1 rfl) ?_
    refine fg7_19 (pc := 81) (b := 4) hx hb hown hts hK hP rfl rfl dX7_greatestPart_81 ?_
    refine lv_iload_n (pc := 84) hx hb dX7_greatestPart_84 rfl (lv_at hl 2 rfl) ?_
    obtain ⟨g5, h⟩ := h
    refine kx_iald (pc := 85) hx hb hK hP rfl g5 dX7_greatestPart_85 ?_
    refine lv_aload_n (pc := 86) hx hb dX7_greatestPart_86 rfl (lv_at hl 1 rfl) ?_
    refine fg7_7 (pc := 87) (b := 1) hx hb hown hts hK hP rfl rfl dX7_greatestPart_87 ?_
    refine lv_iconst (pc := 90) (v := (4 : Int32)) hx hb dX7_greatestPart_90 (by decide) ?_
    refine lv_iload_n (pc := 91) hx hb dX7_greatestPart_91 rfl (lv_at hl 2 rfl) ?_
    refine lv_iadd (pc := 92) hx hb dX7_greatestPart_92 ?_
    obtain ⟨g6, h⟩ := h
    refine kx_iald (pc := 93) hx hb hK hP rfl g6 dX7_greatestPart_93 ?_
    refine lv_iload_n (pc := 94) hx hb dX7_greatestPart_94 rfl (lv_at hl 4 rfl) ?_
    refine kx_iSi (pc := 95) [.int x7, .int (σ.1 4 x1.toNatClampNeg), .int (σ.1 1 ((4 : Int32) + x1).toNatClampNeg), .int x3] hx hb hml hown hts hK hP hD hS (q7_liftsBy h) (cw7_153 hts ⟨Nat.le_of_ble_eq_true rfl, Nat.le_of_ble_eq_true rfl⟩) rfl hl.1 rfl (Nat.le_of_ble_eq_true rfl) ⟨Nat.le_of_ble_eq_true rfl, Nat.le_of_ble_eq_true rfl⟩ dX7_greatestPart_95 (fun r7 u_ H locs hP hD hS h => ?_)
    obtain ⟨hu_, h⟩ := h
    rw [hu_] at hP hD
    refine lv_icmp_ne (pc := 98) (tgt := 105) hx hb dX7_greatestPart_98 (by decide) (fun c8 => ?_) (fun c8 => ?_)
    · have h := h.1 c8
      refine lv_iconst (pc := 105) (v := (0 : Int32)) hx hb dX7_greatestPart_105 (by decide) ?_
      refine lv_iadd (pc := 106) hx hb dX7_greatestPart_106 ?_
      refine lv_istore (pc := 107) (lv' := [(6, .int (x6 + (0 : Int32))), (8, .int s0), (0, .ref (ad 0)), (1, .int x1), (2, .int x2), (3, .int x3), (4, .int x4), (5, .int x5), (7, .int x7)]) hx hb dX7_greatestPart_107 hl (by decide) rfl (fun ls hl => ?_)
      refine lv_iinc (pc := 109) (v := (x7 + (1 : Int32))) (lv' := [(7, .int (x7 + (1 : Int32))), (6, .int (x6 + (0 : Int32))), (8, .int s0), (0, .ref (ad 0)), (1, .int x1), (2, .int x2), (3, .int x3), (4, .int x4), (5, .int x5)]) hx hb dX7_greatestPart_109 hl (k := 8) rfl rfl (by decide) rfl (fun ls hl => ?_)
      refine lv_goto (pc := 112) (tgt := 19) hx hb dX7_greatestPart_112 (by decide) ?_
      exact hk19 _ _ _ _ _ _ _ _ _ _ h hP hD hS (lv_sub hl [3, 4, 5, 6, 7, 8, 1, 0] rfl)
    · have h := h.2 c8
      refine lv_iconst (pc := 101) (v := (1 : Int32)) hx hb dX7_greatestPart_101 (by decide) ?_
      refine lv_goto (pc := 102) (tgt := 106) hx hb dX7_greatestPart_102 (by decide) ?_
      refine lv_iadd (pc := 106) hx hb dX7_greatestPart_106 ?_
      refine lv_istore (pc := 107) (lv' := [(6, .int (x6 + (1 : Int32))), (8, .int s0), (0, .ref (ad 0)), (1, .int x1), (2, .int x2), (3, .int x3), (4, .int x4), (5, .int x5), (7, .int x7)]) hx hb dX7_greatestPart_107 hl (by decide) rfl (fun ls hl => ?_)
      refine lv_iinc (pc := 109) (v := (x7 + (1 : Int32))) (lv' := [(7, .int (x7 + (1 : Int32))), (6, .int (x6 + (1 : Int32))), (8, .int s0), (0, .ref (ad 0)), (1, .int x1), (2, .int x2), (3, .int x3), (4, .int x4), (5, .int x5)]) hx hb dX7_greatestPart_109 hl (k := 8) rfl rfl (by decide) rfl (fun ls hl => ?_)
      refine lv_goto (pc := 112) (tgt := 19) hx hb dX7_greatestPart_112 (by decide) ?_
      exact hk19 _ _ _ _ _ _ _ _ _ _ h hP hD hS (lv_sub hl [3, 4, 5, 6, 7, 8, 1, 0] rfl)
def p7_greatestPart_L19 : Nat → kx_St → Int32 → Int32 → Int32 → Int32 → Int32 → Int32 → Int32 → (Int32 → Int32 → Int32 → Int32 → Int32 → Prop) → (Int32 → Prop) → Prop
  | 0, _, _, _, _, _, _, _, _, _, _ => False
  | n + 1, σ, x1, x2, x3, x4, x5, x6, x7, k6, Q => ((6 : Int32) ≤ x7 → (x6 ≤ x4 → k6 x1 x2 x3 x4 (x5 + (1 : Int32))) ∧ (¬ x6 ≤ x4 → k6 x1 x2 x3 x6 (x5 + (1 : Int32)))) ∧ (¬ (6 : Int32) ≤ x7 → p7_has x2 x5 (fun r3 => (r3 = 0 → p7_greatestPart_J49 σ x1 x2 x3 x4 x5 x6 x7 (0 : Int32) (fun x1 x2 x3 x4 x5 x6 x7 => p7_greatestPart_L19 n σ x1 x2 x3 x4 x5 x6 x7 k6 Q) Q) ∧ (¬ r3 = 0 → p7_has x2 x7 (fun r6 => (r6 = 0 → p7_greatestPart_J49 σ x1 x2 x3 x4 x5 x6 x7 (0 : Int32) (fun x1 x2 x3 x4 x5 x6 x7 => p7_greatestPart_L19 n σ x1 x2 x3 x4 x5 x6 x7 k6 Q) Q) ∧ (¬ r6 = 0 → p7_greatestPart_J49 σ x1 x2 x3 x4 x5 x6 x7 (1 : Int32) (fun x1 x2 x3 x4 x5 x6 x7 => p7_greatestPart_L19 n σ x1 x2 x3 x4 x5 x6 x7 k6 Q) Q)))))
set_option maxHeartbeats 4000000 in
theorem w7_greatestPart_L19 {σ : kx_St} {k6 : Int32 → Int32 → Int32 → Int32 → Int32 → Prop} {Q : Int32 → Prop} (cx : kx_Cx p s m args meth c D cy RX7 cX7_greatestPart 9 (some .int)) (hk6 : ∀ (x1 : Int32) (x2 : Int32) (x3 : Int32) (x4 : Int32) (x5 : Int32) (H : Heap) (locs : List Loc) (ls : Array Slot), k6 x1 x2 x3 x4 x5 → va_P D vwCl (kx_ws cy 1 ad σ) H → va_D A (kx_ws cy 1 ad σ) → va_S A s.heap H locs → lv_has ls 9 [(0, .ref (ad 0)), (1, .int x1), (2, .int x2), (3, .int x3), (4, .int x4), (5, .int x5)] → W p l e rm7_greatestPart s m args below meth c H locs 0 0 (MQ below (kx_Qc kx_ci (fun u r => u = σ ∧ Q r) (kx_Wd D cy 1 ad A) A) args s 0 0 A) (F0 m 6 ls [])) : ∀ (n : Nat) (x1 : Int32) (x2 : Int32) (x3 : Int32) (x4 : Int32) (x5 : Int32) (x6 : Int32) (x7 : Int32) (H : Heap) (locs : List Loc) (ls : Array Slot), p7_greatestPart_L19 n σ x1 x2 x3 x4 x5 x6 x7 k6 Q → va_P D vwCl (kx_ws cy 1 ad σ) H → va_D A (kx_ws cy 1 ad σ) → va_S A s.heap H locs → lv_has ls 9 [(0, .ref (ad 0)), (1, .int x1), (2, .int x2), (3, .int x3), (4, .int x4), (5, .int x5), (6, .int x6), (7, .int x7)] → W p l e rm7_greatestPart s m args below meth c H locs 0 0 (MQ below (kx_Qc kx_ci (fun u r => u = σ ∧ Q r) (kx_Wd D cy 1 ad A) A) args s 0 0 A) (F0 m 19 ls []) := by
  obtain ⟨hx, hb, hr, hlocks, hml, hown, hts, hK⟩ := id cx
  intro n
  induction n with
  | zero => intro _ _ _ _ _ _ _ _ _ _ h; exact False.elim h
  | succ n ih =>
    intro x1 x2 x3 x4 x5 x6 x7 H locs ls h hP hD hS hl
    refine lv_iload (pc := 19) hx hb dX7_greatestPart_19 (lv_at hl 7 rfl) ?_
    refine lv_bipush (pc := 21) (v := (6 : Int32)) hx hb dX7_greatestPart_21 (by decide) ?_
    refine lv_icmp_ge (pc := 23) (tgt := 115) hx hb dX7_greatestPart_23 (by decide) (fun c1 => ?_) (fun c1 => ?_)
    · have h := h.1 c1
      refine lv_iload (pc := 115) hx hb dX7_greatestPart_115 (lv_at hl 6 rfl) ?_
      refine lv_iload (pc := 117) hx hb dX7_greatestPart_117 (lv_at hl 4 rfl) ?_
      refine lv_icmp_le (pc := 119) (tgt := 127) hx hb dX7_greatestPart_119 (by decide) (fun c2 => ?_) (fun c2 => ?_)
      · have h := h.1 c2
        refine lv_iload (pc := 127) hx hb dX7_greatestPart_127 (lv_at hl 4 rfl) ?_
        refine lv_istore (pc := 129) (lv' := [(4, .int x4), (0, .ref (ad 0)), (1, .int x1), (2, .int x2), (3, .int x3), (5, .int x5), (6, .int x6), (7, .int x7)]) hx hb dX7_greatestPart_129 hl (by decide) rfl (fun ls hl => ?_)
        refine lv_iinc (pc := 131) (v := (x5 + (1 : Int32))) (lv' := [(5, .int (x5 + (1 : Int32))), (4, .int x4), (0, .ref (ad 0)), (1, .int x1), (2, .int x2), (3, .int x3), (6, .int x6), (7, .int x7)]) hx hb dX7_greatestPart_131 hl (k := 5) rfl rfl (by decide) rfl (fun ls hl => ?_)
        refine lv_goto (pc := 134) (tgt := 6) hx hb dX7_greatestPart_134 (by decide) ?_
        exact hk6 _ _ _ _ _ _ _ _ h hP hD hS (lv_sub hl [2, 3, 4, 5, 1, 0] rfl)
      · have h := h.2 c2
        refine lv_iload (pc := 122) hx hb dX7_greatestPart_122 (lv_at hl 6 rfl) ?_
        refine lv_goto (pc := 124) (tgt := 129) hx hb dX7_greatestPart_124 (by decide) ?_
        refine lv_istore (pc := 129) (lv' := [(4, .int x6), (0, .ref (ad 0)), (1, .int x1), (2, .int x2), (3, .int x3), (5, .int x5), (6, .int x6), (7, .int x7)]) hx hb dX7_greatestPart_129 hl (by decide) rfl (fun ls hl => ?_)
        refine lv_iinc (pc := 131) (v := (x5 + (1 : Int32))) (lv' := [(5, .int (x5 + (1 : Int32))), (4, .int x6), (0, .ref (ad 0)), (1, .int x1), (2, .int x2), (3, .int x3), (6, .int x6), (7, .int x7)]) hx hb dX7_greatestPart_131 hl (k := 5) rfl rfl (by decide) rfl (fun ls hl => ?_)
        refine lv_goto (pc := 134) (tgt := 6) hx hb dX7_greatestPart_134 (by decide) ?_
        exact hk6 _ _ _ _ _ _ _ _ h hP hD hS (lv_sub hl [2, 3, 4, 5, 1, 0] rfl)
    · have h := h.2 c1
      refine lv_iload_n (pc := 26) hx hb dX7_greatestPart_26 rfl (lv_at hl 2 rfl) ?_
      refine lv_iload (pc := 27) hx hb dX7_greatestPart_27 (lv_at hl 5 rfl) ?_
      refine kx_iSi (pc := 29) [.int x2, .int x5] hx hb hml hown hts hK hP hD hS (q7_has h) (cw7_170 hts ⟨Nat.le_of_ble_eq_true rfl, Nat.le_of_ble_eq_true rfl⟩) rfl hl.1 rfl (Nat.le_of_ble_eq_true rfl) ⟨Nat.le_of_ble_eq_true rfl, Nat.le_of_ble_eq_true rfl⟩ dX7_greatestPart_29 (fun r3 u_ H locs hP hD hS h => ?_)
      obtain ⟨hu_, h⟩ := h
      rw [hu_] at hP hD
      refine lv_if_eq (pc := 32) (tgt := 48) hx hb dX7_greatestPart_32 (by decide) (fun c4 => ?_) (fun c4 => ?_)
      · have h := h.1 c4
        refine lv_iconst (pc := 48) (v := (0 : Int32)) hx hb dX7_greatestPart_48 (by decide) ?_
        have hc5 : ∀ (x1 : Int32) (x2 : Int32) (x3 : Int32) (x4 : Int32) (x5 : Int32) (x6 : Int32) (x7 : Int32) (H : Heap) (locs : List Loc) (ls : Array Slot), (fun x1 x2 x3 x4 x5 x6 x7 => p7_greatestPart_L19 n σ x1 x2 x3 x4 x5 x6 x7 k6 Q) x1 x2 x3 x4 x5 x6 x7 → va_P D vwCl (kx_ws cy 1 ad σ) H → va_D A (kx_ws cy 1 ad σ) → va_S A s.heap H locs → lv_has ls 9 [(0, .ref (ad 0)), (1, .int x1), (2, .int x2), (3, .int x3), (4, .int x4), (5, .int x5), (6, .int x6), (7, .int x7)] → W p l e rm7_greatestPart s m args below meth c H locs 0 0 (MQ below (kx_Qc kx_ci (fun u r => u = σ ∧ Q r) (kx_Wd D cy 1 ad A) A) args s 0 0 A) (F0 m 19 ls []) := fun x1 x2 x3 x4 x5 x6 x7 H locs ls h hP hD hS hl => ih _ _ _ _ _ _ _ _ _ _ h hP hD hS hl
        exact w7_greatestPart_J49 cx hc5 h hP hD hS (lv_sub hl [0, 1, 2, 3, 4, 5, 6, 7] rfl)
      · have h := h.2 c4
        refine lv_iload_n (pc := 35) hx hb dX7_greatestPart_35 rfl (lv_at hl 2 rfl) ?_
        refine lv_iload (pc := 36) hx hb dX7_greatestPart_36 (lv_at hl 7 rfl) ?_
        refine kx_iSi (pc := 38) [.int x2, .int x7] hx hb hml hown hts hK hP hD hS (q7_has h) (cw7_170 hts ⟨Nat.le_of_ble_eq_true rfl, Nat.le_of_ble_eq_true rfl⟩) rfl hl.1 rfl (Nat.le_of_ble_eq_true rfl) ⟨Nat.le_of_ble_eq_true rfl, Nat.le_of_ble_eq_true rfl⟩ dX7_greatestPart_38 (fun r6 u_ H locs hP hD hS h => ?_)
        obtain ⟨hu_, h⟩ := h
        rw [hu_] at hP hD
        refine lv_if_eq (pc := 41) (tgt := 48) hx hb dX7_greatestPart_41 (by decide) (fun c7 => ?_) (fun c7 => ?_)
        · have h := h.1 c7
          refine lv_iconst (pc := 48) (v := (0 : Int32)) hx hb dX7_greatestPart_48 (by decide) ?_
          have hc8 : ∀ (x1 : Int32) (x2 : Int32) (x3 : Int32) (x4 : Int32) (x5 : Int32) (x6 : Int32) (x7 : Int32) (H : Heap) (locs : List Loc) (ls : Array Slot), (fun x1 x2 x3 x4 x5 x6 x7 => p7_greatestPart_L19 n σ x1 x2 x3 x4 x5 x6 x7 k6 Q) x1 x2 x3 x4 x5 x6 x7 → va_P D vwCl (kx_ws cy 1 ad σ) H → va_D A (kx_ws cy 1 ad σ) → va_S A s.heap H locs → lv_has ls 9 [(0, .ref (ad 0)), (1, .int x1), (2, .int x2), (3, .int x3), (4, .int x4), (5, .int x5), (6, .int x6), (7, .int x7)] → W p l e rm7_greatestPart s m args below meth c H locs 0 0 (MQ below (kx_Qc kx_ci (fun u r => u = σ ∧ Q r) (kx_Wd D cy 1 ad A) A) args s 0 0 A) (F0 m 19 ls []) := fun x1 x2 x3 x4 x5 x6 x7 H locs ls h hP hD hS hl => ih _ _ _ _ _ _ _ _ _ _ h hP hD hS hl
          exact w7_greatestPart_J49 cx hc8 h hP hD hS (lv_sub hl [0, 1, 2, 3, 4, 5, 6, 7] rfl)
        · have h := h.2 c7
          refine lv_iconst (pc := 44) (v := (1 : Int32)) hx hb dX7_greatestPart_44 (by decide) ?_
          refine lv_goto (pc := 45) (tgt := 49) hx hb dX7_greatestPart_45 (by decide) ?_
          have hc9 : ∀ (x1 : Int32) (x2 : Int32) (x3 : Int32) (x4 : Int32) (x5 : Int32) (x6 : Int32) (x7 : Int32) (H : Heap) (locs : List Loc) (ls : Array Slot), (fun x1 x2 x3 x4 x5 x6 x7 => p7_greatestPart_L19 n σ x1 x2 x3 x4 x5 x6 x7 k6 Q) x1 x2 x3 x4 x5 x6 x7 → va_P D vwCl (kx_ws cy 1 ad σ) H → va_D A (kx_ws cy 1 ad σ) → va_S A s.heap H locs → lv_has ls 9 [(0, .ref (ad 0)), (1, .int x1), (2, .int x2), (3, .int x3), (4, .int x4), (5, .int x5), (6, .int x6), (7, .int x7)] → W p l e rm7_greatestPart s m args below meth c H locs 0 0 (MQ below (kx_Qc kx_ci (fun u r => u = σ ∧ Q r) (kx_Wd D cy 1 ad A) A) args s 0 0 A) (F0 m 19 ls []) := fun x1 x2 x3 x4 x5 x6 x7 H locs ls h hP hD hS hl => ih _ _ _ _ _ _ _ _ _ _ h hP hD hS hl
          exact w7_greatestPart_J49 cx hc9 h hP hD hS (lv_sub hl [0, 1, 2, 3, 4, 5, 6, 7] rfl)
def p7_greatestPart_L6 : Nat → kx_St → Int32 → Int32 → Int32 → Int32 → Int32 → (Int32 → Prop) → Prop
  | 0, _, _, _, _, _, _, _ => False
  | n + 1, σ, x1, x2, x3, x4, x5, Q => ((6 : Int32) ≤ x5 → Q x4) ∧ (¬ (6 : Int32) ≤ x5 → ∃ m19, p7_greatestPart_L19 m19 σ x1 x2 x3 x4 x5 (0 : Int32) (0 : Int32) (fun x1 x2 x3 x4 x5 => p7_greatestPart_L6 n σ x1 x2 x3 x4 x5 Q) Q)
set_option maxHeartbeats 4000000 in
theorem w7_greatestPart_L6 {σ : kx_St}  {Q : Int32 → Prop} (cx : kx_Cx p s m args meth c D cy RX7 cX7_greatestPart 9 (some .int))  : ∀ (n : Nat) (x1 : Int32) (x2 : Int32) (x3 : Int32) (x4 : Int32) (x5 : Int32) (H : Heap) (locs : List Loc) (ls : Array Slot), p7_greatestPart_L6 n σ x1 x2 x3 x4 x5 Q → va_P D vwCl (kx_ws cy 1 ad σ) H → va_D A (kx_ws cy 1 ad σ) → va_S A s.heap H locs → lv_has ls 9 [(0, .ref (ad 0)), (1, .int x1), (2, .int x2), (3, .int x3), (4, .int x4), (5, .int x5)] → W p l e rm7_greatestPart s m args below meth c H locs 0 0 (MQ below (kx_Qc kx_ci (fun u r => u = σ ∧ Q r) (kx_Wd D cy 1 ad A) A) args s 0 0 A) (F0 m 6 ls []) := by
  obtain ⟨hx, hb, hr, hlocks, hml, hown, hts, hK⟩ := id cx
  intro n
  induction n with
  | zero => intro _ _ _ _ _ _ _ _ h; exact False.elim h
  | succ n ih =>
    intro x1 x2 x3 x4 x5 H locs ls h hP hD hS hl
    refine lv_iload (pc := 6) hx hb dX7_greatestPart_6 (lv_at hl 5 rfl) ?_
    refine lv_bipush (pc := 8) (v := (6 : Int32)) hx hb dX7_greatestPart_8 (by decide) ?_
    refine lv_icmp_ge (pc := 10) (tgt := 137) hx hb dX7_greatestPart_10 (by decide) (fun c1 => ?_) (fun c1 => ?_)
    · have h := h.1 c1
      refine lv_iload (pc := 137) hx hb dX7_greatestPart_137 (lv_at hl 4 rfl) ?_
      exact kx_iret (pc := 139) hx hb hr hlocks hK hP hD hS ⟨rfl, h⟩ dX7_greatestPart_139
    · have h := h.2 c1
      refine lv_iconst (pc := 13) (v := (0 : Int32)) hx hb dX7_greatestPart_13 (by decide) ?_
      refine lv_istore (pc := 14) (lv' := [(6, .int (0 : Int32)), (0, .ref (ad 0)), (1, .int x1), (2, .int x2), (3, .int x3), (4, .int x4), (5, .int x5)]) hx hb dX7_greatestPart_14 hl (by decide) rfl (fun ls hl => ?_)
      refine lv_iconst (pc := 16) (v := (0 : Int32)) hx hb dX7_greatestPart_16 (by decide) ?_
      refine lv_istore (pc := 17) (lv' := [(7, .int (0 : Int32)), (6, .int (0 : Int32)), (0, .ref (ad 0)), (1, .int x1), (2, .int x2), (3, .int x3), (4, .int x4), (5, .int x5)]) hx hb dX7_greatestPart_17 hl (by decide) rfl (fun ls hl => ?_)
      have hc2 : ∀ (x1 : Int32) (x2 : Int32) (x3 : Int32) (x4 : Int32) (x5 : Int32) (H : Heap) (locs : List Loc) (ls : Array Slot), (fun x1 x2 x3 x4 x5 => p7_greatestPart_L6 n σ x1 x2 x3 x4 x5 Q) x1 x2 x3 x4 x5 → va_P D vwCl (kx_ws cy 1 ad σ) H → va_D A (kx_ws cy 1 ad σ) → va_S A s.heap H locs → lv_has ls 9 [(0, .ref (ad 0)), (1, .int x1), (2, .int x2), (3, .int x3), (4, .int x4), (5, .int x5)] → W p l e rm7_greatestPart s m args below meth c H locs 0 0 (MQ below (kx_Qc kx_ci (fun u r => u = σ ∧ Q r) (kx_Wd D cy 1 ad A) A) args s 0 0 A) (F0 m 6 ls []) := fun x1 x2 x3 x4 x5 H locs ls h hP hD hS hl => ih _ _ _ _ _ _ _ _ h hP hD hS hl
      obtain ⟨n0, h⟩ := h
      exact w7_greatestPart_L19 cx hc2 n0 _ _ _ _ _ _ _ _ _ _ h hP hD hS (lv_sub hl [2, 3, 4, 5, 6, 7, 1, 0] rfl)
def p7_greatestPart (σ : kx_St) (x1 : Int32) (x2 : Int32) (x3 : Int32) (Q : Int32 → Prop) : Prop := ∃ m6, p7_greatestPart_L6 m6 σ x1 x2 x3 (0 : Int32) (0 : Int32) Q
set_option maxHeartbeats 4000000 in
theorem q7_greatestPart {σ : kx_St} {x1 : Int32} {x2 : Int32} {x3 : Int32} {Q : Int32 → Prop} (h : p7_greatestPart σ x1 x2 x3 Q) : Met l yX7_greatestPart (Cond.code yX7_greatestPart cX7_greatestPart 9 (some .int) :: kx_big) rm7_greatestPart (va_Pc [.ref (ad 0), .int x1, .int x2, .int x3] (kx_Wd D cy 1 ad A σ)) (kx_Qc kx_ci (fun u r => u = σ ∧ Q r) (kx_Wd D cy 1 ad A) A) 0 0 A := by
  refine kx_head (plainFor_of_name (by decide)) (Nat.le_of_ble_eq_true rfl) ?_
  intro p e s m below meth c ls cx hP hD hS hl
  obtain ⟨hx, hb, hr, hlocks, hml, hown, hts, hK⟩ := id cx
  have hl : lv_has ls 9 [(0, .ref (ad 0)), (1, .int x1), (2, .int x2), (3, .int x3)] := hl
  refine lv_iconst (pc := 0) (v := (0 : Int32)) hx hb dX7_greatestPart_0 (by decide) ?_
  refine lv_istore (pc := 1) (lv' := [(4, .int (0 : Int32)), (0, .ref (ad 0)), (1, .int x1), (2, .int x2), (3, .int x3)]) hx hb dX7_greatestPart_1 hl (by decide) rfl (fun ls hl => ?_)
  refine lv_iconst (pc := 3) (v := (0 : Int32)) hx hb dX7_greatestPart_3 (by decide) ?_
  refine lv_istore (pc := 4) (lv' := [(5, .int (0 : Int32)), (4, .int (0 : Int32)), (0, .ref (ad 0)), (1, .int x1), (2, .int x2), (3, .int x3)]) hx hb dX7_greatestPart_4 hl (by decide) rfl (fun ls hl => ?_)
  obtain ⟨n0, h⟩ := h
  exact w7_greatestPart_L6 cx  n0 _ _ _ _ _ _ _ _ h hP hD hS (lv_sub hl [2, 3, 4, 5, 1, 0] rfl)
def p7_test_J88 (σ : kx_St) (x1 : Int32) (x4 : Int32) (x6 : Int32) (x7 : Int32) (x8 : Int32) (s0 : Int32) (k56 : kx_St → Int32 → Int32 → Int32 → Int32 → Int32 → Prop) (Q : kx_St → Int32 → Prop) : Prop := (x6 ≤ x8 → k56 σ x1 x4 s0 x6 (x7 + (1 : Int32))) ∧ (¬ x6 ≤ x8 → k56 σ x1 x4 s0 x8 (x7 + (1 : Int32)))
set_option maxHeartbeats 4000000 in
theorem w7_test_J88 {σ : kx_St} {x1 : Int32} {x4 : Int32} {x6 : Int32} {x7 : Int32} {x8 : Int32} {s0 : Int32} {k56 : kx_St → Int32 → Int32 → Int32 → Int32 → Int32 → Prop} {Q : kx_St → Int32 → Prop} {H : Heap} {locs : List Loc} {ls : Array Slot} (cx : kx_Cx p s m args meth c D cy RX7 cX7_test 9 (some .int)) (hk56 : ∀ (σ : kx_St) (x1 : Int32) (x4 : Int32) (x5 : Int32) (x6 : Int32) (x7 : Int32) (H : Heap) (locs : List Loc) (ls : Array Slot), k56 σ x1 x4 x5 x6 x7 → va_P D vwCl (kx_ws cy 1 ad σ) H → va_D A (kx_ws cy 1 ad σ) → va_S A s.heap H locs → lv_has ls 9 [(0, .ref (ad 0)), (1, .int x1), (4, .int x4), (5, .int x5), (6, .int x6), (7, .int x7)] → W p l e rm7_test s m args below meth c H locs 0 0 (MQ below (kx_Qc kx_ci Q (kx_Wd D cy 1 ad A) A) args s 0 0 A) (F0 m 56 ls []))  (h : p7_test_J88 σ x1 x4 x6 x7 x8 s0 k56 Q) (hP : va_P D vwCl (kx_ws cy 1 ad σ) H) (hD : va_D A (kx_ws cy 1 ad σ)) (hS : va_S A s.heap H locs) (hl : lv_has ls 9 [(0, .ref (ad 0)), (1, .int x1), (4, .int x4), (6, .int x6), (7, .int x7), (8, .int x8)]) : W p l e rm7_test s m args below meth c H locs 0 0 (MQ below (kx_Qc kx_ci Q (kx_Wd D cy 1 ad A) A) args s 0 0 A) (F0 m 88 ls [.int s0]) := by
  obtain ⟨hx, hb, hr, hlocks, hml, hown, hts, hK⟩ := id cx
  refine lv_istore (pc := 88) (lv' := [(5, .int s0), (0, .ref (ad 0)), (1, .int x1), (4, .int x4), (6, .int x6), (7, .int x7), (8, .int x8)]) hx hb dX7_test_88 hl (by decide) rfl (fun ls hl => ?_)
  refine lv_iload (pc := 90) hx hb dX7_test_90 (lv_at hl 6 rfl) ?_
  refine lv_iload (pc := 92) hx hb dX7_test_92 (lv_at hl 4 rfl) ?_
  refine lv_icmp_ge (pc := 94) (tgt := 102) hx hb dX7_test_94 (by decide) (fun c1 => ?_) (fun c1 => ?_)
  · have h := h.1 c1
    refine lv_iload (pc := 102) hx hb dX7_test_102 (lv_at hl 4 rfl) ?_
    refine lv_istore (pc := 104) (lv' := [(6, .int x6), (5, .int s0), (0, .ref (ad 0)), (1, .int x1), (4, .int x4), (7, .int x7), (8, .int x8)]) hx hb dX7_test_104 hl (by decide) rfl (fun ls hl => ?_)
    refine lv_iinc (pc := 106) (v := (x7 + (1 : Int32))) (lv' := [(7, .int (x7 + (1 : Int32))), (6, .int x6), (5, .int s0), (0, .ref (ad 0)), (1, .int x1), (4, .int x4), (8, .int x8)]) hx hb dX7_test_106 hl (k := 5) rfl rfl (by decide) rfl (fun ls hl => ?_)
    refine lv_goto (pc := 109) (tgt := 56) hx hb dX7_test_109 (by decide) ?_
    exact hk56 _ _ _ _ _ _ _ _ _ h hP hD hS (lv_sub hl [3, 4, 5, 2, 1, 0] rfl)
  · have h := h.2 c1
    refine lv_iload (pc := 97) hx hb dX7_test_97 (lv_at hl 6 rfl) ?_
    refine lv_goto (pc := 99) (tgt := 104) hx hb dX7_test_99 (by decide) ?_
    refine lv_istore (pc := 104) (lv' := [(6, .int x8), (5, .int s0), (0, .ref (ad 0)), (1, .int x1), (4, .int x4), (7, .int x7), (8, .int x8)]) hx hb dX7_test_104 hl (by decide) rfl (fun ls hl => ?_)
    refine lv_iinc (pc := 106) (v := (x7 + (1 : Int32))) (lv' := [(7, .int (x7 + (1 : Int32))), (6, .int x8), (5, .int s0), (0, .ref (ad 0)), (1, .int x1), (4, .int x4), (8, .int x8)]) hx hb dX7_test_106 hl (k := 5) rfl rfl (by decide) rfl (fun ls hl => ?_)
    refine lv_goto (pc := 109) (tgt := 56) hx hb dX7_test_109 (by decide) ?_
    exact hk56 _ _ _ _ _ _ _ _ _ h hP hD hS (lv_sub hl [3, 4, 5, 2, 1, 0] rfl)
def p7_test_L56 : Nat → kx_St → Int32 → Int32 → Int32 → Int32 → Int32 → (kx_St → Int32 → Prop) → Prop
  | 0, _, _, _, _, _, _, _ => False
  | n + 1, σ, x1, x4, x5, x6, x7, Q => ((10 : Int32) ≤ x7 → (fun σ2 : kx_St => Q σ2 x5) (kx_sI σ 0 11 x6)) ∧ (¬ (10 : Int32) ≤ x7 → p7_greatestPart σ x1 x4 x7 (fun r3 => (x6 ≤ r3 → p7_test_J88 σ x1 x4 x6 x7 r3 x5 (fun σ x1 x4 x5 x6 x7 => p7_test_L56 n σ x1 x4 x5 x6 x7 Q) Q) ∧ (¬ x6 ≤ r3 → p7_test_J88 σ x1 x4 x6 x7 r3 x7 (fun σ x1 x4 x5 x6 x7 => p7_test_L56 n σ x1 x4 x5 x6 x7 Q) Q)))
set_option maxHeartbeats 4000000 in
theorem w7_test_L56  {Q : kx_St → Int32 → Prop} (cx : kx_Cx p s m args meth c D cy RX7 cX7_test 9 (some .int))  : ∀ (n : Nat) (σ : kx_St) (x1 : Int32) (x4 : Int32) (x5 : Int32) (x6 : Int32) (x7 : Int32) (H : Heap) (locs : List Loc) (ls : Array Slot), p7_test_L56 n σ x1 x4 x5 x6 x7 Q → va_P D vwCl (kx_ws cy 1 ad σ) H → va_D A (kx_ws cy 1 ad σ) → va_S A s.heap H locs → lv_has ls 9 [(0, .ref (ad 0)), (1, .int x1), (4, .int x4), (5, .int x5), (6, .int x6), (7, .int x7)] → W p l e rm7_test s m args below meth c H locs 0 0 (MQ below (kx_Qc kx_ci Q (kx_Wd D cy 1 ad A) A) args s 0 0 A) (F0 m 56 ls []) := by
  obtain ⟨hx, hb, hr, hlocks, hml, hown, hts, hK⟩ := id cx
  intro n
  induction n with
  | zero => intro _ _ _ _ _ _ _ _ _ h; exact False.elim h
  | succ n ih =>
    intro σ x1 x4 x5 x6 x7 H locs ls h hP hD hS hl
    refine lv_iload (pc := 56) hx hb dX7_test_56 (lv_at hl 5 rfl) ?_
    refine lv_bipush (pc := 58) (v := (10 : Int32)) hx hb dX7_test_58 (by decide) ?_
    refine lv_icmp_ge (pc := 60) (tgt := 112) hx hb dX7_test_60 (by decide) (fun c1 => ?_) (fun c1 => ?_)
    · have h := h.1 c1
      refine lv_aload_n (pc := 112) hx hb dX7_test_112 rfl (lv_at hl 0 rfl) ?_
      refine lv_iload (pc := 113) hx hb dX7_test_113 (lv_at hl 4 rfl) ?_
      refine fp7_72 (pc := 115) hx hb hown hts hK hP hD hS rfl dX7_test_115 (fun H locs hP hD hS => ?_)
      refine lv_iload (pc := 118) hx hb dX7_test_118 (lv_at hl 3 rfl) ?_
      exact kx_iret (pc := 120) hx hb hr hlocks hK hP hD hS h dX7_test_120
    · have h := h.2 c1
      refine lv_aload_n (pc := 63) hx hb dX7_test_63 rfl (lv_at hl 0 rfl) ?_
      refine lv_iload_n (pc := 64) hx hb dX7_test_64 rfl (lv_at hl 1 rfl) ?_
      refine lv_iload (pc := 65) hx hb dX7_test_65 (lv_at hl 2 rfl) ?_
      refine lv_iload (pc := 67) hx hb dX7_test_67 (lv_at hl 5 rfl) ?_
      refine kx_iVi (pc := 69) [.int x1, .int x4, .int x7] hx hb hml hown hts hK hP hD hS (q7_greatestPart h) (cw7_251 hts ⟨Nat.le_of_ble_eq_true rfl, Nat.le_of_ble_eq_true rfl⟩) rfl (by decide) rfl rfl hl.1 rfl (Nat.le_of_ble_eq_true rfl) ⟨Nat.le_of_ble_eq_true rfl, Nat.le_of_ble_eq_true rfl⟩ dX7_test_69 (fun r3 u_ H locs hP hD hS h => ?_)
      obtain ⟨hu_, h⟩ := h
      rw [hu_] at hP hD
      refine lv_istore (pc := 72) (lv' := [(8, .int r3), (0, .ref (ad 0)), (1, .int x1), (4, .int x4), (5, .int x5), (6, .int x6), (7, .int x7)]) hx hb dX7_test_72 hl (by decide) rfl (fun ls hl => ?_)
      refine lv_iload (pc := 74) hx hb dX7_test_74 (lv_at hl 0 rfl) ?_
      refine lv_iload (pc := 76) hx hb dX7_test_76 (lv_at hl 5 rfl) ?_
      refine lv_icmp_ge (pc := 78) (tgt := 86) hx hb dX7_test_78 (by decide) (fun c4 => ?_) (fun c4 => ?_)
      · have h := h.1 c4
        refine lv_iload (pc := 86) hx hb dX7_test_86 (lv_at hl 4 rfl) ?_
        have hc5 : ∀ (σ : kx_St) (x1 : Int32) (x4 : Int32) (x5 : Int32) (x6 : Int32) (x7 : Int32) (H : Heap) (locs : List Loc) (ls : Array Slot), (fun σ x1 x4 x5 x6 x7 => p7_test_L56 n σ x1 x4 x5 x6 x7 Q) σ x1 x4 x5 x6 x7 → va_P D vwCl (kx_ws cy 1 ad σ) H → va_D A (kx_ws cy 1 ad σ) → va_S A s.heap H locs → lv_has ls 9 [(0, .ref (ad 0)), (1, .int x1), (4, .int x4), (5, .int x5), (6, .int x6), (7, .int x7)] → W p l e rm7_test s m args below meth c H locs 0 0 (MQ below (kx_Qc kx_ci Q (kx_Wd D cy 1 ad A) A) args s 0 0 A) (F0 m 56 ls []) := fun σ x1 x4 x5 x6 x7 H locs ls h hP hD hS hl => ih _ _ _ _ _ _ _ _ _ h hP hD hS hl
        exact w7_test_J88 cx hc5 h hP hD hS (lv_sub hl [1, 2, 3, 5, 6, 0] rfl)
      · have h := h.2 c4
        refine lv_iload (pc := 81) hx hb dX7_test_81 (lv_at hl 6 rfl) ?_
        refine lv_goto (pc := 83) (tgt := 88) hx hb dX7_test_83 (by decide) ?_
        have hc6 : ∀ (σ : kx_St) (x1 : Int32) (x4 : Int32) (x5 : Int32) (x6 : Int32) (x7 : Int32) (H : Heap) (locs : List Loc) (ls : Array Slot), (fun σ x1 x4 x5 x6 x7 => p7_test_L56 n σ x1 x4 x5 x6 x7 Q) σ x1 x4 x5 x6 x7 → va_P D vwCl (kx_ws cy 1 ad σ) H → va_D A (kx_ws cy 1 ad σ) → va_S A s.heap H locs → lv_has ls 9 [(0, .ref (ad 0)), (1, .int x1), (4, .int x4), (5, .int x5), (6, .int x6), (7, .int x7)] → W p l e rm7_test s m args below meth c H locs 0 0 (MQ below (kx_Qc kx_ci Q (kx_Wd D cy 1 ad A) A) args s 0 0 A) (F0 m 56 ls []) := fun σ x1 x4 x5 x6 x7 H locs ls h hP hD hS hl => ih _ _ _ _ _ _ _ _ _ h hP hD hS hl
        exact w7_test_J88 cx hc6 h hP hD hS (lv_sub hl [1, 2, 3, 5, 6, 0] rfl)
def p7_test (σ : kx_St) (x1 : Int32) (x2 : Int32) (Q : kx_St → Int32 → Prop) : Prop := p7_isKite σ x1 (fun r1 => (r1 = 0 → Q σ (-1 : Int32)) ∧ (¬ r1 = 0 → p7_isRow x2 (fun r3 => (¬ r3 = 0 → p7_noPairs σ x2 (fun σ6 r5 => (r5 = 0 → p7_kindsBy σ6 x1 x2 (fun r8 => (¬ r8 = 0 → ∃ m56, p7_test_L56 m56 σ6 x1 r8 (-9 : Int32) (99999 : Int32) (0 : Int32) Q) ∧ (r8 = 0 → Q σ6 (-9 : Int32)))) ∧ (¬ r5 = 0 → Q σ6 r5))) ∧ (r3 = 0 → Q σ (-1 : Int32)))))
set_option maxHeartbeats 4000000 in
theorem q7_test {σ : kx_St} {x1 : Int32} {x2 : Int32} {Q : kx_St → Int32 → Prop} (h : p7_test σ x1 x2 Q) : Met l yX7_test (Cond.code yX7_test cX7_test 9 (some .int) :: kx_big) rm7_test (va_Pc [.ref (ad 0), .int x1, .int x2] (kx_Wd D cy 1 ad A σ)) (kx_Qc kx_ci Q (kx_Wd D cy 1 ad A) A) 0 0 A := by
  refine kx_head (plainFor_of_name (by decide)) (Nat.le_of_ble_eq_true rfl) ?_
  intro p e s m below meth c ls cx hP hD hS hl
  obtain ⟨hx, hb, hr, hlocks, hml, hown, hts, hK⟩ := id cx
  have hl : lv_has ls 9 [(0, .ref (ad 0)), (1, .int x1), (2, .int x2)] := hl
  refine lv_aload_n (pc := 0) hx hb dX7_test_0 rfl (lv_at hl 0 rfl) ?_
  refine lv_iload_n (pc := 1) hx hb dX7_test_1 rfl (lv_at hl 1 rfl) ?_
  refine kx_iVi (pc := 2) [.int x1] hx hb hml hown hts hK hP hD hS (q7_isKite h) (cw7_174 hts ⟨Nat.le_of_ble_eq_true rfl, Nat.le_of_ble_eq_true rfl⟩) rfl (by decide) rfl rfl hl.1 rfl (Nat.le_of_ble_eq_true rfl) ⟨Nat.le_of_ble_eq_true rfl, Nat.le_of_ble_eq_true rfl⟩ dX7_test_2 (fun r1 u_ H locs hP hD hS h => ?_)
  obtain ⟨hu_, h⟩ := h
  rw [hu_] at hP hD
  refine lv_if_eq (pc := 5) (tgt := 15) hx hb dX7_test_5 (by decide) (fun c2 => ?_) (fun c2 => ?_)
  · have h := h.1 c2
    refine lv_iconst (pc := 15) (v := (-1 : Int32)) hx hb dX7_test_15 (by decide) ?_
    exact kx_iret (pc := 16) hx hb hr hlocks hK hP hD hS h dX7_test_16
  · have h := h.2 c2
    refine lv_iload_n (pc := 8) hx hb dX7_test_8 rfl (lv_at hl 2 rfl) ?_
    refine kx_iSi (pc := 9) [.int x2] hx hb hml hown hts hK hP hD hS (q7_isRow h) (cw7_83 hts ⟨Nat.le_of_ble_eq_true rfl, Nat.le_of_ble_eq_true rfl⟩) rfl hl.1 rfl (Nat.le_of_ble_eq_true rfl) ⟨Nat.le_of_ble_eq_true rfl, Nat.le_of_ble_eq_true rfl⟩ dX7_test_9 (fun r3 u_ H locs hP hD hS h => ?_)
    obtain ⟨hu_, h⟩ := h
    rw [hu_] at hP hD
    refine lv_if_ne (pc := 12) (tgt := 17) hx hb dX7_test_12 (by decide) (fun c4 => ?_) (fun c4 => ?_)
    · have h := h.1 c4
      refine lv_aload_n (pc := 17) hx hb dX7_test_17 rfl (lv_at hl 0 rfl) ?_
      refine lv_iload_n (pc := 18) hx hb dX7_test_18 rfl (lv_at hl 2 rfl) ?_
      refine kx_iVi (pc := 19) [.int x2] hx hb hml hown hts hK hP hD hS (q7_noPairs h) (cw7_240 hts ⟨Nat.le_of_ble_eq_true rfl, Nat.le_of_ble_eq_true rfl⟩) rfl (by decide) rfl rfl hl.1 rfl (Nat.le_of_ble_eq_true rfl) ⟨Nat.le_of_ble_eq_true rfl, Nat.le_of_ble_eq_true rfl⟩ dX7_test_19 (fun r5 σ6 H locs hP hD hS h => ?_)
      refine lv_istore_n (pc := 22) (lv' := [(3, .int r5), (0, .ref (ad 0)), (1, .int x1), (2, .int x2)]) hx hb dX7_test_22 rfl hl (by decide) rfl (fun ls hl => ?_)
      refine lv_iload_n (pc := 23) hx hb dX7_test_23 rfl (lv_at hl 0 rfl) ?_
      refine lv_if_eq (pc := 24) (tgt := 29) hx hb dX7_test_24 (by decide) (fun c7 => ?_) (fun c7 => ?_)
      · have h := h.1 c7
        refine lv_aload_n (pc := 29) hx hb dX7_test_29 rfl (lv_at hl 1 rfl) ?_
        refine lv_iload_n (pc := 30) hx hb dX7_test_30 rfl (lv_at hl 2 rfl) ?_
        refine lv_iload_n (pc := 31) hx hb dX7_test_31 rfl (lv_at hl 3 rfl) ?_
        refine kx_iVi (pc := 32) [.int x1, .int x2] hx hb hml hown hts hK hP hD hS (q7_kindsBy h) (cw7_247 hts ⟨Nat.le_of_ble_eq_true rfl, Nat.le_of_ble_eq_true rfl⟩) rfl (by decide) rfl rfl hl.1 rfl (Nat.le_of_ble_eq_true rfl) ⟨Nat.le_of_ble_eq_true rfl, Nat.le_of_ble_eq_true rfl⟩ dX7_test_32 (fun r8 u_ H locs hP hD hS h => ?_)
        obtain ⟨hu_, h⟩ := h
        rw [hu_] at hP hD
        refine lv_istore (pc := 35) (lv' := [(4, .int r8), (3, .int r5), (0, .ref (ad 0)), (1, .int x1), (2, .int x2)]) hx hb dX7_test_35 hl (by decide) rfl (fun ls hl => ?_)
        refine lv_iload (pc := 37) hx hb dX7_test_37 (lv_at hl 0 rfl) ?_
        refine lv_if_ne (pc := 39) (tgt := 45) hx hb dX7_test_39 (by decide) (fun c9 => ?_) (fun c9 => ?_)
        · have h := h.1 c9
          refine lv_bipush (pc := 45) (v := (-9 : Int32)) hx hb dX7_test_45 (by decide) ?_
          refine lv_istore (pc := 47) (lv' := [(5, .int (-9 : Int32)), (4, .int r8), (3, .int r5), (0, .ref (ad 0)), (1, .int x1), (2, .int x2)]) hx hb dX7_test_47 hl (by decide) rfl (fun ls hl => ?_)
          refine lv_ldc (pc := 49) (v := (99999 : Int32)) hx hb hown (hts _ tb_1106) dX7_test_49 ?_
          refine lv_istore (pc := 51) (lv' := [(6, .int (99999 : Int32)), (5, .int (-9 : Int32)), (4, .int r8), (3, .int r5), (0, .ref (ad 0)), (1, .int x1), (2, .int x2)]) hx hb dX7_test_51 hl (by decide) rfl (fun ls hl => ?_)
          refine lv_iconst (pc := 53) (v := (0 : Int32)) hx hb dX7_test_53 (by decide) ?_
          refine lv_istore (pc := 54) (lv' := [(7, .int (0 : Int32)), (6, .int (99999 : Int32)), (5, .int (-9 : Int32)), (4, .int r8), (3, .int r5), (0, .ref (ad 0)), (1, .int x1), (2, .int x2)]) hx hb dX7_test_54 hl (by decide) rfl (fun ls hl => ?_)
          obtain ⟨n0, h⟩ := h
          exact w7_test_L56 cx  n0 _ _ _ _ _ _ _ _ _ h hP hD hS (lv_sub hl [5, 6, 3, 2, 1, 0] rfl)
        · have h := h.2 c9
          refine lv_bipush (pc := 42) (v := (-9 : Int32)) hx hb dX7_test_42 (by decide) ?_
          exact kx_iret (pc := 44) hx hb hr hlocks hK hP hD hS h dX7_test_44
      · have h := h.2 c7
        refine lv_iload_n (pc := 27) hx hb dX7_test_27 rfl (lv_at hl 0 rfl) ?_
        exact kx_iret (pc := 28) hx hb hr hlocks hK hP hD hS h dX7_test_28
    · have h := h.2 c4
      refine lv_iconst (pc := 15) (v := (-1 : Int32)) hx hb dX7_test_15 (by decide) ?_
      exact kx_iret (pc := 16) hx hb hr hlocks hK hP hD hS h dX7_test_16
def p7_better (x0 : Int32) (x1 : Int32) (x2 : Int32) (Q : Int32 → Prop) : Prop := (¬ (x0 - x0 / (2 : Int32) * (2 : Int32)) = 0 → (x2 ≤ x1 → Q x2) ∧ (¬ x2 ≤ x1 → Q x1)) ∧ ((x0 - x0 / (2 : Int32) * (2 : Int32)) = 0 → (x1 ≤ x2 → Q x2) ∧ (¬ x1 ≤ x2 → Q x1))
set_option maxHeartbeats 4000000 in
theorem q7_better {σ : kx_St} {x0 : Int32} {x1 : Int32} {x2 : Int32} {Q : Int32 → Prop} (h : p7_better x0 x1 x2 Q) : Met l yX7_better (Cond.code yX7_better cX7_better 3 (some .int) :: kx_big) rm7_better (va_Pc [.int x0, .int x1, .int x2] (kx_Wd D cy 1 ad A σ)) (kx_Qc kx_ci (fun u r => u = σ ∧ Q r) (kx_Wd D cy 1 ad A) A) 0 0 A := by
  refine kx_head (plainFor_of_name (by decide)) (Nat.le_of_ble_eq_true rfl) ?_
  intro p e s m below meth c ls cx hP hD hS hl
  obtain ⟨hx, hb, hr, hlocks, hml, hown, hts, hK⟩ := id cx
  have hl : lv_has ls 3 [(0, .int x0), (1, .int x1), (2, .int x2)] := hl
  refine lv_iload_n (pc := 0) hx hb dX7_better_0 rfl (lv_at hl 0 rfl) ?_
  refine lv_iconst (pc := 1) (v := (2 : Int32)) hx hb dX7_better_1 (by decide) ?_
  refine lv_irem (pc := 2) hx hb dX7_better_2 (by decide) ?_
  refine lv_if_ne (pc := 3) (tgt := 19) hx hb dX7_better_3 (by decide) (fun c1 => ?_) (fun c1 => ?_)
  · have h := h.1 c1
    refine lv_iload_n (pc := 19) hx hb dX7_better_19 rfl (lv_at hl 1 rfl) ?_
    refine lv_iload_n (pc := 20) hx hb dX7_better_20 rfl (lv_at hl 2 rfl) ?_
    refine lv_icmp_ge (pc := 21) (tgt := 28) hx hb dX7_better_21 (by decide) (fun c2 => ?_) (fun c2 => ?_)
    · have h := h.1 c2
      refine lv_iload_n (pc := 28) hx hb dX7_better_28 rfl (lv_at hl 2 rfl) ?_
      exact kx_iret (pc := 29) hx hb hr hlocks hK hP hD hS ⟨rfl, h⟩ dX7_better_29
    · have h := h.2 c2
      refine lv_iload_n (pc := 24) hx hb dX7_better_24 rfl (lv_at hl 1 rfl) ?_
      refine lv_goto (pc := 25) (tgt := 29) hx hb dX7_better_25 (by decide) ?_
      exact kx_iret (pc := 29) hx hb hr hlocks hK hP hD hS ⟨rfl, h⟩ dX7_better_29
  · have h := h.2 c1
    refine lv_iload_n (pc := 6) hx hb dX7_better_6 rfl (lv_at hl 1 rfl) ?_
    refine lv_iload_n (pc := 7) hx hb dX7_better_7 rfl (lv_at hl 2 rfl) ?_
    refine lv_icmp_le (pc := 8) (tgt := 15) hx hb dX7_better_8 (by decide) (fun c3 => ?_) (fun c3 => ?_)
    · have h := h.1 c3
      refine lv_iload_n (pc := 15) hx hb dX7_better_15 rfl (lv_at hl 2 rfl) ?_
      refine lv_goto (pc := 16) (tgt := 29) hx hb dX7_better_16 (by decide) ?_
      exact kx_iret (pc := 29) hx hb hr hlocks hK hP hD hS ⟨rfl, h⟩ dX7_better_29
    · have h := h.2 c3
      refine lv_iload_n (pc := 11) hx hb dX7_better_11 rfl (lv_at hl 1 rfl) ?_
      refine lv_goto (pc := 12) (tgt := 29) hx hb dX7_better_12 (by decide) ?_
      exact kx_iret (pc := 29) hx hb hr hlocks hK hP hD hS ⟨rfl, h⟩ dX7_better_29
def p7_beginTurn_J24 (σ : kx_St) (s0 : Nat) (s1 : Int32) (s2 : Int32) (Q : kx_St → Prop) : Prop := vp_in s1 (kx_l 1 s0) ∧ ((fun σ2 : kx_St => Q σ2) (kx_sI σ s0 s1.toNatClampNeg s2))
set_option maxHeartbeats 4000000 in
theorem w7_beginTurn_J24 {σ : kx_St} {s0 : Nat} {s1 : Int32} {s2 : Int32}  {Q : kx_St → Prop} {H : Heap} {locs : List Loc} {ls : Array Slot} (cx : kx_Cx p s m args meth c D cy RX7 cX7_beginTurn 2 none)  (hk_s0 : kx_k 1 s0 = 8) (h : p7_beginTurn_J24 σ s0 s1 s2 Q) (hP : va_P D vwCl (kx_ws cy 1 ad σ) H) (hD : va_D A (kx_ws cy 1 ad σ)) (hS : va_S A s.heap H locs) (hl : lv_has ls 2 []) : W p l e rm7_beginTurn s m args below meth c H locs 0 0 (MQ below (kx_Qc kx_cv (fun u _ => Q u) (kx_Wd D cy 1 ad A) A) args s 0 0 A) (F0 m 24 ls [.int s2, .int s1, .ref (ad s0)]) := by
  obtain ⟨hx, hb, hr, hlocks, hml, hown, hts, hK⟩ := id cx
  obtain ⟨g1, h⟩ := h
  refine kx_iast (pc := 24) hx hb hK hP hD hS hk_s0 g1 dX7_beginTurn_24 (fun H locs hP hD hS => ?_)
  exact kx_vret (pc := 25) hx hb hr hlocks hK hP hD hS h dX7_beginTurn_25
def p7_beginTurn (σ : kx_St) (x1 : Int32) (Q : kx_St → Prop) : Prop := vp_in x1 7 ∧ ((fun σ2 : kx_St => (¬ (x1 - x1 / (2 : Int32) * (2 : Int32)) = 0 → p7_beginTurn_J24 σ2 18 x1 (99999 : Int32) Q) ∧ ((x1 - x1 / (2 : Int32) * (2 : Int32)) = 0 → p7_beginTurn_J24 σ2 18 x1 (-1 : Int32) Q)) (kx_sI σ 15 x1.toNatClampNeg (0 : Int32)))
set_option maxHeartbeats 4000000 in
theorem q7_beginTurn {σ : kx_St} {x1 : Int32} {Q : kx_St → Prop} (h : p7_beginTurn σ x1 Q) : Met l yX7_beginTurn (Cond.code yX7_beginTurn cX7_beginTurn 2 none :: kx_big) rm7_beginTurn (va_Pc [.ref (ad 0), .int x1] (kx_Wd D cy 1 ad A σ)) (kx_Qc kx_cv (fun u _ => Q u) (kx_Wd D cy 1 ad A) A) 0 0 A := by
  refine kx_head (plainFor_of_name (by decide)) (Nat.le_of_ble_eq_true rfl) ?_
  intro p e s m below meth c ls cx hP hD hS hl
  obtain ⟨hx, hb, hr, hlocks, hml, hown, hts, hK⟩ := id cx
  have hl : lv_has ls 2 [(0, .ref (ad 0)), (1, .int x1)] := hl
  refine lv_aload_n (pc := 0) hx hb dX7_beginTurn_0 rfl (lv_at hl 0 rfl) ?_
  refine fg7_56 (pc := 1) (b := 15) hx hb hown hts hK hP rfl rfl dX7_beginTurn_1 ?_
  refine lv_iload_n (pc := 4) hx hb dX7_beginTurn_4 rfl (lv_at hl 1 rfl) ?_
  refine lv_iconst (pc := 5) (v := (0 : Int32)) hx hb dX7_beginTurn_5 (by decide) ?_
  obtain ⟨g1, h⟩ := h
  refine kx_iast (pc := 6) hx hb hK hP hD hS rfl g1 dX7_beginTurn_6 (fun H locs hP hD hS => ?_)
  refine lv_aload_n (pc := 7) hx hb dX7_beginTurn_7 rfl (lv_at hl 0 rfl) ?_
  refine fg7_65 (pc := 8) (b := 18) hx hb hown hts hK hP rfl rfl dX7_beginTurn_8 ?_
  refine lv_iload_n (pc := 11) hx hb dX7_beginTurn_11 rfl (lv_at hl 1 rfl) ?_
  refine lv_iload_n (pc := 12) hx hb dX7_beginTurn_12 rfl (lv_at hl 1 rfl) ?_
  refine lv_iconst (pc := 13) (v := (2 : Int32)) hx hb dX7_beginTurn_13 (by decide) ?_
  refine lv_irem (pc := 14) hx hb dX7_beginTurn_14 (by decide) ?_
  refine lv_if_ne (pc := 15) (tgt := 22) hx hb dX7_beginTurn_15 (by decide) (fun c3 => ?_) (fun c3 => ?_)
  · have h := h.1 c3
    refine lv_ldc (pc := 22) (v := (99999 : Int32)) hx hb hown (hts _ tb_1106) dX7_beginTurn_22 ?_
    exact w7_beginTurn_J24 cx  rfl h hP hD hS (lv_sub hl [] rfl)
  · have h := h.2 c3
    refine lv_iconst (pc := 18) (v := (-1 : Int32)) hx hb dX7_beginTurn_18 (by decide) ?_
    refine lv_goto (pc := 19) (tgt := 24) hx hb dX7_beginTurn_19 (by decide) ?_
    exact w7_beginTurn_J24 cx  rfl h hP hD hS (lv_sub hl [] rfl)
def p7_duel_J293 (σ : kx_St) (x1 : Int32) (x2 : Int32) (x3 : Int32) (x5 : Int32) (s0 : Nat) (s1 : Int32) (s2 : Int32) (k56 : kx_St → Int32 → Int32 → Int32 → Prop) (Q : kx_St → Int32 → Prop) : Prop := vp_in s1 (kx_l 1 s0) ∧ ((fun σ2 : kx_St => vp_in x2 7 ∧ ((fun σ4 : kx_St => p7_beginTurn σ4 x2 (fun σ6 => k56 σ6 x1 x2 x3)) (kx_sI σ2 17 x2.toNatClampNeg x5))) (kx_sI σ s0 s1.toNatClampNeg s2))
set_option maxHeartbeats 4000000 in
theorem w7_duel_J293 {σ : kx_St} {x1 : Int32} {x2 : Int32} {x3 : Int32} {x5 : Int32} {s0 : Nat} {s1 : Int32} {s2 : Int32} {k56 : kx_St → Int32 → Int32 → Int32 → Prop} {Q : kx_St → Int32 → Prop} {H : Heap} {locs : List Loc} {ls : Array Slot} (cx : kx_Cx p s m args meth c D cy RX7 cX7_duel 6 (some .int)) (hk56 : ∀ (σ : kx_St) (x1 : Int32) (x2 : Int32) (x3 : Int32) (H : Heap) (locs : List Loc) (ls : Array Slot), k56 σ x1 x2 x3 → va_P D vwCl (kx_ws cy 1 ad σ) H → va_D A (kx_ws cy 1 ad σ) → va_S A s.heap H locs → lv_has ls 6 [(0, .ref (ad 0)), (1, .int x1), (2, .int x2), (3, .int x3)] → W p l e rm7_duel s m args below meth c H locs 0 0 (MQ below (kx_Qc kx_ci Q (kx_Wd D cy 1 ad A) A) args s 0 0 A) (F0 m 56 ls [])) (hk_s0 : kx_k 1 s0 = 8) (h : p7_duel_J293 σ x1 x2 x3 x5 s0 s1 s2 k56 Q) (hP : va_P D vwCl (kx_ws cy 1 ad σ) H) (hD : va_D A (kx_ws cy 1 ad σ)) (hS : va_S A s.heap H locs) (hl : lv_has ls 6 [(0, .ref (ad 0)), (1, .int x1), (2, .int x2), (3, .int x3), (5, .int x5)]) : W p l e rm7_duel s m args below meth c H locs 0 0 (MQ below (kx_Qc kx_ci Q (kx_Wd D cy 1 ad A) A) args s 0 0 A) (F0 m 293 ls [.int s2, .int s1, .ref (ad s0)]) := by
  obtain ⟨hx, hb, hr, hlocks, hml, hown, hts, hK⟩ := id cx
  obtain ⟨g1, h⟩ := h
  refine kx_iast (pc := 293) hx hb hK hP hD hS hk_s0 g1 dX7_duel_293 (fun H locs hP hD hS => ?_)
  refine lv_aload_n (pc := 294) hx hb dX7_duel_294 rfl (lv_at hl 0 rfl) ?_
  refine fg7_62 (pc := 295) (b := 17) hx hb hown hts hK hP rfl rfl dX7_duel_295 ?_
  refine lv_iload_n (pc := 298) hx hb dX7_duel_298 rfl (lv_at hl 2 rfl) ?_
  refine lv_iload (pc := 299) hx hb dX7_duel_299 (lv_at hl 4 rfl) ?_
  obtain ⟨g3, h⟩ := h
  refine kx_iast (pc := 301) hx hb hK hP hD hS rfl g3 dX7_duel_301 (fun H locs hP hD hS => ?_)
  refine lv_aload_n (pc := 302) hx hb dX7_duel_302 rfl (lv_at hl 0 rfl) ?_
  refine lv_iload_n (pc := 303) hx hb dX7_duel_303 rfl (lv_at hl 2 rfl) ?_
  refine kx_iVv (pc := 304) [.int x2] hx hb hml hown hts hK hP hD hS (q7_beginTurn h) (cw7_254 hts ⟨Nat.le_of_ble_eq_true rfl, Nat.le_of_ble_eq_true rfl⟩) rfl (by decide) rfl rfl hl.1 rfl (Nat.le_of_ble_eq_true rfl) ⟨Nat.le_of_ble_eq_true rfl, Nat.le_of_ble_eq_true rfl⟩ dX7_duel_304 (fun _ σ6 H locs hP hD hS h => ?_)
  refine lv_goto (pc := 307) (tgt := 56) hx hb dX7_duel_307 (by decide) ?_
  exact hk56 _ _ _ _ _ _ _ h hP hD hS (lv_sub hl [0, 1, 2, 3] rfl)
def p7_duel_J211 (σ : kx_St) (x1 : Int32) (x2 : Int32) (x3 : Int32) (x4 : Int32) (s0 : Int32) (s1 : Int32) (k56 : kx_St → Int32 → Int32 → Int32 → Prop) (Q : kx_St → Int32 → Prop) : Prop := (¬ x2 = (x1 - (1 : Int32)) → ((σ.1 0 3) ≤ x4 → vp_in ((x2 + (1 : Int32)) - (1 : Int32)) 7 ∧ (p7_duel_J293 σ x1 (x2 + (1 : Int32)) x3 (s0 + s1) 16 (x2 + (1 : Int32)) (σ.1 16 ((x2 + (1 : Int32)) - (1 : Int32)).toNatClampNeg) k56 Q)) ∧ (¬ (σ.1 0 3) ≤ x4 → vp_in ((x2 + (1 : Int32)) - (1 : Int32)) 7 ∧ (p7_duel_J293 σ x1 (x2 + (1 : Int32)) x3 (s0 + s1) 16 (x2 + (1 : Int32)) ((σ.1 16 ((x2 + (1 : Int32)) - (1 : Int32)).toNatClampNeg) ||| ((1 : Int32) <<< (x4 &&& 31))) k56 Q))) ∧ (x2 = (x1 - (1 : Int32)) → vp_in x2 7 ∧ (p7_better x2 (σ.1 18 x2.toNatClampNeg) (s0 + s1) (fun r6 => vp_in x2 7 ∧ ((fun σ8 : kx_St => vp_in x2 7 ∧ (vp_in x2 7 ∧ ((fun σ11 : kx_St => k56 σ11 x1 x2 x3) (kx_sI σ8 15 x2.toNatClampNeg ((σ8.1 15 x2.toNatClampNeg) + (1 : Int32)))))) (kx_sI σ 18 x2.toNatClampNeg r6)))))
set_option maxHeartbeats 4000000 in
theorem w7_duel_J211 {σ : kx_St} {x1 : Int32} {x2 : Int32} {x3 : Int32} {x4 : Int32} {s0 : Int32} {s1 : Int32} {k56 : kx_St → Int32 → Int32 → Int32 → Prop} {Q : kx_St → Int32 → Prop} {H : Heap} {locs : List Loc} {ls : Array Slot} (cx : kx_Cx p s m args meth c D cy RX7 cX7_duel 6 (some .int)) (hk56 : ∀ (σ : kx_St) (x1 : Int32) (x2 : Int32) (x3 : Int32) (H : Heap) (locs : List Loc) (ls : Array Slot), k56 σ x1 x2 x3 → va_P D vwCl (kx_ws cy 1 ad σ) H → va_D A (kx_ws cy 1 ad σ) → va_S A s.heap H locs → lv_has ls 6 [(0, .ref (ad 0)), (1, .int x1), (2, .int x2), (3, .int x3)] → W p l e rm7_duel s m args below meth c H locs 0 0 (MQ below (kx_Qc kx_ci Q (kx_Wd D cy 1 ad A) A) args s 0 0 A) (F0 m 56 ls []))  (h : p7_duel_J211 σ x1 x2 x3 x4 s0 s1 k56 Q) (hP : va_P D vwCl (kx_ws cy 1 ad σ) H) (hD : va_D A (kx_ws cy 1 ad σ)) (hS : va_S A s.heap H locs) (hl : lv_has ls 6 [(0, .ref (ad 0)), (1, .int x1), (2, .int x2), (3, .int x3), (4, .int x4)]) : W p l e rm7_duel s m args below meth c H locs 0 0 (MQ below (kx_Qc kx_ci Q (kx_Wd D cy 1 ad A) A) args s 0 0 A) (F0 m 211 ls [.int s1, .int s0]) := by
  obtain ⟨hx, hb, hr, hlocks, hml, hown, hts, hK⟩ := id cx
  refine lv_iadd (pc := 211) hx hb dX7_duel_211 ?_
  refine lv_istore (pc := 212) (lv' := [(5, .int (s0 + s1)), (0, .ref (ad 0)), (1, .int x1), (2, .int x2), (3, .int x3), (4, .int x4)]) hx hb dX7_duel_212 hl (by decide) rfl (fun ls hl => ?_)
  refine lv_iload_n (pc := 214) hx hb dX7_duel_214 rfl (lv_at hl 3 rfl) ?_
  refine lv_iload_n (pc := 215) hx hb dX7_duel_215 rfl (lv_at hl 2 rfl) ?_
  refine lv_iconst (pc := 216) (v := (1 : Int32)) hx hb dX7_duel_216 (by decide) ?_
  refine lv_isub (pc := 217) hx hb dX7_duel_217 ?_
  refine lv_icmp_ne (pc := 218) (tgt := 252) hx hb dX7_duel_218 (by decide) (fun c1 => ?_) (fun c1 => ?_)
  · have h := h.1 c1
    refine lv_iinc (pc := 252) (v := (x2 + (1 : Int32))) (lv' := [(2, .int (x2 + (1 : Int32))), (5, .int (s0 + s1)), (0, .ref (ad 0)), (1, .int x1), (3, .int x3), (4, .int x4)]) hx hb dX7_duel_252 hl (k := 3) rfl rfl (by decide) rfl (fun ls hl => ?_)
    refine lv_aload_n (pc := 255) hx hb dX7_duel_255 rfl (lv_at hl 2 rfl) ?_
    refine fg7_59 (pc := 256) (b := 16) hx hb hown hts hK hP rfl rfl dX7_duel_256 ?_
    refine lv_iload_n (pc := 259) hx hb dX7_duel_259 rfl (lv_at hl 0 rfl) ?_
    refine lv_iload (pc := 260) hx hb dX7_duel_260 (lv_at hl 5 rfl) ?_
    refine lv_aload_n (pc := 262) hx hb dX7_duel_262 rfl (lv_at hl 2 rfl) ?_
    refine fg7_150 (pc := 263) hx hb hown hts hK hP rfl dX7_duel_263 ?_
    refine lv_icmp_ge (pc := 266) (tgt := 285) hx hb dX7_duel_266 (by decide) (fun c2 => ?_) (fun c2 => ?_)
    · have h := h.1 c2
      refine lv_aload_n (pc := 285) hx hb dX7_duel_285 rfl (lv_at hl 2 rfl) ?_
      refine fg7_59 (pc := 286) (b := 16) hx hb hown hts hK hP rfl rfl dX7_duel_286 ?_
      refine lv_iload_n (pc := 289) hx hb dX7_duel_289 rfl (lv_at hl 0 rfl) ?_
      refine lv_iconst (pc := 290) (v := (1 : Int32)) hx hb dX7_duel_290 (by decide) ?_
      refine lv_isub (pc := 291) hx hb dX7_duel_291 ?_
      obtain ⟨g3, h⟩ := h
      refine kx_iald (pc := 292) hx hb hK hP rfl g3 dX7_duel_292 ?_
      exact w7_duel_J293 cx hk56 rfl h hP hD hS (lv_sub hl [2, 3, 0, 4, 1] rfl)
    · have h := h.2 c2
      refine lv_aload_n (pc := 269) hx hb dX7_duel_269 rfl (lv_at hl 2 rfl) ?_
      refine fg7_59 (pc := 270) (b := 16) hx hb hown hts hK hP rfl rfl dX7_duel_270 ?_
      refine lv_iload_n (pc := 273) hx hb dX7_duel_273 rfl (lv_at hl 0 rfl) ?_
      refine lv_iconst (pc := 274) (v := (1 : Int32)) hx hb dX7_duel_274 (by decide) ?_
      refine lv_isub (pc := 275) hx hb dX7_duel_275 ?_
      obtain ⟨g4, h⟩ := h
      refine kx_iald (pc := 276) hx hb hK hP rfl g4 dX7_duel_276 ?_
      refine lv_iconst (pc := 277) (v := (1 : Int32)) hx hb dX7_duel_277 (by decide) ?_
      refine lv_iload (pc := 278) hx hb dX7_duel_278 (lv_at hl 5 rfl) ?_
      refine lv_ishl (pc := 280) hx hb dX7_duel_280 ?_
      refine lv_ior (pc := 281) hx hb dX7_duel_281 ?_
      refine lv_goto (pc := 282) (tgt := 293) hx hb dX7_duel_282 (by decide) ?_
      exact w7_duel_J293 cx hk56 rfl h hP hD hS (lv_sub hl [2, 3, 0, 4, 1] rfl)
  · have h := h.2 c1
    refine lv_aload_n (pc := 221) hx hb dX7_duel_221 rfl (lv_at hl 1 rfl) ?_
    refine fg7_65 (pc := 222) (b := 18) hx hb hown hts hK hP rfl rfl dX7_duel_222 ?_
    refine lv_iload_n (pc := 225) hx hb dX7_duel_225 rfl (lv_at hl 3 rfl) ?_
    refine lv_iload_n (pc := 226) hx hb dX7_duel_226 rfl (lv_at hl 3 rfl) ?_
    refine lv_aload_n (pc := 227) hx hb dX7_duel_227 rfl (lv_at hl 1 rfl) ?_
    refine fg7_65 (pc := 228) (b := 18) hx hb hown hts hK hP rfl rfl dX7_duel_228 ?_
    refine lv_iload_n (pc := 231) hx hb dX7_duel_231 rfl (lv_at hl 3 rfl) ?_
    obtain ⟨g5, h⟩ := h
    refine kx_iald (pc := 232) hx hb hK hP rfl g5 dX7_duel_232 ?_
    refine lv_iload (pc := 233) hx hb dX7_duel_233 (lv_at hl 0 rfl) ?_
    refine kx_iSi (pc := 235) [.int x2, .int (σ.1 18 x2.toNatClampNeg), .int (s0 + s1)] hx hb hml hown hts hK hP hD hS (q7_better h) (cw7_258 hts ⟨Nat.le_of_ble_eq_true rfl, Nat.le_of_ble_eq_true rfl⟩) rfl hl.1 rfl (Nat.le_of_ble_eq_true rfl) ⟨Nat.le_of_ble_eq_true rfl, Nat.le_of_ble_eq_true rfl⟩ dX7_duel_235 (fun r6 u_ H locs hP hD hS h => ?_)
    obtain ⟨hu_, h⟩ := h
    rw [hu_] at hP hD
    obtain ⟨g7, h⟩ := h
    refine kx_iast (pc := 238) hx hb hK hP hD hS rfl g7 dX7_duel_238 (fun H locs hP hD hS => ?_)
    refine lv_aload_n (pc := 239) hx hb dX7_duel_239 rfl (lv_at hl 1 rfl) ?_
    refine fg7_56 (pc := 240) (b := 15) hx hb hown hts hK hP rfl rfl dX7_duel_240 ?_
    refine lv_iload_n (pc := 243) hx hb dX7_duel_243 rfl (lv_at hl 3 rfl) ?_
    refine lv_dup2_11 (pc := 244) hx hb dX7_duel_244 rfl rfl ?_
    obtain ⟨g9, h⟩ := h
    refine kx_iald (pc := 245) hx hb hK hP rfl g9 dX7_duel_245 ?_
    refine lv_iconst (pc := 246) (v := (1 : Int32)) hx hb dX7_duel_246 (by decide) ?_
    refine lv_iadd (pc := 247) hx hb dX7_duel_247 ?_
    obtain ⟨g10, h⟩ := h
    refine kx_iast (pc := 248) hx hb hK hP hD hS rfl g10 dX7_duel_248 (fun H locs hP hD hS => ?_)
    refine lv_goto (pc := 249) (tgt := 307) hx hb dX7_duel_249 (by decide) ?_
    refine lv_goto (pc := 307) (tgt := 56) hx hb dX7_duel_307 (by decide) ?_
    exact hk56 _ _ _ _ _ _ _ h hP hD hS (lv_sub hl [1, 2, 3, 4] rfl)
def p7_duel_J108 (σ : kx_St) (x1 : Int32) (x2 : Int32) (x3 : Int32) (k56 : kx_St → Int32 → Int32 → Int32 → Prop) (Q : kx_St → Int32 → Prop) : Prop := vp_in x2 7 ∧ (((σ.1 15 x2.toNatClampNeg) ≤ (σ.1 0 3) → vp_in x2 7 ∧ (vp_in x2 7 ∧ (((σ.1 0 3) ≤ (σ.1 15 x2.toNatClampNeg) → p7_duel_J211 σ x1 x2 x3 (σ.1 15 x2.toNatClampNeg) (σ.1 17 x2.toNatClampNeg) (0 : Int32) k56 Q) ∧ (¬ (σ.1 0 3) ≤ (σ.1 15 x2.toNatClampNeg) → p7_windAt σ ((σ.1 1 (1 : Int32).toNatClampNeg) + x2) (fun r6 => p7_paysIn σ (0 : Int32) (σ.1 15 x2.toNatClampNeg) r6 (fun r7 => p7_duel_J211 σ x1 x2 x3 (σ.1 15 x2.toNatClampNeg) (σ.1 17 x2.toNatClampNeg) r7 k56 Q)))))) ∧ (¬ (σ.1 15 x2.toNatClampNeg) ≤ (σ.1 0 3) → vp_in x2 7 ∧ (((x2 + (-1 : Int32)) < 0 → k56 σ x1 (x2 + (-1 : Int32)) (σ.1 18 x2.toNatClampNeg)) ∧ (¬ (x2 + (-1 : Int32)) < 0 → vp_in (x2 + (-1 : Int32)) 7 ∧ (p7_better (x2 + (-1 : Int32)) (σ.1 18 (x2 + (-1 : Int32)).toNatClampNeg) (σ.1 18 x2.toNatClampNeg) (fun r11 => vp_in (x2 + (-1 : Int32)) 7 ∧ ((fun σ13 : kx_St => vp_in (x2 + (-1 : Int32)) 7 ∧ (vp_in (x2 + (-1 : Int32)) 7 ∧ ((fun σ16 : kx_St => k56 σ16 x1 (x2 + (-1 : Int32)) (σ.1 18 x2.toNatClampNeg)) (kx_sI σ13 15 (x2 + (-1 : Int32)).toNatClampNeg ((σ13.1 15 (x2 + (-1 : Int32)).toNatClampNeg) + (1 : Int32)))))) (kx_sI σ 18 (x2 + (-1 : Int32)).toNatClampNeg r11))))))))
set_option maxHeartbeats 4000000 in
theorem w7_duel_J108 {σ : kx_St} {x1 : Int32} {x2 : Int32} {x3 : Int32} {k56 : kx_St → Int32 → Int32 → Int32 → Prop} {Q : kx_St → Int32 → Prop} {H : Heap} {locs : List Loc} {ls : Array Slot} (cx : kx_Cx p s m args meth c D cy RX7 cX7_duel 6 (some .int)) (hk56 : ∀ (σ : kx_St) (x1 : Int32) (x2 : Int32) (x3 : Int32) (H : Heap) (locs : List Loc) (ls : Array Slot), k56 σ x1 x2 x3 → va_P D vwCl (kx_ws cy 1 ad σ) H → va_D A (kx_ws cy 1 ad σ) → va_S A s.heap H locs → lv_has ls 6 [(0, .ref (ad 0)), (1, .int x1), (2, .int x2), (3, .int x3)] → W p l e rm7_duel s m args below meth c H locs 0 0 (MQ below (kx_Qc kx_ci Q (kx_Wd D cy 1 ad A) A) args s 0 0 A) (F0 m 56 ls []))  (h : p7_duel_J108 σ x1 x2 x3 k56 Q) (hP : va_P D vwCl (kx_ws cy 1 ad σ) H) (hD : va_D A (kx_ws cy 1 ad σ)) (hS : va_S A s.heap H locs) (hl : lv_has ls 6 [(0, .ref (ad 0)), (1, .int x1), (2, .int x2), (3, .int x3)]) : W p l e rm7_duel s m args below meth c H locs 0 0 (MQ below (kx_Qc kx_ci Q (kx_Wd D cy 1 ad A) A) args s 0 0 A) (F0 m 108 ls []) := by
  obtain ⟨hx, hb, hr, hlocks, hml, hown, hts, hK⟩ := id cx
  refine lv_aload_n (pc := 108) hx hb dX7_duel_108 rfl (lv_at hl 0 rfl) ?_
  refine fg7_56 (pc := 109) (b := 15) hx hb hown hts hK hP rfl rfl dX7_duel_109 ?_
  refine lv_iload_n (pc := 112) hx hb dX7_duel_112 rfl (lv_at hl 2 rfl) ?_
  obtain ⟨g1, h⟩ := h
  refine kx_iald (pc := 113) hx hb hK hP rfl g1 dX7_duel_113 ?_
  refine lv_aload_n (pc := 114) hx hb dX7_duel_114 rfl (lv_at hl 0 rfl) ?_
  refine fg7_150 (pc := 115) hx hb hown hts hK hP rfl dX7_duel_115 ?_
  refine lv_icmp_le (pc := 118) (tgt := 165) hx hb dX7_duel_118 (by decide) (fun c2 => ?_) (fun c2 => ?_)
  · have h := h.1 c2
    refine lv_aload_n (pc := 165) hx hb dX7_duel_165 rfl (lv_at hl 0 rfl) ?_
    refine fg7_56 (pc := 166) (b := 15) hx hb hown hts hK hP rfl rfl dX7_duel_166 ?_
    refine lv_iload_n (pc := 169) hx hb dX7_duel_169 rfl (lv_at hl 2 rfl) ?_
    obtain ⟨g3, h⟩ := h
    refine kx_iald (pc := 170) hx hb hK hP rfl g3 dX7_duel_170 ?_
    refine lv_istore (pc := 171) (lv' := [(4, .int (σ.1 15 x2.toNatClampNeg)), (0, .ref (ad 0)), (1, .int x1), (2, .int x2), (3, .int x3)]) hx hb dX7_duel_171 hl (by decide) rfl (fun ls hl => ?_)
    refine lv_aload_n (pc := 173) hx hb dX7_duel_173 rfl (lv_at hl 1 rfl) ?_
    refine fg7_62 (pc := 174) (b := 17) hx hb hown hts hK hP rfl rfl dX7_duel_174 ?_
    refine lv_iload_n (pc := 177) hx hb dX7_duel_177 rfl (lv_at hl 3 rfl) ?_
    obtain ⟨g4, h⟩ := h
    refine kx_iald (pc := 178) hx hb hK hP rfl g4 dX7_duel_178 ?_
    refine lv_iload (pc := 179) hx hb dX7_duel_179 (lv_at hl 0 rfl) ?_
    refine lv_aload_n (pc := 181) hx hb dX7_duel_181 rfl (lv_at hl 1 rfl) ?_
    refine fg7_150 (pc := 182) hx hb hown hts hK hP rfl dX7_duel_182 ?_
    refine lv_icmp_ge (pc := 185) (tgt := 210) hx hb dX7_duel_185 (by decide) (fun c5 => ?_) (fun c5 => ?_)
    · have h := h.1 c5
      refine lv_iconst (pc := 210) (v := (0 : Int32)) hx hb dX7_duel_210 (by decide) ?_
      exact w7_duel_J211 cx hk56 h hP hD hS (lv_sub hl [1, 2, 3, 4, 0] rfl)
    · have h := h.2 c5
      refine lv_aload_n (pc := 188) hx hb dX7_duel_188 rfl (lv_at hl 1 rfl) ?_
      refine lv_iconst (pc := 189) (v := (0 : Int32)) hx hb dX7_duel_189 (by decide) ?_
      refine lv_iload (pc := 190) hx hb dX7_duel_190 (lv_at hl 0 rfl) ?_
      refine lv_aload_n (pc := 192) hx hb dX7_duel_192 rfl (lv_at hl 1 rfl) ?_
      refine lv_aload_n (pc := 193) hx hb dX7_duel_193 rfl (lv_at hl 1 rfl) ?_
      refine fg7_7 (pc := 194) (b := 1) hx hb hown hts hK hP rfl rfl dX7_duel_194 ?_
      refine lv_iconst (pc := 197) (v := (1 : Int32)) hx hb dX7_duel_197 (by decide) ?_
      refine kx_iald (pc := 198) hx hb hK hP rfl (by unfold vp_in; decide) dX7_duel_198 ?_
      refine lv_iload_n (pc := 199) hx hb dX7_duel_199 rfl (lv_at hl 3 rfl) ?_
      refine lv_iadd (pc := 200) hx hb dX7_duel_200 ?_
      refine kx_iVi (pc := 201) [.int ((σ.1 1 (1 : Int32).toNatClampNeg) + x2)] hx hb hml hown hts hK hP hD hS (q7_windAt h) (cw7_164 hts ⟨Nat.le_of_ble_eq_true rfl, Nat.le_of_ble_eq_true rfl⟩) rfl (by decide) rfl rfl hl.1 rfl (Nat.le_of_ble_eq_true rfl) ⟨Nat.le_of_ble_eq_true rfl, Nat.le_of_ble_eq_true rfl⟩ dX7_duel_201 (fun r6 u_ H locs hP hD hS h => ?_)
      obtain ⟨hu_, h⟩ := h
      rw [hu_] at hP hD
      refine kx_iVi (pc := 204) [.int (0 : Int32), .int (σ.1 15 x2.toNatClampNeg), .int r6] hx hb hml hown hts hK hP hD hS (q7_paysIn h) (cw7_167 hts ⟨Nat.le_of_ble_eq_true rfl, Nat.le_of_ble_eq_true rfl⟩) rfl (by decide) rfl rfl hl.1 rfl (Nat.le_of_ble_eq_true rfl) ⟨Nat.le_of_ble_eq_true rfl, Nat.le_of_ble_eq_true rfl⟩ dX7_duel_204 (fun r7 u_ H locs hP hD hS h => ?_)
      obtain ⟨hu_, h⟩ := h
      rw [hu_] at hP hD
      refine lv_goto (pc := 207) (tgt := 211) hx hb dX7_duel_207 (by decide) ?_
      exact w7_duel_J211 cx hk56 h hP hD hS (lv_sub hl [1, 2, 3, 4, 0] rfl)
  · have h := h.2 c2
    refine lv_aload_n (pc := 121) hx hb dX7_duel_121 rfl (lv_at hl 0 rfl) ?_
    refine fg7_65 (pc := 122) (b := 18) hx hb hown hts hK hP rfl rfl dX7_duel_122 ?_
    refine lv_iload_n (pc := 125) hx hb dX7_duel_125 rfl (lv_at hl 2 rfl) ?_
    obtain ⟨g8, h⟩ := h
    refine kx_iald (pc := 126) hx hb hK hP rfl g8 dX7_duel_126 ?_
    refine lv_istore_n (pc := 127) (lv' := [(3, .int (σ.1 18 x2.toNatClampNeg)), (0, .ref (ad 0)), (1, .int x1), (2, .int x2)]) hx hb dX7_duel_127 rfl hl (by decide) rfl (fun ls hl => ?_)
    refine lv_iinc (pc := 128) (v := (x2 + (-1 : Int32))) (lv' := [(2, .int (x2 + (-1 : Int32))), (3, .int (σ.1 18 x2.toNatClampNeg)), (0, .ref (ad 0)), (1, .int x1)]) hx hb dX7_duel_128 hl (k := 3) rfl rfl (by decide) rfl (fun ls hl => ?_)
    refine lv_iload_n (pc := 131) hx hb dX7_duel_131 rfl (lv_at hl 0 rfl) ?_
    refine lv_if_lt (pc := 132) (tgt := 56) hx hb dX7_duel_132 (by decide) (fun c9 => ?_) (fun c9 => ?_)
    · have h := h.1 c9
      exact hk56 _ _ _ _ _ _ _ h hP hD hS (lv_sub hl [2, 3, 0, 1] rfl)
    · have h := h.2 c9
      refine lv_aload_n (pc := 135) hx hb dX7_duel_135 rfl (lv_at hl 2 rfl) ?_
      refine fg7_65 (pc := 136) (b := 18) hx hb hown hts hK hP rfl rfl dX7_duel_136 ?_
      refine lv_iload_n (pc := 139) hx hb dX7_duel_139 rfl (lv_at hl 0 rfl) ?_
      refine lv_iload_n (pc := 140) hx hb dX7_duel_140 rfl (lv_at hl 0 rfl) ?_
      refine lv_aload_n (pc := 141) hx hb dX7_duel_141 rfl (lv_at hl 2 rfl) ?_
      refine fg7_65 (pc := 142) (b := 18) hx hb hown hts hK hP rfl rfl dX7_duel_142 ?_
      refine lv_iload_n (pc := 145) hx hb dX7_duel_145 rfl (lv_at hl 0 rfl) ?_
      obtain ⟨g10, h⟩ := h
      refine kx_iald (pc := 146) hx hb hK hP rfl g10 dX7_duel_146 ?_
      refine lv_iload_n (pc := 147) hx hb dX7_duel_147 rfl (lv_at hl 1 rfl) ?_
      refine kx_iSi (pc := 148) [.int (x2 + (-1 : Int32)), .int (σ.1 18 (x2 + (-1 : Int32)).toNatClampNeg), .int (σ.1 18 x2.toNatClampNeg)] hx hb hml hown hts hK hP hD hS (q7_better h) (cw7_258 hts ⟨Nat.le_of_ble_eq_true rfl, Nat.le_of_ble_eq_true rfl⟩) rfl hl.1 rfl (Nat.le_of_ble_eq_true rfl) ⟨Nat.le_of_ble_eq_true rfl, Nat.le_of_ble_eq_true rfl⟩ dX7_duel_148 (fun r11 u_ H locs hP hD hS h => ?_)
      obtain ⟨hu_, h⟩ := h
      rw [hu_] at hP hD
      obtain ⟨g12, h⟩ := h
      refine kx_iast (pc := 151) hx hb hK hP hD hS rfl g12 dX7_duel_151 (fun H locs hP hD hS => ?_)
      refine lv_aload_n (pc := 152) hx hb dX7_duel_152 rfl (lv_at hl 2 rfl) ?_
      refine fg7_56 (pc := 153) (b := 15) hx hb hown hts hK hP rfl rfl dX7_duel_153 ?_
      refine lv_iload_n (pc := 156) hx hb dX7_duel_156 rfl (lv_at hl 0 rfl) ?_
      refine lv_dup2_11 (pc := 157) hx hb dX7_duel_157 rfl rfl ?_
      obtain ⟨g14, h⟩ := h
      refine kx_iald (pc := 158) hx hb hK hP rfl g14 dX7_duel_158 ?_
      refine lv_iconst (pc := 159) (v := (1 : Int32)) hx hb dX7_duel_159 (by decide) ?_
      refine lv_iadd (pc := 160) hx hb dX7_duel_160 ?_
      obtain ⟨g15, h⟩ := h
      refine kx_iast (pc := 161) hx hb hK hP hD hS rfl g15 dX7_duel_161 (fun H locs hP hD hS => ?_)
      refine lv_goto (pc := 162) (tgt := 56) hx hb dX7_duel_162 (by decide) ?_
      exact hk56 _ _ _ _ _ _ _ h hP hD hS (lv_sub hl [2, 3, 0, 1] rfl)
def p7_duel_L64 : Nat → kx_St → Int32 → Int32 → Int32 → (kx_St → Int32 → Int32 → Int32 → Prop) → (kx_St → Int32 → Prop) → Prop
  | 0, _, _, _, _, _, _ => False
  | n + 1, σ, x1, x2, x3, k56, Q => vp_in x2 7 ∧ (((σ.1 0 3) ≤ (σ.1 15 x2.toNatClampNeg) → p7_duel_J108 σ x1 x2 x3 k56 Q) ∧ (¬ (σ.1 0 3) ≤ (σ.1 15 x2.toNatClampNeg) → vp_in x2 7 ∧ (vp_in x2 7 ∧ (p7_has (σ.1 16 x2.toNatClampNeg) (σ.1 15 x2.toNatClampNeg) (fun r5 => (r5 = 0 → p7_duel_J108 σ x1 x2 x3 k56 Q) ∧ (¬ r5 = 0 → vp_in x2 7 ∧ (vp_in x2 7 ∧ ((fun σ9 : kx_St => p7_duel_L64 n σ9 x1 x2 x3 k56 Q) (kx_sI σ 15 x2.toNatClampNeg ((σ.1 15 x2.toNatClampNeg) + (1 : Int32)))))))))))
set_option maxHeartbeats 4000000 in
theorem w7_duel_L64 {k56 : kx_St → Int32 → Int32 → Int32 → Prop} {Q : kx_St → Int32 → Prop} (cx : kx_Cx p s m args meth c D cy RX7 cX7_duel 6 (some .int)) (hk56 : ∀ (σ : kx_St) (x1 : Int32) (x2 : Int32) (x3 : Int32) (H : Heap) (locs : List Loc) (ls : Array Slot), k56 σ x1 x2 x3 → va_P D vwCl (kx_ws cy 1 ad σ) H → va_D A (kx_ws cy 1 ad σ) → va_S A s.heap H locs → lv_has ls 6 [(0, .ref (ad 0)), (1, .int x1), (2, .int x2), (3, .int x3)] → W p l e rm7_duel s m args below meth c H locs 0 0 (MQ below (kx_Qc kx_ci Q (kx_Wd D cy 1 ad A) A) args s 0 0 A) (F0 m 56 ls [])) : ∀ (n : Nat) (σ : kx_St) (x1 : Int32) (x2 : Int32) (x3 : Int32) (H : Heap) (locs : List Loc) (ls : Array Slot), p7_duel_L64 n σ x1 x2 x3 k56 Q → va_P D vwCl (kx_ws cy 1 ad σ) H → va_D A (kx_ws cy 1 ad σ) → va_S A s.heap H locs → lv_has ls 6 [(0, .ref (ad 0)), (1, .int x1), (2, .int x2), (3, .int x3)] → W p l e rm7_duel s m args below meth c H locs 0 0 (MQ below (kx_Qc kx_ci Q (kx_Wd D cy 1 ad A) A) args s 0 0 A) (F0 m 64 ls []) := by
  obtain ⟨hx, hb, hr, hlocks, hml, hown, hts, hK⟩ := id cx
  intro n
  induction n with
  | zero => intro _ _ _ _ _ _ _ h; exact False.elim h
  | succ n ih =>
    intro σ x1 x2 x3 H locs ls h hP hD hS hl
    refine lv_aload_n (pc := 64) hx hb dX7_duel_64 rfl (lv_at hl 0 rfl) ?_
    refine fg7_56 (pc := 65) (b := 15) hx hb hown hts hK hP rfl rfl dX7_duel_65 ?_
    refine lv_iload_n (pc := 68) hx hb dX7_duel_68 rfl (lv_at hl 2 rfl) ?_
    obtain ⟨g1, h⟩ := h
    refine kx_iald (pc := 69) hx hb hK hP rfl g1 dX7_duel_69 ?_
    refine lv_aload_n (pc := 70) hx hb dX7_duel_70 rfl (lv_at hl 0 rfl) ?_
    refine fg7_150 (pc := 71) hx hb hown hts hK hP rfl dX7_duel_71 ?_
    refine lv_icmp_ge (pc := 74) (tgt := 108) hx hb dX7_duel_74 (by decide) (fun c2 => ?_) (fun c2 => ?_)
    · have h := h.1 c2
      exact w7_duel_J108 cx hk56 h hP hD hS (lv_sub hl [0, 1, 2, 3] rfl)
    · have h := h.2 c2
      refine lv_aload_n (pc := 77) hx hb dX7_duel_77 rfl (lv_at hl 0 rfl) ?_
      refine fg7_59 (pc := 78) (b := 16) hx hb hown hts hK hP rfl rfl dX7_duel_78 ?_
      refine lv_iload_n (pc := 81) hx hb dX7_duel_81 rfl (lv_at hl 2 rfl) ?_
      obtain ⟨g3, h⟩ := h
      refine kx_iald (pc := 82) hx hb hK hP rfl g3 dX7_duel_82 ?_
      refine lv_aload_n (pc := 83) hx hb dX7_duel_83 rfl (lv_at hl 0 rfl) ?_
      refine fg7_56 (pc := 84) (b := 15) hx hb hown hts hK hP rfl rfl dX7_duel_84 ?_
      refine lv_iload_n (pc := 87) hx hb dX7_duel_87 rfl (lv_at hl 2 rfl) ?_
      obtain ⟨g4, h⟩ := h
      refine kx_iald (pc := 88) hx hb hK hP rfl g4 dX7_duel_88 ?_
      refine kx_iSi (pc := 89) [.int (σ.1 16 x2.toNatClampNeg), .int (σ.1 15 x2.toNatClampNeg)] hx hb hml hown hts hK hP hD hS (q7_has h) (cw7_170 hts ⟨Nat.le_of_ble_eq_true rfl, Nat.le_of_ble_eq_true rfl⟩) rfl hl.1 rfl (Nat.le_of_ble_eq_true rfl) ⟨Nat.le_of_ble_eq_true rfl, Nat.le_of_ble_eq_true rfl⟩ dX7_duel_89 (fun r5 u_ H locs hP hD hS h => ?_)
      obtain ⟨hu_, h⟩ := h
      rw [hu_] at hP hD
      refine lv_if_eq (pc := 92) (tgt := 108) hx hb dX7_duel_92 (by decide) (fun c6 => ?_) (fun c6 => ?_)
      · have h := h.1 c6
        exact w7_duel_J108 cx hk56 h hP hD hS (lv_sub hl [0, 1, 2, 3] rfl)
      · have h := h.2 c6
        refine lv_aload_n (pc := 95) hx hb dX7_duel_95 rfl (lv_at hl 0 rfl) ?_
        refine fg7_56 (pc := 96) (b := 15) hx hb hown hts hK hP rfl rfl dX7_duel_96 ?_
        refine lv_iload_n (pc := 99) hx hb dX7_duel_99 rfl (lv_at hl 2 rfl) ?_
        refine lv_dup2_11 (pc := 100) hx hb dX7_duel_100 rfl rfl ?_
        obtain ⟨g7, h⟩ := h
        refine kx_iald (pc := 101) hx hb hK hP rfl g7 dX7_duel_101 ?_
        refine lv_iconst (pc := 102) (v := (1 : Int32)) hx hb dX7_duel_102 (by decide) ?_
        refine lv_iadd (pc := 103) hx hb dX7_duel_103 ?_
        obtain ⟨g8, h⟩ := h
        refine kx_iast (pc := 104) hx hb hK hP hD hS rfl g8 dX7_duel_104 (fun H locs hP hD hS => ?_)
        refine lv_goto (pc := 105) (tgt := 64) hx hb dX7_duel_105 (by decide) ?_
        exact ih _ _ _ _ _ _ _ h hP hD hS (lv_sub hl [0, 1, 2, 3] rfl)
def p7_duel_L56 : Nat → kx_St → Int32 → Int32 → Int32 → (kx_St → Int32 → Prop) → Prop
  | 0, _, _, _, _, _ => False
  | n + 1, σ, x1, x2, x3, Q => (x1 ≤ 0 → Q σ x3) ∧ (¬ x1 ≤ 0 → (x2 < 0 → Q σ x3) ∧ (¬ x2 < 0 → ∃ m64, p7_duel_L64 m64 σ x1 x2 x3 (fun σ x1 x2 x3 => p7_duel_L56 n σ x1 x2 x3 Q) Q))
set_option maxHeartbeats 4000000 in
theorem w7_duel_L56  {Q : kx_St → Int32 → Prop} (cx : kx_Cx p s m args meth c D cy RX7 cX7_duel 6 (some .int))  : ∀ (n : Nat) (σ : kx_St) (x1 : Int32) (x2 : Int32) (x3 : Int32) (H : Heap) (locs : List Loc) (ls : Array Slot), p7_duel_L56 n σ x1 x2 x3 Q → va_P D vwCl (kx_ws cy 1 ad σ) H → va_D A (kx_ws cy 1 ad σ) → va_S A s.heap H locs → lv_has ls 6 [(0, .ref (ad 0)), (1, .int x1), (2, .int x2), (3, .int x3)] → W p l e rm7_duel s m args below meth c H locs 0 0 (MQ below (kx_Qc kx_ci Q (kx_Wd D cy 1 ad A) A) args s 0 0 A) (F0 m 56 ls []) := by
  obtain ⟨hx, hb, hr, hlocks, hml, hown, hts, hK⟩ := id cx
  intro n
  induction n with
  | zero => intro _ _ _ _ _ _ _ h; exact False.elim h
  | succ n ih =>
    intro σ x1 x2 x3 H locs ls h hP hD hS hl
    refine lv_iload_n (pc := 56) hx hb dX7_duel_56 rfl (lv_at hl 1 rfl) ?_
    refine lv_if_le (pc := 57) (tgt := 310) hx hb dX7_duel_57 (by decide) (fun c1 => ?_) (fun c1 => ?_)
    · have h := h.1 c1
      refine lv_iload_n (pc := 310) hx hb dX7_duel_310 rfl (lv_at hl 3 rfl) ?_
      exact kx_iret (pc := 311) hx hb hr hlocks hK hP hD hS h dX7_duel_311
    · have h := h.2 c1
      refine lv_iload_n (pc := 60) hx hb dX7_duel_60 rfl (lv_at hl 2 rfl) ?_
      refine lv_if_lt (pc := 61) (tgt := 310) hx hb dX7_duel_61 (by decide) (fun c2 => ?_) (fun c2 => ?_)
      · have h := h.1 c2
        refine lv_iload_n (pc := 310) hx hb dX7_duel_310 rfl (lv_at hl 3 rfl) ?_
        exact kx_iret (pc := 311) hx hb hr hlocks hK hP hD hS h dX7_duel_311
      · have h := h.2 c2
        have hc3 : ∀ (σ : kx_St) (x1 : Int32) (x2 : Int32) (x3 : Int32) (H : Heap) (locs : List Loc) (ls : Array Slot), (fun σ x1 x2 x3 => p7_duel_L56 n σ x1 x2 x3 Q) σ x1 x2 x3 → va_P D vwCl (kx_ws cy 1 ad σ) H → va_D A (kx_ws cy 1 ad σ) → va_S A s.heap H locs → lv_has ls 6 [(0, .ref (ad 0)), (1, .int x1), (2, .int x2), (3, .int x3)] → W p l e rm7_duel s m args below meth c H locs 0 0 (MQ below (kx_Qc kx_ci Q (kx_Wd D cy 1 ad A) A) args s 0 0 A) (F0 m 56 ls []) := fun σ x1 x2 x3 H locs ls h hP hD hS hl => ih _ _ _ _ _ _ _ h hP hD hS hl
        obtain ⟨n0, h⟩ := h
        exact w7_duel_L64 cx hc3 n0 _ _ _ _ _ _ _ h hP hD hS (lv_sub hl [0, 1, 2, 3] rfl)
def p7_duel (σ : kx_St) (x1 : Int32) (Q : kx_St → Int32 → Prop) : Prop := p7_in (x1.toInt64) (0 : Int64) (6 : Int64) (fun r1 => (¬ r1 = 0 → (¬ (σ.1 0 3) = 0 → (fun σ4 : kx_St => (fun σ5 : kx_St => (x1 ≤ 0 → ∃ m56, p7_duel_L56 m56 σ5 x1 (0 : Int32) (0 : Int32) Q) ∧ (¬ x1 ≤ 0 → p7_beginTurn σ5 (0 : Int32) (fun σ8 => ∃ m56, p7_duel_L56 m56 σ8 x1 (0 : Int32) (0 : Int32) Q))) (kx_sI σ4 17 (0 : Int32).toNatClampNeg (0 : Int32))) (kx_sI σ 16 (0 : Int32).toNatClampNeg (σ.1 1 (2 : Int32).toNatClampNeg))) ∧ ((σ.1 0 3) = 0 → Q σ (-4 : Int32))) ∧ (r1 = 0 → Q σ (-1 : Int32)))
set_option maxHeartbeats 4000000 in
theorem q7_duel {σ : kx_St} {x1 : Int32} {Q : kx_St → Int32 → Prop} (h : p7_duel σ x1 Q) : Met l yX7_duel (Cond.code yX7_duel cX7_duel 6 (some .int) :: kx_big) rm7_duel (va_Pc [.ref (ad 0), .int x1] (kx_Wd D cy 1 ad A σ)) (kx_Qc kx_ci Q (kx_Wd D cy 1 ad A) A) 0 0 A := by
  refine kx_head (plainFor_of_name (by decide)) (Nat.le_of_ble_eq_true rfl) ?_
  intro p e s m below meth c ls cx hP hD hS hl
  obtain ⟨hx, hb, hr, hlocks, hml, hown, hts, hK⟩ := id cx
  have hl : lv_has ls 6 [(0, .ref (ad 0)), (1, .int x1)] := hl
  refine lv_iload_n (pc := 0) hx hb dX7_duel_0 rfl (lv_at hl 1 rfl) ?_
  refine lv_i2l (pc := 1) (v := (x1.toInt64)) hx hb dX7_duel_1 rfl ?_
  refine lv_lconst (pc := 2) (v := (0 : Int64)) hx hb dX7_duel_2 (by decide) ?_
  refine lv_ldc2 (pc := 3) (v := (6 : Int64)) hx hb hown (hts _ tb_915) dX7_duel_3 ?_
  refine kx_iSi (pc := 6) [.long (x1.toInt64), .long (0 : Int64), .long (6 : Int64)] hx hb hml hown hts hK hP hD hS (q7_in h) (cw7_77 hts ⟨Nat.le_of_ble_eq_true rfl, Nat.le_of_ble_eq_true rfl⟩) rfl hl.1 rfl (Nat.le_of_ble_eq_true rfl) ⟨Nat.le_of_ble_eq_true rfl, Nat.le_of_ble_eq_true rfl⟩ dX7_duel_6 (fun r1 u_ H locs hP hD hS h => ?_)
  obtain ⟨hu_, h⟩ := h
  rw [hu_] at hP hD
  refine lv_if_ne (pc := 9) (tgt := 14) hx hb dX7_duel_9 (by decide) (fun c2 => ?_) (fun c2 => ?_)
  · have h := h.1 c2
    refine lv_aload_n (pc := 14) hx hb dX7_duel_14 rfl (lv_at hl 0 rfl) ?_
    refine fg7_150 (pc := 15) hx hb hown hts hK hP rfl dX7_duel_15 ?_
    refine lv_if_ne (pc := 18) (tgt := 24) hx hb dX7_duel_18 (by decide) (fun c3 => ?_) (fun c3 => ?_)
    · have h := h.1 c3
      refine lv_iconst (pc := 24) (v := (0 : Int32)) hx hb dX7_duel_24 (by decide) ?_
      refine lv_istore_n (pc := 25) (lv' := [(2, .int (0 : Int32)), (0, .ref (ad 0)), (1, .int x1)]) hx hb dX7_duel_25 rfl hl (by decide) rfl (fun ls hl => ?_)
      refine lv_iconst (pc := 26) (v := (0 : Int32)) hx hb dX7_duel_26 (by decide) ?_
      refine lv_istore_n (pc := 27) (lv' := [(3, .int (0 : Int32)), (2, .int (0 : Int32)), (0, .ref (ad 0)), (1, .int x1)]) hx hb dX7_duel_27 rfl hl (by decide) rfl (fun ls hl => ?_)
      refine lv_aload_n (pc := 28) hx hb dX7_duel_28 rfl (lv_at hl 2 rfl) ?_
      refine fg7_59 (pc := 29) (b := 16) hx hb hown hts hK hP rfl rfl dX7_duel_29 ?_
      refine lv_iconst (pc := 32) (v := (0 : Int32)) hx hb dX7_duel_32 (by decide) ?_
      refine lv_aload_n (pc := 33) hx hb dX7_duel_33 rfl (lv_at hl 2 rfl) ?_
      refine fg7_7 (pc := 34) (b := 1) hx hb hown hts hK hP rfl rfl dX7_duel_34 ?_
      refine lv_iconst (pc := 37) (v := (2 : Int32)) hx hb dX7_duel_37 (by decide) ?_
      refine kx_iald (pc := 38) hx hb hK hP rfl (by unfold vp_in; decide) dX7_duel_38 ?_
      refine kx_iast (pc := 39) hx hb hK hP hD hS rfl (by unfold vp_in; decide) dX7_duel_39 (fun H locs hP hD hS => ?_)
      refine lv_aload_n (pc := 40) hx hb dX7_duel_40 rfl (lv_at hl 2 rfl) ?_
      refine fg7_62 (pc := 41) (b := 17) hx hb hown hts hK hP rfl rfl dX7_duel_41 ?_
      refine lv_iconst (pc := 44) (v := (0 : Int32)) hx hb dX7_duel_44 (by decide) ?_
      refine lv_iconst (pc := 45) (v := (0 : Int32)) hx hb dX7_duel_45 (by decide) ?_
      refine kx_iast (pc := 46) hx hb hK hP hD hS rfl (by unfold vp_in; decide) dX7_duel_46 (fun H locs hP hD hS => ?_)
      refine lv_iload_n (pc := 47) hx hb dX7_duel_47 rfl (lv_at hl 3 rfl) ?_
      refine lv_if_le (pc := 48) (tgt := 56) hx hb dX7_duel_48 (by decide) (fun c6 => ?_) (fun c6 => ?_)
      · have h := h.1 c6
        obtain ⟨n0, h⟩ := h
        exact w7_duel_L56 cx  n0 _ _ _ _ _ _ _ h hP hD hS (lv_sub hl [2, 3, 1, 0] rfl)
      · have h := h.2 c6
        refine lv_aload_n (pc := 51) hx hb dX7_duel_51 rfl (lv_at hl 2 rfl) ?_
        refine lv_iconst (pc := 52) (v := (0 : Int32)) hx hb dX7_duel_52 (by decide) ?_
        refine kx_iVv (pc := 53) [.int (0 : Int32)] hx hb hml hown hts hK hP hD hS (q7_beginTurn h) (cw7_254 hts ⟨Nat.le_of_ble_eq_true rfl, Nat.le_of_ble_eq_true rfl⟩) rfl (by decide) rfl rfl hl.1 rfl (Nat.le_of_ble_eq_true rfl) ⟨Nat.le_of_ble_eq_true rfl, Nat.le_of_ble_eq_true rfl⟩ dX7_duel_53 (fun _ σ8 H locs hP hD hS h => ?_)
        obtain ⟨n0, h⟩ := h
        exact w7_duel_L56 cx  n0 _ _ _ _ _ _ _ h hP hD hS (lv_sub hl [2, 3, 1, 0] rfl)
    · have h := h.2 c3
      refine lv_bipush (pc := 21) (v := (-4 : Int32)) hx hb dX7_duel_21 (by decide) ?_
      exact kx_iret (pc := 23) hx hb hr hlocks hK hP hD hS h dX7_duel_23
  · have h := h.2 c2
    refine lv_iconst (pc := 12) (v := (-1 : Int32)) hx hb dX7_duel_12 (by decide) ?_
    exact kx_iret (pc := 13) hx hb hr hlocks hK hP hD hS h dX7_duel_13
def p7_tellParts_L6 : Nat → kx_St → Int64 → Int64 → Int64 → Int64 → (kx_St → Prop) → Prop
  | 0, _, _, _, _, _, _ => False
  | n + 1, σ, x1, x3, x5, x7, Q => ((lg_cmp x7 (0 : Int64)) = 0 → ¬ x5 = 0 ∧ ((fun σ3 : kx_St => ¬ x5 = 0 ∧ ((fun σ5 : kx_St => Q σ5) (kx_sL σ3 13 (x3 / x5)))) (kx_sL σ 12 (x1 / x5)))) ∧ (¬ (lg_cmp x7 (0 : Int64)) = 0 → ¬ x7 = 0 ∧ (p7_tellParts_L6 n σ x1 x3 x7 (x5 - x5 / x7 * x7) Q))
set_option maxHeartbeats 4000000 in
theorem w7_tellParts_L6  {Q : kx_St → Prop} (cx : kx_Cx p s m args meth c D cy RX7 cX7_tellParts 11 none)  : ∀ (n : Nat) (σ : kx_St) (x1 : Int64) (x3 : Int64) (x5 : Int64) (x7 : Int64) (H : Heap) (locs : List Loc) (ls : Array Slot), p7_tellParts_L6 n σ x1 x3 x5 x7 Q → va_P D vwCl (kx_ws cy 1 ad σ) H → va_D A (kx_ws cy 1 ad σ) → va_S A s.heap H locs → lv_has ls 11 [(0, .ref (ad 0)), (1, .long x1), (3, .long x3), (5, .long x5), (7, .long x7)] → W p l e rm7_tellParts s m args below meth c H locs 0 0 (MQ below (kx_Qc kx_cv (fun u _ => Q u) (kx_Wd D cy 1 ad A) A) args s 0 0 A) (F0 m 6 ls []) := by
  obtain ⟨hx, hb, hr, hlocks, hml, hown, hts, hK⟩ := id cx
  intro n
  induction n with
  | zero => intro _ _ _ _ _ _ _ _ h; exact False.elim h
  | succ n ih =>
    intro σ x1 x3 x5 x7 H locs ls h hP hD hS hl
    refine lv_lload (pc := 6) hx hb dX7_tellParts_6 (lv_at hl 4 rfl) ?_
    refine lv_lconst (pc := 8) (v := (0 : Int64)) hx hb dX7_tellParts_8 (by decide) ?_
    refine W.lcmp (pc := 9) hx hb dX7_tellParts_9 ?_
    refine lv_if_eq (pc := 10) (tgt := 31) hx hb dX7_tellParts_10 (by decide) (fun c1 => ?_) (fun c1 => ?_)
    · have h := h.1 c1
      refine lv_aload_n (pc := 31) hx hb dX7_tellParts_31 rfl (lv_at hl 0 rfl) ?_
      refine lv_lload_n (pc := 32) hx hb dX7_tellParts_32 rfl (lv_at hl 1 rfl) ?_
      refine lv_lload (pc := 33) hx hb dX7_tellParts_33 (lv_at hl 3 rfl) ?_
      obtain ⟨g2, h⟩ := h
      refine lv_ldiv (pc := 35) hx hb dX7_tellParts_35 g2 ?_
      refine fp7_261 (pc := 36) hx hb hown hts hK hP hD hS rfl dX7_tellParts_36 (fun H locs hP hD hS => ?_)
      refine lv_aload_n (pc := 39) hx hb dX7_tellParts_39 rfl (lv_at hl 0 rfl) ?_
      refine lv_lload_n (pc := 40) hx hb dX7_tellParts_40 rfl (lv_at hl 2 rfl) ?_
      refine lv_lload (pc := 41) hx hb dX7_tellParts_41 (lv_at hl 3 rfl) ?_
      obtain ⟨g4, h⟩ := h
      refine lv_ldiv (pc := 43) hx hb dX7_tellParts_43 g4 ?_
      refine fp7_37 (pc := 44) hx hb hown hts hK hP hD hS rfl dX7_tellParts_44 (fun H locs hP hD hS => ?_)
      exact kx_vret (pc := 47) hx hb hr hlocks hK hP hD hS h dX7_tellParts_47
    · have h := h.2 c1
      refine lv_lload (pc := 13) hx hb dX7_tellParts_13 (lv_at hl 3 rfl) ?_
      refine lv_lload (pc := 15) hx hb dX7_tellParts_15 (lv_at hl 4 rfl) ?_
      obtain ⟨g6, h⟩ := h
      refine lv_lrem (pc := 17) hx hb dX7_tellParts_17 g6 ?_
      refine lv_lstore (pc := 18) (lv' := [(9, .long (x5 - x5 / x7 * x7)), (0, .ref (ad 0)), (1, .long x1), (3, .long x3), (5, .long x5), (7, .long x7)]) hx hb dX7_tellParts_18 hl (by decide) rfl (fun ls hl => ?_)
      refine lv_lload (pc := 20) hx hb dX7_tellParts_20 (lv_at hl 5 rfl) ?_
      refine lv_lstore (pc := 22) (lv' := [(5, .long x7), (9, .long (x5 - x5 / x7 * x7)), (0, .ref (ad 0)), (1, .long x1), (3, .long x3), (7, .long x7)]) hx hb dX7_tellParts_22 hl (by decide) rfl (fun ls hl => ?_)
      refine lv_lload (pc := 24) hx hb dX7_tellParts_24 (lv_at hl 1 rfl) ?_
      refine lv_lstore (pc := 26) (lv' := [(7, .long (x5 - x5 / x7 * x7)), (5, .long x7), (9, .long (x5 - x5 / x7 * x7)), (0, .ref (ad 0)), (1, .long x1), (3, .long x3)]) hx hb dX7_tellParts_26 hl (by decide) rfl (fun ls hl => ?_)
      refine lv_goto (pc := 28) (tgt := 6) hx hb dX7_tellParts_28 (by decide) ?_
      exact ih _ _ _ _ _ _ _ _ h hP hD hS (lv_sub hl [3, 4, 5, 1, 0] rfl)
def p7_tellParts (σ : kx_St) (x1 : Int64) (x3 : Int64) (Q : kx_St → Prop) : Prop := ∃ m6, p7_tellParts_L6 m6 σ x1 x3 x1 x3 Q
set_option maxHeartbeats 4000000 in
theorem q7_tellParts {σ : kx_St} {x1 : Int64} {x3 : Int64} {Q : kx_St → Prop} (h : p7_tellParts σ x1 x3 Q) : Met l yX7_tellParts (Cond.code yX7_tellParts cX7_tellParts 11 none :: kx_big) rm7_tellParts (va_Pc [.ref (ad 0), .long x1, .long x3] (kx_Wd D cy 1 ad A σ)) (kx_Qc kx_cv (fun u _ => Q u) (kx_Wd D cy 1 ad A) A) 0 0 A := by
  refine kx_head (plainFor_of_name (by decide)) (Nat.le_of_ble_eq_true rfl) ?_
  intro p e s m below meth c ls cx hP hD hS hl
  obtain ⟨hx, hb, hr, hlocks, hml, hown, hts, hK⟩ := id cx
  have hl : lv_has ls 11 [(0, .ref (ad 0)), (1, .long x1), (3, .long x3)] := hl
  refine lv_lload_n (pc := 0) hx hb dX7_tellParts_0 rfl (lv_at hl 1 rfl) ?_
  refine lv_lstore (pc := 1) (lv' := [(5, .long x1), (0, .ref (ad 0)), (1, .long x1), (3, .long x3)]) hx hb dX7_tellParts_1 hl (by decide) rfl (fun ls hl => ?_)
  refine lv_lload_n (pc := 3) hx hb dX7_tellParts_3 rfl (lv_at hl 3 rfl) ?_
  refine lv_lstore (pc := 4) (lv' := [(7, .long x3), (5, .long x1), (0, .ref (ad 0)), (1, .long x1), (3, .long x3)]) hx hb dX7_tellParts_4 hl (by decide) rfl (fun ls hl => ?_)
  obtain ⟨n0, h⟩ := h
  exact w7_tellParts_L6 cx  n0 _ _ _ _ _ _ _ _ h hP hD hS (lv_sub hl [2, 3, 4, 1, 0] rfl)
def p7_tellCalm_J156 (σ : kx_St) (x1 : Int32) (x2 : Int32) (x3 : Int32) (x4 : Int64) (x6 : Int64) (x8 : Int32) (x9 : Int32) (x11 : Int64) (x13 : Int32) (s0 : Int32) (s2 : Int32) (s3 : Int32) (s4 : Int32) (k75 : kx_St → Int32 → Int32 → Int32 → Int64 → Int64 → Int32 → Int32 → Int32 → Int64 → Int32 → Prop) (Q : kx_St → Int32 → Prop) : Prop := p7_paysIn σ s2 s3 s4 (fun r1 => k75 σ x1 x2 x3 x4 x6 x8 (x9 + (1 : Int32)) (s0 + r1) x11 (x13 + (1 : Int32)))
set_option maxHeartbeats 4000000 in
theorem w7_tellCalm_J156 {σ : kx_St} {x1 : Int32} {x2 : Int32} {x3 : Int32} {x4 : Int64} {x6 : Int64} {x8 : Int32} {x9 : Int32} {x11 : Int64} {x13 : Int32} {s0 : Int32} {s2 : Int32} {s3 : Int32} {s4 : Int32} {k75 : kx_St → Int32 → Int32 → Int32 → Int64 → Int64 → Int32 → Int32 → Int32 → Int64 → Int32 → Prop} {Q : kx_St → Int32 → Prop} {H : Heap} {locs : List Loc} {ls : Array Slot} (cx : kx_Cx p s m args meth c D cy RX7 cX7_tellCalm 14 (some .int)) (hk75 : ∀ (σ : kx_St) (x1 : Int32) (x2 : Int32) (x3 : Int32) (x4 : Int64) (x6 : Int64) (x8 : Int32) (x9 : Int32) (x10 : Int32) (x11 : Int64) (x13 : Int32) (H : Heap) (locs : List Loc) (ls : Array Slot), k75 σ x1 x2 x3 x4 x6 x8 x9 x10 x11 x13 → va_P D vwCl (kx_ws cy 1 ad σ) H → va_D A (kx_ws cy 1 ad σ) → va_S A s.heap H locs → lv_has ls 14 [(0, .ref (ad 0)), (1, .int x1), (2, .int x2), (3, .int x3), (4, .long x4), (6, .long x6), (8, .int x8), (9, .int x9), (10, .int x10), (11, .long x11), (13, .int x13)] → W p l e rm7_tellCalm s m args below meth c H locs 0 0 (MQ below (kx_Qc kx_ci Q (kx_Wd D cy 1 ad A) A) args s 0 0 A) (F0 m 75 ls []))  (h : p7_tellCalm_J156 σ x1 x2 x3 x4 x6 x8 x9 x11 x13 s0 s2 s3 s4 k75 Q) (hP : va_P D vwCl (kx_ws cy 1 ad σ) H) (hD : va_D A (kx_ws cy 1 ad σ)) (hS : va_S A s.heap H locs) (hl : lv_has ls 14 [(0, .ref (ad 0)), (1, .int x1), (2, .int x2), (3, .int x3), (4, .long x4), (6, .long x6), (8, .int x8), (9, .int x9), (11, .long x11), (13, .int x13)]) : W p l e rm7_tellCalm s m args below meth c H locs 0 0 (MQ below (kx_Qc kx_ci Q (kx_Wd D cy 1 ad A) A) args s 0 0 A) (F0 m 156 ls [.int s4, .int s3, .int s2, .ref (ad 0), .int s0]) := by
  obtain ⟨hx, hb, hr, hlocks, hml, hown, hts, hK⟩ := id cx
  refine kx_iVi (pc := 156) [.int s2, .int s3, .int s4] hx hb hml hown hts hK hP hD hS (q7_paysIn h) (cw7_167 hts ⟨Nat.le_of_ble_eq_true rfl, Nat.le_of_ble_eq_true rfl⟩) rfl (by decide) rfl rfl hl.1 rfl (Nat.le_of_ble_eq_true rfl) ⟨Nat.le_of_ble_eq_true rfl, Nat.le_of_ble_eq_true rfl⟩ dX7_tellCalm_156 (fun r1 u_ H locs hP hD hS h => ?_)
  obtain ⟨hu_, h⟩ := h
  rw [hu_] at hP hD
  refine lv_iadd (pc := 159) hx hb dX7_tellCalm_159 ?_
  refine lv_istore (pc := 160) (lv' := [(10, .int (s0 + r1)), (0, .ref (ad 0)), (1, .int x1), (2, .int x2), (3, .int x3), (4, .long x4), (6, .long x6), (8, .int x8), (9, .int x9), (11, .long x11), (13, .int x13)]) hx hb dX7_tellCalm_160 hl (by decide) rfl (fun ls hl => ?_)
  refine lv_iinc (pc := 162) (v := (x9 + (1 : Int32))) (lv' := [(9, .int (x9 + (1 : Int32))), (10, .int (s0 + r1)), (0, .ref (ad 0)), (1, .int x1), (2, .int x2), (3, .int x3), (4, .long x4), (6, .long x6), (8, .int x8), (11, .long x11), (13, .int x13)]) hx hb dX7_tellCalm_162 hl (k := 8) rfl rfl (by decide) rfl (fun ls hl => ?_)
  refine lv_iinc (pc := 165) (v := (x13 + (1 : Int32))) (lv' := [(13, .int (x13 + (1 : Int32))), (9, .int (x9 + (1 : Int32))), (10, .int (s0 + r1)), (0, .ref (ad 0)), (1, .int x1), (2, .int x2), (3, .int x3), (4, .long x4), (6, .long x6), (8, .int x8), (11, .long x11)]) hx hb dX7_tellCalm_165 hl (k := 10) rfl rfl (by decide) rfl (fun ls hl => ?_)
  refine lv_goto (pc := 168) (tgt := 75) hx hb dX7_tellCalm_168 (by decide) ?_
  exact hk75 _ _ _ _ _ _ _ _ _ _ _ _ _ _ h hP hD hS (lv_sub hl [3, 4, 5, 6, 7, 8, 9, 1, 2, 10, 0] rfl)
def p7_tellCalm_J120 (σ : kx_St) (x1 : Int32) (x2 : Int32) (x3 : Int32) (x4 : Int64) (x6 : Int64) (x8 : Int32) (x9 : Int32) (x10 : Int32) (x13 : Int32) (s0 : Int64) (s1 : Int64) (k75 : kx_St → Int32 → Int32 → Int32 → Int64 → Int64 → Int32 → Int32 → Int32 → Int64 → Int32 → Prop) (Q : kx_St → Int32 → Prop) : Prop := p7_has x8 x9 (fun r1 => (r1 = 0 → p7_windAt σ ((σ.1 1 (1 : Int32).toNatClampNeg) + x9) (fun r3 => p7_tellCalm_J156 σ x1 x2 x3 x4 x6 x8 x9 (s0 * s1) x13 x10 (0 : Int32) x13 r3 k75 Q)) ∧ (¬ r1 = 0 → p7_tellCalm_J156 σ x1 x2 x3 x4 x6 x8 x9 (s0 * s1) x13 x10 (0 : Int32) x13 (0 : Int32) k75 Q))
set_option maxHeartbeats 4000000 in
theorem w7_tellCalm_J120 {σ : kx_St} {x1 : Int32} {x2 : Int32} {x3 : Int32} {x4 : Int64} {x6 : Int64} {x8 : Int32} {x9 : Int32} {x10 : Int32} {x13 : Int32} {s0 : Int64} {s1 : Int64} {k75 : kx_St → Int32 → Int32 → Int32 → Int64 → Int64 → Int32 → Int32 → Int32 → Int64 → Int32 → Prop} {Q : kx_St → Int32 → Prop} {H : Heap} {locs : List Loc} {ls : Array Slot} (cx : kx_Cx p s m args meth c D cy RX7 cX7_tellCalm 14 (some .int)) (hk75 : ∀ (σ : kx_St) (x1 : Int32) (x2 : Int32) (x3 : Int32) (x4 : Int64) (x6 : Int64) (x8 : Int32) (x9 : Int32) (x10 : Int32) (x11 : Int64) (x13 : Int32) (H : Heap) (locs : List Loc) (ls : Array Slot), k75 σ x1 x2 x3 x4 x6 x8 x9 x10 x11 x13 → va_P D vwCl (kx_ws cy 1 ad σ) H → va_D A (kx_ws cy 1 ad σ) → va_S A s.heap H locs → lv_has ls 14 [(0, .ref (ad 0)), (1, .int x1), (2, .int x2), (3, .int x3), (4, .long x4), (6, .long x6), (8, .int x8), (9, .int x9), (10, .int x10), (11, .long x11), (13, .int x13)] → W p l e rm7_tellCalm s m args below meth c H locs 0 0 (MQ below (kx_Qc kx_ci Q (kx_Wd D cy 1 ad A) A) args s 0 0 A) (F0 m 75 ls []))  (h : p7_tellCalm_J120 σ x1 x2 x3 x4 x6 x8 x9 x10 x13 s0 s1 k75 Q) (hP : va_P D vwCl (kx_ws cy 1 ad σ) H) (hD : va_D A (kx_ws cy 1 ad σ)) (hS : va_S A s.heap H locs) (hl : lv_has ls 14 [(0, .ref (ad 0)), (1, .int x1), (2, .int x2), (3, .int x3), (4, .long x4), (6, .long x6), (8, .int x8), (9, .int x9), (10, .int x10), (13, .int x13)]) : W p l e rm7_tellCalm s m args below meth c H locs 0 0 (MQ below (kx_Qc kx_ci Q (kx_Wd D cy 1 ad A) A) args s 0 0 A) (F0 m 120 ls [.long s1, .long s0]) := by
  obtain ⟨hx, hb, hr, hlocks, hml, hown, hts, hK⟩ := id cx
  refine lv_lmul (pc := 120) hx hb dX7_tellCalm_120 ?_
  refine lv_lstore (pc := 121) (lv' := [(11, .long (s0 * s1)), (0, .ref (ad 0)), (1, .int x1), (2, .int x2), (3, .int x3), (4, .long x4), (6, .long x6), (8, .int x8), (9, .int x9), (10, .int x10), (13, .int x13)]) hx hb dX7_tellCalm_121 hl (by decide) rfl (fun ls hl => ?_)
  refine lv_iload (pc := 123) hx hb dX7_tellCalm_123 (lv_at hl 9 rfl) ?_
  refine lv_aload_n (pc := 125) hx hb dX7_tellCalm_125 rfl (lv_at hl 1 rfl) ?_
  refine lv_iconst (pc := 126) (v := (0 : Int32)) hx hb dX7_tellCalm_126 (by decide) ?_
  refine lv_iload (pc := 127) hx hb dX7_tellCalm_127 (lv_at hl 10 rfl) ?_
  refine lv_iload (pc := 129) hx hb dX7_tellCalm_129 (lv_at hl 7 rfl) ?_
  refine lv_iload (pc := 131) hx hb dX7_tellCalm_131 (lv_at hl 8 rfl) ?_
  refine kx_iSi (pc := 133) [.int x8, .int x9] hx hb hml hown hts hK hP hD hS (q7_has h) (cw7_170 hts ⟨Nat.le_of_ble_eq_true rfl, Nat.le_of_ble_eq_true rfl⟩) rfl hl.1 rfl (Nat.le_of_ble_eq_true rfl) ⟨Nat.le_of_ble_eq_true rfl, Nat.le_of_ble_eq_true rfl⟩ dX7_tellCalm_133 (fun r1 u_ H locs hP hD hS h => ?_)
  obtain ⟨hu_, h⟩ := h
  rw [hu_] at hP hD
  refine lv_if_eq (pc := 136) (tgt := 143) hx hb dX7_tellCalm_136 (by decide) (fun c2 => ?_) (fun c2 => ?_)
  · have h := h.1 c2
    refine lv_aload_n (pc := 143) hx hb dX7_tellCalm_143 rfl (lv_at hl 1 rfl) ?_
    refine lv_aload_n (pc := 144) hx hb dX7_tellCalm_144 rfl (lv_at hl 1 rfl) ?_
    refine fg7_7 (pc := 145) (b := 1) hx hb hown hts hK hP rfl rfl dX7_tellCalm_145 ?_
    refine lv_iconst (pc := 148) (v := (1 : Int32)) hx hb dX7_tellCalm_148 (by decide) ?_
    refine kx_iald (pc := 149) hx hb hK hP rfl (by unfold vp_in; decide) dX7_tellCalm_149 ?_
    refine lv_iload (pc := 150) hx hb dX7_tellCalm_150 (lv_at hl 8 rfl) ?_
    refine lv_iadd (pc := 152) hx hb dX7_tellCalm_152 ?_
    refine kx_iVi (pc := 153) [.int ((σ.1 1 (1 : Int32).toNatClampNeg) + x9)] hx hb hml hown hts hK hP hD hS (q7_windAt h) (cw7_164 hts ⟨Nat.le_of_ble_eq_true rfl, Nat.le_of_ble_eq_true rfl⟩) rfl (by decide) rfl rfl hl.1 rfl (Nat.le_of_ble_eq_true rfl) ⟨Nat.le_of_ble_eq_true rfl, Nat.le_of_ble_eq_true rfl⟩ dX7_tellCalm_153 (fun r3 u_ H locs hP hD hS h => ?_)
    obtain ⟨hu_, h⟩ := h
    rw [hu_] at hP hD
    exact w7_tellCalm_J156 cx hk75 h hP hD hS (lv_sub hl [1, 2, 3, 4, 5, 6, 7, 8, 0, 10] rfl)
  · have h := h.2 c2
    refine lv_iconst (pc := 139) (v := (0 : Int32)) hx hb dX7_tellCalm_139 (by decide) ?_
    refine lv_goto (pc := 140) (tgt := 156) hx hb dX7_tellCalm_140 (by decide) ?_
    exact w7_tellCalm_J156 cx hk75 h hP hD hS (lv_sub hl [1, 2, 3, 4, 5, 6, 7, 8, 0, 10] rfl)
def p7_tellCalm_L75 : Nat → kx_St → Int32 → Int32 → Int32 → Int64 → Int64 → Int32 → Int32 → Int32 → Int64 → Int32 → (kx_St → Int32 → Int32 → Int32 → Int64 → Int64 → Int32 → Prop) → (kx_St → Int32 → Prop) → Prop
  | 0, _, _, _, _, _, _, _, _, _, _, _, _, _ => False
  | n + 1, σ, x1, x2, x3, x4, x6, x8, x9, x10, x11, x13, k51, Q => ((σ.1 0 3) ≤ x13 → (x2 = 0 → (x10 < (σ.1 0 2) → k51 σ x1 x2 x3 (x4 + (0 : Int64)) (x6 + x11) (x8 + (1 : Int32))) ∧ (¬ x10 < (σ.1 0 2) → k51 σ x1 x2 x3 (x4 + x11) (x6 + x11) (x8 + (1 : Int32)))) ∧ (¬ x2 = 0 → k51 σ x1 x2 x3 (x4 + (x11 * (x10.toInt64))) (x6 + x11) (x8 + (1 : Int32)))) ∧ (¬ (σ.1 0 3) ≤ x13 → p7_has (σ.1 1 (2 : Int32).toNatClampNeg) x13 (fun r4 => (¬ r4 = 0 → p7_tellCalm_L75 n σ x1 x2 x3 x4 x6 x8 x9 x10 x11 (x13 + (1 : Int32)) k51 Q) ∧ (r4 = 0 → p7_has x8 x9 (fun r6 => (r6 = 0 → p7_tellCalm_J120 σ x1 x2 x3 x4 x6 x8 x9 x10 x13 x11 (((12 : Int32) - x1).toInt64) (fun σ x1 x2 x3 x4 x6 x8 x9 x10 x11 x13 => p7_tellCalm_L75 n σ x1 x2 x3 x4 x6 x8 x9 x10 x11 x13 k51 Q) Q) ∧ (¬ r6 = 0 → p7_tellCalm_J120 σ x1 x2 x3 x4 x6 x8 x9 x10 x13 x11 (x1.toInt64) (fun σ x1 x2 x3 x4 x6 x8 x9 x10 x11 x13 => p7_tellCalm_L75 n σ x1 x2 x3 x4 x6 x8 x9 x10 x11 x13 k51 Q) Q)))))
set_option maxHeartbeats 4000000 in
theorem w7_tellCalm_L75 {k51 : kx_St → Int32 → Int32 → Int32 → Int64 → Int64 → Int32 → Prop} {Q : kx_St → Int32 → Prop} (cx : kx_Cx p s m args meth c D cy RX7 cX7_tellCalm 14 (some .int)) (hk51 : ∀ (σ : kx_St) (x1 : Int32) (x2 : Int32) (x3 : Int32) (x4 : Int64) (x6 : Int64) (x8 : Int32) (H : Heap) (locs : List Loc) (ls : Array Slot), k51 σ x1 x2 x3 x4 x6 x8 → va_P D vwCl (kx_ws cy 1 ad σ) H → va_D A (kx_ws cy 1 ad σ) → va_S A s.heap H locs → lv_has ls 14 [(0, .ref (ad 0)), (1, .int x1), (2, .int x2), (3, .int x3), (4, .long x4), (6, .long x6), (8, .int x8)] → W p l e rm7_tellCalm s m args below meth c H locs 0 0 (MQ below (kx_Qc kx_ci Q (kx_Wd D cy 1 ad A) A) args s 0 0 A) (F0 m 51 ls [])) : ∀ (n : Nat) (σ : kx_St) (x1 : Int32) (x2 : Int32) (x3 : Int32) (x4 : Int64) (x6 : Int64) (x8 : Int32) (x9 : Int32) (x10 : Int32) (x11 : Int64) (x13 : Int32) (H : Heap) (locs : List Loc) (ls : Array Slot), p7_tellCalm_L75 n σ x1 x2 x3 x4 x6 x8 x9 x10 x11 x13 k51 Q → va_P D vwCl (kx_ws cy 1 ad σ) H → va_D A (kx_ws cy 1 ad σ) → va_S A s.heap H locs → lv_has ls 14 [(0, .ref (ad 0)), (1, .int x1), (2, .int x2), (3, .int x3), (4, .long x4), (6, .long x6), (8, .int x8), (9, .int x9), (10, .int x10), (11, .long x11), (13, .int x13)] → W p l e rm7_tellCalm s m args below meth c H locs 0 0 (MQ below (kx_Qc kx_ci Q (kx_Wd D cy 1 ad A) A) args s 0 0 A) (F0 m 75 ls []) := by
  obtain ⟨hx, hb, hr, hlocks, hml, hown, hts, hK⟩ := id cx
  intro n
  induction n with
  | zero => intro _ _ _ _ _ _ _ _ _ _ _ _ _ _ h; exact False.elim h
  | succ n ih =>
    intro σ x1 x2 x3 x4 x6 x8 x9 x10 x11 x13 H locs ls h hP hD hS hl
    refine lv_iload (pc := 75) hx hb dX7_tellCalm_75 (lv_at hl 10 rfl) ?_
    refine lv_aload_n (pc := 77) hx hb dX7_tellCalm_77 rfl (lv_at hl 0 rfl) ?_
    refine fg7_150 (pc := 78) hx hb hown hts hK hP rfl dX7_tellCalm_78 ?_
    refine lv_icmp_ge (pc := 81) (tgt := 171) hx hb dX7_tellCalm_81 (by decide) (fun c1 => ?_) (fun c1 => ?_)
    · have h := h.1 c1
      refine lv_lload (pc := 171) hx hb dX7_tellCalm_171 (lv_at hl 4 rfl) ?_
      refine lv_iload_n (pc := 173) hx hb dX7_tellCalm_173 rfl (lv_at hl 2 rfl) ?_
      refine lv_if_eq (pc := 174) (tgt := 186) hx hb dX7_tellCalm_174 (by decide) (fun c2 => ?_) (fun c2 => ?_)
      · have h := h.1 c2
        refine lv_iload (pc := 186) hx hb dX7_tellCalm_186 (lv_at hl 8 rfl) ?_
        refine lv_aload_n (pc := 188) hx hb dX7_tellCalm_188 rfl (lv_at hl 0 rfl) ?_
        refine fg7_147 (pc := 189) hx hb hown hts hK hP rfl dX7_tellCalm_189 ?_
        refine lv_icmp_lt (pc := 192) (tgt := 200) hx hb dX7_tellCalm_192 (by decide) (fun c3 => ?_) (fun c3 => ?_)
        · have h := h.1 c3
          refine lv_lconst (pc := 200) (v := (0 : Int64)) hx hb dX7_tellCalm_200 (by decide) ?_
          refine lv_ladd (pc := 201) hx hb dX7_tellCalm_201 ?_
          refine lv_lstore (pc := 202) (lv' := [(4, .long (x4 + (0 : Int64))), (0, .ref (ad 0)), (1, .int x1), (2, .int x2), (3, .int x3), (6, .long x6), (8, .int x8), (9, .int x9), (10, .int x10), (11, .long x11), (13, .int x13)]) hx hb dX7_tellCalm_202 hl (by decide) rfl (fun ls hl => ?_)
          refine lv_lload (pc := 204) hx hb dX7_tellCalm_204 (lv_at hl 5 rfl) ?_
          refine lv_lload (pc := 206) hx hb dX7_tellCalm_206 (lv_at hl 9 rfl) ?_
          refine lv_ladd (pc := 208) hx hb dX7_tellCalm_208 ?_
          refine lv_lstore (pc := 209) (lv' := [(6, .long (x6 + x11)), (4, .long (x4 + (0 : Int64))), (0, .ref (ad 0)), (1, .int x1), (2, .int x2), (3, .int x3), (8, .int x8), (9, .int x9), (10, .int x10), (11, .long x11), (13, .int x13)]) hx hb dX7_tellCalm_209 hl (by decide) rfl (fun ls hl => ?_)
          refine lv_iinc (pc := 211) (v := (x8 + (1 : Int32))) (lv' := [(8, .int (x8 + (1 : Int32))), (6, .long (x6 + x11)), (4, .long (x4 + (0 : Int64))), (0, .ref (ad 0)), (1, .int x1), (2, .int x2), (3, .int x3), (9, .int x9), (10, .int x10), (11, .long x11), (13, .int x13)]) hx hb dX7_tellCalm_211 hl (k := 6) rfl rfl (by decide) rfl (fun ls hl => ?_)
          refine lv_goto (pc := 214) (tgt := 51) hx hb dX7_tellCalm_214 (by decide) ?_
          exact hk51 _ _ _ _ _ _ _ _ _ _ h hP hD hS (lv_sub hl [3, 4, 5, 6, 2, 1, 0] rfl)
        · have h := h.2 c3
          refine lv_lload (pc := 195) hx hb dX7_tellCalm_195 (lv_at hl 9 rfl) ?_
          refine lv_goto (pc := 197) (tgt := 201) hx hb dX7_tellCalm_197 (by decide) ?_
          refine lv_ladd (pc := 201) hx hb dX7_tellCalm_201 ?_
          refine lv_lstore (pc := 202) (lv' := [(4, .long (x4 + x11)), (0, .ref (ad 0)), (1, .int x1), (2, .int x2), (3, .int x3), (6, .long x6), (8, .int x8), (9, .int x9), (10, .int x10), (11, .long x11), (13, .int x13)]) hx hb dX7_tellCalm_202 hl (by decide) rfl (fun ls hl => ?_)
          refine lv_lload (pc := 204) hx hb dX7_tellCalm_204 (lv_at hl 5 rfl) ?_
          refine lv_lload (pc := 206) hx hb dX7_tellCalm_206 (lv_at hl 9 rfl) ?_
          refine lv_ladd (pc := 208) hx hb dX7_tellCalm_208 ?_
          refine lv_lstore (pc := 209) (lv' := [(6, .long (x6 + x11)), (4, .long (x4 + x11)), (0, .ref (ad 0)), (1, .int x1), (2, .int x2), (3, .int x3), (8, .int x8), (9, .int x9), (10, .int x10), (11, .long x11), (13, .int x13)]) hx hb dX7_tellCalm_209 hl (by decide) rfl (fun ls hl => ?_)
          refine lv_iinc (pc := 211) (v := (x8 + (1 : Int32))) (lv' := [(8, .int (x8 + (1 : Int32))), (6, .long (x6 + x11)), (4, .long (x4 + x11)), (0, .ref (ad 0)), (1, .int x1), (2, .int x2), (3, .int x3), (9, .int x9), (10, .int x10), (11, .long x11), (13, .int x13)]) hx hb dX7_tellCalm_211 hl (k := 6) rfl rfl (by decide) rfl (fun ls hl => ?_)
          refine lv_goto (pc := 214) (tgt := 51) hx hb dX7_tellCalm_214 (by decide) ?_
          exact hk51 _ _ _ _ _ _ _ _ _ _ h hP hD hS (lv_sub hl [3, 4, 5, 6, 2, 1, 0] rfl)
      · have h := h.2 c2
        refine lv_lload (pc := 177) hx hb dX7_tellCalm_177 (lv_at hl 9 rfl) ?_
        refine lv_iload (pc := 179) hx hb dX7_tellCalm_179 (lv_at hl 8 rfl) ?_
        refine lv_i2l (pc := 181) (v := (x10.toInt64)) hx hb dX7_tellCalm_181 rfl ?_
        refine lv_lmul (pc := 182) hx hb dX7_tellCalm_182 ?_
        refine lv_goto (pc := 183) (tgt := 201) hx hb dX7_tellCalm_183 (by decide) ?_
        refine lv_ladd (pc := 201) hx hb dX7_tellCalm_201 ?_
        refine lv_lstore (pc := 202) (lv' := [(4, .long (x4 + (x11 * (x10.toInt64)))), (0, .ref (ad 0)), (1, .int x1), (2, .int x2), (3, .int x3), (6, .long x6), (8, .int x8), (9, .int x9), (10, .int x10), (11, .long x11), (13, .int x13)]) hx hb dX7_tellCalm_202 hl (by decide) rfl (fun ls hl => ?_)
        refine lv_lload (pc := 204) hx hb dX7_tellCalm_204 (lv_at hl 5 rfl) ?_
        refine lv_lload (pc := 206) hx hb dX7_tellCalm_206 (lv_at hl 9 rfl) ?_
        refine lv_ladd (pc := 208) hx hb dX7_tellCalm_208 ?_
        refine lv_lstore (pc := 209) (lv' := [(6, .long (x6 + x11)), (4, .long (x4 + (x11 * (x10.toInt64)))), (0, .ref (ad 0)), (1, .int x1), (2, .int x2), (3, .int x3), (8, .int x8), (9, .int x9), (10, .int x10), (11, .long x11), (13, .int x13)]) hx hb dX7_tellCalm_209 hl (by decide) rfl (fun ls hl => ?_)
        refine lv_iinc (pc := 211) (v := (x8 + (1 : Int32))) (lv' := [(8, .int (x8 + (1 : Int32))), (6, .long (x6 + x11)), (4, .long (x4 + (x11 * (x10.toInt64)))), (0, .ref (ad 0)), (1, .int x1), (2, .int x2), (3, .int x3), (9, .int x9), (10, .int x10), (11, .long x11), (13, .int x13)]) hx hb dX7_tellCalm_211 hl (k := 6) rfl rfl (by decide) rfl (fun ls hl => ?_)
        refine lv_goto (pc := 214) (tgt := 51) hx hb dX7_tellCalm_214 (by decide) ?_
        exact hk51 _ _ _ _ _ _ _ _ _ _ h hP hD hS (lv_sub hl [3, 4, 5, 6, 2, 1, 0] rfl)
    · have h := h.2 c1
      refine lv_aload_n (pc := 84) hx hb dX7_tellCalm_84 rfl (lv_at hl 0 rfl) ?_
      refine fg7_7 (pc := 85) (b := 1) hx hb hown hts hK hP rfl rfl dX7_tellCalm_85 ?_
      refine lv_iconst (pc := 88) (v := (2 : Int32)) hx hb dX7_tellCalm_88 (by decide) ?_
      refine kx_iald (pc := 89) hx hb hK hP rfl (by unfold vp_in; decide) dX7_tellCalm_89 ?_
      refine lv_iload (pc := 90) hx hb dX7_tellCalm_90 (lv_at hl 10 rfl) ?_
      refine kx_iSi (pc := 92) [.int (σ.1 1 (2 : Int32).toNatClampNeg), .int x13] hx hb hml hown hts hK hP hD hS (q7_has h) (cw7_170 hts ⟨Nat.le_of_ble_eq_true rfl, Nat.le_of_ble_eq_true rfl⟩) rfl hl.1 rfl (Nat.le_of_ble_eq_true rfl) ⟨Nat.le_of_ble_eq_true rfl, Nat.le_of_ble_eq_true rfl⟩ dX7_tellCalm_92 (fun r4 u_ H locs hP hD hS h => ?_)
      obtain ⟨hu_, h⟩ := h
      rw [hu_] at hP hD
      refine lv_if_ne (pc := 95) (tgt := 165) hx hb dX7_tellCalm_95 (by decide) (fun c5 => ?_) (fun c5 => ?_)
      · have h := h.1 c5
        refine lv_iinc (pc := 165) (v := (x13 + (1 : Int32))) (lv' := [(13, .int (x13 + (1 : Int32))), (0, .ref (ad 0)), (1, .int x1), (2, .int x2), (3, .int x3), (4, .long x4), (6, .long x6), (8, .int x8), (9, .int x9), (10, .int x10), (11, .long x11)]) hx hb dX7_tellCalm_165 hl (k := 10) rfl rfl (by decide) rfl (fun ls hl => ?_)
        refine lv_goto (pc := 168) (tgt := 75) hx hb dX7_tellCalm_168 (by decide) ?_
        exact ih _ _ _ _ _ _ _ _ _ _ _ _ _ _ h hP hD hS (lv_sub hl [1, 2, 3, 4, 5, 6, 7, 8, 9, 10, 0] rfl)
      · have h := h.2 c5
        refine lv_lload (pc := 98) hx hb dX7_tellCalm_98 (lv_at hl 9 rfl) ?_
        refine lv_iload (pc := 100) hx hb dX7_tellCalm_100 (lv_at hl 6 rfl) ?_
        refine lv_iload (pc := 102) hx hb dX7_tellCalm_102 (lv_at hl 7 rfl) ?_
        refine kx_iSi (pc := 104) [.int x8, .int x9] hx hb hml hown hts hK hP hD hS (q7_has h) (cw7_170 hts ⟨Nat.le_of_ble_eq_true rfl, Nat.le_of_ble_eq_true rfl⟩) rfl hl.1 rfl (Nat.le_of_ble_eq_true rfl) ⟨Nat.le_of_ble_eq_true rfl, Nat.le_of_ble_eq_true rfl⟩ dX7_tellCalm_104 (fun r6 u_ H locs hP hD hS h => ?_)
        obtain ⟨hu_, h⟩ := h
        rw [hu_] at hP hD
        refine lv_if_eq (pc := 107) (tgt := 115) hx hb dX7_tellCalm_107 (by decide) (fun c7 => ?_) (fun c7 => ?_)
        · have h := h.1 c7
          refine lv_bipush (pc := 115) (v := (12 : Int32)) hx hb dX7_tellCalm_115 (by decide) ?_
          refine lv_iload_n (pc := 117) hx hb dX7_tellCalm_117 rfl (lv_at hl 1 rfl) ?_
          refine lv_isub (pc := 118) hx hb dX7_tellCalm_118 ?_
          refine lv_i2l (pc := 119) (v := (((12 : Int32) - x1).toInt64)) hx hb dX7_tellCalm_119 rfl ?_
          have hc8 : ∀ (σ : kx_St) (x1 : Int32) (x2 : Int32) (x3 : Int32) (x4 : Int64) (x6 : Int64) (x8 : Int32) (x9 : Int32) (x10 : Int32) (x11 : Int64) (x13 : Int32) (H : Heap) (locs : List Loc) (ls : Array Slot), (fun σ x1 x2 x3 x4 x6 x8 x9 x10 x11 x13 => p7_tellCalm_L75 n σ x1 x2 x3 x4 x6 x8 x9 x10 x11 x13 k51 Q) σ x1 x2 x3 x4 x6 x8 x9 x10 x11 x13 → va_P D vwCl (kx_ws cy 1 ad σ) H → va_D A (kx_ws cy 1 ad σ) → va_S A s.heap H locs → lv_has ls 14 [(0, .ref (ad 0)), (1, .int x1), (2, .int x2), (3, .int x3), (4, .long x4), (6, .long x6), (8, .int x8), (9, .int x9), (10, .int x10), (11, .long x11), (13, .int x13)] → W p l e rm7_tellCalm s m args below meth c H locs 0 0 (MQ below (kx_Qc kx_ci Q (kx_Wd D cy 1 ad A) A) args s 0 0 A) (F0 m 75 ls []) := fun σ x1 x2 x3 x4 x6 x8 x9 x10 x11 x13 H locs ls h hP hD hS hl => ih _ _ _ _ _ _ _ _ _ _ _ _ _ _ h hP hD hS hl
          exact w7_tellCalm_J120 cx hc8 h hP hD hS (lv_sub hl [0, 1, 2, 3, 4, 5, 6, 7, 8, 10] rfl)
        · have h := h.2 c7
          refine lv_iload_n (pc := 110) hx hb dX7_tellCalm_110 rfl (lv_at hl 1 rfl) ?_
          refine lv_i2l (pc := 111) (v := (x1.toInt64)) hx hb dX7_tellCalm_111 rfl ?_
          refine lv_goto (pc := 112) (tgt := 120) hx hb dX7_tellCalm_112 (by decide) ?_
          have hc9 : ∀ (σ : kx_St) (x1 : Int32) (x2 : Int32) (x3 : Int32) (x4 : Int64) (x6 : Int64) (x8 : Int32) (x9 : Int32) (x10 : Int32) (x11 : Int64) (x13 : Int32) (H : Heap) (locs : List Loc) (ls : Array Slot), (fun σ x1 x2 x3 x4 x6 x8 x9 x10 x11 x13 => p7_tellCalm_L75 n σ x1 x2 x3 x4 x6 x8 x9 x10 x11 x13 k51 Q) σ x1 x2 x3 x4 x6 x8 x9 x10 x11 x13 → va_P D vwCl (kx_ws cy 1 ad σ) H → va_D A (kx_ws cy 1 ad σ) → va_S A s.heap H locs → lv_has ls 14 [(0, .ref (ad 0)), (1, .int x1), (2, .int x2), (3, .int x3), (4, .long x4), (6, .long x6), (8, .int x8), (9, .int x9), (10, .int x10), (11, .long x11), (13, .int x13)] → W p l e rm7_tellCalm s m args below meth c H locs 0 0 (MQ below (kx_Qc kx_ci Q (kx_Wd D cy 1 ad A) A) args s 0 0 A) (F0 m 75 ls []) := fun σ x1 x2 x3 x4 x6 x8 x9 x10 x11 x13 H locs ls h hP hD hS hl => ih _ _ _ _ _ _ _ _ _ _ _ _ _ _ h hP hD hS hl
          exact w7_tellCalm_J120 cx hc9 h hP hD hS (lv_sub hl [0, 1, 2, 3, 4, 5, 6, 7, 8, 10] rfl)
def p7_tellCalm_L51 : Nat → kx_St → Int32 → Int32 → Int32 → Int64 → Int64 → Int32 → (kx_St → Int32 → Prop) → Prop
  | 0, _, _, _, _, _, _, _, _ => False
  | n + 1, σ, x1, x2, x3, x4, x6, x8, Q => (((1 : Int32) <<< (x3 &&& 31)) ≤ x8 → p7_tellParts σ x4 x6 (fun σ3 => Q σ3 (1 : Int32))) ∧ (¬ ((1 : Int32) <<< (x3 &&& 31)) ≤ x8 → p7_paidIn σ (0 : Int32) (fun r4 => ∃ m75, p7_tellCalm_L75 m75 σ x1 x2 x3 x4 x6 x8 (0 : Int32) r4 (1 : Int64) (0 : Int32) (fun σ x1 x2 x3 x4 x6 x8 => p7_tellCalm_L51 n σ x1 x2 x3 x4 x6 x8 Q) Q))
set_option maxHeartbeats 4000000 in
theorem w7_tellCalm_L51  {Q : kx_St → Int32 → Prop} (cx : kx_Cx p s m args meth c D cy RX7 cX7_tellCalm 14 (some .int))  : ∀ (n : Nat) (σ : kx_St) (x1 : Int32) (x2 : Int32) (x3 : Int32) (x4 : Int64) (x6 : Int64) (x8 : Int32) (H : Heap) (locs : List Loc) (ls : Array Slot), p7_tellCalm_L51 n σ x1 x2 x3 x4 x6 x8 Q → va_P D vwCl (kx_ws cy 1 ad σ) H → va_D A (kx_ws cy 1 ad σ) → va_S A s.heap H locs → lv_has ls 14 [(0, .ref (ad 0)), (1, .int x1), (2, .int x2), (3, .int x3), (4, .long x4), (6, .long x6), (8, .int x8)] → W p l e rm7_tellCalm s m args below meth c H locs 0 0 (MQ below (kx_Qc kx_ci Q (kx_Wd D cy 1 ad A) A) args s 0 0 A) (F0 m 51 ls []) := by
  obtain ⟨hx, hb, hr, hlocks, hml, hown, hts, hK⟩ := id cx
  intro n
  induction n with
  | zero => intro _ _ _ _ _ _ _ _ _ _ h; exact False.elim h
  | succ n ih =>
    intro σ x1 x2 x3 x4 x6 x8 H locs ls h hP hD hS hl
    refine lv_iload (pc := 51) hx hb dX7_tellCalm_51 (lv_at hl 6 rfl) ?_
    refine lv_iconst (pc := 53) (v := (1 : Int32)) hx hb dX7_tellCalm_53 (by decide) ?_
    refine lv_iload_n (pc := 54) hx hb dX7_tellCalm_54 rfl (lv_at hl 3 rfl) ?_
    refine lv_ishl (pc := 55) hx hb dX7_tellCalm_55 ?_
    refine lv_icmp_ge (pc := 56) (tgt := 217) hx hb dX7_tellCalm_56 (by decide) (fun c1 => ?_) (fun c1 => ?_)
    · have h := h.1 c1
      refine lv_aload_n (pc := 217) hx hb dX7_tellCalm_217 rfl (lv_at hl 0 rfl) ?_
      refine lv_lload (pc := 218) hx hb dX7_tellCalm_218 (lv_at hl 4 rfl) ?_
      refine lv_lload (pc := 220) hx hb dX7_tellCalm_220 (lv_at hl 5 rfl) ?_
      refine kx_iVv (pc := 222) [.long x4, .long x6] hx hb hml hown hts hK hP hD hS (q7_tellParts h) (cw7_264 hts ⟨Nat.le_of_ble_eq_true rfl, Nat.le_of_ble_eq_true rfl⟩) rfl (by decide) rfl rfl hl.1 rfl (Nat.le_of_ble_eq_true rfl) ⟨Nat.le_of_ble_eq_true rfl, Nat.le_of_ble_eq_true rfl⟩ dX7_tellCalm_222 (fun _ σ3 H locs hP hD hS h => ?_)
      refine lv_iconst (pc := 225) (v := (1 : Int32)) hx hb dX7_tellCalm_225 (by decide) ?_
      exact kx_iret (pc := 226) hx hb hr hlocks hK hP hD hS h dX7_tellCalm_226
    · have h := h.2 c1
      refine lv_iconst (pc := 59) (v := (0 : Int32)) hx hb dX7_tellCalm_59 (by decide) ?_
      refine lv_istore (pc := 60) (lv' := [(9, .int (0 : Int32)), (0, .ref (ad 0)), (1, .int x1), (2, .int x2), (3, .int x3), (4, .long x4), (6, .long x6), (8, .int x8)]) hx hb dX7_tellCalm_60 hl (by decide) rfl (fun ls hl => ?_)
      refine lv_aload_n (pc := 62) hx hb dX7_tellCalm_62 rfl (lv_at hl 1 rfl) ?_
      refine lv_iconst (pc := 63) (v := (0 : Int32)) hx hb dX7_tellCalm_63 (by decide) ?_
      refine kx_iVi (pc := 64) [.int (0 : Int32)] hx hb hml hown hts hK hP hD hS (q7_paidIn h) (cw7_224 hts ⟨Nat.le_of_ble_eq_true rfl, Nat.le_of_ble_eq_true rfl⟩) rfl (by decide) rfl rfl hl.1 rfl (Nat.le_of_ble_eq_true rfl) ⟨Nat.le_of_ble_eq_true rfl, Nat.le_of_ble_eq_true rfl⟩ dX7_tellCalm_64 (fun r4 u_ H locs hP hD hS h => ?_)
      obtain ⟨hu_, h⟩ := h
      rw [hu_] at hP hD
      refine lv_istore (pc := 67) (lv' := [(10, .int r4), (9, .int (0 : Int32)), (0, .ref (ad 0)), (1, .int x1), (2, .int x2), (3, .int x3), (4, .long x4), (6, .long x6), (8, .int x8)]) hx hb dX7_tellCalm_67 hl (by decide) rfl (fun ls hl => ?_)
      refine lv_lconst (pc := 69) (v := (1 : Int64)) hx hb dX7_tellCalm_69 (by decide) ?_
      refine lv_lstore (pc := 70) (lv' := [(11, .long (1 : Int64)), (10, .int r4), (9, .int (0 : Int32)), (0, .ref (ad 0)), (1, .int x1), (2, .int x2), (3, .int x3), (4, .long x4), (6, .long x6), (8, .int x8)]) hx hb dX7_tellCalm_70 hl (by decide) rfl (fun ls hl => ?_)
      refine lv_iconst (pc := 72) (v := (0 : Int32)) hx hb dX7_tellCalm_72 (by decide) ?_
      refine lv_istore (pc := 73) (lv' := [(13, .int (0 : Int32)), (11, .long (1 : Int64)), (10, .int r4), (9, .int (0 : Int32)), (0, .ref (ad 0)), (1, .int x1), (2, .int x2), (3, .int x3), (4, .long x4), (6, .long x6), (8, .int x8)]) hx hb dX7_tellCalm_73 hl (by decide) rfl (fun ls hl => ?_)
      have hc5 : ∀ (σ : kx_St) (x1 : Int32) (x2 : Int32) (x3 : Int32) (x4 : Int64) (x6 : Int64) (x8 : Int32) (H : Heap) (locs : List Loc) (ls : Array Slot), (fun σ x1 x2 x3 x4 x6 x8 => p7_tellCalm_L51 n σ x1 x2 x3 x4 x6 x8 Q) σ x1 x2 x3 x4 x6 x8 → va_P D vwCl (kx_ws cy 1 ad σ) H → va_D A (kx_ws cy 1 ad σ) → va_S A s.heap H locs → lv_has ls 14 [(0, .ref (ad 0)), (1, .int x1), (2, .int x2), (3, .int x3), (4, .long x4), (6, .long x6), (8, .int x8)] → W p l e rm7_tellCalm s m args below meth c H locs 0 0 (MQ below (kx_Qc kx_ci Q (kx_Wd D cy 1 ad A) A) args s 0 0 A) (F0 m 51 ls []) := fun σ x1 x2 x3 x4 x6 x8 H locs ls h hP hD hS hl => ih _ _ _ _ _ _ _ _ _ _ h hP hD hS hl
      obtain ⟨n0, h⟩ := h
      exact w7_tellCalm_L75 cx hc5 n0 _ _ _ _ _ _ _ _ _ _ _ _ _ _ h hP hD hS (lv_sub hl [4, 5, 6, 7, 8, 9, 10, 3, 2, 1, 0] rfl)
def p7_tellCalm_L5 : Nat → kx_St → Int32 → Int32 → Int32 → Int32 → (kx_St → Int32 → Prop) → Prop
  | 0, _, _, _, _, _, _ => False
  | n + 1, σ, x1, x2, x3, x4, Q => ((σ.1 0 3) ≤ x4 → ∃ m51, p7_tellCalm_L51 m51 σ x1 x2 x3 (0 : Int64) (0 : Int64) (0 : Int32) Q) ∧ (¬ (σ.1 0 3) ≤ x4 → p7_has (σ.1 1 (2 : Int32).toNatClampNeg) x4 (fun r2 => (r2 = 0 → p7_tellCalm_L5 n σ x1 x2 (x3 + (1 : Int32)) (x4 + (1 : Int32)) Q) ∧ (¬ r2 = 0 → p7_tellCalm_L5 n σ x1 x2 (x3 + (0 : Int32)) (x4 + (1 : Int32)) Q)))
set_option maxHeartbeats 4000000 in
theorem w7_tellCalm_L5  {Q : kx_St → Int32 → Prop} (cx : kx_Cx p s m args meth c D cy RX7 cX7_tellCalm 14 (some .int))  : ∀ (n : Nat) (σ : kx_St) (x1 : Int32) (x2 : Int32) (x3 : Int32) (x4 : Int32) (H : Heap) (locs : List Loc) (ls : Array Slot), p7_tellCalm_L5 n σ x1 x2 x3 x4 Q → va_P D vwCl (kx_ws cy 1 ad σ) H → va_D A (kx_ws cy 1 ad σ) → va_S A s.heap H locs → lv_has ls 14 [(0, .ref (ad 0)), (1, .int x1), (2, .int x2), (3, .int x3), (4, .int x4)] → W p l e rm7_tellCalm s m args below meth c H locs 0 0 (MQ below (kx_Qc kx_ci Q (kx_Wd D cy 1 ad A) A) args s 0 0 A) (F0 m 5 ls []) := by
  obtain ⟨hx, hb, hr, hlocks, hml, hown, hts, hK⟩ := id cx
  intro n
  induction n with
  | zero => intro _ _ _ _ _ _ _ _ h; exact False.elim h
  | succ n ih =>
    intro σ x1 x2 x3 x4 H locs ls h hP hD hS hl
    refine lv_iload (pc := 5) hx hb dX7_tellCalm_5 (lv_at hl 4 rfl) ?_
    refine lv_aload_n (pc := 7) hx hb dX7_tellCalm_7 rfl (lv_at hl 0 rfl) ?_
    refine fg7_150 (pc := 8) hx hb hown hts hK hP rfl dX7_tellCalm_8 ?_
    refine lv_icmp_ge (pc := 11) (tgt := 42) hx hb dX7_tellCalm_11 (by decide) (fun c1 => ?_) (fun c1 => ?_)
    · have h := h.1 c1
      refine lv_lconst (pc := 42) (v := (0 : Int64)) hx hb dX7_tellCalm_42 (by decide) ?_
      refine lv_lstore (pc := 43) (lv' := [(4, .long (0 : Int64)), (0, .ref (ad 0)), (1, .int x1), (2, .int x2), (3, .int x3)]) hx hb dX7_tellCalm_43 hl (by decide) rfl (fun ls hl => ?_)
      refine lv_lconst (pc := 45) (v := (0 : Int64)) hx hb dX7_tellCalm_45 (by decide) ?_
      refine lv_lstore (pc := 46) (lv' := [(6, .long (0 : Int64)), (4, .long (0 : Int64)), (0, .ref (ad 0)), (1, .int x1), (2, .int x2), (3, .int x3)]) hx hb dX7_tellCalm_46 hl (by decide) rfl (fun ls hl => ?_)
      refine lv_iconst (pc := 48) (v := (0 : Int32)) hx hb dX7_tellCalm_48 (by decide) ?_
      refine lv_istore (pc := 49) (lv' := [(8, .int (0 : Int32)), (6, .long (0 : Int64)), (4, .long (0 : Int64)), (0, .ref (ad 0)), (1, .int x1), (2, .int x2), (3, .int x3)]) hx hb dX7_tellCalm_49 hl (by decide) rfl (fun ls hl => ?_)
      obtain ⟨n0, h⟩ := h
      exact w7_tellCalm_L51 cx  n0 _ _ _ _ _ _ _ _ _ _ h hP hD hS (lv_sub hl [3, 4, 5, 6, 2, 1, 0] rfl)
    · have h := h.2 c1
      refine lv_iload_n (pc := 14) hx hb dX7_tellCalm_14 rfl (lv_at hl 3 rfl) ?_
      refine lv_aload_n (pc := 15) hx hb dX7_tellCalm_15 rfl (lv_at hl 0 rfl) ?_
      refine fg7_7 (pc := 16) (b := 1) hx hb hown hts hK hP rfl rfl dX7_tellCalm_16 ?_
      refine lv_iconst (pc := 19) (v := (2 : Int32)) hx hb dX7_tellCalm_19 (by decide) ?_
      refine kx_iald (pc := 20) hx hb hK hP rfl (by unfold vp_in; decide) dX7_tellCalm_20 ?_
      refine lv_iload (pc := 21) hx hb dX7_tellCalm_21 (lv_at hl 4 rfl) ?_
      refine kx_iSi (pc := 23) [.int (σ.1 1 (2 : Int32).toNatClampNeg), .int x4] hx hb hml hown hts hK hP hD hS (q7_has h) (cw7_170 hts ⟨Nat.le_of_ble_eq_true rfl, Nat.le_of_ble_eq_true rfl⟩) rfl hl.1 rfl (Nat.le_of_ble_eq_true rfl) ⟨Nat.le_of_ble_eq_true rfl, Nat.le_of_ble_eq_true rfl⟩ dX7_tellCalm_23 (fun r2 u_ H locs hP hD hS h => ?_)
      obtain ⟨hu_, h⟩ := h
      rw [hu_] at hP hD
      refine lv_if_eq (pc := 26) (tgt := 33) hx hb dX7_tellCalm_26 (by decide) (fun c3 => ?_) (fun c3 => ?_)
      · have h := h.1 c3
        refine lv_iconst (pc := 33) (v := (1 : Int32)) hx hb dX7_tellCalm_33 (by decide) ?_
        refine lv_iadd (pc := 34) hx hb dX7_tellCalm_34 ?_
        refine lv_istore_n (pc := 35) (lv' := [(3, .int (x3 + (1 : Int32))), (0, .ref (ad 0)), (1, .int x1), (2, .int x2), (4, .int x4)]) hx hb dX7_tellCalm_35 rfl hl (by decide) rfl (fun ls hl => ?_)
        refine lv_iinc (pc := 36) (v := (x4 + (1 : Int32))) (lv' := [(4, .int (x4 + (1 : Int32))), (3, .int (x3 + (1 : Int32))), (0, .ref (ad 0)), (1, .int x1), (2, .int x2)]) hx hb dX7_tellCalm_36 hl (k := 4) rfl rfl (by decide) rfl (fun ls hl => ?_)
        refine lv_goto (pc := 39) (tgt := 5) hx hb dX7_tellCalm_39 (by decide) ?_
        exact ih _ _ _ _ _ _ _ _ h hP hD hS (lv_sub hl [2, 3, 4, 1, 0] rfl)
      · have h := h.2 c3
        refine lv_iconst (pc := 29) (v := (0 : Int32)) hx hb dX7_tellCalm_29 (by decide) ?_
        refine lv_goto (pc := 30) (tgt := 34) hx hb dX7_tellCalm_30 (by decide) ?_
        refine lv_iadd (pc := 34) hx hb dX7_tellCalm_34 ?_
        refine lv_istore_n (pc := 35) (lv' := [(3, .int (x3 + (0 : Int32))), (0, .ref (ad 0)), (1, .int x1), (2, .int x2), (4, .int x4)]) hx hb dX7_tellCalm_35 rfl hl (by decide) rfl (fun ls hl => ?_)
        refine lv_iinc (pc := 36) (v := (x4 + (1 : Int32))) (lv' := [(4, .int (x4 + (1 : Int32))), (3, .int (x3 + (0 : Int32))), (0, .ref (ad 0)), (1, .int x1), (2, .int x2)]) hx hb dX7_tellCalm_36 hl (k := 4) rfl rfl (by decide) rfl (fun ls hl => ?_)
        refine lv_goto (pc := 39) (tgt := 5) hx hb dX7_tellCalm_39 (by decide) ?_
        exact ih _ _ _ _ _ _ _ _ h hP hD hS (lv_sub hl [2, 3, 4, 1, 0] rfl)
def p7_tellCalm (σ : kx_St) (x1 : Int32) (x2 : Int32) (Q : kx_St → Int32 → Prop) : Prop := ∃ m5, p7_tellCalm_L5 m5 σ x1 x2 (0 : Int32) (0 : Int32) Q
set_option maxHeartbeats 4000000 in
theorem q7_tellCalm {σ : kx_St} {x1 : Int32} {x2 : Int32} {Q : kx_St → Int32 → Prop} (h : p7_tellCalm σ x1 x2 Q) : Met l yX7_tellCalm (Cond.code yX7_tellCalm cX7_tellCalm 14 (some .int) :: kx_big) rm7_tellCalm (va_Pc [.ref (ad 0), .int x1, .int x2] (kx_Wd D cy 1 ad A σ)) (kx_Qc kx_ci Q (kx_Wd D cy 1 ad A) A) 0 0 A := by
  refine kx_head (plainFor_of_name (by decide)) (Nat.le_of_ble_eq_true rfl) ?_
  intro p e s m below meth c ls cx hP hD hS hl
  obtain ⟨hx, hb, hr, hlocks, hml, hown, hts, hK⟩ := id cx
  have hl : lv_has ls 14 [(0, .ref (ad 0)), (1, .int x1), (2, .int x2)] := hl
  refine lv_iconst (pc := 0) (v := (0 : Int32)) hx hb dX7_tellCalm_0 (by decide) ?_
  refine lv_istore_n (pc := 1) (lv' := [(3, .int (0 : Int32)), (0, .ref (ad 0)), (1, .int x1), (2, .int x2)]) hx hb dX7_tellCalm_1 rfl hl (by decide) rfl (fun ls hl => ?_)
  refine lv_iconst (pc := 2) (v := (0 : Int32)) hx hb dX7_tellCalm_2 (by decide) ?_
  refine lv_istore (pc := 3) (lv' := [(4, .int (0 : Int32)), (3, .int (0 : Int32)), (0, .ref (ad 0)), (1, .int x1), (2, .int x2)]) hx hb dX7_tellCalm_3 hl (by decide) rfl (fun ls hl => ?_)
  obtain ⟨n0, h⟩ := h
  exact w7_tellCalm_L5 cx  n0 _ _ _ _ _ _ _ _ h hP hD hS (lv_sub hl [2, 3, 4, 1, 0] rfl)
def p7_odds (σ : kx_St) (x1 : Int32) (Q : kx_St → Int32 → Prop) : Prop := p7_in (x1.toInt64) (0 : Int64) (12 : Int64) (fun r1 => (¬ r1 = 0 → (¬ (σ.1 0 3) = 0 → p7_tellCalm σ x1 (0 : Int32) (fun σ5 r4 => Q σ5 r4)) ∧ ((σ.1 0 3) = 0 → Q σ (-4 : Int32))) ∧ (r1 = 0 → Q σ (-1 : Int32)))
set_option maxHeartbeats 4000000 in
theorem q7_odds {σ : kx_St} {x1 : Int32} {Q : kx_St → Int32 → Prop} (h : p7_odds σ x1 Q) : Met l yX7_odds (Cond.code yX7_odds cX7_odds 2 (some .int) :: kx_big) rm7_odds (va_Pc [.ref (ad 0), .int x1] (kx_Wd D cy 1 ad A σ)) (kx_Qc kx_ci Q (kx_Wd D cy 1 ad A) A) 0 0 A := by
  refine kx_head (plainFor_of_name (by decide)) (Nat.le_of_ble_eq_true rfl) ?_
  intro p e s m below meth c ls cx hP hD hS hl
  obtain ⟨hx, hb, hr, hlocks, hml, hown, hts, hK⟩ := id cx
  have hl : lv_has ls 2 [(0, .ref (ad 0)), (1, .int x1)] := hl
  refine lv_iload_n (pc := 0) hx hb dX7_odds_0 rfl (lv_at hl 1 rfl) ?_
  refine lv_i2l (pc := 1) (v := (x1.toInt64)) hx hb dX7_odds_1 rfl ?_
  refine lv_lconst (pc := 2) (v := (0 : Int64)) hx hb dX7_odds_2 (by decide) ?_
  refine lv_ldc2 (pc := 3) (v := (12 : Int64)) hx hb hown (hts _ tb_1126) dX7_odds_3 ?_
  refine kx_iSi (pc := 6) [.long (x1.toInt64), .long (0 : Int64), .long (12 : Int64)] hx hb hml hown hts hK hP hD hS (q7_in h) (cw7_77 hts ⟨Nat.le_of_ble_eq_true rfl, Nat.le_of_ble_eq_true rfl⟩) rfl hl.1 rfl (Nat.le_of_ble_eq_true rfl) ⟨Nat.le_of_ble_eq_true rfl, Nat.le_of_ble_eq_true rfl⟩ dX7_odds_6 (fun r1 u_ H locs hP hD hS h => ?_)
  obtain ⟨hu_, h⟩ := h
  rw [hu_] at hP hD
  refine lv_if_ne (pc := 9) (tgt := 14) hx hb dX7_odds_9 (by decide) (fun c2 => ?_) (fun c2 => ?_)
  · have h := h.1 c2
    refine lv_aload_n (pc := 14) hx hb dX7_odds_14 rfl (lv_at hl 0 rfl) ?_
    refine fg7_150 (pc := 15) hx hb hown hts hK hP rfl dX7_odds_15 ?_
    refine lv_if_ne (pc := 18) (tgt := 26) hx hb dX7_odds_18 (by decide) (fun c3 => ?_) (fun c3 => ?_)
    · have h := h.1 c3
      refine lv_aload_n (pc := 26) hx hb dX7_odds_26 rfl (lv_at hl 0 rfl) ?_
      refine lv_iload_n (pc := 27) hx hb dX7_odds_27 rfl (lv_at hl 1 rfl) ?_
      refine lv_iconst (pc := 28) (v := (0 : Int32)) hx hb dX7_odds_28 (by decide) ?_
      refine kx_iVi (pc := 29) [.int x1, .int (0 : Int32)] hx hb hml hown hts hK hP hD hS (q7_tellCalm h) (cw7_270 hts ⟨Nat.le_of_ble_eq_true rfl, Nat.le_of_ble_eq_true rfl⟩) rfl (by decide) rfl rfl hl.1 rfl (Nat.le_of_ble_eq_true rfl) ⟨Nat.le_of_ble_eq_true rfl, Nat.le_of_ble_eq_true rfl⟩ dX7_odds_29 (fun r4 σ5 H locs hP hD hS h => ?_)
      exact kx_iret (pc := 32) hx hb hr hlocks hK hP hD hS h dX7_odds_32
    · have h := h.2 c3
      refine lv_bipush (pc := 21) (v := (-4 : Int32)) hx hb dX7_odds_21 (by decide) ?_
      refine lv_goto (pc := 23) (tgt := 32) hx hb dX7_odds_23 (by decide) ?_
      exact kx_iret (pc := 32) hx hb hr hlocks hK hP hD hS h dX7_odds_32
  · have h := h.2 c2
    refine lv_iconst (pc := 12) (v := (-1 : Int32)) hx hb dX7_odds_12 (by decide) ?_
    exact kx_iret (pc := 13) hx hb hr hlocks hK hP hD hS h dX7_odds_13
end
