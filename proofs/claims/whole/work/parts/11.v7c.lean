section
variable {p : Program} {l : Launch} {e : Env} {s : State} {m : MethodId} {args : Array Value} {below : List Frame} {meth : Method} {c : Code} {D : va_G} {cy : Nat → ClassId} {ad : Nat → Nat} {A : Nat → Prop}

def p7_layTried_L2 : Nat → kx_St → Int32 → (kx_St → Prop) → Prop
  | 0, _, _, _ => False
  | n + 1, σ, x1, Q => ((16 : Int32) ≤ x1 → Q σ) ∧ (¬ (16 : Int32) ≤ x1 → vp_in x1 2480 ∧ (vp_in ((2464 : Int32) + x1) 2480 ∧ ((fun σ4 : kx_St => p7_layTried_L2 n σ4 (x1 + (1 : Int32)) Q) (kx_sI σ 1 ((2464 : Int32) + x1).toNatClampNeg (σ.1 1 x1.toNatClampNeg)))))
set_option maxHeartbeats 4000000 in
theorem w7_layTried_L2  {Q : kx_St → Prop} (cx : kx_Cx p s m args meth c D cy RX7 cX7_layTried 2 none)  : ∀ (n : Nat) (σ : kx_St) (x1 : Int32) (H : Heap) (locs : List Loc) (ls : Array Slot), p7_layTried_L2 n σ x1 Q → va_P D vwCl (kx_ws cy 1 ad σ) H → va_D A (kx_ws cy 1 ad σ) → va_S A s.heap H locs → lv_has ls 2 [(0, .ref (ad 0)), (1, .int x1)] → W p l e rm7_layTried s m args below meth c H locs 0 0 (MQ below (kx_Qc kx_cv (fun u _ => Q u) (kx_Wd D cy 1 ad A) A) args s 0 0 A) (F0 m 2 ls []) := by
  obtain ⟨hx, hb, hr, hlocks, hml, hown, hts, hK⟩ := id cx
  intro n
  induction n with
  | zero => intro _ _ _ _ _ h; exact False.elim h
  | succ n ih =>
    intro σ x1 H locs ls h hP hD hS hl
    refine lv_iload_n (pc := 2) hx hb dX7_layTried_2 rfl (lv_at hl 1 rfl) ?_
    refine lv_bipush (pc := 3) (v := (16 : Int32)) hx hb dX7_layTried_3 (by decide) ?_
    refine lv_icmp_ge (pc := 5) (tgt := 30) hx hb dX7_layTried_5 (by decide) (fun c1 => ?_) (fun c1 => ?_)
    · have h := h.1 c1
      exact kx_vret (pc := 30) hx hb hr hlocks hK hP hD hS h dX7_layTried_30
    · have h := h.2 c1
      refine lv_aload_n (pc := 8) hx hb dX7_layTried_8 rfl (lv_at hl 0 rfl) ?_
      refine fg7_7 (pc := 9) (b := 1) hx hb hown hts hK hP rfl rfl dX7_layTried_9 ?_
      refine lv_sipush (pc := 12) (v := (2464 : Int32)) hx hb dX7_layTried_12 (by decide) ?_
      refine lv_iload_n (pc := 15) hx hb dX7_layTried_15 rfl (lv_at hl 1 rfl) ?_
      refine lv_iadd (pc := 16) hx hb dX7_layTried_16 ?_
      refine lv_aload_n (pc := 17) hx hb dX7_layTried_17 rfl (lv_at hl 0 rfl) ?_
      refine fg7_7 (pc := 18) (b := 1) hx hb hown hts hK hP rfl rfl dX7_layTried_18 ?_
      refine lv_iload_n (pc := 21) hx hb dX7_layTried_21 rfl (lv_at hl 1 rfl) ?_
      obtain ⟨g2, h⟩ := h
      refine kx_iald (pc := 22) hx hb hK hP rfl g2 dX7_layTried_22 ?_
      obtain ⟨g3, h⟩ := h
      refine kx_iast (pc := 23) hx hb hK hP hD hS rfl g3 dX7_layTried_23 (fun H locs hP hD hS => ?_)
      refine lv_iinc (pc := 24) (v := (x1 + (1 : Int32))) (lv' := [(1, .int (x1 + (1 : Int32))), (0, .ref (ad 0))]) hx hb dX7_layTried_24 hl (k := 1) rfl rfl (by decide) rfl (fun ls hl => ?_)
      refine lv_goto (pc := 27) (tgt := 2) hx hb dX7_layTried_27 (by decide) ?_
      exact ih _ _ _ _ _ h hP hD hS (lv_sub hl [1, 0] rfl)
def p7_layTried (σ : kx_St) (Q : kx_St → Prop) : Prop := ∃ m2, p7_layTried_L2 m2 σ (0 : Int32) Q
set_option maxHeartbeats 4000000 in
theorem q7_layTried {σ : kx_St}  {Q : kx_St → Prop} (h : p7_layTried σ Q) : Met l yX7_layTried (Cond.code yX7_layTried cX7_layTried 2 none :: kx_big) rm7_layTried (va_Pc [.ref (ad 0)] (kx_Wd D cy 1 ad A σ)) (kx_Qc kx_cv (fun u _ => Q u) (kx_Wd D cy 1 ad A) A) 0 0 A := by
  refine kx_head (plainFor_of_name (by decide)) (Nat.le_of_ble_eq_true rfl) ?_
  intro p e s m below meth c ls cx hP hD hS hl
  obtain ⟨hx, hb, hr, hlocks, hml, hown, hts, hK⟩ := id cx
  have hl : lv_has ls 2 [(0, .ref (ad 0))] := hl
  refine lv_iconst (pc := 0) (v := (0 : Int32)) hx hb dX7_layTried_0 (by decide) ?_
  refine lv_istore_n (pc := 1) (lv' := [(1, .int (0 : Int32)), (0, .ref (ad 0))]) hx hb dX7_layTried_1 rfl hl (by decide) rfl (fun ls hl => ?_)
  obtain ⟨n0, h⟩ := h
  exact w7_layTried_L2 cx  n0 _ _ _ _ _ h hP hD hS (lv_sub hl [1, 0] rfl)
def p7_paidIn_L4 : Nat → kx_St → Int32 → Int32 → Int32 → (Int32 → Prop) → Prop
  | 0, _, _, _, _, _ => False
  | n + 1, σ, x1, x2, x3, Q => ((6 : Int32) ≤ x3 → Q x2) ∧ (¬ (6 : Int32) ≤ x3 → vp_in ((x1 + (10 : Int32)) + x3) 2480 ∧ (p7_paidIn_L4 n σ x1 (x2 + (σ.1 1 ((x1 + (10 : Int32)) + x3).toNatClampNeg)) (x3 + (1 : Int32)) Q))
set_option maxHeartbeats 4000000 in
theorem w7_paidIn_L4 {σ : kx_St}  {Q : Int32 → Prop} (cx : kx_Cx p s m args meth c D cy RX7 cX7_paidIn 4 (some .int))  : ∀ (n : Nat) (x1 : Int32) (x2 : Int32) (x3 : Int32) (H : Heap) (locs : List Loc) (ls : Array Slot), p7_paidIn_L4 n σ x1 x2 x3 Q → va_P D vwCl (kx_ws cy 1 ad σ) H → va_D A (kx_ws cy 1 ad σ) → va_S A s.heap H locs → lv_has ls 4 [(0, .ref (ad 0)), (1, .int x1), (2, .int x2), (3, .int x3)] → W p l e rm7_paidIn s m args below meth c H locs 0 0 (MQ below (kx_Qc kx_ci (fun u r => u = σ ∧ Q r) (kx_Wd D cy 1 ad A) A) args s 0 0 A) (F0 m 4 ls []) := by
  obtain ⟨hx, hb, hr, hlocks, hml, hown, hts, hK⟩ := id cx
  intro n
  induction n with
  | zero => intro _ _ _ _ _ _ h; exact False.elim h
  | succ n ih =>
    intro x1 x2 x3 H locs ls h hP hD hS hl
    refine lv_iload_n (pc := 4) hx hb dX7_paidIn_4 rfl (lv_at hl 3 rfl) ?_
    refine lv_bipush (pc := 5) (v := (6 : Int32)) hx hb dX7_paidIn_5 (by decide) ?_
    refine lv_icmp_ge (pc := 7) (tgt := 30) hx hb dX7_paidIn_7 (by decide) (fun c1 => ?_) (fun c1 => ?_)
    · have h := h.1 c1
      refine lv_iload_n (pc := 30) hx hb dX7_paidIn_30 rfl (lv_at hl 2 rfl) ?_
      exact kx_iret (pc := 31) hx hb hr hlocks hK hP hD hS ⟨rfl, h⟩ dX7_paidIn_31
    · have h := h.2 c1
      refine lv_iload_n (pc := 10) hx hb dX7_paidIn_10 rfl (lv_at hl 2 rfl) ?_
      refine lv_aload_n (pc := 11) hx hb dX7_paidIn_11 rfl (lv_at hl 0 rfl) ?_
      refine fg7_7 (pc := 12) (b := 1) hx hb hown hts hK hP rfl rfl dX7_paidIn_12 ?_
      refine lv_iload_n (pc := 15) hx hb dX7_paidIn_15 rfl (lv_at hl 1 rfl) ?_
      refine lv_bipush (pc := 16) (v := (10 : Int32)) hx hb dX7_paidIn_16 (by decide) ?_
      refine lv_iadd (pc := 18) hx hb dX7_paidIn_18 ?_
      refine lv_iload_n (pc := 19) hx hb dX7_paidIn_19 rfl (lv_at hl 3 rfl) ?_
      refine lv_iadd (pc := 20) hx hb dX7_paidIn_20 ?_
      obtain ⟨g2, h⟩ := h
      refine kx_iald (pc := 21) hx hb hK hP rfl g2 dX7_paidIn_21 ?_
      refine lv_iadd (pc := 22) hx hb dX7_paidIn_22 ?_
      refine lv_istore_n (pc := 23) (lv' := [(2, .int (x2 + (σ.1 1 ((x1 + (10 : Int32)) + x3).toNatClampNeg))), (0, .ref (ad 0)), (1, .int x1), (3, .int x3)]) hx hb dX7_paidIn_23 rfl hl (by decide) rfl (fun ls hl => ?_)
      refine lv_iinc (pc := 24) (v := (x3 + (1 : Int32))) (lv' := [(3, .int (x3 + (1 : Int32))), (2, .int (x2 + (σ.1 1 ((x1 + (10 : Int32)) + x3).toNatClampNeg))), (0, .ref (ad 0)), (1, .int x1)]) hx hb dX7_paidIn_24 hl (k := 3) rfl rfl (by decide) rfl (fun ls hl => ?_)
      refine lv_goto (pc := 27) (tgt := 4) hx hb dX7_paidIn_27 (by decide) ?_
      exact ih _ _ _ _ _ _ h hP hD hS (lv_sub hl [2, 3, 1, 0] rfl)
def p7_paidIn (σ : kx_St) (x1 : Int32) (Q : Int32 → Prop) : Prop := ∃ m4, p7_paidIn_L4 m4 σ x1 (0 : Int32) (0 : Int32) Q
set_option maxHeartbeats 4000000 in
theorem q7_paidIn {σ : kx_St} {x1 : Int32} {Q : Int32 → Prop} (h : p7_paidIn σ x1 Q) : Met l yX7_paidIn (Cond.code yX7_paidIn cX7_paidIn 4 (some .int) :: kx_big) rm7_paidIn (va_Pc [.ref (ad 0), .int x1] (kx_Wd D cy 1 ad A σ)) (kx_Qc kx_ci (fun u r => u = σ ∧ Q r) (kx_Wd D cy 1 ad A) A) 0 0 A := by
  refine kx_head (plainFor_of_name (by decide)) (Nat.le_of_ble_eq_true rfl) ?_
  intro p e s m below meth c ls cx hP hD hS hl
  obtain ⟨hx, hb, hr, hlocks, hml, hown, hts, hK⟩ := id cx
  have hl : lv_has ls 4 [(0, .ref (ad 0)), (1, .int x1)] := hl
  refine lv_iconst (pc := 0) (v := (0 : Int32)) hx hb dX7_paidIn_0 (by decide) ?_
  refine lv_istore_n (pc := 1) (lv' := [(2, .int (0 : Int32)), (0, .ref (ad 0)), (1, .int x1)]) hx hb dX7_paidIn_1 rfl hl (by decide) rfl (fun ls hl => ?_)
  refine lv_iconst (pc := 2) (v := (0 : Int32)) hx hb dX7_paidIn_2 (by decide) ?_
  refine lv_istore_n (pc := 3) (lv' := [(3, .int (0 : Int32)), (2, .int (0 : Int32)), (0, .ref (ad 0)), (1, .int x1)]) hx hb dX7_paidIn_3 rfl hl (by decide) rfl (fun ls hl => ?_)
  obtain ⟨n0, h⟩ := h
  exact w7_paidIn_L4 cx  n0 _ _ _ _ _ _ h hP hD hS (lv_sub hl [2, 3, 1, 0] rfl)
def p7_paidBy_J97 (σ : kx_St) (x1 : Int32) (x2 : Int32) (x4 : Int32) (x5 : Int32) (s0 : Int32) (k11 : kx_St → Int32 → Int32 → Int32 → Int32 → Prop) (Q : kx_St → Int32 → Prop) : Prop := p7_flies σ (2464 : Int32) x5 (fun σ2 r1 => k11 σ2 x1 (x2 + r1) s0 (x4 + (1 : Int32)))
set_option maxHeartbeats 4000000 in
theorem w7_paidBy_J97 {σ : kx_St} {x1 : Int32} {x2 : Int32} {x4 : Int32} {x5 : Int32} {s0 : Int32} {k11 : kx_St → Int32 → Int32 → Int32 → Int32 → Prop} {Q : kx_St → Int32 → Prop} {H : Heap} {locs : List Loc} {ls : Array Slot} (cx : kx_Cx p s m args meth c D cy RX7 cX7_paidBy 6 (some .int)) (hk11 : ∀ (σ : kx_St) (x1 : Int32) (x2 : Int32) (x3 : Int32) (x4 : Int32) (H : Heap) (locs : List Loc) (ls : Array Slot), k11 σ x1 x2 x3 x4 → va_P D vwCl (kx_ws cy 1 ad σ) H → va_D A (kx_ws cy 1 ad σ) → va_S A s.heap H locs → lv_has ls 6 [(0, .ref (ad 0)), (1, .int x1), (2, .int x2), (3, .int x3), (4, .int x4)] → W p l e rm7_paidBy s m args below meth c H locs 0 0 (MQ below (kx_Qc kx_ci Q (kx_Wd D cy 1 ad A) A) args s 0 0 A) (F0 m 11 ls []))  (h : p7_paidBy_J97 σ x1 x2 x4 x5 s0 k11 Q) (hP : va_P D vwCl (kx_ws cy 1 ad σ) H) (hD : va_D A (kx_ws cy 1 ad σ)) (hS : va_S A s.heap H locs) (hl : lv_has ls 6 [(0, .ref (ad 0)), (1, .int x1), (2, .int x2), (4, .int x4), (5, .int x5)]) : W p l e rm7_paidBy s m args below meth c H locs 0 0 (MQ below (kx_Qc kx_ci Q (kx_Wd D cy 1 ad A) A) args s 0 0 A) (F0 m 97 ls [.int s0]) := by
  obtain ⟨hx, hb, hr, hlocks, hml, hown, hts, hK⟩ := id cx
  refine lv_istore_n (pc := 97) (lv' := [(3, .int s0), (0, .ref (ad 0)), (1, .int x1), (2, .int x2), (4, .int x4), (5, .int x5)]) hx hb dX7_paidBy_97 rfl hl (by decide) rfl (fun ls hl => ?_)
  refine lv_iload_n (pc := 98) hx hb dX7_paidBy_98 rfl (lv_at hl 3 rfl) ?_
  refine lv_aload_n (pc := 99) hx hb dX7_paidBy_99 rfl (lv_at hl 1 rfl) ?_
  refine lv_sipush (pc := 100) (v := (2464 : Int32)) hx hb dX7_paidBy_100 (by decide) ?_
  refine lv_iload (pc := 103) hx hb dX7_paidBy_103 (lv_at hl 5 rfl) ?_
  refine kx_iVi (pc := 105) [.int (2464 : Int32), .int x5] hx hb hml hown hts hK hP hD hS (q7_flies h) (cw7_199 hts ⟨Nat.le_of_ble_eq_true rfl, Nat.le_of_ble_eq_true rfl⟩) rfl (by decide) rfl rfl hl.1 rfl (Nat.le_of_ble_eq_true rfl) ⟨Nat.le_of_ble_eq_true rfl, Nat.le_of_ble_eq_true rfl⟩ dX7_paidBy_105 (fun r1 σ2 H locs hP hD hS h => ?_)
  refine lv_iadd (pc := 108) hx hb dX7_paidBy_108 ?_
  refine lv_istore_n (pc := 109) (lv' := [(2, .int (x2 + r1)), (3, .int s0), (0, .ref (ad 0)), (1, .int x1), (4, .int x4), (5, .int x5)]) hx hb dX7_paidBy_109 rfl hl (by decide) rfl (fun ls hl => ?_)
  refine lv_iinc (pc := 110) (v := (x4 + (1 : Int32))) (lv' := [(4, .int (x4 + (1 : Int32))), (2, .int (x2 + r1)), (3, .int s0), (0, .ref (ad 0)), (1, .int x1), (5, .int x5)]) hx hb dX7_paidBy_110 hl (k := 4) rfl rfl (by decide) rfl (fun ls hl => ?_)
  refine lv_goto (pc := 113) (tgt := 11) hx hb dX7_paidBy_113 (by decide) ?_
  exact hk11 _ _ _ _ _ _ _ _ h hP hD hS (lv_sub hl [3, 4, 1, 2, 0] rfl)
def p7_paidBy_J116 (σ : kx_St) (x2 : Int32) (x3 : Int32) (Q : kx_St → Int32 → Prop) : Prop := (x3 = 0 → Q σ (-1 : Int32)) ∧ (¬ x3 = 0 → Q σ x2)
set_option maxHeartbeats 4000000 in
theorem w7_paidBy_J116 {σ : kx_St} {x2 : Int32} {x3 : Int32}  {Q : kx_St → Int32 → Prop} {H : Heap} {locs : List Loc} {ls : Array Slot} (cx : kx_Cx p s m args meth c D cy RX7 cX7_paidBy 6 (some .int))   (h : p7_paidBy_J116 σ x2 x3 Q) (hP : va_P D vwCl (kx_ws cy 1 ad σ) H) (hD : va_D A (kx_ws cy 1 ad σ)) (hS : va_S A s.heap H locs) (hl : lv_has ls 6 [(2, .int x2), (3, .int x3)]) : W p l e rm7_paidBy s m args below meth c H locs 0 0 (MQ below (kx_Qc kx_ci Q (kx_Wd D cy 1 ad A) A) args s 0 0 A) (F0 m 116 ls []) := by
  obtain ⟨hx, hb, hr, hlocks, hml, hown, hts, hK⟩ := id cx
  refine lv_iload_n (pc := 116) hx hb dX7_paidBy_116 rfl (lv_at hl 1 rfl) ?_
  refine lv_if_eq (pc := 117) (tgt := 124) hx hb dX7_paidBy_117 (by decide) (fun c1 => ?_) (fun c1 => ?_)
  · have h := h.1 c1
    refine lv_iconst (pc := 124) (v := (-1 : Int32)) hx hb dX7_paidBy_124 (by decide) ?_
    exact kx_iret (pc := 125) hx hb hr hlocks hK hP hD hS h dX7_paidBy_125
  · have h := h.2 c1
    refine lv_iload_n (pc := 120) hx hb dX7_paidBy_120 rfl (lv_at hl 0 rfl) ?_
    refine lv_goto (pc := 121) (tgt := 125) hx hb dX7_paidBy_121 (by decide) ?_
    exact kx_iret (pc := 125) hx hb hr hlocks hK hP hD hS h dX7_paidBy_125
def p7_paidBy_L11 : Nat → kx_St → Int32 → Int32 → Int32 → Int32 → (kx_St → Int32 → Prop) → Prop
  | 0, _, _, _, _, _, _ => False
  | n + 1, σ, x1, x2, x3, x4, Q => (x1 ≤ x4 → p7_paidBy_J116 σ x2 x3 Q) ∧ (¬ x1 ≤ x4 → (x3 = 0 → p7_paidBy_J116 σ x2 x3 Q) ∧ (¬ x3 = 0 → vp_in x4 6 ∧ ((0 ≤ ((σ.1 13 x4.toNatClampNeg) - (1 : Int32)) → p7_has (σ.1 1 (2466 : Int32).toNatClampNeg) ((σ.1 13 x4.toNatClampNeg) - (1 : Int32)) (fun r5 => (¬ r5 = 0 → p7_paidBy_J97 σ x1 x2 x4 ((σ.1 13 x4.toNatClampNeg) - (1 : Int32)) (0 : Int32) (fun σ x1 x2 x3 x4 => p7_paidBy_L11 n σ x1 x2 x3 x4 Q) Q) ∧ (r5 = 0 → p7_windAt σ (σ.1 1 (2465 : Int32).toNatClampNeg) (fun r8 => p7_isLifted σ (2464 : Int32) ((σ.1 13 x4.toNatClampNeg) - (1 : Int32)) r8 (fun r9 => (¬ r9 = 0 → p7_paidBy_J97 σ x1 x2 x4 ((σ.1 13 x4.toNatClampNeg) - (1 : Int32)) (0 : Int32) (fun σ x1 x2 x3 x4 => p7_paidBy_L11 n σ x1 x2 x3 x4 Q) Q) ∧ (r9 = 0 → p7_paidBy_J97 σ x1 x2 x4 ((σ.1 13 x4.toNatClampNeg) - (1 : Int32)) (1 : Int32) (fun σ x1 x2 x3 x4 => p7_paidBy_L11 n σ x1 x2 x3 x4 Q) Q)))))) ∧ (¬ 0 ≤ ((σ.1 13 x4.toNatClampNeg) - (1 : Int32)) → (fun σ13 : kx_St => p7_paidBy_L11 n σ13 x1 x2 x3 (x4 + (1 : Int32)) Q) (kx_sI σ 1 (2465 : Int32).toNatClampNeg ((σ.1 1 (2465 : Int32).toNatClampNeg) + (1 : Int32)))))))
set_option maxHeartbeats 4000000 in
theorem w7_paidBy_L11  {Q : kx_St → Int32 → Prop} (cx : kx_Cx p s m args meth c D cy RX7 cX7_paidBy 6 (some .int))  : ∀ (n : Nat) (σ : kx_St) (x1 : Int32) (x2 : Int32) (x3 : Int32) (x4 : Int32) (H : Heap) (locs : List Loc) (ls : Array Slot), p7_paidBy_L11 n σ x1 x2 x3 x4 Q → va_P D vwCl (kx_ws cy 1 ad σ) H → va_D A (kx_ws cy 1 ad σ) → va_S A s.heap H locs → lv_has ls 6 [(0, .ref (ad 0)), (1, .int x1), (2, .int x2), (3, .int x3), (4, .int x4)] → W p l e rm7_paidBy s m args below meth c H locs 0 0 (MQ below (kx_Qc kx_ci Q (kx_Wd D cy 1 ad A) A) args s 0 0 A) (F0 m 11 ls []) := by
  obtain ⟨hx, hb, hr, hlocks, hml, hown, hts, hK⟩ := id cx
  intro n
  induction n with
  | zero => intro _ _ _ _ _ _ _ _ h; exact False.elim h
  | succ n ih =>
    intro σ x1 x2 x3 x4 H locs ls h hP hD hS hl
    refine lv_iload (pc := 11) hx hb dX7_paidBy_11 (lv_at hl 4 rfl) ?_
    refine lv_iload_n (pc := 13) hx hb dX7_paidBy_13 rfl (lv_at hl 1 rfl) ?_
    refine lv_icmp_ge (pc := 14) (tgt := 116) hx hb dX7_paidBy_14 (by decide) (fun c1 => ?_) (fun c1 => ?_)
    · have h := h.1 c1
      exact w7_paidBy_J116 cx  h hP hD hS (lv_sub hl [2, 3] rfl)
    · have h := h.2 c1
      refine lv_iload_n (pc := 17) hx hb dX7_paidBy_17 rfl (lv_at hl 3 rfl) ?_
      refine lv_if_eq (pc := 18) (tgt := 116) hx hb dX7_paidBy_18 (by decide) (fun c2 => ?_) (fun c2 => ?_)
      · have h := h.1 c2
        exact w7_paidBy_J116 cx  h hP hD hS (lv_sub hl [2, 3] rfl)
      · have h := h.2 c2
        refine lv_aload_n (pc := 21) hx hb dX7_paidBy_21 rfl (lv_at hl 0 rfl) ?_
        refine fg7_50 (pc := 22) (b := 13) hx hb hown hts hK hP rfl rfl dX7_paidBy_22 ?_
        refine lv_iload (pc := 25) hx hb dX7_paidBy_25 (lv_at hl 4 rfl) ?_
        obtain ⟨g3, h⟩ := h
        refine kx_iald (pc := 27) hx hb hK hP rfl g3 dX7_paidBy_27 ?_
        refine lv_iconst (pc := 28) (v := (1 : Int32)) hx hb dX7_paidBy_28 (by decide) ?_
        refine lv_isub (pc := 29) hx hb dX7_paidBy_29 ?_
        refine lv_istore (pc := 30) (lv' := [(5, .int ((σ.1 13 x4.toNatClampNeg) - (1 : Int32))), (0, .ref (ad 0)), (1, .int x1), (2, .int x2), (3, .int x3), (4, .int x4)]) hx hb dX7_paidBy_30 hl (by decide) rfl (fun ls hl => ?_)
        refine lv_iload (pc := 32) hx hb dX7_paidBy_32 (lv_at hl 0 rfl) ?_
        refine lv_if_ge (pc := 34) (tgt := 52) hx hb dX7_paidBy_34 (by decide) (fun c4 => ?_) (fun c4 => ?_)
        · have h := h.1 c4
          refine lv_aload_n (pc := 52) hx hb dX7_paidBy_52 rfl (lv_at hl 1 rfl) ?_
          refine fg7_7 (pc := 53) (b := 1) hx hb hown hts hK hP rfl rfl dX7_paidBy_53 ?_
          refine lv_sipush (pc := 56) (v := (2466 : Int32)) hx hb dX7_paidBy_56 (by decide) ?_
          refine kx_iald (pc := 59) hx hb hK hP rfl (by unfold vp_in; decide) dX7_paidBy_59 ?_
          refine lv_iload (pc := 60) hx hb dX7_paidBy_60 (lv_at hl 0 rfl) ?_
          refine kx_iSi (pc := 62) [.int (σ.1 1 (2466 : Int32).toNatClampNeg), .int ((σ.1 13 x4.toNatClampNeg) - (1 : Int32))] hx hb hml hown hts hK hP hD hS (q7_has h) (cw7_170 hts ⟨Nat.le_of_ble_eq_true rfl, Nat.le_of_ble_eq_true rfl⟩) rfl hl.1 rfl (Nat.le_of_ble_eq_true rfl) ⟨Nat.le_of_ble_eq_true rfl, Nat.le_of_ble_eq_true rfl⟩ dX7_paidBy_62 (fun r5 u_ H locs hP hD hS h => ?_)
          obtain ⟨hu_, h⟩ := h
          rw [hu_] at hP hD
          refine lv_if_ne (pc := 65) (tgt := 96) hx hb dX7_paidBy_65 (by decide) (fun c6 => ?_) (fun c6 => ?_)
          · have h := h.1 c6
            refine lv_iconst (pc := 96) (v := (0 : Int32)) hx hb dX7_paidBy_96 (by decide) ?_
            have hc7 : ∀ (σ : kx_St) (x1 : Int32) (x2 : Int32) (x3 : Int32) (x4 : Int32) (H : Heap) (locs : List Loc) (ls : Array Slot), (fun σ x1 x2 x3 x4 => p7_paidBy_L11 n σ x1 x2 x3 x4 Q) σ x1 x2 x3 x4 → va_P D vwCl (kx_ws cy 1 ad σ) H → va_D A (kx_ws cy 1 ad σ) → va_S A s.heap H locs → lv_has ls 6 [(0, .ref (ad 0)), (1, .int x1), (2, .int x2), (3, .int x3), (4, .int x4)] → W p l e rm7_paidBy s m args below meth c H locs 0 0 (MQ below (kx_Qc kx_ci Q (kx_Wd D cy 1 ad A) A) args s 0 0 A) (F0 m 11 ls []) := fun σ x1 x2 x3 x4 H locs ls h hP hD hS hl => ih _ _ _ _ _ _ _ _ h hP hD hS hl
            exact w7_paidBy_J97 cx hc7 h hP hD hS (lv_sub hl [1, 2, 3, 5, 0] rfl)
          · have h := h.2 c6
            refine lv_aload_n (pc := 68) hx hb dX7_paidBy_68 rfl (lv_at hl 1 rfl) ?_
            refine lv_sipush (pc := 69) (v := (2464 : Int32)) hx hb dX7_paidBy_69 (by decide) ?_
            refine lv_iload (pc := 72) hx hb dX7_paidBy_72 (lv_at hl 0 rfl) ?_
            refine lv_aload_n (pc := 74) hx hb dX7_paidBy_74 rfl (lv_at hl 1 rfl) ?_
            refine lv_aload_n (pc := 75) hx hb dX7_paidBy_75 rfl (lv_at hl 1 rfl) ?_
            refine fg7_7 (pc := 76) (b := 1) hx hb hown hts hK hP rfl rfl dX7_paidBy_76 ?_
            refine lv_sipush (pc := 79) (v := (2465 : Int32)) hx hb dX7_paidBy_79 (by decide) ?_
            refine kx_iald (pc := 82) hx hb hK hP rfl (by unfold vp_in; decide) dX7_paidBy_82 ?_
            refine kx_iVi (pc := 83) [.int (σ.1 1 (2465 : Int32).toNatClampNeg)] hx hb hml hown hts hK hP hD hS (q7_windAt h) (cw7_164 hts ⟨Nat.le_of_ble_eq_true rfl, Nat.le_of_ble_eq_true rfl⟩) rfl (by decide) rfl rfl hl.1 rfl (Nat.le_of_ble_eq_true rfl) ⟨Nat.le_of_ble_eq_true rfl, Nat.le_of_ble_eq_true rfl⟩ dX7_paidBy_83 (fun r8 u_ H locs hP hD hS h => ?_)
            obtain ⟨hu_, h⟩ := h
            rw [hu_] at hP hD
            refine kx_iVi (pc := 86) [.int (2464 : Int32), .int ((σ.1 13 x4.toNatClampNeg) - (1 : Int32)), .int r8] hx hb hml hown hts hK hP hD hS (q7_isLifted h) (cw7_161 hts ⟨Nat.le_of_ble_eq_true rfl, Nat.le_of_ble_eq_true rfl⟩) rfl (by decide) rfl rfl hl.1 rfl (Nat.le_of_ble_eq_true rfl) ⟨Nat.le_of_ble_eq_true rfl, Nat.le_of_ble_eq_true rfl⟩ dX7_paidBy_86 (fun r9 u_ H locs hP hD hS h => ?_)
            obtain ⟨hu_, h⟩ := h
            rw [hu_] at hP hD
            refine lv_if_ne (pc := 89) (tgt := 96) hx hb dX7_paidBy_89 (by decide) (fun c10 => ?_) (fun c10 => ?_)
            · have h := h.1 c10
              refine lv_iconst (pc := 96) (v := (0 : Int32)) hx hb dX7_paidBy_96 (by decide) ?_
              have hc11 : ∀ (σ : kx_St) (x1 : Int32) (x2 : Int32) (x3 : Int32) (x4 : Int32) (H : Heap) (locs : List Loc) (ls : Array Slot), (fun σ x1 x2 x3 x4 => p7_paidBy_L11 n σ x1 x2 x3 x4 Q) σ x1 x2 x3 x4 → va_P D vwCl (kx_ws cy 1 ad σ) H → va_D A (kx_ws cy 1 ad σ) → va_S A s.heap H locs → lv_has ls 6 [(0, .ref (ad 0)), (1, .int x1), (2, .int x2), (3, .int x3), (4, .int x4)] → W p l e rm7_paidBy s m args below meth c H locs 0 0 (MQ below (kx_Qc kx_ci Q (kx_Wd D cy 1 ad A) A) args s 0 0 A) (F0 m 11 ls []) := fun σ x1 x2 x3 x4 H locs ls h hP hD hS hl => ih _ _ _ _ _ _ _ _ h hP hD hS hl
              exact w7_paidBy_J97 cx hc11 h hP hD hS (lv_sub hl [1, 2, 3, 5, 0] rfl)
            · have h := h.2 c10
              refine lv_iconst (pc := 92) (v := (1 : Int32)) hx hb dX7_paidBy_92 (by decide) ?_
              refine lv_goto (pc := 93) (tgt := 97) hx hb dX7_paidBy_93 (by decide) ?_
              have hc12 : ∀ (σ : kx_St) (x1 : Int32) (x2 : Int32) (x3 : Int32) (x4 : Int32) (H : Heap) (locs : List Loc) (ls : Array Slot), (fun σ x1 x2 x3 x4 => p7_paidBy_L11 n σ x1 x2 x3 x4 Q) σ x1 x2 x3 x4 → va_P D vwCl (kx_ws cy 1 ad σ) H → va_D A (kx_ws cy 1 ad σ) → va_S A s.heap H locs → lv_has ls 6 [(0, .ref (ad 0)), (1, .int x1), (2, .int x2), (3, .int x3), (4, .int x4)] → W p l e rm7_paidBy s m args below meth c H locs 0 0 (MQ below (kx_Qc kx_ci Q (kx_Wd D cy 1 ad A) A) args s 0 0 A) (F0 m 11 ls []) := fun σ x1 x2 x3 x4 H locs ls h hP hD hS hl => ih _ _ _ _ _ _ _ _ h hP hD hS hl
              exact w7_paidBy_J97 cx hc12 h hP hD hS (lv_sub hl [1, 2, 3, 5, 0] rfl)
        · have h := h.2 c4
          refine lv_aload_n (pc := 37) hx hb dX7_paidBy_37 rfl (lv_at hl 1 rfl) ?_
          refine fg7_7 (pc := 38) (b := 1) hx hb hown hts hK hP rfl rfl dX7_paidBy_38 ?_
          refine lv_sipush (pc := 41) (v := (2465 : Int32)) hx hb dX7_paidBy_41 (by decide) ?_
          refine lv_dup2_11 (pc := 44) hx hb dX7_paidBy_44 rfl rfl ?_
          refine kx_iald (pc := 45) hx hb hK hP rfl (by unfold vp_in; decide) dX7_paidBy_45 ?_
          refine lv_iconst (pc := 46) (v := (1 : Int32)) hx hb dX7_paidBy_46 (by decide) ?_
          refine lv_iadd (pc := 47) hx hb dX7_paidBy_47 ?_
          refine kx_iast (pc := 48) hx hb hK hP hD hS rfl (by unfold vp_in; decide) dX7_paidBy_48 (fun H locs hP hD hS => ?_)
          refine lv_goto (pc := 49) (tgt := 110) hx hb dX7_paidBy_49 (by decide) ?_
          refine lv_iinc (pc := 110) (v := (x4 + (1 : Int32))) (lv' := [(4, .int (x4 + (1 : Int32))), (5, .int ((σ.1 13 x4.toNatClampNeg) - (1 : Int32))), (0, .ref (ad 0)), (1, .int x1), (2, .int x2), (3, .int x3)]) hx hb dX7_paidBy_110 hl (k := 5) rfl rfl (by decide) rfl (fun ls hl => ?_)
          refine lv_goto (pc := 113) (tgt := 11) hx hb dX7_paidBy_113 (by decide) ?_
          exact ih _ _ _ _ _ _ _ _ h hP hD hS (lv_sub hl [2, 3, 4, 5, 0] rfl)
def p7_paidBy (σ : kx_St) (x1 : Int32) (Q : kx_St → Int32 → Prop) : Prop := p7_layTried σ (fun σ2 => ∃ m11, p7_paidBy_L11 m11 σ2 x1 (0 : Int32) (1 : Int32) (0 : Int32) Q)
set_option maxHeartbeats 4000000 in
theorem q7_paidBy {σ : kx_St} {x1 : Int32} {Q : kx_St → Int32 → Prop} (h : p7_paidBy σ x1 Q) : Met l yX7_paidBy (Cond.code yX7_paidBy cX7_paidBy 6 (some .int) :: kx_big) rm7_paidBy (va_Pc [.ref (ad 0), .int x1] (kx_Wd D cy 1 ad A σ)) (kx_Qc kx_ci Q (kx_Wd D cy 1 ad A) A) 0 0 A := by
  refine kx_head (plainFor_of_name (by decide)) (Nat.le_of_ble_eq_true rfl) ?_
  intro p e s m below meth c ls cx hP hD hS hl
  obtain ⟨hx, hb, hr, hlocks, hml, hown, hts, hK⟩ := id cx
  have hl : lv_has ls 6 [(0, .ref (ad 0)), (1, .int x1)] := hl
  refine lv_aload_n (pc := 0) hx hb dX7_paidBy_0 rfl (lv_at hl 0 rfl) ?_
  refine kx_iVv (pc := 1) [] hx hb hml hown hts hK hP hD hS (q7_layTried h) (cw7_209 hts ⟨Nat.le_of_ble_eq_true rfl, Nat.le_of_ble_eq_true rfl⟩) rfl (by decide) rfl rfl hl.1 rfl (Nat.le_of_ble_eq_true rfl) ⟨Nat.le_of_ble_eq_true rfl, Nat.le_of_ble_eq_true rfl⟩ dX7_paidBy_1 (fun _ σ2 H locs hP hD hS h => ?_)
  refine lv_iconst (pc := 4) (v := (0 : Int32)) hx hb dX7_paidBy_4 (by decide) ?_
  refine lv_istore_n (pc := 5) (lv' := [(2, .int (0 : Int32)), (0, .ref (ad 0)), (1, .int x1)]) hx hb dX7_paidBy_5 rfl hl (by decide) rfl (fun ls hl => ?_)
  refine lv_iconst (pc := 6) (v := (1 : Int32)) hx hb dX7_paidBy_6 (by decide) ?_
  refine lv_istore_n (pc := 7) (lv' := [(3, .int (1 : Int32)), (2, .int (0 : Int32)), (0, .ref (ad 0)), (1, .int x1)]) hx hb dX7_paidBy_7 rfl hl (by decide) rfl (fun ls hl => ?_)
  refine lv_iconst (pc := 8) (v := (0 : Int32)) hx hb dX7_paidBy_8 (by decide) ?_
  refine lv_istore (pc := 9) (lv' := [(4, .int (0 : Int32)), (3, .int (1 : Int32)), (2, .int (0 : Int32)), (0, .ref (ad 0)), (1, .int x1)]) hx hb dX7_paidBy_9 hl (by decide) rfl (fun ls hl => ?_)
  obtain ⟨n0, h⟩ := h
  exact w7_paidBy_L11 cx  n0 _ _ _ _ _ _ _ _ h hP hD hS (lv_sub hl [3, 4, 2, 1, 0] rfl)
def p7_nextLine_J48 (σ : kx_St) (x2 : Int32) (Q : kx_St → Int32 → Prop) : Prop := (x2 < 0 → Q σ (0 : Int32)) ∧ (¬ x2 < 0 → Q σ (1 : Int32))
set_option maxHeartbeats 4000000 in
theorem w7_nextLine_J48 {σ : kx_St} {x2 : Int32}  {Q : kx_St → Int32 → Prop} {H : Heap} {locs : List Loc} {ls : Array Slot} (cx : kx_Cx p s m args meth c D cy RX7 cX7_nextLine 3 (some .boolean))   (h : p7_nextLine_J48 σ x2 Q) (hP : va_P D vwCl (kx_ws cy 1 ad σ) H) (hD : va_D A (kx_ws cy 1 ad σ)) (hS : va_S A s.heap H locs) (hl : lv_has ls 3 [(2, .int x2)]) : W p l e rm7_nextLine s m args below meth c H locs 0 0 (MQ below (kx_Qc kx_ci Q (kx_Wd D cy 1 ad A) A) args s 0 0 A) (F0 m 48 ls []) := by
  obtain ⟨hx, hb, hr, hlocks, hml, hown, hts, hK⟩ := id cx
  refine lv_iload_n (pc := 48) hx hb dX7_nextLine_48 rfl (lv_at hl 0 rfl) ?_
  refine lv_if_lt (pc := 49) (tgt := 56) hx hb dX7_nextLine_49 (by decide) (fun c1 => ?_) (fun c1 => ?_)
  · have h := h.1 c1
    refine lv_iconst (pc := 56) (v := (0 : Int32)) hx hb dX7_nextLine_56 (by decide) ?_
    exact kx_zret (pc := 57) hx hb hr hlocks hK hP hD hS (by decide) h dX7_nextLine_57
  · have h := h.2 c1
    refine lv_iconst (pc := 52) (v := (1 : Int32)) hx hb dX7_nextLine_52 (by decide) ?_
    refine lv_goto (pc := 53) (tgt := 57) hx hb dX7_nextLine_53 (by decide) ?_
    exact kx_zret (pc := 57) hx hb hr hlocks hK hP hD hS (by decide) h dX7_nextLine_57
def p7_nextLine_J34 (σ : kx_St) (x2 : Int32) (Q : kx_St → Int32 → Prop) : Prop := (x2 < 0 → p7_nextLine_J48 σ x2 Q) ∧ (¬ x2 < 0 → vp_in x2 6 ∧ (vp_in x2 6 ∧ ((fun σ4 : kx_St => p7_nextLine_J48 σ4 x2 Q) (kx_sI σ 13 x2.toNatClampNeg ((σ.1 13 x2.toNatClampNeg) + (1 : Int32))))))
set_option maxHeartbeats 4000000 in
theorem w7_nextLine_J34 {σ : kx_St} {x2 : Int32}  {Q : kx_St → Int32 → Prop} {H : Heap} {locs : List Loc} {ls : Array Slot} (cx : kx_Cx p s m args meth c D cy RX7 cX7_nextLine 3 (some .boolean))   (h : p7_nextLine_J34 σ x2 Q) (hP : va_P D vwCl (kx_ws cy 1 ad σ) H) (hD : va_D A (kx_ws cy 1 ad σ)) (hS : va_S A s.heap H locs) (hl : lv_has ls 3 [(0, .ref (ad 0)), (2, .int x2)]) : W p l e rm7_nextLine s m args below meth c H locs 0 0 (MQ below (kx_Qc kx_ci Q (kx_Wd D cy 1 ad A) A) args s 0 0 A) (F0 m 34 ls []) := by
  obtain ⟨hx, hb, hr, hlocks, hml, hown, hts, hK⟩ := id cx
  refine lv_iload_n (pc := 34) hx hb dX7_nextLine_34 rfl (lv_at hl 1 rfl) ?_
  refine lv_if_lt (pc := 35) (tgt := 48) hx hb dX7_nextLine_35 (by decide) (fun c1 => ?_) (fun c1 => ?_)
  · have h := h.1 c1
    exact w7_nextLine_J48 cx  h hP hD hS (lv_sub hl [1] rfl)
  · have h := h.2 c1
    refine lv_aload_n (pc := 38) hx hb dX7_nextLine_38 rfl (lv_at hl 0 rfl) ?_
    refine fg7_50 (pc := 39) (b := 13) hx hb hown hts hK hP rfl rfl dX7_nextLine_39 ?_
    refine lv_iload_n (pc := 42) hx hb dX7_nextLine_42 rfl (lv_at hl 1 rfl) ?_
    refine lv_dup2_11 (pc := 43) hx hb dX7_nextLine_43 rfl rfl ?_
    obtain ⟨g2, h⟩ := h
    refine kx_iald (pc := 44) hx hb hK hP rfl g2 dX7_nextLine_44 ?_
    refine lv_iconst (pc := 45) (v := (1 : Int32)) hx hb dX7_nextLine_45 (by decide) ?_
    refine lv_iadd (pc := 46) hx hb dX7_nextLine_46 ?_
    obtain ⟨g3, h⟩ := h
    refine kx_iast (pc := 47) hx hb hK hP hD hS rfl g3 dX7_nextLine_47 (fun H locs hP hD hS => ?_)
    exact w7_nextLine_J48 cx  h hP hD hS (lv_sub hl [1] rfl)
def p7_nextLine_L4 : Nat → kx_St → Int32 → (kx_St → Int32 → Prop) → Prop
  | 0, _, _, _ => False
  | n + 1, σ, x2, Q => (x2 < 0 → p7_nextLine_J34 σ x2 Q) ∧ (¬ x2 < 0 → vp_in x2 6 ∧ ((¬ (σ.1 13 x2.toNatClampNeg) = (σ.1 0 3) → p7_nextLine_J34 σ x2 Q) ∧ ((σ.1 13 x2.toNatClampNeg) = (σ.1 0 3) → vp_in x2 6 ∧ ((fun σ5 : kx_St => p7_nextLine_L4 n σ5 (x2 + (-1 : Int32)) Q) (kx_sI σ 13 x2.toNatClampNeg (0 : Int32))))))
set_option maxHeartbeats 4000000 in
theorem w7_nextLine_L4  {Q : kx_St → Int32 → Prop} (cx : kx_Cx p s m args meth c D cy RX7 cX7_nextLine 3 (some .boolean))  : ∀ (n : Nat) (σ : kx_St) (x2 : Int32) (H : Heap) (locs : List Loc) (ls : Array Slot), p7_nextLine_L4 n σ x2 Q → va_P D vwCl (kx_ws cy 1 ad σ) H → va_D A (kx_ws cy 1 ad σ) → va_S A s.heap H locs → lv_has ls 3 [(0, .ref (ad 0)), (2, .int x2)] → W p l e rm7_nextLine s m args below meth c H locs 0 0 (MQ below (kx_Qc kx_ci Q (kx_Wd D cy 1 ad A) A) args s 0 0 A) (F0 m 4 ls []) := by
  obtain ⟨hx, hb, hr, hlocks, hml, hown, hts, hK⟩ := id cx
  intro n
  induction n with
  | zero => intro _ _ _ _ _ h; exact False.elim h
  | succ n ih =>
    intro σ x2 H locs ls h hP hD hS hl
    refine lv_iload_n (pc := 4) hx hb dX7_nextLine_4 rfl (lv_at hl 1 rfl) ?_
    refine lv_if_lt (pc := 5) (tgt := 34) hx hb dX7_nextLine_5 (by decide) (fun c1 => ?_) (fun c1 => ?_)
    · have h := h.1 c1
      exact w7_nextLine_J34 cx  h hP hD hS (lv_sub hl [0, 1] rfl)
    · have h := h.2 c1
      refine lv_aload_n (pc := 8) hx hb dX7_nextLine_8 rfl (lv_at hl 0 rfl) ?_
      refine fg7_50 (pc := 9) (b := 13) hx hb hown hts hK hP rfl rfl dX7_nextLine_9 ?_
      refine lv_iload_n (pc := 12) hx hb dX7_nextLine_12 rfl (lv_at hl 1 rfl) ?_
      obtain ⟨g2, h⟩ := h
      refine kx_iald (pc := 13) hx hb hK hP rfl g2 dX7_nextLine_13 ?_
      refine lv_aload_n (pc := 14) hx hb dX7_nextLine_14 rfl (lv_at hl 0 rfl) ?_
      refine fg7_150 (pc := 15) hx hb hown hts hK hP rfl dX7_nextLine_15 ?_
      refine lv_icmp_ne (pc := 18) (tgt := 34) hx hb dX7_nextLine_18 (by decide) (fun c3 => ?_) (fun c3 => ?_)
      · have h := h.1 c3
        exact w7_nextLine_J34 cx  h hP hD hS (lv_sub hl [0, 1] rfl)
      · have h := h.2 c3
        refine lv_aload_n (pc := 21) hx hb dX7_nextLine_21 rfl (lv_at hl 0 rfl) ?_
        refine fg7_50 (pc := 22) (b := 13) hx hb hown hts hK hP rfl rfl dX7_nextLine_22 ?_
        refine lv_iload_n (pc := 25) hx hb dX7_nextLine_25 rfl (lv_at hl 1 rfl) ?_
        refine lv_iconst (pc := 26) (v := (0 : Int32)) hx hb dX7_nextLine_26 (by decide) ?_
        obtain ⟨g4, h⟩ := h
        refine kx_iast (pc := 27) hx hb hK hP hD hS rfl g4 dX7_nextLine_27 (fun H locs hP hD hS => ?_)
        refine lv_iinc (pc := 28) (v := (x2 + (-1 : Int32))) (lv' := [(2, .int (x2 + (-1 : Int32))), (0, .ref (ad 0))]) hx hb dX7_nextLine_28 hl (k := 1) rfl rfl (by decide) rfl (fun ls hl => ?_)
        refine lv_goto (pc := 31) (tgt := 4) hx hb dX7_nextLine_31 (by decide) ?_
        exact ih _ _ _ _ _ h hP hD hS (lv_sub hl [1, 0] rfl)
def p7_nextLine (σ : kx_St) (x1 : Int32) (Q : kx_St → Int32 → Prop) : Prop := ∃ m4, p7_nextLine_L4 m4 σ (x1 - (1 : Int32)) Q
set_option maxHeartbeats 4000000 in
theorem q7_nextLine {σ : kx_St} {x1 : Int32} {Q : kx_St → Int32 → Prop} (h : p7_nextLine σ x1 Q) : Met l yX7_nextLine (Cond.code yX7_nextLine cX7_nextLine 3 (some .boolean) :: kx_big) rm7_nextLine (va_Pc [.ref (ad 0), .int x1] (kx_Wd D cy 1 ad A σ)) (kx_Qc kx_ci Q (kx_Wd D cy 1 ad A) A) 0 0 A := by
  refine kx_head (plainFor_of_name (by decide)) (Nat.le_of_ble_eq_true rfl) ?_
  intro p e s m below meth c ls cx hP hD hS hl
  obtain ⟨hx, hb, hr, hlocks, hml, hown, hts, hK⟩ := id cx
  have hl : lv_has ls 3 [(0, .ref (ad 0)), (1, .int x1)] := hl
  refine lv_iload_n (pc := 0) hx hb dX7_nextLine_0 rfl (lv_at hl 1 rfl) ?_
  refine lv_iconst (pc := 1) (v := (1 : Int32)) hx hb dX7_nextLine_1 (by decide) ?_
  refine lv_isub (pc := 2) hx hb dX7_nextLine_2 ?_
  refine lv_istore_n (pc := 3) (lv' := [(2, .int (x1 - (1 : Int32))), (0, .ref (ad 0)), (1, .int x1)]) hx hb dX7_nextLine_3 rfl hl (by decide) rfl (fun ls hl => ?_)
  obtain ⟨n0, h⟩ := h
  exact w7_nextLine_L4 cx  n0 _ _ _ _ _ h hP hD hS (lv_sub hl [1, 0] rfl)
def p7_mostIn_L48 : Nat → kx_St → Int32 → Int32 → Int32 → (kx_St → Int32 → Int32 → Prop) → (kx_St → Int32 → Prop) → Prop
  | 0, _, _, _, _, _, _ => False
  | n + 1, σ, x1, x2, x5, k74, Q => (x1 ≤ x5 → k74 σ x1 x2) ∧ (¬ x1 ≤ x5 → vp_in x5 6 ∧ (vp_in x5 6 ∧ ((fun σ4 : kx_St => p7_mostIn_L48 n σ4 x1 x2 (x5 + (1 : Int32)) k74 Q) (kx_sI σ 14 x5.toNatClampNeg (σ.1 13 x5.toNatClampNeg)))))
set_option maxHeartbeats 4000000 in
theorem w7_mostIn_L48 {k74 : kx_St → Int32 → Int32 → Prop} {Q : kx_St → Int32 → Prop} (cx : kx_Cx p s m args meth c D cy RX7 cX7_mostIn 6 (some .int)) (hk74 : ∀ (σ : kx_St) (x1 : Int32) (x2 : Int32) (H : Heap) (locs : List Loc) (ls : Array Slot), k74 σ x1 x2 → va_P D vwCl (kx_ws cy 1 ad σ) H → va_D A (kx_ws cy 1 ad σ) → va_S A s.heap H locs → lv_has ls 6 [(0, .ref (ad 0)), (1, .int x1), (2, .int x2)] → W p l e rm7_mostIn s m args below meth c H locs 0 0 (MQ below (kx_Qc kx_ci Q (kx_Wd D cy 1 ad A) A) args s 0 0 A) (F0 m 74 ls [])) : ∀ (n : Nat) (σ : kx_St) (x1 : Int32) (x2 : Int32) (x5 : Int32) (H : Heap) (locs : List Loc) (ls : Array Slot), p7_mostIn_L48 n σ x1 x2 x5 k74 Q → va_P D vwCl (kx_ws cy 1 ad σ) H → va_D A (kx_ws cy 1 ad σ) → va_S A s.heap H locs → lv_has ls 6 [(0, .ref (ad 0)), (1, .int x1), (2, .int x2), (5, .int x5)] → W p l e rm7_mostIn s m args below meth c H locs 0 0 (MQ below (kx_Qc kx_ci Q (kx_Wd D cy 1 ad A) A) args s 0 0 A) (F0 m 48 ls []) := by
  obtain ⟨hx, hb, hr, hlocks, hml, hown, hts, hK⟩ := id cx
  intro n
  induction n with
  | zero => intro _ _ _ _ _ _ _ h; exact False.elim h
  | succ n ih =>
    intro σ x1 x2 x5 H locs ls h hP hD hS hl
    refine lv_iload (pc := 48) hx hb dX7_mostIn_48 (lv_at hl 3 rfl) ?_
    refine lv_iload_n (pc := 50) hx hb dX7_mostIn_50 rfl (lv_at hl 1 rfl) ?_
    refine lv_icmp_ge (pc := 51) (tgt := 74) hx hb dX7_mostIn_51 (by decide) (fun c1 => ?_) (fun c1 => ?_)
    · have h := h.1 c1
      exact hk74 _ _ _ _ _ _ h hP hD hS (lv_sub hl [0, 1, 2] rfl)
    · have h := h.2 c1
      refine lv_aload_n (pc := 54) hx hb dX7_mostIn_54 rfl (lv_at hl 0 rfl) ?_
      refine fg7_53 (pc := 55) (b := 14) hx hb hown hts hK hP rfl rfl dX7_mostIn_55 ?_
      refine lv_iload (pc := 58) hx hb dX7_mostIn_58 (lv_at hl 3 rfl) ?_
      refine lv_aload_n (pc := 60) hx hb dX7_mostIn_60 rfl (lv_at hl 0 rfl) ?_
      refine fg7_50 (pc := 61) (b := 13) hx hb hown hts hK hP rfl rfl dX7_mostIn_61 ?_
      refine lv_iload (pc := 64) hx hb dX7_mostIn_64 (lv_at hl 3 rfl) ?_
      obtain ⟨g2, h⟩ := h
      refine kx_iald (pc := 66) hx hb hK hP rfl g2 dX7_mostIn_66 ?_
      obtain ⟨g3, h⟩ := h
      refine kx_iast (pc := 67) hx hb hK hP hD hS rfl g3 dX7_mostIn_67 (fun H locs hP hD hS => ?_)
      refine lv_iinc (pc := 68) (v := (x5 + (1 : Int32))) (lv' := [(5, .int (x5 + (1 : Int32))), (0, .ref (ad 0)), (1, .int x1), (2, .int x2)]) hx hb dX7_mostIn_68 hl (k := 3) rfl rfl (by decide) rfl (fun ls hl => ?_)
      refine lv_goto (pc := 71) (tgt := 48) hx hb dX7_mostIn_71 (by decide) ?_
      exact ih _ _ _ _ _ _ _ h hP hD hS (lv_sub hl [1, 2, 3, 0] rfl)
def p7_mostIn_J74 (σ : kx_St) (x1 : Int32) (x2 : Int32) (k25 : kx_St → Int32 → Int32 → Int32 → Prop) (Q : kx_St → Int32 → Prop) : Prop := p7_nextLine σ x1 (fun σ2 r1 => k25 σ2 x1 x2 r1)
set_option maxHeartbeats 4000000 in
theorem w7_mostIn_J74 {σ : kx_St} {x1 : Int32} {x2 : Int32} {k25 : kx_St → Int32 → Int32 → Int32 → Prop} {Q : kx_St → Int32 → Prop} {H : Heap} {locs : List Loc} {ls : Array Slot} (cx : kx_Cx p s m args meth c D cy RX7 cX7_mostIn 6 (some .int)) (hk25 : ∀ (σ : kx_St) (x1 : Int32) (x2 : Int32) (x3 : Int32) (H : Heap) (locs : List Loc) (ls : Array Slot), k25 σ x1 x2 x3 → va_P D vwCl (kx_ws cy 1 ad σ) H → va_D A (kx_ws cy 1 ad σ) → va_S A s.heap H locs → lv_has ls 6 [(0, .ref (ad 0)), (1, .int x1), (2, .int x2), (3, .int x3)] → W p l e rm7_mostIn s m args below meth c H locs 0 0 (MQ below (kx_Qc kx_ci Q (kx_Wd D cy 1 ad A) A) args s 0 0 A) (F0 m 25 ls []))  (h : p7_mostIn_J74 σ x1 x2 k25 Q) (hP : va_P D vwCl (kx_ws cy 1 ad σ) H) (hD : va_D A (kx_ws cy 1 ad σ)) (hS : va_S A s.heap H locs) (hl : lv_has ls 6 [(0, .ref (ad 0)), (1, .int x1), (2, .int x2)]) : W p l e rm7_mostIn s m args below meth c H locs 0 0 (MQ below (kx_Qc kx_ci Q (kx_Wd D cy 1 ad A) A) args s 0 0 A) (F0 m 74 ls []) := by
  obtain ⟨hx, hb, hr, hlocks, hml, hown, hts, hK⟩ := id cx
  refine lv_aload_n (pc := 74) hx hb dX7_mostIn_74 rfl (lv_at hl 0 rfl) ?_
  refine lv_iload_n (pc := 75) hx hb dX7_mostIn_75 rfl (lv_at hl 1 rfl) ?_
  refine kx_iVi (pc := 76) [.int x1] hx hb hml hown hts hK hP hD hS (q7_nextLine h) (cw7_215 hts ⟨Nat.le_of_ble_eq_true rfl, Nat.le_of_ble_eq_true rfl⟩) rfl (by decide) rfl rfl hl.1 rfl (Nat.le_of_ble_eq_true rfl) ⟨Nat.le_of_ble_eq_true rfl, Nat.le_of_ble_eq_true rfl⟩ dX7_mostIn_76 (fun r1 σ2 H locs hP hD hS h => ?_)
  refine lv_istore_n (pc := 79) (lv' := [(3, .int r1), (0, .ref (ad 0)), (1, .int x1), (2, .int x2)]) hx hb dX7_mostIn_79 rfl hl (by decide) rfl (fun ls hl => ?_)
  refine lv_goto (pc := 80) (tgt := 25) hx hb dX7_mostIn_80 (by decide) ?_
  exact hk25 _ _ _ _ _ _ _ h hP hD hS (lv_sub hl [1, 2, 3, 0] rfl)
def p7_mostIn_L25 : Nat → kx_St → Int32 → Int32 → Int32 → (kx_St → Int32 → Prop) → Prop
  | 0, _, _, _, _, _ => False
  | n + 1, σ, x1, x2, x3, Q => (x3 = 0 → Q σ x2) ∧ (¬ x3 = 0 → p7_paidBy σ x1 (fun σ3 r2 => (r2 ≤ x2 → p7_mostIn_J74 σ3 x1 x2 (fun σ x1 x2 x3 => p7_mostIn_L25 n σ x1 x2 x3 Q) Q) ∧ (¬ r2 ≤ x2 → ∃ m48, p7_mostIn_L48 m48 σ3 x1 r2 (0 : Int32) (fun σ x1 x2 => p7_mostIn_J74 σ x1 x2 (fun σ x1 x2 x3 => p7_mostIn_L25 n σ x1 x2 x3 Q) Q) Q)))
set_option maxHeartbeats 4000000 in
theorem w7_mostIn_L25  {Q : kx_St → Int32 → Prop} (cx : kx_Cx p s m args meth c D cy RX7 cX7_mostIn 6 (some .int))  : ∀ (n : Nat) (σ : kx_St) (x1 : Int32) (x2 : Int32) (x3 : Int32) (H : Heap) (locs : List Loc) (ls : Array Slot), p7_mostIn_L25 n σ x1 x2 x3 Q → va_P D vwCl (kx_ws cy 1 ad σ) H → va_D A (kx_ws cy 1 ad σ) → va_S A s.heap H locs → lv_has ls 6 [(0, .ref (ad 0)), (1, .int x1), (2, .int x2), (3, .int x3)] → W p l e rm7_mostIn s m args below meth c H locs 0 0 (MQ below (kx_Qc kx_ci Q (kx_Wd D cy 1 ad A) A) args s 0 0 A) (F0 m 25 ls []) := by
  obtain ⟨hx, hb, hr, hlocks, hml, hown, hts, hK⟩ := id cx
  intro n
  induction n with
  | zero => intro _ _ _ _ _ _ _ h; exact False.elim h
  | succ n ih =>
    intro σ x1 x2 x3 H locs ls h hP hD hS hl
    refine lv_iload_n (pc := 25) hx hb dX7_mostIn_25 rfl (lv_at hl 3 rfl) ?_
    refine lv_if_eq (pc := 26) (tgt := 83) hx hb dX7_mostIn_26 (by decide) (fun c1 => ?_) (fun c1 => ?_)
    · have h := h.1 c1
      refine lv_iload_n (pc := 83) hx hb dX7_mostIn_83 rfl (lv_at hl 2 rfl) ?_
      exact kx_iret (pc := 84) hx hb hr hlocks hK hP hD hS h dX7_mostIn_84
    · have h := h.2 c1
      refine lv_aload_n (pc := 29) hx hb dX7_mostIn_29 rfl (lv_at hl 0 rfl) ?_
      refine lv_iload_n (pc := 30) hx hb dX7_mostIn_30 rfl (lv_at hl 1 rfl) ?_
      refine kx_iVi (pc := 31) [.int x1] hx hb hml hown hts hK hP hD hS (q7_paidBy h) (cw7_212 hts ⟨Nat.le_of_ble_eq_true rfl, Nat.le_of_ble_eq_true rfl⟩) rfl (by decide) rfl rfl hl.1 rfl (Nat.le_of_ble_eq_true rfl) ⟨Nat.le_of_ble_eq_true rfl, Nat.le_of_ble_eq_true rfl⟩ dX7_mostIn_31 (fun r2 σ3 H locs hP hD hS h => ?_)
      refine lv_istore (pc := 34) (lv' := [(4, .int r2), (0, .ref (ad 0)), (1, .int x1), (2, .int x2), (3, .int x3)]) hx hb dX7_mostIn_34 hl (by decide) rfl (fun ls hl => ?_)
      refine lv_iload (pc := 36) hx hb dX7_mostIn_36 (lv_at hl 0 rfl) ?_
      refine lv_iload_n (pc := 38) hx hb dX7_mostIn_38 rfl (lv_at hl 3 rfl) ?_
      refine lv_icmp_le (pc := 39) (tgt := 74) hx hb dX7_mostIn_39 (by decide) (fun c4 => ?_) (fun c4 => ?_)
      · have h := h.1 c4
        have hc5 : ∀ (σ : kx_St) (x1 : Int32) (x2 : Int32) (x3 : Int32) (H : Heap) (locs : List Loc) (ls : Array Slot), (fun σ x1 x2 x3 => p7_mostIn_L25 n σ x1 x2 x3 Q) σ x1 x2 x3 → va_P D vwCl (kx_ws cy 1 ad σ) H → va_D A (kx_ws cy 1 ad σ) → va_S A s.heap H locs → lv_has ls 6 [(0, .ref (ad 0)), (1, .int x1), (2, .int x2), (3, .int x3)] → W p l e rm7_mostIn s m args below meth c H locs 0 0 (MQ below (kx_Qc kx_ci Q (kx_Wd D cy 1 ad A) A) args s 0 0 A) (F0 m 25 ls []) := fun σ x1 x2 x3 H locs ls h hP hD hS hl => ih _ _ _ _ _ _ _ h hP hD hS hl
        exact w7_mostIn_J74 cx hc5 h hP hD hS (lv_sub hl [1, 2, 3] rfl)
      · have h := h.2 c4
        refine lv_iload (pc := 42) hx hb dX7_mostIn_42 (lv_at hl 0 rfl) ?_
        refine lv_istore_n (pc := 44) (lv' := [(2, .int r2), (4, .int r2), (0, .ref (ad 0)), (1, .int x1), (3, .int x3)]) hx hb dX7_mostIn_44 rfl hl (by decide) rfl (fun ls hl => ?_)
        refine lv_iconst (pc := 45) (v := (0 : Int32)) hx hb dX7_mostIn_45 (by decide) ?_
        refine lv_istore (pc := 46) (lv' := [(5, .int (0 : Int32)), (2, .int r2), (4, .int r2), (0, .ref (ad 0)), (1, .int x1), (3, .int x3)]) hx hb dX7_mostIn_46 hl (by decide) rfl (fun ls hl => ?_)
        have hc6 : ∀ (σ : kx_St) (x1 : Int32) (x2 : Int32) (H : Heap) (locs : List Loc) (ls : Array Slot), (fun σ x1 x2 => p7_mostIn_J74 σ x1 x2 (fun σ x1 x2 x3 => p7_mostIn_L25 n σ x1 x2 x3 Q) Q) σ x1 x2 → va_P D vwCl (kx_ws cy 1 ad σ) H → va_D A (kx_ws cy 1 ad σ) → va_S A s.heap H locs → lv_has ls 6 [(0, .ref (ad 0)), (1, .int x1), (2, .int x2)] → W p l e rm7_mostIn s m args below meth c H locs 0 0 (MQ below (kx_Qc kx_ci Q (kx_Wd D cy 1 ad A) A) args s 0 0 A) (F0 m 74 ls []) := by
          intro σ x1 x2 H locs ls h hP hD hS hl
          have hc7 : ∀ (σ : kx_St) (x1 : Int32) (x2 : Int32) (x3 : Int32) (H : Heap) (locs : List Loc) (ls : Array Slot), (fun σ x1 x2 x3 => p7_mostIn_L25 n σ x1 x2 x3 Q) σ x1 x2 x3 → va_P D vwCl (kx_ws cy 1 ad σ) H → va_D A (kx_ws cy 1 ad σ) → va_S A s.heap H locs → lv_has ls 6 [(0, .ref (ad 0)), (1, .int x1), (2, .int x2), (3, .int x3)] → W p l e rm7_mostIn s m args below meth c H locs 0 0 (MQ below (kx_Qc kx_ci Q (kx_Wd D cy 1 ad A) A) args s 0 0 A) (F0 m 25 ls []) := fun σ x1 x2 x3 H locs ls h hP hD hS hl => ih _ _ _ _ _ _ _ h hP hD hS hl
          exact w7_mostIn_J74 cx hc7 h hP hD hS hl
        obtain ⟨n0, h⟩ := h
        exact w7_mostIn_L48 cx hc6 n0 _ _ _ _ _ _ _ h hP hD hS (lv_sub hl [3, 4, 1, 0] rfl)
def p7_mostIn_L2 : Nat → kx_St → Int32 → Int32 → (kx_St → Int32 → Prop) → Prop
  | 0, _, _, _, _ => False
  | n + 1, σ, x1, x2, Q => ((6 : Int32) ≤ x2 → ∃ m25, p7_mostIn_L25 m25 σ x1 (-1 : Int32) (1 : Int32) Q) ∧ (¬ (6 : Int32) ≤ x2 → vp_in x2 6 ∧ ((fun σ3 : kx_St => p7_mostIn_L2 n σ3 x1 (x2 + (1 : Int32)) Q) (kx_sI σ 13 x2.toNatClampNeg (0 : Int32))))
set_option maxHeartbeats 4000000 in
theorem w7_mostIn_L2  {Q : kx_St → Int32 → Prop} (cx : kx_Cx p s m args meth c D cy RX7 cX7_mostIn 6 (some .int))  : ∀ (n : Nat) (σ : kx_St) (x1 : Int32) (x2 : Int32) (H : Heap) (locs : List Loc) (ls : Array Slot), p7_mostIn_L2 n σ x1 x2 Q → va_P D vwCl (kx_ws cy 1 ad σ) H → va_D A (kx_ws cy 1 ad σ) → va_S A s.heap H locs → lv_has ls 6 [(0, .ref (ad 0)), (1, .int x1), (2, .int x2)] → W p l e rm7_mostIn s m args below meth c H locs 0 0 (MQ below (kx_Qc kx_ci Q (kx_Wd D cy 1 ad A) A) args s 0 0 A) (F0 m 2 ls []) := by
  obtain ⟨hx, hb, hr, hlocks, hml, hown, hts, hK⟩ := id cx
  intro n
  induction n with
  | zero => intro _ _ _ _ _ _ h; exact False.elim h
  | succ n ih =>
    intro σ x1 x2 H locs ls h hP hD hS hl
    refine lv_iload_n (pc := 2) hx hb dX7_mostIn_2 rfl (lv_at hl 2 rfl) ?_
    refine lv_bipush (pc := 3) (v := (6 : Int32)) hx hb dX7_mostIn_3 (by decide) ?_
    refine lv_icmp_ge (pc := 5) (tgt := 21) hx hb dX7_mostIn_5 (by decide) (fun c1 => ?_) (fun c1 => ?_)
    · have h := h.1 c1
      refine lv_iconst (pc := 21) (v := (-1 : Int32)) hx hb dX7_mostIn_21 (by decide) ?_
      refine lv_istore_n (pc := 22) (lv' := [(2, .int (-1 : Int32)), (0, .ref (ad 0)), (1, .int x1)]) hx hb dX7_mostIn_22 rfl hl (by decide) rfl (fun ls hl => ?_)
      refine lv_iconst (pc := 23) (v := (1 : Int32)) hx hb dX7_mostIn_23 (by decide) ?_
      refine lv_istore_n (pc := 24) (lv' := [(3, .int (1 : Int32)), (2, .int (-1 : Int32)), (0, .ref (ad 0)), (1, .int x1)]) hx hb dX7_mostIn_24 rfl hl (by decide) rfl (fun ls hl => ?_)
      obtain ⟨n0, h⟩ := h
      exact w7_mostIn_L25 cx  n0 _ _ _ _ _ _ _ h hP hD hS (lv_sub hl [2, 3, 1, 0] rfl)
    · have h := h.2 c1
      refine lv_aload_n (pc := 8) hx hb dX7_mostIn_8 rfl (lv_at hl 0 rfl) ?_
      refine fg7_50 (pc := 9) (b := 13) hx hb hown hts hK hP rfl rfl dX7_mostIn_9 ?_
      refine lv_iload_n (pc := 12) hx hb dX7_mostIn_12 rfl (lv_at hl 2 rfl) ?_
      refine lv_iconst (pc := 13) (v := (0 : Int32)) hx hb dX7_mostIn_13 (by decide) ?_
      obtain ⟨g2, h⟩ := h
      refine kx_iast (pc := 14) hx hb hK hP hD hS rfl g2 dX7_mostIn_14 (fun H locs hP hD hS => ?_)
      refine lv_iinc (pc := 15) (v := (x2 + (1 : Int32))) (lv' := [(2, .int (x2 + (1 : Int32))), (0, .ref (ad 0)), (1, .int x1)]) hx hb dX7_mostIn_15 hl (k := 2) rfl rfl (by decide) rfl (fun ls hl => ?_)
      refine lv_goto (pc := 18) (tgt := 2) hx hb dX7_mostIn_18 (by decide) ?_
      exact ih _ _ _ _ _ _ h hP hD hS (lv_sub hl [1, 2, 0] rfl)
def p7_mostIn (σ : kx_St) (x1 : Int32) (Q : kx_St → Int32 → Prop) : Prop := ∃ m2, p7_mostIn_L2 m2 σ x1 (0 : Int32) Q
set_option maxHeartbeats 4000000 in
theorem q7_mostIn {σ : kx_St} {x1 : Int32} {Q : kx_St → Int32 → Prop} (h : p7_mostIn σ x1 Q) : Met l yX7_mostIn (Cond.code yX7_mostIn cX7_mostIn 6 (some .int) :: kx_big) rm7_mostIn (va_Pc [.ref (ad 0), .int x1] (kx_Wd D cy 1 ad A σ)) (kx_Qc kx_ci Q (kx_Wd D cy 1 ad A) A) 0 0 A := by
  refine kx_head (plainFor_of_name (by decide)) (Nat.le_of_ble_eq_true rfl) ?_
  intro p e s m below meth c ls cx hP hD hS hl
  obtain ⟨hx, hb, hr, hlocks, hml, hown, hts, hK⟩ := id cx
  have hl : lv_has ls 6 [(0, .ref (ad 0)), (1, .int x1)] := hl
  refine lv_iconst (pc := 0) (v := (0 : Int32)) hx hb dX7_mostIn_0 (by decide) ?_
  refine lv_istore_n (pc := 1) (lv' := [(2, .int (0 : Int32)), (0, .ref (ad 0)), (1, .int x1)]) hx hb dX7_mostIn_1 rfl hl (by decide) rfl (fun ls hl => ?_)
  obtain ⟨n0, h⟩ := h
  exact w7_mostIn_L2 cx  n0 _ _ _ _ _ _ h hP hD hS (lv_sub hl [1, 2, 0] rfl)
def p7_tellLine_J45 (σ : kx_St) (x1 : Int32) (x2 : Int32) (x3 : Int32) (s0 : Nat) (s1 : Int32) (s2 : Int32) (k8 : kx_St → Int32 → Int32 → Int32 → Prop) (Q : kx_St → Prop) : Prop := vp_in s1 (kx_l 1 s0) ∧ ((fun σ2 : kx_St => k8 σ2 x1 x2 (x3 + (1 : Int32))) (kx_sI σ s0 s1.toNatClampNeg s2))
set_option maxHeartbeats 4000000 in
theorem w7_tellLine_J45 {σ : kx_St} {x1 : Int32} {x2 : Int32} {x3 : Int32} {s0 : Nat} {s1 : Int32} {s2 : Int32} {k8 : kx_St → Int32 → Int32 → Int32 → Prop} {Q : kx_St → Prop} {H : Heap} {locs : List Loc} {ls : Array Slot} (cx : kx_Cx p s m args meth c D cy RX7 cX7_tellLine 4 none) (hk8 : ∀ (σ : kx_St) (x1 : Int32) (x2 : Int32) (x3 : Int32) (H : Heap) (locs : List Loc) (ls : Array Slot), k8 σ x1 x2 x3 → va_P D vwCl (kx_ws cy 1 ad σ) H → va_D A (kx_ws cy 1 ad σ) → va_S A s.heap H locs → lv_has ls 4 [(0, .ref (ad 0)), (1, .int x1), (2, .int x2), (3, .int x3)] → W p l e rm7_tellLine s m args below meth c H locs 0 0 (MQ below (kx_Qc kx_cv (fun u _ => Q u) (kx_Wd D cy 1 ad A) A) args s 0 0 A) (F0 m 8 ls [])) (hk_s0 : kx_k 1 s0 = 8) (h : p7_tellLine_J45 σ x1 x2 x3 s0 s1 s2 k8 Q) (hP : va_P D vwCl (kx_ws cy 1 ad σ) H) (hD : va_D A (kx_ws cy 1 ad σ)) (hS : va_S A s.heap H locs) (hl : lv_has ls 4 [(0, .ref (ad 0)), (1, .int x1), (2, .int x2), (3, .int x3)]) : W p l e rm7_tellLine s m args below meth c H locs 0 0 (MQ below (kx_Qc kx_cv (fun u _ => Q u) (kx_Wd D cy 1 ad A) A) args s 0 0 A) (F0 m 45 ls [.int s2, .int s1, .ref (ad s0)]) := by
  obtain ⟨hx, hb, hr, hlocks, hml, hown, hts, hK⟩ := id cx
  obtain ⟨g1, h⟩ := h
  refine kx_iast (pc := 45) hx hb hK hP hD hS hk_s0 g1 dX7_tellLine_45 (fun H locs hP hD hS => ?_)
  refine lv_iinc (pc := 46) (v := (x3 + (1 : Int32))) (lv' := [(3, .int (x3 + (1 : Int32))), (0, .ref (ad 0)), (1, .int x1), (2, .int x2)]) hx hb dX7_tellLine_46 hl (k := 3) rfl rfl (by decide) rfl (fun ls hl => ?_)
  refine lv_goto (pc := 49) (tgt := 8) hx hb dX7_tellLine_49 (by decide) ?_
  exact hk8 _ _ _ _ _ _ _ h hP hD hS (lv_sub hl [1, 2, 3, 0] rfl)
def p7_tellLine_L8 : Nat → kx_St → Int32 → Int32 → Int32 → (kx_St → Prop) → Prop
  | 0, _, _, _, _, _ => False
  | n + 1, σ, x1, x2, x3, Q => (x1 ≤ x3 → Q σ) ∧ (¬ x1 ≤ x3 → vp_in x3 6 ∧ ((¬ (σ.1 14 x3.toNatClampNeg) = 0 → vp_in x3 6 ∧ (p7_tellLine_J45 σ x1 x2 x3 7 (((40 : Int32) * x2) + x3) ((σ.1 14 x3.toNatClampNeg) - (1 : Int32)) (fun σ x1 x2 x3 => p7_tellLine_L8 n σ x1 x2 x3 Q) Q)) ∧ ((σ.1 14 x3.toNatClampNeg) = 0 → p7_tellLine_J45 σ x1 x2 x3 7 (((40 : Int32) * x2) + x3) (-9 : Int32) (fun σ x1 x2 x3 => p7_tellLine_L8 n σ x1 x2 x3 Q) Q)))
set_option maxHeartbeats 4000000 in
theorem w7_tellLine_L8  {Q : kx_St → Prop} (cx : kx_Cx p s m args meth c D cy RX7 cX7_tellLine 4 none)  : ∀ (n : Nat) (σ : kx_St) (x1 : Int32) (x2 : Int32) (x3 : Int32) (H : Heap) (locs : List Loc) (ls : Array Slot), p7_tellLine_L8 n σ x1 x2 x3 Q → va_P D vwCl (kx_ws cy 1 ad σ) H → va_D A (kx_ws cy 1 ad σ) → va_S A s.heap H locs → lv_has ls 4 [(0, .ref (ad 0)), (1, .int x1), (2, .int x2), (3, .int x3)] → W p l e rm7_tellLine s m args below meth c H locs 0 0 (MQ below (kx_Qc kx_cv (fun u _ => Q u) (kx_Wd D cy 1 ad A) A) args s 0 0 A) (F0 m 8 ls []) := by
  obtain ⟨hx, hb, hr, hlocks, hml, hown, hts, hK⟩ := id cx
  intro n
  induction n with
  | zero => intro _ _ _ _ _ _ _ h; exact False.elim h
  | succ n ih =>
    intro σ x1 x2 x3 H locs ls h hP hD hS hl
    refine lv_iload_n (pc := 8) hx hb dX7_tellLine_8 rfl (lv_at hl 3 rfl) ?_
    refine lv_iload_n (pc := 9) hx hb dX7_tellLine_9 rfl (lv_at hl 1 rfl) ?_
    refine lv_icmp_ge (pc := 10) (tgt := 52) hx hb dX7_tellLine_10 (by decide) (fun c1 => ?_) (fun c1 => ?_)
    · have h := h.1 c1
      exact kx_vret (pc := 52) hx hb hr hlocks hK hP hD hS h dX7_tellLine_52
    · have h := h.2 c1
      refine lv_aload_n (pc := 13) hx hb dX7_tellLine_13 rfl (lv_at hl 0 rfl) ?_
      refine fg7_28 (pc := 14) (b := 7) hx hb hown hts hK hP rfl rfl dX7_tellLine_14 ?_
      refine lv_bipush (pc := 17) (v := (40 : Int32)) hx hb dX7_tellLine_17 (by decide) ?_
      refine lv_iload_n (pc := 19) hx hb dX7_tellLine_19 rfl (lv_at hl 2 rfl) ?_
      refine lv_imul (pc := 20) hx hb dX7_tellLine_20 ?_
      refine lv_iload_n (pc := 21) hx hb dX7_tellLine_21 rfl (lv_at hl 3 rfl) ?_
      refine lv_iadd (pc := 22) hx hb dX7_tellLine_22 ?_
      refine lv_aload_n (pc := 23) hx hb dX7_tellLine_23 rfl (lv_at hl 0 rfl) ?_
      refine fg7_53 (pc := 24) (b := 14) hx hb hown hts hK hP rfl rfl dX7_tellLine_24 ?_
      refine lv_iload_n (pc := 27) hx hb dX7_tellLine_27 rfl (lv_at hl 3 rfl) ?_
      obtain ⟨g2, h⟩ := h
      refine kx_iald (pc := 28) hx hb hK hP rfl g2 dX7_tellLine_28 ?_
      refine lv_if_ne (pc := 29) (tgt := 37) hx hb dX7_tellLine_29 (by decide) (fun c3 => ?_) (fun c3 => ?_)
      · have h := h.1 c3
        refine lv_aload_n (pc := 37) hx hb dX7_tellLine_37 rfl (lv_at hl 0 rfl) ?_
        refine fg7_53 (pc := 38) (b := 14) hx hb hown hts hK hP rfl rfl dX7_tellLine_38 ?_
        refine lv_iload_n (pc := 41) hx hb dX7_tellLine_41 rfl (lv_at hl 3 rfl) ?_
        obtain ⟨g4, h⟩ := h
        refine kx_iald (pc := 42) hx hb hK hP rfl g4 dX7_tellLine_42 ?_
        refine lv_iconst (pc := 43) (v := (1 : Int32)) hx hb dX7_tellLine_43 (by decide) ?_
        refine lv_isub (pc := 44) hx hb dX7_tellLine_44 ?_
        have hc5 : ∀ (σ : kx_St) (x1 : Int32) (x2 : Int32) (x3 : Int32) (H : Heap) (locs : List Loc) (ls : Array Slot), (fun σ x1 x2 x3 => p7_tellLine_L8 n σ x1 x2 x3 Q) σ x1 x2 x3 → va_P D vwCl (kx_ws cy 1 ad σ) H → va_D A (kx_ws cy 1 ad σ) → va_S A s.heap H locs → lv_has ls 4 [(0, .ref (ad 0)), (1, .int x1), (2, .int x2), (3, .int x3)] → W p l e rm7_tellLine s m args below meth c H locs 0 0 (MQ below (kx_Qc kx_cv (fun u _ => Q u) (kx_Wd D cy 1 ad A) A) args s 0 0 A) (F0 m 8 ls []) := fun σ x1 x2 x3 H locs ls h hP hD hS hl => ih _ _ _ _ _ _ _ h hP hD hS hl
        exact w7_tellLine_J45 cx hc5 rfl h hP hD hS (lv_sub hl [0, 1, 2, 3] rfl)
      · have h := h.2 c3
        refine lv_bipush (pc := 32) (v := (-9 : Int32)) hx hb dX7_tellLine_32 (by decide) ?_
        refine lv_goto (pc := 34) (tgt := 45) hx hb dX7_tellLine_34 (by decide) ?_
        have hc6 : ∀ (σ : kx_St) (x1 : Int32) (x2 : Int32) (x3 : Int32) (H : Heap) (locs : List Loc) (ls : Array Slot), (fun σ x1 x2 x3 => p7_tellLine_L8 n σ x1 x2 x3 Q) σ x1 x2 x3 → va_P D vwCl (kx_ws cy 1 ad σ) H → va_D A (kx_ws cy 1 ad σ) → va_S A s.heap H locs → lv_has ls 4 [(0, .ref (ad 0)), (1, .int x1), (2, .int x2), (3, .int x3)] → W p l e rm7_tellLine s m args below meth c H locs 0 0 (MQ below (kx_Qc kx_cv (fun u _ => Q u) (kx_Wd D cy 1 ad A) A) args s 0 0 A) (F0 m 8 ls []) := fun σ x1 x2 x3 H locs ls h hP hD hS hl => ih _ _ _ _ _ _ _ h hP hD hS hl
        exact w7_tellLine_J45 cx hc6 rfl h hP hD hS (lv_sub hl [0, 1, 2, 3] rfl)
def p7_tellLine (σ : kx_St) (x1 : Int32) (x2 : Int32) (Q : kx_St → Prop) : Prop := p7_makeRow σ x2 x1 (fun σ2 => ∃ m8, p7_tellLine_L8 m8 σ2 x1 x2 (0 : Int32) Q)
set_option maxHeartbeats 4000000 in
theorem q7_tellLine {σ : kx_St} {x1 : Int32} {x2 : Int32} {Q : kx_St → Prop} (h : p7_tellLine σ x1 x2 Q) : Met l yX7_tellLine (Cond.code yX7_tellLine cX7_tellLine 4 none :: kx_big) rm7_tellLine (va_Pc [.ref (ad 0), .int x1, .int x2] (kx_Wd D cy 1 ad A σ)) (kx_Qc kx_cv (fun u _ => Q u) (kx_Wd D cy 1 ad A) A) 0 0 A := by
  refine kx_head (plainFor_of_name (by decide)) (Nat.le_of_ble_eq_true rfl) ?_
  intro p e s m below meth c ls cx hP hD hS hl
  obtain ⟨hx, hb, hr, hlocks, hml, hown, hts, hK⟩ := id cx
  have hl : lv_has ls 4 [(0, .ref (ad 0)), (1, .int x1), (2, .int x2)] := hl
  refine lv_aload_n (pc := 0) hx hb dX7_tellLine_0 rfl (lv_at hl 0 rfl) ?_
  refine lv_iload_n (pc := 1) hx hb dX7_tellLine_1 rfl (lv_at hl 2 rfl) ?_
  refine lv_iload_n (pc := 2) hx hb dX7_tellLine_2 rfl (lv_at hl 1 rfl) ?_
  refine kx_iVv (pc := 3) [.int x2, .int x1] hx hb hml hown hts hK hP hD hS (q7_makeRow h) (cw7_91 hts ⟨Nat.le_of_ble_eq_true rfl, Nat.le_of_ble_eq_true rfl⟩) rfl (by decide) rfl rfl hl.1 rfl (Nat.le_of_ble_eq_true rfl) ⟨Nat.le_of_ble_eq_true rfl, Nat.le_of_ble_eq_true rfl⟩ dX7_tellLine_3 (fun _ σ2 H locs hP hD hS h => ?_)
  refine lv_iconst (pc := 6) (v := (0 : Int32)) hx hb dX7_tellLine_6 (by decide) ?_
  refine lv_istore_n (pc := 7) (lv' := [(3, .int (0 : Int32)), (0, .ref (ad 0)), (1, .int x1), (2, .int x2)]) hx hb dX7_tellLine_7 rfl hl (by decide) rfl (fun ls hl => ?_)
  obtain ⟨n0, h⟩ := h
  exact w7_tellLine_L8 cx  n0 _ _ _ _ _ _ _ h hP hD hS (lv_sub hl [1, 2, 3, 0] rfl)
def p7_most (σ : kx_St) (x1 : Int32) (x2 : Int32) (Q : kx_St → Int32 → Prop) : Prop := p7_in (x1.toInt64) (0 : Int64) (5 : Int64) (fun r1 => (r1 = 0 → Q σ (-1 : Int32)) ∧ (¬ r1 = 0 → p7_isRow x2 (fun r3 => (¬ r3 = 0 → (¬ (σ.1 0 3) = 0 → p7_mostIn σ x1 (fun σ7 r6 => p7_tellLine σ7 x1 x2 (fun σ9 => Q σ9 r6))) ∧ ((σ.1 0 3) = 0 → Q σ (-4 : Int32))) ∧ (r3 = 0 → Q σ (-1 : Int32)))))
set_option maxHeartbeats 4000000 in
theorem q7_most {σ : kx_St} {x1 : Int32} {x2 : Int32} {Q : kx_St → Int32 → Prop} (h : p7_most σ x1 x2 Q) : Met l yX7_most (Cond.code yX7_most cX7_most 4 (some .int) :: kx_big) rm7_most (va_Pc [.ref (ad 0), .int x1, .int x2] (kx_Wd D cy 1 ad A σ)) (kx_Qc kx_ci Q (kx_Wd D cy 1 ad A) A) 0 0 A := by
  refine kx_head (plainFor_of_name (by decide)) (Nat.le_of_ble_eq_true rfl) ?_
  intro p e s m below meth c ls cx hP hD hS hl
  obtain ⟨hx, hb, hr, hlocks, hml, hown, hts, hK⟩ := id cx
  have hl : lv_has ls 4 [(0, .ref (ad 0)), (1, .int x1), (2, .int x2)] := hl
  refine lv_iload_n (pc := 0) hx hb dX7_most_0 rfl (lv_at hl 1 rfl) ?_
  refine lv_i2l (pc := 1) (v := (x1.toInt64)) hx hb dX7_most_1 rfl ?_
  refine lv_lconst (pc := 2) (v := (0 : Int64)) hx hb dX7_most_2 (by decide) ?_
  refine lv_ldc2 (pc := 3) (v := (5 : Int64)) hx hb hown (hts _ tb_816) dX7_most_3 ?_
  refine kx_iSi (pc := 6) [.long (x1.toInt64), .long (0 : Int64), .long (5 : Int64)] hx hb hml hown hts hK hP hD hS (q7_in h) (cw7_77 hts ⟨Nat.le_of_ble_eq_true rfl, Nat.le_of_ble_eq_true rfl⟩) rfl hl.1 rfl (Nat.le_of_ble_eq_true rfl) ⟨Nat.le_of_ble_eq_true rfl, Nat.le_of_ble_eq_true rfl⟩ dX7_most_6 (fun r1 u_ H locs hP hD hS h => ?_)
  obtain ⟨hu_, h⟩ := h
  rw [hu_] at hP hD
  refine lv_if_eq (pc := 9) (tgt := 19) hx hb dX7_most_9 (by decide) (fun c2 => ?_) (fun c2 => ?_)
  · have h := h.1 c2
    refine lv_iconst (pc := 19) (v := (-1 : Int32)) hx hb dX7_most_19 (by decide) ?_
    exact kx_iret (pc := 20) hx hb hr hlocks hK hP hD hS h dX7_most_20
  · have h := h.2 c2
    refine lv_iload_n (pc := 12) hx hb dX7_most_12 rfl (lv_at hl 2 rfl) ?_
    refine kx_iSi (pc := 13) [.int x2] hx hb hml hown hts hK hP hD hS (q7_isRow h) (cw7_83 hts ⟨Nat.le_of_ble_eq_true rfl, Nat.le_of_ble_eq_true rfl⟩) rfl hl.1 rfl (Nat.le_of_ble_eq_true rfl) ⟨Nat.le_of_ble_eq_true rfl, Nat.le_of_ble_eq_true rfl⟩ dX7_most_13 (fun r3 u_ H locs hP hD hS h => ?_)
    obtain ⟨hu_, h⟩ := h
    rw [hu_] at hP hD
    refine lv_if_ne (pc := 16) (tgt := 21) hx hb dX7_most_16 (by decide) (fun c4 => ?_) (fun c4 => ?_)
    · have h := h.1 c4
      refine lv_aload_n (pc := 21) hx hb dX7_most_21 rfl (lv_at hl 0 rfl) ?_
      refine fg7_150 (pc := 22) hx hb hown hts hK hP rfl dX7_most_22 ?_
      refine lv_if_ne (pc := 25) (tgt := 31) hx hb dX7_most_25 (by decide) (fun c5 => ?_) (fun c5 => ?_)
      · have h := h.1 c5
        refine lv_aload_n (pc := 31) hx hb dX7_most_31 rfl (lv_at hl 0 rfl) ?_
        refine lv_iload_n (pc := 32) hx hb dX7_most_32 rfl (lv_at hl 1 rfl) ?_
        refine kx_iVi (pc := 33) [.int x1] hx hb hml hown hts hK hP hD hS (q7_mostIn h) (cw7_218 hts ⟨Nat.le_of_ble_eq_true rfl, Nat.le_of_ble_eq_true rfl⟩) rfl (by decide) rfl rfl hl.1 rfl (Nat.le_of_ble_eq_true rfl) ⟨Nat.le_of_ble_eq_true rfl, Nat.le_of_ble_eq_true rfl⟩ dX7_most_33 (fun r6 σ7 H locs hP hD hS h => ?_)
        refine lv_istore_n (pc := 36) (lv' := [(3, .int r6), (0, .ref (ad 0)), (1, .int x1), (2, .int x2)]) hx hb dX7_most_36 rfl hl (by decide) rfl (fun ls hl => ?_)
        refine lv_aload_n (pc := 37) hx hb dX7_most_37 rfl (lv_at hl 1 rfl) ?_
        refine lv_iload_n (pc := 38) hx hb dX7_most_38 rfl (lv_at hl 2 rfl) ?_
        refine lv_iload_n (pc := 39) hx hb dX7_most_39 rfl (lv_at hl 3 rfl) ?_
        refine kx_iVv (pc := 40) [.int x1, .int x2] hx hb hml hown hts hK hP hD hS (q7_tellLine h) (cw7_221 hts ⟨Nat.le_of_ble_eq_true rfl, Nat.le_of_ble_eq_true rfl⟩) rfl (by decide) rfl rfl hl.1 rfl (Nat.le_of_ble_eq_true rfl) ⟨Nat.le_of_ble_eq_true rfl, Nat.le_of_ble_eq_true rfl⟩ dX7_most_40 (fun _ σ9 H locs hP hD hS h => ?_)
        refine lv_iload_n (pc := 43) hx hb dX7_most_43 rfl (lv_at hl 0 rfl) ?_
        exact kx_iret (pc := 44) hx hb hr hlocks hK hP hD hS h dX7_most_44
      · have h := h.2 c5
        refine lv_bipush (pc := 28) (v := (-4 : Int32)) hx hb dX7_most_28 (by decide) ?_
        exact kx_iret (pc := 30) hx hb hr hlocks hK hP hD hS h dX7_most_30
    · have h := h.2 c4
      refine lv_iconst (pc := 19) (v := (-1 : Int32)) hx hb dX7_most_19 (by decide) ?_
      exact kx_iret (pc := 20) hx hb hr hlocks hK hP hD hS h dX7_most_20
def p7_school_L21 : Nat → kx_St → Int32 → Int32 → (kx_St → Int32 → Prop) → Prop
  | 0, _, _, _, _ => False
  | n + 1, σ, x1, x2, Q => ((6 : Int32) ≤ x2 → Q σ (-9 : Int32)) ∧ (¬ (6 : Int32) ≤ x2 → p7_paidIn σ (0 : Int32) (fun r2 => p7_mostIn σ x2 (fun σ4 r3 => ((r2 + r3) < (σ4.1 0 2) → p7_school_L21 n σ4 x1 (x2 + (1 : Int32)) Q) ∧ (¬ (r2 + r3) < (σ4.1 0 2) → p7_tellLine σ4 x2 x1 (fun σ7 => Q σ7 x2)))))
set_option maxHeartbeats 4000000 in
theorem w7_school_L21  {Q : kx_St → Int32 → Prop} (cx : kx_Cx p s m args meth c D cy RX7 cX7_school 3 (some .int))  : ∀ (n : Nat) (σ : kx_St) (x1 : Int32) (x2 : Int32) (H : Heap) (locs : List Loc) (ls : Array Slot), p7_school_L21 n σ x1 x2 Q → va_P D vwCl (kx_ws cy 1 ad σ) H → va_D A (kx_ws cy 1 ad σ) → va_S A s.heap H locs → lv_has ls 3 [(0, .ref (ad 0)), (1, .int x1), (2, .int x2)] → W p l e rm7_school s m args below meth c H locs 0 0 (MQ below (kx_Qc kx_ci Q (kx_Wd D cy 1 ad A) A) args s 0 0 A) (F0 m 21 ls []) := by
  obtain ⟨hx, hb, hr, hlocks, hml, hown, hts, hK⟩ := id cx
  intro n
  induction n with
  | zero => intro _ _ _ _ _ _ h; exact False.elim h
  | succ n ih =>
    intro σ x1 x2 H locs ls h hP hD hS hl
    refine lv_iload_n (pc := 21) hx hb dX7_school_21 rfl (lv_at hl 2 rfl) ?_
    refine lv_bipush (pc := 22) (v := (6 : Int32)) hx hb dX7_school_22 (by decide) ?_
    refine lv_icmp_ge (pc := 24) (tgt := 59) hx hb dX7_school_24 (by decide) (fun c1 => ?_) (fun c1 => ?_)
    · have h := h.1 c1
      refine lv_bipush (pc := 59) (v := (-9 : Int32)) hx hb dX7_school_59 (by decide) ?_
      exact kx_iret (pc := 61) hx hb hr hlocks hK hP hD hS h dX7_school_61
    · have h := h.2 c1
      refine lv_aload_n (pc := 27) hx hb dX7_school_27 rfl (lv_at hl 0 rfl) ?_
      refine lv_iconst (pc := 28) (v := (0 : Int32)) hx hb dX7_school_28 (by decide) ?_
      refine kx_iVi (pc := 29) [.int (0 : Int32)] hx hb hml hown hts hK hP hD hS (q7_paidIn h) (cw7_224 hts ⟨Nat.le_of_ble_eq_true rfl, Nat.le_of_ble_eq_true rfl⟩) rfl (by decide) rfl rfl hl.1 rfl (Nat.le_of_ble_eq_true rfl) ⟨Nat.le_of_ble_eq_true rfl, Nat.le_of_ble_eq_true rfl⟩ dX7_school_29 (fun r2 u_ H locs hP hD hS h => ?_)
      obtain ⟨hu_, h⟩ := h
      rw [hu_] at hP hD
      refine lv_aload_n (pc := 32) hx hb dX7_school_32 rfl (lv_at hl 0 rfl) ?_
      refine lv_iload_n (pc := 33) hx hb dX7_school_33 rfl (lv_at hl 2 rfl) ?_
      refine kx_iVi (pc := 34) [.int x2] hx hb hml hown hts hK hP hD hS (q7_mostIn h) (cw7_218 hts ⟨Nat.le_of_ble_eq_true rfl, Nat.le_of_ble_eq_true rfl⟩) rfl (by decide) rfl rfl hl.1 rfl (Nat.le_of_ble_eq_true rfl) ⟨Nat.le_of_ble_eq_true rfl, Nat.le_of_ble_eq_true rfl⟩ dX7_school_34 (fun r3 σ4 H locs hP hD hS h => ?_)
      refine lv_iadd (pc := 37) hx hb dX7_school_37 ?_
      refine lv_aload_n (pc := 38) hx hb dX7_school_38 rfl (lv_at hl 0 rfl) ?_
      refine fg7_147 (pc := 39) hx hb hown hts hK hP rfl dX7_school_39 ?_
      refine lv_icmp_lt (pc := 42) (tgt := 53) hx hb dX7_school_42 (by decide) (fun c5 => ?_) (fun c5 => ?_)
      · have h := h.1 c5
        refine lv_iinc (pc := 53) (v := (x2 + (1 : Int32))) (lv' := [(2, .int (x2 + (1 : Int32))), (0, .ref (ad 0)), (1, .int x1)]) hx hb dX7_school_53 hl (k := 2) rfl rfl (by decide) rfl (fun ls hl => ?_)
        refine lv_goto (pc := 56) (tgt := 21) hx hb dX7_school_56 (by decide) ?_
        exact ih _ _ _ _ _ _ h hP hD hS (lv_sub hl [1, 2, 0] rfl)
      · have h := h.2 c5
        refine lv_aload_n (pc := 45) hx hb dX7_school_45 rfl (lv_at hl 0 rfl) ?_
        refine lv_iload_n (pc := 46) hx hb dX7_school_46 rfl (lv_at hl 2 rfl) ?_
        refine lv_iload_n (pc := 47) hx hb dX7_school_47 rfl (lv_at hl 1 rfl) ?_
        refine kx_iVv (pc := 48) [.int x2, .int x1] hx hb hml hown hts hK hP hD hS (q7_tellLine h) (cw7_221 hts ⟨Nat.le_of_ble_eq_true rfl, Nat.le_of_ble_eq_true rfl⟩) rfl (by decide) rfl rfl hl.1 rfl (Nat.le_of_ble_eq_true rfl) ⟨Nat.le_of_ble_eq_true rfl, Nat.le_of_ble_eq_true rfl⟩ dX7_school_48 (fun _ σ7 H locs hP hD hS h => ?_)
        refine lv_iload_n (pc := 51) hx hb dX7_school_51 rfl (lv_at hl 2 rfl) ?_
        exact kx_iret (pc := 52) hx hb hr hlocks hK hP hD hS h dX7_school_52
def p7_school (σ : kx_St) (x1 : Int32) (Q : kx_St → Int32 → Prop) : Prop := p7_isRow x1 (fun r1 => (¬ r1 = 0 → (¬ (σ.1 0 3) = 0 → ∃ m21, p7_school_L21 m21 σ x1 (0 : Int32) Q) ∧ ((σ.1 0 3) = 0 → Q σ (-4 : Int32))) ∧ (r1 = 0 → Q σ (-1 : Int32)))
set_option maxHeartbeats 4000000 in
theorem q7_school {σ : kx_St} {x1 : Int32} {Q : kx_St → Int32 → Prop} (h : p7_school σ x1 Q) : Met l yX7_school (Cond.code yX7_school cX7_school 3 (some .int) :: kx_big) rm7_school (va_Pc [.ref (ad 0), .int x1] (kx_Wd D cy 1 ad A σ)) (kx_Qc kx_ci Q (kx_Wd D cy 1 ad A) A) 0 0 A := by
  refine kx_head (plainFor_of_name (by decide)) (Nat.le_of_ble_eq_true rfl) ?_
  intro p e s m below meth c ls cx hP hD hS hl
  obtain ⟨hx, hb, hr, hlocks, hml, hown, hts, hK⟩ := id cx
  have hl : lv_has ls 3 [(0, .ref (ad 0)), (1, .int x1)] := hl
  refine lv_iload_n (pc := 0) hx hb dX7_school_0 rfl (lv_at hl 1 rfl) ?_
  refine kx_iSi (pc := 1) [.int x1] hx hb hml hown hts hK hP hD hS (q7_isRow h) (cw7_83 hts ⟨Nat.le_of_ble_eq_true rfl, Nat.le_of_ble_eq_true rfl⟩) rfl hl.1 rfl (Nat.le_of_ble_eq_true rfl) ⟨Nat.le_of_ble_eq_true rfl, Nat.le_of_ble_eq_true rfl⟩ dX7_school_1 (fun r1 u_ H locs hP hD hS h => ?_)
  obtain ⟨hu_, h⟩ := h
  rw [hu_] at hP hD
  refine lv_if_ne (pc := 4) (tgt := 9) hx hb dX7_school_4 (by decide) (fun c2 => ?_) (fun c2 => ?_)
  · have h := h.1 c2
    refine lv_aload_n (pc := 9) hx hb dX7_school_9 rfl (lv_at hl 0 rfl) ?_
    refine fg7_150 (pc := 10) hx hb hown hts hK hP rfl dX7_school_10 ?_
    refine lv_if_ne (pc := 13) (tgt := 19) hx hb dX7_school_13 (by decide) (fun c3 => ?_) (fun c3 => ?_)
    · have h := h.1 c3
      refine lv_iconst (pc := 19) (v := (0 : Int32)) hx hb dX7_school_19 (by decide) ?_
      refine lv_istore_n (pc := 20) (lv' := [(2, .int (0 : Int32)), (0, .ref (ad 0)), (1, .int x1)]) hx hb dX7_school_20 rfl hl (by decide) rfl (fun ls hl => ?_)
      obtain ⟨n0, h⟩ := h
      exact w7_school_L21 cx  n0 _ _ _ _ _ _ h hP hD hS (lv_sub hl [1, 2, 0] rfl)
    · have h := h.2 c3
      refine lv_bipush (pc := 16) (v := (-4 : Int32)) hx hb dX7_school_16 (by decide) ?_
      exact kx_iret (pc := 18) hx hb hr hlocks hK hP hD hS h dX7_school_18
  · have h := h.2 c2
    refine lv_iconst (pc := 7) (v := (-1 : Int32)) hx hb dX7_school_7 (by decide) ?_
    exact kx_iret (pc := 8) hx hb hr hlocks hK hP hD hS h dX7_school_8
def p7_isFlying_J71 (σ : kx_St) (x1 : Int32) (x2 : Int32) (x4 : Int32) (x5 : Int32) (s0 : Int32) (k12 : Int32 → Int32 → Int32 → Int32 → Prop) (Q : Int32 → Prop) : Prop := p7_isKite σ x5 (fun r1 => (r1 = 0 → k12 x1 (x2 ||| (0 : Int32)) s0 (x4 + (1 : Int32))) ∧ (¬ r1 = 0 → k12 x1 (x2 ||| ((1 : Int32) <<< (x5 &&& 31))) s0 (x4 + (1 : Int32))))
set_option maxHeartbeats 4000000 in
theorem w7_isFlying_J71 {σ : kx_St} {x1 : Int32} {x2 : Int32} {x4 : Int32} {x5 : Int32} {s0 : Int32} {k12 : Int32 → Int32 → Int32 → Int32 → Prop} {Q : Int32 → Prop} {H : Heap} {locs : List Loc} {ls : Array Slot} (cx : kx_Cx p s m args meth c D cy RX7 cX7_isFlying 6 (some .boolean)) (hk12 : ∀ (x1 : Int32) (x2 : Int32) (x3 : Int32) (x4 : Int32) (H : Heap) (locs : List Loc) (ls : Array Slot), k12 x1 x2 x3 x4 → va_P D vwCl (kx_ws cy 1 ad σ) H → va_D A (kx_ws cy 1 ad σ) → va_S A s.heap H locs → lv_has ls 6 [(0, .ref (ad 0)), (1, .int x1), (2, .int x2), (3, .int x3), (4, .int x4)] → W p l e rm7_isFlying s m args below meth c H locs 0 0 (MQ below (kx_Qc kx_ci (fun u r => u = σ ∧ Q r) (kx_Wd D cy 1 ad A) A) args s 0 0 A) (F0 m 12 ls []))  (h : p7_isFlying_J71 σ x1 x2 x4 x5 s0 k12 Q) (hP : va_P D vwCl (kx_ws cy 1 ad σ) H) (hD : va_D A (kx_ws cy 1 ad σ)) (hS : va_S A s.heap H locs) (hl : lv_has ls 6 [(0, .ref (ad 0)), (1, .int x1), (2, .int x2), (4, .int x4), (5, .int x5)]) : W p l e rm7_isFlying s m args below meth c H locs 0 0 (MQ below (kx_Qc kx_ci (fun u r => u = σ ∧ Q r) (kx_Wd D cy 1 ad A) A) args s 0 0 A) (F0 m 71 ls [.int s0]) := by
  obtain ⟨hx, hb, hr, hlocks, hml, hown, hts, hK⟩ := id cx
  refine lv_istore_n (pc := 71) (lv' := [(3, .int s0), (0, .ref (ad 0)), (1, .int x1), (2, .int x2), (4, .int x4), (5, .int x5)]) hx hb dX7_isFlying_71 rfl hl (by decide) rfl (fun ls hl => ?_)
  refine lv_iload_n (pc := 72) hx hb dX7_isFlying_72 rfl (lv_at hl 3 rfl) ?_
  refine lv_aload_n (pc := 73) hx hb dX7_isFlying_73 rfl (lv_at hl 1 rfl) ?_
  refine lv_iload (pc := 74) hx hb dX7_isFlying_74 (lv_at hl 5 rfl) ?_
  refine kx_iVi (pc := 76) [.int x5] hx hb hml hown hts hK hP hD hS (q7_isKite h) (cw7_174 hts ⟨Nat.le_of_ble_eq_true rfl, Nat.le_of_ble_eq_true rfl⟩) rfl (by decide) rfl rfl hl.1 rfl (Nat.le_of_ble_eq_true rfl) ⟨Nat.le_of_ble_eq_true rfl, Nat.le_of_ble_eq_true rfl⟩ dX7_isFlying_76 (fun r1 u_ H locs hP hD hS h => ?_)
  obtain ⟨hu_, h⟩ := h
  rw [hu_] at hP hD
  refine lv_if_eq (pc := 79) (tgt := 89) hx hb dX7_isFlying_79 (by decide) (fun c2 => ?_) (fun c2 => ?_)
  · have h := h.1 c2
    refine lv_iconst (pc := 89) (v := (0 : Int32)) hx hb dX7_isFlying_89 (by decide) ?_
    refine lv_ior (pc := 90) hx hb dX7_isFlying_90 ?_
    refine lv_istore_n (pc := 91) (lv' := [(2, .int (x2 ||| (0 : Int32))), (3, .int s0), (0, .ref (ad 0)), (1, .int x1), (4, .int x4), (5, .int x5)]) hx hb dX7_isFlying_91 rfl hl (by decide) rfl (fun ls hl => ?_)
    refine lv_iinc (pc := 92) (v := (x4 + (1 : Int32))) (lv' := [(4, .int (x4 + (1 : Int32))), (2, .int (x2 ||| (0 : Int32))), (3, .int s0), (0, .ref (ad 0)), (1, .int x1), (5, .int x5)]) hx hb dX7_isFlying_92 hl (k := 4) rfl rfl (by decide) rfl (fun ls hl => ?_)
    refine lv_goto (pc := 95) (tgt := 12) hx hb dX7_isFlying_95 (by decide) ?_
    exact hk12 _ _ _ _ _ _ _ h hP hD hS (lv_sub hl [3, 4, 1, 2, 0] rfl)
  · have h := h.2 c2
    refine lv_iconst (pc := 82) (v := (1 : Int32)) hx hb dX7_isFlying_82 (by decide) ?_
    refine lv_iload (pc := 83) hx hb dX7_isFlying_83 (lv_at hl 5 rfl) ?_
    refine lv_ishl (pc := 85) hx hb dX7_isFlying_85 ?_
    refine lv_goto (pc := 86) (tgt := 90) hx hb dX7_isFlying_86 (by decide) ?_
    refine lv_ior (pc := 90) hx hb dX7_isFlying_90 ?_
    refine lv_istore_n (pc := 91) (lv' := [(2, .int (x2 ||| ((1 : Int32) <<< (x5 &&& 31)))), (3, .int s0), (0, .ref (ad 0)), (1, .int x1), (4, .int x4), (5, .int x5)]) hx hb dX7_isFlying_91 rfl hl (by decide) rfl (fun ls hl => ?_)
    refine lv_iinc (pc := 92) (v := (x4 + (1 : Int32))) (lv' := [(4, .int (x4 + (1 : Int32))), (2, .int (x2 ||| ((1 : Int32) <<< (x5 &&& 31)))), (3, .int s0), (0, .ref (ad 0)), (1, .int x1), (5, .int x5)]) hx hb dX7_isFlying_92 hl (k := 4) rfl rfl (by decide) rfl (fun ls hl => ?_)
    refine lv_goto (pc := 95) (tgt := 12) hx hb dX7_isFlying_95 (by decide) ?_
    exact hk12 _ _ _ _ _ _ _ h hP hD hS (lv_sub hl [3, 4, 1, 2, 0] rfl)
def p7_isFlying_L12 : Nat → kx_St → Int32 → Int32 → Int32 → Int32 → (Int32 → Prop) → Prop
  | 0, _, _, _, _, _, _ => False
  | n + 1, σ, x1, x2, x3, x4, Q => vp_in x1 6 ∧ (((σ.1 6 x1.toNatClampNeg) ≤ x4 → (x3 = 0 ∨ x3 = 1) ∧ (Q x3)) ∧ (¬ (σ.1 6 x1.toNatClampNeg) ≤ x4 → (x3 = 0 → (x3 = 0 ∨ x3 = 1) ∧ (Q x3)) ∧ (¬ x3 = 0 → vp_in (((40 : Int32) * x1) + x4) 240 ∧ (((σ.1 7 (((40 : Int32) * x1) + x4).toNatClampNeg) = (-9 : Int32) → p7_isFlying_J71 σ x1 x2 x4 (σ.1 7 (((40 : Int32) * x1) + x4).toNatClampNeg) (1 : Int32) (fun x1 x2 x3 x4 => p7_isFlying_L12 n σ x1 x2 x3 x4 Q) Q) ∧ (¬ (σ.1 7 (((40 : Int32) * x1) + x4).toNatClampNeg) = (-9 : Int32) → p7_isKite σ (σ.1 7 (((40 : Int32) * x1) + x4).toNatClampNeg) (fun r9 => (r9 = 0 → p7_isFlying_J71 σ x1 x2 x4 (σ.1 7 (((40 : Int32) * x1) + x4).toNatClampNeg) (0 : Int32) (fun x1 x2 x3 x4 => p7_isFlying_L12 n σ x1 x2 x3 x4 Q) Q) ∧ (¬ r9 = 0 → p7_has x2 (σ.1 7 (((40 : Int32) * x1) + x4).toNatClampNeg) (fun r12 => (¬ r12 = 0 → p7_isFlying_J71 σ x1 x2 x4 (σ.1 7 (((40 : Int32) * x1) + x4).toNatClampNeg) (0 : Int32) (fun x1 x2 x3 x4 => p7_isFlying_L12 n σ x1 x2 x3 x4 Q) Q) ∧ (r12 = 0 → p7_isFlying_J71 σ x1 x2 x4 (σ.1 7 (((40 : Int32) * x1) + x4).toNatClampNeg) (1 : Int32) (fun x1 x2 x3 x4 => p7_isFlying_L12 n σ x1 x2 x3 x4 Q) Q)))))))))
set_option maxHeartbeats 4000000 in
theorem w7_isFlying_L12 {σ : kx_St}  {Q : Int32 → Prop} (cx : kx_Cx p s m args meth c D cy RX7 cX7_isFlying 6 (some .boolean))  : ∀ (n : Nat) (x1 : Int32) (x2 : Int32) (x3 : Int32) (x4 : Int32) (H : Heap) (locs : List Loc) (ls : Array Slot), p7_isFlying_L12 n σ x1 x2 x3 x4 Q → va_P D vwCl (kx_ws cy 1 ad σ) H → va_D A (kx_ws cy 1 ad σ) → va_S A s.heap H locs → lv_has ls 6 [(0, .ref (ad 0)), (1, .int x1), (2, .int x2), (3, .int x3), (4, .int x4)] → W p l e rm7_isFlying s m args below meth c H locs 0 0 (MQ below (kx_Qc kx_ci (fun u r => u = σ ∧ Q r) (kx_Wd D cy 1 ad A) A) args s 0 0 A) (F0 m 12 ls []) := by
  obtain ⟨hx, hb, hr, hlocks, hml, hown, hts, hK⟩ := id cx
  intro n
  induction n with
  | zero => intro _ _ _ _ _ _ _ h; exact False.elim h
  | succ n ih =>
    intro x1 x2 x3 x4 H locs ls h hP hD hS hl
    refine lv_iload (pc := 12) hx hb dX7_isFlying_12 (lv_at hl 4 rfl) ?_
    refine lv_aload_n (pc := 14) hx hb dX7_isFlying_14 rfl (lv_at hl 0 rfl) ?_
    refine fg7_25 (pc := 15) (b := 6) hx hb hown hts hK hP rfl rfl dX7_isFlying_15 ?_
    refine lv_iload_n (pc := 18) hx hb dX7_isFlying_18 rfl (lv_at hl 1 rfl) ?_
    obtain ⟨g1, h⟩ := h
    refine kx_iald (pc := 19) hx hb hK hP rfl g1 dX7_isFlying_19 ?_
    refine lv_icmp_ge (pc := 20) (tgt := 98) hx hb dX7_isFlying_20 (by decide) (fun c2 => ?_) (fun c2 => ?_)
    · have h := h.1 c2
      refine lv_iload_n (pc := 98) hx hb dX7_isFlying_98 rfl (lv_at hl 3 rfl) ?_
      obtain ⟨g3, h⟩ := h
      exact kx_zret (pc := 99) hx hb hr hlocks hK hP hD hS g3 ⟨rfl, h⟩ dX7_isFlying_99
    · have h := h.2 c2
      refine lv_iload_n (pc := 23) hx hb dX7_isFlying_23 rfl (lv_at hl 3 rfl) ?_
      refine lv_if_eq (pc := 24) (tgt := 98) hx hb dX7_isFlying_24 (by decide) (fun c4 => ?_) (fun c4 => ?_)
      · have h := h.1 c4
        refine lv_iload_n (pc := 98) hx hb dX7_isFlying_98 rfl (lv_at hl 3 rfl) ?_
        obtain ⟨g5, h⟩ := h
        exact kx_zret (pc := 99) hx hb hr hlocks hK hP hD hS g5 ⟨rfl, h⟩ dX7_isFlying_99
      · have h := h.2 c4
        refine lv_aload_n (pc := 27) hx hb dX7_isFlying_27 rfl (lv_at hl 0 rfl) ?_
        refine fg7_28 (pc := 28) (b := 7) hx hb hown hts hK hP rfl rfl dX7_isFlying_28 ?_
        refine lv_bipush (pc := 31) (v := (40 : Int32)) hx hb dX7_isFlying_31 (by decide) ?_
        refine lv_iload_n (pc := 33) hx hb dX7_isFlying_33 rfl (lv_at hl 1 rfl) ?_
        refine lv_imul (pc := 34) hx hb dX7_isFlying_34 ?_
        refine lv_iload (pc := 35) hx hb dX7_isFlying_35 (lv_at hl 4 rfl) ?_
        refine lv_iadd (pc := 37) hx hb dX7_isFlying_37 ?_
        obtain ⟨g6, h⟩ := h
        refine kx_iald (pc := 38) hx hb hK hP rfl g6 dX7_isFlying_38 ?_
        refine lv_istore (pc := 39) (lv' := [(5, .int (σ.1 7 (((40 : Int32) * x1) + x4).toNatClampNeg)), (0, .ref (ad 0)), (1, .int x1), (2, .int x2), (3, .int x3), (4, .int x4)]) hx hb dX7_isFlying_39 hl (by decide) rfl (fun ls hl => ?_)
        refine lv_iload (pc := 41) hx hb dX7_isFlying_41 (lv_at hl 0 rfl) ?_
        refine lv_bipush (pc := 43) (v := (-9 : Int32)) hx hb dX7_isFlying_43 (by decide) ?_
        refine lv_icmp_eq (pc := 45) (tgt := 66) hx hb dX7_isFlying_45 (by decide) (fun c7 => ?_) (fun c7 => ?_)
        · have h := h.1 c7
          refine lv_iconst (pc := 66) (v := (1 : Int32)) hx hb dX7_isFlying_66 (by decide) ?_
          refine lv_goto (pc := 67) (tgt := 71) hx hb dX7_isFlying_67 (by decide) ?_
          have hc8 : ∀ (x1 : Int32) (x2 : Int32) (x3 : Int32) (x4 : Int32) (H : Heap) (locs : List Loc) (ls : Array Slot), (fun x1 x2 x3 x4 => p7_isFlying_L12 n σ x1 x2 x3 x4 Q) x1 x2 x3 x4 → va_P D vwCl (kx_ws cy 1 ad σ) H → va_D A (kx_ws cy 1 ad σ) → va_S A s.heap H locs → lv_has ls 6 [(0, .ref (ad 0)), (1, .int x1), (2, .int x2), (3, .int x3), (4, .int x4)] → W p l e rm7_isFlying s m args below meth c H locs 0 0 (MQ below (kx_Qc kx_ci (fun u r => u = σ ∧ Q r) (kx_Wd D cy 1 ad A) A) args s 0 0 A) (F0 m 12 ls []) := fun x1 x2 x3 x4 H locs ls h hP hD hS hl => ih _ _ _ _ _ _ _ h hP hD hS hl
          exact w7_isFlying_J71 cx hc8 h hP hD hS (lv_sub hl [1, 2, 3, 5, 0] rfl)
        · have h := h.2 c7
          refine lv_aload_n (pc := 48) hx hb dX7_isFlying_48 rfl (lv_at hl 1 rfl) ?_
          refine lv_iload (pc := 49) hx hb dX7_isFlying_49 (lv_at hl 0 rfl) ?_
          refine kx_iVi (pc := 51) [.int (σ.1 7 (((40 : Int32) * x1) + x4).toNatClampNeg)] hx hb hml hown hts hK hP hD hS (q7_isKite h) (cw7_174 hts ⟨Nat.le_of_ble_eq_true rfl, Nat.le_of_ble_eq_true rfl⟩) rfl (by decide) rfl rfl hl.1 rfl (Nat.le_of_ble_eq_true rfl) ⟨Nat.le_of_ble_eq_true rfl, Nat.le_of_ble_eq_true rfl⟩ dX7_isFlying_51 (fun r9 u_ H locs hP hD hS h => ?_)
          obtain ⟨hu_, h⟩ := h
          rw [hu_] at hP hD
          refine lv_if_eq (pc := 54) (tgt := 70) hx hb dX7_isFlying_54 (by decide) (fun c10 => ?_) (fun c10 => ?_)
          · have h := h.1 c10
            refine lv_iconst (pc := 70) (v := (0 : Int32)) hx hb dX7_isFlying_70 (by decide) ?_
            have hc11 : ∀ (x1 : Int32) (x2 : Int32) (x3 : Int32) (x4 : Int32) (H : Heap) (locs : List Loc) (ls : Array Slot), (fun x1 x2 x3 x4 => p7_isFlying_L12 n σ x1 x2 x3 x4 Q) x1 x2 x3 x4 → va_P D vwCl (kx_ws cy 1 ad σ) H → va_D A (kx_ws cy 1 ad σ) → va_S A s.heap H locs → lv_has ls 6 [(0, .ref (ad 0)), (1, .int x1), (2, .int x2), (3, .int x3), (4, .int x4)] → W p l e rm7_isFlying s m args below meth c H locs 0 0 (MQ below (kx_Qc kx_ci (fun u r => u = σ ∧ Q r) (kx_Wd D cy 1 ad A) A) args s 0 0 A) (F0 m 12 ls []) := fun x1 x2 x3 x4 H locs ls h hP hD hS hl => ih _ _ _ _ _ _ _ h hP hD hS hl
            exact w7_isFlying_J71 cx hc11 h hP hD hS (lv_sub hl [1, 2, 3, 5, 0] rfl)
          · have h := h.2 c10
            refine lv_iload_n (pc := 57) hx hb dX7_isFlying_57 rfl (lv_at hl 3 rfl) ?_
            refine lv_iload (pc := 58) hx hb dX7_isFlying_58 (lv_at hl 0 rfl) ?_
            refine kx_iSi (pc := 60) [.int x2, .int (σ.1 7 (((40 : Int32) * x1) + x4).toNatClampNeg)] hx hb hml hown hts hK hP hD hS (q7_has h) (cw7_170 hts ⟨Nat.le_of_ble_eq_true rfl, Nat.le_of_ble_eq_true rfl⟩) rfl hl.1 rfl (Nat.le_of_ble_eq_true rfl) ⟨Nat.le_of_ble_eq_true rfl, Nat.le_of_ble_eq_true rfl⟩ dX7_isFlying_60 (fun r12 u_ H locs hP hD hS h => ?_)
            obtain ⟨hu_, h⟩ := h
            rw [hu_] at hP hD
            refine lv_if_ne (pc := 63) (tgt := 70) hx hb dX7_isFlying_63 (by decide) (fun c13 => ?_) (fun c13 => ?_)
            · have h := h.1 c13
              refine lv_iconst (pc := 70) (v := (0 : Int32)) hx hb dX7_isFlying_70 (by decide) ?_
              have hc14 : ∀ (x1 : Int32) (x2 : Int32) (x3 : Int32) (x4 : Int32) (H : Heap) (locs : List Loc) (ls : Array Slot), (fun x1 x2 x3 x4 => p7_isFlying_L12 n σ x1 x2 x3 x4 Q) x1 x2 x3 x4 → va_P D vwCl (kx_ws cy 1 ad σ) H → va_D A (kx_ws cy 1 ad σ) → va_S A s.heap H locs → lv_has ls 6 [(0, .ref (ad 0)), (1, .int x1), (2, .int x2), (3, .int x3), (4, .int x4)] → W p l e rm7_isFlying s m args below meth c H locs 0 0 (MQ below (kx_Qc kx_ci (fun u r => u = σ ∧ Q r) (kx_Wd D cy 1 ad A) A) args s 0 0 A) (F0 m 12 ls []) := fun x1 x2 x3 x4 H locs ls h hP hD hS hl => ih _ _ _ _ _ _ _ h hP hD hS hl
              exact w7_isFlying_J71 cx hc14 h hP hD hS (lv_sub hl [1, 2, 3, 5, 0] rfl)
            · have h := h.2 c13
              refine lv_iconst (pc := 66) (v := (1 : Int32)) hx hb dX7_isFlying_66 (by decide) ?_
              refine lv_goto (pc := 67) (tgt := 71) hx hb dX7_isFlying_67 (by decide) ?_
              have hc15 : ∀ (x1 : Int32) (x2 : Int32) (x3 : Int32) (x4 : Int32) (H : Heap) (locs : List Loc) (ls : Array Slot), (fun x1 x2 x3 x4 => p7_isFlying_L12 n σ x1 x2 x3 x4 Q) x1 x2 x3 x4 → va_P D vwCl (kx_ws cy 1 ad σ) H → va_D A (kx_ws cy 1 ad σ) → va_S A s.heap H locs → lv_has ls 6 [(0, .ref (ad 0)), (1, .int x1), (2, .int x2), (3, .int x3), (4, .int x4)] → W p l e rm7_isFlying s m args below meth c H locs 0 0 (MQ below (kx_Qc kx_ci (fun u r => u = σ ∧ Q r) (kx_Wd D cy 1 ad A) A) args s 0 0 A) (F0 m 12 ls []) := fun x1 x2 x3 x4 H locs ls h hP hD hS hl => ih _ _ _ _ _ _ _ h hP hD hS hl
              exact w7_isFlying_J71 cx hc15 h hP hD hS (lv_sub hl [1, 2, 3, 5, 0] rfl)
def p7_isFlying (σ : kx_St) (x1 : Int32) (Q : Int32 → Prop) : Prop := ∃ m12, p7_isFlying_L12 m12 σ x1 (σ.1 1 (2 : Int32).toNatClampNeg) (1 : Int32) (0 : Int32) Q
set_option maxHeartbeats 4000000 in
theorem q7_isFlying {σ : kx_St} {x1 : Int32} {Q : Int32 → Prop} (h : p7_isFlying σ x1 Q) : Met l yX7_isFlying (Cond.code yX7_isFlying cX7_isFlying 6 (some .boolean) :: kx_big) rm7_isFlying (va_Pc [.ref (ad 0), .int x1] (kx_Wd D cy 1 ad A σ)) (kx_Qc kx_ci (fun u r => u = σ ∧ Q r) (kx_Wd D cy 1 ad A) A) 0 0 A := by
  refine kx_head (plainFor_of_name (by decide)) (Nat.le_of_ble_eq_true rfl) ?_
  intro p e s m below meth c ls cx hP hD hS hl
  obtain ⟨hx, hb, hr, hlocks, hml, hown, hts, hK⟩ := id cx
  have hl : lv_has ls 6 [(0, .ref (ad 0)), (1, .int x1)] := hl
  refine lv_aload_n (pc := 0) hx hb dX7_isFlying_0 rfl (lv_at hl 0 rfl) ?_
  refine fg7_7 (pc := 1) (b := 1) hx hb hown hts hK hP rfl rfl dX7_isFlying_1 ?_
  refine lv_iconst (pc := 4) (v := (2 : Int32)) hx hb dX7_isFlying_4 (by decide) ?_
  refine kx_iald (pc := 5) hx hb hK hP rfl (by unfold vp_in; decide) dX7_isFlying_5 ?_
  refine lv_istore_n (pc := 6) (lv' := [(2, .int (σ.1 1 (2 : Int32).toNatClampNeg)), (0, .ref (ad 0)), (1, .int x1)]) hx hb dX7_isFlying_6 rfl hl (by decide) rfl (fun ls hl => ?_)
  refine lv_iconst (pc := 7) (v := (1 : Int32)) hx hb dX7_isFlying_7 (by decide) ?_
  refine lv_istore_n (pc := 8) (lv' := [(3, .int (1 : Int32)), (2, .int (σ.1 1 (2 : Int32).toNatClampNeg)), (0, .ref (ad 0)), (1, .int x1)]) hx hb dX7_isFlying_8 rfl hl (by decide) rfl (fun ls hl => ?_)
  refine lv_iconst (pc := 9) (v := (0 : Int32)) hx hb dX7_isFlying_9 (by decide) ?_
  refine lv_istore (pc := 10) (lv' := [(4, .int (0 : Int32)), (3, .int (1 : Int32)), (2, .int (σ.1 1 (2 : Int32).toNatClampNeg)), (0, .ref (ad 0)), (1, .int x1)]) hx hb dX7_isFlying_10 hl (by decide) rfl (fun ls hl => ?_)
  obtain ⟨n0, h⟩ := h
  exact w7_isFlying_L12 cx  n0 _ _ _ _ _ _ _ h hP hD hS (lv_sub hl [3, 4, 2, 1, 0] rfl)
def p7_flown_L73 : Nat → kx_St → Int32 → Int32 → Int32 → (kx_St → Int32 → Prop) → Prop
  | 0, _, _, _, _, _ => False
  | n + 1, σ, x1, x2, x3, Q => vp_in x1 6 ∧ (((σ.1 6 x1.toNatClampNeg) ≤ x3 → (fun σ3 : kx_St => Q σ3 x2) (kx_sI σ 0 11 ((σ.1 1 (2467 : Int32).toNatClampNeg) &&& ((σ.1 1 (2 : Int32).toNatClampNeg) ^^^ (-1 : Int32))))) ∧ (¬ (σ.1 6 x1.toNatClampNeg) ≤ x3 → vp_in (((40 : Int32) * x1) + x3) 240 ∧ ((¬ (σ.1 7 (((40 : Int32) * x1) + x3).toNatClampNeg) = (-9 : Int32) → p7_flies σ (2464 : Int32) (σ.1 7 (((40 : Int32) * x1) + x3).toNatClampNeg) (fun σ7 r6 => p7_flown_L73 n σ7 x1 (x2 + r6) (x3 + (1 : Int32)) Q)) ∧ ((σ.1 7 (((40 : Int32) * x1) + x3).toNatClampNeg) = (-9 : Int32) → (fun σ8 : kx_St => p7_flown_L73 n σ8 x1 x2 (x3 + (1 : Int32)) Q) (kx_sI σ 1 (2465 : Int32).toNatClampNeg ((σ.1 1 (2465 : Int32).toNatClampNeg) + (1 : Int32)))))))
set_option maxHeartbeats 4000000 in
theorem w7_flown_L73  {Q : kx_St → Int32 → Prop} (cx : kx_Cx p s m args meth c D cy RX7 cX7_flown 5 (some .int))  : ∀ (n : Nat) (σ : kx_St) (x1 : Int32) (x2 : Int32) (x3 : Int32) (H : Heap) (locs : List Loc) (ls : Array Slot), p7_flown_L73 n σ x1 x2 x3 Q → va_P D vwCl (kx_ws cy 1 ad σ) H → va_D A (kx_ws cy 1 ad σ) → va_S A s.heap H locs → lv_has ls 5 [(0, .ref (ad 0)), (1, .int x1), (2, .int x2), (3, .int x3)] → W p l e rm7_flown s m args below meth c H locs 0 0 (MQ below (kx_Qc kx_ci Q (kx_Wd D cy 1 ad A) A) args s 0 0 A) (F0 m 73 ls []) := by
  obtain ⟨hx, hb, hr, hlocks, hml, hown, hts, hK⟩ := id cx
  intro n
  induction n with
  | zero => intro _ _ _ _ _ _ _ h; exact False.elim h
  | succ n ih =>
    intro σ x1 x2 x3 H locs ls h hP hD hS hl
    refine lv_iload_n (pc := 73) hx hb dX7_flown_73 rfl (lv_at hl 3 rfl) ?_
    refine lv_aload_n (pc := 74) hx hb dX7_flown_74 rfl (lv_at hl 0 rfl) ?_
    refine fg7_25 (pc := 75) (b := 6) hx hb hown hts hK hP rfl rfl dX7_flown_75 ?_
    refine lv_iload_n (pc := 78) hx hb dX7_flown_78 rfl (lv_at hl 1 rfl) ?_
    obtain ⟨g1, h⟩ := h
    refine kx_iald (pc := 79) hx hb hK hP rfl g1 dX7_flown_79 ?_
    refine lv_icmp_ge (pc := 80) (tgt := 136) hx hb dX7_flown_80 (by decide) (fun c2 => ?_) (fun c2 => ?_)
    · have h := h.1 c2
      refine lv_aload_n (pc := 136) hx hb dX7_flown_136 rfl (lv_at hl 0 rfl) ?_
      refine lv_aload_n (pc := 137) hx hb dX7_flown_137 rfl (lv_at hl 0 rfl) ?_
      refine fg7_7 (pc := 138) (b := 1) hx hb hown hts hK hP rfl rfl dX7_flown_138 ?_
      refine lv_sipush (pc := 141) (v := (2467 : Int32)) hx hb dX7_flown_141 (by decide) ?_
      refine kx_iald (pc := 144) hx hb hK hP rfl (by unfold vp_in; decide) dX7_flown_144 ?_
      refine lv_aload_n (pc := 145) hx hb dX7_flown_145 rfl (lv_at hl 0 rfl) ?_
      refine fg7_7 (pc := 146) (b := 1) hx hb hown hts hK hP rfl rfl dX7_flown_146 ?_
      refine lv_iconst (pc := 149) (v := (2 : Int32)) hx hb dX7_flown_149 (by decide) ?_
      refine kx_iald (pc := 150) hx hb hK hP rfl (by unfold vp_in; decide) dX7_flown_150 ?_
      refine lv_iconst (pc := 151) (v := (-1 : Int32)) hx hb dX7_flown_151 (by decide) ?_
      refine lv_ixor (pc := 152) hx hb dX7_flown_152 ?_
      refine lv_iand (pc := 153) hx hb dX7_flown_153 ?_
      refine fp7_72 (pc := 154) hx hb hown hts hK hP hD hS rfl dX7_flown_154 (fun H locs hP hD hS => ?_)
      refine lv_iload_n (pc := 157) hx hb dX7_flown_157 rfl (lv_at hl 2 rfl) ?_
      exact kx_iret (pc := 158) hx hb hr hlocks hK hP hD hS h dX7_flown_158
    · have h := h.2 c2
      refine lv_aload_n (pc := 83) hx hb dX7_flown_83 rfl (lv_at hl 0 rfl) ?_
      refine fg7_28 (pc := 84) (b := 7) hx hb hown hts hK hP rfl rfl dX7_flown_84 ?_
      refine lv_bipush (pc := 87) (v := (40 : Int32)) hx hb dX7_flown_87 (by decide) ?_
      refine lv_iload_n (pc := 89) hx hb dX7_flown_89 rfl (lv_at hl 1 rfl) ?_
      refine lv_imul (pc := 90) hx hb dX7_flown_90 ?_
      refine lv_iload_n (pc := 91) hx hb dX7_flown_91 rfl (lv_at hl 3 rfl) ?_
      refine lv_iadd (pc := 92) hx hb dX7_flown_92 ?_
      obtain ⟨g4, h⟩ := h
      refine kx_iald (pc := 93) hx hb hK hP rfl g4 dX7_flown_93 ?_
      refine lv_istore (pc := 94) (lv' := [(4, .int (σ.1 7 (((40 : Int32) * x1) + x3).toNatClampNeg)), (0, .ref (ad 0)), (1, .int x1), (2, .int x2), (3, .int x3)]) hx hb dX7_flown_94 hl (by decide) rfl (fun ls hl => ?_)
      refine lv_iload (pc := 96) hx hb dX7_flown_96 (lv_at hl 0 rfl) ?_
      refine lv_bipush (pc := 98) (v := (-9 : Int32)) hx hb dX7_flown_98 (by decide) ?_
      refine lv_icmp_ne (pc := 100) (tgt := 118) hx hb dX7_flown_100 (by decide) (fun c5 => ?_) (fun c5 => ?_)
      · have h := h.1 c5
        refine lv_iload_n (pc := 118) hx hb dX7_flown_118 rfl (lv_at hl 3 rfl) ?_
        refine lv_aload_n (pc := 119) hx hb dX7_flown_119 rfl (lv_at hl 1 rfl) ?_
        refine lv_sipush (pc := 120) (v := (2464 : Int32)) hx hb dX7_flown_120 (by decide) ?_
        refine lv_iload (pc := 123) hx hb dX7_flown_123 (lv_at hl 0 rfl) ?_
        refine kx_iVi (pc := 125) [.int (2464 : Int32), .int (σ.1 7 (((40 : Int32) * x1) + x3).toNatClampNeg)] hx hb hml hown hts hK hP hD hS (q7_flies h) (cw7_199 hts ⟨Nat.le_of_ble_eq_true rfl, Nat.le_of_ble_eq_true rfl⟩) rfl (by decide) rfl rfl hl.1 rfl (Nat.le_of_ble_eq_true rfl) ⟨Nat.le_of_ble_eq_true rfl, Nat.le_of_ble_eq_true rfl⟩ dX7_flown_125 (fun r6 σ7 H locs hP hD hS h => ?_)
        refine lv_iadd (pc := 128) hx hb dX7_flown_128 ?_
        refine lv_istore_n (pc := 129) (lv' := [(2, .int (x2 + r6)), (4, .int (σ.1 7 (((40 : Int32) * x1) + x3).toNatClampNeg)), (0, .ref (ad 0)), (1, .int x1), (3, .int x3)]) hx hb dX7_flown_129 rfl hl (by decide) rfl (fun ls hl => ?_)
        refine lv_iinc (pc := 130) (v := (x3 + (1 : Int32))) (lv' := [(3, .int (x3 + (1 : Int32))), (2, .int (x2 + r6)), (4, .int (σ.1 7 (((40 : Int32) * x1) + x3).toNatClampNeg)), (0, .ref (ad 0)), (1, .int x1)]) hx hb dX7_flown_130 hl (k := 4) rfl rfl (by decide) rfl (fun ls hl => ?_)
        refine lv_goto (pc := 133) (tgt := 73) hx hb dX7_flown_133 (by decide) ?_
        exact ih _ _ _ _ _ _ _ h hP hD hS (lv_sub hl [3, 4, 1, 0] rfl)
      · have h := h.2 c5
        refine lv_aload_n (pc := 103) hx hb dX7_flown_103 rfl (lv_at hl 1 rfl) ?_
        refine fg7_7 (pc := 104) (b := 1) hx hb hown hts hK hP rfl rfl dX7_flown_104 ?_
        refine lv_sipush (pc := 107) (v := (2465 : Int32)) hx hb dX7_flown_107 (by decide) ?_
        refine lv_dup2_11 (pc := 110) hx hb dX7_flown_110 rfl rfl ?_
        refine kx_iald (pc := 111) hx hb hK hP rfl (by unfold vp_in; decide) dX7_flown_111 ?_
        refine lv_iconst (pc := 112) (v := (1 : Int32)) hx hb dX7_flown_112 (by decide) ?_
        refine lv_iadd (pc := 113) hx hb dX7_flown_113 ?_
        refine kx_iast (pc := 114) hx hb hK hP hD hS rfl (by unfold vp_in; decide) dX7_flown_114 (fun H locs hP hD hS => ?_)
        refine lv_goto (pc := 115) (tgt := 130) hx hb dX7_flown_115 (by decide) ?_
        refine lv_iinc (pc := 130) (v := (x3 + (1 : Int32))) (lv' := [(3, .int (x3 + (1 : Int32))), (4, .int (σ.1 7 (((40 : Int32) * x1) + x3).toNatClampNeg)), (0, .ref (ad 0)), (1, .int x1), (2, .int x2)]) hx hb dX7_flown_130 hl (k := 4) rfl rfl (by decide) rfl (fun ls hl => ?_)
        refine lv_goto (pc := 133) (tgt := 73) hx hb dX7_flown_133 (by decide) ?_
        exact ih _ _ _ _ _ _ _ h hP hD hS (lv_sub hl [2, 3, 4, 0] rfl)
def p7_flown (σ : kx_St) (x1 : Int32) (Q : kx_St → Int32 → Prop) : Prop := p7_isRow x1 (fun r1 => (¬ r1 = 0 → (¬ (σ.1 0 3) = 0 → vp_in x1 6 ∧ ((0 ≤ (σ.1 6 x1.toNatClampNeg) → vp_in x1 6 ∧ (((σ.1 6 x1.toNatClampNeg) ≤ (20 : Int32) → p7_isFlying σ x1 (fun r8 => (¬ r8 = 0 → p7_layTried σ (fun σ11 => ∃ m73, p7_flown_L73 m73 σ11 x1 (0 : Int32) (0 : Int32) Q)) ∧ (r8 = 0 → p7_find σ (3 : Int32) (fun σ13 r12 => Q σ13 r12)))) ∧ (¬ (σ.1 6 x1.toNatClampNeg) ≤ (20 : Int32) → p7_find σ (5 : Int32) (fun σ15 r14 => Q σ15 r14)))) ∧ (¬ 0 ≤ (σ.1 6 x1.toNatClampNeg) → p7_find σ (1 : Int32) (fun σ17 r16 => Q σ17 r16)))) ∧ ((σ.1 0 3) = 0 → Q σ (-4 : Int32))) ∧ (r1 = 0 → Q σ (-1 : Int32)))
set_option maxHeartbeats 4000000 in
theorem q7_flown {σ : kx_St} {x1 : Int32} {Q : kx_St → Int32 → Prop} (h : p7_flown σ x1 Q) : Met l yX7_flown (Cond.code yX7_flown cX7_flown 5 (some .int) :: kx_big) rm7_flown (va_Pc [.ref (ad 0), .int x1] (kx_Wd D cy 1 ad A σ)) (kx_Qc kx_ci Q (kx_Wd D cy 1 ad A) A) 0 0 A := by
  refine kx_head (plainFor_of_name (by decide)) (Nat.le_of_ble_eq_true rfl) ?_
  intro p e s m below meth c ls cx hP hD hS hl
  obtain ⟨hx, hb, hr, hlocks, hml, hown, hts, hK⟩ := id cx
  have hl : lv_has ls 5 [(0, .ref (ad 0)), (1, .int x1)] := hl
  refine lv_iload_n (pc := 0) hx hb dX7_flown_0 rfl (lv_at hl 1 rfl) ?_
  refine kx_iSi (pc := 1) [.int x1] hx hb hml hown hts hK hP hD hS (q7_isRow h) (cw7_83 hts ⟨Nat.le_of_ble_eq_true rfl, Nat.le_of_ble_eq_true rfl⟩) rfl hl.1 rfl (Nat.le_of_ble_eq_true rfl) ⟨Nat.le_of_ble_eq_true rfl, Nat.le_of_ble_eq_true rfl⟩ dX7_flown_1 (fun r1 u_ H locs hP hD hS h => ?_)
  obtain ⟨hu_, h⟩ := h
  rw [hu_] at hP hD
  refine lv_if_ne (pc := 4) (tgt := 9) hx hb dX7_flown_4 (by decide) (fun c2 => ?_) (fun c2 => ?_)
  · have h := h.1 c2
    refine lv_aload_n (pc := 9) hx hb dX7_flown_9 rfl (lv_at hl 0 rfl) ?_
    refine fg7_150 (pc := 10) hx hb hown hts hK hP rfl dX7_flown_10 ?_
    refine lv_if_ne (pc := 13) (tgt := 19) hx hb dX7_flown_13 (by decide) (fun c3 => ?_) (fun c3 => ?_)
    · have h := h.1 c3
      refine lv_aload_n (pc := 19) hx hb dX7_flown_19 rfl (lv_at hl 0 rfl) ?_
      refine fg7_25 (pc := 20) (b := 6) hx hb hown hts hK hP rfl rfl dX7_flown_20 ?_
      refine lv_iload_n (pc := 23) hx hb dX7_flown_23 rfl (lv_at hl 1 rfl) ?_
      obtain ⟨g4, h⟩ := h
      refine kx_iald (pc := 24) hx hb hK hP rfl g4 dX7_flown_24 ?_
      refine lv_if_ge (pc := 25) (tgt := 34) hx hb dX7_flown_25 (by decide) (fun c5 => ?_) (fun c5 => ?_)
      · have h := h.1 c5
        refine lv_aload_n (pc := 34) hx hb dX7_flown_34 rfl (lv_at hl 0 rfl) ?_
        refine fg7_25 (pc := 35) (b := 6) hx hb hown hts hK hP rfl rfl dX7_flown_35 ?_
        refine lv_iload_n (pc := 38) hx hb dX7_flown_38 rfl (lv_at hl 1 rfl) ?_
        obtain ⟨g6, h⟩ := h
        refine kx_iald (pc := 39) hx hb hK hP rfl g6 dX7_flown_39 ?_
        refine lv_bipush (pc := 40) (v := (20 : Int32)) hx hb dX7_flown_40 (by decide) ?_
        refine lv_icmp_le (pc := 42) (tgt := 51) hx hb dX7_flown_42 (by decide) (fun c7 => ?_) (fun c7 => ?_)
        · have h := h.1 c7
          refine lv_aload_n (pc := 51) hx hb dX7_flown_51 rfl (lv_at hl 0 rfl) ?_
          refine lv_iload_n (pc := 52) hx hb dX7_flown_52 rfl (lv_at hl 1 rfl) ?_
          refine kx_iVi (pc := 53) [.int x1] hx hb hml hown hts hK hP hD hS (q7_isFlying h) (cw7_227 hts ⟨Nat.le_of_ble_eq_true rfl, Nat.le_of_ble_eq_true rfl⟩) rfl (by decide) rfl rfl hl.1 rfl (Nat.le_of_ble_eq_true rfl) ⟨Nat.le_of_ble_eq_true rfl, Nat.le_of_ble_eq_true rfl⟩ dX7_flown_53 (fun r8 u_ H locs hP hD hS h => ?_)
          obtain ⟨hu_, h⟩ := h
          rw [hu_] at hP hD
          refine lv_if_ne (pc := 56) (tgt := 65) hx hb dX7_flown_56 (by decide) (fun c9 => ?_) (fun c9 => ?_)
          · have h := h.1 c9
            refine lv_aload_n (pc := 65) hx hb dX7_flown_65 rfl (lv_at hl 0 rfl) ?_
            refine kx_iVv (pc := 66) [] hx hb hml hown hts hK hP hD hS (q7_layTried h) (cw7_209 hts ⟨Nat.le_of_ble_eq_true rfl, Nat.le_of_ble_eq_true rfl⟩) rfl (by decide) rfl rfl hl.1 rfl (Nat.le_of_ble_eq_true rfl) ⟨Nat.le_of_ble_eq_true rfl, Nat.le_of_ble_eq_true rfl⟩ dX7_flown_66 (fun _ σ11 H locs hP hD hS h => ?_)
            refine lv_iconst (pc := 69) (v := (0 : Int32)) hx hb dX7_flown_69 (by decide) ?_
            refine lv_istore_n (pc := 70) (lv' := [(2, .int (0 : Int32)), (0, .ref (ad 0)), (1, .int x1)]) hx hb dX7_flown_70 rfl hl (by decide) rfl (fun ls hl => ?_)
            refine lv_iconst (pc := 71) (v := (0 : Int32)) hx hb dX7_flown_71 (by decide) ?_
            refine lv_istore_n (pc := 72) (lv' := [(3, .int (0 : Int32)), (2, .int (0 : Int32)), (0, .ref (ad 0)), (1, .int x1)]) hx hb dX7_flown_72 rfl hl (by decide) rfl (fun ls hl => ?_)
            obtain ⟨n0, h⟩ := h
            exact w7_flown_L73 cx  n0 _ _ _ _ _ _ _ h hP hD hS (lv_sub hl [2, 3, 1, 0] rfl)
          · have h := h.2 c9
            refine lv_aload_n (pc := 59) hx hb dX7_flown_59 rfl (lv_at hl 0 rfl) ?_
            refine lv_iconst (pc := 60) (v := (3 : Int32)) hx hb dX7_flown_60 (by decide) ?_
            refine kx_iVi (pc := 61) [.int (3 : Int32)] hx hb hml hown hts hK hP hD hS (q7_find h) (cw7_87 hts ⟨Nat.le_of_ble_eq_true rfl, Nat.le_of_ble_eq_true rfl⟩) rfl (by decide) rfl rfl hl.1 rfl (Nat.le_of_ble_eq_true rfl) ⟨Nat.le_of_ble_eq_true rfl, Nat.le_of_ble_eq_true rfl⟩ dX7_flown_61 (fun r12 σ13 H locs hP hD hS h => ?_)
            exact kx_iret (pc := 64) hx hb hr hlocks hK hP hD hS h dX7_flown_64
        · have h := h.2 c7
          refine lv_aload_n (pc := 45) hx hb dX7_flown_45 rfl (lv_at hl 0 rfl) ?_
          refine lv_iconst (pc := 46) (v := (5 : Int32)) hx hb dX7_flown_46 (by decide) ?_
          refine kx_iVi (pc := 47) [.int (5 : Int32)] hx hb hml hown hts hK hP hD hS (q7_find h) (cw7_87 hts ⟨Nat.le_of_ble_eq_true rfl, Nat.le_of_ble_eq_true rfl⟩) rfl (by decide) rfl rfl hl.1 rfl (Nat.le_of_ble_eq_true rfl) ⟨Nat.le_of_ble_eq_true rfl, Nat.le_of_ble_eq_true rfl⟩ dX7_flown_47 (fun r14 σ15 H locs hP hD hS h => ?_)
          exact kx_iret (pc := 50) hx hb hr hlocks hK hP hD hS h dX7_flown_50
      · have h := h.2 c5
        refine lv_aload_n (pc := 28) hx hb dX7_flown_28 rfl (lv_at hl 0 rfl) ?_
        refine lv_iconst (pc := 29) (v := (1 : Int32)) hx hb dX7_flown_29 (by decide) ?_
        refine kx_iVi (pc := 30) [.int (1 : Int32)] hx hb hml hown hts hK hP hD hS (q7_find h) (cw7_87 hts ⟨Nat.le_of_ble_eq_true rfl, Nat.le_of_ble_eq_true rfl⟩) rfl (by decide) rfl rfl hl.1 rfl (Nat.le_of_ble_eq_true rfl) ⟨Nat.le_of_ble_eq_true rfl, Nat.le_of_ble_eq_true rfl⟩ dX7_flown_30 (fun r16 σ17 H locs hP hD hS h => ?_)
        exact kx_iret (pc := 33) hx hb hr hlocks hK hP hD hS h dX7_flown_33
    · have h := h.2 c3
      refine lv_bipush (pc := 16) (v := (-4 : Int32)) hx hb dX7_flown_16 (by decide) ?_
      exact kx_iret (pc := 18) hx hb hr hlocks hK hP hD hS h dX7_flown_18
  · have h := h.2 c2
    refine lv_iconst (pc := 7) (v := (-1 : Int32)) hx hb dX7_flown_7 (by decide) ?_
    exact kx_iret (pc := 8) hx hb hr hlocks hK hP hD hS h dX7_flown_8
def p7_when_J56 (σ : kx_St) (x1 : Int32) (x3 : Int32) (x4 : Int32) (x5 : Int32) (s0 : Int32) (k17 : kx_St → Int32 → Int32 → Int32 → Int32 → Prop) (Q : kx_St → Int32 → Prop) : Prop := (x5 ≤ x3 → k17 σ x1 s0 x3 (x4 + (1 : Int32))) ∧ (¬ x5 ≤ x3 → k17 σ x1 s0 x5 (x4 + (1 : Int32)))
set_option maxHeartbeats 4000000 in
theorem w7_when_J56 {σ : kx_St} {x1 : Int32} {x3 : Int32} {x4 : Int32} {x5 : Int32} {s0 : Int32} {k17 : kx_St → Int32 → Int32 → Int32 → Int32 → Prop} {Q : kx_St → Int32 → Prop} {H : Heap} {locs : List Loc} {ls : Array Slot} (cx : kx_Cx p s m args meth c D cy RX7 cX7_when 6 (some .int)) (hk17 : ∀ (σ : kx_St) (x1 : Int32) (x2 : Int32) (x3 : Int32) (x4 : Int32) (H : Heap) (locs : List Loc) (ls : Array Slot), k17 σ x1 x2 x3 x4 → va_P D vwCl (kx_ws cy 1 ad σ) H → va_D A (kx_ws cy 1 ad σ) → va_S A s.heap H locs → lv_has ls 6 [(0, .ref (ad 0)), (1, .int x1), (2, .int x2), (3, .int x3), (4, .int x4)] → W p l e rm7_when s m args below meth c H locs 0 0 (MQ below (kx_Qc kx_ci Q (kx_Wd D cy 1 ad A) A) args s 0 0 A) (F0 m 17 ls []))  (h : p7_when_J56 σ x1 x3 x4 x5 s0 k17 Q) (hP : va_P D vwCl (kx_ws cy 1 ad σ) H) (hD : va_D A (kx_ws cy 1 ad σ)) (hS : va_S A s.heap H locs) (hl : lv_has ls 6 [(0, .ref (ad 0)), (1, .int x1), (3, .int x3), (4, .int x4), (5, .int x5)]) : W p l e rm7_when s m args below meth c H locs 0 0 (MQ below (kx_Qc kx_ci Q (kx_Wd D cy 1 ad A) A) args s 0 0 A) (F0 m 56 ls [.int s0]) := by
  obtain ⟨hx, hb, hr, hlocks, hml, hown, hts, hK⟩ := id cx
  refine lv_istore_n (pc := 56) (lv' := [(2, .int s0), (0, .ref (ad 0)), (1, .int x1), (3, .int x3), (4, .int x4), (5, .int x5)]) hx hb dX7_when_56 rfl hl (by decide) rfl (fun ls hl => ?_)
  refine lv_iload (pc := 57) hx hb dX7_when_57 (lv_at hl 5 rfl) ?_
  refine lv_iload_n (pc := 59) hx hb dX7_when_59 rfl (lv_at hl 3 rfl) ?_
  refine lv_icmp_le (pc := 60) (tgt := 68) hx hb dX7_when_60 (by decide) (fun c1 => ?_) (fun c1 => ?_)
  · have h := h.1 c1
    refine lv_iload_n (pc := 68) hx hb dX7_when_68 rfl (lv_at hl 3 rfl) ?_
    refine lv_istore_n (pc := 69) (lv' := [(3, .int x3), (2, .int s0), (0, .ref (ad 0)), (1, .int x1), (4, .int x4), (5, .int x5)]) hx hb dX7_when_69 rfl hl (by decide) rfl (fun ls hl => ?_)
    refine lv_iinc (pc := 70) (v := (x4 + (1 : Int32))) (lv' := [(4, .int (x4 + (1 : Int32))), (3, .int x3), (2, .int s0), (0, .ref (ad 0)), (1, .int x1), (5, .int x5)]) hx hb dX7_when_70 hl (k := 4) rfl rfl (by decide) rfl (fun ls hl => ?_)
    refine lv_goto (pc := 73) (tgt := 17) hx hb dX7_when_73 (by decide) ?_
    exact hk17 _ _ _ _ _ _ _ _ h hP hD hS (lv_sub hl [3, 4, 2, 1, 0] rfl)
  · have h := h.2 c1
    refine lv_iload (pc := 63) hx hb dX7_when_63 (lv_at hl 5 rfl) ?_
    refine lv_goto (pc := 65) (tgt := 69) hx hb dX7_when_65 (by decide) ?_
    refine lv_istore_n (pc := 69) (lv' := [(3, .int x5), (2, .int s0), (0, .ref (ad 0)), (1, .int x1), (4, .int x4), (5, .int x5)]) hx hb dX7_when_69 rfl hl (by decide) rfl (fun ls hl => ?_)
    refine lv_iinc (pc := 70) (v := (x4 + (1 : Int32))) (lv' := [(4, .int (x4 + (1 : Int32))), (3, .int x5), (2, .int s0), (0, .ref (ad 0)), (1, .int x1), (5, .int x5)]) hx hb dX7_when_70 hl (k := 4) rfl rfl (by decide) rfl (fun ls hl => ?_)
    refine lv_goto (pc := 73) (tgt := 17) hx hb dX7_when_73 (by decide) ?_
    exact hk17 _ _ _ _ _ _ _ _ h hP hD hS (lv_sub hl [3, 4, 2, 1, 0] rfl)
def p7_when_L17 : Nat → kx_St → Int32 → Int32 → Int32 → Int32 → (kx_St → Int32 → Prop) → Prop
  | 0, _, _, _, _, _, _ => False
  | n + 1, σ, x1, x2, x3, x4, Q => ((4 : Int32) ≤ x4 → (fun σ2 : kx_St => Q σ2 x2) (kx_sI σ 0 11 x3)) ∧ (¬ (4 : Int32) ≤ x4 → p7_windAt σ ((σ.1 1 (1 : Int32).toNatClampNeg) + x4) (fun r3 => p7_paysIn σ (0 : Int32) x1 r3 (fun r4 => (r4 ≤ x3 → p7_when_J56 σ x1 x3 x4 r4 x2 (fun σ x1 x2 x3 x4 => p7_when_L17 n σ x1 x2 x3 x4 Q) Q) ∧ (¬ r4 ≤ x3 → p7_when_J56 σ x1 x3 x4 r4 x4 (fun σ x1 x2 x3 x4 => p7_when_L17 n σ x1 x2 x3 x4 Q) Q))))
set_option maxHeartbeats 4000000 in
theorem w7_when_L17  {Q : kx_St → Int32 → Prop} (cx : kx_Cx p s m args meth c D cy RX7 cX7_when 6 (some .int))  : ∀ (n : Nat) (σ : kx_St) (x1 : Int32) (x2 : Int32) (x3 : Int32) (x4 : Int32) (H : Heap) (locs : List Loc) (ls : Array Slot), p7_when_L17 n σ x1 x2 x3 x4 Q → va_P D vwCl (kx_ws cy 1 ad σ) H → va_D A (kx_ws cy 1 ad σ) → va_S A s.heap H locs → lv_has ls 6 [(0, .ref (ad 0)), (1, .int x1), (2, .int x2), (3, .int x3), (4, .int x4)] → W p l e rm7_when s m args below meth c H locs 0 0 (MQ below (kx_Qc kx_ci Q (kx_Wd D cy 1 ad A) A) args s 0 0 A) (F0 m 17 ls []) := by
  obtain ⟨hx, hb, hr, hlocks, hml, hown, hts, hK⟩ := id cx
  intro n
  induction n with
  | zero => intro _ _ _ _ _ _ _ _ h; exact False.elim h
  | succ n ih =>
    intro σ x1 x2 x3 x4 H locs ls h hP hD hS hl
    refine lv_iload (pc := 17) hx hb dX7_when_17 (lv_at hl 4 rfl) ?_
    refine lv_iconst (pc := 19) (v := (4 : Int32)) hx hb dX7_when_19 (by decide) ?_
    refine lv_icmp_ge (pc := 20) (tgt := 76) hx hb dX7_when_20 (by decide) (fun c1 => ?_) (fun c1 => ?_)
    · have h := h.1 c1
      refine lv_aload_n (pc := 76) hx hb dX7_when_76 rfl (lv_at hl 0 rfl) ?_
      refine lv_iload_n (pc := 77) hx hb dX7_when_77 rfl (lv_at hl 3 rfl) ?_
      refine fp7_72 (pc := 78) hx hb hown hts hK hP hD hS rfl dX7_when_78 (fun H locs hP hD hS => ?_)
      refine lv_iload_n (pc := 81) hx hb dX7_when_81 rfl (lv_at hl 2 rfl) ?_
      exact kx_iret (pc := 82) hx hb hr hlocks hK hP hD hS h dX7_when_82
    · have h := h.2 c1
      refine lv_aload_n (pc := 23) hx hb dX7_when_23 rfl (lv_at hl 0 rfl) ?_
      refine lv_iconst (pc := 24) (v := (0 : Int32)) hx hb dX7_when_24 (by decide) ?_
      refine lv_iload_n (pc := 25) hx hb dX7_when_25 rfl (lv_at hl 1 rfl) ?_
      refine lv_aload_n (pc := 26) hx hb dX7_when_26 rfl (lv_at hl 0 rfl) ?_
      refine lv_aload_n (pc := 27) hx hb dX7_when_27 rfl (lv_at hl 0 rfl) ?_
      refine fg7_7 (pc := 28) (b := 1) hx hb hown hts hK hP rfl rfl dX7_when_28 ?_
      refine lv_iconst (pc := 31) (v := (1 : Int32)) hx hb dX7_when_31 (by decide) ?_
      refine kx_iald (pc := 32) hx hb hK hP rfl (by unfold vp_in; decide) dX7_when_32 ?_
      refine lv_iload (pc := 33) hx hb dX7_when_33 (lv_at hl 4 rfl) ?_
      refine lv_iadd (pc := 35) hx hb dX7_when_35 ?_
      refine kx_iVi (pc := 36) [.int ((σ.1 1 (1 : Int32).toNatClampNeg) + x4)] hx hb hml hown hts hK hP hD hS (q7_windAt h) (cw7_164 hts ⟨Nat.le_of_ble_eq_true rfl, Nat.le_of_ble_eq_true rfl⟩) rfl (by decide) rfl rfl hl.1 rfl (Nat.le_of_ble_eq_true rfl) ⟨Nat.le_of_ble_eq_true rfl, Nat.le_of_ble_eq_true rfl⟩ dX7_when_36 (fun r3 u_ H locs hP hD hS h => ?_)
      obtain ⟨hu_, h⟩ := h
      rw [hu_] at hP hD
      refine kx_iVi (pc := 39) [.int (0 : Int32), .int x1, .int r3] hx hb hml hown hts hK hP hD hS (q7_paysIn h) (cw7_167 hts ⟨Nat.le_of_ble_eq_true rfl, Nat.le_of_ble_eq_true rfl⟩) rfl (by decide) rfl rfl hl.1 rfl (Nat.le_of_ble_eq_true rfl) ⟨Nat.le_of_ble_eq_true rfl, Nat.le_of_ble_eq_true rfl⟩ dX7_when_39 (fun r4 u_ H locs hP hD hS h => ?_)
      obtain ⟨hu_, h⟩ := h
      rw [hu_] at hP hD
      refine lv_istore (pc := 42) (lv' := [(5, .int r4), (0, .ref (ad 0)), (1, .int x1), (2, .int x2), (3, .int x3), (4, .int x4)]) hx hb dX7_when_42 hl (by decide) rfl (fun ls hl => ?_)
      refine lv_iload (pc := 44) hx hb dX7_when_44 (lv_at hl 0 rfl) ?_
      refine lv_iload_n (pc := 46) hx hb dX7_when_46 rfl (lv_at hl 4 rfl) ?_
      refine lv_icmp_le (pc := 47) (tgt := 55) hx hb dX7_when_47 (by decide) (fun c5 => ?_) (fun c5 => ?_)
      · have h := h.1 c5
        refine lv_iload_n (pc := 55) hx hb dX7_when_55 rfl (lv_at hl 3 rfl) ?_
        have hc6 : ∀ (σ : kx_St) (x1 : Int32) (x2 : Int32) (x3 : Int32) (x4 : Int32) (H : Heap) (locs : List Loc) (ls : Array Slot), (fun σ x1 x2 x3 x4 => p7_when_L17 n σ x1 x2 x3 x4 Q) σ x1 x2 x3 x4 → va_P D vwCl (kx_ws cy 1 ad σ) H → va_D A (kx_ws cy 1 ad σ) → va_S A s.heap H locs → lv_has ls 6 [(0, .ref (ad 0)), (1, .int x1), (2, .int x2), (3, .int x3), (4, .int x4)] → W p l e rm7_when s m args below meth c H locs 0 0 (MQ below (kx_Qc kx_ci Q (kx_Wd D cy 1 ad A) A) args s 0 0 A) (F0 m 17 ls []) := fun σ x1 x2 x3 x4 H locs ls h hP hD hS hl => ih _ _ _ _ _ _ _ _ h hP hD hS hl
        exact w7_when_J56 cx hc6 h hP hD hS (lv_sub hl [1, 2, 4, 5, 0] rfl)
      · have h := h.2 c5
        refine lv_iload (pc := 50) hx hb dX7_when_50 (lv_at hl 5 rfl) ?_
        refine lv_goto (pc := 52) (tgt := 56) hx hb dX7_when_52 (by decide) ?_
        have hc7 : ∀ (σ : kx_St) (x1 : Int32) (x2 : Int32) (x3 : Int32) (x4 : Int32) (H : Heap) (locs : List Loc) (ls : Array Slot), (fun σ x1 x2 x3 x4 => p7_when_L17 n σ x1 x2 x3 x4 Q) σ x1 x2 x3 x4 → va_P D vwCl (kx_ws cy 1 ad σ) H → va_D A (kx_ws cy 1 ad σ) → va_S A s.heap H locs → lv_has ls 6 [(0, .ref (ad 0)), (1, .int x1), (2, .int x2), (3, .int x3), (4, .int x4)] → W p l e rm7_when s m args below meth c H locs 0 0 (MQ below (kx_Qc kx_ci Q (kx_Wd D cy 1 ad A) A) args s 0 0 A) (F0 m 17 ls []) := fun σ x1 x2 x3 x4 H locs ls h hP hD hS hl => ih _ _ _ _ _ _ _ _ h hP hD hS hl
        exact w7_when_J56 cx hc7 h hP hD hS (lv_sub hl [1, 2, 4, 5, 0] rfl)
def p7_when (σ : kx_St) (x1 : Int32) (Q : kx_St → Int32 → Prop) : Prop := p7_isKite σ x1 (fun r1 => (¬ r1 = 0 → ∃ m17, p7_when_L17 m17 σ x1 (0 : Int32) (-1 : Int32) (0 : Int32) Q) ∧ (r1 = 0 → Q σ (-1 : Int32)))
set_option maxHeartbeats 4000000 in
theorem q7_when {σ : kx_St} {x1 : Int32} {Q : kx_St → Int32 → Prop} (h : p7_when σ x1 Q) : Met l yX7_when (Cond.code yX7_when cX7_when 6 (some .int) :: kx_big) rm7_when (va_Pc [.ref (ad 0), .int x1] (kx_Wd D cy 1 ad A σ)) (kx_Qc kx_ci Q (kx_Wd D cy 1 ad A) A) 0 0 A := by
  refine kx_head (plainFor_of_name (by decide)) (Nat.le_of_ble_eq_true rfl) ?_
  intro p e s m below meth c ls cx hP hD hS hl
  obtain ⟨hx, hb, hr, hlocks, hml, hown, hts, hK⟩ := id cx
  have hl : lv_has ls 6 [(0, .ref (ad 0)), (1, .int x1)] := hl
  refine lv_aload_n (pc := 0) hx hb dX7_when_0 rfl (lv_at hl 0 rfl) ?_
  refine lv_iload_n (pc := 1) hx hb dX7_when_1 rfl (lv_at hl 1 rfl) ?_
  refine kx_iVi (pc := 2) [.int x1] hx hb hml hown hts hK hP hD hS (q7_isKite h) (cw7_174 hts ⟨Nat.le_of_ble_eq_true rfl, Nat.le_of_ble_eq_true rfl⟩) rfl (by decide) rfl rfl hl.1 rfl (Nat.le_of_ble_eq_true rfl) ⟨Nat.le_of_ble_eq_true rfl, Nat.le_of_ble_eq_true rfl⟩ dX7_when_2 (fun r1 u_ H locs hP hD hS h => ?_)
  obtain ⟨hu_, h⟩ := h
  rw [hu_] at hP hD
  refine lv_if_ne (pc := 5) (tgt := 10) hx hb dX7_when_5 (by decide) (fun c2 => ?_) (fun c2 => ?_)
  · have h := h.1 c2
    refine lv_iconst (pc := 10) (v := (0 : Int32)) hx hb dX7_when_10 (by decide) ?_
    refine lv_istore_n (pc := 11) (lv' := [(2, .int (0 : Int32)), (0, .ref (ad 0)), (1, .int x1)]) hx hb dX7_when_11 rfl hl (by decide) rfl (fun ls hl => ?_)
    refine lv_iconst (pc := 12) (v := (-1 : Int32)) hx hb dX7_when_12 (by decide) ?_
    refine lv_istore_n (pc := 13) (lv' := [(3, .int (-1 : Int32)), (2, .int (0 : Int32)), (0, .ref (ad 0)), (1, .int x1)]) hx hb dX7_when_13 rfl hl (by decide) rfl (fun ls hl => ?_)
    refine lv_iconst (pc := 14) (v := (0 : Int32)) hx hb dX7_when_14 (by decide) ?_
    refine lv_istore (pc := 15) (lv' := [(4, .int (0 : Int32)), (3, .int (-1 : Int32)), (2, .int (0 : Int32)), (0, .ref (ad 0)), (1, .int x1)]) hx hb dX7_when_15 hl (by decide) rfl (fun ls hl => ?_)
    obtain ⟨n0, h⟩ := h
    exact w7_when_L17 cx  n0 _ _ _ _ _ _ _ _ h hP hD hS (lv_sub hl [3, 4, 2, 1, 0] rfl)
  · have h := h.2 c2
    refine lv_iconst (pc := 8) (v := (-1 : Int32)) hx hb dX7_when_8 (by decide) ?_
    exact kx_iret (pc := 9) hx hb hr hlocks hK hP hD hS h dX7_when_9
def p7_crossedIn (σ : kx_St) (x1 : Int32) (x2 : Int32) (x3 : Int32) (Q : Int32 → Prop) : Prop := p7_liftsIn σ (0 : Int32) x1 x3 (fun r1 => p7_liftsIn σ (0 : Int32) x2 x3 (fun r2 => (r1 ≤ 0 → Q (r1 + r2)) ∧ (¬ r1 ≤ 0 → (r2 ≤ 0 → Q (r1 + r2)) ∧ (¬ r2 ≤ 0 → Q ((r1 + r2) + (3 : Int32))))))
set_option maxHeartbeats 4000000 in
theorem q7_crossedIn {σ : kx_St} {x1 : Int32} {x2 : Int32} {x3 : Int32} {Q : Int32 → Prop} (h : p7_crossedIn σ x1 x2 x3 Q) : Met l yX7_crossedIn (Cond.code yX7_crossedIn cX7_crossedIn 6 (some .int) :: kx_big) rm7_crossedIn (va_Pc [.ref (ad 0), .int x1, .int x2, .int x3] (kx_Wd D cy 1 ad A σ)) (kx_Qc kx_ci (fun u r => u = σ ∧ Q r) (kx_Wd D cy 1 ad A) A) 0 0 A := by
  refine kx_head (plainFor_of_name (by decide)) (Nat.le_of_ble_eq_true rfl) ?_
  intro p e s m below meth c ls cx hP hD hS hl
  obtain ⟨hx, hb, hr, hlocks, hml, hown, hts, hK⟩ := id cx
  have hl : lv_has ls 6 [(0, .ref (ad 0)), (1, .int x1), (2, .int x2), (3, .int x3)] := hl
  refine lv_aload_n (pc := 0) hx hb dX7_crossedIn_0 rfl (lv_at hl 0 rfl) ?_
  refine lv_iconst (pc := 1) (v := (0 : Int32)) hx hb dX7_crossedIn_1 (by decide) ?_
  refine lv_iload_n (pc := 2) hx hb dX7_crossedIn_2 rfl (lv_at hl 1 rfl) ?_
  refine lv_iload_n (pc := 3) hx hb dX7_crossedIn_3 rfl (lv_at hl 3 rfl) ?_
  refine kx_iVi (pc := 4) [.int (0 : Int32), .int x1, .int x3] hx hb hml hown hts hK hP hD hS (q7_liftsIn h) (cw7_157 hts ⟨Nat.le_of_ble_eq_true rfl, Nat.le_of_ble_eq_true rfl⟩) rfl (by decide) rfl rfl hl.1 rfl (Nat.le_of_ble_eq_true rfl) ⟨Nat.le_of_ble_eq_true rfl, Nat.le_of_ble_eq_true rfl⟩ dX7_crossedIn_4 (fun r1 u_ H locs hP hD hS h => ?_)
  obtain ⟨hu_, h⟩ := h
  rw [hu_] at hP hD
  refine lv_istore (pc := 7) (lv' := [(4, .int r1), (0, .ref (ad 0)), (1, .int x1), (2, .int x2), (3, .int x3)]) hx hb dX7_crossedIn_7 hl (by decide) rfl (fun ls hl => ?_)
  refine lv_aload_n (pc := 9) hx hb dX7_crossedIn_9 rfl (lv_at hl 1 rfl) ?_
  refine lv_iconst (pc := 10) (v := (0 : Int32)) hx hb dX7_crossedIn_10 (by decide) ?_
  refine lv_iload_n (pc := 11) hx hb dX7_crossedIn_11 rfl (lv_at hl 3 rfl) ?_
  refine lv_iload_n (pc := 12) hx hb dX7_crossedIn_12 rfl (lv_at hl 4 rfl) ?_
  refine kx_iVi (pc := 13) [.int (0 : Int32), .int x2, .int x3] hx hb hml hown hts hK hP hD hS (q7_liftsIn h) (cw7_157 hts ⟨Nat.le_of_ble_eq_true rfl, Nat.le_of_ble_eq_true rfl⟩) rfl (by decide) rfl rfl hl.1 rfl (Nat.le_of_ble_eq_true rfl) ⟨Nat.le_of_ble_eq_true rfl, Nat.le_of_ble_eq_true rfl⟩ dX7_crossedIn_13 (fun r2 u_ H locs hP hD hS h => ?_)
  obtain ⟨hu_, h⟩ := h
  rw [hu_] at hP hD
  refine lv_istore (pc := 16) (lv' := [(5, .int r2), (4, .int r1), (0, .ref (ad 0)), (1, .int x1), (2, .int x2), (3, .int x3)]) hx hb dX7_crossedIn_16 hl (by decide) rfl (fun ls hl => ?_)
  refine lv_iload (pc := 18) hx hb dX7_crossedIn_18 (lv_at hl 1 rfl) ?_
  refine lv_if_le (pc := 20) (tgt := 38) hx hb dX7_crossedIn_20 (by decide) (fun c3 => ?_) (fun c3 => ?_)
  · have h := h.1 c3
    refine lv_iload (pc := 38) hx hb dX7_crossedIn_38 (lv_at hl 1 rfl) ?_
    refine lv_iload (pc := 40) hx hb dX7_crossedIn_40 (lv_at hl 0 rfl) ?_
    refine lv_iadd (pc := 42) hx hb dX7_crossedIn_42 ?_
    exact kx_iret (pc := 43) hx hb hr hlocks hK hP hD hS ⟨rfl, h⟩ dX7_crossedIn_43
  · have h := h.2 c3
    refine lv_iload (pc := 23) hx hb dX7_crossedIn_23 (lv_at hl 0 rfl) ?_
    refine lv_if_le (pc := 25) (tgt := 38) hx hb dX7_crossedIn_25 (by decide) (fun c4 => ?_) (fun c4 => ?_)
    · have h := h.1 c4
      refine lv_iload (pc := 38) hx hb dX7_crossedIn_38 (lv_at hl 1 rfl) ?_
      refine lv_iload (pc := 40) hx hb dX7_crossedIn_40 (lv_at hl 0 rfl) ?_
      refine lv_iadd (pc := 42) hx hb dX7_crossedIn_42 ?_
      exact kx_iret (pc := 43) hx hb hr hlocks hK hP hD hS ⟨rfl, h⟩ dX7_crossedIn_43
    · have h := h.2 c4
      refine lv_iload (pc := 28) hx hb dX7_crossedIn_28 (lv_at hl 1 rfl) ?_
      refine lv_iload (pc := 30) hx hb dX7_crossedIn_30 (lv_at hl 0 rfl) ?_
      refine lv_iadd (pc := 32) hx hb dX7_crossedIn_32 ?_
      refine lv_iconst (pc := 33) (v := (3 : Int32)) hx hb dX7_crossedIn_33 (by decide) ?_
      refine lv_iadd (pc := 34) hx hb dX7_crossedIn_34 ?_
      refine lv_goto (pc := 35) (tgt := 43) hx hb dX7_crossedIn_35 (by decide) ?_
      exact kx_iret (pc := 43) hx hb hr hlocks hK hP hD hS ⟨rfl, h⟩ dX7_crossedIn_43
def p7_cross (σ : kx_St) (x1 : Int32) (x2 : Int32) (x3 : Int32) (Q : Int32 → Prop) : Prop := p7_isKite σ x1 (fun r1 => (r1 = 0 → Q (-1 : Int32)) ∧ (¬ r1 = 0 → p7_isKite σ x2 (fun r3 => (r3 = 0 → Q (-1 : Int32)) ∧ (¬ r3 = 0 → (x1 = x2 → Q (-1 : Int32)) ∧ (¬ x1 = x2 → p7_in (x3.toInt64) (0 : Int64) (9 : Int64) (fun r6 => (r6 = 0 → Q (-1 : Int32)) ∧ (¬ r6 = 0 → p7_crossedIn σ x1 x2 x3 (fun r8 => Q r8))))))))
set_option maxHeartbeats 4000000 in
theorem q7_cross {σ : kx_St} {x1 : Int32} {x2 : Int32} {x3 : Int32} {Q : Int32 → Prop} (h : p7_cross σ x1 x2 x3 Q) : Met l yX7_cross (Cond.code yX7_cross cX7_cross 4 (some .int) :: kx_big) rm7_cross (va_Pc [.ref (ad 0), .int x1, .int x2, .int x3] (kx_Wd D cy 1 ad A σ)) (kx_Qc kx_ci (fun u r => u = σ ∧ Q r) (kx_Wd D cy 1 ad A) A) 0 0 A := by
  refine kx_head (plainFor_of_name (by decide)) (Nat.le_of_ble_eq_true rfl) ?_
  intro p e s m below meth c ls cx hP hD hS hl
  obtain ⟨hx, hb, hr, hlocks, hml, hown, hts, hK⟩ := id cx
  have hl : lv_has ls 4 [(0, .ref (ad 0)), (1, .int x1), (2, .int x2), (3, .int x3)] := hl
  refine lv_aload_n (pc := 0) hx hb dX7_cross_0 rfl (lv_at hl 0 rfl) ?_
  refine lv_iload_n (pc := 1) hx hb dX7_cross_1 rfl (lv_at hl 1 rfl) ?_
  refine kx_iVi (pc := 2) [.int x1] hx hb hml hown hts hK hP hD hS (q7_isKite h) (cw7_174 hts ⟨Nat.le_of_ble_eq_true rfl, Nat.le_of_ble_eq_true rfl⟩) rfl (by decide) rfl rfl hl.1 rfl (Nat.le_of_ble_eq_true rfl) ⟨Nat.le_of_ble_eq_true rfl, Nat.le_of_ble_eq_true rfl⟩ dX7_cross_2 (fun r1 u_ H locs hP hD hS h => ?_)
  obtain ⟨hu_, h⟩ := h
  rw [hu_] at hP hD
  refine lv_if_eq (pc := 5) (tgt := 43) hx hb dX7_cross_5 (by decide) (fun c2 => ?_) (fun c2 => ?_)
  · have h := h.1 c2
    refine lv_iconst (pc := 43) (v := (-1 : Int32)) hx hb dX7_cross_43 (by decide) ?_
    exact kx_iret (pc := 44) hx hb hr hlocks hK hP hD hS ⟨rfl, h⟩ dX7_cross_44
  · have h := h.2 c2
    refine lv_aload_n (pc := 8) hx hb dX7_cross_8 rfl (lv_at hl 0 rfl) ?_
    refine lv_iload_n (pc := 9) hx hb dX7_cross_9 rfl (lv_at hl 2 rfl) ?_
    refine kx_iVi (pc := 10) [.int x2] hx hb hml hown hts hK hP hD hS (q7_isKite h) (cw7_174 hts ⟨Nat.le_of_ble_eq_true rfl, Nat.le_of_ble_eq_true rfl⟩) rfl (by decide) rfl rfl hl.1 rfl (Nat.le_of_ble_eq_true rfl) ⟨Nat.le_of_ble_eq_true rfl, Nat.le_of_ble_eq_true rfl⟩ dX7_cross_10 (fun r3 u_ H locs hP hD hS h => ?_)
    obtain ⟨hu_, h⟩ := h
    rw [hu_] at hP hD
    refine lv_if_eq (pc := 13) (tgt := 43) hx hb dX7_cross_13 (by decide) (fun c4 => ?_) (fun c4 => ?_)
    · have h := h.1 c4
      refine lv_iconst (pc := 43) (v := (-1 : Int32)) hx hb dX7_cross_43 (by decide) ?_
      exact kx_iret (pc := 44) hx hb hr hlocks hK hP hD hS ⟨rfl, h⟩ dX7_cross_44
    · have h := h.2 c4
      refine lv_iload_n (pc := 16) hx hb dX7_cross_16 rfl (lv_at hl 1 rfl) ?_
      refine lv_iload_n (pc := 17) hx hb dX7_cross_17 rfl (lv_at hl 2 rfl) ?_
      refine lv_icmp_eq (pc := 18) (tgt := 43) hx hb dX7_cross_18 (by decide) (fun c5 => ?_) (fun c5 => ?_)
      · have h := h.1 c5
        refine lv_iconst (pc := 43) (v := (-1 : Int32)) hx hb dX7_cross_43 (by decide) ?_
        exact kx_iret (pc := 44) hx hb hr hlocks hK hP hD hS ⟨rfl, h⟩ dX7_cross_44
      · have h := h.2 c5
        refine lv_iload_n (pc := 21) hx hb dX7_cross_21 rfl (lv_at hl 3 rfl) ?_
        refine lv_i2l (pc := 22) (v := (x3.toInt64)) hx hb dX7_cross_22 rfl ?_
        refine lv_lconst (pc := 23) (v := (0 : Int64)) hx hb dX7_cross_23 (by decide) ?_
        refine lv_ldc2 (pc := 24) (v := (9 : Int64)) hx hb hown (hts _ tb_966) dX7_cross_24 ?_
        refine kx_iSi (pc := 27) [.long (x3.toInt64), .long (0 : Int64), .long (9 : Int64)] hx hb hml hown hts hK hP hD hS (q7_in h) (cw7_77 hts ⟨Nat.le_of_ble_eq_true rfl, Nat.le_of_ble_eq_true rfl⟩) rfl hl.1 rfl (Nat.le_of_ble_eq_true rfl) ⟨Nat.le_of_ble_eq_true rfl, Nat.le_of_ble_eq_true rfl⟩ dX7_cross_27 (fun r6 u_ H locs hP hD hS h => ?_)
        obtain ⟨hu_, h⟩ := h
        rw [hu_] at hP hD
        refine lv_if_eq (pc := 30) (tgt := 43) hx hb dX7_cross_30 (by decide) (fun c7 => ?_) (fun c7 => ?_)
        · have h := h.1 c7
          refine lv_iconst (pc := 43) (v := (-1 : Int32)) hx hb dX7_cross_43 (by decide) ?_
          exact kx_iret (pc := 44) hx hb hr hlocks hK hP hD hS ⟨rfl, h⟩ dX7_cross_44
        · have h := h.2 c7
          refine lv_aload_n (pc := 33) hx hb dX7_cross_33 rfl (lv_at hl 0 rfl) ?_
          refine lv_iload_n (pc := 34) hx hb dX7_cross_34 rfl (lv_at hl 1 rfl) ?_
          refine lv_iload_n (pc := 35) hx hb dX7_cross_35 rfl (lv_at hl 2 rfl) ?_
          refine lv_iload_n (pc := 36) hx hb dX7_cross_36 rfl (lv_at hl 3 rfl) ?_
          refine kx_iVi (pc := 37) [.int x1, .int x2, .int x3] hx hb hml hown hts hK hP hD hS (q7_crossedIn h) (cw7_230 hts ⟨Nat.le_of_ble_eq_true rfl, Nat.le_of_ble_eq_true rfl⟩) rfl (by decide) rfl rfl hl.1 rfl (Nat.le_of_ble_eq_true rfl) ⟨Nat.le_of_ble_eq_true rfl, Nat.le_of_ble_eq_true rfl⟩ dX7_cross_37 (fun r8 u_ H locs hP hD hS h => ?_)
          obtain ⟨hu_, h⟩ := h
          rw [hu_] at hP hD
          refine lv_goto (pc := 40) (tgt := 44) hx hb dX7_cross_40 (by decide) ?_
          exact kx_iret (pc := 44) hx hb hr hlocks hK hP hD hS ⟨rfl, h⟩ dX7_cross_44
def p7_crossed_J116 (σ : kx_St) (x1 : Int32) (x2 : Int32) (x4 : Int32) (x5 : Int32) (x6 : Int32) (x7 : Int32) (x8 : Int32) (s0 : Int32) (s1 : Int32) (k55 : kx_St → Int32 → Int32 → Int32 → Int32 → Int32 → Prop) (Q : kx_St → Int32 → Prop) : Prop := (x8 = 0 → k55 σ x1 x2 (s0 + s1) x4 (x5 + (-1 : Int32))) ∧ (¬ x8 = 0 → k55 σ x1 x2 (s0 + s1) (((10 : Int32) * x6) + x7) (x5 + (-1 : Int32)))
set_option maxHeartbeats 4000000 in
theorem w7_crossed_J116 {σ : kx_St} {x1 : Int32} {x2 : Int32} {x4 : Int32} {x5 : Int32} {x6 : Int32} {x7 : Int32} {x8 : Int32} {s0 : Int32} {s1 : Int32} {k55 : kx_St → Int32 → Int32 → Int32 → Int32 → Int32 → Prop} {Q : kx_St → Int32 → Prop} {H : Heap} {locs : List Loc} {ls : Array Slot} (cx : kx_Cx p s m args meth c D cy RX7 cX7_crossed 9 (some .int)) (hk55 : ∀ (σ : kx_St) (x1 : Int32) (x2 : Int32) (x3 : Int32) (x4 : Int32) (x5 : Int32) (H : Heap) (locs : List Loc) (ls : Array Slot), k55 σ x1 x2 x3 x4 x5 → va_P D vwCl (kx_ws cy 1 ad σ) H → va_D A (kx_ws cy 1 ad σ) → va_S A s.heap H locs → lv_has ls 9 [(0, .ref (ad 0)), (1, .int x1), (2, .int x2), (3, .int x3), (4, .int x4), (5, .int x5)] → W p l e rm7_crossed s m args below meth c H locs 0 0 (MQ below (kx_Qc kx_ci Q (kx_Wd D cy 1 ad A) A) args s 0 0 A) (F0 m 55 ls []))  (h : p7_crossed_J116 σ x1 x2 x4 x5 x6 x7 x8 s0 s1 k55 Q) (hP : va_P D vwCl (kx_ws cy 1 ad σ) H) (hD : va_D A (kx_ws cy 1 ad σ)) (hS : va_S A s.heap H locs) (hl : lv_has ls 9 [(0, .ref (ad 0)), (1, .int x1), (2, .int x2), (4, .int x4), (5, .int x5), (6, .int x6), (7, .int x7), (8, .int x8)]) : W p l e rm7_crossed s m args below meth c H locs 0 0 (MQ below (kx_Qc kx_ci Q (kx_Wd D cy 1 ad A) A) args s 0 0 A) (F0 m 116 ls [.int s1, .int s0]) := by
  obtain ⟨hx, hb, hr, hlocks, hml, hown, hts, hK⟩ := id cx
  refine lv_iadd (pc := 116) hx hb dX7_crossed_116 ?_
  refine lv_istore_n (pc := 117) (lv' := [(3, .int (s0 + s1)), (0, .ref (ad 0)), (1, .int x1), (2, .int x2), (4, .int x4), (5, .int x5), (6, .int x6), (7, .int x7), (8, .int x8)]) hx hb dX7_crossed_117 rfl hl (by decide) rfl (fun ls hl => ?_)
  refine lv_iload (pc := 118) hx hb dX7_crossed_118 (lv_at hl 8 rfl) ?_
  refine lv_if_eq (pc := 120) (tgt := 134) hx hb dX7_crossed_120 (by decide) (fun c1 => ?_) (fun c1 => ?_)
  · have h := h.1 c1
    refine lv_iload (pc := 134) hx hb dX7_crossed_134 (lv_at hl 4 rfl) ?_
    refine lv_istore (pc := 136) (lv' := [(4, .int x4), (3, .int (s0 + s1)), (0, .ref (ad 0)), (1, .int x1), (2, .int x2), (5, .int x5), (6, .int x6), (7, .int x7), (8, .int x8)]) hx hb dX7_crossed_136 hl (by decide) rfl (fun ls hl => ?_)
    refine lv_iinc (pc := 138) (v := (x5 + (-1 : Int32))) (lv' := [(5, .int (x5 + (-1 : Int32))), (4, .int x4), (3, .int (s0 + s1)), (0, .ref (ad 0)), (1, .int x1), (2, .int x2), (6, .int x6), (7, .int x7), (8, .int x8)]) hx hb dX7_crossed_138 hl (k := 5) rfl rfl (by decide) rfl (fun ls hl => ?_)
    refine lv_goto (pc := 141) (tgt := 55) hx hb dX7_crossed_141 (by decide) ?_
    exact hk55 _ _ _ _ _ _ _ _ _ h hP hD hS (lv_sub hl [3, 4, 5, 2, 1, 0] rfl)
  · have h := h.2 c1
    refine lv_bipush (pc := 123) (v := (10 : Int32)) hx hb dX7_crossed_123 (by decide) ?_
    refine lv_iload (pc := 125) hx hb dX7_crossed_125 (lv_at hl 6 rfl) ?_
    refine lv_imul (pc := 127) hx hb dX7_crossed_127 ?_
    refine lv_iload (pc := 128) hx hb dX7_crossed_128 (lv_at hl 7 rfl) ?_
    refine lv_iadd (pc := 130) hx hb dX7_crossed_130 ?_
    refine lv_goto (pc := 131) (tgt := 136) hx hb dX7_crossed_131 (by decide) ?_
    refine lv_istore (pc := 136) (lv' := [(4, .int (((10 : Int32) * x6) + x7)), (3, .int (s0 + s1)), (0, .ref (ad 0)), (1, .int x1), (2, .int x2), (5, .int x5), (6, .int x6), (7, .int x7), (8, .int x8)]) hx hb dX7_crossed_136 hl (by decide) rfl (fun ls hl => ?_)
    refine lv_iinc (pc := 138) (v := (x5 + (-1 : Int32))) (lv' := [(5, .int (x5 + (-1 : Int32))), (4, .int (((10 : Int32) * x6) + x7)), (3, .int (s0 + s1)), (0, .ref (ad 0)), (1, .int x1), (2, .int x2), (6, .int x6), (7, .int x7), (8, .int x8)]) hx hb dX7_crossed_138 hl (k := 5) rfl rfl (by decide) rfl (fun ls hl => ?_)
    refine lv_goto (pc := 141) (tgt := 55) hx hb dX7_crossed_141 (by decide) ?_
    exact hk55 _ _ _ _ _ _ _ _ _ h hP hD hS (lv_sub hl [3, 4, 5, 2, 1, 0] rfl)
def p7_crossed_J103 (σ : kx_St) (x1 : Int32) (x2 : Int32) (x3 : Int32) (x4 : Int32) (x5 : Int32) (x6 : Int32) (x7 : Int32) (s0 : Int32) (k55 : kx_St → Int32 → Int32 → Int32 → Int32 → Int32 → Prop) (Q : kx_St → Int32 → Prop) : Prop := (s0 = 0 → p7_crossed_J116 σ x1 x2 x4 x5 x6 x7 s0 x3 (0 : Int32) k55 Q) ∧ (¬ s0 = 0 → p7_crossed_J116 σ x1 x2 x4 x5 x6 x7 s0 x3 (1 : Int32) k55 Q)
set_option maxHeartbeats 4000000 in
theorem w7_crossed_J103 {σ : kx_St} {x1 : Int32} {x2 : Int32} {x3 : Int32} {x4 : Int32} {x5 : Int32} {x6 : Int32} {x7 : Int32} {s0 : Int32} {k55 : kx_St → Int32 → Int32 → Int32 → Int32 → Int32 → Prop} {Q : kx_St → Int32 → Prop} {H : Heap} {locs : List Loc} {ls : Array Slot} (cx : kx_Cx p s m args meth c D cy RX7 cX7_crossed 9 (some .int)) (hk55 : ∀ (σ : kx_St) (x1 : Int32) (x2 : Int32) (x3 : Int32) (x4 : Int32) (x5 : Int32) (H : Heap) (locs : List Loc) (ls : Array Slot), k55 σ x1 x2 x3 x4 x5 → va_P D vwCl (kx_ws cy 1 ad σ) H → va_D A (kx_ws cy 1 ad σ) → va_S A s.heap H locs → lv_has ls 9 [(0, .ref (ad 0)), (1, .int x1), (2, .int x2), (3, .int x3), (4, .int x4), (5, .int x5)] → W p l e rm7_crossed s m args below meth c H locs 0 0 (MQ below (kx_Qc kx_ci Q (kx_Wd D cy 1 ad A) A) args s 0 0 A) (F0 m 55 ls []))  (h : p7_crossed_J103 σ x1 x2 x3 x4 x5 x6 x7 s0 k55 Q) (hP : va_P D vwCl (kx_ws cy 1 ad σ) H) (hD : va_D A (kx_ws cy 1 ad σ)) (hS : va_S A s.heap H locs) (hl : lv_has ls 9 [(0, .ref (ad 0)), (1, .int x1), (2, .int x2), (3, .int x3), (4, .int x4), (5, .int x5), (6, .int x6), (7, .int x7)]) : W p l e rm7_crossed s m args below meth c H locs 0 0 (MQ below (kx_Qc kx_ci Q (kx_Wd D cy 1 ad A) A) args s 0 0 A) (F0 m 103 ls [.int s0]) := by
  obtain ⟨hx, hb, hr, hlocks, hml, hown, hts, hK⟩ := id cx
  refine lv_istore (pc := 103) (lv' := [(8, .int s0), (0, .ref (ad 0)), (1, .int x1), (2, .int x2), (3, .int x3), (4, .int x4), (5, .int x5), (6, .int x6), (7, .int x7)]) hx hb dX7_crossed_103 hl (by decide) rfl (fun ls hl => ?_)
  refine lv_iload_n (pc := 105) hx hb dX7_crossed_105 rfl (lv_at hl 4 rfl) ?_
  refine lv_iload (pc := 106) hx hb dX7_crossed_106 (lv_at hl 0 rfl) ?_
  refine lv_if_eq (pc := 108) (tgt := 115) hx hb dX7_crossed_108 (by decide) (fun c1 => ?_) (fun c1 => ?_)
  · have h := h.1 c1
    refine lv_iconst (pc := 115) (v := (0 : Int32)) hx hb dX7_crossed_115 (by decide) ?_
    exact w7_crossed_J116 cx hk55 h hP hD hS (lv_sub hl [1, 2, 3, 5, 6, 7, 8, 0] rfl)
  · have h := h.2 c1
    refine lv_iconst (pc := 111) (v := (1 : Int32)) hx hb dX7_crossed_111 (by decide) ?_
    refine lv_goto (pc := 112) (tgt := 116) hx hb dX7_crossed_112 (by decide) ?_
    exact w7_crossed_J116 cx hk55 h hP hD hS (lv_sub hl [1, 2, 3, 5, 6, 7, 8, 0] rfl)
def p7_crossed_J158 (σ : kx_St) (x3 : Int32) (s1 : Int32) (Q : kx_St → Int32 → Prop) : Prop := (fun σ1 : kx_St => (¬ x3 = 0 → Q σ1 x3) ∧ (x3 = 0 → Q σ1 (-9 : Int32))) (kx_sI σ 0 11 s1)
set_option maxHeartbeats 4000000 in
theorem w7_crossed_J158 {σ : kx_St} {x3 : Int32} {s1 : Int32}  {Q : kx_St → Int32 → Prop} {H : Heap} {locs : List Loc} {ls : Array Slot} (cx : kx_Cx p s m args meth c D cy RX7 cX7_crossed 9 (some .int))   (h : p7_crossed_J158 σ x3 s1 Q) (hP : va_P D vwCl (kx_ws cy 1 ad σ) H) (hD : va_D A (kx_ws cy 1 ad σ)) (hS : va_S A s.heap H locs) (hl : lv_has ls 9 [(3, .int x3)]) : W p l e rm7_crossed s m args below meth c H locs 0 0 (MQ below (kx_Qc kx_ci Q (kx_Wd D cy 1 ad A) A) args s 0 0 A) (F0 m 158 ls [.int s1, .ref (ad 0)]) := by
  obtain ⟨hx, hb, hr, hlocks, hml, hown, hts, hK⟩ := id cx
  refine fp7_72 (pc := 158) hx hb hown hts hK hP hD hS rfl dX7_crossed_158 (fun H locs hP hD hS => ?_)
  refine lv_iload_n (pc := 161) hx hb dX7_crossed_161 rfl (lv_at hl 0 rfl) ?_
  refine lv_if_ne (pc := 162) (tgt := 170) hx hb dX7_crossed_162 (by decide) (fun c2 => ?_) (fun c2 => ?_)
  · have h := h.1 c2
    refine lv_iload_n (pc := 170) hx hb dX7_crossed_170 rfl (lv_at hl 0 rfl) ?_
    exact kx_iret (pc := 171) hx hb hr hlocks hK hP hD hS h dX7_crossed_171
  · have h := h.2 c2
    refine lv_bipush (pc := 165) (v := (-9 : Int32)) hx hb dX7_crossed_165 (by decide) ?_
    refine lv_goto (pc := 167) (tgt := 171) hx hb dX7_crossed_167 (by decide) ?_
    exact kx_iret (pc := 171) hx hb hr hlocks hK hP hD hS h dX7_crossed_171
def p7_crossed_L55 : Nat → kx_St → Int32 → Int32 → Int32 → Int32 → Int32 → (kx_St → Int32 → Prop) → Prop
  | 0, _, _, _, _, _, _, _ => False
  | n + 1, σ, x1, x2, x3, x4, x5, Q => (x5 < 0 → (¬ x3 = 0 → p7_crossed_J158 σ x3 x4 Q) ∧ (x3 = 0 → p7_crossed_J158 σ x3 (σ.1 0 11) Q)) ∧ (¬ x5 < 0 → ¬ (σ.1 0 3) = 0 ∧ (¬ (σ.1 0 3) = 0 ∧ (((x5 - x5 / (σ.1 0 3) * (σ.1 0 3)) ≤ (x5 / (σ.1 0 3)) → p7_crossed_J103 σ x1 x2 x3 x4 x5 (x5 / (σ.1 0 3)) (x5 - x5 / (σ.1 0 3) * (σ.1 0 3)) (0 : Int32) (fun σ x1 x2 x3 x4 x5 => p7_crossed_L55 n σ x1 x2 x3 x4 x5 Q) Q) ∧ (¬ (x5 - x5 / (σ.1 0 3) * (σ.1 0 3)) ≤ (x5 / (σ.1 0 3)) → p7_crossedIn σ (x5 / (σ.1 0 3)) (x5 - x5 / (σ.1 0 3) * (σ.1 0 3)) x2 (fun r7 => (¬ r7 = x1 → p7_crossed_J103 σ x1 x2 x3 x4 x5 (x5 / (σ.1 0 3)) (x5 - x5 / (σ.1 0 3) * (σ.1 0 3)) (0 : Int32) (fun σ x1 x2 x3 x4 x5 => p7_crossed_L55 n σ x1 x2 x3 x4 x5 Q) Q) ∧ (r7 = x1 → p7_crossed_J103 σ x1 x2 x3 x4 x5 (x5 / (σ.1 0 3)) (x5 - x5 / (σ.1 0 3) * (σ.1 0 3)) (1 : Int32) (fun σ x1 x2 x3 x4 x5 => p7_crossed_L55 n σ x1 x2 x3 x4 x5 Q) Q))))))
set_option maxHeartbeats 4000000 in
theorem w7_crossed_L55  {Q : kx_St → Int32 → Prop} (cx : kx_Cx p s m args meth c D cy RX7 cX7_crossed 9 (some .int))  : ∀ (n : Nat) (σ : kx_St) (x1 : Int32) (x2 : Int32) (x3 : Int32) (x4 : Int32) (x5 : Int32) (H : Heap) (locs : List Loc) (ls : Array Slot), p7_crossed_L55 n σ x1 x2 x3 x4 x5 Q → va_P D vwCl (kx_ws cy 1 ad σ) H → va_D A (kx_ws cy 1 ad σ) → va_S A s.heap H locs → lv_has ls 9 [(0, .ref (ad 0)), (1, .int x1), (2, .int x2), (3, .int x3), (4, .int x4), (5, .int x5)] → W p l e rm7_crossed s m args below meth c H locs 0 0 (MQ below (kx_Qc kx_ci Q (kx_Wd D cy 1 ad A) A) args s 0 0 A) (F0 m 55 ls []) := by
  obtain ⟨hx, hb, hr, hlocks, hml, hown, hts, hK⟩ := id cx
  intro n
  induction n with
  | zero => intro _ _ _ _ _ _ _ _ _ h; exact False.elim h
  | succ n ih =>
    intro σ x1 x2 x3 x4 x5 H locs ls h hP hD hS hl
    refine lv_iload (pc := 55) hx hb dX7_crossed_55 (lv_at hl 5 rfl) ?_
    refine lv_if_lt (pc := 57) (tgt := 144) hx hb dX7_crossed_57 (by decide) (fun c1 => ?_) (fun c1 => ?_)
    · have h := h.1 c1
      refine lv_aload_n (pc := 144) hx hb dX7_crossed_144 rfl (lv_at hl 0 rfl) ?_
      refine lv_iload_n (pc := 145) hx hb dX7_crossed_145 rfl (lv_at hl 3 rfl) ?_
      refine lv_if_ne (pc := 146) (tgt := 156) hx hb dX7_crossed_146 (by decide) (fun c2 => ?_) (fun c2 => ?_)
      · have h := h.1 c2
        refine lv_iload (pc := 156) hx hb dX7_crossed_156 (lv_at hl 4 rfl) ?_
        exact w7_crossed_J158 cx  h hP hD hS (lv_sub hl [3] rfl)
      · have h := h.2 c2
        refine lv_aload_n (pc := 149) hx hb dX7_crossed_149 rfl (lv_at hl 0 rfl) ?_
        refine fg7_72 (pc := 150) hx hb hown hts hK hP rfl dX7_crossed_150 ?_
        refine lv_goto (pc := 153) (tgt := 158) hx hb dX7_crossed_153 (by decide) ?_
        exact w7_crossed_J158 cx  h hP hD hS (lv_sub hl [3] rfl)
    · have h := h.2 c1
      refine lv_iload (pc := 60) hx hb dX7_crossed_60 (lv_at hl 5 rfl) ?_
      refine lv_aload_n (pc := 62) hx hb dX7_crossed_62 rfl (lv_at hl 0 rfl) ?_
      refine fg7_150 (pc := 63) hx hb hown hts hK hP rfl dX7_crossed_63 ?_
      obtain ⟨g3, h⟩ := h
      refine lv_idiv (pc := 66) hx hb dX7_crossed_66 g3 ?_
      refine lv_istore (pc := 67) (lv' := [(6, .int (x5 / (σ.1 0 3))), (0, .ref (ad 0)), (1, .int x1), (2, .int x2), (3, .int x3), (4, .int x4), (5, .int x5)]) hx hb dX7_crossed_67 hl (by decide) rfl (fun ls hl => ?_)
      refine lv_iload (pc := 69) hx hb dX7_crossed_69 (lv_at hl 6 rfl) ?_
      refine lv_aload_n (pc := 71) hx hb dX7_crossed_71 rfl (lv_at hl 1 rfl) ?_
      refine fg7_150 (pc := 72) hx hb hown hts hK hP rfl dX7_crossed_72 ?_
      obtain ⟨g4, h⟩ := h
      refine lv_irem (pc := 75) hx hb dX7_crossed_75 g4 ?_
      refine lv_istore (pc := 76) (lv' := [(7, .int (x5 - x5 / (σ.1 0 3) * (σ.1 0 3))), (6, .int (x5 / (σ.1 0 3))), (0, .ref (ad 0)), (1, .int x1), (2, .int x2), (3, .int x3), (4, .int x4), (5, .int x5)]) hx hb dX7_crossed_76 hl (by decide) rfl (fun ls hl => ?_)
      refine lv_iload (pc := 78) hx hb dX7_crossed_78 (lv_at hl 1 rfl) ?_
      refine lv_iload (pc := 80) hx hb dX7_crossed_80 (lv_at hl 0 rfl) ?_
      refine lv_icmp_ge (pc := 82) (tgt := 102) hx hb dX7_crossed_82 (by decide) (fun c5 => ?_) (fun c5 => ?_)
      · have h := h.1 c5
        refine lv_iconst (pc := 102) (v := (0 : Int32)) hx hb dX7_crossed_102 (by decide) ?_
        have hc6 : ∀ (σ : kx_St) (x1 : Int32) (x2 : Int32) (x3 : Int32) (x4 : Int32) (x5 : Int32) (H : Heap) (locs : List Loc) (ls : Array Slot), (fun σ x1 x2 x3 x4 x5 => p7_crossed_L55 n σ x1 x2 x3 x4 x5 Q) σ x1 x2 x3 x4 x5 → va_P D vwCl (kx_ws cy 1 ad σ) H → va_D A (kx_ws cy 1 ad σ) → va_S A s.heap H locs → lv_has ls 9 [(0, .ref (ad 0)), (1, .int x1), (2, .int x2), (3, .int x3), (4, .int x4), (5, .int x5)] → W p l e rm7_crossed s m args below meth c H locs 0 0 (MQ below (kx_Qc kx_ci Q (kx_Wd D cy 1 ad A) A) args s 0 0 A) (F0 m 55 ls []) := fun σ x1 x2 x3 x4 x5 H locs ls h hP hD hS hl => ih _ _ _ _ _ _ _ _ _ h hP hD hS hl
        exact w7_crossed_J103 cx hc6 h hP hD hS (lv_sub hl [2, 3, 4, 5, 6, 7, 1, 0] rfl)
      · have h := h.2 c5
        refine lv_aload_n (pc := 85) hx hb dX7_crossed_85 rfl (lv_at hl 2 rfl) ?_
        refine lv_iload (pc := 86) hx hb dX7_crossed_86 (lv_at hl 1 rfl) ?_
        refine lv_iload (pc := 88) hx hb dX7_crossed_88 (lv_at hl 0 rfl) ?_
        refine lv_iload_n (pc := 90) hx hb dX7_crossed_90 rfl (lv_at hl 4 rfl) ?_
        refine kx_iVi (pc := 91) [.int (x5 / (σ.1 0 3)), .int (x5 - x5 / (σ.1 0 3) * (σ.1 0 3)), .int x2] hx hb hml hown hts hK hP hD hS (q7_crossedIn h) (cw7_230 hts ⟨Nat.le_of_ble_eq_true rfl, Nat.le_of_ble_eq_true rfl⟩) rfl (by decide) rfl rfl hl.1 rfl (Nat.le_of_ble_eq_true rfl) ⟨Nat.le_of_ble_eq_true rfl, Nat.le_of_ble_eq_true rfl⟩ dX7_crossed_91 (fun r7 u_ H locs hP hD hS h => ?_)
        obtain ⟨hu_, h⟩ := h
        rw [hu_] at hP hD
        refine lv_iload_n (pc := 94) hx hb dX7_crossed_94 rfl (lv_at hl 3 rfl) ?_
        refine lv_icmp_ne (pc := 95) (tgt := 102) hx hb dX7_crossed_95 (by decide) (fun c8 => ?_) (fun c8 => ?_)
        · have h := h.1 c8
          refine lv_iconst (pc := 102) (v := (0 : Int32)) hx hb dX7_crossed_102 (by decide) ?_
          have hc9 : ∀ (σ : kx_St) (x1 : Int32) (x2 : Int32) (x3 : Int32) (x4 : Int32) (x5 : Int32) (H : Heap) (locs : List Loc) (ls : Array Slot), (fun σ x1 x2 x3 x4 x5 => p7_crossed_L55 n σ x1 x2 x3 x4 x5 Q) σ x1 x2 x3 x4 x5 → va_P D vwCl (kx_ws cy 1 ad σ) H → va_D A (kx_ws cy 1 ad σ) → va_S A s.heap H locs → lv_has ls 9 [(0, .ref (ad 0)), (1, .int x1), (2, .int x2), (3, .int x3), (4, .int x4), (5, .int x5)] → W p l e rm7_crossed s m args below meth c H locs 0 0 (MQ below (kx_Qc kx_ci Q (kx_Wd D cy 1 ad A) A) args s 0 0 A) (F0 m 55 ls []) := fun σ x1 x2 x3 x4 x5 H locs ls h hP hD hS hl => ih _ _ _ _ _ _ _ _ _ h hP hD hS hl
          exact w7_crossed_J103 cx hc9 h hP hD hS (lv_sub hl [2, 3, 4, 5, 6, 7, 1, 0] rfl)
        · have h := h.2 c8
          refine lv_iconst (pc := 98) (v := (1 : Int32)) hx hb dX7_crossed_98 (by decide) ?_
          refine lv_goto (pc := 99) (tgt := 103) hx hb dX7_crossed_99 (by decide) ?_
          have hc10 : ∀ (σ : kx_St) (x1 : Int32) (x2 : Int32) (x3 : Int32) (x4 : Int32) (x5 : Int32) (H : Heap) (locs : List Loc) (ls : Array Slot), (fun σ x1 x2 x3 x4 x5 => p7_crossed_L55 n σ x1 x2 x3 x4 x5 Q) σ x1 x2 x3 x4 x5 → va_P D vwCl (kx_ws cy 1 ad σ) H → va_D A (kx_ws cy 1 ad σ) → va_S A s.heap H locs → lv_has ls 9 [(0, .ref (ad 0)), (1, .int x1), (2, .int x2), (3, .int x3), (4, .int x4), (5, .int x5)] → W p l e rm7_crossed s m args below meth c H locs 0 0 (MQ below (kx_Qc kx_ci Q (kx_Wd D cy 1 ad A) A) args s 0 0 A) (F0 m 55 ls []) := fun σ x1 x2 x3 x4 x5 H locs ls h hP hD hS hl => ih _ _ _ _ _ _ _ _ _ h hP hD hS hl
          exact w7_crossed_J103 cx hc10 h hP hD hS (lv_sub hl [2, 3, 4, 5, 6, 7, 1, 0] rfl)
def p7_crossed (σ : kx_St) (x1 : Int32) (x2 : Int32) (Q : kx_St → Int32 → Prop) : Prop := p7_in (x1.toInt64) (0 : Int64) (200 : Int64) (fun r1 => (r1 = 0 → Q σ (-1 : Int32)) ∧ (¬ r1 = 0 → p7_in (x2.toInt64) (0 : Int64) (9 : Int64) (fun r3 => (¬ r3 = 0 → (¬ (σ.1 0 3) = 0 → ∃ m55, p7_crossed_L55 m55 σ x1 x2 (0 : Int32) (-9 : Int32) (((σ.1 0 3) * (σ.1 0 3)) - (1 : Int32)) Q) ∧ ((σ.1 0 3) = 0 → Q σ (-4 : Int32))) ∧ (r3 = 0 → Q σ (-1 : Int32)))))
set_option maxHeartbeats 4000000 in
theorem q7_crossed {σ : kx_St} {x1 : Int32} {x2 : Int32} {Q : kx_St → Int32 → Prop} (h : p7_crossed σ x1 x2 Q) : Met l yX7_crossed (Cond.code yX7_crossed cX7_crossed 9 (some .int) :: kx_big) rm7_crossed (va_Pc [.ref (ad 0), .int x1, .int x2] (kx_Wd D cy 1 ad A σ)) (kx_Qc kx_ci Q (kx_Wd D cy 1 ad A) A) 0 0 A := by
  refine kx_head (plainFor_of_name (by decide)) (Nat.le_of_ble_eq_true rfl) ?_
  intro p e s m below meth c ls cx hP hD hS hl
  obtain ⟨hx, hb, hr, hlocks, hml, hown, hts, hK⟩ := id cx
  have hl : lv_has ls 9 [(0, .ref (ad 0)), (1, .int x1), (2, .int x2)] := hl
  refine lv_iload_n (pc := 0) hx hb dX7_crossed_0 rfl (lv_at hl 1 rfl) ?_
  refine lv_i2l (pc := 1) (v := (x1.toInt64)) hx hb dX7_crossed_1 rfl ?_
  refine lv_lconst (pc := 2) (v := (0 : Int64)) hx hb dX7_crossed_2 (by decide) ?_
  refine lv_ldc2 (pc := 3) (v := (200 : Int64)) hx hb hown (hts _ tb_1072) dX7_crossed_3 ?_
  refine kx_iSi (pc := 6) [.long (x1.toInt64), .long (0 : Int64), .long (200 : Int64)] hx hb hml hown hts hK hP hD hS (q7_in h) (cw7_77 hts ⟨Nat.le_of_ble_eq_true rfl, Nat.le_of_ble_eq_true rfl⟩) rfl hl.1 rfl (Nat.le_of_ble_eq_true rfl) ⟨Nat.le_of_ble_eq_true rfl, Nat.le_of_ble_eq_true rfl⟩ dX7_crossed_6 (fun r1 u_ H locs hP hD hS h => ?_)
  obtain ⟨hu_, h⟩ := h
  rw [hu_] at hP hD
  refine lv_if_eq (pc := 9) (tgt := 24) hx hb dX7_crossed_9 (by decide) (fun c2 => ?_) (fun c2 => ?_)
  · have h := h.1 c2
    refine lv_iconst (pc := 24) (v := (-1 : Int32)) hx hb dX7_crossed_24 (by decide) ?_
    exact kx_iret (pc := 25) hx hb hr hlocks hK hP hD hS h dX7_crossed_25
  · have h := h.2 c2
    refine lv_iload_n (pc := 12) hx hb dX7_crossed_12 rfl (lv_at hl 2 rfl) ?_
    refine lv_i2l (pc := 13) (v := (x2.toInt64)) hx hb dX7_crossed_13 rfl ?_
    refine lv_lconst (pc := 14) (v := (0 : Int64)) hx hb dX7_crossed_14 (by decide) ?_
    refine lv_ldc2 (pc := 15) (v := (9 : Int64)) hx hb hown (hts _ tb_966) dX7_crossed_15 ?_
    refine kx_iSi (pc := 18) [.long (x2.toInt64), .long (0 : Int64), .long (9 : Int64)] hx hb hml hown hts hK hP hD hS (q7_in h) (cw7_77 hts ⟨Nat.le_of_ble_eq_true rfl, Nat.le_of_ble_eq_true rfl⟩) rfl hl.1 rfl (Nat.le_of_ble_eq_true rfl) ⟨Nat.le_of_ble_eq_true rfl, Nat.le_of_ble_eq_true rfl⟩ dX7_crossed_18 (fun r3 u_ H locs hP hD hS h => ?_)
    obtain ⟨hu_, h⟩ := h
    rw [hu_] at hP hD
    refine lv_if_ne (pc := 21) (tgt := 26) hx hb dX7_crossed_21 (by decide) (fun c4 => ?_) (fun c4 => ?_)
    · have h := h.1 c4
      refine lv_aload_n (pc := 26) hx hb dX7_crossed_26 rfl (lv_at hl 0 rfl) ?_
      refine fg7_150 (pc := 27) hx hb hown hts hK hP rfl dX7_crossed_27 ?_
      refine lv_if_ne (pc := 30) (tgt := 36) hx hb dX7_crossed_30 (by decide) (fun c5 => ?_) (fun c5 => ?_)
      · have h := h.1 c5
        refine lv_iconst (pc := 36) (v := (0 : Int32)) hx hb dX7_crossed_36 (by decide) ?_
        refine lv_istore_n (pc := 37) (lv' := [(3, .int (0 : Int32)), (0, .ref (ad 0)), (1, .int x1), (2, .int x2)]) hx hb dX7_crossed_37 rfl hl (by decide) rfl (fun ls hl => ?_)
        refine lv_bipush (pc := 38) (v := (-9 : Int32)) hx hb dX7_crossed_38 (by decide) ?_
        refine lv_istore (pc := 40) (lv' := [(4, .int (-9 : Int32)), (3, .int (0 : Int32)), (0, .ref (ad 0)), (1, .int x1), (2, .int x2)]) hx hb dX7_crossed_40 hl (by decide) rfl (fun ls hl => ?_)
        refine lv_aload_n (pc := 42) hx hb dX7_crossed_42 rfl (lv_at hl 2 rfl) ?_
        refine fg7_150 (pc := 43) hx hb hown hts hK hP rfl dX7_crossed_43 ?_
        refine lv_aload_n (pc := 46) hx hb dX7_crossed_46 rfl (lv_at hl 2 rfl) ?_
        refine fg7_150 (pc := 47) hx hb hown hts hK hP rfl dX7_crossed_47 ?_
        refine lv_imul (pc := 50) hx hb dX7_crossed_50 ?_
        refine lv_iconst (pc := 51) (v := (1 : Int32)) hx hb dX7_crossed_51 (by decide) ?_
        refine lv_isub (pc := 52) hx hb dX7_crossed_52 ?_
        refine lv_istore (pc := 53) (lv' := [(5, .int (((σ.1 0 3) * (σ.1 0 3)) - (1 : Int32))), (4, .int (-9 : Int32)), (3, .int (0 : Int32)), (0, .ref (ad 0)), (1, .int x1), (2, .int x2)]) hx hb dX7_crossed_53 hl (by decide) rfl (fun ls hl => ?_)
        obtain ⟨n0, h⟩ := h
        exact w7_crossed_L55 cx  n0 _ _ _ _ _ _ _ _ _ h hP hD hS (lv_sub hl [3, 4, 5, 2, 1, 0] rfl)
      · have h := h.2 c5
        refine lv_bipush (pc := 33) (v := (-4 : Int32)) hx hb dX7_crossed_33 (by decide) ?_
        exact kx_iret (pc := 35) hx hb hr hlocks hK hP hD hS h dX7_crossed_35
    · have h := h.2 c4
      refine lv_iconst (pc := 24) (v := (-1 : Int32)) hx hb dX7_crossed_24 (by decide) ?_
      exact kx_iret (pc := 25) hx hb hr hlocks hK hP hD hS h dX7_crossed_25
def p7_mergedBy_J79 (σ : kx_St) (x1 : Int32) (x2 : Int32) (x3 : Int32) (x5 : Int32) (x6 : Int32) (s0 : Int32) (k10 : Int32 → Int32 → Int32 → Int32 → Int32 → Prop) (Q : Int32 → Prop) : Prop := (x6 ≤ x5 → k10 x1 (x2 + (0 : Int32)) x3 s0 (x5 + (1 : Int32))) ∧ (¬ x6 ≤ x5 → p7_crossedIn σ x5 x6 x1 (fun r2 => k10 x1 (x2 + r2) x3 s0 (x5 + (1 : Int32))))
set_option maxHeartbeats 4000000 in
theorem w7_mergedBy_J79 {σ : kx_St} {x1 : Int32} {x2 : Int32} {x3 : Int32} {x5 : Int32} {x6 : Int32} {s0 : Int32} {k10 : Int32 → Int32 → Int32 → Int32 → Int32 → Prop} {Q : Int32 → Prop} {H : Heap} {locs : List Loc} {ls : Array Slot} (cx : kx_Cx p s m args meth c D cy RX7 cX7_mergedBy 7 (some .int)) (hk10 : ∀ (x1 : Int32) (x2 : Int32) (x3 : Int32) (x4 : Int32) (x5 : Int32) (H : Heap) (locs : List Loc) (ls : Array Slot), k10 x1 x2 x3 x4 x5 → va_P D vwCl (kx_ws cy 1 ad σ) H → va_D A (kx_ws cy 1 ad σ) → va_S A s.heap H locs → lv_has ls 7 [(0, .ref (ad 0)), (1, .int x1), (2, .int x2), (3, .int x3), (4, .int x4), (5, .int x5)] → W p l e rm7_mergedBy s m args below meth c H locs 0 0 (MQ below (kx_Qc kx_ci (fun u r => u = σ ∧ Q r) (kx_Wd D cy 1 ad A) A) args s 0 0 A) (F0 m 10 ls []))  (h : p7_mergedBy_J79 σ x1 x2 x3 x5 x6 s0 k10 Q) (hP : va_P D vwCl (kx_ws cy 1 ad σ) H) (hD : va_D A (kx_ws cy 1 ad σ)) (hS : va_S A s.heap H locs) (hl : lv_has ls 7 [(0, .ref (ad 0)), (1, .int x1), (2, .int x2), (3, .int x3), (5, .int x5), (6, .int x6)]) : W p l e rm7_mergedBy s m args below meth c H locs 0 0 (MQ below (kx_Qc kx_ci (fun u r => u = σ ∧ Q r) (kx_Wd D cy 1 ad A) A) args s 0 0 A) (F0 m 79 ls [.int s0]) := by
  obtain ⟨hx, hb, hr, hlocks, hml, hown, hts, hK⟩ := id cx
  refine lv_istore (pc := 79) (lv' := [(4, .int s0), (0, .ref (ad 0)), (1, .int x1), (2, .int x2), (3, .int x3), (5, .int x5), (6, .int x6)]) hx hb dX7_mergedBy_79 hl (by decide) rfl (fun ls hl => ?_)
  refine lv_iload_n (pc := 81) hx hb dX7_mergedBy_81 rfl (lv_at hl 3 rfl) ?_
  refine lv_iload (pc := 82) hx hb dX7_mergedBy_82 (lv_at hl 6 rfl) ?_
  refine lv_iload (pc := 84) hx hb dX7_mergedBy_84 (lv_at hl 5 rfl) ?_
  refine lv_icmp_le (pc := 86) (tgt := 101) hx hb dX7_mergedBy_86 (by decide) (fun c1 => ?_) (fun c1 => ?_)
  · have h := h.1 c1
    refine lv_iconst (pc := 101) (v := (0 : Int32)) hx hb dX7_mergedBy_101 (by decide) ?_
    refine lv_iadd (pc := 102) hx hb dX7_mergedBy_102 ?_
    refine lv_istore_n (pc := 103) (lv' := [(2, .int (x2 + (0 : Int32))), (4, .int s0), (0, .ref (ad 0)), (1, .int x1), (3, .int x3), (5, .int x5), (6, .int x6)]) hx hb dX7_mergedBy_103 rfl hl (by decide) rfl (fun ls hl => ?_)
    refine lv_iinc (pc := 104) (v := (x5 + (1 : Int32))) (lv' := [(5, .int (x5 + (1 : Int32))), (2, .int (x2 + (0 : Int32))), (4, .int s0), (0, .ref (ad 0)), (1, .int x1), (3, .int x3), (6, .int x6)]) hx hb dX7_mergedBy_104 hl (k := 5) rfl rfl (by decide) rfl (fun ls hl => ?_)
    refine lv_goto (pc := 107) (tgt := 10) hx hb dX7_mergedBy_107 (by decide) ?_
    exact hk10 _ _ _ _ _ _ _ _ h hP hD hS (lv_sub hl [3, 4, 1, 5, 2, 0] rfl)
  · have h := h.2 c1
    refine lv_aload_n (pc := 89) hx hb dX7_mergedBy_89 rfl (lv_at hl 1 rfl) ?_
    refine lv_iload (pc := 90) hx hb dX7_mergedBy_90 (lv_at hl 5 rfl) ?_
    refine lv_iload (pc := 92) hx hb dX7_mergedBy_92 (lv_at hl 6 rfl) ?_
    refine lv_iload_n (pc := 94) hx hb dX7_mergedBy_94 rfl (lv_at hl 2 rfl) ?_
    refine kx_iVi (pc := 95) [.int x5, .int x6, .int x1] hx hb hml hown hts hK hP hD hS (q7_crossedIn h) (cw7_230 hts ⟨Nat.le_of_ble_eq_true rfl, Nat.le_of_ble_eq_true rfl⟩) rfl (by decide) rfl rfl hl.1 rfl (Nat.le_of_ble_eq_true rfl) ⟨Nat.le_of_ble_eq_true rfl, Nat.le_of_ble_eq_true rfl⟩ dX7_mergedBy_95 (fun r2 u_ H locs hP hD hS h => ?_)
    obtain ⟨hu_, h⟩ := h
    rw [hu_] at hP hD
    refine lv_goto (pc := 98) (tgt := 102) hx hb dX7_mergedBy_98 (by decide) ?_
    refine lv_iadd (pc := 102) hx hb dX7_mergedBy_102 ?_
    refine lv_istore_n (pc := 103) (lv' := [(2, .int (x2 + r2)), (4, .int s0), (0, .ref (ad 0)), (1, .int x1), (3, .int x3), (5, .int x5), (6, .int x6)]) hx hb dX7_mergedBy_103 rfl hl (by decide) rfl (fun ls hl => ?_)
    refine lv_iinc (pc := 104) (v := (x5 + (1 : Int32))) (lv' := [(5, .int (x5 + (1 : Int32))), (2, .int (x2 + r2)), (4, .int s0), (0, .ref (ad 0)), (1, .int x1), (3, .int x3), (6, .int x6)]) hx hb dX7_mergedBy_104 hl (k := 5) rfl rfl (by decide) rfl (fun ls hl => ?_)
    refine lv_goto (pc := 107) (tgt := 10) hx hb dX7_mergedBy_107 (by decide) ?_
    exact hk10 _ _ _ _ _ _ _ _ h hP hD hS (lv_sub hl [3, 4, 1, 5, 2, 0] rfl)
def p7_mergedBy_J41 (σ : kx_St) (x1 : Int32) (x2 : Int32) (x4 : Int32) (x5 : Int32) (x6 : Int32) (s0 : Int32) (s1 : Int32) (k10 : Int32 → Int32 → Int32 → Int32 → Int32 → Prop) (Q : Int32 → Prop) : Prop := (x4 = 0 → p7_mergedBy_J79 σ x1 x2 (s0 + s1) x5 x6 (0 : Int32) k10 Q) ∧ (¬ x4 = 0 → (x6 < 0 → p7_mergedBy_J79 σ x1 x2 (s0 + s1) x5 x6 (1 : Int32) k10 Q) ∧ (¬ x6 < 0 → (x6 = x5 → p7_mergedBy_J79 σ x1 x2 (s0 + s1) x5 x6 (0 : Int32) k10 Q) ∧ (¬ x6 = x5 → vp_in x6 6 ∧ ((¬ (σ.1 13 x6.toNatClampNeg) = (x5 + (1 : Int32)) → p7_mergedBy_J79 σ x1 x2 (s0 + s1) x5 x6 (0 : Int32) k10 Q) ∧ ((σ.1 13 x6.toNatClampNeg) = (x5 + (1 : Int32)) → p7_mergedBy_J79 σ x1 x2 (s0 + s1) x5 x6 (1 : Int32) k10 Q)))))
set_option maxHeartbeats 4000000 in
theorem w7_mergedBy_J41 {σ : kx_St} {x1 : Int32} {x2 : Int32} {x4 : Int32} {x5 : Int32} {x6 : Int32} {s0 : Int32} {s1 : Int32} {k10 : Int32 → Int32 → Int32 → Int32 → Int32 → Prop} {Q : Int32 → Prop} {H : Heap} {locs : List Loc} {ls : Array Slot} (cx : kx_Cx p s m args meth c D cy RX7 cX7_mergedBy 7 (some .int)) (hk10 : ∀ (x1 : Int32) (x2 : Int32) (x3 : Int32) (x4 : Int32) (x5 : Int32) (H : Heap) (locs : List Loc) (ls : Array Slot), k10 x1 x2 x3 x4 x5 → va_P D vwCl (kx_ws cy 1 ad σ) H → va_D A (kx_ws cy 1 ad σ) → va_S A s.heap H locs → lv_has ls 7 [(0, .ref (ad 0)), (1, .int x1), (2, .int x2), (3, .int x3), (4, .int x4), (5, .int x5)] → W p l e rm7_mergedBy s m args below meth c H locs 0 0 (MQ below (kx_Qc kx_ci (fun u r => u = σ ∧ Q r) (kx_Wd D cy 1 ad A) A) args s 0 0 A) (F0 m 10 ls []))  (h : p7_mergedBy_J41 σ x1 x2 x4 x5 x6 s0 s1 k10 Q) (hP : va_P D vwCl (kx_ws cy 1 ad σ) H) (hD : va_D A (kx_ws cy 1 ad σ)) (hS : va_S A s.heap H locs) (hl : lv_has ls 7 [(0, .ref (ad 0)), (1, .int x1), (2, .int x2), (4, .int x4), (5, .int x5), (6, .int x6)]) : W p l e rm7_mergedBy s m args below meth c H locs 0 0 (MQ below (kx_Qc kx_ci (fun u r => u = σ ∧ Q r) (kx_Wd D cy 1 ad A) A) args s 0 0 A) (F0 m 41 ls [.int s1, .int s0]) := by
  obtain ⟨hx, hb, hr, hlocks, hml, hown, hts, hK⟩ := id cx
  refine lv_iadd (pc := 41) hx hb dX7_mergedBy_41 ?_
  refine lv_istore_n (pc := 42) (lv' := [(3, .int (s0 + s1)), (0, .ref (ad 0)), (1, .int x1), (2, .int x2), (4, .int x4), (5, .int x5), (6, .int x6)]) hx hb dX7_mergedBy_42 rfl hl (by decide) rfl (fun ls hl => ?_)
  refine lv_iload (pc := 43) hx hb dX7_mergedBy_43 (lv_at hl 4 rfl) ?_
  refine lv_if_eq (pc := 45) (tgt := 78) hx hb dX7_mergedBy_45 (by decide) (fun c1 => ?_) (fun c1 => ?_)
  · have h := h.1 c1
    refine lv_iconst (pc := 78) (v := (0 : Int32)) hx hb dX7_mergedBy_78 (by decide) ?_
    exact w7_mergedBy_J79 cx hk10 h hP hD hS (lv_sub hl [1, 2, 3, 0, 5, 6] rfl)
  · have h := h.2 c1
    refine lv_iload (pc := 48) hx hb dX7_mergedBy_48 (lv_at hl 6 rfl) ?_
    refine lv_if_lt (pc := 50) (tgt := 74) hx hb dX7_mergedBy_50 (by decide) (fun c2 => ?_) (fun c2 => ?_)
    · have h := h.1 c2
      refine lv_iconst (pc := 74) (v := (1 : Int32)) hx hb dX7_mergedBy_74 (by decide) ?_
      refine lv_goto (pc := 75) (tgt := 79) hx hb dX7_mergedBy_75 (by decide) ?_
      exact w7_mergedBy_J79 cx hk10 h hP hD hS (lv_sub hl [1, 2, 3, 0, 5, 6] rfl)
    · have h := h.2 c2
      refine lv_iload (pc := 53) hx hb dX7_mergedBy_53 (lv_at hl 6 rfl) ?_
      refine lv_iload (pc := 55) hx hb dX7_mergedBy_55 (lv_at hl 5 rfl) ?_
      refine lv_icmp_eq (pc := 57) (tgt := 78) hx hb dX7_mergedBy_57 (by decide) (fun c3 => ?_) (fun c3 => ?_)
      · have h := h.1 c3
        refine lv_iconst (pc := 78) (v := (0 : Int32)) hx hb dX7_mergedBy_78 (by decide) ?_
        exact w7_mergedBy_J79 cx hk10 h hP hD hS (lv_sub hl [1, 2, 3, 0, 5, 6] rfl)
      · have h := h.2 c3
        refine lv_aload_n (pc := 60) hx hb dX7_mergedBy_60 rfl (lv_at hl 1 rfl) ?_
        refine fg7_50 (pc := 61) (b := 13) hx hb hown hts hK hP rfl rfl dX7_mergedBy_61 ?_
        refine lv_iload (pc := 64) hx hb dX7_mergedBy_64 (lv_at hl 6 rfl) ?_
        obtain ⟨g4, h⟩ := h
        refine kx_iald (pc := 66) hx hb hK hP rfl g4 dX7_mergedBy_66 ?_
        refine lv_iload (pc := 67) hx hb dX7_mergedBy_67 (lv_at hl 5 rfl) ?_
        refine lv_iconst (pc := 69) (v := (1 : Int32)) hx hb dX7_mergedBy_69 (by decide) ?_
        refine lv_iadd (pc := 70) hx hb dX7_mergedBy_70 ?_
        refine lv_icmp_ne (pc := 71) (tgt := 78) hx hb dX7_mergedBy_71 (by decide) (fun c5 => ?_) (fun c5 => ?_)
        · have h := h.1 c5
          refine lv_iconst (pc := 78) (v := (0 : Int32)) hx hb dX7_mergedBy_78 (by decide) ?_
          exact w7_mergedBy_J79 cx hk10 h hP hD hS (lv_sub hl [1, 2, 3, 0, 5, 6] rfl)
        · have h := h.2 c5
          refine lv_iconst (pc := 74) (v := (1 : Int32)) hx hb dX7_mergedBy_74 (by decide) ?_
          refine lv_goto (pc := 75) (tgt := 79) hx hb dX7_mergedBy_75 (by decide) ?_
          exact w7_mergedBy_J79 cx hk10 h hP hD hS (lv_sub hl [1, 2, 3, 0, 5, 6] rfl)
def p7_mergedBy_L10 : Nat → kx_St → Int32 → Int32 → Int32 → Int32 → Int32 → (Int32 → Prop) → Prop
  | 0, _, _, _, _, _, _, _ => False
  | n + 1, σ, x1, x2, x3, x4, x5, Q => ((σ.1 0 3) ≤ x5 → (x4 = 0 → Q (-1 : Int32)) ∧ (¬ x4 = 0 → (¬ x3 = ((σ.1 0 3) - (σ.1 0 3) / (2 : Int32) * (2 : Int32)) → Q (-1 : Int32)) ∧ (x3 = ((σ.1 0 3) - (σ.1 0 3) / (2 : Int32) * (2 : Int32)) → Q x2))) ∧ (¬ (σ.1 0 3) ≤ x5 → vp_in x5 6 ∧ ((0 ≤ ((σ.1 13 x5.toNatClampNeg) - (1 : Int32)) → p7_mergedBy_J41 σ x1 x2 x4 x5 ((σ.1 13 x5.toNatClampNeg) - (1 : Int32)) x3 (0 : Int32) (fun x1 x2 x3 x4 x5 => p7_mergedBy_L10 n σ x1 x2 x3 x4 x5 Q) Q) ∧ (¬ 0 ≤ ((σ.1 13 x5.toNatClampNeg) - (1 : Int32)) → p7_mergedBy_J41 σ x1 x2 x4 x5 ((σ.1 13 x5.toNatClampNeg) - (1 : Int32)) x3 (1 : Int32) (fun x1 x2 x3 x4 x5 => p7_mergedBy_L10 n σ x1 x2 x3 x4 x5 Q) Q)))
set_option maxHeartbeats 4000000 in
theorem w7_mergedBy_L10 {σ : kx_St}  {Q : Int32 → Prop} (cx : kx_Cx p s m args meth c D cy RX7 cX7_mergedBy 7 (some .int))  : ∀ (n : Nat) (x1 : Int32) (x2 : Int32) (x3 : Int32) (x4 : Int32) (x5 : Int32) (H : Heap) (locs : List Loc) (ls : Array Slot), p7_mergedBy_L10 n σ x1 x2 x3 x4 x5 Q → va_P D vwCl (kx_ws cy 1 ad σ) H → va_D A (kx_ws cy 1 ad σ) → va_S A s.heap H locs → lv_has ls 7 [(0, .ref (ad 0)), (1, .int x1), (2, .int x2), (3, .int x3), (4, .int x4), (5, .int x5)] → W p l e rm7_mergedBy s m args below meth c H locs 0 0 (MQ below (kx_Qc kx_ci (fun u r => u = σ ∧ Q r) (kx_Wd D cy 1 ad A) A) args s 0 0 A) (F0 m 10 ls []) := by
  obtain ⟨hx, hb, hr, hlocks, hml, hown, hts, hK⟩ := id cx
  intro n
  induction n with
  | zero => intro _ _ _ _ _ _ _ _ h; exact False.elim h
  | succ n ih =>
    intro x1 x2 x3 x4 x5 H locs ls h hP hD hS hl
    refine lv_iload (pc := 10) hx hb dX7_mergedBy_10 (lv_at hl 5 rfl) ?_
    refine lv_aload_n (pc := 12) hx hb dX7_mergedBy_12 rfl (lv_at hl 0 rfl) ?_
    refine fg7_150 (pc := 13) hx hb hown hts hK hP rfl dX7_mergedBy_13 ?_
    refine lv_icmp_ge (pc := 16) (tgt := 110) hx hb dX7_mergedBy_16 (by decide) (fun c1 => ?_) (fun c1 => ?_)
    · have h := h.1 c1
      refine lv_iload (pc := 110) hx hb dX7_mergedBy_110 (lv_at hl 4 rfl) ?_
      refine lv_if_eq (pc := 112) (tgt := 129) hx hb dX7_mergedBy_112 (by decide) (fun c2 => ?_) (fun c2 => ?_)
      · have h := h.1 c2
        refine lv_iconst (pc := 129) (v := (-1 : Int32)) hx hb dX7_mergedBy_129 (by decide) ?_
        exact kx_iret (pc := 130) hx hb hr hlocks hK hP hD hS ⟨rfl, h⟩ dX7_mergedBy_130
      · have h := h.2 c2
        refine lv_iload_n (pc := 115) hx hb dX7_mergedBy_115 rfl (lv_at hl 3 rfl) ?_
        refine lv_aload_n (pc := 116) hx hb dX7_mergedBy_116 rfl (lv_at hl 0 rfl) ?_
        refine fg7_150 (pc := 117) hx hb hown hts hK hP rfl dX7_mergedBy_117 ?_
        refine lv_iconst (pc := 120) (v := (2 : Int32)) hx hb dX7_mergedBy_120 (by decide) ?_
        refine lv_irem (pc := 121) hx hb dX7_mergedBy_121 (by decide) ?_
        refine lv_icmp_ne (pc := 122) (tgt := 129) hx hb dX7_mergedBy_122 (by decide) (fun c3 => ?_) (fun c3 => ?_)
        · have h := h.1 c3
          refine lv_iconst (pc := 129) (v := (-1 : Int32)) hx hb dX7_mergedBy_129 (by decide) ?_
          exact kx_iret (pc := 130) hx hb hr hlocks hK hP hD hS ⟨rfl, h⟩ dX7_mergedBy_130
        · have h := h.2 c3
          refine lv_iload_n (pc := 125) hx hb dX7_mergedBy_125 rfl (lv_at hl 2 rfl) ?_
          refine lv_goto (pc := 126) (tgt := 130) hx hb dX7_mergedBy_126 (by decide) ?_
          exact kx_iret (pc := 130) hx hb hr hlocks hK hP hD hS ⟨rfl, h⟩ dX7_mergedBy_130
    · have h := h.2 c1
      refine lv_aload_n (pc := 19) hx hb dX7_mergedBy_19 rfl (lv_at hl 0 rfl) ?_
      refine fg7_50 (pc := 20) (b := 13) hx hb hown hts hK hP rfl rfl dX7_mergedBy_20 ?_
      refine lv_iload (pc := 23) hx hb dX7_mergedBy_23 (lv_at hl 5 rfl) ?_
      obtain ⟨g4, h⟩ := h
      refine kx_iald (pc := 25) hx hb hK hP rfl g4 dX7_mergedBy_25 ?_
      refine lv_iconst (pc := 26) (v := (1 : Int32)) hx hb dX7_mergedBy_26 (by decide) ?_
      refine lv_isub (pc := 27) hx hb dX7_mergedBy_27 ?_
      refine lv_istore (pc := 28) (lv' := [(6, .int ((σ.1 13 x5.toNatClampNeg) - (1 : Int32))), (0, .ref (ad 0)), (1, .int x1), (2, .int x2), (3, .int x3), (4, .int x4), (5, .int x5)]) hx hb dX7_mergedBy_28 hl (by decide) rfl (fun ls hl => ?_)
      refine lv_iload_n (pc := 30) hx hb dX7_mergedBy_30 rfl (lv_at hl 4 rfl) ?_
      refine lv_iload (pc := 31) hx hb dX7_mergedBy_31 (lv_at hl 0 rfl) ?_
      refine lv_if_ge (pc := 33) (tgt := 40) hx hb dX7_mergedBy_33 (by decide) (fun c5 => ?_) (fun c5 => ?_)
      · have h := h.1 c5
        refine lv_iconst (pc := 40) (v := (0 : Int32)) hx hb dX7_mergedBy_40 (by decide) ?_
        have hc6 : ∀ (x1 : Int32) (x2 : Int32) (x3 : Int32) (x4 : Int32) (x5 : Int32) (H : Heap) (locs : List Loc) (ls : Array Slot), (fun x1 x2 x3 x4 x5 => p7_mergedBy_L10 n σ x1 x2 x3 x4 x5 Q) x1 x2 x3 x4 x5 → va_P D vwCl (kx_ws cy 1 ad σ) H → va_D A (kx_ws cy 1 ad σ) → va_S A s.heap H locs → lv_has ls 7 [(0, .ref (ad 0)), (1, .int x1), (2, .int x2), (3, .int x3), (4, .int x4), (5, .int x5)] → W p l e rm7_mergedBy s m args below meth c H locs 0 0 (MQ below (kx_Qc kx_ci (fun u r => u = σ ∧ Q r) (kx_Wd D cy 1 ad A) A) args s 0 0 A) (F0 m 10 ls []) := fun x1 x2 x3 x4 x5 H locs ls h hP hD hS hl => ih _ _ _ _ _ _ _ _ h hP hD hS hl
        exact w7_mergedBy_J41 cx hc6 h hP hD hS (lv_sub hl [1, 2, 3, 5, 6, 0] rfl)
      · have h := h.2 c5
        refine lv_iconst (pc := 36) (v := (1 : Int32)) hx hb dX7_mergedBy_36 (by decide) ?_
        refine lv_goto (pc := 37) (tgt := 41) hx hb dX7_mergedBy_37 (by decide) ?_
        have hc7 : ∀ (x1 : Int32) (x2 : Int32) (x3 : Int32) (x4 : Int32) (x5 : Int32) (H : Heap) (locs : List Loc) (ls : Array Slot), (fun x1 x2 x3 x4 x5 => p7_mergedBy_L10 n σ x1 x2 x3 x4 x5 Q) x1 x2 x3 x4 x5 → va_P D vwCl (kx_ws cy 1 ad σ) H → va_D A (kx_ws cy 1 ad σ) → va_S A s.heap H locs → lv_has ls 7 [(0, .ref (ad 0)), (1, .int x1), (2, .int x2), (3, .int x3), (4, .int x4), (5, .int x5)] → W p l e rm7_mergedBy s m args below meth c H locs 0 0 (MQ below (kx_Qc kx_ci (fun u r => u = σ ∧ Q r) (kx_Wd D cy 1 ad A) A) args s 0 0 A) (F0 m 10 ls []) := fun x1 x2 x3 x4 x5 H locs ls h hP hD hS hl => ih _ _ _ _ _ _ _ _ h hP hD hS hl
        exact w7_mergedBy_J41 cx hc7 h hP hD hS (lv_sub hl [1, 2, 3, 5, 6, 0] rfl)
def p7_mergedBy (σ : kx_St) (x1 : Int32) (Q : Int32 → Prop) : Prop := ∃ m10, p7_mergedBy_L10 m10 σ x1 (0 : Int32) (0 : Int32) (1 : Int32) (0 : Int32) Q
set_option maxHeartbeats 4000000 in
theorem q7_mergedBy {σ : kx_St} {x1 : Int32} {Q : Int32 → Prop} (h : p7_mergedBy σ x1 Q) : Met l yX7_mergedBy (Cond.code yX7_mergedBy cX7_mergedBy 7 (some .int) :: kx_big) rm7_mergedBy (va_Pc [.ref (ad 0), .int x1] (kx_Wd D cy 1 ad A σ)) (kx_Qc kx_ci (fun u r => u = σ ∧ Q r) (kx_Wd D cy 1 ad A) A) 0 0 A := by
  refine kx_head (plainFor_of_name (by decide)) (Nat.le_of_ble_eq_true rfl) ?_
  intro p e s m below meth c ls cx hP hD hS hl
  obtain ⟨hx, hb, hr, hlocks, hml, hown, hts, hK⟩ := id cx
  have hl : lv_has ls 7 [(0, .ref (ad 0)), (1, .int x1)] := hl
  refine lv_iconst (pc := 0) (v := (0 : Int32)) hx hb dX7_mergedBy_0 (by decide) ?_
  refine lv_istore_n (pc := 1) (lv' := [(2, .int (0 : Int32)), (0, .ref (ad 0)), (1, .int x1)]) hx hb dX7_mergedBy_1 rfl hl (by decide) rfl (fun ls hl => ?_)
  refine lv_iconst (pc := 2) (v := (0 : Int32)) hx hb dX7_mergedBy_2 (by decide) ?_
  refine lv_istore_n (pc := 3) (lv' := [(3, .int (0 : Int32)), (2, .int (0 : Int32)), (0, .ref (ad 0)), (1, .int x1)]) hx hb dX7_mergedBy_3 rfl hl (by decide) rfl (fun ls hl => ?_)
  refine lv_iconst (pc := 4) (v := (1 : Int32)) hx hb dX7_mergedBy_4 (by decide) ?_
  refine lv_istore (pc := 5) (lv' := [(4, .int (1 : Int32)), (3, .int (0 : Int32)), (2, .int (0 : Int32)), (0, .ref (ad 0)), (1, .int x1)]) hx hb dX7_mergedBy_5 hl (by decide) rfl (fun ls hl => ?_)
  refine lv_iconst (pc := 7) (v := (0 : Int32)) hx hb dX7_mergedBy_7 (by decide) ?_
  refine lv_istore (pc := 8) (lv' := [(5, .int (0 : Int32)), (4, .int (1 : Int32)), (3, .int (0 : Int32)), (2, .int (0 : Int32)), (0, .ref (ad 0)), (1, .int x1)]) hx hb dX7_mergedBy_8 hl (by decide) rfl (fun ls hl => ?_)
  obtain ⟨n0, h⟩ := h
  exact w7_mergedBy_L10 cx  n0 _ _ _ _ _ _ _ _ h hP hD hS (lv_sub hl [4, 5, 3, 2, 1, 0] rfl)
def p7_merge_L81 : Nat → kx_St → Int32 → Int32 → Int32 → Int32 → (kx_St → Int32 → Int32 → Int32 → Prop) → (kx_St → Int32 → Prop) → Prop
  | 0, _, _, _, _, _, _, _ => False
  | n + 1, σ, x1, x2, x3, x6, k110, Q => ((σ.1 0 3) ≤ x6 → k110 σ x1 x2 x3) ∧ (¬ (σ.1 0 3) ≤ x6 → vp_in x6 6 ∧ (vp_in x6 6 ∧ ((fun σ4 : kx_St => p7_merge_L81 n σ4 x1 x2 x3 (x6 + (1 : Int32)) k110 Q) (kx_sI σ 14 x6.toNatClampNeg (σ.1 13 x6.toNatClampNeg)))))
set_option maxHeartbeats 4000000 in
theorem w7_merge_L81 {k110 : kx_St → Int32 → Int32 → Int32 → Prop} {Q : kx_St → Int32 → Prop} (cx : kx_Cx p s m args meth c D cy RX7 cX7_merge 7 (some .int)) (hk110 : ∀ (σ : kx_St) (x1 : Int32) (x2 : Int32) (x3 : Int32) (H : Heap) (locs : List Loc) (ls : Array Slot), k110 σ x1 x2 x3 → va_P D vwCl (kx_ws cy 1 ad σ) H → va_D A (kx_ws cy 1 ad σ) → va_S A s.heap H locs → lv_has ls 7 [(0, .ref (ad 0)), (1, .int x1), (2, .int x2), (3, .int x3)] → W p l e rm7_merge s m args below meth c H locs 0 0 (MQ below (kx_Qc kx_ci Q (kx_Wd D cy 1 ad A) A) args s 0 0 A) (F0 m 110 ls [])) : ∀ (n : Nat) (σ : kx_St) (x1 : Int32) (x2 : Int32) (x3 : Int32) (x6 : Int32) (H : Heap) (locs : List Loc) (ls : Array Slot), p7_merge_L81 n σ x1 x2 x3 x6 k110 Q → va_P D vwCl (kx_ws cy 1 ad σ) H → va_D A (kx_ws cy 1 ad σ) → va_S A s.heap H locs → lv_has ls 7 [(0, .ref (ad 0)), (1, .int x1), (2, .int x2), (3, .int x3), (6, .int x6)] → W p l e rm7_merge s m args below meth c H locs 0 0 (MQ below (kx_Qc kx_ci Q (kx_Wd D cy 1 ad A) A) args s 0 0 A) (F0 m 81 ls []) := by
  obtain ⟨hx, hb, hr, hlocks, hml, hown, hts, hK⟩ := id cx
  intro n
  induction n with
  | zero => intro _ _ _ _ _ _ _ _ h; exact False.elim h
  | succ n ih =>
    intro σ x1 x2 x3 x6 H locs ls h hP hD hS hl
    refine lv_iload (pc := 81) hx hb dX7_merge_81 (lv_at hl 4 rfl) ?_
    refine lv_aload_n (pc := 83) hx hb dX7_merge_83 rfl (lv_at hl 0 rfl) ?_
    refine fg7_150 (pc := 84) hx hb hown hts hK hP rfl dX7_merge_84 ?_
    refine lv_icmp_ge (pc := 87) (tgt := 110) hx hb dX7_merge_87 (by decide) (fun c1 => ?_) (fun c1 => ?_)
    · have h := h.1 c1
      exact hk110 _ _ _ _ _ _ _ h hP hD hS (lv_sub hl [0, 1, 2, 3] rfl)
    · have h := h.2 c1
      refine lv_aload_n (pc := 90) hx hb dX7_merge_90 rfl (lv_at hl 0 rfl) ?_
      refine fg7_53 (pc := 91) (b := 14) hx hb hown hts hK hP rfl rfl dX7_merge_91 ?_
      refine lv_iload (pc := 94) hx hb dX7_merge_94 (lv_at hl 4 rfl) ?_
      refine lv_aload_n (pc := 96) hx hb dX7_merge_96 rfl (lv_at hl 0 rfl) ?_
      refine fg7_50 (pc := 97) (b := 13) hx hb hown hts hK hP rfl rfl dX7_merge_97 ?_
      refine lv_iload (pc := 100) hx hb dX7_merge_100 (lv_at hl 4 rfl) ?_
      obtain ⟨g2, h⟩ := h
      refine kx_iald (pc := 102) hx hb hK hP rfl g2 dX7_merge_102 ?_
      obtain ⟨g3, h⟩ := h
      refine kx_iast (pc := 103) hx hb hK hP hD hS rfl g3 dX7_merge_103 (fun H locs hP hD hS => ?_)
      refine lv_iinc (pc := 104) (v := (x6 + (1 : Int32))) (lv' := [(6, .int (x6 + (1 : Int32))), (0, .ref (ad 0)), (1, .int x1), (2, .int x2), (3, .int x3)]) hx hb dX7_merge_104 hl (k := 4) rfl rfl (by decide) rfl (fun ls hl => ?_)
      refine lv_goto (pc := 107) (tgt := 81) hx hb dX7_merge_107 (by decide) ?_
      exact ih _ _ _ _ _ _ _ _ h hP hD hS (lv_sub hl [1, 2, 3, 4, 0] rfl)
def p7_merge_J110 (σ : kx_St) (x1 : Int32) (x2 : Int32) (x3 : Int32) (k57 : kx_St → Int32 → Int32 → Int32 → Int32 → Prop) (Q : kx_St → Int32 → Prop) : Prop := p7_nextLine σ (σ.1 0 3) (fun σ2 r1 => k57 σ2 x1 x2 x3 r1)
set_option maxHeartbeats 4000000 in
theorem w7_merge_J110 {σ : kx_St} {x1 : Int32} {x2 : Int32} {x3 : Int32} {k57 : kx_St → Int32 → Int32 → Int32 → Int32 → Prop} {Q : kx_St → Int32 → Prop} {H : Heap} {locs : List Loc} {ls : Array Slot} (cx : kx_Cx p s m args meth c D cy RX7 cX7_merge 7 (some .int)) (hk57 : ∀ (σ : kx_St) (x1 : Int32) (x2 : Int32) (x3 : Int32) (x4 : Int32) (H : Heap) (locs : List Loc) (ls : Array Slot), k57 σ x1 x2 x3 x4 → va_P D vwCl (kx_ws cy 1 ad σ) H → va_D A (kx_ws cy 1 ad σ) → va_S A s.heap H locs → lv_has ls 7 [(0, .ref (ad 0)), (1, .int x1), (2, .int x2), (3, .int x3), (4, .int x4)] → W p l e rm7_merge s m args below meth c H locs 0 0 (MQ below (kx_Qc kx_ci Q (kx_Wd D cy 1 ad A) A) args s 0 0 A) (F0 m 57 ls []))  (h : p7_merge_J110 σ x1 x2 x3 k57 Q) (hP : va_P D vwCl (kx_ws cy 1 ad σ) H) (hD : va_D A (kx_ws cy 1 ad σ)) (hS : va_S A s.heap H locs) (hl : lv_has ls 7 [(0, .ref (ad 0)), (1, .int x1), (2, .int x2), (3, .int x3)]) : W p l e rm7_merge s m args below meth c H locs 0 0 (MQ below (kx_Qc kx_ci Q (kx_Wd D cy 1 ad A) A) args s 0 0 A) (F0 m 110 ls []) := by
  obtain ⟨hx, hb, hr, hlocks, hml, hown, hts, hK⟩ := id cx
  refine lv_aload_n (pc := 110) hx hb dX7_merge_110 rfl (lv_at hl 0 rfl) ?_
  refine lv_aload_n (pc := 111) hx hb dX7_merge_111 rfl (lv_at hl 0 rfl) ?_
  refine fg7_150 (pc := 112) hx hb hown hts hK hP rfl dX7_merge_112 ?_
  refine kx_iVi (pc := 115) [.int (σ.1 0 3)] hx hb hml hown hts hK hP hD hS (q7_nextLine h) (cw7_215 hts ⟨Nat.le_of_ble_eq_true rfl, Nat.le_of_ble_eq_true rfl⟩) rfl (by decide) rfl rfl hl.1 rfl (Nat.le_of_ble_eq_true rfl) ⟨Nat.le_of_ble_eq_true rfl, Nat.le_of_ble_eq_true rfl⟩ dX7_merge_115 (fun r1 σ2 H locs hP hD hS h => ?_)
  refine lv_istore (pc := 118) (lv' := [(4, .int r1), (0, .ref (ad 0)), (1, .int x1), (2, .int x2), (3, .int x3)]) hx hb dX7_merge_118 hl (by decide) rfl (fun ls hl => ?_)
  refine lv_goto (pc := 120) (tgt := 57) hx hb dX7_merge_120 (by decide) ?_
  exact hk57 _ _ _ _ _ _ _ _ h hP hD hS (lv_sub hl [1, 2, 3, 4, 0] rfl)
def p7_merge_L57 : Nat → kx_St → Int32 → Int32 → Int32 → Int32 → (kx_St → Int32 → Prop) → Prop
  | 0, _, _, _, _, _, _ => False
  | n + 1, σ, x1, x2, x3, x4, Q => (x4 = 0 → p7_tellLine σ (σ.1 0 3) x2 (fun σ3 => Q σ3 x3)) ∧ (¬ x4 = 0 → p7_mergedBy σ x1 (fun r4 => (r4 ≤ x3 → p7_merge_J110 σ x1 x2 x3 (fun σ x1 x2 x3 x4 => p7_merge_L57 n σ x1 x2 x3 x4 Q) Q) ∧ (¬ r4 ≤ x3 → ∃ m81, p7_merge_L81 m81 σ x1 x2 r4 (0 : Int32) (fun σ x1 x2 x3 => p7_merge_J110 σ x1 x2 x3 (fun σ x1 x2 x3 x4 => p7_merge_L57 n σ x1 x2 x3 x4 Q) Q) Q)))
set_option maxHeartbeats 4000000 in
theorem w7_merge_L57  {Q : kx_St → Int32 → Prop} (cx : kx_Cx p s m args meth c D cy RX7 cX7_merge 7 (some .int))  : ∀ (n : Nat) (σ : kx_St) (x1 : Int32) (x2 : Int32) (x3 : Int32) (x4 : Int32) (H : Heap) (locs : List Loc) (ls : Array Slot), p7_merge_L57 n σ x1 x2 x3 x4 Q → va_P D vwCl (kx_ws cy 1 ad σ) H → va_D A (kx_ws cy 1 ad σ) → va_S A s.heap H locs → lv_has ls 7 [(0, .ref (ad 0)), (1, .int x1), (2, .int x2), (3, .int x3), (4, .int x4)] → W p l e rm7_merge s m args below meth c H locs 0 0 (MQ below (kx_Qc kx_ci Q (kx_Wd D cy 1 ad A) A) args s 0 0 A) (F0 m 57 ls []) := by
  obtain ⟨hx, hb, hr, hlocks, hml, hown, hts, hK⟩ := id cx
  intro n
  induction n with
  | zero => intro _ _ _ _ _ _ _ _ h; exact False.elim h
  | succ n ih =>
    intro σ x1 x2 x3 x4 H locs ls h hP hD hS hl
    refine lv_iload (pc := 57) hx hb dX7_merge_57 (lv_at hl 4 rfl) ?_
    refine lv_if_eq (pc := 59) (tgt := 123) hx hb dX7_merge_59 (by decide) (fun c1 => ?_) (fun c1 => ?_)
    · have h := h.1 c1
      refine lv_aload_n (pc := 123) hx hb dX7_merge_123 rfl (lv_at hl 0 rfl) ?_
      refine lv_aload_n (pc := 124) hx hb dX7_merge_124 rfl (lv_at hl 0 rfl) ?_
      refine fg7_150 (pc := 125) hx hb hown hts hK hP rfl dX7_merge_125 ?_
      refine lv_iload_n (pc := 128) hx hb dX7_merge_128 rfl (lv_at hl 2 rfl) ?_
      refine kx_iVv (pc := 129) [.int (σ.1 0 3), .int x2] hx hb hml hown hts hK hP hD hS (q7_tellLine h) (cw7_221 hts ⟨Nat.le_of_ble_eq_true rfl, Nat.le_of_ble_eq_true rfl⟩) rfl (by decide) rfl rfl hl.1 rfl (Nat.le_of_ble_eq_true rfl) ⟨Nat.le_of_ble_eq_true rfl, Nat.le_of_ble_eq_true rfl⟩ dX7_merge_129 (fun _ σ3 H locs hP hD hS h => ?_)
      refine lv_iload_n (pc := 132) hx hb dX7_merge_132 rfl (lv_at hl 3 rfl) ?_
      exact kx_iret (pc := 133) hx hb hr hlocks hK hP hD hS h dX7_merge_133
    · have h := h.2 c1
      refine lv_aload_n (pc := 62) hx hb dX7_merge_62 rfl (lv_at hl 0 rfl) ?_
      refine lv_iload_n (pc := 63) hx hb dX7_merge_63 rfl (lv_at hl 1 rfl) ?_
      refine kx_iVi (pc := 64) [.int x1] hx hb hml hown hts hK hP hD hS (q7_mergedBy h) (cw7_235 hts ⟨Nat.le_of_ble_eq_true rfl, Nat.le_of_ble_eq_true rfl⟩) rfl (by decide) rfl rfl hl.1 rfl (Nat.le_of_ble_eq_true rfl) ⟨Nat.le_of_ble_eq_true rfl, Nat.le_of_ble_eq_true rfl⟩ dX7_merge_64 (fun r4 u_ H locs hP hD hS h => ?_)
      obtain ⟨hu_, h⟩ := h
      rw [hu_] at hP hD
      refine lv_istore (pc := 67) (lv' := [(5, .int r4), (0, .ref (ad 0)), (1, .int x1), (2, .int x2), (3, .int x3), (4, .int x4)]) hx hb dX7_merge_67 hl (by decide) rfl (fun ls hl => ?_)
      refine lv_iload (pc := 69) hx hb dX7_merge_69 (lv_at hl 0 rfl) ?_
      refine lv_iload_n (pc := 71) hx hb dX7_merge_71 rfl (lv_at hl 4 rfl) ?_
      refine lv_icmp_le (pc := 72) (tgt := 110) hx hb dX7_merge_72 (by decide) (fun c5 => ?_) (fun c5 => ?_)
      · have h := h.1 c5
        have hc6 : ∀ (σ : kx_St) (x1 : Int32) (x2 : Int32) (x3 : Int32) (x4 : Int32) (H : Heap) (locs : List Loc) (ls : Array Slot), (fun σ x1 x2 x3 x4 => p7_merge_L57 n σ x1 x2 x3 x4 Q) σ x1 x2 x3 x4 → va_P D vwCl (kx_ws cy 1 ad σ) H → va_D A (kx_ws cy 1 ad σ) → va_S A s.heap H locs → lv_has ls 7 [(0, .ref (ad 0)), (1, .int x1), (2, .int x2), (3, .int x3), (4, .int x4)] → W p l e rm7_merge s m args below meth c H locs 0 0 (MQ below (kx_Qc kx_ci Q (kx_Wd D cy 1 ad A) A) args s 0 0 A) (F0 m 57 ls []) := fun σ x1 x2 x3 x4 H locs ls h hP hD hS hl => ih _ _ _ _ _ _ _ _ h hP hD hS hl
        exact w7_merge_J110 cx hc6 h hP hD hS (lv_sub hl [1, 2, 3, 4] rfl)
      · have h := h.2 c5
        refine lv_iload (pc := 75) hx hb dX7_merge_75 (lv_at hl 0 rfl) ?_
        refine lv_istore_n (pc := 77) (lv' := [(3, .int r4), (5, .int r4), (0, .ref (ad 0)), (1, .int x1), (2, .int x2), (4, .int x4)]) hx hb dX7_merge_77 rfl hl (by decide) rfl (fun ls hl => ?_)
        refine lv_iconst (pc := 78) (v := (0 : Int32)) hx hb dX7_merge_78 (by decide) ?_
        refine lv_istore (pc := 79) (lv' := [(6, .int (0 : Int32)), (3, .int r4), (5, .int r4), (0, .ref (ad 0)), (1, .int x1), (2, .int x2), (4, .int x4)]) hx hb dX7_merge_79 hl (by decide) rfl (fun ls hl => ?_)
        have hc7 : ∀ (σ : kx_St) (x1 : Int32) (x2 : Int32) (x3 : Int32) (H : Heap) (locs : List Loc) (ls : Array Slot), (fun σ x1 x2 x3 => p7_merge_J110 σ x1 x2 x3 (fun σ x1 x2 x3 x4 => p7_merge_L57 n σ x1 x2 x3 x4 Q) Q) σ x1 x2 x3 → va_P D vwCl (kx_ws cy 1 ad σ) H → va_D A (kx_ws cy 1 ad σ) → va_S A s.heap H locs → lv_has ls 7 [(0, .ref (ad 0)), (1, .int x1), (2, .int x2), (3, .int x3)] → W p l e rm7_merge s m args below meth c H locs 0 0 (MQ below (kx_Qc kx_ci Q (kx_Wd D cy 1 ad A) A) args s 0 0 A) (F0 m 110 ls []) := by
          intro σ x1 x2 x3 H locs ls h hP hD hS hl
          have hc8 : ∀ (σ : kx_St) (x1 : Int32) (x2 : Int32) (x3 : Int32) (x4 : Int32) (H : Heap) (locs : List Loc) (ls : Array Slot), (fun σ x1 x2 x3 x4 => p7_merge_L57 n σ x1 x2 x3 x4 Q) σ x1 x2 x3 x4 → va_P D vwCl (kx_ws cy 1 ad σ) H → va_D A (kx_ws cy 1 ad σ) → va_S A s.heap H locs → lv_has ls 7 [(0, .ref (ad 0)), (1, .int x1), (2, .int x2), (3, .int x3), (4, .int x4)] → W p l e rm7_merge s m args below meth c H locs 0 0 (MQ below (kx_Qc kx_ci Q (kx_Wd D cy 1 ad A) A) args s 0 0 A) (F0 m 57 ls []) := fun σ x1 x2 x3 x4 H locs ls h hP hD hS hl => ih _ _ _ _ _ _ _ _ h hP hD hS hl
          exact w7_merge_J110 cx hc8 h hP hD hS hl
        obtain ⟨n0, h⟩ := h
        exact w7_merge_L81 cx hc7 n0 _ _ _ _ _ _ _ _ h hP hD hS (lv_sub hl [3, 4, 5, 1, 0] rfl)
def p7_merge_L33 : Nat → kx_St → Int32 → Int32 → Int32 → (kx_St → Int32 → Prop) → Prop
  | 0, _, _, _, _, _ => False
  | n + 1, σ, x1, x2, x3, Q => ((6 : Int32) ≤ x3 → ∃ m57, p7_merge_L57 m57 σ x1 x2 (-1 : Int32) (1 : Int32) Q) ∧ (¬ (6 : Int32) ≤ x3 → vp_in x3 6 ∧ ((fun σ3 : kx_St => p7_merge_L33 n σ3 x1 x2 (x3 + (1 : Int32)) Q) (kx_sI σ 13 x3.toNatClampNeg (0 : Int32))))
set_option maxHeartbeats 4000000 in
theorem w7_merge_L33  {Q : kx_St → Int32 → Prop} (cx : kx_Cx p s m args meth c D cy RX7 cX7_merge 7 (some .int))  : ∀ (n : Nat) (σ : kx_St) (x1 : Int32) (x2 : Int32) (x3 : Int32) (H : Heap) (locs : List Loc) (ls : Array Slot), p7_merge_L33 n σ x1 x2 x3 Q → va_P D vwCl (kx_ws cy 1 ad σ) H → va_D A (kx_ws cy 1 ad σ) → va_S A s.heap H locs → lv_has ls 7 [(0, .ref (ad 0)), (1, .int x1), (2, .int x2), (3, .int x3)] → W p l e rm7_merge s m args below meth c H locs 0 0 (MQ below (kx_Qc kx_ci Q (kx_Wd D cy 1 ad A) A) args s 0 0 A) (F0 m 33 ls []) := by
  obtain ⟨hx, hb, hr, hlocks, hml, hown, hts, hK⟩ := id cx
  intro n
  induction n with
  | zero => intro _ _ _ _ _ _ _ h; exact False.elim h
  | succ n ih =>
    intro σ x1 x2 x3 H locs ls h hP hD hS hl
    refine lv_iload_n (pc := 33) hx hb dX7_merge_33 rfl (lv_at hl 3 rfl) ?_
    refine lv_bipush (pc := 34) (v := (6 : Int32)) hx hb dX7_merge_34 (by decide) ?_
    refine lv_icmp_ge (pc := 36) (tgt := 52) hx hb dX7_merge_36 (by decide) (fun c1 => ?_) (fun c1 => ?_)
    · have h := h.1 c1
      refine lv_iconst (pc := 52) (v := (-1 : Int32)) hx hb dX7_merge_52 (by decide) ?_
      refine lv_istore_n (pc := 53) (lv' := [(3, .int (-1 : Int32)), (0, .ref (ad 0)), (1, .int x1), (2, .int x2)]) hx hb dX7_merge_53 rfl hl (by decide) rfl (fun ls hl => ?_)
      refine lv_iconst (pc := 54) (v := (1 : Int32)) hx hb dX7_merge_54 (by decide) ?_
      refine lv_istore (pc := 55) (lv' := [(4, .int (1 : Int32)), (3, .int (-1 : Int32)), (0, .ref (ad 0)), (1, .int x1), (2, .int x2)]) hx hb dX7_merge_55 hl (by decide) rfl (fun ls hl => ?_)
      obtain ⟨n0, h⟩ := h
      exact w7_merge_L57 cx  n0 _ _ _ _ _ _ _ _ h hP hD hS (lv_sub hl [2, 3, 4, 1, 0] rfl)
    · have h := h.2 c1
      refine lv_aload_n (pc := 39) hx hb dX7_merge_39 rfl (lv_at hl 0 rfl) ?_
      refine fg7_50 (pc := 40) (b := 13) hx hb hown hts hK hP rfl rfl dX7_merge_40 ?_
      refine lv_iload_n (pc := 43) hx hb dX7_merge_43 rfl (lv_at hl 3 rfl) ?_
      refine lv_iconst (pc := 44) (v := (0 : Int32)) hx hb dX7_merge_44 (by decide) ?_
      obtain ⟨g2, h⟩ := h
      refine kx_iast (pc := 45) hx hb hK hP hD hS rfl g2 dX7_merge_45 (fun H locs hP hD hS => ?_)
      refine lv_iinc (pc := 46) (v := (x3 + (1 : Int32))) (lv' := [(3, .int (x3 + (1 : Int32))), (0, .ref (ad 0)), (1, .int x1), (2, .int x2)]) hx hb dX7_merge_46 hl (k := 3) rfl rfl (by decide) rfl (fun ls hl => ?_)
      refine lv_goto (pc := 49) (tgt := 33) hx hb dX7_merge_49 (by decide) ?_
      exact ih _ _ _ _ _ _ _ h hP hD hS (lv_sub hl [1, 2, 3, 0] rfl)
def p7_merge (σ : kx_St) (x1 : Int32) (x2 : Int32) (Q : kx_St → Int32 → Prop) : Prop := p7_in (x1.toInt64) (0 : Int64) (9 : Int64) (fun r1 => (r1 = 0 → Q σ (-1 : Int32)) ∧ (¬ r1 = 0 → p7_isRow x2 (fun r3 => (¬ r3 = 0 → (¬ (σ.1 0 3) = 0 → ∃ m33, p7_merge_L33 m33 σ x1 x2 (0 : Int32) Q) ∧ ((σ.1 0 3) = 0 → Q σ (-4 : Int32))) ∧ (r3 = 0 → Q σ (-1 : Int32)))))
set_option maxHeartbeats 4000000 in
theorem q7_merge {σ : kx_St} {x1 : Int32} {x2 : Int32} {Q : kx_St → Int32 → Prop} (h : p7_merge σ x1 x2 Q) : Met l yX7_merge (Cond.code yX7_merge cX7_merge 7 (some .int) :: kx_big) rm7_merge (va_Pc [.ref (ad 0), .int x1, .int x2] (kx_Wd D cy 1 ad A σ)) (kx_Qc kx_ci Q (kx_Wd D cy 1 ad A) A) 0 0 A := by
  refine kx_head (plainFor_of_name (by decide)) (Nat.le_of_ble_eq_true rfl) ?_
  intro p e s m below meth c ls cx hP hD hS hl
  obtain ⟨hx, hb, hr, hlocks, hml, hown, hts, hK⟩ := id cx
  have hl : lv_has ls 7 [(0, .ref (ad 0)), (1, .int x1), (2, .int x2)] := hl
  refine lv_iload_n (pc := 0) hx hb dX7_merge_0 rfl (lv_at hl 1 rfl) ?_
  refine lv_i2l (pc := 1) (v := (x1.toInt64)) hx hb dX7_merge_1 rfl ?_
  refine lv_lconst (pc := 2) (v := (0 : Int64)) hx hb dX7_merge_2 (by decide) ?_
  refine lv_ldc2 (pc := 3) (v := (9 : Int64)) hx hb hown (hts _ tb_966) dX7_merge_3 ?_
  refine kx_iSi (pc := 6) [.long (x1.toInt64), .long (0 : Int64), .long (9 : Int64)] hx hb hml hown hts hK hP hD hS (q7_in h) (cw7_77 hts ⟨Nat.le_of_ble_eq_true rfl, Nat.le_of_ble_eq_true rfl⟩) rfl hl.1 rfl (Nat.le_of_ble_eq_true rfl) ⟨Nat.le_of_ble_eq_true rfl, Nat.le_of_ble_eq_true rfl⟩ dX7_merge_6 (fun r1 u_ H locs hP hD hS h => ?_)
  obtain ⟨hu_, h⟩ := h
  rw [hu_] at hP hD
  refine lv_if_eq (pc := 9) (tgt := 19) hx hb dX7_merge_9 (by decide) (fun c2 => ?_) (fun c2 => ?_)
  · have h := h.1 c2
    refine lv_iconst (pc := 19) (v := (-1 : Int32)) hx hb dX7_merge_19 (by decide) ?_
    exact kx_iret (pc := 20) hx hb hr hlocks hK hP hD hS h dX7_merge_20
  · have h := h.2 c2
    refine lv_iload_n (pc := 12) hx hb dX7_merge_12 rfl (lv_at hl 2 rfl) ?_
    refine kx_iSi (pc := 13) [.int x2] hx hb hml hown hts hK hP hD hS (q7_isRow h) (cw7_83 hts ⟨Nat.le_of_ble_eq_true rfl, Nat.le_of_ble_eq_true rfl⟩) rfl hl.1 rfl (Nat.le_of_ble_eq_true rfl) ⟨Nat.le_of_ble_eq_true rfl, Nat.le_of_ble_eq_true rfl⟩ dX7_merge_13 (fun r3 u_ H locs hP hD hS h => ?_)
    obtain ⟨hu_, h⟩ := h
    rw [hu_] at hP hD
    refine lv_if_ne (pc := 16) (tgt := 21) hx hb dX7_merge_16 (by decide) (fun c4 => ?_) (fun c4 => ?_)
    · have h := h.1 c4
      refine lv_aload_n (pc := 21) hx hb dX7_merge_21 rfl (lv_at hl 0 rfl) ?_
      refine fg7_150 (pc := 22) hx hb hown hts hK hP rfl dX7_merge_22 ?_
      refine lv_if_ne (pc := 25) (tgt := 31) hx hb dX7_merge_25 (by decide) (fun c5 => ?_) (fun c5 => ?_)
      · have h := h.1 c5
        refine lv_iconst (pc := 31) (v := (0 : Int32)) hx hb dX7_merge_31 (by decide) ?_
        refine lv_istore_n (pc := 32) (lv' := [(3, .int (0 : Int32)), (0, .ref (ad 0)), (1, .int x1), (2, .int x2)]) hx hb dX7_merge_32 rfl hl (by decide) rfl (fun ls hl => ?_)
        obtain ⟨n0, h⟩ := h
        exact w7_merge_L33 cx  n0 _ _ _ _ _ _ _ h hP hD hS (lv_sub hl [1, 2, 3, 0] rfl)
      · have h := h.2 c5
        refine lv_bipush (pc := 28) (v := (-4 : Int32)) hx hb dX7_merge_28 (by decide) ?_
        exact kx_iret (pc := 30) hx hb hr hlocks hK hP hD hS h dX7_merge_30
    · have h := h.2 c4
      refine lv_iconst (pc := 19) (v := (-1 : Int32)) hx hb dX7_merge_19 (by decide) ?_
      exact kx_iret (pc := 20) hx hb hr hlocks hK hP hD hS h dX7_merge_20
end
