section
variable {p : Program} {l : Launch} {e : Env} {s : State} {m : MethodId} {args : Array Value} {below : List Frame} {meth : Method} {c : Code} {D : va_G} {cy : Nat → ClassId} {ad : Nat → Nat} {A : Nat → Prop}

def p7_mid (σ : kx_St) (x1 : Int32) (Q : kx_St → Int32 → Prop) : Prop := p7_in (x1.toInt64) (0 : Int64) (12 : Int64) (fun r1 => (¬ r1 = 0 → (¬ (σ.1 0 3) = 0 → p7_tellCalm σ x1 (1 : Int32) (fun σ5 r4 => Q σ5 r4)) ∧ ((σ.1 0 3) = 0 → Q σ (-4 : Int32))) ∧ (r1 = 0 → Q σ (-1 : Int32)))
set_option maxHeartbeats 4000000 in
theorem q7_mid {σ : kx_St} {x1 : Int32} {Q : kx_St → Int32 → Prop} (h : p7_mid σ x1 Q) : Met l yX7_mid (Cond.code yX7_mid cX7_mid 2 (some .int) :: kx_big) rm7_mid (va_Pc [.ref (ad 0), .int x1] (kx_Wd D cy 1 ad A σ)) (kx_Qc kx_ci Q (kx_Wd D cy 1 ad A) A) 0 0 A := by
  refine kx_head (plainFor_of_name (by decide)) (Nat.le_of_ble_eq_true rfl) ?_
  intro p e s m below meth c ls cx hP hD hS hl
  obtain ⟨hx, hb, hr, hlocks, hml, hown, hts, hK⟩ := id cx
  have hl : lv_has ls 2 [(0, .ref (ad 0)), (1, .int x1)] := hl
  refine lv_iload_n (pc := 0) hx hb dX7_mid_0 rfl (lv_at hl 1 rfl) ?_
  refine lv_i2l (pc := 1) (v := (x1.toInt64)) hx hb dX7_mid_1 rfl ?_
  refine lv_lconst (pc := 2) (v := (0 : Int64)) hx hb dX7_mid_2 (by decide) ?_
  refine lv_ldc2 (pc := 3) (v := (12 : Int64)) hx hb hown (hts _ tb_1126) dX7_mid_3 ?_
  refine kx_iSi (pc := 6) [.long (x1.toInt64), .long (0 : Int64), .long (12 : Int64)] hx hb hml hown hts hK hP hD hS (q7_in h) (cw7_77 hts ⟨Nat.le_of_ble_eq_true rfl, Nat.le_of_ble_eq_true rfl⟩) rfl hl.1 rfl (Nat.le_of_ble_eq_true rfl) ⟨Nat.le_of_ble_eq_true rfl, Nat.le_of_ble_eq_true rfl⟩ dX7_mid_6 (fun r1 u_ H locs hP hD hS h => ?_)
  obtain ⟨hu_, h⟩ := h
  rw [hu_] at hP hD
  refine lv_if_ne (pc := 9) (tgt := 14) hx hb dX7_mid_9 (by decide) (fun c2 => ?_) (fun c2 => ?_)
  · have h := h.1 c2
    refine lv_aload_n (pc := 14) hx hb dX7_mid_14 rfl (lv_at hl 0 rfl) ?_
    refine fg7_150 (pc := 15) hx hb hown hts hK hP rfl dX7_mid_15 ?_
    refine lv_if_ne (pc := 18) (tgt := 26) hx hb dX7_mid_18 (by decide) (fun c3 => ?_) (fun c3 => ?_)
    · have h := h.1 c3
      refine lv_aload_n (pc := 26) hx hb dX7_mid_26 rfl (lv_at hl 0 rfl) ?_
      refine lv_iload_n (pc := 27) hx hb dX7_mid_27 rfl (lv_at hl 1 rfl) ?_
      refine lv_iconst (pc := 28) (v := (1 : Int32)) hx hb dX7_mid_28 (by decide) ?_
      refine kx_iVi (pc := 29) [.int x1, .int (1 : Int32)] hx hb hml hown hts hK hP hD hS (q7_tellCalm h) (cw7_270 hts ⟨Nat.le_of_ble_eq_true rfl, Nat.le_of_ble_eq_true rfl⟩) rfl (by decide) rfl rfl hl.1 rfl (Nat.le_of_ble_eq_true rfl) ⟨Nat.le_of_ble_eq_true rfl, Nat.le_of_ble_eq_true rfl⟩ dX7_mid_29 (fun r4 σ5 H locs hP hD hS h => ?_)
      exact kx_iret (pc := 32) hx hb hr hlocks hK hP hD hS h dX7_mid_32
    · have h := h.2 c3
      refine lv_bipush (pc := 21) (v := (-4 : Int32)) hx hb dX7_mid_21 (by decide) ?_
      refine lv_goto (pc := 23) (tgt := 32) hx hb dX7_mid_23 (by decide) ?_
      exact kx_iret (pc := 32) hx hb hr hlocks hK hP hD hS h dX7_mid_32
  · have h := h.2 c2
    refine lv_iconst (pc := 12) (v := (-1 : Int32)) hx hb dX7_mid_12 (by decide) ?_
    exact kx_iret (pc := 13) hx hb hr hlocks hK hP hD hS h dX7_mid_13
def p7_lots_J156 (σ : kx_St) (x1 : Int32) (x3 : Int64) (x5 : Int32) (k58 : kx_St → Int32 → Int64 → Int32 → Prop) (Q : kx_St → Int32 → Prop) : Prop := (fun σ1 : kx_St => k58 σ1 x1 x3 (x5 + (1 : Int32))) (kx_sI σ 1 (1 : Int32).toNatClampNeg ((σ.1 1 (1 : Int32).toNatClampNeg) + (1 : Int32)))
set_option maxHeartbeats 4000000 in
theorem w7_lots_J156 {σ : kx_St} {x1 : Int32} {x3 : Int64} {x5 : Int32} {k58 : kx_St → Int32 → Int64 → Int32 → Prop} {Q : kx_St → Int32 → Prop} {H : Heap} {locs : List Loc} {ls : Array Slot} (cx : kx_Cx p s m args meth c D cy RX7 cX7_lots 7 (some .int)) (hk58 : ∀ (σ : kx_St) (x1 : Int32) (x3 : Int64) (x5 : Int32) (H : Heap) (locs : List Loc) (ls : Array Slot), k58 σ x1 x3 x5 → va_P D vwCl (kx_ws cy 1 ad σ) H → va_D A (kx_ws cy 1 ad σ) → va_S A s.heap H locs → lv_has ls 7 [(0, .ref (ad 0)), (1, .int x1), (3, .long x3), (5, .int x5)] → W p l e rm7_lots s m args below meth c H locs 0 0 (MQ below (kx_Qc kx_ci Q (kx_Wd D cy 1 ad A) A) args s 0 0 A) (F0 m 58 ls []))  (h : p7_lots_J156 σ x1 x3 x5 k58 Q) (hP : va_P D vwCl (kx_ws cy 1 ad σ) H) (hD : va_D A (kx_ws cy 1 ad σ)) (hS : va_S A s.heap H locs) (hl : lv_has ls 7 [(0, .ref (ad 0)), (1, .int x1), (3, .long x3), (5, .int x5)]) : W p l e rm7_lots s m args below meth c H locs 0 0 (MQ below (kx_Qc kx_ci Q (kx_Wd D cy 1 ad A) A) args s 0 0 A) (F0 m 156 ls []) := by
  obtain ⟨hx, hb, hr, hlocks, hml, hown, hts, hK⟩ := id cx
  refine lv_aload_n (pc := 156) hx hb dX7_lots_156 rfl (lv_at hl 0 rfl) ?_
  refine fg7_7 (pc := 157) (b := 1) hx hb hown hts hK hP rfl rfl dX7_lots_157 ?_
  refine lv_iconst (pc := 160) (v := (1 : Int32)) hx hb dX7_lots_160 (by decide) ?_
  refine lv_dup2_11 (pc := 161) hx hb dX7_lots_161 rfl rfl ?_
  refine kx_iald (pc := 162) hx hb hK hP rfl (by unfold vp_in; decide) dX7_lots_162 ?_
  refine lv_iconst (pc := 163) (v := (1 : Int32)) hx hb dX7_lots_163 (by decide) ?_
  refine lv_iadd (pc := 164) hx hb dX7_lots_164 ?_
  refine kx_iast (pc := 165) hx hb hK hP hD hS rfl (by unfold vp_in; decide) dX7_lots_165 (fun H locs hP hD hS => ?_)
  refine lv_iinc (pc := 166) (v := (x5 + (1 : Int32))) (lv' := [(5, .int (x5 + (1 : Int32))), (0, .ref (ad 0)), (1, .int x1), (3, .long x3)]) hx hb dX7_lots_166 hl (k := 3) rfl rfl (by decide) rfl (fun ls hl => ?_)
  refine lv_goto (pc := 169) (tgt := 58) hx hb dX7_lots_169 (by decide) ?_
  exact hk58 _ _ _ _ _ _ _ h hP hD hS (lv_sub hl [1, 2, 3, 0] rfl)
def p7_lots_L58 : Nat → kx_St → Int32 → Int64 → Int32 → (kx_St → Int32 → Prop) → Prop
  | 0, _, _, _, _, _ => False
  | n + 1, σ, x1, x3, x5, Q => (x1 ≤ x5 → p7_paidIn σ (0 : Int32) (fun r2 => Q σ r2)) ∧ (¬ x1 ≤ x5 → ¬ ((σ.1 0 3).toInt64) = 0 ∧ (p7_keepPast σ (fun σ5 => p7_has (σ5.1 1 (2 : Int32).toNatClampNeg) (((((x3 * (48271 : Int64)) - (x3 * (48271 : Int64)) / (2147483647 : Int64) * (2147483647 : Int64)) / (8 : Int64)) - (((x3 * (48271 : Int64)) - (x3 * (48271 : Int64)) / (2147483647 : Int64) * (2147483647 : Int64)) / (8 : Int64)) / ((σ.1 0 3).toInt64) * ((σ.1 0 3).toInt64)).toInt32) (fun r6 => (¬ r6 = 0 → vp_in ((4 : Int32) + (((((x3 * (48271 : Int64)) - (x3 * (48271 : Int64)) / (2147483647 : Int64) * (2147483647 : Int64)) / (8 : Int64)) - (((x3 * (48271 : Int64)) - (x3 * (48271 : Int64)) / (2147483647 : Int64) * (2147483647 : Int64)) / (8 : Int64)) / ((σ.1 0 3).toInt64) * ((σ.1 0 3).toInt64)).toInt32)) 2480 ∧ (((3 : Int32) ≤ (σ5.1 1 ((4 : Int32) + (((((x3 * (48271 : Int64)) - (x3 * (48271 : Int64)) / (2147483647 : Int64) * (2147483647 : Int64)) / (8 : Int64)) - (((x3 * (48271 : Int64)) - (x3 * (48271 : Int64)) / (2147483647 : Int64) * (2147483647 : Int64)) / (8 : Int64)) / ((σ.1 0 3).toInt64) * ((σ.1 0 3).toInt64)).toInt32)).toNatClampNeg) → p7_lots_J156 σ5 x1 ((x3 * (48271 : Int64)) - (x3 * (48271 : Int64)) / (2147483647 : Int64) * (2147483647 : Int64)) x5 (fun σ x1 x3 x5 => p7_lots_L58 n σ x1 x3 x5 Q) Q) ∧ (¬ (3 : Int32) ≤ (σ5.1 1 ((4 : Int32) + (((((x3 * (48271 : Int64)) - (x3 * (48271 : Int64)) / (2147483647 : Int64) * (2147483647 : Int64)) / (8 : Int64)) - (((x3 * (48271 : Int64)) - (x3 * (48271 : Int64)) / (2147483647 : Int64) * (2147483647 : Int64)) / (8 : Int64)) / ((σ.1 0 3).toInt64) * ((σ.1 0 3).toInt64)).toInt32)).toNatClampNeg) → (¬ (lg_cmp (((x3 * (48271 : Int64)) - (x3 * (48271 : Int64)) / (2147483647 : Int64) * (2147483647 : Int64)) - ((x3 * (48271 : Int64)) - (x3 * (48271 : Int64)) / (2147483647 : Int64) * (2147483647 : Int64)) / (2 : Int64) * (2 : Int64)) (0 : Int64)) = 0 → p7_lots_J156 σ5 x1 ((x3 * (48271 : Int64)) - (x3 * (48271 : Int64)) / (2147483647 : Int64) * (2147483647 : Int64)) x5 (fun σ x1 x3 x5 => p7_lots_L58 n σ x1 x3 x5 Q) Q) ∧ ((lg_cmp (((x3 * (48271 : Int64)) - (x3 * (48271 : Int64)) / (2147483647 : Int64) * (2147483647 : Int64)) - ((x3 * (48271 : Int64)) - (x3 * (48271 : Int64)) / (2147483647 : Int64) * (2147483647 : Int64)) / (2 : Int64) * (2 : Int64)) (0 : Int64)) = 0 → vp_in ((4 : Int32) + (((((x3 * (48271 : Int64)) - (x3 * (48271 : Int64)) / (2147483647 : Int64) * (2147483647 : Int64)) / (8 : Int64)) - (((x3 * (48271 : Int64)) - (x3 * (48271 : Int64)) / (2147483647 : Int64) * (2147483647 : Int64)) / (8 : Int64)) / ((σ.1 0 3).toInt64) * ((σ.1 0 3).toInt64)).toInt32)) 2480 ∧ (vp_in ((4 : Int32) + (((((x3 * (48271 : Int64)) - (x3 * (48271 : Int64)) / (2147483647 : Int64) * (2147483647 : Int64)) / (8 : Int64)) - (((x3 * (48271 : Int64)) - (x3 * (48271 : Int64)) / (2147483647 : Int64) * (2147483647 : Int64)) / (8 : Int64)) / ((σ.1 0 3).toInt64) * ((σ.1 0 3).toInt64)).toInt32)) 2480 ∧ ((fun σ15 : kx_St => p7_lots_L58 n σ15 x1 ((x3 * (48271 : Int64)) - (x3 * (48271 : Int64)) / (2147483647 : Int64) * (2147483647 : Int64)) (x5 + (1 : Int32)) Q) (kx_sI σ5 1 ((4 : Int32) + (((((x3 * (48271 : Int64)) - (x3 * (48271 : Int64)) / (2147483647 : Int64) * (2147483647 : Int64)) / (8 : Int64)) - (((x3 * (48271 : Int64)) - (x3 * (48271 : Int64)) / (2147483647 : Int64) * (2147483647 : Int64)) / (8 : Int64)) / ((σ.1 0 3).toInt64) * ((σ.1 0 3).toInt64)).toInt32)).toNatClampNeg ((σ5.1 1 ((4 : Int32) + (((((x3 * (48271 : Int64)) - (x3 * (48271 : Int64)) / (2147483647 : Int64) * (2147483647 : Int64)) / (8 : Int64)) - (((x3 * (48271 : Int64)) - (x3 * (48271 : Int64)) / (2147483647 : Int64) * (2147483647 : Int64)) / (8 : Int64)) / ((σ.1 0 3).toInt64) * ((σ.1 0 3).toInt64)).toInt32)).toNatClampNeg) + (1 : Int32))))))))) ∧ (r6 = 0 → p7_flies σ5 (0 : Int32) (((((x3 * (48271 : Int64)) - (x3 * (48271 : Int64)) / (2147483647 : Int64) * (2147483647 : Int64)) / (8 : Int64)) - (((x3 * (48271 : Int64)) - (x3 * (48271 : Int64)) / (2147483647 : Int64) * (2147483647 : Int64)) / (8 : Int64)) / ((σ.1 0 3).toInt64) * ((σ.1 0 3).toInt64)).toInt32) (fun σ17 r16 => p7_lots_L58 n σ17 x1 ((x3 * (48271 : Int64)) - (x3 * (48271 : Int64)) / (2147483647 : Int64) * (2147483647 : Int64)) (x5 + (1 : Int32)) Q))))))
set_option maxHeartbeats 4000000 in
theorem w7_lots_L58  {Q : kx_St → Int32 → Prop} (cx : kx_Cx p s m args meth c D cy RX7 cX7_lots 7 (some .int))  : ∀ (n : Nat) (σ : kx_St) (x1 : Int32) (x3 : Int64) (x5 : Int32) (H : Heap) (locs : List Loc) (ls : Array Slot), p7_lots_L58 n σ x1 x3 x5 Q → va_P D vwCl (kx_ws cy 1 ad σ) H → va_D A (kx_ws cy 1 ad σ) → va_S A s.heap H locs → lv_has ls 7 [(0, .ref (ad 0)), (1, .int x1), (3, .long x3), (5, .int x5)] → W p l e rm7_lots s m args below meth c H locs 0 0 (MQ below (kx_Qc kx_ci Q (kx_Wd D cy 1 ad A) A) args s 0 0 A) (F0 m 58 ls []) := by
  obtain ⟨hx, hb, hr, hlocks, hml, hown, hts, hK⟩ := id cx
  intro n
  induction n with
  | zero => intro _ _ _ _ _ _ _ h; exact False.elim h
  | succ n ih =>
    intro σ x1 x3 x5 H locs ls h hP hD hS hl
    refine lv_iload (pc := 58) hx hb dX7_lots_58 (lv_at hl 3 rfl) ?_
    refine lv_iload_n (pc := 60) hx hb dX7_lots_60 rfl (lv_at hl 1 rfl) ?_
    refine lv_icmp_ge (pc := 61) (tgt := 172) hx hb dX7_lots_61 (by decide) (fun c1 => ?_) (fun c1 => ?_)
    · have h := h.1 c1
      refine lv_aload_n (pc := 172) hx hb dX7_lots_172 rfl (lv_at hl 0 rfl) ?_
      refine lv_iconst (pc := 173) (v := (0 : Int32)) hx hb dX7_lots_173 (by decide) ?_
      refine kx_iVi (pc := 174) [.int (0 : Int32)] hx hb hml hown hts hK hP hD hS (q7_paidIn h) (cw7_224 hts ⟨Nat.le_of_ble_eq_true rfl, Nat.le_of_ble_eq_true rfl⟩) rfl (by decide) rfl rfl hl.1 rfl (Nat.le_of_ble_eq_true rfl) ⟨Nat.le_of_ble_eq_true rfl, Nat.le_of_ble_eq_true rfl⟩ dX7_lots_174 (fun r2 u_ H locs hP hD hS h => ?_)
      obtain ⟨hu_, h⟩ := h
      rw [hu_] at hP hD
      exact kx_iret (pc := 177) hx hb hr hlocks hK hP hD hS h dX7_lots_177
    · have h := h.2 c1
      refine lv_lload_n (pc := 64) hx hb dX7_lots_64 rfl (lv_at hl 2 rfl) ?_
      refine lv_ldc2 (pc := 65) (v := (48271 : Int64)) hx hb hown (hts _ tb_1145) dX7_lots_65 ?_
      refine lv_lmul (pc := 68) hx hb dX7_lots_68 ?_
      refine lv_ldc2 (pc := 69) (v := (2147483647 : Int64)) hx hb hown (hts _ tb_1146) dX7_lots_69 ?_
      refine lv_lrem (pc := 72) hx hb dX7_lots_72 (by decide) ?_
      refine lv_lstore_n (pc := 73) (lv' := [(3, .long ((x3 * (48271 : Int64)) - (x3 * (48271 : Int64)) / (2147483647 : Int64) * (2147483647 : Int64))), (0, .ref (ad 0)), (1, .int x1), (5, .int x5)]) hx hb dX7_lots_73 rfl hl (by decide) rfl (fun ls hl => ?_)
      refine lv_lload_n (pc := 74) hx hb dX7_lots_74 rfl (lv_at hl 0 rfl) ?_
      refine lv_ldc2 (pc := 75) (v := (8 : Int64)) hx hb hown (hts _ tb_1147) dX7_lots_75 ?_
      refine lv_ldiv (pc := 78) hx hb dX7_lots_78 (by decide) ?_
      refine lv_aload_n (pc := 79) hx hb dX7_lots_79 rfl (lv_at hl 1 rfl) ?_
      refine fg7_150 (pc := 80) hx hb hown hts hK hP rfl dX7_lots_80 ?_
      refine lv_i2l (pc := 83) (v := ((σ.1 0 3).toInt64)) hx hb dX7_lots_83 rfl ?_
      obtain ⟨g3, h⟩ := h
      refine lv_lrem (pc := 84) hx hb dX7_lots_84 g3 ?_
      refine lv_l2i (pc := 85) (v := (((((x3 * (48271 : Int64)) - (x3 * (48271 : Int64)) / (2147483647 : Int64) * (2147483647 : Int64)) / (8 : Int64)) - (((x3 * (48271 : Int64)) - (x3 * (48271 : Int64)) / (2147483647 : Int64) * (2147483647 : Int64)) / (8 : Int64)) / ((σ.1 0 3).toInt64) * ((σ.1 0 3).toInt64)).toInt32)) hx hb dX7_lots_85 rfl ?_
      refine lv_istore (pc := 86) (lv' := [(6, .int (((((x3 * (48271 : Int64)) - (x3 * (48271 : Int64)) / (2147483647 : Int64) * (2147483647 : Int64)) / (8 : Int64)) - (((x3 * (48271 : Int64)) - (x3 * (48271 : Int64)) / (2147483647 : Int64) * (2147483647 : Int64)) / (8 : Int64)) / ((σ.1 0 3).toInt64) * ((σ.1 0 3).toInt64)).toInt32)), (3, .long ((x3 * (48271 : Int64)) - (x3 * (48271 : Int64)) / (2147483647 : Int64) * (2147483647 : Int64))), (0, .ref (ad 0)), (1, .int x1), (5, .int x5)]) hx hb dX7_lots_86 hl (by decide) rfl (fun ls hl => ?_)
      refine lv_aload_n (pc := 88) hx hb dX7_lots_88 rfl (lv_at hl 2 rfl) ?_
      refine kx_iVv (pc := 89) [] hx hb hml hown hts hK hP hD hS (q7_keepPast h) (cw7_196 hts ⟨Nat.le_of_ble_eq_true rfl, Nat.le_of_ble_eq_true rfl⟩) rfl (by decide) rfl rfl hl.1 rfl (Nat.le_of_ble_eq_true rfl) ⟨Nat.le_of_ble_eq_true rfl, Nat.le_of_ble_eq_true rfl⟩ dX7_lots_89 (fun _ σ5 H locs hP hD hS h => ?_)
      refine lv_aload_n (pc := 92) hx hb dX7_lots_92 rfl (lv_at hl 2 rfl) ?_
      refine fg7_7 (pc := 93) (b := 1) hx hb hown hts hK hP rfl rfl dX7_lots_93 ?_
      refine lv_iconst (pc := 96) (v := (2 : Int32)) hx hb dX7_lots_96 (by decide) ?_
      refine kx_iald (pc := 97) hx hb hK hP rfl (by unfold vp_in; decide) dX7_lots_97 ?_
      refine lv_iload (pc := 98) hx hb dX7_lots_98 (lv_at hl 0 rfl) ?_
      refine kx_iSi (pc := 100) [.int _, .int (((((x3 * (48271 : Int64)) - (x3 * (48271 : Int64)) / (2147483647 : Int64) * (2147483647 : Int64)) / (8 : Int64)) - (((x3 * (48271 : Int64)) - (x3 * (48271 : Int64)) / (2147483647 : Int64) * (2147483647 : Int64)) / (8 : Int64)) / ((σ.1 0 3).toInt64) * ((σ.1 0 3).toInt64)).toInt32)] hx hb hml hown hts hK hP hD hS (q7_has h) (cw7_170 hts ⟨Nat.le_of_ble_eq_true rfl, Nat.le_of_ble_eq_true rfl⟩) rfl hl.1 rfl (Nat.le_of_ble_eq_true rfl) ⟨Nat.le_of_ble_eq_true rfl, Nat.le_of_ble_eq_true rfl⟩ dX7_lots_100 (fun r6 u_ H locs hP hD hS h => ?_)
      obtain ⟨hu_, h⟩ := h
      rw [hu_] at hP hD
      refine lv_if_ne (pc := 103) (tgt := 117) hx hb dX7_lots_103 (by decide) (fun c7 => ?_) (fun c7 => ?_)
      · have h := h.1 c7
        refine lv_aload_n (pc := 117) hx hb dX7_lots_117 rfl (lv_at hl 2 rfl) ?_
        refine fg7_7 (pc := 118) (b := 1) hx hb hown hts hK hP rfl rfl dX7_lots_118 ?_
        refine lv_iconst (pc := 121) (v := (4 : Int32)) hx hb dX7_lots_121 (by decide) ?_
        refine lv_iload (pc := 122) hx hb dX7_lots_122 (lv_at hl 0 rfl) ?_
        refine lv_iadd (pc := 124) hx hb dX7_lots_124 ?_
        obtain ⟨g8, h⟩ := h
        refine kx_iald (pc := 125) hx hb hK hP rfl g8 dX7_lots_125 ?_
        refine lv_iconst (pc := 126) (v := (3 : Int32)) hx hb dX7_lots_126 (by decide) ?_
        refine lv_icmp_ge (pc := 127) (tgt := 156) hx hb dX7_lots_127 (by decide) (fun c9 => ?_) (fun c9 => ?_)
        · have h := h.1 c9
          have hc10 : ∀ (σ : kx_St) (x1 : Int32) (x3 : Int64) (x5 : Int32) (H : Heap) (locs : List Loc) (ls : Array Slot), (fun σ x1 x3 x5 => p7_lots_L58 n σ x1 x3 x5 Q) σ x1 x3 x5 → va_P D vwCl (kx_ws cy 1 ad σ) H → va_D A (kx_ws cy 1 ad σ) → va_S A s.heap H locs → lv_has ls 7 [(0, .ref (ad 0)), (1, .int x1), (3, .long x3), (5, .int x5)] → W p l e rm7_lots s m args below meth c H locs 0 0 (MQ below (kx_Qc kx_ci Q (kx_Wd D cy 1 ad A) A) args s 0 0 A) (F0 m 58 ls []) := fun σ x1 x3 x5 H locs ls h hP hD hS hl => ih _ _ _ _ _ _ _ h hP hD hS hl
          exact w7_lots_J156 cx hc10 h hP hD hS (lv_sub hl [2, 3, 1, 4] rfl)
        · have h := h.2 c9
          refine lv_lload_n (pc := 130) hx hb dX7_lots_130 rfl (lv_at hl 1 rfl) ?_
          refine lv_ldc2 (pc := 131) (v := (2 : Int64)) hx hb hown (hts _ tb_1007) dX7_lots_131 ?_
          refine lv_lrem (pc := 134) hx hb dX7_lots_134 (by decide) ?_
          refine lv_lconst (pc := 135) (v := (0 : Int64)) hx hb dX7_lots_135 (by decide) ?_
          refine W.lcmp (pc := 136) hx hb dX7_lots_136 ?_
          refine lv_if_ne (pc := 137) (tgt := 156) hx hb dX7_lots_137 (by decide) (fun c11 => ?_) (fun c11 => ?_)
          · have h := h.1 c11
            have hc12 : ∀ (σ : kx_St) (x1 : Int32) (x3 : Int64) (x5 : Int32) (H : Heap) (locs : List Loc) (ls : Array Slot), (fun σ x1 x3 x5 => p7_lots_L58 n σ x1 x3 x5 Q) σ x1 x3 x5 → va_P D vwCl (kx_ws cy 1 ad σ) H → va_D A (kx_ws cy 1 ad σ) → va_S A s.heap H locs → lv_has ls 7 [(0, .ref (ad 0)), (1, .int x1), (3, .long x3), (5, .int x5)] → W p l e rm7_lots s m args below meth c H locs 0 0 (MQ below (kx_Qc kx_ci Q (kx_Wd D cy 1 ad A) A) args s 0 0 A) (F0 m 58 ls []) := fun σ x1 x3 x5 H locs ls h hP hD hS hl => ih _ _ _ _ _ _ _ h hP hD hS hl
            exact w7_lots_J156 cx hc12 h hP hD hS (lv_sub hl [2, 3, 1, 4] rfl)
          · have h := h.2 c11
            refine lv_aload_n (pc := 140) hx hb dX7_lots_140 rfl (lv_at hl 2 rfl) ?_
            refine fg7_7 (pc := 141) (b := 1) hx hb hown hts hK hP rfl rfl dX7_lots_141 ?_
            refine lv_iconst (pc := 144) (v := (4 : Int32)) hx hb dX7_lots_144 (by decide) ?_
            refine lv_iload (pc := 145) hx hb dX7_lots_145 (lv_at hl 0 rfl) ?_
            refine lv_iadd (pc := 147) hx hb dX7_lots_147 ?_
            refine lv_dup2_11 (pc := 148) hx hb dX7_lots_148 rfl rfl ?_
            obtain ⟨g13, h⟩ := h
            refine kx_iald (pc := 149) hx hb hK hP rfl g13 dX7_lots_149 ?_
            refine lv_iconst (pc := 150) (v := (1 : Int32)) hx hb dX7_lots_150 (by decide) ?_
            refine lv_iadd (pc := 151) hx hb dX7_lots_151 ?_
            obtain ⟨g14, h⟩ := h
            refine kx_iast (pc := 152) hx hb hK hP hD hS rfl g14 dX7_lots_152 (fun H locs hP hD hS => ?_)
            refine lv_goto (pc := 153) (tgt := 166) hx hb dX7_lots_153 (by decide) ?_
            refine lv_iinc (pc := 166) (v := (x5 + (1 : Int32))) (lv' := [(5, .int (x5 + (1 : Int32))), (6, .int (((((x3 * (48271 : Int64)) - (x3 * (48271 : Int64)) / (2147483647 : Int64) * (2147483647 : Int64)) / (8 : Int64)) - (((x3 * (48271 : Int64)) - (x3 * (48271 : Int64)) / (2147483647 : Int64) * (2147483647 : Int64)) / (8 : Int64)) / ((σ.1 0 3).toInt64) * ((σ.1 0 3).toInt64)).toInt32)), (3, .long ((x3 * (48271 : Int64)) - (x3 * (48271 : Int64)) / (2147483647 : Int64) * (2147483647 : Int64))), (0, .ref (ad 0)), (1, .int x1)]) hx hb dX7_lots_166 hl (k := 4) rfl rfl (by decide) rfl (fun ls hl => ?_)
            refine lv_goto (pc := 169) (tgt := 58) hx hb dX7_lots_169 (by decide) ?_
            exact ih _ _ _ _ _ _ _ h hP hD hS (lv_sub hl [3, 4, 2, 0] rfl)
      · have h := h.2 c7
        refine lv_aload_n (pc := 106) hx hb dX7_lots_106 rfl (lv_at hl 2 rfl) ?_
        refine lv_iconst (pc := 107) (v := (0 : Int32)) hx hb dX7_lots_107 (by decide) ?_
        refine lv_iload (pc := 108) hx hb dX7_lots_108 (lv_at hl 0 rfl) ?_
        refine kx_iVi (pc := 110) [.int (0 : Int32), .int (((((x3 * (48271 : Int64)) - (x3 * (48271 : Int64)) / (2147483647 : Int64) * (2147483647 : Int64)) / (8 : Int64)) - (((x3 * (48271 : Int64)) - (x3 * (48271 : Int64)) / (2147483647 : Int64) * (2147483647 : Int64)) / (8 : Int64)) / ((σ.1 0 3).toInt64) * ((σ.1 0 3).toInt64)).toInt32)] hx hb hml hown hts hK hP hD hS (q7_flies h) (cw7_199 hts ⟨Nat.le_of_ble_eq_true rfl, Nat.le_of_ble_eq_true rfl⟩) rfl (by decide) rfl rfl hl.1 rfl (Nat.le_of_ble_eq_true rfl) ⟨Nat.le_of_ble_eq_true rfl, Nat.le_of_ble_eq_true rfl⟩ dX7_lots_110 (fun r16 σ17 H locs hP hD hS h => ?_)
        refine lv_pop (pc := 113) hx hb dX7_lots_113 rfl ?_
        refine lv_goto (pc := 114) (tgt := 166) hx hb dX7_lots_114 (by decide) ?_
        refine lv_iinc (pc := 166) (v := (x5 + (1 : Int32))) (lv' := [(5, .int (x5 + (1 : Int32))), (6, .int (((((x3 * (48271 : Int64)) - (x3 * (48271 : Int64)) / (2147483647 : Int64) * (2147483647 : Int64)) / (8 : Int64)) - (((x3 * (48271 : Int64)) - (x3 * (48271 : Int64)) / (2147483647 : Int64) * (2147483647 : Int64)) / (8 : Int64)) / ((σ.1 0 3).toInt64) * ((σ.1 0 3).toInt64)).toInt32)), (3, .long ((x3 * (48271 : Int64)) - (x3 * (48271 : Int64)) / (2147483647 : Int64) * (2147483647 : Int64))), (0, .ref (ad 0)), (1, .int x1)]) hx hb dX7_lots_166 hl (k := 4) rfl rfl (by decide) rfl (fun ls hl => ?_)
        refine lv_goto (pc := 169) (tgt := 58) hx hb dX7_lots_169 (by decide) ?_
        exact ih _ _ _ _ _ _ _ h hP hD hS (lv_sub hl [3, 4, 2, 0] rfl)
def p7_lots (σ : kx_St) (x1 : Int32) (x2 : Int32) (Q : kx_St → Int32 → Prop) : Prop := p7_in (x1.toInt64) (1 : Int64) (20 : Int64) (fun r1 => (r1 = 0 → Q σ (-1 : Int32)) ∧ (¬ r1 = 0 → p7_in (x2.toInt64) (1 : Int64) (2147483646 : Int64) (fun r3 => (¬ r3 = 0 → (¬ (σ.1 0 3) = 0 → (((σ.1 1 (0 : Int32).toNatClampNeg) + x1) ≤ (40 : Int32) → ∃ m58, p7_lots_L58 m58 σ x1 (x2.toInt64) (0 : Int32) Q) ∧ (¬ ((σ.1 1 (0 : Int32).toNatClampNeg) + x1) ≤ (40 : Int32) → Q σ (-2 : Int32))) ∧ ((σ.1 0 3) = 0 → Q σ (-4 : Int32))) ∧ (r3 = 0 → Q σ (-1 : Int32)))))
set_option maxHeartbeats 4000000 in
theorem q7_lots {σ : kx_St} {x1 : Int32} {x2 : Int32} {Q : kx_St → Int32 → Prop} (h : p7_lots σ x1 x2 Q) : Met l yX7_lots (Cond.code yX7_lots cX7_lots 7 (some .int) :: kx_big) rm7_lots (va_Pc [.ref (ad 0), .int x1, .int x2] (kx_Wd D cy 1 ad A σ)) (kx_Qc kx_ci Q (kx_Wd D cy 1 ad A) A) 0 0 A := by
  refine kx_head (plainFor_of_name (by decide)) (Nat.le_of_ble_eq_true rfl) ?_
  intro p e s m below meth c ls cx hP hD hS hl
  obtain ⟨hx, hb, hr, hlocks, hml, hown, hts, hK⟩ := id cx
  have hl : lv_has ls 7 [(0, .ref (ad 0)), (1, .int x1), (2, .int x2)] := hl
  refine lv_iload_n (pc := 0) hx hb dX7_lots_0 rfl (lv_at hl 1 rfl) ?_
  refine lv_i2l (pc := 1) (v := (x1.toInt64)) hx hb dX7_lots_1 rfl ?_
  refine lv_lconst (pc := 2) (v := (1 : Int64)) hx hb dX7_lots_2 (by decide) ?_
  refine lv_ldc2 (pc := 3) (v := (20 : Int64)) hx hb hown (hts _ tb_1143) dX7_lots_3 ?_
  refine kx_iSi (pc := 6) [.long (x1.toInt64), .long (1 : Int64), .long (20 : Int64)] hx hb hml hown hts hK hP hD hS (q7_in h) (cw7_77 hts ⟨Nat.le_of_ble_eq_true rfl, Nat.le_of_ble_eq_true rfl⟩) rfl hl.1 rfl (Nat.le_of_ble_eq_true rfl) ⟨Nat.le_of_ble_eq_true rfl, Nat.le_of_ble_eq_true rfl⟩ dX7_lots_6 (fun r1 u_ H locs hP hD hS h => ?_)
  obtain ⟨hu_, h⟩ := h
  rw [hu_] at hP hD
  refine lv_if_eq (pc := 9) (tgt := 24) hx hb dX7_lots_9 (by decide) (fun c2 => ?_) (fun c2 => ?_)
  · have h := h.1 c2
    refine lv_iconst (pc := 24) (v := (-1 : Int32)) hx hb dX7_lots_24 (by decide) ?_
    exact kx_iret (pc := 25) hx hb hr hlocks hK hP hD hS h dX7_lots_25
  · have h := h.2 c2
    refine lv_iload_n (pc := 12) hx hb dX7_lots_12 rfl (lv_at hl 2 rfl) ?_
    refine lv_i2l (pc := 13) (v := (x2.toInt64)) hx hb dX7_lots_13 rfl ?_
    refine lv_lconst (pc := 14) (v := (1 : Int64)) hx hb dX7_lots_14 (by decide) ?_
    refine lv_ldc2 (pc := 15) (v := (2147483646 : Int64)) hx hb hown (hts _ tb_1144) dX7_lots_15 ?_
    refine kx_iSi (pc := 18) [.long (x2.toInt64), .long (1 : Int64), .long (2147483646 : Int64)] hx hb hml hown hts hK hP hD hS (q7_in h) (cw7_77 hts ⟨Nat.le_of_ble_eq_true rfl, Nat.le_of_ble_eq_true rfl⟩) rfl hl.1 rfl (Nat.le_of_ble_eq_true rfl) ⟨Nat.le_of_ble_eq_true rfl, Nat.le_of_ble_eq_true rfl⟩ dX7_lots_18 (fun r3 u_ H locs hP hD hS h => ?_)
    obtain ⟨hu_, h⟩ := h
    rw [hu_] at hP hD
    refine lv_if_ne (pc := 21) (tgt := 26) hx hb dX7_lots_21 (by decide) (fun c4 => ?_) (fun c4 => ?_)
    · have h := h.1 c4
      refine lv_aload_n (pc := 26) hx hb dX7_lots_26 rfl (lv_at hl 0 rfl) ?_
      refine fg7_150 (pc := 27) hx hb hown hts hK hP rfl dX7_lots_27 ?_
      refine lv_if_ne (pc := 30) (tgt := 36) hx hb dX7_lots_30 (by decide) (fun c5 => ?_) (fun c5 => ?_)
      · have h := h.1 c5
        refine lv_aload_n (pc := 36) hx hb dX7_lots_36 rfl (lv_at hl 0 rfl) ?_
        refine fg7_7 (pc := 37) (b := 1) hx hb hown hts hK hP rfl rfl dX7_lots_37 ?_
        refine lv_iconst (pc := 40) (v := (0 : Int32)) hx hb dX7_lots_40 (by decide) ?_
        refine kx_iald (pc := 41) hx hb hK hP rfl (by unfold vp_in; decide) dX7_lots_41 ?_
        refine lv_iload_n (pc := 42) hx hb dX7_lots_42 rfl (lv_at hl 1 rfl) ?_
        refine lv_iadd (pc := 43) hx hb dX7_lots_43 ?_
        refine lv_bipush (pc := 44) (v := (40 : Int32)) hx hb dX7_lots_44 (by decide) ?_
        refine lv_icmp_le (pc := 46) (tgt := 52) hx hb dX7_lots_46 (by decide) (fun c6 => ?_) (fun c6 => ?_)
        · have h := h.1 c6
          refine lv_iload_n (pc := 52) hx hb dX7_lots_52 rfl (lv_at hl 2 rfl) ?_
          refine lv_i2l (pc := 53) (v := (x2.toInt64)) hx hb dX7_lots_53 rfl ?_
          refine lv_lstore_n (pc := 54) (lv' := [(3, .long (x2.toInt64)), (0, .ref (ad 0)), (1, .int x1), (2, .int x2)]) hx hb dX7_lots_54 rfl hl (by decide) rfl (fun ls hl => ?_)
          refine lv_iconst (pc := 55) (v := (0 : Int32)) hx hb dX7_lots_55 (by decide) ?_
          refine lv_istore (pc := 56) (lv' := [(5, .int (0 : Int32)), (3, .long (x2.toInt64)), (0, .ref (ad 0)), (1, .int x1), (2, .int x2)]) hx hb dX7_lots_56 hl (by decide) rfl (fun ls hl => ?_)
          obtain ⟨n0, h⟩ := h
          exact w7_lots_L58 cx  n0 _ _ _ _ _ _ _ h hP hD hS (lv_sub hl [2, 3, 1, 0] rfl)
        · have h := h.2 c6
          refine lv_bipush (pc := 49) (v := (-2 : Int32)) hx hb dX7_lots_49 (by decide) ?_
          exact kx_iret (pc := 51) hx hb hr hlocks hK hP hD hS h dX7_lots_51
      · have h := h.2 c5
        refine lv_bipush (pc := 33) (v := (-4 : Int32)) hx hb dX7_lots_33 (by decide) ?_
        exact kx_iret (pc := 35) hx hb hr hlocks hK hP hD hS h dX7_lots_35
    · have h := h.2 c4
      refine lv_iconst (pc := 24) (v := (-1 : Int32)) hx hb dX7_lots_24 (by decide) ?_
      exact kx_iret (pc := 25) hx hb hr hlocks hK hP hD hS h dX7_lots_25
def p7_asked (σ : kx_St) (Q : Int32 → Prop) : Prop := Q (σ.1 0 11)
set_option maxHeartbeats 4000000 in
theorem q7_asked {σ : kx_St}  {Q : Int32 → Prop} (h : p7_asked σ Q) : Met l yX7_asked (Cond.code yX7_asked cX7_asked 1 (some .int) :: kx_big) rm7_asked (va_Pc [.ref (ad 0)] (kx_Wd D cy 1 ad A σ)) (kx_Qc kx_ci (fun u r => u = σ ∧ Q r) (kx_Wd D cy 1 ad A) A) 0 0 A := by
  refine kx_head (plainFor_of_name (by decide)) (Nat.le_of_ble_eq_true rfl) ?_
  intro p e s m below meth c ls cx hP hD hS hl
  obtain ⟨hx, hb, hr, hlocks, hml, hown, hts, hK⟩ := id cx
  have hl : lv_has ls 1 [(0, .ref (ad 0))] := hl
  refine lv_aload_n (pc := 0) hx hb dX7_asked_0 rfl (lv_at hl 0 rfl) ?_
  refine fg7_72 (pc := 1) hx hb hown hts hK hP rfl dX7_asked_1 ?_
  exact kx_iret (pc := 4) hx hb hr hlocks hK hP hD hS ⟨rfl, h⟩ dX7_asked_4
def p7_upper (σ : kx_St) (Q : Int64 → Prop) : Prop := Q (σ.2 12)
set_option maxHeartbeats 4000000 in
theorem q7_upper {σ : kx_St}  {Q : Int64 → Prop} (h : p7_upper σ Q) : Met l yX7_upper (Cond.code yX7_upper cX7_upper 1 (some .long) :: kx_big) rm7_upper (va_Pc [.ref (ad 0)] (kx_Wd D cy 1 ad A σ)) (kx_Qc kx_cl (fun u r => u = σ ∧ Q r) (kx_Wd D cy 1 ad A) A) 0 0 A := by
  refine kx_head (plainFor_of_name (by decide)) (Nat.le_of_ble_eq_true rfl) ?_
  intro p e s m below meth c ls cx hP hD hS hl
  obtain ⟨hx, hb, hr, hlocks, hml, hown, hts, hK⟩ := id cx
  have hl : lv_has ls 1 [(0, .ref (ad 0))] := hl
  refine lv_aload_n (pc := 0) hx hb dX7_upper_0 rfl (lv_at hl 0 rfl) ?_
  refine fg7_261 (pc := 1) hx hb hown hts hK hP rfl dX7_upper_1 ?_
  exact kx_lret (pc := 4) hx hb hr hlocks hK hP hD hS ⟨rfl, h⟩ dX7_upper_4
def p7_lower (σ : kx_St) (Q : Int64 → Prop) : Prop := Q (σ.2 13)
set_option maxHeartbeats 4000000 in
theorem q7_lower {σ : kx_St}  {Q : Int64 → Prop} (h : p7_lower σ Q) : Met l yX7_lower (Cond.code yX7_lower cX7_lower 1 (some .long) :: kx_big) rm7_lower (va_Pc [.ref (ad 0)] (kx_Wd D cy 1 ad A σ)) (kx_Qc kx_cl (fun u r => u = σ ∧ Q r) (kx_Wd D cy 1 ad A) A) 0 0 A := by
  refine kx_head (plainFor_of_name (by decide)) (Nat.le_of_ble_eq_true rfl) ?_
  intro p e s m below meth c ls cx hP hD hS hl
  obtain ⟨hx, hb, hr, hlocks, hml, hown, hts, hK⟩ := id cx
  have hl : lv_has ls 1 [(0, .ref (ad 0))] := hl
  refine lv_aload_n (pc := 0) hx hb dX7_lower_0 rfl (lv_at hl 0 rfl) ?_
  refine fg7_37 (pc := 1) hx hb hown hts hK hP rfl dX7_lower_1 ?_
  exact kx_lret (pc := 4) hx hb hr hlocks hK hP hD hS ⟨rfl, h⟩ dX7_lower_4
def p7_boxes_L4 : Nat → kx_St → Int32 → Int32 → (Int32 → Prop) → Prop
  | 0, _, _, _, _ => False
  | n + 1, σ, x1, x2, Q => ((σ.1 0 3) ≤ x2 → Q x1) ∧ (¬ (σ.1 0 3) ≤ x2 → p7_isOf σ x2 (3 : Int32) (fun r2 => (r2 = 0 → p7_boxes_L4 n σ (x1 + (0 : Int32)) (x2 + (1 : Int32)) Q) ∧ (¬ r2 = 0 → p7_boxes_L4 n σ (x1 + (1 : Int32)) (x2 + (1 : Int32)) Q)))
set_option maxHeartbeats 4000000 in
theorem w7_boxes_L4 {σ : kx_St}  {Q : Int32 → Prop} (cx : kx_Cx p s m args meth c D cy RX7 cX7_boxes 3 (some .int))  : ∀ (n : Nat) (x1 : Int32) (x2 : Int32) (H : Heap) (locs : List Loc) (ls : Array Slot), p7_boxes_L4 n σ x1 x2 Q → va_P D vwCl (kx_ws cy 1 ad σ) H → va_D A (kx_ws cy 1 ad σ) → va_S A s.heap H locs → lv_has ls 3 [(0, .ref (ad 0)), (1, .int x1), (2, .int x2)] → W p l e rm7_boxes s m args below meth c H locs 0 0 (MQ below (kx_Qc kx_ci (fun u r => u = σ ∧ Q r) (kx_Wd D cy 1 ad A) A) args s 0 0 A) (F0 m 4 ls []) := by
  obtain ⟨hx, hb, hr, hlocks, hml, hown, hts, hK⟩ := id cx
  intro n
  induction n with
  | zero => intro _ _ _ _ _ h; exact False.elim h
  | succ n ih =>
    intro x1 x2 H locs ls h hP hD hS hl
    refine lv_iload_n (pc := 4) hx hb dX7_boxes_4 rfl (lv_at hl 2 rfl) ?_
    refine lv_aload_n (pc := 5) hx hb dX7_boxes_5 rfl (lv_at hl 0 rfl) ?_
    refine fg7_150 (pc := 6) hx hb hown hts hK hP rfl dX7_boxes_6 ?_
    refine lv_icmp_ge (pc := 9) (tgt := 35) hx hb dX7_boxes_9 (by decide) (fun c1 => ?_) (fun c1 => ?_)
    · have h := h.1 c1
      refine lv_iload_n (pc := 35) hx hb dX7_boxes_35 rfl (lv_at hl 1 rfl) ?_
      exact kx_iret (pc := 36) hx hb hr hlocks hK hP hD hS ⟨rfl, h⟩ dX7_boxes_36
    · have h := h.2 c1
      refine lv_iload_n (pc := 12) hx hb dX7_boxes_12 rfl (lv_at hl 1 rfl) ?_
      refine lv_aload_n (pc := 13) hx hb dX7_boxes_13 rfl (lv_at hl 0 rfl) ?_
      refine lv_iload_n (pc := 14) hx hb dX7_boxes_14 rfl (lv_at hl 2 rfl) ?_
      refine lv_iconst (pc := 15) (v := (3 : Int32)) hx hb dX7_boxes_15 (by decide) ?_
      refine kx_iVi (pc := 16) [.int x2, .int (3 : Int32)] hx hb hml hown hts hK hP hD hS (q7_isOf h) (cw7_182 hts ⟨Nat.le_of_ble_eq_true rfl, Nat.le_of_ble_eq_true rfl⟩) rfl (by decide) rfl rfl hl.1 rfl (Nat.le_of_ble_eq_true rfl) ⟨Nat.le_of_ble_eq_true rfl, Nat.le_of_ble_eq_true rfl⟩ dX7_boxes_16 (fun r2 u_ H locs hP hD hS h => ?_)
      obtain ⟨hu_, h⟩ := h
      rw [hu_] at hP hD
      refine lv_if_eq (pc := 19) (tgt := 26) hx hb dX7_boxes_19 (by decide) (fun c3 => ?_) (fun c3 => ?_)
      · have h := h.1 c3
        refine lv_iconst (pc := 26) (v := (0 : Int32)) hx hb dX7_boxes_26 (by decide) ?_
        refine lv_iadd (pc := 27) hx hb dX7_boxes_27 ?_
        refine lv_istore_n (pc := 28) (lv' := [(1, .int (x1 + (0 : Int32))), (0, .ref (ad 0)), (2, .int x2)]) hx hb dX7_boxes_28 rfl hl (by decide) rfl (fun ls hl => ?_)
        refine lv_iinc (pc := 29) (v := (x2 + (1 : Int32))) (lv' := [(2, .int (x2 + (1 : Int32))), (1, .int (x1 + (0 : Int32))), (0, .ref (ad 0))]) hx hb dX7_boxes_29 hl (k := 2) rfl rfl (by decide) rfl (fun ls hl => ?_)
        refine lv_goto (pc := 32) (tgt := 4) hx hb dX7_boxes_32 (by decide) ?_
        exact ih _ _ _ _ _ h hP hD hS (lv_sub hl [2, 1, 0] rfl)
      · have h := h.2 c3
        refine lv_iconst (pc := 22) (v := (1 : Int32)) hx hb dX7_boxes_22 (by decide) ?_
        refine lv_goto (pc := 23) (tgt := 27) hx hb dX7_boxes_23 (by decide) ?_
        refine lv_iadd (pc := 27) hx hb dX7_boxes_27 ?_
        refine lv_istore_n (pc := 28) (lv' := [(1, .int (x1 + (1 : Int32))), (0, .ref (ad 0)), (2, .int x2)]) hx hb dX7_boxes_28 rfl hl (by decide) rfl (fun ls hl => ?_)
        refine lv_iinc (pc := 29) (v := (x2 + (1 : Int32))) (lv' := [(2, .int (x2 + (1 : Int32))), (1, .int (x1 + (1 : Int32))), (0, .ref (ad 0))]) hx hb dX7_boxes_29 hl (k := 2) rfl rfl (by decide) rfl (fun ls hl => ?_)
        refine lv_goto (pc := 32) (tgt := 4) hx hb dX7_boxes_32 (by decide) ?_
        exact ih _ _ _ _ _ h hP hD hS (lv_sub hl [2, 1, 0] rfl)
def p7_boxes (σ : kx_St) (Q : Int32 → Prop) : Prop := ∃ m4, p7_boxes_L4 m4 σ (0 : Int32) (0 : Int32) Q
set_option maxHeartbeats 4000000 in
theorem q7_boxes {σ : kx_St}  {Q : Int32 → Prop} (h : p7_boxes σ Q) : Met l yX7_boxes (Cond.code yX7_boxes cX7_boxes 3 (some .int) :: kx_big) rm7_boxes (va_Pc [.ref (ad 0)] (kx_Wd D cy 1 ad A σ)) (kx_Qc kx_ci (fun u r => u = σ ∧ Q r) (kx_Wd D cy 1 ad A) A) 0 0 A := by
  refine kx_head (plainFor_of_name (by decide)) (Nat.le_of_ble_eq_true rfl) ?_
  intro p e s m below meth c ls cx hP hD hS hl
  obtain ⟨hx, hb, hr, hlocks, hml, hown, hts, hK⟩ := id cx
  have hl : lv_has ls 3 [(0, .ref (ad 0))] := hl
  refine lv_iconst (pc := 0) (v := (0 : Int32)) hx hb dX7_boxes_0 (by decide) ?_
  refine lv_istore_n (pc := 1) (lv' := [(1, .int (0 : Int32)), (0, .ref (ad 0))]) hx hb dX7_boxes_1 rfl hl (by decide) rfl (fun ls hl => ?_)
  refine lv_iconst (pc := 2) (v := (0 : Int32)) hx hb dX7_boxes_2 (by decide) ?_
  refine lv_istore_n (pc := 3) (lv' := [(2, .int (0 : Int32)), (1, .int (0 : Int32)), (0, .ref (ad 0))]) hx hb dX7_boxes_3 rfl hl (by decide) rfl (fun ls hl => ?_)
  obtain ⟨n0, h⟩ := h
  exact w7_boxes_L4 cx  n0 _ _ _ _ _ h hP hD hS (lv_sub hl [2, 1, 0] rfl)
def p7_thereOf_L4 : Nat → kx_St → Int32 → Int32 → Int32 → (Int32 → Prop) → Prop
  | 0, _, _, _, _, _ => False
  | n + 1, σ, x1, x2, x3, Q => ((6 : Int32) ≤ x3 → Q x2) ∧ (¬ (6 : Int32) ≤ x3 → (¬ x1 = (8 : Int32) → (¬ x1 = (9 : Int32) → ((3 : Int32) ≤ x3 → p7_thereOf_L4 n σ x1 (x2 + (0 : Int32)) (x3 + (1 : Int32)) Q) ∧ (¬ (3 : Int32) ≤ x3 → vp_in (((616 : Int32) * ((1 : Int32) + x3)) + (0 : Int32)) 2480 ∧ (((σ.1 1 (((616 : Int32) * ((1 : Int32) + x3)) + (0 : Int32)).toNatClampNeg) < 0 → p7_thereOf_L4 n σ x1 (x2 + (0 : Int32)) (x3 + (1 : Int32)) Q) ∧ (¬ (σ.1 1 (((616 : Int32) * ((1 : Int32) + x3)) + (0 : Int32)).toNatClampNeg) < 0 → p7_thereOf_L4 n σ x1 (x2 + (1 : Int32)) (x3 + (1 : Int32)) Q)))) ∧ (x1 = (9 : Int32) → ((4 : Int32) ≤ x3 → p7_thereOf_L4 n σ x1 (x2 + (0 : Int32)) (x3 + (1 : Int32)) Q) ∧ (¬ (4 : Int32) ≤ x3 → vp_in x3 4 ∧ (((σ.1 8 x3.toNatClampNeg) < 0 → p7_thereOf_L4 n σ x1 (x2 + (0 : Int32)) (x3 + (1 : Int32)) Q) ∧ (¬ (σ.1 8 x3.toNatClampNeg) < 0 → p7_thereOf_L4 n σ x1 (x2 + (1 : Int32)) (x3 + (1 : Int32)) Q))))) ∧ (x1 = (8 : Int32) → vp_in x3 6 ∧ ((0 ≤ (σ.1 6 x3.toNatClampNeg) → p7_thereOf_L4 n σ x1 (x2 + (1 : Int32)) (x3 + (1 : Int32)) Q) ∧ (¬ 0 ≤ (σ.1 6 x3.toNatClampNeg) → p7_thereOf_L4 n σ x1 (x2 + (0 : Int32)) (x3 + (1 : Int32)) Q))))
set_option maxHeartbeats 4000000 in
theorem w7_thereOf_L4 {σ : kx_St}  {Q : Int32 → Prop} (cx : kx_Cx p s m args meth c D cy RX7 cX7_thereOf 4 (some .int))  : ∀ (n : Nat) (x1 : Int32) (x2 : Int32) (x3 : Int32) (H : Heap) (locs : List Loc) (ls : Array Slot), p7_thereOf_L4 n σ x1 x2 x3 Q → va_P D vwCl (kx_ws cy 1 ad σ) H → va_D A (kx_ws cy 1 ad σ) → va_S A s.heap H locs → lv_has ls 4 [(0, .ref (ad 0)), (1, .int x1), (2, .int x2), (3, .int x3)] → W p l e rm7_thereOf s m args below meth c H locs 0 0 (MQ below (kx_Qc kx_ci (fun u r => u = σ ∧ Q r) (kx_Wd D cy 1 ad A) A) args s 0 0 A) (F0 m 4 ls []) := by
  obtain ⟨hx, hb, hr, hlocks, hml, hown, hts, hK⟩ := id cx
  intro n
  induction n with
  | zero => intro _ _ _ _ _ _ h; exact False.elim h
  | succ n ih =>
    intro x1 x2 x3 H locs ls h hP hD hS hl
    refine lv_iload_n (pc := 4) hx hb dX7_thereOf_4 rfl (lv_at hl 3 rfl) ?_
    refine lv_bipush (pc := 5) (v := (6 : Int32)) hx hb dX7_thereOf_5 (by decide) ?_
    refine lv_icmp_ge (pc := 7) (tgt := 97) hx hb dX7_thereOf_7 (by decide) (fun c1 => ?_) (fun c1 => ?_)
    · have h := h.1 c1
      refine lv_iload_n (pc := 97) hx hb dX7_thereOf_97 rfl (lv_at hl 2 rfl) ?_
      exact kx_iret (pc := 98) hx hb hr hlocks hK hP hD hS ⟨rfl, h⟩ dX7_thereOf_98
    · have h := h.2 c1
      refine lv_iload_n (pc := 10) hx hb dX7_thereOf_10 rfl (lv_at hl 2 rfl) ?_
      refine lv_iload_n (pc := 11) hx hb dX7_thereOf_11 rfl (lv_at hl 1 rfl) ?_
      refine lv_bipush (pc := 12) (v := (8 : Int32)) hx hb dX7_thereOf_12 (by decide) ?_
      refine lv_icmp_ne (pc := 14) (tgt := 34) hx hb dX7_thereOf_14 (by decide) (fun c2 => ?_) (fun c2 => ?_)
      · have h := h.1 c2
        refine lv_iload_n (pc := 34) hx hb dX7_thereOf_34 rfl (lv_at hl 1 rfl) ?_
        refine lv_bipush (pc := 35) (v := (9 : Int32)) hx hb dX7_thereOf_35 (by decide) ?_
        refine lv_icmp_ne (pc := 37) (tgt := 62) hx hb dX7_thereOf_37 (by decide) (fun c3 => ?_) (fun c3 => ?_)
        · have h := h.1 c3
          refine lv_iload_n (pc := 62) hx hb dX7_thereOf_62 rfl (lv_at hl 3 rfl) ?_
          refine lv_iconst (pc := 63) (v := (3 : Int32)) hx hb dX7_thereOf_63 (by decide) ?_
          refine lv_icmp_ge (pc := 64) (tgt := 88) hx hb dX7_thereOf_64 (by decide) (fun c4 => ?_) (fun c4 => ?_)
          · have h := h.1 c4
            refine lv_iconst (pc := 88) (v := (0 : Int32)) hx hb dX7_thereOf_88 (by decide) ?_
            refine lv_iadd (pc := 89) hx hb dX7_thereOf_89 ?_
            refine lv_istore_n (pc := 90) (lv' := [(2, .int (x2 + (0 : Int32))), (0, .ref (ad 0)), (1, .int x1), (3, .int x3)]) hx hb dX7_thereOf_90 rfl hl (by decide) rfl (fun ls hl => ?_)
            refine lv_iinc (pc := 91) (v := (x3 + (1 : Int32))) (lv' := [(3, .int (x3 + (1 : Int32))), (2, .int (x2 + (0 : Int32))), (0, .ref (ad 0)), (1, .int x1)]) hx hb dX7_thereOf_91 hl (k := 3) rfl rfl (by decide) rfl (fun ls hl => ?_)
            refine lv_goto (pc := 94) (tgt := 4) hx hb dX7_thereOf_94 (by decide) ?_
            exact ih _ _ _ _ _ _ h hP hD hS (lv_sub hl [2, 3, 1, 0] rfl)
          · have h := h.2 c4
            refine lv_aload_n (pc := 67) hx hb dX7_thereOf_67 rfl (lv_at hl 0 rfl) ?_
            refine fg7_7 (pc := 68) (b := 1) hx hb hown hts hK hP rfl rfl dX7_thereOf_68 ?_
            refine lv_sipush (pc := 71) (v := (616 : Int32)) hx hb dX7_thereOf_71 (by decide) ?_
            refine lv_iconst (pc := 74) (v := (1 : Int32)) hx hb dX7_thereOf_74 (by decide) ?_
            refine lv_iload_n (pc := 75) hx hb dX7_thereOf_75 rfl (lv_at hl 3 rfl) ?_
            refine lv_iadd (pc := 76) hx hb dX7_thereOf_76 ?_
            refine lv_imul (pc := 77) hx hb dX7_thereOf_77 ?_
            refine lv_iconst (pc := 78) (v := (0 : Int32)) hx hb dX7_thereOf_78 (by decide) ?_
            refine lv_iadd (pc := 79) hx hb dX7_thereOf_79 ?_
            obtain ⟨g5, h⟩ := h
            refine kx_iald (pc := 80) hx hb hK hP rfl g5 dX7_thereOf_80 ?_
            refine lv_if_lt (pc := 81) (tgt := 88) hx hb dX7_thereOf_81 (by decide) (fun c6 => ?_) (fun c6 => ?_)
            · have h := h.1 c6
              refine lv_iconst (pc := 88) (v := (0 : Int32)) hx hb dX7_thereOf_88 (by decide) ?_
              refine lv_iadd (pc := 89) hx hb dX7_thereOf_89 ?_
              refine lv_istore_n (pc := 90) (lv' := [(2, .int (x2 + (0 : Int32))), (0, .ref (ad 0)), (1, .int x1), (3, .int x3)]) hx hb dX7_thereOf_90 rfl hl (by decide) rfl (fun ls hl => ?_)
              refine lv_iinc (pc := 91) (v := (x3 + (1 : Int32))) (lv' := [(3, .int (x3 + (1 : Int32))), (2, .int (x2 + (0 : Int32))), (0, .ref (ad 0)), (1, .int x1)]) hx hb dX7_thereOf_91 hl (k := 3) rfl rfl (by decide) rfl (fun ls hl => ?_)
              refine lv_goto (pc := 94) (tgt := 4) hx hb dX7_thereOf_94 (by decide) ?_
              exact ih _ _ _ _ _ _ h hP hD hS (lv_sub hl [2, 3, 1, 0] rfl)
            · have h := h.2 c6
              refine lv_iconst (pc := 84) (v := (1 : Int32)) hx hb dX7_thereOf_84 (by decide) ?_
              refine lv_goto (pc := 85) (tgt := 89) hx hb dX7_thereOf_85 (by decide) ?_
              refine lv_iadd (pc := 89) hx hb dX7_thereOf_89 ?_
              refine lv_istore_n (pc := 90) (lv' := [(2, .int (x2 + (1 : Int32))), (0, .ref (ad 0)), (1, .int x1), (3, .int x3)]) hx hb dX7_thereOf_90 rfl hl (by decide) rfl (fun ls hl => ?_)
              refine lv_iinc (pc := 91) (v := (x3 + (1 : Int32))) (lv' := [(3, .int (x3 + (1 : Int32))), (2, .int (x2 + (1 : Int32))), (0, .ref (ad 0)), (1, .int x1)]) hx hb dX7_thereOf_91 hl (k := 3) rfl rfl (by decide) rfl (fun ls hl => ?_)
              refine lv_goto (pc := 94) (tgt := 4) hx hb dX7_thereOf_94 (by decide) ?_
              exact ih _ _ _ _ _ _ h hP hD hS (lv_sub hl [2, 3, 1, 0] rfl)
        · have h := h.2 c3
          refine lv_iload_n (pc := 40) hx hb dX7_thereOf_40 rfl (lv_at hl 3 rfl) ?_
          refine lv_iconst (pc := 41) (v := (4 : Int32)) hx hb dX7_thereOf_41 (by decide) ?_
          refine lv_icmp_ge (pc := 42) (tgt := 58) hx hb dX7_thereOf_42 (by decide) (fun c7 => ?_) (fun c7 => ?_)
          · have h := h.1 c7
            refine lv_iconst (pc := 58) (v := (0 : Int32)) hx hb dX7_thereOf_58 (by decide) ?_
            refine lv_goto (pc := 59) (tgt := 89) hx hb dX7_thereOf_59 (by decide) ?_
            refine lv_iadd (pc := 89) hx hb dX7_thereOf_89 ?_
            refine lv_istore_n (pc := 90) (lv' := [(2, .int (x2 + (0 : Int32))), (0, .ref (ad 0)), (1, .int x1), (3, .int x3)]) hx hb dX7_thereOf_90 rfl hl (by decide) rfl (fun ls hl => ?_)
            refine lv_iinc (pc := 91) (v := (x3 + (1 : Int32))) (lv' := [(3, .int (x3 + (1 : Int32))), (2, .int (x2 + (0 : Int32))), (0, .ref (ad 0)), (1, .int x1)]) hx hb dX7_thereOf_91 hl (k := 3) rfl rfl (by decide) rfl (fun ls hl => ?_)
            refine lv_goto (pc := 94) (tgt := 4) hx hb dX7_thereOf_94 (by decide) ?_
            exact ih _ _ _ _ _ _ h hP hD hS (lv_sub hl [2, 3, 1, 0] rfl)
          · have h := h.2 c7
            refine lv_aload_n (pc := 45) hx hb dX7_thereOf_45 rfl (lv_at hl 0 rfl) ?_
            refine fg7_31 (pc := 46) (b := 8) hx hb hown hts hK hP rfl rfl dX7_thereOf_46 ?_
            refine lv_iload_n (pc := 49) hx hb dX7_thereOf_49 rfl (lv_at hl 3 rfl) ?_
            obtain ⟨g8, h⟩ := h
            refine kx_iald (pc := 50) hx hb hK hP rfl g8 dX7_thereOf_50 ?_
            refine lv_if_lt (pc := 51) (tgt := 58) hx hb dX7_thereOf_51 (by decide) (fun c9 => ?_) (fun c9 => ?_)
            · have h := h.1 c9
              refine lv_iconst (pc := 58) (v := (0 : Int32)) hx hb dX7_thereOf_58 (by decide) ?_
              refine lv_goto (pc := 59) (tgt := 89) hx hb dX7_thereOf_59 (by decide) ?_
              refine lv_iadd (pc := 89) hx hb dX7_thereOf_89 ?_
              refine lv_istore_n (pc := 90) (lv' := [(2, .int (x2 + (0 : Int32))), (0, .ref (ad 0)), (1, .int x1), (3, .int x3)]) hx hb dX7_thereOf_90 rfl hl (by decide) rfl (fun ls hl => ?_)
              refine lv_iinc (pc := 91) (v := (x3 + (1 : Int32))) (lv' := [(3, .int (x3 + (1 : Int32))), (2, .int (x2 + (0 : Int32))), (0, .ref (ad 0)), (1, .int x1)]) hx hb dX7_thereOf_91 hl (k := 3) rfl rfl (by decide) rfl (fun ls hl => ?_)
              refine lv_goto (pc := 94) (tgt := 4) hx hb dX7_thereOf_94 (by decide) ?_
              exact ih _ _ _ _ _ _ h hP hD hS (lv_sub hl [2, 3, 1, 0] rfl)
            · have h := h.2 c9
              refine lv_iconst (pc := 54) (v := (1 : Int32)) hx hb dX7_thereOf_54 (by decide) ?_
              refine lv_goto (pc := 55) (tgt := 89) hx hb dX7_thereOf_55 (by decide) ?_
              refine lv_iadd (pc := 89) hx hb dX7_thereOf_89 ?_
              refine lv_istore_n (pc := 90) (lv' := [(2, .int (x2 + (1 : Int32))), (0, .ref (ad 0)), (1, .int x1), (3, .int x3)]) hx hb dX7_thereOf_90 rfl hl (by decide) rfl (fun ls hl => ?_)
              refine lv_iinc (pc := 91) (v := (x3 + (1 : Int32))) (lv' := [(3, .int (x3 + (1 : Int32))), (2, .int (x2 + (1 : Int32))), (0, .ref (ad 0)), (1, .int x1)]) hx hb dX7_thereOf_91 hl (k := 3) rfl rfl (by decide) rfl (fun ls hl => ?_)
              refine lv_goto (pc := 94) (tgt := 4) hx hb dX7_thereOf_94 (by decide) ?_
              exact ih _ _ _ _ _ _ h hP hD hS (lv_sub hl [2, 3, 1, 0] rfl)
      · have h := h.2 c2
        refine lv_aload_n (pc := 17) hx hb dX7_thereOf_17 rfl (lv_at hl 0 rfl) ?_
        refine fg7_25 (pc := 18) (b := 6) hx hb hown hts hK hP rfl rfl dX7_thereOf_18 ?_
        refine lv_iload_n (pc := 21) hx hb dX7_thereOf_21 rfl (lv_at hl 3 rfl) ?_
        obtain ⟨g10, h⟩ := h
        refine kx_iald (pc := 22) hx hb hK hP rfl g10 dX7_thereOf_22 ?_
        refine lv_if_ge (pc := 23) (tgt := 30) hx hb dX7_thereOf_23 (by decide) (fun c11 => ?_) (fun c11 => ?_)
        · have h := h.1 c11
          refine lv_iconst (pc := 30) (v := (1 : Int32)) hx hb dX7_thereOf_30 (by decide) ?_
          refine lv_goto (pc := 31) (tgt := 89) hx hb dX7_thereOf_31 (by decide) ?_
          refine lv_iadd (pc := 89) hx hb dX7_thereOf_89 ?_
          refine lv_istore_n (pc := 90) (lv' := [(2, .int (x2 + (1 : Int32))), (0, .ref (ad 0)), (1, .int x1), (3, .int x3)]) hx hb dX7_thereOf_90 rfl hl (by decide) rfl (fun ls hl => ?_)
          refine lv_iinc (pc := 91) (v := (x3 + (1 : Int32))) (lv' := [(3, .int (x3 + (1 : Int32))), (2, .int (x2 + (1 : Int32))), (0, .ref (ad 0)), (1, .int x1)]) hx hb dX7_thereOf_91 hl (k := 3) rfl rfl (by decide) rfl (fun ls hl => ?_)
          refine lv_goto (pc := 94) (tgt := 4) hx hb dX7_thereOf_94 (by decide) ?_
          exact ih _ _ _ _ _ _ h hP hD hS (lv_sub hl [2, 3, 1, 0] rfl)
        · have h := h.2 c11
          refine lv_iconst (pc := 26) (v := (0 : Int32)) hx hb dX7_thereOf_26 (by decide) ?_
          refine lv_goto (pc := 27) (tgt := 89) hx hb dX7_thereOf_27 (by decide) ?_
          refine lv_iadd (pc := 89) hx hb dX7_thereOf_89 ?_
          refine lv_istore_n (pc := 90) (lv' := [(2, .int (x2 + (0 : Int32))), (0, .ref (ad 0)), (1, .int x1), (3, .int x3)]) hx hb dX7_thereOf_90 rfl hl (by decide) rfl (fun ls hl => ?_)
          refine lv_iinc (pc := 91) (v := (x3 + (1 : Int32))) (lv' := [(3, .int (x3 + (1 : Int32))), (2, .int (x2 + (0 : Int32))), (0, .ref (ad 0)), (1, .int x1)]) hx hb dX7_thereOf_91 hl (k := 3) rfl rfl (by decide) rfl (fun ls hl => ?_)
          refine lv_goto (pc := 94) (tgt := 4) hx hb dX7_thereOf_94 (by decide) ?_
          exact ih _ _ _ _ _ _ h hP hD hS (lv_sub hl [2, 3, 1, 0] rfl)
def p7_thereOf (σ : kx_St) (x1 : Int32) (Q : Int32 → Prop) : Prop := ∃ m4, p7_thereOf_L4 m4 σ x1 (0 : Int32) (0 : Int32) Q
set_option maxHeartbeats 4000000 in
theorem q7_thereOf {σ : kx_St} {x1 : Int32} {Q : Int32 → Prop} (h : p7_thereOf σ x1 Q) : Met l yX7_thereOf (Cond.code yX7_thereOf cX7_thereOf 4 (some .int) :: kx_big) rm7_thereOf (va_Pc [.ref (ad 0), .int x1] (kx_Wd D cy 1 ad A σ)) (kx_Qc kx_ci (fun u r => u = σ ∧ Q r) (kx_Wd D cy 1 ad A) A) 0 0 A := by
  refine kx_head (plainFor_of_name (by decide)) (Nat.le_of_ble_eq_true rfl) ?_
  intro p e s m below meth c ls cx hP hD hS hl
  obtain ⟨hx, hb, hr, hlocks, hml, hown, hts, hK⟩ := id cx
  have hl : lv_has ls 4 [(0, .ref (ad 0)), (1, .int x1)] := hl
  refine lv_iconst (pc := 0) (v := (0 : Int32)) hx hb dX7_thereOf_0 (by decide) ?_
  refine lv_istore_n (pc := 1) (lv' := [(2, .int (0 : Int32)), (0, .ref (ad 0)), (1, .int x1)]) hx hb dX7_thereOf_1 rfl hl (by decide) rfl (fun ls hl => ?_)
  refine lv_iconst (pc := 2) (v := (0 : Int32)) hx hb dX7_thereOf_2 (by decide) ?_
  refine lv_istore_n (pc := 3) (lv' := [(3, .int (0 : Int32)), (2, .int (0 : Int32)), (0, .ref (ad 0)), (1, .int x1)]) hx hb dX7_thereOf_3 rfl hl (by decide) rfl (fun ls hl => ?_)
  obtain ⟨n0, h⟩ := h
  exact w7_thereOf_L4 cx  n0 _ _ _ _ _ _ h hP hD hS (lv_sub hl [2, 3, 1, 0] rfl)
def p7_countOf (σ : kx_St) (x1 : Int32) (Q : Int32 → Prop) : Prop := (x1 = (0 : Int32) → Q (σ.1 0 3)) ∧ (¬ x1 = (0 : Int32) → (x1 = (1 : Int32) → Q (σ.1 1 (1 : Int32).toNatClampNeg)) ∧ (¬ x1 = (1 : Int32) → (x1 = (2 : Int32) → Q (σ.1 1 (0 : Int32).toNatClampNeg)) ∧ (¬ x1 = (2 : Int32) → (x1 = (3 : Int32) → p7_windAt σ (σ.1 1 (1 : Int32).toNatClampNeg) (fun r5 => Q r5)) ∧ (¬ x1 = (3 : Int32) → (x1 = (4 : Int32) → Q (σ.1 1 (2 : Int32).toNatClampNeg)) ∧ (¬ x1 = (4 : Int32) → (x1 = (5 : Int32) → Q (σ.1 1 (3 : Int32).toNatClampNeg)) ∧ (¬ x1 = (5 : Int32) → (x1 = (6 : Int32) → p7_paidIn σ (0 : Int32) (fun r9 => Q r9)) ∧ (¬ x1 = (6 : Int32) → (x1 = (7 : Int32) → Q (σ.1 0 2)) ∧ (¬ x1 = (7 : Int32) → (x1 = (11 : Int32) → p7_boxes σ (fun r15 => Q r15)) ∧ (¬ x1 = (11 : Int32) → p7_thereOf σ x1 (fun r22 => Q r22))))))))))
set_option maxHeartbeats 4000000 in
theorem q7_countOf {σ : kx_St} {x1 : Int32} {Q : Int32 → Prop} (h : p7_countOf σ x1 Q) : Met l yX7_countOf (Cond.code yX7_countOf cX7_countOf 2 (some .int) :: kx_big) rm7_countOf (va_Pc [.ref (ad 0), .int x1] (kx_Wd D cy 1 ad A σ)) (kx_Qc kx_ci (fun u r => u = σ ∧ Q r) (kx_Wd D cy 1 ad A) A) 0 0 A := by
  refine kx_head (plainFor_of_name (by decide)) (Nat.le_of_ble_eq_true rfl) ?_
  intro p e s m below meth c ls cx hP hD hS hl
  obtain ⟨hx, hb, hr, hlocks, hml, hown, hts, hK⟩ := id cx
  have hl : lv_has ls 2 [(0, .ref (ad 0)), (1, .int x1)] := hl
  refine lv_iload_n (pc := 0) hx hb dX7_countOf_0 rfl (lv_at hl 1 rfl) ?_
  by_cases c1 : x1 = (0 : Int32)
  · have h := h.1 c1
    refine lv_tableIn (pc := 1) (tgt := 64) hx hb dX7_countOf_1 (by rw [c1]; decide) (by rw [c1]; decide) (off := 63) (by rw [c1]; rfl) (by decide) ?_
    refine lv_aload_n (pc := 64) hx hb dX7_countOf_64 rfl (lv_at hl 0 rfl) ?_
    refine fg7_150 (pc := 65) hx hb hown hts hK hP rfl dX7_countOf_65 ?_
    exact kx_iret (pc := 68) hx hb hr hlocks hK hP hD hS ⟨rfl, h⟩ dX7_countOf_68
  · have h := h.2 c1
    by_cases c2 : x1 = (1 : Int32)
    · have h := h.1 c2
      refine lv_tableIn (pc := 1) (tgt := 69) hx hb dX7_countOf_1 (by rw [c2]; decide) (by rw [c2]; decide) (off := 68) (by rw [c2]; rfl) (by decide) ?_
      refine lv_aload_n (pc := 69) hx hb dX7_countOf_69 rfl (lv_at hl 0 rfl) ?_
      refine fg7_7 (pc := 70) (b := 1) hx hb hown hts hK hP rfl rfl dX7_countOf_70 ?_
      refine lv_iconst (pc := 73) (v := (1 : Int32)) hx hb dX7_countOf_73 (by decide) ?_
      refine kx_iald (pc := 74) hx hb hK hP rfl (by unfold vp_in; decide) dX7_countOf_74 ?_
      exact kx_iret (pc := 75) hx hb hr hlocks hK hP hD hS ⟨rfl, h⟩ dX7_countOf_75
    · have h := h.2 c2
      by_cases c3 : x1 = (2 : Int32)
      · have h := h.1 c3
        refine lv_tableIn (pc := 1) (tgt := 76) hx hb dX7_countOf_1 (by rw [c3]; decide) (by rw [c3]; decide) (off := 75) (by rw [c3]; rfl) (by decide) ?_
        refine lv_aload_n (pc := 76) hx hb dX7_countOf_76 rfl (lv_at hl 0 rfl) ?_
        refine fg7_7 (pc := 77) (b := 1) hx hb hown hts hK hP rfl rfl dX7_countOf_77 ?_
        refine lv_iconst (pc := 80) (v := (0 : Int32)) hx hb dX7_countOf_80 (by decide) ?_
        refine kx_iald (pc := 81) hx hb hK hP rfl (by unfold vp_in; decide) dX7_countOf_81 ?_
        exact kx_iret (pc := 82) hx hb hr hlocks hK hP hD hS ⟨rfl, h⟩ dX7_countOf_82
      · have h := h.2 c3
        by_cases c4 : x1 = (3 : Int32)
        · have h := h.1 c4
          refine lv_tableIn (pc := 1) (tgt := 83) hx hb dX7_countOf_1 (by rw [c4]; decide) (by rw [c4]; decide) (off := 82) (by rw [c4]; rfl) (by decide) ?_
          refine lv_aload_n (pc := 83) hx hb dX7_countOf_83 rfl (lv_at hl 0 rfl) ?_
          refine lv_aload_n (pc := 84) hx hb dX7_countOf_84 rfl (lv_at hl 0 rfl) ?_
          refine fg7_7 (pc := 85) (b := 1) hx hb hown hts hK hP rfl rfl dX7_countOf_85 ?_
          refine lv_iconst (pc := 88) (v := (1 : Int32)) hx hb dX7_countOf_88 (by decide) ?_
          refine kx_iald (pc := 89) hx hb hK hP rfl (by unfold vp_in; decide) dX7_countOf_89 ?_
          refine kx_iVi (pc := 90) [.int (σ.1 1 (1 : Int32).toNatClampNeg)] hx hb hml hown hts hK hP hD hS (q7_windAt h) (cw7_164 hts ⟨Nat.le_of_ble_eq_true rfl, Nat.le_of_ble_eq_true rfl⟩) rfl (by decide) rfl rfl hl.1 rfl (Nat.le_of_ble_eq_true rfl) ⟨Nat.le_of_ble_eq_true rfl, Nat.le_of_ble_eq_true rfl⟩ dX7_countOf_90 (fun r5 u_ H locs hP hD hS h => ?_)
          obtain ⟨hu_, h⟩ := h
          rw [hu_] at hP hD
          exact kx_iret (pc := 93) hx hb hr hlocks hK hP hD hS ⟨rfl, h⟩ dX7_countOf_93
        · have h := h.2 c4
          by_cases c6 : x1 = (4 : Int32)
          · have h := h.1 c6
            refine lv_tableIn (pc := 1) (tgt := 94) hx hb dX7_countOf_1 (by rw [c6]; decide) (by rw [c6]; decide) (off := 93) (by rw [c6]; rfl) (by decide) ?_
            refine lv_aload_n (pc := 94) hx hb dX7_countOf_94 rfl (lv_at hl 0 rfl) ?_
            refine fg7_7 (pc := 95) (b := 1) hx hb hown hts hK hP rfl rfl dX7_countOf_95 ?_
            refine lv_iconst (pc := 98) (v := (2 : Int32)) hx hb dX7_countOf_98 (by decide) ?_
            refine kx_iald (pc := 99) hx hb hK hP rfl (by unfold vp_in; decide) dX7_countOf_99 ?_
            exact kx_iret (pc := 100) hx hb hr hlocks hK hP hD hS ⟨rfl, h⟩ dX7_countOf_100
          · have h := h.2 c6
            by_cases c7 : x1 = (5 : Int32)
            · have h := h.1 c7
              refine lv_tableIn (pc := 1) (tgt := 101) hx hb dX7_countOf_1 (by rw [c7]; decide) (by rw [c7]; decide) (off := 100) (by rw [c7]; rfl) (by decide) ?_
              refine lv_aload_n (pc := 101) hx hb dX7_countOf_101 rfl (lv_at hl 0 rfl) ?_
              refine fg7_7 (pc := 102) (b := 1) hx hb hown hts hK hP rfl rfl dX7_countOf_102 ?_
              refine lv_iconst (pc := 105) (v := (3 : Int32)) hx hb dX7_countOf_105 (by decide) ?_
              refine kx_iald (pc := 106) hx hb hK hP rfl (by unfold vp_in; decide) dX7_countOf_106 ?_
              exact kx_iret (pc := 107) hx hb hr hlocks hK hP hD hS ⟨rfl, h⟩ dX7_countOf_107
            · have h := h.2 c7
              by_cases c8 : x1 = (6 : Int32)
              · have h := h.1 c8
                refine lv_tableIn (pc := 1) (tgt := 108) hx hb dX7_countOf_1 (by rw [c8]; decide) (by rw [c8]; decide) (off := 107) (by rw [c8]; rfl) (by decide) ?_
                refine lv_aload_n (pc := 108) hx hb dX7_countOf_108 rfl (lv_at hl 0 rfl) ?_
                refine lv_iconst (pc := 109) (v := (0 : Int32)) hx hb dX7_countOf_109 (by decide) ?_
                refine kx_iVi (pc := 110) [.int (0 : Int32)] hx hb hml hown hts hK hP hD hS (q7_paidIn h) (cw7_224 hts ⟨Nat.le_of_ble_eq_true rfl, Nat.le_of_ble_eq_true rfl⟩) rfl (by decide) rfl rfl hl.1 rfl (Nat.le_of_ble_eq_true rfl) ⟨Nat.le_of_ble_eq_true rfl, Nat.le_of_ble_eq_true rfl⟩ dX7_countOf_110 (fun r9 u_ H locs hP hD hS h => ?_)
                obtain ⟨hu_, h⟩ := h
                rw [hu_] at hP hD
                exact kx_iret (pc := 113) hx hb hr hlocks hK hP hD hS ⟨rfl, h⟩ dX7_countOf_113
              · have h := h.2 c8
                by_cases c10 : x1 = (7 : Int32)
                · have h := h.1 c10
                  refine lv_tableIn (pc := 1) (tgt := 114) hx hb dX7_countOf_1 (by rw [c10]; decide) (by rw [c10]; decide) (off := 113) (by rw [c10]; rfl) (by decide) ?_
                  refine lv_aload_n (pc := 114) hx hb dX7_countOf_114 rfl (lv_at hl 0 rfl) ?_
                  refine fg7_147 (pc := 115) hx hb hown hts hK hP rfl dX7_countOf_115 ?_
                  exact kx_iret (pc := 118) hx hb hr hlocks hK hP hD hS ⟨rfl, h⟩ dX7_countOf_118
                · have h := h.2 c10
                  by_cases c14 : x1 = (11 : Int32)
                  · have h := h.1 c14
                    refine lv_tableIn (pc := 1) (tgt := 119) hx hb dX7_countOf_1 (by rw [c14]; decide) (by rw [c14]; decide) (off := 118) (by rw [c14]; rfl) (by decide) ?_
                    refine lv_aload_n (pc := 119) hx hb dX7_countOf_119 rfl (lv_at hl 0 rfl) ?_
                    refine kx_iVi (pc := 120) [] hx hb hml hown hts hK hP hD hS (q7_boxes h) (cw7_284 hts ⟨Nat.le_of_ble_eq_true rfl, Nat.le_of_ble_eq_true rfl⟩) rfl (by decide) rfl rfl hl.1 rfl (Nat.le_of_ble_eq_true rfl) ⟨Nat.le_of_ble_eq_true rfl, Nat.le_of_ble_eq_true rfl⟩ dX7_countOf_120 (fun r15 u_ H locs hP hD hS h => ?_)
                    obtain ⟨hu_, h⟩ := h
                    rw [hu_] at hP hD
                    exact kx_iret (pc := 123) hx hb hr hlocks hK hP hD hS ⟨rfl, h⟩ dX7_countOf_123
                  · have h := h.2 c14
                    by_cases c16 : x1 = (8 : Int32)
                    · refine lv_tableIn (pc := 1) (tgt := 124) hx hb dX7_countOf_1 (by rw [c16]; decide) (by rw [c16]; decide) (off := 123) (by rw [c16]; rfl) (by decide) ?_
                      refine lv_aload_n (pc := 124) hx hb dX7_countOf_124 rfl (lv_at hl 0 rfl) ?_
                      refine lv_iload_n (pc := 125) hx hb dX7_countOf_125 rfl (lv_at hl 1 rfl) ?_
                      refine kx_iVi (pc := 126) [.int x1] hx hb hml hown hts hK hP hD hS (q7_thereOf h) (cw7_287 hts ⟨Nat.le_of_ble_eq_true rfl, Nat.le_of_ble_eq_true rfl⟩) rfl (by decide) rfl rfl hl.1 rfl (Nat.le_of_ble_eq_true rfl) ⟨Nat.le_of_ble_eq_true rfl, Nat.le_of_ble_eq_true rfl⟩ dX7_countOf_126 (fun r17 u_ H locs hP hD hS h => ?_)
                      obtain ⟨hu_, h⟩ := h
                      rw [hu_] at hP hD
                      exact kx_iret (pc := 129) hx hb hr hlocks hK hP hD hS ⟨rfl, h⟩ dX7_countOf_129
                    by_cases c18 : x1 = (9 : Int32)
                    · refine lv_tableIn (pc := 1) (tgt := 124) hx hb dX7_countOf_1 (by rw [c18]; decide) (by rw [c18]; decide) (off := 123) (by rw [c18]; rfl) (by decide) ?_
                      refine lv_aload_n (pc := 124) hx hb dX7_countOf_124 rfl (lv_at hl 0 rfl) ?_
                      refine lv_iload_n (pc := 125) hx hb dX7_countOf_125 rfl (lv_at hl 1 rfl) ?_
                      refine kx_iVi (pc := 126) [.int x1] hx hb hml hown hts hK hP hD hS (q7_thereOf h) (cw7_287 hts ⟨Nat.le_of_ble_eq_true rfl, Nat.le_of_ble_eq_true rfl⟩) rfl (by decide) rfl rfl hl.1 rfl (Nat.le_of_ble_eq_true rfl) ⟨Nat.le_of_ble_eq_true rfl, Nat.le_of_ble_eq_true rfl⟩ dX7_countOf_126 (fun r19 u_ H locs hP hD hS h => ?_)
                      obtain ⟨hu_, h⟩ := h
                      rw [hu_] at hP hD
                      exact kx_iret (pc := 129) hx hb hr hlocks hK hP hD hS ⟨rfl, h⟩ dX7_countOf_129
                    by_cases c20 : x1 = (10 : Int32)
                    · refine lv_tableIn (pc := 1) (tgt := 124) hx hb dX7_countOf_1 (by rw [c20]; decide) (by rw [c20]; decide) (off := 123) (by rw [c20]; rfl) (by decide) ?_
                      refine lv_aload_n (pc := 124) hx hb dX7_countOf_124 rfl (lv_at hl 0 rfl) ?_
                      refine lv_iload_n (pc := 125) hx hb dX7_countOf_125 rfl (lv_at hl 1 rfl) ?_
                      refine kx_iVi (pc := 126) [.int x1] hx hb hml hown hts hK hP hD hS (q7_thereOf h) (cw7_287 hts ⟨Nat.le_of_ble_eq_true rfl, Nat.le_of_ble_eq_true rfl⟩) rfl (by decide) rfl rfl hl.1 rfl (Nat.le_of_ble_eq_true rfl) ⟨Nat.le_of_ble_eq_true rfl, Nat.le_of_ble_eq_true rfl⟩ dX7_countOf_126 (fun r21 u_ H locs hP hD hS h => ?_)
                      obtain ⟨hu_, h⟩ := h
                      rw [hu_] at hP hD
                      exact kx_iret (pc := 129) hx hb hr hlocks hK hP hD hS ⟨rfl, h⟩ dX7_countOf_129
                    have tc1 : x1.toInt ≠ 0 := fun q => c1 (Int32.toInt_inj.mp (q.trans (by decide)))
                    have tc2 : x1.toInt ≠ 1 := fun q => c2 (Int32.toInt_inj.mp (q.trans (by decide)))
                    have tc3 : x1.toInt ≠ 2 := fun q => c3 (Int32.toInt_inj.mp (q.trans (by decide)))
                    have tc4 : x1.toInt ≠ 3 := fun q => c4 (Int32.toInt_inj.mp (q.trans (by decide)))
                    have tc6 : x1.toInt ≠ 4 := fun q => c6 (Int32.toInt_inj.mp (q.trans (by decide)))
                    have tc7 : x1.toInt ≠ 5 := fun q => c7 (Int32.toInt_inj.mp (q.trans (by decide)))
                    have tc8 : x1.toInt ≠ 6 := fun q => c8 (Int32.toInt_inj.mp (q.trans (by decide)))
                    have tc10 : x1.toInt ≠ 7 := fun q => c10 (Int32.toInt_inj.mp (q.trans (by decide)))
                    have tc16 : x1.toInt ≠ 8 := fun q => c16 (Int32.toInt_inj.mp (q.trans (by decide)))
                    have tc18 : x1.toInt ≠ 9 := fun q => c18 (Int32.toInt_inj.mp (q.trans (by decide)))
                    have tc20 : x1.toInt ≠ 10 := fun q => c20 (Int32.toInt_inj.mp (q.trans (by decide)))
                    have tc14 : x1.toInt ≠ 11 := fun q => c14 (Int32.toInt_inj.mp (q.trans (by decide)))
                    refine lv_tableOut (pc := 1) (tgt := 124) hx hb dX7_countOf_1 (kx_swd (fun k q1 q2 => by omega)) (by decide) ?_
                    refine lv_aload_n (pc := 124) hx hb dX7_countOf_124 rfl (lv_at hl 0 rfl) ?_
                    refine lv_iload_n (pc := 125) hx hb dX7_countOf_125 rfl (lv_at hl 1 rfl) ?_
                    refine kx_iVi (pc := 126) [.int x1] hx hb hml hown hts hK hP hD hS (q7_thereOf h) (cw7_287 hts ⟨Nat.le_of_ble_eq_true rfl, Nat.le_of_ble_eq_true rfl⟩) rfl (by decide) rfl rfl hl.1 rfl (Nat.le_of_ble_eq_true rfl) ⟨Nat.le_of_ble_eq_true rfl, Nat.le_of_ble_eq_true rfl⟩ dX7_countOf_126 (fun r22 u_ H locs hP hD hS h => ?_)
                    obtain ⟨hu_, h⟩ := h
                    rw [hu_] at hP hD
                    exact kx_iret (pc := 129) hx hb hr hlocks hK hP hD hS ⟨rfl, h⟩ dX7_countOf_129
def p7_count (σ : kx_St) (x1 : Int32) (Q : Int32 → Prop) : Prop := p7_in (x1.toInt64) (0 : Int64) (11 : Int64) (fun r1 => (r1 = 0 → Q (-1 : Int32)) ∧ (¬ r1 = 0 → p7_countOf σ x1 (fun r3 => Q r3)))
set_option maxHeartbeats 4000000 in
theorem q7_count {σ : kx_St} {x1 : Int32} {Q : Int32 → Prop} (h : p7_count σ x1 Q) : Met l yX7_count (Cond.code yX7_count cX7_count 2 (some .int) :: kx_big) rm7_count (va_Pc [.ref (ad 0), .int x1] (kx_Wd D cy 1 ad A σ)) (kx_Qc kx_ci (fun u r => u = σ ∧ Q r) (kx_Wd D cy 1 ad A) A) 0 0 A := by
  refine kx_head (plainFor_of_name (by decide)) (Nat.le_of_ble_eq_true rfl) ?_
  intro p e s m below meth c ls cx hP hD hS hl
  obtain ⟨hx, hb, hr, hlocks, hml, hown, hts, hK⟩ := id cx
  have hl : lv_has ls 2 [(0, .ref (ad 0)), (1, .int x1)] := hl
  refine lv_iload_n (pc := 0) hx hb dX7_count_0 rfl (lv_at hl 1 rfl) ?_
  refine lv_i2l (pc := 1) (v := (x1.toInt64)) hx hb dX7_count_1 rfl ?_
  refine lv_lconst (pc := 2) (v := (0 : Int64)) hx hb dX7_count_2 (by decide) ?_
  refine lv_ldc2 (pc := 3) (v := (11 : Int64)) hx hb hown (hts _ tb_1164) dX7_count_3 ?_
  refine kx_iSi (pc := 6) [.long (x1.toInt64), .long (0 : Int64), .long (11 : Int64)] hx hb hml hown hts hK hP hD hS (q7_in h) (cw7_77 hts ⟨Nat.le_of_ble_eq_true rfl, Nat.le_of_ble_eq_true rfl⟩) rfl hl.1 rfl (Nat.le_of_ble_eq_true rfl) ⟨Nat.le_of_ble_eq_true rfl, Nat.le_of_ble_eq_true rfl⟩ dX7_count_6 (fun r1 u_ H locs hP hD hS h => ?_)
  obtain ⟨hu_, h⟩ := h
  rw [hu_] at hP hD
  refine lv_if_eq (pc := 9) (tgt := 20) hx hb dX7_count_9 (by decide) (fun c2 => ?_) (fun c2 => ?_)
  · have h := h.1 c2
    refine lv_iconst (pc := 20) (v := (-1 : Int32)) hx hb dX7_count_20 (by decide) ?_
    exact kx_iret (pc := 21) hx hb hr hlocks hK hP hD hS ⟨rfl, h⟩ dX7_count_21
  · have h := h.2 c2
    refine lv_aload_n (pc := 12) hx hb dX7_count_12 rfl (lv_at hl 0 rfl) ?_
    refine lv_iload_n (pc := 13) hx hb dX7_count_13 rfl (lv_at hl 1 rfl) ?_
    refine kx_iVi (pc := 14) [.int x1] hx hb hml hown hts hK hP hD hS (q7_countOf h) (cw7_292 hts ⟨Nat.le_of_ble_eq_true rfl, Nat.le_of_ble_eq_true rfl⟩) rfl (by decide) rfl rfl hl.1 rfl (Nat.le_of_ble_eq_true rfl) ⟨Nat.le_of_ble_eq_true rfl, Nat.le_of_ble_eq_true rfl⟩ dX7_count_14 (fun r3 u_ H locs hP hD hS h => ?_)
    obtain ⟨hu_, h⟩ := h
    rw [hu_] at hP hD
    refine lv_goto (pc := 17) (tgt := 21) hx hb dX7_count_17 (by decide) ?_
    exact kx_iret (pc := 21) hx hb hr hlocks hK hP hD hS ⟨rfl, h⟩ dX7_count_21
def p7_finding (σ : kx_St) (Q : Int32 → Prop) : Prop := Q (σ.1 0 14)
set_option maxHeartbeats 4000000 in
theorem q7_finding {σ : kx_St}  {Q : Int32 → Prop} (h : p7_finding σ Q) : Met l yX7_finding (Cond.code yX7_finding cX7_finding 1 (some .int) :: kx_big) rm7_finding (va_Pc [.ref (ad 0)] (kx_Wd D cy 1 ad A σ)) (kx_Qc kx_ci (fun u r => u = σ ∧ Q r) (kx_Wd D cy 1 ad A) A) 0 0 A := by
  refine kx_head (plainFor_of_name (by decide)) (Nat.le_of_ble_eq_true rfl) ?_
  intro p e s m below meth c ls cx hP hD hS hl
  obtain ⟨hx, hb, hr, hlocks, hml, hown, hts, hK⟩ := id cx
  have hl : lv_has ls 1 [(0, .ref (ad 0))] := hl
  refine lv_aload_n (pc := 0) hx hb dX7_finding_0 rfl (lv_at hl 0 rfl) ?_
  refine fg7_68 (pc := 1) hx hb hown hts hK hP rfl dX7_finding_1 ?_
  exact kx_iret (pc := 4) hx hb hr hlocks hK hP hD hS ⟨rfl, h⟩ dX7_finding_4
def p7_findings (σ : kx_St) (x1 : Int32) (Q : Int32 → Prop) : Prop := p7_in (x1.toInt64) (1 : Int64) (5 : Int64) (fun r1 => (r1 = 0 → Q (-1 : Int32)) ∧ (¬ r1 = 0 → vp_in x1 6 ∧ (Q (σ.1 10 x1.toNatClampNeg))))
set_option maxHeartbeats 4000000 in
theorem q7_findings {σ : kx_St} {x1 : Int32} {Q : Int32 → Prop} (h : p7_findings σ x1 Q) : Met l yX7_findings (Cond.code yX7_findings cX7_findings 2 (some .int) :: kx_big) rm7_findings (va_Pc [.ref (ad 0), .int x1] (kx_Wd D cy 1 ad A σ)) (kx_Qc kx_ci (fun u r => u = σ ∧ Q r) (kx_Wd D cy 1 ad A) A) 0 0 A := by
  refine kx_head (plainFor_of_name (by decide)) (Nat.le_of_ble_eq_true rfl) ?_
  intro p e s m below meth c ls cx hP hD hS hl
  obtain ⟨hx, hb, hr, hlocks, hml, hown, hts, hK⟩ := id cx
  have hl : lv_has ls 2 [(0, .ref (ad 0)), (1, .int x1)] := hl
  refine lv_iload_n (pc := 0) hx hb dX7_findings_0 rfl (lv_at hl 1 rfl) ?_
  refine lv_i2l (pc := 1) (v := (x1.toInt64)) hx hb dX7_findings_1 rfl ?_
  refine lv_lconst (pc := 2) (v := (1 : Int64)) hx hb dX7_findings_2 (by decide) ?_
  refine lv_ldc2 (pc := 3) (v := (5 : Int64)) hx hb hown (hts _ tb_816) dX7_findings_3 ?_
  refine kx_iSi (pc := 6) [.long (x1.toInt64), .long (1 : Int64), .long (5 : Int64)] hx hb hml hown hts hK hP hD hS (q7_in h) (cw7_77 hts ⟨Nat.le_of_ble_eq_true rfl, Nat.le_of_ble_eq_true rfl⟩) rfl hl.1 rfl (Nat.le_of_ble_eq_true rfl) ⟨Nat.le_of_ble_eq_true rfl, Nat.le_of_ble_eq_true rfl⟩ dX7_findings_6 (fun r1 u_ H locs hP hD hS h => ?_)
  obtain ⟨hu_, h⟩ := h
  rw [hu_] at hP hD
  refine lv_if_eq (pc := 9) (tgt := 21) hx hb dX7_findings_9 (by decide) (fun c2 => ?_) (fun c2 => ?_)
  · have h := h.1 c2
    refine lv_iconst (pc := 21) (v := (-1 : Int32)) hx hb dX7_findings_21 (by decide) ?_
    exact kx_iret (pc := 22) hx hb hr hlocks hK hP hD hS ⟨rfl, h⟩ dX7_findings_22
  · have h := h.2 c2
    refine lv_aload_n (pc := 12) hx hb dX7_findings_12 rfl (lv_at hl 0 rfl) ?_
    refine fg7_41 (pc := 13) (b := 10) hx hb hown hts hK hP rfl rfl dX7_findings_13 ?_
    refine lv_iload_n (pc := 16) hx hb dX7_findings_16 rfl (lv_at hl 1 rfl) ?_
    obtain ⟨g3, h⟩ := h
    refine kx_iald (pc := 17) hx hb hK hP rfl g3 dX7_findings_17 ?_
    refine lv_goto (pc := 18) (tgt := 22) hx hb dX7_findings_18 (by decide) ?_
    exact kx_iret (pc := 22) hx hb hr hlocks hK hP hD hS ⟨rfl, h⟩ dX7_findings_22
def p7_digest_L155 : Nat → kx_St → Int64 → Int32 → Int32 → (Int64 → Int32 → Prop) → (Int64 → Prop) → Prop
  | 0, _, _, _, _, _, _ => False
  | n + 1, σ, x1, x3, x4, k132, Q => vp_in x3 6 ∧ (((σ.1 6 x3.toNatClampNeg) ≤ x4 → k132 x1 (x3 + (1 : Int32))) ∧ (¬ (σ.1 6 x3.toNatClampNeg) ≤ x4 → vp_in (((40 : Int32) * x3) + x4) 240 ∧ (p7_digest_L155 n σ (((31 : Int64) * x1) + ((σ.1 7 (((40 : Int32) * x3) + x4).toNatClampNeg).toInt64)) x3 (x4 + (1 : Int32)) k132 Q)))
set_option maxHeartbeats 4000000 in
theorem w7_digest_L155 {σ : kx_St} {k132 : Int64 → Int32 → Prop} {Q : Int64 → Prop} (cx : kx_Cx p s m args meth c D cy RX7 cX7_digest 5 (some .long)) (hk132 : ∀ (x1 : Int64) (x3 : Int32) (H : Heap) (locs : List Loc) (ls : Array Slot), k132 x1 x3 → va_P D vwCl (kx_ws cy 1 ad σ) H → va_D A (kx_ws cy 1 ad σ) → va_S A s.heap H locs → lv_has ls 5 [(0, .ref (ad 0)), (1, .long x1), (3, .int x3)] → W p l e rm7_digest s m args below meth c H locs 0 0 (MQ below (kx_Qc kx_cl (fun u r => u = σ ∧ Q r) (kx_Wd D cy 1 ad A) A) args s 0 0 A) (F0 m 132 ls [])) : ∀ (n : Nat) (x1 : Int64) (x3 : Int32) (x4 : Int32) (H : Heap) (locs : List Loc) (ls : Array Slot), p7_digest_L155 n σ x1 x3 x4 k132 Q → va_P D vwCl (kx_ws cy 1 ad σ) H → va_D A (kx_ws cy 1 ad σ) → va_S A s.heap H locs → lv_has ls 5 [(0, .ref (ad 0)), (1, .long x1), (3, .int x3), (4, .int x4)] → W p l e rm7_digest s m args below meth c H locs 0 0 (MQ below (kx_Qc kx_cl (fun u r => u = σ ∧ Q r) (kx_Wd D cy 1 ad A) A) args s 0 0 A) (F0 m 155 ls []) := by
  obtain ⟨hx, hb, hr, hlocks, hml, hown, hts, hK⟩ := id cx
  intro n
  induction n with
  | zero => intro _ _ _ _ _ _ h; exact False.elim h
  | succ n ih =>
    intro x1 x3 x4 H locs ls h hP hD hS hl
    refine lv_iload (pc := 155) hx hb dX7_digest_155 (lv_at hl 3 rfl) ?_
    refine lv_aload_n (pc := 157) hx hb dX7_digest_157 rfl (lv_at hl 0 rfl) ?_
    refine fg7_25 (pc := 158) (b := 6) hx hb hown hts hK hP rfl rfl dX7_digest_158 ?_
    refine lv_iload_n (pc := 161) hx hb dX7_digest_161 rfl (lv_at hl 2 rfl) ?_
    obtain ⟨g1, h⟩ := h
    refine kx_iald (pc := 162) hx hb hK hP rfl g1 dX7_digest_162 ?_
    refine lv_icmp_ge (pc := 163) (tgt := 192) hx hb dX7_digest_163 (by decide) (fun c2 => ?_) (fun c2 => ?_)
    · have h := h.1 c2
      refine lv_iinc (pc := 192) (v := (x3 + (1 : Int32))) (lv' := [(3, .int (x3 + (1 : Int32))), (0, .ref (ad 0)), (1, .long x1), (4, .int x4)]) hx hb dX7_digest_192 hl (k := 2) rfl rfl (by decide) rfl (fun ls hl => ?_)
      refine lv_goto (pc := 195) (tgt := 132) hx hb dX7_digest_195 (by decide) ?_
      exact hk132 _ _ _ _ _ h hP hD hS (lv_sub hl [1, 2, 0] rfl)
    · have h := h.2 c2
      refine lv_ldc2 (pc := 166) (v := (31 : Int64)) hx hb hown (hts _ tb_1190) dX7_digest_166 ?_
      refine lv_lload_n (pc := 169) hx hb dX7_digest_169 rfl (lv_at hl 1 rfl) ?_
      refine lv_lmul (pc := 170) hx hb dX7_digest_170 ?_
      refine lv_aload_n (pc := 171) hx hb dX7_digest_171 rfl (lv_at hl 0 rfl) ?_
      refine fg7_28 (pc := 172) (b := 7) hx hb hown hts hK hP rfl rfl dX7_digest_172 ?_
      refine lv_bipush (pc := 175) (v := (40 : Int32)) hx hb dX7_digest_175 (by decide) ?_
      refine lv_iload_n (pc := 177) hx hb dX7_digest_177 rfl (lv_at hl 2 rfl) ?_
      refine lv_imul (pc := 178) hx hb dX7_digest_178 ?_
      refine lv_iload (pc := 179) hx hb dX7_digest_179 (lv_at hl 3 rfl) ?_
      refine lv_iadd (pc := 181) hx hb dX7_digest_181 ?_
      obtain ⟨g3, h⟩ := h
      refine kx_iald (pc := 182) hx hb hK hP rfl g3 dX7_digest_182 ?_
      refine lv_i2l (pc := 183) (v := ((σ.1 7 (((40 : Int32) * x3) + x4).toNatClampNeg).toInt64)) hx hb dX7_digest_183 rfl ?_
      refine lv_ladd (pc := 184) hx hb dX7_digest_184 ?_
      refine lv_lstore_n (pc := 185) (lv' := [(1, .long (((31 : Int64) * x1) + ((σ.1 7 (((40 : Int32) * x3) + x4).toNatClampNeg).toInt64))), (0, .ref (ad 0)), (3, .int x3), (4, .int x4)]) hx hb dX7_digest_185 rfl hl (by decide) rfl (fun ls hl => ?_)
      refine lv_iinc (pc := 186) (v := (x4 + (1 : Int32))) (lv' := [(4, .int (x4 + (1 : Int32))), (1, .long (((31 : Int64) * x1) + ((σ.1 7 (((40 : Int32) * x3) + x4).toNatClampNeg).toInt64))), (0, .ref (ad 0)), (3, .int x3)]) hx hb dX7_digest_186 hl (k := 3) rfl rfl (by decide) rfl (fun ls hl => ?_)
      refine lv_goto (pc := 189) (tgt := 155) hx hb dX7_digest_189 (by decide) ?_
      exact ih _ _ _ _ _ _ h hP hD hS (lv_sub hl [2, 1, 3, 0] rfl)
def p7_digest_L222 : Nat → kx_St → Int64 → Int32 → Int32 → (Int64 → Int32 → Prop) → (Int64 → Prop) → Prop
  | 0, _, _, _, _, _, _ => False
  | n + 1, σ, x1, x3, x4, k200, Q => vp_in x3 4 ∧ (((σ.1 8 x3.toNatClampNeg) ≤ x4 → k200 x1 (x3 + (1 : Int32))) ∧ (¬ (σ.1 8 x3.toNatClampNeg) ≤ x4 → vp_in (((60 : Int32) * x3) + x4) 240 ∧ (p7_digest_L222 n σ (((31 : Int64) * x1) + ((σ.1 9 (((60 : Int32) * x3) + x4).toNatClampNeg).toInt64)) x3 (x4 + (1 : Int32)) k200 Q)))
set_option maxHeartbeats 4000000 in
theorem w7_digest_L222 {σ : kx_St} {k200 : Int64 → Int32 → Prop} {Q : Int64 → Prop} (cx : kx_Cx p s m args meth c D cy RX7 cX7_digest 5 (some .long)) (hk200 : ∀ (x1 : Int64) (x3 : Int32) (H : Heap) (locs : List Loc) (ls : Array Slot), k200 x1 x3 → va_P D vwCl (kx_ws cy 1 ad σ) H → va_D A (kx_ws cy 1 ad σ) → va_S A s.heap H locs → lv_has ls 5 [(0, .ref (ad 0)), (1, .long x1), (3, .int x3)] → W p l e rm7_digest s m args below meth c H locs 0 0 (MQ below (kx_Qc kx_cl (fun u r => u = σ ∧ Q r) (kx_Wd D cy 1 ad A) A) args s 0 0 A) (F0 m 200 ls [])) : ∀ (n : Nat) (x1 : Int64) (x3 : Int32) (x4 : Int32) (H : Heap) (locs : List Loc) (ls : Array Slot), p7_digest_L222 n σ x1 x3 x4 k200 Q → va_P D vwCl (kx_ws cy 1 ad σ) H → va_D A (kx_ws cy 1 ad σ) → va_S A s.heap H locs → lv_has ls 5 [(0, .ref (ad 0)), (1, .long x1), (3, .int x3), (4, .int x4)] → W p l e rm7_digest s m args below meth c H locs 0 0 (MQ below (kx_Qc kx_cl (fun u r => u = σ ∧ Q r) (kx_Wd D cy 1 ad A) A) args s 0 0 A) (F0 m 222 ls []) := by
  obtain ⟨hx, hb, hr, hlocks, hml, hown, hts, hK⟩ := id cx
  intro n
  induction n with
  | zero => intro _ _ _ _ _ _ h; exact False.elim h
  | succ n ih =>
    intro x1 x3 x4 H locs ls h hP hD hS hl
    refine lv_iload (pc := 222) hx hb dX7_digest_222 (lv_at hl 3 rfl) ?_
    refine lv_aload_n (pc := 224) hx hb dX7_digest_224 rfl (lv_at hl 0 rfl) ?_
    refine fg7_31 (pc := 225) (b := 8) hx hb hown hts hK hP rfl rfl dX7_digest_225 ?_
    refine lv_iload_n (pc := 228) hx hb dX7_digest_228 rfl (lv_at hl 2 rfl) ?_
    obtain ⟨g1, h⟩ := h
    refine kx_iald (pc := 229) hx hb hK hP rfl g1 dX7_digest_229 ?_
    refine lv_icmp_ge (pc := 230) (tgt := 259) hx hb dX7_digest_230 (by decide) (fun c2 => ?_) (fun c2 => ?_)
    · have h := h.1 c2
      refine lv_iinc (pc := 259) (v := (x3 + (1 : Int32))) (lv' := [(3, .int (x3 + (1 : Int32))), (0, .ref (ad 0)), (1, .long x1), (4, .int x4)]) hx hb dX7_digest_259 hl (k := 2) rfl rfl (by decide) rfl (fun ls hl => ?_)
      refine lv_goto (pc := 262) (tgt := 200) hx hb dX7_digest_262 (by decide) ?_
      exact hk200 _ _ _ _ _ h hP hD hS (lv_sub hl [1, 2, 0] rfl)
    · have h := h.2 c2
      refine lv_ldc2 (pc := 233) (v := (31 : Int64)) hx hb hown (hts _ tb_1190) dX7_digest_233 ?_
      refine lv_lload_n (pc := 236) hx hb dX7_digest_236 rfl (lv_at hl 1 rfl) ?_
      refine lv_lmul (pc := 237) hx hb dX7_digest_237 ?_
      refine lv_aload_n (pc := 238) hx hb dX7_digest_238 rfl (lv_at hl 0 rfl) ?_
      refine fg7_34 (pc := 239) (b := 9) hx hb hown hts hK hP rfl rfl dX7_digest_239 ?_
      refine lv_bipush (pc := 242) (v := (60 : Int32)) hx hb dX7_digest_242 (by decide) ?_
      refine lv_iload_n (pc := 244) hx hb dX7_digest_244 rfl (lv_at hl 2 rfl) ?_
      refine lv_imul (pc := 245) hx hb dX7_digest_245 ?_
      refine lv_iload (pc := 246) hx hb dX7_digest_246 (lv_at hl 3 rfl) ?_
      refine lv_iadd (pc := 248) hx hb dX7_digest_248 ?_
      obtain ⟨g3, h⟩ := h
      refine kx_iald (pc := 249) hx hb hK hP rfl g3 dX7_digest_249 ?_
      refine lv_i2l (pc := 250) (v := ((σ.1 9 (((60 : Int32) * x3) + x4).toNatClampNeg).toInt64)) hx hb dX7_digest_250 rfl ?_
      refine lv_ladd (pc := 251) hx hb dX7_digest_251 ?_
      refine lv_lstore_n (pc := 252) (lv' := [(1, .long (((31 : Int64) * x1) + ((σ.1 9 (((60 : Int32) * x3) + x4).toNatClampNeg).toInt64))), (0, .ref (ad 0)), (3, .int x3), (4, .int x4)]) hx hb dX7_digest_252 rfl hl (by decide) rfl (fun ls hl => ?_)
      refine lv_iinc (pc := 253) (v := (x4 + (1 : Int32))) (lv' := [(4, .int (x4 + (1 : Int32))), (1, .long (((31 : Int64) * x1) + ((σ.1 9 (((60 : Int32) * x3) + x4).toNatClampNeg).toInt64))), (0, .ref (ad 0)), (3, .int x3)]) hx hb dX7_digest_253 hl (k := 3) rfl rfl (by decide) rfl (fun ls hl => ?_)
      refine lv_goto (pc := 256) (tgt := 222) hx hb dX7_digest_256 (by decide) ?_
      exact ih _ _ _ _ _ _ h hP hD hS (lv_sub hl [2, 1, 3, 0] rfl)
def p7_digest_L200 : Nat → kx_St → Int64 → Int32 → (Int64 → Prop) → Prop
  | 0, _, _, _, _ => False
  | n + 1, σ, x1, x3, Q => ((4 : Int32) ≤ x3 → Q x1) ∧ (¬ (4 : Int32) ≤ x3 → vp_in x3 4 ∧ (∃ m222, p7_digest_L222 m222 σ (((31 : Int64) * x1) + ((σ.1 8 x3.toNatClampNeg).toInt64)) x3 (0 : Int32) (fun x1 x3 => p7_digest_L200 n σ x1 x3 Q) Q))
set_option maxHeartbeats 4000000 in
theorem w7_digest_L200 {σ : kx_St}  {Q : Int64 → Prop} (cx : kx_Cx p s m args meth c D cy RX7 cX7_digest 5 (some .long))  : ∀ (n : Nat) (x1 : Int64) (x3 : Int32) (H : Heap) (locs : List Loc) (ls : Array Slot), p7_digest_L200 n σ x1 x3 Q → va_P D vwCl (kx_ws cy 1 ad σ) H → va_D A (kx_ws cy 1 ad σ) → va_S A s.heap H locs → lv_has ls 5 [(0, .ref (ad 0)), (1, .long x1), (3, .int x3)] → W p l e rm7_digest s m args below meth c H locs 0 0 (MQ below (kx_Qc kx_cl (fun u r => u = σ ∧ Q r) (kx_Wd D cy 1 ad A) A) args s 0 0 A) (F0 m 200 ls []) := by
  obtain ⟨hx, hb, hr, hlocks, hml, hown, hts, hK⟩ := id cx
  intro n
  induction n with
  | zero => intro _ _ _ _ _ h; exact False.elim h
  | succ n ih =>
    intro x1 x3 H locs ls h hP hD hS hl
    refine lv_iload_n (pc := 200) hx hb dX7_digest_200 rfl (lv_at hl 2 rfl) ?_
    refine lv_iconst (pc := 201) (v := (4 : Int32)) hx hb dX7_digest_201 (by decide) ?_
    refine lv_icmp_ge (pc := 202) (tgt := 265) hx hb dX7_digest_202 (by decide) (fun c1 => ?_) (fun c1 => ?_)
    · have h := h.1 c1
      refine lv_lload_n (pc := 265) hx hb dX7_digest_265 rfl (lv_at hl 1 rfl) ?_
      exact kx_lret (pc := 266) hx hb hr hlocks hK hP hD hS ⟨rfl, h⟩ dX7_digest_266
    · have h := h.2 c1
      refine lv_ldc2 (pc := 205) (v := (31 : Int64)) hx hb hown (hts _ tb_1190) dX7_digest_205 ?_
      refine lv_lload_n (pc := 208) hx hb dX7_digest_208 rfl (lv_at hl 1 rfl) ?_
      refine lv_lmul (pc := 209) hx hb dX7_digest_209 ?_
      refine lv_aload_n (pc := 210) hx hb dX7_digest_210 rfl (lv_at hl 0 rfl) ?_
      refine fg7_31 (pc := 211) (b := 8) hx hb hown hts hK hP rfl rfl dX7_digest_211 ?_
      refine lv_iload_n (pc := 214) hx hb dX7_digest_214 rfl (lv_at hl 2 rfl) ?_
      obtain ⟨g2, h⟩ := h
      refine kx_iald (pc := 215) hx hb hK hP rfl g2 dX7_digest_215 ?_
      refine lv_i2l (pc := 216) (v := ((σ.1 8 x3.toNatClampNeg).toInt64)) hx hb dX7_digest_216 rfl ?_
      refine lv_ladd (pc := 217) hx hb dX7_digest_217 ?_
      refine lv_lstore_n (pc := 218) (lv' := [(1, .long (((31 : Int64) * x1) + ((σ.1 8 x3.toNatClampNeg).toInt64))), (0, .ref (ad 0)), (3, .int x3)]) hx hb dX7_digest_218 rfl hl (by decide) rfl (fun ls hl => ?_)
      refine lv_iconst (pc := 219) (v := (0 : Int32)) hx hb dX7_digest_219 (by decide) ?_
      refine lv_istore (pc := 220) (lv' := [(4, .int (0 : Int32)), (1, .long (((31 : Int64) * x1) + ((σ.1 8 x3.toNatClampNeg).toInt64))), (0, .ref (ad 0)), (3, .int x3)]) hx hb dX7_digest_220 hl (by decide) rfl (fun ls hl => ?_)
      have hc3 : ∀ (x1 : Int64) (x3 : Int32) (H : Heap) (locs : List Loc) (ls : Array Slot), (fun x1 x3 => p7_digest_L200 n σ x1 x3 Q) x1 x3 → va_P D vwCl (kx_ws cy 1 ad σ) H → va_D A (kx_ws cy 1 ad σ) → va_S A s.heap H locs → lv_has ls 5 [(0, .ref (ad 0)), (1, .long x1), (3, .int x3)] → W p l e rm7_digest s m args below meth c H locs 0 0 (MQ below (kx_Qc kx_cl (fun u r => u = σ ∧ Q r) (kx_Wd D cy 1 ad A) A) args s 0 0 A) (F0 m 200 ls []) := fun x1 x3 H locs ls h hP hD hS hl => ih _ _ _ _ _ h hP hD hS hl
      obtain ⟨n0, h⟩ := h
      exact w7_digest_L222 cx hc3 n0 _ _ _ _ _ _ h hP hD hS (lv_sub hl [2, 1, 3, 0] rfl)
def p7_digest_L132 : Nat → kx_St → Int64 → Int32 → (Int64 → Prop) → Prop
  | 0, _, _, _, _ => False
  | n + 1, σ, x1, x3, Q => ((6 : Int32) ≤ x3 → ∃ m200, p7_digest_L200 m200 σ x1 (0 : Int32) Q) ∧ (¬ (6 : Int32) ≤ x3 → vp_in x3 6 ∧ (∃ m155, p7_digest_L155 m155 σ (((31 : Int64) * x1) + ((σ.1 6 x3.toNatClampNeg).toInt64)) x3 (0 : Int32) (fun x1 x3 => p7_digest_L132 n σ x1 x3 Q) Q))
set_option maxHeartbeats 4000000 in
theorem w7_digest_L132 {σ : kx_St}  {Q : Int64 → Prop} (cx : kx_Cx p s m args meth c D cy RX7 cX7_digest 5 (some .long))  : ∀ (n : Nat) (x1 : Int64) (x3 : Int32) (H : Heap) (locs : List Loc) (ls : Array Slot), p7_digest_L132 n σ x1 x3 Q → va_P D vwCl (kx_ws cy 1 ad σ) H → va_D A (kx_ws cy 1 ad σ) → va_S A s.heap H locs → lv_has ls 5 [(0, .ref (ad 0)), (1, .long x1), (3, .int x3)] → W p l e rm7_digest s m args below meth c H locs 0 0 (MQ below (kx_Qc kx_cl (fun u r => u = σ ∧ Q r) (kx_Wd D cy 1 ad A) A) args s 0 0 A) (F0 m 132 ls []) := by
  obtain ⟨hx, hb, hr, hlocks, hml, hown, hts, hK⟩ := id cx
  intro n
  induction n with
  | zero => intro _ _ _ _ _ h; exact False.elim h
  | succ n ih =>
    intro x1 x3 H locs ls h hP hD hS hl
    refine lv_iload_n (pc := 132) hx hb dX7_digest_132 rfl (lv_at hl 2 rfl) ?_
    refine lv_bipush (pc := 133) (v := (6 : Int32)) hx hb dX7_digest_133 (by decide) ?_
    refine lv_icmp_ge (pc := 135) (tgt := 198) hx hb dX7_digest_135 (by decide) (fun c1 => ?_) (fun c1 => ?_)
    · have h := h.1 c1
      refine lv_iconst (pc := 198) (v := (0 : Int32)) hx hb dX7_digest_198 (by decide) ?_
      refine lv_istore_n (pc := 199) (lv' := [(3, .int (0 : Int32)), (0, .ref (ad 0)), (1, .long x1)]) hx hb dX7_digest_199 rfl hl (by decide) rfl (fun ls hl => ?_)
      obtain ⟨n0, h⟩ := h
      exact w7_digest_L200 cx  n0 _ _ _ _ _ h hP hD hS (lv_sub hl [1, 2, 0] rfl)
    · have h := h.2 c1
      refine lv_ldc2 (pc := 138) (v := (31 : Int64)) hx hb hown (hts _ tb_1190) dX7_digest_138 ?_
      refine lv_lload_n (pc := 141) hx hb dX7_digest_141 rfl (lv_at hl 1 rfl) ?_
      refine lv_lmul (pc := 142) hx hb dX7_digest_142 ?_
      refine lv_aload_n (pc := 143) hx hb dX7_digest_143 rfl (lv_at hl 0 rfl) ?_
      refine fg7_25 (pc := 144) (b := 6) hx hb hown hts hK hP rfl rfl dX7_digest_144 ?_
      refine lv_iload_n (pc := 147) hx hb dX7_digest_147 rfl (lv_at hl 2 rfl) ?_
      obtain ⟨g2, h⟩ := h
      refine kx_iald (pc := 148) hx hb hK hP rfl g2 dX7_digest_148 ?_
      refine lv_i2l (pc := 149) (v := ((σ.1 6 x3.toNatClampNeg).toInt64)) hx hb dX7_digest_149 rfl ?_
      refine lv_ladd (pc := 150) hx hb dX7_digest_150 ?_
      refine lv_lstore_n (pc := 151) (lv' := [(1, .long (((31 : Int64) * x1) + ((σ.1 6 x3.toNatClampNeg).toInt64))), (0, .ref (ad 0)), (3, .int x3)]) hx hb dX7_digest_151 rfl hl (by decide) rfl (fun ls hl => ?_)
      refine lv_iconst (pc := 152) (v := (0 : Int32)) hx hb dX7_digest_152 (by decide) ?_
      refine lv_istore (pc := 153) (lv' := [(4, .int (0 : Int32)), (1, .long (((31 : Int64) * x1) + ((σ.1 6 x3.toNatClampNeg).toInt64))), (0, .ref (ad 0)), (3, .int x3)]) hx hb dX7_digest_153 hl (by decide) rfl (fun ls hl => ?_)
      have hc3 : ∀ (x1 : Int64) (x3 : Int32) (H : Heap) (locs : List Loc) (ls : Array Slot), (fun x1 x3 => p7_digest_L132 n σ x1 x3 Q) x1 x3 → va_P D vwCl (kx_ws cy 1 ad σ) H → va_D A (kx_ws cy 1 ad σ) → va_S A s.heap H locs → lv_has ls 5 [(0, .ref (ad 0)), (1, .long x1), (3, .int x3)] → W p l e rm7_digest s m args below meth c H locs 0 0 (MQ below (kx_Qc kx_cl (fun u r => u = σ ∧ Q r) (kx_Wd D cy 1 ad A) A) args s 0 0 A) (F0 m 132 ls []) := fun x1 x3 H locs ls h hP hD hS hl => ih _ _ _ _ _ h hP hD hS hl
      obtain ⟨n0, h⟩ := h
      exact w7_digest_L155 cx hc3 n0 _ _ _ _ _ _ h hP hD hS (lv_sub hl [2, 1, 3, 0] rfl)
def p7_digest_L99 : Nat → kx_St → Int64 → Int32 → (Int64 → Prop) → Prop
  | 0, _, _, _, _ => False
  | n + 1, σ, x1, x3, Q => ((4 : Int32) ≤ x3 → ∃ m132, p7_digest_L132 m132 σ x1 (0 : Int32) Q) ∧ (¬ (4 : Int32) ≤ x3 → vp_in (((616 : Int32) * x3) + (0 : Int32)) 2480 ∧ (p7_digest_L99 n σ (((31 : Int64) * x1) + ((σ.1 1 (((616 : Int32) * x3) + (0 : Int32)).toNatClampNeg).toInt64)) (x3 + (1 : Int32)) Q))
set_option maxHeartbeats 4000000 in
theorem w7_digest_L99 {σ : kx_St}  {Q : Int64 → Prop} (cx : kx_Cx p s m args meth c D cy RX7 cX7_digest 5 (some .long))  : ∀ (n : Nat) (x1 : Int64) (x3 : Int32) (H : Heap) (locs : List Loc) (ls : Array Slot), p7_digest_L99 n σ x1 x3 Q → va_P D vwCl (kx_ws cy 1 ad σ) H → va_D A (kx_ws cy 1 ad σ) → va_S A s.heap H locs → lv_has ls 5 [(0, .ref (ad 0)), (1, .long x1), (3, .int x3)] → W p l e rm7_digest s m args below meth c H locs 0 0 (MQ below (kx_Qc kx_cl (fun u r => u = σ ∧ Q r) (kx_Wd D cy 1 ad A) A) args s 0 0 A) (F0 m 99 ls []) := by
  obtain ⟨hx, hb, hr, hlocks, hml, hown, hts, hK⟩ := id cx
  intro n
  induction n with
  | zero => intro _ _ _ _ _ h; exact False.elim h
  | succ n ih =>
    intro x1 x3 H locs ls h hP hD hS hl
    refine lv_iload_n (pc := 99) hx hb dX7_digest_99 rfl (lv_at hl 2 rfl) ?_
    refine lv_iconst (pc := 100) (v := (4 : Int32)) hx hb dX7_digest_100 (by decide) ?_
    refine lv_icmp_ge (pc := 101) (tgt := 130) hx hb dX7_digest_101 (by decide) (fun c1 => ?_) (fun c1 => ?_)
    · have h := h.1 c1
      refine lv_iconst (pc := 130) (v := (0 : Int32)) hx hb dX7_digest_130 (by decide) ?_
      refine lv_istore_n (pc := 131) (lv' := [(3, .int (0 : Int32)), (0, .ref (ad 0)), (1, .long x1)]) hx hb dX7_digest_131 rfl hl (by decide) rfl (fun ls hl => ?_)
      obtain ⟨n0, h⟩ := h
      exact w7_digest_L132 cx  n0 _ _ _ _ _ h hP hD hS (lv_sub hl [1, 2, 0] rfl)
    · have h := h.2 c1
      refine lv_ldc2 (pc := 104) (v := (31 : Int64)) hx hb hown (hts _ tb_1190) dX7_digest_104 ?_
      refine lv_lload_n (pc := 107) hx hb dX7_digest_107 rfl (lv_at hl 1 rfl) ?_
      refine lv_lmul (pc := 108) hx hb dX7_digest_108 ?_
      refine lv_aload_n (pc := 109) hx hb dX7_digest_109 rfl (lv_at hl 0 rfl) ?_
      refine fg7_7 (pc := 110) (b := 1) hx hb hown hts hK hP rfl rfl dX7_digest_110 ?_
      refine lv_sipush (pc := 113) (v := (616 : Int32)) hx hb dX7_digest_113 (by decide) ?_
      refine lv_iload_n (pc := 116) hx hb dX7_digest_116 rfl (lv_at hl 2 rfl) ?_
      refine lv_imul (pc := 117) hx hb dX7_digest_117 ?_
      refine lv_iconst (pc := 118) (v := (0 : Int32)) hx hb dX7_digest_118 (by decide) ?_
      refine lv_iadd (pc := 119) hx hb dX7_digest_119 ?_
      obtain ⟨g2, h⟩ := h
      refine kx_iald (pc := 120) hx hb hK hP rfl g2 dX7_digest_120 ?_
      refine lv_i2l (pc := 121) (v := ((σ.1 1 (((616 : Int32) * x3) + (0 : Int32)).toNatClampNeg).toInt64)) hx hb dX7_digest_121 rfl ?_
      refine lv_ladd (pc := 122) hx hb dX7_digest_122 ?_
      refine lv_lstore_n (pc := 123) (lv' := [(1, .long (((31 : Int64) * x1) + ((σ.1 1 (((616 : Int32) * x3) + (0 : Int32)).toNatClampNeg).toInt64))), (0, .ref (ad 0)), (3, .int x3)]) hx hb dX7_digest_123 rfl hl (by decide) rfl (fun ls hl => ?_)
      refine lv_iinc (pc := 124) (v := (x3 + (1 : Int32))) (lv' := [(3, .int (x3 + (1 : Int32))), (1, .long (((31 : Int64) * x1) + ((σ.1 1 (((616 : Int32) * x3) + (0 : Int32)).toNatClampNeg).toInt64))), (0, .ref (ad 0))]) hx hb dX7_digest_124 hl (k := 2) rfl rfl (by decide) rfl (fun ls hl => ?_)
      refine lv_goto (pc := 127) (tgt := 99) hx hb dX7_digest_127 (by decide) ?_
      exact ih _ _ _ _ _ h hP hD hS (lv_sub hl [2, 1, 0] rfl)
def p7_digest_L60 : Nat → kx_St → Int64 → Int32 → (Int64 → Prop) → Prop
  | 0, _, _, _, _ => False
  | n + 1, σ, x1, x3, Q => (((7 : Int32) * (σ.1 0 3)) ≤ x3 → ∃ m99, p7_digest_L99 m99 σ x1 (1 : Int32) Q) ∧ (¬ ((7 : Int32) * (σ.1 0 3)) ≤ x3 → p7_toldOf σ (x3 / (7 : Int32)) (x3 - x3 / (7 : Int32) * (7 : Int32)) (fun r2 => p7_digest_L60 n σ (((31 : Int64) * x1) + (r2.toInt64)) (x3 + (1 : Int32)) Q))
set_option maxHeartbeats 4000000 in
theorem w7_digest_L60 {σ : kx_St}  {Q : Int64 → Prop} (cx : kx_Cx p s m args meth c D cy RX7 cX7_digest 5 (some .long))  : ∀ (n : Nat) (x1 : Int64) (x3 : Int32) (H : Heap) (locs : List Loc) (ls : Array Slot), p7_digest_L60 n σ x1 x3 Q → va_P D vwCl (kx_ws cy 1 ad σ) H → va_D A (kx_ws cy 1 ad σ) → va_S A s.heap H locs → lv_has ls 5 [(0, .ref (ad 0)), (1, .long x1), (3, .int x3)] → W p l e rm7_digest s m args below meth c H locs 0 0 (MQ below (kx_Qc kx_cl (fun u r => u = σ ∧ Q r) (kx_Wd D cy 1 ad A) A) args s 0 0 A) (F0 m 60 ls []) := by
  obtain ⟨hx, hb, hr, hlocks, hml, hown, hts, hK⟩ := id cx
  intro n
  induction n with
  | zero => intro _ _ _ _ _ h; exact False.elim h
  | succ n ih =>
    intro x1 x3 H locs ls h hP hD hS hl
    refine lv_iload_n (pc := 60) hx hb dX7_digest_60 rfl (lv_at hl 2 rfl) ?_
    refine lv_bipush (pc := 61) (v := (7 : Int32)) hx hb dX7_digest_61 (by decide) ?_
    refine lv_aload_n (pc := 63) hx hb dX7_digest_63 rfl (lv_at hl 0 rfl) ?_
    refine fg7_150 (pc := 64) hx hb hown hts hK hP rfl dX7_digest_64 ?_
    refine lv_imul (pc := 67) hx hb dX7_digest_67 ?_
    refine lv_icmp_ge (pc := 68) (tgt := 97) hx hb dX7_digest_68 (by decide) (fun c1 => ?_) (fun c1 => ?_)
    · have h := h.1 c1
      refine lv_iconst (pc := 97) (v := (1 : Int32)) hx hb dX7_digest_97 (by decide) ?_
      refine lv_istore_n (pc := 98) (lv' := [(3, .int (1 : Int32)), (0, .ref (ad 0)), (1, .long x1)]) hx hb dX7_digest_98 rfl hl (by decide) rfl (fun ls hl => ?_)
      obtain ⟨n0, h⟩ := h
      exact w7_digest_L99 cx  n0 _ _ _ _ _ h hP hD hS (lv_sub hl [1, 2, 0] rfl)
    · have h := h.2 c1
      refine lv_ldc2 (pc := 71) (v := (31 : Int64)) hx hb hown (hts _ tb_1190) dX7_digest_71 ?_
      refine lv_lload_n (pc := 74) hx hb dX7_digest_74 rfl (lv_at hl 1 rfl) ?_
      refine lv_lmul (pc := 75) hx hb dX7_digest_75 ?_
      refine lv_aload_n (pc := 76) hx hb dX7_digest_76 rfl (lv_at hl 0 rfl) ?_
      refine lv_iload_n (pc := 77) hx hb dX7_digest_77 rfl (lv_at hl 2 rfl) ?_
      refine lv_bipush (pc := 78) (v := (7 : Int32)) hx hb dX7_digest_78 (by decide) ?_
      refine lv_idiv (pc := 80) hx hb dX7_digest_80 (by decide) ?_
      refine lv_iload_n (pc := 81) hx hb dX7_digest_81 rfl (lv_at hl 2 rfl) ?_
      refine lv_bipush (pc := 82) (v := (7 : Int32)) hx hb dX7_digest_82 (by decide) ?_
      refine lv_irem (pc := 84) hx hb dX7_digest_84 (by decide) ?_
      refine kx_iVi (pc := 85) [.int (x3 / (7 : Int32)), .int (x3 - x3 / (7 : Int32) * (7 : Int32))] hx hb hml hown hts hK hP hD hS (q7_toldOf h) (cw7_179 hts ⟨Nat.le_of_ble_eq_true rfl, Nat.le_of_ble_eq_true rfl⟩) rfl (by decide) rfl rfl hl.1 rfl (Nat.le_of_ble_eq_true rfl) ⟨Nat.le_of_ble_eq_true rfl, Nat.le_of_ble_eq_true rfl⟩ dX7_digest_85 (fun r2 u_ H locs hP hD hS h => ?_)
      obtain ⟨hu_, h⟩ := h
      rw [hu_] at hP hD
      refine lv_i2l (pc := 88) (v := (r2.toInt64)) hx hb dX7_digest_88 rfl ?_
      refine lv_ladd (pc := 89) hx hb dX7_digest_89 ?_
      refine lv_lstore_n (pc := 90) (lv' := [(1, .long (((31 : Int64) * x1) + (r2.toInt64))), (0, .ref (ad 0)), (3, .int x3)]) hx hb dX7_digest_90 rfl hl (by decide) rfl (fun ls hl => ?_)
      refine lv_iinc (pc := 91) (v := (x3 + (1 : Int32))) (lv' := [(3, .int (x3 + (1 : Int32))), (1, .long (((31 : Int64) * x1) + (r2.toInt64))), (0, .ref (ad 0))]) hx hb dX7_digest_91 hl (k := 2) rfl rfl (by decide) rfl (fun ls hl => ?_)
      refine lv_goto (pc := 94) (tgt := 60) hx hb dX7_digest_94 (by decide) ?_
      exact ih _ _ _ _ _ h hP hD hS (lv_sub hl [2, 1, 0] rfl)
def p7_digest_L33 : Nat → kx_St → Int64 → Int32 → (Int64 → Prop) → Prop
  | 0, _, _, _, _ => False
  | n + 1, σ, x1, x3, Q => ((4 : Int32) ≤ x3 → ∃ m60, p7_digest_L60 m60 σ x1 (0 : Int32) Q) ∧ (¬ (4 : Int32) ≤ x3 → vp_in x3 4 ∧ (p7_digest_L33 n σ (((31 : Int64) * x1) + ((σ.1 2 x3.toNatClampNeg).toInt64)) (x3 + (1 : Int32)) Q))
set_option maxHeartbeats 4000000 in
theorem w7_digest_L33 {σ : kx_St}  {Q : Int64 → Prop} (cx : kx_Cx p s m args meth c D cy RX7 cX7_digest 5 (some .long))  : ∀ (n : Nat) (x1 : Int64) (x3 : Int32) (H : Heap) (locs : List Loc) (ls : Array Slot), p7_digest_L33 n σ x1 x3 Q → va_P D vwCl (kx_ws cy 1 ad σ) H → va_D A (kx_ws cy 1 ad σ) → va_S A s.heap H locs → lv_has ls 5 [(0, .ref (ad 0)), (1, .long x1), (3, .int x3)] → W p l e rm7_digest s m args below meth c H locs 0 0 (MQ below (kx_Qc kx_cl (fun u r => u = σ ∧ Q r) (kx_Wd D cy 1 ad A) A) args s 0 0 A) (F0 m 33 ls []) := by
  obtain ⟨hx, hb, hr, hlocks, hml, hown, hts, hK⟩ := id cx
  intro n
  induction n with
  | zero => intro _ _ _ _ _ h; exact False.elim h
  | succ n ih =>
    intro x1 x3 H locs ls h hP hD hS hl
    refine lv_iload_n (pc := 33) hx hb dX7_digest_33 rfl (lv_at hl 2 rfl) ?_
    refine lv_iconst (pc := 34) (v := (4 : Int32)) hx hb dX7_digest_34 (by decide) ?_
    refine lv_icmp_ge (pc := 35) (tgt := 58) hx hb dX7_digest_35 (by decide) (fun c1 => ?_) (fun c1 => ?_)
    · have h := h.1 c1
      refine lv_iconst (pc := 58) (v := (0 : Int32)) hx hb dX7_digest_58 (by decide) ?_
      refine lv_istore_n (pc := 59) (lv' := [(3, .int (0 : Int32)), (0, .ref (ad 0)), (1, .long x1)]) hx hb dX7_digest_59 rfl hl (by decide) rfl (fun ls hl => ?_)
      obtain ⟨n0, h⟩ := h
      exact w7_digest_L60 cx  n0 _ _ _ _ _ h hP hD hS (lv_sub hl [1, 2, 0] rfl)
    · have h := h.2 c1
      refine lv_ldc2 (pc := 38) (v := (31 : Int64)) hx hb hown (hts _ tb_1190) dX7_digest_38 ?_
      refine lv_lload_n (pc := 41) hx hb dX7_digest_41 rfl (lv_at hl 1 rfl) ?_
      refine lv_lmul (pc := 42) hx hb dX7_digest_42 ?_
      refine lv_aload_n (pc := 43) hx hb dX7_digest_43 rfl (lv_at hl 0 rfl) ?_
      refine fg7_13 (pc := 44) (b := 2) hx hb hown hts hK hP rfl rfl dX7_digest_44 ?_
      refine lv_iload_n (pc := 47) hx hb dX7_digest_47 rfl (lv_at hl 2 rfl) ?_
      obtain ⟨g2, h⟩ := h
      refine kx_iald (pc := 48) hx hb hK hP rfl g2 dX7_digest_48 ?_
      refine lv_i2l (pc := 49) (v := ((σ.1 2 x3.toNatClampNeg).toInt64)) hx hb dX7_digest_49 rfl ?_
      refine lv_ladd (pc := 50) hx hb dX7_digest_50 ?_
      refine lv_lstore_n (pc := 51) (lv' := [(1, .long (((31 : Int64) * x1) + ((σ.1 2 x3.toNatClampNeg).toInt64))), (0, .ref (ad 0)), (3, .int x3)]) hx hb dX7_digest_51 rfl hl (by decide) rfl (fun ls hl => ?_)
      refine lv_iinc (pc := 52) (v := (x3 + (1 : Int32))) (lv' := [(3, .int (x3 + (1 : Int32))), (1, .long (((31 : Int64) * x1) + ((σ.1 2 x3.toNatClampNeg).toInt64))), (0, .ref (ad 0))]) hx hb dX7_digest_52 hl (k := 2) rfl rfl (by decide) rfl (fun ls hl => ?_)
      refine lv_goto (pc := 55) (tgt := 33) hx hb dX7_digest_55 (by decide) ?_
      exact ih _ _ _ _ _ h hP hD hS (lv_sub hl [2, 1, 0] rfl)
def p7_digest_L6 : Nat → kx_St → Int64 → Int32 → (Int64 → Prop) → Prop
  | 0, _, _, _, _ => False
  | n + 1, σ, x1, x3, Q => ((12 : Int32) ≤ x3 → ∃ m33, p7_digest_L33 m33 σ x1 (0 : Int32) Q) ∧ (¬ (12 : Int32) ≤ x3 → p7_countOf σ x3 (fun r2 => p7_digest_L6 n σ (((31 : Int64) * x1) + (r2.toInt64)) (x3 + (1 : Int32)) Q))
set_option maxHeartbeats 4000000 in
theorem w7_digest_L6 {σ : kx_St}  {Q : Int64 → Prop} (cx : kx_Cx p s m args meth c D cy RX7 cX7_digest 5 (some .long))  : ∀ (n : Nat) (x1 : Int64) (x3 : Int32) (H : Heap) (locs : List Loc) (ls : Array Slot), p7_digest_L6 n σ x1 x3 Q → va_P D vwCl (kx_ws cy 1 ad σ) H → va_D A (kx_ws cy 1 ad σ) → va_S A s.heap H locs → lv_has ls 5 [(0, .ref (ad 0)), (1, .long x1), (3, .int x3)] → W p l e rm7_digest s m args below meth c H locs 0 0 (MQ below (kx_Qc kx_cl (fun u r => u = σ ∧ Q r) (kx_Wd D cy 1 ad A) A) args s 0 0 A) (F0 m 6 ls []) := by
  obtain ⟨hx, hb, hr, hlocks, hml, hown, hts, hK⟩ := id cx
  intro n
  induction n with
  | zero => intro _ _ _ _ _ h; exact False.elim h
  | succ n ih =>
    intro x1 x3 H locs ls h hP hD hS hl
    refine lv_iload_n (pc := 6) hx hb dX7_digest_6 rfl (lv_at hl 2 rfl) ?_
    refine lv_bipush (pc := 7) (v := (12 : Int32)) hx hb dX7_digest_7 (by decide) ?_
    refine lv_icmp_ge (pc := 9) (tgt := 31) hx hb dX7_digest_9 (by decide) (fun c1 => ?_) (fun c1 => ?_)
    · have h := h.1 c1
      refine lv_iconst (pc := 31) (v := (0 : Int32)) hx hb dX7_digest_31 (by decide) ?_
      refine lv_istore_n (pc := 32) (lv' := [(3, .int (0 : Int32)), (0, .ref (ad 0)), (1, .long x1)]) hx hb dX7_digest_32 rfl hl (by decide) rfl (fun ls hl => ?_)
      obtain ⟨n0, h⟩ := h
      exact w7_digest_L33 cx  n0 _ _ _ _ _ h hP hD hS (lv_sub hl [1, 2, 0] rfl)
    · have h := h.2 c1
      refine lv_ldc2 (pc := 12) (v := (31 : Int64)) hx hb hown (hts _ tb_1190) dX7_digest_12 ?_
      refine lv_lload_n (pc := 15) hx hb dX7_digest_15 rfl (lv_at hl 1 rfl) ?_
      refine lv_lmul (pc := 16) hx hb dX7_digest_16 ?_
      refine lv_aload_n (pc := 17) hx hb dX7_digest_17 rfl (lv_at hl 0 rfl) ?_
      refine lv_iload_n (pc := 18) hx hb dX7_digest_18 rfl (lv_at hl 2 rfl) ?_
      refine kx_iVi (pc := 19) [.int x3] hx hb hml hown hts hK hP hD hS (q7_countOf h) (cw7_292 hts ⟨Nat.le_of_ble_eq_true rfl, Nat.le_of_ble_eq_true rfl⟩) rfl (by decide) rfl rfl hl.1 rfl (Nat.le_of_ble_eq_true rfl) ⟨Nat.le_of_ble_eq_true rfl, Nat.le_of_ble_eq_true rfl⟩ dX7_digest_19 (fun r2 u_ H locs hP hD hS h => ?_)
      obtain ⟨hu_, h⟩ := h
      rw [hu_] at hP hD
      refine lv_i2l (pc := 22) (v := (r2.toInt64)) hx hb dX7_digest_22 rfl ?_
      refine lv_ladd (pc := 23) hx hb dX7_digest_23 ?_
      refine lv_lstore_n (pc := 24) (lv' := [(1, .long (((31 : Int64) * x1) + (r2.toInt64))), (0, .ref (ad 0)), (3, .int x3)]) hx hb dX7_digest_24 rfl hl (by decide) rfl (fun ls hl => ?_)
      refine lv_iinc (pc := 25) (v := (x3 + (1 : Int32))) (lv' := [(3, .int (x3 + (1 : Int32))), (1, .long (((31 : Int64) * x1) + (r2.toInt64))), (0, .ref (ad 0))]) hx hb dX7_digest_25 hl (k := 2) rfl rfl (by decide) rfl (fun ls hl => ?_)
      refine lv_goto (pc := 28) (tgt := 6) hx hb dX7_digest_28 (by decide) ?_
      exact ih _ _ _ _ _ h hP hD hS (lv_sub hl [2, 1, 0] rfl)
def p7_digest (σ : kx_St) (Q : Int64 → Prop) : Prop := ∃ m6, p7_digest_L6 m6 σ (17 : Int64) (0 : Int32) Q
set_option maxHeartbeats 4000000 in
theorem q7_digest {σ : kx_St}  {Q : Int64 → Prop} (h : p7_digest σ Q) : Met l yX7_digest (Cond.code yX7_digest cX7_digest 5 (some .long) :: kx_big) rm7_digest (va_Pc [.ref (ad 0)] (kx_Wd D cy 1 ad A σ)) (kx_Qc kx_cl (fun u r => u = σ ∧ Q r) (kx_Wd D cy 1 ad A) A) 0 0 A := by
  refine kx_head (plainFor_of_name (by decide)) (Nat.le_of_ble_eq_true rfl) ?_
  intro p e s m below meth c ls cx hP hD hS hl
  obtain ⟨hx, hb, hr, hlocks, hml, hown, hts, hK⟩ := id cx
  have hl : lv_has ls 5 [(0, .ref (ad 0))] := hl
  refine lv_ldc2 (pc := 0) (v := (17 : Int64)) hx hb hown (hts _ tb_1189) dX7_digest_0 ?_
  refine lv_lstore_n (pc := 3) (lv' := [(1, .long (17 : Int64)), (0, .ref (ad 0))]) hx hb dX7_digest_3 rfl hl (by decide) rfl (fun ls hl => ?_)
  refine lv_iconst (pc := 4) (v := (0 : Int32)) hx hb dX7_digest_4 (by decide) ?_
  refine lv_istore_n (pc := 5) (lv' := [(3, .int (0 : Int32)), (1, .long (17 : Int64)), (0, .ref (ad 0))]) hx hb dX7_digest_5 rfl hl (by decide) rfl (fun ls hl => ?_)
  obtain ⟨n0, h⟩ := h
  exact w7_digest_L6 cx  n0 _ _ _ _ _ h hP hD hS (lv_sub hl [2, 1, 0] rfl)
end
