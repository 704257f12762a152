section
variable {p : Program} {l : Launch} {e : Env} {s : State} {m : MethodId} {args : Array Value} {below : List Frame} {meth : Method} {c : Code} {D : va_G} {cy : Nat → ClassId} {ad : Nat → Nat} {A : Nat → Prop}

def p3_windIn (σ : kx_St) (x0 : Nat) (x1 : Int32) (Q : Int32 → Prop) : Prop := kx_k 0 x0 = 3 ∧ (pJ9_floorMod_7cf53 ((σ.1 x0 5) + x1) (4 : Int32) (fun r1 => vp_in r1 (kx_l 0 (kx_r 0 x0 0)) ∧ (Q (σ.1 (kx_r 0 x0 0) r1.toNatClampNeg))))
set_option maxHeartbeats 4000000 in
theorem q3_windIn {σ : kx_St} {x0 : Nat} {x1 : Int32} {Q : Int32 → Prop} (h : p3_windIn σ x0 x1 Q) : Met l yX3_windIn (Cond.code yX3_windIn cX3_windIn 2 (some .int) :: kx_big) rm3_windIn (va_Pc [.ref (ad x0), .int x1] (kx_Wd D cy 0 ad A σ)) (kx_Qc kx_ci (fun u r => u = σ ∧ Q r) (kx_Wd D cy 0 ad A) A) 0 0 A := by
  refine kx_head (plainFor_of_name (by decide)) (Nat.le_of_ble_eq_true rfl) ?_
  intro p e s m below meth c ls cx hP hD hS hl
  obtain ⟨hx, hb, hr, hlocks, hml, hown, hts, hK⟩ := id cx
  obtain ⟨hk_x0, h⟩ := h
  have hl : lv_has ls 2 [(0, .ref (ad x0)), (1, .int x1)] := hl
  refine lv_aload_n (pc := 0) hx hb dX3_windIn_0 rfl (lv_at hl 0 rfl) ?_
  refine fg3_9 (pc := 1) hx hb hown hts hK hP hk_x0 rfl dX3_windIn_1 ?_
  refine lv_aload_n (pc := 4) hx hb dX3_windIn_4 rfl (lv_at hl 0 rfl) ?_
  refine fg3_42 (pc := 5) hx hb hown hts hK hP hk_x0 dX3_windIn_5 ?_
  refine lv_iload_n (pc := 8) hx hb dX3_windIn_8 rfl (lv_at hl 1 rfl) ?_
  refine lv_iadd (pc := 9) hx hb dX3_windIn_9 ?_
  refine lv_iconst (pc := 10) (v := (4 : Int32)) hx hb dX3_windIn_10 (by decide) ?_
  refine kx_iSi (pc := 11) [.int ((σ.1 x0 5) + x1), .int (4 : Int32)] hx hb hml hown hts hK hP hD hS (qJ9_floorMod_7cf53 h) (cw3_51 hts ⟨Nat.le_of_ble_eq_true rfl, Nat.le_of_ble_eq_true rfl⟩) rfl hl.1 rfl (Nat.le_of_ble_eq_true rfl) ⟨Nat.le_of_ble_eq_true rfl, Nat.le_of_ble_eq_true rfl⟩ dX3_windIn_11 (fun r1 u_ H locs hP hD hS h => ?_)
  obtain ⟨hu_, h⟩ := h
  rw [hu_] at hP hD
  obtain ⟨g2, h⟩ := h
  refine kx_iald (pc := 14) hx hb hK hP (ky_3_0 hk_x0) g2 dX3_windIn_14 ?_
  exact kx_iret (pc := 15) hx hb hr hlocks hK hP hD hS ⟨rfl, h⟩ dX3_windIn_15
def p3_kiteAt (σ : kx_St) (x0 : Nat) (x1 : Int32) (Q : Option Nat → Prop) : Prop := kx_k 0 x0 = 3 ∧ ((x1 < 0 → Q none) ∧ (¬ x1 < 0 → ((σ.1 x0 3) ≤ x1 → Q none) ∧ (¬ (σ.1 x0 3) ≤ x1 → ((Int32.ofNat (kx_l 0 (kx_r 0 x0 1))) ≤ x1 → Q none) ∧ (¬ (Int32.ofNat (kx_l 0 (kx_r 0 x0 1))) ≤ x1 → vp_in x1 (kx_l 0 (kx_r 0 x0 1)) ∧ (Q (some (kx_r 0 (kx_r 0 x0 1) x1.toNatClampNeg)))))))
set_option maxHeartbeats 4000000 in
theorem q3_kiteAt {σ : kx_St} {x0 : Nat} {x1 : Int32} {Q : Option Nat → Prop} (h : p3_kiteAt σ x0 x1 Q) : Met l yX3_kiteAt (Cond.code yX3_kiteAt cX3_kiteAt 2 (some (.object "KiteTaxes$Kite")) :: kx_big) rm3_kiteAt (va_Pc [.ref (ad x0), .int x1] (kx_Wd D cy 0 ad A σ)) (kx_Qc (kx_cr ad) (fun u r => u = σ ∧ Q r) (kx_Wd D cy 0 ad A) A) 0 0 A := by
  refine kx_head (plainFor_of_name (by decide)) (Nat.le_of_ble_eq_true rfl) ?_
  intro p e s m below meth c ls cx hP hD hS hl
  obtain ⟨hx, hb, hr, hlocks, hml, hown, hts, hK⟩ := id cx
  obtain ⟨hk_x0, h⟩ := h
  have hl : lv_has ls 2 [(0, .ref (ad x0)), (1, .int x1)] := hl
  refine lv_iload_n (pc := 0) hx hb dX3_kiteAt_0 rfl (lv_at hl 1 rfl) ?_
  refine lv_if_lt (pc := 1) (tgt := 30) hx hb dX3_kiteAt_1 (by decide) (fun c1 => ?_) (fun c1 => ?_)
  · have h := h.1 c1
    refine lv_null (pc := 30) hx hb dX3_kiteAt_30 ?_
    exact kx_aret (pc := 31) hx hb hr hlocks hK hP hD hS none rfl ⟨rfl, h⟩ dX3_kiteAt_31
  · have h := h.2 c1
    refine lv_iload_n (pc := 4) hx hb dX3_kiteAt_4 rfl (lv_at hl 1 rfl) ?_
    refine lv_aload_n (pc := 5) hx hb dX3_kiteAt_5 rfl (lv_at hl 0 rfl) ?_
    refine fg3_35 (pc := 6) hx hb hown hts hK hP hk_x0 dX3_kiteAt_6 ?_
    refine lv_icmp_ge (pc := 9) (tgt := 30) hx hb dX3_kiteAt_9 (by decide) (fun c2 => ?_) (fun c2 => ?_)
    · have h := h.1 c2
      refine lv_null (pc := 30) hx hb dX3_kiteAt_30 ?_
      exact kx_aret (pc := 31) hx hb hr hlocks hK hP hD hS none rfl ⟨rfl, h⟩ dX3_kiteAt_31
    · have h := h.2 c2
      refine lv_iload_n (pc := 12) hx hb dX3_kiteAt_12 rfl (lv_at hl 1 rfl) ?_
      refine lv_aload_n (pc := 13) hx hb dX3_kiteAt_13 rfl (lv_at hl 0 rfl) ?_
      refine fg3_17 (pc := 14) hx hb hown hts hK hP hk_x0 rfl dX3_kiteAt_14 ?_
      refine kx_alen (pc := 17) hx hb hK hP (ky_3_1 hk_x0) (by decide) (by decide) dX3_kiteAt_17 ?_
      refine lv_icmp_ge (pc := 18) (tgt := 30) hx hb dX3_kiteAt_18 (by decide) (fun c3 => ?_) (fun c3 => ?_)
      · have h := h.1 c3
        refine lv_null (pc := 30) hx hb dX3_kiteAt_30 ?_
        exact kx_aret (pc := 31) hx hb hr hlocks hK hP hD hS none rfl ⟨rfl, h⟩ dX3_kiteAt_31
      · have h := h.2 c3
        refine lv_aload_n (pc := 21) hx hb dX3_kiteAt_21 rfl (lv_at hl 0 rfl) ?_
        refine fg3_17 (pc := 22) hx hb hown hts hK hP hk_x0 rfl dX3_kiteAt_22 ?_
        refine lv_iload_n (pc := 25) hx hb dX3_kiteAt_25 rfl (lv_at hl 1 rfl) ?_
        obtain ⟨g4, h⟩ := h
        refine kx_aald (pc := 26) hx hb hK hP (ky_3_1 hk_x0) (by decide) (by decide) g4 dX3_kiteAt_26 ?_
        refine lv_goto (pc := 27) (tgt := 31) hx hb dX3_kiteAt_27 (by decide) ?_
        exact kx_aret (pc := 31) hx hb hr hlocks hK hP hD hS (some (kx_r 0 (kx_r 0 x0 1) x1.toNatClampNeg)) rfl ⟨rfl, h⟩ dX3_kiteAt_31
def p3_flownSet_L4 : Nat → kx_St → Nat → Int32 → Int32 → (Int32 → Prop) → Prop
  | 0, _, _, _, _, _ => False
  | n + 1, σ, x0, x1, x2, Q => ((σ.1 x0 3) ≤ x2 → Q x1) ∧ (¬ (σ.1 x0 3) ≤ x2 → p3_kiteAt σ x0 x2 (fun o2 => (o2 = none → p3_flownSet_L4 n σ x0 (x1 ||| (0 : Int32)) (x2 + (1 : Int32)) Q) ∧ (∀ b3, o2 = some b3 → kx_k 0 b3 = 1 ∧ (p1_wasFlown σ b3 (fun r4 => (r4 = 0 → p3_flownSet_L4 n σ x0 (x1 ||| (0 : Int32)) (x2 + (1 : Int32)) Q) ∧ (¬ r4 = 0 → p3_flownSet_L4 n σ x0 (x1 ||| ((1 : Int32) <<< (x2 &&& 31))) (x2 + (1 : Int32)) Q))))))
set_option maxHeartbeats 4000000 in
theorem w3_flownSet_L4 {σ : kx_St}  {Q : Int32 → Prop} (cx : kx_Cx p s m args meth c D cy RX3 cX3_flownSet 4 (some .int))  : ∀ (n : Nat) (x0 : Nat) (x1 : Int32) (x2 : Int32) (H : Heap) (locs : List Loc) (ls : Array Slot), kx_k 0 x0 = 3 → p3_flownSet_L4 n σ x0 x1 x2 Q → va_P D vwCl (kx_ws cy 0 ad σ) H → va_D A (kx_ws cy 0 ad σ) → va_S A s.heap H locs → lv_has ls 4 [(0, .ref (ad x0)), (1, .int x1), (2, .int x2)] → W p l e rm3_flownSet s m args below meth c H locs 0 0 (MQ below (kx_Qc kx_ci (fun u r => u = σ ∧ Q r) (kx_Wd D cy 0 ad A) A) args s 0 0 A) (F0 m 4 ls []) := by
  obtain ⟨hx, hb, hr, hlocks, hml, hown, hts, hK⟩ := id cx
  intro n
  induction n with
  | zero => intro _ _ _ _ _ _ _ h; exact False.elim h
  | succ n ih =>
    intro x0 x1 x2 H locs ls hk_x0 h hP hD hS hl
    refine lv_iload_n (pc := 4) hx hb dX3_flownSet_4 rfl (lv_at hl 2 rfl) ?_
    refine lv_aload_n (pc := 5) hx hb dX3_flownSet_5 rfl (lv_at hl 0 rfl) ?_
    refine fg3_35 (pc := 6) hx hb hown hts hK hP hk_x0 dX3_flownSet_6 ?_
    refine lv_icmp_ge (pc := 9) (tgt := 45) hx hb dX3_flownSet_9 (by decide) (fun c1 => ?_) (fun c1 => ?_)
    · have h := h.1 c1
      refine lv_iload_n (pc := 45) hx hb dX3_flownSet_45 rfl (lv_at hl 1 rfl) ?_
      exact kx_iret (pc := 46) hx hb hr hlocks hK hP hD hS ⟨rfl, h⟩ dX3_flownSet_46
    · have h := h.2 c1
      refine lv_aload_n (pc := 12) hx hb dX3_flownSet_12 rfl (lv_at hl 0 rfl) ?_
      refine lv_iload_n (pc := 13) hx hb dX3_flownSet_13 rfl (lv_at hl 2 rfl) ?_
      refine kx_iVr (pc := 14) [.int x2] hx hb hml hown hts hK hP hD hS (q3_kiteAt h) (cw3_57 hts ⟨Nat.le_of_ble_eq_true rfl, Nat.le_of_ble_eq_true rfl⟩) hk_x0 (by decide) rfl rfl hl.1 rfl (Nat.le_of_ble_eq_true rfl) ⟨Nat.le_of_ble_eq_true rfl, Nat.le_of_ble_eq_true rfl⟩ dX3_flownSet_14 (fun o2 u_ H locs hP hD hS h => ?_)
      obtain ⟨hu_, h⟩ := h
      rw [hu_] at hP hD
      rcases o2 with _ | b3
      · have h := h.1 rfl
        refine lv_astore_nN (pc := 17) (lv' := [(3, .null), (0, .ref (ad x0)), (1, .int x1), (2, .int x2)]) hx hb dX3_flownSet_17 rfl hl (by decide) rfl (fun ls hl => ?_)
        refine lv_iload_n (pc := 18) hx hb dX3_flownSet_18 rfl (lv_at hl 2 rfl) ?_
        refine lv_aload_nN (pc := 19) hx hb dX3_flownSet_19 rfl (lv_at hl 0 rfl) ?_
        refine lv_ifnullN (pc := 20) (tgt := 36) hx hb dX3_flownSet_20 (by decide) ?_
        refine lv_iconst (pc := 36) (v := (0 : Int32)) hx hb dX3_flownSet_36 (by decide) ?_
        refine lv_ior (pc := 37) hx hb dX3_flownSet_37 ?_
        refine lv_istore_n (pc := 38) (lv' := [(1, .int (x1 ||| (0 : Int32))), (3, .null), (0, .ref (ad x0)), (2, .int x2)]) hx hb dX3_flownSet_38 rfl hl (by decide) rfl (fun ls hl => ?_)
        refine lv_iinc (pc := 39) (v := (x2 + (1 : Int32))) (lv' := [(2, .int (x2 + (1 : Int32))), (1, .int (x1 ||| (0 : Int32))), (3, .null), (0, .ref (ad x0))]) hx hb dX3_flownSet_39 hl (k := 3) rfl rfl (by decide) rfl (fun ls hl => ?_)
        refine lv_goto (pc := 42) (tgt := 4) hx hb dX3_flownSet_42 (by decide) ?_
        exact ih _ _ _ _ _ _ hk_x0 h hP hD hS (lv_sub hl [3, 1, 0] rfl)
      · obtain ⟨hk_b3, h⟩ := h.2 b3 rfl
        refine lv_astore_n (pc := 17) (lv' := [(3, .ref (ad b3)), (0, .ref (ad x0)), (1, .int x1), (2, .int x2)]) hx hb dX3_flownSet_17 rfl hl (by decide) rfl (fun ls hl => ?_)
        refine lv_iload_n (pc := 18) hx hb dX3_flownSet_18 rfl (lv_at hl 2 rfl) ?_
        refine lv_aload_n (pc := 19) hx hb dX3_flownSet_19 rfl (lv_at hl 0 rfl) ?_
        refine lv_ifnull (pc := 20) hx hb dX3_flownSet_20 ?_
        refine lv_aload_n (pc := 23) hx hb dX3_flownSet_23 rfl (lv_at hl 0 rfl) ?_
        refine kx_iVi (pc := 24) [] hx hb hml hown hts hK hP hD hS (q1_wasFlown h) (cw3_68 hts ⟨Nat.le_of_ble_eq_true rfl, Nat.le_of_ble_eq_true rfl⟩) hk_b3 (by decide) rfl rfl hl.1 rfl (Nat.le_of_ble_eq_true rfl) ⟨Nat.le_of_ble_eq_true rfl, Nat.le_of_ble_eq_true rfl⟩ dX3_flownSet_24 (fun r4 u_ H locs hP hD hS h => ?_)
        obtain ⟨hu_, h⟩ := h
        rw [hu_] at hP hD
        refine lv_if_eq (pc := 27) (tgt := 36) hx hb dX3_flownSet_27 (by decide) (fun c5 => ?_) (fun c5 => ?_)
        · have h := h.1 c5
          refine lv_iconst (pc := 36) (v := (0 : Int32)) hx hb dX3_flownSet_36 (by decide) ?_
          refine lv_ior (pc := 37) hx hb dX3_flownSet_37 ?_
          refine lv_istore_n (pc := 38) (lv' := [(1, .int (x1 ||| (0 : Int32))), (3, .ref (ad b3)), (0, .ref (ad x0)), (2, .int x2)]) hx hb dX3_flownSet_38 rfl hl (by decide) rfl (fun ls hl => ?_)
          refine lv_iinc (pc := 39) (v := (x2 + (1 : Int32))) (lv' := [(2, .int (x2 + (1 : Int32))), (1, .int (x1 ||| (0 : Int32))), (3, .ref (ad b3)), (0, .ref (ad x0))]) hx hb dX3_flownSet_39 hl (k := 3) rfl rfl (by decide) rfl (fun ls hl => ?_)
          refine lv_goto (pc := 42) (tgt := 4) hx hb dX3_flownSet_42 (by decide) ?_
          exact ih _ _ _ _ _ _ hk_x0 h hP hD hS (lv_sub hl [3, 1, 0] rfl)
        · have h := h.2 c5
          refine lv_iconst (pc := 30) (v := (1 : Int32)) hx hb dX3_flownSet_30 (by decide) ?_
          refine lv_iload_n (pc := 31) hx hb dX3_flownSet_31 rfl (lv_at hl 3 rfl) ?_
          refine lv_ishl (pc := 32) hx hb dX3_flownSet_32 ?_
          refine lv_goto (pc := 33) (tgt := 37) hx hb dX3_flownSet_33 (by decide) ?_
          refine lv_ior (pc := 37) hx hb dX3_flownSet_37 ?_
          refine lv_istore_n (pc := 38) (lv' := [(1, .int (x1 ||| ((1 : Int32) <<< (x2 &&& 31)))), (3, .ref (ad b3)), (0, .ref (ad x0)), (2, .int x2)]) hx hb dX3_flownSet_38 rfl hl (by decide) rfl (fun ls hl => ?_)
          refine lv_iinc (pc := 39) (v := (x2 + (1 : Int32))) (lv' := [(2, .int (x2 + (1 : Int32))), (1, .int (x1 ||| ((1 : Int32) <<< (x2 &&& 31)))), (3, .ref (ad b3)), (0, .ref (ad x0))]) hx hb dX3_flownSet_39 hl (k := 3) rfl rfl (by decide) rfl (fun ls hl => ?_)
          refine lv_goto (pc := 42) (tgt := 4) hx hb dX3_flownSet_42 (by decide) ?_
          exact ih _ _ _ _ _ _ hk_x0 h hP hD hS (lv_sub hl [3, 1, 0] rfl)
def p3_flownSet (σ : kx_St) (x0 : Nat) (Q : Int32 → Prop) : Prop := kx_k 0 x0 = 3 ∧ (∃ m4, p3_flownSet_L4 m4 σ x0 (0 : Int32) (0 : Int32) Q)
set_option maxHeartbeats 4000000 in
theorem q3_flownSet {σ : kx_St} {x0 : Nat} {Q : Int32 → Prop} (h : p3_flownSet σ x0 Q) : Met l yX3_flownSet (Cond.code yX3_flownSet cX3_flownSet 4 (some .int) :: kx_big) rm3_flownSet (va_Pc [.ref (ad x0)] (kx_Wd D cy 0 ad A σ)) (kx_Qc kx_ci (fun u r => u = σ ∧ Q r) (kx_Wd D cy 0 ad A) A) 0 0 A := by
  refine kx_head (plainFor_of_name (by decide)) (Nat.le_of_ble_eq_true rfl) ?_
  intro p e s m below meth c ls cx hP hD hS hl
  obtain ⟨hx, hb, hr, hlocks, hml, hown, hts, hK⟩ := id cx
  obtain ⟨hk_x0, h⟩ := h
  have hl : lv_has ls 4 [(0, .ref (ad x0))] := hl
  refine lv_iconst (pc := 0) (v := (0 : Int32)) hx hb dX3_flownSet_0 (by decide) ?_
  refine lv_istore_n (pc := 1) (lv' := [(1, .int (0 : Int32)), (0, .ref (ad x0))]) hx hb dX3_flownSet_1 rfl hl (by decide) rfl (fun ls hl => ?_)
  refine lv_iconst (pc := 2) (v := (0 : Int32)) hx hb dX3_flownSet_2 (by decide) ?_
  refine lv_istore_n (pc := 3) (lv' := [(2, .int (0 : Int32)), (1, .int (0 : Int32)), (0, .ref (ad x0))]) hx hb dX3_flownSet_3 rfl hl (by decide) rfl (fun ls hl => ?_)
  obtain ⟨n0, h⟩ := h
  exact w3_flownSet_L4 cx  n0 _ _ _ _ _ _ hk_x0 h hP hD hS (lv_sub hl [2, 1, 0] rfl)
def p3_liftOf (σ : kx_St) (x0 : Nat) (x1 : Int32) (x2 : Int32) (Q : Int32 → Prop) : Prop := kx_k 0 x0 = 3 ∧ (p3_kiteAt σ x0 x1 (fun o1 => (o1 = none → Q (0 : Int32)) ∧ (∀ b2, o1 = some b2 → kx_k 0 b2 = 1 ∧ (p1_liftIn σ b2 x2 (fun r3 => Q r3)))))
set_option maxHeartbeats 4000000 in
theorem q3_liftOf {σ : kx_St} {x0 : Nat} {x1 : Int32} {x2 : Int32} {Q : Int32 → Prop} (h : p3_liftOf σ x0 x1 x2 Q) : Met l yX3_liftOf (Cond.code yX3_liftOf cX3_liftOf 4 (some .int) :: kx_big) rm3_liftOf (va_Pc [.ref (ad x0), .int x1, .int x2] (kx_Wd D cy 0 ad A σ)) (kx_Qc kx_ci (fun u r => u = σ ∧ Q r) (kx_Wd D cy 0 ad A) A) 0 0 A := by
  refine kx_head (plainFor_of_name (by decide)) (Nat.le_of_ble_eq_true rfl) ?_
  intro p e s m below meth c ls cx hP hD hS hl
  obtain ⟨hx, hb, hr, hlocks, hml, hown, hts, hK⟩ := id cx
  obtain ⟨hk_x0, h⟩ := h
  have hl : lv_has ls 4 [(0, .ref (ad x0)), (1, .int x1), (2, .int x2)] := hl
  refine lv_aload_n (pc := 0) hx hb dX3_liftOf_0 rfl (lv_at hl 0 rfl) ?_
  refine lv_iload_n (pc := 1) hx hb dX3_liftOf_1 rfl (lv_at hl 1 rfl) ?_
  refine kx_iVr (pc := 2) [.int x1] hx hb hml hown hts hK hP hD hS (q3_kiteAt h) (cw3_57 hts ⟨Nat.le_of_ble_eq_true rfl, Nat.le_of_ble_eq_true rfl⟩) hk_x0 (by decide) rfl rfl hl.1 rfl (Nat.le_of_ble_eq_true rfl) ⟨Nat.le_of_ble_eq_true rfl, Nat.le_of_ble_eq_true rfl⟩ dX3_liftOf_2 (fun o1 u_ H locs hP hD hS h => ?_)
  obtain ⟨hu_, h⟩ := h
  rw [hu_] at hP hD
  rcases o1 with _ | b2
  · have h := h.1 rfl
    refine lv_astore_nN (pc := 5) (lv' := [(3, .null), (0, .ref (ad x0)), (1, .int x1), (2, .int x2)]) hx hb dX3_liftOf_5 rfl hl (by decide) rfl (fun ls hl => ?_)
    refine lv_aload_nN (pc := 6) hx hb dX3_liftOf_6 rfl (lv_at hl 0 rfl) ?_
    refine lv_ifnonnullN (pc := 7) hx hb dX3_liftOf_7 ?_
    refine lv_iconst (pc := 10) (v := (0 : Int32)) hx hb dX3_liftOf_10 (by decide) ?_
    refine lv_goto (pc := 11) (tgt := 19) hx hb dX3_liftOf_11 (by decide) ?_
    exact kx_iret (pc := 19) hx hb hr hlocks hK hP hD hS ⟨rfl, h⟩ dX3_liftOf_19
  · obtain ⟨hk_b2, h⟩ := h.2 b2 rfl
    refine lv_astore_n (pc := 5) (lv' := [(3, .ref (ad b2)), (0, .ref (ad x0)), (1, .int x1), (2, .int x2)]) hx hb dX3_liftOf_5 rfl hl (by decide) rfl (fun ls hl => ?_)
    refine lv_aload_n (pc := 6) hx hb dX3_liftOf_6 rfl (lv_at hl 0 rfl) ?_
    refine lv_ifnonnull (pc := 7) (tgt := 14) hx hb dX3_liftOf_7 (by decide) ?_
    refine lv_aload_n (pc := 14) hx hb dX3_liftOf_14 rfl (lv_at hl 0 rfl) ?_
    refine lv_iload_n (pc := 15) hx hb dX3_liftOf_15 rfl (lv_at hl 3 rfl) ?_
    refine kx_iVi (pc := 16) [.int x2] hx hb hml hown hts hK hP hD hS (q1_liftIn h) (cw3_61 hts ⟨Nat.le_of_ble_eq_true rfl, Nat.le_of_ble_eq_true rfl⟩) hk_b2 (by decide) rfl rfl hl.1 rfl (Nat.le_of_ble_eq_true rfl) ⟨Nat.le_of_ble_eq_true rfl, Nat.le_of_ble_eq_true rfl⟩ dX3_liftOf_16 (fun r3 u_ H locs hP hD hS h => ?_)
    obtain ⟨hu_, h⟩ := h
    rw [hu_] at hP hD
    exact kx_iret (pc := 19) hx hb hr hlocks hK hP hD hS ⟨rfl, h⟩ dX3_liftOf_19
def p3_crossLift (σ : kx_St) (x0 : Nat) (x1 : Int32) (x2 : Int32) (x3 : Int32) (Q : Int32 → Prop) : Prop := kx_k 0 x0 = 3 ∧ (p3_liftOf σ x0 x1 x3 (fun r1 => p3_liftOf σ x0 x2 x3 (fun r2 => (r1 ≤ 0 → Q (r1 + r2)) ∧ (¬ r1 ≤ 0 → (r2 ≤ 0 → Q (r1 + r2)) ∧ (¬ r2 ≤ 0 → Q ((r1 + r2) + (3 : Int32)))))))
set_option maxHeartbeats 4000000 in
theorem q3_crossLift {σ : kx_St} {x0 : Nat} {x1 : Int32} {x2 : Int32} {x3 : Int32} {Q : Int32 → Prop} (h : p3_crossLift σ x0 x1 x2 x3 Q) : Met l yX3_crossLift (Cond.code yX3_crossLift cX3_crossLift 6 (some .int) :: kx_big) rm3_crossLift (va_Pc [.ref (ad x0), .int x1, .int x2, .int x3] (kx_Wd D cy 0 ad A σ)) (kx_Qc kx_ci (fun u r => u = σ ∧ Q r) (kx_Wd D cy 0 ad A) A) 0 0 A := by
  refine kx_head (plainFor_of_name (by decide)) (Nat.le_of_ble_eq_true rfl) ?_
  intro p e s m below meth c ls cx hP hD hS hl
  obtain ⟨hx, hb, hr, hlocks, hml, hown, hts, hK⟩ := id cx
  obtain ⟨hk_x0, h⟩ := h
  have hl : lv_has ls 6 [(0, .ref (ad x0)), (1, .int x1), (2, .int x2), (3, .int x3)] := hl
  refine lv_aload_n (pc := 0) hx hb dX3_crossLift_0 rfl (lv_at hl 0 rfl) ?_
  refine lv_iload_n (pc := 1) hx hb dX3_crossLift_1 rfl (lv_at hl 1 rfl) ?_
  refine lv_iload_n (pc := 2) hx hb dX3_crossLift_2 rfl (lv_at hl 3 rfl) ?_
  refine kx_iVi (pc := 3) [.int x1, .int x3] hx hb hml hown hts hK hP hD hS (q3_liftOf h) (cw3_65 hts ⟨Nat.le_of_ble_eq_true rfl, Nat.le_of_ble_eq_true rfl⟩) hk_x0 (by decide) rfl rfl hl.1 rfl (Nat.le_of_ble_eq_true rfl) ⟨Nat.le_of_ble_eq_true rfl, Nat.le_of_ble_eq_true rfl⟩ dX3_crossLift_3 (fun r1 u_ H locs hP hD hS h => ?_)
  obtain ⟨hu_, h⟩ := h
  rw [hu_] at hP hD
  refine lv_istore (pc := 6) (lv' := [(4, .int r1), (0, .ref (ad x0)), (1, .int x1), (2, .int x2), (3, .int x3)]) hx hb dX3_crossLift_6 hl (by decide) rfl (fun ls hl => ?_)
  refine lv_aload_n (pc := 8) hx hb dX3_crossLift_8 rfl (lv_at hl 1 rfl) ?_
  refine lv_iload_n (pc := 9) hx hb dX3_crossLift_9 rfl (lv_at hl 3 rfl) ?_
  refine lv_iload_n (pc := 10) hx hb dX3_crossLift_10 rfl (lv_at hl 4 rfl) ?_
  refine kx_iVi (pc := 11) [.int x2, .int x3] hx hb hml hown hts hK hP hD hS (q3_liftOf h) (cw3_65 hts ⟨Nat.le_of_ble_eq_true rfl, Nat.le_of_ble_eq_true rfl⟩) hk_x0 (by decide) rfl rfl hl.1 rfl (Nat.le_of_ble_eq_true rfl) ⟨Nat.le_of_ble_eq_true rfl, Nat.le_of_ble_eq_true rfl⟩ dX3_crossLift_11 (fun r2 u_ H locs hP hD hS h => ?_)
  obtain ⟨hu_, h⟩ := h
  rw [hu_] at hP hD
  refine lv_istore (pc := 14) (lv' := [(5, .int r2), (4, .int r1), (0, .ref (ad x0)), (1, .int x1), (2, .int x2), (3, .int x3)]) hx hb dX3_crossLift_14 hl (by decide) rfl (fun ls hl => ?_)
  refine lv_iload (pc := 16) hx hb dX3_crossLift_16 (lv_at hl 1 rfl) ?_
  refine lv_if_le (pc := 18) (tgt := 36) hx hb dX3_crossLift_18 (by decide) (fun c3 => ?_) (fun c3 => ?_)
  · have h := h.1 c3
    refine lv_iload (pc := 36) hx hb dX3_crossLift_36 (lv_at hl 1 rfl) ?_
    refine lv_iload (pc := 38) hx hb dX3_crossLift_38 (lv_at hl 0 rfl) ?_
    refine lv_iadd (pc := 40) hx hb dX3_crossLift_40 ?_
    exact kx_iret (pc := 41) hx hb hr hlocks hK hP hD hS ⟨rfl, h⟩ dX3_crossLift_41
  · have h := h.2 c3
    refine lv_iload (pc := 21) hx hb dX3_crossLift_21 (lv_at hl 0 rfl) ?_
    refine lv_if_le (pc := 23) (tgt := 36) hx hb dX3_crossLift_23 (by decide) (fun c4 => ?_) (fun c4 => ?_)
    · have h := h.1 c4
      refine lv_iload (pc := 36) hx hb dX3_crossLift_36 (lv_at hl 1 rfl) ?_
      refine lv_iload (pc := 38) hx hb dX3_crossLift_38 (lv_at hl 0 rfl) ?_
      refine lv_iadd (pc := 40) hx hb dX3_crossLift_40 ?_
      exact kx_iret (pc := 41) hx hb hr hlocks hK hP hD hS ⟨rfl, h⟩ dX3_crossLift_41
    · have h := h.2 c4
      refine lv_iload (pc := 26) hx hb dX3_crossLift_26 (lv_at hl 1 rfl) ?_
      refine lv_iload (pc := 28) hx hb dX3_crossLift_28 (lv_at hl 0 rfl) ?_
      refine lv_iadd (pc := 30) hx hb dX3_crossLift_30 ?_
      refine lv_iconst (pc := 31) (v := (3 : Int32)) hx hb dX3_crossLift_31 (by decide) ?_
      refine lv_iadd (pc := 32) hx hb dX3_crossLift_32 ?_
      refine lv_goto (pc := 33) (tgt := 41) hx hb dX3_crossLift_33 (by decide) ?_
      exact kx_iret (pc := 41) hx hb hr hlocks hK hP hD hS ⟨rfl, h⟩ dX3_crossLift_41
def p3_takeFrom_L31 : Nat → kx_St → Nat → Nat → Int32 → (kx_St → Prop) → Prop
  | 0, _, _, _, _, _ => False
  | n + 1, σ, x0, x1, x2, Q => ((Int32.ofNat (kx_l 0 (kx_r 0 x0 1))) ≤ x2 → (fun σ2 : kx_St => (fun σ3 : kx_St => (fun σ4 : kx_St => (fun σ5 : kx_St => (fun σ6 : kx_St => Q σ6) (kx_sI σ5 x0 7 (σ5.1 x1 7))) (kx_sI σ4 x0 6 (σ4.1 x1 6))) (kx_sI σ3 x0 5 (σ3.1 x1 5))) (kx_sI σ2 x0 4 (σ2.1 x1 4))) (kx_sI σ x0 3 (σ.1 x1 3))) ∧ (¬ (Int32.ofNat (kx_l 0 (kx_r 0 x0 1))) ≤ x2 → vp_in x2 (kx_l 0 (kx_r 0 x0 1)) ∧ (vp_in x2 (kx_l 0 (kx_r 0 x1 1)) ∧ (p1_takeFrom σ (kx_r 0 (kx_r 0 x0 1) x2.toNatClampNeg) (kx_r 0 (kx_r 0 x1 1) x2.toNatClampNeg) (fun σ10 => p3_takeFrom_L31 n σ10 x0 x1 (x2 + (1 : Int32)) Q))))
set_option maxHeartbeats 4000000 in
theorem w3_takeFrom_L31  {Q : kx_St → Prop} (cx : kx_Cx p s m args meth c D cy RX3 cX3_takeFrom 3 none)  : ∀ (n : Nat) (σ : kx_St) (x0 : Nat) (x1 : Nat) (x2 : Int32) (H : Heap) (locs : List Loc) (ls : Array Slot), kx_k 0 x0 = 3 → kx_k 0 x1 = 3 → p3_takeFrom_L31 n σ x0 x1 x2 Q → va_P D vwCl (kx_ws cy 0 ad σ) H → va_D A (kx_ws cy 0 ad σ) → va_S A s.heap H locs → lv_has ls 3 [(0, .ref (ad x0)), (1, .ref (ad x1)), (2, .int x2)] → W p l e rm3_takeFrom s m args below meth c H locs 0 0 (MQ below (kx_Qc kx_cv (fun u _ => Q u) (kx_Wd D cy 0 ad A) A) args s 0 0 A) (F0 m 31 ls []) := by
  obtain ⟨hx, hb, hr, hlocks, hml, hown, hts, hK⟩ := id cx
  intro n
  induction n with
  | zero => intro _ _ _ _ _ _ _ _ _ h; exact False.elim h
  | succ n ih =>
    intro σ x0 x1 x2 H locs ls hk_x0 hk_x1 h hP hD hS hl
    refine lv_iload_n (pc := 31) hx hb dX3_takeFrom_31 rfl (lv_at hl 2 rfl) ?_
    refine lv_aload_n (pc := 32) hx hb dX3_takeFrom_32 rfl (lv_at hl 0 rfl) ?_
    refine fg3_17 (pc := 33) hx hb hown hts hK hP hk_x0 rfl dX3_takeFrom_33 ?_
    refine kx_alen (pc := 36) hx hb hK hP (ky_3_1 hk_x0) (by decide) (by decide) dX3_takeFrom_36 ?_
    refine lv_icmp_ge (pc := 37) (tgt := 61) hx hb dX3_takeFrom_37 (by decide) (fun c1 => ?_) (fun c1 => ?_)
    · have h := h.1 c1
      refine lv_aload_n (pc := 61) hx hb dX3_takeFrom_61 rfl (lv_at hl 0 rfl) ?_
      refine lv_aload_n (pc := 62) hx hb dX3_takeFrom_62 rfl (lv_at hl 1 rfl) ?_
      refine fg3_35 (pc := 63) hx hb hown hts hK hP hk_x1 dX3_takeFrom_63 ?_
      refine fp3_35 (pc := 66) hx hb hown hts hK hP hD hS hk_x0 dX3_takeFrom_66 (fun H locs hP hD hS => ?_)
      refine lv_aload_n (pc := 69) hx hb dX3_takeFrom_69 rfl (lv_at hl 0 rfl) ?_
      refine lv_aload_n (pc := 70) hx hb dX3_takeFrom_70 rfl (lv_at hl 1 rfl) ?_
      refine fg3_39 (pc := 71) hx hb hown hts hK hP hk_x1 dX3_takeFrom_71 ?_
      refine fp3_39 (pc := 74) hx hb hown hts hK hP hD hS hk_x0 dX3_takeFrom_74 (fun H locs hP hD hS => ?_)
      refine lv_aload_n (pc := 77) hx hb dX3_takeFrom_77 rfl (lv_at hl 0 rfl) ?_
      refine lv_aload_n (pc := 78) hx hb dX3_takeFrom_78 rfl (lv_at hl 1 rfl) ?_
      refine fg3_42 (pc := 79) hx hb hown hts hK hP hk_x1 dX3_takeFrom_79 ?_
      refine fp3_42 (pc := 82) hx hb hown hts hK hP hD hS hk_x0 dX3_takeFrom_82 (fun H locs hP hD hS => ?_)
      refine lv_aload_n (pc := 85) hx hb dX3_takeFrom_85 rfl (lv_at hl 0 rfl) ?_
      refine lv_aload_n (pc := 86) hx hb dX3_takeFrom_86 rfl (lv_at hl 1 rfl) ?_
      refine fg3_45 (pc := 87) hx hb hown hts hK hP hk_x1 dX3_takeFrom_87 ?_
      refine fp3_45 (pc := 90) hx hb hown hts hK hP hD hS hk_x0 dX3_takeFrom_90 (fun H locs hP hD hS => ?_)
      refine lv_aload_n (pc := 93) hx hb dX3_takeFrom_93 rfl (lv_at hl 0 rfl) ?_
      refine lv_aload_n (pc := 94) hx hb dX3_takeFrom_94 rfl (lv_at hl 1 rfl) ?_
      refine fg3_48 (pc := 95) hx hb hown hts hK hP hk_x1 dX3_takeFrom_95 ?_
      refine fp3_48 (pc := 98) hx hb hown hts hK hP hD hS hk_x0 dX3_takeFrom_98 (fun H locs hP hD hS => ?_)
      exact kx_vret (pc := 101) hx hb hr hlocks hK hP hD hS h dX3_takeFrom_101
    · have h := h.2 c1
      refine lv_aload_n (pc := 40) hx hb dX3_takeFrom_40 rfl (lv_at hl 0 rfl) ?_
      refine fg3_17 (pc := 41) hx hb hown hts hK hP hk_x0 rfl dX3_takeFrom_41 ?_
      refine lv_iload_n (pc := 44) hx hb dX3_takeFrom_44 rfl (lv_at hl 2 rfl) ?_
      obtain ⟨g7, h⟩ := h
      refine kx_aald (pc := 45) hx hb hK hP (ky_3_1 hk_x0) (by decide) (by decide) g7 dX3_takeFrom_45 ?_
      refine lv_aload_n (pc := 46) hx hb dX3_takeFrom_46 rfl (lv_at hl 1 rfl) ?_
      refine fg3_17 (pc := 47) hx hb hown hts hK hP hk_x1 rfl dX3_takeFrom_47 ?_
      refine lv_iload_n (pc := 50) hx hb dX3_takeFrom_50 rfl (lv_at hl 2 rfl) ?_
      obtain ⟨g8, h⟩ := h
      refine kx_aald (pc := 51) hx hb hK hP (ky_3_1 hk_x1) (by decide) (by decide) g8 dX3_takeFrom_51 ?_
      refine kx_iVv (pc := 52) [.ref (ad (kx_r 0 (kx_r 0 x1 1) x2.toNatClampNeg))] hx hb hml hown hts hK hP hD hS (q1_takeFrom h) (cw3_31 hts ⟨Nat.le_of_ble_eq_true rfl, Nat.le_of_ble_eq_true rfl⟩) (ky_9 (ky_3_1 hk_x0) g7) (by decide) rfl rfl hl.1 rfl (Nat.le_of_ble_eq_true rfl) ⟨Nat.le_of_ble_eq_true rfl, Nat.le_of_ble_eq_true rfl⟩ dX3_takeFrom_52 (fun _ σ10 H locs hP hD hS h => ?_)
      refine lv_iinc (pc := 55) (v := (x2 + (1 : Int32))) (lv' := [(2, .int (x2 + (1 : Int32))), (0, .ref (ad x0)), (1, .ref (ad x1))]) hx hb dX3_takeFrom_55 hl (k := 2) rfl rfl (by decide) rfl (fun ls hl => ?_)
      refine lv_goto (pc := 58) (tgt := 31) hx hb dX3_takeFrom_58 (by decide) ?_
      exact ih _ _ _ _ _ _ _ hk_x0 hk_x1 h hP hD hS (lv_sub hl [1, 2, 0] rfl)
def p3_takeFrom (σ : kx_St) (x0 : Nat) (x1 : Nat) (Q : kx_St → Prop) : Prop := kx_k 0 x0 = 3 ∧ (kx_k 0 x1 = 3 ∧ ((0 : Int32).toNatClampNeg + (4 : Int32).toNatClampNeg ≤ (kx_l 0 (kx_r 0 x1 0)) ∧ ((0 : Int32).toNatClampNeg + (4 : Int32).toNatClampNeg ≤ (kx_l 0 (kx_r 0 x0 0)) ∧ ((fun σ3 : kx_St => (0 : Int32).toNatClampNeg + (40 : Int32).toNatClampNeg ≤ (kx_l 0 (kx_r 0 x1 2)) ∧ ((0 : Int32).toNatClampNeg + (40 : Int32).toNatClampNeg ≤ (kx_l 0 (kx_r 0 x0 2)) ∧ ((fun σ6 : kx_St => ∃ m31, p3_takeFrom_L31 m31 σ6 x0 x1 (0 : Int32) Q) (kx_cp σ3 (kx_r 0 x1 2) (kx_r 0 x0 2) (0 : Int32).toNatClampNeg (0 : Int32).toNatClampNeg (40 : Int32).toNatClampNeg)))) (kx_cp σ (kx_r 0 x1 0) (kx_r 0 x0 0) (0 : Int32).toNatClampNeg (0 : Int32).toNatClampNeg (4 : Int32).toNatClampNeg)))))
set_option maxHeartbeats 4000000 in
theorem q3_takeFrom {σ : kx_St} {x0 : Nat} {x1 : Nat} {Q : kx_St → Prop} (h : p3_takeFrom σ x0 x1 Q) : Met l yX3_takeFrom (Cond.code yX3_takeFrom cX3_takeFrom 3 none :: kx_big) rm3_takeFrom (va_Pc [.ref (ad x0), .ref (ad x1)] (kx_Wd D cy 0 ad A σ)) (kx_Qc kx_cv (fun u _ => Q u) (kx_Wd D cy 0 ad A) A) 0 0 A := by
  refine kx_head (plainFor_of_name (by decide)) (Nat.le_of_ble_eq_true rfl) ?_
  intro p e s m below meth c ls cx hP hD hS hl
  obtain ⟨hx, hb, hr, hlocks, hml, hown, hts, hK⟩ := id cx
  obtain ⟨hk_x0, h⟩ := h
  obtain ⟨hk_x1, h⟩ := h
  have hl : lv_has ls 3 [(0, .ref (ad x0)), (1, .ref (ad x1))] := hl
  refine lv_aload_n (pc := 0) hx hb dX3_takeFrom_0 rfl (lv_at hl 1 rfl) ?_
  refine fg3_9 (pc := 1) hx hb hown hts hK hP hk_x1 rfl dX3_takeFrom_1 ?_
  refine lv_iconst (pc := 4) (v := (0 : Int32)) hx hb dX3_takeFrom_4 (by decide) ?_
  refine lv_aload_n (pc := 5) hx hb dX3_takeFrom_5 rfl (lv_at hl 0 rfl) ?_
  refine fg3_9 (pc := 6) hx hb hown hts hK hP hk_x0 rfl dX3_takeFrom_6 ?_
  refine lv_iconst (pc := 9) (v := (0 : Int32)) hx hb dX3_takeFrom_9 (by decide) ?_
  refine lv_iconst (pc := 10) (v := (4 : Int32)) hx hb dX3_takeFrom_10 (by decide) ?_
  obtain ⟨g1, h⟩ := h
  obtain ⟨g2, h⟩ := h
  refine kx_copy (pc := 11) hx hb (hml.trans hl.1.symm) hown (hts _ tb_326) (hts _ tb_268) (hts _ tb_267) (hts _ tb_10) hK hP hD hS (ky_3_0 hk_x1) (ky_3_0 hk_x0) (by decide) (by decide) (by decide) g1 g2 (Nat.le_of_ble_eq_true rfl) (Nat.le_of_ble_eq_true rfl) dX3_takeFrom_11 (fun H locs hP hD hS => ?_)
  refine lv_aload_n (pc := 14) hx hb dX3_takeFrom_14 rfl (lv_at hl 1 rfl) ?_
  refine fg3_21 (pc := 15) hx hb hown hts hK hP hk_x1 rfl dX3_takeFrom_15 ?_
  refine lv_iconst (pc := 18) (v := (0 : Int32)) hx hb dX3_takeFrom_18 (by decide) ?_
  refine lv_aload_n (pc := 19) hx hb dX3_takeFrom_19 rfl (lv_at hl 0 rfl) ?_
  refine fg3_21 (pc := 20) hx hb hown hts hK hP hk_x0 rfl dX3_takeFrom_20 ?_
  refine lv_iconst (pc := 23) (v := (0 : Int32)) hx hb dX3_takeFrom_23 (by decide) ?_
  refine lv_bipush (pc := 24) (v := (40 : Int32)) hx hb dX3_takeFrom_24 (by decide) ?_
  obtain ⟨g4, h⟩ := h
  obtain ⟨g5, h⟩ := h
  refine kx_copy (pc := 26) hx hb (hml.trans hl.1.symm) hown (hts _ tb_326) (hts _ tb_268) (hts _ tb_267) (hts _ tb_10) hK hP hD hS (ky_3_2 hk_x1) (ky_3_2 hk_x0) (by decide) (by decide) (by decide) g4 g5 (Nat.le_of_ble_eq_true rfl) (Nat.le_of_ble_eq_true rfl) dX3_takeFrom_26 (fun H locs hP hD hS => ?_)
  refine lv_iconst (pc := 29) (v := (0 : Int32)) hx hb dX3_takeFrom_29 (by decide) ?_
  refine lv_istore_n (pc := 30) (lv' := [(2, .int (0 : Int32)), (0, .ref (ad x0)), (1, .ref (ad x1))]) hx hb dX3_takeFrom_30 rfl hl (by decide) rfl (fun ls hl => ?_)
  obtain ⟨n0, h⟩ := h
  exact w3_takeFrom_L31 cx  n0 _ _ _ _ _ _ _ hk_x0 hk_x1 h hP hD hS (lv_sub hl [1, 2, 0] rfl)
def p3_isEmpty (σ : kx_St) (x0 : Nat) (Q : Int32 → Prop) : Prop := kx_k 0 x0 = 3 ∧ ((¬ (σ.1 x0 3) = 0 → Q (0 : Int32)) ∧ ((σ.1 x0 3) = 0 → Q (1 : Int32)))
set_option maxHeartbeats 4000000 in
theorem q3_isEmpty {σ : kx_St} {x0 : Nat} {Q : Int32 → Prop} (h : p3_isEmpty σ x0 Q) : Met l yX3_isEmpty (Cond.code yX3_isEmpty cX3_isEmpty 1 (some .boolean) :: kx_big) rm3_isEmpty (va_Pc [.ref (ad x0)] (kx_Wd D cy 0 ad A σ)) (kx_Qc kx_ci (fun u r => u = σ ∧ Q r) (kx_Wd D cy 0 ad A) A) 0 0 A := by
  refine kx_head (plainFor_of_name (by decide)) (Nat.le_of_ble_eq_true rfl) ?_
  intro p e s m below meth c ls cx hP hD hS hl
  obtain ⟨hx, hb, hr, hlocks, hml, hown, hts, hK⟩ := id cx
  obtain ⟨hk_x0, h⟩ := h
  have hl : lv_has ls 1 [(0, .ref (ad x0))] := hl
  refine lv_aload_n (pc := 0) hx hb dX3_isEmpty_0 rfl (lv_at hl 0 rfl) ?_
  refine fg3_35 (pc := 1) hx hb hown hts hK hP hk_x0 dX3_isEmpty_1 ?_
  refine lv_if_ne (pc := 4) (tgt := 11) hx hb dX3_isEmpty_4 (by decide) (fun c1 => ?_) (fun c1 => ?_)
  · have h := h.1 c1
    refine lv_iconst (pc := 11) (v := (0 : Int32)) hx hb dX3_isEmpty_11 (by decide) ?_
    exact kx_zret (pc := 12) hx hb hr hlocks hK hP hD hS (by decide) ⟨rfl, h⟩ dX3_isEmpty_12
  · have h := h.2 c1
    refine lv_iconst (pc := 7) (v := (1 : Int32)) hx hb dX3_isEmpty_7 (by decide) ?_
    refine lv_goto (pc := 8) (tgt := 12) hx hb dX3_isEmpty_8 (by decide) ?_
    exact kx_zret (pc := 12) hx hb hr hlocks hK hP hD hS (by decide) ⟨rfl, h⟩ dX3_isEmpty_12
def p3_isFull (σ : kx_St) (x0 : Nat) (Q : Int32 → Prop) : Prop := kx_k 0 x0 = 3 ∧ (((σ.1 x0 6) < (40 : Int32) → Q (0 : Int32)) ∧ (¬ (σ.1 x0 6) < (40 : Int32) → Q (1 : Int32)))
set_option maxHeartbeats 4000000 in
theorem q3_isFull {σ : kx_St} {x0 : Nat} {Q : Int32 → Prop} (h : p3_isFull σ x0 Q) : Met l yX3_isFull (Cond.code yX3_isFull cX3_isFull 1 (some .boolean) :: kx_big) rm3_isFull (va_Pc [.ref (ad x0)] (kx_Wd D cy 0 ad A σ)) (kx_Qc kx_ci (fun u r => u = σ ∧ Q r) (kx_Wd D cy 0 ad A) A) 0 0 A := by
  refine kx_head (plainFor_of_name (by decide)) (Nat.le_of_ble_eq_true rfl) ?_
  intro p e s m below meth c ls cx hP hD hS hl
  obtain ⟨hx, hb, hr, hlocks, hml, hown, hts, hK⟩ := id cx
  obtain ⟨hk_x0, h⟩ := h
  have hl : lv_has ls 1 [(0, .ref (ad x0))] := hl
  refine lv_aload_n (pc := 0) hx hb dX3_isFull_0 rfl (lv_at hl 0 rfl) ?_
  refine fg3_45 (pc := 1) hx hb hown hts hK hP hk_x0 dX3_isFull_1 ?_
  refine lv_bipush (pc := 4) (v := (40 : Int32)) hx hb dX3_isFull_4 (by decide) ?_
  refine lv_icmp_lt (pc := 6) (tgt := 13) hx hb dX3_isFull_6 (by decide) (fun c1 => ?_) (fun c1 => ?_)
  · have h := h.1 c1
    refine lv_iconst (pc := 13) (v := (0 : Int32)) hx hb dX3_isFull_13 (by decide) ?_
    exact kx_zret (pc := 14) hx hb hr hlocks hK hP hD hS (by decide) ⟨rfl, h⟩ dX3_isFull_14
  · have h := h.2 c1
    refine lv_iconst (pc := 9) (v := (1 : Int32)) hx hb dX3_isFull_9 (by decide) ?_
    refine lv_goto (pc := 10) (tgt := 14) hx hb dX3_isFull_10 (by decide) ?_
    exact kx_zret (pc := 14) hx hb hr hlocks hK hP hD hS (by decide) ⟨rfl, h⟩ dX3_isFull_14
def p3_liftedSet_L4 : Nat → kx_St → Nat → Int32 → Int32 → (Int32 → Prop) → Prop
  | 0, _, _, _, _, _ => False
  | n + 1, σ, x0, x1, x2, Q => ((σ.1 x0 3) ≤ x2 → Q x1) ∧ (¬ (σ.1 x0 3) ≤ x2 → p3_kiteAt σ x0 x2 (fun o2 => (o2 = none → p3_liftedSet_L4 n σ x0 (x1 ||| (0 : Int32)) (x2 + (1 : Int32)) Q) ∧ (∀ b3, o2 = some b3 → kx_k 0 b3 = 1 ∧ (((σ.1 b3 5) = 0 → p3_liftedSet_L4 n σ x0 (x1 ||| (0 : Int32)) (x2 + (1 : Int32)) Q) ∧ (¬ (σ.1 b3 5) = 0 → p3_liftedSet_L4 n σ x0 (x1 ||| ((1 : Int32) <<< (x2 &&& 31))) (x2 + (1 : Int32)) Q)))))
set_option maxHeartbeats 4000000 in
theorem w3_liftedSet_L4 {σ : kx_St}  {Q : Int32 → Prop} (cx : kx_Cx p s m args meth c D cy RX3 cX3_liftedSet 4 (some .int))  : ∀ (n : Nat) (x0 : Nat) (x1 : Int32) (x2 : Int32) (H : Heap) (locs : List Loc) (ls : Array Slot), kx_k 0 x0 = 3 → p3_liftedSet_L4 n σ x0 x1 x2 Q → va_P D vwCl (kx_ws cy 0 ad σ) H → va_D A (kx_ws cy 0 ad σ) → va_S A s.heap H locs → lv_has ls 4 [(0, .ref (ad x0)), (1, .int x1), (2, .int x2)] → W p l e rm3_liftedSet s m args below meth c H locs 0 0 (MQ below (kx_Qc kx_ci (fun u r => u = σ ∧ Q r) (kx_Wd D cy 0 ad A) A) args s 0 0 A) (F0 m 4 ls []) := by
  obtain ⟨hx, hb, hr, hlocks, hml, hown, hts, hK⟩ := id cx
  intro n
  induction n with
  | zero => intro _ _ _ _ _ _ _ h; exact False.elim h
  | succ n ih =>
    intro x0 x1 x2 H locs ls hk_x0 h hP hD hS hl
    refine lv_iload_n (pc := 4) hx hb dX3_liftedSet_4 rfl (lv_at hl 2 rfl) ?_
    refine lv_aload_n (pc := 5) hx hb dX3_liftedSet_5 rfl (lv_at hl 0 rfl) ?_
    refine fg3_35 (pc := 6) hx hb hown hts hK hP hk_x0 dX3_liftedSet_6 ?_
    refine lv_icmp_ge (pc := 9) (tgt := 45) hx hb dX3_liftedSet_9 (by decide) (fun c1 => ?_) (fun c1 => ?_)
    · have h := h.1 c1
      refine lv_iload_n (pc := 45) hx hb dX3_liftedSet_45 rfl (lv_at hl 1 rfl) ?_
      exact kx_iret (pc := 46) hx hb hr hlocks hK hP hD hS ⟨rfl, h⟩ dX3_liftedSet_46
    · have h := h.2 c1
      refine lv_aload_n (pc := 12) hx hb dX3_liftedSet_12 rfl (lv_at hl 0 rfl) ?_
      refine lv_iload_n (pc := 13) hx hb dX3_liftedSet_13 rfl (lv_at hl 2 rfl) ?_
      refine kx_iVr (pc := 14) [.int x2] hx hb hml hown hts hK hP hD hS (q3_kiteAt h) (cw3_57 hts ⟨Nat.le_of_ble_eq_true rfl, Nat.le_of_ble_eq_true rfl⟩) hk_x0 (by decide) rfl rfl hl.1 rfl (Nat.le_of_ble_eq_true rfl) ⟨Nat.le_of_ble_eq_true rfl, Nat.le_of_ble_eq_true rfl⟩ dX3_liftedSet_14 (fun o2 u_ H locs hP hD hS h => ?_)
      obtain ⟨hu_, h⟩ := h
      rw [hu_] at hP hD
      rcases o2 with _ | b3
      · have h := h.1 rfl
        refine lv_astore_nN (pc := 17) (lv' := [(3, .null), (0, .ref (ad x0)), (1, .int x1), (2, .int x2)]) hx hb dX3_liftedSet_17 rfl hl (by decide) rfl (fun ls hl => ?_)
        refine lv_iload_n (pc := 18) hx hb dX3_liftedSet_18 rfl (lv_at hl 2 rfl) ?_
        refine lv_aload_nN (pc := 19) hx hb dX3_liftedSet_19 rfl (lv_at hl 0 rfl) ?_
        refine lv_ifnullN (pc := 20) (tgt := 36) hx hb dX3_liftedSet_20 (by decide) ?_
        refine lv_iconst (pc := 36) (v := (0 : Int32)) hx hb dX3_liftedSet_36 (by decide) ?_
        refine lv_ior (pc := 37) hx hb dX3_liftedSet_37 ?_
        refine lv_istore_n (pc := 38) (lv' := [(1, .int (x1 ||| (0 : Int32))), (3, .null), (0, .ref (ad x0)), (2, .int x2)]) hx hb dX3_liftedSet_38 rfl hl (by decide) rfl (fun ls hl => ?_)
        refine lv_iinc (pc := 39) (v := (x2 + (1 : Int32))) (lv' := [(2, .int (x2 + (1 : Int32))), (1, .int (x1 ||| (0 : Int32))), (3, .null), (0, .ref (ad x0))]) hx hb dX3_liftedSet_39 hl (k := 3) rfl rfl (by decide) rfl (fun ls hl => ?_)
        refine lv_goto (pc := 42) (tgt := 4) hx hb dX3_liftedSet_42 (by decide) ?_
        exact ih _ _ _ _ _ _ hk_x0 h hP hD hS (lv_sub hl [3, 1, 0] rfl)
      · obtain ⟨hk_b3, h⟩ := h.2 b3 rfl
        refine lv_astore_n (pc := 17) (lv' := [(3, .ref (ad b3)), (0, .ref (ad x0)), (1, .int x1), (2, .int x2)]) hx hb dX3_liftedSet_17 rfl hl (by decide) rfl (fun ls hl => ?_)
        refine lv_iload_n (pc := 18) hx hb dX3_liftedSet_18 rfl (lv_at hl 2 rfl) ?_
        refine lv_aload_n (pc := 19) hx hb dX3_liftedSet_19 rfl (lv_at hl 0 rfl) ?_
        refine lv_ifnull (pc := 20) hx hb dX3_liftedSet_20 ?_
        refine lv_aload_n (pc := 23) hx hb dX3_liftedSet_23 rfl (lv_at hl 0 rfl) ?_
        refine fg3_72 (pc := 24) hx hb hown hts hK hP hk_b3 dX3_liftedSet_24 ?_
        refine lv_if_eq (pc := 27) (tgt := 36) hx hb dX3_liftedSet_27 (by decide) (fun c4 => ?_) (fun c4 => ?_)
        · have h := h.1 c4
          refine lv_iconst (pc := 36) (v := (0 : Int32)) hx hb dX3_liftedSet_36 (by decide) ?_
          refine lv_ior (pc := 37) hx hb dX3_liftedSet_37 ?_
          refine lv_istore_n (pc := 38) (lv' := [(1, .int (x1 ||| (0 : Int32))), (3, .ref (ad b3)), (0, .ref (ad x0)), (2, .int x2)]) hx hb dX3_liftedSet_38 rfl hl (by decide) rfl (fun ls hl => ?_)
          refine lv_iinc (pc := 39) (v := (x2 + (1 : Int32))) (lv' := [(2, .int (x2 + (1 : Int32))), (1, .int (x1 ||| (0 : Int32))), (3, .ref (ad b3)), (0, .ref (ad x0))]) hx hb dX3_liftedSet_39 hl (k := 3) rfl rfl (by decide) rfl (fun ls hl => ?_)
          refine lv_goto (pc := 42) (tgt := 4) hx hb dX3_liftedSet_42 (by decide) ?_
          exact ih _ _ _ _ _ _ hk_x0 h hP hD hS (lv_sub hl [3, 1, 0] rfl)
        · have h := h.2 c4
          refine lv_iconst (pc := 30) (v := (1 : Int32)) hx hb dX3_liftedSet_30 (by decide) ?_
          refine lv_iload_n (pc := 31) hx hb dX3_liftedSet_31 rfl (lv_at hl 3 rfl) ?_
          refine lv_ishl (pc := 32) hx hb dX3_liftedSet_32 ?_
          refine lv_goto (pc := 33) (tgt := 37) hx hb dX3_liftedSet_33 (by decide) ?_
          refine lv_ior (pc := 37) hx hb dX3_liftedSet_37 ?_
          refine lv_istore_n (pc := 38) (lv' := [(1, .int (x1 ||| ((1 : Int32) <<< (x2 &&& 31)))), (3, .ref (ad b3)), (0, .ref (ad x0)), (2, .int x2)]) hx hb dX3_liftedSet_38 rfl hl (by decide) rfl (fun ls hl => ?_)
          refine lv_iinc (pc := 39) (v := (x2 + (1 : Int32))) (lv' := [(2, .int (x2 + (1 : Int32))), (1, .int (x1 ||| ((1 : Int32) <<< (x2 &&& 31)))), (3, .ref (ad b3)), (0, .ref (ad x0))]) hx hb dX3_liftedSet_39 hl (k := 3) rfl rfl (by decide) rfl (fun ls hl => ?_)
          refine lv_goto (pc := 42) (tgt := 4) hx hb dX3_liftedSet_42 (by decide) ?_
          exact ih _ _ _ _ _ _ hk_x0 h hP hD hS (lv_sub hl [3, 1, 0] rfl)
def p3_liftedSet (σ : kx_St) (x0 : Nat) (Q : Int32 → Prop) : Prop := kx_k 0 x0 = 3 ∧ (∃ m4, p3_liftedSet_L4 m4 σ x0 (0 : Int32) (0 : Int32) Q)
set_option maxHeartbeats 4000000 in
theorem q3_liftedSet {σ : kx_St} {x0 : Nat} {Q : Int32 → Prop} (h : p3_liftedSet σ x0 Q) : Met l yX3_liftedSet (Cond.code yX3_liftedSet cX3_liftedSet 4 (some .int) :: kx_big) rm3_liftedSet (va_Pc [.ref (ad x0)] (kx_Wd D cy 0 ad A σ)) (kx_Qc kx_ci (fun u r => u = σ ∧ Q r) (kx_Wd D cy 0 ad A) A) 0 0 A := by
  refine kx_head (plainFor_of_name (by decide)) (Nat.le_of_ble_eq_true rfl) ?_
  intro p e s m below meth c ls cx hP hD hS hl
  obtain ⟨hx, hb, hr, hlocks, hml, hown, hts, hK⟩ := id cx
  obtain ⟨hk_x0, h⟩ := h
  have hl : lv_has ls 4 [(0, .ref (ad x0))] := hl
  refine lv_iconst (pc := 0) (v := (0 : Int32)) hx hb dX3_liftedSet_0 (by decide) ?_
  refine lv_istore_n (pc := 1) (lv' := [(1, .int (0 : Int32)), (0, .ref (ad x0))]) hx hb dX3_liftedSet_1 rfl hl (by decide) rfl (fun ls hl => ?_)
  refine lv_iconst (pc := 2) (v := (0 : Int32)) hx hb dX3_liftedSet_2 (by decide) ?_
  refine lv_istore_n (pc := 3) (lv' := [(2, .int (0 : Int32)), (1, .int (0 : Int32)), (0, .ref (ad x0))]) hx hb dX3_liftedSet_3 rfl hl (by decide) rfl (fun ls hl => ?_)
  obtain ⟨n0, h⟩ := h
  exact w3_liftedSet_L4 cx  n0 _ _ _ _ _ _ hk_x0 h hP hD hS (lv_sub hl [2, 1, 0] rfl)
def p3_boxes_L4 : Nat → kx_St → Nat → Int32 → Int32 → (Int32 → Prop) → Prop
  | 0, _, _, _, _, _ => False
  | n + 1, σ, x0, x1, x2, Q => ((σ.1 x0 3) ≤ x2 → Q x1) ∧ (¬ (σ.1 x0 3) ≤ x2 → p3_kiteAt σ x0 x2 (fun o2 => (o2 = none → p3_boxes_L4 n σ x0 (x1 + (0 : Int32)) (x2 + (1 : Int32)) Q) ∧ (∀ b3, o2 = some b3 → kx_k 0 b3 = 1 ∧ (p1_isOf σ b3 (3 : Int32) (fun r4 => (r4 = 0 → p3_boxes_L4 n σ x0 (x1 + (0 : Int32)) (x2 + (1 : Int32)) Q) ∧ (¬ r4 = 0 → p3_boxes_L4 n σ x0 (x1 + (1 : Int32)) (x2 + (1 : Int32)) Q))))))
set_option maxHeartbeats 4000000 in
theorem w3_boxes_L4 {σ : kx_St}  {Q : Int32 → Prop} (cx : kx_Cx p s m args meth c D cy RX3 cX3_boxes 4 (some .int))  : ∀ (n : Nat) (x0 : Nat) (x1 : Int32) (x2 : Int32) (H : Heap) (locs : List Loc) (ls : Array Slot), kx_k 0 x0 = 3 → p3_boxes_L4 n σ x0 x1 x2 Q → va_P D vwCl (kx_ws cy 0 ad σ) H → va_D A (kx_ws cy 0 ad σ) → va_S A s.heap H locs → lv_has ls 4 [(0, .ref (ad x0)), (1, .int x1), (2, .int x2)] → W p l e rm3_boxes s m args below meth c H locs 0 0 (MQ below (kx_Qc kx_ci (fun u r => u = σ ∧ Q r) (kx_Wd D cy 0 ad A) A) args s 0 0 A) (F0 m 4 ls []) := by
  obtain ⟨hx, hb, hr, hlocks, hml, hown, hts, hK⟩ := id cx
  intro n
  induction n with
  | zero => intro _ _ _ _ _ _ _ h; exact False.elim h
  | succ n ih =>
    intro x0 x1 x2 H locs ls hk_x0 h hP hD hS hl
    refine lv_iload_n (pc := 4) hx hb dX3_boxes_4 rfl (lv_at hl 2 rfl) ?_
    refine lv_aload_n (pc := 5) hx hb dX3_boxes_5 rfl (lv_at hl 0 rfl) ?_
    refine fg3_35 (pc := 6) hx hb hown hts hK hP hk_x0 dX3_boxes_6 ?_
    refine lv_icmp_ge (pc := 9) (tgt := 44) hx hb dX3_boxes_9 (by decide) (fun c1 => ?_) (fun c1 => ?_)
    · have h := h.1 c1
      refine lv_iload_n (pc := 44) hx hb dX3_boxes_44 rfl (lv_at hl 1 rfl) ?_
      exact kx_iret (pc := 45) hx hb hr hlocks hK hP hD hS ⟨rfl, h⟩ dX3_boxes_45
    · have h := h.2 c1
      refine lv_aload_n (pc := 12) hx hb dX3_boxes_12 rfl (lv_at hl 0 rfl) ?_
      refine lv_iload_n (pc := 13) hx hb dX3_boxes_13 rfl (lv_at hl 2 rfl) ?_
      refine kx_iVr (pc := 14) [.int x2] hx hb hml hown hts hK hP hD hS (q3_kiteAt h) (cw3_57 hts ⟨Nat.le_of_ble_eq_true rfl, Nat.le_of_ble_eq_true rfl⟩) hk_x0 (by decide) rfl rfl hl.1 rfl (Nat.le_of_ble_eq_true rfl) ⟨Nat.le_of_ble_eq_true rfl, Nat.le_of_ble_eq_true rfl⟩ dX3_boxes_14 (fun o2 u_ H locs hP hD hS h => ?_)
      obtain ⟨hu_, h⟩ := h
      rw [hu_] at hP hD
      rcases o2 with _ | b3
      · have h := h.1 rfl
        refine lv_astore_nN (pc := 17) (lv' := [(3, .null), (0, .ref (ad x0)), (1, .int x1), (2, .int x2)]) hx hb dX3_boxes_17 rfl hl (by decide) rfl (fun ls hl => ?_)
        refine lv_iload_n (pc := 18) hx hb dX3_boxes_18 rfl (lv_at hl 2 rfl) ?_
        refine lv_aload_nN (pc := 19) hx hb dX3_boxes_19 rfl (lv_at hl 0 rfl) ?_
        refine lv_ifnullN (pc := 20) (tgt := 35) hx hb dX3_boxes_20 (by decide) ?_
        refine lv_iconst (pc := 35) (v := (0 : Int32)) hx hb dX3_boxes_35 (by decide) ?_
        refine lv_iadd (pc := 36) hx hb dX3_boxes_36 ?_
        refine lv_istore_n (pc := 37) (lv' := [(1, .int (x1 + (0 : Int32))), (3, .null), (0, .ref (ad x0)), (2, .int x2)]) hx hb dX3_boxes_37 rfl hl (by decide) rfl (fun ls hl => ?_)
        refine lv_iinc (pc := 38) (v := (x2 + (1 : Int32))) (lv' := [(2, .int (x2 + (1 : Int32))), (1, .int (x1 + (0 : Int32))), (3, .null), (0, .ref (ad x0))]) hx hb dX3_boxes_38 hl (k := 3) rfl rfl (by decide) rfl (fun ls hl => ?_)
        refine lv_goto (pc := 41) (tgt := 4) hx hb dX3_boxes_41 (by decide) ?_
        exact ih _ _ _ _ _ _ hk_x0 h hP hD hS (lv_sub hl [3, 1, 0] rfl)
      · obtain ⟨hk_b3, h⟩ := h.2 b3 rfl
        refine lv_astore_n (pc := 17) (lv' := [(3, .ref (ad b3)), (0, .ref (ad x0)), (1, .int x1), (2, .int x2)]) hx hb dX3_boxes_17 rfl hl (by decide) rfl (fun ls hl => ?_)
        refine lv_iload_n (pc := 18) hx hb dX3_boxes_18 rfl (lv_at hl 2 rfl) ?_
        refine lv_aload_n (pc := 19) hx hb dX3_boxes_19 rfl (lv_at hl 0 rfl) ?_
        refine lv_ifnull (pc := 20) hx hb dX3_boxes_20 ?_
        refine lv_aload_n (pc := 23) hx hb dX3_boxes_23 rfl (lv_at hl 0 rfl) ?_
        refine lv_iconst (pc := 24) (v := (3 : Int32)) hx hb dX3_boxes_24 (by decide) ?_
        refine kx_iVi (pc := 25) [.int (3 : Int32)] hx hb hml hown hts hK hP hD hS (q1_isOf h) (cw3_76 hts ⟨Nat.le_of_ble_eq_true rfl, Nat.le_of_ble_eq_true rfl⟩) hk_b3 (by decide) rfl rfl hl.1 rfl (Nat.le_of_ble_eq_true rfl) ⟨Nat.le_of_ble_eq_true rfl, Nat.le_of_ble_eq_true rfl⟩ dX3_boxes_25 (fun r4 u_ H locs hP hD hS h => ?_)
        obtain ⟨hu_, h⟩ := h
        rw [hu_] at hP hD
        refine lv_if_eq (pc := 28) (tgt := 35) hx hb dX3_boxes_28 (by decide) (fun c5 => ?_) (fun c5 => ?_)
        · have h := h.1 c5
          refine lv_iconst (pc := 35) (v := (0 : Int32)) hx hb dX3_boxes_35 (by decide) ?_
          refine lv_iadd (pc := 36) hx hb dX3_boxes_36 ?_
          refine lv_istore_n (pc := 37) (lv' := [(1, .int (x1 + (0 : Int32))), (3, .ref (ad b3)), (0, .ref (ad x0)), (2, .int x2)]) hx hb dX3_boxes_37 rfl hl (by decide) rfl (fun ls hl => ?_)
          refine lv_iinc (pc := 38) (v := (x2 + (1 : Int32))) (lv' := [(2, .int (x2 + (1 : Int32))), (1, .int (x1 + (0 : Int32))), (3, .ref (ad b3)), (0, .ref (ad x0))]) hx hb dX3_boxes_38 hl (k := 3) rfl rfl (by decide) rfl (fun ls hl => ?_)
          refine lv_goto (pc := 41) (tgt := 4) hx hb dX3_boxes_41 (by decide) ?_
          exact ih _ _ _ _ _ _ hk_x0 h hP hD hS (lv_sub hl [3, 1, 0] rfl)
        · have h := h.2 c5
          refine lv_iconst (pc := 31) (v := (1 : Int32)) hx hb dX3_boxes_31 (by decide) ?_
          refine lv_goto (pc := 32) (tgt := 36) hx hb dX3_boxes_32 (by decide) ?_
          refine lv_iadd (pc := 36) hx hb dX3_boxes_36 ?_
          refine lv_istore_n (pc := 37) (lv' := [(1, .int (x1 + (1 : Int32))), (3, .ref (ad b3)), (0, .ref (ad x0)), (2, .int x2)]) hx hb dX3_boxes_37 rfl hl (by decide) rfl (fun ls hl => ?_)
          refine lv_iinc (pc := 38) (v := (x2 + (1 : Int32))) (lv' := [(2, .int (x2 + (1 : Int32))), (1, .int (x1 + (1 : Int32))), (3, .ref (ad b3)), (0, .ref (ad x0))]) hx hb dX3_boxes_38 hl (k := 3) rfl rfl (by decide) rfl (fun ls hl => ?_)
          refine lv_goto (pc := 41) (tgt := 4) hx hb dX3_boxes_41 (by decide) ?_
          exact ih _ _ _ _ _ _ hk_x0 h hP hD hS (lv_sub hl [3, 1, 0] rfl)
def p3_boxes (σ : kx_St) (x0 : Nat) (Q : Int32 → Prop) : Prop := kx_k 0 x0 = 3 ∧ (∃ m4, p3_boxes_L4 m4 σ x0 (0 : Int32) (0 : Int32) Q)
set_option maxHeartbeats 4000000 in
theorem q3_boxes {σ : kx_St} {x0 : Nat} {Q : Int32 → Prop} (h : p3_boxes σ x0 Q) : Met l yX3_boxes (Cond.code yX3_boxes cX3_boxes 4 (some .int) :: kx_big) rm3_boxes (va_Pc [.ref (ad x0)] (kx_Wd D cy 0 ad A σ)) (kx_Qc kx_ci (fun u r => u = σ ∧ Q r) (kx_Wd D cy 0 ad A) A) 0 0 A := by
  refine kx_head (plainFor_of_name (by decide)) (Nat.le_of_ble_eq_true rfl) ?_
  intro p e s m below meth c ls cx hP hD hS hl
  obtain ⟨hx, hb, hr, hlocks, hml, hown, hts, hK⟩ := id cx
  obtain ⟨hk_x0, h⟩ := h
  have hl : lv_has ls 4 [(0, .ref (ad x0))] := hl
  refine lv_iconst (pc := 0) (v := (0 : Int32)) hx hb dX3_boxes_0 (by decide) ?_
  refine lv_istore_n (pc := 1) (lv' := [(1, .int (0 : Int32)), (0, .ref (ad x0))]) hx hb dX3_boxes_1 rfl hl (by decide) rfl (fun ls hl => ?_)
  refine lv_iconst (pc := 2) (v := (0 : Int32)) hx hb dX3_boxes_2 (by decide) ?_
  refine lv_istore_n (pc := 3) (lv' := [(2, .int (0 : Int32)), (1, .int (0 : Int32)), (0, .ref (ad x0))]) hx hb dX3_boxes_3 rfl hl (by decide) rfl (fun ls hl => ?_)
  obtain ⟨n0, h⟩ := h
  exact w3_boxes_L4 cx  n0 _ _ _ _ _ _ hk_x0 h hP hD hS (lv_sub hl [2, 1, 0] rfl)
def p3_note (σ : kx_St) (x0 : Nat) (x1 : Int32) (x2 : Int32) (Q : kx_St → Prop) : Prop := kx_k 0 x0 = 3 ∧ (((σ.1 x0 6) < 0 → Q σ) ∧ (¬ (σ.1 x0 6) < 0 → ((Int32.ofNat (kx_l 0 (kx_r 0 x0 2))) ≤ (σ.1 x0 6) → Q σ) ∧ (¬ (Int32.ofNat (kx_l 0 (kx_r 0 x0 2))) ≤ (σ.1 x0 6) → vp_in (σ.1 x0 6) (kx_l 0 (kx_r 0 x0 2)) ∧ ((fun σ4 : kx_St => (fun σ5 : kx_St => Q σ5) (kx_sI σ4 x0 6 ((σ4.1 x0 6) + (1 : Int32)))) (kx_sI σ (kx_r 0 x0 2) (σ.1 x0 6).toNatClampNeg (((8 : Int32) * x1) + x2))))))
set_option maxHeartbeats 4000000 in
theorem q3_note {σ : kx_St} {x0 : Nat} {x1 : Int32} {x2 : Int32} {Q : kx_St → Prop} (h : p3_note σ x0 x1 x2 Q) : Met l yX3_note (Cond.code yX3_note cX3_note 3 none :: kx_big) rm3_note (va_Pc [.ref (ad x0), .int x1, .int x2] (kx_Wd D cy 0 ad A σ)) (kx_Qc kx_cv (fun u _ => Q u) (kx_Wd D cy 0 ad A) A) 0 0 A := by
  refine kx_head (plainFor_of_name (by decide)) (Nat.le_of_ble_eq_true rfl) ?_
  intro p e s m below meth c ls cx hP hD hS hl
  obtain ⟨hx, hb, hr, hlocks, hml, hown, hts, hK⟩ := id cx
  obtain ⟨hk_x0, h⟩ := h
  have hl : lv_has ls 3 [(0, .ref (ad x0)), (1, .int x1), (2, .int x2)] := hl
  refine lv_aload_n (pc := 0) hx hb dX3_note_0 rfl (lv_at hl 0 rfl) ?_
  refine fg3_45 (pc := 1) hx hb hown hts hK hP hk_x0 dX3_note_1 ?_
  refine lv_if_lt (pc := 4) (tgt := 44) hx hb dX3_note_4 (by decide) (fun c1 => ?_) (fun c1 => ?_)
  · have h := h.1 c1
    exact kx_vret (pc := 44) hx hb hr hlocks hK hP hD hS h dX3_note_44
  · have h := h.2 c1
    refine lv_aload_n (pc := 7) hx hb dX3_note_7 rfl (lv_at hl 0 rfl) ?_
    refine fg3_45 (pc := 8) hx hb hown hts hK hP hk_x0 dX3_note_8 ?_
    refine lv_aload_n (pc := 11) hx hb dX3_note_11 rfl (lv_at hl 0 rfl) ?_
    refine fg3_21 (pc := 12) hx hb hown hts hK hP hk_x0 rfl dX3_note_12 ?_
    refine kx_alen (pc := 15) hx hb hK hP (ky_3_2 hk_x0) (by decide) (by decide) dX3_note_15 ?_
    refine lv_icmp_ge (pc := 16) (tgt := 44) hx hb dX3_note_16 (by decide) (fun c2 => ?_) (fun c2 => ?_)
    · have h := h.1 c2
      exact kx_vret (pc := 44) hx hb hr hlocks hK hP hD hS h dX3_note_44
    · have h := h.2 c2
      refine lv_aload_n (pc := 19) hx hb dX3_note_19 rfl (lv_at hl 0 rfl) ?_
      refine fg3_21 (pc := 20) hx hb hown hts hK hP hk_x0 rfl dX3_note_20 ?_
      refine lv_aload_n (pc := 23) hx hb dX3_note_23 rfl (lv_at hl 0 rfl) ?_
      refine fg3_45 (pc := 24) hx hb hown hts hK hP hk_x0 dX3_note_24 ?_
      refine lv_bipush (pc := 27) (v := (8 : Int32)) hx hb dX3_note_27 (by decide) ?_
      refine lv_iload_n (pc := 29) hx hb dX3_note_29 rfl (lv_at hl 1 rfl) ?_
      refine lv_imul (pc := 30) hx hb dX3_note_30 ?_
      refine lv_iload_n (pc := 31) hx hb dX3_note_31 rfl (lv_at hl 2 rfl) ?_
      refine lv_iadd (pc := 32) hx hb dX3_note_32 ?_
      obtain ⟨g3, h⟩ := h
      refine kx_iast (pc := 33) hx hb hK hP hD hS (ky_3_2 hk_x0) g3 dX3_note_33 (fun H locs hP hD hS => ?_)
      refine lv_aload_n (pc := 34) hx hb dX3_note_34 rfl (lv_at hl 0 rfl) ?_
      refine lv_dup (pc := 35) hx hb dX3_note_35 rfl ?_
      refine fg3_45 (pc := 36) hx hb hown hts hK hP hk_x0 dX3_note_36 ?_
      refine lv_iconst (pc := 39) (v := (1 : Int32)) hx hb dX3_note_39 (by decide) ?_
      refine lv_iadd (pc := 40) hx hb dX3_note_40 ?_
      refine fp3_45 (pc := 41) hx hb hown hts hK hP hD hS hk_x0 dX3_note_41 (fun H locs hP hD hS => ?_)
      exact kx_vret (pc := 44) hx hb hr hlocks hK hP hD hS h dX3_note_44
def p3_doFly (σ : kx_St) (x0 : Nat) (x1 : Int32) (Q : kx_St → Prop) : Prop := kx_k 0 x0 = 3 ∧ (p3_kiteAt σ x0 x1 (fun o1 => (o1 = none → Q σ) ∧ (∀ b2, o1 = some b2 → kx_k 0 b2 = 1 ∧ (p1_wasFlown σ b2 (fun r3 => (¬ r3 = 0 → Q σ) ∧ (r3 = 0 → p3_isFull σ x0 (fun r5 => (r5 = 0 → p3_windIn σ x0 (0 : Int32) (fun r7 => p1_payIn σ b2 r7 (fun r8 => (fun σ9 : kx_St => p3_windIn σ9 x0 (0 : Int32) (fun r10 => p1_isLiftedIn σ9 b2 r10 (fun r11 => (r11 = 0 ∨ r11 = 1) ∧ ((fun σ13 : kx_St => (fun σ14 : kx_St => (fun σ15 : kx_St => p3_note σ15 x0 (0 : Int32) x1 (fun σ17 => Q σ17)) (kx_sI σ14 x0 5 ((σ14.1 x0 5) + (1 : Int32)))) (kx_sI σ13 x0 7 ((σ13.1 x0 7) + (σ13.1 b2 4)))) (kx_sI σ9 b2 5 r11))))) (kx_sI σ b2 4 r8)))) ∧ (¬ r5 = 0 → Q σ))))))))
set_option maxHeartbeats 4000000 in
theorem q3_doFly {σ : kx_St} {x0 : Nat} {x1 : Int32} {Q : kx_St → Prop} (h : p3_doFly σ x0 x1 Q) : Met l yX3_doFly (Cond.code yX3_doFly cX3_doFly 3 none :: kx_big) rm3_doFly (va_Pc [.ref (ad x0), .int x1] (kx_Wd D cy 0 ad A σ)) (kx_Qc kx_cv (fun u _ => Q u) (kx_Wd D cy 0 ad A) A) 0 0 A := by
  refine kx_head (plainFor_of_name (by decide)) (Nat.le_of_ble_eq_true rfl) ?_
  intro p e s m below meth c ls cx hP hD hS hl
  obtain ⟨hx, hb, hr, hlocks, hml, hown, hts, hK⟩ := id cx
  obtain ⟨hk_x0, h⟩ := h
  have hl : lv_has ls 3 [(0, .ref (ad x0)), (1, .int x1)] := hl
  refine lv_aload_n (pc := 0) hx hb dX3_doFly_0 rfl (lv_at hl 0 rfl) ?_
  refine lv_iload_n (pc := 1) hx hb dX3_doFly_1 rfl (lv_at hl 1 rfl) ?_
  refine kx_iVr (pc := 2) [.int x1] hx hb hml hown hts hK hP hD hS (q3_kiteAt h) (cw3_57 hts ⟨Nat.le_of_ble_eq_true rfl, Nat.le_of_ble_eq_true rfl⟩) hk_x0 (by decide) rfl rfl hl.1 rfl (Nat.le_of_ble_eq_true rfl) ⟨Nat.le_of_ble_eq_true rfl, Nat.le_of_ble_eq_true rfl⟩ dX3_doFly_2 (fun o1 u_ H locs hP hD hS h => ?_)
  obtain ⟨hu_, h⟩ := h
  rw [hu_] at hP hD
  rcases o1 with _ | b2
  · have h := h.1 rfl
    refine lv_astore_nN (pc := 5) (lv' := [(2, .null), (0, .ref (ad x0)), (1, .int x1)]) hx hb dX3_doFly_5 rfl hl (by decide) rfl (fun ls hl => ?_)
    refine lv_aload_nN (pc := 6) hx hb dX3_doFly_6 rfl (lv_at hl 0 rfl) ?_
    refine lv_ifnullN (pc := 7) (tgt := 24) hx hb dX3_doFly_7 (by decide) ?_
    exact kx_vret (pc := 24) hx hb hr hlocks hK hP hD hS h dX3_doFly_24
  · obtain ⟨hk_b2, h⟩ := h.2 b2 rfl
    refine lv_astore_n (pc := 5) (lv' := [(2, .ref (ad b2)), (0, .ref (ad x0)), (1, .int x1)]) hx hb dX3_doFly_5 rfl hl (by decide) rfl (fun ls hl => ?_)
    refine lv_aload_n (pc := 6) hx hb dX3_doFly_6 rfl (lv_at hl 0 rfl) ?_
    refine lv_ifnull (pc := 7) hx hb dX3_doFly_7 ?_
    refine lv_aload_n (pc := 10) hx hb dX3_doFly_10 rfl (lv_at hl 0 rfl) ?_
    refine kx_iVi (pc := 11) [] hx hb hml hown hts hK hP hD hS (q1_wasFlown h) (cw3_68 hts ⟨Nat.le_of_ble_eq_true rfl, Nat.le_of_ble_eq_true rfl⟩) hk_b2 (by decide) rfl rfl hl.1 rfl (Nat.le_of_ble_eq_true rfl) ⟨Nat.le_of_ble_eq_true rfl, Nat.le_of_ble_eq_true rfl⟩ dX3_doFly_11 (fun r3 u_ H locs hP hD hS h => ?_)
    obtain ⟨hu_, h⟩ := h
    rw [hu_] at hP hD
    refine lv_if_ne (pc := 14) (tgt := 24) hx hb dX3_doFly_14 (by decide) (fun c4 => ?_) (fun c4 => ?_)
    · have h := h.1 c4
      exact kx_vret (pc := 24) hx hb hr hlocks hK hP hD hS h dX3_doFly_24
    · have h := h.2 c4
      refine lv_aload_n (pc := 17) hx hb dX3_doFly_17 rfl (lv_at hl 1 rfl) ?_
      refine kx_iVi (pc := 18) [] hx hb hml hown hts hK hP hD hS (q3_isFull h) (cw3_80 hts ⟨Nat.le_of_ble_eq_true rfl, Nat.le_of_ble_eq_true rfl⟩) hk_x0 (by decide) rfl rfl hl.1 rfl (Nat.le_of_ble_eq_true rfl) ⟨Nat.le_of_ble_eq_true rfl, Nat.le_of_ble_eq_true rfl⟩ dX3_doFly_18 (fun r5 u_ H locs hP hD hS h => ?_)
      obtain ⟨hu_, h⟩ := h
      rw [hu_] at hP hD
      refine lv_if_eq (pc := 21) (tgt := 25) hx hb dX3_doFly_21 (by decide) (fun c6 => ?_) (fun c6 => ?_)
      · have h := h.1 c6
        refine lv_aload_n (pc := 25) hx hb dX3_doFly_25 rfl (lv_at hl 0 rfl) ?_
        refine lv_aload_n (pc := 26) hx hb dX3_doFly_26 rfl (lv_at hl 0 rfl) ?_
        refine lv_aload_n (pc := 27) hx hb dX3_doFly_27 rfl (lv_at hl 1 rfl) ?_
        refine lv_iconst (pc := 28) (v := (0 : Int32)) hx hb dX3_doFly_28 (by decide) ?_
        refine kx_iVi (pc := 29) [.int (0 : Int32)] hx hb hml hown hts hK hP hD hS (q3_windIn h) (cw3_83 hts ⟨Nat.le_of_ble_eq_true rfl, Nat.le_of_ble_eq_true rfl⟩) hk_x0 (by decide) rfl rfl hl.1 rfl (Nat.le_of_ble_eq_true rfl) ⟨Nat.le_of_ble_eq_true rfl, Nat.le_of_ble_eq_true rfl⟩ dX3_doFly_29 (fun r7 u_ H locs hP hD hS h => ?_)
        obtain ⟨hu_, h⟩ := h
        rw [hu_] at hP hD
        refine kx_iVi (pc := 32) [.int r7] hx hb hml hown hts hK hP hD hS (q1_payIn h) (cw3_86 hts ⟨Nat.le_of_ble_eq_true rfl, Nat.le_of_ble_eq_true rfl⟩) hk_b2 (by decide) rfl rfl hl.1 rfl (Nat.le_of_ble_eq_true rfl) ⟨Nat.le_of_ble_eq_true rfl, Nat.le_of_ble_eq_true rfl⟩ dX3_doFly_32 (fun r8 u_ H locs hP hD hS h => ?_)
        obtain ⟨hu_, h⟩ := h
        rw [hu_] at hP hD
        refine fp3_89 (pc := 35) hx hb hown hts hK hP hD hS hk_b2 dX3_doFly_35 (fun H locs hP hD hS => ?_)
        refine lv_aload_n (pc := 38) hx hb dX3_doFly_38 rfl (lv_at hl 0 rfl) ?_
        refine lv_aload_n (pc := 39) hx hb dX3_doFly_39 rfl (lv_at hl 0 rfl) ?_
        refine lv_aload_n (pc := 40) hx hb dX3_doFly_40 rfl (lv_at hl 1 rfl) ?_
        refine lv_iconst (pc := 41) (v := (0 : Int32)) hx hb dX3_doFly_41 (by decide) ?_
        refine kx_iVi (pc := 42) [.int (0 : Int32)] hx hb hml hown hts hK hP hD hS (q3_windIn h) (cw3_83 hts ⟨Nat.le_of_ble_eq_true rfl, Nat.le_of_ble_eq_true rfl⟩) hk_x0 (by decide) rfl rfl hl.1 rfl (Nat.le_of_ble_eq_true rfl) ⟨Nat.le_of_ble_eq_true rfl, Nat.le_of_ble_eq_true rfl⟩ dX3_doFly_42 (fun r10 u_ H locs hP hD hS h => ?_)
        obtain ⟨hu_, h⟩ := h
        rw [hu_] at hP hD
        refine kx_iVi (pc := 45) [.int r10] hx hb hml hown hts hK hP hD hS (q1_isLiftedIn h) (cw3_90 hts ⟨Nat.le_of_ble_eq_true rfl, Nat.le_of_ble_eq_true rfl⟩) hk_b2 (by decide) rfl rfl hl.1 rfl (Nat.le_of_ble_eq_true rfl) ⟨Nat.le_of_ble_eq_true rfl, Nat.le_of_ble_eq_true rfl⟩ dX3_doFly_45 (fun r11 u_ H locs hP hD hS h => ?_)
        obtain ⟨hu_, h⟩ := h
        rw [hu_] at hP hD
        obtain ⟨g12, h⟩ := h
        refine fp3_72 (pc := 48) hx hb hown hts hK hP hD hS hk_b2 g12 dX3_doFly_48 (fun H locs hP hD hS => ?_)
        refine lv_aload_n (pc := 51) hx hb dX3_doFly_51 rfl (lv_at hl 1 rfl) ?_
        refine lv_dup (pc := 52) hx hb dX3_doFly_52 rfl ?_
        refine fg3_48 (pc := 53) hx hb hown hts hK hP hk_x0 dX3_doFly_53 ?_
        refine lv_aload_n (pc := 56) hx hb dX3_doFly_56 rfl (lv_at hl 0 rfl) ?_
        refine fg3_89 (pc := 57) hx hb hown hts hK hP hk_b2 dX3_doFly_57 ?_
        refine lv_iadd (pc := 60) hx hb dX3_doFly_60 ?_
        refine fp3_48 (pc := 61) hx hb hown hts hK hP hD hS hk_x0 dX3_doFly_61 (fun H locs hP hD hS => ?_)
        refine lv_aload_n (pc := 64) hx hb dX3_doFly_64 rfl (lv_at hl 1 rfl) ?_
        refine lv_dup (pc := 65) hx hb dX3_doFly_65 rfl ?_
        refine fg3_42 (pc := 66) hx hb hown hts hK hP hk_x0 dX3_doFly_66 ?_
        refine lv_iconst (pc := 69) (v := (1 : Int32)) hx hb dX3_doFly_69 (by decide) ?_
        refine lv_iadd (pc := 70) hx hb dX3_doFly_70 ?_
        refine fp3_42 (pc := 71) hx hb hown hts hK hP hD hS hk_x0 dX3_doFly_71 (fun H locs hP hD hS => ?_)
        refine lv_aload_n (pc := 74) hx hb dX3_doFly_74 rfl (lv_at hl 1 rfl) ?_
        refine lv_iconst (pc := 75) (v := (0 : Int32)) hx hb dX3_doFly_75 (by decide) ?_
        refine lv_iload_n (pc := 76) hx hb dX3_doFly_76 rfl (lv_at hl 2 rfl) ?_
        refine kx_iVv (pc := 77) [.int (0 : Int32), .int x1] hx hb hml hown hts hK hP hD hS (q3_note h) (cw3_93 hts ⟨Nat.le_of_ble_eq_true rfl, Nat.le_of_ble_eq_true rfl⟩) hk_x0 (by decide) rfl rfl hl.1 rfl (Nat.le_of_ble_eq_true rfl) ⟨Nat.le_of_ble_eq_true rfl, Nat.le_of_ble_eq_true rfl⟩ dX3_doFly_77 (fun _ σ17 H locs hP hD hS h => ?_)
        exact kx_vret (pc := 80) hx hb hr hlocks hK hP hD hS h dX3_doFly_80
      · have h := h.2 c6
        exact kx_vret (pc := 24) hx hb hr hlocks hK hP hD hS h dX3_doFly_24
def p3_doPass (σ : kx_St) (x0 : Nat) (Q : kx_St → Prop) : Prop := kx_k 0 x0 = 3 ∧ (p3_isFull σ x0 (fun r1 => (r1 = 0 → (fun σ3 : kx_St => p3_note σ3 x0 (1 : Int32) (0 : Int32) (fun σ5 => Q σ5)) (kx_sI σ x0 5 ((σ.1 x0 5) + (1 : Int32)))) ∧ (¬ r1 = 0 → Q σ)))
set_option maxHeartbeats 4000000 in
theorem q3_doPass {σ : kx_St} {x0 : Nat} {Q : kx_St → Prop} (h : p3_doPass σ x0 Q) : Met l yX3_doPass (Cond.code yX3_doPass cX3_doPass 1 none :: kx_big) rm3_doPass (va_Pc [.ref (ad x0)] (kx_Wd D cy 0 ad A σ)) (kx_Qc kx_cv (fun u _ => Q u) (kx_Wd D cy 0 ad A) A) 0 0 A := by
  refine kx_head (plainFor_of_name (by decide)) (Nat.le_of_ble_eq_true rfl) ?_
  intro p e s m below meth c ls cx hP hD hS hl
  obtain ⟨hx, hb, hr, hlocks, hml, hown, hts, hK⟩ := id cx
  obtain ⟨hk_x0, h⟩ := h
  have hl : lv_has ls 1 [(0, .ref (ad x0))] := hl
  refine lv_aload_n (pc := 0) hx hb dX3_doPass_0 rfl (lv_at hl 0 rfl) ?_
  refine kx_iVi (pc := 1) [] hx hb hml hown hts hK hP hD hS (q3_isFull h) (cw3_80 hts ⟨Nat.le_of_ble_eq_true rfl, Nat.le_of_ble_eq_true rfl⟩) hk_x0 (by decide) rfl rfl hl.1 rfl (Nat.le_of_ble_eq_true rfl) ⟨Nat.le_of_ble_eq_true rfl, Nat.le_of_ble_eq_true rfl⟩ dX3_doPass_1 (fun r1 u_ H locs hP hD hS h => ?_)
  obtain ⟨hu_, h⟩ := h
  rw [hu_] at hP hD
  refine lv_if_eq (pc := 4) (tgt := 8) hx hb dX3_doPass_4 (by decide) (fun c2 => ?_) (fun c2 => ?_)
  · have h := h.1 c2
    refine lv_aload_n (pc := 8) hx hb dX3_doPass_8 rfl (lv_at hl 0 rfl) ?_
    refine lv_dup (pc := 9) hx hb dX3_doPass_9 rfl ?_
    refine fg3_42 (pc := 10) hx hb hown hts hK hP hk_x0 dX3_doPass_10 ?_
    refine lv_iconst (pc := 13) (v := (1 : Int32)) hx hb dX3_doPass_13 (by decide) ?_
    refine lv_iadd (pc := 14) hx hb dX3_doPass_14 ?_
    refine fp3_42 (pc := 15) hx hb hown hts hK hP hD hS hk_x0 dX3_doPass_15 (fun H locs hP hD hS => ?_)
    refine lv_aload_n (pc := 18) hx hb dX3_doPass_18 rfl (lv_at hl 0 rfl) ?_
    refine lv_iconst (pc := 19) (v := (1 : Int32)) hx hb dX3_doPass_19 (by decide) ?_
    refine lv_iconst (pc := 20) (v := (0 : Int32)) hx hb dX3_doPass_20 (by decide) ?_
    refine kx_iVv (pc := 21) [.int (1 : Int32), .int (0 : Int32)] hx hb hml hown hts hK hP hD hS (q3_note h) (cw3_93 hts ⟨Nat.le_of_ble_eq_true rfl, Nat.le_of_ble_eq_true rfl⟩) hk_x0 (by decide) rfl rfl hl.1 rfl (Nat.le_of_ble_eq_true rfl) ⟨Nat.le_of_ble_eq_true rfl, Nat.le_of_ble_eq_true rfl⟩ dX3_doPass_21 (fun _ σ5 H locs hP hD hS h => ?_)
    exact kx_vret (pc := 24) hx hb hr hlocks hK hP hD hS h dX3_doPass_24
  · have h := h.2 c2
    exact kx_vret (pc := 7) hx hb hr hlocks hK hP hD hS h dX3_doPass_7
def p3_doTie (σ : kx_St) (x0 : Nat) (x1 : Int32) (Q : kx_St → Prop) : Prop := kx_k 0 x0 = 3 ∧ (p3_kiteAt σ x0 x1 (fun o1 => (o1 = none → Q σ) ∧ (∀ b2, o1 = some b2 → kx_k 0 b2 = 1 ∧ (p3_isFull σ x0 (fun r3 => (r3 = 0 → (fun σ5 : kx_St => p3_note σ5 x0 (2 : Int32) x1 (fun σ7 => Q σ7)) (kx_sI σ b2 3 ((σ.1 b2 3) + (1 : Int32)))) ∧ (¬ r3 = 0 → Q σ))))))
set_option maxHeartbeats 4000000 in
theorem q3_doTie {σ : kx_St} {x0 : Nat} {x1 : Int32} {Q : kx_St → Prop} (h : p3_doTie σ x0 x1 Q) : Met l yX3_doTie (Cond.code yX3_doTie cX3_doTie 3 none :: kx_big) rm3_doTie (va_Pc [.ref (ad x0), .int x1] (kx_Wd D cy 0 ad A σ)) (kx_Qc kx_cv (fun u _ => Q u) (kx_Wd D cy 0 ad A) A) 0 0 A := by
  refine kx_head (plainFor_of_name (by decide)) (Nat.le_of_ble_eq_true rfl) ?_
  intro p e s m below meth c ls cx hP hD hS hl
  obtain ⟨hx, hb, hr, hlocks, hml, hown, hts, hK⟩ := id cx
  obtain ⟨hk_x0, h⟩ := h
  have hl : lv_has ls 3 [(0, .ref (ad x0)), (1, .int x1)] := hl
  refine lv_aload_n (pc := 0) hx hb dX3_doTie_0 rfl (lv_at hl 0 rfl) ?_
  refine lv_iload_n (pc := 1) hx hb dX3_doTie_1 rfl (lv_at hl 1 rfl) ?_
  refine kx_iVr (pc := 2) [.int x1] hx hb hml hown hts hK hP hD hS (q3_kiteAt h) (cw3_57 hts ⟨Nat.le_of_ble_eq_true rfl, Nat.le_of_ble_eq_true rfl⟩) hk_x0 (by decide) rfl rfl hl.1 rfl (Nat.le_of_ble_eq_true rfl) ⟨Nat.le_of_ble_eq_true rfl, Nat.le_of_ble_eq_true rfl⟩ dX3_doTie_2 (fun o1 u_ H locs hP hD hS h => ?_)
  obtain ⟨hu_, h⟩ := h
  rw [hu_] at hP hD
  rcases o1 with _ | b2
  · have h := h.1 rfl
    refine lv_astore_nN (pc := 5) (lv' := [(2, .null), (0, .ref (ad x0)), (1, .int x1)]) hx hb dX3_doTie_5 rfl hl (by decide) rfl (fun ls hl => ?_)
    refine lv_aload_nN (pc := 6) hx hb dX3_doTie_6 rfl (lv_at hl 0 rfl) ?_
    refine lv_ifnullN (pc := 7) (tgt := 17) hx hb dX3_doTie_7 (by decide) ?_
    exact kx_vret (pc := 17) hx hb hr hlocks hK hP hD hS h dX3_doTie_17
  · obtain ⟨hk_b2, h⟩ := h.2 b2 rfl
    refine lv_astore_n (pc := 5) (lv' := [(2, .ref (ad b2)), (0, .ref (ad x0)), (1, .int x1)]) hx hb dX3_doTie_5 rfl hl (by decide) rfl (fun ls hl => ?_)
    refine lv_aload_n (pc := 6) hx hb dX3_doTie_6 rfl (lv_at hl 0 rfl) ?_
    refine lv_ifnull (pc := 7) hx hb dX3_doTie_7 ?_
    refine lv_aload_n (pc := 10) hx hb dX3_doTie_10 rfl (lv_at hl 1 rfl) ?_
    refine kx_iVi (pc := 11) [] hx hb hml hown hts hK hP hD hS (q3_isFull h) (cw3_80 hts ⟨Nat.le_of_ble_eq_true rfl, Nat.le_of_ble_eq_true rfl⟩) hk_x0 (by decide) rfl rfl hl.1 rfl (Nat.le_of_ble_eq_true rfl) ⟨Nat.le_of_ble_eq_true rfl, Nat.le_of_ble_eq_true rfl⟩ dX3_doTie_11 (fun r3 u_ H locs hP hD hS h => ?_)
    obtain ⟨hu_, h⟩ := h
    rw [hu_] at hP hD
    refine lv_if_eq (pc := 14) (tgt := 18) hx hb dX3_doTie_14 (by decide) (fun c4 => ?_) (fun c4 => ?_)
    · have h := h.1 c4
      refine lv_aload_n (pc := 18) hx hb dX3_doTie_18 rfl (lv_at hl 0 rfl) ?_
      refine lv_dup (pc := 19) hx hb dX3_doTie_19 rfl ?_
      refine fg3_97 (pc := 20) hx hb hown hts hK hP hk_b2 dX3_doTie_20 ?_
      refine lv_iconst (pc := 23) (v := (1 : Int32)) hx hb dX3_doTie_23 (by decide) ?_
      refine lv_iadd (pc := 24) hx hb dX3_doTie_24 ?_
      refine fp3_97 (pc := 25) hx hb hown hts hK hP hD hS hk_b2 dX3_doTie_25 (fun H locs hP hD hS => ?_)
      refine lv_aload_n (pc := 28) hx hb dX3_doTie_28 rfl (lv_at hl 1 rfl) ?_
      refine lv_iconst (pc := 29) (v := (2 : Int32)) hx hb dX3_doTie_29 (by decide) ?_
      refine lv_iload_n (pc := 30) hx hb dX3_doTie_30 rfl (lv_at hl 2 rfl) ?_
      refine kx_iVv (pc := 31) [.int (2 : Int32), .int x1] hx hb hml hown hts hK hP hD hS (q3_note h) (cw3_93 hts ⟨Nat.le_of_ble_eq_true rfl, Nat.le_of_ble_eq_true rfl⟩) hk_x0 (by decide) rfl rfl hl.1 rfl (Nat.le_of_ble_eq_true rfl) ⟨Nat.le_of_ble_eq_true rfl, Nat.le_of_ble_eq_true rfl⟩ dX3_doTie_31 (fun _ σ7 H locs hP hD hS h => ?_)
      exact kx_vret (pc := 34) hx hb hr hlocks hK hP hD hS h dX3_doTie_34
    · have h := h.2 c4
      exact kx_vret (pc := 17) hx hb hr hlocks hK hP hD hS h dX3_doTie_17
def p3_doCut (σ : kx_St) (x0 : Nat) (x1 : Int32) (Q : kx_St → Prop) : Prop := kx_k 0 x0 = 3 ∧ (p3_kiteAt σ x0 x1 (fun o1 => (o1 = none → Q σ) ∧ (∀ b2, o1 = some b2 → kx_k 0 b2 = 1 ∧ (p3_isFull σ x0 (fun r3 => (r3 = 0 → (fun σ5 : kx_St => p3_note σ5 x0 (3 : Int32) x1 (fun σ7 => Q σ7)) (kx_sI σ b2 3 ((σ.1 b2 3) - (1 : Int32)))) ∧ (¬ r3 = 0 → Q σ))))))
set_option maxHeartbeats 4000000 in
theorem q3_doCut {σ : kx_St} {x0 : Nat} {x1 : Int32} {Q : kx_St → Prop} (h : p3_doCut σ x0 x1 Q) : Met l yX3_doCut (Cond.code yX3_doCut cX3_doCut 3 none :: kx_big) rm3_doCut (va_Pc [.ref (ad x0), .int x1] (kx_Wd D cy 0 ad A σ)) (kx_Qc kx_cv (fun u _ => Q u) (kx_Wd D cy 0 ad A) A) 0 0 A := by
  refine kx_head (plainFor_of_name (by decide)) (Nat.le_of_ble_eq_true rfl) ?_
  intro p e s m below meth c ls cx hP hD hS hl
  obtain ⟨hx, hb, hr, hlocks, hml, hown, hts, hK⟩ := id cx
  obtain ⟨hk_x0, h⟩ := h
  have hl : lv_has ls 3 [(0, .ref (ad x0)), (1, .int x1)] := hl
  refine lv_aload_n (pc := 0) hx hb dX3_doCut_0 rfl (lv_at hl 0 rfl) ?_
  refine lv_iload_n (pc := 1) hx hb dX3_doCut_1 rfl (lv_at hl 1 rfl) ?_
  refine kx_iVr (pc := 2) [.int x1] hx hb hml hown hts hK hP hD hS (q3_kiteAt h) (cw3_57 hts ⟨Nat.le_of_ble_eq_true rfl, Nat.le_of_ble_eq_true rfl⟩) hk_x0 (by decide) rfl rfl hl.1 rfl (Nat.le_of_ble_eq_true rfl) ⟨Nat.le_of_ble_eq_true rfl, Nat.le_of_ble_eq_true rfl⟩ dX3_doCut_2 (fun o1 u_ H locs hP hD hS h => ?_)
  obtain ⟨hu_, h⟩ := h
  rw [hu_] at hP hD
  rcases o1 with _ | b2
  · have h := h.1 rfl
    refine lv_astore_nN (pc := 5) (lv' := [(2, .null), (0, .ref (ad x0)), (1, .int x1)]) hx hb dX3_doCut_5 rfl hl (by decide) rfl (fun ls hl => ?_)
    refine lv_aload_nN (pc := 6) hx hb dX3_doCut_6 rfl (lv_at hl 0 rfl) ?_
    refine lv_ifnullN (pc := 7) (tgt := 17) hx hb dX3_doCut_7 (by decide) ?_
    exact kx_vret (pc := 17) hx hb hr hlocks hK hP hD hS h dX3_doCut_17
  · obtain ⟨hk_b2, h⟩ := h.2 b2 rfl
    refine lv_astore_n (pc := 5) (lv' := [(2, .ref (ad b2)), (0, .ref (ad x0)), (1, .int x1)]) hx hb dX3_doCut_5 rfl hl (by decide) rfl (fun ls hl => ?_)
    refine lv_aload_n (pc := 6) hx hb dX3_doCut_6 rfl (lv_at hl 0 rfl) ?_
    refine lv_ifnull (pc := 7) hx hb dX3_doCut_7 ?_
    refine lv_aload_n (pc := 10) hx hb dX3_doCut_10 rfl (lv_at hl 1 rfl) ?_
    refine kx_iVi (pc := 11) [] hx hb hml hown hts hK hP hD hS (q3_isFull h) (cw3_80 hts ⟨Nat.le_of_ble_eq_true rfl, Nat.le_of_ble_eq_true rfl⟩) hk_x0 (by decide) rfl rfl hl.1 rfl (Nat.le_of_ble_eq_true rfl) ⟨Nat.le_of_ble_eq_true rfl, Nat.le_of_ble_eq_true rfl⟩ dX3_doCut_11 (fun r3 u_ H locs hP hD hS h => ?_)
    obtain ⟨hu_, h⟩ := h
    rw [hu_] at hP hD
    refine lv_if_eq (pc := 14) (tgt := 18) hx hb dX3_doCut_14 (by decide) (fun c4 => ?_) (fun c4 => ?_)
    · have h := h.1 c4
      refine lv_aload_n (pc := 18) hx hb dX3_doCut_18 rfl (lv_at hl 0 rfl) ?_
      refine lv_dup (pc := 19) hx hb dX3_doCut_19 rfl ?_
      refine fg3_97 (pc := 20) hx hb hown hts hK hP hk_b2 dX3_doCut_20 ?_
      refine lv_iconst (pc := 23) (v := (1 : Int32)) hx hb dX3_doCut_23 (by decide) ?_
      refine lv_isub (pc := 24) hx hb dX3_doCut_24 ?_
      refine fp3_97 (pc := 25) hx hb hown hts hK hP hD hS hk_b2 dX3_doCut_25 (fun H locs hP hD hS => ?_)
      refine lv_aload_n (pc := 28) hx hb dX3_doCut_28 rfl (lv_at hl 1 rfl) ?_
      refine lv_iconst (pc := 29) (v := (3 : Int32)) hx hb dX3_doCut_29 (by decide) ?_
      refine lv_iload_n (pc := 30) hx hb dX3_doCut_30 rfl (lv_at hl 2 rfl) ?_
      refine kx_iVv (pc := 31) [.int (3 : Int32), .int x1] hx hb hml hown hts hK hP hD hS (q3_note h) (cw3_93 hts ⟨Nat.le_of_ble_eq_true rfl, Nat.le_of_ble_eq_true rfl⟩) hk_x0 (by decide) rfl rfl hl.1 rfl (Nat.le_of_ble_eq_true rfl) ⟨Nat.le_of_ble_eq_true rfl, Nat.le_of_ble_eq_true rfl⟩ dX3_doCut_31 (fun _ σ7 H locs hP hD hS h => ?_)
      exact kx_vret (pc := 34) hx hb hr hlocks hK hP hD hS h dX3_doCut_34
    · have h := h.2 c4
      exact kx_vret (pc := 17) hx hb hr hlocks hK hP hD hS h dX3_doCut_17
def p3_undoLatest (σ : kx_St) (x0 : Nat) (Q : kx_St → Prop) : Prop := kx_k 0 x0 = 3 ∧ (((σ.1 x0 6) ≤ 0 → Q σ) ∧ (¬ (σ.1 x0 6) ≤ 0 → ((σ.1 x0 6) ≤ (Int32.ofNat (kx_l 0 (kx_r 0 x0 2))) → (fun σ3 : kx_St => vp_in (σ3.1 x0 6) (kx_l 0 (kx_r 0 x0 2)) ∧ (vp_in (σ3.1 x0 6) (kx_l 0 (kx_r 0 x0 2)) ∧ (p3_kiteAt σ3 x0 ((σ3.1 (kx_r 0 x0 2) (σ3.1 x0 6).toNatClampNeg) - (σ3.1 (kx_r 0 x0 2) (σ3.1 x0 6).toNatClampNeg) / (8 : Int32) * (8 : Int32)) (fun o6 => (o6 = none → (((σ3.1 (kx_r 0 x0 2) (σ3.1 x0 6).toNatClampNeg) / (8 : Int32)) = 0 → (fun σ9 : kx_St => Q σ9) (kx_sI σ3 x0 5 ((σ3.1 x0 5) - (1 : Int32)))) ∧ (¬ ((σ3.1 (kx_r 0 x0 2) (σ3.1 x0 6).toNatClampNeg) / (8 : Int32)) = 0 → (¬ ((σ3.1 (kx_r 0 x0 2) (σ3.1 x0 6).toNatClampNeg) / (8 : Int32)) = (1 : Int32) → Q σ3) ∧ (((σ3.1 (kx_r 0 x0 2) (σ3.1 x0 6).toNatClampNeg) / (8 : Int32)) = (1 : Int32) → (fun σ11 : kx_St => Q σ11) (kx_sI σ3 x0 5 ((σ3.1 x0 5) - (1 : Int32)))))) ∧ (∀ b7, o6 = some b7 → kx_k 0 b7 = 1 ∧ ((((σ3.1 (kx_r 0 x0 2) (σ3.1 x0 6).toNatClampNeg) / (8 : Int32)) = 0 → (fun σ13 : kx_St => (¬ ((σ3.1 (kx_r 0 x0 2) (σ3.1 x0 6).toNatClampNeg) / (8 : Int32)) = 0 → (¬ ((σ3.1 (kx_r 0 x0 2) (σ3.1 x0 6).toNatClampNeg) / (8 : Int32)) = (2 : Int32) → (¬ ((σ3.1 (kx_r 0 x0 2) (σ3.1 x0 6).toNatClampNeg) / (8 : Int32)) = (3 : Int32) → Q σ13) ∧ (((σ3.1 (kx_r 0 x0 2) (σ3.1 x0 6).toNatClampNeg) / (8 : Int32)) = (3 : Int32) → (fun σ17 : kx_St => Q σ17) (kx_sI σ13 b7 3 ((σ13.1 b7 3) + (1 : Int32))))) ∧ (((σ3.1 (kx_r 0 x0 2) (σ3.1 x0 6).toNatClampNeg) / (8 : Int32)) = (2 : Int32) → (fun σ18 : kx_St => Q σ18) (kx_sI σ13 b7 3 ((σ13.1 b7 3) - (1 : Int32))))) ∧ (((σ3.1 (kx_r 0 x0 2) (σ3.1 x0 6).toNatClampNeg) / (8 : Int32)) = 0 → (fun σ19 : kx_St => (fun σ20 : kx_St => (fun σ21 : kx_St => Q σ21) (kx_sI σ20 b7 5 (0 : Int32))) (kx_sI σ19 b7 4 (-9 : Int32))) (kx_sI σ13 x0 7 ((σ13.1 x0 7) - (σ13.1 b7 4))))) (kx_sI σ3 x0 5 ((σ3.1 x0 5) - (1 : Int32)))) ∧ (¬ ((σ3.1 (kx_r 0 x0 2) (σ3.1 x0 6).toNatClampNeg) / (8 : Int32)) = 0 → (¬ ((σ3.1 (kx_r 0 x0 2) (σ3.1 x0 6).toNatClampNeg) / (8 : Int32)) = (1 : Int32) → (¬ ((σ3.1 (kx_r 0 x0 2) (σ3.1 x0 6).toNatClampNeg) / (8 : Int32)) = 0 → (¬ ((σ3.1 (kx_r 0 x0 2) (σ3.1 x0 6).toNatClampNeg) / (8 : Int32)) = (2 : Int32) → (¬ ((σ3.1 (kx_r 0 x0 2) (σ3.1 x0 6).toNatClampNeg) / (8 : Int32)) = (3 : Int32) → Q σ3) ∧ (((σ3.1 (kx_r 0 x0 2) (σ3.1 x0 6).toNatClampNeg) / (8 : Int32)) = (3 : Int32) → (fun σ26 : kx_St => Q σ26) (kx_sI σ3 b7 3 ((σ3.1 b7 3) + (1 : Int32))))) ∧ (((σ3.1 (kx_r 0 x0 2) (σ3.1 x0 6).toNatClampNeg) / (8 : Int32)) = (2 : Int32) → (fun σ27 : kx_St => Q σ27) (kx_sI σ3 b7 3 ((σ3.1 b7 3) - (1 : Int32))))) ∧ (((σ3.1 (kx_r 0 x0 2) (σ3.1 x0 6).toNatClampNeg) / (8 : Int32)) = 0 → (fun σ28 : kx_St => (fun σ29 : kx_St => (fun σ30 : kx_St => Q σ30) (kx_sI σ29 b7 5 (0 : Int32))) (kx_sI σ28 b7 4 (-9 : Int32))) (kx_sI σ3 x0 7 ((σ3.1 x0 7) - (σ3.1 b7 4))))) ∧ (((σ3.1 (kx_r 0 x0 2) (σ3.1 x0 6).toNatClampNeg) / (8 : Int32)) = (1 : Int32) → (fun σ31 : kx_St => (¬ ((σ3.1 (kx_r 0 x0 2) (σ3.1 x0 6).toNatClampNeg) / (8 : Int32)) = 0 → (¬ ((σ3.1 (kx_r 0 x0 2) (σ3.1 x0 6).toNatClampNeg) / (8 : Int32)) = (2 : Int32) → (¬ ((σ3.1 (kx_r 0 x0 2) (σ3.1 x0 6).toNatClampNeg) / (8 : Int32)) = (3 : Int32) → Q σ31) ∧ (((σ3.1 (kx_r 0 x0 2) (σ3.1 x0 6).toNatClampNeg) / (8 : Int32)) = (3 : Int32) → (fun σ35 : kx_St => Q σ35) (kx_sI σ31 b7 3 ((σ31.1 b7 3) + (1 : Int32))))) ∧ (((σ3.1 (kx_r 0 x0 2) (σ3.1 x0 6).toNatClampNeg) / (8 : Int32)) = (2 : Int32) → (fun σ36 : kx_St => Q σ36) (kx_sI σ31 b7 3 ((σ31.1 b7 3) - (1 : Int32))))) ∧ (((σ3.1 (kx_r 0 x0 2) (σ3.1 x0 6).toNatClampNeg) / (8 : Int32)) = 0 → (fun σ37 : kx_St => (fun σ38 : kx_St => (fun σ39 : kx_St => Q σ39) (kx_sI σ38 b7 5 (0 : Int32))) (kx_sI σ37 b7 4 (-9 : Int32))) (kx_sI σ31 x0 7 ((σ31.1 x0 7) - (σ31.1 b7 4))))) (kx_sI σ3 x0 5 ((σ3.1 x0 5) - (1 : Int32))))))))))) (kx_sI σ x0 6 ((σ.1 x0 6) - (1 : Int32)))) ∧ (¬ (σ.1 x0 6) ≤ (Int32.ofNat (kx_l 0 (kx_r 0 x0 2))) → Q σ)))
set_option maxHeartbeats 4000000 in
theorem q3_undoLatest {σ : kx_St} {x0 : Nat} {Q : kx_St → Prop} (h : p3_undoLatest σ x0 Q) : Met l yX3_undoLatest (Cond.code yX3_undoLatest cX3_undoLatest 3 none :: kx_big) rm3_undoLatest (va_Pc [.ref (ad x0)] (kx_Wd D cy 0 ad A σ)) (kx_Qc kx_cv (fun u _ => Q u) (kx_Wd D cy 0 ad A) A) 0 0 A := by
  refine kx_head (plainFor_of_name (by decide)) (Nat.le_of_ble_eq_true rfl) ?_
  intro p e s m below meth c ls cx hP hD hS hl
  obtain ⟨hx, hb, hr, hlocks, hml, hown, hts, hK⟩ := id cx
  obtain ⟨hk_x0, h⟩ := h
  have hl : lv_has ls 3 [(0, .ref (ad x0))] := hl
  refine lv_aload_n (pc := 0) hx hb dX3_undoLatest_0 rfl (lv_at hl 0 rfl) ?_
  refine fg3_45 (pc := 1) hx hb hown hts hK hP hk_x0 dX3_undoLatest_1 ?_
  refine lv_if_le (pc := 4) (tgt := 19) hx hb dX3_undoLatest_4 (by decide) (fun c1 => ?_) (fun c1 => ?_)
  · have h := h.1 c1
    exact kx_vret (pc := 19) hx hb hr hlocks hK hP hD hS h dX3_undoLatest_19
  · have h := h.2 c1
    refine lv_aload_n (pc := 7) hx hb dX3_undoLatest_7 rfl (lv_at hl 0 rfl) ?_
    refine fg3_45 (pc := 8) hx hb hown hts hK hP hk_x0 dX3_undoLatest_8 ?_
    refine lv_aload_n (pc := 11) hx hb dX3_undoLatest_11 rfl (lv_at hl 0 rfl) ?_
    refine fg3_21 (pc := 12) hx hb hown hts hK hP hk_x0 rfl dX3_undoLatest_12 ?_
    refine kx_alen (pc := 15) hx hb hK hP (ky_3_2 hk_x0) (by decide) (by decide) dX3_undoLatest_15 ?_
    refine lv_icmp_le (pc := 16) (tgt := 20) hx hb dX3_undoLatest_16 (by decide) (fun c2 => ?_) (fun c2 => ?_)
    · have h := h.1 c2
      refine lv_aload_n (pc := 20) hx hb dX3_undoLatest_20 rfl (lv_at hl 0 rfl) ?_
      refine lv_dup (pc := 21) hx hb dX3_undoLatest_21 rfl ?_
      refine fg3_45 (pc := 22) hx hb hown hts hK hP hk_x0 dX3_undoLatest_22 ?_
      refine lv_iconst (pc := 25) (v := (1 : Int32)) hx hb dX3_undoLatest_25 (by decide) ?_
      refine lv_isub (pc := 26) hx hb dX3_undoLatest_26 ?_
      refine fp3_45 (pc := 27) hx hb hown hts hK hP hD hS hk_x0 dX3_undoLatest_27 (fun H locs hP hD hS => ?_)
      refine lv_aload_n (pc := 30) hx hb dX3_undoLatest_30 rfl (lv_at hl 0 rfl) ?_
      refine fg3_21 (pc := 31) hx hb hown hts hK hP hk_x0 rfl dX3_undoLatest_31 ?_
      refine lv_aload_n (pc := 34) hx hb dX3_undoLatest_34 rfl (lv_at hl 0 rfl) ?_
      refine fg3_45 (pc := 35) hx hb hown hts hK hP hk_x0 dX3_undoLatest_35 ?_
      obtain ⟨g4, h⟩ := h
      refine kx_iald (pc := 38) hx hb hK hP (ky_3_2 hk_x0) g4 dX3_undoLatest_38 ?_
      refine lv_bipush (pc := 39) (v := (8 : Int32)) hx hb dX3_undoLatest_39 (by decide) ?_
      refine lv_idiv (pc := 41) hx hb dX3_undoLatest_41 (by decide) ?_
      refine lv_istore_n (pc := 42) (lv' := [(1, .int _), (0, .ref (ad x0))]) hx hb dX3_undoLatest_42 rfl hl (by decide) rfl (fun ls hl => ?_)
      refine lv_aload_n (pc := 43) hx hb dX3_undoLatest_43 rfl (lv_at hl 1 rfl) ?_
      refine lv_aload_n (pc := 44) hx hb dX3_undoLatest_44 rfl (lv_at hl 1 rfl) ?_
      refine fg3_21 (pc := 45) hx hb hown hts hK hP hk_x0 rfl dX3_undoLatest_45 ?_
      refine lv_aload_n (pc := 48) hx hb dX3_undoLatest_48 rfl (lv_at hl 1 rfl) ?_
      refine fg3_45 (pc := 49) hx hb hown hts hK hP hk_x0 dX3_undoLatest_49 ?_
      obtain ⟨g5, h⟩ := h
      refine kx_iald (pc := 52) hx hb hK hP (ky_3_2 hk_x0) g5 dX3_undoLatest_52 ?_
      refine lv_bipush (pc := 53) (v := (8 : Int32)) hx hb dX3_undoLatest_53 (by decide) ?_
      refine lv_irem (pc := 55) hx hb dX3_undoLatest_55 (by decide) ?_
      refine kx_iVr (pc := 56) [.int _] hx hb hml hown hts hK hP hD hS (q3_kiteAt h) (cw3_57 hts ⟨Nat.le_of_ble_eq_true rfl, Nat.le_of_ble_eq_true rfl⟩) hk_x0 (by decide) rfl rfl hl.1 rfl (Nat.le_of_ble_eq_true rfl) ⟨Nat.le_of_ble_eq_true rfl, Nat.le_of_ble_eq_true rfl⟩ dX3_undoLatest_56 (fun o6 u_ H locs hP hD hS h => ?_)
      obtain ⟨hu_, h⟩ := h
      rw [hu_] at hP hD
      rcases o6 with _ | b7
      · have h := h.1 rfl
        refine lv_astore_nN (pc := 59) (lv' := [(2, .null), (1, .int _), (0, .ref (ad x0))]) hx hb dX3_undoLatest_59 rfl hl (by decide) rfl (fun ls hl => ?_)
        refine lv_iload_n (pc := 60) hx hb dX3_undoLatest_60 rfl (lv_at hl 1 rfl) ?_
        refine lv_if_eq (pc := 61) (tgt := 69) hx hb dX3_undoLatest_61 (by decide) (fun c8 => ?_) (fun c8 => ?_)
        · have h := h.1 c8
          refine lv_aload_n (pc := 69) hx hb dX3_undoLatest_69 rfl (lv_at hl 2 rfl) ?_
          refine lv_dup (pc := 70) hx hb dX3_undoLatest_70 rfl ?_
          refine fg3_42 (pc := 71) hx hb hown hts hK hP hk_x0 dX3_undoLatest_71 ?_
          refine lv_iconst (pc := 74) (v := (1 : Int32)) hx hb dX3_undoLatest_74 (by decide) ?_
          refine lv_isub (pc := 75) hx hb dX3_undoLatest_75 ?_
          refine fp3_42 (pc := 76) hx hb hown hts hK hP hD hS hk_x0 dX3_undoLatest_76 (fun H locs hP hD hS => ?_)
          refine lv_aload_nN (pc := 79) hx hb dX3_undoLatest_79 rfl (lv_at hl 0 rfl) ?_
          refine lv_ifnonnullN (pc := 80) hx hb dX3_undoLatest_80 ?_
          exact kx_vret (pc := 83) hx hb hr hlocks hK hP hD hS h dX3_undoLatest_83
        · have h := h.2 c8
          refine lv_iload_n (pc := 64) hx hb dX3_undoLatest_64 rfl (lv_at hl 1 rfl) ?_
          refine lv_iconst (pc := 65) (v := (1 : Int32)) hx hb dX3_undoLatest_65 (by decide) ?_
          refine lv_icmp_ne (pc := 66) (tgt := 79) hx hb dX3_undoLatest_66 (by decide) (fun c10 => ?_) (fun c10 => ?_)
          · have h := h.1 c10
            refine lv_aload_nN (pc := 79) hx hb dX3_undoLatest_79 rfl (lv_at hl 0 rfl) ?_
            refine lv_ifnonnullN (pc := 80) hx hb dX3_undoLatest_80 ?_
            exact kx_vret (pc := 83) hx hb hr hlocks hK hP hD hS h dX3_undoLatest_83
          · have h := h.2 c10
            refine lv_aload_n (pc := 69) hx hb dX3_undoLatest_69 rfl (lv_at hl 2 rfl) ?_
            refine lv_dup (pc := 70) hx hb dX3_undoLatest_70 rfl ?_
            refine fg3_42 (pc := 71) hx hb hown hts hK hP hk_x0 dX3_undoLatest_71 ?_
            refine lv_iconst (pc := 74) (v := (1 : Int32)) hx hb dX3_undoLatest_74 (by decide) ?_
            refine lv_isub (pc := 75) hx hb dX3_undoLatest_75 ?_
            refine fp3_42 (pc := 76) hx hb hown hts hK hP hD hS hk_x0 dX3_undoLatest_76 (fun H locs hP hD hS => ?_)
            refine lv_aload_nN (pc := 79) hx hb dX3_undoLatest_79 rfl (lv_at hl 0 rfl) ?_
            refine lv_ifnonnullN (pc := 80) hx hb dX3_undoLatest_80 ?_
            exact kx_vret (pc := 83) hx hb hr hlocks hK hP hD hS h dX3_undoLatest_83
      · obtain ⟨hk_b7, h⟩ := h.2 b7 rfl
        refine lv_astore_n (pc := 59) (lv' := [(2, .ref (ad b7)), (1, .int _), (0, .ref (ad x0))]) hx hb dX3_undoLatest_59 rfl hl (by decide) rfl (fun ls hl => ?_)
        refine lv_iload_n (pc := 60) hx hb dX3_undoLatest_60 rfl (lv_at hl 1 rfl) ?_
        refine lv_if_eq (pc := 61) (tgt := 69) hx hb dX3_undoLatest_61 (by decide) (fun c12 => ?_) (fun c12 => ?_)
        · have h := h.1 c12
          refine lv_aload_n (pc := 69) hx hb dX3_undoLatest_69 rfl (lv_at hl 2 rfl) ?_
          refine lv_dup (pc := 70) hx hb dX3_undoLatest_70 rfl ?_
          refine fg3_42 (pc := 71) hx hb hown hts hK hP hk_x0 dX3_undoLatest_71 ?_
          refine lv_iconst (pc := 74) (v := (1 : Int32)) hx hb dX3_undoLatest_74 (by decide) ?_
          refine lv_isub (pc := 75) hx hb dX3_undoLatest_75 ?_
          refine fp3_42 (pc := 76) hx hb hown hts hK hP hD hS hk_x0 dX3_undoLatest_76 (fun H locs hP hD hS => ?_)
          refine lv_aload_n (pc := 79) hx hb dX3_undoLatest_79 rfl (lv_at hl 0 rfl) ?_
          refine lv_ifnonnull (pc := 80) (tgt := 84) hx hb dX3_undoLatest_80 (by decide) ?_
          refine lv_iload_n (pc := 84) hx hb dX3_undoLatest_84 rfl (lv_at hl 1 rfl) ?_
          refine lv_if_ne (pc := 85) (tgt := 115) hx hb dX3_undoLatest_85 (by decide) (fun c14 => ?_) (fun c14 => ?_)
          · have h := h.1 c14
            refine lv_iload_n (pc := 115) hx hb dX3_undoLatest_115 rfl (lv_at hl 1 rfl) ?_
            refine lv_iconst (pc := 116) (v := (2 : Int32)) hx hb dX3_undoLatest_116 (by decide) ?_
            refine lv_icmp_ne (pc := 117) (tgt := 133) hx hb dX3_undoLatest_117 (by decide) (fun c15 => ?_) (fun c15 => ?_)
            · have h := h.1 c15
              refine lv_iload_n (pc := 133) hx hb dX3_undoLatest_133 rfl (lv_at hl 1 rfl) ?_
              refine lv_iconst (pc := 134) (v := (3 : Int32)) hx hb dX3_undoLatest_134 (by decide) ?_
              refine lv_icmp_ne (pc := 135) (tgt := 148) hx hb dX3_undoLatest_135 (by decide) (fun c16 => ?_) (fun c16 => ?_)
              · have h := h.1 c16
                exact kx_vret (pc := 148) hx hb hr hlocks hK hP hD hS h dX3_undoLatest_148
              · have h := h.2 c16
                refine lv_aload_n (pc := 138) hx hb dX3_undoLatest_138 rfl (lv_at hl 0 rfl) ?_
                refine lv_dup (pc := 139) hx hb dX3_undoLatest_139 rfl ?_
                refine fg3_97 (pc := 140) hx hb hown hts hK hP hk_b7 dX3_undoLatest_140 ?_
                refine lv_iconst (pc := 143) (v := (1 : Int32)) hx hb dX3_undoLatest_143 (by decide) ?_
                refine lv_iadd (pc := 144) hx hb dX3_undoLatest_144 ?_
                refine fp3_97 (pc := 145) hx hb hown hts hK hP hD hS hk_b7 dX3_undoLatest_145 (fun H locs hP hD hS => ?_)
                exact kx_vret (pc := 148) hx hb hr hlocks hK hP hD hS h dX3_undoLatest_148
            · have h := h.2 c15
              refine lv_aload_n (pc := 120) hx hb dX3_undoLatest_120 rfl (lv_at hl 0 rfl) ?_
              refine lv_dup (pc := 121) hx hb dX3_undoLatest_121 rfl ?_
              refine fg3_97 (pc := 122) hx hb hown hts hK hP hk_b7 dX3_undoLatest_122 ?_
              refine lv_iconst (pc := 125) (v := (1 : Int32)) hx hb dX3_undoLatest_125 (by decide) ?_
              refine lv_isub (pc := 126) hx hb dX3_undoLatest_126 ?_
              refine fp3_97 (pc := 127) hx hb hown hts hK hP hD hS hk_b7 dX3_undoLatest_127 (fun H locs hP hD hS => ?_)
              refine lv_goto (pc := 130) (tgt := 148) hx hb dX3_undoLatest_130 (by decide) ?_
              exact kx_vret (pc := 148) hx hb hr hlocks hK hP hD hS h dX3_undoLatest_148
          · have h := h.2 c14
            refine lv_aload_n (pc := 88) hx hb dX3_undoLatest_88 rfl (lv_at hl 2 rfl) ?_
            refine lv_dup (pc := 89) hx hb dX3_undoLatest_89 rfl ?_
            refine fg3_48 (pc := 90) hx hb hown hts hK hP hk_x0 dX3_undoLatest_90 ?_
            refine lv_aload_n (pc := 93) hx hb dX3_undoLatest_93 rfl (lv_at hl 0 rfl) ?_
            refine fg3_89 (pc := 94) hx hb hown hts hK hP hk_b7 dX3_undoLatest_94 ?_
            refine lv_isub (pc := 97) hx hb dX3_undoLatest_97 ?_
            refine fp3_48 (pc := 98) hx hb hown hts hK hP hD hS hk_x0 dX3_undoLatest_98 (fun H locs hP hD hS => ?_)
            refine lv_aload_n (pc := 101) hx hb dX3_undoLatest_101 rfl (lv_at hl 0 rfl) ?_
            refine lv_bipush (pc := 102) (v := (-9 : Int32)) hx hb dX3_undoLatest_102 (by decide) ?_
            refine fp3_89 (pc := 104) hx hb hown hts hK hP hD hS hk_b7 dX3_undoLatest_104 (fun H locs hP hD hS => ?_)
            refine lv_aload_n (pc := 107) hx hb dX3_undoLatest_107 rfl (lv_at hl 0 rfl) ?_
            refine lv_iconst (pc := 108) (v := (0 : Int32)) hx hb dX3_undoLatest_108 (by decide) ?_
            refine fp3_72 (pc := 109) hx hb hown hts hK hP hD hS hk_b7 (by decide) dX3_undoLatest_109 (fun H locs hP hD hS => ?_)
            refine lv_goto (pc := 112) (tgt := 148) hx hb dX3_undoLatest_112 (by decide) ?_
            exact kx_vret (pc := 148) hx hb hr hlocks hK hP hD hS h dX3_undoLatest_148
        · have h := h.2 c12
          refine lv_iload_n (pc := 64) hx hb dX3_undoLatest_64 rfl (lv_at hl 1 rfl) ?_
          refine lv_iconst (pc := 65) (v := (1 : Int32)) hx hb dX3_undoLatest_65 (by decide) ?_
          refine lv_icmp_ne (pc := 66) (tgt := 79) hx hb dX3_undoLatest_66 (by decide) (fun c22 => ?_) (fun c22 => ?_)
          · have h := h.1 c22
            refine lv_aload_n (pc := 79) hx hb dX3_undoLatest_79 rfl (lv_at hl 0 rfl) ?_
            refine lv_ifnonnull (pc := 80) (tgt := 84) hx hb dX3_undoLatest_80 (by decide) ?_
            refine lv_iload_n (pc := 84) hx hb dX3_undoLatest_84 rfl (lv_at hl 1 rfl) ?_
            refine lv_if_ne (pc := 85) (tgt := 115) hx hb dX3_undoLatest_85 (by decide) (fun c23 => ?_) (fun c23 => ?_)
            · have h := h.1 c23
              refine lv_iload_n (pc := 115) hx hb dX3_undoLatest_115 rfl (lv_at hl 1 rfl) ?_
              refine lv_iconst (pc := 116) (v := (2 : Int32)) hx hb dX3_undoLatest_116 (by decide) ?_
              refine lv_icmp_ne (pc := 117) (tgt := 133) hx hb dX3_undoLatest_117 (by decide) (fun c24 => ?_) (fun c24 => ?_)
              · have h := h.1 c24
                refine lv_iload_n (pc := 133) hx hb dX3_undoLatest_133 rfl (lv_at hl 1 rfl) ?_
                refine lv_iconst (pc := 134) (v := (3 : Int32)) hx hb dX3_undoLatest_134 (by decide) ?_
                refine lv_icmp_ne (pc := 135) (tgt := 148) hx hb dX3_undoLatest_135 (by decide) (fun c25 => ?_) (fun c25 => ?_)
                · have h := h.1 c25
                  exact kx_vret (pc := 148) hx hb hr hlocks hK hP hD hS h dX3_undoLatest_148
                · have h := h.2 c25
                  refine lv_aload_n (pc := 138) hx hb dX3_undoLatest_138 rfl (lv_at hl 0 rfl) ?_
                  refine lv_dup (pc := 139) hx hb dX3_undoLatest_139 rfl ?_
                  refine fg3_97 (pc := 140) hx hb hown hts hK hP hk_b7 dX3_undoLatest_140 ?_
                  refine lv_iconst (pc := 143) (v := (1 : Int32)) hx hb dX3_undoLatest_143 (by decide) ?_
                  refine lv_iadd (pc := 144) hx hb dX3_undoLatest_144 ?_
                  refine fp3_97 (pc := 145) hx hb hown hts hK hP hD hS hk_b7 dX3_undoLatest_145 (fun H locs hP hD hS => ?_)
                  exact kx_vret (pc := 148) hx hb hr hlocks hK hP hD hS h dX3_undoLatest_148
              · have h := h.2 c24
                refine lv_aload_n (pc := 120) hx hb dX3_undoLatest_120 rfl (lv_at hl 0 rfl) ?_
                refine lv_dup (pc := 121) hx hb dX3_undoLatest_121 rfl ?_
                refine fg3_97 (pc := 122) hx hb hown hts hK hP hk_b7 dX3_undoLatest_122 ?_
                refine lv_iconst (pc := 125) (v := (1 : Int32)) hx hb dX3_undoLatest_125 (by decide) ?_
                refine lv_isub (pc := 126) hx hb dX3_undoLatest_126 ?_
                refine fp3_97 (pc := 127) hx hb hown hts hK hP hD hS hk_b7 dX3_undoLatest_127 (fun H locs hP hD hS => ?_)
                refine lv_goto (pc := 130) (tgt := 148) hx hb dX3_undoLatest_130 (by decide) ?_
                exact kx_vret (pc := 148) hx hb hr hlocks hK hP hD hS h dX3_undoLatest_148
            · have h := h.2 c23
              refine lv_aload_n (pc := 88) hx hb dX3_undoLatest_88 rfl (lv_at hl 2 rfl) ?_
              refine lv_dup (pc := 89) hx hb dX3_undoLatest_89 rfl ?_
              refine fg3_48 (pc := 90) hx hb hown hts hK hP hk_x0 dX3_undoLatest_90 ?_
              refine lv_aload_n (pc := 93) hx hb dX3_undoLatest_93 rfl (lv_at hl 0 rfl) ?_
              refine fg3_89 (pc := 94) hx hb hown hts hK hP hk_b7 dX3_undoLatest_94 ?_
              refine lv_isub (pc := 97) hx hb dX3_undoLatest_97 ?_
              refine fp3_48 (pc := 98) hx hb hown hts hK hP hD hS hk_x0 dX3_undoLatest_98 (fun H locs hP hD hS => ?_)
              refine lv_aload_n (pc := 101) hx hb dX3_undoLatest_101 rfl (lv_at hl 0 rfl) ?_
              refine lv_bipush (pc := 102) (v := (-9 : Int32)) hx hb dX3_undoLatest_102 (by decide) ?_
              refine fp3_89 (pc := 104) hx hb hown hts hK hP hD hS hk_b7 dX3_undoLatest_104 (fun H locs hP hD hS => ?_)
              refine lv_aload_n (pc := 107) hx hb dX3_undoLatest_107 rfl (lv_at hl 0 rfl) ?_
              refine lv_iconst (pc := 108) (v := (0 : Int32)) hx hb dX3_undoLatest_108 (by decide) ?_
              refine fp3_72 (pc := 109) hx hb hown hts hK hP hD hS hk_b7 (by decide) dX3_undoLatest_109 (fun H locs hP hD hS => ?_)
              refine lv_goto (pc := 112) (tgt := 148) hx hb dX3_undoLatest_112 (by decide) ?_
              exact kx_vret (pc := 148) hx hb hr hlocks hK hP hD hS h dX3_undoLatest_148
          · have h := h.2 c22
            refine lv_aload_n (pc := 69) hx hb dX3_undoLatest_69 rfl (lv_at hl 2 rfl) ?_
            refine lv_dup (pc := 70) hx hb dX3_undoLatest_70 rfl ?_
            refine fg3_42 (pc := 71) hx hb hown hts hK hP hk_x0 dX3_undoLatest_71 ?_
            refine lv_iconst (pc := 74) (v := (1 : Int32)) hx hb dX3_undoLatest_74 (by decide) ?_
            refine lv_isub (pc := 75) hx hb dX3_undoLatest_75 ?_
            refine fp3_42 (pc := 76) hx hb hown hts hK hP hD hS hk_x0 dX3_undoLatest_76 (fun H locs hP hD hS => ?_)
            refine lv_aload_n (pc := 79) hx hb dX3_undoLatest_79 rfl (lv_at hl 0 rfl) ?_
            refine lv_ifnonnull (pc := 80) (tgt := 84) hx hb dX3_undoLatest_80 (by decide) ?_
            refine lv_iload_n (pc := 84) hx hb dX3_undoLatest_84 rfl (lv_at hl 1 rfl) ?_
            refine lv_if_ne (pc := 85) (tgt := 115) hx hb dX3_undoLatest_85 (by decide) (fun c32 => ?_) (fun c32 => ?_)
            · have h := h.1 c32
              refine lv_iload_n (pc := 115) hx hb dX3_undoLatest_115 rfl (lv_at hl 1 rfl) ?_
              refine lv_iconst (pc := 116) (v := (2 : Int32)) hx hb dX3_undoLatest_116 (by decide) ?_
              refine lv_icmp_ne (pc := 117) (tgt := 133) hx hb dX3_undoLatest_117 (by decide) (fun c33 => ?_) (fun c33 => ?_)
              · have h := h.1 c33
                refine lv_iload_n (pc := 133) hx hb dX3_undoLatest_133 rfl (lv_at hl 1 rfl) ?_
                refine lv_iconst (pc := 134) (v := (3 : Int32)) hx hb dX3_undoLatest_134 (by decide) ?_
                refine lv_icmp_ne (pc := 135) (tgt := 148) hx hb dX3_undoLatest_135 (by decide) (fun c34 => ?_) (fun c34 => ?_)
                · have h := h.1 c34
                  exact kx_vret (pc := 148) hx hb hr hlocks hK hP hD hS h dX3_undoLatest_148
                · have h := h.2 c34
                  refine lv_aload_n (pc := 138) hx hb dX3_undoLatest_138 rfl (lv_at hl 0 rfl) ?_
                  refine lv_dup (pc := 139) hx hb dX3_undoLatest_139 rfl ?_
                  refine fg3_97 (pc := 140) hx hb hown hts hK hP hk_b7 dX3_undoLatest_140 ?_
                  refine lv_iconst (pc := 143) (v := (1 : Int32)) hx hb dX3_undoLatest_143 (by decide) ?_
                  refine lv_iadd (pc := 144) hx hb dX3_undoLatest_144 ?_
                  refine fp3_97 (pc := 145) hx hb hown hts hK hP hD hS hk_b7 dX3_undoLatest_145 (fun H locs hP hD hS => ?_)
                  exact kx_vret (pc := 148) hx hb hr hlocks hK hP hD hS h dX3_undoLatest_148
              · have h := h.2 c33
                refine lv_aload_n (pc := 120) hx hb dX3_undoLatest_120 rfl (lv_at hl 0 rfl) ?_
                refine lv_dup (pc := 121) hx hb dX3_undoLatest_121 rfl ?_
                refine fg3_97 (pc := 122) hx hb hown hts hK hP hk_b7 dX3_undoLatest_122 ?_
                refine lv_iconst (pc := 125) (v := (1 : Int32)) hx hb dX3_undoLatest_125 (by decide) ?_
                refine lv_isub (pc := 126) hx hb dX3_undoLatest_126 ?_
                refine fp3_97 (pc := 127) hx hb hown hts hK hP hD hS hk_b7 dX3_undoLatest_127 (fun H locs hP hD hS => ?_)
                refine lv_goto (pc := 130) (tgt := 148) hx hb dX3_undoLatest_130 (by decide) ?_
                exact kx_vret (pc := 148) hx hb hr hlocks hK hP hD hS h dX3_undoLatest_148
            · have h := h.2 c32
              refine lv_aload_n (pc := 88) hx hb dX3_undoLatest_88 rfl (lv_at hl 2 rfl) ?_
              refine lv_dup (pc := 89) hx hb dX3_undoLatest_89 rfl ?_
              refine fg3_48 (pc := 90) hx hb hown hts hK hP hk_x0 dX3_undoLatest_90 ?_
              refine lv_aload_n (pc := 93) hx hb dX3_undoLatest_93 rfl (lv_at hl 0 rfl) ?_
              refine fg3_89 (pc := 94) hx hb hown hts hK hP hk_b7 dX3_undoLatest_94 ?_
              refine lv_isub (pc := 97) hx hb dX3_undoLatest_97 ?_
              refine fp3_48 (pc := 98) hx hb hown hts hK hP hD hS hk_x0 dX3_undoLatest_98 (fun H locs hP hD hS => ?_)
              refine lv_aload_n (pc := 101) hx hb dX3_undoLatest_101 rfl (lv_at hl 0 rfl) ?_
              refine lv_bipush (pc := 102) (v := (-9 : Int32)) hx hb dX3_undoLatest_102 (by decide) ?_
              refine fp3_89 (pc := 104) hx hb hown hts hK hP hD hS hk_b7 dX3_undoLatest_104 (fun H locs hP hD hS => ?_)
              refine lv_aload_n (pc := 107) hx hb dX3_undoLatest_107 rfl (lv_at hl 0 rfl) ?_
              refine lv_iconst (pc := 108) (v := (0 : Int32)) hx hb dX3_undoLatest_108 (by decide) ?_
              refine fp3_72 (pc := 109) hx hb hown hts hK hP hD hS hk_b7 (by decide) dX3_undoLatest_109 (fun H locs hP hD hS => ?_)
              refine lv_goto (pc := 112) (tgt := 148) hx hb dX3_undoLatest_112 (by decide) ?_
              exact kx_vret (pc := 148) hx hb hr hlocks hK hP hD hS h dX3_undoLatest_148
    · have h := h.2 c2
      exact kx_vret (pc := 19) hx hb hr hlocks hK hP hD hS h dX3_undoLatest_19
def p4_skipBlanks_L0 : Nat → kx_St → Nat → Nat → (kx_St → Prop) → Prop
  | 0, _, _, _, _ => False
  | n + 1, σ, x0, x1, Q => ((σ.1 x1 1) ≤ (σ.1 x0 0) → Q σ) ∧ (¬ (σ.1 x1 1) ≤ (σ.1 x0 0) → p5_get σ x1 (σ.1 x0 0) (fun r2 => (¬ r2 = (32 : Int32) → Q σ) ∧ (r2 = (32 : Int32) → (fun σ4 : kx_St => p4_skipBlanks_L0 n σ4 x0 x1 Q) (kx_sI σ x0 0 ((σ.1 x0 0) + (1 : Int32))))))
set_option maxHeartbeats 4000000 in
theorem w4_skipBlanks_L0  {Q : kx_St → Prop} (cx : kx_Cx p s m args meth c D cy RX4 cX4_skipBlanks 2 none)  : ∀ (n : Nat) (σ : kx_St) (x0 : Nat) (x1 : Nat) (H : Heap) (locs : List Loc) (ls : Array Slot), kx_k 0 x0 = 4 → kx_k 0 x1 = 5 → p4_skipBlanks_L0 n σ x0 x1 Q → va_P D vwCl (kx_ws cy 0 ad σ) H → va_D A (kx_ws cy 0 ad σ) → va_S A s.heap H locs → lv_has ls 2 [(0, .ref (ad x0)), (1, .ref (ad x1))] → W p l e rm4_skipBlanks s m args below meth c H locs 0 0 (MQ below (kx_Qc kx_cv (fun u _ => Q u) (kx_Wd D cy 0 ad A) A) args s 0 0 A) (F0 m 0 ls []) := by
  obtain ⟨hx, hb, hr, hlocks, hml, hown, hts, hK⟩ := id cx
  intro n
  induction n with
  | zero => intro _ _ _ _ _ _ _ _ h; exact False.elim h
  | succ n ih =>
    intro σ x0 x1 H locs ls hk_x0 hk_x1 h hP hD hS hl
    refine lv_aload_n (pc := 0) hx hb dX4_skipBlanks_0 rfl (lv_at hl 0 rfl) ?_
    refine fg4_9 (pc := 1) hx hb hown hts hK hP hk_x0 dX4_skipBlanks_1 ?_
    refine lv_aload_n (pc := 4) hx hb dX4_skipBlanks_4 rfl (lv_at hl 1 rfl) ?_
    refine fg4_50 (pc := 5) hx hb hown hts hK hP hk_x1 dX4_skipBlanks_5 ?_
    refine lv_icmp_ge (pc := 8) (tgt := 37) hx hb dX4_skipBlanks_8 (by decide) (fun c1 => ?_) (fun c1 => ?_)
    · have h := h.1 c1
      exact kx_vret (pc := 37) hx hb hr hlocks hK hP hD hS h dX4_skipBlanks_37
    · have h := h.2 c1
      refine lv_aload_n (pc := 11) hx hb dX4_skipBlanks_11 rfl (lv_at hl 1 rfl) ?_
      refine lv_aload_n (pc := 12) hx hb dX4_skipBlanks_12 rfl (lv_at hl 0 rfl) ?_
      refine fg4_9 (pc := 13) hx hb hown hts hK hP hk_x0 dX4_skipBlanks_13 ?_
      refine kx_iVi (pc := 16) [.int (σ.1 x0 0)] hx hb hml hown hts hK hP hD hS (q5_get h) (cw4_77 hts ⟨Nat.le_of_ble_eq_true rfl, Nat.le_of_ble_eq_true rfl⟩) hk_x1 (by decide) rfl rfl hl.1 rfl (Nat.le_of_ble_eq_true rfl) ⟨Nat.le_of_ble_eq_true rfl, Nat.le_of_ble_eq_true rfl⟩ dX4_skipBlanks_16 (fun r2 u_ H locs hP hD hS h => ?_)
      obtain ⟨hu_, h⟩ := h
      rw [hu_] at hP hD
      refine lv_bipush (pc := 19) (v := (32 : Int32)) hx hb dX4_skipBlanks_19 (by decide) ?_
      refine lv_icmp_ne (pc := 21) (tgt := 37) hx hb dX4_skipBlanks_21 (by decide) (fun c3 => ?_) (fun c3 => ?_)
      · have h := h.1 c3
        exact kx_vret (pc := 37) hx hb hr hlocks hK hP hD hS h dX4_skipBlanks_37
      · have h := h.2 c3
        refine lv_aload_n (pc := 24) hx hb dX4_skipBlanks_24 rfl (lv_at hl 0 rfl) ?_
        refine lv_dup (pc := 25) hx hb dX4_skipBlanks_25 rfl ?_
        refine fg4_9 (pc := 26) hx hb hown hts hK hP hk_x0 dX4_skipBlanks_26 ?_
        refine lv_iconst (pc := 29) (v := (1 : Int32)) hx hb dX4_skipBlanks_29 (by decide) ?_
        refine lv_iadd (pc := 30) hx hb dX4_skipBlanks_30 ?_
        refine fp4_9 (pc := 31) hx hb hown hts hK hP hD hS hk_x0 dX4_skipBlanks_31 (fun H locs hP hD hS => ?_)
        refine lv_goto (pc := 34) (tgt := 0) hx hb dX4_skipBlanks_34 (by decide) ?_
        exact ih _ _ _ _ _ _ hk_x0 hk_x1 h hP hD hS (lv_sub hl [0, 1] rfl)
def p4_skipBlanks (σ : kx_St) (x0 : Nat) (x1 : Nat) (Q : kx_St → Prop) : Prop := kx_k 0 x0 = 4 ∧ (kx_k 0 x1 = 5 ∧ (∃ m0, p4_skipBlanks_L0 m0 σ x0 x1 Q))
set_option maxHeartbeats 4000000 in
theorem q4_skipBlanks {σ : kx_St} {x0 : Nat} {x1 : Nat} {Q : kx_St → Prop} (h : p4_skipBlanks σ x0 x1 Q) : Met l yX4_skipBlanks (Cond.code yX4_skipBlanks cX4_skipBlanks 2 none :: kx_big) rm4_skipBlanks (va_Pc [.ref (ad x0), .ref (ad x1)] (kx_Wd D cy 0 ad A σ)) (kx_Qc kx_cv (fun u _ => Q u) (kx_Wd D cy 0 ad A) A) 0 0 A := by
  refine kx_head (plainFor_of_name (by decide)) (Nat.le_of_ble_eq_true rfl) ?_
  intro p e s m below meth c ls cx hP hD hS hl
  obtain ⟨hx, hb, hr, hlocks, hml, hown, hts, hK⟩ := id cx
  obtain ⟨hk_x0, h⟩ := h
  obtain ⟨hk_x1, h⟩ := h
  have hl : lv_has ls 2 [(0, .ref (ad x0)), (1, .ref (ad x1))] := hl
  obtain ⟨n0, h⟩ := h
  exact w4_skipBlanks_L0 cx  n0 _ _ _ _ _ _ hk_x0 hk_x1 h hP hD hS (lv_sub hl [0, 1] rfl)
def p4_sign (σ : kx_St) (x0 : Nat) (x1 : Nat) (Q : Int32 → Prop) : Prop := kx_k 0 x0 = 4 ∧ (kx_k 0 x1 = 5 ∧ (p5_holds σ x1 (σ.1 x0 0) (fun r1 => (r1 = 0 → Q (-1000 : Int32)) ∧ (¬ r1 = 0 → vp_in (σ.1 x0 0) (kx_l 0 (kx_r 0 x1 0)) ∧ (Q (σ.1 (kx_r 0 x1 0) (σ.1 x0 0).toNatClampNeg))))))
set_option maxHeartbeats 4000000 in
theorem q4_sign {σ : kx_St} {x0 : Nat} {x1 : Nat} {Q : Int32 → Prop} (h : p4_sign σ x0 x1 Q) : Met l yX4_sign (Cond.code yX4_sign cX4_sign 2 (some .int) :: kx_big) rm4_sign (va_Pc [.ref (ad x0), .ref (ad x1)] (kx_Wd D cy 0 ad A σ)) (kx_Qc kx_ci (fun u r => u = σ ∧ Q r) (kx_Wd D cy 0 ad A) A) 0 0 A := by
  refine kx_head (plainFor_of_name (by decide)) (Nat.le_of_ble_eq_true rfl) ?_
  intro p e s m below meth c ls cx hP hD hS hl
  obtain ⟨hx, hb, hr, hlocks, hml, hown, hts, hK⟩ := id cx
  obtain ⟨hk_x0, h⟩ := h
  obtain ⟨hk_x1, h⟩ := h
  have hl : lv_has ls 2 [(0, .ref (ad x0)), (1, .ref (ad x1))] := hl
  refine lv_aload_n (pc := 0) hx hb dX4_sign_0 rfl (lv_at hl 1 rfl) ?_
  refine lv_aload_n (pc := 1) hx hb dX4_sign_1 rfl (lv_at hl 0 rfl) ?_
  refine fg4_9 (pc := 2) hx hb hown hts hK hP hk_x0 dX4_sign_2 ?_
  refine kx_iVi (pc := 5) [.int (σ.1 x0 0)] hx hb hml hown hts hK hP hD hS (q5_holds h) (cw4_80 hts ⟨Nat.le_of_ble_eq_true rfl, Nat.le_of_ble_eq_true rfl⟩) hk_x1 (by decide) rfl rfl hl.1 rfl (Nat.le_of_ble_eq_true rfl) ⟨Nat.le_of_ble_eq_true rfl, Nat.le_of_ble_eq_true rfl⟩ dX4_sign_5 (fun r1 u_ H locs hP hD hS h => ?_)
  obtain ⟨hu_, h⟩ := h
  rw [hu_] at hP hD
  refine lv_if_eq (pc := 8) (tgt := 23) hx hb dX4_sign_8 (by decide) (fun c2 => ?_) (fun c2 => ?_)
  · have h := h.1 c2
    refine lv_sipush (pc := 23) (v := (-1000 : Int32)) hx hb dX4_sign_23 (by decide) ?_
    exact kx_iret (pc := 26) hx hb hr hlocks hK hP hD hS ⟨rfl, h⟩ dX4_sign_26
  · have h := h.2 c2
    refine lv_aload_n (pc := 11) hx hb dX4_sign_11 rfl (lv_at hl 1 rfl) ?_
    refine fg4_84 (pc := 12) hx hb hown hts hK hP hk_x1 rfl dX4_sign_12 ?_
    refine lv_aload_n (pc := 15) hx hb dX4_sign_15 rfl (lv_at hl 0 rfl) ?_
    refine fg4_9 (pc := 16) hx hb hown hts hK hP hk_x0 dX4_sign_16 ?_
    obtain ⟨g3, h⟩ := h
    refine kx_iald (pc := 19) hx hb hK hP (ky_5_0 hk_x1) g3 dX4_sign_19 ?_
    refine lv_goto (pc := 20) (tgt := 26) hx hb dX4_sign_20 (by decide) ?_
    exact kx_iret (pc := 26) hx hb hr hlocks hK hP hD hS ⟨rfl, h⟩ dX4_sign_26
def p4_readFigure (σ : kx_St) (x0 : Nat) (x1 : Nat) (x2 : Int32) (x3 : Int32) (Q : kx_St → Int32 → Prop) : Prop := kx_k 0 x0 = 4 ∧ (kx_k 0 x1 = 5 ∧ (p4_sign σ x0 x1 (fun r1 => ((r1 - (48 : Int32)) < x2 → Q σ (-1 : Int32)) ∧ (¬ (r1 - (48 : Int32)) < x2 → ((r1 - (48 : Int32)) ≤ x3 → (fun σ4 : kx_St => Q σ4 (r1 - (48 : Int32))) (kx_sI σ x0 0 ((σ.1 x0 0) + (1 : Int32)))) ∧ (¬ (r1 - (48 : Int32)) ≤ x3 → Q σ (-1 : Int32))))))
set_option maxHeartbeats 4000000 in
theorem q4_readFigure {σ : kx_St} {x0 : Nat} {x1 : Nat} {x2 : Int32} {x3 : Int32} {Q : kx_St → Int32 → Prop} (h : p4_readFigure σ x0 x1 x2 x3 Q) : Met l yX4_readFigure (Cond.code yX4_readFigure cX4_readFigure 5 (some .int) :: kx_big) rm4_readFigure (va_Pc [.ref (ad x0), .ref (ad x1), .int x2, .int x3] (kx_Wd D cy 0 ad A σ)) (kx_Qc kx_ci Q (kx_Wd D cy 0 ad A) A) 0 0 A := by
  refine kx_head (plainFor_of_name (by decide)) (Nat.le_of_ble_eq_true rfl) ?_
  intro p e s m below meth c ls cx hP hD hS hl
  obtain ⟨hx, hb, hr, hlocks, hml, hown, hts, hK⟩ := id cx
  obtain ⟨hk_x0, h⟩ := h
  obtain ⟨hk_x1, h⟩ := h
  have hl : lv_has ls 5 [(0, .ref (ad x0)), (1, .ref (ad x1)), (2, .int x2), (3, .int x3)] := hl
  refine lv_aload_n (pc := 0) hx hb dX4_readFigure_0 rfl (lv_at hl 0 rfl) ?_
  refine lv_aload_n (pc := 1) hx hb dX4_readFigure_1 rfl (lv_at hl 1 rfl) ?_
  refine kx_iVi (pc := 2) [.ref (ad x1)] hx hb hml hown hts hK hP hD hS (q4_sign h) (cw4_26 hts ⟨Nat.le_of_ble_eq_true rfl, Nat.le_of_ble_eq_true rfl⟩) hk_x0 (by decide) rfl rfl hl.1 rfl (Nat.le_of_ble_eq_true rfl) ⟨Nat.le_of_ble_eq_true rfl, Nat.le_of_ble_eq_true rfl⟩ dX4_readFigure_2 (fun r1 u_ H locs hP hD hS h => ?_)
  obtain ⟨hu_, h⟩ := h
  rw [hu_] at hP hD
  refine lv_bipush (pc := 5) (v := (48 : Int32)) hx hb dX4_readFigure_5 (by decide) ?_
  refine lv_isub (pc := 7) hx hb dX4_readFigure_7 ?_
  refine lv_istore (pc := 8) (lv' := [(4, .int (r1 - (48 : Int32))), (0, .ref (ad x0)), (1, .ref (ad x1)), (2, .int x2), (3, .int x3)]) hx hb dX4_readFigure_8 hl (by decide) rfl (fun ls hl => ?_)
  refine lv_iload (pc := 10) hx hb dX4_readFigure_10 (lv_at hl 0 rfl) ?_
  refine lv_iload_n (pc := 12) hx hb dX4_readFigure_12 rfl (lv_at hl 3 rfl) ?_
  refine lv_icmp_lt (pc := 13) (tgt := 22) hx hb dX4_readFigure_13 (by decide) (fun c2 => ?_) (fun c2 => ?_)
  · have h := h.1 c2
    refine lv_iconst (pc := 22) (v := (-1 : Int32)) hx hb dX4_readFigure_22 (by decide) ?_
    exact kx_iret (pc := 23) hx hb hr hlocks hK hP hD hS h dX4_readFigure_23
  · have h := h.2 c2
    refine lv_iload (pc := 16) hx hb dX4_readFigure_16 (lv_at hl 0 rfl) ?_
    refine lv_iload_n (pc := 18) hx hb dX4_readFigure_18 rfl (lv_at hl 4 rfl) ?_
    refine lv_icmp_le (pc := 19) (tgt := 24) hx hb dX4_readFigure_19 (by decide) (fun c3 => ?_) (fun c3 => ?_)
    · have h := h.1 c3
      refine lv_aload_n (pc := 24) hx hb dX4_readFigure_24 rfl (lv_at hl 1 rfl) ?_
      refine lv_dup (pc := 25) hx hb dX4_readFigure_25 rfl ?_
      refine fg4_9 (pc := 26) hx hb hown hts hK hP hk_x0 dX4_readFigure_26 ?_
      refine lv_iconst (pc := 29) (v := (1 : Int32)) hx hb dX4_readFigure_29 (by decide) ?_
      refine lv_iadd (pc := 30) hx hb dX4_readFigure_30 ?_
      refine fp4_9 (pc := 31) hx hb hown hts hK hP hD hS hk_x0 dX4_readFigure_31 (fun H locs hP hD hS => ?_)
      refine lv_iload (pc := 34) hx hb dX4_readFigure_34 (lv_at hl 0 rfl) ?_
      exact kx_iret (pc := 36) hx hb hr hlocks hK hP hD hS h dX4_readFigure_36
    · have h := h.2 c3
      refine lv_iconst (pc := 22) (v := (-1 : Int32)) hx hb dX4_readFigure_22 (by decide) ?_
      exact kx_iret (pc := 23) hx hb hr hlocks hK hP hD hS h dX4_readFigure_23
def p4_readWinds_J94 (σ : kx_St) (x2 : Nat) (x3 : Int32) (s0 : Int32) (Q : kx_St → Int32 → Prop) : Prop := (fun σ1 : kx_St => (s0 < 0 → Q σ1 (0 : Int32)) ∧ (¬ s0 < 0 → Q σ1 (1 : Int32))) (kx_sI σ x2 4 (((10 : Int32) * x3) + s0))
set_option maxHeartbeats 4000000 in
theorem w4_readWinds_J94 {σ : kx_St} {x2 : Nat} {x3 : Int32} {s0 : Int32}  {Q : kx_St → Int32 → Prop} {H : Heap} {locs : List Loc} {ls : Array Slot} (cx : kx_Cx p s m args meth c D cy RX4 cX4_readWinds 5 (some .boolean))  (hk_x2 : kx_k 0 x2 = 3) (h : p4_readWinds_J94 σ x2 x3 s0 Q) (hP : va_P D vwCl (kx_ws cy 0 ad σ) H) (hD : va_D A (kx_ws cy 0 ad σ)) (hS : va_S A s.heap H locs) (hl : lv_has ls 5 [(2, .ref (ad x2)), (3, .int x3)]) : W p l e rm4_readWinds s m args below meth c H locs 0 0 (MQ below (kx_Qc kx_ci Q (kx_Wd D cy 0 ad A) A) args s 0 0 A) (F0 m 94 ls [.int s0]) := by
  obtain ⟨hx, hb, hr, hlocks, hml, hown, hts, hK⟩ := id cx
  refine lv_istore (pc := 94) (lv' := [(4, .int s0), (2, .ref (ad x2)), (3, .int x3)]) hx hb dX4_readWinds_94 hl (by decide) rfl (fun ls hl => ?_)
  refine lv_aload_n (pc := 96) hx hb dX4_readWinds_96 rfl (lv_at hl 1 rfl) ?_
  refine lv_bipush (pc := 97) (v := (10 : Int32)) hx hb dX4_readWinds_97 (by decide) ?_
  refine lv_iload_n (pc := 99) hx hb dX4_readWinds_99 rfl (lv_at hl 2 rfl) ?_
  refine lv_imul (pc := 100) hx hb dX4_readWinds_100 ?_
  refine lv_iload (pc := 101) hx hb dX4_readWinds_101 (lv_at hl 0 rfl) ?_
  refine lv_iadd (pc := 103) hx hb dX4_readWinds_103 ?_
  refine fp4_40 (pc := 104) hx hb hown hts hK hP hD hS hk_x2 dX4_readWinds_104 (fun H locs hP hD hS => ?_)
  refine lv_iload (pc := 107) hx hb dX4_readWinds_107 (lv_at hl 0 rfl) ?_
  refine lv_if_lt (pc := 109) (tgt := 116) hx hb dX4_readWinds_109 (by decide) (fun c2 => ?_) (fun c2 => ?_)
  · have h := h.1 c2
    refine lv_iconst (pc := 116) (v := (0 : Int32)) hx hb dX4_readWinds_116 (by decide) ?_
    exact kx_zret (pc := 117) hx hb hr hlocks hK hP hD hS (by decide) h dX4_readWinds_117
  · have h := h.2 c2
    refine lv_iconst (pc := 112) (v := (1 : Int32)) hx hb dX4_readWinds_112 (by decide) ?_
    refine lv_goto (pc := 113) (tgt := 117) hx hb dX4_readWinds_113 (by decide) ?_
    exact kx_zret (pc := 117) hx hb hr hlocks hK hP hD hS (by decide) h dX4_readWinds_117
def p4_readWinds_L29 : Nat → kx_St → Nat → Nat → Nat → Int32 → (kx_St → Int32 → Prop) → Prop
  | 0, _, _, _, _, _, _ => False
  | n + 1, σ, x0, x1, x2, x3, Q => ((Int32.ofNat (kx_l 0 (kx_r 0 x2 0))) ≤ x3 → p4_readFigure σ x0 x1 (0 : Int32) (9 : Int32) (fun σ3 r2 => (0 ≤ r2 → p4_readFigure σ3 x0 x1 (0 : Int32) (9 : Int32) (fun σ6 r5 => p4_readWinds_J94 σ6 x2 r2 r5 Q)) ∧ (¬ 0 ≤ r2 → p4_readWinds_J94 σ3 x2 r2 r2 Q))) ∧ (¬ (Int32.ofNat (kx_l 0 (kx_r 0 x2 0))) ≤ x3 → p4_readFigure σ x0 x1 (0 : Int32) (9 : Int32) (fun σ8 r7 => vp_in x3 (kx_l 0 (kx_r 0 x2 0)) ∧ ((fun σ10 : kx_St => vp_in x3 (kx_l 0 (kx_r 0 x2 0)) ∧ ((0 ≤ (σ10.1 (kx_r 0 x2 0) x3.toNatClampNeg) → p4_readWinds_L29 n σ10 x0 x1 x2 (x3 + (1 : Int32)) Q) ∧ (¬ 0 ≤ (σ10.1 (kx_r 0 x2 0) x3.toNatClampNeg) → Q σ10 (0 : Int32)))) (kx_sI σ8 (kx_r 0 x2 0) x3.toNatClampNeg r7))))
set_option maxHeartbeats 4000000 in
theorem w4_readWinds_L29  {Q : kx_St → Int32 → Prop} (cx : kx_Cx p s m args meth c D cy RX4 cX4_readWinds 5 (some .boolean))  : ∀ (n : Nat) (σ : kx_St) (x0 : Nat) (x1 : Nat) (x2 : Nat) (x3 : Int32) (H : Heap) (locs : List Loc) (ls : Array Slot), kx_k 0 x0 = 4 → kx_k 0 x1 = 5 → kx_k 0 x2 = 3 → p4_readWinds_L29 n σ x0 x1 x2 x3 Q → va_P D vwCl (kx_ws cy 0 ad σ) H → va_D A (kx_ws cy 0 ad σ) → va_S A s.heap H locs → lv_has ls 5 [(0, .ref (ad x0)), (1, .ref (ad x1)), (2, .ref (ad x2)), (3, .int x3)] → W p l e rm4_readWinds s m args below meth c H locs 0 0 (MQ below (kx_Qc kx_ci Q (kx_Wd D cy 0 ad A) A) args s 0 0 A) (F0 m 29 ls []) := by
  obtain ⟨hx, hb, hr, hlocks, hml, hown, hts, hK⟩ := id cx
  intro n
  induction n with
  | zero => intro _ _ _ _ _ _ _ _ _ _ _ h; exact False.elim h
  | succ n ih =>
    intro σ x0 x1 x2 x3 H locs ls hk_x0 hk_x1 hk_x2 h hP hD hS hl
    refine lv_iload_n (pc := 29) hx hb dX4_readWinds_29 rfl (lv_at hl 3 rfl) ?_
    refine lv_aload_n (pc := 30) hx hb dX4_readWinds_30 rfl (lv_at hl 2 rfl) ?_
    refine fg4_30 (pc := 31) hx hb hown hts hK hP hk_x2 rfl dX4_readWinds_31 ?_
    refine kx_alen (pc := 34) hx hb hK hP (ky_3_0 hk_x2) (by decide) (by decide) dX4_readWinds_34 ?_
    refine lv_icmp_ge (pc := 35) (tgt := 69) hx hb dX4_readWinds_35 (by decide) (fun c1 => ?_) (fun c1 => ?_)
    · have h := h.1 c1
      refine lv_aload_n (pc := 69) hx hb dX4_readWinds_69 rfl (lv_at hl 0 rfl) ?_
      refine lv_aload_n (pc := 70) hx hb dX4_readWinds_70 rfl (lv_at hl 1 rfl) ?_
      refine lv_iconst (pc := 71) (v := (0 : Int32)) hx hb dX4_readWinds_71 (by decide) ?_
      refine lv_bipush (pc := 72) (v := (9 : Int32)) hx hb dX4_readWinds_72 (by decide) ?_
      refine kx_iVi (pc := 74) [.ref (ad x1), .int (0 : Int32), .int (9 : Int32)] hx hb hml hown hts hK hP hD hS (q4_readFigure h) (cw4_36 hts ⟨Nat.le_of_ble_eq_true rfl, Nat.le_of_ble_eq_true rfl⟩) hk_x0 (by decide) rfl rfl hl.1 rfl (Nat.le_of_ble_eq_true rfl) ⟨Nat.le_of_ble_eq_true rfl, Nat.le_of_ble_eq_true rfl⟩ dX4_readWinds_74 (fun r2 σ3 H locs hP hD hS h => ?_)
      refine lv_istore_n (pc := 77) (lv' := [(3, .int r2), (0, .ref (ad x0)), (1, .ref (ad x1)), (2, .ref (ad x2))]) hx hb dX4_readWinds_77 rfl hl (by decide) rfl (fun ls hl => ?_)
      refine lv_iload_n (pc := 78) hx hb dX4_readWinds_78 rfl (lv_at hl 0 rfl) ?_
      refine lv_if_ge (pc := 79) (tgt := 86) hx hb dX4_readWinds_79 (by decide) (fun c4 => ?_) (fun c4 => ?_)
      · have h := h.1 c4
        refine lv_aload_n (pc := 86) hx hb dX4_readWinds_86 rfl (lv_at hl 1 rfl) ?_
        refine lv_aload_n (pc := 87) hx hb dX4_readWinds_87 rfl (lv_at hl 2 rfl) ?_
        refine lv_iconst (pc := 88) (v := (0 : Int32)) hx hb dX4_readWinds_88 (by decide) ?_
        refine lv_bipush (pc := 89) (v := (9 : Int32)) hx hb dX4_readWinds_89 (by decide) ?_
        refine kx_iVi (pc := 91) [.ref (ad x1), .int (0 : Int32), .int (9 : Int32)] hx hb hml hown hts hK hP hD hS (q4_readFigure h) (cw4_36 hts ⟨Nat.le_of_ble_eq_true rfl, Nat.le_of_ble_eq_true rfl⟩) hk_x0 (by decide) rfl rfl hl.1 rfl (Nat.le_of_ble_eq_true rfl) ⟨Nat.le_of_ble_eq_true rfl, Nat.le_of_ble_eq_true rfl⟩ dX4_readWinds_91 (fun r5 σ6 H locs hP hD hS h => ?_)
        exact w4_readWinds_J94 cx  hk_x2 h hP hD hS (lv_sub hl [3, 0] rfl)
      · have h := h.2 c4
        refine lv_iload_n (pc := 82) hx hb dX4_readWinds_82 rfl (lv_at hl 0 rfl) ?_
        refine lv_goto (pc := 83) (tgt := 94) hx hb dX4_readWinds_83 (by decide) ?_
        exact w4_readWinds_J94 cx  hk_x2 h hP hD hS (lv_sub hl [3, 0] rfl)
    · have h := h.2 c1
      refine lv_aload_n (pc := 38) hx hb dX4_readWinds_38 rfl (lv_at hl 2 rfl) ?_
      refine fg4_30 (pc := 39) hx hb hown hts hK hP hk_x2 rfl dX4_readWinds_39 ?_
      refine lv_iload_n (pc := 42) hx hb dX4_readWinds_42 rfl (lv_at hl 3 rfl) ?_
      refine lv_aload_n (pc := 43) hx hb dX4_readWinds_43 rfl (lv_at hl 0 rfl) ?_
      refine lv_aload_n (pc := 44) hx hb dX4_readWinds_44 rfl (lv_at hl 1 rfl) ?_
      refine lv_iconst (pc := 45) (v := (0 : Int32)) hx hb dX4_readWinds_45 (by decide) ?_
      refine lv_bipush (pc := 46) (v := (9 : Int32)) hx hb dX4_readWinds_46 (by decide) ?_
      refine kx_iVi (pc := 48) [.ref (ad x1), .int (0 : Int32), .int (9 : Int32)] hx hb hml hown hts hK hP hD hS (q4_readFigure h) (cw4_36 hts ⟨Nat.le_of_ble_eq_true rfl, Nat.le_of_ble_eq_true rfl⟩) hk_x0 (by decide) rfl rfl hl.1 rfl (Nat.le_of_ble_eq_true rfl) ⟨Nat.le_of_ble_eq_true rfl, Nat.le_of_ble_eq_true rfl⟩ dX4_readWinds_48 (fun r7 σ8 H locs hP hD hS h => ?_)
      obtain ⟨g9, h⟩ := h
      refine kx_iast (pc := 51) hx hb hK hP hD hS (ky_3_0 hk_x2) g9 dX4_readWinds_51 (fun H locs hP hD hS => ?_)
      refine lv_aload_n (pc := 52) hx hb dX4_readWinds_52 rfl (lv_at hl 2 rfl) ?_
      refine fg4_30 (pc := 53) hx hb hown hts hK hP hk_x2 rfl dX4_readWinds_53 ?_
      refine lv_iload_n (pc := 56) hx hb dX4_readWinds_56 rfl (lv_at hl 3 rfl) ?_
      obtain ⟨g11, h⟩ := h
      refine kx_iald (pc := 57) hx hb hK hP (ky_3_0 hk_x2) g11 dX4_readWinds_57 ?_
      refine lv_if_ge (pc := 58) (tgt := 63) hx hb dX4_readWinds_58 (by decide) (fun c12 => ?_) (fun c12 => ?_)
      · have h := h.1 c12
        refine lv_iinc (pc := 63) (v := (x3 + (1 : Int32))) (lv' := [(3, .int (x3 + (1 : Int32))), (0, .ref (ad x0)), (1, .ref (ad x1)), (2, .ref (ad x2))]) hx hb dX4_readWinds_63 hl (k := 3) rfl rfl (by decide) rfl (fun ls hl => ?_)
        refine lv_goto (pc := 66) (tgt := 29) hx hb dX4_readWinds_66 (by decide) ?_
        exact ih _ _ _ _ _ _ _ _ hk_x0 hk_x1 hk_x2 h hP hD hS (lv_sub hl [1, 2, 3, 0] rfl)
      · have h := h.2 c12
        refine lv_iconst (pc := 61) (v := (0 : Int32)) hx hb dX4_readWinds_61 (by decide) ?_
        exact kx_zret (pc := 62) hx hb hr hlocks hK hP hD hS (by decide) h dX4_readWinds_62
def p4_readWinds (σ : kx_St) (x0 : Nat) (x1 : Nat) (x2 : Nat) (Q : kx_St → Int32 → Prop) : Prop := kx_k 0 x0 = 4 ∧ (kx_k 0 x1 = 5 ∧ (kx_k 0 x2 = 3 ∧ (p4_skipBlanks σ x0 x1 (fun σ2 => p4_sign σ2 x0 x1 (fun r3 => (r3 = (119 : Int32) → (fun σ5 : kx_St => ∃ m29, p4_readWinds_L29 m29 σ5 x0 x1 x2 (0 : Int32) Q) (kx_sI σ2 x0 0 ((σ2.1 x0 0) + (1 : Int32)))) ∧ (¬ r3 = (119 : Int32) → Q σ2 (0 : Int32)))))))
set_option maxHeartbeats 4000000 in
theorem q4_readWinds {σ : kx_St} {x0 : Nat} {x1 : Nat} {x2 : Nat} {Q : kx_St → Int32 → Prop} (h : p4_readWinds σ x0 x1 x2 Q) : Met l yX4_readWinds (Cond.code yX4_readWinds cX4_readWinds 5 (some .boolean) :: kx_big) rm4_readWinds (va_Pc [.ref (ad x0), .ref (ad x1), .ref (ad x2)] (kx_Wd D cy 0 ad A σ)) (kx_Qc kx_ci Q (kx_Wd D cy 0 ad A) A) 0 0 A := by
  refine kx_head (plainFor_of_name (by decide)) (Nat.le_of_ble_eq_true rfl) ?_
  intro p e s m below meth c ls cx hP hD hS hl
  obtain ⟨hx, hb, hr, hlocks, hml, hown, hts, hK⟩ := id cx
  obtain ⟨hk_x0, h⟩ := h
  obtain ⟨hk_x1, h⟩ := h
  obtain ⟨hk_x2, h⟩ := h
  have hl : lv_has ls 5 [(0, .ref (ad x0)), (1, .ref (ad x1)), (2, .ref (ad x2))] := hl
  refine lv_aload_n (pc := 0) hx hb dX4_readWinds_0 rfl (lv_at hl 0 rfl) ?_
  refine lv_aload_n (pc := 1) hx hb dX4_readWinds_1 rfl (lv_at hl 1 rfl) ?_
  refine kx_iVv (pc := 2) [.ref (ad x1)] hx hb hml hown hts hK hP hD hS (q4_skipBlanks h) (cw4_22 hts ⟨Nat.le_of_ble_eq_true rfl, Nat.le_of_ble_eq_true rfl⟩) hk_x0 (by decide) rfl rfl hl.1 rfl (Nat.le_of_ble_eq_true rfl) ⟨Nat.le_of_ble_eq_true rfl, Nat.le_of_ble_eq_true rfl⟩ dX4_readWinds_2 (fun _ σ2 H locs hP hD hS h => ?_)
  refine lv_aload_n (pc := 5) hx hb dX4_readWinds_5 rfl (lv_at hl 0 rfl) ?_
  refine lv_aload_n (pc := 6) hx hb dX4_readWinds_6 rfl (lv_at hl 1 rfl) ?_
  refine kx_iVi (pc := 7) [.ref (ad x1)] hx hb hml hown hts hK hP hD hS (q4_sign h) (cw4_26 hts ⟨Nat.le_of_ble_eq_true rfl, Nat.le_of_ble_eq_true rfl⟩) hk_x0 (by decide) rfl rfl hl.1 rfl (Nat.le_of_ble_eq_true rfl) ⟨Nat.le_of_ble_eq_true rfl, Nat.le_of_ble_eq_true rfl⟩ dX4_readWinds_7 (fun r3 u_ H locs hP hD hS h => ?_)
  obtain ⟨hu_, h⟩ := h
  rw [hu_] at hP hD
  refine lv_bipush (pc := 10) (v := (119 : Int32)) hx hb dX4_readWinds_10 (by decide) ?_
  refine lv_icmp_eq (pc := 12) (tgt := 17) hx hb dX4_readWinds_12 (by decide) (fun c4 => ?_) (fun c4 => ?_)
  · have h := h.1 c4
    refine lv_aload_n (pc := 17) hx hb dX4_readWinds_17 rfl (lv_at hl 0 rfl) ?_
    refine lv_dup (pc := 18) hx hb dX4_readWinds_18 rfl ?_
    refine fg4_9 (pc := 19) hx hb hown hts hK hP hk_x0 dX4_readWinds_19 ?_
    refine lv_iconst (pc := 22) (v := (1 : Int32)) hx hb dX4_readWinds_22 (by decide) ?_
    refine lv_iadd (pc := 23) hx hb dX4_readWinds_23 ?_
    refine fp4_9 (pc := 24) hx hb hown hts hK hP hD hS hk_x0 dX4_readWinds_24 (fun H locs hP hD hS => ?_)
    refine lv_iconst (pc := 27) (v := (0 : Int32)) hx hb dX4_readWinds_27 (by decide) ?_
    refine lv_istore_n (pc := 28) (lv' := [(3, .int (0 : Int32)), (0, .ref (ad x0)), (1, .ref (ad x1)), (2, .ref (ad x2))]) hx hb dX4_readWinds_28 rfl hl (by decide) rfl (fun ls hl => ?_)
    obtain ⟨n0, h⟩ := h
    exact w4_readWinds_L29 cx  n0 _ _ _ _ _ _ _ _ hk_x0 hk_x1 hk_x2 h hP hD hS (lv_sub hl [1, 2, 3, 0] rfl)
  · have h := h.2 c4
    refine lv_iconst (pc := 15) (v := (0 : Int32)) hx hb dX4_readWinds_15 (by decide) ?_
    exact kx_zret (pc := 16) hx hb hr hlocks hK hP hD hS (by decide) h dX4_readWinds_16
def p4_kindOf (x0 : Int32) (Q : Int32 → Prop) : Prop := (x0 = (98 : Int32) → Q (3 : Int32)) ∧ (¬ x0 = (98 : Int32) → (x0 = (99 : Int32) → Q (2 : Int32)) ∧ (¬ x0 = (99 : Int32) → (x0 = (104 : Int32) → Q (1 : Int32)) ∧ (¬ x0 = (104 : Int32) → (x0 = (106 : Int32) → Q (4 : Int32)) ∧ (¬ x0 = (106 : Int32) → (x0 = (107 : Int32) → Q (0 : Int32)) ∧ (¬ x0 = (107 : Int32) → (x0 = (115 : Int32) → Q (5 : Int32)) ∧ (¬ x0 = (115 : Int32) → Q (-1 : Int32)))))))
set_option maxHeartbeats 4000000 in
theorem q4_kindOf {σ : kx_St} {x0 : Int32} {Q : Int32 → Prop} (h : p4_kindOf x0 Q) : Met l yX4_kindOf (Cond.code yX4_kindOf cX4_kindOf 1 (some .int) :: kx_big) rm4_kindOf (va_Pc [.int x0] (kx_Wd D cy 0 ad A σ)) (kx_Qc kx_ci (fun u r => u = σ ∧ Q r) (kx_Wd D cy 0 ad A) A) 0 0 A := by
  refine kx_head (plainFor_of_name (by decide)) (Nat.le_of_ble_eq_true rfl) ?_
  intro p e s m below meth c ls cx hP hD hS hl
  obtain ⟨hx, hb, hr, hlocks, hml, hown, hts, hK⟩ := id cx
  have hl : lv_has ls 1 [(0, .int x0)] := hl
  refine lv_iload_n (pc := 0) hx hb dX4_kindOf_0 rfl (lv_at hl 0 rfl) ?_
  by_cases c1 : x0 = (98 : Int32)
  · have h := h.1 c1
    refine lv_tableIn (pc := 1) (tgt := 94) hx hb dX4_kindOf_1 (by rw [c1]; decide) (by rw [c1]; decide) (off := 93) (by rw [c1]; rfl) (by decide) ?_
    refine lv_iconst (pc := 94) (v := (3 : Int32)) hx hb dX4_kindOf_94 (by decide) ?_
    exact kx_iret (pc := 95) hx hb hr hlocks hK hP hD hS ⟨rfl, h⟩ dX4_kindOf_95
  · have h := h.2 c1
    by_cases c2 : x0 = (99 : Int32)
    · have h := h.1 c2
      refine lv_tableIn (pc := 1) (tgt := 92) hx hb dX4_kindOf_1 (by rw [c2]; decide) (by rw [c2]; decide) (off := 91) (by rw [c2]; rfl) (by decide) ?_
      refine lv_iconst (pc := 92) (v := (2 : Int32)) hx hb dX4_kindOf_92 (by decide) ?_
      exact kx_iret (pc := 93) hx hb hr hlocks hK hP hD hS ⟨rfl, h⟩ dX4_kindOf_93
    · have h := h.2 c2
      by_cases c7 : x0 = (104 : Int32)
      · have h := h.1 c7
        refine lv_tableIn (pc := 1) (tgt := 90) hx hb dX4_kindOf_1 (by rw [c7]; decide) (by rw [c7]; decide) (off := 89) (by rw [c7]; rfl) (by decide) ?_
        refine lv_iconst (pc := 90) (v := (1 : Int32)) hx hb dX4_kindOf_90 (by decide) ?_
        exact kx_iret (pc := 91) hx hb hr hlocks hK hP hD hS ⟨rfl, h⟩ dX4_kindOf_91
      · have h := h.2 c7
        by_cases c9 : x0 = (106 : Int32)
        · have h := h.1 c9
          refine lv_tableIn (pc := 1) (tgt := 96) hx hb dX4_kindOf_1 (by rw [c9]; decide) (by rw [c9]; decide) (off := 95) (by rw [c9]; rfl) (by decide) ?_
          refine lv_iconst (pc := 96) (v := (4 : Int32)) hx hb dX4_kindOf_96 (by decide) ?_
          exact kx_iret (pc := 97) hx hb hr hlocks hK hP hD hS ⟨rfl, h⟩ dX4_kindOf_97
        · have h := h.2 c9
          by_cases c10 : x0 = (107 : Int32)
          · have h := h.1 c10
            refine lv_tableIn (pc := 1) (tgt := 88) hx hb dX4_kindOf_1 (by rw [c10]; decide) (by rw [c10]; decide) (off := 87) (by rw [c10]; rfl) (by decide) ?_
            refine lv_iconst (pc := 88) (v := (0 : Int32)) hx hb dX4_kindOf_88 (by decide) ?_
            exact kx_iret (pc := 89) hx hb hr hlocks hK hP hD hS ⟨rfl, h⟩ dX4_kindOf_89
          · have h := h.2 c10
            by_cases c18 : x0 = (115 : Int32)
            · have h := h.1 c18
              refine lv_tableIn (pc := 1) (tgt := 98) hx hb dX4_kindOf_1 (by rw [c18]; decide) (by rw [c18]; decide) (off := 97) (by rw [c18]; rfl) (by decide) ?_
              refine lv_iconst (pc := 98) (v := (5 : Int32)) hx hb dX4_kindOf_98 (by decide) ?_
              exact kx_iret (pc := 99) hx hb hr hlocks hK hP hD hS ⟨rfl, h⟩ dX4_kindOf_99
            · have h := h.2 c18
              by_cases c19 : x0 = (100 : Int32)
              · refine lv_tableIn (pc := 1) (tgt := 100) hx hb dX4_kindOf_1 (by rw [c19]; decide) (by rw [c19]; decide) (off := 99) (by rw [c19]; rfl) (by decide) ?_
                refine lv_iconst (pc := 100) (v := (-1 : Int32)) hx hb dX4_kindOf_100 (by decide) ?_
                exact kx_iret (pc := 101) hx hb hr hlocks hK hP hD hS ⟨rfl, h⟩ dX4_kindOf_101
              by_cases c20 : x0 = (101 : Int32)
              · refine lv_tableIn (pc := 1) (tgt := 100) hx hb dX4_kindOf_1 (by rw [c20]; decide) (by rw [c20]; decide) (off := 99) (by rw [c20]; rfl) (by decide) ?_
                refine lv_iconst (pc := 100) (v := (-1 : Int32)) hx hb dX4_kindOf_100 (by decide) ?_
                exact kx_iret (pc := 101) hx hb hr hlocks hK hP hD hS ⟨rfl, h⟩ dX4_kindOf_101
              by_cases c21 : x0 = (102 : Int32)
              · refine lv_tableIn (pc := 1) (tgt := 100) hx hb dX4_kindOf_1 (by rw [c21]; decide) (by rw [c21]; decide) (off := 99) (by rw [c21]; rfl) (by decide) ?_
                refine lv_iconst (pc := 100) (v := (-1 : Int32)) hx hb dX4_kindOf_100 (by decide) ?_
                exact kx_iret (pc := 101) hx hb hr hlocks hK hP hD hS ⟨rfl, h⟩ dX4_kindOf_101
              by_cases c22 : x0 = (103 : Int32)
              · refine lv_tableIn (pc := 1) (tgt := 100) hx hb dX4_kindOf_1 (by rw [c22]; decide) (by rw [c22]; decide) (off := 99) (by rw [c22]; rfl) (by decide) ?_
                refine lv_iconst (pc := 100) (v := (-1 : Int32)) hx hb dX4_kindOf_100 (by decide) ?_
                exact kx_iret (pc := 101) hx hb hr hlocks hK hP hD hS ⟨rfl, h⟩ dX4_kindOf_101
              by_cases c23 : x0 = (105 : Int32)
              · refine lv_tableIn (pc := 1) (tgt := 100) hx hb dX4_kindOf_1 (by rw [c23]; decide) (by rw [c23]; decide) (off := 99) (by rw [c23]; rfl) (by decide) ?_
                refine lv_iconst (pc := 100) (v := (-1 : Int32)) hx hb dX4_kindOf_100 (by decide) ?_
                exact kx_iret (pc := 101) hx hb hr hlocks hK hP hD hS ⟨rfl, h⟩ dX4_kindOf_101
              by_cases c24 : x0 = (108 : Int32)
              · refine lv_tableIn (pc := 1) (tgt := 100) hx hb dX4_kindOf_1 (by rw [c24]; decide) (by rw [c24]; decide) (off := 99) (by rw [c24]; rfl) (by decide) ?_
                refine lv_iconst (pc := 100) (v := (-1 : Int32)) hx hb dX4_kindOf_100 (by decide) ?_
                exact kx_iret (pc := 101) hx hb hr hlocks hK hP hD hS ⟨rfl, h⟩ dX4_kindOf_101
              by_cases c25 : x0 = (109 : Int32)
              · refine lv_tableIn (pc := 1) (tgt := 100) hx hb dX4_kindOf_1 (by rw [c25]; decide) (by rw [c25]; decide) (off := 99) (by rw [c25]; rfl) (by decide) ?_
                refine lv_iconst (pc := 100) (v := (-1 : Int32)) hx hb dX4_kindOf_100 (by decide) ?_
                exact kx_iret (pc := 101) hx hb hr hlocks hK hP hD hS ⟨rfl, h⟩ dX4_kindOf_101
              by_cases c26 : x0 = (110 : Int32)
              · refine lv_tableIn (pc := 1) (tgt := 100) hx hb dX4_kindOf_1 (by rw [c26]; decide) (by rw [c26]; decide) (off := 99) (by rw [c26]; rfl) (by decide) ?_
                refine lv_iconst (pc := 100) (v := (-1 : Int32)) hx hb dX4_kindOf_100 (by decide) ?_
                exact kx_iret (pc := 101) hx hb hr hlocks hK hP hD hS ⟨rfl, h⟩ dX4_kindOf_101
              by_cases c27 : x0 = (111 : Int32)
              · refine lv_tableIn (pc := 1) (tgt := 100) hx hb dX4_kindOf_1 (by rw [c27]; decide) (by rw [c27]; decide) (off := 99) (by rw [c27]; rfl) (by decide) ?_
                refine lv_iconst (pc := 100) (v := (-1 : Int32)) hx hb dX4_kindOf_100 (by decide) ?_
                exact kx_iret (pc := 101) hx hb hr hlocks hK hP hD hS ⟨rfl, h⟩ dX4_kindOf_101
              by_cases c28 : x0 = (112 : Int32)
              · refine lv_tableIn (pc := 1) (tgt := 100) hx hb dX4_kindOf_1 (by rw [c28]; decide) (by rw [c28]; decide) (off := 99) (by rw [c28]; rfl) (by decide) ?_
                refine lv_iconst (pc := 100) (v := (-1 : Int32)) hx hb dX4_kindOf_100 (by decide) ?_
                exact kx_iret (pc := 101) hx hb hr hlocks hK hP hD hS ⟨rfl, h⟩ dX4_kindOf_101
              by_cases c29 : x0 = (113 : Int32)
              · refine lv_tableIn (pc := 1) (tgt := 100) hx hb dX4_kindOf_1 (by rw [c29]; decide) (by rw [c29]; decide) (off := 99) (by rw [c29]; rfl) (by decide) ?_
                refine lv_iconst (pc := 100) (v := (-1 : Int32)) hx hb dX4_kindOf_100 (by decide) ?_
                exact kx_iret (pc := 101) hx hb hr hlocks hK hP hD hS ⟨rfl, h⟩ dX4_kindOf_101
              by_cases c30 : x0 = (114 : Int32)
              · refine lv_tableIn (pc := 1) (tgt := 100) hx hb dX4_kindOf_1 (by rw [c30]; decide) (by rw [c30]; decide) (off := 99) (by rw [c30]; rfl) (by decide) ?_
                refine lv_iconst (pc := 100) (v := (-1 : Int32)) hx hb dX4_kindOf_100 (by decide) ?_
                exact kx_iret (pc := 101) hx hb hr hlocks hK hP hD hS ⟨rfl, h⟩ dX4_kindOf_101
              have tc1 : x0.toInt ≠ 98 := fun q => c1 (Int32.toInt_inj.mp (q.trans (by decide)))
              have tc2 : x0.toInt ≠ 99 := fun q => c2 (Int32.toInt_inj.mp (q.trans (by decide)))
              have tc19 : x0.toInt ≠ 100 := fun q => c19 (Int32.toInt_inj.mp (q.trans (by decide)))
              have tc20 : x0.toInt ≠ 101 := fun q => c20 (Int32.toInt_inj.mp (q.trans (by decide)))
              have tc21 : x0.toInt ≠ 102 := fun q => c21 (Int32.toInt_inj.mp (q.trans (by decide)))
              have tc22 : x0.toInt ≠ 103 := fun q => c22 (Int32.toInt_inj.mp (q.trans (by decide)))
              have tc7 : x0.toInt ≠ 104 := fun q => c7 (Int32.toInt_inj.mp (q.trans (by decide)))
              have tc23 : x0.toInt ≠ 105 := fun q => c23 (Int32.toInt_inj.mp (q.trans (by decide)))
              have tc9 : x0.toInt ≠ 106 := fun q => c9 (Int32.toInt_inj.mp (q.trans (by decide)))
              have tc10 : x0.toInt ≠ 107 := fun q => c10 (Int32.toInt_inj.mp (q.trans (by decide)))
              have tc24 : x0.toInt ≠ 108 := fun q => c24 (Int32.toInt_inj.mp (q.trans (by decide)))
              have tc25 : x0.toInt ≠ 109 := fun q => c25 (Int32.toInt_inj.mp (q.trans (by decide)))
              have tc26 : x0.toInt ≠ 110 := fun q => c26 (Int32.toInt_inj.mp (q.trans (by decide)))
              have tc27 : x0.toInt ≠ 111 := fun q => c27 (Int32.toInt_inj.mp (q.trans (by decide)))
              have tc28 : x0.toInt ≠ 112 := fun q => c28 (Int32.toInt_inj.mp (q.trans (by decide)))
              have tc29 : x0.toInt ≠ 113 := fun q => c29 (Int32.toInt_inj.mp (q.trans (by decide)))
              have tc30 : x0.toInt ≠ 114 := fun q => c30 (Int32.toInt_inj.mp (q.trans (by decide)))
              have tc18 : x0.toInt ≠ 115 := fun q => c18 (Int32.toInt_inj.mp (q.trans (by decide)))
              refine lv_tableOut (pc := 1) (tgt := 100) hx hb dX4_kindOf_1 (kx_swd (fun k q1 q2 => by omega)) (by decide) ?_
              refine lv_iconst (pc := 100) (v := (-1 : Int32)) hx hb dX4_kindOf_100 (by decide) ?_
              exact kx_iret (pc := 101) hx hb hr hlocks hK hP hD hS ⟨rfl, h⟩ dX4_kindOf_101
def p4_readKite (σ : kx_St) (x0 : Nat) (x1 : Nat) (x2 : Nat) (Q : kx_St → Int32 → Prop) : Prop := kx_k 0 x0 = 4 ∧ (kx_k 0 x1 = 5 ∧ (kx_k 0 x2 = 1 ∧ (p4_sign σ x0 x1 (fun r1 => p4_kindOf r1 (fun r2 => (fun σ3 : kx_St => (0 ≤ (σ3.1 x2 0) → (fun σ5 : kx_St => p4_readFigure σ5 x0 x1 (1 : Int32) (9 : Int32) (fun σ7 r6 => (fun σ8 : kx_St => (0 ≤ (σ8.1 x2 1) → p4_readFigure σ8 x0 x1 (0 : Int32) (9 : Int32) (fun σ11 r10 => (fun σ12 : kx_St => (0 ≤ (σ12.1 x2 2) → p4_readFigure σ12 x0 x1 (0 : Int32) (3 : Int32) (fun σ15 r14 => (fun σ16 : kx_St => ((σ16.1 x2 3) < 0 → Q σ16 (0 : Int32)) ∧ (¬ (σ16.1 x2 3) < 0 → Q σ16 (1 : Int32))) (kx_sI σ15 x2 3 r14))) ∧ (¬ 0 ≤ (σ12.1 x2 2) → Q σ12 (0 : Int32))) (kx_sI σ11 x2 2 r10))) ∧ (¬ 0 ≤ (σ8.1 x2 1) → Q σ8 (0 : Int32))) (kx_sI σ7 x2 1 r6))) (kx_sI σ3 x0 0 ((σ3.1 x0 0) + (1 : Int32)))) ∧ (¬ 0 ≤ (σ3.1 x2 0) → Q σ3 (0 : Int32))) (kx_sI σ x2 0 r2))))))
set_option maxHeartbeats 4000000 in
theorem q4_readKite {σ : kx_St} {x0 : Nat} {x1 : Nat} {x2 : Nat} {Q : kx_St → Int32 → Prop} (h : p4_readKite σ x0 x1 x2 Q) : Met l yX4_readKite (Cond.code yX4_readKite cX4_readKite 3 (some .boolean) :: kx_big) rm4_readKite (va_Pc [.ref (ad x0), .ref (ad x1), .ref (ad x2)] (kx_Wd D cy 0 ad A σ)) (kx_Qc kx_ci Q (kx_Wd D cy 0 ad A) A) 0 0 A := by
  refine kx_head (plainFor_of_name (by decide)) (Nat.le_of_ble_eq_true rfl) ?_
  intro p e s m below meth c ls cx hP hD hS hl
  obtain ⟨hx, hb, hr, hlocks, hml, hown, hts, hK⟩ := id cx
  obtain ⟨hk_x0, h⟩ := h
  obtain ⟨hk_x1, h⟩ := h
  obtain ⟨hk_x2, h⟩ := h
  have hl : lv_has ls 3 [(0, .ref (ad x0)), (1, .ref (ad x1)), (2, .ref (ad x2))] := hl
  refine lv_aload_n (pc := 0) hx hb dX4_readKite_0 rfl (lv_at hl 2 rfl) ?_
  refine lv_aload_n (pc := 1) hx hb dX4_readKite_1 rfl (lv_at hl 0 rfl) ?_
  refine lv_aload_n (pc := 2) hx hb dX4_readKite_2 rfl (lv_at hl 1 rfl) ?_
  refine kx_iVi (pc := 3) [.ref (ad x1)] hx hb hml hown hts hK hP hD hS (q4_sign h) (cw4_26 hts ⟨Nat.le_of_ble_eq_true rfl, Nat.le_of_ble_eq_true rfl⟩) hk_x0 (by decide) rfl rfl hl.1 rfl (Nat.le_of_ble_eq_true rfl) ⟨Nat.le_of_ble_eq_true rfl, Nat.le_of_ble_eq_true rfl⟩ dX4_readKite_3 (fun r1 u_ H locs hP hD hS h => ?_)
  obtain ⟨hu_, h⟩ := h
  rw [hu_] at hP hD
  refine kx_iSi (pc := 6) [.int r1] hx hb hml hown hts hK hP hD hS (q4_kindOf h) (cw4_59 hts ⟨Nat.le_of_ble_eq_true rfl, Nat.le_of_ble_eq_true rfl⟩) rfl hl.1 rfl (Nat.le_of_ble_eq_true rfl) ⟨Nat.le_of_ble_eq_true rfl, Nat.le_of_ble_eq_true rfl⟩ dX4_readKite_6 (fun r2 u_ H locs hP hD hS h => ?_)
  obtain ⟨hu_, h⟩ := h
  rw [hu_] at hP hD
  refine fp4_63 (pc := 9) hx hb hown hts hK hP hD hS hk_x2 dX4_readKite_9 (fun H locs hP hD hS => ?_)
  refine lv_aload_n (pc := 12) hx hb dX4_readKite_12 rfl (lv_at hl 2 rfl) ?_
  refine fg4_63 (pc := 13) hx hb hown hts hK hP hk_x2 dX4_readKite_13 ?_
  refine lv_if_ge (pc := 16) (tgt := 21) hx hb dX4_readKite_16 (by decide) (fun c4 => ?_) (fun c4 => ?_)
  · have h := h.1 c4
    refine lv_aload_n (pc := 21) hx hb dX4_readKite_21 rfl (lv_at hl 0 rfl) ?_
    refine lv_dup (pc := 22) hx hb dX4_readKite_22 rfl ?_
    refine fg4_9 (pc := 23) hx hb hown hts hK hP hk_x0 dX4_readKite_23 ?_
    refine lv_iconst (pc := 26) (v := (1 : Int32)) hx hb dX4_readKite_26 (by decide) ?_
    refine lv_iadd (pc := 27) hx hb dX4_readKite_27 ?_
    refine fp4_9 (pc := 28) hx hb hown hts hK hP hD hS hk_x0 dX4_readKite_28 (fun H locs hP hD hS => ?_)
    refine lv_aload_n (pc := 31) hx hb dX4_readKite_31 rfl (lv_at hl 2 rfl) ?_
    refine lv_aload_n (pc := 32) hx hb dX4_readKite_32 rfl (lv_at hl 0 rfl) ?_
    refine lv_aload_n (pc := 33) hx hb dX4_readKite_33 rfl (lv_at hl 1 rfl) ?_
    refine lv_iconst (pc := 34) (v := (1 : Int32)) hx hb dX4_readKite_34 (by decide) ?_
    refine lv_bipush (pc := 35) (v := (9 : Int32)) hx hb dX4_readKite_35 (by decide) ?_
    refine kx_iVi (pc := 37) [.ref (ad x1), .int (1 : Int32), .int (9 : Int32)] hx hb hml hown hts hK hP hD hS (q4_readFigure h) (cw4_36 hts ⟨Nat.le_of_ble_eq_true rfl, Nat.le_of_ble_eq_true rfl⟩) hk_x0 (by decide) rfl rfl hl.1 rfl (Nat.le_of_ble_eq_true rfl) ⟨Nat.le_of_ble_eq_true rfl, Nat.le_of_ble_eq_true rfl⟩ dX4_readKite_37 (fun r6 σ7 H locs hP hD hS h => ?_)
    refine fp4_68 (pc := 40) hx hb hown hts hK hP hD hS hk_x2 dX4_readKite_40 (fun H locs hP hD hS => ?_)
    refine lv_aload_n (pc := 43) hx hb dX4_readKite_43 rfl (lv_at hl 2 rfl) ?_
    refine fg4_68 (pc := 44) hx hb hown hts hK hP hk_x2 dX4_readKite_44 ?_
    refine lv_if_ge (pc := 47) (tgt := 52) hx hb dX4_readKite_47 (by decide) (fun c9 => ?_) (fun c9 => ?_)
    · have h := h.1 c9
      refine lv_aload_n (pc := 52) hx hb dX4_readKite_52 rfl (lv_at hl 2 rfl) ?_
      refine lv_aload_n (pc := 53) hx hb dX4_readKite_53 rfl (lv_at hl 0 rfl) ?_
      refine lv_aload_n (pc := 54) hx hb dX4_readKite_54 rfl (lv_at hl 1 rfl) ?_
      refine lv_iconst (pc := 55) (v := (0 : Int32)) hx hb dX4_readKite_55 (by decide) ?_
      refine lv_bipush (pc := 56) (v := (9 : Int32)) hx hb dX4_readKite_56 (by decide) ?_
      refine kx_iVi (pc := 58) [.ref (ad x1), .int (0 : Int32), .int (9 : Int32)] hx hb hml hown hts hK hP hD hS (q4_readFigure h) (cw4_36 hts ⟨Nat.le_of_ble_eq_true rfl, Nat.le_of_ble_eq_true rfl⟩) hk_x0 (by decide) rfl rfl hl.1 rfl (Nat.le_of_ble_eq_true rfl) ⟨Nat.le_of_ble_eq_true rfl, Nat.le_of_ble_eq_true rfl⟩ dX4_readKite_58 (fun r10 σ11 H locs hP hD hS h => ?_)
      refine fp4_71 (pc := 61) hx hb hown hts hK hP hD hS hk_x2 dX4_readKite_61 (fun H locs hP hD hS => ?_)
      refine lv_aload_n (pc := 64) hx hb dX4_readKite_64 rfl (lv_at hl 2 rfl) ?_
      refine fg4_71 (pc := 65) hx hb hown hts hK hP hk_x2 dX4_readKite_65 ?_
      refine lv_if_ge (pc := 68) (tgt := 73) hx hb dX4_readKite_68 (by decide) (fun c13 => ?_) (fun c13 => ?_)
      · have h := h.1 c13
        refine lv_aload_n (pc := 73) hx hb dX4_readKite_73 rfl (lv_at hl 2 rfl) ?_
        refine lv_aload_n (pc := 74) hx hb dX4_readKite_74 rfl (lv_at hl 0 rfl) ?_
        refine lv_aload_n (pc := 75) hx hb dX4_readKite_75 rfl (lv_at hl 1 rfl) ?_
        refine lv_iconst (pc := 76) (v := (0 : Int32)) hx hb dX4_readKite_76 (by decide) ?_
        refine lv_iconst (pc := 77) (v := (3 : Int32)) hx hb dX4_readKite_77 (by decide) ?_
        refine kx_iVi (pc := 78) [.ref (ad x1), .int (0 : Int32), .int (3 : Int32)] hx hb hml hown hts hK hP hD hS (q4_readFigure h) (cw4_36 hts ⟨Nat.le_of_ble_eq_true rfl, Nat.le_of_ble_eq_true rfl⟩) hk_x0 (by decide) rfl rfl hl.1 rfl (Nat.le_of_ble_eq_true rfl) ⟨Nat.le_of_ble_eq_true rfl, Nat.le_of_ble_eq_true rfl⟩ dX4_readKite_78 (fun r14 σ15 H locs hP hD hS h => ?_)
        refine fp4_74 (pc := 81) hx hb hown hts hK hP hD hS hk_x2 dX4_readKite_81 (fun H locs hP hD hS => ?_)
        refine lv_aload_n (pc := 84) hx hb dX4_readKite_84 rfl (lv_at hl 2 rfl) ?_
        refine fg4_74 (pc := 85) hx hb hown hts hK hP hk_x2 dX4_readKite_85 ?_
        refine lv_if_lt (pc := 88) (tgt := 95) hx hb dX4_readKite_88 (by decide) (fun c17 => ?_) (fun c17 => ?_)
        · have h := h.1 c17
          refine lv_iconst (pc := 95) (v := (0 : Int32)) hx hb dX4_readKite_95 (by decide) ?_
          exact kx_zret (pc := 96) hx hb hr hlocks hK hP hD hS (by decide) h dX4_readKite_96
        · have h := h.2 c17
          refine lv_iconst (pc := 91) (v := (1 : Int32)) hx hb dX4_readKite_91 (by decide) ?_
          refine lv_goto (pc := 92) (tgt := 96) hx hb dX4_readKite_92 (by decide) ?_
          exact kx_zret (pc := 96) hx hb hr hlocks hK hP hD hS (by decide) h dX4_readKite_96
      · have h := h.2 c13
        refine lv_iconst (pc := 71) (v := (0 : Int32)) hx hb dX4_readKite_71 (by decide) ?_
        exact kx_zret (pc := 72) hx hb hr hlocks hK hP hD hS (by decide) h dX4_readKite_72
    · have h := h.2 c9
      refine lv_iconst (pc := 50) (v := (0 : Int32)) hx hb dX4_readKite_50 (by decide) ?_
      exact kx_zret (pc := 51) hx hb hr hlocks hK hP hD hS (by decide) h dX4_readKite_51
  · have h := h.2 c4
    refine lv_iconst (pc := 19) (v := (0 : Int32)) hx hb dX4_readKite_19 (by decide) ?_
    exact kx_zret (pc := 20) hx hb hr hlocks hK hP hD hS (by decide) h dX4_readKite_20
def p4_readKites_J69 (σ : kx_St) (x0 : Nat) (x1 : Nat) (x2 : Nat) (Q : kx_St → Int32 → Prop) : Prop := ((σ.1 x2 3) ≤ 0 → Q σ (0 : Int32)) ∧ (¬ (σ.1 x2 3) ≤ 0 → (¬ (σ.1 x0 0) = (σ.1 x1 1) → Q σ (0 : Int32)) ∧ ((σ.1 x0 0) = (σ.1 x1 1) → Q σ (1 : Int32)))
set_option maxHeartbeats 4000000 in
theorem w4_readKites_J69 {σ : kx_St} {x0 : Nat} {x1 : Nat} {x2 : Nat}  {Q : kx_St → Int32 → Prop} {H : Heap} {locs : List Loc} {ls : Array Slot} (cx : kx_Cx p s m args meth c D cy RX4 cX4_readKites 4 (some .boolean))  (hk_x0 : kx_k 0 x0 = 4) (hk_x1 : kx_k 0 x1 = 5) (hk_x2 : kx_k 0 x2 = 3) (h : p4_readKites_J69 σ x0 x1 x2 Q) (hP : va_P D vwCl (kx_ws cy 0 ad σ) H) (hD : va_D A (kx_ws cy 0 ad σ)) (hS : va_S A s.heap H locs) (hl : lv_has ls 4 [(0, .ref (ad x0)), (1, .ref (ad x1)), (2, .ref (ad x2))]) : W p l e rm4_readKites s m args below meth c H locs 0 0 (MQ below (kx_Qc kx_ci Q (kx_Wd D cy 0 ad A) A) args s 0 0 A) (F0 m 69 ls []) := by
  obtain ⟨hx, hb, hr, hlocks, hml, hown, hts, hK⟩ := id cx
  refine lv_aload_n (pc := 69) hx hb dX4_readKites_69 rfl (lv_at hl 2 rfl) ?_
  refine fg4_43 (pc := 70) hx hb hown hts hK hP hk_x2 dX4_readKites_70 ?_
  refine lv_if_le (pc := 73) (tgt := 91) hx hb dX4_readKites_73 (by decide) (fun c1 => ?_) (fun c1 => ?_)
  · have h := h.1 c1
    refine lv_iconst (pc := 91) (v := (0 : Int32)) hx hb dX4_readKites_91 (by decide) ?_
    exact kx_zret (pc := 92) hx hb hr hlocks hK hP hD hS (by decide) h dX4_readKites_92
  · have h := h.2 c1
    refine lv_aload_n (pc := 76) hx hb dX4_readKites_76 rfl (lv_at hl 0 rfl) ?_
    refine fg4_9 (pc := 77) hx hb hown hts hK hP hk_x0 dX4_readKites_77 ?_
    refine lv_aload_n (pc := 80) hx hb dX4_readKites_80 rfl (lv_at hl 1 rfl) ?_
    refine fg4_50 (pc := 81) hx hb hown hts hK hP hk_x1 dX4_readKites_81 ?_
    refine lv_icmp_ne (pc := 84) (tgt := 91) hx hb dX4_readKites_84 (by decide) (fun c2 => ?_) (fun c2 => ?_)
    · have h := h.1 c2
      refine lv_iconst (pc := 91) (v := (0 : Int32)) hx hb dX4_readKites_91 (by decide) ?_
      exact kx_zret (pc := 92) hx hb hr hlocks hK hP hD hS (by decide) h dX4_readKites_92
    · have h := h.2 c2
      refine lv_iconst (pc := 87) (v := (1 : Int32)) hx hb dX4_readKites_87 (by decide) ?_
      refine lv_goto (pc := 88) (tgt := 92) hx hb dX4_readKites_88 (by decide) ?_
      exact kx_zret (pc := 92) hx hb hr hlocks hK hP hD hS (by decide) h dX4_readKites_92
def p4_readKites_L12 : Nat → kx_St → Nat → Nat → Nat → Int32 → (kx_St → Int32 → Prop) → Prop
  | 0, _, _, _, _, _, _ => False
  | n + 1, σ, x0, x1, x2, x3, Q => ((Int32.ofNat (kx_l 0 (kx_r 0 x2 1))) ≤ x3 → p4_readKites_J69 σ x0 x1 x2 Q) ∧ (¬ (Int32.ofNat (kx_l 0 (kx_r 0 x2 1))) ≤ x3 → ((σ.1 x1 1) ≤ (σ.1 x0 0) → p4_readKites_J69 σ x0 x1 x2 Q) ∧ (¬ (σ.1 x1 1) ≤ (σ.1 x0 0) → vp_in x3 (kx_l 0 (kx_r 0 x2 1)) ∧ (p4_readKite σ x0 x1 (kx_r 0 (kx_r 0 x2 1) x3.toNatClampNeg) (fun σ5 r4 => (¬ r4 = 0 → (fun σ7 : kx_St => p4_skipBlanks σ7 x0 x1 (fun σ9 => p4_readKites_L12 n σ9 x0 x1 x2 (x3 + (1 : Int32)) Q)) (kx_sI σ5 x2 3 ((σ5.1 x2 3) + (1 : Int32)))) ∧ (r4 = 0 → Q σ5 (0 : Int32))))))
set_option maxHeartbeats 4000000 in
theorem w4_readKites_L12  {Q : kx_St → Int32 → Prop} (cx : kx_Cx p s m args meth c D cy RX4 cX4_readKites 4 (some .boolean))  : ∀ (n : Nat) (σ : kx_St) (x0 : Nat) (x1 : Nat) (x2 : Nat) (x3 : Int32) (H : Heap) (locs : List Loc) (ls : Array Slot), kx_k 0 x0 = 4 → kx_k 0 x1 = 5 → kx_k 0 x2 = 3 → p4_readKites_L12 n σ x0 x1 x2 x3 Q → va_P D vwCl (kx_ws cy 0 ad σ) H → va_D A (kx_ws cy 0 ad σ) → va_S A s.heap H locs → lv_has ls 4 [(0, .ref (ad x0)), (1, .ref (ad x1)), (2, .ref (ad x2)), (3, .int x3)] → W p l e rm4_readKites s m args below meth c H locs 0 0 (MQ below (kx_Qc kx_ci Q (kx_Wd D cy 0 ad A) A) args s 0 0 A) (F0 m 12 ls []) := by
  obtain ⟨hx, hb, hr, hlocks, hml, hown, hts, hK⟩ := id cx
  intro n
  induction n with
  | zero => intro _ _ _ _ _ _ _ _ _ _ _ h; exact False.elim h
  | succ n ih =>
    intro σ x0 x1 x2 x3 H locs ls hk_x0 hk_x1 hk_x2 h hP hD hS hl
    refine lv_iload_n (pc := 12) hx hb dX4_readKites_12 rfl (lv_at hl 3 rfl) ?_
    refine lv_aload_n (pc := 13) hx hb dX4_readKites_13 rfl (lv_at hl 2 rfl) ?_
    refine fg4_46 (pc := 14) hx hb hown hts hK hP hk_x2 rfl dX4_readKites_14 ?_
    refine kx_alen (pc := 17) hx hb hK hP (ky_3_1 hk_x2) (by decide) (by decide) dX4_readKites_17 ?_
    refine lv_icmp_ge (pc := 18) (tgt := 69) hx hb dX4_readKites_18 (by decide) (fun c1 => ?_) (fun c1 => ?_)
    · have h := h.1 c1
      exact w4_readKites_J69 cx  hk_x0 hk_x1 hk_x2 h hP hD hS (lv_sub hl [0, 1, 2] rfl)
    · have h := h.2 c1
      refine lv_aload_n (pc := 21) hx hb dX4_readKites_21 rfl (lv_at hl 0 rfl) ?_
      refine fg4_9 (pc := 22) hx hb hown hts hK hP hk_x0 dX4_readKites_22 ?_
      refine lv_aload_n (pc := 25) hx hb dX4_readKites_25 rfl (lv_at hl 1 rfl) ?_
      refine fg4_50 (pc := 26) hx hb hown hts hK hP hk_x1 dX4_readKites_26 ?_
      refine lv_icmp_ge (pc := 29) (tgt := 69) hx hb dX4_readKites_29 (by decide) (fun c2 => ?_) (fun c2 => ?_)
      · have h := h.1 c2
        exact w4_readKites_J69 cx  hk_x0 hk_x1 hk_x2 h hP hD hS (lv_sub hl [0, 1, 2] rfl)
      · have h := h.2 c2
        refine lv_aload_n (pc := 32) hx hb dX4_readKites_32 rfl (lv_at hl 0 rfl) ?_
        refine lv_aload_n (pc := 33) hx hb dX4_readKites_33 rfl (lv_at hl 1 rfl) ?_
        refine lv_aload_n (pc := 34) hx hb dX4_readKites_34 rfl (lv_at hl 2 rfl) ?_
        refine fg4_46 (pc := 35) hx hb hown hts hK hP hk_x2 rfl dX4_readKites_35 ?_
        refine lv_iload_n (pc := 38) hx hb dX4_readKites_38 rfl (lv_at hl 3 rfl) ?_
        obtain ⟨g3, h⟩ := h
        refine kx_aald (pc := 39) hx hb hK hP (ky_3_1 hk_x2) (by decide) (by decide) g3 dX4_readKites_39 ?_
        refine kx_iVi (pc := 40) [.ref (ad x1), .ref (ad (kx_r 0 (kx_r 0 x2 1) x3.toNatClampNeg))] hx hb hml hown hts hK hP hD hS (q4_readKite h) (cw4_55 hts ⟨Nat.le_of_ble_eq_true rfl, Nat.le_of_ble_eq_true rfl⟩) hk_x0 (by decide) rfl rfl hl.1 rfl (Nat.le_of_ble_eq_true rfl) ⟨Nat.le_of_ble_eq_true rfl, Nat.le_of_ble_eq_true rfl⟩ dX4_readKites_40 (fun r4 σ5 H locs hP hD hS h => ?_)
        refine lv_if_ne (pc := 43) (tgt := 48) hx hb dX4_readKites_43 (by decide) (fun c6 => ?_) (fun c6 => ?_)
        · have h := h.1 c6
          refine lv_aload_n (pc := 48) hx hb dX4_readKites_48 rfl (lv_at hl 2 rfl) ?_
          refine lv_dup (pc := 49) hx hb dX4_readKites_49 rfl ?_
          refine fg4_43 (pc := 50) hx hb hown hts hK hP hk_x2 dX4_readKites_50 ?_
          refine lv_iconst (pc := 53) (v := (1 : Int32)) hx hb dX4_readKites_53 (by decide) ?_
          refine lv_iadd (pc := 54) hx hb dX4_readKites_54 ?_
          refine fp4_43 (pc := 55) hx hb hown hts hK hP hD hS hk_x2 dX4_readKites_55 (fun H locs hP hD hS => ?_)
          refine lv_aload_n (pc := 58) hx hb dX4_readKites_58 rfl (lv_at hl 0 rfl) ?_
          refine lv_aload_n (pc := 59) hx hb dX4_readKites_59 rfl (lv_at hl 1 rfl) ?_
          refine kx_iVv (pc := 60) [.ref (ad x1)] hx hb hml hown hts hK hP hD hS (q4_skipBlanks h) (cw4_22 hts ⟨Nat.le_of_ble_eq_true rfl, Nat.le_of_ble_eq_true rfl⟩) hk_x0 (by decide) rfl rfl hl.1 rfl (Nat.le_of_ble_eq_true rfl) ⟨Nat.le_of_ble_eq_true rfl, Nat.le_of_ble_eq_true rfl⟩ dX4_readKites_60 (fun _ σ9 H locs hP hD hS h => ?_)
          refine lv_iinc (pc := 63) (v := (x3 + (1 : Int32))) (lv' := [(3, .int (x3 + (1 : Int32))), (0, .ref (ad x0)), (1, .ref (ad x1)), (2, .ref (ad x2))]) hx hb dX4_readKites_63 hl (k := 3) rfl rfl (by decide) rfl (fun ls hl => ?_)
          refine lv_goto (pc := 66) (tgt := 12) hx hb dX4_readKites_66 (by decide) ?_
          exact ih _ _ _ _ _ _ _ _ hk_x0 hk_x1 hk_x2 h hP hD hS (lv_sub hl [1, 2, 3, 0] rfl)
        · have h := h.2 c6
          refine lv_iconst (pc := 46) (v := (0 : Int32)) hx hb dX4_readKites_46 (by decide) ?_
          exact kx_zret (pc := 47) hx hb hr hlocks hK hP hD hS (by decide) h dX4_readKites_47
def p4_readKites (σ : kx_St) (x0 : Nat) (x1 : Nat) (x2 : Nat) (Q : kx_St → Int32 → Prop) : Prop := kx_k 0 x0 = 4 ∧ (kx_k 0 x1 = 5 ∧ (kx_k 0 x2 = 3 ∧ ((fun σ1 : kx_St => p4_skipBlanks σ1 x0 x1 (fun σ3 => ∃ m12, p4_readKites_L12 m12 σ3 x0 x1 x2 (0 : Int32) Q)) (kx_sI σ x2 3 (0 : Int32)))))
set_option maxHeartbeats 4000000 in
theorem q4_readKites {σ : kx_St} {x0 : Nat} {x1 : Nat} {x2 : Nat} {Q : kx_St → Int32 → Prop} (h : p4_readKites σ x0 x1 x2 Q) : Met l yX4_readKites (Cond.code yX4_readKites cX4_readKites 4 (some .boolean) :: kx_big) rm4_readKites (va_Pc [.ref (ad x0), .ref (ad x1), .ref (ad x2)] (kx_Wd D cy 0 ad A σ)) (kx_Qc kx_ci Q (kx_Wd D cy 0 ad A) A) 0 0 A := by
  refine kx_head (plainFor_of_name (by decide)) (Nat.le_of_ble_eq_true rfl) ?_
  intro p e s m below meth c ls cx hP hD hS hl
  obtain ⟨hx, hb, hr, hlocks, hml, hown, hts, hK⟩ := id cx
  obtain ⟨hk_x0, h⟩ := h
  obtain ⟨hk_x1, h⟩ := h
  obtain ⟨hk_x2, h⟩ := h
  have hl : lv_has ls 4 [(0, .ref (ad x0)), (1, .ref (ad x1)), (2, .ref (ad x2))] := hl
  refine lv_aload_n (pc := 0) hx hb dX4_readKites_0 rfl (lv_at hl 2 rfl) ?_
  refine lv_iconst (pc := 1) (v := (0 : Int32)) hx hb dX4_readKites_1 (by decide) ?_
  refine fp4_43 (pc := 2) hx hb hown hts hK hP hD hS hk_x2 dX4_readKites_2 (fun H locs hP hD hS => ?_)
  refine lv_aload_n (pc := 5) hx hb dX4_readKites_5 rfl (lv_at hl 0 rfl) ?_
  refine lv_aload_n (pc := 6) hx hb dX4_readKites_6 rfl (lv_at hl 1 rfl) ?_
  refine kx_iVv (pc := 7) [.ref (ad x1)] hx hb hml hown hts hK hP hD hS (q4_skipBlanks h) (cw4_22 hts ⟨Nat.le_of_ble_eq_true rfl, Nat.le_of_ble_eq_true rfl⟩) hk_x0 (by decide) rfl rfl hl.1 rfl (Nat.le_of_ble_eq_true rfl) ⟨Nat.le_of_ble_eq_true rfl, Nat.le_of_ble_eq_true rfl⟩ dX4_readKites_7 (fun _ σ3 H locs hP hD hS h => ?_)
  refine lv_iconst (pc := 10) (v := (0 : Int32)) hx hb dX4_readKites_10 (by decide) ?_
  refine lv_istore_n (pc := 11) (lv' := [(3, .int (0 : Int32)), (0, .ref (ad x0)), (1, .ref (ad x1)), (2, .ref (ad x2))]) hx hb dX4_readKites_11 rfl hl (by decide) rfl (fun ls hl => ?_)
  obtain ⟨n0, h⟩ := h
  exact w4_readKites_L12 cx  n0 _ _ _ _ _ _ _ _ hk_x0 hk_x1 hk_x2 h hP hD hS (lv_sub hl [1, 2, 3, 0] rfl)
def p4_read (σ : kx_St) (x0 : Nat) (x1 : Nat) (x2 : Nat) (Q : kx_St → Int32 → Prop) : Prop := kx_k 0 x0 = 4 ∧ (kx_k 0 x1 = 5 ∧ (kx_k 0 x2 = 3 ∧ ((fun σ1 : kx_St => p4_readWinds σ1 x0 x1 x2 (fun σ3 r2 => (r2 = 0 → Q σ3 (σ3.1 x0 0)) ∧ (¬ r2 = 0 → p4_readKites σ3 x0 x1 x2 (fun σ6 r5 => (r5 = 0 → Q σ6 (σ6.1 x0 0)) ∧ (¬ r5 = 0 → Q σ6 (-9 : Int32)))))) (kx_sI σ x0 0 (0 : Int32)))))
set_option maxHeartbeats 4000000 in
theorem q4_read {σ : kx_St} {x0 : Nat} {x1 : Nat} {x2 : Nat} {Q : kx_St → Int32 → Prop} (h : p4_read σ x0 x1 x2 Q) : Met l yX4_read (Cond.code yX4_read cX4_read 3 (some .int) :: kx_big) rm4_read (va_Pc [.ref (ad x0), .ref (ad x1), .ref (ad x2)] (kx_Wd D cy 0 ad A σ)) (kx_Qc kx_ci Q (kx_Wd D cy 0 ad A) A) 0 0 A := by
  refine kx_head (plainFor_of_name (by decide)) (Nat.le_of_ble_eq_true rfl) ?_
  intro p e s m below meth c ls cx hP hD hS hl
  obtain ⟨hx, hb, hr, hlocks, hml, hown, hts, hK⟩ := id cx
  obtain ⟨hk_x0, h⟩ := h
  obtain ⟨hk_x1, h⟩ := h
  obtain ⟨hk_x2, h⟩ := h
  have hl : lv_has ls 3 [(0, .ref (ad x0)), (1, .ref (ad x1)), (2, .ref (ad x2))] := hl
  refine lv_aload_n (pc := 0) hx hb dX4_read_0 rfl (lv_at hl 0 rfl) ?_
  refine lv_iconst (pc := 1) (v := (0 : Int32)) hx hb dX4_read_1 (by decide) ?_
  refine fp4_9 (pc := 2) hx hb hown hts hK hP hD hS hk_x0 dX4_read_2 (fun H locs hP hD hS => ?_)
  refine lv_aload_n (pc := 5) hx hb dX4_read_5 rfl (lv_at hl 0 rfl) ?_
  refine lv_aload_n (pc := 6) hx hb dX4_read_6 rfl (lv_at hl 1 rfl) ?_
  refine lv_aload_n (pc := 7) hx hb dX4_read_7 rfl (lv_at hl 2 rfl) ?_
  refine kx_iVi (pc := 8) [.ref (ad x1), .ref (ad x2)] hx hb hml hown hts hK hP hD hS (q4_readWinds h) (cw4_15 hts ⟨Nat.le_of_ble_eq_true rfl, Nat.le_of_ble_eq_true rfl⟩) hk_x0 (by decide) rfl rfl hl.1 rfl (Nat.le_of_ble_eq_true rfl) ⟨Nat.le_of_ble_eq_true rfl, Nat.le_of_ble_eq_true rfl⟩ dX4_read_8 (fun r2 σ3 H locs hP hD hS h => ?_)
  refine lv_if_eq (pc := 11) (tgt := 28) hx hb dX4_read_11 (by decide) (fun c4 => ?_) (fun c4 => ?_)
  · have h := h.1 c4
    refine lv_aload_n (pc := 28) hx hb dX4_read_28 rfl (lv_at hl 0 rfl) ?_
    refine fg4_9 (pc := 29) hx hb hown hts hK hP hk_x0 dX4_read_29 ?_
    exact kx_iret (pc := 32) hx hb hr hlocks hK hP hD hS h dX4_read_32
  · have h := h.2 c4
    refine lv_aload_n (pc := 14) hx hb dX4_read_14 rfl (lv_at hl 0 rfl) ?_
    refine lv_aload_n (pc := 15) hx hb dX4_read_15 rfl (lv_at hl 1 rfl) ?_
    refine lv_aload_n (pc := 16) hx hb dX4_read_16 rfl (lv_at hl 2 rfl) ?_
    refine kx_iVi (pc := 17) [.ref (ad x1), .ref (ad x2)] hx hb hml hown hts hK hP hD hS (q4_readKites h) (cw4_19 hts ⟨Nat.le_of_ble_eq_true rfl, Nat.le_of_ble_eq_true rfl⟩) hk_x0 (by decide) rfl rfl hl.1 rfl (Nat.le_of_ble_eq_true rfl) ⟨Nat.le_of_ble_eq_true rfl, Nat.le_of_ble_eq_true rfl⟩ dX4_read_17 (fun r5 σ6 H locs hP hD hS h => ?_)
    refine lv_if_eq (pc := 20) (tgt := 28) hx hb dX4_read_20 (by decide) (fun c7 => ?_) (fun c7 => ?_)
    · have h := h.1 c7
      refine lv_aload_n (pc := 28) hx hb dX4_read_28 rfl (lv_at hl 0 rfl) ?_
      refine fg4_9 (pc := 29) hx hb hown hts hK hP hk_x0 dX4_read_29 ?_
      exact kx_iret (pc := 32) hx hb hr hlocks hK hP hD hS h dX4_read_32
    · have h := h.2 c7
      refine lv_bipush (pc := 23) (v := (-9 : Int32)) hx hb dX4_read_23 (by decide) ?_
      refine lv_goto (pc := 25) (tgt := 32) hx hb dX4_read_25 (by decide) ?_
      exact kx_iret (pc := 32) hx hb hr hlocks hK hP hD hS h dX4_read_32
end
