section
variable {p : Program} {l : Launch} {e : Env} {s : State} {m : MethodId} {args : Array Value} {below : List Frame} {meth : Method} {c : Code} {D : va_G} {cy : Nat → ClassId} {ad : Nat → Nat} {A : Nat → Prop}

def p0_fillGains_J88 (σ : kx_St) (x0 : Nat) (x1 : Nat) (x2 : Int32) (x3 : Int32) (x4 : Int32) (x5 : Int32) (x6 : Int32) (s0 : Nat) (s1 : Int32) (s2 : Int32) (k20 : kx_St → Nat → Nat → Int32 → Int32 → Int32 → Int32 → Int32 → Prop) (Q : kx_St → Prop) : Prop := vp_in s1 (kx_l 0 s0) ∧ ((fun σ2 : kx_St => k20 σ2 x0 x1 x2 x3 x4 x5 (x6 + (1 : Int32))) (kx_sI σ s0 s1.toNatClampNeg s2))
set_option maxHeartbeats 4000000 in
theorem w0_fillGains_J88 {σ : kx_St} {x0 : Nat} {x1 : Nat} {x2 : Int32} {x3 : Int32} {x4 : Int32} {x5 : Int32} {x6 : Int32} {s0 : Nat} {s1 : Int32} {s2 : Int32} {k20 : kx_St → Nat → Nat → Int32 → Int32 → Int32 → Int32 → Int32 → Prop} {Q : kx_St → Prop} {H : Heap} {locs : List Loc} {ls : Array Slot} (cx : kx_Cx p s m args meth c D cy RX0 cX0_fillGains 9 none) (hk20 : ∀ (σ : kx_St) (x0 : Nat) (x1 : Nat) (x2 : Int32) (x3 : Int32) (x4 : Int32) (x5 : Int32) (x6 : Int32) (H : Heap) (locs : List Loc) (ls : Array Slot), kx_k 0 x0 = 0 → kx_k 0 x1 = 3 → k20 σ x0 x1 x2 x3 x4 x5 x6 → va_P D vwCl (kx_ws cy 0 ad σ) H → va_D A (kx_ws cy 0 ad σ) → va_S A s.heap H locs → lv_has ls 9 [(0, .ref (ad x0)), (1, .ref (ad x1)), (2, .int x2), (3, .int x3), (4, .int x4), (5, .int x5), (6, .int x6)] → W p l e rm0_fillGains s m args below meth c H locs 0 0 (MQ below (kx_Qc kx_cv (fun u _ => Q u) (kx_Wd D cy 0 ad A) A) args s 0 0 A) (F0 m 20 ls [])) (hk_x0 : kx_k 0 x0 = 0) (hk_x1 : kx_k 0 x1 = 3) (hk_s0 : kx_k 0 s0 = 8) (h : p0_fillGains_J88 σ x0 x1 x2 x3 x4 x5 x6 s0 s1 s2 k20 Q) (hP : va_P D vwCl (kx_ws cy 0 ad σ) H) (hD : va_D A (kx_ws cy 0 ad σ)) (hS : va_S A s.heap H locs) (hl : lv_has ls 9 [(0, .ref (ad x0)), (1, .ref (ad x1)), (2, .int x2), (3, .int x3), (4, .int x4), (5, .int x5), (6, .int x6)]) : W p l e rm0_fillGains s m args below meth c H locs 0 0 (MQ below (kx_Qc kx_cv (fun u _ => Q u) (kx_Wd D cy 0 ad A) A) args s 0 0 A) (F0 m 88 ls [.int s2, .int s1, .ref (ad s0)]) := by
  obtain ⟨hx, hb, hr, hlocks, hml, hown, hts, hK⟩ := id cx
  obtain ⟨g1, h⟩ := h
  refine kx_iast (pc := 88) hx hb hK hP hD hS hk_s0 g1 dX0_fillGains_88 (fun H locs hP hD hS => ?_)
  refine lv_iinc (pc := 89) (v := (x6 + (1 : Int32))) (lv' := [(6, .int (x6 + (1 : Int32))), (0, .ref (ad x0)), (1, .ref (ad x1)), (2, .int x2), (3, .int x3), (4, .int x4), (5, .int x5)]) hx hb dX0_fillGains_89 hl (k := 6) rfl rfl (by decide) rfl (fun ls hl => ?_)
  refine lv_goto (pc := 92) (tgt := 20) hx hb dX0_fillGains_92 (by decide) ?_
  exact hk20 _ _ _ _ _ _ _ _ _ _ _ hk_x0 hk_x1 h hP hD hS (lv_sub hl [1, 2, 3, 4, 5, 6, 0] rfl)
def p0_fillGains_L20 : Nat → kx_St → Nat → Nat → Int32 → Int32 → Int32 → Int32 → Int32 → (kx_St → Nat → Nat → Int32 → Int32 → Int32 → Prop) → (kx_St → Prop) → Prop
  | 0, _, _, _, _, _, _, _, _, _, _ => False
  | n + 1, σ, x0, x1, x2, x3, x4, x5, x6, k3, Q => ((σ.1 x0 2) ≤ x6 → k3 σ x0 x1 x2 x3 (x4 + (1 : Int32))) ∧ (¬ (σ.1 x0 2) ≤ x6 → p3_kiteAt σ x1 x6 (fun o2 => (o2 = none → vp_in x4 (kx_l 0 (kx_r 0 x0 0)) ∧ (p0_fillGains_J88 σ x0 x1 x2 x3 x4 x5 x6 (kx_r 0 (kx_r 0 x0 0) x4.toNatClampNeg) x6 (-1 : Int32) (fun σ x0 x1 x2 x3 x4 x5 x6 => p0_fillGains_L20 n σ x0 x1 x2 x3 x4 x5 x6 k3 Q) Q)) ∧ (∀ b3, o2 = some b3 → kx_k 0 b3 = 1 ∧ ((¬ x3 = 0 → vp_in x4 (kx_l 0 (kx_r 0 x0 0)) ∧ (p1_payIn σ b3 x5 (fun r8 => p0_fillGains_J88 σ x0 x1 x2 x3 x4 x5 x6 (kx_r 0 (kx_r 0 x0 0) x4.toNatClampNeg) x6 r8 (fun σ x0 x1 x2 x3 x4 x5 x6 => p0_fillGains_L20 n σ x0 x1 x2 x3 x4 x5 x6 k3 Q) Q))) ∧ (x3 = 0 → p1_isLiftedIn σ b3 x5 (fun r10 => (r10 = 0 → vp_in x4 (kx_l 0 (kx_r 0 x0 0)) ∧ (p1_payIn σ b3 x5 (fun r13 => p0_fillGains_J88 σ x0 x1 x2 x3 x4 x5 x6 (kx_r 0 (kx_r 0 x0 0) x4.toNatClampNeg) x6 r13 (fun σ x0 x1 x2 x3 x4 x5 x6 => p0_fillGains_L20 n σ x0 x1 x2 x3 x4 x5 x6 k3 Q) Q))) ∧ (¬ r10 = 0 → vp_in x4 (kx_l 0 (kx_r 0 x0 0)) ∧ (p0_fillGains_J88 σ x0 x1 x2 x3 x4 x5 x6 (kx_r 0 (kx_r 0 x0 0) x4.toNatClampNeg) x6 (-1 : Int32) (fun σ x0 x1 x2 x3 x4 x5 x6 => p0_fillGains_L20 n σ x0 x1 x2 x3 x4 x5 x6 k3 Q) Q))))))))
set_option maxHeartbeats 4000000 in
theorem w0_fillGains_L20 {k3 : kx_St → Nat → Nat → Int32 → Int32 → Int32 → Prop} {Q : kx_St → Prop} (cx : kx_Cx p s m args meth c D cy RX0 cX0_fillGains 9 none) (hk3 : ∀ (σ : kx_St) (x0 : Nat) (x1 : Nat) (x2 : Int32) (x3 : Int32) (x4 : Int32) (H : Heap) (locs : List Loc) (ls : Array Slot), kx_k 0 x0 = 0 → kx_k 0 x1 = 3 → k3 σ x0 x1 x2 x3 x4 → va_P D vwCl (kx_ws cy 0 ad σ) H → va_D A (kx_ws cy 0 ad σ) → va_S A s.heap H locs → lv_has ls 9 [(0, .ref (ad x0)), (1, .ref (ad x1)), (2, .int x2), (3, .int x3), (4, .int x4)] → W p l e rm0_fillGains s m args below meth c H locs 0 0 (MQ below (kx_Qc kx_cv (fun u _ => Q u) (kx_Wd D cy 0 ad A) A) args s 0 0 A) (F0 m 3 ls [])) : ∀ (n : Nat) (σ : kx_St) (x0 : Nat) (x1 : Nat) (x2 : Int32) (x3 : Int32) (x4 : Int32) (x5 : Int32) (x6 : Int32) (H : Heap) (locs : List Loc) (ls : Array Slot), kx_k 0 x0 = 0 → kx_k 0 x1 = 3 → p0_fillGains_L20 n σ x0 x1 x2 x3 x4 x5 x6 k3 Q → va_P D vwCl (kx_ws cy 0 ad σ) H → va_D A (kx_ws cy 0 ad σ) → va_S A s.heap H locs → lv_has ls 9 [(0, .ref (ad x0)), (1, .ref (ad x1)), (2, .int x2), (3, .int x3), (4, .int x4), (5, .int x5), (6, .int x6)] → W p l e rm0_fillGains s m args below meth c H locs 0 0 (MQ below (kx_Qc kx_cv (fun u _ => Q u) (kx_Wd D cy 0 ad A) A) args s 0 0 A) (F0 m 20 ls []) := by
  obtain ⟨hx, hb, hr, hlocks, hml, hown, hts, hK⟩ := id cx
  intro n
  induction n with
  | zero => intro _ _ _ _ _ _ _ _ _ _ _ _ _ h; exact False.elim h
  | succ n ih =>
    intro σ x0 x1 x2 x3 x4 x5 x6 H locs ls hk_x0 hk_x1 h hP hD hS hl
    refine lv_iload (pc := 20) hx hb dX0_fillGains_20 (lv_at hl 6 rfl) ?_
    refine lv_aload_n (pc := 22) hx hb dX0_fillGains_22 rfl (lv_at hl 0 rfl) ?_
    refine fg0_45 (pc := 23) hx hb hown hts hK hP hk_x0 dX0_fillGains_23 ?_
    refine lv_icmp_ge (pc := 26) (tgt := 95) hx hb dX0_fillGains_26 (by decide) (fun c1 => ?_) (fun c1 => ?_)
    · have h := h.1 c1
      refine lv_iinc (pc := 95) (v := (x4 + (1 : Int32))) (lv' := [(4, .int (x4 + (1 : Int32))), (0, .ref (ad x0)), (1, .ref (ad x1)), (2, .int x2), (3, .int x3), (5, .int x5), (6, .int x6)]) hx hb dX0_fillGains_95 hl (k := 4) rfl rfl (by decide) rfl (fun ls hl => ?_)
      refine lv_goto (pc := 98) (tgt := 3) hx hb dX0_fillGains_98 (by decide) ?_
      exact hk3 _ _ _ _ _ _ _ _ _ hk_x0 hk_x1 h hP hD hS (lv_sub hl [1, 2, 3, 4, 0] rfl)
    · have h := h.2 c1
      refine lv_aload_n (pc := 29) hx hb dX0_fillGains_29 rfl (lv_at hl 1 rfl) ?_
      refine lv_iload (pc := 30) hx hb dX0_fillGains_30 (lv_at hl 6 rfl) ?_
      refine kx_iVr (pc := 32) [.int x6] hx hb hml hown hts hK hP hD hS (q3_kiteAt h) (cw0_71 hts ⟨Nat.le_of_ble_eq_true rfl, Nat.le_of_ble_eq_true rfl⟩) hk_x1 (by decide) rfl rfl hl.1 rfl (Nat.le_of_ble_eq_true rfl) ⟨Nat.le_of_ble_eq_true rfl, Nat.le_of_ble_eq_true rfl⟩ dX0_fillGains_32 (fun o2 u_ H locs hP hD hS h => ?_)
      obtain ⟨hu_, h⟩ := h
      rw [hu_] at hP hD
      rcases o2 with _ | b3
      · have h := h.1 rfl
        refine lv_astoreN (pc := 35) (lv' := [(7, .null), (0, .ref (ad x0)), (1, .ref (ad x1)), (2, .int x2), (3, .int x3), (4, .int x4), (5, .int x5), (6, .int x6)]) hx hb dX0_fillGains_35 hl (by decide) rfl (fun ls hl => ?_)
        refine lv_aloadN (pc := 37) hx hb dX0_fillGains_37 (lv_at hl 0 rfl) ?_
        refine lv_ifnullN (pc := 39) (tgt := 56) hx hb dX0_fillGains_39 (by decide) ?_
        refine lv_iconst (pc := 56) (v := (1 : Int32)) hx hb dX0_fillGains_56 (by decide) ?_
        refine lv_goto (pc := 57) (tgt := 61) hx hb dX0_fillGains_57 (by decide) ?_
        refine lv_istore (pc := 61) (lv' := [(8, .int (1 : Int32)), (7, .null), (0, .ref (ad x0)), (1, .ref (ad x1)), (2, .int x2), (3, .int x3), (4, .int x4), (5, .int x5), (6, .int x6)]) hx hb dX0_fillGains_61 hl (by decide) rfl (fun ls hl => ?_)
        refine lv_aload_n (pc := 63) hx hb dX0_fillGains_63 rfl (lv_at hl 2 rfl) ?_
        refine fg0_11 (pc := 64) hx hb hown hts hK hP hk_x0 rfl dX0_fillGains_64 ?_
        refine lv_iload (pc := 67) hx hb dX0_fillGains_67 (lv_at hl 6 rfl) ?_
        obtain ⟨g4, h⟩ := h
        refine kx_aald (pc := 69) hx hb hK hP (ky_0_0 hk_x0) (by decide) (by decide) g4 dX0_fillGains_69 ?_
        refine lv_iload (pc := 70) hx hb dX0_fillGains_70 (lv_at hl 8 rfl) ?_
        refine lv_iload (pc := 72) hx hb dX0_fillGains_72 (lv_at hl 0 rfl) ?_
        refine lv_if_eq (pc := 74) (tgt := 81) hx hb dX0_fillGains_74 (by decide) (fun c0 => absurd c0 (by decide)) (fun _ => ?_)
        refine lv_iconst (pc := 77) (v := (-1 : Int32)) hx hb dX0_fillGains_77 (by decide) ?_
        refine lv_goto (pc := 78) (tgt := 88) hx hb dX0_fillGains_78 (by decide) ?_
        have hc5 : ∀ (σ : kx_St) (x0 : Nat) (x1 : Nat) (x2 : Int32) (x3 : Int32) (x4 : Int32) (x5 : Int32) (x6 : Int32) (H : Heap) (locs : List Loc) (ls : Array Slot), kx_k 0 x0 = 0 → kx_k 0 x1 = 3 → (fun σ x0 x1 x2 x3 x4 x5 x6 => p0_fillGains_L20 n σ x0 x1 x2 x3 x4 x5 x6 k3 Q) σ x0 x1 x2 x3 x4 x5 x6 → va_P D vwCl (kx_ws cy 0 ad σ) H → va_D A (kx_ws cy 0 ad σ) → va_S A s.heap H locs → lv_has ls 9 [(0, .ref (ad x0)), (1, .ref (ad x1)), (2, .int x2), (3, .int x3), (4, .int x4), (5, .int x5), (6, .int x6)] → W p l e rm0_fillGains s m args below meth c H locs 0 0 (MQ below (kx_Qc kx_cv (fun u _ => Q u) (kx_Wd D cy 0 ad A) A) args s 0 0 A) (F0 m 20 ls []) := fun σ x0 x1 x2 x3 x4 x5 x6 H locs ls hk_x0 hk_x1 h hP hD hS hl => ih _ _ _ _ _ _ _ _ _ _ _ hk_x0 hk_x1 h hP hD hS hl
        exact w0_fillGains_J88 cx hc5 hk_x0 hk_x1 (ky_12 (ky_0_0 hk_x0) g4) h hP hD hS (lv_sub hl [2, 3, 4, 5, 6, 7, 8] rfl)
      · obtain ⟨hk_b3, h⟩ := h.2 b3 rfl
        refine lv_astore (pc := 35) (lv' := [(7, .ref (ad b3)), (0, .ref (ad x0)), (1, .ref (ad x1)), (2, .int x2), (3, .int x3), (4, .int x4), (5, .int x5), (6, .int x6)]) hx hb dX0_fillGains_35 hl (by decide) rfl (fun ls hl => ?_)
        refine lv_aload (pc := 37) hx hb dX0_fillGains_37 (lv_at hl 0 rfl) ?_
        refine lv_ifnull (pc := 39) hx hb dX0_fillGains_39 ?_
        refine lv_iload_n (pc := 42) hx hb dX0_fillGains_42 rfl (lv_at hl 4 rfl) ?_
        refine lv_if_ne (pc := 43) (tgt := 60) hx hb dX0_fillGains_43 (by decide) (fun c6 => ?_) (fun c6 => ?_)
        · have h := h.1 c6
          refine lv_iconst (pc := 60) (v := (0 : Int32)) hx hb dX0_fillGains_60 (by decide) ?_
          refine lv_istore (pc := 61) (lv' := [(8, .int (0 : Int32)), (7, .ref (ad b3)), (0, .ref (ad x0)), (1, .ref (ad x1)), (2, .int x2), (3, .int x3), (4, .int x4), (5, .int x5), (6, .int x6)]) hx hb dX0_fillGains_61 hl (by decide) rfl (fun ls hl => ?_)
          refine lv_aload_n (pc := 63) hx hb dX0_fillGains_63 rfl (lv_at hl 2 rfl) ?_
          refine fg0_11 (pc := 64) hx hb hown hts hK hP hk_x0 rfl dX0_fillGains_64 ?_
          refine lv_iload (pc := 67) hx hb dX0_fillGains_67 (lv_at hl 6 rfl) ?_
          obtain ⟨g7, h⟩ := h
          refine kx_aald (pc := 69) hx hb hK hP (ky_0_0 hk_x0) (by decide) (by decide) g7 dX0_fillGains_69 ?_
          refine lv_iload (pc := 70) hx hb dX0_fillGains_70 (lv_at hl 8 rfl) ?_
          refine lv_iload (pc := 72) hx hb dX0_fillGains_72 (lv_at hl 0 rfl) ?_
          refine lv_if_eq (pc := 74) (tgt := 81) hx hb dX0_fillGains_74 (by decide) (fun _ => ?_) (fun c0 => absurd (by decide) c0)
          refine lv_aload (pc := 81) hx hb dX0_fillGains_81 (lv_at hl 1 rfl) ?_
          refine lv_iload (pc := 83) hx hb dX0_fillGains_83 (lv_at hl 7 rfl) ?_
          refine kx_iVi (pc := 85) [.int x5] hx hb hml hown hts hK hP hD hS (q1_payIn h) (cw0_81 hts ⟨Nat.le_of_ble_eq_true rfl, Nat.le_of_ble_eq_true rfl⟩) hk_b3 (by decide) rfl rfl hl.1 rfl (Nat.le_of_ble_eq_true rfl) ⟨Nat.le_of_ble_eq_true rfl, Nat.le_of_ble_eq_true rfl⟩ dX0_fillGains_85 (fun r8 u_ H locs hP hD hS h => ?_)
          obtain ⟨hu_, h⟩ := h
          rw [hu_] at hP hD
          have hc9 : ∀ (σ : kx_St) (x0 : Nat) (x1 : Nat) (x2 : Int32) (x3 : Int32) (x4 : Int32) (x5 : Int32) (x6 : Int32) (H : Heap) (locs : List Loc) (ls : Array Slot), kx_k 0 x0 = 0 → kx_k 0 x1 = 3 → (fun σ x0 x1 x2 x3 x4 x5 x6 => p0_fillGains_L20 n σ x0 x1 x2 x3 x4 x5 x6 k3 Q) σ x0 x1 x2 x3 x4 x5 x6 → va_P D vwCl (kx_ws cy 0 ad σ) H → va_D A (kx_ws cy 0 ad σ) → va_S A s.heap H locs → lv_has ls 9 [(0, .ref (ad x0)), (1, .ref (ad x1)), (2, .int x2), (3, .int x3), (4, .int x4), (5, .int x5), (6, .int x6)] → W p l e rm0_fillGains s m args below meth c H locs 0 0 (MQ below (kx_Qc kx_cv (fun u _ => Q u) (kx_Wd D cy 0 ad A) A) args s 0 0 A) (F0 m 20 ls []) := fun σ x0 x1 x2 x3 x4 x5 x6 H locs ls hk_x0 hk_x1 h hP hD hS hl => ih _ _ _ _ _ _ _ _ _ _ _ hk_x0 hk_x1 h hP hD hS hl
          exact w0_fillGains_J88 cx hc9 hk_x0 hk_x1 (ky_12 (ky_0_0 hk_x0) g7) h hP hD hS (lv_sub hl [2, 3, 4, 5, 6, 7, 8] rfl)
        · have h := h.2 c6
          refine lv_aload (pc := 46) hx hb dX0_fillGains_46 (lv_at hl 0 rfl) ?_
          refine lv_iload (pc := 48) hx hb dX0_fillGains_48 (lv_at hl 6 rfl) ?_
          refine kx_iVi (pc := 50) [.int x5] hx hb hml hown hts hK hP hD hS (q1_isLiftedIn h) (cw0_75 hts ⟨Nat.le_of_ble_eq_true rfl, Nat.le_of_ble_eq_true rfl⟩) hk_b3 (by decide) rfl rfl hl.1 rfl (Nat.le_of_ble_eq_true rfl) ⟨Nat.le_of_ble_eq_true rfl, Nat.le_of_ble_eq_true rfl⟩ dX0_fillGains_50 (fun r10 u_ H locs hP hD hS h => ?_)
          obtain ⟨hu_, h⟩ := h
          rw [hu_] at hP hD
          refine lv_if_eq (pc := 53) (tgt := 60) hx hb dX0_fillGains_53 (by decide) (fun c11 => ?_) (fun c11 => ?_)
          · have h := h.1 c11
            refine lv_iconst (pc := 60) (v := (0 : Int32)) hx hb dX0_fillGains_60 (by decide) ?_
            refine lv_istore (pc := 61) (lv' := [(8, .int (0 : Int32)), (7, .ref (ad b3)), (0, .ref (ad x0)), (1, .ref (ad x1)), (2, .int x2), (3, .int x3), (4, .int x4), (5, .int x5), (6, .int x6)]) hx hb dX0_fillGains_61 hl (by decide) rfl (fun ls hl => ?_)
            refine lv_aload_n (pc := 63) hx hb dX0_fillGains_63 rfl (lv_at hl 2 rfl) ?_
            refine fg0_11 (pc := 64) hx hb hown hts hK hP hk_x0 rfl dX0_fillGains_64 ?_
            refine lv_iload (pc := 67) hx hb dX0_fillGains_67 (lv_at hl 6 rfl) ?_
            obtain ⟨g12, h⟩ := h
            refine kx_aald (pc := 69) hx hb hK hP (ky_0_0 hk_x0) (by decide) (by decide) g12 dX0_fillGains_69 ?_
            refine lv_iload (pc := 70) hx hb dX0_fillGains_70 (lv_at hl 8 rfl) ?_
            refine lv_iload (pc := 72) hx hb dX0_fillGains_72 (lv_at hl 0 rfl) ?_
            refine lv_if_eq (pc := 74) (tgt := 81) hx hb dX0_fillGains_74 (by decide) (fun _ => ?_) (fun c0 => absurd (by decide) c0)
            refine lv_aload (pc := 81) hx hb dX0_fillGains_81 (lv_at hl 1 rfl) ?_
            refine lv_iload (pc := 83) hx hb dX0_fillGains_83 (lv_at hl 7 rfl) ?_
            refine kx_iVi (pc := 85) [.int x5] hx hb hml hown hts hK hP hD hS (q1_payIn h) (cw0_81 hts ⟨Nat.le_of_ble_eq_true rfl, Nat.le_of_ble_eq_true rfl⟩) hk_b3 (by decide) rfl rfl hl.1 rfl (Nat.le_of_ble_eq_true rfl) ⟨Nat.le_of_ble_eq_true rfl, Nat.le_of_ble_eq_true rfl⟩ dX0_fillGains_85 (fun r13 u_ H locs hP hD hS h => ?_)
            obtain ⟨hu_, h⟩ := h
            rw [hu_] at hP hD
            have hc14 : ∀ (σ : kx_St) (x0 : Nat) (x1 : Nat) (x2 : Int32) (x3 : Int32) (x4 : Int32) (x5 : Int32) (x6 : Int32) (H : Heap) (locs : List Loc) (ls : Array Slot), kx_k 0 x0 = 0 → kx_k 0 x1 = 3 → (fun σ x0 x1 x2 x3 x4 x5 x6 => p0_fillGains_L20 n σ x0 x1 x2 x3 x4 x5 x6 k3 Q) σ x0 x1 x2 x3 x4 x5 x6 → va_P D vwCl (kx_ws cy 0 ad σ) H → va_D A (kx_ws cy 0 ad σ) → va_S A s.heap H locs → lv_has ls 9 [(0, .ref (ad x0)), (1, .ref (ad x1)), (2, .int x2), (3, .int x3), (4, .int x4), (5, .int x5), (6, .int x6)] → W p l e rm0_fillGains s m args below meth c H locs 0 0 (MQ below (kx_Qc kx_cv (fun u _ => Q u) (kx_Wd D cy 0 ad A) A) args s 0 0 A) (F0 m 20 ls []) := fun σ x0 x1 x2 x3 x4 x5 x6 H locs ls hk_x0 hk_x1 h hP hD hS hl => ih _ _ _ _ _ _ _ _ _ _ _ hk_x0 hk_x1 h hP hD hS hl
            exact w0_fillGains_J88 cx hc14 hk_x0 hk_x1 (ky_12 (ky_0_0 hk_x0) g12) h hP hD hS (lv_sub hl [2, 3, 4, 5, 6, 7, 8] rfl)
          · have h := h.2 c11
            refine lv_iconst (pc := 56) (v := (1 : Int32)) hx hb dX0_fillGains_56 (by decide) ?_
            refine lv_goto (pc := 57) (tgt := 61) hx hb dX0_fillGains_57 (by decide) ?_
            refine lv_istore (pc := 61) (lv' := [(8, .int (1 : Int32)), (7, .ref (ad b3)), (0, .ref (ad x0)), (1, .ref (ad x1)), (2, .int x2), (3, .int x3), (4, .int x4), (5, .int x5), (6, .int x6)]) hx hb dX0_fillGains_61 hl (by decide) rfl (fun ls hl => ?_)
            refine lv_aload_n (pc := 63) hx hb dX0_fillGains_63 rfl (lv_at hl 2 rfl) ?_
            refine fg0_11 (pc := 64) hx hb hown hts hK hP hk_x0 rfl dX0_fillGains_64 ?_
            refine lv_iload (pc := 67) hx hb dX0_fillGains_67 (lv_at hl 6 rfl) ?_
            obtain ⟨g15, h⟩ := h
            refine kx_aald (pc := 69) hx hb hK hP (ky_0_0 hk_x0) (by decide) (by decide) g15 dX0_fillGains_69 ?_
            refine lv_iload (pc := 70) hx hb dX0_fillGains_70 (lv_at hl 8 rfl) ?_
            refine lv_iload (pc := 72) hx hb dX0_fillGains_72 (lv_at hl 0 rfl) ?_
            refine lv_if_eq (pc := 74) (tgt := 81) hx hb dX0_fillGains_74 (by decide) (fun c0 => absurd c0 (by decide)) (fun _ => ?_)
            refine lv_iconst (pc := 77) (v := (-1 : Int32)) hx hb dX0_fillGains_77 (by decide) ?_
            refine lv_goto (pc := 78) (tgt := 88) hx hb dX0_fillGains_78 (by decide) ?_
            have hc16 : ∀ (σ : kx_St) (x0 : Nat) (x1 : Nat) (x2 : Int32) (x3 : Int32) (x4 : Int32) (x5 : Int32) (x6 : Int32) (H : Heap) (locs : List Loc) (ls : Array Slot), kx_k 0 x0 = 0 → kx_k 0 x1 = 3 → (fun σ x0 x1 x2 x3 x4 x5 x6 => p0_fillGains_L20 n σ x0 x1 x2 x3 x4 x5 x6 k3 Q) σ x0 x1 x2 x3 x4 x5 x6 → va_P D vwCl (kx_ws cy 0 ad σ) H → va_D A (kx_ws cy 0 ad σ) → va_S A s.heap H locs → lv_has ls 9 [(0, .ref (ad x0)), (1, .ref (ad x1)), (2, .int x2), (3, .int x3), (4, .int x4), (5, .int x5), (6, .int x6)] → W p l e rm0_fillGains s m args below meth c H locs 0 0 (MQ below (kx_Qc kx_cv (fun u _ => Q u) (kx_Wd D cy 0 ad A) A) args s 0 0 A) (F0 m 20 ls []) := fun σ x0 x1 x2 x3 x4 x5 x6 H locs ls hk_x0 hk_x1 h hP hD hS hl => ih _ _ _ _ _ _ _ _ _ _ _ hk_x0 hk_x1 h hP hD hS hl
            exact w0_fillGains_J88 cx hc16 hk_x0 hk_x1 (ky_12 (ky_0_0 hk_x0) g15) h hP hD hS (lv_sub hl [2, 3, 4, 5, 6, 7, 8] rfl)
def p0_fillGains_L3 : Nat → kx_St → Nat → Nat → Int32 → Int32 → Int32 → (kx_St → Prop) → Prop
  | 0, _, _, _, _, _, _, _ => False
  | n + 1, σ, x0, x1, x2, x3, x4, Q => (x2 ≤ x4 → Q σ) ∧ (¬ x2 ≤ x4 → p3_windIn σ x1 x4 (fun r2 => ∃ m20, p0_fillGains_L20 m20 σ x0 x1 x2 x3 x4 r2 (0 : Int32) (fun σ x0 x1 x2 x3 x4 => p0_fillGains_L3 n σ x0 x1 x2 x3 x4 Q) Q))
set_option maxHeartbeats 4000000 in
theorem w0_fillGains_L3  {Q : kx_St → Prop} (cx : kx_Cx p s m args meth c D cy RX0 cX0_fillGains 9 none)  : ∀ (n : Nat) (σ : kx_St) (x0 : Nat) (x1 : Nat) (x2 : Int32) (x3 : Int32) (x4 : Int32) (H : Heap) (locs : List Loc) (ls : Array Slot), kx_k 0 x0 = 0 → kx_k 0 x1 = 3 → p0_fillGains_L3 n σ x0 x1 x2 x3 x4 Q → va_P D vwCl (kx_ws cy 0 ad σ) H → va_D A (kx_ws cy 0 ad σ) → va_S A s.heap H locs → lv_has ls 9 [(0, .ref (ad x0)), (1, .ref (ad x1)), (2, .int x2), (3, .int x3), (4, .int x4)] → W p l e rm0_fillGains s m args below meth c H locs 0 0 (MQ below (kx_Qc kx_cv (fun u _ => Q u) (kx_Wd D cy 0 ad A) A) args s 0 0 A) (F0 m 3 ls []) := by
  obtain ⟨hx, hb, hr, hlocks, hml, hown, hts, hK⟩ := id cx
  intro n
  induction n with
  | zero => intro _ _ _ _ _ _ _ _ _ _ _ h; exact False.elim h
  | succ n ih =>
    intro σ x0 x1 x2 x3 x4 H locs ls hk_x0 hk_x1 h hP hD hS hl
    refine lv_iload (pc := 3) hx hb dX0_fillGains_3 (lv_at hl 4 rfl) ?_
    refine lv_iload_n (pc := 5) hx hb dX0_fillGains_5 rfl (lv_at hl 2 rfl) ?_
    refine lv_icmp_ge (pc := 6) (tgt := 101) hx hb dX0_fillGains_6 (by decide) (fun c1 => ?_) (fun c1 => ?_)
    · have h := h.1 c1
      exact kx_vret (pc := 101) hx hb hr hlocks hK hP hD hS h dX0_fillGains_101
    · have h := h.2 c1
      refine lv_aload_n (pc := 9) hx hb dX0_fillGains_9 rfl (lv_at hl 1 rfl) ?_
      refine lv_iload (pc := 10) hx hb dX0_fillGains_10 (lv_at hl 4 rfl) ?_
      refine kx_iVi (pc := 12) [.int x4] hx hb hml hown hts hK hP hD hS (q3_windIn h) (cw0_67 hts ⟨Nat.le_of_ble_eq_true rfl, Nat.le_of_ble_eq_true rfl⟩) hk_x1 (by decide) rfl rfl hl.1 rfl (Nat.le_of_ble_eq_true rfl) ⟨Nat.le_of_ble_eq_true rfl, Nat.le_of_ble_eq_true rfl⟩ dX0_fillGains_12 (fun r2 u_ H locs hP hD hS h => ?_)
      obtain ⟨hu_, h⟩ := h
      rw [hu_] at hP hD
      refine lv_istore (pc := 15) (lv' := [(5, .int r2), (0, .ref (ad x0)), (1, .ref (ad x1)), (2, .int x2), (3, .int x3), (4, .int x4)]) hx hb dX0_fillGains_15 hl (by decide) rfl (fun ls hl => ?_)
      refine lv_iconst (pc := 17) (v := (0 : Int32)) hx hb dX0_fillGains_17 (by decide) ?_
      refine lv_istore (pc := 18) (lv' := [(6, .int (0 : Int32)), (5, .int r2), (0, .ref (ad x0)), (1, .ref (ad x1)), (2, .int x2), (3, .int x3), (4, .int x4)]) hx hb dX0_fillGains_18 hl (by decide) rfl (fun ls hl => ?_)
      have hc3 : ∀ (σ : kx_St) (x0 : Nat) (x1 : Nat) (x2 : Int32) (x3 : Int32) (x4 : Int32) (H : Heap) (locs : List Loc) (ls : Array Slot), kx_k 0 x0 = 0 → kx_k 0 x1 = 3 → (fun σ x0 x1 x2 x3 x4 => p0_fillGains_L3 n σ x0 x1 x2 x3 x4 Q) σ x0 x1 x2 x3 x4 → va_P D vwCl (kx_ws cy 0 ad σ) H → va_D A (kx_ws cy 0 ad σ) → va_S A s.heap H locs → lv_has ls 9 [(0, .ref (ad x0)), (1, .ref (ad x1)), (2, .int x2), (3, .int x3), (4, .int x4)] → W p l e rm0_fillGains s m args below meth c H locs 0 0 (MQ below (kx_Qc kx_cv (fun u _ => Q u) (kx_Wd D cy 0 ad A) A) args s 0 0 A) (F0 m 3 ls []) := fun σ x0 x1 x2 x3 x4 H locs ls hk_x0 hk_x1 h hP hD hS hl => ih _ _ _ _ _ _ _ _ _ hk_x0 hk_x1 h hP hD hS hl
      obtain ⟨n0, h⟩ := h
      exact w0_fillGains_L20 cx hc3 n0 _ _ _ _ _ _ _ _ _ _ _ hk_x0 hk_x1 h hP hD hS (lv_sub hl [2, 3, 4, 5, 6, 1, 0] rfl)
def p0_fillGains (σ : kx_St) (x0 : Nat) (x1 : Nat) (x2 : Int32) (x3 : Int32) (Q : kx_St → Prop) : Prop := kx_k 0 x0 = 0 ∧ (kx_k 0 x1 = 3 ∧ (∃ m3, p0_fillGains_L3 m3 σ x0 x1 x2 x3 (0 : Int32) Q))
set_option maxHeartbeats 4000000 in
theorem q0_fillGains {σ : kx_St} {x0 : Nat} {x1 : Nat} {x2 : Int32} {x3 : Int32} {Q : kx_St → Prop} (h : p0_fillGains σ x0 x1 x2 x3 Q) : Met l yX0_fillGains (Cond.code yX0_fillGains cX0_fillGains 9 none :: kx_big) rm0_fillGains (va_Pc [.ref (ad x0), .ref (ad x1), .int x2, .int x3] (kx_Wd D cy 0 ad A σ)) (kx_Qc kx_cv (fun u _ => Q u) (kx_Wd D cy 0 ad A) A) 0 0 A := by
  refine kx_head (plainFor_of_name (by decide)) (Nat.le_of_ble_eq_true rfl) ?_
  intro p e s m below meth c ls cx hP hD hS hl
  obtain ⟨hx, hb, hr, hlocks, hml, hown, hts, hK⟩ := id cx
  obtain ⟨hk_x0, h⟩ := h
  obtain ⟨hk_x1, h⟩ := h
  have hl : lv_has ls 9 [(0, .ref (ad x0)), (1, .ref (ad x1)), (2, .int x2), (3, .int x3)] := hl
  refine lv_iconst (pc := 0) (v := (0 : Int32)) hx hb dX0_fillGains_0 (by decide) ?_
  refine lv_istore (pc := 1) (lv' := [(4, .int (0 : Int32)), (0, .ref (ad x0)), (1, .ref (ad x1)), (2, .int x2), (3, .int x3)]) hx hb dX0_fillGains_1 hl (by decide) rfl (fun ls hl => ?_)
  obtain ⟨n0, h⟩ := h
  exact w0_fillGains_L3 cx  n0 _ _ _ _ _ _ _ _ _ hk_x0 hk_x1 h hP hD hS (lv_sub hl [1, 2, 3, 4, 0] rfl)
def p0_worth (σ : kx_St) (x0 : Nat) (x1 : Int32) (x2 : Int32) (Q : Int32 → Prop) : Prop := kx_k 0 x0 = 0 ∧ ((x1 < 0 → Q (0 : Int32)) ∧ (¬ x1 < 0 → ((6 : Int32) < x1 → Q (0 : Int32)) ∧ (¬ (6 : Int32) < x1 → (x2 < 0 → Q (0 : Int32)) ∧ (¬ x2 < 0 → ((64 : Int32) ≤ x2 → Q (0 : Int32)) ∧ (¬ (64 : Int32) ≤ x2 → vp_in x1 (kx_l 0 (kx_r 0 x0 1)) ∧ (vp_in x2 (kx_l 0 (kx_r 0 (kx_r 0 x0 1) x1.toNatClampNeg)) ∧ (Q (σ.1 (kx_r 0 (kx_r 0 x0 1) x1.toNatClampNeg) x2.toNatClampNeg))))))))
set_option maxHeartbeats 4000000 in
theorem q0_worth {σ : kx_St} {x0 : Nat} {x1 : Int32} {x2 : Int32} {Q : Int32 → Prop} (h : p0_worth σ x0 x1 x2 Q) : Met l yX0_worth (Cond.code yX0_worth cX0_worth 3 (some .int) :: kx_big) rm0_worth (va_Pc [.ref (ad x0), .int x1, .int x2] (kx_Wd D cy 0 ad A σ)) (kx_Qc kx_ci (fun u r => u = σ ∧ Q r) (kx_Wd D cy 0 ad A) A) 0 0 A := by
  refine kx_head (plainFor_of_name (by decide)) (Nat.le_of_ble_eq_true rfl) ?_
  intro p e s m below meth c ls cx hP hD hS hl
  obtain ⟨hx, hb, hr, hlocks, hml, hown, hts, hK⟩ := id cx
  obtain ⟨hk_x0, h⟩ := h
  have hl : lv_has ls 3 [(0, .ref (ad x0)), (1, .int x1), (2, .int x2)] := hl
  refine lv_iload_n (pc := 0) hx hb dX0_worth_0 rfl (lv_at hl 1 rfl) ?_
  refine lv_if_lt (pc := 1) (tgt := 31) hx hb dX0_worth_1 (by decide) (fun c1 => ?_) (fun c1 => ?_)
  · have h := h.1 c1
    refine lv_iconst (pc := 31) (v := (0 : Int32)) hx hb dX0_worth_31 (by decide) ?_
    exact kx_iret (pc := 32) hx hb hr hlocks hK hP hD hS ⟨rfl, h⟩ dX0_worth_32
  · have h := h.2 c1
    refine lv_iload_n (pc := 4) hx hb dX0_worth_4 rfl (lv_at hl 1 rfl) ?_
    refine lv_bipush (pc := 5) (v := (6 : Int32)) hx hb dX0_worth_5 (by decide) ?_
    refine lv_icmp_gt (pc := 7) (tgt := 31) hx hb dX0_worth_7 (by decide) (fun c2 => ?_) (fun c2 => ?_)
    · have h := h.1 c2
      refine lv_iconst (pc := 31) (v := (0 : Int32)) hx hb dX0_worth_31 (by decide) ?_
      exact kx_iret (pc := 32) hx hb hr hlocks hK hP hD hS ⟨rfl, h⟩ dX0_worth_32
    · have h := h.2 c2
      refine lv_iload_n (pc := 10) hx hb dX0_worth_10 rfl (lv_at hl 2 rfl) ?_
      refine lv_if_lt (pc := 11) (tgt := 31) hx hb dX0_worth_11 (by decide) (fun c3 => ?_) (fun c3 => ?_)
      · have h := h.1 c3
        refine lv_iconst (pc := 31) (v := (0 : Int32)) hx hb dX0_worth_31 (by decide) ?_
        exact kx_iret (pc := 32) hx hb hr hlocks hK hP hD hS ⟨rfl, h⟩ dX0_worth_32
      · have h := h.2 c3
        refine lv_iload_n (pc := 14) hx hb dX0_worth_14 rfl (lv_at hl 2 rfl) ?_
        refine lv_bipush (pc := 15) (v := (64 : Int32)) hx hb dX0_worth_15 (by decide) ?_
        refine lv_icmp_ge (pc := 17) (tgt := 31) hx hb dX0_worth_17 (by decide) (fun c4 => ?_) (fun c4 => ?_)
        · have h := h.1 c4
          refine lv_iconst (pc := 31) (v := (0 : Int32)) hx hb dX0_worth_31 (by decide) ?_
          exact kx_iret (pc := 32) hx hb hr hlocks hK hP hD hS ⟨rfl, h⟩ dX0_worth_32
        · have h := h.2 c4
          refine lv_aload_n (pc := 20) hx hb dX0_worth_20 rfl (lv_at hl 0 rfl) ?_
          refine fg0_16 (pc := 21) hx hb hown hts hK hP hk_x0 rfl dX0_worth_21 ?_
          refine lv_iload_n (pc := 24) hx hb dX0_worth_24 rfl (lv_at hl 1 rfl) ?_
          obtain ⟨g5, h⟩ := h
          refine kx_aald (pc := 25) hx hb hK hP (ky_0_1 hk_x0) (by decide) (by decide) g5 dX0_worth_25 ?_
          refine lv_iload_n (pc := 26) hx hb dX0_worth_26 rfl (lv_at hl 2 rfl) ?_
          obtain ⟨g6, h⟩ := h
          refine kx_iald (pc := 27) hx hb hK hP (ky_12 (ky_0_1 hk_x0) g5) g6 dX0_worth_27 ?_
          refine lv_goto (pc := 28) (tgt := 32) hx hb dX0_worth_28 (by decide) ?_
          exact kx_iret (pc := 32) hx hb hr hlocks hK hP hD hS ⟨rfl, h⟩ dX0_worth_32
def p0_isFree (σ : kx_St) (x0 : Nat) (x1 : Int32) (x2 : Int32) (x3 : Int32) (Q : Int32 → Prop) : Prop := kx_k 0 x0 = 0 ∧ ((x1 < 0 → Q (0 : Int32)) ∧ (¬ x1 < 0 → ((6 : Int32) ≤ x1 → Q (0 : Int32)) ∧ (¬ (6 : Int32) ≤ x1 → (x2 < 0 → Q (0 : Int32)) ∧ (¬ x2 < 0 → ((6 : Int32) ≤ x2 → Q (0 : Int32)) ∧ (¬ (6 : Int32) ≤ x2 → (¬ ((x3 >>> (x2 &&& 31)) &&& (1 : Int32)) = 0 → Q (0 : Int32)) ∧ (((x3 >>> (x2 &&& 31)) &&& (1 : Int32)) = 0 → vp_in x1 (kx_l 0 (kx_r 0 x0 0)) ∧ (vp_in x2 (kx_l 0 (kx_r 0 (kx_r 0 x0 0) x1.toNatClampNeg)) ∧ (((σ.1 (kx_r 0 (kx_r 0 x0 0) x1.toNatClampNeg) x2.toNatClampNeg) = (-1 : Int32) → Q (0 : Int32)) ∧ (¬ (σ.1 (kx_r 0 (kx_r 0 x0 0) x1.toNatClampNeg) x2.toNatClampNeg) = (-1 : Int32) → Q (1 : Int32))))))))))
set_option maxHeartbeats 4000000 in
theorem q0_isFree {σ : kx_St} {x0 : Nat} {x1 : Int32} {x2 : Int32} {x3 : Int32} {Q : Int32 → Prop} (h : p0_isFree σ x0 x1 x2 x3 Q) : Met l yX0_isFree (Cond.code yX0_isFree cX0_isFree 4 (some .boolean) :: kx_big) rm0_isFree (va_Pc [.ref (ad x0), .int x1, .int x2, .int x3] (kx_Wd D cy 0 ad A σ)) (kx_Qc kx_ci (fun u r => u = σ ∧ Q r) (kx_Wd D cy 0 ad A) A) 0 0 A := by
  refine kx_head (plainFor_of_name (by decide)) (Nat.le_of_ble_eq_true rfl) ?_
  intro p e s m below meth c ls cx hP hD hS hl
  obtain ⟨hx, hb, hr, hlocks, hml, hown, hts, hK⟩ := id cx
  obtain ⟨hk_x0, h⟩ := h
  have hl : lv_has ls 4 [(0, .ref (ad x0)), (1, .int x1), (2, .int x2), (3, .int x3)] := hl
  refine lv_iload_n (pc := 0) hx hb dX0_isFree_0 rfl (lv_at hl 1 rfl) ?_
  refine lv_if_lt (pc := 1) (tgt := 44) hx hb dX0_isFree_1 (by decide) (fun c1 => ?_) (fun c1 => ?_)
  · have h := h.1 c1
    refine lv_iconst (pc := 44) (v := (0 : Int32)) hx hb dX0_isFree_44 (by decide) ?_
    exact kx_zret (pc := 45) hx hb hr hlocks hK hP hD hS (by decide) ⟨rfl, h⟩ dX0_isFree_45
  · have h := h.2 c1
    refine lv_iload_n (pc := 4) hx hb dX0_isFree_4 rfl (lv_at hl 1 rfl) ?_
    refine lv_bipush (pc := 5) (v := (6 : Int32)) hx hb dX0_isFree_5 (by decide) ?_
    refine lv_icmp_ge (pc := 7) (tgt := 44) hx hb dX0_isFree_7 (by decide) (fun c2 => ?_) (fun c2 => ?_)
    · have h := h.1 c2
      refine lv_iconst (pc := 44) (v := (0 : Int32)) hx hb dX0_isFree_44 (by decide) ?_
      exact kx_zret (pc := 45) hx hb hr hlocks hK hP hD hS (by decide) ⟨rfl, h⟩ dX0_isFree_45
    · have h := h.2 c2
      refine lv_iload_n (pc := 10) hx hb dX0_isFree_10 rfl (lv_at hl 2 rfl) ?_
      refine lv_if_lt (pc := 11) (tgt := 44) hx hb dX0_isFree_11 (by decide) (fun c3 => ?_) (fun c3 => ?_)
      · have h := h.1 c3
        refine lv_iconst (pc := 44) (v := (0 : Int32)) hx hb dX0_isFree_44 (by decide) ?_
        exact kx_zret (pc := 45) hx hb hr hlocks hK hP hD hS (by decide) ⟨rfl, h⟩ dX0_isFree_45
      · have h := h.2 c3
        refine lv_iload_n (pc := 14) hx hb dX0_isFree_14 rfl (lv_at hl 2 rfl) ?_
        refine lv_bipush (pc := 15) (v := (6 : Int32)) hx hb dX0_isFree_15 (by decide) ?_
        refine lv_icmp_ge (pc := 17) (tgt := 44) hx hb dX0_isFree_17 (by decide) (fun c4 => ?_) (fun c4 => ?_)
        · have h := h.1 c4
          refine lv_iconst (pc := 44) (v := (0 : Int32)) hx hb dX0_isFree_44 (by decide) ?_
          exact kx_zret (pc := 45) hx hb hr hlocks hK hP hD hS (by decide) ⟨rfl, h⟩ dX0_isFree_45
        · have h := h.2 c4
          refine lv_iload_n (pc := 20) hx hb dX0_isFree_20 rfl (lv_at hl 3 rfl) ?_
          refine lv_iload_n (pc := 21) hx hb dX0_isFree_21 rfl (lv_at hl 2 rfl) ?_
          refine lv_ishr (pc := 22) hx hb dX0_isFree_22 ?_
          refine lv_iconst (pc := 23) (v := (1 : Int32)) hx hb dX0_isFree_23 (by decide) ?_
          refine lv_iand (pc := 24) hx hb dX0_isFree_24 ?_
          refine lv_if_ne (pc := 25) (tgt := 44) hx hb dX0_isFree_25 (by decide) (fun c5 => ?_) (fun c5 => ?_)
          · have h := h.1 c5
            refine lv_iconst (pc := 44) (v := (0 : Int32)) hx hb dX0_isFree_44 (by decide) ?_
            exact kx_zret (pc := 45) hx hb hr hlocks hK hP hD hS (by decide) ⟨rfl, h⟩ dX0_isFree_45
          · have h := h.2 c5
            refine lv_aload_n (pc := 28) hx hb dX0_isFree_28 rfl (lv_at hl 0 rfl) ?_
            refine fg0_11 (pc := 29) hx hb hown hts hK hP hk_x0 rfl dX0_isFree_29 ?_
            refine lv_iload_n (pc := 32) hx hb dX0_isFree_32 rfl (lv_at hl 1 rfl) ?_
            obtain ⟨g6, h⟩ := h
            refine kx_aald (pc := 33) hx hb hK hP (ky_0_0 hk_x0) (by decide) (by decide) g6 dX0_isFree_33 ?_
            refine lv_iload_n (pc := 34) hx hb dX0_isFree_34 rfl (lv_at hl 2 rfl) ?_
            obtain ⟨g7, h⟩ := h
            refine kx_iald (pc := 35) hx hb hK hP (ky_12 (ky_0_0 hk_x0) g6) g7 dX0_isFree_35 ?_
            refine lv_iconst (pc := 36) (v := (-1 : Int32)) hx hb dX0_isFree_36 (by decide) ?_
            refine lv_icmp_eq (pc := 37) (tgt := 44) hx hb dX0_isFree_37 (by decide) (fun c8 => ?_) (fun c8 => ?_)
            · have h := h.1 c8
              refine lv_iconst (pc := 44) (v := (0 : Int32)) hx hb dX0_isFree_44 (by decide) ?_
              exact kx_zret (pc := 45) hx hb hr hlocks hK hP hD hS (by decide) ⟨rfl, h⟩ dX0_isFree_45
            · have h := h.2 c8
              refine lv_iconst (pc := 40) (v := (1 : Int32)) hx hb dX0_isFree_40 (by decide) ?_
              refine lv_goto (pc := 41) (tgt := 45) hx hb dX0_isFree_41 (by decide) ?_
              exact kx_zret (pc := 45) hx hb hr hlocks hK hP hD hS (by decide) ⟨rfl, h⟩ dX0_isFree_45
def p0_bestOf_L13 : Nat → kx_St → Nat → Int32 → Int32 → Int32 → Int32 → Int32 → (Int32 → Prop) → Prop
  | 0, _, _, _, _, _, _, _, _ => False
  | n + 1, σ, x0, x1, x2, x3, x4, x5, Q => ((σ.1 x0 2) ≤ x5 → Q x4) ∧ (¬ (σ.1 x0 2) ≤ x5 → p0_isFree σ x0 x1 x5 x2 (fun r2 => (r2 = 0 → p0_bestOf_L13 n σ x0 x1 x2 x3 x4 (x5 + (1 : Int32)) Q) ∧ (¬ r2 = 0 → vp_in x1 (kx_l 0 (kx_r 0 x0 0)) ∧ (vp_in x5 (kx_l 0 (kx_r 0 (kx_r 0 x0 0) x1.toNatClampNeg)) ∧ (p0_worth σ x0 (x1 + (1 : Int32)) (x2 ||| ((1 : Int32) <<< (x5 &&& 31))) (fun r6 => (x3 = 0 → pJ9_max_7cf53 x4 ((σ.1 (kx_r 0 (kx_r 0 x0 0) x1.toNatClampNeg) x5.toNatClampNeg) + r6) (fun r8 => p0_bestOf_L13 n σ x0 x1 x2 x3 r8 (x5 + (1 : Int32)) Q)) ∧ (¬ x3 = 0 → pJ9_min_7cf53 x4 ((σ.1 (kx_r 0 (kx_r 0 x0 0) x1.toNatClampNeg) x5.toNatClampNeg) + r6) (fun r9 => p0_bestOf_L13 n σ x0 x1 x2 x3 r9 (x5 + (1 : Int32)) Q))))))))
set_option maxHeartbeats 4000000 in
theorem w0_bestOf_L13 {σ : kx_St}  {Q : Int32 → Prop} (cx : kx_Cx p s m args meth c D cy RX0 cX0_bestOf 7 (some .int))  : ∀ (n : Nat) (x0 : Nat) (x1 : Int32) (x2 : Int32) (x3 : Int32) (x4 : Int32) (x5 : Int32) (H : Heap) (locs : List Loc) (ls : Array Slot), kx_k 0 x0 = 0 → p0_bestOf_L13 n σ x0 x1 x2 x3 x4 x5 Q → va_P D vwCl (kx_ws cy 0 ad σ) H → va_D A (kx_ws cy 0 ad σ) → va_S A s.heap H locs → lv_has ls 7 [(0, .ref (ad x0)), (1, .int x1), (2, .int x2), (3, .int x3), (4, .int x4), (5, .int x5)] → W p l e rm0_bestOf s m args below meth c H locs 0 0 (MQ below (kx_Qc kx_ci (fun u r => u = σ ∧ Q r) (kx_Wd D cy 0 ad A) A) args s 0 0 A) (F0 m 13 ls []) := by
  obtain ⟨hx, hb, hr, hlocks, hml, hown, hts, hK⟩ := id cx
  intro n
  induction n with
  | zero => intro _ _ _ _ _ _ _ _ _ _ h; exact False.elim h
  | succ n ih =>
    intro x0 x1 x2 x3 x4 x5 H locs ls hk_x0 h hP hD hS hl
    refine lv_iload (pc := 13) hx hb dX0_bestOf_13 (lv_at hl 5 rfl) ?_
    refine lv_aload_n (pc := 15) hx hb dX0_bestOf_15 rfl (lv_at hl 0 rfl) ?_
    refine fg0_45 (pc := 16) hx hb hown hts hK hP hk_x0 dX0_bestOf_16 ?_
    refine lv_icmp_ge (pc := 19) (tgt := 87) hx hb dX0_bestOf_19 (by decide) (fun c1 => ?_) (fun c1 => ?_)
    · have h := h.1 c1
      refine lv_iload (pc := 87) hx hb dX0_bestOf_87 (lv_at hl 4 rfl) ?_
      exact kx_iret (pc := 89) hx hb hr hlocks hK hP hD hS ⟨rfl, h⟩ dX0_bestOf_89
    · have h := h.2 c1
      refine lv_aload_n (pc := 22) hx hb dX0_bestOf_22 rfl (lv_at hl 0 rfl) ?_
      refine lv_iload_n (pc := 23) hx hb dX0_bestOf_23 rfl (lv_at hl 1 rfl) ?_
      refine lv_iload (pc := 24) hx hb dX0_bestOf_24 (lv_at hl 5 rfl) ?_
      refine lv_iload_n (pc := 26) hx hb dX0_bestOf_26 rfl (lv_at hl 2 rfl) ?_
      refine kx_iVi (pc := 27) [.int x1, .int x5, .int x2] hx hb hml hown hts hK hP hD hS (q0_isFree h) (cw0_49 hts ⟨Nat.le_of_ble_eq_true rfl, Nat.le_of_ble_eq_true rfl⟩) hk_x0 (by decide) rfl rfl hl.1 rfl (Nat.le_of_ble_eq_true rfl) ⟨Nat.le_of_ble_eq_true rfl, Nat.le_of_ble_eq_true rfl⟩ dX0_bestOf_27 (fun r2 u_ H locs hP hD hS h => ?_)
      obtain ⟨hu_, h⟩ := h
      rw [hu_] at hP hD
      refine lv_if_eq (pc := 30) (tgt := 81) hx hb dX0_bestOf_30 (by decide) (fun c3 => ?_) (fun c3 => ?_)
      · have h := h.1 c3
        refine lv_iinc (pc := 81) (v := (x5 + (1 : Int32))) (lv' := [(5, .int (x5 + (1 : Int32))), (0, .ref (ad x0)), (1, .int x1), (2, .int x2), (3, .int x3), (4, .int x4)]) hx hb dX0_bestOf_81 hl (k := 5) rfl rfl (by decide) rfl (fun ls hl => ?_)
        refine lv_goto (pc := 84) (tgt := 13) hx hb dX0_bestOf_84 (by decide) ?_
        exact ih _ _ _ _ _ _ _ _ _ hk_x0 h hP hD hS (lv_sub hl [1, 2, 3, 4, 5, 0] rfl)
      · have h := h.2 c3
        refine lv_aload_n (pc := 33) hx hb dX0_bestOf_33 rfl (lv_at hl 0 rfl) ?_
        refine fg0_11 (pc := 34) hx hb hown hts hK hP hk_x0 rfl dX0_bestOf_34 ?_
        refine lv_iload_n (pc := 37) hx hb dX0_bestOf_37 rfl (lv_at hl 1 rfl) ?_
        obtain ⟨g4, h⟩ := h
        refine kx_aald (pc := 38) hx hb hK hP (ky_0_0 hk_x0) (by decide) (by decide) g4 dX0_bestOf_38 ?_
        refine lv_iload (pc := 39) hx hb dX0_bestOf_39 (lv_at hl 5 rfl) ?_
        obtain ⟨g5, h⟩ := h
        refine kx_iald (pc := 41) hx hb hK hP (ky_12 (ky_0_0 hk_x0) g4) g5 dX0_bestOf_41 ?_
        refine lv_aload_n (pc := 42) hx hb dX0_bestOf_42 rfl (lv_at hl 0 rfl) ?_
        refine lv_iload_n (pc := 43) hx hb dX0_bestOf_43 rfl (lv_at hl 1 rfl) ?_
        refine lv_iconst (pc := 44) (v := (1 : Int32)) hx hb dX0_bestOf_44 (by decide) ?_
        refine lv_iadd (pc := 45) hx hb dX0_bestOf_45 ?_
        refine lv_iload_n (pc := 46) hx hb dX0_bestOf_46 rfl (lv_at hl 2 rfl) ?_
        refine lv_iconst (pc := 47) (v := (1 : Int32)) hx hb dX0_bestOf_47 (by decide) ?_
        refine lv_iload (pc := 48) hx hb dX0_bestOf_48 (lv_at hl 5 rfl) ?_
        refine lv_ishl (pc := 50) hx hb dX0_bestOf_50 ?_
        refine lv_ior (pc := 51) hx hb dX0_bestOf_51 ?_
        refine kx_iVi (pc := 52) [.int (x1 + (1 : Int32)), .int (x2 ||| ((1 : Int32) <<< (x5 &&& 31)))] hx hb hml hown hts hK hP hD hS (q0_worth h) (cw0_42 hts ⟨Nat.le_of_ble_eq_true rfl, Nat.le_of_ble_eq_true rfl⟩) hk_x0 (by decide) rfl rfl hl.1 rfl (Nat.le_of_ble_eq_true rfl) ⟨Nat.le_of_ble_eq_true rfl, Nat.le_of_ble_eq_true rfl⟩ dX0_bestOf_52 (fun r6 u_ H locs hP hD hS h => ?_)
        obtain ⟨hu_, h⟩ := h
        rw [hu_] at hP hD
        refine lv_iadd (pc := 55) hx hb dX0_bestOf_55 ?_
        refine lv_istore (pc := 56) (lv' := [(6, .int ((σ.1 (kx_r 0 (kx_r 0 x0 0) x1.toNatClampNeg) x5.toNatClampNeg) + r6)), (0, .ref (ad x0)), (1, .int x1), (2, .int x2), (3, .int x3), (4, .int x4), (5, .int x5)]) hx hb dX0_bestOf_56 hl (by decide) rfl (fun ls hl => ?_)
        refine lv_iload_n (pc := 58) hx hb dX0_bestOf_58 rfl (lv_at hl 4 rfl) ?_
        refine lv_if_eq (pc := 59) (tgt := 72) hx hb dX0_bestOf_59 (by decide) (fun c7 => ?_) (fun c7 => ?_)
        · have h := h.1 c7
          refine lv_iload (pc := 72) hx hb dX0_bestOf_72 (lv_at hl 5 rfl) ?_
          refine lv_iload (pc := 74) hx hb dX0_bestOf_74 (lv_at hl 0 rfl) ?_
          refine kx_iSi (pc := 76) [.int x4, .int ((σ.1 (kx_r 0 (kx_r 0 x0 0) x1.toNatClampNeg) x5.toNatClampNeg) + r6)] hx hb hml hown hts hK hP hD hS (qJ9_max_7cf53 h) (cw0_84 hts ⟨Nat.le_of_ble_eq_true rfl, Nat.le_of_ble_eq_true rfl⟩) rfl hl.1 rfl (Nat.le_of_ble_eq_true rfl) ⟨Nat.le_of_ble_eq_true rfl, Nat.le_of_ble_eq_true rfl⟩ dX0_bestOf_76 (fun r8 u_ H locs hP hD hS h => ?_)
          obtain ⟨hu_, h⟩ := h
          rw [hu_] at hP hD
          refine lv_istore (pc := 79) (lv' := [(4, .int r8), (6, .int ((σ.1 (kx_r 0 (kx_r 0 x0 0) x1.toNatClampNeg) x5.toNatClampNeg) + r6)), (0, .ref (ad x0)), (1, .int x1), (2, .int x2), (3, .int x3), (5, .int x5)]) hx hb dX0_bestOf_79 hl (by decide) rfl (fun ls hl => ?_)
          refine lv_iinc (pc := 81) (v := (x5 + (1 : Int32))) (lv' := [(5, .int (x5 + (1 : Int32))), (4, .int r8), (6, .int ((σ.1 (kx_r 0 (kx_r 0 x0 0) x1.toNatClampNeg) x5.toNatClampNeg) + r6)), (0, .ref (ad x0)), (1, .int x1), (2, .int x2), (3, .int x3)]) hx hb dX0_bestOf_81 hl (k := 6) rfl rfl (by decide) rfl (fun ls hl => ?_)
          refine lv_goto (pc := 84) (tgt := 13) hx hb dX0_bestOf_84 (by decide) ?_
          exact ih _ _ _ _ _ _ _ _ _ hk_x0 h hP hD hS (lv_sub hl [3, 4, 5, 6, 1, 0] rfl)
        · have h := h.2 c7
          refine lv_iload (pc := 62) hx hb dX0_bestOf_62 (lv_at hl 5 rfl) ?_
          refine lv_iload (pc := 64) hx hb dX0_bestOf_64 (lv_at hl 0 rfl) ?_
          refine kx_iSi (pc := 66) [.int x4, .int ((σ.1 (kx_r 0 (kx_r 0 x0 0) x1.toNatClampNeg) x5.toNatClampNeg) + r6)] hx hb hml hown hts hK hP hD hS (qJ9_min_7cf53 h) (cw0_54 hts ⟨Nat.le_of_ble_eq_true rfl, Nat.le_of_ble_eq_true rfl⟩) rfl hl.1 rfl (Nat.le_of_ble_eq_true rfl) ⟨Nat.le_of_ble_eq_true rfl, Nat.le_of_ble_eq_true rfl⟩ dX0_bestOf_66 (fun r9 u_ H locs hP hD hS h => ?_)
          obtain ⟨hu_, h⟩ := h
          rw [hu_] at hP hD
          refine lv_goto (pc := 69) (tgt := 79) hx hb dX0_bestOf_69 (by decide) ?_
          refine lv_istore (pc := 79) (lv' := [(4, .int r9), (6, .int ((σ.1 (kx_r 0 (kx_r 0 x0 0) x1.toNatClampNeg) x5.toNatClampNeg) + r6)), (0, .ref (ad x0)), (1, .int x1), (2, .int x2), (3, .int x3), (5, .int x5)]) hx hb dX0_bestOf_79 hl (by decide) rfl (fun ls hl => ?_)
          refine lv_iinc (pc := 81) (v := (x5 + (1 : Int32))) (lv' := [(5, .int (x5 + (1 : Int32))), (4, .int r9), (6, .int ((σ.1 (kx_r 0 (kx_r 0 x0 0) x1.toNatClampNeg) x5.toNatClampNeg) + r6)), (0, .ref (ad x0)), (1, .int x1), (2, .int x2), (3, .int x3)]) hx hb dX0_bestOf_81 hl (k := 6) rfl rfl (by decide) rfl (fun ls hl => ?_)
          refine lv_goto (pc := 84) (tgt := 13) hx hb dX0_bestOf_84 (by decide) ?_
          exact ih _ _ _ _ _ _ _ _ _ hk_x0 h hP hD hS (lv_sub hl [3, 4, 5, 6, 1, 0] rfl)
def p0_bestOf (σ : kx_St) (x0 : Nat) (x1 : Int32) (x2 : Int32) (x3 : Int32) (Q : Int32 → Prop) : Prop := kx_k 0 x0 = 0 ∧ (p0_worth σ x0 (x1 + (1 : Int32)) x2 (fun r1 => ∃ m13, p0_bestOf_L13 m13 σ x0 x1 x2 x3 r1 (0 : Int32) Q))
set_option maxHeartbeats 4000000 in
theorem q0_bestOf {σ : kx_St} {x0 : Nat} {x1 : Int32} {x2 : Int32} {x3 : Int32} {Q : Int32 → Prop} (h : p0_bestOf σ x0 x1 x2 x3 Q) : Met l yX0_bestOf (Cond.code yX0_bestOf cX0_bestOf 7 (some .int) :: kx_big) rm0_bestOf (va_Pc [.ref (ad x0), .int x1, .int x2, .int x3] (kx_Wd D cy 0 ad A σ)) (kx_Qc kx_ci (fun u r => u = σ ∧ Q r) (kx_Wd D cy 0 ad A) A) 0 0 A := by
  refine kx_head (plainFor_of_name (by decide)) (Nat.le_of_ble_eq_true rfl) ?_
  intro p e s m below meth c ls cx hP hD hS hl
  obtain ⟨hx, hb, hr, hlocks, hml, hown, hts, hK⟩ := id cx
  obtain ⟨hk_x0, h⟩ := h
  have hl : lv_has ls 7 [(0, .ref (ad x0)), (1, .int x1), (2, .int x2), (3, .int x3)] := hl
  refine lv_aload_n (pc := 0) hx hb dX0_bestOf_0 rfl (lv_at hl 0 rfl) ?_
  refine lv_iload_n (pc := 1) hx hb dX0_bestOf_1 rfl (lv_at hl 1 rfl) ?_
  refine lv_iconst (pc := 2) (v := (1 : Int32)) hx hb dX0_bestOf_2 (by decide) ?_
  refine lv_iadd (pc := 3) hx hb dX0_bestOf_3 ?_
  refine lv_iload_n (pc := 4) hx hb dX0_bestOf_4 rfl (lv_at hl 2 rfl) ?_
  refine kx_iVi (pc := 5) [.int (x1 + (1 : Int32)), .int x2] hx hb hml hown hts hK hP hD hS (q0_worth h) (cw0_42 hts ⟨Nat.le_of_ble_eq_true rfl, Nat.le_of_ble_eq_true rfl⟩) hk_x0 (by decide) rfl rfl hl.1 rfl (Nat.le_of_ble_eq_true rfl) ⟨Nat.le_of_ble_eq_true rfl, Nat.le_of_ble_eq_true rfl⟩ dX0_bestOf_5 (fun r1 u_ H locs hP hD hS h => ?_)
  obtain ⟨hu_, h⟩ := h
  rw [hu_] at hP hD
  refine lv_istore (pc := 8) (lv' := [(4, .int r1), (0, .ref (ad x0)), (1, .int x1), (2, .int x2), (3, .int x3)]) hx hb dX0_bestOf_8 hl (by decide) rfl (fun ls hl => ?_)
  refine lv_iconst (pc := 10) (v := (0 : Int32)) hx hb dX0_bestOf_10 (by decide) ?_
  refine lv_istore (pc := 11) (lv' := [(5, .int (0 : Int32)), (4, .int r1), (0, .ref (ad x0)), (1, .int x1), (2, .int x2), (3, .int x3)]) hx hb dX0_bestOf_11 hl (by decide) rfl (fun ls hl => ?_)
  obtain ⟨n0, h⟩ := h
  exact w0_bestOf_L13 cx  n0 _ _ _ _ _ _ _ _ _ hk_x0 h hP hD hS (lv_sub hl [2, 3, 4, 5, 1, 0] rfl)
def p0_weigh_L90 : Nat → kx_St → Nat → Nat → Int32 → Int32 → Int32 → Int32 → (kx_St → Nat → Nat → Int32 → Int32 → Prop) → (kx_St → Int32 → Prop) → Prop
  | 0, _, _, _, _, _, _, _, _, _ => False
  | n + 1, σ, x0, x1, x3, x4, x5, x6, k63, Q => (((1 : Int32) <<< ((σ.1 x0 2) &&& 31)) ≤ x6 → k63 σ x0 x1 x3 (x4 + (-1 : Int32))) ∧ (¬ ((1 : Int32) <<< ((σ.1 x0 2) &&& 31)) ≤ x6 → vp_in x4 (kx_l 0 (kx_r 0 x0 1)) ∧ (p0_bestOf σ x0 x4 x6 x5 (fun r3 => vp_in x6 (kx_l 0 (kx_r 0 (kx_r 0 x0 1) x4.toNatClampNeg)) ∧ ((fun σ5 : kx_St => p0_weigh_L90 n σ5 x0 x1 x3 x4 x5 (x6 + (1 : Int32)) k63 Q) (kx_sI σ (kx_r 0 (kx_r 0 x0 1) x4.toNatClampNeg) x6.toNatClampNeg r3)))))
set_option maxHeartbeats 4000000 in
theorem w0_weigh_L90 {k63 : kx_St → Nat → Nat → Int32 → Int32 → Prop} {Q : kx_St → Int32 → Prop} (cx : kx_Cx p s m args meth c D cy RX0 cX0_weigh 7 (some .int)) (hk63 : ∀ (σ : kx_St) (x0 : Nat) (x1 : Nat) (x3 : Int32) (x4 : Int32) (H : Heap) (locs : List Loc) (ls : Array Slot), kx_k 0 x0 = 0 → kx_k 0 x1 = 3 → k63 σ x0 x1 x3 x4 → va_P D vwCl (kx_ws cy 0 ad σ) H → va_D A (kx_ws cy 0 ad σ) → va_S A s.heap H locs → lv_has ls 7 [(0, .ref (ad x0)), (1, .ref (ad x1)), (3, .int x3), (4, .int x4)] → W p l e rm0_weigh s m args below meth c H locs 0 0 (MQ below (kx_Qc kx_ci Q (kx_Wd D cy 0 ad A) A) args s 0 0 A) (F0 m 63 ls [])) : ∀ (n : Nat) (σ : kx_St) (x0 : Nat) (x1 : Nat) (x3 : Int32) (x4 : Int32) (x5 : Int32) (x6 : Int32) (H : Heap) (locs : List Loc) (ls : Array Slot), kx_k 0 x0 = 0 → kx_k 0 x1 = 3 → p0_weigh_L90 n σ x0 x1 x3 x4 x5 x6 k63 Q → va_P D vwCl (kx_ws cy 0 ad σ) H → va_D A (kx_ws cy 0 ad σ) → va_S A s.heap H locs → lv_has ls 7 [(0, .ref (ad x0)), (1, .ref (ad x1)), (3, .int x3), (4, .int x4), (5, .int x5), (6, .int x6)] → W p l e rm0_weigh s m args below meth c H locs 0 0 (MQ below (kx_Qc kx_ci Q (kx_Wd D cy 0 ad A) A) args s 0 0 A) (F0 m 90 ls []) := by
  obtain ⟨hx, hb, hr, hlocks, hml, hown, hts, hK⟩ := id cx
  intro n
  induction n with
  | zero => intro _ _ _ _ _ _ _ _ _ _ _ _ h; exact False.elim h
  | succ n ih =>
    intro σ x0 x1 x3 x4 x5 x6 H locs ls hk_x0 hk_x1 h hP hD hS hl
    refine lv_iload (pc := 90) hx hb dX0_weigh_90 (lv_at hl 5 rfl) ?_
    refine lv_iconst (pc := 92) (v := (1 : Int32)) hx hb dX0_weigh_92 (by decide) ?_
    refine lv_aload_n (pc := 93) hx hb dX0_weigh_93 rfl (lv_at hl 0 rfl) ?_
    refine fg0_45 (pc := 94) hx hb hown hts hK hP hk_x0 dX0_weigh_94 ?_
    refine lv_ishl (pc := 97) hx hb dX0_weigh_97 ?_
    refine lv_icmp_ge (pc := 98) (tgt := 127) hx hb dX0_weigh_98 (by decide) (fun c1 => ?_) (fun c1 => ?_)
    · have h := h.1 c1
      refine lv_iinc (pc := 127) (v := (x4 + (-1 : Int32))) (lv' := [(4, .int (x4 + (-1 : Int32))), (0, .ref (ad x0)), (1, .ref (ad x1)), (3, .int x3), (5, .int x5), (6, .int x6)]) hx hb dX0_weigh_127 hl (k := 3) rfl rfl (by decide) rfl (fun ls hl => ?_)
      refine lv_goto (pc := 130) (tgt := 63) hx hb dX0_weigh_130 (by decide) ?_
      exact hk63 _ _ _ _ _ _ _ _ hk_x0 hk_x1 h hP hD hS (lv_sub hl [1, 2, 3, 0] rfl)
    · have h := h.2 c1
      refine lv_aload_n (pc := 101) hx hb dX0_weigh_101 rfl (lv_at hl 0 rfl) ?_
      refine fg0_16 (pc := 102) hx hb hown hts hK hP hk_x0 rfl dX0_weigh_102 ?_
      refine lv_iload (pc := 105) hx hb dX0_weigh_105 (lv_at hl 3 rfl) ?_
      obtain ⟨g2, h⟩ := h
      refine kx_aald (pc := 107) hx hb hK hP (ky_0_1 hk_x0) (by decide) (by decide) g2 dX0_weigh_107 ?_
      refine lv_iload (pc := 108) hx hb dX0_weigh_108 (lv_at hl 5 rfl) ?_
      refine lv_aload_n (pc := 110) hx hb dX0_weigh_110 rfl (lv_at hl 0 rfl) ?_
      refine lv_iload (pc := 111) hx hb dX0_weigh_111 (lv_at hl 3 rfl) ?_
      refine lv_iload (pc := 113) hx hb dX0_weigh_113 (lv_at hl 5 rfl) ?_
      refine lv_iload (pc := 115) hx hb dX0_weigh_115 (lv_at hl 4 rfl) ?_
      refine kx_iVi (pc := 117) [.int x4, .int x6, .int x5] hx hb hml hown hts hK hP hD hS (q0_bestOf h) (cw0_63 hts ⟨Nat.le_of_ble_eq_true rfl, Nat.le_of_ble_eq_true rfl⟩) hk_x0 (by decide) rfl rfl hl.1 rfl (Nat.le_of_ble_eq_true rfl) ⟨Nat.le_of_ble_eq_true rfl, Nat.le_of_ble_eq_true rfl⟩ dX0_weigh_117 (fun r3 u_ H locs hP hD hS h => ?_)
      obtain ⟨hu_, h⟩ := h
      rw [hu_] at hP hD
      obtain ⟨g4, h⟩ := h
      refine kx_iast (pc := 120) hx hb hK hP hD hS (ky_12 (ky_0_1 hk_x0) g2) g4 dX0_weigh_120 (fun H locs hP hD hS => ?_)
      refine lv_iinc (pc := 121) (v := (x6 + (1 : Int32))) (lv' := [(6, .int (x6 + (1 : Int32))), (0, .ref (ad x0)), (1, .ref (ad x1)), (3, .int x3), (4, .int x4), (5, .int x5)]) hx hb dX0_weigh_121 hl (k := 5) rfl rfl (by decide) rfl (fun ls hl => ?_)
      refine lv_goto (pc := 124) (tgt := 90) hx hb dX0_weigh_124 (by decide) ?_
      exact ih _ _ _ _ _ _ _ _ _ _ hk_x0 hk_x1 h hP hD hS (lv_sub hl [1, 2, 3, 4, 5, 0] rfl)
def p0_weigh_L63 : Nat → kx_St → Nat → Nat → Int32 → Int32 → (kx_St → Int32 → Prop) → Prop
  | 0, _, _, _, _, _, _ => False
  | n + 1, σ, x0, x1, x3, x4, Q => (x4 < 0 → p3_flownSet σ x1 (fun r2 => p0_worth σ x0 (0 : Int32) r2 (fun r3 => Q σ r3))) ∧ (¬ x4 < 0 → (x3 = 0 → ∃ m90, p0_weigh_L90 m90 σ x0 x1 x3 x4 (0 : Int32) (0 : Int32) (fun σ x0 x1 x3 x4 => p0_weigh_L63 n σ x0 x1 x3 x4 Q) Q) ∧ (¬ x3 = 0 → (¬ (x4 - x4 / (2 : Int32) * (2 : Int32)) = (1 : Int32) → ∃ m90, p0_weigh_L90 m90 σ x0 x1 x3 x4 (0 : Int32) (0 : Int32) (fun σ x0 x1 x3 x4 => p0_weigh_L63 n σ x0 x1 x3 x4 Q) Q) ∧ ((x4 - x4 / (2 : Int32) * (2 : Int32)) = (1 : Int32) → ∃ m90, p0_weigh_L90 m90 σ x0 x1 x3 x4 (1 : Int32) (0 : Int32) (fun σ x0 x1 x3 x4 => p0_weigh_L63 n σ x0 x1 x3 x4 Q) Q)))
set_option maxHeartbeats 4000000 in
theorem w0_weigh_L63  {Q : kx_St → Int32 → Prop} (cx : kx_Cx p s m args meth c D cy RX0 cX0_weigh 7 (some .int))  : ∀ (n : Nat) (σ : kx_St) (x0 : Nat) (x1 : Nat) (x3 : Int32) (x4 : Int32) (H : Heap) (locs : List Loc) (ls : Array Slot), kx_k 0 x0 = 0 → kx_k 0 x1 = 3 → p0_weigh_L63 n σ x0 x1 x3 x4 Q → va_P D vwCl (kx_ws cy 0 ad σ) H → va_D A (kx_ws cy 0 ad σ) → va_S A s.heap H locs → lv_has ls 7 [(0, .ref (ad x0)), (1, .ref (ad x1)), (3, .int x3), (4, .int x4)] → W p l e rm0_weigh s m args below meth c H locs 0 0 (MQ below (kx_Qc kx_ci Q (kx_Wd D cy 0 ad A) A) args s 0 0 A) (F0 m 63 ls []) := by
  obtain ⟨hx, hb, hr, hlocks, hml, hown, hts, hK⟩ := id cx
  intro n
  induction n with
  | zero => intro _ _ _ _ _ _ _ _ _ _ h; exact False.elim h
  | succ n ih =>
    intro σ x0 x1 x3 x4 H locs ls hk_x0 hk_x1 h hP hD hS hl
    refine lv_iload (pc := 63) hx hb dX0_weigh_63 (lv_at hl 3 rfl) ?_
    refine lv_if_lt (pc := 65) (tgt := 133) hx hb dX0_weigh_65 (by decide) (fun c1 => ?_) (fun c1 => ?_)
    · have h := h.1 c1
      refine lv_aload_n (pc := 133) hx hb dX0_weigh_133 rfl (lv_at hl 0 rfl) ?_
      refine lv_iconst (pc := 134) (v := (0 : Int32)) hx hb dX0_weigh_134 (by decide) ?_
      refine lv_aload_n (pc := 135) hx hb dX0_weigh_135 rfl (lv_at hl 1 rfl) ?_
      refine kx_iVi (pc := 136) [] hx hb hml hown hts hK hP hD hS (q3_flownSet h) (cw0_29 hts ⟨Nat.le_of_ble_eq_true rfl, Nat.le_of_ble_eq_true rfl⟩) hk_x1 (by decide) rfl rfl hl.1 rfl (Nat.le_of_ble_eq_true rfl) ⟨Nat.le_of_ble_eq_true rfl, Nat.le_of_ble_eq_true rfl⟩ dX0_weigh_136 (fun r2 u_ H locs hP hD hS h => ?_)
      obtain ⟨hu_, h⟩ := h
      rw [hu_] at hP hD
      refine kx_iVi (pc := 139) [.int (0 : Int32), .int r2] hx hb hml hown hts hK hP hD hS (q0_worth h) (cw0_42 hts ⟨Nat.le_of_ble_eq_true rfl, Nat.le_of_ble_eq_true rfl⟩) hk_x0 (by decide) rfl rfl hl.1 rfl (Nat.le_of_ble_eq_true rfl) ⟨Nat.le_of_ble_eq_true rfl, Nat.le_of_ble_eq_true rfl⟩ dX0_weigh_139 (fun r3 u_ H locs hP hD hS h => ?_)
      obtain ⟨hu_, h⟩ := h
      rw [hu_] at hP hD
      exact kx_iret (pc := 142) hx hb hr hlocks hK hP hD hS h dX0_weigh_142
    · have h := h.2 c1
      refine lv_iload_n (pc := 68) hx hb dX0_weigh_68 rfl (lv_at hl 2 rfl) ?_
      refine lv_if_eq (pc := 69) (tgt := 84) hx hb dX0_weigh_69 (by decide) (fun c4 => ?_) (fun c4 => ?_)
      · have h := h.1 c4
        refine lv_iconst (pc := 84) (v := (0 : Int32)) hx hb dX0_weigh_84 (by decide) ?_
        refine lv_istore (pc := 85) (lv' := [(5, .int (0 : Int32)), (0, .ref (ad x0)), (1, .ref (ad x1)), (3, .int x3), (4, .int x4)]) hx hb dX0_weigh_85 hl (by decide) rfl (fun ls hl => ?_)
        refine lv_iconst (pc := 87) (v := (0 : Int32)) hx hb dX0_weigh_87 (by decide) ?_
        refine lv_istore (pc := 88) (lv' := [(6, .int (0 : Int32)), (5, .int (0 : Int32)), (0, .ref (ad x0)), (1, .ref (ad x1)), (3, .int x3), (4, .int x4)]) hx hb dX0_weigh_88 hl (by decide) rfl (fun ls hl => ?_)
        have hc5 : ∀ (σ : kx_St) (x0 : Nat) (x1 : Nat) (x3 : Int32) (x4 : Int32) (H : Heap) (locs : List Loc) (ls : Array Slot), kx_k 0 x0 = 0 → kx_k 0 x1 = 3 → (fun σ x0 x1 x3 x4 => p0_weigh_L63 n σ x0 x1 x3 x4 Q) σ x0 x1 x3 x4 → va_P D vwCl (kx_ws cy 0 ad σ) H → va_D A (kx_ws cy 0 ad σ) → va_S A s.heap H locs → lv_has ls 7 [(0, .ref (ad x0)), (1, .ref (ad x1)), (3, .int x3), (4, .int x4)] → W p l e rm0_weigh s m args below meth c H locs 0 0 (MQ below (kx_Qc kx_ci Q (kx_Wd D cy 0 ad A) A) args s 0 0 A) (F0 m 63 ls []) := fun σ x0 x1 x3 x4 H locs ls hk_x0 hk_x1 h hP hD hS hl => ih _ _ _ _ _ _ _ _ hk_x0 hk_x1 h hP hD hS hl
        obtain ⟨n0, h⟩ := h
        exact w0_weigh_L90 cx hc5 n0 _ _ _ _ _ _ _ _ _ _ hk_x0 hk_x1 h hP hD hS (lv_sub hl [2, 3, 4, 5, 1, 0] rfl)
      · have h := h.2 c4
        refine lv_iload (pc := 72) hx hb dX0_weigh_72 (lv_at hl 3 rfl) ?_
        refine lv_iconst (pc := 74) (v := (2 : Int32)) hx hb dX0_weigh_74 (by decide) ?_
        refine lv_irem (pc := 75) hx hb dX0_weigh_75 (by decide) ?_
        refine lv_iconst (pc := 76) (v := (1 : Int32)) hx hb dX0_weigh_76 (by decide) ?_
        refine lv_icmp_ne (pc := 77) (tgt := 84) hx hb dX0_weigh_77 (by decide) (fun c6 => ?_) (fun c6 => ?_)
        · have h := h.1 c6
          refine lv_iconst (pc := 84) (v := (0 : Int32)) hx hb dX0_weigh_84 (by decide) ?_
          refine lv_istore (pc := 85) (lv' := [(5, .int (0 : Int32)), (0, .ref (ad x0)), (1, .ref (ad x1)), (3, .int x3), (4, .int x4)]) hx hb dX0_weigh_85 hl (by decide) rfl (fun ls hl => ?_)
          refine lv_iconst (pc := 87) (v := (0 : Int32)) hx hb dX0_weigh_87 (by decide) ?_
          refine lv_istore (pc := 88) (lv' := [(6, .int (0 : Int32)), (5, .int (0 : Int32)), (0, .ref (ad x0)), (1, .ref (ad x1)), (3, .int x3), (4, .int x4)]) hx hb dX0_weigh_88 hl (by decide) rfl (fun ls hl => ?_)
          have hc7 : ∀ (σ : kx_St) (x0 : Nat) (x1 : Nat) (x3 : Int32) (x4 : Int32) (H : Heap) (locs : List Loc) (ls : Array Slot), kx_k 0 x0 = 0 → kx_k 0 x1 = 3 → (fun σ x0 x1 x3 x4 => p0_weigh_L63 n σ x0 x1 x3 x4 Q) σ x0 x1 x3 x4 → va_P D vwCl (kx_ws cy 0 ad σ) H → va_D A (kx_ws cy 0 ad σ) → va_S A s.heap H locs → lv_has ls 7 [(0, .ref (ad x0)), (1, .ref (ad x1)), (3, .int x3), (4, .int x4)] → W p l e rm0_weigh s m args below meth c H locs 0 0 (MQ below (kx_Qc kx_ci Q (kx_Wd D cy 0 ad A) A) args s 0 0 A) (F0 m 63 ls []) := fun σ x0 x1 x3 x4 H locs ls hk_x0 hk_x1 h hP hD hS hl => ih _ _ _ _ _ _ _ _ hk_x0 hk_x1 h hP hD hS hl
          obtain ⟨n0, h⟩ := h
          exact w0_weigh_L90 cx hc7 n0 _ _ _ _ _ _ _ _ _ _ hk_x0 hk_x1 h hP hD hS (lv_sub hl [2, 3, 4, 5, 1, 0] rfl)
        · have h := h.2 c6
          refine lv_iconst (pc := 80) (v := (1 : Int32)) hx hb dX0_weigh_80 (by decide) ?_
          refine lv_goto (pc := 81) (tgt := 85) hx hb dX0_weigh_81 (by decide) ?_
          refine lv_istore (pc := 85) (lv' := [(5, .int (1 : Int32)), (0, .ref (ad x0)), (1, .ref (ad x1)), (3, .int x3), (4, .int x4)]) hx hb dX0_weigh_85 hl (by decide) rfl (fun ls hl => ?_)
          refine lv_iconst (pc := 87) (v := (0 : Int32)) hx hb dX0_weigh_87 (by decide) ?_
          refine lv_istore (pc := 88) (lv' := [(6, .int (0 : Int32)), (5, .int (1 : Int32)), (0, .ref (ad x0)), (1, .ref (ad x1)), (3, .int x3), (4, .int x4)]) hx hb dX0_weigh_88 hl (by decide) rfl (fun ls hl => ?_)
          have hc8 : ∀ (σ : kx_St) (x0 : Nat) (x1 : Nat) (x3 : Int32) (x4 : Int32) (H : Heap) (locs : List Loc) (ls : Array Slot), kx_k 0 x0 = 0 → kx_k 0 x1 = 3 → (fun σ x0 x1 x3 x4 => p0_weigh_L63 n σ x0 x1 x3 x4 Q) σ x0 x1 x3 x4 → va_P D vwCl (kx_ws cy 0 ad σ) H → va_D A (kx_ws cy 0 ad σ) → va_S A s.heap H locs → lv_has ls 7 [(0, .ref (ad x0)), (1, .ref (ad x1)), (3, .int x3), (4, .int x4)] → W p l e rm0_weigh s m args below meth c H locs 0 0 (MQ below (kx_Qc kx_ci Q (kx_Wd D cy 0 ad A) A) args s 0 0 A) (F0 m 63 ls []) := fun σ x0 x1 x3 x4 H locs ls hk_x0 hk_x1 h hP hD hS hl => ih _ _ _ _ _ _ _ _ hk_x0 hk_x1 h hP hD hS hl
          obtain ⟨n0, h⟩ := h
          exact w0_weigh_L90 cx hc8 n0 _ _ _ _ _ _ _ _ _ _ hk_x0 hk_x1 h hP hD hS (lv_sub hl [2, 3, 4, 5, 1, 0] rfl)
def p0_weigh_L35 : Nat → kx_St → Nat → Nat → Int32 → Int32 → Int32 → (kx_St → Int32 → Prop) → Prop
  | 0, _, _, _, _, _, _, _ => False
  | n + 1, σ, x0, x1, x2, x3, x4, Q => ((64 : Int32) ≤ x4 → ∃ m63, p0_weigh_L63 m63 σ x0 x1 x3 (x2 - (1 : Int32)) Q) ∧ (¬ (64 : Int32) ≤ x4 → vp_in x2 (kx_l 0 (kx_r 0 x0 1)) ∧ (vp_in x4 (kx_l 0 (kx_r 0 (kx_r 0 x0 1) x2.toNatClampNeg)) ∧ ((fun σ4 : kx_St => p0_weigh_L35 n σ4 x0 x1 x2 x3 (x4 + (1 : Int32)) Q) (kx_sI σ (kx_r 0 (kx_r 0 x0 1) x2.toNatClampNeg) x4.toNatClampNeg (0 : Int32)))))
set_option maxHeartbeats 4000000 in
theorem w0_weigh_L35  {Q : kx_St → Int32 → Prop} (cx : kx_Cx p s m args meth c D cy RX0 cX0_weigh 7 (some .int))  : ∀ (n : Nat) (σ : kx_St) (x0 : Nat) (x1 : Nat) (x2 : Int32) (x3 : Int32) (x4 : Int32) (H : Heap) (locs : List Loc) (ls : Array Slot), kx_k 0 x0 = 0 → kx_k 0 x1 = 3 → p0_weigh_L35 n σ x0 x1 x2 x3 x4 Q → va_P D vwCl (kx_ws cy 0 ad σ) H → va_D A (kx_ws cy 0 ad σ) → va_S A s.heap H locs → lv_has ls 7 [(0, .ref (ad x0)), (1, .ref (ad x1)), (2, .int x2), (3, .int x3), (4, .int x4)] → W p l e rm0_weigh s m args below meth c H locs 0 0 (MQ below (kx_Qc kx_ci Q (kx_Wd D cy 0 ad A) A) args s 0 0 A) (F0 m 35 ls []) := by
  obtain ⟨hx, hb, hr, hlocks, hml, hown, hts, hK⟩ := id cx
  intro n
  induction n with
  | zero => intro _ _ _ _ _ _ _ _ _ _ _ h; exact False.elim h
  | succ n ih =>
    intro σ x0 x1 x2 x3 x4 H locs ls hk_x0 hk_x1 h hP hD hS hl
    refine lv_iload (pc := 35) hx hb dX0_weigh_35 (lv_at hl 4 rfl) ?_
    refine lv_bipush (pc := 37) (v := (64 : Int32)) hx hb dX0_weigh_37 (by decide) ?_
    refine lv_icmp_ge (pc := 39) (tgt := 58) hx hb dX0_weigh_39 (by decide) (fun c1 => ?_) (fun c1 => ?_)
    · have h := h.1 c1
      refine lv_iload_n (pc := 58) hx hb dX0_weigh_58 rfl (lv_at hl 2 rfl) ?_
      refine lv_iconst (pc := 59) (v := (1 : Int32)) hx hb dX0_weigh_59 (by decide) ?_
      refine lv_isub (pc := 60) hx hb dX0_weigh_60 ?_
      refine lv_istore (pc := 61) (lv' := [(4, .int (x2 - (1 : Int32))), (0, .ref (ad x0)), (1, .ref (ad x1)), (2, .int x2), (3, .int x3)]) hx hb dX0_weigh_61 hl (by decide) rfl (fun ls hl => ?_)
      obtain ⟨n0, h⟩ := h
      exact w0_weigh_L63 cx  n0 _ _ _ _ _ _ _ _ hk_x0 hk_x1 h hP hD hS (lv_sub hl [1, 2, 4, 0] rfl)
    · have h := h.2 c1
      refine lv_aload_n (pc := 42) hx hb dX0_weigh_42 rfl (lv_at hl 0 rfl) ?_
      refine fg0_16 (pc := 43) hx hb hown hts hK hP hk_x0 rfl dX0_weigh_43 ?_
      refine lv_iload_n (pc := 46) hx hb dX0_weigh_46 rfl (lv_at hl 2 rfl) ?_
      obtain ⟨g2, h⟩ := h
      refine kx_aald (pc := 47) hx hb hK hP (ky_0_1 hk_x0) (by decide) (by decide) g2 dX0_weigh_47 ?_
      refine lv_iload (pc := 48) hx hb dX0_weigh_48 (lv_at hl 4 rfl) ?_
      refine lv_iconst (pc := 50) (v := (0 : Int32)) hx hb dX0_weigh_50 (by decide) ?_
      obtain ⟨g3, h⟩ := h
      refine kx_iast (pc := 51) hx hb hK hP hD hS (ky_12 (ky_0_1 hk_x0) g2) g3 dX0_weigh_51 (fun H locs hP hD hS => ?_)
      refine lv_iinc (pc := 52) (v := (x4 + (1 : Int32))) (lv' := [(4, .int (x4 + (1 : Int32))), (0, .ref (ad x0)), (1, .ref (ad x1)), (2, .int x2), (3, .int x3)]) hx hb dX0_weigh_52 hl (k := 4) rfl rfl (by decide) rfl (fun ls hl => ?_)
      refine lv_goto (pc := 55) (tgt := 35) hx hb dX0_weigh_55 (by decide) ?_
      exact ih _ _ _ _ _ _ _ _ _ hk_x0 hk_x1 h hP hD hS (lv_sub hl [1, 2, 3, 4, 0] rfl)
def p0_weigh (σ : kx_St) (x0 : Nat) (x1 : Nat) (x2 : Int32) (x3 : Int32) (Q : kx_St → Int32 → Prop) : Prop := kx_k 0 x0 = 0 ∧ (kx_k 0 x1 = 3 ∧ ((x2 < 0 → Q σ (0 : Int32)) ∧ (¬ x2 < 0 → (x2 ≤ (6 : Int32) → pJ9_min_7cf53 (σ.1 x1 3) (6 : Int32) (fun r3 => (fun σ4 : kx_St => p0_fillGains σ4 x0 x1 x2 x3 (fun σ6 => ∃ m35, p0_weigh_L35 m35 σ6 x0 x1 x2 x3 (0 : Int32) Q)) (kx_sI σ x0 2 r3))) ∧ (¬ x2 ≤ (6 : Int32) → Q σ (0 : Int32)))))
set_option maxHeartbeats 4000000 in
theorem q0_weigh {σ : kx_St} {x0 : Nat} {x1 : Nat} {x2 : Int32} {x3 : Int32} {Q : kx_St → Int32 → Prop} (h : p0_weigh σ x0 x1 x2 x3 Q) : Met l yX0_weigh (Cond.code yX0_weigh cX0_weigh 7 (some .int) :: kx_big) rm0_weigh (va_Pc [.ref (ad x0), .ref (ad x1), .int x2, .int x3] (kx_Wd D cy 0 ad A σ)) (kx_Qc kx_ci Q (kx_Wd D cy 0 ad A) A) 0 0 A := by
  refine kx_head (plainFor_of_name (by decide)) (Nat.le_of_ble_eq_true rfl) ?_
  intro p e s m below meth c ls cx hP hD hS hl
  obtain ⟨hx, hb, hr, hlocks, hml, hown, hts, hK⟩ := id cx
  obtain ⟨hk_x0, h⟩ := h
  obtain ⟨hk_x1, h⟩ := h
  have hl : lv_has ls 7 [(0, .ref (ad x0)), (1, .ref (ad x1)), (2, .int x2), (3, .int x3)] := hl
  refine lv_iload_n (pc := 0) hx hb dX0_weigh_0 rfl (lv_at hl 2 rfl) ?_
  refine lv_if_lt (pc := 1) (tgt := 10) hx hb dX0_weigh_1 (by decide) (fun c1 => ?_) (fun c1 => ?_)
  · have h := h.1 c1
    refine lv_iconst (pc := 10) (v := (0 : Int32)) hx hb dX0_weigh_10 (by decide) ?_
    exact kx_iret (pc := 11) hx hb hr hlocks hK hP hD hS h dX0_weigh_11
  · have h := h.2 c1
    refine lv_iload_n (pc := 4) hx hb dX0_weigh_4 rfl (lv_at hl 2 rfl) ?_
    refine lv_bipush (pc := 5) (v := (6 : Int32)) hx hb dX0_weigh_5 (by decide) ?_
    refine lv_icmp_le (pc := 7) (tgt := 12) hx hb dX0_weigh_7 (by decide) (fun c2 => ?_) (fun c2 => ?_)
    · have h := h.1 c2
      refine lv_aload_n (pc := 12) hx hb dX0_weigh_12 rfl (lv_at hl 0 rfl) ?_
      refine lv_aload_n (pc := 13) hx hb dX0_weigh_13 rfl (lv_at hl 1 rfl) ?_
      refine fg0_53 (pc := 14) hx hb hown hts hK hP hk_x1 dX0_weigh_14 ?_
      refine lv_bipush (pc := 17) (v := (6 : Int32)) hx hb dX0_weigh_17 (by decide) ?_
      refine kx_iSi (pc := 19) [.int (σ.1 x1 3), .int (6 : Int32)] hx hb hml hown hts hK hP hD hS (qJ9_min_7cf53 h) (cw0_54 hts ⟨Nat.le_of_ble_eq_true rfl, Nat.le_of_ble_eq_true rfl⟩) rfl hl.1 rfl (Nat.le_of_ble_eq_true rfl) ⟨Nat.le_of_ble_eq_true rfl, Nat.le_of_ble_eq_true rfl⟩ dX0_weigh_19 (fun r3 u_ H locs hP hD hS h => ?_)
      obtain ⟨hu_, h⟩ := h
      rw [hu_] at hP hD
      refine fp0_45 (pc := 22) hx hb hown hts hK hP hD hS hk_x0 dX0_weigh_22 (fun H locs hP hD hS => ?_)
      refine lv_aload_n (pc := 25) hx hb dX0_weigh_25 rfl (lv_at hl 0 rfl) ?_
      refine lv_aload_n (pc := 26) hx hb dX0_weigh_26 rfl (lv_at hl 1 rfl) ?_
      refine lv_iload_n (pc := 27) hx hb dX0_weigh_27 rfl (lv_at hl 2 rfl) ?_
      refine lv_iload_n (pc := 28) hx hb dX0_weigh_28 rfl (lv_at hl 3 rfl) ?_
      refine kx_iVv (pc := 29) [.ref (ad x1), .int x2, .int x3] hx hb hml hown hts hK hP hD hS (q0_fillGains h) (cw0_59 hts ⟨Nat.le_of_ble_eq_true rfl, Nat.le_of_ble_eq_true rfl⟩) hk_x0 (by decide) rfl rfl hl.1 rfl (Nat.le_of_ble_eq_true rfl) ⟨Nat.le_of_ble_eq_true rfl, Nat.le_of_ble_eq_true rfl⟩ dX0_weigh_29 (fun _ σ6 H locs hP hD hS h => ?_)
      refine lv_iconst (pc := 32) (v := (0 : Int32)) hx hb dX0_weigh_32 (by decide) ?_
      refine lv_istore (pc := 33) (lv' := [(4, .int (0 : Int32)), (0, .ref (ad x0)), (1, .ref (ad x1)), (2, .int x2), (3, .int x3)]) hx hb dX0_weigh_33 hl (by decide) rfl (fun ls hl => ?_)
      obtain ⟨n0, h⟩ := h
      exact w0_weigh_L35 cx  n0 _ _ _ _ _ _ _ _ _ hk_x0 hk_x1 h hP hD hS (lv_sub hl [1, 2, 3, 4, 0] rfl)
    · have h := h.2 c2
      refine lv_iconst (pc := 10) (v := (0 : Int32)) hx hb dX0_weigh_10 (by decide) ?_
      exact kx_iret (pc := 11) hx hb hr hlocks hK hP hD hS h dX0_weigh_11
def p0_weighMost (σ : kx_St) (x0 : Nat) (x1 : Nat) (x2 : Int32) (Q : kx_St → Int32 → Prop) : Prop := kx_k 0 x0 = 0 ∧ (kx_k 0 x1 = 3 ∧ (p0_weigh σ x0 x1 x2 (0 : Int32) (fun σ2 r1 => Q σ2 r1)))
set_option maxHeartbeats 4000000 in
theorem q0_weighMost {σ : kx_St} {x0 : Nat} {x1 : Nat} {x2 : Int32} {Q : kx_St → Int32 → Prop} (h : p0_weighMost σ x0 x1 x2 Q) : Met l yX0_weighMost (Cond.code yX0_weighMost cX0_weighMost 3 (some .int) :: kx_big) rm0_weighMost (va_Pc [.ref (ad x0), .ref (ad x1), .int x2] (kx_Wd D cy 0 ad A σ)) (kx_Qc kx_ci Q (kx_Wd D cy 0 ad A) A) 0 0 A := by
  refine kx_head (plainFor_of_name (by decide)) (Nat.le_of_ble_eq_true rfl) ?_
  intro p e s m below meth c ls cx hP hD hS hl
  obtain ⟨hx, hb, hr, hlocks, hml, hown, hts, hK⟩ := id cx
  obtain ⟨hk_x0, h⟩ := h
  obtain ⟨hk_x1, h⟩ := h
  have hl : lv_has ls 3 [(0, .ref (ad x0)), (1, .ref (ad x1)), (2, .int x2)] := hl
  refine lv_aload_n (pc := 0) hx hb dX0_weighMost_0 rfl (lv_at hl 0 rfl) ?_
  refine lv_aload_n (pc := 1) hx hb dX0_weighMost_1 rfl (lv_at hl 1 rfl) ?_
  refine lv_iload_n (pc := 2) hx hb dX0_weighMost_2 rfl (lv_at hl 2 rfl) ?_
  refine lv_iconst (pc := 3) (v := (0 : Int32)) hx hb dX0_weighMost_3 (by decide) ?_
  refine kx_iVi (pc := 4) [.ref (ad x1), .int x2, .int (0 : Int32)] hx hb hml hown hts hK hP hD hS (q0_weigh h) (cw0_19 hts ⟨Nat.le_of_ble_eq_true rfl, Nat.le_of_ble_eq_true rfl⟩) hk_x0 (by decide) rfl rfl hl.1 rfl (Nat.le_of_ble_eq_true rfl) ⟨Nat.le_of_ble_eq_true rfl, Nat.le_of_ble_eq_true rfl⟩ dX0_weighMost_4 (fun r1 σ2 H locs hP hD hS h => ?_)
  exact kx_iret (pc := 7) hx hb hr hlocks hK hP hD hS h dX0_weighMost_7
def p0_weighDuel (σ : kx_St) (x0 : Nat) (x1 : Nat) (x2 : Int32) (Q : kx_St → Int32 → Prop) : Prop := kx_k 0 x0 = 0 ∧ (kx_k 0 x1 = 3 ∧ (p0_weigh σ x0 x1 x2 (1 : Int32) (fun σ2 r1 => Q σ2 r1)))
set_option maxHeartbeats 4000000 in
theorem q0_weighDuel {σ : kx_St} {x0 : Nat} {x1 : Nat} {x2 : Int32} {Q : kx_St → Int32 → Prop} (h : p0_weighDuel σ x0 x1 x2 Q) : Met l yX0_weighDuel (Cond.code yX0_weighDuel cX0_weighDuel 3 (some .int) :: kx_big) rm0_weighDuel (va_Pc [.ref (ad x0), .ref (ad x1), .int x2] (kx_Wd D cy 0 ad A σ)) (kx_Qc kx_ci Q (kx_Wd D cy 0 ad A) A) 0 0 A := by
  refine kx_head (plainFor_of_name (by decide)) (Nat.le_of_ble_eq_true rfl) ?_
  intro p e s m below meth c ls cx hP hD hS hl
  obtain ⟨hx, hb, hr, hlocks, hml, hown, hts, hK⟩ := id cx
  obtain ⟨hk_x0, h⟩ := h
  obtain ⟨hk_x1, h⟩ := h
  have hl : lv_has ls 3 [(0, .ref (ad x0)), (1, .ref (ad x1)), (2, .int x2)] := hl
  refine lv_aload_n (pc := 0) hx hb dX0_weighDuel_0 rfl (lv_at hl 0 rfl) ?_
  refine lv_aload_n (pc := 1) hx hb dX0_weighDuel_1 rfl (lv_at hl 1 rfl) ?_
  refine lv_iload_n (pc := 2) hx hb dX0_weighDuel_2 rfl (lv_at hl 2 rfl) ?_
  refine lv_iconst (pc := 3) (v := (1 : Int32)) hx hb dX0_weighDuel_3 (by decide) ?_
  refine kx_iVi (pc := 4) [.ref (ad x1), .int x2, .int (1 : Int32)] hx hb hml hown hts hK hP hD hS (q0_weigh h) (cw0_19 hts ⟨Nat.le_of_ble_eq_true rfl, Nat.le_of_ble_eq_true rfl⟩) hk_x0 (by decide) rfl rfl hl.1 rfl (Nat.le_of_ble_eq_true rfl) ⟨Nat.le_of_ble_eq_true rfl, Nat.le_of_ble_eq_true rfl⟩ dX0_weighDuel_4 (fun r1 σ2 H locs hP hD hS h => ?_)
  exact kx_iret (pc := 7) hx hb hr hlocks hK hP hD hS h dX0_weighDuel_7
def p0_firstBest_L25 : Nat → kx_St → Nat → Int32 → Int32 → Int32 → Int32 → (Int32 → Prop) → Prop
  | 0, _, _, _, _, _, _, _ => False
  | n + 1, σ, x0, x1, x2, x3, x4, Q => ((σ.1 x0 2) ≤ x4 → Q (-9 : Int32)) ∧ (¬ (σ.1 x0 2) ≤ x4 → p0_isFree σ x0 x1 x4 x2 (fun r2 => (r2 = 0 → p0_firstBest_L25 n σ x0 x1 x2 x3 (x4 + (1 : Int32)) Q) ∧ (¬ r2 = 0 → vp_in x1 (kx_l 0 (kx_r 0 x0 0)) ∧ (vp_in x4 (kx_l 0 (kx_r 0 (kx_r 0 x0 0) x1.toNatClampNeg)) ∧ (p0_worth σ x0 (x1 + (1 : Int32)) (x2 ||| ((1 : Int32) <<< (x4 &&& 31))) (fun r6 => (¬ ((σ.1 (kx_r 0 (kx_r 0 x0 0) x1.toNatClampNeg) x4.toNatClampNeg) + r6) = x3 → p0_firstBest_L25 n σ x0 x1 x2 x3 (x4 + (1 : Int32)) Q) ∧ (((σ.1 (kx_r 0 (kx_r 0 x0 0) x1.toNatClampNeg) x4.toNatClampNeg) + r6) = x3 → Q x4)))))))
set_option maxHeartbeats 4000000 in
theorem w0_firstBest_L25 {σ : kx_St}  {Q : Int32 → Prop} (cx : kx_Cx p s m args meth c D cy RX0 cX0_firstBest 5 (some .int))  : ∀ (n : Nat) (x0 : Nat) (x1 : Int32) (x2 : Int32) (x3 : Int32) (x4 : Int32) (H : Heap) (locs : List Loc) (ls : Array Slot), kx_k 0 x0 = 0 → p0_firstBest_L25 n σ x0 x1 x2 x3 x4 Q → va_P D vwCl (kx_ws cy 0 ad σ) H → va_D A (kx_ws cy 0 ad σ) → va_S A s.heap H locs → lv_has ls 5 [(0, .ref (ad x0)), (1, .int x1), (2, .int x2), (3, .int x3), (4, .int x4)] → W p l e rm0_firstBest s m args below meth c H locs 0 0 (MQ below (kx_Qc kx_ci (fun u r => u = σ ∧ Q r) (kx_Wd D cy 0 ad A) A) args s 0 0 A) (F0 m 25 ls []) := by
  obtain ⟨hx, hb, hr, hlocks, hml, hown, hts, hK⟩ := id cx
  intro n
  induction n with
  | zero => intro _ _ _ _ _ _ _ _ _ h; exact False.elim h
  | succ n ih =>
    intro x0 x1 x2 x3 x4 H locs ls hk_x0 h hP hD hS hl
    refine lv_iload (pc := 25) hx hb dX0_firstBest_25 (lv_at hl 4 rfl) ?_
    refine lv_aload_n (pc := 27) hx hb dX0_firstBest_27 rfl (lv_at hl 0 rfl) ?_
    refine fg0_45 (pc := 28) hx hb hown hts hK hP hk_x0 dX0_firstBest_28 ?_
    refine lv_icmp_ge (pc := 31) (tgt := 81) hx hb dX0_firstBest_31 (by decide) (fun c1 => ?_) (fun c1 => ?_)
    · have h := h.1 c1
      refine lv_bipush (pc := 81) (v := (-9 : Int32)) hx hb dX0_firstBest_81 (by decide) ?_
      exact kx_iret (pc := 83) hx hb hr hlocks hK hP hD hS ⟨rfl, h⟩ dX0_firstBest_83
    · have h := h.2 c1
      refine lv_aload_n (pc := 34) hx hb dX0_firstBest_34 rfl (lv_at hl 0 rfl) ?_
      refine lv_iload_n (pc := 35) hx hb dX0_firstBest_35 rfl (lv_at hl 1 rfl) ?_
      refine lv_iload (pc := 36) hx hb dX0_firstBest_36 (lv_at hl 4 rfl) ?_
      refine lv_iload_n (pc := 38) hx hb dX0_firstBest_38 rfl (lv_at hl 2 rfl) ?_
      refine kx_iVi (pc := 39) [.int x1, .int x4, .int x2] hx hb hml hown hts hK hP hD hS (q0_isFree h) (cw0_49 hts ⟨Nat.le_of_ble_eq_true rfl, Nat.le_of_ble_eq_true rfl⟩) hk_x0 (by decide) rfl rfl hl.1 rfl (Nat.le_of_ble_eq_true rfl) ⟨Nat.le_of_ble_eq_true rfl, Nat.le_of_ble_eq_true rfl⟩ dX0_firstBest_39 (fun r2 u_ H locs hP hD hS h => ?_)
      obtain ⟨hu_, h⟩ := h
      rw [hu_] at hP hD
      refine lv_if_eq (pc := 42) (tgt := 75) hx hb dX0_firstBest_42 (by decide) (fun c3 => ?_) (fun c3 => ?_)
      · have h := h.1 c3
        refine lv_iinc (pc := 75) (v := (x4 + (1 : Int32))) (lv' := [(4, .int (x4 + (1 : Int32))), (0, .ref (ad x0)), (1, .int x1), (2, .int x2), (3, .int x3)]) hx hb dX0_firstBest_75 hl (k := 4) rfl rfl (by decide) rfl (fun ls hl => ?_)
        refine lv_goto (pc := 78) (tgt := 25) hx hb dX0_firstBest_78 (by decide) ?_
        exact ih _ _ _ _ _ _ _ _ hk_x0 h hP hD hS (lv_sub hl [1, 2, 3, 4, 0] rfl)
      · have h := h.2 c3
        refine lv_aload_n (pc := 45) hx hb dX0_firstBest_45 rfl (lv_at hl 0 rfl) ?_
        refine fg0_11 (pc := 46) hx hb hown hts hK hP hk_x0 rfl dX0_firstBest_46 ?_
        refine lv_iload_n (pc := 49) hx hb dX0_firstBest_49 rfl (lv_at hl 1 rfl) ?_
        obtain ⟨g4, h⟩ := h
        refine kx_aald (pc := 50) hx hb hK hP (ky_0_0 hk_x0) (by decide) (by decide) g4 dX0_firstBest_50 ?_
        refine lv_iload (pc := 51) hx hb dX0_firstBest_51 (lv_at hl 4 rfl) ?_
        obtain ⟨g5, h⟩ := h
        refine kx_iald (pc := 53) hx hb hK hP (ky_12 (ky_0_0 hk_x0) g4) g5 dX0_firstBest_53 ?_
        refine lv_aload_n (pc := 54) hx hb dX0_firstBest_54 rfl (lv_at hl 0 rfl) ?_
        refine lv_iload_n (pc := 55) hx hb dX0_firstBest_55 rfl (lv_at hl 1 rfl) ?_
        refine lv_iconst (pc := 56) (v := (1 : Int32)) hx hb dX0_firstBest_56 (by decide) ?_
        refine lv_iadd (pc := 57) hx hb dX0_firstBest_57 ?_
        refine lv_iload_n (pc := 58) hx hb dX0_firstBest_58 rfl (lv_at hl 2 rfl) ?_
        refine lv_iconst (pc := 59) (v := (1 : Int32)) hx hb dX0_firstBest_59 (by decide) ?_
        refine lv_iload (pc := 60) hx hb dX0_firstBest_60 (lv_at hl 4 rfl) ?_
        refine lv_ishl (pc := 62) hx hb dX0_firstBest_62 ?_
        refine lv_ior (pc := 63) hx hb dX0_firstBest_63 ?_
        refine kx_iVi (pc := 64) [.int (x1 + (1 : Int32)), .int (x2 ||| ((1 : Int32) <<< (x4 &&& 31)))] hx hb hml hown hts hK hP hD hS (q0_worth h) (cw0_42 hts ⟨Nat.le_of_ble_eq_true rfl, Nat.le_of_ble_eq_true rfl⟩) hk_x0 (by decide) rfl rfl hl.1 rfl (Nat.le_of_ble_eq_true rfl) ⟨Nat.le_of_ble_eq_true rfl, Nat.le_of_ble_eq_true rfl⟩ dX0_firstBest_64 (fun r6 u_ H locs hP hD hS h => ?_)
        obtain ⟨hu_, h⟩ := h
        rw [hu_] at hP hD
        refine lv_iadd (pc := 67) hx hb dX0_firstBest_67 ?_
        refine lv_iload_n (pc := 68) hx hb dX0_firstBest_68 rfl (lv_at hl 3 rfl) ?_
        refine lv_icmp_ne (pc := 69) (tgt := 75) hx hb dX0_firstBest_69 (by decide) (fun c7 => ?_) (fun c7 => ?_)
        · have h := h.1 c7
          refine lv_iinc (pc := 75) (v := (x4 + (1 : Int32))) (lv' := [(4, .int (x4 + (1 : Int32))), (0, .ref (ad x0)), (1, .int x1), (2, .int x2), (3, .int x3)]) hx hb dX0_firstBest_75 hl (k := 4) rfl rfl (by decide) rfl (fun ls hl => ?_)
          refine lv_goto (pc := 78) (tgt := 25) hx hb dX0_firstBest_78 (by decide) ?_
          exact ih _ _ _ _ _ _ _ _ hk_x0 h hP hD hS (lv_sub hl [1, 2, 3, 4, 0] rfl)
        · have h := h.2 c7
          refine lv_iload (pc := 72) hx hb dX0_firstBest_72 (lv_at hl 4 rfl) ?_
          exact kx_iret (pc := 74) hx hb hr hlocks hK hP hD hS ⟨rfl, h⟩ dX0_firstBest_74
def p0_firstBest (σ : kx_St) (x0 : Nat) (x1 : Int32) (x2 : Int32) (Q : Int32 → Prop) : Prop := kx_k 0 x0 = 0 ∧ (p0_worth σ x0 x1 x2 (fun r1 => p0_worth σ x0 (x1 + (1 : Int32)) x2 (fun r2 => (¬ r1 = r2 → ∃ m25, p0_firstBest_L25 m25 σ x0 x1 x2 r1 (0 : Int32) Q) ∧ (r1 = r2 → Q (-9 : Int32)))))
set_option maxHeartbeats 4000000 in
theorem q0_firstBest {σ : kx_St} {x0 : Nat} {x1 : Int32} {x2 : Int32} {Q : Int32 → Prop} (h : p0_firstBest σ x0 x1 x2 Q) : Met l yX0_firstBest (Cond.code yX0_firstBest cX0_firstBest 5 (some .int) :: kx_big) rm0_firstBest (va_Pc [.ref (ad x0), .int x1, .int x2] (kx_Wd D cy 0 ad A σ)) (kx_Qc kx_ci (fun u r => u = σ ∧ Q r) (kx_Wd D cy 0 ad A) A) 0 0 A := by
  refine kx_head (plainFor_of_name (by decide)) (Nat.le_of_ble_eq_true rfl) ?_
  intro p e s m below meth c ls cx hP hD hS hl
  obtain ⟨hx, hb, hr, hlocks, hml, hown, hts, hK⟩ := id cx
  obtain ⟨hk_x0, h⟩ := h
  have hl : lv_has ls 5 [(0, .ref (ad x0)), (1, .int x1), (2, .int x2)] := hl
  refine lv_aload_n (pc := 0) hx hb dX0_firstBest_0 rfl (lv_at hl 0 rfl) ?_
  refine lv_iload_n (pc := 1) hx hb dX0_firstBest_1 rfl (lv_at hl 1 rfl) ?_
  refine lv_iload_n (pc := 2) hx hb dX0_firstBest_2 rfl (lv_at hl 2 rfl) ?_
  refine kx_iVi (pc := 3) [.int x1, .int x2] hx hb hml hown hts hK hP hD hS (q0_worth h) (cw0_42 hts ⟨Nat.le_of_ble_eq_true rfl, Nat.le_of_ble_eq_true rfl⟩) hk_x0 (by decide) rfl rfl hl.1 rfl (Nat.le_of_ble_eq_true rfl) ⟨Nat.le_of_ble_eq_true rfl, Nat.le_of_ble_eq_true rfl⟩ dX0_firstBest_3 (fun r1 u_ H locs hP hD hS h => ?_)
  obtain ⟨hu_, h⟩ := h
  rw [hu_] at hP hD
  refine lv_istore_n (pc := 6) (lv' := [(3, .int r1), (0, .ref (ad x0)), (1, .int x1), (2, .int x2)]) hx hb dX0_firstBest_6 rfl hl (by decide) rfl (fun ls hl => ?_)
  refine lv_iload_n (pc := 7) hx hb dX0_firstBest_7 rfl (lv_at hl 0 rfl) ?_
  refine lv_aload_n (pc := 8) hx hb dX0_firstBest_8 rfl (lv_at hl 1 rfl) ?_
  refine lv_iload_n (pc := 9) hx hb dX0_firstBest_9 rfl (lv_at hl 2 rfl) ?_
  refine lv_iconst (pc := 10) (v := (1 : Int32)) hx hb dX0_firstBest_10 (by decide) ?_
  refine lv_iadd (pc := 11) hx hb dX0_firstBest_11 ?_
  refine lv_iload_n (pc := 12) hx hb dX0_firstBest_12 rfl (lv_at hl 3 rfl) ?_
  refine kx_iVi (pc := 13) [.int (x1 + (1 : Int32)), .int x2] hx hb hml hown hts hK hP hD hS (q0_worth h) (cw0_42 hts ⟨Nat.le_of_ble_eq_true rfl, Nat.le_of_ble_eq_true rfl⟩) hk_x0 (by decide) rfl rfl hl.1 rfl (Nat.le_of_ble_eq_true rfl) ⟨Nat.le_of_ble_eq_true rfl, Nat.le_of_ble_eq_true rfl⟩ dX0_firstBest_13 (fun r2 u_ H locs hP hD hS h => ?_)
  obtain ⟨hu_, h⟩ := h
  rw [hu_] at hP hD
  refine lv_icmp_ne (pc := 16) (tgt := 22) hx hb dX0_firstBest_16 (by decide) (fun c3 => ?_) (fun c3 => ?_)
  · have h := h.1 c3
    refine lv_iconst (pc := 22) (v := (0 : Int32)) hx hb dX0_firstBest_22 (by decide) ?_
    refine lv_istore (pc := 23) (lv' := [(4, .int (0 : Int32)), (3, .int r1), (0, .ref (ad x0)), (1, .int x1), (2, .int x2)]) hx hb dX0_firstBest_23 hl (by decide) rfl (fun ls hl => ?_)
    obtain ⟨n0, h⟩ := h
    exact w0_firstBest_L25 cx  n0 _ _ _ _ _ _ _ _ hk_x0 h hP hD hS (lv_sub hl [2, 3, 4, 1, 0] rfl)
  · have h := h.2 c3
    refine lv_bipush (pc := 19) (v := (-9 : Int32)) hx hb dX0_firstBest_19 (by decide) ?_
    exact kx_iret (pc := 21) hx hb hr hlocks hK hP hD hS ⟨rfl, h⟩ dX0_firstBest_21
def p0_tellFirst_L16 : Nat → kx_St → Nat → Int32 → Nat → Int32 → Int32 → (kx_St → Prop) → Prop
  | 0, _, _, _, _, _, _, _ => False
  | n + 1, σ, x0, x2, x3, x4, x5, Q => (x2 ≤ x5 → Q σ) ∧ (¬ x2 ≤ x5 → p0_firstBest σ x0 x5 x4 (fun r2 => p5_set σ x3 x5 r2 (fun σ4 => (¬ r2 = (-9 : Int32) → p0_tellFirst_L16 n σ4 x0 x2 x3 (x4 ||| ((1 : Int32) <<< (r2 &&& 31))) (x5 + (1 : Int32)) Q) ∧ (r2 = (-9 : Int32) → p0_tellFirst_L16 n σ4 x0 x2 x3 (x4 ||| (0 : Int32)) (x5 + (1 : Int32)) Q))))
set_option maxHeartbeats 4000000 in
theorem w0_tellFirst_L16  {Q : kx_St → Prop} (cx : kx_Cx p s m args meth c D cy RX0 cX0_tellFirst 7 none)  : ∀ (n : Nat) (σ : kx_St) (x0 : Nat) (x2 : Int32) (x3 : Nat) (x4 : Int32) (x5 : Int32) (H : Heap) (locs : List Loc) (ls : Array Slot), kx_k 0 x0 = 0 → kx_k 0 x3 = 5 → p0_tellFirst_L16 n σ x0 x2 x3 x4 x5 Q → va_P D vwCl (kx_ws cy 0 ad σ) H → va_D A (kx_ws cy 0 ad σ) → va_S A s.heap H locs → lv_has ls 7 [(0, .ref (ad x0)), (2, .int x2), (3, .ref (ad x3)), (4, .int x4), (5, .int x5)] → W p l e rm0_tellFirst s m args below meth c H locs 0 0 (MQ below (kx_Qc kx_cv (fun u _ => Q u) (kx_Wd D cy 0 ad A) A) args s 0 0 A) (F0 m 16 ls []) := by
  obtain ⟨hx, hb, hr, hlocks, hml, hown, hts, hK⟩ := id cx
  intro n
  induction n with
  | zero => intro _ _ _ _ _ _ _ _ _ _ _ h; exact False.elim h
  | succ n ih =>
    intro σ x0 x2 x3 x4 x5 H locs ls hk_x0 hk_x3 h hP hD hS hl
    refine lv_iload (pc := 16) hx hb dX0_tellFirst_16 (lv_at hl 4 rfl) ?_
    refine lv_iload_n (pc := 18) hx hb dX0_tellFirst_18 rfl (lv_at hl 1 rfl) ?_
    refine lv_icmp_ge (pc := 19) (tgt := 66) hx hb dX0_tellFirst_19 (by decide) (fun c1 => ?_) (fun c1 => ?_)
    · have h := h.1 c1
      exact kx_vret (pc := 66) hx hb hr hlocks hK hP hD hS h dX0_tellFirst_66
    · have h := h.2 c1
      refine lv_aload_n (pc := 22) hx hb dX0_tellFirst_22 rfl (lv_at hl 0 rfl) ?_
      refine lv_iload (pc := 23) hx hb dX0_tellFirst_23 (lv_at hl 4 rfl) ?_
      refine lv_iload (pc := 25) hx hb dX0_tellFirst_25 (lv_at hl 3 rfl) ?_
      refine kx_iVi (pc := 27) [.int x5, .int x4] hx hb hml hown hts hK hP hD hS (q0_firstBest h) (cw0_35 hts ⟨Nat.le_of_ble_eq_true rfl, Nat.le_of_ble_eq_true rfl⟩) hk_x0 (by decide) rfl rfl hl.1 rfl (Nat.le_of_ble_eq_true rfl) ⟨Nat.le_of_ble_eq_true rfl, Nat.le_of_ble_eq_true rfl⟩ dX0_tellFirst_27 (fun r2 u_ H locs hP hD hS h => ?_)
      obtain ⟨hu_, h⟩ := h
      rw [hu_] at hP hD
      refine lv_istore (pc := 30) (lv' := [(6, .int r2), (0, .ref (ad x0)), (2, .int x2), (3, .ref (ad x3)), (4, .int x4), (5, .int x5)]) hx hb dX0_tellFirst_30 hl (by decide) rfl (fun ls hl => ?_)
      refine lv_aload_n (pc := 32) hx hb dX0_tellFirst_32 rfl (lv_at hl 3 rfl) ?_
      refine lv_iload (pc := 33) hx hb dX0_tellFirst_33 (lv_at hl 5 rfl) ?_
      refine lv_iload (pc := 35) hx hb dX0_tellFirst_35 (lv_at hl 0 rfl) ?_
      refine kx_iVv (pc := 37) [.int x5, .int r2] hx hb hml hown hts hK hP hD hS (q5_set h) (cw0_39 hts ⟨Nat.le_of_ble_eq_true rfl, Nat.le_of_ble_eq_true rfl⟩) hk_x3 (by decide) rfl rfl hl.1 rfl (Nat.le_of_ble_eq_true rfl) ⟨Nat.le_of_ble_eq_true rfl, Nat.le_of_ble_eq_true rfl⟩ dX0_tellFirst_37 (fun _ σ4 H locs hP hD hS h => ?_)
      refine lv_iload (pc := 40) hx hb dX0_tellFirst_40 (lv_at hl 4 rfl) ?_
      refine lv_iload (pc := 42) hx hb dX0_tellFirst_42 (lv_at hl 0 rfl) ?_
      refine lv_bipush (pc := 44) (v := (-9 : Int32)) hx hb dX0_tellFirst_44 (by decide) ?_
      refine lv_icmp_ne (pc := 46) (tgt := 53) hx hb dX0_tellFirst_46 (by decide) (fun c5 => ?_) (fun c5 => ?_)
      · have h := h.1 c5
        refine lv_iconst (pc := 53) (v := (1 : Int32)) hx hb dX0_tellFirst_53 (by decide) ?_
        refine lv_iload (pc := 54) hx hb dX0_tellFirst_54 (lv_at hl 0 rfl) ?_
        refine lv_ishl (pc := 56) hx hb dX0_tellFirst_56 ?_
        refine lv_ior (pc := 57) hx hb dX0_tellFirst_57 ?_
        refine lv_istore (pc := 58) (lv' := [(4, .int (x4 ||| ((1 : Int32) <<< (r2 &&& 31)))), (6, .int r2), (0, .ref (ad x0)), (2, .int x2), (3, .ref (ad x3)), (5, .int x5)]) hx hb dX0_tellFirst_58 hl (by decide) rfl (fun ls hl => ?_)
        refine lv_iinc (pc := 60) (v := (x5 + (1 : Int32))) (lv' := [(5, .int (x5 + (1 : Int32))), (4, .int (x4 ||| ((1 : Int32) <<< (r2 &&& 31)))), (6, .int r2), (0, .ref (ad x0)), (2, .int x2), (3, .ref (ad x3))]) hx hb dX0_tellFirst_60 hl (k := 5) rfl rfl (by decide) rfl (fun ls hl => ?_)
        refine lv_goto (pc := 63) (tgt := 16) hx hb dX0_tellFirst_63 (by decide) ?_
        exact ih _ _ _ _ _ _ _ _ _ hk_x0 hk_x3 h hP hD hS (lv_sub hl [3, 4, 5, 1, 0] rfl)
      · have h := h.2 c5
        refine lv_iconst (pc := 49) (v := (0 : Int32)) hx hb dX0_tellFirst_49 (by decide) ?_
        refine lv_goto (pc := 50) (tgt := 57) hx hb dX0_tellFirst_50 (by decide) ?_
        refine lv_ior (pc := 57) hx hb dX0_tellFirst_57 ?_
        refine lv_istore (pc := 58) (lv' := [(4, .int (x4 ||| (0 : Int32))), (6, .int r2), (0, .ref (ad x0)), (2, .int x2), (3, .ref (ad x3)), (5, .int x5)]) hx hb dX0_tellFirst_58 hl (by decide) rfl (fun ls hl => ?_)
        refine lv_iinc (pc := 60) (v := (x5 + (1 : Int32))) (lv' := [(5, .int (x5 + (1 : Int32))), (4, .int (x4 ||| (0 : Int32))), (6, .int r2), (0, .ref (ad x0)), (2, .int x2), (3, .ref (ad x3))]) hx hb dX0_tellFirst_60 hl (k := 5) rfl rfl (by decide) rfl (fun ls hl => ?_)
        refine lv_goto (pc := 63) (tgt := 16) hx hb dX0_tellFirst_63 (by decide) ?_
        exact ih _ _ _ _ _ _ _ _ _ hk_x0 hk_x3 h hP hD hS (lv_sub hl [3, 4, 5, 1, 0] rfl)
def p0_tellFirst (σ : kx_St) (x0 : Nat) (x1 : Nat) (x2 : Int32) (x3 : Nat) (Q : kx_St → Prop) : Prop := kx_k 0 x0 = 0 ∧ (kx_k 0 x1 = 3 ∧ (kx_k 0 x3 = 5 ∧ (p5_begin σ x3 x2 (-9 : Int32) (fun σ2 => p3_flownSet σ2 x1 (fun r3 => ∃ m16, p0_tellFirst_L16 m16 σ2 x0 x2 x3 r3 (0 : Int32) Q)))))
set_option maxHeartbeats 4000000 in
theorem q0_tellFirst {σ : kx_St} {x0 : Nat} {x1 : Nat} {x2 : Int32} {x3 : Nat} {Q : kx_St → Prop} (h : p0_tellFirst σ x0 x1 x2 x3 Q) : Met l yX0_tellFirst (Cond.code yX0_tellFirst cX0_tellFirst 7 none :: kx_big) rm0_tellFirst (va_Pc [.ref (ad x0), .ref (ad x1), .int x2, .ref (ad x3)] (kx_Wd D cy 0 ad A σ)) (kx_Qc kx_cv (fun u _ => Q u) (kx_Wd D cy 0 ad A) A) 0 0 A := by
  refine kx_head (plainFor_of_name (by decide)) (Nat.le_of_ble_eq_true rfl) ?_
  intro p e s m below meth c ls cx hP hD hS hl
  obtain ⟨hx, hb, hr, hlocks, hml, hown, hts, hK⟩ := id cx
  obtain ⟨hk_x0, h⟩ := h
  obtain ⟨hk_x1, h⟩ := h
  obtain ⟨hk_x3, h⟩ := h
  have hl : lv_has ls 7 [(0, .ref (ad x0)), (1, .ref (ad x1)), (2, .int x2), (3, .ref (ad x3))] := hl
  refine lv_aload_n (pc := 0) hx hb dX0_tellFirst_0 rfl (lv_at hl 3 rfl) ?_
  refine lv_iload_n (pc := 1) hx hb dX0_tellFirst_1 rfl (lv_at hl 2 rfl) ?_
  refine lv_bipush (pc := 2) (v := (-9 : Int32)) hx hb dX0_tellFirst_2 (by decide) ?_
  refine kx_iVv (pc := 4) [.int x2, .int (-9 : Int32)] hx hb hml hown hts hK hP hD hS (q5_begin h) (cw0_23 hts ⟨Nat.le_of_ble_eq_true rfl, Nat.le_of_ble_eq_true rfl⟩) hk_x3 (by decide) rfl rfl hl.1 rfl (Nat.le_of_ble_eq_true rfl) ⟨Nat.le_of_ble_eq_true rfl, Nat.le_of_ble_eq_true rfl⟩ dX0_tellFirst_4 (fun _ σ2 H locs hP hD hS h => ?_)
  refine lv_aload_n (pc := 7) hx hb dX0_tellFirst_7 rfl (lv_at hl 1 rfl) ?_
  refine kx_iVi (pc := 8) [] hx hb hml hown hts hK hP hD hS (q3_flownSet h) (cw0_29 hts ⟨Nat.le_of_ble_eq_true rfl, Nat.le_of_ble_eq_true rfl⟩) hk_x1 (by decide) rfl rfl hl.1 rfl (Nat.le_of_ble_eq_true rfl) ⟨Nat.le_of_ble_eq_true rfl, Nat.le_of_ble_eq_true rfl⟩ dX0_tellFirst_8 (fun r3 u_ H locs hP hD hS h => ?_)
  obtain ⟨hu_, h⟩ := h
  rw [hu_] at hP hD
  refine lv_istore (pc := 11) (lv' := [(4, .int r3), (0, .ref (ad x0)), (1, .ref (ad x1)), (2, .int x2), (3, .ref (ad x3))]) hx hb dX0_tellFirst_11 hl (by decide) rfl (fun ls hl => ?_)
  refine lv_iconst (pc := 13) (v := (0 : Int32)) hx hb dX0_tellFirst_13 (by decide) ?_
  refine lv_istore (pc := 14) (lv' := [(5, .int (0 : Int32)), (4, .int r3), (0, .ref (ad x0)), (1, .ref (ad x1)), (2, .int x2), (3, .ref (ad x3))]) hx hb dX0_tellFirst_14 hl (by decide) rfl (fun ls hl => ?_)
  obtain ⟨n0, h⟩ := h
  exact w0_tellFirst_L16 cx  n0 _ _ _ _ _ _ _ _ _ hk_x0 hk_x3 h hP hD hS (lv_sub hl [2, 4, 5, 1, 0] rfl)
def p2_firstOut_L2 : Nat → kx_St → Nat → Int32 → Int32 → (Int32 → Prop) → Prop
  | 0, _, _, _, _, _ => False
  | n + 1, σ, x0, x1, x2, Q => ((σ.1 x0 3) ≤ x2 → Q (0 : Int32)) ∧ (¬ (σ.1 x0 3) ≤ x2 → (¬ ((x1 >>> (x2 &&& 31)) &&& (1 : Int32)) = 0 → p2_firstOut_L2 n σ x0 x1 (x2 + (1 : Int32)) Q) ∧ (((x1 >>> (x2 &&& 31)) &&& (1 : Int32)) = 0 → Q x2))
set_option maxHeartbeats 4000000 in
theorem w2_firstOut_L2 {σ : kx_St}  {Q : Int32 → Prop} (cx : kx_Cx p s m args meth c D cy RX2 cX2_firstOut 3 (some .int))  : ∀ (n : Nat) (x0 : Nat) (x1 : Int32) (x2 : Int32) (H : Heap) (locs : List Loc) (ls : Array Slot), kx_k 0 x0 = 3 → p2_firstOut_L2 n σ x0 x1 x2 Q → va_P D vwCl (kx_ws cy 0 ad σ) H → va_D A (kx_ws cy 0 ad σ) → va_S A s.heap H locs → lv_has ls 3 [(0, .ref (ad x0)), (1, .int x1), (2, .int x2)] → W p l e rm2_firstOut s m args below meth c H locs 0 0 (MQ below (kx_Qc kx_ci (fun u r => u = σ ∧ Q r) (kx_Wd D cy 0 ad A) A) args s 0 0 A) (F0 m 2 ls []) := by
  obtain ⟨hx, hb, hr, hlocks, hml, hown, hts, hK⟩ := id cx
  intro n
  induction n with
  | zero => intro _ _ _ _ _ _ _ h; exact False.elim h
  | succ n ih =>
    intro x0 x1 x2 H locs ls hk_x0 h hP hD hS hl
    refine lv_iload_n (pc := 2) hx hb dX2_firstOut_2 rfl (lv_at hl 2 rfl) ?_
    refine lv_aload_n (pc := 3) hx hb dX2_firstOut_3 rfl (lv_at hl 0 rfl) ?_
    refine fg2_15 (pc := 4) hx hb hown hts hK hP hk_x0 dX2_firstOut_4 ?_
    refine lv_icmp_ge (pc := 7) (tgt := 26) hx hb dX2_firstOut_7 (by decide) (fun c1 => ?_) (fun c1 => ?_)
    · have h := h.1 c1
      refine lv_iconst (pc := 26) (v := (0 : Int32)) hx hb dX2_firstOut_26 (by decide) ?_
      exact kx_iret (pc := 27) hx hb hr hlocks hK hP hD hS ⟨rfl, h⟩ dX2_firstOut_27
    · have h := h.2 c1
      refine lv_iload_n (pc := 10) hx hb dX2_firstOut_10 rfl (lv_at hl 1 rfl) ?_
      refine lv_iload_n (pc := 11) hx hb dX2_firstOut_11 rfl (lv_at hl 2 rfl) ?_
      refine lv_ishr (pc := 12) hx hb dX2_firstOut_12 ?_
      refine lv_iconst (pc := 13) (v := (1 : Int32)) hx hb dX2_firstOut_13 (by decide) ?_
      refine lv_iand (pc := 14) hx hb dX2_firstOut_14 ?_
      refine lv_if_ne (pc := 15) (tgt := 20) hx hb dX2_firstOut_15 (by decide) (fun c2 => ?_) (fun c2 => ?_)
      · have h := h.1 c2
        refine lv_iinc (pc := 20) (v := (x2 + (1 : Int32))) (lv' := [(2, .int (x2 + (1 : Int32))), (0, .ref (ad x0)), (1, .int x1)]) hx hb dX2_firstOut_20 hl (k := 2) rfl rfl (by decide) rfl (fun ls hl => ?_)
        refine lv_goto (pc := 23) (tgt := 2) hx hb dX2_firstOut_23 (by decide) ?_
        exact ih _ _ _ _ _ _ hk_x0 h hP hD hS (lv_sub hl [1, 2, 0] rfl)
      · have h := h.2 c2
        refine lv_iload_n (pc := 18) hx hb dX2_firstOut_18 rfl (lv_at hl 2 rfl) ?_
        exact kx_iret (pc := 19) hx hb hr hlocks hK hP hD hS ⟨rfl, h⟩ dX2_firstOut_19
def p2_firstOut (σ : kx_St) (x0 : Nat) (x1 : Int32) (Q : Int32 → Prop) : Prop := kx_k 0 x0 = 3 ∧ (∃ m2, p2_firstOut_L2 m2 σ x0 x1 (0 : Int32) Q)
set_option maxHeartbeats 4000000 in
theorem q2_firstOut {σ : kx_St} {x0 : Nat} {x1 : Int32} {Q : Int32 → Prop} (h : p2_firstOut σ x0 x1 Q) : Met l yX2_firstOut (Cond.code yX2_firstOut cX2_firstOut 3 (some .int) :: kx_big) rm2_firstOut (va_Pc [.ref (ad x0), .int x1] (kx_Wd D cy 0 ad A σ)) (kx_Qc kx_ci (fun u r => u = σ ∧ Q r) (kx_Wd D cy 0 ad A) A) 0 0 A := by
  refine kx_head (plainFor_of_name (by decide)) (Nat.le_of_ble_eq_true rfl) ?_
  intro p e s m below meth c ls cx hP hD hS hl
  obtain ⟨hx, hb, hr, hlocks, hml, hown, hts, hK⟩ := id cx
  obtain ⟨hk_x0, h⟩ := h
  have hl : lv_has ls 3 [(0, .ref (ad x0)), (1, .int x1)] := hl
  refine lv_iconst (pc := 0) (v := (0 : Int32)) hx hb dX2_firstOut_0 (by decide) ?_
  refine lv_istore_n (pc := 1) (lv' := [(2, .int (0 : Int32)), (0, .ref (ad x0)), (1, .int x1)]) hx hb dX2_firstOut_1 rfl hl (by decide) rfl (fun ls hl => ?_)
  obtain ⟨n0, h⟩ := h
  exact w2_firstOut_L2 cx  n0 _ _ _ _ _ _ hk_x0 h hP hD hS (lv_sub hl [1, 2, 0] rfl)
def p2_mayLeave (σ : kx_St) (x0 : Nat) (x1 : Int32) (Q : Int32 → Prop) : Prop := kx_k 0 x0 = 3 ∧ (pJ6_bitCount_0f7a4 x1 (fun r1 => ((((σ.1 x0 3) - r1) - ((σ.1 x0 3) - r1) / (2 : Int32) * (2 : Int32)) = 0 → Q (0 : Int32)) ∧ (¬ (((σ.1 x0 3) - r1) - ((σ.1 x0 3) - r1) / (2 : Int32) * (2 : Int32)) = 0 → Q (1 : Int32))))
set_option maxHeartbeats 4000000 in
theorem q2_mayLeave {σ : kx_St} {x0 : Nat} {x1 : Int32} {Q : Int32 → Prop} (h : p2_mayLeave σ x0 x1 Q) : Met l yX2_mayLeave (Cond.code yX2_mayLeave cX2_mayLeave 2 (some .boolean) :: kx_big) rm2_mayLeave (va_Pc [.ref (ad x0), .int x1] (kx_Wd D cy 0 ad A σ)) (kx_Qc kx_ci (fun u r => u = σ ∧ Q r) (kx_Wd D cy 0 ad A) A) 0 0 A := by
  refine kx_head (plainFor_of_name (by decide)) (Nat.le_of_ble_eq_true rfl) ?_
  intro p e s m below meth c ls cx hP hD hS hl
  obtain ⟨hx, hb, hr, hlocks, hml, hown, hts, hK⟩ := id cx
  obtain ⟨hk_x0, h⟩ := h
  have hl : lv_has ls 2 [(0, .ref (ad x0)), (1, .int x1)] := hl
  refine lv_aload_n (pc := 0) hx hb dX2_mayLeave_0 rfl (lv_at hl 0 rfl) ?_
  refine fg2_15 (pc := 1) hx hb hown hts hK hP hk_x0 dX2_mayLeave_1 ?_
  refine lv_iload_n (pc := 4) hx hb dX2_mayLeave_4 rfl (lv_at hl 1 rfl) ?_
  refine kx_iSi (pc := 5) [.int x1] hx hb hml hown hts hK hP hD hS (qJ6_bitCount_0f7a4 h) (cw2_63 hts ⟨Nat.le_of_ble_eq_true rfl, Nat.le_of_ble_eq_true rfl⟩) rfl hl.1 rfl (Nat.le_of_ble_eq_true rfl) ⟨Nat.le_of_ble_eq_true rfl, Nat.le_of_ble_eq_true rfl⟩ dX2_mayLeave_5 (fun r1 u_ H locs hP hD hS h => ?_)
  obtain ⟨hu_, h⟩ := h
  rw [hu_] at hP hD
  refine lv_isub (pc := 8) hx hb dX2_mayLeave_8 ?_
  refine lv_iconst (pc := 9) (v := (2 : Int32)) hx hb dX2_mayLeave_9 (by decide) ?_
  refine lv_irem (pc := 10) hx hb dX2_mayLeave_10 (by decide) ?_
  refine lv_if_eq (pc := 11) (tgt := 18) hx hb dX2_mayLeave_11 (by decide) (fun c2 => ?_) (fun c2 => ?_)
  · have h := h.1 c2
    refine lv_iconst (pc := 18) (v := (0 : Int32)) hx hb dX2_mayLeave_18 (by decide) ?_
    exact kx_zret (pc := 19) hx hb hr hlocks hK hP hD hS (by decide) ⟨rfl, h⟩ dX2_mayLeave_19
  · have h := h.2 c2
    refine lv_iconst (pc := 14) (v := (1 : Int32)) hx hb dX2_mayLeave_14 (by decide) ?_
    refine lv_goto (pc := 15) (tgt := 19) hx hb dX2_mayLeave_15 (by decide) ?_
    exact kx_zret (pc := 19) hx hb hr hlocks hK hP hD hS (by decide) ⟨rfl, h⟩ dX2_mayLeave_19
def p2_worth (σ : kx_St) (x0 : Nat) (x1 : Int32) (Q : Int32 → Prop) : Prop := kx_k 0 x0 = 2 ∧ ((x1 < 0 → Q (0 : Int32)) ∧ (¬ x1 < 0 → ((64 : Int32) ≤ x1 → Q (0 : Int32)) ∧ (¬ (64 : Int32) ≤ x1 → vp_in x1 (kx_l 0 (kx_r 0 x0 0)) ∧ (Q (σ.1 (kx_r 0 x0 0) x1.toNatClampNeg)))))
set_option maxHeartbeats 4000000 in
theorem q2_worth {σ : kx_St} {x0 : Nat} {x1 : Int32} {Q : Int32 → Prop} (h : p2_worth σ x0 x1 Q) : Met l yX2_worth (Cond.code yX2_worth cX2_worth 2 (some .int) :: kx_big) rm2_worth (va_Pc [.ref (ad x0), .int x1] (kx_Wd D cy 0 ad A σ)) (kx_Qc kx_ci (fun u r => u = σ ∧ Q r) (kx_Wd D cy 0 ad A) A) 0 0 A := by
  refine kx_head (plainFor_of_name (by decide)) (Nat.le_of_ble_eq_true rfl) ?_
  intro p e s m below meth c ls cx hP hD hS hl
  obtain ⟨hx, hb, hr, hlocks, hml, hown, hts, hK⟩ := id cx
  obtain ⟨hk_x0, h⟩ := h
  have hl : lv_has ls 2 [(0, .ref (ad x0)), (1, .int x1)] := hl
  refine lv_iload_n (pc := 0) hx hb dX2_worth_0 rfl (lv_at hl 1 rfl) ?_
  refine lv_if_lt (pc := 1) (tgt := 19) hx hb dX2_worth_1 (by decide) (fun c1 => ?_) (fun c1 => ?_)
  · have h := h.1 c1
    refine lv_iconst (pc := 19) (v := (0 : Int32)) hx hb dX2_worth_19 (by decide) ?_
    exact kx_iret (pc := 20) hx hb hr hlocks hK hP hD hS ⟨rfl, h⟩ dX2_worth_20
  · have h := h.2 c1
    refine lv_iload_n (pc := 4) hx hb dX2_worth_4 rfl (lv_at hl 1 rfl) ?_
    refine lv_bipush (pc := 5) (v := (64 : Int32)) hx hb dX2_worth_5 (by decide) ?_
    refine lv_icmp_ge (pc := 7) (tgt := 19) hx hb dX2_worth_7 (by decide) (fun c2 => ?_) (fun c2 => ?_)
    · have h := h.1 c2
      refine lv_iconst (pc := 19) (v := (0 : Int32)) hx hb dX2_worth_19 (by decide) ?_
      exact kx_iret (pc := 20) hx hb hr hlocks hK hP hD hS ⟨rfl, h⟩ dX2_worth_20
    · have h := h.2 c2
      refine lv_aload_n (pc := 10) hx hb dX2_worth_10 rfl (lv_at hl 0 rfl) ?_
      refine fg2_9 (pc := 11) hx hb hown hts hK hP hk_x0 rfl dX2_worth_11 ?_
      refine lv_iload_n (pc := 14) hx hb dX2_worth_14 rfl (lv_at hl 1 rfl) ?_
      obtain ⟨g3, h⟩ := h
      refine kx_iald (pc := 15) hx hb hK hP (ky_2_0 hk_x0) g3 dX2_worth_15 ?_
      refine lv_goto (pc := 16) (tgt := 20) hx hb dX2_worth_16 (by decide) ?_
      exact kx_iret (pc := 20) hx hb hr hlocks hK hP hD hS ⟨rfl, h⟩ dX2_worth_20
def p2_bestOf_L41 : Nat → kx_St → Nat → Nat → Int32 → Int32 → Int32 → Int32 → Int32 → Int32 → (Int32 → Prop) → Prop
  | 0, _, _, _, _, _, _, _, _, _, _ => False
  | n + 1, σ, x0, x1, x2, x3, x4, x5, x6, x7, Q => ((σ.1 x1 3) ≤ x7 → Q x6) ∧ (¬ (σ.1 x1 3) ≤ x7 → (¬ ((x3 >>> (x7 &&& 31)) &&& (1 : Int32)) = 0 → p2_bestOf_L41 n σ x0 x1 x2 x3 x4 x5 x6 (x7 + (1 : Int32)) Q) ∧ (((x3 >>> (x7 &&& 31)) &&& (1 : Int32)) = 0 → p3_crossLift σ x1 x4 x7 x2 (fun r3 => p2_worth σ x0 (x5 ||| ((1 : Int32) <<< (x7 &&& 31))) (fun r4 => pJ9_max_7cf53 x6 (r3 + r4) (fun r5 => p2_bestOf_L41 n σ x0 x1 x2 x3 x4 x5 r5 (x7 + (1 : Int32)) Q)))))
set_option maxHeartbeats 4000000 in
theorem w2_bestOf_L41 {σ : kx_St}  {Q : Int32 → Prop} (cx : kx_Cx p s m args meth c D cy RX2 cX2_bestOf 8 (some .int))  : ∀ (n : Nat) (x0 : Nat) (x1 : Nat) (x2 : Int32) (x3 : Int32) (x4 : Int32) (x5 : Int32) (x6 : Int32) (x7 : Int32) (H : Heap) (locs : List Loc) (ls : Array Slot), kx_k 0 x0 = 2 → kx_k 0 x1 = 3 → p2_bestOf_L41 n σ x0 x1 x2 x3 x4 x5 x6 x7 Q → va_P D vwCl (kx_ws cy 0 ad σ) H → va_D A (kx_ws cy 0 ad σ) → va_S A s.heap H locs → lv_has ls 8 [(0, .ref (ad x0)), (1, .ref (ad x1)), (2, .int x2), (3, .int x3), (4, .int x4), (5, .int x5), (6, .int x6), (7, .int x7)] → W p l e rm2_bestOf s m args below meth c H locs 0 0 (MQ below (kx_Qc kx_ci (fun u r => u = σ ∧ Q r) (kx_Wd D cy 0 ad A) A) args s 0 0 A) (F0 m 41 ls []) := by
  obtain ⟨hx, hb, hr, hlocks, hml, hown, hts, hK⟩ := id cx
  intro n
  induction n with
  | zero => intro _ _ _ _ _ _ _ _ _ _ _ _ _ h; exact False.elim h
  | succ n ih =>
    intro x0 x1 x2 x3 x4 x5 x6 x7 H locs ls hk_x0 hk_x1 h hP hD hS hl
    refine lv_iload (pc := 41) hx hb dX2_bestOf_41 (lv_at hl 7 rfl) ?_
    refine lv_aload_n (pc := 43) hx hb dX2_bestOf_43 rfl (lv_at hl 1 rfl) ?_
    refine fg2_15 (pc := 44) hx hb hown hts hK hP hk_x1 dX2_bestOf_44 ?_
    refine lv_icmp_ge (pc := 47) (tgt := 93) hx hb dX2_bestOf_47 (by decide) (fun c1 => ?_) (fun c1 => ?_)
    · have h := h.1 c1
      refine lv_iload (pc := 93) hx hb dX2_bestOf_93 (lv_at hl 6 rfl) ?_
      exact kx_iret (pc := 95) hx hb hr hlocks hK hP hD hS ⟨rfl, h⟩ dX2_bestOf_95
    · have h := h.2 c1
      refine lv_iload_n (pc := 50) hx hb dX2_bestOf_50 rfl (lv_at hl 3 rfl) ?_
      refine lv_iload (pc := 51) hx hb dX2_bestOf_51 (lv_at hl 7 rfl) ?_
      refine lv_ishr (pc := 53) hx hb dX2_bestOf_53 ?_
      refine lv_iconst (pc := 54) (v := (1 : Int32)) hx hb dX2_bestOf_54 (by decide) ?_
      refine lv_iand (pc := 55) hx hb dX2_bestOf_55 ?_
      refine lv_if_ne (pc := 56) (tgt := 87) hx hb dX2_bestOf_56 (by decide) (fun c2 => ?_) (fun c2 => ?_)
      · have h := h.1 c2
        refine lv_iinc (pc := 87) (v := (x7 + (1 : Int32))) (lv' := [(7, .int (x7 + (1 : Int32))), (0, .ref (ad x0)), (1, .ref (ad x1)), (2, .int x2), (3, .int x3), (4, .int x4), (5, .int x5), (6, .int x6)]) hx hb dX2_bestOf_87 hl (k := 7) rfl rfl (by decide) rfl (fun ls hl => ?_)
        refine lv_goto (pc := 90) (tgt := 41) hx hb dX2_bestOf_90 (by decide) ?_
        exact ih _ _ _ _ _ _ _ _ _ _ _ hk_x0 hk_x1 h hP hD hS (lv_sub hl [1, 2, 3, 4, 5, 6, 7, 0] rfl)
      · have h := h.2 c2
        refine lv_iload (pc := 59) hx hb dX2_bestOf_59 (lv_at hl 6 rfl) ?_
        refine lv_aload_n (pc := 61) hx hb dX2_bestOf_61 rfl (lv_at hl 1 rfl) ?_
        refine lv_iload (pc := 62) hx hb dX2_bestOf_62 (lv_at hl 4 rfl) ?_
        refine lv_iload (pc := 64) hx hb dX2_bestOf_64 (lv_at hl 7 rfl) ?_
        refine lv_iload_n (pc := 66) hx hb dX2_bestOf_66 rfl (lv_at hl 2 rfl) ?_
        refine kx_iVi (pc := 67) [.int x4, .int x7, .int x2] hx hb hml hown hts hK hP hD hS (q3_crossLift h) (cw2_56 hts ⟨Nat.le_of_ble_eq_true rfl, Nat.le_of_ble_eq_true rfl⟩) hk_x1 (by decide) rfl rfl hl.1 rfl (Nat.le_of_ble_eq_true rfl) ⟨Nat.le_of_ble_eq_true rfl, Nat.le_of_ble_eq_true rfl⟩ dX2_bestOf_67 (fun r3 u_ H locs hP hD hS h => ?_)
        obtain ⟨hu_, h⟩ := h
        rw [hu_] at hP hD
        refine lv_aload_n (pc := 70) hx hb dX2_bestOf_70 rfl (lv_at hl 0 rfl) ?_
        refine lv_iload (pc := 71) hx hb dX2_bestOf_71 (lv_at hl 5 rfl) ?_
        refine lv_iconst (pc := 73) (v := (1 : Int32)) hx hb dX2_bestOf_73 (by decide) ?_
        refine lv_iload (pc := 74) hx hb dX2_bestOf_74 (lv_at hl 7 rfl) ?_
        refine lv_ishl (pc := 76) hx hb dX2_bestOf_76 ?_
        refine lv_ior (pc := 77) hx hb dX2_bestOf_77 ?_
        refine kx_iVi (pc := 78) [.int (x5 ||| ((1 : Int32) <<< (x7 &&& 31)))] hx hb hml hown hts hK hP hD hS (q2_worth h) (cw2_52 hts ⟨Nat.le_of_ble_eq_true rfl, Nat.le_of_ble_eq_true rfl⟩) hk_x0 (by decide) rfl rfl hl.1 rfl (Nat.le_of_ble_eq_true rfl) ⟨Nat.le_of_ble_eq_true rfl, Nat.le_of_ble_eq_true rfl⟩ dX2_bestOf_78 (fun r4 u_ H locs hP hD hS h => ?_)
        obtain ⟨hu_, h⟩ := h
        rw [hu_] at hP hD
        refine lv_iadd (pc := 81) hx hb dX2_bestOf_81 ?_
        refine kx_iSi (pc := 82) [.int x6, .int (r3 + r4)] hx hb hml hown hts hK hP hD hS (qJ9_max_7cf53 h) (cw2_60 hts ⟨Nat.le_of_ble_eq_true rfl, Nat.le_of_ble_eq_true rfl⟩) rfl hl.1 rfl (Nat.le_of_ble_eq_true rfl) ⟨Nat.le_of_ble_eq_true rfl, Nat.le_of_ble_eq_true rfl⟩ dX2_bestOf_82 (fun r5 u_ H locs hP hD hS h => ?_)
        obtain ⟨hu_, h⟩ := h
        rw [hu_] at hP hD
        refine lv_istore (pc := 85) (lv' := [(6, .int r5), (0, .ref (ad x0)), (1, .ref (ad x1)), (2, .int x2), (3, .int x3), (4, .int x4), (5, .int x5), (7, .int x7)]) hx hb dX2_bestOf_85 hl (by decide) rfl (fun ls hl => ?_)
        refine lv_iinc (pc := 87) (v := (x7 + (1 : Int32))) (lv' := [(7, .int (x7 + (1 : Int32))), (6, .int r5), (0, .ref (ad x0)), (1, .ref (ad x1)), (2, .int x2), (3, .int x3), (4, .int x4), (5, .int x5)]) hx hb dX2_bestOf_87 hl (k := 7) rfl rfl (by decide) rfl (fun ls hl => ?_)
        refine lv_goto (pc := 90) (tgt := 41) hx hb dX2_bestOf_90 (by decide) ?_
        exact ih _ _ _ _ _ _ _ _ _ _ _ hk_x0 hk_x1 h hP hD hS (lv_sub hl [2, 3, 4, 5, 6, 7, 1, 0] rfl)
def p2_bestOf (σ : kx_St) (x0 : Nat) (x1 : Nat) (x2 : Int32) (x3 : Int32) (Q : Int32 → Prop) : Prop := kx_k 0 x0 = 2 ∧ (kx_k 0 x1 = 3 ∧ (p2_firstOut σ x1 x3 (fun r1 => p2_mayLeave σ x1 x3 (fun r2 => (r2 = 0 → ∃ m41, p2_bestOf_L41 m41 σ x0 x1 x2 x3 r1 (x3 ||| ((1 : Int32) <<< (r1 &&& 31))) (0 : Int32) (r1 + (1 : Int32)) Q) ∧ (¬ r2 = 0 → p2_worth σ x0 (x3 ||| ((1 : Int32) <<< (r1 &&& 31))) (fun r4 => ∃ m41, p2_bestOf_L41 m41 σ x0 x1 x2 x3 r1 (x3 ||| ((1 : Int32) <<< (r1 &&& 31))) r4 (r1 + (1 : Int32)) Q))))))
set_option maxHeartbeats 4000000 in
theorem q2_bestOf {σ : kx_St} {x0 : Nat} {x1 : Nat} {x2 : Int32} {x3 : Int32} {Q : Int32 → Prop} (h : p2_bestOf σ x0 x1 x2 x3 Q) : Met l yX2_bestOf (Cond.code yX2_bestOf cX2_bestOf 8 (some .int) :: kx_big) rm2_bestOf (va_Pc [.ref (ad x0), .ref (ad x1), .int x2, .int x3] (kx_Wd D cy 0 ad A σ)) (kx_Qc kx_ci (fun u r => u = σ ∧ Q r) (kx_Wd D cy 0 ad A) A) 0 0 A := by
  refine kx_head (plainFor_of_name (by decide)) (Nat.le_of_ble_eq_true rfl) ?_
  intro p e s m below meth c ls cx hP hD hS hl
  obtain ⟨hx, hb, hr, hlocks, hml, hown, hts, hK⟩ := id cx
  obtain ⟨hk_x0, h⟩ := h
  obtain ⟨hk_x1, h⟩ := h
  have hl : lv_has ls 8 [(0, .ref (ad x0)), (1, .ref (ad x1)), (2, .int x2), (3, .int x3)] := hl
  refine lv_aload_n (pc := 0) hx hb dX2_bestOf_0 rfl (lv_at hl 1 rfl) ?_
  refine lv_iload_n (pc := 1) hx hb dX2_bestOf_1 rfl (lv_at hl 3 rfl) ?_
  refine kx_iSi (pc := 2) [.ref (ad x1), .int x3] hx hb hml hown hts hK hP hD hS (q2_firstOut h) (cw2_44 hts ⟨Nat.le_of_ble_eq_true rfl, Nat.le_of_ble_eq_true rfl⟩) rfl hl.1 rfl (Nat.le_of_ble_eq_true rfl) ⟨Nat.le_of_ble_eq_true rfl, Nat.le_of_ble_eq_true rfl⟩ dX2_bestOf_2 (fun r1 u_ H locs hP hD hS h => ?_)
  obtain ⟨hu_, h⟩ := h
  rw [hu_] at hP hD
  refine lv_istore (pc := 5) (lv' := [(4, .int r1), (0, .ref (ad x0)), (1, .ref (ad x1)), (2, .int x2), (3, .int x3)]) hx hb dX2_bestOf_5 hl (by decide) rfl (fun ls hl => ?_)
  refine lv_iload_n (pc := 7) hx hb dX2_bestOf_7 rfl (lv_at hl 4 rfl) ?_
  refine lv_iconst (pc := 8) (v := (1 : Int32)) hx hb dX2_bestOf_8 (by decide) ?_
  refine lv_iload (pc := 9) hx hb dX2_bestOf_9 (lv_at hl 0 rfl) ?_
  refine lv_ishl (pc := 11) hx hb dX2_bestOf_11 ?_
  refine lv_ior (pc := 12) hx hb dX2_bestOf_12 ?_
  refine lv_istore (pc := 13) (lv' := [(5, .int (x3 ||| ((1 : Int32) <<< (r1 &&& 31)))), (4, .int r1), (0, .ref (ad x0)), (1, .ref (ad x1)), (2, .int x2), (3, .int x3)]) hx hb dX2_bestOf_13 hl (by decide) rfl (fun ls hl => ?_)
  refine lv_aload_n (pc := 15) hx hb dX2_bestOf_15 rfl (lv_at hl 3 rfl) ?_
  refine lv_iload_n (pc := 16) hx hb dX2_bestOf_16 rfl (lv_at hl 5 rfl) ?_
  refine kx_iSi (pc := 17) [.ref (ad x1), .int x3] hx hb hml hown hts hK hP hD hS (q2_mayLeave h) (cw2_48 hts ⟨Nat.le_of_ble_eq_true rfl, Nat.le_of_ble_eq_true rfl⟩) rfl hl.1 rfl (Nat.le_of_ble_eq_true rfl) ⟨Nat.le_of_ble_eq_true rfl, Nat.le_of_ble_eq_true rfl⟩ dX2_bestOf_17 (fun r2 u_ H locs hP hD hS h => ?_)
  obtain ⟨hu_, h⟩ := h
  rw [hu_] at hP hD
  refine lv_if_eq (pc := 20) (tgt := 32) hx hb dX2_bestOf_20 (by decide) (fun c3 => ?_) (fun c3 => ?_)
  · have h := h.1 c3
    refine lv_iconst (pc := 32) (v := (0 : Int32)) hx hb dX2_bestOf_32 (by decide) ?_
    refine lv_istore (pc := 33) (lv' := [(6, .int (0 : Int32)), (5, .int (x3 ||| ((1 : Int32) <<< (r1 &&& 31)))), (4, .int r1), (0, .ref (ad x0)), (1, .ref (ad x1)), (2, .int x2), (3, .int x3)]) hx hb dX2_bestOf_33 hl (by decide) rfl (fun ls hl => ?_)
    refine lv_iload (pc := 35) hx hb dX2_bestOf_35 (lv_at hl 2 rfl) ?_
    refine lv_iconst (pc := 37) (v := (1 : Int32)) hx hb dX2_bestOf_37 (by decide) ?_
    refine lv_iadd (pc := 38) hx hb dX2_bestOf_38 ?_
    refine lv_istore (pc := 39) (lv' := [(7, .int (r1 + (1 : Int32))), (6, .int (0 : Int32)), (5, .int (x3 ||| ((1 : Int32) <<< (r1 &&& 31)))), (4, .int r1), (0, .ref (ad x0)), (1, .ref (ad x1)), (2, .int x2), (3, .int x3)]) hx hb dX2_bestOf_39 hl (by decide) rfl (fun ls hl => ?_)
    obtain ⟨n0, h⟩ := h
    exact w2_bestOf_L41 cx  n0 _ _ _ _ _ _ _ _ _ _ _ hk_x0 hk_x1 h hP hD hS (lv_sub hl [4, 5, 6, 7, 3, 2, 1, 0] rfl)
  · have h := h.2 c3
    refine lv_aload_n (pc := 23) hx hb dX2_bestOf_23 rfl (lv_at hl 2 rfl) ?_
    refine lv_iload (pc := 24) hx hb dX2_bestOf_24 (lv_at hl 0 rfl) ?_
    refine kx_iVi (pc := 26) [.int (x3 ||| ((1 : Int32) <<< (r1 &&& 31)))] hx hb hml hown hts hK hP hD hS (q2_worth h) (cw2_52 hts ⟨Nat.le_of_ble_eq_true rfl, Nat.le_of_ble_eq_true rfl⟩) hk_x0 (by decide) rfl rfl hl.1 rfl (Nat.le_of_ble_eq_true rfl) ⟨Nat.le_of_ble_eq_true rfl, Nat.le_of_ble_eq_true rfl⟩ dX2_bestOf_26 (fun r4 u_ H locs hP hD hS h => ?_)
    obtain ⟨hu_, h⟩ := h
    rw [hu_] at hP hD
    refine lv_goto (pc := 29) (tgt := 33) hx hb dX2_bestOf_29 (by decide) ?_
    refine lv_istore (pc := 33) (lv' := [(6, .int r4), (5, .int (x3 ||| ((1 : Int32) <<< (r1 &&& 31)))), (4, .int r1), (0, .ref (ad x0)), (1, .ref (ad x1)), (2, .int x2), (3, .int x3)]) hx hb dX2_bestOf_33 hl (by decide) rfl (fun ls hl => ?_)
    refine lv_iload (pc := 35) hx hb dX2_bestOf_35 (lv_at hl 2 rfl) ?_
    refine lv_iconst (pc := 37) (v := (1 : Int32)) hx hb dX2_bestOf_37 (by decide) ?_
    refine lv_iadd (pc := 38) hx hb dX2_bestOf_38 ?_
    refine lv_istore (pc := 39) (lv' := [(7, .int (r1 + (1 : Int32))), (6, .int r4), (5, .int (x3 ||| ((1 : Int32) <<< (r1 &&& 31)))), (4, .int r1), (0, .ref (ad x0)), (1, .ref (ad x1)), (2, .int x2), (3, .int x3)]) hx hb dX2_bestOf_39 hl (by decide) rfl (fun ls hl => ?_)
    obtain ⟨n0, h⟩ := h
    exact w2_bestOf_L41 cx  n0 _ _ _ _ _ _ _ _ _ _ _ hk_x0 hk_x1 h hP hD hS (lv_sub hl [4, 5, 6, 7, 3, 2, 1, 0] rfl)
def p2_weigh_L26 : Nat → kx_St → Nat → Nat → Int32 → Int32 → (kx_St → Int32 → Prop) → Prop
  | 0, _, _, _, _, _, _ => False
  | n + 1, σ, x0, x1, x2, x4, Q => (x4 < 0 → vp_in (0 : Int32) (kx_l 0 (kx_r 0 x0 0)) ∧ (Q σ (σ.1 (kx_r 0 x0 0) (0 : Int32).toNatClampNeg))) ∧ (¬ x4 < 0 → p2_bestOf σ x0 x1 x2 x4 (fun r3 => vp_in x4 (kx_l 0 (kx_r 0 x0 0)) ∧ ((fun σ5 : kx_St => p2_weigh_L26 n σ5 x0 x1 x2 (x4 + (-1 : Int32)) Q) (kx_sI σ (kx_r 0 x0 0) x4.toNatClampNeg r3))))
set_option maxHeartbeats 4000000 in
theorem w2_weigh_L26  {Q : kx_St → Int32 → Prop} (cx : kx_Cx p s m args meth c D cy RX2 cX2_weigh 5 (some .int))  : ∀ (n : Nat) (σ : kx_St) (x0 : Nat) (x1 : Nat) (x2 : Int32) (x4 : Int32) (H : Heap) (locs : List Loc) (ls : Array Slot), kx_k 0 x0 = 2 → kx_k 0 x1 = 3 → p2_weigh_L26 n σ x0 x1 x2 x4 Q → va_P D vwCl (kx_ws cy 0 ad σ) H → va_D A (kx_ws cy 0 ad σ) → va_S A s.heap H locs → lv_has ls 5 [(0, .ref (ad x0)), (1, .ref (ad x1)), (2, .int x2), (4, .int x4)] → W p l e rm2_weigh s m args below meth c H locs 0 0 (MQ below (kx_Qc kx_ci Q (kx_Wd D cy 0 ad A) A) args s 0 0 A) (F0 m 26 ls []) := by
  obtain ⟨hx, hb, hr, hlocks, hml, hown, hts, hK⟩ := id cx
  intro n
  induction n with
  | zero => intro _ _ _ _ _ _ _ _ _ _ h; exact False.elim h
  | succ n ih =>
    intro σ x0 x1 x2 x4 H locs ls hk_x0 hk_x1 h hP hD hS hl
    refine lv_iload (pc := 26) hx hb dX2_weigh_26 (lv_at hl 3 rfl) ?_
    refine lv_if_lt (pc := 28) (tgt := 52) hx hb dX2_weigh_28 (by decide) (fun c1 => ?_) (fun c1 => ?_)
    · have h := h.1 c1
      refine lv_aload_n (pc := 52) hx hb dX2_weigh_52 rfl (lv_at hl 0 rfl) ?_
      refine fg2_9 (pc := 53) hx hb hown hts hK hP hk_x0 rfl dX2_weigh_53 ?_
      refine lv_iconst (pc := 56) (v := (0 : Int32)) hx hb dX2_weigh_56 (by decide) ?_
      obtain ⟨g2, h⟩ := h
      refine kx_iald (pc := 57) hx hb hK hP (ky_2_0 hk_x0) g2 dX2_weigh_57 ?_
      exact kx_iret (pc := 58) hx hb hr hlocks hK hP hD hS h dX2_weigh_58
    · have h := h.2 c1
      refine lv_aload_n (pc := 31) hx hb dX2_weigh_31 rfl (lv_at hl 0 rfl) ?_
      refine fg2_9 (pc := 32) hx hb hown hts hK hP hk_x0 rfl dX2_weigh_32 ?_
      refine lv_iload (pc := 35) hx hb dX2_weigh_35 (lv_at hl 3 rfl) ?_
      refine lv_aload_n (pc := 37) hx hb dX2_weigh_37 rfl (lv_at hl 0 rfl) ?_
      refine lv_aload_n (pc := 38) hx hb dX2_weigh_38 rfl (lv_at hl 1 rfl) ?_
      refine lv_iload_n (pc := 39) hx hb dX2_weigh_39 rfl (lv_at hl 2 rfl) ?_
      refine lv_iload (pc := 40) hx hb dX2_weigh_40 (lv_at hl 3 rfl) ?_
      refine kx_iVi (pc := 42) [.ref (ad x1), .int x2, .int x4] hx hb hml hown hts hK hP hD hS (q2_bestOf h) (cw2_27 hts ⟨Nat.le_of_ble_eq_true rfl, Nat.le_of_ble_eq_true rfl⟩) hk_x0 (by decide) rfl rfl hl.1 rfl (Nat.le_of_ble_eq_true rfl) ⟨Nat.le_of_ble_eq_true rfl, Nat.le_of_ble_eq_true rfl⟩ dX2_weigh_42 (fun r3 u_ H locs hP hD hS h => ?_)
      obtain ⟨hu_, h⟩ := h
      rw [hu_] at hP hD
      obtain ⟨g4, h⟩ := h
      refine kx_iast (pc := 45) hx hb hK hP hD hS (ky_2_0 hk_x0) g4 dX2_weigh_45 (fun H locs hP hD hS => ?_)
      refine lv_iinc (pc := 46) (v := (x4 + (-1 : Int32))) (lv' := [(4, .int (x4 + (-1 : Int32))), (0, .ref (ad x0)), (1, .ref (ad x1)), (2, .int x2)]) hx hb dX2_weigh_46 hl (k := 3) rfl rfl (by decide) rfl (fun ls hl => ?_)
      refine lv_goto (pc := 49) (tgt := 26) hx hb dX2_weigh_49 (by decide) ?_
      exact ih _ _ _ _ _ _ _ _ hk_x0 hk_x1 h hP hD hS (lv_sub hl [1, 2, 3, 0] rfl)
def p2_weigh (σ : kx_St) (x0 : Nat) (x1 : Nat) (x2 : Int32) (Q : kx_St → Int32 → Prop) : Prop := kx_k 0 x0 = 2 ∧ (kx_k 0 x1 = 3 ∧ (pJ9_min_7cf53 (σ.1 x1 3) (6 : Int32) (fun r1 => vp_in (((1 : Int32) <<< (r1 &&& 31)) - (1 : Int32)) (kx_l 0 (kx_r 0 x0 0)) ∧ ((fun σ3 : kx_St => ∃ m26, p2_weigh_L26 m26 σ3 x0 x1 x2 ((((1 : Int32) <<< (r1 &&& 31)) - (1 : Int32)) - (1 : Int32)) Q) (kx_sI σ (kx_r 0 x0 0) (((1 : Int32) <<< (r1 &&& 31)) - (1 : Int32)).toNatClampNeg (0 : Int32))))))
set_option maxHeartbeats 4000000 in
theorem q2_weigh {σ : kx_St} {x0 : Nat} {x1 : Nat} {x2 : Int32} {Q : kx_St → Int32 → Prop} (h : p2_weigh σ x0 x1 x2 Q) : Met l yX2_weigh (Cond.code yX2_weigh cX2_weigh 5 (some .int) :: kx_big) rm2_weigh (va_Pc [.ref (ad x0), .ref (ad x1), .int x2] (kx_Wd D cy 0 ad A σ)) (kx_Qc kx_ci Q (kx_Wd D cy 0 ad A) A) 0 0 A := by
  refine kx_head (plainFor_of_name (by decide)) (Nat.le_of_ble_eq_true rfl) ?_
  intro p e s m below meth c ls cx hP hD hS hl
  obtain ⟨hx, hb, hr, hlocks, hml, hown, hts, hK⟩ := id cx
  obtain ⟨hk_x0, h⟩ := h
  obtain ⟨hk_x1, h⟩ := h
  have hl : lv_has ls 5 [(0, .ref (ad x0)), (1, .ref (ad x1)), (2, .int x2)] := hl
  refine lv_iconst (pc := 0) (v := (1 : Int32)) hx hb dX2_weigh_0 (by decide) ?_
  refine lv_aload_n (pc := 1) hx hb dX2_weigh_1 rfl (lv_at hl 1 rfl) ?_
  refine fg2_15 (pc := 2) hx hb hown hts hK hP hk_x1 dX2_weigh_2 ?_
  refine lv_bipush (pc := 5) (v := (6 : Int32)) hx hb dX2_weigh_5 (by decide) ?_
  refine kx_iSi (pc := 7) [.int (σ.1 x1 3), .int (6 : Int32)] hx hb hml hown hts hK hP hD hS (qJ9_min_7cf53 h) (cw2_21 hts ⟨Nat.le_of_ble_eq_true rfl, Nat.le_of_ble_eq_true rfl⟩) rfl hl.1 rfl (Nat.le_of_ble_eq_true rfl) ⟨Nat.le_of_ble_eq_true rfl, Nat.le_of_ble_eq_true rfl⟩ dX2_weigh_7 (fun r1 u_ H locs hP hD hS h => ?_)
  obtain ⟨hu_, h⟩ := h
  rw [hu_] at hP hD
  refine lv_ishl (pc := 10) hx hb dX2_weigh_10 ?_
  refine lv_iconst (pc := 11) (v := (1 : Int32)) hx hb dX2_weigh_11 (by decide) ?_
  refine lv_isub (pc := 12) hx hb dX2_weigh_12 ?_
  refine lv_istore_n (pc := 13) (lv' := [(3, .int (((1 : Int32) <<< (r1 &&& 31)) - (1 : Int32))), (0, .ref (ad x0)), (1, .ref (ad x1)), (2, .int x2)]) hx hb dX2_weigh_13 rfl hl (by decide) rfl (fun ls hl => ?_)
  refine lv_aload_n (pc := 14) hx hb dX2_weigh_14 rfl (lv_at hl 1 rfl) ?_
  refine fg2_9 (pc := 15) hx hb hown hts hK hP hk_x0 rfl dX2_weigh_15 ?_
  refine lv_iload_n (pc := 18) hx hb dX2_weigh_18 rfl (lv_at hl 0 rfl) ?_
  refine lv_iconst (pc := 19) (v := (0 : Int32)) hx hb dX2_weigh_19 (by decide) ?_
  obtain ⟨g2, h⟩ := h
  refine kx_iast (pc := 20) hx hb hK hP hD hS (ky_2_0 hk_x0) g2 dX2_weigh_20 (fun H locs hP hD hS => ?_)
  refine lv_iload_n (pc := 21) hx hb dX2_weigh_21 rfl (lv_at hl 0 rfl) ?_
  refine lv_iconst (pc := 22) (v := (1 : Int32)) hx hb dX2_weigh_22 (by decide) ?_
  refine lv_isub (pc := 23) hx hb dX2_weigh_23 ?_
  refine lv_istore (pc := 24) (lv' := [(4, .int ((((1 : Int32) <<< (r1 &&& 31)) - (1 : Int32)) - (1 : Int32))), (3, .int (((1 : Int32) <<< (r1 &&& 31)) - (1 : Int32))), (0, .ref (ad x0)), (1, .ref (ad x1)), (2, .int x2)]) hx hb dX2_weigh_24 hl (by decide) rfl (fun ls hl => ?_)
  obtain ⟨n0, h⟩ := h
  exact w2_weigh_L26 cx  n0 _ _ _ _ _ _ _ _ hk_x0 hk_x1 h hP hD hS (lv_sub hl [2, 3, 4, 0] rfl)
def p2_firstBest_L42 : Nat → kx_St → Nat → Nat → Int32 → Int32 → Int32 → Int32 → Int32 → (Int32 → Prop) → Prop
  | 0, _, _, _, _, _, _, _, _, _ => False
  | n + 1, σ, x0, x1, x2, x3, x4, x5, x6, Q => ((σ.1 x1 3) ≤ x6 → Q (-9 : Int32)) ∧ (¬ (σ.1 x1 3) ≤ x6 → (¬ ((x3 >>> (x6 &&& 31)) &&& (1 : Int32)) = 0 → p2_firstBest_L42 n σ x0 x1 x2 x3 x4 x5 (x6 + (1 : Int32)) Q) ∧ (((x3 >>> (x6 &&& 31)) &&& (1 : Int32)) = 0 → p3_crossLift σ x1 x4 x6 x2 (fun r3 => p2_worth σ x0 (x3 ||| ((1 : Int32) <<< (x6 &&& 31))) (fun r4 => p2_worth σ x0 x5 (fun r5 => (¬ (r3 + r4) = r5 → p2_firstBest_L42 n σ x0 x1 x2 x3 x4 x5 (x6 + (1 : Int32)) Q) ∧ ((r3 + r4) = r5 → Q x6))))))
set_option maxHeartbeats 4000000 in
theorem w2_firstBest_L42 {σ : kx_St}  {Q : Int32 → Prop} (cx : kx_Cx p s m args meth c D cy RX2 cX2_firstBest 7 (some .int))  : ∀ (n : Nat) (x0 : Nat) (x1 : Nat) (x2 : Int32) (x3 : Int32) (x4 : Int32) (x5 : Int32) (x6 : Int32) (H : Heap) (locs : List Loc) (ls : Array Slot), kx_k 0 x0 = 2 → kx_k 0 x1 = 3 → p2_firstBest_L42 n σ x0 x1 x2 x3 x4 x5 x6 Q → va_P D vwCl (kx_ws cy 0 ad σ) H → va_D A (kx_ws cy 0 ad σ) → va_S A s.heap H locs → lv_has ls 7 [(0, .ref (ad x0)), (1, .ref (ad x1)), (2, .int x2), (3, .int x3), (4, .int x4), (5, .int x5), (6, .int x6)] → W p l e rm2_firstBest s m args below meth c H locs 0 0 (MQ below (kx_Qc kx_ci (fun u r => u = σ ∧ Q r) (kx_Wd D cy 0 ad A) A) args s 0 0 A) (F0 m 42 ls []) := by
  obtain ⟨hx, hb, hr, hlocks, hml, hown, hts, hK⟩ := id cx
  intro n
  induction n with
  | zero => intro _ _ _ _ _ _ _ _ _ _ _ _ h; exact False.elim h
  | succ n ih =>
    intro x0 x1 x2 x3 x4 x5 x6 H locs ls hk_x0 hk_x1 h hP hD hS hl
    refine lv_iload (pc := 42) hx hb dX2_firstBest_42 (lv_at hl 6 rfl) ?_
    refine lv_aload_n (pc := 44) hx hb dX2_firstBest_44 rfl (lv_at hl 1 rfl) ?_
    refine fg2_15 (pc := 45) hx hb hown hts hK hP hk_x1 dX2_firstBest_45 ?_
    refine lv_icmp_ge (pc := 48) (tgt := 98) hx hb dX2_firstBest_48 (by decide) (fun c1 => ?_) (fun c1 => ?_)
    · have h := h.1 c1
      refine lv_bipush (pc := 98) (v := (-9 : Int32)) hx hb dX2_firstBest_98 (by decide) ?_
      exact kx_iret (pc := 100) hx hb hr hlocks hK hP hD hS ⟨rfl, h⟩ dX2_firstBest_100
    · have h := h.2 c1
      refine lv_iload_n (pc := 51) hx hb dX2_firstBest_51 rfl (lv_at hl 3 rfl) ?_
      refine lv_iload (pc := 52) hx hb dX2_firstBest_52 (lv_at hl 6 rfl) ?_
      refine lv_ishr (pc := 54) hx hb dX2_firstBest_54 ?_
      refine lv_iconst (pc := 55) (v := (1 : Int32)) hx hb dX2_firstBest_55 (by decide) ?_
      refine lv_iand (pc := 56) hx hb dX2_firstBest_56 ?_
      refine lv_if_ne (pc := 57) (tgt := 92) hx hb dX2_firstBest_57 (by decide) (fun c2 => ?_) (fun c2 => ?_)
      · have h := h.1 c2
        refine lv_iinc (pc := 92) (v := (x6 + (1 : Int32))) (lv' := [(6, .int (x6 + (1 : Int32))), (0, .ref (ad x0)), (1, .ref (ad x1)), (2, .int x2), (3, .int x3), (4, .int x4), (5, .int x5)]) hx hb dX2_firstBest_92 hl (k := 6) rfl rfl (by decide) rfl (fun ls hl => ?_)
        refine lv_goto (pc := 95) (tgt := 42) hx hb dX2_firstBest_95 (by decide) ?_
        exact ih _ _ _ _ _ _ _ _ _ _ hk_x0 hk_x1 h hP hD hS (lv_sub hl [1, 2, 3, 4, 5, 6, 0] rfl)
      · have h := h.2 c2
        refine lv_aload_n (pc := 60) hx hb dX2_firstBest_60 rfl (lv_at hl 1 rfl) ?_
        refine lv_iload (pc := 61) hx hb dX2_firstBest_61 (lv_at hl 4 rfl) ?_
        refine lv_iload (pc := 63) hx hb dX2_firstBest_63 (lv_at hl 6 rfl) ?_
        refine lv_iload_n (pc := 65) hx hb dX2_firstBest_65 rfl (lv_at hl 2 rfl) ?_
        refine kx_iVi (pc := 66) [.int x4, .int x6, .int x2] hx hb hml hown hts hK hP hD hS (q3_crossLift h) (cw2_56 hts ⟨Nat.le_of_ble_eq_true rfl, Nat.le_of_ble_eq_true rfl⟩) hk_x1 (by decide) rfl rfl hl.1 rfl (Nat.le_of_ble_eq_true rfl) ⟨Nat.le_of_ble_eq_true rfl, Nat.le_of_ble_eq_true rfl⟩ dX2_firstBest_66 (fun r3 u_ H locs hP hD hS h => ?_)
        obtain ⟨hu_, h⟩ := h
        rw [hu_] at hP hD
        refine lv_aload_n (pc := 69) hx hb dX2_firstBest_69 rfl (lv_at hl 0 rfl) ?_
        refine lv_iload_n (pc := 70) hx hb dX2_firstBest_70 rfl (lv_at hl 3 rfl) ?_
        refine lv_iconst (pc := 71) (v := (1 : Int32)) hx hb dX2_firstBest_71 (by decide) ?_
        refine lv_iload (pc := 72) hx hb dX2_firstBest_72 (lv_at hl 6 rfl) ?_
        refine lv_ishl (pc := 74) hx hb dX2_firstBest_74 ?_
        refine lv_ior (pc := 75) hx hb dX2_firstBest_75 ?_
        refine kx_iVi (pc := 76) [.int (x3 ||| ((1 : Int32) <<< (x6 &&& 31)))] hx hb hml hown hts hK hP hD hS (q2_worth h) (cw2_52 hts ⟨Nat.le_of_ble_eq_true rfl, Nat.le_of_ble_eq_true rfl⟩) hk_x0 (by decide) rfl rfl hl.1 rfl (Nat.le_of_ble_eq_true rfl) ⟨Nat.le_of_ble_eq_true rfl, Nat.le_of_ble_eq_true rfl⟩ dX2_firstBest_76 (fun r4 u_ H locs hP hD hS h => ?_)
        obtain ⟨hu_, h⟩ := h
        rw [hu_] at hP hD
        refine lv_iadd (pc := 79) hx hb dX2_firstBest_79 ?_
        refine lv_aload_n (pc := 80) hx hb dX2_firstBest_80 rfl (lv_at hl 0 rfl) ?_
        refine lv_iload (pc := 81) hx hb dX2_firstBest_81 (lv_at hl 5 rfl) ?_
        refine kx_iVi (pc := 83) [.int x5] hx hb hml hown hts hK hP hD hS (q2_worth h) (cw2_52 hts ⟨Nat.le_of_ble_eq_true rfl, Nat.le_of_ble_eq_true rfl⟩) hk_x0 (by decide) rfl rfl hl.1 rfl (Nat.le_of_ble_eq_true rfl) ⟨Nat.le_of_ble_eq_true rfl, Nat.le_of_ble_eq_true rfl⟩ dX2_firstBest_83 (fun r5 u_ H locs hP hD hS h => ?_)
        obtain ⟨hu_, h⟩ := h
        rw [hu_] at hP hD
        refine lv_icmp_ne (pc := 86) (tgt := 92) hx hb dX2_firstBest_86 (by decide) (fun c6 => ?_) (fun c6 => ?_)
        · have h := h.1 c6
          refine lv_iinc (pc := 92) (v := (x6 + (1 : Int32))) (lv' := [(6, .int (x6 + (1 : Int32))), (0, .ref (ad x0)), (1, .ref (ad x1)), (2, .int x2), (3, .int x3), (4, .int x4), (5, .int x5)]) hx hb dX2_firstBest_92 hl (k := 6) rfl rfl (by decide) rfl (fun ls hl => ?_)
          refine lv_goto (pc := 95) (tgt := 42) hx hb dX2_firstBest_95 (by decide) ?_
          exact ih _ _ _ _ _ _ _ _ _ _ hk_x0 hk_x1 h hP hD hS (lv_sub hl [1, 2, 3, 4, 5, 6, 0] rfl)
        · have h := h.2 c6
          refine lv_iload (pc := 89) hx hb dX2_firstBest_89 (lv_at hl 6 rfl) ?_
          exact kx_iret (pc := 91) hx hb hr hlocks hK hP hD hS ⟨rfl, h⟩ dX2_firstBest_91
def p2_firstBest (σ : kx_St) (x0 : Nat) (x1 : Nat) (x2 : Int32) (x3 : Int32) (x4 : Int32) (Q : Int32 → Prop) : Prop := kx_k 0 x0 = 2 ∧ (kx_k 0 x1 = 3 ∧ (p2_mayLeave σ x1 (x3 &&& (((1 : Int32) <<< (x4 &&& 31)) ^^^ (-1 : Int32))) (fun r1 => (r1 = 0 → ∃ m42, p2_firstBest_L42 m42 σ x0 x1 x2 x3 x4 (x3 &&& (((1 : Int32) <<< (x4 &&& 31)) ^^^ (-1 : Int32))) (x4 + (1 : Int32)) Q) ∧ (¬ r1 = 0 → p2_worth σ x0 x3 (fun r3 => p2_worth σ x0 (x3 &&& (((1 : Int32) <<< (x4 &&& 31)) ^^^ (-1 : Int32))) (fun r4 => (¬ r3 = r4 → ∃ m42, p2_firstBest_L42 m42 σ x0 x1 x2 x3 x4 (x3 &&& (((1 : Int32) <<< (x4 &&& 31)) ^^^ (-1 : Int32))) (x4 + (1 : Int32)) Q) ∧ (r3 = r4 → Q (-9 : Int32))))))))
set_option maxHeartbeats 4000000 in
theorem q2_firstBest {σ : kx_St} {x0 : Nat} {x1 : Nat} {x2 : Int32} {x3 : Int32} {x4 : Int32} {Q : Int32 → Prop} (h : p2_firstBest σ x0 x1 x2 x3 x4 Q) : Met l yX2_firstBest (Cond.code yX2_firstBest cX2_firstBest 7 (some .int) :: kx_big) rm2_firstBest (va_Pc [.ref (ad x0), .ref (ad x1), .int x2, .int x3, .int x4] (kx_Wd D cy 0 ad A σ)) (kx_Qc kx_ci (fun u r => u = σ ∧ Q r) (kx_Wd D cy 0 ad A) A) 0 0 A := by
  refine kx_head (plainFor_of_name (by decide)) (Nat.le_of_ble_eq_true rfl) ?_
  intro p e s m below meth c ls cx hP hD hS hl
  obtain ⟨hx, hb, hr, hlocks, hml, hown, hts, hK⟩ := id cx
  obtain ⟨hk_x0, h⟩ := h
  obtain ⟨hk_x1, h⟩ := h
  have hl : lv_has ls 7 [(0, .ref (ad x0)), (1, .ref (ad x1)), (2, .int x2), (3, .int x3), (4, .int x4)] := hl
  refine lv_iload_n (pc := 0) hx hb dX2_firstBest_0 rfl (lv_at hl 3 rfl) ?_
  refine lv_iconst (pc := 1) (v := (1 : Int32)) hx hb dX2_firstBest_1 (by decide) ?_
  refine lv_iload (pc := 2) hx hb dX2_firstBest_2 (lv_at hl 4 rfl) ?_
  refine lv_ishl (pc := 4) hx hb dX2_firstBest_4 ?_
  refine lv_iconst (pc := 5) (v := (-1 : Int32)) hx hb dX2_firstBest_5 (by decide) ?_
  refine lv_ixor (pc := 6) hx hb dX2_firstBest_6 ?_
  refine lv_iand (pc := 7) hx hb dX2_firstBest_7 ?_
  refine lv_istore (pc := 8) (lv' := [(5, .int (x3 &&& (((1 : Int32) <<< (x4 &&& 31)) ^^^ (-1 : Int32)))), (0, .ref (ad x0)), (1, .ref (ad x1)), (2, .int x2), (3, .int x3), (4, .int x4)]) hx hb dX2_firstBest_8 hl (by decide) rfl (fun ls hl => ?_)
  refine lv_aload_n (pc := 10) hx hb dX2_firstBest_10 rfl (lv_at hl 2 rfl) ?_
  refine lv_iload (pc := 11) hx hb dX2_firstBest_11 (lv_at hl 0 rfl) ?_
  refine kx_iSi (pc := 13) [.ref (ad x1), .int (x3 &&& (((1 : Int32) <<< (x4 &&& 31)) ^^^ (-1 : Int32)))] hx hb hml hown hts hK hP hD hS (q2_mayLeave h) (cw2_48 hts ⟨Nat.le_of_ble_eq_true rfl, Nat.le_of_ble_eq_true rfl⟩) rfl hl.1 rfl (Nat.le_of_ble_eq_true rfl) ⟨Nat.le_of_ble_eq_true rfl, Nat.le_of_ble_eq_true rfl⟩ dX2_firstBest_13 (fun r1 u_ H locs hP hD hS h => ?_)
  obtain ⟨hu_, h⟩ := h
  rw [hu_] at hP hD
  refine lv_if_eq (pc := 16) (tgt := 36) hx hb dX2_firstBest_16 (by decide) (fun c2 => ?_) (fun c2 => ?_)
  · have h := h.1 c2
    refine lv_iload (pc := 36) hx hb dX2_firstBest_36 (lv_at hl 5 rfl) ?_
    refine lv_iconst (pc := 38) (v := (1 : Int32)) hx hb dX2_firstBest_38 (by decide) ?_
    refine lv_iadd (pc := 39) hx hb dX2_firstBest_39 ?_
    refine lv_istore (pc := 40) (lv' := [(6, .int (x4 + (1 : Int32))), (5, .int (x3 &&& (((1 : Int32) <<< (x4 &&& 31)) ^^^ (-1 : Int32)))), (0, .ref (ad x0)), (1, .ref (ad x1)), (2, .int x2), (3, .int x3), (4, .int x4)]) hx hb dX2_firstBest_40 hl (by decide) rfl (fun ls hl => ?_)
    obtain ⟨n0, h⟩ := h
    exact w2_firstBest_L42 cx  n0 _ _ _ _ _ _ _ _ _ _ hk_x0 hk_x1 h hP hD hS (lv_sub hl [2, 3, 4, 5, 6, 1, 0] rfl)
  · have h := h.2 c2
    refine lv_aload_n (pc := 19) hx hb dX2_firstBest_19 rfl (lv_at hl 1 rfl) ?_
    refine lv_iload_n (pc := 20) hx hb dX2_firstBest_20 rfl (lv_at hl 4 rfl) ?_
    refine kx_iVi (pc := 21) [.int x3] hx hb hml hown hts hK hP hD hS (q2_worth h) (cw2_52 hts ⟨Nat.le_of_ble_eq_true rfl, Nat.le_of_ble_eq_true rfl⟩) hk_x0 (by decide) rfl rfl hl.1 rfl (Nat.le_of_ble_eq_true rfl) ⟨Nat.le_of_ble_eq_true rfl, Nat.le_of_ble_eq_true rfl⟩ dX2_firstBest_21 (fun r3 u_ H locs hP hD hS h => ?_)
    obtain ⟨hu_, h⟩ := h
    rw [hu_] at hP hD
    refine lv_aload_n (pc := 24) hx hb dX2_firstBest_24 rfl (lv_at hl 1 rfl) ?_
    refine lv_iload (pc := 25) hx hb dX2_firstBest_25 (lv_at hl 0 rfl) ?_
    refine kx_iVi (pc := 27) [.int (x3 &&& (((1 : Int32) <<< (x4 &&& 31)) ^^^ (-1 : Int32)))] hx hb hml hown hts hK hP hD hS (q2_worth h) (cw2_52 hts ⟨Nat.le_of_ble_eq_true rfl, Nat.le_of_ble_eq_true rfl⟩) hk_x0 (by decide) rfl rfl hl.1 rfl (Nat.le_of_ble_eq_true rfl) ⟨Nat.le_of_ble_eq_true rfl, Nat.le_of_ble_eq_true rfl⟩ dX2_firstBest_27 (fun r4 u_ H locs hP hD hS h => ?_)
    obtain ⟨hu_, h⟩ := h
    rw [hu_] at hP hD
    refine lv_icmp_ne (pc := 30) (tgt := 36) hx hb dX2_firstBest_30 (by decide) (fun c5 => ?_) (fun c5 => ?_)
    · have h := h.1 c5
      refine lv_iload (pc := 36) hx hb dX2_firstBest_36 (lv_at hl 5 rfl) ?_
      refine lv_iconst (pc := 38) (v := (1 : Int32)) hx hb dX2_firstBest_38 (by decide) ?_
      refine lv_iadd (pc := 39) hx hb dX2_firstBest_39 ?_
      refine lv_istore (pc := 40) (lv' := [(6, .int (x4 + (1 : Int32))), (5, .int (x3 &&& (((1 : Int32) <<< (x4 &&& 31)) ^^^ (-1 : Int32)))), (0, .ref (ad x0)), (1, .ref (ad x1)), (2, .int x2), (3, .int x3), (4, .int x4)]) hx hb dX2_firstBest_40 hl (by decide) rfl (fun ls hl => ?_)
      obtain ⟨n0, h⟩ := h
      exact w2_firstBest_L42 cx  n0 _ _ _ _ _ _ _ _ _ _ hk_x0 hk_x1 h hP hD hS (lv_sub hl [2, 3, 4, 5, 6, 1, 0] rfl)
    · have h := h.2 c5
      refine lv_bipush (pc := 33) (v := (-9 : Int32)) hx hb dX2_firstBest_33 (by decide) ?_
      exact kx_iret (pc := 35) hx hb hr hlocks hK hP hD hS ⟨rfl, h⟩ dX2_firstBest_35
def p2_tellFirst_L16 : Nat → kx_St → Nat → Nat → Int32 → Nat → Int32 → Int32 → (kx_St → Prop) → Prop
  | 0, _, _, _, _, _, _, _, _ => False
  | n + 1, σ, x0, x1, x2, x3, x4, x5, Q => ((σ.1 x1 3) ≤ x5 → Q σ) ∧ (¬ (σ.1 x1 3) ≤ x5 → (¬ ((x4 >>> (x5 &&& 31)) &&& (1 : Int32)) = (1 : Int32) → p2_firstBest σ x0 x1 x2 (x4 ||| ((1 : Int32) <<< (x5 &&& 31))) x5 (fun r3 => (r3 = (-9 : Int32) → p2_tellFirst_L16 n σ x0 x1 x2 x3 (x4 ||| ((1 : Int32) <<< (x5 &&& 31))) (x5 + (1 : Int32)) Q) ∧ (¬ r3 = (-9 : Int32) → p5_set σ x3 x5 r3 (fun σ6 => p5_set σ6 x3 r3 x5 (fun σ8 => p2_tellFirst_L16 n σ8 x0 x1 x2 x3 ((x4 ||| ((1 : Int32) <<< (x5 &&& 31))) ||| ((1 : Int32) <<< (r3 &&& 31))) (x5 + (1 : Int32)) Q))))) ∧ (((x4 >>> (x5 &&& 31)) &&& (1 : Int32)) = (1 : Int32) → p2_tellFirst_L16 n σ x0 x1 x2 x3 x4 (x5 + (1 : Int32)) Q))
set_option maxHeartbeats 4000000 in
theorem w2_tellFirst_L16  {Q : kx_St → Prop} (cx : kx_Cx p s m args meth c D cy RX2 cX2_tellFirst 7 none)  : ∀ (n : Nat) (σ : kx_St) (x0 : Nat) (x1 : Nat) (x2 : Int32) (x3 : Nat) (x4 : Int32) (x5 : Int32) (H : Heap) (locs : List Loc) (ls : Array Slot), kx_k 0 x0 = 2 → kx_k 0 x1 = 3 → kx_k 0 x3 = 5 → p2_tellFirst_L16 n σ x0 x1 x2 x3 x4 x5 Q → va_P D vwCl (kx_ws cy 0 ad σ) H → va_D A (kx_ws cy 0 ad σ) → va_S A s.heap H locs → lv_has ls 7 [(0, .ref (ad x0)), (1, .ref (ad x1)), (2, .int x2), (3, .ref (ad x3)), (4, .int x4), (5, .int x5)] → W p l e rm2_tellFirst s m args below meth c H locs 0 0 (MQ below (kx_Qc kx_cv (fun u _ => Q u) (kx_Wd D cy 0 ad A) A) args s 0 0 A) (F0 m 16 ls []) := by
  obtain ⟨hx, hb, hr, hlocks, hml, hown, hts, hK⟩ := id cx
  intro n
  induction n with
  | zero => intro _ _ _ _ _ _ _ _ _ _ _ _ _ h; exact False.elim h
  | succ n ih =>
    intro σ x0 x1 x2 x3 x4 x5 H locs ls hk_x0 hk_x1 hk_x3 h hP hD hS hl
    refine lv_iload (pc := 16) hx hb dX2_tellFirst_16 (lv_at hl 5 rfl) ?_
    refine lv_aload_n (pc := 18) hx hb dX2_tellFirst_18 rfl (lv_at hl 1 rfl) ?_
    refine fg2_15 (pc := 19) hx hb hown hts hK hP hk_x1 dX2_tellFirst_19 ?_
    refine lv_icmp_ge (pc := 22) (tgt := 98) hx hb dX2_tellFirst_22 (by decide) (fun c1 => ?_) (fun c1 => ?_)
    · have h := h.1 c1
      exact kx_vret (pc := 98) hx hb hr hlocks hK hP hD hS h dX2_tellFirst_98
    · have h := h.2 c1
      refine lv_iload (pc := 25) hx hb dX2_tellFirst_25 (lv_at hl 4 rfl) ?_
      refine lv_iload (pc := 27) hx hb dX2_tellFirst_27 (lv_at hl 5 rfl) ?_
      refine lv_ishr (pc := 29) hx hb dX2_tellFirst_29 ?_
      refine lv_iconst (pc := 30) (v := (1 : Int32)) hx hb dX2_tellFirst_30 (by decide) ?_
      refine lv_iand (pc := 31) hx hb dX2_tellFirst_31 ?_
      refine lv_iconst (pc := 32) (v := (1 : Int32)) hx hb dX2_tellFirst_32 (by decide) ?_
      refine lv_icmp_ne (pc := 33) (tgt := 39) hx hb dX2_tellFirst_33 (by decide) (fun c2 => ?_) (fun c2 => ?_)
      · have h := h.1 c2
        refine lv_iload (pc := 39) hx hb dX2_tellFirst_39 (lv_at hl 4 rfl) ?_
        refine lv_iconst (pc := 41) (v := (1 : Int32)) hx hb dX2_tellFirst_41 (by decide) ?_
        refine lv_iload (pc := 42) hx hb dX2_tellFirst_42 (lv_at hl 5 rfl) ?_
        refine lv_ishl (pc := 44) hx hb dX2_tellFirst_44 ?_
        refine lv_ior (pc := 45) hx hb dX2_tellFirst_45 ?_
        refine lv_istore (pc := 46) (lv' := [(4, .int (x4 ||| ((1 : Int32) <<< (x5 &&& 31)))), (0, .ref (ad x0)), (1, .ref (ad x1)), (2, .int x2), (3, .ref (ad x3)), (5, .int x5)]) hx hb dX2_tellFirst_46 hl (by decide) rfl (fun ls hl => ?_)
        refine lv_aload_n (pc := 48) hx hb dX2_tellFirst_48 rfl (lv_at hl 1 rfl) ?_
        refine lv_aload_n (pc := 49) hx hb dX2_tellFirst_49 rfl (lv_at hl 2 rfl) ?_
        refine lv_iload_n (pc := 50) hx hb dX2_tellFirst_50 rfl (lv_at hl 3 rfl) ?_
        refine lv_iload (pc := 51) hx hb dX2_tellFirst_51 (lv_at hl 0 rfl) ?_
        refine lv_iload (pc := 53) hx hb dX2_tellFirst_53 (lv_at hl 5 rfl) ?_
        refine kx_iVi (pc := 55) [.ref (ad x1), .int x2, .int (x4 ||| ((1 : Int32) <<< (x5 &&& 31))), .int x5] hx hb hml hown hts hK hP hD hS (q2_firstBest h) (cw2_37 hts ⟨Nat.le_of_ble_eq_true rfl, Nat.le_of_ble_eq_true rfl⟩) hk_x0 (by decide) rfl rfl hl.1 rfl (Nat.le_of_ble_eq_true rfl) ⟨Nat.le_of_ble_eq_true rfl, Nat.le_of_ble_eq_true rfl⟩ dX2_tellFirst_55 (fun r3 u_ H locs hP hD hS h => ?_)
        obtain ⟨hu_, h⟩ := h
        rw [hu_] at hP hD
        refine lv_istore (pc := 58) (lv' := [(6, .int r3), (4, .int (x4 ||| ((1 : Int32) <<< (x5 &&& 31)))), (0, .ref (ad x0)), (1, .ref (ad x1)), (2, .int x2), (3, .ref (ad x3)), (5, .int x5)]) hx hb dX2_tellFirst_58 hl (by decide) rfl (fun ls hl => ?_)
        refine lv_iload (pc := 60) hx hb dX2_tellFirst_60 (lv_at hl 0 rfl) ?_
        refine lv_bipush (pc := 62) (v := (-9 : Int32)) hx hb dX2_tellFirst_62 (by decide) ?_
        refine lv_icmp_eq (pc := 64) (tgt := 92) hx hb dX2_tellFirst_64 (by decide) (fun c4 => ?_) (fun c4 => ?_)
        · have h := h.1 c4
          refine lv_iinc (pc := 92) (v := (x5 + (1 : Int32))) (lv' := [(5, .int (x5 + (1 : Int32))), (6, .int r3), (4, .int (x4 ||| ((1 : Int32) <<< (x5 &&& 31)))), (0, .ref (ad x0)), (1, .ref (ad x1)), (2, .int x2), (3, .ref (ad x3))]) hx hb dX2_tellFirst_92 hl (k := 6) rfl rfl (by decide) rfl (fun ls hl => ?_)
          refine lv_goto (pc := 95) (tgt := 16) hx hb dX2_tellFirst_95 (by decide) ?_
          exact ih _ _ _ _ _ _ _ _ _ _ hk_x0 hk_x1 hk_x3 h hP hD hS (lv_sub hl [3, 4, 5, 6, 2, 0] rfl)
        · have h := h.2 c4
          refine lv_aload_n (pc := 67) hx hb dX2_tellFirst_67 rfl (lv_at hl 5 rfl) ?_
          refine lv_iload (pc := 68) hx hb dX2_tellFirst_68 (lv_at hl 6 rfl) ?_
          refine lv_iload (pc := 70) hx hb dX2_tellFirst_70 (lv_at hl 0 rfl) ?_
          refine kx_iVv (pc := 72) [.int x5, .int r3] hx hb hml hown hts hK hP hD hS (q5_set h) (cw2_41 hts ⟨Nat.le_of_ble_eq_true rfl, Nat.le_of_ble_eq_true rfl⟩) hk_x3 (by decide) rfl rfl hl.1 rfl (Nat.le_of_ble_eq_true rfl) ⟨Nat.le_of_ble_eq_true rfl, Nat.le_of_ble_eq_true rfl⟩ dX2_tellFirst_72 (fun _ σ6 H locs hP hD hS h => ?_)
          refine lv_aload_n (pc := 75) hx hb dX2_tellFirst_75 rfl (lv_at hl 5 rfl) ?_
          refine lv_iload (pc := 76) hx hb dX2_tellFirst_76 (lv_at hl 0 rfl) ?_
          refine lv_iload (pc := 78) hx hb dX2_tellFirst_78 (lv_at hl 6 rfl) ?_
          refine kx_iVv (pc := 80) [.int r3, .int x5] hx hb hml hown hts hK hP hD hS (q5_set h) (cw2_41 hts ⟨Nat.le_of_ble_eq_true rfl, Nat.le_of_ble_eq_true rfl⟩) hk_x3 (by decide) rfl rfl hl.1 rfl (Nat.le_of_ble_eq_true rfl) ⟨Nat.le_of_ble_eq_true rfl, Nat.le_of_ble_eq_true rfl⟩ dX2_tellFirst_80 (fun _ σ8 H locs hP hD hS h => ?_)
          refine lv_iload (pc := 83) hx hb dX2_tellFirst_83 (lv_at hl 1 rfl) ?_
          refine lv_iconst (pc := 85) (v := (1 : Int32)) hx hb dX2_tellFirst_85 (by decide) ?_
          refine lv_iload (pc := 86) hx hb dX2_tellFirst_86 (lv_at hl 0 rfl) ?_
          refine lv_ishl (pc := 88) hx hb dX2_tellFirst_88 ?_
          refine lv_ior (pc := 89) hx hb dX2_tellFirst_89 ?_
          refine lv_istore (pc := 90) (lv' := [(4, .int ((x4 ||| ((1 : Int32) <<< (x5 &&& 31))) ||| ((1 : Int32) <<< (r3 &&& 31)))), (6, .int r3), (0, .ref (ad x0)), (1, .ref (ad x1)), (2, .int x2), (3, .ref (ad x3)), (5, .int x5)]) hx hb dX2_tellFirst_90 hl (by decide) rfl (fun ls hl => ?_)
          refine lv_iinc (pc := 92) (v := (x5 + (1 : Int32))) (lv' := [(5, .int (x5 + (1 : Int32))), (4, .int ((x4 ||| ((1 : Int32) <<< (x5 &&& 31))) ||| ((1 : Int32) <<< (r3 &&& 31)))), (6, .int r3), (0, .ref (ad x0)), (1, .ref (ad x1)), (2, .int x2), (3, .ref (ad x3))]) hx hb dX2_tellFirst_92 hl (k := 6) rfl rfl (by decide) rfl (fun ls hl => ?_)
          refine lv_goto (pc := 95) (tgt := 16) hx hb dX2_tellFirst_95 (by decide) ?_
          exact ih _ _ _ _ _ _ _ _ _ _ hk_x0 hk_x1 hk_x3 h hP hD hS (lv_sub hl [3, 4, 5, 6, 1, 0] rfl)
      · have h := h.2 c2
        refine lv_goto (pc := 36) (tgt := 92) hx hb dX2_tellFirst_36 (by decide) ?_
        refine lv_iinc (pc := 92) (v := (x5 + (1 : Int32))) (lv' := [(5, .int (x5 + (1 : Int32))), (0, .ref (ad x0)), (1, .ref (ad x1)), (2, .int x2), (3, .ref (ad x3)), (4, .int x4)]) hx hb dX2_tellFirst_92 hl (k := 5) rfl rfl (by decide) rfl (fun ls hl => ?_)
        refine lv_goto (pc := 95) (tgt := 16) hx hb dX2_tellFirst_95 (by decide) ?_
        exact ih _ _ _ _ _ _ _ _ _ _ hk_x0 hk_x1 hk_x3 h hP hD hS (lv_sub hl [1, 2, 3, 4, 5, 0] rfl)
def p2_tellFirst (σ : kx_St) (x0 : Nat) (x1 : Nat) (x2 : Int32) (x3 : Nat) (Q : kx_St → Prop) : Prop := kx_k 0 x0 = 2 ∧ (kx_k 0 x1 = 3 ∧ (kx_k 0 x3 = 5 ∧ (p5_begin σ x3 (σ.1 x1 3) (-9 : Int32) (fun σ2 => ∃ m16, p2_tellFirst_L16 m16 σ2 x0 x1 x2 x3 (0 : Int32) (0 : Int32) Q))))
set_option maxHeartbeats 4000000 in
theorem q2_tellFirst {σ : kx_St} {x0 : Nat} {x1 : Nat} {x2 : Int32} {x3 : Nat} {Q : kx_St → Prop} (h : p2_tellFirst σ x0 x1 x2 x3 Q) : Met l yX2_tellFirst (Cond.code yX2_tellFirst cX2_tellFirst 7 none :: kx_big) rm2_tellFirst (va_Pc [.ref (ad x0), .ref (ad x1), .int x2, .ref (ad x3)] (kx_Wd D cy 0 ad A σ)) (kx_Qc kx_cv (fun u _ => Q u) (kx_Wd D cy 0 ad A) A) 0 0 A := by
  refine kx_head (plainFor_of_name (by decide)) (Nat.le_of_ble_eq_true rfl) ?_
  intro p e s m below meth c ls cx hP hD hS hl
  obtain ⟨hx, hb, hr, hlocks, hml, hown, hts, hK⟩ := id cx
  obtain ⟨hk_x0, h⟩ := h
  obtain ⟨hk_x1, h⟩ := h
  obtain ⟨hk_x3, h⟩ := h
  have hl : lv_has ls 7 [(0, .ref (ad x0)), (1, .ref (ad x1)), (2, .int x2), (3, .ref (ad x3))] := hl
  refine lv_aload_n (pc := 0) hx hb dX2_tellFirst_0 rfl (lv_at hl 3 rfl) ?_
  refine lv_aload_n (pc := 1) hx hb dX2_tellFirst_1 rfl (lv_at hl 1 rfl) ?_
  refine fg2_15 (pc := 2) hx hb hown hts hK hP hk_x1 dX2_tellFirst_2 ?_
  refine lv_bipush (pc := 5) (v := (-9 : Int32)) hx hb dX2_tellFirst_5 (by decide) ?_
  refine kx_iVv (pc := 7) [.int (σ.1 x1 3), .int (-9 : Int32)] hx hb hml hown hts hK hP hD hS (q5_begin h) (cw2_31 hts ⟨Nat.le_of_ble_eq_true rfl, Nat.le_of_ble_eq_true rfl⟩) hk_x3 (by decide) rfl rfl hl.1 rfl (Nat.le_of_ble_eq_true rfl) ⟨Nat.le_of_ble_eq_true rfl, Nat.le_of_ble_eq_true rfl⟩ dX2_tellFirst_7 (fun _ σ2 H locs hP hD hS h => ?_)
  refine lv_iconst (pc := 10) (v := (0 : Int32)) hx hb dX2_tellFirst_10 (by decide) ?_
  refine lv_istore (pc := 11) (lv' := [(4, .int (0 : Int32)), (0, .ref (ad x0)), (1, .ref (ad x1)), (2, .int x2), (3, .ref (ad x3))]) hx hb dX2_tellFirst_11 hl (by decide) rfl (fun ls hl => ?_)
  refine lv_iconst (pc := 13) (v := (0 : Int32)) hx hb dX2_tellFirst_13 (by decide) ?_
  refine lv_istore (pc := 14) (lv' := [(5, .int (0 : Int32)), (4, .int (0 : Int32)), (0, .ref (ad x0)), (1, .ref (ad x1)), (2, .int x2), (3, .ref (ad x3))]) hx hb dX2_tellFirst_14 hl (by decide) rfl (fun ls hl => ?_)
  obtain ⟨n0, h⟩ := h
  exact w2_tellFirst_L16 cx  n0 _ _ _ _ _ _ _ _ _ _ hk_x0 hk_x1 hk_x3 h hP hD hS (lv_sub hl [2, 3, 4, 5, 1, 0] rfl)
end
