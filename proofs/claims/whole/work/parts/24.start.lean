/-! from the law's entry: the two constructors, then the loop -/
set_option maxHeartbeats 16000000 in
set_option maxRecDepth 100000 in
theorem whole_start {p : Program} {e : Env} {s : State} {m : MethodId} {below : List Frame} {meth : Method} {c : Code} (l : Launch) (hflags : l.flags = flags0) {b L : Nat} {xs : Nat → Int32} (hL : L ≤ 3072) (C0 : lw_At p s m meth c b L xs) : W p l e room_1 s m #[Value.ref b] below meth c s.heap [] 0 0 (lw_Z below #[Value.ref b] s) (entryFrame m ([Value.ref b] : List Value).toArray 4) := by
  obtain ⟨hx, hb, hr, hml, hown, hts0, hX0, hbl, hlocks, hgv⟩ := id C0
  have hts : ∀ w ∈ kx_big, w.before #[Value.ref b] s = true := fun w hw => hts0 w (List.mem_filter.mp hw).1
  have tw : ∀ {i : Nat} {w : Cond}, tables_1[i]? = some w → w.before #[Value.ref b] s = true := fun h => hts0 _ (List.mem_append_right _ (List.mem_of_getElem? h))
  obtain ⟨c0, i0, k0⟩ := u_known (C := RX0) (T := TX0) (N := 3) (n := 3) hts inb0 (hts _ tb_116)
  obtain ⟨c1, i1, k1⟩ := u_known (C := RX1) (T := TX1) (N := 6) (n := 6) hts inb1 (hts _ tb_31)
  obtain ⟨c2, i2, k2⟩ := u_known (C := RX2) (T := TX2) (N := 1) (n := 1) hts inb2 (hts _ tb_134)
  obtain ⟨c3, i3, k3⟩ := u_known (C := RX3) (T := TX3) (N := 8) (n := 8) hts inb3 (hts _ tb_24)
  obtain ⟨c4, i4, k4⟩ := u_known (C := RX4) (T := TX4) (N := 1) (n := 1) hts inb4 (hts _ tb_106)
  obtain ⟨c5, i5, k5⟩ := u_known (C := RX5) (T := TX5) (N := 2) (n := 2) hts inb5 (hts _ tb_143)
  obtain ⟨c6, i6, k6⟩ := u_known (C := RX6) (T := TX6) (N := 13) (n := 13) hts inb6 (hts _ tb_13)
  obtain ⟨c7, i7, k7⟩ := u_known (C := RX7) (T := TX7) (N := 29) (n := 29) hts inb7 (hts _ tb_716)
  obtain ⟨D, hKc⟩ : ∃ D : va_G, ∀ (k : Nat) (q : vw_C), vwCl[k]? = some q → u_Kn s q.1 q.2.1 q.2.2 (D.1 k) (D.2 k) := by
    refine ⟨(fun k => if k = 0 then c0 else if k = 1 then c1 else if k = 2 then c2 else if k = 3 then c3 else if k = 4 then c4 else if k = 5 then c5 else if k = 6 then c6 else c7, fun k => if k = 0 then i0 else if k = 1 then i1 else if k = 2 then i2 else if k = 3 then i3 else if k = 4 then i4 else if k = 5 then i5 else if k = 6 then i6 else i7), ?_⟩
    intro k q hq
    match k, hq with
    | 0, hq => cases hq; exact k0
    | 1, hq => cases hq; exact k1
    | 2, hq => cases hq; exact k2
    | 3, hq => cases hq; exact k3
    | 4, hq => cases hq; exact k4
    | 5, hq => cases hq; exact k5
    | 6, hq => cases hq; exact k6
    | 7, hq => cases hq; exact k7
    | k + 8, hq => simp [vwCl] at hq
  have t9 : (Cond.arrayOver (.object "KiteTaxes$Kite")).before #[Value.ref b] s = true := tw (i := 30) (by decide +kernel)
  have t10 : (Cond.arrayOver (.object "KiteTaxes$Parish")).before #[Value.ref b] s = true := tw (i := 23) (by decide +kernel)
  have t11 : (Cond.arrayOver (.object "KiteTaxes$Row")).before #[Value.ref b] s = true := tw (i := 21) (by decide +kernel)
  have t12 : (Cond.arrayOver (.array .int)).before #[Value.ref b] s = true := tw (i := 122) (by decide +kernel)
  obtain ⟨a8, b8, p8, f8, g8, h8⟩ := Cond.arrayClass_spec (hts _ tb_67)
  obtain ⟨p9, a9, b9, x9, _, z9, u9, v9⟩ := Cond.arrayOver_spec t9
  obtain ⟨p10, a10, b10, x10, _, z10, u10, v10⟩ := Cond.arrayOver_spec t10
  obtain ⟨p11, a11, b11, x11, _, z11, u11, v11⟩ := Cond.arrayOver_spec t11
  obtain ⟨p12, a12, b12, x12, _, z12, u12, v12⟩ := Jvm.Stand.arrayOver_specB t12
  obtain ⟨cy, y8, y9, y10, y11, y12⟩ : ∃ cy : Nat → ClassId, cy 8 = a8 ∧ cy 9 = a9 ∧ cy 10 = a10 ∧ cy 11 = a11 ∧ cy 12 = a12 := ⟨fun k => if k = 8 then a8 else if k = 9 then a9 else if k = 10 then a10 else if k = 11 then a11 else a12, rfl, rfl, rfl, rfl, rfl⟩
  have hK : va_K D vwCl (kx_tys cy) s := by
    refine ⟨hKc, fun k q hq => ?_⟩
    match k, hq with
    | 0, hq => cases hq; rw [y8]; exact ⟨fun N z => ⟨(fun q h => by cases h), b8, g8, p8, h8⟩, f8⟩
    | 1, hq => cases hq; rw [y9]; exact ⟨fun N z => ⟨(fun q h => by cases h), b9, z9, p9, u9⟩, b9, p9, z9, u9, x9, v9⟩
    | 2, hq => cases hq; rw [y10]; exact ⟨fun N z => ⟨(fun q h => by cases h), b10, z10, p10, u10⟩, b10, p10, z10, u10, x10, v10⟩
    | 3, hq => cases hq; rw [y11]; exact ⟨fun N z => ⟨(fun q h => by cases h), b11, z11, p11, u11⟩, b11, p11, z11, u11, x11, v11⟩
    | 4, hq => cases hq; rw [y12]; exact ⟨fun N z => ⟨(fun q h => by cases h), b12, z12, p12, u12⟩, v12⟩
    | k + 5, hq => simp [kx_tys] at hq
  have hX : kc_X s := ⟨⟨va_Nw.of rfl (tw (i := 32) (w := .methodLinkNest RX3 24 yX1_init "KiteTaxes") (by decide +kernel)), va_Nw.of rfl (tw (i := 107) (w := .methodLinkNest RX6 34 yX4_init "KiteTaxes") (by decide +kernel)), va_Nw.of rfl (tw (i := 117) (w := .methodLinkNest RX6 41 yX0_init "KiteTaxes") (by decide +kernel)), va_Nw.of rfl (tw (i := 135) (w := .methodLinkNest RX6 48 yX2_init "KiteTaxes") (by decide +kernel))⟩, va_AO.of t9, va_AO.of t10, va_AO.of t11, Jvm.Stand.arrayOver_alikeB (Vm.Alike.refl s.vm) t12⟩
  have hA : ∀ q : Nat, s.heap.size ≤ q → (fun q : Nat => s.heap.size ≤ q) q := fun _ h => h
  have hS : va_S (fun q : Nat => s.heap.size ≤ q) s.heap s.heap [] := va_S.rf
  have hP : va_P D vwCl [] s.heap := fun k q h => by simp at h
  have hD : va_D (fun q : Nat => s.heap.size ≤ q) [] := ⟨fun i j p q h => by simp at h, fun k q h => by simp at h⟩
  have hl := lv_entry ([.ref b]) (n := 4) (Nat.le_of_ble_eq_true rfl)
  rw [lg_entry_eq]
  generalize (lg_sl ([.ref b]) ++ List.replicate (4 - (lg_sl ([.ref b])).length) Slot.unset).toArray = ls at hl ⊢
  have hl : lv_has ls 4 [(0, .ref b)] := hl
  refine va_new (pc := 0) (ci := 6) (fs := [.null, .null, .null, .null, .null, .null, .null, .null, .null, .int 0, .int 0, .long 0, .long 0]) (C := RX6) (T := TX6) (N := 13) hx hb hts inb6 tyX6 tyX6_ok hown (hts _ tb_12) (hts _ tb_13) (hts _ tb_1) hK hP hD hS hA rfl (kc_def6) (Nat.le_of_ble_eq_true rfl) (Nat.le_of_ble_eq_true rfl) dL_law_0 (fun q0 H hP hD hS => ?_)
  have hP : va_P D vwCl [(q0, .inr (6, [.null, .null, .null, .null, .null, .null, .null, .null, .null, .int 0, .int 0, .long 0, .long 0]))] H := hP
  have hD : va_D (fun q : Nat => s.heap.size ≤ q) [(q0, .inr (6, [.null, .null, .null, .null, .null, .null, .null, .null, .null, .int 0, .int 0, .long 0, .long 0]))] := hD
  refine lv_dup (pc := 3) hx hb dL_law_3 rfl ?_
  have hPc := hP.sub (ws' := [(q0, .inr (6, [.null, .null, .null, .null, .null, .null, .null, .null, .null, .int 0, .int 0, .long 0, .long 0]))]) [0] rfl
  have hDc := hD.sub (ws' := [(q0, .inr (6, [.null, .null, .null, .null, .null, .null, .null, .null, .null, .int 0, .int 0, .long 0, .long 0]))]) [0] (by decide) rfl
  have hFc := va_free (wc := [(q0, .inr (6, [.null, .null, .null, .null, .null, .null, .null, .null, .null, .int 0, .int 0, .long 0, .long 0]))]) hD hS hA [0] rfl
  refine va_callv (va_runI (As := []) (rest := [.ref q0]) ⟨hx, hb, hml, hown, hts⟩ (n6_init l D cy q0 H.size) (cwI 0 hts (kx_gd0 (kc_mI tb_16)) rfl rfl rfl (hts _ tb_1) (hts _ tb_14) (hts _ tb_15) rfl (by decide +kernel) ⟨(Nat.le_of_ble_eq_true rfl), (Nat.le_of_ble_eq_true rfl)⟩) ⟨kc_blind, fun U hU hW => ⟨rfl, by rw [hU], by rw [hU]; exact hPc, va_K.moved hW.alike hK, hDc.weaken (fun _ _ _ _ => trivial), hX.warm hW⟩⟩ rfl rfl hl.1 rfl (lv_room (Nat.le_of_ble_eq_true rfl)) dL_law_4 ⟨(Nat.le_of_ble_eq_true rfl), (Nat.le_of_ble_eq_true rfl)⟩) hS (fun q _ h => hFc q h) hFc (fun u t H1 locs ht hvm hw hB hz1 hk1 hS => ?_)
  obtain ⟨hP1, hK1, hD1⟩ := hB
  rw [ht] at hP1
  have hw : u 0 = q0 := hw
  have low1 : ∀ (k : Nat) (q : Nat × va_E), (kx_ws cy 0 u kx_s0)[k]? = some q → s.heap.size ≤ q.1 := fun k q hq => hFc _ (hD1.2 k q hq)
  refine lv_astore_n (pc := 7) (lv' := [(1, .ref q0), (0, .ref b)]) hx hb dL_law_7 rfl hl (by decide) rfl (fun ls hl => ?_)
  refine va_forget (fun q hq => hS.2.2 q hq) ?_
  have hA2 : ∀ q : Nat, H1.size ≤ q → (fun q : Nat => H1.size ≤ q) q := fun _ h => h
  have hP2 : va_P D vwCl [] H1 := fun k q h => by simp at h
  have hD2 : va_D (fun q : Nat => H1.size ≤ q) [] := ⟨fun i j p q h => by simp at h, fun k q h => by simp at h⟩
  have hS2 : va_S (fun q : Nat => H1.size ≤ q) H1 H1 [] := va_S.rf
  refine va_new (pc := 8) (ci := 7) (fs := [.null, .null, .int 0, .int 0, .null, .null, .null, .null, .null, .null, .null, .int 0, .long 0, .long 0, .int 0, .null, .int 0, .int 0, .int 0, .null, .int 0, .null, .int 0, .null, .null, .null, .null, .null, .null]) (C := RX7) (T := TX7) (N := 29) hx hb hts inb7 tyX7 tyX7_ok hown (hts _ tb_715) (hts _ tb_716) (hts _ tb_9) hK hP2 hD2 hS2 hA2 rfl (kc_def7) (Nat.le_of_ble_eq_true rfl) (Nat.le_of_ble_eq_true rfl) dL_law_8 (fun q1 H2 hP3 hD3 hS3 => ?_)
  have hP3 : va_P D vwCl [(q1, .inr (7, [.null, .null, .int 0, .int 0, .null, .null, .null, .null, .null, .null, .null, .int 0, .long 0, .long 0, .int 0, .null, .int 0, .int 0, .int 0, .null, .int 0, .null, .int 0, .null, .null, .null, .null, .null, .null]))] H2 := hP3
  have hD3 : va_D (fun q : Nat => H1.size ≤ q) [(q1, .inr (7, [.null, .null, .int 0, .int 0, .null, .null, .null, .null, .null, .null, .null, .int 0, .long 0, .long 0, .int 0, .null, .int 0, .int 0, .int 0, .null, .int 0, .null, .int 0, .null, .null, .null, .null, .null, .null]))] := hD3
  refine lv_dup (pc := 11) hx hb dL_law_11 rfl ?_
  have hPc3 := hP3.sub (ws' := [(q1, .inr (7, [.null, .null, .int 0, .int 0, .null, .null, .null, .null, .null, .null, .null, .int 0, .long 0, .long 0, .int 0, .null, .int 0, .int 0, .int 0, .null, .int 0, .null, .int 0, .null, .null, .null, .null, .null, .null]))]) [0] rfl
  have hDc3 := hD3.sub (ws' := [(q1, .inr (7, [.null, .null, .int 0, .int 0, .null, .null, .null, .null, .null, .null, .null, .int 0, .long 0, .long 0, .int 0, .null, .int 0, .int 0, .int 0, .null, .int 0, .null, .int 0, .null, .null, .null, .null, .null, .null]))]) [0] (by decide) rfl
  have hFc3 := va_free (wc := [(q1, .inr (7, [.null, .null, .int 0, .int 0, .null, .null, .null, .null, .null, .null, .null, .int 0, .long 0, .long 0, .int 0, .null, .int 0, .int 0, .int 0, .null, .int 0, .null, .int 0, .null, .null, .null, .null, .null, .null]))]) hD3 hS3 hA2 [0] rfl
  refine va_callv (va_runI (As := []) (rest := [.ref q1]) ⟨hx, hb, hml, hown, hts⟩ (n7_init l D cy q1 H2.size) (cwI 0 hts (kx_gd0 (kc_mI tb_719)) rfl rfl rfl (hts _ tb_9) (hts _ tb_717) (hts _ tb_718) rfl (by decide +kernel) ⟨(Nat.le_of_ble_eq_true rfl), (Nat.le_of_ble_eq_true rfl)⟩) ⟨kc_blind, fun U hU hW => ⟨rfl, by rw [hU], by rw [hU]; exact hPc3, va_K.moved hW.alike hK, hDc3.weaken (fun _ _ _ _ => trivial), hX.warm hW⟩⟩ rfl rfl hl.1 rfl (lv_room (Nat.le_of_ble_eq_true rfl)) dL_law_12 ⟨(Nat.le_of_ble_eq_true rfl), (Nat.le_of_ble_eq_true rfl)⟩) hS3 (fun q _ h => hFc3 q h) hFc3 (fun v t2 H3 locs3 ht2 hvm2 hw2 hB2 hz2 hk2 hS4 => ?_)
  obtain ⟨hP4, hK4, hD4⟩ := hB2
  rw [ht2] at hP4
  have hw2 : v 0 = q1 := hw2
  refine lv_astore_n (pc := 15) (lv' := [(2, .ref q1), (1, .ref q0), (0, .ref b)]) hx hb dL_law_15 rfl hl (by decide) rfl (fun ls hl => ?_)
  refine va_forget (fun q hq => Nat.le_trans hS.1 (hS4.2.2 q hq)) ?_
  refine lv_iconst (pc := 16) (v := (0 : Int32)) hx hb dL_law_16 (by decide) ?_
  refine lv_istore_n (pc := 17) (lv' := [(3, .int (0 : Int32)), (2, .ref q1), (1, .ref q0), (0, .ref b)]) hx hb dL_law_17 rfl hl (by decide) rfl (fun ls hl => ?_)
  have hb1 : b < H1.size := Nat.lt_of_lt_of_le hbl hS.1
  have hW : lw_W D cy u v (fun q => s.heap.size ≤ q ∧ q < H1.size) (fun q => H1.size ≤ q) b L xs s kx_s0 kx_s1 H3 := by
    refine ⟨⟨hP1.kept (fun k x hx => hS4.2.1 x.1 ((hP1 k x hx).lt) (Nat.not_le.mpr ((hP1 k x hx).lt))), ⟨hD1.1, fun k q hq => ⟨low1 k q hq, (hP1 k q hq).lt⟩⟩, hP4, ⟨hD4.1, fun k q hq => hFc3 _ (hD4.2 k q hq)⟩⟩, ?_, fun q h1 h2 => absurd h1.2 (Nat.not_lt.mpr h2), fun q h => h.1, fun q h => Nat.le_trans hS.1 h, hbl, Nat.le_trans hS.1 hS4.1⟩
    exact (hX0.kept (hS.2.1 b hbl (Nat.not_le.mpr hbl))).kept (hS4.2.1 b hb1 (Nat.not_le.mpr hb1))
  have cx : kx_Cx p s m #[Value.ref b] meth c D cy RL code 4 ret := ⟨hx, hb, hr, hlocks, hml, hown, hts, hK⟩
  exact law_loop (P := kr_R) cx th_row th_lay th_at th_tear th_copy th_mean th_text th_put th_fault th_parish th_kite th_mark th_lifts th_pays th_fly th_rest th_tie th_cut th_undo th_keep th_on th_most th_school th_flown th_when th_cross th_crossed th_merge th_tails th_kinds th_test th_duel th_odds th_mid th_lots th_asked th_upper th_lower th_count th_finding th_findings th_digest hL ⟨by decide, by decide⟩ (L + 1) 0 kx_s0 kx_s1 H3 ls (Nat.zero_le L) (by omega) kr_begin hW (by rw [hw, hw2]; exact lv_sub hl [3, 2, 1, 0] rfl)
