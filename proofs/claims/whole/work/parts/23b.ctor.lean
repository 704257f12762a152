/-! the constructors: worlds as lists of cells -/
def kc_nw : List Cond := [.methodLinkNest RX3 24 yX1_init "KiteTaxes", .methodLinkNest RX6 34 yX4_init "KiteTaxes", .methodLinkNest RX6 41 yX0_init "KiteTaxes", .methodLinkNest RX6 48 yX2_init "KiteTaxes"]
def kc_X (U : State) : Prop := (va_Nw (.methodLinkNest RX3 24 yX1_init "KiteTaxes") U ∧ va_Nw (.methodLinkNest RX6 34 yX4_init "KiteTaxes") U ∧ va_Nw (.methodLinkNest RX6 41 yX0_init "KiteTaxes") U ∧ va_Nw (.methodLinkNest RX6 48 yX2_init "KiteTaxes") U) ∧ va_AO "KiteTaxes$Kite" U ∧ va_AO "KiteTaxes$Parish" U ∧ va_AO "KiteTaxes$Row" U ∧ va_AOA .int U
theorem kc_X.warm {s U : State} (hW : s.WarmedH U.vm) (h : kc_X s) : kc_X U := by
  obtain ⟨⟨h1, h2, h3, h4⟩, h5, h6, h7, h8⟩ := h
  refine ⟨⟨h1.warmM hW, h2.warmM hW, h3.warmM hW, h4.warmM hW⟩, h5.moved hW.alike, h6.moved hW.alike, h7.moved hW.alike, h8.moved hW.alike⟩
theorem kc_X.call {U : State} {g : JFrame} {mk : MethodId} {a : Array Value} (h : kc_X U) : kc_X (U.calling g mk a) := by
  obtain ⟨⟨h1, h2, h3, h4⟩, h5, h6, h7, h8⟩ := h
  exact ⟨⟨h1.same rfl rfl, h2.same rfl rfl, h3.same rfl rfl, h4.same rfl rfl⟩, h5.moved (Vm.Alike.refl U.vm), h6.moved (Vm.Alike.refl U.vm), h7.moved (Vm.Alike.refl U.vm), va_AOA.moved (Vm.Alike.refl U.vm) h8⟩
def kc_P (D : va_G) (cy : Nat → ClassId) (W0 : va_W) (sz : Nat) (U : State) : Prop := U.heap.size = sz ∧ va_P D vwCl W0 U.heap ∧ va_K D vwCl (kx_tys cy) U ∧ va_D (fun _ => True) W0 ∧ kc_X U
def kc_B (D : va_G) (cy : Nat → ClassId) (A : Nat → Prop) (Wf : (Nat → Nat) → va_W) (u : Nat → Nat) (t : State) : Prop := va_P D vwCl (Wf u) t.heap ∧ va_K D vwCl (kx_tys cy) t ∧ va_D A (Wf u)
theorem kc_blind {D : va_G} {cy : Nat → ClassId} {W0 : va_W} {sz : Nat} {av : List Value} : FrameBlind (va_Pc av (kc_P D cy W0 sz)) := fun _ U _ _ q => ⟨q.1, q.2.1, q.2.2.1, va_K.moved (Vm.Alike.refl U.vm) q.2.2.2.1, q.2.2.2.2.1, kc_X.call q.2.2.2.2.2⟩
theorem kc_cy {D : va_G} {cl : List vw_C} {tys tys' : List (ClassId × FieldType)} {s : State} {c1 c2 : ClassId} {ty : FieldType} {i j : Nat} (h1 : va_K D cl tys s) (h2 : va_K D cl tys' s) (e1 : tys[i]? = some (c1, ty)) (e2 : tys'[j]? = some (c2, ty)) : c1 = c2 := by
  have a := (h1.2 i _ e1).2
  have b := (h2.2 j _ e2).2
  cases ty with
  | object C =>
    obtain ⟨_, _, -, -, -, q1⟩ := a
    obtain ⟨_, _, -, -, -, q2⟩ := b
    exact Option.some.inj (q1.symm.trans q2)
  | _ => exact Option.some.inj (Eq.trans (Eq.symm a) b)
theorem kc_def0 : ∀ j, j < 3 → defaultValue (tyX0 j) = vp_V [.null, .null, .int 0] j := by
  intro j hj
  rcases (show j = 0 ∨ j = 1 ∨ j = 2 by omega) with rfl | rfl | rfl <;> rfl
theorem kc_def1 : ∀ j, j < 6 → defaultValue (tyX1 j) = vp_V [.int 0, .int 0, .int 0, .int 0, .int 0, .int 0] j := by
  intro j hj
  rcases (show j = 0 ∨ j = 1 ∨ j = 2 ∨ j = 3 ∨ j = 4 ∨ j = 5 by omega) with rfl | rfl | rfl | rfl | rfl | rfl <;> rfl
theorem kc_def2 : ∀ j, j < 1 → defaultValue (tyX2 j) = vp_V [.null] j := by
  intro j hj
  rcases (show j = 0 by omega) with rfl <;> rfl
theorem kc_def3 : ∀ j, j < 8 → defaultValue (tyX3 j) = vp_V [.null, .null, .null, .int 0, .int 0, .int 0, .int 0, .int 0] j := by
  intro j hj
  rcases (show j = 0 ∨ j = 1 ∨ j = 2 ∨ j = 3 ∨ j = 4 ∨ j = 5 ∨ j = 6 ∨ j = 7 by omega) with rfl | rfl | rfl | rfl | rfl | rfl | rfl | rfl <;> rfl
theorem kc_def4 : ∀ j, j < 1 → defaultValue (tyX4 j) = vp_V [.int 0] j := by
  intro j hj
  rcases (show j = 0 by omega) with rfl <;> rfl
theorem kc_def5 : ∀ j, j < 2 → defaultValue (tyX5 j) = vp_V [.null, .int 0] j := by
  intro j hj
  rcases (show j = 0 ∨ j = 1 by omega) with rfl | rfl <;> rfl
theorem kc_def6 : ∀ j, j < 13 → defaultValue (tyX6 j) = vp_V [.null, .null, .null, .null, .null, .null, .null, .null, .null, .int 0, .int 0, .long 0, .long 0] j := by
  intro j hj
  rcases (show j = 0 ∨ j = 1 ∨ j = 2 ∨ j = 3 ∨ j = 4 ∨ j = 5 ∨ j = 6 ∨ j = 7 ∨ j = 8 ∨ j = 9 ∨ j = 10 ∨ j = 11 ∨ j = 12 by omega) with rfl | rfl | rfl | rfl | rfl | rfl | rfl | rfl | rfl | rfl | rfl | rfl | rfl <;> rfl
theorem kc_def7 : ∀ j, j < 29 → defaultValue (tyX7 j) = vp_V [.null, .null, .int 0, .int 0, .null, .null, .null, .null, .null, .null, .null, .int 0, .long 0, .long 0, .int 0, .null, .int 0, .int 0, .int 0, .null, .int 0, .null, .int 0, .null, .null, .null, .null, .null, .null] j := by
  intro j hj
  rcases (show j = 0 ∨ j = 1 ∨ j = 2 ∨ j = 3 ∨ j = 4 ∨ j = 5 ∨ j = 6 ∨ j = 7 ∨ j = 8 ∨ j = 9 ∨ j = 10 ∨ j = 11 ∨ j = 12 ∨ j = 13 ∨ j = 14 ∨ j = 15 ∨ j = 16 ∨ j = 17 ∨ j = 18 ∨ j = 19 ∨ j = 20 ∨ j = 21 ∨ j = 22 ∨ j = 23 ∨ j = 24 ∨ j = 25 ∨ j = 26 ∨ j = 27 ∨ j = 28 by omega) with rfl | rfl | rfl | rfl | rfl | rfl | rfl | rfl | rfl | rfl | rfl | rfl | rfl | rfl | rfl | rfl | rfl | rfl | rfl | rfl | rfl | rfl | rfl | rfl | rfl | rfl | rfl | rfl | rfl <;> rfl
theorem kc_refP {D : va_G} {cl : List vw_C} {ws : va_W} {H : Heap} {i a n : Nat} {c : ClassId} {f g : Nat → Option Nat} (hP : va_P D cl ws H) (he : ws[i]? = some (a, .inl (c, n, .inr (.inr (.inr (.inr f)))))) (hfg : ∀ j, j < n → f j = g j) : va_P D cl (ws.set i (a, .inl (c, n, .inr (.inr (.inr (.inr g)))))) H := by
  have hl := (List.getElem?_eq_some_iff.mp he).1
  intro k q hk
  by_cases hki : k = i
  · subst hki
    rw [List.getElem?_set_self hl] at hk
    cases hk
    have h0 := hP k _ he
    show H[a]? = some (arrV c n (fun j => va_rf (g j)))
    have h1 : H[a]? = some (arrV c n (fun j => va_rf (f j))) := h0
    rw [h1]
    have : (Array.ofFn (n := n) fun j => va_rf (f j.val)) = (Array.ofFn (n := n) fun j => va_rf (g j.val)) := by
      congr 1
      funext j
      rw [hfg j.val j.isLt]
    unfold arrV
    rw [this]
  · rw [List.getElem?_set_ne (Ne.symm hki)] at hk
    exact hP k q hk
theorem kc_intP {D : va_G} {cl : List vw_C} {ws : va_W} {H : Heap} {i a n : Nat} {c : ClassId} {f g : Nat → Int32} (hP : va_P D cl ws H) (he : ws[i]? = some (a, .inl (c, n, .inl f))) (hfg : ∀ j, j < n → f j = g j) : va_P D cl (ws.set i (a, .inl (c, n, .inl g))) H := by
  have hl := (List.getElem?_eq_some_iff.mp he).1
  intro k q hk
  by_cases hki : k = i
  · subst hki
    rw [List.getElem?_set_self hl] at hk
    cases hk
    have h0 := hP k _ he
    show H[a]? = some (arrV c n (fun j => .int (g j)))
    have h1 : H[a]? = some (arrV c n (fun j => .int (f j))) := h0
    rw [h1]
    have : (Array.ofFn (n := n) fun j => Value.int (f j.val)) = (Array.ofFn (n := n) fun j => Value.int (g j.val)) := by
      congr 1
      funext j
      rw [hfg j.val j.isLt]
    unfold arrV
    rw [this]
  · rw [List.getElem?_set_ne (Ne.symm hki)] at hk
    exact hP k q hk
theorem kc_refD {A : Nat → Prop} {ws : va_W} {i a n : Nat} {c : ClassId} {f g : Nat → Option Nat} (hD : va_D A ws) (he : ws[i]? = some (a, .inl (c, n, .inr (.inr (.inr (.inr f)))))) : va_D A (ws.set i (a, .inl (c, n, .inr (.inr (.inr (.inr g)))))) := hD.set he
theorem kc_intD {A : Nat → Prop} {ws : va_W} {i a n : Nat} {c : ClassId} {f g : Nat → Int32} (hD : va_D A ws) (he : ws[i]? = some (a, .inl (c, n, .inl f))) : va_D A (ws.set i (a, .inl (c, n, .inl g))) := hD.set he
theorem kc_mI {k : Cond} (h5 : k ∈ kx_big) : ∀ w ∈ k :: kx_big, w ∈ kx_big := by
  intro w hw
  rcases List.mem_cons.mp hw with rfl | h
  · exact h5
  · exact h
def wwn1_init (cy : Nat → ClassId) (h0 : Nat) (f : Nat → Nat) : va_W := [(h0, .inr (1, [.int 0, .int 0, .int 0, .int 0, .int (-9 : Int32), .int 0]))]
set_option maxHeartbeats 16000000 in
set_option maxRecDepth 100000 in
theorem n1_init (l : Launch) (D : va_G) (cy : Nat → ClassId) (h0 sz : Nat) : Met l yX1_init (Cond.code yX1_init cX1_init 1 none :: kx_big) ({ frames := 1, cells := 0, slots := 0, locals := 20 }) (va_Pc [.ref h0] (kc_P D cy [(h0, .inr (1, [.int 0, .int 0, .int 0, .int 0, .int 0, .int 0]))] sz)) (va_Qv (fun _ : Nat → Nat => True) (kc_B D cy (va_A [(h0, .inr (1, [.int 0, .int 0, .int 0, .int 0, .int 0, .int 0]))] sz) (wwn1_init cy h0)) (va_A [(h0, .inr (1, [.int 0, .int 0, .int 0, .int 0, .int 0, .int 0]))] sz)) 0 0 (va_A [(h0, .inr (1, [.int 0, .int 0, .int 0, .int 0, .int 0, .int 0]))] sz) := by
  refine Met.ofW (cc := cX1_init) (maxL := 1) (ret := none) (by decide) rfl ?_
  intro p e s m args below meth c s₁ B hml hv
  obtain ⟨rfl, hsz, hP, hK, hD0, hX⟩ := hv
  have hx := B.exec
  have hb := B.bytes
  have hr := B.returns
  have hts0 := atoms_spec (ws := Cond.code yX1_init cX1_init 1 none :: kx_big) B.pre
  have hts : ∀ w ∈ kx_big, w.before _ s = true := fun w hw => hts0 w (List.mem_cons_of_mem _ hw)
  have hown : s.vm.findClass RX1 = some m.cls := findClass_of_methodNamed B.named
  have hlocks := B.notSynchronized
  have hin : meth.name = "<init>" := (name_of_methodNamed B.named B.method).1
  subst hsz
  have hD := hD0.self (sz := s.heap.size)
  generalize hAe : va_A [(h0, .inr (1, [.int 0, .int 0, .int 0, .int 0, .int 0, .int 0]))] s.heap.size = A at hD ⊢
  have hA : ∀ q : Nat, s.heap.size ≤ q → A q := fun q h => by rw [← hAe]; exact Or.inr h
  have hS : va_S A s.heap s.heap [] := va_S.rf
  have hP : va_P D vwCl [(h0, .inr (1, [.int 0, .int 0, .int 0, .int 0, .int 0, .int 0]))] s.heap := hP
  have hl := lv_entry ([.ref h0]) (n := 1) (Nat.le_of_ble_eq_true rfl)
  rw [lg_entry_eq]
  generalize (lg_sl ([.ref h0]) ++ List.replicate (1 - (lg_sl ([.ref h0])).length) Slot.unset).toArray = ls at hl ⊢
  have hl : lv_has ls 1 [(0, .ref h0)] := hl
  refine lv_aload_n (pc := 0) hx hb dX1_init_0 rfl (lv_at hl 0 rfl) ?_
  refine W.objInit hx hb hown (hts _ tb_35) (hts _ tb_18) (hts _ tb_19) rfl (by rw [hml]; exact hl.1) rfl dX1_init_1 (Nat.le_of_ble_eq_true rfl) (Nat.le_of_ble_eq_true rfl) ?_
  refine W.eq (g2 := F0 m 4 ls []) rfl ?_
  refine lv_aload_n (pc := 4) hx hb dX1_init_4 rfl (lv_at hl 0 rfl) ?_
  refine lv_bipush (pc := 5) (v := (-9 : Int32)) hx hb dX1_init_5 (by decide) ?_
  refine va_put (pc := 7) (D := D) (ci := 1) (v := .int (-9 : Int32)) (ty := .int) (C := RX1) (T := TX1) (N := 6) hx hb hts inb1 tyX1 tyX1_ok nmX1 hown hK hP hD hS 0 rfl rfl 4 (by decide) (hts _ tb_49) (fun _ h9 => h9) rfl (by decide +kernel) rfl rfl (Nat.le_of_ble_eq_true rfl) dX1_init_7 (fun H locs hP hD hS => ?_)
  have hP : va_P D vwCl [(h0, .inr (1, [.int 0, .int 0, .int 0, .int 0, .int (-9 : Int32), .int 0]))] H := hP
  have hD : va_D A [(h0, .inr (1, [.int 0, .int 0, .int 0, .int 0, .int (-9 : Int32), .int 0]))] := hD
  exact W.vret hx hb hr (fun t ht hW => ⟨⟨(fun i => i), rfl, trivial, by rw [ht]; exact hP, va_K.moved hW.alike hK, hD⟩, hS.F ht⟩) hS.2.2 dX1_init_10
def wwn2_init (cy : Nat → ClassId) (h0 : Nat) (f : Nat → Nat) : va_W := [(h0, .inr (2, [.ref (f 0)])), ((f 0), .inl (cy 8, 64, .inl (fun _ => 0)))]
set_option maxHeartbeats 16000000 in
set_option maxRecDepth 100000 in
theorem n2_init (l : Launch) (D : va_G) (cy : Nat → ClassId) (h0 sz : Nat) : Met l yX2_init (Cond.code yX2_init cX2_init 1 none :: kx_big) ({ frames := 1, cells := 1, slots := 64, locals := 20 }) (va_Pc [.ref h0] (kc_P D cy [(h0, .inr (2, [.null]))] sz)) (va_Qv (fun _ : Nat → Nat => True) (kc_B D cy (va_A [(h0, .inr (2, [.null]))] sz) (wwn2_init cy h0)) (va_A [(h0, .inr (2, [.null]))] sz)) 1 64 (va_A [(h0, .inr (2, [.null]))] sz) := by
  refine Met.ofW (cc := cX2_init) (maxL := 1) (ret := none) (by decide) rfl ?_
  intro p e s m args below meth c s₁ B hml hv
  obtain ⟨rfl, hsz, hP, hK, hD0, hX⟩ := hv
  have hx := B.exec
  have hb := B.bytes
  have hr := B.returns
  have hts0 := atoms_spec (ws := Cond.code yX2_init cX2_init 1 none :: kx_big) B.pre
  have hts : ∀ w ∈ kx_big, w.before _ s = true := fun w hw => hts0 w (List.mem_cons_of_mem _ hw)
  have hown : s.vm.findClass RX2 = some m.cls := findClass_of_methodNamed B.named
  have hlocks := B.notSynchronized
  have hin : meth.name = "<init>" := (name_of_methodNamed B.named B.method).1
  subst hsz
  have hD := hD0.self (sz := s.heap.size)
  generalize hAe : va_A [(h0, .inr (2, [.null]))] s.heap.size = A at hD ⊢
  have hA : ∀ q : Nat, s.heap.size ≤ q → A q := fun q h => by rw [← hAe]; exact Or.inr h
  have hS : va_S A s.heap s.heap [] := va_S.rf
  have hP : va_P D vwCl [(h0, .inr (2, [.null]))] s.heap := hP
  have hl := lv_entry ([.ref h0]) (n := 1) (Nat.le_of_ble_eq_true rfl)
  rw [lg_entry_eq]
  generalize (lg_sl ([.ref h0]) ++ List.replicate (1 - (lg_sl ([.ref h0])).length) Slot.unset).toArray = ls at hl ⊢
  have hl : lv_has ls 1 [(0, .ref h0)] := hl
  refine lv_aload_n (pc := 0) hx hb dX2_init_0 rfl (lv_at hl 0 rfl) ?_
  refine W.objInit hx hb hown (hts _ tb_138) (hts _ tb_18) (hts _ tb_19) rfl (by rw [hml]; exact hl.1) rfl dX2_init_1 (Nat.le_of_ble_eq_true rfl) (Nat.le_of_ble_eq_true rfl) ?_
  refine W.eq (g2 := F0 m 4 ls []) rfl ?_
  refine lv_aload_n (pc := 4) hx hb dX2_init_4 rfl (lv_at hl 0 rfl) ?_
  refine lv_bipush (pc := 5) (v := (64 : Int32)) hx hb dX2_init_5 (by decide) ?_
  refine va_newa (pc := 7) (atype := .int) hx hb (hts _ tb_67) rfl hK hP hD hS hA (N' := 64) (a0 := (64, .inl (fun _ => 0))) (fun _ => rfl) (by decide) (by decide) (by decide) (Nat.le_of_ble_eq_true rfl) (Nat.le_of_ble_eq_true rfl) dX2_init_7 (fun q0 cA H hK1 hP hD hS => ?_)
  have hcA : cA = cy 8 := kc_cy (i := 5) (j := 0) hK1 hK rfl rfl
  subst hcA
  clear hK1
  have hP : va_P D vwCl [(h0, .inr (2, [.null])), (q0, .inl (cy 8, 64, .inl (fun _ => 0)))] H := hP
  have hD : va_D A [(h0, .inr (2, [.null])), (q0, .inl (cy 8, 64, .inl (fun _ => 0)))] := hD
  refine va_putF (pc := 9) (D := D) (ci := 2) (v := .ref q0) (ty := .array .int) (C := RX2) (T := TX2) (N := 1) hx hb hts inb2 tyX2 tyX2_ok nmX2 hown hK hP hD hS 0 rfl rfl 0 (by decide) (hts _ tb_139) (fun _ h9 => h9) rfl hin rfl (by decide +kernel) rfl rfl (Nat.le_of_ble_eq_true rfl) dX2_init_9 (fun H locs hP hD hS => ?_)
  have hP : va_P D vwCl [(h0, .inr (2, [.ref q0])), (q0, .inl (cy 8, 64, .inl (fun _ => 0)))] H := hP
  have hD : va_D A [(h0, .inr (2, [.ref q0])), (q0, .inl (cy 8, 64, .inl (fun _ => 0)))] := hD
  exact W.vret hx hb hr (fun t ht hW => ⟨⟨(fun i => ([q0] : List Nat).getD i 0), rfl, trivial, by rw [ht]; exact hP, va_K.moved hW.alike hK, hD⟩, hS.F ht⟩) hS.2.2 dX2_init_12
def wwn4_init (cy : Nat → ClassId) (h0 : Nat) (f : Nat → Nat) : va_W := [(h0, .inr (4, [.int 0]))]
set_option maxHeartbeats 16000000 in
set_option maxRecDepth 100000 in
theorem n4_init (l : Launch) (D : va_G) (cy : Nat → ClassId) (h0 sz : Nat) : Met l yX4_init (Cond.code yX4_init cX4_init 1 none :: kx_big) ({ frames := 1, cells := 0, slots := 0, locals := 20 }) (va_Pc [.ref h0] (kc_P D cy [(h0, .inr (4, [.int 0]))] sz)) (va_Qv (fun _ : Nat → Nat => True) (kc_B D cy (va_A [(h0, .inr (4, [.int 0]))] sz) (wwn4_init cy h0)) (va_A [(h0, .inr (4, [.int 0]))] sz)) 0 0 (va_A [(h0, .inr (4, [.int 0]))] sz) := by
  refine Met.ofW (cc := cX4_init) (maxL := 1) (ret := none) (by decide) rfl ?_
  intro p e s m args below meth c s₁ B hml hv
  obtain ⟨rfl, hsz, hP, hK, hD0, hX⟩ := hv
  have hx := B.exec
  have hb := B.bytes
  have hr := B.returns
  have hts0 := atoms_spec (ws := Cond.code yX4_init cX4_init 1 none :: kx_big) B.pre
  have hts : ∀ w ∈ kx_big, w.before _ s = true := fun w hw => hts0 w (List.mem_cons_of_mem _ hw)
  have hown : s.vm.findClass RX4 = some m.cls := findClass_of_methodNamed B.named
  have hlocks := B.notSynchronized
  have hin : meth.name = "<init>" := (name_of_methodNamed B.named B.method).1
  subst hsz
  have hD := hD0.self (sz := s.heap.size)
  generalize hAe : va_A [(h0, .inr (4, [.int 0]))] s.heap.size = A at hD ⊢
  have hA : ∀ q : Nat, s.heap.size ≤ q → A q := fun q h => by rw [← hAe]; exact Or.inr h
  have hS : va_S A s.heap s.heap [] := va_S.rf
  have hP : va_P D vwCl [(h0, .inr (4, [.int 0]))] s.heap := hP
  have hl := lv_entry ([.ref h0]) (n := 1) (Nat.le_of_ble_eq_true rfl)
  rw [lg_entry_eq]
  generalize (lg_sl ([.ref h0]) ++ List.replicate (1 - (lg_sl ([.ref h0])).length) Slot.unset).toArray = ls at hl ⊢
  have hl : lv_has ls 1 [(0, .ref h0)] := hl
  refine lv_aload_n (pc := 0) hx hb dX4_init_0 rfl (lv_at hl 0 rfl) ?_
  refine W.objInit hx hb hown (hts _ tb_110) (hts _ tb_18) (hts _ tb_19) rfl (by rw [hml]; exact hl.1) rfl dX4_init_1 (Nat.le_of_ble_eq_true rfl) (Nat.le_of_ble_eq_true rfl) ?_
  refine W.eq (g2 := F0 m 4 ls []) rfl ?_
  exact W.vret hx hb hr (fun t ht hW => ⟨⟨(fun i => i), rfl, trivial, by rw [ht]; exact hP, va_K.moved hW.alike hK, hD⟩, hS.F ht⟩) hS.2.2 dX4_init_4
def wwn5_init_40 (cy : Nat → ClassId) (h0 : Nat) (f : Nat → Nat) : va_W := [(h0, .inr (5, [.ref (f 0), .int (-1 : Int32)])), ((f 0), .inl (cy 8, 40, .inl (fun _ => 0)))]
set_option maxHeartbeats 16000000 in
set_option maxRecDepth 100000 in
theorem n5_init_40 (l : Launch) (D : va_G) (cy : Nat → ClassId) (h0 sz : Nat) : Met l yX5_init (Cond.code yX5_init cX5_init 2 none :: kx_big) ({ frames := 1, cells := 1, slots := 40, locals := 24 }) (va_Pc [.ref h0, .int (40 : Int32)] (kc_P D cy [(h0, .inr (5, [.null, .int 0]))] sz)) (va_Qv (fun _ : Nat → Nat => True) (kc_B D cy (va_A [(h0, .inr (5, [.null, .int 0]))] sz) (wwn5_init_40 cy h0)) (va_A [(h0, .inr (5, [.null, .int 0]))] sz)) 1 40 (va_A [(h0, .inr (5, [.null, .int 0]))] sz) := by
  refine Met.ofW (cc := cX5_init) (maxL := 2) (ret := none) (by decide) rfl ?_
  intro p e s m args below meth c s₁ B hml hv
  obtain ⟨rfl, hsz, hP, hK, hD0, hX⟩ := hv
  have hx := B.exec
  have hb := B.bytes
  have hr := B.returns
  have hts0 := atoms_spec (ws := Cond.code yX5_init cX5_init 2 none :: kx_big) B.pre
  have hts : ∀ w ∈ kx_big, w.before _ s = true := fun w hw => hts0 w (List.mem_cons_of_mem _ hw)
  have hown : s.vm.findClass RX5 = some m.cls := findClass_of_methodNamed B.named
  have hlocks := B.notSynchronized
  have hin : meth.name = "<init>" := (name_of_methodNamed B.named B.method).1
  subst hsz
  have hD := hD0.self (sz := s.heap.size)
  generalize hAe : va_A [(h0, .inr (5, [.null, .int 0]))] s.heap.size = A at hD ⊢
  have hA : ∀ q : Nat, s.heap.size ≤ q → A q := fun q h => by rw [← hAe]; exact Or.inr h
  have hS : va_S A s.heap s.heap [] := va_S.rf
  have hP : va_P D vwCl [(h0, .inr (5, [.null, .int 0]))] s.heap := hP
  have hl := lv_entry ([.ref h0, .int (40 : Int32)]) (n := 2) (Nat.le_of_ble_eq_true rfl)
  rw [lg_entry_eq]
  generalize (lg_sl ([.ref h0, .int (40 : Int32)]) ++ List.replicate (2 - (lg_sl ([.ref h0, .int (40 : Int32)])).length) Slot.unset).toArray = ls at hl ⊢
  have hl : lv_has ls 2 [(0, .ref h0), (1, .int (40 : Int32))] := hl
  refine lv_aload_n (pc := 0) hx hb dX5_init_0 rfl (lv_at hl 0 rfl) ?_
  refine W.objInit hx hb hown (hts _ tb_147) (hts _ tb_18) (hts _ tb_19) rfl (by rw [hml]; exact hl.1) rfl dX5_init_1 (Nat.le_of_ble_eq_true rfl) (Nat.le_of_ble_eq_true rfl) ?_
  refine W.eq (g2 := F0 m 4 ls []) rfl ?_
  refine lv_aload_n (pc := 4) hx hb dX5_init_4 rfl (lv_at hl 0 rfl) ?_
  refine lv_iconst (pc := 5) (v := (-1 : Int32)) hx hb dX5_init_5 (by decide) ?_
  refine va_put (pc := 6) (D := D) (ci := 5) (v := .int (-1 : Int32)) (ty := .int) (C := RX5) (T := TX5) (N := 2) hx hb hts inb5 tyX5 tyX5_ok nmX5 hown hK hP hD hS 0 rfl rfl 1 (by decide) (hts _ tb_154) (fun _ h9 => h9) rfl (by decide +kernel) rfl rfl (Nat.le_of_ble_eq_true rfl) dX5_init_6 (fun H locs hP hD hS => ?_)
  have hP : va_P D vwCl [(h0, .inr (5, [.null, .int (-1 : Int32)]))] H := hP
  have hD : va_D A [(h0, .inr (5, [.null, .int (-1 : Int32)]))] := hD
  refine lv_aload_n (pc := 9) hx hb dX5_init_9 rfl (lv_at hl 0 rfl) ?_
  refine lv_iconst (pc := 10) (v := (0 : Int32)) hx hb dX5_init_10 (by decide) ?_
  refine lv_iload_n (pc := 11) hx hb dX5_init_11 rfl (lv_at hl 1 rfl) ?_
  refine va_mmax (pc := 12) hx hb (hml.trans hl.1.symm) hown (hts _ tb_148) (hts _ tb_149) (hts _ tb_8) (hts _ tb_150) (Nat.le_of_ble_eq_true rfl) (Nat.le_of_ble_eq_true rfl) (Nat.le_of_ble_eq_true rfl) (Nat.le_of_ble_eq_true rfl) dX5_init_12 ?_
  refine lv_topi (fun y1 ey1 => ?_)
  have ey1 : y1 = (40 : Int32) := ey1.trans (if_pos (by decide))
  subst ey1
  refine va_newa (pc := 15) (atype := .int) hx hb (hts _ tb_67) rfl hK hP hD hS hA (N' := 40) (a0 := (40, .inl (fun _ => 0))) (fun _ => rfl) (by decide) (by decide) (by decide) (Nat.le_of_ble_eq_true rfl) (Nat.le_of_ble_eq_true rfl) dX5_init_15 (fun q0 cA H hK1 hP hD hS => ?_)
  have hcA : cA = cy 8 := kc_cy (i := 5) (j := 0) hK1 hK rfl rfl
  subst hcA
  clear hK1
  have hP : va_P D vwCl [(h0, .inr (5, [.null, .int (-1 : Int32)])), (q0, .inl (cy 8, 40, .inl (fun _ => 0)))] H := hP
  have hD : va_D A [(h0, .inr (5, [.null, .int (-1 : Int32)])), (q0, .inl (cy 8, 40, .inl (fun _ => 0)))] := hD
  refine va_putF (pc := 17) (D := D) (ci := 5) (v := .ref q0) (ty := .array .int) (C := RX5) (T := TX5) (N := 2) hx hb hts inb5 tyX5 tyX5_ok nmX5 hown hK hP hD hS 0 rfl rfl 0 (by decide) (hts _ tb_151) (fun _ h9 => h9) rfl hin rfl (by decide +kernel) rfl rfl (Nat.le_of_ble_eq_true rfl) dX5_init_17 (fun H locs hP hD hS => ?_)
  have hP : va_P D vwCl [(h0, .inr (5, [.ref q0, .int (-1 : Int32)])), (q0, .inl (cy 8, 40, .inl (fun _ => 0)))] H := hP
  have hD : va_D A [(h0, .inr (5, [.ref q0, .int (-1 : Int32)])), (q0, .inl (cy 8, 40, .inl (fun _ => 0)))] := hD
  exact W.vret hx hb hr (fun t ht hW => ⟨⟨(fun i => ([q0] : List Nat).getD i 0), rfl, trivial, by rw [ht]; exact hP, va_K.moved hW.alike hK, hD⟩, hS.F ht⟩) hS.2.2 dX5_init_20
def wwn5_init_60 (cy : Nat → ClassId) (h0 : Nat) (f : Nat → Nat) : va_W := [(h0, .inr (5, [.ref (f 0), .int (-1 : Int32)])), ((f 0), .inl (cy 8, 60, .inl (fun _ => 0)))]
set_option maxHeartbeats 16000000 in
set_option maxRecDepth 100000 in
theorem n5_init_60 (l : Launch) (D : va_G) (cy : Nat → ClassId) (h0 sz : Nat) : Met l yX5_init (Cond.code yX5_init cX5_init 2 none :: kx_big) ({ frames := 1, cells := 1, slots := 60, locals := 24 }) (va_Pc [.ref h0, .int (60 : Int32)] (kc_P D cy [(h0, .inr (5, [.null, .int 0]))] sz)) (va_Qv (fun _ : Nat → Nat => True) (kc_B D cy (va_A [(h0, .inr (5, [.null, .int 0]))] sz) (wwn5_init_60 cy h0)) (va_A [(h0, .inr (5, [.null, .int 0]))] sz)) 1 60 (va_A [(h0, .inr (5, [.null, .int 0]))] sz) := by
  refine Met.ofW (cc := cX5_init) (maxL := 2) (ret := none) (by decide) rfl ?_
  intro p e s m args below meth c s₁ B hml hv
  obtain ⟨rfl, hsz, hP, hK, hD0, hX⟩ := hv
  have hx := B.exec
  have hb := B.bytes
  have hr := B.returns
  have hts0 := atoms_spec (ws := Cond.code yX5_init cX5_init 2 none :: kx_big) B.pre
  have hts : ∀ w ∈ kx_big, w.before _ s = true := fun w hw => hts0 w (List.mem_cons_of_mem _ hw)
  have hown : s.vm.findClass RX5 = some m.cls := findClass_of_methodNamed B.named
  have hlocks := B.notSynchronized
  have hin : meth.name = "<init>" := (name_of_methodNamed B.named B.method).1
  subst hsz
  have hD := hD0.self (sz := s.heap.size)
  generalize hAe : va_A [(h0, .inr (5, [.null, .int 0]))] s.heap.size = A at hD ⊢
  have hA : ∀ q : Nat, s.heap.size ≤ q → A q := fun q h => by rw [← hAe]; exact Or.inr h
  have hS : va_S A s.heap s.heap [] := va_S.rf
  have hP : va_P D vwCl [(h0, .inr (5, [.null, .int 0]))] s.heap := hP
  have hl := lv_entry ([.ref h0, .int (60 : Int32)]) (n := 2) (Nat.le_of_ble_eq_true rfl)
  rw [lg_entry_eq]
  generalize (lg_sl ([.ref h0, .int (60 : Int32)]) ++ List.replicate (2 - (lg_sl ([.ref h0, .int (60 : Int32)])).length) Slot.unset).toArray = ls at hl ⊢
  have hl : lv_has ls 2 [(0, .ref h0), (1, .int (60 : Int32))] := hl
  refine lv_aload_n (pc := 0) hx hb dX5_init_0 rfl (lv_at hl 0 rfl) ?_
  refine W.objInit hx hb hown (hts _ tb_147) (hts _ tb_18) (hts _ tb_19) rfl (by rw [hml]; exact hl.1) rfl dX5_init_1 (Nat.le_of_ble_eq_true rfl) (Nat.le_of_ble_eq_true rfl) ?_
  refine W.eq (g2 := F0 m 4 ls []) rfl ?_
  refine lv_aload_n (pc := 4) hx hb dX5_init_4 rfl (lv_at hl 0 rfl) ?_
  refine lv_iconst (pc := 5) (v := (-1 : Int32)) hx hb dX5_init_5 (by decide) ?_
  refine va_put (pc := 6) (D := D) (ci := 5) (v := .int (-1 : Int32)) (ty := .int) (C := RX5) (T := TX5) (N := 2) hx hb hts inb5 tyX5 tyX5_ok nmX5 hown hK hP hD hS 0 rfl rfl 1 (by decide) (hts _ tb_154) (fun _ h9 => h9) rfl (by decide +kernel) rfl rfl (Nat.le_of_ble_eq_true rfl) dX5_init_6 (fun H locs hP hD hS => ?_)
  have hP : va_P D vwCl [(h0, .inr (5, [.null, .int (-1 : Int32)]))] H := hP
  have hD : va_D A [(h0, .inr (5, [.null, .int (-1 : Int32)]))] := hD
  refine lv_aload_n (pc := 9) hx hb dX5_init_9 rfl (lv_at hl 0 rfl) ?_
  refine lv_iconst (pc := 10) (v := (0 : Int32)) hx hb dX5_init_10 (by decide) ?_
  refine lv_iload_n (pc := 11) hx hb dX5_init_11 rfl (lv_at hl 1 rfl) ?_
  refine va_mmax (pc := 12) hx hb (hml.trans hl.1.symm) hown (hts _ tb_148) (hts _ tb_149) (hts _ tb_8) (hts _ tb_150) (Nat.le_of_ble_eq_true rfl) (Nat.le_of_ble_eq_true rfl) (Nat.le_of_ble_eq_true rfl) (Nat.le_of_ble_eq_true rfl) dX5_init_12 ?_
  refine lv_topi (fun y1 ey1 => ?_)
  have ey1 : y1 = (60 : Int32) := ey1.trans (if_pos (by decide))
  subst ey1
  refine va_newa (pc := 15) (atype := .int) hx hb (hts _ tb_67) rfl hK hP hD hS hA (N' := 60) (a0 := (60, .inl (fun _ => 0))) (fun _ => rfl) (by decide) (by decide) (by decide) (Nat.le_of_ble_eq_true rfl) (Nat.le_of_ble_eq_true rfl) dX5_init_15 (fun q0 cA H hK1 hP hD hS => ?_)
  have hcA : cA = cy 8 := kc_cy (i := 5) (j := 0) hK1 hK rfl rfl
  subst hcA
  clear hK1
  have hP : va_P D vwCl [(h0, .inr (5, [.null, .int (-1 : Int32)])), (q0, .inl (cy 8, 60, .inl (fun _ => 0)))] H := hP
  have hD : va_D A [(h0, .inr (5, [.null, .int (-1 : Int32)])), (q0, .inl (cy 8, 60, .inl (fun _ => 0)))] := hD
  refine va_putF (pc := 17) (D := D) (ci := 5) (v := .ref q0) (ty := .array .int) (C := RX5) (T := TX5) (N := 2) hx hb hts inb5 tyX5 tyX5_ok nmX5 hown hK hP hD hS 0 rfl rfl 0 (by decide) (hts _ tb_151) (fun _ h9 => h9) rfl hin rfl (by decide +kernel) rfl rfl (Nat.le_of_ble_eq_true rfl) dX5_init_17 (fun H locs hP hD hS => ?_)
  have hP : va_P D vwCl [(h0, .inr (5, [.ref q0, .int (-1 : Int32)])), (q0, .inl (cy 8, 60, .inl (fun _ => 0)))] H := hP
  have hD : va_D A [(h0, .inr (5, [.ref q0, .int (-1 : Int32)])), (q0, .inl (cy 8, 60, .inl (fun _ => 0)))] := hD
  exact W.vret hx hb hr (fun t ht hW => ⟨⟨(fun i => ([q0] : List Nat).getD i 0), rfl, trivial, by rw [ht]; exact hP, va_K.moved hW.alike hK, hD⟩, hS.F ht⟩) hS.2.2 dX5_init_20
def wwn3_init (cy : Nat → ClassId) (h0 : Nat) (f : Nat → Nat) : va_W := [(h0, .inr (3, [.ref (f 0), .ref (f 1), .ref (f 2), .int 0, .int 0, .int 0, .int 0, .int 0])), ((f 0), .inl (cy 8, 4, .inl (fun _ => 0))), ((f 1), .inl (cy 9, 6, .inr (.inr (.inr (.inr (va_up (va_up (va_up (va_up (va_up (va_up (fun _ => none) 0 (some (f 3))) 1 (some (f 4))) 2 (some (f 5))) 3 (some (f 6))) 4 (some (f 7))) 5 (some (f 8)))))))), ((f 2), .inl (cy 8, 40, .inl (fun _ => 0))), ((f 3), .inr (1, [.int 0, .int 0, .int 0, .int 0, .int (-9 : Int32), .int 0])), ((f 4), .inr (1, [.int 0, .int 0, .int 0, .int 0, .int (-9 : Int32), .int 0])), ((f 5), .inr (1, [.int 0, .int 0, .int 0, .int 0, .int (-9 : Int32), .int 0])), ((f 6), .inr (1, [.int 0, .int 0, .int 0, .int 0, .int (-9 : Int32), .int 0])), ((f 7), .inr (1, [.int 0, .int 0, .int 0, .int 0, .int (-9 : Int32), .int 0])), ((f 8), .inr (1, [.int 0, .int 0, .int 0, .int 0, .int (-9 : Int32), .int 0]))]
set_option maxHeartbeats 16000000 in
set_option maxRecDepth 100000 in
theorem n3_init (l : Launch) (D : va_G) (cy : Nat → ClassId) (h0 sz : Nat) : Met l yX3_init (Cond.code yX3_init cX3_init 2 none :: kx_big) ({ frames := 2, cells := 9, slots := 86, locals := 40 }) (va_Pc [.ref h0] (kc_P D cy [(h0, .inr (3, [.null, .null, .null, .int 0, .int 0, .int 0, .int 0, .int 0]))] sz)) (va_Qv (fun _ : Nat → Nat => True) (kc_B D cy (va_A [(h0, .inr (3, [.null, .null, .null, .int 0, .int 0, .int 0, .int 0, .int 0]))] sz) (wwn3_init cy h0)) (va_A [(h0, .inr (3, [.null, .null, .null, .int 0, .int 0, .int 0, .int 0, .int 0]))] sz)) 9 86 (va_A [(h0, .inr (3, [.null, .null, .null, .int 0, .int 0, .int 0, .int 0, .int 0]))] sz) := by
  refine Met.ofW (cc := cX3_init) (maxL := 2) (ret := none) (by decide) rfl ?_
  intro p e s m args below meth c s₁ B hml hv
  obtain ⟨rfl, hsz, hP, hK, hD0, hX⟩ := hv
  have hx := B.exec
  have hb := B.bytes
  have hr := B.returns
  have hts0 := atoms_spec (ws := Cond.code yX3_init cX3_init 2 none :: kx_big) B.pre
  have hts : ∀ w ∈ kx_big, w.before _ s = true := fun w hw => hts0 w (List.mem_cons_of_mem _ hw)
  have hown : s.vm.findClass RX3 = some m.cls := findClass_of_methodNamed B.named
  have hlocks := B.notSynchronized
  have hin : meth.name = "<init>" := (name_of_methodNamed B.named B.method).1
  subst hsz
  have hD := hD0.self (sz := s.heap.size)
  generalize hAe : va_A [(h0, .inr (3, [.null, .null, .null, .int 0, .int 0, .int 0, .int 0, .int 0]))] s.heap.size = A at hD ⊢
  have hA : ∀ q : Nat, s.heap.size ≤ q → A q := fun q h => by rw [← hAe]; exact Or.inr h
  have hS : va_S A s.heap s.heap [] := va_S.rf
  have hP : va_P D vwCl [(h0, .inr (3, [.null, .null, .null, .int 0, .int 0, .int 0, .int 0, .int 0]))] s.heap := hP
  have hl := lv_entry ([.ref h0]) (n := 2) (Nat.le_of_ble_eq_true rfl)
  rw [lg_entry_eq]
  generalize (lg_sl ([.ref h0]) ++ List.replicate (2 - (lg_sl ([.ref h0])).length) Slot.unset).toArray = ls at hl ⊢
  have hl : lv_has ls 2 [(0, .ref h0)] := hl
  refine lv_aload_n (pc := 0) hx hb dX3_init_0 rfl (lv_at hl 0 rfl) ?_
  refine W.objInit hx hb hown (hts _ tb_28) (hts _ tb_18) (hts _ tb_19) rfl (by rw [hml]; exact hl.1) rfl dX3_init_1 (Nat.le_of_ble_eq_true rfl) (Nat.le_of_ble_eq_true rfl) ?_
  refine W.eq (g2 := F0 m 4 ls []) rfl ?_
  refine lv_aload_n (pc := 4) hx hb dX3_init_4 rfl (lv_at hl 0 rfl) ?_
  refine lv_iconst (pc := 5) (v := (4 : Int32)) hx hb dX3_init_5 (by decide) ?_
  refine va_newa (pc := 6) (atype := .int) hx hb (hts _ tb_67) rfl hK hP hD hS hA (N' := 4) (a0 := (4, .inl (fun _ => 0))) (fun _ => rfl) (by decide) (by decide) (by decide) (Nat.le_of_ble_eq_true rfl) (Nat.le_of_ble_eq_true rfl) dX3_init_6 (fun q0 cA H hK1 hP hD hS => ?_)
  have hcA : cA = cy 8 := kc_cy (i := 5) (j := 0) hK1 hK rfl rfl
  subst hcA
  clear hK1
  have hP : va_P D vwCl [(h0, .inr (3, [.null, .null, .null, .int 0, .int 0, .int 0, .int 0, .int 0])), (q0, .inl (cy 8, 4, .inl (fun _ => 0)))] H := hP
  have hD : va_D A [(h0, .inr (3, [.null, .null, .null, .int 0, .int 0, .int 0, .int 0, .int 0])), (q0, .inl (cy 8, 4, .inl (fun _ => 0)))] := hD
  refine va_putF (pc := 8) (D := D) (ci := 3) (v := .ref q0) (ty := .array .int) (C := RX3) (T := TX3) (N := 8) hx hb hts inb3 tyX3 tyX3_ok nmX3 hown hK hP hD hS 0 rfl rfl 0 (by decide) (hts _ tb_68) (fun _ h9 => h9) rfl hin rfl (by decide +kernel) rfl rfl (Nat.le_of_ble_eq_true rfl) dX3_init_8 (fun H locs hP hD hS => ?_)
  have hP : va_P D vwCl [(h0, .inr (3, [.ref q0, .null, .null, .int 0, .int 0, .int 0, .int 0, .int 0])), (q0, .inl (cy 8, 4, .inl (fun _ => 0)))] H := hP
  have hD : va_D A [(h0, .inr (3, [.ref q0, .null, .null, .int 0, .int 0, .int 0, .int 0, .int 0])), (q0, .inl (cy 8, 4, .inl (fun _ => 0)))] := hD
  refine lv_aload_n (pc := 11) hx hb dX3_init_11 rfl (lv_at hl 0 rfl) ?_
  refine lv_bipush (pc := 12) (v := (6 : Int32)) hx hb dX3_init_12 (by decide) ?_
  refine va_newq (pc := 14) (C := "KiteTaxes$Kite") hx hb hown (hts _ tb_29) hX.2.1 hK hP hD hS hA (N' := 6) (by decide) (by decide) (by decide) (Nat.le_of_ble_eq_true rfl) (Nat.le_of_ble_eq_true rfl) dX3_init_14 (fun q1 cA H hK1 hP hD hS => ?_)
  have hcA : cA = cy 9 := kc_cy (i := 5) (j := 1) hK1 hK rfl rfl
  subst hcA
  clear hK1
  have hP : va_P D vwCl [(h0, .inr (3, [.ref q0, .null, .null, .int 0, .int 0, .int 0, .int 0, .int 0])), (q0, .inl (cy 8, 4, .inl (fun _ => 0))), (q1, .inl (cy 9, 6, .inr (.inr (.inr (.inr (fun _ => none))))))] H := hP
  have hD : va_D A [(h0, .inr (3, [.ref q0, .null, .null, .int 0, .int 0, .int 0, .int 0, .int 0])), (q0, .inl (cy 8, 4, .inl (fun _ => 0))), (q1, .inl (cy 9, 6, .inr (.inr (.inr (.inr (fun _ => none))))))] := hD
  refine va_putF (pc := 17) (D := D) (ci := 3) (v := .ref q1) (ty := .array (.object "KiteTaxes$Kite")) (C := RX3) (T := TX3) (N := 8) hx hb hts inb3 tyX3 tyX3_ok nmX3 hown hK hP hD hS 0 rfl rfl 1 (by decide) (hts _ tb_71) (fun _ h9 => h9) rfl hin rfl (by decide +kernel) rfl rfl (Nat.le_of_ble_eq_true rfl) dX3_init_17 (fun H locs hP hD hS => ?_)
  have hP : va_P D vwCl [(h0, .inr (3, [.ref q0, .ref q1, .null, .int 0, .int 0, .int 0, .int 0, .int 0])), (q0, .inl (cy 8, 4, .inl (fun _ => 0))), (q1, .inl (cy 9, 6, .inr (.inr (.inr (.inr (fun _ => none))))))] H := hP
  have hD : va_D A [(h0, .inr (3, [.ref q0, .ref q1, .null, .int 0, .int 0, .int 0, .int 0, .int 0])), (q0, .inl (cy 8, 4, .inl (fun _ => 0))), (q1, .inl (cy 9, 6, .inr (.inr (.inr (.inr (fun _ => none))))))] := hD
  refine lv_aload_n (pc := 20) hx hb dX3_init_20 rfl (lv_at hl 0 rfl) ?_
  refine lv_bipush (pc := 21) (v := (40 : Int32)) hx hb dX3_init_21 (by decide) ?_
  refine va_newa (pc := 23) (atype := .int) hx hb (hts _ tb_67) rfl hK hP hD hS hA (N' := 40) (a0 := (40, .inl (fun _ => 0))) (fun _ => rfl) (by decide) (by decide) (by decide) (Nat.le_of_ble_eq_true rfl) (Nat.le_of_ble_eq_true rfl) dX3_init_23 (fun q2 cA H hK1 hP hD hS => ?_)
  have hcA : cA = cy 8 := kc_cy (i := 5) (j := 0) hK1 hK rfl rfl
  subst hcA
  clear hK1
  have hP : va_P D vwCl [(h0, .inr (3, [.ref q0, .ref q1, .null, .int 0, .int 0, .int 0, .int 0, .int 0])), (q0, .inl (cy 8, 4, .inl (fun _ => 0))), (q1, .inl (cy 9, 6, .inr (.inr (.inr (.inr (fun _ => none)))))), (q2, .inl (cy 8, 40, .inl (fun _ => 0)))] H := hP
  have hD : va_D A [(h0, .inr (3, [.ref q0, .ref q1, .null, .int 0, .int 0, .int 0, .int 0, .int 0])), (q0, .inl (cy 8, 4, .inl (fun _ => 0))), (q1, .inl (cy 9, 6, .inr (.inr (.inr (.inr (fun _ => none)))))), (q2, .inl (cy 8, 40, .inl (fun _ => 0)))] := hD
  refine va_putF (pc := 25) (D := D) (ci := 3) (v := .ref q2) (ty := .array .int) (C := RX3) (T := TX3) (N := 8) hx hb hts inb3 tyX3 tyX3_ok nmX3 hown hK hP hD hS 0 rfl rfl 2 (by decide) (hts _ tb_73) (fun _ h9 => h9) rfl hin rfl (by decide +kernel) rfl rfl (Nat.le_of_ble_eq_true rfl) dX3_init_25 (fun H locs hP hD hS => ?_)
  have hP : va_P D vwCl [(h0, .inr (3, [.ref q0, .ref q1, .ref q2, .int 0, .int 0, .int 0, .int 0, .int 0])), (q0, .inl (cy 8, 4, .inl (fun _ => 0))), (q1, .inl (cy 9, 6, .inr (.inr (.inr (.inr (fun _ => none)))))), (q2, .inl (cy 8, 40, .inl (fun _ => 0)))] H := hP
  have hD : va_D A [(h0, .inr (3, [.ref q0, .ref q1, .ref q2, .int 0, .int 0, .int 0, .int 0, .int 0])), (q0, .inl (cy 8, 4, .inl (fun _ => 0))), (q1, .inl (cy 9, 6, .inr (.inr (.inr (.inr (fun _ => none)))))), (q2, .inl (cy 8, 40, .inl (fun _ => 0)))] := hD
  refine lv_iconst (pc := 28) (v := (0 : Int32)) hx hb dX3_init_28 (by decide) ?_
  refine lv_istore_n (pc := 29) (lv' := [(1, .int (0 : Int32)), (0, .ref h0)]) hx hb dX3_init_29 rfl hl (by decide) rfl (fun ls hl => ?_)
  refine lv_iload_n (pc := 30) hx hb dX3_init_30 rfl (lv_at hl 0 rfl) ?_
  refine lv_aload_n (pc := 31) hx hb dX3_init_31 rfl (lv_at hl 1 rfl) ?_
  refine va_get (pc := 32) (D := D) (ci := 3) (v := .ref q1) (C := RX3) (T := TX3) (N := 8) hx hb hts inb3 hown hK hP 0 rfl rfl 1 (by decide) (hts _ tb_71) (fun _ h9 => h9) rfl dX3_init_32 ?_
  refine va_alen (pc := 35) (v := (6 : Int32)) hx hb hK hP 2 1 rfl rfl (show Int32.ofNat 6 = (6 : Int32) by decide) dX3_init_35 ?_
  refine lv_icmp_ge (pc := 36) (tgt := 58) hx hb dX3_init_36 (by decide) (fun c0 => absurd c0 (by decide)) (fun _ => ?_)
  refine lv_aload_n (pc := 39) hx hb dX3_init_39 rfl (lv_at hl 1 rfl) ?_
  refine va_get (pc := 40) (D := D) (ci := 3) (v := .ref q1) (C := RX3) (T := TX3) (N := 8) hx hb hts inb3 hown hK hP 0 rfl rfl 1 (by decide) (hts _ tb_71) (fun _ h9 => h9) rfl dX3_init_40 ?_
  refine lv_iload_n (pc := 43) hx hb dX3_init_43 rfl (lv_at hl 0 rfl) ?_
  refine va_new (pc := 44) (ci := 1) (fs := [.int 0, .int 0, .int 0, .int 0, .int 0, .int 0]) (C := RX1) (T := TX1) (N := 6) hx hb hts inb1 tyX1 tyX1_ok hown (hts _ tb_29) (hts _ tb_31) (hts _ tb_3) hK hP hD hS hA rfl (kc_def1) (Nat.le_of_ble_eq_true rfl) (Nat.le_of_ble_eq_true rfl) dX3_init_44 (fun q3 H hP hD hS => ?_)
  have hP : va_P D vwCl [(h0, .inr (3, [.ref q0, .ref q1, .ref q2, .int 0, .int 0, .int 0, .int 0, .int 0])), (q0, .inl (cy 8, 4, .inl (fun _ => 0))), (q1, .inl (cy 9, 6, .inr (.inr (.inr (.inr (fun _ => none)))))), (q2, .inl (cy 8, 40, .inl (fun _ => 0))), (q3, .inr (1, [.int 0, .int 0, .int 0, .int 0, .int 0, .int 0]))] H := hP
  have hD : va_D A [(h0, .inr (3, [.ref q0, .ref q1, .ref q2, .int 0, .int 0, .int 0, .int 0, .int 0])), (q0, .inl (cy 8, 4, .inl (fun _ => 0))), (q1, .inl (cy 9, 6, .inr (.inr (.inr (.inr (fun _ => none)))))), (q2, .inl (cy 8, 40, .inl (fun _ => 0))), (q3, .inr (1, [.int 0, .int 0, .int 0, .int 0, .int 0, .int 0]))] := hD
  refine lv_dup (pc := 47) hx hb dX3_init_47 rfl ?_
  have hPc := hP.sub (ws' := [(q3, .inr (1, [.int 0, .int 0, .int 0, .int 0, .int 0, .int 0]))]) [4] rfl
  have hDc := hD.sub (ws' := [(q3, .inr (1, [.int 0, .int 0, .int 0, .int 0, .int 0, .int 0]))]) [4] (by decide) rfl
  have hFc := va_free (wc := [(q3, .inr (1, [.int 0, .int 0, .int 0, .int 0, .int 0, .int 0]))]) hD hS hA [4] rfl
  refine va_callv (va_runIN  (As := []) (rest := [.ref q3, .int (0 : Int32), .ref q1]) (host := "KiteTaxes") ⟨hx, hb, hml, hown, hts⟩ (n1_init l D cy q3 H.size) ⟨va_cnB 0 hts (kx_gd0 (kc_mI tb_34)) rfl rfl rfl hX.1.1 (hts _ tb_3) (by decide +kernel) ⟨(Nat.le_of_ble_eq_true rfl), (Nat.le_of_ble_eq_true rfl)⟩, rfl, hts _ tb_33⟩ ⟨kc_blind, fun U hU hW => ⟨rfl, by rw [hU], by rw [hU]; exact hPc, va_K.moved hW.alike hK, hDc.weaken (fun _ _ _ _ => trivial), hX.warm hW⟩⟩ rfl rfl hl.1 rfl (lv_room (Nat.le_of_ble_eq_true rfl)) dX3_init_48 ⟨(Nat.le_of_ble_eq_true rfl), (Nat.le_of_ble_eq_true rfl)⟩) hS (fun q _ h => hFc q h) hFc (fun u t H1 locs ht hvm hw hB hz1 hk1 hS => ?_)
  obtain ⟨hP1, hK1, hD1⟩ := hB
  rw [ht] at hP1
  clear hK1 hw
  obtain ⟨u4, eu4⟩ : ∃ z, z = u := ⟨_, rfl⟩
  rw [← eu4] at hP1 hD1
  obtain ⟨hP, hD⟩ := va_join (wr := [(h0, .inr (3, [.ref q0, .ref q1, .ref q2, .int 0, .int 0, .int 0, .int 0, .int 0])), (q0, .inl (cy 8, 4, .inl (fun _ => 0))), (q1, .inl (cy 9, 6, .inr (.inr (.inr (.inr (fun _ => none)))))), (q2, .inl (cy 8, 40, .inl (fun _ => 0)))]) (w1 := [(q3, .inr (1, [.int 0, .int 0, .int 0, .int 0, .int (-9 : Int32), .int 0]))]) hP hD [4] [0, 1, 2, 3] rfl rfl (by decide +kernel) (by decide +kernel) hk1 hFc hP1 hD1
  generalize H1 = H at hP hS ⊢
  clear hPc hDc hFc hP1 hD1 hk1 hz1 ht hvm
  have hP : va_P D vwCl [(h0, .inr (3, [.ref q0, .ref q1, .ref q2, .int 0, .int 0, .int 0, .int 0, .int 0])), (q0, .inl (cy 8, 4, .inl (fun _ => 0))), (q1, .inl (cy 9, 6, .inr (.inr (.inr (.inr (fun _ => none)))))), (q2, .inl (cy 8, 40, .inl (fun _ => 0))), (q3, .inr (1, [.int 0, .int 0, .int 0, .int 0, .int (-9 : Int32), .int 0]))] H := hP
  have hD : va_D A [(h0, .inr (3, [.ref q0, .ref q1, .ref q2, .int 0, .int 0, .int 0, .int 0, .int 0])), (q0, .inl (cy 8, 4, .inl (fun _ => 0))), (q1, .inl (cy 9, 6, .inr (.inr (.inr (.inr (fun _ => none)))))), (q2, .inl (cy 8, 40, .inl (fun _ => 0))), (q3, .inr (1, [.int 0, .int 0, .int 0, .int 0, .int (-9 : Int32), .int 0]))] := hD
  refine va_astq (pc := 51) hx hb hK hP hD hS 2 1 4 1 (r := (RX1, TX1, 6)) rfl rfl rfl rfl (by unfold vp_in; decide) dX3_init_51 (fun H locs hP hD hS => ?_)
  have hP : va_P D vwCl [(h0, .inr (3, [.ref q0, .ref q1, .ref q2, .int 0, .int 0, .int 0, .int 0, .int 0])), (q0, .inl (cy 8, 4, .inl (fun _ => 0))), (q1, .inl (cy 9, 6, .inr (.inr (.inr (.inr (va_up (fun _ => none) 0 (some q3))))))), (q2, .inl (cy 8, 40, .inl (fun _ => 0))), (q3, .inr (1, [.int 0, .int 0, .int 0, .int 0, .int (-9 : Int32), .int 0]))] H := hP
  have hD : va_D A [(h0, .inr (3, [.ref q0, .ref q1, .ref q2, .int 0, .int 0, .int 0, .int 0, .int 0])), (q0, .inl (cy 8, 4, .inl (fun _ => 0))), (q1, .inl (cy 9, 6, .inr (.inr (.inr (.inr (va_up (fun _ => none) 0 (some q3))))))), (q2, .inl (cy 8, 40, .inl (fun _ => 0))), (q3, .inr (1, [.int 0, .int 0, .int 0, .int 0, .int (-9 : Int32), .int 0]))] := hD
  refine lv_iinc (pc := 52) (v := (1 : Int32)) (lv' := [(1, .int (1 : Int32)), (0, .ref h0)]) hx hb dX3_init_52 hl (k := 0) rfl (by decide) (by decide) rfl (fun ls hl => ?_)
  refine lv_goto (pc := 55) (tgt := 30) hx hb dX3_init_55 (by decide) ?_
  refine lv_iload_n (pc := 30) hx hb dX3_init_30 rfl (lv_at hl 0 rfl) ?_
  refine lv_aload_n (pc := 31) hx hb dX3_init_31 rfl (lv_at hl 1 rfl) ?_
  refine va_get (pc := 32) (D := D) (ci := 3) (v := .ref q1) (C := RX3) (T := TX3) (N := 8) hx hb hts inb3 hown hK hP 0 rfl rfl 1 (by decide) (hts _ tb_71) (fun _ h9 => h9) rfl dX3_init_32 ?_
  refine va_alen (pc := 35) (v := (6 : Int32)) hx hb hK hP 2 1 rfl rfl (show Int32.ofNat 6 = (6 : Int32) by decide) dX3_init_35 ?_
  refine lv_icmp_ge (pc := 36) (tgt := 58) hx hb dX3_init_36 (by decide) (fun c0 => absurd c0 (by decide)) (fun _ => ?_)
  refine lv_aload_n (pc := 39) hx hb dX3_init_39 rfl (lv_at hl 1 rfl) ?_
  refine va_get (pc := 40) (D := D) (ci := 3) (v := .ref q1) (C := RX3) (T := TX3) (N := 8) hx hb hts inb3 hown hK hP 0 rfl rfl 1 (by decide) (hts _ tb_71) (fun _ h9 => h9) rfl dX3_init_40 ?_
  refine lv_iload_n (pc := 43) hx hb dX3_init_43 rfl (lv_at hl 0 rfl) ?_
  refine va_new (pc := 44) (ci := 1) (fs := [.int 0, .int 0, .int 0, .int 0, .int 0, .int 0]) (C := RX1) (T := TX1) (N := 6) hx hb hts inb1 tyX1 tyX1_ok hown (hts _ tb_29) (hts _ tb_31) (hts _ tb_3) hK hP hD hS hA rfl (kc_def1) (Nat.le_of_ble_eq_true rfl) (Nat.le_of_ble_eq_true rfl) dX3_init_44 (fun q4 H hP hD hS => ?_)
  have hP : va_P D vwCl [(h0, .inr (3, [.ref q0, .ref q1, .ref q2, .int 0, .int 0, .int 0, .int 0, .int 0])), (q0, .inl (cy 8, 4, .inl (fun _ => 0))), (q1, .inl (cy 9, 6, .inr (.inr (.inr (.inr (va_up (fun _ => none) 0 (some q3))))))), (q2, .inl (cy 8, 40, .inl (fun _ => 0))), (q3, .inr (1, [.int 0, .int 0, .int 0, .int 0, .int (-9 : Int32), .int 0])), (q4, .inr (1, [.int 0, .int 0, .int 0, .int 0, .int 0, .int 0]))] H := hP
  have hD : va_D A [(h0, .inr (3, [.ref q0, .ref q1, .ref q2, .int 0, .int 0, .int 0, .int 0, .int 0])), (q0, .inl (cy 8, 4, .inl (fun _ => 0))), (q1, .inl (cy 9, 6, .inr (.inr (.inr (.inr (va_up (fun _ => none) 0 (some q3))))))), (q2, .inl (cy 8, 40, .inl (fun _ => 0))), (q3, .inr (1, [.int 0, .int 0, .int 0, .int 0, .int (-9 : Int32), .int 0])), (q4, .inr (1, [.int 0, .int 0, .int 0, .int 0, .int 0, .int 0]))] := hD
  refine lv_dup (pc := 47) hx hb dX3_init_47 rfl ?_
  have hPc := hP.sub (ws' := [(q4, .inr (1, [.int 0, .int 0, .int 0, .int 0, .int 0, .int 0]))]) [5] rfl
  have hDc := hD.sub (ws' := [(q4, .inr (1, [.int 0, .int 0, .int 0, .int 0, .int 0, .int 0]))]) [5] (by decide) rfl
  have hFc := va_free (wc := [(q4, .inr (1, [.int 0, .int 0, .int 0, .int 0, .int 0, .int 0]))]) hD hS hA [5] rfl
  refine va_callv (va_runIN  (As := []) (rest := [.ref q4, .int (1 : Int32), .ref q1]) (host := "KiteTaxes") ⟨hx, hb, hml, hown, hts⟩ (n1_init l D cy q4 H.size) ⟨va_cnB 0 hts (kx_gd0 (kc_mI tb_34)) rfl rfl rfl hX.1.1 (hts _ tb_3) (by decide +kernel) ⟨(Nat.le_of_ble_eq_true rfl), (Nat.le_of_ble_eq_true rfl)⟩, rfl, hts _ tb_33⟩ ⟨kc_blind, fun U hU hW => ⟨rfl, by rw [hU], by rw [hU]; exact hPc, va_K.moved hW.alike hK, hDc.weaken (fun _ _ _ _ => trivial), hX.warm hW⟩⟩ rfl rfl hl.1 rfl (lv_room (Nat.le_of_ble_eq_true rfl)) dX3_init_48 ⟨(Nat.le_of_ble_eq_true rfl), (Nat.le_of_ble_eq_true rfl)⟩) hS (fun q _ h => hFc q h) hFc (fun u t H1 locs ht hvm hw hB hz1 hk1 hS => ?_)
  obtain ⟨hP1, hK1, hD1⟩ := hB
  rw [ht] at hP1
  clear hK1 hw
  obtain ⟨u5, eu5⟩ : ∃ z, z = u := ⟨_, rfl⟩
  rw [← eu5] at hP1 hD1
  obtain ⟨hP, hD⟩ := va_join (wr := [(h0, .inr (3, [.ref q0, .ref q1, .ref q2, .int 0, .int 0, .int 0, .int 0, .int 0])), (q0, .inl (cy 8, 4, .inl (fun _ => 0))), (q1, .inl (cy 9, 6, .inr (.inr (.inr (.inr (va_up (fun _ => none) 0 (some q3))))))), (q2, .inl (cy 8, 40, .inl (fun _ => 0))), (q3, .inr (1, [.int 0, .int 0, .int 0, .int 0, .int (-9 : Int32), .int 0]))]) (w1 := [(q4, .inr (1, [.int 0, .int 0, .int 0, .int 0, .int (-9 : Int32), .int 0]))]) hP hD [5] [0, 1, 2, 3, 4] rfl rfl (by decide +kernel) (by decide +kernel) hk1 hFc hP1 hD1
  generalize H1 = H at hP hS ⊢
  clear hPc hDc hFc hP1 hD1 hk1 hz1 ht hvm
  have hP : va_P D vwCl [(h0, .inr (3, [.ref q0, .ref q1, .ref q2, .int 0, .int 0, .int 0, .int 0, .int 0])), (q0, .inl (cy 8, 4, .inl (fun _ => 0))), (q1, .inl (cy 9, 6, .inr (.inr (.inr (.inr (va_up (fun _ => none) 0 (some q3))))))), (q2, .inl (cy 8, 40, .inl (fun _ => 0))), (q3, .inr (1, [.int 0, .int 0, .int 0, .int 0, .int (-9 : Int32), .int 0])), (q4, .inr (1, [.int 0, .int 0, .int 0, .int 0, .int (-9 : Int32), .int 0]))] H := hP
  have hD : va_D A [(h0, .inr (3, [.ref q0, .ref q1, .ref q2, .int 0, .int 0, .int 0, .int 0, .int 0])), (q0, .inl (cy 8, 4, .inl (fun _ => 0))), (q1, .inl (cy 9, 6, .inr (.inr (.inr (.inr (va_up (fun _ => none) 0 (some q3))))))), (q2, .inl (cy 8, 40, .inl (fun _ => 0))), (q3, .inr (1, [.int 0, .int 0, .int 0, .int 0, .int (-9 : Int32), .int 0])), (q4, .inr (1, [.int 0, .int 0, .int 0, .int 0, .int (-9 : Int32), .int 0]))] := hD
  refine va_astq (pc := 51) hx hb hK hP hD hS 2 1 5 1 (r := (RX1, TX1, 6)) rfl rfl rfl rfl (by unfold vp_in; decide) dX3_init_51 (fun H locs hP hD hS => ?_)
  have hP : va_P D vwCl [(h0, .inr (3, [.ref q0, .ref q1, .ref q2, .int 0, .int 0, .int 0, .int 0, .int 0])), (q0, .inl (cy 8, 4, .inl (fun _ => 0))), (q1, .inl (cy 9, 6, .inr (.inr (.inr (.inr (va_up (va_up (fun _ => none) 0 (some q3)) 1 (some q4))))))), (q2, .inl (cy 8, 40, .inl (fun _ => 0))), (q3, .inr (1, [.int 0, .int 0, .int 0, .int 0, .int (-9 : Int32), .int 0])), (q4, .inr (1, [.int 0, .int 0, .int 0, .int 0, .int (-9 : Int32), .int 0]))] H := hP
  have hD : va_D A [(h0, .inr (3, [.ref q0, .ref q1, .ref q2, .int 0, .int 0, .int 0, .int 0, .int 0])), (q0, .inl (cy 8, 4, .inl (fun _ => 0))), (q1, .inl (cy 9, 6, .inr (.inr (.inr (.inr (va_up (va_up (fun _ => none) 0 (some q3)) 1 (some q4))))))), (q2, .inl (cy 8, 40, .inl (fun _ => 0))), (q3, .inr (1, [.int 0, .int 0, .int 0, .int 0, .int (-9 : Int32), .int 0])), (q4, .inr (1, [.int 0, .int 0, .int 0, .int 0, .int (-9 : Int32), .int 0]))] := hD
  refine lv_iinc (pc := 52) (v := (2 : Int32)) (lv' := [(1, .int (2 : Int32)), (0, .ref h0)]) hx hb dX3_init_52 hl (k := 0) rfl (by decide) (by decide) rfl (fun ls hl => ?_)
  refine lv_goto (pc := 55) (tgt := 30) hx hb dX3_init_55 (by decide) ?_
  refine lv_iload_n (pc := 30) hx hb dX3_init_30 rfl (lv_at hl 0 rfl) ?_
  refine lv_aload_n (pc := 31) hx hb dX3_init_31 rfl (lv_at hl 1 rfl) ?_
  refine va_get (pc := 32) (D := D) (ci := 3) (v := .ref q1) (C := RX3) (T := TX3) (N := 8) hx hb hts inb3 hown hK hP 0 rfl rfl 1 (by decide) (hts _ tb_71) (fun _ h9 => h9) rfl dX3_init_32 ?_
  refine va_alen (pc := 35) (v := (6 : Int32)) hx hb hK hP 2 1 rfl rfl (show Int32.ofNat 6 = (6 : Int32) by decide) dX3_init_35 ?_
  refine lv_icmp_ge (pc := 36) (tgt := 58) hx hb dX3_init_36 (by decide) (fun c0 => absurd c0 (by decide)) (fun _ => ?_)
  refine lv_aload_n (pc := 39) hx hb dX3_init_39 rfl (lv_at hl 1 rfl) ?_
  refine va_get (pc := 40) (D := D) (ci := 3) (v := .ref q1) (C := RX3) (T := TX3) (N := 8) hx hb hts inb3 hown hK hP 0 rfl rfl 1 (by decide) (hts _ tb_71) (fun _ h9 => h9) rfl dX3_init_40 ?_
  refine lv_iload_n (pc := 43) hx hb dX3_init_43 rfl (lv_at hl 0 rfl) ?_
  refine va_new (pc := 44) (ci := 1) (fs := [.int 0, .int 0, .int 0, .int 0, .int 0, .int 0]) (C := RX1) (T := TX1) (N := 6) hx hb hts inb1 tyX1 tyX1_ok hown (hts _ tb_29) (hts _ tb_31) (hts _ tb_3) hK hP hD hS hA rfl (kc_def1) (Nat.le_of_ble_eq_true rfl) (Nat.le_of_ble_eq_true rfl) dX3_init_44 (fun q5 H hP hD hS => ?_)
  have hP : va_P D vwCl [(h0, .inr (3, [.ref q0, .ref q1, .ref q2, .int 0, .int 0, .int 0, .int 0, .int 0])), (q0, .inl (cy 8, 4, .inl (fun _ => 0))), (q1, .inl (cy 9, 6, .inr (.inr (.inr (.inr (va_up (va_up (fun _ => none) 0 (some q3)) 1 (some q4))))))), (q2, .inl (cy 8, 40, .inl (fun _ => 0))), (q3, .inr (1, [.int 0, .int 0, .int 0, .int 0, .int (-9 : Int32), .int 0])), (q4, .inr (1, [.int 0, .int 0, .int 0, .int 0, .int (-9 : Int32), .int 0])), (q5, .inr (1, [.int 0, .int 0, .int 0, .int 0, .int 0, .int 0]))] H := hP
  have hD : va_D A [(h0, .inr (3, [.ref q0, .ref q1, .ref q2, .int 0, .int 0, .int 0, .int 0, .int 0])), (q0, .inl (cy 8, 4, .inl (fun _ => 0))), (q1, .inl (cy 9, 6, .inr (.inr (.inr (.inr (va_up (va_up (fun _ => none) 0 (some q3)) 1 (some q4))))))), (q2, .inl (cy 8, 40, .inl (fun _ => 0))), (q3, .inr (1, [.int 0, .int 0, .int 0, .int 0, .int (-9 : Int32), .int 0])), (q4, .inr (1, [.int 0, .int 0, .int 0, .int 0, .int (-9 : Int32), .int 0])), (q5, .inr (1, [.int 0, .int 0, .int 0, .int 0, .int 0, .int 0]))] := hD
  refine lv_dup (pc := 47) hx hb dX3_init_47 rfl ?_
  have hPc := hP.sub (ws' := [(q5, .inr (1, [.int 0, .int 0, .int 0, .int 0, .int 0, .int 0]))]) [6] rfl
  have hDc := hD.sub (ws' := [(q5, .inr (1, [.int 0, .int 0, .int 0, .int 0, .int 0, .int 0]))]) [6] (by decide) rfl
  have hFc := va_free (wc := [(q5, .inr (1, [.int 0, .int 0, .int 0, .int 0, .int 0, .int 0]))]) hD hS hA [6] rfl
  refine va_callv (va_runIN  (As := []) (rest := [.ref q5, .int (2 : Int32), .ref q1]) (host := "KiteTaxes") ⟨hx, hb, hml, hown, hts⟩ (n1_init l D cy q5 H.size) ⟨va_cnB 0 hts (kx_gd0 (kc_mI tb_34)) rfl rfl rfl hX.1.1 (hts _ tb_3) (by decide +kernel) ⟨(Nat.le_of_ble_eq_true rfl), (Nat.le_of_ble_eq_true rfl)⟩, rfl, hts _ tb_33⟩ ⟨kc_blind, fun U hU hW => ⟨rfl, by rw [hU], by rw [hU]; exact hPc, va_K.moved hW.alike hK, hDc.weaken (fun _ _ _ _ => trivial), hX.warm hW⟩⟩ rfl rfl hl.1 rfl (lv_room (Nat.le_of_ble_eq_true rfl)) dX3_init_48 ⟨(Nat.le_of_ble_eq_true rfl), (Nat.le_of_ble_eq_true rfl)⟩) hS (fun q _ h => hFc q h) hFc (fun u t H1 locs ht hvm hw hB hz1 hk1 hS => ?_)
  obtain ⟨hP1, hK1, hD1⟩ := hB
  rw [ht] at hP1
  clear hK1 hw
  obtain ⟨u6, eu6⟩ : ∃ z, z = u := ⟨_, rfl⟩
  rw [← eu6] at hP1 hD1
  obtain ⟨hP, hD⟩ := va_join (wr := [(h0, .inr (3, [.ref q0, .ref q1, .ref q2, .int 0, .int 0, .int 0, .int 0, .int 0])), (q0, .inl (cy 8, 4, .inl (fun _ => 0))), (q1, .inl (cy 9, 6, .inr (.inr (.inr (.inr (va_up (va_up (fun _ => none) 0 (some q3)) 1 (some q4))))))), (q2, .inl (cy 8, 40, .inl (fun _ => 0))), (q3, .inr (1, [.int 0, .int 0, .int 0, .int 0, .int (-9 : Int32), .int 0])), (q4, .inr (1, [.int 0, .int 0, .int 0, .int 0, .int (-9 : Int32), .int 0]))]) (w1 := [(q5, .inr (1, [.int 0, .int 0, .int 0, .int 0, .int (-9 : Int32), .int 0]))]) hP hD [6] [0, 1, 2, 3, 4, 5] rfl rfl (by decide +kernel) (by decide +kernel) hk1 hFc hP1 hD1
  generalize H1 = H at hP hS ⊢
  clear hPc hDc hFc hP1 hD1 hk1 hz1 ht hvm
  have hP : va_P D vwCl [(h0, .inr (3, [.ref q0, .ref q1, .ref q2, .int 0, .int 0, .int 0, .int 0, .int 0])), (q0, .inl (cy 8, 4, .inl (fun _ => 0))), (q1, .inl (cy 9, 6, .inr (.inr (.inr (.inr (va_up (va_up (fun _ => none) 0 (some q3)) 1 (some q4))))))), (q2, .inl (cy 8, 40, .inl (fun _ => 0))), (q3, .inr (1, [.int 0, .int 0, .int 0, .int 0, .int (-9 : Int32), .int 0])), (q4, .inr (1, [.int 0, .int 0, .int 0, .int 0, .int (-9 : Int32), .int 0])), (q5, .inr (1, [.int 0, .int 0, .int 0, .int 0, .int (-9 : Int32), .int 0]))] H := hP
  have hD : va_D A [(h0, .inr (3, [.ref q0, .ref q1, .ref q2, .int 0, .int 0, .int 0, .int 0, .int 0])), (q0, .inl (cy 8, 4, .inl (fun _ => 0))), (q1, .inl (cy 9, 6, .inr (.inr (.inr (.inr (va_up (va_up (fun _ => none) 0 (some q3)) 1 (some q4))))))), (q2, .inl (cy 8, 40, .inl (fun _ => 0))), (q3, .inr (1, [.int 0, .int 0, .int 0, .int 0, .int (-9 : Int32), .int 0])), (q4, .inr (1, [.int 0, .int 0, .int 0, .int 0, .int (-9 : Int32), .int 0])), (q5, .inr (1, [.int 0, .int 0, .int 0, .int 0, .int (-9 : Int32), .int 0]))] := hD
  refine va_astq (pc := 51) hx hb hK hP hD hS 2 1 6 1 (r := (RX1, TX1, 6)) rfl rfl rfl rfl (by unfold vp_in; decide) dX3_init_51 (fun H locs hP hD hS => ?_)
  have hP : va_P D vwCl [(h0, .inr (3, [.ref q0, .ref q1, .ref q2, .int 0, .int 0, .int 0, .int 0, .int 0])), (q0, .inl (cy 8, 4, .inl (fun _ => 0))), (q1, .inl (cy 9, 6, .inr (.inr (.inr (.inr (va_up (va_up (va_up (fun _ => none) 0 (some q3)) 1 (some q4)) 2 (some q5))))))), (q2, .inl (cy 8, 40, .inl (fun _ => 0))), (q3, .inr (1, [.int 0, .int 0, .int 0, .int 0, .int (-9 : Int32), .int 0])), (q4, .inr (1, [.int 0, .int 0, .int 0, .int 0, .int (-9 : Int32), .int 0])), (q5, .inr (1, [.int 0, .int 0, .int 0, .int 0, .int (-9 : Int32), .int 0]))] H := hP
  have hD : va_D A [(h0, .inr (3, [.ref q0, .ref q1, .ref q2, .int 0, .int 0, .int 0, .int 0, .int 0])), (q0, .inl (cy 8, 4, .inl (fun _ => 0))), (q1, .inl (cy 9, 6, .inr (.inr (.inr (.inr (va_up (va_up (va_up (fun _ => none) 0 (some q3)) 1 (some q4)) 2 (some q5))))))), (q2, .inl (cy 8, 40, .inl (fun _ => 0))), (q3, .inr (1, [.int 0, .int 0, .int 0, .int 0, .int (-9 : Int32), .int 0])), (q4, .inr (1, [.int 0, .int 0, .int 0, .int 0, .int (-9 : Int32), .int 0])), (q5, .inr (1, [.int 0, .int 0, .int 0, .int 0, .int (-9 : Int32), .int 0]))] := hD
  refine lv_iinc (pc := 52) (v := (3 : Int32)) (lv' := [(1, .int (3 : Int32)), (0, .ref h0)]) hx hb dX3_init_52 hl (k := 0) rfl (by decide) (by decide) rfl (fun ls hl => ?_)
  refine lv_goto (pc := 55) (tgt := 30) hx hb dX3_init_55 (by decide) ?_
  refine lv_iload_n (pc := 30) hx hb dX3_init_30 rfl (lv_at hl 0 rfl) ?_
  refine lv_aload_n (pc := 31) hx hb dX3_init_31 rfl (lv_at hl 1 rfl) ?_
  refine va_get (pc := 32) (D := D) (ci := 3) (v := .ref q1) (C := RX3) (T := TX3) (N := 8) hx hb hts inb3 hown hK hP 0 rfl rfl 1 (by decide) (hts _ tb_71) (fun _ h9 => h9) rfl dX3_init_32 ?_
  refine va_alen (pc := 35) (v := (6 : Int32)) hx hb hK hP 2 1 rfl rfl (show Int32.ofNat 6 = (6 : Int32) by decide) dX3_init_35 ?_
  refine lv_icmp_ge (pc := 36) (tgt := 58) hx hb dX3_init_36 (by decide) (fun c0 => absurd c0 (by decide)) (fun _ => ?_)
  refine lv_aload_n (pc := 39) hx hb dX3_init_39 rfl (lv_at hl 1 rfl) ?_
  refine va_get (pc := 40) (D := D) (ci := 3) (v := .ref q1) (C := RX3) (T := TX3) (N := 8) hx hb hts inb3 hown hK hP 0 rfl rfl 1 (by decide) (hts _ tb_71) (fun _ h9 => h9) rfl dX3_init_40 ?_
  refine lv_iload_n (pc := 43) hx hb dX3_init_43 rfl (lv_at hl 0 rfl) ?_
  refine va_new (pc := 44) (ci := 1) (fs := [.int 0, .int 0, .int 0, .int 0, .int 0, .int 0]) (C := RX1) (T := TX1) (N := 6) hx hb hts inb1 tyX1 tyX1_ok hown (hts _ tb_29) (hts _ tb_31) (hts _ tb_3) hK hP hD hS hA rfl (kc_def1) (Nat.le_of_ble_eq_true rfl) (Nat.le_of_ble_eq_true rfl) dX3_init_44 (fun q6 H hP hD hS => ?_)
  have hP : va_P D vwCl [(h0, .inr (3, [.ref q0, .ref q1, .ref q2, .int 0, .int 0, .int 0, .int 0, .int 0])), (q0, .inl (cy 8, 4, .inl (fun _ => 0))), (q1, .inl (cy 9, 6, .inr (.inr (.inr (.inr (va_up (va_up (va_up (fun _ => none) 0 (some q3)) 1 (some q4)) 2 (some q5))))))), (q2, .inl (cy 8, 40, .inl (fun _ => 0))), (q3, .inr (1, [.int 0, .int 0, .int 0, .int 0, .int (-9 : Int32), .int 0])), (q4, .inr (1, [.int 0, .int 0, .int 0, .int 0, .int (-9 : Int32), .int 0])), (q5, .inr (1, [.int 0, .int 0, .int 0, .int 0, .int (-9 : Int32), .int 0])), (q6, .inr (1, [.int 0, .int 0, .int 0, .int 0, .int 0, .int 0]))] H := hP
  have hD : va_D A [(h0, .inr (3, [.ref q0, .ref q1, .ref q2, .int 0, .int 0, .int 0, .int 0, .int 0])), (q0, .inl (cy 8, 4, .inl (fun _ => 0))), (q1, .inl (cy 9, 6, .inr (.inr (.inr (.inr (va_up (va_up (va_up (fun _ => none) 0 (some q3)) 1 (some q4)) 2 (some q5))))))), (q2, .inl (cy 8, 40, .inl (fun _ => 0))), (q3, .inr (1, [.int 0, .int 0, .int 0, .int 0, .int (-9 : Int32), .int 0])), (q4, .inr (1, [.int 0, .int 0, .int 0, .int 0, .int (-9 : Int32), .int 0])), (q5, .inr (1, [.int 0, .int 0, .int 0, .int 0, .int (-9 : Int32), .int 0])), (q6, .inr (1, [.int 0, .int 0, .int 0, .int 0, .int 0, .int 0]))] := hD
  refine lv_dup (pc := 47) hx hb dX3_init_47 rfl ?_
  have hPc := hP.sub (ws' := [(q6, .inr (1, [.int 0, .int 0, .int 0, .int 0, .int 0, .int 0]))]) [7] rfl
  have hDc := hD.sub (ws' := [(q6, .inr (1, [.int 0, .int 0, .int 0, .int 0, .int 0, .int 0]))]) [7] (by decide) rfl
  have hFc := va_free (wc := [(q6, .inr (1, [.int 0, .int 0, .int 0, .int 0, .int 0, .int 0]))]) hD hS hA [7] rfl
  refine va_callv (va_runIN  (As := []) (rest := [.ref q6, .int (3 : Int32), .ref q1]) (host := "KiteTaxes") ⟨hx, hb, hml, hown, hts⟩ (n1_init l D cy q6 H.size) ⟨va_cnB 0 hts (kx_gd0 (kc_mI tb_34)) rfl rfl rfl hX.1.1 (hts _ tb_3) (by decide +kernel) ⟨(Nat.le_of_ble_eq_true rfl), (Nat.le_of_ble_eq_true rfl)⟩, rfl, hts _ tb_33⟩ ⟨kc_blind, fun U hU hW => ⟨rfl, by rw [hU], by rw [hU]; exact hPc, va_K.moved hW.alike hK, hDc.weaken (fun _ _ _ _ => trivial), hX.warm hW⟩⟩ rfl rfl hl.1 rfl (lv_room (Nat.le_of_ble_eq_true rfl)) dX3_init_48 ⟨(Nat.le_of_ble_eq_true rfl), (Nat.le_of_ble_eq_true rfl)⟩) hS (fun q _ h => hFc q h) hFc (fun u t H1 locs ht hvm hw hB hz1 hk1 hS => ?_)
  obtain ⟨hP1, hK1, hD1⟩ := hB
  rw [ht] at hP1
  clear hK1 hw
  obtain ⟨u7, eu7⟩ : ∃ z, z = u := ⟨_, rfl⟩
  rw [← eu7] at hP1 hD1
  obtain ⟨hP, hD⟩ := va_join (wr := [(h0, .inr (3, [.ref q0, .ref q1, .ref q2, .int 0, .int 0, .int 0, .int 0, .int 0])), (q0, .inl (cy 8, 4, .inl (fun _ => 0))), (q1, .inl (cy 9, 6, .inr (.inr (.inr (.inr (va_up (va_up (va_up (fun _ => none) 0 (some q3)) 1 (some q4)) 2 (some q5))))))), (q2, .inl (cy 8, 40, .inl (fun _ => 0))), (q3, .inr (1, [.int 0, .int 0, .int 0, .int 0, .int (-9 : Int32), .int 0])), (q4, .inr (1, [.int 0, .int 0, .int 0, .int 0, .int (-9 : Int32), .int 0])), (q5, .inr (1, [.int 0, .int 0, .int 0, .int 0, .int (-9 : Int32), .int 0]))]) (w1 := [(q6, .inr (1, [.int 0, .int 0, .int 0, .int 0, .int (-9 : Int32), .int 0]))]) hP hD [7] [0, 1, 2, 3, 4, 5, 6] rfl rfl (by decide +kernel) (by decide +kernel) hk1 hFc hP1 hD1
  generalize H1 = H at hP hS ⊢
  clear hPc hDc hFc hP1 hD1 hk1 hz1 ht hvm
  have hP : va_P D vwCl [(h0, .inr (3, [.ref q0, .ref q1, .ref q2, .int 0, .int 0, .int 0, .int 0, .int 0])), (q0, .inl (cy 8, 4, .inl (fun _ => 0))), (q1, .inl (cy 9, 6, .inr (.inr (.inr (.inr (va_up (va_up (va_up (fun _ => none) 0 (some q3)) 1 (some q4)) 2 (some q5))))))), (q2, .inl (cy 8, 40, .inl (fun _ => 0))), (q3, .inr (1, [.int 0, .int 0, .int 0, .int 0, .int (-9 : Int32), .int 0])), (q4, .inr (1, [.int 0, .int 0, .int 0, .int 0, .int (-9 : Int32), .int 0])), (q5, .inr (1, [.int 0, .int 0, .int 0, .int 0, .int (-9 : Int32), .int 0])), (q6, .inr (1, [.int 0, .int 0, .int 0, .int 0, .int (-9 : Int32), .int 0]))] H := hP
  have hD : va_D A [(h0, .inr (3, [.ref q0, .ref q1, .ref q2, .int 0, .int 0, .int 0, .int 0, .int 0])), (q0, .inl (cy 8, 4, .inl (fun _ => 0))), (q1, .inl (cy 9, 6, .inr (.inr (.inr (.inr (va_up (va_up (va_up (fun _ => none) 0 (some q3)) 1 (some q4)) 2 (some q5))))))), (q2, .inl (cy 8, 40, .inl (fun _ => 0))), (q3, .inr (1, [.int 0, .int 0, .int 0, .int 0, .int (-9 : Int32), .int 0])), (q4, .inr (1, [.int 0, .int 0, .int 0, .int 0, .int (-9 : Int32), .int 0])), (q5, .inr (1, [.int 0, .int 0, .int 0, .int 0, .int (-9 : Int32), .int 0])), (q6, .inr (1, [.int 0, .int 0, .int 0, .int 0, .int (-9 : Int32), .int 0]))] := hD
  refine va_astq (pc := 51) hx hb hK hP hD hS 2 1 7 1 (r := (RX1, TX1, 6)) rfl rfl rfl rfl (by unfold vp_in; decide) dX3_init_51 (fun H locs hP hD hS => ?_)
  have hP : va_P D vwCl [(h0, .inr (3, [.ref q0, .ref q1, .ref q2, .int 0, .int 0, .int 0, .int 0, .int 0])), (q0, .inl (cy 8, 4, .inl (fun _ => 0))), (q1, .inl (cy 9, 6, .inr (.inr (.inr (.inr (va_up (va_up (va_up (va_up (fun _ => none) 0 (some q3)) 1 (some q4)) 2 (some q5)) 3 (some q6))))))), (q2, .inl (cy 8, 40, .inl (fun _ => 0))), (q3, .inr (1, [.int 0, .int 0, .int 0, .int 0, .int (-9 : Int32), .int 0])), (q4, .inr (1, [.int 0, .int 0, .int 0, .int 0, .int (-9 : Int32), .int 0])), (q5, .inr (1, [.int 0, .int 0, .int 0, .int 0, .int (-9 : Int32), .int 0])), (q6, .inr (1, [.int 0, .int 0, .int 0, .int 0, .int (-9 : Int32), .int 0]))] H := hP
  have hD : va_D A [(h0, .inr (3, [.ref q0, .ref q1, .ref q2, .int 0, .int 0, .int 0, .int 0, .int 0])), (q0, .inl (cy 8, 4, .inl (fun _ => 0))), (q1, .inl (cy 9, 6, .inr (.inr (.inr (.inr (va_up (va_up (va_up (va_up (fun _ => none) 0 (some q3)) 1 (some q4)) 2 (some q5)) 3 (some q6))))))), (q2, .inl (cy 8, 40, .inl (fun _ => 0))), (q3, .inr (1, [.int 0, .int 0, .int 0, .int 0, .int (-9 : Int32), .int 0])), (q4, .inr (1, [.int 0, .int 0, .int 0, .int 0, .int (-9 : Int32), .int 0])), (q5, .inr (1, [.int 0, .int 0, .int 0, .int 0, .int (-9 : Int32), .int 0])), (q6, .inr (1, [.int 0, .int 0, .int 0, .int 0, .int (-9 : Int32), .int 0]))] := hD
  refine lv_iinc (pc := 52) (v := (4 : Int32)) (lv' := [(1, .int (4 : Int32)), (0, .ref h0)]) hx hb dX3_init_52 hl (k := 0) rfl (by decide) (by decide) rfl (fun ls hl => ?_)
  refine lv_goto (pc := 55) (tgt := 30) hx hb dX3_init_55 (by decide) ?_
  refine lv_iload_n (pc := 30) hx hb dX3_init_30 rfl (lv_at hl 0 rfl) ?_
  refine lv_aload_n (pc := 31) hx hb dX3_init_31 rfl (lv_at hl 1 rfl) ?_
  refine va_get (pc := 32) (D := D) (ci := 3) (v := .ref q1) (C := RX3) (T := TX3) (N := 8) hx hb hts inb3 hown hK hP 0 rfl rfl 1 (by decide) (hts _ tb_71) (fun _ h9 => h9) rfl dX3_init_32 ?_
  refine va_alen (pc := 35) (v := (6 : Int32)) hx hb hK hP 2 1 rfl rfl (show Int32.ofNat 6 = (6 : Int32) by decide) dX3_init_35 ?_
  refine lv_icmp_ge (pc := 36) (tgt := 58) hx hb dX3_init_36 (by decide) (fun c0 => absurd c0 (by decide)) (fun _ => ?_)
  refine lv_aload_n (pc := 39) hx hb dX3_init_39 rfl (lv_at hl 1 rfl) ?_
  refine va_get (pc := 40) (D := D) (ci := 3) (v := .ref q1) (C := RX3) (T := TX3) (N := 8) hx hb hts inb3 hown hK hP 0 rfl rfl 1 (by decide) (hts _ tb_71) (fun _ h9 => h9) rfl dX3_init_40 ?_
  refine lv_iload_n (pc := 43) hx hb dX3_init_43 rfl (lv_at hl 0 rfl) ?_
  refine va_new (pc := 44) (ci := 1) (fs := [.int 0, .int 0, .int 0, .int 0, .int 0, .int 0]) (C := RX1) (T := TX1) (N := 6) hx hb hts inb1 tyX1 tyX1_ok hown (hts _ tb_29) (hts _ tb_31) (hts _ tb_3) hK hP hD hS hA rfl (kc_def1) (Nat.le_of_ble_eq_true rfl) (Nat.le_of_ble_eq_true rfl) dX3_init_44 (fun q7 H hP hD hS => ?_)
  have hP : va_P D vwCl [(h0, .inr (3, [.ref q0, .ref q1, .ref q2, .int 0, .int 0, .int 0, .int 0, .int 0])), (q0, .inl (cy 8, 4, .inl (fun _ => 0))), (q1, .inl (cy 9, 6, .inr (.inr (.inr (.inr (va_up (va_up (va_up (va_up (fun _ => none) 0 (some q3)) 1 (some q4)) 2 (some q5)) 3 (some q6))))))), (q2, .inl (cy 8, 40, .inl (fun _ => 0))), (q3, .inr (1, [.int 0, .int 0, .int 0, .int 0, .int (-9 : Int32), .int 0])), (q4, .inr (1, [.int 0, .int 0, .int 0, .int 0, .int (-9 : Int32), .int 0])), (q5, .inr (1, [.int 0, .int 0, .int 0, .int 0, .int (-9 : Int32), .int 0])), (q6, .inr (1, [.int 0, .int 0, .int 0, .int 0, .int (-9 : Int32), .int 0])), (q7, .inr (1, [.int 0, .int 0, .int 0, .int 0, .int 0, .int 0]))] H := hP
  have hD : va_D A [(h0, .inr (3, [.ref q0, .ref q1, .ref q2, .int 0, .int 0, .int 0, .int 0, .int 0])), (q0, .inl (cy 8, 4, .inl (fun _ => 0))), (q1, .inl (cy 9, 6, .inr (.inr (.inr (.inr (va_up (va_up (va_up (va_up (fun _ => none) 0 (some q3)) 1 (some q4)) 2 (some q5)) 3 (some q6))))))), (q2, .inl (cy 8, 40, .inl (fun _ => 0))), (q3, .inr (1, [.int 0, .int 0, .int 0, .int 0, .int (-9 : Int32), .int 0])), (q4, .inr (1, [.int 0, .int 0, .int 0, .int 0, .int (-9 : Int32), .int 0])), (q5, .inr (1, [.int 0, .int 0, .int 0, .int 0, .int (-9 : Int32), .int 0])), (q6, .inr (1, [.int 0, .int 0, .int 0, .int 0, .int (-9 : Int32), .int 0])), (q7, .inr (1, [.int 0, .int 0, .int 0, .int 0, .int 0, .int 0]))] := hD
  refine lv_dup (pc := 47) hx hb dX3_init_47 rfl ?_
  have hPc := hP.sub (ws' := [(q7, .inr (1, [.int 0, .int 0, .int 0, .int 0, .int 0, .int 0]))]) [8] rfl
  have hDc := hD.sub (ws' := [(q7, .inr (1, [.int 0, .int 0, .int 0, .int 0, .int 0, .int 0]))]) [8] (by decide) rfl
  have hFc := va_free (wc := [(q7, .inr (1, [.int 0, .int 0, .int 0, .int 0, .int 0, .int 0]))]) hD hS hA [8] rfl
  refine va_callv (va_runIN  (As := []) (rest := [.ref q7, .int (4 : Int32), .ref q1]) (host := "KiteTaxes") ⟨hx, hb, hml, hown, hts⟩ (n1_init l D cy q7 H.size) ⟨va_cnB 0 hts (kx_gd0 (kc_mI tb_34)) rfl rfl rfl hX.1.1 (hts _ tb_3) (by decide +kernel) ⟨(Nat.le_of_ble_eq_true rfl), (Nat.le_of_ble_eq_true rfl)⟩, rfl, hts _ tb_33⟩ ⟨kc_blind, fun U hU hW => ⟨rfl, by rw [hU], by rw [hU]; exact hPc, va_K.moved hW.alike hK, hDc.weaken (fun _ _ _ _ => trivial), hX.warm hW⟩⟩ rfl rfl hl.1 rfl (lv_room (Nat.le_of_ble_eq_true rfl)) dX3_init_48 ⟨(Nat.le_of_ble_eq_true rfl), (Nat.le_of_ble_eq_true rfl)⟩) hS (fun q _ h => hFc q h) hFc (fun u t H1 locs ht hvm hw hB hz1 hk1 hS => ?_)
  obtain ⟨hP1, hK1, hD1⟩ := hB
  rw [ht] at hP1
  clear hK1 hw
  obtain ⟨u8, eu8⟩ : ∃ z, z = u := ⟨_, rfl⟩
  rw [← eu8] at hP1 hD1
  obtain ⟨hP, hD⟩ := va_join (wr := [(h0, .inr (3, [.ref q0, .ref q1, .ref q2, .int 0, .int 0, .int 0, .int 0, .int 0])), (q0, .inl (cy 8, 4, .inl (fun _ => 0))), (q1, .inl (cy 9, 6, .inr (.inr (.inr (.inr (va_up (va_up (va_up (va_up (fun _ => none) 0 (some q3)) 1 (some q4)) 2 (some q5)) 3 (some q6))))))), (q2, .inl (cy 8, 40, .inl (fun _ => 0))), (q3, .inr (1, [.int 0, .int 0, .int 0, .int 0, .int (-9 : Int32), .int 0])), (q4, .inr (1, [.int 0, .int 0, .int 0, .int 0, .int (-9 : Int32), .int 0])), (q5, .inr (1, [.int 0, .int 0, .int 0, .int 0, .int (-9 : Int32), .int 0])), (q6, .inr (1, [.int 0, .int 0, .int 0, .int 0, .int (-9 : Int32), .int 0]))]) (w1 := [(q7, .inr (1, [.int 0, .int 0, .int 0, .int 0, .int (-9 : Int32), .int 0]))]) hP hD [8] [0, 1, 2, 3, 4, 5, 6, 7] rfl rfl (by decide +kernel) (by decide +kernel) hk1 hFc hP1 hD1
  generalize H1 = H at hP hS ⊢
  clear hPc hDc hFc hP1 hD1 hk1 hz1 ht hvm
  have hP : va_P D vwCl [(h0, .inr (3, [.ref q0, .ref q1, .ref q2, .int 0, .int 0, .int 0, .int 0, .int 0])), (q0, .inl (cy 8, 4, .inl (fun _ => 0))), (q1, .inl (cy 9, 6, .inr (.inr (.inr (.inr (va_up (va_up (va_up (va_up (fun _ => none) 0 (some q3)) 1 (some q4)) 2 (some q5)) 3 (some q6))))))), (q2, .inl (cy 8, 40, .inl (fun _ => 0))), (q3, .inr (1, [.int 0, .int 0, .int 0, .int 0, .int (-9 : Int32), .int 0])), (q4, .inr (1, [.int 0, .int 0, .int 0, .int 0, .int (-9 : Int32), .int 0])), (q5, .inr (1, [.int 0, .int 0, .int 0, .int 0, .int (-9 : Int32), .int 0])), (q6, .inr (1, [.int 0, .int 0, .int 0, .int 0, .int (-9 : Int32), .int 0])), (q7, .inr (1, [.int 0, .int 0, .int 0, .int 0, .int (-9 : Int32), .int 0]))] H := hP
  have hD : va_D A [(h0, .inr (3, [.ref q0, .ref q1, .ref q2, .int 0, .int 0, .int 0, .int 0, .int 0])), (q0, .inl (cy 8, 4, .inl (fun _ => 0))), (q1, .inl (cy 9, 6, .inr (.inr (.inr (.inr (va_up (va_up (va_up (va_up (fun _ => none) 0 (some q3)) 1 (some q4)) 2 (some q5)) 3 (some q6))))))), (q2, .inl (cy 8, 40, .inl (fun _ => 0))), (q3, .inr (1, [.int 0, .int 0, .int 0, .int 0, .int (-9 : Int32), .int 0])), (q4, .inr (1, [.int 0, .int 0, .int 0, .int 0, .int (-9 : Int32), .int 0])), (q5, .inr (1, [.int 0, .int 0, .int 0, .int 0, .int (-9 : Int32), .int 0])), (q6, .inr (1, [.int 0, .int 0, .int 0, .int 0, .int (-9 : Int32), .int 0])), (q7, .inr (1, [.int 0, .int 0, .int 0, .int 0, .int (-9 : Int32), .int 0]))] := hD
  refine va_astq (pc := 51) hx hb hK hP hD hS 2 1 8 1 (r := (RX1, TX1, 6)) rfl rfl rfl rfl (by unfold vp_in; decide) dX3_init_51 (fun H locs hP hD hS => ?_)
  have hP : va_P D vwCl [(h0, .inr (3, [.ref q0, .ref q1, .ref q2, .int 0, .int 0, .int 0, .int 0, .int 0])), (q0, .inl (cy 8, 4, .inl (fun _ => 0))), (q1, .inl (cy 9, 6, .inr (.inr (.inr (.inr (va_up (va_up (va_up (va_up (va_up (fun _ => none) 0 (some q3)) 1 (some q4)) 2 (some q5)) 3 (some q6)) 4 (some q7))))))), (q2, .inl (cy 8, 40, .inl (fun _ => 0))), (q3, .inr (1, [.int 0, .int 0, .int 0, .int 0, .int (-9 : Int32), .int 0])), (q4, .inr (1, [.int 0, .int 0, .int 0, .int 0, .int (-9 : Int32), .int 0])), (q5, .inr (1, [.int 0, .int 0, .int 0, .int 0, .int (-9 : Int32), .int 0])), (q6, .inr (1, [.int 0, .int 0, .int 0, .int 0, .int (-9 : Int32), .int 0])), (q7, .inr (1, [.int 0, .int 0, .int 0, .int 0, .int (-9 : Int32), .int 0]))] H := hP
  have hD : va_D A [(h0, .inr (3, [.ref q0, .ref q1, .ref q2, .int 0, .int 0, .int 0, .int 0, .int 0])), (q0, .inl (cy 8, 4, .inl (fun _ => 0))), (q1, .inl (cy 9, 6, .inr (.inr (.inr (.inr (va_up (va_up (va_up (va_up (va_up (fun _ => none) 0 (some q3)) 1 (some q4)) 2 (some q5)) 3 (some q6)) 4 (some q7))))))), (q2, .inl (cy 8, 40, .inl (fun _ => 0))), (q3, .inr (1, [.int 0, .int 0, .int 0, .int 0, .int (-9 : Int32), .int 0])), (q4, .inr (1, [.int 0, .int 0, .int 0, .int 0, .int (-9 : Int32), .int 0])), (q5, .inr (1, [.int 0, .int 0, .int 0, .int 0, .int (-9 : Int32), .int 0])), (q6, .inr (1, [.int 0, .int 0, .int 0, .int 0, .int (-9 : Int32), .int 0])), (q7, .inr (1, [.int 0, .int 0, .int 0, .int 0, .int (-9 : Int32), .int 0]))] := hD
  refine lv_iinc (pc := 52) (v := (5 : Int32)) (lv' := [(1, .int (5 : Int32)), (0, .ref h0)]) hx hb dX3_init_52 hl (k := 0) rfl (by decide) (by decide) rfl (fun ls hl => ?_)
  refine lv_goto (pc := 55) (tgt := 30) hx hb dX3_init_55 (by decide) ?_
  refine lv_iload_n (pc := 30) hx hb dX3_init_30 rfl (lv_at hl 0 rfl) ?_
  refine lv_aload_n (pc := 31) hx hb dX3_init_31 rfl (lv_at hl 1 rfl) ?_
  refine va_get (pc := 32) (D := D) (ci := 3) (v := .ref q1) (C := RX3) (T := TX3) (N := 8) hx hb hts inb3 hown hK hP 0 rfl rfl 1 (by decide) (hts _ tb_71) (fun _ h9 => h9) rfl dX3_init_32 ?_
  refine va_alen (pc := 35) (v := (6 : Int32)) hx hb hK hP 2 1 rfl rfl (show Int32.ofNat 6 = (6 : Int32) by decide) dX3_init_35 ?_
  refine lv_icmp_ge (pc := 36) (tgt := 58) hx hb dX3_init_36 (by decide) (fun c0 => absurd c0 (by decide)) (fun _ => ?_)
  refine lv_aload_n (pc := 39) hx hb dX3_init_39 rfl (lv_at hl 1 rfl) ?_
  refine va_get (pc := 40) (D := D) (ci := 3) (v := .ref q1) (C := RX3) (T := TX3) (N := 8) hx hb hts inb3 hown hK hP 0 rfl rfl 1 (by decide) (hts _ tb_71) (fun _ h9 => h9) rfl dX3_init_40 ?_
  refine lv_iload_n (pc := 43) hx hb dX3_init_43 rfl (lv_at hl 0 rfl) ?_
  refine va_new (pc := 44) (ci := 1) (fs := [.int 0, .int 0, .int 0, .int 0, .int 0, .int 0]) (C := RX1) (T := TX1) (N := 6) hx hb hts inb1 tyX1 tyX1_ok hown (hts _ tb_29) (hts _ tb_31) (hts _ tb_3) hK hP hD hS hA rfl (kc_def1) (Nat.le_of_ble_eq_true rfl) (Nat.le_of_ble_eq_true rfl) dX3_init_44 (fun q8 H hP hD hS => ?_)
  have hP : va_P D vwCl [(h0, .inr (3, [.ref q0, .ref q1, .ref q2, .int 0, .int 0, .int 0, .int 0, .int 0])), (q0, .inl (cy 8, 4, .inl (fun _ => 0))), (q1, .inl (cy 9, 6, .inr (.inr (.inr (.inr (va_up (va_up (va_up (va_up (va_up (fun _ => none) 0 (some q3)) 1 (some q4)) 2 (some q5)) 3 (some q6)) 4 (some q7))))))), (q2, .inl (cy 8, 40, .inl (fun _ => 0))), (q3, .inr (1, [.int 0, .int 0, .int 0, .int 0, .int (-9 : Int32), .int 0])), (q4, .inr (1, [.int 0, .int 0, .int 0, .int 0, .int (-9 : Int32), .int 0])), (q5, .inr (1, [.int 0, .int 0, .int 0, .int 0, .int (-9 : Int32), .int 0])), (q6, .inr (1, [.int 0, .int 0, .int 0, .int 0, .int (-9 : Int32), .int 0])), (q7, .inr (1, [.int 0, .int 0, .int 0, .int 0, .int (-9 : Int32), .int 0])), (q8, .inr (1, [.int 0, .int 0, .int 0, .int 0, .int 0, .int 0]))] H := hP
  have hD : va_D A [(h0, .inr (3, [.ref q0, .ref q1, .ref q2, .int 0, .int 0, .int 0, .int 0, .int 0])), (q0, .inl (cy 8, 4, .inl (fun _ => 0))), (q1, .inl (cy 9, 6, .inr (.inr (.inr (.inr (va_up (va_up (va_up (va_up (va_up (fun _ => none) 0 (some q3)) 1 (some q4)) 2 (some q5)) 3 (some q6)) 4 (some q7))))))), (q2, .inl (cy 8, 40, .inl (fun _ => 0))), (q3, .inr (1, [.int 0, .int 0, .int 0, .int 0, .int (-9 : Int32), .int 0])), (q4, .inr (1, [.int 0, .int 0, .int 0, .int 0, .int (-9 : Int32), .int 0])), (q5, .inr (1, [.int 0, .int 0, .int 0, .int 0, .int (-9 : Int32), .int 0])), (q6, .inr (1, [.int 0, .int 0, .int 0, .int 0, .int (-9 : Int32), .int 0])), (q7, .inr (1, [.int 0, .int 0, .int 0, .int 0, .int (-9 : Int32), .int 0])), (q8, .inr (1, [.int 0, .int 0, .int 0, .int 0, .int 0, .int 0]))] := hD
  refine lv_dup (pc := 47) hx hb dX3_init_47 rfl ?_
  have hPc := hP.sub (ws' := [(q8, .inr (1, [.int 0, .int 0, .int 0, .int 0, .int 0, .int 0]))]) [9] rfl
  have hDc := hD.sub (ws' := [(q8, .inr (1, [.int 0, .int 0, .int 0, .int 0, .int 0, .int 0]))]) [9] (by decide) rfl
  have hFc := va_free (wc := [(q8, .inr (1, [.int 0, .int 0, .int 0, .int 0, .int 0, .int 0]))]) hD hS hA [9] rfl
  refine va_callv (va_runIN  (As := []) (rest := [.ref q8, .int (5 : Int32), .ref q1]) (host := "KiteTaxes") ⟨hx, hb, hml, hown, hts⟩ (n1_init l D cy q8 H.size) ⟨va_cnB 0 hts (kx_gd0 (kc_mI tb_34)) rfl rfl rfl hX.1.1 (hts _ tb_3) (by decide +kernel) ⟨(Nat.le_of_ble_eq_true rfl), (Nat.le_of_ble_eq_true rfl)⟩, rfl, hts _ tb_33⟩ ⟨kc_blind, fun U hU hW => ⟨rfl, by rw [hU], by rw [hU]; exact hPc, va_K.moved hW.alike hK, hDc.weaken (fun _ _ _ _ => trivial), hX.warm hW⟩⟩ rfl rfl hl.1 rfl (lv_room (Nat.le_of_ble_eq_true rfl)) dX3_init_48 ⟨(Nat.le_of_ble_eq_true rfl), (Nat.le_of_ble_eq_true rfl)⟩) hS (fun q _ h => hFc q h) hFc (fun u t H1 locs ht hvm hw hB hz1 hk1 hS => ?_)
  obtain ⟨hP1, hK1, hD1⟩ := hB
  rw [ht] at hP1
  clear hK1 hw
  obtain ⟨u9, eu9⟩ : ∃ z, z = u := ⟨_, rfl⟩
  rw [← eu9] at hP1 hD1
  obtain ⟨hP, hD⟩ := va_join (wr := [(h0, .inr (3, [.ref q0, .ref q1, .ref q2, .int 0, .int 0, .int 0, .int 0, .int 0])), (q0, .inl (cy 8, 4, .inl (fun _ => 0))), (q1, .inl (cy 9, 6, .inr (.inr (.inr (.inr (va_up (va_up (va_up (va_up (va_up (fun _ => none) 0 (some q3)) 1 (some q4)) 2 (some q5)) 3 (some q6)) 4 (some q7))))))), (q2, .inl (cy 8, 40, .inl (fun _ => 0))), (q3, .inr (1, [.int 0, .int 0, .int 0, .int 0, .int (-9 : Int32), .int 0])), (q4, .inr (1, [.int 0, .int 0, .int 0, .int 0, .int (-9 : Int32), .int 0])), (q5, .inr (1, [.int 0, .int 0, .int 0, .int 0, .int (-9 : Int32), .int 0])), (q6, .inr (1, [.int 0, .int 0, .int 0, .int 0, .int (-9 : Int32), .int 0])), (q7, .inr (1, [.int 0, .int 0, .int 0, .int 0, .int (-9 : Int32), .int 0]))]) (w1 := [(q8, .inr (1, [.int 0, .int 0, .int 0, .int 0, .int (-9 : Int32), .int 0]))]) hP hD [9] [0, 1, 2, 3, 4, 5, 6, 7, 8] rfl rfl (by decide +kernel) (by decide +kernel) hk1 hFc hP1 hD1
  generalize H1 = H at hP hS ⊢
  clear hPc hDc hFc hP1 hD1 hk1 hz1 ht hvm
  have hP : va_P D vwCl [(h0, .inr (3, [.ref q0, .ref q1, .ref q2, .int 0, .int 0, .int 0, .int 0, .int 0])), (q0, .inl (cy 8, 4, .inl (fun _ => 0))), (q1, .inl (cy 9, 6, .inr (.inr (.inr (.inr (va_up (va_up (va_up (va_up (va_up (fun _ => none) 0 (some q3)) 1 (some q4)) 2 (some q5)) 3 (some q6)) 4 (some q7))))))), (q2, .inl (cy 8, 40, .inl (fun _ => 0))), (q3, .inr (1, [.int 0, .int 0, .int 0, .int 0, .int (-9 : Int32), .int 0])), (q4, .inr (1, [.int 0, .int 0, .int 0, .int 0, .int (-9 : Int32), .int 0])), (q5, .inr (1, [.int 0, .int 0, .int 0, .int 0, .int (-9 : Int32), .int 0])), (q6, .inr (1, [.int 0, .int 0, .int 0, .int 0, .int (-9 : Int32), .int 0])), (q7, .inr (1, [.int 0, .int 0, .int 0, .int 0, .int (-9 : Int32), .int 0])), (q8, .inr (1, [.int 0, .int 0, .int 0, .int 0, .int (-9 : Int32), .int 0]))] H := hP
  have hD : va_D A [(h0, .inr (3, [.ref q0, .ref q1, .ref q2, .int 0, .int 0, .int 0, .int 0, .int 0])), (q0, .inl (cy 8, 4, .inl (fun _ => 0))), (q1, .inl (cy 9, 6, .inr (.inr (.inr (.inr (va_up (va_up (va_up (va_up (va_up (fun _ => none) 0 (some q3)) 1 (some q4)) 2 (some q5)) 3 (some q6)) 4 (some q7))))))), (q2, .inl (cy 8, 40, .inl (fun _ => 0))), (q3, .inr (1, [.int 0, .int 0, .int 0, .int 0, .int (-9 : Int32), .int 0])), (q4, .inr (1, [.int 0, .int 0, .int 0, .int 0, .int (-9 : Int32), .int 0])), (q5, .inr (1, [.int 0, .int 0, .int 0, .int 0, .int (-9 : Int32), .int 0])), (q6, .inr (1, [.int 0, .int 0, .int 0, .int 0, .int (-9 : Int32), .int 0])), (q7, .inr (1, [.int 0, .int 0, .int 0, .int 0, .int (-9 : Int32), .int 0])), (q8, .inr (1, [.int 0, .int 0, .int 0, .int 0, .int (-9 : Int32), .int 0]))] := hD
  refine va_astq (pc := 51) hx hb hK hP hD hS 2 1 9 1 (r := (RX1, TX1, 6)) rfl rfl rfl rfl (by unfold vp_in; decide) dX3_init_51 (fun H locs hP hD hS => ?_)
  have hP : va_P D vwCl [(h0, .inr (3, [.ref q0, .ref q1, .ref q2, .int 0, .int 0, .int 0, .int 0, .int 0])), (q0, .inl (cy 8, 4, .inl (fun _ => 0))), (q1, .inl (cy 9, 6, .inr (.inr (.inr (.inr (va_up (va_up (va_up (va_up (va_up (va_up (fun _ => none) 0 (some q3)) 1 (some q4)) 2 (some q5)) 3 (some q6)) 4 (some q7)) 5 (some q8))))))), (q2, .inl (cy 8, 40, .inl (fun _ => 0))), (q3, .inr (1, [.int 0, .int 0, .int 0, .int 0, .int (-9 : Int32), .int 0])), (q4, .inr (1, [.int 0, .int 0, .int 0, .int 0, .int (-9 : Int32), .int 0])), (q5, .inr (1, [.int 0, .int 0, .int 0, .int 0, .int (-9 : Int32), .int 0])), (q6, .inr (1, [.int 0, .int 0, .int 0, .int 0, .int (-9 : Int32), .int 0])), (q7, .inr (1, [.int 0, .int 0, .int 0, .int 0, .int (-9 : Int32), .int 0])), (q8, .inr (1, [.int 0, .int 0, .int 0, .int 0, .int (-9 : Int32), .int 0]))] H := hP
  have hD : va_D A [(h0, .inr (3, [.ref q0, .ref q1, .ref q2, .int 0, .int 0, .int 0, .int 0, .int 0])), (q0, .inl (cy 8, 4, .inl (fun _ => 0))), (q1, .inl (cy 9, 6, .inr (.inr (.inr (.inr (va_up (va_up (va_up (va_up (va_up (va_up (fun _ => none) 0 (some q3)) 1 (some q4)) 2 (some q5)) 3 (some q6)) 4 (some q7)) 5 (some q8))))))), (q2, .inl (cy 8, 40, .inl (fun _ => 0))), (q3, .inr (1, [.int 0, .int 0, .int 0, .int 0, .int (-9 : Int32), .int 0])), (q4, .inr (1, [.int 0, .int 0, .int 0, .int 0, .int (-9 : Int32), .int 0])), (q5, .inr (1, [.int 0, .int 0, .int 0, .int 0, .int (-9 : Int32), .int 0])), (q6, .inr (1, [.int 0, .int 0, .int 0, .int 0, .int (-9 : Int32), .int 0])), (q7, .inr (1, [.int 0, .int 0, .int 0, .int 0, .int (-9 : Int32), .int 0])), (q8, .inr (1, [.int 0, .int 0, .int 0, .int 0, .int (-9 : Int32), .int 0]))] := hD
  refine lv_iinc (pc := 52) (v := (6 : Int32)) (lv' := [(1, .int (6 : Int32)), (0, .ref h0)]) hx hb dX3_init_52 hl (k := 0) rfl (by decide) (by decide) rfl (fun ls hl => ?_)
  refine lv_goto (pc := 55) (tgt := 30) hx hb dX3_init_55 (by decide) ?_
  refine lv_iload_n (pc := 30) hx hb dX3_init_30 rfl (lv_at hl 0 rfl) ?_
  refine lv_aload_n (pc := 31) hx hb dX3_init_31 rfl (lv_at hl 1 rfl) ?_
  refine va_get (pc := 32) (D := D) (ci := 3) (v := .ref q1) (C := RX3) (T := TX3) (N := 8) hx hb hts inb3 hown hK hP 0 rfl rfl 1 (by decide) (hts _ tb_71) (fun _ h9 => h9) rfl dX3_init_32 ?_
  refine va_alen (pc := 35) (v := (6 : Int32)) hx hb hK hP 2 1 rfl rfl (show Int32.ofNat 6 = (6 : Int32) by decide) dX3_init_35 ?_
  refine lv_icmp_ge (pc := 36) (tgt := 58) hx hb dX3_init_36 (by decide) (fun _ => ?_) (fun c0 => absurd (by decide) c0)
  exact W.vret hx hb hr (fun t ht hW => ⟨⟨(fun i => ([q0, q1, q2, q3, q4, q5, q6, q7, q8] : List Nat).getD i 0), rfl, trivial, by rw [ht]; exact hP, va_K.moved hW.alike hK, hD⟩, hS.F ht⟩) hS.2.2 dX3_init_58
