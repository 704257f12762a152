/-! Flyings' constructor: two grids -/
theorem kc_pl {l : List Nat} {f : Nat → va_E} {e : va_E} : va_pl ([] ++ l) (vr_up f l e) = l.map (fun a => (a, e)) := by
  unfold va_pl
  rw [List.nil_append]
  exact List.map_congr_left (fun a ha => by rw [vr_up_in ha])
theorem kc_app0 {D : va_G} {cl : List vw_C} {X : va_W} {f : Nat → va_E} {H : Heap} (h : va_P D cl X H) : va_P D cl (X ++ va_pl [] f) H := by
  show va_P D cl (X ++ []) H
  rw [List.append_nil]
  exact h
theorem kc_appD0 {A : Nat → Prop} {X : va_W} {f : Nat → va_E} (h : va_D A X) : va_D A (X ++ va_pl [] f) := by
  show va_D A (X ++ [])
  rw [List.append_nil]
  exact h
theorem kc_inner (c : ClassId) (M : Nat) : Jvm.Free.Multi.innerC c M (defaultValue .int) = vp_cell c (M, .inl (fun _ => 0)) := by
  show ({ cls := c, slots := Array.replicate M (.int 0), vm := .none } : Cell) = _
  rw [arrV_new]
  rfl
theorem kc_mP6 {D : va_G} {cl : List vw_C} {X : va_W} {r : Nat → Nat} {f : Nat → va_E} {e : va_E} {H : Heap} (h : va_P D cl (X ++ va_pl ([] ++ (List.range 6).map r) (vr_up f ((List.range 6).map r) e)) H) : va_P D cl (X ++ [(r 0, e), (r 1, e), (r 2, e), (r 3, e), (r 4, e), (r 5, e)]) H := by
  rw [kc_pl] at h
  exact h
theorem kc_mD6 {A : Nat → Prop} {X : va_W} {r : Nat → Nat} {f : Nat → va_E} {e : va_E} (h : va_D A (X ++ va_pl ([] ++ (List.range 6).map r) (vr_up f ((List.range 6).map r) e))) : va_D A (X ++ [(r 0, e), (r 1, e), (r 2, e), (r 3, e), (r 4, e), (r 5, e)]) := by
  rw [kc_pl] at h
  exact h
theorem kc_mP7 {D : va_G} {cl : List vw_C} {X : va_W} {r : Nat → Nat} {f : Nat → va_E} {e : va_E} {H : Heap} (h : va_P D cl (X ++ va_pl ([] ++ (List.range 7).map r) (vr_up f ((List.range 7).map r) e)) H) : va_P D cl (X ++ [(r 0, e), (r 1, e), (r 2, e), (r 3, e), (r 4, e), (r 5, e), (r 6, e)]) H := by
  rw [kc_pl] at h
  exact h
theorem kc_mD7 {A : Nat → Prop} {X : va_W} {r : Nat → Nat} {f : Nat → va_E} {e : va_E} (h : va_D A (X ++ va_pl ([] ++ (List.range 7).map r) (vr_up f ((List.range 7).map r) e))) : va_D A (X ++ [(r 0, e), (r 1, e), (r 2, e), (r 3, e), (r 4, e), (r 5, e), (r 6, e)]) := by
  rw [kc_pl] at h
  exact h
def wwn0_init (cy : Nat → ClassId) (h0 : Nat) (f : Nat → Nat) : va_W := [(h0, .inr (0, [.ref (f 0), .ref (f 7), .int 0])), ((f 0), .inl (cy 12, 6, .inr (.inr (.inr (.inr (fun i => if i < 6 then some (f (1 + i)) else none)))))), ((f 1), .inl (cy 8, 6, .inl (fun _ => 0))), ((f 2), .inl (cy 8, 6, .inl (fun _ => 0))), ((f 3), .inl (cy 8, 6, .inl (fun _ => 0))), ((f 4), .inl (cy 8, 6, .inl (fun _ => 0))), ((f 5), .inl (cy 8, 6, .inl (fun _ => 0))), ((f 6), .inl (cy 8, 6, .inl (fun _ => 0))), ((f 7), .inl (cy 12, 7, .inr (.inr (.inr (.inr (fun i => if i < 7 then some (f (8 + i)) else none)))))), ((f 8), .inl (cy 8, 64, .inl (fun _ => 0))), ((f 9), .inl (cy 8, 64, .inl (fun _ => 0))), ((f 10), .inl (cy 8, 64, .inl (fun _ => 0))), ((f 11), .inl (cy 8, 64, .inl (fun _ => 0))), ((f 12), .inl (cy 8, 64, .inl (fun _ => 0))), ((f 13), .inl (cy 8, 64, .inl (fun _ => 0))), ((f 14), .inl (cy 8, 64, .inl (fun _ => 0)))]
set_option maxHeartbeats 16000000 in
set_option maxRecDepth 100000 in
theorem n0_init (l : Launch) (D : va_G) (cy : Nat → ClassId) (h0 sz : Nat) : Met l yX0_init (Cond.code yX0_init cX0_init 1 none :: kx_big) ({ frames := 1, cells := 15, slots := 497, locals := 20 }) (va_Pc [.ref h0] (kc_P D cy [(h0, .inr (0, [.null, .null, .int 0]))] sz)) (va_Qv (fun _ : Nat → Nat => True) (kc_B D cy (va_A [(h0, .inr (0, [.null, .null, .int 0]))] sz) (wwn0_init cy h0)) (va_A [(h0, .inr (0, [.null, .null, .int 0]))] sz)) 15 497 (va_A [(h0, .inr (0, [.null, .null, .int 0]))] sz) := by
  refine Met.ofW (cc := cX0_init) (maxL := 1) (ret := none) (by decide) rfl ?_
  intro p e s m args below meth c s₁ B hml hv
  obtain ⟨rfl, hsz, hP, hK, hD0, hX⟩ := hv
  have hx := B.exec
  have hb := B.bytes
  have hr := B.returns
  have hts0 := atoms_spec (ws := Cond.code yX0_init cX0_init 1 none :: kx_big) B.pre
  have hts : ∀ w ∈ kx_big, w.before _ s = true := fun w hw => hts0 w (List.mem_cons_of_mem _ hw)
  have hown : s.vm.findClass RX0 = some m.cls := findClass_of_methodNamed B.named
  have hlocks := B.notSynchronized
  have hin : meth.name = "<init>" := (name_of_methodNamed B.named B.method).1
  subst hsz
  have hD := hD0.self (sz := s.heap.size)
  generalize hAe : va_A [(h0, .inr (0, [.null, .null, .int 0]))] s.heap.size = A at hD ⊢
  have hA : ∀ q : Nat, s.heap.size ≤ q → A q := fun q h => by rw [← hAe]; exact Or.inr h
  have hS : va_S A s.heap s.heap [] := va_S.rf
  have hP : va_P D vwCl [(h0, .inr (0, [.null, .null, .int 0]))] s.heap := hP
  have hl := lv_entry ([.ref h0]) (n := 1) (Nat.le_of_ble_eq_true rfl)
  rw [lg_entry_eq]
  generalize (lg_sl ([.ref h0]) ++ List.replicate (1 - (lg_sl ([.ref h0])).length) Slot.unset).toArray = ls at hl ⊢
  have hl : lv_has ls 1 [(0, .ref h0)] := hl
  refine lv_aload_n (pc := 0) hx hb dX0_init_0 rfl (lv_at hl 0 rfl) ?_
  refine W.objInit hx hb hown (hts _ tb_120) (hts _ tb_18) (hts _ tb_19) rfl (by rw [hml]; exact hl.1) rfl dX0_init_1 (Nat.le_of_ble_eq_true rfl) (Nat.le_of_ble_eq_true rfl) ?_
  refine W.eq (g2 := F0 m 4 ls []) rfl ?_
  refine lv_aload_n (pc := 4) hx hb dX0_init_4 rfl (lv_at hl 0 rfl) ?_
  refine lv_bipush (pc := 5) (v := (6 : Int32)) hx hb dX0_init_5 (by decide) ?_
  refine lv_bipush (pc := 7) (v := (6 : Int32)) hx hb dX0_init_7 (by decide) ?_
  refine va_mna (pc := 9) (X := [(h0, .inr (0, [.null, .null, .int 0]))]) (L := []) (f := fun _ => .inr (0, [])) (ty := .int) (cy := cy 8) hx hb hown (hts _ tb_121) hX.2.2.2.2 (hts _ tb_67) (hK.2 0 _ rfl).2 hK (kc_app0 hP) (kc_appD0 hD) hS hA (n := (6 : Int32)) (k := (6 : Int32)) (N' := 6) (K' := 6) (z := (6, .inl (fun _ => 0))) (by decide) (by decide) (by decide) (by decide) (by decide) (by decide) (by decide) rfl rfl (Nat.le_of_ble_eq_true rfl) (Nat.le_of_ble_eq_true rfl) (fun _ => kc_inner _ _) dX0_init_9 (fun q0 r0 cA H hr1 hr2 hK1 hP hD hS => ?_)
  have hcA : cA = cy 12 := kc_cy (i := 5) (j := 4) hK1 hK rfl rfl
  subst hcA
  clear hK1
  have hP := kc_mP6 hP
  have hD := kc_mD6 hD
  have hP : va_P D vwCl [(h0, .inr (0, [.null, .null, .int 0])), (q0, .inl (cy 12, 6, .inr (.inr (.inr (.inr (fun i => if i < 6 then some (r0 i) else none)))))), ((r0 0), .inl (cy 8, 6, .inl (fun _ => 0))), ((r0 1), .inl (cy 8, 6, .inl (fun _ => 0))), ((r0 2), .inl (cy 8, 6, .inl (fun _ => 0))), ((r0 3), .inl (cy 8, 6, .inl (fun _ => 0))), ((r0 4), .inl (cy 8, 6, .inl (fun _ => 0))), ((r0 5), .inl (cy 8, 6, .inl (fun _ => 0)))] H := hP
  have hD : va_D A [(h0, .inr (0, [.null, .null, .int 0])), (q0, .inl (cy 12, 6, .inr (.inr (.inr (.inr (fun i => if i < 6 then some (r0 i) else none)))))), ((r0 0), .inl (cy 8, 6, .inl (fun _ => 0))), ((r0 1), .inl (cy 8, 6, .inl (fun _ => 0))), ((r0 2), .inl (cy 8, 6, .inl (fun _ => 0))), ((r0 3), .inl (cy 8, 6, .inl (fun _ => 0))), ((r0 4), .inl (cy 8, 6, .inl (fun _ => 0))), ((r0 5), .inl (cy 8, 6, .inl (fun _ => 0)))] := hD
  refine va_putF (pc := 13) (D := D) (ci := 0) (v := .ref q0) (ty := .array (.array .int)) (C := RX0) (T := TX0) (N := 3) hx hb hts inb0 tyX0 tyX0_ok nmX0 hown hK hP hD hS 0 rfl rfl 0 (by decide) (hts _ tb_123) (fun _ h9 => h9) rfl hin rfl (by decide +kernel) rfl rfl (Nat.le_of_ble_eq_true rfl) dX0_init_13 (fun H locs hP hD hS => ?_)
  have hP : va_P D vwCl [(h0, .inr (0, [.ref q0, .null, .int 0])), (q0, .inl (cy 12, 6, .inr (.inr (.inr (.inr (fun i => if i < 6 then some (r0 i) else none)))))), ((r0 0), .inl (cy 8, 6, .inl (fun _ => 0))), ((r0 1), .inl (cy 8, 6, .inl (fun _ => 0))), ((r0 2), .inl (cy 8, 6, .inl (fun _ => 0))), ((r0 3), .inl (cy 8, 6, .inl (fun _ => 0))), ((r0 4), .inl (cy 8, 6, .inl (fun _ => 0))), ((r0 5), .inl (cy 8, 6, .inl (fun _ => 0)))] H := hP
  have hD : va_D A [(h0, .inr (0, [.ref q0, .null, .int 0])), (q0, .inl (cy 12, 6, .inr (.inr (.inr (.inr (fun i => if i < 6 then some (r0 i) else none)))))), ((r0 0), .inl (cy 8, 6, .inl (fun _ => 0))), ((r0 1), .inl (cy 8, 6, .inl (fun _ => 0))), ((r0 2), .inl (cy 8, 6, .inl (fun _ => 0))), ((r0 3), .inl (cy 8, 6, .inl (fun _ => 0))), ((r0 4), .inl (cy 8, 6, .inl (fun _ => 0))), ((r0 5), .inl (cy 8, 6, .inl (fun _ => 0)))] := hD
  refine lv_aload_n (pc := 16) hx hb dX0_init_16 rfl (lv_at hl 0 rfl) ?_
  refine lv_bipush (pc := 17) (v := (7 : Int32)) hx hb dX0_init_17 (by decide) ?_
  refine lv_bipush (pc := 19) (v := (64 : Int32)) hx hb dX0_init_19 (by decide) ?_
  refine va_mna (pc := 21) (X := [(h0, .inr (0, [.ref q0, .null, .int 0])), (q0, .inl (cy 12, 6, .inr (.inr (.inr (.inr (fun i => if i < 6 then some (r0 i) else none)))))), ((r0 0), .inl (cy 8, 6, .inl (fun _ => 0))), ((r0 1), .inl (cy 8, 6, .inl (fun _ => 0))), ((r0 2), .inl (cy 8, 6, .inl (fun _ => 0))), ((r0 3), .inl (cy 8, 6, .inl (fun _ => 0))), ((r0 4), .inl (cy 8, 6, .inl (fun _ => 0))), ((r0 5), .inl (cy 8, 6, .inl (fun _ => 0)))]) (L := []) (f := fun _ => .inr (0, [])) (ty := .int) (cy := cy 8) hx hb hown (hts _ tb_121) hX.2.2.2.2 (hts _ tb_67) (hK.2 0 _ rfl).2 hK (kc_app0 hP) (kc_appD0 hD) hS hA (n := (7 : Int32)) (k := (64 : Int32)) (N' := 7) (K' := 64) (z := (64, .inl (fun _ => 0))) (by decide) (by decide) (by decide) (by decide) (by decide) (by decide) (by decide) rfl rfl (Nat.le_of_ble_eq_true rfl) (Nat.le_of_ble_eq_true rfl) (fun _ => kc_inner _ _) dX0_init_21 (fun q7 r7 cA H hr1 hr2 hK1 hP hD hS => ?_)
  have hcA : cA = cy 12 := kc_cy (i := 5) (j := 4) hK1 hK rfl rfl
  subst hcA
  clear hK1
  have hP := kc_mP7 hP
  have hD := kc_mD7 hD
  have hP : va_P D vwCl [(h0, .inr (0, [.ref q0, .null, .int 0])), (q0, .inl (cy 12, 6, .inr (.inr (.inr (.inr (fun i => if i < 6 then some (r0 i) else none)))))), ((r0 0), .inl (cy 8, 6, .inl (fun _ => 0))), ((r0 1), .inl (cy 8, 6, .inl (fun _ => 0))), ((r0 2), .inl (cy 8, 6, .inl (fun _ => 0))), ((r0 3), .inl (cy 8, 6, .inl (fun _ => 0))), ((r0 4), .inl (cy 8, 6, .inl (fun _ => 0))), ((r0 5), .inl (cy 8, 6, .inl (fun _ => 0))), (q7, .inl (cy 12, 7, .inr (.inr (.inr (.inr (fun i => if i < 7 then some (r7 i) else none)))))), ((r7 0), .inl (cy 8, 64, .inl (fun _ => 0))), ((r7 1), .inl (cy 8, 64, .inl (fun _ => 0))), ((r7 2), .inl (cy 8, 64, .inl (fun _ => 0))), ((r7 3), .inl (cy 8, 64, .inl (fun _ => 0))), ((r7 4), .inl (cy 8, 64, .inl (fun _ => 0))), ((r7 5), .inl (cy 8, 64, .inl (fun _ => 0))), ((r7 6), .inl (cy 8, 64, .inl (fun _ => 0)))] H := hP
  have hD : va_D A [(h0, .inr (0, [.ref q0, .null, .int 0])), (q0, .inl (cy 12, 6, .inr (.inr (.inr (.inr (fun i => if i < 6 then some (r0 i) else none)))))), ((r0 0), .inl (cy 8, 6, .inl (fun _ => 0))), ((r0 1), .inl (cy 8, 6, .inl (fun _ => 0))), ((r0 2), .inl (cy 8, 6, .inl (fun _ => 0))), ((r0 3), .inl (cy 8, 6, .inl (fun _ => 0))), ((r0 4), .inl (cy 8, 6, .inl (fun _ => 0))), ((r0 5), .inl (cy 8, 6, .inl (fun _ => 0))), (q7, .inl (cy 12, 7, .inr (.inr (.inr (.inr (fun i => if i < 7 then some (r7 i) else none)))))), ((r7 0), .inl (cy 8, 64, .inl (fun _ => 0))), ((r7 1), .inl (cy 8, 64, .inl (fun _ => 0))), ((r7 2), .inl (cy 8, 64, .inl (fun _ => 0))), ((r7 3), .inl (cy 8, 64, .inl (fun _ => 0))), ((r7 4), .inl (cy 8, 64, .inl (fun _ => 0))), ((r7 5), .inl (cy 8, 64, .inl (fun _ => 0))), ((r7 6), .inl (cy 8, 64, .inl (fun _ => 0)))] := hD
  refine va_putF (pc := 25) (D := D) (ci := 0) (v := .ref q7) (ty := .array (.array .int)) (C := RX0) (T := TX0) (N := 3) hx hb hts inb0 tyX0 tyX0_ok nmX0 hown hK hP hD hS 0 rfl rfl 1 (by decide) (hts _ tb_124) (fun _ h9 => h9) rfl hin rfl (by decide +kernel) rfl rfl (Nat.le_of_ble_eq_true rfl) dX0_init_25 (fun H locs hP hD hS => ?_)
  have hP : va_P D vwCl [(h0, .inr (0, [.ref q0, .ref q7, .int 0])), (q0, .inl (cy 12, 6, .inr (.inr (.inr (.inr (fun i => if i < 6 then some (r0 i) else none)))))), ((r0 0), .inl (cy 8, 6, .inl (fun _ => 0))), ((r0 1), .inl (cy 8, 6, .inl (fun _ => 0))), ((r0 2), .inl (cy 8, 6, .inl (fun _ => 0))), ((r0 3), .inl (cy 8, 6, .inl (fun _ => 0))), ((r0 4), .inl (cy 8, 6, .inl (fun _ => 0))), ((r0 5), .inl (cy 8, 6, .inl (fun _ => 0))), (q7, .inl (cy 12, 7, .inr (.inr (.inr (.inr (fun i => if i < 7 then some (r7 i) else none)))))), ((r7 0), .inl (cy 8, 64, .inl (fun _ => 0))), ((r7 1), .inl (cy 8, 64, .inl (fun _ => 0))), ((r7 2), .inl (cy 8, 64, .inl (fun _ => 0))), ((r7 3), .inl (cy 8, 64, .inl (fun _ => 0))), ((r7 4), .inl (cy 8, 64, .inl (fun _ => 0))), ((r7 5), .inl (cy 8, 64, .inl (fun _ => 0))), ((r7 6), .inl (cy 8, 64, .inl (fun _ => 0)))] H := hP
  have hD : va_D A [(h0, .inr (0, [.ref q0, .ref q7, .int 0])), (q0, .inl (cy 12, 6, .inr (.inr (.inr (.inr (fun i => if i < 6 then some (r0 i) else none)))))), ((r0 0), .inl (cy 8, 6, .inl (fun _ => 0))), ((r0 1), .inl (cy 8, 6, .inl (fun _ => 0))), ((r0 2), .inl (cy 8, 6, .inl (fun _ => 0))), ((r0 3), .inl (cy 8, 6, .inl (fun _ => 0))), ((r0 4), .inl (cy 8, 6, .inl (fun _ => 0))), ((r0 5), .inl (cy 8, 6, .inl (fun _ => 0))), (q7, .inl (cy 12, 7, .inr (.inr (.inr (.inr (fun i => if i < 7 then some (r7 i) else none)))))), ((r7 0), .inl (cy 8, 64, .inl (fun _ => 0))), ((r7 1), .inl (cy 8, 64, .inl (fun _ => 0))), ((r7 2), .inl (cy 8, 64, .inl (fun _ => 0))), ((r7 3), .inl (cy 8, 64, .inl (fun _ => 0))), ((r7 4), .inl (cy 8, 64, .inl (fun _ => 0))), ((r7 5), .inl (cy 8, 64, .inl (fun _ => 0))), ((r7 6), .inl (cy 8, 64, .inl (fun _ => 0)))] := hD
  obtain ⟨u, hu⟩ : ∃ u : Nat → Nat, u = fun k => if k = 0 then q0 else if k < 7 then r0 (k - 1) else if k = 7 then q7 else r7 (k - 8) := ⟨_, rfl⟩
  have hPw := kc_refP hP (i := 1) (g := fun i => if i < 6 then some (u (1 + i)) else none) rfl (fun j hj => by subst hu; simp [hj, show ¬ 1 + j = 0 by omega, show 1 + j < 7 by omega])
  have hDw := kc_refD hD (i := 1) (g := fun i => if i < 6 then some (u (1 + i)) else none) rfl
  replace hPw := kc_refP hPw (i := 8) (g := fun i => if i < 7 then some (u (8 + i)) else none) rfl (fun j hj => by subst hu; simp [hj, show ¬ 8 + j = 0 by omega, show ¬ 8 + j < 7 by omega, show ¬ 8 + j = 7 by omega])
  replace hDw := kc_refD hDw (i := 8) (g := fun i => if i < 7 then some (u (8 + i)) else none) rfl
  have e0 : q0 = u 0 := by subst hu; rfl
  have e7 : q7 = u 7 := by subst hu; rfl
  have er0 : r0 0 = u 1 := by subst hu; rfl
  have er1 : r0 1 = u 2 := by subst hu; rfl
  have er2 : r0 2 = u 3 := by subst hu; rfl
  have er3 : r0 3 = u 4 := by subst hu; rfl
  have er4 : r0 4 = u 5 := by subst hu; rfl
  have er5 : r0 5 = u 6 := by subst hu; rfl
  have es0 : r7 0 = u 8 := by subst hu; rfl
  have es1 : r7 1 = u 9 := by subst hu; rfl
  have es2 : r7 2 = u 10 := by subst hu; rfl
  have es3 : r7 3 = u 11 := by subst hu; rfl
  have es4 : r7 4 = u 12 := by subst hu; rfl
  have es5 : r7 5 = u 13 := by subst hu; rfl
  have es6 : r7 6 = u 14 := by subst hu; rfl
  simp only [List.set, e0, e7, er0, er1, er2, er3, er4, er5, es0, es1, es2, es3, es4, es5, es6] at hPw hDw
  clear hP hD
  have hP := hPw
  have hD := hDw
  exact W.vret hx hb hr (fun t ht hW => ⟨⟨u, rfl, trivial, by rw [ht]; exact hP, va_K.moved hW.alike hK, hD⟩, hS.F ht⟩) hS.2.2 dX0_init_28
