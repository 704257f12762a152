/-! the state of a system of cells of fixed shape: ints by cell and place, longs by place; z = 0: the class, z = 1: the reference -/
abbrev kx_St : Type := (Nat → Nat → Int32) × (Nat → Int64)
def kx_sI (σ : kx_St) (a k : Nat) (v : Int32) : kx_St := (fun b j => if b = a ∧ j = k then v else σ.1 b j, σ.2)
def kx_sL (σ : kx_St) (k : Nat) (v : Int64) : kx_St := (σ.1, fun j => if j = k then v else σ.2 j)
def kx_cp (σ : kx_St) (a b sp dp n : Nat) : kx_St := (fun x j => if x = b then va_cpy (σ.1 a) (σ.1 b) sp dp n j else σ.1 x j, σ.2)
def kx_max (x y : Int32) : Int32 := if x < y then y else x
def kx_min (x y : Int32) : Int32 := if y < x then y else x
/-- the kinds of the cells: 0 to 7 the classes of vwCl, 8 int rows, 9 KITES, 10 PARISHES, 11 ROWS, 12 rows of int rows -/
def kx_kl (z : Nat) : List Nat := if z = 0 then
    [6, 11, 11, 10, 3, 3, 3, 3, 3, 4, 8, 8, 8, 8, 8, 9, 9, 9, 9, 9, 8, 8, 8, 8, 8, 8, 0, 2, 8, 12,
     1, 1, 1, 1, 1, 1, 1, 1, 1, 1, 1, 1, 1, 1, 1, 1, 1, 1, 1, 1, 1, 1, 1, 1, 1, 1, 1, 1, 1, 1,
     5, 5, 5, 5, 5, 5, 5, 5, 5, 5, 8, 8, 8, 8, 8, 8, 8, 8, 8, 8, 12, 8, 8, 8, 8, 8, 8, 8, 8, 8, 8, 8, 8, 8]
  else [7, 8, 8, 8, 8, 8, 8, 8, 8, 8, 8, 8, 8, 8, 8, 8, 8, 8, 8]
def kx_ll (z : Nat) : List Nat := if z = 0 then
    [0, 6, 4, 3, 0, 0, 0, 0, 0, 0, 4, 4, 4, 4, 4, 6, 6, 6, 6, 6, 40, 40, 40, 40, 40, 64, 0, 0, 6, 6,
     0, 0, 0, 0, 0, 0, 0, 0, 0, 0, 0, 0, 0, 0, 0, 0, 0, 0, 0, 0, 0, 0, 0, 0, 0, 0, 0, 0, 0, 0,
     0, 0, 0, 0, 0, 0, 0, 0, 0, 0, 40, 40, 40, 40, 40, 40, 60, 60, 60, 60, 7, 6, 6, 6, 6, 6, 6, 64, 64, 64, 64, 64, 64, 64]
  else [0, 2480, 4, 6, 6, 6, 6, 240, 4, 240, 6, 4, 24, 6, 6, 7, 7, 7, 7]
def kx_k (z a : Nat) : Nat := (kx_kl z).getD a 99
def kx_l (z a : Nat) : Nat := (kx_ll z).getD a 0
def kx_N (z : Nat) : Nat := (kx_kl z).length
/-- where a reference leads -/
def kx_r (z a k : Nat) : Nat := if z = 0 then
    (if a = 0 then ([1, 2, 3, 4, 5, 9, 26, 27, 28] : List Nat).getD k 0 else if a = 1 then 60 + k else if a = 2 then 66 + k else if a = 3 then 6 + k
     else if a < 9 then (if k = 0 then a + 6 else if k = 1 then a + 11 else a + 16) else if a < 20 then 30 + 6 * (a - 15) + k
     else if a = 26 then (if k = 0 then 29 else 80) else if a = 27 then 25 else if a = 29 then 81 + k else if a < 70 then a + 10 else 87 + k)
  else ([1, 2, 0, 0, 3, 4, 5, 6, 7, 8, 9, 0, 0, 0, 0, 10, 0, 0, 0, 11, 0, 12, 0, 13, 14, 15, 16, 17, 18] : List Nat).getD k 0
/-- the places of an object: 0 a reference, 1 an int, 2 a long -/
def kx_tl (ci : Nat) : List Nat := match ci with
  | 0 => [0, 0, 1]
  | 1 => [1, 1, 1, 1, 1, 1]
  | 2 => [0]
  | 3 => [0, 0, 0, 1, 1, 1, 1, 1]
  | 4 => [1]
  | 5 => [0, 1]
  | 6 => [0, 0, 0, 0, 0, 0, 0, 0, 0, 1, 1, 2, 2]
  | _ => [0, 0, 1, 1, 0, 0, 0, 0, 0, 0, 0, 1, 2, 2, 1, 0, 1, 1, 1, 0, 1, 0, 1, 0, 0, 0, 0, 0, 0]
def kx_nf (ci : Nat) : Nat := (kx_tl ci).length
def kx_t (ci k : Nat) : Nat := (kx_tl ci).getD k 9
def kx_v (z : Nat) (ad : Nat → Nat) (σ : kx_St) (a k : Nat) : Value := if kx_t (kx_k z a) k = 0 then .ref (ad (kx_r z a k)) else if kx_t (kx_k z a) k = 1 then .int (σ.1 a k) else .long (σ.2 k)
def kx_rf (ad : Nat → Nat) (o : Option Nat) : Value := match o with
  | none => .null
  | some a => .ref (ad a)
def kx_E (cy : Nat → ClassId) (z : Nat) (ad : Nat → Nat) (σ : kx_St) (a : Nat) : va_E :=
  if kx_k z a < 8 then .inr (kx_k z a, (List.range (kx_nf (kx_k z a))).map (kx_v z ad σ a))
  else if kx_k z a = 8 then .inl (cy 8, kx_l z a, .inl (σ.1 a))
  else .inl (cy (kx_k z a), kx_l z a, .inr (.inr (.inr (.inr (fun i => some (ad (kx_r z a i)))))))
def kx_ws (cy : Nat → ClassId) (z : Nat) (ad : Nat → Nat) (σ : kx_St) : va_W := (List.range (kx_N z)).map (fun a => (ad a, kx_E cy z ad σ a))
def kx_ty (k : Nat) : FieldType := if k = 8 then .int else if k = 9 then .object "KiteTaxes$Kite" else if k = 10 then .object "KiteTaxes$Parish" else if k = 11 then .object "KiteTaxes$Row" else .array .int
def kx_tys (cy : Nat → ClassId) : List (ClassId × FieldType) := [(cy 8, .int), (cy 9, .object "KiteTaxes$Kite"), (cy 10, .object "KiteTaxes$Parish"), (cy 11, .object "KiteTaxes$Row"), (cy 12, .array .int)]
theorem kx_lt {z a k : Nat} (h : kx_k z a = k) (hk : k < 99) : a < kx_N z := by
  apply Decidable.byContradiction
  intro hn
  have : kx_k z a = 99 := by
    unfold kx_k
    rw [List.getD_eq_getElem?_getD, List.getElem?_eq_none (Nat.not_lt.mp hn)]
    rfl
  omega
theorem kx_at {cy : Nat → ClassId} {z : Nat} {ad : Nat → Nat} {σ : kx_St} {a : Nat} (h : a < kx_N z) : (kx_ws cy z ad σ)[a]? = some (ad a, kx_E cy z ad σ a) := by
  unfold kx_ws
  rw [List.getElem?_map, List.getElem?_range h]
  rfl
theorem kx_aO {cy : Nat → ClassId} {z : Nat} {ad : Nat → Nat} {σ : kx_St} {a ci : Nat} (h : kx_k z a = ci) (hc : ci < 8) : (kx_ws cy z ad σ)[a]? = some (ad a, .inr (ci, (List.range (kx_nf ci)).map (kx_v z ad σ a))) := by
  rw [kx_at (kx_lt h (by omega))]
  unfold kx_E
  rw [h, if_pos hc]
theorem kx_aI {cy : Nat → ClassId} {z : Nat} {ad : Nat → Nat} {σ : kx_St} {a : Nat} (h : kx_k z a = 8) : (kx_ws cy z ad σ)[a]? = some (ad a, .inl (cy 8, kx_l z a, .inl (σ.1 a))) := by
  rw [kx_at (kx_lt h (by omega))]
  unfold kx_E
  rw [h, if_neg (by omega), if_pos rfl]
theorem kx_aR {cy : Nat → ClassId} {z : Nat} {ad : Nat → Nat} {σ : kx_St} {a k : Nat} (h : kx_k z a = k) (h1 : 8 < k) (h2 : k < 13) : (kx_ws cy z ad σ)[a]? = some (ad a, .inl (cy k, kx_l z a, .inr (.inr (.inr (.inr (fun i => some (ad (kx_r z a i)))))))) := by
  rw [kx_at (kx_lt h (by omega))]
  unfold kx_E
  rw [h, if_neg (by omega), if_neg (by omega)]
theorem kx_set {cy : Nat → ClassId} {z : Nat} {ad : Nat → Nat} {σ σ' : kx_St} {a : Nat} {e : va_E} (h1 : kx_E cy z ad σ' a = e) (h2 : ∀ b, b ≠ a → kx_E cy z ad σ' b = kx_E cy z ad σ b) : (kx_ws cy z ad σ).set a (ad a, e) = kx_ws cy z ad σ' := by
  apply List.ext_getElem?
  intro b
  by_cases hb : b < kx_N z
  · rw [kx_at hb]
    by_cases hba : b = a
    · subst hba
      rw [List.getElem?_set_self (by simpa [kx_ws] using hb), h1]
    · rw [List.getElem?_set_ne (Ne.symm hba), kx_at hb, h2 b hba]
  · rw [List.getElem?_eq_none (by simpa [kx_ws] using hb), List.getElem?_eq_none (by simpa [kx_ws] using hb)]
theorem kx_E_ne {cy : Nat → ClassId} {z : Nat} {ad : Nat → Nat} {σ σ' : kx_St} {b : Nat} (h1 : σ'.1 b = σ.1 b) (h2 : σ'.2 = σ.2) : kx_E cy z ad σ' b = kx_E cy z ad σ b := by
  have hv : kx_v z ad σ' b = kx_v z ad σ b := by
    funext k
    unfold kx_v
    rw [h1, h2]
  unfold kx_E
  rw [hv, h1]
/-- a place of an object is written -/
theorem kx_sE {cy : Nat → ClassId} {z : Nat} {ad : Nat → Nat} {σ : kx_St} {a ci k : Nat} {v : Int32} (h : kx_k z a = ci) (hc : ci < 8) (ht : kx_t ci k = 1) : kx_E cy z ad (kx_sI σ a k v) a = .inr (ci, ((List.range (kx_nf ci)).map (kx_v z ad σ a)).set k (.int v)) := by
  unfold kx_E
  rw [h, if_pos hc]
  congr 2
  apply List.ext_getElem?
  intro j
  by_cases hj : j < kx_nf ci
  · rw [List.getElem?_map, List.getElem?_range hj]
    by_cases hjk : j = k
    · subst hjk
      rw [List.getElem?_set_self (by simpa using hj)]
      simp [kx_v, h, ht, kx_sI]
    · rw [List.getElem?_set_ne (Ne.symm hjk), List.getElem?_map, List.getElem?_range hj]
      simp [kx_v, kx_sI, hjk]
  · rw [List.getElem?_eq_none (by simpa using hj), List.getElem?_eq_none (by simpa using hj)]
/-- what a world is at a state -/
def kx_Wd (D : va_G) (cy : Nat → ClassId) (z : Nat) (ad : Nat → Nat) (A : Nat → Prop) (σ : kx_St) (U : State) : Prop := va_P D vwCl (kx_ws cy z ad σ) U.heap ∧ va_K D vwCl (kx_tys cy) U ∧ va_D A (kx_ws cy z ad σ)
def kx_Qc {ρ : Type} (cv : ρ → Option Value) (post : kx_St → ρ → Prop) (B : kx_St → State → Prop) (A : Nat → Prop) : Array Value → State → Outcome → State → Prop := fun _ st oc t => (∃ (r : ρ) (u : kx_St), oc = .returned (cv r) ∧ post u r ∧ B u t) ∧ va_F A st t
def kx_ci (v : Int32) : Option Value := some (.int v)
def kx_cl (v : Int64) : Option Value := some (.long v)
def kx_cv (_ : Unit) : Option Value := none
def kx_cr (ad : Nat → Nat) (o : Option Nat) : Option Value := some (kx_rf ad o)
/-- what holds all through a method -/
def kx_Cx (p : Program) (s : State) (m : MethodId) (args : Array Value) (meth : Method) (c : Code) (D : va_G) (cy : Nat → ClassId) (own : String) (cc : ByteArray) (nL : Nat) (ret : Option FieldType) : Prop :=
  p.tables.exec = Jvm.exec ∧ c.code = cc ∧ meth.sig.returnType = ret ∧ meth.locks = false ∧ c.maxLocals = nL ∧ s.vm.findClass own = some m.cls ∧ (∀ w ∈ kx_big, w.before args s = true) ∧ va_K D vwCl (kx_tys cy) s
theorem kx_head {l : Launch} {D : va_G} {cy : Nat → ClassId} {z : Nat} {ad : Nat → Nat} {A : Nat → Prop} {σ : kx_St} {y : MethodName} {rm : Room} {av : List Value} {Qc : Array Value → State → Outcome → State → Prop} {cc : ByteArray} {nL : Nat} {ret : Option FieldType} (hy : plainFor y = true) (hn : (lg_sl av).length ≤ nL)
    (body : ∀ (p : Program) (e : Env) (s : State) (m : MethodId) (below : List Frame) (meth : Method) (c : Code) (ls : Array Slot), kx_Cx p s m av.toArray meth c D cy y.cls cc nL ret → va_P D vwCl (kx_ws cy z ad σ) s.heap → va_D A (kx_ws cy z ad σ) → va_S A s.heap s.heap [] → lv_has ls nL (lv_args 0 av) →
      W p l e (headSpec (Cond.code y cc nL ret :: kx_big) rm).room s m av.toArray below meth c s.heap [] 0 0 (MQ below Qc av.toArray s 0 0 A) (F0 m 0 ls [])) :
    Met l y (Cond.code y cc nL ret :: kx_big) rm (va_Pc av (kx_Wd D cy z ad A σ)) Qc 0 0 A := by
  refine va_MetF (cc := cc) (maxL := nL) (ret := ret) hy rfl ?_
  intro p e s m args below meth c s₁ B hml hv
  obtain ⟨rfl, hP, hK, hD⟩ := hv
  have hts := atoms_spec (ws := Cond.code y cc nL ret :: kx_big) B.pre
  have hl := lv_entry av hn
  rw [lg_entry_eq]
  exact body p e s m below meth c _ ⟨B.exec, B.bytes, B.returns, B.notSynchronized, hml, findClass_of_methodNamed B.named, fun w hw => hts w (List.mem_cons_of_mem _ hw), hK⟩ hP hD va_S.rf hl
section KX
variable {p : Program} {l : Launch} {e : Env} {R : Room} {s : State} {m : MethodId} {args : Array Value} {below : List Frame} {meth : Method} {c : Code} {H : Heap} {locs : List Loc} {cells slots : Nat} {Q : State → Prop}
variable {cc : ByteArray} {pc : Nat} {ls : Array Slot} {rest : List Value} {D : va_G} {A : Nat → Prop} {H0 : Heap} {cy : Nat → ClassId} {z : Nat} {ad : Nat → Nat} {σ : kx_St}
theorem kx_get (hexec : p.tables.exec = Jvm.exec) (hb : c.code = cc) {own C : String} {T : u_T} {N ci index a k : Nat} {v : Value} (hts : ∀ w ∈ kx_big, w.before args s = true) (hin : ∀ w ∈ u_ws C T N, w ∈ kx_big) (hown : s.vm.findClass own = some m.cls) (hK : va_K D vwCl (kx_tys cy) s) (hP : va_P D vwCl (kx_ws cy z ad σ) H)
    (ha : kx_k z a = ci) (hc : vwCl[ci]? = some (C, T, N)) (hci : ci < 8) (hk : k < N) (hN : kx_nf ci = N) (hlink : (Cond.fieldLink own index (T k).1 (T k).2.1 (T k).2.2.1).before args s = true) (hv : kx_v z ad σ a k = v) (hdg : decode cc pc = .ok (.getfield index, 3))
    (kk : W p l e R s m args below meth c H locs cells slots Q (F0 m (pc + 3) ls (v :: rest))) : W p l e R s m args below meth c H locs cells slots Q (F0 m pc ls (.ref (ad a) :: rest)) :=
  va_get hexec hb hts hin hown hK hP a (kx_aO ha hci) hc k hk hlink (fun _ h => h) (by rw [List.getElem?_map, List.getElem?_range (by omega), ← hv]; rfl) hdg kk
theorem kx_vI {a ci k : Nat} (ha : kx_k z a = ci) (ht : kx_t ci k = 1) : kx_v z ad σ a k = .int (σ.1 a k) := by unfold kx_v; rw [ha, ht]; rfl
theorem kx_vR {a ci k b : Nat} (ha : kx_k z a = ci) (ht : kx_t ci k = 0) (hr : kx_r z a k = b) : kx_v z ad σ a k = .ref (ad b) := by unfold kx_v; rw [ha, ht, hr]; rfl
theorem kx_vL {a ci k : Nat} (ha : kx_k z a = ci) (ht : kx_t ci k = 2) : kx_v z ad σ a k = .long (σ.2 k) := by unfold kx_v; rw [ha, ht]; rfl
theorem kx_put (hexec : p.tables.exec = Jvm.exec) (hb : c.code = cc) {own C : String} {T : u_T} {N ci index a k : Nat} {ty : FieldType} {v : Int32} (hts : ∀ w ∈ kx_big, w.before args s = true) (hin : ∀ w ∈ u_ws C T N, w ∈ kx_big) (ty0 : Nat → FieldType) (hty : ∀ k, k < N → parseFieldDescriptor (T k).2.2.1 = some (ty0 k)) (hnm : ∀ a, a < N → ∀ b, b < N → a ≠ b → (T a).2.1 ≠ (T b).2.1) (hown : s.vm.findClass own = some m.cls) (hK : va_K D vwCl (kx_tys cy) s) (hP : va_P D vwCl (kx_ws cy z ad σ) H) (hD : va_D A (kx_ws cy z ad σ)) (hS : va_S A H0 H locs)
    (ha : kx_k z a = ci) (hc : vwCl[ci]? = some (C, T, N)) (hci : ci < 8) (hk : k < N) (hN : kx_nf ci = N) (ht : kx_t ci k = 1) (hlink : (Cond.fieldLink own index (T k).1 (T k).2.1 (T k).2.2.1).before args s = true) (hfin : (T k).2.2.2 = false) (hd : parseFieldDescriptor (T k).2.2.1 = some ty) (hn : narrow ty (.int v) = .int v) (hfit : fits ty (.int v) = true) (hdg : decode cc pc = .ok (.putfield index, 3))
    (kk : ∀ (H1 : Heap) (locs1 : List Loc), va_P D vwCl (kx_ws cy z ad (kx_sI σ a k v)) H1 → va_D A (kx_ws cy z ad (kx_sI σ a k v)) → va_S A H0 H1 locs1 → W p l e R s m args below meth c H1 locs1 cells slots Q (F0 m (pc + 3) ls rest)) : W p l e R s m args below meth c H locs cells slots Q (F0 m pc ls (.int v :: .ref (ad a) :: rest)) := by
  have hs : (kx_ws cy z ad σ).set a (ad a, .inr (ci, ((List.range (kx_nf ci)).map (kx_v z ad σ a)).set k (.int v))) = kx_ws cy z ad (kx_sI σ a k v) :=
    kx_set (kx_sE ha hci ht) (fun b hb => kx_E_ne (by funext j; simp [kx_sI, hb]) rfl)
  refine va_put hexec hb hts hin ty0 hty hnm hown hK hP hD hS a (kx_aO ha hci) hc k hk hlink (fun _ h => h) hfin hd hn hfit (by rw [List.length_map, List.length_range]; omega) hdg (fun H1 locs1 h1 h2 h3 => ?_)
  rw [hs] at h1 h2
  exact kk H1 locs1 h1 h2 h3
theorem kx_putL (hexec : p.tables.exec = Jvm.exec) (hb : c.code = cc) {own C : String} {T : u_T} {N ci index a k : Nat} {v : Int64} (hts : ∀ w ∈ kx_big, w.before args s = true) (hin : ∀ w ∈ u_ws C T N, w ∈ kx_big) (ty0 : Nat → FieldType) (hty : ∀ k, k < N → parseFieldDescriptor (T k).2.2.1 = some (ty0 k)) (hnm : ∀ a, a < N → ∀ b, b < N → a ≠ b → (T a).2.1 ≠ (T b).2.1) (hown : s.vm.findClass own = some m.cls) (hK : va_K D vwCl (kx_tys cy) s) (hP : va_P D vwCl (kx_ws cy z ad σ) H) (hD : va_D A (kx_ws cy z ad σ)) (hS : va_S A H0 H locs)
    (ha : kx_k z a = ci) (hc : vwCl[ci]? = some (C, T, N)) (hci : ci < 8) (hk : k < N) (hN : kx_nf ci = N) (ht : kx_t ci k = 2) (hone : ∀ b, b ≠ a → kx_E cy z ad (kx_sL σ k v) b = kx_E cy z ad σ b) (hlink : (Cond.fieldLink own index (T k).1 (T k).2.1 (T k).2.2.1).before args s = true) (hfin : (T k).2.2.2 = false) (hd : parseFieldDescriptor (T k).2.2.1 = some .long) (hdg : decode cc pc = .ok (.putfield index, 3))
    (kk : ∀ (H1 : Heap) (locs1 : List Loc), va_P D vwCl (kx_ws cy z ad (kx_sL σ k v)) H1 → va_D A (kx_ws cy z ad (kx_sL σ k v)) → va_S A H0 H1 locs1 → W p l e R s m args below meth c H1 locs1 cells slots Q (F0 m (pc + 3) ls rest)) : W p l e R s m args below meth c H locs cells slots Q (F0 m pc ls (.long v :: .ref (ad a) :: rest)) := by
  have hs : (kx_ws cy z ad σ).set a (ad a, .inr (ci, ((List.range (kx_nf ci)).map (kx_v z ad σ a)).set k (.long v))) = kx_ws cy z ad (kx_sL σ k v) := by
    refine kx_set ?_ hone
    unfold kx_E
    rw [ha, if_pos hci]
    congr 2
    apply List.ext_getElem?
    intro j
    by_cases hj : j < kx_nf ci
    · rw [List.getElem?_map, List.getElem?_range hj]
      by_cases hjk : j = k
      · subst hjk
        rw [List.getElem?_set_self (by simpa using hj)]
        simp [kx_v, ha, ht, kx_sL]
      · rw [List.getElem?_set_ne (Ne.symm hjk), List.getElem?_map, List.getElem?_range hj]
        simp [kx_v, kx_sL, hjk]
    · rw [List.getElem?_eq_none (by simpa using hj), List.getElem?_eq_none (by simpa using hj)]
  refine va_put hexec hb hts hin ty0 hty hnm hown hK hP hD hS a (kx_aO ha hci) hc k hk hlink (fun _ h => h) hfin hd rfl rfl (by rw [List.length_map, List.length_range]; omega) hdg (fun H1 locs1 h1 h2 h3 => ?_)
  rw [hs] at h1 h2
  exact kk H1 locs1 h1 h2 h3
theorem kx_iald (hexec : p.tables.exec = Jvm.exec) (hb : c.code = cc) (hK : va_K D vwCl (kx_tys cy) s) (hP : va_P D vwCl (kx_ws cy z ad σ) H) {a : Nat} (ha : kx_k z a = 8) {i : Int32} (hin : vp_in i (kx_l z a)) (hdg : decode cc pc = .ok (.iaload, 1))
    (kk : W p l e R s m args below meth c H locs cells slots Q (F0 m (pc + 1) ls (.int (σ.1 a i.toNatClampNeg) :: rest))) : W p l e R s m args below meth c H locs cells slots Q (F0 m pc ls (.int i :: .ref (ad a) :: rest)) :=
  va_iald hexec hb hK hP a 0 (kx_aI ha) rfl hin hdg kk
theorem kx_iast (hexec : p.tables.exec = Jvm.exec) (hb : c.code = cc) (hK : va_K D vwCl (kx_tys cy) s) (hP : va_P D vwCl (kx_ws cy z ad σ) H) (hD : va_D A (kx_ws cy z ad σ)) (hS : va_S A H0 H locs) {a : Nat} (ha : kx_k z a = 8) {i x : Int32} (hin : vp_in i (kx_l z a)) (hdg : decode cc pc = .ok (.iastore, 1))
    (kk : ∀ (H1 : Heap) (locs1 : List Loc), va_P D vwCl (kx_ws cy z ad (kx_sI σ a i.toNatClampNeg x)) H1 → va_D A (kx_ws cy z ad (kx_sI σ a i.toNatClampNeg x)) → va_S A H0 H1 locs1 → W p l e R s m args below meth c H1 locs1 cells slots Q (F0 m (pc + 1) ls rest)) : W p l e R s m args below meth c H locs cells slots Q (F0 m pc ls (.int x :: .int i :: .ref (ad a) :: rest)) := by
  have hs : (kx_ws cy z ad σ).set a (ad a, .inl (cy 8, kx_l z a, .inl (upd (σ.1 a) i.toNatClampNeg x))) = kx_ws cy z ad (kx_sI σ a i.toNatClampNeg x) := by
    refine kx_set ?_ (fun b hb => kx_E_ne (by funext j; simp [kx_sI, hb]) rfl)
    unfold kx_E
    rw [ha, if_neg (by omega), if_pos rfl]
    congr 4
    funext j
    simp [kx_sI, upd]
  refine va_iast hexec hb hK hP hD hS a 0 (kx_aI ha) rfl hin hdg (fun H1 locs1 h1 h2 h3 => ?_)
  rw [hs] at h1 h2
  exact kk H1 locs1 h1 h2 h3
theorem kx_aald (hexec : p.tables.exec = Jvm.exec) (hb : c.code = cc) (hK : va_K D vwCl (kx_tys cy) s) (hP : va_P D vwCl (kx_ws cy z ad σ) H) {a k : Nat} (ha : kx_k z a = k) (h1 : 8 < k) (h2 : k < 13) {i : Int32} (hin : vp_in i (kx_l z a)) (hdg : decode cc pc = .ok (.aaload, 1))
    (kk : W p l e R s m args below meth c H locs cells slots Q (F0 m (pc + 1) ls (.ref (ad (kx_r z a i.toNatClampNeg)) :: rest))) : W p l e R s m args below meth c H locs cells slots Q (F0 m pc ls (.int i :: .ref (ad a) :: rest)) := by
  have hlt : i.toNatClampNeg < kx_l z a := Nat.not_le.mp fun q => hin (Or.inr q)
  have ht : (kx_tys cy)[k - 8]? = some (cy k, kx_ty k) := by
    rcases (show k = 9 ∨ k = 10 ∨ k = 11 ∨ k = 12 by omega) with rfl | rfl | rfl | rfl <;> rfl
  have hr : (kx_ty k).isReference = true := by
    rcases (show k = 9 ∨ k = 10 ∨ k = 11 ∨ k = 12 by omega) with rfl | rfl | rfl | rfl <;> rfl
  exact W.aald (v := va_rf (some (ad (kx_r z a i.toNatClampNeg)))) (ty := kx_ty k) hexec hb (hP a _ (kx_aR ha h1 h2)) ((hK.2 (k - 8) _ ht).1 (kx_l z a) (fun j => va_rf (some (ad (kx_r z a j))))) hr (fun q => by cases q) (by show ¬ (i < 0 ∨ (arrV _ _ _).slots.size ≤ _); rw [arrV_size]; exact hin) (by show (arrV _ _ _).slots[_]? = _; rw [arrV_read _ _ hlt]) rfl rfl hdg kk
theorem kx_alen (hexec : p.tables.exec = Jvm.exec) (hb : c.code = cc) (hK : va_K D vwCl (kx_tys cy) s) (hP : va_P D vwCl (kx_ws cy z ad σ) H) {a k : Nat} (ha : kx_k z a = k) (h1 : 7 < k) (h2 : k < 13) (hdg : decode cc pc = .ok (.arraylength, 1))
    (kk : W p l e R s m args below meth c H locs cells slots Q (F0 m (pc + 1) ls (.int (Int32.ofNat (kx_l z a)) :: rest))) : W p l e R s m args below meth c H locs cells slots Q (F0 m pc ls (.ref (ad a) :: rest)) := by
  by_cases hk : k = 8
  · subst hk
    exact va_alen hexec hb hK hP a 0 (kx_aI ha) rfl rfl hdg kk
  · have ht : (kx_tys cy)[k - 8]? = some (cy k, kx_ty k) := by
      rcases (show k = 9 ∨ k = 10 ∨ k = 11 ∨ k = 12 by omega) with rfl | rfl | rfl | rfl <;> rfl
    exact va_alen hexec hb hK hP a (k - 8) (kx_aR ha (by omega) h2) ht rfl hdg kk
theorem kx_copy (hexec : p.tables.exec = Jvm.exec) (hb : c.code = cc) (hml : c.maxLocals = ls.size) {own : String} {index : Nat} (hown : s.vm.findClass own = some m.cls) (hlink : (Cond.methodLink own index arraycopyName).before args s = true) (hnat : (Cond.native arraycopyName).before args s = true) (hstat : (Cond.static arraycopyName).before args s = true) (hini : (Cond.initialized "java/lang/System").before args s = true)
    (hK : va_K D vwCl (kx_tys cy) s) (hP : va_P D vwCl (kx_ws cy z ad σ) H) (hD : va_D A (kx_ws cy z ad σ)) (hS : va_S A H0 H locs) {a b : Nat} (ha : kx_k z a = 8) (hb8 : kx_k z b = 8)
    {sp dp n : Int32} (h1 : ¬ sp < 0) (h2 : ¬ dp < 0) (h3 : ¬ n < 0) (h4 : sp.toNatClampNeg + n.toNatClampNeg ≤ kx_l z a) (h5 : dp.toNatClampNeg + n.toNatClampNeg ≤ kx_l z b)
    (hframes : 1 ≤ R.frames) (hlocals : (rest.map fun v => v.category).sum + (nativeFrameWords "java/lang/System" "arraycopy" 5 + 11) ≤ R.locals) (hdg : decode cc pc = .ok (.invokestatic index, 3))
    (kk : ∀ (H1 : Heap) (locs1 : List Loc), va_P D vwCl (kx_ws cy z ad (kx_cp σ a b sp.toNatClampNeg dp.toNatClampNeg n.toNatClampNeg)) H1 → va_D A (kx_ws cy z ad (kx_cp σ a b sp.toNatClampNeg dp.toNatClampNeg n.toNatClampNeg)) → va_S A H0 H1 locs1 → W p l e R s m args below meth c H1 locs1 cells slots Q (F0 m (pc + 3) ls rest)) : W p l e R s m args below meth c H locs cells slots Q (F0 m pc ls (.int n :: .int dp :: .ref (ad b) :: .int sp :: .ref (ad a) :: rest)) := by
  have hs : (kx_ws cy z ad σ).set b (ad b, .inl (cy 8, kx_l z b, .inl (va_cpy (σ.1 a) (σ.1 b) sp.toNatClampNeg dp.toNatClampNeg n.toNatClampNeg))) = kx_ws cy z ad (kx_cp σ a b sp.toNatClampNeg dp.toNatClampNeg n.toNatClampNeg) := by
    refine kx_set ?_ (fun x hx => kx_E_ne (by funext j; simp [kx_cp, hx]) rfl)
    unfold kx_E
    rw [hb8, if_neg (by omega), if_pos rfl]
    congr 4
    funext j
    simp [kx_cp]
  refine va_copyi hexec hb hml hown hlink hnat hstat hini hK hP hD hS a b 0 0 (kx_aI ha) (kx_aI hb8) rfl rfl rfl h1 h2 h3 h4 h5 (fun _ _ => rfl) hframes hlocals hdg (fun H1 locs1 q1 q2 q3 => ?_)
  rw [hs] at q1 q2
  exact kk H1 locs1 q1 q2 q3
theorem kx_iret (hexec : p.tables.exec = Jvm.exec) (hb : c.code = cc) (hr : meth.sig.returnType = some .int) (hlocks : meth.locks = false) (hK : va_K D vwCl (kx_tys cy) s) (hP : va_P D vwCl (kx_ws cy z ad σ) H) (hD : va_D A (kx_ws cy z ad σ)) (hS : va_S A s.heap H locs) {post : kx_St → Int32 → Prop} {v : Int32} (h : post σ v) (hdg : decode cc pc = .ok (.ireturn, 1)) :
    W p l e R s m args below meth c H locs cells slots (MQ below (kx_Qc kx_ci post (kx_Wd D cy z ad A) A) args s cells slots A) (F0 m pc ls [.int v]) :=
  W.iret hexec hb hr (fun t ht hW => ⟨⟨v, σ, rfl, h, by rw [ht]; exact hP, va_K.moved hW.alike hK, hD⟩, hS.F ht⟩) hS.2.2 hdg hlocks
theorem kx_zret (hexec : p.tables.exec = Jvm.exec) (hb : c.code = cc) (hr : meth.sig.returnType = some .boolean) (hlocks : meth.locks = false) (hK : va_K D vwCl (kx_tys cy) s) (hP : va_P D vwCl (kx_ws cy z ad σ) H) (hD : va_D A (kx_ws cy z ad σ)) (hS : va_S A s.heap H locs) {post : kx_St → Int32 → Prop} {v : Int32} (hv : v = 0 ∨ v = 1) (h : post σ v) (hdg : decode cc pc = .ok (.ireturn, 1)) :
    W p l e R s m args below meth c H locs cells slots (MQ below (kx_Qc kx_ci post (kx_Wd D cy z ad A) A) args s cells slots A) (F0 m pc ls [.int v]) :=
  W.zret hexec hb hr (by rcases hv with rfl | rfl <;> rfl) (fun t ht hW => ⟨⟨v, σ, rfl, h, by rw [ht]; exact hP, va_K.moved hW.alike hK, hD⟩, hS.F ht⟩) hS.2.2 hdg hlocks
theorem kx_lret (hexec : p.tables.exec = Jvm.exec) (hb : c.code = cc) (hr : meth.sig.returnType = some .long) (hlocks : meth.locks = false) (hK : va_K D vwCl (kx_tys cy) s) (hP : va_P D vwCl (kx_ws cy z ad σ) H) (hD : va_D A (kx_ws cy z ad σ)) (hS : va_S A s.heap H locs) {post : kx_St → Int64 → Prop} {v : Int64} (h : post σ v) (hdg : decode cc pc = .ok (.lreturn, 1)) :
    W p l e R s m args below meth c H locs cells slots (MQ below (kx_Qc kx_cl post (kx_Wd D cy z ad A) A) args s cells slots A) (F0 m pc ls [.long v]) :=
  W.lret hexec hb hr (fun t ht hW => ⟨⟨v, σ, rfl, h, by rw [ht]; exact hP, va_K.moved hW.alike hK, hD⟩, hS.F ht⟩) hS.2.2 hdg hlocks
theorem kx_vret (hexec : p.tables.exec = Jvm.exec) (hb : c.code = cc) (hr : meth.sig.returnType = none) (hlocks : meth.locks = false) (hK : va_K D vwCl (kx_tys cy) s) (hP : va_P D vwCl (kx_ws cy z ad σ) H) (hD : va_D A (kx_ws cy z ad σ)) (hS : va_S A s.heap H locs) {post : kx_St → Unit → Prop} (h : post σ ()) (hdg : decode cc pc = .ok (.return_, 1)) :
    W p l e R s m args below meth c H locs cells slots (MQ below (kx_Qc kx_cv post (kx_Wd D cy z ad A) A) args s cells slots A) (F0 m pc ls []) :=
  W.vret hexec hb hr (fun t ht hW => ⟨⟨(), σ, rfl, h, by rw [ht]; exact hP, va_K.moved hW.alike hK, hD⟩, hS.F ht⟩) hS.2.2 hdg hlocks
theorem kx_aret (hexec : p.tables.exec = Jvm.exec) (hb : c.code = cc) {C : String} (hr : meth.sig.returnType = some (.object C)) (hlocks : meth.locks = false) (hK : va_K D vwCl (kx_tys cy) s) (hP : va_P D vwCl (kx_ws cy z ad σ) H) (hD : va_D A (kx_ws cy z ad σ)) (hS : va_S A s.heap H locs) {post : kx_St → Option Nat → Prop} (o : Option Nat) {w : Value} (hw : kx_rf ad o = w) (h : post σ o) (hdg : decode cc pc = .ok (.areturn, 1)) :
    W p l e R s m args below meth c H locs cells slots (MQ below (kx_Qc (kx_cr ad) post (kx_Wd D cy z ad A) A) args s cells slots A) (F0 m pc ls [w]) := by
  subst hw
  exact W.aret hexec hb hr (Or.inl ⟨_, rfl⟩) (by cases o with | none => exact Or.inl rfl | some a => exact Or.inr ⟨_, rfl⟩) (fun t ht hW => ⟨⟨o, σ, rfl, h, by rw [ht]; exact hP, va_K.moved hW.alike hK, hD⟩, hS.F ht⟩) hS.2.2 hdg hlocks
theorem kx_call {ρ : Type} {cv : ρ → Option Value} {post : kx_St → ρ → Prop} {a : Array Value} {st0 : List Value} (hr : va_Run p l e R s m args below meth c H locs cells slots 0 0 (F0 m pc ls st0) rest (kx_Qc cv post (kx_Wd D cy z ad A) A a) A) (hS : va_S A H0 H locs)
    (kk : ∀ (r : ρ) (u : kx_St) (H1 : Heap) (locs1 : List Loc), va_P D vwCl (kx_ws cy z ad u) H1 → va_D A (kx_ws cy z ad u) → va_S A H0 H1 locs1 → post u r → W p l e R s m args below meth c H1 locs1 cells slots Q (F0 m (pc + 3) ls ((cv r).toList ++ rest))) : W p l e R s m args below meth c H locs cells slots Q (F0 m pc ls st0) := by
  intro T hT X
  obtain ⟨v, st₀, t, T', L, h0, X', hL, e1, e2, ⟨⟨r, u, hv, hp, hb1, hb2, hb3⟩, hz, hk⟩, st⟩ := hr T hT X
  cases hv
  rw [h0] at hz hk
  obtain ⟨t2, a1, b1⟩ := kk r u T'.heap (locs ++ L) (by rw [e1]; exact hb1) hb3
    ⟨Nat.le_trans hS.1 (by rw [e1]; exact hz), fun q h1 h2 => by rw [e1, hk q (Nat.lt_of_lt_of_le h1 hS.1) h2]; exact hS.2.1 q h1 h2, fun q hq => by
      rcases List.mem_append.mp hq with h | h
      · exact hS.2.2 q h
      · exact hL q h⟩ hp T' rfl X'
  exact ⟨t2, st t2 a1, b1⟩
theorem kx_blind {av : List Value} : FrameBlind (va_Pc av (kx_Wd D cy z ad A σ)) := fun _ U _ _ q => ⟨q.1, q.2.1, va_K.moved (Vm.Alike.refl U.vm) q.2.2.1, q.2.2.2⟩
theorem kx_iV {ρ : Type} {cv : ρ → Option Value} {post : kx_St → ρ → Prop} {y : MethodName} {bytes : ByteArray} {maxL nL n index a ci : Nat} {ret : Option FieldType} {rm : Room} {own C : String} {T : u_T} {N : Nat} (As : List Value) {st0 : List Value} (hexec : p.tables.exec = Jvm.exec) (hb : c.code = cc) (hml : c.maxLocals = nL) (hown : s.vm.findClass own = some m.cls) (hts : ∀ w ∈ kx_big, w.before args s = true) (hK : va_K D vwCl (kx_tys cy) s) (hP : va_P D vwCl (kx_ws cy z ad σ) H) (hD : va_D A (kx_ws cy z ad σ)) (hS : va_S A H0 H locs)
    (hM : Met l y (Cond.code y bytes maxL ret :: kx_big) rm (va_Pc (.ref (ad a) :: As) (kx_Wd D cy z ad A σ)) (kx_Qc cv post (kx_Wd D cy z ad A) A) 0 0 A)
    (cw : CallW R s args own C index y bytes maxL ret (Cond.code y bytes maxL ret :: kx_big) rm 0 0 n) (ha : kx_k z a = ci) (hci : ci < 8) (hc : vwCl[ci]? = some (C, T, N)) (hn : As.length = n) (hsz : ls.size = nL) (hst : st0 = As.reverse ++ .ref (ad a) :: rest) (hw : (rest.map fun v => v.category).sum ≤ 8) (hcs : cells ≤ R.cells ∧ slots ≤ R.slots) (hdg : decode cc pc = .ok (.invokevirtual index, 3))
    (kk : ∀ (r : ρ) (u : kx_St) (H1 : Heap) (locs1 : List Loc), va_P D vwCl (kx_ws cy z ad u) H1 → va_D A (kx_ws cy z ad u) → va_S A H0 H1 locs1 → post u r → W p l e R s m args below meth c H1 locs1 cells slots Q (F0 m (pc + 3) ls ((cv r).toList ++ rest))) : W p l e R s m args below meth c H locs cells slots Q (F0 m pc ls st0) := by
  subst hst
  exact kx_call (va_runV (As := As) (rest := rest) ⟨hexec, hb, hml, hown, hts⟩ hM cw ⟨kx_blind, va_recv hK hP (ci := ci) (q0 := a) hc (kx_aO ha hci), fun U hU hW => ⟨rfl, by rw [hU]; exact hP, va_K.moved hW.alike hK, hD⟩⟩ rfl hn hsz rfl (lv_room hw) hdg hcs) hS kk
theorem kx_iS {ρ : Type} {cv : ρ → Option Value} {post : kx_St → ρ → Prop} {y : MethodName} {bytes : ByteArray} {maxL nL n index : Nat} {ret : Option FieldType} {rm : Room} {own : String} (As : List Value) {st0 : List Value} (hexec : p.tables.exec = Jvm.exec) (hb : c.code = cc) (hml : c.maxLocals = nL) (hown : s.vm.findClass own = some m.cls) (hts : ∀ w ∈ kx_big, w.before args s = true) (hK : va_K D vwCl (kx_tys cy) s) (hP : va_P D vwCl (kx_ws cy z ad σ) H) (hD : va_D A (kx_ws cy z ad σ)) (hS : va_S A H0 H locs)
    (hM : Met l y (Cond.code y bytes maxL ret :: kx_big) rm (va_Pc As (kx_Wd D cy z ad A σ)) (kx_Qc cv post (kx_Wd D cy z ad A) A) 0 0 A)
    (cw : CallB R s args own index y bytes maxL ret (Cond.code y bytes maxL ret :: kx_big) rm 0 0 n ∧ (Cond.static y).before args s = true) (hn : As.length = n) (hsz : ls.size = nL) (hst : st0 = As.reverse ++ rest) (hw : (rest.map fun v => v.category).sum ≤ 8) (hcs : cells ≤ R.cells ∧ slots ≤ R.slots) (hdg : decode cc pc = .ok (.invokestatic index, 3))
    (kk : ∀ (r : ρ) (u : kx_St) (H1 : Heap) (locs1 : List Loc), va_P D vwCl (kx_ws cy z ad u) H1 → va_D A (kx_ws cy z ad u) → va_S A H0 H1 locs1 → post u r → W p l e R s m args below meth c H1 locs1 cells slots Q (F0 m (pc + 3) ls ((cv r).toList ++ rest))) : W p l e R s m args below meth c H locs cells slots Q (F0 m pc ls st0) := by
  subst hst
  exact kx_call (va_runS (As := As) (rest := rest) ⟨hexec, hb, hml, hown, hts⟩ hM cw ⟨kx_blind, fun U hU hW => ⟨rfl, by rw [hU]; exact hP, va_K.moved hW.alike hK, hD⟩⟩ rfl hn hsz rfl (lv_room hw) hdg hcs) hS kk
end KX
theorem kx_swd {x : Int32} {lo hi : Int} (h : ∀ k : Int, lo ≤ k → k ≤ hi → x.toInt ≠ k) : x.toInt < lo ∨ hi < x.toInt := by
  by_cases h1 : x.toInt < lo
  · exact Or.inl h1
  · by_cases h2 : hi < x.toInt
    · exact Or.inr h2
    · exact absurd rfl (h x.toInt (by omega) (by omega))

theorem kx_t2 : ∀ ci, ci < 6 → ∀ j, j < kx_nf ci → kx_t ci j < 2 := by decide
theorem kx_one {cy : Nat → ClassId} {z : Nat} {ad : Nat → Nat} {σ : kx_St} {k : Nat} {v : Int64} (hz : ∀ b, b < kx_N z → b ≠ 0 → kx_k z b ≠ 6 ∧ kx_k z b ≠ 7) : ∀ b, b ≠ 0 → kx_E cy z ad (kx_sL σ k v) b = kx_E cy z ad σ b := by
  intro b hb
  unfold kx_E
  by_cases h8 : kx_k z b < 8
  · rw [if_pos h8, if_pos h8]
    have hlt : b < kx_N z := kx_lt rfl (by omega)
    have h67 := hz b hlt hb
    have hv : (List.range (kx_nf (kx_k z b))).map (kx_v z ad (kx_sL σ k v) b) = (List.range (kx_nf (kx_k z b))).map (kx_v z ad σ b) := by
      apply List.map_congr_left
      intro j hj
      have h2 := kx_t2 (kx_k z b) (by omega) j (List.mem_range.mp hj)
      unfold kx_v
      by_cases h0 : kx_t (kx_k z b) j = 0
      · rw [if_pos h0, if_pos h0]
      · have h1 : kx_t (kx_k z b) j = 1 := by omega
        rw [if_neg h0, if_neg h0, if_pos h1, if_pos h1]
        rfl
    rw [hv]
  · rw [if_neg h8, if_neg h8]
    rfl
theorem kx_one0 : ∀ b, b < kx_N 0 → b ≠ 0 → kx_k 0 b ≠ 6 ∧ kx_k 0 b ≠ 7 := by decide +kernel
theorem kx_one1 : ∀ b, b < kx_N 1 → b ≠ 0 → kx_k 1 b ≠ 6 ∧ kx_k 1 b ≠ 7 := by decide +kernel
