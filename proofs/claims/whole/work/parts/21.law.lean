/-! THE CLAIM OUT OF ONE WALK OF THE LAW'S BODY. Your part is whole_start (and what it stands on); all else here is the same for every law, but numbers. -/
def R_law : String := "KiteTaxesLaw"
def lw_P (b : Addr) (xs : List Int32) (args : Array Value) (s : State) : Prop := args = #[.ref b] ∧ s.IntsAt b xs ∧ xs.length ≤ 3072 ∧ (Jvm.Cond.and given_1 narrow_1).before args s = true
def lw_Q (_ : Array Value) (s : State) (o : Outcome) (t : State) : Prop := o = .returned (some (.int 1)) ∧ Framed s o t [] 600000 7302250
def lw_Z (below : List Frame) (a : Array Value) (s : State) : State → Prop := fun t => ∃ o, t.status = .running ∧ Ended t below o ∧ lw_Q a s o t
/-- the law's own end, with 1 on the stack, nothing written that was there before, its room as the claim has it -/
theorem lw_ret {p : Program} {l : Launch} {e : Env} {s : State} {m : MethodId} {below : List Frame} {meth : Method} {c : Code} {b : Nat} (hx : p.tables.exec = Jvm.exec) (hb : c.code = code) (hr : meth.sig.returnType = ret) (hlocks : meth.locks = false) {pc : Nat} {H : Heap} {ls : Array Slot} (hdg : decode code pc = .ok (.ireturn, 1)) : W p l e room_1 s m #[Value.ref b] below meth c H [] 600000 7302250 (lw_Z below #[Value.ref b] s) (F0 m pc ls [.int 1]) := by
  intro T hT X
  obtain ⟨fs, hret, hrun, hended, hW, hframe⟩ := X.leave (v := some (.int 1)) (hlocks := hlocks) (fun h => by rw [hr] at h; cases h)
  have hmeth' : T.vm.method? m = some meth := X.method'
  refine ⟨T.setFrames fs, ?_, .returned (some (.int 1)), hrun, hended, rfl, ⟨_, rfl⟩, hW, hframe⟩
  jvm_step X.here [X.here.top, hx, hb, hdg, hmeth', hr, ret, narrow_b1]
  (try refine ⟨rfl, ?_⟩); (try refine ⟨rfl, ?_⟩)
  first | (intro acts; rw [hret _ acts rfl rfl rfl]) | rw [hret _ _ rfl rfl rfl]
  exact Steps.refl _
/-- what holds at the law's entry: the machine, the code, the tables' words (any of lw_tbl by 'hts w (by decide +kernel)'), the script of L ints xs at the cell b, what the Statement gives of the start (any of its parts by flat_of_before) -/
def lw_At (p : Program) (s : State) (m : MethodId) (meth : Method) (c : Code) (b L : Nat) (xs : Nat → Int32) : Prop :=
  p.tables.exec = Jvm.exec ∧ c.code = code ∧ meth.sig.returnType = ret ∧ c.maxLocals = 4 ∧ s.vm.findClass R_law = some m.cls ∧ (∀ w ∈ lw_tbl, w.before #[Value.ref b] s = true) ∧ va_X b L xs s s.heap ∧ b < s.heap.size ∧ meth.locks = false ∧ (Jvm.Cond.and given_1 narrow_1).before #[Value.ref b] s = true
theorem cwL_13 {R : Room} {s : State} {args : Array Value} (hts : ∀ w ∈ kx_big, w.before args s = true) (hR : rm6_row.frames + 1 ≤ R.frames ∧ 8 + (3 + 11) + rm6_row.locals ≤ R.locals) : CallW R s args RL RX6 13 yX6_row cX6_row 3 (some .int) (Cond.code yX6_row cX6_row 3 (some .int) :: kx_big) rm6_row 0 0 2 := cwV 2 hts (kx_gd0 (kx_mV tb_202 tb_203 tb_204 tb_1 tb_205)) rfl rfl rfl (by decide +kernel) hR
theorem cwL_17 {R : Room} {s : State} {args : Array Value} (hts : ∀ w ∈ kx_big, w.before args s = true) (hR : rm7_row.frames + 1 ≤ R.frames ∧ 8 + (3 + 11) + rm7_row.locals ≤ R.locals) : CallW R s args RL RX7 17 yX7_row cX7_row 3 (some .int) (Cond.code yX7_row cX7_row 3 (some .int) :: kx_big) rm7_row 0 0 2 := cwV 2 hts (kx_gd0 (kx_mV tb_809 tb_810 tb_811 tb_9 tb_812)) rfl rfl rfl (by decide +kernel) hR
theorem cwL_18 {R : Room} {s : State} {args : Array Value} (hts : ∀ w ∈ kx_big, w.before args s = true) (hR : rm6_lay.frames + 1 ≤ R.frames ∧ 8 + (5 + 11) + rm6_lay.locals ≤ R.locals) : CallW R s args RL RX6 18 yX6_lay cX6_lay 5 (some .int) (Cond.code yX6_lay cX6_lay 5 (some .int) :: kx_big) rm6_lay 0 0 3 := cwV 3 hts (kx_gd0 (kx_mV tb_232 tb_233 tb_234 tb_1 tb_235)) rfl rfl rfl (by decide +kernel) hR
theorem cwL_22 {R : Room} {s : State} {args : Array Value} (hts : ∀ w ∈ kx_big, w.before args s = true) (hR : rm7_lay.frames + 1 ≤ R.frames ∧ 8 + (6 + 11) + rm7_lay.locals ≤ R.locals) : CallW R s args RL RX7 22 yX7_lay cX7_lay 6 (some .int) (Cond.code yX7_lay cX7_lay 6 (some .int) :: kx_big) rm7_lay 0 0 3 := cwV 3 hts (kx_gd0 (kx_mV tb_828 tb_829 tb_830 tb_9 tb_831)) rfl rfl rfl (by decide +kernel) hR
theorem cwL_23 {R : Room} {s : State} {args : Array Value} (hts : ∀ w ∈ kx_big, w.before args s = true) (hR : rm6_at.frames + 1 ≤ R.frames ∧ 8 + (4 + 11) + rm6_at.locals ≤ R.locals) : CallW R s args RL RX6 23 yX6_at cX6_at 4 (some .int) (Cond.code yX6_at cX6_at 4 (some .int) :: kx_big) rm6_at 0 0 2 := cwV 2 hts (kx_gd0 (kx_mV tb_246 tb_247 tb_248 tb_1 tb_249)) rfl rfl rfl (by decide +kernel) hR
theorem cwL_26 {R : Room} {s : State} {args : Array Value} (hts : ∀ w ∈ kx_big, w.before args s = true) (hR : rm7_at.frames + 1 ≤ R.frames ∧ 8 + (4 + 11) + rm7_at.locals ≤ R.locals) : CallW R s args RL RX7 26 yX7_at cX7_at 4 (some .int) (Cond.code yX7_at cX7_at 4 (some .int) :: kx_big) rm7_at 0 0 2 := cwV 2 hts (kx_gd0 (kx_mV tb_840 tb_841 tb_842 tb_9 tb_843)) rfl rfl rfl (by decide +kernel) hR
theorem cwL_27 {R : Room} {s : State} {args : Array Value} (hts : ∀ w ∈ kx_big, w.before args s = true) (hR : rm6_tear.frames + 1 ≤ R.frames ∧ 8 + (3 + 11) + rm6_tear.locals ≤ R.locals) : CallW R s args RL RX6 27 yX6_tear cX6_tear 3 (some .int) (Cond.code yX6_tear cX6_tear 3 (some .int) :: kx_big) rm6_tear 0 0 1 := cwV 1 hts (kx_gd0 (kx_mV tb_250 tb_251 tb_252 tb_1 tb_253)) rfl rfl rfl (by decide +kernel) hR
theorem cwL_31 {R : Room} {s : State} {args : Array Value} (hts : ∀ w ∈ kx_big, w.before args s = true) (hR : rm7_tear.frames + 1 ≤ R.frames ∧ 8 + (2 + 11) + rm7_tear.locals ≤ R.locals) : CallW R s args RL RX7 31 yX7_tear cX7_tear 2 (some .int) (Cond.code yX7_tear cX7_tear 2 (some .int) :: kx_big) rm7_tear 0 0 1 := cwV 1 hts (kx_gd0 (kx_mV tb_844 tb_845 tb_846 tb_9 tb_847)) rfl rfl rfl (by decide +kernel) hR
theorem cwL_32 {R : Room} {s : State} {args : Array Value} (hts : ∀ w ∈ kx_big, w.before args s = true) (hR : rm6_copy.frames + 1 ≤ R.frames ∧ 8 + (8 + 11) + rm6_copy.locals ≤ R.locals) : CallW R s args RL RX6 32 yX6_copy cX6_copy 8 (some .int) (Cond.code yX6_copy cX6_copy 8 (some .int) :: kx_big) rm6_copy 0 0 5 := cwV 5 hts (kx_gd0 (kx_mV tb_258 tb_259 tb_260 tb_1 tb_261)) rfl rfl rfl (by decide +kernel) hR
theorem cwL_36 {R : Room} {s : State} {args : Array Value} (hts : ∀ w ∈ kx_big, w.before args s = true) (hR : rm7_copy.frames + 1 ≤ R.frames ∧ 8 + (9 + 11) + rm7_copy.locals ≤ R.locals) : CallW R s args RL RX7 36 yX7_copy cX7_copy 9 (some .int) (Cond.code yX7_copy cX7_copy 9 (some .int) :: kx_big) rm7_copy 0 0 5 := cwV 5 hts (kx_gd0 (kx_mV tb_848 tb_849 tb_850 tb_9 tb_851)) rfl rfl rfl (by decide +kernel) hR
theorem cwL_37 {R : Room} {s : State} {args : Array Value} (hts : ∀ w ∈ kx_big, w.before args s = true) (hR : rm6_mean.frames + 1 ≤ R.frames ∧ 8 + (6 + 11) + rm6_mean.locals ≤ R.locals) : CallW R s args RL RX6 37 yX6_mean cX6_mean 6 (some .int) (Cond.code yX6_mean cX6_mean 6 (some .int) :: kx_big) rm6_mean 0 0 1 := cwV 1 hts (kx_gd0 (kx_mV tb_269 tb_270 tb_271 tb_1 tb_272)) rfl rfl rfl (by decide +kernel) hR
theorem cwL_40 {R : Room} {s : State} {args : Array Value} (hts : ∀ w ∈ kx_big, w.before args s = true) (hR : rm7_mean.frames + 1 ≤ R.frames ∧ 8 + (5 + 11) + rm7_mean.locals ≤ R.locals) : CallW R s args RL RX7 40 yX7_mean cX7_mean 5 (some .int) (Cond.code yX7_mean cX7_mean 5 (some .int) :: kx_big) rm7_mean 0 0 1 := cwV 1 hts (kx_gd0 (kx_mV tb_856 tb_857 tb_858 tb_9 tb_859)) rfl rfl rfl (by decide +kernel) hR
theorem cwL_41 {R : Room} {s : State} {args : Array Value} (hts : ∀ w ∈ kx_big, w.before args s = true) (hR : rm6_text.frames + 1 ≤ R.frames ∧ 8 + (3 + 11) + rm6_text.locals ≤ R.locals) : CallW R s args RL RX6 41 yX6_text cX6_text 3 (some .int) (Cond.code yX6_text cX6_text 3 (some .int) :: kx_big) rm6_text 0 0 2 := cwV 2 hts (kx_gd0 (kx_mV tb_273 tb_274 tb_275 tb_1 tb_276)) rfl rfl rfl (by decide +kernel) hR
theorem cwL_44 {R : Room} {s : State} {args : Array Value} (hts : ∀ w ∈ kx_big, w.before args s = true) (hR : rm7_text.frames + 1 ≤ R.frames ∧ 8 + (4 + 11) + rm7_text.locals ≤ R.locals) : CallW R s args RL RX7 44 yX7_text cX7_text 4 (some .int) (Cond.code yX7_text cX7_text 4 (some .int) :: kx_big) rm7_text 0 0 2 := cwV 2 hts (kx_gd0 (kx_mV tb_860 tb_861 tb_862 tb_9 tb_863)) rfl rfl rfl (by decide +kernel) hR
theorem cwL_45 {R : Room} {s : State} {args : Array Value} (hts : ∀ w ∈ kx_big, w.before args s = true) (hR : rm6_put.frames + 1 ≤ R.frames ∧ 8 + (6 + 11) + rm6_put.locals ≤ R.locals) : CallW R s args RL RX6 45 yX6_put cX6_put 6 (some .int) (Cond.code yX6_put cX6_put 6 (some .int) :: kx_big) rm6_put 0 0 3 := cwV 3 hts (kx_gd0 (kx_mV tb_277 tb_278 tb_279 tb_1 tb_280)) rfl rfl rfl (by decide +kernel) hR
theorem cwL_48 {R : Room} {s : State} {args : Array Value} (hts : ∀ w ∈ kx_big, w.before args s = true) (hR : rm7_put.frames + 1 ≤ R.frames ∧ 8 + (5 + 11) + rm7_put.locals ≤ R.locals) : CallW R s args RL RX7 48 yX7_put cX7_put 5 (some .int) (Cond.code yX7_put cX7_put 5 (some .int) :: kx_big) rm7_put 0 0 3 := cwV 3 hts (kx_gd0 (kx_mV tb_868 tb_869 tb_870 tb_9 tb_871)) rfl rfl rfl (by decide +kernel) hR
theorem cwL_49 {R : Room} {s : State} {args : Array Value} (hts : ∀ w ∈ kx_big, w.before args s = true) (hR : rm6_fault.frames + 1 ≤ R.frames ∧ 8 + (3 + 11) + rm6_fault.locals ≤ R.locals) : CallW R s args RL RX6 49 yX6_fault cX6_fault 3 (some .int) (Cond.code yX6_fault cX6_fault 3 (some .int) :: kx_big) rm6_fault 0 0 1 := cwV 1 hts (kx_gd0 (kx_mV tb_281 tb_282 tb_283 tb_1 tb_284)) rfl rfl rfl (by decide +kernel) hR
theorem cwL_52 {R : Room} {s : State} {args : Array Value} (hts : ∀ w ∈ kx_big, w.before args s = true) (hR : rm7_fault.frames + 1 ≤ R.frames ∧ 8 + (2 + 11) + rm7_fault.locals ≤ R.locals) : CallW R s args RL RX7 52 yX7_fault cX7_fault 2 (some .int) (Cond.code yX7_fault cX7_fault 2 (some .int) :: kx_big) rm7_fault 0 0 1 := cwV 1 hts (kx_gd0 (kx_mV tb_872 tb_873 tb_874 tb_9 tb_875)) rfl rfl rfl (by decide +kernel) hR
theorem cwL_53 {R : Room} {s : State} {args : Array Value} (hts : ∀ w ∈ kx_big, w.before args s = true) (hR : rm6_parish.frames + 1 ≤ R.frames ∧ 8 + (4 + 11) + rm6_parish.locals ≤ R.locals) : CallW R s args RL RX6 53 yX6_parish cX6_parish 4 (some .int) (Cond.code yX6_parish cX6_parish 4 (some .int) :: kx_big) rm6_parish 0 0 1 := cwV 1 hts (kx_gd0 (kx_mV tb_318 tb_319 tb_320 tb_1 tb_321)) rfl rfl rfl (by decide +kernel) hR
theorem cwL_56 {R : Room} {s : State} {args : Array Value} (hts : ∀ w ∈ kx_big, w.before args s = true) (hR : rm7_parish.frames + 1 ≤ R.frames ∧ 8 + (3 + 11) + rm7_parish.locals ≤ R.locals) : CallW R s args RL RX7 56 yX7_parish cX7_parish 3 (some .int) (Cond.code yX7_parish cX7_parish 3 (some .int) :: kx_big) rm7_parish 0 0 1 := cwV 1 hts (kx_gd0 (kx_mV tb_903 tb_904 tb_905 tb_9 tb_906)) rfl rfl rfl (by decide +kernel) hR
theorem cwL_57 {R : Room} {s : State} {args : Array Value} (hts : ∀ w ∈ kx_big, w.before args s = true) (hR : rm6_kite.frames + 1 ≤ R.frames ∧ 8 + (4 + 11) + rm6_kite.locals ≤ R.locals) : CallW R s args RL RX6 57 yX6_kite cX6_kite 4 (some .int) (Cond.code yX6_kite cX6_kite 4 (some .int) :: kx_big) rm6_kite 0 0 2 := cwV 2 hts (kx_gd0 (kx_mV tb_331 tb_332 tb_333 tb_1 tb_334)) rfl rfl rfl (by decide +kernel) hR
theorem cwL_60 {R : Room} {s : State} {args : Array Value} (hts : ∀ w ∈ kx_big, w.before args s = true) (hR : rm7_kite.frames + 1 ≤ R.frames ∧ 8 + (3 + 11) + rm7_kite.locals ≤ R.locals) : CallW R s args RL RX7 60 yX7_kite cX7_kite 3 (some .int) (Cond.code yX7_kite cX7_kite 3 (some .int) :: kx_big) rm7_kite 0 0 2 := cwV 2 hts (kx_gd0 (kx_mV tb_907 tb_908 tb_909 tb_9 tb_910)) rfl rfl rfl (by decide +kernel) hR
theorem cwL_61 {R : Room} {s : State} {args : Array Value} (hts : ∀ w ∈ kx_big, w.before args s = true) (hR : rm6_mark.frames + 1 ≤ R.frames ∧ 8 + (5 + 11) + rm6_mark.locals ≤ R.locals) : CallW R s args RL RX6 61 yX6_mark cX6_mark 5 (some .int) (Cond.code yX6_mark cX6_mark 5 (some .int) :: kx_big) rm6_mark 0 0 2 := cwV 2 hts (kx_gd0 (kx_mV tb_367 tb_368 tb_369 tb_1 tb_370)) rfl rfl rfl (by decide +kernel) hR
theorem cwL_64 {R : Room} {s : State} {args : Array Value} (hts : ∀ w ∈ kx_big, w.before args s = true) (hR : rm7_mark.frames + 1 ≤ R.frames ∧ 8 + (5 + 11) + rm7_mark.locals ≤ R.locals) : CallW R s args RL RX7 64 yX7_mark cX7_mark 5 (some .int) (Cond.code yX7_mark cX7_mark 5 (some .int) :: kx_big) rm7_mark 0 0 2 := cwV 2 hts (kx_gd0 (kx_mV tb_942 tb_943 tb_944 tb_9 tb_945)) rfl rfl rfl (by decide +kernel) hR
theorem cwL_65 {R : Room} {s : State} {args : Array Value} (hts : ∀ w ∈ kx_big, w.before args s = true) (hR : rm6_lifts.frames + 1 ≤ R.frames ∧ 8 + (4 + 11) + rm6_lifts.locals ≤ R.locals) : CallW R s args RL RX6 65 yX6_lifts cX6_lifts 4 (some .int) (Cond.code yX6_lifts cX6_lifts 4 (some .int) :: kx_big) rm6_lifts 0 0 2 := cwV 2 hts (kx_gd0 (kx_mV tb_389 tb_390 tb_391 tb_1 tb_392)) rfl rfl rfl (by decide +kernel) hR
theorem cwL_68 {R : Room} {s : State} {args : Array Value} (hts : ∀ w ∈ kx_big, w.before args s = true) (hR : rm7_lifts.frames + 1 ≤ R.frames ∧ 8 + (3 + 11) + rm7_lifts.locals ≤ R.locals) : CallW R s args RL RX7 68 yX7_lifts cX7_lifts 3 (some .int) (Cond.code yX7_lifts cX7_lifts 3 (some .int) :: kx_big) rm7_lifts 0 0 2 := cwV 2 hts (kx_gd0 (kx_mV tb_962 tb_963 tb_964 tb_9 tb_965)) rfl rfl rfl (by decide +kernel) hR
theorem cwL_69 {R : Room} {s : State} {args : Array Value} (hts : ∀ w ∈ kx_big, w.before args s = true) (hR : rm6_pays.frames + 1 ≤ R.frames ∧ 8 + (4 + 11) + rm6_pays.locals ≤ R.locals) : CallW R s args RL RX6 69 yX6_pays cX6_pays 4 (some .int) (Cond.code yX6_pays cX6_pays 4 (some .int) :: kx_big) rm6_pays 0 0 2 := cwV 2 hts (kx_gd0 (kx_mV tb_396 tb_397 tb_398 tb_1 tb_399)) rfl rfl rfl (by decide +kernel) hR
theorem cwL_72 {R : Room} {s : State} {args : Array Value} (hts : ∀ w ∈ kx_big, w.before args s = true) (hR : rm7_pays.frames + 1 ≤ R.frames ∧ 8 + (3 + 11) + rm7_pays.locals ≤ R.locals) : CallW R s args RL RX7 72 yX7_pays cX7_pays 3 (some .int) (Cond.code yX7_pays cX7_pays 3 (some .int) :: kx_big) rm7_pays 0 0 2 := cwV 2 hts (kx_gd0 (kx_mV tb_967 tb_968 tb_969 tb_9 tb_970)) rfl rfl rfl (by decide +kernel) hR
theorem cwL_73 {R : Room} {s : State} {args : Array Value} (hts : ∀ w ∈ kx_big, w.before args s = true) (hR : rm6_fly.frames + 1 ≤ R.frames ∧ 8 + (3 + 11) + rm6_fly.locals ≤ R.locals) : CallW R s args RL RX6 73 yX6_fly cX6_fly 3 (some .int) (Cond.code yX6_fly cX6_fly 3 (some .int) :: kx_big) rm6_fly 0 0 1 := cwV 1 hts (kx_gd0 (kx_mV tb_400 tb_401 tb_402 tb_1 tb_403)) rfl rfl rfl (by decide +kernel) hR
theorem cwL_76 {R : Room} {s : State} {args : Array Value} (hts : ∀ w ∈ kx_big, w.before args s = true) (hR : rm7_fly.frames + 1 ≤ R.frames ∧ 8 + (2 + 11) + rm7_fly.locals ≤ R.locals) : CallW R s args RL RX7 76 yX7_fly cX7_fly 2 (some .int) (Cond.code yX7_fly cX7_fly 2 (some .int) :: kx_big) rm7_fly 0 0 1 := cwV 1 hts (kx_gd0 (kx_mV tb_971 tb_972 tb_973 tb_9 tb_974)) rfl rfl rfl (by decide +kernel) hR
theorem cwL_77 {R : Room} {s : State} {args : Array Value} (hts : ∀ w ∈ kx_big, w.before args s = true) (hR : rm6_rest.frames + 1 ≤ R.frames ∧ 8 + (1 + 11) + rm6_rest.locals ≤ R.locals) : CallW R s args RL RX6 77 yX6_rest cX6_rest 1 (some .int) (Cond.code yX6_rest cX6_rest 1 (some .int) :: kx_big) rm6_rest 0 0 0 := cwV 0 hts (kx_gd0 (kx_mV tb_426 tb_427 tb_428 tb_1 tb_429)) rfl rfl rfl (by decide +kernel) hR
theorem cwL_81 {R : Room} {s : State} {args : Array Value} (hts : ∀ w ∈ kx_big, w.before args s = true) (hR : rm7_rest.frames + 1 ≤ R.frames ∧ 8 + (1 + 11) + rm7_rest.locals ≤ R.locals) : CallW R s args RL RX7 81 yX7_rest cX7_rest 1 (some .int) (Cond.code yX7_rest cX7_rest 1 (some .int) :: kx_big) rm7_rest 0 0 0 := cwV 0 hts (kx_gd0 (kx_mV tb_983 tb_984 tb_985 tb_9 tb_986)) rfl rfl rfl (by decide +kernel) hR
theorem cwL_82 {R : Room} {s : State} {args : Array Value} (hts : ∀ w ∈ kx_big, w.before args s = true) (hR : rm6_tie.frames + 1 ≤ R.frames ∧ 8 + (3 + 11) + rm6_tie.locals ≤ R.locals) : CallW R s args RL RX6 82 yX6_tie cX6_tie 3 (some .int) (Cond.code yX6_tie cX6_tie 3 (some .int) :: kx_big) rm6_tie 0 0 1 := cwV 1 hts (kx_gd0 (kx_mV tb_438 tb_439 tb_440 tb_1 tb_441)) rfl rfl rfl (by decide +kernel) hR
theorem cwL_85 {R : Room} {s : State} {args : Array Value} (hts : ∀ w ∈ kx_big, w.before args s = true) (hR : rm7_tie.frames + 1 ≤ R.frames ∧ 8 + (2 + 11) + rm7_tie.locals ≤ R.locals) : CallW R s args RL RX7 85 yX7_tie cX7_tie 2 (some .int) (Cond.code yX7_tie cX7_tie 2 (some .int) :: kx_big) rm7_tie 0 0 1 := cwV 1 hts (kx_gd0 (kx_mV tb_987 tb_988 tb_989 tb_9 tb_990)) rfl rfl rfl (by decide +kernel) hR
theorem cwL_86 {R : Room} {s : State} {args : Array Value} (hts : ∀ w ∈ kx_big, w.before args s = true) (hR : rm6_cut.frames + 1 ≤ R.frames ∧ 8 + (3 + 11) + rm6_cut.locals ≤ R.locals) : CallW R s args RL RX6 86 yX6_cut cX6_cut 3 (some .int) (Cond.code yX6_cut cX6_cut 3 (some .int) :: kx_big) rm6_cut 0 0 1 := cwV 1 hts (kx_gd0 (kx_mV tb_446 tb_447 tb_448 tb_1 tb_449)) rfl rfl rfl (by decide +kernel) hR
theorem cwL_89 {R : Room} {s : State} {args : Array Value} (hts : ∀ w ∈ kx_big, w.before args s = true) (hR : rm7_cut.frames + 1 ≤ R.frames ∧ 8 + (2 + 11) + rm7_cut.locals ≤ R.locals) : CallW R s args RL RX7 89 yX7_cut cX7_cut 2 (some .int) (Cond.code yX7_cut cX7_cut 2 (some .int) :: kx_big) rm7_cut 0 0 1 := cwV 1 hts (kx_gd0 (kx_mV tb_995 tb_996 tb_997 tb_9 tb_998)) rfl rfl rfl (by decide +kernel) hR
theorem cwL_90 {R : Room} {s : State} {args : Array Value} (hts : ∀ w ∈ kx_big, w.before args s = true) (hR : rm6_undo.frames + 1 ≤ R.frames ∧ 8 + (4 + 11) + rm6_undo.locals ≤ R.locals) : CallW R s args RL RX6 90 yX6_undo cX6_undo 4 (some .int) (Cond.code yX6_undo cX6_undo 4 (some .int) :: kx_big) rm6_undo 0 0 1 := cwV 1 hts (kx_gd0 (kx_mV tb_454 tb_455 tb_456 tb_1 tb_457)) rfl rfl rfl (by decide +kernel) hR
theorem cwL_93 {R : Room} {s : State} {args : Array Value} (hts : ∀ w ∈ kx_big, w.before args s = true) (hR : rm7_undo.frames + 1 ≤ R.frames ∧ 8 + (4 + 11) + rm7_undo.locals ≤ R.locals) : CallW R s args RL RX7 93 yX7_undo cX7_undo 4 (some .int) (Cond.code yX7_undo cX7_undo 4 (some .int) :: kx_big) rm7_undo 0 0 1 := cwV 1 hts (kx_gd0 (kx_mV tb_999 tb_1000 tb_1001 tb_9 tb_1002)) rfl rfl rfl (by decide +kernel) hR
theorem cwL_94 {R : Room} {s : State} {args : Array Value} (hts : ∀ w ∈ kx_big, w.before args s = true) (hR : rm6_keep.frames + 1 ≤ R.frames ∧ 8 + (2 + 11) + rm6_keep.locals ≤ R.locals) : CallW R s args RL RX6 94 yX6_keep cX6_keep 2 (some .int) (Cond.code yX6_keep cX6_keep 2 (some .int) :: kx_big) rm6_keep 0 0 1 := cwV 1 hts (kx_gd0 (kx_mV tb_462 tb_463 tb_464 tb_1 tb_465)) rfl rfl rfl (by decide +kernel) hR
theorem cwL_97 {R : Room} {s : State} {args : Array Value} (hts : ∀ w ∈ kx_big, w.before args s = true) (hR : rm7_keep.frames + 1 ≤ R.frames ∧ 8 + (2 + 11) + rm7_keep.locals ≤ R.locals) : CallW R s args RL RX7 97 yX7_keep cX7_keep 2 (some .int) (Cond.code yX7_keep cX7_keep 2 (some .int) :: kx_big) rm7_keep 0 0 1 := cwV 1 hts (kx_gd0 (kx_mV tb_1003 tb_1004 tb_1005 tb_9 tb_1006)) rfl rfl rfl (by decide +kernel) hR
theorem cwL_98 {R : Room} {s : State} {args : Array Value} (hts : ∀ w ∈ kx_big, w.before args s = true) (hR : rm6_on.frames + 1 ≤ R.frames ∧ 8 + (2 + 11) + rm6_on.locals ≤ R.locals) : CallW R s args RL RX6 98 yX6_on cX6_on 2 (some .int) (Cond.code yX6_on cX6_on 2 (some .int) :: kx_big) rm6_on 0 0 1 := cwV 1 hts (kx_gd0 (kx_mV tb_466 tb_467 tb_468 tb_1 tb_469)) rfl rfl rfl (by decide +kernel) hR
theorem cwL_101 {R : Room} {s : State} {args : Array Value} (hts : ∀ w ∈ kx_big, w.before args s = true) (hR : rm7_on.frames + 1 ≤ R.frames ∧ 8 + (2 + 11) + rm7_on.locals ≤ R.locals) : CallW R s args RL RX7 101 yX7_on cX7_on 2 (some .int) (Cond.code yX7_on cX7_on 2 (some .int) :: kx_big) rm7_on 0 0 1 := cwV 1 hts (kx_gd0 (kx_mV tb_1012 tb_1013 tb_1014 tb_9 tb_1015)) rfl rfl rfl (by decide +kernel) hR
theorem cwL_102 {R : Room} {s : State} {args : Array Value} (hts : ∀ w ∈ kx_big, w.before args s = true) (hR : rm6_most.frames + 1 ≤ R.frames ∧ 8 + (5 + 11) + rm6_most.locals ≤ R.locals) : CallW R s args RL RX6 102 yX6_most cX6_most 5 (some .int) (Cond.code yX6_most cX6_most 5 (some .int) :: kx_big) rm6_most 0 0 2 := cwV 2 hts (kx_gd0 (kx_mV tb_470 tb_471 tb_472 tb_1 tb_473)) rfl rfl rfl (by decide +kernel) hR
theorem cwL_105 {R : Room} {s : State} {args : Array Value} (hts : ∀ w ∈ kx_big, w.before args s = true) (hR : rm7_most.frames + 1 ≤ R.frames ∧ 8 + (4 + 11) + rm7_most.locals ≤ R.locals) : CallW R s args RL RX7 105 yX7_most cX7_most 4 (some .int) (Cond.code yX7_most cX7_most 4 (some .int) :: kx_big) rm7_most 0 0 2 := cwV 2 hts (kx_gd0 (kx_mV tb_1016 tb_1017 tb_1018 tb_9 tb_1019)) rfl rfl rfl (by decide +kernel) hR
theorem cwL_106 {R : Room} {s : State} {args : Array Value} (hts : ∀ w ∈ kx_big, w.before args s = true) (hR : rm6_school.frames + 1 ≤ R.frames ∧ 8 + (4 + 11) + rm6_school.locals ≤ R.locals) : CallW R s args RL RX6 106 yX6_school cX6_school 4 (some .int) (Cond.code yX6_school cX6_school 4 (some .int) :: kx_big) rm6_school 0 0 1 := cwV 1 hts (kx_gd0 (kx_mV tb_518 tb_519 tb_520 tb_1 tb_521)) rfl rfl rfl (by decide +kernel) hR
theorem cwL_109 {R : Room} {s : State} {args : Array Value} (hts : ∀ w ∈ kx_big, w.before args s = true) (hR : rm7_school.frames + 1 ≤ R.frames ∧ 8 + (3 + 11) + rm7_school.locals ≤ R.locals) : CallW R s args RL RX7 109 yX7_school cX7_school 3 (some .int) (Cond.code yX7_school cX7_school 3 (some .int) :: kx_big) rm7_school 0 0 1 := cwV 1 hts (kx_gd0 (kx_mV tb_1040 tb_1041 tb_1042 tb_9 tb_1043)) rfl rfl rfl (by decide +kernel) hR
theorem cwL_110 {R : Room} {s : State} {args : Array Value} (hts : ∀ w ∈ kx_big, w.before args s = true) (hR : rm6_flown.frames + 1 ≤ R.frames ∧ 8 + (8 + 11) + rm6_flown.locals ≤ R.locals) : CallW R s args RL RX6 110 yX6_flown cX6_flown 8 (some .int) (Cond.code yX6_flown cX6_flown 8 (some .int) :: kx_big) rm6_flown 0 0 1 := cwV 1 hts (kx_gd0 (kx_mV tb_522 tb_523 tb_524 tb_1 tb_525)) rfl rfl rfl (by decide +kernel) hR
theorem cwL_113 {R : Room} {s : State} {args : Array Value} (hts : ∀ w ∈ kx_big, w.before args s = true) (hR : rm7_flown.frames + 1 ≤ R.frames ∧ 8 + (5 + 11) + rm7_flown.locals ≤ R.locals) : CallW R s args RL RX7 113 yX7_flown cX7_flown 5 (some .int) (Cond.code yX7_flown cX7_flown 5 (some .int) :: kx_big) rm7_flown 0 0 1 := cwV 1 hts (kx_gd0 (kx_mV tb_1048 tb_1049 tb_1050 tb_9 tb_1051)) rfl rfl rfl (by decide +kernel) hR
theorem cwL_114 {R : Room} {s : State} {args : Array Value} (hts : ∀ w ∈ kx_big, w.before args s = true) (hR : rm6_when.frames + 1 ≤ R.frames ∧ 8 + (5 + 11) + rm6_when.locals ≤ R.locals) : CallW R s args RL RX6 114 yX6_when cX6_when 5 (some .int) (Cond.code yX6_when cX6_when 5 (some .int) :: kx_big) rm6_when 0 0 1 := cwV 1 hts (kx_gd0 (kx_mV tb_531 tb_532 tb_533 tb_1 tb_534)) rfl rfl rfl (by decide +kernel) hR
theorem cwL_117 {R : Room} {s : State} {args : Array Value} (hts : ∀ w ∈ kx_big, w.before args s = true) (hR : rm7_when.frames + 1 ≤ R.frames ∧ 8 + (6 + 11) + rm7_when.locals ≤ R.locals) : CallW R s args RL RX7 117 yX7_when cX7_when 6 (some .int) (Cond.code yX7_when cX7_when 6 (some .int) :: kx_big) rm7_when 0 0 1 := cwV 1 hts (kx_gd0 (kx_mV tb_1056 tb_1057 tb_1058 tb_9 tb_1059)) rfl rfl rfl (by decide +kernel) hR
theorem cwL_118 {R : Room} {s : State} {args : Array Value} (hts : ∀ w ∈ kx_big, w.before args s = true) (hR : rm6_cross.frames + 1 ≤ R.frames ∧ 8 + (4 + 11) + rm6_cross.locals ≤ R.locals) : CallW R s args RL RX6 118 yX6_cross cX6_cross 4 (some .int) (Cond.code yX6_cross cX6_cross 4 (some .int) :: kx_big) rm6_cross 0 0 3 := cwV 3 hts (kx_gd0 (kx_mV tb_535 tb_536 tb_537 tb_1 tb_538)) rfl rfl rfl (by decide +kernel) hR
theorem cwL_121 {R : Room} {s : State} {args : Array Value} (hts : ∀ w ∈ kx_big, w.before args s = true) (hR : rm7_cross.frames + 1 ≤ R.frames ∧ 8 + (4 + 11) + rm7_cross.locals ≤ R.locals) : CallW R s args RL RX7 121 yX7_cross cX7_cross 4 (some .int) (Cond.code yX7_cross cX7_cross 4 (some .int) :: kx_big) rm7_cross 0 0 3 := cwV 3 hts (kx_gd0 (kx_mV tb_1060 tb_1061 tb_1062 tb_9 tb_1063)) rfl rfl rfl (by decide +kernel) hR
theorem cwL_122 {R : Room} {s : State} {args : Array Value} (hts : ∀ w ∈ kx_big, w.before args s = true) (hR : rm6_crossed.frames + 1 ≤ R.frames ∧ 8 + (7 + 11) + rm6_crossed.locals ≤ R.locals) : CallW R s args RL RX6 122 yX6_crossed cX6_crossed 7 (some .int) (Cond.code yX6_crossed cX6_crossed 7 (some .int) :: kx_big) rm6_crossed 0 0 2 := cwV 2 hts (kx_gd0 (kx_mV tb_548 tb_549 tb_550 tb_1 tb_551)) rfl rfl rfl (by decide +kernel) hR
theorem cwL_125 {R : Room} {s : State} {args : Array Value} (hts : ∀ w ∈ kx_big, w.before args s = true) (hR : rm7_crossed.frames + 1 ≤ R.frames ∧ 8 + (9 + 11) + rm7_crossed.locals ≤ R.locals) : CallW R s args RL RX7 125 yX7_crossed cX7_crossed 9 (some .int) (Cond.code yX7_crossed cX7_crossed 9 (some .int) :: kx_big) rm7_crossed 0 0 2 := cwV 2 hts (kx_gd0 (kx_mV tb_1068 tb_1069 tb_1070 tb_9 tb_1071)) rfl rfl rfl (by decide +kernel) hR
theorem cwL_126 {R : Room} {s : State} {args : Array Value} (hts : ∀ w ∈ kx_big, w.before args s = true) (hR : rm6_merge.frames + 1 ≤ R.frames ∧ 8 + (5 + 11) + rm6_merge.locals ≤ R.locals) : CallW R s args RL RX6 126 yX6_merge cX6_merge 5 (some .int) (Cond.code yX6_merge cX6_merge 5 (some .int) :: kx_big) rm6_merge 0 0 2 := cwV 2 hts (kx_gd0 (kx_mV tb_552 tb_553 tb_554 tb_1 tb_555)) rfl rfl rfl (by decide +kernel) hR
theorem cwL_129 {R : Room} {s : State} {args : Array Value} (hts : ∀ w ∈ kx_big, w.before args s = true) (hR : rm7_merge.frames + 1 ≤ R.frames ∧ 8 + (7 + 11) + rm7_merge.locals ≤ R.locals) : CallW R s args RL RX7 129 yX7_merge cX7_merge 7 (some .int) (Cond.code yX7_merge cX7_merge 7 (some .int) :: kx_big) rm7_merge 0 0 2 := cwV 2 hts (kx_gd0 (kx_mV tb_1073 tb_1074 tb_1075 tb_9 tb_1076)) rfl rfl rfl (by decide +kernel) hR
theorem cwL_130 {R : Room} {s : State} {args : Array Value} (hts : ∀ w ∈ kx_big, w.before args s = true) (hR : rm6_tails.frames + 1 ≤ R.frames ∧ 8 + (8 + 11) + rm6_tails.locals ≤ R.locals) : CallW R s args RL RX6 130 yX6_tails cX6_tails 8 (some .int) (Cond.code yX6_tails cX6_tails 8 (some .int) :: kx_big) rm6_tails 0 0 2 := cwV 2 hts (kx_gd0 (kx_mV tb_593 tb_594 tb_595 tb_1 tb_596)) rfl rfl rfl (by decide +kernel) hR
theorem cwL_133 {R : Room} {s : State} {args : Array Value} (hts : ∀ w ∈ kx_big, w.before args s = true) (hR : rm7_tails.frames + 1 ≤ R.frames ∧ 8 + (6 + 11) + rm7_tails.locals ≤ R.locals) : CallW R s args RL RX7 133 yX7_tails cX7_tails 6 (some .int) (Cond.code yX7_tails cX7_tails 6 (some .int) :: kx_big) rm7_tails 0 0 2 := cwV 2 hts (kx_gd0 (kx_mV tb_1081 tb_1082 tb_1083 tb_9 tb_1084)) rfl rfl rfl (by decide +kernel) hR
theorem cwL_134 {R : Room} {s : State} {args : Array Value} (hts : ∀ w ∈ kx_big, w.before args s = true) (hR : rm6_kinds.frames + 1 ≤ R.frames ∧ 8 + (6 + 11) + rm6_kinds.locals ≤ R.locals) : CallW R s args RL RX6 134 yX6_kinds cX6_kinds 6 (some .int) (Cond.code yX6_kinds cX6_kinds 6 (some .int) :: kx_big) rm6_kinds 0 0 2 := cwV 2 hts (kx_gd0 (kx_mV tb_603 tb_604 tb_605 tb_1 tb_606)) rfl rfl rfl (by decide +kernel) hR
theorem cwL_137 {R : Room} {s : State} {args : Array Value} (hts : ∀ w ∈ kx_big, w.before args s = true) (hR : rm7_kinds.frames + 1 ≤ R.frames ∧ 8 + (4 + 11) + rm7_kinds.locals ≤ R.locals) : CallW R s args RL RX7 137 yX7_kinds cX7_kinds 4 (some .int) (Cond.code yX7_kinds cX7_kinds 4 (some .int) :: kx_big) rm7_kinds 0 0 2 := cwV 2 hts (kx_gd0 (kx_mV tb_1094 tb_1095 tb_1096 tb_9 tb_1097)) rfl rfl rfl (by decide +kernel) hR
theorem cwL_138 {R : Room} {s : State} {args : Array Value} (hts : ∀ w ∈ kx_big, w.before args s = true) (hR : rm6_test.frames + 1 ≤ R.frames ∧ 8 + (11 + 11) + rm6_test.locals ≤ R.locals) : CallW R s args RL RX6 138 yX6_test cX6_test 11 (some .int) (Cond.code yX6_test cX6_test 11 (some .int) :: kx_big) rm6_test 0 0 2 := cwV 2 hts (kx_gd0 (kx_mV tb_610 tb_611 tb_612 tb_1 tb_613)) rfl rfl rfl (by decide +kernel) hR
theorem cwL_141 {R : Room} {s : State} {args : Array Value} (hts : ∀ w ∈ kx_big, w.before args s = true) (hR : rm7_test.frames + 1 ≤ R.frames ∧ 8 + (9 + 11) + rm7_test.locals ≤ R.locals) : CallW R s args RL RX7 141 yX7_test cX7_test 9 (some .int) (Cond.code yX7_test cX7_test 9 (some .int) :: kx_big) rm7_test 0 0 2 := cwV 2 hts (kx_gd0 (kx_mV tb_1102 tb_1103 tb_1104 tb_9 tb_1105)) rfl rfl rfl (by decide +kernel) hR
theorem cwL_142 {R : Room} {s : State} {args : Array Value} (hts : ∀ w ∈ kx_big, w.before args s = true) (hR : rm6_duel.frames + 1 ≤ R.frames ∧ 8 + (2 + 11) + rm6_duel.locals ≤ R.locals) : CallW R s args RL RX6 142 yX6_duel cX6_duel 2 (some .int) (Cond.code yX6_duel cX6_duel 2 (some .int) :: kx_big) rm6_duel 0 0 1 := cwV 1 hts (kx_gd0 (kx_mV tb_621 tb_622 tb_623 tb_1 tb_624)) rfl rfl rfl (by decide +kernel) hR
theorem cwL_145 {R : Room} {s : State} {args : Array Value} (hts : ∀ w ∈ kx_big, w.before args s = true) (hR : rm7_duel.frames + 1 ≤ R.frames ∧ 8 + (6 + 11) + rm7_duel.locals ≤ R.locals) : CallW R s args RL RX7 145 yX7_duel cX7_duel 6 (some .int) (Cond.code yX7_duel cX7_duel 6 (some .int) :: kx_big) rm7_duel 0 0 1 := cwV 1 hts (kx_gd0 (kx_mV tb_1111 tb_1112 tb_1113 tb_9 tb_1114)) rfl rfl rfl (by decide +kernel) hR
theorem cwL_146 {R : Room} {s : State} {args : Array Value} (hts : ∀ w ∈ kx_big, w.before args s = true) (hR : rm6_odds.frames + 1 ≤ R.frames ∧ 8 + (8 + 11) + rm6_odds.locals ≤ R.locals) : CallW R s args RL RX6 146 yX6_odds cX6_odds 8 (some .int) (Cond.code yX6_odds cX6_odds 8 (some .int) :: kx_big) rm6_odds 0 0 1 := cwV 1 hts (kx_gd0 (kx_mV tb_629 tb_630 tb_631 tb_1 tb_632)) rfl rfl rfl (by decide +kernel) hR
theorem cwL_149 {R : Room} {s : State} {args : Array Value} (hts : ∀ w ∈ kx_big, w.before args s = true) (hR : rm7_odds.frames + 1 ≤ R.frames ∧ 8 + (2 + 11) + rm7_odds.locals ≤ R.locals) : CallW R s args RL RX7 149 yX7_odds cX7_odds 2 (some .int) (Cond.code yX7_odds cX7_odds 2 (some .int) :: kx_big) rm7_odds 0 0 1 := cwV 1 hts (kx_gd0 (kx_mV tb_1122 tb_1123 tb_1124 tb_9 tb_1125)) rfl rfl rfl (by decide +kernel) hR
theorem cwL_150 {R : Room} {s : State} {args : Array Value} (hts : ∀ w ∈ kx_big, w.before args s = true) (hR : rm6_mid.frames + 1 ≤ R.frames ∧ 8 + (6 + 11) + rm6_mid.locals ≤ R.locals) : CallW R s args RL RX6 150 yX6_mid cX6_mid 6 (some .int) (Cond.code yX6_mid cX6_mid 6 (some .int) :: kx_big) rm6_mid 0 0 1 := cwV 1 hts (kx_gd0 (kx_mV tb_649 tb_650 tb_651 tb_1 tb_652)) rfl rfl rfl (by decide +kernel) hR
theorem cwL_153 {R : Room} {s : State} {args : Array Value} (hts : ∀ w ∈ kx_big, w.before args s = true) (hR : rm7_mid.frames + 1 ≤ R.frames ∧ 8 + (2 + 11) + rm7_mid.locals ≤ R.locals) : CallW R s args RL RX7 153 yX7_mid cX7_mid 2 (some .int) (Cond.code yX7_mid cX7_mid 2 (some .int) :: kx_big) rm7_mid 0 0 1 := cwV 1 hts (kx_gd0 (kx_mV tb_1135 tb_1136 tb_1137 tb_9 tb_1138)) rfl rfl rfl (by decide +kernel) hR
theorem cwL_154 {R : Room} {s : State} {args : Array Value} (hts : ∀ w ∈ kx_big, w.before args s = true) (hR : rm6_lots.frames + 1 ≤ R.frames ∧ 8 + (6 + 11) + rm6_lots.locals ≤ R.locals) : CallW R s args RL RX6 154 yX6_lots cX6_lots 6 (some .int) (Cond.code yX6_lots cX6_lots 6 (some .int) :: kx_big) rm6_lots 0 0 2 := cwV 2 hts (kx_gd0 (kx_mV tb_653 tb_654 tb_655 tb_1 tb_656)) rfl rfl rfl (by decide +kernel) hR
theorem cwL_157 {R : Room} {s : State} {args : Array Value} (hts : ∀ w ∈ kx_big, w.before args s = true) (hR : rm7_lots.frames + 1 ≤ R.frames ∧ 8 + (7 + 11) + rm7_lots.locals ≤ R.locals) : CallW R s args RL RX7 157 yX7_lots cX7_lots 7 (some .int) (Cond.code yX7_lots cX7_lots 7 (some .int) :: kx_big) rm7_lots 0 0 2 := cwV 2 hts (kx_gd0 (kx_mV tb_1139 tb_1140 tb_1141 tb_9 tb_1142)) rfl rfl rfl (by decide +kernel) hR
theorem cwL_158 {R : Room} {s : State} {args : Array Value} (hts : ∀ w ∈ kx_big, w.before args s = true) (hR : rm6_asked.frames + 1 ≤ R.frames ∧ 8 + (1 + 11) + rm6_asked.locals ≤ R.locals) : CallW R s args RL RX6 158 yX6_asked cX6_asked 1 (some .int) (Cond.code yX6_asked cX6_asked 1 (some .int) :: kx_big) rm6_asked 0 0 0 := cwV 0 hts (kx_gd0 (kx_mV tb_665 tb_666 tb_667 tb_1 tb_668)) rfl rfl rfl (by decide +kernel) hR
theorem cwL_161 {R : Room} {s : State} {args : Array Value} (hts : ∀ w ∈ kx_big, w.before args s = true) (hR : rm7_asked.frames + 1 ≤ R.frames ∧ 8 + (1 + 11) + rm7_asked.locals ≤ R.locals) : CallW R s args RL RX7 161 yX7_asked cX7_asked 1 (some .int) (Cond.code yX7_asked cX7_asked 1 (some .int) :: kx_big) rm7_asked 0 0 0 := cwV 0 hts (kx_gd0 (kx_mV tb_1148 tb_1149 tb_1150 tb_9 tb_1151)) rfl rfl rfl (by decide +kernel) hR
theorem cwL_162 {R : Room} {s : State} {args : Array Value} (hts : ∀ w ∈ kx_big, w.before args s = true) (hR : rm6_upper.frames + 1 ≤ R.frames ∧ 8 + (1 + 11) + rm6_upper.locals ≤ R.locals) : CallW R s args RL RX6 162 yX6_upper cX6_upper 1 (some .long) (Cond.code yX6_upper cX6_upper 1 (some .long) :: kx_big) rm6_upper 0 0 0 := cwV 0 hts (kx_gd0 (kx_mV tb_669 tb_670 tb_671 tb_1 tb_672)) rfl rfl rfl (by decide +kernel) hR
theorem cwL_166 {R : Room} {s : State} {args : Array Value} (hts : ∀ w ∈ kx_big, w.before args s = true) (hR : rm7_upper.frames + 1 ≤ R.frames ∧ 8 + (1 + 11) + rm7_upper.locals ≤ R.locals) : CallW R s args RL RX7 166 yX7_upper cX7_upper 1 (some .long) (Cond.code yX7_upper cX7_upper 1 (some .long) :: kx_big) rm7_upper 0 0 0 := cwV 0 hts (kx_gd0 (kx_mV tb_1152 tb_1153 tb_1154 tb_9 tb_1155)) rfl rfl rfl (by decide +kernel) hR
theorem cwL_167 {R : Room} {s : State} {args : Array Value} (hts : ∀ w ∈ kx_big, w.before args s = true) (hR : rm6_lower.frames + 1 ≤ R.frames ∧ 8 + (1 + 11) + rm6_lower.locals ≤ R.locals) : CallW R s args RL RX6 167 yX6_lower cX6_lower 1 (some .long) (Cond.code yX6_lower cX6_lower 1 (some .long) :: kx_big) rm6_lower 0 0 0 := cwV 0 hts (kx_gd0 (kx_mV tb_673 tb_674 tb_675 tb_1 tb_676)) rfl rfl rfl (by decide +kernel) hR
theorem cwL_170 {R : Room} {s : State} {args : Array Value} (hts : ∀ w ∈ kx_big, w.before args s = true) (hR : rm7_lower.frames + 1 ≤ R.frames ∧ 8 + (1 + 11) + rm7_lower.locals ≤ R.locals) : CallW R s args RL RX7 170 yX7_lower cX7_lower 1 (some .long) (Cond.code yX7_lower cX7_lower 1 (some .long) :: kx_big) rm7_lower 0 0 0 := cwV 0 hts (kx_gd0 (kx_mV tb_1156 tb_1157 tb_1158 tb_9 tb_1159)) rfl rfl rfl (by decide +kernel) hR
theorem cwL_171 {R : Room} {s : State} {args : Array Value} (hts : ∀ w ∈ kx_big, w.before args s = true) (hR : rm6_count.frames + 1 ≤ R.frames ∧ 8 + (2 + 11) + rm6_count.locals ≤ R.locals) : CallW R s args RL RX6 171 yX6_count cX6_count 2 (some .int) (Cond.code yX6_count cX6_count 2 (some .int) :: kx_big) rm6_count 0 0 1 := cwV 1 hts (kx_gd0 (kx_mV tb_677 tb_678 tb_679 tb_1 tb_680)) rfl rfl rfl (by decide +kernel) hR
theorem cwL_174 {R : Room} {s : State} {args : Array Value} (hts : ∀ w ∈ kx_big, w.before args s = true) (hR : rm7_count.frames + 1 ≤ R.frames ∧ 8 + (2 + 11) + rm7_count.locals ≤ R.locals) : CallW R s args RL RX7 174 yX7_count cX7_count 2 (some .int) (Cond.code yX7_count cX7_count 2 (some .int) :: kx_big) rm7_count 0 0 1 := cwV 1 hts (kx_gd0 (kx_mV tb_1160 tb_1161 tb_1162 tb_9 tb_1163)) rfl rfl rfl (by decide +kernel) hR
theorem cwL_175 {R : Room} {s : State} {args : Array Value} (hts : ∀ w ∈ kx_big, w.before args s = true) (hR : rm6_finding.frames + 1 ≤ R.frames ∧ 8 + (1 + 11) + rm6_finding.locals ≤ R.locals) : CallW R s args RL RX6 175 yX6_finding cX6_finding 1 (some .int) (Cond.code yX6_finding cX6_finding 1 (some .int) :: kx_big) rm6_finding 0 0 0 := cwV 0 hts (kx_gd0 (kx_mV tb_697 tb_698 tb_699 tb_1 tb_700)) rfl rfl rfl (by decide +kernel) hR
theorem cwL_178 {R : Room} {s : State} {args : Array Value} (hts : ∀ w ∈ kx_big, w.before args s = true) (hR : rm7_finding.frames + 1 ≤ R.frames ∧ 8 + (1 + 11) + rm7_finding.locals ≤ R.locals) : CallW R s args RL RX7 178 yX7_finding cX7_finding 1 (some .int) (Cond.code yX7_finding cX7_finding 1 (some .int) :: kx_big) rm7_finding 0 0 0 := cwV 0 hts (kx_gd0 (kx_mV tb_1177 tb_1178 tb_1179 tb_9 tb_1180)) rfl rfl rfl (by decide +kernel) hR
theorem cwL_179 {R : Room} {s : State} {args : Array Value} (hts : ∀ w ∈ kx_big, w.before args s = true) (hR : rm6_findings.frames + 1 ≤ R.frames ∧ 8 + (2 + 11) + rm6_findings.locals ≤ R.locals) : CallW R s args RL RX6 179 yX6_findings cX6_findings 2 (some .int) (Cond.code yX6_findings cX6_findings 2 (some .int) :: kx_big) rm6_findings 0 0 1 := cwV 1 hts (kx_gd0 (kx_mV tb_701 tb_702 tb_703 tb_1 tb_704)) rfl rfl rfl (by decide +kernel) hR
theorem cwL_182 {R : Room} {s : State} {args : Array Value} (hts : ∀ w ∈ kx_big, w.before args s = true) (hR : rm7_findings.frames + 1 ≤ R.frames ∧ 8 + (2 + 11) + rm7_findings.locals ≤ R.locals) : CallW R s args RL RX7 182 yX7_findings cX7_findings 2 (some .int) (Cond.code yX7_findings cX7_findings 2 (some .int) :: kx_big) rm7_findings 0 0 1 := cwV 1 hts (kx_gd0 (kx_mV tb_1181 tb_1182 tb_1183 tb_9 tb_1184)) rfl rfl rfl (by decide +kernel) hR
theorem cwL_183 {R : Room} {s : State} {args : Array Value} (hts : ∀ w ∈ kx_big, w.before args s = true) (hR : rm6_digest.frames + 1 ≤ R.frames ∧ 8 + (6 + 11) + rm6_digest.locals ≤ R.locals) : CallW R s args RL RX6 183 yX6_digest cX6_digest 6 (some .long) (Cond.code yX6_digest cX6_digest 6 (some .long) :: kx_big) rm6_digest 0 0 0 := cwV 0 hts (kx_gd0 (kx_mV tb_705 tb_706 tb_707 tb_1 tb_708)) rfl rfl rfl (by decide +kernel) hR
theorem cwL_186 {R : Room} {s : State} {args : Array Value} (hts : ∀ w ∈ kx_big, w.before args s = true) (hR : rm7_digest.frames + 1 ≤ R.frames ∧ 8 + (5 + 11) + rm7_digest.locals ≤ R.locals) : CallW R s args RL RX7 186 yX7_digest cX7_digest 5 (some .long) (Cond.code yX7_digest cX7_digest 5 (some .long) :: kx_big) rm7_digest 0 0 0 := cwV 0 hts (kx_gd0 (kx_mV tb_1185 tb_1186 tb_1187 tb_9 tb_1188)) rfl rfl rfl (by decide +kernel) hR
/-! the law: its loop, case by case, over two worlds; what is asked of the pair of states is R -/
def lw_W (D : va_G) (cy : Nat → ClassId) (ad ae : Nat → Nat) (A B : Nat → Prop) (b L : Nat) (xs : Nat → Int32) (s : State) (σ τ : kx_St) (H : Heap) : Prop :=
  (va_P D vwCl (kx_ws cy 0 ad σ) H ∧ va_D A (kx_ws cy 0 ad σ) ∧ va_P D vwCl (kx_ws cy 1 ae τ) H ∧ va_D B (kx_ws cy 1 ae τ)) ∧ va_X b L xs s H ∧ (∀ q, A q → ¬ B q) ∧ (∀ q, A q → s.heap.size ≤ q) ∧ (∀ q, B q → s.heap.size ≤ q) ∧ b < s.heap.size ∧ s.heap.size ≤ H.size
theorem lw_kc {D : va_G} {cy : Nat → ClassId} {ad ae : Nat → Nat} {A B : Nat → Prop} {b L : Nat} {xs : Nat → Int32} {s : State} {σ τ σ' : kx_St} {H H1 : Heap} {locs : List Loc} (h : lw_W D cy ad ae A B b L xs s σ τ H) (hP : va_P D vwCl (kx_ws cy 0 ad σ') H1) (hD : va_D A (kx_ws cy 0 ad σ')) (hS : va_S A H H1 locs) : lw_W D cy ad ae A B b L xs s σ' τ H1 := by
  obtain ⟨⟨-, -, h3, h4⟩, h5, h6, h7, h8, h9, h10⟩ := h
  refine ⟨⟨hP, hD, h3.kept (fun k q hq => hS.2.1 q.1 (h3 k q hq).lt (fun ha => h6 _ ha (h4.2 k q hq))), h4⟩, h5.kept (hS.2.1 b (Nat.lt_of_lt_of_le h9 h10) (fun ha => Nat.not_le.mpr h9 (h7 b ha))), h6, h7, h8, h9, Nat.le_trans h10 hS.1⟩
theorem lw_km {D : va_G} {cy : Nat → ClassId} {ad ae : Nat → Nat} {A B : Nat → Prop} {b L : Nat} {xs : Nat → Int32} {s : State} {σ τ τ' : kx_St} {H H1 : Heap} {locs : List Loc} (h : lw_W D cy ad ae A B b L xs s σ τ H) (hP : va_P D vwCl (kx_ws cy 1 ae τ') H1) (hD : va_D B (kx_ws cy 1 ae τ')) (hS : va_S B H H1 locs) : lw_W D cy ad ae A B b L xs s σ τ' H1 := by
  obtain ⟨⟨h1, h2, -, -⟩, h5, h6, h7, h8, h9, h10⟩ := h
  refine ⟨⟨h1.kept (fun k q hq => hS.2.1 q.1 (h1 k q hq).lt (fun ha => h6 _ (h2.2 k q hq) ha)), h2, hP, hD⟩, h5.kept (hS.2.1 b (Nat.lt_of_lt_of_le h9 h10) (fun ha => Nat.not_le.mpr h9 (h8 b ha))), h6, h7, h8, h9, Nat.le_trans h10 hS.1⟩
theorem lw_in {j L k : Nat} {v : Int32} (hv : v = nI k) (hk : k < 6) (hj : j + 6 ≤ L) (hL : L ≤ 3072) : vp_in (nI j + v) L := by
  rw [hv, nI_add]
  exact vp_in_nI (by omega) (by omega)
theorem lw_in0 {j L : Nat} (hj : j + 6 ≤ L) (hL : L ≤ 3072) : vp_in (nI j) L := vp_in_nI (by omega) (by omega)
section
variable {p : Program} {l : Launch} {e : Env} {s : State} {m : MethodId} {below : List Frame} {meth : Method} {c : Code} {H : Heap} {K S : Nat} {ls : Array Slot} {D : va_G} {cy : Nat → ClassId} {ad ae : Nat → Nat} {A B : Nat → Prop} {b L j : Nat} {xs : Nat → Int32} {σ τ : kx_St} {P : kx_St → kx_St → Prop}
theorem lw_sld {locs : List Loc} {pc : Nat} {rest : List Value} {Q : State → Prop} (hexec : p.tables.exec = Jvm.exec) (hb : c.code = code) (hW : lw_W D cy ad ae A B b L xs s σ τ H) {i : Int32} (hin : vp_in i L) (hdg : decode code pc = .ok (.iaload, 1)) (kk : W p l e room_1 s m #[Value.ref b] below meth c H [] K S Q (F0 m (pc + 1) ls (.int (xs i.toNatClampNeg) :: rest))) : W p l e room_1 s m #[Value.ref b] below meth c H [] K S Q (F0 m pc ls (.int i :: .ref b :: rest)) :=
  va_sld (A := fun _ => False) (H0 := H) hexec hb hW.2.1 (Nat.lt_of_lt_of_le hW.2.2.2.2.2.1 hW.2.2.2.2.2.2) (fun h => h) va_S.rf hin hdg kk
theorem lw_slen {locs : List Loc} {pc : Nat} {rest : List Value} {Q : State → Prop} (hexec : p.tables.exec = Jvm.exec) (hb : c.code = code) (hW : lw_W D cy ad ae A B b L xs s σ τ H) (hdg : decode code pc = .ok (.arraylength, 1)) (kk : W p l e room_1 s m #[Value.ref b] below meth c H [] K S Q (F0 m (pc + 1) ls (.int (Int32.ofNat L) :: rest))) : W p l e room_1 s m #[Value.ref b] below meth c H [] K S Q (F0 m pc ls (.ref b :: rest)) :=
  va_slen (A := fun _ => False) (H0 := H) hexec hb hW.2.1 (Nat.lt_of_lt_of_le hW.2.2.2.2.2.1 hW.2.2.2.2.2.2) (fun h => h) va_S.rf hdg kk
set_option maxHeartbeats 4000000 in
theorem la_row (cx : kx_Cx p s m #[Value.ref b] meth c D cy RL code 4 ret) (hT : lt_row P σ τ) (hj : j + 6 ≤ L) (hL : L ≤ 3072) (hc : K ≤ 600000 ∧ S ≤ 7302250) (ih : ∀ (σ τ : kx_St) (H : Heap) (ls : Array Slot), P σ τ → lw_W D cy ad ae A B b L xs s σ τ H → lv_has ls 4 [(0, .ref b), (1, .ref (ad 0)), (2, .ref (ae 0)), (3, .int (nI j + (6 : Int32)))] → W p l e room_1 s m #[Value.ref b] below meth c H [] K S (lw_Z below #[Value.ref b] s) (F0 m 18 ls [])) (hW : lw_W D cy ad ae A B b L xs s σ τ H) (hl : lv_has ls 4 [(0, .ref b), (1, .ref (ad 0)), (2, .ref (ae 0)), (3, .int (nI j))]) : W p l e room_1 s m #[Value.ref b] below meth c H [] K S (lw_Z below #[Value.ref b] s) (F0 m 216 ls []) := by
  obtain ⟨hx, hb, hr, hlocks, hml, hown, hts, hK⟩ := id cx
  obtain ⟨v, h⟩ := hT (xs (nI j + (1 : Int32)).toNatClampNeg) (xs (nI j + (2 : Int32)).toNatClampNeg)
  refine lv_aload_n (pc := 216) hx hb dL_law_216 rfl (lv_at hl 1 rfl) ?_
  refine lv_aload_n (pc := 217) hx hb dL_law_217 rfl (lv_at hl 0 rfl) ?_
  refine lv_iload_n (pc := 218) hx hb dL_law_218 rfl (lv_at hl 3 rfl) ?_
  refine lv_iconst (pc := 219) (v := (1 : Int32)) hx hb dL_law_219 (by decide) ?_
  refine lv_iadd (pc := 220) hx hb dL_law_220 ?_
  refine lw_sld (pc := 221) (locs := []) hx hb hW (lw_in (k := 1) rfl (by decide) hj hL) dL_law_221 ?_
  refine lv_aload_n (pc := 222) hx hb dL_law_222 rfl (lv_at hl 0 rfl) ?_
  refine lv_iload_n (pc := 223) hx hb dL_law_223 rfl (lv_at hl 3 rfl) ?_
  refine lv_iconst (pc := 224) (v := (2 : Int32)) hx hb dL_law_224 (by decide) ?_
  refine lv_iadd (pc := 225) hx hb dL_law_225 ?_
  refine lw_sld (pc := 226) (locs := []) hx hb hW (lw_in (k := 2) rfl (by decide) hj hL) dL_law_226 ?_
  refine kx_iVi (pc := 227) [.int _, .int _] hx hb hml hown hts hK hW.1.1 hW.1.2.1 va_S.rf (q6_row h) (cwL_13 hts ⟨Nat.le_of_ble_eq_true rfl, Nat.le_of_ble_eq_true rfl⟩) (show kx_k 0 0 = 6 from rfl) (by decide) rfl rfl hl.1 rfl (Nat.le_of_ble_eq_true rfl) hc dL_law_227 (fun r0 u_ H1 locs1 hP1 hD1 hS1 h => ?_)
  obtain ⟨e0, h⟩ := h
  have hf1 : ∀ q ∈ locs1, s.heap.size ≤ q.base := fun q hq => hW.2.2.2.1 _ (hS1.2.2 q hq)
  replace hW := lw_kc hW hP1 hD1 hS1
  refine va_forget hf1 ?_
  clear hP1 hD1 hS1 hf1
  generalize H1 = H at hW ⊢
  refine lv_aload_n (pc := 230) hx hb dL_law_230 rfl (lv_at hl 2 rfl) ?_
  refine lv_aload_n (pc := 231) hx hb dL_law_231 rfl (lv_at hl 0 rfl) ?_
  refine lv_iload_n (pc := 232) hx hb dL_law_232 rfl (lv_at hl 3 rfl) ?_
  refine lv_iconst (pc := 233) (v := (1 : Int32)) hx hb dL_law_233 (by decide) ?_
  refine lv_iadd (pc := 234) hx hb dL_law_234 ?_
  refine lw_sld (pc := 235) (locs := []) hx hb hW (lw_in (k := 1) rfl (by decide) hj hL) dL_law_235 ?_
  refine lv_aload_n (pc := 236) hx hb dL_law_236 rfl (lv_at hl 0 rfl) ?_
  refine lv_iload_n (pc := 237) hx hb dL_law_237 rfl (lv_at hl 3 rfl) ?_
  refine lv_iconst (pc := 238) (v := (2 : Int32)) hx hb dL_law_238 (by decide) ?_
  refine lv_iadd (pc := 239) hx hb dL_law_239 ?_
  refine lw_sld (pc := 240) (locs := []) hx hb hW (lw_in (k := 2) rfl (by decide) hj hL) dL_law_240 ?_
  refine kx_iVi (pc := 241) [.int _, .int _] hx hb hml hown hts hK hW.1.2.2.1 hW.1.2.2.2 va_S.rf (q7_row h) (cwL_17 hts ⟨Nat.le_of_ble_eq_true rfl, Nat.le_of_ble_eq_true rfl⟩) (show kx_k 1 0 = 7 from rfl) (by decide) rfl rfl hl.1 rfl (Nat.le_of_ble_eq_true rfl) hc dL_law_241 (fun r1 u_ H1 locs1 hP1 hD1 hS1 h => ?_)
  obtain ⟨e1, h⟩ := h
  have hf1 : ∀ q ∈ locs1, s.heap.size ≤ q.base := fun q hq => hW.2.2.2.2.1 _ (hS1.2.2 q hq)
  replace hW := lw_km hW hP1 hD1 hS1
  refine va_forget hf1 ?_
  clear hP1 hD1 hS1 hf1
  generalize H1 = H at hW ⊢
  refine lv_icmp_eq (pc := 244) (tgt := 1365) hx hb dL_law_244 (by decide) (fun _ => ?_) (fun c0 => absurd (e0.trans e1.symm) c0)
  refine lv_iinc (pc := 1365) (v := (nI j + (6 : Int32))) (lv' := [(3, .int (nI j + (6 : Int32))), (0, .ref b), (1, .ref (ad 0)), (2, .ref (ae 0))]) hx hb dL_law_1365 hl (k := 3) rfl rfl (by decide) rfl (fun ls hl => ?_)
  refine lv_goto (pc := 1368) (tgt := 18) hx hb dL_law_1368 (by decide) ?_
  exact ih _ _ _ _ h hW (lv_sub hl [1, 2, 3, 0] rfl)
set_option maxHeartbeats 4000000 in
theorem la_lay (cx : kx_Cx p s m #[Value.ref b] meth c D cy RL code 4 ret) (hT : lt_lay P σ τ) (hj : j + 6 ≤ L) (hL : L ≤ 3072) (hc : K ≤ 600000 ∧ S ≤ 7302250) (ih : ∀ (σ τ : kx_St) (H : Heap) (ls : Array Slot), P σ τ → lw_W D cy ad ae A B b L xs s σ τ H → lv_has ls 4 [(0, .ref b), (1, .ref (ad 0)), (2, .ref (ae 0)), (3, .int (nI j + (6 : Int32)))] → W p l e room_1 s m #[Value.ref b] below meth c H [] K S (lw_Z below #[Value.ref b] s) (F0 m 18 ls [])) (hW : lw_W D cy ad ae A B b L xs s σ τ H) (hl : lv_has ls 4 [(0, .ref b), (1, .ref (ad 0)), (2, .ref (ae 0)), (3, .int (nI j))]) : W p l e room_1 s m #[Value.ref b] below meth c H [] K S (lw_Z below #[Value.ref b] s) (F0 m 249 ls []) := by
  obtain ⟨hx, hb, hr, hlocks, hml, hown, hts, hK⟩ := id cx
  obtain ⟨v, h⟩ := hT (xs (nI j + (1 : Int32)).toNatClampNeg) (xs (nI j + (2 : Int32)).toNatClampNeg) (xs (nI j + (3 : Int32)).toNatClampNeg)
  refine lv_aload_n (pc := 249) hx hb dL_law_249 rfl (lv_at hl 1 rfl) ?_
  refine lv_aload_n (pc := 250) hx hb dL_law_250 rfl (lv_at hl 0 rfl) ?_
  refine lv_iload_n (pc := 251) hx hb dL_law_251 rfl (lv_at hl 3 rfl) ?_
  refine lv_iconst (pc := 252) (v := (1 : Int32)) hx hb dL_law_252 (by decide) ?_
  refine lv_iadd (pc := 253) hx hb dL_law_253 ?_
  refine lw_sld (pc := 254) (locs := []) hx hb hW (lw_in (k := 1) rfl (by decide) hj hL) dL_law_254 ?_
  refine lv_aload_n (pc := 255) hx hb dL_law_255 rfl (lv_at hl 0 rfl) ?_
  refine lv_iload_n (pc := 256) hx hb dL_law_256 rfl (lv_at hl 3 rfl) ?_
  refine lv_iconst (pc := 257) (v := (2 : Int32)) hx hb dL_law_257 (by decide) ?_
  refine lv_iadd (pc := 258) hx hb dL_law_258 ?_
  refine lw_sld (pc := 259) (locs := []) hx hb hW (lw_in (k := 2) rfl (by decide) hj hL) dL_law_259 ?_
  refine lv_aload_n (pc := 260) hx hb dL_law_260 rfl (lv_at hl 0 rfl) ?_
  refine lv_iload_n (pc := 261) hx hb dL_law_261 rfl (lv_at hl 3 rfl) ?_
  refine lv_iconst (pc := 262) (v := (3 : Int32)) hx hb dL_law_262 (by decide) ?_
  refine lv_iadd (pc := 263) hx hb dL_law_263 ?_
  refine lw_sld (pc := 264) (locs := []) hx hb hW (lw_in (k := 3) rfl (by decide) hj hL) dL_law_264 ?_
  refine kx_iVi (pc := 265) [.int _, .int _, .int _] hx hb hml hown hts hK hW.1.1 hW.1.2.1 va_S.rf (q6_lay h) (cwL_18 hts ⟨Nat.le_of_ble_eq_true rfl, Nat.le_of_ble_eq_true rfl⟩) (show kx_k 0 0 = 6 from rfl) (by decide) rfl rfl hl.1 rfl (Nat.le_of_ble_eq_true rfl) hc dL_law_265 (fun r0 u_ H1 locs1 hP1 hD1 hS1 h => ?_)
  obtain ⟨e0, h⟩ := h
  have hf1 : ∀ q ∈ locs1, s.heap.size ≤ q.base := fun q hq => hW.2.2.2.1 _ (hS1.2.2 q hq)
  replace hW := lw_kc hW hP1 hD1 hS1
  refine va_forget hf1 ?_
  clear hP1 hD1 hS1 hf1
  generalize H1 = H at hW ⊢
  refine lv_aload_n (pc := 268) hx hb dL_law_268 rfl (lv_at hl 2 rfl) ?_
  refine lv_aload_n (pc := 269) hx hb dL_law_269 rfl (lv_at hl 0 rfl) ?_
  refine lv_iload_n (pc := 270) hx hb dL_law_270 rfl (lv_at hl 3 rfl) ?_
  refine lv_iconst (pc := 271) (v := (1 : Int32)) hx hb dL_law_271 (by decide) ?_
  refine lv_iadd (pc := 272) hx hb dL_law_272 ?_
  refine lw_sld (pc := 273) (locs := []) hx hb hW (lw_in (k := 1) rfl (by decide) hj hL) dL_law_273 ?_
  refine lv_aload_n (pc := 274) hx hb dL_law_274 rfl (lv_at hl 0 rfl) ?_
  refine lv_iload_n (pc := 275) hx hb dL_law_275 rfl (lv_at hl 3 rfl) ?_
  refine lv_iconst (pc := 276) (v := (2 : Int32)) hx hb dL_law_276 (by decide) ?_
  refine lv_iadd (pc := 277) hx hb dL_law_277 ?_
  refine lw_sld (pc := 278) (locs := []) hx hb hW (lw_in (k := 2) rfl (by decide) hj hL) dL_law_278 ?_
  refine lv_aload_n (pc := 279) hx hb dL_law_279 rfl (lv_at hl 0 rfl) ?_
  refine lv_iload_n (pc := 280) hx hb dL_law_280 rfl (lv_at hl 3 rfl) ?_
  refine lv_iconst (pc := 281) (v := (3 : Int32)) hx hb dL_law_281 (by decide) ?_
  refine lv_iadd (pc := 282) hx hb dL_law_282 ?_
  refine lw_sld (pc := 283) (locs := []) hx hb hW (lw_in (k := 3) rfl (by decide) hj hL) dL_law_283 ?_
  refine kx_iVi (pc := 284) [.int _, .int _, .int _] hx hb hml hown hts hK hW.1.2.2.1 hW.1.2.2.2 va_S.rf (q7_lay h) (cwL_22 hts ⟨Nat.le_of_ble_eq_true rfl, Nat.le_of_ble_eq_true rfl⟩) (show kx_k 1 0 = 7 from rfl) (by decide) rfl rfl hl.1 rfl (Nat.le_of_ble_eq_true rfl) hc dL_law_284 (fun r1 u_ H1 locs1 hP1 hD1 hS1 h => ?_)
  obtain ⟨e1, h⟩ := h
  have hf1 : ∀ q ∈ locs1, s.heap.size ≤ q.base := fun q hq => hW.2.2.2.2.1 _ (hS1.2.2 q hq)
  replace hW := lw_km hW hP1 hD1 hS1
  refine va_forget hf1 ?_
  clear hP1 hD1 hS1 hf1
  generalize H1 = H at hW ⊢
  refine lv_icmp_eq (pc := 287) (tgt := 1365) hx hb dL_law_287 (by decide) (fun _ => ?_) (fun c0 => absurd (e0.trans e1.symm) c0)
  refine lv_iinc (pc := 1365) (v := (nI j + (6 : Int32))) (lv' := [(3, .int (nI j + (6 : Int32))), (0, .ref b), (1, .ref (ad 0)), (2, .ref (ae 0))]) hx hb dL_law_1365 hl (k := 3) rfl rfl (by decide) rfl (fun ls hl => ?_)
  refine lv_goto (pc := 1368) (tgt := 18) hx hb dL_law_1368 (by decide) ?_
  exact ih _ _ _ _ h hW (lv_sub hl [1, 2, 3, 0] rfl)
set_option maxHeartbeats 4000000 in
theorem la_at (cx : kx_Cx p s m #[Value.ref b] meth c D cy RL code 4 ret) (hT : lt_at P σ τ) (hj : j + 6 ≤ L) (hL : L ≤ 3072) (hc : K ≤ 600000 ∧ S ≤ 7302250) (ih : ∀ (σ τ : kx_St) (H : Heap) (ls : Array Slot), P σ τ → lw_W D cy ad ae A B b L xs s σ τ H → lv_has ls 4 [(0, .ref b), (1, .ref (ad 0)), (2, .ref (ae 0)), (3, .int (nI j + (6 : Int32)))] → W p l e room_1 s m #[Value.ref b] below meth c H [] K S (lw_Z below #[Value.ref b] s) (F0 m 18 ls [])) (hW : lw_W D cy ad ae A B b L xs s σ τ H) (hl : lv_has ls 4 [(0, .ref b), (1, .ref (ad 0)), (2, .ref (ae 0)), (3, .int (nI j))]) : W p l e room_1 s m #[Value.ref b] below meth c H [] K S (lw_Z below #[Value.ref b] s) (F0 m 292 ls []) := by
  obtain ⟨hx, hb, hr, hlocks, hml, hown, hts, hK⟩ := id cx
  obtain ⟨v, h⟩ := hT (xs (nI j + (1 : Int32)).toNatClampNeg) (xs (nI j + (2 : Int32)).toNatClampNeg)
  refine lv_aload_n (pc := 292) hx hb dL_law_292 rfl (lv_at hl 1 rfl) ?_
  refine lv_aload_n (pc := 293) hx hb dL_law_293 rfl (lv_at hl 0 rfl) ?_
  refine lv_iload_n (pc := 294) hx hb dL_law_294 rfl (lv_at hl 3 rfl) ?_
  refine lv_iconst (pc := 295) (v := (1 : Int32)) hx hb dL_law_295 (by decide) ?_
  refine lv_iadd (pc := 296) hx hb dL_law_296 ?_
  refine lw_sld (pc := 297) (locs := []) hx hb hW (lw_in (k := 1) rfl (by decide) hj hL) dL_law_297 ?_
  refine lv_aload_n (pc := 298) hx hb dL_law_298 rfl (lv_at hl 0 rfl) ?_
  refine lv_iload_n (pc := 299) hx hb dL_law_299 rfl (lv_at hl 3 rfl) ?_
  refine lv_iconst (pc := 300) (v := (2 : Int32)) hx hb dL_law_300 (by decide) ?_
  refine lv_iadd (pc := 301) hx hb dL_law_301 ?_
  refine lw_sld (pc := 302) (locs := []) hx hb hW (lw_in (k := 2) rfl (by decide) hj hL) dL_law_302 ?_
  refine kx_iVi (pc := 303) [.int _, .int _] hx hb hml hown hts hK hW.1.1 hW.1.2.1 va_S.rf (q6_at h) (cwL_23 hts ⟨Nat.le_of_ble_eq_true rfl, Nat.le_of_ble_eq_true rfl⟩) (show kx_k 0 0 = 6 from rfl) (by decide) rfl rfl hl.1 rfl (Nat.le_of_ble_eq_true rfl) hc dL_law_303 (fun r0 u_ H1 locs1 hP1 hD1 hS1 h => ?_)
  obtain ⟨e0, h⟩ := h
  have hf1 : ∀ q ∈ locs1, s.heap.size ≤ q.base := fun q hq => hW.2.2.2.1 _ (hS1.2.2 q hq)
  replace hW := lw_kc hW hP1 hD1 hS1
  refine va_forget hf1 ?_
  clear hP1 hD1 hS1 hf1
  generalize H1 = H at hW ⊢
  refine lv_aload_n (pc := 306) hx hb dL_law_306 rfl (lv_at hl 2 rfl) ?_
  refine lv_aload_n (pc := 307) hx hb dL_law_307 rfl (lv_at hl 0 rfl) ?_
  refine lv_iload_n (pc := 308) hx hb dL_law_308 rfl (lv_at hl 3 rfl) ?_
  refine lv_iconst (pc := 309) (v := (1 : Int32)) hx hb dL_law_309 (by decide) ?_
  refine lv_iadd (pc := 310) hx hb dL_law_310 ?_
  refine lw_sld (pc := 311) (locs := []) hx hb hW (lw_in (k := 1) rfl (by decide) hj hL) dL_law_311 ?_
  refine lv_aload_n (pc := 312) hx hb dL_law_312 rfl (lv_at hl 0 rfl) ?_
  refine lv_iload_n (pc := 313) hx hb dL_law_313 rfl (lv_at hl 3 rfl) ?_
  refine lv_iconst (pc := 314) (v := (2 : Int32)) hx hb dL_law_314 (by decide) ?_
  refine lv_iadd (pc := 315) hx hb dL_law_315 ?_
  refine lw_sld (pc := 316) (locs := []) hx hb hW (lw_in (k := 2) rfl (by decide) hj hL) dL_law_316 ?_
  refine kx_iVi (pc := 317) [.int _, .int _] hx hb hml hown hts hK hW.1.2.2.1 hW.1.2.2.2 va_S.rf (q7_at h) (cwL_26 hts ⟨Nat.le_of_ble_eq_true rfl, Nat.le_of_ble_eq_true rfl⟩) (show kx_k 1 0 = 7 from rfl) (by decide) rfl rfl hl.1 rfl (Nat.le_of_ble_eq_true rfl) hc dL_law_317 (fun r1 u_ H1 locs1 hP1 hD1 hS1 h => ?_)
  obtain ⟨e1, h⟩ := h
  have hf1 : ∀ q ∈ locs1, s.heap.size ≤ q.base := fun q hq => hW.2.2.2.2.1 _ (hS1.2.2 q hq)
  replace hW := lw_km hW hP1 hD1 hS1
  refine va_forget hf1 ?_
  clear hP1 hD1 hS1 hf1
  generalize H1 = H at hW ⊢
  refine lv_icmp_eq (pc := 320) (tgt := 1365) hx hb dL_law_320 (by decide) (fun _ => ?_) (fun c0 => absurd (e0.trans e1.symm) c0)
  refine lv_iinc (pc := 1365) (v := (nI j + (6 : Int32))) (lv' := [(3, .int (nI j + (6 : Int32))), (0, .ref b), (1, .ref (ad 0)), (2, .ref (ae 0))]) hx hb dL_law_1365 hl (k := 3) rfl rfl (by decide) rfl (fun ls hl => ?_)
  refine lv_goto (pc := 1368) (tgt := 18) hx hb dL_law_1368 (by decide) ?_
  exact ih _ _ _ _ h hW (lv_sub hl [1, 2, 3, 0] rfl)
set_option maxHeartbeats 4000000 in
theorem la_tear (cx : kx_Cx p s m #[Value.ref b] meth c D cy RL code 4 ret) (hT : lt_tear P σ τ) (hj : j + 6 ≤ L) (hL : L ≤ 3072) (hc : K ≤ 600000 ∧ S ≤ 7302250) (ih : ∀ (σ τ : kx_St) (H : Heap) (ls : Array Slot), P σ τ → lw_W D cy ad ae A B b L xs s σ τ H → lv_has ls 4 [(0, .ref b), (1, .ref (ad 0)), (2, .ref (ae 0)), (3, .int (nI j + (6 : Int32)))] → W p l e room_1 s m #[Value.ref b] below meth c H [] K S (lw_Z below #[Value.ref b] s) (F0 m 18 ls [])) (hW : lw_W D cy ad ae A B b L xs s σ τ H) (hl : lv_has ls 4 [(0, .ref b), (1, .ref (ad 0)), (2, .ref (ae 0)), (3, .int (nI j))]) : W p l e room_1 s m #[Value.ref b] below meth c H [] K S (lw_Z below #[Value.ref b] s) (F0 m 325 ls []) := by
  obtain ⟨hx, hb, hr, hlocks, hml, hown, hts, hK⟩ := id cx
  obtain ⟨v, h⟩ := hT (xs (nI j + (1 : Int32)).toNatClampNeg)
  refine lv_aload_n (pc := 325) hx hb dL_law_325 rfl (lv_at hl 1 rfl) ?_
  refine lv_aload_n (pc := 326) hx hb dL_law_326 rfl (lv_at hl 0 rfl) ?_
  refine lv_iload_n (pc := 327) hx hb dL_law_327 rfl (lv_at hl 3 rfl) ?_
  refine lv_iconst (pc := 328) (v := (1 : Int32)) hx hb dL_law_328 (by decide) ?_
  refine lv_iadd (pc := 329) hx hb dL_law_329 ?_
  refine lw_sld (pc := 330) (locs := []) hx hb hW (lw_in (k := 1) rfl (by decide) hj hL) dL_law_330 ?_
  refine kx_iVi (pc := 331) [.int _] hx hb hml hown hts hK hW.1.1 hW.1.2.1 va_S.rf (q6_tear h) (cwL_27 hts ⟨Nat.le_of_ble_eq_true rfl, Nat.le_of_ble_eq_true rfl⟩) (show kx_k 0 0 = 6 from rfl) (by decide) rfl rfl hl.1 rfl (Nat.le_of_ble_eq_true rfl) hc dL_law_331 (fun r0 u_ H1 locs1 hP1 hD1 hS1 h => ?_)
  obtain ⟨e0, h⟩ := h
  have hf1 : ∀ q ∈ locs1, s.heap.size ≤ q.base := fun q hq => hW.2.2.2.1 _ (hS1.2.2 q hq)
  replace hW := lw_kc hW hP1 hD1 hS1
  refine va_forget hf1 ?_
  clear hP1 hD1 hS1 hf1
  generalize H1 = H at hW ⊢
  refine lv_aload_n (pc := 334) hx hb dL_law_334 rfl (lv_at hl 2 rfl) ?_
  refine lv_aload_n (pc := 335) hx hb dL_law_335 rfl (lv_at hl 0 rfl) ?_
  refine lv_iload_n (pc := 336) hx hb dL_law_336 rfl (lv_at hl 3 rfl) ?_
  refine lv_iconst (pc := 337) (v := (1 : Int32)) hx hb dL_law_337 (by decide) ?_
  refine lv_iadd (pc := 338) hx hb dL_law_338 ?_
  refine lw_sld (pc := 339) (locs := []) hx hb hW (lw_in (k := 1) rfl (by decide) hj hL) dL_law_339 ?_
  refine kx_iVi (pc := 340) [.int _] hx hb hml hown hts hK hW.1.2.2.1 hW.1.2.2.2 va_S.rf (q7_tear h) (cwL_31 hts ⟨Nat.le_of_ble_eq_true rfl, Nat.le_of_ble_eq_true rfl⟩) (show kx_k 1 0 = 7 from rfl) (by decide) rfl rfl hl.1 rfl (Nat.le_of_ble_eq_true rfl) hc dL_law_340 (fun r1 u_ H1 locs1 hP1 hD1 hS1 h => ?_)
  obtain ⟨e1, h⟩ := h
  have hf1 : ∀ q ∈ locs1, s.heap.size ≤ q.base := fun q hq => hW.2.2.2.2.1 _ (hS1.2.2 q hq)
  replace hW := lw_km hW hP1 hD1 hS1
  refine va_forget hf1 ?_
  clear hP1 hD1 hS1 hf1
  generalize H1 = H at hW ⊢
  refine lv_icmp_eq (pc := 343) (tgt := 1365) hx hb dL_law_343 (by decide) (fun _ => ?_) (fun c0 => absurd (e0.trans e1.symm) c0)
  refine lv_iinc (pc := 1365) (v := (nI j + (6 : Int32))) (lv' := [(3, .int (nI j + (6 : Int32))), (0, .ref b), (1, .ref (ad 0)), (2, .ref (ae 0))]) hx hb dL_law_1365 hl (k := 3) rfl rfl (by decide) rfl (fun ls hl => ?_)
  refine lv_goto (pc := 1368) (tgt := 18) hx hb dL_law_1368 (by decide) ?_
  exact ih _ _ _ _ h hW (lv_sub hl [1, 2, 3, 0] rfl)
set_option maxHeartbeats 4000000 in
theorem la_copy (cx : kx_Cx p s m #[Value.ref b] meth c D cy RL code 4 ret) (hT : lt_copy P σ τ) (hj : j + 6 ≤ L) (hL : L ≤ 3072) (hc : K ≤ 600000 ∧ S ≤ 7302250) (ih : ∀ (σ τ : kx_St) (H : Heap) (ls : Array Slot), P σ τ → lw_W D cy ad ae A B b L xs s σ τ H → lv_has ls 4 [(0, .ref b), (1, .ref (ad 0)), (2, .ref (ae 0)), (3, .int (nI j + (6 : Int32)))] → W p l e room_1 s m #[Value.ref b] below meth c H [] K S (lw_Z below #[Value.ref b] s) (F0 m 18 ls [])) (hW : lw_W D cy ad ae A B b L xs s σ τ H) (hl : lv_has ls 4 [(0, .ref b), (1, .ref (ad 0)), (2, .ref (ae 0)), (3, .int (nI j))]) : W p l e room_1 s m #[Value.ref b] below meth c H [] K S (lw_Z below #[Value.ref b] s) (F0 m 348 ls []) := by
  obtain ⟨hx, hb, hr, hlocks, hml, hown, hts, hK⟩ := id cx
  obtain ⟨v, h⟩ := hT (xs (nI j + (1 : Int32)).toNatClampNeg) (xs (nI j + (2 : Int32)).toNatClampNeg) (xs (nI j + (3 : Int32)).toNatClampNeg) (xs (nI j + (4 : Int32)).toNatClampNeg) (xs (nI j + (5 : Int32)).toNatClampNeg)
  refine lv_aload_n (pc := 348) hx hb dL_law_348 rfl (lv_at hl 1 rfl) ?_
  refine lv_aload_n (pc := 349) hx hb dL_law_349 rfl (lv_at hl 0 rfl) ?_
  refine lv_iload_n (pc := 350) hx hb dL_law_350 rfl (lv_at hl 3 rfl) ?_
  refine lv_iconst (pc := 351) (v := (1 : Int32)) hx hb dL_law_351 (by decide) ?_
  refine lv_iadd (pc := 352) hx hb dL_law_352 ?_
  refine lw_sld (pc := 353) (locs := []) hx hb hW (lw_in (k := 1) rfl (by decide) hj hL) dL_law_353 ?_
  refine lv_aload_n (pc := 354) hx hb dL_law_354 rfl (lv_at hl 0 rfl) ?_
  refine lv_iload_n (pc := 355) hx hb dL_law_355 rfl (lv_at hl 3 rfl) ?_
  refine lv_iconst (pc := 356) (v := (2 : Int32)) hx hb dL_law_356 (by decide) ?_
  refine lv_iadd (pc := 357) hx hb dL_law_357 ?_
  refine lw_sld (pc := 358) (locs := []) hx hb hW (lw_in (k := 2) rfl (by decide) hj hL) dL_law_358 ?_
  refine lv_aload_n (pc := 359) hx hb dL_law_359 rfl (lv_at hl 0 rfl) ?_
  refine lv_iload_n (pc := 360) hx hb dL_law_360 rfl (lv_at hl 3 rfl) ?_
  refine lv_iconst (pc := 361) (v := (3 : Int32)) hx hb dL_law_361 (by decide) ?_
  refine lv_iadd (pc := 362) hx hb dL_law_362 ?_
  refine lw_sld (pc := 363) (locs := []) hx hb hW (lw_in (k := 3) rfl (by decide) hj hL) dL_law_363 ?_
  refine lv_aload_n (pc := 364) hx hb dL_law_364 rfl (lv_at hl 0 rfl) ?_
  refine lv_iload_n (pc := 365) hx hb dL_law_365 rfl (lv_at hl 3 rfl) ?_
  refine lv_iconst (pc := 366) (v := (4 : Int32)) hx hb dL_law_366 (by decide) ?_
  refine lv_iadd (pc := 367) hx hb dL_law_367 ?_
  refine lw_sld (pc := 368) (locs := []) hx hb hW (lw_in (k := 4) rfl (by decide) hj hL) dL_law_368 ?_
  refine lv_aload_n (pc := 369) hx hb dL_law_369 rfl (lv_at hl 0 rfl) ?_
  refine lv_iload_n (pc := 370) hx hb dL_law_370 rfl (lv_at hl 3 rfl) ?_
  refine lv_iconst (pc := 371) (v := (5 : Int32)) hx hb dL_law_371 (by decide) ?_
  refine lv_iadd (pc := 372) hx hb dL_law_372 ?_
  refine lw_sld (pc := 373) (locs := []) hx hb hW (lw_in (k := 5) rfl (by decide) hj hL) dL_law_373 ?_
  refine kx_iVi (pc := 374) [.int _, .int _, .int _, .int _, .int _] hx hb hml hown hts hK hW.1.1 hW.1.2.1 va_S.rf (q6_copy h) (cwL_32 hts ⟨Nat.le_of_ble_eq_true rfl, Nat.le_of_ble_eq_true rfl⟩) (show kx_k 0 0 = 6 from rfl) (by decide) rfl rfl hl.1 rfl (Nat.le_of_ble_eq_true rfl) hc dL_law_374 (fun r0 u_ H1 locs1 hP1 hD1 hS1 h => ?_)
  obtain ⟨e0, h⟩ := h
  have hf1 : ∀ q ∈ locs1, s.heap.size ≤ q.base := fun q hq => hW.2.2.2.1 _ (hS1.2.2 q hq)
  replace hW := lw_kc hW hP1 hD1 hS1
  refine va_forget hf1 ?_
  clear hP1 hD1 hS1 hf1
  generalize H1 = H at hW ⊢
  refine lv_aload_n (pc := 377) hx hb dL_law_377 rfl (lv_at hl 2 rfl) ?_
  refine lv_aload_n (pc := 378) hx hb dL_law_378 rfl (lv_at hl 0 rfl) ?_
  refine lv_iload_n (pc := 379) hx hb dL_law_379 rfl (lv_at hl 3 rfl) ?_
  refine lv_iconst (pc := 380) (v := (1 : Int32)) hx hb dL_law_380 (by decide) ?_
  refine lv_iadd (pc := 381) hx hb dL_law_381 ?_
  refine lw_sld (pc := 382) (locs := []) hx hb hW (lw_in (k := 1) rfl (by decide) hj hL) dL_law_382 ?_
  refine lv_aload_n (pc := 383) hx hb dL_law_383 rfl (lv_at hl 0 rfl) ?_
  refine lv_iload_n (pc := 384) hx hb dL_law_384 rfl (lv_at hl 3 rfl) ?_
  refine lv_iconst (pc := 385) (v := (2 : Int32)) hx hb dL_law_385 (by decide) ?_
  refine lv_iadd (pc := 386) hx hb dL_law_386 ?_
  refine lw_sld (pc := 387) (locs := []) hx hb hW (lw_in (k := 2) rfl (by decide) hj hL) dL_law_387 ?_
  refine lv_aload_n (pc := 388) hx hb dL_law_388 rfl (lv_at hl 0 rfl) ?_
  refine lv_iload_n (pc := 389) hx hb dL_law_389 rfl (lv_at hl 3 rfl) ?_
  refine lv_iconst (pc := 390) (v := (3 : Int32)) hx hb dL_law_390 (by decide) ?_
  refine lv_iadd (pc := 391) hx hb dL_law_391 ?_
  refine lw_sld (pc := 392) (locs := []) hx hb hW (lw_in (k := 3) rfl (by decide) hj hL) dL_law_392 ?_
  refine lv_aload_n (pc := 393) hx hb dL_law_393 rfl (lv_at hl 0 rfl) ?_
  refine lv_iload_n (pc := 394) hx hb dL_law_394 rfl (lv_at hl 3 rfl) ?_
  refine lv_iconst (pc := 395) (v := (4 : Int32)) hx hb dL_law_395 (by decide) ?_
  refine lv_iadd (pc := 396) hx hb dL_law_396 ?_
  refine lw_sld (pc := 397) (locs := []) hx hb hW (lw_in (k := 4) rfl (by decide) hj hL) dL_law_397 ?_
  refine lv_aload_n (pc := 398) hx hb dL_law_398 rfl (lv_at hl 0 rfl) ?_
  refine lv_iload_n (pc := 399) hx hb dL_law_399 rfl (lv_at hl 3 rfl) ?_
  refine lv_iconst (pc := 400) (v := (5 : Int32)) hx hb dL_law_400 (by decide) ?_
  refine lv_iadd (pc := 401) hx hb dL_law_401 ?_
  refine lw_sld (pc := 402) (locs := []) hx hb hW (lw_in (k := 5) rfl (by decide) hj hL) dL_law_402 ?_
  refine kx_iVi (pc := 403) [.int _, .int _, .int _, .int _, .int _] hx hb hml hown hts hK hW.1.2.2.1 hW.1.2.2.2 va_S.rf (q7_copy h) (cwL_36 hts ⟨Nat.le_of_ble_eq_true rfl, Nat.le_of_ble_eq_true rfl⟩) (show kx_k 1 0 = 7 from rfl) (by decide) rfl rfl hl.1 rfl (Nat.le_of_ble_eq_true rfl) hc dL_law_403 (fun r1 u_ H1 locs1 hP1 hD1 hS1 h => ?_)
  obtain ⟨e1, h⟩ := h
  have hf1 : ∀ q ∈ locs1, s.heap.size ≤ q.base := fun q hq => hW.2.2.2.2.1 _ (hS1.2.2 q hq)
  replace hW := lw_km hW hP1 hD1 hS1
  refine va_forget hf1 ?_
  clear hP1 hD1 hS1 hf1
  generalize H1 = H at hW ⊢
  refine lv_icmp_eq (pc := 406) (tgt := 1365) hx hb dL_law_406 (by decide) (fun _ => ?_) (fun c0 => absurd (e0.trans e1.symm) c0)
  refine lv_iinc (pc := 1365) (v := (nI j + (6 : Int32))) (lv' := [(3, .int (nI j + (6 : Int32))), (0, .ref b), (1, .ref (ad 0)), (2, .ref (ae 0))]) hx hb dL_law_1365 hl (k := 3) rfl rfl (by decide) rfl (fun ls hl => ?_)
  refine lv_goto (pc := 1368) (tgt := 18) hx hb dL_law_1368 (by decide) ?_
  exact ih _ _ _ _ h hW (lv_sub hl [1, 2, 3, 0] rfl)
set_option maxHeartbeats 4000000 in
theorem la_mean (cx : kx_Cx p s m #[Value.ref b] meth c D cy RL code 4 ret) (hT : lt_mean P σ τ) (hj : j + 6 ≤ L) (hL : L ≤ 3072) (hc : K ≤ 600000 ∧ S ≤ 7302250) (ih : ∀ (σ τ : kx_St) (H : Heap) (ls : Array Slot), P σ τ → lw_W D cy ad ae A B b L xs s σ τ H → lv_has ls 4 [(0, .ref b), (1, .ref (ad 0)), (2, .ref (ae 0)), (3, .int (nI j + (6 : Int32)))] → W p l e room_1 s m #[Value.ref b] below meth c H [] K S (lw_Z below #[Value.ref b] s) (F0 m 18 ls [])) (hW : lw_W D cy ad ae A B b L xs s σ τ H) (hl : lv_has ls 4 [(0, .ref b), (1, .ref (ad 0)), (2, .ref (ae 0)), (3, .int (nI j))]) : W p l e room_1 s m #[Value.ref b] below meth c H [] K S (lw_Z below #[Value.ref b] s) (F0 m 411 ls []) := by
  obtain ⟨hx, hb, hr, hlocks, hml, hown, hts, hK⟩ := id cx
  obtain ⟨v, h⟩ := hT (xs (nI j + (1 : Int32)).toNatClampNeg)
  refine lv_aload_n (pc := 411) hx hb dL_law_411 rfl (lv_at hl 1 rfl) ?_
  refine lv_aload_n (pc := 412) hx hb dL_law_412 rfl (lv_at hl 0 rfl) ?_
  refine lv_iload_n (pc := 413) hx hb dL_law_413 rfl (lv_at hl 3 rfl) ?_
  refine lv_iconst (pc := 414) (v := (1 : Int32)) hx hb dL_law_414 (by decide) ?_
  refine lv_iadd (pc := 415) hx hb dL_law_415 ?_
  refine lw_sld (pc := 416) (locs := []) hx hb hW (lw_in (k := 1) rfl (by decide) hj hL) dL_law_416 ?_
  refine kx_iVi (pc := 417) [.int _] hx hb hml hown hts hK hW.1.1 hW.1.2.1 va_S.rf (q6_mean h) (cwL_37 hts ⟨Nat.le_of_ble_eq_true rfl, Nat.le_of_ble_eq_true rfl⟩) (show kx_k 0 0 = 6 from rfl) (by decide) rfl rfl hl.1 rfl (Nat.le_of_ble_eq_true rfl) hc dL_law_417 (fun r0 u_ H1 locs1 hP1 hD1 hS1 h => ?_)
  obtain ⟨e0, h⟩ := h
  have hf1 : ∀ q ∈ locs1, s.heap.size ≤ q.base := fun q hq => hW.2.2.2.1 _ (hS1.2.2 q hq)
  replace hW := lw_kc hW hP1 hD1 hS1
  refine va_forget hf1 ?_
  clear hP1 hD1 hS1 hf1
  generalize H1 = H at hW ⊢
  refine lv_aload_n (pc := 420) hx hb dL_law_420 rfl (lv_at hl 2 rfl) ?_
  refine lv_aload_n (pc := 421) hx hb dL_law_421 rfl (lv_at hl 0 rfl) ?_
  refine lv_iload_n (pc := 422) hx hb dL_law_422 rfl (lv_at hl 3 rfl) ?_
  refine lv_iconst (pc := 423) (v := (1 : Int32)) hx hb dL_law_423 (by decide) ?_
  refine lv_iadd (pc := 424) hx hb dL_law_424 ?_
  refine lw_sld (pc := 425) (locs := []) hx hb hW (lw_in (k := 1) rfl (by decide) hj hL) dL_law_425 ?_
  refine kx_iVi (pc := 426) [.int _] hx hb hml hown hts hK hW.1.2.2.1 hW.1.2.2.2 va_S.rf (q7_mean h) (cwL_40 hts ⟨Nat.le_of_ble_eq_true rfl, Nat.le_of_ble_eq_true rfl⟩) (show kx_k 1 0 = 7 from rfl) (by decide) rfl rfl hl.1 rfl (Nat.le_of_ble_eq_true rfl) hc dL_law_426 (fun r1 u_ H1 locs1 hP1 hD1 hS1 h => ?_)
  obtain ⟨e1, h⟩ := h
  have hf1 : ∀ q ∈ locs1, s.heap.size ≤ q.base := fun q hq => hW.2.2.2.2.1 _ (hS1.2.2 q hq)
  replace hW := lw_km hW hP1 hD1 hS1
  refine va_forget hf1 ?_
  clear hP1 hD1 hS1 hf1
  generalize H1 = H at hW ⊢
  refine lv_icmp_eq (pc := 429) (tgt := 1365) hx hb dL_law_429 (by decide) (fun _ => ?_) (fun c0 => absurd (e0.trans e1.symm) c0)
  refine lv_iinc (pc := 1365) (v := (nI j + (6 : Int32))) (lv' := [(3, .int (nI j + (6 : Int32))), (0, .ref b), (1, .ref (ad 0)), (2, .ref (ae 0))]) hx hb dL_law_1365 hl (k := 3) rfl rfl (by decide) rfl (fun ls hl => ?_)
  refine lv_goto (pc := 1368) (tgt := 18) hx hb dL_law_1368 (by decide) ?_
  exact ih _ _ _ _ h hW (lv_sub hl [1, 2, 3, 0] rfl)
set_option maxHeartbeats 4000000 in
theorem la_text (cx : kx_Cx p s m #[Value.ref b] meth c D cy RL code 4 ret) (hT : lt_text P σ τ) (hj : j + 6 ≤ L) (hL : L ≤ 3072) (hc : K ≤ 600000 ∧ S ≤ 7302250) (ih : ∀ (σ τ : kx_St) (H : Heap) (ls : Array Slot), P σ τ → lw_W D cy ad ae A B b L xs s σ τ H → lv_has ls 4 [(0, .ref b), (1, .ref (ad 0)), (2, .ref (ae 0)), (3, .int (nI j + (6 : Int32)))] → W p l e room_1 s m #[Value.ref b] below meth c H [] K S (lw_Z below #[Value.ref b] s) (F0 m 18 ls [])) (hW : lw_W D cy ad ae A B b L xs s σ τ H) (hl : lv_has ls 4 [(0, .ref b), (1, .ref (ad 0)), (2, .ref (ae 0)), (3, .int (nI j))]) : W p l e room_1 s m #[Value.ref b] below meth c H [] K S (lw_Z below #[Value.ref b] s) (F0 m 434 ls []) := by
  obtain ⟨hx, hb, hr, hlocks, hml, hown, hts, hK⟩ := id cx
  obtain ⟨v, h⟩ := hT (xs (nI j + (1 : Int32)).toNatClampNeg) (xs (nI j + (2 : Int32)).toNatClampNeg)
  refine lv_aload_n (pc := 434) hx hb dL_law_434 rfl (lv_at hl 1 rfl) ?_
  refine lv_aload_n (pc := 435) hx hb dL_law_435 rfl (lv_at hl 0 rfl) ?_
  refine lv_iload_n (pc := 436) hx hb dL_law_436 rfl (lv_at hl 3 rfl) ?_
  refine lv_iconst (pc := 437) (v := (1 : Int32)) hx hb dL_law_437 (by decide) ?_
  refine lv_iadd (pc := 438) hx hb dL_law_438 ?_
  refine lw_sld (pc := 439) (locs := []) hx hb hW (lw_in (k := 1) rfl (by decide) hj hL) dL_law_439 ?_
  refine lv_aload_n (pc := 440) hx hb dL_law_440 rfl (lv_at hl 0 rfl) ?_
  refine lv_iload_n (pc := 441) hx hb dL_law_441 rfl (lv_at hl 3 rfl) ?_
  refine lv_iconst (pc := 442) (v := (2 : Int32)) hx hb dL_law_442 (by decide) ?_
  refine lv_iadd (pc := 443) hx hb dL_law_443 ?_
  refine lw_sld (pc := 444) (locs := []) hx hb hW (lw_in (k := 2) rfl (by decide) hj hL) dL_law_444 ?_
  refine kx_iVi (pc := 445) [.int _, .int _] hx hb hml hown hts hK hW.1.1 hW.1.2.1 va_S.rf (q6_text h) (cwL_41 hts ⟨Nat.le_of_ble_eq_true rfl, Nat.le_of_ble_eq_true rfl⟩) (show kx_k 0 0 = 6 from rfl) (by decide) rfl rfl hl.1 rfl (Nat.le_of_ble_eq_true rfl) hc dL_law_445 (fun r0 u_ H1 locs1 hP1 hD1 hS1 h => ?_)
  obtain ⟨e0, h⟩ := h
  have hf1 : ∀ q ∈ locs1, s.heap.size ≤ q.base := fun q hq => hW.2.2.2.1 _ (hS1.2.2 q hq)
  replace hW := lw_kc hW hP1 hD1 hS1
  refine va_forget hf1 ?_
  clear hP1 hD1 hS1 hf1
  generalize H1 = H at hW ⊢
  refine lv_aload_n (pc := 448) hx hb dL_law_448 rfl (lv_at hl 2 rfl) ?_
  refine lv_aload_n (pc := 449) hx hb dL_law_449 rfl (lv_at hl 0 rfl) ?_
  refine lv_iload_n (pc := 450) hx hb dL_law_450 rfl (lv_at hl 3 rfl) ?_
  refine lv_iconst (pc := 451) (v := (1 : Int32)) hx hb dL_law_451 (by decide) ?_
  refine lv_iadd (pc := 452) hx hb dL_law_452 ?_
  refine lw_sld (pc := 453) (locs := []) hx hb hW (lw_in (k := 1) rfl (by decide) hj hL) dL_law_453 ?_
  refine lv_aload_n (pc := 454) hx hb dL_law_454 rfl (lv_at hl 0 rfl) ?_
  refine lv_iload_n (pc := 455) hx hb dL_law_455 rfl (lv_at hl 3 rfl) ?_
  refine lv_iconst (pc := 456) (v := (2 : Int32)) hx hb dL_law_456 (by decide) ?_
  refine lv_iadd (pc := 457) hx hb dL_law_457 ?_
  refine lw_sld (pc := 458) (locs := []) hx hb hW (lw_in (k := 2) rfl (by decide) hj hL) dL_law_458 ?_
  refine kx_iVi (pc := 459) [.int _, .int _] hx hb hml hown hts hK hW.1.2.2.1 hW.1.2.2.2 va_S.rf (q7_text h) (cwL_44 hts ⟨Nat.le_of_ble_eq_true rfl, Nat.le_of_ble_eq_true rfl⟩) (show kx_k 1 0 = 7 from rfl) (by decide) rfl rfl hl.1 rfl (Nat.le_of_ble_eq_true rfl) hc dL_law_459 (fun r1 u_ H1 locs1 hP1 hD1 hS1 h => ?_)
  obtain ⟨e1, h⟩ := h
  have hf1 : ∀ q ∈ locs1, s.heap.size ≤ q.base := fun q hq => hW.2.2.2.2.1 _ (hS1.2.2 q hq)
  replace hW := lw_km hW hP1 hD1 hS1
  refine va_forget hf1 ?_
  clear hP1 hD1 hS1 hf1
  generalize H1 = H at hW ⊢
  refine lv_icmp_eq (pc := 462) (tgt := 1365) hx hb dL_law_462 (by decide) (fun _ => ?_) (fun c0 => absurd (e0.trans e1.symm) c0)
  refine lv_iinc (pc := 1365) (v := (nI j + (6 : Int32))) (lv' := [(3, .int (nI j + (6 : Int32))), (0, .ref b), (1, .ref (ad 0)), (2, .ref (ae 0))]) hx hb dL_law_1365 hl (k := 3) rfl rfl (by decide) rfl (fun ls hl => ?_)
  refine lv_goto (pc := 1368) (tgt := 18) hx hb dL_law_1368 (by decide) ?_
  exact ih _ _ _ _ h hW (lv_sub hl [1, 2, 3, 0] rfl)
set_option maxHeartbeats 4000000 in
theorem la_put (cx : kx_Cx p s m #[Value.ref b] meth c D cy RL code 4 ret) (hT : lt_put P σ τ) (hj : j + 6 ≤ L) (hL : L ≤ 3072) (hc : K ≤ 600000 ∧ S ≤ 7302250) (ih : ∀ (σ τ : kx_St) (H : Heap) (ls : Array Slot), P σ τ → lw_W D cy ad ae A B b L xs s σ τ H → lv_has ls 4 [(0, .ref b), (1, .ref (ad 0)), (2, .ref (ae 0)), (3, .int (nI j + (6 : Int32)))] → W p l e room_1 s m #[Value.ref b] below meth c H [] K S (lw_Z below #[Value.ref b] s) (F0 m 18 ls [])) (hW : lw_W D cy ad ae A B b L xs s σ τ H) (hl : lv_has ls 4 [(0, .ref b), (1, .ref (ad 0)), (2, .ref (ae 0)), (3, .int (nI j))]) : W p l e room_1 s m #[Value.ref b] below meth c H [] K S (lw_Z below #[Value.ref b] s) (F0 m 467 ls []) := by
  obtain ⟨hx, hb, hr, hlocks, hml, hown, hts, hK⟩ := id cx
  obtain ⟨v, h⟩ := hT (xs (nI j + (1 : Int32)).toNatClampNeg) (xs (nI j + (2 : Int32)).toNatClampNeg) (xs (nI j + (3 : Int32)).toNatClampNeg)
  refine lv_aload_n (pc := 467) hx hb dL_law_467 rfl (lv_at hl 1 rfl) ?_
  refine lv_aload_n (pc := 468) hx hb dL_law_468 rfl (lv_at hl 0 rfl) ?_
  refine lv_iload_n (pc := 469) hx hb dL_law_469 rfl (lv_at hl 3 rfl) ?_
  refine lv_iconst (pc := 470) (v := (1 : Int32)) hx hb dL_law_470 (by decide) ?_
  refine lv_iadd (pc := 471) hx hb dL_law_471 ?_
  refine lw_sld (pc := 472) (locs := []) hx hb hW (lw_in (k := 1) rfl (by decide) hj hL) dL_law_472 ?_
  refine lv_aload_n (pc := 473) hx hb dL_law_473 rfl (lv_at hl 0 rfl) ?_
  refine lv_iload_n (pc := 474) hx hb dL_law_474 rfl (lv_at hl 3 rfl) ?_
  refine lv_iconst (pc := 475) (v := (2 : Int32)) hx hb dL_law_475 (by decide) ?_
  refine lv_iadd (pc := 476) hx hb dL_law_476 ?_
  refine lw_sld (pc := 477) (locs := []) hx hb hW (lw_in (k := 2) rfl (by decide) hj hL) dL_law_477 ?_
  refine lv_aload_n (pc := 478) hx hb dL_law_478 rfl (lv_at hl 0 rfl) ?_
  refine lv_iload_n (pc := 479) hx hb dL_law_479 rfl (lv_at hl 3 rfl) ?_
  refine lv_iconst (pc := 480) (v := (3 : Int32)) hx hb dL_law_480 (by decide) ?_
  refine lv_iadd (pc := 481) hx hb dL_law_481 ?_
  refine lw_sld (pc := 482) (locs := []) hx hb hW (lw_in (k := 3) rfl (by decide) hj hL) dL_law_482 ?_
  refine kx_iVi (pc := 483) [.int _, .int _, .int _] hx hb hml hown hts hK hW.1.1 hW.1.2.1 va_S.rf (q6_put h) (cwL_45 hts ⟨Nat.le_of_ble_eq_true rfl, Nat.le_of_ble_eq_true rfl⟩) (show kx_k 0 0 = 6 from rfl) (by decide) rfl rfl hl.1 rfl (Nat.le_of_ble_eq_true rfl) hc dL_law_483 (fun r0 u_ H1 locs1 hP1 hD1 hS1 h => ?_)
  obtain ⟨e0, h⟩ := h
  have hf1 : ∀ q ∈ locs1, s.heap.size ≤ q.base := fun q hq => hW.2.2.2.1 _ (hS1.2.2 q hq)
  replace hW := lw_kc hW hP1 hD1 hS1
  refine va_forget hf1 ?_
  clear hP1 hD1 hS1 hf1
  generalize H1 = H at hW ⊢
  refine lv_aload_n (pc := 486) hx hb dL_law_486 rfl (lv_at hl 2 rfl) ?_
  refine lv_aload_n (pc := 487) hx hb dL_law_487 rfl (lv_at hl 0 rfl) ?_
  refine lv_iload_n (pc := 488) hx hb dL_law_488 rfl (lv_at hl 3 rfl) ?_
  refine lv_iconst (pc := 489) (v := (1 : Int32)) hx hb dL_law_489 (by decide) ?_
  refine lv_iadd (pc := 490) hx hb dL_law_490 ?_
  refine lw_sld (pc := 491) (locs := []) hx hb hW (lw_in (k := 1) rfl (by decide) hj hL) dL_law_491 ?_
  refine lv_aload_n (pc := 492) hx hb dL_law_492 rfl (lv_at hl 0 rfl) ?_
  refine lv_iload_n (pc := 493) hx hb dL_law_493 rfl (lv_at hl 3 rfl) ?_
  refine lv_iconst (pc := 494) (v := (2 : Int32)) hx hb dL_law_494 (by decide) ?_
  refine lv_iadd (pc := 495) hx hb dL_law_495 ?_
  refine lw_sld (pc := 496) (locs := []) hx hb hW (lw_in (k := 2) rfl (by decide) hj hL) dL_law_496 ?_
  refine lv_aload_n (pc := 497) hx hb dL_law_497 rfl (lv_at hl 0 rfl) ?_
  refine lv_iload_n (pc := 498) hx hb dL_law_498 rfl (lv_at hl 3 rfl) ?_
  refine lv_iconst (pc := 499) (v := (3 : Int32)) hx hb dL_law_499 (by decide) ?_
  refine lv_iadd (pc := 500) hx hb dL_law_500 ?_
  refine lw_sld (pc := 501) (locs := []) hx hb hW (lw_in (k := 3) rfl (by decide) hj hL) dL_law_501 ?_
  refine kx_iVi (pc := 502) [.int _, .int _, .int _] hx hb hml hown hts hK hW.1.2.2.1 hW.1.2.2.2 va_S.rf (q7_put h) (cwL_48 hts ⟨Nat.le_of_ble_eq_true rfl, Nat.le_of_ble_eq_true rfl⟩) (show kx_k 1 0 = 7 from rfl) (by decide) rfl rfl hl.1 rfl (Nat.le_of_ble_eq_true rfl) hc dL_law_502 (fun r1 u_ H1 locs1 hP1 hD1 hS1 h => ?_)
  obtain ⟨e1, h⟩ := h
  have hf1 : ∀ q ∈ locs1, s.heap.size ≤ q.base := fun q hq => hW.2.2.2.2.1 _ (hS1.2.2 q hq)
  replace hW := lw_km hW hP1 hD1 hS1
  refine va_forget hf1 ?_
  clear hP1 hD1 hS1 hf1
  generalize H1 = H at hW ⊢
  refine lv_icmp_eq (pc := 505) (tgt := 1365) hx hb dL_law_505 (by decide) (fun _ => ?_) (fun c0 => absurd (e0.trans e1.symm) c0)
  refine lv_iinc (pc := 1365) (v := (nI j + (6 : Int32))) (lv' := [(3, .int (nI j + (6 : Int32))), (0, .ref b), (1, .ref (ad 0)), (2, .ref (ae 0))]) hx hb dL_law_1365 hl (k := 3) rfl rfl (by decide) rfl (fun ls hl => ?_)
  refine lv_goto (pc := 1368) (tgt := 18) hx hb dL_law_1368 (by decide) ?_
  exact ih _ _ _ _ h hW (lv_sub hl [1, 2, 3, 0] rfl)
set_option maxHeartbeats 4000000 in
theorem la_fault (cx : kx_Cx p s m #[Value.ref b] meth c D cy RL code 4 ret) (hT : lt_fault P σ τ) (hj : j + 6 ≤ L) (hL : L ≤ 3072) (hc : K ≤ 600000 ∧ S ≤ 7302250) (ih : ∀ (σ τ : kx_St) (H : Heap) (ls : Array Slot), P σ τ → lw_W D cy ad ae A B b L xs s σ τ H → lv_has ls 4 [(0, .ref b), (1, .ref (ad 0)), (2, .ref (ae 0)), (3, .int (nI j + (6 : Int32)))] → W p l e room_1 s m #[Value.ref b] below meth c H [] K S (lw_Z below #[Value.ref b] s) (F0 m 18 ls [])) (hW : lw_W D cy ad ae A B b L xs s σ τ H) (hl : lv_has ls 4 [(0, .ref b), (1, .ref (ad 0)), (2, .ref (ae 0)), (3, .int (nI j))]) : W p l e room_1 s m #[Value.ref b] below meth c H [] K S (lw_Z below #[Value.ref b] s) (F0 m 510 ls []) := by
  obtain ⟨hx, hb, hr, hlocks, hml, hown, hts, hK⟩ := id cx
  obtain ⟨v, h⟩ := hT (xs (nI j + (1 : Int32)).toNatClampNeg)
  refine lv_aload_n (pc := 510) hx hb dL_law_510 rfl (lv_at hl 1 rfl) ?_
  refine lv_aload_n (pc := 511) hx hb dL_law_511 rfl (lv_at hl 0 rfl) ?_
  refine lv_iload_n (pc := 512) hx hb dL_law_512 rfl (lv_at hl 3 rfl) ?_
  refine lv_iconst (pc := 513) (v := (1 : Int32)) hx hb dL_law_513 (by decide) ?_
  refine lv_iadd (pc := 514) hx hb dL_law_514 ?_
  refine lw_sld (pc := 515) (locs := []) hx hb hW (lw_in (k := 1) rfl (by decide) hj hL) dL_law_515 ?_
  refine kx_iVi (pc := 516) [.int _] hx hb hml hown hts hK hW.1.1 hW.1.2.1 va_S.rf (q6_fault h) (cwL_49 hts ⟨Nat.le_of_ble_eq_true rfl, Nat.le_of_ble_eq_true rfl⟩) (show kx_k 0 0 = 6 from rfl) (by decide) rfl rfl hl.1 rfl (Nat.le_of_ble_eq_true rfl) hc dL_law_516 (fun r0 u_ H1 locs1 hP1 hD1 hS1 h => ?_)
  obtain ⟨e0, h⟩ := h
  have hf1 : ∀ q ∈ locs1, s.heap.size ≤ q.base := fun q hq => hW.2.2.2.1 _ (hS1.2.2 q hq)
  replace hW := lw_kc hW hP1 hD1 hS1
  refine va_forget hf1 ?_
  clear hP1 hD1 hS1 hf1
  generalize H1 = H at hW ⊢
  refine lv_aload_n (pc := 519) hx hb dL_law_519 rfl (lv_at hl 2 rfl) ?_
  refine lv_aload_n (pc := 520) hx hb dL_law_520 rfl (lv_at hl 0 rfl) ?_
  refine lv_iload_n (pc := 521) hx hb dL_law_521 rfl (lv_at hl 3 rfl) ?_
  refine lv_iconst (pc := 522) (v := (1 : Int32)) hx hb dL_law_522 (by decide) ?_
  refine lv_iadd (pc := 523) hx hb dL_law_523 ?_
  refine lw_sld (pc := 524) (locs := []) hx hb hW (lw_in (k := 1) rfl (by decide) hj hL) dL_law_524 ?_
  refine kx_iVi (pc := 525) [.int _] hx hb hml hown hts hK hW.1.2.2.1 hW.1.2.2.2 va_S.rf (q7_fault h) (cwL_52 hts ⟨Nat.le_of_ble_eq_true rfl, Nat.le_of_ble_eq_true rfl⟩) (show kx_k 1 0 = 7 from rfl) (by decide) rfl rfl hl.1 rfl (Nat.le_of_ble_eq_true rfl) hc dL_law_525 (fun r1 u_ H1 locs1 hP1 hD1 hS1 h => ?_)
  obtain ⟨e1, h⟩ := h
  have hf1 : ∀ q ∈ locs1, s.heap.size ≤ q.base := fun q hq => hW.2.2.2.2.1 _ (hS1.2.2 q hq)
  replace hW := lw_km hW hP1 hD1 hS1
  refine va_forget hf1 ?_
  clear hP1 hD1 hS1 hf1
  generalize H1 = H at hW ⊢
  refine lv_icmp_eq (pc := 528) (tgt := 1365) hx hb dL_law_528 (by decide) (fun _ => ?_) (fun c0 => absurd (e0.trans e1.symm) c0)
  refine lv_iinc (pc := 1365) (v := (nI j + (6 : Int32))) (lv' := [(3, .int (nI j + (6 : Int32))), (0, .ref b), (1, .ref (ad 0)), (2, .ref (ae 0))]) hx hb dL_law_1365 hl (k := 3) rfl rfl (by decide) rfl (fun ls hl => ?_)
  refine lv_goto (pc := 1368) (tgt := 18) hx hb dL_law_1368 (by decide) ?_
  exact ih _ _ _ _ h hW (lv_sub hl [1, 2, 3, 0] rfl)
set_option maxHeartbeats 4000000 in
theorem la_parish (cx : kx_Cx p s m #[Value.ref b] meth c D cy RL code 4 ret) (hT : lt_parish P σ τ) (hj : j + 6 ≤ L) (hL : L ≤ 3072) (hc : K ≤ 600000 ∧ S ≤ 7302250) (ih : ∀ (σ τ : kx_St) (H : Heap) (ls : Array Slot), P σ τ → lw_W D cy ad ae A B b L xs s σ τ H → lv_has ls 4 [(0, .ref b), (1, .ref (ad 0)), (2, .ref (ae 0)), (3, .int (nI j + (6 : Int32)))] → W p l e room_1 s m #[Value.ref b] below meth c H [] K S (lw_Z below #[Value.ref b] s) (F0 m 18 ls [])) (hW : lw_W D cy ad ae A B b L xs s σ τ H) (hl : lv_has ls 4 [(0, .ref b), (1, .ref (ad 0)), (2, .ref (ae 0)), (3, .int (nI j))]) : W p l e room_1 s m #[Value.ref b] below meth c H [] K S (lw_Z below #[Value.ref b] s) (F0 m 533 ls []) := by
  obtain ⟨hx, hb, hr, hlocks, hml, hown, hts, hK⟩ := id cx
  obtain ⟨v, h⟩ := hT (xs (nI j + (1 : Int32)).toNatClampNeg)
  refine lv_aload_n (pc := 533) hx hb dL_law_533 rfl (lv_at hl 1 rfl) ?_
  refine lv_aload_n (pc := 534) hx hb dL_law_534 rfl (lv_at hl 0 rfl) ?_
  refine lv_iload_n (pc := 535) hx hb dL_law_535 rfl (lv_at hl 3 rfl) ?_
  refine lv_iconst (pc := 536) (v := (1 : Int32)) hx hb dL_law_536 (by decide) ?_
  refine lv_iadd (pc := 537) hx hb dL_law_537 ?_
  refine lw_sld (pc := 538) (locs := []) hx hb hW (lw_in (k := 1) rfl (by decide) hj hL) dL_law_538 ?_
  refine kx_iVi (pc := 539) [.int _] hx hb hml hown hts hK hW.1.1 hW.1.2.1 va_S.rf (q6_parish h) (cwL_53 hts ⟨Nat.le_of_ble_eq_true rfl, Nat.le_of_ble_eq_true rfl⟩) (show kx_k 0 0 = 6 from rfl) (by decide) rfl rfl hl.1 rfl (Nat.le_of_ble_eq_true rfl) hc dL_law_539 (fun r0 u_ H1 locs1 hP1 hD1 hS1 h => ?_)
  obtain ⟨e0, h⟩ := h
  have hf1 : ∀ q ∈ locs1, s.heap.size ≤ q.base := fun q hq => hW.2.2.2.1 _ (hS1.2.2 q hq)
  replace hW := lw_kc hW hP1 hD1 hS1
  refine va_forget hf1 ?_
  clear hP1 hD1 hS1 hf1
  generalize H1 = H at hW ⊢
  refine lv_aload_n (pc := 542) hx hb dL_law_542 rfl (lv_at hl 2 rfl) ?_
  refine lv_aload_n (pc := 543) hx hb dL_law_543 rfl (lv_at hl 0 rfl) ?_
  refine lv_iload_n (pc := 544) hx hb dL_law_544 rfl (lv_at hl 3 rfl) ?_
  refine lv_iconst (pc := 545) (v := (1 : Int32)) hx hb dL_law_545 (by decide) ?_
  refine lv_iadd (pc := 546) hx hb dL_law_546 ?_
  refine lw_sld (pc := 547) (locs := []) hx hb hW (lw_in (k := 1) rfl (by decide) hj hL) dL_law_547 ?_
  refine kx_iVi (pc := 548) [.int _] hx hb hml hown hts hK hW.1.2.2.1 hW.1.2.2.2 va_S.rf (q7_parish h) (cwL_56 hts ⟨Nat.le_of_ble_eq_true rfl, Nat.le_of_ble_eq_true rfl⟩) (show kx_k 1 0 = 7 from rfl) (by decide) rfl rfl hl.1 rfl (Nat.le_of_ble_eq_true rfl) hc dL_law_548 (fun r1 u_ H1 locs1 hP1 hD1 hS1 h => ?_)
  obtain ⟨e1, h⟩ := h
  have hf1 : ∀ q ∈ locs1, s.heap.size ≤ q.base := fun q hq => hW.2.2.2.2.1 _ (hS1.2.2 q hq)
  replace hW := lw_km hW hP1 hD1 hS1
  refine va_forget hf1 ?_
  clear hP1 hD1 hS1 hf1
  generalize H1 = H at hW ⊢
  refine lv_icmp_eq (pc := 551) (tgt := 1365) hx hb dL_law_551 (by decide) (fun _ => ?_) (fun c0 => absurd (e0.trans e1.symm) c0)
  refine lv_iinc (pc := 1365) (v := (nI j + (6 : Int32))) (lv' := [(3, .int (nI j + (6 : Int32))), (0, .ref b), (1, .ref (ad 0)), (2, .ref (ae 0))]) hx hb dL_law_1365 hl (k := 3) rfl rfl (by decide) rfl (fun ls hl => ?_)
  refine lv_goto (pc := 1368) (tgt := 18) hx hb dL_law_1368 (by decide) ?_
  exact ih _ _ _ _ h hW (lv_sub hl [1, 2, 3, 0] rfl)
set_option maxHeartbeats 4000000 in
theorem la_kite (cx : kx_Cx p s m #[Value.ref b] meth c D cy RL code 4 ret) (hT : lt_kite P σ τ) (hj : j + 6 ≤ L) (hL : L ≤ 3072) (hc : K ≤ 600000 ∧ S ≤ 7302250) (ih : ∀ (σ τ : kx_St) (H : Heap) (ls : Array Slot), P σ τ → lw_W D cy ad ae A B b L xs s σ τ H → lv_has ls 4 [(0, .ref b), (1, .ref (ad 0)), (2, .ref (ae 0)), (3, .int (nI j + (6 : Int32)))] → W p l e room_1 s m #[Value.ref b] below meth c H [] K S (lw_Z below #[Value.ref b] s) (F0 m 18 ls [])) (hW : lw_W D cy ad ae A B b L xs s σ τ H) (hl : lv_has ls 4 [(0, .ref b), (1, .ref (ad 0)), (2, .ref (ae 0)), (3, .int (nI j))]) : W p l e room_1 s m #[Value.ref b] below meth c H [] K S (lw_Z below #[Value.ref b] s) (F0 m 556 ls []) := by
  obtain ⟨hx, hb, hr, hlocks, hml, hown, hts, hK⟩ := id cx
  obtain ⟨v, h⟩ := hT (xs (nI j + (1 : Int32)).toNatClampNeg) (xs (nI j + (2 : Int32)).toNatClampNeg)
  refine lv_aload_n (pc := 556) hx hb dL_law_556 rfl (lv_at hl 1 rfl) ?_
  refine lv_aload_n (pc := 557) hx hb dL_law_557 rfl (lv_at hl 0 rfl) ?_
  refine lv_iload_n (pc := 558) hx hb dL_law_558 rfl (lv_at hl 3 rfl) ?_
  refine lv_iconst (pc := 559) (v := (1 : Int32)) hx hb dL_law_559 (by decide) ?_
  refine lv_iadd (pc := 560) hx hb dL_law_560 ?_
  refine lw_sld (pc := 561) (locs := []) hx hb hW (lw_in (k := 1) rfl (by decide) hj hL) dL_law_561 ?_
  refine lv_aload_n (pc := 562) hx hb dL_law_562 rfl (lv_at hl 0 rfl) ?_
  refine lv_iload_n (pc := 563) hx hb dL_law_563 rfl (lv_at hl 3 rfl) ?_
  refine lv_iconst (pc := 564) (v := (2 : Int32)) hx hb dL_law_564 (by decide) ?_
  refine lv_iadd (pc := 565) hx hb dL_law_565 ?_
  refine lw_sld (pc := 566) (locs := []) hx hb hW (lw_in (k := 2) rfl (by decide) hj hL) dL_law_566 ?_
  refine kx_iVi (pc := 567) [.int _, .int _] hx hb hml hown hts hK hW.1.1 hW.1.2.1 va_S.rf (q6_kite h) (cwL_57 hts ⟨Nat.le_of_ble_eq_true rfl, Nat.le_of_ble_eq_true rfl⟩) (show kx_k 0 0 = 6 from rfl) (by decide) rfl rfl hl.1 rfl (Nat.le_of_ble_eq_true rfl) hc dL_law_567 (fun r0 u_ H1 locs1 hP1 hD1 hS1 h => ?_)
  obtain ⟨e0, h⟩ := h
  have hf1 : ∀ q ∈ locs1, s.heap.size ≤ q.base := fun q hq => hW.2.2.2.1 _ (hS1.2.2 q hq)
  replace hW := lw_kc hW hP1 hD1 hS1
  refine va_forget hf1 ?_
  clear hP1 hD1 hS1 hf1
  generalize H1 = H at hW ⊢
  refine lv_aload_n (pc := 570) hx hb dL_law_570 rfl (lv_at hl 2 rfl) ?_
  refine lv_aload_n (pc := 571) hx hb dL_law_571 rfl (lv_at hl 0 rfl) ?_
  refine lv_iload_n (pc := 572) hx hb dL_law_572 rfl (lv_at hl 3 rfl) ?_
  refine lv_iconst (pc := 573) (v := (1 : Int32)) hx hb dL_law_573 (by decide) ?_
  refine lv_iadd (pc := 574) hx hb dL_law_574 ?_
  refine lw_sld (pc := 575) (locs := []) hx hb hW (lw_in (k := 1) rfl (by decide) hj hL) dL_law_575 ?_
  refine lv_aload_n (pc := 576) hx hb dL_law_576 rfl (lv_at hl 0 rfl) ?_
  refine lv_iload_n (pc := 577) hx hb dL_law_577 rfl (lv_at hl 3 rfl) ?_
  refine lv_iconst (pc := 578) (v := (2 : Int32)) hx hb dL_law_578 (by decide) ?_
  refine lv_iadd (pc := 579) hx hb dL_law_579 ?_
  refine lw_sld (pc := 580) (locs := []) hx hb hW (lw_in (k := 2) rfl (by decide) hj hL) dL_law_580 ?_
  refine kx_iVi (pc := 581) [.int _, .int _] hx hb hml hown hts hK hW.1.2.2.1 hW.1.2.2.2 va_S.rf (q7_kite h) (cwL_60 hts ⟨Nat.le_of_ble_eq_true rfl, Nat.le_of_ble_eq_true rfl⟩) (show kx_k 1 0 = 7 from rfl) (by decide) rfl rfl hl.1 rfl (Nat.le_of_ble_eq_true rfl) hc dL_law_581 (fun r1 u_ H1 locs1 hP1 hD1 hS1 h => ?_)
  obtain ⟨e1, h⟩ := h
  have hf1 : ∀ q ∈ locs1, s.heap.size ≤ q.base := fun q hq => hW.2.2.2.2.1 _ (hS1.2.2 q hq)
  replace hW := lw_km hW hP1 hD1 hS1
  refine va_forget hf1 ?_
  clear hP1 hD1 hS1 hf1
  generalize H1 = H at hW ⊢
  refine lv_icmp_eq (pc := 584) (tgt := 1365) hx hb dL_law_584 (by decide) (fun _ => ?_) (fun c0 => absurd (e0.trans e1.symm) c0)
  refine lv_iinc (pc := 1365) (v := (nI j + (6 : Int32))) (lv' := [(3, .int (nI j + (6 : Int32))), (0, .ref b), (1, .ref (ad 0)), (2, .ref (ae 0))]) hx hb dL_law_1365 hl (k := 3) rfl rfl (by decide) rfl (fun ls hl => ?_)
  refine lv_goto (pc := 1368) (tgt := 18) hx hb dL_law_1368 (by decide) ?_
  exact ih _ _ _ _ h hW (lv_sub hl [1, 2, 3, 0] rfl)
set_option maxHeartbeats 4000000 in
theorem la_mark (cx : kx_Cx p s m #[Value.ref b] meth c D cy RL code 4 ret) (hT : lt_mark P σ τ) (hj : j + 6 ≤ L) (hL : L ≤ 3072) (hc : K ≤ 600000 ∧ S ≤ 7302250) (ih : ∀ (σ τ : kx_St) (H : Heap) (ls : Array Slot), P σ τ → lw_W D cy ad ae A B b L xs s σ τ H → lv_has ls 4 [(0, .ref b), (1, .ref (ad 0)), (2, .ref (ae 0)), (3, .int (nI j + (6 : Int32)))] → W p l e room_1 s m #[Value.ref b] below meth c H [] K S (lw_Z below #[Value.ref b] s) (F0 m 18 ls [])) (hW : lw_W D cy ad ae A B b L xs s σ τ H) (hl : lv_has ls 4 [(0, .ref b), (1, .ref (ad 0)), (2, .ref (ae 0)), (3, .int (nI j))]) : W p l e room_1 s m #[Value.ref b] below meth c H [] K S (lw_Z below #[Value.ref b] s) (F0 m 589 ls []) := by
  obtain ⟨hx, hb, hr, hlocks, hml, hown, hts, hK⟩ := id cx
  obtain ⟨v, h⟩ := hT (xs (nI j + (1 : Int32)).toNatClampNeg) (xs (nI j + (2 : Int32)).toNatClampNeg)
  refine lv_aload_n (pc := 589) hx hb dL_law_589 rfl (lv_at hl 1 rfl) ?_
  refine lv_aload_n (pc := 590) hx hb dL_law_590 rfl (lv_at hl 0 rfl) ?_
  refine lv_iload_n (pc := 591) hx hb dL_law_591 rfl (lv_at hl 3 rfl) ?_
  refine lv_iconst (pc := 592) (v := (1 : Int32)) hx hb dL_law_592 (by decide) ?_
  refine lv_iadd (pc := 593) hx hb dL_law_593 ?_
  refine lw_sld (pc := 594) (locs := []) hx hb hW (lw_in (k := 1) rfl (by decide) hj hL) dL_law_594 ?_
  refine lv_aload_n (pc := 595) hx hb dL_law_595 rfl (lv_at hl 0 rfl) ?_
  refine lv_iload_n (pc := 596) hx hb dL_law_596 rfl (lv_at hl 3 rfl) ?_
  refine lv_iconst (pc := 597) (v := (2 : Int32)) hx hb dL_law_597 (by decide) ?_
  refine lv_iadd (pc := 598) hx hb dL_law_598 ?_
  refine lw_sld (pc := 599) (locs := []) hx hb hW (lw_in (k := 2) rfl (by decide) hj hL) dL_law_599 ?_
  refine kx_iVi (pc := 600) [.int _, .int _] hx hb hml hown hts hK hW.1.1 hW.1.2.1 va_S.rf (q6_mark h) (cwL_61 hts ⟨Nat.le_of_ble_eq_true rfl, Nat.le_of_ble_eq_true rfl⟩) (show kx_k 0 0 = 6 from rfl) (by decide) rfl rfl hl.1 rfl (Nat.le_of_ble_eq_true rfl) hc dL_law_600 (fun r0 u_ H1 locs1 hP1 hD1 hS1 h => ?_)
  obtain ⟨e0, h⟩ := h
  have hf1 : ∀ q ∈ locs1, s.heap.size ≤ q.base := fun q hq => hW.2.2.2.1 _ (hS1.2.2 q hq)
  replace hW := lw_kc hW hP1 hD1 hS1
  refine va_forget hf1 ?_
  clear hP1 hD1 hS1 hf1
  generalize H1 = H at hW ⊢
  refine lv_aload_n (pc := 603) hx hb dL_law_603 rfl (lv_at hl 2 rfl) ?_
  refine lv_aload_n (pc := 604) hx hb dL_law_604 rfl (lv_at hl 0 rfl) ?_
  refine lv_iload_n (pc := 605) hx hb dL_law_605 rfl (lv_at hl 3 rfl) ?_
  refine lv_iconst (pc := 606) (v := (1 : Int32)) hx hb dL_law_606 (by decide) ?_
  refine lv_iadd (pc := 607) hx hb dL_law_607 ?_
  refine lw_sld (pc := 608) (locs := []) hx hb hW (lw_in (k := 1) rfl (by decide) hj hL) dL_law_608 ?_
  refine lv_aload_n (pc := 609) hx hb dL_law_609 rfl (lv_at hl 0 rfl) ?_
  refine lv_iload_n (pc := 610) hx hb dL_law_610 rfl (lv_at hl 3 rfl) ?_
  refine lv_iconst (pc := 611) (v := (2 : Int32)) hx hb dL_law_611 (by decide) ?_
  refine lv_iadd (pc := 612) hx hb dL_law_612 ?_
  refine lw_sld (pc := 613) (locs := []) hx hb hW (lw_in (k := 2) rfl (by decide) hj hL) dL_law_613 ?_
  refine kx_iVi (pc := 614) [.int _, .int _] hx hb hml hown hts hK hW.1.2.2.1 hW.1.2.2.2 va_S.rf (q7_mark h) (cwL_64 hts ⟨Nat.le_of_ble_eq_true rfl, Nat.le_of_ble_eq_true rfl⟩) (show kx_k 1 0 = 7 from rfl) (by decide) rfl rfl hl.1 rfl (Nat.le_of_ble_eq_true rfl) hc dL_law_614 (fun r1 u_ H1 locs1 hP1 hD1 hS1 h => ?_)
  obtain ⟨e1, h⟩ := h
  have hf1 : ∀ q ∈ locs1, s.heap.size ≤ q.base := fun q hq => hW.2.2.2.2.1 _ (hS1.2.2 q hq)
  replace hW := lw_km hW hP1 hD1 hS1
  refine va_forget hf1 ?_
  clear hP1 hD1 hS1 hf1
  generalize H1 = H at hW ⊢
  refine lv_icmp_eq (pc := 617) (tgt := 1365) hx hb dL_law_617 (by decide) (fun _ => ?_) (fun c0 => absurd (e0.trans e1.symm) c0)
  refine lv_iinc (pc := 1365) (v := (nI j + (6 : Int32))) (lv' := [(3, .int (nI j + (6 : Int32))), (0, .ref b), (1, .ref (ad 0)), (2, .ref (ae 0))]) hx hb dL_law_1365 hl (k := 3) rfl rfl (by decide) rfl (fun ls hl => ?_)
  refine lv_goto (pc := 1368) (tgt := 18) hx hb dL_law_1368 (by decide) ?_
  exact ih _ _ _ _ h hW (lv_sub hl [1, 2, 3, 0] rfl)
set_option maxHeartbeats 4000000 in
theorem la_lifts (cx : kx_Cx p s m #[Value.ref b] meth c D cy RL code 4 ret) (hT : lt_lifts P σ τ) (hj : j + 6 ≤ L) (hL : L ≤ 3072) (hc : K ≤ 600000 ∧ S ≤ 7302250) (ih : ∀ (σ τ : kx_St) (H : Heap) (ls : Array Slot), P σ τ → lw_W D cy ad ae A B b L xs s σ τ H → lv_has ls 4 [(0, .ref b), (1, .ref (ad 0)), (2, .ref (ae 0)), (3, .int (nI j + (6 : Int32)))] → W p l e room_1 s m #[Value.ref b] below meth c H [] K S (lw_Z below #[Value.ref b] s) (F0 m 18 ls [])) (hW : lw_W D cy ad ae A B b L xs s σ τ H) (hl : lv_has ls 4 [(0, .ref b), (1, .ref (ad 0)), (2, .ref (ae 0)), (3, .int (nI j))]) : W p l e room_1 s m #[Value.ref b] below meth c H [] K S (lw_Z below #[Value.ref b] s) (F0 m 622 ls []) := by
  obtain ⟨hx, hb, hr, hlocks, hml, hown, hts, hK⟩ := id cx
  obtain ⟨v, h⟩ := hT (xs (nI j + (1 : Int32)).toNatClampNeg) (xs (nI j + (2 : Int32)).toNatClampNeg)
  refine lv_aload_n (pc := 622) hx hb dL_law_622 rfl (lv_at hl 1 rfl) ?_
  refine lv_aload_n (pc := 623) hx hb dL_law_623 rfl (lv_at hl 0 rfl) ?_
  refine lv_iload_n (pc := 624) hx hb dL_law_624 rfl (lv_at hl 3 rfl) ?_
  refine lv_iconst (pc := 625) (v := (1 : Int32)) hx hb dL_law_625 (by decide) ?_
  refine lv_iadd (pc := 626) hx hb dL_law_626 ?_
  refine lw_sld (pc := 627) (locs := []) hx hb hW (lw_in (k := 1) rfl (by decide) hj hL) dL_law_627 ?_
  refine lv_aload_n (pc := 628) hx hb dL_law_628 rfl (lv_at hl 0 rfl) ?_
  refine lv_iload_n (pc := 629) hx hb dL_law_629 rfl (lv_at hl 3 rfl) ?_
  refine lv_iconst (pc := 630) (v := (2 : Int32)) hx hb dL_law_630 (by decide) ?_
  refine lv_iadd (pc := 631) hx hb dL_law_631 ?_
  refine lw_sld (pc := 632) (locs := []) hx hb hW (lw_in (k := 2) rfl (by decide) hj hL) dL_law_632 ?_
  refine kx_iVi (pc := 633) [.int _, .int _] hx hb hml hown hts hK hW.1.1 hW.1.2.1 va_S.rf (q6_lifts h) (cwL_65 hts ⟨Nat.le_of_ble_eq_true rfl, Nat.le_of_ble_eq_true rfl⟩) (show kx_k 0 0 = 6 from rfl) (by decide) rfl rfl hl.1 rfl (Nat.le_of_ble_eq_true rfl) hc dL_law_633 (fun r0 u_ H1 locs1 hP1 hD1 hS1 h => ?_)
  obtain ⟨hu_, h⟩ := h
  rw [hu_] at hP1 hD1
  obtain ⟨e0, h⟩ := h
  have hf1 : ∀ q ∈ locs1, s.heap.size ≤ q.base := fun q hq => hW.2.2.2.1 _ (hS1.2.2 q hq)
  replace hW := lw_kc hW hP1 hD1 hS1
  refine va_forget hf1 ?_
  clear hP1 hD1 hS1 hf1
  generalize H1 = H at hW ⊢
  refine lv_aload_n (pc := 636) hx hb dL_law_636 rfl (lv_at hl 2 rfl) ?_
  refine lv_aload_n (pc := 637) hx hb dL_law_637 rfl (lv_at hl 0 rfl) ?_
  refine lv_iload_n (pc := 638) hx hb dL_law_638 rfl (lv_at hl 3 rfl) ?_
  refine lv_iconst (pc := 639) (v := (1 : Int32)) hx hb dL_law_639 (by decide) ?_
  refine lv_iadd (pc := 640) hx hb dL_law_640 ?_
  refine lw_sld (pc := 641) (locs := []) hx hb hW (lw_in (k := 1) rfl (by decide) hj hL) dL_law_641 ?_
  refine lv_aload_n (pc := 642) hx hb dL_law_642 rfl (lv_at hl 0 rfl) ?_
  refine lv_iload_n (pc := 643) hx hb dL_law_643 rfl (lv_at hl 3 rfl) ?_
  refine lv_iconst (pc := 644) (v := (2 : Int32)) hx hb dL_law_644 (by decide) ?_
  refine lv_iadd (pc := 645) hx hb dL_law_645 ?_
  refine lw_sld (pc := 646) (locs := []) hx hb hW (lw_in (k := 2) rfl (by decide) hj hL) dL_law_646 ?_
  refine kx_iVi (pc := 647) [.int _, .int _] hx hb hml hown hts hK hW.1.2.2.1 hW.1.2.2.2 va_S.rf (q7_lifts h) (cwL_68 hts ⟨Nat.le_of_ble_eq_true rfl, Nat.le_of_ble_eq_true rfl⟩) (show kx_k 1 0 = 7 from rfl) (by decide) rfl rfl hl.1 rfl (Nat.le_of_ble_eq_true rfl) hc dL_law_647 (fun r1 u_ H1 locs1 hP1 hD1 hS1 h => ?_)
  obtain ⟨hu_, h⟩ := h
  rw [hu_] at hP1 hD1
  obtain ⟨e1, h⟩ := h
  have hf1 : ∀ q ∈ locs1, s.heap.size ≤ q.base := fun q hq => hW.2.2.2.2.1 _ (hS1.2.2 q hq)
  replace hW := lw_km hW hP1 hD1 hS1
  refine va_forget hf1 ?_
  clear hP1 hD1 hS1 hf1
  generalize H1 = H at hW ⊢
  refine lv_icmp_eq (pc := 650) (tgt := 1365) hx hb dL_law_650 (by decide) (fun _ => ?_) (fun c0 => absurd (e0.trans e1.symm) c0)
  refine lv_iinc (pc := 1365) (v := (nI j + (6 : Int32))) (lv' := [(3, .int (nI j + (6 : Int32))), (0, .ref b), (1, .ref (ad 0)), (2, .ref (ae 0))]) hx hb dL_law_1365 hl (k := 3) rfl rfl (by decide) rfl (fun ls hl => ?_)
  refine lv_goto (pc := 1368) (tgt := 18) hx hb dL_law_1368 (by decide) ?_
  exact ih _ _ _ _ h hW (lv_sub hl [1, 2, 3, 0] rfl)
set_option maxHeartbeats 4000000 in
theorem la_pays (cx : kx_Cx p s m #[Value.ref b] meth c D cy RL code 4 ret) (hT : lt_pays P σ τ) (hj : j + 6 ≤ L) (hL : L ≤ 3072) (hc : K ≤ 600000 ∧ S ≤ 7302250) (ih : ∀ (σ τ : kx_St) (H : Heap) (ls : Array Slot), P σ τ → lw_W D cy ad ae A B b L xs s σ τ H → lv_has ls 4 [(0, .ref b), (1, .ref (ad 0)), (2, .ref (ae 0)), (3, .int (nI j + (6 : Int32)))] → W p l e room_1 s m #[Value.ref b] below meth c H [] K S (lw_Z below #[Value.ref b] s) (F0 m 18 ls [])) (hW : lw_W D cy ad ae A B b L xs s σ τ H) (hl : lv_has ls 4 [(0, .ref b), (1, .ref (ad 0)), (2, .ref (ae 0)), (3, .int (nI j))]) : W p l e room_1 s m #[Value.ref b] below meth c H [] K S (lw_Z below #[Value.ref b] s) (F0 m 655 ls []) := by
  obtain ⟨hx, hb, hr, hlocks, hml, hown, hts, hK⟩ := id cx
  obtain ⟨v, h⟩ := hT (xs (nI j + (1 : Int32)).toNatClampNeg) (xs (nI j + (2 : Int32)).toNatClampNeg)
  refine lv_aload_n (pc := 655) hx hb dL_law_655 rfl (lv_at hl 1 rfl) ?_
  refine lv_aload_n (pc := 656) hx hb dL_law_656 rfl (lv_at hl 0 rfl) ?_
  refine lv_iload_n (pc := 657) hx hb dL_law_657 rfl (lv_at hl 3 rfl) ?_
  refine lv_iconst (pc := 658) (v := (1 : Int32)) hx hb dL_law_658 (by decide) ?_
  refine lv_iadd (pc := 659) hx hb dL_law_659 ?_
  refine lw_sld (pc := 660) (locs := []) hx hb hW (lw_in (k := 1) rfl (by decide) hj hL) dL_law_660 ?_
  refine lv_aload_n (pc := 661) hx hb dL_law_661 rfl (lv_at hl 0 rfl) ?_
  refine lv_iload_n (pc := 662) hx hb dL_law_662 rfl (lv_at hl 3 rfl) ?_
  refine lv_iconst (pc := 663) (v := (2 : Int32)) hx hb dL_law_663 (by decide) ?_
  refine lv_iadd (pc := 664) hx hb dL_law_664 ?_
  refine lw_sld (pc := 665) (locs := []) hx hb hW (lw_in (k := 2) rfl (by decide) hj hL) dL_law_665 ?_
  refine kx_iVi (pc := 666) [.int _, .int _] hx hb hml hown hts hK hW.1.1 hW.1.2.1 va_S.rf (q6_pays h) (cwL_69 hts ⟨Nat.le_of_ble_eq_true rfl, Nat.le_of_ble_eq_true rfl⟩) (show kx_k 0 0 = 6 from rfl) (by decide) rfl rfl hl.1 rfl (Nat.le_of_ble_eq_true rfl) hc dL_law_666 (fun r0 u_ H1 locs1 hP1 hD1 hS1 h => ?_)
  obtain ⟨hu_, h⟩ := h
  rw [hu_] at hP1 hD1
  obtain ⟨e0, h⟩ := h
  have hf1 : ∀ q ∈ locs1, s.heap.size ≤ q.base := fun q hq => hW.2.2.2.1 _ (hS1.2.2 q hq)
  replace hW := lw_kc hW hP1 hD1 hS1
  refine va_forget hf1 ?_
  clear hP1 hD1 hS1 hf1
  generalize H1 = H at hW ⊢
  refine lv_aload_n (pc := 669) hx hb dL_law_669 rfl (lv_at hl 2 rfl) ?_
  refine lv_aload_n (pc := 670) hx hb dL_law_670 rfl (lv_at hl 0 rfl) ?_
  refine lv_iload_n (pc := 671) hx hb dL_law_671 rfl (lv_at hl 3 rfl) ?_
  refine lv_iconst (pc := 672) (v := (1 : Int32)) hx hb dL_law_672 (by decide) ?_
  refine lv_iadd (pc := 673) hx hb dL_law_673 ?_
  refine lw_sld (pc := 674) (locs := []) hx hb hW (lw_in (k := 1) rfl (by decide) hj hL) dL_law_674 ?_
  refine lv_aload_n (pc := 675) hx hb dL_law_675 rfl (lv_at hl 0 rfl) ?_
  refine lv_iload_n (pc := 676) hx hb dL_law_676 rfl (lv_at hl 3 rfl) ?_
  refine lv_iconst (pc := 677) (v := (2 : Int32)) hx hb dL_law_677 (by decide) ?_
  refine lv_iadd (pc := 678) hx hb dL_law_678 ?_
  refine lw_sld (pc := 679) (locs := []) hx hb hW (lw_in (k := 2) rfl (by decide) hj hL) dL_law_679 ?_
  refine kx_iVi (pc := 680) [.int _, .int _] hx hb hml hown hts hK hW.1.2.2.1 hW.1.2.2.2 va_S.rf (q7_pays h) (cwL_72 hts ⟨Nat.le_of_ble_eq_true rfl, Nat.le_of_ble_eq_true rfl⟩) (show kx_k 1 0 = 7 from rfl) (by decide) rfl rfl hl.1 rfl (Nat.le_of_ble_eq_true rfl) hc dL_law_680 (fun r1 u_ H1 locs1 hP1 hD1 hS1 h => ?_)
  obtain ⟨hu_, h⟩ := h
  rw [hu_] at hP1 hD1
  obtain ⟨e1, h⟩ := h
  have hf1 : ∀ q ∈ locs1, s.heap.size ≤ q.base := fun q hq => hW.2.2.2.2.1 _ (hS1.2.2 q hq)
  replace hW := lw_km hW hP1 hD1 hS1
  refine va_forget hf1 ?_
  clear hP1 hD1 hS1 hf1
  generalize H1 = H at hW ⊢
  refine lv_icmp_eq (pc := 683) (tgt := 1365) hx hb dL_law_683 (by decide) (fun _ => ?_) (fun c0 => absurd (e0.trans e1.symm) c0)
  refine lv_iinc (pc := 1365) (v := (nI j + (6 : Int32))) (lv' := [(3, .int (nI j + (6 : Int32))), (0, .ref b), (1, .ref (ad 0)), (2, .ref (ae 0))]) hx hb dL_law_1365 hl (k := 3) rfl rfl (by decide) rfl (fun ls hl => ?_)
  refine lv_goto (pc := 1368) (tgt := 18) hx hb dL_law_1368 (by decide) ?_
  exact ih _ _ _ _ h hW (lv_sub hl [1, 2, 3, 0] rfl)
set_option maxHeartbeats 4000000 in
theorem la_fly (cx : kx_Cx p s m #[Value.ref b] meth c D cy RL code 4 ret) (hT : lt_fly P σ τ) (hj : j + 6 ≤ L) (hL : L ≤ 3072) (hc : K ≤ 600000 ∧ S ≤ 7302250) (ih : ∀ (σ τ : kx_St) (H : Heap) (ls : Array Slot), P σ τ → lw_W D cy ad ae A B b L xs s σ τ H → lv_has ls 4 [(0, .ref b), (1, .ref (ad 0)), (2, .ref (ae 0)), (3, .int (nI j + (6 : Int32)))] → W p l e room_1 s m #[Value.ref b] below meth c H [] K S (lw_Z below #[Value.ref b] s) (F0 m 18 ls [])) (hW : lw_W D cy ad ae A B b L xs s σ τ H) (hl : lv_has ls 4 [(0, .ref b), (1, .ref (ad 0)), (2, .ref (ae 0)), (3, .int (nI j))]) : W p l e room_1 s m #[Value.ref b] below meth c H [] K S (lw_Z below #[Value.ref b] s) (F0 m 688 ls []) := by
  obtain ⟨hx, hb, hr, hlocks, hml, hown, hts, hK⟩ := id cx
  obtain ⟨v, h⟩ := hT (xs (nI j + (1 : Int32)).toNatClampNeg)
  refine lv_aload_n (pc := 688) hx hb dL_law_688 rfl (lv_at hl 1 rfl) ?_
  refine lv_aload_n (pc := 689) hx hb dL_law_689 rfl (lv_at hl 0 rfl) ?_
  refine lv_iload_n (pc := 690) hx hb dL_law_690 rfl (lv_at hl 3 rfl) ?_
  refine lv_iconst (pc := 691) (v := (1 : Int32)) hx hb dL_law_691 (by decide) ?_
  refine lv_iadd (pc := 692) hx hb dL_law_692 ?_
  refine lw_sld (pc := 693) (locs := []) hx hb hW (lw_in (k := 1) rfl (by decide) hj hL) dL_law_693 ?_
  refine kx_iVi (pc := 694) [.int _] hx hb hml hown hts hK hW.1.1 hW.1.2.1 va_S.rf (q6_fly h) (cwL_73 hts ⟨Nat.le_of_ble_eq_true rfl, Nat.le_of_ble_eq_true rfl⟩) (show kx_k 0 0 = 6 from rfl) (by decide) rfl rfl hl.1 rfl (Nat.le_of_ble_eq_true rfl) hc dL_law_694 (fun r0 u_ H1 locs1 hP1 hD1 hS1 h => ?_)
  obtain ⟨e0, h⟩ := h
  have hf1 : ∀ q ∈ locs1, s.heap.size ≤ q.base := fun q hq => hW.2.2.2.1 _ (hS1.2.2 q hq)
  replace hW := lw_kc hW hP1 hD1 hS1
  refine va_forget hf1 ?_
  clear hP1 hD1 hS1 hf1
  generalize H1 = H at hW ⊢
  refine lv_aload_n (pc := 697) hx hb dL_law_697 rfl (lv_at hl 2 rfl) ?_
  refine lv_aload_n (pc := 698) hx hb dL_law_698 rfl (lv_at hl 0 rfl) ?_
  refine lv_iload_n (pc := 699) hx hb dL_law_699 rfl (lv_at hl 3 rfl) ?_
  refine lv_iconst (pc := 700) (v := (1 : Int32)) hx hb dL_law_700 (by decide) ?_
  refine lv_iadd (pc := 701) hx hb dL_law_701 ?_
  refine lw_sld (pc := 702) (locs := []) hx hb hW (lw_in (k := 1) rfl (by decide) hj hL) dL_law_702 ?_
  refine kx_iVi (pc := 703) [.int _] hx hb hml hown hts hK hW.1.2.2.1 hW.1.2.2.2 va_S.rf (q7_fly h) (cwL_76 hts ⟨Nat.le_of_ble_eq_true rfl, Nat.le_of_ble_eq_true rfl⟩) (show kx_k 1 0 = 7 from rfl) (by decide) rfl rfl hl.1 rfl (Nat.le_of_ble_eq_true rfl) hc dL_law_703 (fun r1 u_ H1 locs1 hP1 hD1 hS1 h => ?_)
  obtain ⟨e1, h⟩ := h
  have hf1 : ∀ q ∈ locs1, s.heap.size ≤ q.base := fun q hq => hW.2.2.2.2.1 _ (hS1.2.2 q hq)
  replace hW := lw_km hW hP1 hD1 hS1
  refine va_forget hf1 ?_
  clear hP1 hD1 hS1 hf1
  generalize H1 = H at hW ⊢
  refine lv_icmp_eq (pc := 706) (tgt := 1365) hx hb dL_law_706 (by decide) (fun _ => ?_) (fun c0 => absurd (e0.trans e1.symm) c0)
  refine lv_iinc (pc := 1365) (v := (nI j + (6 : Int32))) (lv' := [(3, .int (nI j + (6 : Int32))), (0, .ref b), (1, .ref (ad 0)), (2, .ref (ae 0))]) hx hb dL_law_1365 hl (k := 3) rfl rfl (by decide) rfl (fun ls hl => ?_)
  refine lv_goto (pc := 1368) (tgt := 18) hx hb dL_law_1368 (by decide) ?_
  exact ih _ _ _ _ h hW (lv_sub hl [1, 2, 3, 0] rfl)
set_option maxHeartbeats 4000000 in
theorem la_rest (cx : kx_Cx p s m #[Value.ref b] meth c D cy RL code 4 ret) (hT : lt_rest P σ τ) (hj : j + 6 ≤ L) (hL : L ≤ 3072) (hc : K ≤ 600000 ∧ S ≤ 7302250) (ih : ∀ (σ τ : kx_St) (H : Heap) (ls : Array Slot), P σ τ → lw_W D cy ad ae A B b L xs s σ τ H → lv_has ls 4 [(0, .ref b), (1, .ref (ad 0)), (2, .ref (ae 0)), (3, .int (nI j + (6 : Int32)))] → W p l e room_1 s m #[Value.ref b] below meth c H [] K S (lw_Z below #[Value.ref b] s) (F0 m 18 ls [])) (hW : lw_W D cy ad ae A B b L xs s σ τ H) (hl : lv_has ls 4 [(0, .ref b), (1, .ref (ad 0)), (2, .ref (ae 0)), (3, .int (nI j))]) : W p l e room_1 s m #[Value.ref b] below meth c H [] K S (lw_Z below #[Value.ref b] s) (F0 m 711 ls []) := by
  obtain ⟨hx, hb, hr, hlocks, hml, hown, hts, hK⟩ := id cx
  obtain ⟨v, h⟩ := hT
  refine lv_aload_n (pc := 711) hx hb dL_law_711 rfl (lv_at hl 1 rfl) ?_
  refine kx_iVi (pc := 712) [] hx hb hml hown hts hK hW.1.1 hW.1.2.1 va_S.rf (q6_rest h) (cwL_77 hts ⟨Nat.le_of_ble_eq_true rfl, Nat.le_of_ble_eq_true rfl⟩) (show kx_k 0 0 = 6 from rfl) (by decide) rfl rfl hl.1 rfl (Nat.le_of_ble_eq_true rfl) hc dL_law_712 (fun r0 u_ H1 locs1 hP1 hD1 hS1 h => ?_)
  obtain ⟨e0, h⟩ := h
  have hf1 : ∀ q ∈ locs1, s.heap.size ≤ q.base := fun q hq => hW.2.2.2.1 _ (hS1.2.2 q hq)
  replace hW := lw_kc hW hP1 hD1 hS1
  refine va_forget hf1 ?_
  clear hP1 hD1 hS1 hf1
  generalize H1 = H at hW ⊢
  refine lv_aload_n (pc := 715) hx hb dL_law_715 rfl (lv_at hl 2 rfl) ?_
  refine kx_iVi (pc := 716) [] hx hb hml hown hts hK hW.1.2.2.1 hW.1.2.2.2 va_S.rf (q7_rest h) (cwL_81 hts ⟨Nat.le_of_ble_eq_true rfl, Nat.le_of_ble_eq_true rfl⟩) (show kx_k 1 0 = 7 from rfl) (by decide) rfl rfl hl.1 rfl (Nat.le_of_ble_eq_true rfl) hc dL_law_716 (fun r1 u_ H1 locs1 hP1 hD1 hS1 h => ?_)
  obtain ⟨e1, h⟩ := h
  have hf1 : ∀ q ∈ locs1, s.heap.size ≤ q.base := fun q hq => hW.2.2.2.2.1 _ (hS1.2.2 q hq)
  replace hW := lw_km hW hP1 hD1 hS1
  refine va_forget hf1 ?_
  clear hP1 hD1 hS1 hf1
  generalize H1 = H at hW ⊢
  refine lv_icmp_eq (pc := 719) (tgt := 1365) hx hb dL_law_719 (by decide) (fun _ => ?_) (fun c0 => absurd (e0.trans e1.symm) c0)
  refine lv_iinc (pc := 1365) (v := (nI j + (6 : Int32))) (lv' := [(3, .int (nI j + (6 : Int32))), (0, .ref b), (1, .ref (ad 0)), (2, .ref (ae 0))]) hx hb dL_law_1365 hl (k := 3) rfl rfl (by decide) rfl (fun ls hl => ?_)
  refine lv_goto (pc := 1368) (tgt := 18) hx hb dL_law_1368 (by decide) ?_
  exact ih _ _ _ _ h hW (lv_sub hl [1, 2, 3, 0] rfl)
set_option maxHeartbeats 4000000 in
theorem la_tie (cx : kx_Cx p s m #[Value.ref b] meth c D cy RL code 4 ret) (hT : lt_tie P σ τ) (hj : j + 6 ≤ L) (hL : L ≤ 3072) (hc : K ≤ 600000 ∧ S ≤ 7302250) (ih : ∀ (σ τ : kx_St) (H : Heap) (ls : Array Slot), P σ τ → lw_W D cy ad ae A B b L xs s σ τ H → lv_has ls 4 [(0, .ref b), (1, .ref (ad 0)), (2, .ref (ae 0)), (3, .int (nI j + (6 : Int32)))] → W p l e room_1 s m #[Value.ref b] below meth c H [] K S (lw_Z below #[Value.ref b] s) (F0 m 18 ls [])) (hW : lw_W D cy ad ae A B b L xs s σ τ H) (hl : lv_has ls 4 [(0, .ref b), (1, .ref (ad 0)), (2, .ref (ae 0)), (3, .int (nI j))]) : W p l e room_1 s m #[Value.ref b] below meth c H [] K S (lw_Z below #[Value.ref b] s) (F0 m 724 ls []) := by
  obtain ⟨hx, hb, hr, hlocks, hml, hown, hts, hK⟩ := id cx
  obtain ⟨v, h⟩ := hT (xs (nI j + (1 : Int32)).toNatClampNeg)
  refine lv_aload_n (pc := 724) hx hb dL_law_724 rfl (lv_at hl 1 rfl) ?_
  refine lv_aload_n (pc := 725) hx hb dL_law_725 rfl (lv_at hl 0 rfl) ?_
  refine lv_iload_n (pc := 726) hx hb dL_law_726 rfl (lv_at hl 3 rfl) ?_
  refine lv_iconst (pc := 727) (v := (1 : Int32)) hx hb dL_law_727 (by decide) ?_
  refine lv_iadd (pc := 728) hx hb dL_law_728 ?_
  refine lw_sld (pc := 729) (locs := []) hx hb hW (lw_in (k := 1) rfl (by decide) hj hL) dL_law_729 ?_
  refine kx_iVi (pc := 730) [.int _] hx hb hml hown hts hK hW.1.1 hW.1.2.1 va_S.rf (q6_tie h) (cwL_82 hts ⟨Nat.le_of_ble_eq_true rfl, Nat.le_of_ble_eq_true rfl⟩) (show kx_k 0 0 = 6 from rfl) (by decide) rfl rfl hl.1 rfl (Nat.le_of_ble_eq_true rfl) hc dL_law_730 (fun r0 u_ H1 locs1 hP1 hD1 hS1 h => ?_)
  obtain ⟨e0, h⟩ := h
  have hf1 : ∀ q ∈ locs1, s.heap.size ≤ q.base := fun q hq => hW.2.2.2.1 _ (hS1.2.2 q hq)
  replace hW := lw_kc hW hP1 hD1 hS1
  refine va_forget hf1 ?_
  clear hP1 hD1 hS1 hf1
  generalize H1 = H at hW ⊢
  refine lv_aload_n (pc := 733) hx hb dL_law_733 rfl (lv_at hl 2 rfl) ?_
  refine lv_aload_n (pc := 734) hx hb dL_law_734 rfl (lv_at hl 0 rfl) ?_
  refine lv_iload_n (pc := 735) hx hb dL_law_735 rfl (lv_at hl 3 rfl) ?_
  refine lv_iconst (pc := 736) (v := (1 : Int32)) hx hb dL_law_736 (by decide) ?_
  refine lv_iadd (pc := 737) hx hb dL_law_737 ?_
  refine lw_sld (pc := 738) (locs := []) hx hb hW (lw_in (k := 1) rfl (by decide) hj hL) dL_law_738 ?_
  refine kx_iVi (pc := 739) [.int _] hx hb hml hown hts hK hW.1.2.2.1 hW.1.2.2.2 va_S.rf (q7_tie h) (cwL_85 hts ⟨Nat.le_of_ble_eq_true rfl, Nat.le_of_ble_eq_true rfl⟩) (show kx_k 1 0 = 7 from rfl) (by decide) rfl rfl hl.1 rfl (Nat.le_of_ble_eq_true rfl) hc dL_law_739 (fun r1 u_ H1 locs1 hP1 hD1 hS1 h => ?_)
  obtain ⟨e1, h⟩ := h
  have hf1 : ∀ q ∈ locs1, s.heap.size ≤ q.base := fun q hq => hW.2.2.2.2.1 _ (hS1.2.2 q hq)
  replace hW := lw_km hW hP1 hD1 hS1
  refine va_forget hf1 ?_
  clear hP1 hD1 hS1 hf1
  generalize H1 = H at hW ⊢
  refine lv_icmp_eq (pc := 742) (tgt := 1365) hx hb dL_law_742 (by decide) (fun _ => ?_) (fun c0 => absurd (e0.trans e1.symm) c0)
  refine lv_iinc (pc := 1365) (v := (nI j + (6 : Int32))) (lv' := [(3, .int (nI j + (6 : Int32))), (0, .ref b), (1, .ref (ad 0)), (2, .ref (ae 0))]) hx hb dL_law_1365 hl (k := 3) rfl rfl (by decide) rfl (fun ls hl => ?_)
  refine lv_goto (pc := 1368) (tgt := 18) hx hb dL_law_1368 (by decide) ?_
  exact ih _ _ _ _ h hW (lv_sub hl [1, 2, 3, 0] rfl)
set_option maxHeartbeats 4000000 in
theorem la_cut (cx : kx_Cx p s m #[Value.ref b] meth c D cy RL code 4 ret) (hT : lt_cut P σ τ) (hj : j + 6 ≤ L) (hL : L ≤ 3072) (hc : K ≤ 600000 ∧ S ≤ 7302250) (ih : ∀ (σ τ : kx_St) (H : Heap) (ls : Array Slot), P σ τ → lw_W D cy ad ae A B b L xs s σ τ H → lv_has ls 4 [(0, .ref b), (1, .ref (ad 0)), (2, .ref (ae 0)), (3, .int (nI j + (6 : Int32)))] → W p l e room_1 s m #[Value.ref b] below meth c H [] K S (lw_Z below #[Value.ref b] s) (F0 m 18 ls [])) (hW : lw_W D cy ad ae A B b L xs s σ τ H) (hl : lv_has ls 4 [(0, .ref b), (1, .ref (ad 0)), (2, .ref (ae 0)), (3, .int (nI j))]) : W p l e room_1 s m #[Value.ref b] below meth c H [] K S (lw_Z below #[Value.ref b] s) (F0 m 747 ls []) := by
  obtain ⟨hx, hb, hr, hlocks, hml, hown, hts, hK⟩ := id cx
  obtain ⟨v, h⟩ := hT (xs (nI j + (1 : Int32)).toNatClampNeg)
  refine lv_aload_n (pc := 747) hx hb dL_law_747 rfl (lv_at hl 1 rfl) ?_
  refine lv_aload_n (pc := 748) hx hb dL_law_748 rfl (lv_at hl 0 rfl) ?_
  refine lv_iload_n (pc := 749) hx hb dL_law_749 rfl (lv_at hl 3 rfl) ?_
  refine lv_iconst (pc := 750) (v := (1 : Int32)) hx hb dL_law_750 (by decide) ?_
  refine lv_iadd (pc := 751) hx hb dL_law_751 ?_
  refine lw_sld (pc := 752) (locs := []) hx hb hW (lw_in (k := 1) rfl (by decide) hj hL) dL_law_752 ?_
  refine kx_iVi (pc := 753) [.int _] hx hb hml hown hts hK hW.1.1 hW.1.2.1 va_S.rf (q6_cut h) (cwL_86 hts ⟨Nat.le_of_ble_eq_true rfl, Nat.le_of_ble_eq_true rfl⟩) (show kx_k 0 0 = 6 from rfl) (by decide) rfl rfl hl.1 rfl (Nat.le_of_ble_eq_true rfl) hc dL_law_753 (fun r0 u_ H1 locs1 hP1 hD1 hS1 h => ?_)
  obtain ⟨e0, h⟩ := h
  have hf1 : ∀ q ∈ locs1, s.heap.size ≤ q.base := fun q hq => hW.2.2.2.1 _ (hS1.2.2 q hq)
  replace hW := lw_kc hW hP1 hD1 hS1
  refine va_forget hf1 ?_
  clear hP1 hD1 hS1 hf1
  generalize H1 = H at hW ⊢
  refine lv_aload_n (pc := 756) hx hb dL_law_756 rfl (lv_at hl 2 rfl) ?_
  refine lv_aload_n (pc := 757) hx hb dL_law_757 rfl (lv_at hl 0 rfl) ?_
  refine lv_iload_n (pc := 758) hx hb dL_law_758 rfl (lv_at hl 3 rfl) ?_
  refine lv_iconst (pc := 759) (v := (1 : Int32)) hx hb dL_law_759 (by decide) ?_
  refine lv_iadd (pc := 760) hx hb dL_law_760 ?_
  refine lw_sld (pc := 761) (locs := []) hx hb hW (lw_in (k := 1) rfl (by decide) hj hL) dL_law_761 ?_
  refine kx_iVi (pc := 762) [.int _] hx hb hml hown hts hK hW.1.2.2.1 hW.1.2.2.2 va_S.rf (q7_cut h) (cwL_89 hts ⟨Nat.le_of_ble_eq_true rfl, Nat.le_of_ble_eq_true rfl⟩) (show kx_k 1 0 = 7 from rfl) (by decide) rfl rfl hl.1 rfl (Nat.le_of_ble_eq_true rfl) hc dL_law_762 (fun r1 u_ H1 locs1 hP1 hD1 hS1 h => ?_)
  obtain ⟨e1, h⟩ := h
  have hf1 : ∀ q ∈ locs1, s.heap.size ≤ q.base := fun q hq => hW.2.2.2.2.1 _ (hS1.2.2 q hq)
  replace hW := lw_km hW hP1 hD1 hS1
  refine va_forget hf1 ?_
  clear hP1 hD1 hS1 hf1
  generalize H1 = H at hW ⊢
  refine lv_icmp_eq (pc := 765) (tgt := 1365) hx hb dL_law_765 (by decide) (fun _ => ?_) (fun c0 => absurd (e0.trans e1.symm) c0)
  refine lv_iinc (pc := 1365) (v := (nI j + (6 : Int32))) (lv' := [(3, .int (nI j + (6 : Int32))), (0, .ref b), (1, .ref (ad 0)), (2, .ref (ae 0))]) hx hb dL_law_1365 hl (k := 3) rfl rfl (by decide) rfl (fun ls hl => ?_)
  refine lv_goto (pc := 1368) (tgt := 18) hx hb dL_law_1368 (by decide) ?_
  exact ih _ _ _ _ h hW (lv_sub hl [1, 2, 3, 0] rfl)
set_option maxHeartbeats 4000000 in
theorem la_undo (cx : kx_Cx p s m #[Value.ref b] meth c D cy RL code 4 ret) (hT : lt_undo P σ τ) (hj : j + 6 ≤ L) (hL : L ≤ 3072) (hc : K ≤ 600000 ∧ S ≤ 7302250) (ih : ∀ (σ τ : kx_St) (H : Heap) (ls : Array Slot), P σ τ → lw_W D cy ad ae A B b L xs s σ τ H → lv_has ls 4 [(0, .ref b), (1, .ref (ad 0)), (2, .ref (ae 0)), (3, .int (nI j + (6 : Int32)))] → W p l e room_1 s m #[Value.ref b] below meth c H [] K S (lw_Z below #[Value.ref b] s) (F0 m 18 ls [])) (hW : lw_W D cy ad ae A B b L xs s σ τ H) (hl : lv_has ls 4 [(0, .ref b), (1, .ref (ad 0)), (2, .ref (ae 0)), (3, .int (nI j))]) : W p l e room_1 s m #[Value.ref b] below meth c H [] K S (lw_Z below #[Value.ref b] s) (F0 m 770 ls []) := by
  obtain ⟨hx, hb, hr, hlocks, hml, hown, hts, hK⟩ := id cx
  obtain ⟨v, h⟩ := hT (xs (nI j + (1 : Int32)).toNatClampNeg)
  refine lv_aload_n (pc := 770) hx hb dL_law_770 rfl (lv_at hl 1 rfl) ?_
  refine lv_aload_n (pc := 771) hx hb dL_law_771 rfl (lv_at hl 0 rfl) ?_
  refine lv_iload_n (pc := 772) hx hb dL_law_772 rfl (lv_at hl 3 rfl) ?_
  refine lv_iconst (pc := 773) (v := (1 : Int32)) hx hb dL_law_773 (by decide) ?_
  refine lv_iadd (pc := 774) hx hb dL_law_774 ?_
  refine lw_sld (pc := 775) (locs := []) hx hb hW (lw_in (k := 1) rfl (by decide) hj hL) dL_law_775 ?_
  refine kx_iVi (pc := 776) [.int _] hx hb hml hown hts hK hW.1.1 hW.1.2.1 va_S.rf (q6_undo h) (cwL_90 hts ⟨Nat.le_of_ble_eq_true rfl, Nat.le_of_ble_eq_true rfl⟩) (show kx_k 0 0 = 6 from rfl) (by decide) rfl rfl hl.1 rfl (Nat.le_of_ble_eq_true rfl) hc dL_law_776 (fun r0 u_ H1 locs1 hP1 hD1 hS1 h => ?_)
  obtain ⟨e0, h⟩ := h
  have hf1 : ∀ q ∈ locs1, s.heap.size ≤ q.base := fun q hq => hW.2.2.2.1 _ (hS1.2.2 q hq)
  replace hW := lw_kc hW hP1 hD1 hS1
  refine va_forget hf1 ?_
  clear hP1 hD1 hS1 hf1
  generalize H1 = H at hW ⊢
  refine lv_aload_n (pc := 779) hx hb dL_law_779 rfl (lv_at hl 2 rfl) ?_
  refine lv_aload_n (pc := 780) hx hb dL_law_780 rfl (lv_at hl 0 rfl) ?_
  refine lv_iload_n (pc := 781) hx hb dL_law_781 rfl (lv_at hl 3 rfl) ?_
  refine lv_iconst (pc := 782) (v := (1 : Int32)) hx hb dL_law_782 (by decide) ?_
  refine lv_iadd (pc := 783) hx hb dL_law_783 ?_
  refine lw_sld (pc := 784) (locs := []) hx hb hW (lw_in (k := 1) rfl (by decide) hj hL) dL_law_784 ?_
  refine kx_iVi (pc := 785) [.int _] hx hb hml hown hts hK hW.1.2.2.1 hW.1.2.2.2 va_S.rf (q7_undo h) (cwL_93 hts ⟨Nat.le_of_ble_eq_true rfl, Nat.le_of_ble_eq_true rfl⟩) (show kx_k 1 0 = 7 from rfl) (by decide) rfl rfl hl.1 rfl (Nat.le_of_ble_eq_true rfl) hc dL_law_785 (fun r1 u_ H1 locs1 hP1 hD1 hS1 h => ?_)
  obtain ⟨e1, h⟩ := h
  have hf1 : ∀ q ∈ locs1, s.heap.size ≤ q.base := fun q hq => hW.2.2.2.2.1 _ (hS1.2.2 q hq)
  replace hW := lw_km hW hP1 hD1 hS1
  refine va_forget hf1 ?_
  clear hP1 hD1 hS1 hf1
  generalize H1 = H at hW ⊢
  refine lv_icmp_eq (pc := 788) (tgt := 1365) hx hb dL_law_788 (by decide) (fun _ => ?_) (fun c0 => absurd (e0.trans e1.symm) c0)
  refine lv_iinc (pc := 1365) (v := (nI j + (6 : Int32))) (lv' := [(3, .int (nI j + (6 : Int32))), (0, .ref b), (1, .ref (ad 0)), (2, .ref (ae 0))]) hx hb dL_law_1365 hl (k := 3) rfl rfl (by decide) rfl (fun ls hl => ?_)
  refine lv_goto (pc := 1368) (tgt := 18) hx hb dL_law_1368 (by decide) ?_
  exact ih _ _ _ _ h hW (lv_sub hl [1, 2, 3, 0] rfl)
set_option maxHeartbeats 4000000 in
theorem la_keep (cx : kx_Cx p s m #[Value.ref b] meth c D cy RL code 4 ret) (hT : lt_keep P σ τ) (hj : j + 6 ≤ L) (hL : L ≤ 3072) (hc : K ≤ 600000 ∧ S ≤ 7302250) (ih : ∀ (σ τ : kx_St) (H : Heap) (ls : Array Slot), P σ τ → lw_W D cy ad ae A B b L xs s σ τ H → lv_has ls 4 [(0, .ref b), (1, .ref (ad 0)), (2, .ref (ae 0)), (3, .int (nI j + (6 : Int32)))] → W p l e room_1 s m #[Value.ref b] below meth c H [] K S (lw_Z below #[Value.ref b] s) (F0 m 18 ls [])) (hW : lw_W D cy ad ae A B b L xs s σ τ H) (hl : lv_has ls 4 [(0, .ref b), (1, .ref (ad 0)), (2, .ref (ae 0)), (3, .int (nI j))]) : W p l e room_1 s m #[Value.ref b] below meth c H [] K S (lw_Z below #[Value.ref b] s) (F0 m 793 ls []) := by
  obtain ⟨hx, hb, hr, hlocks, hml, hown, hts, hK⟩ := id cx
  obtain ⟨v, h⟩ := hT (xs (nI j + (1 : Int32)).toNatClampNeg)
  refine lv_aload_n (pc := 793) hx hb dL_law_793 rfl (lv_at hl 1 rfl) ?_
  refine lv_aload_n (pc := 794) hx hb dL_law_794 rfl (lv_at hl 0 rfl) ?_
  refine lv_iload_n (pc := 795) hx hb dL_law_795 rfl (lv_at hl 3 rfl) ?_
  refine lv_iconst (pc := 796) (v := (1 : Int32)) hx hb dL_law_796 (by decide) ?_
  refine lv_iadd (pc := 797) hx hb dL_law_797 ?_
  refine lw_sld (pc := 798) (locs := []) hx hb hW (lw_in (k := 1) rfl (by decide) hj hL) dL_law_798 ?_
  refine kx_iVi (pc := 799) [.int _] hx hb hml hown hts hK hW.1.1 hW.1.2.1 va_S.rf (q6_keep h) (cwL_94 hts ⟨Nat.le_of_ble_eq_true rfl, Nat.le_of_ble_eq_true rfl⟩) (show kx_k 0 0 = 6 from rfl) (by decide) rfl rfl hl.1 rfl (Nat.le_of_ble_eq_true rfl) hc dL_law_799 (fun r0 u_ H1 locs1 hP1 hD1 hS1 h => ?_)
  obtain ⟨e0, h⟩ := h
  have hf1 : ∀ q ∈ locs1, s.heap.size ≤ q.base := fun q hq => hW.2.2.2.1 _ (hS1.2.2 q hq)
  replace hW := lw_kc hW hP1 hD1 hS1
  refine va_forget hf1 ?_
  clear hP1 hD1 hS1 hf1
  generalize H1 = H at hW ⊢
  refine lv_aload_n (pc := 802) hx hb dL_law_802 rfl (lv_at hl 2 rfl) ?_
  refine lv_aload_n (pc := 803) hx hb dL_law_803 rfl (lv_at hl 0 rfl) ?_
  refine lv_iload_n (pc := 804) hx hb dL_law_804 rfl (lv_at hl 3 rfl) ?_
  refine lv_iconst (pc := 805) (v := (1 : Int32)) hx hb dL_law_805 (by decide) ?_
  refine lv_iadd (pc := 806) hx hb dL_law_806 ?_
  refine lw_sld (pc := 807) (locs := []) hx hb hW (lw_in (k := 1) rfl (by decide) hj hL) dL_law_807 ?_
  refine kx_iVi (pc := 808) [.int _] hx hb hml hown hts hK hW.1.2.2.1 hW.1.2.2.2 va_S.rf (q7_keep h) (cwL_97 hts ⟨Nat.le_of_ble_eq_true rfl, Nat.le_of_ble_eq_true rfl⟩) (show kx_k 1 0 = 7 from rfl) (by decide) rfl rfl hl.1 rfl (Nat.le_of_ble_eq_true rfl) hc dL_law_808 (fun r1 u_ H1 locs1 hP1 hD1 hS1 h => ?_)
  obtain ⟨e1, h⟩ := h
  have hf1 : ∀ q ∈ locs1, s.heap.size ≤ q.base := fun q hq => hW.2.2.2.2.1 _ (hS1.2.2 q hq)
  replace hW := lw_km hW hP1 hD1 hS1
  refine va_forget hf1 ?_
  clear hP1 hD1 hS1 hf1
  generalize H1 = H at hW ⊢
  refine lv_icmp_eq (pc := 811) (tgt := 1365) hx hb dL_law_811 (by decide) (fun _ => ?_) (fun c0 => absurd (e0.trans e1.symm) c0)
  refine lv_iinc (pc := 1365) (v := (nI j + (6 : Int32))) (lv' := [(3, .int (nI j + (6 : Int32))), (0, .ref b), (1, .ref (ad 0)), (2, .ref (ae 0))]) hx hb dL_law_1365 hl (k := 3) rfl rfl (by decide) rfl (fun ls hl => ?_)
  refine lv_goto (pc := 1368) (tgt := 18) hx hb dL_law_1368 (by decide) ?_
  exact ih _ _ _ _ h hW (lv_sub hl [1, 2, 3, 0] rfl)
set_option maxHeartbeats 4000000 in
theorem la_on (cx : kx_Cx p s m #[Value.ref b] meth c D cy RL code 4 ret) (hT : lt_on P σ τ) (hj : j + 6 ≤ L) (hL : L ≤ 3072) (hc : K ≤ 600000 ∧ S ≤ 7302250) (ih : ∀ (σ τ : kx_St) (H : Heap) (ls : Array Slot), P σ τ → lw_W D cy ad ae A B b L xs s σ τ H → lv_has ls 4 [(0, .ref b), (1, .ref (ad 0)), (2, .ref (ae 0)), (3, .int (nI j + (6 : Int32)))] → W p l e room_1 s m #[Value.ref b] below meth c H [] K S (lw_Z below #[Value.ref b] s) (F0 m 18 ls [])) (hW : lw_W D cy ad ae A B b L xs s σ τ H) (hl : lv_has ls 4 [(0, .ref b), (1, .ref (ad 0)), (2, .ref (ae 0)), (3, .int (nI j))]) : W p l e room_1 s m #[Value.ref b] below meth c H [] K S (lw_Z below #[Value.ref b] s) (F0 m 816 ls []) := by
  obtain ⟨hx, hb, hr, hlocks, hml, hown, hts, hK⟩ := id cx
  obtain ⟨v, h⟩ := hT (xs (nI j + (1 : Int32)).toNatClampNeg)
  refine lv_aload_n (pc := 816) hx hb dL_law_816 rfl (lv_at hl 1 rfl) ?_
  refine lv_aload_n (pc := 817) hx hb dL_law_817 rfl (lv_at hl 0 rfl) ?_
  refine lv_iload_n (pc := 818) hx hb dL_law_818 rfl (lv_at hl 3 rfl) ?_
  refine lv_iconst (pc := 819) (v := (1 : Int32)) hx hb dL_law_819 (by decide) ?_
  refine lv_iadd (pc := 820) hx hb dL_law_820 ?_
  refine lw_sld (pc := 821) (locs := []) hx hb hW (lw_in (k := 1) rfl (by decide) hj hL) dL_law_821 ?_
  refine kx_iVi (pc := 822) [.int _] hx hb hml hown hts hK hW.1.1 hW.1.2.1 va_S.rf (q6_on h) (cwL_98 hts ⟨Nat.le_of_ble_eq_true rfl, Nat.le_of_ble_eq_true rfl⟩) (show kx_k 0 0 = 6 from rfl) (by decide) rfl rfl hl.1 rfl (Nat.le_of_ble_eq_true rfl) hc dL_law_822 (fun r0 u_ H1 locs1 hP1 hD1 hS1 h => ?_)
  obtain ⟨e0, h⟩ := h
  have hf1 : ∀ q ∈ locs1, s.heap.size ≤ q.base := fun q hq => hW.2.2.2.1 _ (hS1.2.2 q hq)
  replace hW := lw_kc hW hP1 hD1 hS1
  refine va_forget hf1 ?_
  clear hP1 hD1 hS1 hf1
  generalize H1 = H at hW ⊢
  refine lv_aload_n (pc := 825) hx hb dL_law_825 rfl (lv_at hl 2 rfl) ?_
  refine lv_aload_n (pc := 826) hx hb dL_law_826 rfl (lv_at hl 0 rfl) ?_
  refine lv_iload_n (pc := 827) hx hb dL_law_827 rfl (lv_at hl 3 rfl) ?_
  refine lv_iconst (pc := 828) (v := (1 : Int32)) hx hb dL_law_828 (by decide) ?_
  refine lv_iadd (pc := 829) hx hb dL_law_829 ?_
  refine lw_sld (pc := 830) (locs := []) hx hb hW (lw_in (k := 1) rfl (by decide) hj hL) dL_law_830 ?_
  refine kx_iVi (pc := 831) [.int _] hx hb hml hown hts hK hW.1.2.2.1 hW.1.2.2.2 va_S.rf (q7_on h) (cwL_101 hts ⟨Nat.le_of_ble_eq_true rfl, Nat.le_of_ble_eq_true rfl⟩) (show kx_k 1 0 = 7 from rfl) (by decide) rfl rfl hl.1 rfl (Nat.le_of_ble_eq_true rfl) hc dL_law_831 (fun r1 u_ H1 locs1 hP1 hD1 hS1 h => ?_)
  obtain ⟨e1, h⟩ := h
  have hf1 : ∀ q ∈ locs1, s.heap.size ≤ q.base := fun q hq => hW.2.2.2.2.1 _ (hS1.2.2 q hq)
  replace hW := lw_km hW hP1 hD1 hS1
  refine va_forget hf1 ?_
  clear hP1 hD1 hS1 hf1
  generalize H1 = H at hW ⊢
  refine lv_icmp_eq (pc := 834) (tgt := 1365) hx hb dL_law_834 (by decide) (fun _ => ?_) (fun c0 => absurd (e0.trans e1.symm) c0)
  refine lv_iinc (pc := 1365) (v := (nI j + (6 : Int32))) (lv' := [(3, .int (nI j + (6 : Int32))), (0, .ref b), (1, .ref (ad 0)), (2, .ref (ae 0))]) hx hb dL_law_1365 hl (k := 3) rfl rfl (by decide) rfl (fun ls hl => ?_)
  refine lv_goto (pc := 1368) (tgt := 18) hx hb dL_law_1368 (by decide) ?_
  exact ih _ _ _ _ h hW (lv_sub hl [1, 2, 3, 0] rfl)
set_option maxHeartbeats 4000000 in
theorem la_most (cx : kx_Cx p s m #[Value.ref b] meth c D cy RL code 4 ret) (hT : lt_most P σ τ) (hj : j + 6 ≤ L) (hL : L ≤ 3072) (hc : K ≤ 600000 ∧ S ≤ 7302250) (ih : ∀ (σ τ : kx_St) (H : Heap) (ls : Array Slot), P σ τ → lw_W D cy ad ae A B b L xs s σ τ H → lv_has ls 4 [(0, .ref b), (1, .ref (ad 0)), (2, .ref (ae 0)), (3, .int (nI j + (6 : Int32)))] → W p l e room_1 s m #[Value.ref b] below meth c H [] K S (lw_Z below #[Value.ref b] s) (F0 m 18 ls [])) (hW : lw_W D cy ad ae A B b L xs s σ τ H) (hl : lv_has ls 4 [(0, .ref b), (1, .ref (ad 0)), (2, .ref (ae 0)), (3, .int (nI j))]) : W p l e room_1 s m #[Value.ref b] below meth c H [] K S (lw_Z below #[Value.ref b] s) (F0 m 839 ls []) := by
  obtain ⟨hx, hb, hr, hlocks, hml, hown, hts, hK⟩ := id cx
  obtain ⟨v, h⟩ := hT (xs (nI j + (1 : Int32)).toNatClampNeg) (xs (nI j + (2 : Int32)).toNatClampNeg)
  refine lv_aload_n (pc := 839) hx hb dL_law_839 rfl (lv_at hl 1 rfl) ?_
  refine lv_aload_n (pc := 840) hx hb dL_law_840 rfl (lv_at hl 0 rfl) ?_
  refine lv_iload_n (pc := 841) hx hb dL_law_841 rfl (lv_at hl 3 rfl) ?_
  refine lv_iconst (pc := 842) (v := (1 : Int32)) hx hb dL_law_842 (by decide) ?_
  refine lv_iadd (pc := 843) hx hb dL_law_843 ?_
  refine lw_sld (pc := 844) (locs := []) hx hb hW (lw_in (k := 1) rfl (by decide) hj hL) dL_law_844 ?_
  refine lv_aload_n (pc := 845) hx hb dL_law_845 rfl (lv_at hl 0 rfl) ?_
  refine lv_iload_n (pc := 846) hx hb dL_law_846 rfl (lv_at hl 3 rfl) ?_
  refine lv_iconst (pc := 847) (v := (2 : Int32)) hx hb dL_law_847 (by decide) ?_
  refine lv_iadd (pc := 848) hx hb dL_law_848 ?_
  refine lw_sld (pc := 849) (locs := []) hx hb hW (lw_in (k := 2) rfl (by decide) hj hL) dL_law_849 ?_
  refine kx_iVi (pc := 850) [.int _, .int _] hx hb hml hown hts hK hW.1.1 hW.1.2.1 va_S.rf (q6_most h) (cwL_102 hts ⟨Nat.le_of_ble_eq_true rfl, Nat.le_of_ble_eq_true rfl⟩) (show kx_k 0 0 = 6 from rfl) (by decide) rfl rfl hl.1 rfl (Nat.le_of_ble_eq_true rfl) hc dL_law_850 (fun r0 u_ H1 locs1 hP1 hD1 hS1 h => ?_)
  obtain ⟨e0, h⟩ := h
  have hf1 : ∀ q ∈ locs1, s.heap.size ≤ q.base := fun q hq => hW.2.2.2.1 _ (hS1.2.2 q hq)
  replace hW := lw_kc hW hP1 hD1 hS1
  refine va_forget hf1 ?_
  clear hP1 hD1 hS1 hf1
  generalize H1 = H at hW ⊢
  refine lv_aload_n (pc := 853) hx hb dL_law_853 rfl (lv_at hl 2 rfl) ?_
  refine lv_aload_n (pc := 854) hx hb dL_law_854 rfl (lv_at hl 0 rfl) ?_
  refine lv_iload_n (pc := 855) hx hb dL_law_855 rfl (lv_at hl 3 rfl) ?_
  refine lv_iconst (pc := 856) (v := (1 : Int32)) hx hb dL_law_856 (by decide) ?_
  refine lv_iadd (pc := 857) hx hb dL_law_857 ?_
  refine lw_sld (pc := 858) (locs := []) hx hb hW (lw_in (k := 1) rfl (by decide) hj hL) dL_law_858 ?_
  refine lv_aload_n (pc := 859) hx hb dL_law_859 rfl (lv_at hl 0 rfl) ?_
  refine lv_iload_n (pc := 860) hx hb dL_law_860 rfl (lv_at hl 3 rfl) ?_
  refine lv_iconst (pc := 861) (v := (2 : Int32)) hx hb dL_law_861 (by decide) ?_
  refine lv_iadd (pc := 862) hx hb dL_law_862 ?_
  refine lw_sld (pc := 863) (locs := []) hx hb hW (lw_in (k := 2) rfl (by decide) hj hL) dL_law_863 ?_
  refine kx_iVi (pc := 864) [.int _, .int _] hx hb hml hown hts hK hW.1.2.2.1 hW.1.2.2.2 va_S.rf (q7_most h) (cwL_105 hts ⟨Nat.le_of_ble_eq_true rfl, Nat.le_of_ble_eq_true rfl⟩) (show kx_k 1 0 = 7 from rfl) (by decide) rfl rfl hl.1 rfl (Nat.le_of_ble_eq_true rfl) hc dL_law_864 (fun r1 u_ H1 locs1 hP1 hD1 hS1 h => ?_)
  obtain ⟨e1, h⟩ := h
  have hf1 : ∀ q ∈ locs1, s.heap.size ≤ q.base := fun q hq => hW.2.2.2.2.1 _ (hS1.2.2 q hq)
  replace hW := lw_km hW hP1 hD1 hS1
  refine va_forget hf1 ?_
  clear hP1 hD1 hS1 hf1
  generalize H1 = H at hW ⊢
  refine lv_icmp_eq (pc := 867) (tgt := 1365) hx hb dL_law_867 (by decide) (fun _ => ?_) (fun c0 => absurd (e0.trans e1.symm) c0)
  refine lv_iinc (pc := 1365) (v := (nI j + (6 : Int32))) (lv' := [(3, .int (nI j + (6 : Int32))), (0, .ref b), (1, .ref (ad 0)), (2, .ref (ae 0))]) hx hb dL_law_1365 hl (k := 3) rfl rfl (by decide) rfl (fun ls hl => ?_)
  refine lv_goto (pc := 1368) (tgt := 18) hx hb dL_law_1368 (by decide) ?_
  exact ih _ _ _ _ h hW (lv_sub hl [1, 2, 3, 0] rfl)
set_option maxHeartbeats 4000000 in
theorem la_school (cx : kx_Cx p s m #[Value.ref b] meth c D cy RL code 4 ret) (hT : lt_school P σ τ) (hj : j + 6 ≤ L) (hL : L ≤ 3072) (hc : K ≤ 600000 ∧ S ≤ 7302250) (ih : ∀ (σ τ : kx_St) (H : Heap) (ls : Array Slot), P σ τ → lw_W D cy ad ae A B b L xs s σ τ H → lv_has ls 4 [(0, .ref b), (1, .ref (ad 0)), (2, .ref (ae 0)), (3, .int (nI j + (6 : Int32)))] → W p l e room_1 s m #[Value.ref b] below meth c H [] K S (lw_Z below #[Value.ref b] s) (F0 m 18 ls [])) (hW : lw_W D cy ad ae A B b L xs s σ τ H) (hl : lv_has ls 4 [(0, .ref b), (1, .ref (ad 0)), (2, .ref (ae 0)), (3, .int (nI j))]) : W p l e room_1 s m #[Value.ref b] below meth c H [] K S (lw_Z below #[Value.ref b] s) (F0 m 872 ls []) := by
  obtain ⟨hx, hb, hr, hlocks, hml, hown, hts, hK⟩ := id cx
  obtain ⟨v, h⟩ := hT (xs (nI j + (1 : Int32)).toNatClampNeg)
  refine lv_aload_n (pc := 872) hx hb dL_law_872 rfl (lv_at hl 1 rfl) ?_
  refine lv_aload_n (pc := 873) hx hb dL_law_873 rfl (lv_at hl 0 rfl) ?_
  refine lv_iload_n (pc := 874) hx hb dL_law_874 rfl (lv_at hl 3 rfl) ?_
  refine lv_iconst (pc := 875) (v := (1 : Int32)) hx hb dL_law_875 (by decide) ?_
  refine lv_iadd (pc := 876) hx hb dL_law_876 ?_
  refine lw_sld (pc := 877) (locs := []) hx hb hW (lw_in (k := 1) rfl (by decide) hj hL) dL_law_877 ?_
  refine kx_iVi (pc := 878) [.int _] hx hb hml hown hts hK hW.1.1 hW.1.2.1 va_S.rf (q6_school h) (cwL_106 hts ⟨Nat.le_of_ble_eq_true rfl, Nat.le_of_ble_eq_true rfl⟩) (show kx_k 0 0 = 6 from rfl) (by decide) rfl rfl hl.1 rfl (Nat.le_of_ble_eq_true rfl) hc dL_law_878 (fun r0 u_ H1 locs1 hP1 hD1 hS1 h => ?_)
  obtain ⟨e0, h⟩ := h
  have hf1 : ∀ q ∈ locs1, s.heap.size ≤ q.base := fun q hq => hW.2.2.2.1 _ (hS1.2.2 q hq)
  replace hW := lw_kc hW hP1 hD1 hS1
  refine va_forget hf1 ?_
  clear hP1 hD1 hS1 hf1
  generalize H1 = H at hW ⊢
  refine lv_aload_n (pc := 881) hx hb dL_law_881 rfl (lv_at hl 2 rfl) ?_
  refine lv_aload_n (pc := 882) hx hb dL_law_882 rfl (lv_at hl 0 rfl) ?_
  refine lv_iload_n (pc := 883) hx hb dL_law_883 rfl (lv_at hl 3 rfl) ?_
  refine lv_iconst (pc := 884) (v := (1 : Int32)) hx hb dL_law_884 (by decide) ?_
  refine lv_iadd (pc := 885) hx hb dL_law_885 ?_
  refine lw_sld (pc := 886) (locs := []) hx hb hW (lw_in (k := 1) rfl (by decide) hj hL) dL_law_886 ?_
  refine kx_iVi (pc := 887) [.int _] hx hb hml hown hts hK hW.1.2.2.1 hW.1.2.2.2 va_S.rf (q7_school h) (cwL_109 hts ⟨Nat.le_of_ble_eq_true rfl, Nat.le_of_ble_eq_true rfl⟩) (show kx_k 1 0 = 7 from rfl) (by decide) rfl rfl hl.1 rfl (Nat.le_of_ble_eq_true rfl) hc dL_law_887 (fun r1 u_ H1 locs1 hP1 hD1 hS1 h => ?_)
  obtain ⟨e1, h⟩ := h
  have hf1 : ∀ q ∈ locs1, s.heap.size ≤ q.base := fun q hq => hW.2.2.2.2.1 _ (hS1.2.2 q hq)
  replace hW := lw_km hW hP1 hD1 hS1
  refine va_forget hf1 ?_
  clear hP1 hD1 hS1 hf1
  generalize H1 = H at hW ⊢
  refine lv_icmp_eq (pc := 890) (tgt := 1365) hx hb dL_law_890 (by decide) (fun _ => ?_) (fun c0 => absurd (e0.trans e1.symm) c0)
  refine lv_iinc (pc := 1365) (v := (nI j + (6 : Int32))) (lv' := [(3, .int (nI j + (6 : Int32))), (0, .ref b), (1, .ref (ad 0)), (2, .ref (ae 0))]) hx hb dL_law_1365 hl (k := 3) rfl rfl (by decide) rfl (fun ls hl => ?_)
  refine lv_goto (pc := 1368) (tgt := 18) hx hb dL_law_1368 (by decide) ?_
  exact ih _ _ _ _ h hW (lv_sub hl [1, 2, 3, 0] rfl)
set_option maxHeartbeats 4000000 in
theorem la_flown (cx : kx_Cx p s m #[Value.ref b] meth c D cy RL code 4 ret) (hT : lt_flown P σ τ) (hj : j + 6 ≤ L) (hL : L ≤ 3072) (hc : K ≤ 600000 ∧ S ≤ 7302250) (ih : ∀ (σ τ : kx_St) (H : Heap) (ls : Array Slot), P σ τ → lw_W D cy ad ae A B b L xs s σ τ H → lv_has ls 4 [(0, .ref b), (1, .ref (ad 0)), (2, .ref (ae 0)), (3, .int (nI j + (6 : Int32)))] → W p l e room_1 s m #[Value.ref b] below meth c H [] K S (lw_Z below #[Value.ref b] s) (F0 m 18 ls [])) (hW : lw_W D cy ad ae A B b L xs s σ τ H) (hl : lv_has ls 4 [(0, .ref b), (1, .ref (ad 0)), (2, .ref (ae 0)), (3, .int (nI j))]) : W p l e room_1 s m #[Value.ref b] below meth c H [] K S (lw_Z below #[Value.ref b] s) (F0 m 895 ls []) := by
  obtain ⟨hx, hb, hr, hlocks, hml, hown, hts, hK⟩ := id cx
  obtain ⟨v, h⟩ := hT (xs (nI j + (1 : Int32)).toNatClampNeg)
  refine lv_aload_n (pc := 895) hx hb dL_law_895 rfl (lv_at hl 1 rfl) ?_
  refine lv_aload_n (pc := 896) hx hb dL_law_896 rfl (lv_at hl 0 rfl) ?_
  refine lv_iload_n (pc := 897) hx hb dL_law_897 rfl (lv_at hl 3 rfl) ?_
  refine lv_iconst (pc := 898) (v := (1 : Int32)) hx hb dL_law_898 (by decide) ?_
  refine lv_iadd (pc := 899) hx hb dL_law_899 ?_
  refine lw_sld (pc := 900) (locs := []) hx hb hW (lw_in (k := 1) rfl (by decide) hj hL) dL_law_900 ?_
  refine kx_iVi (pc := 901) [.int _] hx hb hml hown hts hK hW.1.1 hW.1.2.1 va_S.rf (q6_flown h) (cwL_110 hts ⟨Nat.le_of_ble_eq_true rfl, Nat.le_of_ble_eq_true rfl⟩) (show kx_k 0 0 = 6 from rfl) (by decide) rfl rfl hl.1 rfl (Nat.le_of_ble_eq_true rfl) hc dL_law_901 (fun r0 u_ H1 locs1 hP1 hD1 hS1 h => ?_)
  obtain ⟨e0, h⟩ := h
  have hf1 : ∀ q ∈ locs1, s.heap.size ≤ q.base := fun q hq => hW.2.2.2.1 _ (hS1.2.2 q hq)
  replace hW := lw_kc hW hP1 hD1 hS1
  refine va_forget hf1 ?_
  clear hP1 hD1 hS1 hf1
  generalize H1 = H at hW ⊢
  refine lv_aload_n (pc := 904) hx hb dL_law_904 rfl (lv_at hl 2 rfl) ?_
  refine lv_aload_n (pc := 905) hx hb dL_law_905 rfl (lv_at hl 0 rfl) ?_
  refine lv_iload_n (pc := 906) hx hb dL_law_906 rfl (lv_at hl 3 rfl) ?_
  refine lv_iconst (pc := 907) (v := (1 : Int32)) hx hb dL_law_907 (by decide) ?_
  refine lv_iadd (pc := 908) hx hb dL_law_908 ?_
  refine lw_sld (pc := 909) (locs := []) hx hb hW (lw_in (k := 1) rfl (by decide) hj hL) dL_law_909 ?_
  refine kx_iVi (pc := 910) [.int _] hx hb hml hown hts hK hW.1.2.2.1 hW.1.2.2.2 va_S.rf (q7_flown h) (cwL_113 hts ⟨Nat.le_of_ble_eq_true rfl, Nat.le_of_ble_eq_true rfl⟩) (show kx_k 1 0 = 7 from rfl) (by decide) rfl rfl hl.1 rfl (Nat.le_of_ble_eq_true rfl) hc dL_law_910 (fun r1 u_ H1 locs1 hP1 hD1 hS1 h => ?_)
  obtain ⟨e1, h⟩ := h
  have hf1 : ∀ q ∈ locs1, s.heap.size ≤ q.base := fun q hq => hW.2.2.2.2.1 _ (hS1.2.2 q hq)
  replace hW := lw_km hW hP1 hD1 hS1
  refine va_forget hf1 ?_
  clear hP1 hD1 hS1 hf1
  generalize H1 = H at hW ⊢
  refine lv_icmp_eq (pc := 913) (tgt := 1365) hx hb dL_law_913 (by decide) (fun _ => ?_) (fun c0 => absurd (e0.trans e1.symm) c0)
  refine lv_iinc (pc := 1365) (v := (nI j + (6 : Int32))) (lv' := [(3, .int (nI j + (6 : Int32))), (0, .ref b), (1, .ref (ad 0)), (2, .ref (ae 0))]) hx hb dL_law_1365 hl (k := 3) rfl rfl (by decide) rfl (fun ls hl => ?_)
  refine lv_goto (pc := 1368) (tgt := 18) hx hb dL_law_1368 (by decide) ?_
  exact ih _ _ _ _ h hW (lv_sub hl [1, 2, 3, 0] rfl)
set_option maxHeartbeats 4000000 in
theorem la_when (cx : kx_Cx p s m #[Value.ref b] meth c D cy RL code 4 ret) (hT : lt_when P σ τ) (hj : j + 6 ≤ L) (hL : L ≤ 3072) (hc : K ≤ 600000 ∧ S ≤ 7302250) (ih : ∀ (σ τ : kx_St) (H : Heap) (ls : Array Slot), P σ τ → lw_W D cy ad ae A B b L xs s σ τ H → lv_has ls 4 [(0, .ref b), (1, .ref (ad 0)), (2, .ref (ae 0)), (3, .int (nI j + (6 : Int32)))] → W p l e room_1 s m #[Value.ref b] below meth c H [] K S (lw_Z below #[Value.ref b] s) (F0 m 18 ls [])) (hW : lw_W D cy ad ae A B b L xs s σ τ H) (hl : lv_has ls 4 [(0, .ref b), (1, .ref (ad 0)), (2, .ref (ae 0)), (3, .int (nI j))]) : W p l e room_1 s m #[Value.ref b] below meth c H [] K S (lw_Z below #[Value.ref b] s) (F0 m 918 ls []) := by
  obtain ⟨hx, hb, hr, hlocks, hml, hown, hts, hK⟩ := id cx
  obtain ⟨v, h⟩ := hT (xs (nI j + (1 : Int32)).toNatClampNeg)
  refine lv_aload_n (pc := 918) hx hb dL_law_918 rfl (lv_at hl 1 rfl) ?_
  refine lv_aload_n (pc := 919) hx hb dL_law_919 rfl (lv_at hl 0 rfl) ?_
  refine lv_iload_n (pc := 920) hx hb dL_law_920 rfl (lv_at hl 3 rfl) ?_
  refine lv_iconst (pc := 921) (v := (1 : Int32)) hx hb dL_law_921 (by decide) ?_
  refine lv_iadd (pc := 922) hx hb dL_law_922 ?_
  refine lw_sld (pc := 923) (locs := []) hx hb hW (lw_in (k := 1) rfl (by decide) hj hL) dL_law_923 ?_
  refine kx_iVi (pc := 924) [.int _] hx hb hml hown hts hK hW.1.1 hW.1.2.1 va_S.rf (q6_when h) (cwL_114 hts ⟨Nat.le_of_ble_eq_true rfl, Nat.le_of_ble_eq_true rfl⟩) (show kx_k 0 0 = 6 from rfl) (by decide) rfl rfl hl.1 rfl (Nat.le_of_ble_eq_true rfl) hc dL_law_924 (fun r0 u_ H1 locs1 hP1 hD1 hS1 h => ?_)
  obtain ⟨e0, h⟩ := h
  have hf1 : ∀ q ∈ locs1, s.heap.size ≤ q.base := fun q hq => hW.2.2.2.1 _ (hS1.2.2 q hq)
  replace hW := lw_kc hW hP1 hD1 hS1
  refine va_forget hf1 ?_
  clear hP1 hD1 hS1 hf1
  generalize H1 = H at hW ⊢
  refine lv_aload_n (pc := 927) hx hb dL_law_927 rfl (lv_at hl 2 rfl) ?_
  refine lv_aload_n (pc := 928) hx hb dL_law_928 rfl (lv_at hl 0 rfl) ?_
  refine lv_iload_n (pc := 929) hx hb dL_law_929 rfl (lv_at hl 3 rfl) ?_
  refine lv_iconst (pc := 930) (v := (1 : Int32)) hx hb dL_law_930 (by decide) ?_
  refine lv_iadd (pc := 931) hx hb dL_law_931 ?_
  refine lw_sld (pc := 932) (locs := []) hx hb hW (lw_in (k := 1) rfl (by decide) hj hL) dL_law_932 ?_
  refine kx_iVi (pc := 933) [.int _] hx hb hml hown hts hK hW.1.2.2.1 hW.1.2.2.2 va_S.rf (q7_when h) (cwL_117 hts ⟨Nat.le_of_ble_eq_true rfl, Nat.le_of_ble_eq_true rfl⟩) (show kx_k 1 0 = 7 from rfl) (by decide) rfl rfl hl.1 rfl (Nat.le_of_ble_eq_true rfl) hc dL_law_933 (fun r1 u_ H1 locs1 hP1 hD1 hS1 h => ?_)
  obtain ⟨e1, h⟩ := h
  have hf1 : ∀ q ∈ locs1, s.heap.size ≤ q.base := fun q hq => hW.2.2.2.2.1 _ (hS1.2.2 q hq)
  replace hW := lw_km hW hP1 hD1 hS1
  refine va_forget hf1 ?_
  clear hP1 hD1 hS1 hf1
  generalize H1 = H at hW ⊢
  refine lv_icmp_eq (pc := 936) (tgt := 1365) hx hb dL_law_936 (by decide) (fun _ => ?_) (fun c0 => absurd (e0.trans e1.symm) c0)
  refine lv_iinc (pc := 1365) (v := (nI j + (6 : Int32))) (lv' := [(3, .int (nI j + (6 : Int32))), (0, .ref b), (1, .ref (ad 0)), (2, .ref (ae 0))]) hx hb dL_law_1365 hl (k := 3) rfl rfl (by decide) rfl (fun ls hl => ?_)
  refine lv_goto (pc := 1368) (tgt := 18) hx hb dL_law_1368 (by decide) ?_
  exact ih _ _ _ _ h hW (lv_sub hl [1, 2, 3, 0] rfl)
set_option maxHeartbeats 4000000 in
theorem la_cross (cx : kx_Cx p s m #[Value.ref b] meth c D cy RL code 4 ret) (hT : lt_cross P σ τ) (hj : j + 6 ≤ L) (hL : L ≤ 3072) (hc : K ≤ 600000 ∧ S ≤ 7302250) (ih : ∀ (σ τ : kx_St) (H : Heap) (ls : Array Slot), P σ τ → lw_W D cy ad ae A B b L xs s σ τ H → lv_has ls 4 [(0, .ref b), (1, .ref (ad 0)), (2, .ref (ae 0)), (3, .int (nI j + (6 : Int32)))] → W p l e room_1 s m #[Value.ref b] below meth c H [] K S (lw_Z below #[Value.ref b] s) (F0 m 18 ls [])) (hW : lw_W D cy ad ae A B b L xs s σ τ H) (hl : lv_has ls 4 [(0, .ref b), (1, .ref (ad 0)), (2, .ref (ae 0)), (3, .int (nI j))]) : W p l e room_1 s m #[Value.ref b] below meth c H [] K S (lw_Z below #[Value.ref b] s) (F0 m 941 ls []) := by
  obtain ⟨hx, hb, hr, hlocks, hml, hown, hts, hK⟩ := id cx
  obtain ⟨v, h⟩ := hT (xs (nI j + (1 : Int32)).toNatClampNeg) (xs (nI j + (2 : Int32)).toNatClampNeg) (xs (nI j + (3 : Int32)).toNatClampNeg)
  refine lv_aload_n (pc := 941) hx hb dL_law_941 rfl (lv_at hl 1 rfl) ?_
  refine lv_aload_n (pc := 942) hx hb dL_law_942 rfl (lv_at hl 0 rfl) ?_
  refine lv_iload_n (pc := 943) hx hb dL_law_943 rfl (lv_at hl 3 rfl) ?_
  refine lv_iconst (pc := 944) (v := (1 : Int32)) hx hb dL_law_944 (by decide) ?_
  refine lv_iadd (pc := 945) hx hb dL_law_945 ?_
  refine lw_sld (pc := 946) (locs := []) hx hb hW (lw_in (k := 1) rfl (by decide) hj hL) dL_law_946 ?_
  refine lv_aload_n (pc := 947) hx hb dL_law_947 rfl (lv_at hl 0 rfl) ?_
  refine lv_iload_n (pc := 948) hx hb dL_law_948 rfl (lv_at hl 3 rfl) ?_
  refine lv_iconst (pc := 949) (v := (2 : Int32)) hx hb dL_law_949 (by decide) ?_
  refine lv_iadd (pc := 950) hx hb dL_law_950 ?_
  refine lw_sld (pc := 951) (locs := []) hx hb hW (lw_in (k := 2) rfl (by decide) hj hL) dL_law_951 ?_
  refine lv_aload_n (pc := 952) hx hb dL_law_952 rfl (lv_at hl 0 rfl) ?_
  refine lv_iload_n (pc := 953) hx hb dL_law_953 rfl (lv_at hl 3 rfl) ?_
  refine lv_iconst (pc := 954) (v := (3 : Int32)) hx hb dL_law_954 (by decide) ?_
  refine lv_iadd (pc := 955) hx hb dL_law_955 ?_
  refine lw_sld (pc := 956) (locs := []) hx hb hW (lw_in (k := 3) rfl (by decide) hj hL) dL_law_956 ?_
  refine kx_iVi (pc := 957) [.int _, .int _, .int _] hx hb hml hown hts hK hW.1.1 hW.1.2.1 va_S.rf (q6_cross h) (cwL_118 hts ⟨Nat.le_of_ble_eq_true rfl, Nat.le_of_ble_eq_true rfl⟩) (show kx_k 0 0 = 6 from rfl) (by decide) rfl rfl hl.1 rfl (Nat.le_of_ble_eq_true rfl) hc dL_law_957 (fun r0 u_ H1 locs1 hP1 hD1 hS1 h => ?_)
  obtain ⟨hu_, h⟩ := h
  rw [hu_] at hP1 hD1
  obtain ⟨e0, h⟩ := h
  have hf1 : ∀ q ∈ locs1, s.heap.size ≤ q.base := fun q hq => hW.2.2.2.1 _ (hS1.2.2 q hq)
  replace hW := lw_kc hW hP1 hD1 hS1
  refine va_forget hf1 ?_
  clear hP1 hD1 hS1 hf1
  generalize H1 = H at hW ⊢
  refine lv_aload_n (pc := 960) hx hb dL_law_960 rfl (lv_at hl 2 rfl) ?_
  refine lv_aload_n (pc := 961) hx hb dL_law_961 rfl (lv_at hl 0 rfl) ?_
  refine lv_iload_n (pc := 962) hx hb dL_law_962 rfl (lv_at hl 3 rfl) ?_
  refine lv_iconst (pc := 963) (v := (1 : Int32)) hx hb dL_law_963 (by decide) ?_
  refine lv_iadd (pc := 964) hx hb dL_law_964 ?_
  refine lw_sld (pc := 965) (locs := []) hx hb hW (lw_in (k := 1) rfl (by decide) hj hL) dL_law_965 ?_
  refine lv_aload_n (pc := 966) hx hb dL_law_966 rfl (lv_at hl 0 rfl) ?_
  refine lv_iload_n (pc := 967) hx hb dL_law_967 rfl (lv_at hl 3 rfl) ?_
  refine lv_iconst (pc := 968) (v := (2 : Int32)) hx hb dL_law_968 (by decide) ?_
  refine lv_iadd (pc := 969) hx hb dL_law_969 ?_
  refine lw_sld (pc := 970) (locs := []) hx hb hW (lw_in (k := 2) rfl (by decide) hj hL) dL_law_970 ?_
  refine lv_aload_n (pc := 971) hx hb dL_law_971 rfl (lv_at hl 0 rfl) ?_
  refine lv_iload_n (pc := 972) hx hb dL_law_972 rfl (lv_at hl 3 rfl) ?_
  refine lv_iconst (pc := 973) (v := (3 : Int32)) hx hb dL_law_973 (by decide) ?_
  refine lv_iadd (pc := 974) hx hb dL_law_974 ?_
  refine lw_sld (pc := 975) (locs := []) hx hb hW (lw_in (k := 3) rfl (by decide) hj hL) dL_law_975 ?_
  refine kx_iVi (pc := 976) [.int _, .int _, .int _] hx hb hml hown hts hK hW.1.2.2.1 hW.1.2.2.2 va_S.rf (q7_cross h) (cwL_121 hts ⟨Nat.le_of_ble_eq_true rfl, Nat.le_of_ble_eq_true rfl⟩) (show kx_k 1 0 = 7 from rfl) (by decide) rfl rfl hl.1 rfl (Nat.le_of_ble_eq_true rfl) hc dL_law_976 (fun r1 u_ H1 locs1 hP1 hD1 hS1 h => ?_)
  obtain ⟨hu_, h⟩ := h
  rw [hu_] at hP1 hD1
  obtain ⟨e1, h⟩ := h
  have hf1 : ∀ q ∈ locs1, s.heap.size ≤ q.base := fun q hq => hW.2.2.2.2.1 _ (hS1.2.2 q hq)
  replace hW := lw_km hW hP1 hD1 hS1
  refine va_forget hf1 ?_
  clear hP1 hD1 hS1 hf1
  generalize H1 = H at hW ⊢
  refine lv_icmp_eq (pc := 979) (tgt := 1365) hx hb dL_law_979 (by decide) (fun _ => ?_) (fun c0 => absurd (e0.trans e1.symm) c0)
  refine lv_iinc (pc := 1365) (v := (nI j + (6 : Int32))) (lv' := [(3, .int (nI j + (6 : Int32))), (0, .ref b), (1, .ref (ad 0)), (2, .ref (ae 0))]) hx hb dL_law_1365 hl (k := 3) rfl rfl (by decide) rfl (fun ls hl => ?_)
  refine lv_goto (pc := 1368) (tgt := 18) hx hb dL_law_1368 (by decide) ?_
  exact ih _ _ _ _ h hW (lv_sub hl [1, 2, 3, 0] rfl)
set_option maxHeartbeats 4000000 in
theorem la_crossed (cx : kx_Cx p s m #[Value.ref b] meth c D cy RL code 4 ret) (hT : lt_crossed P σ τ) (hj : j + 6 ≤ L) (hL : L ≤ 3072) (hc : K ≤ 600000 ∧ S ≤ 7302250) (ih : ∀ (σ τ : kx_St) (H : Heap) (ls : Array Slot), P σ τ → lw_W D cy ad ae A B b L xs s σ τ H → lv_has ls 4 [(0, .ref b), (1, .ref (ad 0)), (2, .ref (ae 0)), (3, .int (nI j + (6 : Int32)))] → W p l e room_1 s m #[Value.ref b] below meth c H [] K S (lw_Z below #[Value.ref b] s) (F0 m 18 ls [])) (hW : lw_W D cy ad ae A B b L xs s σ τ H) (hl : lv_has ls 4 [(0, .ref b), (1, .ref (ad 0)), (2, .ref (ae 0)), (3, .int (nI j))]) : W p l e room_1 s m #[Value.ref b] below meth c H [] K S (lw_Z below #[Value.ref b] s) (F0 m 984 ls []) := by
  obtain ⟨hx, hb, hr, hlocks, hml, hown, hts, hK⟩ := id cx
  obtain ⟨v, h⟩ := hT (xs (nI j + (1 : Int32)).toNatClampNeg) (xs (nI j + (2 : Int32)).toNatClampNeg)
  refine lv_aload_n (pc := 984) hx hb dL_law_984 rfl (lv_at hl 1 rfl) ?_
  refine lv_aload_n (pc := 985) hx hb dL_law_985 rfl (lv_at hl 0 rfl) ?_
  refine lv_iload_n (pc := 986) hx hb dL_law_986 rfl (lv_at hl 3 rfl) ?_
  refine lv_iconst (pc := 987) (v := (1 : Int32)) hx hb dL_law_987 (by decide) ?_
  refine lv_iadd (pc := 988) hx hb dL_law_988 ?_
  refine lw_sld (pc := 989) (locs := []) hx hb hW (lw_in (k := 1) rfl (by decide) hj hL) dL_law_989 ?_
  refine lv_aload_n (pc := 990) hx hb dL_law_990 rfl (lv_at hl 0 rfl) ?_
  refine lv_iload_n (pc := 991) hx hb dL_law_991 rfl (lv_at hl 3 rfl) ?_
  refine lv_iconst (pc := 992) (v := (2 : Int32)) hx hb dL_law_992 (by decide) ?_
  refine lv_iadd (pc := 993) hx hb dL_law_993 ?_
  refine lw_sld (pc := 994) (locs := []) hx hb hW (lw_in (k := 2) rfl (by decide) hj hL) dL_law_994 ?_
  refine kx_iVi (pc := 995) [.int _, .int _] hx hb hml hown hts hK hW.1.1 hW.1.2.1 va_S.rf (q6_crossed h) (cwL_122 hts ⟨Nat.le_of_ble_eq_true rfl, Nat.le_of_ble_eq_true rfl⟩) (show kx_k 0 0 = 6 from rfl) (by decide) rfl rfl hl.1 rfl (Nat.le_of_ble_eq_true rfl) hc dL_law_995 (fun r0 u_ H1 locs1 hP1 hD1 hS1 h => ?_)
  obtain ⟨e0, h⟩ := h
  have hf1 : ∀ q ∈ locs1, s.heap.size ≤ q.base := fun q hq => hW.2.2.2.1 _ (hS1.2.2 q hq)
  replace hW := lw_kc hW hP1 hD1 hS1
  refine va_forget hf1 ?_
  clear hP1 hD1 hS1 hf1
  generalize H1 = H at hW ⊢
  refine lv_aload_n (pc := 998) hx hb dL_law_998 rfl (lv_at hl 2 rfl) ?_
  refine lv_aload_n (pc := 999) hx hb dL_law_999 rfl (lv_at hl 0 rfl) ?_
  refine lv_iload_n (pc := 1000) hx hb dL_law_1000 rfl (lv_at hl 3 rfl) ?_
  refine lv_iconst (pc := 1001) (v := (1 : Int32)) hx hb dL_law_1001 (by decide) ?_
  refine lv_iadd (pc := 1002) hx hb dL_law_1002 ?_
  refine lw_sld (pc := 1003) (locs := []) hx hb hW (lw_in (k := 1) rfl (by decide) hj hL) dL_law_1003 ?_
  refine lv_aload_n (pc := 1004) hx hb dL_law_1004 rfl (lv_at hl 0 rfl) ?_
  refine lv_iload_n (pc := 1005) hx hb dL_law_1005 rfl (lv_at hl 3 rfl) ?_
  refine lv_iconst (pc := 1006) (v := (2 : Int32)) hx hb dL_law_1006 (by decide) ?_
  refine lv_iadd (pc := 1007) hx hb dL_law_1007 ?_
  refine lw_sld (pc := 1008) (locs := []) hx hb hW (lw_in (k := 2) rfl (by decide) hj hL) dL_law_1008 ?_
  refine kx_iVi (pc := 1009) [.int _, .int _] hx hb hml hown hts hK hW.1.2.2.1 hW.1.2.2.2 va_S.rf (q7_crossed h) (cwL_125 hts ⟨Nat.le_of_ble_eq_true rfl, Nat.le_of_ble_eq_true rfl⟩) (show kx_k 1 0 = 7 from rfl) (by decide) rfl rfl hl.1 rfl (Nat.le_of_ble_eq_true rfl) hc dL_law_1009 (fun r1 u_ H1 locs1 hP1 hD1 hS1 h => ?_)
  obtain ⟨e1, h⟩ := h
  have hf1 : ∀ q ∈ locs1, s.heap.size ≤ q.base := fun q hq => hW.2.2.2.2.1 _ (hS1.2.2 q hq)
  replace hW := lw_km hW hP1 hD1 hS1
  refine va_forget hf1 ?_
  clear hP1 hD1 hS1 hf1
  generalize H1 = H at hW ⊢
  refine lv_icmp_eq (pc := 1012) (tgt := 1365) hx hb dL_law_1012 (by decide) (fun _ => ?_) (fun c0 => absurd (e0.trans e1.symm) c0)
  refine lv_iinc (pc := 1365) (v := (nI j + (6 : Int32))) (lv' := [(3, .int (nI j + (6 : Int32))), (0, .ref b), (1, .ref (ad 0)), (2, .ref (ae 0))]) hx hb dL_law_1365 hl (k := 3) rfl rfl (by decide) rfl (fun ls hl => ?_)
  refine lv_goto (pc := 1368) (tgt := 18) hx hb dL_law_1368 (by decide) ?_
  exact ih _ _ _ _ h hW (lv_sub hl [1, 2, 3, 0] rfl)
set_option maxHeartbeats 4000000 in
theorem la_merge (cx : kx_Cx p s m #[Value.ref b] meth c D cy RL code 4 ret) (hT : lt_merge P σ τ) (hj : j + 6 ≤ L) (hL : L ≤ 3072) (hc : K ≤ 600000 ∧ S ≤ 7302250) (ih : ∀ (σ τ : kx_St) (H : Heap) (ls : Array Slot), P σ τ → lw_W D cy ad ae A B b L xs s σ τ H → lv_has ls 4 [(0, .ref b), (1, .ref (ad 0)), (2, .ref (ae 0)), (3, .int (nI j + (6 : Int32)))] → W p l e room_1 s m #[Value.ref b] below meth c H [] K S (lw_Z below #[Value.ref b] s) (F0 m 18 ls [])) (hW : lw_W D cy ad ae A B b L xs s σ τ H) (hl : lv_has ls 4 [(0, .ref b), (1, .ref (ad 0)), (2, .ref (ae 0)), (3, .int (nI j))]) : W p l e room_1 s m #[Value.ref b] below meth c H [] K S (lw_Z below #[Value.ref b] s) (F0 m 1017 ls []) := by
  obtain ⟨hx, hb, hr, hlocks, hml, hown, hts, hK⟩ := id cx
  obtain ⟨v, h⟩ := hT (xs (nI j + (1 : Int32)).toNatClampNeg) (xs (nI j + (2 : Int32)).toNatClampNeg)
  refine lv_aload_n (pc := 1017) hx hb dL_law_1017 rfl (lv_at hl 1 rfl) ?_
  refine lv_aload_n (pc := 1018) hx hb dL_law_1018 rfl (lv_at hl 0 rfl) ?_
  refine lv_iload_n (pc := 1019) hx hb dL_law_1019 rfl (lv_at hl 3 rfl) ?_
  refine lv_iconst (pc := 1020) (v := (1 : Int32)) hx hb dL_law_1020 (by decide) ?_
  refine lv_iadd (pc := 1021) hx hb dL_law_1021 ?_
  refine lw_sld (pc := 1022) (locs := []) hx hb hW (lw_in (k := 1) rfl (by decide) hj hL) dL_law_1022 ?_
  refine lv_aload_n (pc := 1023) hx hb dL_law_1023 rfl (lv_at hl 0 rfl) ?_
  refine lv_iload_n (pc := 1024) hx hb dL_law_1024 rfl (lv_at hl 3 rfl) ?_
  refine lv_iconst (pc := 1025) (v := (2 : Int32)) hx hb dL_law_1025 (by decide) ?_
  refine lv_iadd (pc := 1026) hx hb dL_law_1026 ?_
  refine lw_sld (pc := 1027) (locs := []) hx hb hW (lw_in (k := 2) rfl (by decide) hj hL) dL_law_1027 ?_
  refine kx_iVi (pc := 1028) [.int _, .int _] hx hb hml hown hts hK hW.1.1 hW.1.2.1 va_S.rf (q6_merge h) (cwL_126 hts ⟨Nat.le_of_ble_eq_true rfl, Nat.le_of_ble_eq_true rfl⟩) (show kx_k 0 0 = 6 from rfl) (by decide) rfl rfl hl.1 rfl (Nat.le_of_ble_eq_true rfl) hc dL_law_1028 (fun r0 u_ H1 locs1 hP1 hD1 hS1 h => ?_)
  obtain ⟨e0, h⟩ := h
  have hf1 : ∀ q ∈ locs1, s.heap.size ≤ q.base := fun q hq => hW.2.2.2.1 _ (hS1.2.2 q hq)
  replace hW := lw_kc hW hP1 hD1 hS1
  refine va_forget hf1 ?_
  clear hP1 hD1 hS1 hf1
  generalize H1 = H at hW ⊢
  refine lv_aload_n (pc := 1031) hx hb dL_law_1031 rfl (lv_at hl 2 rfl) ?_
  refine lv_aload_n (pc := 1032) hx hb dL_law_1032 rfl (lv_at hl 0 rfl) ?_
  refine lv_iload_n (pc := 1033) hx hb dL_law_1033 rfl (lv_at hl 3 rfl) ?_
  refine lv_iconst (pc := 1034) (v := (1 : Int32)) hx hb dL_law_1034 (by decide) ?_
  refine lv_iadd (pc := 1035) hx hb dL_law_1035 ?_
  refine lw_sld (pc := 1036) (locs := []) hx hb hW (lw_in (k := 1) rfl (by decide) hj hL) dL_law_1036 ?_
  refine lv_aload_n (pc := 1037) hx hb dL_law_1037 rfl (lv_at hl 0 rfl) ?_
  refine lv_iload_n (pc := 1038) hx hb dL_law_1038 rfl (lv_at hl 3 rfl) ?_
  refine lv_iconst (pc := 1039) (v := (2 : Int32)) hx hb dL_law_1039 (by decide) ?_
  refine lv_iadd (pc := 1040) hx hb dL_law_1040 ?_
  refine lw_sld (pc := 1041) (locs := []) hx hb hW (lw_in (k := 2) rfl (by decide) hj hL) dL_law_1041 ?_
  refine kx_iVi (pc := 1042) [.int _, .int _] hx hb hml hown hts hK hW.1.2.2.1 hW.1.2.2.2 va_S.rf (q7_merge h) (cwL_129 hts ⟨Nat.le_of_ble_eq_true rfl, Nat.le_of_ble_eq_true rfl⟩) (show kx_k 1 0 = 7 from rfl) (by decide) rfl rfl hl.1 rfl (Nat.le_of_ble_eq_true rfl) hc dL_law_1042 (fun r1 u_ H1 locs1 hP1 hD1 hS1 h => ?_)
  obtain ⟨e1, h⟩ := h
  have hf1 : ∀ q ∈ locs1, s.heap.size ≤ q.base := fun q hq => hW.2.2.2.2.1 _ (hS1.2.2 q hq)
  replace hW := lw_km hW hP1 hD1 hS1
  refine va_forget hf1 ?_
  clear hP1 hD1 hS1 hf1
  generalize H1 = H at hW ⊢
  refine lv_icmp_eq (pc := 1045) (tgt := 1365) hx hb dL_law_1045 (by decide) (fun _ => ?_) (fun c0 => absurd (e0.trans e1.symm) c0)
  refine lv_iinc (pc := 1365) (v := (nI j + (6 : Int32))) (lv' := [(3, .int (nI j + (6 : Int32))), (0, .ref b), (1, .ref (ad 0)), (2, .ref (ae 0))]) hx hb dL_law_1365 hl (k := 3) rfl rfl (by decide) rfl (fun ls hl => ?_)
  refine lv_goto (pc := 1368) (tgt := 18) hx hb dL_law_1368 (by decide) ?_
  exact ih _ _ _ _ h hW (lv_sub hl [1, 2, 3, 0] rfl)
set_option maxHeartbeats 4000000 in
theorem la_tails (cx : kx_Cx p s m #[Value.ref b] meth c D cy RL code 4 ret) (hT : lt_tails P σ τ) (hj : j + 6 ≤ L) (hL : L ≤ 3072) (hc : K ≤ 600000 ∧ S ≤ 7302250) (ih : ∀ (σ τ : kx_St) (H : Heap) (ls : Array Slot), P σ τ → lw_W D cy ad ae A B b L xs s σ τ H → lv_has ls 4 [(0, .ref b), (1, .ref (ad 0)), (2, .ref (ae 0)), (3, .int (nI j + (6 : Int32)))] → W p l e room_1 s m #[Value.ref b] below meth c H [] K S (lw_Z below #[Value.ref b] s) (F0 m 18 ls [])) (hW : lw_W D cy ad ae A B b L xs s σ τ H) (hl : lv_has ls 4 [(0, .ref b), (1, .ref (ad 0)), (2, .ref (ae 0)), (3, .int (nI j))]) : W p l e room_1 s m #[Value.ref b] below meth c H [] K S (lw_Z below #[Value.ref b] s) (F0 m 1050 ls []) := by
  obtain ⟨hx, hb, hr, hlocks, hml, hown, hts, hK⟩ := id cx
  obtain ⟨v, h⟩ := hT (xs (nI j + (1 : Int32)).toNatClampNeg) (xs (nI j + (2 : Int32)).toNatClampNeg)
  refine lv_aload_n (pc := 1050) hx hb dL_law_1050 rfl (lv_at hl 1 rfl) ?_
  refine lv_aload_n (pc := 1051) hx hb dL_law_1051 rfl (lv_at hl 0 rfl) ?_
  refine lv_iload_n (pc := 1052) hx hb dL_law_1052 rfl (lv_at hl 3 rfl) ?_
  refine lv_iconst (pc := 1053) (v := (1 : Int32)) hx hb dL_law_1053 (by decide) ?_
  refine lv_iadd (pc := 1054) hx hb dL_law_1054 ?_
  refine lw_sld (pc := 1055) (locs := []) hx hb hW (lw_in (k := 1) rfl (by decide) hj hL) dL_law_1055 ?_
  refine lv_aload_n (pc := 1056) hx hb dL_law_1056 rfl (lv_at hl 0 rfl) ?_
  refine lv_iload_n (pc := 1057) hx hb dL_law_1057 rfl (lv_at hl 3 rfl) ?_
  refine lv_iconst (pc := 1058) (v := (2 : Int32)) hx hb dL_law_1058 (by decide) ?_
  refine lv_iadd (pc := 1059) hx hb dL_law_1059 ?_
  refine lw_sld (pc := 1060) (locs := []) hx hb hW (lw_in (k := 2) rfl (by decide) hj hL) dL_law_1060 ?_
  refine kx_iVi (pc := 1061) [.int _, .int _] hx hb hml hown hts hK hW.1.1 hW.1.2.1 va_S.rf (q6_tails h) (cwL_130 hts ⟨Nat.le_of_ble_eq_true rfl, Nat.le_of_ble_eq_true rfl⟩) (show kx_k 0 0 = 6 from rfl) (by decide) rfl rfl hl.1 rfl (Nat.le_of_ble_eq_true rfl) hc dL_law_1061 (fun r0 u_ H1 locs1 hP1 hD1 hS1 h => ?_)
  obtain ⟨e0, h⟩ := h
  have hf1 : ∀ q ∈ locs1, s.heap.size ≤ q.base := fun q hq => hW.2.2.2.1 _ (hS1.2.2 q hq)
  replace hW := lw_kc hW hP1 hD1 hS1
  refine va_forget hf1 ?_
  clear hP1 hD1 hS1 hf1
  generalize H1 = H at hW ⊢
  refine lv_aload_n (pc := 1064) hx hb dL_law_1064 rfl (lv_at hl 2 rfl) ?_
  refine lv_aload_n (pc := 1065) hx hb dL_law_1065 rfl (lv_at hl 0 rfl) ?_
  refine lv_iload_n (pc := 1066) hx hb dL_law_1066 rfl (lv_at hl 3 rfl) ?_
  refine lv_iconst (pc := 1067) (v := (1 : Int32)) hx hb dL_law_1067 (by decide) ?_
  refine lv_iadd (pc := 1068) hx hb dL_law_1068 ?_
  refine lw_sld (pc := 1069) (locs := []) hx hb hW (lw_in (k := 1) rfl (by decide) hj hL) dL_law_1069 ?_
  refine lv_aload_n (pc := 1070) hx hb dL_law_1070 rfl (lv_at hl 0 rfl) ?_
  refine lv_iload_n (pc := 1071) hx hb dL_law_1071 rfl (lv_at hl 3 rfl) ?_
  refine lv_iconst (pc := 1072) (v := (2 : Int32)) hx hb dL_law_1072 (by decide) ?_
  refine lv_iadd (pc := 1073) hx hb dL_law_1073 ?_
  refine lw_sld (pc := 1074) (locs := []) hx hb hW (lw_in (k := 2) rfl (by decide) hj hL) dL_law_1074 ?_
  refine kx_iVi (pc := 1075) [.int _, .int _] hx hb hml hown hts hK hW.1.2.2.1 hW.1.2.2.2 va_S.rf (q7_tails h) (cwL_133 hts ⟨Nat.le_of_ble_eq_true rfl, Nat.le_of_ble_eq_true rfl⟩) (show kx_k 1 0 = 7 from rfl) (by decide) rfl rfl hl.1 rfl (Nat.le_of_ble_eq_true rfl) hc dL_law_1075 (fun r1 u_ H1 locs1 hP1 hD1 hS1 h => ?_)
  obtain ⟨e1, h⟩ := h
  have hf1 : ∀ q ∈ locs1, s.heap.size ≤ q.base := fun q hq => hW.2.2.2.2.1 _ (hS1.2.2 q hq)
  replace hW := lw_km hW hP1 hD1 hS1
  refine va_forget hf1 ?_
  clear hP1 hD1 hS1 hf1
  generalize H1 = H at hW ⊢
  refine lv_icmp_eq (pc := 1078) (tgt := 1365) hx hb dL_law_1078 (by decide) (fun _ => ?_) (fun c0 => absurd (e0.trans e1.symm) c0)
  refine lv_iinc (pc := 1365) (v := (nI j + (6 : Int32))) (lv' := [(3, .int (nI j + (6 : Int32))), (0, .ref b), (1, .ref (ad 0)), (2, .ref (ae 0))]) hx hb dL_law_1365 hl (k := 3) rfl rfl (by decide) rfl (fun ls hl => ?_)
  refine lv_goto (pc := 1368) (tgt := 18) hx hb dL_law_1368 (by decide) ?_
  exact ih _ _ _ _ h hW (lv_sub hl [1, 2, 3, 0] rfl)
set_option maxHeartbeats 4000000 in
theorem la_kinds (cx : kx_Cx p s m #[Value.ref b] meth c D cy RL code 4 ret) (hT : lt_kinds P σ τ) (hj : j + 6 ≤ L) (hL : L ≤ 3072) (hc : K ≤ 600000 ∧ S ≤ 7302250) (ih : ∀ (σ τ : kx_St) (H : Heap) (ls : Array Slot), P σ τ → lw_W D cy ad ae A B b L xs s σ τ H → lv_has ls 4 [(0, .ref b), (1, .ref (ad 0)), (2, .ref (ae 0)), (3, .int (nI j + (6 : Int32)))] → W p l e room_1 s m #[Value.ref b] below meth c H [] K S (lw_Z below #[Value.ref b] s) (F0 m 18 ls [])) (hW : lw_W D cy ad ae A B b L xs s σ τ H) (hl : lv_has ls 4 [(0, .ref b), (1, .ref (ad 0)), (2, .ref (ae 0)), (3, .int (nI j))]) : W p l e room_1 s m #[Value.ref b] below meth c H [] K S (lw_Z below #[Value.ref b] s) (F0 m 1083 ls []) := by
  obtain ⟨hx, hb, hr, hlocks, hml, hown, hts, hK⟩ := id cx
  obtain ⟨v, h⟩ := hT (xs (nI j + (1 : Int32)).toNatClampNeg) (xs (nI j + (2 : Int32)).toNatClampNeg)
  refine lv_aload_n (pc := 1083) hx hb dL_law_1083 rfl (lv_at hl 1 rfl) ?_
  refine lv_aload_n (pc := 1084) hx hb dL_law_1084 rfl (lv_at hl 0 rfl) ?_
  refine lv_iload_n (pc := 1085) hx hb dL_law_1085 rfl (lv_at hl 3 rfl) ?_
  refine lv_iconst (pc := 1086) (v := (1 : Int32)) hx hb dL_law_1086 (by decide) ?_
  refine lv_iadd (pc := 1087) hx hb dL_law_1087 ?_
  refine lw_sld (pc := 1088) (locs := []) hx hb hW (lw_in (k := 1) rfl (by decide) hj hL) dL_law_1088 ?_
  refine lv_aload_n (pc := 1089) hx hb dL_law_1089 rfl (lv_at hl 0 rfl) ?_
  refine lv_iload_n (pc := 1090) hx hb dL_law_1090 rfl (lv_at hl 3 rfl) ?_
  refine lv_iconst (pc := 1091) (v := (2 : Int32)) hx hb dL_law_1091 (by decide) ?_
  refine lv_iadd (pc := 1092) hx hb dL_law_1092 ?_
  refine lw_sld (pc := 1093) (locs := []) hx hb hW (lw_in (k := 2) rfl (by decide) hj hL) dL_law_1093 ?_
  refine kx_iVi (pc := 1094) [.int _, .int _] hx hb hml hown hts hK hW.1.1 hW.1.2.1 va_S.rf (q6_kinds h) (cwL_134 hts ⟨Nat.le_of_ble_eq_true rfl, Nat.le_of_ble_eq_true rfl⟩) (show kx_k 0 0 = 6 from rfl) (by decide) rfl rfl hl.1 rfl (Nat.le_of_ble_eq_true rfl) hc dL_law_1094 (fun r0 u_ H1 locs1 hP1 hD1 hS1 h => ?_)
  obtain ⟨e0, h⟩ := h
  have hf1 : ∀ q ∈ locs1, s.heap.size ≤ q.base := fun q hq => hW.2.2.2.1 _ (hS1.2.2 q hq)
  replace hW := lw_kc hW hP1 hD1 hS1
  refine va_forget hf1 ?_
  clear hP1 hD1 hS1 hf1
  generalize H1 = H at hW ⊢
  refine lv_aload_n (pc := 1097) hx hb dL_law_1097 rfl (lv_at hl 2 rfl) ?_
  refine lv_aload_n (pc := 1098) hx hb dL_law_1098 rfl (lv_at hl 0 rfl) ?_
  refine lv_iload_n (pc := 1099) hx hb dL_law_1099 rfl (lv_at hl 3 rfl) ?_
  refine lv_iconst (pc := 1100) (v := (1 : Int32)) hx hb dL_law_1100 (by decide) ?_
  refine lv_iadd (pc := 1101) hx hb dL_law_1101 ?_
  refine lw_sld (pc := 1102) (locs := []) hx hb hW (lw_in (k := 1) rfl (by decide) hj hL) dL_law_1102 ?_
  refine lv_aload_n (pc := 1103) hx hb dL_law_1103 rfl (lv_at hl 0 rfl) ?_
  refine lv_iload_n (pc := 1104) hx hb dL_law_1104 rfl (lv_at hl 3 rfl) ?_
  refine lv_iconst (pc := 1105) (v := (2 : Int32)) hx hb dL_law_1105 (by decide) ?_
  refine lv_iadd (pc := 1106) hx hb dL_law_1106 ?_
  refine lw_sld (pc := 1107) (locs := []) hx hb hW (lw_in (k := 2) rfl (by decide) hj hL) dL_law_1107 ?_
  refine kx_iVi (pc := 1108) [.int _, .int _] hx hb hml hown hts hK hW.1.2.2.1 hW.1.2.2.2 va_S.rf (q7_kinds h) (cwL_137 hts ⟨Nat.le_of_ble_eq_true rfl, Nat.le_of_ble_eq_true rfl⟩) (show kx_k 1 0 = 7 from rfl) (by decide) rfl rfl hl.1 rfl (Nat.le_of_ble_eq_true rfl) hc dL_law_1108 (fun r1 u_ H1 locs1 hP1 hD1 hS1 h => ?_)
  obtain ⟨e1, h⟩ := h
  have hf1 : ∀ q ∈ locs1, s.heap.size ≤ q.base := fun q hq => hW.2.2.2.2.1 _ (hS1.2.2 q hq)
  replace hW := lw_km hW hP1 hD1 hS1
  refine va_forget hf1 ?_
  clear hP1 hD1 hS1 hf1
  generalize H1 = H at hW ⊢
  refine lv_icmp_eq (pc := 1111) (tgt := 1365) hx hb dL_law_1111 (by decide) (fun _ => ?_) (fun c0 => absurd (e0.trans e1.symm) c0)
  refine lv_iinc (pc := 1365) (v := (nI j + (6 : Int32))) (lv' := [(3, .int (nI j + (6 : Int32))), (0, .ref b), (1, .ref (ad 0)), (2, .ref (ae 0))]) hx hb dL_law_1365 hl (k := 3) rfl rfl (by decide) rfl (fun ls hl => ?_)
  refine lv_goto (pc := 1368) (tgt := 18) hx hb dL_law_1368 (by decide) ?_
  exact ih _ _ _ _ h hW (lv_sub hl [1, 2, 3, 0] rfl)
set_option maxHeartbeats 4000000 in
theorem la_test (cx : kx_Cx p s m #[Value.ref b] meth c D cy RL code 4 ret) (hT : lt_test P σ τ) (hj : j + 6 ≤ L) (hL : L ≤ 3072) (hc : K ≤ 600000 ∧ S ≤ 7302250) (ih : ∀ (σ τ : kx_St) (H : Heap) (ls : Array Slot), P σ τ → lw_W D cy ad ae A B b L xs s σ τ H → lv_has ls 4 [(0, .ref b), (1, .ref (ad 0)), (2, .ref (ae 0)), (3, .int (nI j + (6 : Int32)))] → W p l e room_1 s m #[Value.ref b] below meth c H [] K S (lw_Z below #[Value.ref b] s) (F0 m 18 ls [])) (hW : lw_W D cy ad ae A B b L xs s σ τ H) (hl : lv_has ls 4 [(0, .ref b), (1, .ref (ad 0)), (2, .ref (ae 0)), (3, .int (nI j))]) : W p l e room_1 s m #[Value.ref b] below meth c H [] K S (lw_Z below #[Value.ref b] s) (F0 m 1116 ls []) := by
  obtain ⟨hx, hb, hr, hlocks, hml, hown, hts, hK⟩ := id cx
  obtain ⟨v, h⟩ := hT (xs (nI j + (1 : Int32)).toNatClampNeg) (xs (nI j + (2 : Int32)).toNatClampNeg)
  refine lv_aload_n (pc := 1116) hx hb dL_law_1116 rfl (lv_at hl 1 rfl) ?_
  refine lv_aload_n (pc := 1117) hx hb dL_law_1117 rfl (lv_at hl 0 rfl) ?_
  refine lv_iload_n (pc := 1118) hx hb dL_law_1118 rfl (lv_at hl 3 rfl) ?_
  refine lv_iconst (pc := 1119) (v := (1 : Int32)) hx hb dL_law_1119 (by decide) ?_
  refine lv_iadd (pc := 1120) hx hb dL_law_1120 ?_
  refine lw_sld (pc := 1121) (locs := []) hx hb hW (lw_in (k := 1) rfl (by decide) hj hL) dL_law_1121 ?_
  refine lv_aload_n (pc := 1122) hx hb dL_law_1122 rfl (lv_at hl 0 rfl) ?_
  refine lv_iload_n (pc := 1123) hx hb dL_law_1123 rfl (lv_at hl 3 rfl) ?_
  refine lv_iconst (pc := 1124) (v := (2 : Int32)) hx hb dL_law_1124 (by decide) ?_
  refine lv_iadd (pc := 1125) hx hb dL_law_1125 ?_
  refine lw_sld (pc := 1126) (locs := []) hx hb hW (lw_in (k := 2) rfl (by decide) hj hL) dL_law_1126 ?_
  refine kx_iVi (pc := 1127) [.int _, .int _] hx hb hml hown hts hK hW.1.1 hW.1.2.1 va_S.rf (q6_test h) (cwL_138 hts ⟨Nat.le_of_ble_eq_true rfl, Nat.le_of_ble_eq_true rfl⟩) (show kx_k 0 0 = 6 from rfl) (by decide) rfl rfl hl.1 rfl (Nat.le_of_ble_eq_true rfl) hc dL_law_1127 (fun r0 u_ H1 locs1 hP1 hD1 hS1 h => ?_)
  obtain ⟨e0, h⟩ := h
  have hf1 : ∀ q ∈ locs1, s.heap.size ≤ q.base := fun q hq => hW.2.2.2.1 _ (hS1.2.2 q hq)
  replace hW := lw_kc hW hP1 hD1 hS1
  refine va_forget hf1 ?_
  clear hP1 hD1 hS1 hf1
  generalize H1 = H at hW ⊢
  refine lv_aload_n (pc := 1130) hx hb dL_law_1130 rfl (lv_at hl 2 rfl) ?_
  refine lv_aload_n (pc := 1131) hx hb dL_law_1131 rfl (lv_at hl 0 rfl) ?_
  refine lv_iload_n (pc := 1132) hx hb dL_law_1132 rfl (lv_at hl 3 rfl) ?_
  refine lv_iconst (pc := 1133) (v := (1 : Int32)) hx hb dL_law_1133 (by decide) ?_
  refine lv_iadd (pc := 1134) hx hb dL_law_1134 ?_
  refine lw_sld (pc := 1135) (locs := []) hx hb hW (lw_in (k := 1) rfl (by decide) hj hL) dL_law_1135 ?_
  refine lv_aload_n (pc := 1136) hx hb dL_law_1136 rfl (lv_at hl 0 rfl) ?_
  refine lv_iload_n (pc := 1137) hx hb dL_law_1137 rfl (lv_at hl 3 rfl) ?_
  refine lv_iconst (pc := 1138) (v := (2 : Int32)) hx hb dL_law_1138 (by decide) ?_
  refine lv_iadd (pc := 1139) hx hb dL_law_1139 ?_
  refine lw_sld (pc := 1140) (locs := []) hx hb hW (lw_in (k := 2) rfl (by decide) hj hL) dL_law_1140 ?_
  refine kx_iVi (pc := 1141) [.int _, .int _] hx hb hml hown hts hK hW.1.2.2.1 hW.1.2.2.2 va_S.rf (q7_test h) (cwL_141 hts ⟨Nat.le_of_ble_eq_true rfl, Nat.le_of_ble_eq_true rfl⟩) (show kx_k 1 0 = 7 from rfl) (by decide) rfl rfl hl.1 rfl (Nat.le_of_ble_eq_true rfl) hc dL_law_1141 (fun r1 u_ H1 locs1 hP1 hD1 hS1 h => ?_)
  obtain ⟨e1, h⟩ := h
  have hf1 : ∀ q ∈ locs1, s.heap.size ≤ q.base := fun q hq => hW.2.2.2.2.1 _ (hS1.2.2 q hq)
  replace hW := lw_km hW hP1 hD1 hS1
  refine va_forget hf1 ?_
  clear hP1 hD1 hS1 hf1
  generalize H1 = H at hW ⊢
  refine lv_icmp_eq (pc := 1144) (tgt := 1365) hx hb dL_law_1144 (by decide) (fun _ => ?_) (fun c0 => absurd (e0.trans e1.symm) c0)
  refine lv_iinc (pc := 1365) (v := (nI j + (6 : Int32))) (lv' := [(3, .int (nI j + (6 : Int32))), (0, .ref b), (1, .ref (ad 0)), (2, .ref (ae 0))]) hx hb dL_law_1365 hl (k := 3) rfl rfl (by decide) rfl (fun ls hl => ?_)
  refine lv_goto (pc := 1368) (tgt := 18) hx hb dL_law_1368 (by decide) ?_
  exact ih _ _ _ _ h hW (lv_sub hl [1, 2, 3, 0] rfl)
set_option maxHeartbeats 4000000 in
theorem la_duel (cx : kx_Cx p s m #[Value.ref b] meth c D cy RL code 4 ret) (hT : lt_duel P σ τ) (hj : j + 6 ≤ L) (hL : L ≤ 3072) (hc : K ≤ 600000 ∧ S ≤ 7302250) (ih : ∀ (σ τ : kx_St) (H : Heap) (ls : Array Slot), P σ τ → lw_W D cy ad ae A B b L xs s σ τ H → lv_has ls 4 [(0, .ref b), (1, .ref (ad 0)), (2, .ref (ae 0)), (3, .int (nI j + (6 : Int32)))] → W p l e room_1 s m #[Value.ref b] below meth c H [] K S (lw_Z below #[Value.ref b] s) (F0 m 18 ls [])) (hW : lw_W D cy ad ae A B b L xs s σ τ H) (hl : lv_has ls 4 [(0, .ref b), (1, .ref (ad 0)), (2, .ref (ae 0)), (3, .int (nI j))]) : W p l e room_1 s m #[Value.ref b] below meth c H [] K S (lw_Z below #[Value.ref b] s) (F0 m 1149 ls []) := by
  obtain ⟨hx, hb, hr, hlocks, hml, hown, hts, hK⟩ := id cx
  obtain ⟨v, h⟩ := hT (xs (nI j + (1 : Int32)).toNatClampNeg)
  refine lv_aload_n (pc := 1149) hx hb dL_law_1149 rfl (lv_at hl 1 rfl) ?_
  refine lv_aload_n (pc := 1150) hx hb dL_law_1150 rfl (lv_at hl 0 rfl) ?_
  refine lv_iload_n (pc := 1151) hx hb dL_law_1151 rfl (lv_at hl 3 rfl) ?_
  refine lv_iconst (pc := 1152) (v := (1 : Int32)) hx hb dL_law_1152 (by decide) ?_
  refine lv_iadd (pc := 1153) hx hb dL_law_1153 ?_
  refine lw_sld (pc := 1154) (locs := []) hx hb hW (lw_in (k := 1) rfl (by decide) hj hL) dL_law_1154 ?_
  refine kx_iVi (pc := 1155) [.int _] hx hb hml hown hts hK hW.1.1 hW.1.2.1 va_S.rf (q6_duel h) (cwL_142 hts ⟨Nat.le_of_ble_eq_true rfl, Nat.le_of_ble_eq_true rfl⟩) (show kx_k 0 0 = 6 from rfl) (by decide) rfl rfl hl.1 rfl (Nat.le_of_ble_eq_true rfl) hc dL_law_1155 (fun r0 u_ H1 locs1 hP1 hD1 hS1 h => ?_)
  obtain ⟨e0, h⟩ := h
  have hf1 : ∀ q ∈ locs1, s.heap.size ≤ q.base := fun q hq => hW.2.2.2.1 _ (hS1.2.2 q hq)
  replace hW := lw_kc hW hP1 hD1 hS1
  refine va_forget hf1 ?_
  clear hP1 hD1 hS1 hf1
  generalize H1 = H at hW ⊢
  refine lv_aload_n (pc := 1158) hx hb dL_law_1158 rfl (lv_at hl 2 rfl) ?_
  refine lv_aload_n (pc := 1159) hx hb dL_law_1159 rfl (lv_at hl 0 rfl) ?_
  refine lv_iload_n (pc := 1160) hx hb dL_law_1160 rfl (lv_at hl 3 rfl) ?_
  refine lv_iconst (pc := 1161) (v := (1 : Int32)) hx hb dL_law_1161 (by decide) ?_
  refine lv_iadd (pc := 1162) hx hb dL_law_1162 ?_
  refine lw_sld (pc := 1163) (locs := []) hx hb hW (lw_in (k := 1) rfl (by decide) hj hL) dL_law_1163 ?_
  refine kx_iVi (pc := 1164) [.int _] hx hb hml hown hts hK hW.1.2.2.1 hW.1.2.2.2 va_S.rf (q7_duel h) (cwL_145 hts ⟨Nat.le_of_ble_eq_true rfl, Nat.le_of_ble_eq_true rfl⟩) (show kx_k 1 0 = 7 from rfl) (by decide) rfl rfl hl.1 rfl (Nat.le_of_ble_eq_true rfl) hc dL_law_1164 (fun r1 u_ H1 locs1 hP1 hD1 hS1 h => ?_)
  obtain ⟨e1, h⟩ := h
  have hf1 : ∀ q ∈ locs1, s.heap.size ≤ q.base := fun q hq => hW.2.2.2.2.1 _ (hS1.2.2 q hq)
  replace hW := lw_km hW hP1 hD1 hS1
  refine va_forget hf1 ?_
  clear hP1 hD1 hS1 hf1
  generalize H1 = H at hW ⊢
  refine lv_icmp_eq (pc := 1167) (tgt := 1365) hx hb dL_law_1167 (by decide) (fun _ => ?_) (fun c0 => absurd (e0.trans e1.symm) c0)
  refine lv_iinc (pc := 1365) (v := (nI j + (6 : Int32))) (lv' := [(3, .int (nI j + (6 : Int32))), (0, .ref b), (1, .ref (ad 0)), (2, .ref (ae 0))]) hx hb dL_law_1365 hl (k := 3) rfl rfl (by decide) rfl (fun ls hl => ?_)
  refine lv_goto (pc := 1368) (tgt := 18) hx hb dL_law_1368 (by decide) ?_
  exact ih _ _ _ _ h hW (lv_sub hl [1, 2, 3, 0] rfl)
set_option maxHeartbeats 4000000 in
theorem la_odds (cx : kx_Cx p s m #[Value.ref b] meth c D cy RL code 4 ret) (hT : lt_odds P σ τ) (hj : j + 6 ≤ L) (hL : L ≤ 3072) (hc : K ≤ 600000 ∧ S ≤ 7302250) (ih : ∀ (σ τ : kx_St) (H : Heap) (ls : Array Slot), P σ τ → lw_W D cy ad ae A B b L xs s σ τ H → lv_has ls 4 [(0, .ref b), (1, .ref (ad 0)), (2, .ref (ae 0)), (3, .int (nI j + (6 : Int32)))] → W p l e room_1 s m #[Value.ref b] below meth c H [] K S (lw_Z below #[Value.ref b] s) (F0 m 18 ls [])) (hW : lw_W D cy ad ae A B b L xs s σ τ H) (hl : lv_has ls 4 [(0, .ref b), (1, .ref (ad 0)), (2, .ref (ae 0)), (3, .int (nI j))]) : W p l e room_1 s m #[Value.ref b] below meth c H [] K S (lw_Z below #[Value.ref b] s) (F0 m 1172 ls []) := by
  obtain ⟨hx, hb, hr, hlocks, hml, hown, hts, hK⟩ := id cx
  obtain ⟨v, h⟩ := hT (xs (nI j + (1 : Int32)).toNatClampNeg)
  refine lv_aload_n (pc := 1172) hx hb dL_law_1172 rfl (lv_at hl 1 rfl) ?_
  refine lv_aload_n (pc := 1173) hx hb dL_law_1173 rfl (lv_at hl 0 rfl) ?_
  refine lv_iload_n (pc := 1174) hx hb dL_law_1174 rfl (lv_at hl 3 rfl) ?_
  refine lv_iconst (pc := 1175) (v := (1 : Int32)) hx hb dL_law_1175 (by decide) ?_
  refine lv_iadd (pc := 1176) hx hb dL_law_1176 ?_
  refine lw_sld (pc := 1177) (locs := []) hx hb hW (lw_in (k := 1) rfl (by decide) hj hL) dL_law_1177 ?_
  refine kx_iVi (pc := 1178) [.int _] hx hb hml hown hts hK hW.1.1 hW.1.2.1 va_S.rf (q6_odds h) (cwL_146 hts ⟨Nat.le_of_ble_eq_true rfl, Nat.le_of_ble_eq_true rfl⟩) (show kx_k 0 0 = 6 from rfl) (by decide) rfl rfl hl.1 rfl (Nat.le_of_ble_eq_true rfl) hc dL_law_1178 (fun r0 u_ H1 locs1 hP1 hD1 hS1 h => ?_)
  obtain ⟨e0, h⟩ := h
  have hf1 : ∀ q ∈ locs1, s.heap.size ≤ q.base := fun q hq => hW.2.2.2.1 _ (hS1.2.2 q hq)
  replace hW := lw_kc hW hP1 hD1 hS1
  refine va_forget hf1 ?_
  clear hP1 hD1 hS1 hf1
  generalize H1 = H at hW ⊢
  refine lv_aload_n (pc := 1181) hx hb dL_law_1181 rfl (lv_at hl 2 rfl) ?_
  refine lv_aload_n (pc := 1182) hx hb dL_law_1182 rfl (lv_at hl 0 rfl) ?_
  refine lv_iload_n (pc := 1183) hx hb dL_law_1183 rfl (lv_at hl 3 rfl) ?_
  refine lv_iconst (pc := 1184) (v := (1 : Int32)) hx hb dL_law_1184 (by decide) ?_
  refine lv_iadd (pc := 1185) hx hb dL_law_1185 ?_
  refine lw_sld (pc := 1186) (locs := []) hx hb hW (lw_in (k := 1) rfl (by decide) hj hL) dL_law_1186 ?_
  refine kx_iVi (pc := 1187) [.int _] hx hb hml hown hts hK hW.1.2.2.1 hW.1.2.2.2 va_S.rf (q7_odds h) (cwL_149 hts ⟨Nat.le_of_ble_eq_true rfl, Nat.le_of_ble_eq_true rfl⟩) (show kx_k 1 0 = 7 from rfl) (by decide) rfl rfl hl.1 rfl (Nat.le_of_ble_eq_true rfl) hc dL_law_1187 (fun r1 u_ H1 locs1 hP1 hD1 hS1 h => ?_)
  obtain ⟨e1, h⟩ := h
  have hf1 : ∀ q ∈ locs1, s.heap.size ≤ q.base := fun q hq => hW.2.2.2.2.1 _ (hS1.2.2 q hq)
  replace hW := lw_km hW hP1 hD1 hS1
  refine va_forget hf1 ?_
  clear hP1 hD1 hS1 hf1
  generalize H1 = H at hW ⊢
  refine lv_icmp_eq (pc := 1190) (tgt := 1365) hx hb dL_law_1190 (by decide) (fun _ => ?_) (fun c0 => absurd (e0.trans e1.symm) c0)
  refine lv_iinc (pc := 1365) (v := (nI j + (6 : Int32))) (lv' := [(3, .int (nI j + (6 : Int32))), (0, .ref b), (1, .ref (ad 0)), (2, .ref (ae 0))]) hx hb dL_law_1365 hl (k := 3) rfl rfl (by decide) rfl (fun ls hl => ?_)
  refine lv_goto (pc := 1368) (tgt := 18) hx hb dL_law_1368 (by decide) ?_
  exact ih _ _ _ _ h hW (lv_sub hl [1, 2, 3, 0] rfl)
set_option maxHeartbeats 4000000 in
theorem la_mid (cx : kx_Cx p s m #[Value.ref b] meth c D cy RL code 4 ret) (hT : lt_mid P σ τ) (hj : j + 6 ≤ L) (hL : L ≤ 3072) (hc : K ≤ 600000 ∧ S ≤ 7302250) (ih : ∀ (σ τ : kx_St) (H : Heap) (ls : Array Slot), P σ τ → lw_W D cy ad ae A B b L xs s σ τ H → lv_has ls 4 [(0, .ref b), (1, .ref (ad 0)), (2, .ref (ae 0)), (3, .int (nI j + (6 : Int32)))] → W p l e room_1 s m #[Value.ref b] below meth c H [] K S (lw_Z below #[Value.ref b] s) (F0 m 18 ls [])) (hW : lw_W D cy ad ae A B b L xs s σ τ H) (hl : lv_has ls 4 [(0, .ref b), (1, .ref (ad 0)), (2, .ref (ae 0)), (3, .int (nI j))]) : W p l e room_1 s m #[Value.ref b] below meth c H [] K S (lw_Z below #[Value.ref b] s) (F0 m 1195 ls []) := by
  obtain ⟨hx, hb, hr, hlocks, hml, hown, hts, hK⟩ := id cx
  obtain ⟨v, h⟩ := hT (xs (nI j + (1 : Int32)).toNatClampNeg)
  refine lv_aload_n (pc := 1195) hx hb dL_law_1195 rfl (lv_at hl 1 rfl) ?_
  refine lv_aload_n (pc := 1196) hx hb dL_law_1196 rfl (lv_at hl 0 rfl) ?_
  refine lv_iload_n (pc := 1197) hx hb dL_law_1197 rfl (lv_at hl 3 rfl) ?_
  refine lv_iconst (pc := 1198) (v := (1 : Int32)) hx hb dL_law_1198 (by decide) ?_
  refine lv_iadd (pc := 1199) hx hb dL_law_1199 ?_
  refine lw_sld (pc := 1200) (locs := []) hx hb hW (lw_in (k := 1) rfl (by decide) hj hL) dL_law_1200 ?_
  refine kx_iVi (pc := 1201) [.int _] hx hb hml hown hts hK hW.1.1 hW.1.2.1 va_S.rf (q6_mid h) (cwL_150 hts ⟨Nat.le_of_ble_eq_true rfl, Nat.le_of_ble_eq_true rfl⟩) (show kx_k 0 0 = 6 from rfl) (by decide) rfl rfl hl.1 rfl (Nat.le_of_ble_eq_true rfl) hc dL_law_1201 (fun r0 u_ H1 locs1 hP1 hD1 hS1 h => ?_)
  obtain ⟨e0, h⟩ := h
  have hf1 : ∀ q ∈ locs1, s.heap.size ≤ q.base := fun q hq => hW.2.2.2.1 _ (hS1.2.2 q hq)
  replace hW := lw_kc hW hP1 hD1 hS1
  refine va_forget hf1 ?_
  clear hP1 hD1 hS1 hf1
  generalize H1 = H at hW ⊢
  refine lv_aload_n (pc := 1204) hx hb dL_law_1204 rfl (lv_at hl 2 rfl) ?_
  refine lv_aload_n (pc := 1205) hx hb dL_law_1205 rfl (lv_at hl 0 rfl) ?_
  refine lv_iload_n (pc := 1206) hx hb dL_law_1206 rfl (lv_at hl 3 rfl) ?_
  refine lv_iconst (pc := 1207) (v := (1 : Int32)) hx hb dL_law_1207 (by decide) ?_
  refine lv_iadd (pc := 1208) hx hb dL_law_1208 ?_
  refine lw_sld (pc := 1209) (locs := []) hx hb hW (lw_in (k := 1) rfl (by decide) hj hL) dL_law_1209 ?_
  refine kx_iVi (pc := 1210) [.int _] hx hb hml hown hts hK hW.1.2.2.1 hW.1.2.2.2 va_S.rf (q7_mid h) (cwL_153 hts ⟨Nat.le_of_ble_eq_true rfl, Nat.le_of_ble_eq_true rfl⟩) (show kx_k 1 0 = 7 from rfl) (by decide) rfl rfl hl.1 rfl (Nat.le_of_ble_eq_true rfl) hc dL_law_1210 (fun r1 u_ H1 locs1 hP1 hD1 hS1 h => ?_)
  obtain ⟨e1, h⟩ := h
  have hf1 : ∀ q ∈ locs1, s.heap.size ≤ q.base := fun q hq => hW.2.2.2.2.1 _ (hS1.2.2 q hq)
  replace hW := lw_km hW hP1 hD1 hS1
  refine va_forget hf1 ?_
  clear hP1 hD1 hS1 hf1
  generalize H1 = H at hW ⊢
  refine lv_icmp_eq (pc := 1213) (tgt := 1365) hx hb dL_law_1213 (by decide) (fun _ => ?_) (fun c0 => absurd (e0.trans e1.symm) c0)
  refine lv_iinc (pc := 1365) (v := (nI j + (6 : Int32))) (lv' := [(3, .int (nI j + (6 : Int32))), (0, .ref b), (1, .ref (ad 0)), (2, .ref (ae 0))]) hx hb dL_law_1365 hl (k := 3) rfl rfl (by decide) rfl (fun ls hl => ?_)
  refine lv_goto (pc := 1368) (tgt := 18) hx hb dL_law_1368 (by decide) ?_
  exact ih _ _ _ _ h hW (lv_sub hl [1, 2, 3, 0] rfl)
set_option maxHeartbeats 4000000 in
theorem la_lots (cx : kx_Cx p s m #[Value.ref b] meth c D cy RL code 4 ret) (hT : lt_lots P σ τ) (hj : j + 6 ≤ L) (hL : L ≤ 3072) (hc : K ≤ 600000 ∧ S ≤ 7302250) (ih : ∀ (σ τ : kx_St) (H : Heap) (ls : Array Slot), P σ τ → lw_W D cy ad ae A B b L xs s σ τ H → lv_has ls 4 [(0, .ref b), (1, .ref (ad 0)), (2, .ref (ae 0)), (3, .int (nI j + (6 : Int32)))] → W p l e room_1 s m #[Value.ref b] below meth c H [] K S (lw_Z below #[Value.ref b] s) (F0 m 18 ls [])) (hW : lw_W D cy ad ae A B b L xs s σ τ H) (hl : lv_has ls 4 [(0, .ref b), (1, .ref (ad 0)), (2, .ref (ae 0)), (3, .int (nI j))]) : W p l e room_1 s m #[Value.ref b] below meth c H [] K S (lw_Z below #[Value.ref b] s) (F0 m 1218 ls []) := by
  obtain ⟨hx, hb, hr, hlocks, hml, hown, hts, hK⟩ := id cx
  obtain ⟨v, h⟩ := hT (xs (nI j + (1 : Int32)).toNatClampNeg) (xs (nI j + (2 : Int32)).toNatClampNeg)
  refine lv_aload_n (pc := 1218) hx hb dL_law_1218 rfl (lv_at hl 1 rfl) ?_
  refine lv_aload_n (pc := 1219) hx hb dL_law_1219 rfl (lv_at hl 0 rfl) ?_
  refine lv_iload_n (pc := 1220) hx hb dL_law_1220 rfl (lv_at hl 3 rfl) ?_
  refine lv_iconst (pc := 1221) (v := (1 : Int32)) hx hb dL_law_1221 (by decide) ?_
  refine lv_iadd (pc := 1222) hx hb dL_law_1222 ?_
  refine lw_sld (pc := 1223) (locs := []) hx hb hW (lw_in (k := 1) rfl (by decide) hj hL) dL_law_1223 ?_
  refine lv_aload_n (pc := 1224) hx hb dL_law_1224 rfl (lv_at hl 0 rfl) ?_
  refine lv_iload_n (pc := 1225) hx hb dL_law_1225 rfl (lv_at hl 3 rfl) ?_
  refine lv_iconst (pc := 1226) (v := (2 : Int32)) hx hb dL_law_1226 (by decide) ?_
  refine lv_iadd (pc := 1227) hx hb dL_law_1227 ?_
  refine lw_sld (pc := 1228) (locs := []) hx hb hW (lw_in (k := 2) rfl (by decide) hj hL) dL_law_1228 ?_
  refine kx_iVi (pc := 1229) [.int _, .int _] hx hb hml hown hts hK hW.1.1 hW.1.2.1 va_S.rf (q6_lots h) (cwL_154 hts ⟨Nat.le_of_ble_eq_true rfl, Nat.le_of_ble_eq_true rfl⟩) (show kx_k 0 0 = 6 from rfl) (by decide) rfl rfl hl.1 rfl (Nat.le_of_ble_eq_true rfl) hc dL_law_1229 (fun r0 u_ H1 locs1 hP1 hD1 hS1 h => ?_)
  obtain ⟨e0, h⟩ := h
  have hf1 : ∀ q ∈ locs1, s.heap.size ≤ q.base := fun q hq => hW.2.2.2.1 _ (hS1.2.2 q hq)
  replace hW := lw_kc hW hP1 hD1 hS1
  refine va_forget hf1 ?_
  clear hP1 hD1 hS1 hf1
  generalize H1 = H at hW ⊢
  refine lv_aload_n (pc := 1232) hx hb dL_law_1232 rfl (lv_at hl 2 rfl) ?_
  refine lv_aload_n (pc := 1233) hx hb dL_law_1233 rfl (lv_at hl 0 rfl) ?_
  refine lv_iload_n (pc := 1234) hx hb dL_law_1234 rfl (lv_at hl 3 rfl) ?_
  refine lv_iconst (pc := 1235) (v := (1 : Int32)) hx hb dL_law_1235 (by decide) ?_
  refine lv_iadd (pc := 1236) hx hb dL_law_1236 ?_
  refine lw_sld (pc := 1237) (locs := []) hx hb hW (lw_in (k := 1) rfl (by decide) hj hL) dL_law_1237 ?_
  refine lv_aload_n (pc := 1238) hx hb dL_law_1238 rfl (lv_at hl 0 rfl) ?_
  refine lv_iload_n (pc := 1239) hx hb dL_law_1239 rfl (lv_at hl 3 rfl) ?_
  refine lv_iconst (pc := 1240) (v := (2 : Int32)) hx hb dL_law_1240 (by decide) ?_
  refine lv_iadd (pc := 1241) hx hb dL_law_1241 ?_
  refine lw_sld (pc := 1242) (locs := []) hx hb hW (lw_in (k := 2) rfl (by decide) hj hL) dL_law_1242 ?_
  refine kx_iVi (pc := 1243) [.int _, .int _] hx hb hml hown hts hK hW.1.2.2.1 hW.1.2.2.2 va_S.rf (q7_lots h) (cwL_157 hts ⟨Nat.le_of_ble_eq_true rfl, Nat.le_of_ble_eq_true rfl⟩) (show kx_k 1 0 = 7 from rfl) (by decide) rfl rfl hl.1 rfl (Nat.le_of_ble_eq_true rfl) hc dL_law_1243 (fun r1 u_ H1 locs1 hP1 hD1 hS1 h => ?_)
  obtain ⟨e1, h⟩ := h
  have hf1 : ∀ q ∈ locs1, s.heap.size ≤ q.base := fun q hq => hW.2.2.2.2.1 _ (hS1.2.2 q hq)
  replace hW := lw_km hW hP1 hD1 hS1
  refine va_forget hf1 ?_
  clear hP1 hD1 hS1 hf1
  generalize H1 = H at hW ⊢
  refine lv_icmp_eq (pc := 1246) (tgt := 1365) hx hb dL_law_1246 (by decide) (fun _ => ?_) (fun c0 => absurd (e0.trans e1.symm) c0)
  refine lv_iinc (pc := 1365) (v := (nI j + (6 : Int32))) (lv' := [(3, .int (nI j + (6 : Int32))), (0, .ref b), (1, .ref (ad 0)), (2, .ref (ae 0))]) hx hb dL_law_1365 hl (k := 3) rfl rfl (by decide) rfl (fun ls hl => ?_)
  refine lv_goto (pc := 1368) (tgt := 18) hx hb dL_law_1368 (by decide) ?_
  exact ih _ _ _ _ h hW (lv_sub hl [1, 2, 3, 0] rfl)
set_option maxHeartbeats 4000000 in
theorem la_asked (cx : kx_Cx p s m #[Value.ref b] meth c D cy RL code 4 ret) (hT : lt_asked P σ τ) (hj : j + 6 ≤ L) (hL : L ≤ 3072) (hc : K ≤ 600000 ∧ S ≤ 7302250) (ih : ∀ (σ τ : kx_St) (H : Heap) (ls : Array Slot), P σ τ → lw_W D cy ad ae A B b L xs s σ τ H → lv_has ls 4 [(0, .ref b), (1, .ref (ad 0)), (2, .ref (ae 0)), (3, .int (nI j + (6 : Int32)))] → W p l e room_1 s m #[Value.ref b] below meth c H [] K S (lw_Z below #[Value.ref b] s) (F0 m 18 ls [])) (hW : lw_W D cy ad ae A B b L xs s σ τ H) (hl : lv_has ls 4 [(0, .ref b), (1, .ref (ad 0)), (2, .ref (ae 0)), (3, .int (nI j))]) : W p l e room_1 s m #[Value.ref b] below meth c H [] K S (lw_Z below #[Value.ref b] s) (F0 m 1251 ls []) := by
  obtain ⟨hx, hb, hr, hlocks, hml, hown, hts, hK⟩ := id cx
  obtain ⟨v, h⟩ := hT
  refine lv_aload_n (pc := 1251) hx hb dL_law_1251 rfl (lv_at hl 1 rfl) ?_
  refine kx_iVi (pc := 1252) [] hx hb hml hown hts hK hW.1.1 hW.1.2.1 va_S.rf (q6_asked h) (cwL_158 hts ⟨Nat.le_of_ble_eq_true rfl, Nat.le_of_ble_eq_true rfl⟩) (show kx_k 0 0 = 6 from rfl) (by decide) rfl rfl hl.1 rfl (Nat.le_of_ble_eq_true rfl) hc dL_law_1252 (fun r0 u_ H1 locs1 hP1 hD1 hS1 h => ?_)
  obtain ⟨hu_, h⟩ := h
  rw [hu_] at hP1 hD1
  obtain ⟨e0, h⟩ := h
  have hf1 : ∀ q ∈ locs1, s.heap.size ≤ q.base := fun q hq => hW.2.2.2.1 _ (hS1.2.2 q hq)
  replace hW := lw_kc hW hP1 hD1 hS1
  refine va_forget hf1 ?_
  clear hP1 hD1 hS1 hf1
  generalize H1 = H at hW ⊢
  refine lv_aload_n (pc := 1255) hx hb dL_law_1255 rfl (lv_at hl 2 rfl) ?_
  refine kx_iVi (pc := 1256) [] hx hb hml hown hts hK hW.1.2.2.1 hW.1.2.2.2 va_S.rf (q7_asked h) (cwL_161 hts ⟨Nat.le_of_ble_eq_true rfl, Nat.le_of_ble_eq_true rfl⟩) (show kx_k 1 0 = 7 from rfl) (by decide) rfl rfl hl.1 rfl (Nat.le_of_ble_eq_true rfl) hc dL_law_1256 (fun r1 u_ H1 locs1 hP1 hD1 hS1 h => ?_)
  obtain ⟨hu_, h⟩ := h
  rw [hu_] at hP1 hD1
  obtain ⟨e1, h⟩ := h
  have hf1 : ∀ q ∈ locs1, s.heap.size ≤ q.base := fun q hq => hW.2.2.2.2.1 _ (hS1.2.2 q hq)
  replace hW := lw_km hW hP1 hD1 hS1
  refine va_forget hf1 ?_
  clear hP1 hD1 hS1 hf1
  generalize H1 = H at hW ⊢
  refine lv_icmp_eq (pc := 1259) (tgt := 1365) hx hb dL_law_1259 (by decide) (fun _ => ?_) (fun c0 => absurd (e0.trans e1.symm) c0)
  refine lv_iinc (pc := 1365) (v := (nI j + (6 : Int32))) (lv' := [(3, .int (nI j + (6 : Int32))), (0, .ref b), (1, .ref (ad 0)), (2, .ref (ae 0))]) hx hb dL_law_1365 hl (k := 3) rfl rfl (by decide) rfl (fun ls hl => ?_)
  refine lv_goto (pc := 1368) (tgt := 18) hx hb dL_law_1368 (by decide) ?_
  exact ih _ _ _ _ h hW (lv_sub hl [1, 2, 3, 0] rfl)
set_option maxHeartbeats 4000000 in
theorem la_upper (cx : kx_Cx p s m #[Value.ref b] meth c D cy RL code 4 ret) (hT : lt_upper P σ τ) (hj : j + 6 ≤ L) (hL : L ≤ 3072) (hc : K ≤ 600000 ∧ S ≤ 7302250) (ih : ∀ (σ τ : kx_St) (H : Heap) (ls : Array Slot), P σ τ → lw_W D cy ad ae A B b L xs s σ τ H → lv_has ls 4 [(0, .ref b), (1, .ref (ad 0)), (2, .ref (ae 0)), (3, .int (nI j + (6 : Int32)))] → W p l e room_1 s m #[Value.ref b] below meth c H [] K S (lw_Z below #[Value.ref b] s) (F0 m 18 ls [])) (hW : lw_W D cy ad ae A B b L xs s σ τ H) (hl : lv_has ls 4 [(0, .ref b), (1, .ref (ad 0)), (2, .ref (ae 0)), (3, .int (nI j))]) : W p l e room_1 s m #[Value.ref b] below meth c H [] K S (lw_Z below #[Value.ref b] s) (F0 m 1264 ls []) := by
  obtain ⟨hx, hb, hr, hlocks, hml, hown, hts, hK⟩ := id cx
  obtain ⟨v, h⟩ := hT
  refine lv_aload_n (pc := 1264) hx hb dL_law_1264 rfl (lv_at hl 1 rfl) ?_
  refine kx_iVl (pc := 1265) [] hx hb hml hown hts hK hW.1.1 hW.1.2.1 va_S.rf (q6_upper h) (cwL_162 hts ⟨Nat.le_of_ble_eq_true rfl, Nat.le_of_ble_eq_true rfl⟩) (show kx_k 0 0 = 6 from rfl) (by decide) rfl rfl hl.1 rfl (Nat.le_of_ble_eq_true rfl) hc dL_law_1265 (fun r0 u_ H1 locs1 hP1 hD1 hS1 h => ?_)
  obtain ⟨hu_, h⟩ := h
  rw [hu_] at hP1 hD1
  obtain ⟨e0, h⟩ := h
  have hf1 : ∀ q ∈ locs1, s.heap.size ≤ q.base := fun q hq => hW.2.2.2.1 _ (hS1.2.2 q hq)
  replace hW := lw_kc hW hP1 hD1 hS1
  refine va_forget hf1 ?_
  clear hP1 hD1 hS1 hf1
  generalize H1 = H at hW ⊢
  refine lv_aload_n (pc := 1268) hx hb dL_law_1268 rfl (lv_at hl 2 rfl) ?_
  refine kx_iVl (pc := 1269) [] hx hb hml hown hts hK hW.1.2.2.1 hW.1.2.2.2 va_S.rf (q7_upper h) (cwL_166 hts ⟨Nat.le_of_ble_eq_true rfl, Nat.le_of_ble_eq_true rfl⟩) (show kx_k 1 0 = 7 from rfl) (by decide) rfl rfl hl.1 rfl (Nat.le_of_ble_eq_true rfl) hc dL_law_1269 (fun r1 u_ H1 locs1 hP1 hD1 hS1 h => ?_)
  obtain ⟨hu_, h⟩ := h
  rw [hu_] at hP1 hD1
  obtain ⟨e1, h⟩ := h
  have hf1 : ∀ q ∈ locs1, s.heap.size ≤ q.base := fun q hq => hW.2.2.2.2.1 _ (hS1.2.2 q hq)
  replace hW := lw_km hW hP1 hD1 hS1
  refine va_forget hf1 ?_
  clear hP1 hD1 hS1 hf1
  generalize H1 = H at hW ⊢
  refine W.lcmp (pc := 1272) hx hb dL_law_1272 ?_
  refine lv_if_eq (pc := 1273) (tgt := 1365) hx hb dL_law_1273 (by decide) (fun _ => ?_) (fun c0 => absurd ((lg_cmp_eq _ _).mpr (e0.trans e1.symm)) c0)
  refine lv_iinc (pc := 1365) (v := (nI j + (6 : Int32))) (lv' := [(3, .int (nI j + (6 : Int32))), (0, .ref b), (1, .ref (ad 0)), (2, .ref (ae 0))]) hx hb dL_law_1365 hl (k := 3) rfl rfl (by decide) rfl (fun ls hl => ?_)
  refine lv_goto (pc := 1368) (tgt := 18) hx hb dL_law_1368 (by decide) ?_
  exact ih _ _ _ _ h hW (lv_sub hl [1, 2, 3, 0] rfl)
set_option maxHeartbeats 4000000 in
theorem la_lower (cx : kx_Cx p s m #[Value.ref b] meth c D cy RL code 4 ret) (hT : lt_lower P σ τ) (hj : j + 6 ≤ L) (hL : L ≤ 3072) (hc : K ≤ 600000 ∧ S ≤ 7302250) (ih : ∀ (σ τ : kx_St) (H : Heap) (ls : Array Slot), P σ τ → lw_W D cy ad ae A B b L xs s σ τ H → lv_has ls 4 [(0, .ref b), (1, .ref (ad 0)), (2, .ref (ae 0)), (3, .int (nI j + (6 : Int32)))] → W p l e room_1 s m #[Value.ref b] below meth c H [] K S (lw_Z below #[Value.ref b] s) (F0 m 18 ls [])) (hW : lw_W D cy ad ae A B b L xs s σ τ H) (hl : lv_has ls 4 [(0, .ref b), (1, .ref (ad 0)), (2, .ref (ae 0)), (3, .int (nI j))]) : W p l e room_1 s m #[Value.ref b] below meth c H [] K S (lw_Z below #[Value.ref b] s) (F0 m 1278 ls []) := by
  obtain ⟨hx, hb, hr, hlocks, hml, hown, hts, hK⟩ := id cx
  obtain ⟨v, h⟩ := hT
  refine lv_aload_n (pc := 1278) hx hb dL_law_1278 rfl (lv_at hl 1 rfl) ?_
  refine kx_iVl (pc := 1279) [] hx hb hml hown hts hK hW.1.1 hW.1.2.1 va_S.rf (q6_lower h) (cwL_167 hts ⟨Nat.le_of_ble_eq_true rfl, Nat.le_of_ble_eq_true rfl⟩) (show kx_k 0 0 = 6 from rfl) (by decide) rfl rfl hl.1 rfl (Nat.le_of_ble_eq_true rfl) hc dL_law_1279 (fun r0 u_ H1 locs1 hP1 hD1 hS1 h => ?_)
  obtain ⟨hu_, h⟩ := h
  rw [hu_] at hP1 hD1
  obtain ⟨e0, h⟩ := h
  have hf1 : ∀ q ∈ locs1, s.heap.size ≤ q.base := fun q hq => hW.2.2.2.1 _ (hS1.2.2 q hq)
  replace hW := lw_kc hW hP1 hD1 hS1
  refine va_forget hf1 ?_
  clear hP1 hD1 hS1 hf1
  generalize H1 = H at hW ⊢
  refine lv_aload_n (pc := 1282) hx hb dL_law_1282 rfl (lv_at hl 2 rfl) ?_
  refine kx_iVl (pc := 1283) [] hx hb hml hown hts hK hW.1.2.2.1 hW.1.2.2.2 va_S.rf (q7_lower h) (cwL_170 hts ⟨Nat.le_of_ble_eq_true rfl, Nat.le_of_ble_eq_true rfl⟩) (show kx_k 1 0 = 7 from rfl) (by decide) rfl rfl hl.1 rfl (Nat.le_of_ble_eq_true rfl) hc dL_law_1283 (fun r1 u_ H1 locs1 hP1 hD1 hS1 h => ?_)
  obtain ⟨hu_, h⟩ := h
  rw [hu_] at hP1 hD1
  obtain ⟨e1, h⟩ := h
  have hf1 : ∀ q ∈ locs1, s.heap.size ≤ q.base := fun q hq => hW.2.2.2.2.1 _ (hS1.2.2 q hq)
  replace hW := lw_km hW hP1 hD1 hS1
  refine va_forget hf1 ?_
  clear hP1 hD1 hS1 hf1
  generalize H1 = H at hW ⊢
  refine W.lcmp (pc := 1286) hx hb dL_law_1286 ?_
  refine lv_if_eq (pc := 1287) (tgt := 1365) hx hb dL_law_1287 (by decide) (fun _ => ?_) (fun c0 => absurd ((lg_cmp_eq _ _).mpr (e0.trans e1.symm)) c0)
  refine lv_iinc (pc := 1365) (v := (nI j + (6 : Int32))) (lv' := [(3, .int (nI j + (6 : Int32))), (0, .ref b), (1, .ref (ad 0)), (2, .ref (ae 0))]) hx hb dL_law_1365 hl (k := 3) rfl rfl (by decide) rfl (fun ls hl => ?_)
  refine lv_goto (pc := 1368) (tgt := 18) hx hb dL_law_1368 (by decide) ?_
  exact ih _ _ _ _ h hW (lv_sub hl [1, 2, 3, 0] rfl)
set_option maxHeartbeats 4000000 in
theorem la_count (cx : kx_Cx p s m #[Value.ref b] meth c D cy RL code 4 ret) (hT : lt_count P σ τ) (hj : j + 6 ≤ L) (hL : L ≤ 3072) (hc : K ≤ 600000 ∧ S ≤ 7302250) (ih : ∀ (σ τ : kx_St) (H : Heap) (ls : Array Slot), P σ τ → lw_W D cy ad ae A B b L xs s σ τ H → lv_has ls 4 [(0, .ref b), (1, .ref (ad 0)), (2, .ref (ae 0)), (3, .int (nI j + (6 : Int32)))] → W p l e room_1 s m #[Value.ref b] below meth c H [] K S (lw_Z below #[Value.ref b] s) (F0 m 18 ls [])) (hW : lw_W D cy ad ae A B b L xs s σ τ H) (hl : lv_has ls 4 [(0, .ref b), (1, .ref (ad 0)), (2, .ref (ae 0)), (3, .int (nI j))]) : W p l e room_1 s m #[Value.ref b] below meth c H [] K S (lw_Z below #[Value.ref b] s) (F0 m 1292 ls []) := by
  obtain ⟨hx, hb, hr, hlocks, hml, hown, hts, hK⟩ := id cx
  obtain ⟨v, h⟩ := hT (xs (nI j + (1 : Int32)).toNatClampNeg)
  refine lv_aload_n (pc := 1292) hx hb dL_law_1292 rfl (lv_at hl 1 rfl) ?_
  refine lv_aload_n (pc := 1293) hx hb dL_law_1293 rfl (lv_at hl 0 rfl) ?_
  refine lv_iload_n (pc := 1294) hx hb dL_law_1294 rfl (lv_at hl 3 rfl) ?_
  refine lv_iconst (pc := 1295) (v := (1 : Int32)) hx hb dL_law_1295 (by decide) ?_
  refine lv_iadd (pc := 1296) hx hb dL_law_1296 ?_
  refine lw_sld (pc := 1297) (locs := []) hx hb hW (lw_in (k := 1) rfl (by decide) hj hL) dL_law_1297 ?_
  refine kx_iVi (pc := 1298) [.int _] hx hb hml hown hts hK hW.1.1 hW.1.2.1 va_S.rf (q6_count h) (cwL_171 hts ⟨Nat.le_of_ble_eq_true rfl, Nat.le_of_ble_eq_true rfl⟩) (show kx_k 0 0 = 6 from rfl) (by decide) rfl rfl hl.1 rfl (Nat.le_of_ble_eq_true rfl) hc dL_law_1298 (fun r0 u_ H1 locs1 hP1 hD1 hS1 h => ?_)
  obtain ⟨hu_, h⟩ := h
  rw [hu_] at hP1 hD1
  obtain ⟨e0, h⟩ := h
  have hf1 : ∀ q ∈ locs1, s.heap.size ≤ q.base := fun q hq => hW.2.2.2.1 _ (hS1.2.2 q hq)
  replace hW := lw_kc hW hP1 hD1 hS1
  refine va_forget hf1 ?_
  clear hP1 hD1 hS1 hf1
  generalize H1 = H at hW ⊢
  refine lv_aload_n (pc := 1301) hx hb dL_law_1301 rfl (lv_at hl 2 rfl) ?_
  refine lv_aload_n (pc := 1302) hx hb dL_law_1302 rfl (lv_at hl 0 rfl) ?_
  refine lv_iload_n (pc := 1303) hx hb dL_law_1303 rfl (lv_at hl 3 rfl) ?_
  refine lv_iconst (pc := 1304) (v := (1 : Int32)) hx hb dL_law_1304 (by decide) ?_
  refine lv_iadd (pc := 1305) hx hb dL_law_1305 ?_
  refine lw_sld (pc := 1306) (locs := []) hx hb hW (lw_in (k := 1) rfl (by decide) hj hL) dL_law_1306 ?_
  refine kx_iVi (pc := 1307) [.int _] hx hb hml hown hts hK hW.1.2.2.1 hW.1.2.2.2 va_S.rf (q7_count h) (cwL_174 hts ⟨Nat.le_of_ble_eq_true rfl, Nat.le_of_ble_eq_true rfl⟩) (show kx_k 1 0 = 7 from rfl) (by decide) rfl rfl hl.1 rfl (Nat.le_of_ble_eq_true rfl) hc dL_law_1307 (fun r1 u_ H1 locs1 hP1 hD1 hS1 h => ?_)
  obtain ⟨hu_, h⟩ := h
  rw [hu_] at hP1 hD1
  obtain ⟨e1, h⟩ := h
  have hf1 : ∀ q ∈ locs1, s.heap.size ≤ q.base := fun q hq => hW.2.2.2.2.1 _ (hS1.2.2 q hq)
  replace hW := lw_km hW hP1 hD1 hS1
  refine va_forget hf1 ?_
  clear hP1 hD1 hS1 hf1
  generalize H1 = H at hW ⊢
  refine lv_icmp_eq (pc := 1310) (tgt := 1365) hx hb dL_law_1310 (by decide) (fun _ => ?_) (fun c0 => absurd (e0.trans e1.symm) c0)
  refine lv_iinc (pc := 1365) (v := (nI j + (6 : Int32))) (lv' := [(3, .int (nI j + (6 : Int32))), (0, .ref b), (1, .ref (ad 0)), (2, .ref (ae 0))]) hx hb dL_law_1365 hl (k := 3) rfl rfl (by decide) rfl (fun ls hl => ?_)
  refine lv_goto (pc := 1368) (tgt := 18) hx hb dL_law_1368 (by decide) ?_
  exact ih _ _ _ _ h hW (lv_sub hl [1, 2, 3, 0] rfl)
set_option maxHeartbeats 4000000 in
theorem la_finding (cx : kx_Cx p s m #[Value.ref b] meth c D cy RL code 4 ret) (hT : lt_finding P σ τ) (hj : j + 6 ≤ L) (hL : L ≤ 3072) (hc : K ≤ 600000 ∧ S ≤ 7302250) (ih : ∀ (σ τ : kx_St) (H : Heap) (ls : Array Slot), P σ τ → lw_W D cy ad ae A B b L xs s σ τ H → lv_has ls 4 [(0, .ref b), (1, .ref (ad 0)), (2, .ref (ae 0)), (3, .int (nI j + (6 : Int32)))] → W p l e room_1 s m #[Value.ref b] below meth c H [] K S (lw_Z below #[Value.ref b] s) (F0 m 18 ls [])) (hW : lw_W D cy ad ae A B b L xs s σ τ H) (hl : lv_has ls 4 [(0, .ref b), (1, .ref (ad 0)), (2, .ref (ae 0)), (3, .int (nI j))]) : W p l e room_1 s m #[Value.ref b] below meth c H [] K S (lw_Z below #[Value.ref b] s) (F0 m 1315 ls []) := by
  obtain ⟨hx, hb, hr, hlocks, hml, hown, hts, hK⟩ := id cx
  obtain ⟨v, h⟩ := hT
  refine lv_aload_n (pc := 1315) hx hb dL_law_1315 rfl (lv_at hl 1 rfl) ?_
  refine kx_iVi (pc := 1316) [] hx hb hml hown hts hK hW.1.1 hW.1.2.1 va_S.rf (q6_finding h) (cwL_175 hts ⟨Nat.le_of_ble_eq_true rfl, Nat.le_of_ble_eq_true rfl⟩) (show kx_k 0 0 = 6 from rfl) (by decide) rfl rfl hl.1 rfl (Nat.le_of_ble_eq_true rfl) hc dL_law_1316 (fun r0 u_ H1 locs1 hP1 hD1 hS1 h => ?_)
  obtain ⟨hu_, h⟩ := h
  rw [hu_] at hP1 hD1
  obtain ⟨e0, h⟩ := h
  have hf1 : ∀ q ∈ locs1, s.heap.size ≤ q.base := fun q hq => hW.2.2.2.1 _ (hS1.2.2 q hq)
  replace hW := lw_kc hW hP1 hD1 hS1
  refine va_forget hf1 ?_
  clear hP1 hD1 hS1 hf1
  generalize H1 = H at hW ⊢
  refine lv_aload_n (pc := 1319) hx hb dL_law_1319 rfl (lv_at hl 2 rfl) ?_
  refine kx_iVi (pc := 1320) [] hx hb hml hown hts hK hW.1.2.2.1 hW.1.2.2.2 va_S.rf (q7_finding h) (cwL_178 hts ⟨Nat.le_of_ble_eq_true rfl, Nat.le_of_ble_eq_true rfl⟩) (show kx_k 1 0 = 7 from rfl) (by decide) rfl rfl hl.1 rfl (Nat.le_of_ble_eq_true rfl) hc dL_law_1320 (fun r1 u_ H1 locs1 hP1 hD1 hS1 h => ?_)
  obtain ⟨hu_, h⟩ := h
  rw [hu_] at hP1 hD1
  obtain ⟨e1, h⟩ := h
  have hf1 : ∀ q ∈ locs1, s.heap.size ≤ q.base := fun q hq => hW.2.2.2.2.1 _ (hS1.2.2 q hq)
  replace hW := lw_km hW hP1 hD1 hS1
  refine va_forget hf1 ?_
  clear hP1 hD1 hS1 hf1
  generalize H1 = H at hW ⊢
  refine lv_icmp_eq (pc := 1323) (tgt := 1365) hx hb dL_law_1323 (by decide) (fun _ => ?_) (fun c0 => absurd (e0.trans e1.symm) c0)
  refine lv_iinc (pc := 1365) (v := (nI j + (6 : Int32))) (lv' := [(3, .int (nI j + (6 : Int32))), (0, .ref b), (1, .ref (ad 0)), (2, .ref (ae 0))]) hx hb dL_law_1365 hl (k := 3) rfl rfl (by decide) rfl (fun ls hl => ?_)
  refine lv_goto (pc := 1368) (tgt := 18) hx hb dL_law_1368 (by decide) ?_
  exact ih _ _ _ _ h hW (lv_sub hl [1, 2, 3, 0] rfl)
set_option maxHeartbeats 4000000 in
theorem la_findings (cx : kx_Cx p s m #[Value.ref b] meth c D cy RL code 4 ret) (hT : lt_findings P σ τ) (hj : j + 6 ≤ L) (hL : L ≤ 3072) (hc : K ≤ 600000 ∧ S ≤ 7302250) (ih : ∀ (σ τ : kx_St) (H : Heap) (ls : Array Slot), P σ τ → lw_W D cy ad ae A B b L xs s σ τ H → lv_has ls 4 [(0, .ref b), (1, .ref (ad 0)), (2, .ref (ae 0)), (3, .int (nI j + (6 : Int32)))] → W p l e room_1 s m #[Value.ref b] below meth c H [] K S (lw_Z below #[Value.ref b] s) (F0 m 18 ls [])) (hW : lw_W D cy ad ae A B b L xs s σ τ H) (hl : lv_has ls 4 [(0, .ref b), (1, .ref (ad 0)), (2, .ref (ae 0)), (3, .int (nI j))]) : W p l e room_1 s m #[Value.ref b] below meth c H [] K S (lw_Z below #[Value.ref b] s) (F0 m 1328 ls []) := by
  obtain ⟨hx, hb, hr, hlocks, hml, hown, hts, hK⟩ := id cx
  obtain ⟨v, h⟩ := hT (xs (nI j + (1 : Int32)).toNatClampNeg)
  refine lv_aload_n (pc := 1328) hx hb dL_law_1328 rfl (lv_at hl 1 rfl) ?_
  refine lv_aload_n (pc := 1329) hx hb dL_law_1329 rfl (lv_at hl 0 rfl) ?_
  refine lv_iload_n (pc := 1330) hx hb dL_law_1330 rfl (lv_at hl 3 rfl) ?_
  refine lv_iconst (pc := 1331) (v := (1 : Int32)) hx hb dL_law_1331 (by decide) ?_
  refine lv_iadd (pc := 1332) hx hb dL_law_1332 ?_
  refine lw_sld (pc := 1333) (locs := []) hx hb hW (lw_in (k := 1) rfl (by decide) hj hL) dL_law_1333 ?_
  refine kx_iVi (pc := 1334) [.int _] hx hb hml hown hts hK hW.1.1 hW.1.2.1 va_S.rf (q6_findings h) (cwL_179 hts ⟨Nat.le_of_ble_eq_true rfl, Nat.le_of_ble_eq_true rfl⟩) (show kx_k 0 0 = 6 from rfl) (by decide) rfl rfl hl.1 rfl (Nat.le_of_ble_eq_true rfl) hc dL_law_1334 (fun r0 u_ H1 locs1 hP1 hD1 hS1 h => ?_)
  obtain ⟨hu_, h⟩ := h
  rw [hu_] at hP1 hD1
  obtain ⟨e0, h⟩ := h
  have hf1 : ∀ q ∈ locs1, s.heap.size ≤ q.base := fun q hq => hW.2.2.2.1 _ (hS1.2.2 q hq)
  replace hW := lw_kc hW hP1 hD1 hS1
  refine va_forget hf1 ?_
  clear hP1 hD1 hS1 hf1
  generalize H1 = H at hW ⊢
  refine lv_aload_n (pc := 1337) hx hb dL_law_1337 rfl (lv_at hl 2 rfl) ?_
  refine lv_aload_n (pc := 1338) hx hb dL_law_1338 rfl (lv_at hl 0 rfl) ?_
  refine lv_iload_n (pc := 1339) hx hb dL_law_1339 rfl (lv_at hl 3 rfl) ?_
  refine lv_iconst (pc := 1340) (v := (1 : Int32)) hx hb dL_law_1340 (by decide) ?_
  refine lv_iadd (pc := 1341) hx hb dL_law_1341 ?_
  refine lw_sld (pc := 1342) (locs := []) hx hb hW (lw_in (k := 1) rfl (by decide) hj hL) dL_law_1342 ?_
  refine kx_iVi (pc := 1343) [.int _] hx hb hml hown hts hK hW.1.2.2.1 hW.1.2.2.2 va_S.rf (q7_findings h) (cwL_182 hts ⟨Nat.le_of_ble_eq_true rfl, Nat.le_of_ble_eq_true rfl⟩) (show kx_k 1 0 = 7 from rfl) (by decide) rfl rfl hl.1 rfl (Nat.le_of_ble_eq_true rfl) hc dL_law_1343 (fun r1 u_ H1 locs1 hP1 hD1 hS1 h => ?_)
  obtain ⟨hu_, h⟩ := h
  rw [hu_] at hP1 hD1
  obtain ⟨e1, h⟩ := h
  have hf1 : ∀ q ∈ locs1, s.heap.size ≤ q.base := fun q hq => hW.2.2.2.2.1 _ (hS1.2.2 q hq)
  replace hW := lw_km hW hP1 hD1 hS1
  refine va_forget hf1 ?_
  clear hP1 hD1 hS1 hf1
  generalize H1 = H at hW ⊢
  refine lv_icmp_eq (pc := 1346) (tgt := 1365) hx hb dL_law_1346 (by decide) (fun _ => ?_) (fun c0 => absurd (e0.trans e1.symm) c0)
  refine lv_iinc (pc := 1365) (v := (nI j + (6 : Int32))) (lv' := [(3, .int (nI j + (6 : Int32))), (0, .ref b), (1, .ref (ad 0)), (2, .ref (ae 0))]) hx hb dL_law_1365 hl (k := 3) rfl rfl (by decide) rfl (fun ls hl => ?_)
  refine lv_goto (pc := 1368) (tgt := 18) hx hb dL_law_1368 (by decide) ?_
  exact ih _ _ _ _ h hW (lv_sub hl [1, 2, 3, 0] rfl)
set_option maxHeartbeats 4000000 in
theorem la_digest (cx : kx_Cx p s m #[Value.ref b] meth c D cy RL code 4 ret) (hT : lt_digest P σ τ) (hj : j + 6 ≤ L) (hL : L ≤ 3072) (hc : K ≤ 600000 ∧ S ≤ 7302250) (ih : ∀ (σ τ : kx_St) (H : Heap) (ls : Array Slot), P σ τ → lw_W D cy ad ae A B b L xs s σ τ H → lv_has ls 4 [(0, .ref b), (1, .ref (ad 0)), (2, .ref (ae 0)), (3, .int (nI j + (6 : Int32)))] → W p l e room_1 s m #[Value.ref b] below meth c H [] K S (lw_Z below #[Value.ref b] s) (F0 m 18 ls [])) (hW : lw_W D cy ad ae A B b L xs s σ τ H) (hl : lv_has ls 4 [(0, .ref b), (1, .ref (ad 0)), (2, .ref (ae 0)), (3, .int (nI j))]) : W p l e room_1 s m #[Value.ref b] below meth c H [] K S (lw_Z below #[Value.ref b] s) (F0 m 1351 ls []) := by
  obtain ⟨hx, hb, hr, hlocks, hml, hown, hts, hK⟩ := id cx
  obtain ⟨v, h⟩ := hT
  refine lv_aload_n (pc := 1351) hx hb dL_law_1351 rfl (lv_at hl 1 rfl) ?_
  refine kx_iVl (pc := 1352) [] hx hb hml hown hts hK hW.1.1 hW.1.2.1 va_S.rf (q6_digest h) (cwL_183 hts ⟨Nat.le_of_ble_eq_true rfl, Nat.le_of_ble_eq_true rfl⟩) (show kx_k 0 0 = 6 from rfl) (by decide) rfl rfl hl.1 rfl (Nat.le_of_ble_eq_true rfl) hc dL_law_1352 (fun r0 u_ H1 locs1 hP1 hD1 hS1 h => ?_)
  obtain ⟨hu_, h⟩ := h
  rw [hu_] at hP1 hD1
  obtain ⟨e0, h⟩ := h
  have hf1 : ∀ q ∈ locs1, s.heap.size ≤ q.base := fun q hq => hW.2.2.2.1 _ (hS1.2.2 q hq)
  replace hW := lw_kc hW hP1 hD1 hS1
  refine va_forget hf1 ?_
  clear hP1 hD1 hS1 hf1
  generalize H1 = H at hW ⊢
  refine lv_aload_n (pc := 1355) hx hb dL_law_1355 rfl (lv_at hl 2 rfl) ?_
  refine kx_iVl (pc := 1356) [] hx hb hml hown hts hK hW.1.2.2.1 hW.1.2.2.2 va_S.rf (q7_digest h) (cwL_186 hts ⟨Nat.le_of_ble_eq_true rfl, Nat.le_of_ble_eq_true rfl⟩) (show kx_k 1 0 = 7 from rfl) (by decide) rfl rfl hl.1 rfl (Nat.le_of_ble_eq_true rfl) hc dL_law_1356 (fun r1 u_ H1 locs1 hP1 hD1 hS1 h => ?_)
  obtain ⟨hu_, h⟩ := h
  rw [hu_] at hP1 hD1
  obtain ⟨e1, h⟩ := h
  have hf1 : ∀ q ∈ locs1, s.heap.size ≤ q.base := fun q hq => hW.2.2.2.2.1 _ (hS1.2.2 q hq)
  replace hW := lw_km hW hP1 hD1 hS1
  refine va_forget hf1 ?_
  clear hP1 hD1 hS1 hf1
  generalize H1 = H at hW ⊢
  refine W.lcmp (pc := 1359) hx hb dL_law_1359 ?_
  refine lv_if_eq (pc := 1360) (tgt := 1365) hx hb dL_law_1360 (by decide) (fun _ => ?_) (fun c0 => absurd ((lg_cmp_eq _ _).mpr (e0.trans e1.symm)) c0)
  refine lv_iinc (pc := 1365) (v := (nI j + (6 : Int32))) (lv' := [(3, .int (nI j + (6 : Int32))), (0, .ref b), (1, .ref (ad 0)), (2, .ref (ae 0))]) hx hb dL_law_1365 hl (k := 3) rfl rfl (by decide) rfl (fun ls hl => ?_)
  refine lv_goto (pc := 1368) (tgt := 18) hx hb dL_law_1368 (by decide) ?_
  exact ih _ _ _ _ h hW (lv_sub hl [1, 2, 3, 0] rfl)
end
