section
variable {σ τ s t s' t' : kx_St} {r m : Nat}
/-! reading a TEXT, both sides step by step: the place stands aside from the rest of the state -/
def kg_s (s : kx_St) (j : Nat) : kx_St := kx_sI s 9 0 (nI j)
def kg_t (t : kx_St) (j : Nat) : kx_St := kx_sI t 0 17 (nI j)
def kg_C (s t : kx_St) (r m : Nat) : Prop := r < 4 ∧ m ≤ 60 ∧ s.1 (66 + r) 1 = nI m ∧ (∀ i, i < m → t.1 9 (60 * r + i) = s.1 (76 + r) i) ∧ t.1 0 16 = nI (60 * r) ∧ t.1 0 18 = nI m
theorem kx_tw (σ : kx_St) (a k : Nat) (v v' : Int32) : kx_sI (kx_sI σ a k v) a k v' = kx_sI σ a k v' := by
  refine Prod.ext ?_ rfl
  funext b j
  by_cases h : b = a ∧ j = k
  · exact (if_pos h).trans (if_pos h).symm
  · exact ((if_neg h).trans (if_neg h)).trans (if_neg h).symm
theorem kg_ss (s : kx_St) (j k : Nat) : kx_sI (kg_s s j) 9 0 (nI k) = kg_s s k := kx_tw _ _ _ _ _
theorem kg_tt (t : kx_St) (j k : Nat) : kx_sI (kg_t t j) 0 17 (nI k) = kg_t t k := kx_tw _ _ _ _ _
theorem kg_sw (s : kx_St) (j : Nat) {a k : Nat} (v : Int32) (h : a ≠ 9) : kx_sI (kg_s s j) a k v = kg_s (kx_sI s a k v) j := kx_comm s (by omega)
theorem kg_tw (t : kx_St) (j : Nat) {a k : Nat} (v : Int32) (h : ¬ (a = 0 ∧ k = 17)) : kx_sI (kg_t t j) a k v = kg_t (kx_sI t a k v) j := kx_comm t (by omega)
theorem kg_sp (s : kx_St) (j : Nat) : (kg_s s j).1 9 0 = nI j := kv_us _ _ _ _
theorem kg_tp (t : kx_St) (j : Nat) : (kg_t t j).1 0 17 = nI j := kv_us _ _ _ _
theorem kg_sa (s : kx_St) (j : Nat) {a : Nat} (h : a ≠ 9) : (kg_s s j).1 a = s.1 a := kv_ua h
theorem kg_ta (t : kx_St) (j : Nat) {a : Nat} (h : a ≠ 0) : (kg_t t j).1 a = t.1 a := kv_ua h
theorem kg_t0 (t : kx_St) (j : Nat) {k : Nat} (h : k ≠ 17) : (kg_t t j).1 0 k = t.1 0 k := kv_un (by omega)
theorem kg_R (C : kg_C s t r m) : ku_Row (66 + r) (76 + r) 60 := ku_txt C.1
theorem kg_sz (C : kg_C s t r m) (j : Nat) : (kg_s s j).1 (66 + r) 1 = nI m := by rw [kg_sa s j (by omega)]; exact C.2.2.1
theorem kg_Cs (C : kg_C s t r m) {a k : Nat} (v : Int32) (h : a < 66) : kg_C (kx_sI s a k v) t r m := by
  obtain ⟨a1, a2, a3, a4, a5⟩ := C
  refine ⟨a1, a2, ?_, fun i hi => ?_, a5⟩
  · rw [kv_ua (by omega)]; exact a3
  · rw [kv_ua (by omega)]; exact a4 i hi
theorem kg_Ct (C : kg_C s t r m) {a k : Nat} (v : Int32) (h : a ≠ 9) (h2 : ¬ (a = 0 ∧ (k = 16 ∨ k = 18))) : kg_C s (kx_sI t a k v) r m := by
  obtain ⟨a1, a2, a3, a4, a5, a6⟩ := C
  refine ⟨a1, a2, a3, fun i hi => ?_, ?_, ?_⟩
  · rw [kv_ua (by omega)]; exact a4 i hi
  · rw [kv_un (by omega)]; exact a5
  · rw [kv_un (by omega)]; exact a6
theorem kg_sign (C : kg_C s t r m) {j : Nat} {Q : Int32 → Prop} (hj : j ≤ m) (q1 : j < m → Q (s.1 (76 + r) j)) (q0 : j = m → Q (-1000)) : p4_sign (kg_s s j) 9 (66 + r) Q := by
  have m60 := C.2.1
  unfold p4_sign
  rw [kg_sp]
  refine ⟨rfl, (kg_R C).1, ?_⟩
  by_cases h : j < m
  · refine s5_holds_yes (kg_R C) (kg_sz C j) m60 h (kv_f (by decide) ?_)
    rw [(kg_R C).2.1, (kg_R C).2.2.1, kv_c (by omega), kg_sa s j (by have := C.1; omega)]
    exact ⟨kv_in (by omega) (by omega), q1 h⟩
  · exact s5_holds_no (kg_R C) (kg_sz C j) m60 (Or.inr (by rw [kv_n (by omega)]; omega)) (kv_t rfl (q0 (by omega)))
theorem kg_ad (C : kg_C s t r m) (j : Nat) : (kg_t t j).1 0 16 + (kg_t t j).1 0 17 = nI (60 * r + j) := by
  rw [kg_tp, kg_t0 t j (by decide), C.2.2.2.2.1, kv_add]
theorem kg_here (C : kg_C s t r m) {j : Nat} {Q : Int32 → Prop} (h : j < m) (q : Q (s.1 (76 + r) j)) : p7_here (kg_t t j) Q := by
  have m60 := C.2.1
  have r4 := C.1
  unfold p7_here
  rw [kg_ad C, kv_c (by omega), kg_ta t j (by decide), C.2.2.2.1 j h]
  exact ⟨kv_in (by omega) (by decide), q⟩
theorem kg_skip (C : kg_C s t r m) : ∀ d j, j + d = m → ∃ j', j ≤ j' ∧ j' ≤ m ∧ (∀ Q : kx_St → Prop, Q (kg_s s j') → p4_skipBlanks_L0 (d + 1) (kg_s s j) 9 (66 + r) Q) ∧ ∀ Q : kx_St → Prop, Q (kg_t t j') → p7_skip_L0 (d + 1) (kg_t t j) Q := by
  have m60 := C.2.1
  have h18 : ∀ j, (kg_t t j).1 0 18 = nI m := fun j => (kg_t0 t j (by decide)).trans C.2.2.2.2.2
  intro d
  induction d with
  | zero =>
    intro j hj
    obtain rfl : j = m := by omega
    refine ⟨j, Nat.le_refl _, Nat.le_refl _, fun Q q => ?_, fun Q q => ?_⟩
    · unfold p4_skipBlanks_L0
      rw [kg_sz C, kg_sp]
      exact kv_t (by rw [kv_leN (by omega) (by omega)]; omega) q
    · unfold p7_skip_L0
      rw [h18, kg_tp]
      exact kv_t (by rw [kv_leN (by omega) (by omega)]; omega) q
  | succ d ih =>
    intro j hj
    have hjm : j < m := by omega
    have nle : ¬ nI m ≤ nI j := by rw [kv_leN (by omega) (by omega)]; omega
    have e : (kg_s s j).1 (76 + r) j = s.1 (76 + r) j := by rw [kg_sa s j (by have := C.1; omega)]
    by_cases b : s.1 (76 + r) j = 32
    · obtain ⟨j', h1, h2, q1, q2⟩ := ih (j + 1) (by omega)
      refine ⟨j', by omega, h2, fun Q q => ?_, fun Q q => ?_⟩
      · rw [p4_skipBlanks_L0, kg_sz C, kg_sp]
        refine kv_f nle (s5_get (kg_R C) (kg_sz C j) m60 hjm ?_)
        rw [e]
        refine kv_T b ?_
        rw [show nI j + 1 = nI (j + 1) from nI_1 _, kg_ss]
        exact q1 Q q
      · rw [p7_skip_L0, h18, kg_tp]
        refine kv_f nle (kg_here C hjm (kv_T b ?_))
        rw [show nI j + 1 = nI (j + 1) from nI_1 _, kg_tt]
        exact q2 Q q
    · refine ⟨j, Nat.le_refl _, by omega, fun Q q => ?_, fun Q q => ?_⟩
      · rw [p4_skipBlanks_L0, kg_sz C, kg_sp]
        refine kv_f nle (s5_get (kg_R C) (kg_sz C j) m60 hjm ?_)
        rw [e]
        exact kv_F b q
      · rw [p7_skip_L0, h18, kg_tp]
        exact kv_f nle (kg_here C hjm (kv_F b q))
theorem kg_fi {x : Int32} {lo hi : Nat} (hh : hi < 10) : (∃ v, lo ≤ v ∧ v ≤ hi ∧ x = nI (48 + v) ∧ x - 48 = nI v) ∨ (¬ ((48 + lo : Nat) : Int) ≤ x.toInt ∨ ¬ x.toInt ≤ ((48 + hi : Nat) : Int)) := by
  by_cases h : ((48 + lo : Nat) : Int) ≤ x.toInt ∧ x.toInt ≤ ((48 + hi : Nat) : Int)
  · rcases kv_arg x 100 with ⟨k, hk, rfl⟩ | hx
    · rw [kv_n (by omega)] at h
      refine Or.inl ⟨k - 48, by omega, by omega, by congr 1; omega, ?_⟩
      exact kv_sub (a := k) (b := 48) (by omega)
    · omega
  · exact Or.inr (by omega)
theorem kg_sub {x : Int32} {lo hi : Nat} (hl : lo ≤ hi) (hh : hi < 10) (h : ¬ ((48 + lo : Nat) : Int) ≤ x.toInt ∨ ¬ x.toInt ≤ ((48 + hi : Nat) : Int)) : x - 48 < nI lo ∨ ¬ x - 48 ≤ nI hi := by
  have a := Int32.le_toInt x
  have b := Int32.toInt_lt x
  have e : (x - 48).toInt = (x.toInt - 48).bmod (2 ^ 32) := Int32.toInt_sub x 48
  rw [kv_lt, kv_le, kv_n (by omega), kv_n (by omega), e, Int.bmod_def]
  split <;> omega
theorem kg_48 {a : Nat} (h : a < 10) : ((48 : Int32) + nI a).toInt64.toInt = ((48 + a : Nat) : Int) := by
  rw [kv_l, show (48 : Int32) + nI a = nI (48 + a) from kv_add 48 a, kv_n (by omega)]
/-- a figure: read by both, or by neither -/
theorem kg_fig (C : kg_C s t r m) {j lo hi : Nat} (hj : j ≤ m) (hl : lo ≤ hi) (hh : hi < 10) : (∃ v, lo ≤ v ∧ v ≤ hi ∧ j < m ∧ (∀ Q : kx_St → Int32 → Prop, Q (kg_s s (j + 1)) (nI v) → p4_readFigure (kg_s s j) 9 (66 + r) (nI lo) (nI hi) Q) ∧ ∀ Q : kx_St → Int32 → Prop, Q (kg_t t (j + 1)) (nI v) → p7_figure (kg_t t j) (nI lo) (nI hi) Q) ∨ ((∀ Q : kx_St → Int32 → Prop, Q (kg_s s j) (-1) → p4_readFigure (kg_s s j) 9 (66 + r) (nI lo) (nI hi) Q) ∧ ∀ Q : kx_St → Int32 → Prop, Q (kg_t t j) (-9) → p7_figure (kg_t t j) (nI lo) (nI hi) Q) := by
  have m60 := C.2.1
  have r4 := C.1
  have h18 : (kg_t t j).1 0 18 = nI m := (kg_t0 t j (by decide)).trans C.2.2.2.2.2
  by_cases hjm : j < m
  · have ne : ¬ nI j = nI m := fun e => by have := (kv_inj (by omega) (by omega)).mp e; omega
    rcases kg_fi (x := s.1 (76 + r) j) (lo := lo) hh with ⟨v, v1, v2, xe, xs⟩ | no
    · refine Or.inl ⟨v, v1, v2, hjm, fun Q q => ?_, fun Q q => ?_⟩
      · refine ⟨rfl, (kg_R C).1, kg_sign C hj (fun _ => ?_) (fun z => by omega)⟩
        rw [xs, kg_sp, show nI j + 1 = nI (j + 1) from nI_1 _, kg_ss]
        exact kv_f (by rw [kv_ltN (by omega) (by omega)]; omega) (kv_t (by rw [kv_leN (by omega) (by omega)]; exact v2) q)
      · unfold p7_figure
        rw [h18, kg_tp]
        refine kv_f ne (kg_here C hjm (s7_in (fun _ => kv_F (by decide) ?_) (fun z => ?_)))
        · rw [show nI j + 1 = nI (j + 1) from nI_1 _, kg_tt]
          show vp_in ((kg_t t (j + 1)).1 0 16 + (kg_t t (j + 1)).1 0 17 - 1) 240 ∧ Q (kg_t t (j + 1)) ((kg_t t (j + 1)).1 9 ((kg_t t (j + 1)).1 0 16 + (kg_t t (j + 1)).1 0 17 - 1).toNatClampNeg - 48)
          rw [kg_ad C, show 60 * r + (j + 1) = 60 * r + j + 1 from rfl, kv_p1, kv_c (by omega), kg_ta t (j + 1) (by decide), C.2.2.2.1 j hjm, xs]
          exact ⟨kv_in (by omega) (by decide), q⟩
        · rw [kg_48 (by omega), kg_48 (by omega), kv_l, xe, kv_n (by omega)] at z
          omega
    · refine Or.inr ⟨fun Q q => ?_, fun Q q => ?_⟩
      · refine ⟨rfl, (kg_R C).1, kg_sign C hj (fun _ => ?_) (fun z => by omega)⟩
        rcases kg_sub hl hh no with z | z
        · exact kv_t z q
        · exact ⟨fun _ => q, fun _ => kv_f z q⟩
      · unfold p7_figure
        rw [h18, kg_tp]
        refine kv_f ne (kg_here C hjm (s7_in (fun z => ?_) (fun _ => kv_T rfl q)))
        rw [kg_48 (by omega), kg_48 (by omega), kv_l] at z
        omega
  · obtain rfl : j = m := by omega
    refine Or.inr ⟨fun Q q => ?_, fun Q q => ?_⟩
    · refine ⟨rfl, (kg_R C).1, kg_sign C hj (fun z => by omega) (fun _ => kv_t ?_ q)⟩
      rw [kv_lt, kv_n (by omega)]
      show (-1048 : Int) < _
      omega
    · unfold p7_figure
      rw [h18, kg_tp]
      exact kv_t rfl q
end
