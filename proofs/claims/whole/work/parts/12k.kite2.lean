section
variable {σ τ : kx_St} {n : Nat} {kd wd hv w : Nat → Nat} {wt dc : Nat} {H : Nat → Nat → Nat}
theorem th_pays (σ τ : kx_St) (h : kr_R σ τ) : lt_pays kr_R σ τ := by
  obtain ⟨n, kd, wd, hv, w, wt, dc, H, N, K⟩ := h.2.2.2.2.1
  intro a0 a1
  unfold p6_pays p7_pays
  rcases kv_arg a0 n with ⟨i, hi, rfl⟩ | ho
  · have KK := kn_K N hi
    rcases kv_arg a1 10 with ⟨x, hx, rfl⟩ | hx
    · by_cases hl : 4 * hv i < ku_lift (kd i) (wd i) (H dc (3 + i)) x
      · exact ⟨_, s3_kite_in N hi (kv_some ⟨KK.1, s6_isWind_in hx (kv_F (by decide) (s1_isLiftedIn KK hx (fun _ => kv_f (by decide) ⟨rfl, s7_kite_in N hi (kv_f (by decide) (s7_rng_in (N := 9) rfl hx (by decide) (kv_F (by decide) (s7_isLifted rfl (kn_M N hi) hx (fun _ => kv_f (by decide) ⟨rfl, h⟩) (fun q => absurd hl q)))))⟩) (fun q => absurd hl q)))⟩)⟩
      · refine ⟨nI (ku_lift (kd i) (wd i) (H dc (3 + i)) x), s3_kite_in N hi (kv_some ⟨KK.1, s6_isWind_in hx (kv_F (by decide) (s1_isLiftedIn KK hx (fun q => absurd q hl) (fun _ => kv_t rfl (s1_payIn KK hx ⟨?_, s7_kite_in N hi (kv_f (by decide) (s7_rng_in (N := 9) rfl hx (by decide) (kv_F (by decide) (s7_isLifted rfl (kn_M N hi) hx (fun q => absurd q hl) (fun _ => kv_t rfl (s7_liftsIn rfl (kn_M N hi) hx ⟨rfl, h⟩))))))⟩))))⟩)⟩
        unfold ku_pay
        rw [if_neg hl]
    · exact ⟨_, s3_kite_in N hi (kv_some ⟨KK.1, s6_isWind_out hx (kv_T rfl ⟨rfl, s7_kite_in N hi (kv_f (by decide) (s7_rng_out (N := 9) rfl hx (kv_T rfl ⟨rfl, h⟩)))⟩)⟩)⟩
  · exact ⟨_, s3_kite_out N ho (kv_none ⟨rfl, s7_kite_out N ho (kv_t rfl ⟨rfl, h⟩)⟩)⟩
/-- what is told of KITE i -/
def kn_told (kd wd hv w v : Nat → Nat) (i m : Nat) : Int32 := if m = 0 then nI (kd i) else if m = 1 then nI (wd i) else if m = 2 then nI (hv i) else if m = 3 then nI (v (3 + i)) else if m = 4 then nI (ku_lift (kd i) (wd i) (v (3 + i)) (w ((v 0 + 0) % 4))) else if m = 5 then nI (ku_pay (kd i) (wd i) (hv i) (v (3 + i)) (w ((v 0 + 0) % 4))) else if (v 1).testBit i = true then nI (v (9 + i)) else -9
theorem s6_ofKite (N : kr_now σ τ n kd wd hv w wt dc H) {i m : Nat} {Q : Int32 → Prop} (hi : i < n) (hm : m < 7) (q : Q (kn_told kd wd hv w (H dc) i m)) : p6_ofKite σ (30 + i) (nI m) Q := by
  have K := kn_K N hi
  have K' := K
  obtain ⟨k1, e0, e1, e2, e3, _⟩ := K'
  unfold p6_ofKite
  refine ⟨k1, kn_cwind N (a := 0) (by decide) ?_⟩
  rw [e0, e1, e2, e3, kn_paid N hi]
  rcases (show m = 0 ∨ m = 1 ∨ m = 2 ∨ m = 3 ∨ m = 4 ∨ m = 5 ∨ m = 6 by omega) with rfl | rfl | rfl | rfl | rfl | rfl | rfl
  · exact kv_t (by decide) q
  · exact kv_f (by decide) (kv_t (by decide) q)
  · exact kv_f (by decide) (kv_f (by decide) (kv_t (by decide) q))
  · exact kv_f (by decide) (kv_f (by decide) (kv_f (by decide) (kv_t (by decide) q)))
  · exact kv_f (by decide) (kv_f (by decide) (kv_f (by decide) (kv_f (by decide) (kv_t (by decide) (s1_liftIn K (kn_wm N _) q)))))
  · exact kv_f (by decide) (kv_f (by decide) (kv_f (by decide) (kv_f (by decide) (kv_f (by decide) (kv_t (by decide) (s1_payIn K (kn_wm N _) q))))))
  · exact kv_f (by decide) (kv_f (by decide) (kv_f (by decide) (kv_f (by decide) (kv_f (by decide) (kv_f (by decide) q)))))
theorem s7_toldOf (N : kr_now σ τ n kd wd hv w wt dc H) {i m : Nat} {Q : Int32 → Prop} (hi : i < n) (hm : m < 7) (q : Q (kn_told kd wd hv w (H dc) i m)) : p7_toldOf τ (nI i) (nI m) Q := by
  have M := kn_M N hi
  have M' := M
  obtain ⟨i6, _, e0, e1, e2, e3, _⟩ := M'
  have n6 := kn_n6 N
  have eh0 : τ.1 1 1 = nI (H dc 0) := kn_mh N
  have eh : τ.1 1 (1 : Int32).toNatClampNeg = nI (H dc 0 + 0) := eh0
  have V := kn_v N
  have f1 : τ.1 1 (2 : Int32).toNatClampNeg = nI (H dc 1) := kn_mk N (k := 1) (by decide)
  have fp : τ.1 1 (10 + i) = nI (H dc (9 + i)) := by
    have := kn_mk N (k := 9 + i) (by omega)
    rwa [show 1 + (9 + i) = 10 + i by omega] at this
  unfold p7_toldOf
  rw [eh]
  refine kn_mwind N rfl (by decide) ?_
  rw [show (4 : Int32) + nI i = nI (4 + i) from kv_add 4 i, show (10 : Int32) + nI i = nI (10 + i) from kv_add 10 i, kv_c (show i < 2147483648 by omega), kv_c (show 4 + i < 2147483648 by omega), kv_c (show 10 + i < 2147483648 by omega), e0, e1, e2, kn_Mc N hi, f1, fp]
  rcases (show m = 0 ∨ m = 1 ∨ m = 2 ∨ m = 3 ∨ m = 4 ∨ m = 5 ∨ m = 6 by omega) with rfl | rfl | rfl | rfl | rfl | rfl | rfl
  · exact kv_t (by decide) ⟨kv_in i6 (by decide), q⟩
  · exact kv_f (by decide) (kv_t (by decide) ⟨kv_in i6 (by decide), q⟩)
  · exact kv_f (by decide) (kv_f (by decide) (kv_t (by decide) ⟨kv_in i6 (by decide), q⟩))
  · exact kv_f (by decide) (kv_f (by decide) (kv_f (by decide) (kv_t (by decide) ⟨kv_in (by omega) (by decide), q⟩)))
  · exact kv_f (by decide) (kv_f (by decide) (kv_f (by decide) (kv_f (by decide) (kv_t (by decide) (s7_liftsIn rfl M (kn_wm N _) q)))))
  · exact kv_f (by decide) (kv_f (by decide) (kv_f (by decide) (kv_f (by decide) (kv_f (by decide) (kv_t (by decide) (s7_paysIn rfl M (kn_wm N _) q))))))
  · refine kv_f (by decide) (kv_f (by decide) (kv_f (by decide) (kv_f (by decide) (kv_f (by decide) (kv_f (by decide) (s7_has rfl (kp_f64 V n6).1 i6 (fun c => kv_f (by decide) ⟨kv_in (by omega) (by decide), ?_⟩) (fun c => kv_t rfl ?_)))))))
    · have q : Q (if (H dc 1).testBit i = true then nI (H dc (9 + i)) else -9) := q
      rwa [if_pos c] at q
    · have q : Q (if (H dc 1).testBit i = true then nI (H dc (9 + i)) else -9) := q
      rwa [if_neg (by rw [c]; decide)] at q
theorem th_kite (σ τ : kx_St) (h : kr_R σ τ) : lt_kite kr_R σ τ := by
  obtain ⟨n, kd, wd, hv, w, wt, dc, H, N, K⟩ := h.2.2.2.2.1
  intro a0 a1
  unfold p6_kite p7_kite
  rcases kv_arg a0 n with ⟨i, hi, rfl⟩ | ho
  · have KK := kn_K N hi
    rcases kv_arg a1 7 with ⟨x, hx, rfl⟩ | hx
    · exact ⟨_, s3_kite_in N hi (kv_some ⟨KK.1, kv_f (kv_ge (by omega)) (kv_t (show nI x < nI 7 by rw [kv_ltN (by omega) (by omega)]; exact hx) (s6_ofKite N hi hx ⟨rfl, s7_kite_in N hi (kv_f (by decide) (s7_rng_in (N := 6) rfl hx (by decide) (kv_f (by decide) (s7_toldOf N hi hx (s7_tell ⟨rfl, kr_tell h _⟩)))))⟩))⟩)⟩
    · have m : p7_isKite τ (nI i) (fun r1 => (r1 = 0 → (-1 : Int32) = -1 ∧ kr_R σ τ) ∧ (¬ r1 = 0 → p7_in (a1.toInt64) 0 6 (fun r3 => (r3 = 0 → (-1 : Int32) = -1 ∧ kr_R σ τ) ∧ (¬ r3 = 0 → p7_toldOf τ (nI i) a1 (fun r5 => p7_tell τ r5 (fun σ7 r6 => r6 = -1 ∧ kr_R σ σ7)))))) := s7_kite_in N hi (kv_f (by decide) (s7_rng_out (N := 6) rfl hx (kv_t rfl ⟨rfl, h⟩)))
      by_cases hx0 : a1.toInt < 0
      · exact ⟨-1, s3_kite_in N hi (kv_some ⟨KK.1, kv_t (kv_lt.mpr hx0) ⟨rfl, m⟩⟩)⟩
      · refine ⟨-1, s3_kite_in N hi (kv_some ⟨KK.1, kv_f (fun q => hx0 (kv_lt.mp q)) (kv_f ?_ ⟨rfl, m⟩)⟩)⟩
        rw [kv_lt]
        show ¬ _ < (7 : Int)
        omega
  · exact ⟨_, s3_kite_out N ho (kv_none ⟨rfl, s7_kite_out N ho (kv_t rfl ⟨rfl, h⟩)⟩)⟩
/-! crossings -/
def ku_cr (a b : Nat) : Nat := if a = 0 then a + b else if b = 0 then a + b else a + b + 3
theorem kv_le0 {a : Nat} (h : a < 2147483648) : nI a ≤ 0 ↔ a = 0 := by
  rw [show (0 : Int32) = nI 0 from rfl, kv_leN h (by decide)]; omega
theorem ku_cr_br {a b : Nat} {Q : Int32 → Prop} (ha : a < 100) (hb : b < 100) (q : Q (nI (ku_cr a b))) : (nI a ≤ 0 → Q (nI a + nI b)) ∧ (¬ nI a ≤ 0 → (nI b ≤ 0 → Q (nI a + nI b)) ∧ (¬ nI b ≤ 0 → Q ((nI a + nI b) + 3))) := by
  unfold ku_cr at q
  rw [kv_le0 (by omega), kv_le0 (by omega), show (3 : Int32) = nI 3 from rfl, kv_add, kv_add]
  refine ⟨fun c => ?_, fun c => ⟨fun d => ?_, fun d => ?_⟩⟩
  · rwa [if_pos c] at q
  · rwa [if_neg c, if_pos d] at q
  · rwa [if_neg c, if_neg d] at q
def kn_L (kd wd v : Nat → Nat) (i x : Nat) : Nat := ku_lift (kd i) (wd i) (v (3 + i)) x
theorem kn_L_le (N : kr_now σ τ n kd wd hv w wt dc H) {i x : Nat} (hi : i < n) (hx : x < 10) : kn_L kd wd (H dc) i x ≤ 51 := by
  obtain ⟨_, _, _, _, _, k5, w9, _, t3⟩ := kn_K N hi
  exact ku_lift_le _ k5 _ w9 _ t3 _ hx
theorem s3_liftOf (N : kr_now σ τ n kd wd hv w wt dc H) {i x : Nat} {Q : Int32 → Prop} (hi : i < n) (hx : x < 10) (q : Q (nI (kn_L kd wd (H dc) i x))) : p3_liftOf σ 4 (nI i) (nI x) Q := by
  unfold p3_liftOf
  exact ⟨(ky_par 0 (by decide)).1, s3_kite_in N hi (kv_some ⟨(kn_K N hi).1, s1_liftIn (kn_K N hi) hx q⟩)⟩
theorem s3_crossLift (N : kr_now σ τ n kd wd hv w wt dc H) {i j x : Nat} {Q : Int32 → Prop} (hi : i < n) (hj : j < n) (hx : x < 10) (q : Q (nI (ku_cr (kn_L kd wd (H dc) i x) (kn_L kd wd (H dc) j x)))) : p3_crossLift σ 4 (nI i) (nI j) (nI x) Q := by
  have a := kn_L_le N hi hx
  have b := kn_L_le N hj hx
  unfold p3_crossLift
  exact ⟨(ky_par 0 (by decide)).1, s3_liftOf N hi hx (s3_liftOf N hj hx (ku_cr_br (by omega) (by omega) q))⟩
theorem s7_crossedIn (N : kr_now σ τ n kd wd hv w wt dc H) {i j x : Nat} {Q : Int32 → Prop} (hi : i < n) (hj : j < n) (hx : x < 10) (q : Q (nI (ku_cr (kn_L kd wd (H dc) i x) (kn_L kd wd (H dc) j x)))) : p7_crossedIn τ (nI i) (nI j) (nI x) Q := by
  have a := kn_L_le N hi hx
  have b := kn_L_le N hj hx
  unfold p7_crossedIn
  exact s7_liftsIn rfl (kn_M N hi) hx (s7_liftsIn rfl (kn_M N hj) hx (ku_cr_br (by unfold kn_L at a; omega) (by unfold kn_L at b; omega) q))
theorem th_cross (σ τ : kx_St) (h : kr_R σ τ) : lt_cross kr_R σ τ := by
  obtain ⟨n, kd, wd, hv, w, wt, dc, H, N, K⟩ := h.2.2.2.2.1
  intro a0 a1 a2
  unfold p6_cross p7_cross
  rcases kv_arg a0 n with ⟨i, hi, rfl⟩ | ho
  · rcases kv_arg a1 n with ⟨j, hj, rfl⟩ | ho
    · by_cases e : nI i = nI j
      · exact ⟨-1, s3_kite_in N hi (kv_some ⟨(kn_K N hi).1, s3_kite_in N hj (kv_some ⟨(kn_K N hj).1, kv_t e ⟨rfl, s7_kite_in N hi (kv_f (by decide) (s7_kite_in N hj (kv_f (by decide) (kv_t e ⟨rfl, h⟩))))⟩⟩)⟩)⟩
      · rcases kv_arg a2 10 with ⟨x, hx, rfl⟩ | hx
        · exact ⟨_, s3_kite_in N hi (kv_some ⟨(kn_K N hi).1, s3_kite_in N hj (kv_some ⟨(kn_K N hj).1, kv_f e (s6_isWind_in hx (kv_F (by decide) (s3_crossLift N hi hj hx ⟨rfl, s7_kite_in N hi (kv_f (by decide) (s7_kite_in N hj (kv_f (by decide) (kv_f e (s7_rng_in (N := 9) rfl hx (by decide) (kv_f (by decide) (s7_crossedIn N hi hj hx ⟨rfl, h⟩)))))))⟩)))⟩)⟩)⟩
        · exact ⟨-1, s3_kite_in N hi (kv_some ⟨(kn_K N hi).1, s3_kite_in N hj (kv_some ⟨(kn_K N hj).1, kv_f e (s6_isWind_out hx (kv_T rfl ⟨rfl, s7_kite_in N hi (kv_f (by decide) (s7_kite_in N hj (kv_f (by decide) (kv_f e (s7_rng_out (N := 9) rfl hx (kv_t rfl ⟨rfl, h⟩))))))⟩))⟩)⟩)⟩
    · exact ⟨-1, s3_kite_in N hi (kv_some ⟨(kn_K N hi).1, s3_kite_out N ho (kv_none ⟨rfl, s7_kite_in N hi (kv_f (by decide) (s7_kite_out N ho (kv_t rfl ⟨rfl, h⟩)))⟩)⟩)⟩
  · exact ⟨-1, s3_kite_out N ho (kv_none ⟨rfl, s7_kite_out N ho (kv_t rfl ⟨rfl, h⟩)⟩)⟩
end
