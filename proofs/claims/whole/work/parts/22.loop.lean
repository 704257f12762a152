section
variable {p : Program} {l : Launch} {e : Env} {s : State} {m : MethodId} {below : List Frame} {meth : Method} {c : Code} {K S : Nat} {D : va_G} {cy : Nat → ClassId} {ad ae : Nat → Nat} {A B : Nat → Prop} {b L : Nat} {xs : Nat → Int32} {P : kx_St → kx_St → Prop}
set_option maxHeartbeats 8000000 in
theorem law_loop (cx : kx_Cx p s m #[Value.ref b] meth c D cy RL code 4 ret) (h_row : ∀ σ τ, P σ τ → lt_row P σ τ) (h_lay : ∀ σ τ, P σ τ → lt_lay P σ τ) (h_at : ∀ σ τ, P σ τ → lt_at P σ τ) (h_tear : ∀ σ τ, P σ τ → lt_tear P σ τ) (h_copy : ∀ σ τ, P σ τ → lt_copy P σ τ) (h_mean : ∀ σ τ, P σ τ → lt_mean P σ τ) (h_text : ∀ σ τ, P σ τ → lt_text P σ τ) (h_put : ∀ σ τ, P σ τ → lt_put P σ τ) (h_fault : ∀ σ τ, P σ τ → lt_fault P σ τ) (h_parish : ∀ σ τ, P σ τ → lt_parish P σ τ) (h_kite : ∀ σ τ, P σ τ → lt_kite P σ τ) (h_mark : ∀ σ τ, P σ τ → lt_mark P σ τ) (h_lifts : ∀ σ τ, P σ τ → lt_lifts P σ τ) (h_pays : ∀ σ τ, P σ τ → lt_pays P σ τ) (h_fly : ∀ σ τ, P σ τ → lt_fly P σ τ) (h_rest : ∀ σ τ, P σ τ → lt_rest P σ τ) (h_tie : ∀ σ τ, P σ τ → lt_tie P σ τ) (h_cut : ∀ σ τ, P σ τ → lt_cut P σ τ) (h_undo : ∀ σ τ, P σ τ → lt_undo P σ τ) (h_keep : ∀ σ τ, P σ τ → lt_keep P σ τ) (h_on : ∀ σ τ, P σ τ → lt_on P σ τ) (h_most : ∀ σ τ, P σ τ → lt_most P σ τ) (h_school : ∀ σ τ, P σ τ → lt_school P σ τ) (h_flown : ∀ σ τ, P σ τ → lt_flown P σ τ) (h_when : ∀ σ τ, P σ τ → lt_when P σ τ) (h_cross : ∀ σ τ, P σ τ → lt_cross P σ τ) (h_crossed : ∀ σ τ, P σ τ → lt_crossed P σ τ) (h_merge : ∀ σ τ, P σ τ → lt_merge P σ τ) (h_tails : ∀ σ τ, P σ τ → lt_tails P σ τ) (h_kinds : ∀ σ τ, P σ τ → lt_kinds P σ τ) (h_test : ∀ σ τ, P σ τ → lt_test P σ τ) (h_duel : ∀ σ τ, P σ τ → lt_duel P σ τ) (h_odds : ∀ σ τ, P σ τ → lt_odds P σ τ) (h_mid : ∀ σ τ, P σ τ → lt_mid P σ τ) (h_lots : ∀ σ τ, P σ τ → lt_lots P σ τ) (h_asked : ∀ σ τ, P σ τ → lt_asked P σ τ) (h_upper : ∀ σ τ, P σ τ → lt_upper P σ τ) (h_lower : ∀ σ τ, P σ τ → lt_lower P σ τ) (h_count : ∀ σ τ, P σ τ → lt_count P σ τ) (h_finding : ∀ σ τ, P σ τ → lt_finding P σ τ) (h_findings : ∀ σ τ, P σ τ → lt_findings P σ τ) (h_digest : ∀ σ τ, P σ τ → lt_digest P σ τ) (hL : L ≤ 3072) (hc : K ≤ 600000 ∧ S ≤ 7302250) : ∀ (n j : Nat) (σ τ : kx_St) (H : Heap) (ls : Array Slot), j ≤ L → L - j < n → P σ τ → lw_W D cy ad ae A B b L xs s σ τ H → lv_has ls 4 [(0, .ref b), (1, .ref (ad 0)), (2, .ref (ae 0)), (3, .int (nI j))] → W p l e room_1 s m #[Value.ref b] below meth c H [] K S (lw_Z below #[Value.ref b] s) (F0 m 18 ls []) := by
  obtain ⟨hx, hb, hr, hlocks, hml, hown, hts, hK⟩ := id cx
  intro n
  induction n with
  | zero => intro j σ τ H ls h1 h2; omega
  | succ n ih =>
    intro j σ τ H ls hj hn hP hW hl
    refine lv_iload_n (pc := 18) hx hb dL_law_18 rfl (lv_at hl 3 rfl) ?_
    refine lv_aload_n (pc := 19) hx hb dL_law_19 rfl (lv_at hl 0 rfl) ?_
    refine lw_slen (pc := 20) (locs := []) hx hb hW dL_law_20 ?_
    refine lv_bipush (pc := 21) (v := (6 : Int32)) hx hb dL_law_21 (by decide) ?_
    refine lv_isub (pc := 23) hx hb dL_law_23 ?_
    have e6 : (Int32.ofNat L - (6 : Int32)).toInt = (L : Int) - 6 := pk_sub_toInt (a := L) (b := 6) (by omega) (by omega)
    have ej : (nI j).toInt = (j : Int) := nI_toInt (by omega)
    refine lv_icmp_gt (pc := 24) (tgt := 1371) hx hb dL_law_24 (by decide) (fun c1 => ?_) (fun c1 => ?_)
    · refine lv_iconst (pc := 1371) (v := (1 : Int32)) hx hb dL_law_1371 (by decide) ?_
      refine W.widen (k := 600000) (n := 7302250) hc.1 hc.2 ?_
      exact lw_ret hx hb hr hlocks dL_law_1372
    · have hj6 : j + 6 ≤ L := by
        rw [Int32.lt_iff_toInt_lt, e6, ej] at c1
        omega
      have hih : ∀ (σ τ : kx_St) (H : Heap) (ls : Array Slot), P σ τ → lw_W D cy ad ae A B b L xs s σ τ H → lv_has ls 4 [(0, .ref b), (1, .ref (ad 0)), (2, .ref (ae 0)), (3, .int (nI j + (6 : Int32)))] → W p l e room_1 s m #[Value.ref b] below meth c H [] K S (lw_Z below #[Value.ref b] s) (F0 m 18 ls []) := by
        intro σ τ H ls q1 q2 q3
        have q4 : nI j + (6 : Int32) = nI (j + 6) := nI_add j 6
        rw [q4] at q3
        exact ih (j + 6) σ τ H ls hj6 (by omega) q1 q2 q3
      clear ih e6 ej c1
      refine lv_aload_n (pc := 27) hx hb dL_law_27 rfl (lv_at hl 0 rfl) ?_
      refine lv_iload_n (pc := 28) hx hb dL_law_28 rfl (lv_at hl 3 rfl) ?_
      refine lw_sld (pc := 29) (locs := []) hx hb hW (lw_in0 hj6 hL) dL_law_29 ?_
      refine lv_bipush (pc := 30) (v := (63 : Int32)) hx hb dL_law_30 (by decide) ?_
      refine lv_iand (pc := 32) hx hb dL_law_32 ?_
      generalize xs (nI j).toNatClampNeg &&& (63 : Int32) = k
      by_cases c0 : k = (0 : Int32)
      · refine lv_tableIn (pc := 33) (tgt := 216) hx hb dL_law_33 (by rw [c0]; decide) (by rw [c0]; decide) (off := 183) (by rw [c0]; rfl) (by decide) ?_
        exact la_row cx (h_row σ τ hP) hj6 hL hc hih hW hl
      by_cases c1 : k = (1 : Int32)
      · refine lv_tableIn (pc := 33) (tgt := 249) hx hb dL_law_33 (by rw [c1]; decide) (by rw [c1]; decide) (off := 216) (by rw [c1]; rfl) (by decide) ?_
        exact la_lay cx (h_lay σ τ hP) hj6 hL hc hih hW hl
      by_cases c2 : k = (2 : Int32)
      · refine lv_tableIn (pc := 33) (tgt := 292) hx hb dL_law_33 (by rw [c2]; decide) (by rw [c2]; decide) (off := 259) (by rw [c2]; rfl) (by decide) ?_
        exact la_at cx (h_at σ τ hP) hj6 hL hc hih hW hl
      by_cases c3 : k = (3 : Int32)
      · refine lv_tableIn (pc := 33) (tgt := 325) hx hb dL_law_33 (by rw [c3]; decide) (by rw [c3]; decide) (off := 292) (by rw [c3]; rfl) (by decide) ?_
        exact la_tear cx (h_tear σ τ hP) hj6 hL hc hih hW hl
      by_cases c4 : k = (4 : Int32)
      · refine lv_tableIn (pc := 33) (tgt := 348) hx hb dL_law_33 (by rw [c4]; decide) (by rw [c4]; decide) (off := 315) (by rw [c4]; rfl) (by decide) ?_
        exact la_copy cx (h_copy σ τ hP) hj6 hL hc hih hW hl
      by_cases c5 : k = (5 : Int32)
      · refine lv_tableIn (pc := 33) (tgt := 411) hx hb dL_law_33 (by rw [c5]; decide) (by rw [c5]; decide) (off := 378) (by rw [c5]; rfl) (by decide) ?_
        exact la_mean cx (h_mean σ τ hP) hj6 hL hc hih hW hl
      by_cases c6 : k = (6 : Int32)
      · refine lv_tableIn (pc := 33) (tgt := 434) hx hb dL_law_33 (by rw [c6]; decide) (by rw [c6]; decide) (off := 401) (by rw [c6]; rfl) (by decide) ?_
        exact la_text cx (h_text σ τ hP) hj6 hL hc hih hW hl
      by_cases c7 : k = (7 : Int32)
      · refine lv_tableIn (pc := 33) (tgt := 467) hx hb dL_law_33 (by rw [c7]; decide) (by rw [c7]; decide) (off := 434) (by rw [c7]; rfl) (by decide) ?_
        exact la_put cx (h_put σ τ hP) hj6 hL hc hih hW hl
      by_cases c8 : k = (8 : Int32)
      · refine lv_tableIn (pc := 33) (tgt := 510) hx hb dL_law_33 (by rw [c8]; decide) (by rw [c8]; decide) (off := 477) (by rw [c8]; rfl) (by decide) ?_
        exact la_fault cx (h_fault σ τ hP) hj6 hL hc hih hW hl
      by_cases c9 : k = (9 : Int32)
      · refine lv_tableIn (pc := 33) (tgt := 533) hx hb dL_law_33 (by rw [c9]; decide) (by rw [c9]; decide) (off := 500) (by rw [c9]; rfl) (by decide) ?_
        exact la_parish cx (h_parish σ τ hP) hj6 hL hc hih hW hl
      by_cases c10 : k = (10 : Int32)
      · refine lv_tableIn (pc := 33) (tgt := 556) hx hb dL_law_33 (by rw [c10]; decide) (by rw [c10]; decide) (off := 523) (by rw [c10]; rfl) (by decide) ?_
        exact la_kite cx (h_kite σ τ hP) hj6 hL hc hih hW hl
      by_cases c11 : k = (11 : Int32)
      · refine lv_tableIn (pc := 33) (tgt := 589) hx hb dL_law_33 (by rw [c11]; decide) (by rw [c11]; decide) (off := 556) (by rw [c11]; rfl) (by decide) ?_
        exact la_mark cx (h_mark σ τ hP) hj6 hL hc hih hW hl
      by_cases c12 : k = (12 : Int32)
      · refine lv_tableIn (pc := 33) (tgt := 622) hx hb dL_law_33 (by rw [c12]; decide) (by rw [c12]; decide) (off := 589) (by rw [c12]; rfl) (by decide) ?_
        exact la_lifts cx (h_lifts σ τ hP) hj6 hL hc hih hW hl
      by_cases c13 : k = (13 : Int32)
      · refine lv_tableIn (pc := 33) (tgt := 655) hx hb dL_law_33 (by rw [c13]; decide) (by rw [c13]; decide) (off := 622) (by rw [c13]; rfl) (by decide) ?_
        exact la_pays cx (h_pays σ τ hP) hj6 hL hc hih hW hl
      by_cases c14 : k = (14 : Int32)
      · refine lv_tableIn (pc := 33) (tgt := 688) hx hb dL_law_33 (by rw [c14]; decide) (by rw [c14]; decide) (off := 655) (by rw [c14]; rfl) (by decide) ?_
        exact la_fly cx (h_fly σ τ hP) hj6 hL hc hih hW hl
      by_cases c15 : k = (15 : Int32)
      · refine lv_tableIn (pc := 33) (tgt := 711) hx hb dL_law_33 (by rw [c15]; decide) (by rw [c15]; decide) (off := 678) (by rw [c15]; rfl) (by decide) ?_
        exact la_rest cx (h_rest σ τ hP) hj6 hL hc hih hW hl
      by_cases c16 : k = (16 : Int32)
      · refine lv_tableIn (pc := 33) (tgt := 724) hx hb dL_law_33 (by rw [c16]; decide) (by rw [c16]; decide) (off := 691) (by rw [c16]; rfl) (by decide) ?_
        exact la_tie cx (h_tie σ τ hP) hj6 hL hc hih hW hl
      by_cases c17 : k = (17 : Int32)
      · refine lv_tableIn (pc := 33) (tgt := 747) hx hb dL_law_33 (by rw [c17]; decide) (by rw [c17]; decide) (off := 714) (by rw [c17]; rfl) (by decide) ?_
        exact la_cut cx (h_cut σ τ hP) hj6 hL hc hih hW hl
      by_cases c18 : k = (18 : Int32)
      · refine lv_tableIn (pc := 33) (tgt := 770) hx hb dL_law_33 (by rw [c18]; decide) (by rw [c18]; decide) (off := 737) (by rw [c18]; rfl) (by decide) ?_
        exact la_undo cx (h_undo σ τ hP) hj6 hL hc hih hW hl
      by_cases c19 : k = (19 : Int32)
      · refine lv_tableIn (pc := 33) (tgt := 793) hx hb dL_law_33 (by rw [c19]; decide) (by rw [c19]; decide) (off := 760) (by rw [c19]; rfl) (by decide) ?_
        exact la_keep cx (h_keep σ τ hP) hj6 hL hc hih hW hl
      by_cases c20 : k = (20 : Int32)
      · refine lv_tableIn (pc := 33) (tgt := 816) hx hb dL_law_33 (by rw [c20]; decide) (by rw [c20]; decide) (off := 783) (by rw [c20]; rfl) (by decide) ?_
        exact la_on cx (h_on σ τ hP) hj6 hL hc hih hW hl
      by_cases c21 : k = (21 : Int32)
      · refine lv_tableIn (pc := 33) (tgt := 839) hx hb dL_law_33 (by rw [c21]; decide) (by rw [c21]; decide) (off := 806) (by rw [c21]; rfl) (by decide) ?_
        exact la_most cx (h_most σ τ hP) hj6 hL hc hih hW hl
      by_cases c22 : k = (22 : Int32)
      · refine lv_tableIn (pc := 33) (tgt := 872) hx hb dL_law_33 (by rw [c22]; decide) (by rw [c22]; decide) (off := 839) (by rw [c22]; rfl) (by decide) ?_
        exact la_school cx (h_school σ τ hP) hj6 hL hc hih hW hl
      by_cases c23 : k = (23 : Int32)
      · refine lv_tableIn (pc := 33) (tgt := 895) hx hb dL_law_33 (by rw [c23]; decide) (by rw [c23]; decide) (off := 862) (by rw [c23]; rfl) (by decide) ?_
        exact la_flown cx (h_flown σ τ hP) hj6 hL hc hih hW hl
      by_cases c24 : k = (24 : Int32)
      · refine lv_tableIn (pc := 33) (tgt := 918) hx hb dL_law_33 (by rw [c24]; decide) (by rw [c24]; decide) (off := 885) (by rw [c24]; rfl) (by decide) ?_
        exact la_when cx (h_when σ τ hP) hj6 hL hc hih hW hl
      by_cases c25 : k = (25 : Int32)
      · refine lv_tableIn (pc := 33) (tgt := 941) hx hb dL_law_33 (by rw [c25]; decide) (by rw [c25]; decide) (off := 908) (by rw [c25]; rfl) (by decide) ?_
        exact la_cross cx (h_cross σ τ hP) hj6 hL hc hih hW hl
      by_cases c26 : k = (26 : Int32)
      · refine lv_tableIn (pc := 33) (tgt := 984) hx hb dL_law_33 (by rw [c26]; decide) (by rw [c26]; decide) (off := 951) (by rw [c26]; rfl) (by decide) ?_
        exact la_crossed cx (h_crossed σ τ hP) hj6 hL hc hih hW hl
      by_cases c27 : k = (27 : Int32)
      · refine lv_tableIn (pc := 33) (tgt := 1017) hx hb dL_law_33 (by rw [c27]; decide) (by rw [c27]; decide) (off := 984) (by rw [c27]; rfl) (by decide) ?_
        exact la_merge cx (h_merge σ τ hP) hj6 hL hc hih hW hl
      by_cases c28 : k = (28 : Int32)
      · refine lv_tableIn (pc := 33) (tgt := 1050) hx hb dL_law_33 (by rw [c28]; decide) (by rw [c28]; decide) (off := 1017) (by rw [c28]; rfl) (by decide) ?_
        exact la_tails cx (h_tails σ τ hP) hj6 hL hc hih hW hl
      by_cases c29 : k = (29 : Int32)
      · refine lv_tableIn (pc := 33) (tgt := 1083) hx hb dL_law_33 (by rw [c29]; decide) (by rw [c29]; decide) (off := 1050) (by rw [c29]; rfl) (by decide) ?_
        exact la_kinds cx (h_kinds σ τ hP) hj6 hL hc hih hW hl
      by_cases c30 : k = (30 : Int32)
      · refine lv_tableIn (pc := 33) (tgt := 1116) hx hb dL_law_33 (by rw [c30]; decide) (by rw [c30]; decide) (off := 1083) (by rw [c30]; rfl) (by decide) ?_
        exact la_test cx (h_test σ τ hP) hj6 hL hc hih hW hl
      by_cases c31 : k = (31 : Int32)
      · refine lv_tableIn (pc := 33) (tgt := 1149) hx hb dL_law_33 (by rw [c31]; decide) (by rw [c31]; decide) (off := 1116) (by rw [c31]; rfl) (by decide) ?_
        exact la_duel cx (h_duel σ τ hP) hj6 hL hc hih hW hl
      by_cases c32 : k = (32 : Int32)
      · refine lv_tableIn (pc := 33) (tgt := 1172) hx hb dL_law_33 (by rw [c32]; decide) (by rw [c32]; decide) (off := 1139) (by rw [c32]; rfl) (by decide) ?_
        exact la_odds cx (h_odds σ τ hP) hj6 hL hc hih hW hl
      by_cases c33 : k = (33 : Int32)
      · refine lv_tableIn (pc := 33) (tgt := 1195) hx hb dL_law_33 (by rw [c33]; decide) (by rw [c33]; decide) (off := 1162) (by rw [c33]; rfl) (by decide) ?_
        exact la_mid cx (h_mid σ τ hP) hj6 hL hc hih hW hl
      by_cases c34 : k = (34 : Int32)
      · refine lv_tableIn (pc := 33) (tgt := 1218) hx hb dL_law_33 (by rw [c34]; decide) (by rw [c34]; decide) (off := 1185) (by rw [c34]; rfl) (by decide) ?_
        exact la_lots cx (h_lots σ τ hP) hj6 hL hc hih hW hl
      by_cases c35 : k = (35 : Int32)
      · refine lv_tableIn (pc := 33) (tgt := 1251) hx hb dL_law_33 (by rw [c35]; decide) (by rw [c35]; decide) (off := 1218) (by rw [c35]; rfl) (by decide) ?_
        exact la_asked cx (h_asked σ τ hP) hj6 hL hc hih hW hl
      by_cases c36 : k = (36 : Int32)
      · refine lv_tableIn (pc := 33) (tgt := 1264) hx hb dL_law_33 (by rw [c36]; decide) (by rw [c36]; decide) (off := 1231) (by rw [c36]; rfl) (by decide) ?_
        exact la_upper cx (h_upper σ τ hP) hj6 hL hc hih hW hl
      by_cases c37 : k = (37 : Int32)
      · refine lv_tableIn (pc := 33) (tgt := 1278) hx hb dL_law_33 (by rw [c37]; decide) (by rw [c37]; decide) (off := 1245) (by rw [c37]; rfl) (by decide) ?_
        exact la_lower cx (h_lower σ τ hP) hj6 hL hc hih hW hl
      by_cases c38 : k = (38 : Int32)
      · refine lv_tableIn (pc := 33) (tgt := 1292) hx hb dL_law_33 (by rw [c38]; decide) (by rw [c38]; decide) (off := 1259) (by rw [c38]; rfl) (by decide) ?_
        exact la_count cx (h_count σ τ hP) hj6 hL hc hih hW hl
      by_cases c39 : k = (39 : Int32)
      · refine lv_tableIn (pc := 33) (tgt := 1315) hx hb dL_law_33 (by rw [c39]; decide) (by rw [c39]; decide) (off := 1282) (by rw [c39]; rfl) (by decide) ?_
        exact la_finding cx (h_finding σ τ hP) hj6 hL hc hih hW hl
      by_cases c40 : k = (40 : Int32)
      · refine lv_tableIn (pc := 33) (tgt := 1328) hx hb dL_law_33 (by rw [c40]; decide) (by rw [c40]; decide) (off := 1295) (by rw [c40]; rfl) (by decide) ?_
        exact la_findings cx (h_findings σ τ hP) hj6 hL hc hih hW hl
      by_cases c41 : k = (41 : Int32)
      · refine lv_tableIn (pc := 33) (tgt := 1351) hx hb dL_law_33 (by rw [c41]; decide) (by rw [c41]; decide) (off := 1318) (by rw [c41]; rfl) (by decide) ?_
        exact la_digest cx (h_digest σ τ hP) hj6 hL hc hih hW hl
      have t0 : k.toInt ≠ 0 := fun q => c0 (Int32.toInt_inj.mp (q.trans (by decide)))
      have t1 : k.toInt ≠ 1 := fun q => c1 (Int32.toInt_inj.mp (q.trans (by decide)))
      have t2 : k.toInt ≠ 2 := fun q => c2 (Int32.toInt_inj.mp (q.trans (by decide)))
      have t3 : k.toInt ≠ 3 := fun q => c3 (Int32.toInt_inj.mp (q.trans (by decide)))
      have t4 : k.toInt ≠ 4 := fun q => c4 (Int32.toInt_inj.mp (q.trans (by decide)))
      have t5 : k.toInt ≠ 5 := fun q => c5 (Int32.toInt_inj.mp (q.trans (by decide)))
      have t6 : k.toInt ≠ 6 := fun q => c6 (Int32.toInt_inj.mp (q.trans (by decide)))
      have t7 : k.toInt ≠ 7 := fun q => c7 (Int32.toInt_inj.mp (q.trans (by decide)))
      have t8 : k.toInt ≠ 8 := fun q => c8 (Int32.toInt_inj.mp (q.trans (by decide)))
      have t9 : k.toInt ≠ 9 := fun q => c9 (Int32.toInt_inj.mp (q.trans (by decide)))
      have t10 : k.toInt ≠ 10 := fun q => c10 (Int32.toInt_inj.mp (q.trans (by decide)))
      have t11 : k.toInt ≠ 11 := fun q => c11 (Int32.toInt_inj.mp (q.trans (by decide)))
      have t12 : k.toInt ≠ 12 := fun q => c12 (Int32.toInt_inj.mp (q.trans (by decide)))
      have t13 : k.toInt ≠ 13 := fun q => c13 (Int32.toInt_inj.mp (q.trans (by decide)))
      have t14 : k.toInt ≠ 14 := fun q => c14 (Int32.toInt_inj.mp (q.trans (by decide)))
      have t15 : k.toInt ≠ 15 := fun q => c15 (Int32.toInt_inj.mp (q.trans (by decide)))
      have t16 : k.toInt ≠ 16 := fun q => c16 (Int32.toInt_inj.mp (q.trans (by decide)))
      have t17 : k.toInt ≠ 17 := fun q => c17 (Int32.toInt_inj.mp (q.trans (by decide)))
      have t18 : k.toInt ≠ 18 := fun q => c18 (Int32.toInt_inj.mp (q.trans (by decide)))
      have t19 : k.toInt ≠ 19 := fun q => c19 (Int32.toInt_inj.mp (q.trans (by decide)))
      have t20 : k.toInt ≠ 20 := fun q => c20 (Int32.toInt_inj.mp (q.trans (by decide)))
      have t21 : k.toInt ≠ 21 := fun q => c21 (Int32.toInt_inj.mp (q.trans (by decide)))
      have t22 : k.toInt ≠ 22 := fun q => c22 (Int32.toInt_inj.mp (q.trans (by decide)))
      have t23 : k.toInt ≠ 23 := fun q => c23 (Int32.toInt_inj.mp (q.trans (by decide)))
      have t24 : k.toInt ≠ 24 := fun q => c24 (Int32.toInt_inj.mp (q.trans (by decide)))
      have t25 : k.toInt ≠ 25 := fun q => c25 (Int32.toInt_inj.mp (q.trans (by decide)))
      have t26 : k.toInt ≠ 26 := fun q => c26 (Int32.toInt_inj.mp (q.trans (by decide)))
      have t27 : k.toInt ≠ 27 := fun q => c27 (Int32.toInt_inj.mp (q.trans (by decide)))
      have t28 : k.toInt ≠ 28 := fun q => c28 (Int32.toInt_inj.mp (q.trans (by decide)))
      have t29 : k.toInt ≠ 29 := fun q => c29 (Int32.toInt_inj.mp (q.trans (by decide)))
      have t30 : k.toInt ≠ 30 := fun q => c30 (Int32.toInt_inj.mp (q.trans (by decide)))
      have t31 : k.toInt ≠ 31 := fun q => c31 (Int32.toInt_inj.mp (q.trans (by decide)))
      have t32 : k.toInt ≠ 32 := fun q => c32 (Int32.toInt_inj.mp (q.trans (by decide)))
      have t33 : k.toInt ≠ 33 := fun q => c33 (Int32.toInt_inj.mp (q.trans (by decide)))
      have t34 : k.toInt ≠ 34 := fun q => c34 (Int32.toInt_inj.mp (q.trans (by decide)))
      have t35 : k.toInt ≠ 35 := fun q => c35 (Int32.toInt_inj.mp (q.trans (by decide)))
      have t36 : k.toInt ≠ 36 := fun q => c36 (Int32.toInt_inj.mp (q.trans (by decide)))
      have t37 : k.toInt ≠ 37 := fun q => c37 (Int32.toInt_inj.mp (q.trans (by decide)))
      have t38 : k.toInt ≠ 38 := fun q => c38 (Int32.toInt_inj.mp (q.trans (by decide)))
      have t39 : k.toInt ≠ 39 := fun q => c39 (Int32.toInt_inj.mp (q.trans (by decide)))
      have t40 : k.toInt ≠ 40 := fun q => c40 (Int32.toInt_inj.mp (q.trans (by decide)))
      have t41 : k.toInt ≠ 41 := fun q => c41 (Int32.toInt_inj.mp (q.trans (by decide)))
      refine lv_tableOut (pc := 33) (tgt := 1365) hx hb dL_law_33 (kx_swd (fun k q1 q2 => by omega)) (by decide) ?_
      refine lv_iinc (pc := 1365) (v := (nI j + (6 : Int32))) (lv' := [(3, .int (nI j + (6 : Int32))), (0, .ref b), (1, .ref (ad 0)), (2, .ref (ae 0))]) hx hb dL_law_1365 hl (k := 3) rfl rfl (by decide) rfl (fun ls hl => ?_)
      refine lv_goto (pc := 1368) (tgt := 18) hx hb dL_law_1368 (by decide) ?_
      exact hih _ _ _ _ hP hW (lv_sub hl [1, 2, 3, 0] rfl)
end
