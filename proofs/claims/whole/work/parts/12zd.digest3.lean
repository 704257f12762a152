section
variable {σ τ : kx_St} {n : Nat} {kd wd hv w : Nat → Nat} {wt dc : Nat} {H : Nat → Nat → Nat}
theorem kr_digE {r m : Nat} {p : Nat → Int32} (hr : r < 6) (hs : σ.1 (60 + r) 1 = nI m) (hm : m ≤ 40) (ht : τ.1 6 r = nI m) (hp : ∀ j, j < m → τ.1 7 (40 * r + j) = p j) (hq : ∀ j, j < m → σ.1 (70 + r) j = p j) : ∀ d j, j + d = m → ∀ x : Int64, ∃ y, (∀ (k5 : Nat → Int64 → Int32 → Prop) (Q : Int64 → Prop), k5 1 y (nI (r + 1)) → p6_digestOf_L30 (d + 1) σ 1 x (nI r) (nI j) k5 Q) ∧ ∀ (k : Int64 → Int32 → Prop) (Q : Int64 → Prop), k y (nI (r + 1)) → p7_digest_L155 (d + 1) τ x (nI r) (nI j) k Q := by
  intro d
  induction d with
  | zero =>
    intro j hj x
    obtain rfl : j = m := by omega
    refine ⟨x, fun k5 Q q => ?_, fun k Q q => ?_⟩
    · rw [p6_digestOf_L30, ky_rows.2.1, kv_c (by omega), ky_rows.2.2.2.2.1 r hr, hs, show nI r + 1 = nI (r + 1) from nI_1 _]
      exact ⟨kv_in hr (by decide), kv_t (by rw [kv_leN (by omega) (by omega)]; omega) q⟩
    · rw [p7_digest_L155, kv_c (by omega), ht, show nI r + 1 = nI (r + 1) from nI_1 _]
      exact ⟨kv_in hr (by decide), kv_t (by rw [kv_leN (by omega) (by omega)]; omega) q⟩
  | succ d ih =>
    intro j hj x
    obtain ⟨y, y1, y2⟩ := ih (j + 1) (by omega) (31 * x + (p j).toInt64)
    refine ⟨y, fun k5 Q q => ?_, fun k Q q => ?_⟩
    · rw [p6_digestOf_L30, ky_rows.2.1, kv_c (by omega), ky_rows.2.2.2.2.1 r hr, hs, show nI j + 1 = nI (j + 1) from nI_1 _]
      refine ⟨kv_in hr (by decide), kv_f (by rw [kv_leN (by omega) (by omega)]; omega) ⟨kv_in hr (by decide), s5_get (ku_row hr) hs hm (by omega) ?_⟩⟩
      rw [hq j (by omega)]
      exact y1 k5 Q q
    · rw [p7_digest_L155, kv_c (show r < 2147483648 by omega), ht, kv_40, kv_c (show 40 * r + j < 2147483648 by omega), hp j (by omega), show nI j + 1 = nI (j + 1) from nI_1 _]
      exact ⟨kv_in hr (by decide), kv_f (by rw [kv_leN (by omega) (by omega)]; omega) ⟨kv_in (by omega) (by decide), y2 k Q q⟩⟩
theorem kr_digF {r m : Nat} {p : Nat → Int32} (hr : r < 4) (hs : σ.1 (66 + r) 1 = nI m) (hm : m ≤ 60) (ht : τ.1 8 r = nI m) (hp : ∀ j, j < m → τ.1 9 (60 * r + j) = p j) (hq : ∀ j, j < m → σ.1 (76 + r) j = p j) : ∀ d j, j + d = m → ∀ x : Int64, ∃ y, (∀ (k5 : Nat → Int64 → Int32 → Prop) (Q : Int64 → Prop), k5 2 y (nI (r + 1)) → p6_digestOf_L30 (d + 1) σ 2 x (nI r) (nI j) k5 Q) ∧ ∀ (k : Int64 → Int32 → Prop) (Q : Int64 → Prop), k y (nI (r + 1)) → p7_digest_L222 (d + 1) τ x (nI r) (nI j) k Q := by
  intro d
  induction d with
  | zero =>
    intro j hj x
    obtain rfl : j = m := by omega
    refine ⟨x, fun k5 Q q => ?_, fun k Q q => ?_⟩
    · rw [p6_digestOf_L30, ky_rows.2.2.2.1, kv_c (by omega), ky_rows.2.2.2.2.2 r hr, hs, show nI r + 1 = nI (r + 1) from nI_1 _]
      exact ⟨kv_in hr (by decide), kv_t (by rw [kv_leN (by omega) (by omega)]; omega) q⟩
    · rw [p7_digest_L222, kv_c (by omega), ht, show nI r + 1 = nI (r + 1) from nI_1 _]
      exact ⟨kv_in hr (by decide), kv_t (by rw [kv_leN (by omega) (by omega)]; omega) q⟩
  | succ d ih =>
    intro j hj x
    obtain ⟨y, y1, y2⟩ := ih (j + 1) (by omega) (31 * x + (p j).toInt64)
    refine ⟨y, fun k5 Q q => ?_, fun k Q q => ?_⟩
    · rw [p6_digestOf_L30, ky_rows.2.2.2.1, kv_c (by omega), ky_rows.2.2.2.2.2 r hr, hs, show nI j + 1 = nI (j + 1) from nI_1 _]
      refine ⟨kv_in hr (by decide), kv_f (by rw [kv_leN (by omega) (by omega)]; omega) ⟨kv_in hr (by decide), s5_get (ku_txt hr) hs hm (by omega) ?_⟩⟩
      rw [hq j (by omega)]
      exact y1 k5 Q q
    · rw [p7_digest_L222, kv_c (show r < 2147483648 by omega), ht, kv_60, kv_c (show 60 * r + j < 2147483648 by omega), hp j (by omega), show nI j + 1 = nI (j + 1) from nI_1 _]
      exact ⟨kv_in hr (by decide), kv_f (by rw [kv_leN (by omega) (by omega)]; omega) ⟨kv_in (by omega) (by decide), y2 k Q q⟩⟩
theorem kr_digG (h : kr_R σ τ) : ∀ d r, r + d = 6 → ∀ x : Int64, ∃ y, (∀ Q : Int64 → Prop, Q y → p6_digestOf_L5 (d + 1) σ 1 x (nI r) Q) ∧ ∀ Q : Int64 → Prop, (∃ f, p7_digest_L200 f τ y 0 Q) → p7_digest_L132 (d + 1) τ x (nI r) Q := by
  intro d
  induction d with
  | zero =>
    intro r hr x
    obtain rfl : r = 6 := by omega
    refine ⟨x, fun Q q => ?_, fun Q q => ?_⟩
    · rw [p6_digestOf_L5, ky_rows.2.1]; exact kv_t (by decide) q
    · rw [p7_digest_L132]; exact kv_t (by decide) q
  | succ d ih =>
    intro r hr x
    have hr6 : r < 6 := by omega
    obtain ⟨e1, e2⟩ := h.1 r hr6
    have I : ∃ y, (∀ (k5 : Nat → Int64 → Int32 → Prop) (Q : Int64 → Prop), k5 1 y (nI (r + 1)) → ∃ f, p6_digestOf_L30 f σ 1 (31 * x + (σ.1 (60 + r) 1).toInt64) (nI r) 0 k5 Q) ∧ ∀ (k : Int64 → Int32 → Prop) (Q : Int64 → Prop), k y (nI (r + 1)) → ∃ f, p7_digest_L155 f τ (31 * x + (σ.1 (60 + r) 1).toInt64) (nI r) 0 k Q := by
      rcases e2 with e2 | ⟨m, hm, e2, e3⟩
      · refine ⟨31 * x + (σ.1 (60 + r) 1).toInt64, fun k5 Q q => ⟨1, ?_⟩, fun k Q q => ⟨1, ?_⟩⟩
        · rw [p6_digestOf_L30, ky_rows.2.1, kv_c (by omega), ky_rows.2.2.2.2.1 r hr6, show nI r + 1 = nI (r + 1) from nI_1 _]
          exact ⟨kv_in hr6 (by decide), kv_t (by rw [e2]; decide) q⟩
        · rw [p7_digest_L155, kv_c (by omega), show nI r + 1 = nI (r + 1) from nI_1 _]
          exact ⟨kv_in hr6 (by decide), kv_t (by rw [e1, e2]; decide) q⟩
      · obtain ⟨y, y1, y2⟩ := kr_digE (σ := σ) (τ := τ) hr6 e2 hm (e1.trans e2) e3 (fun j hj => rfl) m 0 (by omega) (31 * x + (σ.1 (60 + r) 1).toInt64)
        exact ⟨y, fun k5 Q q => ⟨m + 1, y1 k5 Q q⟩, fun k Q q => ⟨m + 1, y2 k Q q⟩⟩
    obtain ⟨y, y1, y2⟩ := I
    obtain ⟨z, z1, z2⟩ := ih (r + 1) (by omega) y
    refine ⟨z, fun Q q => ?_, fun Q q => ?_⟩
    · rw [p6_digestOf_L5, ky_rows.2.1, kv_c (by omega), ky_rows.2.2.2.2.1 r hr6]
      exact kv_f (by show ¬ nI 6 ≤ nI r; rw [kv_leN (by omega) (by omega)]; omega) ⟨kv_in hr6 (by decide), y1 _ Q (z1 Q q)⟩
    · rw [p7_digest_L132, kv_c (by omega), e1]
      exact kv_f (by show ¬ nI 6 ≤ nI r; rw [kv_leN (by omega) (by omega)]; omega) ⟨kv_in hr6 (by decide), y2 _ Q (z2 Q q)⟩
theorem kr_digH (h : kr_R σ τ) : ∀ d r, r + d = 4 → ∀ x : Int64, ∃ y, (∀ Q : Int64 → Prop, Q y → p6_digestOf_L5 (d + 1) σ 2 x (nI r) Q) ∧ ∀ Q : Int64 → Prop, Q y → p7_digest_L200 (d + 1) τ x (nI r) Q := by
  intro d
  induction d with
  | zero =>
    intro r hr x
    obtain rfl : r = 4 := by omega
    refine ⟨x, fun Q q => ?_, fun Q q => ?_⟩
    · rw [p6_digestOf_L5, ky_rows.2.2.2.1]; exact kv_t (by decide) q
    · rw [p7_digest_L200]; exact kv_t (by decide) q
  | succ d ih =>
    intro r hr x
    have hr6 : r < 4 := by omega
    obtain ⟨e1, e2⟩ := h.2.1 r hr6
    have I : ∃ y, (∀ (k5 : Nat → Int64 → Int32 → Prop) (Q : Int64 → Prop), k5 2 y (nI (r + 1)) → ∃ f, p6_digestOf_L30 f σ 2 (31 * x + (σ.1 (66 + r) 1).toInt64) (nI r) 0 k5 Q) ∧ ∀ (k : Int64 → Int32 → Prop) (Q : Int64 → Prop), k y (nI (r + 1)) → ∃ f, p7_digest_L222 f τ (31 * x + (σ.1 (66 + r) 1).toInt64) (nI r) 0 k Q := by
      rcases e2 with e2 | ⟨m, hm, e2, e3⟩
      · refine ⟨31 * x + (σ.1 (66 + r) 1).toInt64, fun k5 Q q => ⟨1, ?_⟩, fun k Q q => ⟨1, ?_⟩⟩
        · rw [p6_digestOf_L30, ky_rows.2.2.2.1, kv_c (by omega), ky_rows.2.2.2.2.2 r hr6, show nI r + 1 = nI (r + 1) from nI_1 _]
          exact ⟨kv_in hr6 (by decide), kv_t (by rw [e2]; decide) q⟩
        · rw [p7_digest_L222, kv_c (by omega), show nI r + 1 = nI (r + 1) from nI_1 _]
          exact ⟨kv_in hr6 (by decide), kv_t (by rw [e1, e2]; decide) q⟩
      · obtain ⟨y, y1, y2⟩ := kr_digF (σ := σ) (τ := τ) hr6 e2 hm (e1.trans e2) e3 (fun j hj => rfl) m 0 (by omega) (31 * x + (σ.1 (66 + r) 1).toInt64)
        exact ⟨y, fun k5 Q q => ⟨m + 1, y1 k5 Q q⟩, fun k Q q => ⟨m + 1, y2 k Q q⟩⟩
    obtain ⟨y, y1, y2⟩ := I
    obtain ⟨z, z1, z2⟩ := ih (r + 1) (by omega) y
    refine ⟨z, fun Q q => ?_, fun Q q => ?_⟩
    · rw [p6_digestOf_L5, ky_rows.2.2.2.1, kv_c (by omega), ky_rows.2.2.2.2.2 r hr6]
      exact kv_f (by show ¬ nI 4 ≤ nI r; rw [kv_leN (by omega) (by omega)]; omega) ⟨kv_in hr6 (by decide), y1 _ Q (z1 Q q)⟩
    · rw [p7_digest_L200, kv_c (by omega), e1]
      exact kv_f (by show ¬ nI 4 ≤ nI r; rw [kv_leN (by omega) (by omega)]; omega) ⟨kv_in hr6 (by decide), y2 _ Q (z2 Q q)⟩
theorem th_digest (σ τ : kx_St) (h : kr_R σ τ) : lt_digest kr_R σ τ := by
  obtain ⟨n, kd, wd, hv, w, wt, dc, H, N, K⟩ := h.2.2.2.2.1
  obtain ⟨y1, a1, b1⟩ := kr_digA h N K 12 0 (by omega) 17
  obtain ⟨y2, a2, b2⟩ := kr_digB N 4 0 (by omega) y1
  obtain ⟨y3, a3, b3⟩ := kr_digC N n 0 (by omega) y2
  obtain ⟨y4, a4, b4⟩ := kr_digD N K 3 0 (by omega) y3
  obtain ⟨y5, a5, b5⟩ := kr_digG h 6 0 (by omega) y4
  obtain ⟨y6, a6, b6⟩ := kr_digH h 4 0 (by omega) y5
  refine ⟨y6, 13, a1 _ ⟨5, a2 _ ⟨n + 1, a3 _ ⟨4, a4 _ ⟨ky_rows.1, 7, a5 _ ⟨ky_rows.2.2.1, 5, a6 _ ⟨rfl, 13, b1 _ ⟨5, b2 _ (b3 _ ⟨4, b4 _ ⟨7, b5 _ ⟨5, b6 _ ⟨rfl, h⟩⟩⟩⟩)⟩⟩⟩⟩⟩⟩⟩⟩
end
