/-! THE RELATION of the two states -/
def kr_one (N : Nat) (s : Int32) (p : Nat → Int32) (s' : Int32) (p' : Nat → Int32) : Prop := s' = s ∧ (s = -1 ∨ ∃ n, n ≤ N ∧ s = nI n ∧ ∀ i, i < n → p' i = p i)
def kr_row (σ τ : kx_St) : Prop := ∀ r, r < 6 → kr_one 40 (σ.1 (60 + r) 1) (σ.1 (70 + r)) (τ.1 6 r) (fun i => τ.1 7 (40 * r + i))
def kr_txt (σ τ : kx_St) : Prop := ∀ t, t < 4 → kr_one 60 (σ.1 (66 + t) 1) (σ.1 (76 + t)) (τ.1 8 t) (fun i => τ.1 9 (60 * t + i))
def kr_fnd (σ τ : kx_St) : Prop := σ.1 0 9 = τ.1 0 14 ∧ ∀ f, f < 6 → σ.1 28 f = τ.1 10 f
def kr_tld (σ τ : kx_St) : Prop := σ.1 0 10 = τ.1 0 11 ∧ σ.2 11 = τ.2 12 ∧ σ.2 12 = τ.2 13
/-- a PARISH's numbers: how many KITES, kinds, wide, heavy, winds, what the SCHOOL wants -/
def kp_ok (n : Nat) (kd wd hv w : Nat → Nat) (wt : Nat) : Prop := n ≤ 6 ∧ wt < 100 ∧ (∀ h, h < 4 → w h < 10) ∧ ∀ i, i < n → kd i < 6 ∧ wd i < 10 ∧ hv i < 10
def kc_sta (σ : kx_St) (j n : Nat) (kd wd hv w : Nat → Nat) (wt : Nat) : Prop := σ.1 (4 + j) 3 = nI n ∧ σ.1 (4 + j) 4 = nI wt ∧ (∀ h, h < 4 → σ.1 (10 + j) h = nI (w h)) ∧ ∀ i, i < n → σ.1 (30 + 6 * j + i) 0 = nI (kd i) ∧ σ.1 (30 + 6 * j + i) 1 = nI (wd i) ∧ σ.1 (30 + 6 * j + i) 2 = nI (hv i)
def km_sta (τ : kx_St) (n : Nat) (kd wd hv w : Nat → Nat) (wt : Nat) : Prop := τ.1 0 3 = nI n ∧ τ.1 0 2 = nI wt ∧ (∀ h, h < 4 → τ.1 2 h = nI (w h)) ∧ ∀ i, i < n → τ.1 3 i = nI (kd i) ∧ τ.1 4 i = nI (wd i) ∧ τ.1 5 i = nI (hv i)
/-- a moment: 0 the HOUR, 1 flown (bits), 2 LIFTED (bits), 3 .. 8 TAILS, 9 .. 14 what each PAID -/
def kp_v (n : Nat) (v : Nat → Nat) : Prop := (∀ i, (v 1).testBit i = true → i < n) ∧ (∀ i, (v 2).testBit i = true → (v 1).testBit i = true) ∧ (∀ i, i < n → v (3 + i) < 4) ∧ (∀ i, i < 6 → v (9 + i) ≤ 60) ∧ ∀ i, i < 6 → (v 1).testBit i = false → v (9 + i) = 0
def kp_sum (v : Nat → Nat) : Nat := v 9 + v 10 + v 11 + v 12 + v 13 + v 14
def kc_dyn (σ : kx_St) (j n dc : Nat) (v : Nat → Nat) : Prop := σ.1 (4 + j) 5 = nI (v 0) ∧ σ.1 (4 + j) 6 = nI dc ∧ σ.1 (4 + j) 7 = nI (kp_sum v) ∧ ∀ i, i < n → σ.1 (30 + 6 * j + i) 3 = nI (v (3 + i)) ∧ σ.1 (30 + 6 * j + i) 4 = (if (v 1).testBit i = true then nI (v (9 + i)) else -9) ∧ σ.1 (30 + 6 * j + i) 5 = (if (v 2).testBit i = true then 1 else 0)
def km_dyn (τ : kx_St) (b dc : Nat) (H : Nat → Nat → Nat) : Prop := τ.1 1 b = nI dc ∧ (∀ k, k < 15 → τ.1 1 (b + 1 + k) = nI (H dc k)) ∧ ∀ d, d < dc → ∀ k, k < 15 → τ.1 1 (b + 16 + 15 * d + k) = nI (H d k)
def kd_deed (n : Nat) (c : Int32) (v v' : Nat → Nat) : Prop :=
  (∃ i, i < n ∧ c = nI i ∧ (v 1).testBit i = false ∧ v' 0 = v 0 + 1 ∧ v' 1 = v 1 ||| 2 ^ i ∧ (v' 2 = v 2 ∨ v' 2 = v 2 ||| 2 ^ i) ∧ ∀ k, 3 ≤ k → k < 15 → k ≠ 9 + i → v' k = v k) ∨
  (c = nI 8 ∧ v' 0 = v 0 + 1 ∧ ∀ k, 1 ≤ k → k < 15 → v' k = v k) ∨
  (∃ i, i < n ∧ c = nI (16 + i) ∧ v' (3 + i) = v (3 + i) + 1 ∧ ∀ k, k < 15 → k ≠ 3 + i → v' k = v k) ∨
  (∃ i, i < n ∧ c = nI (24 + i) ∧ v (3 + i) = v' (3 + i) + 1 ∧ ∀ k, k < 15 → k ≠ 3 + i → v' k = v k)
def kr_his (σ τ : kx_St) (j b n dc : Nat) (H : Nat → Nat → Nat) : Prop := dc ≤ 40 ∧ kc_dyn σ j n dc (H dc) ∧ km_dyn τ b dc H ∧ (∀ d, d ≤ dc → kp_v n (H d) ∧ H d 0 ≤ d) ∧ ∀ d, d < dc → kd_deed n (σ.1 (20 + j) d) (H d) (H (d + 1))
/-- all of a PARISH but the kept ones; 'dc' DEEDS, the moments H -/
def kr_now (σ τ : kx_St) (n : Nat) (kd wd hv w : Nat → Nat) (wt dc : Nat) (H : Nat → Nat → Nat) : Prop := kp_ok n kd wd hv w wt ∧ kc_sta σ 0 n kd wd hv w wt ∧ km_sta τ n kd wd hv w wt ∧ kr_his σ τ 0 0 n dc H
def kr_kep (σ τ : kx_St) (n : Nat) (kd wd hv w : Nat → Nat) (wt : Nat) : Prop := ∀ k, k < 3 → (σ.1 (6 + k) 3 = 0 ∧ τ.1 1 (616 * (k + 1)) = -1) ∨ (0 < n ∧ kc_sta σ (2 + k) n kd wd hv w wt ∧ ∃ dc H, kr_his σ τ (2 + k) (616 * (k + 1)) n dc H)
def kr_par (σ τ : kx_St) : Prop := ∃ n kd wd hv w wt dc H, kr_now σ τ n kd wd hv w wt dc H ∧ kr_kep σ τ n kd wd hv w wt
def kr_dra (σ : kx_St) : Prop := (σ.1 5 5 = 0 ∧ σ.1 5 6 = 0 ∧ σ.1 5 7 = 0 ∧ ∀ i, i < 6 → σ.1 (36 + i) 4 = -9 ∧ σ.1 (36 + i) 5 = 0) ∧ ∀ a, 30 ≤ a → a < 60 → σ.1 a 5 = 0 ∨ σ.1 a 5 = 1
def kr_R (σ τ : kx_St) : Prop := kr_row σ τ ∧ kr_txt σ τ ∧ kr_fnd σ τ ∧ kr_tld σ τ ∧ kr_par σ τ ∧ kr_dra σ
/-! what each part of it rests on -/
theorem kr_row_fr {σ τ σ' τ' : kx_St} (h : kr_row σ τ) (h1 : ∀ r, r < 6 → σ'.1 (60 + r) = σ.1 (60 + r) ∧ σ'.1 (70 + r) = σ.1 (70 + r)) (h2 : τ'.1 6 = τ.1 6) (h3 : τ'.1 7 = τ.1 7) : kr_row σ' τ' := by
  intro r hr
  rw [(h1 r hr).1, (h1 r hr).2, h2, h3]
  exact h r hr
theorem kr_txt_fr {σ τ σ' τ' : kx_St} (h : kr_txt σ τ) (h1 : ∀ r, r < 4 → σ'.1 (66 + r) = σ.1 (66 + r) ∧ σ'.1 (76 + r) = σ.1 (76 + r)) (h2 : τ'.1 8 = τ.1 8) (h3 : τ'.1 9 = τ.1 9) : kr_txt σ' τ' := by
  intro r hr
  rw [(h1 r hr).1, (h1 r hr).2, h2, h3]
  exact h r hr
theorem kc_sta_fr {σ σ' : kx_St} {j n : Nat} {kd wd hv w : Nat → Nat} {wt : Nat} (h : kc_sta σ j n kd wd hv w wt) (h1 : σ'.1 (4 + j) 3 = σ.1 (4 + j) 3) (h4 : σ'.1 (4 + j) 4 = σ.1 (4 + j) 4) (h2 : σ'.1 (10 + j) = σ.1 (10 + j)) (h3 : ∀ i, i < n → ∀ k, k < 3 → σ'.1 (30 + 6 * j + i) k = σ.1 (30 + 6 * j + i) k) : kc_sta σ' j n kd wd hv w wt := by
  obtain ⟨a, b, c, d⟩ := h
  refine ⟨h1.trans a, h4.trans b, fun h hh => by rw [h2]; exact c h hh, fun i hi => ?_⟩
  rw [h3 i hi 0 (by omega), h3 i hi 1 (by omega), h3 i hi 2 (by omega)]
  exact d i hi
theorem kc_dyn_fr {σ σ' : kx_St} {j n dc : Nat} {v : Nat → Nat} (h : kc_dyn σ j n dc v) (h1 : ∀ k, 5 ≤ k → k < 8 → σ'.1 (4 + j) k = σ.1 (4 + j) k) (h3 : ∀ i, i < n → ∀ k, 3 ≤ k → k < 6 → σ'.1 (30 + 6 * j + i) k = σ.1 (30 + 6 * j + i) k) : kc_dyn σ' j n dc v := by
  obtain ⟨a, b, c, d⟩ := h
  refine ⟨(h1 5 (by omega) (by omega)).trans a, (h1 6 (by omega) (by omega)).trans b, (h1 7 (by omega) (by omega)).trans c, fun i hi => ?_⟩
  rw [h3 i hi 3 (by omega) (by omega), h3 i hi 4 (by omega) (by omega), h3 i hi 5 (by omega) (by omega)]
  exact d i hi
theorem km_dyn_fr {τ τ' : kx_St} {b dc : Nat} {H : Nat → Nat → Nat} (h : km_dyn τ b dc H) (hd : dc ≤ 40) (h1 : ∀ k, k < 616 → τ'.1 1 (b + k) = τ.1 1 (b + k)) : km_dyn τ' b dc H := by
  obtain ⟨a, c, d⟩ := h
  refine ⟨(h1 0 (by omega)).trans a, fun k hk => ?_, fun e he k hk => ?_⟩
  · have := c k hk
    rw [show b + 1 + k = b + (1 + k) by omega] at this ⊢
    rw [h1 _ (by omega)]; exact this
  · have := d e he k hk
    rw [show b + 16 + 15 * e + k = b + (16 + 15 * e + k) by omega] at this ⊢
    rw [h1 _ (by omega)]; exact this
theorem kr_his_fr {σ τ σ' τ' : kx_St} {j b n dc : Nat} {H : Nat → Nat → Nat} (h : kr_his σ τ j b n dc H) (h1 : ∀ k, 5 ≤ k → k < 8 → σ'.1 (4 + j) k = σ.1 (4 + j) k) (h3 : ∀ i, i < n → ∀ k, 3 ≤ k → k < 6 → σ'.1 (30 + 6 * j + i) k = σ.1 (30 + 6 * j + i) k) (h4 : σ'.1 (20 + j) = σ.1 (20 + j)) (h5 : ∀ k, k < 616 → τ'.1 1 (b + k) = τ.1 1 (b + k)) : kr_his σ' τ' j b n dc H := by
  obtain ⟨a, c, d, e, f⟩ := h
  exact ⟨a, kc_dyn_fr c h1 h3, km_dyn_fr d a h5, e, fun x hx => by rw [h4]; exact f x hx⟩
theorem km_sta_fr {τ τ' : kx_St} {n : Nat} {kd wd hv w : Nat → Nat} {wt : Nat} (h : km_sta τ n kd wd hv w wt) (h1 : τ'.1 0 3 = τ.1 0 3) (h2 : τ'.1 0 2 = τ.1 0 2) (h3 : ∀ c, 2 ≤ c → c ≤ 5 → τ'.1 c = τ.1 c) : km_sta τ' n kd wd hv w wt := by
  obtain ⟨a, b, c, d⟩ := h
  refine ⟨h1.trans a, h2.trans b, fun h hh => by rw [h3 2 (by omega) (by omega)]; exact c h hh, fun i hi => ?_⟩
  rw [h3 3 (by omega) (by omega), h3 4 (by omega) (by omega), h3 5 (by omega) (by omega)]
  exact d i hi
def kr_pc (a : Nat) : Prop := a = 4 ∨ (6 ≤ a ∧ a ≤ 8) ∨ (10 ≤ a ∧ a ≤ 24 ∧ a ≠ 11) ∨ (30 ≤ a ∧ a < 60 ∧ ¬ (36 ≤ a ∧ a < 42))
theorem kr_now_fr {σ τ σ' τ' : kx_St} {n : Nat} {kd wd hv w : Nat → Nat} {wt dc : Nat} {H : Nat → Nat → Nat} (h : kr_now σ τ n kd wd hv w wt dc H) (h1 : ∀ a, kr_pc a → σ'.1 a = σ.1 a) (h2 : τ'.1 0 3 = τ.1 0 3) (h3 : τ'.1 0 2 = τ.1 0 2) (h4 : ∀ c, 2 ≤ c → c ≤ 5 → τ'.1 c = τ.1 c) (h5 : ∀ k, k < 2464 → τ'.1 1 k = τ.1 1 k) : kr_now σ' τ' n kd wd hv w wt dc H := by
  obtain ⟨a, b, c, d⟩ := h
  have hn : n ≤ 6 := a.1
  have k : ∀ a, kr_pc a → ∀ j, σ'.1 a j = σ.1 a j := fun a ha j => by rw [h1 a ha]
  refine ⟨a, kc_sta_fr b (k _ (Or.inl rfl) _) (k _ (Or.inl rfl) _) (h1 _ (by unfold kr_pc; omega)) (fun i hi q _ => k _ (by unfold kr_pc; omega) _), km_sta_fr c h2 h3 h4, kr_his_fr d (fun q _ _ => k _ (Or.inl rfl) _) (fun i hi q _ _ => k _ (by unfold kr_pc; omega) _) (h1 _ (by unfold kr_pc; omega)) (fun q hq => h5 _ (by omega))⟩
theorem kr_kep_fr {σ τ σ' τ' : kx_St} {n : Nat} {kd wd hv w : Nat → Nat} {wt : Nat} (h : kr_kep σ τ n kd wd hv w wt) (hn : n ≤ 6) (h1 : ∀ a, kr_pc a → a ≠ 4 → a ≠ 10 → a ≠ 20 → ¬ (30 ≤ a ∧ a < 36) → σ'.1 a = σ.1 a) (h5 : ∀ k, 616 ≤ k → k < 2464 → τ'.1 1 k = τ.1 1 k) : kr_kep σ' τ' n kd wd hv w wt := by
  intro q hq
  have k : ∀ a, kr_pc a → a ≠ 4 → a ≠ 10 → a ≠ 20 → ¬ (30 ≤ a ∧ a < 36) → ∀ j, σ'.1 a j = σ.1 a j := fun a ha b1 b2 b3 b4 j => by rw [h1 a ha b1 b2 b3 b4]
  rcases h q hq with ⟨a, b⟩ | ⟨a, b, dc, H, c⟩
  · refine Or.inl ⟨?_, ?_⟩
    · rw [k _ (by unfold kr_pc; omega) (by omega) (by omega) (by omega) (by omega)]; exact a
    · rw [h5 _ (by omega) (by omega)]; exact b
  · refine Or.inr ⟨a, kc_sta_fr b (k _ (by unfold kr_pc; omega) (by omega) (by omega) (by omega) (by omega) _) (k _ (by unfold kr_pc; omega) (by omega) (by omega) (by omega) (by omega) _) (h1 _ (by unfold kr_pc; omega) (by omega) (by omega) (by omega) (by omega)) (fun i hi q _ => k _ (by unfold kr_pc; omega) (by omega) (by omega) (by omega) (by omega) _), dc, H, kr_his_fr c (fun q _ _ => k _ (by unfold kr_pc; omega) (by omega) (by omega) (by omega) (by omega) _) (fun i hi q _ _ => k _ (by unfold kr_pc; omega) (by omega) (by omega) (by omega) (by omega) _) (h1 _ (by unfold kr_pc; omega) (by omega) (by omega) (by omega) (by omega)) (fun q hq => h5 _ (by omega) (by omega))⟩
theorem kr_par_fr {σ τ σ' τ' : kx_St} (h : kr_par σ τ) (h1 : ∀ a, kr_pc a → σ'.1 a = σ.1 a) (h2 : τ'.1 0 3 = τ.1 0 3) (h3 : τ'.1 0 2 = τ.1 0 2) (h4 : ∀ c, 2 ≤ c → c ≤ 5 → τ'.1 c = τ.1 c) (h5 : ∀ k, k < 2464 → τ'.1 1 k = τ.1 1 k) : kr_par σ' τ' := by
  obtain ⟨n, kd, wd, hv, w, wt, dc, H, a, b⟩ := h
  exact ⟨n, kd, wd, hv, w, wt, dc, H, kr_now_fr a h1 h2 h3 h4 h5, kr_kep_fr b a.1.1 (fun a ha _ _ _ _ => h1 a ha) (fun k _ hk => h5 k hk)⟩
theorem kr_dra_fr {σ σ' : kx_St} (h : kr_dra σ) (h1 : ∀ k, 5 ≤ k → k < 8 → σ'.1 5 k = σ.1 5 k) (h2 : ∀ i, i < 6 → σ'.1 (36 + i) 4 = σ.1 (36 + i) 4) (h3 : ∀ a, 30 ≤ a → a < 60 → σ'.1 a 5 = σ.1 a 5) : kr_dra σ' := by
  obtain ⟨⟨a, b, c, d⟩, e⟩ := h
  refine ⟨⟨(h1 5 (by omega) (by omega)).trans a, (h1 6 (by omega) (by omega)).trans b, (h1 7 (by omega) (by omega)).trans c, fun i hi => ?_⟩, fun a ha hb => by rw [h3 a ha hb]; exact e a ha hb⟩
  rw [h2 i hi, h3 (36 + i) (by omega) (by omega)]
  exact d i hi
/-- cells of the class, of the reference that the relation doesn't look at -/
theorem kr_R_fr {σ τ σ' τ' : kx_St} (h : kr_R σ τ) (h1 : ∀ a, a ≠ 5 → a ≠ 9 → a ≠ 11 → a ≠ 25 → a ≠ 26 → ¬ (36 ≤ a ∧ a < 42) → a < 80 → σ'.1 a = σ.1 a) (hd1 : ∀ k, 5 ≤ k → k < 8 → σ'.1 5 k = σ.1 5 k) (hd2 : ∀ i, i < 6 → ∀ k, 4 ≤ k → σ'.1 (36 + i) k = σ.1 (36 + i) k) (hl : σ'.2 = σ.2) (h2 : ∀ k, k < 16 → τ'.1 0 k = τ.1 0 k) (h3 : ∀ k, k < 2464 → τ'.1 1 k = τ.1 1 k) (h4 : ∀ c, 2 ≤ c → c ≤ 10 → τ'.1 c = τ.1 c) (hm : τ'.2 = τ.2) : kr_R σ' τ' := by
  obtain ⟨a, b, c, d, e, f⟩ := h
  have k : ∀ a, a ≠ 5 → a ≠ 9 → a ≠ 11 → a ≠ 25 → a ≠ 26 → ¬ (36 ≤ a ∧ a < 42) → a < 80 → ∀ j, σ'.1 a j = σ.1 a j := fun a q1 q2 q3 q4 q5 q6 q7 j => by rw [h1 a q1 q2 q3 q4 q5 q6 q7]
  refine ⟨kr_row_fr a (fun r hr => ⟨h1 _ (by omega) (by omega) (by omega) (by omega) (by omega) (by omega) (by omega), h1 _ (by omega) (by omega) (by omega) (by omega) (by omega) (by omega) (by omega)⟩) (h4 _ (by omega) (by omega)) (h4 _ (by omega) (by omega)),
    kr_txt_fr b (fun r hr => ⟨h1 _ (by omega) (by omega) (by omega) (by omega) (by omega) (by omega) (by omega), h1 _ (by omega) (by omega) (by omega) (by omega) (by omega) (by omega) (by omega)⟩) (h4 _ (by omega) (by omega)) (h4 _ (by omega) (by omega)), ?_, ?_,
    kr_par_fr e (fun a ha => by unfold kr_pc at ha; exact h1 _ (by omega) (by omega) (by omega) (by omega) (by omega) (by omega) (by omega)) (h2 _ (by omega)) (h2 _ (by omega)) (fun c q1 q2 => h4 _ (by omega) (by omega)) h3,
    kr_dra_fr f hd1 (fun i hi => hd2 i hi 4 (by omega)) (fun a q1 q2 => ?_)⟩
  · refine ⟨?_, fun f hf => ?_⟩
    · rw [k 0 (by omega) (by omega) (by omega) (by omega) (by omega) (by omega) (by omega), h2 14 (by omega)]; exact c.1
    · rw [k 28 (by omega) (by omega) (by omega) (by omega) (by omega) (by omega) (by omega), h4 10 (by omega) (by omega)]; exact c.2 f hf
  · refine ⟨?_, ?_, ?_⟩
    · rw [k 0 (by omega) (by omega) (by omega) (by omega) (by omega) (by omega) (by omega), h2 11 (by omega)]; exact d.1
    · rw [hl, hm]; exact d.2.1
    · rw [hl, hm]; exact d.2.2
  · by_cases hq : 36 ≤ a ∧ a < 42
    · have := hd2 (a - 36) (by omega) 5 (by omega)
      rwa [show 36 + (a - 36) = a by omega] at this
    · exact k a (by omega) (by omega) (by omega) (by omega) (by omega) hq (by omega) 5
