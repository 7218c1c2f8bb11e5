/-! ===== the reference takes its draft over ===== -/
theorem half_r {h : zH} {o n : Nat} {B : Int32 × zH → Option ((Int32 × zH) ⊕ zH)} (hn : n ≤ 200) (hB : ∀ (g : zH) (k : Nat), k ≤ n → B (zJ k, g) = if n ≤ k then some (.inr g) else some (.inl (zJ k + 1, zsI g o k (g.1 o (n + k))))) : zw (zit zFU B (0, h)) fun g => zfm [(o, o, 0, n - 1)] h g ∧ ∀ k, k < n → g.1 o k = h.1 o (n + k) := by
  refine zw_for n (fun k s => s.1 = zJ k ∧ zfm [(o, o, 0, n - 1)] h s.2 ∧ ∀ j, j < k → s.2.1 o j = h.1 o (n + j)) (by omega) ⟨rfl, zfm.rfl', fun j hj => absurd hj (Nat.not_lt_zero j)⟩ ?_
  rintro k ⟨a, g⟩ hk ⟨rfl, hz, hv⟩
  dsimp only at hz hv ⊢
  rw [hB g k hk]
  by_cases hkn : n ≤ k
  · rw [if_pos hkn]
    have : k = n := by omega
    subst this
    exact zw_some ⟨hz, hv⟩
  · rw [if_neg hkn, zJ_al]
    refine zw_some ⟨by omega, rfl, hz.I (zin_1 (by omega) (by omega) (by omega) (by omega)), fun j hj => ?_⟩
    dsimp only
    by_cases e : j = k
    · subst e
      rw [zI_eq]
      exact hz.i (zin_n1 (by omega))
    · rw [zI_nk e]
      exact hv j (by omega)
theorem half_62 {h : zH} : zw (f_Mod_takeHalf_62 h) fun g => zfm [(336, 336, 0, 4)] h g ∧ ∀ k, k < 5 → g.1 336 k = h.1 336 (5 + k) := by
  unfold f_Mod_takeHalf_62
  refine zw_bi (half_r (o := 336) (n := 5) (B := fun s : Int32 × zH => f_Mod_takeHalf_62_b2 s.2 s.1) (by decide) (fun g k hk => ?_)) (fun x hx => zw_some hx)
  dsimp only
  unfold f_Mod_takeHalf_62_b2
  have ed : (10 / 2 : Int32) = zJ 5 := by decide
  rw [ed]
  by_cases h : 5 ≤ k
  · rw [if_pos (by rw [zJ_le (by omega) (by omega)]; exact h), if_pos h]
  · rw [if_neg (by rw [zJ_le (by omega) (by omega)]; exact h), if_neg h, zJ_add, zb_t (by omega) (by omega), zb_t (by omega) (by omega), zg_tr, zg_tr, Option.bind_some, zJ_c (by omega), zJ_c (by omega)]
theorem half_63 {h : zH} : zw (f_Mod_takeHalf_63 h) fun g => zfm [(337, 337, 0, 21)] h g ∧ ∀ k, k < 22 → g.1 337 k = h.1 337 (22 + k) := by
  unfold f_Mod_takeHalf_63
  refine zw_bi (half_r (o := 337) (n := 22) (B := fun s : Int32 × zH => f_Mod_takeHalf_63_b2 s.2 s.1) (by decide) (fun g k hk => ?_)) (fun x hx => zw_some hx)
  dsimp only
  unfold f_Mod_takeHalf_63_b2
  have ed : (44 / 2 : Int32) = zJ 22 := by decide
  rw [ed]
  by_cases h : 22 ≤ k
  · rw [if_pos (by rw [zJ_le (by omega) (by omega)]; exact h), if_pos h]
  · rw [if_neg (by rw [zJ_le (by omega) (by omega)]; exact h), if_neg h, zJ_add, zb_t (by omega) (by omega), zb_t (by omega) (by omega), zg_tr, zg_tr, Option.bind_some, zJ_c (by omega), zJ_c (by omega)]
theorem half_64 {h : zH} : zw (f_Mod_takeHalf_64 h) fun g => zfm [(338, 338, 0, 21)] h g ∧ ∀ k, k < 22 → g.1 338 k = h.1 338 (22 + k) := by
  unfold f_Mod_takeHalf_64
  refine zw_bi (half_r (o := 338) (n := 22) (B := fun s : Int32 × zH => f_Mod_takeHalf_64_b2 s.2 s.1) (by decide) (fun g k hk => ?_)) (fun x hx => zw_some hx)
  dsimp only
  unfold f_Mod_takeHalf_64_b2
  have ed : (44 / 2 : Int32) = zJ 22 := by decide
  rw [ed]
  by_cases h : 22 ≤ k
  · rw [if_pos (by rw [zJ_le (by omega) (by omega)]; exact h), if_pos h]
  · rw [if_neg (by rw [zJ_le (by omega) (by omega)]; exact h), if_neg h, zJ_add, zb_t (by omega) (by omega), zb_t (by omega) (by omega), zg_tr, zg_tr, Option.bind_some, zJ_c (by omega), zJ_c (by omega)]
theorem half_65 {h : zH} : zw (f_Mod_takeHalf_65 h) fun g => zfm [(339, 339, 0, 65)] h g ∧ ∀ k, k < 66 → g.1 339 k = h.1 339 (66 + k) := by
  unfold f_Mod_takeHalf_65
  refine zw_bi (half_r (o := 339) (n := 66) (B := fun s : Int32 × zH => f_Mod_takeHalf_65_b2 s.2 s.1) (by decide) (fun g k hk => ?_)) (fun x hx => zw_some hx)
  dsimp only
  unfold f_Mod_takeHalf_65_b2
  have ed : (132 / 2 : Int32) = zJ 66 := by decide
  rw [ed]
  by_cases h : 66 ≤ k
  · rw [if_pos (by rw [zJ_le (by omega) (by omega)]; exact h), if_pos h]
  · rw [if_neg (by rw [zJ_le (by omega) (by omega)]; exact h), if_neg h, zJ_add, zb_t (by omega) (by omega), zb_t (by omega) (by omega), zg_tr, zg_tr, Option.bind_some, zJ_c (by omega), zJ_c (by omega)]
theorem half_66 {h : zH} : zw (f_Mod_takeHalf_66 h) fun g => zfm [(340, 340, 0, 21)] h g ∧ ∀ k, k < 22 → g.1 340 k = h.1 340 (22 + k) := by
  unfold f_Mod_takeHalf_66
  refine zw_bi (half_r (o := 340) (n := 22) (B := fun s : Int32 × zH => f_Mod_takeHalf_66_b2 s.2 s.1) (by decide) (fun g k hk => ?_)) (fun x hx => zw_some hx)
  dsimp only
  unfold f_Mod_takeHalf_66_b2
  have ed : (44 / 2 : Int32) = zJ 22 := by decide
  rw [ed]
  by_cases h : 22 ≤ k
  · rw [if_pos (by rw [zJ_le (by omega) (by omega)]; exact h), if_pos h]
  · rw [if_neg (by rw [zJ_le (by omega) (by omega)]; exact h), if_neg h, zJ_add, zb_t (by omega) (by omega), zb_t (by omega) (by omega), zg_tr, zg_tr, Option.bind_some, zJ_c (by omega), zJ_c (by omega)]
theorem half_67 {h : zH} : zw (f_Mod_takeHalf_67 h) fun g => zfm [(341, 341, 0, 5)] h g ∧ ∀ k, k < 6 → g.1 341 k = h.1 341 (6 + k) := by
  unfold f_Mod_takeHalf_67
  refine zw_bi (half_r (o := 341) (n := 6) (B := fun s : Int32 × zH => f_Mod_takeHalf_67_b2 s.2 s.1) (by decide) (fun g k hk => ?_)) (fun x hx => zw_some hx)
  dsimp only
  unfold f_Mod_takeHalf_67_b2
  have ed : (12 / 2 : Int32) = zJ 6 := by decide
  rw [ed]
  by_cases h : 6 ≤ k
  · rw [if_pos (by rw [zJ_le (by omega) (by omega)]; exact h), if_pos h]
  · rw [if_neg (by rw [zJ_le (by omega) (by omega)]; exact h), if_neg h, zJ_add, zb_t (by omega) (by omega), zb_t (by omega) (by omega), zg_tr, zg_tr, Option.bind_some, zJ_c (by omega), zJ_c (by omega)]
theorem half_68 {h : zH} : zw (f_Mod_takeHalf_68 h) fun g => zfm [(342, 342, 0, 5)] h g ∧ ∀ k, k < 6 → g.1 342 k = h.1 342 (6 + k) := by
  unfold f_Mod_takeHalf_68
  refine zw_bi (half_r (o := 342) (n := 6) (B := fun s : Int32 × zH => f_Mod_takeHalf_68_b2 s.2 s.1) (by decide) (fun g k hk => ?_)) (fun x hx => zw_some hx)
  dsimp only
  unfold f_Mod_takeHalf_68_b2
  have ed : (12 / 2 : Int32) = zJ 6 := by decide
  rw [ed]
  by_cases h : 6 ≤ k
  · rw [if_pos (by rw [zJ_le (by omega) (by omega)]; exact h), if_pos h]
  · rw [if_neg (by rw [zJ_le (by omega) (by omega)]; exact h), if_neg h, zJ_add, zb_t (by omega) (by omega), zb_t (by omega) (by omega), zg_tr, zg_tr, Option.bind_some, zJ_c (by omega), zJ_c (by omega)]
theorem half_69 {h : zH} : zw (f_Mod_takeHalf_69 h) fun g => zfm [(343, 343, 0, 2)] h g ∧ ∀ k, k < 3 → g.1 343 k = h.1 343 (3 + k) := by
  unfold f_Mod_takeHalf_69
  refine zw_bi (half_r (o := 343) (n := 3) (B := fun s : Int32 × zH => f_Mod_takeHalf_69_b2 s.2 s.1) (by decide) (fun g k hk => ?_)) (fun x hx => zw_some hx)
  dsimp only
  unfold f_Mod_takeHalf_69_b2
  have ed : (6 / 2 : Int32) = zJ 3 := by decide
  rw [ed]
  by_cases h : 3 ≤ k
  · rw [if_pos (by rw [zJ_le (by omega) (by omega)]; exact h), if_pos h]
  · rw [if_neg (by rw [zJ_le (by omega) (by omega)]; exact h), if_neg h, zJ_add, zb_t (by omega) (by omega), zb_t (by omega) (by omega), zg_tr, zg_tr, Option.bind_some, zJ_c (by omega), zJ_c (by omega)]
theorem half_70 {h : zH} : zw (f_Mod_takeHalf_70 h) fun g => zfm [(344, 344, 0, 17)] h g ∧ ∀ k, k < 18 → g.1 344 k = h.1 344 (18 + k) := by
  unfold f_Mod_takeHalf_70
  refine zw_bi (half_r (o := 344) (n := 18) (B := fun s : Int32 × zH => f_Mod_takeHalf_70_b2 s.2 s.1) (by decide) (fun g k hk => ?_)) (fun x hx => zw_some hx)
  dsimp only
  unfold f_Mod_takeHalf_70_b2
  have ed : (36 / 2 : Int32) = zJ 18 := by decide
  rw [ed]
  by_cases h : 18 ≤ k
  · rw [if_pos (by rw [zJ_le (by omega) (by omega)]; exact h), if_pos h]
  · rw [if_neg (by rw [zJ_le (by omega) (by omega)]; exact h), if_neg h, zJ_add, zb_t (by omega) (by omega), zb_t (by omega) (by omega), zg_tr, zg_tr, Option.bind_some, zJ_c (by omega), zJ_c (by omega)]
theorem half_71 {h : zH} : zw (f_Mod_takeHalf_71 h) fun g => zfm [(345, 345, 0, 21)] h g ∧ ∀ k, k < 22 → g.1 345 k = h.1 345 (22 + k) := by
  unfold f_Mod_takeHalf_71
  refine zw_bi (half_r (o := 345) (n := 22) (B := fun s : Int32 × zH => f_Mod_takeHalf_71_b2 s.2 s.1) (by decide) (fun g k hk => ?_)) (fun x hx => zw_some hx)
  dsimp only
  unfold f_Mod_takeHalf_71_b2
  have ed : (44 / 2 : Int32) = zJ 22 := by decide
  rw [ed]
  by_cases h : 22 ≤ k
  · rw [if_pos (by rw [zJ_le (by omega) (by omega)]; exact h), if_pos h]
  · rw [if_neg (by rw [zJ_le (by omega) (by omega)]; exact h), if_neg h, zJ_add, zb_t (by omega) (by omega), zb_t (by omega) (by omega), zg_tr, zg_tr, Option.bind_some, zJ_c (by omega), zJ_c (by omega)]
theorem half_72 {h : zH} : zw (f_Mod_takeHalf_72 h) fun g => zfm [(346, 346, 0, 131)] h g ∧ ∀ k, k < 132 → g.1 346 k = h.1 346 (132 + k) := by
  unfold f_Mod_takeHalf_72
  refine zw_bi (half_r (o := 346) (n := 132) (B := fun s : Int32 × zH => f_Mod_takeHalf_72_b2 s.2 s.1) (by decide) (fun g k hk => ?_)) (fun x hx => zw_some hx)
  dsimp only
  unfold f_Mod_takeHalf_72_b2
  have ed : (264 / 2 : Int32) = zJ 132 := by decide
  rw [ed]
  by_cases h : 132 ≤ k
  · rw [if_pos (by rw [zJ_le (by omega) (by omega)]; exact h), if_pos h]
  · rw [if_neg (by rw [zJ_le (by omega) (by omega)]; exact h), if_neg h, zJ_add, zb_t (by omega) (by omega), zb_t (by omega) (by omega), zg_tr, zg_tr, Option.bind_some, zJ_c (by omega), zJ_c (by omega)]
/-- what is new when a net is told -/
def gnew (N : yN) (t : yT) : yT := ((0, 0, 0, yFl N, 0, fun _ => 0, fun _ => false), 0, t.2.2.1, 0, t.2.2.2.2)
theorem gnew_ok {N : yN} {t : yT} (hn : yOKn N) : yOKt N (gnew N t) := by
  have h2 : 0 < 2 ^ yI N := Nat.two_pow_pos _
  exact ⟨⟨h2, Nat.zero_le _, hn.2.2.2.2.2, Nat.zero_le _, fun k hk => absurd hk (Nat.not_lt_zero k), fun f hf => by cases hf⟩, Nat.zero_le _, fun i hi => absurd hi (Nat.not_lt_zero i), Nat.zero_le _, fun k hk => absurd hk (Nat.not_lt_zero k)⟩
def gLt : List (Nat × Nat × Nat × Nat) := [(333, 333, 45, 47), (333, 333, 55, 55), (336, 347, 0, 9999), (350, 357, 0, 9999)]
theorem takeOver_r {h : zH} {D : gD} {t : yT} (hD : grD h D (dNc D) (dL D)) (hk : gOKd D) (hn : gNE D) (hs : ∀ k, k < 3 → h.1 348 k = t.2.2.2.2.2.2.2 k) : zw (f_Mod_takeOver h) fun g => zfm gLt h g ∧ yRN g (gFin D) ∧ yLD g (yE (gFin D)) (ySb (gFin D)) ∧ yRNow g (gnew (gFin D) t) ∧ g.1 333 55 = 0 := by
  obtain ⟨a1, a2, a3, a4⟩ := gOK_n hk
  obtain ⟨d1, d2, d3, d4, d5, d6, d7, d8, d9⟩ := hD
  unfold f_Mod_takeOver
  refine zw_bi half_62 ?_
  rintro g1 ⟨q1, v1⟩
  refine zw_bi half_63 ?_
  rintro g2 ⟨q2, v2⟩
  refine zw_bi half_64 ?_
  rintro g3 ⟨q3, v3⟩
  refine zw_bi half_65 ?_
  rintro g4 ⟨q4, v4⟩
  refine zw_bi half_66 ?_
  rintro g5 ⟨q5, v5⟩
  refine zw_bi half_67 ?_
  rintro g6 ⟨q6, v6⟩
  refine zw_bi half_68 ?_
  rintro g7 ⟨q7, v7⟩
  refine zw_bi half_69 ?_
  rintro g8 ⟨q8, v8⟩
  refine zw_bi half_70 ?_
  rintro g9 ⟨q9, v9⟩
  refine zw_bi half_71 ?_
  rintro g10 ⟨q10, v10⟩
  refine zw_bi half_72 ?_
  rintro g11 ⟨q11, v11⟩
  have Q : zfm [(336, 346, 0, 9999)] h g11 := ((((((((((q1.sub (L' := [(336, 346, 0, 9999)]) rfl).trans (q2.sub rfl)).trans (q3.sub rfl)).trans (q4.sub rfl)).trans (q5.sub rfl)).trans (q6.sub rfl)).trans (q7.sub rfl)).trans (q8.sub rfl)).trans (q9.sub rfl)).trans (q10.sub rfl)).trans (q11.sub rfl)
  have u336 : ∀ k, k < 5 → g11.1 336 k = h.1 336 (5 + k) := fun k hk => by
    rw [q11.i (o := 336) (k := k) (zin_n1 (by omega)), q10.i (o := 336) (k := k) (zin_n1 (by omega)), q9.i (o := 336) (k := k) (zin_n1 (by omega)), q8.i (o := 336) (k := k) (zin_n1 (by omega)), q7.i (o := 336) (k := k) (zin_n1 (by omega)), q6.i (o := 336) (k := k) (zin_n1 (by omega)), q5.i (o := 336) (k := k) (zin_n1 (by omega)), q4.i (o := 336) (k := k) (zin_n1 (by omega)), q3.i (o := 336) (k := k) (zin_n1 (by omega)), q2.i (o := 336) (k := k) (zin_n1 (by omega)), v1 k hk]
  have u337 : ∀ k, k < 22 → g11.1 337 k = h.1 337 (22 + k) := fun k hk => by
    rw [q11.i (o := 337) (k := k) (zin_n1 (by omega)), q10.i (o := 337) (k := k) (zin_n1 (by omega)), q9.i (o := 337) (k := k) (zin_n1 (by omega)), q8.i (o := 337) (k := k) (zin_n1 (by omega)), q7.i (o := 337) (k := k) (zin_n1 (by omega)), q6.i (o := 337) (k := k) (zin_n1 (by omega)), q5.i (o := 337) (k := k) (zin_n1 (by omega)), q4.i (o := 337) (k := k) (zin_n1 (by omega)), q3.i (o := 337) (k := k) (zin_n1 (by omega)), v2 k hk, q1.i (o := 337) (k := 22 + k) (zin_n1 (by omega))]
  have u338 : ∀ k, k < 22 → g11.1 338 k = h.1 338 (22 + k) := fun k hk => by
    rw [q11.i (o := 338) (k := k) (zin_n1 (by omega)), q10.i (o := 338) (k := k) (zin_n1 (by omega)), q9.i (o := 338) (k := k) (zin_n1 (by omega)), q8.i (o := 338) (k := k) (zin_n1 (by omega)), q7.i (o := 338) (k := k) (zin_n1 (by omega)), q6.i (o := 338) (k := k) (zin_n1 (by omega)), q5.i (o := 338) (k := k) (zin_n1 (by omega)), q4.i (o := 338) (k := k) (zin_n1 (by omega)), v3 k hk, q2.i (o := 338) (k := 22 + k) (zin_n1 (by omega)), q1.i (o := 338) (k := 22 + k) (zin_n1 (by omega))]
  have u339 : ∀ k, k < 66 → g11.1 339 k = h.1 339 (66 + k) := fun k hk => by
    rw [q11.i (o := 339) (k := k) (zin_n1 (by omega)), q10.i (o := 339) (k := k) (zin_n1 (by omega)), q9.i (o := 339) (k := k) (zin_n1 (by omega)), q8.i (o := 339) (k := k) (zin_n1 (by omega)), q7.i (o := 339) (k := k) (zin_n1 (by omega)), q6.i (o := 339) (k := k) (zin_n1 (by omega)), q5.i (o := 339) (k := k) (zin_n1 (by omega)), v4 k hk, q3.i (o := 339) (k := 66 + k) (zin_n1 (by omega)), q2.i (o := 339) (k := 66 + k) (zin_n1 (by omega)), q1.i (o := 339) (k := 66 + k) (zin_n1 (by omega))]
  have u340 : ∀ k, k < 22 → g11.1 340 k = h.1 340 (22 + k) := fun k hk => by
    rw [q11.i (o := 340) (k := k) (zin_n1 (by omega)), q10.i (o := 340) (k := k) (zin_n1 (by omega)), q9.i (o := 340) (k := k) (zin_n1 (by omega)), q8.i (o := 340) (k := k) (zin_n1 (by omega)), q7.i (o := 340) (k := k) (zin_n1 (by omega)), q6.i (o := 340) (k := k) (zin_n1 (by omega)), v5 k hk, q4.i (o := 340) (k := 22 + k) (zin_n1 (by omega)), q3.i (o := 340) (k := 22 + k) (zin_n1 (by omega)), q2.i (o := 340) (k := 22 + k) (zin_n1 (by omega)), q1.i (o := 340) (k := 22 + k) (zin_n1 (by omega))]
  have u341 : ∀ k, k < 6 → g11.1 341 k = h.1 341 (6 + k) := fun k hk => by
    rw [q11.i (o := 341) (k := k) (zin_n1 (by omega)), q10.i (o := 341) (k := k) (zin_n1 (by omega)), q9.i (o := 341) (k := k) (zin_n1 (by omega)), q8.i (o := 341) (k := k) (zin_n1 (by omega)), q7.i (o := 341) (k := k) (zin_n1 (by omega)), v6 k hk, q5.i (o := 341) (k := 6 + k) (zin_n1 (by omega)), q4.i (o := 341) (k := 6 + k) (zin_n1 (by omega)), q3.i (o := 341) (k := 6 + k) (zin_n1 (by omega)), q2.i (o := 341) (k := 6 + k) (zin_n1 (by omega)), q1.i (o := 341) (k := 6 + k) (zin_n1 (by omega))]
  have u342 : ∀ k, k < 6 → g11.1 342 k = h.1 342 (6 + k) := fun k hk => by
    rw [q11.i (o := 342) (k := k) (zin_n1 (by omega)), q10.i (o := 342) (k := k) (zin_n1 (by omega)), q9.i (o := 342) (k := k) (zin_n1 (by omega)), q8.i (o := 342) (k := k) (zin_n1 (by omega)), v7 k hk, q6.i (o := 342) (k := 6 + k) (zin_n1 (by omega)), q5.i (o := 342) (k := 6 + k) (zin_n1 (by omega)), q4.i (o := 342) (k := 6 + k) (zin_n1 (by omega)), q3.i (o := 342) (k := 6 + k) (zin_n1 (by omega)), q2.i (o := 342) (k := 6 + k) (zin_n1 (by omega)), q1.i (o := 342) (k := 6 + k) (zin_n1 (by omega))]
  have u343 : ∀ k, k < 3 → g11.1 343 k = h.1 343 (3 + k) := fun k hk => by
    rw [q11.i (o := 343) (k := k) (zin_n1 (by omega)), q10.i (o := 343) (k := k) (zin_n1 (by omega)), q9.i (o := 343) (k := k) (zin_n1 (by omega)), v8 k hk, q7.i (o := 343) (k := 3 + k) (zin_n1 (by omega)), q6.i (o := 343) (k := 3 + k) (zin_n1 (by omega)), q5.i (o := 343) (k := 3 + k) (zin_n1 (by omega)), q4.i (o := 343) (k := 3 + k) (zin_n1 (by omega)), q3.i (o := 343) (k := 3 + k) (zin_n1 (by omega)), q2.i (o := 343) (k := 3 + k) (zin_n1 (by omega)), q1.i (o := 343) (k := 3 + k) (zin_n1 (by omega))]
  have u344 : ∀ k, k < 18 → g11.1 344 k = h.1 344 (18 + k) := fun k hk => by
    rw [q11.i (o := 344) (k := k) (zin_n1 (by omega)), q10.i (o := 344) (k := k) (zin_n1 (by omega)), v9 k hk, q8.i (o := 344) (k := 18 + k) (zin_n1 (by omega)), q7.i (o := 344) (k := 18 + k) (zin_n1 (by omega)), q6.i (o := 344) (k := 18 + k) (zin_n1 (by omega)), q5.i (o := 344) (k := 18 + k) (zin_n1 (by omega)), q4.i (o := 344) (k := 18 + k) (zin_n1 (by omega)), q3.i (o := 344) (k := 18 + k) (zin_n1 (by omega)), q2.i (o := 344) (k := 18 + k) (zin_n1 (by omega)), q1.i (o := 344) (k := 18 + k) (zin_n1 (by omega))]
  have u345 : ∀ k, k < 22 → g11.1 345 k = h.1 345 (22 + k) := fun k hk => by
    rw [q11.i (o := 345) (k := k) (zin_n1 (by omega)), v10 k hk, q9.i (o := 345) (k := 22 + k) (zin_n1 (by omega)), q8.i (o := 345) (k := 22 + k) (zin_n1 (by omega)), q7.i (o := 345) (k := 22 + k) (zin_n1 (by omega)), q6.i (o := 345) (k := 22 + k) (zin_n1 (by omega)), q5.i (o := 345) (k := 22 + k) (zin_n1 (by omega)), q4.i (o := 345) (k := 22 + k) (zin_n1 (by omega)), q3.i (o := 345) (k := 22 + k) (zin_n1 (by omega)), q2.i (o := 345) (k := 22 + k) (zin_n1 (by omega)), q1.i (o := 345) (k := 22 + k) (zin_n1 (by omega))]
  have u346 : ∀ k, k < 132 → g11.1 346 k = h.1 346 (132 + k) := fun k hk => by
    rw [v11 k hk, q10.i (o := 346) (k := 132 + k) (zin_n1 (by omega)), q9.i (o := 346) (k := 132 + k) (zin_n1 (by omega)), q8.i (o := 346) (k := 132 + k) (zin_n1 (by omega)), q7.i (o := 346) (k := 132 + k) (zin_n1 (by omega)), q6.i (o := 346) (k := 132 + k) (zin_n1 (by omega)), q5.i (o := 346) (k := 132 + k) (zin_n1 (by omega)), q4.i (o := 346) (k := 132 + k) (zin_n1 (by omega)), q3.i (o := 346) (k := 132 + k) (zin_n1 (by omega)), q2.i (o := 346) (k := 132 + k) (zin_n1 (by omega)), q1.i (o := 346) (k := 132 + k) (zin_n1 (by omega))]
  clear q1 q2 q3 q4 q5 q6 q7 q8 q9 q10 q11 v1 v2 v3 v4 v5 v6 v7 v8 v9 v10 v11
  refine zw_bi (P := fun g => zfm [(347, 347, 0, 9999)] g11 g ∧ ∀ k, k < 57 → g.1 347 k = 0) (zw_for 57 (fun k s => s.1 = zJ k ∧ zfm [(347, 347, 0, 9999)] g11 s.2 ∧ ∀ j, j < k → s.2.1 347 j = 0) (by omega) ⟨rfl, zfm.rfl', fun j hj => absurd hj (Nat.not_lt_zero j)⟩ ?_) ?_
  · rintro k ⟨a, g⟩ hk ⟨rfl, hz, hv⟩
    dsimp only at hz hv ⊢
    unfold f_Mod_takeOver_b79
    by_cases h57 : k < 57
    · rw [if_neg (by rw [zJ_lle (n := 57) (by omega) (by decide)]; show ¬ 57 ≤ k; omega), zb_t (by omega) (by omega), zg_tr, Option.bind_some, zJ_c (by omega), zJ_al]
      refine zw_some ⟨h57, rfl, hz.I (zin_1 (by omega) (by omega) (by omega) (by omega)), fun j hj => ?_⟩
      dsimp only
      by_cases e : j = k
      · subst e
        rw [zI_eq]
      · rw [zI_nk e]
        exact hv j (by omega)
    · rw [if_pos (by rw [zJ_lle (n := 57) (by omega) (by decide)]; show 57 ≤ k; omega)]
      exact zw_some ⟨hz, fun j hj => hv j (by omega)⟩
  · rintro g ⟨hz, hv⟩
    rw [Option.bind_some, Option.bind_some, zI_ne (by decide), hz.i (zin_n1 (by omega)), u336 3 (by decide), show 5 + 3 = 8 from rfl, d4, Option.bind_some, Option.bind_some, Option.bind_some]
    have z2 : zfm [(333, 333, 45, 47), (333, 333, 55, 55), (347, 347, 0, 9999)] g11 (zsI (zsI (zsI (zsI (zsI g 347 2 (-1)) 347 3 (zJ (dFl D))) 333 45 0) 333 47 0) 333 55 0) := (((((hz.sub (L' := [(333, 333, 45, 47), (333, 333, 55, 55), (347, 347, 0, 9999)]) rfl).I (by rfl)).I (by rfl)).I (by rfl)).I (by rfl)).I (by rfl)
    have z3 : zfm [(333, 333, 45, 47), (333, 333, 55, 55), (347, 347, 2, 3)] g (zsI (zsI (zsI (zsI (zsI g 347 2 (-1)) 347 3 (zJ (dFl D))) 333 45 0) 333 47 0) 333 55 0) := ((((zfm.rfl'.I (by rfl)).I (by rfl)).I (by rfl)).I (by rfl)).I (by rfl)
    have w2 : (zsI (zsI (zsI (zsI (zsI g 347 2 (-1)) 347 3 (zJ (dFl D))) 333 45 0) 333 47 0) 333 55 0).1 347 2 = -1 := by
      rw [zI_ne (by decide), zI_ne (by decide), zI_ne (by decide), zI_nk (by decide), zI_eq]
    have w3 : (zsI (zsI (zsI (zsI (zsI g 347 2 (-1)) 347 3 (zJ (dFl D))) 333 45 0) 333 47 0) 333 55 0).1 347 3 = zJ (dFl D) := by
      rw [zI_ne (by decide), zI_ne (by decide), zI_ne (by decide), zI_eq]
    have w45 : (zsI (zsI (zsI (zsI (zsI g 347 2 (-1)) 347 3 (zJ (dFl D))) 333 45 0) 333 47 0) 333 55 0).1 333 45 = 0 := by
      rw [zI_nk (by decide), zI_nk (by decide), zI_eq]
    have w47 : (zsI (zsI (zsI (zsI (zsI g 347 2 (-1)) 347 3 (zJ (dFl D))) 333 45 0) 333 47 0) 333 55 0).1 333 47 = 0 := by
      rw [zI_nk (by decide), zI_eq]
    have w55 : (zsI (zsI (zsI (zsI (zsI g 347 2 (-1)) 347 3 (zJ (dFl D))) 333 45 0) 333 47 0) 333 55 0).1 333 55 = 0 := zI_eq
    generalize zsI (zsI (zsI (zsI (zsI g 347 2 (-1)) 347 3 (zJ (dFl D))) 333 45 0) 333 47 0) 333 55 0 = k1 at *
    have Q1 : zfm gLt h k1 := (Q.sub rfl).tr z2 rfl
    have n2 : ∀ a k, a ≠ 333 → a ≠ 347 → k1.1 a k = g11.1 a k := fun a k h1 h2 => z2.i (zin_n3 (by omega) (by omega) (by omega))
    have RN : yRN k1 (gFin D) := by
      refine ⟨⟨?_, ?_, fun l h1 h2 => ?_⟩, fun l hl => ?_, ?_, ?_, fun l hl => ?_, fun l hl => ?_, fun c hc => ?_, fun i hi => ?_⟩
      · rw [n2 _ _ (by decide) (by decide), u336 0 (by decide)]
        exact d1
      · rw [n2 _ _ (by decide) (by decide), u336 1 (by decide)]
        exact d2
      · have h2' : l < dL D := h2
        obtain ⟨b1, b2, b3⟩ := (d7 l h2').2 h1
        have b4 := (hk.1.2.2.2 l h1 h2').2.2.1
        rw [n2 _ _ (by decide) (by decide), u337 l (by omega), n2 _ _ (by decide) (by decide), u338 l (by omega)]
        refine ⟨b1, b2, fun i hi => ?_⟩
        have hi' : i < dmn D l := hi
        have b5 : dmn D l ≤ 3 := b4
        rw [n2 _ _ (by decide) (by decide), u339 (3 * l + i) (by omega), show 66 + (3 * l + i) = 3 * (22 + l) + i by omega]
        exact b3 i hi
      · have hl' : l < dL D := hl
        obtain ⟨b1, b2, b3⟩ := d6 l hl'
        refine ⟨(dT D l).toNat + 2 * (dK D l).toNat, ?_, ?_, ?_⟩
        · cases dT D l <;> cases dK D l <;> decide
        · rw [n2 _ _ (by decide) (by decide), u340 l (by omega)]
          exact b3
        · show (dT D l || dK D l) = _
          cases dT D l <;> cases dK D l <;> rfl
      · rw [n2 _ _ (by decide) (by decide), u336 2 (by decide)]
        exact d3
      · rw [n2 _ _ (by decide) (by decide), u336 3 (by decide)]
        exact d4
      · have hl' : l < dI D := hl
        rw [n2 _ _ (by decide) (by decide), u337 l (by omega), n2 _ _ (by decide) (by decide), u338 l (by omega)]
        exact (d7 l (by omega)).1 hl
      · have hl' : l < dL D := hl
        obtain ⟨b1, b2, b3⟩ := d6 l hl'
        have b4 := (hk.2.1 l hl').2.1
        rw [n2 _ _ (by decide) (by decide), u345 l (by omega)]
        refine ⟨b1, fun i hi => ?_⟩
        have hi' : i < dLn D l := hi
        rw [n2 _ _ (by decide) (by decide), u346 (6 * l + i) (by omega), show 132 + (6 * l + i) = 6 * (22 + l) + i by omega]
        exact b2 i hi
      · have hc' : c < dNc D := hc
        have b4 := (hk.2.2.2.1 c hc').1
        rw [n2 _ _ (by decide) (by decide), u343 c (by omega)]
        refine ⟨(d8 c hc').1, fun k hkk => ?_⟩
        have hkk' : k < dCn D c := hkk
        rw [n2 _ _ (by decide) (by decide), u344 (6 * c + k) (by omega), show 18 + (6 * c + k) = 6 * (3 + c) + k by omega]
        exact (d8 c hc').2 k hkk'
      · have hi' : i < dI D := hi
        rw [n2 _ _ (by decide) (by decide), u341 i (by omega), n2 _ _ (by decide) (by decide), u342 i (by omega)]
        exact d9 i hi'
    refine zw_bi (layDown_r (ok_Fin hk hn).1 RN.1 RN.2.1) ?_
    rintro k2 ⟨q2, L2⟩
    have n3 : ∀ a k, a < 350 → k2.1 a k = k1.1 a k := fun a k h1 => q2.i (zin_n1 (by omega))
    refine zw_some ⟨Q1.tr q2 rfl, RN.fr q2 (fun a k h1 h2 => zin_n1 (by omega)), L2, ⟨⟨?_, ?_, ?_, ?_, ?_, fun k hk => absurd hk (Nat.not_lt_zero k), fun f hf => ?_⟩, ?_, fun i hi => absurd hi (Nat.not_lt_zero i), ?_, fun k hk => absurd hk (Nat.not_lt_zero k), fun k hk => ?_⟩, ?_⟩
    · rw [n3 _ _ (by decide), z3.i (by rfl), hv 0 (by decide)]
      rfl
    · rw [n3 _ _ (by decide), z3.i (by rfl), hv 1 (by decide)]
      rfl
    · rw [n3 _ _ (by decide)]
      exact w2
    · rw [n3 _ _ (by decide)]
      exact w3
    · rw [n3 _ _ (by decide), z3.i (by rfl), hv 4 (by decide)]
      rfl
    · rw [n3 _ _ (by decide), z3.i (zin_n3 (by omega) (by omega) (by omega)), hv _ (by omega)]
      rfl
    · rw [n3 _ _ (by decide), w45]
      rfl
    · rw [n3 _ _ (by decide), w47]
      rfl
    · rw [n3 _ _ (by decide), Q1.i (by
        unfold gLt zin
        simp only [List.any_cons, List.any_nil, Bool.or_false]
        rfl)]
      exact hs k hk
    · rw [n3 _ _ (by decide), w55]
