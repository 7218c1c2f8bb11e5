/-! ===== the reference's program ===== -/
theorem faults_n {h : zH} {N : yN} (hn : yOKn N) (hr : yRN h N) : f_Mod_faults h = some (zJ (2 * yLs N)) := faults_r hn.1 hr.1
theorem firstOpen_r {h : zH} {N : yN} {O : Nat → Bool} (hn : yOKn N) (hr : yRN h N) (hO : ∀ f, f < 2 * yLs N → h.1 362 f = zbI (O f)) : zw (f_Mod_firstOpen h) fun x => (x = -1 ∧ ∀ f, f < 2 * yLs N → O f = false) ∨ ∃ f, f < 2 * yLs N ∧ x = zJ f ∧ O f = true ∧ ∀ j, j < f → O j = false := by
  obtain ⟨⟨e1, e2, e3, e4⟩, -⟩ := id hn
  have e1' : yI N ≤ 6 := e1
  have e3' : yLs N ≤ yI N + 16 := e3
  unfold f_Mod_firstOpen
  refine zw_bi (P := Sum.elim (fun y => ∃ f, f < 2 * yLs N ∧ y = zJ f ∧ O f = true ∧ ∀ j, j < f → O j = false) (fun _ => ∀ f, f < 2 * yLs N → O f = false)) (zw_for (2 * yLs N) (fun k s => s = zJ k ∧ ∀ j, j < k → O j = false) (by omega) ⟨rfl, fun j hj => by omega⟩ ?_) ?_
  · rintro k s hk ⟨rfl, hv⟩
    unfold f_Mod_firstOpen_b2
    rw [faults_n hn hr]
    by_cases hkm : k < 2 * yLs N
    · simp (disch := omega) only [zg_tr, zb_t, zJ_lt, zJ_le, zJ_inj, zJ_ltl, zJ_lel, zJ_eql, zJ_llt, zJ_lle, zJ_leq, zJ_m1, zJ_m1r, zJ_nle_m1, zJ_m1lt, zJ_add, zJ_al, zJ_mull, zJ_c, zJ_mlr, zJ_cl, zJ_sub, zJ_subl, zJ_neg, zJ_divl, zreml, zshl_1, zshr_J, zushr_J, zJ_and1, if_pos, if_neg, Option.bind_some, zI_eq, zI_ne, zI_nk, zI_2, zL_1, zL_eq, zL_ne, zL_nk, zL_22, hO k hkm]
      cases hOk : O k
      · rw [if_pos zbI_f]
        refine zw_some ⟨hkm, rfl, fun j hj => ?_⟩
        by_cases hjk : j = k
        · subst hjk
          exact hOk
        · exact hv j (by omega)
      · rw [if_neg (by decide)]
        exact zw_some ⟨k, hkm, rfl, hOk, hv⟩
    · have : k = 2 * yLs N := by omega
      subst this
      simp (disch := omega) only [zg_tr, zb_t, zJ_lt, zJ_le, zJ_inj, zJ_ltl, zJ_lel, zJ_eql, zJ_llt, zJ_lle, zJ_leq, zJ_m1, zJ_m1r, zJ_nle_m1, zJ_m1lt, zJ_add, zJ_al, zJ_mull, zJ_c, zJ_mlr, zJ_cl, zJ_sub, zJ_subl, zJ_neg, zJ_divl, zreml, zshl_1, zshr_J, zushr_J, zJ_and1, if_pos, if_neg, Option.bind_some, zI_eq, zI_ne, zI_nk, zI_2, zL_1, zL_eq, zL_ne, zL_nk, zL_22]
      exact zw_some hv
  · rintro (y | y) hy
    · obtain ⟨f, h1, rfl, h2, h3⟩ := hy
      exact zw_some (Or.inr ⟨f, h1, rfl, h2, h3⟩)
    · exact zw_some (Or.inl ⟨rfl, hy⟩)
/-- a cube in the reference -/
theorem cube_r {h : zH} {N : yN} {f : Nat} (hn : yOKn N) (hl : yLD h (yE N) (ySb N)) (hf : f < 2 * yLs N) (hfd : 0 < zct (yE N) (ySb N) f (2 ^ yI N)) : ∀ i, i < yI N → h.1 355 (6 * f + i) = zJ (ycb N f i) := by
  have h0 : zlo (yE N) (ySb N) f = 0 := by
    unfold zlo
    rw [if_pos hfd]
  obtain ⟨h1, -⟩ := hl.2 f hf
  exact (h1 h0).2 (ybs_found hn.1 hfd)
theorem agrees_r {h : zH} {N : yN} {m : Nat → Nat} {f : Nat} (hn : yOKn N) (hr : yRN h N) (hl : yLD h (yE N) (ySb N)) (hm : ∀ i, i < yI N → h.1 358 i = zJ (m i)) (hm2 : ∀ i, m i ≤ 2) (hf : f < 2 * yLs N) (hfd : 0 < zct (yE N) (ySb N) f (2 ^ yI N)) : zw (f_Mod_agrees h (zJ f)) fun x => x = zbI (yag (yI N) m (ycb N f)) := by
  obtain ⟨⟨e1, e2, e3, e4⟩, -⟩ := id hn
  have e1' : yI N ≤ 6 := e1
  have e3' : yLs N ≤ yI N + 16 := e3
  have r0 : h.1 336 0 = zJ (yI N) := hr.1.1
  unfold f_Mod_agrees
  refine zw_bi (P := fun x => x = zbI (yag (yI N) m (ycb N f))) (zw_for (yI N) (fun k s => s = (zbI (!zex (fun i => m i != 2 && ycb N f i != 2 && m i != ycb N f i) k), zJ k)) (by omega) rfl ?_) ?_
  · rintro k s hk rfl
    dsimp only
    unfold f_Mod_agrees_b4
    rw [r0]
    by_cases hkm : k < yI N
    · have l2 := ycb_le (N := N) (f := f) (i := k)
      have l1 := hm2 k
      simp (disch := omega) only [zg_tr, zb_t, zJ_lt, zJ_le, zJ_inj, zJ_ltl, zJ_lel, zJ_eql, zJ_llt, zJ_lle, zJ_leq, zJ_m1, zJ_m1r, zJ_nle_m1, zJ_m1lt, zJ_add, zJ_al, zJ_mull, zJ_c, zJ_mlr, zJ_cl, zJ_sub, zJ_subl, zJ_neg, zJ_divl, zreml, zshl_1, zshr_J, zushr_J, zJ_and1, if_pos, if_neg, Option.bind_some, zI_eq, zI_ne, zI_nk, zI_2, zL_1, zL_eq, zL_ne, zL_nk, zL_22, hm k hkm, cube_r hn hl hf hfd k hkm, f_Mod_agrees_j68]
      rw [zex_s]
      cases hz : zex (fun i => m i != 2 && ycb N f i != 2 && m i != ycb N f i) k
      · rw [Bool.not_false, if_neg (by decide), Bool.false_or]
        by_cases c1 : m k = 2
        · rw [if_pos c1]
          exact zw_some ⟨hkm, by simp [c1, zbI]⟩
        · rw [if_neg c1]
          by_cases c2 : ycb N f k = 2
          · rw [if_pos c2]
            exact zw_some ⟨hkm, by simp [c2, zbI]⟩
          · rw [if_neg c2]
            by_cases c3 : m k = ycb N f k
            · simp (disch := omega) only [zg_tr, zb_t, zJ_lt, zJ_le, zJ_inj, zJ_ltl, zJ_lel, zJ_eql, zJ_llt, zJ_lle, zJ_leq, zJ_m1, zJ_m1r, zJ_nle_m1, zJ_m1lt, zJ_add, zJ_al, zJ_mull, zJ_c, zJ_mlr, zJ_cl, zJ_sub, zJ_subl, zJ_neg, zJ_divl, zreml, zshl_1, zshr_J, zushr_J, zJ_and1, if_pos, if_neg, Option.bind_some, zI_eq, zI_ne, zI_nk, zI_2, zL_1, zL_eq, zL_ne, zL_nk, zL_22]
              exact zw_some ⟨hkm, by simp [c3, zbI]⟩
            · simp (disch := omega) only [zg_tr, zb_t, zJ_lt, zJ_le, zJ_inj, zJ_ltl, zJ_lel, zJ_eql, zJ_llt, zJ_lle, zJ_leq, zJ_m1, zJ_m1r, zJ_nle_m1, zJ_m1lt, zJ_add, zJ_al, zJ_mull, zJ_c, zJ_mlr, zJ_cl, zJ_sub, zJ_subl, zJ_neg, zJ_divl, zreml, zshl_1, zshr_J, zushr_J, zJ_and1, if_pos, if_neg, Option.bind_some, zI_eq, zI_ne, zI_nk, zI_2, zL_1, zL_eq, zL_ne, zL_nk, zL_22]
              exact zw_some ⟨hkm, by simp [c1, c2, c3, zbI]⟩
      · rw [Bool.not_true, if_pos zbI_f]
        exact zw_some ⟨hkm, by simp [zbI]⟩
    · have : k = yI N := by omega
      subst this
      simp (disch := omega) only [zg_tr, zb_t, zJ_lt, zJ_le, zJ_inj, zJ_ltl, zJ_lel, zJ_eql, zJ_llt, zJ_lle, zJ_leq, zJ_m1, zJ_m1r, zJ_nle_m1, zJ_m1lt, zJ_add, zJ_al, zJ_mull, zJ_c, zJ_mlr, zJ_cl, zJ_sub, zJ_subl, zJ_neg, zJ_divl, zreml, zshl_1, zshr_J, zushr_J, zJ_and1, if_pos, if_neg, Option.bind_some, zI_eq, zI_ne, zI_nk, zI_2, zL_1, zL_eq, zL_ne, zL_nk, zL_22]
      exact zw_some rfl
  · rintro y rfl
    rw [zbI_bo]
    exact zw_some rfl
theorem merge_r {h : zH} {N : yN} {m : Nat → Nat} {f : Nat} (hn : yOKn N) (hr : yRN h N) (hl : yLD h (yE N) (ySb N)) (hm : ∀ i, i < yI N → h.1 358 i = zJ (m i)) (hm2 : ∀ i, m i ≤ 2) (hf : f < 2 * yLs N) (hfd : 0 < zct (yE N) (ySb N) f (2 ^ yI N)) : zw (f_Mod_merge h (zJ f)) fun g => zfm [(358, 358, 0, 9999)] h g ∧ ∀ i, i < yI N → g.1 358 i = zJ (if m i = 2 then ycb N f i else m i) := by
  obtain ⟨⟨e1, e2, e3, e4⟩, -⟩ := id hn
  have e1' : yI N ≤ 6 := e1
  have e3' : yLs N ≤ yI N + 16 := e3
  unfold f_Mod_merge
  refine zw_bi (P := fun g => zfm [(358, 358, 0, 9999)] h g ∧ ∀ i, i < yI N → g.1 358 i = zJ (if m i = 2 then ycb N f i else m i)) (zw_for (yI N) (fun k s => s.1 = zJ k ∧ zfm [(358, 358, 0, 9999)] h s.2 ∧ ∀ i, i < yI N → s.2.1 358 i = zJ (if i < k ∧ m i = 2 then ycb N f i else m i)) (by omega) ⟨rfl, zfm.rfl', fun i hi => by rw [if_neg (by omega)]; exact hm i hi⟩ ?_) (fun x hx => zw_some hx)
  rintro k ⟨i, g⟩ hk ⟨rfl, hz, hv⟩
  dsimp only at hz hv ⊢
  have r0 : g.1 336 0 = zJ (yI N) := (hz.i (by rfl)).trans hr.1.1
  unfold f_Mod_merge_b2
  by_cases hkm : k < yI N
  · have l1 := hm2 k
    have hvk := hv k hkm
    rw [if_neg (by omega)] at hvk
    have hck : g.1 355 (6 * f + k) = zJ (ycb N f k) := (hz.i (by rfl)).trans (cube_r hn hl hf hfd k hkm)
    have stp : ∀ v : Nat, v = (if m k = 2 then ycb N f k else m k) → zw (f_Mod_merge_j47 g (zJ f) (zJ k) (zJ v) (zJ k)) (Sum.elim (fun s' => k < yI N ∧ s'.1 = zJ (k + 1) ∧ zfm [(358, 358, 0, 9999)] h s'.2 ∧ ∀ i, i < yI N → s'.2.1 358 i = zJ (if i < k + 1 ∧ m i = 2 then ycb N f i else m i)) fun g => zfm [(358, 358, 0, 9999)] h g ∧ ∀ i, i < yI N → g.1 358 i = zJ (if m i = 2 then ycb N f i else m i)) := by
      intro v hve
      unfold f_Mod_merge_j47
      simp (disch := omega) only [zg_tr, zb_t, zJ_lt, zJ_le, zJ_inj, zJ_ltl, zJ_lel, zJ_eql, zJ_llt, zJ_lle, zJ_leq, zJ_m1, zJ_m1r, zJ_nle_m1, zJ_m1lt, zJ_add, zJ_al, zJ_mull, zJ_c, zJ_mlr, zJ_cl, zJ_sub, zJ_subl, zJ_neg, zJ_divl, zreml, zshl_1, zshr_J, zushr_J, zJ_and1, if_pos, if_neg, Option.bind_some, zI_eq, zI_ne, zI_nk, zI_2, zL_1, zL_eq, zL_ne, zL_nk, zL_22]
      refine zw_some ⟨hkm, rfl, hz.I (zin_1 (by omega) (by omega) (by omega) (by omega)), fun i hi => ?_⟩
      dsimp only
      by_cases hik : i = k
      · subst hik
        rw [zI_eq, hve]
        by_cases c : m i = 2
        · rw [if_pos c, if_pos ⟨by omega, c⟩]
        · rw [if_neg c, if_neg (fun h => c h.2)]
      · rw [zI_nk hik, hv i hi]
        by_cases c : i < k ∧ m i = 2
        · rw [if_pos c, if_pos ⟨by omega, c.2⟩]
        · rw [if_neg c, if_neg (by omega)]
    simp (disch := omega) only [zg_tr, zb_t, zJ_lt, zJ_le, zJ_inj, zJ_ltl, zJ_lel, zJ_eql, zJ_llt, zJ_lle, zJ_leq, zJ_m1, zJ_m1r, zJ_nle_m1, zJ_m1lt, zJ_add, zJ_al, zJ_mull, zJ_c, zJ_mlr, zJ_cl, zJ_sub, zJ_subl, zJ_neg, zJ_divl, zreml, zshl_1, zshr_J, zushr_J, zJ_and1, if_pos, if_neg, Option.bind_some, zI_eq, zI_ne, zI_nk, zI_2, zL_1, zL_eq, zL_ne, zL_nk, zL_22, r0, hvk, hck]
    by_cases c : m k = 2
    · simp (disch := omega) only [zg_tr, zb_t, zJ_lt, zJ_le, zJ_inj, zJ_ltl, zJ_lel, zJ_eql, zJ_llt, zJ_lle, zJ_leq, zJ_m1, zJ_m1r, zJ_nle_m1, zJ_m1lt, zJ_add, zJ_al, zJ_mull, zJ_c, zJ_mlr, zJ_cl, zJ_sub, zJ_subl, zJ_neg, zJ_divl, zreml, zshl_1, zshr_J, zushr_J, zJ_and1, if_pos, if_neg, Option.bind_some, zI_eq, zI_ne, zI_nk, zI_2, zL_1, zL_eq, zL_ne, zL_nk, zL_22]
      exact stp _ (by rw [if_pos c])
    · simp (disch := omega) only [zg_tr, zb_t, zJ_lt, zJ_le, zJ_inj, zJ_ltl, zJ_lel, zJ_eql, zJ_llt, zJ_lle, zJ_leq, zJ_m1, zJ_m1r, zJ_nle_m1, zJ_m1lt, zJ_add, zJ_al, zJ_mull, zJ_c, zJ_mlr, zJ_cl, zJ_sub, zJ_subl, zJ_neg, zJ_divl, zreml, zshl_1, zshr_J, zushr_J, zJ_and1, if_pos, if_neg, Option.bind_some, zI_eq, zI_ne, zI_nk, zI_2, zL_1, zL_eq, zL_ne, zL_nk, zL_22]
      exact stp _ (by rw [if_neg c])
  · have : k = yI N := by omega
    subst this
    simp (disch := omega) only [zg_tr, zb_t, zJ_lt, zJ_le, zJ_inj, zJ_ltl, zJ_lel, zJ_eql, zJ_llt, zJ_lle, zJ_leq, zJ_m1, zJ_m1r, zJ_nle_m1, zJ_m1lt, zJ_add, zJ_al, zJ_mull, zJ_c, zJ_mlr, zJ_cl, zJ_sub, zJ_subl, zJ_neg, zJ_divl, zreml, zshl_1, zshr_J, zushr_J, zJ_and1, if_pos, if_neg, Option.bind_some, zI_eq, zI_ne, zI_nk, zI_2, zL_1, zL_eq, zL_ne, zL_nk, zL_22, r0]
    refine zw_some ⟨hz, fun i hi => ?_⟩
    rw [hv i hi]
    by_cases c : m i = 2
    · rw [if_pos c, if_pos ⟨hi, c⟩]
    · rw [if_neg c, if_neg (fun h => c h.2)]
theorem cellAt_r {h : zH} {N : yN} {c k : Nat} (hn : yOKn N) (hr : yRN h N) (hc : c < yNc N) (hk : k < yCn N c) : f_Mod_cellAt h (zJ c) (zJ k) = some (zJ (yCl N c k)) := by
  obtain ⟨-, -, n3, n4, -⟩ := hn
  obtain ⟨c1, c2, -⟩ := n4 c hc
  obtain ⟨-, -, -, -, -, -, r7, -⟩ := hr
  have := (r7 c hc).2 k hk
  unfold f_Mod_cellAt
  simp (disch := omega) only [zg_tr, zb_t, zJ_lt, zJ_le, zJ_inj, zJ_ltl, zJ_lel, zJ_eql, zJ_llt, zJ_lle, zJ_leq, zJ_m1, zJ_m1r, zJ_nle_m1, zJ_m1lt, zJ_add, zJ_al, zJ_mull, zJ_c, zJ_mlr, zJ_cl, zJ_sub, zJ_subl, zJ_neg, zJ_divl, zreml, zshl_1, zshr_J, zushr_J, zJ_and1, if_pos, if_neg, Option.bind_some, zI_eq, zI_ne, zI_nk, zI_2, zL_1, zL_eq, zL_ne, zL_nk, zL_22, this]
/-- filled so far, in the reference -/
def yRF (N : yN) (m : Nat → Nat) (c k : Nat) (row : Nat → Int32) : Prop := ∀ j, j < yI N → (yFD N c k j → row j = zJ (yfl N m 2 j)) ∧ (¬ yFD N c k j → row j = zJ (m j))
theorem yFD_not {N : yN} {c k j : Nat} (hn : yOKn N) (hc : c < yNc N) (hk : j < yCn N c) (hj : k ≤ j) : ¬ yFD N c k (yCl N c j) := by
  obtain ⟨-, -, -, n4, -⟩ := hn
  obtain ⟨-, -, c3, c4, -⟩ := n4 c hc
  have hco := (c3 j hk).2
  rintro ⟨d1, d2 | ⟨i, d2, d3, d4⟩⟩
  · omega
  · have := c4 i j (by omega) hk d4
    omega
theorem yFD_next {N : yN} {c k j : Nat} (hjc : j ≠ yCl N c k) : yFD N c (k + 1) j ↔ yFD N c k j := by
  unfold yFD
  constructor
  · rintro ⟨d1, d2 | ⟨i, d2, d3, d4⟩⟩
    · exact ⟨d1, Or.inl d2⟩
    · by_cases hik : i = k
      · subst hik
        exact absurd d4.symm hjc
      · exact ⟨d1, Or.inr ⟨i, by omega, d3, d4⟩⟩
  · rintro ⟨d1, d2 | ⟨i, d2, d3, d4⟩⟩
    · exact ⟨d1, Or.inl d2⟩
    · exact ⟨d1, Or.inr ⟨i, by omega, d3, d4⟩⟩
theorem yFD_end {N : yN} {c j : Nat} (hn : yOKn N) (hc : c < yNc N) (hji : j < yI N) : yFD N (c + 1) 0 j ↔ yFD N c (yCn N c) j := by
  obtain ⟨-, -, -, n4, -⟩ := hn
  obtain ⟨-, -, -, -, c5, -⟩ := n4 c hc
  unfold yFD
  constructor
  · rintro ⟨d1, d2 | ⟨i, d2, d3, d4⟩⟩
    · by_cases hcc : yCo N j = c + 1
      · obtain ⟨i, i1, i2⟩ := c5 j hji hcc
        exact ⟨d1, Or.inr ⟨i, i1, hcc, i2⟩⟩
      · exact ⟨d1, Or.inl (by omega)⟩
    · omega
  · rintro ⟨d1, d2 | ⟨i, d2, d3, d4⟩⟩
    · exact ⟨d1, Or.inl (by omega)⟩
    · exact ⟨d1, Or.inl (by omega)⟩
theorem chainFirst_r {h : zH} {N : yN} {m : Nat → Nat} {c : Nat} {v1 : Int32} (hn : yOKn N) (hr : yRN h N) (hm2 : ∀ i, m i ≤ 2) (hc : c < yNc N) (hp : yRF N m c 0 (h.1 358)) : zw (zit zFU (fun s : Int32 × Int32 => f_Mod_filled_b36 h v1 (zJ c) s.1 s.2) (0, zJ (yCn N c) - 1)) fun x => x = zJ (yfs N m c (yCn N c)) := by
  obtain ⟨⟨e1, -⟩, -, n3, n4, -⟩ := id hn
  have e1' : yI N ≤ 6 := e1
  obtain ⟨c1, c2, c3, -⟩ := n4 c hc
  have h0 : zJ (yCn N c) - 1 = zfj (yCn N c - 0) := by
    rw [Int32.sub_eq_add_neg, zfj_dn (by omega)]
    rfl
  rw [h0]
  refine zw_for (yCn N c) (fun k s => s.1 = zJ (yfs N m c k) ∧ s.2 = zfj (yCn N c - k)) (by omega) ⟨rfl, rfl⟩ ?_
  rintro k ⟨a, b⟩ hk ⟨rfl, rfl⟩
  dsimp only
  unfold f_Mod_filled_b36
  by_cases hkm : k < yCn N c
  · obtain ⟨j, hj⟩ : ∃ j, yCn N c - k = j + 1 := ⟨yCn N c - k - 1, by omega⟩
    have hjk : yCn N c - (k + 1) = j := by omega
    have hj2 : yCn N c - 1 - k = j := by omega
    have hcl := (c3 j (by omega)).1
    have hrow : h.1 358 (yCl N c j) = zJ (m (yCl N c j)) := (hp _ hcl).2 (yFD_not hn hc (by omega) (by omega))
    have l1 := hm2 (yCl N c j)
    rw [hj, zfj_s]
    simp (disch := omega) only [zg_tr, zb_t, zJ_lt, zJ_le, zJ_inj, zJ_ltl, zJ_lel, zJ_eql, zJ_llt, zJ_lle, zJ_leq, zJ_m1, zJ_m1r, zJ_nle_m1, zJ_m1lt, zJ_add, zJ_al, zJ_mull, zJ_c, zJ_mlr, zJ_cl, zJ_sub, zJ_subl, zJ_neg, zJ_divl, zreml, zshl_1, zshr_J, zushr_J, zJ_and1, if_pos, if_neg, Option.bind_some, zI_eq, zI_ne, zI_nk, zI_2, zL_1, zL_eq, zL_ne, zL_nk, zL_22, cellAt_r hn hr hc, hrow, f_Mod_filled_j73]
    rw [zfj_dn (by omega), hjk]
    by_cases c : m (yCl N c j) = 2
    · simp (disch := omega) only [zg_tr, zb_t, zJ_lt, zJ_le, zJ_inj, zJ_ltl, zJ_lel, zJ_eql, zJ_llt, zJ_lle, zJ_leq, zJ_m1, zJ_m1r, zJ_nle_m1, zJ_m1lt, zJ_add, zJ_al, zJ_mull, zJ_c, zJ_mlr, zJ_cl, zJ_sub, zJ_subl, zJ_neg, zJ_divl, zreml, zshl_1, zshr_J, zushr_J, zJ_and1, if_pos, if_neg, Option.bind_some, zI_eq, zI_ne, zI_nk, zI_2, zL_1, zL_eq, zL_ne, zL_nk, zL_22]
      refine zw_some ⟨hkm, ?_, rfl⟩
      dsimp only
      rw [yfs, hj2, if_pos c]
    · simp (disch := omega) only [zg_tr, zb_t, zJ_lt, zJ_le, zJ_inj, zJ_ltl, zJ_lel, zJ_eql, zJ_llt, zJ_lle, zJ_leq, zJ_m1, zJ_m1r, zJ_nle_m1, zJ_m1lt, zJ_add, zJ_al, zJ_mull, zJ_c, zJ_mlr, zJ_cl, zJ_sub, zJ_subl, zJ_neg, zJ_divl, zreml, zshl_1, zshr_J, zushr_J, zJ_and1, if_pos, if_neg, Option.bind_some, zI_eq, zI_ne, zI_nk, zI_2, zL_1, zL_eq, zL_ne, zL_nk, zL_22]
      refine zw_some ⟨hkm, ?_, rfl⟩
      dsimp only
      rw [yfs, hj2, if_neg c]
  · have : k = yCn N c := by omega
    subst this
    rw [Nat.sub_self, if_pos ((zfj_lt0 (by omega)).mpr rfl)]
    exact zw_some rfl
theorem chainFill_r {h : zH} {N : yN} {m : Nat → Nat} {c : Nat} {v1 : Int32} (hn : yOKn N) (hr : yRN h N) (hm2 : ∀ i, m i ≤ 2) (hc : c < yNc N) (hp : yRF N m c 0 (h.1 358)) : zw (zit zFU (fun s : Int32 × Int32 × zH => f_Mod_filled_b83 s.2.2 v1 (zJ c) s.1 s.2.1) (zJ (yfs N m c (yCn N c)), 0, h)) fun g => zfm [(358, 358, 0, 9999)] h g ∧ yRF N m (c + 1) 0 (g.1 358) := by
  obtain ⟨⟨e1, -⟩, -, n3, n4, -⟩ := id hn
  have e1' : yI N ≤ 6 := e1
  obtain ⟨c1, c2, c3, c4, -⟩ := n4 c hc
  refine zw_for (yCn N c) (fun k s => s.1 = zJ (if k = 0 then yfs N m c (yCn N c) else yfv N m c (k - 1)) ∧ s.2.1 = zJ k ∧ zfm [(358, 358, 0, 9999)] h s.2.2 ∧ yRF N m c k (s.2.2.1 358)) (by omega) ⟨rfl, rfl, zfm.rfl', hp⟩ ?_
  rintro k ⟨a, b, g⟩ hk ⟨rfl, rfl, hz, hv⟩
  dsimp only at hz hv ⊢
  have hrg : yRN g N := hr.fr hz (fun a k h1 h2 => zin_n1 (by omega))
  have r7 := hrg.2.2.2.2.2.2.1 c hc
  unfold f_Mod_filled_b83
  by_cases hkm : k < yCn N c
  · obtain ⟨hcl, hco⟩ := c3 k hkm
    have hrow : g.1 358 (yCl N c k) = zJ (m (yCl N c k)) := (hv _ hcl).2 (yFD_not hn hc hkm (Nat.le_refl k))
    have l1 := hm2 (yCl N c k)
    have hvv : yfv N m c k = if m (yCl N c k) = 2 then (if k = 0 then yfs N m c (yCn N c) else yfv N m c (k - 1)) else m (yCl N c k) := by
      cases k with
      | zero => rw [yfv, if_pos rfl]
      | succ k => rw [yfv, if_neg (Nat.succ_ne_zero k), Nat.add_sub_cancel]
    have stp : ∀ v : Nat, v = yfv N m c k → zw (f_Mod_filled_j131 g v1 (zJ c) (zJ k) (zJ (yCl N c k)) (zJ v) (zJ (yCl N c k))) (Sum.elim (fun s' => k < yCn N c ∧ s'.1 = zJ (if k + 1 = 0 then yfs N m c (yCn N c) else yfv N m c (k + 1 - 1)) ∧ s'.2.1 = zJ (k + 1) ∧ zfm [(358, 358, 0, 9999)] h s'.2.2 ∧ yRF N m c (k + 1) (s'.2.2.1 358)) fun g => zfm [(358, 358, 0, 9999)] h g ∧ yRF N m (c + 1) 0 (g.1 358)) := by
      intro v hve
      subst hve
      unfold f_Mod_filled_j131
      simp (disch := omega) only [zg_tr, zb_t, zJ_lt, zJ_le, zJ_inj, zJ_ltl, zJ_lel, zJ_eql, zJ_llt, zJ_lle, zJ_leq, zJ_m1, zJ_m1r, zJ_nle_m1, zJ_m1lt, zJ_add, zJ_al, zJ_mull, zJ_c, zJ_mlr, zJ_cl, zJ_sub, zJ_subl, zJ_neg, zJ_divl, zreml, zshl_1, zshr_J, zushr_J, zJ_and1, if_pos, if_neg, Option.bind_some, zI_eq, zI_ne, zI_nk, zI_2, zL_1, zL_eq, zL_ne, zL_nk, zL_22]
      refine zw_some ⟨hkm, by rw [Nat.add_sub_cancel], rfl, hz.I (zin_1 (by omega) (by omega) (by omega) (by omega)), fun j hj => ?_⟩
      dsimp only
      by_cases hjc : j = yCl N c k
      · subst hjc
        rw [zI_eq]
        have hd : yFD N c (k + 1) (yCl N c k) := ⟨by omega, Or.inr ⟨k, by omega, hco, rfl⟩⟩
        exact ⟨fun _ => by rw [yfl_cell hn hc hkm], fun hnd => absurd hd hnd⟩
      · rw [zI_nk hjc, yFD_next hjc]
        exact hv j hj
    simp (disch := omega) only [zg_tr, zb_t, zJ_lt, zJ_le, zJ_inj, zJ_ltl, zJ_lel, zJ_eql, zJ_llt, zJ_lle, zJ_leq, zJ_m1, zJ_m1r, zJ_nle_m1, zJ_m1lt, zJ_add, zJ_al, zJ_mull, zJ_c, zJ_mlr, zJ_cl, zJ_sub, zJ_subl, zJ_neg, zJ_divl, zreml, zshl_1, zshr_J, zushr_J, zJ_and1, if_pos, if_neg, Option.bind_some, zI_eq, zI_ne, zI_nk, zI_2, zL_1, zL_eq, zL_ne, zL_nk, zL_22, r7.1, cellAt_r hn hrg hc, hrow]
    by_cases c : m (yCl N c k) = 2
    · simp (disch := omega) only [zg_tr, zb_t, zJ_lt, zJ_le, zJ_inj, zJ_ltl, zJ_lel, zJ_eql, zJ_llt, zJ_lle, zJ_leq, zJ_m1, zJ_m1r, zJ_nle_m1, zJ_m1lt, zJ_add, zJ_al, zJ_mull, zJ_c, zJ_mlr, zJ_cl, zJ_sub, zJ_subl, zJ_neg, zJ_divl, zreml, zshl_1, zshr_J, zushr_J, zJ_and1, if_pos, if_neg, Option.bind_some, zI_eq, zI_ne, zI_nk, zI_2, zL_1, zL_eq, zL_ne, zL_nk, zL_22]
      exact stp _ (by rw [hvv, if_pos c])
    · simp (disch := omega) only [zg_tr, zb_t, zJ_lt, zJ_le, zJ_inj, zJ_ltl, zJ_lel, zJ_eql, zJ_llt, zJ_lle, zJ_leq, zJ_m1, zJ_m1r, zJ_nle_m1, zJ_m1lt, zJ_add, zJ_al, zJ_mull, zJ_c, zJ_mlr, zJ_cl, zJ_sub, zJ_subl, zJ_neg, zJ_divl, zreml, zshl_1, zshr_J, zushr_J, zJ_and1, if_pos, if_neg, Option.bind_some, zI_eq, zI_ne, zI_nk, zI_2, zL_1, zL_eq, zL_ne, zL_nk, zL_22]
      exact stp _ (by rw [hvv, if_neg c])
  · have : k = yCn N c := by omega
    subst this
    simp (disch := omega) only [zg_tr, zb_t, zJ_lt, zJ_le, zJ_inj, zJ_ltl, zJ_lel, zJ_eql, zJ_llt, zJ_lle, zJ_leq, zJ_m1, zJ_m1r, zJ_nle_m1, zJ_m1lt, zJ_add, zJ_al, zJ_mull, zJ_c, zJ_mlr, zJ_cl, zJ_sub, zJ_subl, zJ_neg, zJ_divl, zreml, zshl_1, zshr_J, zushr_J, zJ_and1, if_pos, if_neg, Option.bind_some, zI_eq, zI_ne, zI_nk, zI_2, zL_1, zL_eq, zL_ne, zL_nk, zL_22, r7.1]
    refine zw_some ⟨hz, fun j hj => ?_⟩
    rw [yFD_end hn hc hj]
    exact hv j hj
theorem filled_r {h : zH} {N : yN} {m : Nat → Nat} {fl : Nat} (hn : yOKn N) (hr : yRN h N) (hm : ∀ i, i < yI N → h.1 358 i = zJ (m i)) (hm2 : ∀ i, m i ≤ 2) (hfl : fl ≤ 2) (h3 : h.1 347 3 = zJ fl) : zw (f_Mod_filled h) fun y => y.1 = zJ (yrn (yfl N m fl) (yI N)) ∧ zfm [(358, 358, 0, 9999)] h y.2 := by
  obtain ⟨⟨e1, -⟩, -, n3, n4, n5, -⟩ := id hn
  have e1' : yI N ≤ 6 := e1
  unfold f_Mod_filled
  rw [h3]
  refine zw_bi (P := fun g => zfm [(358, 358, 0, 9999)] h g ∧ ∀ i, i < yI N → ∃ v, v ≤ 2 ∧ g.1 358 i = zJ v ∧ yfl N m fl i = if v = 2 then fl % 2 else v) (zw_for (yNc N) (fun k s => s.1 = zJ k ∧ zfm [(358, 358, 0, 9999)] h s.2 ∧ (fl = 2 → yRF N m k 0 (s.2.1 358)) ∧ (fl ≠ 2 → k = 0 ∧ s.2 = h)) (by omega) ⟨rfl, zfm.rfl', fun _ j hj => ⟨fun hd => ?_, fun _ => hm j hj⟩, fun _ => ⟨rfl, rfl⟩⟩ ?_) ?_
  · obtain ⟨d1, d2 | ⟨i, d2, -⟩⟩ := hd
    · omega
    · omega
  · rintro k ⟨i, g⟩ hk ⟨rfl, hz, hv, hnv⟩
    dsimp only at hz hv hnv ⊢
    have hrg : yRN g N := hr.fr hz (fun a k h1 h2 => zin_n1 (by omega))
    have r2 := hrg.2.2.1
    unfold f_Mod_filled_b9
    rw [r2]
    by_cases h2 : fl = 2
    · have hw := hv h2
      clear hv
      subst h2
      by_cases hkm : k < yNc N
      · have r7 := (hrg.2.2.2.2.2.2.1 k hkm).1
        simp (disch := omega) only [zg_tr, zb_t, zJ_lt, zJ_le, zJ_inj, zJ_ltl, zJ_lel, zJ_eql, zJ_llt, zJ_lle, zJ_leq, zJ_m1, zJ_m1r, zJ_nle_m1, zJ_m1lt, zJ_add, zJ_al, zJ_mull, zJ_c, zJ_mlr, zJ_cl, zJ_sub, zJ_subl, zJ_neg, zJ_divl, zreml, zshl_1, zshr_J, zushr_J, zJ_and1, if_pos, if_neg, Option.bind_some, zI_eq, zI_ne, zI_nk, zI_2, zL_1, zL_eq, zL_ne, zL_nk, zL_22, r7]
        refine zw_bi (chainFirst_r hn hrg hm2 hkm hw) ?_
        rintro x rfl
        refine zw_bi (chainFill_r hn hrg hm2 hkm hw) ?_
        rintro g2 ⟨q1, q2⟩
        exact zw_some ⟨hkm, by simp (disch := omega) only [zg_tr, zb_t, zJ_lt, zJ_le, zJ_inj, zJ_ltl, zJ_lel, zJ_eql, zJ_llt, zJ_lle, zJ_leq, zJ_m1, zJ_m1r, zJ_nle_m1, zJ_m1lt, zJ_add, zJ_al, zJ_mull, zJ_c, zJ_mlr, zJ_cl, zJ_sub, zJ_subl, zJ_neg, zJ_divl, zreml, zshl_1, zshr_J, zushr_J, zJ_and1, if_pos, if_neg, Option.bind_some, zI_eq, zI_ne, zI_nk, zI_2, zL_1, zL_eq, zL_ne, zL_nk, zL_22], hz.trans q1, fun _ => q2, fun h => absurd rfl h⟩
      · have : k = yNc N := by omega
        subst this
        simp (disch := omega) only [zg_tr, zb_t, zJ_lt, zJ_le, zJ_inj, zJ_ltl, zJ_lel, zJ_eql, zJ_llt, zJ_lle, zJ_leq, zJ_m1, zJ_m1r, zJ_nle_m1, zJ_m1lt, zJ_add, zJ_al, zJ_mull, zJ_c, zJ_mlr, zJ_cl, zJ_sub, zJ_subl, zJ_neg, zJ_divl, zreml, zshl_1, zshr_J, zushr_J, zJ_and1, if_pos, if_neg, Option.bind_some, zI_eq, zI_ne, zI_nk, zI_2, zL_1, zL_eq, zL_ne, zL_nk, zL_22]
        refine zw_some ⟨hz, fun j hj => ?_⟩
        obtain ⟨v1, v2⟩ := hw j hj
        by_cases hco : yCo N j = 0
        · refine ⟨m j, hm2 j, v2 (fun hd => hd.1 hco), ?_⟩
          rw [yfl_pin (fun h => h.2 hco)]
        · have := yfl_lt (N := N) (fl := 2) (i := j) hm2
          refine ⟨yfl N m 2 j, by omega, v1 ⟨hco, Or.inl (n5 j hj).1⟩, ?_⟩
          rw [if_neg (by omega)]
    · obtain ⟨rfl, rfl⟩ := hnv h2
      have fin : ∀ i, i < yI N → ∃ v, v ≤ 2 ∧ g.1 358 i = zJ v ∧ yfl N m fl i = if v = 2 then fl % 2 else v := fun i hi => ⟨m i, hm2 i, hm i hi, by rw [yfl_pin (fun h => h2 h.1)]⟩
      by_cases hkm : 0 < yNc N
      · simp (disch := omega) only [zg_tr, zb_t, zJ_lt, zJ_le, zJ_inj, zJ_ltl, zJ_lel, zJ_eql, zJ_llt, zJ_lle, zJ_leq, zJ_m1, zJ_m1r, zJ_nle_m1, zJ_m1lt, zJ_add, zJ_al, zJ_mull, zJ_c, zJ_mlr, zJ_cl, zJ_sub, zJ_subl, zJ_neg, zJ_divl, zreml, zshl_1, zshr_J, zushr_J, zJ_and1, if_pos, if_neg, Option.bind_some, zI_eq, zI_ne, zI_nk, zI_2, zL_1, zL_eq, zL_ne, zL_nk, zL_22]
        exact zw_some ⟨hz, fin⟩
      · simp (disch := omega) only [zg_tr, zb_t, zJ_lt, zJ_le, zJ_inj, zJ_ltl, zJ_lel, zJ_eql, zJ_llt, zJ_lle, zJ_leq, zJ_m1, zJ_m1r, zJ_nle_m1, zJ_m1lt, zJ_add, zJ_al, zJ_mull, zJ_c, zJ_mlr, zJ_cl, zJ_sub, zJ_subl, zJ_neg, zJ_divl, zreml, zshl_1, zshr_J, zushr_J, zJ_and1, if_pos, if_neg, Option.bind_some, zI_eq, zI_ne, zI_nk, zI_2, zL_1, zL_eq, zL_ne, zL_nk, zL_22]
        exact zw_some ⟨hz, fin⟩
  · rintro g ⟨q1, q2⟩
    have r0 : g.1 336 0 = zJ (yI N) := (q1.i (by rfl)).trans hr.1.1
    have hfin : ∀ x : Int32, (∀ j, j < 32 → zBi x j = (decide (j < yI N) && yfl N m fl j == 1)) → x = zJ (yrn (yfl N m fl) (yI N)) := by
      intro x hx
      apply zBi_ext
      intro j hj
      rw [hx j hj, zJ_bit hj, yrn_bit (fun i _ => yfl_lt hm2)]
    refine zw_bi (P := fun x => x = zJ (yrn (yfl N m fl) (yI N))) (zw_for (yI N) (fun k s => s.2 = zJ k ∧ ∀ j, j < 32 → zBi s.1 j = (decide (j < k) && yfl N m fl j == 1)) (by omega) ⟨rfl, fun j hj => by rw [zBi_0]; simp⟩ ?_) ?_
    · rintro k ⟨a, i⟩ hk ⟨rfl, hv⟩
      dsimp only at hv ⊢
      unfold f_Mod_filled_b156
      by_cases hkm : k < yI N
      · obtain ⟨v, v1, v2, v3⟩ := q2 k hkm
        have hb := yfl_lt (N := N) (fl := fl) (i := k) hm2
        have stp : ∀ w : Nat, w = yfl N m fl k → zw (some (.inl (a ||| zshl (zJ w) (zJ k), zJ (k + 1)))) (Sum.elim (fun s' : Int32 × Int32 => k < yI N ∧ s'.2 = zJ (k + 1) ∧ ∀ j, j < 32 → zBi s'.1 j = (decide (j < k + 1) && yfl N m fl j == 1)) fun x => x = zJ (yrn (yfl N m fl) (yI N))) := by
          intro w hw
          refine zw_some ⟨hkm, rfl, fun j hj => ?_⟩
          dsimp only
          rw [zBi_or, zshl_J (by omega), zJ_bit hj, hv j hj, hw]
          by_cases hjk : j = k
          · subst hjk
            rcases (by omega : yfl N m fl j = 0 ∨ yfl N m fl j = 1) with d | d
            · rw [d]; simp
            · rw [d]; simp [Nat.testBit_two_pow]
          · have h0 : (yfl N m fl k * 2 ^ k).testBit j = false := by
              rcases (by omega : yfl N m fl k = 0 ∨ yfl N m fl k = 1) with d | d
              · rw [d]; simp
              · rw [d, Nat.one_mul, Nat.testBit_two_pow]
                simp
                omega
            rw [h0, Bool.or_false]
            by_cases hlt : j < k
            · simp [hlt, show j < k + 1 by omega]
            · simp [hlt, show ¬ j < k + 1 by omega]
        simp (disch := omega) only [zg_tr, zb_t, zJ_lt, zJ_le, zJ_inj, zJ_ltl, zJ_lel, zJ_eql, zJ_llt, zJ_lle, zJ_leq, zJ_m1, zJ_m1r, zJ_nle_m1, zJ_m1lt, zJ_add, zJ_al, zJ_mull, zJ_c, zJ_mlr, zJ_cl, zJ_sub, zJ_subl, zJ_neg, zJ_divl, zreml, zshl_1, zshr_J, zushr_J, zJ_and1, if_pos, if_neg, Option.bind_some, zI_eq, zI_ne, zI_nk, zI_2, zL_1, zL_eq, zL_ne, zL_nk, zL_22, r0, v2, f_Mod_filled_j189]
        by_cases c : v = 2
        · rw [if_pos c] at v3
          simp (disch := omega) only [zg_tr, zb_t, zJ_lt, zJ_le, zJ_inj, zJ_ltl, zJ_lel, zJ_eql, zJ_llt, zJ_lle, zJ_leq, zJ_m1, zJ_m1r, zJ_nle_m1, zJ_m1lt, zJ_add, zJ_al, zJ_mull, zJ_c, zJ_mlr, zJ_cl, zJ_sub, zJ_subl, zJ_neg, zJ_divl, zreml, zshl_1, zshr_J, zushr_J, zJ_and1, if_pos, if_neg, Option.bind_some, zI_eq, zI_ne, zI_nk, zI_2, zL_1, zL_eq, zL_ne, zL_nk, zL_22]
          exact stp _ v3.symm
        · rw [if_neg c] at v3
          simp (disch := omega) only [zg_tr, zb_t, zJ_lt, zJ_le, zJ_inj, zJ_ltl, zJ_lel, zJ_eql, zJ_llt, zJ_lle, zJ_leq, zJ_m1, zJ_m1r, zJ_nle_m1, zJ_m1lt, zJ_add, zJ_al, zJ_mull, zJ_c, zJ_mlr, zJ_cl, zJ_sub, zJ_subl, zJ_neg, zJ_divl, zreml, zshl_1, zshr_J, zushr_J, zJ_and1, if_pos, if_neg, Option.bind_some, zI_eq, zI_ne, zI_nk, zI_2, zL_1, zL_eq, zL_ne, zL_nk, zL_22]
          exact stp _ v3.symm
      · have : k = yI N := by omega
        subst this
        simp (disch := omega) only [zg_tr, zb_t, zJ_lt, zJ_le, zJ_inj, zJ_ltl, zJ_lel, zJ_eql, zJ_llt, zJ_lle, zJ_leq, zJ_m1, zJ_m1r, zJ_nle_m1, zJ_m1lt, zJ_add, zJ_al, zJ_mull, zJ_c, zJ_mlr, zJ_cl, zJ_sub, zJ_subl, zJ_neg, zJ_divl, zreml, zshl_1, zshr_J, zushr_J, zJ_and1, if_pos, if_neg, Option.bind_some, zI_eq, zI_ne, zI_nk, zI_2, zL_1, zL_eq, zL_ne, zL_nk, zL_22, r0]
        exact zw_some (hfin _ hv)
    · rintro x rfl
      exact zw_some ⟨rfl, q1⟩
