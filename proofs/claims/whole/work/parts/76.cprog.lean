/-! ===== the class's program ===== -/
theorem zBi_eq0 {x : Int32} : x = 0 ↔ ∀ r, r < 32 → zBi x r = false := by
  constructor
  · rintro rfl r hr
    exact zBi_0
  · intro h
    exact zBi_ext (fun r hr => by rw [h r hr, zBi_0])
theorem yL1shl {b : Bool} {k j : Nat} (hk : k < 64) (hj : j < 64) : zBl (zlshl (if b then 1 else 0) (zJ k)) j = (decide (j = k) && b) := by
  have := yB1shl (b := b) hk hj
  cases b
  · exact this
  · exact this
theorem caughtBy_c {h : zH} {e : zEv} {sb : Nat → Bool} {r : Nat} (he : zEok e) (hc : yCAT h e sb) (hr : r < 2 ^ e.1) : zw (f_Catalog_caughtBy h (zJ r)) fun x => ∀ f, f < 64 → zBl x f = (decide (f < 2 * e.2.1) && zcg e sb (zrw r) (f + 1)) := by
  obtain ⟨e1, e2, e3, e4⟩ := id he
  have h64 := zpw6 e1
  obtain ⟨c1, -, -, -, c5, -⟩ := hc
  unfold f_Catalog_caughtBy
  refine zw_bi (P := fun x => ∀ f, f < 64 → zBl x f = (decide (f < 2 * e.2.1) && zcg e sb (zrw r) (f + 1))) (zw_for (2 * e.2.1) (fun k s => s.2 = zJ k ∧ ∀ f, f < 64 → zBl s.1 f = (decide (f < k) && zcg e sb (zrw r) (f + 1))) (by omega) ⟨rfl, fun f hf => by rw [zBl_0]; simp⟩ ?_) (fun x hx => zw_some hx)
  rintro k ⟨a, i⟩ hk ⟨rfl, hv⟩
  dsimp only at hv ⊢
  unfold f_Catalog_caughtBy_b5
  by_cases hkm : k < 2 * e.2.1
  · simp (disch := omega) only [zg_tr, zb_t, zJ_lt, zJ_le, zJ_inj, zJ_ltl, zJ_lel, zJ_eql, zJ_llt, zJ_lle, zJ_leq, zJ_m1, zJ_m1r, zJ_nle_m1, zJ_m1lt, zJ_add, zJ_al, zJ_mull, zJ_c, zJ_mlr, zJ_cl, zJ_sub, zJ_subl, zJ_neg, zJ_divl, zreml, zshl_1, zshr_J, zushr_J, zJ_and1, if_pos, if_neg, Option.bind_some, zI_eq, zI_ne, zI_nk, zI_2, zL_1, zL_eq, zL_ne, zL_nk, zL_22, c1]
    refine zw_some ⟨hkm, rfl, fun f hf => ?_⟩
    dsimp only
    rw [ybitL (by omega), c5.1 k hkm r (by omega), decide_eq_true hr, Bool.true_and, zBl_or, yL1shl (by omega) hf, hv f hf]
    by_cases hfk : f = k
    · subst hfk
      simp
    · by_cases hlt : f < k
      · simp [hfk, hlt, show f < k + 1 by omega]
      · simp [hfk, hlt, show ¬ f < k + 1 by omega]
  · have : k = 2 * e.2.1 := by omega
    subst this
    simp (disch := omega) only [zg_tr, zb_t, zJ_lt, zJ_le, zJ_inj, zJ_ltl, zJ_lel, zJ_eql, zJ_llt, zJ_lle, zJ_leq, zJ_m1, zJ_m1r, zJ_nle_m1, zJ_m1lt, zJ_add, zJ_al, zJ_mull, zJ_c, zJ_mlr, zJ_cl, zJ_sub, zJ_subl, zJ_neg, zJ_divl, zreml, zshl_1, zshr_J, zushr_J, zJ_and1, if_pos, if_neg, Option.bind_some, zI_eq, zI_ne, zI_nk, zI_2, zL_1, zL_eq, zL_ne, zL_nk, zL_22, c1]
    exact zw_some hv
/-- what is merged, by bits -/
def yMB (h : zH) (n : Nat) (m : Nat → Nat) : Prop := ∀ j, j < 32 → zBi (h.1 137 7) j = (decide (j < n) && m j != 2) ∧ zBi (h.1 137 8) j = (decide (j < n) && m j == 1)
/-- a cube, by bits -/
theorem cubeBits_c {h : zH} {N : yN} {f : Nat} (hn : yOKn N) (hc : yCAT h (yE N) (ySb N)) (hf : f < 2 * yLs N) (hfd : 0 < zct (yE N) (ySb N) f (2 ^ yI N)) : ∀ j, j < 32 → zBi (h.1 122 f) j = (decide (j < yI N) && decide (ycb N f j < 2)) ∧ zBi (h.1 123 f) j = (decide (j < yI N) && (ycb N f j == 1)) := by
  obtain ⟨-, -, -, -, -, c6, c7⟩ := hc
  obtain ⟨-, b2, b3⟩ := c7 f hf
  have hb := ybs_found hn.1 hfd
  have hle := ybs_le (e := yE N) (sb := ySb N) (f := f) (3 ^ yI N)
  unfold yfb at b2 b3
  rw [if_pos hfd] at b2 b3
  unfold yrd at b2 b3
  rw [if_neg hb] at b2 b3
  rw [b2, b3]
  have hlt : ybs (yE N) (ySb N) f (3 ^ yI N) - 1 < 3 ^ yI N := by
    have hb' : ybs (yE N) (ySb N) f (3 ^ yI N) ≠ 0 := hb
    omega
  exact c6 _ hlt
theorem mergeCubes_c {h : zH} {N : yN} {O : Nat → Bool} {x : Int64} (hn : yOKn N) (hc : yCAT h (yE N) (ySb N)) (hx : ∀ f, f < 64 → zBl x f = O f) (hO : ∀ f, O f = true → f < 2 * yLs N ∧ 0 < zct (yE N) (ySb N) f (2 ^ yI N)) : zw (f_Program_mergeCubes h x) fun y => y.1 = zJ (ymg N O (2 * yLs N)).2 ∧ zfm [(137, 137, 7, 8)] h y.2 ∧ yMB y.2 (yI N) (ymg N O (2 * yLs N)).1 := by
  obtain ⟨⟨e1, e2, e3, e4⟩, -⟩ := id hn
  have e1' : yI N ≤ 6 := e1
  have e3' : yLs N ≤ yI N + 16 := e3
  have c1 := hc.1
  unfold f_Program_mergeCubes
  rw [Option.bind_some, Option.bind_some]
  refine zw_bi (P := fun y => y.1 = zJ (ymg N O (2 * yLs N)).2 ∧ zfm [(137, 137, 7, 8)] h y.2 ∧ yMB y.2 (yI N) (ymg N O (2 * yLs N)).1) (zw_for (2 * yLs N) (fun k s => s.1 = zJ (ymg N O k).2 ∧ s.2.1 = zJ k ∧ zfm [(137, 137, 7, 8)] h s.2.2 ∧ yMB s.2.2 (yI N) (ymg N O k).1) (by omega) ⟨rfl, rfl, (zfm.rfl'.I (by rfl)).I (by rfl), fun j hj => ?_⟩ ?_) (fun y hy => zw_some hy)
  · simp (disch := omega) only [zg_tr, zb_t, zJ_lt, zJ_le, zJ_inj, zJ_ltl, zJ_lel, zJ_eql, zJ_llt, zJ_lle, zJ_leq, zJ_m1, zJ_m1r, zJ_nle_m1, zJ_m1lt, zJ_add, zJ_al, zJ_mull, zJ_c, zJ_mlr, zJ_cl, zJ_sub, zJ_subl, zJ_neg, zJ_divl, zreml, zshl_1, zshr_J, zushr_J, zJ_and1, if_pos, if_neg, Option.bind_some, zI_eq, zI_ne, zI_nk, zI_2, zL_1, zL_eq, zL_ne, zL_nk, zL_22]
    rw [zBi_0]
    unfold ymg
    simp
  rintro k ⟨a, i, g⟩ hk ⟨rfl, rfl, hz, hv⟩
  dsimp only at hz hv ⊢
  have r0 : g.1 74 0 = zJ (2 * yLs N) := (hz.i (by rfl)).trans c1
  unfold f_Program_mergeCubes_b16
  by_cases hkm : k < 2 * yLs N
  · simp (disch := omega) only [zg_tr, zb_t, zJ_lt, zJ_le, zJ_inj, zJ_ltl, zJ_lel, zJ_eql, zJ_llt, zJ_lle, zJ_leq, zJ_m1, zJ_m1r, zJ_nle_m1, zJ_m1lt, zJ_add, zJ_al, zJ_mull, zJ_c, zJ_mlr, zJ_cl, zJ_sub, zJ_subl, zJ_neg, zJ_divl, zreml, zshl_1, zshr_J, zushr_J, zJ_and1, if_pos, if_neg, Option.bind_some, zI_eq, zI_ne, zI_nk, zI_2, zL_1, zL_eq, zL_ne, zL_nk, zL_22, r0]
    have hbit : zlushr x (zJ k) &&& 1 = if O k then 1 else 0 := by rw [ybitL (by omega), hx k (by omega)]
    cases hOk : O k
    · have hm : ymg N O (k + 1) = ymg N O k := by
        rw [ymg, hOk, Bool.false_and, if_neg (by simp)]
      have same : ∀ t : Int32, zw (f_Program_mergeCubes_j62 g x (zJ (ymg N O k).2) (zJ k) t) (Sum.elim (fun s' => k < 2 * yLs N ∧ s'.1 = zJ (ymg N O (k + 1)).2 ∧ s'.2.1 = zJ (k + 1) ∧ zfm [(137, 137, 7, 8)] h s'.2.2 ∧ yMB s'.2.2 (yI N) (ymg N O (k + 1)).1) fun y => y.1 = zJ (ymg N O (2 * yLs N)).2 ∧ zfm [(137, 137, 7, 8)] h y.2 ∧ yMB y.2 (yI N) (ymg N O (2 * yLs N)).1) := by
        intro t
        unfold f_Program_mergeCubes_j62
        rw [hbit, hOk, if_pos (by decide), hm]
        simp (disch := omega) only [zg_tr, zb_t, zJ_lt, zJ_le, zJ_inj, zJ_ltl, zJ_lel, zJ_eql, zJ_llt, zJ_lle, zJ_leq, zJ_m1, zJ_m1r, zJ_nle_m1, zJ_m1lt, zJ_add, zJ_al, zJ_mull, zJ_c, zJ_mlr, zJ_cl, zJ_sub, zJ_subl, zJ_neg, zJ_divl, zreml, zshl_1, zshr_J, zushr_J, zJ_and1, if_pos, if_neg, Option.bind_some, zI_eq, zI_ne, zI_nk, zI_2, zL_1, zL_eq, zL_ne, zL_nk, zL_22]
        exact zw_some ⟨hkm, rfl, rfl, hz, hv⟩
      split
      · exact same 0
      · exact same 1
    · obtain ⟨o1, o2⟩ := hO k hOk
      have hcb := cubeBits_c hn hc hkm o2
      have s1 : g.1 122 k = h.1 122 k := hz.i (zin_n1 (by omega))
      have s2 : g.1 123 k = h.1 123 k := hz.i (zin_n1 (by omega))
      have hag : ((g.1 137 8 ^^^ g.1 123 k) &&& (g.1 137 7 &&& g.1 122 k)) = 0 ↔ yag (yI N) (ymg N O k).1 (ycb N k) = true := by
        rw [zBi_eq0]
        unfold yag
        rw [Bool.not_eq_true', zex_no]
        have hb : ∀ j, j < 32 → zBi ((g.1 137 8 ^^^ g.1 123 k) &&& (g.1 137 7 &&& g.1 122 k)) j = (decide (j < yI N) && ((ymg N O k).1 j != 2 && ycb N k j != 2 && (ymg N O k).1 j != ycb N k j)) := by
          intro j hj
          rw [zBi_and, zBi_and, zBi_xor, s1, s2, (hv j hj).1, (hv j hj).2, (hcb j hj).1, (hcb j hj).2]
          have l1 := ymg_le (N := N) (O := O) (g := k) (i := j)
          have l2 := ycb_le (N := N) (f := k) (i := j)
          generalize decide (j < yI N) = b
          rcases (by omega : (ymg N O k).1 j = 0 ∨ (ymg N O k).1 j = 1 ∨ (ymg N O k).1 j = 2) with c | c | c <;> rcases (by omega : ycb N k j = 0 ∨ ycb N k j = 1 ∨ ycb N k j = 2) with d | d | d <;> rw [c, d] <;> cases b <;> rfl
        constructor
        · intro h1 j hj
          have := h1 j (by omega)
          rw [hb j (by omega), decide_eq_true hj, Bool.true_and] at this
          exact this
        · intro h1 j hj
          rw [hb j hj]
          by_cases hji : j < yI N
          · rw [h1 j hji, Bool.and_false]
          · simp [hji]
      by_cases hcond : ((g.1 137 8 ^^^ g.1 123 k) &&& (g.1 137 7 &&& g.1 122 k)) = 0
      · rw [if_neg (fun h => h hcond)]
        have hm : ymg N O (k + 1) = (fun i => if (ymg N O k).1 i = 2 then ycb N k i else (ymg N O k).1 i, (ymg N O k).2 + 1) := by
          rw [ymg, hOk, hag.mp hcond, Bool.true_and, if_pos rfl]
        unfold f_Program_mergeCubes_j62
        rw [hbit, hOk, if_neg (by decide), if_neg (by decide)]
        simp (disch := omega) only [zg_tr, zb_t, zJ_lt, zJ_le, zJ_inj, zJ_ltl, zJ_lel, zJ_eql, zJ_llt, zJ_lle, zJ_leq, zJ_m1, zJ_m1r, zJ_nle_m1, zJ_m1lt, zJ_add, zJ_al, zJ_mull, zJ_c, zJ_mlr, zJ_cl, zJ_sub, zJ_subl, zJ_neg, zJ_divl, zreml, zshl_1, zshr_J, zushr_J, zJ_and1, if_pos, if_neg, Option.bind_some, zI_eq, zI_ne, zI_nk, zI_2, zL_1, zL_eq, zL_ne, zL_nk, zL_22]
        refine zw_some ⟨hkm, by rw [hm], rfl, (hz.I (by rfl)).I (by rfl), fun j hj => ?_⟩
        dsimp only
        simp (disch := omega) only [zg_tr, zb_t, zJ_lt, zJ_le, zJ_inj, zJ_ltl, zJ_lel, zJ_eql, zJ_llt, zJ_lle, zJ_leq, zJ_m1, zJ_m1r, zJ_nle_m1, zJ_m1lt, zJ_add, zJ_al, zJ_mull, zJ_c, zJ_mlr, zJ_cl, zJ_sub, zJ_subl, zJ_neg, zJ_divl, zreml, zshl_1, zshr_J, zushr_J, zJ_and1, if_pos, if_neg, Option.bind_some, zI_eq, zI_ne, zI_nk, zI_2, zL_1, zL_eq, zL_ne, zL_nk, zL_22]
        rw [zBi_or, zBi_or, s1, s2, (hv j hj).1, (hv j hj).2, (hcb j hj).1, (hcb j hj).2, hm]
        dsimp only
        have l1 := ymg_le (N := N) (O := O) (g := k) (i := j)
        have l2 := ycb_le (N := N) (f := k) (i := j)
        have hagj : j < yI N → ((ymg N O k).1 j != 2 && ycb N k j != 2 && (ymg N O k).1 j != ycb N k j) = false := by
          intro hji
          have := hag.mp hcond
          unfold yag at this
          rw [Bool.not_eq_true', zex_no] at this
          exact this j hji
        by_cases hji : j < yI N
        · have h3 := hagj hji
          rw [decide_eq_true hji]
          rcases (by omega : (ymg N O k).1 j = 0 ∨ (ymg N O k).1 j = 1 ∨ (ymg N O k).1 j = 2) with c | c | c <;> rcases (by omega : ycb N k j = 0 ∨ ycb N k j = 1 ∨ ycb N k j = 2) with d | d | d <;> rw [c, d] at h3 ⊢ <;> first | exact ⟨rfl, rfl⟩ | exact absurd h3 (by decide)
        · simp [hji]
      · rw [if_pos hcond]
        have hm : ymg N O (k + 1) = ymg N O k := by
          rw [ymg, hOk, Bool.true_and, if_neg (fun h => hcond (hag.mpr h))]
        unfold f_Program_mergeCubes_j62
        rw [hbit, hOk, if_neg (by decide), if_pos rfl, hm]
        simp (disch := omega) only [zg_tr, zb_t, zJ_lt, zJ_le, zJ_inj, zJ_ltl, zJ_lel, zJ_eql, zJ_llt, zJ_lle, zJ_leq, zJ_m1, zJ_m1r, zJ_nle_m1, zJ_m1lt, zJ_add, zJ_al, zJ_mull, zJ_c, zJ_mlr, zJ_cl, zJ_sub, zJ_subl, zJ_neg, zJ_divl, zreml, zshl_1, zshr_J, zushr_J, zJ_and1, if_pos, if_neg, Option.bind_some, zI_eq, zI_ne, zI_nk, zI_2, zL_1, zL_eq, zL_ne, zL_nk, zL_22]
        exact zw_some ⟨hkm, rfl, rfl, hz, hv⟩
  · have : k = 2 * yLs N := by omega
    subst this
    simp (disch := omega) only [zg_tr, zb_t, zJ_lt, zJ_le, zJ_inj, zJ_ltl, zJ_lel, zJ_eql, zJ_llt, zJ_lle, zJ_leq, zJ_m1, zJ_m1r, zJ_nle_m1, zJ_m1lt, zJ_add, zJ_al, zJ_mull, zJ_c, zJ_mlr, zJ_cl, zJ_sub, zJ_subl, zJ_neg, zJ_divl, zreml, zshl_1, zshr_J, zushr_J, zJ_and1, if_pos, if_neg, Option.bind_some, zI_eq, zI_ne, zI_nk, zI_2, zL_1, zL_eq, zL_ne, zL_nk, zL_22, r0]
    exact zw_some ⟨rfl, hz, hv⟩
theorem withBit_c {x : Int32} {i b : Nat} (hi : i < 32) (hb : b < 2) : zw (f_Main_withBit x (zJ i) (zJ b)) fun y => ∀ j, j < 32 → zBi y j = if j = i then (b == 1) else zBi x j := by
  unfold f_Main_withBit
  refine zw_some (fun j hj => ?_)
  rw [zBi_or, zBi_and, zBi_xor, zBi_m1 hj, zshl_1 hi, zBi_p2 hj, zshl_J hi, zJ_bit hj]
  by_cases hji : j = i
  · subst hji
    rw [if_pos rfl]
    rcases (by omega : b = 0 ∨ b = 1) with c | c
    · subst c
      simp
    · subst c
      simp [Nat.testBit_two_pow]
  · rw [if_neg hji]
    have h2 : (b * 2 ^ i).testBit j = false := by
      rcases (by omega : b = 0 ∨ b = 1) with c | c
      · subst c
        simp
      · subst c
        rw [Nat.one_mul, Nat.testBit_two_pow]
        simp
        omega
    rw [h2]
    simp [show ¬ i = j by omega]
/-! filled -/
theorem yfs_skip {N : yN} {m : Nat → Nat} {c : Nat} : ∀ k, k ≤ yCn N c → (∀ i, i < k → m (yCl N c i) = 2) → yfs N m c (yCn N c) = yfs N m c (yCn N c - k)
  | 0, _, _ => rfl
  | k + 1, hk, h => by
    rw [yfs_skip k (by omega) (fun i hi => h i (by omega)), show yCn N c - k = yCn N c - (k + 1) + 1 by omega, yfs, show yCn N c - 1 - (yCn N c - (k + 1)) = k by omega, if_pos (h k (by omega))]
theorem yfs_at {N : yN} {m : Nat → Nat} {c k : Nat} (hk : k < yCn N c) (h : ∀ i, i < k → m (yCl N c i) = 2) (hs : m (yCl N c k) ≠ 2) : yfs N m c (yCn N c) = m (yCl N c k) := by
  rw [yfs_skip k (by omega) h, show yCn N c - k = yCn N c - 1 - k + 1 by omega, yfs, show yCn N c - 1 - (yCn N c - 1 - k) = k by omega, if_neg hs]
theorem yfs_none {N : yN} {m : Nat → Nat} {c : Nat} (h : ∀ i, i < yCn N c → m (yCl N c i) = 2) : yfs N m c (yCn N c) = 0 := by
  rw [yfs_skip (yCn N c) (Nat.le_refl _) h, Nat.sub_self]
  rfl
theorem firstSet_c {h : zH} {N : yN} {m : Nat → Nat} {o c : Nat} (hn : yOKn N) (hw : yCN h o N) (hm : ∀ i, m i ≤ 2) (hb : yMB h (yI N) m) (hc : c < yNc N) : zw (f_Program_firstSet o h (zJ c)) fun x => x = zJ (yfs N m c (yCn N c)) := by
  obtain ⟨⟨e1, -⟩, -, n3, n4, -⟩ := hn
  have e1' : yI N ≤ 6 := e1
  obtain ⟨c1, c2, c3, -⟩ := n4 c hc
  obtain ⟨-, -, -, -, -, -, w7, -⟩ := hw
  obtain ⟨w8, w9⟩ := w7 c hc
  unfold f_Program_firstSet
  refine zw_bi (P := Sum.elim (fun y => ∃ k, k < yCn N c ∧ y = zJ (yCl N c k) ∧ (∀ i, i < k → m (yCl N c i) = 2) ∧ m (yCl N c k) ≠ 2) (fun _ => ∀ i, i < yCn N c → m (yCl N c i) = 2)) (zw_for (yCn N c) (fun k s => s = zJ k ∧ ∀ i, i < k → m (yCl N c i) = 2) (by omega) ⟨rfl, fun i hi => by omega⟩ ?_) ?_
  · rintro k s hk ⟨rfl, hv⟩
    unfold f_Program_firstSet_b2 f_Main_bitOf
    by_cases hkm : k < yCn N c
    · have hcl := (c3 k hkm).1
      simp (disch := omega) only [zg_tr, zb_t, zJ_lt, zJ_le, zJ_inj, zJ_ltl, zJ_lel, zJ_eql, zJ_llt, zJ_lle, zJ_leq, zJ_m1, zJ_m1r, zJ_nle_m1, zJ_m1lt, zJ_add, zJ_al, zJ_mull, zJ_c, zJ_mlr, zJ_cl, zJ_sub, zJ_subl, zJ_neg, zJ_divl, zreml, zshl_1, zshr_J, zushr_J, zJ_and1, if_pos, if_neg, Option.bind_some, zI_eq, zI_ne, zI_nk, zI_2, zL_1, zL_eq, zL_ne, zL_nk, zL_22, w8, w9 k hkm]
      rw [ybit (by omega), (hb _ (by omega)).1, decide_eq_true hcl, Bool.true_and]
      by_cases h2 : m (yCl N c k) = 2
      · rw [h2, if_pos (by decide)]
        refine zw_some ⟨hkm, rfl, fun i hi => ?_⟩
        by_cases hik : i = k
        · subst hik
          exact h2
        · exact hv i (by omega)
      · rw [show (m (yCl N c k) != 2) = true by simp [h2], if_neg (by decide)]
        exact zw_some ⟨k, hkm, rfl, hv, h2⟩
    · have : k = yCn N c := by omega
      subst this
      simp (disch := omega) only [zg_tr, zb_t, zJ_lt, zJ_le, zJ_inj, zJ_ltl, zJ_lel, zJ_eql, zJ_llt, zJ_lle, zJ_leq, zJ_m1, zJ_m1r, zJ_nle_m1, zJ_m1lt, zJ_add, zJ_al, zJ_mull, zJ_c, zJ_mlr, zJ_cl, zJ_sub, zJ_subl, zJ_neg, zJ_divl, zreml, zshl_1, zshr_J, zushr_J, zJ_and1, if_pos, if_neg, Option.bind_some, zI_eq, zI_ne, zI_nk, zI_2, zL_1, zL_eq, zL_ne, zL_nk, zL_22, w8]
      exact zw_some hv
  · rintro (y | y) hy
    · obtain ⟨k, k1, rfl, k2, k3⟩ := hy
      have hcl := (c3 k k1).1
      dsimp only [Sum.elim]
      unfold f_Main_bitOf
      rw [Option.bind_some, ybit (by omega), (hb _ (by omega)).2, decide_eq_true hcl, Bool.true_and, yfs_at k1 k2 k3]
      refine zw_some ?_
      have := hm (yCl N c k)
      rcases (by omega : m (yCl N c k) = 0 ∨ m (yCl N c k) = 1) with d | d <;> rw [d] <;> rfl
    · dsimp only [Sum.elim] at hy ⊢
      rw [yfs_none hy]
      exact zw_some rfl
/-- filled so far: chains ahead of c, and k cells of it -/
def yFD (N : yN) (c k j : Nat) : Prop := yCo N j ≠ 0 ∧ (yCo N j ≤ c ∨ ∃ i, i < k ∧ yCo N j = c + 1 ∧ yCl N c i = j)
def yFP (N : yN) (m : Nat → Nat) (c k : Nat) (p : Int32) : Prop := ∀ j, j < 32 → (j < yI N → yFD N c k j → zBi p j = (yfl N m 2 j == 1)) ∧ (¬ (j < yI N ∧ yFD N c k j) → zBi p j = (decide (j < yI N) && m j == 1))
theorem fillChain_c {h : zH} {N : yN} {m : Nat → Nat} {o c : Nat} {p : Int32} (hn : yOKn N) (hw : yCN h o N) (hm : ∀ i, m i ≤ 2) (hb : yMB h (yI N) m) (hc : c < yNc N) (hp : yFP N m c 0 p) : zw (f_Program_fillChain o h (zJ c) p) fun x => yFP N m (c + 1) 0 x := by
  obtain ⟨⟨e1, -⟩, -, n3, n4, n5, -⟩ := id hn
  have e1' : yI N ≤ 6 := e1
  obtain ⟨c1, c2, c3, c4, c5, -⟩ := n4 c hc
  obtain ⟨-, -, -, -, -, -, w7, -⟩ := id hw
  obtain ⟨w8, w9⟩ := w7 c hc
  unfold f_Program_fillChain
  refine zw_bi (firstSet_c hn hw hm hb hc) ?_
  rintro x0 rfl
  refine zw_bi (P := fun x => yFP N m (c + 1) 0 x) (zw_for (yCn N c) (fun k s => yFP N m c k s.1 ∧ s.2.1 = zJ (if k = 0 then yfs N m c (yCn N c) else yfv N m c (k - 1)) ∧ s.2.2 = zJ k) (by omega) ⟨hp, rfl, rfl⟩ ?_) (fun x hx => zw_some hx)
  rintro k ⟨a, b, i⟩ hk ⟨ha, rfl, rfl⟩
  dsimp only at ha ⊢
  unfold f_Program_fillChain_b14
  by_cases hkm : k < yCn N c
  · obtain ⟨hcl, hco⟩ := c3 k hkm
    have hv : yfv N m c k = if m (yCl N c k) = 2 then (if k = 0 then yfs N m c (yCn N c) else yfv N m c (k - 1)) else m (yCl N c k) := by
      cases k with
      | zero =>
        rw [yfv, if_pos rfl]
      | succ k =>
        rw [yfv, if_neg (Nat.succ_ne_zero k), Nat.add_sub_cancel]
    have stp : ∀ v : Nat, v = yfv N m c k → zw (f_Program_fillChain_j60 o h (zJ c) a (zJ v) (zJ k) (zJ (yCl N c k))) (Sum.elim (fun s' => k < yCn N c ∧ yFP N m c (k + 1) s'.1 ∧ s'.2.1 = zJ (if k + 1 = 0 then yfs N m c (yCn N c) else yfv N m c (k + 1 - 1)) ∧ s'.2.2 = zJ (k + 1)) fun x => yFP N m (c + 1) 0 x) := by
      intro v hve
      subst hve
      unfold f_Program_fillChain_j60
      refine zw_bi (withBit_c (by omega) (yfv_lt hm k)) ?_
      intro y hy
      simp (disch := omega) only [zg_tr, zb_t, zJ_lt, zJ_le, zJ_inj, zJ_ltl, zJ_lel, zJ_eql, zJ_llt, zJ_lle, zJ_leq, zJ_m1, zJ_m1r, zJ_nle_m1, zJ_m1lt, zJ_add, zJ_al, zJ_mull, zJ_c, zJ_mlr, zJ_cl, zJ_sub, zJ_subl, zJ_neg, zJ_divl, zreml, zshl_1, zshr_J, zushr_J, zJ_and1, if_pos, if_neg, Option.bind_some, zI_eq, zI_ne, zI_nk, zI_2, zL_1, zL_eq, zL_ne, zL_nk, zL_22]
      refine zw_some ⟨hkm, fun j hj => ?_, by rw [Nat.add_sub_cancel], rfl⟩
      dsimp only
      rw [hy j hj]
      by_cases hjc : j = yCl N c k
      · subst hjc
        rw [if_pos rfl]
        have hd : yFD N c (k + 1) (yCl N c k) := ⟨by omega, Or.inr ⟨k, by omega, hco, rfl⟩⟩
        exact ⟨fun _ _ => by rw [yfl_cell hn hc hkm], fun hnd => absurd ⟨hcl, hd⟩ hnd⟩
      · rw [if_neg hjc]
        have hiff : yFD N c (k + 1) j ↔ yFD N c k j := by
          unfold yFD
          constructor
          · rintro ⟨d1, d2 | ⟨i, d2, d3, d4⟩⟩
            · exact ⟨d1, Or.inl d2⟩
            · by_cases hik : i = k
              · subst hik
                exact absurd d4.symm hjc
              · exact ⟨d1, Or.inr ⟨i, by omega, d3, d4⟩⟩
          · rintro ⟨d1, d2 | ⟨i, d2, d3, d4⟩⟩
            · exact ⟨d1, Or.inl d2⟩
            · exact ⟨d1, Or.inr ⟨i, by omega, d3, d4⟩⟩
        rw [hiff]
        exact ha j hj
    unfold f_Main_bitOf
    simp (disch := omega) only [zg_tr, zb_t, zJ_lt, zJ_le, zJ_inj, zJ_ltl, zJ_lel, zJ_eql, zJ_llt, zJ_lle, zJ_leq, zJ_m1, zJ_m1r, zJ_nle_m1, zJ_m1lt, zJ_add, zJ_al, zJ_mull, zJ_c, zJ_mlr, zJ_cl, zJ_sub, zJ_subl, zJ_neg, zJ_divl, zreml, zshl_1, zshr_J, zushr_J, zJ_and1, if_pos, if_neg, Option.bind_some, zI_eq, zI_ne, zI_nk, zI_2, zL_1, zL_eq, zL_ne, zL_nk, zL_22, w8, w9 k hkm]
    rw [ybit (by omega), (hb _ (by omega)).1, decide_eq_true hcl, Bool.true_and]
    by_cases h2 : m (yCl N c k) = 2
    · rw [h2, if_pos (by decide)]
      refine stp _ ?_
      rw [hv, if_pos h2]
    · rw [show (m (yCl N c k) != 2) = true by simp [h2], if_neg (by decide), ybit (by omega), (hb _ (by omega)).2, decide_eq_true hcl, Bool.true_and]
      have := hm (yCl N c k)
      have hz : zbI (m (yCl N c k) == 1) = zJ (m (yCl N c k)) := by
        rcases (by omega : m (yCl N c k) = 0 ∨ m (yCl N c k) = 1) with d | d <;> rw [d] <;> rfl
      rw [hz]
      refine stp _ ?_
      rw [hv, if_neg h2]
  · have : k = yCn N c := by omega
    subst this
    simp (disch := omega) only [zg_tr, zb_t, zJ_lt, zJ_le, zJ_inj, zJ_ltl, zJ_lel, zJ_eql, zJ_llt, zJ_lle, zJ_leq, zJ_m1, zJ_m1r, zJ_nle_m1, zJ_m1lt, zJ_add, zJ_al, zJ_mull, zJ_c, zJ_mlr, zJ_cl, zJ_sub, zJ_subl, zJ_neg, zJ_divl, zreml, zshl_1, zshr_J, zushr_J, zJ_and1, if_pos, if_neg, Option.bind_some, zI_eq, zI_ne, zI_nk, zI_2, zL_1, zL_eq, zL_ne, zL_nk, zL_22, w8]
    refine zw_some (fun j hj => ?_)
    have hiff : j < yI N → (yFD N (c + 1) 0 j ↔ yFD N c (yCn N c) j) := by
      intro hji
      unfold yFD
      constructor
      · rintro ⟨d1, d2 | ⟨i, d2, d3, d4⟩⟩
        · by_cases hcc : yCo N j = c + 1
          · obtain ⟨i, i1, i2⟩ := c5 j hji hcc
            exact ⟨d1, Or.inr ⟨i, i1, hcc, i2⟩⟩
          · exact ⟨d1, Or.inl (by omega)⟩
        · omega
      · rintro ⟨d1, d2 | ⟨i, d2, d3, d4⟩⟩
        · exact ⟨d1, Or.inl (by omega)⟩
        · exact ⟨d1, Or.inl (by omega)⟩
    obtain ⟨a1, a2⟩ := ha j hj
    exact ⟨fun hji hd => a1 hji ((hiff hji).mp hd), fun hnd => a2 (fun ⟨hji, hd⟩ => hnd ⟨hji, (hiff hji).mpr hd⟩)⟩
theorem fillUp_c {h : zH} {N : yN} {m : Nat → Nat} {o fl : Nat} (hn : yOKn N) (hw : yCN h o N) (hm : ∀ i, m i ≤ 2) (hb : yMB h (yI N) m) (hfl : fl ≤ 2) : zw (f_Program_fillUp o h (zJ fl)) fun x => x = zJ (yrn (yfl N m fl) (yI N)) := by
  obtain ⟨⟨e1, -⟩, -, n3, n4, n5, -⟩ := id hn
  have e1' : yI N ≤ 6 := e1
  have h64 := zpw6 e1'
  have fin : ∀ x : Int32, (∀ j, j < 32 → zBi x j = (decide (j < yI N) && yfl N m fl j == 1)) → x = zJ (yrn (yfl N m fl) (yI N)) := by
    intro x hx
    apply zBi_ext
    intro j hj
    rw [hx j hj, zJ_bit hj, yrn_bit (fun i _ => yfl_lt hm)]
  unfold f_Program_fillUp
  by_cases h1 : fl = 1
  · subst h1
    rw [if_neg (fun h => h rfl), hw.1.1, zshl_1 (by omega), zJ_subl (by show 1 ≤ 2 ^ (yE N).1; exact h64.1)]
    refine zw_some (fin _ (fun j hj => ?_))
    rw [zBi_or, zBi_and, zBi_xor, zBi_m1 hj, (hb j hj).1, (hb j hj).2, zJ_bit hj]
    have : (2 ^ (yE N).1 - OfNat.ofNat 1).testBit j = decide (j < yI N) := Nat.testBit_two_pow_sub_one _ _
    rw [this, yfl_pin (by omega)]
    have := hm j
    generalize decide (j < yI N) = b
    rcases (by omega : m j = 0 ∨ m j = 1 ∨ m j = 2) with c | c | c <;> rw [c] <;> cases b <;> rfl
  · by_cases h2 : fl = 2
    · subst h2
      simp (disch := omega) only [zg_tr, zb_t, zJ_lt, zJ_le, zJ_inj, zJ_ltl, zJ_lel, zJ_eql, zJ_llt, zJ_lle, zJ_leq, zJ_m1, zJ_m1r, zJ_nle_m1, zJ_m1lt, zJ_add, zJ_al, zJ_mull, zJ_c, zJ_mlr, zJ_cl, zJ_sub, zJ_subl, zJ_neg, zJ_divl, zreml, zshl_1, zshr_J, zushr_J, zJ_and1, if_pos, if_neg, Option.bind_some, zI_eq, zI_ne, zI_nk, zI_2, zL_1, zL_eq, zL_ne, zL_nk, zL_22]
      refine zw_bi (P := fun x => x = zJ (yrn (yfl N m 2) (yI N))) (zw_for (yNc N) (fun k s => yFP N m k 0 s.1 ∧ s.2 = zJ k) (by omega) ⟨fun j hj => ⟨fun _ hd => ?_, fun _ => ?_⟩, rfl⟩ ?_) (fun x hx => zw_some hx)
      · obtain ⟨d1, d2 | ⟨i, d2, -⟩⟩ := hd
        · omega
        · omega
      · exact (hb j hj).2
      rintro k ⟨a, i⟩ hk ⟨ha, rfl⟩
      dsimp only at ha ⊢
      unfold f_Program_fillUp_b42
      rw [hw.2.2.1]
      by_cases hkm : k < yNc N
      · simp (disch := omega) only [zg_tr, zb_t, zJ_lt, zJ_le, zJ_inj, zJ_ltl, zJ_lel, zJ_eql, zJ_llt, zJ_lle, zJ_leq, zJ_m1, zJ_m1r, zJ_nle_m1, zJ_m1lt, zJ_add, zJ_al, zJ_mull, zJ_c, zJ_mlr, zJ_cl, zJ_sub, zJ_subl, zJ_neg, zJ_divl, zreml, zshl_1, zshr_J, zushr_J, zJ_and1, if_pos, if_neg, Option.bind_some, zI_eq, zI_ne, zI_nk, zI_2, zL_1, zL_eq, zL_ne, zL_nk, zL_22]
        refine zw_bi (fillChain_c hn hw hm hb hkm ha) ?_
        intro x hx
        exact zw_some ⟨hkm, hx, by simp (disch := omega) only [zg_tr, zb_t, zJ_lt, zJ_le, zJ_inj, zJ_ltl, zJ_lel, zJ_eql, zJ_llt, zJ_lle, zJ_leq, zJ_m1, zJ_m1r, zJ_nle_m1, zJ_m1lt, zJ_add, zJ_al, zJ_mull, zJ_c, zJ_mlr, zJ_cl, zJ_sub, zJ_subl, zJ_neg, zJ_divl, zreml, zshl_1, zshr_J, zushr_J, zJ_and1, if_pos, if_neg, Option.bind_some, zI_eq, zI_ne, zI_nk, zI_2, zL_1, zL_eq, zL_ne, zL_nk, zL_22]⟩
      · have : k = yNc N := by omega
        subst this
        simp (disch := omega) only [zg_tr, zb_t, zJ_lt, zJ_le, zJ_inj, zJ_ltl, zJ_lel, zJ_eql, zJ_llt, zJ_lle, zJ_leq, zJ_m1, zJ_m1r, zJ_nle_m1, zJ_m1lt, zJ_add, zJ_al, zJ_mull, zJ_c, zJ_mlr, zJ_cl, zJ_sub, zJ_subl, zJ_neg, zJ_divl, zreml, zshl_1, zshr_J, zushr_J, zJ_and1, if_pos, if_neg, Option.bind_some, zI_eq, zI_ne, zI_nk, zI_2, zL_1, zL_eq, zL_ne, zL_nk, zL_22]
        refine zw_some (fin _ (fun j hj => ?_))
        obtain ⟨a1, a2⟩ := ha j hj
        by_cases hji : j < yI N
        · by_cases hco : yCo N j = 0
          · rw [a2 (fun ⟨_, hd⟩ => hd.1 hco), yfl_pin (fun h => h.2 hco)]
            have := hm j
            rcases (by omega : m j = 0 ∨ m j = 1 ∨ m j = 2) with c | c | c <;> rw [c] <;> simp
          · rw [a1 hji ⟨hco, Or.inl (n5 j hji).1⟩, decide_eq_true hji, Bool.true_and]
        · rw [a2 (fun ⟨h, _⟩ => hji h)]
          simp [hji]
    · have h0 : fl = 0 := by omega
      subst h0
      rw [if_pos (by decide), if_pos (by decide)]
      refine zw_some (fin _ (fun j hj => ?_))
      rw [(hb j hj).2, yfl_pin (by omega)]
      have := hm j
      generalize decide (j < yI N) = b
      rcases (by omega : m j = 0 ∨ m j = 1 ∨ m j = 2) with c | c | c <;> rw [c] <;> cases b <;> rfl
