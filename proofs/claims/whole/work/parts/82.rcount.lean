/-! ===== counts, the reference ===== -/
theorem lines_n {h : zH} {N : yN} (hn : yOKn N) (hr : yRN h N) : f_Mod_lines h = some (zJ (yLs N)) := lines_r hn.1 hr.1
theorem rows_n {h : zH} {N : yN} (hn : yOKn N) (hr : yRN h N) : f_Mod_rows h = some (zJ (2 ^ yI N)) := rows_r hn.1 hr.1
theorem seen_n {h : zH} {N : yN} {l : Nat} (hn : yOKn N) (hr : yRN h N) (hl : l < yLs N) : f_Mod_isSeen h (zJ l) = some (zbI (ySb N l)) := by
  obtain ⟨⟨e1, e2, e3, e4⟩, -⟩ := id hn
  have e1' : yI N ≤ 6 := e1
  have e3' : yLs N ≤ yI N + 16 := e3
  exact isSeen_r hr.2.1 (by omega) hl
theorem seenMany_r {h : zH} {N : yN} (hn : yOKn N) (hr : yRN h N) : zw (f_Mod_seenMany h) fun x => x = zJ (fb_ct (ySb N) (yLs N)) := by
  obtain ⟨⟨e1, e2, e3, e4⟩, -⟩ := id hn
  have e1' : yI N ≤ 6 := e1
  have e3' : yLs N ≤ yI N + 16 := e3
  unfold f_Mod_seenMany
  refine zw_bi (P := fun x => x = zJ (fb_ct (ySb N) (yLs N))) (zw_for (yLs N) (fun k s => s = (zJ (fb_ct (ySb N) k), zJ k)) (by omega) rfl ?_) (fun x hx => zw_some hx)
  rintro k s hk rfl
  dsimp only
  unfold f_Mod_seenMany_b4
  rw [lines_n hn hr]
  by_cases hkm : k < yLs N
  · rw [seen_n hn hr hkm]
    simp (disch := omega) only [zg_tr, zb_t, zJ_lt, zJ_le, zJ_inj, zJ_ltl, zJ_lel, zJ_eql, zJ_llt, zJ_lle, zJ_leq, zJ_m1, zJ_m1r, zJ_nle_m1, zJ_m1lt, zJ_add, zJ_al, zJ_mull, zJ_c, zJ_mlr, zJ_cl, zJ_sub, zJ_subl, zJ_neg, zJ_divl, zreml, zshl_1, zshr_J, zushr_J, zJ_and1, if_pos, if_neg, Option.bind_some, zI_eq, zI_ne, zI_nk, zI_2, zL_1, zL_eq, zL_ne, zL_nk, zL_22, f_Mod_seenMany_j26]
    rw [fb_ct_succ]
    cases hsb : ySb N k
    · rw [if_pos zbI_f, if_neg (by decide)]
      exact zw_some ⟨hkm, rfl⟩
    · rw [if_neg (by decide), if_pos rfl]
      exact zw_some ⟨hkm, rfl⟩
  · have : k = yLs N := by omega
    subst this
    simp (disch := omega) only [zg_tr, zb_t, zJ_lt, zJ_le, zJ_inj, zJ_ltl, zJ_lel, zJ_eql, zJ_llt, zJ_lle, zJ_leq, zJ_m1, zJ_m1r, zJ_nle_m1, zJ_m1lt, zJ_add, zJ_al, zJ_mull, zJ_c, zJ_mlr, zJ_cl, zJ_sub, zJ_subl, zJ_neg, zJ_divl, zreml, zshl_1, zshr_J, zushr_J, zJ_and1, if_pos, if_neg, Option.bind_some, zI_eq, zI_ne, zI_nk, zI_2, zL_1, zL_eq, zL_ne, zL_nk, zL_22]
    exact zw_some rfl
theorem lost_r {h : zH} {N : yN} {f : Nat} (hl : yLD h (yE N) (ySb N)) (hf : f < 2 * yLs N) : ∃ c, c < 3 ∧ h.1 357 f = zJ c ∧ (c = 0 ↔ yfnd N f = true) := by
  refine ⟨zlo (yE N) (ySb N) f, ?_, (hl.1 f hf).2.2, ?_⟩
  · unfold zlo
    cases zdf (yE N) f (2 ^ (yE N).1) <;> split <;> simp
  · unfold zlo yfnd
    rw [decide_eq_true_iff]
    constructor
    · intro h
      by_cases h0 : 0 < zct (yE N) (ySb N) f (2 ^ (yE N).1)
      · exact h0
      · rw [if_neg h0] at h
        omega
    · intro h
      rw [if_pos h]
theorem lostMany_r {h : zH} {N : yN} (hn : yOKn N) (hr : yRN h N) (hl : yLD h (yE N) (ySb N)) : zw (f_Mod_lostMany h) fun x => x = zJ (fb_ct (fun f => !yfnd N f) (2 * yLs N)) := by
  obtain ⟨⟨e1, e2, e3, e4⟩, -⟩ := id hn
  have e1' : yI N ≤ 6 := e1
  have e3' : yLs N ≤ yI N + 16 := e3
  unfold f_Mod_lostMany
  refine zw_bi (P := fun x => x = zJ (fb_ct (fun f => !yfnd N f) (2 * yLs N))) (zw_for (2 * yLs N) (fun k s => s = (zJ (fb_ct (fun f => !yfnd N f) k), zJ k)) (by omega) rfl ?_) (fun x hx => zw_some hx)
  rintro k s hk rfl
  dsimp only
  unfold f_Mod_lostMany_b4
  rw [faults_n hn hr]
  by_cases hkm : k < 2 * yLs N
  · obtain ⟨c, c1, c2, c3⟩ := lost_r hl hkm
    simp (disch := omega) only [zg_tr, zb_t, zJ_lt, zJ_le, zJ_inj, zJ_ltl, zJ_lel, zJ_eql, zJ_llt, zJ_lle, zJ_leq, zJ_m1, zJ_m1r, zJ_nle_m1, zJ_m1lt, zJ_add, zJ_al, zJ_mull, zJ_c, zJ_mlr, zJ_cl, zJ_sub, zJ_subl, zJ_neg, zJ_divl, zreml, zshl_1, zshr_J, zushr_J, zJ_and1, if_pos, if_neg, Option.bind_some, zI_eq, zI_ne, zI_nk, zI_2, zL_1, zL_eq, zL_ne, zL_nk, zL_22, c2, f_Mod_lostMany_j27]
    rw [fb_ct_succ]
    cases hfd : yfnd N k
    · have : c ≠ 0 := fun h => by rw [c3.mp h] at hfd; cases hfd
      rw [if_neg (by omega), Bool.not_false, if_pos rfl]
      exact zw_some ⟨hkm, rfl⟩
    · have := c3.mpr hfd
      rw [if_pos (by omega), if_neg (by decide)]
      exact zw_some ⟨hkm, rfl⟩
  · have : k = 2 * yLs N := by omega
    subst this
    simp (disch := omega) only [zg_tr, zb_t, zJ_lt, zJ_le, zJ_inj, zJ_ltl, zJ_lel, zJ_eql, zJ_llt, zJ_lle, zJ_leq, zJ_m1, zJ_m1r, zJ_nle_m1, zJ_m1lt, zJ_add, zJ_al, zJ_mull, zJ_c, zJ_mlr, zJ_cl, zJ_sub, zJ_subl, zJ_neg, zJ_divl, zreml, zshl_1, zshr_J, zushr_J, zJ_and1, if_pos, if_neg, Option.bind_some, zI_eq, zI_ne, zI_nk, zI_2, zL_1, zL_eq, zL_ne, zL_nk, zL_22]
    exact zw_some rfl
theorem isAlike_r {h : zH} {N : yN} {f g : Nat} (hn : yOKn N) (hr : yRN h N) (hl : yLD h (yE N) (ySb N)) (hf : f < 2 * yLs N) (hg : g < 2 * yLs N) : zw (f_Mod_isAlike h (zJ f) (zJ g)) fun x => x = zbI (yak N f g) := by
  obtain ⟨⟨e1, e2, e3, e4⟩, -⟩ := id hn
  have e1' : yI N ≤ 6 := e1
  have e3' : yLs N ≤ yI N + 16 := e3
  have h64 := zpw6 e1'
  unfold f_Mod_isAlike
  refine zw_bi (P := fun x => x = zbI (yak N f g)) (zw_for (2 ^ yI N) (fun k s => s = (zbI (!zex (fun r => zcg (yE N) (ySb N) (zrw r) (f + 1) != zcg (yE N) (ySb N) (zrw r) (g + 1)) k), zJ k)) (by omega) rfl ?_) ?_
  · rintro k s hk rfl
    dsimp only
    unfold f_Mod_isAlike_b5
    rw [rows_n hn hr]
    by_cases hkm : k < 2 ^ yI N
    · have t1 := (hl.1 f hf).1 k hkm
      have t2 := (hl.1 g hg).1 k hkm
      simp (disch := omega) only [zg_tr, zb_t, zJ_lt, zJ_le, zJ_inj, zJ_ltl, zJ_lel, zJ_eql, zJ_llt, zJ_lle, zJ_leq, zJ_m1, zJ_m1r, zJ_nle_m1, zJ_m1lt, zJ_add, zJ_al, zJ_mull, zJ_c, zJ_mlr, zJ_cl, zJ_sub, zJ_subl, zJ_neg, zJ_divl, zreml, zshl_1, zshr_J, zushr_J, zJ_and1, if_pos, if_neg, Option.bind_some, zI_eq, zI_ne, zI_nk, zI_2, zL_1, zL_eq, zL_ne, zL_nk, zL_22, f_Mod_isAlike_j50]
      rw [zex_s]
      cases hz : zex (fun r => zcg (yE N) (ySb N) (zrw r) (f + 1) != zcg (yE N) (ySb N) (zrw r) (g + 1)) k
      · rw [Bool.not_false, if_neg (by decide), Bool.false_or]
        simp (disch := omega) only [zg_tr, zb_t, zJ_lt, zJ_le, zJ_inj, zJ_ltl, zJ_lel, zJ_eql, zJ_llt, zJ_lle, zJ_leq, zJ_m1, zJ_m1r, zJ_nle_m1, zJ_m1lt, zJ_add, zJ_al, zJ_mull, zJ_c, zJ_mlr, zJ_cl, zJ_sub, zJ_subl, zJ_neg, zJ_divl, zreml, zshl_1, zshr_J, zushr_J, zJ_and1, if_pos, if_neg, Option.bind_some, zI_eq, zI_ne, zI_nk, zI_2, zL_1, zL_eq, zL_ne, zL_nk, zL_22, t1, t2]
        cases zcg (yE N) (ySb N) (zrw k) (f + 1) <;> cases zcg (yE N) (ySb N) (zrw k) (g + 1)
        · exact zw_some ⟨hkm, rfl⟩
        · exact zw_some ⟨hkm, rfl⟩
        · exact zw_some ⟨hkm, rfl⟩
        · exact zw_some ⟨hkm, rfl⟩
      · rw [Bool.not_true, if_pos zbI_f]
        exact zw_some ⟨hkm, by simp [zbI]⟩
    · have : k = 2 ^ yI N := by omega
      subst this
      simp (disch := omega) only [zg_tr, zb_t, zJ_lt, zJ_le, zJ_inj, zJ_ltl, zJ_lel, zJ_eql, zJ_llt, zJ_lle, zJ_leq, zJ_m1, zJ_m1r, zJ_nle_m1, zJ_m1lt, zJ_add, zJ_al, zJ_mull, zJ_c, zJ_mlr, zJ_cl, zJ_sub, zJ_subl, zJ_neg, zJ_divl, zreml, zshl_1, zshr_J, zushr_J, zJ_and1, if_pos, if_neg, Option.bind_some, zI_eq, zI_ne, zI_nk, zI_2, zL_1, zL_eq, zL_ne, zL_nk, zL_22]
      exact zw_some rfl
  · rintro y rfl
    rw [zbI_bo]
    exact zw_some rfl
theorem leastAlike_r {h : zH} {N : yN} {f : Nat} (hn : yOKn N) (hr : yRN h N) (hl : yLD h (yE N) (ySb N)) (hf : f < 2 * yLs N) : zw (f_Mod_leastAlike h (zJ f)) fun x => x = zJ (yla N f) := by
  obtain ⟨⟨e1, e2, e3, e4⟩, -⟩ := id hn
  have e1' : yI N ≤ 6 := e1
  have e3' : yLs N ≤ yI N + 16 := e3
  unfold f_Mod_leastAlike
  refine zw_bi (P := fun x => x = zJ (yla N f)) (zw_for f (fun k s => s = zJ k ∧ ∀ j, j < k → yak N f j = false) (by omega) ⟨rfl, fun j hj => by omega⟩ ?_) (fun x hx => zw_some hx)
  rintro k s hk ⟨rfl, hv⟩
  unfold f_Mod_leastAlike_b2
  refine zw_bi (isAlike_r hn hr hl hf (by omega)) ?_
  rintro x rfl
  cases hak : yak N f k
  · rw [if_neg (by decide)]
    have hkf : k ≠ f := fun h => by rw [h, yak_self] at hak; cases hak
    simp (disch := omega) only [zg_tr, zb_t, zJ_lt, zJ_le, zJ_inj, zJ_ltl, zJ_lel, zJ_eql, zJ_llt, zJ_lle, zJ_leq, zJ_m1, zJ_m1r, zJ_nle_m1, zJ_m1lt, zJ_add, zJ_al, zJ_mull, zJ_c, zJ_mlr, zJ_cl, zJ_sub, zJ_subl, zJ_neg, zJ_divl, zreml, zshl_1, zshr_J, zushr_J, zJ_and1, if_pos, if_neg, Option.bind_some, zI_eq, zI_ne, zI_nk, zI_2, zL_1, zL_eq, zL_ne, zL_nk, zL_22]
    refine zw_some ⟨by omega, rfl, fun j hj => ?_⟩
    by_cases hjk : j = k
    · subst hjk
      exact hak
    · exact hv j (by omega)
  · rw [if_pos (by decide)]
    refine zw_some ?_
    show zJ k = _
    unfold yla
    rw [yfd_eq hak hv]
    congr 1
    omega
theorem groupsAlike_r {h : zH} {N : yN} (hn : yOKn N) (hr : yRN h N) (hl : yLD h (yE N) (ySb N)) : zw (f_Mod_groupsAlike h) fun x => x = zJ (ygr N) := by
  obtain ⟨⟨e1, e2, e3, e4⟩, -⟩ := id hn
  have e1' : yI N ≤ 6 := e1
  have e3' : yLs N ≤ yI N + 16 := e3
  unfold f_Mod_groupsAlike
  refine zw_bi (P := fun x => x = zJ (ygr N)) (zw_for (2 * yLs N) (fun k s => s = (zJ (fb_ct (fun f => yfnd N f && yla N f == f) k), zJ k)) (by omega) rfl ?_) (fun x hx => zw_some hx)
  rintro k s hk rfl
  dsimp only
  unfold f_Mod_groupsAlike_b4
  rw [faults_n hn hr]
  by_cases hkm : k < 2 * yLs N
  · obtain ⟨c, c1, c2, c3⟩ := lost_r hl hkm
    have hla : yla N k ≤ 2 * yLs N := by
      unfold yla
      have : ∀ n, yfd (yak N k) n ≤ n := by
        intro n
        induction n with
        | zero => exact Nat.le_refl 0
        | succ n ih =>
          unfold yfd
          split
          · omega
          · split <;> omega
      exact this _
    simp (disch := omega) only [zg_tr, zb_t, zJ_lt, zJ_le, zJ_inj, zJ_ltl, zJ_lel, zJ_eql, zJ_llt, zJ_lle, zJ_leq, zJ_m1, zJ_m1r, zJ_nle_m1, zJ_m1lt, zJ_add, zJ_al, zJ_mull, zJ_c, zJ_mlr, zJ_cl, zJ_sub, zJ_subl, zJ_neg, zJ_divl, zreml, zshl_1, zshr_J, zushr_J, zJ_and1, if_pos, if_neg, Option.bind_some, zI_eq, zI_ne, zI_nk, zI_2, zL_1, zL_eq, zL_ne, zL_nk, zL_22, c2, f_Mod_groupsAlike_j36]
    rw [fb_ct_succ]
    cases hfd : yfnd N k
    · have : c ≠ 0 := fun h => by rw [c3.mp h] at hfd; cases hfd
      rw [if_pos (by omega), Bool.false_and, if_neg (by decide)]
      exact zw_some ⟨hkm, rfl⟩
    · have := c3.mpr hfd
      rw [if_neg (by omega), Bool.true_and]
      refine zw_bi (leastAlike_r hn hr hl hkm) ?_
      rintro x rfl
      simp (disch := omega) only [zg_tr, zb_t, zJ_lt, zJ_le, zJ_inj, zJ_ltl, zJ_lel, zJ_eql, zJ_llt, zJ_lle, zJ_leq, zJ_m1, zJ_m1r, zJ_nle_m1, zJ_m1lt, zJ_add, zJ_al, zJ_mull, zJ_c, zJ_mlr, zJ_cl, zJ_sub, zJ_subl, zJ_neg, zJ_divl, zreml, zshl_1, zshr_J, zushr_J, zJ_and1, if_pos, if_neg, Option.bind_some, zI_eq, zI_ne, zI_nk, zI_2, zL_1, zL_eq, zL_ne, zL_nk, zL_22]
      by_cases hlk : yla N k = k
      · rw [if_neg (by omega), if_pos (by simpa using hlk)]
        exact zw_some ⟨hkm, rfl⟩
      · rw [if_pos hlk, if_neg (by simpa using hlk)]
        exact zw_some ⟨hkm, rfl⟩
  · have : k = 2 * yLs N := by omega
    subst this
    simp (disch := omega) only [zg_tr, zb_t, zJ_lt, zJ_le, zJ_inj, zJ_ltl, zJ_lel, zJ_eql, zJ_llt, zJ_lle, zJ_leq, zJ_m1, zJ_m1r, zJ_nle_m1, zJ_m1lt, zJ_add, zJ_al, zJ_mull, zJ_c, zJ_mlr, zJ_cl, zJ_sub, zJ_subl, zJ_neg, zJ_divl, zreml, zshl_1, zshr_J, zushr_J, zJ_and1, if_pos, if_neg, Option.bind_some, zI_eq, zI_ne, zI_nk, zI_2, zL_1, zL_eq, zL_ne, zL_nk, zL_22]
    exact zw_some rfl
theorem doneMany_r {h : zH} {N : yN} {dn : Nat → Bool} (hn : yOKn N) (hr : yRN h N) (hd : ∀ f, f < 44 → h.1 347 (13 + f) = zbI (dn f)) : zw (f_Mod_doneMany h) fun x => x = zJ (fb_ct dn (2 * yLs N)) := by
  obtain ⟨⟨e1, e2, e3, e4⟩, -⟩ := id hn
  have e1' : yI N ≤ 6 := e1
  have e3' : yLs N ≤ yI N + 16 := e3
  unfold f_Mod_doneMany
  refine zw_bi (P := fun x => x = zJ (fb_ct dn (2 * yLs N))) (zw_for (2 * yLs N) (fun k s => s = (zJ (fb_ct dn k), zJ k)) (by omega) rfl ?_) (fun x hx => zw_some hx)
  rintro k s hk rfl
  dsimp only
  unfold f_Mod_doneMany_b4
  rw [faults_n hn hr]
  by_cases hkm : k < 2 * yLs N
  · simp (disch := omega) only [zg_tr, zb_t, zJ_lt, zJ_le, zJ_inj, zJ_ltl, zJ_lel, zJ_eql, zJ_llt, zJ_lle, zJ_leq, zJ_m1, zJ_m1r, zJ_nle_m1, zJ_m1lt, zJ_add, zJ_al, zJ_mull, zJ_c, zJ_mlr, zJ_cl, zJ_sub, zJ_subl, zJ_neg, zJ_divl, zreml, zshl_1, zshr_J, zushr_J, zJ_and1, if_pos, if_neg, Option.bind_some, zI_eq, zI_ne, zI_nk, zI_2, zL_1, zL_eq, zL_ne, zL_nk, zL_22, zJ_la, hd]
    refine zw_some ⟨hkm, ?_⟩
    rw [fb_ct_succ, zbI_J, zJ_add]
    cases dn k <;> rfl
  · have : k = 2 * yLs N := by omega
    subst this
    simp (disch := omega) only [zg_tr, zb_t, zJ_lt, zJ_le, zJ_inj, zJ_ltl, zJ_lel, zJ_eql, zJ_llt, zJ_lle, zJ_leq, zJ_m1, zJ_m1r, zJ_nle_m1, zJ_m1lt, zJ_add, zJ_al, zJ_mull, zJ_c, zJ_mlr, zJ_cl, zJ_sub, zJ_subl, zJ_neg, zJ_divl, zreml, zshl_1, zshr_J, zushr_J, zJ_and1, if_pos, if_neg, Option.bind_some, zI_eq, zI_ne, zI_nk, zI_2, zL_1, zL_eq, zL_ne, zL_nk, zL_22]
    exact zw_some rfl
theorem count_r {h : zH} {S : yG} {k : Nat} (ho : yOK S) (hi : yIr h S) (hk : k ≤ 19) : zw (f_Mod_count h (zJ k)) fun y => yRA (.inl (ycnt S k)) y ∧ zfm yLr h y.2 ∧ yIr y.2 S := by
  obtain ⟨hi1, q1, z1⟩ := code_r hi
  unfold f_Mod_count
  rw [Option.bind_some]
  generalize zsI h 333 2 0 = g at *
  obtain ⟨i1, i2, i3, i4, i5, i6, i7, i8⟩ := id hi1
  obtain ⟨⟨s1, s2, s3, s4, s5, s6, s7⟩, t2, t3, t4, t5, t6⟩ := id i3
  simp only [Nat.zero_add] at s1 s2 s3 s4 s5 s6 s7
  obtain ⟨hn, ht, -⟩ := id ho
  obtain ⟨o1, o2, o3, o4, o5, o6⟩ := ht.1
  obtain ⟨⟨e1, e2, e3, e4⟩, -⟩ := id hn
  have e1' : yI (gN S) ≤ 6 := e1
  have e3' : yLs (gN S) ≤ yI (gN S) + 16 := e3
  have fin : ∀ v : Int32, v = ycnt S k → yRA (.inl (ycnt S k)) (v, g) ∧ zfm yLr h g ∧ yIr g S := fun v hv => ⟨⟨z1, fun w hw => by cases hw; exact hv⟩, q1, hi1⟩
  have same : ∀ v : Int32, v = ycnt S k → zw (some (v, g)) fun y => yRA (.inl (ycnt S k)) y ∧ zfm yLr h y.2 ∧ yIr y.2 S := fun v hv => zw_some (fin v hv)
  rcases (by omega : k = 0 ∨ k = 1 ∨ k = 2 ∨ k = 3 ∨ k = 4 ∨ k = 5 ∨ k = 6 ∨ k = 7 ∨ k = 8 ∨ k = 9 ∨ k = 10 ∨ k = 11 ∨ k = 12 ∨ k = 13 ∨ k = 14 ∨ k = 15 ∨ k = 16 ∨ 17 ≤ k) with e | e | e | e | e | e | e | e | e | e | e | e | e | e | e | e | e | e
  · have hk0 : g.1 336 k = zJ (yI (gN S)) := by
      rw [e]
      exact i1.1.1
    simp (disch := omega) only [zg_tr, zb_t, zJ_lt, zJ_le, zJ_inj, zJ_ltl, zJ_lel, zJ_eql, zJ_llt, zJ_lle, zJ_leq, zJ_m1, zJ_m1r, zJ_nle_m1, zJ_m1lt, zJ_add, zJ_al, zJ_mull, zJ_c, zJ_mlr, zJ_cl, zJ_sub, zJ_subl, zJ_neg, zJ_divl, zreml, zshl_1, zshr_J, zushr_J, zJ_and1, if_pos, if_neg, Option.bind_some, zI_eq, zI_ne, zI_nk, zI_2, zL_1, zL_eq, zL_ne, zL_nk, zL_22, f_Mod_count_j100, hk0]
    exact same _ (by unfold ycnt; simp [e])
  · have hk0 : g.1 336 k = zJ (yLs (gN S) - yI (gN S)) := by
      rw [e]
      exact i1.1.2.1
    simp (disch := omega) only [zg_tr, zb_t, zJ_lt, zJ_le, zJ_inj, zJ_ltl, zJ_lel, zJ_eql, zJ_llt, zJ_lle, zJ_leq, zJ_m1, zJ_m1r, zJ_nle_m1, zJ_m1lt, zJ_add, zJ_al, zJ_mull, zJ_c, zJ_mlr, zJ_cl, zJ_sub, zJ_subl, zJ_neg, zJ_divl, zreml, zshl_1, zshr_J, zushr_J, zJ_and1, if_pos, if_neg, Option.bind_some, zI_eq, zI_ne, zI_nk, zI_2, zL_1, zL_eq, zL_ne, zL_nk, zL_22, f_Mod_count_j100, hk0]
    exact same _ (by unfold ycnt; simp [e])
  · simp (disch := omega) only [zg_tr, zb_t, zJ_lt, zJ_le, zJ_inj, zJ_ltl, zJ_lel, zJ_eql, zJ_llt, zJ_lle, zJ_leq, zJ_m1, zJ_m1r, zJ_nle_m1, zJ_m1lt, zJ_add, zJ_al, zJ_mull, zJ_c, zJ_mlr, zJ_cl, zJ_sub, zJ_subl, zJ_neg, zJ_divl, zreml, zshl_1, zshr_J, zushr_J, zJ_and1, if_pos, if_neg, Option.bind_some, zI_eq, zI_ne, zI_nk, zI_2, zL_1, zL_eq, zL_ne, zL_nk, zL_22]
    refine zw_bi (seenMany_r hn i1) ?_
    rintro x rfl
    exact same _ (by unfold ycnt; simp [e])
  · simp (disch := omega) only [zg_tr, zb_t, zJ_lt, zJ_le, zJ_inj, zJ_ltl, zJ_lel, zJ_eql, zJ_llt, zJ_lle, zJ_leq, zJ_m1, zJ_m1r, zJ_nle_m1, zJ_m1lt, zJ_add, zJ_al, zJ_mull, zJ_c, zJ_mlr, zJ_cl, zJ_sub, zJ_subl, zJ_neg, zJ_divl, zreml, zshl_1, zshr_J, zushr_J, zJ_and1, if_pos, if_neg, Option.bind_some, zI_eq, zI_ne, zI_nk, zI_2, zL_1, zL_eq, zL_ne, zL_nk, zL_22, i1.2.2.1]
    exact same _ (by unfold ycnt; simp [e])
  · simp (disch := omega) only [zg_tr, zb_t, zJ_lt, zJ_le, zJ_inj, zJ_ltl, zJ_lel, zJ_eql, zJ_llt, zJ_lle, zJ_leq, zJ_m1, zJ_m1r, zJ_nle_m1, zJ_m1lt, zJ_add, zJ_al, zJ_mull, zJ_c, zJ_mlr, zJ_cl, zJ_sub, zJ_subl, zJ_neg, zJ_divl, zreml, zshl_1, zshr_J, zushr_J, zJ_and1, if_pos, if_neg, Option.bind_some, zI_eq, zI_ne, zI_nk, zI_2, zL_1, zL_eq, zL_ne, zL_nk, zL_22, s4]
    exact same _ (by unfold ycnt; simp [e])
  · simp (disch := omega) only [zg_tr, zb_t, zJ_lt, zJ_le, zJ_inj, zJ_ltl, zJ_lel, zJ_eql, zJ_llt, zJ_lle, zJ_leq, zJ_m1, zJ_m1r, zJ_nle_m1, zJ_m1lt, zJ_add, zJ_al, zJ_mull, zJ_c, zJ_mlr, zJ_cl, zJ_sub, zJ_subl, zJ_neg, zJ_divl, zreml, zshl_1, zshr_J, zushr_J, zJ_and1, if_pos, if_neg, Option.bind_some, zI_eq, zI_ne, zI_nk, zI_2, zL_1, zL_eq, zL_ne, zL_nk, zL_22, faults_n hn i1]
    exact same _ (by unfold ycnt; simp [e])
  · simp (disch := omega) only [zg_tr, zb_t, zJ_lt, zJ_le, zJ_inj, zJ_ltl, zJ_lel, zJ_eql, zJ_llt, zJ_lle, zJ_leq, zJ_m1, zJ_m1r, zJ_nle_m1, zJ_m1lt, zJ_add, zJ_al, zJ_mull, zJ_c, zJ_mlr, zJ_cl, zJ_sub, zJ_subl, zJ_neg, zJ_divl, zreml, zshl_1, zshr_J, zushr_J, zJ_and1, if_pos, if_neg, Option.bind_some, zI_eq, zI_ne, zI_nk, zI_2, zL_1, zL_eq, zL_ne, zL_nk, zL_22]
    refine zw_bi (lostMany_r hn i1 i2) ?_
    rintro x rfl
    exact same _ (by unfold ycnt; simp [e])
  · simp (disch := omega) only [zg_tr, zb_t, zJ_lt, zJ_le, zJ_inj, zJ_ltl, zJ_lel, zJ_eql, zJ_llt, zJ_lle, zJ_leq, zJ_m1, zJ_m1r, zJ_nle_m1, zJ_m1lt, zJ_add, zJ_al, zJ_mull, zJ_c, zJ_mlr, zJ_cl, zJ_sub, zJ_subl, zJ_neg, zJ_divl, zreml, zshl_1, zshr_J, zushr_J, zJ_and1, if_pos, if_neg, Option.bind_some, zI_eq, zI_ne, zI_nk, zI_2, zL_1, zL_eq, zL_ne, zL_nk, zL_22]
    refine zw_bi (groupsAlike_r hn i1 i2) ?_
    rintro x rfl
    exact same _ (by unfold ycnt; simp [e])
  · simp (disch := omega) only [zg_tr, zb_t, zJ_lt, zJ_le, zJ_inj, zJ_ltl, zJ_lel, zJ_eql, zJ_llt, zJ_lle, zJ_leq, zJ_m1, zJ_m1r, zJ_nle_m1, zJ_m1lt, zJ_add, zJ_al, zJ_mull, zJ_c, zJ_mlr, zJ_cl, zJ_sub, zJ_subl, zJ_neg, zJ_divl, zreml, zshl_1, zshr_J, zushr_J, zJ_and1, if_pos, if_neg, Option.bind_some, zI_eq, zI_ne, zI_nk, zI_2, zL_1, zL_eq, zL_ne, zL_nk, zL_22]
    refine zw_bi (doneMany_r hn i1 s7) ?_
    rintro x rfl
    exact same _ (by unfold ycnt; simp [e])
  · simp (disch := omega) only [zg_tr, zb_t, zJ_lt, zJ_le, zJ_inj, zJ_ltl, zJ_lel, zJ_eql, zJ_llt, zJ_lle, zJ_leq, zJ_m1, zJ_m1r, zJ_nle_m1, zJ_m1lt, zJ_add, zJ_al, zJ_mull, zJ_c, zJ_mlr, zJ_cl, zJ_sub, zJ_subl, zJ_neg, zJ_divl, zreml, zshl_1, zshr_J, zushr_J, zJ_and1, if_pos, if_neg, Option.bind_some, zI_eq, zI_ne, zI_nk, zI_2, zL_1, zL_eq, zL_ne, zL_nk, zL_22, s1]
    exact same _ (by unfold ycnt; simp [e])
  · simp (disch := omega) only [zg_tr, zb_t, zJ_lt, zJ_le, zJ_inj, zJ_ltl, zJ_lel, zJ_eql, zJ_llt, zJ_lle, zJ_leq, zJ_m1, zJ_m1r, zJ_nle_m1, zJ_m1lt, zJ_add, zJ_al, zJ_mull, zJ_c, zJ_mlr, zJ_cl, zJ_sub, zJ_subl, zJ_neg, zJ_divl, zreml, zshl_1, zshr_J, zushr_J, zJ_and1, if_pos, if_neg, Option.bind_some, zI_eq, zI_ne, zI_nk, zI_2, zL_1, zL_eq, zL_ne, zL_nk, zL_22, s2]
    exact same _ (by unfold ycnt; simp [e])
  · simp (disch := omega) only [zg_tr, zb_t, zJ_lt, zJ_le, zJ_inj, zJ_ltl, zJ_lel, zJ_eql, zJ_llt, zJ_lle, zJ_leq, zJ_m1, zJ_m1r, zJ_nle_m1, zJ_m1lt, zJ_add, zJ_al, zJ_mull, zJ_c, zJ_mlr, zJ_cl, zJ_sub, zJ_subl, zJ_neg, zJ_divl, zreml, zshl_1, zshr_J, zushr_J, zJ_and1, if_pos, if_neg, Option.bind_some, zI_eq, zI_ne, zI_nk, zI_2, zL_1, zL_eq, zL_ne, zL_nk, zL_22, s3]
    exact same _ (by unfold ycnt; simp [e])
  · simp (disch := omega) only [zg_tr, zb_t, zJ_lt, zJ_le, zJ_inj, zJ_ltl, zJ_lel, zJ_eql, zJ_llt, zJ_lle, zJ_leq, zJ_m1, zJ_m1r, zJ_nle_m1, zJ_m1lt, zJ_add, zJ_al, zJ_mull, zJ_c, zJ_mlr, zJ_cl, zJ_sub, zJ_subl, zJ_neg, zJ_divl, zreml, zshl_1, zshr_J, zushr_J, zJ_and1, if_pos, if_neg, Option.bind_some, zI_eq, zI_ne, zI_nk, zI_2, zL_1, zL_eq, zL_ne, zL_nk, zL_22, s5]
    exact same _ (by unfold ycnt; simp [e])
  · simp (disch := omega) only [zg_tr, zb_t, zJ_lt, zJ_le, zJ_inj, zJ_ltl, zJ_lel, zJ_eql, zJ_llt, zJ_lle, zJ_leq, zJ_m1, zJ_m1r, zJ_nle_m1, zJ_m1lt, zJ_add, zJ_al, zJ_mull, zJ_c, zJ_mlr, zJ_cl, zJ_sub, zJ_subl, zJ_neg, zJ_divl, zreml, zshl_1, zshr_J, zushr_J, zJ_and1, if_pos, if_neg, Option.bind_some, zI_eq, zI_ne, zI_nk, zI_2, zL_1, zL_eq, zL_ne, zL_nk, zL_22]
    refine zw_bi (tellProgram_r hn i1 i2 s7 s4 o3) ?_
    rintro g2 ⟨p1, p2, p3⟩
    refine zw_some ⟨⟨(p1.i (by rfl)).trans z1, fun w hw => ?_⟩, q1.tr p1 rfl, hi1.fr p1 rfl⟩
    cases hw
    dsimp only
    rw [p2]
    unfold ycnt
    simp [e]
  · simp (disch := omega) only [zg_tr, zb_t, zJ_lt, zJ_le, zJ_inj, zJ_ltl, zJ_lel, zJ_eql, zJ_llt, zJ_lle, zJ_leq, zJ_m1, zJ_m1r, zJ_nle_m1, zJ_m1lt, zJ_add, zJ_al, zJ_mull, zJ_c, zJ_mlr, zJ_cl, zJ_sub, zJ_subl, zJ_neg, zJ_divl, zreml, zshl_1, zshr_J, zushr_J, zJ_and1, if_pos, if_neg, Option.bind_some, zI_eq, zI_ne, zI_nk, zI_2, zL_1, zL_eq, zL_ne, zL_nk, zL_22, t2]
    exact same _ (by unfold ycnt; simp [e])
  · simp (disch := omega) only [zg_tr, zb_t, zJ_lt, zJ_le, zJ_inj, zJ_ltl, zJ_lel, zJ_eql, zJ_llt, zJ_lle, zJ_leq, zJ_m1, zJ_m1r, zJ_nle_m1, zJ_m1lt, zJ_add, zJ_al, zJ_mull, zJ_c, zJ_mlr, zJ_cl, zJ_sub, zJ_subl, zJ_neg, zJ_divl, zreml, zshl_1, zshr_J, zushr_J, zJ_and1, if_pos, if_neg, Option.bind_some, zI_eq, zI_ne, zI_nk, zI_2, zL_1, zL_eq, zL_ne, zL_nk, zL_22, t4]
    exact same _ (by unfold ycnt; simp [e])
  · simp (disch := omega) only [zg_tr, zb_t, zJ_lt, zJ_le, zJ_inj, zJ_ltl, zJ_lel, zJ_eql, zJ_llt, zJ_lle, zJ_leq, zJ_m1, zJ_m1r, zJ_nle_m1, zJ_m1lt, zJ_add, zJ_al, zJ_mull, zJ_c, zJ_mlr, zJ_cl, zJ_sub, zJ_subl, zJ_neg, zJ_divl, zreml, zshl_1, zshr_J, zushr_J, zJ_and1, if_pos, if_neg, Option.bind_some, zI_eq, zI_ne, zI_nk, zI_2, zL_1, zL_eq, zL_ne, zL_nk, zL_22, i6]
    exact same _ (by unfold ycnt; simp [e])
  · rcases (by omega : k = 17 ∨ k = 18 ∨ k = 19) with e | e | e
    all_goals
      simp (disch := omega) only [zg_tr, zb_t, zJ_lt, zJ_le, zJ_inj, zJ_ltl, zJ_lel, zJ_eql, zJ_llt, zJ_lle, zJ_leq, zJ_m1, zJ_m1r, zJ_nle_m1, zJ_m1lt, zJ_add, zJ_al, zJ_mull, zJ_c, zJ_mlr, zJ_cl, zJ_sub, zJ_subl, zJ_neg, zJ_divl, zreml, zshl_1, zshr_J, zushr_J, zJ_and1, if_pos, if_neg, Option.bind_some, zI_eq, zI_ne, zI_nk, zI_2, zL_1, zL_eq, zL_ne, zL_nk, zL_22, f_Mod_count_j198, t6]
      refine same _ ?_
      unfold ycnt
      simp [e]
theorem ynegl {v : Int32} {n : Nat} (hv : v < 0) (hn : (OfNat.ofNat n : Nat) < 2147483648) : (v = no_index (OfNat.ofNat n)) ↔ False := by
  constructor
  · rintro rfl
    rw [show (no_index (OfNat.ofNat n) : Int32) = zJ (OfNat.ofNat n) from rfl, zJ_ltl (n := 0) hn (by decide)] at hv
    exact Nat.not_lt_zero _ hv
  · exact False.elim
/-- both throw -/
theorem yBad {S : yG} {c m : Nat} {h : zH} {e : Option ((Int32 × zH) ⊕ (Nat × zH))} {j : Int32 × zH → Option (Int32 × zH)} {k : Nat × zH → Option (Int32 × zH)} {f : zH → Option (Int32 × zH)} (ho : yOK S) (hc : yIc h S) (hr : yIr h S) (h1 : zw e fun x => ∃ g, x = .inr (c, g) ∧ zfm yLc h g ∧ yIc g S) (hk : ∀ g, k (c, g) = some (zJ m, g)) (hf : ∀ g, yIr g S → zw (f g) fun y => yRA (.inr m) y ∧ zfm yLr g y.2 ∧ yIr y.2 S) (hm : m = 1 ∨ m = 2) : zw (e.bind (Sum.elim j k)) fun x => zw (f x.2) fun y => yEnd x y :=
  yBoth (a := .inr m) ho (yLx h1 hk) hf hr (fun c hc => by cases hc; exact hm)
/-- both answer -/
theorem yGood {S : yG} {v : Int32} {h : zH} {e : Option ((Int32 × zH) ⊕ (Nat × zH))} {k : Nat × zH → Option (Int32 × zH)} {f : zH → Option (Int32 × zH)} (ho : yOK S) (hr : yIr h S) (h1 : zw e fun x => ∃ g, x = .inl (v, g) ∧ zfm yLc h g ∧ yIc g S) (hf : ∀ g, yIr g S → zw (f g) fun y => yRA (.inl v) y ∧ zfm yLr g y.2 ∧ yIr y.2 S) : zw (e.bind (Sum.elim (fun a => some (0, zsL a.2 380 0 a.1.toInt64)) k)) fun x => zw (f x.2) fun y => yEnd x y :=
  yBoth (a := .inl v) ho (yLv ho h1) hf hr (fun c hc => by cases hc)
/-- the reference's failing at once -/
theorem yFail {S : yG} {g : zH} (hg : yIr g S) {c : Nat} : zw (f_Mod_fail (zsI g 333 2 0) (zJ c)) fun y => yRA (.inr c) y ∧ zfm yLr g y.2 ∧ yIr y.2 S := by
  refine zw_mono (fail_r (c := c) (code_r hg).1) ?_
  rintro y ⟨a, b, c⟩
  exact ⟨a, (code_r hg).2.1.trans b, c⟩
theorem q_count {h : zH} {v : Int32} (hi : yInv h) : zw (f_L_count h v) fun x => zw (f_Mod_count x.2 v) fun y => yEnd x y := by
  obtain ⟨S, ho, hc, hr⟩ := hi
  have bad : (∀ g, f_Main_count g v = some (.inr (1, g))) → (∀ g, f_Mod_count g v = f_Mod_fail (zsI g 333 2 0) 1) → zw (f_L_count h v) fun x => zw (f_Mod_count x.2 v) fun y => yEnd x y := by
    intro h1 h2
    unfold f_L_count
    refine yBad (f := fun g => f_Mod_count g v) (c := 1) (m := 1) ho hc hr ⟨_, h1 h, h, rfl, zfm.rfl', hc⟩ ?_ (fun g hg => ?_) (Or.inl rfl)
    · intro g
      rfl
    · rw [h2 g]
      exact yFail hg (c := 1)
  rcases yneg v with hv | ⟨k, hk, rfl⟩
  · refine bad (fun g => ?_) (fun g => ?_)
    · unfold f_Main_count
      rw [if_pos hv]
      rfl
    · unfold f_Mod_count
      rw [Option.bind_some]
      simp (disch := omega) only [ynegl hv, if_false]
      unfold f_Mod_fail
      rfl
  · by_cases h19 : k ≤ 19
    · unfold f_L_count
      exact yGood (f := fun g => f_Mod_count g (zJ k)) ho hr (count_c ho hc h19) (fun g hg => count_r ho hg h19)
    · refine bad (fun g => ?_) (fun g => ?_)
      · unfold f_Main_count f_Main_count_j10
        simp (disch := omega) only [zg_tr, zb_t, zJ_lt, zJ_le, zJ_inj, zJ_ltl, zJ_lel, zJ_eql, zJ_llt, zJ_lle, zJ_leq, zJ_m1, zJ_m1r, zJ_nle_m1, zJ_m1lt, zJ_add, zJ_al, zJ_mull, zJ_c, zJ_mlr, zJ_cl, zJ_sub, zJ_subl, zJ_neg, zJ_divl, zreml, zshl_1, zshr_J, zushr_J, zJ_and1, if_pos, if_neg, Option.bind_some, zI_eq, zI_ne, zI_nk, zI_2, zL_1, zL_eq, zL_ne, zL_nk, zL_22]
      · unfold f_Mod_count f_Mod_fail
        simp (disch := omega) only [zg_tr, zb_t, zJ_lt, zJ_le, zJ_inj, zJ_ltl, zJ_lel, zJ_eql, zJ_llt, zJ_lle, zJ_leq, zJ_m1, zJ_m1r, zJ_nle_m1, zJ_m1lt, zJ_add, zJ_al, zJ_mull, zJ_c, zJ_mlr, zJ_cl, zJ_sub, zJ_subl, zJ_neg, zJ_divl, zreml, zshl_1, zshr_J, zushr_J, zJ_and1, if_pos, if_neg, Option.bind_some, zI_eq, zI_ne, zI_nk, zI_2, zL_1, zL_eq, zL_ne, zL_nk, zL_22]
