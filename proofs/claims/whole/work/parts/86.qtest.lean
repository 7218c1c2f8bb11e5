/-! ===== test, row ===== -/
def yts (S : yG) (f k : Nat) : Int32 :=
  if k = 0 then zJ (zct (yE (gN S)) (ySb (gN S)) f (2 ^ yI (gN S))) else if k = 1 then zJ (zlo (yE (gN S)) (ySb (gN S)) f) else if k = 2 then zJ (yla (gN S) f) else if k = 3 then zJ (yov (gN S) f) else
  if k = 4 then zbI ((gT S).1.2.2.2.2.2.2 f) else if yfnd (gN S) f then zJ (ysz (yI (gN S)) (ybs (yE (gN S)) (ySb (gN S)) f (3 ^ yI (gN S)) - 1)) else -1
theorem test_c {h : zH} {S : yG} {f k : Nat} (ho : yOK S) (hi : yIc h S) (hf : f < 2 * yLs (gN S)) (hk : k ≤ 5) : zw (f_Main_test h (zJ f) (zJ k)) fun x => ∃ g, x = .inl (yts S f k, g) ∧ zfm yLc h g ∧ yIc g S := by
  obtain ⟨-, i2, i3, -⟩ := id hi
  obtain ⟨⟨s1, s2, s3, s4, s5, s6, s7⟩, -⟩ := id i3
  obtain ⟨hn, -⟩ := id ho
  obtain ⟨⟨e1, e2, e3, e4⟩, n2, -⟩ := id hn
  have e1' : yI (gN S) ≤ 6 := e1
  have e3' : yLs (gN S) ≤ yI (gN S) + 16 := e3
  have same : ∀ v : Int32, v = yts S f k → zw (some (.inl (v, h) : (Int32 × zH) ⊕ (Nat × zH))) fun x => ∃ g, x = .inl (yts S f k, g) ∧ zfm yLc h g ∧ yIc g S := fun v hv => zw_some ⟨h, by rw [hv], zfm.rfl', hi⟩
  unfold f_Main_test
  rw [needFault_in ho hi (by omega), if_pos hf, Option.bind_some]
  dsimp only [Sum.elim]
  rcases (by omega : k = 0 ∨ k = 1 ∨ k = 2 ∨ k = 3 ∨ k = 4 ∨ k = 5) with e | e | e | e | e | e
  · simp (disch := omega) only [zg_tr, zb_t, zJ_lt, zJ_le, zJ_inj, zJ_ltl, zJ_lel, zJ_eql, zJ_llt, zJ_lle, zJ_leq, zJ_m1, zJ_m1r, zJ_nle_m1, zJ_m1lt, zJ_add, zJ_al, zJ_mull, zJ_c, zJ_mlr, zJ_cl, zJ_sub, zJ_subl, zJ_neg, zJ_divl, zreml, zshl_1, zshr_J, zushr_J, zJ_and1, if_pos, if_neg, Option.bind_some, zI_eq, zI_ne, zI_nk, zI_2, zL_1, zL_eq, zL_ne, zL_nk, zL_22, zct_c hn i2 hf]
    exact same _ (by unfold yts; simp [e])
  · simp (disch := omega) only [zg_tr, zb_t, zJ_lt, zJ_le, zJ_inj, zJ_ltl, zJ_lel, zJ_eql, zJ_llt, zJ_lle, zJ_leq, zJ_m1, zJ_m1r, zJ_nle_m1, zJ_m1lt, zJ_add, zJ_al, zJ_mull, zJ_c, zJ_mlr, zJ_cl, zJ_sub, zJ_subl, zJ_neg, zJ_divl, zreml, zshl_1, zshr_J, zushr_J, zJ_and1, if_pos, if_neg, Option.bind_some, zI_eq, zI_ne, zI_nk, zI_2, zL_1, zL_eq, zL_ne, zL_nk, zL_22, whyLost_c hn i2 hf]
    exact same _ (by unfold yts; simp [e])
  · simp (disch := omega) only [zg_tr, zb_t, zJ_lt, zJ_le, zJ_inj, zJ_ltl, zJ_lel, zJ_eql, zJ_llt, zJ_lle, zJ_leq, zJ_m1, zJ_m1r, zJ_nle_m1, zJ_m1lt, zJ_add, zJ_al, zJ_mull, zJ_c, zJ_mlr, zJ_cl, zJ_sub, zJ_subl, zJ_neg, zJ_divl, zreml, zshl_1, zshr_J, zushr_J, zJ_and1, if_pos, if_neg, Option.bind_some, zI_eq, zI_ne, zI_nk, zI_2, zL_1, zL_eq, zL_ne, zL_nk, zL_22]
    refine zw_bi (leastAlike_c hn i2 hf) ?_
    rintro x rfl
    exact same _ (by unfold yts; simp [e])
  · simp (disch := omega) only [zg_tr, zb_t, zJ_lt, zJ_le, zJ_inj, zJ_ltl, zJ_lel, zJ_eql, zJ_llt, zJ_lle, zJ_leq, zJ_m1, zJ_m1r, zJ_nle_m1, zJ_m1lt, zJ_add, zJ_al, zJ_mull, zJ_c, zJ_mlr, zJ_cl, zJ_sub, zJ_subl, zJ_neg, zJ_divl, zreml, zshl_1, zshr_J, zushr_J, zJ_and1, if_pos, if_neg, Option.bind_some, zI_eq, zI_ne, zI_nk, zI_2, zL_1, zL_eq, zL_ne, zL_nk, zL_22]
    refine zw_bi (countOver_c hn i2 hf) ?_
    rintro x rfl
    exact same _ (by unfold yts; simp [e])
  · simp (disch := omega) only [zg_tr, zb_t, zJ_lt, zJ_le, zJ_inj, zJ_ltl, zJ_lel, zJ_eql, zJ_llt, zJ_lle, zJ_leq, zJ_m1, zJ_m1r, zJ_nle_m1, zJ_m1lt, zJ_add, zJ_al, zJ_mull, zJ_c, zJ_mlr, zJ_cl, zJ_sub, zJ_subl, zJ_neg, zJ_divl, zreml, zshl_1, zshr_J, zushr_J, zJ_and1, if_pos, if_neg, Option.bind_some, zI_eq, zI_ne, zI_nk, zI_2, zL_1, zL_eq, zL_ne, zL_nk, zL_22]
    rw [ytl (by omega), s7 f (by omega)]
    exact same _ (by unfold yts; simp [e])
  · simp (disch := omega) only [zg_tr, zb_t, zJ_lt, zJ_le, zJ_inj, zJ_ltl, zJ_lel, zJ_eql, zJ_llt, zJ_lle, zJ_leq, zJ_m1, zJ_m1r, zJ_nle_m1, zJ_m1lt, zJ_add, zJ_al, zJ_mull, zJ_c, zJ_mlr, zJ_cl, zJ_sub, zJ_subl, zJ_neg, zJ_divl, zreml, zshl_1, zshr_J, zushr_J, zJ_and1, if_pos, if_neg, Option.bind_some, zI_eq, zI_ne, zI_nk, zI_2, zL_1, zL_eq, zL_ne, zL_nk, zL_22, isLost_c i2.2.2.2.2.1 hf (by omega)]
    cases hfd : yfnd (gN S) f
    · rw [show decide (0 < zct (yE (gN S)) (ySb (gN S)) f (2 ^ (yE (gN S)).1)) = false from hfd, if_neg (by decide)]
      exact same _ (by unfold yts; simp [e, hfd])
    · rw [show decide (0 < zct (yE (gN S)) (ySb (gN S)) f (2 ^ (yE (gN S)).1)) = true from hfd, if_pos (by decide)]
      have hz := of_decide_eq_true hfd
      have hb := cubeBits_c hn i2 hf hz
      rw [bitCount_I, Option.bind_some]
      refine same _ ?_
      unfold yts
      simp only [e, if_true, Nat.reduceEqDiff, if_false, hfd]
      rw [← ysz_ct (n := yI (gN S)) (by omega)]
      congr 1
      exact fb_ct_cong (fun j hj => by rw [(hb j hj).1]; rfl)
theorem test_r {g0 : zH} {S : yG} {f k : Nat} (ho : yOK S) (hi1 : yIr g0 S) (hf : f < 2 * yLs (gN S)) (hk : k ≤ 5) : zw (f_Mod_test g0 (zJ f) (zJ k)) fun y => yRA (.inl (yts S f k)) y ∧ zfm yLr g0 y.2 ∧ yIr y.2 S := by
  obtain ⟨hi, q1, z1⟩ := code_r hi1
  unfold f_Mod_test
  rw [Option.bind_some]
  generalize zsI g0 333 2 0 = h at *
  obtain ⟨i1, i2, i3, -⟩ := id hi
  obtain ⟨⟨s1, s2, s3, s4, s5, s6, s7⟩, -⟩ := id i3
  simp only [Nat.zero_add] at s7
  obtain ⟨hn, -⟩ := id ho
  obtain ⟨⟨e1, e2, e3, e4⟩, n2, -⟩ := id hn
  have e1' : yI (gN S) ≤ 6 := e1
  have e3' : yLs (gN S) ≤ yI (gN S) + 16 := e3
  have same : ∀ v : Int32, v = yts S f k → zw (some (v, h)) fun y => yRA (.inl (yts S f k)) y ∧ zfm yLr g0 y.2 ∧ yIr y.2 S := fun v hv => zw_some ⟨⟨z1, fun w hw => by cases hw; exact hv⟩, q1, hi⟩
  rw [faults_in hn i1 (by omega), Option.bind_some, decide_eq_true hf, if_pos (by decide)]
  rcases (by omega : k = 0 ∨ k = 1 ∨ k = 2 ∨ k = 3 ∨ k = 4 ∨ k = 5) with e | e | e | e | e | e
  · simp (disch := omega) only [zg_tr, zb_t, zJ_lt, zJ_le, zJ_inj, zJ_ltl, zJ_lel, zJ_eql, zJ_llt, zJ_lle, zJ_leq, zJ_m1, zJ_m1r, zJ_nle_m1, zJ_m1lt, zJ_add, zJ_al, zJ_mull, zJ_c, zJ_mlr, zJ_cl, zJ_sub, zJ_subl, zJ_neg, zJ_divl, zreml, zshl_1, zshr_J, zushr_J, zJ_and1, if_pos, if_neg, Option.bind_some, zI_eq, zI_ne, zI_nk, zI_2, zL_1, zL_eq, zL_ne, zL_nk, zL_22, (i2.1 f hf).2.1]
    exact same _ (by unfold yts; simp [e])
  · simp (disch := omega) only [zg_tr, zb_t, zJ_lt, zJ_le, zJ_inj, zJ_ltl, zJ_lel, zJ_eql, zJ_llt, zJ_lle, zJ_leq, zJ_m1, zJ_m1r, zJ_nle_m1, zJ_m1lt, zJ_add, zJ_al, zJ_mull, zJ_c, zJ_mlr, zJ_cl, zJ_sub, zJ_subl, zJ_neg, zJ_divl, zreml, zshl_1, zshr_J, zushr_J, zJ_and1, if_pos, if_neg, Option.bind_some, zI_eq, zI_ne, zI_nk, zI_2, zL_1, zL_eq, zL_ne, zL_nk, zL_22, (i2.1 f hf).2.2]
    exact same _ (by unfold yts; simp [e])
  · simp (disch := omega) only [zg_tr, zb_t, zJ_lt, zJ_le, zJ_inj, zJ_ltl, zJ_lel, zJ_eql, zJ_llt, zJ_lle, zJ_leq, zJ_m1, zJ_m1r, zJ_nle_m1, zJ_m1lt, zJ_add, zJ_al, zJ_mull, zJ_c, zJ_mlr, zJ_cl, zJ_sub, zJ_subl, zJ_neg, zJ_divl, zreml, zshl_1, zshr_J, zushr_J, zJ_and1, if_pos, if_neg, Option.bind_some, zI_eq, zI_ne, zI_nk, zI_2, zL_1, zL_eq, zL_ne, zL_nk, zL_22]
    refine zw_bi (leastAlike_r hn i1 i2 hf) ?_
    rintro x rfl
    exact same _ (by unfold yts; simp [e])
  · simp (disch := omega) only [zg_tr, zb_t, zJ_lt, zJ_le, zJ_inj, zJ_ltl, zJ_lel, zJ_eql, zJ_llt, zJ_lle, zJ_leq, zJ_m1, zJ_m1r, zJ_nle_m1, zJ_m1lt, zJ_add, zJ_al, zJ_mull, zJ_c, zJ_mlr, zJ_cl, zJ_sub, zJ_subl, zJ_neg, zJ_divl, zreml, zshl_1, zshr_J, zushr_J, zJ_and1, if_pos, if_neg, Option.bind_some, zI_eq, zI_ne, zI_nk, zI_2, zL_1, zL_eq, zL_ne, zL_nk, zL_22]
    refine zw_bi (undersOf_r hn i1 i2 hf) ?_
    rintro x rfl
    exact same _ (by unfold yts; simp [e])
  · simp (disch := omega) only [zg_tr, zb_t, zJ_lt, zJ_le, zJ_inj, zJ_ltl, zJ_lel, zJ_eql, zJ_llt, zJ_lle, zJ_leq, zJ_m1, zJ_m1r, zJ_nle_m1, zJ_m1lt, zJ_add, zJ_al, zJ_mull, zJ_c, zJ_mlr, zJ_cl, zJ_sub, zJ_subl, zJ_neg, zJ_divl, zreml, zshl_1, zshr_J, zushr_J, zJ_and1, if_pos, if_neg, Option.bind_some, zI_eq, zI_ne, zI_nk, zI_2, zL_1, zL_eq, zL_ne, zL_nk, zL_22, zJ_la, s7]
    exact same _ (by unfold yts; simp [e])
  · obtain ⟨b1, b2⟩ := i2.2 f hf
    obtain ⟨c, c1, c2, c3⟩ := lost_r i2 hf
    have hzl : zlo (yE (gN S)) (ySb (gN S)) f < 3 := by
      unfold zlo
      cases zdf (yE (gN S)) f (2 ^ (yE (gN S)).1) <;> split <;> simp
    have hcz : c = zlo (yE (gN S)) (ySb (gN S)) f := by
      have h9 := (i2.1 f hf).2.2
      rw [c2, zJ_inj (by omega) (by omega)] at h9
      exact h9
    cases hfd : yfnd (gN S) f
    · have hc0 : c ≠ 0 := fun h => by rw [c3.mp h] at hfd; cases hfd
      simp (disch := omega) only [zg_tr, zb_t, zJ_lt, zJ_le, zJ_inj, zJ_ltl, zJ_lel, zJ_eql, zJ_llt, zJ_lle, zJ_leq, zJ_m1, zJ_m1r, zJ_nle_m1, zJ_m1lt, zJ_add, zJ_al, zJ_mull, zJ_c, zJ_mlr, zJ_cl, zJ_sub, zJ_subl, zJ_neg, zJ_divl, zreml, zshl_1, zshr_J, zushr_J, zJ_and1, if_pos, if_neg, Option.bind_some, zI_eq, zI_ne, zI_nk, zI_2, zL_1, zL_eq, zL_ne, zL_nk, zL_22, b2 (by rw [← hcz]; exact hc0)]
      exact same _ (by unfold yts; simp [e, hfd])
    · have hc0 := c3.mpr hfd
      have h5 := (b1 (by rw [← hcz]; exact hc0)).1
      have hbf := ybs_found hn.1 (of_decide_eq_true hfd)
      unfold ybz at h5
      rw [if_neg hbf, zfj_s] at h5
      simp (disch := omega) only [zg_tr, zb_t, zJ_lt, zJ_le, zJ_inj, zJ_ltl, zJ_lel, zJ_eql, zJ_llt, zJ_lle, zJ_leq, zJ_m1, zJ_m1r, zJ_nle_m1, zJ_m1lt, zJ_add, zJ_al, zJ_mull, zJ_c, zJ_mlr, zJ_cl, zJ_sub, zJ_subl, zJ_neg, zJ_divl, zreml, zshl_1, zshr_J, zushr_J, zJ_and1, if_pos, if_neg, Option.bind_some, zI_eq, zI_ne, zI_nk, zI_2, zL_1, zL_eq, zL_ne, zL_nk, zL_22, h5]
      exact same _ (by unfold yts; simp [e, hfd])
theorem q_test {h : zH} {v w : Int32} (hi : yInv h) : zw (f_L_test h v w) fun x => zw (f_Mod_test x.2 v w) fun y => yEnd x y := by
  obtain ⟨S, ho, hc, hr⟩ := hi
  have bad : (∀ g, yIc g S → f_Main_test g v w = some (.inr (1, g))) → (∀ g, yIr (zsI g 333 2 0) S → f_Mod_test g v w = f_Mod_fail (zsI g 333 2 0) 1) → zw (f_L_test h v w) fun x => zw (f_Mod_test x.2 v w) fun y => yEnd x y := by
    intro h1 h2
    unfold f_L_test
    refine yBad (f := fun g => f_Mod_test g v w) (c := 1) (m := 1) ho hc hr ⟨_, h1 h hc, h, rfl, zfm.rfl', hc⟩ ?_ (fun g hg => ?_) (Or.inl rfl)
    · intro g
      rfl
    · show zw (f_Mod_test g v w) _
      rw [h2 g (code_r hg).1]
      exact yFail hg (c := 1)
  rcases yneg v with hv | ⟨f, hf, rfl⟩
  · refine bad (fun g hg => ?_) (fun g hg => ?_)
    · unfold f_Main_test
      rw [needFault_neg hv]
      rfl
    · unfold f_Mod_test
      rw [Option.bind_some, faults_neg ho.1 hg.1 hv]
      rfl
  · by_cases hfF : f < 2 * yLs (gN S)
    · rcases yneg w with hw | ⟨k, hk, rfl⟩
      · refine bad (fun g hg => ?_) (fun g hg => ?_)
        · unfold f_Main_test
          rw [needFault_in ho hg hf, if_pos hfF, Option.bind_some]
          dsimp only [Sum.elim]
          simp (disch := omega) only [ynegl hw, if_false]
        · unfold f_Mod_test
          rw [Option.bind_some, faults_in ho.1 hg.1 hf, Option.bind_some, decide_eq_true hfF, if_pos (by decide)]
          simp (disch := omega) only [ynegl hw, if_false]
          rfl
      · by_cases hk5 : k ≤ 5
        · unfold f_L_test
          exact yGood (f := fun g => f_Mod_test g (zJ f) (zJ k)) ho hr (test_c ho hc hfF hk5) (fun g hg => test_r ho hg hfF hk5)
        · refine bad (fun g hg => ?_) (fun g hg => ?_)
          · unfold f_Main_test
            rw [needFault_in ho hg hf, if_pos hfF, Option.bind_some]
            dsimp only [Sum.elim]
            simp (disch := omega) only [zg_tr, zb_t, zJ_lt, zJ_le, zJ_inj, zJ_ltl, zJ_lel, zJ_eql, zJ_llt, zJ_lle, zJ_leq, zJ_m1, zJ_m1r, zJ_nle_m1, zJ_m1lt, zJ_add, zJ_al, zJ_mull, zJ_c, zJ_mlr, zJ_cl, zJ_sub, zJ_subl, zJ_neg, zJ_divl, zreml, zshl_1, zshr_J, zushr_J, zJ_and1, if_pos, if_neg, Option.bind_some, zI_eq, zI_ne, zI_nk, zI_2, zL_1, zL_eq, zL_ne, zL_nk, zL_22]
          · unfold f_Mod_test
            rw [Option.bind_some, faults_in ho.1 hg.1 hf, Option.bind_some, decide_eq_true hfF, if_pos (by decide)]
            simp (disch := omega) only [zg_tr, zb_t, zJ_lt, zJ_le, zJ_inj, zJ_ltl, zJ_lel, zJ_eql, zJ_llt, zJ_lle, zJ_leq, zJ_m1, zJ_m1r, zJ_nle_m1, zJ_m1lt, zJ_add, zJ_al, zJ_mull, zJ_c, zJ_mlr, zJ_cl, zJ_sub, zJ_subl, zJ_neg, zJ_divl, zreml, zshl_1, zshr_J, zushr_J, zJ_and1, if_pos, if_neg, Option.bind_some, zI_eq, zI_ne, zI_nk, zI_2, zL_1, zL_eq, zL_ne, zL_nk, zL_22]
            rfl
    · refine bad (fun g hg => ?_) (fun g hg => ?_)
      · unfold f_Main_test
        rw [needFault_in ho hg hf, if_neg hfF]
        rfl
      · unfold f_Mod_test
        rw [Option.bind_some, faults_in ho.1 hg.1 hf, Option.bind_some, decide_eq_false hfF, if_neg (by decide)]
        rfl
/-! the i-th test -/
def yrw (N : yN) (f i : Nat) : Nat := yfd (fun r => zcg (yE N) (ySb N) (zrw r) (f + 1) && fb_ct (fun r => zcg (yE N) (ySb N) (zrw r) (f + 1)) r == i) (2 ^ yI N)
theorem yrw_eq {N : yN} {f i r : Nat} (hr : r < 2 ^ yI N) (h1 : zcg (yE N) (ySb N) (zrw r) (f + 1) = true) (h2 : zct (yE N) (ySb N) f r = i) : yrw N f i = r := by
  unfold yrw
  rw [yfd_eq (g := r)]
  · omega
  · rw [h1, Bool.true_and, beq_iff_eq]
    exact h2
  · intro j hj
    cases hz : zcg (yE N) (ySb N) (zrw j) (f + 1)
    · rfl
    · rw [Bool.true_and]
      have h3 := fb_ct_mono (fun r => zcg (yE N) (ySb N) (zrw r) (f + 1)) (m := j + 1) (n := r) (by omega)
      rw [fb_ct_succ, hz, if_pos rfl] at h3
      unfold zct at h2
      rw [h2] at h3
      simp
      omega
theorem testAt_c {h : zH} {N : yN} {f i : Nat} (hn : yOKn N) (hc : yCAT h (yE N) (ySb N)) (hf : f < 2 * yLs N) (hi : i < zct (yE N) (ySb N) f (2 ^ yI N)) : zw (f_Catalog_testAt h (zJ f) (zJ i)) fun x => x = zJ (yrw N f i) := by
  obtain ⟨⟨e1, e2, e3, e4⟩, -⟩ := id hn
  have e1' : yI N ≤ 6 := e1
  have e3' : yLs N ≤ yI N + 16 := e3
  have h64 := zpw6 e1'
  have c1 : h.1 74 1 = zJ (2 ^ yI N) := hc.2.1
  obtain ⟨c5, -⟩ := hc.2.2.2.2.1
  have hle := zct_le (e := yE N) (sb := ySb N) (f := f) (n := 2 ^ yI N)
  unfold f_Catalog_testAt
  refine zw_bi (P := Sum.elim (fun y => y = zJ (yrw N f i)) (fun _ => False)) (zw_for (2 ^ yI N) (fun k s => zct (yE N) (ySb N) f k ≤ i ∧ s = (zJ (i - zct (yE N) (ySb N) f k), zJ k)) (by omega) ⟨Nat.zero_le _, rfl⟩ ?_) ?_
  · rintro k s hk ⟨hki, rfl⟩
    dsimp only
    unfold f_Catalog_testAt_b5
    by_cases hkm : k < 2 ^ yI N
    · have hs : zct (yE N) (ySb N) f (k + 1) = zct (yE N) (ySb N) f k + (if zcg (yE N) (ySb N) (zrw k) (f + 1) then 1 else 0) := rfl
      simp (disch := omega) only [zg_tr, zb_t, zJ_lt, zJ_le, zJ_inj, zJ_ltl, zJ_lel, zJ_eql, zJ_llt, zJ_lle, zJ_leq, zJ_m1, zJ_m1r, zJ_nle_m1, zJ_m1lt, zJ_add, zJ_al, zJ_mull, zJ_c, zJ_mlr, zJ_cl, zJ_sub, zJ_subl, zJ_neg, zJ_divl, zreml, zshl_1, zshr_J, zushr_J, zJ_and1, if_pos, if_neg, Option.bind_some, zI_eq, zI_ne, zI_nk, zI_2, zL_1, zL_eq, zL_ne, zL_nk, zL_22, c1]
      rw [ybitL (by omega), c5 f hf k (by omega), show decide (k < 2 ^ (yE N).1) = true from decide_eq_true hkm, Bool.true_and]
      cases hz : zcg (yE N) (ySb N) (zrw k) (f + 1)
      · rw [hz, if_neg (by decide), Nat.add_zero] at hs
        rw [if_pos (by decide)]
        exact zw_some ⟨hkm, by rw [hs]; exact hki, by rw [hs]; rfl⟩
      · rw [hz, if_pos rfl] at hs
        rw [if_neg (by decide)]
        by_cases h0 : i - zct (yE N) (ySb N) f k = 0
        · simp (disch := omega) only [zg_tr, zb_t, zJ_lt, zJ_le, zJ_inj, zJ_ltl, zJ_lel, zJ_eql, zJ_llt, zJ_lle, zJ_leq, zJ_m1, zJ_m1r, zJ_nle_m1, zJ_m1lt, zJ_add, zJ_al, zJ_mull, zJ_c, zJ_mlr, zJ_cl, zJ_sub, zJ_subl, zJ_neg, zJ_divl, zreml, zshl_1, zshr_J, zushr_J, zJ_and1, if_pos, if_neg, Option.bind_some, zI_eq, zI_ne, zI_nk, zI_2, zL_1, zL_eq, zL_ne, zL_nk, zL_22]
          refine zw_some ?_
          show zJ k = _
          rw [yrw_eq hkm hz (by omega)]
        · simp (disch := omega) only [zg_tr, zb_t, zJ_lt, zJ_le, zJ_inj, zJ_ltl, zJ_lel, zJ_eql, zJ_llt, zJ_lle, zJ_leq, zJ_m1, zJ_m1r, zJ_nle_m1, zJ_m1lt, zJ_add, zJ_al, zJ_mull, zJ_c, zJ_mlr, zJ_cl, zJ_sub, zJ_subl, zJ_neg, zJ_divl, zreml, zshl_1, zshr_J, zushr_J, zJ_and1, if_pos, if_neg, Option.bind_some, zI_eq, zI_ne, zI_nk, zI_2, zL_1, zL_eq, zL_ne, zL_nk, zL_22]
          refine zw_some ⟨hkm, by omega, ?_⟩
          rw [hs]
          congr 2
    · have : k = 2 ^ yI N := by omega
      subst this
      omega
  · rintro (y | y) hy
    · exact zw_some hy
    · exact hy.elim
theorem rowLoop_r {h : zH} {N : yN} {f i : Nat} (hn : yOKn N) (hl : yLD h (yE N) (ySb N)) (hf : f < 2 * yLs N) (hi : i < zct (yE N) (ySb N) f (2 ^ yI N)) : zw (zit zFU (fun s : Int32 × Int32 => f_Mod_row_b40 h (zJ f) s.1 s.2) (zJ i, 0)) fun x => x = zJ (yrw N f i) := by
  obtain ⟨⟨e1, e2, e3, e4⟩, -⟩ := id hn
  have e1' : yI N ≤ 6 := e1
  have e3' : yLs N ≤ yI N + 16 := e3
  have h64 := zpw6 e1'
  have hle := zct_le (e := yE N) (sb := ySb N) (f := f) (n := 2 ^ yI N)
  refine zw_for (2 ^ yI N) (fun k s => zct (yE N) (ySb N) f k ≤ i ∧ s = (zJ (i - zct (yE N) (ySb N) f k), zJ k)) (by omega) ⟨Nat.zero_le _, rfl⟩ ?_
  rintro k s hk ⟨hki, rfl⟩
  dsimp only
  unfold f_Mod_row_b40
  by_cases hkm : k < 2 ^ yI N
  · have hs : zct (yE N) (ySb N) f (k + 1) = zct (yE N) (ySb N) f k + (if zcg (yE N) (ySb N) (zrw k) (f + 1) then 1 else 0) := rfl
    have t1 := (hl.1 f hf).1 k hkm
    simp (disch := omega) only [zg_tr, zb_t, zJ_lt, zJ_le, zJ_inj, zJ_ltl, zJ_lel, zJ_eql, zJ_llt, zJ_lle, zJ_leq, zJ_m1, zJ_m1r, zJ_nle_m1, zJ_m1lt, zJ_add, zJ_al, zJ_mull, zJ_c, zJ_mlr, zJ_cl, zJ_sub, zJ_subl, zJ_neg, zJ_divl, zreml, zshl_1, zshr_J, zushr_J, zJ_and1, if_pos, if_neg, Option.bind_some, zI_eq, zI_ne, zI_nk, zI_2, zL_1, zL_eq, zL_ne, zL_nk, zL_22, t1, f_Mod_row_j59, f_Mod_row_j80]
    cases hz : zcg (yE N) (ySb N) (zrw k) (f + 1)
    · rw [hz, if_neg (by decide), Nat.add_zero] at hs
      rw [if_pos zbI_f]
      refine zw_some ⟨hkm, by rw [hs]; exact hki, ?_⟩
      rw [hs]
      rfl
    · rw [hz, if_pos rfl] at hs
      rw [if_neg (by decide)]
      by_cases h0 : i - zct (yE N) (ySb N) f k = 0
      · rw [if_pos (by omega)]
        refine zw_some ?_
        show zJ k = _
        rw [yrw_eq hkm hz (by omega)]
      · rw [if_neg (by omega)]
        refine zw_some ⟨hkm, by omega, ?_⟩
        rw [hs]
        congr 2
  · have : k = 2 ^ yI N := by omega
    subst this
    omega
theorem row_c {h : zH} {S : yG} {f i : Nat} (ho : yOK S) (hc : yIc h S) (hf : f < 2 * yLs (gN S)) (hi : i < zct (yE (gN S)) (ySb (gN S)) f (2 ^ yI (gN S))) : zw (f_Main_row h (zJ f) (zJ i)) fun x => ∃ g, x = .inl (zJ (yrw (gN S) f i), g) ∧ zfm yLc h g ∧ yIc g S := by
  obtain ⟨hn, -⟩ := id ho
  obtain ⟨⟨e1, e2, e3, e4⟩, -⟩ := id hn
  have e1' : yI (gN S) ≤ 6 := e1
  have e3' : yLs (gN S) ≤ yI (gN S) + 16 := e3
  have h64 := zpw6 e1'
  have hle := zct_le (e := yE (gN S)) (sb := ySb (gN S)) (f := f) (n := 2 ^ yI (gN S))
  unfold f_Main_row
  rw [needFault_in ho hc (by omega), if_pos hf, Option.bind_some]
  dsimp only [Sum.elim]
  simp (disch := omega) only [zg_tr, zb_t, zJ_lt, zJ_le, zJ_inj, zJ_ltl, zJ_lel, zJ_eql, zJ_llt, zJ_lle, zJ_leq, zJ_m1, zJ_m1r, zJ_nle_m1, zJ_m1lt, zJ_add, zJ_al, zJ_mull, zJ_c, zJ_mlr, zJ_cl, zJ_sub, zJ_subl, zJ_neg, zJ_divl, zreml, zshl_1, zshr_J, zushr_J, zJ_and1, if_pos, if_neg, Option.bind_some, zI_eq, zI_ne, zI_nk, zI_2, zL_1, zL_eq, zL_ne, zL_nk, zL_22, zct_c hn hc.2.1 hf]
  refine zw_bi (testAt_c hn hc.2.1 hf hi) ?_
  rintro x rfl
  exact zw_some ⟨h, rfl, zfm.rfl', hc⟩
theorem row_r {g0 : zH} {S : yG} {f i : Nat} (ho : yOK S) (hi1 : yIr g0 S) (hf : f < 2 * yLs (gN S)) (hi : i < zct (yE (gN S)) (ySb (gN S)) f (2 ^ yI (gN S))) : zw (f_Mod_row g0 (zJ f) (zJ i)) fun y => yRA (.inl (zJ (yrw (gN S) f i))) y ∧ zfm yLr g0 y.2 ∧ yIr y.2 S := by
  obtain ⟨hi2, q1, z1⟩ := code_r hi1
  obtain ⟨hn, -⟩ := id ho
  obtain ⟨⟨e1, e2, e3, e4⟩, -⟩ := id hn
  have e1' : yI (gN S) ≤ 6 := e1
  have e3' : yLs (gN S) ≤ yI (gN S) + 16 := e3
  have h64 := zpw6 e1'
  have hle := zct_le (e := yE (gN S)) (sb := ySb (gN S)) (f := f) (n := 2 ^ yI (gN S))
  unfold f_Mod_row
  rw [Option.bind_some]
  generalize zsI g0 333 2 0 = h at *
  have t1 : h.1 354 f = zJ (zct (yE (gN S)) (ySb (gN S)) f (2 ^ yI (gN S))) := (hi2.2.1.1 f hf).2.1
  rw [faults_in hn hi2.1 (by omega), Option.bind_some, decide_eq_true hf, if_neg (by decide)]
  simp (disch := omega) only [zg_tr, zb_t, zJ_lt, zJ_le, zJ_inj, zJ_ltl, zJ_lel, zJ_eql, zJ_llt, zJ_lle, zJ_leq, zJ_m1, zJ_m1r, zJ_nle_m1, zJ_m1lt, zJ_add, zJ_al, zJ_mull, zJ_c, zJ_mlr, zJ_cl, zJ_sub, zJ_subl, zJ_neg, zJ_divl, zreml, zshl_1, zshr_J, zushr_J, zJ_and1, if_pos, if_neg, Option.bind_some, zI_eq, zI_ne, zI_nk, zI_2, zL_1, zL_eq, zL_ne, zL_nk, zL_22, t1]
  rw [isIn_J1 (by omega) (by omega) (by omega), Option.bind_some, decide_eq_true hi, if_pos (by decide)]
  refine zw_bi (rowLoop_r hn hi2.2.1 hf hi) ?_
  rintro x rfl
  exact zw_some ⟨⟨z1, fun w hw => by cases hw; rfl⟩, q1, hi2⟩
theorem q_row {h : zH} {v w : Int32} (hi : yInv h) : zw (f_L_row h v w) fun x => zw (f_Mod_row x.2 v w) fun y => yEnd x y := by
  obtain ⟨S, ho, hc, hr⟩ := hi
  obtain ⟨⟨e1, e2, e3, e4⟩, -⟩ := id ho.1
  have e1' : yI (gN S) ≤ 6 := e1
  have e3' : yLs (gN S) ≤ yI (gN S) + 16 := e3
  have h64 := zpw6 e1'
  have bad : (∀ g, yIc g S → f_Main_row g v w = some (.inr (1, g))) → (∀ g, yIr (zsI g 333 2 0) S → f_Mod_row g v w = f_Mod_fail (zsI g 333 2 0) 1) → zw (f_L_row h v w) fun x => zw (f_Mod_row x.2 v w) fun y => yEnd x y := by
    intro h1 h2
    unfold f_L_row
    refine yBad (f := fun g => f_Mod_row g v w) (c := 1) (m := 1) ho hc hr ⟨_, h1 h hc, h, rfl, zfm.rfl', hc⟩ ?_ (fun g hg => ?_) (Or.inl rfl)
    · intro g
      rfl
    · show zw (f_Mod_row g v w) _
      rw [h2 g (code_r hg).1]
      exact yFail hg (c := 1)
  rcases yneg v with hv | ⟨f, hf, rfl⟩
  · refine bad (fun g hg => ?_) (fun g hg => ?_)
    · unfold f_Main_row
      rw [needFault_neg hv]
      rfl
    · unfold f_Mod_row
      rw [Option.bind_some, faults_neg ho.1 hg.1 hv]
      rfl
  · by_cases hfF : f < 2 * yLs (gN S)
    · have hle := zct_le (e := yE (gN S)) (sb := ySb (gN S)) (f := f) (n := 2 ^ yI (gN S))
      have rr : ∀ g, yIr (zsI g 333 2 0) S → f_Mod_row g (zJ f) w = (f_Mod_isIn w 0 (zJ (zct (yE (gN S)) (ySb (gN S)) f (2 ^ yI (gN S))) - 1)).bind (fun x5 => if ¬ x5 = 0 then (zit zFU (fun s : Int32 × Int32 => f_Mod_row_b40 (zsI g 333 2 0) (zJ f) s.1 s.2) (w, 0)).bind (fun y12 => some (y12, zsI g 333 2 0)) else f_Mod_row_j29 (zsI g 333 2 0)) := by
        intro g hg
        have t1 : (zsI g 333 2 0).1 354 f = zJ (zct (yE (gN S)) (ySb (gN S)) f (2 ^ yI (gN S))) := (hg.2.1.1 f hfF).2.1
        unfold f_Mod_row
        rw [Option.bind_some, faults_in ho.1 hg.1 hf, Option.bind_some, decide_eq_true hfF, if_neg (by decide), zJ_c (by omega), t1, zb_t (by omega) (by omega), zg_tr]
      rcases yneg w with hw | ⟨k, hk, rfl⟩
      · refine bad (fun g hg => ?_) (fun g hg => ?_)
        · unfold f_Main_row
          rw [needFault_in ho hg hf, if_pos hfF, Option.bind_some]
          dsimp only [Sum.elim]
          rw [if_pos hw]
          rfl
        · rw [rr g hg, isIn_neg hw]
          rfl
      · by_cases hkn : k < zct (yE (gN S)) (ySb (gN S)) f (2 ^ yI (gN S))
        · unfold f_L_row
          exact yGood (f := fun g => f_Mod_row g (zJ f) (zJ k)) ho hr (row_c ho hc hfF hkn) (fun g hg => row_r ho hg hfF hkn)
        · refine bad (fun g hg => ?_) (fun g hg => ?_)
          · unfold f_Main_row
            rw [needFault_in ho hg hf, if_pos hfF, Option.bind_some]
            dsimp only [Sum.elim]
            simp (disch := omega) only [zg_tr, zb_t, zJ_lt, zJ_le, zJ_inj, zJ_ltl, zJ_lel, zJ_eql, zJ_llt, zJ_lle, zJ_leq, zJ_m1, zJ_m1r, zJ_nle_m1, zJ_m1lt, zJ_add, zJ_al, zJ_mull, zJ_c, zJ_mlr, zJ_cl, zJ_sub, zJ_subl, zJ_neg, zJ_divl, zreml, zshl_1, zshr_J, zushr_J, zJ_and1, if_pos, if_neg, Option.bind_some, zI_eq, zI_ne, zI_nk, zI_2, zL_1, zL_eq, zL_ne, zL_nk, zL_22, zct_c ho.1 hg.2.1 hfF]
            rfl
          · rw [rr g hg, isIn_J (by omega) hk, Option.bind_some, decide_eq_false hkn, if_neg (by decide)]
            rfl
    · refine bad (fun g hg => ?_) (fun g hg => ?_)
      · unfold f_Main_row
        rw [needFault_in ho hg hf, if_neg hfF]
        rfl
      · unfold f_Mod_row
        rw [Option.bind_some, faults_in ho.1 hg.1 hf, Option.bind_some, decide_eq_false hfF, if_pos (by decide)]
        rfl
