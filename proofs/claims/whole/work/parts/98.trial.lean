/-! ===== behind, back ===== -/
def gbh (N : yN) (inp f : Nat) : Nat → Nat
  | 0 => inp
  | k + 1 => ytk N (gbh N inp f k) f
theorem gbh_lt {N : yN} {inp f : Nat} (hn : yOKn N) (h : inp < 2 ^ yI N) : ∀ k, gbh N inp f k < 2 ^ yI N
  | 0 => h
  | _ + 1 => ytk_lt hn
theorem behind_c {h : zH} {S : yG} {n : Nat} (ho : yOK S) (hc : yIc h S) (hn : n ≤ 40) : zw (zit zFU (fun s : Int32 × Int32 => f_Main_behind_b31 h (zJ n) s.1 s.2) ((h.1 156 0), 0)) fun x => x = zJ (gbh (gN S) (gT S).1.1 (gT S).1.2.2.1 n) := by
  obtain ⟨⟨W, D, w1, w2, w3, w4⟩, i2, i3, -⟩ := id hc
  obtain ⟨⟨o1, o2, -⟩, -⟩ := id ho.2.1
  obtain ⟨s1, s2, s3, -⟩ := i3.1
  have s1' : h.1 156 0 = zJ (gT S).1.1 := s1
  have s3' : h.1 156 2 = zfj (gT S).1.2.2.1 := s3
  refine zw_mono (zw_for n (fun k t => t = (zJ (gbh (gN S) (gT S).1.1 (gT S).1.2.2.1 k), zJ k)) (by omega) (by rw [s1']; rfl) ?_) (fun x hx => hx)
  rintro k t hk rfl
  dsimp only
  unfold f_Main_behind_b31
  by_cases hkm : k < n
  · simp (disch := omega) only [zg_tr, zb_t, zJ_lt, zJ_le, zJ_inj, zJ_ltl, zJ_lel, zJ_eql, zJ_llt, zJ_lle, zJ_leq, zJ_m1, zJ_m1r, zJ_nle_m1, zJ_m1lt, zJ_add, zJ_al, zJ_mull, zJ_c, zJ_mlr, zJ_cl, zJ_sub, zJ_subl, zJ_neg, zJ_divl, zreml, zshl_1, zshr_J, zushr_J, zJ_and1, if_pos, if_neg, Option.bind_some, zI_eq, zI_ne, zI_nk, zI_2, zL_1, zL_eq, zL_ne, zL_nk, zL_22]
    rw [w2, zgr_eq, s3']
    refine zw_bi (inputsTaken_c ho.1 hc.2.1 w4 (gbh_lt ho.1 o1 k) o2) ?_
    rintro x rfl
    exact zw_some ⟨hkm, rfl⟩
  · have : k = n := by omega
    subst this
    simp (disch := omega) only [zg_tr, zb_t, zJ_lt, zJ_le, zJ_inj, zJ_ltl, zJ_lel, zJ_eql, zJ_llt, zJ_lle, zJ_leq, zJ_m1, zJ_m1r, zJ_nle_m1, zJ_m1lt, zJ_add, zJ_al, zJ_mull, zJ_c, zJ_mlr, zJ_cl, zJ_sub, zJ_subl, zJ_neg, zJ_divl, zreml, zshl_1, zshr_J, zushr_J, zJ_and1, if_pos, if_neg, Option.bind_some, zI_eq, zI_ne, zI_nk, zI_2, zL_1, zL_eq, zL_ne, zL_nk, zL_22]
    exact zw_some rfl
theorem behind_r {h : zH} {S : yG} {n : Nat} (ho : yOK S) (hr : yIr h S) (hn : n ≤ 40) : zw (zit zFU (fun s : Int32 × Int32 × zH => f_Mod_behind_b30 s.2.2 (zJ n) s.1 s.2.1) ((h.1 347 0), 0, h)) fun x => x.1 = zJ (gbh (gN S) (gT S).1.1 (gT S).1.2.2.1 n) ∧ zfm [(350, 351, 0, 9999)] h x.2 := by
  obtain ⟨⟨o1, o2, -⟩, -⟩ := id ho.2.1
  obtain ⟨s1, s2, s3, -⟩ := hr.2.2.1.1
  simp only [Nat.zero_add] at s2 s3
  have s1' : h.1 347 0 = zJ (gT S).1.1 := s1
  refine zw_mono (zw_for n (fun k t => t.1 = zJ (gbh (gN S) (gT S).1.1 (gT S).1.2.2.1 k) ∧ t.2.1 = zJ k ∧ zfm [(350, 351, 0, 9999)] h t.2.2) (by omega) ⟨s1', rfl, zfm.rfl'⟩ ?_) (fun x hx => hx)
  rintro k ⟨a, i, g⟩ hk ⟨rfl, rfl, hz⟩
  dsimp only at hz ⊢
  unfold f_Mod_behind_b30
  by_cases hkm : k < n
  · have e2 : g.1 347 2 = zfj (gT S).1.2.2.1 := (hz.i (by rfl)).trans s3
    simp (disch := omega) only [zg_tr, zb_t, zJ_lt, zJ_le, zJ_inj, zJ_ltl, zJ_lel, zJ_eql, zJ_llt, zJ_lle, zJ_leq, zJ_m1, zJ_m1r, zJ_nle_m1, zJ_m1lt, zJ_add, zJ_al, zJ_mull, zJ_c, zJ_mlr, zJ_cl, zJ_sub, zJ_subl, zJ_neg, zJ_divl, zreml, zshl_1, zshr_J, zushr_J, zJ_and1, if_pos, if_neg, Option.bind_some, zI_eq, zI_ne, zI_nk, zI_2, zL_1, zL_eq, zL_ne, zL_nk, zL_22]
    rw [e2]
    refine zw_bi (taken_r ho.1 (hr.1.fr hz (fun a k h1 h2 => zin_n1 (by omega))) (gbh_lt ho.1 o1 k) o2) ?_
    rintro ⟨x, g2⟩ ⟨rfl, q⟩
    exact zw_some ⟨hkm, rfl, rfl, hz.trans q⟩
  · have : k = n := by omega
    subst this
    simp (disch := omega) only [zg_tr, zb_t, zJ_lt, zJ_le, zJ_inj, zJ_ltl, zJ_lel, zJ_eql, zJ_llt, zJ_lle, zJ_leq, zJ_m1, zJ_m1r, zJ_nle_m1, zJ_m1lt, zJ_add, zJ_al, zJ_mull, zJ_c, zJ_mlr, zJ_cl, zJ_sub, zJ_subl, zJ_neg, zJ_divl, zreml, zshl_1, zshr_J, zushr_J, zJ_and1, if_pos, if_neg, Option.bind_some, zI_eq, zI_ne, zI_nk, zI_2, zL_1, zL_eq, zL_ne, zL_nk, zL_22]
    exact zw_some ⟨rfl, hz⟩
theorem q_behind {h : zH} {v : Int32} (hi : yInv h) : zw (f_L_behind h v) fun x => zw (f_Mod_behind x.2 v) fun y => yEnd x y := by
  obtain ⟨S, ho, hc, hr⟩ := hi
  have bad : f_Main_behind h v = some (.inr (2, h)) → (∀ g, yIr (zsI g 333 2 0) S → f_Mod_isIn v 0 40 = some 0) → zw (f_L_behind h v) fun x => zw (f_Mod_behind x.2 v) fun y => yEnd x y := by
    intro h1 h2
    unfold f_L_behind
    refine yBad (m := 1) (c := 2) (f := fun g => f_Mod_behind g v) ho hc hr (zw_of h1 ⟨h, rfl, zfm.rfl', hc⟩) (fun g => by rfl) (fun g hg => ?_) (Or.inl rfl)
    unfold f_Mod_behind
    rw [Option.bind_some, h2 g (code_r hg).1, Option.bind_some, if_neg (by decide)]
    refine zw_bi (yFail (c := 1) hg) (fun x hx => zw_some hx)
  rcases yneg v with hv | ⟨k, hk, rfl⟩
  · refine bad ?_ (fun g hg => isIn_neg hv)
    unfold f_Main_behind f_Main_behind_j10
    rw [if_pos hv]
  · have hin : f_Mod_isIn (zJ k) 0 40 = some (zbI (decide (k ≤ 40))) := isIn_lit (b := 40) (by omega) hk
    by_cases h40 : k ≤ 40
    · unfold f_L_behind
      refine yGood (f := fun g => f_Mod_behind g (zJ k)) (v := zJ (gbh (gN S) (gT S).1.1 (gT S).1.2.2.1 k)) ho hr ?_ (fun g hg => ?_)
      · unfold f_Main_behind
        simp (disch := omega) only [zg_tr, zb_t, zJ_lt, zJ_le, zJ_inj, zJ_ltl, zJ_lel, zJ_eql, zJ_llt, zJ_lle, zJ_leq, zJ_m1, zJ_m1r, zJ_nle_m1, zJ_m1lt, zJ_add, zJ_al, zJ_mull, zJ_c, zJ_mlr, zJ_cl, zJ_sub, zJ_subl, zJ_neg, zJ_divl, zreml, zshl_1, zshr_J, zushr_J, zJ_and1, if_pos, if_neg, Option.bind_some, zI_eq, zI_ne, zI_nk, zI_2, zL_1, zL_eq, zL_ne, zL_nk, zL_22]
        refine zw_bi (behind_c ho hc h40) ?_
        rintro x rfl
        exact zw_some ⟨h, rfl, zfm.rfl', hc⟩
      · obtain ⟨hg1, q1, z1⟩ := code_r hg
        show zw (f_Mod_behind g (zJ k)) _
        unfold f_Mod_behind
        rw [Option.bind_some]
        generalize zsI g 333 2 0 = g0 at *
        rw [hin, Option.bind_some, decide_eq_true h40, if_pos (by decide)]
        refine zw_bi (behind_r ho hg1 h40) ?_
        rintro ⟨x, g2⟩ ⟨rfl, q⟩
        refine zw_some ⟨⟨(q.i (by rfl)).trans z1, fun w hw => by cases hw; rfl⟩, q1.tr q rfl, hg1.fr q rfl⟩
    · refine bad ?_ (fun g hg => by rw [hin, decide_eq_false h40]; rfl)
      unfold f_Main_behind f_Main_behind_j10
      simp (disch := omega) only [zg_tr, zb_t, zJ_lt, zJ_le, zJ_inj, zJ_ltl, zJ_lel, zJ_eql, zJ_llt, zJ_lle, zJ_leq, zJ_m1, zJ_m1r, zJ_nle_m1, zJ_m1lt, zJ_add, zJ_al, zJ_mull, zJ_c, zJ_mlr, zJ_cl, zJ_sub, zJ_subl, zJ_neg, zJ_divl, zreml, zshl_1, zshr_J, zushr_J, zJ_and1, if_pos, if_neg, Option.bind_some, zI_eq, zI_ne, zI_nk, zI_2, zL_1, zL_eq, zL_ne, zL_nk, zL_22]
def gbk (N : yN) (inp f : Nat) : Nat → Nat → Int32
  | 0, _ => -1
  | m + 1, k => if gbh N inp f k = inp then zJ k else gbk N inp f m (k + 1)
theorem gbk_s {N : yN} {inp f k : Nat} (hk : k < 64) : gbk N inp f (64 - k) (k + 1) = if gbh N inp f (k + 1) = inp then zJ (k + 1) else gbk N inp f (64 - (k + 1)) (k + 1 + 1) := by
  obtain ⟨m, hm⟩ : ∃ m, 64 - k = m + 1 := ⟨64 - k - 1, by omega⟩
  rw [hm, show 64 - (k + 1) = m by omega]
  rfl
theorem back_c {h : zH} {S : yG} (ho : yOK S) (hc : yIc h S) : zw (f_Main_back h) fun x => x = gbk (gN S) (gT S).1.1 (gT S).1.2.2.1 64 1 := by
  obtain ⟨⟨e1, e2, e3, e4⟩, -⟩ := id ho.1
  have h64 := zpw6 (show yI (gN S) ≤ 6 from e1)
  obtain ⟨⟨W, D, w1, w2, w3, w4⟩, i2, i3, -⟩ := id hc
  obtain ⟨⟨o1, o2, -⟩, -⟩ := id ho.2.1
  obtain ⟨s1, s2, s3, -⟩ := i3.1
  have s1' : h.1 156 0 = zJ (gT S).1.1 := s1
  have s3' : h.1 156 2 = zfj (gT S).1.2.2.1 := s3
  unfold f_Main_back
  refine zw_bi (P := Sum.elim (fun v => v = gbk (gN S) (gT S).1.1 (gT S).1.2.2.1 64 1) (fun _ => gbk (gN S) (gT S).1.1 (gT S).1.2.2.1 64 1 = -1)) (zw_for 64 (fun k t => t = (zJ (gbh (gN S) (gT S).1.1 (gT S).1.2.2.1 k), zJ (k + 1)) ∧ gbk (gN S) (gT S).1.1 (gT S).1.2.2.1 64 1 = gbk (gN S) (gT S).1.1 (gT S).1.2.2.1 (64 - k) (k + 1)) (by omega) ⟨by rw [s1']; rfl, rfl⟩ ?_) ?_
  · rintro k t hk ⟨rfl, hv⟩
    dsimp only
    unfold f_Main_back_b13
    by_cases hkm : k < 64
    · rw [gbk_s hkm] at hv
      have hl := gbh_lt (f := (gT S).1.2.2.1) ho.1 o1 (k + 1)
      simp (disch := omega) only [zg_tr, zb_t, zJ_lt, zJ_le, zJ_inj, zJ_ltl, zJ_lel, zJ_eql, zJ_llt, zJ_lle, zJ_leq, zJ_m1, zJ_m1r, zJ_nle_m1, zJ_m1lt, zJ_add, zJ_al, zJ_mull, zJ_c, zJ_mlr, zJ_cl, zJ_sub, zJ_subl, zJ_neg, zJ_divl, zreml, zshl_1, zshr_J, zushr_J, zJ_and1, if_pos, if_neg, Option.bind_some, zI_eq, zI_ne, zI_nk, zI_2, zL_1, zL_eq, zL_ne, zL_nk, zL_22]
      rw [w2, zgr_eq, s3']
      refine zw_bi (inputsTaken_c ho.1 hc.2.1 w4 (gbh_lt ho.1 o1 k) o2) ?_
      rintro x rfl
      rw [s1']
      have hx : zJ (ytk (gN S) (gbh (gN S) (gT S).1.1 (gT S).1.2.2.1 k) (gT S).1.2.2.1) = zJ (gT S).1.1 ↔ gbh (gN S) (gT S).1.1 (gT S).1.2.2.1 (k + 1) = (gT S).1.1 := zJ_inj (by show gbh (gN S) (gT S).1.1 (gT S).1.2.2.1 (k + 1) < _; omega) (by omega)
      by_cases he : gbh (gN S) (gT S).1.1 (gT S).1.2.2.1 (k + 1) = (gT S).1.1
      · rw [if_pos he] at hv
        rw [if_neg (fun h => h (hx.mpr he))]
        exact zw_some hv.symm
      · rw [if_neg he] at hv
        rw [if_pos (fun h => he (hx.mp h))]
        exact zw_some ⟨hkm, rfl, hv⟩
    · have : k = 64 := by omega
      subst this
      rw [if_pos (by decide)]
      exact zw_some hv
  · rintro (y | y) hy
    · exact zw_some hy
    · exact zw_some hy.symm
theorem back_r {h : zH} {S : yG} (ho : yOK S) (hr : yIr h S) : zw ((zit zFU (fun s : Int32 × Int32 × zH => f_Mod_back_b14 s.2.2 s.1 s.2.1) ((h.1 347 0), 1, h)).bind (Sum.elim (fun y6 => some (y6.1, y6.2)) (fun y7 => some ((-1), y7)))) fun x => x.1 = gbk (gN S) (gT S).1.1 (gT S).1.2.2.1 64 1 ∧ zfm [(350, 351, 0, 9999)] h x.2 := by
  obtain ⟨⟨e1, e2, e3, e4⟩, -⟩ := id ho.1
  have h64 := zpw6 (show yI (gN S) ≤ 6 from e1)
  obtain ⟨⟨o1, o2, -⟩, -⟩ := id ho.2.1
  obtain ⟨s1, s2, s3, -⟩ := hr.2.2.1.1
  simp only [Nat.zero_add] at s2 s3
  have s1' : h.1 347 0 = zJ (gT S).1.1 := s1
  refine zw_bi (P := Sum.elim (fun v => v.1 = gbk (gN S) (gT S).1.1 (gT S).1.2.2.1 64 1 ∧ zfm [(350, 351, 0, 9999)] h v.2) (fun g => gbk (gN S) (gT S).1.1 (gT S).1.2.2.1 64 1 = -1 ∧ zfm [(350, 351, 0, 9999)] h g)) (zw_for 64 (fun k t => t.1 = zJ (gbh (gN S) (gT S).1.1 (gT S).1.2.2.1 k) ∧ t.2.1 = zJ (k + 1) ∧ zfm [(350, 351, 0, 9999)] h t.2.2 ∧ gbk (gN S) (gT S).1.1 (gT S).1.2.2.1 64 1 = gbk (gN S) (gT S).1.1 (gT S).1.2.2.1 (64 - k) (k + 1)) (by omega) ⟨s1', rfl, zfm.rfl', rfl⟩ ?_) ?_
  · rintro k ⟨a, i, g⟩ hk ⟨rfl, rfl, hz, hv⟩
    dsimp only at hz ⊢
    unfold f_Mod_back_b14
    by_cases hkm : k < 64
    · rw [gbk_s hkm] at hv
      have hl := gbh_lt (f := (gT S).1.2.2.1) ho.1 o1 (k + 1)
      have e2 : g.1 347 2 = zfj (gT S).1.2.2.1 := (hz.i (by rfl)).trans s3
      simp (disch := omega) only [zg_tr, zb_t, zJ_lt, zJ_le, zJ_inj, zJ_ltl, zJ_lel, zJ_eql, zJ_llt, zJ_lle, zJ_leq, zJ_m1, zJ_m1r, zJ_nle_m1, zJ_m1lt, zJ_add, zJ_al, zJ_mull, zJ_c, zJ_mlr, zJ_cl, zJ_sub, zJ_subl, zJ_neg, zJ_divl, zreml, zshl_1, zshr_J, zushr_J, zJ_and1, if_pos, if_neg, Option.bind_some, zI_eq, zI_ne, zI_nk, zI_2, zL_1, zL_eq, zL_ne, zL_nk, zL_22]
      rw [e2]
      refine zw_bi (taken_r ho.1 (hr.1.fr hz (fun a k h1 h2 => zin_n1 (by omega))) (gbh_lt ho.1 o1 k) o2) ?_
      rintro ⟨x, g2⟩ ⟨rfl, q⟩
      have hz2 := hz.trans q
      have e0 : g2.1 347 0 = zJ (gT S).1.1 := (hz2.i (by rfl)).trans s1'
      dsimp only
      rw [e0]
      have hx : zJ (ytk (gN S) (gbh (gN S) (gT S).1.1 (gT S).1.2.2.1 k) (gT S).1.2.2.1) = zJ (gT S).1.1 ↔ gbh (gN S) (gT S).1.1 (gT S).1.2.2.1 (k + 1) = (gT S).1.1 := zJ_inj (by show gbh (gN S) (gT S).1.1 (gT S).1.2.2.1 (k + 1) < _; omega) (by omega)
      by_cases he : gbh (gN S) (gT S).1.1 (gT S).1.2.2.1 (k + 1) = (gT S).1.1
      · rw [if_pos he] at hv
        rw [if_neg (fun h => h (hx.mpr he))]
        exact zw_some ⟨hv.symm, hz2⟩
      · rw [if_neg he] at hv
        rw [if_pos (fun h => he (hx.mp h))]
        exact zw_some ⟨hkm, rfl, rfl, hz2, hv⟩
    · have : k = 64 := by omega
      subst this
      rw [if_pos (by decide)]
      exact zw_some ⟨hv, hz⟩
  · rintro (y | y) hy
    · exact zw_some hy
    · exact zw_some ⟨hy.1.symm, hy.2⟩
theorem q_back {h : zH} (hi : yInv h) : zw (f_Main_back h) fun x => zw (f_Mod_back h) fun y => x = y.1 ∧ yInv y.2 := by
  obtain ⟨S, ho, hc, hr⟩ := hi
  refine zw_mono (back_c ho hc) ?_
  rintro x rfl
  obtain ⟨hg1, q1, z1⟩ := code_r hr
  unfold f_Mod_back
  rw [Option.bind_some]
  have hc1 := hc.fr ho q1 rfl
  generalize zsI h 333 2 0 = g0 at *
  refine zw_mono (back_r ho hg1) ?_
  rintro ⟨x, g2⟩ ⟨rfl, q⟩
  exact ⟨rfl, S, ho, hc1.fr ho q rfl, hg1.fr q rfl⟩
