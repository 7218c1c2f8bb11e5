/-! ===== put, load, apply ===== -/
theorem isIn_ge {n k : Nat} (hn : n < 2147483648) (hk : k < 2147483648) (h : ¬ k < n) : f_Mod_isIn (zJ k) 0 (zJ n - 1) = some 0 := by
  rw [isIn_J hn hk, decide_eq_false h]
  rfl
def ypu (N : yN) (inp i b : Nat) : Nat := yrn (fun j => if j = i then b else zrw inp j) (yI N)
theorem ypu_bits {N : yN} {inp i b : Nat} {x : Int32} (h6 : yI N ≤ 6) (hi : i < yI N) (hb : b < 2) (hinp : inp < 2 ^ yI N) (hx : ∀ j, j < 32 → zBi x j = if j = i then (b == 1) else zBi (zJ inp) j) : x = zJ (ypu N inp i b) := by
  apply zBi_ext
  intro j hj
  rw [hx j hj, zJ_bit hj]
  unfold ypu
  rw [zJ_bit hj, yrn_bit (fun i _ => by split; exact hb; exact zrw_lt)]
  by_cases hji : j = i
  · subst hji
    rw [if_pos rfl, if_pos rfl, decide_eq_true hi, Bool.true_and]
  · rw [if_neg hji, if_neg hji, zrw_bit]
    by_cases hjI : j < yI N
    · rw [decide_eq_true hjI, Bool.true_and]
    · rw [decide_eq_false hjI, Bool.false_and]
      exact Nat.testBit_lt_two_pow (Nat.lt_of_lt_of_le hinp (Nat.pow_le_pow_right (by omega) (by omega)))
theorem ypu_lt {N : yN} {inp i b : Nat} (hb : b < 2) : ypu N inp i b < 2 ^ yI N := yrn_lt fun j _ => by
  split
  · exact hb
  · exact zrw_lt
theorem isBit_c (v : Int32) : (∃ b, b < 2 ∧ v = zJ b ∧ f_Main_isBit v = some 1 ∧ f_Mod_isIn v 0 1 = some 1) ∨ (f_Main_isBit v = some 0 ∧ f_Mod_isIn v 0 1 = some 0) := by
  rcases yneg v with hv | ⟨k, hk, rfl⟩
  · refine Or.inr ⟨?_, isIn_neg hv⟩
    unfold f_Main_isBit
    simp (disch := omega) only [ynegl hv, if_false, not_false_eq_true, if_true]
  · have h1 : f_Mod_isIn (zJ k) 0 1 = some (zbI (decide (k ≤ 1))) := isIn_lit (b := 1) (by omega) hk
    by_cases hk2 : k < 2
    · refine Or.inl ⟨k, hk2, rfl, ?_, ?_⟩
      · unfold f_Main_isBit
        rcases (by omega : k = 0 ∨ k = 1) with e | e <;> subst e <;> rfl
      · rw [h1, decide_eq_true (by omega)]
        rfl
    · refine Or.inr ⟨?_, ?_⟩
      · unfold f_Main_isBit
        simp (disch := omega) only [zg_tr, zb_t, zJ_lt, zJ_le, zJ_inj, zJ_ltl, zJ_lel, zJ_eql, zJ_llt, zJ_lle, zJ_leq, zJ_m1, zJ_m1r, zJ_nle_m1, zJ_m1lt, zJ_add, zJ_al, zJ_mull, zJ_c, zJ_mlr, zJ_cl, zJ_sub, zJ_subl, zJ_neg, zJ_divl, zreml, zshl_1, zshr_J, zushr_J, zJ_and1, if_pos, if_neg, Option.bind_some, zI_eq, zI_ne, zI_nk, zI_2, zL_1, zL_eq, zL_ne, zL_nk, zL_22]
      · rw [h1, decide_eq_false (by omega)]
        rfl
theorem q_put {h : zH} {v w : Int32} (hi : yInv h) : zw (f_Main_put h v w) fun x => zw (f_Mod_put x.2 v w) fun y => x.1 = y.1 ∧ yInv y.2 := by
  obtain ⟨S, ho, hc, hr⟩ := hi
  obtain ⟨⟨e1, e2, e3, e4⟩, -, n3, n4, n5, -⟩ := id ho.1
  have e1' : yI (gN S) ≤ 6 := e1
  have e3' : yLs (gN S) ≤ yI (gN S) + 16 := e3
  have ok := ykp_ok ho.2.1
  have bad : f_Main_put h v w = (f_Main_refuseAct h).bind (fun x => some (x.1, x.2)) → (∀ g, yIr (zsI g 333 2 0) S → f_Mod_put g v w = (f_Mod_refuse (zsI g 333 2 0) 1).bind fun y => some (y.1, y.2)) → zw (f_Main_put h v w) fun x => zw (f_Mod_put x.2 v w) fun y => x.1 = y.1 ∧ yInv y.2 := fun h1 h2 => qRefuse (f := fun g => f_Mod_put g v w) ho hr hc h1 h2
  obtain ⟨⟨W, D, w1, w2, w3, w4⟩, -⟩ := id hc
  have a0 : h.1 W 0 = zJ (yI (gN S)) := w4.1.1
  have r0 : ∀ g, yIr g S → g.1 336 0 = zJ (yI (gN S)) := fun g hg => hg.1.1.1
  rcases yneg v with hv | ⟨i, hil, rfl⟩
  · refine bad ?_ (fun g hg => ?_)
    · unfold f_Main_put f_Main_put_j18 f_Net_isPin
      rw [w2, zgr_eq, if_pos hv]
      rfl
    · unfold f_Mod_put
      rw [Option.bind_some, isIn_neg hv]
      rfl
  · by_cases hiI : i < yI (gN S)
    · have hco := n5 i hiI
      have a28 := (w4.2.2.2.2.2.2.2 i hiI).1
      have r41 : ∀ g, yIr g S → g.1 341 i = zfj (yCo (gN S) i) := fun g hg => (hg.1.2.2.2.2.2.2.2 i hiI).1
      have cpin : f_Net_isPin W h (zJ i) = some (zbI (decide (yCo (gN S) i = 0))) := by
        unfold f_Net_isPin
        simp (disch := omega) only [zg_tr, zb_t, zJ_lt, zJ_le, zJ_inj, zJ_ltl, zJ_lel, zJ_eql, zJ_llt, zJ_lle, zJ_leq, zJ_m1, zJ_m1r, zJ_nle_m1, zJ_m1lt, zJ_add, zJ_al, zJ_mull, zJ_c, zJ_mlr, zJ_cl, zJ_sub, zJ_subl, zJ_neg, zJ_divl, zreml, zshl_1, zshr_J, zushr_J, zJ_and1, if_pos, if_neg, Option.bind_some, zI_eq, zI_ne, zI_nk, zI_2, zL_1, zL_eq, zL_ne, zL_nk, zL_22, a0, a28]
        by_cases h0 : yCo (gN S) i = 0
        · rw [h0, zfj_0, if_neg (fun h => h rfl)]
          rfl
        · rw [if_pos (fun h => h0 ((zfj_m1 (by omega)).mp h)), decide_eq_false h0]
          rfl
      have rput : ∀ g, yIr (zsI g 333 2 0) S → f_Mod_put g (zJ i) w = if yCo (gN S) i = 0 then (f_Mod_isIn w 0 1).bind (fun x5 => if ¬ x5 = 0 then (f_Mod_keep (zsI g 333 2 0)).bind (fun x6 => (f_Mod_bitOf x6 (zJ i)).bind fun x7 => (f_Mod_putBit x6 (zJ i) w).bind fun x8 => some (x7, x8)) else f_Mod_put_j40 (zsI g 333 2 0)) else f_Mod_put_j40 (zsI g 333 2 0) := by
        intro g hg
        unfold f_Mod_put
        rw [Option.bind_some, r0 _ hg, isIn_J (by omega) (by omega), Option.bind_some, decide_eq_true hiI, if_neg (by decide), zJ_c (by omega), r41 _ hg, zb_t (by omega) (by omega), zg_tr]
        by_cases h0 : yCo (gN S) i = 0
        · rw [h0, zfj_0, if_neg (fun h => h rfl), if_pos rfl]
        · rw [if_pos (fun h => h0 ((zfj_m1 (by omega)).mp h)), if_neg h0]
      by_cases h0 : yCo (gN S) i = 0
      · rcases isBit_c w with ⟨b, hb, rfl, b1, b2⟩ | ⟨b1, b2⟩
        · obtain ⟨⟨o1, o2⟩, -⟩ := id ho.2.1
          have hS' : yOK (gset S ((ypu (gN S) (gT S).1.1 i b, (gT S).1.2), (ykp (gT S)).2)) := ho.set ⟨⟨ypu_lt hb, o2⟩, ok.2⟩
          have h64 := zpw6 e1'
          refine yBoth0 (f := fun g => f_Mod_put g (zJ i) (zJ b)) (v := zbI ((gT S).1.1.testBit i)) hS' ?_ (fun g hg => ?_) hr
          · unfold f_Main_put
            rw [w2, zgr_eq, cpin, Option.bind_some, decide_eq_true h0, if_neg (by decide), b1, Option.bind_some, if_pos (by decide)]
            refine zw_bi (keep_cc ho hc) ?_
            rintro g ⟨q1, q2, q3⟩
            obtain ⟨s1, s2, s3, s4, s5, s6, s7⟩ := id q2.2.2.1.1
            have s1' : g.1 156 0 = zJ (gT S).1.1 := s1
            unfold f_Main_bitOf
            rw [s1', Option.bind_some, bitJ (by omega)]
            refine zw_bi (withBit_c (by omega) hb) ?_
            intro y hy
            rw [ypu_bits e1' hiI hb o1 hy, Option.bind_some]
            have qm : zfm [(156, 157, 0, 9999)] g (zsI g 156 0 (zJ (ypu (gN S) (gT S).1.1 i b))) := zfm.rfl'.I (by rfl)
            refine zw_some ⟨rfl, (q1.sub rfl).tr qm rfl, q2.mach q3 qm ⟨zI_eq, ?_, ?_, ?_, ?_, fun j hj => ?_, fun f hf => s7 f hf⟩⟩
            · rw [zI_nk (by omega)]; exact s2
            · rw [zI_nk (by omega)]; exact s3
            · rw [zI_nk (by omega)]; exact s4
            · rw [zI_nk (by omega)]; exact s5
            · rw [zI_ne (by omega)]; exact s6 j hj
          · obtain ⟨hg1, q1, z1⟩ := code_r hg
            show zw (f_Mod_put g (zJ i) (zJ b)) _
            rw [rput g hg1, if_pos h0, b2, Option.bind_some, if_pos (by decide)]
            generalize zsI g 333 2 0 = g0 at *
            refine zw_bi (keep_rr ho hg1) ?_
            rintro g2 ⟨q2, q3, q4⟩
            obtain ⟨s1, s2, s3, s4, s5, s6, s7⟩ := id q3.2.2.1.1
            simp only [Nat.zero_add] at s1 s2 s3 s4 s5 s6 s7
            have s1' : g2.1 347 0 = zJ (gT S).1.1 := s1
            unfold f_Mod_bitOf f_Mod_putBit
            rw [s1', Option.bind_some, Option.bind_some, Option.bind_some, sbitJ (by omega) (by omega), ypu_bits e1' hiI hb o1 (wbit_bits (by omega) hb)]
            have qm : zfm [(347, 347, 0, 9999)] g2 (zsI g2 347 0 (zJ (ypu (gN S) (gT S).1.1 i b))) := zfm.rfl'.I (by rfl)
            refine zw_some ⟨rfl, (q1.trans q2).tr qm rfl, q3.mach qm rfl (fun a k ha => zin_n1 (by omega)) rfl rfl ⟨zI_eq, ?_, ?_, ?_, ?_, fun j hj => ?_, fun f hf => ?_⟩⟩
            · rw [zI_nk (by omega)]; exact s2
            · rw [zI_nk (by omega)]; exact s3
            · rw [zI_nk (by omega)]; exact s4
            · rw [zI_nk (by omega)]; exact s5
            · rw [zI_nk (by omega), Nat.zero_add]; exact s6 j hj
            · rw [zI_nk (by omega), Nat.zero_add]; exact s7 f hf
        · refine bad ?_ (fun g hg => ?_)
          · unfold f_Main_put f_Main_put_j18
            rw [w2, zgr_eq, cpin, Option.bind_some, decide_eq_true h0, if_neg (by decide), b1, Option.bind_some, if_neg (by decide)]
          · rw [rput g hg, if_pos h0, b2, Option.bind_some, if_neg (by decide)]
            rfl
      · refine bad ?_ (fun g hg => ?_)
        · unfold f_Main_put f_Main_put_j18
          rw [w2, zgr_eq, cpin, Option.bind_some, decide_eq_false h0, if_pos (by decide)]
        · rw [rput g hg, if_neg h0]
          rfl
    · refine bad ?_ (fun g hg => ?_)
      · unfold f_Main_put f_Main_put_j18 f_Net_isPin
        rw [w2, zgr_eq]
        simp (disch := omega) only [zg_tr, zb_t, zJ_lt, zJ_le, zJ_inj, zJ_ltl, zJ_lel, zJ_eql, zJ_llt, zJ_lle, zJ_leq, zJ_m1, zJ_m1r, zJ_nle_m1, zJ_m1lt, zJ_add, zJ_al, zJ_mull, zJ_c, zJ_mlr, zJ_cl, zJ_sub, zJ_subl, zJ_neg, zJ_divl, zreml, zshl_1, zshr_J, zushr_J, zJ_and1, if_pos, if_neg, Option.bind_some, zI_eq, zI_ne, zI_nk, zI_2, zL_1, zL_eq, zL_ne, zL_nk, zL_22, a0]
        rw [if_pos trivial]
      · unfold f_Mod_put
        rw [Option.bind_some, r0 _ hg, isIn_ge (by omega) hil hiI]
        rfl
/-! the longest chain -/
def ylg (N : yN) : Nat → Nat
  | 0 => 0
  | c + 1 => max (ylg N c) (yCn N c)
theorem ylg_le {N : yN} (hn : yOKn N) : ∀ c, c ≤ yNc N → ylg N c ≤ 6
  | 0, _ => by
    unfold ylg
    omega
  | c + 1, h => by
    unfold ylg
    have := ylg_le hn c (by omega)
    have := (hn.2.2.2.1 c (by omega)).2.1
    omega
theorem max_J {a b : Nat} (ha : a < 2147483648) (hb : b < 2147483648) : f_Math_max (zJ a) (zJ b) = some (zJ (max a b)) := by
  unfold f_Math_max
  simp (disch := omega) only [zg_tr, zb_t, zJ_lt, zJ_le, zJ_inj, zJ_ltl, zJ_lel, zJ_eql, zJ_llt, zJ_lle, zJ_leq, zJ_m1, zJ_m1r, zJ_nle_m1, zJ_m1lt, zJ_add, zJ_al, zJ_mull, zJ_c, zJ_mlr, zJ_cl, zJ_sub, zJ_subl, zJ_neg, zJ_divl, zreml, zshl_1, zshr_J, zushr_J, zJ_and1, if_pos, if_neg, Option.bind_some, zI_eq, zI_ne, zI_nk, zI_2, zL_1, zL_eq, zL_ne, zL_nk, zL_22]
  by_cases h : b ≤ a
  · first
    | (rw [if_pos (by omega)]; congr 2; omega)
    | (rw [if_neg (by omega)]; congr 2; omega)
  · first
    | (rw [if_neg (by omega)]; congr 2; omega)
    | (rw [if_pos (by omega)]; congr 2; omega)
theorem longest_c {h : zH} {N : yN} {o : Nat} (hn : yOKn N) (hw : yCN h o N) : zw (f_Net_longestChain o h) fun x => x = zJ (ylg N (yNc N)) := by
  obtain ⟨-, -, n3, n4, -⟩ := id hn
  unfold f_Net_longestChain
  refine zw_bi (P := fun x => x = zJ (ylg N (yNc N))) (zw_for (yNc N) (fun k s => s = (zJ (ylg N k), zJ k)) (by omega) rfl ?_) (fun x hx => zw_some hx)
  rintro k s hk rfl
  dsimp only
  unfold f_Net_longestChain_b4
  rw [hw.2.2.1]
  by_cases hkm : k < yNc N
  · have := ylg_le hn k hk
    have := (n4 k hkm).2.1
    simp (disch := omega) only [zg_tr, zb_t, zJ_lt, zJ_le, zJ_inj, zJ_ltl, zJ_lel, zJ_eql, zJ_llt, zJ_lle, zJ_leq, zJ_m1, zJ_m1r, zJ_nle_m1, zJ_m1lt, zJ_add, zJ_al, zJ_mull, zJ_c, zJ_mlr, zJ_cl, zJ_sub, zJ_subl, zJ_neg, zJ_divl, zreml, zshl_1, zshr_J, zushr_J, zJ_and1, if_pos, if_neg, Option.bind_some, zI_eq, zI_ne, zI_nk, zI_2, zL_1, zL_eq, zL_ne, zL_nk, zL_22, (hw.2.2.2.2.2.2.1 k hkm).1, max_J]
    exact zw_some ⟨hkm, rfl⟩
  · have : k = yNc N := by omega
    subst this
    simp (disch := omega) only [zg_tr, zb_t, zJ_lt, zJ_le, zJ_inj, zJ_ltl, zJ_lel, zJ_eql, zJ_llt, zJ_lle, zJ_leq, zJ_m1, zJ_m1r, zJ_nle_m1, zJ_m1lt, zJ_add, zJ_al, zJ_mull, zJ_c, zJ_mlr, zJ_cl, zJ_sub, zJ_subl, zJ_neg, zJ_divl, zreml, zshl_1, zshr_J, zushr_J, zJ_and1, if_pos, if_neg, Option.bind_some, zI_eq, zI_ne, zI_nk, zI_2, zL_1, zL_eq, zL_ne, zL_nk, zL_22]
    exact zw_some rfl
theorem longest_r {h : zH} {N : yN} (hn : yOKn N) (hr : yRN h N) : zw (f_Mod_longest h) fun x => x = zJ (ylg N (yNc N)) := by
  obtain ⟨-, -, n3, n4, -⟩ := id hn
  unfold f_Mod_longest
  refine zw_bi (P := fun x => x = zJ (ylg N (yNc N))) (zw_for (yNc N) (fun k s => s = (zJ (ylg N k), zJ k)) (by omega) rfl ?_) (fun x hx => zw_some hx)
  rintro k s hk rfl
  dsimp only
  unfold f_Mod_longest_b4
  rw [hr.2.2.1]
  by_cases hkm : k < yNc N
  · have := ylg_le hn k hk
    have := (n4 k hkm).2.1
    simp (disch := omega) only [zg_tr, zb_t, zJ_lt, zJ_le, zJ_inj, zJ_ltl, zJ_lel, zJ_eql, zJ_llt, zJ_lle, zJ_leq, zJ_m1, zJ_m1r, zJ_nle_m1, zJ_m1lt, zJ_add, zJ_al, zJ_mull, zJ_c, zJ_mlr, zJ_cl, zJ_sub, zJ_subl, zJ_neg, zJ_divl, zreml, zshl_1, zshr_J, zushr_J, zJ_and1, if_pos, if_neg, Option.bind_some, zI_eq, zI_ne, zI_nk, zI_2, zL_1, zL_eq, zL_ne, zL_nk, zL_22, (hr.2.2.2.2.2.2.1 k hkm).1, max_J]
    exact zw_some ⟨hkm, rfl⟩
  · have : k = yNc N := by omega
    subst this
    simp (disch := omega) only [zg_tr, zb_t, zJ_lt, zJ_le, zJ_inj, zJ_ltl, zJ_lel, zJ_eql, zJ_llt, zJ_lle, zJ_leq, zJ_m1, zJ_m1r, zJ_nle_m1, zJ_m1lt, zJ_add, zJ_al, zJ_mull, zJ_c, zJ_mlr, zJ_cl, zJ_sub, zJ_subl, zJ_neg, zJ_divl, zreml, zshl_1, zshr_J, zushr_J, zJ_and1, if_pos, if_neg, Option.bind_some, zI_eq, zI_ne, zI_nk, zI_2, zL_1, zL_eq, zL_ne, zL_nk, zL_22]
    exact zw_some rfl
/-- the machine behind a loading -/
def ysL (N : yN) (s : yS) (r : Nat) : yS := (r, s.2.1 + zJ (ylg N (yNc N)), s.2.2)
theorem loadRow_c {h : zH} {N : yN} {o w r : Nat} {s : yS} (hn : yOKn N) (hw : yCN h w N) (h1 : yCSt h o s) : zw (f_State_loadRow o w h (zJ r)) fun x => x.1 = zJ (ylg N (yNc N)) ∧ zfm [(o, o, 0, 1)] h x.2 ∧ yCSt x.2 o (ysL N s r) := by
  obtain ⟨s1, s2, s3, s4, s5, s6, s7⟩ := h1
  unfold f_State_loadRow
  refine zw_bi (longest_c hn hw) ?_
  rintro x rfl
  simp (disch := omega) only [zg_tr, zb_t, zJ_lt, zJ_le, zJ_inj, zJ_ltl, zJ_lel, zJ_eql, zJ_llt, zJ_lle, zJ_leq, zJ_m1, zJ_m1r, zJ_nle_m1, zJ_m1lt, zJ_add, zJ_al, zJ_mull, zJ_c, zJ_mlr, zJ_cl, zJ_sub, zJ_subl, zJ_neg, zJ_divl, zreml, zshl_1, zshr_J, zushr_J, zJ_and1, if_pos, if_neg, Option.bind_some, zI_eq, zI_ne, zI_nk, zI_2, zL_1, zL_eq, zL_ne, zL_nk, zL_22, s2]
  refine zw_some ⟨rfl, (zfm.rfl'.I (zin_1 (by omega) (by omega) (by omega) (by omega))).I (zin_1 (by omega) (by omega) (by omega) (by omega)), ?_, zI_eq, ?_, ?_, ?_, fun j hj => ?_, fun f hf => s7 f hf⟩
  · simp (disch := omega) only [zg_tr, zb_t, zJ_lt, zJ_le, zJ_inj, zJ_ltl, zJ_lel, zJ_eql, zJ_llt, zJ_lle, zJ_leq, zJ_m1, zJ_m1r, zJ_nle_m1, zJ_m1lt, zJ_add, zJ_al, zJ_mull, zJ_c, zJ_mlr, zJ_cl, zJ_sub, zJ_subl, zJ_neg, zJ_divl, zreml, zshl_1, zshr_J, zushr_J, zJ_and1, if_pos, if_neg, Option.bind_some, zI_eq, zI_ne, zI_nk, zI_2, zL_1, zL_eq, zL_ne, zL_nk, zL_22]
    rfl
  · simp (disch := omega) only [zg_tr, zb_t, zJ_lt, zJ_le, zJ_inj, zJ_ltl, zJ_lel, zJ_eql, zJ_llt, zJ_lle, zJ_leq, zJ_m1, zJ_m1r, zJ_nle_m1, zJ_m1lt, zJ_add, zJ_al, zJ_mull, zJ_c, zJ_mlr, zJ_cl, zJ_sub, zJ_subl, zJ_neg, zJ_divl, zreml, zshl_1, zshr_J, zushr_J, zJ_and1, if_pos, if_neg, Option.bind_some, zI_eq, zI_ne, zI_nk, zI_2, zL_1, zL_eq, zL_ne, zL_nk, zL_22]
    exact s3
  · simp (disch := omega) only [zg_tr, zb_t, zJ_lt, zJ_le, zJ_inj, zJ_ltl, zJ_lel, zJ_eql, zJ_llt, zJ_lle, zJ_leq, zJ_m1, zJ_m1r, zJ_nle_m1, zJ_m1lt, zJ_add, zJ_al, zJ_mull, zJ_c, zJ_mlr, zJ_cl, zJ_sub, zJ_subl, zJ_neg, zJ_divl, zreml, zshl_1, zshr_J, zushr_J, zJ_and1, if_pos, if_neg, Option.bind_some, zI_eq, zI_ne, zI_nk, zI_2, zL_1, zL_eq, zL_ne, zL_nk, zL_22]
    exact s4
  · simp (disch := omega) only [zg_tr, zb_t, zJ_lt, zJ_le, zJ_inj, zJ_ltl, zJ_lel, zJ_eql, zJ_llt, zJ_lle, zJ_leq, zJ_m1, zJ_m1r, zJ_nle_m1, zJ_m1lt, zJ_add, zJ_al, zJ_mull, zJ_c, zJ_mlr, zJ_cl, zJ_sub, zJ_subl, zJ_neg, zJ_divl, zreml, zshl_1, zshr_J, zushr_J, zJ_and1, if_pos, if_neg, Option.bind_some, zI_eq, zI_ne, zI_nk, zI_2, zL_1, zL_eq, zL_ne, zL_nk, zL_22]
    exact s5
  · simp (disch := omega) only [zg_tr, zb_t, zJ_lt, zJ_le, zJ_inj, zJ_ltl, zJ_lel, zJ_eql, zJ_llt, zJ_lle, zJ_leq, zJ_m1, zJ_m1r, zJ_nle_m1, zJ_m1lt, zJ_add, zJ_al, zJ_mull, zJ_c, zJ_mlr, zJ_cl, zJ_sub, zJ_subl, zJ_neg, zJ_divl, zreml, zshl_1, zshr_J, zushr_J, zJ_and1, if_pos, if_neg, Option.bind_some, zI_eq, zI_ne, zI_nk, zI_2, zL_1, zL_eq, zL_ne, zL_nk, zL_22]
    exact s6 j hj
theorem loadRow_r {h : zH} {N : yN} {r : Nat} {s : yS} (hn : yOKn N) (hr : yRN h N) (h1 : yRSt (h.1 347) 0 s) : yRSt ((zsI (zsI h 347 0 (zJ r)) 347 1 (h.1 347 1 + zJ (ylg N (yNc N)))).1 347) 0 (ysL N s r) := by
  obtain ⟨s1, s2, s3, s4, s5, s6, s7⟩ := h1
  simp only [Nat.zero_add] at s1 s2 s3 s4 s5 s6 s7
  refine ⟨?_, ?_, ?_, ?_, ?_, fun j hj => ?_, fun f hf => ?_⟩
  · simp (disch := omega) only [zg_tr, zb_t, zJ_lt, zJ_le, zJ_inj, zJ_ltl, zJ_lel, zJ_eql, zJ_llt, zJ_lle, zJ_leq, zJ_m1, zJ_m1r, zJ_nle_m1, zJ_m1lt, zJ_add, zJ_al, zJ_mull, zJ_c, zJ_mlr, zJ_cl, zJ_sub, zJ_subl, zJ_neg, zJ_divl, zreml, zshl_1, zshr_J, zushr_J, zJ_and1, if_pos, if_neg, Option.bind_some, zI_eq, zI_ne, zI_nk, zI_2, zL_1, zL_eq, zL_ne, zL_nk, zL_22]
    rfl
  · rw [Nat.zero_add, zI_eq, s2]
    rfl
  · simp (disch := omega) only [zg_tr, zb_t, zJ_lt, zJ_le, zJ_inj, zJ_ltl, zJ_lel, zJ_eql, zJ_llt, zJ_lle, zJ_leq, zJ_m1, zJ_m1r, zJ_nle_m1, zJ_m1lt, zJ_add, zJ_al, zJ_mull, zJ_c, zJ_mlr, zJ_cl, zJ_sub, zJ_subl, zJ_neg, zJ_divl, zreml, zshl_1, zshr_J, zushr_J, zJ_and1, if_pos, if_neg, Option.bind_some, zI_eq, zI_ne, zI_nk, zI_2, zL_1, zL_eq, zL_ne, zL_nk, zL_22]
    exact s3
  · simp (disch := omega) only [zg_tr, zb_t, zJ_lt, zJ_le, zJ_inj, zJ_ltl, zJ_lel, zJ_eql, zJ_llt, zJ_lle, zJ_leq, zJ_m1, zJ_m1r, zJ_nle_m1, zJ_m1lt, zJ_add, zJ_al, zJ_mull, zJ_c, zJ_mlr, zJ_cl, zJ_sub, zJ_subl, zJ_neg, zJ_divl, zreml, zshl_1, zshr_J, zushr_J, zJ_and1, if_pos, if_neg, Option.bind_some, zI_eq, zI_ne, zI_nk, zI_2, zL_1, zL_eq, zL_ne, zL_nk, zL_22]
    exact s4
  · simp (disch := omega) only [zg_tr, zb_t, zJ_lt, zJ_le, zJ_inj, zJ_ltl, zJ_lel, zJ_eql, zJ_llt, zJ_lle, zJ_leq, zJ_m1, zJ_m1r, zJ_nle_m1, zJ_m1lt, zJ_add, zJ_al, zJ_mull, zJ_c, zJ_mlr, zJ_cl, zJ_sub, zJ_subl, zJ_neg, zJ_divl, zreml, zshl_1, zshr_J, zushr_J, zJ_and1, if_pos, if_neg, Option.bind_some, zI_eq, zI_ne, zI_nk, zI_2, zL_1, zL_eq, zL_ne, zL_nk, zL_22]
    exact s5
  · rw [Nat.zero_add]
    simp (disch := omega) only [zg_tr, zb_t, zJ_lt, zJ_le, zJ_inj, zJ_ltl, zJ_lel, zJ_eql, zJ_llt, zJ_lle, zJ_leq, zJ_m1, zJ_m1r, zJ_nle_m1, zJ_m1lt, zJ_add, zJ_al, zJ_mull, zJ_c, zJ_mlr, zJ_cl, zJ_sub, zJ_subl, zJ_neg, zJ_divl, zreml, zshl_1, zshr_J, zushr_J, zJ_and1, if_pos, if_neg, Option.bind_some, zI_eq, zI_ne, zI_nk, zI_2, zL_1, zL_eq, zL_ne, zL_nk, zL_22]
    exact s6 j hj
  · rw [Nat.zero_add]
    simp (disch := omega) only [zg_tr, zb_t, zJ_lt, zJ_le, zJ_inj, zJ_ltl, zJ_lel, zJ_eql, zJ_llt, zJ_lle, zJ_leq, zJ_m1, zJ_m1r, zJ_nle_m1, zJ_m1lt, zJ_add, zJ_al, zJ_mull, zJ_c, zJ_mlr, zJ_cl, zJ_sub, zJ_subl, zJ_neg, zJ_divl, zreml, zshl_1, zshr_J, zushr_J, zJ_and1, if_pos, if_neg, Option.bind_some, zI_eq, zI_ne, zI_nk, zI_2, zL_1, zL_eq, zL_ne, zL_nk, zL_22]
    exact s7 f hf
theorem isRow_c {h : zH} {N : yN} (hn : yOKn N) (hc : yCAT h (yE N) (ySb N)) (v : Int32) : (∃ r, r < 2 ^ yI N ∧ v = zJ r ∧ f_Catalog_isRow h v = some 1 ∧ f_Mod_isIn v 0 (zJ (2 ^ yI N) - 1) = some 1) ∨ (f_Catalog_isRow h v = some 0 ∧ f_Mod_isIn v 0 (zJ (2 ^ yI N) - 1) = some 0) := by
  have e1' : yI N ≤ 6 := hn.1.1
  have h64 := zpw6 e1'
  have c1 : h.1 74 1 = zJ (2 ^ yI N) := hc.2.1
  unfold f_Catalog_isRow
  rcases yneg v with hv | ⟨k, hk, rfl⟩
  · refine Or.inr ⟨?_, isIn_neg hv⟩
    rw [if_pos hv]
  · rw [isIn_J (by omega) hk]
    by_cases hk2 : k < 2 ^ yI N
    · refine Or.inl ⟨k, hk2, rfl, ?_, ?_⟩
      · simp (disch := omega) only [zg_tr, zb_t, zJ_lt, zJ_le, zJ_inj, zJ_ltl, zJ_lel, zJ_eql, zJ_llt, zJ_lle, zJ_leq, zJ_m1, zJ_m1r, zJ_nle_m1, zJ_m1lt, zJ_add, zJ_al, zJ_mull, zJ_c, zJ_mlr, zJ_cl, zJ_sub, zJ_subl, zJ_neg, zJ_divl, zreml, zshl_1, zshr_J, zushr_J, zJ_and1, if_pos, if_neg, Option.bind_some, zI_eq, zI_ne, zI_nk, zI_2, zL_1, zL_eq, zL_ne, zL_nk, zL_22, c1]
      · rw [decide_eq_true hk2]
        rfl
    · refine Or.inr ⟨?_, ?_⟩
      · simp (disch := omega) only [zg_tr, zb_t, zJ_lt, zJ_le, zJ_inj, zJ_ltl, zJ_lel, zJ_eql, zJ_llt, zJ_lle, zJ_leq, zJ_m1, zJ_m1r, zJ_nle_m1, zJ_m1lt, zJ_add, zJ_al, zJ_mull, zJ_c, zJ_mlr, zJ_cl, zJ_sub, zJ_subl, zJ_neg, zJ_divl, zreml, zshl_1, zshr_J, zushr_J, zJ_and1, if_pos, if_neg, Option.bind_some, zI_eq, zI_ne, zI_nk, zI_2, zL_1, zL_eq, zL_ne, zL_nk, zL_22, c1]
      · rw [decide_eq_false hk2]
        rfl
theorem q_load {h : zH} {v : Int32} (hi : yInv h) : zw (f_Main_load h v) fun x => zw (f_Mod_load x.2 v) fun y => x.1 = y.1 ∧ yInv y.2 := by
  obtain ⟨S, ho, hc, hr⟩ := hi
  have ok := ykp_ok ho.2.1
  have bad : f_Main_load h v = (f_Main_refuseAct h).bind (fun x => some (x.1, x.2)) → (∀ g, yIr (zsI g 333 2 0) S → f_Mod_load g v = (f_Mod_refuse (zsI g 333 2 0) 1).bind fun y => some (y.1, y.2)) → zw (f_Main_load h v) fun x => zw (f_Mod_load x.2 v) fun y => x.1 = y.1 ∧ yInv y.2 := fun h1 h2 => qRefuse (f := fun g => f_Mod_load g v) ho hr hc h1 h2
  rcases isRow_c ho.1 hc.2.1 v with ⟨r, hrr, rfl, b1, b2⟩ | ⟨b1, b2⟩
  · obtain ⟨⟨o1, o2⟩, -⟩ := id ho.2.1
    have hS' : yOK (gset S (ysL (gN S) (gT S).1 r, (ykp (gT S)).2)) := ho.set ⟨⟨hrr, o2⟩, ok.2⟩
    refine yBoth0 (f := fun g => f_Mod_load g (zJ r)) (v := zJ (ylg (gN S) (yNc (gN S)))) hS' ?_ (fun g hg => ?_) hr
    · unfold f_Main_load
      rw [b1, Option.bind_some, if_pos (by decide)]
      refine zw_bi (keep_cc ho hc) ?_
      rintro g ⟨q1, q2, q3⟩
      obtain ⟨⟨W, D, w1, w2, w3, w4⟩, i2, i3, -⟩ := id q2
      rw [w2, zgr_eq]
      refine zw_bi (loadRow_c (s := (gT S).1) ho.1 w4 i3.1) ?_
      rintro ⟨x, g2⟩ ⟨rfl, p1, p2⟩
      exact zw_some ⟨rfl, (q1.sub rfl).tr p1 rfl, q2.mach q3 (zfm.sub p1 rfl) p2⟩
    · obtain ⟨hg1, q1, z1⟩ := code_r hg
      show zw (f_Mod_load g (zJ r)) _
      unfold f_Mod_load
      rw [Option.bind_some]
      generalize zsI g 333 2 0 = g0 at *
      rw [rows_n ho.1 hg1.1, Option.bind_some, b2, Option.bind_some, if_pos (by decide)]
      refine zw_bi (keep_rr ho hg1) ?_
      rintro g2 ⟨q2, q3, q4⟩
      rw [Option.bind_some]
      have qa : zfm [(347, 347, 0, 9999)] g2 (zsI g2 347 0 (zJ r)) := zfm.rfl'.I (by rfl)
      refine zw_bi (longest_r ho.1 (q3.1.fr qa (fun a k h1 h2 => zin_n1 (by omega)))) ?_
      rintro x rfl
      rw [Option.bind_some]
      have qb : zfm [(347, 347, 0, 9999)] g2 (zsI (zsI g2 347 0 (zJ r)) 347 1 ((zsI g2 347 0 (zJ r)).1 347 1 + zJ (ylg (gN S) (yNc (gN S))))) := qa.I (by rfl)
      refine zw_bi (longest_r ho.1 (q3.1.fr qb (fun a k h1 h2 => zin_n1 (by omega)))) ?_
      rintro x rfl
      have e : (zsI g2 347 0 (zJ r)).1 347 1 = g2.1 347 1 := zI_nk (by omega)
      rw [e] at qb ⊢
      exact zw_some ⟨rfl, (q1.trans q2).tr qb rfl, q3.mach qb rfl (fun a k ha => zin_n1 (by omega)) rfl rfl (loadRow_r (s := (gT S).1) ho.1 q3.1 q3.2.2.1.1)⟩
  · refine bad ?_ (fun g hg => ?_)
    · unfold f_Main_load
      rw [b1, Option.bind_some, if_neg (by decide)]
    · unfold f_Mod_load
      rw [Option.bind_some, rows_n ho.1 hg.1, Option.bind_some, b2, Option.bind_some, if_neg (by decide)]
