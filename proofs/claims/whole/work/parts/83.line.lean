/-! ===== lines, letters, chains ===== -/
theorem zfj_sub1 {n : Nat} (h : n < 2147483648) : zJ n - 1 = zfj n := by
  rw [Int32.sub_eq_add_neg, zfj_dn h]
theorem zfj_ltJ {n k : Nat} (hn : n < 2147483648) (hk : k < 2147483648) : zfj n < zJ k ↔ n ≤ k := by
  cases n with
  | zero =>
    rw [zfj_0, zJ_m1lt hk]
    simp
  | succ n =>
    rw [zfj_s, zJ_lt (by omega) hk]
    omega
theorem isIn_J {n k : Nat} (hn : n < 2147483648) (hk : k < 2147483648) : f_Mod_isIn (zJ k) 0 (zJ n - 1) = some (zbI (decide (k < n))) := by
  unfold f_Mod_isIn
  rw [zfj_sub1 hn]
  simp only [zfj_ltJ hn hk]
  simp (disch := omega) only [zg_tr, zb_t, zJ_lt, zJ_le, zJ_inj, zJ_ltl, zJ_lel, zJ_eql, zJ_llt, zJ_lle, zJ_leq, zJ_m1, zJ_m1r, zJ_nle_m1, zJ_m1lt, zJ_add, zJ_al, zJ_mull, zJ_c, zJ_mlr, zJ_cl, zJ_sub, zJ_subl, zJ_neg, zJ_divl, zreml, zshl_1, zshr_J, zushr_J, zJ_and1, if_pos, if_neg, Option.bind_some, zI_eq, zI_ne, zI_nk, zI_2, zL_1, zL_eq, zL_ne, zL_nk, zL_22]
  by_cases h : k < n
  · rw [if_neg (by omega), decide_eq_true h]
    rfl
  · rw [if_pos (by omega), decide_eq_false h]
    rfl
theorem isIn_neg {v b : Int32} (hv : v < 0) : f_Mod_isIn v 0 b = some 0 := by
  unfold f_Mod_isIn
  rw [if_pos hv]
theorem lines_in {h : zH} {N : yN} {k : Nat} (hn : yOKn N) (hr : yRN h N) (hk : k < 2147483648) : f_Mod_isLine h (zJ k) = some (zbI (decide (k < yLs N))) := by
  obtain ⟨⟨e1, e2, e3, e4⟩, -⟩ := id hn
  have e1' : yI N ≤ 6 := e1
  have e3' : yLs N ≤ yI N + 16 := e3
  unfold f_Mod_isLine
  rw [lines_n hn hr, Option.bind_some, isIn_J (by omega) hk, Option.bind_some, zbI_bo]
  rfl
theorem lines_neg {h : zH} {N : yN} {v : Int32} (hn : yOKn N) (hr : yRN h N) (hv : v < 0) : f_Mod_isLine h v = some 0 := by
  unfold f_Mod_isLine
  rw [lines_n hn hr, Option.bind_some, isIn_neg hv, Option.bind_some]
  rfl
theorem faults_in {h : zH} {N : yN} {k : Nat} (hn : yOKn N) (hr : yRN h N) (hk : k < 2147483648) : f_Mod_isFault h (zJ k) = some (zbI (decide (k < 2 * yLs N))) := by
  obtain ⟨⟨e1, e2, e3, e4⟩, -⟩ := id hn
  have e1' : yI N ≤ 6 := e1
  have e3' : yLs N ≤ yI N + 16 := e3
  unfold f_Mod_isFault
  rw [faults_n hn hr, Option.bind_some, isIn_J (by omega) hk, Option.bind_some, zbI_bo]
  rfl
theorem faults_neg {h : zH} {N : yN} {v : Int32} (hn : yOKn N) (hr : yRN h N) (hv : v < 0) : f_Mod_isFault h v = some 0 := by
  unfold f_Mod_isFault
  rw [faults_n hn hr, Option.bind_some, isIn_neg hv, Option.bind_some]
  rfl
theorem isLine_c {h : zH} {N : yN} {o k : Nat} (hn : yOKn N) (hw : yCN h o N) (hk : k < 2147483648) : f_Net_isLine o h (zJ k) = some (zbI (decide (k < yLs N))) := by
  obtain ⟨⟨e1, e2, e3, e4⟩, -⟩ := id hn
  have e1' : yI N ≤ 6 := e1
  have e3' : yLs N ≤ yI N + 16 := e3
  unfold f_Net_isLine
  rw [lines_c hn.1 hw.1]
  have hL : (yE N).2.1 = yLs N := rfl
  rw [hL]
  simp (disch := omega) only [zg_tr, zb_t, zJ_lt, zJ_le, zJ_inj, zJ_ltl, zJ_lel, zJ_eql, zJ_llt, zJ_lle, zJ_leq, zJ_m1, zJ_m1r, zJ_nle_m1, zJ_m1lt, zJ_add, zJ_al, zJ_mull, zJ_c, zJ_mlr, zJ_cl, zJ_sub, zJ_subl, zJ_neg, zJ_divl, zreml, zshl_1, zshr_J, zushr_J, zJ_and1, if_pos, if_neg, Option.bind_some, zI_eq, zI_ne, zI_nk, zI_2, zL_1, zL_eq, zL_ne, zL_nk, zL_22]
  by_cases h : k < yLs N
  · rw [if_neg (by omega), decide_eq_true h]
    rfl
  · rw [if_pos (by omega), decide_eq_false h]
    rfl
theorem isLine_neg {h : zH} {o : Nat} {v : Int32} (hv : v < 0) : f_Net_isLine o h v = some 0 := by
  unfold f_Net_isLine
  rw [if_pos hv]
theorem needLine_in {h : zH} {S : yG} {k : Nat} (ho : yOK S) (hi : yIc h S) (hk : k < 2147483648) : f_Main_needLine h (zJ k) = if k < yLs (gN S) then some (.inl ((), h)) else some (.inr (1, h)) := by
  obtain ⟨⟨W, D, w1, w2, w3, w4⟩, -⟩ := hi
  unfold f_Main_needLine
  rw [w2, zgr_eq, isLine_c ho.1 w4 hk, Option.bind_some]
  by_cases h : k < yLs (gN S)
  · rw [decide_eq_true h, if_pos (by decide), if_pos h]
  · rw [decide_eq_false h, if_neg (by decide), if_neg h]
theorem needLine_neg {h : zH} {S : yG} {v : Int32} (hi : yIc h S) (hv : v < 0) : f_Main_needLine h v = some (.inr (1, h)) := by
  obtain ⟨⟨W, D, w1, w2, w3, w4⟩, -⟩ := hi
  unfold f_Main_needLine
  rw [w2, zgr_eq, isLine_neg hv]
  rfl
theorem isFault_in {h : zH} {N : yN} {k : Nat} (hn : yOKn N) (hc : yCAT h (yE N) (ySb N)) (hk : k < 2147483648) : f_Catalog_isFault h (zJ k) = some (zbI (decide (k < 2 * yLs N))) := by
  obtain ⟨⟨e1, e2, e3, e4⟩, -⟩ := id hn
  have e1' : yI N ≤ 6 := e1
  have e3' : yLs N ≤ yI N + 16 := e3
  have c1 : h.1 74 0 = zJ (2 * yLs N) := hc.1
  unfold f_Catalog_isFault
  simp (disch := omega) only [zg_tr, zb_t, zJ_lt, zJ_le, zJ_inj, zJ_ltl, zJ_lel, zJ_eql, zJ_llt, zJ_lle, zJ_leq, zJ_m1, zJ_m1r, zJ_nle_m1, zJ_m1lt, zJ_add, zJ_al, zJ_mull, zJ_c, zJ_mlr, zJ_cl, zJ_sub, zJ_subl, zJ_neg, zJ_divl, zreml, zshl_1, zshr_J, zushr_J, zJ_and1, if_pos, if_neg, Option.bind_some, zI_eq, zI_ne, zI_nk, zI_2, zL_1, zL_eq, zL_ne, zL_nk, zL_22, c1]
  by_cases h : k < 2 * yLs N
  · rw [if_neg (by omega), decide_eq_true h]
    rfl
  · rw [if_pos (by omega), decide_eq_false h]
    rfl
theorem isFault_neg {h : zH} {v : Int32} (hv : v < 0) : f_Catalog_isFault h v = some 0 := by
  unfold f_Catalog_isFault
  rw [if_pos hv]
theorem needFault_in {h : zH} {S : yG} {k : Nat} (ho : yOK S) (hi : yIc h S) (hk : k < 2147483648) : f_Main_needFault h (zJ k) = if k < 2 * yLs (gN S) then some (.inl ((), h)) else some (.inr (1, h)) := by
  unfold f_Main_needFault
  rw [isFault_in ho.1 hi.2.1 hk, Option.bind_some]
  by_cases h : k < 2 * yLs (gN S)
  · rw [decide_eq_true h, if_pos (by decide), if_pos h]
  · rw [decide_eq_false h, if_neg (by decide), if_neg h]
theorem needFault_neg {h : zH} {v : Int32} (hv : v < 0) : f_Main_needFault h v = some (.inr (1, h)) := by
  unfold f_Main_needFault
  rw [isFault_neg hv]
  rfl
theorem zBi_l2i {x : Int64} {i : Nat} (hi : i < 32) : zBi x.toInt32 i = zBl x i := by
  show (x.toBitVec.signExtend 32).getLsbD i = x.toBitVec.getLsbD i
  rw [BitVec.signExtend_eq_setWidth_of_le _ (by decide), BitVec.getLsbD_setWidth]
  simp [hi]
theorem ytl {x : Int64} {r : Nat} (hr : r < 64) : (zlushr x (zJ r)).toInt32 &&& 1 = zbI (zBl x r) := by
  have h0 := ybit (x := (zlushr x (zJ r)).toInt32) (l := 0) (by omega)
  have h1 : zushr (zlushr x (zJ r)).toInt32 (zJ 0) = (zlushr x (zJ r)).toInt32 := by
    apply zBi_ext
    intro i hi
    rw [zBi_ushr _ (by omega), Nat.zero_add]
  rw [h1] at h0
  rw [h0, zBi_l2i (by omega), zBl_ushr _ hr, Nat.add_zero]
theorem tell_c {h : zH} {N : yN} {f l r : Nat} (hn : yOKn N) (hc : yCAT h (yE N) (ySb N)) (hf : f ≤ 2 * yLs N) (hl : l < yLs N) (hr : r < 2 ^ yI N) : f_Catalog_tell h (zfj f) (zJ l) (zJ r) = some (zJ (zvl (yE N) (zrw r) f l)) := by
  obtain ⟨⟨e1, e2, e3, e4⟩, -⟩ := id hn
  have e1' : yI N ≤ 6 := e1
  have e3' : yLs N ≤ yI N + 16 := e3
  have h64 := zpw6 e1'
  have ht := hc.2.2.2.1 f (by show f < 2 * yLs N + 1; omega) l hl r (by omega)
  unfold f_Catalog_tell
  rw [zfj_1]
  simp (disch := omega) only [zg_tr, zb_t, zJ_lt, zJ_le, zJ_inj, zJ_ltl, zJ_lel, zJ_eql, zJ_llt, zJ_lle, zJ_leq, zJ_m1, zJ_m1r, zJ_nle_m1, zJ_m1lt, zJ_add, zJ_al, zJ_mull, zJ_c, zJ_mlr, zJ_cl, zJ_sub, zJ_subl, zJ_neg, zJ_divl, zreml, zshl_1, zshr_J, zushr_J, zJ_and1, if_pos, if_neg, Option.bind_some, zI_eq, zI_ne, zI_nk, zI_2, zL_1, zL_eq, zL_ne, zL_nk, zL_22]
  rw [ytl (by omega), ht, show decide (r < 2 ^ (yE N).1) = true from decide_eq_true hr, Bool.true_and]
  have := zvl_lt2 (f := f) hn.1 (inp := zrw r) (fun i _ => zrw_lt) _ l (Nat.lt_succ_self l) hl
  rcases (by omega : zvl (yE N) (zrw r) f l = 0 ∨ zvl (yE N) (zrw r) f l = 1) with d | d <;> rw [d] <;> rfl
theorem inMachine_r {h : zH} {N : yN} {inp f l : Nat} (hn : yOKn N) (hr : yRN h N) (h0 : h.1 347 0 = zJ inp) (h2 : h.1 347 2 = zfj f) (hinp : inp < 2 ^ yI N) (hf : f ≤ 2 * yLs N) (hl : l < yLs N) : zw (f_Mod_inMachine h (zJ l)) fun y => y.1 = zJ (zvl (yE N) (zrw inp) f l) ∧ zfm [(350, 351, 0, 9999)] h y.2 := by
  obtain ⟨⟨e1, e2, e3, e4⟩, -⟩ := id hn
  have e1' : yI N ≤ 6 := e1
  have e3' : yLs N ≤ yI N + 16 := e3
  have h64 := zpw6 e1'
  unfold f_Mod_inMachine
  rw [h0]
  refine zw_bi (putRow_r hn.1 hr.1 (by omega)) ?_
  rintro g1 ⟨q1, q2⟩
  have r2 : g1.1 347 2 = zfj f := (q1.i (by rfl)).trans h2
  rw [r2]
  refine zw_bi (tellLines_r (inp := zrw inp) hn.1 (hr.1.fr q1 (fun o k h1 h2 => zin_n1 (by omega))) (by omega) (fun i hi => ⟨q2 i hi, zrw_le⟩)) ?_
  rintro g2 ⟨q3, q4⟩
  simp (disch := omega) only [zg_tr, zb_t, zJ_lt, zJ_le, zJ_inj, zJ_ltl, zJ_lel, zJ_eql, zJ_llt, zJ_lle, zJ_leq, zJ_m1, zJ_m1r, zJ_nle_m1, zJ_m1lt, zJ_add, zJ_al, zJ_mull, zJ_c, zJ_mlr, zJ_cl, zJ_sub, zJ_subl, zJ_neg, zJ_divl, zreml, zshl_1, zshr_J, zushr_J, zJ_and1, if_pos, if_neg, Option.bind_some, zI_eq, zI_ne, zI_nk, zI_2, zL_1, zL_eq, zL_ne, zL_nk, zL_22, q4]
  exact zw_some ⟨rfl, (q1.sub rfl).tr q3 rfl⟩
/-- what is answered of a line -/
def yln (S : yG) (l k : Nat) : Int32 :=
  if k = 0 then (if l < yI (gN S) then -1 else zJ ((yE (gN S)).2.2.1 l)) else if k = 1 then (if l < yI (gN S) then 0 else zJ ((yE (gN S)).2.2.2.1 l)) else
  if k ≤ 4 then (if l < yI (gN S) then -1 else if k - 2 < (yE (gN S)).2.2.2.1 l then zJ ((yE (gN S)).2.2.2.2 l (k - 2)) else -1) else
  if k = 5 then zbI (ySb (gN S) l) else if k = 6 then zJ (zvl (yE (gN S)) (zrw (gT S).1.1) (gT S).1.2.2.1 l) else
  if k = 7 then (if l < yI (gN S) then zfj (yCo (gN S) l) else -1) else if k = 8 then (if l < yI (gN S) then zfj (yTk (gN S) l) else -1) else zJ (yLn (gN S) l)
theorem line_c {h : zH} {S : yG} {l k : Nat} (ho : yOK S) (hi : yIc h S) (hl : l < yLs (gN S)) (hk : k ≤ 9) : zw (f_Main_line h (zJ l) (zJ k)) fun x => ∃ g, x = .inl (yln S l k, g) ∧ zfm yLc h g ∧ yIc g S := by
  obtain ⟨⟨W, D, w1, w2, w3, w4⟩, i2, i3, i4, i5, i6, i7, i8, i9⟩ := id hi
  obtain ⟨⟨s1, s2, s3, s4, s5, s6, s7⟩, -⟩ := id i3
  obtain ⟨hn, ht, -⟩ := id ho
  obtain ⟨o1, o2, -⟩ := ht.1
  obtain ⟨⟨e1, e2, e3, e4⟩, n2, -⟩ := id hn
  have e1' : yI (gN S) ≤ 6 := e1
  have e3' : yLs (gN S) ≤ yI (gN S) + 16 := e3
  obtain ⟨⟨a1, a2, a3⟩, a4, a5, a6, a7, a8, a9, a10⟩ := id w4
  have a1' : h.1 W 0 = zJ (yI (gN S)) := a1
  have same : ∀ v : Int32, v = yln S l k → zw (some (.inl (v, h) : (Int32 × zH) ⊕ (Nat × zH))) fun x => ∃ g, x = .inl (yln S l k, g) ∧ zfm yLc h g ∧ yIc g S := fun v hv => zw_some ⟨h, by rw [hv], zfm.rfl', hi⟩
  unfold f_Main_line
  rw [needLine_in ho hi (by omega), if_pos hl, Option.bind_some]
  dsimp only [Sum.elim]
  rw [w2]
  simp only [zgr_eq]
  rcases (by omega : k = 0 ∨ k = 1 ∨ (2 ≤ k ∧ k ≤ 4) ∨ k = 5 ∨ k = 6 ∨ k = 7 ∨ k = 8 ∨ k = 9) with e | e | e | e | e | e | e | e
  · by_cases hin : l < yI (gN S)
    · simp (disch := omega) only [zg_tr, zb_t, zJ_lt, zJ_le, zJ_inj, zJ_ltl, zJ_lel, zJ_eql, zJ_llt, zJ_lle, zJ_leq, zJ_m1, zJ_m1r, zJ_nle_m1, zJ_m1lt, zJ_add, zJ_al, zJ_mull, zJ_c, zJ_mlr, zJ_cl, zJ_sub, zJ_subl, zJ_neg, zJ_divl, zreml, zshl_1, zshr_J, zushr_J, zJ_and1, if_pos, if_neg, Option.bind_some, zI_eq, zI_ne, zI_nk, zI_2, zL_1, zL_eq, zL_ne, zL_nk, zL_22, (a7 l hin).1]
      exact same _ (by unfold yln; simp [e, hin])
    · obtain ⟨b1, b2, b3⟩ := a3 l (by show yI (gN S) ≤ l; omega) hl
      simp (disch := omega) only [zg_tr, zb_t, zJ_lt, zJ_le, zJ_inj, zJ_ltl, zJ_lel, zJ_eql, zJ_llt, zJ_lle, zJ_leq, zJ_m1, zJ_m1r, zJ_nle_m1, zJ_m1lt, zJ_add, zJ_al, zJ_mull, zJ_c, zJ_mlr, zJ_cl, zJ_sub, zJ_subl, zJ_neg, zJ_divl, zreml, zshl_1, zshr_J, zushr_J, zJ_and1, if_pos, if_neg, Option.bind_some, zI_eq, zI_ne, zI_nk, zI_2, zL_1, zL_eq, zL_ne, zL_nk, zL_22, b1]
      exact same _ (by unfold yln; simp [e, hin])
  · by_cases hin : l < yI (gN S)
    · simp (disch := omega) only [zg_tr, zb_t, zJ_lt, zJ_le, zJ_inj, zJ_ltl, zJ_lel, zJ_eql, zJ_llt, zJ_lle, zJ_leq, zJ_m1, zJ_m1r, zJ_nle_m1, zJ_m1lt, zJ_add, zJ_al, zJ_mull, zJ_c, zJ_mlr, zJ_cl, zJ_sub, zJ_subl, zJ_neg, zJ_divl, zreml, zshl_1, zshr_J, zushr_J, zJ_and1, if_pos, if_neg, Option.bind_some, zI_eq, zI_ne, zI_nk, zI_2, zL_1, zL_eq, zL_ne, zL_nk, zL_22, (a7 l hin).2]
      exact same _ (by unfold yln; simp [e, hin])
    · obtain ⟨b1, b2, b3⟩ := a3 l (by show yI (gN S) ≤ l; omega) hl
      simp (disch := omega) only [zg_tr, zb_t, zJ_lt, zJ_le, zJ_inj, zJ_ltl, zJ_lel, zJ_eql, zJ_llt, zJ_lle, zJ_leq, zJ_m1, zJ_m1r, zJ_nle_m1, zJ_m1lt, zJ_add, zJ_al, zJ_mull, zJ_c, zJ_mlr, zJ_cl, zJ_sub, zJ_subl, zJ_neg, zJ_divl, zreml, zshl_1, zshr_J, zushr_J, zJ_and1, if_pos, if_neg, Option.bind_some, zI_eq, zI_ne, zI_nk, zI_2, zL_1, zL_eq, zL_ne, zL_nk, zL_22, b2]
      exact same _ (by unfold yln; simp [e, hin])
  · have goal : zw (f_Main_line_j96 h (zJ l) (zJ k)) fun x => ∃ g, x = .inl (yln S l k, g) ∧ zfm yLc h g ∧ yIc g S := by
      unfold f_Main_line_j96
      rw [w2]
      simp only [zgr_eq]
      by_cases hin : l < yI (gN S)
      · simp (disch := omega) only [zg_tr, zb_t, zJ_lt, zJ_le, zJ_inj, zJ_ltl, zJ_lel, zJ_eql, zJ_llt, zJ_lle, zJ_leq, zJ_m1, zJ_m1r, zJ_nle_m1, zJ_m1lt, zJ_add, zJ_al, zJ_mull, zJ_c, zJ_mlr, zJ_cl, zJ_sub, zJ_subl, zJ_neg, zJ_divl, zreml, zshl_1, zshr_J, zushr_J, zJ_and1, if_pos, if_neg, Option.bind_some, zI_eq, zI_ne, zI_nk, zI_2, zL_1, zL_eq, zL_ne, zL_nk, zL_22, (a7 l hin).2]
        exact same _ (by unfold yln; simp [show k ≠ 0 by omega, show k ≠ 1 by omega, e.2, hin])
      · obtain ⟨b1, b2, b3⟩ := a3 l (by show yI (gN S) ≤ l; omega) hl
        obtain ⟨k1, k2, k3, k4, k5⟩ := e4 l (by show yI (gN S) ≤ l; omega) hl
        simp (disch := omega) only [zg_tr, zb_t, zJ_lt, zJ_le, zJ_inj, zJ_ltl, zJ_lel, zJ_eql, zJ_llt, zJ_lle, zJ_leq, zJ_m1, zJ_m1r, zJ_nle_m1, zJ_m1lt, zJ_add, zJ_al, zJ_mull, zJ_c, zJ_mlr, zJ_cl, zJ_sub, zJ_subl, zJ_neg, zJ_divl, zreml, zshl_1, zshr_J, zushr_J, zJ_and1, if_pos, if_neg, Option.bind_some, zI_eq, zI_ne, zI_nk, zI_2, zL_1, zL_eq, zL_ne, zL_nk, zL_22, b2]
        by_cases hm : k - 2 < (yE (gN S)).2.2.2.1 l
        · rw [if_neg (by omega)]
          have b3k := b3 (k - 2) hm
          simp (disch := omega) only [zg_tr, zb_t, zJ_lt, zJ_le, zJ_inj, zJ_ltl, zJ_lel, zJ_eql, zJ_llt, zJ_lle, zJ_leq, zJ_m1, zJ_m1r, zJ_nle_m1, zJ_m1lt, zJ_add, zJ_al, zJ_mull, zJ_c, zJ_mlr, zJ_cl, zJ_sub, zJ_subl, zJ_neg, zJ_divl, zreml, zshl_1, zshr_J, zushr_J, zJ_and1, if_pos, if_neg, Option.bind_some, zI_eq, zI_ne, zI_nk, zI_2, zL_1, zL_eq, zL_ne, zL_nk, zL_22, b3k]
          exact same _ (by unfold yln; simp [show k ≠ 0 by omega, show k ≠ 1 by omega, e.2, hin, hm])
        · rw [if_pos (by omega)]
          exact same _ (by unfold yln; simp [show k ≠ 0 by omega, show k ≠ 1 by omega, e.2, hin, hm])
    rcases (by omega : k = 2 ∨ k = 3 ∨ k = 4) with e | e | e
    all_goals
      simp (disch := omega) only [zg_tr, zb_t, zJ_lt, zJ_le, zJ_inj, zJ_ltl, zJ_lel, zJ_eql, zJ_llt, zJ_lle, zJ_leq, zJ_m1, zJ_m1r, zJ_nle_m1, zJ_m1lt, zJ_add, zJ_al, zJ_mull, zJ_c, zJ_mlr, zJ_cl, zJ_sub, zJ_subl, zJ_neg, zJ_divl, zreml, zshl_1, zshr_J, zushr_J, zJ_and1, if_pos, if_neg, Option.bind_some, zI_eq, zI_ne, zI_nk, zI_2, zL_1, zL_eq, zL_ne, zL_nk, zL_22]
      exact goal
  · simp (disch := omega) only [zg_tr, zb_t, zJ_lt, zJ_le, zJ_inj, zJ_ltl, zJ_lel, zJ_eql, zJ_llt, zJ_lle, zJ_leq, zJ_m1, zJ_m1r, zJ_nle_m1, zJ_m1lt, zJ_add, zJ_al, zJ_mull, zJ_c, zJ_mlr, zJ_cl, zJ_sub, zJ_subl, zJ_neg, zJ_divl, zreml, zshl_1, zshr_J, zushr_J, zJ_and1, if_pos, if_neg, Option.bind_some, zI_eq, zI_ne, zI_nk, zI_2, zL_1, zL_eq, zL_ne, zL_nk, zL_22, isSeen_c (fun l hl => by rw [a4 l (by omega), decide_eq_true hl, Bool.true_and]) (by omega) hl]
    cases hsb : ySb (gN S) l
    · rw [if_pos zbI_f]
      exact same _ (by unfold yln; simp [e, hsb, zbI])
    · rw [if_neg (by decide)]
      exact same _ (by unfold yln; simp [e, hsb, zbI])
  · simp (disch := omega) only [zg_tr, zb_t, zJ_lt, zJ_le, zJ_inj, zJ_ltl, zJ_lel, zJ_eql, zJ_llt, zJ_lle, zJ_leq, zJ_m1, zJ_m1r, zJ_nle_m1, zJ_m1lt, zJ_add, zJ_al, zJ_mull, zJ_c, zJ_mlr, zJ_cl, zJ_sub, zJ_subl, zJ_neg, zJ_divl, zreml, zshl_1, zshr_J, zushr_J, zJ_and1, if_pos, if_neg, Option.bind_some, zI_eq, zI_ne, zI_nk, zI_2, zL_1, zL_eq, zL_ne, zL_nk, zL_22, s1, s3, tell_c hn i2 o2 hl o1]
    exact same _ (by unfold yln; simp [e])
  · simp (disch := omega) only [zg_tr, zb_t, zJ_lt, zJ_le, zJ_inj, zJ_ltl, zJ_lel, zJ_eql, zJ_llt, zJ_lle, zJ_leq, zJ_m1, zJ_m1r, zJ_nle_m1, zJ_m1lt, zJ_add, zJ_al, zJ_mull, zJ_c, zJ_mlr, zJ_cl, zJ_sub, zJ_subl, zJ_neg, zJ_divl, zreml, zshl_1, zshr_J, zushr_J, zJ_and1, if_pos, if_neg, Option.bind_some, zI_eq, zI_ne, zI_nk, zI_2, zL_1, zL_eq, zL_ne, zL_nk, zL_22, a1']
    by_cases hin : l < yI (gN S)
    · simp (disch := omega) only [zg_tr, zb_t, zJ_lt, zJ_le, zJ_inj, zJ_ltl, zJ_lel, zJ_eql, zJ_llt, zJ_lle, zJ_leq, zJ_m1, zJ_m1r, zJ_nle_m1, zJ_m1lt, zJ_add, zJ_al, zJ_mull, zJ_c, zJ_mlr, zJ_cl, zJ_sub, zJ_subl, zJ_neg, zJ_divl, zreml, zshl_1, zshr_J, zushr_J, zJ_and1, if_pos, if_neg, Option.bind_some, zI_eq, zI_ne, zI_nk, zI_2, zL_1, zL_eq, zL_ne, zL_nk, zL_22, (a10 l hin).1]
      exact same _ (by unfold yln; simp [e, hin])
    · simp (disch := omega) only [zg_tr, zb_t, zJ_lt, zJ_le, zJ_inj, zJ_ltl, zJ_lel, zJ_eql, zJ_llt, zJ_lle, zJ_leq, zJ_m1, zJ_m1r, zJ_nle_m1, zJ_m1lt, zJ_add, zJ_al, zJ_mull, zJ_c, zJ_mlr, zJ_cl, zJ_sub, zJ_subl, zJ_neg, zJ_divl, zreml, zshl_1, zshr_J, zushr_J, zJ_and1, if_pos, if_neg, Option.bind_some, zI_eq, zI_ne, zI_nk, zI_2, zL_1, zL_eq, zL_ne, zL_nk, zL_22]
      exact same _ (by unfold yln; simp [e, hin])
  · simp (disch := omega) only [zg_tr, zb_t, zJ_lt, zJ_le, zJ_inj, zJ_ltl, zJ_lel, zJ_eql, zJ_llt, zJ_lle, zJ_leq, zJ_m1, zJ_m1r, zJ_nle_m1, zJ_m1lt, zJ_add, zJ_al, zJ_mull, zJ_c, zJ_mlr, zJ_cl, zJ_sub, zJ_subl, zJ_neg, zJ_divl, zreml, zshl_1, zshr_J, zushr_J, zJ_and1, if_pos, if_neg, Option.bind_some, zI_eq, zI_ne, zI_nk, zI_2, zL_1, zL_eq, zL_ne, zL_nk, zL_22, a1']
    by_cases hin : l < yI (gN S)
    · simp (disch := omega) only [zg_tr, zb_t, zJ_lt, zJ_le, zJ_inj, zJ_ltl, zJ_lel, zJ_eql, zJ_llt, zJ_lle, zJ_leq, zJ_m1, zJ_m1r, zJ_nle_m1, zJ_m1lt, zJ_add, zJ_al, zJ_mull, zJ_c, zJ_mlr, zJ_cl, zJ_sub, zJ_subl, zJ_neg, zJ_divl, zreml, zshl_1, zshr_J, zushr_J, zJ_and1, if_pos, if_neg, Option.bind_some, zI_eq, zI_ne, zI_nk, zI_2, zL_1, zL_eq, zL_ne, zL_nk, zL_22, (a10 l hin).2]
      exact same _ (by unfold yln; simp [e, hin])
    · simp (disch := omega) only [zg_tr, zb_t, zJ_lt, zJ_le, zJ_inj, zJ_ltl, zJ_lel, zJ_eql, zJ_llt, zJ_lle, zJ_leq, zJ_m1, zJ_m1r, zJ_nle_m1, zJ_m1lt, zJ_add, zJ_al, zJ_mull, zJ_c, zJ_mlr, zJ_cl, zJ_sub, zJ_subl, zJ_neg, zJ_divl, zreml, zshl_1, zshr_J, zushr_J, zJ_and1, if_pos, if_neg, Option.bind_some, zI_eq, zI_ne, zI_nk, zI_2, zL_1, zL_eq, zL_ne, zL_nk, zL_22]
      exact same _ (by unfold yln; simp [e, hin])
  · simp (disch := omega) only [zg_tr, zb_t, zJ_lt, zJ_le, zJ_inj, zJ_ltl, zJ_lel, zJ_eql, zJ_llt, zJ_lle, zJ_leq, zJ_m1, zJ_m1r, zJ_nle_m1, zJ_m1lt, zJ_add, zJ_al, zJ_mull, zJ_c, zJ_mlr, zJ_cl, zJ_sub, zJ_subl, zJ_neg, zJ_divl, zreml, zshl_1, zshr_J, zushr_J, zJ_and1, if_pos, if_neg, Option.bind_some, zI_eq, zI_ne, zI_nk, zI_2, zL_1, zL_eq, zL_ne, zL_nk, zL_22, (a8 l hl).2]
    exact same _ (by unfold yln; simp [e])
theorem line_r {h : zH} {S : yG} {l k : Nat} (ho : yOK S) (hi : yIr h S) (hl : l < yLs (gN S)) (hk : k ≤ 9) : zw (f_Mod_line h (zJ l) (zJ k)) fun y => yRA (.inl (yln S l k)) y ∧ zfm yLr h y.2 ∧ yIr y.2 S := by
  obtain ⟨hi1, q1, z1⟩ := code_r hi
  unfold f_Mod_line
  rw [Option.bind_some]
  generalize zsI h 333 2 0 = g at *
  obtain ⟨i1, i2, i3, i4, i5, i6, i7, i8⟩ := id hi1
  obtain ⟨⟨s1, s2, s3, s4, s5, s6, s7⟩, -⟩ := id i3
  simp only [Nat.zero_add] at s1 s2 s3
  obtain ⟨hn, ht, -⟩ := id ho
  obtain ⟨o1, o2, -⟩ := ht.1
  obtain ⟨⟨e1, e2, e3, e4⟩, n2, -⟩ := id hn
  have e1' : yI (gN S) ≤ 6 := e1
  have e3' : yLs (gN S) ≤ yI (gN S) + 16 := e3
  obtain ⟨⟨a1, a2, a3⟩, a4, a5, a6, a7, a8, a9, a10⟩ := id i1
  have a1' : g.1 336 0 = zJ (yI (gN S)) := a1
  have fin : ∀ v : Int32, v = yln S l k → yRA (.inl (yln S l k)) (v, g) ∧ zfm yLr h g ∧ yIr g S := fun v hv => ⟨⟨z1, fun w hw => by cases hw; exact hv⟩, q1, hi1⟩
  have same : ∀ v : Int32, v = yln S l k → zw (some (v, g)) fun y => yRA (.inl (yln S l k)) y ∧ zfm yLr h y.2 ∧ yIr y.2 S := fun v hv => zw_some (fin v hv)
  have main : ∀ b : Bool, b = decide (l < yI (gN S)) → zw (f_Mod_line_j34 g (zJ l) (zJ k) (zbI b)) fun y => yRA (.inl (yln S l k)) y ∧ zfm yLr h y.2 ∧ yIr y.2 S := by
    intro b hb
    unfold f_Mod_line_j34
    rcases (by omega : k = 0 ∨ k = 1 ∨ (2 ≤ k ∧ k ≤ 4) ∨ k = 5 ∨ k = 6 ∨ k = 7 ∨ k = 8 ∨ k = 9) with e | e | e | e | e | e | e | e
    · by_cases hin : l < yI (gN S)
      · simp (disch := omega) only [zg_tr, zb_t, zJ_lt, zJ_le, zJ_inj, zJ_ltl, zJ_lel, zJ_eql, zJ_llt, zJ_lle, zJ_leq, zJ_m1, zJ_m1r, zJ_nle_m1, zJ_m1lt, zJ_add, zJ_al, zJ_mull, zJ_c, zJ_mlr, zJ_cl, zJ_sub, zJ_subl, zJ_neg, zJ_divl, zreml, zshl_1, zshr_J, zushr_J, zJ_and1, if_pos, if_neg, Option.bind_some, zI_eq, zI_ne, zI_nk, zI_2, zL_1, zL_eq, zL_ne, zL_nk, zL_22, (a7 l hin).1]
        exact same _ (by unfold yln; simp [e, hin])
      · obtain ⟨b1, b2, b3⟩ := a3 l (by show yI (gN S) ≤ l; omega) hl
        simp (disch := omega) only [zg_tr, zb_t, zJ_lt, zJ_le, zJ_inj, zJ_ltl, zJ_lel, zJ_eql, zJ_llt, zJ_lle, zJ_leq, zJ_m1, zJ_m1r, zJ_nle_m1, zJ_m1lt, zJ_add, zJ_al, zJ_mull, zJ_c, zJ_mlr, zJ_cl, zJ_sub, zJ_subl, zJ_neg, zJ_divl, zreml, zshl_1, zshr_J, zushr_J, zJ_and1, if_pos, if_neg, Option.bind_some, zI_eq, zI_ne, zI_nk, zI_2, zL_1, zL_eq, zL_ne, zL_nk, zL_22, b1]
        exact same _ (by unfold yln; simp [e, hin])
    · by_cases hin : l < yI (gN S)
      · simp (disch := omega) only [zg_tr, zb_t, zJ_lt, zJ_le, zJ_inj, zJ_ltl, zJ_lel, zJ_eql, zJ_llt, zJ_lle, zJ_leq, zJ_m1, zJ_m1r, zJ_nle_m1, zJ_m1lt, zJ_add, zJ_al, zJ_mull, zJ_c, zJ_mlr, zJ_cl, zJ_sub, zJ_subl, zJ_neg, zJ_divl, zreml, zshl_1, zshr_J, zushr_J, zJ_and1, if_pos, if_neg, Option.bind_some, zI_eq, zI_ne, zI_nk, zI_2, zL_1, zL_eq, zL_ne, zL_nk, zL_22, (a7 l hin).2]
        exact same _ (by unfold yln; simp [e, hin])
      · obtain ⟨b1, b2, b3⟩ := a3 l (by show yI (gN S) ≤ l; omega) hl
        simp (disch := omega) only [zg_tr, zb_t, zJ_lt, zJ_le, zJ_inj, zJ_ltl, zJ_lel, zJ_eql, zJ_llt, zJ_lle, zJ_leq, zJ_m1, zJ_m1r, zJ_nle_m1, zJ_m1lt, zJ_add, zJ_al, zJ_mull, zJ_c, zJ_mlr, zJ_cl, zJ_sub, zJ_subl, zJ_neg, zJ_divl, zreml, zshl_1, zshr_J, zushr_J, zJ_and1, if_pos, if_neg, Option.bind_some, zI_eq, zI_ne, zI_nk, zI_2, zL_1, zL_eq, zL_ne, zL_nk, zL_22, b2]
        exact same _ (by unfold yln; simp [e, hin])
    · have goal : zw (f_Mod_line_j106 g (zJ l) (zJ k)) fun y => yRA (.inl (yln S l k)) y ∧ zfm yLr h y.2 ∧ yIr y.2 S := by
        unfold f_Mod_line_j106
        by_cases hin : l < yI (gN S)
        · simp (disch := omega) only [zg_tr, zb_t, zJ_lt, zJ_le, zJ_inj, zJ_ltl, zJ_lel, zJ_eql, zJ_llt, zJ_lle, zJ_leq, zJ_m1, zJ_m1r, zJ_nle_m1, zJ_m1lt, zJ_add, zJ_al, zJ_mull, zJ_c, zJ_mlr, zJ_cl, zJ_sub, zJ_subl, zJ_neg, zJ_divl, zreml, zshl_1, zshr_J, zushr_J, zJ_and1, if_pos, if_neg, Option.bind_some, zI_eq, zI_ne, zI_nk, zI_2, zL_1, zL_eq, zL_ne, zL_nk, zL_22, (a7 l hin).2]
          exact same _ (by unfold yln; simp [show k ≠ 0 by omega, show k ≠ 1 by omega, e.2, hin])
        · obtain ⟨b1, b2, b3⟩ := a3 l (by show yI (gN S) ≤ l; omega) hl
          obtain ⟨k1, k2, k3, k4, k5⟩ := e4 l (by show yI (gN S) ≤ l; omega) hl
          simp (disch := omega) only [zg_tr, zb_t, zJ_lt, zJ_le, zJ_inj, zJ_ltl, zJ_lel, zJ_eql, zJ_llt, zJ_lle, zJ_leq, zJ_m1, zJ_m1r, zJ_nle_m1, zJ_m1lt, zJ_add, zJ_al, zJ_mull, zJ_c, zJ_mlr, zJ_cl, zJ_sub, zJ_subl, zJ_neg, zJ_divl, zreml, zshl_1, zshr_J, zushr_J, zJ_and1, if_pos, if_neg, Option.bind_some, zI_eq, zI_ne, zI_nk, zI_2, zL_1, zL_eq, zL_ne, zL_nk, zL_22, b2]
          by_cases hm : k - 2 < (yE (gN S)).2.2.2.1 l
          · rw [if_neg (by omega)]
            have b3k := b3 (k - 2) hm
            rw [show 3 * l + (k - 2) = 3 * l + k - 2 by omega] at b3k
            simp (disch := omega) only [zg_tr, zb_t, zJ_lt, zJ_le, zJ_inj, zJ_ltl, zJ_lel, zJ_eql, zJ_llt, zJ_lle, zJ_leq, zJ_m1, zJ_m1r, zJ_nle_m1, zJ_m1lt, zJ_add, zJ_al, zJ_mull, zJ_c, zJ_mlr, zJ_cl, zJ_sub, zJ_subl, zJ_neg, zJ_divl, zreml, zshl_1, zshr_J, zushr_J, zJ_and1, if_pos, if_neg, Option.bind_some, zI_eq, zI_ne, zI_nk, zI_2, zL_1, zL_eq, zL_ne, zL_nk, zL_22, b3k]
            exact same _ (by unfold yln; simp [show k ≠ 0 by omega, show k ≠ 1 by omega, e.2, hin, hm])
          · rw [if_pos (by omega)]
            exact same _ (by unfold yln; simp [show k ≠ 0 by omega, show k ≠ 1 by omega, e.2, hin, hm])
      rcases (by omega : k = 2 ∨ k = 3 ∨ k = 4) with e | e | e
      all_goals
        simp (disch := omega) only [zg_tr, zb_t, zJ_lt, zJ_le, zJ_inj, zJ_ltl, zJ_lel, zJ_eql, zJ_llt, zJ_lle, zJ_leq, zJ_m1, zJ_m1r, zJ_nle_m1, zJ_m1lt, zJ_add, zJ_al, zJ_mull, zJ_c, zJ_mlr, zJ_cl, zJ_sub, zJ_subl, zJ_neg, zJ_divl, zreml, zshl_1, zshr_J, zushr_J, zJ_and1, if_pos, if_neg, Option.bind_some, zI_eq, zI_ne, zI_nk, zI_2, zL_1, zL_eq, zL_ne, zL_nk, zL_22]
        exact goal
    · simp (disch := omega) only [zg_tr, zb_t, zJ_lt, zJ_le, zJ_inj, zJ_ltl, zJ_lel, zJ_eql, zJ_llt, zJ_lle, zJ_leq, zJ_m1, zJ_m1r, zJ_nle_m1, zJ_m1lt, zJ_add, zJ_al, zJ_mull, zJ_c, zJ_mlr, zJ_cl, zJ_sub, zJ_subl, zJ_neg, zJ_divl, zreml, zshl_1, zshr_J, zushr_J, zJ_and1, if_pos, if_neg, Option.bind_some, zI_eq, zI_ne, zI_nk, zI_2, zL_1, zL_eq, zL_ne, zL_nk, zL_22, seen_n hn i1 hl]
      cases hsb : ySb (gN S) l
      · rw [if_pos zbI_f]
        exact same _ (by unfold yln; simp [e, hsb, zbI])
      · rw [if_neg (by decide)]
        exact same _ (by unfold yln; simp [e, hsb, zbI])
    · simp (disch := omega) only [zg_tr, zb_t, zJ_lt, zJ_le, zJ_inj, zJ_ltl, zJ_lel, zJ_eql, zJ_llt, zJ_lle, zJ_leq, zJ_m1, zJ_m1r, zJ_nle_m1, zJ_m1lt, zJ_add, zJ_al, zJ_mull, zJ_c, zJ_mlr, zJ_cl, zJ_sub, zJ_subl, zJ_neg, zJ_divl, zreml, zshl_1, zshr_J, zushr_J, zJ_and1, if_pos, if_neg, Option.bind_some, zI_eq, zI_ne, zI_nk, zI_2, zL_1, zL_eq, zL_ne, zL_nk, zL_22]
      refine zw_bi (inMachine_r hn i1 s1 s3 o1 o2 hl) ?_
      rintro ⟨x, g2⟩ ⟨rfl, p1⟩
      dsimp only at p1 ⊢
      refine zw_some ⟨⟨(p1.i (by rfl)).trans z1, fun w hw => ?_⟩, q1.tr p1 rfl, hi1.fr p1 rfl⟩
      cases hw
      unfold yln
      simp [e]
    · by_cases hin : l < yI (gN S)
      · rw [decide_eq_true hin] at hb
        subst hb
        simp (disch := omega) only [zg_tr, zb_t, zJ_lt, zJ_le, zJ_inj, zJ_ltl, zJ_lel, zJ_eql, zJ_llt, zJ_lle, zJ_leq, zJ_m1, zJ_m1r, zJ_nle_m1, zJ_m1lt, zJ_add, zJ_al, zJ_mull, zJ_c, zJ_mlr, zJ_cl, zJ_sub, zJ_subl, zJ_neg, zJ_divl, zreml, zshl_1, zshr_J, zushr_J, zJ_and1, if_pos, if_neg, Option.bind_some, zI_eq, zI_ne, zI_nk, zI_2, zL_1, zL_eq, zL_ne, zL_nk, zL_22, (a10 l hin).1]
        rw [if_neg (by decide)]
        exact same _ (by unfold yln; simp [e, hin])
      · rw [decide_eq_false hin] at hb
        subst hb
        simp (disch := omega) only [zg_tr, zb_t, zJ_lt, zJ_le, zJ_inj, zJ_ltl, zJ_lel, zJ_eql, zJ_llt, zJ_lle, zJ_leq, zJ_m1, zJ_m1r, zJ_nle_m1, zJ_m1lt, zJ_add, zJ_al, zJ_mull, zJ_c, zJ_mlr, zJ_cl, zJ_sub, zJ_subl, zJ_neg, zJ_divl, zreml, zshl_1, zshr_J, zushr_J, zJ_and1, if_pos, if_neg, Option.bind_some, zI_eq, zI_ne, zI_nk, zI_2, zL_1, zL_eq, zL_ne, zL_nk, zL_22]
        rw [if_pos (by decide)]
        exact same _ (by unfold yln; simp [e, hin])
    · by_cases hin : l < yI (gN S)
      · rw [decide_eq_true hin] at hb
        subst hb
        simp (disch := omega) only [zg_tr, zb_t, zJ_lt, zJ_le, zJ_inj, zJ_ltl, zJ_lel, zJ_eql, zJ_llt, zJ_lle, zJ_leq, zJ_m1, zJ_m1r, zJ_nle_m1, zJ_m1lt, zJ_add, zJ_al, zJ_mull, zJ_c, zJ_mlr, zJ_cl, zJ_sub, zJ_subl, zJ_neg, zJ_divl, zreml, zshl_1, zshr_J, zushr_J, zJ_and1, if_pos, if_neg, Option.bind_some, zI_eq, zI_ne, zI_nk, zI_2, zL_1, zL_eq, zL_ne, zL_nk, zL_22, (a10 l hin).2]
        rw [if_neg (by decide)]
        exact same _ (by unfold yln; simp [e, hin])
      · rw [decide_eq_false hin] at hb
        subst hb
        simp (disch := omega) only [zg_tr, zb_t, zJ_lt, zJ_le, zJ_inj, zJ_ltl, zJ_lel, zJ_eql, zJ_llt, zJ_lle, zJ_leq, zJ_m1, zJ_m1r, zJ_nle_m1, zJ_m1lt, zJ_add, zJ_al, zJ_mull, zJ_c, zJ_mlr, zJ_cl, zJ_sub, zJ_subl, zJ_neg, zJ_divl, zreml, zshl_1, zshr_J, zushr_J, zJ_and1, if_pos, if_neg, Option.bind_some, zI_eq, zI_ne, zI_nk, zI_2, zL_1, zL_eq, zL_ne, zL_nk, zL_22]
        rw [if_pos (by decide)]
        exact same _ (by unfold yln; simp [e, hin])
    · simp (disch := omega) only [zg_tr, zb_t, zJ_lt, zJ_le, zJ_inj, zJ_ltl, zJ_lel, zJ_eql, zJ_llt, zJ_lle, zJ_leq, zJ_m1, zJ_m1r, zJ_nle_m1, zJ_m1lt, zJ_add, zJ_al, zJ_mull, zJ_c, zJ_mlr, zJ_cl, zJ_sub, zJ_subl, zJ_neg, zJ_divl, zreml, zshl_1, zshr_J, zushr_J, zJ_and1, if_pos, if_neg, Option.bind_some, zI_eq, zI_ne, zI_nk, zI_2, zL_1, zL_eq, zL_ne, zL_nk, zL_22, (a8 l hl).1]
      exact same _ (by unfold yln; simp [e])
  rw [lines_in hn i1 (by omega), Option.bind_some, decide_eq_true hl, if_pos (by decide), a1']
  simp (disch := omega) only [zg_tr, zb_t, zJ_lt, zJ_le, zJ_inj, zJ_ltl, zJ_lel, zJ_eql, zJ_llt, zJ_lle, zJ_leq, zJ_m1, zJ_m1r, zJ_nle_m1, zJ_m1lt, zJ_add, zJ_al, zJ_mull, zJ_c, zJ_mlr, zJ_cl, zJ_sub, zJ_subl, zJ_neg, zJ_divl, zreml, zshl_1, zshr_J, zushr_J, zJ_and1, if_pos, if_neg, Option.bind_some, zI_eq, zI_ne, zI_nk, zI_2, zL_1, zL_eq, zL_ne, zL_nk, zL_22]
  by_cases hin : l < yI (gN S)
  · rw [if_neg (by omega)]
    exact main true (decide_eq_true hin).symm
  · rw [if_pos (by omega)]
    exact main false (decide_eq_false hin).symm
theorem q_line {h : zH} {v w : Int32} (hi : yInv h) : zw (f_L_line h v w) fun x => zw (f_Mod_line x.2 v w) fun y => yEnd x y := by
  obtain ⟨S, ho, hc, hr⟩ := hi
  have bad : (∀ g, yIc g S → f_Main_line g v w = some (.inr (1, g))) → (∀ g, yIr (zsI g 333 2 0) S → f_Mod_line g v w = f_Mod_fail (zsI g 333 2 0) 1) → zw (f_L_line h v w) fun x => zw (f_Mod_line x.2 v w) fun y => yEnd x y := by
    intro h1 h2
    unfold f_L_line
    refine yBad (f := fun g => f_Mod_line g v w) (c := 1) (m := 1) ho hc hr ⟨_, h1 h hc, h, rfl, zfm.rfl', hc⟩ ?_ (fun g hg => ?_) (Or.inl rfl)
    · intro g
      rfl
    · show zw (f_Mod_line g v w) _
      rw [h2 g (code_r hg).1]
      exact yFail hg (c := 1)
  rcases yneg v with hv | ⟨l, hl, rfl⟩
  · refine bad (fun g hg => ?_) (fun g hg => ?_)
    · unfold f_Main_line
      rw [needLine_neg hg hv]
      rfl
    · unfold f_Mod_line
      rw [Option.bind_some, lines_neg ho.1 hg.1 hv]
      rfl
  · by_cases hlL : l < yLs (gN S)
    · rcases yneg w with hw | ⟨k, hk, rfl⟩
      · refine bad (fun g hg => ?_) (fun g hg => ?_)
        · unfold f_Main_line
          rw [needLine_in ho hg hl, if_pos hlL, Option.bind_some]
          dsimp only [Sum.elim]
          rw [if_pos hw]
          rfl
        · unfold f_Mod_line
          rw [Option.bind_some, lines_in ho.1 hg.1 hl, Option.bind_some, decide_eq_true hlL, if_pos (by decide)]
          unfold f_Mod_line_j34
          simp (disch := omega) only [ynegl hw, if_false]
          unfold f_Mod_fail
          split <;> rfl
      · by_cases hk9 : k ≤ 9
        · unfold f_L_line
          exact yGood (f := fun g => f_Mod_line g (zJ l) (zJ k)) ho hr (line_c ho hc hlL hk9) (fun g hg => line_r ho hg hlL hk9)
        · refine bad (fun g hg => ?_) (fun g hg => ?_)
          · unfold f_Main_line
            rw [needLine_in ho hg hl, if_pos hlL, Option.bind_some]
            dsimp only [Sum.elim]
            simp (disch := omega) only [zg_tr, zb_t, zJ_lt, zJ_le, zJ_inj, zJ_ltl, zJ_lel, zJ_eql, zJ_llt, zJ_lle, zJ_leq, zJ_m1, zJ_m1r, zJ_nle_m1, zJ_m1lt, zJ_add, zJ_al, zJ_mull, zJ_c, zJ_mlr, zJ_cl, zJ_sub, zJ_subl, zJ_neg, zJ_divl, zreml, zshl_1, zshr_J, zushr_J, zJ_and1, if_pos, if_neg, Option.bind_some, zI_eq, zI_ne, zI_nk, zI_2, zL_1, zL_eq, zL_ne, zL_nk, zL_22]
            rfl
          · unfold f_Mod_line
            rw [Option.bind_some, lines_in ho.1 hg.1 hl, Option.bind_some, decide_eq_true hlL, if_pos (by decide)]
            unfold f_Mod_line_j34 f_Mod_fail
            simp (disch := omega) only [zg_tr, zb_t, zJ_lt, zJ_le, zJ_inj, zJ_ltl, zJ_lel, zJ_eql, zJ_llt, zJ_lle, zJ_leq, zJ_m1, zJ_m1r, zJ_nle_m1, zJ_m1lt, zJ_add, zJ_al, zJ_mull, zJ_c, zJ_mlr, zJ_cl, zJ_sub, zJ_subl, zJ_neg, zJ_divl, zreml, zshl_1, zshr_J, zushr_J, zJ_and1, if_pos, if_neg, Option.bind_some, zI_eq, zI_ne, zI_nk, zI_2, zL_1, zL_eq, zL_ne, zL_nk, zL_22]
            split <;> rfl
    · refine bad (fun g hg => ?_) (fun g hg => ?_)
      · unfold f_Main_line
        rw [needLine_in ho hg hl, if_neg hlL]
        rfl
      · unfold f_Mod_line
        rw [Option.bind_some, lines_in ho.1 hg.1 hl, Option.bind_some, decide_eq_false hlL, if_neg (by decide)]
        unfold f_Mod_fail
        rfl
