/-! ===== program ===== -/
def ycc (N : yN) (r c : Nat) : Nat → Nat
  | 0 => 0
  | k + 1 => ycc N r c k + (if k = 0 then 0 else if r.testBit (yCl N c (k - 1)) = r.testBit (yCl N c k) then 0 else k)
def ycs (N : yN) (r : Nat) : Nat → Nat
  | 0 => 0
  | c + 1 => ycs N r c + ycc N r c (yCn N c)
theorem ycc_le {N : yN} {r c : Nat} : ∀ k, ycc N r c k ≤ k * k
  | 0 => Nat.le_refl 0
  | k + 1 => by
    have := ycc_le (N := N) (r := r) (c := c) k
    have h2 : (k + 1) * (k + 1) = k * k + 2 * k + 1 := by
      rw [Nat.add_mul, Nat.mul_add]
      omega
    unfold ycc
    split
    · omega
    · split <;> omega
theorem bitJ {r i : Nat} (hi : i < 32) : zushr (zJ r) (zJ i) &&& 1 = zbI (r.testBit i) := by
  rw [ybit hi, zJ_bit hi]
theorem sbitJ {r i : Nat} (hr : r < 2147483648) (hi : i < 32) : zshr (zJ r) (zJ i) &&& 1 = zbI (r.testBit i) := by
  rw [← bitJ hi, zshr_J hr hi, zushr_J hr hi]
theorem zbI_inj {a b : Bool} : zbI a = zbI b ↔ a = b := by
  cases a <;> cases b <;> decide
theorem costOf_c {h : zH} {N : yN} {o r : Nat} (hn : yOKn N) (hw : yCN h o N) : zw (f_Program_costOfPattern o h (zJ r)) fun x => x = zJ (ycs N r (yNc N)) := by
  obtain ⟨⟨e1, -⟩, -, n3, n4, -⟩ := id hn
  have e1' : yI N ≤ 6 := e1
  have w3 := hw.2.2.1
  unfold f_Program_costOfPattern
  refine zw_bi (P := fun x => x = zJ (ycs N r (yNc N))) (zw_for (yNc N) (fun c s => s = (zJ (ycs N r c), zJ c)) (by omega) rfl ?_) (fun x hx => zw_some hx)
  rintro c s hcle rfl
  dsimp only
  unfold f_Program_costOfPattern_b5
  rw [w3]
  by_cases hc : c < yNc N
  · obtain ⟨c1, c2, c3, -⟩ := n4 c hc
    obtain ⟨a7, a8⟩ := hw.2.2.2.2.2.2.1 c hc
    simp (disch := omega) only [zg_tr, zb_t, zJ_lt, zJ_le, zJ_inj, zJ_ltl, zJ_lel, zJ_eql, zJ_llt, zJ_lle, zJ_leq, zJ_m1, zJ_m1r, zJ_nle_m1, zJ_m1lt, zJ_add, zJ_al, zJ_mull, zJ_c, zJ_mlr, zJ_cl, zJ_sub, zJ_subl, zJ_neg, zJ_divl, zreml, zshl_1, zshr_J, zushr_J, zJ_and1, if_pos, if_neg, Option.bind_some, zI_eq, zI_ne, zI_nk, zI_2, zL_1, zL_eq, zL_ne, zL_nk, zL_22]
    refine zw_bi (P := fun x => x = zJ (ycs N r c + ycc N r c (yCn N c))) (zw_fr 1 (yCn N c) (fun k s => 1 ≤ k ∧ s = (zJ (ycs N r c + ycc N r c k), zJ k)) c1 (by omega) ⟨Nat.le_refl 1, rfl⟩ ?_) ?_
    · rintro k s hk ⟨hk1, rfl⟩
      dsimp only
      unfold f_Program_costOfPattern_b17 f_Main_bitOf
      by_cases hkm : k < yCn N c
      · have b1 := (c3 (k - 1) (by omega)).1
        have b2 := (c3 k hkm).1
        simp (disch := omega) only [zg_tr, zb_t, zJ_lt, zJ_le, zJ_inj, zJ_ltl, zJ_lel, zJ_eql, zJ_llt, zJ_lle, zJ_leq, zJ_m1, zJ_m1r, zJ_nle_m1, zJ_m1lt, zJ_add, zJ_al, zJ_mull, zJ_c, zJ_mlr, zJ_cl, zJ_sub, zJ_subl, zJ_neg, zJ_divl, zreml, zshl_1, zshr_J, zushr_J, zJ_and1, if_pos, if_neg, Option.bind_some, zI_eq, zI_ne, zI_nk, zI_2, zL_1, zL_eq, zL_ne, zL_nk, zL_22, a7, a8 (k - 1) (by omega), a8 k hkm, f_Program_costOfPattern_j77]
        rw [bitJ (by omega), bitJ (by omega), ycc]
        rw [if_neg (show k ≠ 0 by omega)]
        by_cases he : r.testBit (yCl N c (k - 1)) = r.testBit (yCl N c k)
        · rw [if_pos (zbI_inj.mpr he), if_pos he]
          exact zw_some ⟨hkm, by omega, rfl⟩
        · rw [if_neg (fun h => he (zbI_inj.mp h)), if_neg he]
          exact zw_some ⟨hkm, by omega, by rw [Nat.add_assoc]⟩
      · have : k = yCn N c := by omega
        subst this
        simp (disch := omega) only [zg_tr, zb_t, zJ_lt, zJ_le, zJ_inj, zJ_ltl, zJ_lel, zJ_eql, zJ_llt, zJ_lle, zJ_leq, zJ_m1, zJ_m1r, zJ_nle_m1, zJ_m1lt, zJ_add, zJ_al, zJ_mull, zJ_c, zJ_mlr, zJ_cl, zJ_sub, zJ_subl, zJ_neg, zJ_divl, zreml, zshl_1, zshr_J, zushr_J, zJ_and1, if_pos, if_neg, Option.bind_some, zI_eq, zI_ne, zI_nk, zI_2, zL_1, zL_eq, zL_ne, zL_nk, zL_22, a7]
        exact zw_some rfl
    · rintro x rfl
      exact zw_some ⟨hc, rfl⟩
  · have : c = yNc N := by omega
    subst this
    simp (disch := omega) only [zg_tr, zb_t, zJ_lt, zJ_le, zJ_inj, zJ_ltl, zJ_lel, zJ_eql, zJ_llt, zJ_lle, zJ_leq, zJ_m1, zJ_m1r, zJ_nle_m1, zJ_m1lt, zJ_add, zJ_al, zJ_mull, zJ_c, zJ_mlr, zJ_cl, zJ_sub, zJ_subl, zJ_neg, zJ_divl, zreml, zshl_1, zshr_J, zushr_J, zJ_and1, if_pos, if_neg, Option.bind_some, zI_eq, zI_ne, zI_nk, zI_2, zL_1, zL_eq, zL_ne, zL_nk, zL_22]
    exact zw_some rfl
theorem costOf_r {h : zH} {N : yN} {r : Nat} (hn : yOKn N) (hr : yRN h N) (hrl : r < 2147483648) : zw (f_Mod_costOf h (zJ r)) fun x => x = zJ (ycs N r (yNc N)) := by
  obtain ⟨⟨e1, -⟩, -, n3, n4, -⟩ := id hn
  have e1' : yI N ≤ 6 := e1
  have w3 := hr.2.2.1
  unfold f_Mod_costOf
  refine zw_bi (P := fun x => x = zJ (ycs N r (yNc N))) (zw_for (yNc N) (fun c s => s = (zJ (ycs N r c), zJ c)) (by omega) rfl ?_) (fun x hx => zw_some hx)
  rintro c s hcle rfl
  dsimp only
  unfold f_Mod_costOf_b4
  rw [w3]
  by_cases hc : c < yNc N
  · obtain ⟨c1, c2, c3, -⟩ := n4 c hc
    have a7 := (hr.2.2.2.2.2.2.1 c hc).1
    simp (disch := omega) only [zg_tr, zb_t, zJ_lt, zJ_le, zJ_inj, zJ_ltl, zJ_lel, zJ_eql, zJ_llt, zJ_lle, zJ_leq, zJ_m1, zJ_m1r, zJ_nle_m1, zJ_m1lt, zJ_add, zJ_al, zJ_mull, zJ_c, zJ_mlr, zJ_cl, zJ_sub, zJ_subl, zJ_neg, zJ_divl, zreml, zshl_1, zshr_J, zushr_J, zJ_and1, if_pos, if_neg, Option.bind_some, zI_eq, zI_ne, zI_nk, zI_2, zL_1, zL_eq, zL_ne, zL_nk, zL_22]
    refine zw_bi (P := fun x => x = zJ (ycs N r c + ycc N r c (yCn N c))) (zw_fr 1 (yCn N c) (fun k s => 1 ≤ k ∧ s = (zJ (ycs N r c + ycc N r c k), zJ k)) c1 (by omega) ⟨Nat.le_refl 1, rfl⟩ ?_) ?_
    · rintro k s hk ⟨hk1, rfl⟩
      dsimp only
      unfold f_Mod_costOf_b17
      by_cases hkm : k < yCn N c
      · have b1 := (c3 (k - 1) (by omega)).1
        have b2 := (c3 k hkm).1
        have k1 := cellAt_r hn hr hc (show k - 1 < yCn N c by omega)
        have k2 := cellAt_r hn hr hc hkm
        rw [zJ_c (by omega), a7, zb_t (by omega) (by omega), zg_tr, if_neg (by rw [zJ_le (by omega) (by omega)]; omega), zJ_subl (n := 1) hk1]
        have k1' : f_Mod_cellAt h (zJ c) (zJ (k - OfNat.ofNat 1)) = some (zJ (yCl N c (k - 1))) := k1
        rw [k1', k2, Option.bind_some, Option.bind_some, sbitJ hrl (by omega), sbitJ hrl (by omega), ycc]
        rw [if_neg (show k ≠ 0 by omega)]
        unfold f_Mod_costOf_j62
        by_cases he : r.testBit (yCl N c (k - 1)) = r.testBit (yCl N c k)
        · rw [if_pos (zbI_inj.mpr he), if_pos he]
          simp (disch := omega) only [zg_tr, zb_t, zJ_lt, zJ_le, zJ_inj, zJ_ltl, zJ_lel, zJ_eql, zJ_llt, zJ_lle, zJ_leq, zJ_m1, zJ_m1r, zJ_nle_m1, zJ_m1lt, zJ_add, zJ_al, zJ_mull, zJ_c, zJ_mlr, zJ_cl, zJ_sub, zJ_subl, zJ_neg, zJ_divl, zreml, zshl_1, zshr_J, zushr_J, zJ_and1, if_pos, if_neg, Option.bind_some, zI_eq, zI_ne, zI_nk, zI_2, zL_1, zL_eq, zL_ne, zL_nk, zL_22]
          exact zw_some ⟨hkm, by omega, rfl⟩
        · rw [if_neg (fun h => he (zbI_inj.mp h)), if_neg he]
          simp (disch := omega) only [zg_tr, zb_t, zJ_lt, zJ_le, zJ_inj, zJ_ltl, zJ_lel, zJ_eql, zJ_llt, zJ_lle, zJ_leq, zJ_m1, zJ_m1r, zJ_nle_m1, zJ_m1lt, zJ_add, zJ_al, zJ_mull, zJ_c, zJ_mlr, zJ_cl, zJ_sub, zJ_subl, zJ_neg, zJ_divl, zreml, zshl_1, zshr_J, zushr_J, zJ_and1, if_pos, if_neg, Option.bind_some, zI_eq, zI_ne, zI_nk, zI_2, zL_1, zL_eq, zL_ne, zL_nk, zL_22]
          exact zw_some ⟨hkm, by omega, by rw [Nat.add_assoc]⟩
      · have : k = yCn N c := by omega
        subst this
        simp (disch := omega) only [zg_tr, zb_t, zJ_lt, zJ_le, zJ_inj, zJ_ltl, zJ_lel, zJ_eql, zJ_llt, zJ_lle, zJ_leq, zJ_m1, zJ_m1r, zJ_nle_m1, zJ_m1lt, zJ_add, zJ_al, zJ_mull, zJ_c, zJ_mlr, zJ_cl, zJ_sub, zJ_subl, zJ_neg, zJ_divl, zreml, zshl_1, zshr_J, zushr_J, zJ_and1, if_pos, if_neg, Option.bind_some, zI_eq, zI_ne, zI_nk, zI_2, zL_1, zL_eq, zL_ne, zL_nk, zL_22, a7]
        exact zw_some rfl
    · rintro x rfl
      exact zw_some ⟨hc, rfl⟩
  · have : c = yNc N := by omega
    subst this
    simp (disch := omega) only [zg_tr, zb_t, zJ_lt, zJ_le, zJ_inj, zJ_ltl, zJ_lel, zJ_eql, zJ_llt, zJ_lle, zJ_leq, zJ_m1, zJ_m1r, zJ_nle_m1, zJ_m1lt, zJ_add, zJ_al, zJ_mull, zJ_c, zJ_mlr, zJ_cl, zJ_sub, zJ_subl, zJ_neg, zJ_divl, zreml, zshl_1, zshr_J, zushr_J, zJ_and1, if_pos, if_neg, Option.bind_some, zI_eq, zI_ne, zI_nk, zI_2, zL_1, zL_eq, zL_ne, zL_nk, zL_22]
    exact zw_some rfl
def ypg (S : yG) (t k : Nat) : Int32 :=
  if k = 0 then zJ (ypt (gN S) (gT S).1.2.2.2.2.2.2 (gT S).1.2.2.2.1 t) else if k = 1 then zJ (ypc (gN S) (gT S).1.2.2.2.2.2.2 (gT S).1.2.2.2.1 t) else
  if k = 2 then zJ (ycs (gN S) (ypt (gN S) (gT S).1.2.2.2.2.2.2 (gT S).1.2.2.2.1 t) (yNc (gN S))) else zJ (ypm (gN S) (gT S).1.2.2.2.2.2.2 (gT S).1.2.2.2.1 t)
abbrev gpz (S : yG) : Nat := ypz (gN S) (gT S).1.2.2.2.2.2.2 (gT S).1.2.2.2.1
theorem gpz_le {S : yG} (ho : yOK S) : gpz S ≤ 44 := by
  obtain ⟨⟨e1, e2, e3, e4⟩, -⟩ := id ho.1
  have e1' : yI (gN S) ≤ 6 := e1
  have e3' : yLs (gN S) ≤ yI (gN S) + 16 := e3
  have hle : gpz S ≤ 45 := fb_ct_le _ _
  by_cases h : gpz S = 45
  · have hall := fb_ct_all.mp (show fb_ct (fun t => zex (yO (gN S) (gT S).1.2.2.2.2.2.2 (gT S).1.2.2.2.1 t) (2 * yLs (gN S))) 45 = 45 from h)
    have := yO_bound ho.1 45 hall
    omega
  · omega
theorem ypt_lt {N : yN} {dn : Nat → Bool} {fl t : Nat} (hn : yOKn N) : ypt N dn fl t < 64 := by
  have h1 : ypt N dn fl t < 2 ^ yI N := ypr_lt
  have := zpw6 (i := yI N) hn.1.1
  omega
theorem program_c {h : zH} {S : yG} {v w : Int32} (ho : yOK S) (hi : yIc h S) : (∀ t k, t < gpz S → k ≤ 3 → v = zJ t → w = zJ k → zw (f_Main_program h v w) fun x => ∃ g, x = .inl (ypg S t k, g) ∧ zfm yLc h g ∧ yIc g S) ∧ ((v < 0 ∨ (∃ t, t < 2147483648 ∧ v = zJ t ∧ ¬ t < gpz S) ∨ w < 0 ∨ ∃ k, k < 2147483648 ∧ w = zJ k ∧ ¬ k ≤ 3) → zw (f_Main_program h v w) fun x => ∃ g, x = .inr (1, g) ∧ zfm yLc h g ∧ yIc g S) := by
  have hz := gpz_le ho
  constructor
  · rintro t k ht hk rfl rfl
    unfold f_Main_program
    refine zw_bi (planNow_c ho hi) ?_
    rintro g ⟨q1, q2, q3⟩
    obtain ⟨p1, p2, p3, p4', p5⟩ := q3
    have p4 : g.1 137 3 = zJ (gpz S) := p4'
    clear p4'
    obtain ⟨p6, p7, p8⟩ := p5 t ht
    obtain ⟨⟨W, D, w1, w2, w3, w4⟩, -⟩ := id q2
    have same : ∀ v : Int32, v = ypg S t k → zw (some (.inl (v, g) : (Int32 × zH) ⊕ (Nat × zH))) fun x => ∃ g, x = .inl (ypg S t k, g) ∧ zfm yLc h g ∧ yIc g S := fun v hv => zw_some ⟨g, by rw [hv], q1.sub rfl, q2⟩
    rw [w2]
    simp only [zgr_eq]
    rcases (by omega : k = 0 ∨ k = 1 ∨ k = 2 ∨ k = 3) with e | e | e | e
    · simp (disch := omega) only [zg_tr, zb_t, zJ_lt, zJ_le, zJ_inj, zJ_ltl, zJ_lel, zJ_eql, zJ_llt, zJ_lle, zJ_leq, zJ_m1, zJ_m1r, zJ_nle_m1, zJ_m1lt, zJ_add, zJ_al, zJ_mull, zJ_c, zJ_mlr, zJ_cl, zJ_sub, zJ_subl, zJ_neg, zJ_divl, zreml, zshl_1, zshr_J, zushr_J, zJ_and1, if_pos, if_neg, Option.bind_some, zI_eq, zI_ne, zI_nk, zI_2, zL_1, zL_eq, zL_ne, zL_nk, zL_22, p4, p6]
      exact same _ (by unfold ypg; simp [e])
    · simp (disch := omega) only [zg_tr, zb_t, zJ_lt, zJ_le, zJ_inj, zJ_ltl, zJ_lel, zJ_eql, zJ_llt, zJ_lle, zJ_leq, zJ_m1, zJ_m1r, zJ_nle_m1, zJ_m1lt, zJ_add, zJ_al, zJ_mull, zJ_c, zJ_mlr, zJ_cl, zJ_sub, zJ_subl, zJ_neg, zJ_divl, zreml, zshl_1, zshr_J, zushr_J, zJ_and1, if_pos, if_neg, Option.bind_some, zI_eq, zI_ne, zI_nk, zI_2, zL_1, zL_eq, zL_ne, zL_nk, zL_22, p4, p7]
      exact same _ (by unfold ypg; simp [e])
    · simp (disch := omega) only [zg_tr, zb_t, zJ_lt, zJ_le, zJ_inj, zJ_ltl, zJ_lel, zJ_eql, zJ_llt, zJ_lle, zJ_leq, zJ_m1, zJ_m1r, zJ_nle_m1, zJ_m1lt, zJ_add, zJ_al, zJ_mull, zJ_c, zJ_mlr, zJ_cl, zJ_sub, zJ_subl, zJ_neg, zJ_divl, zreml, zshl_1, zshr_J, zushr_J, zJ_and1, if_pos, if_neg, Option.bind_some, zI_eq, zI_ne, zI_nk, zI_2, zL_1, zL_eq, zL_ne, zL_nk, zL_22, p4, p6]
      refine zw_bi (costOf_c ho.1 w4) ?_
      rintro x rfl
      exact same _ (by unfold ypg; simp [e])
    · simp (disch := omega) only [zg_tr, zb_t, zJ_lt, zJ_le, zJ_inj, zJ_ltl, zJ_lel, zJ_eql, zJ_llt, zJ_lle, zJ_leq, zJ_m1, zJ_m1r, zJ_nle_m1, zJ_m1lt, zJ_add, zJ_al, zJ_mull, zJ_c, zJ_mlr, zJ_cl, zJ_sub, zJ_subl, zJ_neg, zJ_divl, zreml, zshl_1, zshr_J, zushr_J, zJ_and1, if_pos, if_neg, Option.bind_some, zI_eq, zI_ne, zI_nk, zI_2, zL_1, zL_eq, zL_ne, zL_nk, zL_22, p4, p8]
      exact same _ (by unfold ypg; simp [e])
  · intro hb
    unfold f_Main_program f_Main_program_j28
    refine zw_bi (planNow_c ho hi) ?_
    rintro g ⟨q1, q2, q3⟩
    obtain ⟨p1, p2, p3, p4', p5⟩ := q3
    have p4 : g.1 137 3 = zJ (gpz S) := p4'
    clear p4'
    have fin : zw (some (.inr (1, g) : (Int32 × zH) ⊕ (Nat × zH))) fun x => ∃ g, x = .inr (1, g) ∧ zfm yLc h g ∧ yIc g S := zw_some ⟨g, rfl, q1.sub rfl, q2⟩
    rw [p4]
    rcases hb with hv | ⟨t, ht, rfl, ht2⟩ | hw | ⟨k, hk, rfl, hk2⟩
    · rw [if_pos hv]
      exact fin
    · simp (disch := omega) only [zg_tr, zb_t, zJ_lt, zJ_le, zJ_inj, zJ_ltl, zJ_lel, zJ_eql, zJ_llt, zJ_lle, zJ_leq, zJ_m1, zJ_m1r, zJ_nle_m1, zJ_m1lt, zJ_add, zJ_al, zJ_mull, zJ_c, zJ_mlr, zJ_cl, zJ_sub, zJ_subl, zJ_neg, zJ_divl, zreml, zshl_1, zshr_J, zushr_J, zJ_and1, if_pos, if_neg, Option.bind_some, zI_eq, zI_ne, zI_nk, zI_2, zL_1, zL_eq, zL_ne, zL_nk, zL_22]
      exact fin
    · split
      · exact fin
      · split
        · exact fin
        · first
          | exact fin
          | (rw [if_pos hw]; exact fin)
          | (split <;> exact fin)
    · split
      · exact fin
      · split
        · exact fin
        · simp (disch := omega) only [zg_tr, zb_t, zJ_lt, zJ_le, zJ_inj, zJ_ltl, zJ_lel, zJ_eql, zJ_llt, zJ_lle, zJ_leq, zJ_m1, zJ_m1r, zJ_nle_m1, zJ_m1lt, zJ_add, zJ_al, zJ_mull, zJ_c, zJ_mlr, zJ_cl, zJ_sub, zJ_subl, zJ_neg, zJ_divl, zreml, zshl_1, zshr_J, zushr_J, zJ_and1, if_pos, if_neg, Option.bind_some, zI_eq, zI_ne, zI_nk, zI_2, zL_1, zL_eq, zL_ne, zL_nk, zL_22]
          exact fin
theorem isIn_lit {b k : Nat} (hb : b < 2147483648) (hk : k < 2147483648) : f_Mod_isIn (zJ k) 0 (zJ b) = some (zbI (decide (k ≤ b))) := by
  unfold f_Mod_isIn
  simp (disch := omega) only [zg_tr, zb_t, zJ_lt, zJ_le, zJ_inj, zJ_ltl, zJ_lel, zJ_eql, zJ_llt, zJ_lle, zJ_leq, zJ_m1, zJ_m1r, zJ_nle_m1, zJ_m1lt, zJ_add, zJ_al, zJ_mull, zJ_c, zJ_mlr, zJ_cl, zJ_sub, zJ_subl, zJ_neg, zJ_divl, zreml, zshl_1, zshr_J, zushr_J, zJ_and1, if_pos, if_neg, Option.bind_some, zI_eq, zI_ne, zI_nk, zI_2, zL_1, zL_eq, zL_ne, zL_nk, zL_22]
  by_cases h : k ≤ b
  · rw [if_neg (by omega), decide_eq_true h]
    rfl
  · rw [if_pos (by omega), decide_eq_false h]
    rfl
theorem program_r {g0 : zH} {S : yG} {v w : Int32} (ho : yOK S) (hi0 : yIr g0 S) : (∀ t k, t < gpz S → k ≤ 3 → v = zJ t → w = zJ k → zw (f_Mod_program g0 v w) fun y => yRA (.inl (ypg S t k)) y ∧ zfm yLr g0 y.2 ∧ yIr y.2 S) ∧ ((v < 0 ∨ (∃ t, t < 2147483648 ∧ v = zJ t ∧ ¬ t < gpz S) ∨ w < 0 ∨ ∃ k, k < 2147483648 ∧ w = zJ k ∧ ¬ k ≤ 3) → zw (f_Mod_program g0 v w) fun y => yRA (.inr 1) y ∧ zfm yLr g0 y.2 ∧ yIr y.2 S) := by
  have hz := gpz_le ho
  obtain ⟨hi, q1, z1⟩ := code_r hi0
  obtain ⟨hn, ht, -⟩ := id ho
  obtain ⟨o1, o2, o3, o4, o5, o6⟩ := ht.1
  unfold f_Mod_program
  rw [Option.bind_some]
  generalize zsI g0 333 2 0 = h at *
  obtain ⟨i1, i2, i3, -⟩ := id hi
  obtain ⟨⟨s1, s2, s3, s4, s5, s6, s7⟩, -⟩ := id i3
  simp only [Nat.zero_add] at s4 s7
  constructor
  · rintro t k ht hk rfl rfl
    refine zw_bi (tellProgram_r hn i1 i2 s7 s4 o3) ?_
    rintro g ⟨p1, p2', p3⟩
    have p2 : g.1 333 40 = zJ (gpz S) := p2'
    clear p2'
    obtain ⟨a1, a2, a3⟩ := p3 t ht
    have hig := hi.fr p1 rfl
    have zz : g.1 333 2 = 0 := (p1.i (by rfl)).trans z1
    have same : ∀ v : Int32, v = ypg S t k → zw (some (v, g)) fun y => yRA (.inl (ypg S t k)) y ∧ zfm yLr g0 y.2 ∧ yIr y.2 S := fun v hv => zw_some ⟨⟨zz, fun w hw => by cases hw; exact hv⟩, q1.tr p1 rfl, hig⟩
    rw [p2, isIn_J (by omega) (by omega), Option.bind_some, decide_eq_true ht, if_neg (by decide), show (3 : Int32) = zJ 3 from rfl, isIn_lit (by omega) (by omega), Option.bind_some, decide_eq_true hk, if_pos (by decide)]
    rcases (by omega : k = 0 ∨ k = 1 ∨ k = 2 ∨ k = 3) with e | e | e | e
    · simp (disch := omega) only [zg_tr, zb_t, zJ_lt, zJ_le, zJ_inj, zJ_ltl, zJ_lel, zJ_eql, zJ_llt, zJ_lle, zJ_leq, zJ_m1, zJ_m1r, zJ_nle_m1, zJ_m1lt, zJ_add, zJ_al, zJ_mull, zJ_c, zJ_mlr, zJ_cl, zJ_sub, zJ_subl, zJ_neg, zJ_divl, zreml, zshl_1, zshr_J, zushr_J, zJ_and1, if_pos, if_neg, Option.bind_some, zI_eq, zI_ne, zI_nk, zI_2, zL_1, zL_eq, zL_ne, zL_nk, zL_22, a1]
      exact same _ (by unfold ypg; simp [e])
    · simp (disch := omega) only [zg_tr, zb_t, zJ_lt, zJ_le, zJ_inj, zJ_ltl, zJ_lel, zJ_eql, zJ_llt, zJ_lle, zJ_leq, zJ_m1, zJ_m1r, zJ_nle_m1, zJ_m1lt, zJ_add, zJ_al, zJ_mull, zJ_c, zJ_mlr, zJ_cl, zJ_sub, zJ_subl, zJ_neg, zJ_divl, zreml, zshl_1, zshr_J, zushr_J, zJ_and1, if_pos, if_neg, Option.bind_some, zI_eq, zI_ne, zI_nk, zI_2, zL_1, zL_eq, zL_ne, zL_nk, zL_22, a2]
      exact same _ (by unfold ypg; simp [e])
    · simp (disch := omega) only [zg_tr, zb_t, zJ_lt, zJ_le, zJ_inj, zJ_ltl, zJ_lel, zJ_eql, zJ_llt, zJ_lle, zJ_leq, zJ_m1, zJ_m1r, zJ_nle_m1, zJ_m1lt, zJ_add, zJ_al, zJ_mull, zJ_c, zJ_mlr, zJ_cl, zJ_sub, zJ_subl, zJ_neg, zJ_divl, zreml, zshl_1, zshr_J, zushr_J, zJ_and1, if_pos, if_neg, Option.bind_some, zI_eq, zI_ne, zI_nk, zI_2, zL_1, zL_eq, zL_ne, zL_nk, zL_22, a1]
      refine zw_bi (costOf_r hn hig.1 (by have := ypt_lt (dn := (gT S).1.2.2.2.2.2.2) (fl := (gT S).1.2.2.2.1) (t := t) hn; omega)) ?_
      rintro x rfl
      exact same _ (by unfold ypg; simp [e])
    · simp (disch := omega) only [zg_tr, zb_t, zJ_lt, zJ_le, zJ_inj, zJ_ltl, zJ_lel, zJ_eql, zJ_llt, zJ_lle, zJ_leq, zJ_m1, zJ_m1r, zJ_nle_m1, zJ_m1lt, zJ_add, zJ_al, zJ_mull, zJ_c, zJ_mlr, zJ_cl, zJ_sub, zJ_subl, zJ_neg, zJ_divl, zreml, zshl_1, zshr_J, zushr_J, zJ_and1, if_pos, if_neg, Option.bind_some, zI_eq, zI_ne, zI_nk, zI_2, zL_1, zL_eq, zL_ne, zL_nk, zL_22, a3]
      exact same _ (by unfold ypg; simp [e])
  · intro hb
    refine zw_bi (tellProgram_r hn i1 i2 s7 s4 o3) ?_
    rintro g ⟨p1, p2', p3⟩
    have p2 : g.1 333 40 = zJ (gpz S) := p2'
    clear p2'
    have hig := hi.fr p1 rfl
    have fin : zw ((f_Mod_fail g 1).bind fun x4 => some (x4.1, x4.2)) fun y => yRA (.inr 1) y ∧ zfm yLr g0 y.2 ∧ yIr y.2 S := by
      refine zw_bi (fail_r (c := 1) hig) ?_
      rintro y ⟨a, b, c⟩
      exact zw_some ⟨a, (q1.tr p1 rfl).trans b, c⟩
    unfold f_Mod_program_j32
    rw [p2]
    rcases hb with hv | ⟨t, ht, rfl, ht2⟩ | hw | ⟨k, hk, rfl, hk2⟩
    · rw [isIn_neg hv, Option.bind_some, if_pos rfl]
      exact fin
    · rw [isIn_J (by omega) ht, Option.bind_some, decide_eq_false ht2, if_pos (by decide)]
      exact fin
    · rcases yneg v with hv | ⟨t, ht, rfl⟩
      · rw [isIn_neg hv, Option.bind_some, if_pos rfl]
        exact fin
      · rw [isIn_J (by omega) ht, Option.bind_some, isIn_neg hw, Option.bind_some]
        split
        · exact fin
        · rw [if_neg (by decide)]
          exact fin
    · rw [show (3 : Int32) = zJ 3 from rfl, isIn_lit (by omega) hk, Option.bind_some, decide_eq_false hk2]
      rcases yneg v with hv | ⟨t, ht, rfl⟩
      · rw [isIn_neg hv, Option.bind_some, if_pos rfl]
        exact fin
      · rw [isIn_J (by omega) ht, Option.bind_some]
        split
        · exact fin
        · rw [if_neg (by decide)]
          exact fin
theorem q_program {h : zH} {v w : Int32} (hi : yInv h) : zw (f_L_program h v w) fun x => zw (f_Mod_program x.2 v w) fun y => yEnd x y := by
  obtain ⟨S, ho, hc, hr⟩ := hi
  have bad : (v < 0 ∨ (∃ t, t < 2147483648 ∧ v = zJ t ∧ ¬ t < gpz S) ∨ w < 0 ∨ ∃ k, k < 2147483648 ∧ w = zJ k ∧ ¬ k ≤ 3) → zw (f_L_program h v w) fun x => zw (f_Mod_program x.2 v w) fun y => yEnd x y := by
    intro hb
    unfold f_L_program
    refine yBad (f := fun g => f_Mod_program g v w) (c := 1) (m := 1) ho hc hr ((program_c ho hc).2 hb) ?_ (fun g hg => (program_r ho hg).2 hb) (Or.inl rfl)
    intro g
    rfl
  rcases yneg v with hv | ⟨t, ht, rfl⟩
  · exact bad (Or.inl hv)
  · by_cases ht2 : t < gpz S
    · rcases yneg w with hw | ⟨k, hk, rfl⟩
      · exact bad (Or.inr (Or.inr (Or.inl hw)))
      · by_cases hk2 : k ≤ 3
        · unfold f_L_program
          exact yGood (f := fun g => f_Mod_program g (zJ t) (zJ k)) ho hr ((program_c ho hc).1 t k ht2 hk2 rfl rfl) (fun g hg => (program_r ho hg).1 t k ht2 hk2 rfl rfl)
        · exact bad (Or.inr (Or.inr (Or.inr ⟨k, hk, rfl, hk2⟩)))
    · exact bad (Or.inr (Or.inl ⟨t, ht, rfl, ht2⟩))
