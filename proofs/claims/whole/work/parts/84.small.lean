/-! ===== letters, chains, cubes, by ===== -/
theorem isIn_J1 {n k : Nat} (h1 : 1 ≤ n) (hn : n < 2147483648) (hk : k < 2147483648) : f_Mod_isIn (zJ k) 0 (zJ (n - 1)) = some (zbI (decide (k < n))) := by
  have := isIn_J hn hk
  rw [zJ_subl (n := 1) h1] at this
  exact this
theorem zJ_and31 {a : Nat} : zJ a &&& 31 = zJ (a % 32) := by
  have : zJ a &&& 31 = zJ (a &&& 31) := zJ_and (b := 31)
  rw [this, show (31 : Nat) = 2 ^ 5 - 1 from rfl, Nat.and_two_pow_sub_one_eq_mod]
theorem ypk_lt {nm : Nat → Nat} : ∀ n, (∀ i, i < n → nm i < 32) → ypk nm n < 32 ^ n
  | 0, _ => by
    unfold ypk
    decide
  | n + 1, h => by
    unfold ypk
    have := ypk_lt n (fun i hi => h i (by omega))
    have := h n (by omega)
    rw [Nat.pow_succ]
    omega
theorem ypk_at {nm : Nat → Nat} : ∀ n, (∀ i, i < n → nm i < 32) → ∀ i, i < n → ypk nm n / 2 ^ (5 * (n - 1 - i)) % 32 = nm i
  | 0, _, i, h => by omega
  | n + 1, h, i, hi => by
    unfold ypk
    have hn := h n (by omega)
    by_cases hin : i = n
    · subst hin
      rw [show i + 1 - 1 - i = 0 by omega, Nat.mul_zero, Nat.pow_zero, Nat.div_one]
      omega
    · have ih := ypk_at n (fun i hi => h i (by omega)) i (by omega)
      rw [show 5 * (n + 1 - 1 - i) = 5 + 5 * (n - 1 - i) by omega, Nat.pow_add, ← Nat.div_div_eq_div_mul, show (ypk nm n * 32 + nm n) / 2 ^ 5 = ypk nm n by show _ / 32 = _; omega]
      exact ih
theorem letter_c {h : zH} {S : yG} {l i : Nat} (ho : yOK S) (hi : yIc h S) (hl : l < yLs (gN S)) (hk : i < yLn (gN S) l) : f_Main_letter h (zJ l) (zJ i) = some (.inl (zJ (yNm (gN S) l i), h)) := by
  obtain ⟨⟨W, D, w1, w2, w3, w4⟩, -⟩ := id hi
  obtain ⟨hn, -⟩ := id ho
  obtain ⟨⟨e1, e2, e3, e4⟩, n2, -⟩ := id hn
  have e1' : yI (gN S) ≤ 6 := e1
  have e3' : yLs (gN S) ≤ yI (gN S) + 16 := e3
  obtain ⟨b1, b2, b3⟩ := n2 l hl
  obtain ⟨a1, a2⟩ := w4.2.2.2.2.2.1 l hl
  have hp := ypk_lt (nm := yNm (gN S) l) (yLn (gN S) l) (fun i hi => by have := (b3 i hi).2; omega)
  have hp2 : 32 ^ yLn (gN S) l ≤ 32 ^ 6 := Nat.pow_le_pow_right (by omega) b2
  have hp3 : (32 : Nat) ^ 6 = 1073741824 := by decide
  unfold f_Main_letter
  rw [needLine_in ho hi (by omega), if_pos hl, Option.bind_some]
  dsimp only [Sum.elim]
  rw [w2]
  simp only [zgr_eq]
  simp (disch := omega) only [zg_tr, zb_t, zJ_lt, zJ_le, zJ_inj, zJ_ltl, zJ_lel, zJ_eql, zJ_llt, zJ_lle, zJ_leq, zJ_m1, zJ_m1r, zJ_nle_m1, zJ_m1lt, zJ_add, zJ_al, zJ_mull, zJ_c, zJ_mlr, zJ_cl, zJ_sub, zJ_subl, zJ_neg, zJ_divl, zreml, zshl_1, zshr_J, zushr_J, zJ_and1, if_pos, if_neg, Option.bind_some, zI_eq, zI_ne, zI_nk, zI_2, zL_1, zL_eq, zL_ne, zL_nk, zL_22, a1, a2]
  rw [zJ_and31, ypk_at (nm := yNm (gN S) l) _ (fun i hi => by have := (b3 i hi).2; omega) i hk]
theorem letter_r {g : zH} {S : yG} {l i : Nat} (ho : yOK S) (hi1 : yIr g S) (hl : l < yLs (gN S)) (hk : i < yLn (gN S) l) : zw (f_Mod_letter g (zJ l) (zJ i)) fun y => yRA (.inl (zJ (yNm (gN S) l i))) y ∧ zfm yLr g y.2 ∧ yIr y.2 S := by
  obtain ⟨hi, q1, z1⟩ := code_r hi1
  obtain ⟨hn, -⟩ := id ho
  obtain ⟨⟨e1, e2, e3, e4⟩, n2, -⟩ := id hn
  have e1' : yI (gN S) ≤ 6 := e1
  have e3' : yLs (gN S) ≤ yI (gN S) + 16 := e3
  unfold f_Mod_letter
  rw [Option.bind_some]
  generalize zsI g 333 2 0 = h at *
  obtain ⟨b1, b2, b3⟩ := n2 l hl
  obtain ⟨a1, a2⟩ := hi.1.2.2.2.2.2.1 l hl
  rw [lines_in hn hi.1 (by omega), Option.bind_some, decide_eq_true hl, if_neg (by decide)]
  simp (disch := omega) only [zg_tr, zb_t, zJ_lt, zJ_le, zJ_inj, zJ_ltl, zJ_lel, zJ_eql, zJ_llt, zJ_lle, zJ_leq, zJ_m1, zJ_m1r, zJ_nle_m1, zJ_m1lt, zJ_add, zJ_al, zJ_mull, zJ_c, zJ_mlr, zJ_cl, zJ_sub, zJ_subl, zJ_neg, zJ_divl, zreml, zshl_1, zshr_J, zushr_J, zJ_and1, if_pos, if_neg, Option.bind_some, zI_eq, zI_ne, zI_nk, zI_2, zL_1, zL_eq, zL_ne, zL_nk, zL_22, a1]
  rw [isIn_J1 (by omega) (by omega) (by omega), Option.bind_some, decide_eq_true hk, if_neg (by decide)]
  simp (disch := omega) only [zg_tr, zb_t, zJ_lt, zJ_le, zJ_inj, zJ_ltl, zJ_lel, zJ_eql, zJ_llt, zJ_lle, zJ_leq, zJ_m1, zJ_m1r, zJ_nle_m1, zJ_m1lt, zJ_add, zJ_al, zJ_mull, zJ_c, zJ_mlr, zJ_cl, zJ_sub, zJ_subl, zJ_neg, zJ_divl, zreml, zshl_1, zshr_J, zushr_J, zJ_and1, if_pos, if_neg, Option.bind_some, zI_eq, zI_ne, zI_nk, zI_2, zL_1, zL_eq, zL_ne, zL_nk, zL_22, a2 i hk]
  exact zw_some ⟨⟨z1, fun w hw => by cases hw; rfl⟩, q1, hi⟩
theorem q_letter {h : zH} {v w : Int32} (hi : yInv h) : zw (f_L_letter h v w) fun x => zw (f_Mod_letter x.2 v w) fun y => yEnd x y := by
  obtain ⟨S, ho, hc, hr⟩ := hi
  have n2 := ho.1.2.1
  have bad : (∀ g, yIc g S → f_Main_letter g v w = some (.inr (1, g))) → (∀ g, yIr (zsI g 333 2 0) S → f_Mod_letter g v w = f_Mod_fail (zsI g 333 2 0) 1) → zw (f_L_letter h v w) fun x => zw (f_Mod_letter x.2 v w) fun y => yEnd x y := by
    intro h1 h2
    unfold f_L_letter
    refine yBad (f := fun g => f_Mod_letter g v w) (c := 1) (m := 1) ho hc hr ⟨_, h1 h hc, h, rfl, zfm.rfl', hc⟩ ?_ (fun g hg => ?_) (Or.inl rfl)
    · intro g
      rfl
    · show zw (f_Mod_letter g v w) _
      rw [h2 g (code_r hg).1]
      exact yFail hg (c := 1)
  rcases yneg v with hv | ⟨l, hl, rfl⟩
  · refine bad (fun g hg => ?_) (fun g hg => ?_)
    · unfold f_Main_letter
      rw [needLine_neg hg hv]
      rfl
    · unfold f_Mod_letter
      rw [Option.bind_some, lines_neg ho.1 hg.1 hv]
      rfl
  · by_cases hlL : l < yLs (gN S)
    · have hln := n2 l hlL
      rcases yneg w with hw | ⟨k, hk, rfl⟩
      · refine bad (fun g hg => ?_) (fun g hg => ?_)
        · unfold f_Main_letter
          rw [needLine_in ho hg hl, if_pos hlL, Option.bind_some]
          dsimp only [Sum.elim]
          rw [if_pos hw]
          rfl
        · have a1 := (hg.1.2.2.2.2.2.1 l hlL).1
          obtain ⟨⟨e1, e2, e3, e4⟩, -⟩ := id ho.1
          have e1' : yI (gN S) ≤ 6 := e1
          have e3' : yLs (gN S) ≤ yI (gN S) + 16 := e3
          unfold f_Mod_letter
          rw [Option.bind_some, lines_in ho.1 hg.1 hl, Option.bind_some, decide_eq_true hlL, if_neg (by decide)]
          simp (disch := omega) only [zg_tr, zb_t, zJ_lt, zJ_le, zJ_inj, zJ_ltl, zJ_lel, zJ_eql, zJ_llt, zJ_lle, zJ_leq, zJ_m1, zJ_m1r, zJ_nle_m1, zJ_m1lt, zJ_add, zJ_al, zJ_mull, zJ_c, zJ_mlr, zJ_cl, zJ_sub, zJ_subl, zJ_neg, zJ_divl, zreml, zshl_1, zshr_J, zushr_J, zJ_and1, if_pos, if_neg, Option.bind_some, zI_eq, zI_ne, zI_nk, zI_2, zL_1, zL_eq, zL_ne, zL_nk, zL_22, a1, isIn_neg hw]
          rfl
      · by_cases hkn : k < yLn (gN S) l
        · unfold f_L_letter
          exact yGood (f := fun g => f_Mod_letter g (zJ l) (zJ k)) ho hr ⟨_, letter_c ho hc hlL hkn, h, rfl, zfm.rfl', hc⟩ (fun g hg => letter_r ho hg hlL hkn)
        · refine bad (fun g hg => ?_) (fun g hg => ?_)
          · obtain ⟨⟨W, D, w1, w2, w3, w4⟩, -⟩ := id hg
            obtain ⟨⟨e1, e2, e3, e4⟩, -⟩ := id ho.1
            have e1' : yI (gN S) ≤ 6 := e1
            have e3' : yLs (gN S) ≤ yI (gN S) + 16 := e3
            have a2 := (w4.2.2.2.2.2.1 l hlL).2
            unfold f_Main_letter
            rw [needLine_in ho hg hl, if_pos hlL, Option.bind_some]
            dsimp only [Sum.elim]
            rw [w2]
            simp only [zgr_eq]
            simp (disch := omega) only [zg_tr, zb_t, zJ_lt, zJ_le, zJ_inj, zJ_ltl, zJ_lel, zJ_eql, zJ_llt, zJ_lle, zJ_leq, zJ_m1, zJ_m1r, zJ_nle_m1, zJ_m1lt, zJ_add, zJ_al, zJ_mull, zJ_c, zJ_mlr, zJ_cl, zJ_sub, zJ_subl, zJ_neg, zJ_divl, zreml, zshl_1, zshr_J, zushr_J, zJ_and1, if_pos, if_neg, Option.bind_some, zI_eq, zI_ne, zI_nk, zI_2, zL_1, zL_eq, zL_ne, zL_nk, zL_22, a2]
            rfl
          · have a1 := (hg.1.2.2.2.2.2.1 l hlL).1
            obtain ⟨⟨e1, e2, e3, e4⟩, -⟩ := id ho.1
            have e1' : yI (gN S) ≤ 6 := e1
            have e3' : yLs (gN S) ≤ yI (gN S) + 16 := e3
            unfold f_Mod_letter
            rw [Option.bind_some, lines_in ho.1 hg.1 hl, Option.bind_some, decide_eq_true hlL, if_neg (by decide)]
            simp (disch := omega) only [zg_tr, zb_t, zJ_lt, zJ_le, zJ_inj, zJ_ltl, zJ_lel, zJ_eql, zJ_llt, zJ_lle, zJ_leq, zJ_m1, zJ_m1r, zJ_nle_m1, zJ_m1lt, zJ_add, zJ_al, zJ_mull, zJ_c, zJ_mlr, zJ_cl, zJ_sub, zJ_subl, zJ_neg, zJ_divl, zreml, zshl_1, zshr_J, zushr_J, zJ_and1, if_pos, if_neg, Option.bind_some, zI_eq, zI_ne, zI_nk, zI_2, zL_1, zL_eq, zL_ne, zL_nk, zL_22, a1]
            rw [isIn_J1 (by omega) (by omega) hk, Option.bind_some, decide_eq_false hkn, if_pos (by decide)]
            rfl
    · refine bad (fun g hg => ?_) (fun g hg => ?_)
      · unfold f_Main_letter
        rw [needLine_in ho hg hl, if_neg hlL]
        rfl
      · unfold f_Mod_letter
        rw [Option.bind_some, lines_in ho.1 hg.1 hl, Option.bind_some, decide_eq_false hlL, if_pos (by decide)]
        rfl
/-! chains -/
theorem zfj_ltJ' {n k : Nat} (hn : n ≤ 2147483648) (hk : k < 2147483648) : zfj n < zJ k ↔ n ≤ k := by
  cases n with
  | zero =>
    rw [zfj_0, zJ_m1lt hk]
    simp
  | succ n =>
    rw [zfj_s, zJ_lt (by omega) hk]
    omega
theorem zfj_lt {a b : Nat} (ha : a ≤ 2147483648) (hb : b ≤ 2147483648) : zfj a < zfj b ↔ a < b := by
  cases b with
  | zero =>
    cases a with
    | zero => decide
    | succ a =>
      rw [zfj_0, zfj_s]
      constructor
      · intro h
        have := Int32.lt_iff_toInt_lt.mp h
        rw [Int32.toInt_ofNat_of_lt (by omega)] at this
        have h2 : (-1 : Int32).toInt = -1 := by decide
        omega
      · intro h
        omega
  | succ b =>
    rw [zfj_s, zfj_ltJ' (by omega) (by omega)]
    omega
theorem yneg2 (v : Int32) : v < -1 ∨ ∃ k, k ≤ 2147483648 ∧ v = zfj k := by
  rcases yneg v with h | ⟨k, hk, rfl⟩
  · by_cases h1 : v < -1
    · exact Or.inl h1
    · refine Or.inr ⟨0, by omega, ?_⟩
      have a := Int32.lt_iff_toInt_lt.mp h
      have b : ¬ v.toInt < (-1 : Int32).toInt := fun hh => h1 (Int32.lt_iff_toInt_lt.mpr hh)
      have h2 : (-1 : Int32).toInt = -1 := by decide
      have h3 : (0 : Int32).toInt = 0 := by decide
      apply Int32.toInt_inj.mp
      rw [zfj_0]
      omega
  · exact Or.inr ⟨k + 1, by omega, rfl⟩
theorem zfj_nlt {k : Nat} (hk : k ≤ 2147483648) : ¬ zfj k < -1 := by
  have := zfj_lt (b := 0) hk (by omega)
  rw [zfj_0] at this
  rw [this]
  omega
theorem zfj_m1 {k : Nat} (hk : k ≤ 2147483648) : zfj k = -1 ↔ k = 0 := by
  cases k with
  | zero => exact ⟨fun _ => rfl, fun _ => rfl⟩
  | succ k =>
    rw [zfj_s, zJ_m1 (by omega)]
    simp
/-- in which cell, or how many -/
def ych (S : yG) (c k : Nat) : Int32 := if k = 0 then zJ (yCn (gN S) c) else zJ (yCl (gN S) c (k - 1))
theorem needCell_in {h : zH} {S : yG} {c k : Nat} (ho : yOK S) (hi : yIc h S) (hc : c < 2147483648) (hk : k ≤ 2147483648) : f_Main_needCell h (zJ c) (zfj k) = if c < yNc (gN S) ∧ k ≤ yCn (gN S) c then some (.inl ((), h)) else some (.inr (1, h)) := by
  obtain ⟨⟨W, D, w1, w2, w3, w4⟩, -⟩ := id hi
  obtain ⟨hn, -⟩ := id ho
  obtain ⟨-, -, n3, n4, -⟩ := id hn
  unfold f_Main_needCell f_Main_needCell_j33
  rw [w2]
  simp only [zgr_eq]
  rw [w4.2.2.1]
  by_cases h1 : c < yNc (gN S)
  · obtain ⟨c1, c2, -⟩ := n4 c h1
    have a7 := (w4.2.2.2.2.2.2.1 c h1).1
    simp (disch := omega) only [zg_tr, zb_t, zJ_lt, zJ_le, zJ_inj, zJ_ltl, zJ_lel, zJ_eql, zJ_llt, zJ_lle, zJ_leq, zJ_m1, zJ_m1r, zJ_nle_m1, zJ_m1lt, zJ_add, zJ_al, zJ_mull, zJ_c, zJ_mlr, zJ_cl, zJ_sub, zJ_subl, zJ_neg, zJ_divl, zreml, zshl_1, zshr_J, zushr_J, zJ_and1, if_pos, if_neg, Option.bind_some, zI_eq, zI_ne, zI_nk, zI_2, zL_1, zL_eq, zL_ne, zL_nk, zL_22, a7]
    rw [if_neg (zfj_nlt hk)]
    simp only [zfj_ltJ' hk (show yCn (gN S) c < 2147483648 by omega)]
    by_cases h2 : k ≤ yCn (gN S) c
    · rw [if_pos h2, if_pos ⟨h1, h2⟩]
    · rw [if_neg h2, if_neg (fun h => h2 h.2)]
  · simp (disch := omega) only [zg_tr, zb_t, zJ_lt, zJ_le, zJ_inj, zJ_ltl, zJ_lel, zJ_eql, zJ_llt, zJ_lle, zJ_leq, zJ_m1, zJ_m1r, zJ_nle_m1, zJ_m1lt, zJ_add, zJ_al, zJ_mull, zJ_c, zJ_mlr, zJ_cl, zJ_sub, zJ_subl, zJ_neg, zJ_divl, zreml, zshl_1, zshr_J, zushr_J, zJ_and1, if_pos, if_neg, Option.bind_some, zI_eq, zI_ne, zI_nk, zI_2, zL_1, zL_eq, zL_ne, zL_nk, zL_22]
theorem needCell_neg {h : zH} {S : yG} {v w : Int32} (ho : yOK S) (hi : yIc h S) (hv : v < 0) : f_Main_needCell h v w = some (.inr (1, h)) := by
  unfold f_Main_needCell
  rw [if_pos hv]
  rfl
theorem needCell_neg2 {h : zH} {S : yG} {c : Nat} {w : Int32} (ho : yOK S) (hi : yIc h S) (hc : c < 2147483648) (hw : w < -1) : f_Main_needCell h (zJ c) w = some (.inr (1, h)) := by
  obtain ⟨⟨W, D, w1, w2, w3, w4⟩, -⟩ := id hi
  obtain ⟨-, -, n3, n4, -⟩ := id ho.1
  unfold f_Main_needCell f_Main_needCell_j33
  rw [w2]
  simp only [zgr_eq]
  rw [w4.2.2.1]
  simp (disch := omega) only [zg_tr, zb_t, zJ_lt, zJ_le, zJ_inj, zJ_ltl, zJ_lel, zJ_eql, zJ_llt, zJ_lle, zJ_leq, zJ_m1, zJ_m1r, zJ_nle_m1, zJ_m1lt, zJ_add, zJ_al, zJ_mull, zJ_c, zJ_mlr, zJ_cl, zJ_sub, zJ_subl, zJ_neg, zJ_divl, zreml, zshl_1, zshr_J, zushr_J, zJ_and1, if_pos, if_neg, Option.bind_some, zI_eq, zI_ne, zI_nk, zI_2, zL_1, zL_eq, zL_ne, zL_nk, zL_22]
  by_cases h1 : c < yNc (gN S)
  · rw [if_neg (by omega)]
  · rw [if_pos (by omega)]
theorem isIn_cell {n k : Nat} (hn : n < 2147483648) (hk : k ≤ 2147483648) : f_Mod_isIn (zfj k) (-1) (zJ n - 1) = some (zbI (decide (k ≤ n))) := by
  unfold f_Mod_isIn
  rw [zfj_sub1 hn, if_neg (zfj_nlt hk)]
  simp only [zfj_lt (show n ≤ 2147483648 by omega) hk]
  by_cases h : k ≤ n
  · rw [if_neg (by omega), decide_eq_true h]
    rfl
  · rw [if_pos (by omega), decide_eq_false h]
    rfl
theorem isIn_cell1 {n k : Nat} (h1 : 1 ≤ n) (hn : n < 2147483648) (hk : k ≤ 2147483648) : f_Mod_isIn (zfj k) (-1) (zJ (n - 1)) = some (zbI (decide (k ≤ n))) := by
  have := isIn_cell hn hk
  rw [zJ_subl (n := 1) h1] at this
  exact this
theorem isIn_cell2 {w b : Int32} (hw : w < -1) : f_Mod_isIn w (-1) b = some 0 := by
  unfold f_Mod_isIn
  rw [if_pos hw]
theorem chain_c {h : zH} {S : yG} {c k : Nat} (ho : yOK S) (hi : yIc h S) (hc : c < yNc (gN S)) (hk : k ≤ yCn (gN S) c) : f_Main_chain h (zJ c) (zfj k) = some (.inl (ych S c k, h)) := by
  obtain ⟨⟨W, D, w1, w2, w3, w4⟩, -⟩ := id hi
  obtain ⟨-, -, n3, n4, -⟩ := id ho.1
  obtain ⟨c1, c2, -⟩ := n4 c hc
  obtain ⟨a7, a8⟩ := w4.2.2.2.2.2.2.1 c hc
  unfold f_Main_chain
  rw [needCell_in ho hi (by omega) (by omega), if_pos ⟨hc, hk⟩, Option.bind_some]
  dsimp only [Sum.elim]
  rw [w2]
  simp only [zgr_eq]
  cases k with
  | zero =>
    rw [zfj_0, if_neg (fun h => h rfl)]
    simp (disch := omega) only [zg_tr, zb_t, zJ_lt, zJ_le, zJ_inj, zJ_ltl, zJ_lel, zJ_eql, zJ_llt, zJ_lle, zJ_leq, zJ_m1, zJ_m1r, zJ_nle_m1, zJ_m1lt, zJ_add, zJ_al, zJ_mull, zJ_c, zJ_mlr, zJ_cl, zJ_sub, zJ_subl, zJ_neg, zJ_divl, zreml, zshl_1, zshr_J, zushr_J, zJ_and1, if_pos, if_neg, Option.bind_some, zI_eq, zI_ne, zI_nk, zI_2, zL_1, zL_eq, zL_ne, zL_nk, zL_22, a7]
    rfl
  | succ k =>
    rw [zfj_s]
    simp (disch := omega) only [zg_tr, zb_t, zJ_lt, zJ_le, zJ_inj, zJ_ltl, zJ_lel, zJ_eql, zJ_llt, zJ_lle, zJ_leq, zJ_m1, zJ_m1r, zJ_nle_m1, zJ_m1lt, zJ_add, zJ_al, zJ_mull, zJ_c, zJ_mlr, zJ_cl, zJ_sub, zJ_subl, zJ_neg, zJ_divl, zreml, zshl_1, zshr_J, zushr_J, zJ_and1, if_pos, if_neg, Option.bind_some, zI_eq, zI_ne, zI_nk, zI_2, zL_1, zL_eq, zL_ne, zL_nk, zL_22, a8 k (by omega)]
    rfl
theorem chain_r {g : zH} {S : yG} {c k : Nat} (ho : yOK S) (hi1 : yIr g S) (hc : c < yNc (gN S)) (hk : k ≤ yCn (gN S) c) : zw (f_Mod_chain g (zJ c) (zfj k)) fun y => yRA (.inl (ych S c k)) y ∧ zfm yLr g y.2 ∧ yIr y.2 S := by
  obtain ⟨hi, q1, z1⟩ := code_r hi1
  obtain ⟨-, -, n3, n4, -⟩ := id ho.1
  obtain ⟨c1, c2, -⟩ := n4 c hc
  unfold f_Mod_chain
  rw [Option.bind_some]
  generalize zsI g 333 2 0 = h at *
  obtain ⟨a7, a8⟩ := hi.1.2.2.2.2.2.2.1 c hc
  rw [hi.1.2.2.1, isIn_J (by omega) (by omega), Option.bind_some, decide_eq_true hc, if_neg (by decide)]
  simp (disch := omega) only [zg_tr, zb_t, zJ_lt, zJ_le, zJ_inj, zJ_ltl, zJ_lel, zJ_eql, zJ_llt, zJ_lle, zJ_leq, zJ_m1, zJ_m1r, zJ_nle_m1, zJ_m1lt, zJ_add, zJ_al, zJ_mull, zJ_c, zJ_mlr, zJ_cl, zJ_sub, zJ_subl, zJ_neg, zJ_divl, zreml, zshl_1, zshr_J, zushr_J, zJ_and1, if_pos, if_neg, Option.bind_some, zI_eq, zI_ne, zI_nk, zI_2, zL_1, zL_eq, zL_ne, zL_nk, zL_22, a7]
  rw [isIn_cell1 (by omega) (by omega) (by omega), Option.bind_some, decide_eq_true hk, if_pos (by decide)]
  cases k with
  | zero =>
    rw [zfj_0, if_neg (fun h => h rfl)]
    exact zw_some ⟨⟨z1, fun w hw => by cases hw; rfl⟩, q1, hi⟩
  | succ k =>
    rw [zfj_s]
    simp (disch := omega) only [zg_tr, zb_t, zJ_lt, zJ_le, zJ_inj, zJ_ltl, zJ_lel, zJ_eql, zJ_llt, zJ_lle, zJ_leq, zJ_m1, zJ_m1r, zJ_nle_m1, zJ_m1lt, zJ_add, zJ_al, zJ_mull, zJ_c, zJ_mlr, zJ_cl, zJ_sub, zJ_subl, zJ_neg, zJ_divl, zreml, zshl_1, zshr_J, zushr_J, zJ_and1, if_pos, if_neg, Option.bind_some, zI_eq, zI_ne, zI_nk, zI_2, zL_1, zL_eq, zL_ne, zL_nk, zL_22, cellAt_r ho.1 hi.1 hc (show k < yCn (gN S) c by omega)]
    exact zw_some ⟨⟨z1, fun w hw => by cases hw; rfl⟩, q1, hi⟩
theorem q_chain {h : zH} {v w : Int32} (hi : yInv h) : zw (f_L_chain h v w) fun x => zw (f_Mod_chain x.2 v w) fun y => yEnd x y := by
  obtain ⟨S, ho, hc, hr⟩ := hi
  obtain ⟨-, -, n3, n4, -⟩ := id ho.1
  have bad : (∀ g, yIc g S → f_Main_chain g v w = some (.inr (1, g))) → (∀ g, yIr (zsI g 333 2 0) S → f_Mod_chain g v w = f_Mod_fail (zsI g 333 2 0) 1) → zw (f_L_chain h v w) fun x => zw (f_Mod_chain x.2 v w) fun y => yEnd x y := by
    intro h1 h2
    unfold f_L_chain
    refine yBad (f := fun g => f_Mod_chain g v w) (c := 1) (m := 1) ho hc hr ⟨_, h1 h hc, h, rfl, zfm.rfl', hc⟩ ?_ (fun g hg => ?_) (Or.inl rfl)
    · intro g
      rfl
    · show zw (f_Mod_chain g v w) _
      rw [h2 g (code_r hg).1]
      exact yFail hg (c := 1)
  rcases yneg v with hv | ⟨c, hcl, rfl⟩
  · refine bad (fun g hg => ?_) (fun g hg => ?_)
    · unfold f_Main_chain
      rw [needCell_neg ho hg hv]
      rfl
    · unfold f_Mod_chain
      rw [Option.bind_some, isIn_neg hv]
      rfl
  · by_cases hcN : c < yNc (gN S)
    · obtain ⟨c1, c2, -⟩ := n4 c hcN
      rcases yneg2 w with hw | ⟨k, hk, rfl⟩
      · refine bad (fun g hg => ?_) (fun g hg => ?_)
        · unfold f_Main_chain
          rw [needCell_neg2 ho hg hcl hw]
          rfl
        · have a7 := (hg.1.2.2.2.2.2.2.1 c hcN).1
          unfold f_Mod_chain
          rw [Option.bind_some, hg.1.2.2.1, isIn_J (by omega) (by omega), Option.bind_some, decide_eq_true hcN, if_neg (by decide)]
          simp (disch := omega) only [zg_tr, zb_t, zJ_lt, zJ_le, zJ_inj, zJ_ltl, zJ_lel, zJ_eql, zJ_llt, zJ_lle, zJ_leq, zJ_m1, zJ_m1r, zJ_nle_m1, zJ_m1lt, zJ_add, zJ_al, zJ_mull, zJ_c, zJ_mlr, zJ_cl, zJ_sub, zJ_subl, zJ_neg, zJ_divl, zreml, zshl_1, zshr_J, zushr_J, zJ_and1, if_pos, if_neg, Option.bind_some, zI_eq, zI_ne, zI_nk, zI_2, zL_1, zL_eq, zL_ne, zL_nk, zL_22, a7, isIn_cell2 hw]
          rfl
      · by_cases hkn : k ≤ yCn (gN S) c
        · unfold f_L_chain
          exact yGood (f := fun g => f_Mod_chain g (zJ c) (zfj k)) ho hr ⟨_, chain_c ho hc hcN hkn, h, rfl, zfm.rfl', hc⟩ (fun g hg => chain_r ho hg hcN hkn)
        · refine bad (fun g hg => ?_) (fun g hg => ?_)
          · unfold f_Main_chain
            rw [needCell_in ho hg hcl hk, if_neg (fun h => hkn h.2)]
            rfl
          · have a7 := (hg.1.2.2.2.2.2.2.1 c hcN).1
            unfold f_Mod_chain
            rw [Option.bind_some, hg.1.2.2.1, isIn_J (by omega) (by omega), Option.bind_some, decide_eq_true hcN, if_neg (by decide)]
            simp (disch := omega) only [zg_tr, zb_t, zJ_lt, zJ_le, zJ_inj, zJ_ltl, zJ_lel, zJ_eql, zJ_llt, zJ_lle, zJ_leq, zJ_m1, zJ_m1r, zJ_nle_m1, zJ_m1lt, zJ_add, zJ_al, zJ_mull, zJ_c, zJ_mlr, zJ_cl, zJ_sub, zJ_subl, zJ_neg, zJ_divl, zreml, zshl_1, zshr_J, zushr_J, zJ_and1, if_pos, if_neg, Option.bind_some, zI_eq, zI_ne, zI_nk, zI_2, zL_1, zL_eq, zL_ne, zL_nk, zL_22, a7]
            rw [isIn_cell1 (by omega) (by omega) hk, Option.bind_some, decide_eq_false hkn, if_neg (by decide)]
            rfl
    · refine bad (fun g hg => ?_) (fun g hg => ?_)
      · unfold f_Main_chain
        rcases yneg2 w with hw | ⟨k, hk, rfl⟩
        · rw [needCell_neg2 ho hg hcl hw]
          rfl
        · rw [needCell_in ho hg hcl hk, if_neg (fun h => hcN h.1)]
          rfl
      · unfold f_Mod_chain
        rw [Option.bind_some, hg.1.2.2.1, isIn_J (by omega) hcl, Option.bind_some, decide_eq_false hcN, if_pos (by decide)]
        rfl
/-! cubes -/
theorem cube_c {h : zH} {S : yG} {f i : Nat} (ho : yOK S) (hi : yIc h S) (hf : f < 2 * yLs (gN S)) (hfd : yfnd (gN S) f = true) (hk : i < yI (gN S)) : f_Main_cube h (zJ f) (zJ i) = some (.inl (zJ (ycb (gN S) f i), h)) := by
  obtain ⟨⟨W, D, w1, w2, w3, w4⟩, i2, -⟩ := id hi
  obtain ⟨hn, -⟩ := id ho
  obtain ⟨⟨e1, e2, e3, e4⟩, n2, -⟩ := id hn
  have e1' : yI (gN S) ≤ 6 := e1
  have e3' : yLs (gN S) ≤ yI (gN S) + 16 := e3
  have hz := of_decide_eq_true hfd
  have hb := cubeBits_c hn i2 hf hz
  have a1 : h.1 W 0 = zJ (yI (gN S)) := w4.1.1
  unfold f_Main_cube
  rw [needFault_in ho hi (by omega), if_pos hf, Option.bind_some]
  dsimp only [Sum.elim]
  rw [isLost_c i2.2.2.2.2.1 hf (by omega), Option.bind_some, show decide (0 < zct (yE (gN S)) (ySb (gN S)) f (2 ^ (yE (gN S)).1)) = true from hfd, if_neg (by decide), w2]
  simp only [zgr_eq]
  simp (disch := omega) only [zg_tr, zb_t, zJ_lt, zJ_le, zJ_inj, zJ_ltl, zJ_lel, zJ_eql, zJ_llt, zJ_lle, zJ_leq, zJ_m1, zJ_m1r, zJ_nle_m1, zJ_m1lt, zJ_add, zJ_al, zJ_mull, zJ_c, zJ_mlr, zJ_cl, zJ_sub, zJ_subl, zJ_neg, zJ_divl, zreml, zshl_1, zshr_J, zushr_J, zJ_and1, if_pos, if_neg, Option.bind_some, zI_eq, zI_ne, zI_nk, zI_2, zL_1, zL_eq, zL_ne, zL_nk, zL_22, a1]
  rw [ybit (by omega), ybit (by omega), (hb i (by omega)).1, (hb i (by omega)).2, decide_eq_true hk, Bool.true_and, Bool.true_and]
  have := ycb_le (N := gN S) (f := f) (i := i)
  rcases (by omega : ycb (gN S) f i = 0 ∨ ycb (gN S) f i = 1 ∨ ycb (gN S) f i = 2) with d | d | d <;> rw [d] <;> rfl
theorem cubeq_r {g : zH} {S : yG} {f i : Nat} (ho : yOK S) (hi1 : yIr g S) (hf : f < 2 * yLs (gN S)) (hfd : yfnd (gN S) f = true) (hk : i < yI (gN S)) : zw (f_Mod_cube g (zJ f) (zJ i)) fun y => yRA (.inl (zJ (ycb (gN S) f i))) y ∧ zfm yLr g y.2 ∧ yIr y.2 S := by
  obtain ⟨hi, q1, z1⟩ := code_r hi1
  obtain ⟨hn, -⟩ := id ho
  obtain ⟨⟨e1, e2, e3, e4⟩, n2, -⟩ := id hn
  have e1' : yI (gN S) ≤ 6 := e1
  have e3' : yLs (gN S) ≤ yI (gN S) + 16 := e3
  unfold f_Mod_cube
  rw [Option.bind_some]
  generalize zsI g 333 2 0 = h at *
  obtain ⟨c, c1, c2, c3⟩ := lost_r hi.2.1 hf
  have hc0 := c3.mpr hfd
  have a1 : h.1 336 0 = zJ (yI (gN S)) := hi.1.1.1
  have hcb := cube_r hn hi.2.1 hf (of_decide_eq_true hfd) i hk
  rw [faults_in hn hi.1 (by omega), Option.bind_some, decide_eq_true hf, if_neg (by decide)]
  simp (disch := omega) only [zg_tr, zb_t, zJ_lt, zJ_le, zJ_inj, zJ_ltl, zJ_lel, zJ_eql, zJ_llt, zJ_lle, zJ_leq, zJ_m1, zJ_m1r, zJ_nle_m1, zJ_m1lt, zJ_add, zJ_al, zJ_mull, zJ_c, zJ_mlr, zJ_cl, zJ_sub, zJ_subl, zJ_neg, zJ_divl, zreml, zshl_1, zshr_J, zushr_J, zJ_and1, if_pos, if_neg, Option.bind_some, zI_eq, zI_ne, zI_nk, zI_2, zL_1, zL_eq, zL_ne, zL_nk, zL_22, c2, a1]
  rw [isIn_J1 (by omega) (by omega) (by omega), Option.bind_some, decide_eq_true hk, if_neg (by decide)]
  simp (disch := omega) only [zg_tr, zb_t, zJ_lt, zJ_le, zJ_inj, zJ_ltl, zJ_lel, zJ_eql, zJ_llt, zJ_lle, zJ_leq, zJ_m1, zJ_m1r, zJ_nle_m1, zJ_m1lt, zJ_add, zJ_al, zJ_mull, zJ_c, zJ_mlr, zJ_cl, zJ_sub, zJ_subl, zJ_neg, zJ_divl, zreml, zshl_1, zshr_J, zushr_J, zJ_and1, if_pos, if_neg, Option.bind_some, zI_eq, zI_ne, zI_nk, zI_2, zL_1, zL_eq, zL_ne, zL_nk, zL_22, hcb]
  exact zw_some ⟨⟨z1, fun w hw => by cases hw; rfl⟩, q1, hi⟩
theorem q_cube {h : zH} {v w : Int32} (hi : yInv h) : zw (f_L_cube h v w) fun x => zw (f_Mod_cube x.2 v w) fun y => yEnd x y := by
  obtain ⟨S, ho, hc, hr⟩ := hi
  obtain ⟨⟨e1, e2, e3, e4⟩, -⟩ := id ho.1
  have e1' : yI (gN S) ≤ 6 := e1
  have e3' : yLs (gN S) ≤ yI (gN S) + 16 := e3
  have bad : (∀ g, yIc g S → f_Main_cube g v w = some (.inr (1, g))) → (∀ g, yIr (zsI g 333 2 0) S → f_Mod_cube g v w = f_Mod_fail (zsI g 333 2 0) 1) → zw (f_L_cube h v w) fun x => zw (f_Mod_cube x.2 v w) fun y => yEnd x y := by
    intro h1 h2
    unfold f_L_cube
    refine yBad (f := fun g => f_Mod_cube g v w) (c := 1) (m := 1) ho hc hr ⟨_, h1 h hc, h, rfl, zfm.rfl', hc⟩ ?_ (fun g hg => ?_) (Or.inl rfl)
    · intro g
      rfl
    · show zw (f_Mod_cube g v w) _
      rw [h2 g (code_r hg).1]
      exact yFail hg (c := 1)
  rcases yneg v with hv | ⟨f, hf, rfl⟩
  · refine bad (fun g hg => ?_) (fun g hg => ?_)
    · unfold f_Main_cube
      rw [needFault_neg hv]
      rfl
    · unfold f_Mod_cube
      rw [Option.bind_some, faults_neg ho.1 hg.1 hv]
      rfl
  · by_cases hfF : f < 2 * yLs (gN S)
    · have mlost : ∀ g, yIc g S → f_Main_cube g (zJ f) w = if yfnd (gN S) f = true then (if w < 0 then some (.inr (1, g)) else zgr (g.2.2.1 0 1) 3 fun w3 => if w < (g.1 w3 0) then (zg (zb (zJ f) 44) <| if ¬ ((zushr (g.1 122 (zJ f).toNatClampNeg) w) &&& 1) = 0 then (zg (zb (zJ f) 44) <| some (.inl (((zushr (g.1 123 (zJ f).toNatClampNeg) w) &&& 1), g))) else (some (.inl (2, g)))) else some (.inr (1, g))) else some (.inr (1, g)) := by
        intro g hg
        unfold f_Main_cube f_Main_cube_j31
        rw [needFault_in ho hg hf, if_pos hfF, Option.bind_some]
        dsimp only [Sum.elim]
        rw [isLost_c hg.2.1.2.2.2.2.1 hfF (by omega), Option.bind_some]
        cases hfd : yfnd (gN S) f
        · rw [show decide (0 < zct (yE (gN S)) (ySb (gN S)) f (2 ^ (yE (gN S)).1)) = false from hfd, if_pos (by decide), if_neg (by decide)]
        · rw [show decide (0 < zct (yE (gN S)) (ySb (gN S)) f (2 ^ (yE (gN S)).1)) = true from hfd, if_neg (by decide), if_pos rfl]
      have rlost : ∀ g, yIr (zsI g 333 2 0) S → f_Mod_cube g (zJ f) w = if yfnd (gN S) f = true then (f_Mod_isIn w 0 (zJ (yI (gN S)) - 1)).bind (fun x5 => if x5 = 0 then f_Mod_cube_j52 (zsI g 333 2 0) else zg (zb ((6 * zJ f) + w) 264) <| some (((zsI g 333 2 0).1 355 ((6 * zJ f) + w).toNatClampNeg), zsI g 333 2 0)) else f_Mod_cube_j52 (zsI g 333 2 0) := by
        intro g hg
        obtain ⟨c, c1, c2, c3⟩ := lost_r hg.2.1 hfF
        have a1 : (zsI g 333 2 0).1 336 0 = zJ (yI (gN S)) := hg.1.1.1
        unfold f_Mod_cube
        rw [Option.bind_some, faults_in ho.1 hg.1 hf, Option.bind_some, decide_eq_true hfF, if_neg (by decide)]
        rw [zJ_c (by omega), c2, a1, zb_t (by omega) (by omega), zg_tr]
        cases hfd : yfnd (gN S) f
        · have : c ≠ 0 := fun h => by rw [c3.mp h] at hfd; cases hfd
          rw [if_pos (by rw [zJ_eql (by omega) (by decide)]; exact this), if_neg (by decide)]
        · have := c3.mpr hfd
          subst this
          rw [if_neg (fun h => h rfl), if_pos rfl]
      cases hfd : yfnd (gN S) f
      · refine bad (fun g hg => ?_) (fun g hg => ?_)
        · rw [mlost g hg, hfd, if_neg (by decide)]
        · rw [rlost g hg, hfd, if_neg (by decide)]
          rfl
      · rcases yneg w with hw | ⟨k, hk, rfl⟩
        · refine bad (fun g hg => ?_) (fun g hg => ?_)
          · rw [mlost g hg, hfd, if_pos rfl, if_pos hw]
          · rw [rlost g hg, hfd, if_pos rfl, isIn_neg hw, Option.bind_some]
            rfl
        · by_cases hkn : k < yI (gN S)
          · unfold f_L_cube
            exact yGood (f := fun g => f_Mod_cube g (zJ f) (zJ k)) ho hr ⟨_, cube_c ho hc hfF hfd hkn, h, rfl, zfm.rfl', hc⟩ (fun g hg => cubeq_r ho hg hfF hfd hkn)
          · refine bad (fun g hg => ?_) (fun g hg => ?_)
            · obtain ⟨⟨W, D, w1, w2, w3, w4⟩, -⟩ := id hg
              have a1 : g.1 W 0 = zJ (yI (gN S)) := w4.1.1
              rw [mlost g hg, hfd, if_pos rfl, w2]
              simp only [zgr_eq]
              simp (disch := omega) only [zg_tr, zb_t, zJ_lt, zJ_le, zJ_inj, zJ_ltl, zJ_lel, zJ_eql, zJ_llt, zJ_lle, zJ_leq, zJ_m1, zJ_m1r, zJ_nle_m1, zJ_m1lt, zJ_add, zJ_al, zJ_mull, zJ_c, zJ_mlr, zJ_cl, zJ_sub, zJ_subl, zJ_neg, zJ_divl, zreml, zshl_1, zshr_J, zushr_J, zJ_and1, if_pos, if_neg, Option.bind_some, zI_eq, zI_ne, zI_nk, zI_2, zL_1, zL_eq, zL_ne, zL_nk, zL_22, a1]
            · rw [rlost g hg, hfd, if_pos rfl, isIn_J (by omega) hk, Option.bind_some, decide_eq_false hkn, if_pos (by decide)]
              rfl
    · refine bad (fun g hg => ?_) (fun g hg => ?_)
      · unfold f_Main_cube
        rw [needFault_in ho hg hf, if_neg hfF]
        rfl
      · unfold f_Mod_cube
        rw [Option.bind_some, faults_in ho.1 hg.1 hf, Option.bind_some, decide_eq_false hfF, if_pos (by decide)]
        rfl
