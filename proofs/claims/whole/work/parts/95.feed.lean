/-! ===== feed ===== -/
def gby (x : Int32) (p : Nat) : Nat := (zushr x (zJ (24 - 8 * p))).toBitVec.toNat % 256
theorem gby_lt {x : Int32} {p : Nat} : gby x p < 256 := Nat.mod_lt _ (by decide)
theorem gby_r {x : Int32} {p : Nat} (hp : p < 4) : zshr x (zJ (24 - 8 * p)) &&& 255 = zJ (gby x p) := by
  apply Int32.toBitVec_inj.mp
  apply BitVec.eq_of_getLsbD_eq
  intro i hi
  rw [Int32.toBitVec_and, BitVec.getLsbD_and, zshr_bv x (by omega), BitVec.getLsbD_sshiftRight]
  have e255 : (255 : Int32).toBitVec.getLsbD i = decide (i < 8) := by
    revert i
    decide
  have eJ : (zJ (gby x p)).toBitVec.getLsbD i = (decide (i < 8) && x.toBitVec.getLsbD (24 - 8 * p + i)) := by
    have h1 : (zJ (gby x p)).toBitVec = BitVec.ofNat 32 (gby x p) := rfl
    rw [h1, BitVec.getLsbD_ofNat]
    unfold gby
    rw [show (256 : Nat) = 2 ^ 8 from rfl, Nat.testBit_mod_two_pow, zushr_bv x (by omega)]
    rw [show ∀ y : BitVec 32, y.toNat.testBit i = y.getLsbD i from fun _ => rfl, BitVec.getLsbD_ushiftRight]
    simp [hi]
  rw [e255, eJ]
  by_cases h8 : i < 8
  · rw [decide_eq_true h8]
    have : 24 - 8 * p + i < 32 := by omega
    simp [hi, this]
  · rw [decide_eq_false h8]
    simp
theorem gby_8 (y : Int32) : (y.toInt8.toInt32).toInt8.toInt32 = (zJ (y.toBitVec.toNat % 256)).toInt8.toInt32 := by
  have h1 : (y.toInt8.toInt32).toInt8 = y.toInt8 := by simp
  rw [h1]
  congr 1
  apply Int8.toBitVec_inj.mp
  show y.toBitVec.signExtend 8 = (BitVec.ofNat 32 (y.toBitVec.toNat % 256)).signExtend 8
  rw [BitVec.signExtend_eq_setWidth_of_le _ (by decide), BitVec.signExtend_eq_setWidth_of_le _ (by decide)]
  apply BitVec.eq_of_toNat_eq
  simp
def gtk (k : Nat) : Int32 := if k < 4 then zJ (24 - 8 * k) else -8
theorem append_c {h : zH} {n : Nat} {w : Int32} (hn : n + 4 ≤ 900) (h1 : h.1 2 1 = zJ n) : zw (f_Tape_append h w) fun g => zfm [(2, 2, 1, 1), (3, 3, n, n + 3)] h g ∧ g.1 2 1 = zJ (n + 4) ∧ ∀ j, j < 4 → g.1 3 (n + j) = (zJ (gby w j)).toInt8.toInt32 := by
  unfold f_Tape_append
  have y : ∀ a j, ((a = 2 ∧ j = 1) ∨ (a = 3 ∧ n ≤ j ∧ j ≤ n + 3)) → zin [(2, 2, 1, 1), (3, 3, n, n + 3)] a j = true := by
    intro a j ha
    unfold zin
    simp
    omega
  refine zw_bi (P := fun g => zfm [(2, 2, 1, 1), (3, 3, n, n + 3)] h g ∧ g.1 2 1 = zJ (n + 4) ∧ ∀ j, j < 4 → g.1 3 (n + j) = (zJ (gby w j)).toInt8.toInt32) (zw_for 4 (fun k t => t.1 = gtk k ∧ zfm [(2, 2, 1, 1), (3, 3, n, n + 3)] h t.2 ∧ t.2.1 2 1 = zJ (n + k) ∧ ∀ j, j < k → t.2.1 3 (n + j) = (zJ (gby w j)).toInt8.toInt32) (by omega) ⟨rfl, zfm.rfl', h1, fun l hl => by omega⟩ ?_) (fun x hx => zw_some hx)
  rintro k ⟨i, g⟩ hk ⟨rfl, hz, hl, hv⟩
  dsimp only at hz hl hv ⊢
  unfold f_Tape_append_b3 gtk
  by_cases hkm : k < 4
  · have hd : zJ (24 - 8 * k) + -8 = (if k + 1 < 4 then zJ (24 - 8 * (k + 1)) else -8) := by
      rcases (by omega : k = 0 ∨ k = 1 ∨ k = 2 ∨ k = 3) with e | e | e | e <;> subst e <;> rfl
    rw [if_pos hkm]
    simp (disch := omega) only [zg_tr, zb_t, zJ_lt, zJ_le, zJ_inj, zJ_ltl, zJ_lel, zJ_eql, zJ_llt, zJ_lle, zJ_leq, zJ_m1, zJ_m1r, zJ_nle_m1, zJ_m1lt, zJ_add, zJ_al, zJ_mull, zJ_c, zJ_mlr, zJ_cl, zJ_sub, zJ_subl, zJ_neg, zJ_divl, zreml, zshl_1, zshr_J, zushr_J, zJ_and1, if_pos, if_neg, Option.bind_some, zI_eq, zI_ne, zI_nk, zI_2, zL_1, zL_eq, zL_ne, zL_nk, zL_22, hl]
    rw [hd]
    refine zw_some ⟨hkm, rfl, (hz.I (y _ _ (by omega))).I (y _ _ (by omega)), zI_eq, fun j hj => ?_⟩
    dsimp only
    rw [zI_ne (by omega)]
    by_cases hjk : j = k
    · subst hjk
      rw [zI_eq]
      exact gby_8 _
    · rw [zI_nk (by omega), hv j (by omega)]
  · have : k = 4 := by omega
    subst this
    rw [if_neg hkm, if_pos (by decide)]
    exact zw_some ⟨hz, hl, hv⟩
def gfe (S : yG) (n : Nat) (tb : Nat → Nat) : yG := (gN S, gT S, gIm S, gU S, n, tb, gfp S)
theorem yIc.tape {h h' : zH} {S : yG} {n : Nat} {tb : Nat → Nat} (hi : yIc h S) (ho : yOK S) (q : zfm [(2, 3, 0, 9999)] h h') (h1 : h'.1 2 1 = zJ n) (h2 : ∀ k, k < n → h'.1 3 k = (zJ (tb k)).toInt8.toInt32) : yIc h' (gfe S n tb) := by
  obtain ⟨⟨W, D, w1, w2, w3, w4⟩, i2, i3, i4, i5, i6, i7, i8, i9⟩ := hi
  exact ⟨⟨W, D, w1, by rw [q.1]; exact w2, by rw [q.1]; exact w3, w4.fr ho.1 q (fun a k h1 h2 => zin_n1 (by omega))⟩, i2.fr ho.1.1 q (fun a k h1 h2 => zin_n1 (by omega)), i3.fr q (fun a k h1 h2 => zin_n1 (by omega)), fun him => (i4 him).fr q (fun a k h1 h2 => zin_n1 (by omega)), (q.i (zin_n1 (by omega))).trans i5, i6.fr q (fun k => ⟨zin_n1 (by omega), zin_n1 (by omega), zin_n1 (by omega)⟩) (zin_n1 (by omega)) (zin_n1 (by omega)) (zin_n1 (by omega)) (zin_n1 (by omega)), h1, h2, (q.i (zin_n1 (by omega))).trans i9⟩
theorem yIr.tape {h h' : zH} {S : yG} {n : Nat} {tb : Nat → Nat} (hi : yIr h S) (q : zfm [(333, 333, 17, 17), (349, 349, 0, 9999)] h h') (h1 : h'.1 333 17 = zJ n) (h2 : ∀ k, k < n → h'.1 349 k = zJ (tb k)) : yIr h' (gfe S n tb) := by
  obtain ⟨i1, i2, i3, i4, i5, i6, i7, i8⟩ := hi
  have n1 : ∀ a k, ((336 ≤ a ∧ a ≤ 348) ∨ (350 ≤ a) ∨ (a = 333 ∧ k ≠ 17)) → zin [(333, 333, 17, 17), (349, 349, 0, 9999)] a k = false := by
    intro a k ha
    cases hz : zin [(333, 333, 17, 17), (349, 349, 0, 9999)] a k
    · rfl
    · unfold zin at hz
      simp at hz
      omega
  exact ⟨i1.fr q (fun a k h1 h2 => n1 a k (by omega)), i2.fr q (fun a k h1 h2 => n1 a k (by omega)), i3.fr q (fun a k h1 => n1 a k (by omega)) (n1 _ _ (by omega)) (n1 _ _ (by omega)), fun him => (i4 him).fr q (fun a k h1 h2 => n1 a k (by omega)) (n1 _ _ (by omega)) (n1 _ _ (by omega)), (q.i (n1 _ _ (by omega))).trans i5, h1, h2, (q.i (n1 _ _ (by omega))).trans i8⟩
def gws (v1 v2 v3 v4 v5 : Int32) (i : Nat) : Int32 := if i < 1 then v1 else if i < 2 then v2 else if i < 3 then v3 else if i < 4 then v4 else v5
def gft (S : yG) (W : Nat → Int32) (k : Nat) : Nat := if k < gtl S then gtb S k else gby (W ((k - gtl S) / 4)) ((k - gtl S) % 4)
theorem feedRow_r {h : zH} {n : Nat} {v1 v2 v3 v4 v5 : Int32} (hn : n + 20 ≤ 900) (h17 : h.1 333 17 = zJ n) : zw (zit zFU (fun s : Int32 × zH => f_Mod_feed_b23 s.2 v1 v2 v3 v4 v5 s.1) (0, h)) fun g => zfm [(333, 333, 17, 17), (349, 349, n, n + 19)] h g ∧ g.1 333 17 = zJ (n + 20) ∧ ∀ j, j < 20 → g.1 349 (n + j) = zJ (gby (gws v1 v2 v3 v4 v5 (j / 4)) (j % 4)) := by
  have y : ∀ a j, ((a = 333 ∧ j = 17) ∨ (a = 349 ∧ n ≤ j ∧ j ≤ n + 19)) → zin [(333, 333, 17, 17), (349, 349, n, n + 19)] a j = true := by
    intro a j ha
    unfold zin
    simp
    omega
  refine zw_mono (zw_for 20 (fun k t => t.1 = zJ k ∧ zfm [(333, 333, 17, 17), (349, 349, n, n + 19)] h t.2 ∧ t.2.1 333 17 = zJ (n + k) ∧ ∀ j, j < k → t.2.1 349 (n + j) = zJ (gby (gws v1 v2 v3 v4 v5 (j / 4)) (j % 4))) (by omega) ⟨rfl, zfm.rfl', h17, fun l hl => by omega⟩ ?_) (fun x hx => hx)
  rintro k ⟨i, g⟩ hk ⟨rfl, hz, hl, hv⟩
  dsimp only at hz hl hv ⊢
  unfold f_Mod_feed_b23
  by_cases hkm : k < 20
  · have hj : ∀ t0 : Int32, t0 = gws v1 v2 v3 v4 v5 (k / 4) → zw (f_Mod_feed_j76 g v1 v2 v3 v4 v5 (zJ k) t0) (Sum.elim (fun t => k < 20 ∧ t.1 = zJ (k + 1) ∧ zfm [(333, 333, 17, 17), (349, 349, n, n + 19)] h t.2 ∧ t.2.1 333 17 = zJ (n + (k + 1)) ∧ ∀ j, j < k + 1 → t.2.1 349 (n + j) = zJ (gby (gws v1 v2 v3 v4 v5 (j / 4)) (j % 4))) (fun g => zfm [(333, 333, 17, 17), (349, 349, n, n + 19)] h g ∧ g.1 333 17 = zJ (n + 20) ∧ ∀ j, j < 20 → g.1 349 (n + j) = zJ (gby (gws v1 v2 v3 v4 v5 (j / 4)) (j % 4)))) := by
      rintro t0 rfl
      unfold f_Mod_feed_j76
      have hm : k % 4 < 4 := Nat.mod_lt _ (by omega)
      have hsh : 24 - 8 * zJ (k % 4) = zJ (24 - 8 * (k % 4)) := by
        rcases (by omega : k % 4 = 0 ∨ k % 4 = 1 ∨ k % 4 = 2 ∨ k % 4 = 3) with e | e | e | e <;> rw [e] <;> rfl
      have hb := gby_r (x := gws v1 v2 v3 v4 v5 (k / 4)) hm
      rw [zreml (by omega) (by decide), show (k % OfNat.ofNat 4 : Nat) = k % 4 from rfl, hsh, hb]
      simp (disch := omega) only [zg_tr, zb_t, zJ_lt, zJ_le, zJ_inj, zJ_ltl, zJ_lel, zJ_eql, zJ_llt, zJ_lle, zJ_leq, zJ_m1, zJ_m1r, zJ_nle_m1, zJ_m1lt, zJ_add, zJ_al, zJ_mull, zJ_c, zJ_mlr, zJ_cl, zJ_sub, zJ_subl, zJ_neg, zJ_divl, zreml, zshl_1, zshr_J, zushr_J, zJ_and1, if_pos, if_neg, Option.bind_some, zI_eq, zI_ne, zI_nk, zI_2, zL_1, zL_eq, zL_ne, zL_nk, zL_22, hl]
      refine zw_some ⟨hkm, rfl, (hz.I (y _ _ (by omega))).I (y _ _ (by omega)), zI_eq, fun j hj => ?_⟩
      dsimp only
      rw [zI_ne (by omega)]
      by_cases hjk : j = k
      · subst hjk
        rw [zI_eq]
      · rw [zI_nk (by omega), hv j (by omega)]
    simp (disch := omega) only [zg_tr, zb_t, zJ_lt, zJ_le, zJ_inj, zJ_ltl, zJ_lel, zJ_eql, zJ_llt, zJ_lle, zJ_leq, zJ_m1, zJ_m1r, zJ_nle_m1, zJ_m1lt, zJ_add, zJ_al, zJ_mull, zJ_c, zJ_mlr, zJ_cl, zJ_sub, zJ_subl, zJ_neg, zJ_divl, zreml, zshl_1, zshr_J, zushr_J, zJ_and1, if_pos, if_neg, Option.bind_some, zI_eq, zI_ne, zI_nk, zI_2, zL_1, zL_eq, zL_ne, zL_nk, zL_22]
    by_cases h4 : 4 ≤ k
    · rw [if_pos h4]
      by_cases h8 : 8 ≤ k
      · rw [if_pos h8]
        by_cases h12 : 12 ≤ k
        · rw [if_pos h12]
          by_cases h16 : 16 ≤ k
          · rw [if_pos h16]
            refine hj _ ?_
            have : k / 4 = 4 := by omega
            rw [this]
            rfl
          · rw [if_neg h16]
            refine hj _ ?_
            have : k / 4 = 3 := by omega
            rw [this]
            rfl
        · rw [if_neg h12]
          refine hj _ ?_
          have : k / 4 = 2 := by omega
          rw [this]
          rfl
      · rw [if_neg h8]
        refine hj _ ?_
        have : k / 4 = 1 := by omega
        rw [this]
        rfl
    · rw [if_neg h4]
      refine hj _ ?_
      have : k / 4 = 0 := by omega
      rw [this]
      rfl
  · have : k = 20 := by omega
    subst this
    rw [if_pos (by decide)]
    exact zw_some ⟨hz, hl, hv⟩
theorem q_feed {h : zH} {v1 v2 v3 v4 v5 : Int32} (hi : yInv h) : zw (f_Main_feed h v1 v2 v3 v4 v5) fun x => zw (f_Mod_feed x.2 v1 v2 v3 v4 v5) fun y => x.1 = y.1 ∧ yInv y.2 := by
  obtain ⟨S, ho, hc, hr⟩ := hi
  have t9 := ho.2.2.2.1
  have c17 : h.1 2 1 = zJ (gtl S) := hc.2.2.2.2.2.2.1
  have r17 : ∀ g, yIr g S → g.1 333 17 = zJ (gtl S) := fun g hg => hg.2.2.2.2.2.1
  by_cases h20 : gtl S + 20 ≤ 900
  · have hS' : yOK (gfe S (gtl S + 20) (gft S (gws v1 v2 v3 v4 v5))) := by
      refine ⟨ho.1, ho.2.1, ho.2.2.1, h20, fun k hk => ?_⟩
      show gft S (gws v1 v2 v3 v4 v5) k < 256
      unfold gft
      by_cases hkt : k < gtl S
      · rw [if_pos hkt]
        exact ho.2.2.2.2 k hkt
      · rw [if_neg hkt]
        exact gby_lt
    refine yBoth0 (f := fun g => f_Mod_feed g v1 v2 v3 v4 v5) (v := zJ (gtl S + 20)) hS' ?_ (fun g hg => ?_) hr
    · unfold f_Main_feed
      simp (disch := omega) only [zg_tr, zb_t, zJ_lt, zJ_le, zJ_inj, zJ_ltl, zJ_lel, zJ_eql, zJ_llt, zJ_lle, zJ_leq, zJ_m1, zJ_m1r, zJ_nle_m1, zJ_m1lt, zJ_add, zJ_al, zJ_mull, zJ_c, zJ_mlr, zJ_cl, zJ_sub, zJ_subl, zJ_neg, zJ_divl, zreml, zshl_1, zshr_J, zushr_J, zJ_and1, if_pos, if_neg, Option.bind_some, zI_eq, zI_ne, zI_nk, zI_2, zL_1, zL_eq, zL_ne, zL_nk, zL_22, c17]
      refine zw_bi (append_c (n := gtl S) (w := v1) (by omega) c17) ?_
      rintro g1 ⟨q1, l1, b1⟩
      refine zw_bi (append_c (n := gtl S + 4) (w := v2) (by omega) l1) ?_
      rintro g2 ⟨q2, l2, b2⟩
      refine zw_bi (append_c (n := gtl S + 4 + 4) (w := v3) (by omega) l2) ?_
      rintro g3 ⟨q3, l3, b3⟩
      refine zw_bi (append_c (n := gtl S + 4 + 4 + 4) (w := v4) (by omega) l3) ?_
      rintro g4 ⟨q4, l4, b4⟩
      refine zw_bi (append_c (n := gtl S + 4 + 4 + 4 + 4) (w := v5) (by omega) l4) ?_
      rintro g5 ⟨q5, l5, b5⟩
      have sb : ∀ (a b : zH) (n : Nat), n + 4 ≤ 900 → zfm [(2, 2, 1, 1), (3, 3, n, n + 3)] a b → zfm [(2, 3, 0, 9999)] a b := fun a b n hn q => q.sub' (fun a j hh => by
        unfold zin at hh ⊢
        simp at hh ⊢
        omega)
      have q : zfm [(2, 3, 0, 9999)] h g5 := ((((sb _ _ _ (by omega) q1).trans (sb _ _ _ (by omega) q2)).trans (sb _ _ _ (by omega) q3)).trans (sb _ _ _ (by omega) q4)).trans (sb _ _ _ (by omega) q5)
      have n3 : ∀ m j, (j < m ∨ m + 3 < j) → zin [(2, 2, 1, 1), (3, 3, m, m + 3)] 3 j = false := by
        intro m j ha
        cases hz : zin [(2, 2, 1, 1), (3, 3, m, m + 3)] 3 j
        · rfl
        · unfold zin at hz
          simp at hz
          omega
      refine zw_some ⟨l5, q.sub rfl, hc.tape ho q l5 (fun k hk => ?_)⟩
      unfold gft
      by_cases hkt : k < gtl S
      · rw [if_pos hkt, q5.i (n3 _ _ (by omega)), q4.i (n3 _ _ (by omega)), q3.i (n3 _ _ (by omega)), q2.i (n3 _ _ (by omega)), q1.i (n3 _ _ (by omega))]
        exact hc.2.2.2.2.2.2.2.1 k hkt
      · rw [if_neg hkt]
        obtain ⟨j, rfl⟩ : ∃ j, k = gtl S + j := ⟨k - gtl S, by omega⟩
        rw [Nat.add_sub_cancel_left]
        by_cases h4 : j < 4
        · rw [q5.i (n3 _ _ (by omega)), q4.i (n3 _ _ (by omega)), q3.i (n3 _ _ (by omega)), q2.i (n3 _ _ (by omega)), b1 j h4, show j / 4 = 0 by omega, show j % 4 = j by omega]
          rfl
        · by_cases h8 : j < 8
          · rw [q5.i (n3 _ _ (by omega)), q4.i (n3 _ _ (by omega)), q3.i (n3 _ _ (by omega)), show gtl S + j = gtl S + 4 + (j - 4) by omega, b2 (j - 4) (by omega), show j / 4 = 1 by omega, show j % 4 = j - 4 by omega]
            rfl
          · by_cases h12 : j < 12
            · rw [q5.i (n3 _ _ (by omega)), q4.i (n3 _ _ (by omega)), show gtl S + j = gtl S + 4 + 4 + (j - 8) by omega, b3 (j - 8) (by omega), show j / 4 = 2 by omega, show j % 4 = j - 8 by omega]
              rfl
            · by_cases h16 : j < 16
              · rw [q5.i (n3 _ _ (by omega)), show gtl S + j = gtl S + 4 + 4 + 4 + (j - 12) by omega, b4 (j - 12) (by omega), show j / 4 = 3 by omega, show j % 4 = j - 12 by omega]
                rfl
              · rw [show gtl S + j = gtl S + 4 + 4 + 4 + 4 + (j - 16) by omega, b5 (j - 16) (by omega), show j / 4 = 4 by omega, show j % 4 = j - 16 by omega]
                rfl
    · obtain ⟨hg1, q1, z1⟩ := code_r hg
      show zw (f_Mod_feed g v1 v2 v3 v4 v5) _
      unfold f_Mod_feed
      rw [Option.bind_some]
      generalize zsI g 333 2 0 = g0 at *
      have e := r17 g0 hg1
      simp (disch := omega) only [zg_tr, zb_t, zJ_lt, zJ_le, zJ_inj, zJ_ltl, zJ_lel, zJ_eql, zJ_llt, zJ_lle, zJ_leq, zJ_m1, zJ_m1r, zJ_nle_m1, zJ_m1lt, zJ_add, zJ_al, zJ_mull, zJ_c, zJ_mlr, zJ_cl, zJ_sub, zJ_subl, zJ_neg, zJ_divl, zreml, zshl_1, zshr_J, zushr_J, zJ_and1, if_pos, if_neg, Option.bind_some, zI_eq, zI_ne, zI_nk, zI_2, zL_1, zL_eq, zL_ne, zL_nk, zL_22, e]
      refine zw_bi (feedRow_r (v1 := v1) (v2 := v2) (v3 := v3) (v4 := v4) (v5 := v5) h20 e) ?_
      rintro g2 ⟨q2, l2, b2⟩
      have q : zfm [(333, 333, 17, 17), (349, 349, 0, 9999)] g0 g2 := q2.sub' (fun a j hh => by
        unfold zin at hh ⊢
        simp at hh ⊢
        omega)
      refine zw_some ⟨l2, q1.tr q rfl, hg1.tape q l2 (fun k hk => ?_)⟩
      unfold gft
      by_cases hkt : k < gtl S
      · rw [if_pos hkt]
        have n3 : zin [(333, 333, 17, 17), (349, 349, gtl S, gtl S + 19)] 349 k = false := by
          cases hz : zin [(333, 333, 17, 17), (349, 349, gtl S, gtl S + 19)] 349 k
          · rfl
          · unfold zin at hz
            simp at hz
            omega
        rw [q2.i n3]
        exact hg1.2.2.2.2.2.2.1 k hkt
      · rw [if_neg hkt]
        obtain ⟨j, rfl⟩ : ∃ j, k = gtl S + j := ⟨k - gtl S, by omega⟩
        rw [Nat.add_sub_cancel_left]
        exact b2 j (by omega)
  · refine yBoth0 (S := S) (f := fun g => f_Mod_feed g v1 v2 v3 v4 v5) (v := -1) ho ?_ (fun g hg => ?_) hr
    · unfold f_Main_feed
      simp (disch := omega) only [zg_tr, zb_t, zJ_lt, zJ_le, zJ_inj, zJ_ltl, zJ_lel, zJ_eql, zJ_llt, zJ_lle, zJ_leq, zJ_m1, zJ_m1r, zJ_nle_m1, zJ_m1lt, zJ_add, zJ_al, zJ_mull, zJ_c, zJ_mlr, zJ_cl, zJ_sub, zJ_subl, zJ_neg, zJ_divl, zreml, zshl_1, zshr_J, zushr_J, zJ_and1, if_pos, if_neg, Option.bind_some, zI_eq, zI_ne, zI_nk, zI_2, zL_1, zL_eq, zL_ne, zL_nk, zL_22, c17]
      exact zw_some ⟨rfl, zfm.rfl', hc⟩
    · obtain ⟨hg1, q1, z1⟩ := code_r hg
      show zw (f_Mod_feed g v1 v2 v3 v4 v5) _
      unfold f_Mod_feed
      rw [Option.bind_some]
      generalize zsI g 333 2 0 = g0 at *
      have e := r17 g0 hg1
      simp (disch := omega) only [zg_tr, zb_t, zJ_lt, zJ_le, zJ_inj, zJ_ltl, zJ_lel, zJ_eql, zJ_llt, zJ_lle, zJ_leq, zJ_m1, zJ_m1r, zJ_nle_m1, zJ_m1lt, zJ_add, zJ_al, zJ_mull, zJ_c, zJ_mlr, zJ_cl, zJ_sub, zJ_subl, zJ_neg, zJ_divl, zreml, zshl_1, zshr_J, zushr_J, zJ_and1, if_pos, if_neg, Option.bind_some, zI_eq, zI_ne, zI_nk, zI_2, zL_1, zL_eq, zL_ne, zL_nk, zL_22, e]
      exact zw_some ⟨rfl, q1, hg1⟩
