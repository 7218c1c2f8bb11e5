/-! ===== by a row, with a fault ===== -/
def ybd (q i : Nat) : Nat := q / 3 ^ i % 3
theorem ybd_le {q i : Nat} : ybd q i ≤ 2 := by
  unfold ybd
  omega
theorem tellUnset_c {h : zH} {N : yN} {o q f l : Nat} (hn : yOKn N) (hw : yCN h o N) (ho : o + 35 ≤ 74) (hq : q < 729) (hf : f ≤ 2 * yLs N) (hl : l < yLs N) : zw (f_Catalog_tellUnset o h (zJ q) (zfj f) (zJ l)) fun x => x.1 = zJ (zvl (yE N) (ybd q) f l) ∧ zfm [(133, 136, 0, 9999)] h x.2 := by
  obtain ⟨⟨e1, e2, e3, e4⟩, -⟩ := id hn
  have e1' : yI N ≤ 6 := e1
  have e3' : yLs N ≤ yI N + 16 := e3
  unfold f_Catalog_tellUnset
  refine zw_bi unset_c ?_
  rintro g1 ⟨q1, q2⟩
  refine zw_bi (P := fun g => zfm [(133, 134, 0, 9999)] h g ∧ yWv g 132 (yE N) (ybd q) 0) (zw_for (yI N) (fun k s => s.1 = zJ (q / 3 ^ k) ∧ s.2.1 = zJ k ∧ zfm [(133, 134, 0, 9999)] h s.2.2 ∧ ∀ i, i < 6 → zBl (s.2.2.2.1 133 i) 0 = (decide (i < k) && (ybd q i == 1)) ∧ zBl (s.2.2.2.1 134 i) 0 = (decide (i < k) && (ybd q i == 0))) (by omega) ⟨by simp, rfl, q1, fun i hi => ?_⟩ ?_) ?_
  · have := q2 i hi
    dsimp only
    rw [this.1, this.2, zBl_0]
    simp
  · rintro k ⟨a, b, g⟩ hk ⟨rfl, rfl, hz, hv⟩
    dsimp only at hz hv ⊢
    have r0 : g.1 o 0 = zJ (yI N) := (hz.i (zin_n1 (by omega))).trans hw.1.1
    have hq3 : q / 3 ^ k < 729 := Nat.lt_of_le_of_lt (Nat.div_le_self _ _) hq
    unfold f_Catalog_tellUnset_b13
    by_cases hkm : k < yI N
    · have hq4 : q / 3 ^ k / 3 = q / 3 ^ (k + 1) := by rw [Nat.div_div_eq_div_mul, Nat.pow_succ]
      have stp : ∀ A B : Int64, zBl A 0 = (ybd q k == 1) → zBl B 0 = (ybd q k == 0) → zw (f_Catalog_tellUnset_j53 o g (zfj f) (zJ l) (zJ (q / 3 ^ k)) (zJ k) B A (zJ k)) (Sum.elim (fun s' => k < yI N ∧ s'.1 = zJ (q / 3 ^ (k + 1)) ∧ s'.2.1 = zJ (k + 1) ∧ zfm [(133, 134, 0, 9999)] h s'.2.2 ∧ ∀ i, i < 6 → zBl (s'.2.2.2.1 133 i) 0 = (decide (i < k + 1) && (ybd q i == 1)) ∧ zBl (s'.2.2.2.1 134 i) 0 = (decide (i < k + 1) && (ybd q i == 0))) fun g => zfm [(133, 134, 0, 9999)] h g ∧ yWv g 132 (yE N) (ybd q) 0) := by
        intro A B hA hB
        unfold f_Catalog_tellUnset_j53
        rw [setInput_c (by omega)]
        simp (disch := omega) only [zg_tr, zb_t, zJ_lt, zJ_le, zJ_inj, zJ_ltl, zJ_lel, zJ_eql, zJ_llt, zJ_lle, zJ_leq, zJ_m1, zJ_m1r, zJ_nle_m1, zJ_m1lt, zJ_add, zJ_al, zJ_mull, zJ_c, zJ_mlr, zJ_cl, zJ_sub, zJ_subl, zJ_neg, zJ_divl, zreml, zshl_1, zshr_J, zushr_J, zJ_and1, if_pos, if_neg, Option.bind_some, zI_eq, zI_ne, zI_nk, zI_2, zL_1, zL_eq, zL_ne, zL_nk, zL_22]
        refine zw_some ⟨hkm, by rw [hq4], rfl, (hz.Lg (zin_1 (by omega) (by omega) (by omega) (by omega))).Lg (zin_1 (by omega) (by omega) (by omega) (by omega)), fun i hi => ?_⟩
        dsimp only
        by_cases hik : i = k
        · subst hik
          obtain ⟨v1, v2⟩ := hv i hi
          rw [zL_ne (by omega), zL_eq, zL_eq, zBl_or, zBl_or, v1, v2, hA, hB]
          simp
        · obtain ⟨v1, v2⟩ := hv i hi
          rw [zL_ne (by omega), zL_nk hik, zL_nk hik, zL_ne (by omega), v1, v2]
          by_cases hlt : i < k
          · simp [hlt, show i < k + 1 by omega]
          · simp [hlt, show ¬ i < k + 1 by omega]
      have hd : ybd q k = q / 3 ^ k % 3 := rfl
      have b0 : zBl 0 0 = false := zBl_0
      have b1 : zBl 1 0 = true := by decide
      simp (disch := omega) only [zg_tr, zb_t, zJ_lt, zJ_le, zJ_inj, zJ_ltl, zJ_lel, zJ_eql, zJ_llt, zJ_lle, zJ_leq, zJ_m1, zJ_m1r, zJ_nle_m1, zJ_m1lt, zJ_add, zJ_al, zJ_mull, zJ_c, zJ_mlr, zJ_cl, zJ_sub, zJ_subl, zJ_neg, zJ_divl, zreml, zshl_1, zshr_J, zushr_J, zJ_and1, if_pos, if_neg, Option.bind_some, zI_eq, zI_ne, zI_nk, zI_2, zL_1, zL_eq, zL_ne, zL_nk, zL_22, r0, f_Catalog_tellUnset_j41]
      rcases (by omega : q / 3 ^ k % 3 = 0 ∨ q / 3 ^ k % 3 = 1 ∨ q / 3 ^ k % 3 = 2) with c | c | c
      · rw [if_pos (by omega), if_neg (by omega)]
        exact stp _ _ (by rw [hd, c, b0]; rfl) (by rw [hd, c, b1]; rfl)
      · rw [if_neg (by omega)]
        exact stp _ _ (by rw [hd, c, b1]; rfl) (by rw [hd, c, b0]; rfl)
      · rw [if_pos (by omega), if_pos (by omega)]
        exact stp _ _ (by rw [hd, c, b0]; rfl) (by rw [hd, c, b0]; rfl)
    · have : k = yI N := by omega
      subst this
      simp (disch := omega) only [zg_tr, zb_t, zJ_lt, zJ_le, zJ_inj, zJ_ltl, zJ_lel, zJ_eql, zJ_llt, zJ_lle, zJ_leq, zJ_m1, zJ_m1r, zJ_nle_m1, zJ_m1lt, zJ_add, zJ_al, zJ_mull, zJ_c, zJ_mlr, zJ_cl, zJ_sub, zJ_subl, zJ_neg, zJ_divl, zreml, zshl_1, zshr_J, zushr_J, zJ_and1, if_pos, if_neg, Option.bind_some, zI_eq, zI_ne, zI_nk, zI_2, zL_1, zL_eq, zL_ne, zL_nk, zL_22, r0]
      refine zw_some ⟨hz, fun i hi => ?_⟩
      have hi' : i < yI N := hi
      obtain ⟨v1, v2⟩ := hv i (by omega)
      rw [v1, v2, decide_eq_true hi', Bool.true_and, Bool.true_and]
      exact ⟨rfl, rfl, ybd_le⟩
  · rintro g2 ⟨q3, q4⟩
    have hw2 : yCN g2 o N := hw.fr hn q3 (fun a k h1 h2 => zin_n1 (by omega))
    refine zw_bi (spread_c (o := 132) (f := f) hn.1 hw2.1 (by omega) (by omega)) ?_
    rintro g3 ⟨q5, q6⟩
    obtain ⟨b1, b2⟩ := q6 0 (ybd q) (by omega) q4 l hl
    have hval := zvl_le (f := f) hn.1 (inp := ybd q) (fun i _ => ybd_le) _ l (Nat.lt_succ_self l) hl
    have h1 : ∀ x : Int64, x &&& 1 = if zBl x 0 then 1 else 0 := by
      intro x
      apply zBl_ext
      intro i hi
      rw [zBl_and, zBl_one]
      by_cases h0 : i = 0
      · subst h0
        cases zBl x 0 <;> decide
      · have : zBl (if zBl x 0 then 1 else 0) i = false := by
          cases zBl x 0
          · exact zBl_0
          · show zBl 1 i = false
            rw [zBl_one]
            simp [h0]
        rw [this]
        simp [h0]
    have qz : zfm [(133, 136, 0, 9999)] h g3 := (q3.sub rfl).tr q5 rfl
    simp (disch := omega) only [zg_tr, zb_t, zJ_lt, zJ_le, zJ_inj, zJ_ltl, zJ_lel, zJ_eql, zJ_llt, zJ_lle, zJ_leq, zJ_m1, zJ_m1r, zJ_nle_m1, zJ_m1lt, zJ_add, zJ_al, zJ_mull, zJ_c, zJ_mlr, zJ_cl, zJ_sub, zJ_subl, zJ_neg, zJ_divl, zreml, zshl_1, zshr_J, zushr_J, zJ_and1, if_pos, if_neg, Option.bind_some, zI_eq, zI_ne, zI_nk, zI_2, zL_1, zL_eq, zL_ne, zL_nk, zL_22]
    rw [h1, h1, b1, b2]
    rcases (by omega : zvl (yE N) (ybd q) f l = 0 ∨ zvl (yE N) (ybd q) f l = 1 ∨ zvl (yE N) (ybd q) f l = 2) with c | c | c
    · rw [c, if_pos (by decide), if_neg (by decide)]
      exact zw_some ⟨rfl, qz⟩
    · rw [c, if_neg (by decide)]
      exact zw_some ⟨rfl, qz⟩
    · rw [c, if_pos (by decide), if_pos (by decide)]
      exact zw_some ⟨rfl, qz⟩
theorem digits_by_r {h : zH} {N : yN} {q : Nat} {v2 v3 : Int32} (hn : yOKn N) (hr : yRN h N) (hq : q < 729) : zw (zit zFU (fun s : Int32 × Int32 × zH => f_Mod_by_b64 s.2.2 v2 v3 s.1 s.2.1) (zJ q, 0, h)) fun g => zfm [(350, 350, 0, 9999)] h g ∧ ∀ i, i < yI N → g.1 350 i = zJ (ybd q i) := by
  obtain ⟨⟨e1, e2, e3, e4⟩, -⟩ := id hn
  have e1' : yI N ≤ 6 := e1
  refine zw_for (yI N) (fun k s => s.1 = zJ (q / 3 ^ k) ∧ s.2.1 = zJ k ∧ zfm [(350, 350, 0, 9999)] h s.2.2 ∧ ∀ i, i < k → s.2.2.1 350 i = zJ (ybd q i)) (by omega) ⟨by simp, rfl, zfm.rfl', fun l hl => by omega⟩ ?_
  rintro k ⟨a, b, g⟩ hk ⟨rfl, rfl, hz, hv⟩
  dsimp only at hz hv ⊢
  have r0 : g.1 336 0 = zJ (yI N) := (hz.i (by rfl)).trans hr.1.1
  have hq3 : q / 3 ^ k < 729 := Nat.lt_of_le_of_lt (Nat.div_le_self _ _) hq
  unfold f_Mod_by_b64
  by_cases hkm : k < yI N
  · have hq4 : q / 3 ^ k / 3 = q / 3 ^ (k + 1) := by rw [Nat.div_div_eq_div_mul, Nat.pow_succ]
    simp (disch := omega) only [zg_tr, zb_t, zJ_lt, zJ_le, zJ_inj, zJ_ltl, zJ_lel, zJ_eql, zJ_llt, zJ_lle, zJ_leq, zJ_m1, zJ_m1r, zJ_nle_m1, zJ_m1lt, zJ_add, zJ_al, zJ_mull, zJ_c, zJ_mlr, zJ_cl, zJ_sub, zJ_subl, zJ_neg, zJ_divl, zreml, zshl_1, zshr_J, zushr_J, zJ_and1, if_pos, if_neg, Option.bind_some, zI_eq, zI_ne, zI_nk, zI_2, zL_1, zL_eq, zL_ne, zL_nk, zL_22, r0]
    refine zw_some ⟨hkm, by rw [hq4], rfl, hz.I (zin_1 (by omega) (by omega) (by omega) (by omega)), fun i hi => ?_⟩
    dsimp only
    by_cases hik : i = k
    · subst hik
      rw [zI_eq]
      rfl
    · rw [zI_nk hik, hv i (by omega)]
  · have : k = yI N := by omega
    subst this
    simp (disch := omega) only [zg_tr, zb_t, zJ_lt, zJ_le, zJ_inj, zJ_ltl, zJ_lel, zJ_eql, zJ_llt, zJ_lle, zJ_leq, zJ_m1, zJ_m1r, zJ_nle_m1, zJ_m1lt, zJ_add, zJ_al, zJ_mull, zJ_c, zJ_mlr, zJ_cl, zJ_sub, zJ_subl, zJ_neg, zJ_divl, zreml, zshl_1, zshr_J, zushr_J, zJ_and1, if_pos, if_neg, Option.bind_some, zI_eq, zI_ne, zI_nk, zI_2, zL_1, zL_eq, zL_ne, zL_nk, zL_22, r0]
    exact zw_some ⟨hz, hv⟩
/-- the answer of by, a fault being told by zfj -/
def yby (S : yG) (q f l : Nat) : yA := if l < yLs (gN S) ∧ f ≤ 2 * yLs (gN S) then (if q < 3 ^ yI (gN S) then .inl (zJ (zvl (yE (gN S)) (ybd q) f l)) else .inr 2) else .inr 1
theorem by32_r {h0 g0 : zH} {S : yG} {f l : Nat} {v : Int32} (ho : yOK S) (hi : yIr h0 S) (q1 : zfm yLr g0 h0) (z1 : h0.1 333 2 = 0) (hf : f ≤ 2 * yLs (gN S)) (hl : l < yLs (gN S)) : (∀ q, q < 2147483648 → v = zJ q → q < 3 ^ yI (gN S) → zw (f_Mod_by_j32 h0 v (zfj f) (zJ l)) fun y => yRA (.inl (zJ (zvl (yE (gN S)) (ybd q) f l))) y ∧ zfm yLr g0 y.2 ∧ yIr y.2 S) ∧ ((v < 0 ∨ ∃ q, q < 2147483648 ∧ v = zJ q ∧ ¬ q < 3 ^ yI (gN S)) → zw (f_Mod_by_j32 h0 v (zfj f) (zJ l)) fun y => yRA (.inr 2) y ∧ zfm yLr g0 y.2 ∧ yIr y.2 S) := by
  obtain ⟨⟨e1, e2, e3, e4⟩, -⟩ := id ho.1
  have e1' : yI (gN S) ≤ 6 := e1
  have e3' : yLs (gN S) ≤ yI (gN S) + 16 := e3
  have h729 := zpw3 e1'
  have r0 : h0.1 336 0 = zJ (yI (gN S)) := hi.1.1.1
  have bad : zw (f_Mod_fail h0 2) fun y => yRA (.inr 2) y ∧ zfm yLr g0 y.2 ∧ yIr y.2 S := by
    refine zw_mono (fail_r (c := 2) hi) ?_
    rintro y ⟨a, b, c⟩
    exact ⟨a, q1.trans b, c⟩
  constructor
  · rintro q hq rfl hq2
    unfold f_Mod_by_j32
    rw [r0]
    refine zw_bi (powerOf_r (a := 3) rfl e1') ?_
    rintro x rfl
    rw [isIn_J (by omega) hq, Option.bind_some, decide_eq_true hq2, if_pos (by decide)]
    refine zw_bi (digits_by_r ho.1 hi.1 (by omega)) ?_
    rintro g ⟨p1, p2⟩
    refine zw_bi (tellLines_r (inp := ybd q) ho.1.1 (hi.1.1.fr p1 (fun o k h1 h2 => zin_n1 (by omega))) (by omega) (fun i hi => ⟨p2 i hi, ybd_le⟩)) ?_
    rintro g2 ⟨p3, p4⟩
    have q2 : zfm [(350, 351, 0, 9999)] h0 g2 := (p1.sub rfl).tr p3 rfl
    simp (disch := omega) only [zg_tr, zb_t, zJ_lt, zJ_le, zJ_inj, zJ_ltl, zJ_lel, zJ_eql, zJ_llt, zJ_lle, zJ_leq, zJ_m1, zJ_m1r, zJ_nle_m1, zJ_m1lt, zJ_add, zJ_al, zJ_mull, zJ_c, zJ_mlr, zJ_cl, zJ_sub, zJ_subl, zJ_neg, zJ_divl, zreml, zshl_1, zshr_J, zushr_J, zJ_and1, if_pos, if_neg, Option.bind_some, zI_eq, zI_ne, zI_nk, zI_2, zL_1, zL_eq, zL_ne, zL_nk, zL_22, p4]
    exact zw_some ⟨⟨(q2.i (by rfl)).trans z1, fun w hw => by cases hw; rfl⟩, q1.tr q2 rfl, hi.fr q2 rfl⟩
  · rintro (hv | ⟨q, hq, rfl, hq2⟩)
    · unfold f_Mod_by_j32
      rw [r0]
      refine zw_bi (powerOf_r (a := 3) rfl e1') ?_
      rintro x rfl
      rw [isIn_neg hv, Option.bind_some, if_neg (by decide)]
      exact zw_bi bad (fun y hy => zw_some hy)
    · unfold f_Mod_by_j32
      rw [r0]
      refine zw_bi (powerOf_r (a := 3) rfl e1') ?_
      rintro x rfl
      rw [isIn_J (by omega) hq, Option.bind_some, decide_eq_false hq2, if_neg (by decide)]
      exact zw_bi bad (fun y hy => zw_some hy)
theorem by15_c {h : zH} {S : yG} {f l : Nat} {v : Int32} (ho : yOK S) (hi : yIc h S) (hf : f ≤ 2 * yLs (gN S)) (hl : l < yLs (gN S)) : (∀ q, q < 2147483648 → v = zJ q → q < 3 ^ yI (gN S) → zw (f_Main_by_j15 h v (zfj f) (zJ l)) fun x => ∃ g, x = .inl (zJ (zvl (yE (gN S)) (ybd q) f l), g) ∧ zfm yLc h g ∧ yIc g S) ∧ ((v < 0 ∨ ∃ q, q < 2147483648 ∧ v = zJ q ∧ ¬ q < 3 ^ yI (gN S)) → f_Main_by_j15 h v (zfj f) (zJ l) = some (.inr (2, h))) := by
  obtain ⟨⟨e1, e2, e3, e4⟩, -⟩ := id ho.1
  have e1' : yI (gN S) ≤ 6 := e1
  have e3' : yLs (gN S) ≤ yI (gN S) + 16 := e3
  have h729 := zpw3 e1'
  obtain ⟨⟨W, D, w1, w2, w3, w4⟩, i2, -⟩ := id hi
  have c3 : h.1 74 2 = zJ (3 ^ yI (gN S)) := i2.2.2.1
  constructor
  · rintro q hq rfl hq2
    unfold f_Main_by_j15
    rw [w2]
    simp only [zgr_eq]
    simp (disch := omega) only [zg_tr, zb_t, zJ_lt, zJ_le, zJ_inj, zJ_ltl, zJ_lel, zJ_eql, zJ_llt, zJ_lle, zJ_leq, zJ_m1, zJ_m1r, zJ_nle_m1, zJ_m1lt, zJ_add, zJ_al, zJ_mull, zJ_c, zJ_mlr, zJ_cl, zJ_sub, zJ_subl, zJ_neg, zJ_divl, zreml, zshl_1, zshr_J, zushr_J, zJ_and1, if_pos, if_neg, Option.bind_some, zI_eq, zI_ne, zI_nk, zI_2, zL_1, zL_eq, zL_ne, zL_nk, zL_22, c3]
    refine zw_bi (tellUnset_c ho.1 w4 (by omega) (by omega) hf hl) ?_
    rintro ⟨x, g⟩ ⟨rfl, p1⟩
    exact zw_some ⟨g, rfl, zfm.sub p1 rfl, hi.fr ho p1 rfl⟩
  · rintro (hv | ⟨q, hq, rfl, hq2⟩)
    · unfold f_Main_by_j15
      rw [if_pos hv]
      rfl
    · unfold f_Main_by_j15 f_Main_by_j30
      simp (disch := omega) only [zg_tr, zb_t, zJ_lt, zJ_le, zJ_inj, zJ_ltl, zJ_lel, zJ_eql, zJ_llt, zJ_lle, zJ_leq, zJ_m1, zJ_m1r, zJ_nle_m1, zJ_m1lt, zJ_add, zJ_al, zJ_mull, zJ_c, zJ_mlr, zJ_cl, zJ_sub, zJ_subl, zJ_neg, zJ_divl, zreml, zshl_1, zshr_J, zushr_J, zJ_and1, if_pos, if_neg, Option.bind_some, zI_eq, zI_ne, zI_nk, zI_2, zL_1, zL_eq, zL_ne, zL_nk, zL_22, c3]
theorem q_by {h : zH} {v w u : Int32} (hi : yInv h) : zw (f_L_by h v w u) fun x => zw (f_Mod_by x.2 v w u) fun y => yEnd x y := by
  obtain ⟨S, ho, hc, hr⟩ := hi
  have bad : (∀ g, yIc g S → f_Main_by g v w u = some (.inr (1, g))) → (∀ g, yIr (zsI g 333 2 0) S → f_Mod_by g v w u = f_Mod_fail (zsI g 333 2 0) 1) → zw (f_L_by h v w u) fun x => zw (f_Mod_by x.2 v w u) fun y => yEnd x y := by
    intro h1 h2
    unfold f_L_by
    refine yBad (f := fun g => f_Mod_by g v w u) (c := 1) (m := 1) ho hc hr ⟨_, h1 h hc, h, rfl, zfm.rfl', hc⟩ ?_ (fun g hg => ?_) (Or.inl rfl)
    · intro g
      rfl
    · show zw (f_Mod_by g v w u) _
      rw [h2 g (code_r hg).1]
      exact yFail hg (c := 1)
  rcases yneg u with hu | ⟨l, hl, rfl⟩
  · refine bad (fun g hg => ?_) (fun g hg => ?_)
    · unfold f_Main_by
      rw [needLine_neg hg hu]
      rfl
    · unfold f_Mod_by
      rw [Option.bind_some, lines_neg ho.1 hg.1 hu]
      rfl
  · by_cases hlL : l < yLs (gN S)
    · -- the fault
      have main : ∀ f, f ≤ 2 * yLs (gN S) → w = zfj f → (∀ g, yIc g S → f_Main_by g v w (zJ l) = f_Main_by_j15 g v w (zJ l)) → (∀ g, yIr (zsI g 333 2 0) S → f_Mod_by g v w (zJ l) = f_Mod_by_j32 (zsI g 333 2 0) v w (zJ l)) → zw (f_L_by h v w (zJ l)) fun x => zw (f_Mod_by x.2 v w (zJ l)) fun y => yEnd x y := by
        rintro f hf rfl h1 h2
        have bad2 : (v < 0 ∨ ∃ q, q < 2147483648 ∧ v = zJ q ∧ ¬ q < 3 ^ yI (gN S)) → zw (f_L_by h v (zfj f) (zJ l)) fun x => zw (f_Mod_by x.2 v (zfj f) (zJ l)) fun y => yEnd x y := by
          intro hb
          unfold f_L_by
          refine yBad (f := fun g => f_Mod_by g v (zfj f) (zJ l)) (c := 2) (m := 2) ho hc hr ⟨_, (h1 h hc).trans ((by15_c ho hc hf hlL).2 hb), h, rfl, zfm.rfl', hc⟩ ?_ (fun g hg => ?_) (Or.inr rfl)
          · intro g
            rfl
          · show zw (f_Mod_by g v (zfj f) (zJ l)) _
            obtain ⟨hg1, q1, z1⟩ := code_r hg
            rw [h2 g hg1]
            exact (by32_r ho hg1 q1 z1 hf hlL).2 hb
        rcases yneg v with hv | ⟨q, hq, rfl⟩
        · exact bad2 (Or.inl hv)
        · by_cases hq2 : q < 3 ^ yI (gN S)
          · unfold f_L_by
            refine yGood (f := fun g => f_Mod_by g (zJ q) (zfj f) (zJ l)) (v := zJ (zvl (yE (gN S)) (ybd q) f l)) ho hr ?_ (fun g hg => ?_)
            · rw [h1 h hc]
              exact (by15_c ho hc hf hlL).1 q hq rfl hq2
            · show zw (f_Mod_by g (zJ q) (zfj f) (zJ l)) _
              obtain ⟨hg1, q1, z1⟩ := code_r hg
              rw [h2 g hg1]
              exact (by32_r ho hg1 q1 z1 hf hlL).1 q hq rfl hq2
          · exact bad2 (Or.inr ⟨q, hq, rfl, hq2⟩)
      by_cases hw1 : w = -1
      · refine main 0 (Nat.zero_le _) (by rw [zfj_0]; exact hw1) (fun g hg => ?_) (fun g hg => ?_)
        · unfold f_Main_by
          rw [needLine_in ho hg hl, if_pos hlL, Option.bind_some]
          dsimp only [Sum.elim]
          rw [if_pos hw1]
        · unfold f_Mod_by
          rw [Option.bind_some, lines_in ho.1 hg.1 hl, Option.bind_some, decide_eq_true hlL, if_neg (by decide), if_pos hw1]
      · rcases yneg w with hw | ⟨f, hf, rfl⟩
        · refine bad (fun g hg => ?_) (fun g hg => ?_)
          · unfold f_Main_by
            rw [needLine_in ho hg hl, if_pos hlL, Option.bind_some]
            dsimp only [Sum.elim]
            rw [if_neg hw1, needFault_neg hw]
            rfl
          · unfold f_Mod_by
            rw [Option.bind_some, lines_in ho.1 hg.1 hl, Option.bind_some, decide_eq_true hlL, if_neg (by decide), if_neg hw1, faults_neg ho.1 hg.1 hw]
            rfl
        · by_cases hfF : f < 2 * yLs (gN S)
          · refine main (f + 1) (by omega) rfl (fun g hg => ?_) (fun g hg => ?_)
            · unfold f_Main_by
              rw [needLine_in ho hg hl, if_pos hlL, Option.bind_some]
              dsimp only [Sum.elim]
              rw [if_neg hw1, needFault_in ho hg hf, if_pos hfF, Option.bind_some]
              rfl
            · unfold f_Mod_by
              rw [Option.bind_some, lines_in ho.1 hg.1 hl, Option.bind_some, decide_eq_true hlL, if_neg (by decide), if_neg hw1, faults_in ho.1 hg.1 hf, Option.bind_some, decide_eq_true hfF, if_pos (by decide)]
          · refine bad (fun g hg => ?_) (fun g hg => ?_)
            · unfold f_Main_by
              rw [needLine_in ho hg hl, if_pos hlL, Option.bind_some]
              dsimp only [Sum.elim]
              rw [if_neg hw1, needFault_in ho hg hf, if_neg hfF]
              rfl
            · unfold f_Mod_by
              rw [Option.bind_some, lines_in ho.1 hg.1 hl, Option.bind_some, decide_eq_true hlL, if_neg (by decide), if_neg hw1, faults_in ho.1 hg.1 hf, Option.bind_some, decide_eq_false hfF, if_neg (by decide)]
              rfl
    · refine bad (fun g hg => ?_) (fun g hg => ?_)
      · unfold f_Main_by
        rw [needLine_in ho hg hl, if_neg hlL]
        rfl
      · unfold f_Mod_by
        rw [Option.bind_some, lines_in ho.1 hg.1 hl, Option.bind_some, decide_eq_false hlL, if_pos (by decide)]
        rfl
