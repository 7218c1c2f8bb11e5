/-! ===== the reference's tests ===== -/
/-- seen lines -/
def zRS (h : zH) (n : Nat) (sb : Nat → Bool) : Prop := ∀ l, l < n → ∃ c, c ≤ 3 ∧ h.1 340 l = zJ c ∧ sb l = decide (0 < c)
theorem zRS.fr {L : List (Nat × Nat × Nat × Nat)} {h h' : zH} {n : Nat} {sb : Nat → Bool} (hr : zRS h n sb) (q : zfm L h h') (hd : ∀ k, zin L 340 k = false) : zRS h' n sb := by
  unfold zRS
  rw [q.ir hd]
  exact hr
theorem putRow_r {h : zH} {e : zEv} {r : Nat} (he : zEok e) (hr : zRE h e) (hrr : r < 2147483648) : zw (f_Mod_putRow h (zJ r)) fun h' => zfm [(350, 350, 0, 9999)] h h' ∧ ∀ i, i < e.1 → h'.1 350 i = zJ (zrw r i) := by
  obtain ⟨e1, e2, e3, e4⟩ := id he
  unfold f_Mod_putRow
  refine zw_bi (P := fun h' => zfm [(350, 350, 0, 9999)] h h' ∧ ∀ i, i < e.1 → h'.1 350 i = zJ (zrw r i)) (zw_for e.1 (fun k s => s.1 = zJ k ∧ zfm [(350, 350, 0, 9999)] h s.2 ∧ ∀ i, i < k → s.2.1 350 i = zJ (zrw r i)) (by omega) ⟨rfl, zfm.rfl', fun l hl => by omega⟩ ?_) (fun x hx => zw_some hx)
  rintro k ⟨i, g⟩ hk ⟨rfl, hz, hv⟩
  dsimp only at hz hv ⊢
  unfold f_Mod_putRow_b2
  rw [hz.i (o := 336) (k := 0) (zin_n1 (by omega)), hr.1]
  by_cases hkm : k < e.1
  · simp (disch := omega) only [zg_tr, zb_t, zJ_lt, zJ_le, zJ_inj, zJ_ltl, zJ_lel, zJ_eql, zJ_llt, zJ_lle, zJ_leq, zJ_m1, zJ_m1r, zJ_nle_m1, zJ_m1lt, zJ_add, zJ_al, zJ_mull, zJ_c, zJ_mlr, zJ_cl, zJ_sub, zJ_subl, zJ_neg, zJ_divl, zreml, zshl_1, zshr_J, zushr_J, zJ_and1, if_pos, if_neg, Option.bind_some, zI_eq, zI_ne, zI_nk, zI_2, zL_1, zL_eq, zL_ne, zL_nk, zL_22]
    refine zw_some ⟨hkm, rfl, hz.I (zin_1 (by omega) (by omega) (by omega) (by omega)), fun j hj => ?_⟩
    dsimp only
    by_cases hjk : j = k
    · subst hjk
      rw [zI_eq]
      rfl
    · rw [zI_nk hjk, hv j (by omega)]
  · have : k = e.1 := by omega
    subst this
    simp (disch := omega) only [zg_tr, zb_t, zJ_lt, zJ_le, zJ_inj, zJ_ltl, zJ_lel, zJ_eql, zJ_llt, zJ_lle, zJ_leq, zJ_m1, zJ_m1r, zJ_nle_m1, zJ_m1lt, zJ_add, zJ_al, zJ_mull, zJ_c, zJ_mlr, zJ_cl, zJ_sub, zJ_subl, zJ_neg, zJ_divl, zreml, zshl_1, zshr_J, zushr_J, zJ_and1, if_pos, if_neg, Option.bind_some, zI_eq, zI_ne, zI_nk, zI_2, zL_1, zL_eq, zL_ne, zL_nk, zL_22]
    exact zw_some ⟨hz, hv⟩
theorem tellPlain_r {h : zH} {e : zEv} {inp : Nat → Nat} (he : zEok e) (hr : zRE h e) (hi : ∀ i, i < e.1 → h.1 350 i = zJ (inp i) ∧ inp i ≤ 2) : zw (f_Mod_tellPlain h) fun h' => zfm [(351, 352, 0, 9999)] h h' ∧ ∀ l, l < e.2.1 → h'.1 352 l = zJ (zvl e inp 0 l) := by
  obtain ⟨e1, e2, e3, e4⟩ := id he
  unfold f_Mod_tellPlain
  refine zw_bi (tellLines_r (f := 0) he hr (by omega) hi) ?_
  rintro h1 ⟨q1, q2⟩
  refine zw_bi (P := fun h' => zfm [(351, 352, 0, 9999)] h h' ∧ ∀ l, l < e.2.1 → h'.1 352 l = zJ (zvl e inp 0 l)) (zw_for 22 (fun k s => s.1 = zJ k ∧ zfm [(352, 352, 0, 9999)] h1 s.2 ∧ ∀ l, l < k → l < e.2.1 → s.2.1 352 l = zJ (zvl e inp 0 l)) (by omega) ⟨rfl, zfm.rfl', fun l hl => by omega⟩ ?_) (fun x hx => zw_some hx)
  rintro k ⟨i, g⟩ hk ⟨rfl, hz, hv⟩
  dsimp only at hz hv ⊢
  unfold f_Mod_tellPlain_b7
  by_cases hkm : k < 22
  · simp (disch := omega) only [zg_tr, zb_t, zJ_lt, zJ_le, zJ_inj, zJ_ltl, zJ_lel, zJ_eql, zJ_llt, zJ_lle, zJ_leq, zJ_m1, zJ_m1r, zJ_nle_m1, zJ_m1lt, zJ_add, zJ_al, zJ_mull, zJ_c, zJ_mlr, zJ_cl, zJ_sub, zJ_subl, zJ_neg, zJ_divl, zreml, zshl_1, zshr_J, zushr_J, zJ_and1, if_pos, if_neg, Option.bind_some, zI_eq, zI_ne, zI_nk, zI_2, zL_1, zL_eq, zL_ne, zL_nk, zL_22]
    refine zw_some ⟨hkm, rfl, hz.I (zin_1 (by omega) (by omega) (by omega) (by omega)), fun j hj hj2 => ?_⟩
    dsimp only
    by_cases hjk : j = k
    · subst hjk
      rw [zI_eq, hz.i (zin_n1 (by omega)), q2 j hj2]
    · rw [zI_nk hjk, hv j (by omega) hj2]
  · simp (disch := omega) only [zg_tr, zb_t, zJ_lt, zJ_le, zJ_inj, zJ_ltl, zJ_lel, zJ_eql, zJ_llt, zJ_lle, zJ_leq, zJ_m1, zJ_m1r, zJ_nle_m1, zJ_m1lt, zJ_add, zJ_al, zJ_mull, zJ_c, zJ_mlr, zJ_cl, zJ_sub, zJ_subl, zJ_neg, zJ_divl, zreml, zshl_1, zshr_J, zushr_J, zJ_and1, if_pos, if_neg, Option.bind_some, zI_eq, zI_ne, zI_nk, zI_2, zL_1, zL_eq, zL_ne, zL_nk, zL_22]
    exact zw_some ⟨(q1.sub rfl).trans (hz.sub rfl), fun l hl => hv l (by omega) hl⟩
theorem isSeen_r {h : zH} {n l : Nat} {sb : Nat → Bool} (hs : zRS h n sb) (hn : n ≤ 22) (hl : l < n) : f_Mod_isSeen h (zJ l) = some (zbI (sb l)) := by
  obtain ⟨c, hc, h1, h2⟩ := hs l hl
  unfold f_Mod_isSeen
  simp (disch := omega) only [zg_tr, zb_t, zJ_lt, zJ_le, zJ_inj, zJ_ltl, zJ_lel, zJ_eql, zJ_llt, zJ_lle, zJ_leq, zJ_m1, zJ_m1r, zJ_nle_m1, zJ_m1lt, zJ_add, zJ_al, zJ_mull, zJ_c, zJ_mlr, zJ_cl, zJ_sub, zJ_subl, zJ_neg, zJ_divl, zreml, zshl_1, zshr_J, zushr_J, zJ_and1, if_pos, if_neg, Option.bind_some, zI_eq, zI_ne, zI_nk, zI_2, zL_1, zL_eq, zL_ne, zL_nk, zL_22, h1, h2]
  by_cases h0 : 0 < c
  · simp (disch := omega) only [zg_tr, zb_t, zJ_lt, zJ_le, zJ_inj, zJ_ltl, zJ_lel, zJ_eql, zJ_llt, zJ_lle, zJ_leq, zJ_m1, zJ_m1r, zJ_nle_m1, zJ_m1lt, zJ_add, zJ_al, zJ_mull, zJ_c, zJ_mlr, zJ_cl, zJ_sub, zJ_subl, zJ_neg, zJ_divl, zreml, zshl_1, zshr_J, zushr_J, zJ_and1, if_pos, if_neg, Option.bind_some, zI_eq, zI_ne, zI_nk, zI_2, zL_1, zL_eq, zL_ne, zL_nk, zL_22]
    simp [h0, zbI]
  · simp (disch := omega) only [zg_tr, zb_t, zJ_lt, zJ_le, zJ_inj, zJ_ltl, zJ_lel, zJ_eql, zJ_llt, zJ_lle, zJ_leq, zJ_m1, zJ_m1r, zJ_nle_m1, zJ_m1lt, zJ_add, zJ_al, zJ_mull, zJ_c, zJ_mlr, zJ_cl, zJ_sub, zJ_subl, zJ_neg, zJ_divl, zreml, zshl_1, zshr_J, zushr_J, zJ_and1, if_pos, if_neg, Option.bind_some, zI_eq, zI_ne, zI_nk, zI_2, zL_1, zL_eq, zL_ne, zL_nk, zL_22]
    simp [h0, zbI]
/-- caught by inputs -/
def zcl1 (e : zEv) (sb : Nat → Bool) (inp : Nat → Nat) (f l : Nat) : Bool := sb l && (zvl e inp f l != zvl e inp 0 l && (decide (zvl e inp f l < 2) && decide (zvl e inp 0 l < 2)))
def zcg (e : zEv) (sb : Nat → Bool) (inp : Nat → Nat) (f : Nat) : Bool := zex (zcl1 e sb inp f) e.2.1
theorem isCaught_r {h : zH} {e : zEv} {inp : Nat → Nat} {f : Nat} {sb : Nat → Bool} (he : zEok e) (hr : zRE h e) (hs : zRS h e.2.1 sb) (hf : f ≤ 44) (hi : ∀ i, i < e.1 → h.1 350 i = zJ (inp i) ∧ inp i ≤ 2) (hp : ∀ l, l < e.2.1 → h.1 352 l = zJ (zvl e inp 0 l)) : zw (f_Mod_isCaught h (zfj f)) fun x => x.1 = zbI (zcg e sb inp f) ∧ zfm [(351, 351, 0, 9999)] h x.2 := by
  obtain ⟨e1, e2, e3, e4⟩ := id he
  unfold f_Mod_isCaught
  refine zw_bi (tellLines_r he hr hf hi) ?_
  rintro g ⟨q1, q2⟩
  have hrg : zRE g e := hr.fr q1 (fun o k h1 h2 => zin_n1 (by omega))
  have hsg : zRS g e.2.1 sb := hs.fr q1 (fun k => zin_n1 (by omega))
  refine zw_bi (P := fun y => y = zbI (zcg e sb inp f)) (zw_for e.2.1 (fun k s => s = (zbI (zex (zcl1 e sb inp f) k), zJ k)) (by omega) rfl ?_) ?_
  · rintro k s hk rfl
    dsimp only
    unfold f_Mod_isCaught_b9
    rw [lines_r he hrg]
    by_cases hkm : k < e.2.1
    · have v1 := q2 k hkm
      have v2 : g.1 352 k = zJ (zvl e inp 0 k) := (q1.i (zin_n1 (by omega))).trans (hp k hkm)
      have w1 := zvl_le (f := f) he (fun i h1 => (hi i h1).2) _ k (Nat.lt_succ_self k) hkm
      have w2 := zvl_le (f := 0) he (fun i h1 => (hi i h1).2) _ k (Nat.lt_succ_self k) hkm
      simp (disch := omega) only [zg_tr, zb_t, zJ_lt, zJ_le, zJ_inj, zJ_ltl, zJ_lel, zJ_eql, zJ_llt, zJ_lle, zJ_leq, zJ_m1, zJ_m1r, zJ_nle_m1, zJ_m1lt, zJ_add, zJ_al, zJ_mull, zJ_c, zJ_mlr, zJ_cl, zJ_sub, zJ_subl, zJ_neg, zJ_divl, zreml, zshl_1, zshr_J, zushr_J, zJ_and1, if_pos, if_neg, Option.bind_some, zI_eq, zI_ne, zI_nk, zI_2, zL_1, zL_eq, zL_ne, zL_nk, zL_22, isSeen_r hsg (by omega) hkm, v1, v2, zbI_0, f_Mod_isCaught_j69]
      rw [zex_s]
      cases hz : zex (zcl1 e sb inp f) k
      · simp only [not_true, if_false, Bool.false_or]
        unfold zcl1
        cases hsb : sb k
        · exact zw_some ⟨hkm, by simp [zbI, zex_s, hz, zcl1, hsb]⟩
        · simp only [Bool.true_eq_false, if_false]
          by_cases c1 : zvl e inp f k = zvl e inp 0 k
          · simp (disch := omega) only [zg_tr, zb_t, zJ_lt, zJ_le, zJ_inj, zJ_ltl, zJ_lel, zJ_eql, zJ_llt, zJ_lle, zJ_leq, zJ_m1, zJ_m1r, zJ_nle_m1, zJ_m1lt, zJ_add, zJ_al, zJ_mull, zJ_c, zJ_mlr, zJ_cl, zJ_sub, zJ_subl, zJ_neg, zJ_divl, zreml, zshl_1, zshr_J, zushr_J, zJ_and1, if_pos, if_neg, Option.bind_some, zI_eq, zI_ne, zI_nk, zI_2, zL_1, zL_eq, zL_ne, zL_nk, zL_22]
            exact zw_some ⟨hkm, by simp [zbI, zex_s, hz, zcl1, hsb, c1]⟩
          · by_cases c2 : zvl e inp f k < 2
            · by_cases c3 : zvl e inp 0 k < 2
              · simp (disch := omega) only [zg_tr, zb_t, zJ_lt, zJ_le, zJ_inj, zJ_ltl, zJ_lel, zJ_eql, zJ_llt, zJ_lle, zJ_leq, zJ_m1, zJ_m1r, zJ_nle_m1, zJ_m1lt, zJ_add, zJ_al, zJ_mull, zJ_c, zJ_mlr, zJ_cl, zJ_sub, zJ_subl, zJ_neg, zJ_divl, zreml, zshl_1, zshr_J, zushr_J, zJ_and1, if_pos, if_neg, Option.bind_some, zI_eq, zI_ne, zI_nk, zI_2, zL_1, zL_eq, zL_ne, zL_nk, zL_22]
                exact zw_some ⟨hkm, by simp [zbI, zex_s, hz, zcl1, hsb, c1, c2, c3]⟩
              · simp (disch := omega) only [zg_tr, zb_t, zJ_lt, zJ_le, zJ_inj, zJ_ltl, zJ_lel, zJ_eql, zJ_llt, zJ_lle, zJ_leq, zJ_m1, zJ_m1r, zJ_nle_m1, zJ_m1lt, zJ_add, zJ_al, zJ_mull, zJ_c, zJ_mlr, zJ_cl, zJ_sub, zJ_subl, zJ_neg, zJ_divl, zreml, zshl_1, zshr_J, zushr_J, zJ_and1, if_pos, if_neg, Option.bind_some, zI_eq, zI_ne, zI_nk, zI_2, zL_1, zL_eq, zL_ne, zL_nk, zL_22]
                exact zw_some ⟨hkm, by simp [zbI, zex_s, hz, zcl1, hsb, c1, c2, c3]⟩
            · simp (disch := omega) only [zg_tr, zb_t, zJ_lt, zJ_le, zJ_inj, zJ_ltl, zJ_lel, zJ_eql, zJ_llt, zJ_lle, zJ_leq, zJ_m1, zJ_m1r, zJ_nle_m1, zJ_m1lt, zJ_add, zJ_al, zJ_mull, zJ_c, zJ_mlr, zJ_cl, zJ_sub, zJ_subl, zJ_neg, zJ_divl, zreml, zshl_1, zshr_J, zushr_J, zJ_and1, if_pos, if_neg, Option.bind_some, zI_eq, zI_ne, zI_nk, zI_2, zL_1, zL_eq, zL_ne, zL_nk, zL_22]
              exact zw_some ⟨hkm, by simp [zbI, zex_s, hz, zcl1, hsb, c1, c2]⟩
      · exact zw_some ⟨hkm, by simp [zbI, zex_s, hz]⟩
    · have : k = e.2.1 := by omega
      subst this
      simp (disch := omega) only [zg_tr, zb_t, zJ_lt, zJ_le, zJ_inj, zJ_ltl, zJ_lel, zJ_eql, zJ_llt, zJ_lle, zJ_leq, zJ_m1, zJ_m1r, zJ_nle_m1, zJ_m1lt, zJ_add, zJ_al, zJ_mull, zJ_c, zJ_mlr, zJ_cl, zJ_sub, zJ_subl, zJ_neg, zJ_divl, zreml, zshl_1, zshr_J, zushr_J, zJ_and1, if_pos, if_neg, Option.bind_some, zI_eq, zI_ne, zI_nk, zI_2, zL_1, zL_eq, zL_ne, zL_nk, zL_22]
      exact zw_some rfl
  · rintro y rfl
    rw [zbI_bo]
    exact zw_some ⟨rfl, q1⟩
