/-! ===== taken ===== -/
def ytb (N : yN) (inp f i : Nat) : Nat := if yTk N i = 0 then zrw inp i else zvl (yE N) (zrw inp) f (yTk N i - 1)
def ytk (N : yN) (inp f : Nat) : Nat := yrn (ytb N inp f) (yI N)
theorem ytb_lt {N : yN} {inp f i : Nat} (hn : yOKn N) (hi : i < yI N) : ytb N inp f i < 2 := by
  obtain ⟨he, -, -, -, n5, -⟩ := hn
  unfold ytb
  split
  · exact zrw_lt
  · have h5 : yTk N i ≤ yLs N := (n5 i hi).2
    exact zvl_lt2 he (fun i _ => zrw_lt) _ _ (Nat.lt_succ_self _) (by show yTk N i - 1 < yLs N; omega)
theorem ytk_lt {N : yN} {inp f : Nat} (hn : yOKn N) : ytk N inp f < 2 ^ yI N := yrn_lt fun i hi => ytb_lt hn hi
theorem wbit_bits {x : Int32} {i b : Nat} (hi : i < 32) (hb : b < 2) : ∀ j, j < 32 → zBi ((x &&& (zshl 1 (zJ i) ^^^ (-1))) ||| zshl (zJ b) (zJ i)) j = if j = i then (b == 1) else zBi x j := by
  obtain ⟨y, hy, hq⟩ := withBit_c (x := x) hi hb
  unfold f_Main_withBit at hy
  cases hy
  exact hq
/-- the bits while it is taken -/
def yTkB (N : yN) (inp f k : Nat) (x : Int32) : Prop := ∀ j, j < 32 → zBi x j = (decide (j < yI N) && ((if j < k then ytb N inp f j else zrw inp j) == 1))
theorem yTkB_0 {N : yN} {inp f : Nat} (hn : yOKn N) (hinp : inp < 2 ^ yI N) : yTkB N inp f 0 (zJ inp) := by
  intro j hj
  rw [zJ_bit hj, if_neg (Nat.not_lt_zero j), zrw_bit]
  by_cases hji : j < yI N
  · rw [decide_eq_true hji, Bool.true_and]
  · rw [decide_eq_false hji, Bool.false_and]
    exact Nat.testBit_lt_two_pow (Nat.lt_of_lt_of_le hinp (Nat.pow_le_pow_right (by omega) (by omega)))
theorem yTkB_end {N : yN} {inp f : Nat} {x : Int32} (hn : yOKn N) (h : yTkB N inp f (yI N) x) : x = zJ (ytk N inp f) := by
  apply zBi_ext
  intro j hj
  rw [h j hj, zJ_bit hj]
  unfold ytk
  rw [yrn_bit (fun i hi => ytb_lt hn hi)]
  by_cases hji : j < yI N
  · rw [if_pos hji]
  · simp [hji]
theorem yTkB_same {N : yN} {inp f k : Nat} {x : Int32} (h : yTkB N inp f k x) (hk : yTk N k = 0) : yTkB N inp f (k + 1) x := by
  intro j hj
  rw [h j hj]
  by_cases hjk : j = k
  · subst hjk
    rw [if_neg (Nat.lt_irrefl j), if_pos (Nat.lt_succ_self j)]
    unfold ytb
    rw [if_pos hk]
  · by_cases hlt : j < k
    · rw [if_pos hlt, if_pos (by omega)]
    · rw [if_neg hlt, if_neg (by omega)]
theorem yTkB_next {N : yN} {inp f k : Nat} {x y : Int32} (hk : k < yI N) (h : yTkB N inp f k x) (hy : ∀ j, j < 32 → zBi y j = if j = k then (ytb N inp f k == 1) else zBi x j) : yTkB N inp f (k + 1) y := by
  intro j hj
  rw [hy j hj]
  by_cases hjk : j = k
  · subst hjk
    rw [if_pos rfl, if_pos (Nat.lt_succ_self j), decide_eq_true hk, Bool.true_and]
  · rw [if_neg hjk, h j hj]
    by_cases hlt : j < k
    · rw [if_pos hlt, if_pos (by omega)]
    · rw [if_neg hlt, if_neg (by omega)]
theorem inputsTaken_c {h : zH} {N : yN} {o inp f : Nat} (hn : yOKn N) (hc : yCAT h (yE N) (ySb N)) (hw : yCN h o N) (hinp : inp < 2 ^ yI N) (hf : f ≤ 2 * yLs N) : zw (f_Catalog_inputsTaken o h (zJ inp) (zfj f)) fun x => x = zJ (ytk N inp f) := by
  obtain ⟨⟨e1, e2, e3, e4⟩, -, -, -, n5, -⟩ := id hn
  have e1' : yI N ≤ 6 := e1
  have e3' : yLs N ≤ yI N + 16 := e3
  have r0 : h.1 o 0 = zJ (yI N) := hw.1.1
  unfold f_Catalog_inputsTaken
  refine zw_bi (P := fun x => x = zJ (ytk N inp f)) (zw_for (yI N) (fun k s => s.2 = zJ k ∧ yTkB N inp f k s.1) (by omega) ⟨rfl, yTkB_0 hn hinp⟩ ?_) (fun x hx => zw_some hx)
  rintro k ⟨a, i⟩ hk ⟨rfl, hv⟩
  dsimp only at hv ⊢
  unfold f_Catalog_inputsTaken_b6
  by_cases hkm : k < yI N
  · have h5 : yTk N k ≤ yLs N := (n5 k hkm).2
    have htk := (hw.2.2.2.2.2.2.2 k hkm).2
    simp (disch := omega) only [zg_tr, zb_t, zJ_lt, zJ_le, zJ_inj, zJ_ltl, zJ_lel, zJ_eql, zJ_llt, zJ_lle, zJ_leq, zJ_m1, zJ_m1r, zJ_nle_m1, zJ_m1lt, zJ_add, zJ_al, zJ_mull, zJ_c, zJ_mlr, zJ_cl, zJ_sub, zJ_subl, zJ_neg, zJ_divl, zreml, zshl_1, zshr_J, zushr_J, zJ_and1, if_pos, if_neg, Option.bind_some, zI_eq, zI_ne, zI_nk, zI_2, zL_1, zL_eq, zL_ne, zL_nk, zL_22, r0, htk]
    by_cases h0 : yTk N k = 0
    · rw [h0, zfj_0, if_pos rfl]
      exact zw_some ⟨hkm, rfl, yTkB_same hv h0⟩
    · obtain ⟨l, hl⟩ : ∃ l, yTk N k = l + 1 := ⟨yTk N k - 1, by omega⟩
      rw [hl, zfj_s]
      simp (disch := omega) only [zg_tr, zb_t, zJ_lt, zJ_le, zJ_inj, zJ_ltl, zJ_lel, zJ_eql, zJ_llt, zJ_lle, zJ_leq, zJ_m1, zJ_m1r, zJ_nle_m1, zJ_m1lt, zJ_add, zJ_al, zJ_mull, zJ_c, zJ_mlr, zJ_cl, zJ_sub, zJ_subl, zJ_neg, zJ_divl, zreml, zshl_1, zshr_J, zushr_J, zJ_and1, if_pos, if_neg, Option.bind_some, zI_eq, zI_ne, zI_nk, zI_2, zL_1, zL_eq, zL_ne, zL_nk, zL_22, tell_c hn hc hf (show l < yLs N by omega) hinp]
      rw [if_neg (fun h => h)]
      have hb : zvl (yE N) (zrw inp) f l = ytb N inp f k := by
        unfold ytb
        rw [if_neg h0, hl, Nat.add_sub_cancel]
      have hlt := ytb_lt (inp := inp) (f := f) hn hkm
      rw [hb]
      refine zw_bi (withBit_c (by omega) hlt) ?_
      intro y hy
      exact zw_some ⟨hkm, rfl, yTkB_next hkm hv hy⟩
  · have : k = yI N := by omega
    subst this
    simp (disch := omega) only [zg_tr, zb_t, zJ_lt, zJ_le, zJ_inj, zJ_ltl, zJ_lel, zJ_eql, zJ_llt, zJ_lle, zJ_leq, zJ_m1, zJ_m1r, zJ_nle_m1, zJ_m1lt, zJ_add, zJ_al, zJ_mull, zJ_c, zJ_mlr, zJ_cl, zJ_sub, zJ_subl, zJ_neg, zJ_divl, zreml, zshl_1, zshr_J, zushr_J, zJ_and1, if_pos, if_neg, Option.bind_some, zI_eq, zI_ne, zI_nk, zI_2, zL_1, zL_eq, zL_ne, zL_nk, zL_22, r0]
    exact zw_some (yTkB_end hn hv)
theorem taken_r {h : zH} {N : yN} {inp f : Nat} (hn : yOKn N) (hr : yRN h N) (hinp : inp < 2 ^ yI N) (hf : f ≤ 2 * yLs N) : zw (f_Mod_taken h (zJ inp) (zfj f)) fun y => y.1 = zJ (ytk N inp f) ∧ zfm [(350, 351, 0, 9999)] h y.2 := by
  obtain ⟨⟨e1, e2, e3, e4⟩, -, -, -, n5, -⟩ := id hn
  have e1' : yI N ≤ 6 := e1
  have e3' : yLs N ≤ yI N + 16 := e3
  have h64 := zpw6 e1'
  unfold f_Mod_taken
  refine zw_bi (putRow_r hn.1 hr.1 (by omega)) ?_
  rintro g1 ⟨q1, q2⟩
  refine zw_bi (tellLines_r (inp := zrw inp) hn.1 (hr.1.fr q1 (fun o k h1 h2 => zin_n1 (by omega))) (by omega) (fun i hi => ⟨q2 i hi, zrw_le⟩)) ?_
  rintro g2 ⟨q3, q4⟩
  have qq : zfm [(350, 351, 0, 9999)] h g2 := (q1.sub rfl).tr q3 rfl
  have hrg : yRN g2 N := hr.fr qq (fun a k h1 h2 => zin_n1 (by omega))
  have r0 : g2.1 336 0 = zJ (yI N) := hrg.1.1
  refine zw_bi (P := fun x => x = zJ (ytk N inp f)) (zw_for (yI N) (fun k s => s.2 = zJ k ∧ yTkB N inp f k s.1) (by omega) ⟨rfl, yTkB_0 hn hinp⟩ ?_) ?_
  · rintro k ⟨a, i⟩ hk ⟨rfl, hv⟩
    dsimp only at hv ⊢
    unfold f_Mod_taken_b15
    by_cases hkm : k < yI N
    · have h5 : yTk N k ≤ yLs N := (n5 k hkm).2
      have htk := (hrg.2.2.2.2.2.2.2 k hkm).2
      simp (disch := omega) only [zg_tr, zb_t, zJ_lt, zJ_le, zJ_inj, zJ_ltl, zJ_lel, zJ_eql, zJ_llt, zJ_lle, zJ_leq, zJ_m1, zJ_m1r, zJ_nle_m1, zJ_m1lt, zJ_add, zJ_al, zJ_mull, zJ_c, zJ_mlr, zJ_cl, zJ_sub, zJ_subl, zJ_neg, zJ_divl, zreml, zshl_1, zshr_J, zushr_J, zJ_and1, if_pos, if_neg, Option.bind_some, zI_eq, zI_ne, zI_nk, zI_2, zL_1, zL_eq, zL_ne, zL_nk, zL_22, r0, htk]
      by_cases h0 : yTk N k = 0
      · rw [h0, zfj_0, if_pos rfl]
        exact zw_some ⟨hkm, rfl, yTkB_same hv h0⟩
      · obtain ⟨l, hl⟩ : ∃ l, yTk N k = l + 1 := ⟨yTk N k - 1, by omega⟩
        rw [hl, zfj_s]
        have hb : zvl (yE N) (zrw inp) f l = ytb N inp f k := by
          unfold ytb
          rw [if_neg h0, hl, Nat.add_sub_cancel]
        have hlt := ytb_lt (inp := inp) (f := f) hn hkm
        have h4 : g2.1 351 l = zJ (ytb N inp f k) := by rw [q4 l (by show l < yLs N; omega), hb]
        rw [if_neg (by rw [zJ_m1 (by omega)]; exact fun h => h), zJ_c (by omega), zb_t (by omega) (by omega), zg_tr, h4]
        have hwb := wbit_bits (x := a) (i := k) (b := ytb N inp f k) (by omega) hlt
        rw [zshl_1 (by omega)] at hwb
        exact zw_some ⟨hkm, rfl, yTkB_next hkm hv hwb⟩
    · have : k = yI N := by omega
      subst this
      simp (disch := omega) only [zg_tr, zb_t, zJ_lt, zJ_le, zJ_inj, zJ_ltl, zJ_lel, zJ_eql, zJ_llt, zJ_lle, zJ_leq, zJ_m1, zJ_m1r, zJ_nle_m1, zJ_m1lt, zJ_add, zJ_al, zJ_mull, zJ_c, zJ_mlr, zJ_cl, zJ_sub, zJ_subl, zJ_neg, zJ_divl, zreml, zshl_1, zshr_J, zushr_J, zJ_and1, if_pos, if_neg, Option.bind_some, zI_eq, zI_ne, zI_nk, zI_2, zL_1, zL_eq, zL_ne, zL_nk, zL_22, r0]
      exact zw_some (yTkB_end hn hv)
  · rintro x rfl
    exact zw_some ⟨rfl, qq⟩
/-- the machine behind a taking -/
def ysT (N : yN) (s : yS) : yS := (ytk N s.1 s.2.2.1, s.2.1 + 1, s.2.2)
theorem ysT_ok {N : yN} {s : yS} (hn : yOKn N) (h : yOKs N s) : yOKs N (ysT N s) := ⟨ytk_lt hn, h.2⟩
theorem takeLines_c {h : zH} {N : yN} {o w : Nat} {s : yS} (hn : yOKn N) (hs : yOKs N s) (hc : yCAT h (yE N) (ySb N)) (hw : yCN h w N) (h1 : yCSt h o s) : zw (f_State_takeLines o w h) fun g => zfm [(o, o, 0, 1)] h g ∧ yCSt g o (ysT N s) := by
  obtain ⟨s1, s2, s3, s4, s5, s6, s7⟩ := h1
  obtain ⟨o1, o2, -⟩ := hs
  unfold f_State_takeLines
  rw [s1, s3]
  refine zw_bi (inputsTaken_c hn hc hw o1 o2) ?_
  rintro x rfl
  simp (disch := omega) only [zg_tr, zb_t, zJ_lt, zJ_le, zJ_inj, zJ_ltl, zJ_lel, zJ_eql, zJ_llt, zJ_lle, zJ_leq, zJ_m1, zJ_m1r, zJ_nle_m1, zJ_m1lt, zJ_add, zJ_al, zJ_mull, zJ_c, zJ_mlr, zJ_cl, zJ_sub, zJ_subl, zJ_neg, zJ_divl, zreml, zshl_1, zshr_J, zushr_J, zJ_and1, if_pos, if_neg, Option.bind_some, zI_eq, zI_ne, zI_nk, zI_2, zL_1, zL_eq, zL_ne, zL_nk, zL_22, s2]
  refine zw_some ⟨(zfm.rfl'.I (zin_1 (by omega) (by omega) (by omega) (by omega))).I (zin_1 (by omega) (by omega) (by omega) (by omega)), ?_, zI_eq, ?_, ?_, ?_, fun j hj => ?_, fun f hf => s7 f hf⟩
  · simp (disch := omega) only [zg_tr, zb_t, zJ_lt, zJ_le, zJ_inj, zJ_ltl, zJ_lel, zJ_eql, zJ_llt, zJ_lle, zJ_leq, zJ_m1, zJ_m1r, zJ_nle_m1, zJ_m1lt, zJ_add, zJ_al, zJ_mull, zJ_c, zJ_mlr, zJ_cl, zJ_sub, zJ_subl, zJ_neg, zJ_divl, zreml, zshl_1, zshr_J, zushr_J, zJ_and1, if_pos, if_neg, Option.bind_some, zI_eq, zI_ne, zI_nk, zI_2, zL_1, zL_eq, zL_ne, zL_nk, zL_22]
    rfl
  · simp (disch := omega) only [zg_tr, zb_t, zJ_lt, zJ_le, zJ_inj, zJ_ltl, zJ_lel, zJ_eql, zJ_llt, zJ_lle, zJ_leq, zJ_m1, zJ_m1r, zJ_nle_m1, zJ_m1lt, zJ_add, zJ_al, zJ_mull, zJ_c, zJ_mlr, zJ_cl, zJ_sub, zJ_subl, zJ_neg, zJ_divl, zreml, zshl_1, zshr_J, zushr_J, zJ_and1, if_pos, if_neg, Option.bind_some, zI_eq, zI_ne, zI_nk, zI_2, zL_1, zL_eq, zL_ne, zL_nk, zL_22]
    exact s3
  · simp (disch := omega) only [zg_tr, zb_t, zJ_lt, zJ_le, zJ_inj, zJ_ltl, zJ_lel, zJ_eql, zJ_llt, zJ_lle, zJ_leq, zJ_m1, zJ_m1r, zJ_nle_m1, zJ_m1lt, zJ_add, zJ_al, zJ_mull, zJ_c, zJ_mlr, zJ_cl, zJ_sub, zJ_subl, zJ_neg, zJ_divl, zreml, zshl_1, zshr_J, zushr_J, zJ_and1, if_pos, if_neg, Option.bind_some, zI_eq, zI_ne, zI_nk, zI_2, zL_1, zL_eq, zL_ne, zL_nk, zL_22]
    exact s4
  · simp (disch := omega) only [zg_tr, zb_t, zJ_lt, zJ_le, zJ_inj, zJ_ltl, zJ_lel, zJ_eql, zJ_llt, zJ_lle, zJ_leq, zJ_m1, zJ_m1r, zJ_nle_m1, zJ_m1lt, zJ_add, zJ_al, zJ_mull, zJ_c, zJ_mlr, zJ_cl, zJ_sub, zJ_subl, zJ_neg, zJ_divl, zreml, zshl_1, zshr_J, zushr_J, zJ_and1, if_pos, if_neg, Option.bind_some, zI_eq, zI_ne, zI_nk, zI_2, zL_1, zL_eq, zL_ne, zL_nk, zL_22]
    exact s5
  · simp (disch := omega) only [zg_tr, zb_t, zJ_lt, zJ_le, zJ_inj, zJ_ltl, zJ_lel, zJ_eql, zJ_llt, zJ_lle, zJ_leq, zJ_m1, zJ_m1r, zJ_nle_m1, zJ_m1lt, zJ_add, zJ_al, zJ_mull, zJ_c, zJ_mlr, zJ_cl, zJ_sub, zJ_subl, zJ_neg, zJ_divl, zreml, zshl_1, zshr_J, zushr_J, zJ_and1, if_pos, if_neg, Option.bind_some, zI_eq, zI_ne, zI_nk, zI_2, zL_1, zL_eq, zL_ne, zL_nk, zL_22]
    exact s6 j hj
theorem takeNow_r {h : zH} {N : yN} {s : yS} (hn : yOKn N) (hs : yOKs N s) (hr : yRN h N) (h1 : yRSt (h.1 347) 0 s) : zw (f_Mod_takeNow h) fun g => zfm [(347, 347, 0, 1), (350, 351, 0, 9999)] h g ∧ yRSt (g.1 347) 0 (ysT N s) := by
  obtain ⟨s1, s2, s3, s4, s5, s6, s7⟩ := h1
  simp only [Nat.zero_add] at s1 s2 s3 s4 s5 s6 s7
  obtain ⟨o1, o2, -⟩ := hs
  unfold f_Mod_takeNow
  rw [s1, s3]
  refine zw_bi (taken_r hn hr o1 o2) ?_
  rintro ⟨x, g⟩ ⟨rfl, q⟩
  dsimp only at q ⊢
  have e : g.1 347 = h.1 347 := q.ir (fun _ => rfl)
  rw [← e] at s2 s3 s4 s5 s6 s7
  simp (disch := omega) only [zg_tr, zb_t, zJ_lt, zJ_le, zJ_inj, zJ_ltl, zJ_lel, zJ_eql, zJ_llt, zJ_lle, zJ_leq, zJ_m1, zJ_m1r, zJ_nle_m1, zJ_m1lt, zJ_add, zJ_al, zJ_mull, zJ_c, zJ_mlr, zJ_cl, zJ_sub, zJ_subl, zJ_neg, zJ_divl, zreml, zshl_1, zshr_J, zushr_J, zJ_and1, if_pos, if_neg, Option.bind_some, zI_eq, zI_ne, zI_nk, zI_2, zL_1, zL_eq, zL_ne, zL_nk, zL_22, s2]
  refine zw_some ⟨((q.sub rfl).I (by rfl)).I (by rfl), ?_, zI_eq, ?_, ?_, ?_, fun j hj => ?_, fun f hf => ?_⟩
  · simp (disch := omega) only [zg_tr, zb_t, zJ_lt, zJ_le, zJ_inj, zJ_ltl, zJ_lel, zJ_eql, zJ_llt, zJ_lle, zJ_leq, zJ_m1, zJ_m1r, zJ_nle_m1, zJ_m1lt, zJ_add, zJ_al, zJ_mull, zJ_c, zJ_mlr, zJ_cl, zJ_sub, zJ_subl, zJ_neg, zJ_divl, zreml, zshl_1, zshr_J, zushr_J, zJ_and1, if_pos, if_neg, Option.bind_some, zI_eq, zI_ne, zI_nk, zI_2, zL_1, zL_eq, zL_ne, zL_nk, zL_22]
    rfl
  · simp (disch := omega) only [zg_tr, zb_t, zJ_lt, zJ_le, zJ_inj, zJ_ltl, zJ_lel, zJ_eql, zJ_llt, zJ_lle, zJ_leq, zJ_m1, zJ_m1r, zJ_nle_m1, zJ_m1lt, zJ_add, zJ_al, zJ_mull, zJ_c, zJ_mlr, zJ_cl, zJ_sub, zJ_subl, zJ_neg, zJ_divl, zreml, zshl_1, zshr_J, zushr_J, zJ_and1, if_pos, if_neg, Option.bind_some, zI_eq, zI_ne, zI_nk, zI_2, zL_1, zL_eq, zL_ne, zL_nk, zL_22]
    exact s3
  · simp (disch := omega) only [zg_tr, zb_t, zJ_lt, zJ_le, zJ_inj, zJ_ltl, zJ_lel, zJ_eql, zJ_llt, zJ_lle, zJ_leq, zJ_m1, zJ_m1r, zJ_nle_m1, zJ_m1lt, zJ_add, zJ_al, zJ_mull, zJ_c, zJ_mlr, zJ_cl, zJ_sub, zJ_subl, zJ_neg, zJ_divl, zreml, zshl_1, zshr_J, zushr_J, zJ_and1, if_pos, if_neg, Option.bind_some, zI_eq, zI_ne, zI_nk, zI_2, zL_1, zL_eq, zL_ne, zL_nk, zL_22]
    exact s4
  · simp (disch := omega) only [zg_tr, zb_t, zJ_lt, zJ_le, zJ_inj, zJ_ltl, zJ_lel, zJ_eql, zJ_llt, zJ_lle, zJ_leq, zJ_m1, zJ_m1r, zJ_nle_m1, zJ_m1lt, zJ_add, zJ_al, zJ_mull, zJ_c, zJ_mlr, zJ_cl, zJ_sub, zJ_subl, zJ_neg, zJ_divl, zreml, zshl_1, zshr_J, zushr_J, zJ_and1, if_pos, if_neg, Option.bind_some, zI_eq, zI_ne, zI_nk, zI_2, zL_1, zL_eq, zL_ne, zL_nk, zL_22]
    exact s5
  · rw [Nat.zero_add]
    simp (disch := omega) only [zg_tr, zb_t, zJ_lt, zJ_le, zJ_inj, zJ_ltl, zJ_lel, zJ_eql, zJ_llt, zJ_lle, zJ_leq, zJ_m1, zJ_m1r, zJ_nle_m1, zJ_m1lt, zJ_add, zJ_al, zJ_mull, zJ_c, zJ_mlr, zJ_cl, zJ_sub, zJ_subl, zJ_neg, zJ_divl, zreml, zshl_1, zshr_J, zushr_J, zJ_and1, if_pos, if_neg, Option.bind_some, zI_eq, zI_ne, zI_nk, zI_2, zL_1, zL_eq, zL_ne, zL_nk, zL_22]
    exact s6 j hj
  · rw [Nat.zero_add]
    simp (disch := omega) only [zg_tr, zb_t, zJ_lt, zJ_le, zJ_inj, zJ_ltl, zJ_lel, zJ_eql, zJ_llt, zJ_lle, zJ_leq, zJ_m1, zJ_m1r, zJ_nle_m1, zJ_m1lt, zJ_add, zJ_al, zJ_mull, zJ_c, zJ_mlr, zJ_cl, zJ_sub, zJ_subl, zJ_neg, zJ_divl, zreml, zshl_1, zshr_J, zushr_J, zJ_and1, if_pos, if_neg, Option.bind_some, zI_eq, zI_ne, zI_nk, zI_2, zL_1, zL_eq, zL_ne, zL_nk, zL_22]
    exact s7 f hf
theorem q_take {h : zH} (hi : yInv h) : zw (f_Main_take h) fun x => zw (f_Mod_take x.2) fun y => x.1 = y.1 ∧ yInv y.2 := by
  obtain ⟨S, ho, hc, hr⟩ := hi
  have ok := ykp_ok ho.2.1
  have hS' : yOK (gset S (ysT (gN S) (gT S).1, (ykp (gT S)).2)) := ho.set ⟨ysT_ok ho.1 ho.2.1.1, ok.2⟩
  refine yBoth0 (f := fun g => f_Mod_take g) (v := zJ (ytk (gN S) (gT S).1.1 (gT S).1.2.2.1)) hS' ?_ (fun g hg => ?_) hr
  · unfold f_Main_take
    refine zw_bi (keep_cc ho hc) ?_
    rintro g ⟨q1, q2, q3⟩
    obtain ⟨⟨W, D, w1, w2, w3, w4⟩, i2, i3, -⟩ := id q2
    rw [w2, zgr_eq]
    refine zw_bi (takeLines_c (s := (gT S).1) ho.1 ho.2.1.1 i2 w4 i3.1) ?_
    rintro g2 ⟨p1, p2⟩
    exact zw_some ⟨p2.1, (q1.sub rfl).tr p1 rfl, q2.mach q3 (p1.sub rfl) p2⟩
  · obtain ⟨hg1, q1, z1⟩ := code_r hg
    show zw (f_Mod_take g) _
    unfold f_Mod_take
    rw [Option.bind_some]
    generalize zsI g 333 2 0 = g0 at *
    refine zw_bi (keep_rr ho hg1) ?_
    rintro g2 ⟨q2, q3, q4⟩
    refine zw_bi (takeNow_r (s := (gT S).1) ho.1 ho.2.1.1 q3.1 q3.2.2.1.1) ?_
    rintro g3 ⟨p1, p2⟩
    exact zw_some ⟨p2.1, (q1.trans q2).tr p1 rfl, q3.mach p1 rfl (fun a k ha => by
      cases hz : zin [(347, 347, 0, 1), (350, 351, 0, 9999)] a k
      · rfl
      · unfold zin at hz
        simp at hz
        omega) rfl rfl p2⟩
theorem q_defect {h : zH} {v : Int32} (hi : yInv h) : zw (f_L_defect h v) fun x => zw (f_Mod_defect x.2 v) fun y => yEnd x y := by
  obtain ⟨S, ho, hc, hr⟩ := hi
  have ok := ykp_ok ho.2.1
  have good : ∀ f, f ≤ 2 * yLs (gN S) → v = zfj f → (∀ g, yIc g S → f_Main_defect g v = f_Main_defect_j10 g v) → (∀ g, yIr (zsI g 333 2 0) S → f_Mod_defect g v = f_Mod_defect_j24 (zsI g 333 2 0) v) → zw (f_L_defect h v) fun x => zw (f_Mod_defect x.2 v) fun y => yEnd x y := by
    rintro f hf rfl h1 h2
    obtain ⟨⟨o1, o2, o3⟩, -⟩ := id ho.2.1
    have hS' : yOK (gset S (((gT S).1.1, (gT S).1.2.1, f, (gT S).1.2.2.2), (ykp (gT S)).2)) := ho.set ⟨⟨o1, hf, o3⟩, ok.2⟩
    unfold f_L_defect
    refine yBoth (f := fun g => f_Mod_defect g (zfj f)) (a := .inl (zfj (gT S).1.2.2.1)) hS' (yLv hS' ?_) (fun g hg => ?_) hr (fun c hc => by cases hc)
    · rw [h1 h hc]
      unfold f_Main_defect_j10
      refine zw_bi (keep_cc ho hc) ?_
      rintro g ⟨q1, q2, q3⟩
      obtain ⟨s1, s2, s3, s4, s5, s6, s7⟩ := id q2.2.2.1.1
      have qm : zfm [(156, 157, 0, 9999)] g (zsI g 156 2 (zfj f)) := zfm.rfl'.I (by rfl)
      rw [Option.bind_some]
      refine zw_some ⟨_, by rw [s3]; rfl, (q1.sub rfl).tr qm rfl, q2.mach q3 qm ⟨?_, ?_, zI_eq, ?_, ?_, fun j hj => ?_, fun f hf => s7 f hf⟩⟩
      · rw [zI_nk (by omega)]; exact s1
      · rw [zI_nk (by omega)]; exact s2
      · rw [zI_nk (by omega)]; exact s4
      · rw [zI_nk (by omega)]; exact s5
      · rw [zI_ne (by omega)]; exact s6 j hj
    · obtain ⟨hg1, q1, z1⟩ := code_r hg
      show zw (f_Mod_defect g (zfj f)) _
      rw [h2 g hg1]
      generalize zsI g 333 2 0 = g0 at *
      unfold f_Mod_defect_j24
      refine zw_bi (keep_rr ho hg1) ?_
      rintro g2 ⟨q2, q3, q4⟩
      obtain ⟨s1, s2, s3, s4, s5, s6, s7⟩ := id q3.2.2.1.1
      simp only [Nat.zero_add] at s1 s2 s3 s4 s5 s6 s7
      have qm : zfm [(347, 347, 0, 9999)] g2 (zsI g2 347 2 (zfj f)) := zfm.rfl'.I (by rfl)
      rw [Option.bind_some]
      refine zw_some ⟨⟨?_, fun w hw => ?_⟩, (q1.trans q2).tr qm rfl, q3.mach qm rfl (fun a k ha => zin_n1 (by omega)) rfl rfl ⟨?_, ?_, zI_eq, ?_, ?_, fun j hj => ?_, fun f hf => ?_⟩⟩
      · exact (qm.i rfl).trans (q4.trans z1)
      · cases hw
        exact s3
      · rw [zI_nk (by omega)]; exact s1
      · rw [zI_nk (by omega)]; exact s2
      · rw [zI_nk (by omega)]; exact s4
      · rw [zI_nk (by omega)]; exact s5
      · rw [zI_nk (by omega), Nat.zero_add]; exact s6 j hj
      · rw [zI_nk (by omega), Nat.zero_add]; exact s7 f hf
  have bad : (∀ g, yIc g S → f_Main_defect g v = some (.inr (1, g))) → (∀ g, yIr (zsI g 333 2 0) S → f_Mod_defect g v = f_Mod_fail (zsI g 333 2 0) 1) → zw (f_L_defect h v) fun x => zw (f_Mod_defect x.2 v) fun y => yEnd x y := by
    intro h1 h2
    unfold f_L_defect
    refine yBad (f := fun g => f_Mod_defect g v) (c := 1) (m := 1) ho hc hr ⟨_, h1 h hc, h, rfl, zfm.rfl', hc⟩ ?_ (fun g hg => ?_) (Or.inl rfl)
    · intro g
      rfl
    · show zw (f_Mod_defect g v) _
      rw [h2 g (code_r hg).1]
      exact yFail hg (c := 1)
  by_cases hv1 : v = -1
  · refine good 0 (Nat.zero_le _) (by rw [zfj_0]; exact hv1) (fun g hg => ?_) (fun g hg => ?_)
    · unfold f_Main_defect
      rw [if_pos hv1]
    · unfold f_Mod_defect
      rw [Option.bind_some, if_pos hv1]
  · rcases yneg v with hv | ⟨f, hf, rfl⟩
    · refine bad (fun g hg => ?_) (fun g hg => ?_)
      · unfold f_Main_defect
        rw [if_neg hv1, needFault_neg hv]
        rfl
      · unfold f_Mod_defect
        rw [Option.bind_some, if_neg hv1, faults_neg ho.1 hg.1 hv]
        rfl
    · by_cases hfF : f < 2 * yLs (gN S)
      · refine good (f + 1) (by omega) rfl (fun g hg => ?_) (fun g hg => ?_)
        · unfold f_Main_defect
          rw [if_neg hv1, needFault_in ho hg hf, if_pos hfF, Option.bind_some]
          rfl
        · unfold f_Mod_defect
          rw [Option.bind_some, if_neg hv1, faults_in ho.1 hg.1 hf, Option.bind_some, decide_eq_true hfF, if_pos (by decide)]
      · refine bad (fun g hg => ?_) (fun g hg => ?_)
        · unfold f_Main_defect
          rw [if_neg hv1, needFault_in ho hg hf, if_neg hfF]
          rfl
        · unfold f_Mod_defect
          rw [Option.bind_some, if_neg hv1, faults_in ho.1 hg.1 hf, Option.bind_some, decide_eq_false hfF, if_neg (by decide)]
          rfl
