/-! ===== order ===== -/
theorem zJ_mul {a b : Nat} : zJ a * zJ b = zJ (a * b) := (Int32.ofNat_mul a b).symm
theorem zJ_addb {c : Nat} {b : Bool} : zJ c + zbI b = zJ (c + if b = true then 1 else 0) := by
  cases b
  · show zJ c + zJ 0 = _
    rw [zJ_add]
    rfl
  · show zJ c + zJ 1 = _
    rw [zJ_add]
    rfl
theorem zbI_x {a b : Bool} : zbI a ^^^ zbI b = zbI (a != b) := by cases a <;> cases b <;> decide
theorem zfj_eqJ {n k : Nat} (hn : n < 2147483648) (hk : k < 2147483648) : zfj n = zJ k ↔ n = k + 1 := by
  cases n with
  | zero =>
    rw [zfj_0]
    constructor
    · intro h
      exact absurd h.symm (fun e => (zJ_m1 hk).mp e)
    · intro h
      omega
  | succ n =>
    rw [zfj_s, zJ_inj (by omega) hk]
    omega
def gap (P : Nat → Nat) (z a b : Nat) : Nat := fb_ct (fun t => (P t).testBit a != (P t).testBit b) z
theorem gap_le {P : Nat → Nat} {z a b : Nat} : gap P z a b ≤ z := fb_ct_le _ _
def gdone (P : Nat → Nat) (z n a b : Nat) (g : zH) : Prop := ∀ a' b', (a' < a ∨ (a' = a ∧ b' < b)) → a' < n → b' < n → g.1 (143 + (1 + 1 * a')) b' = zJ (gap P z a' b')
theorem countApart_c {h : zH} {P : Nat → Nat} {z n : Nat} (hn : n ≤ 6) (hz : z ≤ 44) (h3 : h.1 137 3 = zJ z) (hP : ∀ t, t < z → h.1 138 t = zJ (P t)) : zw (f_Program_countApart h (zJ n)) fun g => zfm [(144, 149, 0, 9999)] h g ∧ ∀ a b, a < n → b < n → g.1 (143 + (1 + 1 * a)) b = zJ (gap P z a b) := by
  unfold f_Program_countApart
  refine zw_bi (P := fun g => zfm [(144, 149, 0, 9999)] h g ∧ gdone P z n n 0 g) (zw_for n (fun a s => s.1 = zJ a ∧ zfm [(144, 149, 0, 9999)] h s.2 ∧ gdone P z n a 0 s.2) (by omega) ⟨rfl, zfm.rfl', fun a b hab => by omega⟩ ?_) (fun g hg => zw_some ⟨hg.1, fun a b ha hb => hg.2 a b (Or.inl ha) ha hb⟩)
  rintro a ⟨a', g⟩ ha ⟨rfl, hz1, hd⟩
  dsimp only at hz1 hd ⊢
  unfold f_Program_countApart_b2
  by_cases han : a < n
  · rw [if_neg (by rw [zJ_le (by omega) (by omega)]; omega)]
    refine zw_bi (P := fun g => zfm [(144, 149, 0, 9999)] h g ∧ gdone P z n (a + 1) 0 g) (zw_for n (fun b s => s.1 = zJ b ∧ zfm [(144, 149, 0, 9999)] h s.2 ∧ gdone P z n a b s.2) (by omega) ⟨rfl, hz1, hd⟩ ?_) ?_
    · rintro b ⟨b', g⟩ hb ⟨rfl, hz2, hd⟩
      dsimp only at hz2 hd ⊢
      unfold f_Program_countApart_b9
      by_cases hbn : b < n
      · rw [if_neg (by rw [zJ_le (by omega) (by omega)]; omega), zb_t (by omega) (by omega), zb_t (by omega) (by omega), zg_tr, zg_tr, Option.bind_some, zJ_c (by omega), zJ_c (by omega)]
        refine zw_bi (P := fun g => zfm [(144, 149, 0, 9999)] h g ∧ gdone P z n a (b + 1) g) (zw_for z (fun t s => s.1 = zJ t ∧ zfm [(144, 149, 0, 9999)] h s.2 ∧ gdone P z n a b s.2 ∧ s.2.1 (143 + (1 + 1 * a)) b = zJ (gap P t a b)) (by omega) ⟨rfl, hz2.I (zin_1 (by omega) (by omega) (by omega) (by omega)), fun a' b' hab h1 h2 => ?_, ?_⟩ ?_) ?_
        · dsimp only
          by_cases e : a' = a
          · subst e
            rw [zI_nk (by omega)]
            exact hd a' b' hab h1 h2
          · rw [zI_ne (by omega)]
            exact hd a' b' hab h1 h2
        · dsimp only
          rw [zI_eq]
          rfl
        · rintro t ⟨t', g⟩ ht ⟨rfl, hz3, hd, hv⟩
          dsimp only at hz3 hd hv ⊢
          unfold f_Program_countApart_b26 f_Main_bitOf
          have e3 : g.1 137 3 = zJ z := (hz3.i (by rfl)).trans h3
          rw [e3]
          by_cases htz : t < z
          · have e4 : g.1 138 t = zJ (P t) := (hz3.i (zin_n1 (by omega))).trans (hP t htz)
            simp (disch := omega) only [zg_tr, zb_t, zJ_lt, zJ_le, zJ_inj, zJ_ltl, zJ_lel, zJ_eql, zJ_llt, zJ_lle, zJ_leq, zJ_m1, zJ_m1r, zJ_nle_m1, zJ_m1lt, zJ_add, zJ_al, zJ_mull, zJ_c, zJ_mlr, zJ_cl, zJ_sub, zJ_subl, zJ_neg, zJ_divl, zreml, zshl_1, zshr_J, zushr_J, zJ_and1, if_pos, if_neg, Option.bind_some, zI_eq, zI_ne, zI_nk, zI_2, zL_1, zL_eq, zL_ne, zL_nk, zL_22, e4]
            rw [bitJ (by omega), bitJ (by omega), hv, zbI_x, zJ_addb]
            refine zw_some ⟨htz, rfl, hz3.I (zin_1 (by omega) (by omega) (by omega) (by omega)), fun a' b' hab h1 h2 => ?_, ?_⟩
            · dsimp only
              by_cases e : a' = a
              · subst e
                rw [zI_nk (by omega)]
                exact hd a' b' hab h1 h2
              · rw [zI_ne (by omega)]
                exact hd a' b' hab h1 h2
            · dsimp only
              rw [zI_eq]
              rfl
          · have : t = z := by omega
            subst this
            rw [if_pos (by rw [zJ_le (by omega) (by omega)]; omega)]
            refine zw_some ⟨hz3, fun a' b' hab h1 h2 => ?_⟩
            by_cases e : a' = a ∧ b' = b
            · obtain ⟨rfl, rfl⟩ := e
              exact hv
            · exact hd a' b' (by omega) h1 h2
        · rintro g ⟨hz4, hd⟩
          rw [zJ_al]
          exact zw_some ⟨hbn, rfl, hz4, hd⟩
      · have : b = n := by omega
        subst this
        rw [if_pos (by rw [zJ_le (by omega) (by omega)]; omega)]
        exact zw_some ⟨hz2, fun a' b' hab h1 h2 => hd a' b' (by omega) h1 h2⟩
    · rintro g ⟨hz4, hd⟩
      rw [zJ_al]
      exact zw_some ⟨han, rfl, hz4, hd⟩
  · have : a = n := by omega
    subst this
    rw [if_pos (by rw [zJ_le (by omega) (by omega)]; omega)]
    exact zw_some ⟨hz1, hd⟩
def gdoner (P : Nat → Nat) (z a b : Nat) (g : zH) : Prop := ∀ a' b', (a' < a ∨ (a' = a ∧ b' < b)) → a' < 6 → b' < 6 → g.1 363 (6 * a' + b') = zJ (gap P z a' b')
theorem tellApart_r {h : zH} {P : Nat → Nat} {z : Nat} (hz : z ≤ 44) (h3 : h.1 333 40 = zJ z) (hP : ∀ t, t < z → h.1 359 t = zJ (P t) ∧ P t < 64) : zw (f_Mod_tellApart h) fun g => zfm [(363, 363, 0, 9999)] h g ∧ ∀ a b, a < 6 → b < 6 → g.1 363 (6 * a + b) = zJ (gap P z a b) := by
  unfold f_Mod_tellApart
  refine zw_bi (P := fun g => zfm [(363, 363, 0, 9999)] h g ∧ gdoner P z 6 0 g) (zw_for 6 (fun a s => s.1 = zJ a ∧ zfm [(363, 363, 0, 9999)] h s.2 ∧ gdoner P z a 0 s.2) (by omega) ⟨rfl, zfm.rfl', fun a b hab => by omega⟩ ?_) (fun g hg => zw_some ⟨hg.1, fun a b ha hb => hg.2 a b (Or.inl ha) ha hb⟩)
  rintro a ⟨a', g⟩ ha ⟨rfl, hz1, hd⟩
  dsimp only at hz1 hd ⊢
  unfold f_Mod_tellApart_b2
  by_cases han : a < 6
  · rw [if_neg (by rw [zJ_lle (n := 6) (by omega) (by decide)]; show ¬ 6 ≤ a; omega)]
    refine zw_bi (P := fun g => zfm [(363, 363, 0, 9999)] h g ∧ gdoner P z (a + 1) 0 g) (zw_for 6 (fun b s => s.1 = zJ b ∧ zfm [(363, 363, 0, 9999)] h s.2 ∧ gdoner P z a b s.2) (by omega) ⟨rfl, hz1, hd⟩ ?_) ?_
    · rintro b ⟨b', g⟩ hb ⟨rfl, hz2, hd⟩
      dsimp only at hz2 hd ⊢
      unfold f_Mod_tellApart_b10
      by_cases hbn : b < 6
      · rw [if_neg (by rw [zJ_lle (n := 6) (by omega) (by decide)]; show ¬ 6 ≤ b; omega)]
        have e6 : (6 : Int32) * zJ a + zJ b = zJ (6 * a + b) := by
          rw [show (6 : Int32) = zJ 6 from rfl, zJ_mul, zJ_add]
        rw [e6, zb_t (by omega) (by omega), zg_tr, Option.bind_some, zJ_c (by omega)]
        refine zw_bi (P := fun g => zfm [(363, 363, 0, 9999)] h g ∧ gdoner P z a (b + 1) g) (zw_for z (fun t s => s.1 = zJ t ∧ zfm [(363, 363, 0, 9999)] h s.2 ∧ gdoner P z a b s.2 ∧ s.2.1 363 (6 * a + b) = zJ (gap P t a b)) (by omega) ⟨rfl, hz2.I (zin_1 (by omega) (by omega) (by omega) (by omega)), fun a' b' hab h1 h2 => ?_, ?_⟩ ?_) ?_
        · dsimp only
          rw [zI_nk (by omega)]
          exact hd a' b' hab h1 h2
        · dsimp only
          rw [zI_eq]
          rfl
        · rintro t ⟨t', g⟩ ht ⟨rfl, hz3, hd, hv⟩
          dsimp only at hz3 hd hv ⊢
          unfold f_Mod_tellApart_b30
          have e3 : g.1 333 40 = zJ z := (hz3.i (by rfl)).trans h3
          rw [e3]
          by_cases htz : t < z
          · obtain ⟨p1, p2⟩ := hP t htz
            have e4 : g.1 359 t = zJ (P t) := (hz3.i (zin_n1 (by omega))).trans p1
            rw [if_neg (by rw [zJ_le (by omega) (by omega)]; omega), e6, zb_t (by omega) (by omega), zb_t (by omega) (by omega), zg_tr, zg_tr, zg_tr, zJ_c (by omega), zJ_c (by omega), e4, sbitJ (by omega) (by omega), sbitJ (by omega) (by omega), hv]
            have fin : ∀ d : Nat, gap P (t + 1) a b = gap P t a b + d → zw (f_Mod_tellApart_j78 g (zJ a) (zJ b) (zJ t) (zJ d) (zJ (gap P t a b)) (zJ (6 * a + b))) (Sum.elim (fun s' => t < z ∧ s'.1 = zJ (t + 1) ∧ zfm [(363, 363, 0, 9999)] h s'.2 ∧ gdoner P z a b s'.2 ∧ s'.2.1 363 (6 * a + b) = zJ (gap P (t + 1) a b)) fun g => zfm [(363, 363, 0, 9999)] h g ∧ gdoner P z a (b + 1) g) := by
              intro d hd2
              unfold f_Mod_tellApart_j78
              rw [zb_t (by omega) (by omega), zg_tr, Option.bind_some, zJ_c (by omega), zJ_add]
              refine zw_some ⟨htz, by rw [zJ_al], hz3.I (zin_1 (by omega) (by omega) (by omega) (by omega)), fun a' b' hab h1 h2 => ?_, ?_⟩
              · dsimp only
                rw [zI_nk (by omega)]
                exact hd a' b' hab h1 h2
              · dsimp only
                rw [zI_eq, hd2]
            have eg : gap P (t + 1) a b = gap P t a b + (if ((P t).testBit a != (P t).testBit b) = true then 1 else 0) := rfl
            by_cases hc : (P t).testBit a = (P t).testBit b
            · rw [if_pos (zbI_inj.mpr hc)]
              exact fin 0 (by rw [eg, hc]; simp)
            · rw [if_neg (fun h => hc (zbI_inj.mp h))]
              exact fin 1 (by rw [eg, if_pos (by simpa using hc)])
          · have : t = z := by omega
            subst this
            rw [if_pos (by rw [zJ_le (by omega) (by omega)]; omega)]
            refine zw_some ⟨hz3, fun a' b' hab h1 h2 => ?_⟩
            by_cases e : a' = a ∧ b' = b
            · obtain ⟨rfl, rfl⟩ := e
              exact hv
            · exact hd a' b' (by omega) h1 h2
        · rintro g ⟨hz4, hd⟩
          rw [zJ_al]
          exact zw_some ⟨hbn, rfl, hz4, hd⟩
      · have : b = 6 := by omega
        subst this
        rw [if_pos (by decide)]
        exact zw_some ⟨hz2, fun a' b' hab h1 h2 => hd a' b' (by omega) h1 h2⟩
    · rintro g ⟨hz4, hd⟩
      rw [zJ_al]
      exact zw_some ⟨han, rfl, hz4, hd⟩
  · have : a = 6 := by omega
    subst this
    rw [if_pos (by decide)]
    exact zw_some ⟨hz1, hd⟩
/-- the cells of a chain -/
def gqc (N : yN) (c : Nat) : Nat → Bool := fun i => decide (i < yI N) && (yCo N i == c + 1)
theorem gqc_n {N : yN} {c : Nat} (hn : yOKn N) (hc : c < yNc N) : fb_ct (gqc N c) 6 = yCn N c ∧ fb_ct (gqc N c) (yI N) = yCn N c := by
  obtain ⟨⟨e1, -⟩, -, n3, n4, -⟩ := id hn
  have e1' : yI N ≤ 6 := e1
  obtain ⟨-, -, -, -, -, c6⟩ := n4 c hc
  have h1 : fb_ct (gqc N c) (yI N) = yCn N c := by
    rw [← c6]
    refine fb_ct_cong (fun k hk => ?_)
    unfold gqc
    rw [decide_eq_true hk, Bool.true_and]
  refine ⟨?_, h1⟩
  rw [← h1]
  refine fb_ext e1' (fun k h1 h2 => ?_)
  unfold gqc
  rw [decide_eq_false (by omega), Bool.false_and]
theorem gqc_lt {N : yN} {c j : Nat} (h : gqc N c j = true) : j < yI N := by
  unfold gqc at h
  rw [Bool.and_eq_true, decide_eq_true_eq] at h
  exact h.1
theorem gqc_x {N : yN} {c i : Nat} (hn : yOKn N) (hc : c < yNc N) (hi : i < yCn N c) : gdec (gx0 (gqc N c)) i < yI N := by
  have h6 := (gqc_n hn hc).1
  rw [gx0_at (by omega)]
  obtain ⟨-, b, -⟩ := gnth_ok (q := gqc N c) (m := 6) (i := i) (by omega)
  exact gqc_lt b
theorem gqc_l {N : yN} {c : Nat} {row : Nat → Int32} (hn : yOKn N) (hc : c < yNc N) (h : ∀ j, j < yI N → gqc N c j = true → row (fb_ct (gqc N c) j) = zJ j) : ∀ i, i < yCn N c → row i = zJ (gdec (gx0 (gqc N c)) i) := by
  intro i hi
  have h6 := (gqc_n hn hc).1
  rw [gx0_at (by omega)]
  obtain ⟨a, b, e⟩ := gnth_ok (q := gqc N c) (m := 6) (i := i) (by omega)
  have := h _ (gqc_lt b) b
  rw [e] at this
  exact this
theorem listCells_c {h : zH} {N : yN} {o c : Nat} (hn : yOKn N) (hw : yCN h o N) (ho : o + 35 ≤ 74) (hc : c < yNc N) : zw (f_Program_listCells o h (zJ c)) fun y => y.1 = zJ (yCn N c) ∧ zfm [(142, 142, 0, 9999)] h y.2 ∧ ∀ i, i < yCn N c → y.2.1 142 i = zJ (gdec (gx0 (gqc N c)) i) := by
  obtain ⟨⟨e1, -⟩, -, n3, n4, n5, -⟩ := id hn
  have e1' : yI N ≤ 6 := e1
  obtain ⟨q1, q2⟩ := gqc_n hn hc
  unfold f_Program_listCells
  refine zw_bi (P := fun y => y.1 = zJ (yCn N c) ∧ zfm [(142, 142, 0, 9999)] h y.2 ∧ ∀ i, i < yCn N c → y.2.1 142 i = zJ (gdec (gx0 (gqc N c)) i)) (zw_for (yI N) (fun i s => s.1 = zJ (fb_ct (gqc N c) i) ∧ s.2.1 = zJ i ∧ zfm [(142, 142, 0, 9999)] h s.2.2 ∧ ∀ j, j < i → gqc N c j = true → s.2.2.1 142 (fb_ct (gqc N c) j) = zJ j) (by omega) ⟨rfl, rfl, zfm.rfl', fun j hj => absurd hj (Nat.not_lt_zero j)⟩ ?_) (fun y hy => zw_some hy)
  rintro i ⟨a, b, g⟩ hi ⟨rfl, rfl, hz, hv⟩
  dsimp only at hz hv ⊢
  unfold f_Program_listCells_b5
  have hwg : yCN g o N := hw.fr hn hz (fun a k h1 h2 => zin_n1 (by omega))
  have w0 : g.1 o 0 = zJ (yI N) := hwg.1.1
  have cl := fb_ct_le (gqc N c) i
  rw [w0]
  by_cases hin : i < yI N
  · have w8 := (hwg.2.2.2.2.2.2.2 i hin).1
    have n5' := (n5 i hin).1
    have eq : gqc N c i = (yCo N i == c + 1) := by
      unfold gqc
      rw [decide_eq_true hin, Bool.true_and]
    simp (disch := omega) only [zg_tr, zb_t, zJ_lt, zJ_le, zJ_inj, zJ_ltl, zJ_lel, zJ_eql, zJ_llt, zJ_lle, zJ_leq, zJ_m1, zJ_m1r, zJ_nle_m1, zJ_m1lt, zJ_add, zJ_al, zJ_mull, zJ_c, zJ_mlr, zJ_cl, zJ_sub, zJ_subl, zJ_neg, zJ_divl, zreml, zshl_1, zshr_J, zushr_J, zJ_and1, if_pos, if_neg, Option.bind_some, zI_eq, zI_ne, zI_nk, zI_2, zL_1, zL_eq, zL_ne, zL_nk, zL_22, w8]
    rw [fb_ct_succ]
    by_cases hco : yCo N i = c + 1
    · rw [if_neg (fun hne => hne ((zfj_eqJ (by omega) (by omega)).mpr hco))]
      have et : gqc N c i = true := by
        rw [eq, hco]
        exact beq_self_eq_true _
      rw [et, if_pos rfl]
      refine zw_some ⟨hin, rfl, rfl, hz.I (zin_1 (by omega) (by omega) (by omega) (by omega)), fun j hj hq => ?_⟩
      dsimp only
      by_cases hji : j = i
      · subst hji
        rw [zI_eq]
      · have := fb_ct_mono (gqc N c) (show j + 1 ≤ i by omega)
        rw [fb_ct_succ, hq, if_pos rfl] at this
        rw [zI_nk (by omega)]
        exact hv j (by omega) hq
    · rw [if_pos (fun he => hco ((zfj_eqJ (by omega) (by omega)).mp he))]
      have et : gqc N c i = false := by
        rw [eq]
        exact beq_eq_false_iff_ne.mpr hco
      rw [et, if_neg (by decide)]
      refine zw_some ⟨hin, rfl, rfl, hz, fun j hj hq => ?_⟩
      by_cases hji : j = i
      · subst hji
        rw [hq] at et
        cases et
      · exact hv j (by omega) hq
  · have : i = yI N := by omega
    subst this
    rw [if_pos (by rw [zJ_le (by omega) (by omega)]; omega), q2]
    exact zw_some ⟨rfl, hz, gqc_l hn hc hv⟩
theorem listCells_r {h : zH} {N : yN} {v2 : Int32} {c : Nat} (hn : yOKn N) (hr : yRN h N) (hc : c < yNc N) : zw (zit zFU (fun s : Int32 × Int32 × zH => f_Mod_order_b48 s.2.2 (zJ c) v2 s.1 s.2.1) (0, 0, h)) fun y => y.1 = zJ (yCn N c) ∧ zfm [(364, 364, 0, 9999)] h y.2 ∧ ∀ i, i < yCn N c → y.2.1 364 i = zJ (gdec (gx0 (gqc N c)) i) := by
  obtain ⟨⟨e1, -⟩, -, n3, n4, n5, -⟩ := id hn
  have e1' : yI N ≤ 6 := e1
  obtain ⟨q1, q2⟩ := gqc_n hn hc
  refine zw_for (yI N) (fun i s => s.1 = zJ (fb_ct (gqc N c) i) ∧ s.2.1 = zJ i ∧ zfm [(364, 364, 0, 9999)] h s.2.2 ∧ ∀ j, j < i → gqc N c j = true → s.2.2.1 364 (fb_ct (gqc N c) j) = zJ j) (by omega) ⟨rfl, rfl, zfm.rfl', fun j hj => absurd hj (Nat.not_lt_zero j)⟩ ?_
  rintro i ⟨a, b, g⟩ hi ⟨rfl, rfl, hz, hv⟩
  dsimp only at hz hv ⊢
  unfold f_Mod_order_b48
  have hwg : yRN g N := hr.fr hz (fun a k h1 h2 => zin_n1 (by omega))
  have w0 : g.1 336 0 = zJ (yI N) := hwg.1.1
  have cl := fb_ct_le (gqc N c) i
  rw [w0]
  by_cases hin : i < yI N
  · have w8 := (hwg.2.2.2.2.2.2.2 i hin).1
    have n5' := (n5 i hin).1
    have eq : gqc N c i = (yCo N i == c + 1) := by
      unfold gqc
      rw [decide_eq_true hin, Bool.true_and]
    simp (disch := omega) only [zg_tr, zb_t, zJ_lt, zJ_le, zJ_inj, zJ_ltl, zJ_lel, zJ_eql, zJ_llt, zJ_lle, zJ_leq, zJ_m1, zJ_m1r, zJ_nle_m1, zJ_m1lt, zJ_add, zJ_al, zJ_mull, zJ_c, zJ_mlr, zJ_cl, zJ_sub, zJ_subl, zJ_neg, zJ_divl, zreml, zshl_1, zshr_J, zushr_J, zJ_and1, if_pos, if_neg, Option.bind_some, zI_eq, zI_ne, zI_nk, zI_2, zL_1, zL_eq, zL_ne, zL_nk, zL_22, w8]
    rw [fb_ct_succ]
    by_cases hco : yCo N i = c + 1
    · rw [if_pos ((zfj_eqJ (by omega) (by omega)).mpr hco)]
      have et : gqc N c i = true := by
        rw [eq, hco]
        exact beq_self_eq_true _
      rw [et, if_pos rfl]
      refine zw_some ⟨hin, rfl, rfl, hz.I (zin_1 (by omega) (by omega) (by omega) (by omega)), fun j hj hq => ?_⟩
      dsimp only
      by_cases hji : j = i
      · subst hji
        rw [zI_eq]
      · have := fb_ct_mono (gqc N c) (show j + 1 ≤ i by omega)
        rw [fb_ct_succ, hq, if_pos rfl] at this
        rw [zI_nk (by omega)]
        exact hv j (by omega) hq
    · rw [if_neg (fun he => hco ((zfj_eqJ (by omega) (by omega)).mp he))]
      have et : gqc N c i = false := by
        rw [eq]
        exact beq_eq_false_iff_ne.mpr hco
      rw [et, if_neg (by decide)]
      refine zw_some ⟨hin, rfl, rfl, hz, fun j hj hq => ?_⟩
      by_cases hji : j = i
      · subst hji
        rw [hq] at et
        cases et
      · exact hv j (by omega) hq
  · have : i = yI N := by omega
    subst this
    rw [if_pos (by rw [zJ_le (by omega) (by omega)]; omega), q2]
    exact zw_some ⟨rfl, hz, gqc_l hn hc hv⟩
theorem costOfTried_c {h : zH} {A : Nat → Nat → Nat} {s : Nat → Nat} {n m : Nat} (h1 : 1 ≤ n) (hn : n ≤ 6) (hm : m ≤ 6) (hs : ∀ i, i < n → h.1 142 i = zJ (s i)) (hb : ∀ i, i < n → s i < m) (hA : ∀ a b, a < m → b < m → h.1 (143 + (1 + 1 * a)) b = zJ (A a b)) : zw (f_Program_costOfTried h (zJ n)) fun x => x = zJ (gco A s n) := by
  unfold f_Program_costOfTried
  refine zw_bi (P := fun x => x = zJ (gco A s n)) (zw_fr 1 n (fun k st => 1 ≤ k ∧ st = (zJ (gco A s k), zJ k)) h1 (by omega) ⟨Nat.le_refl 1, rfl⟩ ?_) (fun x hx => zw_some hx)
  rintro k st hk ⟨hk1, rfl⟩
  dsimp only
  unfold f_Program_costOfTried_b4
  by_cases hkn : k < n
  · have b1 := hb (k - 1) (by omega)
    have b2 := hb k hkn
    simp (disch := omega) only [zg_tr, zb_t, zJ_lt, zJ_le, zJ_inj, zJ_ltl, zJ_lel, zJ_eql, zJ_llt, zJ_lle, zJ_leq, zJ_m1, zJ_m1r, zJ_nle_m1, zJ_m1lt, zJ_add, zJ_al, zJ_mull, zJ_c, zJ_mlr, zJ_cl, zJ_sub, zJ_subl, zJ_neg, zJ_divl, zreml, zshl_1, zshr_J, zushr_J, zJ_and1, if_pos, if_neg, Option.bind_some, zI_eq, zI_ne, zI_nk, zI_2, zL_1, zL_eq, zL_ne, zL_nk, zL_22, hs (k - 1) (by omega), hs k hkn, hA _ _ b1 b2, zJ_mul]
    rw [gco, if_neg (by omega)]
    exact zw_some ⟨hkn, by omega, rfl⟩
  · have : k = n := by omega
    subst this
    simp (disch := omega) only [zg_tr, zb_t, zJ_lt, zJ_le, zJ_inj, zJ_ltl, zJ_lel, zJ_eql, zJ_llt, zJ_lle, zJ_leq, zJ_m1, zJ_m1r, zJ_nle_m1, zJ_m1lt, zJ_add, zJ_al, zJ_mull, zJ_c, zJ_mlr, zJ_cl, zJ_sub, zJ_subl, zJ_neg, zJ_divl, zreml, zshl_1, zshr_J, zushr_J, zJ_and1, if_pos, if_neg, Option.bind_some, zI_eq, zI_ne, zI_nk, zI_2, zL_1, zL_eq, zL_ne, zL_nk, zL_22]
    exact zw_some rfl
theorem orderCost_r {h : zH} {A : Nat → Nat → Nat} {s : Nat → Nat} {n m : Nat} (h1 : 1 ≤ n) (hn : n ≤ 6) (hm : m ≤ 6) (hs : ∀ i, i < n → h.1 364 i = zJ (s i)) (hb : ∀ i, i < n → s i < m) (hA : ∀ a b, a < 6 → b < 6 → h.1 363 (6 * a + b) = zJ (A a b)) : zw (f_Mod_orderCost h (zJ n)) fun x => x = zJ (gco A s n) := by
  unfold f_Mod_orderCost
  refine zw_bi (P := fun x => x = zJ (gco A s n)) (zw_fr 1 n (fun k st => 1 ≤ k ∧ st = (zJ (gco A s k), zJ k)) h1 (by omega) ⟨Nat.le_refl 1, rfl⟩ ?_) (fun x hx => zw_some hx)
  rintro k st hk ⟨hk1, rfl⟩
  dsimp only
  unfold f_Mod_orderCost_b4
  by_cases hkn : k < n
  · have b1 := hb (k - 1) (by omega)
    have b2 := hb k hkn
    have e6 : (6 : Int32) * zJ (s (k - 1)) + zJ (s k) = zJ (6 * s (k - 1) + s k) := by
      rw [show (6 : Int32) = zJ 6 from rfl, zJ_mul, zJ_add]
    rw [if_neg (by rw [zJ_le (by omega) (by omega)]; omega)]
    have ek : zJ k - 1 = zJ (k - 1) := zJ_subl (n := 1) hk1
    rw [ek, zb_t (by omega) (by omega), zb_t (by omega) (by omega), zg_tr, zg_tr, zJ_c (by omega), zJ_c (by omega), hs (k - 1) (by omega), hs k hkn, e6, zb_t (by omega) (by omega), zg_tr, zJ_c (by omega), hA _ _ (by omega) (by omega), zJ_mul, zJ_add, zJ_al]
    rw [gco, if_neg (by omega)]
    exact zw_some ⟨hkn, by omega, rfl⟩
  · have : k = n := by omega
    subst this
    rw [if_pos (by rw [zJ_le (by omega) (by omega)]; omega)]
    exact zw_some rfl
theorem keepTried_c {h : zH} {s : Nat → Nat} {n : Nat} (hn : n ≤ 6) (hs : ∀ i, i < n → h.1 142 i = zJ (s i)) : zw (f_Program_keepTried h (zJ n)) fun g => zfm [(141, 141, 0, 9999)] h g ∧ ∀ i, i < n → g.1 141 i = zJ (s i) := by
  unfold f_Program_keepTried
  refine zw_bi (P := fun g => zfm [(141, 141, 0, 9999)] h g ∧ ∀ i, i < n → g.1 141 i = zJ (s i)) (zw_for n (fun k st => st.1 = zJ k ∧ zfm [(141, 141, 0, 9999)] h st.2 ∧ ∀ i, i < k → st.2.1 141 i = zJ (s i)) (by omega) ⟨rfl, zfm.rfl', fun i hi => absurd hi (Nat.not_lt_zero i)⟩ ?_) (fun x hx => zw_some hx)
  rintro k ⟨a, g⟩ hk ⟨rfl, hz, hv⟩
  dsimp only at hz hv ⊢
  unfold f_Program_keepTried_b2
  by_cases hkn : k < n
  · have e := (hz.i (zin_n1 (o := 142) (k := k) (by omega))).trans (hs k hkn)
    simp (disch := omega) only [zg_tr, zb_t, zJ_lt, zJ_le, zJ_inj, zJ_ltl, zJ_lel, zJ_eql, zJ_llt, zJ_lle, zJ_leq, zJ_m1, zJ_m1r, zJ_nle_m1, zJ_m1lt, zJ_add, zJ_al, zJ_mull, zJ_c, zJ_mlr, zJ_cl, zJ_sub, zJ_subl, zJ_neg, zJ_divl, zreml, zshl_1, zshr_J, zushr_J, zJ_and1, if_pos, if_neg, Option.bind_some, zI_eq, zI_ne, zI_nk, zI_2, zL_1, zL_eq, zL_ne, zL_nk, zL_22, e]
    refine zw_some ⟨hkn, rfl, hz.I (zin_1 (by omega) (by omega) (by omega) (by omega)), fun i hi => ?_⟩
    dsimp only
    by_cases hik : i = k
    · subst hik
      rw [zI_eq]
    · rw [zI_nk (by omega)]
      exact hv i (by omega)
  · have : k = n := by omega
    subst this
    rw [if_pos (by rw [zJ_le (by omega) (by omega)]; omega)]
    exact zw_some ⟨hz, hv⟩
theorem keepOrder_r {h : zH} {s : Nat → Nat} {n : Nat} {v2 v4 : Int32} (hn : n ≤ 6) (hs : ∀ i, i < n → h.1 364 i = zJ (s i)) : zw (zit zFU (fun s : Int32 × zH => f_Mod_order_b136 s.2 v2 (zJ n) v4 s.1) (0, h)) fun g => zfm [(365, 365, 0, 9999)] h g ∧ ∀ i, i < n → g.1 365 i = zJ (s i) := by
  refine zw_for n (fun k st => st.1 = zJ k ∧ zfm [(365, 365, 0, 9999)] h st.2 ∧ ∀ i, i < k → st.2.1 365 i = zJ (s i)) (by omega) ⟨rfl, zfm.rfl', fun i hi => absurd hi (Nat.not_lt_zero i)⟩ ?_
  rintro k ⟨a, g⟩ hk ⟨rfl, hz, hv⟩
  dsimp only at hz hv ⊢
  unfold f_Mod_order_b136
  by_cases hkn : k < n
  · have e := (hz.i (zin_n1 (o := 364) (k := k) (by omega))).trans (hs k hkn)
    simp (disch := omega) only [zg_tr, zb_t, zJ_lt, zJ_le, zJ_inj, zJ_ltl, zJ_lel, zJ_eql, zJ_llt, zJ_lle, zJ_leq, zJ_m1, zJ_m1r, zJ_nle_m1, zJ_m1lt, zJ_add, zJ_al, zJ_mull, zJ_c, zJ_mlr, zJ_cl, zJ_sub, zJ_subl, zJ_neg, zJ_divl, zreml, zshl_1, zshr_J, zushr_J, zJ_and1, if_pos, if_neg, Option.bind_some, zI_eq, zI_ne, zI_nk, zI_2, zL_1, zL_eq, zL_ne, zL_nk, zL_22, e]
    refine zw_some ⟨hkn, rfl, hz.I (zin_1 (by omega) (by omega) (by omega) (by omega)), fun i hi => ?_⟩
    dsimp only
    by_cases hik : i = k
    · subst hik
      rw [zI_eq]
    · rw [zI_nk (by omega)]
      exact hv i (by omega)
  · have : k = n := by omega
    subst this
    rw [if_pos (by rw [zJ_le (by omega) (by omega)]; omega)]
    exact zw_some ⟨hz, hv⟩
