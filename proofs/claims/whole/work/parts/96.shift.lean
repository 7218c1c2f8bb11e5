/-! ===== shift ===== -/
theorem gbJ {b : Nat} (h : b < 2) : zJ b = zbI (b == 1) := by
  rcases (by omega : b = 0 ∨ b = 1) with e | e <;> subst e <;> rfl
theorem gbN (b : Bool) : zbI b = zJ b.toNat := by cases b <;> rfl
theorem gbL (b : Bool) : b.toNat < 2 := by cases b <;> decide
theorem gbE (b : Bool) : (b.toNat == 1) = b := by cases b <;> rfl
theorem ypu_test {N : yN} {a i b j : Nat} (hi : i < yI N) (ha : a < 2 ^ yI N) (hb : b < 2) : (ypu N a i b).testBit j = if j = i then (b == 1) else a.testBit j := by
  unfold ypu
  rw [yrn_bit (fun i _ => by split; exact hb; exact zrw_lt)]
  by_cases hji : j = i
  · subst hji
    rw [if_pos rfl, if_pos rfl, decide_eq_true hi, Bool.true_and]
  · rw [if_neg hji, if_neg hji, zrw_bit]
    by_cases hjI : j < yI N
    · rw [decide_eq_true hjI, Bool.true_and]
    · rw [decide_eq_false hjI, Bool.false_and]
      exact (Nat.testBit_lt_two_pow (Nat.lt_of_lt_of_le ha (Nat.pow_le_pow_right (by omega) (by omega)))).symm
def gch (N : yN) (c a b : Nat) : Nat → Nat × Nat
  | 0 => (a, b)
  | k + 1 => (ypu N (gch N c a b k).1 (yCl N c k) (gch N c a b k).2, ((gch N c a b k).1.testBit (yCl N c k)).toNat)
theorem gch_lt {N : yN} {c a b : Nat} (ha : a < 2 ^ yI N) (hb : b < 2) : ∀ k, (gch N c a b k).1 < 2 ^ yI N ∧ (gch N c a b k).2 < 2
  | 0 => ⟨ha, hb⟩
  | k + 1 => ⟨ypu_lt (gch_lt ha hb k).2, gbL _⟩
theorem gch_bits {N : yN} {c a b : Nat} (hn : yOKn N) (hc : c < yNc N) (ha : a < 2 ^ yI N) (hb : b < 2) : ∀ k, k ≤ yCn N c → (∀ i, (∀ j, j < k → yCl N c j ≠ i) → (gch N c a b k).1.testBit i = a.testBit i) ∧ (∀ j, j < k → (gch N c a b k).1.testBit (yCl N c j) = if j = 0 then (b == 1) else a.testBit (yCl N c (j - 1))) ∧ ((gch N c a b k).2 == 1) = if k = 0 then (b == 1) else a.testBit (yCl N c (k - 1))
  | 0, _ => ⟨fun i _ => rfl, fun j hj => absurd hj (Nat.not_lt_zero j), rfl⟩
  | k + 1, h => by
    obtain ⟨p1, p2, p3⟩ := gch_bits hn hc ha hb k (by omega)
    obtain ⟨l1, l2⟩ := gch_lt (c := c) ha hb k
    obtain ⟨c1, c2, c3, c4, -⟩ := hn.2.2.2.1 c hc
    have hcell := (c3 k (by omega)).1
    have old : (gch N c a b k).1.testBit (yCl N c k) = a.testBit (yCl N c k) := p1 _ (fun j hj he => by
      have := c4 j k (by omega) (by omega) he
      omega)
    refine ⟨fun i hi => ?_, fun j hj => ?_, ?_⟩
    · unfold gch
      dsimp only
      rw [ypu_test hcell l1 l2, if_neg (fun e => hi k (by omega) e.symm)]
      exact p1 i (fun j hj => hi j (by omega))
    · unfold gch
      dsimp only
      rw [ypu_test hcell l1 l2]
      by_cases hjk : j = k
      · subst hjk
        rw [if_pos rfl, p3]
      · rw [if_neg (fun e => hjk (c4 j k (by omega) (by omega) e))]
        exact p2 j (by omega)
    · unfold gch
      dsimp only
      rw [gbE, old, if_neg (by omega), Nat.add_sub_cancel]
def gsf (N : yN) (v a : Nat) : Nat → Nat × Int32
  | 0 => (a, 0)
  | c + 1 => ((gch N c (gsf N v a c).1 (v.testBit c).toNat (yCn N c)).1, (gsf N v a c).2 ||| zshl (zJ (gch N c (gsf N v a c).1 (v.testBit c).toNat (yCn N c)).2) (zJ c))
theorem gsf_lt {N : yN} {v a : Nat} (ha : a < 2 ^ yI N) : ∀ c, (gsf N v a c).1 < 2 ^ yI N
  | 0 => ha
  | c + 1 => (gch_lt (gsf_lt ha c) (gbL _) _).1
/-- the machine behind a shift -/
def gsM (N : yN) (v : Nat) (s : yS) : yS := ((gsf N v s.1 (yNc N)).1, s.2.1 + 1, s.2.2)
theorem shiftChain_c {h : zH} {N : yN} {o w c a b : Nat} {v : Int32} (hn : yOKn N) (hw : yCN h w N) (hd : o < w ∨ w + 34 < o) (hc : c < yNc N) (ha : a < 2 ^ yI N) (hb : b < 2) (h0 : h.1 o 0 = zJ a) (v3 : Int32) : zw (zit zFU (fun s : Int32 × Int32 × zH => f_State_shiftCells_b25 o w s.2.2 v v3 (zJ c) s.1 s.2.1) (zJ b, 0, h)) fun t => t.1 = zJ (gch N c a b (yCn N c)).2 ∧ zfm [(o, o, 0, 0)] h t.2 ∧ t.2.1 o 0 = zJ (gch N c a b (yCn N c)).1 := by
  obtain ⟨⟨e1, e2, e3, e4⟩, -, n3, -⟩ := id hn
  have e1' : yI N ≤ 6 := e1
  have h64 := zpw6 e1'
  obtain ⟨c1, c2, c3, c4, -⟩ := hn.2.2.2.1 c hc
  refine zw_mono (zw_for (yCn N c) (fun k t => t.1 = zJ (gch N c a b k).2 ∧ t.2.1 = zJ k ∧ zfm [(o, o, 0, 0)] h t.2.2 ∧ t.2.2.1 o 0 = zJ (gch N c a b k).1) (by omega) ⟨rfl, rfl, zfm.rfl', h0⟩ ?_) (fun x hx => hx)
  rintro k ⟨x, i, g⟩ hk ⟨rfl, rfl, hz, hv⟩
  dsimp only at hz hv ⊢
  unfold f_State_shiftCells_b25
  have hwg : yCN g w N := hw.fr hn hz (fun a k h1 h2 => zin_n1 (by omega))
  have hcn := (hwg.2.2.2.2.2.2.1 c hc).1
  obtain ⟨l1, l2⟩ := gch_lt (c := c) ha hb k
  by_cases hkm : k < yCn N c
  · have hcl := (hwg.2.2.2.2.2.2.1 c hc).2 k hkm
    have hcell := (c3 k hkm).1
    simp (disch := omega) only [zg_tr, zb_t, zJ_lt, zJ_le, zJ_inj, zJ_ltl, zJ_lel, zJ_eql, zJ_llt, zJ_lle, zJ_leq, zJ_m1, zJ_m1r, zJ_nle_m1, zJ_m1lt, zJ_add, zJ_al, zJ_mull, zJ_c, zJ_mlr, zJ_cl, zJ_sub, zJ_subl, zJ_neg, zJ_divl, zreml, zshl_1, zshr_J, zushr_J, zJ_and1, if_pos, if_neg, Option.bind_some, zI_eq, zI_ne, zI_nk, zI_2, zL_1, zL_eq, zL_ne, zL_nk, zL_22, hcn, hcl, hv]
    unfold f_Main_bitOf
    rw [bitJ (by omega), Option.bind_some]
    refine zw_bi (withBit_c (x := zJ (gch N c a b k).1) (i := yCl N c k) (by omega) l2) ?_
    intro y hy
    rw [ypu_bits e1' hcell l2 l1 hy]
    refine zw_some ⟨hkm, gbN _, rfl, hz.I (zin_1 (by omega) (by omega) (by omega) (by omega)), zI_eq⟩
  · have : k = yCn N c := by omega
    subst this
    simp (disch := omega) only [zg_tr, zb_t, zJ_lt, zJ_le, zJ_inj, zJ_ltl, zJ_lel, zJ_eql, zJ_llt, zJ_lle, zJ_leq, zJ_m1, zJ_m1r, zJ_nle_m1, zJ_m1lt, zJ_add, zJ_al, zJ_mull, zJ_c, zJ_mlr, zJ_cl, zJ_sub, zJ_subl, zJ_neg, zJ_divl, zreml, zshl_1, zshr_J, zushr_J, zJ_and1, if_pos, if_neg, Option.bind_some, zI_eq, zI_ne, zI_nk, zI_2, zL_1, zL_eq, zL_ne, zL_nk, zL_22, hcn]
    exact zw_some ⟨rfl, hz, hv⟩
theorem shiftCells_c {h : zH} {N : yN} {o w v : Nat} {s : yS} (hn : yOKn N) (hs : yOKs N s) (hw : yCN h w N) (hd : o + 1 < w ∨ w + 34 < o) (hv : v < 2147483648) (h1 : yCSt h o s) : zw (f_State_shiftCells o w h (zJ v)) fun x => x.1 = (gsf N v s.1 (yNc N)).2 ∧ zfm [(o, o, 0, 1)] h x.2 ∧ yCSt x.2 o (gsM N v s) := by
  obtain ⟨⟨e1, e2, e3, e4⟩, -, n3, -⟩ := id hn
  have e1' : yI N ≤ 6 := e1
  obtain ⟨s1, s2, s3, s4, s5, s6, s7⟩ := h1
  have o1 := hs.1
  unfold f_State_shiftCells
  refine zw_bi (P := fun t => t.1 = (gsf N v s.1 (yNc N)).2 ∧ zfm [(o, o, 0, 0)] h t.2 ∧ t.2.1 o 0 = zJ (gsf N v s.1 (yNc N)).1) (zw_for (yNc N) (fun c t => t.1 = (gsf N v s.1 c).2 ∧ t.2.1 = zJ c ∧ zfm [(o, o, 0, 0)] h t.2.2 ∧ t.2.2.1 o 0 = zJ (gsf N v s.1 c).1) (by omega) ⟨rfl, rfl, zfm.rfl', s1⟩ ?_) ?_
  · rintro c ⟨x, i, g⟩ hk ⟨rfl, rfl, hz, hg0⟩
    dsimp only at hz hg0 ⊢
    unfold f_State_shiftCells_b5
    have hwg : yCN g w N := hw.fr hn hz (fun a k h1 h2 => zin_n1 (by omega))
    rw [hwg.2.2.1]
    by_cases hkm : c < yNc N
    · simp (disch := omega) only [zg_tr, zb_t, zJ_lt, zJ_le, zJ_inj, zJ_ltl, zJ_lel, zJ_eql, zJ_llt, zJ_lle, zJ_leq, zJ_m1, zJ_m1r, zJ_nle_m1, zJ_m1lt, zJ_add, zJ_al, zJ_mull, zJ_c, zJ_mlr, zJ_cl, zJ_sub, zJ_subl, zJ_neg, zJ_divl, zreml, zshl_1, zshr_J, zushr_J, zJ_and1, if_pos, if_neg, Option.bind_some, zI_eq, zI_ne, zI_nk, zI_2, zL_1, zL_eq, zL_ne, zL_nk, zL_22]
      unfold f_Main_bitOf
      rw [bitJ (by omega), Option.bind_some, gbN]
      refine zw_bi (shiftChain_c (c := c) (b := (v.testBit c).toNat) (v := zJ v) hn hwg (by omega) hkm (gsf_lt o1 c) (gbL _) hg0 _) ?_
      rintro ⟨x, g2⟩ ⟨rfl, q, p⟩
      exact zw_some ⟨hkm, rfl, rfl, hz.trans q, p⟩
    · have : c = yNc N := by omega
      subst this
      simp (disch := omega) only [zg_tr, zb_t, zJ_lt, zJ_le, zJ_inj, zJ_ltl, zJ_lel, zJ_eql, zJ_llt, zJ_lle, zJ_leq, zJ_m1, zJ_m1r, zJ_nle_m1, zJ_m1lt, zJ_add, zJ_al, zJ_mull, zJ_c, zJ_mlr, zJ_cl, zJ_sub, zJ_subl, zJ_neg, zJ_divl, zreml, zshl_1, zshr_J, zushr_J, zJ_and1, if_pos, if_neg, Option.bind_some, zI_eq, zI_ne, zI_nk, zI_2, zL_1, zL_eq, zL_ne, zL_nk, zL_22]
      exact zw_some ⟨rfl, hz, hg0⟩
  · rintro ⟨x, g⟩ ⟨rfl, hz, hg0⟩
    dsimp only at hz hg0 ⊢
    have e : ∀ k, 1 ≤ k → g.1 o k = h.1 o k := fun k hk => hz.i (zin_n1 (by omega))
    rw [e 1 (by omega), s2]
    refine zw_some ⟨rfl, (hz.sub' (fun a j hh => by
      unfold zin at hh ⊢
      simp at hh ⊢
      omega)).I (zin_1 (by omega) (by omega) (by omega) (by omega)), ?_, zI_eq, ?_, ?_, ?_, fun j hj => ?_, fun f hf => ?_⟩
    · rw [zI_nk (by omega)]; exact hg0
    · rw [zI_nk (by omega), e 2 (by omega)]; exact s3
    · rw [zI_nk (by omega), e 3 (by omega)]; exact s4
    · rw [zI_nk (by omega), e 5 (by omega)]; exact s5
    · rw [zI_ne (by omega), hz.i (zin_n1 (by omega))]; exact s6 j hj
    · show zBl (g.2.1 o 4) f = _
      rw [hz.l (zin_n1 (by omega))]
      exact s7 f hf
theorem putBit_r {h : zH} {N : yN} {a i b : Nat} (h6 : yI N ≤ 6) (hi : i < yI N) (ha : a < 2 ^ yI N) (hb : b < 2) (h0 : h.1 347 0 = zJ a) : f_Mod_putBit h (zJ i) (zJ b) = some (zsI h 347 0 (zJ (ypu N a i b))) := by
  unfold f_Mod_putBit
  rw [h0, Option.bind_some, ypu_bits h6 hi hb ha (wbit_bits (by omega) hb)]
theorem bitOf_r {h : zH} {a i : Nat} (hi : i < 32) (ha : a < 2147483648) (h0 : h.1 347 0 = zJ a) : f_Mod_bitOf h (zJ i) = some (zJ (a.testBit i).toNat) := by
  unfold f_Mod_bitOf
  rw [h0, sbitJ ha hi, gbN]
theorem shiftDown_r {h : zH} {N : yN} {c a : Nat} (v1 v2 : Int32) (hn : yOKn N) (hr : yRN h N) (hc : c < yNc N) (ha : a < 2 ^ yI N) (h0 : h.1 347 0 = zJ a) : zw (zit zFU (fun s : Int32 × zH => f_Mod_shiftNow_b46 s.2 v1 v2 (zJ c) s.1) (zJ (yCn N c - 1), h)) fun g => zfm [(347, 347, 0, 0)] h g ∧ ∃ A, A < 2 ^ yI N ∧ g.1 347 0 = zJ A ∧ (∀ i, (∀ j, j < yCn N c → yCl N c j ≠ i) → A.testBit i = a.testBit i) ∧ ∀ j, j < yCn N c → A.testBit (yCl N c j) = if 0 < j then a.testBit (yCl N c (j - 1)) else a.testBit (yCl N c j) := by
  obtain ⟨⟨e1, e2, e3, e4⟩, -, n3, -⟩ := id hn
  have e1' : yI N ≤ 6 := e1
  have h64 := zpw6 e1'
  obtain ⟨c1, c2, c3, c4, -⟩ := hn.2.2.2.1 c hc
  refine zw_mono (zw_for (yCn N c - 1) (fun k t => t.1 = zJ (yCn N c - 1 - k) ∧ zfm [(347, 347, 0, 0)] h t.2 ∧ ∃ A, A < 2 ^ yI N ∧ t.2.1 347 0 = zJ A ∧ (∀ i, (∀ j, j < yCn N c → yCl N c j ≠ i) → A.testBit i = a.testBit i) ∧ ∀ j, j < yCn N c → A.testBit (yCl N c j) = if yCn N c - 1 - k < j then a.testBit (yCl N c (j - 1)) else a.testBit (yCl N c j)) (by omega) ⟨rfl, zfm.rfl', a, ha, h0, fun i _ => rfl, fun j hj => by rw [if_neg (by omega)]⟩ ?_) (fun x hx => hx)
  rintro k ⟨x, g⟩ hk ⟨rfl, hz, A, A1, A2, A3, A4⟩
  dsimp only at hz A2 ⊢
  unfold f_Mod_shiftNow_b46
  have hrg : yRN g N := hr.fr hz (fun a k h1 h2 => zin_n1 (by omega))
  by_cases hkm : k < yCn N c - 1
  · obtain ⟨m, hm⟩ : ∃ m, yCn N c - 1 - k = m + 1 := ⟨yCn N c - 1 - k - 1, by omega⟩
    have hm2 : yCn N c - 1 - (k + 1) = m := by omega
    rw [hm] at A4 ⊢
    rw [hm2]
    have hcA := (c3 (m + 1) (by omega)).1
    have hcB := (c3 m (by omega)).1
    have e5 : zJ (m + 1) - 1 = zJ m := by
      rw [zfj_sub1 (by omega), zfj_s]
    have e6 : zJ (m + 1) + -1 = zJ m := by
      rw [← Int32.sub_eq_add_neg, e5]
    rw [if_neg (by rw [zJ_lel (by omega) (by decide)]; show ¬ _ ≤ 0; omega), cellAt_r hn hrg hc (by omega), Option.bind_some, e5, cellAt_r hn hrg hc (by omega), Option.bind_some, bitOf_r (by omega) (by omega) A2, Option.bind_some, putBit_r e1' hcA A1 (gbL _) A2, Option.bind_some, e6]
    refine zw_some ⟨hkm, rfl, hz.I rfl, _, ypu_lt (gbL _), zI_eq, fun i hi => ?_, fun j hj => ?_⟩
    · rw [ypu_test hcA A1 (gbL _), if_neg (fun e => hi (m + 1) (by omega) e.symm), A3 i hi]
    · rw [ypu_test hcA A1 (gbL _)]
      by_cases hjm : j = m + 1
      · subst hjm
        rw [if_pos rfl, gbE, A4 m (by omega), if_neg (by omega), if_pos (by omega), Nat.add_sub_cancel]
      · rw [if_neg (fun e => hjm (c4 j (m + 1) (by omega) (by omega) e)), A4 j hj]
        by_cases h2 : m + 1 < j
        · rw [if_pos h2, if_pos (by omega)]
        · rw [if_neg h2, if_neg (by omega)]
  · have : k = yCn N c - 1 := by omega
    subst this
    rw [if_pos (by rw [Nat.sub_self]; decide)]
    refine zw_some ⟨hz, A, A1, A2, A3, fun j hj => ?_⟩
    rw [A4 j hj, Nat.sub_self]
theorem shiftNow_r {h : zH} {N : yN} {v : Nat} {s : yS} (hn : yOKn N) (hs : yOKs N s) (hr : yRN h N) (hv : v < 2147483648) (h1 : yRSt (h.1 347) 0 s) : zw (f_Mod_shiftNow h (zJ v)) fun y => y.1 = (gsf N v s.1 (yNc N)).2 ∧ zfm [(347, 347, 0, 1)] h y.2 ∧ yRSt (y.2.1 347) 0 (gsM N v s) := by
  obtain ⟨⟨e1, e2, e3, e4⟩, -, n3, -⟩ := id hn
  have e1' : yI N ≤ 6 := e1
  have h64 := zpw6 e1'
  obtain ⟨s1, s2, s3, s4, s5, s6, s7⟩ := h1
  simp only [Nat.zero_add] at s1 s2 s3 s4 s5 s6 s7
  have o1 := hs.1
  unfold f_Mod_shiftNow
  refine zw_bi (P := fun t => t.1 = (gsf N v s.1 (yNc N)).2 ∧ zfm [(347, 347, 0, 0)] h t.2 ∧ t.2.1 347 0 = zJ (gsf N v s.1 (yNc N)).1) (zw_for (yNc N) (fun c t => t.1 = (gsf N v s.1 c).2 ∧ t.2.1 = zJ c ∧ zfm [(347, 347, 0, 0)] h t.2.2 ∧ t.2.2.1 347 0 = zJ (gsf N v s.1 c).1) (by omega) ⟨rfl, rfl, zfm.rfl', s1⟩ ?_) ?_
  · rintro c ⟨x, i, g⟩ hk ⟨rfl, rfl, hz, hg0⟩
    dsimp only at hz hg0 ⊢
    unfold f_Mod_shiftNow_b4
    have hrg : yRN g N := hr.fr hz (fun a k h1 h2 => zin_n1 (by omega))
    rw [hrg.2.2.1]
    by_cases hkm : c < yNc N
    · obtain ⟨c1, c2, c3, c4, -⟩ := hn.2.2.2.1 c hkm
      have hcn := (hrg.2.2.2.2.2.2.1 c hkm).1
      have hgl := gsf_lt (v := v) o1 c
      have hlast := (c3 (yCn N c - 1) (by omega)).1
      have hcell0 := (c3 0 (by omega)).1
      obtain ⟨p1, p2, p3⟩ := gch_bits hn hkm hgl (gbL (v.testBit c)) (yCn N c) (Nat.le_refl _)
      obtain ⟨l1, l2⟩ := gch_lt (c := c) hgl (gbL (v.testBit c)) (yCn N c)
      have eC : zJ ((gsf N v s.1 c).1.testBit (yCl N c (yCn N c - 1))).toNat = zJ (gch N c (gsf N v s.1 c).1 (v.testBit c).toNat (yCn N c)).2 := by
        rw [gbJ l2, p3, if_neg (by omega), gbN]
      simp (disch := omega) only [zg_tr, zb_t, zJ_lt, zJ_le, zJ_inj, zJ_ltl, zJ_lel, zJ_eql, zJ_llt, zJ_lle, zJ_leq, zJ_m1, zJ_m1r, zJ_nle_m1, zJ_m1lt, zJ_add, zJ_al, zJ_mull, zJ_c, zJ_mlr, zJ_cl, zJ_sub, zJ_subl, zJ_neg, zJ_divl, zreml, zshl_1, zshr_J, zushr_J, zJ_and1, if_pos, if_neg, Option.bind_some, zI_eq, zI_ne, zI_nk, zI_2, zL_1, zL_eq, zL_ne, zL_nk, zL_22, hcn]
      rw [cellAt_r hn hrg hkm (by omega), Option.bind_some, bitOf_r (by omega) (by omega) hg0, Option.bind_some, eC]
      refine zw_bi (shiftDown_r (zJ v) ((gsf N v s.1 c).2 ||| zshl (zJ (gch N c (gsf N v s.1 c).1 (v.testBit c).toNat (yCn N c)).2) (zJ c)) hn hrg hkm hgl hg0) ?_
      rintro g2 ⟨q, A, A1, A2, A3, A4⟩
      have hrg2 : yRN g2 N := hrg.fr q (fun a k h1 h2 => zin_n1 (by omega))
      rw [show (0 : Int32) = zJ 0 from rfl, cellAt_r hn hrg2 hkm (by omega), Option.bind_some, ← Nat.toNat_testBit, putBit_r e1' hcell0 A1 (gbL _) A2, Option.bind_some]
      have eA : ypu N A (yCl N c 0) (v.testBit c).toNat = (gch N c (gsf N v s.1 c).1 (v.testBit c).toNat (yCn N c)).1 := by
        apply Nat.eq_of_testBit_eq
        intro i
        rw [ypu_test hcell0 A1 (gbL _)]
        by_cases hex : ∃ j, j < yCn N c ∧ yCl N c j = i
        · obtain ⟨j, j1, rfl⟩ := hex
          rw [p2 j j1]
          by_cases hj0 : j = 0
          · subst hj0
            rw [if_pos rfl, if_pos rfl]
          · rw [if_neg (fun e => hj0 (c4 j 0 (by omega) (by omega) e)), if_neg hj0, A4 j j1, if_pos (by omega)]
        · have hno : ∀ j, j < yCn N c → yCl N c j ≠ i := fun j hj he => hex ⟨j, hj, he⟩
          rw [if_neg (fun e => hno 0 (by omega) e.symm), p1 i hno, A3 i hno]
      rw [eA]
      exact zw_some ⟨hkm, rfl, rfl, (hz.trans q).I rfl, zI_eq⟩
    · have : c = yNc N := by omega
      subst this
      simp (disch := omega) only [zg_tr, zb_t, zJ_lt, zJ_le, zJ_inj, zJ_ltl, zJ_lel, zJ_eql, zJ_llt, zJ_lle, zJ_leq, zJ_m1, zJ_m1r, zJ_nle_m1, zJ_m1lt, zJ_add, zJ_al, zJ_mull, zJ_c, zJ_mlr, zJ_cl, zJ_sub, zJ_subl, zJ_neg, zJ_divl, zreml, zshl_1, zshr_J, zushr_J, zJ_and1, if_pos, if_neg, Option.bind_some, zI_eq, zI_ne, zI_nk, zI_2, zL_1, zL_eq, zL_ne, zL_nk, zL_22]
      exact zw_some ⟨rfl, hz, hg0⟩
  · rintro ⟨x, g⟩ ⟨rfl, hz, hg0⟩
    dsimp only at hz hg0 ⊢
    have e : ∀ k, 1 ≤ k → g.1 347 k = h.1 347 k := fun k hk => hz.i (zin_n1 (by omega))
    rw [e 1 (by omega), s2]
    refine zw_some ⟨rfl, (hz.sub rfl).I rfl, ?_, zI_eq, ?_, ?_, ?_, fun j hj => ?_, fun f hf => ?_⟩
    · rw [zI_nk (by omega)]; exact hg0
    · rw [zI_nk (by omega), e _ (by omega)]; exact s3
    · rw [zI_nk (by omega), e _ (by omega)]; exact s4
    · rw [zI_nk (by omega), e _ (by omega)]; exact s5
    · rw [zI_nk (by omega), e _ (by omega), Nat.zero_add]; exact s6 j hj
    · rw [zI_nk (by omega), e _ (by omega), Nat.zero_add]; exact s7 f hf
theorem gsM_ok {N : yN} {v : Nat} {s : yS} (h : yOKs N s) : yOKs N (gsM N v s) := ⟨gsf_lt h.1 _, h.2⟩
theorem q_shift {h : zH} {v : Int32} (hi : yInv h) : zw (f_Main_shift h v) fun x => zw (f_Mod_shift x.2 v) fun y => x.1 = y.1 ∧ yInv y.2 := by
  obtain ⟨S, ho, hc, hr⟩ := hi
  have ok := ykp_ok ho.2.1
  obtain ⟨⟨e1, e2, e3, e4⟩, -, n3, -⟩ := id ho.1
  obtain ⟨⟨W, D, w1, w2, w3, w4⟩, i2, i3, -⟩ := id hc
  have bad : f_Main_shift h v = (f_Main_refuseAct h).bind (fun x => some (x.1, x.2)) → (∀ g, yIr (zsI g 333 2 0) S → f_Mod_shift g v = (f_Mod_refuse (zsI g 333 2 0) 1).bind fun y => some (y.1, y.2)) → zw (f_Main_shift h v) fun x => zw (f_Mod_shift x.2 v) fun y => x.1 = y.1 ∧ yInv y.2 := fun h1 h2 => qRefuse (f := fun g => f_Mod_shift g v) ho hr hc h1 h2
  by_cases h0 : yNc (gN S) = 0
  · refine bad ?_ (fun g hg => ?_)
    · unfold f_Main_shift f_Main_shift_j20
      rw [w2, zgr_eq, w4.2.2.1, h0, if_pos (by decide)]
    · unfold f_Mod_shift f_Mod_shift_j24
      rw [Option.bind_some, hg.1.2.2.1, h0, if_pos (by decide)]
  · have c0 : ¬ h.1 W 2 = 0 := by
      rw [w4.2.2.1, zJ_eql (by omega) (by decide)]
      exact h0
    have r0 : ∀ g, yIr (zsI g 333 2 0) S → ¬ (zsI g 333 2 0).1 336 2 = 0 := by
      intro g hg
      rw [hg.1.2.2.1, zJ_eql (by omega) (by decide)]
      exact h0
    rcases yneg v with hv | ⟨k, hk, rfl⟩
    · refine bad ?_ (fun g hg => ?_)
      · unfold f_Main_shift f_Main_shift_j20
        rw [w2, zgr_eq, if_neg c0, if_pos hv]
      · unfold f_Mod_shift f_Mod_shift_j24
        rw [Option.bind_some, if_neg (r0 g hg), isIn_neg hv, Option.bind_some, if_neg (by decide)]
    · by_cases h7 : k ≤ 7
      · refine yBoth0 (S' := gset S (gsM (gN S) k (gT S).1, (ykp (gT S)).2)) (f := fun g => f_Mod_shift g (zJ k)) (v := (gsf (gN S) k (gT S).1.1 (yNc (gN S))).2) (ho.set ⟨gsM_ok ho.2.1.1, ok.2⟩) ?_ (fun g hg => ?_) hr
        · unfold f_Main_shift
          rw [w2, zgr_eq, if_neg c0]
          simp (disch := omega) only [zg_tr, zb_t, zJ_lt, zJ_le, zJ_inj, zJ_ltl, zJ_lel, zJ_eql, zJ_llt, zJ_lle, zJ_leq, zJ_m1, zJ_m1r, zJ_nle_m1, zJ_m1lt, zJ_add, zJ_al, zJ_mull, zJ_c, zJ_mlr, zJ_cl, zJ_sub, zJ_subl, zJ_neg, zJ_divl, zreml, zshl_1, zshr_J, zushr_J, zJ_and1, if_pos, if_neg, Option.bind_some, zI_eq, zI_ne, zI_nk, zI_2, zL_1, zL_eq, zL_ne, zL_nk, zL_22]
          refine zw_bi (keep_cc ho hc) ?_
          rintro g ⟨q1, q2, q3⟩
          obtain ⟨⟨W, D, w1, w2, w3, w4⟩, i2, i3, -⟩ := id q2
          rw [w2, zgr_eq]
          refine zw_bi (shiftCells_c (s := (gT S).1) ho.1 ho.2.1.1 w4 (by omega) hk i3.1) ?_
          rintro ⟨x, g2⟩ ⟨rfl, p1, p2⟩
          exact zw_some ⟨rfl, (q1.sub rfl).tr p1 rfl, q2.mach q3 (zfm.sub p1 rfl) p2⟩
        · obtain ⟨hg1, q1, z1⟩ := code_r hg
          show zw (f_Mod_shift g (zJ k)) _
          unfold f_Mod_shift
          rw [Option.bind_some, if_neg (r0 g hg1)]
          generalize zsI g 333 2 0 = g0 at *
          rw [show (7 : Int32) = zJ 7 from rfl, isIn_lit (by omega) hk, Option.bind_some, decide_eq_true h7, if_pos (by decide)]
          refine zw_bi (keep_rr ho hg1) ?_
          rintro g2 ⟨q2, q3, q4⟩
          refine zw_bi (shiftNow_r (s := (gT S).1) (v := k) ho.1 ho.2.1.1 q3.1 hk q3.2.2.1.1) ?_
          rintro ⟨x, g3⟩ ⟨rfl, p1, p2⟩
          exact zw_some ⟨rfl, (q1.trans q2).tr p1 rfl, q3.mach p1 rfl (fun a k ha => zin_n1 (by omega)) rfl rfl p2⟩
      · refine bad ?_ (fun g hg => ?_)
        · unfold f_Main_shift f_Main_shift_j20
          rw [w2, zgr_eq, if_neg c0]
          simp (disch := omega) only [zg_tr, zb_t, zJ_lt, zJ_le, zJ_inj, zJ_ltl, zJ_lel, zJ_eql, zJ_llt, zJ_lle, zJ_leq, zJ_m1, zJ_m1r, zJ_nle_m1, zJ_m1lt, zJ_add, zJ_al, zJ_mull, zJ_c, zJ_mlr, zJ_cl, zJ_sub, zJ_subl, zJ_neg, zJ_divl, zreml, zshl_1, zshr_J, zushr_J, zJ_and1, if_pos, if_neg, Option.bind_some, zI_eq, zI_ne, zI_nk, zI_2, zL_1, zL_eq, zL_ne, zL_nk, zL_22]
        · unfold f_Mod_shift f_Mod_shift_j24
          rw [Option.bind_some, if_neg (r0 g hg), show (7 : Int32) = zJ 7 from rfl, isIn_lit (by omega) hk, Option.bind_some, decide_eq_false h7, if_neg (by decide)]
