/-! ===== shift ===== -/
theorem gbJ {b : Nat} (h : b < 2) : zJ b = zbI (b == 1) := by
  rcases (by omega : b = 0 ∨ b = 1) with e | e <;> subst e <;> rfl
theorem gbN (b : Bool) : zbI b = zJ b.toNat := by cases b <;> rfl
theorem gbL (b : Bool) : b.toNat < 2 := by cases b <;> decide
theorem gbE (b : Bool) : (b.toNat == 1) = b := by cases b <;> rfl
theorem ypu_test {N : yN} {a i b j : Nat} (hi : i < yI N) (ha : a < 2 ^ yI N) (hb : b < 2) : (ypu N a i b).testBit j = if j = i then (b == 1) else a.testBit j := by
  unfold ypu
  rw [yrn_bit (fun i _ => by split; exact hb; exact zrw_lt)]
  by_cases hji : j = i
  · subst hji
    rw [if_pos rfl, if_pos rfl, decide_eq_true hi, Bool.true_and]
  · rw [if_neg hji, if_neg hji, zrw_bit]
    by_cases hjI : j < yI N
    · rw [decide_eq_true hjI, Bool.true_and]
    · rw [decide_eq_false hjI, Bool.false_and]
      exact (Nat.testBit_lt_two_pow (Nat.lt_of_lt_of_le ha (Nat.pow_le_pow_right (by omega) (by omega)))).symm
def gch (N : yN) (c a b : Nat) : Nat → Nat × Nat
  | 0 => (a, b)
  | k + 1 => (ypu N (gch N c a b k).1 (yCl N c k) (gch N c a b k).2, ((gch N c a b k).1.testBit (yCl N c k)).toNat)
theorem gch_lt {N : yN} {c a b : Nat} (ha : a < 2 ^ yI N) (hb : b < 2) : ∀ k, (gch N c a b k).1 < 2 ^ yI N ∧ (gch N c a b k).2 < 2
  | 0 => ⟨ha, hb⟩
  | k + 1 => ⟨ypu_lt (gch_lt ha hb k).2, gbL _⟩
theorem gch_bits {N : yN} {c a b : Nat} (hn : yOKn N) (hc : c < yNc N) (ha : a < 2 ^ yI N) (hb : b < 2) : ∀ k, k ≤ yCn N c → (∀ i, (∀ j, j < k → yCl N c j ≠ i) → (gch N c a b k).1.testBit i = a.testBit i) ∧ (∀ j, j < k → (gch N c a b k).1.testBit (yCl N c j) = if j = 0 then (b == 1) else a.testBit (yCl N c (j - 1))) ∧ ((gch N c a b k).2 == 1) = if k = 0 then (b == 1) else a.testBit (yCl N c (k - 1))
  | 0, _ => ⟨fun i _ => rfl, fun j hj => absurd hj (Nat.not_lt_zero j), rfl⟩
  | k + 1, h => by
    obtain ⟨p1, p2, p3⟩ := gch_bits hn hc ha hb k (by omega)
    obtain ⟨l1, l2⟩ := gch_lt (c := c) ha hb k
    obtain ⟨c1, c2, c3, c4, -⟩ := hn.2.2.2.1 c hc
    have hcell := (c3 k (by omega)).1
    have old : (gch N c a b k).1.testBit (yCl N c k) = a.testBit (yCl N c k) := p1 _ (fun j hj he => by
      have := c4 j k (by omega) (by omega) he
      omega)
    refine ⟨fun i hi => ?_, fun j hj => ?_, ?_⟩
    · unfold gch
      dsimp only
      rw [ypu_test hcell l1 l2, if_neg (fun e => hi k (by omega) e.symm)]
      exact p1 i (fun j hj => hi j (by omega))
    · unfold gch
      dsimp only
      rw [ypu_test hcell l1 l2]
      by_cases hjk : j = k
      · subst hjk
        rw [if_pos rfl, p3]
      · rw [if_neg (fun e => hjk (c4 j k (by omega) (by omega) e))]
        exact p2 j (by omega)
    · unfold gch
      dsimp only
      rw [gbE, old, if_neg (by omega), Nat.add_sub_cancel]
def gsf (N : yN) (v a : Nat) : Nat → Nat × Int32
  | 0 => (a, 0)
  | c + 1 => ((gch N c (gsf N v a c).1 (v.testBit c).toNat (yCn N c)).1, (gsf N v a c).2 ||| zshl (zJ (gch N c (gsf N v a c).1 (v.testBit c).toNat (yCn N c)).2) (zJ c))
theorem gsf_lt {N : yN} {v a : Nat} (ha : a < 2 ^ yI N) : ∀ c, (gsf N v a c).1 < 2 ^ yI N
  | 0 => ha
  | c + 1 => (gch_lt (gsf_lt ha c) (gbL _) _).1
/-- the machine behind a shift -/
def gsM (N : yN) (v : Nat) (s : yS) : yS := ((gsf N v s.1 (yNc N)).1, s.2.1 + 1, s.2.2)
theorem shiftChain_c {h : zH} {N : yN} {o w c a b : Nat} {v : Int32} (hn : yOKn N) (hw : yCN h w N) (hd : o < w ∨ w + 34 < o) (hc : c < yNc N) (ha : a < 2 ^ yI N) (hb : b < 2) (h0 : h.1 o 0 = zJ a) (v3 : Int32) : zw (zit zFU (fun s : Int32 × Int32 × zH => f_State_shiftCells_b25 o w s.2.2 v v3 (zJ c) s.1 s.2.1) (zJ b, 0, h)) fun t => t.1 = zJ (gch N c a b (yCn N c)).2 ∧ zfm [(o, o, 0, 0)] h t.2 ∧ t.2.1 o 0 = zJ (gch N c a b (yCn N c)).1 := by
  obtain ⟨⟨e1, e2, e3, e4⟩, -, n3, -⟩ := id hn
  have e1' : yI N ≤ 6 := e1
  have h64 := zpw6 e1'
  obtain ⟨c1, c2, c3, c4, -⟩ := hn.2.2.2.1 c hc
  refine zw_mono (zw_for (yCn N c) (fun k t => t.1 = zJ (gch N c a b k).2 ∧ t.2.1 = zJ k ∧ zfm [(o, o, 0, 0)] h t.2.2 ∧ t.2.2.1 o 0 = zJ (gch N c a b k).1) (by omega) ⟨rfl, rfl, zfm.rfl', h0⟩ ?_) (fun x hx => hx)
  rintro k ⟨x, i, g⟩ hk ⟨rfl, rfl, hz, hv⟩
  dsimp only at hz hv ⊢
  unfold f_State_shiftCells_b25
  have hwg : yCN g w N := hw.fr hn hz (fun a k h1 h2 => zin_n1 (by omega))
  have hcn := (hwg.2.2.2.2.2.2.1 c hc).1
  obtain ⟨l1, l2⟩ := gch_lt (c := c) ha hb k
  by_cases hkm : k < yCn N c
  · have hcl := (hwg.2.2.2.2.2.2.1 c hc).2 k hkm
    have hcell := (c3 k hkm).1
    simp (disch := omega) only [zg_tr, zb_t, zJ_lt, zJ_le, zJ_inj, zJ_ltl, zJ_lel, zJ_eql, zJ_llt, zJ_lle, zJ_leq, zJ_m1, zJ_m1r, zJ_nle_m1, zJ_m1lt, zJ_add, zJ_al, zJ_mull, zJ_c, zJ_mlr, zJ_cl, zJ_sub, zJ_subl, zJ_neg, zJ_divl, zreml, zshl_1, zshr_J, zushr_J, zJ_and1, if_pos, if_neg, Option.bind_some, zI_eq, zI_ne, zI_nk, zI_2, zL_1, zL_eq, zL_ne, zL_nk, zL_22, hcn, hcl, hv]
    unfold f_Main_bitOf
    rw [bitJ (by omega), Option.bind_some]
    refine zw_bi (withBit_c (x := zJ (gch N c a b k).1) (i := yCl N c k) (by omega) l2) ?_
    intro y hy
    rw [ypu_bits e1' hcell l2 l1 hy]
    refine zw_some ⟨hkm, gbN _, rfl, hz.I (zin_1 (by omega) (by omega) (by omega) (by omega)), zI_eq⟩
  · have : k = yCn N c := by omega
    subst this
    simp (disch := omega) only [zg_tr, zb_t, zJ_lt, zJ_le, zJ_inj, zJ_ltl, zJ_lel, zJ_eql, zJ_llt, zJ_lle, zJ_leq, zJ_m1, zJ_m1r, zJ_nle_m1, zJ_m1lt, zJ_add, zJ_al, zJ_mull, zJ_c, zJ_mlr, zJ_cl, zJ_sub, zJ_subl, zJ_neg, zJ_divl, zreml, zshl_1, zshr_J, zushr_J, zJ_and1, if_pos, if_neg, Option.bind_some, zI_eq, zI_ne, zI_nk, zI_2, zL_1, zL_eq, zL_ne, zL_nk, zL_22, hcn]
    exact zw_some ⟨rfl, hz, hv⟩
theorem shiftCells_c {h : zH} {N : yN} {o w v : Nat} {s : yS} (hn : yOKn N) (hs : yOKs N s) (hw : yCN h w N) (hd : o + 1 < w ∨ w + 34 < o) (hv : v < 2147483648) (h1 : yCSt h o s) : zw (f_State_shiftCells o w h (zJ v)) fun x => x.1 = (gsf N v s.1 (yNc N)).2 ∧ zfm [(o, o, 0, 1)] h x.2 ∧ yCSt x.2 o (gsM N v s) := by
  obtain ⟨⟨e1, e2, e3, e4⟩, -, n3, -⟩ := id hn
  have e1' : yI N ≤ 6 := e1
  obtain ⟨s1, s2, s3, s4, s5, s6, s7⟩ := h1
  have o1 := hs.1
  unfold f_State_shiftCells
  refine zw_bi (P := fun t => t.1 = (gsf N v s.1 (yNc N)).2 ∧ zfm [(o, o, 0, 0)] h t.2 ∧ t.2.1 o 0 = zJ (gsf N v s.1 (yNc N)).1) (zw_for (yNc N) (fun c t => t.1 = (gsf N v s.1 c).2 ∧ t.2.1 = zJ c ∧ zfm [(o, o, 0, 0)] h t.2.2 ∧ t.2.2.1 o 0 = zJ (gsf N v s.1 c).1) (by omega) ⟨rfl, rfl, zfm.rfl', s1⟩ ?_) ?_
  · rintro c ⟨x, i, g⟩ hk ⟨rfl, rfl, hz, hg0⟩
    dsimp only at hz hg0 ⊢
    unfold f_State_shiftCells_b5
    have hwg : yCN g w N := hw.fr hn hz (fun a k h1 h2 => zin_n1 (by omega))
    rw [hwg.2.2.1]
    by_cases hkm : c < yNc N
    · simp (disch := omega) only [zg_tr, zb_t, zJ_lt, zJ_le, zJ_inj, zJ_ltl, zJ_lel, zJ_eql, zJ_llt, zJ_lle, zJ_leq, zJ_m1, zJ_m1r, zJ_nle_m1, zJ_m1lt, zJ_add, zJ_al, zJ_mull, zJ_c, zJ_mlr, zJ_cl, zJ_sub, zJ_subl, zJ_neg, zJ_divl, zreml, zshl_1, zshr_J, zushr_J, zJ_and1, if_pos, if_neg, Option.bind_some, zI_eq, zI_ne, zI_nk, zI_2, zL_1, zL_eq, zL_ne, zL_nk, zL_22]
      unfold f_Main_bitOf
      rw [bitJ (by omega), Option.bind_some, gbN]
      refine zw_bi (shiftChain_c (c := c) (b := (v.testBit c).toNat) (v := zJ v) hn hwg (by omega) hkm (gsf_lt o1 c) (gbL _) hg0 _) ?_
      rintro ⟨x, g2⟩ ⟨rfl, q, p⟩
      exact zw_some ⟨hkm, rfl, rfl, hz.trans q, p⟩
    · have : c = yNc N := by omega
      subst this
      simp (disch := omega) only [zg_tr, zb_t, zJ_lt, zJ_le, zJ_inj, zJ_ltl, zJ_lel, zJ_eql, zJ_llt, zJ_lle, zJ_leq, zJ_m1, zJ_m1r, zJ_nle_m1, zJ_m1lt, zJ_add, zJ_al, zJ_mull, zJ_c, zJ_mlr, zJ_cl, zJ_sub, zJ_subl, zJ_neg, zJ_divl, zreml, zshl_1, zshr_J, zushr_J, zJ_and1, if_pos, if_neg, Option.bind_some, zI_eq, zI_ne, zI_nk, zI_2, zL_1, zL_eq, zL_ne, zL_nk, zL_22]
      exact zw_some ⟨rfl, hz, hg0⟩
  · rintro ⟨x, g⟩ ⟨rfl, hz, hg0⟩
    dsimp only at hz hg0 ⊢
    have e : ∀ k, 1 ≤ k → g.1 o k = h.1 o k := fun k hk => hz.i (zin_n1 (by omega))
    rw [e 1 (by omega), s2]
    refine zw_some ⟨rfl, (hz.sub' (fun a j hh => by
      unfold zin at hh ⊢
      simp at hh ⊢
      omega)).I (zin_1 (by omega) (by omega) (by omega) (by omega)), ?_, zI_eq, ?_, ?_, ?_, fun j hj => ?_, fun f hf => ?_⟩
    · rw [zI_nk (by omega)]; exact hg0
    · rw [zI_nk (by omega), e 2 (by omega)]; exact s3
    · rw [zI_nk (by omega), e 3 (by omega)]; exact s4
    · rw [zI_nk (by omega), e 5 (by omega)]; exact s5
    · rw [zI_ne (by omega), hz.i (zin_n1 (by omega))]; exact s6 j hj
    · show zBl (g.2.1 o 4) f = _
      rw [hz.l (zin_n1 (by omega))]
      exact s7 f hf
