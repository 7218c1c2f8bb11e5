/-! ===== counts ===== -/
/-- the least with a property, or n -/
def yfd (p : Nat → Bool) : Nat → Nat
  | 0 => 0
  | n + 1 => if yfd p n < n then yfd p n else if p n then n else n + 1
theorem yfd_eq {p : Nat → Bool} {g : Nat} (hg : p g = true) (hl : ∀ j, j < g → p j = false) : ∀ n, yfd p n = min g n
  | 0 => by simp [yfd]
  | n + 1 => by
    unfold yfd
    rw [yfd_eq hg hl n]
    by_cases h1 : g < n
    · rw [if_pos (by omega)]
      omega
    · rw [if_neg (by omega)]
      by_cases h2 : g = n
      · subst h2
        rw [hg, if_pos rfl]
        omega
      · rw [hl n (by omega), if_neg (by simp)]
        omega
def yfnd (N : yN) (f : Nat) : Bool := decide (0 < zct (yE N) (ySb N) f (2 ^ yI N))
def yak (N : yN) (f g : Nat) : Bool := !zex (fun r => zcg (yE N) (ySb N) (zrw r) (f + 1) != zcg (yE N) (ySb N) (zrw r) (g + 1)) (2 ^ yI N)
def yla (N : yN) (f : Nat) : Nat := yfd (yak N f) (2 * yLs N)
theorem yak_self {N : yN} {f : Nat} : yak N f f = true := by
  unfold yak
  rw [zex_no.mpr (fun r _ => by simp)]
  rfl
def ygr (N : yN) : Nat := fb_ct (fun f => yfnd N f && yla N f == f) (2 * yLs N)
def ycnt (S : yG) (k : Nat) : Int32 :=
  if k = 0 then zJ (yI (gN S)) else if k = 1 then zJ (yLs (gN S) - yI (gN S)) else if k = 2 then zJ (fb_ct (ySb (gN S)) (yLs (gN S))) else if k = 3 then zJ (yNc (gN S)) else
  if k = 4 then zJ (gT S).1.2.2.2.1 else if k = 5 then zJ (2 * yLs (gN S)) else if k = 6 then zJ (fb_ct (fun f => !yfnd (gN S) f) (2 * yLs (gN S))) else if k = 7 then zJ (ygr (gN S)) else
  if k = 8 then zJ (fb_ct (gT S).1.2.2.2.2.2.2 (2 * yLs (gN S))) else if k = 9 then zJ (gT S).1.1 else if k = 10 then (gT S).1.2.1 else if k = 11 then zfj (gT S).1.2.2.1 else if k = 12 then zJ (gT S).1.2.2.2.2.1 else
  if k = 13 then zJ (ypz (gN S) (gT S).1.2.2.2.2.2.2 (gT S).1.2.2.2.1) else if k = 14 then zJ (gT S).2.1 else if k = 15 then zJ (gT S).2.2.2.1 else if k = 16 then zJ (gtl S) else (gT S).2.2.2.2.2.2.2 (k - 17)
/-! the class -/
theorem tests_eq {h : zH} {N : yN} {f g : Nat} (hn : yOKn N) (hc : yCAT h (yE N) (ySb N)) (hf : f < 2 * yLs N) (hg : g < 2 * yLs N) : h.2.1 121 g = h.2.1 121 f ↔ yak N f g = true := by
  obtain ⟨⟨e1, e2, e3, e4⟩, -⟩ := id hn
  have e1' : yI N ≤ 6 := e1
  have h64 := zpw6 e1'
  obtain ⟨-, -, -, -, ⟨c5, -⟩, -⟩ := hc
  unfold yak
  rw [Bool.not_eq_true', zex_no]
  constructor
  · intro h1 r hr
    have a1 := c5 f hf r (by omega)
    have a2 := c5 g hg r (by omega)
    rw [h1, a1] at a2
    rw [show decide (r < 2 ^ (yE N).1) = true from decide_eq_true hr, Bool.true_and, Bool.true_and] at a2
    rw [a2]
    simp
  · intro h1
    apply zBl_ext
    intro r hr
    rw [c5 f hf r hr, c5 g hg r hr]
    by_cases hr2 : r < 2 ^ yI N
    · have := h1 r hr2
      simp at this
      rw [this]
    · rw [show decide (r < 2 ^ (yE N).1) = false from decide_eq_false hr2]
      rfl
theorem leastAlike_c {h : zH} {N : yN} {f : Nat} (hn : yOKn N) (hc : yCAT h (yE N) (ySb N)) (hf : f < 2 * yLs N) : zw (f_Catalog_leastAlike h (zJ f)) fun x => x = zJ (yla N f) := by
  obtain ⟨⟨e1, e2, e3, e4⟩, -⟩ := id hn
  have e1' : yI N ≤ 6 := e1
  have e3' : yLs N ≤ yI N + 16 := e3
  have fin : ∀ g, g ≤ f → yak N f g = true → (∀ j, j < g → yak N f j = false) → yla N f = g := by
    intro g h1 h2 h3
    unfold yla
    rw [yfd_eq h2 h3]
    omega
  unfold f_Catalog_leastAlike
  refine zw_bi (P := Sum.elim (fun y => y = zJ (yla N f)) (fun _ => ∀ j, j < f → yak N f j = false)) (zw_for f (fun k s => s = zJ k ∧ ∀ j, j < k → yak N f j = false) (by omega) ⟨rfl, fun j hj => by omega⟩ ?_) ?_
  · rintro k s hk ⟨rfl, hv⟩
    unfold f_Catalog_leastAlike_b2
    by_cases hkm : k < f
    · have he := tests_eq (g := k) hn hc hf (by omega)
      simp (disch := omega) only [zg_tr, zb_t, zJ_lt, zJ_le, zJ_inj, zJ_ltl, zJ_lel, zJ_eql, zJ_llt, zJ_lle, zJ_leq, zJ_m1, zJ_m1r, zJ_nle_m1, zJ_m1lt, zJ_add, zJ_al, zJ_mull, zJ_c, zJ_mlr, zJ_cl, zJ_sub, zJ_subl, zJ_neg, zJ_divl, zreml, zshl_1, zshr_J, zushr_J, zJ_and1, if_pos, if_neg, Option.bind_some, zI_eq, zI_ne, zI_nk, zI_2, zL_1, zL_eq, zL_ne, zL_nk, zL_22]
      cases hak : yak N f k
      · rw [if_pos (fun h1 => by rw [he.mp h1] at hak; cases hak)]
        refine zw_some ⟨hkm, rfl, fun j hj => ?_⟩
        by_cases hjk : j = k
        · subst hjk
          exact hak
        · exact hv j (by omega)
      · rw [if_neg (fun h1 => h1 (he.mpr hak))]
        refine zw_some ?_
        show zJ k = _
        rw [fin k hk hak hv]
    · have : k = f := by omega
      subst this
      simp (disch := omega) only [zg_tr, zb_t, zJ_lt, zJ_le, zJ_inj, zJ_ltl, zJ_lel, zJ_eql, zJ_llt, zJ_lle, zJ_leq, zJ_m1, zJ_m1r, zJ_nle_m1, zJ_m1lt, zJ_add, zJ_al, zJ_mull, zJ_c, zJ_mlr, zJ_cl, zJ_sub, zJ_subl, zJ_neg, zJ_divl, zreml, zshl_1, zshr_J, zushr_J, zJ_and1, if_pos, if_neg, Option.bind_some, zI_eq, zI_ne, zI_nk, zI_2, zL_1, zL_eq, zL_ne, zL_nk, zL_22]
      exact zw_some hv
  · rintro (y | y) hy
    · exact zw_some hy
    · refine zw_some ?_
      rw [fin f (Nat.le_refl f) yak_self hy]
theorem countGroups_c {h : zH} {N : yN} (hn : yOKn N) (hc : yCAT h (yE N) (ySb N)) : zw (f_Catalog_countGroups h) fun x => x = zJ (ygr N) := by
  obtain ⟨⟨e1, e2, e3, e4⟩, -⟩ := id hn
  have e1' : yI N ≤ 6 := e1
  have e3' : yLs N ≤ yI N + 16 := e3
  have c1 : h.1 74 0 = zJ (2 * yLs N) := hc.1
  unfold f_Catalog_countGroups
  refine zw_bi (P := fun x => x = zJ (ygr N)) (zw_for (2 * yLs N) (fun k s => s = (zJ (fb_ct (fun f => yfnd N f && yla N f == f) k), zJ k)) (by omega) rfl ?_) (fun x hx => zw_some hx)
  rintro k s hk rfl
  dsimp only
  unfold f_Catalog_countGroups_b4
  by_cases hkm : k < 2 * yLs N
  · rw [isLost_c hc.2.2.2.2.1 hkm (by omega)]
    simp (disch := omega) only [zg_tr, zb_t, zJ_lt, zJ_le, zJ_inj, zJ_ltl, zJ_lel, zJ_eql, zJ_llt, zJ_lle, zJ_leq, zJ_m1, zJ_m1r, zJ_nle_m1, zJ_m1lt, zJ_add, zJ_al, zJ_mull, zJ_c, zJ_mlr, zJ_cl, zJ_sub, zJ_subl, zJ_neg, zJ_divl, zreml, zshl_1, zshr_J, zushr_J, zJ_and1, if_pos, if_neg, Option.bind_some, zI_eq, zI_ne, zI_nk, zI_2, zL_1, zL_eq, zL_ne, zL_nk, zL_22, c1]
    rw [fb_ct_succ]
    cases hfd : yfnd N k
    · have : decide (0 < zct (yE N) (ySb N) k (2 ^ (yE N).1)) = false := hfd
      rw [this, if_pos (by decide), Bool.false_and, if_neg (by decide)]
      exact zw_some ⟨hkm, rfl⟩
    · have : decide (0 < zct (yE N) (ySb N) k (2 ^ (yE N).1)) = true := hfd
      rw [this, if_neg (by decide), Bool.true_and]
      refine zw_bi (leastAlike_c hn hc hkm) ?_
      rintro x rfl
      have hle : yla N k ≤ k := by
        unfold yla
        have : ∀ n, yfd (yak N k) n ≤ k ∨ n ≤ k := by
          intro n
          induction n with
          | zero => exact Or.inr (by omega)
          | succ n ih =>
            unfold yfd
            by_cases h1 : yfd (yak N k) n < n
            · rw [if_pos h1]
              rcases ih with ih | ih
              · exact Or.inl ih
              · exact Or.inl (by omega)
            · rw [if_neg h1]
              by_cases h2 : n = k
              · subst h2
                rw [yak_self, if_pos rfl]
                exact Or.inl (Nat.le_refl n)
              · rcases ih with ih | ih
                · exact Or.inl (by split <;> omega)
                · exact Or.inr (by omega)
        rcases this (2 * yLs N) with h | h <;> omega
      simp (disch := omega) only [zg_tr, zb_t, zJ_lt, zJ_le, zJ_inj, zJ_ltl, zJ_lel, zJ_eql, zJ_llt, zJ_lle, zJ_leq, zJ_m1, zJ_m1r, zJ_nle_m1, zJ_m1lt, zJ_add, zJ_al, zJ_mull, zJ_c, zJ_mlr, zJ_cl, zJ_sub, zJ_subl, zJ_neg, zJ_divl, zreml, zshl_1, zshr_J, zushr_J, zJ_and1, if_pos, if_neg, Option.bind_some, zI_eq, zI_ne, zI_nk, zI_2, zL_1, zL_eq, zL_ne, zL_nk, zL_22]
      by_cases hlk : yla N k = k
      · simp (disch := omega) only [zg_tr, zb_t, zJ_lt, zJ_le, zJ_inj, zJ_ltl, zJ_lel, zJ_eql, zJ_llt, zJ_lle, zJ_leq, zJ_m1, zJ_m1r, zJ_nle_m1, zJ_m1lt, zJ_add, zJ_al, zJ_mull, zJ_c, zJ_mlr, zJ_cl, zJ_sub, zJ_subl, zJ_neg, zJ_divl, zreml, zshl_1, zshr_J, zushr_J, zJ_and1, if_pos, if_neg, Option.bind_some, zI_eq, zI_ne, zI_nk, zI_2, zL_1, zL_eq, zL_ne, zL_nk, zL_22]
        rw [if_pos (by simpa using hlk)]
        exact zw_some ⟨hkm, rfl⟩
      · simp (disch := omega) only [zg_tr, zb_t, zJ_lt, zJ_le, zJ_inj, zJ_ltl, zJ_lel, zJ_eql, zJ_llt, zJ_lle, zJ_leq, zJ_m1, zJ_m1r, zJ_nle_m1, zJ_m1lt, zJ_add, zJ_al, zJ_mull, zJ_c, zJ_mlr, zJ_cl, zJ_sub, zJ_subl, zJ_neg, zJ_divl, zreml, zshl_1, zshr_J, zushr_J, zJ_and1, if_pos, if_neg, Option.bind_some, zI_eq, zI_ne, zI_nk, zI_2, zL_1, zL_eq, zL_ne, zL_nk, zL_22]
        rw [if_neg (by simpa using hlk)]
        exact zw_some ⟨hkm, rfl⟩
  · have : k = 2 * yLs N := by omega
    subst this
    simp (disch := omega) only [zg_tr, zb_t, zJ_lt, zJ_le, zJ_inj, zJ_ltl, zJ_lel, zJ_eql, zJ_llt, zJ_lle, zJ_leq, zJ_m1, zJ_m1r, zJ_nle_m1, zJ_m1lt, zJ_add, zJ_al, zJ_mull, zJ_c, zJ_mlr, zJ_cl, zJ_sub, zJ_subl, zJ_neg, zJ_divl, zreml, zshl_1, zshr_J, zushr_J, zJ_and1, if_pos, if_neg, Option.bind_some, zI_eq, zI_ne, zI_nk, zI_2, zL_1, zL_eq, zL_ne, zL_nk, zL_22, c1]
    exact zw_some rfl
theorem planNow_c {h : zH} {S : yG} (ho : yOK S) (hi : yIc h S) : zw (f_Main_planNow h) fun g => zfm [(137, 140, 0, 9999)] h g ∧ yIc g S ∧ yPB g (gN S) (gT S).1.2.2.2.2.2.2 (gT S).1.2.2.2.1 := by
  obtain ⟨⟨W, D, w1, w2, w3, w4⟩, i2, i3, i4, i5, i6, i7, i8, i9⟩ := hi
  obtain ⟨s1, s2, s3, s4, s5, s6, s7⟩ := i3.1
  obtain ⟨hn, ht, -⟩ := id ho
  obtain ⟨o1, o2, o3, o4, o5, o6⟩ := ht.1
  unfold f_Main_planNow
  rw [w2, zgr_eq, s4]
  refine zw_bi (build_c hn i2 w4 (by omega) s7 o6 o3 i6) ?_
  rintro g ⟨q, hB⟩
  refine zw_some ⟨q, ⟨⟨W, D, w1, by rw [q.1]; exact w2, by rw [q.1]; exact w3, w4.fr hn q (fun a k h1 h2 => zin_n1 (by omega))⟩, i2.fr hn.1 q (fun a k h1 h2 => zin_n1 (by omega)), i3.fr q (fun a k h1 h2 => zin_n1 (by omega)), fun him => (i4 him).fr q (fun a k h1 h2 => zin_n1 (by omega)), (q.i (by rfl)).trans i5, Or.inr ⟨_, _, o6, o3, hB⟩, (q.i (by rfl)).trans i7, fun k hk => (q.i (zin_n1 (by omega))).trans (i8 k hk), (q.i (by rfl)).trans i9⟩, hB⟩
theorem found_ct {h : zH} {N : yN} (hn : yOKn N) (hc : yCAT h (yE N) (ySb N)) : f_Long_bitCount (h.2.1 74 3) = some (zJ (fb_ct (yfnd N) (2 * yLs N))) := by
  obtain ⟨⟨e1, e2, e3, e4⟩, -⟩ := id hn
  have e1' : yI N ≤ 6 := e1
  have e3' : yLs N ≤ yI N + 16 := e3
  obtain ⟨-, c5⟩ := hc.2.2.2.2.1
  rw [bitCount_L, fb_ext (n := 2 * yLs N) (by omega) (fun f f1 f2 => ?_)]
  · congr 2
    refine fb_ct_cong (fun f hf => ?_)
    rw [c5 f (by omega), show decide (f < 2 * (yE N).2.1) = true from decide_eq_true hf]
    rfl
  · rw [c5 f f2, show decide (f < 2 * (yE N).2.1) = false from decide_eq_false (by show ¬ f < 2 * yLs N; omega)]
    rfl
theorem count_c {h : zH} {S : yG} {k : Nat} (ho : yOK S) (hi : yIc h S) (hk : k ≤ 19) : zw (f_Main_count h (zJ k)) fun x => ∃ g, x = .inl (ycnt S k, g) ∧ zfm yLc h g ∧ yIc g S := by
  obtain ⟨⟨W, D, w1, w2, w3, w4⟩, i2, i3, i4, i5, i6, i7, i8, i9⟩ := id hi
  obtain ⟨⟨s1, s2, s3, s4, s5, s6, s7⟩, t2, t3, t4, t5, t6⟩ := id i3
  obtain ⟨hn, ht, -⟩ := id ho
  obtain ⟨o1, o2, o3, o4, o5, o6⟩ := ht.1
  obtain ⟨⟨e1, e2, e3, e4⟩, -⟩ := id hn
  have e1' : yI (gN S) ≤ 6 := e1
  have e3' : yLs (gN S) ≤ yI (gN S) + 16 := e3
  have same : ∀ v : Int32, v = ycnt S k → zw (some (.inl (v, h) : (Int32 × zH) ⊕ (Nat × zH))) fun x => ∃ g, x = .inl (ycnt S k, g) ∧ zfm yLc h g ∧ yIc g S := fun v hv => zw_some ⟨h, by rw [hv], zfm.rfl', hi⟩
  unfold f_Main_count
  rcases (by omega : k = 0 ∨ k = 1 ∨ k = 2 ∨ k = 3 ∨ k = 4 ∨ k = 5 ∨ k = 6 ∨ k = 7 ∨ k = 8 ∨ k = 9 ∨ k = 10 ∨ k = 11 ∨ k = 12 ∨ k = 13 ∨ k = 14 ∨ k = 15 ∨ k = 16 ∨ 17 ≤ k) with e | e | e | e | e | e | e | e | e | e | e | e | e | e | e | e | e | e
  · simp (disch := omega) only [zg_tr, zb_t, zJ_lt, zJ_le, zJ_inj, zJ_ltl, zJ_lel, zJ_eql, zJ_llt, zJ_lle, zJ_leq, zJ_m1, zJ_m1r, zJ_nle_m1, zJ_m1lt, zJ_add, zJ_al, zJ_mull, zJ_c, zJ_mlr, zJ_cl, zJ_sub, zJ_subl, zJ_neg, zJ_divl, zreml, zshl_1, zshr_J, zushr_J, zJ_and1, if_pos, if_neg, Option.bind_some, zI_eq, zI_ne, zI_nk, zI_2, zL_1, zL_eq, zL_ne, zL_nk, zL_22, f_Main_countOfNet, w2, zgr_eq, w4.1.1]
    exact same _ (by unfold ycnt; simp [e])
  · simp (disch := omega) only [zg_tr, zb_t, zJ_lt, zJ_le, zJ_inj, zJ_ltl, zJ_lel, zJ_eql, zJ_llt, zJ_lle, zJ_leq, zJ_m1, zJ_m1r, zJ_nle_m1, zJ_m1lt, zJ_add, zJ_al, zJ_mull, zJ_c, zJ_mlr, zJ_cl, zJ_sub, zJ_subl, zJ_neg, zJ_divl, zreml, zshl_1, zshr_J, zushr_J, zJ_and1, if_pos, if_neg, Option.bind_some, zI_eq, zI_ne, zI_nk, zI_2, zL_1, zL_eq, zL_ne, zL_nk, zL_22, f_Main_countOfNet, w2, zgr_eq, w4.1.2.1]
    exact same _ (by unfold ycnt; simp [e])
  · simp (disch := omega) only [zg_tr, zb_t, zJ_lt, zJ_le, zJ_inj, zJ_ltl, zJ_lel, zJ_eql, zJ_llt, zJ_lle, zJ_leq, zJ_m1, zJ_m1r, zJ_nle_m1, zJ_m1lt, zJ_add, zJ_al, zJ_mull, zJ_c, zJ_mlr, zJ_cl, zJ_sub, zJ_subl, zJ_neg, zJ_divl, zreml, zshl_1, zshr_J, zushr_J, zJ_and1, if_pos, if_neg, Option.bind_some, zI_eq, zI_ne, zI_nk, zI_2, zL_1, zL_eq, zL_ne, zL_nk, zL_22, f_Main_countOfNet, w2, zgr_eq, bitCount_I]
    refine same _ ?_
    unfold ycnt
    simp only [e, if_true, Nat.reduceEqDiff, if_false]
    rw [fb_ext (n := yLs (gN S)) (by omega) (fun f f1 f2 => by rw [w4.2.1 f f2]; simp [show ¬ f < yLs (gN S) by omega])]
    congr 1
    exact fb_ct_cong (fun f hf => by rw [w4.2.1 f (by omega), decide_eq_true hf, Bool.true_and])
  · simp (disch := omega) only [zg_tr, zb_t, zJ_lt, zJ_le, zJ_inj, zJ_ltl, zJ_lel, zJ_eql, zJ_llt, zJ_lle, zJ_leq, zJ_m1, zJ_m1r, zJ_nle_m1, zJ_m1lt, zJ_add, zJ_al, zJ_mull, zJ_c, zJ_mlr, zJ_cl, zJ_sub, zJ_subl, zJ_neg, zJ_divl, zreml, zshl_1, zshr_J, zushr_J, zJ_and1, if_pos, if_neg, Option.bind_some, zI_eq, zI_ne, zI_nk, zI_2, zL_1, zL_eq, zL_ne, zL_nk, zL_22, f_Main_countOfNet, w2, zgr_eq, w4.2.2.1]
    exact same _ (by unfold ycnt; simp [e])
  · simp (disch := omega) only [zg_tr, zb_t, zJ_lt, zJ_le, zJ_inj, zJ_ltl, zJ_lel, zJ_eql, zJ_llt, zJ_lle, zJ_leq, zJ_m1, zJ_m1r, zJ_nle_m1, zJ_m1lt, zJ_add, zJ_al, zJ_mull, zJ_c, zJ_mlr, zJ_cl, zJ_sub, zJ_subl, zJ_neg, zJ_divl, zreml, zshl_1, zshr_J, zushr_J, zJ_and1, if_pos, if_neg, Option.bind_some, zI_eq, zI_ne, zI_nk, zI_2, zL_1, zL_eq, zL_ne, zL_nk, zL_22, f_Main_countOfNet, s4]
    exact same _ (by unfold ycnt; simp [e])
  · simp (disch := omega) only [zg_tr, zb_t, zJ_lt, zJ_le, zJ_inj, zJ_ltl, zJ_lel, zJ_eql, zJ_llt, zJ_lle, zJ_leq, zJ_m1, zJ_m1r, zJ_nle_m1, zJ_m1lt, zJ_add, zJ_al, zJ_mull, zJ_c, zJ_mlr, zJ_cl, zJ_sub, zJ_subl, zJ_neg, zJ_divl, zreml, zshl_1, zshr_J, zushr_J, zJ_and1, if_pos, if_neg, Option.bind_some, zI_eq, zI_ne, zI_nk, zI_2, zL_1, zL_eq, zL_ne, zL_nk, zL_22, f_Main_countOfNet, i2.1]
    exact same _ (by unfold ycnt; simp [e])
  · have hle := fb_ct_le (yfnd (gN S)) (2 * yLs (gN S))
    have hnot := fb_ct_not (yfnd (gN S)) (2 * yLs (gN S))
    simp (disch := omega) only [zg_tr, zb_t, zJ_lt, zJ_le, zJ_inj, zJ_ltl, zJ_lel, zJ_eql, zJ_llt, zJ_lle, zJ_leq, zJ_m1, zJ_m1r, zJ_nle_m1, zJ_m1lt, zJ_add, zJ_al, zJ_mull, zJ_c, zJ_mlr, zJ_cl, zJ_sub, zJ_subl, zJ_neg, zJ_divl, zreml, zshl_1, zshr_J, zushr_J, zJ_and1, if_pos, if_neg, Option.bind_some, zI_eq, zI_ne, zI_nk, zI_2, zL_1, zL_eq, zL_ne, zL_nk, zL_22, f_Main_countOfNet, i2.1, found_ct hn i2]
    refine same _ ?_
    unfold ycnt
    simp only [e, if_true, Nat.reduceEqDiff, if_false]
    congr 1
    show 2 * yLs (gN S) - _ = _
    omega
  · simp (disch := omega) only [zg_tr, zb_t, zJ_lt, zJ_le, zJ_inj, zJ_ltl, zJ_lel, zJ_eql, zJ_llt, zJ_lle, zJ_leq, zJ_m1, zJ_m1r, zJ_nle_m1, zJ_m1lt, zJ_add, zJ_al, zJ_mull, zJ_c, zJ_mlr, zJ_cl, zJ_sub, zJ_subl, zJ_neg, zJ_divl, zreml, zshl_1, zshr_J, zushr_J, zJ_and1, if_pos, if_neg, Option.bind_some, zI_eq, zI_ne, zI_nk, zI_2, zL_1, zL_eq, zL_ne, zL_nk, zL_22, f_Main_countOfNet]
    refine zw_bi (zw_bi (countGroups_c hn i2) (fun x hx => zw_some hx)) ?_
    rintro x rfl
    exact same _ (by unfold ycnt; simp [e])
  · simp (disch := omega) only [zg_tr, zb_t, zJ_lt, zJ_le, zJ_inj, zJ_ltl, zJ_lel, zJ_eql, zJ_llt, zJ_lle, zJ_leq, zJ_m1, zJ_m1r, zJ_nle_m1, zJ_m1lt, zJ_add, zJ_al, zJ_mull, zJ_c, zJ_mlr, zJ_cl, zJ_sub, zJ_subl, zJ_neg, zJ_divl, zreml, zshl_1, zshr_J, zushr_J, zJ_and1, if_pos, if_neg, Option.bind_some, zI_eq, zI_ne, zI_nk, zI_2, zL_1, zL_eq, zL_ne, zL_nk, zL_22, f_Main_countOfMachine, bitCount_L]
    refine same _ ?_
    unfold ycnt
    simp only [e, if_true, Nat.reduceEqDiff, if_false]
    rw [fb_ext (n := 2 * yLs (gN S)) (by omega) (fun f f1 f2 => ?_)]
    · congr 1
      exact fb_ct_cong (fun f hf => s7 f (by omega))
    · rw [s7 f f2]
      cases hz : (gT S).1.2.2.2.2.2.2 f
      · rfl
      · exact absurd (o6 f hz) (by omega)
  · simp (disch := omega) only [zg_tr, zb_t, zJ_lt, zJ_le, zJ_inj, zJ_ltl, zJ_lel, zJ_eql, zJ_llt, zJ_lle, zJ_leq, zJ_m1, zJ_m1r, zJ_nle_m1, zJ_m1lt, zJ_add, zJ_al, zJ_mull, zJ_c, zJ_mlr, zJ_cl, zJ_sub, zJ_subl, zJ_neg, zJ_divl, zreml, zshl_1, zshr_J, zushr_J, zJ_and1, if_pos, if_neg, Option.bind_some, zI_eq, zI_ne, zI_nk, zI_2, zL_1, zL_eq, zL_ne, zL_nk, zL_22, f_Main_countOfMachine, s1]
    exact same _ (by unfold ycnt; simp [e])
  · simp (disch := omega) only [zg_tr, zb_t, zJ_lt, zJ_le, zJ_inj, zJ_ltl, zJ_lel, zJ_eql, zJ_llt, zJ_lle, zJ_leq, zJ_m1, zJ_m1r, zJ_nle_m1, zJ_m1lt, zJ_add, zJ_al, zJ_mull, zJ_c, zJ_mlr, zJ_cl, zJ_sub, zJ_subl, zJ_neg, zJ_divl, zreml, zshl_1, zshr_J, zushr_J, zJ_and1, if_pos, if_neg, Option.bind_some, zI_eq, zI_ne, zI_nk, zI_2, zL_1, zL_eq, zL_ne, zL_nk, zL_22, f_Main_countOfMachine, s2]
    exact same _ (by unfold ycnt; simp [e])
  · simp (disch := omega) only [zg_tr, zb_t, zJ_lt, zJ_le, zJ_inj, zJ_ltl, zJ_lel, zJ_eql, zJ_llt, zJ_lle, zJ_leq, zJ_m1, zJ_m1r, zJ_nle_m1, zJ_m1lt, zJ_add, zJ_al, zJ_mull, zJ_c, zJ_mlr, zJ_cl, zJ_sub, zJ_subl, zJ_neg, zJ_divl, zreml, zshl_1, zshr_J, zushr_J, zJ_and1, if_pos, if_neg, Option.bind_some, zI_eq, zI_ne, zI_nk, zI_2, zL_1, zL_eq, zL_ne, zL_nk, zL_22, f_Main_countOfMachine, s3]
    exact same _ (by unfold ycnt; simp [e])
  · simp (disch := omega) only [zg_tr, zb_t, zJ_lt, zJ_le, zJ_inj, zJ_ltl, zJ_lel, zJ_eql, zJ_llt, zJ_lle, zJ_leq, zJ_m1, zJ_m1r, zJ_nle_m1, zJ_m1lt, zJ_add, zJ_al, zJ_mull, zJ_c, zJ_mlr, zJ_cl, zJ_sub, zJ_subl, zJ_neg, zJ_divl, zreml, zshl_1, zshr_J, zushr_J, zJ_and1, if_pos, if_neg, Option.bind_some, zI_eq, zI_ne, zI_nk, zI_2, zL_1, zL_eq, zL_ne, zL_nk, zL_22, f_Main_countOfMachine, s5]
    exact same _ (by unfold ycnt; simp [e])
  · simp (disch := omega) only [zg_tr, zb_t, zJ_lt, zJ_le, zJ_inj, zJ_ltl, zJ_lel, zJ_eql, zJ_llt, zJ_lle, zJ_leq, zJ_m1, zJ_m1r, zJ_nle_m1, zJ_m1lt, zJ_add, zJ_al, zJ_mull, zJ_c, zJ_mlr, zJ_cl, zJ_sub, zJ_subl, zJ_neg, zJ_divl, zreml, zshl_1, zshr_J, zushr_J, zJ_and1, if_pos, if_neg, Option.bind_some, zI_eq, zI_ne, zI_nk, zI_2, zL_1, zL_eq, zL_ne, zL_nk, zL_22, f_Main_countOfMachine]
    refine zw_bi (zw_bi (planNow_c ho hi) (fun g hg => zw_some (Q := fun x => ∃ g, x = (g.1 137 3, g) ∧ zfm [(137, 140, 0, 9999)] h g ∧ yIc g S ∧ yPB g (gN S) (gT S).1.2.2.2.2.2.2 (gT S).1.2.2.2.1) ⟨g, rfl, hg⟩)) ?_
    rintro x ⟨g, rfl, q1, q2, q3⟩
    refine zw_some ⟨g, ?_, q1.sub rfl, q2⟩
    rw [q3.2.2.2.1]
    unfold ycnt
    simp [e]
  · simp (disch := omega) only [zg_tr, zb_t, zJ_lt, zJ_le, zJ_inj, zJ_ltl, zJ_lel, zJ_eql, zJ_llt, zJ_lle, zJ_leq, zJ_m1, zJ_m1r, zJ_nle_m1, zJ_m1lt, zJ_add, zJ_al, zJ_mull, zJ_c, zJ_mlr, zJ_cl, zJ_sub, zJ_subl, zJ_neg, zJ_divl, zreml, zshl_1, zshr_J, zushr_J, zJ_and1, if_pos, if_neg, Option.bind_some, zI_eq, zI_ne, zI_nk, zI_2, zL_1, zL_eq, zL_ne, zL_nk, zL_22, f_Main_countOfMachine, t2]
    exact same _ (by unfold ycnt; simp [e])
  · simp (disch := omega) only [zg_tr, zb_t, zJ_lt, zJ_le, zJ_inj, zJ_ltl, zJ_lel, zJ_eql, zJ_llt, zJ_lle, zJ_leq, zJ_m1, zJ_m1r, zJ_nle_m1, zJ_m1lt, zJ_add, zJ_al, zJ_mull, zJ_c, zJ_mlr, zJ_cl, zJ_sub, zJ_subl, zJ_neg, zJ_divl, zreml, zshl_1, zshr_J, zushr_J, zJ_and1, if_pos, if_neg, Option.bind_some, zI_eq, zI_ne, zI_nk, zI_2, zL_1, zL_eq, zL_ne, zL_nk, zL_22, f_Main_countOfMachine, t4]
    exact same _ (by unfold ycnt; simp [e])
  · simp (disch := omega) only [zg_tr, zb_t, zJ_lt, zJ_le, zJ_inj, zJ_ltl, zJ_lel, zJ_eql, zJ_llt, zJ_lle, zJ_leq, zJ_m1, zJ_m1r, zJ_nle_m1, zJ_m1lt, zJ_add, zJ_al, zJ_mull, zJ_c, zJ_mlr, zJ_cl, zJ_sub, zJ_subl, zJ_neg, zJ_divl, zreml, zshl_1, zshr_J, zushr_J, zJ_and1, if_pos, if_neg, Option.bind_some, zI_eq, zI_ne, zI_nk, zI_2, zL_1, zL_eq, zL_ne, zL_nk, zL_22, f_Main_countOfMachine, i7]
    exact same _ (by unfold ycnt; simp [e])
  · simp (disch := omega) only [zg_tr, zb_t, zJ_lt, zJ_le, zJ_inj, zJ_ltl, zJ_lel, zJ_eql, zJ_llt, zJ_lle, zJ_leq, zJ_m1, zJ_m1r, zJ_nle_m1, zJ_m1lt, zJ_add, zJ_al, zJ_mull, zJ_c, zJ_mlr, zJ_cl, zJ_sub, zJ_subl, zJ_neg, zJ_divl, zreml, zshl_1, zshr_J, zushr_J, zJ_and1, if_pos, if_neg, Option.bind_some, zI_eq, zI_ne, zI_nk, zI_2, zL_1, zL_eq, zL_ne, zL_nk, zL_22, t6]
    refine same _ ?_
    unfold ycnt
    simp [show k ≠ 0 by omega, show k ≠ 1 by omega, show k ≠ 2 by omega, show k ≠ 3 by omega, show k ≠ 4 by omega, show k ≠ 5 by omega, show k ≠ 6 by omega, show k ≠ 7 by omega, show k ≠ 8 by omega, show k ≠ 9 by omega, show k ≠ 10 by omega, show k ≠ 11 by omega, show k ≠ 12 by omega, show k ≠ 13 by omega, show k ≠ 14 by omega, show k ≠ 15 by omega, show k ≠ 16 by omega]
