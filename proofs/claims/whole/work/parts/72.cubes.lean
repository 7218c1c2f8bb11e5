/-! ===== the class: cubes ===== -/
theorem yB1shl {b : Bool} {r j : Nat} (hr : r < 64) (hj : j < 64) : zBl (zlshl (zbI b).toInt64 (zJ r)) j = (decide (j = r) && b) := by
  rw [zBl_shl _ hr]
  cases b
  · have e : (zbI false).toInt64 = 0 := rfl
    rw [e, zBl_0]
    simp
  · have e : (zbI true).toInt64 = 1 := rfl
    rw [e, zBl_one]
    by_cases h : j = r
    · subst h
      simp [hj]
    · by_cases h2 : j < r
      · simp [h, h2]
      · simp [h, h2, show ¬ j - r = 0 by omega]
def ylt (a b : Nat) : Bool := decide (a < b)
/-- the inputs of so many rows from F on -/
def yIN (h : zH) (n F : Nat) (N : Nat → Nat) : Prop := ∀ i, i < 6 → ∀ r, r < 64 → zBl (h.2.1 128 i) r = (ylt r (N i) && (decide (i < n) && (ydg n (F + r) i == 1))) ∧ zBl (h.2.1 129 i) r = (ylt r (N i) && (decide (i < n) && (ydg n (F + r) i == 0)))
theorem setRow_c {h : zH} {n F r N : Nat} (hn : n ≤ 6) (hr : r < 64) (hq : F + r < N) (hT : yRT h n N) (hI : yIN h n F (fun _ => r)) : zw (zit zFU (fun s : Int32 × zH => f_Catalog_setCubeRows_b48 s.2 (zJ n) (zJ F) (zJ r) (h.1 125 (F + r)) (h.1 126 (F + r)) s.1) (0, h)) fun g => zfm [(128, 129, 0, 9999)] h g ∧ yIN g n F (fun _ => r + 1) := by
  refine zw_for n (fun k s => s.1 = zJ k ∧ zfm [(128, 129, 0, 9999)] h s.2 ∧ yIN s.2 n F (fun i => if i < k then r + 1 else r)) (by omega) ⟨rfl, zfm.rfl', fun i hi => hI i hi⟩ ?_
  rintro k ⟨a, g⟩ hk ⟨rfl, hz, hv⟩
  dsimp only at hz hv ⊢
  unfold f_Catalog_setCubeRows_b48 f_Main_bitOf
  by_cases hkm : k < n
  · obtain ⟨t1, t2⟩ := hT (F + r) hq k (by omega)
    have b1 : zBi (h.1 126 (F + r)) k = (ydg n (F + r) k == 1) := by rw [t2]; simp [hkm]
    have b2 : zBi (h.1 125 (F + r) &&& (h.1 126 (F + r) ^^^ (-1))) k = (ydg n (F + r) k == 0) := by
      rw [zBi_and, zBi_xor, zBi_m1 (by omega), t1, t2]
      have := ydg_le (n := n) (q := F + r) (i := k)
      rcases (by omega : ydg n (F + r) k = 0 ∨ ydg n (F + r) k = 1 ∨ ydg n (F + r) k = 2) with c | c | c <;> rw [c] <;> simp [hkm]
    have hv0 := hv k (by omega)
    simp only [Nat.lt_irrefl, if_false] at hv0
    rw [ybit (by omega), ybit (by omega), b1, b2]
    simp (disch := omega) only [zg_tr, zb_t, zJ_lt, zJ_le, zJ_inj, zJ_ltl, zJ_lel, zJ_eql, zJ_llt, zJ_lle, zJ_leq, zJ_m1, zJ_m1r, zJ_nle_m1, zJ_m1lt, zJ_add, zJ_al, zJ_mull, zJ_c, zJ_mlr, zJ_cl, zJ_sub, zJ_subl, zJ_neg, zJ_divl, zreml, zshl_1, zshr_J, zushr_J, zJ_and1, if_pos, if_neg, Option.bind_some, zI_eq, zI_ne, zI_nk, zI_2, zL_1, zL_eq, zL_ne, zL_nk, zL_22, setInput_c]
    refine zw_some ⟨hkm, rfl, (hz.Lg (zin_1 (by omega) (by omega) (by omega) (by omega))).Lg (zin_1 (by omega) (by omega) (by omega) (by omega)), fun i hi j hj => ?_⟩
    dsimp only
    by_cases hik : i = k
    · subst hik
      obtain ⟨w1, w2⟩ := hv0 j hj
      rw [zL_ne (by omega), zL_eq, zL_eq, if_pos (Nat.lt_succ_self i), zBl_or, zBl_or, w1, w2, yB1shl hr hj, yB1shl hr hj]
      by_cases hjr : j = r
      · subst hjr
        simp [hkm, ylt]
      · by_cases hlt : j < r
        · simp [hjr, hlt, show j < r + 1 by omega, ylt]
        · simp [hjr, hlt, show ¬ j < r + 1 by omega, ylt]
    · have ec : (if i < k + 1 then r + 1 else r) = if i < k then r + 1 else r := by
        by_cases hh : i < k
        · rw [if_pos hh, if_pos (by omega)]
        · rw [if_neg hh, if_neg (by omega)]
      have := hv i hi j hj
      dsimp only at this
      rw [zL_ne (by omega), zL_nk hik, zL_nk hik, zL_ne (by omega), ec]
      exact this
  · have : k = n := by omega
    subst this
    simp (disch := omega) only [zg_tr, zb_t, zJ_lt, zJ_le, zJ_inj, zJ_ltl, zJ_lel, zJ_eql, zJ_llt, zJ_lle, zJ_leq, zJ_m1, zJ_m1r, zJ_nle_m1, zJ_m1lt, zJ_add, zJ_al, zJ_mull, zJ_c, zJ_mlr, zJ_cl, zJ_sub, zJ_subl, zJ_neg, zJ_divl, zreml, zshl_1, zshr_J, zushr_J, zJ_and1, if_pos, if_neg, Option.bind_some, zI_eq, zI_ne, zI_nk, zI_2, zL_1, zL_eq, zL_ne, zL_nk, zL_22]
    refine zw_some ⟨hz, fun i hi r' hr' => ?_⟩
    have h9 := hv i hi r' hr'
    dsimp only at h9 ⊢
    by_cases hik : i < k
    · rw [if_pos hik] at h9
      exact h9
    · rw [h9.1, h9.2]
      simp [hik]
theorem setCubeRows_c {h : zH} {e : zEv} {F N : Nat} (he : zEok e) (hN : N ≤ 729) (hF : F < N) (hT : yRT h e.1 N) (h2 : h.1 74 2 = zJ N) : zw (f_Catalog_setCubeRows h (zJ e.1) (zJ F)) fun g => zfm [(128, 129, 0, 9999), (133, 134, 0, 9999)] h g ∧ ∀ r, r < 64 → F + r < N → yWv g 127 e (ydg e.1 (F + r)) r ∧ yWv g 132 e (ydg e.1 (F + r)) r := by
  obtain ⟨e1, e2, e3, e4⟩ := id he
  unfold f_Catalog_setCubeRows
  refine zw_bi unset_c ?_
  rintro g1 ⟨q1, q2⟩
  refine zw_bi (P := fun g => zfm [(128, 129, 0, 9999)] h g ∧ ∀ r, r < 64 → F + r < N → yWv g 127 e (ydg e.1 (F + r)) r) (zw_for (min 64 (N - F)) (fun k s => s.1 = zJ k ∧ zfm [(128, 129, 0, 9999)] h s.2 ∧ yIN s.2 e.1 F (fun _ => k)) (by omega) ⟨rfl, q1, fun i hi r hr => ?_⟩ ?_) ?_
  · dsimp only
    rw [(q2 i hi).1, (q2 i hi).2, zBl_0]
    simp [ylt]
  · rintro k ⟨i, g⟩ hk ⟨rfl, hz, hv⟩
    dsimp only at hz hv ⊢
    have r2 : g.1 74 2 = zJ N := (hz.i (by rfl)).trans h2
    have hTg : yRT g e.1 N := by
      unfold yRT
      rw [hz.ir (o := 125) (fun _ => rfl), hz.ir (o := 126) (fun _ => rfl)]
      exact hT
    unfold f_Catalog_setCubeRows_b9
    have fin : ¬ k < min 64 (N - F) → ∀ r, r < 64 → F + r < N → yWv g 127 e (ydg e.1 (F + r)) r := by
      intro hnk r hr hq i hi
      obtain ⟨v1, v2⟩ := hv i (by omega) r hr
      rw [v1, v2]
      refine ⟨?_, ?_, ydg_le⟩
      · simp [hi, ylt]
        omega
      · simp [hi, ylt]
        omega
    by_cases hkm : k < min 64 (N - F)
    · simp (disch := omega) only [zg_tr, zb_t, zJ_lt, zJ_le, zJ_inj, zJ_ltl, zJ_lel, zJ_eql, zJ_llt, zJ_lle, zJ_leq, zJ_m1, zJ_m1r, zJ_nle_m1, zJ_m1lt, zJ_add, zJ_al, zJ_mull, zJ_c, zJ_mlr, zJ_cl, zJ_sub, zJ_subl, zJ_neg, zJ_divl, zreml, zshl_1, zshr_J, zushr_J, zJ_and1, if_pos, if_neg, Option.bind_some, zI_eq, zI_ne, zI_nk, zI_2, zL_1, zL_eq, zL_ne, zL_nk, zL_22, r2]
      refine zw_bi (setRow_c e1 (by omega) (by omega) hTg hv) ?_
      rintro g2 ⟨q3, q4⟩
      exact zw_some ⟨hkm, by simp (disch := omega) only [zg_tr, zb_t, zJ_lt, zJ_le, zJ_inj, zJ_ltl, zJ_lel, zJ_eql, zJ_llt, zJ_lle, zJ_leq, zJ_m1, zJ_m1r, zJ_nle_m1, zJ_m1lt, zJ_add, zJ_al, zJ_mull, zJ_c, zJ_mlr, zJ_cl, zJ_sub, zJ_subl, zJ_neg, zJ_divl, zreml, zshl_1, zshr_J, zushr_J, zJ_and1, if_pos, if_neg, Option.bind_some, zI_eq, zI_ne, zI_nk, zI_2, zL_1, zL_eq, zL_ne, zL_nk, zL_22], hz.trans q3, q4⟩
    · by_cases h64 : k < 64
      · simp (disch := omega) only [zg_tr, zb_t, zJ_lt, zJ_le, zJ_inj, zJ_ltl, zJ_lel, zJ_eql, zJ_llt, zJ_lle, zJ_leq, zJ_m1, zJ_m1r, zJ_nle_m1, zJ_m1lt, zJ_add, zJ_al, zJ_mull, zJ_c, zJ_mlr, zJ_cl, zJ_sub, zJ_subl, zJ_neg, zJ_divl, zreml, zshl_1, zshr_J, zushr_J, zJ_and1, if_pos, if_neg, Option.bind_some, zI_eq, zI_ne, zI_nk, zI_2, zL_1, zL_eq, zL_ne, zL_nk, zL_22, r2]
        exact zw_some ⟨hz, fin hkm⟩
      · simp (disch := omega) only [zg_tr, zb_t, zJ_lt, zJ_le, zJ_inj, zJ_ltl, zJ_lel, zJ_eql, zJ_llt, zJ_lle, zJ_leq, zJ_m1, zJ_m1r, zJ_nle_m1, zJ_m1lt, zJ_add, zJ_al, zJ_mull, zJ_c, zJ_mlr, zJ_cl, zJ_sub, zJ_subl, zJ_neg, zJ_divl, zreml, zshl_1, zshr_J, zushr_J, zJ_and1, if_pos, if_neg, Option.bind_some, zI_eq, zI_ne, zI_nk, zI_2, zL_1, zL_eq, zL_ne, zL_nk, zL_22]
        exact zw_some ⟨hz, fin hkm⟩
  · rintro g2 ⟨q3, q4⟩
    refine zw_bi (copyInputs_c (Or.inl (by omega))) ?_
    rintro g3 ⟨q5, q6⟩
    refine zw_some ⟨(q3.sub rfl).tr q5 rfl, fun r hr hq => ⟨fun i hi => ?_, fun i hi => ?_⟩⟩
    · rw [q5.l (zin_n1 (by omega)), q5.l (zin_n1 (by omega))]
      exact q4 r hr hq i hi
    · rw [(q6 i (by omega)).1, (q6 i (by omega)).2]
      exact q4 r hr hq i hi
theorem tellApart_c {h : zH} {e : zEv} {sb : Nat → Bool} {o o1 o2 f : Nat} (he : zEok e) (hc : zCE h o2 e) (hs : yCS h o2 e.2.1 sb) : zw (f_Waves_tellApart o o1 o2 h) fun x => ∀ (r : Nat) (inp : Nat → Nat), (∀ i, i < e.1 → inp i ≤ 2) → (∀ l, l < e.2.1 → yBV h o r l (zvl e inp 0 l)) → (∀ l, l < e.2.1 → yBV h o1 r l (zvl e inp f l)) → zBl x r = zcg e sb inp f := by
  obtain ⟨e1, e2, e3, e4⟩ := id he
  unfold f_Waves_tellApart
  refine zw_bi (zw_for (Q := fun x => ∀ (r : Nat) (inp : Nat → Nat), (∀ i, i < e.1 → inp i ≤ 2) → (∀ l, l < e.2.1 → yBV h o r l (zvl e inp 0 l)) → (∀ l, l < e.2.1 → yBV h o1 r l (zvl e inp f l)) → zBl x r = zcg e sb inp f) e.2.1 (fun k s => s.2 = zJ k ∧ ∀ (r : Nat) (inp : Nat → Nat), (∀ i, i < e.1 → inp i ≤ 2) → (∀ l, l < e.2.1 → yBV h o r l (zvl e inp 0 l)) → (∀ l, l < e.2.1 → yBV h o1 r l (zvl e inp f l)) → zBl s.1 r = zex (zcl1 e sb inp f) k) (by omega) ⟨rfl, fun r inp _ _ _ => zBl_0⟩ ?_) (fun x hx => zw_some hx)
  rintro k ⟨a, i⟩ hk ⟨rfl, hv⟩
  dsimp only at hv ⊢
  unfold f_Waves_tellApart_b5
  rw [lines_c he hc]
  by_cases hkm : k < e.2.1
  · rw [isSeen_c hs (by omega) hkm]
    simp (disch := omega) only [zg_tr, zb_t, zJ_lt, zJ_le, zJ_inj, zJ_ltl, zJ_lel, zJ_eql, zJ_llt, zJ_lle, zJ_leq, zJ_m1, zJ_m1r, zJ_nle_m1, zJ_m1lt, zJ_add, zJ_al, zJ_mull, zJ_c, zJ_mlr, zJ_cl, zJ_sub, zJ_subl, zJ_neg, zJ_divl, zreml, zshl_1, zshr_J, zushr_J, zJ_and1, if_pos, if_neg, Option.bind_some, zI_eq, zI_ne, zI_nk, zI_2, zL_1, zL_eq, zL_ne, zL_nk, zL_22]
    cases hsb : sb k
    · rw [if_pos zbI_f]
      refine zw_some ⟨hkm, rfl, fun r inp hi h1 h2 => ?_⟩
      dsimp only
      rw [zex_s, hv r inp hi h1 h2]
      unfold zcl1
      rw [hsb, Bool.false_and, Bool.or_false]
    · rw [if_neg (by decide : ¬ zbI true = 0)]
      refine zw_some ⟨hkm, rfl, fun r inp hi h1 h2 => ?_⟩
      dsimp only
      have w1 := zvl_le (f := f) he hi _ k (Nat.lt_succ_self k) hkm
      have w2 := zvl_le (f := 0) he hi _ k (Nat.lt_succ_self k) hkm
      obtain ⟨a1, a2⟩ := h1 k hkm
      obtain ⟨a3, a4⟩ := h2 k hkm
      rw [zex_s, zBl_or, zBl_or, zBl_and, zBl_and, hv r inp hi h1 h2, a1, a2, a3, a4]
      unfold zcl1
      rw [hsb, Bool.true_and]
      generalize zex _ k = b
      rcases (by omega : zvl e inp 0 k = 0 ∨ zvl e inp 0 k = 1 ∨ zvl e inp 0 k = 2) with c | c | c <;> rcases (by omega : zvl e inp f k = 0 ∨ zvl e inp f k = 1 ∨ zvl e inp f k = 2) with d | d | d <;> rw [c, d] <;> cases b <;> rfl
  · have : k = e.2.1 := by omega
    subst this
    simp (disch := omega) only [zg_tr, zb_t, zJ_lt, zJ_le, zJ_inj, zJ_ltl, zJ_lel, zJ_eql, zJ_llt, zJ_lle, zJ_leq, zJ_m1, zJ_m1r, zJ_nle_m1, zJ_m1lt, zJ_add, zJ_al, zJ_mull, zJ_c, zJ_mlr, zJ_cl, zJ_sub, zJ_subl, zJ_neg, zJ_divl, zreml, zshl_1, zshr_J, zushr_J, zJ_and1, if_pos, if_neg, Option.bind_some, zI_eq, zI_ne, zI_nk, zI_2, zL_1, zL_eq, zL_ne, zL_nk, zL_22]
    exact zw_some hv
/-- the best so far of a fault -/
def ybc (n b : Nat) : Nat := if b = 0 then 7 else ysz n (b - 1)
def yrd (row : Nat → Int32) (b : Nat) : Int32 := if b = 0 then 0 else row (b - 1)
def yBC (g : zH) (n b f : Nat) : Prop := g.1 124 f = zJ (ybc n b) ∧ g.1 122 f = yrd (g.1 125) b ∧ g.1 123 f = yrd (g.1 126) b
theorem improve_c {h : zH} {e : zEv} {sb : Nat → Bool} {f F N : Nat} {x : Int64} (he : zEok e) (hf : f < 44) (hN : N ≤ 729) (hF : F < N) (hT : yRT h e.1 N) (h2 : h.1 74 2 = zJ N) (hx : ∀ r, r < 64 → F + r < N → zBl x r = zcg e sb (ydg e.1 (F + r)) (f + 1)) (hb : yBC h e.1 (ybs e sb f F) f) : zw (f_Catalog_improveCube h (zJ f) (zJ F) x) fun g => zfm [(122, 124, f, f)] h g ∧ yBC g e.1 (ybs e sb f (min N (F + 64))) f := by
  obtain ⟨e1, e2, e3, e4⟩ := id he
  unfold f_Catalog_improveCube
  refine zw_bi (zw_for (Q := fun g => zfm [(122, 124, f, f)] h g ∧ yBC g e.1 (ybs e sb f (min N (F + 64))) f) (min 64 (N - F)) (fun k s => s.1 = zJ k ∧ zfm [(122, 124, f, f)] h s.2 ∧ yBC s.2 e.1 (ybs e sb f (F + k)) f) (by omega) ⟨rfl, zfm.rfl', hb⟩ ?_) (fun x hx => zw_some hx)
  rintro k ⟨i, g⟩ hk ⟨rfl, hz, hv⟩
  dsimp only at hz hv ⊢
  have r2 : g.1 74 2 = zJ N := (hz.i (zin_n1 (by omega))).trans h2
  have hTg : yRT g e.1 N := by
    unfold yRT
    rw [hz.ir (o := 125) (fun _ => zin_n1 (by omega)), hz.ir (o := 126) (fun _ => zin_n1 (by omega))]
    exact hT
  have fin : ¬ k < min 64 (N - F) → yBC g e.1 (ybs e sb f (min N (F + 64))) f := by
    intro hnk
    rw [show min N (F + 64) = F + k by omega]
    exact hv
  unfold f_Catalog_improveCube_b3
  by_cases hkm : k < min 64 (N - F)
  · have hsz := ysz_le (n := e.1) (q := F + k)
    have hbs := ybs_le (e := e) (sb := sb) (f := f) (F + k)
    have hyb : ybc e.1 (ybs e sb f (F + k)) ≤ 7 := by
      unfold ybc
      have := ysz_le (n := e.1) (q := ybs e sb f (F + k) - 1)
      split <;> omega
    simp (disch := omega) only [zg_tr, zb_t, zJ_lt, zJ_le, zJ_inj, zJ_ltl, zJ_lel, zJ_eql, zJ_llt, zJ_lle, zJ_leq, zJ_m1, zJ_m1r, zJ_nle_m1, zJ_m1lt, zJ_add, zJ_al, zJ_mull, zJ_c, zJ_mlr, zJ_cl, zJ_sub, zJ_subl, zJ_neg, zJ_divl, zreml, zshl_1, zshr_J, zushr_J, zJ_and1, if_pos, if_neg, Option.bind_some, zI_eq, zI_ne, zI_nk, zI_2, zL_1, zL_eq, zL_ne, zL_nk, zL_22, r2, rowSize_c e1 hTg]
    rw [ybitL (by omega), hx k (by omega) (by omega), hv.1]
    have same : ybs e sb f (F + (k + 1)) = ybs e sb f (F + k) → zw (some (.inl (zJ (k + 1), g))) (Sum.elim (fun s' : Int32 × zH => k < min 64 (N - F) ∧ s'.1 = zJ (k + 1) ∧ zfm [(122, 124, f, f)] h s'.2 ∧ yBC s'.2 e.1 (ybs e sb f (F + (k + 1))) f) fun g => zfm [(122, 124, f, f)] h g ∧ yBC g e.1 (ybs e sb f (min N (F + 64))) f) := by
      intro hs
      refine zw_some ⟨hkm, rfl, hz, ?_⟩
      rw [hs]
      exact hv
    cases hcc : zcg e sb (ydg e.1 (F + k)) (f + 1)
    · rw [if_pos (by decide)]
      exact same (by rw [show F + (k + 1) = F + k + 1 by omega, ybs, hcc, if_neg (by simp)])
    · rw [if_neg (by decide)]
      simp (disch := omega) only [zg_tr, zb_t, zJ_lt, zJ_le, zJ_inj, zJ_ltl, zJ_lel, zJ_eql, zJ_llt, zJ_lle, zJ_leq, zJ_m1, zJ_m1r, zJ_nle_m1, zJ_m1lt, zJ_add, zJ_al, zJ_mull, zJ_c, zJ_mlr, zJ_cl, zJ_sub, zJ_subl, zJ_neg, zJ_divl, zreml, zshl_1, zshr_J, zushr_J, zJ_and1, if_pos, if_neg, Option.bind_some, zI_eq, zI_ne, zI_nk, zI_2, zL_1, zL_eq, zL_ne, zL_nk, zL_22]
      by_cases hle : ybc e.1 (ybs e sb f (F + k)) ≤ ysz e.1 (F + k)
      · rw [if_pos hle]
        refine same ?_
        unfold ybc at hle
        rw [show F + (k + 1) = F + k + 1 by omega, ybs, hcc, if_neg]
        rintro ⟨-, h3 | h3⟩
        · rw [if_pos h3] at hle
          omega
        · by_cases h0 : ybs e sb f (F + k) = 0
          · rw [if_pos h0] at hle
            omega
          · rw [if_neg h0] at hle
            omega
      · rw [if_neg hle]
        have hnew : ybs e sb f (F + (k + 1)) = F + k + 1 := by
          unfold ybc at hle
          rw [show F + (k + 1) = F + k + 1 by omega, ybs, hcc, if_pos]
          refine ⟨rfl, ?_⟩
          by_cases h0 : ybs e sb f (F + k) = 0
          · exact Or.inl h0
          · rw [if_neg h0] at hle
            exact Or.inr (by omega)
        refine zw_some ⟨hkm, rfl, ((hz.I (zin_1 (by omega) (by omega) (by omega) (by omega))).I (zin_1 (by omega) (by omega) (by omega) (by omega))).I (zin_1 (by omega) (by omega) (by omega) (by omega)), ?_⟩
        dsimp only
        rw [hnew]
        unfold yBC ybc yrd
        simp (disch := omega) only [zg_tr, zb_t, zJ_lt, zJ_le, zJ_inj, zJ_ltl, zJ_lel, zJ_eql, zJ_llt, zJ_lle, zJ_leq, zJ_m1, zJ_m1r, zJ_nle_m1, zJ_m1lt, zJ_add, zJ_al, zJ_mull, zJ_c, zJ_mlr, zJ_cl, zJ_sub, zJ_subl, zJ_neg, zJ_divl, zreml, zshl_1, zshr_J, zushr_J, zJ_and1, if_pos, if_neg, Option.bind_some, zI_eq, zI_ne, zI_nk, zI_2, zL_1, zL_eq, zL_ne, zL_nk, zL_22]
        rw [Nat.add_sub_cancel]
        exact ⟨rfl, rfl, rfl⟩
  · by_cases h64 : k < 64
    · simp (disch := omega) only [zg_tr, zb_t, zJ_lt, zJ_le, zJ_inj, zJ_ltl, zJ_lel, zJ_eql, zJ_llt, zJ_lle, zJ_leq, zJ_m1, zJ_m1r, zJ_nle_m1, zJ_m1lt, zJ_add, zJ_al, zJ_mull, zJ_c, zJ_mlr, zJ_cl, zJ_sub, zJ_subl, zJ_neg, zJ_divl, zreml, zshl_1, zshr_J, zushr_J, zJ_and1, if_pos, if_neg, Option.bind_some, zI_eq, zI_ne, zI_nk, zI_2, zL_1, zL_eq, zL_ne, zL_nk, zL_22, r2]
      exact zw_some ⟨hz, fin hkm⟩
    · simp (disch := omega) only [zg_tr, zb_t, zJ_lt, zJ_le, zJ_inj, zJ_ltl, zJ_lel, zJ_eql, zJ_llt, zJ_lle, zJ_leq, zJ_m1, zJ_m1r, zJ_nle_m1, zJ_m1lt, zJ_add, zJ_al, zJ_mull, zJ_c, zJ_mlr, zJ_cl, zJ_sub, zJ_subl, zJ_neg, zJ_divl, zreml, zshl_1, zshr_J, zushr_J, zJ_and1, if_pos, if_neg, Option.bind_some, zI_eq, zI_ne, zI_nk, zI_2, zL_1, zL_eq, zL_ne, zL_nk, zL_22]
      exact zw_some ⟨hz, fin hkm⟩
