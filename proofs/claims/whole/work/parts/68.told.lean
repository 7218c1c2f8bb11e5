/-! ===== the class: what lines are told, tests ===== -/
def yCS (h : zH) (o n : Nat) (sb : Nat → Bool) : Prop := ∀ l, l < n → zBi (h.1 o 5 ||| h.1 o 6) l = sb l
theorem yCS.fr {L : List (Nat × Nat × Nat × Nat)} {h h' : zH} {o n : Nat} {sb : Nat → Bool} (hr : yCS h o n sb) (q : zfm L h h') (hd : ∀ k, zin L o k = false) : yCS h' o n sb := by
  unfold yCS
  rw [q.i (hd 5), q.i (hd 6)]
  exact hr
theorem zBi_one {n : Nat} : zBi 1 n = decide (n = 0) := by
  by_cases h : n < 32
  · exact (by decide +kernel : ∀ n, n < 32 → zBi 1 n = decide (n = 0)) n h
  · rw [zBi_big (by omega)]
    simp
    omega
theorem zBl_one {n : Nat} : zBl 1 n = decide (n = 0) := by
  by_cases h : n < 64
  · exact (by decide +kernel : ∀ n, n < 64 → zBl 1 n = decide (n = 0)) n h
  · rw [zBl_big (by omega)]
    simp
    omega
theorem ybit {x : Int32} {l : Nat} (hl : l < 32) : zushr x (zJ l) &&& 1 = zbI (zBi x l) := by
  apply zBi_ext
  intro i hi
  rw [zBi_and, zBi_ushr x hl, zBi_one]
  by_cases h0 : i = 0
  · subst h0
    cases zBi x l <;> decide
  · have e : zBi (zbI (zBi x l)) i = false := by
      cases zBi x l
      · exact zBi_0
      · show zBi 1 i = false
        rw [zBi_one]
        simp [h0]
    rw [e]
    simp [h0]
theorem ybitL {x : Int64} {l : Nat} (hl : l < 64) : zlushr x (zJ l) &&& 1 = (if zBl x l then 1 else 0) := by
  apply zBl_ext
  intro i hi
  rw [zBl_and, zBl_ushr x hl, zBl_one]
  by_cases h0 : i = 0
  · subst h0
    cases zBl x l <;> decide
  · have e : zBl (if zBl x l then 1 else 0) i = false := by
      cases zBl x l
      · exact zBl_0
      · show zBl 1 i = false
        rw [zBl_one]
        simp [h0]
    rw [e]
    simp [h0]
theorem isSeen_c {h : zH} {o n l : Nat} {sb : Nat → Bool} (hs : yCS h o n sb) (hn : n ≤ 22) (hl : l < n) : f_Net_isSeen o h (zJ l) = some (zbI (sb l)) := by
  unfold f_Net_isSeen f_Main_bitOf
  rw [ybit (by omega), hs l hl]
  simp (disch := omega) only [zg_tr, zb_t, zJ_lt, zJ_le, zJ_inj, zJ_ltl, zJ_lel, zJ_eql, zJ_llt, zJ_lle, zJ_leq, zJ_m1, zJ_m1r, zJ_nle_m1, zJ_m1lt, zJ_add, zJ_al, zJ_mull, zJ_c, zJ_mlr, zJ_cl, zJ_sub, zJ_subl, zJ_neg, zJ_divl, zreml, zshl_1, zshr_J, zushr_J, zJ_and1, if_pos, if_neg, Option.bind_some, zI_eq, zI_ne, zI_nk, zI_2, zL_1, zL_eq, zL_ne, zL_nk, zL_22]
  cases sb l <;> rfl
theorem unset_c {h : zH} {o : Nat} : zw (f_Waves_unsetInputs o h) fun h' => zfm [(o + 1, o + 2, 0, 9999)] h h' ∧ ∀ i, i < 6 → h'.2.1 (o + 1) i = 0 ∧ h'.2.1 (o + 2) i = 0 := by
  unfold f_Waves_unsetInputs
  refine zw_bi (zw_for (Q := fun h' => zfm [(o + 1, o + 2, 0, 9999)] h h' ∧ ∀ i, i < 6 → h'.2.1 (o + 1) i = 0 ∧ h'.2.1 (o + 2) i = 0) 6 (fun k s => s.1 = zJ k ∧ zfm [(o + 1, o + 2, 0, 9999)] h s.2 ∧ ∀ i, i < k → s.2.2.1 (o + 1) i = 0 ∧ s.2.2.1 (o + 2) i = 0) (by omega) ⟨rfl, zfm.rfl', fun l hl => by omega⟩ ?_) (fun x hx => zw_some hx)
  rintro k ⟨i, g⟩ hk ⟨rfl, hz, hv⟩
  dsimp only at hz hv ⊢
  unfold f_Waves_unsetInputs_b2
  by_cases hkm : k < 6
  · simp (disch := omega) only [zg_tr, zb_t, zJ_lt, zJ_le, zJ_inj, zJ_ltl, zJ_lel, zJ_eql, zJ_llt, zJ_lle, zJ_leq, zJ_m1, zJ_m1r, zJ_nle_m1, zJ_m1lt, zJ_add, zJ_al, zJ_mull, zJ_c, zJ_mlr, zJ_cl, zJ_sub, zJ_subl, zJ_neg, zJ_divl, zreml, zshl_1, zshr_J, zushr_J, zJ_and1, if_pos, if_neg, Option.bind_some, zI_eq, zI_ne, zI_nk, zI_2, zL_1, zL_eq, zL_ne, zL_nk, zL_22]
    refine zw_some ⟨hkm, rfl, (hz.Lg (zin_1 (by omega) (by omega) (by omega) (by omega))).Lg (zin_1 (by omega) (by omega) (by omega) (by omega)), fun j hj => ?_⟩
    dsimp only
    by_cases hjk : j = k
    · subst hjk
      rw [zL_ne (by omega), zL_eq, zL_eq]
      exact ⟨rfl, rfl⟩
    · rw [zL_ne (by omega), zL_nk hjk, zL_nk hjk, zL_ne (by omega)]
      exact hv j (by omega)
  · have : k = 6 := by omega
    subst this
    simp (disch := omega) only [zg_tr, zb_t, zJ_lt, zJ_le, zJ_inj, zJ_ltl, zJ_lel, zJ_eql, zJ_llt, zJ_lle, zJ_leq, zJ_m1, zJ_m1r, zJ_nle_m1, zJ_m1lt, zJ_add, zJ_al, zJ_mull, zJ_c, zJ_mlr, zJ_cl, zJ_sub, zJ_subl, zJ_neg, zJ_divl, zreml, zshl_1, zshr_J, zushr_J, zJ_and1, if_pos, if_neg, Option.bind_some, zI_eq, zI_ne, zI_nk, zI_2, zL_1, zL_eq, zL_ne, zL_nk, zL_22]
    exact zw_some ⟨hz, hv⟩
theorem setInput_c {h : zH} {o i : Nat} {a b : Int64} (hi : i < 6) : f_Waves_setInput o h (zJ i) a b = some (zsL (zsL h (o + 1) i (h.2.1 (o + 1) i ||| a)) (o + 2) i (h.2.1 (o + 2) i ||| b)) := by
  unfold f_Waves_setInput
  simp (disch := omega) only [zg_tr, zb_t, zJ_lt, zJ_le, zJ_inj, zJ_ltl, zJ_lel, zJ_eql, zJ_llt, zJ_lle, zJ_leq, zJ_m1, zJ_m1r, zJ_nle_m1, zJ_m1lt, zJ_add, zJ_al, zJ_mull, zJ_c, zJ_mlr, zJ_cl, zJ_sub, zJ_subl, zJ_neg, zJ_divl, zreml, zshl_1, zshr_J, zushr_J, zJ_and1, if_pos, if_neg, Option.bind_some, zI_eq, zI_ne, zI_nk, zI_2, zL_1, zL_eq, zL_ne, zL_nk, zL_22]
theorem copyInputs_c {h : zH} {o o1 : Nat} (ho : o1 + 2 < o + 1 ∨ o + 2 < o1 + 1) : zw (f_Waves_copyInputs o o1 h) fun h' => zfm [(o + 1, o + 2, 0, 9999)] h h' ∧ ∀ i, i < 6 → h'.2.1 (o + 1) i = h.2.1 (o1 + 1) i ∧ h'.2.1 (o + 2) i = h.2.1 (o1 + 2) i := by
  unfold f_Waves_copyInputs
  refine zw_bi (zw_for (Q := fun h' => zfm [(o + 1, o + 2, 0, 9999)] h h' ∧ ∀ i, i < 6 → h'.2.1 (o + 1) i = h.2.1 (o1 + 1) i ∧ h'.2.1 (o + 2) i = h.2.1 (o1 + 2) i) 6 (fun k s => s.1 = zJ k ∧ zfm [(o + 1, o + 2, 0, 9999)] h s.2 ∧ ∀ i, i < k → s.2.2.1 (o + 1) i = h.2.1 (o1 + 1) i ∧ s.2.2.1 (o + 2) i = h.2.1 (o1 + 2) i) (by omega) ⟨rfl, zfm.rfl', fun l hl => by omega⟩ ?_) (fun x hx => zw_some hx)
  rintro k ⟨i, g⟩ hk ⟨rfl, hz, hv⟩
  dsimp only at hz hv ⊢
  unfold f_Waves_copyInputs_b2
  by_cases hkm : k < 6
  · simp (disch := omega) only [zg_tr, zb_t, zJ_lt, zJ_le, zJ_inj, zJ_ltl, zJ_lel, zJ_eql, zJ_llt, zJ_lle, zJ_leq, zJ_m1, zJ_m1r, zJ_nle_m1, zJ_m1lt, zJ_add, zJ_al, zJ_mull, zJ_c, zJ_mlr, zJ_cl, zJ_sub, zJ_subl, zJ_neg, zJ_divl, zreml, zshl_1, zshr_J, zushr_J, zJ_and1, if_pos, if_neg, Option.bind_some, zI_eq, zI_ne, zI_nk, zI_2, zL_1, zL_eq, zL_ne, zL_nk, zL_22]
    refine zw_some ⟨hkm, rfl, (hz.Lg (zin_1 (by omega) (by omega) (by omega) (by omega))).Lg (zin_1 (by omega) (by omega) (by omega) (by omega)), fun j hj => ?_⟩
    dsimp only
    by_cases hjk : j = k
    · subst hjk
      rw [zL_ne (by omega), zL_eq, zL_eq, hz.l (zin_n1 (by omega)), hz.l (zin_n1 (by omega))]
      exact ⟨rfl, rfl⟩
    · rw [zL_ne (by omega), zL_nk hjk, zL_nk hjk, zL_ne (by omega)]
      exact hv j (by omega)
  · have : k = 6 := by omega
    subst this
    simp (disch := omega) only [zg_tr, zb_t, zJ_lt, zJ_le, zJ_inj, zJ_ltl, zJ_lel, zJ_eql, zJ_llt, zJ_lle, zJ_leq, zJ_m1, zJ_m1r, zJ_nle_m1, zJ_m1lt, zJ_add, zJ_al, zJ_mull, zJ_c, zJ_mlr, zJ_cl, zJ_sub, zJ_subl, zJ_neg, zJ_divl, zreml, zshl_1, zshr_J, zushr_J, zJ_and1, if_pos, if_neg, Option.bind_some, zI_eq, zI_ne, zI_nk, zI_2, zL_1, zL_eq, zL_ne, zL_nk, zL_22]
    exact zw_some ⟨hz, hv⟩
/-- lines are 0 or 1 by rows without unset ones -/
theorem zjn_lt2 {k m : Nat} {v : Nat → Nat} (hm : 1 ≤ m) (h : ∀ i, i < m → v i < 2) : zjn k m v < 2 := by
  have hs : fb_ct (fun i => v i == 0) m + fb_ct (fun i => v i == 1) m = m := by
    rw [← fb_ct_or (fun k _ hq => by simp at hq; omega)]
    refine fb_ct_all.mpr (fun i hi => ?_)
    have := h i hi
    simp
    omega
  have h0 := h 0 (by omega)
  unfold zjn zjt zjr
  generalize fb_ct (fun i => v i == 0) m = z at *
  generalize fb_ct (fun i => v i == 1) m = c at *
  repeat' split
  all_goals omega
theorem zvl_lt2 {e : zEv} {inp : Nat → Nat} {f : Nat} (he : zEok e) (hi : ∀ i, i < e.1 → inp i < 2) : ∀ (n l : Nat), l < n → l < e.2.1 → zvl e inp f l < 2
  | 0, l, h, _ => by omega
  | n + 1, l, h, hl => by
    rw [zvl_eq he hl]
    split
    · omega
    · split
      · exact hi l (by omega)
      · obtain ⟨-, -, -, e4⟩ := id he
        obtain ⟨k1, k2, k3, k4, k5⟩ := e4 l (by omega) hl
        exact zjn_lt2 k2 (fun i hi2 => zvl_lt2 he hi n _ (by have := k5 i hi2; omega) (by have := k5 i hi2; omega))
def ydf (e : zEv) (sb : Nat → Bool) (r f g : Nat) : Bool := zex (fun l => sb l && (zvl e (zrw r) f l != zvl e (zrw r) g l)) e.2.1
theorem ydf_cg {e : zEv} {sb : Nat → Bool} {r f : Nat} (he : zEok e) : ydf e sb r 0 f = zcg e sb (zrw r) f := by
  unfold ydf zcg
  refine zex_cong (fun l hl => ?_)
  have h1 := zvl_lt2 (f := f) he (inp := zrw r) (fun i _ => zrw_lt) _ l (Nat.lt_succ_self l) hl
  have h2 := zvl_lt2 (f := 0) he (inp := zrw r) (fun i _ => zrw_lt) _ l (Nat.lt_succ_self l) hl
  unfold zcl1
  simp only [h1, h2, decide_true, Bool.and_true]
  cases sb l
  · rfl
  · rw [Bool.true_and, Bool.true_and, Bool.eq_iff_iff, bne_iff_ne, bne_iff_ne]
    exact ⟨fun h h3 => h h3.symm, fun h h3 => h h3.symm⟩
/-- what lines are told -/
def yTT (h : zH) (e : zEv) (N : Nat) : Prop := ∀ f, f < N → ∀ l, l < e.2.1 → ∀ r, r < 64 → zBl (h.2.1 (75 + (1 + 1 * f)) l) r = (decide (r < 2 ^ e.1) && (zvl e (zrw r) f l == 1))
def yAR (n : Nat) : Int64 := if 2 ^ n < 64 then zlshl 1 (zJ (2 ^ n)) - 1 else -1
theorem yAR_bit : ∀ n, n < 7 → ∀ r, r < 64 → zBl (yAR n) r = decide (r < 2 ^ n) := by decide +kernel
theorem allRows_c {h : zH} {n : Nat} (hr : h.1 74 1 = zJ (2 ^ n)) (hn : n ≤ 6) : f_Catalog_allRows h = some (yAR n) := by
  have h64 := zpw6 hn
  unfold f_Catalog_allRows yAR
  rw [hr]
  simp (disch := omega) only [zg_tr, zb_t, zJ_lt, zJ_le, zJ_inj, zJ_ltl, zJ_lel, zJ_eql, zJ_llt, zJ_lle, zJ_leq, zJ_m1, zJ_m1r, zJ_nle_m1, zJ_m1lt, zJ_add, zJ_al, zJ_mull, zJ_c, zJ_mlr, zJ_cl, zJ_sub, zJ_subl, zJ_neg, zJ_divl, zreml, zshl_1, zshr_J, zushr_J, zJ_and1, if_pos, if_neg, Option.bind_some, zI_eq, zI_ne, zI_nk, zI_2, zL_1, zL_eq, zL_ne, zL_nk, zL_22]
  split <;> rfl
theorem zrows_bit : ∀ i, i < 6 → ∀ r, r < 64 → zBl (zrows i) r = (r / 2 ^ i % 2 == 1) := by decide +kernel
