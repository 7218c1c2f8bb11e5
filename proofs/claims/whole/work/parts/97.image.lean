/-! ===== image, restore ===== -/
theorem copyA_c {h : zH} {o o1 : Nat} (hd : o1 + 1 < o ∨ o + 1 < o1) : zw (f_State_copyFrom o o1 h) fun g => zfm [(o, o + 1, 0, 9999)] h g ∧ ∀ s : yS, s.2.2.2.2.1 ≤ 8 → yCSt h o1 s → yCSt g o s := by
  unfold f_State_copyFrom
  simp only [Option.bind_some]
  have z : ∀ k, k ≤ 5 → zin [(o, o + 1, 0, 9999)] o k = true := fun k hk => zin_1 (by omega) (by omega) (by omega) (by omega)
  simp (disch := omega) only [zg_tr, zb_t, zJ_lt, zJ_le, zJ_inj, zJ_ltl, zJ_lel, zJ_eql, zJ_llt, zJ_lle, zJ_leq, zJ_m1, zJ_m1r, zJ_nle_m1, zJ_m1lt, zJ_add, zJ_al, zJ_mull, zJ_c, zJ_mlr, zJ_cl, zJ_sub, zJ_subl, zJ_neg, zJ_divl, zreml, zshl_1, zshr_J, zushr_J, zJ_and1, if_pos, if_neg, Option.bind_some, zI_eq, zI_ne, zI_nk, zI_2, zL_1, zL_eq, zL_ne, zL_nk, zL_22]
  have q0 : zfm [(o, o + 1, 0, 9999)] h (zsI (zsL (zsI (zsI (zsI (zsI h o 0 (h.1 o1 0)) o 1 (h.1 o1 1)) o 2 (h.1 o1 2)) o 3 (h.1 o1 3)) o 4 (h.2.1 o1 4)) o 5 (h.1 o1 5)) := (((((zfm.rfl'.I (z 0 (by omega))).I (z 1 (by omega))).I (z 2 (by omega))).I (z 3 (by omega))).Lg (z 4 (by omega))).I (z 5 (by omega))
  have b0 : (zsI (zsL (zsI (zsI (zsI (zsI h o 0 (h.1 o1 0)) o 1 (h.1 o1 1)) o 2 (h.1 o1 2)) o 3 (h.1 o1 3)) o 4 (h.2.1 o1 4)) o 5 (h.1 o1 5)).1 o 0 = h.1 o1 0 := by simp (disch := omega) only [zg_tr, zb_t, zJ_lt, zJ_le, zJ_inj, zJ_ltl, zJ_lel, zJ_eql, zJ_llt, zJ_lle, zJ_leq, zJ_m1, zJ_m1r, zJ_nle_m1, zJ_m1lt, zJ_add, zJ_al, zJ_mull, zJ_c, zJ_mlr, zJ_cl, zJ_sub, zJ_subl, zJ_neg, zJ_divl, zreml, zshl_1, zshr_J, zushr_J, zJ_and1, if_pos, if_neg, Option.bind_some, zI_eq, zI_ne, zI_nk, zI_2, zL_1, zL_eq, zL_ne, zL_nk, zL_22]
  have b1 : (zsI (zsL (zsI (zsI (zsI (zsI h o 0 (h.1 o1 0)) o 1 (h.1 o1 1)) o 2 (h.1 o1 2)) o 3 (h.1 o1 3)) o 4 (h.2.1 o1 4)) o 5 (h.1 o1 5)).1 o 1 = h.1 o1 1 := by simp (disch := omega) only [zg_tr, zb_t, zJ_lt, zJ_le, zJ_inj, zJ_ltl, zJ_lel, zJ_eql, zJ_llt, zJ_lle, zJ_leq, zJ_m1, zJ_m1r, zJ_nle_m1, zJ_m1lt, zJ_add, zJ_al, zJ_mull, zJ_c, zJ_mlr, zJ_cl, zJ_sub, zJ_subl, zJ_neg, zJ_divl, zreml, zshl_1, zshr_J, zushr_J, zJ_and1, if_pos, if_neg, Option.bind_some, zI_eq, zI_ne, zI_nk, zI_2, zL_1, zL_eq, zL_ne, zL_nk, zL_22]
  have b2 : (zsI (zsL (zsI (zsI (zsI (zsI h o 0 (h.1 o1 0)) o 1 (h.1 o1 1)) o 2 (h.1 o1 2)) o 3 (h.1 o1 3)) o 4 (h.2.1 o1 4)) o 5 (h.1 o1 5)).1 o 2 = h.1 o1 2 := by simp (disch := omega) only [zg_tr, zb_t, zJ_lt, zJ_le, zJ_inj, zJ_ltl, zJ_lel, zJ_eql, zJ_llt, zJ_lle, zJ_leq, zJ_m1, zJ_m1r, zJ_nle_m1, zJ_m1lt, zJ_add, zJ_al, zJ_mull, zJ_c, zJ_mlr, zJ_cl, zJ_sub, zJ_subl, zJ_neg, zJ_divl, zreml, zshl_1, zshr_J, zushr_J, zJ_and1, if_pos, if_neg, Option.bind_some, zI_eq, zI_ne, zI_nk, zI_2, zL_1, zL_eq, zL_ne, zL_nk, zL_22]
  have b3 : (zsI (zsL (zsI (zsI (zsI (zsI h o 0 (h.1 o1 0)) o 1 (h.1 o1 1)) o 2 (h.1 o1 2)) o 3 (h.1 o1 3)) o 4 (h.2.1 o1 4)) o 5 (h.1 o1 5)).1 o 3 = h.1 o1 3 := by simp (disch := omega) only [zg_tr, zb_t, zJ_lt, zJ_le, zJ_inj, zJ_ltl, zJ_lel, zJ_eql, zJ_llt, zJ_lle, zJ_leq, zJ_m1, zJ_m1r, zJ_nle_m1, zJ_m1lt, zJ_add, zJ_al, zJ_mull, zJ_c, zJ_mlr, zJ_cl, zJ_sub, zJ_subl, zJ_neg, zJ_divl, zreml, zshl_1, zshr_J, zushr_J, zJ_and1, if_pos, if_neg, Option.bind_some, zI_eq, zI_ne, zI_nk, zI_2, zL_1, zL_eq, zL_ne, zL_nk, zL_22]
  have b5 : (zsI (zsL (zsI (zsI (zsI (zsI h o 0 (h.1 o1 0)) o 1 (h.1 o1 1)) o 2 (h.1 o1 2)) o 3 (h.1 o1 3)) o 4 (h.2.1 o1 4)) o 5 (h.1 o1 5)).1 o 5 = h.1 o1 5 := by simp (disch := omega) only [zg_tr, zb_t, zJ_lt, zJ_le, zJ_inj, zJ_ltl, zJ_lel, zJ_eql, zJ_llt, zJ_lle, zJ_leq, zJ_m1, zJ_m1r, zJ_nle_m1, zJ_m1lt, zJ_add, zJ_al, zJ_mull, zJ_c, zJ_mlr, zJ_cl, zJ_sub, zJ_subl, zJ_neg, zJ_divl, zreml, zshl_1, zshr_J, zushr_J, zJ_and1, if_pos, if_neg, Option.bind_some, zI_eq, zI_ne, zI_nk, zI_2, zL_1, zL_eq, zL_ne, zL_nk, zL_22]
  have b4 : (zsI (zsL (zsI (zsI (zsI (zsI h o 0 (h.1 o1 0)) o 1 (h.1 o1 1)) o 2 (h.1 o1 2)) o 3 (h.1 o1 3)) o 4 (h.2.1 o1 4)) o 5 (h.1 o1 5)).2.1 o 4 = h.2.1 o1 4 := by simp (disch := omega) only [zg_tr, zb_t, zJ_lt, zJ_le, zJ_inj, zJ_ltl, zJ_lel, zJ_eql, zJ_llt, zJ_lle, zJ_leq, zJ_m1, zJ_m1r, zJ_nle_m1, zJ_m1lt, zJ_add, zJ_al, zJ_mull, zJ_c, zJ_mlr, zJ_cl, zJ_sub, zJ_subl, zJ_neg, zJ_divl, zreml, zshl_1, zshr_J, zushr_J, zJ_and1, if_pos, if_neg, Option.bind_some, zI_eq, zI_ne, zI_nk, zI_2, zL_1, zL_eq, zL_ne, zL_nk, zL_22]
  have b6 : ∀ k, (zsI (zsL (zsI (zsI (zsI (zsI h o 0 (h.1 o1 0)) o 1 (h.1 o1 1)) o 2 (h.1 o1 2)) o 3 (h.1 o1 3)) o 4 (h.2.1 o1 4)) o 5 (h.1 o1 5)).1 (o1 + 1) k = h.1 (o1 + 1) k := fun k => q0.i (zin_n1 (by omega))
  generalize zsI (zsL (zsI (zsI (zsI (zsI h o 0 (h.1 o1 0)) o 1 (h.1 o1 1)) o 2 (h.1 o1 2)) o 3 (h.1 o1 3)) o 4 (h.2.1 o1 4)) o 5 (h.1 o1 5) = g0 at *
  refine zw_bi (P := fun g => zfm [(o, o + 1, 0, 9999)] h g ∧ ∀ s : yS, s.2.2.2.2.1 ≤ 8 → yCSt h o1 s → yCSt g o s) (zw_for 8 (fun k t => t.1 = zJ k ∧ zfm [(o + 1, o + 1, 0, 9999)] g0 t.2 ∧ ∀ i, i < k → t.2.1 (o + 1) i = h.1 (o1 + 1) i) (by omega) ⟨rfl, zfm.rfl', fun l hl => by omega⟩ ?_) (fun x hx => zw_some hx)
  rintro k ⟨i, g⟩ hk ⟨rfl, hz, hv⟩
  dsimp only at hz hv ⊢
  unfold f_State_copyFrom_b50
  by_cases hkm : k < 8
  · simp (disch := omega) only [zg_tr, zb_t, zJ_lt, zJ_le, zJ_inj, zJ_ltl, zJ_lel, zJ_eql, zJ_llt, zJ_lle, zJ_leq, zJ_m1, zJ_m1r, zJ_nle_m1, zJ_m1lt, zJ_add, zJ_al, zJ_mull, zJ_c, zJ_mlr, zJ_cl, zJ_sub, zJ_subl, zJ_neg, zJ_divl, zreml, zshl_1, zshr_J, zushr_J, zJ_and1, if_pos, if_neg, Option.bind_some, zI_eq, zI_ne, zI_nk, zI_2, zL_1, zL_eq, zL_ne, zL_nk, zL_22]
    refine zw_some ⟨hkm, rfl, hz.I (zin_1 (by omega) (by omega) (by omega) (by omega)), fun j hj => ?_⟩
    dsimp only
    by_cases hjk : j = k
    · subst hjk
      rw [zI_eq, hz.i (zin_n1 (by omega)), b6]
    · rw [zI_nk hjk, hv j (by omega)]
  · have : k = 8 := by omega
    subst this
    simp (disch := omega) only [zg_tr, zb_t, zJ_lt, zJ_le, zJ_inj, zJ_ltl, zJ_lel, zJ_eql, zJ_llt, zJ_lle, zJ_leq, zJ_m1, zJ_m1r, zJ_nle_m1, zJ_m1lt, zJ_add, zJ_al, zJ_mull, zJ_c, zJ_mlr, zJ_cl, zJ_sub, zJ_subl, zJ_neg, zJ_divl, zreml, zshl_1, zshr_J, zushr_J, zJ_and1, if_pos, if_neg, Option.bind_some, zI_eq, zI_ne, zI_nk, zI_2, zL_1, zL_eq, zL_ne, zL_nk, zL_22]
    have e : ∀ k, g.1 o k = g0.1 o k := fun k => hz.i (zin_n1 (by omega))
    refine zw_some ⟨q0.trans (hz.sub' (fun a j hh => by
      unfold zin at hh ⊢
      simp at hh ⊢
      omega)), fun s hp hs => ?_⟩
    obtain ⟨s1, s2, s3, s4, s5, s6, s7⟩ := hs
    refine ⟨((e 0).trans b0).trans s1, ((e 1).trans b1).trans s2, ((e 2).trans b2).trans s3, ((e 3).trans b3).trans s4, ((e 5).trans b5).trans s5, fun k hk => (hv k (by omega)).trans (s6 k hk), fun f hf => ?_⟩
    rw [hz.l (zin_n1 (by omega)), b4]
    exact s7 f hf
theorem sessCopy_c {h : zH} {N : yN} {o o1 : Nat} {t : yT} (ht : yOKt N t) (hs : yCSe h o1 t) (hd : o1 + 87 < o ∨ o + 87 < o1) : zw (f_Session_copyFrom o o1 h) fun g => zfm [(o, o + 87, 0, 9999)] h g ∧ yCSe g o t := by
  obtain ⟨t1, t2, t3, t4, -⟩ := ht
  obtain ⟨h1, h2, ⟨ol, o1', o2, o3⟩, h4, h5, h6⟩ := hs
  unfold f_Session_copyFrom
  refine zw_bi (copyA_c (o := o + 1) (o1 := o1 + 1) (by omega)) ?_
  rintro g1 ⟨q1, s1⟩
  have w : ∀ {a b : Nat} {x y : zH}, o ≤ a → b ≤ o + 87 → zfm [(a, b, 0, 9999)] x y → zfm [(o, o + 87, 0, 9999)] x y := fun ha hb q => q.sub' (fun a j hh => by
    unfold zin at hh ⊢
    simp at hh ⊢
    omega)
  have Q1 := w (by omega) (by omega) q1
  refine zw_bi (P := fun g => zfm [(o + 8, o + 87, 0, 9999)] g1 g ∧ ∀ i, i < 40 → ∀ s : yS, s.2.2.2.2.1 ≤ 8 → yCSt h (o1 + 8 + 2 * i) s → yCSt g (o + 8 + 2 * i) s) (zw_for 40 (fun k t => t.1 = zJ k ∧ zfm [(o + 8, o + 87, 0, 9999)] g1 t.2 ∧ ∀ i, i < k → ∀ s : yS, s.2.2.2.2.1 ≤ 8 → yCSt h (o1 + 8 + 2 * i) s → yCSt t.2 (o + 8 + 2 * i) s) (by omega) ⟨rfl, zfm.rfl', fun l hl => by omega⟩ ?_) ?_
  · rintro k ⟨i, g⟩ hk ⟨rfl, hz, hv⟩
    dsimp only at hz hv ⊢
    unfold f_Session_copyFrom_b13
    by_cases hkm : k < 40
    · simp (disch := omega) only [zg_tr, zb_t, zJ_lt, zJ_le, zJ_inj, zJ_ltl, zJ_lel, zJ_eql, zJ_llt, zJ_lle, zJ_leq, zJ_m1, zJ_m1r, zJ_nle_m1, zJ_m1lt, zJ_add, zJ_al, zJ_mull, zJ_c, zJ_mlr, zJ_cl, zJ_sub, zJ_subl, zJ_neg, zJ_divl, zreml, zshl_1, zshr_J, zushr_J, zJ_and1, if_pos, if_neg, Option.bind_some, zI_eq, zI_ne, zI_nk, zI_2, zL_1, zL_eq, zL_ne, zL_nk, zL_22]
      rw [show o + 3 + (5 + 2 * k) = o + 8 + 2 * k by omega, show o1 + 3 + (5 + 2 * k) = o1 + 8 + 2 * k by omega]
      refine zw_bi (copyA_c (by omega)) ?_
      rintro g2 ⟨q2, s2⟩
      have Q2 := w (by omega) (by omega) q2
      refine zw_some ⟨hkm, rfl, hz.trans (q2.sub' (fun a j hh => by
        unfold zin at hh ⊢
        simp at hh ⊢
        omega)), fun i hi s hp hs => ?_⟩
      by_cases hik : i = k
      · subst hik
        exact s2 s hp ((hs.fr Q1 (fun a k l1 l2 => zin_n1 (by omega))).fr hz (fun a k l1 l2 => zin_n1 (by omega)))
      · exact (hv i (by omega) s hp hs).fr q2 (fun a k l1 l2 => zin_n1 (by omega))
    · have : k = 40 := by omega
      subst this
      simp (disch := omega) only [zg_tr, zb_t, zJ_lt, zJ_le, zJ_inj, zJ_ltl, zJ_lel, zJ_eql, zJ_llt, zJ_lle, zJ_leq, zJ_m1, zJ_m1r, zJ_nle_m1, zJ_m1lt, zJ_add, zJ_al, zJ_mull, zJ_c, zJ_mlr, zJ_cl, zJ_sub, zJ_subl, zJ_neg, zJ_divl, zreml, zshl_1, zshr_J, zushr_J, zJ_and1, if_pos, if_neg, Option.bind_some, zI_eq, zI_ne, zI_nk, zI_2, zL_1, zL_eq, zL_ne, zL_nk, zL_22]
      exact zw_some ⟨hz, hv⟩
  · rintro g2 ⟨q2, s2⟩
    have Q2 := Q1.trans (w (by omega) (by omega) q2)
    simp (disch := omega) only [zg_tr, zb_t, zJ_lt, zJ_le, zJ_inj, zJ_ltl, zJ_lel, zJ_eql, zJ_llt, zJ_lle, zJ_leq, zJ_m1, zJ_m1r, zJ_nle_m1, zJ_m1lt, zJ_add, zJ_al, zJ_mull, zJ_c, zJ_mlr, zJ_cl, zJ_sub, zJ_subl, zJ_neg, zJ_divl, zreml, zshl_1, zshr_J, zushr_J, zJ_and1, if_pos, if_neg, Option.bind_some, zI_eq, zI_ne, zI_nk, zI_2, zL_1, zL_eq, zL_ne, zL_nk, zL_22]
    have e2 : g2.1 o1 2 = zJ ol := (Q2.i (zin_n1 (by omega))).trans o2
    have e3 : g2.1 o1 3 = zJ t.2.1 := (Q2.i (zin_n1 (by omega))).trans h2
    rw [e2, e3]
    have q3 : zfm [(o, o, 2, 3)] g2 (zsI (zsI g2 o 2 (zJ ol)) o 3 (zJ t.2.1)) := (zfm.rfl'.I (zin_1 (by omega) (by omega) (by omega) (by omega))).I (zin_1 (by omega) (by omega) (by omega) (by omega))
    have f2 : (zsI (zsI g2 o 2 (zJ ol)) o 3 (zJ t.2.1)).1 o 2 = zJ ol := by rw [zI_nk (by omega), zI_eq]
    have f3 : (zsI (zsI g2 o 2 (zJ ol)) o 3 (zJ t.2.1)).1 o 3 = zJ t.2.1 := zI_eq
    generalize zsI (zsI g2 o 2 (zJ ol)) o 3 (zJ t.2.1) = g3 at *
    have Q3 := Q2.trans (q3.sub' (L' := [(o, o + 87, 0, 9999)]) (fun a j hh => by
      unfold zin at hh ⊢
      simp at hh ⊢
      omega))
    refine zw_bi (P := fun g => zfm [(o + 4, o + 6, 0, 9999)] g3 g ∧ ∀ i, i < 10 → g.1 (o + 4) i = h.1 (o1 + 4) i ∧ g.1 (o + 5) i = h.1 (o1 + 5) i ∧ g.1 (o + 6) i = h.1 (o1 + 6) i) (zw_for 10 (fun k t => t.1 = zJ k ∧ zfm [(o + 4, o + 6, 0, 9999)] g3 t.2 ∧ ∀ i, i < k → t.2.1 (o + 4) i = h.1 (o1 + 4) i ∧ t.2.1 (o + 5) i = h.1 (o1 + 5) i ∧ t.2.1 (o + 6) i = h.1 (o1 + 6) i) (by omega) ⟨rfl, zfm.rfl', fun l hl => by omega⟩ ?_) ?_
    · rintro k ⟨i, g⟩ hk ⟨rfl, hz, hv⟩
      dsimp only at hz hv ⊢
      unfold f_Session_copyFrom_b58
      by_cases hkm : k < 10
      · have c : ∀ a, o1 + 4 ≤ a → a ≤ o1 + 6 → g.1 a k = h.1 a k := fun a l1 l2 => (hz.i (zin_n1 (by omega))).trans (Q3.i (zin_n1 (by omega)))
        simp (disch := omega) only [zg_tr, zb_t, zJ_lt, zJ_le, zJ_inj, zJ_ltl, zJ_lel, zJ_eql, zJ_llt, zJ_lle, zJ_leq, zJ_m1, zJ_m1r, zJ_nle_m1, zJ_m1lt, zJ_add, zJ_al, zJ_mull, zJ_c, zJ_mlr, zJ_cl, zJ_sub, zJ_subl, zJ_neg, zJ_divl, zreml, zshl_1, zshr_J, zushr_J, zJ_and1, if_pos, if_neg, Option.bind_some, zI_eq, zI_ne, zI_nk, zI_2, zL_1, zL_eq, zL_ne, zL_nk, zL_22, c (o1 + 4) (by omega) (by omega), c (o1 + 5) (by omega) (by omega), c (o1 + 6) (by omega) (by omega)]
        refine zw_some ⟨hkm, rfl, ((hz.I (zin_1 (by omega) (by omega) (by omega) (by omega))).I (zin_1 (by omega) (by omega) (by omega) (by omega))).I (zin_1 (by omega) (by omega) (by omega) (by omega)), fun j hj => ?_⟩
        dsimp only
        by_cases hjk : j = k
        · subst hjk
          refine ⟨?_, ?_, ?_⟩
          · rw [zI_ne (by omega), zI_ne (by omega), zI_eq]
          · rw [zI_ne (by omega), zI_eq]
          · rw [zI_eq]
        · obtain ⟨a1, a2, a3⟩ := hv j (by omega)
          refine ⟨?_, ?_, ?_⟩
          · rw [zI_ne (by omega), zI_ne (by omega), zI_nk hjk, a1]
          · rw [zI_ne (by omega), zI_nk hjk, zI_ne (by omega), a2]
          · rw [zI_nk hjk, zI_ne (by omega), zI_ne (by omega), a3]
      · have : k = 10 := by omega
        subst this
        simp (disch := omega) only [zg_tr, zb_t, zJ_lt, zJ_le, zJ_inj, zJ_ltl, zJ_lel, zJ_eql, zJ_llt, zJ_lle, zJ_leq, zJ_m1, zJ_m1r, zJ_nle_m1, zJ_m1lt, zJ_add, zJ_al, zJ_mull, zJ_c, zJ_mlr, zJ_cl, zJ_sub, zJ_subl, zJ_neg, zJ_divl, zreml, zshl_1, zshr_J, zushr_J, zJ_and1, if_pos, if_neg, Option.bind_some, zI_eq, zI_ne, zI_nk, zI_2, zL_1, zL_eq, zL_ne, zL_nk, zL_22]
        exact zw_some ⟨hz, hv⟩
    · rintro g4 ⟨q4, s4⟩
      have Q4 := Q3.trans (w (by omega) (by omega) q4)
      have e7 : g4.1 o1 7 = zJ t.2.2.2.1 := (Q4.i (zin_n1 (by omega))).trans h4
      rw [e7]
      have q5 : zfm [(o, o, 7, 7)] g4 (zsI g4 o 7 (zJ t.2.2.2.1)) := zfm.rfl'.I (zin_1 (by omega) (by omega) (by omega) (by omega))
      have f7 : (zsI g4 o 7 (zJ t.2.2.2.1)).1 o 7 = zJ t.2.2.2.1 := zI_eq
      generalize zsI g4 o 7 (zJ t.2.2.2.1) = g5 at *
      have Q5 := Q4.trans (q5.sub' (L' := [(o, o + 87, 0, 9999)]) (fun a j hh => by
        unfold zin at hh ⊢
        simp at hh ⊢
        omega))
      refine zw_bi (P := fun g => zfm [(o + 7, o + 7, 0, 9999)] g5 g ∧ ∀ i, i < 3 → g.1 (o + 7) i = h.1 (o1 + 7) i) (zw_for 3 (fun k t => t.1 = zJ k ∧ zfm [(o + 7, o + 7, 0, 9999)] g5 t.2 ∧ ∀ i, i < k → t.2.1 (o + 7) i = h.1 (o1 + 7) i) (by omega) ⟨rfl, zfm.rfl', fun l hl => by omega⟩ ?_) ?_
      · rintro k ⟨i, g⟩ hk ⟨rfl, hz, hv⟩
        dsimp only at hz hv ⊢
        unfold f_Session_copyFrom_b116
        by_cases hkm : k < 3
        · have c : g.1 (o1 + 7) k = h.1 (o1 + 7) k := (hz.i (zin_n1 (by omega))).trans (Q5.i (zin_n1 (by omega)))
          simp (disch := omega) only [zg_tr, zb_t, zJ_lt, zJ_le, zJ_inj, zJ_ltl, zJ_lel, zJ_eql, zJ_llt, zJ_lle, zJ_leq, zJ_m1, zJ_m1r, zJ_nle_m1, zJ_m1lt, zJ_add, zJ_al, zJ_mull, zJ_c, zJ_mlr, zJ_cl, zJ_sub, zJ_subl, zJ_neg, zJ_divl, zreml, zshl_1, zshr_J, zushr_J, zJ_and1, if_pos, if_neg, Option.bind_some, zI_eq, zI_ne, zI_nk, zI_2, zL_1, zL_eq, zL_ne, zL_nk, zL_22, c]
          refine zw_some ⟨hkm, rfl, hz.I (zin_1 (by omega) (by omega) (by omega) (by omega)), fun j hj => ?_⟩
          dsimp only
          by_cases hjk : j = k
          · subst hjk
            rw [zI_eq]
          · rw [zI_nk hjk, hv j (by omega)]
        · have : k = 3 := by omega
          subst this
          simp (disch := omega) only [zg_tr, zb_t, zJ_lt, zJ_le, zJ_inj, zJ_ltl, zJ_lel, zJ_eql, zJ_llt, zJ_lle, zJ_leq, zJ_m1, zJ_m1r, zJ_nle_m1, zJ_m1lt, zJ_add, zJ_al, zJ_mull, zJ_c, zJ_mlr, zJ_cl, zJ_sub, zJ_subl, zJ_neg, zJ_divl, zreml, zshl_1, zshr_J, zushr_J, zJ_and1, if_pos, if_neg, Option.bind_some, zI_eq, zI_ne, zI_nk, zI_2, zL_1, zL_eq, zL_ne, zL_nk, zL_22]
          exact zw_some ⟨hz, hv⟩
      · rintro g6 ⟨q6, s6⟩
        have k7 : ∀ k, g6.1 o k = g5.1 o k := fun k => q6.i (zin_n1 (by omega))
        have k5 : ∀ k, k ≠ 7 → g5.1 o k = g4.1 o k := fun k hk => q5.i (zin_n1 (by omega))
        have k4 : ∀ k, g4.1 o k = g3.1 o k := fun k => q4.i (zin_n1 (by omega))
        refine zw_some ⟨Q5.trans (w (by omega) (by omega) q6), ?_, ?_, ⟨ol, o1', ?_, fun i hi => ?_⟩, ?_, fun k hk => ?_, fun k hk => ?_⟩
        · have a1 := s1 t.1 t1.2.2.2.1 h1
          exact ((((a1.fr q2 (fun a k l1 l2 => zin_n1 (by omega))).fr q3 (fun a k l1 l2 => zin_n1 (by omega))).fr q4 (fun a k l1 l2 => zin_n1 (by omega))).fr q5 (fun a k l1 l2 => zin_n1 (by omega))).fr q6 (fun a k l1 l2 => zin_n1 (by omega))
        · rw [k7, k5 3 (by omega), k4, f3]
        · rw [k7, k5 2 (by omega), k4, f2]
        · have hm : (ol + i) % 40 < 40 := Nat.mod_lt _ (by omega)
          have a1 := s2 _ hm _ (t3 i hi).2.2.2.1 (o3 i hi)
          exact (((a1.fr q3 (fun a k l1 l2 => zin_n1 (by omega))).fr q4 (fun a k l1 l2 => zin_n1 (by omega))).fr q5 (fun a k l1 l2 => zin_n1 (by omega))).fr q6 (fun a k l1 l2 => zin_n1 (by omega))
        · rw [k7, f7]
        · obtain ⟨a1, a2, a3⟩ := s4 k (by omega)
          rw [q6.i (zin_n1 (by omega)), q6.i (zin_n1 (by omega)), q6.i (zin_n1 (by omega)), q5.i (zin_n1 (by omega)), q5.i (zin_n1 (by omega)), q5.i (zin_n1 (by omega)), a1, a2, a3]
          exact h5 k hk
        · rw [s6 k hk]
          exact h6 k hk
theorem gcp {h : zH} {A B m : Nat} {F : zH → Int32 → Option ((Int32 × zH) ⊕ zH)} (hAB : A ≠ B) (hm : m < 9999) (h1 : ∀ g k, k < m → F g (zJ k) = some (.inl (zJ (k + 1), zsI g A k (g.1 B k)))) (h2 : ∀ g, F g (zJ m) = some (.inr g)) : zw (zit zFU (fun s : Int32 × zH => F s.2 s.1) (0, h)) fun g => zfm [(A, A, 0, 9999)] h g ∧ ∀ k, k < m → g.1 A k = h.1 B k := by
  refine zw_mono (zw_for m (fun k t => t.1 = zJ k ∧ zfm [(A, A, 0, 9999)] h t.2 ∧ ∀ i, i < k → t.2.1 A i = h.1 B i) (by omega) ⟨rfl, zfm.rfl', fun l hl => by omega⟩ ?_) (fun x hx => hx)
  rintro k ⟨i, g⟩ hk ⟨rfl, hz, hv⟩
  dsimp only at hz hv ⊢
  by_cases hkm : k < m
  · rw [h1 g k hkm]
    refine zw_some ⟨hkm, rfl, hz.I (zin_1 (by omega) (by omega) (by omega) (by omega)), fun j hj => ?_⟩
    dsimp only
    by_cases hjk : j = k
    · subst hjk
      rw [zI_eq, hz.i (zin_n1 (by omega))]
    · rw [zI_nk hjk, hv j (by omega)]
  · have : k = m := by omega
    subst this
    rw [h2]
    exact zw_some ⟨hz, hv⟩
theorem gcp_99_73 (h : zH) : zw (f_Mod_copyTo_99_73 h) fun g => zfm [(373, 373, 0, 9999)] h g ∧ ∀ k, k < 57 → g.1 373 k = h.1 347 k := by
  unfold f_Mod_copyTo_99_73
  exact zw_bi (gcp (m := 57) (F := fun g i => f_Mod_copyTo_99_73_b2 g i) (by omega) (by omega) (fun g k hk => by unfold f_Mod_copyTo_99_73_b2; simp (disch := omega) only [zg_tr, zb_t, zJ_lt, zJ_le, zJ_inj, zJ_ltl, zJ_lel, zJ_eql, zJ_llt, zJ_lle, zJ_leq, zJ_m1, zJ_m1r, zJ_nle_m1, zJ_m1lt, zJ_add, zJ_al, zJ_mull, zJ_c, zJ_mlr, zJ_cl, zJ_sub, zJ_subl, zJ_neg, zJ_divl, zreml, zshl_1, zshr_J, zushr_J, zJ_and1, if_pos, if_neg, Option.bind_some, zI_eq, zI_ne, zI_nk, zI_2, zL_1, zL_eq, zL_ne, zL_nk, zL_22]) (fun g => by unfold f_Mod_copyTo_99_73_b2; simp (disch := omega) only [zg_tr, zb_t, zJ_lt, zJ_le, zJ_inj, zJ_ltl, zJ_lel, zJ_eql, zJ_llt, zJ_lle, zJ_leq, zJ_m1, zJ_m1r, zJ_nle_m1, zJ_m1lt, zJ_add, zJ_al, zJ_mull, zJ_c, zJ_mlr, zJ_cl, zJ_sub, zJ_subl, zJ_neg, zJ_divl, zreml, zshl_1, zshr_J, zushr_J, zJ_and1, if_pos, if_neg, Option.bind_some, zI_eq, zI_ne, zI_nk, zI_2, zL_1, zL_eq, zL_ne, zL_nk, zL_22])) (fun x hx => zw_some hx)
theorem gcp_73_99 (h : zH) : zw (f_Mod_copyTo_73_99 h) fun g => zfm [(347, 347, 0, 9999)] h g ∧ ∀ k, k < 57 → g.1 347 k = h.1 373 k := by
  unfold f_Mod_copyTo_73_99
  exact zw_bi (gcp (m := 57) (F := fun g i => f_Mod_copyTo_73_99_b2 g i) (by omega) (by omega) (fun g k hk => by unfold f_Mod_copyTo_73_99_b2; simp (disch := omega) only [zg_tr, zb_t, zJ_lt, zJ_le, zJ_inj, zJ_ltl, zJ_lel, zJ_eql, zJ_llt, zJ_lle, zJ_leq, zJ_m1, zJ_m1r, zJ_nle_m1, zJ_m1lt, zJ_add, zJ_al, zJ_mull, zJ_c, zJ_mlr, zJ_cl, zJ_sub, zJ_subl, zJ_neg, zJ_divl, zreml, zshl_1, zshr_J, zushr_J, zJ_and1, if_pos, if_neg, Option.bind_some, zI_eq, zI_ne, zI_nk, zI_2, zL_1, zL_eq, zL_ne, zL_nk, zL_22]) (fun g => by unfold f_Mod_copyTo_73_99_b2; simp (disch := omega) only [zg_tr, zb_t, zJ_lt, zJ_le, zJ_inj, zJ_ltl, zJ_lel, zJ_eql, zJ_llt, zJ_lle, zJ_leq, zJ_m1, zJ_m1r, zJ_nle_m1, zJ_m1lt, zJ_add, zJ_al, zJ_mull, zJ_c, zJ_mlr, zJ_cl, zJ_sub, zJ_subl, zJ_neg, zJ_divl, zreml, zshl_1, zshr_J, zushr_J, zJ_and1, if_pos, if_neg, Option.bind_some, zI_eq, zI_ne, zI_nk, zI_2, zL_1, zL_eq, zL_ne, zL_nk, zL_22])) (fun x hx => zw_some hx)
theorem gcp_100_73 (h : zH) : zw (f_Mod_copyTo_100_73 h) fun g => zfm [(374, 374, 0, 9999)] h g ∧ ∀ k, k < 57 → g.1 374 k = h.1 347 k := by
  unfold f_Mod_copyTo_100_73
  exact zw_bi (gcp (m := 57) (F := fun g i => f_Mod_copyTo_100_73_b2 g i) (by omega) (by omega) (fun g k hk => by unfold f_Mod_copyTo_100_73_b2; simp (disch := omega) only [zg_tr, zb_t, zJ_lt, zJ_le, zJ_inj, zJ_ltl, zJ_lel, zJ_eql, zJ_llt, zJ_lle, zJ_leq, zJ_m1, zJ_m1r, zJ_nle_m1, zJ_m1lt, zJ_add, zJ_al, zJ_mull, zJ_c, zJ_mlr, zJ_cl, zJ_sub, zJ_subl, zJ_neg, zJ_divl, zreml, zshl_1, zshr_J, zushr_J, zJ_and1, if_pos, if_neg, Option.bind_some, zI_eq, zI_ne, zI_nk, zI_2, zL_1, zL_eq, zL_ne, zL_nk, zL_22]) (fun g => by unfold f_Mod_copyTo_100_73_b2; simp (disch := omega) only [zg_tr, zb_t, zJ_lt, zJ_le, zJ_inj, zJ_ltl, zJ_lel, zJ_eql, zJ_llt, zJ_lle, zJ_leq, zJ_m1, zJ_m1r, zJ_nle_m1, zJ_m1lt, zJ_add, zJ_al, zJ_mull, zJ_c, zJ_mlr, zJ_cl, zJ_sub, zJ_subl, zJ_neg, zJ_divl, zreml, zshl_1, zshr_J, zushr_J, zJ_and1, if_pos, if_neg, Option.bind_some, zI_eq, zI_ne, zI_nk, zI_2, zL_1, zL_eq, zL_ne, zL_nk, zL_22])) (fun x hx => zw_some hx)
theorem gcp_101_93 (h : zH) : zw (f_Mod_copyTo_101_93 h) fun g => zfm [(375, 375, 0, 9999)] h g ∧ ∀ k, k < 2280 → g.1 375 k = h.1 367 k := by
  unfold f_Mod_copyTo_101_93
  exact zw_bi (gcp (m := 2280) (F := fun g i => f_Mod_copyTo_101_93_b2 g i) (by omega) (by omega) (fun g k hk => by unfold f_Mod_copyTo_101_93_b2; simp (disch := omega) only [zg_tr, zb_t, zJ_lt, zJ_le, zJ_inj, zJ_ltl, zJ_lel, zJ_eql, zJ_llt, zJ_lle, zJ_leq, zJ_m1, zJ_m1r, zJ_nle_m1, zJ_m1lt, zJ_add, zJ_al, zJ_mull, zJ_c, zJ_mlr, zJ_cl, zJ_sub, zJ_subl, zJ_neg, zJ_divl, zreml, zshl_1, zshr_J, zushr_J, zJ_and1, if_pos, if_neg, Option.bind_some, zI_eq, zI_ne, zI_nk, zI_2, zL_1, zL_eq, zL_ne, zL_nk, zL_22]) (fun g => by unfold f_Mod_copyTo_101_93_b2; simp (disch := omega) only [zg_tr, zb_t, zJ_lt, zJ_le, zJ_inj, zJ_ltl, zJ_lel, zJ_eql, zJ_llt, zJ_lle, zJ_leq, zJ_m1, zJ_m1r, zJ_nle_m1, zJ_m1lt, zJ_add, zJ_al, zJ_mull, zJ_c, zJ_mlr, zJ_cl, zJ_sub, zJ_subl, zJ_neg, zJ_divl, zreml, zshl_1, zshr_J, zushr_J, zJ_and1, if_pos, if_neg, Option.bind_some, zI_eq, zI_ne, zI_nk, zI_2, zL_1, zL_eq, zL_ne, zL_nk, zL_22])) (fun x hx => zw_some hx)
theorem gcp_102_94 (h : zH) : zw (f_Mod_copyTo_102_94 h) fun g => zfm [(376, 376, 0, 9999)] h g ∧ ∀ k, k < 10 → g.1 376 k = h.1 368 k := by
  unfold f_Mod_copyTo_102_94
  exact zw_bi (gcp (m := 10) (F := fun g i => f_Mod_copyTo_102_94_b2 g i) (by omega) (by omega) (fun g k hk => by unfold f_Mod_copyTo_102_94_b2; simp (disch := omega) only [zg_tr, zb_t, zJ_lt, zJ_le, zJ_inj, zJ_ltl, zJ_lel, zJ_eql, zJ_llt, zJ_lle, zJ_leq, zJ_m1, zJ_m1r, zJ_nle_m1, zJ_m1lt, zJ_add, zJ_al, zJ_mull, zJ_c, zJ_mlr, zJ_cl, zJ_sub, zJ_subl, zJ_neg, zJ_divl, zreml, zshl_1, zshr_J, zushr_J, zJ_and1, if_pos, if_neg, Option.bind_some, zI_eq, zI_ne, zI_nk, zI_2, zL_1, zL_eq, zL_ne, zL_nk, zL_22]) (fun g => by unfold f_Mod_copyTo_102_94_b2; simp (disch := omega) only [zg_tr, zb_t, zJ_lt, zJ_le, zJ_inj, zJ_ltl, zJ_lel, zJ_eql, zJ_llt, zJ_lle, zJ_leq, zJ_m1, zJ_m1r, zJ_nle_m1, zJ_m1lt, zJ_add, zJ_al, zJ_mull, zJ_c, zJ_mlr, zJ_cl, zJ_sub, zJ_subl, zJ_neg, zJ_divl, zreml, zshl_1, zshr_J, zushr_J, zJ_and1, if_pos, if_neg, Option.bind_some, zI_eq, zI_ne, zI_nk, zI_2, zL_1, zL_eq, zL_ne, zL_nk, zL_22])) (fun x hx => zw_some hx)
theorem gcp_103_95 (h : zH) : zw (f_Mod_copyTo_103_95 h) fun g => zfm [(377, 377, 0, 9999)] h g ∧ ∀ k, k < 10 → g.1 377 k = h.1 369 k := by
  unfold f_Mod_copyTo_103_95
  exact zw_bi (gcp (m := 10) (F := fun g i => f_Mod_copyTo_103_95_b2 g i) (by omega) (by omega) (fun g k hk => by unfold f_Mod_copyTo_103_95_b2; simp (disch := omega) only [zg_tr, zb_t, zJ_lt, zJ_le, zJ_inj, zJ_ltl, zJ_lel, zJ_eql, zJ_llt, zJ_lle, zJ_leq, zJ_m1, zJ_m1r, zJ_nle_m1, zJ_m1lt, zJ_add, zJ_al, zJ_mull, zJ_c, zJ_mlr, zJ_cl, zJ_sub, zJ_subl, zJ_neg, zJ_divl, zreml, zshl_1, zshr_J, zushr_J, zJ_and1, if_pos, if_neg, Option.bind_some, zI_eq, zI_ne, zI_nk, zI_2, zL_1, zL_eq, zL_ne, zL_nk, zL_22]) (fun g => by unfold f_Mod_copyTo_103_95_b2; simp (disch := omega) only [zg_tr, zb_t, zJ_lt, zJ_le, zJ_inj, zJ_ltl, zJ_lel, zJ_eql, zJ_llt, zJ_lle, zJ_leq, zJ_m1, zJ_m1r, zJ_nle_m1, zJ_m1lt, zJ_add, zJ_al, zJ_mull, zJ_c, zJ_mlr, zJ_cl, zJ_sub, zJ_subl, zJ_neg, zJ_divl, zreml, zshl_1, zshr_J, zushr_J, zJ_and1, if_pos, if_neg, Option.bind_some, zI_eq, zI_ne, zI_nk, zI_2, zL_1, zL_eq, zL_ne, zL_nk, zL_22])) (fun x hx => zw_some hx)
theorem gcp_104_96 (h : zH) : zw (f_Mod_copyTo_104_96 h) fun g => zfm [(378, 378, 0, 9999)] h g ∧ ∀ k, k < 10 → g.1 378 k = h.1 370 k := by
  unfold f_Mod_copyTo_104_96
  exact zw_bi (gcp (m := 10) (F := fun g i => f_Mod_copyTo_104_96_b2 g i) (by omega) (by omega) (fun g k hk => by unfold f_Mod_copyTo_104_96_b2; simp (disch := omega) only [zg_tr, zb_t, zJ_lt, zJ_le, zJ_inj, zJ_ltl, zJ_lel, zJ_eql, zJ_llt, zJ_lle, zJ_leq, zJ_m1, zJ_m1r, zJ_nle_m1, zJ_m1lt, zJ_add, zJ_al, zJ_mull, zJ_c, zJ_mlr, zJ_cl, zJ_sub, zJ_subl, zJ_neg, zJ_divl, zreml, zshl_1, zshr_J, zushr_J, zJ_and1, if_pos, if_neg, Option.bind_some, zI_eq, zI_ne, zI_nk, zI_2, zL_1, zL_eq, zL_ne, zL_nk, zL_22]) (fun g => by unfold f_Mod_copyTo_104_96_b2; simp (disch := omega) only [zg_tr, zb_t, zJ_lt, zJ_le, zJ_inj, zJ_ltl, zJ_lel, zJ_eql, zJ_llt, zJ_lle, zJ_leq, zJ_m1, zJ_m1r, zJ_nle_m1, zJ_m1lt, zJ_add, zJ_al, zJ_mull, zJ_c, zJ_mlr, zJ_cl, zJ_sub, zJ_subl, zJ_neg, zJ_divl, zreml, zshl_1, zshr_J, zushr_J, zJ_and1, if_pos, if_neg, Option.bind_some, zI_eq, zI_ne, zI_nk, zI_2, zL_1, zL_eq, zL_ne, zL_nk, zL_22])) (fun x hx => zw_some hx)
theorem gcp_105_74 (h : zH) : zw (f_Mod_copyTo_105_74 h) fun g => zfm [(379, 379, 0, 9999)] h g ∧ ∀ k, k < 3 → g.1 379 k = h.1 348 k := by
  unfold f_Mod_copyTo_105_74
  exact zw_bi (gcp (m := 3) (F := fun g i => f_Mod_copyTo_105_74_b2 g i) (by omega) (by omega) (fun g k hk => by unfold f_Mod_copyTo_105_74_b2; simp (disch := omega) only [zg_tr, zb_t, zJ_lt, zJ_le, zJ_inj, zJ_ltl, zJ_lel, zJ_eql, zJ_llt, zJ_lle, zJ_leq, zJ_m1, zJ_m1r, zJ_nle_m1, zJ_m1lt, zJ_add, zJ_al, zJ_mull, zJ_c, zJ_mlr, zJ_cl, zJ_sub, zJ_subl, zJ_neg, zJ_divl, zreml, zshl_1, zshr_J, zushr_J, zJ_and1, if_pos, if_neg, Option.bind_some, zI_eq, zI_ne, zI_nk, zI_2, zL_1, zL_eq, zL_ne, zL_nk, zL_22]) (fun g => by unfold f_Mod_copyTo_105_74_b2; simp (disch := omega) only [zg_tr, zb_t, zJ_lt, zJ_le, zJ_inj, zJ_ltl, zJ_lel, zJ_eql, zJ_llt, zJ_lle, zJ_leq, zJ_m1, zJ_m1r, zJ_nle_m1, zJ_m1lt, zJ_add, zJ_al, zJ_mull, zJ_c, zJ_mlr, zJ_cl, zJ_sub, zJ_subl, zJ_neg, zJ_divl, zreml, zshl_1, zshr_J, zushr_J, zJ_and1, if_pos, if_neg, Option.bind_some, zI_eq, zI_ne, zI_nk, zI_2, zL_1, zL_eq, zL_ne, zL_nk, zL_22])) (fun x hx => zw_some hx)
theorem gcp_73_100 (h : zH) : zw (f_Mod_copyTo_73_100 h) fun g => zfm [(347, 347, 0, 9999)] h g ∧ ∀ k, k < 57 → g.1 347 k = h.1 374 k := by
  unfold f_Mod_copyTo_73_100
  exact zw_bi (gcp (m := 57) (F := fun g i => f_Mod_copyTo_73_100_b2 g i) (by omega) (by omega) (fun g k hk => by unfold f_Mod_copyTo_73_100_b2; simp (disch := omega) only [zg_tr, zb_t, zJ_lt, zJ_le, zJ_inj, zJ_ltl, zJ_lel, zJ_eql, zJ_llt, zJ_lle, zJ_leq, zJ_m1, zJ_m1r, zJ_nle_m1, zJ_m1lt, zJ_add, zJ_al, zJ_mull, zJ_c, zJ_mlr, zJ_cl, zJ_sub, zJ_subl, zJ_neg, zJ_divl, zreml, zshl_1, zshr_J, zushr_J, zJ_and1, if_pos, if_neg, Option.bind_some, zI_eq, zI_ne, zI_nk, zI_2, zL_1, zL_eq, zL_ne, zL_nk, zL_22]) (fun g => by unfold f_Mod_copyTo_73_100_b2; simp (disch := omega) only [zg_tr, zb_t, zJ_lt, zJ_le, zJ_inj, zJ_ltl, zJ_lel, zJ_eql, zJ_llt, zJ_lle, zJ_leq, zJ_m1, zJ_m1r, zJ_nle_m1, zJ_m1lt, zJ_add, zJ_al, zJ_mull, zJ_c, zJ_mlr, zJ_cl, zJ_sub, zJ_subl, zJ_neg, zJ_divl, zreml, zshl_1, zshr_J, zushr_J, zJ_and1, if_pos, if_neg, Option.bind_some, zI_eq, zI_ne, zI_nk, zI_2, zL_1, zL_eq, zL_ne, zL_nk, zL_22])) (fun x hx => zw_some hx)
theorem gcp_93_101 (h : zH) : zw (f_Mod_copyTo_93_101 h) fun g => zfm [(367, 367, 0, 9999)] h g ∧ ∀ k, k < 2280 → g.1 367 k = h.1 375 k := by
  unfold f_Mod_copyTo_93_101
  exact zw_bi (gcp (m := 2280) (F := fun g i => f_Mod_copyTo_93_101_b2 g i) (by omega) (by omega) (fun g k hk => by unfold f_Mod_copyTo_93_101_b2; simp (disch := omega) only [zg_tr, zb_t, zJ_lt, zJ_le, zJ_inj, zJ_ltl, zJ_lel, zJ_eql, zJ_llt, zJ_lle, zJ_leq, zJ_m1, zJ_m1r, zJ_nle_m1, zJ_m1lt, zJ_add, zJ_al, zJ_mull, zJ_c, zJ_mlr, zJ_cl, zJ_sub, zJ_subl, zJ_neg, zJ_divl, zreml, zshl_1, zshr_J, zushr_J, zJ_and1, if_pos, if_neg, Option.bind_some, zI_eq, zI_ne, zI_nk, zI_2, zL_1, zL_eq, zL_ne, zL_nk, zL_22]) (fun g => by unfold f_Mod_copyTo_93_101_b2; simp (disch := omega) only [zg_tr, zb_t, zJ_lt, zJ_le, zJ_inj, zJ_ltl, zJ_lel, zJ_eql, zJ_llt, zJ_lle, zJ_leq, zJ_m1, zJ_m1r, zJ_nle_m1, zJ_m1lt, zJ_add, zJ_al, zJ_mull, zJ_c, zJ_mlr, zJ_cl, zJ_sub, zJ_subl, zJ_neg, zJ_divl, zreml, zshl_1, zshr_J, zushr_J, zJ_and1, if_pos, if_neg, Option.bind_some, zI_eq, zI_ne, zI_nk, zI_2, zL_1, zL_eq, zL_ne, zL_nk, zL_22])) (fun x hx => zw_some hx)
theorem gcp_94_102 (h : zH) : zw (f_Mod_copyTo_94_102 h) fun g => zfm [(368, 368, 0, 9999)] h g ∧ ∀ k, k < 10 → g.1 368 k = h.1 376 k := by
  unfold f_Mod_copyTo_94_102
  exact zw_bi (gcp (m := 10) (F := fun g i => f_Mod_copyTo_94_102_b2 g i) (by omega) (by omega) (fun g k hk => by unfold f_Mod_copyTo_94_102_b2; simp (disch := omega) only [zg_tr, zb_t, zJ_lt, zJ_le, zJ_inj, zJ_ltl, zJ_lel, zJ_eql, zJ_llt, zJ_lle, zJ_leq, zJ_m1, zJ_m1r, zJ_nle_m1, zJ_m1lt, zJ_add, zJ_al, zJ_mull, zJ_c, zJ_mlr, zJ_cl, zJ_sub, zJ_subl, zJ_neg, zJ_divl, zreml, zshl_1, zshr_J, zushr_J, zJ_and1, if_pos, if_neg, Option.bind_some, zI_eq, zI_ne, zI_nk, zI_2, zL_1, zL_eq, zL_ne, zL_nk, zL_22]) (fun g => by unfold f_Mod_copyTo_94_102_b2; simp (disch := omega) only [zg_tr, zb_t, zJ_lt, zJ_le, zJ_inj, zJ_ltl, zJ_lel, zJ_eql, zJ_llt, zJ_lle, zJ_leq, zJ_m1, zJ_m1r, zJ_nle_m1, zJ_m1lt, zJ_add, zJ_al, zJ_mull, zJ_c, zJ_mlr, zJ_cl, zJ_sub, zJ_subl, zJ_neg, zJ_divl, zreml, zshl_1, zshr_J, zushr_J, zJ_and1, if_pos, if_neg, Option.bind_some, zI_eq, zI_ne, zI_nk, zI_2, zL_1, zL_eq, zL_ne, zL_nk, zL_22])) (fun x hx => zw_some hx)
theorem gcp_95_103 (h : zH) : zw (f_Mod_copyTo_95_103 h) fun g => zfm [(369, 369, 0, 9999)] h g ∧ ∀ k, k < 10 → g.1 369 k = h.1 377 k := by
  unfold f_Mod_copyTo_95_103
  exact zw_bi (gcp (m := 10) (F := fun g i => f_Mod_copyTo_95_103_b2 g i) (by omega) (by omega) (fun g k hk => by unfold f_Mod_copyTo_95_103_b2; simp (disch := omega) only [zg_tr, zb_t, zJ_lt, zJ_le, zJ_inj, zJ_ltl, zJ_lel, zJ_eql, zJ_llt, zJ_lle, zJ_leq, zJ_m1, zJ_m1r, zJ_nle_m1, zJ_m1lt, zJ_add, zJ_al, zJ_mull, zJ_c, zJ_mlr, zJ_cl, zJ_sub, zJ_subl, zJ_neg, zJ_divl, zreml, zshl_1, zshr_J, zushr_J, zJ_and1, if_pos, if_neg, Option.bind_some, zI_eq, zI_ne, zI_nk, zI_2, zL_1, zL_eq, zL_ne, zL_nk, zL_22]) (fun g => by unfold f_Mod_copyTo_95_103_b2; simp (disch := omega) only [zg_tr, zb_t, zJ_lt, zJ_le, zJ_inj, zJ_ltl, zJ_lel, zJ_eql, zJ_llt, zJ_lle, zJ_leq, zJ_m1, zJ_m1r, zJ_nle_m1, zJ_m1lt, zJ_add, zJ_al, zJ_mull, zJ_c, zJ_mlr, zJ_cl, zJ_sub, zJ_subl, zJ_neg, zJ_divl, zreml, zshl_1, zshr_J, zushr_J, zJ_and1, if_pos, if_neg, Option.bind_some, zI_eq, zI_ne, zI_nk, zI_2, zL_1, zL_eq, zL_ne, zL_nk, zL_22])) (fun x hx => zw_some hx)
theorem gcp_96_104 (h : zH) : zw (f_Mod_copyTo_96_104 h) fun g => zfm [(370, 370, 0, 9999)] h g ∧ ∀ k, k < 10 → g.1 370 k = h.1 378 k := by
  unfold f_Mod_copyTo_96_104
  exact zw_bi (gcp (m := 10) (F := fun g i => f_Mod_copyTo_96_104_b2 g i) (by omega) (by omega) (fun g k hk => by unfold f_Mod_copyTo_96_104_b2; simp (disch := omega) only [zg_tr, zb_t, zJ_lt, zJ_le, zJ_inj, zJ_ltl, zJ_lel, zJ_eql, zJ_llt, zJ_lle, zJ_leq, zJ_m1, zJ_m1r, zJ_nle_m1, zJ_m1lt, zJ_add, zJ_al, zJ_mull, zJ_c, zJ_mlr, zJ_cl, zJ_sub, zJ_subl, zJ_neg, zJ_divl, zreml, zshl_1, zshr_J, zushr_J, zJ_and1, if_pos, if_neg, Option.bind_some, zI_eq, zI_ne, zI_nk, zI_2, zL_1, zL_eq, zL_ne, zL_nk, zL_22]) (fun g => by unfold f_Mod_copyTo_96_104_b2; simp (disch := omega) only [zg_tr, zb_t, zJ_lt, zJ_le, zJ_inj, zJ_ltl, zJ_lel, zJ_eql, zJ_llt, zJ_lle, zJ_leq, zJ_m1, zJ_m1r, zJ_nle_m1, zJ_m1lt, zJ_add, zJ_al, zJ_mull, zJ_c, zJ_mlr, zJ_cl, zJ_sub, zJ_subl, zJ_neg, zJ_divl, zreml, zshl_1, zshr_J, zushr_J, zJ_and1, if_pos, if_neg, Option.bind_some, zI_eq, zI_ne, zI_nk, zI_2, zL_1, zL_eq, zL_ne, zL_nk, zL_22])) (fun x hx => zw_some hx)
theorem gcp_74_105 (h : zH) : zw (f_Mod_copyTo_74_105 h) fun g => zfm [(348, 348, 0, 9999)] h g ∧ ∀ k, k < 3 → g.1 348 k = h.1 379 k := by
  unfold f_Mod_copyTo_74_105
  exact zw_bi (gcp (m := 3) (F := fun g i => f_Mod_copyTo_74_105_b2 g i) (by omega) (by omega) (fun g k hk => by unfold f_Mod_copyTo_74_105_b2; simp (disch := omega) only [zg_tr, zb_t, zJ_lt, zJ_le, zJ_inj, zJ_ltl, zJ_lel, zJ_eql, zJ_llt, zJ_lle, zJ_leq, zJ_m1, zJ_m1r, zJ_nle_m1, zJ_m1lt, zJ_add, zJ_al, zJ_mull, zJ_c, zJ_mlr, zJ_cl, zJ_sub, zJ_subl, zJ_neg, zJ_divl, zreml, zshl_1, zshr_J, zushr_J, zJ_and1, if_pos, if_neg, Option.bind_some, zI_eq, zI_ne, zI_nk, zI_2, zL_1, zL_eq, zL_ne, zL_nk, zL_22]) (fun g => by unfold f_Mod_copyTo_74_105_b2; simp (disch := omega) only [zg_tr, zb_t, zJ_lt, zJ_le, zJ_inj, zJ_ltl, zJ_lel, zJ_eql, zJ_llt, zJ_lle, zJ_leq, zJ_m1, zJ_m1r, zJ_nle_m1, zJ_m1lt, zJ_add, zJ_al, zJ_mull, zJ_c, zJ_mlr, zJ_cl, zJ_sub, zJ_subl, zJ_neg, zJ_divl, zreml, zshl_1, zshr_J, zushr_J, zJ_and1, if_pos, if_neg, Option.bind_some, zI_eq, zI_ne, zI_nk, zI_2, zL_1, zL_eq, zL_ne, zL_nk, zL_22])) (fun x hx => zw_some hx)
/-- rows that agree carry the same session -/
theorem yRSe.mv {N : yN} {t : yT} {ac nt ac' nt' : Int32} {now past nr nl nv st now' past' nr' nl' nv' st' : Nat → Int32} (ht : yOKt N t) (h : yRSe ac nt now past nr nl nv st t) (e1 : ac' = ac) (e2 : nt' = nt) (e3 : ∀ k, k < 57 → now' k = now k) (e4 : ∀ k, k < 2280 → past' k = past k) (e5 : ∀ k, k < 10 → nr' k = nr k) (e6 : ∀ k, k < 10 → nl' k = nl k) (e7 : ∀ k, k < 10 → nv' k = nv k) (e8 : ∀ k, k < 3 → st' k = st k) : yRSe ac' nt' now' past' nr' nl' nv' st' t := by
  obtain ⟨r1, r2, r3, r4, r5, r6⟩ := h
  obtain ⟨t1, t2, t3, t4, -⟩ := ht
  refine ⟨yRSt.mv t1.2.2.2.1 (fun k hk => ?_) r1, e1.trans r2, fun i hi => yRSt.mv (t3 i hi).2.2.2.1 (fun k hk => e4 _ (by omega)) (r3 i hi), e2.trans r4, fun k hk => ?_, fun k hk => (e8 k hk).trans (r6 k hk)⟩
  · rw [Nat.zero_add]
    exact e3 k hk
  · rw [e5 k (by omega), e6 k (by omega), e7 k (by omega)]
    exact r5 k hk
def gimg (S : yG) : yG := (gN S, gT S, true, gT S, S.2.2.2.2)
