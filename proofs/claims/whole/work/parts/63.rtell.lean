/-- one line, a fault being there or not -/
theorem tl_j39 {h : zH} {f k t : Nat} (hf : f ≤ 44) (hk : k < 22) : zw (f_Mod_tellLines_j39 h (zfj f) (zJ k) (zJ t) (zJ k)) fun x => ∃ h', x = .inl (zJ (k + 1), h') ∧ zfm [(351, 351, 0, 9999)] h h' ∧ h'.1 351 k = zJ (if f ≠ 0 ∧ k = (f - 1) / 2 then (f - 1) % 2 else t) ∧ ∀ j, j ≠ k → h'.1 351 j = h.1 351 j := by
  have hz : ∀ {h h' : zH} {v : Int32}, zfm [(351, 351, 0, 9999)] h h' → zfm [(351, 351, 0, 9999)] h (zsI h' 351 k v) := fun q => q.I (zin_1 (by omega) (by omega) (by omega) (by omega))
  unfold f_Mod_tellLines_j39
  cases f with
  | zero =>
    simp (disch := omega) only [zg_tr, zb_t, zJ_lt, zJ_le, zJ_inj, zJ_ltl, zJ_lel, zJ_eql, zJ_llt, zJ_lle, zJ_leq, zJ_m1, zJ_m1r, zJ_nle_m1, zJ_m1lt, zJ_add, zJ_al, zJ_mull, zJ_c, zJ_mlr, zJ_cl, zJ_sub, zJ_subl, zJ_neg, zJ_divl, zreml, zshl_1, zshr_J, zushr_J, zJ_and1, if_pos, if_neg, Option.bind_some, zI_eq, zI_ne, zI_nk, zI_2, zL_1, zL_eq, zL_ne, zL_nk, zL_22, zfj_0]
    refine zw_some ⟨_, rfl, hz zfm.rfl', ?_, fun j hj => ?_⟩
    · simp (disch := omega) only [zg_tr, zb_t, zJ_lt, zJ_le, zJ_inj, zJ_ltl, zJ_lel, zJ_eql, zJ_llt, zJ_lle, zJ_leq, zJ_m1, zJ_m1r, zJ_nle_m1, zJ_m1lt, zJ_add, zJ_al, zJ_mull, zJ_c, zJ_mlr, zJ_cl, zJ_sub, zJ_subl, zJ_neg, zJ_divl, zreml, zshl_1, zshr_J, zushr_J, zJ_and1, if_pos, if_neg, Option.bind_some, zI_eq, zI_ne, zI_nk, zI_2, zL_1, zL_eq, zL_ne, zL_nk, zL_22]
    · simp (disch := omega) only [zg_tr, zb_t, zJ_lt, zJ_le, zJ_inj, zJ_ltl, zJ_lel, zJ_eql, zJ_llt, zJ_lle, zJ_leq, zJ_m1, zJ_m1r, zJ_nle_m1, zJ_m1lt, zJ_add, zJ_al, zJ_mull, zJ_c, zJ_mlr, zJ_cl, zJ_sub, zJ_subl, zJ_neg, zJ_divl, zreml, zshl_1, zshr_J, zushr_J, zJ_and1, if_pos, if_neg, Option.bind_some, zI_eq, zI_ne, zI_nk, zI_2, zL_1, zL_eq, zL_ne, zL_nk, zL_22]
  | succ f =>
    simp (disch := omega) only [zg_tr, zb_t, zJ_lt, zJ_le, zJ_inj, zJ_ltl, zJ_lel, zJ_eql, zJ_llt, zJ_lle, zJ_leq, zJ_m1, zJ_m1r, zJ_nle_m1, zJ_m1lt, zJ_add, zJ_al, zJ_mull, zJ_c, zJ_mlr, zJ_cl, zJ_sub, zJ_subl, zJ_neg, zJ_divl, zreml, zshl_1, zshr_J, zushr_J, zJ_and1, if_pos, if_neg, Option.bind_some, zI_eq, zI_ne, zI_nk, zI_2, zL_1, zL_eq, zL_ne, zL_nk, zL_22, zfj_s]
    by_cases hfk : k = f / 2
    · simp (disch := omega) only [zg_tr, zb_t, zJ_lt, zJ_le, zJ_inj, zJ_ltl, zJ_lel, zJ_eql, zJ_llt, zJ_lle, zJ_leq, zJ_m1, zJ_m1r, zJ_nle_m1, zJ_m1lt, zJ_add, zJ_al, zJ_mull, zJ_c, zJ_mlr, zJ_cl, zJ_sub, zJ_subl, zJ_neg, zJ_divl, zreml, zshl_1, zshr_J, zushr_J, zJ_and1, if_pos, if_neg, Option.bind_some, zI_eq, zI_ne, zI_nk, zI_2, zL_1, zL_eq, zL_ne, zL_nk, zL_22, hfk]
      simp only [not_true, if_false]
      refine zw_some ⟨_, rfl, ?_, ?_, fun j hj => ?_⟩
      · have hz2 : ∀ {h h' : zH} {v : Int32}, zfm [(351, 351, 0, 9999)] h h' → zfm [(351, 351, 0, 9999)] h (zsI h' 351 (f / 2) v) := fun q => q.I (zin_1 (by omega) (by omega) (by omega) (by omega))
        exact hz2 (hz2 zfm.rfl')
      · simp (disch := omega) only [zg_tr, zb_t, zJ_lt, zJ_le, zJ_inj, zJ_ltl, zJ_lel, zJ_eql, zJ_llt, zJ_lle, zJ_leq, zJ_m1, zJ_m1r, zJ_nle_m1, zJ_m1lt, zJ_add, zJ_al, zJ_mull, zJ_c, zJ_mlr, zJ_cl, zJ_sub, zJ_subl, zJ_neg, zJ_divl, zreml, zshl_1, zshr_J, zushr_J, zJ_and1, if_pos, if_neg, Option.bind_some, zI_eq, zI_ne, zI_nk, zI_2, zL_1, zL_eq, zL_ne, zL_nk, zL_22]
        rfl
      · simp (disch := omega) only [zg_tr, zb_t, zJ_lt, zJ_le, zJ_inj, zJ_ltl, zJ_lel, zJ_eql, zJ_llt, zJ_lle, zJ_leq, zJ_m1, zJ_m1r, zJ_nle_m1, zJ_m1lt, zJ_add, zJ_al, zJ_mull, zJ_c, zJ_mlr, zJ_cl, zJ_sub, zJ_subl, zJ_neg, zJ_divl, zreml, zshl_1, zshr_J, zushr_J, zJ_and1, if_pos, if_neg, Option.bind_some, zI_eq, zI_ne, zI_nk, zI_2, zL_1, zL_eq, zL_ne, zL_nk, zL_22]
    · simp (disch := omega) only [zg_tr, zb_t, zJ_lt, zJ_le, zJ_inj, zJ_ltl, zJ_lel, zJ_eql, zJ_llt, zJ_lle, zJ_leq, zJ_m1, zJ_m1r, zJ_nle_m1, zJ_m1lt, zJ_add, zJ_al, zJ_mull, zJ_c, zJ_mlr, zJ_cl, zJ_sub, zJ_subl, zJ_neg, zJ_divl, zreml, zshl_1, zshr_J, zushr_J, zJ_and1, if_pos, if_neg, Option.bind_some, zI_eq, zI_ne, zI_nk, zI_2, zL_1, zL_eq, zL_ne, zL_nk, zL_22]
      refine zw_some ⟨_, rfl, hz zfm.rfl', ?_, fun j hj => ?_⟩
      · simp (disch := omega) only [zg_tr, zb_t, zJ_lt, zJ_le, zJ_inj, zJ_ltl, zJ_lel, zJ_eql, zJ_llt, zJ_lle, zJ_leq, zJ_m1, zJ_m1r, zJ_nle_m1, zJ_m1lt, zJ_add, zJ_al, zJ_mull, zJ_c, zJ_mlr, zJ_cl, zJ_sub, zJ_subl, zJ_neg, zJ_divl, zreml, zshl_1, zshr_J, zushr_J, zJ_and1, if_pos, if_neg, Option.bind_some, zI_eq, zI_ne, zI_nk, zI_2, zL_1, zL_eq, zL_ne, zL_nk, zL_22]
      · simp (disch := omega) only [zg_tr, zb_t, zJ_lt, zJ_le, zJ_inj, zJ_ltl, zJ_lel, zJ_eql, zJ_llt, zJ_lle, zJ_leq, zJ_m1, zJ_m1r, zJ_nle_m1, zJ_m1lt, zJ_add, zJ_al, zJ_mull, zJ_c, zJ_mlr, zJ_cl, zJ_sub, zJ_subl, zJ_neg, zJ_divl, zreml, zshl_1, zshr_J, zushr_J, zJ_and1, if_pos, if_neg, Option.bind_some, zI_eq, zI_ne, zI_nk, zI_2, zL_1, zL_eq, zL_ne, zL_nk, zL_22]
theorem tellLines_r {h : zH} {e : zEv} {inp : Nat → Nat} {f : Nat} (he : zEok e) (hr : zRE h e) (hf : f ≤ 44) (hi : ∀ i, i < e.1 → h.1 350 i = zJ (inp i) ∧ inp i ≤ 2) : zw (f_Mod_tellLines h (zfj f)) fun h' => zfm [(351, 351, 0, 9999)] h h' ∧ ∀ l, l < e.2.1 → h'.1 351 l = zJ (zvl e inp f l) := by
  obtain ⟨e1, e2, e3, e4⟩ := id he
  unfold f_Mod_tellLines
  refine zw_bi (P := fun h' => zfm [(351, 351, 0, 9999)] h h' ∧ ∀ l, l < e.2.1 → h'.1 351 l = zJ (zvl e inp f l)) (zw_for e.2.1 (fun k s => s.1 = zJ k ∧ zfm [(351, 351, 0, 9999)] h s.2 ∧ ∀ l, l < k → s.2.1 351 l = zJ (zvl e inp f l)) (by omega) ⟨rfl, zfm.rfl', fun l hl => by omega⟩ ?_) (fun x hx => zw_some hx)
  rintro k ⟨i, g⟩ hk ⟨rfl, hz, hv⟩
  dsimp only at hz hv ⊢
  have hrg : zRE g e := hr.fr hz (fun o k h1 h2 => zin_n1 (by omega))
  unfold f_Mod_tellLines_b2
  rw [lines_r he hrg]
  simp (disch := omega) only [zg_tr, zb_t, zJ_lt, zJ_le, zJ_inj, zJ_ltl, zJ_lel, zJ_eql, zJ_llt, zJ_lle, zJ_leq, zJ_m1, zJ_m1r, zJ_nle_m1, zJ_m1lt, zJ_add, zJ_al, zJ_mull, zJ_c, zJ_mlr, zJ_cl, zJ_sub, zJ_subl, zJ_neg, zJ_divl, zreml, zshl_1, zshr_J, zushr_J, zJ_and1, if_pos, if_neg, Option.bind_some, zI_eq, zI_ne, zI_nk, zI_2, zL_1, zL_eq, zL_ne, zL_nk, zL_22, hrg.1]
  by_cases hkm : k < e.2.1
  · have fin : ∀ t, zvl e inp f k = (if f ≠ 0 ∧ k = (f - 1) / 2 then (f - 1) % 2 else t) → zw (f_Mod_tellLines_j39 g (zfj f) (zJ k) (zJ t) (zJ k)) (Sum.elim (fun s' => k < e.2.1 ∧ s'.1 = zJ (k + 1) ∧ zfm [(351, 351, 0, 9999)] h s'.2 ∧ ∀ l, l < k + 1 → s'.2.1 351 l = zJ (zvl e inp f l)) fun h' => zfm [(351, 351, 0, 9999)] h h' ∧ ∀ l, l < e.2.1 → h'.1 351 l = zJ (zvl e inp f l)) := by
      intro t ht
      refine zw_mono (tl_j39 hf (by omega)) ?_
      rintro x ⟨h', rfl, q1, q2, q3⟩
      refine ⟨hkm, rfl, hz.trans q1, fun l hl => ?_⟩
      dsimp only
      by_cases hlk : l = k
      · subst hlk
        rw [q2, ht]
      · rw [q3 l hlk, hv l (by omega)]
    rw [if_neg (by omega)]
    by_cases hke : k < e.1
    · simp (disch := omega) only [zg_tr, zb_t, zJ_lt, zJ_le, zJ_inj, zJ_ltl, zJ_lel, zJ_eql, zJ_llt, zJ_lle, zJ_leq, zJ_m1, zJ_m1r, zJ_nle_m1, zJ_m1lt, zJ_add, zJ_al, zJ_mull, zJ_c, zJ_mlr, zJ_cl, zJ_sub, zJ_subl, zJ_neg, zJ_divl, zreml, zshl_1, zshr_J, zushr_J, zJ_and1, if_pos, if_neg, Option.bind_some, zI_eq, zI_ne, zI_nk, zI_2, zL_1, zL_eq, zL_ne, zL_nk, zL_22]
      rw [hz.i (zin_n1 (by omega)), (hi k hke).1]
      exact fin _ (by rw [zvl_eq he hkm, if_pos hke])
    · simp (disch := omega) only [zg_tr, zb_t, zJ_lt, zJ_le, zJ_inj, zJ_ltl, zJ_lel, zJ_eql, zJ_llt, zJ_lle, zJ_leq, zJ_m1, zJ_m1r, zJ_nle_m1, zJ_m1lt, zJ_add, zJ_al, zJ_mull, zJ_c, zJ_mlr, zJ_cl, zJ_sub, zJ_subl, zJ_neg, zJ_divl, zreml, zshl_1, zshr_J, zushr_J, zJ_and1, if_pos, if_neg, Option.bind_some, zI_eq, zI_ne, zI_nk, zI_2, zL_1, zL_eq, zL_ne, zL_nk, zL_22]
      refine zw_bi (joined_r (v := zvl e inp f) he hrg (by omega) hkm (fun j hj => ⟨hv j hj, zvl_le he (fun i h1 => (hi i h1).2) _ j (Nat.lt_succ_self j) (by omega)⟩)) ?_
      intro x hx
      subst hx
      exact fin _ (by rw [zvl_eq he hkm, if_neg hke])
  · have : k = e.2.1 := by omega
    subst this
    simp (disch := omega) only [zg_tr, zb_t, zJ_lt, zJ_le, zJ_inj, zJ_ltl, zJ_lel, zJ_eql, zJ_llt, zJ_lle, zJ_leq, zJ_m1, zJ_m1r, zJ_nle_m1, zJ_m1lt, zJ_add, zJ_al, zJ_mull, zJ_c, zJ_mlr, zJ_cl, zJ_sub, zJ_subl, zJ_neg, zJ_divl, zreml, zshl_1, zshr_J, zushr_J, zJ_and1, if_pos, if_neg, Option.bind_some, zI_eq, zI_ne, zI_nk, zI_2, zL_1, zL_eq, zL_ne, zL_nk, zL_22]
    exact zw_some ⟨hz, hv⟩
