/-! the reference -/
theorem lines_r {h : zH} {e : zEv} (he : zEok e) (hr : zRE h e) : f_Mod_lines h = some (zJ e.2.1) := by
  obtain ⟨e1, e2, e3, e4⟩ := he
  unfold f_Mod_lines
  simp (disch := omega) only [zg_tr, zb_t, zJ_lt, zJ_le, zJ_inj, zJ_ltl, zJ_lel, zJ_eql, zJ_llt, zJ_lle, zJ_leq, zJ_m1, zJ_m1r, zJ_nle_m1, zJ_m1lt, zJ_add, zJ_al, zJ_mull, zJ_c, zJ_mlr, zJ_cl, zJ_sub, zJ_subl, zJ_neg, zJ_divl, zreml, zshl_1, zshr_J, zushr_J, zJ_and1, if_pos, if_neg, Option.bind_some, zI_eq, zI_ne, zI_nk, zI_2, zL_1, zL_eq, zL_ne, zL_nk, zL_22, hr.1, hr.2.1]
  congr 2
  omega
theorem joined_r {h : zH} {e : zEv} {l : Nat} {v : Nat → Nat} (he : zEok e) (hr : zRE h e) (hl : e.1 ≤ l) (hl2 : l < e.2.1) (hv : ∀ j, j < l → h.1 351 j = zJ (v j) ∧ v j ≤ 2) : zw (f_Mod_joined h (zJ l)) fun x => x = zJ (zjn (e.2.2.1 l) (e.2.2.2.1 l) (fun i => v (e.2.2.2.2 l i))) := by
  obtain ⟨e1, e2, e3, e4⟩ := he
  obtain ⟨k1, k2, k3, k4, k5⟩ := e4 l hl hl2
  obtain ⟨-, -, r3⟩ := hr
  obtain ⟨r4, r5, r6⟩ := r3 l hl hl2
  have hof0 : h.1 339 (3 * l) = zJ (e.2.2.2.2 l 0) := r6 0 (by omega)
  have hlt0 := k5 0 (by omega)
  have hv0 := hv _ hlt0
  unfold f_Mod_joined
  simp (disch := omega) only [zg_tr, zb_t, zJ_lt, zJ_le, zJ_inj, zJ_ltl, zJ_lel, zJ_eql, zJ_llt, zJ_lle, zJ_leq, zJ_m1, zJ_m1r, zJ_nle_m1, zJ_m1lt, zJ_add, zJ_al, zJ_mull, zJ_c, zJ_mlr, zJ_cl, zJ_sub, zJ_subl, zJ_neg, zJ_divl, zreml, zshl_1, zshr_J, zushr_J, zJ_and1, if_pos, if_neg, Option.bind_some, zI_eq, zI_ne, zI_nk, zI_2, zL_1, zL_eq, zL_ne, zL_nk, zL_22, r4, r5]
  refine zw_bi (P := fun x => x = (zJ (fb_ct (fun i => v (e.2.2.2.2 l i) == 0) (e.2.2.2.1 l)), zJ (fb_ct (fun i => v (e.2.2.2.2 l i) == 1) (e.2.2.2.1 l)))) (zw_for (e.2.2.2.1 l) (fun k s => s = (zJ (fb_ct (fun i => v (e.2.2.2.2 l i) == 0) k), zJ (fb_ct (fun i => v (e.2.2.2.2 l i) == 1) k), zJ k)) (by omega) rfl ?_) ?_
  · intro k s hk hs
    subst hs
    dsimp only
    unfold f_Mod_joined_b15
    by_cases hkm : k < e.2.2.2.1 l
    · have h1 := r6 k hkm
      have h2 := k5 k hkm
      have h3 := hv _ h2
      simp (disch := omega) only [zg_tr, zb_t, zJ_lt, zJ_le, zJ_inj, zJ_ltl, zJ_lel, zJ_eql, zJ_llt, zJ_lle, zJ_leq, zJ_m1, zJ_m1r, zJ_nle_m1, zJ_m1lt, zJ_add, zJ_al, zJ_mull, zJ_c, zJ_mlr, zJ_cl, zJ_sub, zJ_subl, zJ_neg, zJ_divl, zreml, zshl_1, zshr_J, zushr_J, zJ_and1, if_pos, if_neg, Option.bind_some, zI_eq, zI_ne, zI_nk, zI_2, zL_1, zL_eq, zL_ne, zL_nk, zL_22, r5, h1, h3.1, f_Mod_joined_j55, f_Mod_joined_j70]
      rcases (by omega : v (e.2.2.2.2 l k) = 0 ∨ v (e.2.2.2.2 l k) = 1 ∨ v (e.2.2.2.2 l k) = 2) with hz | hz | hz
      all_goals
        simp [hz, fb_ct_succ, zw, hkm]
    · have : k = e.2.2.2.1 l := by omega
      subst this
      simp (disch := omega) only [zg_tr, zb_t, zJ_lt, zJ_le, zJ_inj, zJ_ltl, zJ_lel, zJ_eql, zJ_llt, zJ_lle, zJ_leq, zJ_m1, zJ_m1r, zJ_nle_m1, zJ_m1lt, zJ_add, zJ_al, zJ_mull, zJ_c, zJ_mlr, zJ_cl, zJ_sub, zJ_subl, zJ_neg, zJ_divl, zreml, zshl_1, zshr_J, zushr_J, zJ_and1, if_pos, if_neg, Option.bind_some, zI_eq, zI_ne, zI_nk, zI_2, zL_1, zL_eq, zL_ne, zL_nk, zL_22, r5]
      exact zw_some rfl
  · intro x hx
    subst hx
    dsimp only
    have hzo : fb_ct (fun i => v (e.2.2.2.2 l i) == 0) (e.2.2.2.1 l) + fb_ct (fun i => v (e.2.2.2.2 l i) == 1) (e.2.2.2.1 l) ≤ e.2.2.2.1 l := by
      rw [← fb_ct_or (fun k _ hq => by simp at hq; omega)]
      exact fb_ct_le _ _
    unfold zjn zjr
    generalize fb_ct (fun i => v (e.2.2.2.2 l i) == 0) (e.2.2.2.1 l) = z at hzo ⊢
    generalize fb_ct (fun i => v (e.2.2.2.2 l i) == 1) (e.2.2.2.1 l) = c at hzo ⊢
    generalize e.2.2.2.1 l = M at *
    have hv2 := hv0.2
    simp (disch := omega) only [zg_tr, zb_t, zJ_lt, zJ_le, zJ_inj, zJ_ltl, zJ_lel, zJ_eql, zJ_llt, zJ_lle, zJ_leq, zJ_m1, zJ_m1r, zJ_nle_m1, zJ_m1lt, zJ_add, zJ_al, zJ_mull, zJ_c, zJ_mlr, zJ_cl, zJ_sub, zJ_subl, zJ_neg, zJ_divl, zreml, zshl_1, zshr_J, zushr_J, zJ_and1, if_pos, if_neg, Option.bind_some, zI_eq, zI_ne, zI_nk, zI_2, zL_1, zL_eq, zL_ne, zL_nk, zL_22, hof0, hv0.1, f_Mod_joined_j147, f_Mod_joined_j165, f_Mod_joined_j189, f_Mod_joined_j132, f_Mod_joined_j191]
    generalize v (e.2.2.2.2 l 0) = w at *
    have key : ∀ (K r : Nat) (t : Int32), K ≤ 5 → r ≤ 2 → (t = 0 ↔ ¬ (K = 0 ∨ 3 < K)) → f_Mod_joined_j205 h (zJ r) t = some (zJ (zjt K r)) := by
      intro K r t hK hr ht
      unfold f_Mod_joined_j205 zjt
      by_cases h1 : K = 0 ∨ 3 < K
      · rw [if_neg (fun h2 => ht.mp h2 h1)]
        rcases (by omega : r = 0 ∨ r = 1 ∨ r = 2) with rfl | rfl | rfl
        all_goals
          simp [h1]
          try decide
      · rw [if_pos (ht.mpr h1), if_neg (by omega)]
    generalize e.2.2.1 l = K at *
    have g0 : ∀ t : Int32, (t = 0 ↔ ¬ (K = 0 ∨ 3 < K)) → f_Mod_joined_j205 h 0 t = some (zJ (zjt K 0)) := fun t ht => key K 0 t k1 (by omega) ht
    have g1 : ∀ t : Int32, (t = 0 ↔ ¬ (K = 0 ∨ 3 < K)) → f_Mod_joined_j205 h 1 t = some (zJ (zjt K 1)) := fun t ht => key K 1 t k1 (by omega) ht
    have g2 : ∀ t : Int32, (t = 0 ↔ ¬ (K = 0 ∨ 3 < K)) → f_Mod_joined_j205 h 2 t = some (zJ (zjt K 2)) := fun t ht => key K 2 t k1 (by omega) ht
    have g3 := key K (c % 2) 0 k1 (by omega)
    have g4 := key K w 1 k1 hv2
    rcases (by omega : K = 0 ∨ K = 1 ∨ K = 2 ∨ K = 3 ∨ K = 4 ∨ K = 5) with hK | hK | hK | hK | hK | hK
    · subst hK
      simp (disch := omega) only [zg_tr, zb_t, zJ_lt, zJ_le, zJ_inj, zJ_ltl, zJ_lel, zJ_eql, zJ_llt, zJ_lle, zJ_leq, zJ_m1, zJ_m1r, zJ_nle_m1, zJ_m1lt, zJ_add, zJ_al, zJ_mull, zJ_c, zJ_mlr, zJ_cl, zJ_sub, zJ_subl, zJ_neg, zJ_divl, zreml, zshl_1, zshr_J, zushr_J, zJ_and1, if_pos, if_neg, Option.bind_some, zI_eq, zI_ne, zI_nk, zI_2, zL_1, zL_eq, zL_ne, zL_nk, zL_22, hof0, hv0.1]
      exact zw_of (g4 (by decide)) rfl
    all_goals
      subst hK
      simp only [Nat.reduceEqDiff, not_false_eq_true, if_true, if_false, not_true, Nat.reduceLeDiff, false_or, or_false, true_or, or_true, Nat.one_ne_zero]
      by_cases hz0 : z = 0
      all_goals by_cases hc0 : c = 0
      all_goals by_cases hu0 : M - z - c = 0
      all_goals
        simp (disch := omega) only [if_pos, if_neg]
        first
        | exact zw_of (g0 _ (by decide)) (by simp [hz0, hc0, hu0])
        | exact zw_of (g1 _ (by decide)) (by simp [hz0, hc0, hu0])
        | exact zw_of (g2 _ (by decide)) (by simp [hz0, hc0, hu0])
        | exact zw_of (g3 (by decide)) (by simp [hz0, hc0, hu0])
