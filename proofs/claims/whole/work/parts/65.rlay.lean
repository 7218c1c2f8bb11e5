/-! ===== the reference lays its tests down ===== -/
def zct (e : zEv) (sb : Nat → Bool) (f n : Nat) : Nat := fb_ct (fun r => zcg e sb (zrw r) (f + 1)) n
def zdf (e : zEv) (f n : Nat) : Bool := zex (fun r => zvl e (zrw r) 0 (f / 2) != f % 2) n
def zTI (g : zH) (e : zEv) (sb : Nat → Bool) (N : Nat → Nat) : Prop := ∀ f, f < 2 * e.2.1 → (∀ r, r < N f → g.1 353 (64 * f + r) = zbI (zcg e sb (zrw r) (f + 1))) ∧ g.1 354 f = zJ (zct e sb f (N f)) ∧ g.1 357 f = zJ (1 + (zdf e f (N f)).toNat)
theorem zct_le {e : zEv} {sb : Nat → Bool} {f n : Nat} : zct e sb f n ≤ n := fb_ct_le _ _
theorem rows_r {h : zH} {e : zEv} (he : zEok e) (hr : zRE h e) : f_Mod_rows h = some (zJ (2 ^ e.1)) := by
  obtain ⟨e1, e2, e3, e4⟩ := he
  unfold f_Mod_rows
  simp (disch := omega) only [zg_tr, zb_t, zJ_lt, zJ_le, zJ_inj, zJ_ltl, zJ_lel, zJ_eql, zJ_llt, zJ_lle, zJ_leq, zJ_m1, zJ_m1r, zJ_nle_m1, zJ_m1lt, zJ_add, zJ_al, zJ_mull, zJ_c, zJ_mlr, zJ_cl, zJ_sub, zJ_subl, zJ_neg, zJ_divl, zreml, zshl_1, zshr_J, zushr_J, zJ_and1, if_pos, if_neg, Option.bind_some, zI_eq, zI_ne, zI_nk, zI_2, zL_1, zL_eq, zL_ne, zL_nk, zL_22, hr.1]
theorem faults_r {h : zH} {e : zEv} (he : zEok e) (hr : zRE h e) : f_Mod_faults h = some (zJ (2 * e.2.1)) := by
  unfold f_Mod_faults
  rw [lines_r he hr]
  simp (disch := omega) only [zg_tr, zb_t, zJ_lt, zJ_le, zJ_inj, zJ_ltl, zJ_lel, zJ_eql, zJ_llt, zJ_lle, zJ_leq, zJ_m1, zJ_m1r, zJ_nle_m1, zJ_m1lt, zJ_add, zJ_al, zJ_mull, zJ_c, zJ_mlr, zJ_cl, zJ_sub, zJ_subl, zJ_neg, zJ_divl, zreml, zshl_1, zshr_J, zushr_J, zJ_and1, if_pos, if_neg, Option.bind_some, zI_eq, zI_ne, zI_nk, zI_2, zL_1, zL_eq, zL_ne, zL_nk, zL_22]
theorem lt_init {h : zH} {e : zEv} {sb : Nat → Bool} : zw (zit zFU (fun s : Int32 × zH => f_Mod_layTests_b2 s.2 s.1) (0, h)) fun g => zfm [(354, 354, 0, 9999), (356, 357, 0, 9999)] h g ∧ (zEok e → zTI g e sb (fun _ => 0)) ∧ ∀ f, f < 44 → g.1 356 f = -1 := by
  refine zw_for 44 (fun k s => s.1 = zJ k ∧ zfm [(354, 354, 0, 9999), (356, 357, 0, 9999)] h s.2 ∧ ∀ f, f < k → s.2.1 354 f = 0 ∧ s.2.1 356 f = -1 ∧ s.2.1 357 f = 1) (by omega) ⟨rfl, zfm.rfl', fun l hl => by omega⟩ ?_
  rintro k ⟨i, g⟩ hk ⟨rfl, hz, hv⟩
  dsimp only at hz hv ⊢
  unfold f_Mod_layTests_b2
  by_cases hkm : k < 44
  · simp (disch := omega) only [zg_tr, zb_t, zJ_lt, zJ_le, zJ_inj, zJ_ltl, zJ_lel, zJ_eql, zJ_llt, zJ_lle, zJ_leq, zJ_m1, zJ_m1r, zJ_nle_m1, zJ_m1lt, zJ_add, zJ_al, zJ_mull, zJ_c, zJ_mlr, zJ_cl, zJ_sub, zJ_subl, zJ_neg, zJ_divl, zreml, zshl_1, zshr_J, zushr_J, zJ_and1, if_pos, if_neg, Option.bind_some, zI_eq, zI_ne, zI_nk, zI_2, zL_1, zL_eq, zL_ne, zL_nk, zL_22]
    refine zw_some ⟨hkm, rfl, ((hz.I (zin_1 (by omega) (by omega) (by omega) (by omega))).I (zin_2 (zin_1 (by omega) (by omega) (by omega) (by omega)))).I (zin_2 (zin_1 (by omega) (by omega) (by omega) (by omega))), fun j hj => ?_⟩
    dsimp only
    by_cases hjk : j = k
    · subst hjk
      simp (disch := omega) only [zg_tr, zb_t, zJ_lt, zJ_le, zJ_inj, zJ_ltl, zJ_lel, zJ_eql, zJ_llt, zJ_lle, zJ_leq, zJ_m1, zJ_m1r, zJ_nle_m1, zJ_m1lt, zJ_add, zJ_al, zJ_mull, zJ_c, zJ_mlr, zJ_cl, zJ_sub, zJ_subl, zJ_neg, zJ_divl, zreml, zshl_1, zshr_J, zushr_J, zJ_and1, if_pos, if_neg, Option.bind_some, zI_eq, zI_ne, zI_nk, zI_2, zL_1, zL_eq, zL_ne, zL_nk, zL_22]
      exact ⟨trivial, trivial, trivial⟩
    · simp (disch := omega) only [zg_tr, zb_t, zJ_lt, zJ_le, zJ_inj, zJ_ltl, zJ_lel, zJ_eql, zJ_llt, zJ_lle, zJ_leq, zJ_m1, zJ_m1r, zJ_nle_m1, zJ_m1lt, zJ_add, zJ_al, zJ_mull, zJ_c, zJ_mlr, zJ_cl, zJ_sub, zJ_subl, zJ_neg, zJ_divl, zreml, zshl_1, zshr_J, zushr_J, zJ_and1, if_pos, if_neg, Option.bind_some, zI_eq, zI_ne, zI_nk, zI_2, zL_1, zL_eq, zL_ne, zL_nk, zL_22]
      exact hv j (by omega)
  · simp (disch := omega) only [zg_tr, zb_t, zJ_lt, zJ_le, zJ_inj, zJ_ltl, zJ_lel, zJ_eql, zJ_llt, zJ_lle, zJ_leq, zJ_m1, zJ_m1r, zJ_nle_m1, zJ_m1lt, zJ_add, zJ_al, zJ_mull, zJ_c, zJ_mlr, zJ_cl, zJ_sub, zJ_subl, zJ_neg, zJ_divl, zreml, zshl_1, zshr_J, zushr_J, zJ_and1, if_pos, if_neg, Option.bind_some, zI_eq, zI_ne, zI_nk, zI_2, zL_1, zL_eq, zL_ne, zL_nk, zL_22]
    refine zw_some ⟨hz, fun he f hf => ?_, fun f hf => (hv f (by omega)).2.1⟩
    obtain ⟨e1, e2, e3, e4⟩ := he
    obtain ⟨v1, v2, v3⟩ := hv f (by omega)
    exact ⟨fun r hr => absurd hr (Nat.not_lt_zero r), v1, v3⟩
/-- a fault at a row -/
theorem lt_j98 {g : zH} {e : zEv} {sb : Nat → Bool} {r k : Nat} {b : Bool} (he : zEok e) (hr : r < 64) (hk : k < 2 * e.2.1) (hT : zTI g e sb (fun f => if f < k then r + 1 else r)) (hp : ∀ l, l < e.2.1 → g.1 352 l = zJ (zvl e (zrw r) 0 l)) (hb : b = zcg e sb (zrw r) (k + 1)) :
    zw (f_Mod_layTests_j98 (zsI g 353 (64 * k + r) (zbI b)) (zJ r) (zJ k) (zbI b) (zJ (zct e sb k r)) (zJ k)) fun x => ∃ h', x = .inl (zJ (k + 1), h') ∧ zfm [(353, 354, 0, 9999), (357, 357, 0, 9999)] g h' ∧ zTI h' e sb (fun f => if f < k + 1 then r + 1 else r) := by
  obtain ⟨e1, e2, e3, e4⟩ := id he
  have hw : zvl e (zrw r) 0 (k / 2) ≤ 2 := zvl_le he (fun i _ => zrw_le) _ _ (Nat.lt_succ_self _) (by omega)
  have hc : zJ (zct e sb k r) + zbI b = zJ (zct e sb k (r + 1)) := by
    unfold zct
    rw [zbI_J, zJ_add, fb_ct_succ, hb]
    congr 2
    cases zcg e sb (zrw r) (k + 1) <;> rfl
  have hle := zct_le (e := e) (sb := sb) (f := k) (n := r + 1)
  have hT' : ∀ h' : zH, (∀ o, 353 ≤ o → o ≤ 357 → ∀ j, (o = 353 → j ≠ 64 * k + r) → (o = 353 ∨ j ≠ k) → h'.1 o j = g.1 o j) → h'.1 353 (64 * k + r) = zbI b → h'.1 354 k = zJ (zct e sb k (r + 1)) → h'.1 357 k = zJ (1 + (zdf e k (r + 1)).toNat) → zTI h' e sb (fun f => if f < k + 1 then r + 1 else r) := by
    intro h' h0 h1 h2 h3 f hf
    obtain ⟨t1, t2, t3⟩ := hT f hf
    dsimp only at t1 t2 t3 ⊢
    by_cases hfk : f = k
    · subst hfk
      simp only [Nat.lt_irrefl, if_false, Nat.lt_succ_self, if_true] at t1 t2 t3 ⊢
      refine ⟨fun r' hr' => ?_, h2, h3⟩
      by_cases hrr : r' = r
      · subst hrr
        rw [h1, hb]
      · rw [h0 353 (by omega) (by omega) _ (by omega) (by omega), t1 r' (by omega)]
    · have ec : (if f < k + 1 then r + 1 else r) = if f < k then r + 1 else r := by
        by_cases hh : f < k
        · rw [if_pos hh, if_pos (by omega)]
        · rw [if_neg hh, if_neg (by omega)]
      have en : (if f < k then r + 1 else r) ≤ 64 := by split <;> omega
      rw [ec]
      generalize (if f < k then r + 1 else r) = n at *
      refine ⟨fun r' hr' => ?_, ?_, ?_⟩
      · rw [h0 353 (by omega) (by omega) _ (by omega) (by omega), t1 r' hr']
      · rw [h0 354 (by omega) (by omega) _ (by omega) (by omega), t2]
      · rw [h0 357 (by omega) (by omega) _ (by omega) (by omega), t3]
  obtain ⟨t1, t2, t3⟩ := hT k hk
  simp only [Nat.lt_irrefl, if_false] at t1 t2 t3
  have hpk := hp (k / 2) (by omega)
  unfold f_Mod_layTests_j98
  rw [hc]
  simp (disch := omega) only [zg_tr, zb_t, zJ_lt, zJ_le, zJ_inj, zJ_ltl, zJ_lel, zJ_eql, zJ_llt, zJ_lle, zJ_leq, zJ_m1, zJ_m1r, zJ_nle_m1, zJ_m1lt, zJ_add, zJ_al, zJ_mull, zJ_c, zJ_mlr, zJ_cl, zJ_sub, zJ_subl, zJ_neg, zJ_divl, zreml, zshl_1, zshr_J, zushr_J, zJ_and1, if_pos, if_neg, Option.bind_some, zI_eq, zI_ne, zI_nk, zI_2, zL_1, zL_eq, zL_ne, zL_nk, zL_22, hpk]
  have hF : ∀ v w, zfm [(353, 354, 0, 9999), (357, 357, 0, 9999)] g (zsI (zsI g 353 (64 * k + r) v) 354 k w) := fun v w => (zfm.rfl'.I (zin_1 (by omega) (by omega) (by omega) (by omega))).I (zin_1 (by omega) (by omega) (by omega) (by omega))
  by_cases hd : zvl e (zrw r) 0 (k / 2) = k % 2
  · simp (disch := omega) only [zg_tr, zb_t, zJ_lt, zJ_le, zJ_inj, zJ_ltl, zJ_lel, zJ_eql, zJ_llt, zJ_lle, zJ_leq, zJ_m1, zJ_m1r, zJ_nle_m1, zJ_m1lt, zJ_add, zJ_al, zJ_mull, zJ_c, zJ_mlr, zJ_cl, zJ_sub, zJ_subl, zJ_neg, zJ_divl, zreml, zshl_1, zshr_J, zushr_J, zJ_and1, if_pos, if_neg, Option.bind_some, zI_eq, zI_ne, zI_nk, zI_2, zL_1, zL_eq, zL_ne, zL_nk, zL_22]
    refine zw_some ⟨_, rfl, hF _ _, hT' _ (fun o h1 h2 j h3 h4 => ?_) ?_ ?_ ?_⟩
    · by_cases o1 : o = 353
      · subst o1
        simp (disch := omega) only [zg_tr, zb_t, zJ_lt, zJ_le, zJ_inj, zJ_ltl, zJ_lel, zJ_eql, zJ_llt, zJ_lle, zJ_leq, zJ_m1, zJ_m1r, zJ_nle_m1, zJ_m1lt, zJ_add, zJ_al, zJ_mull, zJ_c, zJ_mlr, zJ_cl, zJ_sub, zJ_subl, zJ_neg, zJ_divl, zreml, zshl_1, zshr_J, zushr_J, zJ_and1, if_pos, if_neg, Option.bind_some, zI_eq, zI_ne, zI_nk, zI_2, zL_1, zL_eq, zL_ne, zL_nk, zL_22, h3 rfl]
      · by_cases o2 : o = 354
        · subst o2
          simp (disch := omega) only [zg_tr, zb_t, zJ_lt, zJ_le, zJ_inj, zJ_ltl, zJ_lel, zJ_eql, zJ_llt, zJ_lle, zJ_leq, zJ_m1, zJ_m1r, zJ_nle_m1, zJ_m1lt, zJ_add, zJ_al, zJ_mull, zJ_c, zJ_mlr, zJ_cl, zJ_sub, zJ_subl, zJ_neg, zJ_divl, zreml, zshl_1, zshr_J, zushr_J, zJ_and1, if_pos, if_neg, Option.bind_some, zI_eq, zI_ne, zI_nk, zI_2, zL_1, zL_eq, zL_ne, zL_nk, zL_22]
        · simp (disch := omega) only [zg_tr, zb_t, zJ_lt, zJ_le, zJ_inj, zJ_ltl, zJ_lel, zJ_eql, zJ_llt, zJ_lle, zJ_leq, zJ_m1, zJ_m1r, zJ_nle_m1, zJ_m1lt, zJ_add, zJ_al, zJ_mull, zJ_c, zJ_mlr, zJ_cl, zJ_sub, zJ_subl, zJ_neg, zJ_divl, zreml, zshl_1, zshr_J, zushr_J, zJ_and1, if_pos, if_neg, Option.bind_some, zI_eq, zI_ne, zI_nk, zI_2, zL_1, zL_eq, zL_ne, zL_nk, zL_22]
    · simp (disch := omega) only [zg_tr, zb_t, zJ_lt, zJ_le, zJ_inj, zJ_ltl, zJ_lel, zJ_eql, zJ_llt, zJ_lle, zJ_leq, zJ_m1, zJ_m1r, zJ_nle_m1, zJ_m1lt, zJ_add, zJ_al, zJ_mull, zJ_c, zJ_mlr, zJ_cl, zJ_sub, zJ_subl, zJ_neg, zJ_divl, zreml, zshl_1, zshr_J, zushr_J, zJ_and1, if_pos, if_neg, Option.bind_some, zI_eq, zI_ne, zI_nk, zI_2, zL_1, zL_eq, zL_ne, zL_nk, zL_22]
    · simp (disch := omega) only [zg_tr, zb_t, zJ_lt, zJ_le, zJ_inj, zJ_ltl, zJ_lel, zJ_eql, zJ_llt, zJ_lle, zJ_leq, zJ_m1, zJ_m1r, zJ_nle_m1, zJ_m1lt, zJ_add, zJ_al, zJ_mull, zJ_c, zJ_mlr, zJ_cl, zJ_sub, zJ_subl, zJ_neg, zJ_divl, zreml, zshl_1, zshr_J, zushr_J, zJ_and1, if_pos, if_neg, Option.bind_some, zI_eq, zI_ne, zI_nk, zI_2, zL_1, zL_eq, zL_ne, zL_nk, zL_22]
    · simp (disch := omega) only [zg_tr, zb_t, zJ_lt, zJ_le, zJ_inj, zJ_ltl, zJ_lel, zJ_eql, zJ_llt, zJ_lle, zJ_leq, zJ_m1, zJ_m1r, zJ_nle_m1, zJ_m1lt, zJ_add, zJ_al, zJ_mull, zJ_c, zJ_mlr, zJ_cl, zJ_sub, zJ_subl, zJ_neg, zJ_divl, zreml, zshl_1, zshr_J, zushr_J, zJ_and1, if_pos, if_neg, Option.bind_some, zI_eq, zI_ne, zI_nk, zI_2, zL_1, zL_eq, zL_ne, zL_nk, zL_22, t3]
      unfold zdf
      rw [zex_s, hd]
      simp
  · simp (disch := omega) only [zg_tr, zb_t, zJ_lt, zJ_le, zJ_inj, zJ_ltl, zJ_lel, zJ_eql, zJ_llt, zJ_lle, zJ_leq, zJ_m1, zJ_m1r, zJ_nle_m1, zJ_m1lt, zJ_add, zJ_al, zJ_mull, zJ_c, zJ_mlr, zJ_cl, zJ_sub, zJ_subl, zJ_neg, zJ_divl, zreml, zshl_1, zshr_J, zushr_J, zJ_and1, if_pos, if_neg, Option.bind_some, zI_eq, zI_ne, zI_nk, zI_2, zL_1, zL_eq, zL_ne, zL_nk, zL_22]
    refine zw_some ⟨_, rfl, (hF _ _).I (zin_2 (zin_1 (by omega) (by omega) (by omega) (by omega))), hT' _ (fun o h1 h2 j h3 h4 => ?_) ?_ ?_ ?_⟩
    · by_cases o1 : o = 353
      · subst o1
        simp (disch := omega) only [zg_tr, zb_t, zJ_lt, zJ_le, zJ_inj, zJ_ltl, zJ_lel, zJ_eql, zJ_llt, zJ_lle, zJ_leq, zJ_m1, zJ_m1r, zJ_nle_m1, zJ_m1lt, zJ_add, zJ_al, zJ_mull, zJ_c, zJ_mlr, zJ_cl, zJ_sub, zJ_subl, zJ_neg, zJ_divl, zreml, zshl_1, zshr_J, zushr_J, zJ_and1, if_pos, if_neg, Option.bind_some, zI_eq, zI_ne, zI_nk, zI_2, zL_1, zL_eq, zL_ne, zL_nk, zL_22, h3 rfl]
      · by_cases o2 : o = 354
        · subst o2
          simp (disch := omega) only [zg_tr, zb_t, zJ_lt, zJ_le, zJ_inj, zJ_ltl, zJ_lel, zJ_eql, zJ_llt, zJ_lle, zJ_leq, zJ_m1, zJ_m1r, zJ_nle_m1, zJ_m1lt, zJ_add, zJ_al, zJ_mull, zJ_c, zJ_mlr, zJ_cl, zJ_sub, zJ_subl, zJ_neg, zJ_divl, zreml, zshl_1, zshr_J, zushr_J, zJ_and1, if_pos, if_neg, Option.bind_some, zI_eq, zI_ne, zI_nk, zI_2, zL_1, zL_eq, zL_ne, zL_nk, zL_22]
        · by_cases o3 : o = 357
          · subst o3
            simp (disch := omega) only [zg_tr, zb_t, zJ_lt, zJ_le, zJ_inj, zJ_ltl, zJ_lel, zJ_eql, zJ_llt, zJ_lle, zJ_leq, zJ_m1, zJ_m1r, zJ_nle_m1, zJ_m1lt, zJ_add, zJ_al, zJ_mull, zJ_c, zJ_mlr, zJ_cl, zJ_sub, zJ_subl, zJ_neg, zJ_divl, zreml, zshl_1, zshr_J, zushr_J, zJ_and1, if_pos, if_neg, Option.bind_some, zI_eq, zI_ne, zI_nk, zI_2, zL_1, zL_eq, zL_ne, zL_nk, zL_22]
          · simp (disch := omega) only [zg_tr, zb_t, zJ_lt, zJ_le, zJ_inj, zJ_ltl, zJ_lel, zJ_eql, zJ_llt, zJ_lle, zJ_leq, zJ_m1, zJ_m1r, zJ_nle_m1, zJ_m1lt, zJ_add, zJ_al, zJ_mull, zJ_c, zJ_mlr, zJ_cl, zJ_sub, zJ_subl, zJ_neg, zJ_divl, zreml, zshl_1, zshr_J, zushr_J, zJ_and1, if_pos, if_neg, Option.bind_some, zI_eq, zI_ne, zI_nk, zI_2, zL_1, zL_eq, zL_ne, zL_nk, zL_22]
    · simp (disch := omega) only [zg_tr, zb_t, zJ_lt, zJ_le, zJ_inj, zJ_ltl, zJ_lel, zJ_eql, zJ_llt, zJ_lle, zJ_leq, zJ_m1, zJ_m1r, zJ_nle_m1, zJ_m1lt, zJ_add, zJ_al, zJ_mull, zJ_c, zJ_mlr, zJ_cl, zJ_sub, zJ_subl, zJ_neg, zJ_divl, zreml, zshl_1, zshr_J, zushr_J, zJ_and1, if_pos, if_neg, Option.bind_some, zI_eq, zI_ne, zI_nk, zI_2, zL_1, zL_eq, zL_ne, zL_nk, zL_22]
    · simp (disch := omega) only [zg_tr, zb_t, zJ_lt, zJ_le, zJ_inj, zJ_ltl, zJ_lel, zJ_eql, zJ_llt, zJ_lle, zJ_leq, zJ_m1, zJ_m1r, zJ_nle_m1, zJ_m1lt, zJ_add, zJ_al, zJ_mull, zJ_c, zJ_mlr, zJ_cl, zJ_sub, zJ_subl, zJ_neg, zJ_divl, zreml, zshl_1, zshr_J, zushr_J, zJ_and1, if_pos, if_neg, Option.bind_some, zI_eq, zI_ne, zI_nk, zI_2, zL_1, zL_eq, zL_ne, zL_nk, zL_22]
    · simp (disch := omega) only [zg_tr, zb_t, zJ_lt, zJ_le, zJ_inj, zJ_ltl, zJ_lel, zJ_eql, zJ_llt, zJ_lle, zJ_leq, zJ_m1, zJ_m1r, zJ_nle_m1, zJ_m1lt, zJ_add, zJ_al, zJ_mull, zJ_c, zJ_mlr, zJ_cl, zJ_sub, zJ_subl, zJ_neg, zJ_divl, zreml, zshl_1, zshr_J, zushr_J, zJ_and1, if_pos, if_neg, Option.bind_some, zI_eq, zI_ne, zI_nk, zI_2, zL_1, zL_eq, zL_ne, zL_nk, zL_22]
      unfold zdf
      have hdt : (zvl e (zrw r) 0 (k / 2) != k % 2) = true := by simp [hd]
      rw [zex_s, hdt, Bool.or_true]
      rfl
theorem lt_row {g0 : zH} {e : zEv} {sb : Nat → Bool} {r : Nat} (he : zEok e) (hre : zRE g0 e) (hs : zRS g0 e.2.1 sb) (hr : r < 2 ^ e.1) (hT : zTI g0 e sb (fun _ => r)) (hi : ∀ i, i < e.1 → g0.1 350 i = zJ (zrw r i)) (hp : ∀ l, l < e.2.1 → g0.1 352 l = zJ (zvl e (zrw r) 0 l)) :
    zw (zit zFU (fun s : Int32 × zH => f_Mod_layTests_b56 s.2 (zJ r) s.1) (0, g0)) fun g => zfm [(351, 351, 0, 9999), (353, 354, 0, 9999), (357, 357, 0, 9999)] g0 g ∧ zTI g e sb (fun _ => r + 1) := by
  obtain ⟨e1, e2, e3, e4⟩ := id he
  have h64 := zpw6 e1
  refine zw_for (2 * e.2.1) (fun k s => s.1 = zJ k ∧ zfm [(351, 351, 0, 9999), (353, 354, 0, 9999), (357, 357, 0, 9999)] g0 s.2 ∧ zTI s.2 e sb (fun f => if f < k then r + 1 else r)) (by omega) ⟨rfl, zfm.rfl', fun f hf => hT f hf⟩ ?_
  rintro k ⟨i, g⟩ hk ⟨rfl, hz, hv⟩
  dsimp only at hz hv ⊢
  have hrg : zRE g e := hre.fr hz (fun o k h1 h2 => by
    unfold zin
    simp
    omega)
  have hsg : zRS g e.2.1 sb := hs.fr hz (fun k => rfl)
  unfold f_Mod_layTests_b56
  rw [faults_r he hrg]
  by_cases hkm : k < 2 * e.2.1
  · simp (disch := omega) only [zg_tr, zb_t, zJ_lt, zJ_le, zJ_inj, zJ_ltl, zJ_lel, zJ_eql, zJ_llt, zJ_lle, zJ_leq, zJ_m1, zJ_m1r, zJ_nle_m1, zJ_m1lt, zJ_add, zJ_al, zJ_mull, zJ_c, zJ_mlr, zJ_cl, zJ_sub, zJ_subl, zJ_neg, zJ_divl, zreml, zshl_1, zshr_J, zushr_J, zJ_and1, if_pos, if_neg, Option.bind_some, zI_eq, zI_ne, zI_nk, zI_2, zL_1, zL_eq, zL_ne, zL_nk, zL_22]
    refine zw_bi (isCaught_r (f := k + 1) he hrg hsg (by omega) (fun i h1 => ⟨(hz.i (by rfl)).trans (hi i h1), zrw_le⟩) (fun l h1 => (hz.i (by rfl)).trans (hp l h1))) ?_
    rintro ⟨b, g2⟩ ⟨hb, q⟩
    dsimp only at hb q ⊢
    subst hb
    have hT2 : zTI g2 e sb (fun f => if f < k then r + 1 else r) := by
      unfold zTI
      rw [q.ir (o := 353) (fun _ => rfl), q.ir (o := 354) (fun _ => rfl), q.ir (o := 357) (fun _ => rfl)]
      exact hv
    obtain ⟨t1, t2, t3⟩ := hT2 k hkm
    simp only [Nat.lt_irrefl, if_false] at t1 t2 t3
    have fin := lt_j98 (g := g2) (r := r) (b := zcg e sb (zrw r) (k + 1)) he (by omega) hkm hT2 (fun l h1 => (q.i (by rfl)).trans ((hz.i (by rfl)).trans (hp l h1))) rfl
    have goal : zw (f_Mod_layTests_j98 (zsI g2 353 (64 * k + r) (zbI (zcg e sb (zrw r) (k + 1)))) (zJ r) (zJ k) (zbI (zcg e sb (zrw r) (k + 1))) (zJ (zct e sb k r)) (zJ k)) (Sum.elim (fun s' => k < 2 * e.2.1 ∧ s'.1 = zJ (k + 1) ∧ zfm [(351, 351, 0, 9999), (353, 354, 0, 9999), (357, 357, 0, 9999)] g0 s'.2 ∧ zTI s'.2 e sb (fun f => if f < k + 1 then r + 1 else r)) fun g => zfm [(351, 351, 0, 9999), (353, 354, 0, 9999), (357, 357, 0, 9999)] g0 g ∧ zTI g e sb (fun _ => r + 1)) := by
      refine zw_mono fin ?_
      rintro x ⟨h', rfl, q1, q2⟩
      exact ⟨hkm, rfl, (hz.tr q rfl).tr q1 rfl, q2⟩
    simp (disch := omega) only [zg_tr, zb_t, zJ_lt, zJ_le, zJ_inj, zJ_ltl, zJ_lel, zJ_eql, zJ_llt, zJ_lle, zJ_leq, zJ_m1, zJ_m1r, zJ_nle_m1, zJ_m1lt, zJ_add, zJ_al, zJ_mull, zJ_c, zJ_mlr, zJ_cl, zJ_sub, zJ_subl, zJ_neg, zJ_divl, zreml, zshl_1, zshr_J, zushr_J, zJ_and1, if_pos, if_neg, Option.bind_some, zI_eq, zI_ne, zI_nk, zI_2, zL_1, zL_eq, zL_ne, zL_nk, zL_22, zbI_and, t2]
    cases hc : zcg e sb (zrw r) (k + 1)
    · rw [hc] at goal
      rw [if_pos zbI_f]
      exact goal
    · rw [hc] at goal
      rw [if_neg (by decide : ¬ zbI true = 0)]
      exact goal
  · have : k = 2 * e.2.1 := by omega
    subst this
    simp (disch := omega) only [zg_tr, zb_t, zJ_lt, zJ_le, zJ_inj, zJ_ltl, zJ_lel, zJ_eql, zJ_llt, zJ_lle, zJ_leq, zJ_m1, zJ_m1r, zJ_nle_m1, zJ_m1lt, zJ_add, zJ_al, zJ_mull, zJ_c, zJ_mlr, zJ_cl, zJ_sub, zJ_subl, zJ_neg, zJ_divl, zreml, zshl_1, zshr_J, zushr_J, zJ_and1, if_pos, if_neg, Option.bind_some, zI_eq, zI_ne, zI_nk, zI_2, zL_1, zL_eq, zL_ne, zL_nk, zL_22]
    refine zw_some ⟨hz, fun f hf => ?_⟩
    have := hv f hf
    simp only [hf, if_true] at this
    exact this
def zlo (e : zEv) (sb : Nat → Bool) (f : Nat) : Nat := if 0 < zct e sb f (2 ^ e.1) then 0 else 1 + (zdf e f (2 ^ e.1)).toNat
/-- tests, how many, why lost -/
def zLT (g : zH) (e : zEv) (sb : Nat → Bool) : Prop := ∀ f, f < 2 * e.2.1 → (∀ r, r < 2 ^ e.1 → g.1 353 (64 * f + r) = zbI (zcg e sb (zrw r) (f + 1))) ∧ g.1 354 f = zJ (zct e sb f (2 ^ e.1)) ∧ g.1 357 f = zJ (zlo e sb f)
theorem layTests_r {h : zH} {e : zEv} {sb : Nat → Bool} (he : zEok e) (hre : zRE h e) (hs : zRS h e.2.1 sb) : zw (f_Mod_layTests h) fun g => zfm [(350, 354, 0, 9999), (356, 357, 0, 9999)] h g ∧ zLT g e sb ∧ ∀ f, f < 44 → g.1 356 f = -1 := by
  obtain ⟨e1, e2, e3, e4⟩ := id he
  have h64 := zpw6 e1
  unfold f_Mod_layTests
  refine zw_bi (lt_init (e := e) (sb := sb)) ?_
  rintro g0 ⟨q0, hT0, hm⟩
  have hT0 := hT0 he
  refine zw_bi (P := fun g => zfm [(350, 354, 0, 9999), (356, 357, 0, 9999)] h g ∧ zTI g e sb (fun _ => 2 ^ e.1) ∧ ∀ f, f < 44 → g.1 356 f = -1) (zw_for (2 ^ e.1) (fun k s => s.1 = zJ k ∧ zfm [(350, 354, 0, 9999), (357, 357, 0, 9999)] g0 s.2 ∧ zTI s.2 e sb (fun _ => k)) (by omega) ⟨rfl, zfm.rfl', hT0⟩ ?_) ?_
  · rintro k ⟨i, g⟩ hk ⟨rfl, hz, hv⟩
    dsimp only at hz hv ⊢
    have hz0 : zfm [(350, 354, 0, 9999), (356, 357, 0, 9999)] h g := (q0.sub rfl).tr hz rfl
    have hrg : zRE g e := hre.fr hz0 (fun o k h1 h2 => by
      unfold zin
      simp
      omega)
    have hsg : zRS g e.2.1 sb := hs.fr hz0 (fun k => rfl)
    unfold f_Mod_layTests_b37
    rw [rows_r he hrg]
    by_cases hkm : k < 2 ^ e.1
    · simp (disch := omega) only [zg_tr, zb_t, zJ_lt, zJ_le, zJ_inj, zJ_ltl, zJ_lel, zJ_eql, zJ_llt, zJ_lle, zJ_leq, zJ_m1, zJ_m1r, zJ_nle_m1, zJ_m1lt, zJ_add, zJ_al, zJ_mull, zJ_c, zJ_mlr, zJ_cl, zJ_sub, zJ_subl, zJ_neg, zJ_divl, zreml, zshl_1, zshr_J, zushr_J, zJ_and1, if_pos, if_neg, Option.bind_some, zI_eq, zI_ne, zI_nk, zI_2, zL_1, zL_eq, zL_ne, zL_nk, zL_22]
      refine zw_bi (putRow_r he hrg (by omega)) ?_
      rintro g1 ⟨p1, p2⟩
      have hrg1 : zRE g1 e := hrg.fr p1 (fun o k h1 h2 => zin_n1 (by omega))
      refine zw_bi (tellPlain_r (inp := zrw k) he hrg1 (fun i h1 => ⟨p2 i h1, zrw_le⟩)) ?_
      rintro g2 ⟨p3, p4⟩
      have p5 : zfm [(350, 352, 0, 9999)] g g2 := (p1.sub rfl).tr p3 rfl
      have hT2 : zTI g2 e sb (fun _ => k) := by
        unfold zTI
        rw [p5.ir (o := 353) (fun _ => rfl), p5.ir (o := 354) (fun _ => rfl), p5.ir (o := 357) (fun _ => rfl)]
        exact hv
      refine zw_bi (lt_row he (hrg1.fr p3 (fun o k h1 h2 => zin_n1 (by omega))) (hsg.fr p5 (fun _ => rfl)) hkm hT2 (fun i h1 => (p3.i (by rfl)).trans (p2 i h1)) p4) ?_
      rintro g3 ⟨p6, p7⟩
      exact zw_some ⟨hkm, by simp (disch := omega) only [zg_tr, zb_t, zJ_lt, zJ_le, zJ_inj, zJ_ltl, zJ_lel, zJ_eql, zJ_llt, zJ_lle, zJ_leq, zJ_m1, zJ_m1r, zJ_nle_m1, zJ_m1lt, zJ_add, zJ_al, zJ_mull, zJ_c, zJ_mlr, zJ_cl, zJ_sub, zJ_subl, zJ_neg, zJ_divl, zreml, zshl_1, zshr_J, zushr_J, zJ_and1, if_pos, if_neg, Option.bind_some, zI_eq, zI_ne, zI_nk, zI_2, zL_1, zL_eq, zL_ne, zL_nk, zL_22], (hz.tr p5 rfl).tr p6 rfl, p7⟩
    · have : k = 2 ^ e.1 := by omega
      subst this
      simp (disch := omega) only [zg_tr, zb_t, zJ_lt, zJ_le, zJ_inj, zJ_ltl, zJ_lel, zJ_eql, zJ_llt, zJ_lle, zJ_leq, zJ_m1, zJ_m1r, zJ_nle_m1, zJ_m1lt, zJ_add, zJ_al, zJ_mull, zJ_c, zJ_mlr, zJ_cl, zJ_sub, zJ_subl, zJ_neg, zJ_divl, zreml, zshl_1, zshr_J, zushr_J, zJ_and1, if_pos, if_neg, Option.bind_some, zI_eq, zI_ne, zI_nk, zI_2, zL_1, zL_eq, zL_ne, zL_nk, zL_22]
      exact zw_some ⟨hz0, hv, fun f hf => (hz.i (by rfl)).trans (hm f hf)⟩
  · rintro g ⟨q1, hT, hm⟩
    refine zw_bi (P := fun g' => zfm [(350, 354, 0, 9999), (356, 357, 0, 9999)] h g' ∧ zLT g' e sb ∧ ∀ f, f < 44 → g'.1 356 f = -1) (zw_for (2 * e.2.1) (fun k s => s.1 = zJ k ∧ zfm [(357, 357, 0, 9999)] g s.2 ∧ ∀ f, f < 2 * e.2.1 → s.2.1 357 f = if f < k then zJ (zlo e sb f) else g.1 357 f) (by omega) ⟨rfl, zfm.rfl', fun f _ => (if_neg (Nat.not_lt_zero f)).symm⟩ ?_) (fun x hx => zw_some hx)
    rintro k ⟨i, g'⟩ hk ⟨rfl, hz, hv⟩
    dsimp only at hz hv ⊢
    have hz0 : zfm [(350, 354, 0, 9999), (356, 357, 0, 9999)] h g' := q1.tr hz rfl
    have hrg : zRE g' e := hre.fr hz0 (fun o k h1 h2 => by
      unfold zin
      simp
      omega)
    unfold f_Mod_layTests_b135
    rw [faults_r he hrg]
    by_cases hkm : k < 2 * e.2.1
    · obtain ⟨t1, t2, t3⟩ := hT k hkm
      have hc := zct_le (e := e) (sb := sb) (f := k) (n := 2 ^ e.1)
      have t2' : g'.1 354 k = zJ (zct e sb k (2 ^ e.1)) := (hz.i (by rfl)).trans t2
      have t3' := hv k hkm
      rw [if_neg (Nat.lt_irrefl k), t3] at t3'
      have fin : ∀ x, x = zJ (zlo e sb k) → ∀ f, f < 2 * e.2.1 → (zsI g' 357 k x).1 357 f = if f < k + 1 then zJ (zlo e sb f) else g.1 357 f := by
        intro x hx f hf
        by_cases hfk : f = k
        · subst hfk
          rw [zI_eq, if_pos (Nat.lt_succ_self f), hx]
        · rw [zI_nk hfk, hv f hf]
          by_cases hlt : f < k
          · rw [if_pos hlt, if_pos (by omega)]
          · rw [if_neg hlt, if_neg (by omega)]
      simp (disch := omega) only [zg_tr, zb_t, zJ_lt, zJ_le, zJ_inj, zJ_ltl, zJ_lel, zJ_eql, zJ_llt, zJ_lle, zJ_leq, zJ_m1, zJ_m1r, zJ_nle_m1, zJ_m1lt, zJ_add, zJ_al, zJ_mull, zJ_c, zJ_mlr, zJ_cl, zJ_sub, zJ_subl, zJ_neg, zJ_divl, zreml, zshl_1, zshr_J, zushr_J, zJ_and1, if_pos, if_neg, Option.bind_some, zI_eq, zI_ne, zI_nk, zI_2, zL_1, zL_eq, zL_ne, zL_nk, zL_22, t2', t3', f_Mod_layTests_j167]
      by_cases h0 : 0 < zct e sb k (2 ^ e.1)
      · simp (disch := omega) only [zg_tr, zb_t, zJ_lt, zJ_le, zJ_inj, zJ_ltl, zJ_lel, zJ_eql, zJ_llt, zJ_lle, zJ_leq, zJ_m1, zJ_m1r, zJ_nle_m1, zJ_m1lt, zJ_add, zJ_al, zJ_mull, zJ_c, zJ_mlr, zJ_cl, zJ_sub, zJ_subl, zJ_neg, zJ_divl, zreml, zshl_1, zshr_J, zushr_J, zJ_and1, if_pos, if_neg, Option.bind_some, zI_eq, zI_ne, zI_nk, zI_2, zL_1, zL_eq, zL_ne, zL_nk, zL_22]
        exact zw_some ⟨hkm, rfl, hz.I (zin_1 (by omega) (by omega) (by omega) (by omega)), fin _ (by unfold zlo; rw [if_pos h0]; rfl)⟩
      · simp (disch := omega) only [zg_tr, zb_t, zJ_lt, zJ_le, zJ_inj, zJ_ltl, zJ_lel, zJ_eql, zJ_llt, zJ_lle, zJ_leq, zJ_m1, zJ_m1r, zJ_nle_m1, zJ_m1lt, zJ_add, zJ_al, zJ_mull, zJ_c, zJ_mlr, zJ_cl, zJ_sub, zJ_subl, zJ_neg, zJ_divl, zreml, zshl_1, zshr_J, zushr_J, zJ_and1, if_pos, if_neg, Option.bind_some, zI_eq, zI_ne, zI_nk, zI_2, zL_1, zL_eq, zL_ne, zL_nk, zL_22]
        exact zw_some ⟨hkm, rfl, hz.I (zin_1 (by omega) (by omega) (by omega) (by omega)), fin _ (by unfold zlo; rw [if_neg h0])⟩
    · have : k = 2 * e.2.1 := by omega
      subst this
      simp (disch := omega) only [zg_tr, zb_t, zJ_lt, zJ_le, zJ_inj, zJ_ltl, zJ_lel, zJ_eql, zJ_llt, zJ_lle, zJ_leq, zJ_m1, zJ_m1r, zJ_nle_m1, zJ_m1lt, zJ_add, zJ_al, zJ_mull, zJ_c, zJ_mlr, zJ_cl, zJ_sub, zJ_subl, zJ_neg, zJ_divl, zreml, zshl_1, zshr_J, zushr_J, zJ_and1, if_pos, if_neg, Option.bind_some, zI_eq, zI_ne, zI_nk, zI_2, zL_1, zL_eq, zL_ne, zL_nk, zL_22]
      refine zw_some ⟨hz0, fun f hf => ?_, fun f hf => (hz.i (by rfl)).trans (hm f hf)⟩
      obtain ⟨t1, t2, t3⟩ := hT f hf
      have h3 := hv f hf
      rw [if_pos hf] at h3
      exact ⟨fun r hr => (hz.i (by rfl)).trans (t1 r hr), (hz.i (by rfl)).trans t2, h3⟩
