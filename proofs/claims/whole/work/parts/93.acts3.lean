/-! ===== apply, pick, undo, note, forget, fault ===== -/
def yca (N : yN) (s : yS) (f : Nat) : Bool := decide (f < 2 * yLs N) && (zcg (yE N) (ySb N) (zrw s.1) (f + 1) && !s.2.2.2.2.2.2 f)
def ysA (N : yN) (s : yS) : yS := (s.1, s.2.1, s.2.2.1, s.2.2.2.1, s.2.2.2.2.1, s.2.2.2.2.2.1, fun f => s.2.2.2.2.2.2 f || yca N s f)
theorem ysA_ok {N : yN} {s : yS} (h : yOKs N s) : yOKs N (ysA N s) := by
  obtain ⟨h1, h2, h3, h4, h5, h6⟩ := h
  refine ⟨h1, h2, h3, h4, h5, fun f hf => ?_⟩
  unfold ysA yca at hf
  dsimp only at hf
  rw [Bool.or_eq_true] at hf
  rcases hf with hf | hf
  · exact h6 f hf
  · rw [Bool.and_eq_true, decide_eq_true_eq] at hf
    exact hf.1
theorem applyInputs_c {h : zH} {N : yN} {o : Nat} {s : yS} (hn : yOKn N) (hs : yOKs N s) (hc : yCAT h (yE N) (ySb N)) (h1 : yCSt h o s) : zw (f_State_applyInputs o h) fun x => x.1 = zJ (fb_ct (yca N s) (2 * yLs N)) ∧ zfm [(o, o, 4, 4)] h x.2 ∧ yCSt x.2 o (ysA N s) := by
  obtain ⟨⟨e1, e2, e3, e4⟩, -⟩ := id hn
  have e1' : yI N ≤ 6 := e1
  have e3' : yLs N ≤ yI N + 16 := e3
  obtain ⟨s1, s2, s3, s4, s5, s6, s7⟩ := h1
  obtain ⟨o1, o2, o3, o4, o5, o6⟩ := hs
  unfold f_State_applyInputs
  rw [s1]
  refine zw_bi (caughtBy_c hn.1 hc o1) ?_
  intro x hx
  have hb : ∀ f, f < 64 → zBl (x &&& (h.2.1 o 4 ^^^ (-1))) f = yca N s f := by
    intro f hf
    rw [zBl_and, zBl_xor, zBl_m1 hf, hx f hf, s7 f hf, Bool.xor_true, Bool.and_assoc]
    rfl
  rw [Option.bind_some, bitCount_L, Option.bind_some]
  refine zw_some ⟨?_, zfm.rfl'.Lg (zin_1 (by omega) (by omega) (by omega) (by omega)), s1, s2, s3, s4, s5, s6, fun f hf => ?_⟩
  · dsimp only
    rw [fb_ext (n := 2 * yLs N) (by omega) (fun f f1 f2 => by rw [hb f f2]; unfold yca; rw [decide_eq_false (by omega)]; rfl)]
    congr 1
    exact fb_ct_cong (fun f hf => hb f (by omega))
  · dsimp only
    rw [zL_eq, zBl_or, s7 f hf, hb f hf]
    rfl
theorem applyNow_r {h : zH} {N : yN} {s : yS} (hn : yOKn N) (hs : yOKs N s) (hr : yRN h N) (hl : yLD h (yE N) (ySb N)) (h1 : yRSt (h.1 347) 0 s) : zw (f_Mod_applyNow h) fun y => y.1 = zJ (fb_ct (yca N s) (2 * yLs N)) ∧ zfm [(347, 347, 13, 56)] h y.2 ∧ yRSt (y.2.1 347) 0 (ysA N s) := by
  obtain ⟨⟨e1, e2, e3, e4⟩, -⟩ := id hn
  have e1' : yI N ≤ 6 := e1
  have e3' : yLs N ≤ yI N + 16 := e3
  have h64 := zpw6 e1'
  obtain ⟨s1, s2, s3, s4, s5, s6, s7⟩ := h1
  simp only [Nat.zero_add] at s1 s2 s3 s4 s5 s6 s7
  obtain ⟨o1, o2, o3, o4, o5, o6⟩ := hs
  unfold f_Mod_applyNow
  refine zw_bi (P := fun y => y.1 = zJ (fb_ct (yca N s) (2 * yLs N)) ∧ zfm [(347, 347, 13, 56)] h y.2 ∧ ∀ f, f < 44 → y.2.1 347 (13 + f) = zbI (s.2.2.2.2.2.2 f || yca N s f)) (zw_for (2 * yLs N) (fun k t => t.1 = zJ (fb_ct (yca N s) k) ∧ t.2.1 = zJ k ∧ zfm [(347, 347, 13, 56)] h t.2.2 ∧ ∀ f, f < 44 → t.2.2.1 347 (13 + f) = zbI (if f < k then s.2.2.2.2.2.2 f || yca N s f else s.2.2.2.2.2.2 f)) (by omega) ⟨rfl, rfl, zfm.rfl', fun f hf => by rw [if_neg (Nat.not_lt_zero f)]; exact s7 f hf⟩ ?_) ?_
  · rintro k ⟨a, i, g⟩ hk ⟨rfl, rfl, hz, hv⟩
    dsimp only at hz hv ⊢
    have hrg : yRN g N := hr.fr hz (fun a k h1 h2 => zin_n1 (by omega))
    unfold f_Mod_applyNow_b4
    rw [faults_n hn hrg]
    by_cases hkm : k < 2 * yLs N
    · have hvk := hv k (by omega)
      rw [if_neg (Nat.lt_irrefl k)] at hvk
      have e0 : g.1 347 0 = zJ s.1 := (hz.i (zin_n1 (by omega))).trans s1
      have ht : g.1 353 (64 * k + s.1) = zbI (zcg (yE N) (ySb N) (zrw s.1) (k + 1)) := (hz.i (zin_n1 (by omega))).trans ((hl.1 k hkm).1 s.1 o1)
      have keep : yca N s k = false → ∀ f, f < 44 → g.1 347 (13 + f) = zbI (if f < k + 1 then s.2.2.2.2.2.2 f || yca N s f else s.2.2.2.2.2.2 f) := by
        intro hca f hf
        rw [hv f hf]
        by_cases hfk : f = k
        · subst hfk
          rw [if_neg (Nat.lt_irrefl f), if_pos (Nat.lt_succ_self f), hca, Bool.or_false]
        · by_cases hlt : f < k
          · rw [if_pos hlt, if_pos (by omega)]
          · rw [if_neg hlt, if_neg (by omega)]
      have hca : yca N s k = (zcg (yE N) (ySb N) (zrw s.1) (k + 1) && !s.2.2.2.2.2.2 k) := by
        unfold yca
        rw [decide_eq_true hkm, Bool.true_and]
      simp (disch := omega) only [zg_tr, zb_t, zJ_lt, zJ_le, zJ_inj, zJ_ltl, zJ_lel, zJ_eql, zJ_llt, zJ_lle, zJ_leq, zJ_m1, zJ_m1r, zJ_nle_m1, zJ_m1lt, zJ_add, zJ_al, zJ_mull, zJ_c, zJ_mlr, zJ_cl, zJ_sub, zJ_subl, zJ_neg, zJ_divl, zreml, zshl_1, zshr_J, zushr_J, zJ_and1, if_pos, if_neg, Option.bind_some, zI_eq, zI_ne, zI_nk, zI_2, zL_1, zL_eq, zL_ne, zL_nk, zL_22, zJ_la, hvk, e0]
      rw [fb_ct_succ]
      cases hd : s.2.2.2.2.2.2 k
      · rw [hd, Bool.not_false, Bool.and_true] at hca
        rw [if_neg (by decide)]
        simp (disch := omega) only [zg_tr, zb_t, zJ_lt, zJ_le, zJ_inj, zJ_ltl, zJ_lel, zJ_eql, zJ_llt, zJ_lle, zJ_leq, zJ_m1, zJ_m1r, zJ_nle_m1, zJ_m1lt, zJ_add, zJ_al, zJ_mull, zJ_c, zJ_mlr, zJ_cl, zJ_sub, zJ_subl, zJ_neg, zJ_divl, zreml, zshl_1, zshr_J, zushr_J, zJ_and1, if_pos, if_neg, Option.bind_some, zI_eq, zI_ne, zI_nk, zI_2, zL_1, zL_eq, zL_ne, zL_nk, zL_22, ht]
        cases hcc : zcg (yE N) (ySb N) (zrw s.1) (k + 1)
        · rw [hcc] at hca
          rw [if_neg (by decide), hca, if_neg (by decide)]
          exact zw_some ⟨hkm, rfl, rfl, hz, keep hca⟩
        · rw [hcc] at hca
          rw [if_pos (by decide), hca, if_pos rfl]
          refine zw_some ⟨hkm, rfl, rfl, hz.I (zin_1 (by omega) (by omega) (by omega) (by omega)), fun f hf => ?_⟩
          dsimp only
          by_cases hfk : f = k
          · subst hfk
            rw [zI_eq, if_pos (Nat.lt_succ_self f), hca, Bool.or_true]
            rfl
          · rw [zI_nk (by omega), hv f hf]
            by_cases hlt : f < k
            · rw [if_pos hlt, if_pos (by omega)]
            · rw [if_neg hlt, if_neg (by omega)]
      · rw [hd, Bool.not_true, Bool.and_false] at hca
        rw [if_pos (by decide), hca, if_neg (by decide)]
        exact zw_some ⟨hkm, rfl, rfl, hz, keep hca⟩
    · have : k = 2 * yLs N := by omega
      subst this
      simp (disch := omega) only [zg_tr, zb_t, zJ_lt, zJ_le, zJ_inj, zJ_ltl, zJ_lel, zJ_eql, zJ_llt, zJ_lle, zJ_leq, zJ_m1, zJ_m1r, zJ_nle_m1, zJ_m1lt, zJ_add, zJ_al, zJ_mull, zJ_c, zJ_mlr, zJ_cl, zJ_sub, zJ_subl, zJ_neg, zJ_divl, zreml, zshl_1, zshr_J, zushr_J, zJ_and1, if_pos, if_neg, Option.bind_some, zI_eq, zI_ne, zI_nk, zI_2, zL_1, zL_eq, zL_ne, zL_nk, zL_22]
      refine zw_some ⟨rfl, hz, fun f hf => ?_⟩
      dsimp only
      rw [hv f hf]
      by_cases hlt : f < 2 * yLs N
      · rw [if_pos hlt]
      · rw [if_neg hlt]
        have : yca N s f = false := by
          unfold yca
          rw [decide_eq_false hlt, Bool.false_and]
        rw [this, Bool.or_false]
  · rintro ⟨a, g⟩ ⟨rfl, hz, hv⟩
    dsimp only at hz hv ⊢
    have e : ∀ k, k < 13 → g.1 347 k = h.1 347 k := fun k hk => hz.i (zin_n1 (by omega))
    refine zw_some ⟨rfl, hz, (e 0 (by omega)).trans s1, ?_, ?_, ?_, ?_, fun j hj => ?_, fun f hf => ?_⟩
    · exact (e 1 (by omega)).trans s2
    · exact (e 2 (by omega)).trans s3
    · exact (e 3 (by omega)).trans s4
    · exact (e 4 (by omega)).trans s5
    · have hj' : j < s.2.2.2.2.1 := hj
      show g.1 347 (0 + 5 + j) = _
      rw [Nat.zero_add, e (5 + j) (by omega)]
      exact s6 j hj
    · show g.1 347 (0 + 13 + f) = _
      rw [Nat.zero_add]
      exact hv f hf
theorem q_apply {h : zH} (hi : yInv h) : zw (f_Main_apply h) fun x => zw (f_Mod_apply x.2) fun y => x.1 = y.1 ∧ yInv y.2 := by
  obtain ⟨S, ho, hc, hr⟩ := hi
  have ok := ykp_ok ho.2.1
  have hS' : yOK (gset S (ysA (gN S) (gT S).1, (ykp (gT S)).2)) := ho.set ⟨ysA_ok ho.2.1.1, ok.2⟩
  refine yBoth0 (f := fun g => f_Mod_apply g) (v := zJ (fb_ct (yca (gN S) (gT S).1) (2 * yLs (gN S)))) hS' ?_ (fun g hg => ?_) hr
  · unfold f_Main_apply
    refine zw_bi (keep_cc ho hc) ?_
    rintro g ⟨q1, q2, q3⟩
    refine zw_bi (applyInputs_c (s := (gT S).1) ho.1 ho.2.1.1 q2.2.1 q2.2.2.1.1) ?_
    rintro ⟨x, g2⟩ ⟨rfl, p1, p2⟩
    exact zw_some ⟨rfl, (q1.sub rfl).tr p1 rfl, q2.mach q3 (zfm.sub p1 rfl) p2⟩
  · obtain ⟨hg1, q1, z1⟩ := code_r hg
    show zw (f_Mod_apply g) _
    unfold f_Mod_apply
    rw [Option.bind_some]
    generalize zsI g 333 2 0 = g0 at *
    refine zw_bi (keep_rr ho hg1) ?_
    rintro g2 ⟨q2, q3, q4⟩
    refine zw_bi (applyNow_r (s := (gT S).1) ho.1 ho.2.1.1 q3.1 q3.2.1 q3.2.2.1.1) ?_
    rintro ⟨x, g3⟩ ⟨rfl, p1, p2⟩
    exact zw_some ⟨rfl, (q1.trans q2).tr p1 rfl, q3.mach p1 rfl (fun a k ha => zin_n1 (by omega)) rfl rfl p2⟩
/-! picked -/
def ypk2 (s : yS) (f : Nat) : Bool := zex (fun k => s.2.2.2.2.2.1 k == f) s.2.2.2.2.1
def ysP (s : yS) (f : Nat) : yS := (s.1, s.2.1, s.2.2.1, s.2.2.2.1, s.2.2.2.2.1 + 1, fun k => if k = s.2.2.2.2.1 then f else s.2.2.2.2.2.1 k, s.2.2.2.2.2.2)
def ysQ (s : yS) : yS := (s.1, s.2.1, s.2.2.1, s.2.2.2.1, 0, s.2.2.2.2.2)
theorem canPick_c {h : zH} {N : yN} {o f : Nat} {s : yS} (hs : yOKs N s) (hN : 2 * yLs N ≤ 44) (h1 : yCSt h o s) (hf : f < 44) : zw (f_State_canPick o h (zJ f)) fun x => x = zbI (!ypk2 s f && decide (s.2.2.2.2.1 < 8)) := by
  obtain ⟨s1, s2, s3, s4, s5, s6, s7⟩ := h1
  obtain ⟨o1, o2, o3, o4, o5, o6⟩ := hs
  unfold f_State_canPick
  refine zw_bi (P := Sum.elim (fun _ => ypk2 s f = true) (fun _ => ypk2 s f = false)) (zw_for s.2.2.2.2.1 (fun k t => t = zJ k ∧ zex (fun k => s.2.2.2.2.2.1 k == f) k = false) (by omega) ⟨rfl, rfl⟩ ?_) ?_
  · rintro k t hk ⟨rfl, hv⟩
    unfold f_State_canPick_b2
    by_cases hkm : k < s.2.2.2.2.1
    · have hw := (o5 k hkm).1
      simp (disch := omega) only [zg_tr, zb_t, zJ_lt, zJ_le, zJ_inj, zJ_ltl, zJ_lel, zJ_eql, zJ_llt, zJ_lle, zJ_leq, zJ_m1, zJ_m1r, zJ_nle_m1, zJ_m1lt, zJ_add, zJ_al, zJ_mull, zJ_c, zJ_mlr, zJ_cl, zJ_sub, zJ_subl, zJ_neg, zJ_divl, zreml, zshl_1, zshr_J, zushr_J, zJ_and1, if_pos, if_neg, Option.bind_some, zI_eq, zI_ne, zI_nk, zI_2, zL_1, zL_eq, zL_ne, zL_nk, zL_22, s5, s6 k hkm]
      by_cases he : s.2.2.2.2.2.1 k = f
      · rw [if_neg (fun h => h he)]
        refine zw_some ?_
        show zex _ _ = true
        rw [zex_iff]
        exact ⟨k, hkm, by simpa using he⟩
      · rw [if_pos he]
        refine zw_some ⟨hkm, rfl, ?_⟩
        rw [zex_s, hv, Bool.false_or]
        simpa using he
    · have : k = s.2.2.2.2.1 := by omega
      subst this
      simp (disch := omega) only [zg_tr, zb_t, zJ_lt, zJ_le, zJ_inj, zJ_ltl, zJ_lel, zJ_eql, zJ_llt, zJ_lle, zJ_leq, zJ_m1, zJ_m1r, zJ_nle_m1, zJ_m1lt, zJ_add, zJ_al, zJ_mull, zJ_c, zJ_mlr, zJ_cl, zJ_sub, zJ_subl, zJ_neg, zJ_divl, zreml, zshl_1, zshr_J, zushr_J, zJ_and1, if_pos, if_neg, Option.bind_some, zI_eq, zI_ne, zI_nk, zI_2, zL_1, zL_eq, zL_ne, zL_nk, zL_22, s5]
      exact zw_some hv
  · rintro (y | y) hy
    · dsimp only [Sum.elim] at hy ⊢
      rw [hy]
      exact zw_some rfl
    · dsimp only [Sum.elim] at hy ⊢
      rw [hy]
      simp (disch := omega) only [zg_tr, zb_t, zJ_lt, zJ_le, zJ_inj, zJ_ltl, zJ_lel, zJ_eql, zJ_llt, zJ_lle, zJ_leq, zJ_m1, zJ_m1r, zJ_nle_m1, zJ_m1lt, zJ_add, zJ_al, zJ_mull, zJ_c, zJ_mlr, zJ_cl, zJ_sub, zJ_subl, zJ_neg, zJ_divl, zreml, zshl_1, zshr_J, zushr_J, zJ_and1, if_pos, if_neg, Option.bind_some, zI_eq, zI_ne, zI_nk, zI_2, zL_1, zL_eq, zL_ne, zL_nk, zL_22, s5]
      by_cases h8 : s.2.2.2.2.1 < 8
      · rw [if_neg (by omega), decide_eq_true h8]
        exact zw_some rfl
      · rw [if_pos (by omega), decide_eq_false h8]
        exact zw_some rfl
theorem addPick_c {h : zH} {o f : Nat} {s : yS} (h8 : s.2.2.2.2.1 < 8) (h1 : yCSt h o s) : zw (f_State_addPick o h (zJ f)) fun x => x.1 = zJ (s.2.2.2.2.1 + 1) ∧ zfm [(o, o + 1, 0, 9999)] h x.2 ∧ yCSt x.2 o (ysP s f) := by
  obtain ⟨s1, s2, s3, s4, s5, s6, s7⟩ := h1
  unfold f_State_addPick
  simp (disch := omega) only [zg_tr, zb_t, zJ_lt, zJ_le, zJ_inj, zJ_ltl, zJ_lel, zJ_eql, zJ_llt, zJ_lle, zJ_leq, zJ_m1, zJ_m1r, zJ_nle_m1, zJ_m1lt, zJ_add, zJ_al, zJ_mull, zJ_c, zJ_mlr, zJ_cl, zJ_sub, zJ_subl, zJ_neg, zJ_divl, zreml, zshl_1, zshr_J, zushr_J, zJ_and1, if_pos, if_neg, Option.bind_some, zI_eq, zI_ne, zI_nk, zI_2, zL_1, zL_eq, zL_ne, zL_nk, zL_22, s5]
  refine zw_some ⟨rfl, (zfm.rfl'.I (zin_1 (by omega) (by omega) (by omega) (by omega))).I (zin_1 (by omega) (by omega) (by omega) (by omega)), ?_, ?_, ?_, ?_, zI_eq, fun j hj => ?_, fun f hf => s7 f hf⟩
  · simp (disch := omega) only [zg_tr, zb_t, zJ_lt, zJ_le, zJ_inj, zJ_ltl, zJ_lel, zJ_eql, zJ_llt, zJ_lle, zJ_leq, zJ_m1, zJ_m1r, zJ_nle_m1, zJ_m1lt, zJ_add, zJ_al, zJ_mull, zJ_c, zJ_mlr, zJ_cl, zJ_sub, zJ_subl, zJ_neg, zJ_divl, zreml, zshl_1, zshr_J, zushr_J, zJ_and1, if_pos, if_neg, Option.bind_some, zI_eq, zI_ne, zI_nk, zI_2, zL_1, zL_eq, zL_ne, zL_nk, zL_22]
    exact s1
  · simp (disch := omega) only [zg_tr, zb_t, zJ_lt, zJ_le, zJ_inj, zJ_ltl, zJ_lel, zJ_eql, zJ_llt, zJ_lle, zJ_leq, zJ_m1, zJ_m1r, zJ_nle_m1, zJ_m1lt, zJ_add, zJ_al, zJ_mull, zJ_c, zJ_mlr, zJ_cl, zJ_sub, zJ_subl, zJ_neg, zJ_divl, zreml, zshl_1, zshr_J, zushr_J, zJ_and1, if_pos, if_neg, Option.bind_some, zI_eq, zI_ne, zI_nk, zI_2, zL_1, zL_eq, zL_ne, zL_nk, zL_22]
    exact s2
  · simp (disch := omega) only [zg_tr, zb_t, zJ_lt, zJ_le, zJ_inj, zJ_ltl, zJ_lel, zJ_eql, zJ_llt, zJ_lle, zJ_leq, zJ_m1, zJ_m1r, zJ_nle_m1, zJ_m1lt, zJ_add, zJ_al, zJ_mull, zJ_c, zJ_mlr, zJ_cl, zJ_sub, zJ_subl, zJ_neg, zJ_divl, zreml, zshl_1, zshr_J, zushr_J, zJ_and1, if_pos, if_neg, Option.bind_some, zI_eq, zI_ne, zI_nk, zI_2, zL_1, zL_eq, zL_ne, zL_nk, zL_22]
    exact s3
  · simp (disch := omega) only [zg_tr, zb_t, zJ_lt, zJ_le, zJ_inj, zJ_ltl, zJ_lel, zJ_eql, zJ_llt, zJ_lle, zJ_leq, zJ_m1, zJ_m1r, zJ_nle_m1, zJ_m1lt, zJ_add, zJ_al, zJ_mull, zJ_c, zJ_mlr, zJ_cl, zJ_sub, zJ_subl, zJ_neg, zJ_divl, zreml, zshl_1, zshr_J, zushr_J, zJ_and1, if_pos, if_neg, Option.bind_some, zI_eq, zI_ne, zI_nk, zI_2, zL_1, zL_eq, zL_ne, zL_nk, zL_22]
    exact s4
  · unfold ysP at hj ⊢
    dsimp only at hj ⊢
    rw [zI_ne (by omega)]
    by_cases hjk : j = s.2.2.2.2.1
    · rw [if_pos hjk, hjk, zI_eq]
    · rw [if_neg hjk, zI_nk hjk]
      exact s6 j (by omega)
theorem isPicked_r {h : zH} {N : yN} {f : Nat} {s : yS} (hs : yOKs N s) (hN : 2 * yLs N ≤ 44) (h1 : yRSt (h.1 347) 0 s) (hf : f < 44) : zw (f_Mod_isPicked h (zJ f)) fun x => x = zbI (ypk2 s f) := by
  obtain ⟨s1, s2, s3, s4, s5, s6, s7⟩ := h1
  simp only [Nat.zero_add] at s5 s6
  obtain ⟨o1, o2, o3, o4, o5, o6⟩ := hs
  unfold f_Mod_isPicked
  refine zw_bi (P := fun x => x = zbI (ypk2 s f)) (zw_for s.2.2.2.2.1 (fun k t => t = (zbI (zex (fun k => s.2.2.2.2.2.1 k == f) k), zJ k)) (by omega) rfl ?_) ?_
  · rintro k t hk rfl
    dsimp only
    unfold f_Mod_isPicked_b4
    by_cases hkm : k < s.2.2.2.2.1
    · have hw := (o5 k hkm).1
      simp (disch := omega) only [zg_tr, zb_t, zJ_lt, zJ_le, zJ_inj, zJ_ltl, zJ_lel, zJ_eql, zJ_llt, zJ_lle, zJ_leq, zJ_m1, zJ_m1r, zJ_nle_m1, zJ_m1lt, zJ_add, zJ_al, zJ_mull, zJ_c, zJ_mlr, zJ_cl, zJ_sub, zJ_subl, zJ_neg, zJ_divl, zreml, zshl_1, zshr_J, zushr_J, zJ_and1, if_pos, if_neg, Option.bind_some, zI_eq, zI_ne, zI_nk, zI_2, zL_1, zL_eq, zL_ne, zL_nk, zL_22, s5, zJ_la, s6 k hkm, f_Mod_isPicked_j35]
      rw [zex_s]
      cases hz : zex (fun k => s.2.2.2.2.2.1 k == f) k
      · rw [if_neg (by decide), Bool.false_or]
        by_cases he : s.2.2.2.2.2.1 k = f
        · rw [if_neg (fun h => h he)]
          exact zw_some ⟨hkm, by simp [he, zbI]⟩
        · rw [if_pos he]
          exact zw_some ⟨hkm, by simp [he, zbI]⟩
      · rw [if_pos (by decide), Bool.true_or]
        exact zw_some ⟨hkm, rfl⟩
    · have : k = s.2.2.2.2.1 := by omega
      subst this
      simp (disch := omega) only [zg_tr, zb_t, zJ_lt, zJ_le, zJ_inj, zJ_ltl, zJ_lel, zJ_eql, zJ_llt, zJ_lle, zJ_leq, zJ_m1, zJ_m1r, zJ_nle_m1, zJ_m1lt, zJ_add, zJ_al, zJ_mull, zJ_c, zJ_mlr, zJ_cl, zJ_sub, zJ_subl, zJ_neg, zJ_divl, zreml, zshl_1, zshr_J, zushr_J, zJ_and1, if_pos, if_neg, Option.bind_some, zI_eq, zI_ne, zI_nk, zI_2, zL_1, zL_eq, zL_ne, zL_nk, zL_22, s5]
      exact zw_some rfl
  · rintro y rfl
    rw [zbI_bo]
    exact zw_some rfl
theorem pickAdd_r {h : zH} {f : Nat} {s : yS} (hf : f < 44) (h8 : s.2.2.2.2.1 < 8) (h1 : yRSt (h.1 347) 0 s) : zw (zg (zb (5 + (h.1 347 4)) 57) <| (some (zsI h 347 (5 + (h.1 347 4)).toNatClampNeg (zJ f))).bind fun h6 => f_Mod_pick_j75 h6 (zJ f)) fun y => y.1 = zJ (s.2.2.2.2.1 + 1) ∧ zfm [(347, 347, 0, 9999)] h y.2 ∧ yRSt (y.2.1 347) 0 (ysP s f) := by
  obtain ⟨s1, s2, s3, s4, s5, s6, s7⟩ := h1
  simp only [Nat.zero_add] at s1 s2 s3 s4 s5 s6 s7
  unfold f_Mod_pick_j75 f_Mod_pick_j97
  simp (disch := omega) only [zg_tr, zb_t, zJ_lt, zJ_le, zJ_inj, zJ_ltl, zJ_lel, zJ_eql, zJ_llt, zJ_lle, zJ_leq, zJ_m1, zJ_m1r, zJ_nle_m1, zJ_m1lt, zJ_add, zJ_al, zJ_mull, zJ_c, zJ_mlr, zJ_cl, zJ_sub, zJ_subl, zJ_neg, zJ_divl, zreml, zshl_1, zshr_J, zushr_J, zJ_and1, if_pos, if_neg, Option.bind_some, zI_eq, zI_ne, zI_nk, zI_2, zL_1, zL_eq, zL_ne, zL_nk, zL_22, s5, zJ_la]
  rw [if_pos (fun h => h)]
  refine zw_some ⟨rfl, (zfm.rfl'.I (zin_1 (by omega) (by omega) (by omega) (by omega))).I (by rfl), ?_, ?_, ?_, ?_, zI_eq, fun j hj => ?_, fun g hg => ?_⟩
  · simp (disch := omega) only [zg_tr, zb_t, zJ_lt, zJ_le, zJ_inj, zJ_ltl, zJ_lel, zJ_eql, zJ_llt, zJ_lle, zJ_leq, zJ_m1, zJ_m1r, zJ_nle_m1, zJ_m1lt, zJ_add, zJ_al, zJ_mull, zJ_c, zJ_mlr, zJ_cl, zJ_sub, zJ_subl, zJ_neg, zJ_divl, zreml, zshl_1, zshr_J, zushr_J, zJ_and1, if_pos, if_neg, Option.bind_some, zI_eq, zI_ne, zI_nk, zI_2, zL_1, zL_eq, zL_ne, zL_nk, zL_22]
    exact s1
  · simp (disch := omega) only [zg_tr, zb_t, zJ_lt, zJ_le, zJ_inj, zJ_ltl, zJ_lel, zJ_eql, zJ_llt, zJ_lle, zJ_leq, zJ_m1, zJ_m1r, zJ_nle_m1, zJ_m1lt, zJ_add, zJ_al, zJ_mull, zJ_c, zJ_mlr, zJ_cl, zJ_sub, zJ_subl, zJ_neg, zJ_divl, zreml, zshl_1, zshr_J, zushr_J, zJ_and1, if_pos, if_neg, Option.bind_some, zI_eq, zI_ne, zI_nk, zI_2, zL_1, zL_eq, zL_ne, zL_nk, zL_22]
    exact s2
  · simp (disch := omega) only [zg_tr, zb_t, zJ_lt, zJ_le, zJ_inj, zJ_ltl, zJ_lel, zJ_eql, zJ_llt, zJ_lle, zJ_leq, zJ_m1, zJ_m1r, zJ_nle_m1, zJ_m1lt, zJ_add, zJ_al, zJ_mull, zJ_c, zJ_mlr, zJ_cl, zJ_sub, zJ_subl, zJ_neg, zJ_divl, zreml, zshl_1, zshr_J, zushr_J, zJ_and1, if_pos, if_neg, Option.bind_some, zI_eq, zI_ne, zI_nk, zI_2, zL_1, zL_eq, zL_ne, zL_nk, zL_22]
    exact s3
  · simp (disch := omega) only [zg_tr, zb_t, zJ_lt, zJ_le, zJ_inj, zJ_ltl, zJ_lel, zJ_eql, zJ_llt, zJ_lle, zJ_leq, zJ_m1, zJ_m1r, zJ_nle_m1, zJ_m1lt, zJ_add, zJ_al, zJ_mull, zJ_c, zJ_mlr, zJ_cl, zJ_sub, zJ_subl, zJ_neg, zJ_divl, zreml, zshl_1, zshr_J, zushr_J, zJ_and1, if_pos, if_neg, Option.bind_some, zI_eq, zI_ne, zI_nk, zI_2, zL_1, zL_eq, zL_ne, zL_nk, zL_22]
    exact s4
  · unfold ysP at hj ⊢
    dsimp only at hj ⊢
    rw [Nat.zero_add, zI_nk (by omega)]
    by_cases hjk : j = s.2.2.2.2.1
    · rw [if_pos hjk, hjk, zI_eq]
    · rw [if_neg hjk, zI_nk (by omega)]
      exact s6 j (by omega)
  · rw [Nat.zero_add, zI_nk (by omega), zI_nk (by omega)]
    exact s7 g hg
theorem q_pick {h : zH} {v : Int32} (hi : yInv h) : zw (f_Main_pick h v) fun x => zw (f_Mod_pick x.2 v) fun y => x.1 = y.1 ∧ yInv y.2 := by
  obtain ⟨S, ho, hc, hr⟩ := hi
  have ok := ykp_ok ho.2.1
  obtain ⟨⟨e1, e2, e3, e4⟩, -⟩ := id ho.1
  have e1' : yI (gN S) ≤ 6 := e1
  have e3' : yLs (gN S) ≤ yI (gN S) + 16 := e3
  have bad : f_Main_pick h v = (f_Main_refuseAct h).bind (fun x => some (x.1, x.2)) → (∀ g, yIr (zsI g 333 2 0) S → f_Mod_pick g v = (f_Mod_refuse (zsI g 333 2 0) 1).bind fun y => some (y.1, y.2)) → zw (f_Main_pick h v) fun x => zw (f_Mod_pick x.2 v) fun y => x.1 = y.1 ∧ yInv y.2 := fun h1 h2 => qRefuse (f := fun g => f_Mod_pick g v) ho hr hc h1 h2
  by_cases hv1 : v = -1
  · obtain ⟨⟨o1, o2, o3, o4, o5, o6⟩, -⟩ := id ho.2.1
    have hS' : yOK (gset S (ysQ (gT S).1, (ykp (gT S)).2)) := ho.set ⟨⟨o1, o2, o3, Nat.zero_le _, fun k hk => absurd hk (Nat.not_lt_zero k), o6⟩, ok.2⟩
    refine yBoth0 (f := fun g => f_Mod_pick g v) (v := 0) hS' ?_ (fun g hg => ?_) hr
    · unfold f_Main_pick
      rw [if_neg (fun h => h hv1)]
      refine zw_bi (keep_cc ho hc) ?_
      rintro g ⟨q1, q2, q3⟩
      obtain ⟨s1, s2, s3, s4, s5, s6, s7⟩ := id q2.2.2.1.1
      have qm : zfm [(156, 157, 0, 9999)] g (zsI g 156 5 0) := zfm.rfl'.I (by rfl)
      rw [Option.bind_some]
      refine zw_some ⟨rfl, (q1.sub rfl).tr qm rfl, q2.mach q3 qm ⟨?_, ?_, ?_, ?_, zI_eq, fun j hj => absurd hj (Nat.not_lt_zero j), fun f hf => s7 f hf⟩⟩
      · rw [zI_nk (by omega)]; exact s1
      · rw [zI_nk (by omega)]; exact s2
      · rw [zI_nk (by omega)]; exact s3
      · rw [zI_nk (by omega)]; exact s4
    · obtain ⟨hg1, q1, z1⟩ := code_r hg
      show zw (f_Mod_pick g v) _
      unfold f_Mod_pick
      rw [Option.bind_some, if_pos hv1]
      generalize zsI g 333 2 0 = g0 at *
      unfold f_Mod_pick_j52
      refine zw_bi (keep_rr ho hg1) ?_
      rintro g2 ⟨q2, q3, q4⟩
      obtain ⟨s1, s2, s3, s4, s5, s6, s7⟩ := id q3.2.2.1.1
      simp only [Nat.zero_add] at s1 s2 s3 s4 s5 s6 s7
      rw [if_pos hv1]
      unfold f_Mod_pick_j75 f_Mod_pick_j97
      rw [if_neg (fun h => h hv1)]
      simp (disch := omega) only [zg_tr, zb_t, zJ_lt, zJ_le, zJ_inj, zJ_ltl, zJ_lel, zJ_eql, zJ_llt, zJ_lle, zJ_leq, zJ_m1, zJ_m1r, zJ_nle_m1, zJ_m1lt, zJ_add, zJ_al, zJ_mull, zJ_c, zJ_mlr, zJ_cl, zJ_sub, zJ_subl, zJ_neg, zJ_divl, zreml, zshl_1, zshr_J, zushr_J, zJ_and1, if_pos, if_neg, Option.bind_some, zI_eq, zI_ne, zI_nk, zI_2, zL_1, zL_eq, zL_ne, zL_nk, zL_22]
      have qm : zfm [(347, 347, 0, 9999)] g2 (zsI g2 347 4 0) := zfm.rfl'.I (by rfl)
      refine zw_some ⟨rfl, (q1.trans q2).tr qm rfl, q3.mach qm rfl (fun a k ha => zin_n1 (by omega)) rfl rfl ⟨?_, ?_, ?_, ?_, zI_eq, fun j hj => absurd hj (Nat.not_lt_zero j), fun f hf => ?_⟩⟩
      · rw [zI_nk (by omega)]; exact s1
      · rw [zI_nk (by omega)]; exact s2
      · rw [zI_nk (by omega)]; exact s3
      · rw [zI_nk (by omega)]; exact s4
      · rw [zI_nk (by omega), Nat.zero_add]; exact s7 f hf
  · rcases yneg v with hv | ⟨f, hf, rfl⟩
    · refine bad ?_ (fun g hg => ?_)
      · unfold f_Main_pick f_Main_pick_j61
        rw [if_pos hv1, isFault_neg hv, Option.bind_some, if_pos rfl]
      · unfold f_Mod_pick f_Mod_pick_j46
        rw [Option.bind_some, if_neg hv1, faults_neg ho.1 hg.1 hv, Option.bind_some, if_pos rfl]
    · by_cases hfF : f < 2 * yLs (gN S)
      · have cpick : f_Main_pick h (zJ f) = if yfnd (gN S) f = true then (f_State_canPick 156 h (zJ f)).bind (fun x4 => if ¬ x4 = 0 then (f_Session_keepState 155 h).bind (fun x5 => (f_State_addPick 156 x5 (zJ f)).bind fun x6 => some (x6.1, x6.2)) else (f_Main_refuseAct h).bind fun x2 => some (x2.1, x2.2)) else (f_Main_refuseAct h).bind fun x2 => some (x2.1, x2.2) := by
          unfold f_Main_pick f_Main_pick_j61
          rw [if_pos hv1, isFault_in ho.1 hc.2.1 hf, Option.bind_some, decide_eq_true hfF, if_neg (by decide), isLost_c hc.2.1.2.2.2.2.1 hfF (by omega), Option.bind_some]
          cases hfd : yfnd (gN S) f
          · rw [show decide (0 < zct (yE (gN S)) (ySb (gN S)) f (2 ^ (yE (gN S)).1)) = false from hfd, if_pos (by decide), if_neg (by decide)]
          · rw [show decide (0 < zct (yE (gN S)) (ySb (gN S)) f (2 ^ (yE (gN S)).1)) = true from hfd, if_neg (by decide), if_pos rfl]
        have rpick : ∀ g, yIr (zsI g 333 2 0) S → f_Mod_pick g (zJ f) = if yfnd (gN S) f = true then (f_Mod_isPicked (zsI g 333 2 0) (zJ f)).bind (fun x12 => if ¬ x12 = 0 then f_Mod_pick_j46 (zsI g 333 2 0) else if ¬ ((zsI g 333 2 0).1 347 4) = 8 then f_Mod_pick_j52 (zsI g 333 2 0) (zJ f) else f_Mod_pick_j46 (zsI g 333 2 0)) else f_Mod_pick_j46 (zsI g 333 2 0) := by
          intro g hg
          obtain ⟨c, c1, c2, c3⟩ := lost_r hg.2.1 hfF
          unfold f_Mod_pick
          rw [Option.bind_some, if_neg hv1, faults_in ho.1 hg.1 hf, Option.bind_some, decide_eq_true hfF, if_neg (by decide), zb_t (by omega) (by omega), zg_tr, zJ_c (by omega), c2]
          cases hfd : yfnd (gN S) f
          · have : c ≠ 0 := fun h => by rw [c3.mp h] at hfd; cases hfd
            rw [if_pos (by rw [zJ_llt (by omega) (by decide)]; show 0 < c; omega), if_neg (by decide)]
          · have := c3.mpr hfd
            subst this
            rw [if_neg (by decide), if_pos rfl]
        cases hfd : yfnd (gN S) f
        · refine bad ?_ (fun g hg => ?_)
          · rw [cpick, hfd, if_neg (by decide)]
          · rw [rpick g hg, hfd, if_neg (by decide)]
            rfl
        · obtain ⟨x, hx, hxq⟩ := canPick_c (N := gN S) (f := f) ho.2.1.1 (by omega) hc.2.2.1.1 (by omega)
          have ip : ∀ g, yIr (zsI g 333 2 0) S → f_Mod_isPicked (zsI g 333 2 0) (zJ f) = some (zbI (ypk2 (gT S).1 f)) := by
            intro g hg
            obtain ⟨y, hy, hyq⟩ := isPicked_r (N := gN S) (f := f) ho.2.1.1 (by omega) hg.2.2.1.1 (by omega)
            rw [hy, hyq]
          have n4 : ∀ g, yIr (zsI g 333 2 0) S → (zsI g 333 2 0).1 347 4 = zJ (gT S).1.2.2.2.2.1 := fun g hg => by
            have := hg.2.2.1.1.2.2.2.2.1
            rw [Nat.zero_add] at this
            exact this
          obtain ⟨⟨o1, o2, o3, o4, o5, o6⟩, -⟩ := id ho.2.1
          by_cases hcan : (!ypk2 (gT S).1 f && decide ((gT S).1.2.2.2.2.1 < 8)) = true
          · rw [Bool.and_eq_true, Bool.not_eq_true', decide_eq_true_eq] at hcan
            have hS' : yOK (gset S (ysP (gT S).1 f, (ykp (gT S)).2)) := by
              refine ho.set ⟨⟨o1, o2, o3, by unfold ysP; dsimp only; omega, fun k hk => ?_, o6⟩, ok.2⟩
              unfold ysP at hk ⊢
              dsimp only at hk ⊢
              by_cases hkk : k = (gT S).1.2.2.2.2.1
              · rw [if_pos hkk]
                exact ⟨hfF, of_decide_eq_true hfd⟩
              · rw [if_neg hkk]
                exact o5 k (by omega)
            refine yBoth0 (f := fun g => f_Mod_pick g (zJ f)) (v := zJ ((gT S).1.2.2.2.2.1 + 1)) hS' ?_ (fun g hg => ?_) hr
            · rw [cpick, hfd, if_pos rfl, hx, hxq, Option.bind_some, hcan.1, decide_eq_true hcan.2, if_pos (by decide)]
              refine zw_bi (keep_cc ho hc) ?_
              rintro g ⟨q1, q2, q3⟩
              refine zw_bi (addPick_c (s := (gT S).1) hcan.2 q2.2.2.1.1) ?_
              rintro ⟨y, g2⟩ ⟨rfl, p1, p2⟩
              exact zw_some ⟨rfl, (q1.sub rfl).tr p1 rfl, q2.mach q3 p1 p2⟩
            · obtain ⟨hg1, q1, z1⟩ := code_r hg
              show zw (f_Mod_pick g (zJ f)) _
              rw [rpick g hg1, hfd, if_pos rfl, ip g hg1, Option.bind_some, hcan.1, if_neg (by decide), n4 g hg1, if_pos (by rw [zJ_eql (by omega) (by decide)]; show ¬ _ = 8; omega)]
              generalize zsI g 333 2 0 = g0 at *
              unfold f_Mod_pick_j52
              refine zw_bi (keep_rr ho hg1) ?_
              rintro g2 ⟨q2, q3, q4⟩
              rw [if_neg hv1]
              refine zw_mono (pickAdd_r (s := (gT S).1) (f := f) (by omega) hcan.2 q3.2.2.1.1) ?_
              rintro ⟨y, g3⟩ ⟨rfl, p1, p2⟩
              exact ⟨rfl, (q1.trans q2).tr p1 rfl, q3.mach p1 rfl (fun a k ha => zin_n1 (by omega)) rfl rfl p2⟩
          · have hcf : (!ypk2 (gT S).1 f && decide ((gT S).1.2.2.2.2.1 < 8)) = false := by simpa using hcan
            refine bad ?_ (fun g hg => ?_)
            · rw [cpick, hfd, if_pos rfl, hx, hxq, Option.bind_some, hcf, if_neg (by decide)]
            · rw [rpick g hg, hfd, if_pos rfl, ip g hg, Option.bind_some]
              cases hp : ypk2 (gT S).1 f
              · rw [hp, Bool.not_false, Bool.true_and, decide_eq_false_iff_not] at hcf
                rw [if_neg (by decide), n4 g hg, if_neg (by rw [zJ_eql (by omega) (by decide)]; show ¬ ¬ _ = 8; omega)]
                rfl
              · rw [if_pos (by decide)]
                rfl
      · refine bad ?_ (fun g hg => ?_)
        · unfold f_Main_pick f_Main_pick_j61
          rw [if_pos hv1, isFault_in ho.1 hc.2.1 hf, Option.bind_some, decide_eq_false hfF, if_pos (by decide)]
        · unfold f_Mod_pick f_Mod_pick_j46
          rw [Option.bind_some, if_neg hv1, faults_in ho.1 hg.1 hf, Option.bind_some, decide_eq_false hfF, if_pos (by decide)]
