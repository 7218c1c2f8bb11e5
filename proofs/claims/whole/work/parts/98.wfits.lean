/-! ===== fits ===== -/
theorem gneg {v : Int32} (h : v < 0) (h1 : v ≠ -1) (h2 : v ≠ -2) : v < -2 := by
  rw [Int32.lt_iff_toInt_lt] at h ⊢
  have a1 : v.toInt ≠ (-1 : Int32).toInt := fun e => h1 (Int32.toInt_inj.mp e)
  have a2 : v.toInt ≠ (-2 : Int32).toInt := fun e => h2 (Int32.toInt_inj.mp e)
  have b0 : (0 : Int32).toInt = 0 := by decide
  have b1 : (-1 : Int32).toInt = -1 := by decide
  have b2 : (-2 : Int32).toInt = -2 := by decide
  omega
theorem ynegl' {n : Nat} (h : n < 2147483648) : zJ n ≠ -1 := by
  intro e
  have : (-1 : Int32) < zJ n := (zJ_m1lt h).mpr trivial
  rw [e] at this
  exact absurd this (by decide)
theorem zJ_m2lt {n : Nat} (h : n < 2147483648) : (-2 : Int32) < zJ n := Int32.lt_trans (show (-2 : Int32) < -1 by decide) ((zJ_m1lt h).mpr trivial)
theorem fitsLoop_r {h : zH} {S : yG} {v : Int32} (ho : yOK S) (hr : yIr h S) : zw (zit zFU (fun s : Int32 × Int32 × zH => f_Mod_fits_b29 s.2.2 v s.1 s.2.1) (0, 0, h)) (Sum.elim (fun y => (∃ f, f < 2 * yLs (gN S) ∧ gsp (gN S) (gT S) f = true ∧ zJ (fb_ct (gsp (gN S) (gT S)) f) = v ∧ y.1 = zJ f) ∧ zfm [(350, 351, 0, 9999)] h y.2) (fun y => y.1 = zJ (fb_ct (gsp (gN S) (gT S)) (2 * yLs (gN S))) ∧ zfm [(350, 351, 0, 9999)] h y.2 ∧ ∀ f, f < 2 * yLs (gN S) → gsp (gN S) (gT S) f = true → zJ (fb_ct (gsp (gN S) (gT S)) f) ≠ v)) := by
  obtain ⟨⟨e1, e2, e3, e4⟩, -⟩ := id ho.1
  have e1' : yI (gN S) ≤ 6 := e1
  have e3' : yLs (gN S) ≤ yI (gN S) + 16 := e3
  refine zw_mono (zw_for (2 * yLs (gN S)) (fun k s => s.1 = zJ (fb_ct (gsp (gN S) (gT S)) k) ∧ s.2.1 = zJ k ∧ zfm [(350, 351, 0, 9999)] h s.2.2 ∧ ∀ f, f < k → gsp (gN S) (gT S) f = true → zJ (fb_ct (gsp (gN S) (gT S)) f) ≠ v) (by omega) ⟨rfl, rfl, zfm.rfl', fun f hf => absurd hf (Nat.not_lt_zero f)⟩ ?_) (fun x hx => hx)
  rintro k ⟨a, i, g⟩ hk ⟨rfl, rfl, hz, hv⟩
  dsimp only at hz hv ⊢
  unfold f_Mod_fits_b29
  have hg : yIr g S := hr.fr hz rfl
  rw [faults_n ho.1 hg.1, Option.bind_some]
  by_cases hkm : k < 2 * yLs (gN S)
  · have hle := fb_ct_le (gsp (gN S) (gT S)) k
    rw [if_neg (by rw [zJ_le (by omega) (by omega)]; omega), show zJ k = zfj (k + 1) from (zfj_s ..).symm]
    refine zw_bi (doesFit_r (f := k + 1) ho hg (by omega)) ?_
    rintro ⟨x, g2⟩ ⟨rfl, q⟩
    dsimp only at q ⊢
    have hz2 := hz.trans q
    rw [zfj_s, fb_ct_succ]
    cases hp : gso (gN S) (gT S) (k + 1)
    · rw [if_neg (by decide), if_neg (show ¬ gsp (gN S) (gT S) k = true from by show ¬ gso (gN S) (gT S) (k + 1) = true; rw [hp]; decide)]
      simp (disch := omega) only [zg_tr, zb_t, zJ_lt, zJ_le, zJ_inj, zJ_ltl, zJ_lel, zJ_eql, zJ_llt, zJ_lle, zJ_leq, zJ_m1, zJ_m1r, zJ_nle_m1, zJ_m1lt, zJ_add, zJ_al, zJ_mull, zJ_c, zJ_mlr, zJ_cl, zJ_sub, zJ_subl, zJ_neg, zJ_divl, zreml, zshl_1, zshr_J, zushr_J, zJ_and1, if_pos, if_neg, Option.bind_some, zI_eq, zI_ne, zI_nk, zI_2, zL_1, zL_eq, zL_ne, zL_nk, zL_22]
      refine zw_some ⟨hkm, rfl, rfl, hz2, fun f hf hpf => ?_⟩
      by_cases hfk : f = k
      · subst hfk
        exact absurd (show gso (gN S) (gT S) (f + 1) = true from hpf) (by rw [hp]; decide)
      · exact hv f (by omega) hpf
    · rw [if_pos (by decide), if_pos (show gsp (gN S) (gT S) k = true from hp)]
      by_cases he : zJ (fb_ct (gsp (gN S) (gT S)) k) = v
      · rw [if_neg (fun h => h he)]
        exact zw_some ⟨⟨k, hkm, hp, he, rfl⟩, hz2⟩
      · rw [if_pos he]
        simp (disch := omega) only [zg_tr, zb_t, zJ_lt, zJ_le, zJ_inj, zJ_ltl, zJ_lel, zJ_eql, zJ_llt, zJ_lle, zJ_leq, zJ_m1, zJ_m1r, zJ_nle_m1, zJ_m1lt, zJ_add, zJ_al, zJ_mull, zJ_c, zJ_mlr, zJ_cl, zJ_sub, zJ_subl, zJ_neg, zJ_divl, zreml, zshl_1, zshr_J, zushr_J, zJ_and1, if_pos, if_neg, Option.bind_some, zI_eq, zI_ne, zI_nk, zI_2, zL_1, zL_eq, zL_ne, zL_nk, zL_22]
        refine zw_some ⟨hkm, rfl, rfl, hz2, fun f hf hpf => ?_⟩
        by_cases hfk : f = k
        · subst hfk
          exact he
        · exact hv f (by omega) hpf
  · have : k = 2 * yLs (gN S) := by omega
    subst this
    rw [if_pos (by rw [zJ_le (by omega) (by omega)]; omega)]
    exact zw_some ⟨rfl, hz, hv⟩
theorem gct_inj {p : Nat → Bool} {f g : Nat} (hf : p f = true) (hg : p g = true) (h : fb_ct p f = fb_ct p g) : f = g := by
  rcases Nat.lt_trichotomy f g with c | c | c
  · have h1 := fb_ct_mono p (show f + 1 ≤ g by omega)
    rw [fb_ct_succ, hf, if_pos rfl] at h1
    omega
  · exact c
  · have h1 := fb_ct_mono p (show g + 1 ≤ f by omega)
    rw [fb_ct_succ, hg, if_pos rfl] at h1
    omega
theorem q_fits {h : zH} {v : Int32} (hi : yInv h) : zw (f_L_fits h v) fun x => zw (f_Mod_fits x.2 v) fun y => yEnd x y := by
  obtain ⟨S, ho, hc, hr⟩ := hi
  obtain ⟨⟨e1, e2, e3, e4⟩, -⟩ := id ho.1
  have e1' : yI (gN S) ≤ 6 := e1
  have e3' : yLs (gN S) ≤ yI (gN S) + 16 := e3
  have hle := fb_ct_le (gsp (gN S) (gT S)) (2 * yLs (gN S))
  by_cases hm2 : v = -2
  · subst hm2
    unfold f_L_fits
    refine yGood (f := fun g => f_Mod_fits g (-2)) (v := zbI (gso (gN S) (gT S) 0)) ho hr ?_ (fun g hg => ?_)
    · unfold f_Main_fits
      refine zw_bi (gather_c ho hc) ?_
      rintro g ⟨q, p1, p2, p3, p4⟩
      rw [if_neg (by decide), p1, if_pos (zJ_m2lt (by omega)), if_neg (by decide), p2]
      cases h0 : gso (gN S) (gT S) 0
      · exact zw_some ⟨g, rfl, q.sub rfl, hc.fr ho q rfl⟩
      · exact zw_some ⟨g, rfl, q.sub rfl, hc.fr ho q rfl⟩
    · obtain ⟨hg1, q1, z1⟩ := code_r hg
      show zw (f_Mod_fits g (-2)) _
      unfold f_Mod_fits
      rw [Option.bind_some, if_neg (by decide)]
      generalize zsI g 333 2 0 = g0 at *
      rw [show (-1 : Int32) = zfj 0 from rfl]
      refine zw_bi (doesFit_r (f := 0) ho hg1 (Nat.zero_le _)) ?_
      rintro ⟨x, g2⟩ ⟨rfl, q⟩
      dsimp only at q ⊢
      cases h0 : gso (gN S) (gT S) 0
      · rw [if_pos (by decide)]
        exact zw_some ⟨⟨(q.i (by rfl)).trans z1, fun w hw => by cases hw; rfl⟩, q1.tr q rfl, hg1.fr q rfl⟩
      · rw [if_neg (by decide)]
        exact zw_some ⟨⟨(q.i (by rfl)).trans z1, fun w hw => by cases hw; rfl⟩, q1.tr q rfl, hg1.fr q rfl⟩
  · by_cases hm1 : v = -1
    · subst hm1
      unfold f_L_fits
      refine yGood (f := fun g => f_Mod_fits g (-1)) (v := zJ (fb_ct (gsp (gN S) (gT S)) (2 * yLs (gN S)))) ho hr ?_ (fun g hg => ?_)
      · unfold f_Main_fits
        refine zw_bi (gather_c ho hc) ?_
        rintro g ⟨q, p1, p2, p3, p4⟩
        rw [if_neg (by decide), p1, if_pos ((zJ_m1lt (by omega)).mpr trivial), if_pos (by decide), if_neg (by decide)]
        exact zw_some ⟨g, rfl, q.sub rfl, hc.fr ho q rfl⟩
      · obtain ⟨hg1, q1, z1⟩ := code_r hg
        show zw (f_Mod_fits g (-1)) _
        unfold f_Mod_fits
        rw [Option.bind_some, if_pos (by decide)]
        generalize zsI g 333 2 0 = g0 at *
        refine zw_bi (fitsLoop_r ho hg1) ?_
        rintro (⟨x, g2⟩ | ⟨x, g2⟩) hy
        · obtain ⟨⟨f, f1, f2, f3, f4⟩, q⟩ := hy
          exact absurd f3 (ynegl' (by have := fb_ct_mono (gsp (gN S) (gT S)) (show f ≤ 2 * yLs (gN S) by omega); omega))
        · obtain ⟨rfl, q, hv⟩ := hy
          dsimp only [Sum.elim]
          rw [if_neg (by decide)]
          exact zw_some ⟨⟨(q.i (by rfl)).trans z1, fun w hw => by cases hw; rfl⟩, q1.tr q rfl, hg1.fr q rfl⟩
    · sorry
