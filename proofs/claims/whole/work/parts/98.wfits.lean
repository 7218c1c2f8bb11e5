/-! ===== fits ===== -/
theorem gneg {v : Int32} (h : v < 0) (h1 : v ≠ -1) (h2 : v ≠ -2) : v < -2 := by
  rw [Int32.lt_iff_toInt_lt] at h ⊢
  have a1 : v.toInt ≠ (-1 : Int32).toInt := fun e => h1 (Int32.toInt_inj.mp e)
  have a2 : v.toInt ≠ (-2 : Int32).toInt := fun e => h2 (Int32.toInt_inj.mp e)
  have b0 : (0 : Int32).toInt = 0 := by decide
  have b1 : (-1 : Int32).toInt = -1 := by decide
  have b2 : (-2 : Int32).toInt = -2 := by decide
  omega
theorem ynegl' {n : Nat} (h : n < 2147483648) : zJ n ≠ -1 := by
  intro e
  have : (-1 : Int32) < zJ n := (zJ_m1lt h).mpr trivial
  rw [e] at this
  exact absurd this (by decide)
theorem zJ_m2lt {n : Nat} (h : n < 2147483648) : (-2 : Int32) < zJ n := Int32.lt_trans (show (-2 : Int32) < -1 by decide) ((zJ_m1lt h).mpr trivial)
theorem fitsLoop_r {h : zH} {S : yG} {v : Int32} (ho : yOK S) (hr : yIr h S) : zw (zit zFU (fun s : Int32 × Int32 × zH => f_Mod_fits_b29 s.2.2 v s.1 s.2.1) (0, 0, h)) (Sum.elim (fun y => (∃ f, f < 2 * yLs (gN S) ∧ gsp (gN S) (gT S) f = true ∧ zJ (fb_ct (gsp (gN S) (gT S)) f) = v ∧ y.1 = zJ f) ∧ zfm [(350, 351, 0, 9999)] h y.2) (fun y => y.1 = zJ (fb_ct (gsp (gN S) (gT S)) (2 * yLs (gN S))) ∧ zfm [(350, 351, 0, 9999)] h y.2 ∧ ∀ f, f < 2 * yLs (gN S) → gsp (gN S) (gT S) f = true → zJ (fb_ct (gsp (gN S) (gT S)) f) ≠ v)) := by
  obtain ⟨⟨e1, e2, e3, e4⟩, -⟩ := id ho.1
  have e1' : yI (gN S) ≤ 6 := e1
  have e3' : yLs (gN S) ≤ yI (gN S) + 16 := e3
  refine zw_mono (zw_for (2 * yLs (gN S)) (fun k s => s.1 = zJ (fb_ct (gsp (gN S) (gT S)) k) ∧ s.2.1 = zJ k ∧ zfm [(350, 351, 0, 9999)] h s.2.2 ∧ ∀ f, f < k → gsp (gN S) (gT S) f = true → zJ (fb_ct (gsp (gN S) (gT S)) f) ≠ v) (by omega) ⟨rfl, rfl, zfm.rfl', fun f hf => absurd hf (Nat.not_lt_zero f)⟩ ?_) (fun x hx => hx)
  rintro k ⟨a, i, g⟩ hk ⟨rfl, rfl, hz, hv⟩
  dsimp only at hz hv ⊢
  unfold f_Mod_fits_b29
  have hg : yIr g S := hr.fr hz rfl
  rw [faults_n ho.1 hg.1, Option.bind_some]
  by_cases hkm : k < 2 * yLs (gN S)
  · have hle := fb_ct_le (gsp (gN S) (gT S)) k
    rw [if_neg (by rw [zJ_le (by omega) (by omega)]; omega), show zJ k = zfj (k + 1) from (zfj_s ..).symm]
    refine zw_bi (doesFit_r (f := k + 1) ho hg (by omega)) ?_
    rintro ⟨x, g2⟩ ⟨rfl, q⟩
    dsimp only at q ⊢
    have hz2 := hz.trans q
    rw [zfj_s, fb_ct_succ]
    cases hp : gso (gN S) (gT S) (k + 1)
    · rw [if_neg (by decide), if_neg (show ¬ gsp (gN S) (gT S) k = true from by show ¬ gso (gN S) (gT S) (k + 1) = true; rw [hp]; decide)]
      simp (disch := omega) only [zg_tr, zb_t, zJ_lt, zJ_le, zJ_inj, zJ_ltl, zJ_lel, zJ_eql, zJ_llt, zJ_lle, zJ_leq, zJ_m1, zJ_m1r, zJ_nle_m1, zJ_m1lt, zJ_add, zJ_al, zJ_mull, zJ_c, zJ_mlr, zJ_cl, zJ_sub, zJ_subl, zJ_neg, zJ_divl, zreml, zshl_1, zshr_J, zushr_J, zJ_and1, if_pos, if_neg, Option.bind_some, zI_eq, zI_ne, zI_nk, zI_2, zL_1, zL_eq, zL_ne, zL_nk, zL_22]
      refine zw_some ⟨hkm, rfl, rfl, hz2, fun f hf hpf => ?_⟩
      by_cases hfk : f = k
      · subst hfk
        exact absurd (show gso (gN S) (gT S) (f + 1) = true from hpf) (by rw [hp]; decide)
      · exact hv f (by omega) hpf
    · rw [if_pos (by decide), if_pos (show gsp (gN S) (gT S) k = true from hp)]
      by_cases he : zJ (fb_ct (gsp (gN S) (gT S)) k) = v
      · rw [if_neg (fun h => h he)]
        exact zw_some ⟨⟨k, hkm, hp, he, rfl⟩, hz2⟩
      · rw [if_pos he]
        simp (disch := omega) only [zg_tr, zb_t, zJ_lt, zJ_le, zJ_inj, zJ_ltl, zJ_lel, zJ_eql, zJ_llt, zJ_lle, zJ_leq, zJ_m1, zJ_m1r, zJ_nle_m1, zJ_m1lt, zJ_add, zJ_al, zJ_mull, zJ_c, zJ_mlr, zJ_cl, zJ_sub, zJ_subl, zJ_neg, zJ_divl, zreml, zshl_1, zshr_J, zushr_J, zJ_and1, if_pos, if_neg, Option.bind_some, zI_eq, zI_ne, zI_nk, zI_2, zL_1, zL_eq, zL_ne, zL_nk, zL_22]
        refine zw_some ⟨hkm, rfl, rfl, hz2, fun f hf hpf => ?_⟩
        by_cases hfk : f = k
        · subst hfk
          exact he
        · exact hv f (by omega) hpf
  · have : k = 2 * yLs (gN S) := by omega
    subst this
    rw [if_pos (by rw [zJ_le (by omega) (by omega)]; omega)]
    exact zw_some ⟨rfl, hz, hv⟩
theorem gct_inj {p : Nat → Bool} {f g : Nat} (hf : p f = true) (hg : p g = true) (h : fb_ct p f = fb_ct p g) : f = g := by
  rcases Nat.lt_trichotomy f g with c | c | c
  · have h1 := fb_ct_mono p (show f + 1 ≤ g by omega)
    rw [fb_ct_succ, hf, if_pos rfl] at h1
    omega
  · exact c
  · have h1 := fb_ct_mono p (show g + 1 ≤ f by omega)
    rw [fb_ct_succ, hg, if_pos rfl] at h1
    omega
theorem q_fits {h : zH} {v : Int32} (hi : yInv h) : zw (f_L_fits h v) fun x => zw (f_Mod_fits x.2 v) fun y => yEnd x y := by
  obtain ⟨S, ho, hc, hr⟩ := hi
  obtain ⟨⟨e1, e2, e3, e4⟩, -⟩ := id ho.1
  have e1' : yI (gN S) ≤ 6 := e1
  have e3' : yLs (gN S) ≤ yI (gN S) + 16 := e3
  have hle := fb_ct_le (gsp (gN S) (gT S)) (2 * yLs (gN S))
  by_cases hm2 : v = -2
  · subst hm2
    unfold f_L_fits
    refine yGood (f := fun g => f_Mod_fits g (-2)) (v := zbI (gso (gN S) (gT S) 0)) ho hr ?_ (fun g hg => ?_)
    · unfold f_Main_fits
      refine zw_bi (gather_c ho hc) ?_
      rintro g ⟨q, p1, p2, p3, p4⟩
      rw [if_neg (by decide), p1, if_pos (zJ_m2lt (by omega)), if_neg (by decide), p2]
      cases h0 : gso (gN S) (gT S) 0
      · exact zw_some ⟨g, rfl, q.sub rfl, hc.fr ho q rfl⟩
      · exact zw_some ⟨g, rfl, q.sub rfl, hc.fr ho q rfl⟩
    · obtain ⟨hg1, q1, z1⟩ := code_r hg
      show zw (f_Mod_fits g (-2)) _
      unfold f_Mod_fits
      rw [Option.bind_some, if_neg (by decide)]
      generalize zsI g 333 2 0 = g0 at *
      rw [show (-1 : Int32) = zfj 0 from rfl]
      refine zw_bi (doesFit_r (f := 0) ho hg1 (Nat.zero_le _)) ?_
      rintro ⟨x, g2⟩ ⟨rfl, q⟩
      dsimp only at q ⊢
      cases h0 : gso (gN S) (gT S) 0
      · rw [if_pos (by decide)]
        exact zw_some ⟨⟨(q.i (by rfl)).trans z1, fun w hw => by cases hw; rfl⟩, q1.tr q rfl, hg1.fr q rfl⟩
      · rw [if_neg (by decide)]
        exact zw_some ⟨⟨(q.i (by rfl)).trans z1, fun w hw => by cases hw; rfl⟩, q1.tr q rfl, hg1.fr q rfl⟩
  · by_cases hm1 : v = -1
    · subst hm1
      unfold f_L_fits
      refine yGood (f := fun g => f_Mod_fits g (-1)) (v := zJ (fb_ct (gsp (gN S) (gT S)) (2 * yLs (gN S)))) ho hr ?_ (fun g hg => ?_)
      · unfold f_Main_fits
        refine zw_bi (gather_c ho hc) ?_
        rintro g ⟨q, p1, p2, p3, p4⟩
        rw [if_neg (by decide), p1, if_pos ((zJ_m1lt (by omega)).mpr trivial), if_pos (by decide), if_neg (by decide)]
        exact zw_some ⟨g, rfl, q.sub rfl, hc.fr ho q rfl⟩
      · obtain ⟨hg1, q1, z1⟩ := code_r hg
        show zw (f_Mod_fits g (-1)) _
        unfold f_Mod_fits
        rw [Option.bind_some, if_pos (by decide)]
        generalize zsI g 333 2 0 = g0 at *
        refine zw_bi (fitsLoop_r ho hg1) ?_
        rintro (⟨x, g2⟩ | ⟨x, g2⟩) hy
        · obtain ⟨⟨f, f1, f2, f3, f4⟩, q⟩ := hy
          exact absurd f3 (ynegl' (by have := fb_ct_mono (gsp (gN S) (gT S)) (show f ≤ 2 * yLs (gN S) by omega); omega))
        · obtain ⟨rfl, q, hv⟩ := hy
          dsimp only [Sum.elim]
          rw [if_neg (by decide)]
          exact zw_some ⟨⟨(q.i (by rfl)).trans z1, fun w hw => by cases hw; rfl⟩, q1.tr q rfl, hg1.fr q rfl⟩
    · have rbad : (∀ f, f < 2 * yLs (gN S) → gsp (gN S) (gT S) f = true → zJ (fb_ct (gsp (gN S) (gT S)) f) ≠ v) → ∀ g, yIr g S → zw (f_Mod_fits g v) fun y => yRA (.inr 1) y ∧ zfm yLr g y.2 ∧ yIr y.2 S := by
        intro hno g hg
        obtain ⟨hg1, q1, z1⟩ := code_r hg
        unfold f_Mod_fits
        rw [Option.bind_some, if_pos hm2]
        generalize zsI g 333 2 0 = g0 at *
        refine zw_bi (fitsLoop_r (v := v) ho hg1) ?_
        rintro (⟨x, g2⟩ | ⟨x, g2⟩) hy
        · obtain ⟨⟨f, f1, f2, f3, f4⟩, q⟩ := hy
          exact absurd f3 (hno f f1 f2)
        · obtain ⟨rfl, q, hv⟩ := hy
          dsimp only [Sum.elim]
          rw [if_pos hm1]
          refine zw_bi (fail_r (c := 1) (hg1.fr q rfl)) ?_
          rintro y ⟨a, b, c⟩
          exact zw_some ⟨a, (q1.tr q rfl).trans b, c⟩
      have bad : (v < -2 ∨ ¬ v < zJ (fb_ct (gsp (gN S) (gT S)) (2 * yLs (gN S)))) → (∀ f, f < 2 * yLs (gN S) → gsp (gN S) (gT S) f = true → zJ (fb_ct (gsp (gN S) (gT S)) f) ≠ v) → zw (f_L_fits h v) fun x => zw (f_Mod_fits x.2 v) fun y => yEnd x y := by
        intro hv h2
        unfold f_L_fits
        refine yBad (m := 1) (c := 1) (f := fun g => f_Mod_fits g v) ho hc hr ?_ (fun g => by rfl) (rbad h2) (Or.inl rfl)
        unfold f_Main_fits
        refine zw_bi (gather_c ho hc) ?_
        rintro g ⟨q, p1, p2, p3, p4⟩
        have e : f_Main_fits_j32 g = some (.inr (1, g)) := rfl
        rw [p1, e]
        have fin : zw (some (.inr (1, g)) : Option ((Int32 × zH) ⊕ (Nat × zH))) fun x => ∃ g, x = .inr (1, g) ∧ zfm yLc h g ∧ yIc g S := zw_some ⟨g, rfl, q.sub rfl, hc.fr ho q rfl⟩
        by_cases h2 : v < -2
        · rw [if_pos h2]
          exact fin
        · rw [if_neg h2, if_neg (hv.resolve_left h2)]
          exact fin
      have hle' : ∀ f, f < 2 * yLs (gN S) → fb_ct (gsp (gN S) (gT S)) f ≤ 44 := fun f hf => by
        have := fb_ct_le (gsp (gN S) (gT S)) f
        omega
      rcases yneg v with hv | ⟨k, hk, rfl⟩
      · refine bad (Or.inl (gneg hv hm1 hm2)) (fun f f1 f2 e => ?_)
        rw [← e] at hv
        have := hle' f f1
        exact absurd hv (by rw [show (0 : Int32) = zJ 0 from rfl, zJ_lt (by omega) (by omega)]; omega)
      · by_cases hlt : k < fb_ct (gsp (gN S) (gT S)) (2 * yLs (gN S))
        · obtain ⟨f, f1, f2, f3⟩ := gct_ex hlt
          unfold f_L_fits
          refine yGood (f := fun g => f_Mod_fits g (zJ k)) (v := zJ f) ho hr ?_ (fun g hg => ?_)
          · unfold f_Main_fits
            refine zw_bi (gather_c ho hc) ?_
            rintro g ⟨q, p1, p2, p3, p4⟩
            have p5 := p3 f f1 f2
            rw [f3] at p5
            rw [if_neg (fun h => absurd (Int32.lt_trans h (zJ_m2lt hk)) (Int32.lt_irrefl)), p1, if_pos ((zJ_lt hk (by omega)).mpr hlt), if_pos hm2, if_pos hm1, zb_t (by omega) hk, zg_tr, zJ_c hk, p5]
            exact zw_some ⟨g, rfl, q.sub rfl, hc.fr ho q rfl⟩
          · obtain ⟨hg1, q1, z1⟩ := code_r hg
            show zw (f_Mod_fits g (zJ k)) _
            unfold f_Mod_fits
            rw [Option.bind_some, if_pos hm2]
            generalize zsI g 333 2 0 = g0 at *
            refine zw_bi (fitsLoop_r (v := zJ k) ho hg1) ?_
            rintro (⟨x, g2⟩ | ⟨x, g2⟩) hy
            · obtain ⟨⟨f', f1', f2', f3', f4⟩, q⟩ := hy
              have h1 := hle' f' f1'
              have e : f' = f := gct_inj f2' f2 (((zJ_inj (by omega) hk).mp f3').trans f3.symm)
              subst e
              dsimp only [Sum.elim] at f4 ⊢
              rw [f4]
              exact zw_some ⟨⟨(q.i (by rfl)).trans z1, fun w hw => by cases hw; rfl⟩, q1.tr q rfl, hg1.fr q rfl⟩
            · obtain ⟨-, q, hv⟩ := hy
              exact absurd (by rw [f3]) (hv f f1 f2)
        · refine bad (Or.inr (by rw [zJ_lt hk (by omega)]; exact hlt)) (fun f f1 f2 e => ?_)
          have h1 := hle' f f1
          have h2 := (zJ_inj (by omega) hk).mp e
          have h3 := fb_ct_mono (gsp (gN S) (gT S)) (show f + 1 ≤ 2 * yLs (gN S) by omega)
          rw [fb_ct_succ, f2, if_pos rfl] at h3
          omega
