/-! ===== the reference tells its program ===== -/
theorem zJ_la {a n : Nat} : (no_index (OfNat.ofNat n)) + zJ a = zJ (OfNat.ofNat n + a) := (Int32.ofNat_add n a).symm
def yRP (h : zH) (N : yN) (dn : Nat → Bool) (fl s : Nat) : Prop := ∀ t, t < s → h.1 359 t = zJ (ypt N dn fl t) ∧ h.1 360 t = zJ (ypc N dn fl t) ∧ h.1 361 t = zJ (ypm N dn fl t)
def yOp (h : zH) (N : yN) (O : Nat → Bool) : Prop := ∀ f, f < 2 * yLs N → h.1 362 f = zbI (O f)
theorem opens_r {h : zH} {N : yN} {dn : Nat → Bool} {fl : Nat} (hn : yOKn N) (hr : yRN h N) (hl : yLD h (yE N) (ySb N)) (hd : ∀ f, f < 44 → h.1 347 (13 + f) = zbI (dn f)) : zw (zit zFU (fun s : Int32 × zH => f_Mod_tellProgram_b7 s.2 s.1) (0, h)) fun g => zfm [(362, 362, 0, 9999)] h g ∧ yOp g N (yO N dn fl 0) := by
  obtain ⟨⟨e1, e2, e3, e4⟩, -⟩ := id hn
  have e1' : yI N ≤ 6 := e1
  have e3' : yLs N ≤ yI N + 16 := e3
  refine zw_for (2 * yLs N) (fun k s => s.1 = zJ k ∧ zfm [(362, 362, 0, 9999)] h s.2 ∧ ∀ f, f < k → s.2.1 362 f = zbI (yO N dn fl 0 f)) (by omega) ⟨rfl, zfm.rfl', fun l hl => by omega⟩ ?_
  rintro k ⟨i, g⟩ hk ⟨rfl, hz, hv⟩
  dsimp only at hz hv ⊢
  have hrg : yRN g N := hr.fr hz (fun a k h1 h2 => zin_n1 (by omega))
  unfold f_Mod_tellProgram_b7
  rw [faults_n hn hrg]
  by_cases hkm : k < 2 * yLs N
  · have hlo : g.1 357 k = zJ (zlo (yE N) (ySb N) k) := (hz.i (by rfl)).trans (hl.1 k hkm).2.2
    have hdn : g.1 347 (13 + k) = zbI (dn k) := (hz.i (zin_n1 (by omega))).trans (hd k (by omega))
    have hlo3 : zlo (yE N) (ySb N) k < 3 := by
      unfold zlo
      cases zdf (yE N) k (2 ^ (yE N).1) <;> split <;> simp
    have stp : ∀ b : Bool, b = yO N dn fl 0 k → zw (some (.inl (zJ (k + 1), zsI g 362 k (zbI b)))) (Sum.elim (fun s' : Int32 × zH => k < 2 * yLs N ∧ s'.1 = zJ (k + 1) ∧ zfm [(362, 362, 0, 9999)] h s'.2 ∧ ∀ f, f < k + 1 → s'.2.1 362 f = zbI (yO N dn fl 0 f)) fun g => zfm [(362, 362, 0, 9999)] h g ∧ yOp g N (yO N dn fl 0)) := by
      intro b hb
      refine zw_some ⟨hkm, rfl, hz.I (zin_1 (by omega) (by omega) (by omega) (by omega)), fun f hf => ?_⟩
      dsimp only
      by_cases hfk : f = k
      · subst hfk
        rw [zI_eq, hb]
      · rw [zI_nk hfk, hv f (by omega)]
    simp (disch := omega) only [zg_tr, zb_t, zJ_lt, zJ_le, zJ_inj, zJ_ltl, zJ_lel, zJ_eql, zJ_llt, zJ_lle, zJ_leq, zJ_m1, zJ_m1r, zJ_nle_m1, zJ_m1lt, zJ_add, zJ_al, zJ_mull, zJ_c, zJ_mlr, zJ_cl, zJ_sub, zJ_subl, zJ_neg, zJ_divl, zreml, zshl_1, zshr_J, zushr_J, zJ_and1, if_pos, if_neg, Option.bind_some, zI_eq, zI_ne, zI_nk, zI_2, zL_1, zL_eq, zL_ne, zL_nk, zL_22, hlo, zJ_la, hdn, f_Mod_tellProgram_j46]
    have hO : yO N dn fl 0 k = (decide (0 < zct (yE N) (ySb N) k (2 ^ yI N)) && !dn k) := by
      rw [yO, decide_eq_true hkm, Bool.true_and]
    by_cases h0 : 0 < zct (yE N) (ySb N) k (2 ^ yI N)
    · have hz0 : zlo (yE N) (ySb N) k = 0 := by
        unfold zlo
        rw [if_pos h0]
      rw [hz0, if_neg (by decide)]
      rw [decide_eq_true h0, Bool.true_and] at hO
      cases hdk : dn k
      · rw [if_neg (by decide)]
        exact stp true (by rw [hO, hdk]; rfl)
      · rw [if_pos (by decide)]
        exact stp false (by rw [hO, hdk]; rfl)
    · have hz0 : zlo (yE N) (ySb N) k ≠ 0 := by
        unfold zlo
        rw [if_neg h0]
        omega
      rw [if_pos hz0]
      rw [decide_eq_false h0, Bool.false_and] at hO
      exact stp false hO.symm
  · have : k = 2 * yLs N := by omega
    subst this
    simp (disch := omega) only [zg_tr, zb_t, zJ_lt, zJ_le, zJ_inj, zJ_ltl, zJ_lel, zJ_eql, zJ_llt, zJ_lle, zJ_leq, zJ_m1, zJ_m1r, zJ_nle_m1, zJ_m1lt, zJ_add, zJ_al, zJ_mull, zJ_c, zJ_mlr, zJ_cl, zJ_sub, zJ_subl, zJ_neg, zJ_divl, zreml, zshl_1, zshr_J, zushr_J, zJ_and1, if_pos, if_neg, Option.bind_some, zI_eq, zI_ne, zI_nk, zI_2, zL_1, zL_eq, zL_ne, zL_nk, zL_22]
    exact zw_some ⟨hz, hv⟩
theorem unmerge_r {h : zH} {N : yN} {v1 : Int32} (hn : yOKn N) (hr : yRN h N) : zw (zit zFU (fun s : Int32 × zH => f_Mod_tellProgram_b65 s.2 v1 s.1) (0, h)) fun g => zfm [(358, 358, 0, 9999)] h g ∧ ∀ i, i < yI N → g.1 358 i = zJ 2 := by
  obtain ⟨⟨e1, e2, e3, e4⟩, -⟩ := id hn
  have e1' : yI N ≤ 6 := e1
  refine zw_for (yI N) (fun k s => s.1 = zJ k ∧ zfm [(358, 358, 0, 9999)] h s.2 ∧ ∀ i, i < k → s.2.1 358 i = zJ 2) (by omega) ⟨rfl, zfm.rfl', fun l hl => by omega⟩ ?_
  rintro k ⟨i, g⟩ hk ⟨rfl, hz, hv⟩
  dsimp only at hz hv ⊢
  have r0 : g.1 336 0 = zJ (yI N) := (hz.i (by rfl)).trans hr.1.1
  unfold f_Mod_tellProgram_b65
  by_cases hkm : k < yI N
  · simp (disch := omega) only [zg_tr, zb_t, zJ_lt, zJ_le, zJ_inj, zJ_ltl, zJ_lel, zJ_eql, zJ_llt, zJ_lle, zJ_leq, zJ_m1, zJ_m1r, zJ_nle_m1, zJ_m1lt, zJ_add, zJ_al, zJ_mull, zJ_c, zJ_mlr, zJ_cl, zJ_sub, zJ_subl, zJ_neg, zJ_divl, zreml, zshl_1, zshr_J, zushr_J, zJ_and1, if_pos, if_neg, Option.bind_some, zI_eq, zI_ne, zI_nk, zI_2, zL_1, zL_eq, zL_ne, zL_nk, zL_22, r0]
    refine zw_some ⟨hkm, rfl, hz.I (zin_1 (by omega) (by omega) (by omega) (by omega)), fun i hi => ?_⟩
    dsimp only
    by_cases hik : i = k
    · subst hik
      exact zI_eq
    · rw [zI_nk hik, hv i (by omega)]
  · have : k = yI N := by omega
    subst this
    simp (disch := omega) only [zg_tr, zb_t, zJ_lt, zJ_le, zJ_inj, zJ_ltl, zJ_lel, zJ_eql, zJ_llt, zJ_lle, zJ_leq, zJ_m1, zJ_m1r, zJ_nle_m1, zJ_m1lt, zJ_add, zJ_al, zJ_mull, zJ_c, zJ_mlr, zJ_cl, zJ_sub, zJ_subl, zJ_neg, zJ_divl, zreml, zshl_1, zshr_J, zushr_J, zJ_and1, if_pos, if_neg, Option.bind_some, zI_eq, zI_ne, zI_nk, zI_2, zL_1, zL_eq, zL_ne, zL_nk, zL_22, r0]
    exact zw_some ⟨hz, hv⟩
theorem merges_r {h : zH} {N : yN} {O : Nat → Bool} {f : Nat} (hn : yOKn N) (hr : yRN h N) (hl : yLD h (yE N) (ySb N)) (hm : ∀ i, i < yI N → h.1 358 i = zJ 2) (hop : yOp h N O) (hO : ∀ f, O f = true → 0 < zct (yE N) (ySb N) f (2 ^ yI N)) (hf : f < 2 * yLs N) (hlow : ∀ j, j < f → O j = false) : zw (zit zFU (fun s : Int32 × Int32 × zH => f_Mod_tellProgram_b92 s.2.2 s.1 s.2.1) (0, zJ f, h)) fun y => y.1 = zJ (ymg N O (2 * yLs N)).2 ∧ zfm [(358, 358, 0, 9999)] h y.2 ∧ ∀ i, i < yI N → y.2.1 358 i = zJ ((ymg N O (2 * yLs N)).1 i) := by
  obtain ⟨⟨e1, e2, e3, e4⟩, -⟩ := id hn
  have e1' : yI N ≤ 6 := e1
  have e3' : yLs N ≤ yI N + 16 := e3
  refine zw_fr f (2 * yLs N) (fun k s => s.1 = zJ (ymg N O k).2 ∧ s.2.1 = zJ k ∧ zfm [(358, 358, 0, 9999)] h s.2.2 ∧ ∀ i, i < yI N → s.2.2.1 358 i = zJ ((ymg N O k).1 i)) (by omega) (by omega) ⟨by rw [ymg_none f hlow]; rfl, rfl, zfm.rfl', fun i hi => by rw [ymg_none f hlow]; exact hm i hi⟩ ?_
  rintro k ⟨a, i, g⟩ hk ⟨rfl, rfl, hz, hv⟩
  dsimp only at hz hv ⊢
  have hrg : yRN g N := hr.fr hz (fun a k h1 h2 => zin_n1 (by omega))
  have hlg : yLD g (yE N) (ySb N) := hl.fr hz (fun a k h1 h2 => zin_n1 (by omega))
  unfold f_Mod_tellProgram_b92
  rw [faults_n hn hrg]
  by_cases hkm : k < 2 * yLs N
  · have hok : g.1 362 k = zbI (O k) := (hz.i (by rfl)).trans (hop k hkm)
    simp (disch := omega) only [zg_tr, zb_t, zJ_lt, zJ_le, zJ_inj, zJ_ltl, zJ_lel, zJ_eql, zJ_llt, zJ_lle, zJ_leq, zJ_m1, zJ_m1r, zJ_nle_m1, zJ_m1lt, zJ_add, zJ_al, zJ_mull, zJ_c, zJ_mlr, zJ_cl, zJ_sub, zJ_subl, zJ_neg, zJ_divl, zreml, zshl_1, zshr_J, zushr_J, zJ_and1, if_pos, if_neg, Option.bind_some, zI_eq, zI_ne, zI_nk, zI_2, zL_1, zL_eq, zL_ne, zL_nk, zL_22, hok]
    cases hOk : O k
    · have hmk : ymg N O (k + 1) = ymg N O k := by
        rw [ymg, hOk, Bool.false_and, if_neg (by simp)]
      rw [if_pos zbI_f]
      refine zw_some ⟨hkm, by rw [hmk], rfl, hz, fun i hi => ?_⟩
      rw [hmk]
      exact hv i hi
    · rw [if_neg (by decide)]
      refine zw_bi (agrees_r hn hrg hlg hv (fun _ => ymg_le) hkm (hO k hOk)) ?_
      rintro x rfl
      cases hag : yag (yI N) (ymg N O k).1 (ycb N k)
      · have hmk : ymg N O (k + 1) = ymg N O k := by
          rw [ymg, hOk, Bool.true_and, hag, if_neg (by simp)]
        rw [if_neg (by decide)]
        refine zw_some ⟨hkm, by rw [hmk], rfl, hz, fun i hi => ?_⟩
        rw [hmk]
        exact hv i hi
      · have hmk : ymg N O (k + 1) = (fun i => if (ymg N O k).1 i = 2 then ycb N k i else (ymg N O k).1 i, (ymg N O k).2 + 1) := by
          rw [ymg, hOk, hag, Bool.true_and, if_pos rfl]
        rw [if_pos (by decide)]
        refine zw_bi (merge_r hn hrg hlg hv (fun _ => ymg_le) hkm (hO k hOk)) ?_
        rintro g2 ⟨q1, q2⟩
        refine zw_some ⟨hkm, ?_, rfl, hz.trans q1, fun i hi => ?_⟩
        · rw [hmk]
        · rw [hmk]
          exact q2 i hi
  · have : k = 2 * yLs N := by omega
    subst this
    simp (disch := omega) only [zg_tr, zb_t, zJ_lt, zJ_le, zJ_inj, zJ_ltl, zJ_lel, zJ_eql, zJ_llt, zJ_lle, zJ_leq, zJ_m1, zJ_m1r, zJ_nle_m1, zJ_m1lt, zJ_add, zJ_al, zJ_mull, zJ_c, zJ_mlr, zJ_cl, zJ_sub, zJ_subl, zJ_neg, zJ_divl, zreml, zshl_1, zshr_J, zushr_J, zJ_and1, if_pos, if_neg, Option.bind_some, zI_eq, zI_ne, zI_nk, zI_2, zL_1, zL_eq, zL_ne, zL_nk, zL_22]
    exact zw_some ⟨rfl, hz, hv⟩
theorem catches_r {h : zH} {N : yN} {O : Nat → Bool} {r : Nat} {v2 : Int32} (hn : yOKn N) (hr : yRN h N) (hl : yLD h (yE N) (ySb N)) (hop : yOp h N O) (hrr : r < 2 ^ yI N) : zw (zit zFU (fun s : Int32 × Int32 × zH => f_Mod_tellProgram_b145 s.2.2 v2 (zJ r) s.1 s.2.1) (0, 0, h)) fun y => y.1 = zJ (fb_ct (fun f => O f && zcg (yE N) (ySb N) (zrw r) (f + 1)) (2 * yLs N)) ∧ zfm [(362, 362, 0, 9999)] h y.2 ∧ yOp y.2 N (fun f => O f && !zcg (yE N) (ySb N) (zrw r) (f + 1)) := by
  obtain ⟨⟨e1, e2, e3, e4⟩, -⟩ := id hn
  have e1' : yI N ≤ 6 := e1
  have e3' : yLs N ≤ yI N + 16 := e3
  have h64 := zpw6 e1'
  refine zw_for (2 * yLs N) (fun k s => s.1 = zJ (fb_ct (fun f => O f && zcg (yE N) (ySb N) (zrw r) (f + 1)) k) ∧ s.2.1 = zJ k ∧ zfm [(362, 362, 0, 9999)] h s.2.2 ∧ ∀ f, f < 2 * yLs N → s.2.2.1 362 f = zbI (if f < k then O f && !zcg (yE N) (ySb N) (zrw r) (f + 1) else O f)) (by omega) ⟨rfl, rfl, zfm.rfl', fun f hf => by rw [if_neg (Nat.not_lt_zero f)]; exact hop f hf⟩ ?_
  rintro k ⟨a, i, g⟩ hk ⟨rfl, rfl, hz, hv⟩
  dsimp only at hz hv ⊢
  have hrg : yRN g N := hr.fr hz (fun a k h1 h2 => zin_n1 (by omega))
  unfold f_Mod_tellProgram_b145
  rw [faults_n hn hrg]
  by_cases hkm : k < 2 * yLs N
  · have hok := hv k hkm
    rw [if_neg (Nat.lt_irrefl k)] at hok
    have ht : g.1 353 (64 * k + r) = zbI (zcg (yE N) (ySb N) (zrw r) (k + 1)) := (hz.i (zin_n1 (by omega))).trans ((hl.1 k hkm).1 r hrr)
    have keep : (O k && !zcg (yE N) (ySb N) (zrw r) (k + 1)) = O k → ∀ f, f < 2 * yLs N → g.1 362 f = zbI (if f < k + 1 then O f && !zcg (yE N) (ySb N) (zrw r) (f + 1) else O f) := by
      intro he f hf
      rw [hv f hf]
      by_cases hfk : f = k
      · subst hfk
        rw [if_neg (Nat.lt_irrefl f), if_pos (Nat.lt_succ_self f), he]
      · by_cases hlt : f < k
        · rw [if_pos hlt, if_pos (by omega)]
        · rw [if_neg hlt, if_neg (by omega)]
    simp (disch := omega) only [zg_tr, zb_t, zJ_lt, zJ_le, zJ_inj, zJ_ltl, zJ_lel, zJ_eql, zJ_llt, zJ_lle, zJ_leq, zJ_m1, zJ_m1r, zJ_nle_m1, zJ_m1lt, zJ_add, zJ_al, zJ_mull, zJ_c, zJ_mlr, zJ_cl, zJ_sub, zJ_subl, zJ_neg, zJ_divl, zreml, zshl_1, zshr_J, zushr_J, zJ_and1, if_pos, if_neg, Option.bind_some, zI_eq, zI_ne, zI_nk, zI_2, zL_1, zL_eq, zL_ne, zL_nk, zL_22, hok]
    rw [fb_ct_succ]
    cases hOk : O k
    · rw [if_pos zbI_f, Bool.false_and, if_neg (by decide)]
      exact zw_some ⟨hkm, rfl, rfl, hz, keep (by rw [hOk]; rfl)⟩
    · rw [if_neg (by decide)]
      simp (disch := omega) only [zg_tr, zb_t, zJ_lt, zJ_le, zJ_inj, zJ_ltl, zJ_lel, zJ_eql, zJ_llt, zJ_lle, zJ_leq, zJ_m1, zJ_m1r, zJ_nle_m1, zJ_m1lt, zJ_add, zJ_al, zJ_mull, zJ_c, zJ_mlr, zJ_cl, zJ_sub, zJ_subl, zJ_neg, zJ_divl, zreml, zshl_1, zshr_J, zushr_J, zJ_and1, if_pos, if_neg, Option.bind_some, zI_eq, zI_ne, zI_nk, zI_2, zL_1, zL_eq, zL_ne, zL_nk, zL_22, ht]
      cases hcc : zcg (yE N) (ySb N) (zrw r) (k + 1)
      · rw [if_neg (by decide), if_neg (by decide)]
        exact zw_some ⟨hkm, rfl, rfl, hz, keep (by rw [hOk, hcc]; rfl)⟩
      · rw [if_pos (by decide), if_pos (by decide)]
        refine zw_some ⟨hkm, rfl, rfl, hz.I (zin_1 (by omega) (by omega) (by omega) (by omega)), fun f hf => ?_⟩
        dsimp only
        by_cases hfk : f = k
        · subst hfk
          rw [zI_eq, if_pos (Nat.lt_succ_self f), hOk, hcc]
          rfl
        · rw [zI_nk hfk, hv f hf]
          by_cases hlt : f < k
          · rw [if_pos hlt, if_pos (by omega)]
          · rw [if_neg hlt, if_neg (by omega)]
  · have : k = 2 * yLs N := by omega
    subst this
    simp (disch := omega) only [zg_tr, zb_t, zJ_lt, zJ_le, zJ_inj, zJ_ltl, zJ_lel, zJ_eql, zJ_llt, zJ_lle, zJ_leq, zJ_m1, zJ_m1r, zJ_nle_m1, zJ_m1lt, zJ_add, zJ_al, zJ_mull, zJ_c, zJ_mlr, zJ_cl, zJ_sub, zJ_subl, zJ_neg, zJ_divl, zreml, zshl_1, zshr_J, zushr_J, zJ_and1, if_pos, if_neg, Option.bind_some, zI_eq, zI_ne, zI_nk, zI_2, zL_1, zL_eq, zL_ne, zL_nk, zL_22]
    refine zw_some ⟨rfl, hz, fun f hf => ?_⟩
    have := hv f hf
    rw [if_pos hf] at this
    exact this
theorem tellProgram_r {h : zH} {N : yN} {dn : Nat → Bool} {fl : Nat} (hn : yOKn N) (hr : yRN h N) (hl : yLD h (yE N) (ySb N)) (hd : ∀ f, f < 44 → h.1 347 (13 + f) = zbI (dn f)) (h3 : h.1 347 3 = zJ fl) (hfl : fl ≤ 2) : zw (f_Mod_tellProgram h) fun g => zfm [(333, 333, 40, 40), (358, 362, 0, 9999)] h g ∧ g.1 333 40 = zJ (ypz N dn fl) ∧ yRP g N dn fl (ypz N dn fl) := by
  obtain ⟨⟨e1, e2, e3, e4⟩, -⟩ := id hn
  have e1' : yI N ≤ 6 := e1
  have e3' : yLs N ≤ yI N + 16 := e3
  unfold f_Mod_tellProgram
  rw [Option.bind_some]
  have q0 : zfm [(333, 333, 40, 40), (358, 362, 0, 9999)] h (zsI h 333 40 0) := zfm.rfl'.I (by rfl)
  have rn : ∀ {g : zH}, zfm [(333, 333, 40, 40), (358, 362, 0, 9999)] h g → yRN g N := fun q => hr.fr q (fun a k h1 h2 => by
    unfold zin
    simp
    omega)
  have ld : ∀ {g : zH}, zfm [(333, 333, 40, 40), (358, 362, 0, 9999)] h g → yLD g (yE N) (ySb N) := fun q => hl.fr q (fun a k h1 h2 => by
    unfold zin
    simp
    omega)
  refine zw_bi (opens_r (fl := fl) (dn := dn) hn (rn q0) (ld q0) (fun f hf => by rw [zI_ne (by omega)]; exact hd f hf)) ?_
  rintro g1 ⟨p1, p2⟩
  have q1 : zfm [(333, 333, 40, 40), (358, 362, 0, 9999)] h g1 := q0.tr p1 rfl
  refine zw_bi (firstOpen_r hn (rn q1) p2) ?_
  intro x0 hx0
  refine zw_bi (P := fun g => zfm [(333, 333, 40, 40), (358, 362, 0, 9999)] h g ∧ g.1 333 40 = zJ (ypz N dn fl) ∧ yRP g N dn fl (ypz N dn fl)) (zw_for 44 (fun k s => ((s.1 = -1 ∧ ∀ f, f < 2 * yLs N → yO N dn fl k f = false) ∨ ∃ f, f < 2 * yLs N ∧ s.1 = zJ f ∧ yO N dn fl k f = true ∧ ∀ j, j < f → yO N dn fl k j = false) ∧ zfm [(333, 333, 40, 40), (358, 362, 0, 9999)] h s.2 ∧ s.2.1 333 40 = zJ k ∧ yOp s.2 N (yO N dn fl k) ∧ yRP s.2 N dn fl k ∧ ∀ t, t < k → zex (yO N dn fl t) (2 * yLs N) = true) (by omega) ⟨hx0, q1, (p1.i (by rfl)).trans zI_eq, p2, fun t ht => by omega, fun t ht => by omega⟩ ?_) (fun y hy => zw_some hy)
  rintro k ⟨v, g⟩ hk ⟨hv, hz, h40, hop, hP, hpr⟩
  dsimp only at hv hz h40 hop hP ⊢
  unfold f_Mod_tellProgram_b58
  rcases hv with ⟨rfl, hcl⟩ | ⟨f, hf, rfl, hOf, hlow⟩
  · rw [if_pos rfl]
    have hs := ypz_eq hn hpr (zex_no.mpr hcl)
    refine zw_some ⟨hz, ?_, ?_⟩
    · rw [hs]
      exact h40
    · rw [hs]
      exact hP
  · have hopk : zex (yO N dn fl k) (2 * yLs N) = true := zex_iff.mpr ⟨f, hf, hOf⟩
    have hb := yO_bound hn k hpr
    have hpos : 0 < fb_ct (yO N dn fl k) (2 * yLs N) := fb_ct_pos.mpr ⟨f, hf, hOf⟩
    have hk44 : k < 44 := by omega
    simp (disch := omega) only [zg_tr, zb_t, zJ_lt, zJ_le, zJ_inj, zJ_ltl, zJ_lel, zJ_eql, zJ_llt, zJ_lle, zJ_leq, zJ_m1, zJ_m1r, zJ_nle_m1, zJ_m1lt, zJ_add, zJ_al, zJ_mull, zJ_c, zJ_mlr, zJ_cl, zJ_sub, zJ_subl, zJ_neg, zJ_divl, zreml, zshl_1, zshr_J, zushr_J, zJ_and1, if_pos, if_neg, Option.bind_some, zI_eq, zI_ne, zI_nk, zI_2, zL_1, zL_eq, zL_ne, zL_nk, zL_22]
    rw [if_neg (fun h => h)]
    refine zw_bi (unmerge_r hn (rn hz)) ?_
    rintro g2 ⟨a1, a2⟩
    have z2 : zfm [(333, 333, 40, 40), (358, 362, 0, 9999)] h g2 := hz.tr a1 rfl
    have hop2 : yOp g2 N (yO N dn fl k) := fun f hf => (a1.i (by rfl)).trans (hop f hf)
    refine zw_bi (merges_r hn (rn z2) (ld z2) a2 hop2 (fun f hf => (yO_lt hf).2) hf hlow) ?_
    rintro ⟨b, g3⟩ ⟨rfl, b1, b2⟩
    dsimp only at b1 b2 ⊢
    have z3 : zfm [(333, 333, 40, 40), (358, 362, 0, 9999)] h g3 := z2.tr b1 rfl
    refine zw_bi (filled_r (m := (ymg N (yO N dn fl k) (2 * yLs N)).1) hn (rn z3) b2 (fun _ => ymg_le) hfl ((z3.i (by rfl)).trans h3)) ?_
    rintro ⟨c, g4⟩ ⟨rfl, c1⟩
    dsimp only at c1 ⊢
    have z4 : zfm [(333, 333, 40, 40), (358, 362, 0, 9999)] h g4 := z3.tr c1 rfl
    have hrow : yrn (yfl N (ymg N (yO N dn fl k) (2 * yLs N)).1 fl) (yI N) = ypt N dn fl k := rfl
    rw [hrow]
    have hrl : ypt N dn fl k < 2 ^ yI N := ypr_lt
    have hop4 : yOp g4 N (yO N dn fl k) := fun f hf => (c1.i (by rfl)).trans ((b1.i (by rfl)).trans (hop2 f hf))
    refine zw_bi (catches_r hn (rn z4) (ld z4) hop4 hrl) ?_
    rintro ⟨d, g5⟩ ⟨rfl, d1, d2⟩
    dsimp only at d1 d2 ⊢
    have z5 : zfm [(333, 333, 40, 40), (358, 362, 0, 9999)] h g5 := z4.tr d1 rfl
    have r40 : g5.1 333 40 = zJ k := (d1.i (by rfl)).trans ((c1.i (by rfl)).trans ((b1.i (by rfl)).trans ((a1.i (by rfl)).trans h40)))
    simp (disch := omega) only [zg_tr, zb_t, zJ_lt, zJ_le, zJ_inj, zJ_ltl, zJ_lel, zJ_eql, zJ_llt, zJ_lle, zJ_leq, zJ_m1, zJ_m1r, zJ_nle_m1, zJ_m1lt, zJ_add, zJ_al, zJ_mull, zJ_c, zJ_mlr, zJ_cl, zJ_sub, zJ_subl, zJ_neg, zJ_divl, zreml, zshl_1, zshr_J, zushr_J, zJ_and1, if_pos, if_neg, Option.bind_some, zI_eq, zI_ne, zI_nk, zI_2, zL_1, zL_eq, zL_ne, zL_nk, zL_22, r40]
    have z6 : zfm [(333, 333, 40, 40), (358, 362, 0, 9999)] h (zsI (zsI (zsI (zsI g5 359 k (zJ (ypt N dn fl k))) 360 k (zJ (fb_ct (fun f => yO N dn fl k f && zcg (yE N) (ySb N) (zrw (ypt N dn fl k)) (f + 1)) (2 * yLs N)))) 361 k (zJ (ymg N (yO N dn fl k) (2 * yLs N)).2)) 333 40 (zJ (k + 1))) := (((z5.I (zin_2 (zin_1 (by omega) (by omega) (by omega) (by omega)))).I (zin_2 (zin_1 (by omega) (by omega) (by omega) (by omega)))).I (zin_2 (zin_1 (by omega) (by omega) (by omega) (by omega)))).I (by rfl)
    have hop6 : yOp (zsI (zsI (zsI (zsI g5 359 k (zJ (ypt N dn fl k))) 360 k (zJ (fb_ct (fun f => yO N dn fl k f && zcg (yE N) (ySb N) (zrw (ypt N dn fl k)) (f + 1)) (2 * yLs N)))) 361 k (zJ (ymg N (yO N dn fl k) (2 * yLs N)).2)) 333 40 (zJ (k + 1))) N (yO N dn fl (k + 1)) := fun f hf => by
      simp (disch := omega) only [zg_tr, zb_t, zJ_lt, zJ_le, zJ_inj, zJ_ltl, zJ_lel, zJ_eql, zJ_llt, zJ_lle, zJ_leq, zJ_m1, zJ_m1r, zJ_nle_m1, zJ_m1lt, zJ_add, zJ_al, zJ_mull, zJ_c, zJ_mlr, zJ_cl, zJ_sub, zJ_subl, zJ_neg, zJ_divl, zreml, zshl_1, zshr_J, zushr_J, zJ_and1, if_pos, if_neg, Option.bind_some, zI_eq, zI_ne, zI_nk, zI_2, zL_1, zL_eq, zL_ne, zL_nk, zL_22]
      exact d2 f hf
    refine zw_bi (firstOpen_r hn (rn z6) hop6) ?_
    intro x hx
    refine zw_some ⟨hk44, hx, z6, zI_eq, hop6, fun t ht => ?_, fun t ht => ?_⟩
    · dsimp only
      by_cases htk : t = k
      · subst htk
        simp (disch := omega) only [zg_tr, zb_t, zJ_lt, zJ_le, zJ_inj, zJ_ltl, zJ_lel, zJ_eql, zJ_llt, zJ_lle, zJ_leq, zJ_m1, zJ_m1r, zJ_nle_m1, zJ_m1lt, zJ_add, zJ_al, zJ_mull, zJ_c, zJ_mlr, zJ_cl, zJ_sub, zJ_subl, zJ_neg, zJ_divl, zreml, zshl_1, zshr_J, zushr_J, zJ_and1, if_pos, if_neg, Option.bind_some, zI_eq, zI_ne, zI_nk, zI_2, zL_1, zL_eq, zL_ne, zL_nk, zL_22]
        refine ⟨?_, ?_, ?_⟩ <;> first | trivial | rfl
      · simp (disch := omega) only [zg_tr, zb_t, zJ_lt, zJ_le, zJ_inj, zJ_ltl, zJ_lel, zJ_eql, zJ_llt, zJ_lle, zJ_leq, zJ_m1, zJ_m1r, zJ_nle_m1, zJ_m1lt, zJ_add, zJ_al, zJ_mull, zJ_c, zJ_mlr, zJ_cl, zJ_sub, zJ_subl, zJ_neg, zJ_divl, zreml, zshl_1, zshr_J, zushr_J, zJ_and1, if_pos, if_neg, Option.bind_some, zI_eq, zI_ne, zI_nk, zI_2, zL_1, zL_eq, zL_ne, zL_nk, zL_22]
        rw [d1.ir (o := 359) (fun _ => rfl), d1.ir (o := 360) (fun _ => rfl), d1.ir (o := 361) (fun _ => rfl), c1.ir (o := 359) (fun _ => rfl), c1.ir (o := 360) (fun _ => rfl), c1.ir (o := 361) (fun _ => rfl), b1.ir (o := 359) (fun _ => rfl), b1.ir (o := 360) (fun _ => rfl), b1.ir (o := 361) (fun _ => rfl), a1.ir (o := 359) (fun _ => rfl), a1.ir (o := 360) (fun _ => rfl), a1.ir (o := 361) (fun _ => rfl)]
        exact hP t (by omega)
    · by_cases htk : t = k
      · subst htk
        exact hopk
      · exact hpr t (by omega)
