/-! ===== the class: all that follows from a net ===== -/
def yfb (e : zEv) (sb : Nat → Bool) (f m : Nat) : Nat := if 0 < zct e sb f (2 ^ e.1) then ybs e sb f m else 0
def yCT (g : zH) (e : zEv) (sb : Nat → Bool) (M : Nat → Nat) : Prop := ∀ f, f < 2 * e.2.1 → yBC g e.1 (yfb e sb f (M f)) f
theorem isLost_c {h : zH} {e : zEv} {sb : Nat → Bool} {f N : Nat} (hT : yTS h e sb N) (hf : f < N) (hN : N ≤ 44) : f_Catalog_isLost h (zJ f) = some (zbI (!decide (0 < zct e sb f (2 ^ e.1)))) := by
  unfold f_Catalog_isLost
  rw [ybitL (by omega), hT.2 f (by omega)]
  by_cases h0 : 0 < zct e sb f (2 ^ e.1)
  · simp only [h0, hf, decide_true, Bool.and_true, if_true]
    rfl
  · simp only [h0, decide_false, Bool.and_false]
    rfl
theorem cubesBatch_c {g0 : zH} {e : zEv} {sb : Nat → Bool} {o1 F : Nat} (he : zEok e) (hc : zCE g0 o1 e) (hs : yCS g0 o1 e.2.1 sb) (ho : o1 + 28 ≤ 74) (h0 : g0.1 74 0 = zJ (2 * e.2.1)) (h2 : g0.1 74 2 = zJ (3 ^ e.1)) (hTS : yTS g0 e sb (2 * e.2.1)) (hT : yRT g0 e.1 (3 ^ e.1)) (hF : F < 3 ^ e.1)
    (hw : ∀ r, r < 64 → F + r < 3 ^ e.1 → yWv g0 132 e (ydg e.1 (F + r)) r) (hb : ∀ r, r < 64 → F + r < 3 ^ e.1 → ∀ l, l < e.2.1 → yBV g0 127 r l (zvl e (ydg e.1 (F + r)) 0 l)) (hC : yCT g0 e sb (fun _ => F)) :
    zw (zit zFU (fun s : Int32 × zH => f_Catalog_findCubes_b68 o1 s.2 (zJ F) s.1) (0, g0)) fun g => zfm [(122, 124, 0, 9999), (135, 136, 0, 9999)] g0 g ∧ yCT g e sb (fun _ => min (3 ^ e.1) (F + 64)) := by
  obtain ⟨e1, e2, e3, e4⟩ := id he
  have h729 := zpw3 e1
  refine zw_for (2 * e.2.1) (fun k s => s.1 = zJ k ∧ zfm [(122, 124, 0, 9999), (135, 136, 0, 9999)] g0 s.2 ∧ yCT s.2 e sb (fun f => if f < k then min (3 ^ e.1) (F + 64) else F)) (by omega) ⟨rfl, zfm.rfl', fun f hf => hC f hf⟩ ?_
  rintro k ⟨i, g⟩ hk ⟨rfl, hz, hv⟩
  dsimp only at hz hv ⊢
  have hcg : zCE g o1 e := hc.fr he hz (fun a k h1 h2 => by
    unfold zin
    simp
    omega)
  have hsg : yCS g o1 e.2.1 sb := hs.fr hz (fun k => by
    unfold zin
    simp
    omega)
  have r0 : g.1 74 0 = zJ (2 * e.2.1) := (hz.i (by rfl)).trans h0
  have r2 : g.1 74 2 = zJ (3 ^ e.1) := (hz.i (by rfl)).trans h2
  have hTSg : yTS g e sb (2 * e.2.1) := by
    unfold yTS
    rw [hz.lr (o := 121) (fun _ => rfl), hz.l (o := 74) (k := 3) rfl]
    exact hTS
  have hTg : yRT g e.1 (3 ^ e.1) := by
    unfold yRT
    rw [hz.ir (o := 125) (fun _ => rfl), hz.ir (o := 126) (fun _ => rfl)]
    exact hT
  unfold f_Catalog_findCubes_b68
  by_cases hkm : k < 2 * e.2.1
  · have hvk := hv k hkm
    simp only [Nat.lt_irrefl, if_false] at hvk
    have stp : ∀ g' : zH, zfm [(122, 124, k, k), (135, 136, 0, 9999)] g g' → yBC g' e.1 (yfb e sb k (min (3 ^ e.1) (F + 64))) k → yCT g' e sb (fun f => if f < k + 1 then min (3 ^ e.1) (F + 64) else F) := by
      intro g' hq hn f hf
      dsimp only
      by_cases hfk : f = k
      · subst hfk
        rw [if_pos (Nat.lt_succ_self f)]
        exact hn
      · have ec : (if f < k + 1 then min (3 ^ e.1) (F + 64) else F) = if f < k then min (3 ^ e.1) (F + 64) else F := by
          by_cases hh : f < k
          · rw [if_pos hh, if_pos (by omega)]
          · rw [if_neg hh, if_neg (by omega)]
        rw [ec]
        have := hv f hf
        dsimp only at this
        unfold yBC at this ⊢
        have z1 : ∀ o, 122 ≤ o → o ≤ 124 → zin [(122, 124, k, k), (135, 136, 0, 9999)] o f = false := by
          intro o h1 h2
          cases hzz : zin [(122, 124, k, k), (135, 136, 0, 9999)] o f
          · rfl
          · unfold zin at hzz
            simp at hzz
            omega
        rw [hq.i (z1 124 (by omega) (by omega)), hq.i (z1 122 (by omega) (by omega)), hq.i (z1 123 (by omega) (by omega)), hq.ir (o := 125) (fun _ => rfl), hq.ir (o := 126) (fun _ => rfl)]
        exact this
    have hsub : ∀ g' : zH, zfm [(122, 124, k, k), (135, 136, 0, 9999)] g g' → zfm [(122, 124, 0, 9999), (135, 136, 0, 9999)] g g' := fun g' hq => hq.sub' (fun o j hz => by
      unfold zin at hz ⊢
      simp at hz ⊢
      omega)
    simp (disch := omega) only [zg_tr, zb_t, zJ_lt, zJ_le, zJ_inj, zJ_ltl, zJ_lel, zJ_eql, zJ_llt, zJ_lle, zJ_leq, zJ_m1, zJ_m1r, zJ_nle_m1, zJ_m1lt, zJ_add, zJ_al, zJ_mull, zJ_c, zJ_mlr, zJ_cl, zJ_sub, zJ_subl, zJ_neg, zJ_divl, zreml, zshl_1, zshr_J, zushr_J, zJ_and1, if_pos, if_neg, Option.bind_some, zI_eq, zI_ne, zI_nk, zI_2, zL_1, zL_eq, zL_ne, zL_nk, zL_22, r0, isLost_c hTSg hkm (by omega)]
    by_cases h0 : 0 < zct e sb k (2 ^ e.1)
    · rw [decide_eq_true h0]
      rw [if_neg (by decide)]
      refine zw_bi (spread_c (o := 132) (f := k + 1) he hcg (by omega) (by omega)) ?_
      rintro g1 ⟨p1, p2⟩
      have hcg1 : zCE g1 o1 e := hcg.fr he p1 (fun a k h1 h2 => zin_n1 (by omega))
      have hsg1 : yCS g1 o1 e.2.1 sb := hsg.fr p1 (fun k => zin_n1 (by omega))
      refine zw_bi (tellApart_c (o := 127) (o1 := 132) (f := k + 1) he hcg1 hsg1) ?_
      intro x hx
      have hx2 : ∀ r, r < 64 → F + r < 3 ^ e.1 → zBl x r = zcg e sb (ydg e.1 (F + r)) (k + 1) := by
        intro r hr hq
        refine hx r (ydg e.1 (F + r)) (fun i _ => ydg_le) (fun l hl => ?_) (p2 r _ hr ?_)
        · have := hb r hr hq l hl
          unfold yBV at this ⊢
          rw [p1.l (by rfl), p1.l (by rfl), hz.l (by rfl), hz.l (by rfl)]
          exact this
        · intro i hi
          rw [hz.l (by rfl), hz.l (by rfl)]
          exact hw r hr hq i hi
      have hbk : yBC g1 e.1 (ybs e sb k F) k := by
        unfold yfb at hvk
        rw [if_pos h0] at hvk
        unfold yBC at hvk ⊢
        rw [p1.i (by rfl), p1.i (by rfl), p1.i (by rfl), p1.ir (o := 125) (fun _ => rfl), p1.ir (o := 126) (fun _ => rfl)]
        exact hvk
      have hTg1 : yRT g1 e.1 (3 ^ e.1) := by
        unfold yRT
        rw [p1.ir (o := 125) (fun _ => rfl), p1.ir (o := 126) (fun _ => rfl)]
        exact hTg
      refine zw_bi (improve_c he (by omega) h729.2 hF hTg1 ((p1.i (by rfl)).trans r2) hx2 hbk) ?_
      rintro g2 ⟨p3, p4⟩
      have p5 : zfm [(122, 124, k, k), (135, 136, 0, 9999)] g g2 := (p1.sub' (fun o j hz => zin_2 hz)).trans (p3.sub' (fun o j hz => by
        unfold zin at hz ⊢
        simp at hz ⊢
        omega))
      refine zw_some ⟨hkm, rfl, hz.trans (hsub _ p5), stp g2 p5 ?_⟩
      unfold yfb
      rw [if_pos h0]
      exact p4
    · rw [decide_eq_false h0]
      rw [if_pos (by decide)]
      refine zw_some ⟨hkm, rfl, hz, stp g zfm.rfl' ?_⟩
      unfold yfb at hvk ⊢
      rw [if_neg h0] at hvk ⊢
      exact hvk
  · have : k = 2 * e.2.1 := by omega
    subst this
    simp (disch := omega) only [zg_tr, zb_t, zJ_lt, zJ_le, zJ_inj, zJ_ltl, zJ_lel, zJ_eql, zJ_llt, zJ_lle, zJ_leq, zJ_m1, zJ_m1r, zJ_nle_m1, zJ_m1lt, zJ_add, zJ_al, zJ_mull, zJ_c, zJ_mlr, zJ_cl, zJ_sub, zJ_subl, zJ_neg, zJ_divl, zreml, zshl_1, zshr_J, zushr_J, zJ_and1, if_pos, if_neg, Option.bind_some, zI_eq, zI_ne, zI_nk, zI_2, zL_1, zL_eq, zL_ne, zL_nk, zL_22, r0]
    refine zw_some ⟨hz, fun f hf => ?_⟩
    have := hv f hf
    simp only [hf, if_true] at this
    exact this
theorem findCubes_c {h : zH} {e : zEv} {sb : Nat → Bool} {o1 : Nat} (he : zEok e) (hc : zCE h o1 e) (hs : yCS h o1 e.2.1 sb) (ho : o1 + 28 ≤ 74) (h0 : h.1 74 0 = zJ (2 * e.2.1)) (h2 : h.1 74 2 = zJ (3 ^ e.1)) (hTS : yTS h e sb (2 * e.2.1)) (hT : yRT h e.1 (3 ^ e.1)) :
    zw (f_Catalog_findCubes o1 h) fun g => zfm [(122, 124, 0, 9999), (128, 136, 0, 9999)] h g ∧ yCT g e sb (fun _ => 3 ^ e.1) := by
  obtain ⟨e1, e2, e3, e4⟩ := id he
  have h729 := zpw3 e1
  unfold f_Catalog_findCubes
  refine zw_bi (P := fun g => zfm [(122, 124, 0, 9999)] h g ∧ ∀ f, f < 2 * e.2.1 → yBC g e.1 0 f) (zw_for (2 * e.2.1) (fun k s => s.1 = zJ k ∧ zfm [(122, 124, 0, 9999)] h s.2 ∧ ∀ f, f < k → yBC s.2 e.1 0 f) (by omega) ⟨rfl, zfm.rfl', fun l hl => by omega⟩ ?_) ?_
  · rintro k ⟨i, g⟩ hk ⟨rfl, hz, hv⟩
    dsimp only at hz hv ⊢
    unfold f_Catalog_findCubes_b2
    have r0 : g.1 74 0 = zJ (2 * e.2.1) := (hz.i (by rfl)).trans h0
    by_cases hkm : k < 2 * e.2.1
    · simp (disch := omega) only [zg_tr, zb_t, zJ_lt, zJ_le, zJ_inj, zJ_ltl, zJ_lel, zJ_eql, zJ_llt, zJ_lle, zJ_leq, zJ_m1, zJ_m1r, zJ_nle_m1, zJ_m1lt, zJ_add, zJ_al, zJ_mull, zJ_c, zJ_mlr, zJ_cl, zJ_sub, zJ_subl, zJ_neg, zJ_divl, zreml, zshl_1, zshr_J, zushr_J, zJ_and1, if_pos, if_neg, Option.bind_some, zI_eq, zI_ne, zI_nk, zI_2, zL_1, zL_eq, zL_ne, zL_nk, zL_22, r0]
      refine zw_some ⟨hkm, rfl, ((hz.I (zin_1 (by omega) (by omega) (by omega) (by omega))).I (zin_1 (by omega) (by omega) (by omega) (by omega))).I (zin_1 (by omega) (by omega) (by omega) (by omega)), fun j hj => ?_⟩
      dsimp only
      unfold yBC yrd ybc
      by_cases hjk : j = k
      · subst hjk
        simp (disch := omega) only [zg_tr, zb_t, zJ_lt, zJ_le, zJ_inj, zJ_ltl, zJ_lel, zJ_eql, zJ_llt, zJ_lle, zJ_leq, zJ_m1, zJ_m1r, zJ_nle_m1, zJ_m1lt, zJ_add, zJ_al, zJ_mull, zJ_c, zJ_mlr, zJ_cl, zJ_sub, zJ_subl, zJ_neg, zJ_divl, zreml, zshl_1, zshr_J, zushr_J, zJ_and1, if_pos, if_neg, Option.bind_some, zI_eq, zI_ne, zI_nk, zI_2, zL_1, zL_eq, zL_ne, zL_nk, zL_22]
        exact ⟨rfl, rfl, rfl⟩
      · simp (disch := omega) only [zg_tr, zb_t, zJ_lt, zJ_le, zJ_inj, zJ_ltl, zJ_lel, zJ_eql, zJ_llt, zJ_lle, zJ_leq, zJ_m1, zJ_m1r, zJ_nle_m1, zJ_m1lt, zJ_add, zJ_al, zJ_mull, zJ_c, zJ_mlr, zJ_cl, zJ_sub, zJ_subl, zJ_neg, zJ_divl, zreml, zshl_1, zshr_J, zushr_J, zJ_and1, if_pos, if_neg, Option.bind_some, zI_eq, zI_ne, zI_nk, zI_2, zL_1, zL_eq, zL_ne, zL_nk, zL_22]
        have := hv j (by omega)
        unfold yBC yrd ybc at this
        exact this
    · have : k = 2 * e.2.1 := by omega
      subst this
      simp (disch := omega) only [zg_tr, zb_t, zJ_lt, zJ_le, zJ_inj, zJ_ltl, zJ_lel, zJ_eql, zJ_llt, zJ_lle, zJ_leq, zJ_m1, zJ_m1r, zJ_nle_m1, zJ_m1lt, zJ_add, zJ_al, zJ_mull, zJ_c, zJ_mlr, zJ_cl, zJ_sub, zJ_subl, zJ_neg, zJ_divl, zreml, zshl_1, zshr_J, zushr_J, zJ_and1, if_pos, if_neg, Option.bind_some, zI_eq, zI_ne, zI_nk, zI_2, zL_1, zL_eq, zL_ne, zL_nk, zL_22, r0]
      exact zw_some ⟨hz, hv⟩
  · rintro g0 ⟨q1, q2⟩
    refine zw_bi (P := fun g => zfm [(122, 124, 0, 9999), (128, 136, 0, 9999)] h g ∧ yCT g e sb (fun _ => 3 ^ e.1)) (zw_for ((3 ^ e.1 + 63) / 64) (fun k s => s.1 = zJ (64 * k) ∧ zfm [(122, 124, 0, 9999), (128, 136, 0, 9999)] h s.2 ∧ yCT s.2 e sb (fun _ => min (3 ^ e.1) (64 * k))) (by omega) ⟨rfl, q1.sub rfl, fun f hf => ?_⟩ ?_) (fun x hx => zw_some hx)
    · have : yfb e sb f (min (3 ^ e.1) (64 * 0)) = 0 := by
        rw [Nat.mul_zero, Nat.min_zero]
        unfold yfb
        split <;> rfl
      dsimp only
      rw [this]
      exact q2 f hf
    rintro k ⟨i, g⟩ hk ⟨rfl, hz, hv⟩
    dsimp only at hz hv ⊢
    have r2 : g.1 74 2 = zJ (3 ^ e.1) := (hz.i (by rfl)).trans h2
    have hcg : zCE g o1 e := hc.fr he hz (fun a k h1 h2 => by
      unfold zin
      simp
      omega)
    have hTg : yRT g e.1 (3 ^ e.1) := by
      unfold yRT
      rw [hz.ir (o := 125) (fun _ => rfl), hz.ir (o := 126) (fun _ => rfl)]
      exact hT
    unfold f_Catalog_findCubes_b40
    by_cases hkm : k < (3 ^ e.1 + 63) / 64
    · have hlt : 64 * k < 3 ^ e.1 := by omega
      simp (disch := omega) only [zg_tr, zb_t, zJ_lt, zJ_le, zJ_inj, zJ_ltl, zJ_lel, zJ_eql, zJ_llt, zJ_lle, zJ_leq, zJ_m1, zJ_m1r, zJ_nle_m1, zJ_m1lt, zJ_add, zJ_al, zJ_mull, zJ_c, zJ_mlr, zJ_cl, zJ_sub, zJ_subl, zJ_neg, zJ_divl, zreml, zshl_1, zshr_J, zushr_J, zJ_and1, if_pos, if_neg, Option.bind_some, zI_eq, zI_ne, zI_nk, zI_2, zL_1, zL_eq, zL_ne, zL_nk, zL_22, r2, hcg.1]
      refine zw_bi (setCubeRows_c he h729.2 hlt hTg r2) ?_
      rintro g1 ⟨p1, p2⟩
      have z1 : zfm [(122, 124, 0, 9999), (128, 136, 0, 9999)] h g1 := hz.tr p1 rfl
      have hcg1 : zCE g1 o1 e := hcg.fr he p1 (fun a k h1 h2 => by
        unfold zin
        simp
        omega)
      refine zw_bi (spread_c (o := 127) (f := 0) he hcg1 (by omega) (by omega)) ?_
      rintro g2 ⟨p3, p4⟩
      have z2 : zfm [(122, 124, 0, 9999), (128, 136, 0, 9999)] h g2 := z1.tr p3 rfl
      have p5 : zfm [(128, 136, 0, 9999)] g g2 := (p1.sub rfl).tr p3 rfl
      have hC2 : yCT g2 e sb (fun _ => 64 * k) := by
        intro f hf
        have := hv f hf
        dsimp only at this ⊢
        rw [show min (3 ^ e.1) (64 * k) = 64 * k by omega] at this
        unfold yBC at this ⊢
        rw [p5.i (by rfl), p5.i (by rfl), p5.i (by rfl), p5.ir (o := 125) (fun _ => rfl), p5.ir (o := 126) (fun _ => rfl)]
        exact this
      refine zw_bi (cubesBatch_c he (hcg1.fr he p3 (fun a k h1 h2 => zin_n1 (by omega))) (hs.fr z2 (fun k => by
          unfold zin
          simp
          omega)) ho ((z2.i (by rfl)).trans h0) ((z2.i (by rfl)).trans h2) (by
          unfold yTS
          rw [z2.lr (o := 121) (fun _ => rfl), z2.l (o := 74) (k := 3) rfl]
          exact hTS) (by
          unfold yRT
          rw [z2.ir (o := 125) (fun _ => rfl), z2.ir (o := 126) (fun _ => rfl)]
          exact hT) hlt (fun r hr hq i hi => by
          rw [p3.l (by rfl), p3.l (by rfl)]
          exact (p2 r hr hq).2 i hi) (fun r hr hq l hl => p4 r _ hr (p2 r hr hq).1 l hl) hC2) ?_
      rintro g3 ⟨p6, p7⟩
      exact zw_some ⟨hkm, rfl, z2.tr p6 rfl, p7⟩
    · have : k = (3 ^ e.1 + 63) / 64 := by omega
      simp (disch := omega) only [zg_tr, zb_t, zJ_lt, zJ_le, zJ_inj, zJ_ltl, zJ_lel, zJ_eql, zJ_llt, zJ_lle, zJ_leq, zJ_m1, zJ_m1r, zJ_nle_m1, zJ_m1lt, zJ_add, zJ_al, zJ_mull, zJ_c, zJ_mlr, zJ_cl, zJ_sub, zJ_subl, zJ_neg, zJ_divl, zreml, zshl_1, zshr_J, zushr_J, zJ_and1, if_pos, if_neg, Option.bind_some, zI_eq, zI_ne, zI_nk, zI_2, zL_1, zL_eq, zL_ne, zL_nk, zL_22, r2]
      refine zw_some ⟨hz, fun f hf => ?_⟩
      have h9 := hv f hf
      dsimp only at h9 ⊢
      rw [show min (3 ^ e.1) (64 * k) = 3 ^ e.1 by omega] at h9
      exact h9
/-- all that follows from a net, in the class -/
def yCAT (g : zH) (e : zEv) (sb : Nat → Bool) : Prop := g.1 74 0 = zJ (2 * e.2.1) ∧ g.1 74 1 = zJ (2 ^ e.1) ∧ g.1 74 2 = zJ (3 ^ e.1) ∧ yTT g e (2 * e.2.1 + 1) ∧ yTS g e sb (2 * e.2.1) ∧ yRT g e.1 (3 ^ e.1) ∧ yCT g e sb (fun _ => 3 ^ e.1)
theorem describe_c {h : zH} {e : zEv} {sb : Nat → Bool} {o1 : Nat} (he : zEok e) (hc : zCE h o1 e) (hs : yCS h o1 e.2.1 sb) (ho : o1 + 28 ≤ 74) : zw (f_Catalog_describe o1 h) fun g => zfm [(74, 136, 0, 9999)] h g ∧ yCAT g e sb := by
  obtain ⟨e1, e2, e3, e4⟩ := id he
  have h64 := zpw6 e1
  unfold f_Catalog_describe
  rw [lines_c he hc]
  simp (disch := omega) only [zg_tr, zb_t, zJ_lt, zJ_le, zJ_inj, zJ_ltl, zJ_lel, zJ_eql, zJ_llt, zJ_lle, zJ_leq, zJ_m1, zJ_m1r, zJ_nle_m1, zJ_m1lt, zJ_add, zJ_al, zJ_mull, zJ_c, zJ_mlr, zJ_cl, zJ_sub, zJ_subl, zJ_neg, zJ_divl, zreml, zshl_1, zshr_J, zushr_J, zJ_and1, if_pos, if_neg, Option.bind_some, zI_eq, zI_ne, zI_nk, zI_2, zL_1, zL_eq, zL_ne, zL_nk, zL_22, hc.1]
  have q0 : zfm [(74, 136, 0, 9999)] h (zsI (zsI h 74 0 (zJ (2 * e.2.1))) 74 1 (zJ (2 ^ e.1))) := (zfm.rfl'.I (by rfl)).I (by rfl)
  have q00 : zfm [(74, 74, 0, 1)] h (zsI (zsI h 74 0 (zJ (2 * e.2.1))) 74 1 (zJ (2 ^ e.1))) := (zfm.rfl'.I (by rfl)).I (by rfl)
  have d : ∀ a k : Nat, o1 ≤ a → a ≤ o1 + 27 → zin [(74, 136, 0, 9999)] a k = false := fun a k h1 h2 => zin_n1 (by omega)
  have fs : ∀ {g g' : zH} {L}, zfm L g g' → zsubL L [(74, 136, 0, 9999)] = true → zfm [(74, 136, 0, 9999)] h g → zfm [(74, 136, 0, 9999)] h g' := fun q hL hq => hq.tr q hL
  have hs0 : ∀ {g : zH}, zfm [(74, 136, 0, 9999)] h g → yCS g o1 e.2.1 sb := fun q => hs.fr q (fun k => zin_n1 (by omega))
  have hc0 : ∀ {g : zH}, zfm [(74, 136, 0, 9999)] h g → zCE g o1 e := fun q => hc.fr he q d
  have r1 : (zsI (zsI h 74 0 (zJ (2 * e.2.1))) 74 1 (zJ (2 ^ e.1))).1 74 0 = zJ (2 * e.2.1) := by simp (disch := omega) only [zg_tr, zb_t, zJ_lt, zJ_le, zJ_inj, zJ_ltl, zJ_lel, zJ_eql, zJ_llt, zJ_lle, zJ_leq, zJ_m1, zJ_m1r, zJ_nle_m1, zJ_m1lt, zJ_add, zJ_al, zJ_mull, zJ_c, zJ_mlr, zJ_cl, zJ_sub, zJ_subl, zJ_neg, zJ_divl, zreml, zshl_1, zshr_J, zushr_J, zJ_and1, if_pos, if_neg, Option.bind_some, zI_eq, zI_ne, zI_nk, zI_2, zL_1, zL_eq, zL_ne, zL_nk, zL_22]
  have r2 : (zsI (zsI h 74 0 (zJ (2 * e.2.1))) 74 1 (zJ (2 ^ e.1))).1 74 1 = zJ (2 ^ e.1) := by simp (disch := omega) only [zg_tr, zb_t, zJ_lt, zJ_le, zJ_inj, zJ_ltl, zJ_lel, zJ_eql, zJ_llt, zJ_lle, zJ_leq, zJ_m1, zJ_m1r, zJ_nle_m1, zJ_m1lt, zJ_add, zJ_al, zJ_mull, zJ_c, zJ_mlr, zJ_cl, zJ_sub, zJ_subl, zJ_neg, zJ_divl, zreml, zshl_1, zshr_J, zushr_J, zJ_and1, if_pos, if_neg, Option.bind_some, zI_eq, zI_ne, zI_nk, zI_2, zL_1, zL_eq, zL_ne, zL_nk, zL_22]
  refine zw_bi (tellAll_c he (hc0 q0) ho r2 r1) ?_
  rintro g1 ⟨a1, a2⟩
  have q1 := fs a1 rfl q0
  refine zw_bi (findTests_c he (hc0 q1) (hs0 q1) ho a2 ((a1.i (by rfl)).trans r1)) ?_
  rintro g2 ⟨b1, b2⟩
  have q2 := fs b1 rfl q1
  have r0 : g2.1 o1 0 = zJ e.1 := (hc0 q2).1
  rw [r0]
  refine zw_bi (listCubeRows_c e1) ?_
  rintro g3 ⟨c1, c2, c3⟩
  have q3 := fs c1 rfl q2
  have t0 : g3.1 74 0 = zJ (2 * e.2.1) := (c1.i (by rfl)).trans ((b1.i (by rfl)).trans ((a1.i (by rfl)).trans r1))
  have ts3 : yTS g3 e sb (2 * e.2.1) := by
    unfold yTS
    rw [c1.lr (o := 121) (fun _ => rfl), c1.l (o := 74) (k := 3) rfl]
    exact b2
  refine zw_bi (findCubes_c he (hc0 q3) (hs0 q3) ho t0 c2 ts3 c3) ?_
  rintro g4 ⟨d1, d2⟩
  refine zw_some ⟨fs d1 rfl q3, (d1.i (by rfl)).trans t0, (d1.i (by rfl)).trans ((c1.i (by rfl)).trans ((b1.i (by rfl)).trans ((a1.i (by rfl)).trans r2))), (d1.i (by rfl)).trans c2, fun f hf l hl r hr => ?_, ?_, ?_, d2⟩
  · have z : ∀ L, zsubL L [(74, 74, 0, 9999), (121, 136, 0, 9999)] = true → zin L (75 + (1 + 1 * f)) l = false := by
      intro L hL
      cases hz : zin L (75 + (1 + 1 * f)) l
      · rfl
      · have := zsubL_s hL _ _ hz
        unfold zin at this
        simp at this
        omega
    rw [d1.l (z _ rfl), c1.l (z _ rfl), b1.l (z _ rfl)]
    exact a2 f hf l hl r hr
  · unfold yTS
    rw [d1.lr (o := 121) (fun _ => rfl), d1.l (o := 74) (k := 3) rfl]
    exact ts3
  · unfold yRT
    rw [d1.ir (o := 125) (fun _ => rfl), d1.ir (o := 126) (fun _ => rfl)]
    exact c3
