/-! ===== the class: told, tests ===== -/
/-- one row of what is told -/
theorem toldRow_c {g0 : zH} {e : zEv} {o1 f : Nat} (he : zEok e) (hc : zCE g0 o1 e) (ho : o1 + 28 ≤ 74) (hf : f ≤ 44) (hr : g0.1 74 1 = zJ (2 ^ e.1)) :
    zw (zit zFU (fun s : Int32 × zH => f_Catalog_tellAll_b66 o1 s.2 (zfj f) s.1) (0, g0)) fun g => zfm [(75 + (1 + 1 * f), 75 + (1 + 1 * f), 0, 9999)] g0 g ∧ ∀ l, l < e.2.1 → g.2.1 (75 + (1 + 1 * f)) l = g0.2.1 135 l &&& yAR e.1 := by
  obtain ⟨e1, e2, e3, e4⟩ := id he
  refine zw_for e.2.1 (fun k s => s.1 = zJ k ∧ zfm [(75 + (1 + 1 * f), 75 + (1 + 1 * f), 0, 9999)] g0 s.2 ∧ ∀ l, l < k → s.2.2.1 (75 + (1 + 1 * f)) l = g0.2.1 135 l &&& yAR e.1) (by omega) ⟨rfl, zfm.rfl', fun l hl => by omega⟩ ?_
  rintro k ⟨i, g⟩ hk ⟨rfl, hz, hv⟩
  dsimp only at hz hv ⊢
  have hcg : zCE g o1 e := hc.fr he hz (fun a k h1 h2 => zin_n1 (by omega))
  unfold f_Catalog_tellAll_b66
  rw [lines_c he hcg, allRows_c ((hz.i (zin_n1 (by omega))).trans hr) e1]
  by_cases hkm : k < e.2.1
  · simp (disch := omega) only [zg_tr, zb_t, zJ_lt, zJ_le, zJ_inj, zJ_ltl, zJ_lel, zJ_eql, zJ_llt, zJ_lle, zJ_leq, zJ_m1, zJ_m1r, zJ_nle_m1, zJ_m1lt, zJ_add, zJ_al, zJ_mull, zJ_c, zJ_mlr, zJ_cl, zJ_sub, zJ_subl, zJ_neg, zJ_divl, zreml, zshl_1, zshr_J, zushr_J, zJ_and1, if_pos, if_neg, Option.bind_some, zI_eq, zI_ne, zI_nk, zI_2, zL_1, zL_eq, zL_ne, zL_nk, zL_22, zfj_1]
    refine zw_some ⟨hkm, rfl, hz.Lg (zin_1 (by omega) (by omega) (by omega) (by omega)), fun j hj => ?_⟩
    dsimp only
    by_cases hjk : j = k
    · subst hjk
      rw [zL_eq, hz.l (zin_n1 (by omega))]
    · rw [zL_nk hjk, hv j (by omega)]
  · have : k = e.2.1 := by omega
    subst this
    simp (disch := omega) only [zg_tr, zb_t, zJ_lt, zJ_le, zJ_inj, zJ_ltl, zJ_lel, zJ_eql, zJ_llt, zJ_lle, zJ_leq, zJ_m1, zJ_m1r, zJ_nle_m1, zJ_m1lt, zJ_add, zJ_al, zJ_mull, zJ_c, zJ_mlr, zJ_cl, zJ_sub, zJ_subl, zJ_neg, zJ_divl, zreml, zshl_1, zshr_J, zushr_J, zJ_and1, if_pos, if_neg, Option.bind_some, zI_eq, zI_ne, zI_nk, zI_2, zL_1, zL_eq, zL_ne, zL_nk, zL_22]
    exact zw_some ⟨hz, hv⟩
theorem tellAll_c {h : zH} {e : zEv} {o1 : Nat} (he : zEok e) (hc : zCE h o1 e) (ho : o1 + 28 ≤ 74) (hr : h.1 74 1 = zJ (2 ^ e.1)) (hff : h.1 74 0 = zJ (2 * e.2.1)) : zw (f_Catalog_tellAll o1 h) fun g => zfm [(76, 120, 0, 9999), (133, 136, 0, 9999)] h g ∧ yTT g e (2 * e.2.1 + 1) := by
  obtain ⟨e1, e2, e3, e4⟩ := id he
  unfold f_Catalog_tellAll
  refine zw_bi unset_c ?_
  rintro g1 ⟨q1, q2⟩
  refine zw_bi (P := fun g => zfm [(133, 134, 0, 9999)] h g ∧ ∀ r, r < 64 → yWv g 132 e (zrw r) r) (zw_for e.1 (fun k s => s.1 = zJ k ∧ zfm [(133, 134, 0, 9999)] h s.2 ∧ ∀ i, i < 6 → s.2.2.1 133 i = (if i < k then zrows i else 0) ∧ s.2.2.1 134 i = if i < k then zrows i ^^^ (-1) else 0) (by omega) ⟨rfl, q1, fun i hi => by rw [if_neg (Nat.not_lt_zero i), if_neg (Nat.not_lt_zero i)]; exact q2 i hi⟩ ?_) ?_
  · rintro k ⟨i, g⟩ hk ⟨rfl, hz, hv⟩
    dsimp only at hz hv ⊢
    unfold f_Catalog_tellAll_b9
    by_cases hkm : k < e.1
    · have r0 : g.1 o1 0 = zJ e.1 := (hz.i (zin_n1 (by omega))).trans hc.1
      obtain ⟨v1, v2⟩ := hv k (by omega)
      rw [if_neg (Nat.lt_irrefl k)] at v1 v2
      simp (disch := omega) only [zg_tr, zb_t, zJ_lt, zJ_le, zJ_inj, zJ_ltl, zJ_lel, zJ_eql, zJ_llt, zJ_lle, zJ_leq, zJ_m1, zJ_m1r, zJ_nle_m1, zJ_m1lt, zJ_add, zJ_al, zJ_mull, zJ_c, zJ_mlr, zJ_cl, zJ_sub, zJ_subl, zJ_neg, zJ_divl, zreml, zshl_1, zshr_J, zushr_J, zJ_and1, if_pos, if_neg, Option.bind_some, zI_eq, zI_ne, zI_nk, zI_2, zL_1, zL_eq, zL_ne, zL_nk, zL_22, r0, setInput_c, v1, v2]
      refine zw_some ⟨hkm, rfl, (hz.Lg (zin_1 (by omega) (by omega) (by omega) (by omega))).Lg (zin_1 (by omega) (by omega) (by omega) (by omega)), fun j hj => ?_⟩
      dsimp only
      by_cases hjk : j = k
      · subst hjk
        rw [zL_ne (by omega), zL_eq, zL_eq, if_pos (Nat.lt_succ_self j), if_pos (Nat.lt_succ_self j)]
        exact ⟨Int64.zero_or, Int64.zero_or⟩
      · rw [zL_ne (by omega), zL_nk hjk, zL_nk hjk, zL_ne (by omega)]
        obtain ⟨w1, w2⟩ := hv j hj
        rw [w1, w2]
        by_cases hlt : j < k
        · rw [if_pos hlt, if_pos (by omega), if_pos hlt, if_pos (by omega)]
          exact ⟨rfl, rfl⟩
        · rw [if_neg hlt, if_neg (by omega), if_neg hlt, if_neg (by omega)]
          exact ⟨rfl, rfl⟩
    · have r0 : g.1 o1 0 = zJ e.1 := (hz.i (zin_n1 (by omega))).trans hc.1
      have : k = e.1 := by omega
      subst this
      simp (disch := omega) only [zg_tr, zb_t, zJ_lt, zJ_le, zJ_inj, zJ_ltl, zJ_lel, zJ_eql, zJ_llt, zJ_lle, zJ_leq, zJ_m1, zJ_m1r, zJ_nle_m1, zJ_m1lt, zJ_add, zJ_al, zJ_mull, zJ_c, zJ_mlr, zJ_cl, zJ_sub, zJ_subl, zJ_neg, zJ_divl, zreml, zshl_1, zshr_J, zushr_J, zJ_and1, if_pos, if_neg, Option.bind_some, zI_eq, zI_ne, zI_nk, zI_2, zL_1, zL_eq, zL_ne, zL_nk, zL_22, r0]
      refine zw_some ⟨hz, fun r hr i hi => ?_⟩
      obtain ⟨v1, v2⟩ := hv i (by omega)
      rw [v1, v2, if_pos hi, if_pos hi, zBl_xor, zBl_m1 hr, zrows_bit i (by omega) r hr]
      refine ⟨rfl, ?_, zrw_le⟩
      unfold zrw
      rcases Nat.mod_two_eq_zero_or_one (r / 2 ^ i) with hm | hm <;> rw [hm] <;> rfl
  · rintro g2 ⟨q3, q4⟩
    refine zw_bi (P := fun g => zfm [(76, 120, 0, 9999), (133, 136, 0, 9999)] h g ∧ yTT g e (2 * e.2.1 + 1)) (zw_for (2 * e.2.1 + 1) (fun k s => s.1 = zfj k ∧ zfm [(76, 120, 0, 9999), (135, 136, 0, 9999)] g2 s.2 ∧ yTT s.2 e k) (by omega) ⟨rfl, zfm.rfl', fun l hl => by omega⟩ ?_) (fun x hx => zw_some hx)
    rintro k ⟨i, g⟩ hk ⟨rfl, hz, hv⟩
    dsimp only at hz hv ⊢
    unfold f_Catalog_tellAll_b47
    have hzh : zfm [(76, 120, 0, 9999), (133, 136, 0, 9999)] h g := (q3.sub rfl).tr hz rfl
    have r1 : g.1 74 0 = zJ (2 * e.2.1) := (hzh.i (by rfl)).trans hff
    have hcg : zCE g o1 e := hc.fr he hzh (fun a k h1 h2 => by
      unfold zin
      simp
      omega)
    by_cases hkm : k < 2 * e.2.1 + 1
    · have hcond : ¬ zJ (2 * e.2.1) ≤ zfj k := by
        cases k with
        | zero =>
          rw [zfj_0]
          simp (disch := omega) only [zg_tr, zb_t, zJ_lt, zJ_le, zJ_inj, zJ_ltl, zJ_lel, zJ_eql, zJ_llt, zJ_lle, zJ_leq, zJ_m1, zJ_m1r, zJ_nle_m1, zJ_m1lt, zJ_add, zJ_al, zJ_mull, zJ_c, zJ_mlr, zJ_cl, zJ_sub, zJ_subl, zJ_neg, zJ_divl, zreml, zshl_1, zshr_J, zushr_J, zJ_and1, if_pos, if_neg, Option.bind_some, zI_eq, zI_ne, zI_nk, zI_2, zL_1, zL_eq, zL_ne, zL_nk, zL_22]
          exact fun h => h
        | succ k =>
          rw [zfj_s]
          simp (disch := omega) only [zg_tr, zb_t, zJ_lt, zJ_le, zJ_inj, zJ_ltl, zJ_lel, zJ_eql, zJ_llt, zJ_lle, zJ_leq, zJ_m1, zJ_m1r, zJ_nle_m1, zJ_m1lt, zJ_add, zJ_al, zJ_mull, zJ_c, zJ_mlr, zJ_cl, zJ_sub, zJ_subl, zJ_neg, zJ_divl, zreml, zshl_1, zshr_J, zushr_J, zJ_and1, if_pos, if_neg, Option.bind_some, zI_eq, zI_ne, zI_nk, zI_2, zL_1, zL_eq, zL_ne, zL_nk, zL_22]
          omega
      rw [r1, if_neg hcond]
      refine zw_bi (spread_c (o := 132) he hcg (by omega) (by omega)) ?_
      rintro g3 ⟨p1, p2⟩
      have hcg3 : zCE g3 o1 e := hcg.fr he p1 (fun a k h1 h2 => zin_n1 (by omega))
      refine zw_bi (toldRow_c he hcg3 ho (by omega) ((p1.i (zin_n1 (by omega))).trans ((hzh.i (by rfl)).trans hr))) ?_
      rintro g4 ⟨p3, p4⟩
      have p3' : zfm [(76, 120, 0, 9999)] g3 g4 := p3.sub' (fun o j hz => by
        unfold zin at hz ⊢
        simp at hz ⊢
        omega)
      have p5 : zfm [(76, 120, 0, 9999), (135, 136, 0, 9999)] g g4 := (p1.sub rfl).tr p3' rfl
      refine zw_some ⟨hkm, zfj_1, hz.trans p5, fun f hf l hl r hr => ?_⟩
      dsimp only
      by_cases hfk : f = k
      · subst hfk
        rw [p4 l hl, zBl_and, yAR_bit _ (by omega) r hr]
        have hw : yWv g 132 e (zrw r) r := by
          intro i hi
          rw [hz.l (by rfl), hz.l (by rfl)]
          exact q4 r hr i hi
        have := p2 r (zrw r) hr hw l hl
        rw [this.1, Bool.and_comm]
      · have e1 : zin [(75 + (1 + 1 * k), 75 + (1 + 1 * k), 0, 9999)] (75 + (1 + 1 * f)) l = false := zin_n1 (by omega)
        rw [p3.l e1, p1.l (zin_n1 (by omega))]
        exact hv f (by omega) l hl r hr
    · have : k = 2 * e.2.1 + 1 := by omega
      subst this
      rw [r1, zfj_s, if_pos (Int32.le_refl _)]
      exact zw_some ⟨hzh, hv⟩
theorem unlike_c {h : zH} {e : zEv} {sb : Nat → Bool} {o1 f g : Nat} (he : zEok e) (hc : zCE h o1 e) (hs : yCS h o1 e.2.1 sb) (hT : yTT h e (2 * e.2.1 + 1)) (hf : f ≤ 2 * e.2.1) (hg : g ≤ 2 * e.2.1) : zw (f_Catalog_unlike o1 h (zfj f) (zfj g)) fun x => ∀ r, r < 64 → zBl x r = (decide (r < 2 ^ e.1) && ydf e sb r f g) := by
  obtain ⟨e1, e2, e3, e4⟩ := id he
  unfold f_Catalog_unlike
  refine zw_bi (P := fun x => ∀ r, r < 64 → zBl x r = (decide (r < 2 ^ e.1) && ydf e sb r f g)) (zw_for e.2.1 (fun k s => s.2 = zJ k ∧ ∀ r, r < 64 → zBl s.1 r = (decide (r < 2 ^ e.1) && zex (fun l => sb l && (zvl e (zrw r) f l != zvl e (zrw r) g l)) k)) (by omega) ⟨rfl, fun r hr => by rw [zBl_0]; simp [zex]⟩ ?_) (fun x hx => zw_some hx)
  rintro k ⟨a, i⟩ hk ⟨rfl, hv⟩
  dsimp only at hv ⊢
  unfold f_Catalog_unlike_b6
  rw [lines_c he hc]
  by_cases hkm : k < e.2.1
  · rw [isSeen_c hs (by omega) hkm]
    simp (disch := omega) only [zg_tr, zb_t, zJ_lt, zJ_le, zJ_inj, zJ_ltl, zJ_lel, zJ_eql, zJ_llt, zJ_lle, zJ_leq, zJ_m1, zJ_m1r, zJ_nle_m1, zJ_m1lt, zJ_add, zJ_al, zJ_mull, zJ_c, zJ_mlr, zJ_cl, zJ_sub, zJ_subl, zJ_neg, zJ_divl, zreml, zshl_1, zshr_J, zushr_J, zJ_and1, if_pos, if_neg, Option.bind_some, zI_eq, zI_ne, zI_nk, zI_2, zL_1, zL_eq, zL_ne, zL_nk, zL_22, zfj_1]
    cases hsb : sb k
    · rw [if_pos zbI_f]
      refine zw_some ⟨hkm, rfl, fun r hr => ?_⟩
      rw [zex_s, hsb, Bool.false_and, Bool.or_false]
      exact hv r hr
    · rw [if_neg (by decide : ¬ zbI true = 0)]
      refine zw_some ⟨hkm, rfl, fun r hr => ?_⟩
      dsimp only
      rw [zBl_or, zBl_xor, hT f (by omega) k hkm r hr, hT g (by omega) k hkm r hr, hv r hr, zex_s, hsb, Bool.true_and]
      have h1 := zvl_lt2 (f := f) he (inp := zrw r) (fun i _ => zrw_lt) _ k (Nat.lt_succ_self k) hkm
      have h2 := zvl_lt2 (f := g) he (inp := zrw r) (fun i _ => zrw_lt) _ k (Nat.lt_succ_self k) hkm
      generalize zex _ k = b
      generalize decide (r < 2 ^ e.1) = c
      rcases (by omega : zvl e (zrw r) f k = 0 ∨ zvl e (zrw r) f k = 1) with h3 | h3 <;> rcases (by omega : zvl e (zrw r) g k = 0 ∨ zvl e (zrw r) g k = 1) with h4 | h4 <;> rw [h3, h4] <;> cases b <;> cases c <;> rfl
  · have : k = e.2.1 := by omega
    subst this
    simp (disch := omega) only [zg_tr, zb_t, zJ_lt, zJ_le, zJ_inj, zJ_ltl, zJ_lel, zJ_eql, zJ_llt, zJ_lle, zJ_leq, zJ_m1, zJ_m1r, zJ_nle_m1, zJ_m1lt, zJ_add, zJ_al, zJ_mull, zJ_c, zJ_mlr, zJ_cl, zJ_sub, zJ_subl, zJ_neg, zJ_divl, zreml, zshl_1, zshr_J, zushr_J, zJ_and1, if_pos, if_neg, Option.bind_some, zI_eq, zI_ne, zI_nk, zI_2, zL_1, zL_eq, zL_ne, zL_nk, zL_22]
    exact zw_some hv
theorem zBl_eq0 {x : Int64} : x = 0 ↔ ∀ r, r < 64 → zBl x r = false := by
  constructor
  · rintro rfl r hr
    exact zBl_0
  · intro h
    exact zBl_ext (fun r hr => by rw [h r hr, zBl_0])
/-- tests, and which faults have any -/
def yTS (h : zH) (e : zEv) (sb : Nat → Bool) (N : Nat) : Prop := (∀ f, f < N → ∀ r, r < 64 → zBl (h.2.1 121 f) r = (decide (r < 2 ^ e.1) && zcg e sb (zrw r) (f + 1))) ∧ ∀ f, f < 64 → zBl (h.2.1 74 3) f = (decide (f < N) && decide (0 < zct e sb f (2 ^ e.1)))
theorem findTests_c {h : zH} {e : zEv} {sb : Nat → Bool} {o1 : Nat} (he : zEok e) (hc : zCE h o1 e) (hs : yCS h o1 e.2.1 sb) (ho : o1 + 28 ≤ 74) (hT : yTT h e (2 * e.2.1 + 1)) (hff : h.1 74 0 = zJ (2 * e.2.1)) : zw (f_Catalog_findTests o1 h) fun g => zfm [(74, 74, 3, 3), (121, 121, 0, 9999)] h g ∧ yTS g e sb (2 * e.2.1) := by
  obtain ⟨e1, e2, e3, e4⟩ := id he
  have h64 := zpw6 e1
  unfold f_Catalog_findTests
  rw [Option.bind_some]
  refine zw_bi (P := fun g => zfm [(74, 74, 3, 3), (121, 121, 0, 9999)] h g ∧ yTS g e sb (2 * e.2.1)) (zw_for (2 * e.2.1) (fun k s => s.1 = zJ k ∧ zfm [(74, 74, 3, 3), (121, 121, 0, 9999)] h s.2 ∧ yTS s.2 e sb k) (by omega) ⟨rfl, zfm.rfl'.Lg (by rfl), fun l hl => by omega, fun f hf => by rw [zL_eq, zBl_0]; simp⟩ ?_) (fun x hx => zw_some hx)
  rintro k ⟨i, g⟩ hk ⟨rfl, hz, hv⟩
  dsimp only at hz hv ⊢
  unfold f_Catalog_findTests_b7
  have r1 : g.1 74 0 = zJ (2 * e.2.1) := (hz.i (by rfl)).trans hff
  by_cases hkm : k < 2 * e.2.1
  · have hcg : zCE g o1 e := hc.fr he hz (fun a k h1 h2 => by
      unfold zin
      simp
      omega)
    have hsg : yCS g o1 e.2.1 sb := hs.fr hz (fun k => by
      unfold zin
      simp
      omega)
    have hTg : yTT g e (2 * e.2.1 + 1) := by
      intro f hf l hl r hr
      rw [hz.l (by unfold zin; simp; omega)]
      exact hT f hf l hl r hr
    simp (disch := omega) only [zg_tr, zb_t, zJ_lt, zJ_le, zJ_inj, zJ_ltl, zJ_lel, zJ_eql, zJ_llt, zJ_lle, zJ_leq, zJ_m1, zJ_m1r, zJ_nle_m1, zJ_m1lt, zJ_add, zJ_al, zJ_mull, zJ_c, zJ_mlr, zJ_cl, zJ_sub, zJ_subl, zJ_neg, zJ_divl, zreml, zshl_1, zshr_J, zushr_J, zJ_and1, if_pos, if_neg, Option.bind_some, zI_eq, zI_ne, zI_nk, zI_2, zL_1, zL_eq, zL_ne, zL_nk, zL_22, r1]
    refine zw_bi (unlike_c (f := 0) (g := k + 1) he hcg hsg hTg (by omega) (by omega)) ?_
    intro x hx
    have hx2 : ∀ r, r < 64 → zBl x r = (decide (r < 2 ^ e.1) && zcg e sb (zrw r) (k + 1)) := fun r hr => by rw [hx r hr, ydf_cg he]
    have hx0 : x = 0 ↔ ¬ 0 < zct e sb k (2 ^ e.1) := by
      rw [zBl_eq0]
      constructor
      · intro h h0
        obtain ⟨r, hr, hp⟩ := fb_ct_pos.mp h0
        have := h r (by omega)
        rw [hx2 r (by omega), hp] at this
        simp [hr] at this
      · intro h r hr
        rw [hx2 r hr]
        by_cases hr2 : r < 2 ^ e.1
        · cases hcc : zcg e sb (zrw r) (k + 1)
          · simp
          · exact absurd (fb_ct_pos.mpr ⟨r, hr2, hcc⟩) h
        · simp [hr2]
    have hq : zfm [(74, 74, 3, 3), (121, 121, 0, 9999)] h (zsL g 121 k x) := hz.Lg (zin_2 (zin_1 (by omega) (by omega) (by omega) (by omega)))
    have ht : ∀ g' : zH, g'.2.1 121 = (zsL g 121 k x).2.1 121 → ∀ f, f < k + 1 → ∀ r, r < 64 → zBl (g'.2.1 121 f) r = (decide (r < 2 ^ e.1) && zcg e sb (zrw r) (f + 1)) := by
      intro g' hg f hf r hr
      rw [hg]
      by_cases hfk : f = k
      · subst hfk
        rw [zL_eq]
        exact hx2 r hr
      · rw [zL_nk hfk]
        exact hv.1 f (by omega) r hr
    by_cases h0 : 0 < zct e sb k (2 ^ e.1)
    · rw [if_neg (fun h => hx0.mp h h0)]
      refine zw_some ⟨hkm, rfl, hq.Lg (by rfl), ht _ (by rw [zL_ne (by omega)]), fun f hf => ?_⟩
      dsimp only
      rw [zL_eq, zBl_or, zBl_shl _ (by omega), zBl_one, hv.2 f hf]
      by_cases hfk : f = k
      · subst hfk
        simp [h0, hf]
      · by_cases hlt : f < k
        · simp [hlt, show f < k + 1 by omega]
        · simp [hlt, show ¬ f < k + 1 by omega, show ¬ f - k = 0 by omega]
    · rw [if_pos (hx0.mpr h0)]
      refine zw_some ⟨hkm, rfl, hq, ht _ rfl, fun f hf => ?_⟩
      dsimp only
      rw [zL_ne (by omega), hv.2 f hf]
      by_cases hfk : f = k
      · subst hfk
        simp [h0]
      · by_cases hlt : f < k
        · simp [hlt, show f < k + 1 by omega]
        · simp [hlt, show ¬ f < k + 1 by omega]
  · have : k = 2 * e.2.1 := by omega
    subst this
    simp (disch := omega) only [zg_tr, zb_t, zJ_lt, zJ_le, zJ_inj, zJ_ltl, zJ_lel, zJ_eql, zJ_llt, zJ_lle, zJ_leq, zJ_m1, zJ_m1r, zJ_nle_m1, zJ_m1lt, zJ_add, zJ_al, zJ_mull, zJ_c, zJ_mlr, zJ_cl, zJ_sub, zJ_subl, zJ_neg, zJ_divl, zreml, zshl_1, zshr_J, zushr_J, zJ_and1, if_pos, if_neg, Option.bind_some, zI_eq, zI_ne, zI_nk, zI_2, zL_1, zL_eq, zL_ne, zL_nk, zL_22, r1]
    exact zw_some ⟨hz, hv⟩
