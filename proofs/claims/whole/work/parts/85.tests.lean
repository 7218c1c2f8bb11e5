/-! ===== tests of a fault ===== -/
theorem zct_c {h : zH} {N : yN} {f : Nat} (hn : yOKn N) (hc : yCAT h (yE N) (ySb N)) (hf : f < 2 * yLs N) : f_Long_bitCount (h.2.1 121 f) = some (zJ (zct (yE N) (ySb N) f (2 ^ yI N))) := by
  obtain ⟨⟨e1, e2, e3, e4⟩, -⟩ := id hn
  have e1' : yI N ≤ 6 := e1
  have h64 := zpw6 e1'
  obtain ⟨c5, -⟩ := hc.2.2.2.2.1
  rw [bitCount_L, fb_ext (n := 2 ^ yI N) (by omega) (fun r r1 r2 => ?_)]
  · congr 2
    refine fb_ct_cong (fun r hr => ?_)
    rw [c5 f hf r (by omega), show decide (r < 2 ^ (yE N).1) = true from decide_eq_true hr, Bool.true_and]
  · rw [c5 f hf r r2, show decide (r < 2 ^ (yE N).1) = false from decide_eq_false (by show ¬ r < 2 ^ yI N; omega), Bool.false_and]
theorem whyLost_c {h : zH} {N : yN} {f : Nat} (hn : yOKn N) (hc : yCAT h (yE N) (ySb N)) (hf : f < 2 * yLs N) : f_Catalog_whyLost h (zJ f) = some (zJ (zlo (yE N) (ySb N) f)) := by
  obtain ⟨⟨e1, e2, e3, e4⟩, -⟩ := id hn
  have e1' : yI N ≤ 6 := e1
  have e3' : yLs N ≤ yI N + 16 := e3
  have h64 := zpw6 e1'
  unfold f_Catalog_whyLost
  rw [isLost_c hc.2.2.2.2.1 hf (by omega), Option.bind_some]
  by_cases h0 : 0 < zct (yE N) (ySb N) f (2 ^ (yE N).1)
  · rw [decide_eq_true h0, if_neg (by decide)]
    unfold zlo
    rw [if_pos h0]
    rfl
  · rw [decide_eq_false h0, if_pos (by decide)]
    have fin : ∀ x : Int64, (∀ r, r < 64 → zBl x r = (decide (r < 2 ^ yI N) && (f % 2 == 1))) → f_Catalog_whyLost_j25 h (zJ f) x = some (zJ (zlo (yE N) (ySb N) f)) := by
      intro x hx
      have hT := hc.2.2.2.1 0 (by omega) (f / 2) (by show f / 2 < yLs N; omega)
      have key : h.2.1 76 (f / 2) = x ↔ zdf (yE N) f (2 ^ (yE N).1) = false := by
        unfold zdf
        rw [zex_no]
        have hb : ∀ r, r < 2 ^ yI N → zvl (yE N) (zrw r) 0 (f / 2) < 2 := fun r _ => zvl_lt2 (f := 0) hn.1 (inp := zrw r) (fun i _ => zrw_lt) _ _ (Nat.lt_succ_self _) (by show f / 2 < yLs N; omega)
        constructor
        · intro he r hr
          have hr' : r < 2 ^ yI N := hr
          have h1 := hT r (by omega)
          have h2 := hx r (by omega)
          rw [show 75 + (1 + 1 * 0) = 76 from rfl, he, h2, show decide (r < 2 ^ (yE N).1) = true from decide_eq_true hr, Bool.true_and, Bool.true_and] at h1
          have h3 := hb r hr'
          rcases (by omega : zvl (yE N) (zrw r) 0 (f / 2) = 0 ∨ zvl (yE N) (zrw r) 0 (f / 2) = 1) with c | c <;> rcases (by omega : f % 2 = 0 ∨ f % 2 = 1) with d | d <;> rw [c, d] at h1 ⊢ <;> simp at h1 ⊢
        · intro hz
          apply zBl_ext
          intro r hr
          have h1 := hT r hr
          rw [show 75 + (1 + 1 * 0) = 76 from rfl] at h1
          rw [h1, hx r hr]
          by_cases hr2 : r < 2 ^ yI N
          · have h4 := hz r hr2
            simp at h4
            rw [h4]
          · rw [show decide (r < 2 ^ (yE N).1) = false from decide_eq_false hr2]
            rfl
      unfold f_Catalog_whyLost_j25
      simp (disch := omega) only [zg_tr, zb_t, zJ_lt, zJ_le, zJ_inj, zJ_ltl, zJ_lel, zJ_eql, zJ_llt, zJ_lle, zJ_leq, zJ_m1, zJ_m1r, zJ_nle_m1, zJ_m1lt, zJ_add, zJ_al, zJ_mull, zJ_c, zJ_mlr, zJ_cl, zJ_sub, zJ_subl, zJ_neg, zJ_divl, zreml, zshl_1, zshr_J, zushr_J, zJ_and1, if_pos, if_neg, Option.bind_some, zI_eq, zI_ne, zI_nk, zI_2, zL_1, zL_eq, zL_ne, zL_nk, zL_22]
      unfold zlo
      rw [if_neg h0]
      cases hzd : zdf (yE N) f (2 ^ (yE N).1)
      · have := key.mpr hzd
        simp [this]
        rfl
      · have : ¬ h.2.1 76 (f / 2) = x := fun h1 => by rw [key.mp h1] at hzd; cases hzd
        simp [this]
        rfl
    simp (disch := omega) only [zg_tr, zb_t, zJ_lt, zJ_le, zJ_inj, zJ_ltl, zJ_lel, zJ_eql, zJ_llt, zJ_lle, zJ_leq, zJ_m1, zJ_m1r, zJ_nle_m1, zJ_m1lt, zJ_add, zJ_al, zJ_mull, zJ_c, zJ_mlr, zJ_cl, zJ_sub, zJ_subl, zJ_neg, zJ_divl, zreml, zshl_1, zshr_J, zushr_J, zJ_and1, if_pos, if_neg, Option.bind_some, zI_eq, zI_ne, zI_nk, zI_2, zL_1, zL_eq, zL_ne, zL_nk, zL_22]
    by_cases ho : f % 2 = 1
    · rw [if_neg (fun h => h ho), allRows_c hc.2.1 e1]
      refine fin _ (fun r hr => ?_)
      rw [yAR_bit _ (by show yI N < 7; omega) r hr, ho]
      simp
    · rw [if_pos ho]
      refine fin _ (fun r hr => ?_)
      rw [zBl_0, show f % 2 = 0 by omega]
      simp
/-- how many it is under -/
def yun (N : yN) (f g : Nat) : Bool := yfnd N f && (!zex (fun r => zcg (yE N) (ySb N) (zrw r) (f + 1) && !zcg (yE N) (ySb N) (zrw r) (g + 1)) (2 ^ yI N) && !yak N f g)
def yov (N : yN) (f : Nat) : Nat := fb_ct (yun N f) (2 * yLs N)
theorem countOver_c {h : zH} {N : yN} {f : Nat} (hn : yOKn N) (hc : yCAT h (yE N) (ySb N)) (hf : f < 2 * yLs N) : zw (f_Catalog_countOver h (zJ f)) fun x => x = zJ (yov N f) := by
  obtain ⟨⟨e1, e2, e3, e4⟩, -⟩ := id hn
  have e1' : yI N ≤ 6 := e1
  have e3' : yLs N ≤ yI N + 16 := e3
  have h64 := zpw6 e1'
  have c1 : h.1 74 0 = zJ (2 * yLs N) := hc.1
  obtain ⟨c5, -⟩ := hc.2.2.2.2.1
  unfold f_Catalog_countOver
  rw [isLost_c hc.2.2.2.2.1 hf (by omega), Option.bind_some]
  cases hfd : yfnd N f
  · rw [show decide (0 < zct (yE N) (ySb N) f (2 ^ (yE N).1)) = false from hfd, if_neg (by decide)]
    refine zw_some ?_
    unfold yov
    rw [fb_ct_zero.mpr (fun g _ => by unfold yun; rw [hfd]; rfl)]
    rfl
  · rw [show decide (0 < zct (yE N) (ySb N) f (2 ^ (yE N).1)) = true from hfd, if_pos (by decide)]
    refine zw_bi (P := fun x => x = zJ (yov N f)) (zw_for (2 * yLs N) (fun k s => s = (zJ (fb_ct (yun N f) k), zJ k)) (by omega) rfl ?_) (fun x hx => zw_some hx)
    rintro k s hk rfl
    dsimp only
    unfold f_Catalog_countOver_b14
    by_cases hkm : k < 2 * yLs N
    · have hsub : (h.2.1 121 f &&& (h.2.1 121 k ^^^ (-1))) = 0 ↔ zex (fun r => zcg (yE N) (ySb N) (zrw r) (f + 1) && !zcg (yE N) (ySb N) (zrw r) (k + 1)) (2 ^ yI N) = false := by
        rw [zBl_eq0, zex_no]
        have hb : ∀ r, r < 64 → zBl (h.2.1 121 f &&& (h.2.1 121 k ^^^ (-1))) r = (decide (r < 2 ^ yI N) && (zcg (yE N) (ySb N) (zrw r) (f + 1) && !zcg (yE N) (ySb N) (zrw r) (k + 1))) := by
          intro r hr
          rw [zBl_and, zBl_xor, zBl_m1 hr, c5 f hf r hr, c5 k hkm r hr]
          show (decide (r < 2 ^ yI N) && _ && ((decide (r < 2 ^ yI N) && _) ^^ true)) = _
          generalize decide (r < 2 ^ yI N) = a
          cases a <;> cases zcg (yE N) (ySb N) (zrw r) (f + 1) <;> cases zcg (yE N) (ySb N) (zrw r) (k + 1) <;> rfl
        constructor
        · intro h1 r hr
          have := h1 r (by omega)
          rw [hb r (by omega), decide_eq_true hr, Bool.true_and] at this
          exact this
        · intro h1 r hr
          rw [hb r hr]
          by_cases hr2 : r < 2 ^ yI N
          · rw [h1 r hr2, Bool.and_false]
          · rw [decide_eq_false hr2, Bool.false_and]
      have heq := tests_eq (g := k) hn hc hf hkm
      simp (disch := omega) only [zg_tr, zb_t, zJ_lt, zJ_le, zJ_inj, zJ_ltl, zJ_lel, zJ_eql, zJ_llt, zJ_lle, zJ_leq, zJ_m1, zJ_m1r, zJ_nle_m1, zJ_m1lt, zJ_add, zJ_al, zJ_mull, zJ_c, zJ_mlr, zJ_cl, zJ_sub, zJ_subl, zJ_neg, zJ_divl, zreml, zshl_1, zshr_J, zushr_J, zJ_and1, if_pos, if_neg, Option.bind_some, zI_eq, zI_ne, zI_nk, zI_2, zL_1, zL_eq, zL_ne, zL_nk, zL_22, c1, f_Catalog_countOver_j49]
      rw [fb_ct_succ]
      unfold yun
      rw [hfd, Bool.true_and]
      cases hz : zex (fun r => zcg (yE N) (ySb N) (zrw r) (f + 1) && !zcg (yE N) (ySb N) (zrw r) (k + 1)) (2 ^ yI N)
      · rw [if_neg (fun h => h (hsub.mpr hz)), if_neg (by decide), Bool.not_false, Bool.true_and]
        cases hak : yak N f k
        · rw [if_neg (fun h1 => by rw [heq.mp h1] at hak; cases hak)]
          exact zw_some ⟨hkm, rfl⟩
        · rw [if_pos (heq.mpr hak)]
          exact zw_some ⟨hkm, rfl⟩
      · rw [if_pos (fun h1 => by rw [hsub.mp h1] at hz; cases hz), if_pos trivial, Bool.not_true, Bool.false_and]
        exact zw_some ⟨hkm, rfl⟩
    · have : k = 2 * yLs N := by omega
      subst this
      simp (disch := omega) only [zg_tr, zb_t, zJ_lt, zJ_le, zJ_inj, zJ_ltl, zJ_lel, zJ_eql, zJ_llt, zJ_lle, zJ_leq, zJ_m1, zJ_m1r, zJ_nle_m1, zJ_m1lt, zJ_add, zJ_al, zJ_mull, zJ_c, zJ_mlr, zJ_cl, zJ_sub, zJ_subl, zJ_neg, zJ_divl, zreml, zshl_1, zshr_J, zushr_J, zJ_and1, if_pos, if_neg, Option.bind_some, zI_eq, zI_ne, zI_nk, zI_2, zL_1, zL_eq, zL_ne, zL_nk, zL_22, c1]
      exact zw_some rfl
theorem fb_sub_lt {p q : Nat → Bool} {n : Nat} (h : ∀ k, k < n → p k = true → q k = true) : fb_ct p n < fb_ct q n ↔ zex (fun k => p k != q k) n = true := by
  rw [zex_iff]
  have hd : fb_ct q n = fb_ct p n + fb_ct (fun k => q k && !p k) n := by
    rw [← fb_ct_or (fun k _ hq => by obtain ⟨h1, h2⟩ := hq; simp [h1] at h2)]
    refine fb_ct_cong (fun k hk => ?_)
    have := h k hk
    cases hp : p k <;> cases hq : q k <;> simp_all
  rw [hd]
  constructor
  · intro hlt
    obtain ⟨k, hk, hp⟩ := fb_ct_pos.mp (show 0 < fb_ct (fun k => q k && !p k) n by omega)
    refine ⟨k, hk, ?_⟩
    cases hpk : p k <;> cases hqk : q k <;> simp_all
  · rintro ⟨k, hk, hne⟩
    have : 0 < fb_ct (fun k => q k && !p k) n := fb_ct_pos.mpr ⟨k, hk, by
      have := h k hk
      cases hpk : p k <;> cases hqk : q k <;> simp_all⟩
    omega
theorem isUnder_r {h : zH} {N : yN} {f g : Nat} (hn : yOKn N) (hr : yRN h N) (hl : yLD h (yE N) (ySb N)) (hf : f < 2 * yLs N) (hg : g < 2 * yLs N) : zw (f_Mod_isUnder h (zJ f) (zJ g)) fun x => x = zbI (yun N f g) := by
  obtain ⟨⟨e1, e2, e3, e4⟩, -⟩ := id hn
  have e1' : yI N ≤ 6 := e1
  have e3' : yLs N ≤ yI N + 16 := e3
  have h64 := zpw6 e1'
  obtain ⟨c, l1, l2, l3⟩ := lost_r hl hf
  have t1 : h.1 354 f = zJ (zct (yE N) (ySb N) f (2 ^ yI N)) := (hl.1 f hf).2.1
  have t2 : h.1 354 g = zJ (zct (yE N) (ySb N) g (2 ^ yI N)) := (hl.1 g hg).2.1
  have b1 := zct_le (e := yE N) (sb := ySb N) (f := f) (n := 2 ^ yI N)
  have b2 := zct_le (e := yE N) (sb := ySb N) (f := g) (n := 2 ^ yI N)
  have main : ∀ b : Bool, (b && !zex (fun r => zcg (yE N) (ySb N) (zrw r) (f + 1) && !zcg (yE N) (ySb N) (zrw r) (g + 1)) (2 ^ yI N)) = yun N f g → zw (f_Mod_isUnder_j29 h (zJ f) (zJ g) (zbI b)) fun x => x = zbI (yun N f g) := by
    intro b hb
    unfold f_Mod_isUnder_j29
    refine zw_bi (P := fun x => x = zbI (yun N f g)) (zw_for (2 ^ yI N) (fun k s => s = (zbI (b && !zex (fun r => zcg (yE N) (ySb N) (zrw r) (f + 1) && !zcg (yE N) (ySb N) (zrw r) (g + 1)) k), zJ k)) (by omega) (by simp [zex]; rfl) ?_) ?_
    · rintro k s hk rfl
      dsimp only
      unfold f_Mod_isUnder_b33
      rw [rows_n hn hr]
      by_cases hkm : k < 2 ^ yI N
      · have a1 := (hl.1 f hf).1 k hkm
        have a2 := (hl.1 g hg).1 k hkm
        simp (disch := omega) only [zg_tr, zb_t, zJ_lt, zJ_le, zJ_inj, zJ_ltl, zJ_lel, zJ_eql, zJ_llt, zJ_lle, zJ_leq, zJ_m1, zJ_m1r, zJ_nle_m1, zJ_m1lt, zJ_add, zJ_al, zJ_mull, zJ_c, zJ_mlr, zJ_cl, zJ_sub, zJ_subl, zJ_neg, zJ_divl, zreml, zshl_1, zshr_J, zushr_J, zJ_and1, if_pos, if_neg, Option.bind_some, zI_eq, zI_ne, zI_nk, zI_2, zL_1, zL_eq, zL_ne, zL_nk, zL_22, f_Mod_isUnder_j81, a1, a2]
        rw [zex_s]
        cases hz : (b && !zex (fun r => zcg (yE N) (ySb N) (zrw r) (f + 1) && !zcg (yE N) (ySb N) (zrw r) (g + 1)) k)
        · rw [if_pos zbI_f]
          refine zw_some ⟨hkm, ?_⟩
          cases hbb : b
          · rfl
          · rw [hbb, Bool.true_and] at hz
            rw [Bool.not_eq_false'] at hz
            rw [hz]
            simp [zbI]
        · rw [if_neg (by decide)]
          rw [Bool.and_eq_true, Bool.not_eq_true'] at hz
          rw [hz.1, hz.2]
          cases zcg (yE N) (ySb N) (zrw k) (f + 1) <;> cases zcg (yE N) (ySb N) (zrw k) (g + 1)
          · exact zw_some ⟨hkm, rfl⟩
          · exact zw_some ⟨hkm, rfl⟩
          · exact zw_some ⟨hkm, rfl⟩
          · exact zw_some ⟨hkm, rfl⟩
      · have : k = 2 ^ yI N := by omega
        subst this
        simp (disch := omega) only [zg_tr, zb_t, zJ_lt, zJ_le, zJ_inj, zJ_ltl, zJ_lel, zJ_eql, zJ_llt, zJ_lle, zJ_leq, zJ_m1, zJ_m1r, zJ_nle_m1, zJ_m1lt, zJ_add, zJ_al, zJ_mull, zJ_c, zJ_mlr, zJ_cl, zJ_sub, zJ_subl, zJ_neg, zJ_divl, zreml, zshl_1, zshr_J, zushr_J, zJ_and1, if_pos, if_neg, Option.bind_some, zI_eq, zI_ne, zI_nk, zI_2, zL_1, zL_eq, zL_ne, zL_nk, zL_22]
        exact zw_some (by rw [← hb]; rfl)
    · rintro y rfl
      rw [zbI_bo]
      exact zw_some rfl
  unfold f_Mod_isUnder
  simp (disch := omega) only [zg_tr, zb_t, zJ_lt, zJ_le, zJ_inj, zJ_ltl, zJ_lel, zJ_eql, zJ_llt, zJ_lle, zJ_leq, zJ_m1, zJ_m1r, zJ_nle_m1, zJ_m1lt, zJ_add, zJ_al, zJ_mull, zJ_c, zJ_mlr, zJ_cl, zJ_sub, zJ_subl, zJ_neg, zJ_divl, zreml, zshl_1, zshr_J, zushr_J, zJ_and1, if_pos, if_neg, Option.bind_some, zI_eq, zI_ne, zI_nk, zI_2, zL_1, zL_eq, zL_ne, zL_nk, zL_22, l2, t1, t2]
  cases hfd : yfnd N f
  · have : c ≠ 0 := fun h => by rw [l3.mp h] at hfd; cases hfd
    rw [if_pos this]
    exact main false (by unfold yun; rw [hfd]; rfl)
  · have := l3.mpr hfd
    rw [if_neg (by omega)]
    by_cases hsub : zex (fun r => zcg (yE N) (ySb N) (zrw r) (f + 1) && !zcg (yE N) (ySb N) (zrw r) (g + 1)) (2 ^ yI N) = false
    · have hs : zct (yE N) (ySb N) f (2 ^ yI N) < zct (yE N) (ySb N) g (2 ^ yI N) ↔ yak N f g = false := by
        unfold zct yak
        rw [fb_sub_lt (fun k hk hp => ?_), Bool.not_eq_false']
        have := (zex_no.mp hsub) k hk
        simp only [hp, Bool.true_and, Bool.not_eq_false'] at this
        exact this
      by_cases hlt : zct (yE N) (ySb N) g (2 ^ yI N) ≤ zct (yE N) (ySb N) f (2 ^ yI N)
      · rw [if_pos hlt]
        refine main false ?_
        unfold yun
        rw [hfd, hsub]
        cases hak : yak N f g
        · have := hs.mpr hak
          omega
        · rfl
      · rw [if_neg hlt]
        refine main true ?_
        unfold yun
        rw [hfd, hsub, hs.mp (by omega)]
        rfl
    · have hsub : zex (fun r => zcg (yE N) (ySb N) (zrw r) (f + 1) && !zcg (yE N) (ySb N) (zrw r) (g + 1)) (2 ^ yI N) = true := by
        cases hz : zex (fun r => zcg (yE N) (ySb N) (zrw r) (f + 1) && !zcg (yE N) (ySb N) (zrw r) (g + 1)) (2 ^ yI N)
        · exact absurd hz hsub
        · rfl
      have hu : yun N f g = false := by
        unfold yun
        rw [hsub]
        simp
      split
      · exact main false (by rw [hu]; rfl)
      · exact main true (by rw [hu, hsub]; rfl)
theorem undersOf_r {h : zH} {N : yN} {f : Nat} (hn : yOKn N) (hr : yRN h N) (hl : yLD h (yE N) (ySb N)) (hf : f < 2 * yLs N) : zw (f_Mod_undersOf h (zJ f)) fun x => x = zJ (yov N f) := by
  obtain ⟨⟨e1, e2, e3, e4⟩, -⟩ := id hn
  have e1' : yI N ≤ 6 := e1
  have e3' : yLs N ≤ yI N + 16 := e3
  unfold f_Mod_undersOf
  refine zw_bi (P := fun x => x = zJ (yov N f)) (zw_for (2 * yLs N) (fun k s => s = (zJ (fb_ct (yun N f) k), zJ k)) (by omega) rfl ?_) (fun x hx => zw_some hx)
  rintro k s hk rfl
  dsimp only
  unfold f_Mod_undersOf_b4
  rw [faults_n hn hr]
  by_cases hkm : k < 2 * yLs N
  · simp (disch := omega) only [zg_tr, zb_t, zJ_lt, zJ_le, zJ_inj, zJ_ltl, zJ_lel, zJ_eql, zJ_llt, zJ_lle, zJ_leq, zJ_m1, zJ_m1r, zJ_nle_m1, zJ_m1lt, zJ_add, zJ_al, zJ_mull, zJ_c, zJ_mlr, zJ_cl, zJ_sub, zJ_subl, zJ_neg, zJ_divl, zreml, zshl_1, zshr_J, zushr_J, zJ_and1, if_pos, if_neg, Option.bind_some, zI_eq, zI_ne, zI_nk, zI_2, zL_1, zL_eq, zL_ne, zL_nk, zL_22, f_Mod_undersOf_j27]
    refine zw_bi (isUnder_r hn hr hl hf hkm) ?_
    rintro x rfl
    rw [fb_ct_succ]
    cases yun N f k
    · rw [if_pos zbI_f]
      exact zw_some ⟨hkm, rfl⟩
    · rw [if_neg (by decide)]
      exact zw_some ⟨hkm, rfl⟩
  · have : k = 2 * yLs N := by omega
    subst this
    simp (disch := omega) only [zg_tr, zb_t, zJ_lt, zJ_le, zJ_inj, zJ_ltl, zJ_lel, zJ_eql, zJ_llt, zJ_lle, zJ_leq, zJ_m1, zJ_m1r, zJ_nle_m1, zJ_m1lt, zJ_add, zJ_al, zJ_mull, zJ_c, zJ_mlr, zJ_cl, zJ_sub, zJ_subl, zJ_neg, zJ_divl, zreml, zshl_1, zshr_J, zushr_J, zJ_and1, if_pos, if_neg, Option.bind_some, zI_eq, zI_ne, zI_nk, zI_2, zL_1, zL_eq, zL_ne, zL_nk, zL_22]
    exact zw_some rfl
