/-! ===== pack ===== -/
theorem agree_r {h : zH} {N : yN} {f g : Nat} (hn : yOKn N) (hr : yRN h N) (hl : yLD h (yE N) (ySb N)) (hf : f < 2 * yLs N) (hfd : 0 < zct (yE N) (ySb N) f (2 ^ yI N)) (hg : g < 2 * yLs N) (hgd : 0 < zct (yE N) (ySb N) g (2 ^ yI N)) : zw (f_Mod_agree h (zJ f) (zJ g)) fun x => x = zbI (yag (yI N) (ycb N f) (ycb N g)) := by
  obtain ⟨⟨e1, e2, e3, e4⟩, -⟩ := id hn
  have e1' : yI N ≤ 6 := e1
  have e3' : yLs N ≤ yI N + 16 := e3
  have r0 : h.1 336 0 = zJ (yI N) := hr.1.1
  unfold f_Mod_agree
  refine zw_bi (P := fun x => x = zbI (yag (yI N) (ycb N f) (ycb N g))) (zw_for (yI N) (fun k s => s = (zbI (!zex (fun i => ycb N f i != 2 && ycb N g i != 2 && ycb N f i != ycb N g i) k), zJ k)) (by omega) rfl ?_) ?_
  · rintro k s hk rfl
    dsimp only
    unfold f_Mod_agree_b5
    rw [r0]
    by_cases hkm : k < yI N
    · have l2 := ycb_le (N := N) (f := f) (i := k)
      have l1 := ycb_le (N := N) (f := g) (i := k)
      simp (disch := omega) only [zg_tr, zb_t, zJ_lt, zJ_le, zJ_inj, zJ_ltl, zJ_lel, zJ_eql, zJ_llt, zJ_lle, zJ_leq, zJ_m1, zJ_m1r, zJ_nle_m1, zJ_m1lt, zJ_add, zJ_al, zJ_mull, zJ_c, zJ_mlr, zJ_cl, zJ_sub, zJ_subl, zJ_neg, zJ_divl, zreml, zshl_1, zshr_J, zushr_J, zJ_and1, if_pos, if_neg, Option.bind_some, zI_eq, zI_ne, zI_nk, zI_2, zL_1, zL_eq, zL_ne, zL_nk, zL_22, cube_r hn hl hf hfd k hkm, cube_r hn hl hg hgd k hkm, f_Mod_agree_j72]
      rw [zex_s]
      cases hz : zex (fun i => ycb N f i != 2 && ycb N g i != 2 && ycb N f i != ycb N g i) k
      · rw [Bool.not_false, if_neg (by decide), Bool.false_or]
        by_cases c1 : ycb N f k = 2
        · rw [if_pos c1]
          exact zw_some ⟨hkm, by simp [c1, zbI]⟩
        · rw [if_neg c1]
          by_cases c2 : ycb N g k = 2
          · rw [if_pos c2]
            exact zw_some ⟨hkm, by simp [c2, zbI]⟩
          · rw [if_neg c2]
            by_cases c3 : ycb N f k = ycb N g k
            · simp (disch := omega) only [zg_tr, zb_t, zJ_lt, zJ_le, zJ_inj, zJ_ltl, zJ_lel, zJ_eql, zJ_llt, zJ_lle, zJ_leq, zJ_m1, zJ_m1r, zJ_nle_m1, zJ_m1lt, zJ_add, zJ_al, zJ_mull, zJ_c, zJ_mlr, zJ_cl, zJ_sub, zJ_subl, zJ_neg, zJ_divl, zreml, zshl_1, zshr_J, zushr_J, zJ_and1, if_pos, if_neg, Option.bind_some, zI_eq, zI_ne, zI_nk, zI_2, zL_1, zL_eq, zL_ne, zL_nk, zL_22]
              exact zw_some ⟨hkm, by simp [c3, zbI]⟩
            · simp (disch := omega) only [zg_tr, zb_t, zJ_lt, zJ_le, zJ_inj, zJ_ltl, zJ_lel, zJ_eql, zJ_llt, zJ_lle, zJ_leq, zJ_m1, zJ_m1r, zJ_nle_m1, zJ_m1lt, zJ_add, zJ_al, zJ_mull, zJ_c, zJ_mlr, zJ_cl, zJ_sub, zJ_subl, zJ_neg, zJ_divl, zreml, zshl_1, zshr_J, zushr_J, zJ_and1, if_pos, if_neg, Option.bind_some, zI_eq, zI_ne, zI_nk, zI_2, zL_1, zL_eq, zL_ne, zL_nk, zL_22]
              exact zw_some ⟨hkm, by simp [c1, c2, c3, zbI]⟩
      · rw [Bool.not_true, if_pos zbI_f]
        exact zw_some ⟨hkm, by simp [zbI]⟩
    · have : k = yI N := by omega
      subst this
      simp (disch := omega) only [zg_tr, zb_t, zJ_lt, zJ_le, zJ_inj, zJ_ltl, zJ_lel, zJ_eql, zJ_llt, zJ_lle, zJ_leq, zJ_m1, zJ_m1r, zJ_nle_m1, zJ_m1lt, zJ_add, zJ_al, zJ_mull, zJ_c, zJ_mlr, zJ_cl, zJ_sub, zJ_subl, zJ_neg, zJ_divl, zreml, zshl_1, zshr_J, zushr_J, zJ_and1, if_pos, if_neg, Option.bind_some, zI_eq, zI_ne, zI_nk, zI_2, zL_1, zL_eq, zL_ne, zL_nk, zL_22]
      exact zw_some rfl
  · rintro y rfl
    rw [zbI_bo]
    exact zw_some rfl
theorem gcubes_c {h : zH} {N : yN} {f g : Nat} (hn : yOKn N) (hc : yCAT h (yE N) (ySb N)) (hf : f < 2 * yLs N) (hfd : 0 < zct (yE N) (ySb N) f (2 ^ yI N)) (hg : g < 2 * yLs N) (hgd : 0 < zct (yE N) (ySb N) g (2 ^ yI N)) : ((h.1 123 g ^^^ h.1 123 f) &&& (h.1 122 g &&& h.1 122 f)) = 0 ↔ yag (yI N) (ycb N f) (ycb N g) = true := by
  obtain ⟨⟨e1, e2, e3, e4⟩, -⟩ := id hn
  have e1' : yI N ≤ 6 := e1
  have hF := cubeBits_c hn hc hf hfd
  have hG := cubeBits_c hn hc hg hgd
  rw [zBi_eq0]
  unfold yag
  rw [Bool.not_eq_true', zex_no]
  have hb : ∀ j, j < 32 → zBi ((h.1 123 g ^^^ h.1 123 f) &&& (h.1 122 g &&& h.1 122 f)) j = (decide (j < yI N) && (ycb N f j != 2 && ycb N g j != 2 && ycb N f j != ycb N g j)) := by
    intro j hj
    rw [zBi_and, zBi_and, zBi_xor, (hF j hj).1, (hF j hj).2, (hG j hj).1, (hG j hj).2]
    have l1 := ycb_le (N := N) (f := g) (i := j)
    have l2 := ycb_le (N := N) (f := f) (i := j)
    generalize decide (j < yI N) = b
    rcases (by omega : ycb N g j = 0 ∨ ycb N g j = 1 ∨ ycb N g j = 2) with c | c | c <;> rcases (by omega : ycb N f j = 0 ∨ ycb N f j = 1 ∨ ycb N f j = 2) with d | d | d <;> rw [c, d] <;> cases b <;> rfl
  constructor
  · intro h1 j hj
    have := h1 j (by omega)
    rw [hb j (by omega), decide_eq_true hj, Bool.true_and] at this
    exact this
  · intro h1 j hj
    rw [hb j hj]
    by_cases hji : j < yI N
    · rw [h1 j hji, Bool.and_false]
    · simp [hji]
def gAg (N : yN) (w : Nat → Nat) (i j : Nat) : Bool := yag (yI N) (ycb N (w i)) (ycb N (w j))
abbrev gpp (S : yG) : Nat := (gT S).1.2.2.2.2.1
abbrev gwp (S : yG) : Nat → Nat := (gT S).1.2.2.2.2.2.1
theorem gCp_of {h : zH} {S : yG} (ho : yOK S) (hi : yIc h S) : gCp h (gpp S) (gwp S) (gAg (gN S) (gwp S)) := by
  obtain ⟨⟨e1, e2, e3, e4⟩, -⟩ := id ho.1
  have e1' : yI (gN S) ≤ 6 := e1
  have e3' : yLs (gN S) ≤ yI (gN S) + 16 := e3
  obtain ⟨o1, o2, o3, o4, o5, o6⟩ := ho.2.1.1
  obtain ⟨s1, s2, s3, s4, s5, s6, s7⟩ := hi.2.2.1.1
  intro i hi2
  obtain ⟨a1, a2⟩ := o5 i hi2
  refine ⟨s6 i hi2, by have : gwp S i < 2 * yLs (gN S) := a1; omega, fun j hj => ?_⟩
  obtain ⟨b1, b2⟩ := o5 j hj
  exact gcubes_c ho.1 hi.2.1 a1 a2 b1 b2
theorem packCan_r {h : zH} {S : yG} {rc : zH → Int32 → Int32 → Int32 → Option (Int32 × zH)} {k g : Nat} {v2 v3 : Int32} {s : Nat → Nat} (ho : yOK S) (hi : yIr h S) (hk : k < gpp S) (hs : ∀ i, i < k → h.1 366 i = zJ (s i) ∧ s i ≤ 8) (hg : g ≤ 8) : zw (zit zFU (fun s : Int32 × Int32 => f_Mod_packs_b33 rc h (zJ k) v2 v3 (zJ g) s.1 s.2) (1, 0)) fun x => x = zbI (gcan (gAg (gN S) (gwp S)) s k g) := by
  obtain ⟨o1, o2, o3, o4, o5, o6⟩ := ho.2.1.1
  obtain ⟨⟨s1, s2, s3, s4, s5, s6, s7⟩, -⟩ := id hi.2.2.1
  simp only [Nat.zero_add] at s6
  have o4' : gpp S ≤ 8 := o4
  refine zw_for k (fun i st => st = (zbI (!zex (fun j => s j == g && !gAg (gN S) (gwp S) j k) i), zJ i)) (by omega) rfl ?_
  rintro i st hik rfl
  dsimp only
  unfold f_Mod_packs_b33
  by_cases hlt : i < k
  · rw [if_neg (by rw [zJ_le (by omega) (by omega)]; omega)]
    obtain ⟨a1, a2⟩ := hs i hlt
    have j85 : ∀ b : Bool, b = (!zex (fun j => s j == g && !gAg (gN S) (gwp S) j k) (i + 1)) → ∀ t, t = zbI b → zw (f_Mod_packs_j85 rc h (zJ k) v2 v3 (zJ g) (zJ i) t) (Sum.elim (fun s' => i < k ∧ s' = (zbI (!zex (fun j => s j == g && !gAg (gN S) (gwp S) j k) (i + 1)), zJ (i + 1))) fun x => x = zbI (gcan (gAg (gN S) (gwp S)) s k g)) := by
      rintro b hb t rfl
      unfold f_Mod_packs_j85
      rw [hb, zJ_al]
      exact zw_some ⟨hlt, rfl⟩
    cases hz : zex (fun j => s j == g && !gAg (gN S) (gwp S) j k) i
    · rw [Bool.not_false, if_neg (by decide), zb_t (by omega) (by omega), zg_tr, zJ_c (a := i) (by omega), a1]
      by_cases hsg : s i = g
      · rw [if_neg (fun hne => hne (by rw [hsg]))]
        have p1 : (5 : Int32) + zJ i = zJ (5 + i) := zJ_la (n := 5)
        have p2 : (5 : Int32) + zJ k = zJ (5 + k) := zJ_la (n := 5)
        rw [p1, p2, zb_t (by omega) (by omega), zb_t (by omega) (by omega), zg_tr, zg_tr, zJ_c (by omega), zJ_c (by omega), s6 i (by show i < gpp S; omega), s6 k hk]
        obtain ⟨x1, x2⟩ := o5 i (by show i < gpp S; omega)
        obtain ⟨y1, y2⟩ := o5 k hk
        refine zw_bi (agree_r ho.1 hi.1 hi.2.1 x1 x2 y1 y2) ?_
        rintro x rfl
        have eA : yag (yI (gN S)) (ycb (gN S) ((gT S).1.2.2.2.2.2.1 i)) (ycb (gN S) ((gT S).1.2.2.2.2.2.1 k)) = gAg (gN S) (gwp S) i k := rfl
        rw [eA]
        cases hA : gAg (gN S) (gwp S) i k
        · rw [if_pos zbI_f]
          exact j85 false (by rw [zex_s, hz, hA, hsg]; simp) 0 rfl
        · rw [if_neg (by decide)]
          exact j85 true (by rw [zex_s, hz, hA]; simp) 1 rfl
      · rw [if_pos (fun he => hsg ((zJ_inj (by omega) (by omega)).mp he))]
        exact j85 true (by rw [zex_s, hz, beq_eq_false_iff_ne.mpr hsg]; rfl) 1 rfl
    · rw [Bool.not_true, if_pos zbI_f]
      exact j85 false (by rw [zex_s, hz]; rfl) 0 rfl
  · have : i = k := by omega
    subst this
    rw [if_pos (by rw [zJ_le (by omega) (by omega)]; omega)]
    exact zw_some rfl
theorem packs_r {S : yG} {lim : Nat} (ho : yOK S) (hl : lim ≤ 8) : ∀ (d n k : Nat) (s : Nat → Nat) (h : zH), k + d = gpp S → d < n → (∀ i, i < k → h.1 366 i = zJ (s i)) → gbg s k ≤ k → yIr h S → zw (f_Mod_packs n h (zJ k) (zJ (gbg s k)) (zJ lim)) fun y => zfm [(366, 366, 0, 9999)] h y.2 ∧ (∀ i, i < k → y.2.1 366 i = zJ (s i)) ∧ ((∃ s', gpk (gAg (gN S) (gwp S)) lim d s k = some s' ∧ y.1 = 1 ∧ ∀ i, i < gpp S → y.2.1 366 i = zJ (s' i)) ∨ (gpk (gAg (gN S) (gwp S)) lim d s k = none ∧ y.1 = 0))
  | d, 0, k, s, h, hk, hd, hs, hb, hi => absurd hd (Nat.not_lt_zero d)
  | 0, n + 1, k, s, h, hk, hd, hs, hb, hi => by
    have e4 : h.1 347 4 = zJ (gpp S) := by
      obtain ⟨⟨s1, s2, s3, s4, s5, -⟩, -⟩ := id hi.2.2.1
      simpa only [Nat.zero_add] using s5
    have : k = gpp S := by omega
    subst this
    show zw (f_Mod_packs_s (f_Mod_packs n) h _ _ _) _
    unfold f_Mod_packs_s
    rw [e4, if_neg (fun h => h rfl)]
    exact zw_some ⟨zfm.rfl', hs, Or.inl ⟨s, rfl, rfl, hs⟩⟩
  | d + 1, n + 1, k, s, h, hk, hd, hs, hb, hi => by
    have e4 : h.1 347 4 = zJ (gpp S) := by
      obtain ⟨⟨s1, s2, s3, s4, s5, -⟩, -⟩ := id hi.2.2.1
      simpa only [Nat.zero_add] using s5
    have o4 : gpp S ≤ 8 := ho.2.1.1.2.2.2.1
    have hs8 : ∀ i, i < k → s i ≤ 8 := fun i hi => by have := gbg_lt (s := s) hi; omega
    show zw (f_Mod_packs_s (f_Mod_packs n) h _ _ _) _
    unfold f_Mod_packs_s
    rw [e4, if_pos (fun h => by have := (zJ_inj (by omega) (by omega)).mp h; omega)]
    refine zw_bi (P := fun y => (∃ g s', y = .inl g ∧ gpk (gAg (gN S) (gwp S)) lim (d + 1) s k = some s' ∧ zfm [(366, 366, 0, 9999)] h g ∧ (∀ i, i < k → g.1 366 i = zJ (s i)) ∧ ∀ i, i < gpp S → g.1 366 i = zJ (s' i)) ∨ (∃ g, y = .inr g ∧ gpk (gAg (gN S) (gwp S)) lim (d + 1) s k = none ∧ zfm [(366, 366, 0, 9999)] h g ∧ ∀ i, i < k → g.1 366 i = zJ (s i))) (zw_for (min (gbg s k + 1) lim) (fun g st => st.1 = zJ g ∧ zfm [(366, 366, 0, 9999)] h st.2 ∧ (∀ i, i < k → st.2.1 366 i = zJ (s i)) ∧ gpk (gAg (gN S) (gwp S)) lim (d + 1) s k = gfrs (fun g => if gcan (gAg (gN S) (gwp S)) s k g = true then gpk (gAg (gN S) (gwp S)) lim d (gup s k g) (k + 1) else none) (min (gbg s k + 1) lim - g) g) (by omega) ⟨rfl, zfm.rfl', hs, rfl⟩ ?_) ?_
    · rintro g ⟨a, h2⟩ hg ⟨rfl, hz, hv, he⟩
      dsimp only at hz hv ⊢
      unfold f_Mod_packs_b15
      by_cases hgm : g < min (gbg s k + 1) lim
      · have hi2 : yIr h2 S := hi.fr hz rfl
        rw [if_neg (by rw [zJ_lt (by omega) (by omega)]; omega), if_neg (by rw [zJ_le (by omega) (by omega)]; omega)]
        refine zw_bi (packCan_r (s := s) ho hi2 (by omega) (fun i hi => ⟨hv i hi, hs8 i hi⟩) (by omega)) ?_
        rintro x rfl
        rw [zb_t (by omega) (by omega), zg_tr, Option.bind_some, zJ_c (by omega)]
        have z1 : zfm [(366, 366, 0, 9999)] h2 (zsI h2 366 k (zJ g)) := zfm.rfl'.I (zin_1 (by omega) (by omega) (by omega) (by omega))
        have hv1 : ∀ i, i < k → (zsI h2 366 k (zJ g)).1 366 i = zJ (s i) := fun i hi => by
          rw [zI_nk (by omega)]
          exact hv i hi
        have hv2 : ∀ i, i < k + 1 → (zsI h2 366 k (zJ g)).1 366 i = zJ (gup s k g i) := fun i hi => by
          by_cases e : i = k
          · subst e
            rw [zI_eq, gup_eq]
          · rw [gup_ne e]
            exact hv1 i (by omega)
        generalize zsI h2 366 k (zJ g) = h3 at *
        obtain ⟨r2, hr2⟩ : ∃ r2, min (gbg s k + 1) lim - g = r2 + 1 := ⟨min (gbg s k + 1) lim - g - 1, by omega⟩
        rw [hr2] at he
        cases hc : gcan (gAg (gN S) (gwp S)) s k g
        · rw [if_pos zbI_f, zJ_al]
          refine zw_some ⟨hgm, rfl, hz.trans z1, hv1, ?_⟩
          rw [he, gfrs_n (by rw [hc]; exact if_neg (by decide)), show min (gbg s k + 1) lim - (g + 1) = r2 by omega]
        · rw [if_neg (by decide)]
          have tail : zw (f_Mod_packs_j123 (f_Mod_packs n) h3 (zJ k) (zJ (gbg s k)) (zJ lim) (zJ g) (zJ (gbg (gup s k g) (k + 1))) (zJ (k + 1))) (Sum.elim (fun s' => g < min (gbg s k + 1) lim ∧ s'.1 = zJ (g + 1) ∧ zfm [(366, 366, 0, 9999)] h s'.2 ∧ (∀ i, i < k → s'.2.1 366 i = zJ (s i)) ∧ gpk (gAg (gN S) (gwp S)) lim (d + 1) s k = gfrs (fun g => if gcan (gAg (gN S) (gwp S)) s k g = true then gpk (gAg (gN S) (gwp S)) lim d (gup s k g) (k + 1) else none) (min (gbg s k + 1) lim - (g + 1)) (g + 1)) fun y => (∃ g s', y = .inl g ∧ gpk (gAg (gN S) (gwp S)) lim (d + 1) s k = some s' ∧ zfm [(366, 366, 0, 9999)] h g ∧ (∀ i, i < k → g.1 366 i = zJ (s i)) ∧ ∀ i, i < gpp S → g.1 366 i = zJ (s' i)) ∨ (∃ g, y = .inr g ∧ gpk (gAg (gN S) (gwp S)) lim (d + 1) s k = none ∧ zfm [(366, 366, 0, 9999)] h g ∧ ∀ i, i < k → g.1 366 i = zJ (s i))) := by
            unfold f_Mod_packs_j123
            refine zw_bi (packs_r ho hl d n (k + 1) (gup s k g) h3 (by omega) (by omega) hv2 (by rw [gbg_up]; omega) (hi2.fr z1 rfl)) ?_
            rintro ⟨y, h4⟩ ⟨q, u, ⟨s', t1, t2, t3⟩ | ⟨t1, t2⟩⟩
            · dsimp only at q u t2 t3 ⊢
              rw [t2, if_neg (by decide)]
              refine zw_some (Or.inl ⟨h4, s', rfl, ?_, (hz.trans z1).trans q, fun i hi => by rw [u i (by omega), gup_ne (by omega)], t3⟩)
              rw [he]
              exact gfrs_s (by rw [hc, if_pos rfl]; exact t1)
            · dsimp only at q u t2 ⊢
              rw [t2, if_pos rfl, zJ_al]
              refine zw_some ⟨hgm, rfl, (hz.trans z1).trans q, fun i hi => by rw [u i (by omega), gup_ne (by omega)], ?_⟩
              rw [he, gfrs_n (by rw [hc, if_pos rfl]; exact t1), show min (gbg s k + 1) lim - (g + 1) = r2 by omega]
          rw [gbg_up] at tail
          by_cases hgb : g = gbg s k
          · rw [if_neg (fun hne => hne (by rw [hgb])), zJ_al, zJ_al]
            rw [show max (gbg s k) (g + 1) = gbg s k + 1 by omega] at tail
            exact tail
          · rw [if_pos (fun he => hgb ((zJ_inj (by omega) (by omega)).mp he)), zJ_al]
            rw [show max (gbg s k) (g + 1) = gbg s k by omega] at tail
            exact tail
      · have e : min (gbg s k + 1) lim - g = 0 := by omega
        rw [e] at he
        have fin : ∀ (Z : Int32 × zH → Prop), zw (some (.inr (.inr h2)) : Option ((Int32 × zH) ⊕ (zH ⊕ zH))) (Sum.elim Z fun y => (∃ g s', y = .inl g ∧ gpk (gAg (gN S) (gwp S)) lim (d + 1) s k = some s' ∧ zfm [(366, 366, 0, 9999)] h g ∧ (∀ i, i < k → g.1 366 i = zJ (s i)) ∧ ∀ i, i < gpp S → g.1 366 i = zJ (s' i)) ∨ (∃ g, y = .inr g ∧ gpk (gAg (gN S) (gwp S)) lim (d + 1) s k = none ∧ zfm [(366, 366, 0, 9999)] h g ∧ ∀ i, i < k → g.1 366 i = zJ (s i))) := fun Z => zw_some (Or.inr ⟨h2, rfl, he, hz, hv⟩)
        by_cases h1 : gbg s k < g
        · rw [if_pos (by rw [zJ_lt (by omega) (by omega)]; exact h1)]
          exact fin _
        · rw [if_neg (by rw [zJ_lt (by omega) (by omega)]; exact h1), if_pos (by rw [zJ_le (by omega) (by omega)]; omega)]
          exact fin _
    · rintro y (⟨g, s', rfl, a1, a2, a3, a4⟩ | ⟨g, rfl, a1, a2, a3⟩)
      · exact zw_some ⟨a2, a3, Or.inl ⟨s', a1, rfl, a4⟩⟩
      · exact zw_some ⟨a2, a3, Or.inr ⟨a1, rfl⟩⟩
def gpa (L : Nat) (s' : Nat → Nat) (k : Nat) : Int32 := if k = 0 then zJ L else zJ (s' (k - 1))
theorem pack_c {h : zH} {S : yG} {k L : Nat} {s' : Nat → Nat} (ho : yOK S) (hi : yIc h S) (hk : k ≤ gpp S) (hL : L ≤ gpp S) (h1 : gpk (gAg (gN S) (gwp S)) L (gpp S) (fun _ => 0) 0 = some s') (h2 : ∀ l, l < L → gpk (gAg (gN S) (gwp S)) l (gpp S) (fun _ => 0) 0 = none) : zw (f_Main_pack h (zfj k)) fun x => ∃ g, x = .inl (gpa L s' k, g) ∧ zfm yLc h g ∧ yIc g S := by
  have o4 : gpp S ≤ 8 := ho.2.1.1.2.2.2.1
  have h5 : h.1 156 5 = zJ (gpp S) := hi.2.2.1.1.2.2.2.2.1
  unfold f_Main_pack
  rw [if_neg (zfj_nlt (by omega)), h5, if_pos ((zfj_ltJ' (by omega) (by omega)).mpr hk)]
  refine zw_bi (packArrange_c o4 (gCp_of ho hi) h5 hL h1 h2) ?_
  rintro ⟨v, g⟩ ⟨rfl, q, a⟩
  dsimp only at q a ⊢
  cases k with
  | zero =>
    rw [zfj_0, if_neg (fun h => h rfl)]
    exact zw_some ⟨g, rfl, q.sub rfl, hi.fr ho q rfl⟩
  | succ k =>
    rw [zfj_s, if_pos (fun h => (zJ_m1 (by omega)).mp h), zb_t (by omega) (by omega), zg_tr, zJ_c (by omega), a k (by omega)]
    exact zw_some ⟨g, rfl, q.sub rfl, hi.fr ho q rfl⟩
theorem pack_r {g0 : zH} {S : yG} {k L : Nat} {s' : Nat → Nat} (ho : yOK S) (hi0 : yIr g0 S) (hk : k ≤ gpp S) (hL : L ≤ gpp S) (h1 : gpk (gAg (gN S) (gwp S)) L (gpp S) (fun _ => 0) 0 = some s') (h2 : ∀ l, l < L → gpk (gAg (gN S) (gwp S)) l (gpp S) (fun _ => 0) 0 = none) : zw (f_Mod_pack g0 (zfj k)) fun y => yRA (.inl (gpa L s' k)) y ∧ zfm yLr g0 y.2 ∧ yIr y.2 S := by
  have o4 : gpp S ≤ 8 := ho.2.1.1.2.2.2.1
  obtain ⟨hi, qc, z1⟩ := code_r hi0
  unfold f_Mod_pack
  rw [Option.bind_some]
  generalize zsI g0 333 2 0 = h at *
  have e4 : h.1 347 4 = zJ (gpp S) := by
    obtain ⟨⟨s1, s2, s3, s4, s5, -⟩, -⟩ := id hi.2.2.1
    simpa only [Nat.zero_add] using s5
  rw [e4, isIn_cell (by omega) (by omega), Option.bind_some, decide_eq_true hk, if_pos (by decide)]
  refine zw_bi (P := fun y => y.1 = zJ L ∧ zfm [(366, 366, 0, 9999)] h y.2 ∧ ∀ i, i < gpp S → y.2.1 366 i = zJ (s' i)) (zw_for L (fun l st => st.1 = zJ l ∧ zfm [(366, 366, 0, 9999)] h st.2) (by omega) ⟨rfl, zfm.rfl'⟩ ?_) ?_
  · rintro l ⟨a, g⟩ hl ⟨rfl, hz⟩
    dsimp only at hz ⊢
    unfold f_Mod_pack_b29
    refine zw_bi (packs_r (lim := l) ho (by omega) (gpp S) 9 0 (fun _ => 0) g (by omega) (by omega) (fun i hi => absurd hi (Nat.not_lt_zero i)) (Nat.le_refl 0) (hi.fr hz rfl)) ?_
    rintro ⟨y, g2⟩ ⟨q, -, ⟨t, t1, t2, t3⟩ | ⟨t1, t2⟩⟩
    · have : l = L := by
        by_cases hlL : l < L
        · rw [h2 l hlL] at t1
          cases t1
        · omega
      subst this
      rw [h1] at t1
      cases t1
      dsimp only at q t2 t3 ⊢
      rw [t2, if_pos (by decide)]
      exact zw_some ⟨rfl, hz.trans q, t3⟩
    · dsimp only at q t2 ⊢
      have hlL : l < L := by
        by_cases e : l = L
        · subst e
          rw [h1] at t1
          cases t1
        · omega
      rw [t2, if_neg (fun h => h rfl), zJ_al]
      exact zw_some ⟨hlL, rfl, hz.trans q⟩
  · rintro ⟨v, g⟩ ⟨rfl, q, a⟩
    dsimp only at q a ⊢
    have zz : g.1 333 2 = 0 := (q.i (by rfl)).trans z1
    have hg : yIr g S := hi.fr q rfl
    cases k with
    | zero =>
      rw [zfj_0, if_neg (fun h => h rfl)]
      exact zw_some ⟨⟨zz, fun w hw => by cases hw; rfl⟩, qc.tr q rfl, hg⟩
    | succ k =>
      rw [zfj_s, if_pos (fun h => (zJ_m1 (by omega)).mp h), zb_t (by omega) (by omega), zg_tr, zJ_c (by omega), a k (by omega)]
      exact zw_some ⟨⟨zz, fun w hw => by cases hw; rfl⟩, qc.tr q rfl, hg⟩
theorem q_pack {h : zH} {v : Int32} (hi : yInv h) : zw (f_L_pack h v) fun x => zw (f_Mod_pack x.2 v) fun y => yEnd x y := by
  obtain ⟨S, ho, hc, hr⟩ := hi
  have o4 : gpp S ≤ 8 := ho.2.1.1.2.2.2.1
  have bad : (∀ g, yIc g S → f_Main_pack g v = some (.inr (1, g))) → (∀ g, yIr (zsI g 333 2 0) S → f_Mod_pack g v = (f_Mod_fail (zsI g 333 2 0) 1).bind fun x => some (x.1, x.2)) → zw (f_L_pack h v) fun x => zw (f_Mod_pack x.2 v) fun y => yEnd x y := by
    intro h1 h2
    unfold f_L_pack
    refine yBad (f := fun g => f_Mod_pack g v) (c := 1) (m := 1) ho hc hr ⟨_, h1 h hc, h, rfl, zfm.rfl', hc⟩ ?_ (fun g hg => ?_) (Or.inl rfl)
    · intro g
      rfl
    · show zw (f_Mod_pack g v) _
      rw [h2 g (code_r hg).1]
      exact zw_bi (yFail hg (c := 1)) (fun x hx => zw_some hx)
  have e4 : ∀ g, yIr g S → g.1 347 4 = zJ (gpp S) := fun g hg => by
    obtain ⟨⟨s1, s2, s3, s4, s5, -⟩, -⟩ := id hg.2.2.1
    simpa only [Nat.zero_add] using s5
  rcases yneg2 v with hv | ⟨k, hk, rfl⟩
  · refine bad (fun g hg => ?_) (fun g hg => ?_)
    · unfold f_Main_pack f_Main_pack_j19
      rw [if_pos hv]
    · unfold f_Mod_pack
      rw [Option.bind_some, isIn_cell2 hv, Option.bind_some, if_neg (fun h => h rfl)]
  · by_cases hkp : k ≤ gpp S
    · obtain ⟨L, s', a1, a2, a3⟩ := gleast (f := fun l => gpk (gAg (gN S) (gwp S)) l (gpp S) (fun _ => 0) 0) (gpp S) (gpk_ok (gpp S) (fun _ => 0) 0 (by omega) (Nat.le_refl 0))
      unfold f_L_pack
      exact yGood (f := fun g => f_Mod_pack g (zfj k)) ho hr (pack_c ho hc hkp a1 a2 a3) (fun g hg => pack_r ho hg hkp a1 a2 a3)
    · refine bad (fun g hg => ?_) (fun g hg => ?_)
      · have h5 : g.1 156 5 = zJ (gpp S) := hg.2.2.1.1.2.2.2.2.1
        unfold f_Main_pack f_Main_pack_j19
        rw [if_neg (zfj_nlt hk), h5, if_neg (fun h => hkp ((zfj_ltJ' hk (by omega)).mp h))]
      · unfold f_Mod_pack
        rw [Option.bind_some, e4 _ hg, isIn_cell (by omega) hk, Option.bind_some, decide_eq_false hkp, if_neg (by decide)]
