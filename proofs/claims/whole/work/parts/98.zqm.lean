/-! ===== the reference reads takes, fills, gates ===== -/
theorem grc_2 {X : gX} {st : Nat} : grc X st = 2 ↔ gcc X st = 2 := by
  have hw := gwc_rng (ypk (gnm X st) (gsz X st))
  unfold grc gcc
  by_cases h0 : st < X.1
  · rw [if_pos h0, if_pos h0]
    by_cases h1 : glt X st = true
    · rw [if_pos h1, if_pos h1]
      refine ⟨fun h => by omega, fun h => ?_⟩
      split at h <;> omega
    · rw [if_neg h1, if_neg h1]
      by_cases h2 : gdt X st = true
      · rw [if_pos h2, if_pos h2]
      · rw [if_neg h2, if_neg h2]
        refine ⟨fun h => ?_, fun h => ?_⟩
        · split at h <;> omega
        · split at h
          · omega
          · split at h <;> omega
  · rw [if_neg h0, if_neg h0]
theorem gGd.stepOn' {g : zH} {X : gX} {D : gD} {C L st : Nat} (hX : gOKx X) (hB : grB g X) (hG : gGd g X D C L st) (hst : st ≤ X.1) : zw (f_Mod_stepOn g) fun g' => zfm [(333, 333, 18, 18), (333, 333, 20, 23)] g g' ∧ gGd g' X D C L (gnt X st) := by
  refine zw_mono (stepOn_r hX hB hst hG.1) ?_
  rintro g' ⟨q, t⟩
  exact ⟨q, t, (q.i (by rfl)).trans hG.2.1, hG.2.2.fr q (fun a k h1 h2 => zin_n2 (by omega) (by omega))⟩
theorem readTake_r {h : zH} {X : gX} {st : Nat} {D : gD} (hX : gOKx X) (hB : grB h X) (hG : gGd h X D (dNc D) (dL D) st) (hk : gOKd D) (hn : gNE D) (hst : st ≤ X.1) : zw (f_Mod_readTake h) fun g => grQ h X (gTakeC X D (gnt X st)) g := by
  obtain ⟨a1, a2, a3, a4⟩ := gOK_n hk
  unfold f_Mod_readTake
  refine zw_bi (hG.stepOn hX hB hst) ?_
  rintro g1 ⟨q1, G1⟩
  have n2 := (gnt_spec (X := X) hst).2.1
  generalize gnt X st = s1 at *
  have hB1 := hB.q q1
  have cl := giC_le (X := X) (D := D) (st := s1)
  have bad : ∀ c, 1 ≤ c → c ≤ 5 → gTakeC X D s1 = .inl (c, s1) → ∀ v, zw (f_Mod_readTake_j34 (gbad g1 c s1) v) fun g => grQ h X (gTakeC X D s1) g := by
    intro c c1 c5 hc v
    have b := gbad_24 (h := g1) (c := c) (st := s1) c1 (by omega)
    unfold f_Mod_readTake_j34 f_Mod_readTake_j59
    rw [if_pos b, if_neg b, hc]
    exact zw_some ⟨q1.trans gbad_q, Or.inl ⟨_, rfl, gBd_of c1 c5⟩⟩
  rw [inputNow_r hX hB1 n2 G1 (Nat.le_refl _) hk, Option.bind_some]
  by_cases h0 : giC X D s1 = 0
  · obtain ⟨c5, c6, c7⟩ := giC_no h0
    obtain ⟨e41, e42⟩ := G1.2.2.2.2.2.2.2.2.2.2 (gfd X D s1) c7
    obtain ⟨b41, b42⟩ := hk.2.2.2.2.1 (gfd X D s1) c7
    have e6 : (6 : Int32) + zJ (gfd X D s1) = zJ (6 + gfd X D s1) := zJ_la (n := 6)
    rw [if_pos h0]
    dsimp only
    rw [if_neg (fun h : ¬ g1.1 333 24 = 0 => h G1.2.1), e6, zb_t (by omega) (by omega), zg_tr, zJ_c (by omega), e41]
    by_cases hco : dCo D (gfd X D s1) = 0
    · rw [if_neg (fun h => h ((zfj_m1 (by omega)).mpr hco)), show (3 : Int32) = zJ 3 from rfl, wrong_r G1.2.1 G1.1.2.2.1, Option.bind_some]
      exact bad 3 (by omega) (by omega) (by unfold gTakeC; rw [if_pos h0, if_pos hco]) _
    · rw [if_pos (fun h => hco ((zfj_m1 (by omega)).mp h))]
      by_cases htk : dTk D (gfd X D s1) = 0
      · unfold f_Mod_readTake_j34
        rw [if_neg (fun h : ¬ g1.1 333 24 = 0 => h G1.2.1), e6, zb_t (by omega) (by omega), zg_tr, zJ_c (by omega), e42, if_pos ((zfj_m1 (by omega)).mpr htk)]
        unfold f_Mod_readTake_j59
        rw [if_pos G1.2.1]
        refine zw_bi (G1.stepOn hX hB1 n2) ?_
        rintro g2 ⟨q2, G2⟩
        have m2 := (gnt_spec (X := X) n2).2.1
        have hB2 := hB1.q q2
        have eR : gTakeC X D s1 = if glC X D (gnt X s1) = 0 then gEnd X (gTake D (gfd X D s1) (gfd X D (gnt X s1))) (gnt X (gnt X s1)) else .inl (glC X D (gnt X s1), gnt X s1) := by
          unfold gTakeC
          rw [if_pos h0, if_neg hco, if_pos htk]
        rw [eR]
        generalize gnt X s1 = s2 at *
        have cl2 := glC_le (X := X) (D := D) (st := s2)
        rw [lineNow_r hX hB2 m2 G2 (Nat.le_refl _) hk, Option.bind_some]
        by_cases h1 : glC X D s2 = 0
        · obtain ⟨f5, f6, f7⟩ := glC_no h1
          have hl := G2.2.2.2.2.2.2.2.1 (gfd X D s2) f7
          have e22 : (22 : Int32) + zJ (gfd X D s2) = zJ (22 + gfd X D s2) := zJ_la (n := 22)
          rw [if_pos h1, if_pos h1]
          dsimp only
          rw [if_pos G2.2.1, e6, zb_t (by omega) (by omega), zg_tr, Option.bind_some, e22, zb_t (by omega) (by omega), zg_tr, zg_tr, zJ_c (by omega), zJ_c (by omega), zI_ne (by decide), hl.2.2, gseen_2, Option.bind_some]
          have Q : zfm [(342, 342, 6 + gfd X D s1, 6 + gfd X D s1), (340, 340, 22 + gfd X D s2, 22 + gfd X D s2)] g2 (zsI (zsI g2 342 (6 + gfd X D s1) (zJ (gfd X D s2))) 340 (22 + gfd X D s2) (zJ ((dT D (gfd X D s2)).toNat + 2 * true.toNat))) := (zfm.rfl'.I (zin_1 (by omega) (by omega) (by omega) (by omega))).I (zin_2 (zin_1 (by omega) (by omega) (by omega) (by omega)))
          have w1 : (zsI (zsI g2 342 (6 + gfd X D s1) (zJ (gfd X D s2))) 340 (22 + gfd X D s2) (zJ ((dT D (gfd X D s2)).toNat + 2 * true.toNat))).1 342 (6 + gfd X D s1) = zJ (gfd X D s2) := by
            rw [zI_ne (by decide), zI_eq]
          have w2 : (zsI (zsI g2 342 (6 + gfd X D s1) (zJ (gfd X D s2))) 340 (22 + gfd X D s2) (zJ ((dT D (gfd X D s2)).toNat + 2 * true.toNat))).1 340 (22 + gfd X D s2) = zJ ((dT D (gfd X D s2)).toNat + 2 * true.toNat) := zI_eq
          generalize zsI (zsI g2 342 (6 + gfd X D s1) (zJ (gfd X D s2))) 340 (22 + gfd X D s2) (zJ ((dT D (gfd X D s2)).toNat + 2 * true.toNat)) = g5 at *
          have Qq : zfm gFq g2 g5 := Q.sub' (fun a b hab => gFq_in (by
            unfold zin at hab
            simp only [List.any_cons, List.any_nil, Bool.or_false, Bool.or_eq_true, Bool.and_eq_true, Nat.ble_eq] at hab
            rcases hab with hab | hab
            · exact Or.inr (Or.inr ⟨by omega, Or.inr (Or.inr (Or.inl ⟨by omega, by omega⟩))⟩)
            · exact Or.inr (Or.inr ⟨by omega, Or.inl ⟨by omega, by omega⟩⟩)))
          have G5 : gGd g5 X (gTake D (gfd X D s1) (gfd X D s2)) (dNc D) (dL D) s2 := by
            refine ⟨G2.1.fr Q (fun k h1 h2 => zin_n2 (by omega) (by omega)), (Q.i (zin_n2 (by omega) (by omega))).trans G2.2.1, ?_⟩
            obtain ⟨d1, d2, d3, d4, d5, d6, d7, d8, d9⟩ := G2.2.2
            refine ⟨(Q.i (zin_n2 (by omega) (by omega))).trans d1, (Q.i (zin_n2 (by omega) (by omega))).trans d2, (Q.i (zin_n2 (by omega) (by omega))).trans d3, (Q.i (zin_n2 (by omega) (by omega))).trans d4, (Q.i (zin_n2 (by omega) (by omega))).trans d5, fun l hl => ?_, fun l hl => (d7 l hl).fr (fun h => (hk.1.2.2.2 l h hl).2.2.1) (fun a k h1 h2 => Q.i (zin_n2 (by omega) (by omega))) (fun k h1 h2 => Q.i (zin_n2 (by omega) (by omega))), fun c hc => ⟨(Q.i (zin_n2 (by omega) (by omega))).trans (d8 c hc).1, fun k hk => (Q.i (zin_n2 (by omega) (by omega))).trans ((d8 c hc).2 k hk)⟩, fun i hi => ⟨(Q.i (zin_n2 (by omega) (by omega))).trans (d9 i hi).1, ?_⟩⟩
            · obtain ⟨b1, b2, b3⟩ := d6 l hl
              refine ⟨(Q.i (zin_n2 (by omega) (by omega))).trans b1, fun i hi => (Q.i (zin_n2 (by omega) (by omega))).trans (b2 i hi), ?_⟩
              show _ = zJ ((dT D l).toNat + 2 * (gu (dK D) (gfd X D s2) true l).toNat)
              by_cases e : l = gfd X D s2
              · subst e
                rw [gu_eq, w2]
              · rw [gu_ne e, Q.i (zin_n2 (by omega) (by omega))]
                exact b3
            · show _ = zfj (gu (dTk D) (gfd X D s1) (gfd X D s2 + 1) i)
              by_cases e : i = gfd X D s1
              · subst e
                rw [gu_eq, w1]
                rfl
              · rw [gu_ne e, Q.i (zin_n2 (by omega) (by omega))]
                exact (d9 i hi).2
          refine zw_bi (G5.stepOn hX (hB2.q Qq) m2) ?_
          rintro g6 ⟨q6, G6⟩
          exact zw_some ⟨((q1.trans q2).trans Qq).trans q6, Or.inr ⟨_, _, rfl, G6, ok_Take hk f7, hn, (gnt_spec (X := X) m2).2.1⟩⟩
        · have bc := gbad_24 (h := g2) (c := glC X D s2) (st := s2) (by omega) (by omega)
          rw [if_neg h1, if_neg h1]
          dsimp only
          rw [if_neg bc]
          exact zw_some ⟨(q1.trans q2).trans gbad_q, Or.inl ⟨_, rfl, gBd_of (by omega) (by omega)⟩⟩
      · have b5 := gbad_24 (h := g1) (c := 5) (st := s1) (by omega) (by omega)
        unfold f_Mod_readTake_j34
        rw [if_neg (fun h : ¬ g1.1 333 24 = 0 => h G1.2.1), e6, zb_t (by omega) (by omega), zg_tr, zJ_c (by omega), e42, if_neg (fun h => htk ((zfj_m1 (by omega)).mp h)), show (5 : Int32) = zJ 5 from rfl, wrong_r G1.2.1 G1.1.2.2.1, Option.bind_some]
        unfold f_Mod_readTake_j59
        rw [if_neg b5]
        refine zw_some ⟨q1.trans gbad_q, Or.inl ⟨(5, s1), ?_, gBd_of (by omega) (by omega)⟩⟩
        unfold gTakeC
        rw [if_pos h0, if_neg hco, if_neg htk]
  · have bc := gbad_24 (h := g1) (c := giC X D s1) (st := s1) (by omega) (by omega)
    rw [if_neg h0]
    dsimp only
    rw [if_pos bc]
    exact bad _ (by omega) (by omega) (by unfold gTakeC; rw [if_neg h0]) _
theorem readFill_r {h : zH} {X : gX} {st : Nat} {D : gD} (hX : gOKx X) (hB : grB h X) (hG : gGd h X D (dNc D) (dL D) st) (hk : gOKd D) (hn : gNE D) (hst : st ≤ X.1) : zw (f_Mod_readFill h) fun g => grQ h X (gFillC X D st) g := by
  obtain ⟨x1, x2⟩ := id hX
  obtain ⟨a1, a2, a3, a4⟩ := gOK_n hk
  unfold f_Mod_readFill f_Mod_readFill_j16 gFillC
  rw [hG.2.2.2.2.2.2.1]
  cases hf : dF D
  · rw [if_pos (show ¬ zbI false = 1 by decide), if_neg (show ¬ ((false : Bool) = true) by decide), if_pos hG.2.1]
    refine zw_bi (hG.stepOn hX hB hst) ?_
    rintro g1 ⟨q1, G1⟩
    have n2 := (gnt_spec (X := X) hst).2.1
    generalize gnt X st = s1 at *
    have hB1 := hB.q q1
    have wl := grc_le (X := X) (st := s1)
    have k2 : zJ (grc X s1) = 2 ↔ grc X s1 = 2 := zJ_inj (by omega) (by decide)
    have sp := gstop_spec n2
    have ez : zJ (gstop X s1) - zJ s1 = zJ (gsz X s1) := zJ_sub sp.1
    have hzl : gsz X s1 ≤ 900 := by
      unfold gsz
      omega
    have bad : ∀ c, 1 ≤ c → c ≤ 5 → zw (f_Mod_readFill_j70 (gbad g1 c s1)) fun g => grQ h X (.inl (c, s1)) g := by
      intro c c1 c5
      have b := gbad_24 (h := g1) (c := c) (st := s1) c1 (by omega)
      unfold f_Mod_readFill_j70
      rw [if_neg b]
      exact zw_some ⟨q1.trans gbad_q, Or.inl ⟨_, rfl, gBd_of c1 c5⟩⟩
    have bad2 : zw (f_Mod_readFill_j65 g1) fun g => grQ h X (.inl (2, s1)) g := by
      unfold f_Mod_readFill_j65
      rw [show (2 : Int32) = zJ 2 from rfl, wrong_r G1.2.1 G1.1.2.2.1, Option.bind_some]
      exact bad 2 (by omega) (by omega)
    rw [G1.1.2.1]
    by_cases h2 : gcc X s1 = 2
    · obtain ⟨w0, w1⟩ := gcc_2 h2
      have hz1 : 1 ≤ gsz X s1 := by
        have := sp.2.2 w0
        unfold gsz
        omega
      have bl := x2 s1 w0
      rw [if_pos (k2.mpr (grc_2.mpr h2)), if_pos h2, G1.1.2.2.2.1, G1.1.2.2.1, ez, G1.1.2.2.2.2 w0 w1]
      by_cases hsz : gsz X s1 = 1
      · rw [if_neg (by rw [zJ_llt (n := 1) (by omega) (by decide)]; show ¬ 1 < gsz X s1; omega)]
        by_cases hv : X.2 s1 - 48 ≤ 2
        · rw [if_pos (by rw [zJ_lel (n := 2) (by omega) (by decide)]; exact hv), if_pos ⟨hsz, hv⟩]
          unfold f_Mod_readFill_j70
          rw [if_pos G1.2.1, G1.1.2.2.2.2 w0 w1, Option.bind_some, Option.bind_some]
          have Q : zfm [(336, 336, 8, 9)] g1 (zsI (zsI g1 336 8 (zJ (X.2 s1 - 48))) 336 9 1) := (zfm.rfl'.I (by rfl)).I (by rfl)
          have Qq : zfm gFq g1 (zsI (zsI g1 336 8 (zJ (X.2 s1 - 48))) 336 9 1) := Q.sub rfl
          have w8 : (zsI (zsI g1 336 8 (zJ (X.2 s1 - 48))) 336 9 1).1 336 8 = zJ (X.2 s1 - 48) := by
            rw [zI_nk (by decide), zI_eq]
          have w9 : (zsI (zsI g1 336 8 (zJ (X.2 s1 - 48))) 336 9 1).1 336 9 = 1 := zI_eq
          generalize zsI (zsI g1 336 8 (zJ (X.2 s1 - 48))) 336 9 1 = g2 at *
          have G2 : gGd g2 X (gFill D (X.2 s1 - 48)) (dNc D) (dL D) s1 := by
            refine ⟨G1.1.fr Q (fun k h1 h2 => zin_n1 (by omega)), (Q.i (by rfl)).trans G1.2.1, ?_⟩
            obtain ⟨d1, d2, d3, d4, d5, d6, d7, d8, d9⟩ := G1.2.2
            exact ⟨(Q.i (by rfl)).trans d1, (Q.i (by rfl)).trans d2, (Q.i (by rfl)).trans d3, w8, w9, fun l hl => (d6 l hl).fr (hk.2.1 l hl) (fun a k h1 h2 => Q.i (zin_n1 (by omega))) (fun k h1 h2 => Q.i (zin_n1 (by omega))), fun l hl => (d7 l hl).fr (fun h => (hk.1.2.2.2 l h hl).2.2.1) (fun a k h1 h2 => Q.i (zin_n1 (by omega))) (fun k h1 h2 => Q.i (zin_n1 (by omega))), fun c hc => ⟨(Q.i (zin_n1 (by omega))).trans (d8 c hc).1, fun k hk => (Q.i (zin_n1 (by omega))).trans ((d8 c hc).2 k hk)⟩, fun i hi => ⟨(Q.i (zin_n1 (by omega))).trans (d9 i hi).1, (Q.i (zin_n1 (by omega))).trans (d9 i hi).2⟩⟩
          refine zw_bi (G2.stepOn hX (hB1.q Qq) n2) ?_
          rintro g3 ⟨q3, G3⟩
          exact zw_some ⟨(q1.trans Qq).trans q3, Or.inr ⟨_, _, rfl, G3, ok_Fill hk hv, hn, (gnt_spec (X := X) n2).2.1⟩⟩
        · rw [if_neg (by rw [zJ_lel (n := 2) (by omega) (by decide)]; exact hv), if_neg (fun h => hv h.2)]
          exact bad2
      · rw [if_pos (by rw [zJ_llt (n := 1) (by omega) (by decide)]; show 1 < gsz X s1; omega), if_neg (fun h => hsz h.1)]
        exact bad2
    · rw [if_neg (fun h => h2 (grc_2.mp (k2.mp h))), if_neg h2, show (1 : Int32) = zJ 1 from rfl, wrong_r G1.2.1 G1.1.2.2.1, Option.bind_some]
      exact bad 1 (by omega) (by omega)
  · have b5 := gbad_24 (h := h) (c := 5) (st := st) (by omega) (by omega)
    rw [if_neg (show ¬ ¬ zbI true = 1 by decide), if_pos rfl, show (5 : Int32) = zJ 5 from rfl, wrong_r hG.2.1 hG.1.2.2.1, Option.bind_some, if_neg b5]
    exact zw_some ⟨gbad_q, Or.inl ⟨_, rfl, gBd_of (by omega) (by omega)⟩⟩
/-! gates -/
theorem readGate_bad68 {g : zH} {v w : Int32} (h24 : g.1 333 24 ≠ 0) : f_Mod_readGate_j68 g v w = some g := by
  unfold f_Mod_readGate_j68
  rw [if_neg h24]
theorem readGate_bad24 {g : zH} {v : Int32} (h24 : g.1 333 24 ≠ 0) (hn : f_Mod_newLines g = some v) : f_Mod_readGate_j24 g = some g := by
  unfold f_Mod_readGate_j24
  rw [hn, Option.bind_some, takeName_bad h24, Option.bind_some, mark_bad h24, Option.bind_some, which60_bad h24, Option.bind_some, if_pos h24, readGate_bad68 h24]
theorem readGate_bad {g : zH} (h24 : g.1 333 24 ≠ 0) : f_Mod_readGate g = some g := by
  unfold f_Mod_readGate
  rw [wordHere_bad h24, Option.bind_some, if_pos rfl, readGate_bad24 h24 rfl]
/-- the gate's lines so far -/
def grP (g : zH) (D : gD) : Prop := ∀ j, j < dmn D (dL D) → g.1 339 (3 * (22 + dL D) + j) = zJ (dfr D (dL D) j)
theorem gateFrom_r {h : zH} {X : gX} {least most k st : Nat} {D : gD} (hX : gOKx X) (hB : grB h X) (hG : gGd h X D (dNc D) (dL D + 1) st) (hk : gOKd D) (hp : gPd D k 0) (hn : gNE D) (hst : st ≤ X.1) (hlm : least = (if k = 0 then 1 else 2)) (hmm : most = if k = 0 then 1 else 3) (hk5 : k ≤ 5) (hr : dL D < dI D + 16) : zw (f_Mod_readGate_j89 h (zJ (22 + dL D)) (zJ k) (zJ most)) fun g => grQ h X (gfrm X least most 4 0 D st) g := by
  have hl1 : 1 ≤ least ∧ least ≤ most ∧ most ≤ 3 := by
    by_cases h0 : k = 0
    · rw [if_pos h0] at hlm hmm
      omega
    · rw [if_neg h0] at hlm hmm
      omega
  have kk0 : zJ k = 0 ↔ k = 0 := zJ_inj (b := 0) (by omega) (by decide)
  unfold f_Mod_readGate_j89
  generalize hR : gfrm X least most 4 0 D st = R
  refine zw_bi (P := fun y => zfm gFq h y.2 ∧ y.2.1 336 6 = zJ (dL D - dI D) ∧ ((∃ e, R = .inl e ∧ gBd y.2 e) ∨ ∃ E s i, y.1 = zJ i ∧ R = gEnd X (gDone E) s ∧ gGd y.2 X E (dNc E) (dL E + 1) s ∧ gOKd E ∧ gOKd (gDone E) ∧ gNE E ∧ gPd E k i ∧ grP y.2 E ∧ s ≤ X.1 ∧ dL E = dL D ∧ dI E = dI D)) (zw_for most (fun i s => s.1 = zJ i ∧ zfm gFq h s.2 ∧ s.2.1 336 6 = zJ (dL D - dI D) ∧ ((∃ e, R = .inl e ∧ gBd s.2 e) ∨ ∃ E p, gGd s.2 X E (dNc E) (dL E + 1) p ∧ gOKd E ∧ gPd E k i ∧ grP s.2 E ∧ gNE E ∧ dL E = dL D ∧ dI E = dI D ∧ p ≤ X.1 ∧ gfrm X least most (4 - i) i E p = R)) (by omega) ⟨rfl, zfm.rfl', hG.2.2.2.1, Or.inr ⟨D, st, hG, hk, hp, fun j hj => ?_, hn, rfl, rfl, hst, hR⟩⟩ ?_) ?_
  · rw [hp.2.1] at hj
    exact absurd hj (Nat.not_lt_zero j)
  · rintro i ⟨a, g⟩ hi ⟨rfl, hz, h6, hcase⟩
    dsimp only at hz h6 hcase ⊢
    unfold f_Mod_readGate_b93
    rcases hcase with ⟨e, e1, e2⟩ | ⟨E, p, s1, s2, s3, s4, s5, s6, s7, s8, s9⟩
    · have out : zw (some (.inr (zJ i, g)) : Option ((Int32 × zH) ⊕ (Int32 × zH))) (Sum.elim (fun s' => i < most ∧ s'.1 = zJ (i + 1) ∧ zfm gFq h s'.2 ∧ s'.2.1 336 6 = zJ (dL D - dI D) ∧ ((∃ e, R = .inl e ∧ gBd s'.2 e) ∨ ∃ E p, gGd s'.2 X E (dNc E) (dL E + 1) p ∧ gOKd E ∧ gPd E k (i + 1) ∧ grP s'.2 E ∧ gNE E ∧ dL E = dL D ∧ dI E = dI D ∧ p ≤ X.1 ∧ gfrm X least most (4 - (i + 1)) (i + 1) E p = R)) fun y => zfm gFq h y.2 ∧ y.2.1 336 6 = zJ (dL D - dI D) ∧ ((∃ e, R = .inl e ∧ gBd y.2 e) ∨ ∃ E s i, y.1 = zJ i ∧ R = gEnd X (gDone E) s ∧ gGd y.2 X E (dNc E) (dL E + 1) s ∧ gOKd E ∧ gOKd (gDone E) ∧ gNE E ∧ gPd E k i ∧ grP y.2 E ∧ s ≤ X.1 ∧ dL E = dL D ∧ dI E = dI D)) := zw_some ⟨hz, h6, Or.inl ⟨e, e1, e2⟩⟩
      by_cases him : most ≤ i
      · rw [if_pos (by rw [zJ_le (by omega) (by omega)]; exact him)]
        exact out
      · rw [if_neg (by rw [zJ_le (by omega) (by omega)]; exact him), if_pos e2.ne]
        exact out
    · obtain ⟨a1, a2, a3, a4⟩ := gOK_n s2
      have hB2 := hB.q hz
      have hf' : 4 - i = (4 - (i + 1)) + 1 := by omega
      rw [hf', gfrm] at s9
      have gl := glC_le (X := X) (D := E) (st := p)
      have fin : least ≤ i → (i = most ∨ gcc X p = 3) → zw (some (.inr (zJ i, g)) : Option ((Int32 × zH) ⊕ (Int32 × zH))) (Sum.elim (fun s' => i < most ∧ s'.1 = zJ (i + 1) ∧ zfm gFq h s'.2 ∧ s'.2.1 336 6 = zJ (dL D - dI D) ∧ ((∃ e, R = .inl e ∧ gBd s'.2 e) ∨ ∃ E p, gGd s'.2 X E (dNc E) (dL E + 1) p ∧ gOKd E ∧ gPd E k (i + 1) ∧ grP s'.2 E ∧ gNE E ∧ dL E = dL D ∧ dI E = dI D ∧ p ≤ X.1 ∧ gfrm X least most (4 - (i + 1)) (i + 1) E p = R)) fun y => zfm gFq h y.2 ∧ y.2.1 336 6 = zJ (dL D - dI D) ∧ ((∃ e, R = .inl e ∧ gBd y.2 e) ∨ ∃ E s i, y.1 = zJ i ∧ R = gEnd X (gDone E) s ∧ gGd y.2 X E (dNc E) (dL E + 1) s ∧ gOKd E ∧ gOKd (gDone E) ∧ gNE E ∧ gPd E k i ∧ grP y.2 E ∧ s ≤ X.1 ∧ dL E = dL D ∧ dI E = dI D)) := by
        intro hli hor
        have hdone : gOKd (gDone E) := ok_Done s2 s3 hk5 (by omega) (by omega) (fun h0 => by
          rw [if_pos h0] at hlm hmm
          omega) (by omega)
        refine zw_some ⟨hz, h6, Or.inr ⟨E, p, i, rfl, ?_, s1, s2, hdone, s5, s3, s4, s8, s6, s7⟩⟩
        unfold gEnd
        by_cases h3 : gcc X p = 3
        · rw [if_pos ⟨hli, h3⟩] at s9
          rw [if_pos h3]
          exact s9.symm
        · rw [if_neg (fun h => h3 h.2), if_pos (by omega)] at s9
          rw [if_neg h3]
          exact s9.symm
      by_cases him : most ≤ i
      · rw [if_pos (by rw [zJ_le (by omega) (by omega)]; exact him)]
        exact fin (by omega) (Or.inl (by omega))
      · rw [if_neg (by rw [zJ_le (by omega) (by omega)]; exact him), if_neg (fun h : ¬ g.1 333 24 = 0 => h s1.2.1)]
        have j129 : ¬ (least ≤ i ∧ gcc X p = 3) → zw (f_Mod_readGate_j129 g (zJ (22 + dL D)) (zJ k) (zJ most) (zJ i)) (Sum.elim (fun s' => i < most ∧ s'.1 = zJ (i + 1) ∧ zfm gFq h s'.2 ∧ s'.2.1 336 6 = zJ (dL D - dI D) ∧ ((∃ e, R = .inl e ∧ gBd s'.2 e) ∨ ∃ E p, gGd s'.2 X E (dNc E) (dL E + 1) p ∧ gOKd E ∧ gPd E k (i + 1) ∧ grP s'.2 E ∧ gNE E ∧ dL E = dL D ∧ dI E = dI D ∧ p ≤ X.1 ∧ gfrm X least most (4 - (i + 1)) (i + 1) E p = R)) fun y => zfm gFq h y.2 ∧ y.2.1 336 6 = zJ (dL D - dI D) ∧ ((∃ e, R = .inl e ∧ gBd y.2 e) ∨ ∃ E s i, y.1 = zJ i ∧ R = gEnd X (gDone E) s ∧ gGd y.2 X E (dNc E) (dL E + 1) s ∧ gOKd E ∧ gOKd (gDone E) ∧ gNE E ∧ gPd E k i ∧ grP y.2 E ∧ s ≤ X.1 ∧ dL E = dL D ∧ dI E = dI D)) := by
          intro hno
          rw [if_neg hno, if_neg (by omega)] at s9
          unfold f_Mod_readGate_j129
          have e3 : (3 : Int32) * zJ (22 + dL D) + zJ i = zJ (3 * (22 + dL D) + i) := by
            rw [show (3 : Int32) = zJ 3 from rfl, zJ_mul, zJ_add]
          rw [lineNow_r hX hB2 s8 s1 (by omega) s2, Option.bind_some, e3, zb_t (by omega) (by omega), zg_tr, zJ_c (by omega)]
          by_cases h0 : glC X E p = 0
          · obtain ⟨c5, c6, c7⟩ := glC_no h0
            rw [if_pos h0] at s9
            rw [if_pos h0]
            dsimp only
            rw [Option.bind_some]
            have Q : zfm [(339, 339, 3 * (22 + dL D) + i, 3 * (22 + dL D) + i)] g (zsI g 339 (3 * (22 + dL D) + i) (zJ (gfd X E p))) := zfm.rfl'.I (zin_1 (by omega) (by omega) (by omega) (by omega))
            have w : (zsI g 339 (3 * (22 + dL D) + i) (zJ (gfd X E p))).1 339 (3 * (22 + dL D) + i) = zJ (gfd X E p) := zI_eq
            generalize zsI g 339 (3 * (22 + dL D) + i) (zJ (gfd X E p)) = g2 at *
            have Qq : zfm gFq g g2 := Q.sub' (fun a b hab => gFq_in (by
              unfold zin at hab
              simp only [List.any_cons, List.any_nil, Bool.or_false, Bool.and_eq_true, Nat.ble_eq] at hab
              exact Or.inr (Or.inr ⟨by omega, Or.inr (Or.inl ⟨by omega, by omega⟩)⟩)))
            obtain ⟨o1, o2⟩ := ok_From s2 s3 c7
            have G2 : gGd g2 X (gFrom E (gfd X E p)) (dNc E) (dL E + 1) p := by
              refine ⟨s1.1.fr Q (fun k h1 h2 => zin_n1 (by omega)), (Q.i (zin_n1 (by omega))).trans s1.2.1, ?_⟩
              obtain ⟨d1, d2, d3, d4, d5, d6, d7, d8, d9⟩ := s1.2.2
              refine ⟨(Q.i (zin_n1 (by omega))).trans d1, (Q.i (zin_n1 (by omega))).trans d2, (Q.i (zin_n1 (by omega))).trans d3, (Q.i (zin_n1 (by omega))).trans d4, (Q.i (zin_n1 (by omega))).trans d5, fun l hl => ?_, fun l hl => ?_, fun c hc => ⟨(Q.i (zin_n1 (by omega))).trans (d8 c hc).1, fun k hk => (Q.i (zin_n1 (by omega))).trans ((d8 c hc).2 k hk)⟩, fun i hi => ⟨(Q.i (zin_n1 (by omega))).trans (d9 i hi).1, (Q.i (zin_n1 (by omega))).trans (d9 i hi).2⟩⟩
              · obtain ⟨b1, b2, b3⟩ := d6 l hl
                exact ⟨(Q.i (zin_n1 (by omega))).trans b1, fun i hi => (Q.i (zin_n1 (by omega))).trans (b2 i hi), (Q.i (zin_n1 (by omega))).trans b3⟩
              · have hl' : l < dL E := hl
                have := (d7 l hl).fr (h' := g2) (fun h => (s2.1.2.2.2 l h hl).2.2.1) (fun a k h1 h2 => Q.i (zin_n1 (by omega))) (fun k h1 h2 => Q.i (zin_n1 (by omega)))
                refine ⟨this.1, fun hi => ?_⟩
                show g2.1 337 (22 + l) = zJ (dkd E l) ∧ g2.1 338 (22 + l) = zJ (gu (dmn E) (dL E) (dmn E (dL E) + 1) l) ∧ ∀ i, i < gu (dmn E) (dL E) (dmn E (dL E) + 1) l → g2.1 339 (3 * (22 + l) + i) = zJ (gu2 (dfr E) (dL E) (dmn E (dL E)) (gfd X E p) l i)
                rw [gu_ne (by omega)]
                obtain ⟨b1, b2, b3⟩ := this.2 hi
                exact ⟨b1, b2, fun i hi => by rw [gu2_ne (by omega)]; exact b3 i hi⟩
            have P2 : grP g2 (gFrom E (gfd X E p)) := by
              intro j hj
              have hj' : j < gu (dmn E) (dL E) (dmn E (dL E) + 1) (dL E) := hj
              rw [gu_eq, s3.2.1] at hj'
              show g2.1 339 (3 * (22 + dL E) + j) = zJ (gu2 (dfr E) (dL E) (dmn E (dL E)) (gfd X E p) (dL E) j)
              rw [s3.2.1, s6]
              by_cases e : j = i
              · subst e
                rw [gu2_eq, w]
              · rw [gu2_ne (by omega), Q.i (zin_n1 (by omega)), ← s6]
                exact s4 j (by rw [s3.2.1]; omega)
            rw [if_neg (fun h : ¬ g2.1 333 24 = 0 => h G2.2.1)]
            refine zw_bi (G2.stepOn' hX (hB2.q Qq) s8) ?_
            rintro g3 ⟨q3, G3⟩
            refine zw_some ⟨by omega, by rw [zJ_al], (hz.trans Qq).trans (gFq_t q3), ?_, Or.inr ⟨gFrom E (gfd X E p), gnt X p, G3, o1, o2, fun j hj => (q3.i (zin_n2 (by omega) (by omega))).trans (P2 j hj), s5, s6, s7, (gnt_spec (X := X) s8).2.1, s9⟩⟩
            rw [G3.2.2.2.1]
            show zJ (dL E - dI E) = _
            rw [s6, s7]
          · rw [if_neg h0] at s9
            rw [if_neg h0]
            dsimp only
            rw [Option.bind_some]
            have bb : gBd (zsI (gbad g (glC X E p) p) 339 (3 * (22 + dL D) + i) 0) (glC X E p, p) := by
              obtain ⟨b1, b2, b3, b4⟩ := gBd_of (h := g) (c := glC X E p) (st := p) (by omega) (by omega)
              exact ⟨by rw [zI_ne (by decide)]; exact b1, by rw [zI_ne (by decide)]; exact b2, b3, b4⟩
            rw [if_pos bb.ne]
            refine zw_some ⟨by omega, by rw [zJ_al], (hz.trans gbad_q).I (gFq_in (Or.inr (Or.inr ⟨by omega, Or.inr (Or.inl ⟨rfl, by omega⟩)⟩))), ?_, Or.inl ⟨_, s9.symm, bb⟩⟩
            dsimp only
            rw [zI_ne (by decide), gbad_fm.i (by rfl)]
            exact h6
        have e117 : zw (f_Mod_readGate_j117 g (zJ (22 + dL D)) (zJ k) (zJ most) (zJ i) (zJ least) (zJ i)) (Sum.elim (fun s' => i < most ∧ s'.1 = zJ (i + 1) ∧ zfm gFq h s'.2 ∧ s'.2.1 336 6 = zJ (dL D - dI D) ∧ ((∃ e, R = .inl e ∧ gBd s'.2 e) ∨ ∃ E p, gGd s'.2 X E (dNc E) (dL E + 1) p ∧ gOKd E ∧ gPd E k (i + 1) ∧ grP s'.2 E ∧ gNE E ∧ dL E = dL D ∧ dI E = dI D ∧ p ≤ X.1 ∧ gfrm X least most (4 - (i + 1)) (i + 1) E p = R)) fun y => zfm gFq h y.2 ∧ y.2.1 336 6 = zJ (dL D - dI D) ∧ ((∃ e, R = .inl e ∧ gBd y.2 e) ∨ ∃ E s i, y.1 = zJ i ∧ R = gEnd X (gDone E) s ∧ gGd y.2 X E (dNc E) (dL E + 1) s ∧ gOKd E ∧ gOKd (gDone E) ∧ gNE E ∧ gPd E k i ∧ grP y.2 E ∧ s ≤ X.1 ∧ dL E = dL D ∧ dI E = dI D)) := by
          unfold f_Mod_readGate_j117
          by_cases hil : i < least
          · rw [if_pos (by rw [zJ_lt (by omega) (by omega)]; exact hil)]
            exact j129 (fun h => by omega)
          · rw [if_neg (by rw [zJ_lt (by omega) (by omega)]; exact hil), show (59 : Int32) = zJ 59 from rfl, isMarked_r (cc := 3) hX hB2 s8 s1.1 s1.2.1 (Or.inl ⟨rfl, rfl⟩), Option.bind_some]
            by_cases h3 : gcc X p = 3
            · rw [decide_eq_true h3, if_pos (by decide)]
              exact fin (by omega) (Or.inr h3)
            · rw [decide_eq_false h3, if_neg (by decide)]
              exact j129 (fun h => h3 h.2)
        by_cases h0 : k = 0
        · rw [if_neg (fun h => h (kk0.mpr h0))]
          rw [hlm, if_pos h0] at e117
          rw [hlm, if_pos h0]
          exact e117
        · rw [if_pos (fun h => h0 (kk0.mp h))]
          rw [hlm, if_neg h0] at e117
          rw [hlm, if_neg h0]
          exact e117
  · rintro ⟨v, g⟩ ⟨hz, h6, hcase⟩
    dsimp only at hz h6 hcase ⊢
    have hl22 := gOK_n hk
    rw [zb_t (by omega) (by omega), zg_tr, Option.bind_some, zg_tr, Option.bind_some, zI_ne (by decide), zI_ne (by decide), h6, Option.bind_some, zJ_c (by omega), zJ_al]
    have Q : zfm [(337, 338, 22 + dL D, 22 + dL D), (336, 336, 6, 6)] g (zsI (zsI (zsI g 337 (22 + dL D) (zJ k)) 338 (22 + dL D) v) 336 6 (zJ (dL D - dI D + OfNat.ofNat 1))) := ((zfm.rfl'.I (zin_1 (by omega) (by omega) (by omega) (by omega))).I (zin_1 (by omega) (by omega) (by omega) (by omega))).I (zin_2 (zin_1 (by omega) (by omega) (by omega) (by omega)))
    have w7 : (zsI (zsI (zsI g 337 (22 + dL D) (zJ k)) 338 (22 + dL D) v) 336 6 (zJ (dL D - dI D + OfNat.ofNat 1))).1 337 (22 + dL D) = zJ k := by
      rw [zI_ne (by decide), zI_ne (by decide), zI_eq]
    have w8 : (zsI (zsI (zsI g 337 (22 + dL D) (zJ k)) 338 (22 + dL D) v) 336 6 (zJ (dL D - dI D + OfNat.ofNat 1))).1 338 (22 + dL D) = v := by
      rw [zI_ne (by decide), zI_eq]
    have w6 : (zsI (zsI (zsI g 337 (22 + dL D) (zJ k)) 338 (22 + dL D) v) 336 6 (zJ (dL D - dI D + OfNat.ofNat 1))).1 336 6 = zJ (dL D - dI D + 1) := zI_eq
    generalize zsI (zsI (zsI g 337 (22 + dL D) (zJ k)) 338 (22 + dL D) v) 336 6 (zJ (dL D - dI D + OfNat.ofNat 1)) = g2 at *
    have Qq : zfm gFq g g2 := Q.sub' (fun a b hab => gFq_in (by
      unfold zin at hab
      simp only [List.any_cons, List.any_nil, Bool.or_false, Bool.or_eq_true, Bool.and_eq_true, Nat.ble_eq] at hab
      rcases hab with hab | hab
      · exact Or.inr (Or.inr ⟨by omega, Or.inl ⟨by omega, by omega⟩⟩)
      · exact Or.inr (Or.inl (by omega))))
    rcases hcase with ⟨e, e1, b1, b2, b3, b4⟩ | ⟨E, s, i, rfl, e1, e2, e3, e4, e5, e6, e7, e8, e9, e10⟩
    · exact zw_some ⟨hz.trans Qq, Or.inl ⟨e, e1, (Q.i (zin_n2 (by omega) (by omega))).trans b1, (Q.i (zin_n2 (by omega) (by omega))).trans b2, b3, b4⟩⟩
    · refine zw_some ⟨hz.trans Qq, Or.inr ⟨gDone E, s, e1, ⟨e2.1.fr Q (fun k h1 h2 => zin_n2 (by omega) (by omega)), (Q.i (zin_n2 (by omega) (by omega))).trans e2.2.1, ?_⟩, e4, e5, e8⟩⟩
      obtain ⟨a1, a2, a3, a4⟩ := gOK_n e3
      obtain ⟨d1, d2, d3, d4, d5, d6, d7, d8, d9⟩ := e2.2.2
      refine ⟨(Q.i (zin_n2 (by omega) (by omega))).trans d1, ?_, (Q.i (zin_n2 (by omega) (by omega))).trans d3, (Q.i (zin_n2 (by omega) (by omega))).trans d4, (Q.i (zin_n2 (by omega) (by omega))).trans d5, fun l hl => ?_, fun l hl => ?_, fun c hc => ⟨(Q.i (zin_n2 (by omega) (by omega))).trans (d8 c hc).1, fun k hk => (Q.i (zin_n2 (by omega) (by omega))).trans ((d8 c hc).2 k hk)⟩, fun i hi => ⟨(Q.i (zin_n2 (by omega) (by omega))).trans (d9 i hi).1, (Q.i (zin_n2 (by omega) (by omega))).trans (d9 i hi).2⟩⟩
      · rw [w6]
        congr 1
        show dL D - dI D + 1 = dL E + 1 - dI E
        omega
      · obtain ⟨b1, b2, b3⟩ := d6 l hl
        exact ⟨(Q.i (zin_n2 (by omega) (by omega))).trans b1, fun i hi => (Q.i (zin_n2 (by omega) (by omega))).trans (b2 i hi), (Q.i (zin_n2 (by omega) (by omega))).trans b3⟩
      · have hl' : l < dL E + 1 := hl
        by_cases e : l = dL E
        · subst e
          refine ⟨fun hi => absurd (show dL E < dI E from hi) (by omega), fun _ => ?_⟩
          show g2.1 337 (22 + dL E) = zJ (dkd E (dL E)) ∧ g2.1 338 (22 + dL E) = zJ (dmn E (dL E)) ∧ ∀ i, i < dmn E (dL E) → g2.1 339 (3 * (22 + dL E) + i) = zJ (dfr E (dL E) i)
          rw [e6.1, e6.2.1, e9, w7, w8]
          refine ⟨rfl, rfl, fun j hj => ?_⟩
          rw [Q.i (zin_n2 (by omega) (by omega)), ← e9]
          exact e7 j (by rw [e6.2.1]; exact hj)
        · exact (d7 l (by omega)).fr (fun h => (e3.1.2.2.2 l h (show l < dL E by omega)).2.2.1) (fun a k h1 h2 => Q.i (zin_n2 (by omega) (by omega))) (fun k h1 h2 => Q.i (zin_n2 (by omega) (by omega)))
