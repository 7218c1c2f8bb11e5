/-! ===== the reference reads a text ===== -/
theorem grQ.mono {h h' g : zH} {X : gX} {R : gR} (z : zfm gFq h h') (hq : grQ h' X R g) : grQ h X R g := ⟨z.trans hq.1, hq.2⟩
theorem readGate_r {h : zH} {X : gX} {st : Nat} {D : gD} (hX : gOKx X) (hB : grB h X) (hG : gGd h X D (dNc D) (dL D) st) (hk : gOKd D) (hn : gNE D) (hst : st ≤ X.1) : zw (f_Mod_readGate h) fun g => grQ h X (if gcc X st = 5 then gGate X D st else .inl (1, st)) g := by
  obtain ⟨a1, a2, a3, a4⟩ := gOK_n hk
  have hN := (grD_N hG.2.2 hk).1
  have bad : ∀ c R, 1 ≤ c → c ≤ 5 → R = .inl (c, st) → zw (f_Mod_readGate_j24 (gbad h c st)) fun g => grQ h X R g := by
    intro c R c1 c5 hc
    rw [readGate_bad24 (gbad_24 c1 (by omega)) rfl, hc]
    exact zw_some ⟨gbad_q, Or.inl ⟨_, rfl, gBd_of c1 c5⟩⟩
  unfold f_Mod_readGate
  rw [wordHere_r hX hB hst hG.1 hG.2.1, Option.bind_some]
  by_cases h5 : gcc X st = 5
  · rw [if_pos h5, if_pos h5]
    by_cases h6 : gsz X st ≤ 6
    · have hz := gNok_of hX (show 5 ≤ gcc X st by omega) h6
      rw [if_pos h6, if_neg (show ¬ (1 : Int32) = 0 by decide)]
      dsimp only
      rw [hG.2.2.2.1]
      have k16 : zJ (dL D - dI D) = 16 ↔ dL D - dI D = 16 := zJ_inj (by omega) (by decide)
      by_cases hr : dL D - dI D = 16
      · rw [if_neg (fun h => h (k16.mpr hr)), show (2 : Int32) = zJ 2 from rfl, wrong_r hG.2.1 hG.1.2.2.1, Option.bind_some]
        refine bad 2 _ (by omega) (by omega) ?_
        have e : gnC X D st (decide (dL D < dI D + 16)) = 2 := by
          unfold gnC
          rw [if_pos h5, if_pos h6, if_neg (by rw [decide_eq_true_eq]; omega)]
        unfold gGate
        rw [if_neg (by omega), e]
      · rw [if_pos (fun h => hr (k16.mp h))]
        unfold f_Mod_readGate_j24
        have e0 : f_Mod_newLines h = some (zJ (dL D)) := by
          unfold f_Mod_newLines
          rw [hN]
        rw [e0, Option.bind_some]
        by_cases hf : gfd X D st < dL D
        · have e : gnC X D st (decide (dL D < dI D + 16)) = 4 := by
            unfold gnC
            rw [if_pos h5, if_pos h6, if_pos (by rw [decide_eq_true_eq]; omega), if_pos hf]
          have b4 := gbad_24 (h := h) (c := 4) (st := st) (by omega) (by omega)
          rw [takeName_dup hX hB hst hG hk (by omega) h6 hf, Option.bind_some, mark_bad b4, Option.bind_some, which60_bad b4, Option.bind_some, if_pos b4, readGate_bad68 b4]
          refine zw_some ⟨gbad_q, Or.inl ⟨(4, st), ?_, gBd_of (by omega) (by omega)⟩⟩
          unfold gGate
          rw [if_neg (by omega), e]
        · have e : gnC X D st (decide (dL D < dI D + 16)) = 0 := by
            unfold gnC
            rw [if_pos h5, if_pos h6, if_pos (by rw [decide_eq_true_eq]; omega), if_neg hf]
          refine zw_bi (takeName_r hX hB hst hG hk (by omega) h6 (by omega) hf) ?_
          rintro g2 ⟨q2, c2, t2, v24, v345, v346, v340⟩
          have n2 := (gnt_spec (X := X) hst).2.1
          have hR : gGate X D st = if gcc X (gnt X st) = 4 then (if 11 ≤ gcc X (gnt X (gnt X st)) then gfrm X (if gcc X (gnt X (gnt X st)) = 11 then 1 else 2) (if gcc X (gnt X (gnt X st)) = 11 then 1 else 3) 4 0 (gNext D (gsz X st) (gnm X st) (gcc X (gnt X (gnt X st)) - 11)) (gnt X (gnt X (gnt X st))) else .inl (1, gnt X (gnt X st))) else .inl (1, gnt X st) := by
            unfold gGate
            rw [if_pos e]
          rw [hR]
          generalize gnt X st = s1 at *
          obtain ⟨ok1, pd1⟩ := ok_Next (D := D) (k := gcc X (gnt X s1) - 11) hk hz
          have G2 : gGd g2 X (gNext D (gsz X st) (gnm X st) (gcc X (gnt X s1) - 11)) (dNc D) (dL D + 1) s1 := by
            refine ⟨t2, v24, ?_⟩
            have rd : ∀ a k, 336 ≤ a → ¬ ((a = 340 ∨ a = 345) ∧ k = 22 + dL D) → ¬ (a = 346 ∧ 6 * (22 + dL D) ≤ k ∧ k ≤ 6 * (22 + dL D) + 5) → g2.1 a k = h.1 a k := fun a k h1 h2 h3 => c2.i (gFn_no (by omega))
            obtain ⟨d1, d2, d3, d4, d5, d6, d7, d8, d9⟩ := hG.2.2
            refine ⟨(rd _ _ (by omega) (by omega) (by omega)).trans d1, (rd _ _ (by omega) (by omega) (by omega)).trans d2, (rd _ _ (by omega) (by omega) (by omega)).trans d3, (rd _ _ (by omega) (by omega) (by omega)).trans d4, (rd _ _ (by omega) (by omega) (by omega)).trans d5, fun l hl => ?_, fun l hl => ?_, fun c hc => ⟨(rd _ _ (by omega) (by omega) (by omega)).trans (d8 c hc).1, fun k hk => (rd _ _ (by omega) (by omega) (by omega)).trans ((d8 c hc).2 k hk)⟩, fun i hi => ⟨(rd _ _ (by omega) (by omega) (by omega)).trans (d9 i hi).1, (rd _ _ (by omega) (by omega) (by omega)).trans (d9 i hi).2⟩⟩
            · by_cases e : l = dL D
              · subst e
                refine ⟨?_, fun i hi => ?_, ?_⟩
                · show _ = zJ (gu (dLn D) (dL D) (gsz X st) (dL D))
                  rw [gu_eq, v345]
                · have hi' : i < gu (dLn D) (dL D) (gsz X st) (dL D) := hi
                  rw [gu_eq] at hi'
                  show _ = zJ (gu (dNm D) (dL D) (gnm X st) (dL D) i)
                  rw [gu_eq, v346 i hi']
                · have f1 : dT D (dL D) = false := by
                    cases ht : dT D (dL D)
                    · rfl
                    · have := (hk.2.2.2.2.2.2 (dL D)).1 ht
                      omega
                  have f2 : dK D (dL D) = false := by
                    cases ht : dK D (dL D)
                    · rfl
                    · have := (hk.2.2.2.2.2.2 (dL D)).2 ht
                      omega
                  show _ = zJ ((dT D (dL D)).toNat + 2 * (dK D (dL D)).toNat)
                  rw [f1, f2, v340]
                  rfl
              · have hl' : l < dL D := by omega
                obtain ⟨b1, b2, b3⟩ := (d6 l hl').fr (h' := g2) (hk.2.1 l hl') (fun a k h1 h2 => rd a k (by omega) (by omega) (by omega)) (fun k h1 h2 => rd _ _ (by omega) (by omega) (by omega))
                refine ⟨?_, fun i hi => ?_, b3⟩
                · show _ = zJ (gu (dLn D) (dL D) (gsz X st) l)
                  rw [gu_ne e]
                  exact b1
                · have hi' : i < gu (dLn D) (dL D) (gsz X st) l := hi
                  rw [gu_ne e] at hi'
                  show _ = zJ (gu (dNm D) (dL D) (gnm X st) l i)
                  rw [gu_ne e]
                  exact b2 i hi'
            · have hl' : l < dL D := hl
              obtain ⟨b1, b2⟩ := (d7 l hl').fr (h' := g2) (fun h => (hk.1.2.2.2 l h hl').2.2.1) (fun a k h1 h2 => rd a k (by omega) (by omega) (by omega)) (fun k h1 h2 => rd _ _ (by omega) (by omega) (by omega))
              refine ⟨b1, fun hi => ?_⟩
              show g2.1 337 (22 + l) = zJ (gu (dkd D) (dL D) (gcc X (gnt X s1) - 11) l) ∧ g2.1 338 (22 + l) = zJ (gu (dmn D) (dL D) 0 l) ∧ ∀ i, i < gu (dmn D) (dL D) 0 l → g2.1 339 (3 * (22 + l) + i) = zJ (dfr D l i)
              rw [gu_ne (by omega), gu_ne (by omega)]
              exact b2 hi
          have hB2 := hB.q q2
          rw [show (61 : Int32) = zJ 61 from rfl]
          refine zw_bi (mark_r (cc := 4) hX hB2 n2 G2 (Or.inr ⟨rfl, rfl⟩)) ?_
          rintro g3 (⟨m1, q3, G3⟩ | ⟨m1, rfl⟩)
          · have m2 := (gnt_spec (X := X) n2).2.1
            have hB3 := hB2.q q3
            rw [if_pos m1]
            generalize gnt X s1 = s2 at *
            have cl := gcc_le (X := X) (st := s2)
            rw [which60_r hX hB3 m2 G3.1 G3.2.1, Option.bind_some, if_neg (fun h : ¬ g3.1 333 24 = 0 => h G3.2.1)]
            by_cases h11 : 11 ≤ gcc X s2
            · have e22 : (22 : Int32) + zJ (dL D) = zJ (22 + dL D) := zJ_la (n := 22)
              have kk0 : zJ (gcc X s2 - 11) = 0 ↔ gcc X s2 - 11 = 0 := zJ_inj (b := 0) (by omega) (by decide)
              rw [if_pos h11, if_pos h11, if_pos (fun h => (zJ_m1 (by omega)).mp h), e22]
              unfold f_Mod_readGate_j68
              rw [if_pos G3.2.1]
              refine zw_bi (G3.stepOn hX hB3 m2) ?_
              rintro g4 ⟨q4, G4⟩
              have z4 := (q2.trans q3).trans q4
              have p2 := (gnt_spec (X := X) m2).2.1
              by_cases he : gcc X s2 = 11
              · rw [if_pos he, if_pos he, if_neg (fun h => h (kk0.mpr (by omega)))]
                refine zw_mono (gateFrom_r (D := gNext D (gsz X st) (gnm X st) (gcc X s2 - 11)) (k := gcc X s2 - 11) (least := 1) (most := 1) hX (hB3.q q4) G4 ok1 pd1 hn p2 (by rw [if_pos (by omega)]) (by rw [if_pos (by omega)]) (by omega) (by show dL D < dI D + 16; omega)) ?_
                intro g hg
                exact hg.mono z4
              · rw [if_neg he, if_neg he, if_pos (fun h => by have := kk0.mp h; omega)]
                refine zw_mono (gateFrom_r (D := gNext D (gsz X st) (gnm X st) (gcc X s2 - 11)) (k := gcc X s2 - 11) (least := 2) (most := 3) hX (hB3.q q4) G4 ok1 pd1 hn p2 (by rw [if_neg (by omega)]) (by rw [if_neg (by omega)]) (by omega) (by show dL D < dI D + 16; omega)) ?_
                intro g hg
                exact hg.mono z4
            · have b1 := gbad_24 (h := g3) (c := 1) (st := s2) (by omega) (by omega)
              rw [if_neg h11, if_neg h11, if_neg (fun h => h rfl), show (1 : Int32) = zJ 1 from rfl, wrong_r G3.2.1 G3.1.2.2.1, Option.bind_some, readGate_bad68 b1]
              exact zw_some ⟨(q2.trans q3).trans gbad_q, Or.inl ⟨_, rfl, gBd_of (by omega) (by omega)⟩⟩
          · have b1 := gbad_24 (h := g2) (c := 1) (st := s1) (by omega) (by omega)
            rw [if_neg m1, which60_bad b1, Option.bind_some, if_pos b1, readGate_bad68 b1]
            exact zw_some ⟨q2.trans gbad_q, Or.inl ⟨_, rfl, gBd_of (by omega) (by omega)⟩⟩
    · rw [if_neg h6, if_pos rfl]
      refine bad 2 _ (by omega) (by omega) ?_
      have e : gnC X D st (decide (dL D < dI D + 16)) = 2 := by
        unfold gnC
        rw [if_pos h5, if_neg h6]
      unfold gGate
      rw [if_neg (by omega), e]
  · rw [if_neg h5, if_neg h5, if_pos rfl]
    exact bad 1 _ (by omega) (by omega) rfl
theorem clauseEnd_r {h g : zH} {X : gX} {R : gR} (hX : gOKx X) (hB : grB h X) (hq : grQ h X R g) : zw (f_Mod_readClause_j97 g) fun g' => grW h X R g' := by
  unfold f_Mod_readClause_j97
  obtain ⟨hz, ⟨e, e1, e2⟩ | ⟨D, st, e1, e2, e3, e4, e5⟩⟩ := hq
  · rw [mark_bad e2.ne, Option.bind_some]
    exact zw_some ⟨hz, Or.inl ⟨e, e1, e2⟩⟩
  · rw [show (59 : Int32) = zJ 59 from rfl]
    refine zw_bi (mark_r (cc := 3) hX (hB.q hz) e5 e2 (Or.inl ⟨rfl, rfl⟩)) ?_
    rintro g' (⟨m1, q, G⟩ | ⟨m1, rfl⟩)
    · refine zw_some ⟨hz.trans q, Or.inr ⟨D, st, ?_, G, e3, e4, e5⟩⟩
      rw [e1]
      unfold gEnd
      rw [if_pos m1]
    · refine zw_some ⟨hz.trans gbad_q, Or.inl ⟨(1, st), ?_, gBd_of (by omega) (by omega)⟩⟩
      rw [e1]
      unfold gEnd
      rw [if_neg m1]
theorem readClause_r {h : zH} {X : gX} {st : Nat} {D : gD} (hX : gOKx X) (hB : grB h X) (hG : gGd h X D (dNc D) (dL D) st) (hk : gOKd D) (hn : gNE D) (hst : st ≤ X.1) : zw (f_Mod_readClause h) fun g => grW h X (gClause X D st) g := by
  have cl := gcc_le (X := X) (st := st)
  have wl := grc_le (X := X) (st := st)
  have k1 : zJ (grc X st) = 1 ↔ grc X st = 1 := zJ_inj (by omega) (by decide)
  unfold f_Mod_readClause
  rw [hG.1.2.1]
  by_cases hw : 5 ≤ gcc X st
  · rw [if_pos (k1.mpr (grc_1.mpr hw))]
    unfold f_Mod_readClause_j13
    have i6 : f_Mod_is 1000016 h = some (zbI (decide (gcc X st = 6))) := is_r (j := 6) hX hB hst hG.1 hG.2.1 (by omega)
    have i7 : f_Mod_is 1000017 h = some (zbI (decide (gcc X st = 7))) := is_r (j := 7) hX hB hst hG.1 hG.2.1 (by omega)
    have i8 : f_Mod_is 1000018 h = some (zbI (decide (gcc X st = 8))) := is_r (j := 8) hX hB hst hG.1 hG.2.1 (by omega)
    have i9 : f_Mod_is 1000019 h = some (zbI (decide (gcc X st = 9))) := is_r (j := 9) hX hB hst hG.1 hG.2.1 (by omega)
    have i10 : f_Mod_is 1000020 h = some (zbI (decide (gcc X st = 10))) := is_r (j := 10) hX hB hst hG.1 hG.2.1 (by omega)
    rw [i6, Option.bind_some]
    by_cases h6 : gcc X st = 6
    · have e : gClause X D st = if dI D < dL D then .inl (1, st) else glp X (gCin X) (gUin X) 900 D (gnt X st) false := by
        unfold gClause
        rw [if_neg (by omega), if_pos h6]
      rw [decide_eq_true h6, if_neg (by decide), e]
      exact zw_bi (readInputs_r hX hB hG hk hn hst) (fun g hg => clauseEnd_r hX hB hg)
    · rw [decide_eq_false h6, if_pos zbI_f, i7, Option.bind_some]
      by_cases h7 : gcc X st = 7
      · have e : gClause X D st = glp X (gCsee X) (gUsee X) 900 D (gnt X st) false := by
          unfold gClause
          rw [if_neg (by omega), if_neg h6, if_pos h7]
        rw [decide_eq_true h7, if_neg (by decide), e]
        exact zw_bi (readSeen_r hX hB hG hk hn hst) (fun g hg => clauseEnd_r hX hB hg)
      · rw [decide_eq_false h7, if_pos zbI_f, i8, Option.bind_some]
        by_cases h8 : gcc X st = 8
        · have e : gClause X D st = if dNc D = 3 then .inl (2, st) else glp X (gCcha X) (gUcha X) 900 (gCh0 D) (gnt X st) false := by
            unfold gClause
            rw [if_neg (by omega), if_neg h6, if_neg h7, if_pos h8]
          rw [decide_eq_true h8, if_neg (by decide), e]
          exact zw_bi (readChain_r hX hB hG hk hn hst) (fun g hg => clauseEnd_r hX hB hg)
        · rw [decide_eq_false h8, if_pos zbI_f, i9, Option.bind_some]
          by_cases h9 : gcc X st = 9
          · have e : gClause X D st = gTakeC X D (gnt X st) := by
              unfold gClause
              rw [if_neg (by omega), if_neg h6, if_neg h7, if_neg h8, if_pos h9]
            rw [decide_eq_true h9, if_neg (by decide), e]
            exact zw_bi (readTake_r hX hB hG hk hn hst) (fun g hg => clauseEnd_r hX hB hg)
          · rw [decide_eq_false h9, if_pos zbI_f, i10, Option.bind_some]
            by_cases h10 : gcc X st = 10
            · have e : gClause X D st = gFillC X D st := by
                unfold gClause
                rw [if_neg (by omega), if_neg h6, if_neg h7, if_neg h8, if_neg h9, if_pos h10]
              rw [decide_eq_true h10, if_neg (by decide), e]
              exact zw_bi (readFill_r hX hB hG hk hn hst) (fun g hg => clauseEnd_r hX hB hg)
            · have e : gClause X D st = if gcc X st = 5 then gGate X D st else .inl (1, st) := by
                unfold gClause
                by_cases h5 : gcc X st = 5
                · rw [if_pos h5, if_pos h5]
                · rw [if_neg h5, if_neg h5, if_neg h6, if_neg h7, if_neg h8, if_neg h9, if_neg h10]
              rw [decide_eq_false h10, if_pos zbI_f, e]
              exact zw_bi (readGate_r hX hB hG hk hn hst) (fun g hg => clauseEnd_r hX hB hg)
  · have b1 := gbad_24 (h := h) (c := 1) (st := st) (by omega) (by omega)
    have e : gClause X D st = .inl (1, st) := by
      unfold gClause
      rw [if_neg (by omega), if_neg (by omega), if_neg (by omega), if_neg (by omega), if_neg (by omega), if_neg (by omega)]
    rw [if_neg (fun h => hw (grc_1.mp (k1.mp h))), show (1 : Int32) = zJ 1 from rfl, wrong_r hG.2.1 hG.1.2.2.1, Option.bind_some]
    unfold f_Mod_readClause_j13
    rw [is_bad b1, Option.bind_some, if_pos rfl, is_bad b1, Option.bind_some, if_pos rfl, is_bad b1, Option.bind_some, if_pos rfl, is_bad b1, Option.bind_some, if_pos rfl, is_bad b1, Option.bind_some, if_pos rfl, readGate_bad b1, Option.bind_some]
    exact clauseEnd_r hX hB ⟨gbad_q, Or.inl ⟨(1, st), e, gBd_of (by omega) (by omega)⟩⟩
theorem grc_0 {X : gX} {st : Nat} : grc X st = 0 ↔ gcc X st = 0 := by
  constructor
  · intro h
    by_cases h0 : gcc X st = 0
    · exact h0
    · have hst := gcc_0.mp h0
      unfold grc at h
      rw [if_pos hst] at h
      split at h
      · omega
      · split at h
        · omega
        · split at h <;> omega
  · intro h
    have hst : ¬ st < X.1 := fun h0 => gcc_0.mpr h0 h
    unfold grc
    rw [if_neg hst]
theorem netLoop_r {h : zH} {X : gX} (hX : gOKx X) (hB : grB h X) (hG : gGd h X gd0 0 0 (gsc (gbl X) X.1 0)) : zw (zit zFU (fun s : zH => f_Mod_net_b74 s) h) fun g => zfm gFq h g ∧ Sum.elim (fun e : Nat × Nat => gBd g e) (fun D : gD => g.1 333 24 = 0 ∧ grD g D (dNc D) (dL D) ∧ gOKd D ∧ gNE D) (gText X) := by
  obtain ⟨x1, x2⟩ := id hX
  have sp0 := (gsc_spec (P := gbl X) (n := X.1) (p := 0) (Nat.zero_le _)).2.1
  have e1 : gText X = gRead X 901 gd0 (gsc (gbl X) X.1 0) := rfl
  generalize gText X = R at *
  refine zw_for 900 (fun i s => zfm gFq h s ∧ ((∃ e, R = .inl e ∧ gBd s e) ∨ ∃ D st, gGd s X D (dNc D) (dL D) st ∧ gOKd D ∧ gNE D ∧ st ≤ X.1 ∧ i ≤ st ∧ R = gRead X (901 - i) D st)) (by omega) ⟨zfm.rfl', Or.inr ⟨gd0, _, hG, ok_0, fun c hc => absurd hc (Nat.not_lt_zero c), sp0, Nat.zero_le _, e1⟩⟩ ?_
  rintro i g hi ⟨hz, hcase⟩
  unfold f_Mod_net_b74
  rcases hcase with ⟨e, s1, s2⟩ | ⟨D, st, s1, s2, s3, s4, s5, s6⟩
  · rw [if_pos s2.ne]
    exact zw_some ⟨hz, by rw [s1]; exact s2⟩
  · have wl := grc_le (X := X) (st := st)
    have k0 : zJ (grc X st) = 0 ↔ grc X st = 0 := zJ_inj (b := 0) (by omega) (by decide)
    rw [if_neg (fun h : ¬ g.1 333 24 = 0 => h s1.2.1), s1.1.2.1]
    rw [show 901 - i = (900 - i) + 1 by omega, gRead] at s6
    by_cases h0 : gcc X st = 0
    · rw [if_pos h0] at s6
      rw [if_pos (k0.mpr (grc_0.mpr h0))]
      exact zw_some ⟨hz, by rw [s6]; exact ⟨s1.2.1, s1.2.2, s2, s3⟩⟩
    · rw [if_neg h0] at s6
      rw [if_neg (fun h => h0 (grc_0.mp (k0.mp h)))]
      have hst := gcc_0.mp h0
      refine zw_bi (readClause_r hX (hB.q hz) s1 s2 s3 s4) ?_
      rintro g2 ⟨q2, ⟨e, c1, c2⟩ | ⟨D2, st2, c1, c2, c3, c4, c5⟩⟩
      · rw [c1] at s6
        exact zw_some ⟨by omega, hz.trans q2, Or.inl ⟨e, s6, c2⟩⟩
      · obtain ⟨p1, p2⟩ := gClause_pos c1 hst
        obtain ⟨n1, n2, n3⟩ := gnt_spec (X := X) c5
        rw [c1] at s6
        refine zw_some ⟨by omega, hz.trans q2, Or.inr ⟨D2, gnt X st2, c2, c3, c4, n2, by omega, ?_⟩⟩
        rw [s6, show 901 - (i + 1) = 900 - i by omega]
        rfl
