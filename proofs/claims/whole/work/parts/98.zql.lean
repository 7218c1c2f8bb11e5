/-! ===== the reference reads what is seen, chains ===== -/
theorem gseen_rem : ∀ t k : Bool, zrem (zJ (t.toNat + 2 * k.toNat)) 2 = 1 ↔ t = true := by decide
theorem gseen_1 : ∀ t k : Bool, zJ (t.toNat + 2 * k.toNat) ||| 1 = zJ (true.toNat + 2 * k.toNat) := by decide
theorem gseen_2 : ∀ t k : Bool, zJ (t.toNat + 2 * k.toNat) ||| 2 = zJ (t.toNat + 2 * true.toNat) := by decide
theorem gfl_eq {X : gX} {st : Nat} {g5 : zH} {a b : Option ((Int32 × zH) ⊕ (zH ⊕ zH))} (hT : grT g5 X st) (ha : a = some (.inl (0, g5))) (hb : b = some (.inl (1, g5))) : (if ¬ (g5.1 333 20) = 1 then a else b) = some (.inl (zbI (decide (5 ≤ gcc X st)), g5)) := by
  rw [gword_fl hT]
  by_cases h : 5 ≤ gcc X st
  · rw [if_pos h, decide_eq_true h]
    exact hb
  · rw [if_neg h, decide_eq_false h]
    exact ha
theorem readSeen_bad {g : zH} {v : Int32} (h24 : g.1 333 24 ≠ 0) : f_Mod_readSeen_j42 g v = some (.inr (.inl g)) := by
  unfold f_Mod_readSeen_j42
  rw [if_neg h24]
theorem readSeen_r {h : zH} {X : gX} {st : Nat} {D : gD} (hX : gOKx X) (hB : grB h X) (hG : gGd h X D (dNc D) (dL D) st) (hk : gOKd D) (hn : gNE D) (hst : st ≤ X.1) : zw (f_Mod_readSeen h) fun g => grQ h X (glp X (gCsee X) (gUsee X) 900 D (gnt X st) false) g := by
  unfold f_Mod_readSeen
  refine zw_bi (hG.stepOn hX hB hst) ?_
  rintro g1 ⟨q1, G1⟩
  have n2 := (gnt_spec (X := X) hst).2.1
  generalize hR : glp X (gCsee X) (gUsee X) 900 D (gnt X st) false = R
  refine zw_bi (gloop_r (cf := fun D => dNc D) (B := fun s : Int32 × zH => f_Mod_readSeen_b6 s.2 s.1) (J := fun g => (f_Mod_lineNow g).bind fun x2 => if ¬ (x2.2.1 333 24) = 0 then f_Mod_readSeen_j42 x2.2 x2.1 else zg (zb (22 + x2.1) 44) <| if ¬ (zrem (x2.2.1 340 (22 + x2.1).toNatClampNeg) 2) = 1 then f_Mod_readSeen_j42 x2.2 x2.1 else (f_Mod_wrong x2.2 5).bind fun x10 => f_Mod_readSeen_j42 x10 x2.1) (Inv := fun _ D => gNE D) (C := gCsee X) (U := gUsee X) (R := R) hX (fun v g => rfl) (fun D st h => ?_) ?_ (hB.q q1) G1 hk hn n2 hR) ?_
  · unfold gCsee
    rw [glC_lo h, if_neg (by decide)]
  · intro b D st g hBg s1 s2 s3 s4
    obtain ⟨a1, a2, a3, a4⟩ := gOK_n s2
    have ec : gCsee X D st = if glC X D st = 0 then (if dT D (gfd X D st) = true then 5 else 0) else glC X D st := rfl
    have cl := glC_le (X := X) (D := D) (st := st)
    rw [lineNow_r hX hBg s4 s1 (Nat.le_refl _) s2, Option.bind_some, ec]
    by_cases h0 : glC X D st = 0
    · obtain ⟨c5, c6, c7⟩ := glC_no h0
      have hl := s1.2.2.2.2.2.2.2.1 (gfd X D st) c7
      have e22 : (22 : Int32) + zJ (gfd X D st) = zJ (22 + gfd X D st) := zJ_la (n := 22)
      rw [if_pos h0, if_pos h0]
      dsimp only
      rw [if_neg (fun h : ¬ g.1 333 24 = 0 => h s1.2.1), e22, zb_t (by omega) (by omega), zg_tr, zJ_c (by omega), hl.2.2]
      cases ht : dT D (gfd X D st)
      · rw [if_neg (show ¬ ((false : Bool) = true) by decide), if_pos (show ¬ zrem (zJ ((false : Bool).toNat + 2 * (dK D (gfd X D st)).toNat)) 2 = 1 by rw [gseen_rem]; decide)]
        refine ⟨fun h => absurd rfl h, fun _ => ⟨(gcc_word (by omega)).1, ?_⟩⟩
        unfold f_Mod_readSeen_j42
        rw [if_pos s1.2.1, e22, zb_t (by omega) (by omega), zg_tr, zg_tr, zJ_c (by omega), hl.2.2, gseen_1, Option.bind_some]
        have Q : zfm [(340, 340, 22 + gfd X D st, 22 + gfd X D st)] g (zsI g 340 (22 + gfd X D st) (zJ (true.toNat + 2 * (dK D (gfd X D st)).toNat))) := zfm.rfl'.I (zin_1 (by omega) (by omega) (by omega) (by omega))
        have w : (zsI g 340 (22 + gfd X D st) (zJ (true.toNat + 2 * (dK D (gfd X D st)).toNat))).1 340 (22 + gfd X D st) = zJ (true.toNat + 2 * (dK D (gfd X D st)).toNat) := zI_eq
        generalize zsI g 340 (22 + gfd X D st) (zJ (true.toNat + 2 * (dK D (gfd X D st)).toNat)) = g2 at *
        have Qq : zfm gFq g g2 := Q.sub' (fun a b hab => gFq_in (by
          unfold zin at hab
          simp only [List.any_cons, List.any_nil, Bool.or_false, Bool.and_eq_true, Nat.ble_eq] at hab
          exact Or.inr (Or.inr ⟨by omega, Or.inl ⟨by omega, by omega⟩⟩)))
        have G2 : gGd g2 X (gTold D (gfd X D st)) (dNc D) (dL D) st := by
          refine ⟨s1.1.fr Q (fun k h1 h2 => zin_n1 (by omega)), (Q.i (zin_n1 (by omega))).trans s1.2.1, ?_⟩
          obtain ⟨d1, d2, d3, d4, d5, d6, d7, d8, d9⟩ := s1.2.2
          refine ⟨(Q.i (zin_n1 (by omega))).trans d1, (Q.i (zin_n1 (by omega))).trans d2, (Q.i (zin_n1 (by omega))).trans d3, (Q.i (zin_n1 (by omega))).trans d4, (Q.i (zin_n1 (by omega))).trans d5, fun l hl => ?_, fun l hl => (d7 l hl).fr (fun h => (s2.1.2.2.2 l h hl).2.2.1) (fun a k h1 h2 => Q.i (zin_n1 (by omega))) (fun k h1 h2 => Q.i (zin_n1 (by omega))), fun c hc => ⟨(Q.i (zin_n1 (by omega))).trans (d8 c hc).1, fun k hk => (Q.i (zin_n1 (by omega))).trans ((d8 c hc).2 k hk)⟩, fun i hi => ⟨(Q.i (zin_n1 (by omega))).trans (d9 i hi).1, (Q.i (zin_n1 (by omega))).trans (d9 i hi).2⟩⟩
          obtain ⟨b1, b2, b3⟩ := d6 l hl
          refine ⟨(Q.i (zin_n1 (by omega))).trans b1, fun i hi => (Q.i (zin_n1 (by omega))).trans (b2 i hi), ?_⟩
          show _ = zJ ((gu (dT D) (gfd X D st) true l).toNat + 2 * (dK D l).toNat)
          by_cases e : l = gfd X D st
          · subst e
            rw [gu_eq, w]
          · rw [gu_ne e, Q.i (zin_n1 (by omega))]
            exact b3
        refine zw_bi (G2.stepOn hX (hBg.q Qq) s4) ?_
        rintro g3 ⟨q3, G3⟩
        exact zw_of (gfl_eq (a := f_Mod_readSeen_j80 g3 0) (b := f_Mod_readSeen_j80 g3 1) G3.1 rfl rfl) ⟨g3, rfl, Qq.trans q3, G3, ok_Told s2 c7, s3⟩
      · have b5 := gbad_24 (h := g) (c := 5) (st := st) (by omega) (by omega)
        rw [if_pos (show (true : Bool) = true from rfl), if_neg (fun h : ¬ zrem (zJ ((true : Bool).toNat + 2 * (dK D (gfd X D st)).toNat)) 2 = 1 => h ((gseen_rem _ _).mpr rfl)), show (5 : Int32) = zJ 5 from rfl, wrong_r s1.2.1 s1.1.2.2.1, Option.bind_some, readSeen_bad b5]
        exact ⟨fun _ => zw_some ⟨_, rfl, gbad_q, gBd_of (by omega) (by omega)⟩, fun h => by omega⟩
    · have bc := gbad_24 (h := g) (c := glC X D st) (st := st) (by omega) (by omega)
      rw [if_neg h0, if_neg h0]
      dsimp only
      rw [if_pos bc, readSeen_bad bc]
      exact ⟨fun _ => zw_some ⟨_, rfl, gbad_q, gBd_of (by omega) (by omega)⟩, fun h => absurd h h0⟩
  · rintro y (⟨e, g', rfl, e1, e2, e3⟩ | ⟨D2, st2, g', rfl, e1, e2, e3, e4, e5, e6⟩)
    · exact zw_some ⟨q1.trans e2, Or.inl ⟨e, e1, e3⟩⟩
    · exact zw_some ⟨q1.trans e2, Or.inr ⟨D2, st2, e1, e3, e4, e5, e6⟩⟩
theorem readChain_bad {g : zH} {v w : Int32} (h24 : g.1 333 24 ≠ 0) : f_Mod_readChain_j75 g v w = some (.inr (.inl g)) := by
  unfold f_Mod_readChain_j75
  rw [if_neg h24]
theorem readChain_r {h : zH} {X : gX} {st : Nat} {D : gD} (hX : gOKx X) (hB : grB h X) (hG : gGd h X D (dNc D) (dL D) st) (hk : gOKd D) (hn : gNE D) (hst : st ≤ X.1) : zw (f_Mod_readChain h) fun g => grQ h X (if dNc D = 3 then .inl (2, st) else glp X (gCcha X) (gUcha X) 900 (gCh0 D) (gnt X st) false) g := by
  obtain ⟨a1, a2, a3, a4⟩ := gOK_n hk
  have k3 : zJ (dNc D) = 3 ↔ dNc D = 3 := zJ_inj (by omega) (by decide)
  unfold f_Mod_readChain f_Mod_readChain_j18
  rw [hG.2.2.2.2.1]
  by_cases h3 : dNc D = 3
  · have b2 := gbad_24 (h := h) (c := 2) (st := st) (by omega) (by omega)
    rw [if_neg (fun h => h (k3.mpr h3)), if_pos h3, show (2 : Int32) = zJ 2 from rfl, wrong_r hG.2.1 hG.1.2.2.1, Option.bind_some, if_neg b2]
    exact zw_some ⟨gbad_q, Or.inl ⟨_, rfl, gBd_of (by omega) (by omega)⟩⟩
  · rw [if_pos (fun h => h3 (k3.mp h)), if_neg h3, if_pos hG.2.1]
    refine zw_bi (hG.stepOn hX hB hst) ?_
    rintro g1 ⟨q1, G1⟩
    have n2 := (gnt_spec (X := X) hst).2.1
    have e3 : (3 : Int32) + zJ (dNc D) = zJ (3 + dNc D) := zJ_la (n := 3)
    rw [e3, zb_t (by omega) (by omega), zg_tr, Option.bind_some, zJ_c (by omega)]
    have Q : zfm [(343, 343, 3 + dNc D, 3 + dNc D)] g1 (zsI g1 343 (3 + dNc D) 0) := zfm.rfl'.I (zin_1 (by omega) (by omega) (by omega) (by omega))
    have w : (zsI g1 343 (3 + dNc D) 0).1 343 (3 + dNc D) = zJ 0 := zI_eq
    generalize zsI g1 343 (3 + dNc D) 0 = g2 at *
    have Qq : zfm gFq g1 g2 := Q.sub' (fun a b hab => gFq_in (by
      unfold zin at hab
      simp only [List.any_cons, List.any_nil, Bool.or_false, Bool.and_eq_true, Nat.ble_eq] at hab
      exact Or.inr (Or.inr ⟨by omega, Or.inr (Or.inr (Or.inr (Or.inl ⟨by omega, by omega⟩)))⟩)))
    have G2 : gGd g2 X (gCh0 D) (dNc (gCh0 D) - 1) (dL (gCh0 D)) (gnt X st) := by
      refine ⟨G1.1.fr Q (fun k h1 h2 => zin_n1 (by omega)), (Q.i (zin_n1 (by omega))).trans G1.2.1, ?_⟩
      obtain ⟨d1, d2, d3, d4, d5, d6, d7, d8, d9⟩ := G1.2.2
      refine ⟨(Q.i (zin_n1 (by omega))).trans d1, (Q.i (zin_n1 (by omega))).trans d2, (Q.i (zin_n1 (by omega))).trans d3, (Q.i (zin_n1 (by omega))).trans d4, (Q.i (zin_n1 (by omega))).trans d5, fun l hl => ?_, fun l hl => (d7 l hl).fr (fun h => (hk.1.2.2.2 l h hl).2.2.1) (fun a k h1 h2 => Q.i (zin_n1 (by omega))) (fun k h1 h2 => Q.i (zin_n1 (by omega))), fun c hc => ?_, fun i hi => ⟨(Q.i (zin_n1 (by omega))).trans (d9 i hi).1, (Q.i (zin_n1 (by omega))).trans (d9 i hi).2⟩⟩
      · exact (d6 l hl).fr (hk.2.1 l hl) (fun a k h1 h2 => Q.i (zin_n1 (by omega))) (fun k h1 h2 => Q.i (zin_n1 (by omega)))
      · have hc' : c < dNc D + 1 := hc
        show _ = zJ (gu (dCn D) (dNc D) 0 c) ∧ ∀ k, k < gu (dCn D) (dNc D) 0 c → _
        by_cases e : c = dNc D
        · subst e
          rw [gu_eq]
          exact ⟨w, fun k hk => absurd hk (Nat.not_lt_zero k)⟩
        · rw [gu_ne e]
          exact ⟨(Q.i (zin_n1 (by omega))).trans (d8 c (by omega)).1, fun k hk => (Q.i (zin_n1 (by omega))).trans ((d8 c (by omega)).2 k hk)⟩
    generalize hR : glp X (gCcha X) (gUcha X) 900 (gCh0 D) (gnt X st) false = R
    refine zw_bi (gloop_r (cf := fun D => dNc D - 1) (B := fun s : Int32 × zH => f_Mod_readChain_b41 s.2 (zJ (dNc D)) s.1) (J := fun g => (f_Mod_inputNow g).bind fun x4 => if ¬ (x4.2.1 333 24) = 0 then f_Mod_readChain_j75 x4.2 (zJ (dNc D)) x4.1 else zg (zb (6 + x4.1) 12) <| if (x4.2.1 341 (6 + x4.1).toNatClampNeg) = (-1) then f_Mod_readChain_j75 x4.2 (zJ (dNc D)) x4.1 else (f_Mod_wrong x4.2 5).bind fun x17 => f_Mod_readChain_j75 x17 (zJ (dNc D)) x4.1) (Inv := fun b E => dNc E = dNc D + 1 ∧ (∀ c, c < dNc D → 1 ≤ dCn E c) ∧ (b = true → 1 ≤ dCn E (dNc D))) (C := gCcha X) (U := gUcha X) (R := R) hX (fun v g => rfl) (fun D st h => ?_) ?_ ((hB.q q1).q Qq) G2 (ok_Ch0 hk (by omega)) ⟨rfl, fun c hc => ?_, fun h => by cases h⟩ n2 hR) ?_
    · unfold gCcha
      rw [giC_lo h, if_neg (by decide)]
    · rintro b E st g hBg s1 s2 ⟨s3, s3', s3''⟩ s4
      obtain ⟨a1, a2, a3, a4⟩ := gOK_n s2
      have ec : gCcha X E st = if giC X E st = 0 then (if dCo E (gfd X E st) = 0 then 0 else 5) else giC X E st := rfl
      have cl := giC_le (X := X) (D := E) (st := st)
      rw [inputNow_r hX hBg s4 s1 (Nat.le_refl _) s2, Option.bind_some, ec]
      by_cases h0 : giC X E st = 0
      · obtain ⟨c5, c6, c7⟩ := giC_no h0
        have e41 := (s1.2.2.2.2.2.2.2.2.2.2 (gfd X E st) c7).1
        have b41 := (s2.2.2.2.2.1 (gfd X E st) c7).1
        have e6 : (6 : Int32) + zJ (gfd X E st) = zJ (6 + gfd X E st) := zJ_la (n := 6)
        rw [if_pos h0, if_pos h0]
        dsimp only
        rw [if_neg (fun h : ¬ g.1 333 24 = 0 => h s1.2.1), e6, zb_t (by omega) (by omega), zg_tr, zJ_c (by omega), e41]
        by_cases hco : dCo E (gfd X E st) = 0
        · rw [if_pos hco, if_pos ((zfj_m1 (by omega)).mpr hco)]
          refine ⟨fun h => absurd rfl h, fun _ => ⟨(gcc_word (by omega)).1, ?_⟩⟩
          obtain ⟨kc, klt⟩ := ok_Cell s2 (by omega) c7 hco
          obtain ⟨d1, d2, d3, d4, d5, d6, d7, d8, d9⟩ := id s1.2.2
          obtain ⟨m1, m2⟩ := d8 (dNc D) (by omega)
          unfold f_Mod_readChain_j75
          have e3' : (6 : Int32) * zJ (3 + dNc D) + zJ (dCn E (dNc D)) = zJ (6 * (3 + dNc D) + dCn E (dNc D)) := by
            rw [show (6 : Int32) = zJ 6 from rfl, zJ_mul, zJ_add]
          have en : dNc E - 1 = dNc D := by omega
          rw [en] at klt
          rw [if_pos s1.2.1, e6, zb_t (by omega) (by omega), zg_tr, Option.bind_some, e3, zb_t (by omega) (by omega), zg_tr, zJ_c (by omega), zJ_c (by omega), zI_ne (by decide), m1, e3', zb_t (by omega) (by omega), zg_tr, Option.bind_some, zg_tr, zg_tr, zI_ne (by decide), zI_ne (by decide), m1, Option.bind_some, zJ_c (by omega), zJ_al]
          have Q : zfm [(341, 341, 6 + gfd X E st, 6 + gfd X E st), (344, 344, 6 * (3 + dNc D) + dCn E (dNc D), 6 * (3 + dNc D) + dCn E (dNc D)), (343, 343, 3 + dNc D, 3 + dNc D)] g (zsI (zsI (zsI g 341 (6 + gfd X E st) (zJ (dNc D))) 344 (6 * (3 + dNc D) + dCn E (dNc D)) (zJ (gfd X E st))) 343 (3 + dNc D) (zJ (dCn E (dNc D) + OfNat.ofNat 1))) := ((zfm.rfl'.I (zin_1 (by omega) (by omega) (by omega) (by omega))).I (zin_2 (zin_1 (by omega) (by omega) (by omega) (by omega)))).I (zin_2 (zin_2 (zin_1 (by omega) (by omega) (by omega) (by omega))))
          have w1 : (zsI (zsI (zsI g 341 (6 + gfd X E st) (zJ (dNc D))) 344 (6 * (3 + dNc D) + dCn E (dNc D)) (zJ (gfd X E st))) 343 (3 + dNc D) (zJ (dCn E (dNc D) + OfNat.ofNat 1))).1 341 (6 + gfd X E st) = zJ (dNc D) := by
            rw [zI_ne (by decide), zI_ne (by decide), zI_eq]
          have w2 : (zsI (zsI (zsI g 341 (6 + gfd X E st) (zJ (dNc D))) 344 (6 * (3 + dNc D) + dCn E (dNc D)) (zJ (gfd X E st))) 343 (3 + dNc D) (zJ (dCn E (dNc D) + OfNat.ofNat 1))).1 344 (6 * (3 + dNc D) + dCn E (dNc D)) = zJ (gfd X E st) := by
            rw [zI_ne (by decide), zI_eq]
          have w3 : (zsI (zsI (zsI g 341 (6 + gfd X E st) (zJ (dNc D))) 344 (6 * (3 + dNc D) + dCn E (dNc D)) (zJ (gfd X E st))) 343 (3 + dNc D) (zJ (dCn E (dNc D) + OfNat.ofNat 1))).1 343 (3 + dNc D) = zJ (dCn E (dNc D) + 1) := zI_eq
          generalize zsI (zsI (zsI g 341 (6 + gfd X E st) (zJ (dNc D))) 344 (6 * (3 + dNc D) + dCn E (dNc D)) (zJ (gfd X E st))) 343 (3 + dNc D) (zJ (dCn E (dNc D) + OfNat.ofNat 1)) = g5 at *
          have Qq : zfm gFq g g5 := Q.sub' (fun a b hab => gFq_in (by
            unfold zin at hab
            simp only [List.any_cons, List.any_nil, Bool.or_false, Bool.or_eq_true, Bool.and_eq_true, Nat.ble_eq] at hab
            rcases hab with hab | hab | hab
            · exact Or.inr (Or.inr ⟨by omega, Or.inr (Or.inr (Or.inl ⟨by omega, by omega⟩))⟩)
            · exact Or.inr (Or.inr ⟨by omega, Or.inr (Or.inr (Or.inr (Or.inr (Or.inl ⟨by omega, by omega⟩))))⟩)
            · exact Or.inr (Or.inr ⟨by omega, Or.inr (Or.inr (Or.inr (Or.inl ⟨by omega, by omega⟩)))⟩)))
          have G5 : gGd g5 X (gCell E (gfd X E st)) (dNc (gCell E (gfd X E st)) - 1) (dL (gCell E (gfd X E st))) st := by
            refine ⟨s1.1.fr Q (fun k h1 h2 => zin_n3 (by omega) (by omega) (by omega)), (Q.i (zin_n3 (by omega) (by omega) (by omega))).trans s1.2.1, ?_⟩
            refine ⟨(Q.i (zin_n3 (by omega) (by omega) (by omega))).trans d1, (Q.i (zin_n3 (by omega) (by omega) (by omega))).trans d2, (Q.i (zin_n3 (by omega) (by omega) (by omega))).trans d3, (Q.i (zin_n3 (by omega) (by omega) (by omega))).trans d4, (Q.i (zin_n3 (by omega) (by omega) (by omega))).trans d5, fun l hl => (d6 l hl).fr (s2.2.1 l hl) (fun a k h1 h2 => Q.i (zin_n3 (by omega) (by omega) (by omega))) (fun k h1 h2 => Q.i (zin_n3 (by omega) (by omega) (by omega))), fun l hl => (d7 l hl).fr (fun h => (s2.1.2.2.2 l h hl).2.2.1) (fun a k h1 h2 => Q.i (zin_n3 (by omega) (by omega) (by omega))) (fun k h1 h2 => Q.i (zin_n3 (by omega) (by omega) (by omega))), fun c hc => ?_, fun i hi => ?_⟩
            · have hc' : c < dNc E := hc
              show g5.1 343 (3 + c) = zJ (gu (dCn E) (dNc E - 1) (dCn E (dNc E - 1) + 1) c) ∧ ∀ k, k < gu (dCn E) (dNc E - 1) (dCn E (dNc E - 1) + 1) c → g5.1 344 (6 * (3 + c) + k) = zJ (gu2 (dCl E) (dNc E - 1) (dCn E (dNc E - 1)) (gfd X E st) c k)
              rw [en]
              by_cases e : c = dNc D
              · subst e
                rw [gu_eq]
                refine ⟨w3, fun k hkk => ?_⟩
                by_cases ek : k = dCn E (dNc D)
                · subst ek
                  rw [gu2_eq, w2]
                · rw [gu2_ne (by omega), Q.i (zin_n3 (by omega) (by omega) (by omega))]
                  exact m2 k (by omega)
              · have l6 := (s2.2.2.2.1 c hc').1
                rw [gu_ne e]
                refine ⟨(Q.i (zin_n3 (by omega) (by omega) (by omega))).trans (d8 c hc').1, fun k hkk => ?_⟩
                rw [gu2_ne (by omega), Q.i (zin_n3 (by omega) (by omega) (by omega))]
                exact (d8 c hc').2 k hkk
            · have hi' : i < dI E := hi
              show g5.1 341 (6 + i) = zfj (gu (dCo E) (gfd X E st) (dNc E) i) ∧ g5.1 342 (6 + i) = zfj (dTk E i)
              refine ⟨?_, (Q.i (zin_n3 (by omega) (by omega) (by omega))).trans (d9 i hi).2⟩
              by_cases e : i = gfd X E st
              · subst e
                rw [gu_eq, w1, s3]
                rfl
              · rw [gu_ne e, Q.i (zin_n3 (by omega) (by omega) (by omega))]
                exact (d9 i hi).1
          refine zw_bi (G5.stepOn hX (hBg.q Qq) s4) ?_
          rintro g6 ⟨q6, G6⟩
          refine zw_of (gfl_eq (a := f_Mod_readChain_j143 g6 (zJ (dNc D)) 0) (b := f_Mod_readChain_j143 g6 (zJ (dNc D)) 1) G6.1 rfl rfl) ⟨g6, rfl, Qq.trans q6, G6, kc, s3, fun c hc => ?_, fun _ => ?_⟩
          · show 1 ≤ gu (dCn E) (dNc E - 1) (dCn E (dNc E - 1) + 1) c
            rw [gu_ne (by omega)]
            exact s3' c hc
          · show 1 ≤ gu (dCn E) (dNc E - 1) (dCn E (dNc E - 1) + 1) (dNc D)
            rw [en, gu_eq]
            omega
        · have b5 := gbad_24 (h := g) (c := 5) (st := st) (by omega) (by omega)
          rw [if_neg hco, if_neg (fun h => hco ((zfj_m1 (by omega)).mp h)), show (5 : Int32) = zJ 5 from rfl, wrong_r s1.2.1 s1.1.2.2.1, Option.bind_some, readChain_bad b5]
          exact ⟨fun _ => zw_some ⟨_, rfl, gbad_q, gBd_of (by omega) (by omega)⟩, fun h => by omega⟩
      · have bc := gbad_24 (h := g) (c := giC X E st) (st := st) (by omega) (by omega)
        rw [if_neg h0, if_neg h0]
        dsimp only
        rw [if_pos bc, readChain_bad bc]
        exact ⟨fun _ => zw_some ⟨_, rfl, gbad_q, gBd_of (by omega) (by omega)⟩, fun h => absurd h h0⟩
    · show 1 ≤ gu (dCn D) (dNc D) 0 c
      rw [gu_ne (by omega)]
      exact hn c hc
    · rintro y (⟨e, g', rfl, e1, e2, e3⟩ | ⟨D2, st2, g', rfl, e1, e2, e3, e4, ⟨e5, e5', e5''⟩, e6⟩)
      · exact zw_some ⟨(q1.trans Qq).trans e2, Or.inl ⟨e, e1, e3⟩⟩
      · dsimp only [Sum.elim]
        rw [e3.2.2.2.2.1, Option.bind_some, zJ_al]
        have Q7 : zfm [(336, 336, 7, 7)] g' (zsI g' 336 7 (zJ (dNc D2 - 1 + OfNat.ofNat 1))) := zfm.rfl'.I (by rfl)
        have Qq7 : zfm gFq g' (zsI g' 336 7 (zJ (dNc D2 - 1 + OfNat.ofNat 1))) := zfm.rfl'.I (gFq_in (by omega))
        have b4 := (gOK_n e4).2.2.2
        refine zw_some ⟨((q1.trans Qq).trans e2).trans Qq7, Or.inr ⟨D2, st2, e1, ⟨e3.1.fr Q7 (fun k h1 h2 => zin_n1 (by omega)), (Q7.i (by rfl)).trans e3.2.1, ?_⟩, e4, fun c hc => ?_, e6⟩⟩
        · obtain ⟨d1, d2, d3, d4, d5, d6, d7, d8, d9⟩ := e3.2.2
          refine ⟨(Q7.i (by rfl)).trans d1, (Q7.i (by rfl)).trans d2, ?_, (Q7.i (by rfl)).trans d4, (Q7.i (by rfl)).trans d5, fun l hl => (d6 l hl).fr (e4.2.1 l hl) (fun a k h1 h2 => Q7.i (zin_n1 (by omega))) (fun k h1 h2 => Q7.i (zin_n1 (by omega))), fun l hl => (d7 l hl).fr (fun h => (e4.1.2.2.2 l h hl).2.2.1) (fun a k h1 h2 => Q7.i (zin_n1 (by omega))) (fun k h1 h2 => Q7.i (zin_n1 (by omega))), fun c hc => ⟨(Q7.i (zin_n1 (by omega))).trans (d8 c hc).1, fun k hk => (Q7.i (zin_n1 (by omega))).trans ((d8 c hc).2 k hk)⟩, fun i hi => ⟨(Q7.i (zin_n1 (by omega))).trans (d9 i hi).1, (Q7.i (zin_n1 (by omega))).trans (d9 i hi).2⟩⟩
          rw [zI_eq]
          congr 1
          show dNc D2 - 1 + 1 = dNc D2
          omega
        · by_cases e : c = dNc D
          · rw [e]
            exact e5'' rfl
          · exact e5' c (by omega)
