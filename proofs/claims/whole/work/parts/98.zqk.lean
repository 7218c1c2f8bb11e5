/-! ===== the reference reads clauses ===== -/
theorem zin_c {L : List (Nat × Nat × Nat × Nat)} {o k a b c d : Nat} (h : o < a ∨ b < o ∨ k < c ∨ d < k) (h' : zin L o k = false) : zin ((a, b, c, d) :: L) o k = false := by
  have h1 := zin_n1 h
  unfold zin at h1 h' ⊢
  simp only [List.any_cons, List.any_nil, Bool.or_false] at h1 ⊢
  rw [h1, h']
  rfl
def grQ (h : zH) (X : gX) (R : gR) (g : zH) : Prop := zfm gFq h g ∧ ((∃ e, R = .inl e ∧ gBd g e) ∨ ∃ D st, R = gEnd X D st ∧ gGd g X D (dNc D) (dL D) st ∧ gOKd D ∧ gNE D ∧ st ≤ X.1)
def grW (h : zH) (X : gX) (R : gR) (g : zH) : Prop := zfm gFq h g ∧ ((∃ e, R = .inl e ∧ gBd g e) ∨ ∃ D st, R = .inr (D, st) ∧ gGd g X D (dNc D) (dL D) (gnt X st) ∧ gOKd D ∧ gNE D ∧ st ≤ X.1)
theorem gword_fl {X : gX} {st : Nat} {g : zH} (hT : grT g X st) {Y : Type} {a b : Y} : (if ¬ (g.1 333 20) = 1 then a else b) = if 5 ≤ gcc X st then b else a := by
  have wl := grc_le (X := X) (st := st)
  have k1 : zJ (grc X st) = 1 ↔ grc X st = 1 := zJ_inj (by omega) (by decide)
  rw [hT.2.1]
  by_cases h : 5 ≤ gcc X st
  · rw [if_pos h, if_neg (fun hn => hn (k1.mpr (grc_1.mpr h)))]
  · rw [if_neg h, if_pos (fun hn => h (grc_1.mp (k1.mp hn)))]
theorem gloop_r {B : Int32 × zH → Option ((Int32 × zH) ⊕ (zH ⊕ zH))} {J : zH → Option ((Int32 × zH) ⊕ (zH ⊕ zH))} {cf : gD → Nat} {X : gX} {C : gD → Nat → Nat} {U : gD → Nat → gD} {Inv : Bool → gD → Prop} {R : gR} {g0 : zH} {D0 : gD} {st0 : Nat} (hX : gOKx X)
    (hB : ∀ v g, B (v, g) = if v = 0 then some (.inr (.inr g)) else J g)
    (hC : ∀ D st, gcc X st < 5 → C D st = 1)
    (hJ : ∀ b D st g, grB g X → gGd g X D (cf D) (dL D) st → gOKd D → Inv b D → st ≤ X.1 → (C D st ≠ 0 → zw (J g) fun y => ∃ g', y = .inr (.inl g') ∧ zfm gFq g g' ∧ gBd g' (C D st, st)) ∧ (C D st = 0 → st < X.1 ∧ zw (J g) fun y => ∃ g', y = .inl (zbI (decide (5 ≤ gcc X (gnt X st))), g') ∧ zfm gFq g g' ∧ gGd g' X (U D st) (cf (U D st)) (dL (U D st)) (gnt X st) ∧ gOKd (U D st) ∧ Inv true (U D st)))
    (hB0 : grB g0 X) (hG : gGd g0 X D0 (cf D0) (dL D0) st0) (hk : gOKd D0) (hI : Inv false D0) (hst : st0 ≤ X.1) (hR : glp X C U 900 D0 st0 false = R) :
    zw (zit zFU B (1, g0)) fun y => (∃ e g', y = .inl g' ∧ R = .inl e ∧ zfm gFq g0 g' ∧ gBd g' e) ∨ (∃ D st g', y = .inr g' ∧ R = gEnd X D st ∧ zfm gFq g0 g' ∧ gGd g' X D (cf D) (dL D) st ∧ gOKd D ∧ Inv true D ∧ st ≤ X.1) := by
  obtain ⟨x1, x2⟩ := id hX
  refine zw_for 900 (fun i s => zfm gFq g0 s.2 ∧ ∃ D st, gGd s.2 X D (cf D) (dL D) st ∧ gOKd D ∧ Inv (decide (0 < i)) D ∧ st ≤ X.1 ∧ i ≤ st ∧ s.1 = zbI (decide (i = 0) || decide (5 ≤ gcc X st)) ∧ glp X C U (900 - i) D st (decide (0 < i)) = R) (by omega) ⟨zfm.rfl', D0, st0, hG, hk, hI, hst, Nat.zero_le _, by rfl, hR⟩ ?_
  rintro i ⟨v, g⟩ hi ⟨hz, D, st, s1, s2, s3, s4, s5, s6, s7⟩
  dsimp only at hz s1 s6 ⊢
  rw [hB]
  by_cases hf : i = 0 ∨ 5 ≤ gcc X st
  · have e1 : (decide (i = 0) || decide (5 ≤ gcc X st)) = true := by
      rw [Bool.or_eq_true, decide_eq_true_eq, decide_eq_true_eq]
      exact hf
    rw [s6, e1, if_neg (by decide)]
    have hi9 : i < 900 := by
      rcases hf with h | h
      · omega
      · have := (gcc_word h).1
        omega
    have hf' : 900 - i = (900 - (i + 1)) + 1 := by omega
    rw [hf', glp, if_neg (fun h => by
      rcases hf with hh | hh
      · have := h.1
        rw [decide_eq_true_eq] at this
        omega
      · omega)] at s7
    obtain ⟨j1, j2⟩ := hJ (decide (0 < i)) D st g (hB0.q hz) s1 s2 s3 s4
    by_cases hc : C D st = 0
    · rw [if_pos hc] at s7
      obtain ⟨hlt, j2'⟩ := j2 hc
      refine zw_mono j2' ?_
      rintro y ⟨g', rfl, q, a, b, c⟩
      obtain ⟨n1, n2, n3⟩ := gnt_spec (X := X) s4
      have n4 := n3 hlt
      have ed : decide (0 < i + 1) = true := decide_eq_true (by omega)
      refine ⟨hi9, hz.trans q, U D st, gnt X st, a, b, by rw [ed]; exact c, n2, by omega, ?_, by rw [ed]; exact s7⟩
      dsimp only
      rw [decide_eq_false (show ¬ i + 1 = 0 by omega), Bool.false_or]
    · rw [if_neg hc] at s7
      refine zw_mono (j1 hc) ?_
      rintro y ⟨g', rfl, q, a⟩
      exact Or.inl ⟨_, g', rfl, s7.symm, hz.trans q, a⟩
  · have e1 : (decide (i = 0) || decide (5 ≤ gcc X st)) = false := by
      rw [Bool.or_eq_false_iff, decide_eq_false_iff_not, decide_eq_false_iff_not]
      omega
    rw [s6, e1, if_pos zbI_f]
    have ed : decide (0 < i) = true := decide_eq_true (by omega)
    rw [ed] at s3 s7
    refine zw_some (Or.inr ⟨D, st, g, rfl, ?_, hz, s1, s2, s3, s4⟩)
    unfold gEnd
    by_cases hi9 : i = 900
    · have h0 : gcc X st = 0 := by
        by_cases h : gcc X st = 0
        · exact h
        · have := gcc_0.mp h
          omega
      rw [if_neg (by omega), ← s7, hi9]
      rfl
    · have hf' : 900 - i = (900 - (i + 1)) + 1 := by omega
      rw [hf', glp] at s7
      by_cases h3 : gcc X st = 3
      · rw [if_pos ⟨rfl, h3⟩] at s7
        rw [if_pos h3]
        exact s7.symm
      · rw [if_neg (fun h => h3 h.2)] at s7
        have hc := hC D st (by omega)
        rw [if_neg (by omega), hc] at s7
        rw [if_neg h3]
        exact s7.symm
theorem takeName_dup {h : zH} {X : gX} {st C : Nat} {D : gD} (hX : gOKx X) (hB : grB h X) (hst : st ≤ X.1) (hG : gGd h X D C (dL D) st) (hk : gOKd D) (h5 : 5 ≤ gcc X st) (h6 : gsz X st ≤ 6) (hf : gfd X D st < dL D) : f_Mod_takeName h = some (gbad h 4 st) := by
  have a := gOK_n hk
  have b4 := gbad_24 (h := h) (c := 4) (st := st) (by omega) (by omega)
  unfold f_Mod_takeName f_Mod_takeName_j20
  rw [if_neg (fun h => h hG.2.1), named_d hX hB hst hG (Nat.le_refl _) hk h5 h6, if_pos hf, Option.bind_some, if_neg (fun h => (zJ_m1 (by omega)).mp h), show (4 : Int32) = zJ 4 from rfl, wrong_r hG.2.1 hG.1.2.2.1, Option.bind_some, if_neg b4]
theorem gnC_lo {X : gX} {D : gD} {st : Nat} {b : Bool} (h : gcc X st < 5) : gnC X D st b = 1 := by
  unfold gnC
  rw [if_neg (by omega)]
theorem glC_lo {X : gX} {D : gD} {st : Nat} (h : gcc X st < 5) : glC X D st = 1 := by
  unfold glC
  rw [if_neg (by omega)]
theorem giC_lo {X : gX} {D : gD} {st : Nat} (h : gcc X st < 5) : giC X D st = 1 := by
  unfold giC
  rw [glC_lo h, if_neg (by decide)]
theorem readInputs_bad {g : zH} (h24 : g.1 333 24 ≠ 0) : f_Mod_readInputs_j56 g = some (.inr (.inl g)) := by
  unfold f_Mod_readInputs_j56
  rw [takeName_bad h24, Option.bind_some, if_neg h24]
theorem readInputs_r {h : zH} {X : gX} {st : Nat} {D : gD} (hX : gOKx X) (hB : grB h X) (hG : gGd h X D (dNc D) (dL D) st) (hk : gOKd D) (hn : gNE D) (hst : st ≤ X.1) : zw (f_Mod_readInputs h) fun g => grQ h X (if dI D < dL D then .inl (1, st) else glp X (gCin X) (gUin X) 900 D (gnt X st) false) g := by
  obtain ⟨a1, a2, a3, a4⟩ := gOK_n hk
  unfold f_Mod_readInputs f_Mod_readInputs_j15
  rw [hG.2.2.2.1]
  by_cases hg : dI D < dL D
  · have b1 := gbad_24 (h := h) (c := 1) (st := st) (by omega) (by omega)
    rw [if_neg (by rw [zJ_lel (n := 0) (by omega) (by decide)]; show ¬ dL D - dI D ≤ 0; omega), if_pos hg, show (1 : Int32) = zJ 1 from rfl, wrong_r hG.2.1 hG.1.2.2.1, Option.bind_some, if_neg b1]
    exact zw_some ⟨gbad_q, Or.inl ⟨_, rfl, gBd_of (by omega) (by omega)⟩⟩
  · rw [if_pos (by rw [zJ_lel (n := 0) (by omega) (by decide)]; show dL D - dI D ≤ 0; omega), if_neg hg, if_pos hG.2.1]
    refine zw_bi (hG.stepOn hX hB hst) ?_
    rintro g1 ⟨q1, G1⟩
    have n2 := (gnt_spec (X := X) hst).2.1
    generalize hR : glp X (gCin X) (gUin X) 900 D (gnt X st) false = R
    refine zw_bi (gloop_r (cf := fun D => dNc D) (B := fun s : Int32 × zH => f_Mod_readInputs_b29 s.2 s.1) (J := fun g => (f_Mod_wordHere g).bind fun x2 => if x2.1 = 0 then f_Mod_readInputs_j56 x2.2 else if ¬ (x2.2.1 336 5) = 6 then f_Mod_readInputs_j56 x2.2 else (f_Mod_wrong x2.2 2).bind fun x15 => f_Mod_readInputs_j56 x15) (Inv := fun _ D => dL D = dI D ∧ gNE D) (C := gCin X) (U := gUin X) (R := R) hX (fun v g => rfl) (fun D st h => gnC_lo h) ?_ (hB.q q1) G1 hk ⟨by omega, hn⟩ n2 hR) ?_
    · rintro b D st g hBg s1 s2 ⟨s3, s3'⟩ s4
      obtain ⟨a1, a2, a3, a4⟩ := gOK_n s2
      have ec : gCin X D st = gnC X D st (decide (dI D < 6)) := rfl
      have cl := gnC_le (X := X) (D := D) (st := st) (room := decide (dI D < 6))
      have bad : ∀ c, 1 ≤ c → c ≤ 5 → gCin X D st = c → zw (f_Mod_readInputs_j56 (gbad g c st)) fun y => ∃ g', y = .inr (.inl g') ∧ zfm gFq g g' ∧ gBd g' (gCin X D st, st) := by
        intro c c1 c5 hc
        rw [readInputs_bad (gbad_24 c1 (by omega)), hc]
        exact zw_some ⟨_, rfl, gbad_q, gBd_of c1 c5⟩
      rw [wordHere_r hX hBg s4 s1.1 s1.2.1, Option.bind_some]
      by_cases h5 : gcc X st = 5
      · rw [if_pos h5]
        by_cases h6 : gsz X st ≤ 6
        · rw [if_pos h6, if_neg (show ¬ (1 : Int32) = 0 by decide)]
          dsimp only
          have k6 : zJ (dI D) = 6 ↔ dI D = 6 := zJ_inj (by omega) (by decide)
          rw [s1.2.2.1]
          by_cases hr : dI D = 6
          · have e2 : gCin X D st = 2 := by
              rw [ec]
              unfold gnC
              rw [if_pos h5, if_pos h6, if_neg (by rw [decide_eq_true_eq]; omega)]
            rw [if_neg (fun h => h (k6.mpr hr)), show (2 : Int32) = zJ 2 from rfl, wrong_r s1.2.1 s1.1.2.2.1, Option.bind_some]
            exact ⟨fun _ => bad 2 (by omega) (by omega) e2, fun h => by omega⟩
          · rw [if_pos (fun h => hr (k6.mp h))]
            unfold f_Mod_readInputs_j56
            by_cases hf : gfd X D st < dL D
            · have e4 : gCin X D st = 4 := by
                rw [ec]
                unfold gnC
                rw [if_pos h5, if_pos h6, if_pos (by rw [decide_eq_true_eq]; omega), if_pos hf]
              have b4 := gbad_24 (h := g) (c := 4) (st := st) (by omega) (by omega)
              rw [takeName_dup hX hBg s4 s1 s2 (by omega) h6 hf, Option.bind_some, if_neg b4, e4]
              exact ⟨fun _ => zw_some ⟨_, rfl, gbad_q, gBd_of (by omega) (by omega)⟩, fun h => by omega⟩
            · have e0 : gCin X D st = 0 := by
                rw [ec]
                unfold gnC
                rw [if_pos h5, if_pos h6, if_pos (by rw [decide_eq_true_eq]; omega), if_neg hf]
              refine ⟨fun h => absurd e0 h, fun _ => ⟨(gcc_word (by omega)).1, ?_⟩⟩
              have hz := gNok_of hX (show 5 ≤ gcc X st by omega) h6
              refine zw_bi (takeName_r hX hBg s4 s1 s2 (by omega) h6 (by omega) hf) ?_
              rintro g2 ⟨q2, c2, t2, v24, v345, v346, v340⟩
              have e22 : (22 : Int32) + zJ (dI D) = zJ (22 + dI D) := zJ_la (n := 22)
              have e6 : (6 : Int32) + zJ (dI D) = zJ (6 + dI D) := zJ_la (n := 6)
              have u5 : g2.1 336 5 = zJ (dI D) := (c2.i (gFn_no (by omega))).trans s1.2.2.1
              rw [if_pos v24, s1.2.2.1, e22, e6, zb_t (by omega) (by omega), zg_tr, Option.bind_some, zg_tr, Option.bind_some, zb_t (by omega) (by omega), zg_tr, Option.bind_some, zg_tr, Option.bind_some, zI_ne (by decide), zI_ne (by decide), zI_ne (by decide), zI_ne (by decide), u5, Option.bind_some, zJ_c (by omega), zJ_c (by omega), zJ_al]
              have Q : zfm ((336, 336, 5, 5) :: (337, 338, 22 + dI D, 22 + dI D) :: (341, 342, 6 + dI D, 6 + dI D) :: gFn (dL D)) g (zsI (zsI (zsI (zsI (zsI g2 337 (22 + dI D) (-1)) 338 (22 + dI D) 0) 341 (6 + dI D) (-1)) 342 (6 + dI D) (-1)) 336 5 (zJ (dI D + OfNat.ofNat 1))) := (((((c2.sub' (fun a b hab => zin_2 (zin_2 (zin_2 hab)))).I (zin_2 (zin_1 (by omega) (by omega) (by omega) (by omega)))).I (zin_2 (zin_1 (by omega) (by omega) (by omega) (by omega)))).I (zin_2 (zin_2 (zin_1 (by omega) (by omega) (by omega) (by omega))))).I (zin_2 (zin_2 (zin_1 (by omega) (by omega) (by omega) (by omega))))).I (zin_1 (by omega) (by omega) (by omega) (by omega))
              have Q2 : zfm [(336, 342, 0, 9999)] g2 (zsI (zsI (zsI (zsI (zsI g2 337 (22 + dI D) (-1)) 338 (22 + dI D) 0) 341 (6 + dI D) (-1)) 342 (6 + dI D) (-1)) 336 5 (zJ (dI D + OfNat.ofNat 1))) := ((((zfm.rfl'.I (zin_1 (by omega) (by omega) (by omega) (by omega))).I (zin_1 (by omega) (by omega) (by omega) (by omega))).I (zin_1 (by omega) (by omega) (by omega) (by omega))).I (zin_1 (by omega) (by omega) (by omega) (by omega))).I (zin_1 (by omega) (by omega) (by omega) (by omega))
              have w5 : (zsI (zsI (zsI (zsI (zsI g2 337 (22 + dI D) (-1)) 338 (22 + dI D) 0) 341 (6 + dI D) (-1)) 342 (6 + dI D) (-1)) 336 5 (zJ (dI D + OfNat.ofNat 1))).1 336 5 = zJ (dI D + 1) := zI_eq
              have w337 : (zsI (zsI (zsI (zsI (zsI g2 337 (22 + dI D) (-1)) 338 (22 + dI D) 0) 341 (6 + dI D) (-1)) 342 (6 + dI D) (-1)) 336 5 (zJ (dI D + OfNat.ofNat 1))).1 337 (22 + dI D) = -1 := by
                rw [zI_ne (by decide), zI_ne (by decide), zI_ne (by decide), zI_ne (by decide), zI_eq]
              have w338 : (zsI (zsI (zsI (zsI (zsI g2 337 (22 + dI D) (-1)) 338 (22 + dI D) 0) 341 (6 + dI D) (-1)) 342 (6 + dI D) (-1)) 336 5 (zJ (dI D + OfNat.ofNat 1))).1 338 (22 + dI D) = 0 := by
                rw [zI_ne (by decide), zI_ne (by decide), zI_ne (by decide), zI_eq]
              have w341 : (zsI (zsI (zsI (zsI (zsI g2 337 (22 + dI D) (-1)) 338 (22 + dI D) 0) 341 (6 + dI D) (-1)) 342 (6 + dI D) (-1)) 336 5 (zJ (dI D + OfNat.ofNat 1))).1 341 (6 + dI D) = -1 := by
                rw [zI_ne (by decide), zI_ne (by decide), zI_eq]
              have w342 : (zsI (zsI (zsI (zsI (zsI g2 337 (22 + dI D) (-1)) 338 (22 + dI D) 0) 341 (6 + dI D) (-1)) 342 (6 + dI D) (-1)) 336 5 (zJ (dI D + OfNat.ofNat 1))).1 342 (6 + dI D) = -1 := by
                rw [zI_ne (by decide), zI_eq]
              have w340 : (zsI (zsI (zsI (zsI (zsI g2 337 (22 + dI D) (-1)) 338 (22 + dI D) 0) 341 (6 + dI D) (-1)) 342 (6 + dI D) (-1)) 336 5 (zJ (dI D + OfNat.ofNat 1))).1 340 (22 + dL D) = 0 := by
                rw [zI_ne (by decide), zI_ne (by decide), zI_ne (by decide), zI_ne (by decide), zI_ne (by decide), v340]
              generalize zsI (zsI (zsI (zsI (zsI g2 337 (22 + dI D) (-1)) 338 (22 + dI D) 0) 341 (6 + dI D) (-1)) 342 (6 + dI D) (-1)) 336 5 (zJ (dI D + OfNat.ofNat 1)) = g5 at *
              have T5 : grT g5 X (gnt X st) := t2.fr Q2 (fun k h1 h2 => zin_n1 (by omega))
              have rd : ∀ a k, ¬ (a = 336 ∧ k = 5) → ¬ ((a = 337 ∨ a = 338) ∧ k = 22 + dI D) → ¬ ((a = 341 ∨ a = 342) ∧ k = 6 + dI D) → ¬ ((a = 340 ∨ a = 345) ∧ k = 22 + dL D) → ¬ (a = 346 ∧ 6 * (22 + dL D) ≤ k ∧ k ≤ 6 * (22 + dL D) + 5) → 336 ≤ a → g5.1 a k = g.1 a k := fun a k h1 h2 h3 h4 h5 h6 => Q.i (zin_c (by omega) (zin_c (by omega) (zin_c (by omega) (gFn_no (by omega)))))
              have Qq : zfm gFq g g5 := Q.sub' (fun a b hab => by
                by_cases hfn : zin (gFn (dL D)) a b = true
                · exact gFq_in (by
                    rcases gFn_of hfn with ⟨rfl, h⟩ | ⟨rfl | rfl, h⟩ | ⟨rfl, h⟩
                    · exact Or.inl ⟨rfl, by omega⟩
                    · exact Or.inr (Or.inr ⟨by omega, Or.inl ⟨by omega, by omega⟩⟩)
                    · exact Or.inr (Or.inr ⟨by omega, Or.inl ⟨by omega, by omega⟩⟩)
                    · exact Or.inr (Or.inr ⟨by omega, Or.inr (Or.inr (Or.inr (Or.inr (Or.inr ⟨rfl, by omega⟩))))⟩))
                · by_cases c1 : a = 336 ∧ b = 5
                  · exact gFq_in (Or.inr (Or.inl (by omega)))
                  · by_cases c2' : (a = 337 ∨ a = 338) ∧ b = 22 + dI D
                    · exact gFq_in (Or.inr (Or.inr ⟨by omega, Or.inl ⟨by omega, by omega⟩⟩))
                    · by_cases c3 : (a = 341 ∨ a = 342) ∧ b = 6 + dI D
                      · exact gFq_in (Or.inr (Or.inr ⟨by omega, Or.inr (Or.inr (Or.inl ⟨c3.1, by omega⟩))⟩))
                      · rw [zin_c (by omega) (zin_c (by omega) (zin_c (by omega) (by simpa using hfn)))] at hab
                        cases hab)
              have G5 : grD g5 (gAddI D (gsz X st) (gnm X st)) (dNc D) (dL D + 1) := by
                obtain ⟨d1, d2, d3, d4, d5, d6, d7, d8, d9⟩ := s1.2.2
                refine ⟨w5, ?_, ?_, ?_, ?_, fun l hl => ?_, fun l hl => ?_, fun c hc => ?_, fun i hi => ?_⟩
                · rw [rd _ _ (by omega) (by omega) (by omega) (by omega) (by omega) (by omega), d2]
                  congr 1
                  show dL D - dI D = dL D + 1 - (dI D + 1)
                  omega
                · exact (rd _ _ (by omega) (by omega) (by omega) (by omega) (by omega) (by omega)).trans d3
                · exact (rd _ _ (by omega) (by omega) (by omega) (by omega) (by omega) (by omega)).trans d4
                · exact (rd _ _ (by omega) (by omega) (by omega) (by omega) (by omega) (by omega)).trans d5
                · by_cases e : l = dL D
                  · subst e
                    refine ⟨?_, fun i hi => ?_, ?_⟩
                    · show _ = zJ (gu (dLn D) (dL D) (gsz X st) (dL D))
                      rw [gu_eq, Q2.i (zin_n1 (by omega)), v345]
                    · show _ = zJ (gu (dNm D) (dL D) (gnm X st) (dL D) i)
                      have hi' : i < gu (dLn D) (dL D) (gsz X st) (dL D) := hi
                      rw [gu_eq] at hi'
                      rw [gu_eq, Q2.i (zin_n1 (by omega)), v346 i hi']
                    · have f1 : dT D (dL D) = false := by
                        cases ht : dT D (dL D)
                        · rfl
                        · have := (s2.2.2.2.2.2.2 (dL D)).1 ht
                          omega
                      have f2 : dK D (dL D) = false := by
                        cases ht : dK D (dL D)
                        · rfl
                        · have := (s2.2.2.2.2.2.2 (dL D)).2 ht
                          omega
                      show _ = zJ ((dT D (dL D)).toNat + 2 * (dK D (dL D)).toNat)
                      rw [f1, f2, w340]
                      rfl
                  · have hl' : l < dL D := by
                      have : l < dL D + 1 := hl
                      omega
                    have := (d6 l hl').fr (h' := g5) (s2.2.1 l hl') (fun a k h1 h2 => rd a k (by omega) (by omega) (by omega) (by omega) (by omega) (by omega)) (fun k h1 h2 => rd _ _ (by omega) (by omega) (by omega) (by omega) (by omega) (by omega))
                    obtain ⟨b1, b2, b3⟩ := this
                    refine ⟨?_, fun i hi => ?_, b3⟩
                    · show _ = zJ (gu (dLn D) (dL D) (gsz X st) l)
                      rw [gu_ne e]
                      exact b1
                    · have hi' : i < gu (dLn D) (dL D) (gsz X st) l := hi
                      rw [gu_ne e] at hi'
                      show _ = zJ (gu (dNm D) (dL D) (gnm X st) l i)
                      rw [gu_ne e]
                      exact b2 i hi'
                · have hl' : l < dL D + 1 := hl
                  refine ⟨fun hi => ?_, fun hi => absurd (show dI D + 1 ≤ l from hi) (by omega)⟩
                  by_cases e : l = dI D
                  · subst e
                    exact ⟨w337, w338⟩
                  · rw [rd 337 _ (by omega) (by omega) (by omega) (by omega) (by omega) (by omega), rd 338 _ (by omega) (by omega) (by omega) (by omega) (by omega) (by omega)]
                    exact (d7 l (by omega)).1 (by omega)
                · exact ⟨(rd _ _ (by omega) (by omega) (by omega) (by omega) (by omega) (by omega)).trans (d8 c hc).1, fun k hk => (rd _ _ (by omega) (by omega) (by omega) (by omega) (by omega) (by omega)).trans ((d8 c hc).2 k hk)⟩
                · have hi' : i < dI D + 1 := hi
                  show _ = zfj (gu (dCo D) (dI D) 0 i) ∧ _ = zfj (gu (dTk D) (dI D) 0 i)
                  by_cases e : i = dI D
                  · subst e
                    rw [gu_eq, gu_eq, w341, w342]
                    exact ⟨rfl, rfl⟩
                  · rw [gu_ne e, gu_ne e, rd 341 _ (by omega) (by omega) (by omega) (by omega) (by omega) (by omega), rd 342 _ (by omega) (by omega) (by omega) (by omega) (by omega) (by omega)]
                    exact d9 i (by omega)
              unfold f_Mod_readInputs_j138
              rw [gword_fl T5]
              refine zw_of (x := .inl (zbI (decide (5 ≤ gcc X (gnt X st))), g5)) ?_ ⟨g5, rfl, Qq, ⟨T5, (Q2.i (by rfl)).trans v24, G5⟩, ok_AddI s2 s3 (by omega) hz, ?_, s3'⟩
              · by_cases h : 5 ≤ gcc X (gnt X st)
                · rw [if_pos h, decide_eq_true h]
                  rfl
                · rw [if_neg h, decide_eq_false h]
                  rfl
              · show dL D + 1 = dI D + 1
                omega
        · rw [if_neg h6, if_pos rfl]
          have e2 : gCin X D st = 2 := by
            rw [ec]
            unfold gnC
            rw [if_pos h5, if_neg h6]
          exact ⟨fun _ => bad 2 (by omega) (by omega) e2, fun h => by omega⟩
      · rw [if_neg h5, if_pos rfl]
        have e1 : gCin X D st = 1 := by
          rw [ec]
          unfold gnC
          rw [if_neg h5]
        exact ⟨fun _ => bad 1 (by omega) (by omega) e1, fun h => by omega⟩
    · rintro y (⟨e, g', rfl, e1, e2, e3⟩ | ⟨D2, st2, g', rfl, e1, e2, e3, e4, e5, e6⟩)
      · exact zw_some ⟨q1.trans e2, Or.inl ⟨e, e1, e3⟩⟩
      · exact zw_some ⟨q1.trans e2, Or.inr ⟨D2, st2, e1, e3, e4, e5.2, e6⟩⟩
