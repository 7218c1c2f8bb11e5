/-! ===== the class reads clauses ===== -/
def gFo (o : Nat) : List (Nat × Nat × Nat × Nat) := [(1, 1, 2, 3), (2, 2, 3, 7), (o, o + 34, 0, 9999)]
theorem gFo_1 {o : Nat} {h h' : zH} (q : zfm [(1, 1, 2, 3)] h h') : zfm (gFo o) h h' := q.sub' (fun a b hab => by
  unfold zin gFo at *
  simp only [List.any_cons, List.any_nil, Bool.or_false, Bool.or_eq_true, Bool.and_eq_true, Nat.ble_eq] at hab ⊢
  omega)
theorem gFo_2 {o : Nat} {h h' : zH} (q : zfm [(2, 2, 3, 7)] h h') : zfm (gFo o) h h' := q.sub' (fun a b hab => by
  unfold zin gFo at *
  simp only [List.any_cons, List.any_nil, Bool.or_false, Bool.or_eq_true, Bool.and_eq_true, Nat.ble_eq] at hab ⊢
  omega)
theorem gFo_o {o : Nat} {h h' : zH} (q : zfm [(o, o + 34, 0, 9999)] h h') : zfm (gFo o) h h' := q.sub' (fun a b hab => by
  unfold zin gFo at *
  simp only [List.any_cons, List.any_nil, Bool.or_false, Bool.or_eq_true, Bool.and_eq_true, Nat.ble_eq] at hab ⊢
  omega)
def gCS (h : zH) (X : gX) (o : Nat) (D : gD) (L st : Nat) : Prop := gcB h X ∧ gcT h X st ∧ h.2.2.1 1 1 = some (3, o) ∧ gcD h o D L ∧ h.1 1 2 = 0 ∧ h.1 1 3 = -1
theorem gCS.upd {g g' : zH} {X : gX} {o L L' st : Nat} {D D' : gD} (hS : gCS g X o D L st) (q : zfm [(o, o + 34, 0, 9999)] g g') (hD : gcD g' o D' L') (ho : 4 ≤ o) : gCS g' X o D' L' st := by
  obtain ⟨s1, s2, s3, s4, s5, s6⟩ := hS
  exact ⟨s1.fr q (zin_n1 (by omega)) (fun k => zin_n1 (by omega)), s2.fr q (fun k h1 h2 => zin_n1 (by omega)), by rw [q.1]; exact s3, hD, (q.i (zin_n1 (by omega))).trans s5, (q.i (zin_n1 (by omega))).trans s6⟩
theorem gCS.adv {h : zH} {X : gX} {o L st : Nat} {D : gD} (hX : gOKx X) (hS : gCS h X o D L st) (hst : st ≤ X.1) (hL : L ≤ 22) (hc : dNc D ≤ 3) (ho : 4 ≤ o) : zw (f_Tape_advance h) fun g => zfm (gFo o) h g ∧ gCS g X o D L (gnt X st) := by
  obtain ⟨s1, s2, s3, s4, s5, s6⟩ := hS
  refine zw_mono (adv_c hX s1 hst s2) ?_
  rintro g ⟨q, t⟩
  exact ⟨gFo_2 q, s1.fr q (by rfl) (fun k => zin_n1 (by omega)), t, by rw [q.1]; exact s3, s4.fr hL hc q (fun a k h1 h2 => zin_n1 (by omega)), (q.i (by rfl)).trans s5, (q.i (by rfl)).trans s6⟩
def gcR (h : zH) (X : gX) (o : Nat) (R : gR) (y : Int32 × zH) : Prop := zfm (gFo o) h y.2 ∧ (∃ s, s ≤ X.1 ∧ gcT y.2 X s) ∧ Sum.elim (fun e : Nat × Nat => y.1 = 0 ∧ y.2.1 1 2 = zJ e.1 ∧ y.2.1 1 3 = zJ e.2 ∧ 1 ≤ e.1 ∧ e.1 ≤ 5) (fun d : gD × Nat => y.1 = 1 ∧ gCS y.2 X o d.1 (dL d.1) d.2 ∧ gOKd d.1 ∧ gNE d.1 ∧ d.2 ≤ X.1) R
theorem gfail_c {h g : zH} {X : gX} {o c st : Nat} {R : gR} (z : zfm (gFo o) h g) (hT : gcT g X st) (hst : st ≤ X.1) (hR : R = .inl (c, st)) (h1 : 1 ≤ c) (h5 : c ≤ 5) : gcR h X o R (0, grf g c st) := by
  subst hR
  refine ⟨z.trans (gFo_1 grf_fm), ⟨st, hst, hT.fr grf_fm (fun k h1 h2 => zin_n1 (by omega))⟩, rfl, ?_, zI_eq, h1, h5⟩
  show (grf g c st).1 1 2 = zJ c
  unfold grf
  rw [zI_nk (by decide), zI_eq]
theorem gdone_c {h g : zH} {X : gX} {o st : Nat} {D : gD} {R : gR} (z : zfm (gFo o) h g) (hS : gCS g X o D (dL D) st) (hk : gOKd D) (hn : gNE D) (hst : st ≤ X.1) (hR : R = .inr (D, st)) : gcR h X o R (1, g) := by
  subst hR
  exact ⟨z, ⟨st, hst, hS.2.1⟩, rfl, hS, hk, hn, hst⟩
/-- a loop of a clause: in, see, chain -/
theorem gloop_c {Y : Type} {B : Int32 × zH → Option ((Int32 × zH) ⊕ (zH ⊕ Y))} {E : Int32 × zH → Option ((Int32 × zH) ⊕ (zH ⊕ Y))} {J : zH → Int32 → Option ((Int32 × zH) ⊕ (zH ⊕ Y))} {Q : zH ⊕ Y → Prop} {X : gX} {o sp0 : Nat} {h g0 : zH} {R : gR} {C : gD → Nat → Nat} {U : gD → Nat → gD} {Inv : Bool → gD → Prop} {D0 : gD} (hX : gOKx X) (ho : 4 ≤ o)
    (hB : ∀ v g, B (v, g) = if 900 ≤ v then E (v, g) else (f_Tape_advance g).bind fun x => if v ≤ 0 then J x v else if ¬ (x.1 2 4) = 3 then J x v else some (.inr (.inl x)))
    (hdone : ∀ D st g, R = .inr (D, st) → gCS g X o D (dL D) st → gOKd D → Inv true D → st ≤ X.1 → zfm (gFo o) h g → Q (.inl g))
    (hJ : ∀ i b D st g, gCS g X o D (dL D) st → gOKd D → Inv b D → st ≤ X.1 → zfm (gFo o) h g → (C D st ≠ 0 → R = .inl (C D st, st) → zw (J g (zJ i)) (Sum.elim (fun _ => False) Q)) ∧ (C D st = 0 → zw (J g (zJ i)) (Sum.elim (fun s' => s'.1 = zJ i + 1 ∧ gCS s'.2 X o (U D st) (dL (U D st)) st ∧ gOKd (U D st) ∧ Inv true (U D st) ∧ zfm (gFo o) h s'.2 ∧ st < X.1) Q)))
    (hS : gCS g0 X o D0 (dL D0) sp0) (hk : gOKd D0) (hI : Inv false D0) (hsp : sp0 < X.1) (hz : zfm (gFo o) h g0) (hR : glp X C U 900 D0 (gnt X sp0) false = R) : zw (zit zFU B (0, g0)) Q := by
  obtain ⟨x1, x2⟩ := id hX
  refine zw_for 900 (fun i s => s.1 = zJ i ∧ ∃ D sp, gCS s.2 X o D (dL D) sp ∧ gOKd D ∧ Inv (decide (0 < i)) D ∧ sp < X.1 ∧ i ≤ sp ∧ zfm (gFo o) h s.2 ∧ glp X C U (900 - i) D (gnt X sp) (decide (0 < i)) = R) (by omega) ⟨rfl, D0, sp0, hS, hk, hI, hsp, Nat.zero_le _, hz, hR⟩ ?_
  rintro i ⟨a, g⟩ hi ⟨rfl, D, sp, s1, s2, s3, s4, s5, s6, s7⟩
  dsimp only at s1 s6 ⊢
  obtain ⟨a1, a2, a3, a4⟩ := gOK_n s2
  obtain ⟨n1, n2, n3⟩ := gnt_spec (X := X) (show sp ≤ X.1 by omega)
  have n3' := n3 s4
  obtain ⟨f, hf⟩ : ∃ f, 900 - i = f + 1 := ⟨900 - i - 1, by omega⟩
  rw [hf] at s7
  have hf' : f = 900 - (i + 1) := by omega
  subst hf'
  rw [hB, if_neg (by rw [zJ_lle (n := 900) (by omega) (by decide)]; show ¬ 900 ≤ i; omega)]
  refine zw_bi (s1.adv hX (by omega) (by omega) a4 ho) ?_
  rintro g2 ⟨q2, t2⟩
  have z2 := s6.trans q2
  generalize gnt X sp = st at *
  obtain ⟨j1, j2⟩ := hJ i (decide (0 < i)) D st g2 t2 s2 s3 n2 z2
  have hj : ¬ (decide (0 < i) = true ∧ gcc X st = 3) → zw (J g2 (zJ i)) (Sum.elim (fun s' => i < 900 ∧ s'.1 = zJ (i + 1) ∧ ∃ D sp, gCS s'.2 X o D (dL D) sp ∧ gOKd D ∧ Inv (decide (0 < i + 1)) D ∧ sp < X.1 ∧ i + 1 ≤ sp ∧ zfm (gFo o) h s'.2 ∧ glp X C U (900 - (i + 1)) D (gnt X sp) (decide (0 < i + 1)) = R) Q) := by
    intro hno
    rw [glp, if_neg hno] at s7
    by_cases hc : C D st = 0
    · rw [if_pos hc] at s7
      refine zw_mono (j2 hc) ?_
      rintro (s' | y) hs
      · obtain ⟨b1, b2, b3, b4, b5, b6⟩ := hs
        have ed : decide (0 < i + 1) = true := decide_eq_true (by omega)
        refine ⟨by omega, by rw [b1, zJ_al], U D st, st, b2, b3, by rw [ed]; exact b4, b6, by omega, b5, by rw [ed]; exact s7⟩
      · exact hs
    · rw [if_neg hc] at s7
      refine zw_mono (j1 hc s7.symm) ?_
      rintro (s' | y) hs
      · exact absurd hs (fun h => h)
      · exact hs
  by_cases hi0 : i = 0
  · rw [if_pos (by rw [zJ_lel (n := 0) (by omega) (by decide)]; show i ≤ 0; omega)]
    exact hj (fun h => by
      have := h.1
      rw [decide_eq_true_eq] at this
      omega)
  · rw [if_neg (by rw [zJ_lel (n := 0) (by omega) (by decide)]; show ¬ i ≤ 0; omega), t2.2.1.2.1]
    have cl := gcc_le (X := X) (st := st)
    have k3 : zJ (gcc X st) = 3 ↔ gcc X st = 3 := zJ_inj (by omega) (by decide)
    by_cases h3 : gcc X st = 3
    · have ed : decide (0 < i) = true := decide_eq_true (by omega)
      rw [glp, if_pos ⟨ed, h3⟩] at s7
      rw [if_neg (fun h => h (k3.mpr h3))]
      rw [ed] at s3
      exact zw_some (hdone D st g2 s7.symm t2 s2 s3 n2 z2)
    · rw [if_pos (fun h => h3 (k3.mp h))]
      exact hj (fun h => h3 h.2)
theorem readIn_c {h : zH} {X : gX} {o st : Nat} {D : gD} (hX : gOKx X) (ho : 4 ≤ o) (hS : gCS h X o D (dL D) st) (hk : gOKd D) (hn : gNE D) (hst : st < X.1) : zw (f_Parser_readIn h) fun y => gcR h X o (if dI D < dL D then .inl (1, st) else glp X (gCin X) (gUin X) 900 D (gnt X st) false) y := by
  obtain ⟨a1, a2, a3, a4⟩ := gOK_n hk
  unfold f_Parser_readIn
  rw [hS.2.2.1, zgr_eq, hS.2.2.2.1.2.1]
  by_cases hg : dI D < dL D
  · rw [if_neg (by rw [zJ_lel (n := 0) (by omega) (by decide)]; show ¬ dL D - dI D ≤ 0; omega), if_pos hg, show (1 : Int32) = zJ 1 from rfl, refuse_p hS.2.1.2.2.1, Option.bind_some]
    exact zw_some (gfail_c zfm.rfl' hS.2.1 (by omega) rfl (by omega) (by omega))
  · rw [if_pos (by rw [zJ_lel (n := 0) (by omega) (by decide)]; show dL D - dI D ≤ 0; omega), if_neg hg]
    generalize hR : glp X (gCin X) (gUin X) 900 D (gnt X st) false = R
    refine zw_bi (gloop_c (Q := fun y => (∃ g, y = .inl g ∧ gcR h X o R (1, g)) ∨ (∃ g, y = .inr (.inl g) ∧ gcR h X o R (0, g))) (E := fun s => some (.inr (.inr (.inr s.2)))) (J := f_Parser_readIn_j49) (Inv := fun _ D => dL D = dI D ∧ gNE D) (C := gCin X) (U := gUin X) (R := R) hX ho (fun v g => rfl) ?_ ?_ hS hk ⟨by omega, hn⟩ hst zfm.rfl' hR) ?_
    · intro D st g hR' s1 s2 s3 s4 s5
      exact Or.inl ⟨g, rfl, gdone_c s5 s1 s2 s3.2 s4 hR'⟩
    · rintro i b D st g s1 s2 ⟨s3, s3'⟩ s4 s5
      obtain ⟨a1, a2, a3, a4⟩ := gOK_n s2
      unfold f_Parser_readIn_j49
      rw [s1.2.2.1, zgr_eq, s1.2.2.2.1.1]
      have eif : (if (6 : Int32) ≤ zJ (dI D) then f_Parser_readIn_j67 g (zJ i) 0 else f_Parser_readIn_j67 g (zJ i) 1) = f_Parser_readIn_j67 g (zJ i) (zbI (decide (dI D < 6))) := by
        by_cases h6 : dI D < 6
        · rw [if_neg (by rw [zJ_lle (n := 6) (by omega) (by decide)]; show ¬ 6 ≤ dI D; omega), decide_eq_true h6]
          rfl
        · rw [if_pos (by rw [zJ_lle (n := 6) (by omega) (by decide)]; show 6 ≤ dI D; omega), decide_eq_false h6]
          rfl
      rw [eif]
      unfold f_Parser_readIn_j67
      rw [isNewName_c hX s4 s1.2.1 s1.2.2.1 s1.2.2.2.1 (Nat.le_refl _) s2, Option.bind_some]
      have cl := gnC_le (X := X) (D := D) (st := st) (room := decide (dI D < 6))
      constructor
      · intro hc hR'
        have hc' : ¬ gnC X D st (decide (dI D < 6)) = 0 := hc
        rw [if_neg hc', if_neg (fun h => h rfl)]
        exact zw_some (Or.inr ⟨_, rfl, gfail_c s5 s1.2.1 s4 hR' (by show 1 ≤ gnC X D st (decide (dI D < 6)); omega) (by show gnC X D st (decide (dI D < 6)) ≤ 5; omega)⟩)
      · intro hc
        have hc' : gnC X D st (decide (dI D < 6)) = 0 := hc
        obtain ⟨c5, c6, cr⟩ := gnC_no hc'
        have cr' : dI D < 6 := by
          rw [decide_eq_true_eq] at cr
          exact cr
        have hz := gNok_of hX (show 5 ≤ gcc X st by omega) c6
        rw [if_pos hc', if_pos (show ¬ (1 : Int32) = 0 by decide), s1.2.2.1, zgr_eq, gcT7 s1.2.1 (by omega) c6, s1.2.1.2.2.2.1]
        refine zw_bi (addInput_c s1.2.2.2.1 s2 s3 cr') ?_
        rintro g2 ⟨q2, d2⟩
        refine zw_some ⟨rfl, s1.upd q2 d2 ho, ok_AddI s2 s3 cr' hz, ⟨?_, s3'⟩, s5.trans (gFo_o q2), (gcc_word (by omega)).1⟩
        show dL D + 1 = dI D + 1
        omega
    · rintro y (⟨g, rfl, hg⟩ | ⟨g, rfl, hg⟩)
      · exact zw_some hg
      · exact zw_some hg
theorem readSee_c {h : zH} {X : gX} {o st : Nat} {D : gD} (hX : gOKx X) (ho : 4 ≤ o) (hS : gCS h X o D (dL D) st) (hk : gOKd D) (hn : gNE D) (hst : st < X.1) : zw (f_Parser_readSee h) fun y => gcR h X o (glp X (gCsee X) (gUsee X) 900 D (gnt X st) false) y := by
  unfold f_Parser_readSee
  generalize hR : glp X (gCsee X) (gUsee X) 900 D (gnt X st) false = R
  refine zw_bi (gloop_c (Q := fun y => (∃ g, y = .inl g ∧ gcR h X o R (1, g)) ∨ (∃ g, y = .inr (.inl g) ∧ gcR h X o R (0, g)) ∨ (∃ g st, y = .inr (.inr (.inl g)) ∧ g.1 2 5 = zJ st ∧ gcR h X o R (0, grf g 5 st))) (E := fun s => some (.inr (.inr (.inr (.inr s.2))))) (J := f_Parser_readSee_j33) (Inv := fun _ D => gNE D) (C := gCsee X) (U := gUsee X) (R := R) hX ho (fun v g => rfl) ?_ ?_ hS hk hn hst zfm.rfl' hR) ?_
  · intro D st g hR' s1 s2 s3 s4 s5
    exact Or.inl ⟨g, rfl, gdone_c s5 s1 s2 s3 s4 hR'⟩
  · intro i b D st g s1 s2 s3 s4 s5
    obtain ⟨a1, a2, a3, a4⟩ := gOK_n s2
    unfold f_Parser_readSee_j33
    rw [lineHere_c hX s4 s1.2.1 s1.2.2.1 s1.2.2.2.1 (Nat.le_refl _) s2, Option.bind_some]
    have cl := glC_le (X := X) (D := D) (st := st)
    have ec : gCsee X D st = if glC X D st = 0 then (if dT D (gfd X D st) = true then 5 else 0) else glC X D st := rfl
    rw [ec]
    by_cases h0 : glC X D st = 0
    · obtain ⟨c5, c6, c7⟩ := glC_no h0
      have bit : f_Main_bitOf (g.1 o 5) (zJ (gfd X D st)) = some (zbI (dT D (gfd X D st))) := by
        unfold f_Main_bitOf
        have := ybit (x := g.1 o 5) (l := gfd X D st) (show gfd X D st < 32 by omega)
        rw [this, s1.2.2.2.1.2.2.2.2.2.1 _ (by omega)]
      rw [if_pos h0, if_pos h0, if_pos (fun h => (zJ_m1 (by omega)).mp h), s1.2.2.1, zgr_eq, bit, Option.bind_some]
      cases ht : dT D (gfd X D st)
      · constructor
        · intro hc
          exact absurd (if_neg (by decide)) hc
        · intro _
          rw [if_pos (by decide), zgr_eq, Option.bind_some]
          have q : zfm [(o, o + 34, 0, 9999)] g (zsI g o 5 ((g.1 o 5) ||| zshl 1 (zJ (gfd X D st)))) := zfm.rfl'.I (zin_1 (by omega) (by omega) (by omega) (by omega))
          have q1 : zfm [(o, o, 5, 5)] g (zsI g o 5 ((g.1 o 5) ||| zshl 1 (zJ (gfd X D st)))) := zfm.rfl'.I (zin_1 (by omega) (by omega) (by omega) (by omega))
          obtain ⟨d1, d2, d3, d4, d5, d6, d7, d8, d9, d10⟩ := s1.2.2.2.1
          refine zw_some ⟨rfl, s1.upd q ⟨(q1.i (zin_n1 (by omega))).trans d1, (q1.i (zin_n1 (by omega))).trans d2, (q1.i (zin_n1 (by omega))).trans d3, (q1.i (zin_n1 (by omega))).trans d4, (q1.i (zin_n1 (by omega))).trans d5, ?_, fun l hl => ?_, fun l hl => (d8 l hl).fr (by have : l < dL D := hl; omega) (fun a k b1 b2 b3 b4 => q1.i (zin_n1 (by omega))), fun c hc => ⟨(q1.i (zin_n1 (by omega))).trans (d9 c hc).1, fun k hk => (q1.i (zin_n1 (by omega))).trans ((d9 c hc).2 k hk)⟩, fun j hj => ⟨(q1.i (zin_n1 (by omega))).trans (d10 j hj).1, (q1.i (zin_n1 (by omega))).trans (d10 j hj).2⟩⟩ ho, ok_Told s2 c7, s3, s5.trans (gFo_o q), (gcc_word (by omega)).1⟩
          · rw [zI_eq]
            exact gbit_or (by omega) d6
          · rw [q1.i (zin_n1 (by omega))]
            exact d7 l hl
      · constructor
        · intro _ hR'
          rw [if_neg (by decide)]
          refine zw_some (Or.inr (Or.inr ⟨g, st, rfl, s1.2.1.2.2.1, ?_⟩))
          rw [if_pos rfl] at hR'
          exact gfail_c s5 s1.2.1 s4 hR' (by omega) (by omega)
        · intro hc
          rw [if_pos rfl] at hc
          omega
    · rw [if_neg h0, if_neg h0, if_neg (fun h => h rfl)]
      constructor
      · intro _ hR'
        exact zw_some (Or.inr (Or.inl ⟨_, rfl, gfail_c s5 s1.2.1 s4 hR' (by omega) (by omega)⟩))
      · intro hc
        exact absurd hc h0
  · rintro y (⟨g, rfl, hg⟩ | ⟨g, rfl, hg⟩ | ⟨g, st, rfl, e, hg⟩)
    · exact zw_some hg
    · exact zw_some hg
    · dsimp only [Sum.elim]
      rw [show (5 : Int32) = zJ 5 from rfl, refuse_p e, Option.bind_some]
      exact zw_some hg
theorem readChain_c {h : zH} {X : gX} {o st : Nat} {D : gD} (hX : gOKx X) (ho : 4 ≤ o) (hS : gCS h X o D (dL D) st) (hk : gOKd D) (hn : gNE D) (hst : st < X.1) : zw (f_Parser_readChain h) fun y => gcR h X o (if dNc D = 3 then .inl (2, st) else glp X (gCcha X) (gUcha X) 900 (gCh0 D) (gnt X st) false) y := by
  obtain ⟨a1, a2, a3, a4⟩ := gOK_n hk
  unfold f_Parser_readChain
  rw [hS.2.2.1, zgr_eq, hS.2.2.2.1.2.2.1]
  by_cases h3 : dNc D = 3
  · rw [if_neg (by rw [zJ_ltl (n := 3) (by omega) (by decide)]; show ¬ dNc D < 3; omega), if_pos h3, show (2 : Int32) = zJ 2 from rfl, refuse_p hS.2.1.2.2.1, Option.bind_some]
    exact zw_some (gfail_c zfm.rfl' hS.2.1 (by omega) rfl (by omega) (by omega))
  · rw [if_pos (by rw [zJ_ltl (n := 3) (by omega) (by decide)]; show dNc D < 3; omega), if_neg h3, zgr_eq, zb_t (by omega) (by omega), zg_tr, Option.bind_some]
    have er : (zsI h (o + 34) (zJ (dNc D)).toNatClampNeg 0).2.2.1 1 1 = some (3, o) := hS.2.2.1
    rw [er, zgr_eq, zI_ne (by omega), hS.2.2.2.1.2.2.1, Option.bind_some, zJ_al, zJ_c (by omega)]
    have q : zfm [(o, o + 34, 0, 9999)] h (zsI (zsI h (o + 34) (dNc D) 0) o 2 (zJ (dNc D + OfNat.ofNat 1))) := (zfm.rfl'.I (zin_1 (by omega) (by omega) (by omega) (by omega))).I (zin_1 (by omega) (by omega) (by omega) (by omega))
    have q1 : zfm [(o, o, 2, 2), (o + 34, o + 34, dNc D, dNc D)] h (zsI (zsI h (o + 34) (dNc D) 0) o 2 (zJ (dNc D + OfNat.ofNat 1))) := (zfm.rfl'.I (zin_2 (zin_1 (by omega) (by omega) (by omega) (by omega)))).I (zin_1 (by omega) (by omega) (by omega) (by omega))
    have S2 : gCS (zsI (zsI h (o + 34) (dNc D) 0) o 2 (zJ (dNc D + OfNat.ofNat 1))) X o (gCh0 D) (dL (gCh0 D)) st := by
      obtain ⟨d1, d2, d3, d4, d5, d6, d7, d8, d9, d10⟩ := hS.2.2.2.1
      refine hS.upd q ⟨(q1.i (zin_n2 (by omega) (by omega))).trans d1, (q1.i (zin_n2 (by omega) (by omega))).trans d2, zI_eq, (q1.i (zin_n2 (by omega) (by omega))).trans d4, (q1.i (zin_n2 (by omega) (by omega))).trans d5, fun l hl => ?_, fun l hl => ?_, fun l hl => (d8 l hl).fr (by have : l < dL D := hl; omega) (fun a k b1 b2 b3 b4 => q1.i (zin_n2 (by omega) (by omega))), fun c hc => ?_, fun j hj => ⟨(q1.i (zin_n2 (by omega) (by omega))).trans (d10 j hj).1, (q1.i (zin_n2 (by omega) (by omega))).trans (d10 j hj).2⟩⟩ ho
      · rw [q1.i (zin_n2 (by omega) (by omega))]
        exact d6 l hl
      · rw [q1.i (zin_n2 (by omega) (by omega))]
        exact d7 l hl
      · have hc' : c < dNc D + 1 := hc
        show _ = zJ (gu (dCn D) (dNc D) 0 c) ∧ ∀ k, k < gu (dCn D) (dNc D) 0 c → _
        by_cases e : c = dNc D
        · subst e
          rw [gu_eq]
          refine ⟨?_, fun k hk => absurd hk (Nat.not_lt_zero k)⟩
          rw [zI_ne (by omega), zI_eq]
          rfl
        · rw [gu_ne e]
          exact ⟨(q1.i (zin_n2 (by omega) (by omega))).trans (d9 c (by omega)).1, fun k hk => (q1.i (zin_n2 (by omega) (by omega))).trans ((d9 c (by omega)).2 k hk)⟩
    generalize zsI (zsI h (o + 34) (dNc D) 0) o 2 (zJ (dNc D + OfNat.ofNat 1)) = h6 at *
    generalize hR : glp X (gCcha X) (gUcha X) 900 (gCh0 D) (gnt X st) false = R
    refine zw_bi (gloop_c (Q := fun y => (∃ g, y = .inl g ∧ gcR h X o R (1, g)) ∨ (∃ g, y = .inr (.inl g) ∧ gcR h X o R (0, g)) ∨ (∃ g st, y = .inr (.inr (.inl g)) ∧ g.1 2 5 = zJ st ∧ gcR h X o R (0, grf g 5 st))) (E := fun s => some (.inr (.inr (.inr (.inr s.2))))) (J := fun g v => f_Parser_readChain_j75 g (zJ (dNc D)) v) (Inv := fun b E => dNc E = dNc D + 1 ∧ (∀ c, c < dNc D → 1 ≤ dCn E c) ∧ (b = true → 1 ≤ dCn E (dNc D))) (C := gCcha X) (U := gUcha X) (R := R) hX ho (fun v g => rfl) ?_ ?_ S2 (ok_Ch0 hk (by omega)) ⟨rfl, fun c hc => ?_, fun h => by cases h⟩ hst (gFo_o q) hR) ?_
    · rintro D2 st g hR' s1 s2 ⟨s3, s3', s3''⟩ s4 s5
      refine Or.inl ⟨g, rfl, gdone_c s5 s1 s2 (fun c hc => ?_) s4 hR'⟩
      by_cases e : c = dNc D
      · rw [e]
        exact s3'' rfl
      · exact s3' c (by omega)
    · rintro i b D2 st g s1 s2 ⟨s3, s3', s3''⟩ s4 s5
      obtain ⟨a1, a2, a3, a4⟩ := gOK_n s2
      unfold f_Parser_readChain_j75
      rw [inputHere_c hX s4 s1.2.1 s1.2.2.1 (by omega) s1.2.2.2.1 (Nat.le_refl _) s2, Option.bind_some]
      have cl := giC_le (X := X) (D := D2) (st := st)
      have ec : gCcha X D2 st = if giC X D2 st = 0 then (if dCo D2 (gfd X D2 st) = 0 then 0 else 5) else giC X D2 st := rfl
      rw [ec]
      by_cases h0 : giC X D2 st = 0
      · obtain ⟨c5, c6, c7⟩ := giC_no h0
        have e28 := (s1.2.2.2.1.2.2.2.2.2.2.2.2.2 (gfd X D2 st) c7).1
        have b28 := (s2.2.2.2.2.1 (gfd X D2 st) c7).1
        rw [if_pos h0, if_pos h0, if_pos (fun h => (zJ_m1 (by omega)).mp h), s1.2.2.1, zgr_eq, zb_t (by omega) (by omega), zg_tr, zJ_c (by omega), e28]
        by_cases hco : dCo D2 (gfd X D2 st) = 0
        · rw [if_pos hco, if_pos ((zfj_m1 (by omega)).mpr hco)]
          constructor
          · intro hc
            exact absurd rfl hc
          · intro _
            have ew : g.2.2.1 1 1 = some (3, o) := s1.2.2.1
            have en : dNc D = dNc D2 - 1 := by omega
            rw [zgr_eq, en]
            refine zw_bi (addCell_c s1.2.2.2.1 s2 (by omega) c7 hco) ?_
            rintro g2 ⟨q2, d2⟩
            refine zw_some ⟨rfl, s1.upd q2 d2 ho, (ok_Cell s2 (by omega) c7 hco).1, ⟨by show dNc D2 = _; omega, fun c hc => ?_, fun _ => ?_⟩, s5.trans (gFo_o q2), (gcc_word (by omega)).1⟩
            · show 1 ≤ gu (dCn D2) (dNc D2 - 1) (dCn D2 (dNc D2 - 1) + 1) c
              rw [gu_ne (by omega)]
              exact s3' c (by omega)
            · show 1 ≤ gu (dCn D2) (dNc D2 - 1) (dCn D2 (dNc D2 - 1) + 1) (dNc D2 - 1)
              rw [gu_eq]
              omega
        · rw [if_neg hco, if_neg (fun h => hco ((zfj_m1 (by omega)).mp h))]
          constructor
          · intro _ hR'
            exact zw_some (Or.inr (Or.inr ⟨g, st, rfl, s1.2.1.2.2.1, gfail_c s5 s1.2.1 s4 hR' (by omega) (by omega)⟩))
          · intro hc
            omega
      · rw [if_neg h0, if_neg h0, if_neg (fun h => h rfl)]
        constructor
        · intro _ hR'
          exact zw_some (Or.inr (Or.inl ⟨_, rfl, gfail_c s5 s1.2.1 s4 hR' (by omega) (by omega)⟩))
        · intro hc
          exact absurd hc h0
    · show 1 ≤ gu (dCn D) (dNc D) 0 c
      rw [gu_ne (by omega)]
      exact hn c hc
    · rintro y (⟨g, rfl, hg⟩ | ⟨g, rfl, hg⟩ | ⟨g, st, rfl, e, hg⟩)
      · exact zw_some hg
      · exact zw_some hg
      · dsimp only [Sum.elim]
        rw [show (5 : Int32) = zJ 5 from rfl, refuse_p e, Option.bind_some]
        exact zw_some hg
