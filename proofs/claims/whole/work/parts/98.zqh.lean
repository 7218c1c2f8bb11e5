/-! ===== the class reads a text ===== -/
theorem gcR_bo {h : zH} {X : gX} {o : Nat} {R : gR} {y : Int32 × zH} (hy : gcR h X o R y) : zw (zg (zbo y.1) (some (y.1, y.2))) fun y => gcR h X o R y := by
  have e : zbo y.1 = true := by
    obtain ⟨-, -, h3⟩ := hy
    cases R with
    | inl e =>
      rw [h3.1]
      rfl
    | inr d =>
      rw [h3.1]
      rfl
  rw [e, zg_tr]
  exact zw_some hy
theorem gcR_mono {h h' : zH} {X : gX} {o : Nat} {R : gR} {y : Int32 × zH} (z : zfm (gFo o) h h') (hy : gcR h' X o R y) : gcR h X o R y := ⟨z.trans hy.1, hy.2⟩
theorem readFrom_c {h : zH} {X : gX} {o least most k st : Nat} {D : gD} (hX : gOKx X) (ho : 4 ≤ o) (hS : gCS h X o D (dL D + 1) st) (hk : gOKd D) (hp : gPd D k 0) (hn : gNE D) (hst : st ≤ X.1) (h1 : 1 ≤ least) (hl3 : least ≤ 3) (h3 : most ≤ 3) (hk5 : k ≤ 5) (hk0 : k = 0 → most = 1) (hr : dL D < dI D + 16) : zw (f_Parser_readFrom h (zJ least) (zJ most)) fun y => gcR h X o (gfrm X least most 4 0 D (gnt X st)) y := by
  unfold f_Parser_readFrom
  generalize hR : gfrm X least most 4 0 D (gnt X st) = R
  refine zw_bi (P := fun y => (∃ g E s, y = .inl g ∧ R = .inr (gDone E, s) ∧ gCS g X o E (dL E + 1) s ∧ gOKd E ∧ gOKd (gDone E) ∧ gNE E ∧ s ≤ X.1 ∧ zfm (gFo o) h g ∧ dL E < 22) ∨ (∃ g s, y = .inr (.inl g) ∧ g.1 2 5 = zJ s ∧ gcR h X o R (0, grf g 1 s)) ∨ (∃ g, y = .inr (.inr (.inl g)) ∧ gcR h X o R (0, g))) (zw_for most (fun i s => s.1 = zJ i ∧ ∃ E sp, gCS s.2 X o E (dL E + 1) sp ∧ gOKd E ∧ gPd E k i ∧ gNE E ∧ dL E < dI E + 16 ∧ sp ≤ X.1 ∧ zfm (gFo o) h s.2 ∧ gfrm X least most (4 - i) i E (gnt X sp) = R) (by omega) ⟨rfl, D, st, hS, hk, hp, hn, hr, hst, zfm.rfl', hR⟩ ?_) ?_
  · rintro i ⟨a, g⟩ hi ⟨rfl, E, sp, s1, s2, s3, s4, s5, s6, s7, s8⟩
    dsimp only at s1 s7 ⊢
    obtain ⟨a1, a2, a3, a4⟩ := gOK_n s2
    obtain ⟨n1, n2, n3⟩ := gnt_spec (X := X) s6
    have hf' : 4 - i = (4 - (i + 1)) + 1 := by omega
    rw [hf', gfrm] at s8
    unfold f_Parser_readFrom_b2
    rw [if_neg (by rw [zJ_lt (by omega) (by omega)]; omega)]
    refine zw_bi (s1.adv hX s6 (by omega) a4 ho) ?_
    rintro g2 ⟨q2, t2⟩
    have z2 := s7.trans q2
    generalize gnt X sp = s at *
    have cl := gcc_le (X := X) (st := s)
    have k3 : zJ (gcc X s) = 3 ↔ gcc X s = 3 := zJ_inj (by omega) (by decide)
    have hj : ¬ (least ≤ i ∧ gcc X s = 3) → zw (f_Parser_readFrom_j45 g2 (zJ least) (zJ most) (zJ i)) (Sum.elim (fun s' => i < most ∧ s'.1 = zJ (i + 1) ∧ ∃ E sp, gCS s'.2 X o E (dL E + 1) sp ∧ gOKd E ∧ gPd E k (i + 1) ∧ gNE E ∧ dL E < dI E + 16 ∧ sp ≤ X.1 ∧ zfm (gFo o) h s'.2 ∧ gfrm X least most (4 - (i + 1)) (i + 1) E (gnt X sp) = R) fun y => (∃ g E s, y = .inl g ∧ R = .inr (gDone E, s) ∧ gCS g X o E (dL E + 1) s ∧ gOKd E ∧ gOKd (gDone E) ∧ gNE E ∧ s ≤ X.1 ∧ zfm (gFo o) h g ∧ dL E < 22) ∨ (∃ g s, y = .inr (.inl g) ∧ g.1 2 5 = zJ s ∧ gcR h X o R (0, grf g 1 s)) ∨ (∃ g, y = .inr (.inr (.inl g)) ∧ gcR h X o R (0, g))) := by
      intro hno
      rw [if_neg hno] at s8
      unfold f_Parser_readFrom_j45
      by_cases him : i = most
      · rw [if_pos him] at s8
        rw [if_neg (fun h => h (by rw [him]))]
        exact zw_some (Or.inr (Or.inl ⟨g2, s, rfl, t2.2.1.2.2.1, gfail_c z2 t2.2.1 n2 s8.symm (by omega) (by omega)⟩))
      · rw [if_neg him] at s8
        rw [if_pos (fun h => him ((zJ_inj (by omega) (by omega)).mp h)), lineHere_c hX n2 t2.2.1 t2.2.2.1 t2.2.2.2.1 (by omega) s2, Option.bind_some]
        have gl := glC_le (X := X) (D := E) (st := s)
        by_cases h0 : glC X E s = 0
        · obtain ⟨c5, c6, c7⟩ := glC_no h0
          rw [if_pos h0] at s8
          rw [if_pos h0, if_pos (fun h => (zJ_m1 (by omega)).mp h), t2.2.2.1, zgr_eq]
          refine zw_bi (addFrom_c t2.2.2.2.1 s2 s3 (by omega) (by omega)) ?_
          rintro g3 ⟨q3, d3⟩
          obtain ⟨o1, o2⟩ := ok_From s2 s3 c7
          exact zw_some ⟨by omega, by rw [zJ_al], gFrom E (gfd X E s), s, t2.upd q3 d3 ho, o1, o2, s4, s5, n2, z2.trans (gFo_o q3), s8⟩
        · rw [if_neg h0] at s8
          rw [if_neg h0, if_neg (fun h => h rfl)]
          exact zw_some (Or.inr (Or.inr ⟨_, rfl, gfail_c z2 t2.2.1 n2 s8.symm (by omega) (by omega)⟩))
    by_cases hil : i < least
    · rw [if_pos (by rw [zJ_lt (by omega) (by omega)]; exact hil)]
      exact hj (fun h => by omega)
    · rw [if_neg (by rw [zJ_lt (by omega) (by omega)]; exact hil), t2.2.1.2.1]
      by_cases h3' : gcc X s = 3
      · rw [if_pos ⟨by omega, h3'⟩] at s8
        rw [if_neg (fun h => h (k3.mpr h3'))]
        exact zw_some (Or.inl ⟨g2, E, s, rfl, s8.symm, t2, s2, ok_Done s2 s3 hk5 (by omega) (by omega) (fun h => by have := hk0 h; omega) s5, s4, n2, z2, by omega⟩)
      · rw [if_pos (fun h => h3' (k3.mp h))]
        exact hj (fun h => h3' h.2)
  · rintro y (⟨g, E, s, rfl, e1, e2, e3, e4, e5, e6, e7, e8⟩ | ⟨g, s, rfl, e1, e2⟩ | ⟨g, rfl, e1⟩)
    · obtain ⟨a1, a2, a3, a4⟩ := gOK_n e3
      dsimp only [Sum.elim]
      rw [e2.2.2.1, zgr_eq, e2.2.2.2.1.2.1, zJ_al, Option.bind_some]
      have q : zfm [(o, o + 34, 0, 9999)] g (zsI g o 1 (zJ (dL E - dI E + OfNat.ofNat 1))) := zfm.rfl'.I (zin_1 (by omega) (by omega) (by omega) (by omega))
      have q1 : zfm [(o, o, 1, 1)] g (zsI g o 1 (zJ (dL E - dI E + OfNat.ofNat 1))) := zfm.rfl'.I (zin_1 (by omega) (by omega) (by omega) (by omega))
      obtain ⟨d1, d2, d3, d4, d5, d6, d7, d8, d9, d10⟩ := e2.2.2.2.1
      refine zw_some (gdone_c (D := gDone E) (e7.trans (gFo_o q)) (e2.upd (D' := gDone E) (L' := dL (gDone E)) q ⟨(q1.i (zin_n1 (by omega))).trans d1, ?_, (q1.i (zin_n1 (by omega))).trans d3, (q1.i (zin_n1 (by omega))).trans d4, (q1.i (zin_n1 (by omega))).trans d5, fun l hl => ?_, fun l hl => ?_, fun l hl => (d8 l hl).fr (by have : l < dL E + 1 := hl; omega) (fun a k b1 b2 b3 b4 => q1.i (zin_n1 (by omega))), fun c hc => ⟨(q1.i (zin_n1 (by omega))).trans (d9 c hc).1, fun k hk => (q1.i (zin_n1 (by omega))).trans ((d9 c hc).2 k hk)⟩, fun j hj => ⟨(q1.i (zin_n1 (by omega))).trans (d10 j hj).1, (q1.i (zin_n1 (by omega))).trans (d10 j hj).2⟩⟩ ho) e4 e5 e6 e1)
      · rw [zI_eq]
        congr 1
        show dL E - dI E + 1 = dL E + 1 - dI E
        omega
      · rw [q1.i (zin_n1 (by omega))]
        exact d6 l hl
      · rw [q1.i (zin_n1 (by omega))]
        exact d7 l hl
    · dsimp only [Sum.elim]
      rw [show (1 : Int32) = zJ 1 from rfl, refuse_p e1, Option.bind_some]
      exact zw_some e2
    · exact zw_some e1
theorem gm11 : ∀ c, c < 11 → ¬ (0 : Int32) ≤ zJ c - 11 := by decide
theorem readGate_c {h : zH} {X : gX} {o st : Nat} {D : gD} (hX : gOKx X) (ho : 4 ≤ o) (hS : gCS h X o D (dL D) st) (hk : gOKd D) (hn : gNE D) (hst : st < X.1) : zw (f_Parser_readGate h) fun y => gcR h X o (gGate X D st) y := by
  obtain ⟨a1, a2, a3, a4⟩ := gOK_n hk
  unfold f_Parser_readGate
  rw [hS.2.2.1, zgr_eq, hS.2.2.2.1.2.1]
  have eif : (if (16 : Int32) ≤ zJ (dL D - dI D) then f_Parser_readGate_j18 h 0 else f_Parser_readGate_j18 h 1) = f_Parser_readGate_j18 h (zbI (decide (dL D < dI D + 16))) := by
    by_cases h6 : dL D < dI D + 16
    · rw [if_neg (by rw [zJ_lle (n := 16) (by omega) (by decide)]; show ¬ 16 ≤ dL D - dI D; omega), decide_eq_true h6]
      rfl
    · rw [if_pos (by rw [zJ_lle (n := 16) (by omega) (by decide)]; show 16 ≤ dL D - dI D; omega), decide_eq_false h6]
      rfl
  rw [eif]
  unfold f_Parser_readGate_j18
  rw [isNewName_c hX (by omega) hS.2.1 hS.2.2.1 hS.2.2.2.1 (Nat.le_refl _) hk, Option.bind_some]
  have cl := gnC_le (X := X) (D := D) (st := st) (room := decide (dL D < dI D + 16))
  unfold gGate
  by_cases hc : gnC X D st (decide (dL D < dI D + 16)) = 0
  · obtain ⟨c5, c6, cr⟩ := gnC_no hc
    rw [decide_eq_true_eq] at cr
    have hz := gNok_of hX (show 5 ≤ gcc X st by omega) c6
    have h27 := gcT7 hS.2.1 (by omega) c6
    have h26 := hS.2.1.2.2.2.1
    rw [if_pos hc, if_pos hc, if_pos (show ¬ (1 : Int32) = 0 by decide)]
    refine zw_bi (hS.adv hX (by omega) (by omega) a4 ho) ?_
    rintro g1 ⟨z1, t1⟩
    obtain ⟨n1, n2, n3⟩ := gnt_spec (X := X) (show st ≤ X.1 by omega)
    generalize gnt X st = s1 at *
    have cl1 := gcc_le (X := X) (st := s1)
    have k4 : zJ (gcc X s1) = 4 ↔ gcc X s1 = 4 := zJ_inj (by omega) (by decide)
    rw [t1.2.1.2.1]
    by_cases h4 : gcc X s1 = 4
    · rw [if_pos (k4.mpr h4), if_pos h4]
      refine zw_bi (t1.adv hX n2 (by omega) a4 ho) ?_
      rintro g2 ⟨z2, t2⟩
      obtain ⟨m1, m2, m3⟩ := gnt_spec (X := X) n2
      generalize gnt X s1 = s2 at *
      have cl2 := gcc_le (X := X) (st := s2)
      rw [t2.2.1.2.1]
      by_cases h11 : 11 ≤ gcc X s2
      · have e11 : zJ (gcc X s2) - 11 = zJ (gcc X s2 - 11) := zJ_subl (n := 11) h11
        rw [if_pos h11, e11, if_pos (by rw [zJ_lle (n := 0) (by omega) (by decide)]; exact Nat.zero_le _), t2.2.2.1, zgr_eq]
        dsimp only
        rw [h27, h26]
        refine zw_bi (nameNext_c t2.2.2.2.1 hk (by omega)) ?_
        rintro g3 ⟨q3, v1, v2, v3, v4⟩
        have q3' : zfm [(o, o + 34, 0, 9999)] g2 g3 := q3.sub' (fun a b hab => by
          unfold zin at hab ⊢
          simp only [List.any_cons, List.any_nil, Bool.or_false, Bool.or_eq_true, Bool.and_eq_true, Nat.ble_eq] at hab ⊢
          omega)
        have S3 : gCS g3 X o (gNext D (gsz X st) (gnm X st) (gcc X s2 - 11)) (dL D + 1) s2 := t2.upd q3' (t2.2.2.2.1.next hk (by omega) q3 v1 v2 v3 v4) ho
        obtain ⟨k1, k2⟩ := ok_Next (D := D) (k := gcc X s2 - 11) hk hz
        have z3 := (z1.trans z2).trans (gFo_o q3')
        have k0 : zJ (gcc X s2 - 11) = 0 ↔ gcc X s2 = 11 := by
          have : zJ (gcc X s2 - 11) = 0 ↔ gcc X s2 - 11 = 0 := zJ_inj (b := 0) (by omega) (by decide)
          rw [this]
          omega
        unfold f_Parser_readGate_j114 f_Parser_readGate_j123
        by_cases he : gcc X s2 = 11
        · rw [if_pos he, if_pos he, if_neg (fun h => h (k0.mpr he)), if_neg (fun h => h (k0.mpr he))]
          refine zw_bi (readFrom_c (least := 1) (most := 1) (k := gcc X s2 - 11) hX ho S3 k1 k2 hn m2 (by omega) (by omega) (by omega) (by omega) (fun _ => rfl) cr) ?_
          intro y hy
          exact gcR_bo (gcR_mono z3 hy)
        · rw [if_neg he, if_neg he, if_pos (fun h => he (k0.mp h)), if_pos (fun h => he (k0.mp h))]
          refine zw_bi (readFrom_c (least := 2) (most := 3) (k := gcc X s2 - 11) hX ho S3 k1 k2 hn m2 (by omega) (by omega) (by omega) (by omega) (fun h => by omega) cr) ?_
          intro y hy
          exact gcR_bo (gcR_mono z3 hy)
      · rw [if_neg h11, if_neg (gm11 _ (by omega)), show (1 : Int32) = zJ 1 from rfl, refuse_p t2.2.1.2.2.1, Option.bind_some]
        exact zw_some (gfail_c (z1.trans z2) t2.2.1 m2 rfl (by omega) (by omega))
    · rw [if_neg (fun h => h4 (k4.mp h)), if_neg h4, show (1 : Int32) = zJ 1 from rfl, refuse_p t1.2.1.2.2.1, Option.bind_some]
      exact zw_some (gfail_c z1 t1.2.1 n2 rfl (by omega) (by omega))
  · rw [if_neg hc, if_neg hc, if_neg (fun h => h rfl)]
    exact zw_some (gfail_c zfm.rfl' hS.2.1 (by omega) rfl (by omega) (by omega))
theorem isClosed_c {h0 h : zH} {X : gX} {o st : Nat} {D : gD} (hX : gOKx X) (ho : 4 ≤ o) (z : zfm (gFo o) h0 h) (hS : gCS h X o D (dL D) st) (hk : gOKd D) (hn : gNE D) (hst : st ≤ X.1) : zw (f_Parser_isClosed h) fun y => gcR h0 X o (gEnd X D (gnt X st)) y := by
  obtain ⟨a1, a2, a3, a4⟩ := gOK_n hk
  unfold f_Parser_isClosed gEnd
  refine zw_bi (hS.adv hX hst (by omega) a4 ho) ?_
  rintro g ⟨q, t⟩
  obtain ⟨n1, n2, n3⟩ := gnt_spec (X := X) hst
  generalize gnt X st = s at *
  have cl := gcc_le (X := X) (st := s)
  have k3 : zJ (gcc X s) = 3 ↔ gcc X s = 3 := zJ_inj (by omega) (by decide)
  rw [t.2.1.2.1]
  by_cases h3 : gcc X s = 3
  · rw [if_pos (k3.mpr h3), if_pos h3]
    exact zw_some (gdone_c (z.trans q) t hk hn n2 rfl)
  · rw [if_neg (fun h => h3 (k3.mp h)), if_neg h3, show (1 : Int32) = zJ 1 from rfl, refuse_p t.2.1.2.2.1, Option.bind_some, if_pos rfl]
    exact zw_some (gfail_c (z.trans q) t.2.1 n2 rfl (by omega) (by omega))
theorem readTake_c {h : zH} {X : gX} {o st : Nat} {D : gD} (hX : gOKx X) (ho : 4 ≤ o) (hS : gCS h X o D (dL D) st) (hk : gOKd D) (hn : gNE D) (hst : st < X.1) : zw (f_Parser_readTake h) fun y => gcR h X o (gTakeC X D (gnt X st)) y := by
  obtain ⟨a1, a2, a3, a4⟩ := gOK_n hk
  unfold f_Parser_readTake gTakeC
  refine zw_bi (hS.adv hX (by omega) (by omega) a4 ho) ?_
  rintro g1 ⟨z1, t1⟩
  obtain ⟨n1, n2, n3⟩ := gnt_spec (X := X) (show st ≤ X.1 by omega)
  generalize gnt X st = s1 at *
  rw [inputHere_c hX n2 t1.2.1 t1.2.2.1 (by omega) t1.2.2.2.1 (Nat.le_refl _) hk, Option.bind_some]
  have cl := giC_le (X := X) (D := D) (st := s1)
  by_cases h0 : giC X D s1 = 0
  · obtain ⟨c5, c6, c7⟩ := giC_no h0
    generalize hi : gfd X D s1 = i at *
    obtain ⟨e28, e29⟩ := t1.2.2.2.1.2.2.2.2.2.2.2.2.2 i c7
    obtain ⟨b28, b29⟩ := hk.2.2.2.2.1 i c7
    rw [if_pos h0, if_pos h0, if_pos (fun h => (zJ_m1 (by omega)).mp h), t1.2.2.1, zgr_eq, zb_t (by omega) (by omega), zg_tr, zJ_c (by omega), e28]
    by_cases hco : dCo D i = 0
    · rw [if_pos hco, if_neg (fun h => h ((zfj_m1 (by omega)).mpr hco)), show (3 : Int32) = zJ 3 from rfl]
      dsimp only
      rw [refuse_p t1.2.1.2.2.1, Option.bind_some]
      exact gcR_bo (gfail_c z1 t1.2.1 n2 rfl (by omega) (by omega))
    · rw [if_neg hco, if_pos (fun h => hco ((zfj_m1 (by omega)).mp h)), zgr_eq, zg_tr]
      dsimp only
      rw [e29]
      by_cases htk : dTk D i = 0
      · rw [if_pos htk, if_pos ((zfj_m1 (by omega)).mpr htk)]
        refine zw_bi (t1.adv hX n2 (by omega) a4 ho) ?_
        rintro g2 ⟨z2, t2⟩
        obtain ⟨m1, m2, m3⟩ := gnt_spec (X := X) n2
        generalize gnt X s1 = s2 at *
        rw [lineHere_c hX m2 t2.2.1 t2.2.2.1 t2.2.2.2.1 (Nat.le_refl _) hk, Option.bind_some]
        have cl2 := glC_le (X := X) (D := D) (st := s2)
        by_cases h1 : glC X D s2 = 0
        · obtain ⟨d5, d6, d7⟩ := glC_no h1
          generalize hl : gfd X D s2 = l at *
          have er : g2.2.2.1 1 1 = some (3, o) := t2.2.2.1
          have er2 : (zsI g2 (o + 29) i (zJ l)).2.2.1 1 1 = some (3, o) := er
          rw [if_pos h1, if_pos h1, if_pos (fun h => (zJ_m1 (by omega)).mp h), er, zgr_eq, zg_tr, Option.bind_some, er2, zgr_eq, zI_ne (by omega), Option.bind_some]
          have q : zfm [(o, o + 34, 0, 9999)] g2 (zsI (zsI g2 (o + 29) i (zJ l)) o 6 (g2.1 o 6 ||| zshl 1 (zJ l))) := (zfm.rfl'.I (zin_1 (by omega) (by omega) (by omega) (by omega))).I (zin_1 (by omega) (by omega) (by omega) (by omega))
          have q1 : zfm [(o, o, 6, 6), (o + 29, o + 29, i, i)] g2 (zsI (zsI g2 (o + 29) i (zJ l)) o 6 (g2.1 o 6 ||| zshl 1 (zJ l))) := (zfm.rfl'.I (zin_2 (zin_1 (by omega) (by omega) (by omega) (by omega)))).I (zin_1 (by omega) (by omega) (by omega) (by omega))
          have S3 : gCS (zsI (zsI g2 (o + 29) i (zJ l)) o 6 (g2.1 o 6 ||| zshl 1 (zJ l))) X o (gTake D i l) (dL (gTake D i l)) s2 := by
            obtain ⟨d1, d2, d3, d4, d5, d6, d7, d8, d9, d10⟩ := t2.2.2.2.1
            refine t2.upd q ⟨(q1.i (zin_n2 (by omega) (by omega))).trans d1, (q1.i (zin_n2 (by omega) (by omega))).trans d2, (q1.i (zin_n2 (by omega) (by omega))).trans d3, (q1.i (zin_n2 (by omega) (by omega))).trans d4, (q1.i (zin_n2 (by omega) (by omega))).trans d5, fun l hl => ?_, ?_, fun l hl => (d8 l hl).fr (by have : l < dL D := hl; omega) (fun a k b1 b2 b3 b4 => q1.i (zin_n2 (by omega) (by omega))), fun c hc => ⟨(q1.i (zin_n2 (by omega) (by omega))).trans (d9 c hc).1, fun k hk => (q1.i (zin_n2 (by omega) (by omega))).trans ((d9 c hc).2 k hk)⟩, fun j hj => ⟨(q1.i (zin_n2 (by omega) (by omega))).trans (d10 j hj).1, ?_⟩⟩ ho
            · rw [q1.i (zin_n2 (by omega) (by omega))]
              exact d6 l hl
            · rw [zI_eq]
              exact gbit_or (by omega) d7
            · show _ = zfj (gu (dTk D) i (l + 1) j)
              have hj' : j < dI D := hj
              by_cases e : j = i
              · subst e
                rw [gu_eq, zI_ne (by omega), zI_eq]
                rfl
              · rw [gu_ne e, q1.i (zin_n2 (by omega) (by omega))]
                exact (d10 j hj).2
          refine zw_bi (isClosed_c hX ho ((z1.trans z2).trans (gFo_o q)) S3 (ok_Take hk d7) hn m2) ?_
          intro y hy
          exact gcR_bo hy
        · rw [if_neg h1, if_neg h1, if_neg (fun h => h rfl)]
          exact zw_some (gfail_c (z1.trans z2) t2.2.1 m2 rfl (by omega) (by omega))
      · rw [if_neg htk, if_neg (fun h => htk ((zfj_m1 (by omega)).mp h)), show (5 : Int32) = zJ 5 from rfl]
        rw [refuse_p t1.2.1.2.2.1, Option.bind_some]
        exact gcR_bo (gfail_c z1 t1.2.1 n2 rfl (by omega) (by omega))
  · rw [if_neg h0, if_neg h0, if_neg (fun h => h rfl)]
    exact zw_some (gfail_c z1 t1.2.1 n2 rfl (by omega) (by omega))
theorem gcc_2 {X : gX} {st : Nat} (h : gcc X st = 2) : st < X.1 ∧ gdt X st = true := by
  have hw := gwc_rng (ypk (gnm X st) (gsz X st))
  unfold gcc at h
  by_cases h0 : st < X.1
  · rw [if_pos h0] at h
    by_cases h1 : glt X st = true
    · rw [if_pos h1] at h
      split at h <;> omega
    · rw [if_neg h1] at h
      by_cases h2 : gdt X st = true
      · exact ⟨h0, h2⟩
      · rw [if_neg h2] at h
        split at h
        · omega
        · split at h <;> omega
  · rw [if_neg h0] at h
    omega
theorem readFill_c {h : zH} {X : gX} {o st : Nat} {D : gD} (hX : gOKx X) (ho : 4 ≤ o) (hS : gCS h X o D (dL D) st) (hk : gOKd D) (hn : gNE D) (hst : st < X.1) : zw (f_Parser_readFill h) fun y => gcR h X o (gFillC X D st) y := by
  obtain ⟨x1, x2⟩ := id hX
  obtain ⟨a1, a2, a3, a4⟩ := gOK_n hk
  unfold f_Parser_readFill gFillC
  rw [hS.2.2.1, zgr_eq, hS.2.2.2.1.2.2.2.2.1]
  cases hf : dF D
  · rw [if_pos zbI_f, if_neg (by decide)]
    refine zw_bi (hS.adv hX (by omega) (by omega) a4 ho) ?_
    rintro g1 ⟨z1, t1⟩
    obtain ⟨n1, n2, n3⟩ := gnt_spec (X := X) (show st ≤ X.1 by omega)
    generalize gnt X st = s1 at *
    have cl1 := gcc_le (X := X) (st := s1)
    have k2 : zJ (gcc X s1) = 2 ↔ gcc X s1 = 2 := zJ_inj (by omega) (by decide)
    have hzl : gsz X s1 ≤ 900 := by
      have := gstop_spec (X := X) n2
      unfold gsz
      omega
    rw [t1.2.1.2.1]
    by_cases h2 : gcc X s1 = 2
    · obtain ⟨w0, w1⟩ := gcc_2 h2
      have hz1 : 1 ≤ gsz X s1 := by
        have := (gstop_spec (X := X) n2).2.2 w0
        unfold gsz
        omega
      rw [if_pos (k2.mpr h2), if_pos h2, t1.2.1.2.2.2.1]
      have bad : zw (f_Parser_readFill_j62 g1) fun y => gcR h X o (.inl (2, s1)) y := by
        unfold f_Parser_readFill_j62
        rw [show (2 : Int32) = zJ 2 from rfl, refuse_p t1.2.1.2.2.1, Option.bind_some]
        exact gcR_bo (gfail_c z1 t1.2.1 n2 rfl (by omega) (by omega))
      by_cases hsz : gsz X s1 = 1
      · have h27 := t1.2.1.2.2.2.2.2 w0 w1 hsz
        have hb := x2 s1 w0
        rw [if_neg (by rw [zJ_llt (n := 1) (by omega) (by decide)]; show ¬ 1 < gsz X s1; omega), h27]
        by_cases hv : X.2 s1 - 48 ≤ 2
        · have er : g1.2.2.1 1 1 = some (3, o) := t1.2.2.1
          have er2 : (zsI g1 o 4 1).2.2.1 1 1 = some (3, o) := er
          rw [if_pos (by rw [zJ_lel (n := 2) (by omega) (by decide)]; exact hv), if_pos ⟨hsz, hv⟩, er, zgr_eq, Option.bind_some, er2, zgr_eq, zI_ne (by omega), h27, Option.bind_some]
          have q : zfm [(o, o + 34, 0, 9999)] g1 (zsI (zsI g1 o 4 1) o 3 (zJ (X.2 s1 - 48))) := (zfm.rfl'.I (zin_1 (by omega) (by omega) (by omega) (by omega))).I (zin_1 (by omega) (by omega) (by omega) (by omega))
          have q1 : zfm [(o, o, 3, 4)] g1 (zsI (zsI g1 o 4 1) o 3 (zJ (X.2 s1 - 48))) := (zfm.rfl'.I (zin_1 (by omega) (by omega) (by omega) (by omega))).I (zin_1 (by omega) (by omega) (by omega) (by omega))
          have S3 : gCS (zsI (zsI g1 o 4 1) o 3 (zJ (X.2 s1 - 48))) X o (gFill D (X.2 s1 - 48)) (dL (gFill D (X.2 s1 - 48))) s1 := by
            obtain ⟨d1, d2, d3, d4, d5, d6, d7, d8, d9, d10⟩ := t1.2.2.2.1
            refine t1.upd q ⟨(q1.i (zin_n1 (by omega))).trans d1, (q1.i (zin_n1 (by omega))).trans d2, (q1.i (zin_n1 (by omega))).trans d3, zI_eq, ?_, fun l hl => ?_, fun l hl => ?_, fun l hl => (d8 l hl).fr (by have : l < dL D := hl; omega) (fun a k b1 b2 b3 b4 => q1.i (zin_n1 (by omega))), fun c hc => ⟨(q1.i (zin_n1 (by omega))).trans (d9 c hc).1, fun k hk => (q1.i (zin_n1 (by omega))).trans ((d9 c hc).2 k hk)⟩, fun j hj => ⟨(q1.i (zin_n1 (by omega))).trans (d10 j hj).1, (q1.i (zin_n1 (by omega))).trans (d10 j hj).2⟩⟩ ho
            · rw [zI_nk (by decide), zI_eq]
              rfl
            · rw [q1.i (zin_n1 (by omega))]
              exact d6 l hl
            · rw [q1.i (zin_n1 (by omega))]
              exact d7 l hl
          refine zw_bi (isClosed_c hX ho (z1.trans (gFo_o q)) S3 (ok_Fill hk hv) hn n2) ?_
          intro y hy
          exact gcR_bo hy
        · rw [if_neg (by rw [zJ_lel (n := 2) (by omega) (by decide)]; exact hv), if_neg (fun h => hv h.2)]
          exact bad
      · rw [if_pos (by rw [zJ_llt (n := 1) (by omega) (by decide)]; show 1 < gsz X s1; omega), if_neg (fun h => hsz h.1)]
        exact bad
    · rw [if_neg (fun h => h2 (k2.mp h)), if_neg h2, show (1 : Int32) = zJ 1 from rfl, refuse_p t1.2.1.2.2.1, Option.bind_some]
      exact gcR_bo (gfail_c z1 t1.2.1 n2 rfl (by omega) (by omega))
  · rw [if_neg (by decide), if_pos rfl, show (5 : Int32) = zJ 5 from rfl, refuse_p hS.2.1.2.2.1, Option.bind_some]
    exact gcR_bo (gfail_c zfm.rfl' hS.2.1 (by omega) rfl (by omega) (by omega))
theorem readClause_c {h : zH} {X : gX} {o st : Nat} {D : gD} (hX : gOKx X) (ho : 4 ≤ o) (hS : gCS h X o D (dL D) st) (hk : gOKd D) (hn : gNE D) (hst : st < X.1) : zw (f_Parser_readClause h) fun y => gcR h X o (gClause X D st) y := by
  have cl := gcc_le (X := X) (st := st)
  have k5 : zJ (gcc X st) = 5 ↔ gcc X st = 5 := zJ_inj (by omega) (by decide)
  have k6 : zJ (gcc X st) = 6 ↔ gcc X st = 6 := zJ_inj (by omega) (by decide)
  have k7 : zJ (gcc X st) = 7 ↔ gcc X st = 7 := zJ_inj (by omega) (by decide)
  have k8 : zJ (gcc X st) = 8 ↔ gcc X st = 8 := zJ_inj (by omega) (by decide)
  have k9 : zJ (gcc X st) = 9 ↔ gcc X st = 9 := zJ_inj (by omega) (by decide)
  have k10 : zJ (gcc X st) = 10 ↔ gcc X st = 10 := zJ_inj (by omega) (by decide)
  unfold f_Parser_readClause gClause
  rw [hS.2.1.2.1]
  by_cases h5 : gcc X st = 5
  · rw [if_pos (k5.mpr h5), if_pos h5]
    exact zw_bi (readGate_c hX ho hS hk hn hst) (fun y hy => gcR_bo hy)
  · rw [if_neg (fun h => h5 (k5.mp h)), if_neg h5]
    by_cases h6 : gcc X st = 6
    · rw [if_pos (k6.mpr h6), if_pos h6]
      exact zw_bi (readIn_c hX ho hS hk hn hst) (fun y hy => gcR_bo hy)
    · rw [if_neg (fun h => h6 (k6.mp h)), if_neg h6]
      by_cases h7 : gcc X st = 7
      · rw [if_pos (k7.mpr h7), if_pos h7]
        exact zw_bi (readSee_c hX ho hS hk hn hst) (fun y hy => gcR_bo hy)
      · rw [if_neg (fun h => h7 (k7.mp h)), if_neg h7]
        by_cases h8 : gcc X st = 8
        · rw [if_pos (k8.mpr h8), if_pos h8]
          exact zw_bi (readChain_c hX ho hS hk hn hst) (fun y hy => gcR_bo hy)
        · rw [if_neg (fun h => h8 (k8.mp h)), if_neg h8]
          by_cases h9 : gcc X st = 9
          · rw [if_pos (k9.mpr h9), if_pos h9]
            exact zw_bi (readTake_c hX ho hS hk hn hst) (fun y hy => gcR_bo hy)
          · rw [if_neg (fun h => h9 (k9.mp h)), if_neg h9]
            by_cases h10 : gcc X st = 10
            · rw [if_pos (k10.mpr h10), if_pos h10]
              exact zw_bi (readFill_c hX ho hS hk hn hst) (fun y hy => gcR_bo hy)
            · rw [if_neg (fun h => h10 (k10.mp h)), if_neg h10, show (1 : Int32) = zJ 1 from rfl, refuse_p hS.2.1.2.2.1, Option.bind_some]
              exact gcR_bo (gfail_c zfm.rfl' hS.2.1 (by omega) rfl (by omega) (by omega))
