/-! ===== net ===== -/
theorem gcD_CN {h : zH} {o : Nat} {D : gD} (hD : gcD h o D (dL D)) (hk : gOKd D) : yCN h o (gFin D) := by
  obtain ⟨a1, a2, a3, a4⟩ := gOK_n hk
  obtain ⟨d1, d2, d3, d4, d5, d6, d7, d8, d9, d10⟩ := hD
  refine ⟨⟨d1, d2, fun l h1 h2 => (d8 l h2).2.2.2 h1⟩, fun l hl => ?_, d3, d4, fun l hl => ?_, fun l hl => ⟨(d8 l hl).1, (d8 l hl).2.1⟩, d9, d10⟩
  · show _ = (decide (l < dL D) && (dT D l || dK D l))
    rw [zBi_or, d6 l hl, d7 l hl]
    by_cases h : l < dL D
    · rw [decide_eq_true h, Bool.true_and]
    · rw [decide_eq_false h, Bool.false_and]
      have f1 : dT D l = false := by
        cases ht : dT D l
        · rfl
        · exact absurd ((hk.2.2.2.2.2.2 l).1 ht) h
      have f2 : dK D l = false := by
        cases ht : dK D l
        · rfl
        · exact absurd ((hk.2.2.2.2.2.2 l).2 ht) h
      rw [f1, f2]
      rfl
  · have hl' : l < dI D := hl
    exact (d8 l (by omega)).2.2.1 hl'
theorem beginNet_c {h : zH} {o : Nat} {N : yN} {t : yT} (hr : h.2.2.1 0 1 = some (3, o)) (hn : yOKn N) (hw : yCN h o N) (ho : o + 35 ≤ 74) (hs : ∀ k, k < 3 → h.1 162 k = t.2.2.2.2.2.2.2 k) : zw (f_Main_beginNet h) fun g => zfm [(74, 136, 0, 9999), (137, 137, 4, 4), (155, 156, 0, 9999), (0, 0, 9, 9)] h g ∧ yCAT g (yE N) (ySb N) ∧ yPl g N ∧ yCSe g 155 (gnew N t) ∧ g.1 0 9 = 0 := by
  obtain ⟨⟨e1, e2, e3, e4⟩, -⟩ := id hn
  have e1' : yI N ≤ 6 := e1
  have e3' : yLs N ≤ yI N + 16 := e3
  have hcs : yCS h o (yE N).2.1 (ySb N) := fun l hl => by
    rw [hw.2.1 l (by have : l < yLs N := hl; omega), decide_eq_true hl, Bool.true_and]
  unfold f_Main_beginNet
  rw [hr, zgr_eq]
  refine zw_bi (describe_c hn.1 hw.1 hcs (by omega)) ?_
  rintro g1 ⟨q1, c1⟩
  have er : (zsI g1 137 4 0).2.2.1 0 1 = some (3, o) := by
    show g1.2.2.1 0 1 = some (3, o)
    rw [q1.1]
    exact hr
  have e3c : (zsI g1 137 4 0).1 o 3 = zJ (yFl N) := by
    rw [zI_ne (by omega), q1.i (zin_n1 (by omega))]
    exact hw.2.2.2.1
  rw [Option.bind_some, er, zgr_eq, e3c]
  unfold f_Session_begin f_State_begin
  rw [Option.bind_some, Option.bind_some, Option.bind_some, Option.bind_some, Option.bind_some, Option.bind_some, Option.bind_some, Option.bind_some, Option.bind_some, Option.bind_some, Option.bind_some, Option.bind_some]
  have Q : zfm [(137, 137, 4, 4), (155, 156, 0, 9999), (0, 0, 9, 9)] g1 (zsI (zsI (zsI (zsI (zsI (zsL (zsI (zsI (zsI (zsI (zsI g1 137 4 0) (155 + 1) 0 0) (155 + 1) 1 0) (155 + 1) 2 (-1)) (155 + 1) 3 (zJ (yFl N))) (155 + 1) 4 0) (155 + 1) 5 0) 155 2 0) 155 3 0) 155 7 0) 0 9 0) := ((((((((((zfm.rfl'.I (by rfl)).I (by rfl)).I (by rfl)).I (by rfl)).I (by rfl)).Lg (by rfl)).I (by rfl)).I (by rfl)).I (by rfl)).I (by rfl)).I (by rfl)
  have Q2 : zfm [(155, 156, 0, 9999), (0, 0, 9, 9)] (zsI g1 137 4 0) (zsI (zsI (zsI (zsI (zsI (zsL (zsI (zsI (zsI (zsI (zsI g1 137 4 0) (155 + 1) 0 0) (155 + 1) 1 0) (155 + 1) 2 (-1)) (155 + 1) 3 (zJ (yFl N))) (155 + 1) 4 0) (155 + 1) 5 0) 155 2 0) 155 3 0) 155 7 0) 0 9 0) := (((((((((zfm.rfl'.I (by rfl)).I (by rfl)).I (by rfl)).I (by rfl)).Lg (by rfl)).I (by rfl)).I (by rfl)).I (by rfl)).I (by rfl)).I (by rfl)
  refine zw_some ⟨(q1.sub rfl).tr Q rfl, c1.fr hn.1 Q (fun a k h1 h2 => zin_n3 (by omega) (by omega) (by omega)), Or.inl ?_, ⟨⟨?_, ?_, ?_, ?_, ?_, fun k hk => absurd hk (Nat.not_lt_zero k), fun f hf => ?_⟩, ?_, ⟨0, by decide, ?_, fun i hi => absurd hi (Nat.not_lt_zero i)⟩, ?_, fun k hk => absurd hk (Nat.not_lt_zero k), fun k hk => ?_⟩, zI_eq⟩
  · rw [Q2.i (by rfl), zI_eq]
  · rw [zI_ne (by decide), zI_ne (by decide), zI_ne (by decide), zI_ne (by decide), zI_nk (by decide), zL_1, zI_nk (by decide), zI_nk (by decide), zI_nk (by decide), zI_eq]
    rfl
  · rw [zI_ne (by decide), zI_ne (by decide), zI_ne (by decide), zI_ne (by decide), zI_nk (by decide), zL_1, zI_nk (by decide), zI_nk (by decide), zI_eq]
    rfl
  · rw [zI_ne (by decide), zI_ne (by decide), zI_ne (by decide), zI_ne (by decide), zI_nk (by decide), zL_1, zI_nk (by decide), zI_eq]
    rfl
  · rw [zI_ne (by decide), zI_ne (by decide), zI_ne (by decide), zI_ne (by decide), zI_nk (by decide), zL_1, zI_eq]
    rfl
  · rw [zI_ne (by decide), zI_ne (by decide), zI_ne (by decide), zI_ne (by decide), zI_eq]
    rfl
  · have e : (zsI (zsI (zsI (zsI (zsI (zsL (zsI (zsI (zsI (zsI (zsI g1 137 4 0) (155 + 1) 0 0) (155 + 1) 1 0) (155 + 1) 2 (-1)) (155 + 1) 3 (zJ (yFl N))) (155 + 1) 4 0) (155 + 1) 5 0) 155 2 0) 155 3 0) 155 7 0) 0 9 0).2.1 (155 + 1) 4 = 0 := by
      rw [zI_2, zI_2, zI_2, zI_2, zI_2, zL_eq]
    rw [e, zBl_0]
    rfl
  · rw [zI_ne (by decide), zI_nk (by decide), zI_eq]
    rfl
  · rw [zI_ne (by decide), zI_nk (by decide), zI_nk (by decide), zI_eq]
    rfl
  · rw [zI_ne (by decide), zI_eq]
    rfl
  · rw [Q.i (zin_n3 (by omega) (by omega) (by omega)), q1.i (zin_n1 (by omega))]
    exact hs k hk
theorem yCN.eq {h h' : zH} {o : Nat} {N : yN} (hr : yCN h o N) (e : h'.1 = h.1) : yCN h' o N := by
  unfold yCN zCE at hr ⊢
  rw [e]
  exact hr
/-- what is changed at most, places of references aside -/
def gfm (L : List (Nat × Nat × Nat × Nat)) (h h' : zH) : Prop := ∀ o k, zin L o k = false → h'.1 o k = h.1 o k ∧ h'.2.1 o k = h.2.1 o k
theorem zfm.g {L : List (Nat × Nat × Nat × Nat)} {h h' : zH} (q : zfm L h h') : gfm L h h' := q.2
theorem gfm.z {L : List (Nat × Nat × Nat × Nat)} {h h' : zH} (q : gfm L h h') : zfm L h (h'.1, h'.2.1, h.2.2) := ⟨rfl, q⟩
theorem gfm.tr {L L1 L2 : List (Nat × Nat × Nat × Nat)} {h h1 h2 : zH} (q1 : gfm L1 h h1) (q2 : gfm L2 h1 h2) (e1 : zsubL L1 L = true) (e2 : zsubL L2 L = true) : gfm L h h2 := by
  have a : zfm L h (h1.1, h1.2.1, h.2.2) := (gfm.z q1).sub e1
  have b : zfm L h1 (h2.1, h2.2.1, h1.2.2) := (gfm.z q2).sub e2
  intro o k hz
  exact ⟨((b.2 o k hz).1).trans (a.2 o k hz).1, ((b.2 o k hz).2).trans (a.2 o k hz).2⟩
theorem yIr.eq {h h' : zH} {S : yG} (hr : yIr h S) (e : h'.1 = h.1) : yIr h' S := by
  unfold yIr yRN zRE zRS yLD zLT yCU yRNow yRIm at hr ⊢
  rw [e]
  exact hr
theorem yIr.g {L : List (Nat × Nat × Nat × Nat)} {h h' : zH} {S : yG} (hr : yIr h S) (q : gfm L h h') (e : zsubL L ySLr = true) : yIr h' S :=
  (hr.fr (gfm.z q) e).eq rfl
theorem yBothR {S S' : yG} {a : yA} {h : zH} {e : Option (Int32 × zH)} {f : zH → Option (Int32 × zH)} (hS : yOK S') (hc : zw e fun x => yCA a x ∧ gfm ((380, 380, 0, 0) :: yLc) h x.2 ∧ yIc x.2 S') (hr : ∀ g, yIr g S → zw (f g) fun y => yRA a y ∧ zfm yLr g y.2 ∧ yIr y.2 S') (hi : yIr h S) (ha : ∀ c, a = .inr c → c = 1 ∨ c = 2) : zw e fun x => zw (f x.2) fun y => yEnd x y := by
  refine zw_mono hc ?_
  rintro x ⟨c1, c2, c3⟩
  refine zw_mono (hr x.2 (hi.g c2 rfl)) ?_
  rintro y ⟨r1, r2, r3⟩
  refine ⟨r1.1.trans c1.1.symm, fun h0 => ?_, S', hS, c3.fr hS r2 rfl, r3⟩
  rcases a with v | c
  · rw [r1.2 v rfl, r2.l (by rfl)]
    exact c1.2 v rfl
  · rw [c1.1] at h0
    rcases ha c rfl with rfl | rfl
    · exact absurd h0 (by decide)
    · exact absurd h0 (by decide)
theorem yLvR {S : yG} {v : Int32} {h : zH} {e : Option ((Int32 × zH) ⊕ (Nat × zH))} {k : Nat × zH → Option (Int32 × zH)} (ho : yOK S) (hc : zw e fun x => ∃ g, x = .inl (v, g) ∧ gfm yLc h g ∧ yIc g S) : zw (e.bind (Sum.elim (fun a => some (0, zsL a.2 380 0 a.1.toInt64)) k)) fun x => yCA (.inl v) x ∧ gfm ((380, 380, 0, 0) :: yLc) h x.2 ∧ yIc x.2 S := by
  refine zw_bi hc ?_
  rintro x ⟨g, rfl, q, hi⟩
  have q2 : zfm [(380, 380, 0, 0)] g (zsL g 380 0 v.toInt64) := zfm.rfl'.Lg (by rfl)
  refine zw_some ⟨⟨rfl, fun w hw => ?_⟩, q.tr q2.g rfl rfl, hi.fr ho q2 rfl⟩
  cases hw
  exact zL_eq
/-- the text that a tape's first bytes are -/
def gXt (S : yG) (n : Nat) : gX := (n, gtb S)
theorem gXt_ok {S : yG} {n : Nat} (ho : yOK S) (hn : n ≤ gtl S) : gOKx (gXt S n) := by
  have := ho.2.2.2.1
  exact ⟨show n ≤ 900 by omega, fun k hk => ho.2.2.2.2 k (by have : k < n := hk; omega)⟩
/-- net refused -/
def gNf (S : yG) (e : Nat × Nat) : yG := (gN S, yrf (gT S) 0, gIm S, gU S, 0, gtb S, zJ e.2)
/-- net told -/
def gNo (S : yG) (D : gD) : yG := (gFin D, gnew (gFin D) (gT S), false, gU S, 0, gtb S, -1)
theorem gNf_ok {S : yG} {e : Nat × Nat} (ho : yOK S) : yOK (gNf S e) := ⟨ho.1, yrf_ok ho.2.1, ho.2.2.1, Nat.zero_le _, fun k hk => absurd hk (Nat.not_lt_zero k)⟩
theorem gNo_ok {S : yG} {D : gD} (hk : gOKd D) (hn : gNE D) : yOK (gNo S D) := ⟨ok_Fin hk hn, gnew_ok (ok_Fin hk hn), (fun h => by cases h), Nat.zero_le _, fun k hk => absurd hk (Nat.not_lt_zero k)⟩
def gNS (S : yG) (n : Nat) : Int32 × yG := Sum.elim (fun e => (zJ e.1, gNf S e)) (fun D => (0, gNo S D)) (gText (gXt S n))
theorem gFr_no {o a k : Nat} (h : ¬ ((a = 1 ∧ 2 ≤ k ∧ k ≤ 3) ∨ (a = 2 ∧ 1 ≤ k ∧ k ≤ 7) ∨ (o ≤ a ∧ a ≤ o + 34))) : zin (gFr o) a k = false := by
  cases hz : zin (gFr o) a k
  · rfl
  · exfalso
    apply h
    unfold zin gFr at hz
    simp only [List.any_cons, List.any_nil, Bool.or_false, Bool.or_eq_true, Bool.and_eq_true, Nat.ble_eq] at hz
    rcases hz with hz | hz | hz
    · exact Or.inl (by omega)
    · exact Or.inr (Or.inl (by omega))
    · exact Or.inr (Or.inr (by omega))
theorem net_c {h : zH} {S : yG} {n : Nat} (ho : yOK S) (hi : yIc h S) (hn : n ≤ gtl S) : zw (f_Main_net h (zJ n)) fun x => ∃ g, x = .inl ((gNS S n).1, g) ∧ gfm yLc h g ∧ yIc g (gNS S n).2 := by
  have ht9 := ho.2.2.2.1
  obtain ⟨⟨W, D, w1, w2, w3, w4⟩, i2, i3, i4, i5, i6, i7, i8, i9⟩ := id hi
  unfold f_Main_net
  have n0 : ¬ zJ n < 0 := by
    rw [zJ_ltl (n := 0) (by omega) (by decide)]
    exact Nat.not_lt_zero _
  rw [if_neg n0, i7, if_pos (by rw [zJ_le (by omega) (by omega)]; exact hn)]
  have hX := gXt_ok ho hn
  have rd := read_c (h := h) (X := gXt S n) (o := D) (tl := gtl S) hX (by omega) (by omega) w3 i7 hn ht9 (fun k hk => i8 k (by have : k < n := hk; omega))
  have e1 : zJ (gXt S n).1 = zJ n := rfl
  rw [e1] at rd
  refine zw_bi rd ?_
  rintro ⟨v, g⟩ ⟨q, t0, hR⟩
  dsimp only at q t0 hR ⊢
  rw [Option.bind_some]
  have q2 : zfm [(0, 0, 2, 2)] g (zsI g 0 2 (g.1 1 3)) := zfm.rfl'.I (by rfl)
  have w02 : (zsI g 0 2 (g.1 1 3)).1 0 2 = g.1 1 3 := zI_eq
  have t0' : (zsI g 0 2 (g.1 1 3)).1 2 1 = 0 := (q2.i (by rfl)).trans t0
  unfold gNS
  generalize gText (gXt S n) = R at *
  have hW : ∀ a k, W ≤ a → a ≤ W + 34 → zin (gFr D) a k = false := fun a k h1 h2 => gFr_no (by omega)
  cases R with
  | inl e =>
    obtain ⟨r1, r2, r3, r4⟩ := hR
    have hne : ¬ v = 0 := by
      rw [r1]
      intro h
      have := (zJ_inj (b := 0) (by omega) (by omega)).mp h
      omega
    rw [if_neg hne]
    rw [r2] at w02 q2 t0'
    rw [r2]
    generalize zsI g 0 2 (zJ e.2) = g2 at *
    have S3 : yCSe g2 155 (gT S) := (i3.fr q (fun a k h1 h2 => gFr_no (by omega))).fr q2 (fun a k h1 h2 => zin_n1 (by omega))
    have rf := refuse_c (w := 0) S3 (by omega)
    refine zw_bi rf ?_
    rintro g3 ⟨q3, S4⟩
    have G : gfm yLc h g3 := by
      have a : gfm yLc h g := (q.sub' (L' := yLc) (fun a b hab => by
        unfold zin gFr at hab
        unfold zin yLc
        simp only [List.any_cons, List.any_nil, Bool.or_false, Bool.or_eq_true, Bool.and_eq_true, Nat.ble_eq] at hab ⊢
        rcases hab with hab | hab | hab <;> omega)).g
      exact gfm.tr (gfm.tr (L := yLc) a q2.g rfl rfl) q3.g rfl rfl
    refine zw_some ⟨g3, by rw [r1]; rfl, G, ?_⟩
    refine ⟨⟨W, D, w1, ?_, ?_, ?_⟩, ?_, S4, fun him => ?_, ?_, ?_, ?_, fun k hk => absurd hk (Nat.not_lt_zero k), ?_⟩
    · rw [q3.1, q2.1, q.1]
      exact w2
    · rw [q3.1, q2.1, q.1]
      exact w3
    · exact ((w4.fr ho.1 q hW).fr ho.1 q2 (fun a k h1 h2 => zin_n1 (by omega))).fr ho.1 q3 (fun a k h1 h2 => zin_n1 (by omega))
    · exact ((i2.fr ho.1.1 q (fun a k h1 h2 => gFr_no (by omega))).fr ho.1.1 q2 (fun a k h1 h2 => zin_n1 (by omega))).fr ho.1.1 q3 (fun a k h1 h2 => zin_n1 (by omega))
    · exact (((i4 him).fr q (fun a k h1 h2 => gFr_no (by omega))).fr q2 (fun a k h1 h2 => zin_n1 (by omega))).fr q3 (fun a k h1 h2 => zin_n1 (by omega))
    · rw [q3.i (zin_n1 (by omega)), q2.i (by rfl), q.i (gFr_no (by omega))]
      exact i5
    · exact ((i6.fr q (fun k => ⟨gFr_no (by omega), gFr_no (by omega), gFr_no (by omega)⟩) (gFr_no (by omega)) (gFr_no (by omega)) (gFr_no (by omega)) (gFr_no (by omega))).fr q2 (fun k => ⟨zin_n1 (by omega), zin_n1 (by omega), zin_n1 (by omega)⟩) (zin_n1 (by omega)) (zin_n1 (by omega)) (zin_n1 (by omega)) (zin_n1 (by omega))).fr q3 (fun k => ⟨zin_n1 (by omega), zin_n1 (by omega), zin_n1 (by omega)⟩) (zin_n1 (by omega)) (zin_n1 (by omega)) (zin_n1 (by omega)) (zin_n1 (by omega))
    · rw [q3.i (zin_n1 (by omega)), t0']
      rfl
    · rw [q3.i (zin_n1 (by omega)), w02]
      rfl
  | inr Dr =>
    obtain ⟨r1, r2, r3, r4, r5⟩ := hR
    subst r1
    rw [if_pos rfl]
    rw [r2] at w02 q2 t0'
    rw [r2]
    have D2 : gcD (zsI g 0 2 (-1)) D Dr (dL Dr) := r3.fr (by have := gOK_n r4; omega) (gOK_n r4).2.2.2 q2 (fun a k h1 h2 => zin_n1 (by omega))
    have er0 : (zsI g 0 2 (-1)).2.2.1 0 1 = some (3, W) := by
      rw [q2.1, q.1]
      exact w2
    have er1 : (zsI g 0 2 (-1)).2.2.1 1 1 = some (3, D) := by
      rw [q2.1, q.1]
      exact w3
    have st3 : ∀ k, k < 3 → (zsI g 0 2 (-1)).1 162 k = (gT S).2.2.2.2.2.2.2 k := fun k hk => by
      rw [q2.i (zin_n1 (by omega)), q.i (gFr_no (by omega))]
      exact i3.2.2.2.2.2 k hk
    generalize zsI g 0 2 (-1) = g2 at *
    rw [er0, zgr_eq]
    unfold f_Parser_handOver
    rw [er1, zgr_eq, Option.bind_some, Option.bind_some, Option.bind_some]
    have e5 : (zsR (zsR g2 1 1 (some (3, W))) 0 1 (some (3, D))).1 = g2.1 := rfl
    have e6 : (zsR (zsR g2 1 1 (some (3, W))) 0 1 (some (3, D))).2.1 = g2.2.1 := rfl
    have e7 : (zsR (zsR g2 1 1 (some (3, W))) 0 1 (some (3, D))).2.2.1 0 1 = some (3, D) := by
      show zu (zsR g2 1 1 (some (3, W))).2.2.1 0 1 (some (3, D)) 0 1 = _
      rw [zu_eq]
    have e8 : (zsR (zsR g2 1 1 (some (3, W))) 0 1 (some (3, D))).2.2.1 1 1 = some (3, W) := by
      show zu (zu g2.2.2.1 1 1 (some (3, W))) 0 1 (some (3, D)) 1 1 = _
      rw [zu_ne _ _ (by decide), zu_eq]
    dsimp only
    generalize zsR (zsR g2 1 1 (some (3, W))) 0 1 (some (3, D)) = g5 at *
    have hN := ok_Fin r4 r5
    have CN5 : yCN g5 D (gFin Dr) := (gcD_CN D2 r4).eq e5
    refine zw_bi (beginNet_c (t := gT S) e7 hN CN5 (by omega) (fun k hk => by rw [e5]; exact st3 k hk)) ?_
    rintro g6 ⟨q6, b1, b2, b3, b4⟩
    have G25 : gfm [] g2 g5 := fun o k _ => ⟨by rw [e5], by rw [e6]⟩
    have G : gfm yLc h g6 := by
      have a : gfm yLc h g := (q.sub' (L' := yLc) (fun a b hab => by
        unfold zin gFr at hab
        unfold zin yLc
        simp only [List.any_cons, List.any_nil, Bool.or_false, Bool.or_eq_true, Bool.and_eq_true, Nat.ble_eq] at hab ⊢
        rcases hab with hab | hab | hab <;> omega)).g
      exact gfm.tr (gfm.tr (L := yLc) (gfm.tr (L := yLc) a q2.g rfl rfl) G25 rfl rfl) q6.g rfl rfl
    have nk : ∀ a k, a ≤ 73 → ¬ (a = 0 ∧ k = 9) → g6.1 a k = g2.1 a k := fun a k h1 h2 => by
      rw [q6.i (o := a) (k := k) (by
        cases hz : zin [(74, 136, 0, 9999), (137, 137, 4, 4), (155, 156, 0, 9999), (0, 0, 9, 9)] a k
        · rfl
        · unfold zin at hz
          simp only [List.any_cons, List.any_nil, Bool.or_false, Bool.or_eq_true, Bool.and_eq_true, Nat.ble_eq] at hz
          rcases hz with hz | hz | hz | hz <;> omega), e5]
    refine zw_some ⟨g6, rfl, G, ?_⟩
    refine ⟨⟨D, W, by omega, ?_, ?_, ?_⟩, b1, b3, (fun him => by cases him), ?_, b2, ?_, fun k hk => absurd hk (Nat.not_lt_zero k), ?_⟩
    · rw [q6.1]
      exact e7
    · rw [q6.1]
      exact e8
    · refine CN5.fr hN q6 (fun a k h1 h2 => ?_)
      cases hz : zin [(74, 136, 0, 9999), (137, 137, 4, 4), (155, 156, 0, 9999), (0, 0, 9, 9)] a k
      · rfl
      · unfold zin at hz
        simp only [List.any_cons, List.any_nil, Bool.or_false, Bool.or_eq_true, Bool.and_eq_true, Nat.ble_eq] at hz
        rcases hz with hz | hz | hz | hz <;> omega
    · rw [b4]
      rfl
    · rw [nk _ _ (by decide) (by decide), t0']
      rfl
    · rw [nk _ _ (by decide) (by decide), w02]
      rfl
theorem yRN.q {h h' : zH} {N : yN} (hr : yRN h N) (hn : yOKn N) (q : zfm gFq h h') : yRN h' N := by
  obtain ⟨⟨e1, e2, e3, e4⟩, n2, n3, n4, -⟩ := id hn
  have e1' : yI N ≤ 6 := e1
  have e3' : yLs N ≤ yI N + 16 := e3
  obtain ⟨⟨h1, h2, h3⟩, h4, h5, h6, h7, h8, h9, h10⟩ := hr
  refine ⟨⟨(q.i (gFq_no (by omega))).trans h1, (q.i (gFq_no (by omega))).trans h2, fun l a b => ?_⟩, fun l hl => ?_, (q.i (gFq_no (by omega))).trans h5, (q.i (gFq_no (by omega))).trans h6, fun l hl => ?_, fun l hl => ?_, fun c hc => ?_, fun i hi => ?_⟩
  · have b' : l < yLs N := b
    obtain ⟨b1, b2, b3⟩ := h3 l a b
    have b4 : (yE N).2.2.2.1 l ≤ 3 := (e4 l a b).2.2.1
    refine ⟨(q.i (gFq_no (by omega))).trans b1, (q.i (gFq_no (by omega))).trans b2, fun i hi => (q.i (gFq_no (by omega))).trans (b3 i hi)⟩
  · obtain ⟨c, c1, c2, c3⟩ := h4 l hl
    exact ⟨c, c1, (q.i (gFq_no (by omega))).trans c2, c3⟩
  · exact ⟨(q.i (gFq_no (by omega))).trans (h7 l hl).1, (q.i (gFq_no (by omega))).trans (h7 l hl).2⟩
  · have b4 := (n2 l hl).2.1
    exact ⟨(q.i (gFq_no (by omega))).trans (h8 l hl).1, fun i hi => (q.i (gFq_no (by omega))).trans ((h8 l hl).2 i hi)⟩
  · have b4 := (n4 c hc).2.1
    exact ⟨(q.i (gFq_no (by omega))).trans (h9 c hc).1, fun k hk => (q.i (gFq_no (by omega))).trans ((h9 c hc).2 k hk)⟩
  · exact ⟨(q.i (gFq_no (by omega))).trans (h10 i hi).1, (q.i (gFq_no (by omega))).trans (h10 i hi).2⟩
theorem net_r {g0 : zH} {S : yG} {n : Nat} (ho : yOK S) (hi0 : yIr g0 S) (hn : n ≤ gtl S) : zw (f_Mod_net g0 (zJ n)) fun y => yRA (.inl (gNS S n).1) y ∧ zfm yLr g0 y.2 ∧ yIr y.2 (gNS S n).2 := by
  have ht9 := ho.2.2.2.1
  have hX := gXt_ok ho hn
  obtain ⟨hi, qc, z1⟩ := code_r hi0
  unfold f_Mod_net
  have n0 : ¬ zJ n < 0 := by
    rw [zJ_ltl (n := 0) (by omega) (by decide)]
    exact Nat.not_lt_zero _
  rw [Option.bind_some, if_neg n0]
  generalize zsI g0 333 2 0 = h at *
  obtain ⟨i1, i2, i3, i4, i5, i6, i7, i8⟩ := id hi
  rw [i6, if_pos (by rw [zJ_le (by omega) (by omega)]; exact hn), Option.bind_some, Option.bind_some, Option.bind_some, Option.bind_some, Option.bind_some]
  have Q7 : zfm [(333, 333, 17, 19), (333, 333, 24, 24), (333, 333, 26, 26)] h (zsI (zsI (zsI (zsI (zsI h 333 17 0) 333 19 (zJ n)) 333 18 0) 333 24 0) 333 26 (-1)) := ((((zfm.rfl'.I (by rfl)).I (by rfl)).I (by rfl)).I (by rfl)).I (by rfl)
  have w17 : (zsI (zsI (zsI (zsI (zsI h 333 17 0) 333 19 (zJ n)) 333 18 0) 333 24 0) 333 26 (-1)).1 333 17 = 0 := by
    rw [zI_nk (by decide), zI_nk (by decide), zI_nk (by decide), zI_nk (by decide), zI_eq]
  have w19 : (zsI (zsI (zsI (zsI (zsI h 333 17 0) 333 19 (zJ n)) 333 18 0) 333 24 0) 333 26 (-1)).1 333 19 = zJ n := by
    rw [zI_nk (by decide), zI_nk (by decide), zI_nk (by decide), zI_eq]
  have w18 : (zsI (zsI (zsI (zsI (zsI h 333 17 0) 333 19 (zJ n)) 333 18 0) 333 24 0) 333 26 (-1)).1 333 18 = zJ 0 := by
    rw [zI_nk (by decide), zI_nk (by decide), zI_eq]
    rfl
  have w24 : (zsI (zsI (zsI (zsI (zsI h 333 17 0) 333 19 (zJ n)) 333 18 0) 333 24 0) 333 26 (-1)).1 333 24 = 0 := by
    rw [zI_nk (by decide), zI_eq]
  have w26 : (zsI (zsI (zsI (zsI (zsI h 333 17 0) 333 19 (zJ n)) 333 18 0) 333 24 0) 333 26 (-1)).1 333 26 = -1 := zI_eq
  generalize zsI (zsI (zsI (zsI (zsI h 333 17 0) 333 19 (zJ n)) 333 18 0) 333 24 0) 333 26 (-1) = h7 at *
  refine zw_bi (P := fun g => zfm [(336, 336, 5, 9)] h7 g ∧ ∀ k, k < 5 → g.1 336 (5 + k) = 0) (zw_for 5 (fun k s => s.1 = zJ k ∧ zfm [(336, 336, 5, 9)] h7 s.2 ∧ ∀ j, j < k → s.2.1 336 (5 + j) = 0) (by omega) ⟨rfl, zfm.rfl', fun j hj => absurd hj (Nat.not_lt_zero j)⟩ ?_) ?_
  · rintro k ⟨a, g⟩ hk ⟨rfl, hz, hv⟩
    dsimp only at hz hv ⊢
    unfold f_Mod_net_b50
    by_cases h5 : k < 5
    · have e5 : (5 : Int32) + zJ k = zJ (5 + k) := zJ_la (n := 5)
      rw [if_neg (by rw [zJ_lle (n := 5) (by omega) (by decide)]; show ¬ 5 ≤ k; omega), e5, zb_t (by omega) (by omega), zg_tr, Option.bind_some, zJ_c (by omega), zJ_al]
      refine zw_some ⟨h5, rfl, hz.I (zin_1 (by omega) (by omega) (by omega) (by omega)), fun j hj => ?_⟩
      dsimp only
      by_cases e : j = k
      · subst e
        rw [zI_eq]
      · rw [zI_nk (by omega)]
        exact hv j (by omega)
    · rw [if_pos (by rw [zJ_lle (n := 5) (by omega) (by decide)]; show 5 ≤ k; omega)]
      exact zw_some ⟨hz, fun j hj => hv j (by omega)⟩
  · rintro h8 ⟨q8, v8⟩
    have hB8 : grB h8 (gXt S n) := ⟨(q8.i (by rfl)).trans w19, fun k hk => by
      rw [q8.i (zin_n1 (by omega)), Q7.i (zin_n3 (by omega) (by omega) (by omega))]
      exact i7 k (by have : k < n := hk; omega)⟩
    have G8 : grD h8 gd0 0 0 := ⟨v8 0 (by decide), v8 1 (by decide), v8 2 (by decide), v8 3 (by decide), v8 4 (by decide), fun l hl => absurd hl (Nat.not_lt_zero l), fun l hl => absurd hl (Nat.not_lt_zero l), fun l hl => absurd hl (Nat.not_lt_zero l), fun l hl => absurd hl (Nat.not_lt_zero l)⟩
    refine zw_bi (stepOn_r' hX hB8 (Nat.zero_le _) ((q8.i (by rfl)).trans w18)) ?_
    rintro h9 ⟨q9, t9⟩
    have hB9 : grB h9 (gXt S n) := hB8.fr q9 (by rfl) (fun k => zin_n2 (by omega) (by omega))
    have G9 : gGd h9 (gXt S n) gd0 0 0 (gsc (gbl (gXt S n)) (gXt S n).1 0) := ⟨t9, ((q9.i (by rfl)).trans (q8.i (by rfl))).trans w24, G8.fr q9 (fun a k h1 h2 => zin_n2 (by omega) (by omega))⟩
    refine zw_bi (netLoop_r hX hB9 G9) ?_
    rintro h10 ⟨q10, hR⟩
    have Q10 : zfm gFq h7 h10 := (q8.sub rfl).trans ((gFq_t q9).trans q10)
    have nq : ∀ a k, zin gFq a k = false → ¬ (a = 333 ∧ 17 ≤ k ∧ k ≤ 26) → h10.1 a k = h.1 a k := fun a k h1 h2 => (Q10.i h1).trans (Q7.i (zin_n3 (by omega) (by omega) (by omega)))
    have Z10 : zfm yLr h h10 := (Q7.sub (L' := yLr) rfl).tr Q10 rfl
    unfold gNS
    generalize gText (gXt S n) = R at *
    cases R with
    | inl e =>
      obtain ⟨b1, b2, b3, b4⟩ := hR
      have hne : ¬ h10.1 333 24 = 0 := by
        rw [b1]
        intro h
        have := (zJ_inj (b := 0) (by omega) (by omega)).mp h
        omega
      rw [if_neg hne, b2, Option.bind_some, zI_ne (by decide), Option.bind_some, zI_ne (by decide), zI_nk (by decide), b1]
      have q11 : zfm [(333, 333, 26, 26), (348, 348, 0, 0)] h10 (zsI (zsI h10 333 26 (zJ e.2)) 348 0 (h10.1 348 0 + 1)) := (zfm.rfl'.I (by rfl)).I (by rfl)
      have y26 : (zsI (zsI h10 333 26 (zJ e.2)) 348 0 (h10.1 348 0 + 1)).1 333 26 = zJ e.2 := by
        rw [zI_ne (by decide), zI_eq]
      have y348 : (zsI (zsI h10 333 26 (zJ e.2)) 348 0 (h10.1 348 0 + 1)).1 348 0 = h10.1 348 0 + 1 := zI_eq
      generalize zsI (zsI h10 333 26 (zJ e.2)) 348 0 (h10.1 348 0 + 1) = h11 at *
      have n11 : ∀ a k, zin gFq a k = false → ¬ (a = 333 ∧ 17 ≤ k ∧ k ≤ 26) → ¬ (a = 348 ∧ k = 0) → h11.1 a k = h.1 a k := fun a k h1 h2 h3 => (q11.i (zin_n2 (by omega) (by omega))).trans (nq a k h1 h2)
      obtain ⟨j1, j2, j3, j4, j5, j6⟩ := i3
      have RN11 : yRN h11 (gN S) := ((i1.fr Q7 (fun a k h1 h2 => zin_n3 (by omega) (by omega) (by omega))).q ho.1 Q10).fr q11 (fun a k h1 h2 => zin_n2 (by omega) (by omega))
      have LD11 : yLD h11 (yE (gN S)) (ySb (gN S)) := ((i2.fr Q7 (fun a k h1 h2 => zin_n3 (by omega) (by omega) (by omega))).fr Q10 (fun a k h1 h2 => gFq_no (by omega))).fr q11 (fun a k h1 h2 => zin_n2 (by omega) (by omega))
      have r347 : h11.1 347 = h.1 347 := funext fun k => n11 347 k (gFq_no (by omega)) (by omega) (by omega)
      have r367 : h11.1 367 = h.1 367 := funext fun k => n11 367 k (gFq_no (by omega)) (by omega) (by omega)
      have r368 : h11.1 368 = h.1 368 := funext fun k => n11 368 k (gFq_no (by omega)) (by omega) (by omega)
      have r369 : h11.1 369 = h.1 369 := funext fun k => n11 369 k (gFq_no (by omega)) (by omega) (by omega)
      have r370 : h11.1 370 = h.1 370 := funext fun k => n11 370 k (gFq_no (by omega)) (by omega) (by omega)
      refine zw_some ⟨⟨?_, fun w hw => by cases hw; rfl⟩, qc.tr (Z10.tr q11 rfl) rfl, RN11, LD11, ⟨?_, ?_, ?_, ?_, ?_, fun k hk => ?_⟩, fun him => ?_, ?_, ?_, fun k hk => absurd hk (Nat.not_lt_zero k), y26⟩
      · exact (n11 333 2 (gFq_no (by omega)) (by omega) (by omega)).trans z1
      · rw [r347]
        exact j1
      · rw [n11 333 45 (gFq_no (by omega)) (by omega) (by omega)]
        exact j2
      · rw [r367]
        exact j3
      · rw [n11 333 47 (gFq_no (by omega)) (by omega) (by omega)]
        exact j4
      · rw [r368, r369, r370]
        exact j5
      · show h11.1 348 k = if k = 0 then _ else _
        by_cases e0 : k = 0
        · subst e0
          rw [if_pos rfl, y348, nq 348 0 (gFq_no (by omega)) (by omega), j6 0 (by decide)]
        · rw [if_neg e0, n11 348 k (gFq_no (by omega)) (by omega) (by omega)]
          exact j6 k hk
      · exact (((i4 him).fr Q7 (fun a k h1 h2 => zin_n3 (by omega) (by omega) (by omega)) (by rfl) (by rfl)).fr Q10 (fun a k h1 h2 => gFq_no (by omega)) (by rfl) (by rfl)).fr q11 (fun a k h1 h2 => zin_n2 (by omega) (by omega)) (by rfl) (by rfl)
      · rw [n11 333 55 (gFq_no (by omega)) (by omega) (by omega)]
        exact i5
      · rw [q11.i (by rfl), Q10.i (by rfl), w17]
        rfl
    | inr D =>
      obtain ⟨b1, b2, b3, b4⟩ := hR
      rw [if_pos b1]
      refine zw_bi (takeOver_r (t := gT S) b2 b3 b4 (fun k hk => ?_)) ?_
      · rw [nq 348 k (gFq_no (by omega)) (by omega)]
        exact i3.2.2.2.2.2 k hk
      · rintro g ⟨q, c1, c2, c3, c4⟩
        refine zw_some ⟨⟨?_, fun w hw => by cases hw; rfl⟩, qc.tr (Z10.tr q rfl) rfl, c1, c2, c3, (fun him => by cases him), ?_, ?_, fun k hk => absurd hk (Nat.not_lt_zero k), ?_⟩
        · rw [q.i (by rfl), nq 333 2 (gFq_no (by omega)) (by omega)]
          exact z1
        · rw [c4]
          rfl
        · rw [q.i (by rfl), Q10.i (by rfl), w17]
          rfl
        · rw [q.i (by rfl), Q10.i (by rfl), w26]
          rfl
theorem q_net {h : zH} {v : Int32} (hi : yInv h) : zw (f_L_net h v) fun x => zw (f_Mod_net x.2 v) fun y => yEnd x y := by
  obtain ⟨S, ho, hc, hr⟩ := hi
  have ht9 := ho.2.2.2.1
  have bad : (∀ g, yIc g S → f_Main_net g v = some (.inr (2, g))) → (∀ g, yIr (zsI g 333 2 0) S → f_Mod_net g v = f_Mod_net_j17 (zsI g 333 2 0)) → zw (f_L_net h v) fun x => zw (f_Mod_net x.2 v) fun y => yEnd x y := by
    intro h1 h2
    unfold f_L_net
    refine yBad (f := fun g => f_Mod_net g v) (c := 2) (m := 1) ho hc hr ⟨_, h1 h hc, h, rfl, zfm.rfl', hc⟩ ?_ (fun g hg => ?_) (Or.inl rfl)
    · intro g
      rfl
    · show zw (f_Mod_net g v) _
      rw [h2 g (code_r hg).1]
      unfold f_Mod_net_j17
      exact zw_bi (yFail hg (c := 1)) (fun x hx => zw_some hx)
  rcases yneg v with hv | ⟨n, hnl, rfl⟩
  · refine bad (fun g hg => ?_) (fun g hg => ?_)
    · unfold f_Main_net f_Main_net_j18
      rw [if_pos hv]
    · unfold f_Mod_net
      rw [Option.bind_some, if_pos hv]
  · have n0 : ¬ zJ n < 0 := by
      rw [zJ_ltl (n := 0) (by omega) (by decide)]
      exact Nat.not_lt_zero _
    by_cases hn : n ≤ gtl S
    · have hS' : yOK (gNS S n).2 := by
        unfold gNS
        have hx := net_c ho hc hn
        obtain ⟨x, -, g, -, -, hg⟩ := hx
        unfold gNS at hg
        cases hT : gText (gXt S n) with
        | inl e => exact gNf_ok ho
        | inr D =>
          obtain ⟨⟨W, D', w1, w2, w3, w4⟩, i2, i3, i4, i5, i6, i7, i8, i9⟩ := id hc
          have rd := read_c (h := h) (X := gXt S n) (o := D') (tl := gtl S) (gXt_ok ho hn) (by omega) (by omega) w3 i7 hn ht9 (fun k hk => i8 k (by have : k < n := hk; omega))
          obtain ⟨y, -, -, -, hR⟩ := rd
          rw [hT] at hR
          exact gNo_ok hR.2.2.2.1 hR.2.2.2.2
      unfold f_L_net
      exact yBothR (S := S) (S' := (gNS S n).2) (a := .inl (gNS S n).1) (f := fun g => f_Mod_net g (zJ n)) hS' (yLvR hS' (net_c ho hc hn)) (fun g hg => net_r ho hg hn) hr (fun c hcc => by cases hcc)
    · refine bad (fun g hg => ?_) (fun g hg => ?_)
      · have i7 : g.1 2 1 = zJ (gtl S) := hg.2.2.2.2.2.2.1
        unfold f_Main_net f_Main_net_j18
        rw [if_neg n0, i7, if_neg (by rw [zJ_le (by omega) (by omega)]; exact hn)]
      · unfold f_Mod_net
        rw [Option.bind_some, if_neg n0, hg.2.2.2.2.2.1, if_neg (by rw [zJ_le (by omega) (by omega)]; exact hn)]
