/-! ===== the start ===== -/
def gZi : Nat → Nat → Int32 := fun _ _ => 0
def gZl : Nat → Nat → Int64 := fun _ _ => 0
def gZr : Nat → Nat → Option (Nat × Nat) := fun _ _ => none
def gref (md : Nat) (R : Nat → Nat → Option (Nat × Nat)) (c o k : Nat) : Option (Nat × Nat) := match zstm md c o k with
  | some r => some r
  | none => R o k
theorem gset_Main : ∀ o, o < 333 → ∀ k, k < zN (zKf o) → zty (zKf o) k = 2 → gref 0 (zR9_Main gZr) (zKf o) o k = gref 2 (zR9_Main gZr) (zKf o) o k := by decide +kernel
theorem gset_Mod_0 : ∀ o, o < 50 → ∀ k, k < zN (zKf (0 + o)) → zty (zKf (0 + o)) k = 2 → gref 1 (zR9_Mod (zR9_Main gZr)) (zKf (0 + o)) (0 + o) k = gref 2 (zR9_Mod (zR9_Main gZr)) (zKf (0 + o)) (0 + o) k := by decide +kernel
theorem gset_Mod_1 : ∀ o, o < 50 → ∀ k, k < zN (zKf (50 + o)) → zty (zKf (50 + o)) k = 2 → gref 1 (zR9_Mod (zR9_Main gZr)) (zKf (50 + o)) (50 + o) k = gref 2 (zR9_Mod (zR9_Main gZr)) (zKf (50 + o)) (50 + o) k := by decide +kernel
theorem gset_Mod_2 : ∀ o, o < 50 → ∀ k, k < zN (zKf (100 + o)) → zty (zKf (100 + o)) k = 2 → gref 1 (zR9_Mod (zR9_Main gZr)) (zKf (100 + o)) (100 + o) k = gref 2 (zR9_Mod (zR9_Main gZr)) (zKf (100 + o)) (100 + o) k := by decide +kernel
theorem gset_Mod_3 : ∀ o, o < 50 → ∀ k, k < zN (zKf (150 + o)) → zty (zKf (150 + o)) k = 2 → gref 1 (zR9_Mod (zR9_Main gZr)) (zKf (150 + o)) (150 + o) k = gref 2 (zR9_Mod (zR9_Main gZr)) (zKf (150 + o)) (150 + o) k := by decide +kernel
theorem gset_Mod_4 : ∀ o, o < 50 → ∀ k, k < zN (zKf (200 + o)) → zty (zKf (200 + o)) k = 2 → gref 1 (zR9_Mod (zR9_Main gZr)) (zKf (200 + o)) (200 + o) k = gref 2 (zR9_Mod (zR9_Main gZr)) (zKf (200 + o)) (200 + o) k := by decide +kernel
theorem gset_Mod_5 : ∀ o, o < 50 → ∀ k, k < zN (zKf (250 + o)) → zty (zKf (250 + o)) k = 2 → gref 1 (zR9_Mod (zR9_Main gZr)) (zKf (250 + o)) (250 + o) k = gref 2 (zR9_Mod (zR9_Main gZr)) (zKf (250 + o)) (250 + o) k := by decide +kernel
theorem gset_Mod_6 : ∀ o, o < 50 → ∀ k, k < zN (zKf (300 + o)) → zty (zKf (300 + o)) k = 2 → gref 1 (zR9_Mod (zR9_Main gZr)) (zKf (300 + o)) (300 + o) k = gref 2 (zR9_Mod (zR9_Main gZr)) (zKf (300 + o)) (300 + o) k := by decide +kernel
theorem zty_arr {c k : Nat} (h : zobj c = false) : zty c k = zty c 0 := by
  unfold zty
  rw [h]
theorem gset_Mod_7 : ∀ o, o < 30 → (zobj (zKf (350 + o)) = false ∧ zty (zKf (350 + o)) 0 ≠ 2) ∨ (∀ k, k < zN (zKf (350 + o)) → zty (zKf (350 + o)) k = 2 → gref 1 (zR9_Mod (zR9_Main gZr)) (zKf (350 + o)) (350 + o) k = gref 2 (zR9_Mod (zR9_Main gZr)) (zKf (350 + o)) (350 + o) k) := by decide +kernel
theorem gset_Mod : ∀ o, o < 380 → ∀ k, k < zN (zKf o) → zty (zKf o) k = 2 → gref 1 (zR9_Mod (zR9_Main gZr)) (zKf o) o k = gref 2 (zR9_Mod (zR9_Main gZr)) (zKf o) o k := by
  intro o ho
  rcases Nat.lt_or_ge o 50 with h0 | h0
  · have := gset_Mod_0 (o - 0) (by omega)
    rwa [show 0 + (o - 0) = o by omega] at this
  rcases Nat.lt_or_ge o 100 with h1 | h1
  · have := gset_Mod_1 (o - 50) (by omega)
    rwa [show 50 + (o - 50) = o by omega] at this
  rcases Nat.lt_or_ge o 150 with h2 | h2
  · have := gset_Mod_2 (o - 100) (by omega)
    rwa [show 100 + (o - 100) = o by omega] at this
  rcases Nat.lt_or_ge o 200 with h3 | h3
  · have := gset_Mod_3 (o - 150) (by omega)
    rwa [show 150 + (o - 150) = o by omega] at this
  rcases Nat.lt_or_ge o 250 with h4 | h4
  · have := gset_Mod_4 (o - 200) (by omega)
    rwa [show 200 + (o - 200) = o by omega] at this
  rcases Nat.lt_or_ge o 300 with h5 | h5
  · have := gset_Mod_5 (o - 250) (by omega)
    rwa [show 250 + (o - 250) = o by omega] at this
  rcases Nat.lt_or_ge o 350 with h6 | h6
  · have := gset_Mod_6 (o - 300) (by omega)
    rwa [show 300 + (o - 300) = o by omega] at this
  have := gset_Mod_7 (o - 350) (by omega)
  rw [show 350 + (o - 350) = o by omega] at this
  rcases this with ⟨t1, t2⟩ | this
  · intro k hk h2
    exact absurd ((zty_arr t1).symm.trans h2) t2
  · exact this
/-- the session of a start -/
def gT0 : yT := ((0, 0, 0, 0, 0, fun _ => 0, fun _ => false), 0, fun _ => (0, 0, 0, 0, 0, fun _ => 0, fun _ => false), 0, fun _ => 0, fun _ => 0, fun _ => 0, fun _ => 0)
def gS0 : yG := (gFin gd0, gnew (gFin gd0) gT0, false, gT0, 0, fun _ => 0, -1)
theorem gne0 : gNE gd0 := fun c hc => absurd (show c < 0 from hc) (Nat.not_lt_zero c)
theorem gS0_ok : yOK gS0 := ⟨ok_Fin ok_0 gne0, gnew_ok (ok_Fin ok_0 gne0), (fun h => by cases h), Nat.zero_le _, fun k hk => absurd (show k < 0 from hk) (Nat.not_lt_zero k)⟩
theorem gSI_no {I : Nat → Nat → Int32} {T : Nat} : ∀ n, (∀ o k, ¬ (T ≤ o ∧ k = 2) → zSI I T n o k = I o k)
  | 0, o, k, _ => rfl
  | n + 1, o, k, h => by
    have ih := gSI_no (I := I) (T := T) n o k h
    unfold zSI
    by_cases e : o = T + (7 + 2 * n)
    · subst e
      rw [zu_nek _ _ (by omega)]
      exact ih
    · rw [zu_ne _ _ e]
      exact ih
theorem gMain_no {o k : Nat} (h1 : ¬ (o = 1 ∧ k = 3)) (h2 : ¬ (o = 0 ∧ k = 2)) (h3 : ¬ (156 ≤ o ∧ k = 2)) : zI_Main gZi o k = 0 := by
  have u : ∀ (f : Nat → Nat → Int32) (a b : Nat) (v : Int32), ¬ (o = a ∧ k = b) → zu f a b v o k = f o k := fun f a b v h => by
    by_cases e : o = a
    · subst e
      exact zu_nek _ _ (fun e2 => h ⟨rfl, e2⟩)
    · rw [zu_ne _ _ e]
  unfold zI_Main
  rw [u _ _ _ _ (by omega)]
  by_cases h9 : o = 0 ∧ k = 9
  · obtain ⟨rfl, rfl⟩ := h9
    exact zu_eq _ _ _ _
  · rw [u _ _ _ _ h9, gSI_no 40 o k (by omega), u _ _ _ _ (by omega), gSI_no 40 o k (by omega), u _ _ _ _ (by omega), u _ _ _ _ (by omega), u _ _ _ _ (by omega)]
    rfl
theorem gSI_hi {I : Nat → Nat → Int32} {T : Nat} : ∀ n, (∀ o k, T + (7 + 2 * n) ≤ o → zSI I T n o k = I o k)
  | 0, o, k, _ => rfl
  | n + 1, o, k, h => by
    unfold zSI
    rw [zu_ne _ _ (by omega)]
    exact gSI_hi (I := I) (T := T) n o k (by omega)
theorem gMain_hi {o k : Nat} (h : 333 ≤ o) : zI_Main gZi o k = 0 := by
  unfold zI_Main
  rw [zu_ne _ _ (by omega), zu_ne _ _ (by omega), gSI_hi 40 o k (by omega), zu_ne _ _ (by omega), gSI_hi 40 o k (by omega), zu_ne _ _ (by omega), zu_ne _ _ (by omega), zu_ne _ _ (by omega)]
  rfl
theorem gMain_162 : ∀ k, k < 3 → zI_Main gZi 162 k = 0 := by decide +kernel
theorem gMain_02 : zI_Main gZi 0 2 = -1 := by decide +kernel
theorem yIc.g {L : List (Nat × Nat × Nat × Nat)} {h h' : zH} {S : yG} (hr : yIc h S) (ho : yOK S) (q : gfm L h h') (e : zsubL L ySLc = true) (r0 : h'.2.2.1 0 1 = h.2.2.1 0 1) (r1 : h'.2.2.1 1 1 = h.2.2.1 1 1) : yIc h' S := by
  have := hr.fr ho (gfm.z q) e
  obtain ⟨⟨W, D, w1, w2, w3, w4⟩, i2, i3, i4, i5, i6, i7, i8, i9⟩ := this
  exact ⟨⟨W, D, w1, r0.trans w2, r1.trans w3, w4.eq rfl⟩, i2, i3, i4, i5, i6, i7, i8, i9⟩
set_option maxRecDepth 20000 in
theorem gR_0 : zR9_Main gZr 0 1 = some (3, 39) := by decide +kernel
set_option maxRecDepth 20000 in
theorem start_c : ∃ x, f_Main_beginNet (zI_Main gZi, gZl, zR9_Main gZr, zKf, 333) = some x ∧ x.2.2 = (zR9_Main gZr, zKf, 333) ∧ zfm [(74, 136, 0, 9999), (137, 137, 4, 4), (155, 156, 0, 9999), (0, 0, 9, 9)] (zI_Main gZi, gZl, zR9_Main gZr, zKf, 333) x ∧ yIc x gS0 := by
  have z : ∀ o k, ¬ (o = 1 ∧ k = 3) → ¬ (o = 0 ∧ k = 2) → ¬ (156 ≤ o ∧ k = 2) → (zI_Main gZi, gZl, zR9_Main gZr, zKf, 333).1 o k = 0 := fun o k h1 h2 h3 => gMain_no h1 h2 h3
  have r0 : (zI_Main gZi, gZl, zR9_Main gZr, zKf, 333).2.2.1 0 1 = some (3, 39) := gR_0
  have r1 : (zI_Main gZi, gZl, zR9_Main gZr, zKf, 333).2.2.1 1 1 = some (3, 4) := (by decide +kernel : zR9_Main gZr 1 1 = some (3, 4))
  have p2 : (zI_Main gZi, gZl, zR9_Main gZr, zKf, 333).1 0 2 = -1 := gMain_02
  have s3 : ∀ k, k < 3 → (zI_Main gZi, gZl, zR9_Main gZr, zKf, 333).1 162 k = 0 := gMain_162
  have e2 : (zI_Main gZi, gZl, zR9_Main gZr, zKf, 333).2.2 = (zR9_Main gZr, zKf, 333) := rfl
  generalize hh : ((zI_Main gZi, gZl, zR9_Main gZr, zKf, 333) : zH) = h at *
  have hn : yOKn (gFin gd0) := ok_Fin ok_0 gne0
  have hD : gcD h 39 gd0 (dL gd0) := ⟨z _ _ (by omega) (by omega) (by omega), z _ _ (by omega) (by omega) (by omega), z _ _ (by omega) (by omega) (by omega), z _ _ (by omega) (by omega) (by omega), z _ _ (by omega) (by omega) (by omega), fun l hl => by rw [z _ _ (by omega) (by omega) (by omega), zBi_0]; rfl, fun l hl => by rw [z _ _ (by omega) (by omega) (by omega), zBi_0]; rfl, fun l hl => absurd (show l < 0 from hl) (Nat.not_lt_zero l), fun l hl => absurd (show l < 0 from hl) (Nat.not_lt_zero l), fun l hl => absurd (show l < 0 from hl) (Nat.not_lt_zero l)⟩
  have CN := gcD_CN hD ok_0
  obtain ⟨x, hx, q, c1, c2, c3, c4⟩ := beginNet_c (t := gT0) r0 hn CN (by omega) s3
  have nk : ∀ a k, a ≤ 73 → ¬ (a = 0 ∧ k = 9) → x.1 a k = h.1 a k := fun a k h1 h2 => q.i (o := a) (k := k) (by
    cases hz : zin [(74, 136, 0, 9999), (137, 137, 4, 4), (155, 156, 0, 9999), (0, 0, 9, 9)] a k
    · rfl
    · unfold zin at hz
      simp only [List.any_cons, List.any_nil, Bool.or_false, Bool.or_eq_true, Bool.and_eq_true, Nat.ble_eq] at hz
      rcases hz with hz | hz | hz | hz <;> omega)
  refine ⟨x, hx, q.1.trans e2, q, ⟨39, 4, Or.inl ⟨rfl, rfl⟩, ?_, ?_, ?_⟩, c1, c3, (fun him => by cases him), ?_, c2, ?_, fun k hk => absurd (show k < 0 from hk) (Nat.not_lt_zero k), ?_⟩
  · rw [q.1]
    exact r0
  · rw [q.1]
    exact r1
  · refine CN.fr hn q (fun a k h1 h2 => ?_)
    cases hz : zin [(74, 136, 0, 9999), (137, 137, 4, 4), (155, 156, 0, 9999), (0, 0, 9, 9)] a k
    · rfl
    · unfold zin at hz
      simp only [List.any_cons, List.any_nil, Bool.or_false, Bool.or_eq_true, Bool.and_eq_true, Nat.ble_eq] at hz
      rcases hz with hz | hz | hz | hz <;> omega
  · rw [c4]
    rfl
  · rw [nk _ _ (by decide) (by decide)]
    exact z _ _ (by omega) (by omega) (by omega)
  · rw [nk _ _ (by decide) (by decide)]
    exact p2
theorem gMod_no {I : Nat → Nat → Int32} {o k : Nat} (h1 : ¬ (o = 333 ∧ k = 26)) (h2 : ¬ (o = 347 ∧ k = 2)) : zI_Mod I o k = I o k := by
  have u : ∀ (f : Nat → Nat → Int32) (a b : Nat) (v : Int32), ¬ (o = a ∧ k = b) → zu f a b v o k = f o k := fun f a b v h => by
    by_cases e : o = a
    · subst e
      exact zu_nek _ _ (fun e2 => h ⟨rfl, e2⟩)
    · rw [zu_ne _ _ e]
  unfold zI_Mod
  rw [u _ _ _ _ h2, u _ _ _ _ h1]
theorem start_r {x : zH} (hxr : x.2.2 = (zR9_Main gZr, zKf, 333)) (hq : zfm [(74, 136, 0, 9999), (137, 137, 4, 4), (155, 156, 0, 9999), (0, 0, 9, 9)] (zI_Main gZi, gZl, zR9_Main gZr, zKf, 333) x) (hc : yIc x gS0) : ∃ y, f_Mod_layDown (zI_Mod x.1, x.2.1, zR9_Mod x.2.2.1, zKf, 380) = some y ∧ y.2.2 = (zR9_Mod x.2.2.1, zKf, 380) ∧ yInv (y.1, y.2.1, y.2.2.1, zKf, 381) ∧ ∃ L, zfm L (zI_Mod x.1, x.2.1, zR9_Mod x.2.2.1, zKf, 380) y ∧ ∀ a k, 380 ≤ a → zin L a k = false := by
  have zx : ∀ o k, 333 ≤ o → ¬ (o = 333 ∧ k = 26) → ¬ (o = 347 ∧ k = 2) → zI_Mod x.1 o k = 0 := fun o k h1 h2 h3 => by
    rw [gMod_no h2 h3, hq.i (o := o) (k := k) (by
      cases hz : zin [(74, 136, 0, 9999), (137, 137, 4, 4), (155, 156, 0, 9999), (0, 0, 9, 9)] o k
      · rfl
      · unfold zin at hz
        simp only [List.any_cons, List.any_nil, Bool.or_false, Bool.or_eq_true, Bool.and_eq_true, Nat.ble_eq] at hz
        rcases hz with hz | hz | hz | hz <;> omega)]
    exact gMain_hi h1
  have hr1 : x.2.2.1 = zR9_Main gZr := by rw [hxr]
  have hI2 : yIc (zI_Mod x.1, x.2.1, zR9_Mod x.2.2.1, zKf, 380) gS0 := by
    refine hc.g gS0_ok (L := [(333, 333, 26, 26), (347, 347, 2, 2)]) (fun o k hz => ⟨?_, rfl⟩) rfl ?_ ?_
    · refine gMod_no (fun h => ?_) (fun h => ?_)
      · rw [h.1, h.2] at hz
        exact absurd hz (by decide)
      · rw [h.1, h.2] at hz
        exact absurd hz (by decide)
    · show zR9_Mod x.2.2.1 0 1 = x.2.2.1 0 1
      rw [hr1]
      exact (by decide +kernel : zR9_Mod (zR9_Main gZr) 0 1 = zR9_Main gZr 0 1)
    · show zR9_Mod x.2.2.1 1 1 = x.2.2.1 1 1
      rw [hr1]
      exact (by decide +kernel : zR9_Mod (zR9_Main gZr) 1 1 = zR9_Main gZr 1 1)
  have w26 : zI_Mod x.1 333 26 = -1 := by
    unfold zI_Mod
    rw [zu_ne _ _ (by decide), zu_eq]
  have w2 : zI_Mod x.1 347 2 = -1 := by
    unfold zI_Mod
    rw [zu_eq]
  have z' : ∀ o k, 333 ≤ o → ¬ (o = 333 ∧ k = 26) → ¬ (o = 347 ∧ k = 2) → ((zI_Mod x.1, x.2.1, zR9_Mod x.2.2.1, zKf, 380) : zH).1 o k = 0 := zx
  have w26' : ((zI_Mod x.1, x.2.1, zR9_Mod x.2.2.1, zKf, 380) : zH).1 333 26 = -1 := w26
  have w2' : ((zI_Mod x.1, x.2.1, zR9_Mod x.2.2.1, zKf, 380) : zH).1 347 2 = -1 := w2
  have e2 : ((zI_Mod x.1, x.2.1, zR9_Mod x.2.2.1, zKf, 380) : zH).2.2 = (zR9_Mod x.2.2.1, zKf, 380) := rfl
  generalize ((zI_Mod x.1, x.2.1, zR9_Mod x.2.2.1, zKf, 380) : zH) = h at *
  have hn : yOKn (gFin gd0) := ok_Fin ok_0 gne0
  have RN : yRN h (gFin gd0) := ⟨⟨z' _ _ (by omega) (by omega) (by omega), z' _ _ (by omega) (by omega) (by omega), fun l h1 h2 => absurd (show l < 0 from h2) (Nat.not_lt_zero l)⟩, fun l hl => absurd (show l < 0 from hl) (Nat.not_lt_zero l), z' _ _ (by omega) (by omega) (by omega), z' _ _ (by omega) (by omega) (by omega), fun l hl => absurd (show l < 0 from hl) (Nat.not_lt_zero l), fun l hl => absurd (show l < 0 from hl) (Nat.not_lt_zero l), fun l hl => absurd (show l < 0 from hl) (Nat.not_lt_zero l), fun l hl => absurd (show l < 0 from hl) (Nat.not_lt_zero l)⟩
  obtain ⟨y, hy, q, L2⟩ := layDown_r hn.1 RN.1 RN.2.1
  have n3 : ∀ a k, ¬ (350 ≤ a ∧ a ≤ 357) → y.1 a k = h.1 a k := fun a k h1 => q.i (zin_n1 (by omega))
  have IR : yIr y gS0 := by
    refine ⟨RN.fr q (fun a k h1 h2 => zin_n1 (by omega)), L2, ⟨⟨?_, ?_, ?_, ?_, ?_, fun k hk => absurd (show k < 0 from hk) (Nat.not_lt_zero k), fun f hf => ?_⟩, ?_, fun i hi => absurd (show i < 0 from hi) (Nat.not_lt_zero i), ?_, fun k hk => absurd (show k < 0 from hk) (Nat.not_lt_zero k), fun k hk => ?_⟩, (fun him => by cases him), ?_, ?_, fun k hk => absurd (show k < 0 from hk) (Nat.not_lt_zero k), ?_⟩
    · rw [n3 _ _ (by omega), z' _ _ (by omega) (by omega) (by omega)]
      rfl
    · rw [n3 _ _ (by omega), z' _ _ (by omega) (by omega) (by omega)]
      rfl
    · rw [n3 _ _ (by omega)]
      exact w2'
    · rw [n3 _ _ (by omega), z' _ _ (by omega) (by omega) (by omega)]
      rfl
    · rw [n3 _ _ (by omega), z' _ _ (by omega) (by omega) (by omega)]
      rfl
    · rw [n3 _ _ (by omega), z' _ _ (by omega) (by omega) (by omega)]
      rfl
    · rw [n3 _ _ (by omega), z' _ _ (by omega) (by omega) (by omega)]
      rfl
    · rw [n3 _ _ (by omega), z' _ _ (by omega) (by omega) (by omega)]
      rfl
    · rw [n3 _ _ (by omega), z' _ _ (by omega) (by omega) (by omega)]
      rfl
    · rw [n3 _ _ (by omega), z' _ _ (by omega) (by omega) (by omega)]
      rfl
    · rw [n3 _ _ (by omega), z' _ _ (by omega) (by omega) (by omega)]
      rfl
    · rw [n3 _ _ (by omega)]
      exact w26'
  have IC : yIc y gS0 := hI2.fr gS0_ok q rfl
  refine ⟨y, hy, q.1.trans e2, ⟨gS0, gS0_ok, ?_, IR.eq rfl⟩, _, q, fun a k ha => zin_n1 (by omega)⟩
  exact IC.g gS0_ok (L := []) (fun o k _ => ⟨rfl, rfl⟩) rfl rfl rfl
