/-! ===== the two halves, and what they stand for ===== -/
/-- the net; the session; is there an image, its session; the tape's length, its bytes; the place of the fault -/
abbrev yG : Type := yN × yT × Bool × yT × Nat × (Nat → Nat) × Int32
abbrev gN (S : yG) : yN := S.1
abbrev gT (S : yG) : yT := S.2.1
abbrev gIm (S : yG) : Bool := S.2.2.1
abbrev gU (S : yG) : yT := S.2.2.2.1
abbrev gtl (S : yG) : Nat := S.2.2.2.2.1
abbrev gtb (S : yG) : Nat → Nat := S.2.2.2.2.2.1
abbrev gfp (S : yG) : Int32 := S.2.2.2.2.2.2
def yOK (S : yG) : Prop := yOKn (gN S) ∧ yOKt (gN S) (gT S) ∧ (gIm S = true → yOKt (gN S) (gU S)) ∧ gtl S ≤ 900 ∧ ∀ k, k < gtl S → gtb S k < 256
def yIc (h : zH) (S : yG) : Prop := (∃ W D, ((W = 39 ∧ D = 4) ∨ (W = 4 ∧ D = 39)) ∧ h.2.2.1 0 1 = some (3, W) ∧ h.2.2.1 1 1 = some (3, D) ∧ yCN h W (gN S)) ∧ yCAT h (yE (gN S)) (ySb (gN S)) ∧ yCSe h 155 (gT S) ∧ (gIm S = true → yCSe h 243 (gU S)) ∧ h.1 0 9 = zbI (gIm S) ∧ yPl h (gN S) ∧ h.1 2 1 = zJ (gtl S) ∧ (∀ k, k < gtl S → h.1 3 k = (zJ (gtb S k)).toInt8.toInt32) ∧ h.1 0 2 = gfp S
def yIr (h : zH) (S : yG) : Prop := yRN h (gN S) ∧ yLD h (yE (gN S)) (ySb (gN S)) ∧ yRNow h (gT S) ∧ (gIm S = true → yRIm h (gU S)) ∧ h.1 333 55 = zbI (gIm S) ∧ h.1 333 17 = zJ (gtl S) ∧ (∀ k, k < gtl S → h.1 349 k = zJ (gtb S k)) ∧ h.1 333 26 = gfp S
/-- what the class's half doesn't speak of -/
def ySLc : List (Nat × Nat × Nat × Nat) := [(127, 136, 0, 9999), (137, 137, 7, 9999), (141, 154, 0, 9999), (331, 332, 0, 9999), (333, 380, 0, 9999)]
def ySLr : List (Nat × Nat × Nat × Nat) := [(0, 332, 0, 9999), (333, 333, 2, 2), (333, 333, 18, 25), (333, 333, 40, 40), (333, 333, 53, 53), (350, 352, 0, 9999), (358, 366, 0, 9999), (371, 373, 0, 9999), (380, 380, 0, 9999)]
theorem ySLc_no {a k : Nat} (h : a ≤ 126 ∨ (a = 137 ∧ k < 7) ∨ (138 ≤ a ∧ a ≤ 140) ∨ (155 ≤ a ∧ a ≤ 330)) : zin ySLc a k = false := by
  cases hz : zin ySLc a k
  · rfl
  · unfold zin ySLc at hz
    simp at hz
    omega
theorem ySLr_no {a k : Nat} (h : (336 ≤ a ∧ a ≤ 349) ∨ (353 ≤ a ∧ a ≤ 357) ∨ (367 ≤ a ∧ a ≤ 370) ∨ (374 ≤ a ∧ a ≤ 379) ∨ (a = 333 ∧ (k = 17 ∨ k = 26 ∨ k = 45 ∨ k = 47 ∨ 54 ≤ k))) : zin ySLr a k = false := by
  cases hz : zin ySLr a k
  · rfl
  · unfold zin ySLr at hz
    simp at hz
    omega
theorem yIc.fr {L : List (Nat × Nat × Nat × Nat)} {h h' : zH} {S : yG} (hr : yIc h S) (ho : yOK S) (q : zfm L h h') (e : zsubL L ySLc = true) : yIc h' S := by
  have q := q.sub e
  obtain ⟨⟨W, D, w1, w2, w3, w4⟩, i2, i3, i4, i5, i6, i7, i8, i9⟩ := hr
  have q0 := q.1
  refine ⟨⟨W, D, w1, by rw [q0]; exact w2, by rw [q0]; exact w3, w4.fr ho.1 q (fun a k h1 h2 => ySLc_no (by omega))⟩, i2.fr ho.1.1 q (fun a k h1 h2 => ySLc_no (by omega)), i3.fr q (fun a k h1 h2 => ySLc_no (by omega)), fun him => (i4 him).fr q (fun a k h1 h2 => ySLc_no (by omega)), (q.i (ySLc_no (by omega))).trans i5, i6.fr q (fun k => ⟨ySLc_no (by omega), ySLc_no (by omega), ySLc_no (by omega)⟩) (ySLc_no (by omega)) (ySLc_no (by omega)) (ySLc_no (by omega)) (ySLc_no (by omega)), (q.i (ySLc_no (by omega))).trans i7, fun k hk => (q.i (ySLc_no (by omega))).trans (i8 k hk), (q.i (ySLc_no (by omega))).trans i9⟩
theorem yIr.fr {L : List (Nat × Nat × Nat × Nat)} {h h' : zH} {S : yG} (hr : yIr h S) (q : zfm L h h') (e : zsubL L ySLr = true) : yIr h' S := by
  have q := q.sub e
  obtain ⟨i1, i2, i3, i4, i5, i6, i7, i8⟩ := hr
  refine ⟨i1.fr q (fun a k h1 h2 => ySLr_no (by omega)), i2.fr q (fun a k h1 h2 => ySLr_no (by omega)), i3.fr q (fun a k h1 => ySLr_no (by omega)) (ySLr_no (by omega)) (ySLr_no (by omega)), fun him => (i4 him).fr q (fun a k h1 h2 => ySLr_no (by omega)) (ySLr_no (by omega)) (ySLr_no (by omega)), (q.i (ySLr_no (by omega))).trans i5, (q.i (ySLr_no (by omega))).trans i6, fun k hk => (q.i (ySLr_no (by omega))).trans (i7 k hk), (q.i (ySLr_no (by omega))).trans i8⟩
/-- only the class's, only the reference's -/
def yLc : List (Nat × Nat × Nat × Nat) := [(0, 332, 0, 9999)]
def yLr : List (Nat × Nat × Nat × Nat) := [(333, 379, 0, 9999)]
def yInv (h : zH) : Prop := ∃ S, yOK S ∧ yIc h S ∧ yIr h S
/-- an answer: a value, or the law's number of an exception -/
abbrev yA : Type := Int32 ⊕ Nat
def yAc (a : yA) : Int32 := Sum.elim (fun _ => 0) (fun c => zJ c) a
/-- the law's way of the class's answer -/
def yCA (a : yA) (x : Int32 × zH) : Prop := x.1 = yAc a ∧ ∀ v, a = .inl v → x.2.2.1 380 0 = v.toInt64
/-- the reference's answer -/
def yRA (a : yA) (y : Int32 × zH) : Prop := y.2.1 333 2 = yAc a ∧ ∀ v, a = .inl v → y.1 = v
def yEnd (x y : Int32 × zH) : Prop := y.2.1 333 2 = x.1 ∧ (x.1 = 0 → y.2.2.1 380 0 = y.1.toInt64) ∧ yInv y.2
/-- both halves of a call -/
theorem yBoth {S S' : yG} {a : yA} {h : zH} {e : Option (Int32 × zH)} {f : zH → Option (Int32 × zH)} (hS : yOK S') (hc : zw e fun x => yCA a x ∧ zfm ((380, 380, 0, 0) :: yLc) h x.2 ∧ yIc x.2 S') (hr : ∀ g, yIr g S → zw (f g) fun y => yRA a y ∧ zfm yLr g y.2 ∧ yIr y.2 S') (hi : yIr h S) (ha : ∀ c, a = .inr c → c = 1 ∨ c = 2) : zw e fun x => zw (f x.2) fun y => yEnd x y := by
  refine zw_mono hc ?_
  rintro x ⟨c1, c2, c3⟩
  refine zw_mono (hr x.2 (hi.fr c2 rfl)) ?_
  rintro y ⟨r1, r2, r3⟩
  refine ⟨r1.1.trans c1.1.symm, fun h0 => ?_, S', hS, c3.fr hS r2 rfl, r3⟩
  rcases a with v | c
  · rw [r1.2 v rfl, r2.l (by rfl)]
    exact c1.2 v rfl
  · rw [c1.1] at h0
    rcases ha c rfl with rfl | rfl
    · exact absurd h0 (by decide)
    · exact absurd h0 (by decide)
/-- without exceptions -/
theorem yBoth0 {S S' : yG} {v : Int32} {h : zH} {e : Option (Int32 × zH)} {f : zH → Option (Int32 × zH)} (hS : yOK S') (hc : zw e fun x => x.1 = v ∧ zfm yLc h x.2 ∧ yIc x.2 S') (hr : ∀ g, yIr g S → zw (f g) fun y => y.1 = v ∧ zfm yLr g y.2 ∧ yIr y.2 S') (hi : yIr h S) : zw e fun x => zw (f x.2) fun y => x.1 = y.1 ∧ yInv y.2 := by
  refine zw_mono hc ?_
  rintro x ⟨c1, c2, c3⟩
  refine zw_mono (hr x.2 (hi.fr c2 rfl)) ?_
  rintro y ⟨r1, r2, r3⟩
  exact ⟨c1.trans r1.symm, S', hS, c3.fr hS r2 rfl, r3⟩
/-- the law's way of a value, of an exception -/
theorem yLv {S : yG} {v : Int32} {h : zH} {e : Option ((Int32 × zH) ⊕ (Nat × zH))} {k : Nat × zH → Option (Int32 × zH)} (ho : yOK S) (hc : zw e fun x => ∃ g, x = .inl (v, g) ∧ zfm yLc h g ∧ yIc g S) : zw (e.bind (Sum.elim (fun a => some (0, zsL a.2 380 0 a.1.toInt64)) k)) fun x => yCA (.inl v) x ∧ zfm ((380, 380, 0, 0) :: yLc) h x.2 ∧ yIc x.2 S := by
  refine zw_bi hc ?_
  rintro x ⟨g, rfl, q, hi⟩
  have q2 : zfm [(380, 380, 0, 0)] g (zsL g 380 0 v.toInt64) := zfm.rfl'.Lg (by rfl)
  refine zw_some ⟨⟨rfl, fun w hw => ?_⟩, (q.sub rfl).tr q2 rfl, hi.fr ho q2 rfl⟩
  cases hw
  exact zL_eq
theorem yLx {S : yG} {c m : Nat} {h : zH} {e : Option ((Int32 × zH) ⊕ (Nat × zH))} {j : Int32 × zH → Option (Int32 × zH)} {k : Nat × zH → Option (Int32 × zH)} (hc : zw e fun x => ∃ g, x = .inr (c, g) ∧ zfm yLc h g ∧ yIc g S) (hk : ∀ g, k (c, g) = some (zJ m, g)) : zw (e.bind (Sum.elim j k)) fun x => yCA (.inr m) x ∧ zfm ((380, 380, 0, 0) :: yLc) h x.2 ∧ yIc x.2 S := by
  refine zw_bi hc ?_
  rintro x ⟨g, rfl, q, hi⟩
  refine zw_of (hk g) ⟨⟨rfl, fun w hw => by cases hw⟩, q.sub rfl, hi⟩
/-- a number that is below 0, or not -/
theorem yneg (v : Int32) : v < 0 ∨ ∃ k, k < 2147483648 ∧ v = zJ k := by
  by_cases h : v < 0
  · exact Or.inl h
  · refine Or.inr ⟨v.toNatClampNeg, Int32.toNatClampNeg_lt v, (Int32.ofNat_toNatClampNeg v (Int32.not_lt.mp h)).symm⟩
theorem fail_r {h : zH} {S : yG} {c : Nat} (hi : yIr h S) : zw (f_Mod_fail h (zJ c)) fun y => yRA (.inr c) y ∧ zfm yLr h y.2 ∧ yIr y.2 S := by
  unfold f_Mod_fail
  have q : zfm [(333, 333, 2, 2)] h (zsI h 333 2 (zJ c)) := zfm.rfl'.I (by rfl)
  exact zw_some ⟨⟨zI_eq, fun v hv => by cases hv⟩, q.sub rfl, hi.fr q rfl⟩
theorem code_r {h : zH} {S : yG} (hi : yIr h S) : yIr (zsI h 333 2 0) S ∧ zfm yLr h (zsI h 333 2 0) ∧ (zsI h 333 2 0).1 333 2 = 0 := by
  have q : zfm [(333, 333, 2, 2)] h (zsI h 333 2 0) := zfm.rfl'.I (by rfl)
  exact ⟨hi.fr q rfl, q.sub rfl, zI_eq⟩
