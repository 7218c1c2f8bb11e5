/-! ===== what holds between calls ===== -/
/-- a net: lines, seen, letters, names, chains, cells, of which chain, what is taken, fill -/
abbrev yN : Type := zEv × (Nat → Bool) × (Nat → Nat) × (Nat → Nat → Nat) × Nat × (Nat → Nat) × (Nat → Nat → Nat) × (Nat → Nat) × (Nat → Nat) × Nat
abbrev yE (N : yN) : zEv := N.1
abbrev ySb (N : yN) : Nat → Bool := N.2.1
abbrev yLn (N : yN) : Nat → Nat := N.2.2.1
abbrev yNm (N : yN) : Nat → Nat → Nat := N.2.2.2.1
abbrev yNc (N : yN) : Nat := N.2.2.2.2.1
abbrev yCn (N : yN) : Nat → Nat := N.2.2.2.2.2.1
abbrev yCl (N : yN) : Nat → Nat → Nat := N.2.2.2.2.2.2.1
abbrev yCo (N : yN) : Nat → Nat := N.2.2.2.2.2.2.2.1
abbrev yTk (N : yN) : Nat → Nat := N.2.2.2.2.2.2.2.2.1
abbrev yFl (N : yN) : Nat := N.2.2.2.2.2.2.2.2.2
abbrev yI (N : yN) : Nat := N.1.1
abbrev yLs (N : yN) : Nat := N.1.2.1
def yOKn (N : yN) : Prop := zEok (yE N) ∧ (∀ l, l < yLs N → 1 ≤ yLn N l ∧ yLn N l ≤ 6 ∧ ∀ i, i < yLn N l → 1 ≤ yNm N l i ∧ yNm N l i ≤ 26) ∧ yNc N ≤ 3 ∧ (∀ c, c < yNc N → 1 ≤ yCn N c ∧ yCn N c ≤ 6 ∧ (∀ k, k < yCn N c → yCl N c k < yI N ∧ yCo N (yCl N c k) = c + 1) ∧ (∀ k j, k < yCn N c → j < yCn N c → yCl N c k = yCl N c j → k = j) ∧ (∀ i, i < yI N → yCo N i = c + 1 → ∃ k, k < yCn N c ∧ yCl N c k = i) ∧ fb_ct (fun i => yCo N i == c + 1) (yI N) = yCn N c) ∧ (∀ i, i < yI N → yCo N i ≤ yNc N ∧ yTk N i ≤ yLs N) ∧ yFl N ≤ 2
/-- the name as a number -/
def ypk (nm : Nat → Nat) : Nat → Nat
  | 0 => 0
  | n + 1 => ypk nm n * 32 + nm n
/-- the class's net at o -/
def yCN (h : zH) (o : Nat) (N : yN) : Prop := zCE h o (yE N) ∧ (∀ l, l < 32 → zBi (h.1 o 5 ||| h.1 o 6) l = (decide (l < yLs N) && ySb N l)) ∧ h.1 o 2 = zJ (yNc N) ∧ h.1 o 3 = zJ (yFl N) ∧ (∀ l, l < yI N → h.1 (o + 3) l = -1 ∧ h.1 (o + 4) l = 0) ∧ (∀ l, l < yLs N → h.1 (o + 1) l = zJ (ypk (yNm N l) (yLn N l)) ∧ h.1 (o + 2) l = zJ (yLn N l)) ∧ (∀ c, c < yNc N → h.1 (o + 34) c = zJ (yCn N c) ∧ ∀ k, k < yCn N c → h.1 ((o + 30) + (1 + 1 * c)) k = zJ (yCl N c k)) ∧ ∀ i, i < yI N → h.1 (o + 28) i = zfj (yCo N i) ∧ h.1 (o + 29) i = zfj (yTk N i)
/-- the reference's net -/
def yRN (h : zH) (N : yN) : Prop := zRE h (yE N) ∧ zRS h (yLs N) (ySb N) ∧ h.1 336 2 = zJ (yNc N) ∧ h.1 336 3 = zJ (yFl N) ∧ (∀ l, l < yI N → h.1 337 l = -1 ∧ h.1 338 l = 0) ∧ (∀ l, l < yLs N → h.1 345 l = zJ (yLn N l) ∧ ∀ i, i < yLn N l → h.1 346 (6 * l + i) = zJ (yNm N l i)) ∧ (∀ c, c < yNc N → h.1 343 c = zJ (yCn N c) ∧ ∀ k, k < yCn N c → h.1 344 (6 * c + k) = zJ (yCl N c k)) ∧ ∀ i, i < yI N → h.1 341 i = zfj (yCo N i) ∧ h.1 342 i = zfj (yTk N i)
theorem yCN.fr {L : List (Nat × Nat × Nat × Nat)} {h h' : zH} {o : Nat} {N : yN} (hr : yCN h o N) (hn : yOKn N) (q : zfm L h h') (hd : ∀ a k, o ≤ a → a ≤ o + 34 → zin L a k = false) : yCN h' o N := by
  obtain ⟨h1, h2, h3, h4, h5, h6, h7, h8⟩ := hr
  obtain ⟨n1, n2, n3, n4⟩ := hn
  have hi : ∀ a k, o ≤ a → a ≤ o + 34 → h'.1 a k = h.1 a k := fun a k l1 l2 => q.i (hd a k l1 l2)
  refine ⟨h1.fr n1 q (fun a k l1 l2 => hd a k l1 (by omega)), ?_, ?_, ?_, ?_, ?_, ?_, ?_⟩
  · rw [hi o 5 (by omega) (by omega), hi o 6 (by omega) (by omega)]
    exact h2
  · rw [hi o 2 (by omega) (by omega), h3]
  · rw [hi o 3 (by omega) (by omega), h4]
  · intro l hl
    rw [hi _ l (by omega) (by omega), hi _ l (by omega) (by omega)]
    exact h5 l hl
  · intro l hl
    rw [hi _ l (by omega) (by omega), hi _ l (by omega) (by omega)]
    exact h6 l hl
  · intro c hc
    rw [hi _ c (by omega) (by omega)]
    refine ⟨(h7 c hc).1, fun k hk => ?_⟩
    rw [hi _ k (by omega) (by omega)]
    exact (h7 c hc).2 k hk
  · intro l hl
    rw [hi _ l (by omega) (by omega), hi _ l (by omega) (by omega)]
    exact h8 l hl
theorem yRN.fr {L : List (Nat × Nat × Nat × Nat)} {h h' : zH} {N : yN} (hr : yRN h N) (q : zfm L h h') (hd : ∀ a k, 336 ≤ a → a ≤ 346 → zin L a k = false) : yRN h' N := by
  unfold yRN zRE zRS at hr ⊢
  rw [q.ir (fun k => hd 336 k (by omega) (by omega)), q.ir (fun k => hd 337 k (by omega) (by omega)), q.ir (fun k => hd 338 k (by omega) (by omega)), q.ir (fun k => hd 339 k (by omega) (by omega)), q.ir (fun k => hd 340 k (by omega) (by omega)), q.ir (fun k => hd 341 k (by omega) (by omega)), q.ir (fun k => hd 342 k (by omega) (by omega)), q.ir (fun k => hd 343 k (by omega) (by omega)), q.ir (fun k => hd 344 k (by omega) (by omega)), q.ir (fun k => hd 345 k (by omega) (by omega)), q.ir (fun k => hd 346 k (by omega) (by omega))]
  exact hr
theorem yCAT.fr {L : List (Nat × Nat × Nat × Nat)} {h h' : zH} {e : zEv} {sb : Nat → Bool} (hr : yCAT h e sb) (he : zEok e) (q : zfm L h h') (hd : ∀ a k, 74 ≤ a → a ≤ 126 → zin L a k = false) : yCAT h' e sb := by
  obtain ⟨e1, e2, e3, e4⟩ := he
  obtain ⟨h1, h2, h3, h4, h5, h6, h7⟩ := hr
  have hi : ∀ a k, 74 ≤ a → a ≤ 126 → h'.1 a k = h.1 a k := fun a k l1 l2 => q.i (hd a k l1 l2)
  refine ⟨(hi _ _ (by omega) (by omega)).trans h1, (hi _ _ (by omega) (by omega)).trans h2, (hi _ _ (by omega) (by omega)).trans h3, fun f hf l hl r hr => ?_, ?_, ?_, ?_⟩
  · rw [q.l (hd _ _ (by omega) (by omega))]
    exact h4 f hf l hl r hr
  · unfold yTS
    rw [q.lr (o := 121) (fun k => hd _ k (by omega) (by omega)), q.l (o := 74) (k := 3) (hd _ _ (by omega) (by omega))]
    exact h5
  · unfold yRT
    rw [q.ir (o := 125) (fun k => hd _ k (by omega) (by omega)), q.ir (o := 126) (fun k => hd _ k (by omega) (by omega))]
    exact h6
  · unfold yCT yBC at h7 ⊢
    rw [q.ir (o := 122) (fun k => hd _ k (by omega) (by omega)), q.ir (o := 123) (fun k => hd _ k (by omega) (by omega)), q.ir (o := 124) (fun k => hd _ k (by omega) (by omega)), q.ir (o := 125) (fun k => hd _ k (by omega) (by omega)), q.ir (o := 126) (fun k => hd _ k (by omega) (by omega))]
    exact h7
theorem yLD.fr {L : List (Nat × Nat × Nat × Nat)} {h h' : zH} {e : zEv} {sb : Nat → Bool} (hr : yLD h e sb) (q : zfm L h h') (hd : ∀ a k, 353 ≤ a → a ≤ 357 → zin L a k = false) : yLD h' e sb := by
  unfold yLD zLT yCU at hr ⊢
  rw [q.ir (o := 353) (fun k => hd _ k (by omega) (by omega)), q.ir (o := 354) (fun k => hd _ k (by omega) (by omega)), q.ir (o := 355) (fun k => hd _ k (by omega) (by omega)), q.ir (o := 356) (fun k => hd _ k (by omega) (by omega)), q.ir (o := 357) (fun k => hd _ k (by omega) (by omega))]
  exact hr
/-- the machine: inputs, cycles, defect, fill, how many are picked, which, done -/
abbrev yS : Type := Nat × Int32 × Nat × Nat × Nat × (Nat → Nat) × (Nat → Bool)
def yOKs (N : yN) (s : yS) : Prop := s.1 < 2 ^ yI N ∧ s.2.2.1 ≤ 2 * yLs N ∧ s.2.2.2.1 ≤ 2 ∧ s.2.2.2.2.1 ≤ 8 ∧ (∀ k, k < s.2.2.2.2.1 → s.2.2.2.2.2.1 k < 2 * yLs N ∧ 0 < zct (yE N) (ySb N) (s.2.2.2.2.2.1 k) (2 ^ yI N)) ∧ ∀ f, s.2.2.2.2.2.2 f = true → f < 2 * yLs N
/-- the class's machine at o -/
def yCSt (h : zH) (o : Nat) (s : yS) : Prop := h.1 o 0 = zJ s.1 ∧ h.1 o 1 = s.2.1 ∧ h.1 o 2 = zfj s.2.2.1 ∧ h.1 o 3 = zJ s.2.2.2.1 ∧ h.1 o 5 = zJ s.2.2.2.2.1 ∧ (∀ k, k < s.2.2.2.2.1 → h.1 (o + 1) k = zJ (s.2.2.2.2.2.1 k)) ∧ ∀ f, f < 64 → zBl (h.2.1 o 4) f = s.2.2.2.2.2.2 f
/-- the reference's, in a row from p on -/
def yRSt (row : Nat → Int32) (p : Nat) (s : yS) : Prop := row p = zJ s.1 ∧ row (p + 1) = s.2.1 ∧ row (p + 2) = zfj s.2.2.1 ∧ row (p + 3) = zJ s.2.2.2.1 ∧ row (p + 4) = zJ s.2.2.2.2.1 ∧ (∀ k, k < s.2.2.2.2.1 → row (p + 5 + k) = zJ (s.2.2.2.2.2.1 k)) ∧ ∀ f, f < 44 → row (p + 13 + f) = zbI (s.2.2.2.2.2.2 f)
theorem yCSt.fr {L : List (Nat × Nat × Nat × Nat)} {h h' : zH} {o : Nat} {s : yS} (hr : yCSt h o s) (q : zfm L h h') (hd : ∀ a k, o ≤ a → a ≤ o + 1 → zin L a k = false) : yCSt h' o s := by
  unfold yCSt at hr ⊢
  rw [q.ir (o := o) (fun k => hd _ k (by omega) (by omega)), q.ir (o := o + 1) (fun k => hd _ k (by omega) (by omega)), q.lr (o := o) (fun k => hd _ k (by omega) (by omega))]
  exact hr
/-- all that an image keeps: the machine, how many acts, the machine ahead of each, how much is noted, what, status -/
abbrev yT : Type := yS × Nat × (Nat → yS) × Nat × (Nat → Nat) × (Nat → Nat) × (Nat → Nat) × (Nat → Int32)
def yOKt (N : yN) (t : yT) : Prop := yOKs N t.1 ∧ t.2.1 ≤ 40 ∧ (∀ i, i < t.2.1 → yOKs N (t.2.2.1 i)) ∧ t.2.2.2.1 ≤ 10 ∧ ∀ k, k < t.2.2.2.1 → t.2.2.2.2.1 k < 2 ^ yI N ∧ t.2.2.2.2.2.1 k < yLs N ∧ ySb N (t.2.2.2.2.2.1 k) = true ∧ t.2.2.2.2.2.2.1 k < 2
/-- the class's session at o -/
def yCSe (h : zH) (o : Nat) (t : yT) : Prop := yCSt h (o + 1) t.1 ∧ h.1 o 3 = zJ t.2.1 ∧ (∃ ol, ol < 40 ∧ h.1 o 2 = zJ ol ∧ ∀ i, i < t.2.1 → yCSt h (o + 8 + 2 * ((ol + i) % 40)) (t.2.2.1 i)) ∧ h.1 o 7 = zJ t.2.2.2.1 ∧ (∀ k, k < t.2.2.2.1 → h.1 (o + 4) k = zJ (t.2.2.2.2.1 k) ∧ h.1 (o + 5) k = zJ (t.2.2.2.2.2.1 k) ∧ h.1 (o + 6) k = zJ (t.2.2.2.2.2.2.1 k)) ∧ ∀ k, k < 3 → h.1 (o + 7) k = t.2.2.2.2.2.2.2 k
theorem yCSe.fr {L : List (Nat × Nat × Nat × Nat)} {h h' : zH} {o : Nat} {t : yT} (hr : yCSe h o t) (q : zfm L h h') (hd : ∀ a k, o ≤ a → a ≤ o + 87 → zin L a k = false) : yCSe h' o t := by
  obtain ⟨h1, h2, ⟨ol, o1, o2, o3⟩, h4, h5, h6⟩ := hr
  have hi : ∀ a k, o ≤ a → a ≤ o + 87 → h'.1 a k = h.1 a k := fun a k l1 l2 => q.i (hd a k l1 l2)
  refine ⟨h1.fr q (fun a k l1 l2 => hd a k (by omega) (by omega)), (hi _ _ (by omega) (by omega)).trans h2, ⟨ol, o1, (hi _ _ (by omega) (by omega)).trans o2, fun i hi => (o3 i hi).fr q (fun a k l1 l2 => hd a k (by omega) (by omega))⟩, (hi _ _ (by omega) (by omega)).trans h4, fun k hk => ?_, fun k hk => (hi _ _ (by omega) (by omega)).trans (h6 k hk)⟩
  rw [hi _ k (by omega) (by omega), hi _ k (by omega) (by omega), hi _ k (by omega) (by omega)]
  exact h5 k hk
/-- the reference's: acts, noted, and the rows -/
def yRSe (ac nt : Int32) (now past nr nl nv st : Nat → Int32) (t : yT) : Prop := yRSt now 0 t.1 ∧ ac = zJ t.2.1 ∧ (∀ i, i < t.2.1 → yRSt past (57 * i) (t.2.2.1 i)) ∧ nt = zJ t.2.2.2.1 ∧ (∀ k, k < t.2.2.2.1 → nr k = zJ (t.2.2.2.2.1 k) ∧ nl k = zJ (t.2.2.2.2.2.1 k) ∧ nv k = zJ (t.2.2.2.2.2.2.1 k)) ∧ ∀ k, k < 3 → st k = t.2.2.2.2.2.2.2 k
def yRNow (h : zH) (t : yT) : Prop := yRSe (h.1 333 45) (h.1 333 47) (h.1 347) (h.1 367) (h.1 368) (h.1 369) (h.1 370) (h.1 348) t
def yRIm (h : zH) (t : yT) : Prop := yRSe (h.1 333 56) (h.1 333 57) (h.1 374) (h.1 375) (h.1 376) (h.1 377) (h.1 378) (h.1 379) t
theorem yRNow.fr {L : List (Nat × Nat × Nat × Nat)} {h h' : zH} {t : yT} (hr : yRNow h t) (q : zfm L h h') (hd : ∀ a k, (a = 347 ∨ a = 348 ∨ 367 ≤ a ∧ a ≤ 370) → zin L a k = false) (h1 : zin L 333 45 = false) (h2 : zin L 333 47 = false) : yRNow h' t := by
  unfold yRNow at hr ⊢
  rw [q.i h1, q.i h2, q.ir (o := 347) (fun k => hd _ k (by omega)), q.ir (o := 348) (fun k => hd _ k (by omega)), q.ir (o := 367) (fun k => hd _ k (by omega)), q.ir (o := 368) (fun k => hd _ k (by omega)), q.ir (o := 369) (fun k => hd _ k (by omega)), q.ir (o := 370) (fun k => hd _ k (by omega))]
  exact hr
theorem yRIm.fr {L : List (Nat × Nat × Nat × Nat)} {h h' : zH} {t : yT} (hr : yRIm h t) (q : zfm L h h') (hd : ∀ a k, 374 ≤ a → a ≤ 379 → zin L a k = false) (h1 : zin L 333 56 = false) (h2 : zin L 333 57 = false) : yRIm h' t := by
  unfold yRIm at hr ⊢
  rw [q.i h1, q.i h2, q.ir (o := 374) (fun k => hd _ k (by omega) (by omega)), q.ir (o := 375) (fun k => hd _ k (by omega) (by omega)), q.ir (o := 376) (fun k => hd _ k (by omega) (by omega)), q.ir (o := 377) (fun k => hd _ k (by omega) (by omega)), q.ir (o := 378) (fun k => hd _ k (by omega) (by omega)), q.ir (o := 379) (fun k => hd _ k (by omega) (by omega))]
  exact hr
/-- the tape -/
def yTp (h : zH) : Prop := ∃ (t : Nat) (tb : Nat → Nat), t ≤ 900 ∧ h.1 2 1 = zJ t ∧ h.1 333 17 = zJ t ∧ ∀ k, k < t → tb k < 256 ∧ h.1 349 k = zJ (tb k) ∧ h.1 3 k = (zJ (tb k)).toInt8.toInt32
theorem yTp.fr {L : List (Nat × Nat × Nat × Nat)} {h h' : zH} (hr : yTp h) (q : zfm L h h') (h1 : zin L 2 1 = false) (h2 : zin L 333 17 = false) (h3 : ∀ k, zin L 349 k = false) (h4 : ∀ k, zin L 3 k = false) : yTp h' := by
  unfold yTp at hr ⊢
  rw [q.i h1, q.i h2, q.ir h3, q.ir h4]
  exact hr
