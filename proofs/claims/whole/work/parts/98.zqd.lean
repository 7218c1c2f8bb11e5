/-! ===== a text read, by itself ===== -/
def gu {α : Type} (f : Nat → α) (k : Nat) (v : α) : Nat → α := fun i => if i = k then v else f i
def gu2 (f : Nat → Nat → Nat) (a b v : Nat) : Nat → Nat → Nat := fun i j => if i = a ∧ j = b then v else f i j
theorem gu_eq {α : Type} {f : Nat → α} {k : Nat} {v : α} : gu f k v k = v := if_pos rfl
theorem gu_ne {α : Type} {f : Nat → α} {k i : Nat} {v : α} (h : i ≠ k) : gu f k v i = f i := if_neg h
theorem gu2_eq {f : Nat → Nat → Nat} {a b v : Nat} : gu2 f a b v a b = v := if_pos ⟨rfl, rfl⟩
theorem gu2_ne {f : Nat → Nat → Nat} {a b v i j : Nat} (h : ¬ (i = a ∧ j = b)) : gu2 f a b v i j = f i j := if_neg h
/-- a draft: a net, what is told to be seen, what is taken, is the fill told -/
abbrev gD : Type := yN × (Nat → Bool) × (Nat → Bool) × Bool
abbrev dI (D : gD) : Nat := D.1.1.1
abbrev dL (D : gD) : Nat := D.1.1.2.1
abbrev dkd (D : gD) : Nat → Nat := D.1.1.2.2.1
abbrev dmn (D : gD) : Nat → Nat := D.1.1.2.2.2.1
abbrev dfr (D : gD) : Nat → Nat → Nat := D.1.1.2.2.2.2
abbrev dLn (D : gD) : Nat → Nat := D.1.2.2.1
abbrev dNm (D : gD) : Nat → Nat → Nat := D.1.2.2.2.1
abbrev dNc (D : gD) : Nat := D.1.2.2.2.2.1
abbrev dCn (D : gD) : Nat → Nat := D.1.2.2.2.2.2.1
abbrev dCl (D : gD) : Nat → Nat → Nat := D.1.2.2.2.2.2.2.1
abbrev dCo (D : gD) : Nat → Nat := D.1.2.2.2.2.2.2.2.1
abbrev dTk (D : gD) : Nat → Nat := D.1.2.2.2.2.2.2.2.2.1
abbrev dFl (D : gD) : Nat := D.1.2.2.2.2.2.2.2.2.2
abbrev dT (D : gD) : Nat → Bool := D.2.1
abbrev dK (D : gD) : Nat → Bool := D.2.2.1
abbrev dF (D : gD) : Bool := D.2.2.2
abbrev gmk (a b : Nat) (kd mn : Nat → Nat) (fr : Nat → Nat → Nat) (Ln : Nat → Nat) (Nm : Nat → Nat → Nat) (Nc : Nat) (Cn : Nat → Nat) (Cl : Nat → Nat → Nat) (Co Tk : Nat → Nat) (Fl : Nat) (T K : Nat → Bool) (F : Bool) : gD := (((a, b, kd, mn, fr), fun _ => false, Ln, Nm, Nc, Cn, Cl, Co, Tk, Fl), T, K, F)
def gd0 : gD := gmk 0 0 (fun _ => 0) (fun _ => 0) (fun _ _ => 0) (fun _ => 0) (fun _ _ => 0) 0 (fun _ => 0) (fun _ _ => 0) (fun _ => 0) (fun _ => 0) 0 (fun _ => false) (fun _ => false) false
abbrev gAddI (D : gD) (z : Nat) (nm : Nat → Nat) : gD := gmk (dI D + 1) (dL D + 1) (dkd D) (dmn D) (dfr D) (gu (dLn D) (dL D) z) (gu (dNm D) (dL D) nm) (dNc D) (dCn D) (dCl D) (gu (dCo D) (dI D) 0) (gu (dTk D) (dI D) 0) (dFl D) (dT D) (dK D) (dF D)
abbrev gNext (D : gD) (z : Nat) (nm : Nat → Nat) (k : Nat) : gD := gmk (dI D) (dL D) (gu (dkd D) (dL D) k) (gu (dmn D) (dL D) 0) (dfr D) (gu (dLn D) (dL D) z) (gu (dNm D) (dL D) nm) (dNc D) (dCn D) (dCl D) (dCo D) (dTk D) (dFl D) (dT D) (dK D) (dF D)
abbrev gFrom (D : gD) (l : Nat) : gD := gmk (dI D) (dL D) (dkd D) (gu (dmn D) (dL D) (dmn D (dL D) + 1)) (gu2 (dfr D) (dL D) (dmn D (dL D)) l) (dLn D) (dNm D) (dNc D) (dCn D) (dCl D) (dCo D) (dTk D) (dFl D) (dT D) (dK D) (dF D)
abbrev gDone (D : gD) : gD := gmk (dI D) (dL D + 1) (dkd D) (dmn D) (dfr D) (dLn D) (dNm D) (dNc D) (dCn D) (dCl D) (dCo D) (dTk D) (dFl D) (dT D) (dK D) (dF D)
abbrev gTold (D : gD) (l : Nat) : gD := gmk (dI D) (dL D) (dkd D) (dmn D) (dfr D) (dLn D) (dNm D) (dNc D) (dCn D) (dCl D) (dCo D) (dTk D) (dFl D) (gu (dT D) l true) (dK D) (dF D)
abbrev gCh0 (D : gD) : gD := gmk (dI D) (dL D) (dkd D) (dmn D) (dfr D) (dLn D) (dNm D) (dNc D + 1) (gu (dCn D) (dNc D) 0) (dCl D) (dCo D) (dTk D) (dFl D) (dT D) (dK D) (dF D)
abbrev gCell (D : gD) (i : Nat) : gD := gmk (dI D) (dL D) (dkd D) (dmn D) (dfr D) (dLn D) (dNm D) (dNc D) (gu (dCn D) (dNc D - 1) (dCn D (dNc D - 1) + 1)) (gu2 (dCl D) (dNc D - 1) (dCn D (dNc D - 1)) i) (gu (dCo D) i (dNc D)) (dTk D) (dFl D) (dT D) (dK D) (dF D)
abbrev gTake (D : gD) (i l : Nat) : gD := gmk (dI D) (dL D) (dkd D) (dmn D) (dfr D) (dLn D) (dNm D) (dNc D) (dCn D) (dCl D) (dCo D) (gu (dTk D) i (l + 1)) (dFl D) (dT D) (gu (dK D) l true) (dF D)
abbrev gFill (D : gD) (v : Nat) : gD := gmk (dI D) (dL D) (dkd D) (dmn D) (dfr D) (dLn D) (dNm D) (dNc D) (dCn D) (dCl D) (dCo D) (dTk D) v (dT D) (dK D) true
def gNok (z : Nat) (nm : Nat → Nat) : Prop := 1 ≤ z ∧ z ≤ 6 ∧ ∀ i, i < z → 1 ≤ nm i ∧ nm i ≤ 26
def gChn (n : Nat) (Co : Nat → Nat) (c m : Nat) (cl : Nat → Nat) : Prop := m ≤ 6 ∧ (∀ k, k < m → cl k < n ∧ Co (cl k) = c + 1) ∧ (∀ k j, k < m → j < m → cl k = cl j → k = j) ∧ (∀ i, i < n → Co i = c + 1 → ∃ k, k < m ∧ cl k = i) ∧ fb_ct (fun i => Co i == c + 1) n = m
def gOKd (D : gD) : Prop := zEok D.1.1 ∧ (∀ l, l < dL D → gNok (dLn D l) (dNm D l)) ∧ dNc D ≤ 3 ∧ (∀ c, c < dNc D → gChn (dI D) (dCo D) c (dCn D c) (dCl D c)) ∧ (∀ i, i < dI D → dCo D i ≤ dNc D ∧ dTk D i ≤ dL D) ∧ dFl D ≤ 2 ∧ ∀ l, (dT D l = true → l < dL D) ∧ (dK D l = true → l < dL D)
def gNE (D : gD) : Prop := ∀ c, c < dNc D → 1 ≤ dCn D c
/-- the gate under way -/
def gPd (D : gD) (k j : Nat) : Prop := dkd D (dL D) = k ∧ dmn D (dL D) = j ∧ (∀ i, i < j → dfr D (dL D) i < dL D) ∧ gNok (dLn D (dL D)) (dNm D (dL D))
theorem ok_0 : gOKd gd0 := ⟨⟨by decide, by decide, by decide, fun l h1 h2 => absurd (show l < 0 from h2) (Nat.not_lt_zero l)⟩, fun l h => absurd (show l < 0 from h) (Nat.not_lt_zero l), by decide, fun l h => absurd (show l < 0 from h) (Nat.not_lt_zero l), fun l h => absurd (show l < 0 from h) (Nat.not_lt_zero l), by decide, fun l => ⟨fun h => absurd (show false = true from h) (by decide), fun h => absurd (show false = true from h) (by decide)⟩⟩
theorem ok_AddI {D : gD} {z : Nat} {nm : Nat → Nat} (h : gOKd D) (h1 : dL D = dI D) (h2 : dI D < 6) (hz : gNok z nm) : gOKd (gAddI D z nm) := by
  obtain ⟨⟨e1, e2, e3, e4⟩, n2, n3, n4, n5, n6, n7⟩ := h
  refine ⟨⟨?_, ?_, ?_, fun l a b => ?_⟩, fun l hl => ?_, n3, fun c hc => ?_, fun i hi => ?_, n6, fun l => ⟨fun h => ?_, fun h => ?_⟩⟩
  · show dI D + 1 ≤ 6
    omega
  · show dI D + 1 ≤ dL D + 1
    omega
  · show dL D + 1 ≤ dI D + 1 + 16
    omega
  · have a' : dI D + 1 ≤ l := a
    have b' : l < dL D + 1 := b
    omega
  · have hl' : l < dL D + 1 := hl
    show gNok (gu (dLn D) (dL D) z l) (gu (dNm D) (dL D) nm l)
    by_cases e : l = dL D
    · subst e
      rw [gu_eq, gu_eq]
      exact hz
    · rw [gu_ne e, gu_ne e]
      exact n2 l (by omega)
  · obtain ⟨c1, c2, c3, c4, c5⟩ := n4 c hc
    show gChn (dI D + 1) (gu (dCo D) (dI D) 0) c (dCn D c) (dCl D c)
    refine ⟨c1, fun k hk => ?_, c3, fun i hi hco => ?_, ?_⟩
    · obtain ⟨k1, k2⟩ := c2 k hk
      rw [gu_ne (by omega)]
      exact ⟨by omega, k2⟩
    · by_cases e : i = dI D
      · subst e
        rw [gu_eq] at hco
        omega
      · rw [gu_ne e] at hco
        exact c4 i (by omega) hco
    · rw [fb_ct_succ, gu_eq, fb_ct_cong (q := fun i => dCo D i == c + 1) (fun k hk => by rw [gu_ne (by omega)]), c5]
      rw [if_neg (by rw [beq_iff_eq]; omega)]
      rfl
  · have hi' : i < dI D + 1 := hi
    show gu (dCo D) (dI D) 0 i ≤ dNc D ∧ gu (dTk D) (dI D) 0 i ≤ dL D + 1
    by_cases e : i = dI D
    · subst e
      rw [gu_eq, gu_eq]
      omega
    · rw [gu_ne e, gu_ne e]
      have := n5 i (by omega)
      omega
  · have := (n7 l).1 h
    show l < dL D + 1
    omega
  · have := (n7 l).2 h
    show l < dL D + 1
    omega
theorem ok_Next {D : gD} {z k : Nat} {nm : Nat → Nat} (h : gOKd D) (hz : gNok z nm) : gOKd (gNext D z nm k) ∧ gPd (gNext D z nm k) k 0 := by
  obtain ⟨⟨e1, e2, e3, e4⟩, n2, n3, n4, n5, n6, n7⟩ := h
  refine ⟨⟨⟨e1, e2, e3, fun l a b => ?_⟩, fun l hl => ?_, n3, n4, n5, n6, n7⟩, gu_eq, gu_eq, fun i hi => absurd hi (Nat.not_lt_zero i), ?_⟩
  · have b' : l < dL D := b
    show gu (dkd D) (dL D) k l ≤ 5 ∧ 1 ≤ gu (dmn D) (dL D) 0 l ∧ gu (dmn D) (dL D) 0 l ≤ 3 ∧ (gu (dkd D) (dL D) k l = 0 → gu (dmn D) (dL D) 0 l = 1) ∧ ∀ i, i < gu (dmn D) (dL D) 0 l → dfr D l i < l
    rw [gu_ne (by omega), gu_ne (by omega)]
    exact e4 l a b
  · have hl' : l < dL D := hl
    show gNok (gu (dLn D) (dL D) z l) (gu (dNm D) (dL D) nm l)
    rw [gu_ne (by omega), gu_ne (by omega)]
    exact n2 l hl
  · show gNok (gu (dLn D) (dL D) z (dL D)) (gu (dNm D) (dL D) nm (dL D))
    rw [gu_eq, gu_eq]
    exact hz
theorem ok_From {D : gD} {k j l : Nat} (h : gOKd D) (hp : gPd D k j) (hl : l < dL D) : gOKd (gFrom D l) ∧ gPd (gFrom D l) k (j + 1) := by
  obtain ⟨⟨e1, e2, e3, e4⟩, n2, n3, n4, n5, n6, n7⟩ := h
  obtain ⟨p1, p2, p3, p4⟩ := hp
  refine ⟨⟨⟨e1, e2, e3, fun q a b => ?_⟩, n2, n3, n4, n5, n6, n7⟩, p1, ?_, fun i hi => ?_, p4⟩
  · have b' : q < dL D := b
    show dkd D q ≤ 5 ∧ 1 ≤ gu (dmn D) (dL D) (dmn D (dL D) + 1) q ∧ gu (dmn D) (dL D) (dmn D (dL D) + 1) q ≤ 3 ∧ (dkd D q = 0 → gu (dmn D) (dL D) (dmn D (dL D) + 1) q = 1) ∧ ∀ i, i < gu (dmn D) (dL D) (dmn D (dL D) + 1) q → gu2 (dfr D) (dL D) (dmn D (dL D)) l q i < q
    rw [gu_ne (by omega)]
    obtain ⟨a1, a2, a3, a4, a5⟩ := e4 q a b
    exact ⟨a1, a2, a3, a4, fun i hi => by rw [gu2_ne (by omega)]; exact a5 i hi⟩
  · show gu (dmn D) (dL D) (dmn D (dL D) + 1) (dL D) = j + 1
    rw [gu_eq, p2]
  · show gu2 (dfr D) (dL D) (dmn D (dL D)) l (dL D) i < dL D
    rw [p2]
    by_cases e : i = j
    · subst e
      rw [gu2_eq]
      exact hl
    · rw [gu2_ne (by omega)]
      exact p3 i (by omega)
theorem ok_Done {D : gD} {k j : Nat} (h : gOKd D) (hp : gPd D k j) (hk : k ≤ 5) (h1 : 1 ≤ j) (h3 : j ≤ 3) (h0 : k = 0 → j = 1) (hr : dL D < dI D + 16) : gOKd (gDone D) := by
  obtain ⟨⟨e1, e2, e3, e4⟩, n2, n3, n4, n5, n6, n7⟩ := h
  obtain ⟨p1, p2, p3, p4⟩ := hp
  refine ⟨⟨e1, ?_, ?_, fun q a b => ?_⟩, fun l hl => ?_, n3, n4, fun i hi => ?_, n6, fun l => ⟨fun h => ?_, fun h => ?_⟩⟩
  · show dI D ≤ dL D + 1
    have : dI D ≤ dL D := e2
    omega
  · show dL D + 1 ≤ dI D + 16
    omega
  · have b' : q < dL D + 1 := b
    by_cases e : q = dL D
    · subst e
      show dkd D (dL D) ≤ 5 ∧ 1 ≤ dmn D (dL D) ∧ dmn D (dL D) ≤ 3 ∧ (dkd D (dL D) = 0 → dmn D (dL D) = 1) ∧ ∀ i, i < dmn D (dL D) → dfr D (dL D) i < dL D
      rw [p1, p2]
      exact ⟨hk, h1, h3, h0, p3⟩
    · exact e4 q a (show q < dL D by omega)
  · have hl' : l < dL D + 1 := hl
    by_cases e : l = dL D
    · subst e
      exact p4
    · exact n2 l (by omega)
  · obtain ⟨a, b⟩ := n5 i hi
    exact ⟨a, show dTk D i ≤ dL D + 1 by omega⟩
  · have := (n7 l).1 h
    show l < dL D + 1
    omega
  · have := (n7 l).2 h
    show l < dL D + 1
    omega
theorem ok_Told {D : gD} {l : Nat} (h : gOKd D) (hl : l < dL D) : gOKd (gTold D l) := by
  obtain ⟨n1, n2, n3, n4, n5, n6, n7⟩ := h
  refine ⟨n1, n2, n3, n4, n5, n6, fun q => ⟨fun h => ?_, (n7 q).2⟩⟩
  have h' : gu (dT D) l true q = true := h
  show q < dL D
  by_cases e : q = l
  · omega
  · rw [gu_ne e] at h'
    exact (n7 q).1 h'
theorem ok_Ch0 {D : gD} (h : gOKd D) (hc : dNc D < 3) : gOKd (gCh0 D) := by
  obtain ⟨n1, n2, n3, n4, n5, n6, n7⟩ := h
  refine ⟨n1, n2, ?_, fun c hc => ?_, fun i hi => ?_, n6, n7⟩
  · show dNc D + 1 ≤ 3
    omega
  · have hc' : c < dNc D + 1 := hc
    show gChn (dI D) (dCo D) c (gu (dCn D) (dNc D) 0 c) (dCl D c)
    by_cases e : c = dNc D
    · subst e
      rw [gu_eq]
      refine ⟨by omega, fun k hk => absurd hk (Nat.not_lt_zero k), fun k j hk => absurd hk (Nat.not_lt_zero k), fun i hi hco => ?_, ?_⟩
      · have := (n5 i hi).1
        omega
      · exact fb_ct_zero.mpr (fun k hk => by
          have := (n5 k hk).1
          rw [beq_eq_false_iff_ne]
          omega)
    · rw [gu_ne e]
      exact n4 c (by omega)
  · obtain ⟨a, b⟩ := n5 i hi
    exact ⟨show dCo D i ≤ dNc D + 1 by omega, b⟩
theorem ok_Cell {D : gD} {i : Nat} (h : gOKd D) (hc : 1 ≤ dNc D) (hi : i < dI D) (h0 : dCo D i = 0) : gOKd (gCell D i) ∧ dCn D (dNc D - 1) < 6 := by
  obtain ⟨n1, n2, n3, n4, n5, n6, n7⟩ := h
  have e1 : dI D ≤ 6 := n1.1
  have hct : ∀ c, c < dNc D → fb_ct (fun j => gu (dCo D) i (dNc D) j == c + 1) (dI D) = fb_ct (fun j => dCo D j == c + 1) (dI D) + (if c = dNc D - 1 then 1 else 0) := by
    intro c hc
    have := fb_ct_upd (fun j => dCo D j == c + 1) (dNc D == c + 1) hi
    rw [show (dCo D i == c + 1) = false from by rw [h0, beq_eq_false_iff_ne]; omega, if_neg (by decide), Nat.add_zero] at this
    rw [fb_ct_cong (q := fun k => if k = i then (dNc D == c + 1) else (dCo D k == c + 1)) (fun k hk => by
      unfold gu
      split <;> rfl), this]
    congr 1
    by_cases e : c = dNc D - 1
    · rw [if_pos e, if_pos (by rw [beq_iff_eq]; omega)]
    · rw [if_neg e, if_neg (by rw [beq_iff_eq]; omega)]
  have hlt : dCn D (dNc D - 1) < 6 := by
    have a := hct (dNc D - 1) (by omega)
    rw [if_pos rfl, (n4 (dNc D - 1) (by omega)).2.2.2.2] at a
    have b := fb_ct_le (fun j => gu (dCo D) i (dNc D) j == dNc D - 1 + 1) (dI D)
    omega
  refine ⟨⟨n1, n2, n3, fun c hc => ?_, fun j hj => ?_, n6, n7⟩, hlt⟩
  · have hc' : c < dNc D := hc
    obtain ⟨c1, c2, c3, c4, c5⟩ := n4 c hc'
    have hk0 : ∀ k, k < dCn D c → dCl D c k ≠ i := fun k hk e => by
      have := (c2 k hk).2
      rw [e, h0] at this
      omega
    show gChn (dI D) (gu (dCo D) i (dNc D)) c (gu (dCn D) (dNc D - 1) (dCn D (dNc D - 1) + 1) c) (gu2 (dCl D) (dNc D - 1) (dCn D (dNc D - 1)) i c)
    by_cases e : c = dNc D - 1
    · subst e
      have hold : ∀ k, k < dCn D (dNc D - 1) → gu2 (dCl D) (dNc D - 1) (dCn D (dNc D - 1)) i (dNc D - 1) k = dCl D (dNc D - 1) k := fun k hk => gu2_ne (by omega)
      rw [gu_eq]
      refine ⟨by omega, fun k hk => ?_, fun k j hk hj ee => ?_, fun q hq hco => ?_, ?_⟩
      · by_cases ek : k = dCn D (dNc D - 1)
        · subst ek
          rw [gu2_eq, gu_eq]
          exact ⟨hi, by omega⟩
        · rw [hold k (by omega), gu_ne (hk0 k (by omega))]
          exact c2 k (by omega)
      · by_cases ek : k = dCn D (dNc D - 1)
        · by_cases ej : j = dCn D (dNc D - 1)
          · omega
          · rw [ek, gu2_eq, hold j (by omega)] at ee
            exact absurd ee.symm (hk0 j (by omega))
        · by_cases ej : j = dCn D (dNc D - 1)
          · rw [ej, gu2_eq, hold k (by omega)] at ee
            exact absurd ee (hk0 k (by omega))
          · rw [hold k (by omega), hold j (by omega)] at ee
            exact c3 k j (by omega) (by omega) ee
      · by_cases eq : q = i
        · subst eq
          exact ⟨_, Nat.lt_succ_self _, gu2_eq⟩
        · rw [gu_ne eq] at hco
          obtain ⟨k, k1, k2⟩ := c4 q hq hco
          exact ⟨k, by omega, by rw [hold k k1]; exact k2⟩
      · rw [hct _ hc', if_pos rfl, c5]
    · have hold : ∀ k, gu2 (dCl D) (dNc D - 1) (dCn D (dNc D - 1)) i c k = dCl D c k := fun k => gu2_ne (by omega)
      rw [gu_ne e]
      refine ⟨c1, fun k hk => ?_, fun k j hk hj ee => ?_, fun q hq hco => ?_, ?_⟩
      · rw [hold, gu_ne (hk0 k hk)]
        exact c2 k hk
      · rw [hold, hold] at ee
        exact c3 k j hk hj ee
      · by_cases eq : q = i
        · subst eq
          rw [gu_eq] at hco
          omega
        · rw [gu_ne eq] at hco
          obtain ⟨k, k1, k2⟩ := c4 q hq hco
          exact ⟨k, k1, by rw [hold]; exact k2⟩
      · rw [hct _ hc', if_neg e, c5, Nat.add_zero]
  · show gu (dCo D) i (dNc D) j ≤ dNc D ∧ dTk D j ≤ dL D
    obtain ⟨a, b⟩ := n5 j hj
    by_cases e : j = i
    · subst e
      rw [gu_eq]
      exact ⟨Nat.le_refl _, b⟩
    · rw [gu_ne e]
      exact ⟨a, b⟩
theorem ok_Take {D : gD} {i l : Nat} (h : gOKd D) (hl : l < dL D) : gOKd (gTake D i l) := by
  obtain ⟨n1, n2, n3, n4, n5, n6, n7⟩ := h
  refine ⟨n1, n2, n3, n4, fun j hj => ?_, n6, fun q => ⟨(n7 q).1, fun h => ?_⟩⟩
  · show dCo D j ≤ dNc D ∧ gu (dTk D) i (l + 1) j ≤ dL D
    obtain ⟨a, b⟩ := n5 j hj
    by_cases e : j = i
    · subst e
      rw [gu_eq]
      exact ⟨a, by omega⟩
    · rw [gu_ne e]
      exact ⟨a, b⟩
  · have h' : gu (dK D) l true q = true := h
    show q < dL D
    by_cases e : q = l
    · omega
    · rw [gu_ne e] at h'
      exact (n7 q).2 h'
theorem ok_Fill {D : gD} {v : Nat} (h : gOKd D) (hv : v ≤ 2) : gOKd (gFill D v) := by
  obtain ⟨n1, n2, n3, n4, n5, n6, n7⟩ := h
  exact ⟨n1, n2, n3, n4, n5, hv, n7⟩
/-- the net that is told -/
abbrev gFin (D : gD) : yN := (D.1.1, fun l => dT D l || dK D l, D.1.2.2)
theorem ok_Fin {D : gD} (h : gOKd D) (hc : gNE D) : yOKn (gFin D) := by
  obtain ⟨n1, n2, n3, n4, n5, n6, n7⟩ := h
  refine ⟨n1, n2, n3, fun c hcc => ?_, n5, n6⟩
  obtain ⟨c1, c2, c3, c4, c5⟩ := n4 c hcc
  exact ⟨hc c hcc, c1, c2, c3, c4, c5⟩
/-! the parser -/
def gfd (X : gX) (D : gD) (st : Nat) : Nat := yfd (gsame (dLn D) (dNm D) X st) (dL D)
def gnC (X : gX) (D : gD) (st : Nat) (room : Bool) : Nat := if gcc X st = 5 then (if gsz X st ≤ 6 then (if room = true then (if gfd X D st < dL D then 4 else 0) else 2) else 2) else 1
def glC (X : gX) (D : gD) (st : Nat) : Nat := if gcc X st = 5 then (if gsz X st ≤ 6 then (if gfd X D st < dL D then 0 else 3) else 2) else 1
def giC (X : gX) (D : gD) (st : Nat) : Nat := if glC X D st = 0 then (if gfd X D st < dI D then 0 else 3) else glC X D st
/-- a fault and its place, or a draft and the place of the mark that ends the clause -/
abbrev gR : Type := (Nat × Nat) ⊕ (gD × Nat)
def glp (X : gX) (C : gD → Nat → Nat) (U : gD → Nat → gD) : Nat → gD → Nat → Bool → gR
  | 0, _, st, _ => .inl (1, st)
  | f + 1, D, st, b => if b = true ∧ gcc X st = 3 then .inr (D, st) else if C D st = 0 then glp X C U f (U D st) (gnt X st) true else .inl (C D st, st)
def gCin (X : gX) (D : gD) (st : Nat) : Nat := gnC X D st (decide (dI D < 6))
def gUin (X : gX) (D : gD) (st : Nat) : gD := gAddI D (gsz X st) (gnm X st)
def gCsee (X : gX) (D : gD) (st : Nat) : Nat := if glC X D st = 0 then (if dT D (gfd X D st) = true then 5 else 0) else glC X D st
def gUsee (X : gX) (D : gD) (st : Nat) : gD := gTold D (gfd X D st)
def gCcha (X : gX) (D : gD) (st : Nat) : Nat := if giC X D st = 0 then (if dCo D (gfd X D st) = 0 then 0 else 5) else giC X D st
def gUcha (X : gX) (D : gD) (st : Nat) : gD := gCell D (gfd X D st)
def gfrm (X : gX) (least most : Nat) : Nat → Nat → gD → Nat → gR
  | 0, _, _, st => .inl (1, st)
  | f + 1, i, D, st => if least ≤ i ∧ gcc X st = 3 then .inr (gDone D, st) else if i = most then .inl (1, st) else if glC X D st = 0 then gfrm X least most f (i + 1) (gFrom D (gfd X D st)) (gnt X st) else .inl (glC X D st, st)
def gGate (X : gX) (D : gD) (st : Nat) : gR :=
  if gnC X D st (decide (dL D < dI D + 16)) = 0 then (if gcc X (gnt X st) = 4 then (if 11 ≤ gcc X (gnt X (gnt X st)) then gfrm X (if gcc X (gnt X (gnt X st)) = 11 then 1 else 2) (if gcc X (gnt X (gnt X st)) = 11 then 1 else 3) 4 0 (gNext D (gsz X st) (gnm X st) (gcc X (gnt X (gnt X st)) - 11)) (gnt X (gnt X (gnt X st))) else .inl (1, gnt X (gnt X st))) else .inl (1, gnt X st)) else .inl (gnC X D st (decide (dL D < dI D + 16)), st)
def gEnd (X : gX) (D : gD) (st : Nat) : gR := if gcc X st = 3 then .inr (D, st) else .inl (1, st)
def gTakeC (X : gX) (D : gD) (s1 : Nat) : gR :=
  if giC X D s1 = 0 then (if dCo D (gfd X D s1) = 0 then .inl (3, s1) else if dTk D (gfd X D s1) = 0 then (if glC X D (gnt X s1) = 0 then gEnd X (gTake D (gfd X D s1) (gfd X D (gnt X s1))) (gnt X (gnt X s1)) else .inl (glC X D (gnt X s1), gnt X s1)) else .inl (5, s1)) else .inl (giC X D s1, s1)
def gFillC (X : gX) (D : gD) (st : Nat) : gR :=
  if dF D = true then .inl (5, st) else if gcc X (gnt X st) = 2 then (if gsz X (gnt X st) = 1 ∧ X.2 (gnt X st) - 48 ≤ 2 then gEnd X (gFill D (X.2 (gnt X st) - 48)) (gnt X (gnt X st)) else .inl (2, gnt X st)) else .inl (1, gnt X st)
def gClause (X : gX) (D : gD) (st : Nat) : gR :=
  if gcc X st = 5 then gGate X D st else if gcc X st = 6 then (if dI D < dL D then .inl (1, st) else glp X (gCin X) (gUin X) 900 D (gnt X st) false) else if gcc X st = 7 then glp X (gCsee X) (gUsee X) 900 D (gnt X st) false else if gcc X st = 8 then (if dNc D = 3 then .inl (2, st) else glp X (gCcha X) (gUcha X) 900 (gCh0 D) (gnt X st) false) else if gcc X st = 9 then gTakeC X D (gnt X st) else if gcc X st = 10 then gFillC X D st else .inl (1, st)
def gRead (X : gX) : Nat → gD → Nat → (Nat × Nat) ⊕ gD
  | 0, _, st => .inl (1, st)
  | f + 1, D, st => if gcc X st = 0 then .inr D else Sum.elim (fun e => .inl e) (fun d => gRead X f d.1 (gnt X d.2)) (gClause X D st)
