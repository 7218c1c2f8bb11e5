/-! ===== what the lines of a net are ===== -/
/-- how many inputs, lines; kinds, of how many, of which -/
abbrev zEv : Type := Nat × Nat × (Nat → Nat) × (Nat → Nat) × (Nat → Nat → Nat)
def zEok (e : zEv) : Prop := e.1 ≤ 6 ∧ e.1 ≤ e.2.1 ∧ e.2.1 ≤ e.1 + 16 ∧ ∀ l, e.1 ≤ l → l < e.2.1 → e.2.2.1 l ≤ 5 ∧ 1 ≤ e.2.2.2.1 l ∧ e.2.2.2.1 l ≤ 3 ∧ (e.2.2.1 l = 0 → e.2.2.2.1 l = 1) ∧ ∀ i, i < e.2.2.2.1 l → e.2.2.2.2 l i < l
/-- the reference's net is e -/
def zRE (h : zH) (e : zEv) : Prop := h.1 336 0 = zJ e.1 ∧ h.1 336 1 = zJ (e.2.1 - e.1) ∧ ∀ l, e.1 ≤ l → l < e.2.1 → h.1 337 l = zJ (e.2.2.1 l) ∧ h.1 338 l = zJ (e.2.2.2.1 l) ∧ ∀ i, i < e.2.2.2.1 l → h.1 339 (3 * l + i) = zJ (e.2.2.2.2 l i)
/-- the class's net at o is e -/
def zCE (h : zH) (o : Nat) (e : zEv) : Prop := h.1 o 0 = zJ e.1 ∧ h.1 o 1 = zJ (e.2.1 - e.1) ∧ ∀ l, e.1 ≤ l → l < e.2.1 → h.1 (o + 3) l = zJ (e.2.2.1 l) ∧ h.1 (o + 4) l = zJ (e.2.2.2.1 l) ∧ ∀ i, i < e.2.2.2.1 l → h.1 ((o + 5) + (1 + 1 * l)) i = zJ (e.2.2.2.2 l i)
theorem zRE.fr {L : List (Nat × Nat × Nat × Nat)} {h h' : zH} {e : zEv} (hr : zRE h e) (q : zfm L h h') (hd : ∀ o k, 336 ≤ o → o ≤ 339 → zin L o k = false) : zRE h' e := by
  unfold zRE
  rw [q.ir (fun k => hd 336 k (by omega) (by omega)), q.ir (fun k => hd 337 k (by omega) (by omega)), q.ir (fun k => hd 338 k (by omega) (by omega)), q.ir (fun k => hd 339 k (by omega) (by omega))]
  exact hr
theorem zCE.fr {L : List (Nat × Nat × Nat × Nat)} {h h' : zH} {o : Nat} {e : zEv} (hr : zCE h o e) (he : zEok e) (q : zfm L h h') (hd : ∀ a k, o ≤ a → a ≤ o + 27 → zin L a k = false) : zCE h' o e := by
  obtain ⟨h1, h2, h3⟩ := hr
  obtain ⟨e1, e2, e3, e4⟩ := he
  refine ⟨(q.i (hd _ _ (by omega) (by omega))).trans h1, (q.i (hd _ _ (by omega) (by omega))).trans h2, fun l hl hl2 => ?_⟩
  obtain ⟨h4, h5, h6⟩ := h3 l hl hl2
  exact ⟨(q.i (hd _ _ (by omega) (by omega))).trans h4, (q.i (hd _ _ (by omega) (by omega))).trans h5, fun i hi => (q.i (hd _ _ (by omega) (by omega))).trans (h6 i hi)⟩
/-- a gate -/
def zjr (k m : Nat) (v : Nat → Nat) : Nat :=
  if k = 0 then v 0 else
  if k = 3 then (if m - fb_ct (fun i => v i == 0) m - fb_ct (fun i => v i == 1) m = 0 then fb_ct (fun i => v i == 1) m % 2 else 2) else
  if k = 1 ∨ k = 4 then (if fb_ct (fun i => v i == 0) m = 0 then (if m - fb_ct (fun i => v i == 0) m - fb_ct (fun i => v i == 1) m = 0 then 1 else 2) else 0) else
  (if fb_ct (fun i => v i == 1) m = 0 then (if m - fb_ct (fun i => v i == 0) m - fb_ct (fun i => v i == 1) m = 0 then 0 else 2) else 1)
def zjt (k r : Nat) : Nat := if (k = 0 ∨ 3 < k) ∧ r ≠ 2 then 1 - r else r
def zjn (k m : Nat) (v : Nat → Nat) : Nat := zjt k (zjr k m v)
theorem zjn_congr {k m : Nat} {v w : Nat → Nat} (hm : 1 ≤ m) (h : ∀ i, i < m → v i = w i) : zjn k m v = zjn k m w := by
  have e0 : fb_ct (fun i => v i == 0) m = fb_ct (fun i => w i == 0) m := fb_ct_cong fun i hi => by simp only [h i hi]
  have e1 : fb_ct (fun i => v i == 1) m = fb_ct (fun i => w i == 1) m := fb_ct_cong fun i hi => by simp only [h i hi]
  unfold zjn zjr
  rw [e0, e1, h 0 (by omega)]
theorem zjn_le {k m : Nat} {v : Nat → Nat} (h : v 0 ≤ 2) : zjn k m v ≤ 2 := by
  unfold zjn zjt zjr
  repeat' split
  all_goals omega
/-- lines, one by one; a fault f is told by f + 1, none by 0 -/
def zpv (e : zEv) (inp : Nat → Nat) (f : Nat) : Nat → Nat → Nat
  | 0, _ => 0
  | l + 1, j => if j = l then (if f ≠ 0 ∧ l = (f - 1) / 2 then (f - 1) % 2 else if l < e.1 then inp l else zjn (e.2.2.1 l) (e.2.2.2.1 l) (fun i => zpv e inp f l (e.2.2.2.2 l i))) else zpv e inp f l j
def zvl (e : zEv) (inp : Nat → Nat) (f l : Nat) : Nat := zpv e inp f (l + 1) l
theorem zpv_lt {e : zEv} {inp : Nat → Nat} {f j : Nat} : ∀ {m : Nat}, j < m → zpv e inp f m j = zvl e inp f j
  | 0, h => by omega
  | m + 1, h => by
    by_cases hj : j = m
    · subst hj
      rfl
    · show (if j = m then _ else zpv e inp f m j) = _
      rw [if_neg hj, zpv_lt (by omega)]
theorem zvl_eq {e : zEv} {inp : Nat → Nat} {f l : Nat} (he : zEok e) (hl : l < e.2.1) : zvl e inp f l = if f ≠ 0 ∧ l = (f - 1) / 2 then (f - 1) % 2 else if l < e.1 then inp l else zjn (e.2.2.1 l) (e.2.2.2.1 l) (fun i => zvl e inp f (e.2.2.2.2 l i)) := by
  show (if l = l then _ else _) = _
  rw [if_pos rfl]
  by_cases h1 : l < e.1
  · rw [if_pos h1, if_pos h1]
  · rw [if_neg h1, if_neg h1]
    obtain ⟨-, -, -, e4⟩ := he
    obtain ⟨k1, k2, k3, k4, k5⟩ := e4 l (by omega) hl
    rw [zjn_congr k2 (fun i hi => zpv_lt (k5 i hi))]
theorem zvl_le {e : zEv} {inp : Nat → Nat} {f : Nat} (he : zEok e) (hi : ∀ i, i < e.1 → inp i ≤ 2) : ∀ (n l : Nat), l < n → l < e.2.1 → zvl e inp f l ≤ 2
  | 0, l, h, _ => by omega
  | n + 1, l, h, hl => by
    rw [zvl_eq he hl]
    split
    · omega
    · split
      · exact hi l (by omega)
      · obtain ⟨-, -, -, e4⟩ := id he
        obtain ⟨k1, k2, k3, k4, k5⟩ := e4 l (by omega) hl
        have := k5 0 (by omega)
        exact zjn_le (zvl_le he hi n _ (by omega) (by omega))
theorem zvl_inp {e : zEv} {inp inp' : Nat → Nat} {f : Nat} (he : zEok e) (hi : ∀ i, i < e.1 → inp i = inp' i) : ∀ (n l : Nat), l < n → l < e.2.1 → zvl e inp f l = zvl e inp' f l
  | 0, l, h, _ => by omega
  | n + 1, l, h, hl => by
    rw [zvl_eq he hl, zvl_eq he hl]
    obtain ⟨e1, e2, e3, e4⟩ := id he
    by_cases h1 : l < e.1
    · rw [if_pos h1, if_pos h1, hi l h1]
    · rw [if_neg h1, if_neg h1]
      obtain ⟨k1, k2, k3, k4, k5⟩ := e4 l (by omega) hl
      rw [zjn_congr k2 (fun i hj => zvl_inp he hi n _ (by have := k5 i hj; omega) (by have := k5 i hj; omega))]
