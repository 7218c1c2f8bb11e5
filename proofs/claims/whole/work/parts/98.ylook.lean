/-! ===== look ===== -/
theorem zex_sh (u : Nat → Bool) : ∀ n, zex u (n + 1) = (u 0 || zex (fun k => u (k + 1)) n)
  | 0 => by rw [zex_s]; show (false || u 0) = (u 0 || false); cases u 0 <;> rfl
  | n + 1 => by rw [zex_s, zex_sh u n, zex_s (fun k => u (k + 1)) n, Bool.or_assoc]
theorem zin_n2 {o k a b c d a' b' c' d' : Nat} (h : o < a ∨ b < o ∨ k < c ∨ d < k) (h' : o < a' ∨ b' < o ∨ k < c' ∨ d' < k) : zin [(a, b, c, d), (a', b', c', d')] o k = false := by
  have h1 := zin_n1 h
  have h2 := zin_n1 h'
  unfold zin at h1 h2 ⊢
  simp only [List.any_cons, List.any_nil, Bool.or_false] at h1 h2 ⊢
  rw [h1, h2]
  rfl
/-- the first of its kind -/
def gnw (p : Nat → Bool) (E : Nat → Nat → Bool) (k : Nat) : Bool := p k && !zex (fun j => p j && E j k) k
theorem gnw_p {p : Nat → Bool} {E : Nat → Nat → Bool} {k : Nat} (h : gnw p E k = true) : p k = true := by
  unfold gnw at h
  rw [Bool.and_eq_true] at h
  exact h.1
def gnth (q : Nat → Bool) : Nat → Nat → Nat
  | 0, _ => 0
  | m + 1, i => if i < fb_ct q m then gnth q m i else m
theorem gnth_ok {q : Nat → Bool} {i : Nat} : ∀ {m : Nat}, i < fb_ct q m → gnth q m i < m ∧ q (gnth q m i) = true ∧ fb_ct q (gnth q m i) = i
  | 0, h => absurd h (Nat.not_lt_zero i)
  | m + 1, h => by
    unfold gnth
    by_cases hm : i < fb_ct q m
    · obtain ⟨a, b, c⟩ := gnth_ok hm
      rw [if_pos hm]
      exact ⟨by omega, b, c⟩
    · rw [if_neg hm]
      rw [fb_ct_succ] at h
      cases hp : q m
      · rw [hp, if_neg (by decide)] at h
        omega
      · rw [hp, if_pos rfl] at h
        exact ⟨by omega, rfl, by omega⟩
theorem gnth_at {q : Nat → Bool} {m k : Nat} (hk : k < m) (hq : q k = true) : gnth q m (fb_ct q k) = k := by
  have h1 := fb_ct_mono q (show k + 1 ≤ m by omega)
  rw [fb_ct_succ, hq, if_pos rfl] at h1
  obtain ⟨a, b, c⟩ := gnth_ok (q := q) (m := m) (i := fb_ct q k) (by omega)
  exact fb_ct_kth_one b hq c
theorem gnw_eq {p : Nat → Bool} {E : Nat → Nat → Bool} (hs : ∀ j k, E j k = E k j) (ht : ∀ i j k, E i j = true → E j k = true → E i k = true) : ∀ m, fb_ct (gnw p E) (m + 1) + (if (p 0 && zex (fun j => p (j + 1) && E (j + 1) 0) m) = true then 1 else 0) = fb_ct (gnw (fun k => p (k + 1)) (fun j k => E (j + 1) (k + 1))) m + (if p 0 = true then 1 else 0)
  | 0 => by
    have e : gnw p E 0 = p 0 := by
      unfold gnw
      show (p 0 && !false) = p 0
      cases p 0 <;> rfl
    rw [fb_ct_succ, e]
    show 0 + _ + (if (p 0 && false) = true then 1 else 0) = 0 + _
    rw [Bool.and_false, if_neg Bool.false_ne_true, Nat.add_zero]
  | m + 1 => by
    have ih := gnw_eq hs ht m (p := p) (E := E)
    rw [fb_ct_succ, fb_ct_succ (gnw (fun k => p (k + 1)) (fun j k => E (j + 1) (k + 1)))]
    rw [zex_s]
    have e1 : gnw p E (m + 1) = (p (m + 1) && !((p 0 && E 0 (m + 1)) || zex (fun j => p (j + 1) && E (j + 1) (m + 1)) m)) := by
      unfold gnw
      rw [zex_sh]
    have e2 : gnw (fun k => p (k + 1)) (fun j k => E (j + 1) (k + 1)) m = (p (m + 1) && !zex (fun j => p (j + 1) && E (j + 1) (m + 1)) m) := rfl
    rw [e1, e2, hs 0 (m + 1)]
    cases h0 : p 0
    · rw [h0] at ih
      simp only [Bool.false_and, Bool.false_or] at ih ⊢
      omega
    · rw [h0] at ih
      cases h1 : p (m + 1)
      · simp only [Bool.false_and, Bool.or_false] at ih ⊢
        simpa using ih
      · cases h2 : E (m + 1) 0
        · simp only [Bool.true_and, Bool.or_false, Bool.false_or] at ih ⊢
          omega
        · have e3 : zex (fun j => p (j + 1) && E (j + 1) (m + 1)) m = zex (fun j => p (j + 1) && E (j + 1) 0) m := by
            apply zex_cong
            intro j hj
            have : E (j + 1) (m + 1) = E (j + 1) 0 := by
              cases h3 : E (j + 1) (m + 1)
              · cases h4 : E (j + 1) 0
                · rfl
                · rw [ht _ _ _ h4 ((hs _ _).trans h2)] at h3
                  cases h3
              · exact (ht _ _ _ h3 h2).symm
            rw [this]
          rw [e3]
          cases h5 : zex (fun j => p (j + 1) && E (j + 1) 0) m
          · rw [h5] at ih
            simp at ih ⊢
            omega
          · rw [h5] at ih
            simp at ih ⊢
            omega
/-- the code of the i-th that fits, the sound one last -/
def gcd_ (p : Nat → Bool) (m i : Nat) : Nat := if i < fb_ct (fun k => p (k + 1)) m then gnth (fun k => p (k + 1)) m i + 1 else 0
def gne (p : Nat → Bool) (E : Nat → Nat → Bool) (m i : Nat) : Bool := !zex (fun j => E (gcd_ p m j) (gcd_ p m i)) i
theorem gidx {p : Nat → Bool} {E : Nat → Nat → Bool} {m : Nat} : ∀ {k : Nat}, k ≤ m → fb_ct (gne p E m) (fb_ct (fun k => p (k + 1)) k) = fb_ct (gnw (fun k => p (k + 1)) (fun j k => E (j + 1) (k + 1))) k
  | 0, _ => rfl
  | k + 1, hk => by
    have ih := gidx (p := p) (E := E) (m := m) (k := k) (by omega)
    rw [fb_ct_succ (gnw _ _), ← ih]
    have e2 : gnw (fun k => p (k + 1)) (fun j k => E (j + 1) (k + 1)) k = (p (k + 1) && !zex (fun j => p (j + 1) && E (j + 1) (k + 1)) k) := rfl
    cases hp : p (k + 1)
    · rw [e2, hp, fb_ct_succ, hp]
      simp
    · rw [e2, hp, fb_ct_succ, hp, if_pos rfl, fb_ct_succ]
      have hlt : ∀ j, j ≤ k → p (j + 1) = true → fb_ct (fun k => p (k + 1)) j < fb_ct (fun k => p (k + 1)) m := by
        intro j hj hq
        have h1 := fb_ct_mono (fun k => p (k + 1)) (show j + 1 ≤ m by omega)
        rw [fb_ct_succ, hq, if_pos rfl] at h1
        omega
      have ec : ∀ j, j ≤ k → p (j + 1) = true → gcd_ p m (fb_ct (fun k => p (k + 1)) j) = j + 1 := by
        intro j hj hq
        unfold gcd_
        rw [if_pos (hlt j hj hq), gnth_at (q := fun k => p (k + 1)) (by omega) hq]
      have e3 : gne p E m (fb_ct (fun k => p (k + 1)) k) = !zex (fun j => p (j + 1) && E (j + 1) (k + 1)) k := by
        unfold gne
        rw [ec k (Nat.le_refl _) hp]
        congr 1
        rw [Bool.eq_iff_iff, zex_iff, zex_iff]
        constructor
        · rintro ⟨i, hi, he⟩
          obtain ⟨j, j1, j2, j3⟩ := fb_ct_kth hi
          subst j3
          rw [ec j (by omega) j2] at he
          exact ⟨j, j1, by rw [he]; simpa using j2⟩
        · rintro ⟨j, hj, he⟩
          rw [Bool.and_eq_true] at he
          have h1 := fb_ct_mono (fun k => p (k + 1)) (show j + 1 ≤ k by omega)
          rw [fb_ct_succ, he.1, if_pos rfl] at h1
          exact ⟨_, h1, by rw [ec j (by omega) he.1]; exact he.2⟩
      rw [e3]
      simp
def gcn (p : Nat → Bool) (m : Nat) : Nat := fb_ct (fun k => p (k + 1)) m + (if p 0 = true then 1 else 0)
theorem gidx_eq {p : Nat → Bool} {E : Nat → Nat → Bool} {m : Nat} (hs : ∀ j k, E j k = E k j) (ht : ∀ i j k, E i j = true → E j k = true → E i k = true) : fb_ct (gne p E m) (gcn p m) = fb_ct (gnw p E) (m + 1) := by
  have h1 := gnw_eq (p := p) hs ht m
  have h2 := gidx (p := p) (E := E) (Nat.le_refl m)
  unfold gcn
  cases h0 : p 0
  · rw [h0] at h1
    simp at h1
    rw [if_neg (by decide), Nat.add_zero, h2, h1]
  · rw [h0] at h1
    rw [if_pos rfl, fb_ct_succ, h2]
    have e : gne p E m (fb_ct (fun k => p (k + 1)) m) = !zex (fun j => p (j + 1) && E (j + 1) 0) m := by
      unfold gne
      congr 1
      have e0 : gcd_ p m (fb_ct (fun k => p (k + 1)) m) = 0 := by
        unfold gcd_
        rw [if_neg (Nat.lt_irrefl _)]
      rw [e0, Bool.eq_iff_iff, zex_iff, zex_iff]
      constructor
      · rintro ⟨i, hi, he⟩
        obtain ⟨j, j1, j2, j3⟩ := fb_ct_kth hi
        subst j3
        unfold gcd_ at he
        rw [if_pos hi, gnth_at (q := fun k => p (k + 1)) j1 j2] at he
        exact ⟨j, j1, by rw [he]; simpa using j2⟩
      · rintro ⟨j, hj, he⟩
        rw [Bool.and_eq_true] at he
        have h1 := fb_ct_mono (fun k => p (k + 1)) (show j + 1 ≤ m by omega)
        rw [fb_ct_succ, he.1, if_pos rfl] at h1
        refine ⟨_, h1, ?_⟩
        unfold gcd_
        rw [if_pos (by omega), gnth_at (q := fun k => p (k + 1)) hj he.1]
        exact he.2
    rw [e]
    cases h3 : zex (fun j => p (j + 1) && E (j + 1) 0) m
    · rw [h3] at h1
      simp at h1 ⊢
      omega
    · rw [h3] at h1
      simp at h1 ⊢
      omega
theorem gfirst {p : Nat → Bool} {E : Nat → Nat → Bool} (hr : ∀ j, E j j = true) (ht : ∀ i j k, E i j = true → E j k = true → E i k = true) (k : Nat) (hp : p k = true) : ∃ j, j ≤ k ∧ gnw p E j = true ∧ E j k = true := by
  induction k using Nat.strongRecOn with
  | ind k ih =>
    cases h : zex (fun j => p j && E j k) k
    · exact ⟨k, Nat.le_refl _, by unfold gnw; rw [hp, h]; rfl, hr k⟩
    · obtain ⟨j, j1, j2⟩ := zex_iff.mp h
      rw [Bool.and_eq_true] at j2
      obtain ⟨i, i1, i2, i3⟩ := ih j j1 j2.1
      exact ⟨i, by omega, i2, ht _ _ _ i3 j2.2⟩
/-- alike at a row -/
def gag (N : yN) (r j k : Nat) : Bool := !ydf (yE N) (ySb N) r j k
theorem gag_no {N : yN} {r j k : Nat} : gag N r j k = true ↔ ∀ l, l < yLs N → ySb N l = true → zvl (yE N) (zrw r) j l = zvl (yE N) (zrw r) k l := by
  unfold gag ydf
  rw [Bool.not_eq_true', zex_no]
  constructor
  · intro h l hl hs
    have := h l hl
    rw [hs] at this
    simpa using this
  · intro h l hl
    cases hs : ySb N l
    · rfl
    · rw [h l hl hs]
      simp
theorem gag_r {N : yN} {r : Nat} : ∀ j, gag N r j j = true := fun j => gag_no.mpr fun _ _ _ => rfl
theorem gag_s {N : yN} {r : Nat} : ∀ j k, gag N r j k = gag N r k j := fun j k => by
  rw [Bool.eq_iff_iff, gag_no, gag_no]
  exact ⟨fun h l a b => (h l a b).symm, fun h l a b => (h l a b).symm⟩
theorem gag_t {N : yN} {r : Nat} : ∀ i j k, gag N r i j = true → gag N r j k = true → gag N r i k = true := fun i j k h1 h2 => gag_no.mpr fun l a b => (gag_no.mp h1 l a b).trans (gag_no.mp h2 l a b)
/-- how many answers a row sets apart -/
def gdn (N : yN) (t : yT) (r : Nat) : Nat := fb_ct (gnw (gso N t) (gag N r)) (2 * yLs N + 1)
def gbest (d : Nat → Nat) : Nat → Int32 × Nat
  | 0 => (-1, 0)
  | n + 1 => if (gbest d n).2 < d n then (zJ n, d n) else gbest d n
theorem gbest_le {d : Nat → Nat} {M : Nat} (h : ∀ k, d k ≤ M) : ∀ n, (gbest d n).2 ≤ M
  | 0 => Nat.zero_le _
  | n + 1 => by
    unfold gbest
    split
    · exact h n
    · exact gbest_le h n
theorem gdn_le {N : yN} {t : yT} (r : Nat) : gdn N t r ≤ 2 * yLs N + 1 := fb_ct_le _ _
theorem gcd_le {p : Nat → Bool} {m i : Nat} : gcd_ p m i ≤ m := by
  unfold gcd_
  by_cases h : i < fb_ct (fun k => p (k + 1)) m
  · rw [if_pos h]
    have := (gnth_ok (q := fun k => p (k + 1)) h).1
    omega
  · rw [if_neg h]
    omega
theorem gcn_le {p : Nat → Bool} {m : Nat} : gcn p m ≤ m + 1 := by
  have := fb_ct_le (fun k => p (k + 1)) m
  unfold gcn
  split <;> omega
theorem gga_at {h : zH} {N : yN} {t : yT} (hg : gga h N t) {i : Nat} (hi : i < gcn (gso N t) (2 * yLs N)) : h.1 153 i = zfj (gcd_ (gso N t) (2 * yLs N) i) := by
  obtain ⟨a1, a2, a3, a4⟩ := hg
  unfold gcd_
  by_cases hc : i < fb_ct (fun k => gso N t (k + 1)) (2 * yLs N)
  · rw [if_pos hc]
    obtain ⟨b1, b2, b3⟩ := gnth_ok (q := fun k => gso N t (k + 1)) hc
    have := a3 _ b1 b2
    rw [show fb_ct (gsp N t) = fb_ct (fun k => gso N t (k + 1)) from rfl, b3] at this
    rw [this]
    rfl
  · rw [if_neg hc]
    have e : i = fb_ct (fun k => gso N t (k + 1)) (2 * yLs N) ∧ gso N t 0 = true := by
      unfold gcn at hi
      cases h0 : gso N t 0
      · rw [h0, if_neg (by decide)] at hi
        omega
      · rw [h0, if_pos rfl] at hi
        exact ⟨by omega, rfl⟩
    rw [e.1]
    exact a4 e.2
theorem countUnlike_c {h : zH} {S : yG} {W : Nat} (ho : yOK S) (hc : yIc h S) (hw : ∀ g, zfm [(152, 154, 0, 9999)] h g → yCN g W (gN S)) (hg : gga h (gN S) (gT S)) : zw (f_Diagnosis_countUnlike W h) fun g => zfm [(154, 154, 0, 9999)] h g ∧ ∀ r, r < 2 ^ yI (gN S) → g.1 154 r = zJ (gdn (gN S) (gT S) r) := by
  obtain ⟨⟨e1, e2, e3, e4⟩, -⟩ := id ho.1
  have e1' : yI (gN S) ≤ 6 := e1
  have e3' : yLs (gN S) ≤ yI (gN S) + 16 := e3
  have h64 := zpw6 e1'
  have nle := gcn_le (p := gso (gN S) (gT S)) (m := 2 * yLs (gN S))
  have part : ∀ g, zfm [(154, 154, 0, 9999)] h g → (∀ r, r < 64 → g.1 154 r = zJ 0) → zw (f_Diagnosis_countUnlike_j41 W g (zJ (gcn (gso (gN S) (gT S)) (2 * yLs (gN S))))) fun g => zfm [(154, 154, 0, 9999)] h g ∧ ∀ r, r < 2 ^ yI (gN S) → g.1 154 r = zJ (gdn (gN S) (gT S) r) := by
    intro g hz h0
    unfold f_Diagnosis_countUnlike_j41
    refine zw_bi (P := fun g => zfm [(154, 154, 0, 9999)] h g ∧ ∀ r, r < 2 ^ yI (gN S) → g.1 154 r = zJ (gdn (gN S) (gT S) r)) (zw_for (gcn (gso (gN S) (gT S)) (2 * yLs (gN S))) (fun i s => s.1 = zJ i ∧ zfm [(154, 154, 0, 9999)] h s.2 ∧ ∀ r, r < 2 ^ yI (gN S) → s.2.1 154 r = zJ (fb_ct (gne (gso (gN S) (gT S)) (gag (gN S) r) (2 * yLs (gN S))) i)) (by omega) ⟨rfl, hz, fun r hr => h0 r (by omega)⟩ ?_) (fun g hg => zw_some hg)
    rintro i ⟨a, g⟩ hi ⟨rfl, hz, hv⟩
    dsimp only at hz hv ⊢
    unfold f_Diagnosis_countUnlike_b45
    by_cases him : i < gcn (gso (gN S) (gT S)) (2 * yLs (gN S))
    · rw [if_neg (by rw [zJ_le (by omega) (by omega)]; omega)]
      have hcg : yIc g S := hc.fr ho hz rfl
      have hwg : yCN g W (gN S) := hw g (hz.sub rfl)
      have c1 : g.1 74 1 = zJ (2 ^ yI (gN S)) := hcg.2.1.2.1
      rw [allRows_c c1 e1', Option.bind_some]
      refine zw_bi (P := fun y => ∀ r, r < 64 → zBl y r = (decide (r < 2 ^ yI (gN S)) && !zex (fun j => gag (gN S) r (gcd_ (gso (gN S) (gT S)) (2 * yLs (gN S)) j) (gcd_ (gso (gN S) (gT S)) (2 * yLs (gN S)) i)) i)) (zw_for i (fun j s => s.2 = zJ j ∧ ∀ r, r < 64 → zBl s.1 r = (decide (r < 2 ^ yI (gN S)) && !zex (fun j => gag (gN S) r (gcd_ (gso (gN S) (gT S)) (2 * yLs (gN S)) j) (gcd_ (gso (gN S) (gT S)) (2 * yLs (gN S)) i)) j)) (by omega) ⟨rfl, fun r hr => ?_⟩ ?_) ?_
      · rw [yAR_bit (yI (gN S)) (by omega) r hr]
        show _ = (_ && !false)
        simp
      · rintro j ⟨x, b⟩ hj ⟨rfl, hx⟩
        dsimp only at hx ⊢
        unfold f_Diagnosis_countUnlike_b60
        by_cases hji : j < i
        · rw [if_neg (by rw [zJ_le (by omega) (by omega)]; omega)]
          by_cases hx0 : x = 0
          · subst hx0
            rw [if_pos rfl]
            refine zw_some fun r hr => ?_
            have := hx r hr
            rw [this]
            cases hd : decide (r < 2 ^ yI (gN S))
            · rfl
            · rw [hd, zBl_0] at this
              have hz : zex (fun j => gag (gN S) r (gcd_ (gso (gN S) (gT S)) (2 * yLs (gN S)) j) (gcd_ (gso (gN S) (gT S)) (2 * yLs (gN S)) i)) j = true := by
                simpa using this.symm
              obtain ⟨k, k1, k2⟩ := zex_iff.mp hz
              rw [hz, zex_iff.mpr ⟨k, by omega, k2⟩]
          · rw [if_neg hx0]
            simp (disch := omega) only [zg_tr, zb_t, zJ_lt, zJ_le, zJ_inj, zJ_ltl, zJ_lel, zJ_eql, zJ_llt, zJ_lle, zJ_leq, zJ_m1, zJ_m1r, zJ_nle_m1, zJ_m1lt, zJ_add, zJ_al, zJ_mull, zJ_c, zJ_mlr, zJ_cl, zJ_sub, zJ_subl, zJ_neg, zJ_divl, zreml, zshl_1, zshr_J, zushr_J, zJ_and1, if_pos, if_neg, Option.bind_some, zI_eq, zI_ne, zI_nk, zI_2, zL_1, zL_eq, zL_ne, zL_nk, zL_22]
            have l1 : g.1 153 i = zfj (gcd_ (gso (gN S) (gT S)) (2 * yLs (gN S)) i) := (hz.i (by rfl)).trans (gga_at hg him)
            have l2 : g.1 153 j = zfj (gcd_ (gso (gN S) (gT S)) (2 * yLs (gN S)) j) := (hz.i (by rfl)).trans (gga_at hg (by omega))
            rw [l1, l2]
            have hcs : yCS g W (yE (gN S)).2.1 (ySb (gN S)) := fun l hl => by
              rw [hwg.2.1 l (by have : l < yLs (gN S) := hl; omega), decide_eq_true hl, Bool.true_and]
            refine zw_bi (unlike_c ho.1.1 hwg.1 hcs hcg.2.1.2.2.2.1 gcd_le gcd_le) ?_
            intro x9 h9
            refine zw_some ⟨hji, rfl, fun r hr => ?_⟩
            rw [zBl_and, hx r hr, h9 r hr, zex_s]
            show _ = (_ && !(_ || !ydf _ _ _ _ _))
            rw [show ydf (yE (gN S)) (ySb (gN S)) r (gcd_ (gso (gN S) (gT S)) (2 * yLs (gN S)) i) (gcd_ (gso (gN S) (gT S)) (2 * yLs (gN S)) j) = ydf (yE (gN S)) (ySb (gN S)) r (gcd_ (gso (gN S) (gT S)) (2 * yLs (gN S)) j) (gcd_ (gso (gN S) (gT S)) (2 * yLs (gN S)) i) from by
              have := gag_s (N := gN S) (r := r) (gcd_ (gso (gN S) (gT S)) (2 * yLs (gN S)) i) (gcd_ (gso (gN S) (gT S)) (2 * yLs (gN S)) j)
              unfold gag at this
              simpa using this]
            cases decide (r < 2 ^ yI (gN S)) <;> simp
        · have : j = i := by omega
          subst this
          rw [if_pos (by rw [zJ_le (by omega) (by omega)]; omega)]
          exact zw_some hx
      · intro y hy
        refine zw_bi (P := fun g2 => zfm [(154, 154, 0, 9999)] h g2 ∧ ∀ r, r < 2 ^ yI (gN S) → g2.1 154 r = zJ (fb_ct (gne (gso (gN S) (gT S)) (gag (gN S) r) (2 * yLs (gN S))) (i + 1))) (zw_for (2 ^ yI (gN S)) (fun k s => s.1 = zJ k ∧ zfm [(154, 154, 0, 9999)] h s.2 ∧ ∀ r, r < 2 ^ yI (gN S) → s.2.1 154 r = zJ (fb_ct (gne (gso (gN S) (gT S)) (gag (gN S) r) (2 * yLs (gN S))) (if r < k then i + 1 else i))) (by omega) ⟨rfl, hz, fun r hr => hv r hr⟩ ?_) ?_
        · rintro k ⟨b, g2⟩ hk ⟨rfl, hz2, hv2⟩
          dsimp only at hz2 hv2 ⊢
          unfold f_Diagnosis_countUnlike_b107
          have c2 : g2.1 74 1 = zJ (2 ^ yI (gN S)) := (hc.fr ho hz2 rfl).2.1.2.1
          rw [c2]
          by_cases hkm : k < 2 ^ yI (gN S)
          · rw [if_neg (by rw [zJ_le (by omega) (by omega)]; omega)]
            simp (disch := omega) only [zg_tr, zb_t, zJ_lt, zJ_le, zJ_inj, zJ_ltl, zJ_lel, zJ_eql, zJ_llt, zJ_lle, zJ_leq, zJ_m1, zJ_m1r, zJ_nle_m1, zJ_m1lt, zJ_add, zJ_al, zJ_mull, zJ_c, zJ_mlr, zJ_cl, zJ_sub, zJ_subl, zJ_neg, zJ_divl, zreml, zshl_1, zshr_J, zushr_J, zJ_and1, if_pos, if_neg, Option.bind_some, zI_eq, zI_ne, zI_nk, zI_2, zL_1, zL_eq, zL_ne, zL_nk, zL_22]
            rw [ytl (by omega), hv2 k hkm, if_neg (Nat.lt_irrefl k), hy k (by omega), decide_eq_true hkm, Bool.true_and]
            refine zw_some ⟨hkm, rfl, hz2.I (zin_1 (by omega) (by omega) (by omega) (by omega)), fun r hr => ?_⟩
            dsimp only
            by_cases hrk : r = k
            · subst hrk
              rw [zI_eq, if_pos (Nat.lt_succ_self r), fb_ct_succ]
              show zJ _ + zbI (gne (gso (gN S) (gT S)) (gag (gN S) r) (2 * yLs (gN S)) i) = _
              cases gne (gso (gN S) (gT S)) (gag (gN S) r) (2 * yLs (gN S)) i
              · rw [if_neg (by decide)]
                exact zJ_add (b := 0)
              · rw [if_pos rfl]
                exact zJ_add
            · rw [zI_nk (by omega), hv2 r hr]
              by_cases hlt : r < k
              · rw [if_pos hlt, if_pos (by omega)]
              · rw [if_neg hlt, if_neg (by omega)]
          · have : k = 2 ^ yI (gN S) := by omega
            subst this
            rw [if_pos (by rw [zJ_le (by omega) (by omega)]; omega)]
            refine zw_some ⟨hz2, fun r hr => ?_⟩
            have := hv2 r hr
            rw [if_pos hr] at this
            exact this
        · rintro g2 ⟨hz2, hv2⟩
          rw [zJ_al]
          exact zw_some ⟨him, rfl, hz2, hv2⟩
    · have : i = gcn (gso (gN S) (gT S)) (2 * yLs (gN S)) := by omega
      subst this
      rw [if_pos (by rw [zJ_le (by omega) (by omega)]; omega)]
      refine zw_some ⟨hz, fun r hr => ?_⟩
      rw [hv r hr, gidx_eq gag_s gag_t]
      rfl
  unfold f_Diagnosis_countUnlike
  refine zw_bi (P := fun g => zfm [(154, 154, 0, 9999)] h g ∧ ∀ r, r < 64 → g.1 154 r = zJ 0) (zw_for 64 (fun k s => s.1 = zJ k ∧ zfm [(154, 154, 0, 9999)] h s.2 ∧ ∀ r, r < k → s.2.1 154 r = zJ 0) (by omega) ⟨rfl, zfm.rfl', fun r hr => absurd hr (Nat.not_lt_zero r)⟩ ?_) ?_
  · rintro k ⟨b, g⟩ hk ⟨rfl, hz, hv⟩
    dsimp only at hz hv ⊢
    unfold f_Diagnosis_countUnlike_b2
    by_cases hkm : k < 64
    · simp (disch := omega) only [zg_tr, zb_t, zJ_lt, zJ_le, zJ_inj, zJ_ltl, zJ_lel, zJ_eql, zJ_llt, zJ_lle, zJ_leq, zJ_m1, zJ_m1r, zJ_nle_m1, zJ_m1lt, zJ_add, zJ_al, zJ_mull, zJ_c, zJ_mlr, zJ_cl, zJ_sub, zJ_subl, zJ_neg, zJ_divl, zreml, zshl_1, zshr_J, zushr_J, zJ_and1, if_pos, if_neg, Option.bind_some, zI_eq, zI_ne, zI_nk, zI_2, zL_1, zL_eq, zL_ne, zL_nk, zL_22]
      refine zw_some ⟨hkm, rfl, hz.I (zin_1 (by omega) (by omega) (by omega) (by omega)), fun r hr => ?_⟩
      dsimp only
      by_cases hrk : r = k
      · subst hrk
        rw [zI_eq]
        rfl
      · rw [zI_nk (by omega)]
        exact hv r (by omega)
    · have : k = 64 := by omega
      subst this
      rw [if_pos (by decide)]
      exact zw_some ⟨hz, hv⟩
  · rintro g ⟨hz, hv⟩
    have a1 : g.1 152 1 = zJ (fb_ct (gsp (gN S) (gT S)) (2 * yLs (gN S))) := (hz.i (by rfl)).trans hg.1
    have a2 : g.1 152 2 = zbI (gso (gN S) (gT S) 0) := (hz.i (by rfl)).trans hg.2.1
    have hp := part g hz hv
    rw [a1, a2]
    unfold gcn at hp
    cases h0 : gso (gN S) (gT S) 0
    · rw [h0, if_neg (by decide), Nat.add_zero] at hp
      rw [if_pos (by decide)]
      exact hp
    · rw [h0, if_pos rfl] at hp
      rw [if_neg (by decide), zJ_al]
      exact hp
theorem seekRow_c {h : zH} {S : yG} {W : Nat} (ho : yOK S) (hc : yIc h S) (hw : ∀ g, zfm [(152, 154, 0, 9999)] h g → yCN g W (gN S)) (hg : gga h (gN S) (gT S)) : zw (f_Diagnosis_seekRow W h) fun g => zfm [(152, 154, 0, 9999)] h g ∧ g.1 152 3 = (gbest (gdn (gN S) (gT S)) (2 ^ yI (gN S))).1 ∧ g.1 152 4 = zJ (gbest (gdn (gN S) (gT S)) (2 ^ yI (gN S))).2 := by
  obtain ⟨⟨e1, e2, e3, e4⟩, -⟩ := id ho.1
  have e1' : yI (gN S) ≤ 6 := e1
  have e3' : yLs (gN S) ≤ yI (gN S) + 16 := e3
  have h64 := zpw6 e1'
  unfold f_Diagnosis_seekRow
  refine zw_bi (countUnlike_c ho hc hw hg) ?_
  rintro g ⟨hz, hv⟩
  rw [Option.bind_some, Option.bind_some]
  have z0 : zfm [(152, 154, 0, 9999)] h (zsI (zsI g 152 3 (-1)) 152 4 0) := ((hz.sub rfl).I (by rfl)).I (by rfl)
  have z1 : (zsI (zsI g 152 3 (-1)) 152 4 0).1 152 3 = -1 := by rw [zI_nk (by omega), zI_eq]
  have z2 : (zsI (zsI g 152 3 (-1)) 152 4 0).1 152 4 = zJ 0 := zI_eq
  have z3 : ∀ r, r < 2 ^ yI (gN S) → (zsI (zsI g 152 3 (-1)) 152 4 0).1 154 r = zJ (gdn (gN S) (gT S) r) := fun r hr => by
    rw [zI_ne (by omega), zI_ne (by omega)]
    exact hv r hr
  generalize zsI (zsI g 152 3 (-1)) 152 4 0 = g0 at *
  have ble := gbest_le (d := gdn (gN S) (gT S)) (gdn_le (N := gN S) (t := gT S))
  have dle := gdn_le (N := gN S) (t := gT S)
  refine zw_bi (P := fun g => zfm [(152, 154, 0, 9999)] h g ∧ g.1 152 3 = (gbest (gdn (gN S) (gT S)) (2 ^ yI (gN S))).1 ∧ g.1 152 4 = zJ (gbest (gdn (gN S) (gT S)) (2 ^ yI (gN S))).2) (zw_for (2 ^ yI (gN S)) (fun k s => s.1 = zJ k ∧ zfm [(152, 154, 0, 9999)] h s.2 ∧ s.2.1 152 3 = (gbest (gdn (gN S) (gT S)) k).1 ∧ s.2.1 152 4 = zJ (gbest (gdn (gN S) (gT S)) k).2 ∧ ∀ r, r < 2 ^ yI (gN S) → s.2.1 154 r = zJ (gdn (gN S) (gT S) r)) (by omega) ⟨rfl, z0, z1, z2, z3⟩ ?_) (fun g hg => zw_some hg)
  rintro k ⟨a, g⟩ hk ⟨rfl, hz, h3, h4, h5⟩
  dsimp only at hz h3 h4 h5 ⊢
  unfold f_Diagnosis_seekRow_b18
  have c1 : g.1 74 1 = zJ (2 ^ yI (gN S)) := (hc.fr ho hz rfl).2.1.2.1
  have b1 := ble k
  have d1 := dle k
  rw [c1]
  by_cases hkm : k < 2 ^ yI (gN S)
  · rw [if_neg (by rw [zJ_le (by omega) (by omega)]; omega)]
    simp (disch := omega) only [zg_tr, zb_t, zJ_lt, zJ_le, zJ_inj, zJ_ltl, zJ_lel, zJ_eql, zJ_llt, zJ_lle, zJ_leq, zJ_m1, zJ_m1r, zJ_nle_m1, zJ_m1lt, zJ_add, zJ_al, zJ_mull, zJ_c, zJ_mlr, zJ_cl, zJ_sub, zJ_subl, zJ_neg, zJ_divl, zreml, zshl_1, zshr_J, zushr_J, zJ_and1, if_pos, if_neg, Option.bind_some, zI_eq, zI_ne, zI_nk, zI_2, zL_1, zL_eq, zL_ne, zL_nk, zL_22]
    rw [h5 k hkm, h4]
    by_cases hlt : (gbest (gdn (gN S) (gT S)) k).2 < gdn (gN S) (gT S) k
    · rw [if_neg (by rw [zJ_le (by omega) (by omega)]; omega)]
      have e : gbest (gdn (gN S) (gT S)) (k + 1) = (zJ k, gdn (gN S) (gT S) k) := by
        rw [gbest, if_pos hlt]
      refine zw_some ⟨hkm, rfl, (hz.I (by rfl)).I (by rfl), ?_, ?_, fun r hr => ?_⟩
      · rw [e, zI_nk (by omega), zI_eq]
      · rw [e, zI_eq]
      · dsimp only
        rw [zI_ne (by omega), zI_ne (by omega)]
        exact h5 r hr
    · rw [if_pos (by rw [zJ_le (by omega) (by omega)]; omega)]
      have e : gbest (gdn (gN S) (gT S)) (k + 1) = gbest (gdn (gN S) (gT S)) k := by
        rw [gbest, if_neg hlt]
      exact zw_some ⟨hkm, rfl, hz, by rw [e]; exact h3, by rw [e]; exact h4, h5⟩
  · have : k = 2 ^ yI (gN S) := by omega
    subst this
    rw [if_pos (by rw [zJ_le (by omega) (by omega)]; omega)]
    exact zw_some ⟨hz, h3, h4⟩
theorem gsv_iff {N : yN} {r j k : Nat} {x y : Int32} (hn : yOKn N) (hx : ∀ i, i < 32 → zBi x i = (decide (i < yLs N) && (ySb N i && (zvl (yE N) (zrw r) j i == 1)))) (hy : ∀ i, i < 32 → zBi y i = (decide (i < yLs N) && (ySb N i && (zvl (yE N) (zrw r) k i == 1)))) : x = y ↔ gag N r j k = true := by
  obtain ⟨⟨e1, e2, e3, e4⟩, -⟩ := id hn
  have e1' : yI N ≤ 6 := e1
  have e3' : yLs N ≤ yI N + 16 := e3
  have lt : ∀ f l, l < yLs N → zvl (yE N) (zrw r) f l < 2 := fun f l hl => zvl_lt2 hn.1 (fun i _ => zrw_lt) _ l (Nat.lt_succ_self l) hl
  rw [gag_no]
  constructor
  · intro e l hl hs
    have h1 := hx l (by omega)
    rw [e, hy l (by omega), decide_eq_true hl, hs, Bool.true_and, Bool.true_and, Bool.true_and, Bool.true_and] at h1
    have a1 := lt j l hl
    have a2 := lt k l hl
    rcases (by omega : zvl (yE N) (zrw r) j l = 0 ∨ zvl (yE N) (zrw r) j l = 1) with b | b <;> rcases (by omega : zvl (yE N) (zrw r) k l = 0 ∨ zvl (yE N) (zrw r) k l = 1) with c | c <;> rw [b, c] at h1 ⊢ <;> exact absurd h1 (by decide)
  · intro h
    apply zBi_ext
    intro i hi
    rw [hx i hi, hy i hi]
    by_cases hl : i < yLs N
    · cases hs : ySb N i
      · rfl
      · rw [h i hl hs]
    · rw [decide_eq_false hl]
      rfl
theorem unlikeBy_r {h : zH} {S : yG} {r : Nat} (ho : yOK S) (hr : yIr h S) (hrr : r < 2 ^ yI (gN S)) (hf : ∀ k, k ≤ 2 * yLs (gN S) → h.1 372 k = zbI (gso (gN S) (gT S) k)) : zw (f_Mod_unlikeBy h (zJ r)) fun x => x.1 = zJ (gdn (gN S) (gT S) r) ∧ zfm [(350, 351, 0, 9999), (371, 371, 0, 9999)] h x.2 := by
  obtain ⟨⟨e1, e2, e3, e4⟩, -⟩ := id ho.1
  have e1' : yI (gN S) ≤ 6 := e1
  have e3' : yLs (gN S) ≤ yI (gN S) + 16 := e3
  have h64 := zpw6 e1'
  have rg : ∀ g', zfm [(350, 351, 0, 9999), (371, 371, 0, 9999)] h g' → yRN g' (gN S) := fun g' q => hr.1.fr q (fun a k h1 h2 => zin_n2 (by omega) (by omega))
  unfold f_Mod_unlikeBy
  refine zw_bi (putRow_r ho.1.1 hr.1.1 (by omega)) ?_
  rintro g0 ⟨q0, p0⟩
  have z0 : zfm [(350, 351, 0, 9999), (371, 371, 0, 9999)] h g0 := q0.sub rfl
  refine zw_bi (P := fun x => x.1 = zJ (gdn (gN S) (gT S) r) ∧ zfm [(350, 351, 0, 9999), (371, 371, 0, 9999)] h x.2) (zw_for (2 * yLs (gN S) + 1) (fun k s => s.1 = zJ (fb_ct (gnw (gso (gN S) (gT S)) (gag (gN S) r)) k) ∧ s.2.1 = zfj k ∧ zfm [(350, 351, 0, 9999), (371, 371, 0, 9999)] h s.2.2 ∧ (∀ i, i < yI (gN S) → s.2.2.1 350 i = zJ (zrw r i)) ∧ ∀ j, j < k → gnw (gso (gN S) (gT S)) (gag (gN S) r) j = true → ∀ i, i < 32 → zBi (s.2.2.1 371 (fb_ct (gnw (gso (gN S) (gT S)) (gag (gN S) r)) j)) i = (decide (i < yLs (gN S)) && (ySb (gN S) i && (zvl (yE (gN S)) (zrw r) j i == 1)))) (by omega) ⟨rfl, rfl, z0, p0, fun j hj => absurd hj (Nat.not_lt_zero j)⟩ ?_) (fun g hg => zw_some hg)
  rintro k ⟨a, b, g⟩ hk ⟨rfl, rfl, hz, hp, hv⟩
  dsimp only at hz hp hv ⊢
  unfold f_Mod_unlikeBy_b9
  rw [faults_n ho.1 (rg g hz), Option.bind_some]
  have cle := fb_ct_le (gnw (gso (gN S) (gT S)) (gag (gN S) r)) k
  by_cases hkm : k < 2 * yLs (gN S) + 1
  · have e372 : g.1 372 k = zbI (gso (gN S) (gT S) k) := (hz.i (zin_n2 (by omega) (by omega))).trans (hf k (by omega))
    rw [if_neg (by rw [Int32.not_le, zfj_ltJ (by omega) (by omega)]; omega), zfj_1]
    simp (disch := omega) only [zg_tr, zb_t, zJ_lt, zJ_le, zJ_inj, zJ_ltl, zJ_lel, zJ_eql, zJ_llt, zJ_lle, zJ_leq, zJ_m1, zJ_m1r, zJ_nle_m1, zJ_m1lt, zJ_add, zJ_al, zJ_mull, zJ_c, zJ_mlr, zJ_cl, zJ_sub, zJ_subl, zJ_neg, zJ_divl, zreml, zshl_1, zshr_J, zushr_J, zJ_and1, if_pos, if_neg, Option.bind_some, zI_eq, zI_ne, zI_nk, zI_2, zL_1, zL_eq, zL_ne, zL_nk, zL_22]
    rw [e372, fb_ct_succ]
    cases hpk : gso (gN S) (gT S) k
    · rw [if_neg (by decide)]
      have e : gnw (gso (gN S) (gT S)) (gag (gN S) r) k = false := by
        unfold gnw
        rw [hpk]
        rfl
      rw [e, if_neg (by decide)]
      refine zw_some ⟨hkm, rfl, rfl, hz, hp, fun j hj hg => ?_⟩
      by_cases hjk : j = k
      · subst hjk
        rw [hg] at e
        cases e
      · exact hv j (by omega) hg
    · rw [if_pos (by decide)]
      refine zw_bi (tellLines_r (inp := zrw r) ho.1.1 (rg g hz).1 (by omega) (fun i hi => ⟨hp i hi, zrw_le⟩)) ?_
      rintro g2 ⟨q2, p2⟩
      have z2 : zfm [(350, 351, 0, 9999), (371, 371, 0, 9999)] h g2 := hz.trans (q2.sub rfl)
      have hp2 : ∀ i, i < yI (gN S) → g2.1 350 i = zJ (zrw r i) := fun i hi => (q2.i (zin_n1 (by omega))).trans (hp i hi)
      have hv2 : ∀ j, j < k → gnw (gso (gN S) (gT S)) (gag (gN S) r) j = true → ∀ i, i < 32 → zBi (g2.1 371 (fb_ct (gnw (gso (gN S) (gT S)) (gag (gN S) r)) j)) i = (decide (i < yLs (gN S)) && (ySb (gN S) i && (zvl (yE (gN S)) (zrw r) j i == 1))) := fun j hj hg i hi => by
        rw [show g2.1 371 (fb_ct (gnw (gso (gN S) (gT S)) (gag (gN S) r)) j) = g.1 371 (fb_ct (gnw (gso (gN S) (gT S)) (gag (gN S) r)) j) from q2.i (zin_n1 (by omega))]
        exact hv j hj hg i hi
      refine zw_bi (seenNow_r (val := fun l => zvl (yE (gN S)) (zrw r) k l) ho.1 (rg g2 z2) (fun l hl => ⟨p2 l hl, zvl_lt2 ho.1.1 (fun i _ => zrw_lt) _ l (Nat.lt_succ_self l) hl⟩)) ?_
      intro x h5
      refine zw_bi (P := fun y => y = zbI (gnw (gso (gN S) (gT S)) (gag (gN S) r) k)) (zw_for (fb_ct (gnw (gso (gN S) (gT S)) (gag (gN S) r)) k) (fun i s => s.2 = zJ i ∧ (s.1 = 0 ∨ s.1 = 1) ∧ (s.1 = 0 ↔ ∃ i', i' < i ∧ g2.1 371 i' = x)) (by omega) ⟨rfl, Or.inr rfl, ⟨fun h => absurd h (by decide), fun ⟨i, hi, _⟩ => absurd hi (Nat.not_lt_zero i)⟩⟩ ?_) ?_
      · rintro i ⟨s, b⟩ hi ⟨rfl, hs01, hs⟩
        dsimp only at hs01 hs ⊢
        unfold f_Mod_unlikeBy_b48 f_Mod_unlikeBy_j76
        by_cases him : i < fb_ct (gnw (gso (gN S) (gT S)) (gag (gN S) r)) k
        · rw [if_neg (by rw [zJ_le (by omega) (by omega)]; omega)]
          simp (disch := omega) only [zg_tr, zb_t, zJ_lt, zJ_le, zJ_inj, zJ_ltl, zJ_lel, zJ_eql, zJ_llt, zJ_lle, zJ_leq, zJ_m1, zJ_m1r, zJ_nle_m1, zJ_m1lt, zJ_add, zJ_al, zJ_mull, zJ_c, zJ_mlr, zJ_cl, zJ_sub, zJ_subl, zJ_neg, zJ_divl, zreml, zshl_1, zshr_J, zushr_J, zJ_and1, if_pos, if_neg, Option.bind_some, zI_eq, zI_ne, zI_nk, zI_2, zL_1, zL_eq, zL_ne, zL_nk, zL_22]
          by_cases hs0 : s = 0
          · rw [if_pos hs0]
            obtain ⟨i', a1, a2⟩ := hs.mp hs0
            exact zw_some ⟨him, rfl, Or.inl rfl, ⟨fun _ => ⟨i', by omega, a2⟩, fun _ => rfl⟩⟩
          · rw [if_neg hs0]
            by_cases he : g2.1 371 i = x
            · rw [if_pos he]
              exact zw_some ⟨him, rfl, Or.inl rfl, ⟨fun _ => ⟨i, by omega, he⟩, fun _ => rfl⟩⟩
            · rw [if_neg he]
              refine zw_some ⟨him, rfl, Or.inr rfl, ⟨fun h => absurd (show (1 : Int32) = 0 from h) (by decide), fun ⟨i', b1, b2⟩ => ?_⟩⟩
              by_cases hii : i' = i
              · subst hii
                exact absurd b2 he
              · exact absurd (hs.mpr ⟨i', by omega, b2⟩) hs0
        · have : i = fb_ct (gnw (gso (gN S) (gT S)) (gag (gN S) r)) k := by omega
          subst this
          rw [if_pos (by rw [zJ_le (by omega) (by omega)]; omega)]
          refine zw_some ?_
          have key : gnw (gso (gN S) (gT S)) (gag (gN S) r) k = false ↔ s = 0 := by
            rw [hs]
            rw [show gnw (gso (gN S) (gT S)) (gag (gN S) r) k = (gso (gN S) (gT S) k && !zex (fun j => gso (gN S) (gT S) j && gag (gN S) r j k) k) from rfl]
            rw [hpk, Bool.true_and, Bool.not_eq_false', zex_iff]
            constructor
            · rintro ⟨j, j1, j2⟩
              rw [Bool.and_eq_true] at j2
              obtain ⟨j', b1, b2, b3⟩ := gfirst (p := gso (gN S) (gT S)) (gag_r (N := gN S) (r := r)) gag_t j j2.1
              have hlt := fb_ct_mono (gnw (gso (gN S) (gT S)) (gag (gN S) r)) (show j' + 1 ≤ k by omega)
              rw [fb_ct_succ, b2, if_pos rfl] at hlt
              exact ⟨_, hlt, (gsv_iff ho.1 (hv2 j' (by omega) b2) h5).mpr (gag_t _ _ _ b3 j2.2)⟩
            · rintro ⟨i', b1, b2⟩
              obtain ⟨j, j1, j2, j3⟩ := fb_ct_kth b1
              subst j3
              have hE := (gsv_iff ho.1 (hv2 j j1 j2) h5).mp b2
              exact ⟨j, j1, by rw [gnw_p j2, hE]; rfl⟩
          cases hg : gnw (gso (gN S) (gT S)) (gag (gN S) r) k
          · rw [key.mp hg]
            rfl
          · rcases hs01 with h | h
            · rw [key.mpr h] at hg
              cases hg
            · rw [h]
              rfl
      · rintro y rfl
        cases hg : gnw (gso (gN S) (gT S)) (gag (gN S) r) k
        · rw [if_neg (by decide), if_neg (by decide)]
          refine zw_some ⟨hkm, rfl, rfl, z2, hp2, fun j hj hgj => ?_⟩
          by_cases hjk : j = k
          · subst hjk
            rw [hg] at hgj
            cases hgj
          · exact hv2 j (by omega) hgj
        · rw [if_pos (by decide), if_pos rfl]
          refine zw_some ⟨hkm, rfl, rfl, z2.I (zin_2 (zin_1 (by omega) (by omega) (by omega) (by omega))), fun i hi => ?_, fun j hj hgj => ?_⟩
          · dsimp only
            rw [zI_ne (by omega)]
            exact hp2 i hi
          · dsimp only
            by_cases hjk : j = k
            · subst hjk
              rw [zI_eq]
              exact h5
            · have hlt := fb_ct_mono (gnw (gso (gN S) (gT S)) (gag (gN S) r)) (show j + 1 ≤ k by omega)
              rw [fb_ct_succ, hgj, if_pos rfl] at hlt
              rw [zI_nk (by omega)]
              exact hv2 j (by omega) hgj
  · have : k = 2 * yLs (gN S) + 1 := by omega
    subst this
    rw [if_pos (by rw [← Int32.not_lt, zfj_ltJ (by omega) (by omega)]; omega)]
    exact zw_some ⟨rfl, hz⟩
theorem look_r {h : zH} {S : yG} {v : Nat} (ho : yOK S) (hr : yIr h S) (hv : v ≤ 1) : zw (f_Mod_look h (zJ v)) fun y => yRA (.inl (if v = 0 then (gbest (gdn (gN S) (gT S)) (2 ^ yI (gN S))).1 else zJ (gbest (gdn (gN S) (gT S)) (2 ^ yI (gN S))).2)) y ∧ zfm yLr h y.2 ∧ yIr y.2 S := by
  obtain ⟨⟨e1, e2, e3, e4⟩, -⟩ := id ho.1
  have e1' : yI (gN S) ≤ 6 := e1
  have e3' : yLs (gN S) ≤ yI (gN S) + 16 := e3
  have h64 := zpw6 e1'
  have ble := gbest_le (d := gdn (gN S) (gT S)) (gdn_le (N := gN S) (t := gT S))
  have dle := gdn_le (N := gN S) (t := gT S)
  obtain ⟨hr1, qc, z1⟩ := code_r hr
  unfold f_Mod_look
  rw [Option.bind_some]
  generalize zsI h 333 2 0 = g0 at *
  have in1 : f_Mod_isIn (zJ v) 0 1 = some (zbI (decide (v ≤ 1))) := isIn_lit (b := 1) (by omega) (by omega)
  rw [in1, Option.bind_some, decide_eq_true hv, if_pos (by decide)]
  refine zw_bi (P := fun g => zfm [(350, 351, 0, 9999), (372, 372, 0, 9999)] g0 g ∧ ∀ k, k ≤ 2 * yLs (gN S) → g.1 372 k = zbI (gso (gN S) (gT S) k)) (zw_for (2 * yLs (gN S) + 1) (fun k s => s.1 = zfj k ∧ zfm [(350, 351, 0, 9999), (372, 372, 0, 9999)] g0 s.2 ∧ ∀ j, j < k → s.2.1 372 j = zbI (gso (gN S) (gT S) j)) (by omega) ⟨rfl, zfm.rfl', fun j hj => absurd hj (Nat.not_lt_zero j)⟩ ?_) ?_
  · rintro k ⟨a, g⟩ hk ⟨rfl, hz, hw⟩
    dsimp only at hz hw ⊢
    unfold f_Mod_look_b22
    have hg : yIr g S := hr1.fr hz rfl
    rw [faults_n ho.1 hg.1, Option.bind_some]
    by_cases hkm : k < 2 * yLs (gN S) + 1
    · rw [if_neg (by rw [Int32.not_le, zfj_ltJ (by omega) (by omega)]; omega), zfj_1]
      refine zw_bi (doesFit_r ho hg (by omega)) ?_
      rintro ⟨x, g2⟩ ⟨rfl, q⟩
      dsimp only at q ⊢
      simp (disch := omega) only [zg_tr, zb_t, zJ_lt, zJ_le, zJ_inj, zJ_ltl, zJ_lel, zJ_eql, zJ_llt, zJ_lle, zJ_leq, zJ_m1, zJ_m1r, zJ_nle_m1, zJ_m1lt, zJ_add, zJ_al, zJ_mull, zJ_c, zJ_mlr, zJ_cl, zJ_sub, zJ_subl, zJ_neg, zJ_divl, zreml, zshl_1, zshr_J, zushr_J, zJ_and1, if_pos, if_neg, Option.bind_some, zI_eq, zI_ne, zI_nk, zI_2, zL_1, zL_eq, zL_ne, zL_nk, zL_22]
      rw [zbI_and]
      refine zw_some ⟨hkm, rfl, (hz.trans (q.sub rfl)).I (zin_2 (zin_1 (by omega) (by omega) (by omega) (by omega))), fun j hj => ?_⟩
      dsimp only
      by_cases hjk : j = k
      · subst hjk
        rw [zI_eq]
      · rw [zI_nk (by omega)]
        exact (q.i (zin_n1 (by omega))).trans (hw j (by omega))
    · have : k = 2 * yLs (gN S) + 1 := by omega
      subst this
      rw [if_pos (by rw [← Int32.not_lt, zfj_ltJ (by omega) (by omega)]; omega)]
      exact zw_some ⟨hz, fun j hj => hw j (by omega)⟩
  · rintro g ⟨hz, hw⟩
    refine zw_bi (P := fun y => y.1 = (gbest (gdn (gN S) (gT S)) (2 ^ yI (gN S))).1 ∧ y.2.1 = zJ (gbest (gdn (gN S) (gT S)) (2 ^ yI (gN S))).2 ∧ zfm [(350, 351, 0, 9999), (371, 371, 0, 9999)] g y.2.2) (zw_for (2 ^ yI (gN S)) (fun k s => s.1 = (gbest (gdn (gN S) (gT S)) k).1 ∧ s.2.1 = zJ (gbest (gdn (gN S) (gT S)) k).2 ∧ s.2.2.1 = zJ k ∧ zfm [(350, 351, 0, 9999), (371, 371, 0, 9999)] g s.2.2.2) (by omega) ⟨rfl, rfl, rfl, zfm.rfl'⟩ ?_) ?_
    · rintro k ⟨a, b, c, g2⟩ hk ⟨rfl, rfl, rfl, hz2⟩
      dsimp only at hz2 ⊢
      unfold f_Mod_look_b56
      have hg2 : yIr g2 S := (hr1.fr hz rfl).fr hz2 rfl
      have b1 := ble k
      have d1 := dle k
      rw [rows_n ho.1 hg2.1, Option.bind_some]
      by_cases hkm : k < 2 ^ yI (gN S)
      · rw [if_neg (by rw [zJ_le (by omega) (by omega)]; omega)]
        refine zw_bi (unlikeBy_r ho hg2 hkm (fun k hk => (hz2.i (zin_n2 (by omega) (by omega))).trans (hw k hk))) ?_
        rintro ⟨x, g3⟩ ⟨rfl, q3⟩
        dsimp only at q3 ⊢
        by_cases hlt : (gbest (gdn (gN S) (gT S)) k).2 < gdn (gN S) (gT S) k
        · have e : gbest (gdn (gN S) (gT S)) (k + 1) = (zJ k, gdn (gN S) (gT S) k) := by
            rw [gbest, if_pos hlt]
          rw [if_pos (by rw [zJ_lt (by omega) (by omega)]; exact hlt), zJ_al]
          exact zw_some ⟨hkm, by rw [e], by rw [e], rfl, hz2.trans q3⟩
        · have e : gbest (gdn (gN S) (gT S)) (k + 1) = gbest (gdn (gN S) (gT S)) k := by
            rw [gbest, if_neg hlt]
          rw [if_neg (by rw [zJ_lt (by omega) (by omega)]; exact hlt), zJ_al]
          exact zw_some ⟨hkm, by rw [e], by rw [e], rfl, hz2.trans q3⟩
      · have : k = 2 ^ yI (gN S) := by omega
        subst this
        rw [if_pos (by rw [zJ_le (by omega) (by omega)]; omega)]
        exact zw_some ⟨rfl, rfl, hz2⟩
    · rintro ⟨a, b, g2⟩ ⟨rfl, rfl, hz2⟩
      dsimp only at hz2 ⊢
      have hall : zfm [(350, 351, 0, 9999), (371, 372, 0, 9999)] g0 g2 := (hz.sub rfl).tr hz2 rfl
      rcases (by omega : v = 0 ∨ v = 1) with rfl | rfl
      · rw [if_neg (by decide)]
        exact zw_some ⟨⟨(hall.i (by rfl)).trans z1, fun w hw => by cases hw; rfl⟩, qc.tr hall rfl, hr1.fr hall rfl⟩
      · rw [if_pos (by decide)]
        exact zw_some ⟨⟨(hall.i (by rfl)).trans z1, fun w hw => by cases hw; rfl⟩, qc.tr hall rfl, hr1.fr hall rfl⟩
theorem look_c {h : zH} {S : yG} {v : Int32} (ho : yOK S) (hc : yIc h S) : zw (f_Main_look_j17 h v) fun y => ∃ g, y = .inl (if v = 0 then (gbest (gdn (gN S) (gT S)) (2 ^ yI (gN S))).1 else zJ (gbest (gdn (gN S) (gT S)) (2 ^ yI (gN S))).2, g) ∧ zfm yLc h g ∧ yIc g S := by
  obtain ⟨⟨W, D, w1, w2, w3, w4⟩, i2, i3, -⟩ := id hc
  unfold f_Main_look_j17
  refine zw_bi (gather_c ho hc) ?_
  rintro g ⟨q, hg⟩
  rw [show g.2.2.1 0 1 = some (3, W) from by rw [q.1]; exact w2, zgr_eq]
  have hwf : ∀ g', zfm [(152, 154, 0, 9999)] g g' → yCN g' W (gN S) := fun g' q' => (w4.fr ho.1 q (fun a k h1 h2 => zin_n1 (by omega))).fr ho.1 q' (fun a k h1 h2 => zin_n1 (by omega))
  refine zw_bi (seekRow_c ho (hc.fr ho q rfl) hwf hg) ?_
  rintro g2 ⟨q2, a3, a4⟩
  by_cases hv : v = 0
  · rw [if_neg (fun h => h hv), if_pos hv, a3]
    exact zw_some ⟨g2, rfl, (q.sub rfl).trans (q2.sub rfl), (hc.fr ho q rfl).fr ho q2 rfl⟩
  · rw [if_pos hv, if_neg hv, a4]
    exact zw_some ⟨g2, rfl, (q.sub rfl).trans (q2.sub rfl), (hc.fr ho q rfl).fr ho q2 rfl⟩
theorem q_look {h : zH} {v : Int32} (hi : yInv h) : zw (f_L_look h v) fun x => zw (f_Mod_look x.2 v) fun y => yEnd x y := by
  obtain ⟨S, ho, hc, hr⟩ := hi
  have bad : f_Main_look h v = some (.inr (1, h)) → f_Mod_isIn v 0 1 = some 0 → zw (f_L_look h v) fun x => zw (f_Mod_look x.2 v) fun y => yEnd x y := by
    intro h1 h2
    unfold f_L_look
    refine yBad (m := 1) (c := 1) (f := fun g => f_Mod_look g v) ho hc hr (zw_of h1 ⟨h, rfl, zfm.rfl', hc⟩) (fun g => by rfl) (fun g hg => ?_) (Or.inl rfl)
    show zw (f_Mod_look g v) _
    unfold f_Mod_look
    rw [Option.bind_some, h2, Option.bind_some, if_neg (by decide)]
    refine zw_bi (yFail (c := 1) hg) (fun x hx => zw_some hx)
  have e0 : f_Main_look h v = if v = 0 then f_Main_look_j17 h v else if v = 1 then f_Main_look_j17 h v else some (.inr (1, h)) := rfl
  rcases yneg v with hv | ⟨k, hk, rfl⟩
  · refine bad ?_ (isIn_neg hv)
    rw [e0, if_neg (fun h => by rw [h] at hv; exact absurd hv (by decide)), if_neg (fun h => by rw [h] at hv; exact absurd hv (by decide))]
  · have in1 : f_Mod_isIn (zJ k) 0 1 = some (zbI (decide (k ≤ 1))) := isIn_lit (b := 1) (by omega) hk
    by_cases hk1 : k ≤ 1
    · have e1 : f_Main_look h (zJ k) = f_Main_look_j17 h (zJ k) := by
        rw [e0]
        rcases (by omega : k = 0 ∨ k = 1) with rfl | rfl
        · rfl
        · rfl
      unfold f_L_look
      refine yGood (f := fun g => f_Mod_look g (zJ k)) (v := if k = 0 then (gbest (gdn (gN S) (gT S)) (2 ^ yI (gN S))).1 else zJ (gbest (gdn (gN S) (gT S)) (2 ^ yI (gN S))).2) ho hr ?_ (fun g hg => look_r ho hg hk1)
      rw [e1]
      have := look_c (v := zJ k) ho hc
      rcases (by omega : k = 0 ∨ k = 1) with rfl | rfl
      · exact this
      · exact this
    · refine bad ?_ (by rw [in1, decide_eq_false hk1]; rfl)
      rw [e0, if_neg (by rw [zJ_eql hk (by decide)]; show ¬ k = 0; omega), if_neg (by rw [zJ_eql hk (by decide)]; show ¬ k = 1; omega)]
