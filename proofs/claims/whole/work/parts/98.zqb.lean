/-! ===== a text: the reference's tokens ===== -/
def grc (X : gX) (st : Nat) : Nat := if st < X.1 then (if glt X st = true then 1 else if gdt X st = true then 2 else if X.2 st = 59 ∨ X.2 st = 61 then 3 else 4) else 0
def grB (h : zH) (X : gX) : Prop := h.1 333 19 = zJ X.1 ∧ ∀ k, k < X.1 → h.1 349 k = zJ (X.2 k)
theorem grB.fr {L : List (Nat × Nat × Nat × Nat)} {h h' : zH} {X : gX} (hr : grB h X) (q : zfm L h h') (h1 : zin L 333 19 = false) (h2 : ∀ k, zin L 349 k = false) : grB h' X := ⟨(q.i h1).trans hr.1, fun k hk => (q.i (h2 k)).trans (hr.2 k hk)⟩
def grT (h : zH) (X : gX) (st : Nat) : Prop := h.1 333 18 = zJ (gstop X st) ∧ h.1 333 20 = zJ (grc X st) ∧ h.1 333 22 = zJ st ∧ h.1 333 23 = zJ (gstop X st) ∧ (st < X.1 → gdt X st = true → h.1 333 21 = zJ (X.2 st - 48))
theorem grT.fr {L : List (Nat × Nat × Nat × Nat)} {h h' : zH} {X : gX} {st : Nat} (hr : grT h X st) (q : zfm L h h') (h1 : ∀ k, 18 ≤ k → k ≤ 23 → zin L 333 k = false) : grT h' X st := by
  unfold grT at hr ⊢
  rw [q.i (h1 18 (by omega) (by omega)), q.i (h1 20 (by omega) (by omega)), q.i (h1 21 (by omega) (by omega)), q.i (h1 22 (by omega) (by omega)), q.i (h1 23 (by omega) (by omega))]
  exact hr
theorem byteAt_r {h : zH} {X : gX} {p : Nat} (hX : gOKx X) (hB : grB h X) (hp : p < 2147483648) : f_Mod_byteAt h (zJ p) = some (if p < X.1 then zJ (X.2 p) else -1) := by
  obtain ⟨x1, x2⟩ := hX
  unfold f_Mod_byteAt
  rw [hB.1]
  by_cases h1 : p < X.1
  · rw [if_neg (by rw [zJ_le (by omega) (by omega)]; omega), if_pos h1, zb_t (by omega) (by omega), zg_tr, zJ_c (by omega), hB.2 p h1]
  · rw [if_pos (by rw [zJ_le (by omega) (by omega)]; omega), if_neg h1]
theorem isL_m1 : f_Mod_isLetter (-1) = some 0 := rfl
theorem isD_m1 : f_Mod_isDigit (-1) = some 0 := rfl
theorem scan_r {h : zH} {X : gX} {p : Nat} {P : Nat → Bool} {B : zH → Option (zH ⊕ zH)} (hX : gOKx X) (hB : grB h X) (hp : p ≤ X.1) (h18 : h.1 333 18 = zJ p) (hb : ∀ g q, grB g X → q ≤ X.1 → g.1 333 18 = zJ q → B g = if q < X.1 ∧ P q = true then some (.inl (zsI g 333 18 (zJ q + 1))) else some (.inr g)) : zw (zit zFU B h) fun g => zfm [(333, 333, 18, 18)] h g ∧ g.1 333 18 = zJ (gsc P X.1 p) := by
  obtain ⟨x1, x2⟩ := hX
  obtain ⟨s1, s2, s3, s4⟩ := gsc_spec (P := P) hp
  refine zw_for (gsc P X.1 p - p) (fun k g => zfm [(333, 333, 18, 18)] h g ∧ g.1 333 18 = zJ (p + k)) (by omega) ⟨zfm.rfl', h18⟩ ?_
  rintro k g hk ⟨hz, hv⟩
  rw [hb g (p + k) (hB.fr hz (by rfl) (fun k => zin_n1 (by omega))) (by omega) hv]
  by_cases hlt : k < gsc P X.1 p - p
  · rw [if_pos ⟨by omega, s3 _ (by omega) (by omega)⟩]
    exact zw_some ⟨hlt, hz.I (by rfl), by rw [zI_eq, zJ_al]; rfl⟩
  · have e : p + k = gsc P X.1 p := by omega
    rw [if_neg (fun h => by
      have h2 := s4 (by omega)
      rw [← e, h.2] at h2
      cases h2)]
    exact zw_some ⟨hz, by rw [hv, e]⟩
theorem stepOn_r' {h : zH} {X : gX} {p : Nat} (hX : gOKx X) (hB : grB h X) (hp : p ≤ X.1) (h18 : h.1 333 18 = zJ p) : zw (f_Mod_stepOn h) fun g => zfm [(333, 333, 18, 18), (333, 333, 20, 23)] h g ∧ grT g X (gsc (gbl X) X.1 p) := by
  obtain ⟨x1, x2⟩ := id hX
  obtain ⟨s1, s2, s3, s4⟩ := gsc_spec (P := gbl X) hp
  have m32 : (-1 : Int32) ≠ 32 := by decide
  have m10 : (-1 : Int32) ≠ 10 := by decide
  unfold f_Mod_stepOn
  refine zw_bi (scan_r (P := gbl X) (B := fun s : zH => f_Mod_stepOn_b0 s) hX hB hp h18 ?_) ?_
  · intro g q hg hq e
    unfold f_Mod_stepOn_b0 f_Mod_stepOn_j26
    rw [e, byteAt_r hX hg (by omega), Option.bind_some]
    by_cases h1 : q < X.1
    · have bl := x2 q h1
      rw [if_pos h1]
      have k32 : zJ (X.2 q) = 32 ↔ X.2 q = 32 := zJ_inj (by omega) (by decide)
      have k10 : zJ (X.2 q) = 10 ↔ X.2 q = 10 := zJ_inj (by omega) (by decide)
      have hg2 : gbl X q = (X.2 q == 32 || X.2 q == 10) := rfl
      by_cases h32 : X.2 q = 32
      · rw [if_pos (k32.mpr h32), if_pos ⟨h1, by rw [hg2, h32]; rfl⟩]
        rfl
      · rw [if_neg (fun h => h32 (k32.mp h)), Option.bind_some]
        by_cases h10 : X.2 q = 10
        · rw [if_neg (fun h : ¬ zJ (X.2 q) = 10 => h (k10.mpr h10)), if_pos ⟨h1, by rw [hg2, h10]; rfl⟩]
          rfl
        · rw [if_pos (fun h => h10 (k10.mp h)), if_neg (fun h => by
            rw [hg2, Bool.or_eq_true, beq_iff_eq, beq_iff_eq] at h
            omega)]
    · rw [if_neg h1, if_neg m32, Option.bind_some, if_pos m10, if_neg (fun h => h1 h.1)]
  · rintro g0 ⟨q0, v0⟩
    generalize gsc (gbl X) X.1 p = st at *
    rw [Option.bind_some, v0]
    have z1 : zfm [(333, 333, 18, 18), (333, 333, 20, 23)] h (zsI g0 333 22 (zJ st)) := (q0.sub rfl).I (by rfl)
    have w18 : (zsI g0 333 22 (zJ st)).1 333 18 = zJ st := by
      rw [zI_nk (by decide), v0]
    have w22 : (zsI g0 333 22 (zJ st)).1 333 22 = zJ st := zI_eq
    generalize zsI g0 333 22 (zJ st) = g at *
    have hBg : grB g X := hB.fr z1 (by rfl) (fun k => zin_n2 (by omega) (by omega))
    have fin : ∀ (g' : zH) (t : Nat), zfm [(333, 333, 18, 18), (333, 333, 20, 23)] h g' → g'.1 333 18 = zJ (gstop X st) → g'.1 333 20 = zJ (grc X st) → g'.1 333 22 = zJ st → (st < X.1 → gdt X st = true → g'.1 333 21 = zJ (X.2 st - 48)) → zw (f_Mod_stepOn_j192 g') fun g => zfm [(333, 333, 18, 18), (333, 333, 20, 23)] h g ∧ grT g X st := by
      intro g' t z a b c d
      unfold f_Mod_stepOn_j192
      rw [Option.bind_some]
      exact zw_some ⟨z.I (by rfl), by rw [zI_nk (by decide), a], by rw [zI_nk (by decide), b], by rw [zI_nk (by decide), c], by rw [zI_eq, a], fun h1 h2 => by rw [zI_nk (by decide)]; exact d h1 h2⟩
    rw [w18, byteAt_r hX hBg (by omega), Option.bind_some]
    by_cases hn : st < X.1
    · have bl := x2 st hn
      rw [if_pos hn, if_pos (fun h => (zJ_m1 (by omega)).mp h), gjB_l _ bl, Option.bind_some]
      cases hl : glB (X.2 st)
      · rw [if_pos zbI_f, gjB_d _ bl, Option.bind_some]
        have nl : ¬ glt X st = true := by
          show ¬ glB (X.2 st) = true
          rw [hl]
          decide
        cases hd : gdB (X.2 st)
        · have nd : ¬ gdt X st = true := by
            show ¬ gdB (X.2 st) = true
            rw [hd]
            decide
          rw [if_pos zbI_f, Option.bind_some]
          have es : gstop X st = st + 1 := by
            unfold gstop
            rw [if_pos hn, if_neg nl, if_neg nd]
          have ec : grc X st = if X.2 st = 59 ∨ X.2 st = 61 then 3 else 4 := by
            unfold grc
            rw [if_pos hn, if_neg nl, if_neg nd]
          have k59 : zJ (X.2 st) = 59 ↔ X.2 st = 59 := zJ_inj (by omega) (by decide)
          have k61 : zJ (X.2 st) = 61 ↔ X.2 st = 61 := zJ_inj (by omega) (by decide)
          have go : ∀ t : Nat, grc X st = t → zw (f_Mod_stepOn_j189 (zsI g 333 18 (zJ st + 1)) (zJ t)) fun g => zfm [(333, 333, 18, 18), (333, 333, 20, 23)] h g ∧ grT g X st := by
            intro t ht
            unfold f_Mod_stepOn_j189
            rw [Option.bind_some]
            refine fin _ 0 ((z1.I (by rfl)).I (by rfl)) ?_ ?_ ?_ (fun _ h => absurd h nd)
            · rw [zI_nk (by decide), zI_eq, es, zJ_al]
            · rw [zI_eq, ht]
            · rw [zI_nk (by decide), zI_nk (by decide), w22]
          unfold f_Mod_stepOn_j184
          by_cases h59 : X.2 st = 59
          · rw [if_pos (k59.mpr h59)]
            exact go 3 (by rw [ec, if_pos (Or.inl h59)])
          · rw [if_neg (fun h => h59 (k59.mp h))]
            by_cases h61 : X.2 st = 61
            · rw [if_neg (fun h => h (k61.mpr h61))]
              exact go 3 (by rw [ec, if_pos (Or.inr h61)])
            · rw [if_pos (fun h => h61 (k61.mp h))]
              exact go 4 (by rw [ec, if_neg (by omega)])
        · rw [if_neg (by decide), Option.bind_some]
          have hdt : gdt X st = true := hd
          have es : gstop X st = gsc (gdt X) X.1 st := by
            unfold gstop
            rw [if_pos hn, if_neg nl, if_pos hdt]
          obtain ⟨r1, r2⟩ := gsB_dig _ bl hd
          have e48 : zJ (X.2 st) - 48 = zJ (X.2 st - 48) := by
            have : 48 ≤ X.2 st := by
              unfold gdB at hd
              rw [Bool.and_eq_true, decide_eq_true_eq] at hd
              exact hd.1
            exact zJ_subl (n := 48) this
          rw [e48]
          have z2 : zfm [(333, 333, 18, 18), (333, 333, 20, 23)] h (zsI g 333 21 (zJ (X.2 st - 48))) := z1.I (by rfl)
          refine zw_bi (scan_r (P := gdt X) (p := st) (B := fun s : zH => f_Mod_stepOn_b126 s) hX (hB.fr z2 (by rfl) (fun k => zin_n2 (by omega) (by omega))) (by omega) (by rw [zI_nk (by decide), w18]) ?_) ?_
          · intro g q hg hq e
            unfold f_Mod_stepOn_b126
            rw [e, byteAt_r hX hg (by omega), Option.bind_some]
            by_cases h1 : q < X.1
            · rw [if_pos h1, gjB_d _ (x2 q h1), Option.bind_some]
              have hg2 : gdt X q = gdB (X.2 q) := rfl
              cases hc : gdB (X.2 q)
              · rw [if_pos zbI_f, if_neg (fun h => by rw [hg2, hc] at h; cases h.2)]
              · rw [if_neg (by decide), if_pos ⟨h1, by rw [hg2, hc]⟩]
                rfl
            · rw [if_neg h1, isD_m1, Option.bind_some, if_pos rfl, if_neg (fun h => h1 h.1)]
          · rintro g3 ⟨q3, v3⟩
            rw [Option.bind_some]
            refine fin _ 0 ((z2.tr q3 rfl).I (by rfl)) ?_ ?_ ?_ (fun _ _ => ?_)
            · rw [zI_nk (by decide), v3, es]
            · rw [zI_eq]
              unfold grc
              rw [if_pos hn, if_neg nl, if_pos hdt]
              rfl
            · rw [zI_nk (by decide), q3.i (by rfl), zI_nk (by decide), w22]
            · rw [zI_nk (by decide), q3.i (by rfl), zI_eq]
      · rw [if_neg (by decide)]
        have hlt : glt X st = true := hl
        have es : gstop X st = gsc (glt X) X.1 st := by
          unfold gstop
          rw [if_pos hn, if_pos hlt]
        refine zw_bi (scan_r (P := glt X) (p := st) (B := fun s : zH => f_Mod_stepOn_b76 s) hX hBg (by omega) w18 ?_) ?_
        · intro g q hg hq e
          unfold f_Mod_stepOn_b76
          rw [e, byteAt_r hX hg (by omega), Option.bind_some]
          by_cases h1 : q < X.1
          · rw [if_pos h1, gjB_l _ (x2 q h1), Option.bind_some]
            have hg2 : glt X q = glB (X.2 q) := rfl
            cases hc : glB (X.2 q)
            · rw [if_pos zbI_f, if_neg (fun h => by rw [hg2, hc] at h; cases h.2)]
            · rw [if_neg (by decide), if_pos ⟨h1, by rw [hg2, hc]⟩]
              rfl
          · rw [if_neg h1, isL_m1, Option.bind_some, if_pos rfl, if_neg (fun h => h1 h.1)]
        · rintro g3 ⟨q3, v3⟩
          rw [Option.bind_some]
          refine fin _ 0 ((z1.tr q3 rfl).I (by rfl)) ?_ ?_ ?_ (fun _ h => ?_)
          · rw [zI_nk (by decide), v3, es]
          · rw [zI_eq]
            unfold grc
            rw [if_pos hn, if_pos hlt]
            rfl
          · rw [zI_nk (by decide), q3.i (by rfl), w22]
          · have := gld hl
            exact absurd (show gdB (X.2 st) = true from h) (by rw [this]; decide)
    · rw [if_neg hn, if_neg (fun h => h rfl), Option.bind_some]
      have es : gstop X st = st := by
        unfold gstop
        rw [if_neg hn]
      refine fin _ 0 (z1.I (by rfl)) ?_ ?_ ?_ (fun h => absurd h hn)
      · rw [zI_nk (by decide), w18, es]
      · rw [zI_eq]
        unfold grc
        rw [if_neg hn]
        rfl
      · rw [zI_nk (by decide), w22]
theorem stepOn_r {h : zH} {X : gX} {st : Nat} (hX : gOKx X) (hB : grB h X) (hst : st ≤ X.1) (hT : grT h X st) : zw (f_Mod_stepOn h) fun g => zfm [(333, 333, 18, 18), (333, 333, 20, 23)] h g ∧ grT g X (gnt X st) :=
  stepOn_r' hX hB (gstop_spec hst).2.1 hT.1
/-! words -/
theorem ypk_inj {a b : Nat → Nat} : ∀ {m n : Nat}, (∀ i, i < m → 1 ≤ a i ∧ a i ≤ 26) → (∀ i, i < n → 1 ≤ b i ∧ b i ≤ 26) → ypk a m = ypk b n → m = n ∧ ∀ i, i < m → a i = b i
  | 0, 0, _, _, _ => ⟨rfl, fun i hi => absurd hi (Nat.not_lt_zero i)⟩
  | 0, n + 1, _, hb, e => by
    have := hb n (by omega)
    rw [ypk, ypk] at e
    omega
  | m + 1, 0, ha, _, e => by
    have := ha m (by omega)
    rw [ypk, ypk] at e
    omega
  | m + 1, n + 1, ha, hb, e => by
    have h1 := ha m (by omega)
    have h2 := hb n (by omega)
    rw [ypk, ypk] at e
    have e2 : ypk a m = ypk b n ∧ a m = b n := by omega
    obtain ⟨i1, i2⟩ := ypk_inj (m := m) (n := n) (fun i hi => ha i (by omega)) (fun i hi => hb i (by omega)) e2.1
    refine ⟨by omega, fun i hi => ?_⟩
    by_cases h : i = m
    · subst h
      rw [e2.2, i1]
    · exact i2 i (by omega)
theorem ypk_cong {a b : Nat → Nat} : ∀ {m : Nat}, (∀ i, i < m → a i = b i) → ypk a m = ypk b m
  | 0, _ => rfl
  | m + 1, h => by rw [ypk, ypk, ypk_cong (fun i hi => h i (by omega)), h m (by omega)]
theorem gnm_ok {X : gX} {st : Nat} (hX : gOKx X) (hst : st < X.1) (hl : glt X st = true) : (∀ i, i < gsz X st → 97 ≤ X.2 (st + i) ∧ X.2 (st + i) ≤ 122 ∧ 1 ≤ gnm X st i ∧ gnm X st i ≤ 26 ∧ st + i < X.1) ∧ 1 ≤ gsz X st := by
  obtain ⟨s1, s2, s3, s4⟩ := gsc_spec (P := glt X) (show st ≤ X.1 by omega)
  have s5 := gsc_lt hst hl
  have es : gstop X st = gsc (glt X) X.1 st := by
    unfold gstop
    rw [if_pos hst, if_pos hl]
  have ez : gsz X st = gsc (glt X) X.1 st - st := by
    unfold gsz
    rw [es]
  refine ⟨fun i hi => ?_, by omega⟩
  have h1 : glB (X.2 (st + i)) = true := s3 (st + i) (by omega) (by omega)
  unfold glB at h1
  rw [Bool.and_eq_true, decide_eq_true_eq, decide_eq_true_eq] at h1
  unfold gnm
  omega
/-- the words' letters, their codes -/
def gwb (j k : Nat) : Nat := (zch j (zJ k)).toNatClampNeg
def gwl (j : Nat) : Nat := zslen.getD j 0
def gwj (j : Nat) : Nat := if j < 6 then 11 + j else j
theorem gwl_all : ∀ j, j < 11 → f_Str_length (1000010 + j) = some (zJ (gwl j)) ∧ 1 ≤ gwl j ∧ gwl j ≤ 6 := by decide +kernel
theorem gwb_all : ∀ j, j < 11 → ∀ k, k < gwl j → f_Str_charAt (1000010 + j) (zJ k) = some (zJ (gwb j k)) ∧ 97 ≤ gwb j k ∧ gwb j k ≤ 122 := by decide +kernel
def gwv (j : Nat) : Nat := ypk (fun k => gwb j k - 96) (gwl j)
