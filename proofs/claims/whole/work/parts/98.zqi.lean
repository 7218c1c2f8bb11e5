/-! ===== where a clause ends; the whole text ===== -/
theorem glp_pos {X : gX} {C : gD → Nat → Nat} {U : gD → Nat → gD} {d : gD × Nat} : ∀ {f : Nat} {D : gD} {st : Nat} {b : Bool}, glp X C U f D st b = .inr d → st ≤ X.1 → st ≤ d.2 ∧ gcc X d.2 = 3
  | 0, D, st, b, h, hs => by cases h
  | f + 1, D, st, b, h, hs => by
    rw [glp] at h
    by_cases h1 : b = true ∧ gcc X st = 3
    · rw [if_pos h1] at h
      cases h
      exact ⟨Nat.le_refl _, h1.2⟩
    · rw [if_neg h1] at h
      by_cases h2 : C D st = 0
      · rw [if_pos h2] at h
        have n := gnt_spec (X := X) hs
        have := glp_pos h n.2.1
        exact ⟨by omega, this.2⟩
      · rw [if_neg h2] at h
        cases h
theorem gfrm_pos {X : gX} {least most : Nat} {d : gD × Nat} : ∀ {f i : Nat} {D : gD} {st : Nat}, gfrm X least most f i D st = .inr d → st ≤ X.1 → st ≤ d.2 ∧ gcc X d.2 = 3
  | 0, i, D, st, h, hs => by cases h
  | f + 1, i, D, st, h, hs => by
    rw [gfrm] at h
    by_cases h1 : least ≤ i ∧ gcc X st = 3
    · rw [if_pos h1] at h
      cases h
      exact ⟨Nat.le_refl _, h1.2⟩
    · rw [if_neg h1] at h
      by_cases h2 : i = most
      · rw [if_pos h2] at h
        cases h
      · rw [if_neg h2] at h
        by_cases h3 : glC X D st = 0
        · rw [if_pos h3] at h
          have n := gnt_spec (X := X) hs
          have := gfrm_pos h n.2.1
          exact ⟨by omega, this.2⟩
        · rw [if_neg h3] at h
          cases h
theorem gEnd_pos {X : gX} {D : gD} {st : Nat} {d : gD × Nat} (h : gEnd X D st = .inr d) : d.2 = st ∧ gcc X d.2 = 3 := by
  unfold gEnd at h
  by_cases h3 : gcc X st = 3
  · rw [if_pos h3] at h
    cases h
    exact ⟨rfl, h3⟩
  · rw [if_neg h3] at h
    cases h
theorem gClause_pos {X : gX} {D : gD} {st : Nat} {d : gD × Nat} (h : gClause X D st = .inr d) (hst : st < X.1) : st < d.2 ∧ gcc X d.2 = 3 := by
  obtain ⟨n1, n2, n3⟩ := gnt_spec (X := X) (show st ≤ X.1 by omega)
  have n4 := n3 hst
  have m := gnt_spec (X := X) n2
  have k := gnt_spec (X := X) m.2.1
  unfold gClause at h
  by_cases h5 : gcc X st = 5
  · rw [if_pos h5] at h
    unfold gGate at h
    split at h
    · split at h
      · split at h
        · have := gfrm_pos h k.2.1
          omega
        · cases h
      · cases h
    · cases h
  · rw [if_neg h5] at h
    by_cases h6 : gcc X st = 6
    · rw [if_pos h6] at h
      split at h
      · cases h
      · have := glp_pos h n2
        omega
    · rw [if_neg h6] at h
      by_cases h7 : gcc X st = 7
      · rw [if_pos h7] at h
        have := glp_pos h n2
        omega
      · rw [if_neg h7] at h
        by_cases h8 : gcc X st = 8
        · rw [if_pos h8] at h
          split at h
          · cases h
          · have := glp_pos h n2
            omega
        · rw [if_neg h8] at h
          by_cases h9 : gcc X st = 9
          · rw [if_pos h9] at h
            unfold gTakeC at h
            split at h
            · split at h
              · cases h
              · split at h
                · split at h
                  · have := gEnd_pos h
                    omega
                  · cases h
                · cases h
            · cases h
          · rw [if_neg h9] at h
            by_cases h10 : gcc X st = 10
            · rw [if_pos h10] at h
              unfold gFillC at h
              split at h
              · cases h
              · split at h
                · split at h
                  · have := gEnd_pos h
                    omega
                  · cases h
                · cases h
            · rw [if_neg h10] at h
              cases h
theorem gcc_0 {X : gX} {st : Nat} : gcc X st ≠ 0 ↔ st < X.1 := by
  have hw := gwc_rng (ypk (gnm X st) (gsz X st))
  unfold gcc
  by_cases h0 : st < X.1
  · rw [if_pos h0]
    refine ⟨fun _ => h0, fun _ => ?_⟩
    split
    · split <;> omega
    · split
      · omega
      · split
        · omega
        · split <;> omega
  · rw [if_neg h0]
    exact ⟨fun h => absurd rfl h, fun h => absurd h h0⟩
def gFr (o : Nat) : List (Nat × Nat × Nat × Nat) := [(1, 1, 2, 3), (2, 2, 1, 7), (o, o + 34, 0, 9999)]
theorem gFr_s {o : Nat} {h h' : zH} (q : zfm (gFo o) h h') : zfm (gFr o) h h' := q.sub' (fun a b hab => by
  unfold zin gFo at hab
  unfold zin gFr
  simp only [List.any_cons, List.any_nil, Bool.or_false, Bool.or_eq_true, Bool.and_eq_true, Nat.ble_eq] at hab ⊢
  omega)
theorem gminJ {a b : Nat} (ha : a < 2147483648) (hb : b < 2147483648) : f_Math_min (zJ a) (zJ b) = some (zJ (min a b)) := by
  unfold f_Math_min
  by_cases h : b < a
  · rw [if_pos (by rw [zJ_lt hb ha]; exact h), show min a b = b by omega]
  · rw [if_neg (by rw [zJ_lt hb ha]; exact h), show min a b = a by omega]
/-- a whole text read -/
def gText (X : gX) : (Nat × Nat) ⊕ gD := gRead X 901 gd0 (gsc (gbl X) X.1 0)
theorem clear_c {h : zH} {o : Nat} (h4 : 4 ≤ o) : zw (f_Net_clear o h) fun g => zfm [(o, o + 34, 0, 9999)] h g ∧ gcD g o gd0 0 := by
  unfold f_Net_clear
  rw [Option.bind_some, Option.bind_some, Option.bind_some, Option.bind_some, Option.bind_some, Option.bind_some, Option.bind_some]
  refine zw_some ⟨((((((zfm.rfl'.I (zin_1 (by omega) (by omega) (by omega) (by omega))).I (zin_1 (by omega) (by omega) (by omega) (by omega))).I (zin_1 (by omega) (by omega) (by omega) (by omega))).I (zin_1 (by omega) (by omega) (by omega) (by omega))).I (zin_1 (by omega) (by omega) (by omega) (by omega))).I (zin_1 (by omega) (by omega) (by omega) (by omega))).I (zin_1 (by omega) (by omega) (by omega) (by omega)), ?_, ?_, ?_, ?_, ?_, fun l hl => ?_, fun l hl => ?_, fun l hl => absurd hl (Nat.not_lt_zero l), fun l hl => absurd hl (Nat.not_lt_zero l), fun l hl => absurd hl (Nat.not_lt_zero l)⟩
  · rw [zI_nk (by decide), zI_nk (by decide), zI_nk (by decide), zI_nk (by decide), zI_nk (by decide), zI_nk (by decide), zI_eq]
    rfl
  · rw [zI_nk (by decide), zI_nk (by decide), zI_nk (by decide), zI_nk (by decide), zI_nk (by decide), zI_eq]
    rfl
  · rw [zI_nk (by decide), zI_nk (by decide), zI_nk (by decide), zI_nk (by decide), zI_eq]
    rfl
  · rw [zI_nk (by decide), zI_nk (by decide), zI_nk (by decide), zI_eq]
    rfl
  · rw [zI_nk (by decide), zI_nk (by decide), zI_eq]
    rfl
  · rw [zI_nk (by decide), zI_eq, zBi_0]
    rfl
  · rw [zI_eq, zBi_0]
    rfl
theorem read_c {h : zH} {X : gX} {o tl : Nat} (hX : gOKx X) (ho : 4 ≤ o) (ho2 : o + 34 < 74) (hr : h.2.2.1 1 1 = some (3, o)) (htl : h.1 2 1 = zJ tl) (hn : X.1 ≤ tl) (ht9 : tl ≤ 900) (hb : ∀ k, k < X.1 → h.1 3 k = gsB (X.2 k)) : zw (f_Parser_read h (zJ X.1)) fun y => zfm (gFr o) h y.2 ∧ y.2.1 2 1 = 0 ∧ Sum.elim (fun e : Nat × Nat => y.1 = zJ e.1 ∧ y.2.1 1 3 = zJ e.2 ∧ 1 ≤ e.1 ∧ e.1 ≤ 5) (fun D : gD => y.1 = 0 ∧ y.2.1 1 3 = -1 ∧ gcD y.2 o D (dL D) ∧ gOKd D ∧ gNE D) (gText X) := by
  obtain ⟨x1, x2⟩ := id hX
  unfold f_Parser_read
  rw [hr, zgr_eq]
  refine zw_bi (clear_c ho) ?_
  rintro g1 ⟨q1, d1⟩
  rw [Option.bind_some, Option.bind_some]
  unfold f_Tape_beginText
  rw [zI_ne (by decide), zI_ne (by decide), q1.i (zin_n1 (by omega)), htl, gminJ (by omega) (by omega), show min X.1 tl = X.1 by omega, Option.bind_some, Option.bind_some, Option.bind_some, Option.bind_some]
  have z5 : zfm (gFr o) h (zsI (zsI (zsI (zsI g1 1 2 0) 1 3 (-1)) 2 2 (zJ X.1)) 2 3 0) := (((((gFr_s (gFo_o q1)).I (zin_1 (by omega) (by omega) (by omega) (by omega))).I (zin_1 (by omega) (by omega) (by omega) (by omega))).I (zin_2 (zin_1 (by omega) (by omega) (by omega) (by omega)))).I (zin_2 (zin_1 (by omega) (by omega) (by omega) (by omega))))
  have w5 : zfm [(1, 1, 2, 3), (2, 2, 2, 3)] g1 (zsI (zsI (zsI (zsI g1 1 2 0) 1 3 (-1)) 2 2 (zJ X.1)) 2 3 0) := (((zfm.rfl'.I (by rfl)).I (by rfl)).I (by rfl)).I (by rfl)
  have c12 : (zsI (zsI (zsI (zsI g1 1 2 0) 1 3 (-1)) 2 2 (zJ X.1)) 2 3 0).1 1 2 = 0 := by
    rw [zI_ne (by decide), zI_ne (by decide), zI_nk (by decide), zI_eq]
  have c13 : (zsI (zsI (zsI (zsI g1 1 2 0) 1 3 (-1)) 2 2 (zJ X.1)) 2 3 0).1 1 3 = -1 := by
    rw [zI_ne (by decide), zI_ne (by decide), zI_eq]
  have c22 : (zsI (zsI (zsI (zsI g1 1 2 0) 1 3 (-1)) 2 2 (zJ X.1)) 2 3 0).1 2 2 = zJ X.1 := by
    rw [zI_nk (by decide), zI_eq]
  have c23 : (zsI (zsI (zsI (zsI g1 1 2 0) 1 3 (-1)) 2 2 (zJ X.1)) 2 3 0).1 2 3 = zJ 0 := zI_eq
  generalize zsI (zsI (zsI (zsI g1 1 2 0) 1 3 (-1)) 2 2 (zJ X.1)) 2 3 0 = g5 at *
  have hB : gcB g5 X := ⟨c22, fun k hk => by
    rw [w5.i (zin_n2 (by omega) (by omega)), q1.i (zin_n1 (by omega))]
    exact hb k hk⟩
  have hD5 : gcD g5 o gd0 0 := d1.fr (by omega) (by decide) w5 (fun a k h1 h2 => zin_n2 (by omega) (by omega))
  have hr5 : g5.2.2.1 1 1 = some (3, o) := by
    rw [z5.1]
    exact hr
  refine zw_bi (advance_c hX hB (Nat.zero_le _) c23) ?_
  rintro g6 ⟨q6, t6⟩
  have sp0 := (gsc_spec (P := gbl X) (n := X.1) (p := 0) (Nat.zero_le _)).2.1
  have S6 : gCS g6 X o gd0 (dL gd0) (gsc (gbl X) X.1 0) := ⟨hB.fr q6 (by rfl) (fun k => zin_n1 (by omega)), t6, by rw [q6.1]; exact hr5, hD5.fr (by omega) (by decide) q6 (fun a k h1 h2 => zin_n1 (by omega)), (q6.i (by rfl)).trans c12, (q6.i (by rfl)).trans c13⟩
  have z6 := z5.trans (gFr_s (gFo_2 q6))
  have e1 : gText X = gRead X 901 gd0 (gsc (gbl X) X.1 0) := rfl
  generalize gText X = R at *
  refine zw_bi (P := fun g => zfm (gFr o) h g ∧ Sum.elim (fun e : Nat × Nat => g.1 1 2 = zJ e.1 ∧ g.1 1 3 = zJ e.2 ∧ 1 ≤ e.1 ∧ e.1 ≤ 5) (fun D : gD => g.1 1 2 = 0 ∧ g.1 1 3 = -1 ∧ gcD g o D (dL D) ∧ gOKd D ∧ gNE D) R) (zw_for 900 (fun i s => s.2.1 = zJ i ∧ zfm (gFr o) h s.2.2 ∧ ((s.1 = 1 ∧ ∃ D st, gCS s.2.2 X o D (dL D) st ∧ gOKd D ∧ gNE D ∧ st ≤ X.1 ∧ i ≤ st ∧ R = gRead X (901 - i) D st) ∨ (s.1 = 0 ∧ ∃ e, R = .inl e ∧ s.2.2.1 1 2 = zJ e.1 ∧ s.2.2.1 1 3 = zJ e.2 ∧ 1 ≤ e.1 ∧ e.1 ≤ 5))) (by omega) ⟨rfl, z6, Or.inl ⟨rfl, gd0, _, S6, ok_0, fun c hc => absurd hc (Nat.not_lt_zero c), sp0, Nat.zero_le _, e1⟩⟩ ?_) ?_
  · rintro i ⟨w, b, g⟩ hi ⟨rfl, hz, hcase⟩
    dsimp only at hz hcase ⊢
    unfold f_Parser_read_b36
    have fin : (∀ D st, gCS g X o D (dL D) st → gOKd D → gNE D → R = gRead X (901 - i) D st → w = 1 → gcc X st = 0) → zw (some (.inr g) : Option ((Int32 × Int32 × zH) ⊕ zH)) (Sum.elim (fun s' => i < 900 ∧ s'.2.1 = zJ (i + 1) ∧ zfm (gFr o) h s'.2.2 ∧ ((s'.1 = 1 ∧ ∃ D st, gCS s'.2.2 X o D (dL D) st ∧ gOKd D ∧ gNE D ∧ st ≤ X.1 ∧ i + 1 ≤ st ∧ R = gRead X (901 - (i + 1)) D st) ∨ (s'.1 = 0 ∧ ∃ e, R = .inl e ∧ s'.2.2.1 1 2 = zJ e.1 ∧ s'.2.2.1 1 3 = zJ e.2 ∧ 1 ≤ e.1 ∧ e.1 ≤ 5))) fun g => zfm (gFr o) h g ∧ Sum.elim (fun e : Nat × Nat => g.1 1 2 = zJ e.1 ∧ g.1 1 3 = zJ e.2 ∧ 1 ≤ e.1 ∧ e.1 ≤ 5) (fun D : gD => g.1 1 2 = 0 ∧ g.1 1 3 = -1 ∧ gcD g o D (dL D) ∧ gOKd D ∧ gNE D) R) := by
      intro hf
      refine zw_some ⟨hz, ?_⟩
      rcases hcase with ⟨hw, D, st, s1, s2, s3, s4, s5, s6⟩ | ⟨hw, e, s1, s2⟩
      · have h0 := hf D st s1 s2 s3 s6 hw
        have hR : R = .inr D := by
          rw [s6, show 901 - i = (900 - i) + 1 by omega, gRead, if_pos h0]
        rw [hR]
        exact ⟨s1.2.2.2.2.1, s1.2.2.2.2.2, s1.2.2.2.1, s2, s3⟩
      · rw [s1]
        exact s2
    by_cases hi9 : i < 900
    · rw [if_neg (by rw [zJ_lle (n := 900) (by omega) (by decide)]; show ¬ 900 ≤ i; omega)]
      rcases hcase with ⟨rfl, D, st, s1, s2, s3, s4, s5, s6⟩ | ⟨rfl, e, s1, s2⟩
      · have cl := gcc_le (X := X) (st := st)
        have k0 : zJ (gcc X st) = 0 ↔ gcc X st = 0 := zJ_inj (by omega) (by decide)
        rw [if_neg (by decide), s1.2.1.2.1]
        by_cases h0 : gcc X st = 0
        · rw [if_pos (k0.mpr h0)]
          refine zw_some ⟨hz, ?_⟩
          have hR : R = .inr D := by
            rw [s6, show 901 - i = (900 - i) + 1 by omega, gRead, if_pos h0]
          rw [hR]
          exact ⟨s1.2.2.2.2.1, s1.2.2.2.2.2, s1.2.2.2.1, s2, s3⟩
        · rw [if_neg (fun h => h0 (k0.mp h))]
          have hst := gcc_0.mp h0
          rw [show 901 - i = (900 - i) + 1 by omega, gRead, if_neg h0] at s6
          refine zw_bi (readClause_c hX ho s1 s2 s3 hst) ?_
          rintro ⟨y1, y2⟩ ⟨r1, ⟨s', r2, r3⟩, r4⟩
          dsimp only at r1 r2 r3 r4 ⊢
          have hz2 := hz.trans (gFr_s r1)
          cases hC : gClause X D st with
          | inl e =>
            rw [hC] at r4 s6
            obtain ⟨f1, f2, f3, f4, f5⟩ := r4
            have hB2 : gcB y2 X := s1.1.fr r1 (by
              unfold zin gFo
              simp only [List.any_cons, List.any_nil, Bool.or_false, Bool.or_eq_false_iff, Bool.and_eq_false_iff]
              refine ⟨by decide, by decide, ?_⟩
              left
              left
              left
              rw [← Bool.not_eq_true, Nat.ble_eq]
              omega) (fun k => by
              cases hz : zin (gFo o) 3 k
              · rfl
              · unfold zin gFo at hz
                simp only [List.any_cons, List.any_nil, Bool.or_false, Bool.or_eq_true, Bool.and_eq_true, Nat.ble_eq] at hz
                omega)
            refine zw_bi (adv_c hX hB2 r2 r3) ?_
            rintro g8 ⟨q8, t8⟩
            refine zw_some ⟨hi9, by rw [zJ_al], hz2.trans (gFr_s (gFo_2 q8)), Or.inr ⟨f1, e, s6, (q8.i (by rfl)).trans f2, (q8.i (by rfl)).trans f3, f4, f5⟩⟩
          | inr d =>
            rw [hC] at r4 s6
            obtain ⟨f1, f2, f3, f4, f5⟩ := r4
            obtain ⟨a1, a2, a3, a4⟩ := gOK_n f3
            obtain ⟨p1, p2⟩ := gClause_pos hC hst
            obtain ⟨n1, n2, n3⟩ := gnt_spec (X := X) f5
            refine zw_bi (f2.adv hX f5 (by omega) a4 ho) ?_
            rintro g8 ⟨q8, t8⟩
            refine zw_some ⟨hi9, by rw [zJ_al], hz2.trans (gFr_s q8), Or.inl ⟨f1, d.1, gnt X d.2, t8, f3, f4, n2, by omega, ?_⟩⟩
            rw [s6, show 901 - (i + 1) = 900 - i by omega]
            rfl
      · rw [if_pos rfl]
        exact zw_some ⟨hz, by rw [s1]; exact s2⟩
    · rw [if_pos (by rw [zJ_lle (n := 900) (by omega) (by decide)]; show 900 ≤ i; omega)]
      rcases hcase with ⟨hw, D, st, s1, s2, s3, s4, s5, s6⟩ | ⟨hw, e, s1, s2⟩
      · have h0 : gcc X st = 0 := by
          by_cases h : gcc X st = 0
          · exact h
          · have := gcc_0.mp h
            omega
        refine zw_some ⟨hz, ?_⟩
        have hR : R = .inr D := by
          rw [s6, show 901 - i = (900 - i) + 1 by omega, gRead, if_pos h0]
        rw [hR]
        exact ⟨s1.2.2.2.2.1, s1.2.2.2.2.2, s1.2.2.2.1, s2, s3⟩
      · exact zw_some ⟨hz, by rw [s1]; exact s2⟩
  · rintro g ⟨hz, hv⟩
    unfold f_Tape_clear
    rw [Option.bind_some, Option.bind_some]
    have q : zfm [(2, 2, 1, 1)] g (zsI g 2 1 0) := zfm.rfl'.I (by rfl)
    refine zw_some ⟨hz.I (zin_2 (zin_1 (by omega) (by omega) (by omega) (by omega))), zI_eq, ?_⟩
    cases R with
    | inl e =>
      obtain ⟨f1, f2, f3, f4⟩ := hv
      exact ⟨(q.i (by rfl)).trans f1, (q.i (by rfl)).trans f2, f3, f4⟩
    | inr D =>
      obtain ⟨f1, f2, f3, f4, f5⟩ := hv
      obtain ⟨a1, a2, a3, a4⟩ := gOK_n f4
      exact ⟨(q.i (by rfl)).trans f1, (q.i (by rfl)).trans f2, f3.fr (by omega) a4 q (fun a k h1 h2 => zin_n1 (by omega)), f4, f5⟩
