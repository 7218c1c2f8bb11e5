/-! ===== the class writes its draft ===== -/
theorem nameNext_c {h : zH} {o n : Nat} {D : gD} {a b v3 : Int32} (hD : gcD h o D n) (hk : gOKd D) (hl : dL D < 22) : zw (f_Net_nameNext o h a b v3) fun g => zfm [(o + 1, o + 4, dL D, dL D)] h g ∧ g.1 (o + 1) (dL D) = a ∧ g.1 (o + 2) (dL D) = b ∧ g.1 (o + 3) (dL D) = v3 ∧ g.1 (o + 4) (dL D) = 0 := by
  unfold f_Net_nameNext
  rw [gLines_c hD hk, Option.bind_some, if_pos (by rw [zJ_ltl (n := 22) (by omega) (by decide)]; exact hl), zb_t hl (by omega), zg_tr, Option.bind_some, zg_tr, Option.bind_some, zg_tr, Option.bind_some, zg_tr, Option.bind_some, zJ_c (by omega)]
  refine zw_some ⟨(((zfm.rfl'.I (zin_1 (by omega) (by omega) (by omega) (by omega))).I (zin_1 (by omega) (by omega) (by omega) (by omega))).I (zin_1 (by omega) (by omega) (by omega) (by omega))).I (zin_1 (by omega) (by omega) (by omega) (by omega)), ?_, ?_, ?_, zI_eq⟩
  · rw [zI_ne (by omega), zI_ne (by omega), zI_ne (by omega), zI_eq]
  · rw [zI_ne (by omega), zI_ne (by omega), zI_eq]
  · rw [zI_ne (by omega), zI_eq]
theorem addInput_c {h : zH} {o z : Nat} {D : gD} {nm : Nat → Nat} (hD : gcD h o D (dL D)) (hk : gOKd D) (he : dL D = dI D) (h6 : dI D < 6) : zw (f_Net_addInput o h (zJ (ypk nm z)) (zJ z)) fun g => zfm [(o, o + 34, 0, 9999)] h g ∧ gcD g o (gAddI D z nm) (dL D + 1) := by
  obtain ⟨a1, a2, a3, a4⟩ := gOK_n hk
  obtain ⟨h1, h2, h3, h4, h5, h6', h7, h8, h9, h10⟩ := id hD
  unfold f_Net_addInput
  rw [h1, if_pos (by rw [zJ_ltl (n := 6) (by omega) (by decide)]; exact h6)]
  refine zw_bi (nameNext_c hD hk (by omega)) ?_
  rintro g1 ⟨q1, v1, v2, v3, v4⟩
  have e0 : g1.1 o 0 = zJ (dI D) := (q1.i (zin_n1 (by omega))).trans h1
  rw [e0, zb_t h6 (by omega), zg_tr, Option.bind_some, zI_ne (by omega), e0, zb_t h6 (by omega), zg_tr, Option.bind_some, zI_ne (by omega), zI_ne (by omega), e0, Option.bind_some, zJ_c (by omega), zJ_al]
  have Q : zfm [(o + 1, o + 4, dL D, dL D), (o + 28, o + 29, dI D, dI D), (o, o, 0, 0)] h (zsI (zsI (zsI g1 (o + 28) (dI D) (-1)) (o + 29) (dI D) (-1)) o 0 (zJ (dI D + 1))) := (((q1.sub' (fun a b hab => by
    rw [show ([(o + 1, o + 4, dL D, dL D), (o + 28, o + 29, dI D, dI D), (o, o, 0, 0)] : List (Nat × Nat × Nat × Nat)) = (o + 1, o + 4, dL D, dL D) :: [(o + 28, o + 29, dI D, dI D), (o, o, 0, 0)] from rfl]
    unfold zin at hab ⊢
    rw [List.any_cons, Bool.or_eq_true]
    simp only [List.any_cons, List.any_nil, Bool.or_false] at hab
    exact Or.inl hab)).I (zin_2 (zin_1 (by omega) (by omega) (by omega) (by omega)))).I (zin_2 (zin_1 (by omega) (by omega) (by omega) (by omega)))).I (zin_2 (zin_2 (zin_1 (by omega) (by omega) (by omega) (by omega))))
  have c0 : (zsI (zsI (zsI g1 (o + 28) (dI D) (-1)) (o + 29) (dI D) (-1)) o 0 (zJ (dI D + 1))).1 o 0 = zJ (dI D + 1) := zI_eq
  have c28 : (zsI (zsI (zsI g1 (o + 28) (dI D) (-1)) (o + 29) (dI D) (-1)) o 0 (zJ (dI D + 1))).1 (o + 28) (dI D) = -1 := by
    rw [zI_ne (by omega), zI_ne (by omega), zI_eq]
  have c29 : (zsI (zsI (zsI g1 (o + 28) (dI D) (-1)) (o + 29) (dI D) (-1)) o 0 (zJ (dI D + 1))).1 (o + 29) (dI D) = -1 := by
    rw [zI_ne (by omega), zI_eq]
  have c14 : ∀ a, o + 1 ≤ a → a ≤ o + 4 → (zsI (zsI (zsI g1 (o + 28) (dI D) (-1)) (o + 29) (dI D) (-1)) o 0 (zJ (dI D + 1))).1 a (dL D) = g1.1 a (dL D) := fun a b1 b2 => by
    rw [zI_ne (by omega), zI_ne (by omega), zI_ne (by omega)]
  generalize zsI (zsI (zsI g1 (o + 28) (dI D) (-1)) (o + 29) (dI D) (-1)) o 0 (zJ (dI D + 1)) = g at *
  refine zw_some ⟨Q.sub' (fun a b hab => ?_), c0, ?_, ?_, ?_, ?_, fun l hl => ?_, fun l hl => ?_, fun l hl => ?_, fun c hc => ?_, fun i hi => ?_⟩
  · unfold zin at hab ⊢
    simp only [List.any_cons, List.any_nil, Bool.or_false, Bool.or_eq_true, Bool.and_eq_true, Nat.ble_eq] at hab ⊢
    omega
  · rw [Q.i (zin_n3 (by omega) (by omega) (by omega)), h2]
    congr 1
    show dL D - dI D = dL D + 1 - (dI D + 1)
    omega
  · rw [Q.i (zin_n3 (by omega) (by omega) (by omega)), h3]
  · rw [Q.i (zin_n3 (by omega) (by omega) (by omega)), h4]
  · rw [Q.i (zin_n3 (by omega) (by omega) (by omega)), h5]
  · rw [Q.i (zin_n3 (by omega) (by omega) (by omega))]
    exact h6' l hl
  · rw [Q.i (zin_n3 (by omega) (by omega) (by omega))]
    exact h7 l hl
  · by_cases e : l = dL D
    · subst e
      refine ⟨?_, ?_, fun _ => ?_, fun hx => absurd (show dI D + 1 ≤ dL D from hx) (by omega)⟩
      · rw [c14 _ (by omega) (by omega), v1]
        show _ = zJ (ypk (gu (dNm D) (dL D) nm (dL D)) (gu (dLn D) (dL D) z (dL D)))
        rw [gu_eq, gu_eq]
      · rw [c14 _ (by omega) (by omega), v2]
        show _ = zJ (gu (dLn D) (dL D) z (dL D))
        rw [gu_eq]
      · rw [c14 _ (by omega) (by omega), c14 _ (by omega) (by omega), v3, v4]
        exact ⟨rfl, rfl⟩
    · obtain ⟨b1, b2, b3, b4⟩ := h8 l (by omega)
      refine ⟨?_, ?_, fun _ => ?_, fun hx => absurd (show dI D + 1 ≤ l from hx) (by omega)⟩
      · rw [Q.i (zin_n3 (by omega) (by omega) (by omega)), b1]
        show _ = zJ (ypk (gu (dNm D) (dL D) nm l) (gu (dLn D) (dL D) z l))
        rw [gu_ne e, gu_ne e]
      · rw [Q.i (zin_n3 (by omega) (by omega) (by omega)), b2]
        show _ = zJ (gu (dLn D) (dL D) z l)
        rw [gu_ne e]
      · rw [Q.i (zin_n3 (by omega) (by omega) (by omega)), Q.i (zin_n3 (by omega) (by omega) (by omega))]
        exact b3 (by omega)
  · have hc' : c < dNc D := hc
    refine ⟨(Q.i (zin_n3 (by omega) (by omega) (by omega))).trans (h9 c hc).1, fun k hkk => (Q.i (zin_n3 (by omega) (by omega) (by omega))).trans ((h9 c hc).2 k hkk)⟩
  · have hi' : i < dI D + 1 := hi
    show g.1 (o + 28) i = zfj (gu (dCo D) (dI D) 0 i) ∧ g.1 (o + 29) i = zfj (gu (dTk D) (dI D) 0 i)
    by_cases e : i = dI D
    · subst e
      rw [gu_eq, gu_eq, c28, c29]
      exact ⟨rfl, rfl⟩
    · rw [gu_ne e, gu_ne e, Q.i (zin_n3 (by omega) (by omega) (by omega)), Q.i (zin_n3 (by omega) (by omega) (by omega))]
      exact h10 i (by omega)
theorem gcD.next {h g : zH} {o z k : Nat} {D : gD} {nm : Nat → Nat} (hD : gcD h o D (dL D)) (hk : gOKd D) (hl : dL D < 22) (q : zfm [(o + 1, o + 4, dL D, dL D)] h g) (v1 : g.1 (o + 1) (dL D) = zJ (ypk nm z)) (v2 : g.1 (o + 2) (dL D) = zJ z) (v3 : g.1 (o + 3) (dL D) = zJ k) (v4 : g.1 (o + 4) (dL D) = 0) : gcD g o (gNext D z nm k) (dL D + 1) := by
  obtain ⟨a1, a2, a3, a4⟩ := gOK_n hk
  obtain ⟨h1, h2, h3, h4, h5, h6', h7, h8, h9, h10⟩ := id hD
  refine ⟨(q.i (zin_n1 (by omega))).trans h1, (q.i (zin_n1 (by omega))).trans h2, (q.i (zin_n1 (by omega))).trans h3, (q.i (zin_n1 (by omega))).trans h4, (q.i (zin_n1 (by omega))).trans h5, fun l hl => ?_, fun l hl => ?_, fun l hl => ?_, fun c hc => ⟨(q.i (zin_n1 (by omega))).trans (h9 c hc).1, fun k hkk => (q.i (zin_n1 (by omega))).trans ((h9 c hc).2 k hkk)⟩, fun i hi => ⟨(q.i (zin_n1 (by omega))).trans (h10 i hi).1, (q.i (zin_n1 (by omega))).trans (h10 i hi).2⟩⟩
  · rw [q.i (zin_n1 (by omega))]
    exact h6' l hl
  · rw [q.i (zin_n1 (by omega))]
    exact h7 l hl
  · by_cases e : l = dL D
    · subst e
      refine ⟨?_, ?_, fun hx => absurd (show dL D < dI D from hx) (by omega), fun _ => ⟨?_, ?_, fun i hi => ?_⟩⟩
      · show _ = zJ (ypk (gu (dNm D) (dL D) nm (dL D)) (gu (dLn D) (dL D) z (dL D)))
        rw [gu_eq, gu_eq, v1]
      · show _ = zJ (gu (dLn D) (dL D) z (dL D))
        rw [gu_eq, v2]
      · show _ = zJ (gu (dkd D) (dL D) k (dL D))
        rw [gu_eq, v3]
      · show _ = zJ (gu (dmn D) (dL D) 0 (dL D))
        rw [gu_eq, v4]
        rfl
      · have hi' : i < gu (dmn D) (dL D) 0 (dL D) := hi
        rw [gu_eq] at hi'
        exact absurd hi' (Nat.not_lt_zero i)
    · have := (h8 l (by omega)).fr (h' := g) (by omega) (fun a k b1 b2 b3 b4 => q.i (zin_n1 (by
        by_cases h : a ≤ o + 4
        · have := b3 h
          omega
        · omega)))
      obtain ⟨b1, b2, b3, b4⟩ := this
      refine ⟨?_, ?_, b3, fun hx => ?_⟩
      · show _ = zJ (ypk (gu (dNm D) (dL D) nm l) (gu (dLn D) (dL D) z l))
        rw [gu_ne e, gu_ne e, b1]
      · show _ = zJ (gu (dLn D) (dL D) z l)
        rw [gu_ne e, b2]
      · show g.1 (o + 3) l = zJ (gu (dkd D) (dL D) k l) ∧ g.1 (o + 4) l = zJ (gu (dmn D) (dL D) 0 l) ∧ ∀ i, i < gu (dmn D) (dL D) 0 l → g.1 ((o + 5) + (1 + 1 * l)) i = zJ (dfr D l i)
        rw [gu_ne e, gu_ne e]
        exact b4 hx
theorem addFrom_c {h : zH} {o k j l : Nat} {D : gD} (hD : gcD h o D (dL D + 1)) (hk : gOKd D) (hp : gPd D k j) (hj : j < 3) (hl : dL D < 22) : zw (f_Net_addFrom o h (zJ l)) fun g => zfm [(o, o + 34, 0, 9999)] h g ∧ gcD g o (gFrom D l) (dL D + 1) := by
  obtain ⟨a1, a2, a3, a4⟩ := gOK_n hk
  obtain ⟨p1, p2, p3, p4⟩ := hp
  obtain ⟨h1, h2, h3, h4, h5, h6', h7, h8, h9, h10⟩ := id hD
  obtain ⟨-, -, -, m4⟩ := h8 (dL D) (by omega)
  obtain ⟨m1, m2, m3⟩ := m4 a2
  rw [p2] at m2 m3
  unfold f_Net_addFrom
  rw [gLines_c hD hk, Option.bind_some, if_neg (by rw [zJ_lle (n := 22) (by omega) (by decide)]; show ¬ 22 ≤ dL D; omega), zb_t hl (by omega), zg_tr, zJ_c (by omega), m2, if_pos (by rw [zJ_ltl (n := 3) (by omega) (by decide)]; exact hj), zg_tr, zg_tr, zb_t hj (by omega), zg_tr, Option.bind_some, zg_tr, zg_tr, zI_ne (by omega), m2, Option.bind_some, zJ_c (by omega), zJ_al]
  have Q : zfm [(o + 6 + dL D, o + 6 + dL D, j, j), (o + 4, o + 4, dL D, dL D)] h (zsI (zsI h (o + 5 + (1 + 1 * dL D)) j (zJ l)) (o + 4) (dL D) (zJ (j + 1))) := (zfm.rfl'.I (zin_1 (by omega) (by omega) (by omega) (by omega))).I (zin_2 (zin_1 (by omega) (by omega) (by omega) (by omega)))
  have c4 : (zsI (zsI h (o + 5 + (1 + 1 * dL D)) j (zJ l)) (o + 4) (dL D) (zJ (j + 1))).1 (o + 4) (dL D) = zJ (j + 1) := zI_eq
  have c5 : (zsI (zsI h (o + 5 + (1 + 1 * dL D)) j (zJ l)) (o + 4) (dL D) (zJ (j + 1))).1 (o + 5 + (1 + 1 * dL D)) j = zJ l := by
    rw [zI_ne (by omega), zI_eq]
  generalize zsI (zsI h (o + 5 + (1 + 1 * dL D)) j (zJ l)) (o + 4) (dL D) (zJ (j + 1)) = g at *
  refine zw_some ⟨Q.sub' (fun a b hab => ?_), (Q.i (zin_n2 (by omega) (by omega))).trans h1, (Q.i (zin_n2 (by omega) (by omega))).trans h2, (Q.i (zin_n2 (by omega) (by omega))).trans h3, (Q.i (zin_n2 (by omega) (by omega))).trans h4, (Q.i (zin_n2 (by omega) (by omega))).trans h5, fun q hq => ?_, fun q hq => ?_, fun q hq => ?_, fun c hc => ?_, fun i hi => ⟨(Q.i (zin_n2 (by omega) (by omega))).trans (h10 i hi).1, (Q.i (zin_n2 (by omega) (by omega))).trans (h10 i hi).2⟩⟩
  · unfold zin at hab ⊢
    simp only [List.any_cons, List.any_nil, Bool.or_false, Bool.or_eq_true, Bool.and_eq_true, Nat.ble_eq] at hab ⊢
    omega
  · rw [Q.i (zin_n2 (by omega) (by omega))]
    exact h6' q hq
  · rw [Q.i (zin_n2 (by omega) (by omega))]
    exact h7 q hq
  · obtain ⟨b1, b2, b3, b4⟩ := h8 q hq
    refine ⟨(Q.i (zin_n2 (by omega) (by omega))).trans b1, (Q.i (zin_n2 (by omega) (by omega))).trans b2, fun hx => ?_, fun hx => ?_⟩
    · have hx' : q < dI D := hx
      rw [Q.i (zin_n2 (by omega) (by omega)), Q.i (zin_n2 (by omega) (by omega))]
      exact b3 hx
    · show g.1 (o + 3) q = zJ (dkd D q) ∧ g.1 (o + 4) q = zJ (gu (dmn D) (dL D) (dmn D (dL D) + 1) q) ∧ ∀ i, i < gu (dmn D) (dL D) (dmn D (dL D) + 1) q → g.1 ((o + 5) + (1 + 1 * q)) i = zJ (gu2 (dfr D) (dL D) (dmn D (dL D)) l q i)
      obtain ⟨b5, b6, b7⟩ := b4 hx
      by_cases e : q = dL D
      · subst e
        rw [gu_eq, p2]
        refine ⟨(Q.i (zin_n2 (by omega) (by omega))).trans b5, c4, fun i hi => ?_⟩
        by_cases ei : i = j
        · subst ei
          rw [gu2_eq, c5]
        · rw [gu2_ne (by omega), Q.i (zin_n2 (by omega) (by omega))]
          exact m3 i (by omega)
      · rw [gu_ne e]
        refine ⟨(Q.i (zin_n2 (by omega) (by omega))).trans b5, (Q.i (zin_n2 (by omega) (by omega))).trans b6, fun i hi => ?_⟩
        rw [gu2_ne (by omega), Q.i (zin_n2 (by omega) (by omega))]
        exact b7 i hi
  · have hc' : c < dNc D := hc
    exact ⟨(Q.i (zin_n2 (by omega) (by omega))).trans (h9 c hc).1, fun k hkk => (Q.i (zin_n2 (by omega) (by omega))).trans ((h9 c hc).2 k hkk)⟩
theorem addCell_c {h : zH} {o i : Nat} {D : gD} (hD : gcD h o D (dL D)) (hk : gOKd D) (hc : 1 ≤ dNc D) (hi : i < dI D) (h0 : dCo D i = 0) : zw (f_Net_addCell o h (zJ (dNc D - 1)) (zJ i)) fun g => zfm [(o, o + 34, 0, 9999)] h g ∧ gcD g o (gCell D i) (dL D) := by
  obtain ⟨a1, a2, a3, a4⟩ := gOK_n hk
  have hlt := (ok_Cell hk hc hi h0).2
  obtain ⟨h1, h2, h3, h4, h5, h6', h7, h8, h9, h10⟩ := id hD
  obtain ⟨n1, n2⟩ := h9 (dNc D - 1) (by omega)
  unfold f_Net_addCell
  rw [if_neg (by rw [zJ_lle (n := 3) (by omega) (by decide)]; show ¬ 3 ≤ dNc D - 1; omega), zb_t (by omega) (by omega), zg_tr, zJ_c (by omega), n1, if_pos (by rw [zJ_ltl (n := 6) (by omega) (by decide)]; exact hlt), zb_t (by omega) (by omega), zg_tr, Option.bind_some, zg_tr, zg_tr, zI_ne (by omega), n1, zb_t hlt (by omega), zg_tr, Option.bind_some, zg_tr, zg_tr, zI_ne (by omega), zI_ne (by omega), n1, Option.bind_some, zJ_c (by omega), zJ_c (by omega), zJ_al]
  have Q : zfm [(o + 28, o + 28, i, i), (o + 31 + (dNc D - 1), o + 31 + (dNc D - 1), dCn D (dNc D - 1), dCn D (dNc D - 1)), (o + 34, o + 34, dNc D - 1, dNc D - 1)] h (zsI (zsI (zsI h (o + 28) i (zJ (dNc D - 1))) (o + 30 + (1 + 1 * (dNc D - 1))) (dCn D (dNc D - 1)) (zJ i)) (o + 34) (dNc D - 1) (zJ (dCn D (dNc D - 1) + 1))) := ((zfm.rfl'.I (zin_1 (by omega) (by omega) (by omega) (by omega))).I (zin_2 (zin_1 (by omega) (by omega) (by omega) (by omega)))).I (zin_2 (zin_2 (zin_1 (by omega) (by omega) (by omega) (by omega))))
  have c28 : (zsI (zsI (zsI h (o + 28) i (zJ (dNc D - 1))) (o + 30 + (1 + 1 * (dNc D - 1))) (dCn D (dNc D - 1)) (zJ i)) (o + 34) (dNc D - 1) (zJ (dCn D (dNc D - 1) + 1))).1 (o + 28) i = zJ (dNc D - 1) := by
    rw [zI_ne (by omega), zI_ne (by omega), zI_eq]
  have c31 : (zsI (zsI (zsI h (o + 28) i (zJ (dNc D - 1))) (o + 30 + (1 + 1 * (dNc D - 1))) (dCn D (dNc D - 1)) (zJ i)) (o + 34) (dNc D - 1) (zJ (dCn D (dNc D - 1) + 1))).1 (o + 30 + (1 + 1 * (dNc D - 1))) (dCn D (dNc D - 1)) = zJ i := by
    rw [zI_ne (by omega), zI_eq]
  have c34 : (zsI (zsI (zsI h (o + 28) i (zJ (dNc D - 1))) (o + 30 + (1 + 1 * (dNc D - 1))) (dCn D (dNc D - 1)) (zJ i)) (o + 34) (dNc D - 1) (zJ (dCn D (dNc D - 1) + 1))).1 (o + 34) (dNc D - 1) = zJ (dCn D (dNc D - 1) + 1) := zI_eq
  generalize zsI (zsI (zsI h (o + 28) i (zJ (dNc D - 1))) (o + 30 + (1 + 1 * (dNc D - 1))) (dCn D (dNc D - 1)) (zJ i)) (o + 34) (dNc D - 1) (zJ (dCn D (dNc D - 1) + 1)) = g at *
  refine zw_some ⟨Q.sub' (fun a b hab => ?_), (Q.i (zin_n3 (by omega) (by omega) (by omega))).trans h1, (Q.i (zin_n3 (by omega) (by omega) (by omega))).trans h2, (Q.i (zin_n3 (by omega) (by omega) (by omega))).trans h3, (Q.i (zin_n3 (by omega) (by omega) (by omega))).trans h4, (Q.i (zin_n3 (by omega) (by omega) (by omega))).trans h5, fun q hq => ?_, fun q hq => ?_, fun q hq => (h8 q hq).fr (by omega) (fun a k b1 b2 b3 b4 => Q.i (zin_n3 (by omega) (by omega) (by omega))), fun c hcc => ?_, fun j hj => ?_⟩
  · unfold zin at hab ⊢
    simp only [List.any_cons, List.any_nil, Bool.or_false, Bool.or_eq_true, Bool.and_eq_true, Nat.ble_eq] at hab ⊢
    omega
  · rw [Q.i (zin_n3 (by omega) (by omega) (by omega))]
    exact h6' q hq
  · rw [Q.i (zin_n3 (by omega) (by omega) (by omega))]
    exact h7 q hq
  · have hc' : c < dNc D := hcc
    show g.1 (o + 34) c = zJ (gu (dCn D) (dNc D - 1) (dCn D (dNc D - 1) + 1) c) ∧ ∀ k, k < gu (dCn D) (dNc D - 1) (dCn D (dNc D - 1) + 1) c → g.1 ((o + 30) + (1 + 1 * c)) k = zJ (gu2 (dCl D) (dNc D - 1) (dCn D (dNc D - 1)) i c k)
    by_cases e : c = dNc D - 1
    · subst e
      rw [gu_eq]
      refine ⟨c34, fun k hkk => ?_⟩
      by_cases ek : k = dCn D (dNc D - 1)
      · subst ek
        rw [gu2_eq, c31]
      · rw [gu2_ne (by omega), Q.i (zin_n3 (by omega) (by omega) (by omega))]
        exact n2 k (by omega)
    · rw [gu_ne e]
      refine ⟨(Q.i (zin_n3 (by omega) (by omega) (by omega))).trans (h9 c hc').1, fun k hkk => ?_⟩
      rw [gu2_ne (by omega), Q.i (zin_n3 (by omega) (by omega) (by omega))]
      exact (h9 c hc').2 k hkk
  · have hj' : j < dI D := hj
    show g.1 (o + 28) j = zfj (gu (dCo D) i (dNc D) j) ∧ g.1 (o + 29) j = zfj (dTk D j)
    obtain ⟨b1, b2⟩ := h10 j hj
    by_cases e : j = i
    · subst e
      rw [gu_eq, c28]
      refine ⟨?_, (Q.i (zin_n3 (by omega) (by omega) (by omega))).trans b2⟩
      obtain ⟨m, hm⟩ : ∃ m, dNc D = m + 1 := ⟨dNc D - 1, by omega⟩
      rw [hm]
      rfl
    · rw [gu_ne e]
      exact ⟨(Q.i (zin_n3 (by omega) (by omega) (by omega))).trans b1, (Q.i (zin_n3 (by omega) (by omega) (by omega))).trans b2⟩
/-- the bit of a line is set -/
theorem gbit_or {x : Int32} {T : Nat → Bool} {l : Nat} (hl : l < 32) (hx : ∀ q, q < 32 → zBi x q = T q) : ∀ q, q < 32 → zBi (x ||| zshl 1 (zJ l)) q = gu T l true q := by
  intro q hq
  rw [zBi_or, hx q hq, zshl_1 hl, zJ_bit hq]
  unfold gu
  by_cases e : q = l
  · subst e
    rw [if_pos rfl, Nat.testBit_two_pow_self, Bool.or_true]
  · rw [if_neg e, Nat.testBit_two_pow_of_ne (Ne.symm e), Bool.or_false]
