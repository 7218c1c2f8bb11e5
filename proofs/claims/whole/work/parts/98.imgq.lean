/-! ===== image, restore: the acts ===== -/
theorem q_image {h : zH} (hi : yInv h) : zw (f_Main_image h) fun x => zw (f_Mod_image x) fun y => yInv y := by
  obtain ⟨S, ho, hc, hr⟩ := hi
  have hS' : yOK (gimg S) := ⟨ho.1, ho.2.1, fun _ => ho.2.1, ho.2.2.2.1, ho.2.2.2.2⟩
  unfold f_Main_image
  refine zw_bi (sessCopy_c (o := 243) ho.2.1 hc.2.2.1 (by omega)) ?_
  rintro g1 ⟨q1, s1⟩
  rw [Option.bind_some]
  have q2 : zfm [(0, 0, 9, 9)] g1 (zsI g1 0 9 1) := zfm.rfl'.I rfl
  have q : zfm [(0, 0, 9, 9), (243, 330, 0, 9999)] h (zsI g1 0 9 1) := (q1.sub rfl).trans (q2.sub rfl)
  have e9 : (zsI g1 0 9 1).1 0 9 = zbI true := zI_eq.trans (by decide)
  have s2 := s1.fr q2 (fun a k l1 l2 => zin_n1 (by omega))
  refine zw_some ?_
  have hr1 : yIr (zsI g1 0 9 1) S := hr.fr q rfl
  generalize zsI g1 0 9 1 = g2 at *
  have n : ∀ a k, ((1 ≤ a ∧ a ≤ 242) ∨ (a = 0 ∧ k ≠ 9)) → zin [(0, 0, 9, 9), (243, 330, 0, 9999)] a k = false := by
    intro a k ha
    cases hz : zin [(0, 0, 9, 9), (243, 330, 0, 9999)] a k
    · rfl
    · unfold zin at hz
      simp at hz
      omega
  have hc1 : yIc g2 (gimg S) := by
    obtain ⟨⟨W, D, w1, w2, w3, w4⟩, i2, i3, i4, i5, i6, i7, i8, i9⟩ := hc
    exact ⟨⟨W, D, w1, by rw [q.1]; exact w2, by rw [q.1]; exact w3, w4.fr ho.1 q (fun a k h1 h2 => n a k (by omega))⟩, i2.fr ho.1.1 q (fun a k h1 h2 => n a k (by omega)), i3.fr q (fun a k h1 h2 => n a k (by omega)), fun _ => s2, e9, i6.fr q (fun k => ⟨n _ _ (by omega), n _ _ (by omega), n _ _ (by omega)⟩) (n _ _ (by omega)) (n _ _ (by omega)) (n _ _ (by omega)) (n _ _ (by omega)), (q.i (n _ _ (by omega))).trans i7, fun k hk => (q.i (n _ _ (by omega))).trans (i8 k hk), (q.i (n _ _ (by omega))).trans i9⟩
  obtain ⟨hg1, p1, z1⟩ := code_r hr1
  have hc2 := hc1.fr hS' p1 rfl
  unfold f_Mod_image
  rw [Option.bind_some]
  generalize zsI g2 333 2 0 = g0 at *
  rw [Option.bind_some, Option.bind_some, Option.bind_some]
  have qa : zfm [(333, 333, 55, 57)] g0 (zsI (zsI (zsI g0 333 55 1) 333 56 ((zsI g0 333 55 1).1 333 45)) 333 57 ((zsI (zsI g0 333 55 1) 333 56 ((zsI g0 333 55 1).1 333 45)).1 333 47)) := ((zfm.rfl'.I (by rfl)).I (by rfl)).I (by rfl)
  have a55 : (zsI (zsI (zsI g0 333 55 1) 333 56 ((zsI g0 333 55 1).1 333 45)) 333 57 ((zsI (zsI g0 333 55 1) 333 56 ((zsI g0 333 55 1).1 333 45)).1 333 47)).1 333 55 = zbI true := by
    rw [zI_nk (by omega), zI_nk (by omega), zI_eq]
    decide
  have a56 : (zsI (zsI (zsI g0 333 55 1) 333 56 ((zsI g0 333 55 1).1 333 45)) 333 57 ((zsI (zsI g0 333 55 1) 333 56 ((zsI g0 333 55 1).1 333 45)).1 333 47)).1 333 56 = g0.1 333 45 := by
    rw [zI_nk (by omega), zI_eq, zI_nk (by omega)]
  have a57 : (zsI (zsI (zsI g0 333 55 1) 333 56 ((zsI g0 333 55 1).1 333 45)) 333 57 ((zsI (zsI g0 333 55 1) 333 56 ((zsI g0 333 55 1).1 333 45)).1 333 47)).1 333 57 = g0.1 333 47 := by
    rw [zI_eq, zI_nk (by omega), zI_nk (by omega)]
  generalize zsI (zsI (zsI g0 333 55 1) 333 56 ((zsI g0 333 55 1).1 333 45)) 333 57 ((zsI (zsI g0 333 55 1) 333 56 ((zsI g0 333 55 1).1 333 45)).1 333 47) = ga at *
  refine zw_bi (gcp_100_73 ga) ?_
  rintro g3 ⟨q3, v3⟩
  refine zw_bi (gcp_101_93 g3) ?_
  rintro g4 ⟨q4, v4⟩
  refine zw_bi (gcp_102_94 g4) ?_
  rintro g5 ⟨q5, v5⟩
  refine zw_bi (gcp_103_95 g5) ?_
  rintro g6 ⟨q6, v6⟩
  refine zw_bi (gcp_104_96 g6) ?_
  rintro g7 ⟨q7, v7⟩
  refine zw_bi (gcp_105_74 g7) ?_
  rintro g8 ⟨q8, v8⟩
  have Q3 : zfm [(333, 333, 55, 57), (374, 379, 0, 9999)] g0 g3 := (qa.sub rfl).trans (q3.sub rfl)
  have Q4 := Q3.trans (q4.sub rfl)
  have Q5 := Q4.trans (q5.sub rfl)
  have Q6 := Q5.trans (q6.sub rfl)
  have Q7 := Q6.trans (q7.sub rfl)
  have Q := Q7.trans (q8.sub rfl)
  have nn : ∀ a k, ((336 ≤ a ∧ a ≤ 373) ∨ (a = 333 ∧ (k < 55 ∨ 57 < k))) → zin [(333, 333, 55, 57), (374, 379, 0, 9999)] a k = false := by
    intro a k ha
    cases hz : zin [(333, 333, 55, 57), (374, 379, 0, 9999)] a k
    · rfl
    · unfold zin at hz
      simp at hz
      omega
  have k333 : ∀ k, g8.1 333 k = ga.1 333 k := fun k => (q8.i (zin_n1 (by omega))).trans ((q7.i (zin_n1 (by omega))).trans ((q6.i (zin_n1 (by omega))).trans ((q5.i (zin_n1 (by omega))).trans ((q4.i (zin_n1 (by omega))).trans (q3.i (zin_n1 (by omega)))))))
  refine zw_some ⟨gimg S, hS', hc2.fr hS' Q rfl, ?_⟩
  obtain ⟨i1, i2, i3, i4, i5, i6, i7, i8⟩ := hg1
  refine ⟨i1.fr Q (fun a k h1 h2 => nn a k (by omega)), i2.fr Q (fun a k h1 h2 => nn a k (by omega)), i3.fr Q (fun a k h1 => nn a k (by omega)) (nn _ _ (by omega)) (nn _ _ (by omega)), fun _ => ?_, (k333 55).trans a55, (Q.i (nn _ _ (by omega))).trans i6, fun k hk => (Q.i (nn _ _ (by omega))).trans (i7 k hk), (Q.i (nn _ _ (by omega))).trans i8⟩
  refine yRSe.mv ho.2.1 i3 ((k333 56).trans a56) ((k333 57).trans a57) (fun k hk => ?_) (fun k hk => ?_) (fun k hk => ?_) (fun k hk => ?_) (fun k hk => ?_) (fun k hk => ?_)
  · rw [q8.i (zin_n1 (by omega)), q7.i (zin_n1 (by omega)), q6.i (zin_n1 (by omega)), q5.i (zin_n1 (by omega)), q4.i (zin_n1 (by omega)), v3 k hk, qa.i (zin_n1 (by omega))]
  · rw [q8.i (zin_n1 (by omega)), q7.i (zin_n1 (by omega)), q6.i (zin_n1 (by omega)), q5.i (zin_n1 (by omega)), v4 k hk, Q3.i (nn _ _ (by omega))]
  · rw [q8.i (zin_n1 (by omega)), q7.i (zin_n1 (by omega)), q6.i (zin_n1 (by omega)), v5 k hk, Q4.i (nn _ _ (by omega))]
  · rw [q8.i (zin_n1 (by omega)), q7.i (zin_n1 (by omega)), v6 k hk, Q5.i (nn _ _ (by omega))]
  · rw [q8.i (zin_n1 (by omega)), v7 k hk, Q6.i (nn _ _ (by omega))]
  · rw [v8 k hk, Q7.i (nn _ _ (by omega))]
theorem q_restore {h : zH} (hi : yInv h) : zw (f_Main_restore h) fun x => zw (f_Mod_restore x.2) fun y => x.1 = y.1 ∧ yInv y.2 := by
  obtain ⟨S, ho, hc, hr⟩ := hi
  have c9 : h.1 0 9 = zbI (gIm S) := hc.2.2.2.2.1
  have r55 : ∀ g, yIr g S → g.1 333 55 = zbI (gIm S) := fun g hg => hg.2.2.2.2.1
  cases him : gIm S
  · rw [him] at c9 r55
    refine yBoth0 (S := S) (f := fun g => f_Mod_restore g) (v := 0) ho ?_ (fun g hg => ?_) hr
    · unfold f_Main_restore
      rw [c9, if_neg (by decide)]
      exact zw_some ⟨rfl, zfm.rfl', hc⟩
    · obtain ⟨hg1, q1, z1⟩ := code_r hg
      show zw (f_Mod_restore g) _
      unfold f_Mod_restore
      rw [Option.bind_some]
      generalize zsI g 333 2 0 = g0 at *
      rw [r55 g0 hg1, if_neg (by decide)]
      exact zw_some ⟨rfl, q1, hg1⟩
  · rw [him] at c9 r55
    have hU := ho.2.2.1 him
    refine yBoth0 (S' := gset S (gU S)) (f := fun g => f_Mod_restore g) (v := 1) (ho.set hU) ?_ (fun g hg => ?_) hr
    · unfold f_Main_restore
      rw [c9, if_pos (by decide)]
      refine zw_bi (sessCopy_c (o := 155) hU (hc.2.2.2.1 him) (by omega)) ?_
      rintro g ⟨q, s⟩
      exact zw_some ⟨rfl, q.sub rfl, hc.set ho q s⟩
    · obtain ⟨hg1, q1, z1⟩ := code_r hg
      show zw (f_Mod_restore g) _
      unfold f_Mod_restore
      rw [Option.bind_some]
      generalize zsI g 333 2 0 = g0 at *
      rw [r55 g0 hg1, if_pos (by decide)]
      rw [Option.bind_some, Option.bind_some]
      have qa : zfm [(333, 333, 45, 47)] g0 (zsI (zsI g0 333 45 (g0.1 333 56)) 333 47 ((zsI g0 333 45 (g0.1 333 56)).1 333 57)) := (zfm.rfl'.I (by rfl)).I (by rfl)
      have a45 : (zsI (zsI g0 333 45 (g0.1 333 56)) 333 47 ((zsI g0 333 45 (g0.1 333 56)).1 333 57)).1 333 45 = g0.1 333 56 := by
        rw [zI_nk (by omega), zI_eq]
      have a47 : (zsI (zsI g0 333 45 (g0.1 333 56)) 333 47 ((zsI g0 333 45 (g0.1 333 56)).1 333 57)).1 333 47 = g0.1 333 57 := by
        rw [zI_eq, zI_nk (by omega)]
      generalize zsI (zsI g0 333 45 (g0.1 333 56)) 333 47 ((zsI g0 333 45 (g0.1 333 56)).1 333 57) = ga at *
      refine zw_bi (gcp_73_100 ga) ?_
      rintro g3 ⟨q3, v3⟩
      refine zw_bi (gcp_93_101 g3) ?_
      rintro g4 ⟨q4, v4⟩
      refine zw_bi (gcp_94_102 g4) ?_
      rintro g5 ⟨q5, v5⟩
      refine zw_bi (gcp_95_103 g5) ?_
      rintro g6 ⟨q6, v6⟩
      refine zw_bi (gcp_96_104 g6) ?_
      rintro g7 ⟨q7, v7⟩
      refine zw_bi (gcp_74_105 g7) ?_
      rintro g8 ⟨q8, v8⟩
      have Q3 : zfm [(333, 333, 45, 47), (347, 348, 0, 9999), (367, 370, 0, 9999)] g0 g3 := (qa.sub rfl).trans (q3.sub rfl)
      have Q4 := Q3.trans (q4.sub rfl)
      have Q5 := Q4.trans (q5.sub rfl)
      have Q6 := Q5.trans (q6.sub rfl)
      have Q7 := Q6.trans (q7.sub rfl)
      have Q := Q7.trans (q8.sub rfl)
      have k333 : ∀ k, g8.1 333 k = ga.1 333 k := fun k => (q8.i (zin_n1 (by omega))).trans ((q7.i (zin_n1 (by omega))).trans ((q6.i (zin_n1 (by omega))).trans ((q5.i (zin_n1 (by omega))).trans ((q4.i (zin_n1 (by omega))).trans (q3.i (zin_n1 (by omega)))))))
      have nn : ∀ a k, (374 ≤ a ∧ a ≤ 379) → zin [(333, 333, 45, 47), (347, 348, 0, 9999), (367, 370, 0, 9999)] a k = false := by
        intro a k ha
        cases hz : zin [(333, 333, 45, 47), (347, 348, 0, 9999), (367, 370, 0, 9999)] a k
        · rfl
        · unfold zin at hz
          simp at hz
          omega
      refine zw_some ⟨rfl, q1.tr Q rfl, hg1.set Q rfl ?_⟩
      refine yRSe.mv hU (hg1.2.2.2.1 him) ((k333 45).trans a45) ((k333 47).trans a47) (fun k hk => ?_) (fun k hk => ?_) (fun k hk => ?_) (fun k hk => ?_) (fun k hk => ?_) (fun k hk => ?_)
      · rw [q8.i (zin_n1 (by omega)), q7.i (zin_n1 (by omega)), q6.i (zin_n1 (by omega)), q5.i (zin_n1 (by omega)), q4.i (zin_n1 (by omega)), v3 k hk, qa.i (zin_n1 (by omega))]
      · rw [q8.i (zin_n1 (by omega)), q7.i (zin_n1 (by omega)), q6.i (zin_n1 (by omega)), q5.i (zin_n1 (by omega)), v4 k hk, Q3.i (nn _ _ (by omega))]
      · rw [q8.i (zin_n1 (by omega)), q7.i (zin_n1 (by omega)), q6.i (zin_n1 (by omega)), v5 k hk, Q4.i (nn _ _ (by omega))]
      · rw [q8.i (zin_n1 (by omega)), q7.i (zin_n1 (by omega)), v6 k hk, Q5.i (nn _ _ (by omega))]
      · rw [q8.i (zin_n1 (by omega)), v7 k hk, Q6.i (nn _ _ (by omega))]
      · rw [v8 k hk, Q7.i (nn _ _ (by omega))]
