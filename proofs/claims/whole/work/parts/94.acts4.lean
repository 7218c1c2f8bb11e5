/-! ===== undo, note, forget, fault ===== -/
theorem yRSt.mv {P P' : Nat → Int32} {p p' : Nat} {s : yS} (hp : s.2.2.2.2.1 ≤ 8) (hk : ∀ k, k < 57 → P' (p' + k) = P (p + k)) (hs : yRSt P p s) : yRSt P' p' s := by
  obtain ⟨a1, a2, a3, a4, a5, a6, a7⟩ := hs
  refine ⟨?_, ?_, ?_, ?_, ?_, fun k hkk => ?_, fun f hf => ?_⟩
  · have := hk 0 (by omega)
    rw [Nat.add_zero, Nat.add_zero] at this
    rw [this, a1]
  · rw [hk 1 (by omega), a2]
  · rw [hk 2 (by omega), a3]
  · rw [hk 3 (by omega), a4]
  · rw [hk 4 (by omega), a5]
  · rw [Nat.add_assoc, hk (5 + k) (by omega), ← Nat.add_assoc, a6 k hkk]
  · rw [Nat.add_assoc, hk (13 + f) (by omega), ← Nat.add_assoc, a7 f hf]
theorem q_fault {h : zH} (hi : yInv h) : zw (f_Main_fault h) fun x => zw (f_Mod_fault h) fun y => x = y.1 ∧ yInv y.2 := by
  obtain ⟨S, ho, hc, hr⟩ := hi
  unfold f_Main_fault f_Mod_fault
  refine zw_some ?_
  obtain ⟨hg1, q1, z1⟩ := code_r hr
  rw [Option.bind_some]
  exact zw_some ⟨hc.2.2.2.2.2.2.2.2.trans hg1.2.2.2.2.2.2.2.symm, S, ho, hc.fr ho q1 rfl, hg1⟩
def gun (t : yT) : yT := (t.2.2.1 (t.2.1 - 1), t.2.1 - 1, t.2.2)
theorem gun_ok {N : yN} {t : yT} (h : yOKt N t) (h0 : 0 < t.2.1) : yOKt N (gun t) := by
  obtain ⟨h1, h2, h3, h4⟩ := h
  refine ⟨h3 _ (by omega), ?_, fun i hi => h3 i ?_, h4⟩
  · unfold gun
    dsimp only
    omega
  · unfold gun at hi
    dsimp only at hi
    omega
theorem undo_c {h : zH} {N : yN} {o : Nat} {t : yT} (ht : yOKt N t) (hs : yCSe h o t) (h0 : 0 < t.2.1) : zw (f_Session_undoLast o h) fun x => x.1 = zJ (t.2.1 - 1) ∧ zfm [(o, o, 3, 3), (o + 1, o + 2, 0, 9999)] h x.2 ∧ yCSe x.2 o (gun t) := by
  obtain ⟨h1, h2, ⟨ol, o1, o2, o3⟩, h4, h5, h6⟩ := hs
  obtain ⟨-, hac, hpo, -⟩ := ht
  have hm : (ol + (t.2.1 - 1)) % 40 < 40 := Nat.mod_lt _ (by omega)
  have hp := (hpo (t.2.1 - 1) (by omega)).2.2.2.1
  unfold f_Session_undoLast
  simp (disch := omega) only [zg_tr, zb_t, zJ_lt, zJ_le, zJ_inj, zJ_ltl, zJ_lel, zJ_eql, zJ_llt, zJ_lle, zJ_leq, zJ_m1, zJ_m1r, zJ_nle_m1, zJ_m1lt, zJ_add, zJ_al, zJ_mull, zJ_c, zJ_mlr, zJ_cl, zJ_sub, zJ_subl, zJ_neg, zJ_divl, zreml, zshl_1, zshr_J, zushr_J, zJ_and1, if_pos, if_neg, Option.bind_some, zI_eq, zI_ne, zI_nk, zI_2, zL_1, zL_eq, zL_ne, zL_nk, zL_22, h2, o2]
  have q0 : zfm [(o, o, 3, 3)] h (zsI h o 3 (zJ (t.2.1 - 1))) := zfm.rfl'.I (zin_1 (by omega) (by omega) (by omega) (by omega))
  rw [show o + 3 + (5 + 2 * ((ol + (t.2.1 - 1)) % 40)) = o + 8 + 2 * ((ol + (t.2.1 - 1)) % 40) by omega]
  refine zw_bi (copy_c (o := o + 1) (s := t.2.2.1 (t.2.1 - 1)) ((o3 (t.2.1 - 1) (by omega)).fr q0 (fun a k l1 l2 => zin_n1 (by omega))) (by omega) hp) ?_
  rintro g ⟨q1, hg⟩
  have q : zfm [(o, o, 3, 3), (o + 1, o + 2, 0, 9999)] h g := (q0.sub' (fun a j hh => by
    unfold zin at hh ⊢
    simp at hh ⊢
    omega)).trans (q1.sub' (fun a j hh => by
    unfold zin at hh ⊢
    simp at hh ⊢
    omega))
  have n : ∀ a j, ((o + 3 ≤ a ∧ a ≤ o + 87) ∨ (a = o ∧ j ≠ 3)) → zin [(o, o, 3, 3), (o + 1, o + 2, 0, 9999)] a j = false := by
    intro a j ha
    cases hz : zin [(o, o, 3, 3), (o + 1, o + 2, 0, 9999)] a j
    · rfl
    · unfold zin at hz
      simp at hz
      omega
  have e3 : g.1 o 3 = zJ (t.2.1 - 1) := by
    rw [q1.i (zin_n1 (by omega)), zI_eq]
  refine zw_some ⟨e3, q, hg, e3, ⟨ol, o1, (q.i (n _ _ (by omega))).trans o2, fun i hi => ?_⟩, (q.i (n _ _ (by omega))).trans h4, fun k hk => ?_, fun k hk => (q.i (n _ _ (by omega))).trans (h6 k hk)⟩
  · unfold gun at hi ⊢
    dsimp only at hi ⊢
    have hm2 : (ol + i) % 40 < 40 := Nat.mod_lt _ (by omega)
    exact (o3 i (by omega)).fr q (fun a k l1 l2 => n a k (by omega))
  · rw [q.i (n _ _ (by omega)), q.i (n _ _ (by omega)), q.i (n _ _ (by omega))]
    exact h5 k hk
theorem undoRow_r {h : zH} {a : Nat} (ha : a < 40) (h45 : h.1 333 45 = zJ a) : zw (zit zFU (fun s : Int32 × zH => f_Mod_undo_b26 s.2 s.1) (0, h)) fun g => zfm [(347, 347, 0, 9999)] h g ∧ ∀ k, k < 57 → g.1 347 k = h.1 367 (57 * a + k) := by
  refine zw_mono (zw_for 57 (fun k t => t.1 = zJ k ∧ zfm [(347, 347, 0, 9999)] h t.2 ∧ ∀ i, i < k → t.2.1 347 i = h.1 367 (57 * a + i)) (by omega) ⟨rfl, zfm.rfl', fun l hl => by omega⟩ ?_) (fun x hx => hx)
  rintro k ⟨i, g⟩ hk ⟨rfl, hz, hv⟩
  dsimp only at hz hv ⊢
  unfold f_Mod_undo_b26
  by_cases hkm : k < 57
  · have e : g.1 333 45 = zJ a := (hz.i rfl).trans h45
    simp (disch := omega) only [zg_tr, zb_t, zJ_lt, zJ_le, zJ_inj, zJ_ltl, zJ_lel, zJ_eql, zJ_llt, zJ_lle, zJ_leq, zJ_m1, zJ_m1r, zJ_nle_m1, zJ_m1lt, zJ_add, zJ_al, zJ_mull, zJ_c, zJ_mlr, zJ_cl, zJ_sub, zJ_subl, zJ_neg, zJ_divl, zreml, zshl_1, zshr_J, zushr_J, zJ_and1, if_pos, if_neg, Option.bind_some, zI_eq, zI_ne, zI_nk, zI_2, zL_1, zL_eq, zL_ne, zL_nk, zL_22, e]
    refine zw_some ⟨hkm, rfl, hz.I (zin_1 (by omega) (by omega) (by omega) (by omega)), fun j hj => ?_⟩
    dsimp only
    by_cases hjk : j = k
    · subst hjk
      rw [zI_eq, hz.i (zin_n1 (by omega))]
    · rw [zI_nk hjk, hv j (by omega)]
  · have : k = 57 := by omega
    subst this
    simp (disch := omega) only [zg_tr, zb_t, zJ_lt, zJ_le, zJ_inj, zJ_ltl, zJ_lel, zJ_eql, zJ_llt, zJ_lle, zJ_leq, zJ_m1, zJ_m1r, zJ_nle_m1, zJ_m1lt, zJ_add, zJ_al, zJ_mull, zJ_c, zJ_mlr, zJ_cl, zJ_sub, zJ_subl, zJ_neg, zJ_divl, zreml, zshl_1, zshr_J, zushr_J, zJ_and1, if_pos, if_neg, Option.bind_some, zI_eq, zI_ne, zI_nk, zI_2, zL_1, zL_eq, zL_ne, zL_nk, zL_22]
    exact zw_some ⟨hz, hv⟩
theorem undo_r {h : zH} {N : yN} {t : yT} (ht : yOKt N t) (hr : yRNow h t) (h0 : 0 < t.2.1) : zw ((some (zsI h 333 45 ((h.1 333 45) - 1))).bind fun h2 => (zit zFU (fun s : Int32 × zH => f_Mod_undo_b26 s.2 s.1) (0, h2)).bind (fun y8 => some ((y8.1 333 45), y8))) fun y => y.1 = zJ (t.2.1 - 1) ∧ zfm [(333, 333, 45, 45), (347, 347, 0, 9999)] h y.2 ∧ yRNow y.2 (gun t) := by
  obtain ⟨r1, r2, r3, r4, r5, r6⟩ := id hr
  obtain ⟨-, hac, hpo, -⟩ := ht
  simp (disch := omega) only [zg_tr, zb_t, zJ_lt, zJ_le, zJ_inj, zJ_ltl, zJ_lel, zJ_eql, zJ_llt, zJ_lle, zJ_leq, zJ_m1, zJ_m1r, zJ_nle_m1, zJ_m1lt, zJ_add, zJ_al, zJ_mull, zJ_c, zJ_mlr, zJ_cl, zJ_sub, zJ_subl, zJ_neg, zJ_divl, zreml, zshl_1, zshr_J, zushr_J, zJ_and1, if_pos, if_neg, Option.bind_some, zI_eq, zI_ne, zI_nk, zI_2, zL_1, zL_eq, zL_ne, zL_nk, zL_22, r2]
  have q0 : zfm [(333, 333, 45, 45)] h (zsI h 333 45 (zJ (t.2.1 - 1))) := zfm.rfl'.I rfl
  refine zw_bi (undoRow_r (a := t.2.1 - 1) (by omega) zI_eq) ?_
  rintro g ⟨q1, hv⟩
  have q : zfm [(333, 333, 45, 45), (347, 347, 0, 9999)] h g := (q0.sub rfl).trans (q1.sub rfl)
  have e3 : g.1 333 45 = zJ (t.2.1 - 1) := by
    rw [q1.i rfl, zI_eq]
  refine zw_some ⟨e3, q, ?_⟩
  unfold yRNow
  rw [q.ir (o := 348) (fun _ => rfl), q.ir (o := 367) (fun _ => rfl), q.ir (o := 368) (fun _ => rfl), q.ir (o := 369) (fun _ => rfl), q.ir (o := 370) (fun _ => rfl), q.i (o := 333) (k := 47) rfl]
  refine ⟨?_, e3, fun i hi => ?_, r4, r5, r6⟩
  · refine yRSt.mv (hpo (t.2.1 - 1) (by omega)).2.2.2.1 (fun k hk => ?_) (r3 (t.2.1 - 1) (by omega))
    rw [Nat.zero_add, hv k hk, q0.i rfl]
  · unfold gun at hi ⊢
    dsimp only at hi ⊢
    exact r3 i (by omega)
theorem q_undo {h : zH} (hi : yInv h) : zw (f_Main_undo h) fun x => zw (f_Mod_undo x.2) fun y => x.1 = y.1 ∧ yInv y.2 := by
  obtain ⟨S, ho, hc, hr⟩ := hi
  have hac := ho.2.1.2.1
  by_cases h0 : 0 < (gT S).2.1
  · refine yBoth0 (f := fun g => f_Mod_undo g) (v := zJ ((gT S).2.1 - 1)) (ho.set (gun_ok ho.2.1 h0)) ?_ (fun g hg => ?_) hr
    · unfold f_Main_undo
      refine zw_bi (undo_c ho.2.1 hc.2.2.1 h0) ?_
      rintro ⟨x, g⟩ ⟨rfl, p1, p2⟩
      exact zw_some ⟨rfl, p1.sub rfl, hc.set ho (p1.sub rfl) p2⟩
    · obtain ⟨hg1, q1, z1⟩ := code_r hg
      show zw (f_Mod_undo g) _
      unfold f_Mod_undo
      rw [Option.bind_some]
      generalize zsI g 333 2 0 = g0 at *
      have r2 : g0.1 333 45 = zJ (gT S).2.1 := hg1.2.2.1.2.1
      rw [if_pos (by rw [r2, zJ_eql (by omega) (by decide)]; show ¬ _ = 0; omega)]
      refine zw_mono (undo_r ho.2.1 hg1.2.2.1 h0) ?_
      rintro ⟨y, g2⟩ ⟨rfl, p1, p2⟩
      exact ⟨rfl, q1.tr p1 rfl, hg1.set p1 rfl p2⟩
  · have h00 : (gT S).2.1 = 0 := by omega
    refine yBoth0 (S := S) (f := fun g => f_Mod_undo g) (v := -1) ho ?_ (fun g hg => ?_) hr
    · unfold f_Main_undo f_Session_undoLast
      rw [hc.2.2.1.2.1, h00, if_neg (by decide)]
      exact zw_some ⟨rfl, zfm.rfl', hc⟩
    · obtain ⟨hg1, q1, z1⟩ := code_r hg
      show zw (f_Mod_undo g) _
      unfold f_Mod_undo
      rw [Option.bind_some]
      generalize zsI g 333 2 0 = g0 at *
      have r2 : g0.1 333 45 = zJ (gT S).2.1 := hg1.2.2.1.2.1
      rw [r2, h00, if_neg (by decide)]
      exact zw_some ⟨rfl, q1, hg1⟩
/-! notes -/
def gfo (t : yT) : yT := (t.1, t.2.1, t.2.2.1, 0, t.2.2.2.2)
theorem q_forget {h : zH} (hi : yInv h) : zw (f_Main_forget h) fun x => zw (f_Mod_forget x) fun y => yInv y := by
  obtain ⟨S, ho, hc, hr⟩ := hi
  have hS' : yOK (gset S (gfo (gT S))) := by
    obtain ⟨t1, t2, t3, t4⟩ := ho.2.1
    exact ho.set ⟨t1, t2, t3, Nat.zero_le _, fun k hk => absurd hk (Nat.not_lt_zero k)⟩
  unfold f_Main_forget
  rw [Option.bind_some]
  have qc : zfm [(155, 155, 7, 7)] h (zsI h 155 7 0) := zfm.rfl'.I rfl
  obtain ⟨h1, h2, ⟨ol, o1, o2, o3⟩, h4, h5, h6⟩ := id hc.2.2.1
  have hc1 : yIc (zsI h 155 7 0) (gset S (gfo (gT S))) := by
    refine hc.set ho (qc.sub rfl) ⟨h1.fr qc (fun a k l1 l2 => zin_n1 (by omega)), (qc.i rfl).trans h2, ⟨ol, o1, (qc.i rfl).trans o2, fun i hi => (o3 i hi).fr qc (fun a k l1 l2 => zin_n1 (by omega))⟩, zI_eq, fun k hk => absurd hk (Nat.not_lt_zero k), fun k hk => (qc.i rfl).trans (h6 k hk)⟩
  refine zw_some ?_
  have hr1 : yIr (zsI h 155 7 0) S := hr.fr qc rfl
  obtain ⟨hg1, q1, z1⟩ := code_r hr1
  unfold f_Mod_forget
  rw [Option.bind_some, Option.bind_some]
  have hc2 := hc1.fr hS' q1 rfl
  generalize zsI (zsI h 155 7 0) 333 2 0 = g0 at *
  have qr : zfm [(333, 333, 47, 47)] g0 (zsI g0 333 47 0) := zfm.rfl'.I rfl
  refine zw_some ⟨_, hS', hc2.fr hS' qr rfl, hg1.set qr rfl ?_⟩
  obtain ⟨r1, r2, r3, r4, r5, r6⟩ := id hg1.2.2.1
  unfold yRNow
  rw [qr.ir (o := 347) (fun _ => rfl), qr.ir (o := 348) (fun _ => rfl), qr.ir (o := 367) (fun _ => rfl), qr.ir (o := 368) (fun _ => rfl), qr.ir (o := 369) (fun _ => rfl), qr.ir (o := 370) (fun _ => rfl), qr.i (o := 333) (k := 45) rfl]
  exact ⟨r1, r2, r3, zI_eq, fun k hk => absurd hk (Nat.not_lt_zero k), r6⟩
def gno (t : yT) (r l b : Nat) : yT := (t.1, t.2.1, t.2.2.1, t.2.2.2.1 + 1, fun k => if k = t.2.2.2.1 then r else t.2.2.2.2.1 k, fun k => if k = t.2.2.2.1 then l else t.2.2.2.2.2.1 k, fun k => if k = t.2.2.2.1 then b else t.2.2.2.2.2.2.1 k, t.2.2.2.2.2.2.2)
theorem note_c {h : zH} {o r l b : Nat} {t : yT} (hs : yCSe h o t) (h10 : t.2.2.2.1 < 10) : zw (f_Session_addNote o h (zJ r) (zJ l) (zJ b)) fun x => x.1 = zJ (t.2.2.2.1 + 1) ∧ zfm [(o, o, 7, 7), (o + 4, o + 6, 0, 9999)] h x.2 ∧ yCSe x.2 o (gno t r l b) := by
  obtain ⟨h1, h2, ⟨ol, o1, o2, o3⟩, h4, h5, h6⟩ := hs
  unfold f_Session_addNote
  simp (disch := omega) only [zg_tr, zb_t, zJ_lt, zJ_le, zJ_inj, zJ_ltl, zJ_lel, zJ_eql, zJ_llt, zJ_lle, zJ_leq, zJ_m1, zJ_m1r, zJ_nle_m1, zJ_m1lt, zJ_add, zJ_al, zJ_mull, zJ_c, zJ_mlr, zJ_cl, zJ_sub, zJ_subl, zJ_neg, zJ_divl, zreml, zshl_1, zshr_J, zushr_J, zJ_and1, if_pos, if_neg, Option.bind_some, zI_eq, zI_ne, zI_nk, zI_2, zL_1, zL_eq, zL_ne, zL_nk, zL_22, h4]
  have n : ∀ a j, ((o + 1 ≤ a ∧ a ≤ o + 3) ∨ (o + 7 ≤ a ∧ a ≤ o + 87) ∨ (a = o ∧ j ≠ 7)) → zin [(o, o, 7, 7), (o + 4, o + 6, 0, 9999)] a j = false := by
    intro a j ha
    cases hz : zin [(o, o, 7, 7), (o + 4, o + 6, 0, 9999)] a j
    · rfl
    · unfold zin at hz
      simp at hz
      omega
  have y : ∀ a j, ((a = o ∧ j = 7) ∨ (o + 4 ≤ a ∧ a ≤ o + 6 ∧ j ≤ 9999)) → zin [(o, o, 7, 7), (o + 4, o + 6, 0, 9999)] a j = true := by
    intro a j ha
    unfold zin
    simp
    omega
  have q : zfm [(o, o, 7, 7), (o + 4, o + 6, 0, 9999)] h (zsI (zsI (zsI (zsI h (o + 4) t.2.2.2.1 (zJ r)) (o + 5) t.2.2.2.1 (zJ l)) (o + 6) t.2.2.2.1 (zJ b)) o 7 (zJ (t.2.2.2.1 + 1))) := (((zfm.rfl'.I (y _ _ (by omega))).I (y _ _ (by omega))).I (y _ _ (by omega))).I (y _ _ (by omega))
  refine zw_some ⟨rfl, q, h1.fr q (fun a k l1 l2 => n a k (by omega)), (q.i (n _ _ (by omega))).trans h2, ⟨ol, o1, (q.i (n _ _ (by omega))).trans o2, fun i hi => (o3 i hi).fr q (fun a k l1 l2 => n a k (by have : (ol + i) % 40 < 40 := Nat.mod_lt _ (by omega); omega))⟩, zI_eq, fun k hk => ?_, fun k hk => (q.i (n _ _ (by omega))).trans (h6 k hk)⟩
  unfold gno at hk ⊢
  dsimp only at hk ⊢
  by_cases hkt : k = t.2.2.2.1
  · subst hkt
    rw [if_pos rfl, if_pos rfl, if_pos rfl]
    refine ⟨?_, ?_, ?_⟩
    · rw [zI_ne (by omega), zI_ne (by omega), zI_ne (by omega), zI_eq]
    · rw [zI_ne (by omega), zI_ne (by omega), zI_eq]
    · rw [zI_ne (by omega), zI_eq]
  · rw [if_neg hkt, if_neg hkt, if_neg hkt]
    obtain ⟨a1, a2, a3⟩ := h5 k (by omega)
    refine ⟨?_, ?_, ?_⟩
    · rw [zI_ne (by omega), zI_ne (by omega), zI_ne (by omega), zI_nk hkt, a1]
    · rw [zI_ne (by omega), zI_ne (by omega), zI_nk hkt, zI_ne (by omega), a2]
    · rw [zI_ne (by omega), zI_nk hkt, zI_ne (by omega), zI_ne (by omega), a3]
theorem noteAdd_r {h : zH} {S : yG} {r l b : Nat} (hi : yIr h S) (h10 : (gT S).2.2.2.1 < 10) : zw (zg (zb (h.1 333 47) 10) <|
            (some (zsI h 368 (h.1 333 47).toNatClampNeg (zJ r))).bind fun h8 =>
            zg (zb (h8.1 333 47) 10) <|
            (some (zsI h8 369 (h8.1 333 47).toNatClampNeg (zJ l))).bind fun h10 =>
            zg (zb (h10.1 333 47) 10) <|
            (some (zsI h10 370 (h10.1 333 47).toNatClampNeg (zJ b))).bind fun h12 =>
            (some (zsI h12 333 47 ((h12.1 333 47) + 1))).bind fun h14 =>
            some ((h14.1 333 47), h14)) fun y => y.1 = zJ ((gT S).2.2.2.1 + 1) ∧ zfm yLr h y.2 ∧ yIr y.2 (gset S (gno (gT S) r l b)) := by
  obtain ⟨r1, r2, r3, r4, r5, r6⟩ := id hi.2.2.1
  simp (disch := omega) only [zg_tr, zb_t, zJ_lt, zJ_le, zJ_inj, zJ_ltl, zJ_lel, zJ_eql, zJ_llt, zJ_lle, zJ_leq, zJ_m1, zJ_m1r, zJ_nle_m1, zJ_m1lt, zJ_add, zJ_al, zJ_mull, zJ_c, zJ_mlr, zJ_cl, zJ_sub, zJ_subl, zJ_neg, zJ_divl, zreml, zshl_1, zshr_J, zushr_J, zJ_and1, if_pos, if_neg, Option.bind_some, zI_eq, zI_ne, zI_nk, zI_2, zL_1, zL_eq, zL_ne, zL_nk, zL_22, r4]
  have n368 : ∀ k, k < 10000 → zin [(333, 333, 47, 47), (368, 370, 0, 9999)] 368 k = true := fun k hk => by unfold zin; simp; omega
  have n369 : ∀ k, k < 10000 → zin [(333, 333, 47, 47), (368, 370, 0, 9999)] 369 k = true := fun k hk => by unfold zin; simp; omega
  have n370 : ∀ k, k < 10000 → zin [(333, 333, 47, 47), (368, 370, 0, 9999)] 370 k = true := fun k hk => by unfold zin; simp; omega
  have q : zfm [(333, 333, 47, 47), (368, 370, 0, 9999)] h (zsI (zsI (zsI (zsI h 368 (gT S).2.2.2.1 (zJ r)) 369 (gT S).2.2.2.1 (zJ l)) 370 (gT S).2.2.2.1 (zJ b)) 333 47 (zJ ((gT S).2.2.2.1 + 1))) := (((zfm.rfl'.I (n368 _ (by omega))).I (n369 _ (by omega))).I (n370 _ (by omega))).I rfl
  refine zw_some ⟨rfl, q.sub rfl, hi.set q rfl ?_⟩
  unfold yRNow
  rw [q.ir (o := 347) (fun _ => rfl), q.ir (o := 348) (fun _ => rfl), q.ir (o := 367) (fun _ => rfl), q.i (o := 333) (k := 45) rfl]
  refine ⟨r1, r2, r3, zI_eq, fun k hk => ?_, r6⟩
  unfold gno at hk ⊢
  dsimp only at hk ⊢
  by_cases hkt : k = (gT S).2.2.2.1
  · subst hkt
    rw [if_pos rfl, if_pos rfl, if_pos rfl]
    refine ⟨?_, ?_, ?_⟩
    · rw [zI_ne (by omega), zI_ne (by omega), zI_ne (by omega), zI_eq]
    · rw [zI_ne (by omega), zI_ne (by omega), zI_eq]
    · rw [zI_ne (by omega), zI_eq]
  · rw [if_neg hkt, if_neg hkt, if_neg hkt]
    obtain ⟨a1, a2, a3⟩ := r5 k (by omega)
    refine ⟨?_, ?_, ?_⟩
    · rw [zI_ne (by omega), zI_ne (by omega), zI_ne (by omega), zI_nk hkt, a1]
    · rw [zI_ne (by omega), zI_ne (by omega), zI_nk hkt, zI_ne (by omega), a2]
    · rw [zI_ne (by omega), zI_nk hkt, zI_ne (by omega), zI_ne (by omega), a3]
theorem q_note {h : zH} {u v w : Int32} (hi : yInv h) : zw (f_Main_note h u v w) fun x => zw (f_Mod_note x.2 u v w) fun y => x.1 = y.1 ∧ yInv y.2 := by
  obtain ⟨S, ho, hc, hr⟩ := hi
  have t10 := ho.2.1.2.2.2.1
  obtain ⟨⟨e1, e2, e3, e4⟩, -⟩ := id ho.1
  have e1' : yI (gN S) ≤ 6 := e1
  have e3' : yLs (gN S) ≤ yI (gN S) + 16 := e3
  obtain ⟨⟨W, D, w1, w2, w3, w4⟩, i2, i3, -⟩ := id hc
  have s7 : h.1 155 7 = zJ (gT S).2.2.2.1 := i3.2.2.2.1
  have bad : f_Main_note h u v w = f_Main_note_j64 h → (∀ g, yIr (zsI g 333 2 0) S → f_Mod_note g u v w = f_Mod_note_j53 (zsI g 333 2 0)) → zw (f_Main_note h u v w) fun x => zw (f_Mod_note x.2 u v w) fun y => x.1 = y.1 ∧ yInv y.2 := by
    intro h1 h2
    rw [h1]
    refine yBoth0 (S' := gset S (yrf (gT S) 2)) (f := fun g => f_Mod_note g u v w) (v := -1) (ho.set (yrf_ok ho.2.1)) ?_ (fun g hg => ?_) hr
    · unfold f_Main_note_j64
      refine zw_bi (refuse_c (w := 2) hc.2.2.1 (by omega)) ?_
      rintro g ⟨q, hs⟩
      exact zw_some ⟨rfl, q.sub rfl, hc.set ho (q.sub rfl) hs⟩
    · obtain ⟨hg1, q1, z1⟩ := code_r hg
      show zw (f_Mod_note g u v w) _
      rw [h2 g hg1]
      unfold f_Mod_note_j53
      refine zw_bi (refuse_r (w := 2) hg1 (by omega)) ?_
      rintro y ⟨a, b, c⟩
      exact zw_some ⟨a, q1.trans b, c⟩
  have n47 : ∀ g, yIr g S → g.1 333 47 = zJ (gT S).2.2.2.1 := fun g hg => hg.2.2.1.2.2.2.1
  by_cases h10 : (gT S).2.2.2.1 < 10
  · have c27 : ∀ t0, f_Main_note_j27 h u v w t0 = (f_Catalog_isRow h u).bind fun x4 => if x4 = 0 then f_Main_note_j64 h else if t0 = 0 then f_Main_note_j64 h else (f_Main_isBit w).bind fun x5 => if ¬ x5 = 0 then (f_Session_addNote 155 h u v w).bind fun x6 => some (x6.1, x6.2) else f_Main_note_j64 h := by
      intro t0
      unfold f_Main_note_j27
      rw [s7, if_neg (by rw [zJ_lle (by omega) (by decide)]; show ¬ 10 ≤ _; omega)]
    have r10 : ∀ g, yIr (zsI g 333 2 0) S → ¬ (zsI g 333 2 0).1 333 47 = 10 := by
      intro g hg
      rw [n47 _ hg, zJ_eql (by omega) (by decide)]
      show ¬ _ = 10
      omega
    rcases yneg v with hv | ⟨l, hl, rfl⟩
    · refine bad ?_ (fun g hg => ?_)
      · unfold f_Main_note
        rw [w2, zgr_eq, isLine_neg hv, Option.bind_some, if_pos rfl, c27]
        rcases isRow_c ho.1 hc.2.1 u with ⟨r, hrr, rfl, b1, b2⟩ | ⟨b1, b2⟩
        · rw [b1, Option.bind_some, if_neg (by decide), if_pos rfl]
        · rw [b1, Option.bind_some, if_pos rfl]
      · unfold f_Mod_note
        rw [Option.bind_some, if_neg (r10 g hg), rows_n ho.1 hg.1, Option.bind_some]
        rcases isRow_c ho.1 hc.2.1 u with ⟨r, hrr, rfl, b1, b2⟩ | ⟨b1, b2⟩
        · rw [b2, Option.bind_some, if_neg (by decide), lines_neg ho.1 hg.1 hv, Option.bind_some, if_pos rfl]
        · rw [b2, Option.bind_some, if_pos rfl]
    · by_cases hlL : l < yLs (gN S)
      · have cn : f_Main_note h u (zJ l) w = f_Main_note_j27 h u (zJ l) w (zbI (ySb (gN S) l)) := by
          unfold f_Main_note
          rw [w2, zgr_eq, isLine_c ho.1 w4 hl, Option.bind_some, decide_eq_true hlL, if_neg (by decide), zgr_eq, isSeen_c (n := yLs (gN S)) (sb := ySb (gN S)) (fun l hl => by rw [w4.2.1 l (by omega), decide_eq_true hl, Bool.true_and]) (by omega) hlL, Option.bind_some]
          cases ySb (gN S) l
          · rw [if_pos (by decide)]
            rfl
          · rw [if_neg (by decide)]
            rfl
        have rn : ∀ g, yIr (zsI g 333 2 0) S → f_Mod_note g u (zJ l) w = (f_Mod_isIn u 0 (zJ (2 ^ yI (gN S)) - 1)).bind fun x4 => if x4 = 0 then f_Mod_note_j53 (zsI g 333 2 0) else if zbI (ySb (gN S) l) = 0 then f_Mod_note_j53 (zsI g 333 2 0) else (f_Mod_isIn w 0 1).bind fun x7 => if ¬ x7 = 0 then (zg (zb ((zsI g 333 2 0).1 333 47) 10) <|
            (some (zsI (zsI g 333 2 0) 368 ((zsI g 333 2 0).1 333 47).toNatClampNeg u)).bind fun h8 =>
            zg (zb (h8.1 333 47) 10) <|
            (some (zsI h8 369 (h8.1 333 47).toNatClampNeg (zJ l))).bind fun h10 =>
            zg (zb (h10.1 333 47) 10) <|
            (some (zsI h10 370 (h10.1 333 47).toNatClampNeg w)).bind fun h12 =>
            (some (zsI h12 333 47 ((h12.1 333 47) + 1))).bind fun h14 =>
            some ((h14.1 333 47), h14)) else f_Mod_note_j53 (zsI g 333 2 0) := by
          intro g hg
          unfold f_Mod_note
          rw [Option.bind_some, if_neg (r10 g hg), rows_n ho.1 hg.1, Option.bind_some, lines_in ho.1 hg.1 hl]
          simp only [Option.bind_some]
          rw [decide_eq_true hlL, seen_n ho.1 hg.1 hlL]
          simp only [Option.bind_some]
          rw [if_neg (by decide : ¬ zbI true = 0)]
        rcases isRow_c ho.1 hc.2.1 u with ⟨r, hrr, rfl, b1, b2⟩ | ⟨b1, b2⟩
        · cases hsb : ySb (gN S) l
          · refine bad ?_ (fun g hg => ?_)
            · rw [cn, c27, b1, hsb, Option.bind_some, if_neg (by decide), if_pos (by decide)]
            · rw [rn g hg, b2, hsb, Option.bind_some, if_neg (by decide), if_pos (by decide)]
          · rcases isBit_c w with ⟨b, hb, rfl, d1, d2⟩ | ⟨d1, d2⟩
            · have hS' : yOK (gset S (gno (gT S) r l b)) := by
                obtain ⟨t1, t2, t3, t4, t5⟩ := ho.2.1
                refine ho.set ⟨t1, t2, t3, by unfold gno; dsimp only; omega, fun k hk => ?_⟩
                unfold gno at hk ⊢
                dsimp only at hk ⊢
                by_cases hkt : k = (gT S).2.2.2.1
                · rw [if_pos hkt, if_pos hkt, if_pos hkt]
                  exact ⟨hrr, hlL, hsb, hb⟩
                · rw [if_neg hkt, if_neg hkt, if_neg hkt]
                  exact t5 k (by omega)
              refine yBoth0 (f := fun g => f_Mod_note g (zJ r) (zJ l) (zJ b)) (v := zJ ((gT S).2.2.2.1 + 1)) hS' ?_ (fun g hg => ?_) hr
              · rw [cn, c27, b1, hsb, Option.bind_some, if_neg (by decide), if_neg (by decide), d1, Option.bind_some, if_pos (by decide)]
                refine zw_bi (note_c (r := r) (l := l) (b := b) hc.2.2.1 h10) ?_
                rintro ⟨x, g⟩ ⟨rfl, p1, p2⟩
                exact zw_some ⟨rfl, p1.sub rfl, hc.set ho (p1.sub rfl) p2⟩
              · obtain ⟨hg1, q1, z1⟩ := code_r hg
                show zw (f_Mod_note g (zJ r) (zJ l) (zJ b)) _
                rw [rn g hg1, b2, hsb, Option.bind_some, if_neg (by decide), if_neg (by decide), d2, Option.bind_some, if_pos (by decide)]
                refine zw_mono (noteAdd_r (r := r) (l := l) (b := b) hg1 h10) ?_
                rintro y ⟨a, b, c⟩
                exact ⟨a, q1.trans b, c⟩
            · refine bad ?_ (fun g hg => ?_)
              · rw [cn, c27, b1, hsb, Option.bind_some, if_neg (by decide), if_neg (by decide), d1, Option.bind_some, if_neg (by decide)]
              · rw [rn g hg, b2, hsb, Option.bind_some, if_neg (by decide), if_neg (by decide), d2, Option.bind_some, if_neg (by decide)]
        · refine bad ?_ (fun g hg => ?_)
          · rw [cn, c27, b1, Option.bind_some, if_pos rfl]
          · rw [rn g hg, b2, Option.bind_some, if_pos rfl]
      · refine bad ?_ (fun g hg => ?_)
        · unfold f_Main_note
          rw [w2, zgr_eq, isLine_c ho.1 w4 hl, Option.bind_some, decide_eq_false hlL, if_pos (by decide), c27]
          rcases isRow_c ho.1 hc.2.1 u with ⟨r, hrr, rfl, b1, b2⟩ | ⟨b1, b2⟩
          · rw [b1, Option.bind_some, if_neg (by decide), if_pos rfl]
          · rw [b1, Option.bind_some, if_pos rfl]
        · unfold f_Mod_note
          rw [Option.bind_some, if_neg (r10 g hg), rows_n ho.1 hg.1, Option.bind_some]
          rcases isRow_c ho.1 hc.2.1 u with ⟨r, hrr, rfl, b1, b2⟩ | ⟨b1, b2⟩
          · rw [b2, Option.bind_some, if_neg (by decide), lines_in ho.1 hg.1 hl, Option.bind_some, decide_eq_false hlL, if_pos (by decide)]
          · rw [b2, Option.bind_some, if_pos rfl]
  · have e10 : (gT S).2.2.2.1 = 10 := by omega
    refine bad ?_ (fun g hg => ?_)
    · have c27 : ∀ t0, f_Main_note_j27 h u v w t0 = f_Main_note_j64 h := by
        intro t0
        unfold f_Main_note_j27
        rw [s7, e10, if_pos (by decide)]
      unfold f_Main_note
      rcases yneg v with hv | ⟨l, hl, rfl⟩
      · rw [w2, zgr_eq, isLine_neg hv, Option.bind_some, if_pos rfl, c27]
      · rw [w2, zgr_eq, isLine_c ho.1 w4 hl, Option.bind_some]
        by_cases hlL : l < yLs (gN S)
        · rw [decide_eq_true hlL, if_neg (by decide), zgr_eq, isSeen_c (n := yLs (gN S)) (sb := ySb (gN S)) (fun l hl => by rw [w4.2.1 l (by omega), decide_eq_true hl, Bool.true_and]) (by omega) hlL, Option.bind_some, c27, c27, ite_self]
        · rw [decide_eq_false hlL, if_pos (by decide), c27]
    · unfold f_Mod_note
      rw [Option.bind_some, n47 _ hg, e10, if_pos (by decide)]
