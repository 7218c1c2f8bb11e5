/-! ===== acts: what is kept ===== -/
theorem copy_c {h : zH} {o o1 : Nat} {s : yS} (hs : yCSt h o1 s) (hd : o1 + 1 < o ∨ o + 1 < o1) (hpk : s.2.2.2.2.1 ≤ 8) : zw (f_State_copyFrom o o1 h) fun g => zfm [(o, o + 1, 0, 9999)] h g ∧ yCSt g o s := by
  obtain ⟨s1, s2, s3, s4, s5, s6, s7⟩ := hs
  unfold f_State_copyFrom
  simp only [Option.bind_some]
  have z : ∀ k, k ≤ 5 → zin [(o, o + 1, 0, 9999)] o k = true := fun k hk => zin_1 (by omega) (by omega) (by omega) (by omega)
  simp (disch := omega) only [zg_tr, zb_t, zJ_lt, zJ_le, zJ_inj, zJ_ltl, zJ_lel, zJ_eql, zJ_llt, zJ_lle, zJ_leq, zJ_m1, zJ_m1r, zJ_nle_m1, zJ_m1lt, zJ_add, zJ_al, zJ_mull, zJ_c, zJ_mlr, zJ_cl, zJ_sub, zJ_subl, zJ_neg, zJ_divl, zreml, zshl_1, zshr_J, zushr_J, zJ_and1, if_pos, if_neg, Option.bind_some, zI_eq, zI_ne, zI_nk, zI_2, zL_1, zL_eq, zL_ne, zL_nk, zL_22, s1, s2, s3, s4, s5]
  have q0 : zfm [(o, o + 1, 0, 9999)] h (zsI (zsL (zsI (zsI (zsI (zsI h o 0 (zJ s.1)) o 1 s.2.1) o 2 (zfj s.2.2.1)) o 3 (zJ s.2.2.2.1)) o 4 (h.2.1 o1 4)) o 5 (zJ s.2.2.2.2.1)) := (((((zfm.rfl'.I (z 0 (by omega))).I (z 1 (by omega))).I (z 2 (by omega))).I (z 3 (by omega))).Lg (z 4 (by omega))).I (z 5 (by omega))
  have b0 : (zsI (zsL (zsI (zsI (zsI (zsI h o 0 (zJ s.1)) o 1 s.2.1) o 2 (zfj s.2.2.1)) o 3 (zJ s.2.2.2.1)) o 4 (h.2.1 o1 4)) o 5 (zJ s.2.2.2.2.1)).1 o 0 = zJ s.1 := by simp (disch := omega) only [zg_tr, zb_t, zJ_lt, zJ_le, zJ_inj, zJ_ltl, zJ_lel, zJ_eql, zJ_llt, zJ_lle, zJ_leq, zJ_m1, zJ_m1r, zJ_nle_m1, zJ_m1lt, zJ_add, zJ_al, zJ_mull, zJ_c, zJ_mlr, zJ_cl, zJ_sub, zJ_subl, zJ_neg, zJ_divl, zreml, zshl_1, zshr_J, zushr_J, zJ_and1, if_pos, if_neg, Option.bind_some, zI_eq, zI_ne, zI_nk, zI_2, zL_1, zL_eq, zL_ne, zL_nk, zL_22]
  have b1 : (zsI (zsL (zsI (zsI (zsI (zsI h o 0 (zJ s.1)) o 1 s.2.1) o 2 (zfj s.2.2.1)) o 3 (zJ s.2.2.2.1)) o 4 (h.2.1 o1 4)) o 5 (zJ s.2.2.2.2.1)).1 o 1 = s.2.1 := by simp (disch := omega) only [zg_tr, zb_t, zJ_lt, zJ_le, zJ_inj, zJ_ltl, zJ_lel, zJ_eql, zJ_llt, zJ_lle, zJ_leq, zJ_m1, zJ_m1r, zJ_nle_m1, zJ_m1lt, zJ_add, zJ_al, zJ_mull, zJ_c, zJ_mlr, zJ_cl, zJ_sub, zJ_subl, zJ_neg, zJ_divl, zreml, zshl_1, zshr_J, zushr_J, zJ_and1, if_pos, if_neg, Option.bind_some, zI_eq, zI_ne, zI_nk, zI_2, zL_1, zL_eq, zL_ne, zL_nk, zL_22]
  have b2 : (zsI (zsL (zsI (zsI (zsI (zsI h o 0 (zJ s.1)) o 1 s.2.1) o 2 (zfj s.2.2.1)) o 3 (zJ s.2.2.2.1)) o 4 (h.2.1 o1 4)) o 5 (zJ s.2.2.2.2.1)).1 o 2 = zfj s.2.2.1 := by simp (disch := omega) only [zg_tr, zb_t, zJ_lt, zJ_le, zJ_inj, zJ_ltl, zJ_lel, zJ_eql, zJ_llt, zJ_lle, zJ_leq, zJ_m1, zJ_m1r, zJ_nle_m1, zJ_m1lt, zJ_add, zJ_al, zJ_mull, zJ_c, zJ_mlr, zJ_cl, zJ_sub, zJ_subl, zJ_neg, zJ_divl, zreml, zshl_1, zshr_J, zushr_J, zJ_and1, if_pos, if_neg, Option.bind_some, zI_eq, zI_ne, zI_nk, zI_2, zL_1, zL_eq, zL_ne, zL_nk, zL_22]
  have b3 : (zsI (zsL (zsI (zsI (zsI (zsI h o 0 (zJ s.1)) o 1 s.2.1) o 2 (zfj s.2.2.1)) o 3 (zJ s.2.2.2.1)) o 4 (h.2.1 o1 4)) o 5 (zJ s.2.2.2.2.1)).1 o 3 = zJ s.2.2.2.1 := by simp (disch := omega) only [zg_tr, zb_t, zJ_lt, zJ_le, zJ_inj, zJ_ltl, zJ_lel, zJ_eql, zJ_llt, zJ_lle, zJ_leq, zJ_m1, zJ_m1r, zJ_nle_m1, zJ_m1lt, zJ_add, zJ_al, zJ_mull, zJ_c, zJ_mlr, zJ_cl, zJ_sub, zJ_subl, zJ_neg, zJ_divl, zreml, zshl_1, zshr_J, zushr_J, zJ_and1, if_pos, if_neg, Option.bind_some, zI_eq, zI_ne, zI_nk, zI_2, zL_1, zL_eq, zL_ne, zL_nk, zL_22]
  have b5 : (zsI (zsL (zsI (zsI (zsI (zsI h o 0 (zJ s.1)) o 1 s.2.1) o 2 (zfj s.2.2.1)) o 3 (zJ s.2.2.2.1)) o 4 (h.2.1 o1 4)) o 5 (zJ s.2.2.2.2.1)).1 o 5 = zJ s.2.2.2.2.1 := by simp (disch := omega) only [zg_tr, zb_t, zJ_lt, zJ_le, zJ_inj, zJ_ltl, zJ_lel, zJ_eql, zJ_llt, zJ_lle, zJ_leq, zJ_m1, zJ_m1r, zJ_nle_m1, zJ_m1lt, zJ_add, zJ_al, zJ_mull, zJ_c, zJ_mlr, zJ_cl, zJ_sub, zJ_subl, zJ_neg, zJ_divl, zreml, zshl_1, zshr_J, zushr_J, zJ_and1, if_pos, if_neg, Option.bind_some, zI_eq, zI_ne, zI_nk, zI_2, zL_1, zL_eq, zL_ne, zL_nk, zL_22]
  have b4 : (zsI (zsL (zsI (zsI (zsI (zsI h o 0 (zJ s.1)) o 1 s.2.1) o 2 (zfj s.2.2.1)) o 3 (zJ s.2.2.2.1)) o 4 (h.2.1 o1 4)) o 5 (zJ s.2.2.2.2.1)).2.1 o 4 = h.2.1 o1 4 := by simp (disch := omega) only [zg_tr, zb_t, zJ_lt, zJ_le, zJ_inj, zJ_ltl, zJ_lel, zJ_eql, zJ_llt, zJ_lle, zJ_leq, zJ_m1, zJ_m1r, zJ_nle_m1, zJ_m1lt, zJ_add, zJ_al, zJ_mull, zJ_c, zJ_mlr, zJ_cl, zJ_sub, zJ_subl, zJ_neg, zJ_divl, zreml, zshl_1, zshr_J, zushr_J, zJ_and1, if_pos, if_neg, Option.bind_some, zI_eq, zI_ne, zI_nk, zI_2, zL_1, zL_eq, zL_ne, zL_nk, zL_22]
  have b6 : ∀ k, (zsI (zsL (zsI (zsI (zsI (zsI h o 0 (zJ s.1)) o 1 s.2.1) o 2 (zfj s.2.2.1)) o 3 (zJ s.2.2.2.1)) o 4 (h.2.1 o1 4)) o 5 (zJ s.2.2.2.2.1)).1 (o1 + 1) k = h.1 (o1 + 1) k := fun k => q0.i (zin_n1 (by omega))
  generalize zsI (zsL (zsI (zsI (zsI (zsI h o 0 (zJ s.1)) o 1 s.2.1) o 2 (zfj s.2.2.1)) o 3 (zJ s.2.2.2.1)) o 4 (h.2.1 o1 4)) o 5 (zJ s.2.2.2.2.1) = g0 at *
  refine zw_bi (P := fun g => zfm [(o, o + 1, 0, 9999)] h g ∧ yCSt g o s) (zw_for 8 (fun k t => t.1 = zJ k ∧ zfm [(o + 1, o + 1, 0, 9999)] g0 t.2 ∧ ∀ i, i < k → t.2.1 (o + 1) i = h.1 (o1 + 1) i) (by omega) ⟨rfl, zfm.rfl', fun l hl => by omega⟩ ?_) (fun x hx => zw_some hx)
  rintro k ⟨i, g⟩ hk ⟨rfl, hz, hv⟩
  dsimp only at hz hv ⊢
  unfold f_State_copyFrom_b50
  by_cases hkm : k < 8
  · simp (disch := omega) only [zg_tr, zb_t, zJ_lt, zJ_le, zJ_inj, zJ_ltl, zJ_lel, zJ_eql, zJ_llt, zJ_lle, zJ_leq, zJ_m1, zJ_m1r, zJ_nle_m1, zJ_m1lt, zJ_add, zJ_al, zJ_mull, zJ_c, zJ_mlr, zJ_cl, zJ_sub, zJ_subl, zJ_neg, zJ_divl, zreml, zshl_1, zshr_J, zushr_J, zJ_and1, if_pos, if_neg, Option.bind_some, zI_eq, zI_ne, zI_nk, zI_2, zL_1, zL_eq, zL_ne, zL_nk, zL_22]
    refine zw_some ⟨hkm, rfl, hz.I (zin_1 (by omega) (by omega) (by omega) (by omega)), fun j hj => ?_⟩
    dsimp only
    by_cases hjk : j = k
    · subst hjk
      rw [zI_eq, hz.i (zin_n1 (by omega)), b6]
    · rw [zI_nk hjk, hv j (by omega)]
  · have : k = 8 := by omega
    subst this
    simp (disch := omega) only [zg_tr, zb_t, zJ_lt, zJ_le, zJ_inj, zJ_ltl, zJ_lel, zJ_eql, zJ_llt, zJ_lle, zJ_leq, zJ_m1, zJ_m1r, zJ_nle_m1, zJ_m1lt, zJ_add, zJ_al, zJ_mull, zJ_c, zJ_mlr, zJ_cl, zJ_sub, zJ_subl, zJ_neg, zJ_divl, zreml, zshl_1, zshr_J, zushr_J, zJ_and1, if_pos, if_neg, Option.bind_some, zI_eq, zI_ne, zI_nk, zI_2, zL_1, zL_eq, zL_ne, zL_nk, zL_22]
    have e : ∀ k, g.1 o k = g0.1 o k := fun k => hz.i (zin_n1 (by omega))
    refine zw_some ⟨q0.trans (hz.sub' (fun a j hh => by
      unfold zin at hh ⊢
      simp at hh ⊢
      omega)), (e 0).trans b0, (e 1).trans b1, (e 2).trans b2, (e 3).trans b3, (e 5).trans b5, fun k hk => (hv k (by omega)).trans (s6 k hk), fun f hf => ?_⟩
    rw [hz.l (zin_n1 (by omega)), b4]
    exact s7 f hf
/-- kept once more -/
def ykp (t : yT) : yT := (t.1, if t.2.1 < 40 then t.2.1 + 1 else 40, fun i => if t.2.1 < 40 then (if i = t.2.1 then t.1 else t.2.2.1 i) else (if i = 39 then t.1 else t.2.2.1 (i + 1)), t.2.2.2)
theorem ykp_ok {N : yN} {t : yT} (h : yOKt N t) : yOKt N (ykp t) := by
  obtain ⟨h1, h2, h3, h4⟩ := h
  refine ⟨h1, ?_, fun i hi => ?_, h4⟩
  · unfold ykp
    dsimp only
    split <;> omega
  · unfold ykp at hi ⊢
    dsimp only at hi ⊢
    by_cases h40 : t.2.1 < 40
    · rw [if_pos h40] at hi ⊢
      by_cases hit : i = t.2.1
      · rw [if_pos hit]
        exact h1
      · rw [if_neg hit]
        exact h3 i (by omega)
    · rw [if_neg h40] at hi ⊢
      by_cases hit : i = 39
      · rw [if_pos hit]
        exact h1
      · rw [if_neg hit]
        exact h3 (i + 1) (by omega)
theorem keepState_c {h : zH} {N : yN} {o : Nat} {t : yT} (ht : yOKt N t) (hs : yCSe h o t) : zw (f_Session_keepState o h) fun g => zfm [(o, o, 2, 3), (o + 8, o + 87, 0, 9999)] h g ∧ yCSe g o (ykp t) := by
  obtain ⟨h1, h2, ⟨ol, o1, o2, o3⟩, h4, h5, h6⟩ := hs
  obtain ⟨⟨-, -, -, hpk, -, -⟩, hac, -⟩ := ht
  have hm : (ol + t.2.1) % 40 < 40 := Nat.mod_lt _ (by omega)
  unfold f_Session_keepState
  simp (disch := omega) only [zg_tr, zb_t, zJ_lt, zJ_le, zJ_inj, zJ_ltl, zJ_lel, zJ_eql, zJ_llt, zJ_lle, zJ_leq, zJ_m1, zJ_m1r, zJ_nle_m1, zJ_m1lt, zJ_add, zJ_al, zJ_mull, zJ_c, zJ_mlr, zJ_cl, zJ_sub, zJ_subl, zJ_neg, zJ_divl, zreml, zshl_1, zshr_J, zushr_J, zJ_and1, if_pos, if_neg, Option.bind_some, zI_eq, zI_ne, zI_nk, zI_2, zL_1, zL_eq, zL_ne, zL_nk, zL_22, o2, h2]
  rw [show o + 3 + (5 + 2 * ((ol + t.2.1) % 40)) = o + 8 + 2 * ((ol + t.2.1) % 40) by omega]
  refine zw_bi (copy_c (s := t.1) h1 (by omega) hpk) ?_
  rintro g ⟨q, hg⟩
  have e3 : g.1 o 3 = zJ t.2.1 := (q.i (zin_n1 (by omega))).trans h2
  have e2 : g.1 o 2 = zJ ol := (q.i (zin_n1 (by omega))).trans o2
  have qq : zfm [(o, o, 2, 3), (o + 8, o + 87, 0, 9999)] h g := q.sub' (fun a j hh => by
    unfold zin at hh ⊢
    simp at hh ⊢
    omega)
  simp (disch := omega) only [zg_tr, zb_t, zJ_lt, zJ_le, zJ_inj, zJ_ltl, zJ_lel, zJ_eql, zJ_llt, zJ_lle, zJ_leq, zJ_m1, zJ_m1r, zJ_nle_m1, zJ_m1lt, zJ_add, zJ_al, zJ_mull, zJ_c, zJ_mlr, zJ_cl, zJ_sub, zJ_subl, zJ_neg, zJ_divl, zreml, zshl_1, zshr_J, zushr_J, zJ_and1, if_pos, if_neg, Option.bind_some, zI_eq, zI_ne, zI_nk, zI_2, zL_1, zL_eq, zL_ne, zL_nk, zL_22, e3, e2]
  have fin : ∀ (k : Nat) (v : Int32) (ol' : Nat), (k = 2 ∨ k = 3) → ol' < 40 → (zsI g o k v).1 o 2 = zJ ol' → (zsI g o k v).1 o 3 = zJ (ykp t).2.1 → (∀ i, i < (ykp t).2.1 → ((ol' + i) % 40 = (ol + t.2.1) % 40 ∧ (ykp t).2.2.1 i = t.1) ∨ ∃ j, j < t.2.1 ∧ (ol' + i) % 40 = (ol + j) % 40 ∧ (ol + j) % 40 ≠ (ol + t.2.1) % 40 ∧ (ykp t).2.2.1 i = t.2.2.1 j) → zfm [(o, o, 2, 3), (o + 8, o + 87, 0, 9999)] h (zsI g o k v) ∧ yCSe (zsI g o k v) o (ykp t) := by
    intro k v ol' hk hol e2' e3' hpast
    have qv : zfm [(o, o, 2, 3)] g (zsI g o k v) := zfm.rfl'.I (zin_1 (by omega) (by omega) (by omega) (by omega))
    have qa : zfm [(o, o, 2, 3), (o + 8, o + 87, 0, 9999)] h (zsI g o k v) := qq.I (zin_1 (by omega) (by omega) (by omega) (by omega))
    have n : ∀ a j, (a = o + 1 ∨ a = o + 2 ∨ (o + 3 ≤ a ∧ a ≤ o + 7) ∨ (a = o ∧ 4 ≤ j)) → zin [(o, o, 2, 3), (o + 8, o + 87, 0, 9999)] a j = false := by
      intro a j ha
      cases hz : zin [(o, o, 2, 3), (o + 8, o + 87, 0, 9999)] a j
      · rfl
      · unfold zin at hz
        simp at hz
        omega
    refine ⟨qa, h1.fr qa (fun a j l1 l2 => n a j (by omega)), e3', ⟨ol', hol, e2', fun i hi => ?_⟩, (qa.i (n _ _ (by omega))).trans h4, fun k hk => ?_, fun k hk => (qa.i (n _ _ (by omega))).trans (h6 k hk)⟩
    · rcases hpast i hi with ⟨p1, p2⟩ | ⟨j, j1, j2, j3, j4⟩
      · rw [p1, p2]
        exact hg.fr qv (fun a j l1 l2 => zin_n1 (by omega))
      · rw [j2, j4]
        have hmj : (ol + j) % 40 < 40 := Nat.mod_lt _ (by omega)
        exact ((o3 j j1).fr q (fun a k l1 l2 => zin_n1 (by omega))).fr qv (fun a j l1 l2 => zin_n1 (by omega))
    · have e : ∀ a, (o + 3 ≤ a ∧ a ≤ o + 7) → (zsI g o k v).1 a = (zsI g o k v).1 a := fun a _ => rfl
      rw [qa.i (n _ _ (by omega)), qa.i (n _ _ (by omega)), qa.i (n _ _ (by omega))]
      exact h5 k hk
  by_cases h40 : t.2.1 < 40
  · rw [if_neg (by omega)]
    refine zw_some (fin 3 _ ol (Or.inr rfl) o1 ?_ ?_ ?_)
    · rw [zI_nk (by omega), e2]
    · rw [zI_eq]
      unfold ykp
      dsimp only
      rw [if_pos h40]
    · intro i hi
      unfold ykp at hi ⊢
      dsimp only at hi ⊢
      rw [if_pos h40] at hi
      by_cases hit : i = t.2.1
      · refine Or.inl ⟨by rw [hit], ?_⟩
        rw [if_pos h40, if_pos hit]
      · refine Or.inr ⟨i, by omega, rfl, by omega, ?_⟩
        rw [if_pos h40, if_neg hit]
  · rw [if_pos (by omega)]
    have hac40 : t.2.1 = 40 := by omega
    refine zw_some (fin 2 _ ((ol + 1) % 40) (Or.inl rfl) (Nat.mod_lt _ (by omega)) ?_ ?_ ?_)
    · rw [zI_eq]
    · rw [zI_nk (by omega), e3]
      unfold ykp
      dsimp only
      rw [if_neg h40, hac40]
    · intro i hi
      unfold ykp at hi ⊢
      dsimp only at hi ⊢
      rw [if_neg h40] at hi
      by_cases hit : i = 39
      · refine Or.inl ⟨by omega, ?_⟩
        rw [if_neg h40, if_pos hit]
      · refine Or.inr ⟨i + 1, by omega, by omega, by omega, ?_⟩
        rw [if_neg h40, if_neg hit]
theorem keepRow_r {h : zH} {a : Nat} (ha : a < 40) (h45 : h.1 333 45 = zJ a) : zw (f_Mod_keep_j52 h) fun g => zfm [(333, 333, 45, 45), (367, 367, 57 * a, 57 * a + 56)] h g ∧ g.1 333 45 = zJ (a + 1) ∧ ∀ k, k < 57 → g.1 367 (57 * a + k) = h.1 347 k := by
  unfold f_Mod_keep_j52
  refine zw_bi (P := fun g => zfm [(367, 367, 57 * a, 57 * a + 56)] h g ∧ ∀ k, k < 57 → g.1 367 (57 * a + k) = h.1 347 k) (zw_for 57 (fun k s => s.1 = zJ k ∧ zfm [(367, 367, 57 * a, 57 * a + 56)] h s.2 ∧ ∀ i, i < k → s.2.1 367 (57 * a + i) = h.1 347 i) (by omega) ⟨rfl, zfm.rfl', fun l hl => by omega⟩ ?_) ?_
  · rintro k ⟨i, g⟩ hk ⟨rfl, hz, hv⟩
    dsimp only at hz hv ⊢
    have e45 : g.1 333 45 = zJ a := (hz.i (zin_n1 (by omega))).trans h45
    unfold f_Mod_keep_b54
    by_cases hkm : k < 57
    · simp (disch := omega) only [zg_tr, zb_t, zJ_lt, zJ_le, zJ_inj, zJ_ltl, zJ_lel, zJ_eql, zJ_llt, zJ_lle, zJ_leq, zJ_m1, zJ_m1r, zJ_nle_m1, zJ_m1lt, zJ_add, zJ_al, zJ_mull, zJ_c, zJ_mlr, zJ_cl, zJ_sub, zJ_subl, zJ_neg, zJ_divl, zreml, zshl_1, zshr_J, zushr_J, zJ_and1, if_pos, if_neg, Option.bind_some, zI_eq, zI_ne, zI_nk, zI_2, zL_1, zL_eq, zL_ne, zL_nk, zL_22, e45]
      refine zw_some ⟨hkm, rfl, hz.I (zin_1 (by omega) (by omega) (by omega) (by omega)), fun j hj => ?_⟩
      dsimp only
      by_cases hjk : j = k
      · subst hjk
        rw [zI_eq, hz.i (zin_n1 (by omega))]
      · rw [zI_nk (by omega), hv j (by omega)]
    · have : k = 57 := by omega
      subst this
      simp (disch := omega) only [zg_tr, zb_t, zJ_lt, zJ_le, zJ_inj, zJ_ltl, zJ_lel, zJ_eql, zJ_llt, zJ_lle, zJ_leq, zJ_m1, zJ_m1r, zJ_nle_m1, zJ_m1lt, zJ_add, zJ_al, zJ_mull, zJ_c, zJ_mlr, zJ_cl, zJ_sub, zJ_subl, zJ_neg, zJ_divl, zreml, zshl_1, zshr_J, zushr_J, zJ_and1, if_pos, if_neg, Option.bind_some, zI_eq, zI_ne, zI_nk, zI_2, zL_1, zL_eq, zL_ne, zL_nk, zL_22]
      exact zw_some ⟨hz, hv⟩
  · rintro g ⟨q1, q2⟩
    have e45 : g.1 333 45 = zJ a := (q1.i (zin_n1 (by omega))).trans h45
    simp (disch := omega) only [zg_tr, zb_t, zJ_lt, zJ_le, zJ_inj, zJ_ltl, zJ_lel, zJ_eql, zJ_llt, zJ_lle, zJ_leq, zJ_m1, zJ_m1r, zJ_nle_m1, zJ_m1lt, zJ_add, zJ_al, zJ_mull, zJ_c, zJ_mlr, zJ_cl, zJ_sub, zJ_subl, zJ_neg, zJ_divl, zreml, zshl_1, zshr_J, zushr_J, zJ_and1, if_pos, if_neg, Option.bind_some, zI_eq, zI_ne, zI_nk, zI_2, zL_1, zL_eq, zL_ne, zL_nk, zL_22, e45]
    refine zw_some ⟨(q1.sub' (fun a j hh => zin_2 hh)).I (by rfl), zI_eq, fun k hk => ?_⟩
    rw [zI_ne (by omega), q2 k hk]
theorem keep_r {h : zH} {N : yN} {t : yT} (ht : yOKt N t) (hr : yRNow h t) : zw (f_Mod_keep h) fun g => zfm [(333, 333, 45, 45), (367, 367, 0, 9999)] h g ∧ yRNow g (ykp t) := by
  obtain ⟨r1, r2, r3, r4, r5, r6⟩ := id hr
  obtain ⟨⟨-, -, -, hpk, -, -⟩, hac, hpo, -⟩ := ht
  unfold f_Mod_keep
  rw [r2]
  have base : ∀ g : zH, zfm [(333, 333, 45, 45), (367, 367, 0, 9999)] h g → g.1 333 45 = zJ (ykp t).2.1 → (∀ i, i < (ykp t).2.1 → yRSt (g.1 367) (57 * i) ((ykp t).2.2.1 i)) → yRNow g (ykp t) := by
    intro g q e1 e2
    unfold yRNow
    rw [q.ir (o := 347) (fun _ => rfl), q.ir (o := 348) (fun _ => rfl), q.ir (o := 368) (fun _ => rfl), q.ir (o := 369) (fun _ => rfl), q.ir (o := 370) (fun _ => rfl), q.i (o := 333) (k := 47) rfl]
    exact ⟨r1, e1, e2, r4, r5, r6⟩
  have row : ∀ (g : zH) (a : Nat), (∀ k, k < 57 → g.1 367 (57 * a + k) = h.1 347 k) → yRSt (g.1 367) (57 * a) t.1 := by
    intro g a hg
    obtain ⟨a1, a2, a3, a4, a5, a6, a7⟩ := r1
    simp only [Nat.zero_add] at a1 a2 a3 a4 a5 a6 a7
    refine ⟨?_, ?_, ?_, ?_, ?_, fun k hk => ?_, fun f hf => ?_⟩
    · have := hg 0 (by omega)
      rw [Nat.add_zero] at this
      rw [this, a1]
    · rw [hg 1 (by omega), a2]
    · rw [hg 2 (by omega), a3]
    · rw [hg 3 (by omega), a4]
    · rw [hg 4 (by omega), a5]
    · rw [Nat.add_assoc, hg (5 + k) (by omega), a6 k hk]
    · rw [Nat.add_assoc, hg (13 + f) (by omega), a7 f hf]
  have stay : ∀ (P P' : Nat → Int32) (p p' : Nat) (s : yS), s.2.2.2.2.1 ≤ 8 → (∀ k, k < 57 → P' (p' + k) = P (p + k)) → yRSt P p s → yRSt P' p' s := by
    intro P P' p p' s hp hk hs
    obtain ⟨a1, a2, a3, a4, a5, a6, a7⟩ := hs
    refine ⟨?_, ?_, ?_, ?_, ?_, fun k hkk => ?_, fun f hf => ?_⟩
    · have := hk 0 (by omega)
      rw [Nat.add_zero, Nat.add_zero] at this
      rw [this, a1]
    · rw [hk 1 (by omega), a2]
    · rw [hk 2 (by omega), a3]
    · rw [hk 3 (by omega), a4]
    · rw [hk 4 (by omega), a5]
    · rw [Nat.add_assoc, hk (5 + k) (by omega), ← Nat.add_assoc, a6 k hkk]
    · rw [Nat.add_assoc, hk (13 + f) (by omega), ← Nat.add_assoc, a7 f hf]
  by_cases h40 : t.2.1 < 40
  · simp (disch := omega) only [zg_tr, zb_t, zJ_lt, zJ_le, zJ_inj, zJ_ltl, zJ_lel, zJ_eql, zJ_llt, zJ_lle, zJ_leq, zJ_m1, zJ_m1r, zJ_nle_m1, zJ_m1lt, zJ_add, zJ_al, zJ_mull, zJ_c, zJ_mlr, zJ_cl, zJ_sub, zJ_subl, zJ_neg, zJ_divl, zreml, zshl_1, zshr_J, zushr_J, zJ_and1, if_pos, if_neg, Option.bind_some, zI_eq, zI_ne, zI_nk, zI_2, zL_1, zL_eq, zL_ne, zL_nk, zL_22]
    refine zw_mono (keepRow_r h40 r2) ?_
    rintro g ⟨q1, q2, q3⟩
    have q : zfm [(333, 333, 45, 45), (367, 367, 0, 9999)] h g := q1.sub' (fun a j hh => by
      unfold zin at hh ⊢
      simp at hh ⊢
      omega)
    have e1 : (ykp t).2.1 = t.2.1 + 1 := by
      unfold ykp
      dsimp only
      rw [if_pos h40]
    refine ⟨q, base g q (by rw [e1]; exact q2) (fun i hi => ?_)⟩
    rw [e1] at hi
    unfold ykp
    dsimp only
    rw [if_pos h40]
    by_cases hit : i = t.2.1
    · rw [if_pos hit, hit]
      exact row g _ q3
    · rw [if_neg hit]
      refine stay _ _ _ _ _ (hpo i (by omega)).2.2.2.1 (fun k hk => q1.i ?_) (r3 i (by omega))
      cases hz : zin [(333, 333, 45, 45), (367, 367, 57 * t.2.1, 57 * t.2.1 + 56)] 367 (57 * i + k)
      · rfl
      · unfold zin at hz
        simp at hz
        omega
  · have hac40 : t.2.1 = 40 := by omega
    rw [hac40, if_neg (by decide)]
    refine zw_bi (P := fun g => zfm [(367, 367, 0, 9999)] h g ∧ ∀ j, j < 2223 → g.1 367 j = h.1 367 (j + 57)) (zw_fr 57 2280 (fun k s => 57 ≤ k ∧ s.1 = zJ k ∧ zfm [(367, 367, 0, 9999)] h s.2 ∧ (∀ j, j + 57 < k → s.2.1 367 j = h.1 367 (j + 57)) ∧ ∀ j, k ≤ j + 57 → s.2.1 367 j = h.1 367 j) (by omega) (by omega) ⟨Nat.le_refl _, rfl, zfm.rfl', fun j hj => by omega, fun j _ => rfl⟩ ?_) ?_
    · rintro k ⟨i, g⟩ hk ⟨h57, rfl, hz, hv, hw⟩
      dsimp only at hz hv hw ⊢
      unfold f_Mod_keep_b12
      by_cases hkm : k < 2280
      · simp (disch := omega) only [zg_tr, zb_t, zJ_lt, zJ_le, zJ_inj, zJ_ltl, zJ_lel, zJ_eql, zJ_llt, zJ_lle, zJ_leq, zJ_m1, zJ_m1r, zJ_nle_m1, zJ_m1lt, zJ_add, zJ_al, zJ_mull, zJ_c, zJ_mlr, zJ_cl, zJ_sub, zJ_subl, zJ_neg, zJ_divl, zreml, zshl_1, zshr_J, zushr_J, zJ_and1, if_pos, if_neg, Option.bind_some, zI_eq, zI_ne, zI_nk, zI_2, zL_1, zL_eq, zL_ne, zL_nk, zL_22]
        refine zw_some ⟨hkm, by omega, rfl, hz.I (zin_1 (by omega) (by omega) (by omega) (by omega)), fun j hj => ?_, fun j hj => ?_⟩
        · dsimp only
          by_cases hjk : j = k - 57
          · subst hjk
            rw [zI_eq, hw k (by omega), show k - 57 + 57 = k by omega]
          · rw [zI_nk hjk, hv j (by omega)]
        · dsimp only
          rw [zI_nk (by omega), hw j (by omega)]
      · have : k = 2280 := by omega
        subst this
        simp (disch := omega) only [zg_tr, zb_t, zJ_lt, zJ_le, zJ_inj, zJ_ltl, zJ_lel, zJ_eql, zJ_llt, zJ_lle, zJ_leq, zJ_m1, zJ_m1r, zJ_nle_m1, zJ_m1lt, zJ_add, zJ_al, zJ_mull, zJ_c, zJ_mlr, zJ_cl, zJ_sub, zJ_subl, zJ_neg, zJ_divl, zreml, zshl_1, zshr_J, zushr_J, zJ_and1, if_pos, if_neg, Option.bind_some, zI_eq, zI_ne, zI_nk, zI_2, zL_1, zL_eq, zL_ne, zL_nk, zL_22]
        exact zw_some ⟨hz, fun j hj => hv j (by omega)⟩
    · rintro g ⟨q1, q2⟩
      have e45 : g.1 333 45 = zJ 40 := (q1.i (by rfl)).trans (by rw [r2, hac40])
      have e39 : (zsI g 333 45 (g.1 333 45 - 1)).1 333 45 = zJ 39 := by
        rw [zI_eq, e45]
        rfl
      rw [Option.bind_some]
      refine zw_mono (keepRow_r (a := 39) (by omega) e39) ?_
      rintro g2 ⟨q3, q4, q5⟩
      have q6 : zfm [(333, 333, 45, 45), (367, 367, 0, 9999)] h (zsI g 333 45 (g.1 333 45 - 1)) := (q1.sub rfl).I (by rfl)
      have q : zfm [(333, 333, 45, 45), (367, 367, 0, 9999)] h g2 := q6.tr q3 rfl
      have e1 : (ykp t).2.1 = 40 := by
        unfold ykp
        dsimp only
        rw [if_neg h40]
      refine ⟨q, base g2 q (by rw [e1]; exact q4) (fun i hi => ?_)⟩
      rw [e1] at hi
      unfold ykp
      dsimp only
      rw [if_neg h40]
      by_cases hit : i = 39
      · rw [if_pos hit, hit]
        refine row g2 _ (fun k hk => ?_)
        rw [q5 k hk, q6.i (by rfl)]
      · rw [if_neg hit]
        refine stay _ _ _ _ _ (hpo (i + 1) (by omega)).2.2.2.1 (fun k hk => ?_) (r3 (i + 1) (by omega))
        have z : zin [(333, 333, 45, 45), (367, 367, 57 * 39, 57 * 39 + 56)] 367 (57 * i + k) = false := by
          cases hz : zin [(333, 333, 45, 45), (367, 367, 57 * 39, 57 * 39 + 56)] 367 (57 * i + k)
          · rfl
          · unfold zin at hz
            simp at hz
            omega
        rw [q3.i z, zI_ne (by omega), q2 _ (by omega), show 57 * i + k + 57 = 57 * (i + 1) + k by omega]
