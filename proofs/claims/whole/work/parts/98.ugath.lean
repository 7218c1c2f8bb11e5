/-! ===== what fits the notes ===== -/
def gso (N : yN) (t : yT) (f : Nat) : Bool := !zex (fun k => zvl (yE N) (zrw (t.2.2.2.2.1 k)) f (t.2.2.2.2.2.1 k) != t.2.2.2.2.2.2.1 k) t.2.2.2.1
theorem isSo_c {h : zH} {N : yN} {o f : Nat} {t : yT} (hn : yOKn N) (ht : yOKt N t) (hc : yCAT h (yE N) (ySb N)) (hs : yCSe h o t) (hf : f ≤ 2 * yLs N) : zw (f_Diagnosis_isSo o h (zfj f)) fun x => x = zbI (gso N t f) := by
  obtain ⟨⟨e1, e2, e3, e4⟩, -⟩ := id hn
  have e1' : yI N ≤ 6 := e1
  have e3' : yLs N ≤ yI N + 16 := e3
  obtain ⟨t1, t2, t3, t4, t5⟩ := ht
  obtain ⟨h1, h2, h3, h4, h5, h6⟩ := hs
  unfold f_Diagnosis_isSo
  refine zw_bi (P := Sum.elim (fun _ => gso N t f = false) (fun _ => gso N t f = true)) (zw_for t.2.2.2.1 (fun k s => s = zJ k ∧ zex (fun k => zvl (yE N) (zrw (t.2.2.2.2.1 k)) f (t.2.2.2.2.2.1 k) != t.2.2.2.2.2.2.1 k) k = false) (by omega) ⟨rfl, rfl⟩ ?_) ?_
  · rintro k s hk ⟨rfl, hv⟩
    unfold f_Diagnosis_isSo_b3
    by_cases hkm : k < t.2.2.2.1
    · obtain ⟨a1, a2, a3⟩ := h5 k hkm
      obtain ⟨b1, b2, b3, b4⟩ := t5 k hkm
      have a := zvl_lt2 (f := f) hn.1 (inp := zrw (t.2.2.2.2.1 k)) (fun i _ => zrw_lt) _ (t.2.2.2.2.2.1 k) (Nat.lt_succ_self _) b2
      simp (disch := omega) only [zg_tr, zb_t, zJ_lt, zJ_le, zJ_inj, zJ_ltl, zJ_lel, zJ_eql, zJ_llt, zJ_lle, zJ_leq, zJ_m1, zJ_m1r, zJ_nle_m1, zJ_m1lt, zJ_add, zJ_al, zJ_mull, zJ_c, zJ_mlr, zJ_cl, zJ_sub, zJ_subl, zJ_neg, zJ_divl, zreml, zshl_1, zshr_J, zushr_J, zJ_and1, if_pos, if_neg, Option.bind_some, zI_eq, zI_ne, zI_nk, zI_2, zL_1, zL_eq, zL_ne, zL_nk, zL_22, h4, a1, a2, a3]
      rw [tell_c hn hc hf b2 b1, Option.bind_some]
      by_cases he : zvl (yE N) (zrw (t.2.2.2.2.1 k)) f (t.2.2.2.2.2.1 k) = t.2.2.2.2.2.2.1 k
      · rw [if_pos (by rw [he])]
        refine zw_some ⟨hkm, rfl, ?_⟩
        rw [zex_s, hv, he]
        simp
      · rw [if_neg (fun h => he ((zJ_inj (by omega) (by omega)).mp h))]
        refine zw_some ?_
        show gso N t f = false
        unfold gso
        rw [Bool.not_eq_false', zex_iff]
        exact ⟨k, hkm, by simpa using he⟩
    · have : k = t.2.2.2.1 := by omega
      subst this
      simp (disch := omega) only [zg_tr, zb_t, zJ_lt, zJ_le, zJ_inj, zJ_ltl, zJ_lel, zJ_eql, zJ_llt, zJ_lle, zJ_leq, zJ_m1, zJ_m1r, zJ_nle_m1, zJ_m1lt, zJ_add, zJ_al, zJ_mull, zJ_c, zJ_mlr, zJ_cl, zJ_sub, zJ_subl, zJ_neg, zJ_divl, zreml, zshl_1, zshr_J, zushr_J, zJ_and1, if_pos, if_neg, Option.bind_some, zI_eq, zI_ne, zI_nk, zI_2, zL_1, zL_eq, zL_ne, zL_nk, zL_22, h4]
      refine zw_some ?_
      show gso N t f = true
      unfold gso
      rw [hv]
      rfl
  · rintro (y | y) hy
    · dsimp only [Sum.elim] at hy ⊢
      rw [hy]
      exact zw_some rfl
    · dsimp only [Sum.elim] at hy ⊢
      rw [hy]
      exact zw_some rfl
theorem doesFit_r {h : zH} {S : yG} {f : Nat} (ho : yOK S) (hr : yIr h S) (hf : f ≤ 2 * yLs (gN S)) : zw (f_Mod_doesFit h (zfj f)) fun x => x.1 = zbI (gso (gN S) (gT S) f) ∧ zfm [(350, 351, 0, 9999)] h x.2 := by
  obtain ⟨⟨e1, e2, e3, e4⟩, -⟩ := id ho.1
  have h64 := zpw6 (show yI (gN S) ≤ 6 from e1)
  have e1' : yI (gN S) ≤ 6 := e1
  have e3' : yLs (gN S) ≤ yI (gN S) + 16 := e3
  obtain ⟨t1, t2, t3, t4, t5⟩ := id ho.2.1
  obtain ⟨r1, r2, r3, r4, r5, r6⟩ := id hr.2.2.1
  unfold f_Mod_doesFit
  refine zw_bi (P := fun x => x.1 = zbI (gso (gN S) (gT S) f) ∧ zfm [(350, 351, 0, 9999)] h x.2) (zw_for (gT S).2.2.2.1 (fun k s => s.1 = zbI (!zex (fun k => zvl (yE (gN S)) (zrw ((gT S).2.2.2.2.1 k)) f ((gT S).2.2.2.2.2.1 k) != (gT S).2.2.2.2.2.2.1 k) k) ∧ s.2.1 = zJ k ∧ zfm [(350, 351, 0, 9999)] h s.2.2) (by omega) ⟨rfl, rfl, zfm.rfl'⟩ ?_) ?_
  · rintro k ⟨a, i, g⟩ hk ⟨rfl, rfl, hz⟩
    dsimp only at hz ⊢
    unfold f_Mod_doesFit_b4
    have r4g : g.1 333 47 = zJ (gT S).2.2.2.1 := (hz.i (by rfl)).trans r4
    by_cases hkm : k < (gT S).2.2.2.1
    · obtain ⟨a1, a2, a3⟩ := r5 k hkm
      obtain ⟨b1, b2, b3, b4⟩ := t5 k hkm
      have av := zvl_lt2 (f := f) ho.1.1 (inp := zrw ((gT S).2.2.2.2.1 k)) (fun i _ => zrw_lt) _ ((gT S).2.2.2.2.2.1 k) (Nat.lt_succ_self _) b2
      have rg : ∀ g', zfm [(350, 351, 0, 9999)] h g' → yRN g' (gN S) := fun g' q => hr.1.fr q (fun a k h1 h2 => zin_n1 (by omega))
      have e368 : g.1 368 k = zJ ((gT S).2.2.2.2.1 k) := (hz.i (zin_n1 (by omega))).trans a1
      simp (disch := omega) only [zg_tr, zb_t, zJ_lt, zJ_le, zJ_inj, zJ_ltl, zJ_lel, zJ_eql, zJ_llt, zJ_lle, zJ_leq, zJ_m1, zJ_m1r, zJ_nle_m1, zJ_m1lt, zJ_add, zJ_al, zJ_mull, zJ_c, zJ_mlr, zJ_cl, zJ_sub, zJ_subl, zJ_neg, zJ_divl, zreml, zshl_1, zshr_J, zushr_J, zJ_and1, if_pos, if_neg, Option.bind_some, zI_eq, zI_ne, zI_nk, zI_2, zL_1, zL_eq, zL_ne, zL_nk, zL_22, r4g, e368]
      refine zw_bi (putRow_r ho.1.1 (rg g hz).1 (by omega)) ?_
      rintro g1 ⟨q1, p1⟩
      have z1 := hz.trans (q1.sub rfl)
      refine zw_bi (tellLines_r (inp := zrw ((gT S).2.2.2.2.1 k)) ho.1.1 (rg g1 z1).1 (by omega) (fun i hi => ⟨p1 i hi, zrw_le⟩)) ?_
      rintro g2 ⟨q2, p2⟩
      have z2 := z1.trans (q2.sub rfl)
      have e369 : g2.1 369 k = zJ ((gT S).2.2.2.2.2.1 k) := (z2.i (zin_n1 (by omega))).trans a2
      have e370 : g2.1 370 k = zJ ((gT S).2.2.2.2.2.2.1 k) := (z2.i (zin_n1 (by omega))).trans a3
      have e351 := p2 ((gT S).2.2.2.2.2.1 k) b2
      rw [zex_s]
      unfold f_Mod_doesFit_j56
      cases hex : zex (fun k => zvl (yE (gN S)) (zrw ((gT S).2.2.2.2.1 k)) f ((gT S).2.2.2.2.2.1 k) != (gT S).2.2.2.2.2.2.1 k) k
      · rw [if_neg (by decide), e369, e370]
        simp (disch := omega) only [zg_tr, zb_t, zJ_lt, zJ_le, zJ_inj, zJ_ltl, zJ_lel, zJ_eql, zJ_llt, zJ_lle, zJ_leq, zJ_m1, zJ_m1r, zJ_nle_m1, zJ_m1lt, zJ_add, zJ_al, zJ_mull, zJ_c, zJ_mlr, zJ_cl, zJ_sub, zJ_subl, zJ_neg, zJ_divl, zreml, zshl_1, zshr_J, zushr_J, zJ_and1, if_pos, if_neg, Option.bind_some, zI_eq, zI_ne, zI_nk, zI_2, zL_1, zL_eq, zL_ne, zL_nk, zL_22]
        rw [e351]
        by_cases he : zvl (yE (gN S)) (zrw ((gT S).2.2.2.2.1 k)) f ((gT S).2.2.2.2.2.1 k) = (gT S).2.2.2.2.2.2.1 k
        · rw [if_neg (by rw [he]; exact fun h => h rfl)]
          exact zw_some ⟨hkm, by rw [he]; simp [zbI], rfl, z2⟩
        · rw [if_pos (fun h => he ((zJ_inj (by omega) (by omega)).mp h))]
          exact zw_some ⟨hkm, by simp [he, zbI], rfl, z2⟩
      · rw [if_pos (by decide)]
        simp (disch := omega) only [zg_tr, zb_t, zJ_lt, zJ_le, zJ_inj, zJ_ltl, zJ_lel, zJ_eql, zJ_llt, zJ_lle, zJ_leq, zJ_m1, zJ_m1r, zJ_nle_m1, zJ_m1lt, zJ_add, zJ_al, zJ_mull, zJ_c, zJ_mlr, zJ_cl, zJ_sub, zJ_subl, zJ_neg, zJ_divl, zreml, zshl_1, zshr_J, zushr_J, zJ_and1, if_pos, if_neg, Option.bind_some, zI_eq, zI_ne, zI_nk, zI_2, zL_1, zL_eq, zL_ne, zL_nk, zL_22]
        exact zw_some ⟨hkm, by simp [zbI], rfl, z2⟩
    · have : k = (gT S).2.2.2.1 := by omega
      subst this
      simp (disch := omega) only [zg_tr, zb_t, zJ_lt, zJ_le, zJ_inj, zJ_ltl, zJ_lel, zJ_eql, zJ_llt, zJ_lle, zJ_leq, zJ_m1, zJ_m1r, zJ_nle_m1, zJ_m1lt, zJ_add, zJ_al, zJ_mull, zJ_c, zJ_mlr, zJ_cl, zJ_sub, zJ_subl, zJ_neg, zJ_divl, zreml, zshl_1, zshr_J, zushr_J, zJ_and1, if_pos, if_neg, Option.bind_some, zI_eq, zI_ne, zI_nk, zI_2, zL_1, zL_eq, zL_ne, zL_nk, zL_22, r4g]
      exact zw_some ⟨rfl, hz⟩
  · rintro ⟨x, g⟩ ⟨rfl, hz⟩
    dsimp only at hz ⊢
    rw [zbI_bo]
    exact zw_some ⟨rfl, hz⟩
