/-! ===== gather, fits ===== -/
abbrev gsp (N : yN) (t : yT) : Nat → Bool := fun f => gso N t (f + 1)
theorem gct_ex {p : Nat → Bool} {n : Nat} : ∀ {m : Nat}, n < fb_ct p m → ∃ f, f < m ∧ p f = true ∧ fb_ct p f = n
  | 0, h => absurd h (Nat.not_lt_zero n)
  | m + 1, h => by
    by_cases hm : n < fb_ct p m
    · obtain ⟨f, a, b, c⟩ := gct_ex hm
      exact ⟨f, by omega, b, c⟩
    · rw [fb_ct_succ] at h
      cases hp : p m
      · rw [hp, if_neg (by decide)] at h
        omega
      · rw [hp, if_pos rfl] at h
        exact ⟨m, by omega, hp, by omega⟩
def gga (h : zH) (N : yN) (t : yT) : Prop := h.1 152 1 = zJ (fb_ct (gsp N t) (2 * yLs N)) ∧ h.1 152 2 = zbI (gso N t 0) ∧ (∀ f, f < 2 * yLs N → gsp N t f = true → h.1 153 (fb_ct (gsp N t) f) = zJ f) ∧ (gso N t 0 = true → h.1 153 (fb_ct (gsp N t) (2 * yLs N)) = -1)
theorem gather_c {h : zH} {S : yG} (ho : yOK S) (hc : yIc h S) : zw (f_Diagnosis_gather 155 h) fun g => zfm [(152, 153, 0, 9999)] h g ∧ gga g (gN S) (gT S) := by
  obtain ⟨⟨e1, e2, e3, e4⟩, -⟩ := id ho.1
  have e1' : yI (gN S) ≤ 6 := e1
  have e3' : yLs (gN S) ≤ yI (gN S) + 16 := e3
  have keep : ∀ g, zfm [(152, 153, 0, 9999)] h g → yIc g S := fun g q => hc.fr ho q rfl
  unfold f_Diagnosis_gather
  have q0 : zfm [(152, 153, 0, 9999)] h (zsI h 152 1 0) := zfm.rfl'.I (by rfl)
  have z0 : (zsI h 152 1 0).1 152 1 = zJ 0 := zI_eq
  rw [Option.bind_some]
  generalize zsI h 152 1 0 = h1 at *
  refine zw_bi (P := fun g => zfm [(152, 153, 0, 9999)] h g ∧ g.1 152 1 = zJ (fb_ct (gsp (gN S) (gT S)) (2 * yLs (gN S))) ∧ ∀ f, f < 2 * yLs (gN S) → gsp (gN S) (gT S) f = true → g.1 153 (fb_ct (gsp (gN S) (gT S)) f) = zJ f) (zw_for (2 * yLs (gN S)) (fun k s => s.1 = zJ k ∧ zfm [(152, 153, 0, 9999)] h s.2 ∧ s.2.1 152 1 = zJ (fb_ct (gsp (gN S) (gT S)) k) ∧ ∀ f, f < k → gsp (gN S) (gT S) f = true → s.2.1 153 (fb_ct (gsp (gN S) (gT S)) f) = zJ f) (by omega) ⟨rfl, q0, z0, fun f hf => absurd hf (Nat.not_lt_zero f)⟩ ?_) ?_
  · rintro k ⟨i, g⟩ hk ⟨rfl, hz, hl, hv⟩
    dsimp only at hz hl hv ⊢
    unfold f_Diagnosis_gather_b7
    have hg := keep g hz
    have c1 : g.1 74 0 = zJ (2 * yLs (gN S)) := hg.2.1.1
    rw [c1]
    by_cases hkm : k < 2 * yLs (gN S)
    · have hle := fb_ct_le (gsp (gN S) (gT S)) k
      rw [if_neg (by rw [zJ_le (by omega) (by omega)]; omega), show zJ k = zfj (k + 1) from (zfj_s ..).symm]
      refine zw_bi (isSo_c (f := k + 1) ho.1 ho.2.1 hg.2.1 hg.2.2.1 (by omega)) ?_
      rintro x rfl
      rw [zfj_s, fb_ct_succ]
      cases hp : gso (gN S) (gT S) (k + 1)
      · rw [if_pos (by decide), if_neg (show ¬ gsp (gN S) (gT S) k = true from by show ¬ gso (gN S) (gT S) (k + 1) = true; rw [hp]; decide)]
        simp (disch := omega) only [zg_tr, zb_t, zJ_lt, zJ_le, zJ_inj, zJ_ltl, zJ_lel, zJ_eql, zJ_llt, zJ_lle, zJ_leq, zJ_m1, zJ_m1r, zJ_nle_m1, zJ_m1lt, zJ_add, zJ_al, zJ_mull, zJ_c, zJ_mlr, zJ_cl, zJ_sub, zJ_subl, zJ_neg, zJ_divl, zreml, zshl_1, zshr_J, zushr_J, zJ_and1, if_pos, if_neg, Option.bind_some, zI_eq, zI_ne, zI_nk, zI_2, zL_1, zL_eq, zL_ne, zL_nk, zL_22]
        refine zw_some ⟨hkm, rfl, hz, hl, fun f hf hpf => ?_⟩
        by_cases hfk : f = k
        · subst hfk
          exact absurd (show gso (gN S) (gT S) (f + 1) = true from hpf) (by rw [hp]; decide)
        · exact hv f (by omega) hpf
      · rw [if_neg (by decide), if_pos (show gsp (gN S) (gT S) k = true from hp)]
        simp (disch := omega) only [zg_tr, zb_t, zJ_lt, zJ_le, zJ_inj, zJ_ltl, zJ_lel, zJ_eql, zJ_llt, zJ_lle, zJ_leq, zJ_m1, zJ_m1r, zJ_nle_m1, zJ_m1lt, zJ_add, zJ_al, zJ_mull, zJ_c, zJ_mlr, zJ_cl, zJ_sub, zJ_subl, zJ_neg, zJ_divl, zreml, zshl_1, zshr_J, zushr_J, zJ_and1, if_pos, if_neg, Option.bind_some, zI_eq, zI_ne, zI_nk, zI_2, zL_1, zL_eq, zL_ne, zL_nk, zL_22, hl]
        refine zw_some ⟨hkm, rfl, (hz.I (zin_1 (by omega) (by omega) (by omega) (by omega))).I (by rfl), zI_eq, fun f hf hpf => ?_⟩
        dsimp only
        rw [zI_ne (by omega)]
        by_cases hfk : f = k
        · subst hfk
          rw [zI_eq]
        · have hlt : fb_ct (gsp (gN S) (gT S)) f < fb_ct (gsp (gN S) (gT S)) k := by
            have h1 := fb_ct_mono (gsp (gN S) (gT S)) (show f + 1 ≤ k by omega)
            rw [fb_ct_succ, hpf, if_pos rfl] at h1
            omega
          rw [zI_nk (by omega)]
          exact hv f (by omega) hpf
    · have : k = 2 * yLs (gN S) := by omega
      subst this
      rw [if_pos (by rw [zJ_le (by omega) (by omega)]; omega)]
      exact zw_some ⟨hz, hl, hv⟩
  · rintro g ⟨hz, hl, hv⟩
    have hg := keep g hz
    have hle := fb_ct_le (gsp (gN S) (gT S)) (2 * yLs (gN S))
    rw [show (-1 : Int32) = zfj 0 from rfl]
    refine zw_bi (isSo_c (f := 0) ho.1 ho.2.1 hg.2.1 hg.2.2.1 (Nat.zero_le _)) ?_
    rintro x rfl
    rw [zbI_bo, zg_tr, Option.bind_some]
    have hz2 : zfm [(152, 153, 0, 9999)] h (zsI g 152 2 (zbI (gso (gN S) (gT S) 0))) := hz.I (by rfl)
    have f1 : (zsI g 152 2 (zbI (gso (gN S) (gT S) 0))).1 152 1 = zJ (fb_ct (gsp (gN S) (gT S)) (2 * yLs (gN S))) := by
      rw [zI_nk (by omega)]
      exact hl
    have f2 : (zsI g 152 2 (zbI (gso (gN S) (gT S) 0))).1 152 2 = zbI (gso (gN S) (gT S) 0) := zI_eq
    have f3 : ∀ f, f < 2 * yLs (gN S) → gsp (gN S) (gT S) f = true → (zsI g 152 2 (zbI (gso (gN S) (gT S) 0))).1 153 (fb_ct (gsp (gN S) (gT S)) f) = zJ f := fun f a b => by
      rw [zI_ne (by omega)]
      exact hv f a b
    generalize zsI g 152 2 (zbI (gso (gN S) (gT S) 0)) = g2 at *
    rw [f2]
    cases h0 : gso (gN S) (gT S) 0
    · rw [h0] at f2
      rw [if_pos (by decide)]
      exact zw_some ⟨hz2, f1, by rw [h0]; exact f2, f3, fun h => by rw [h0] at h; cases h⟩
    · rw [h0] at f2
      rw [if_neg (by decide), f1]
      simp (disch := omega) only [zg_tr, zb_t, zJ_lt, zJ_le, zJ_inj, zJ_ltl, zJ_lel, zJ_eql, zJ_llt, zJ_lle, zJ_leq, zJ_m1, zJ_m1r, zJ_nle_m1, zJ_m1lt, zJ_add, zJ_al, zJ_mull, zJ_c, zJ_mlr, zJ_cl, zJ_sub, zJ_subl, zJ_neg, zJ_divl, zreml, zshl_1, zshr_J, zushr_J, zJ_and1, if_pos, if_neg, Option.bind_some, zI_eq, zI_ne, zI_nk, zI_2, zL_1, zL_eq, zL_ne, zL_nk, zL_22]
      refine zw_some ⟨hz2.I (zin_1 (by omega) (by omega) (by omega) (by omega)), ?_, ?_, fun f a b => ?_, fun _ => zI_eq⟩
      · rw [zI_ne (by omega)]; exact f1
      · rw [zI_ne (by omega), h0]; exact f2
      · have hlt : fb_ct (gsp (gN S) (gT S)) f < fb_ct (gsp (gN S) (gT S)) (2 * yLs (gN S)) := by
          have h1 := fb_ct_mono (gsp (gN S) (gT S)) (show f + 1 ≤ 2 * yLs (gN S) by omega)
          rw [fb_ct_succ, b, if_pos rfl] at h1
          omega
        rw [zI_nk (by omega)]
        exact f3 f a b
