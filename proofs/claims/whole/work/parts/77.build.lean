/-! ===== the class builds its program ===== -/
/-- so many patterns -/
def yPR (h : zH) (N : yN) (dn : Nat → Bool) (fl s : Nat) : Prop := ∀ t, t < s → h.1 138 t = zJ (ypt N dn fl t) ∧ h.1 139 t = zJ (ypc N dn fl t) ∧ h.1 140 t = zJ (ypm N dn fl t)
/-- the program for what is done and a fill -/
def yPB (h : zH) (N : yN) (dn : Nat → Bool) (fl : Nat) : Prop := h.1 137 4 = 1 ∧ (∀ f, f < 64 → zBl (h.2.1 137 5) f = dn f) ∧ h.1 137 6 = zJ fl ∧ h.1 137 3 = zJ (ypz N dn fl) ∧ yPR h N dn fl (ypz N dn fl)
/-- what is built already, if anything, is right -/
def yPl (h : zH) (N : yN) : Prop := h.1 137 4 = 0 ∨ ∃ dn fl, (∀ f, dn f = true → f < 2 * yLs N) ∧ fl ≤ 2 ∧ yPB h N dn fl
theorem yPB.fr {L : List (Nat × Nat × Nat × Nat)} {h h' : zH} {N : yN} {dn : Nat → Bool} {fl : Nat} (hr : yPB h N dn fl) (q : zfm L h h') (hd : ∀ k, zin L 138 k = false ∧ zin L 139 k = false ∧ zin L 140 k = false) (h3 : zin L 137 3 = false) (h4 : zin L 137 4 = false) (h5 : zin L 137 5 = false) (h6 : zin L 137 6 = false) : yPB h' N dn fl := by
  unfold yPB yPR at hr ⊢
  rw [q.i h3, q.i h4, q.l h5, q.i h6, q.ir (o := 138) (fun k => (hd k).1), q.ir (o := 139) (fun k => (hd k).2.1), q.ir (o := 140) (fun k => (hd k).2.2)]
  exact hr
theorem yPl.fr {L : List (Nat × Nat × Nat × Nat)} {h h' : zH} {N : yN} (hr : yPl h N) (q : zfm L h h') (hd : ∀ k, zin L 138 k = false ∧ zin L 139 k = false ∧ zin L 140 k = false) (h3 : zin L 137 3 = false) (h4 : zin L 137 4 = false) (h5 : zin L 137 5 = false) (h6 : zin L 137 6 = false) : yPl h' N := by
  rcases hr with hr | ⟨dn, fl, a, b, c⟩
  · exact Or.inl ((q.i h4).trans hr)
  · exact Or.inr ⟨dn, fl, a, b, c.fr q hd h3 h4 h5 h6⟩
theorem buildNew_c {h : zH} {N : yN} {dn : Nat → Bool} {o fl : Nat} {x : Int64} (hn : yOKn N) (hc : yCAT h (yE N) (ySb N)) (hw : yCN h o N) (ho : o + 35 ≤ 74) (hx : ∀ f, f < 64 → zBl x f = dn f) (hfl : fl ≤ 2) : zw (f_Program_build_j26 o h x (zJ fl)) fun g => zfm [(137, 140, 0, 9999)] h g ∧ yPB g N dn fl := by
  obtain ⟨⟨e1, e2, e3, e4⟩, -⟩ := id hn
  have e1' : yI N ≤ 6 := e1
  have e3' : yLs N ≤ yI N + 16 := e3
  have h64 := zpw6 e1'
  obtain ⟨-, -, -, -, c5, -⟩ := id hc
  unfold f_Program_build_j26
  rw [Option.bind_some, Option.bind_some, Option.bind_some, Option.bind_some]
  have q0 : zfm [(137, 137, 3, 6)] h (zsI (zsI (zsL (zsI h 137 4 1) 137 5 x) 137 6 (zJ fl)) 137 3 0) := (((zfm.rfl'.I (by rfl)).Lg (by rfl)).I (by rfl)).I (by rfl)
  have r4 : (zsI (zsI (zsL (zsI h 137 4 1) 137 5 x) 137 6 (zJ fl)) 137 3 0).1 137 4 = 1 := by simp (disch := omega) only [zg_tr, zb_t, zJ_lt, zJ_le, zJ_inj, zJ_ltl, zJ_lel, zJ_eql, zJ_llt, zJ_lle, zJ_leq, zJ_m1, zJ_m1r, zJ_nle_m1, zJ_m1lt, zJ_add, zJ_al, zJ_mull, zJ_c, zJ_mlr, zJ_cl, zJ_sub, zJ_subl, zJ_neg, zJ_divl, zreml, zshl_1, zshr_J, zushr_J, zJ_and1, if_pos, if_neg, Option.bind_some, zI_eq, zI_ne, zI_nk, zI_2, zL_1, zL_eq, zL_ne, zL_nk, zL_22]
  have r5 : (zsI (zsI (zsL (zsI h 137 4 1) 137 5 x) 137 6 (zJ fl)) 137 3 0).2.1 137 5 = x := by simp (disch := omega) only [zg_tr, zb_t, zJ_lt, zJ_le, zJ_inj, zJ_ltl, zJ_lel, zJ_eql, zJ_llt, zJ_lle, zJ_leq, zJ_m1, zJ_m1r, zJ_nle_m1, zJ_m1lt, zJ_add, zJ_al, zJ_mull, zJ_c, zJ_mlr, zJ_cl, zJ_sub, zJ_subl, zJ_neg, zJ_divl, zreml, zshl_1, zshr_J, zushr_J, zJ_and1, if_pos, if_neg, Option.bind_some, zI_eq, zI_ne, zI_nk, zI_2, zL_1, zL_eq, zL_ne, zL_nk, zL_22]
  have r6 : (zsI (zsI (zsL (zsI h 137 4 1) 137 5 x) 137 6 (zJ fl)) 137 3 0).1 137 6 = zJ fl := by simp (disch := omega) only [zg_tr, zb_t, zJ_lt, zJ_le, zJ_inj, zJ_ltl, zJ_lel, zJ_eql, zJ_llt, zJ_lle, zJ_leq, zJ_m1, zJ_m1r, zJ_nle_m1, zJ_m1lt, zJ_add, zJ_al, zJ_mull, zJ_c, zJ_mlr, zJ_cl, zJ_sub, zJ_subl, zJ_neg, zJ_divl, zreml, zshl_1, zshr_J, zushr_J, zJ_and1, if_pos, if_neg, Option.bind_some, zI_eq, zI_ne, zI_nk, zI_2, zL_1, zL_eq, zL_ne, zL_nk, zL_22]
  have r3 : (zsI (zsI (zsL (zsI h 137 4 1) 137 5 x) 137 6 (zJ fl)) 137 3 0).1 137 3 = zJ 0 := zI_eq
  have rf : (zsI (zsI (zsL (zsI h 137 4 1) 137 5 x) 137 6 (zJ fl)) 137 3 0).2.1 74 3 = h.2.1 74 3 := q0.l (by rfl)
  generalize zsI (zsI (zsL (zsI h 137 4 1) 137 5 x) 137 6 (zJ fl)) 137 3 0 = h0 at *
  rw [rf]
  refine zw_bi (P := fun g => zfm [(137, 140, 0, 9999)] h g ∧ yPB g N dn fl) (zw_for 44 (fun k s => (∀ f, f < 64 → zBl s.1 f = yO N dn fl k f) ∧ zfm [(137, 137, 3, 3), (137, 137, 7, 8), (138, 140, 0, 9999)] h0 s.2 ∧ s.2.1 137 3 = zJ k ∧ yPR s.2 N dn fl k ∧ ∀ t, t < k → zex (yO N dn fl t) (2 * yLs N) = true) (by omega) ⟨fun f hf => ?_, zfm.rfl', r3, fun t ht => by omega, fun t ht => by omega⟩ ?_) (fun y hy => zw_some hy)
  · dsimp only
    rw [zBl_and, zBl_xor, zBl_m1 hf, c5.2 f hf, hx f hf, yO, Bool.xor_true, Bool.and_assoc]
  rintro k ⟨a, g⟩ hk ⟨ha, hz, h3, hP, hop⟩
  dsimp only at ha hz h3 hP ⊢
  have hzh : zfm [(137, 140, 0, 9999)] h g := (q0.sub rfl).tr hz rfl
  have hlt : ∀ f, yO N dn fl k f = true → f < 2 * yLs N ∧ 0 < zct (yE N) (ySb N) f (2 ^ yI N) := fun f hf => yO_lt hf
  have h0iff : a = 0 ↔ zex (yO N dn fl k) (2 * yLs N) = false := by
    rw [zBl_eq0, zex_no]
    constructor
    · intro h1 f hf
      rw [← ha f (by omega)]
      exact h1 f (by omega)
    · intro h1 f hf
      rw [ha f hf]
      cases hzz : yO N dn fl k f
      · rfl
      · rw [h1 f (hlt f hzz).1] at hzz
        cases hzz
  unfold f_Program_build_b59
  by_cases hcl : zex (yO N dn fl k) (2 * yLs N) = false
  · rw [if_pos (h0iff.mpr hcl)]
    have hs := ypz_eq hn hop hcl
    refine zw_some ⟨hzh, (hz.i (by rfl)).trans r4, fun f hf => ?_, (hz.i (by rfl)).trans r6, ?_, ?_⟩
    · rw [hz.l (by rfl), r5]
      exact hx f hf
    · rw [hs]
      exact h3
    · rw [hs]
      exact hP
  · rw [if_neg (fun h => hcl (h0iff.mp h))]
    have hopk : zex (yO N dn fl k) (2 * yLs N) = true := by
      cases hzz : zex (yO N dn fl k) (2 * yLs N)
      · exact absurd hzz hcl
      · rfl
    have hb := yO_bound hn k hop
    have hpos : 0 < fb_ct (yO N dn fl k) (2 * yLs N) := fb_ct_pos.mpr (zex_iff.mp hopk)
    have hk44 : k < 44 := by omega
    have hcg : yCAT g (yE N) (ySb N) := hc.fr hn.1 hzh (fun a k h1 h2 => zin_n1 (by omega))
    simp (disch := omega) only [zg_tr, zb_t, zJ_lt, zJ_le, zJ_inj, zJ_ltl, zJ_lel, zJ_eql, zJ_llt, zJ_lle, zJ_leq, zJ_m1, zJ_m1r, zJ_nle_m1, zJ_m1lt, zJ_add, zJ_al, zJ_mull, zJ_c, zJ_mlr, zJ_cl, zJ_sub, zJ_subl, zJ_neg, zJ_divl, zreml, zshl_1, zshr_J, zushr_J, zJ_and1, if_pos, if_neg, Option.bind_some, zI_eq, zI_ne, zI_nk, zI_2, zL_1, zL_eq, zL_ne, zL_nk, zL_22, h3]
    refine zw_bi (mergeCubes_c hn hcg ha hlt) ?_
    rintro ⟨b, g1⟩ ⟨rfl, m1, m2⟩
    dsimp only at m1 m2 ⊢
    have r3g : g1.1 137 3 = zJ k := (m1.i (by rfl)).trans h3
    have z1 : zfm [(137, 140, 0, 9999)] h g1 := hzh.tr m1 rfl
    have q140 : zfm [(137, 140, 0, 9999)] h (zsI g1 140 k (zJ (ymg N (yO N dn fl k) (2 * yLs N)).2)) := z1.I (zin_1 (by omega) (by omega) (by omega) (by omega))
    refine zw_bi (fillUp_c (m := (ymg N (yO N dn fl k) (2 * yLs N)).1) hn (hw.fr hn q140 (fun a k h1 h2 => zin_n1 (by omega))) (fun _ => ymg_le) (fun j hj => by rw [zI_ne (by omega)]; exact m2 j hj) hfl) ?_
    rintro x8 rfl
    have hrow : yrn (yfl N (ymg N (yO N dn fl k) (2 * yLs N)).1 fl) (yI N) = ypt N dn fl k := rfl
    rw [hrow]
    have hrl : ypt N dn fl k < 2 ^ yI N := ypr_lt
    refine zw_bi (caughtBy_c hn.1 (hc.fr hn.1 q140 (fun a k h1 h2 => zin_n1 (by omega))) hrl) ?_
    intro x9 hx9
    simp (disch := omega) only [zg_tr, zb_t, zJ_lt, zJ_le, zJ_inj, zJ_ltl, zJ_lel, zJ_eql, zJ_llt, zJ_lle, zJ_leq, zJ_m1, zJ_m1r, zJ_nle_m1, zJ_m1lt, zJ_add, zJ_al, zJ_mull, zJ_c, zJ_mlr, zJ_cl, zJ_sub, zJ_subl, zJ_neg, zJ_divl, zreml, zshl_1, zshr_J, zushr_J, zJ_and1, if_pos, if_neg, Option.bind_some, zI_eq, zI_ne, zI_nk, zI_2, zL_1, zL_eq, zL_ne, zL_nk, zL_22, r3g]
    have hcnt : f_Long_bitCount (x9 &&& a) = some (zJ (ypc N dn fl k)) := by
      rw [bitCount_L]
      congr 2
      unfold ypc
      rw [fb_ext (n := 2 * yLs N) (by omega) (fun f f1 f2 => ?_)]
      · refine fb_ct_cong (fun f hf => ?_)
        rw [zBl_and, hx9 f (by omega), ha f (by omega), decide_eq_true hf, Bool.true_and, Bool.and_comm]
      · rw [zBl_and, ha f f2]
        cases hzz : yO N dn fl k f
        · rw [Bool.and_false]
        · exact absurd (hlt f hzz).1 (by omega)
    rw [hcnt]
    simp (disch := omega) only [zg_tr, zb_t, zJ_lt, zJ_le, zJ_inj, zJ_ltl, zJ_lel, zJ_eql, zJ_llt, zJ_lle, zJ_leq, zJ_m1, zJ_m1r, zJ_nle_m1, zJ_m1lt, zJ_add, zJ_al, zJ_mull, zJ_c, zJ_mlr, zJ_cl, zJ_sub, zJ_subl, zJ_neg, zJ_divl, zreml, zshl_1, zshr_J, zushr_J, zJ_and1, if_pos, if_neg, Option.bind_some, zI_eq, zI_ne, zI_nk, zI_2, zL_1, zL_eq, zL_ne, zL_nk, zL_22, r3g]
    refine zw_some ⟨hk44, fun f hf => ?_, ?_, rfl, fun t ht => ?_, fun t ht => ?_⟩
    · dsimp only
      rw [zBl_and, zBl_xor, zBl_and, zBl_m1 hf, hx9 f hf, ha f hf, yO]
      show _ = (yO N dn fl k f && !zcg (yE N) (ySb N) (zrw (ypt N dn fl k)) (f + 1))
      cases hzz : yO N dn fl k f
      · simp
      · have := (hlt f hzz).1
        rw [show decide (f < 2 * (yE N).2.1) = true from decide_eq_true this]
        simp
    · exact ((((hz.tr m1 rfl).I (zin_2 (zin_2 (zin_1 (by omega) (by omega) (by omega) (by omega))))).I (zin_2 (zin_2 (zin_1 (by omega) (by omega) (by omega) (by omega))))).I (zin_2 (zin_2 (zin_1 (by omega) (by omega) (by omega) (by omega))))).I (by rfl)
    · dsimp only
      by_cases htk : t = k
      · subst htk
        simp (disch := omega) only [zg_tr, zb_t, zJ_lt, zJ_le, zJ_inj, zJ_ltl, zJ_lel, zJ_eql, zJ_llt, zJ_lle, zJ_leq, zJ_m1, zJ_m1r, zJ_nle_m1, zJ_m1lt, zJ_add, zJ_al, zJ_mull, zJ_c, zJ_mlr, zJ_cl, zJ_sub, zJ_subl, zJ_neg, zJ_divl, zreml, zshl_1, zshr_J, zushr_J, zJ_and1, if_pos, if_neg, Option.bind_some, zI_eq, zI_ne, zI_nk, zI_2, zL_1, zL_eq, zL_ne, zL_nk, zL_22]
        refine ⟨?_, ?_, ?_⟩ <;> first | trivial | rfl
      · simp (disch := omega) only [zg_tr, zb_t, zJ_lt, zJ_le, zJ_inj, zJ_ltl, zJ_lel, zJ_eql, zJ_llt, zJ_lle, zJ_leq, zJ_m1, zJ_m1r, zJ_nle_m1, zJ_m1lt, zJ_add, zJ_al, zJ_mull, zJ_c, zJ_mlr, zJ_cl, zJ_sub, zJ_subl, zJ_neg, zJ_divl, zreml, zshl_1, zshr_J, zushr_J, zJ_and1, if_pos, if_neg, Option.bind_some, zI_eq, zI_ne, zI_nk, zI_2, zL_1, zL_eq, zL_ne, zL_nk, zL_22]
        rw [m1.ir (o := 138) (fun _ => rfl), m1.ir (o := 139) (fun _ => rfl), m1.ir (o := 140) (fun _ => rfl)]
        exact hP t (by omega)
    · by_cases htk : t = k
      · subst htk
        exact hopk
      · exact hop t (by omega)
theorem build_c {h : zH} {N : yN} {dn : Nat → Bool} {o fl : Nat} {x : Int64} (hn : yOKn N) (hc : yCAT h (yE N) (ySb N)) (hw : yCN h o N) (ho : o + 35 ≤ 74) (hx : ∀ f, f < 64 → zBl x f = dn f) (hd : ∀ f, dn f = true → f < 2 * yLs N) (hfl : fl ≤ 2) (hp : yPl h N) : zw (f_Program_build o h x (zJ fl)) fun g => zfm [(137, 140, 0, 9999)] h g ∧ yPB g N dn fl := by
  obtain ⟨⟨e1, e2, e3, e4⟩, -⟩ := id hn
  have e1' : yI N ≤ 6 := e1
  have e3' : yLs N ≤ yI N + 16 := e3
  have new := buildNew_c hn hc hw ho hx hfl
  unfold f_Program_build
  rcases hp with hp | ⟨dn', fl', d1, d2, hB⟩
  · rw [hp, if_pos rfl]
    exact new
  · obtain ⟨b1, b2, b3, b4, b5⟩ := id hB
    rw [b1, if_neg (by decide), b3]
    by_cases h1 : h.2.1 137 5 = x
    · rw [if_neg (fun h => h h1)]
      by_cases h2 : fl' = fl
      · subst h2
        rw [if_neg (fun h => h rfl)]
        refine zw_some ⟨zfm.rfl', ?_⟩
        have : dn = dn' := by
          funext f
          by_cases hf : f < 64
          · rw [← hx f hf, ← h1, b2 f hf]
          · cases c1 : dn f
            · cases c2 : dn' f
              · rfl
              · exact absurd (d1 f c2) (by omega)
            · exact absurd (hd f c1) (by omega)
        rw [this]
        exact hB
      · simp (disch := omega) only [zg_tr, zb_t, zJ_lt, zJ_le, zJ_inj, zJ_ltl, zJ_lel, zJ_eql, zJ_llt, zJ_lle, zJ_leq, zJ_m1, zJ_m1r, zJ_nle_m1, zJ_m1lt, zJ_add, zJ_al, zJ_mull, zJ_c, zJ_mlr, zJ_cl, zJ_sub, zJ_subl, zJ_neg, zJ_divl, zreml, zshl_1, zshr_J, zushr_J, zJ_and1, if_pos, if_neg, Option.bind_some, zI_eq, zI_ne, zI_nk, zI_2, zL_1, zL_eq, zL_ne, zL_nk, zL_22]
        exact new
    · rw [if_pos h1]
      exact new
