/-! ===== acts, one by one ===== -/
def gset (S : yG) (t : yT) : yG := (gN S, t, S.2.2)
def ySLu : List (Nat × Nat × Nat × Nat) := ySLr ++ [(333, 333, 45, 47), (347, 348, 0, 9999), (367, 370, 0, 9999)]
theorem ySLu_no {a k : Nat} (h : (336 ≤ a ∧ a ≤ 346) ∨ a = 349 ∨ (353 ≤ a ∧ a ≤ 357) ∨ (374 ≤ a ∧ a ≤ 379) ∨ (a = 333 ∧ (k = 17 ∨ k = 26 ∨ 54 ≤ k))) : zin ySLu a k = false := by
  cases hz : zin ySLu a k
  · rfl
  · unfold zin ySLu ySLr at hz
    simp at hz
    omega
theorem yOK.set {S : yG} {t : yT} (ho : yOK S) (ht : yOKt (gN S) t) : yOK (gset S t) := ⟨ho.1, ht, ho.2.2.1, ho.2.2.2.1, ho.2.2.2.2⟩
theorem yIc.set {h h' : zH} {S : yG} {t : yT} (hi : yIc h S) (ho : yOK S) (q : zfm [(155, 242, 0, 9999)] h h') (ht : yCSe h' 155 t) : yIc h' (gset S t) := by
  obtain ⟨⟨W, D, w1, w2, w3, w4⟩, i2, i3, i4, i5, i6, i7, i8, i9⟩ := hi
  refine ⟨⟨W, D, w1, by rw [q.1]; exact w2, by rw [q.1]; exact w3, w4.fr ho.1 q (fun a k h1 h2 => zin_n1 (by omega))⟩, i2.fr ho.1.1 q (fun a k h1 h2 => zin_n1 (by omega)), ht, fun him => (i4 him).fr q (fun a k h1 h2 => zin_n1 (by omega)), (q.i (zin_n1 (by omega))).trans i5, i6.fr q (fun k => ⟨zin_n1 (by omega), zin_n1 (by omega), zin_n1 (by omega)⟩) (zin_n1 (by omega)) (zin_n1 (by omega)) (zin_n1 (by omega)) (zin_n1 (by omega)), (q.i (zin_n1 (by omega))).trans i7, fun k hk => (q.i (zin_n1 (by omega))).trans (i8 k hk), (q.i (zin_n1 (by omega))).trans i9⟩
theorem yIr.set {L : List (Nat × Nat × Nat × Nat)} {h h' : zH} {S : yG} {t : yT} (hi : yIr h S) (q : zfm L h h') (e : zsubL L ySLu = true) (ht : yRNow h' t) : yIr h' (gset S t) := by
  have q := q.sub e
  obtain ⟨i1, i2, i3, i4, i5, i6, i7, i8⟩ := hi
  exact ⟨i1.fr q (fun a k h1 h2 => ySLu_no (by omega)), i2.fr q (fun a k h1 h2 => ySLu_no (by omega)), ht, fun him => (i4 him).fr q (fun a k h1 h2 => ySLu_no (by omega)) (ySLu_no (by omega)) (ySLu_no (by omega)), (q.i (ySLu_no (by omega))).trans i5, (q.i (ySLu_no (by omega))).trans i6, fun k hk => (q.i (ySLu_no (by omega))).trans (i7 k hk), (q.i (ySLu_no (by omega))).trans i8⟩
/-- another machine -/
theorem yCSe.st {L : List (Nat × Nat × Nat × Nat)} {h h' : zH} {o : Nat} {t : yT} {s : yS} (hs : yCSe h o t) (q : zfm L h h') (e : ∀ a k, (a = o ∨ (o + 3 ≤ a ∧ a ≤ o + 87)) → zin L a k = false) (h1 : yCSt h' (o + 1) s) : yCSe h' o (s, t.2) := by
  obtain ⟨-, h2, ⟨ol, o1, o2, o3⟩, h4, h5, h6⟩ := hs
  refine ⟨h1, (q.i (e _ _ (by omega))).trans h2, ⟨ol, o1, (q.i (e _ _ (by omega))).trans o2, fun i hi => (o3 i hi).fr q (fun a k l1 l2 => e _ _ (by omega))⟩, (q.i (e _ _ (by omega))).trans h4, fun k hk => ?_, fun k hk => (q.i (e _ _ (by omega))).trans (h6 k hk)⟩
  rw [q.i (e _ _ (by omega)), q.i (e _ _ (by omega)), q.i (e _ _ (by omega))]
  exact h5 k hk
theorem yRNow.st {L : List (Nat × Nat × Nat × Nat)} {h h' : zH} {t : yT} {s : yS} (hr : yRNow h t) (q : zfm L h h') (hd : ∀ a k, (a = 348 ∨ 367 ≤ a ∧ a ≤ 370) → zin L a k = false) (e1 : zin L 333 45 = false) (e2 : zin L 333 47 = false) (h1 : yRSt (h'.1 347) 0 s) : yRNow h' (s, t.2) := by
  obtain ⟨-, r2, r3, r4, r5, r6⟩ := hr
  unfold yRNow
  rw [q.i e1, q.i e2, q.ir (o := 348) (fun k => hd _ k (by omega)), q.ir (o := 367) (fun k => hd _ k (by omega)), q.ir (o := 368) (fun k => hd _ k (by omega)), q.ir (o := 369) (fun k => hd _ k (by omega)), q.ir (o := 370) (fun k => hd _ k (by omega))]
  exact ⟨h1, r2, r3, r4, r5, r6⟩
/-- one more refused -/
def yrf (t : yT) (w : Nat) : yT := (t.1, t.2.1, t.2.2.1, t.2.2.2.1, t.2.2.2.2.1, t.2.2.2.2.2.1, t.2.2.2.2.2.2.1, fun k => if k = w then t.2.2.2.2.2.2.2 k + 1 else t.2.2.2.2.2.2.2 k)
theorem refuse_c {h : zH} {o w : Nat} {t : yT} (hs : yCSe h o t) (hw : w < 3) : zw (f_Session_refuse o h (zJ w)) fun g => zfm [(o + 7, o + 7, 0, 9999)] h g ∧ yCSe g o (yrf t w) := by
  obtain ⟨h1, h2, ⟨ol, o1, o2, o3⟩, h4, h5, h6⟩ := hs
  unfold f_Session_refuse
  simp (disch := omega) only [zg_tr, zb_t, zJ_lt, zJ_le, zJ_inj, zJ_ltl, zJ_lel, zJ_eql, zJ_llt, zJ_lle, zJ_leq, zJ_m1, zJ_m1r, zJ_nle_m1, zJ_m1lt, zJ_add, zJ_al, zJ_mull, zJ_c, zJ_mlr, zJ_cl, zJ_sub, zJ_subl, zJ_neg, zJ_divl, zreml, zshl_1, zshr_J, zushr_J, zJ_and1, if_pos, if_neg, Option.bind_some, zI_eq, zI_ne, zI_nk, zI_2, zL_1, zL_eq, zL_ne, zL_nk, zL_22]
  have q : zfm [(o + 7, o + 7, 0, 9999)] h (zsI h (o + 7) w (h.1 (o + 7) w + 1)) := zfm.rfl'.I (zin_1 (by omega) (by omega) (by omega) (by omega))
  refine zw_some ⟨q, h1.fr q (fun a k l1 l2 => zin_n1 (by omega)), (q.i (zin_n1 (by omega))).trans h2, ⟨ol, o1, (q.i (zin_n1 (by omega))).trans o2, fun i hi => (o3 i hi).fr q (fun a k l1 l2 => zin_n1 (by omega))⟩, (q.i (zin_n1 (by omega))).trans h4, fun k hk => ?_, fun k hk => ?_⟩
  · rw [q.i (zin_n1 (by omega)), q.i (zin_n1 (by omega)), q.i (zin_n1 (by omega))]
    exact h5 k hk
  · unfold yrf
    dsimp only
    by_cases hkw : k = w
    · subst hkw
      rw [zI_eq, if_pos rfl, h6 k hk]
    · rw [zI_nk hkw, if_neg hkw, h6 k hk]
theorem refuseAct_c {h : zH} {S : yG} (ho : yOK S) (hi : yIc h S) : zw (f_Main_refuseAct h) fun x => x.1 = -1 ∧ zfm yLc h x.2 ∧ yIc x.2 (gset S (yrf (gT S) 1)) := by
  unfold f_Main_refuseAct
  refine zw_bi (refuse_c (w := 1) hi.2.2.1 (by omega)) ?_
  rintro g ⟨q, hs⟩
  exact zw_some ⟨rfl, q.sub rfl, hi.set ho (q.sub rfl) hs⟩
theorem refuse_r {h : zH} {S : yG} {w : Nat} (hi : yIr h S) (hw : w < 3) : zw (f_Mod_refuse h (zJ w)) fun y => y.1 = -1 ∧ zfm yLr h y.2 ∧ yIr y.2 (gset S (yrf (gT S) w)) := by
  obtain ⟨r1, r2, r3, r4, r5, r6⟩ := id hi.2.2.1
  unfold f_Mod_refuse
  simp (disch := omega) only [zg_tr, zb_t, zJ_lt, zJ_le, zJ_inj, zJ_ltl, zJ_lel, zJ_eql, zJ_llt, zJ_lle, zJ_leq, zJ_m1, zJ_m1r, zJ_nle_m1, zJ_m1lt, zJ_add, zJ_al, zJ_mull, zJ_c, zJ_mlr, zJ_cl, zJ_sub, zJ_subl, zJ_neg, zJ_divl, zreml, zshl_1, zshr_J, zushr_J, zJ_and1, if_pos, if_neg, Option.bind_some, zI_eq, zI_ne, zI_nk, zI_2, zL_1, zL_eq, zL_ne, zL_nk, zL_22]
  have q : zfm [(348, 348, 0, 9999)] h (zsI h 348 w (h.1 348 w + 1)) := zfm.rfl'.I (zin_1 (by omega) (by omega) (by omega) (by omega))
  refine zw_some ⟨rfl, q.sub rfl, hi.set q rfl ?_⟩
  unfold yRNow
  rw [q.i (o := 333) (k := 45) rfl, q.i (o := 333) (k := 47) rfl, q.ir (o := 347) (fun _ => rfl), q.ir (o := 367) (fun _ => rfl), q.ir (o := 368) (fun _ => rfl), q.ir (o := 369) (fun _ => rfl), q.ir (o := 370) (fun _ => rfl)]
  refine ⟨r1, r2, r3, r4, r5, fun k hk => ?_⟩
  unfold yrf
  dsimp only
  by_cases hkw : k = w
  · subst hkw
    rw [zI_eq, if_pos rfl, r6 k hk]
  · rw [zI_nk hkw, if_neg hkw, r6 k hk]
theorem yrf_ok {N : yN} {t : yT} {w : Nat} (h : yOKt N t) : yOKt N (yrf t w) := h
/-- both refuse an act -/
theorem qRefuse {h : zH} {S : yG} {e : Option (Int32 × zH)} {f : zH → Option (Int32 × zH)} (ho : yOK S) (hr : yIr h S) (hc : yIc h S) (h1 : e = (f_Main_refuseAct h).bind fun x => some (x.1, x.2)) (h2 : ∀ g, yIr (zsI g 333 2 0) S → f g = (f_Mod_refuse (zsI g 333 2 0) 1).bind fun y => some (y.1, y.2)) : zw e fun x => zw (f x.2) fun y => x.1 = y.1 ∧ yInv y.2 := by
  subst h1
  refine yBoth0 (S' := gset S (yrf (gT S) 1)) (v := -1) (ho.set (yrf_ok ho.2.1)) ?_ (fun g hg => ?_) hr
  · exact zw_bi (refuseAct_c ho hc) (fun x hx => zw_some hx)
  · obtain ⟨hg1, q1, z1⟩ := code_r hg
    rw [h2 g hg1]
    refine zw_bi (refuse_r (w := 1) hg1 (by omega)) ?_
    rintro y ⟨a, b, c⟩
    exact zw_some ⟨a, q1.trans b, c⟩
/-- an act in the class: kept, then the machine changed -/
theorem keep_cc {h : zH} {S : yG} (ho : yOK S) (hi : yIc h S) : zw (f_Session_keepState 155 h) fun g => zfm [(155, 242, 0, 9999)] h g ∧ yIc g (gset S (ykp (gT S))) ∧ yOK (gset S (ykp (gT S))) := by
  refine zw_mono (keepState_c ho.2.1 hi.2.2.1) ?_
  rintro g ⟨q, hs⟩
  exact ⟨q.sub rfl, hi.set ho (q.sub rfl) hs, ho.set (ykp_ok ho.2.1)⟩
theorem keep_rr {h : zH} {S : yG} (ho : yOK S) (hi : yIr h S) : zw (f_Mod_keep h) fun g => zfm yLr h g ∧ yIr g (gset S (ykp (gT S))) ∧ g.1 333 2 = h.1 333 2 := by
  refine zw_mono (keep_r ho.2.1 hi.2.2.1) ?_
  rintro g ⟨q, hs⟩
  exact ⟨q.sub rfl, hi.set q rfl hs, q.i rfl⟩
/-- the machine changed, in the class -/
theorem yIc.mach {h h' : zH} {S : yG} {s : yS} (hi : yIc h S) (ho : yOK S) (q : zfm [(156, 157, 0, 9999)] h h') (hs : yCSt h' 156 s) : yIc h' (gset S (s, (gT S).2)) :=
  hi.set ho (q.sub rfl) (hi.2.2.1.st q (fun a k ha => zin_n1 (by omega)) hs)
theorem yIr.mach {L : List (Nat × Nat × Nat × Nat)} {h h' : zH} {S : yG} {s : yS} (hi : yIr h S) (q : zfm L h h') (e : zsubL L ySLu = true) (hd : ∀ a k, (a = 348 ∨ 367 ≤ a ∧ a ≤ 370) → zin L a k = false) (e1 : zin L 333 45 = false) (e2 : zin L 333 47 = false) (hs : yRSt (h'.1 347) 0 s) : yIr h' (gset S (s, (gT S).2)) :=
  hi.set q e (hi.2.2.1.st q hd e1 e2 hs)
theorem q_fill {h : zH} {v : Int32} (hi : yInv h) : zw (f_Main_fill h v) fun x => zw (f_Mod_fill x.2 v) fun y => x.1 = y.1 ∧ yInv y.2 := by
  obtain ⟨S, ho, hc, hr⟩ := hi
  have bad : f_Main_fill h v = (f_Main_refuseAct h).bind (fun x => some (x.1, x.2)) → (∀ g, yIr (zsI g 333 2 0) S → f_Mod_fill g v = (f_Mod_refuse (zsI g 333 2 0) 1).bind fun y => some (y.1, y.2)) → zw (f_Main_fill h v) fun x => zw (f_Mod_fill x.2 v) fun y => x.1 = y.1 ∧ yInv y.2 := fun h1 h2 => qRefuse (f := fun g => f_Mod_fill g v) ho hr hc h1 h2
  rcases yneg v with hv | ⟨k, hk, rfl⟩
  · refine bad ?_ (fun g hg => ?_)
    · unfold f_Main_fill f_Main_fill_j9
      rw [if_pos hv]
    · unfold f_Mod_fill
      rw [Option.bind_some, isIn_neg hv, Option.bind_some, if_neg (by decide)]
  · by_cases hk2 : k ≤ 2
    · obtain ⟨⟨o1, o2, o3, o4, o5, o6⟩, tt⟩ := id ho.2.1
      have hS' : yOK (gset S (((gT S).1.1, (gT S).1.2.1, (gT S).1.2.2.1, k, (gT S).1.2.2.2.2), (ykp (gT S)).2)) := ho.set ⟨⟨o1, o2, hk2, o4, o5, o6⟩, (ykp_ok ho.2.1).2⟩
      refine yBoth0 (f := fun g => f_Mod_fill g (zJ k)) (v := zJ (gT S).1.2.2.2.1) hS' ?_ (fun g hg => ?_) hr
      · unfold f_Main_fill
        simp (disch := omega) only [zg_tr, zb_t, zJ_lt, zJ_le, zJ_inj, zJ_ltl, zJ_lel, zJ_eql, zJ_llt, zJ_lle, zJ_leq, zJ_m1, zJ_m1r, zJ_nle_m1, zJ_m1lt, zJ_add, zJ_al, zJ_mull, zJ_c, zJ_mlr, zJ_cl, zJ_sub, zJ_subl, zJ_neg, zJ_divl, zreml, zshl_1, zshr_J, zushr_J, zJ_and1, if_pos, if_neg, Option.bind_some, zI_eq, zI_ne, zI_nk, zI_2, zL_1, zL_eq, zL_ne, zL_nk, zL_22]
        refine zw_bi (keep_cc ho hc) ?_
        rintro g ⟨q1, q2, q3⟩
        obtain ⟨s1, s2, s3, s4, s5, s6, s7⟩ := id q2.2.2.1.1
        have qm : zfm [(156, 157, 0, 9999)] g (zsI g 156 3 (zJ k)) := zfm.rfl'.I (by rfl)
        refine zw_some ⟨s4, (q1.sub rfl).tr qm rfl, q2.mach q3 qm ⟨?_, ?_, ?_, zI_eq, ?_, fun j hj => ?_, fun f hf => s7 f hf⟩⟩
        · rw [zI_nk (by omega)]; exact s1
        · rw [zI_nk (by omega)]; exact s2
        · rw [zI_nk (by omega)]; exact s3
        · rw [zI_nk (by omega)]; exact s5
        · rw [zI_ne (by omega)]; exact s6 j hj
      · obtain ⟨hg1, q1, z1⟩ := code_r hg
        show zw (f_Mod_fill g (zJ k)) _
        unfold f_Mod_fill
        rw [Option.bind_some]
        generalize zsI g 333 2 0 = g0 at *
        rw [show (2 : Int32) = zJ 2 from rfl, isIn_lit (by omega) hk, Option.bind_some, decide_eq_true hk2, if_pos (by decide)]
        refine zw_bi (keep_rr ho hg1) ?_
        rintro g2 ⟨q2, q3, q4⟩
        obtain ⟨s1, s2, s3, s4, s5, s6, s7⟩ := id q3.2.2.1.1
        simp only [Nat.zero_add] at s1 s2 s3 s4 s5 s6 s7
        have qm : zfm [(347, 347, 0, 9999)] g2 (zsI g2 347 3 (zJ k)) := zfm.rfl'.I (by rfl)
        refine zw_some ⟨s4, (q1.trans q2).tr qm rfl, q3.mach qm rfl (fun a k ha => zin_n1 (by omega)) rfl rfl ⟨?_, ?_, ?_, zI_eq, ?_, fun j hj => ?_, fun f hf => ?_⟩⟩
        · rw [zI_nk (by omega)]; exact s1
        · rw [zI_nk (by omega)]; exact s2
        · rw [zI_nk (by omega)]; exact s3
        · rw [zI_nk (by omega)]; exact s5
        · rw [zI_nk (by omega), Nat.zero_add]; exact s6 j hj
        · rw [zI_nk (by omega), Nat.zero_add]; exact s7 f hf
    · refine bad ?_ (fun g hg => ?_)
      · unfold f_Main_fill f_Main_fill_j9
        simp (disch := omega) only [zg_tr, zb_t, zJ_lt, zJ_le, zJ_inj, zJ_ltl, zJ_lel, zJ_eql, zJ_llt, zJ_lle, zJ_leq, zJ_m1, zJ_m1r, zJ_nle_m1, zJ_m1lt, zJ_add, zJ_al, zJ_mull, zJ_c, zJ_mlr, zJ_cl, zJ_sub, zJ_subl, zJ_neg, zJ_divl, zreml, zshl_1, zshr_J, zushr_J, zJ_and1, if_pos, if_neg, Option.bind_some, zI_eq, zI_ne, zI_nk, zI_2, zL_1, zL_eq, zL_ne, zL_nk, zL_22]
      · unfold f_Mod_fill
        rw [Option.bind_some, show (2 : Int32) = zJ 2 from rfl, isIn_lit (by omega) hk, Option.bind_some, decide_eq_false hk2, if_neg (by decide)]
