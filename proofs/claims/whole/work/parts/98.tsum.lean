/-! ===== tells ===== -/
theorem gsh {b i j : Nat} (hb : b < 2) (hi : i < 32) (hj : j < 32) : zBi (zshl (zJ b) (zJ i)) j = (decide (j = i) && (b == 1)) := by
  rw [zshl_J hi, zJ_bit hj]
  rcases (by omega : b = 0 ∨ b = 1) with c | c
  · subst c
    simp
  · subst c
    rw [Nat.one_mul, Nat.testBit_two_pow]
    simp [eq_comm]
theorem seenNow_r {h : zH} {N : yN} {val : Nat → Nat} (hn : yOKn N) (hr : yRN h N) (hv : ∀ l, l < yLs N → h.1 351 l = zJ (val l) ∧ val l < 2) : zw (f_Mod_seenNow h) fun x => ∀ j, j < 32 → zBi x j = (decide (j < yLs N) && (ySb N j && (val j == 1))) := by
  obtain ⟨⟨e1, e2, e3, e4⟩, -⟩ := id hn
  have e1' : yI N ≤ 6 := e1
  have e3' : yLs N ≤ yI N + 16 := e3
  unfold f_Mod_seenNow
  refine zw_bi (P := fun x => ∀ j, j < 32 → zBi x j = (decide (j < yLs N) && (ySb N j && (val j == 1)))) (zw_for (yLs N) (fun k s => s.2 = zJ k ∧ ∀ j, j < 32 → zBi s.1 j = (decide (j < k) && (ySb N j && (val j == 1)))) (by omega) ⟨rfl, fun j hj => by rw [zBi_0]; simp⟩ ?_) (fun x hx => zw_some hx)
  rintro k ⟨x, i⟩ hk ⟨rfl, hx⟩
  dsimp only at hx ⊢
  unfold f_Mod_seenNow_b4 f_Mod_seenNow_j33
  rw [lines_n hn hr]
  by_cases hkm : k < yLs N
  · simp (disch := omega) only [zg_tr, zb_t, zJ_lt, zJ_le, zJ_inj, zJ_ltl, zJ_lel, zJ_eql, zJ_llt, zJ_lle, zJ_leq, zJ_m1, zJ_m1r, zJ_nle_m1, zJ_m1lt, zJ_add, zJ_al, zJ_mull, zJ_c, zJ_mlr, zJ_cl, zJ_sub, zJ_subl, zJ_neg, zJ_divl, zreml, zshl_1, zshr_J, zushr_J, zJ_and1, if_pos, if_neg, Option.bind_some, zI_eq, zI_ne, zI_nk, zI_2, zL_1, zL_eq, zL_ne, zL_nk, zL_22, seen_n hn hr hkm]
    have fin : ∀ y : Int32, (∀ j, j < 32 → zBi y j = (decide (j = k) && (ySb N k && (val k == 1)))) → ∀ j, j < 32 → zBi (x ||| y) j = (decide (j < k + 1) && (ySb N j && (val j == 1))) := by
      intro y hy j hj
      rw [zBi_or, hx j hj, hy j hj]
      by_cases hjk : j = k
      · subst hjk
        simp
      · by_cases hlt : j < k
        · rw [decide_eq_true hlt, decide_eq_true (show j < k + 1 by omega), decide_eq_false hjk]
          simp
        · rw [decide_eq_false hlt, decide_eq_false (show ¬ j < k + 1 by omega), decide_eq_false hjk]
          simp
    cases hs : ySb N k
    · rw [if_pos (by decide)]
      refine zw_some ⟨hkm, rfl, fin 0 (fun j hj => ?_)⟩
      rw [zBi_0, hs]
      simp
    · rw [if_neg (by decide)]
      obtain ⟨v1, v2⟩ := hv k hkm
      rw [v1]
      refine zw_some ⟨hkm, rfl, fin _ (fun j hj => ?_)⟩
      rw [gsh v2 (by omega) hj, hs, Bool.true_and]
  · have : k = yLs N := by omega
    subst this
    simp (disch := omega) only [zg_tr, zb_t, zJ_lt, zJ_le, zJ_inj, zJ_ltl, zJ_lel, zJ_eql, zJ_llt, zJ_lle, zJ_leq, zJ_m1, zJ_m1r, zJ_nle_m1, zJ_m1lt, zJ_add, zJ_al, zJ_mull, zJ_c, zJ_mlr, zJ_cl, zJ_sub, zJ_subl, zJ_neg, zJ_divl, zreml, zshl_1, zshr_J, zushr_J, zJ_and1, if_pos, if_neg, Option.bind_some, zI_eq, zI_ne, zI_nk, zI_2, zL_1, zL_eq, zL_ne, zL_nk, zL_22]
    exact zw_some hx
/-- do they answer otherwise: free at A, faulty at B -/
def gdi (N : yN) (A B f : Nat) : Bool := zex (fun l => ySb N l && (zvl (yE N) (zrw A) 0 l != zvl (yE N) (zrw B) f l)) (yLs N)
theorem gdi_r {N : yN} {A B f : Nat} {x y : Int32} (hn : yOKn N) (hx : ∀ j, j < 32 → zBi x j = (decide (j < yLs N) && (ySb N j && (zvl (yE N) (zrw A) 0 j == 1)))) (hy : ∀ j, j < 32 → zBi y j = (decide (j < yLs N) && (ySb N j && (zvl (yE N) (zrw B) f j == 1)))) : x = y ↔ gdi N A B f = false := by
  obtain ⟨⟨e1, e2, e3, e4⟩, -⟩ := id hn
  have e1' : yI N ≤ 6 := e1
  have e3' : yLs N ≤ yI N + 16 := e3
  constructor
  · rintro rfl
    cases hd : gdi N A B f
    · rfl
    · unfold gdi at hd
      rw [zex_iff] at hd
      obtain ⟨l, hl, hp⟩ := hd
      rw [Bool.and_eq_true] at hp
      have h1 := (hx l (by omega)).symm.trans (hy l (by omega))
      have a1 := zvl_lt2 (f := 0) hn.1 (inp := zrw A) (fun i _ => zrw_lt) _ l (Nat.lt_succ_self l) hl
      have a2 := zvl_lt2 (f := f) hn.1 (inp := zrw B) (fun i _ => zrw_lt) _ l (Nat.lt_succ_self l) hl
      rw [decide_eq_true hl, hp.1] at h1
      have hne := hp.2
      rcases (by omega : zvl (yE N) (zrw A) 0 l = 0 ∨ zvl (yE N) (zrw A) 0 l = 1) with c | c <;> rcases (by omega : zvl (yE N) (zrw B) f l = 0 ∨ zvl (yE N) (zrw B) f l = 1) with d | d <;> rw [c, d] at h1 hne <;> simp at h1 hne
  · intro hd
    apply zBi_ext
    intro j hj
    rw [hx j hj, hy j hj]
    by_cases hl : j < yLs N
    · rw [decide_eq_true hl]
      cases hs : ySb N j
      · simp
      · have : zvl (yE N) (zrw A) 0 j = zvl (yE N) (zrw B) f j := by
          cases he : (zvl (yE N) (zrw A) 0 j == zvl (yE N) (zrw B) f j)
          · exfalso
            have : gdi N A B f = true := by
              unfold gdi
              rw [zex_iff]
              exact ⟨j, hl, by rw [hs]; simp at he ⊢; exact he⟩
            rw [this] at hd
            cases hd
          · exact by simpa using he
        rw [this]
    · rw [decide_eq_false hl, Bool.false_and, Bool.false_and]
theorem gdi_c {h : zH} {N : yN} {o A B f : Nat} (hn : yOKn N) (hc : yCAT h (yE N) (ySb N)) (hw : yCN h o N) (hA : A < 2 ^ yI N) (hB : B < 2 ^ yI N) (hf : f ≤ 2 * yLs N) : zw (f_Catalog_tellApart o h (zJ A) (zJ B) (zfj f)) fun x => x = zbI (gdi N A B f) := by
  obtain ⟨⟨e1, e2, e3, e4⟩, -⟩ := id hn
  have e1' : yI N ≤ 6 := e1
  have e3' : yLs N ≤ yI N + 16 := e3
  have hL : (yE N).2.1 = yLs N := rfl
  unfold f_Catalog_tellApart
  refine zw_bi (P := Sum.elim (fun _ => gdi N A B f = true) (fun _ => gdi N A B f = false)) (zw_for (yLs N) (fun k t => t = zJ k ∧ zex (fun l => ySb N l && (zvl (yE N) (zrw A) 0 l != zvl (yE N) (zrw B) f l)) k = false) (by omega) ⟨rfl, rfl⟩ ?_) ?_
  · rintro k t hk ⟨rfl, hv⟩
    unfold f_Catalog_tellApart_b3
    rw [lines_c hn.1 hw.1, hL]
    by_cases hkm : k < yLs N
    · simp (disch := omega) only [zg_tr, zb_t, zJ_lt, zJ_le, zJ_inj, zJ_ltl, zJ_lel, zJ_eql, zJ_llt, zJ_lle, zJ_leq, zJ_m1, zJ_m1r, zJ_nle_m1, zJ_m1lt, zJ_add, zJ_al, zJ_mull, zJ_c, zJ_mlr, zJ_cl, zJ_sub, zJ_subl, zJ_neg, zJ_divl, zreml, zshl_1, zshr_J, zushr_J, zJ_and1, if_pos, if_neg, Option.bind_some, zI_eq, zI_ne, zI_nk, zI_2, zL_1, zL_eq, zL_ne, zL_nk, zL_22, isSeen_c (n := yLs N) (sb := ySb N) (fun l hl => by rw [hw.2.1 l (by omega), decide_eq_true hl, Bool.true_and]) (by omega) hkm]
      have a1 := zvl_lt2 (f := 0) hn.1 (inp := zrw A) (fun i _ => zrw_lt) _ k (Nat.lt_succ_self k) hkm
      have a2 := zvl_lt2 (f := f) hn.1 (inp := zrw B) (fun i _ => zrw_lt) _ k (Nat.lt_succ_self k) hkm
      cases hs : ySb N k
      · rw [if_pos (by decide)]
        refine zw_some ⟨hkm, rfl, ?_⟩
        rw [zex_s, hv, hs]
        rfl
      · rw [if_neg (by decide), show (-1 : Int32) = zfj 0 from rfl, tell_c hn hc (Nat.zero_le _) hkm hA, Option.bind_some, tell_c hn hc hf hkm hB, Option.bind_some]
        by_cases he : zvl (yE N) (zrw A) 0 k = zvl (yE N) (zrw B) f k
        · rw [if_pos (by rw [he])]
          refine zw_some ⟨hkm, rfl, ?_⟩
          rw [zex_s, hv, hs, he]
          simp
        · rw [if_neg (fun h => he ((zJ_inj (by omega) (by omega)).mp h))]
          refine zw_some ?_
          show gdi N A B f = true
          unfold gdi
          rw [zex_iff]
          exact ⟨k, hkm, by rw [hs]; simpa using he⟩
    · have : k = yLs N := by omega
      subst this
      simp (disch := omega) only [zg_tr, zb_t, zJ_lt, zJ_le, zJ_inj, zJ_ltl, zJ_lel, zJ_eql, zJ_llt, zJ_lle, zJ_leq, zJ_m1, zJ_m1r, zJ_nle_m1, zJ_m1lt, zJ_add, zJ_al, zJ_mull, zJ_c, zJ_mlr, zJ_cl, zJ_sub, zJ_subl, zJ_neg, zJ_divl, zreml, zshl_1, zshr_J, zushr_J, zJ_and1, if_pos, if_neg, Option.bind_some, zI_eq, zI_ne, zI_nk, zI_2, zL_1, zL_eq, zL_ne, zL_nk, zL_22]
      exact zw_some hv
  · rintro (y | y) hy
    · dsimp only [Sum.elim] at hy ⊢
      rw [hy]
      exact zw_some rfl
    · dsimp only [Sum.elim] at hy ⊢
      rw [hy]
      exact zw_some rfl
def gts (N : yN) (a f : Nat) : Nat → Nat → Int32
  | 0, _ => -1
  | m + 1, k => if gdi N (gbh N a 0 k) (gbh N a f k) f = true then zJ k else gts N a f m (k + 1)
theorem gts_s {N : yN} {a f k : Nat} (hk : k < 65) : gts N a f (65 - k) k = if gdi N (gbh N a 0 k) (gbh N a f k) f = true then zJ k else gts N a f (65 - (k + 1)) (k + 1) := by
  obtain ⟨m, hm⟩ : ∃ m, 65 - k = m + 1 := ⟨65 - k - 1, by omega⟩
  rw [hm, show 65 - (k + 1) = m by omega]
  rfl
theorem tells_c {h : zH} {S : yG} {f : Nat} (ho : yOK S) (hc : yIc h S) (hf : f ≤ 2 * yLs (gN S)) : zw ((zit zFU (fun s : Int32 × Int32 × Int32 => f_Main_tells_b30 h (zfj f) s.1 s.2.1 s.2.2) ((h.1 156 0), (h.1 156 0), 0)).bind (Sum.elim (fun y11 => some ((.inl (y11, h) : (Int32 × zH) ⊕ (Nat × zH)))) (fun y12 => some (.inl ((-1), h))))) fun x => ∃ g, x = .inl (gts (gN S) (gT S).1.1 f 65 0, g) ∧ zfm yLc h g ∧ yIc g S := by
  obtain ⟨⟨W, D, w1, w2, w3, w4⟩, i2, i3, -⟩ := id hc
  obtain ⟨⟨o1, o2, -⟩, -⟩ := id ho.2.1
  have s1' : h.1 156 0 = zJ (gT S).1.1 := i3.1.1
  rw [s1']
  refine zw_bi (P := Sum.elim (fun v => v = gts (gN S) (gT S).1.1 f 65 0) (fun _ => gts (gN S) (gT S).1.1 f 65 0 = -1)) (zw_for 65 (fun k t => t = (zJ (gbh (gN S) (gT S).1.1 0 k), zJ (gbh (gN S) (gT S).1.1 f k), zJ k) ∧ gts (gN S) (gT S).1.1 f 65 0 = gts (gN S) (gT S).1.1 f (65 - k) k) (by omega) ⟨rfl, rfl⟩ ?_) ?_
  · rintro k t hk ⟨rfl, hv⟩
    dsimp only
    unfold f_Main_tells_b30
    by_cases hkm : k < 65
    · rw [gts_s hkm] at hv
      rw [if_neg (by rw [zJ_llt (by omega) (by decide)]; show ¬ 64 < k; omega), w2, zgr_eq]
      refine zw_bi (gdi_c ho.1 hc.2.1 w4 (gbh_lt ho.1 o1 k) (gbh_lt ho.1 o1 k) hf) ?_
      rintro x rfl
      cases hd : gdi (gN S) (gbh (gN S) (gT S).1.1 0 k) (gbh (gN S) (gT S).1.1 f k) f
      · rw [hd, if_neg (by decide)] at hv
        rw [if_pos (by decide), zgr_eq, show (-1 : Int32) = zfj 0 from rfl]
        refine zw_bi (inputsTaken_c ho.1 hc.2.1 w4 (gbh_lt ho.1 o1 k) (Nat.zero_le _)) ?_
        rintro x rfl
        rw [zgr_eq]
        refine zw_bi (inputsTaken_c ho.1 hc.2.1 w4 (gbh_lt ho.1 o1 k) hf) ?_
        rintro x rfl
        simp (disch := omega) only [zg_tr, zb_t, zJ_lt, zJ_le, zJ_inj, zJ_ltl, zJ_lel, zJ_eql, zJ_llt, zJ_lle, zJ_leq, zJ_m1, zJ_m1r, zJ_nle_m1, zJ_m1lt, zJ_add, zJ_al, zJ_mull, zJ_c, zJ_mlr, zJ_cl, zJ_sub, zJ_subl, zJ_neg, zJ_divl, zreml, zshl_1, zshr_J, zushr_J, zJ_and1, if_pos, if_neg, Option.bind_some, zI_eq, zI_ne, zI_nk, zI_2, zL_1, zL_eq, zL_ne, zL_nk, zL_22]
        exact zw_some ⟨hkm, rfl, hv⟩
      · rw [hd, if_pos rfl] at hv
        rw [if_neg (by decide)]
        exact zw_some hv.symm
    · have : k = 65 := by omega
      subst this
      rw [if_pos (by decide)]
      exact zw_some hv
  · rintro (y | y) hy
    · dsimp only [Sum.elim] at hy ⊢
      rw [hy]
      exact zw_some ⟨h, rfl, zfm.rfl', hc⟩
    · dsimp only [Sum.elim] at hy ⊢
      rw [hy]
      exact zw_some ⟨h, rfl, zfm.rfl', hc⟩
theorem tells_r {h : zH} {S : yG} {f : Nat} (ho : yOK S) (hr : yIr h S) (hf : f ≤ 2 * yLs (gN S)) : zw ((zit zFU (fun s : Int32 × Int32 × Int32 × zH => f_Mod_tells_b36 s.2.2.2 (zfj f) s.1 s.2.1 s.2.2.1) ((h.1 347 0), (h.1 347 0), 0, h)).bind (Sum.elim (fun y14 => some (y14.1, y14.2)) (fun y15 => some ((-1), y15)))) fun x => x.1 = gts (gN S) (gT S).1.1 f 65 0 ∧ zfm [(350, 351, 0, 9999)] h x.2 := by
  obtain ⟨⟨e1, e2, e3, e4⟩, -⟩ := id ho.1
  have h64 := zpw6 (show yI (gN S) ≤ 6 from e1)
  have e1' : yI (gN S) ≤ 6 := e1
  have e3' : yLs (gN S) ≤ yI (gN S) + 16 := e3
  obtain ⟨⟨o1, o2, -⟩, -⟩ := id ho.2.1
  have s1' : h.1 347 0 = zJ (gT S).1.1 := hr.2.2.1.1.1
  rw [s1']
  refine zw_bi (P := Sum.elim (fun v => v.1 = gts (gN S) (gT S).1.1 f 65 0 ∧ zfm [(350, 351, 0, 9999)] h v.2) (fun g => gts (gN S) (gT S).1.1 f 65 0 = -1 ∧ zfm [(350, 351, 0, 9999)] h g)) (zw_for 65 (fun k t => t.1 = zJ (gbh (gN S) (gT S).1.1 f k) ∧ t.2.1 = zJ (gbh (gN S) (gT S).1.1 0 k) ∧ t.2.2.1 = zJ k ∧ zfm [(350, 351, 0, 9999)] h t.2.2.2 ∧ gts (gN S) (gT S).1.1 f 65 0 = gts (gN S) (gT S).1.1 f (65 - k) k) (by omega) ⟨rfl, rfl, rfl, zfm.rfl', rfl⟩ ?_) ?_
  · rintro k ⟨a, b, i, g⟩ hk ⟨rfl, rfl, rfl, hz, hv⟩
    dsimp only at hz ⊢
    unfold f_Mod_tells_b36
    by_cases hkm : k < 65
    · rw [gts_s hkm] at hv
      rw [if_neg (by rw [zJ_llt (by omega) (by decide)]; show ¬ 64 < k; omega)]
      have lA := gbh_lt (f := 0) ho.1 o1 k
      have lB := gbh_lt (f := f) ho.1 o1 k
      have rg : ∀ g', zfm [(350, 351, 0, 9999)] h g' → yRN g' (gN S) := fun g' q => hr.1.fr q (fun a k h1 h2 => zin_n1 (by omega))
      refine zw_bi (putRow_r ho.1.1 (rg g hz).1 (by omega)) ?_
      rintro g1 ⟨q1, p1⟩
      have z1 := hz.trans (q1.sub rfl)
      refine zw_bi (tellLines_r (inp := zrw (gbh (gN S) (gT S).1.1 f k)) ho.1.1 (rg g1 z1).1 (by omega) (fun i hi => ⟨p1 i hi, zrw_le⟩)) ?_
      rintro g2 ⟨q2, p2⟩
      have z2 := z1.trans (q2.sub rfl)
      refine zw_bi (seenNow_r (val := fun l => zvl (yE (gN S)) (zrw (gbh (gN S) (gT S).1.1 f k)) f l) ho.1 (rg g2 z2) (fun l hl => ⟨p2 l hl, zvl_lt2 ho.1.1 (fun i _ => zrw_lt) _ l (Nat.lt_succ_self l) hl⟩)) ?_
      intro x5 h5
      refine zw_bi (putRow_r ho.1.1 (rg g2 z2).1 (by omega)) ?_
      rintro g3 ⟨q3, p3⟩
      have z3 := z2.trans (q3.sub rfl)
      rw [show (-1 : Int32) = zfj 0 from rfl]
      refine zw_bi (tellLines_r (f := 0) (inp := zrw (gbh (gN S) (gT S).1.1 0 k)) ho.1.1 (rg g3 z3).1 (by omega) (fun i hi => ⟨p3 i hi, zrw_le⟩)) ?_
      rintro g4 ⟨q4, p4⟩
      have z4 := z3.trans (q4.sub rfl)
      refine zw_bi (seenNow_r (val := fun l => zvl (yE (gN S)) (zrw (gbh (gN S) (gT S).1.1 0 k)) 0 l) ho.1 (rg g4 z4) (fun l hl => ⟨p4 l hl, zvl_lt2 ho.1.1 (fun i _ => zrw_lt) _ l (Nat.lt_succ_self l) hl⟩)) ?_
      intro x8 h8
      have hiff := gdi_r (A := gbh (gN S) (gT S).1.1 0 k) (B := gbh (gN S) (gT S).1.1 f k) (f := f) ho.1 h8 h5
      cases hd : gdi (gN S) (gbh (gN S) (gT S).1.1 0 k) (gbh (gN S) (gT S).1.1 f k) f
      · rw [hd, if_neg (by decide)] at hv
        rw [if_pos (hiff.mpr hd)]
        refine zw_bi (taken_r ho.1 (rg g4 z4) lB hf) ?_
        rintro ⟨x, g5⟩ ⟨rfl, q5⟩
        have z5 := z4.trans q5
        refine zw_bi (taken_r (f := 0) ho.1 (rg g5 z5) lA (Nat.zero_le _)) ?_
        rintro ⟨x, g6⟩ ⟨rfl, q6⟩
        simp (disch := omega) only [zg_tr, zb_t, zJ_lt, zJ_le, zJ_inj, zJ_ltl, zJ_lel, zJ_eql, zJ_llt, zJ_lle, zJ_leq, zJ_m1, zJ_m1r, zJ_nle_m1, zJ_m1lt, zJ_add, zJ_al, zJ_mull, zJ_c, zJ_mlr, zJ_cl, zJ_sub, zJ_subl, zJ_neg, zJ_divl, zreml, zshl_1, zshr_J, zushr_J, zJ_and1, if_pos, if_neg, Option.bind_some, zI_eq, zI_ne, zI_nk, zI_2, zL_1, zL_eq, zL_ne, zL_nk, zL_22]
        exact zw_some ⟨hkm, rfl, rfl, rfl, z5.trans q6, hv⟩
      · rw [hd, if_pos rfl] at hv
        rw [if_neg (fun h => by rw [hiff.mp h] at hd; cases hd)]
        exact zw_some ⟨hv.symm, z4⟩
    · have : k = 65 := by omega
      subst this
      rw [if_pos (by decide)]
      exact zw_some ⟨hv, hz⟩
  · rintro (y | y) hy
    · exact zw_some hy
    · exact zw_some ⟨hy.1.symm, hy.2⟩
theorem q_tells {h : zH} {v : Int32} (hi : yInv h) : zw (f_L_tells h v) fun x => zw (f_Mod_tells x.2 v) fun y => yEnd x y := by
  obtain ⟨S, ho, hc, hr⟩ := hi
  have bad : f_Main_needFault h v = some (.inr (1, h)) → (∀ g, yIr (zsI g 333 2 0) S → f_Mod_isFault (zsI g 333 2 0) v = some 0) → zw (f_L_tells h v) fun x => zw (f_Mod_tells x.2 v) fun y => yEnd x y := by
    intro h1 h2
    unfold f_L_tells
    refine yBad (m := 1) (c := 1) (f := fun g => f_Mod_tells g v) ho hc hr (zw_of (by unfold f_Main_tells; rw [h1]; rfl) ⟨h, rfl, zfm.rfl', hc⟩) (fun g => by rfl) (fun g hg => ?_) (Or.inl rfl)
    unfold f_Mod_tells
    rw [Option.bind_some, h2 g (code_r hg).1, Option.bind_some, if_neg (by decide)]
    refine zw_bi (yFail (c := 1) hg) (fun x hx => zw_some hx)
  rcases yneg v with hv | ⟨k, hk, rfl⟩
  · exact bad (needFault_neg hv) (fun g hg => faults_neg ho.1 hg.1 hv)
  · by_cases hkF : k < 2 * yLs (gN S)
    · unfold f_L_tells
      refine yGood (f := fun g => f_Mod_tells g (zJ k)) (v := gts (gN S) (gT S).1.1 (k + 1) 65 0) ho hr ?_ (fun g hg => ?_)
      · unfold f_Main_tells
        rw [needFault_in ho hc hk, if_pos hkF]
        exact tells_c (f := k + 1) ho hc (by omega)
      · obtain ⟨hg1, q1, z1⟩ := code_r hg
        show zw (f_Mod_tells g (zJ k)) _
        unfold f_Mod_tells
        rw [Option.bind_some]
        generalize zsI g 333 2 0 = g0 at *
        rw [faults_in ho.1 hg1.1 hk, Option.bind_some, decide_eq_true hkF, if_pos (by decide)]
        refine zw_mono (tells_r (f := k + 1) ho hg1 (by omega)) ?_
        rintro ⟨x, g2⟩ ⟨rfl, q⟩
        exact ⟨⟨(q.i (by rfl)).trans z1, fun w hw => by cases hw; rfl⟩, q1.tr q rfl, hg1.fr q rfl⟩
    · refine bad ?_ (fun g hg => ?_)
      · rw [needFault_in ho hc hk, if_neg hkF]
      · rw [faults_in ho.1 hg.1 hk, decide_eq_false hkF]
        rfl
