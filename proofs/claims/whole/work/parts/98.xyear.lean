/-! ===== years ===== -/
def gst (x : Int32) : Int32 := x * 1103515245 + 12345
def gdr (x : Int32) : Nat := (zushr x (zJ 16)).toBitVec.toNat % 32768
theorem gdr_lt {x : Int32} : gdr x < 32768 := Nat.mod_lt _ (by decide)
theorem gdr_b {x : Int32} {i : Nat} (hi : i < 32) : zBi (zJ (gdr x)) i = (decide (i < 15) && zBi x (16 + i)) := by
  rw [zJ_bit hi]
  unfold gdr
  rw [show (32768 : Nat) = 2 ^ 15 from rfl, Nat.testBit_mod_two_pow, zushr_bv x (by omega)]
  rw [show ∀ y : BitVec 32, y.toNat.testBit i = y.getLsbD i from fun _ => rfl, BitVec.getLsbD_ushiftRight]
  rfl
theorem g32767 {i : Nat} (hi : i < 32) : zBi (32767 : Int32) i = decide (i < 15) := by
  revert i
  decide
theorem gdr_c {x : Int32} : zushr x 16 &&& 32767 = zJ (gdr x) := by
  apply zBi_ext
  intro i hi
  rw [gdr_b hi, zBi_and, g32767 hi, show (16 : Int32) = zJ 16 from rfl, zBi_ushr x (by omega), Bool.and_comm]
theorem gdr_r {x : Int32} : zshr x 16 &&& 32767 = zJ (gdr x) := by
  apply zBi_ext
  intro i hi
  rw [gdr_b hi, zBi_and, g32767 hi, show (16 : Int32) = zJ 16 from rfl]
  by_cases h15 : i < 15
  · have e : zBi (zshr x (zJ 16)) i = zBi x (16 + i) := by
      unfold zBi
      rw [zshr_bv x (by omega), BitVec.getLsbD_sshiftRight]
      have : 16 + i < 32 := by omega
      simp [hi, this]
    rw [e, decide_eq_true h15, Bool.and_comm]
  · rw [decide_eq_false h15, Bool.and_false, Bool.false_and]
theorem draw_c {v : Int32} {n : Nat} (hn : n = 4 ∨ n = 8 ∨ n = 64) : f_Main_draw v (zJ n) = some (zJ (gdr v % n)) := by
  have hl := gdr_lt (x := v)
  unfold f_Main_draw
  rw [gdr_c]
  rcases hn with rfl | rfl | rfl
  · rw [if_pos (by decide), show (!decide (zJ 4 = 0)) = true by decide, zg_tr]
    exact congrArg some (zreml (n := 4) (by omega) (by decide))
  · rw [if_pos (by decide), show (!decide (zJ 8 = 0)) = true by decide, zg_tr]
    exact congrArg some (zreml (n := 8) (by omega) (by decide))
  · rw [if_pos (by decide), show (!decide (zJ 64 = 0)) = true by decide, zg_tr]
    exact congrArg some (zreml (n := 64) (by omega) (by decide))
theorem gzr4 {a : Nat} (h : a < 32768) : zrem (zJ a) (zJ 4) = zJ (a % 4) := zreml (n := 4) (by omega) (by decide)
theorem gzr8 {a : Nat} (h : a < 32768) : zrem (zJ a) (zJ 8) = zJ (a % 8) := zreml (n := 8) (by omega) (by decide)
theorem gzr64 {a : Nat} (h : a < 32768) : zrem (zJ a) (zJ 64) = zJ (a % 64) := zreml (n := 64) (by omega) (by decide)
theorem draw_r {h : zH} {n : Nat} (hn : n = 4 ∨ n = 8 ∨ n = 64) : f_Mod_draw h (zJ n) = some (zJ (gdr (gst (h.1 333 53)) % n), zsI h 333 53 (gst (h.1 333 53))) := by
  have hl := gdr_lt (x := gst (h.1 333 53))
  unfold f_Mod_draw
  rw [Option.bind_some, zI_eq, show h.1 333 53 * 1103515245 + 12345 = gst (h.1 333 53) from rfl, gdr_r]
  rcases hn with rfl | rfl | rfl
  · rw [show (!decide (zJ 4 = 0)) = true by decide, zg_tr]
    rw [gzr4 hl]
  · rw [show (!decide (zJ 8 = 0)) = true by decide, zg_tr]
    rw [gzr8 hl]
  · rw [show (!decide (zJ 64 = 0)) = true by decide, zg_tr]
    rw [gzr64 hl]
/-- one year -/
def gye (N : yN) (q : Int32 × yS) : Int32 × yS :=
  if gdr (gst q.1) % 4 = 0 then (gst (gst q.1), if yNc N = 0 then q.2 else gsM N (gdr (gst (gst q.1)) % 8) q.2)
  else if gdr (gst q.1) % 4 = 1 then (gst q.1, ysT N q.2)
  else if gdr (gst q.1) % 4 = 2 then (gst (gst q.1), ysL N q.2 (gdr (gst (gst q.1)) % 64 % 2 ^ yI N))
  else (gst q.1, ysA N q.2)
theorem gysL_ok {N : yN} {s : yS} {e : Nat} (h : yOKs N s) : yOKs N (ysL N s (e % 64 % 2 ^ yI N)) := ⟨Nat.mod_lt _ (Nat.two_pow_pos _), h.2⟩
theorem gye_ok {N : yN} {q : Int32 × yS} (hn : yOKn N) (h : yOKs N q.2) : yOKs N (gye N q).2 := by
  unfold gye
  generalize gst (gst q.1) = x2
  generalize gst q.1 = x1
  generalize gdr x1 = d
  generalize gdr x2 = e
  split
  · dsimp only
    split
    · exact h
    · exact gsM_ok h
  · split
    · exact ysT_ok hn h
    · split
      · exact gysL_ok h
      · exact ysA_ok h
def gof (d : Int32) (s : yS) : yS := (s.1, s.2.1 + d, s.2.2)
theorem gye_of {N : yN} {x d : Int32} {s : yS} : gye N (x, gof d s) = ((gye N (x, s)).1, gof d (gye N (x, s)).2) := by
  have c : ∀ a b : Int32, a + d + b = a + b + d := fun a b => by rw [Int32.add_assoc, Int32.add_comm d b, Int32.add_assoc]
  unfold gye
  dsimp only
  by_cases d0 : gdr (gst x) % 4 = 0
  · rw [if_pos d0, if_pos d0]
    by_cases hc : yNc N = 0
    · rw [if_pos hc, if_pos hc]
    · rw [if_neg hc, if_neg hc]
      unfold gsM gof
      dsimp only
      rw [c]
  · rw [if_neg d0, if_neg d0]
    by_cases d1 : gdr (gst x) % 4 = 1
    · rw [if_pos d1, if_pos d1]
      unfold ysT gof
      dsimp only
      rw [c]
    · rw [if_neg d1, if_neg d1]
      by_cases d2 : gdr (gst x) % 4 = 2
      · rw [if_pos d2, if_pos d2]
        unfold ysL gof
        dsimp only
        rw [c]
      · rw [if_neg d2, if_neg d2]
        rfl
def gyn (N : yN) (q : Int32 × yS) : Nat → Int32 × yS
  | 0 => q
  | n + 1 => gye N (gyn N q n)
theorem gyn_s {N : yN} {q : Int32 × yS} {n : Nat} : gyn N q (n + 1) = gye N (gyn N q n) := by rw [gyn]
theorem gyn_ok {N : yN} {q : Int32 × yS} (hn : yOKn N) (h : yOKs N q.2) : ∀ n, yOKs N (gyn N q n).2
  | 0 => h
  | n + 1 => gye_ok hn (gyn_ok hn h n)
theorem gyn_of {N : yN} {x d : Int32} {s : yS} : ∀ n, gyn N (x, gof d s) n = ((gyn N (x, s) n).1, gof d (gyn N (x, s) n).2)
  | 0 => rfl
  | n + 1 => by
    unfold gyn
    rw [gyn_of n, gye_of]
theorem gand {a n : Nat} : zJ a &&& (zJ (2 ^ n) - 1) = zJ (a % 2 ^ n) := by
  have h1 : zJ (2 ^ n) - 1 = zJ (2 ^ n - 1) := zJ_sub (b := 1) (Nat.two_pow_pos n)
  rw [h1, zJ_and, Nat.and_two_pow_sub_one_eq_mod]
theorem liveYear_c {h : zH} {S : yG} {q : Int32 × yS} (ho : yOK S) (hc : yIc h S) (hs : yOKs (gN S) q.2) (h1 : yCSt h 331 q.2) : zw (f_Main_liveYear h q.1) fun x => x.1 = (gye (gN S) q).1 ∧ zfm [(331, 332, 0, 9999)] h x.2 ∧ yCSt x.2 331 (gye (gN S) q).2 := by
  obtain ⟨⟨W, D, w1, w2, w3, w4⟩, i2, i3, -⟩ := id hc
  obtain ⟨⟨e1, e2, e3, e4⟩, -, n3, -⟩ := id ho.1
  have c1 : h.1 74 1 = zJ (2 ^ yI (gN S)) := i2.2.1
  unfold f_Main_liveYear f_Main_stir
  rw [Option.bind_some, Option.bind_some, Option.bind_some]
  rw [show q.1 * 1103515245 + 12345 = gst q.1 from rfl, show gst q.1 * 1103515245 + 12345 = gst (gst q.1) from rfl]
  rw [show (4 : Int32) = zJ 4 from rfl, draw_c (Or.inl rfl), Option.bind_some]
  by_cases d0 : gdr (gst q.1) % 4 = 0
  · have e : gye (gN S) q = (gst (gst q.1), if yNc (gN S) = 0 then q.2 else gsM (gN S) (gdr (gst (gst q.1)) % 8) q.2) := by
      unfold gye
      rw [if_pos d0]
    rw [e, d0, if_pos (by decide), w2, zgr_eq, w4.2.2.1]
    by_cases h0 : yNc (gN S) = 0
    · rw [h0, if_pos (by decide)]
      refine zw_some ⟨rfl, zfm.rfl', ?_⟩
      dsimp only
      rw [if_pos rfl]
      exact h1
    · rw [if_neg (by rw [zJ_lel (by omega) (by decide)]; show ¬ _ ≤ 0; omega), zgr_eq, show (8 : Int32) = zJ 8 from rfl, draw_c (Or.inr (Or.inl rfl)), Option.bind_some]
      refine zw_bi (shiftCells_c (s := q.2) (v := gdr (gst (gst q.1)) % 8) ho.1 hs w4 (by omega) (by omega) h1) ?_
      rintro ⟨x, g2⟩ ⟨rfl, p1, p2⟩
      refine zw_some ⟨rfl, p1.sub rfl, ?_⟩
      dsimp only
      rw [if_neg h0]
      exact p2
  · rw [if_neg (by rw [zJ_eql (by omega) (by decide)]; exact d0)]
    by_cases d1 : gdr (gst q.1) % 4 = 1
    · have e : gye (gN S) q = (gst q.1, ysT (gN S) q.2) := by
        unfold gye
        rw [if_neg d0, if_pos d1]
      rw [e, d1, if_pos (by decide), w2, zgr_eq]
      refine zw_bi (takeLines_c (s := q.2) ho.1 hs i2 w4 h1) ?_
      rintro g2 ⟨p1, p2⟩
      exact zw_some ⟨rfl, p1.sub rfl, p2⟩
    · rw [if_neg (by rw [zJ_eql (by omega) (by decide)]; exact d1)]
      by_cases d2 : gdr (gst q.1) % 4 = 2
      · have e : gye (gN S) q = (gst (gst q.1), ysL (gN S) q.2 (gdr (gst (gst q.1)) % 64 % 2 ^ yI (gN S))) := by
          unfold gye
          rw [if_neg d0, if_neg d1, if_pos d2]
        rw [e, d2, if_pos (by decide), w2, zgr_eq, show (64 : Int32) = zJ 64 from rfl, draw_c (Or.inr (Or.inr rfl)), Option.bind_some, c1, gand]
        refine zw_bi (loadRow_c (s := q.2) ho.1 w4 h1) ?_
        rintro ⟨x, g2⟩ ⟨rfl, p1, p2⟩
        exact zw_some ⟨rfl, p1.sub rfl, p2⟩
      · have e : gye (gN S) q = (gst q.1, ysA (gN S) q.2) := by
          unfold gye
          rw [if_neg d0, if_neg d1, if_neg d2]
        rw [e, if_neg (by rw [zJ_eql (by omega) (by decide)]; exact d2)]
        refine zw_bi (applyInputs_c (s := q.2) ho.1 hs i2 h1) ?_
        rintro ⟨x, g2⟩ ⟨rfl, p1, p2⟩
        exact zw_some ⟨rfl, p1.sub rfl, p2⟩
theorem happen_r {h : zH} {N : yN} {q : Int32 × yS} (hn : yOKn N) (hr : yRN h N) (hl : yLD h (yE N) (ySb N)) (hs : yOKs N q.2) (hq : h.1 333 53 = q.1) (h1 : yRSt (h.1 347) 0 q.2) : zw (f_Mod_happen h) fun g => zfm [(333, 333, 53, 53), (347, 347, 0, 9999), (350, 351, 0, 9999)] h g ∧ g.1 333 53 = (gye N q).1 ∧ yRSt (g.1 347) 0 (gye N q).2 := by
  obtain ⟨⟨e1, e2, e3, e4⟩, -, n3, -⟩ := id hn
  unfold f_Mod_happen
  rw [show (4 : Int32) = zJ 4 from rfl, draw_r (Or.inl rfl), Option.bind_some, hq]
  dsimp only
  have q0 : zfm [(333, 333, 53, 53)] h (zsI h 333 53 (gst q.1)) := zfm.rfl'.I (by rfl)
  have z0 : (zsI h 333 53 (gst q.1)).1 333 53 = gst q.1 := zI_eq
  have n0 : yRN (zsI h 333 53 (gst q.1)) N := hr.fr q0 (fun a k h1 h2 => zin_n1 (by omega))
  have l0 : yLD (zsI h 333 53 (gst q.1)) (yE N) (ySb N) := hl.fr q0 (fun a k h1 h2 => zin_n1 (by omega))
  have t0 : yRSt ((zsI h 333 53 (gst q.1)).1 347) 0 q.2 := by
    rw [q0.ir (o := 347) (fun _ => rfl)]
    exact h1
  generalize zsI h 333 53 (gst q.1) = g0 at *
  have next : ∀ n, (n = 4 ∨ n = 8 ∨ n = 64) → ∃ g, f_Mod_draw g0 (zJ n) = some (zJ (gdr (gst (gst q.1)) % n), g) ∧ zfm [(333, 333, 53, 53)] h g ∧ g.1 333 53 = gst (gst q.1) ∧ yRN g N ∧ yRSt (g.1 347) 0 q.2 := by
    intro n hn
    rw [draw_r hn, z0]
    have q1 : zfm [(333, 333, 53, 53)] g0 (zsI g0 333 53 (gst (gst q.1))) := zfm.rfl'.I (by rfl)
    refine ⟨_, rfl, q0.trans q1, zI_eq, n0.fr q1 (fun a k h1 h2 => zin_n1 (by omega)), ?_⟩
    rw [q1.ir (o := 347) (fun _ => rfl)]
    exact t0
  by_cases d0 : gdr (gst q.1) % 4 = 0
  · have e : gye N q = (gst (gst q.1), if yNc N = 0 then q.2 else gsM N (gdr (gst (gst q.1)) % 8) q.2) := by
      unfold gye
      rw [if_pos d0]
    obtain ⟨g1, b1, b2, b3, b4, b5⟩ := next 8 (Or.inr (Or.inl rfl))
    rw [e, d0, if_neg (by decide), show (8 : Int32) = zJ 8 from rfl, b1, Option.bind_some]
    dsimp only
    rw [b4.2.2.1]
    by_cases h0 : yNc N = 0
    · rw [h0, if_pos (by decide)]
      refine zw_some ⟨b2.sub rfl, b3, ?_⟩
      rw [if_pos rfl]
      exact b5
    · rw [if_neg (by rw [zJ_lel (by omega) (by decide)]; show ¬ _ ≤ 0; omega)]
      refine zw_bi (shiftNow_r (s := q.2) (v := gdr (gst (gst q.1)) % 8) hn hs b4 (by omega) b5) ?_
      rintro ⟨x, g2⟩ ⟨-, p1, p2⟩
      refine zw_some ⟨(b2.sub rfl).tr p1 rfl, (p1.i rfl).trans b3, ?_⟩
      rw [if_neg h0]
      exact p2
  · rw [if_pos (by rw [zJ_eql (by omega) (by decide)]; exact d0)]
    by_cases d1 : gdr (gst q.1) % 4 = 1
    · have e : gye N q = (gst q.1, ysT N q.2) := by
        unfold gye
        rw [if_neg d0, if_pos d1]
      rw [e, d1, if_neg (by decide)]
      refine zw_bi (takeNow_r (s := q.2) hn hs n0 t0) ?_
      rintro g2 ⟨p1, p2⟩
      exact zw_some ⟨(q0.sub rfl).tr p1 rfl, (p1.i rfl).trans z0, p2⟩
    · rw [if_pos (by rw [zJ_eql (by omega) (by decide)]; exact d1)]
      by_cases d2 : gdr (gst q.1) % 4 = 2
      · have e : gye N q = (gst (gst q.1), ysL N q.2 (gdr (gst (gst q.1)) % 64 % 2 ^ yI N)) := by
          unfold gye
          rw [if_neg d0, if_neg d1, if_pos d2]
        obtain ⟨g1, b1, b2, b3, b4, b5⟩ := next 64 (Or.inr (Or.inr rfl))
        rw [e, d2, if_neg (by decide), show (64 : Int32) = zJ 64 from rfl, b1, Option.bind_some]
        dsimp only
        rw [rows_n hn b4, Option.bind_some, gand, Option.bind_some]
        have qa : zfm [(347, 347, 0, 9999)] g1 (zsI g1 347 0 (zJ (gdr (gst (gst q.1)) % 64 % 2 ^ yI N))) := zfm.rfl'.I (by rfl)
        refine zw_bi (longest_r hn (b4.fr qa (fun a k h1 h2 => zin_n1 (by omega)))) ?_
        rintro x rfl
        rw [Option.bind_some]
        have e1 : (zsI g1 347 0 (zJ (gdr (gst (gst q.1)) % 64 % 2 ^ yI N))).1 347 1 = g1.1 347 1 := zI_nk (by omega)
        have qb := qa.I (o := 347) (k := 1) (v := (zsI g1 347 0 (zJ (gdr (gst (gst q.1)) % 64 % 2 ^ yI N))).1 347 1 + zJ (ylg N (yNc N))) (by rfl)
        rw [e1] at qb ⊢
        exact zw_some ⟨(b2.sub rfl).tr qb rfl, (qb.i rfl).trans b3, loadRow_r (s := q.2) hn b4 b5⟩
      · have e : gye N q = (gst q.1, ysA N q.2) := by
          unfold gye
          rw [if_neg d0, if_neg d1, if_neg d2]
        rw [e, if_pos (by rw [zJ_eql (by omega) (by decide)]; exact d2)]
        refine zw_bi (applyNow_r (s := q.2) hn hs n0 l0 t0) ?_
        rintro ⟨x, g2⟩ ⟨-, p1, p2⟩
        exact zw_some ⟨(q0.sub rfl).tr p1 rfl, (p1.i rfl).trans z0, p2⟩
def gyv (N : yN) (s : yS) (x : Int32) (n k : Nat) : Int32 :=
  if k = 0 then zJ (fb_ct (gyn N (x, (s.1, 0, s.2.2)) n).2.2.2.2.2.2.2 (2 * yLs N)) else if k = 1 then (gyn N (x, (s.1, 0, s.2.2)) n).2.2.1 else zJ (gyn N (x, (s.1, 0, s.2.2)) n).2.1
theorem years_c {h : zH} {S : yG} {x : Int32} {n k : Nat} (ho : yOK S) (hc : yIc h S) (hn : n ≤ 60) (hk : k ≤ 2) : zw (f_Main_years h x (zJ n) (zJ k)) fun y => ∃ g, y = .inl (gyv (gN S) (gT S).1 x n k, g) ∧ zfm yLc h g ∧ yIc g S := by
  obtain ⟨⟨e1, e2, e3, e4⟩, -⟩ := id ho.1
  have e1' : yI (gN S) ≤ 6 := e1
  have e3' : yLs (gN S) ≤ yI (gN S) + 16 := e3
  have ok := ho.2.1.1
  have okp : (gT S).1.2.2.2.2.1 ≤ 8 := ok.2.2.2.1
  unfold f_Main_years
  rw [if_neg (by rw [zJ_ltl (by omega) (by decide)]; show ¬ _ < 0; omega), if_pos (by rw [zJ_lel (by omega) (by decide)]; exact hk), if_neg (by rw [zJ_ltl (by omega) (by decide)]; show ¬ _ < 0; omega), if_pos (by rw [zJ_lel (by omega) (by decide)]; exact hn)]
  refine zw_bi (copy_c (o := 331) (o1 := 156) (s := (gT S).1) hc.2.2.1.1 (by omega) okp) ?_
  rintro g ⟨q, s1, s2, s3, s4, s5, s6, s7⟩
  rw [Option.bind_some]
  have q0 : zfm [(331, 332, 0, 9999)] h (zsI g 331 1 0) := zfm.I q (by rfl)
  have t0 : yCSt (zsI g 331 1 0) 331 ((gT S).1.1, 0, (gT S).1.2.2) := by
    refine ⟨?_, zI_eq, ?_, ?_, ?_, fun j hj => ?_, fun f hf => s7 f hf⟩
    · rw [zI_nk (by omega)]; exact s1
    · rw [zI_nk (by omega)]; exact s3
    · rw [zI_nk (by omega)]; exact s4
    · rw [zI_nk (by omega)]; exact s5
    · rw [zI_ne (by omega)]; exact s6 j hj
  have okq : yOKs (gN S) ((gT S).1.1, (0 : Int32), (gT S).1.2.2) := ok
  generalize zsI g 331 1 0 = g0 at *
  have gok : ∀ j, yOKs (gN S) (gyn (gN S) (x, ((gT S).1.1, 0, (gT S).1.2.2)) j).2 := fun j => gyn_ok ho.1 okq j
  refine zw_bi (P := fun g => zfm [(331, 332, 0, 9999)] h g ∧ yCSt g 331 (gyn (gN S) (x, ((gT S).1.1, 0, (gT S).1.2.2)) n).2) (zw_for n (fun j t => t.1 = (gyn (gN S) (x, ((gT S).1.1, 0, (gT S).1.2.2)) j).1 ∧ t.2.1 = zJ j ∧ zfm [(331, 332, 0, 9999)] h t.2.2 ∧ yCSt t.2.2 331 (gyn (gN S) (x, ((gT S).1.1, 0, (gT S).1.2.2)) j).2) (by omega) ⟨rfl, rfl, q0, t0⟩ ?_) ?_
  · rintro j ⟨a, i, g⟩ hj ⟨rfl, rfl, hz, hv⟩
    dsimp only at hz hv ⊢
    unfold f_Main_years_b63
    by_cases hjm : j < n
    · rw [if_neg (by rw [zJ_le (by omega) (by omega)]; omega)]
      refine zw_bi (liveYear_c ho (hc.fr ho hz rfl) (gok j) hv) ?_
      rintro ⟨y, g2⟩ ⟨p0, p1, p2⟩
      dsimp only at p0 p1 p2 ⊢
      rw [zJ_al]
      refine zw_some ⟨hjm, ?_, rfl, hz.trans p1, ?_⟩
      · rw [gyn_s]; exact p0
      · rw [gyn_s]; exact p2
    · have : j = n := by omega
      subst this
      rw [if_pos (by rw [zJ_le (by omega) (by omega)]; omega)]
      exact zw_some ⟨hz, hv⟩
  · rintro g ⟨hz, a1, a2, a3, a4, a5, a6, a7⟩
    have fin : ∀ w, w = gyv (gN S) (gT S).1 x n k → zw (some (.inl (w, g)) : Option ((Int32 × zH) ⊕ (Nat × zH))) fun y => ∃ g, y = .inl (gyv (gN S) (gT S).1 x n k, g) ∧ zfm yLc h g ∧ yIc g S := by
      rintro w rfl
      exact zw_some ⟨g, rfl, hz.sub rfl, hc.fr ho hz rfl⟩
    rcases (by omega : k = 0 ∨ k = 1 ∨ k = 2) with rfl | rfl | rfl
    · rw [if_pos (by decide), bitCount_L, Option.bind_some]
      refine fin _ ?_
      unfold gyv
      rw [if_pos rfl, fb_ext (n := 2 * yLs (gN S)) (by omega) (fun f f1 f2 => ?_)]
      · congr 1
        exact fb_ct_cong (fun f hf => a7 f (by omega))
      · rw [a7 f f2]
        cases hz : (gyn (gN S) (x, ((gT S).1.1, 0, (gT S).1.2.2)) n).2.2.2.2.2.2.2 f
        · rfl
        · exact absurd ((gok n).2.2.2.2.2 f hz) (by omega)
    · rw [if_neg (by decide), if_pos (by decide), a2]
      exact fin _ rfl
    · rw [if_neg (by decide), if_neg (by decide), a1]
      exact fin _ rfl
theorem gstay {P P' : Nat → Int32} {s : yS} (hp : s.2.2.2.2.1 ≤ 8) (hk : ∀ k, k < 57 → P' k = P k) (hs : yRSt P 0 s) : yRSt P' 0 s := by
  obtain ⟨a1, a2, a3, a4, a5, a6, a7⟩ := hs
  simp only [Nat.zero_add] at a1 a2 a3 a4 a5 a6 a7
  unfold yRSt
  simp only [Nat.zero_add]
  refine ⟨(hk _ (by omega)).trans a1, (hk _ (by omega)).trans a2, (hk _ (by omega)).trans a3, (hk _ (by omega)).trans a4, (hk _ (by omega)).trans a5, fun k hkk => (hk _ (by omega)).trans (a6 k hkk), fun f hf => (hk _ (by omega)).trans (a7 f hf)⟩
theorem years_r {h : zH} {S : yG} {x : Int32} {n k : Nat} (ho : yOK S) (hr : yIr h S) (hn : n ≤ 60) (hk : k ≤ 2) : zw (f_Mod_years h x (zJ n) (zJ k)) fun y => yRA (.inl (gyv (gN S) (gT S).1 x n k)) y ∧ zfm yLr h y.2 ∧ yIr y.2 S := by
  obtain ⟨⟨e1, e2, e3, e4⟩, -⟩ := id ho.1
  have e1' : yI (gN S) ≤ 6 := e1
  have e3' : yLs (gN S) ≤ yI (gN S) + 16 := e3
  have ok := ho.2.1.1
  have okp : (gT S).1.2.2.2.2.1 ≤ 8 := ok.2.2.2.1
  obtain ⟨hr1, qc, z1⟩ := code_r hr
  unfold f_Mod_years
  rw [Option.bind_some]
  generalize zsI h 333 2 0 = g0 at *
  have in1 : f_Mod_isIn (zJ k) 0 2 = some (zbI (decide (k ≤ 2))) := isIn_lit (b := 2) (by omega) (by omega)
  have in2 : f_Mod_isIn (zJ n) 0 60 = some (zbI (decide (n ≤ 60))) := isIn_lit (b := 60) (by omega) (by omega)
  rw [in1, Option.bind_some, decide_eq_true hk, if_pos (by decide), in2, Option.bind_some, decide_eq_true hn, if_pos (by decide)]
  refine zw_bi (gcp_99_73 g0) ?_
  rintro g1 ⟨p1, p2⟩
  rw [Option.bind_some]
  have q5 : zfm [(333, 333, 53, 53), (373, 373, 0, 9999)] g0 (zsI g1 333 53 x) := (p1.sub rfl).I (by rfl)
  have b5 : (zsI g1 333 53 x).1 333 53 = x := zI_eq
  have c5 : ∀ i, i < 57 → (zsI g1 333 53 x).1 373 i = g0.1 347 i := fun i hi => by rw [zI_ne (by omega)]; exact p2 i hi
  generalize zsI g1 333 53 x = g5 at *
  have s5 : yRSt (g5.1 347) 0 (gT S).1 := by
    rw [q5.ir (o := 347) (fun _ => rfl)]
    exact hr1.2.2.1.1
  have hsame : (x, (gT S).1) = (x, gof (gT S).1.2.1 ((gT S).1.1, 0, (gT S).1.2.2)) := by
    unfold gof
    dsimp only
    rw [Int32.zero_add]
  have gok : ∀ j, yOKs (gN S) (gyn (gN S) (x, (gT S).1) j).2 := fun j => gyn_ok ho.1 ok j
  refine zw_bi (P := fun g => zfm [(333, 333, 53, 53), (347, 347, 0, 9999), (350, 351, 0, 9999)] g5 g ∧ yRSt (g.1 347) 0 (gyn (gN S) (x, (gT S).1) n).2) (zw_for n (fun j t => t.1 = zJ j ∧ zfm [(333, 333, 53, 53), (347, 347, 0, 9999), (350, 351, 0, 9999)] g5 t.2 ∧ t.2.1 333 53 = (gyn (gN S) (x, (gT S).1) j).1 ∧ yRSt (t.2.1 347) 0 (gyn (gN S) (x, (gT S).1) j).2) (by omega) ⟨rfl, zfm.rfl', b5, s5⟩ ?_) ?_
  · rintro j ⟨i, g⟩ hj ⟨rfl, hz, hs, hv⟩
    dsimp only at hz hs hv ⊢
    unfold f_Mod_years_b55
    by_cases hjm : j < n
    · rw [if_neg (by rw [zJ_le (by omega) (by omega)]; omega)]
      have nn : ∀ {a k : Nat}, (336 ≤ a ∧ a ≤ 346) ∨ (353 ≤ a ∧ a ≤ 357) → zin [(333, 333, 53, 53), (347, 347, 0, 9999), (350, 351, 0, 9999)] a k = false := by
        intro a k ha
        cases hz : zin [(333, 333, 53, 53), (347, 347, 0, 9999), (350, 351, 0, 9999)] a k
        · rfl
        · unfold zin at hz
          simp at hz
          omega
      have n5 : ∀ {a k : Nat}, (336 ≤ a ∧ a ≤ 346) ∨ (353 ≤ a ∧ a ≤ 357) → zin [(333, 333, 53, 53), (373, 373, 0, 9999)] a k = false := by
        intro a k ha
        cases hz : zin [(333, 333, 53, 53), (373, 373, 0, 9999)] a k
        · rfl
        · unfold zin at hz
          simp at hz
          omega
      refine zw_bi (happen_r ho.1 ((hr1.1.fr q5 (fun a k h1 h2 => n5 (by omega))).fr hz (fun a k h1 h2 => nn (by omega))) ((hr1.2.1.fr q5 (fun a k h1 h2 => n5 (by omega))).fr hz (fun a k h1 h2 => nn (by omega))) (gok j) hs hv) ?_
      rintro g2 ⟨p0, p1, p2⟩
      rw [zJ_al]
      refine zw_some ⟨hjm, rfl, hz.trans p0, ?_, ?_⟩
      · rw [gyn_s]; exact p1
      · rw [gyn_s]; exact p2
    · have : j = n := by omega
      subst this
      rw [if_pos (by rw [zJ_le (by omega) (by omega)]; omega)]
      exact zw_some ⟨hz, hv⟩
  · rintro g ⟨hz, hst⟩
    have e373 : ∀ i, i < 57 → g.1 373 i = g0.1 347 i := fun i hi => (hz.i (by rfl)).trans (c5 i hi)
    have hall : zfm [(333, 333, 53, 53), (347, 347, 0, 9999), (350, 351, 0, 9999), (373, 373, 0, 9999)] g0 g := (q5.sub rfl).tr hz rfl
    have fin : ∀ w, w = gyv (gN S) (gT S).1 x n k → zw (f_Mod_years_j109 g w) fun y => yRA (.inl (gyv (gN S) (gT S).1 x n k)) y ∧ zfm yLr h y.2 ∧ yIr y.2 S := by
      rintro w rfl
      unfold f_Mod_years_j109
      refine zw_bi (gcp_73_99 g) ?_
      rintro g6 ⟨r1, r2⟩
      have hall6 := hall.tr r1 rfl
      have hh := hr1.mach hall6 rfl (fun a k ha => by
        cases hz : zin [(333, 333, 53, 53), (347, 347, 0, 9999), (350, 351, 0, 9999), (373, 373, 0, 9999)] a k
        · rfl
        · unfold zin at hz
          simp at hz
          omega) rfl rfl (gstay okp (fun k hk => (r2 k hk).trans (e373 k hk)) hr1.2.2.1.1)
      exact zw_some ⟨⟨(hall6.i (by rfl)).trans z1, fun w hw => by cases hw; rfl⟩, qc.tr hall6 rfl, hh⟩
    have hgo : gyn (gN S) (x, (gT S).1) n = ((gyn (gN S) (x, ((gT S).1.1, 0, (gT S).1.2.2)) n).1, gof (gT S).1.2.1 (gyn (gN S) (x, ((gT S).1.1, 0, (gT S).1.2.2)) n).2) := by
      rw [hsame, gyn_of]
    rw [hgo] at hst
    obtain ⟨a1, a2, a3, a4, a5, a6, a7⟩ := hst
    simp only [Nat.zero_add] at a1 a2 a3 a4 a5 a6 a7
    rcases (by omega : k = 0 ∨ k = 1 ∨ k = 2) with rfl | rfl | rfl
    · rw [if_neg (by decide)]
      have hrg : yRN g (gN S) := hr1.1.fr hall (fun a k h1 h2 => by
        cases hz : zin [(333, 333, 53, 53), (347, 347, 0, 9999), (350, 351, 0, 9999), (373, 373, 0, 9999)] a k
        · rfl
        · unfold zin at hz
          simp at hz
          omega)
      refine zw_bi (doneMany_r ho.1 hrg (fun f hf => a7 f hf)) ?_
      rintro y rfl
      exact fin _ rfl
    · rw [if_pos (by decide), if_neg (by decide), a2, e373 1 (by omega), show g0.1 347 1 = (gT S).1.2.1 from hr1.2.2.1.1.2.1]
      refine fin _ ?_
      show _ + _ - _ = _
      rw [Int32.add_sub_cancel]
      rfl
    · rw [if_pos (by decide), if_pos (by decide), a1]
      exact fin _ rfl
theorem q_years {h : zH} {x v w : Int32} (hi : yInv h) : zw (f_L_years h x v w) fun y => zw (f_Mod_years y.2 x v w) fun z => yEnd y z := by
  obtain ⟨S, ho, hc, hr⟩ := hi
  have bad : ∀ (m : Nat), (m = 1 ∨ m = 2) → f_Main_years h x v w = some (.inr (m, h)) → (∀ g, f_Mod_years g x v w = (f_Mod_fail (zsI g 333 2 0) (zJ m)).bind fun y => some (y.1, y.2)) → zw (f_L_years h x v w) fun y => zw (f_Mod_years y.2 x v w) fun z => yEnd y z := by
    intro m hm h1 h2
    unfold f_L_years
    refine yBad (m := m) (c := m) (f := fun g => f_Mod_years g x v w) ho hc hr (zw_of h1 ⟨h, rfl, zfm.rfl', hc⟩) (fun g => by rcases hm with rfl | rfl <;> rfl) (fun g hg => ?_) hm
    show zw (f_Mod_years g x v w) _
    rw [h2 g]
    refine zw_bi (yFail (c := m) hg) (fun x hx => zw_some hx)
  have b1 : f_Main_years h x v w = some (.inr (1, h)) → f_Mod_isIn w 0 2 = some 0 → zw (f_L_years h x v w) fun y => zw (f_Mod_years y.2 x v w) fun z => yEnd y z := by
    intro h1 h2
    refine bad 1 (Or.inl rfl) h1 (fun g => ?_)
    unfold f_Mod_years
    rw [Option.bind_some, h2, Option.bind_some, if_neg (by decide)]
    rfl
  rcases yneg w with hw | ⟨k, hk, rfl⟩
  · refine b1 ?_ (isIn_neg hw)
    unfold f_Main_years f_Main_years_j9
    rw [if_pos hw]
  · have in1 : f_Mod_isIn (zJ k) 0 2 = some (zbI (decide (k ≤ 2))) := isIn_lit (b := 2) (by omega) hk
    by_cases hk2 : k ≤ 2
    · have b2 : f_Main_years h x v (zJ k) = some (.inr (2, h)) → f_Mod_isIn v 0 60 = some 0 → zw (f_L_years h x v (zJ k)) fun y => zw (f_Mod_years y.2 x v (zJ k)) fun z => yEnd y z := by
        intro h1 h2
        refine bad 2 (Or.inr rfl) h1 (fun g => ?_)
        unfold f_Mod_years
        rw [Option.bind_some, in1, decide_eq_true hk2, Option.bind_some, if_pos (by decide), h2, Option.bind_some, if_neg (by decide)]
        rfl
      have c0 : ¬ zJ k < 0 := by rw [zJ_ltl (by omega) (by decide)]; show ¬ _ < 0; omega
      have c2 : zJ k ≤ 2 := by rw [zJ_lel (by omega) (by decide)]; exact hk2
      rcases yneg v with hv | ⟨n, hn, rfl⟩
      · refine b2 ?_ (isIn_neg hv)
        unfold f_Main_years f_Main_years_j27
        rw [if_neg c0, if_pos c2, if_pos hv]
      · have in2 : f_Mod_isIn (zJ n) 0 60 = some (zbI (decide (n ≤ 60))) := isIn_lit (b := 60) (by omega) hn
        by_cases hn60 : n ≤ 60
        · unfold f_L_years
          exact yGood (f := fun g => f_Mod_years g x (zJ n) (zJ k)) (v := gyv (gN S) (gT S).1 x n k) ho hr (years_c ho hc hn60 hk2) (fun g hg => years_r ho hg hn60 hk2)
        · refine b2 ?_ (by rw [in2, decide_eq_false hn60]; rfl)
          unfold f_Main_years f_Main_years_j27
          rw [if_neg c0, if_pos c2, if_neg (by rw [zJ_ltl (by omega) (by decide)]; show ¬ _ < 0; omega), if_neg (by rw [zJ_lel (by omega) (by decide)]; exact hn60)]
    · refine b1 ?_ (by rw [in1, decide_eq_false hk2]; rfl)
      unfold f_Main_years f_Main_years_j9
      rw [if_neg (by rw [zJ_ltl (by omega) (by decide)]; show ¬ _ < 0; omega), if_neg (by rw [zJ_lel (by omega) (by decide)]; exact hk2)]
