/-! ===== order: the least, both ways ===== -/
theorem arrLoop_c {h : zH} {A : Nat → Nat → Nat} {n m x T o : Nat} (h1 : 1 ≤ n) (hn : n ≤ 6) (hm : m ≤ 6) (hx : ∀ i, i < n → gdec x i < m) (hAl : ∀ a b, A a b ≤ 44) (hT1 : T < 720) (hT2 : gfa (gdec (gsq n x T)) (n - 1) = 0) (hT3 : ∀ j, j < T → gfa (gdec (gsq n x j)) (n - 1) ≠ 0) (hs : ∀ i, i < n → h.1 142 i = zJ (gdec x i)) (hk : ∀ i, i < n → h.1 141 i = zJ (gdec x i)) (hA : ∀ a b, a < m → b < m → h.1 (143 + (1 + 1 * a)) b = zJ (A a b)) : zw (zit zFU (fun s : Int32 × Int32 × zH => f_Program_arrange_b30 o s.2.2 (zJ n) s.1 s.2.1) (zJ (gco A (gdec x) n), 0, h)) fun y => y.1 = zJ (gls A n x T).1 ∧ zfm [(141, 142, 0, 9999)] h y.2 ∧ ∀ i, i < n → y.2.1 141 i = zJ (gdec (gls A n x T).2 i) := by
  refine zw_for T (fun t s => s.1 = zJ (gls A n x t).1 ∧ s.2.1 = zJ t ∧ zfm [(141, 142, 0, 9999)] h s.2.2 ∧ (∀ i, i < n → s.2.2.1 142 i = zJ (gdec (gsq n x t) i)) ∧ ∀ i, i < n → s.2.2.1 141 i = zJ (gdec (gls A n x t).2 i)) (by omega) ⟨rfl, rfl, zfm.rfl', hs, hk⟩ ?_
  rintro t ⟨a, b, g⟩ ht ⟨rfl, rfl, hz, hv, hw⟩
  dsimp only at hz hv hw ⊢
  unfold f_Program_arrange_b30
  rw [if_neg (by rw [zJ_lle (n := 720) (by omega) (by decide)]; show ¬ 720 ≤ t; omega)]
  refine zw_bi (stepTried_c h1 hn hv (fun i _ => gdec_lt)) ?_
  rintro ⟨y1, y2⟩ (⟨f0, f1⟩ | ⟨f0, f1, f2, f3⟩)
  · cases f1
    have : t = T := by
      by_cases h : t < T
      · exact absurd f0 (hT3 t h)
      · omega
    subst this
    dsimp only
    rw [if_pos rfl]
    exact zw_some ⟨rfl, hz, hw⟩
  · have htT : t < T := by
      by_cases h : t = T
      · subst h
        exact absurd hT2 f0
      · omega
    dsimp only at f1 f2 f3 ⊢
    subst f1
    rw [if_neg (by decide)]
    have hv' : ∀ i, i < n → y2.1 142 i = zJ (gdec (gsq n x (t + 1)) i) := fun i hi => by rw [f3 i hi, gsq, gdec_st hn hi]
    refine zw_bi (costOfTried_c (A := A) h1 hn hm hv' (gsq_in hn hx (t + 1) (fun j hj => hT3 j (by omega))) ?_) ?_
    · intro a b ha hb
      rw [f2.i (zin_n1 (by omega)), hz.i (zin_n1 (by omega))]
      exact hA a b ha hb
    · rintro v rfl
      have b1 := gls_le (x := x) hAl hn t
      have b2 := gco_le (s := gdec (gsq n x (t + 1))) hAl n hn
      by_cases hlt : gco A (gdec (gsq n x (t + 1))) n < (gls A n x t).1
      · have e : gls A n x (t + 1) = (gco A (gdec (gsq n x (t + 1))) n, gsq n x (t + 1)) := by rw [gls, if_pos hlt]
        rw [if_neg (by rw [zJ_le (by omega) (by omega)]; omega)]
        refine zw_bi (keepTried_c hn hv') ?_
        rintro g3 ⟨q3, w3⟩
        refine zw_some ⟨htT, by rw [e], by rw [zJ_al], (hz.tr f2 rfl).tr q3 rfl, fun i hi => (q3.i (zin_n1 (by omega))).trans (hv' i hi), fun i hi => ?_⟩
        rw [e]
        exact w3 i hi
      · have e : gls A n x (t + 1) = gls A n x t := by rw [gls, if_neg hlt]
        rw [if_pos (by rw [zJ_le (by omega) (by omega)]; omega)]
        refine zw_some ⟨htT, by rw [e], by rw [zJ_al], hz.tr f2 rfl, hv', fun i hi => ?_⟩
        rw [e]
        exact (f2.i (zin_n1 (by omega))).trans (hw i hi)
theorem arrange_c {h : zH} {N : yN} {P : Nat → Nat} {z T o c : Nat} (hn : yOKn N) (hw : yCN h o N) (ho : o + 35 ≤ 74) (hc : c < yNc N) (hz : z ≤ 44) (h3 : h.1 137 3 = zJ z) (hP : ∀ t, t < z → h.1 138 t = zJ (P t)) (hT1 : T < 720) (hT2 : gfa (gdec (gsq (yCn N c) (gx0 (gqc N c)) T)) (yCn N c - 1) = 0) (hT3 : ∀ j, j < T → gfa (gdec (gsq (yCn N c) (gx0 (gqc N c)) j)) (yCn N c - 1) ≠ 0) : zw (f_Program_arrange o h (zJ c)) fun y => y.1 = zJ (gls (gap P z) (yCn N c) (gx0 (gqc N c)) T).1 ∧ zfm [(141, 149, 0, 9999)] h y.2 ∧ ∀ i, i < yCn N c → y.2.1 141 i = zJ (gdec (gls (gap P z) (yCn N c) (gx0 (gqc N c)) T).2 i) := by
  obtain ⟨⟨e1, -⟩, -, n3, n4, n5, -⟩ := id hn
  have e1' : yI N ≤ 6 := e1
  obtain ⟨c1, c2, -⟩ := n4 c hc
  have w0 : h.1 o 0 = zJ (yI N) := hw.1.1
  have hx := fun i hi => gqc_x (i := i) hn hc hi
  unfold f_Program_arrange
  rw [w0]
  refine zw_bi (countApart_c e1' hz h3 hP) ?_
  rintro g1 ⟨q1, a1⟩
  refine zw_bi (listCells_c hn (hw.fr hn q1 (fun a k h1 h2 => zin_n1 (by omega))) ho hc) ?_
  rintro ⟨v, g2⟩ ⟨rfl, q2, a2⟩
  dsimp only at q2 a2 ⊢
  have a3 : ∀ a b, a < yI N → b < yI N → g2.1 (143 + (1 + 1 * a)) b = zJ (gap P z a b) := fun a b ha hb => (q2.i (zin_n1 (by omega))).trans (a1 a b ha hb)
  refine zw_bi (costOfTried_c c1 c2 e1' a2 hx a3) ?_
  rintro v rfl
  refine zw_bi (keepTried_c c2 a2) ?_
  rintro g3 ⟨q3, a4⟩
  refine zw_bi (arrLoop_c (A := gap P z) c1 c2 e1' hx (fun a b => Nat.le_trans gap_le hz) hT1 hT2 hT3 (fun i hi => (q3.i (zin_n1 (by omega))).trans (a2 i hi)) a4 (fun a b ha hb => (q3.i (zin_n1 (by omega))).trans (a3 a b ha hb))) ?_
  rintro ⟨v, g4⟩ ⟨rfl, q4, a5⟩
  exact zw_some ⟨rfl, (((q1.sub rfl).tr q2 rfl).tr q3 rfl).tr q4 rfl, a5⟩
def gIr (A : Nat → Nat → Nat) (n x T : Nat) (h : zH) (t : Nat) (s : Int32 × Int32 × zH) : Prop := zfm [(364, 365, 0, 9999)] h s.2.2 ∧ (t ≤ T → s.2.1 = 1 ∧ ∀ i, i < n → s.2.2.1 364 i = zJ (gdec (gsq n x t) i)) ∧ (T < t → s.2.1 = 0) ∧ (t = 0 → s.1 = -1) ∧ ∀ t', t = t' + 1 → s.1 = zJ (gls A n x t').1 ∧ ∀ i, i < n → s.2.2.1 365 i = zJ (gdec (gls A n x t').2 i)
theorem orderLoop_r {h : zH} {A : Nat → Nat → Nat} {n m x T : Nat} {v2 : Int32} (h1 : 1 ≤ n) (hn : n ≤ 6) (hm : m ≤ 6) (hx : ∀ i, i < n → gdec x i < m) (hAl : ∀ a b, A a b ≤ 44) (hT1 : T < 720) (hT2 : gfa (gdec (gsq n x T)) (n - 1) = 0) (hT3 : ∀ j, j < T → gfa (gdec (gsq n x j)) (n - 1) ≠ 0) (hs : ∀ i, i < n → h.1 364 i = zJ (gdec x i)) (hA : ∀ a b, a < 6 → b < 6 → h.1 363 (6 * a + b) = zJ (A a b)) : zw (zit zFU (fun s : Int32 × Int32 × zH => f_Mod_order_b104 s.2.2 v2 (zJ n) s.1 s.2.1) (-1, 1, h)) fun y => y.1 = zJ (gls A n x T).1 ∧ zfm [(364, 365, 0, 9999)] h y.2 ∧ ∀ i, i < n → y.2.1 365 i = zJ (gdec (gls A n x T).2 i) := by
  refine zw_for (T + 1) (gIr A n x T h) (by omega) ⟨zfm.rfl', fun _ => ⟨rfl, hs⟩, fun h => absurd h (Nat.not_lt_zero T), fun _ => rfl, fun t' h => by omega⟩ ?_
  rintro t ⟨a, b, g⟩ ht ⟨hz, h1', h2', h3', h4'⟩
  dsimp only at hz h1' h2' h3' h4' ⊢
  unfold f_Mod_order_b104
  by_cases htT : t ≤ T
  · obtain ⟨rfl, hv⟩ := h1' htT
    rw [if_neg (by decide)]
    refine zw_bi (orderCost_r (A := A) h1 hn hm hv (gsq_in hn hx t (fun j hj => hT3 j (by omega))) (fun a b ha hb => (hz.i (zin_n1 (by omega))).trans (hA a b ha hb))) ?_
    rintro v rfl
    have b2 := gco_le (s := gdec (gsq n x t)) hAl n hn
    have tail : ∀ g', zfm [(364, 365, 0, 9999)] h g' → (∀ i, i < n → g'.1 364 i = zJ (gdec (gsq n x t) i)) → (∀ i, i < n → g'.1 365 i = zJ (gdec (gls A n x t).2 i)) → zw (f_Mod_order_j162 g' v2 (zJ n) (zJ (gls A n x t).1)) (Sum.elim (fun s' => t < T + 1 ∧ gIr A n x T h (t + 1) s') fun y => y.1 = zJ (gls A n x T).1 ∧ zfm [(364, 365, 0, 9999)] h y.2 ∧ ∀ i, i < n → y.2.1 365 i = zJ (gdec (gls A n x T).2 i)) := by
      intro g' z1 v1 v3
      unfold f_Mod_order_j162
      refine zw_bi (goOn_r h1 hn v1 (fun i _ => gdec_lt)) ?_
      rintro ⟨y1, y2⟩ (⟨f0, f1⟩ | ⟨f0, f1, f2, f3⟩)
      · cases f1
        have : t = T := by
          by_cases h : t < T
          · exact absurd f0 (hT3 t h)
          · omega
        subst this
        refine zw_some ⟨by omega, z1, fun h => by omega, fun _ => rfl, fun h => by omega, fun t' h => ?_⟩
        have : t' = t := by omega
        subst this
        exact ⟨rfl, v3⟩
      · have htT' : t < T := by
          by_cases h : t = T
          · subst h
            exact absurd hT2 f0
          · omega
        dsimp only at f1 f2 f3 ⊢
        subst f1
        refine zw_some ⟨by omega, z1.tr f2 rfl, fun _ => ⟨rfl, fun i hi => ?_⟩, fun h => by omega, fun h => by omega, fun t' h => ?_⟩
        · dsimp only
          rw [f3 i hi, gsq, gdec_st hn hi]
        · have : t' = t := by omega
          subst this
          exact ⟨rfl, fun i hi => (f2.i (zin_n1 (by omega))).trans (v3 i hi)⟩
    have keep : gls A n x t = (gco A (gdec (gsq n x t)) n, gsq n x t) → zw (f_Mod_order_j129 g v2 (zJ n) (zJ (gco A (gdec (gsq n x t)) n))) (Sum.elim (fun s' => t < T + 1 ∧ gIr A n x T h (t + 1) s') fun y => y.1 = zJ (gls A n x T).1 ∧ zfm [(364, 365, 0, 9999)] h y.2 ∧ ∀ i, i < n → y.2.1 365 i = zJ (gdec (gls A n x T).2 i)) := by
      intro e
      unfold f_Mod_order_j129
      refine zw_bi (keepOrder_r hn hv) ?_
      rintro g3 ⟨q3, w3⟩
      have := tail g3 (hz.tr q3 rfl) (fun i hi => (q3.i (zin_n1 (by omega))).trans (hv i hi)) (fun i hi => by rw [e]; exact w3 i hi)
      rw [e] at this
      exact this
    cases t with
    | zero =>
      rw [h3' rfl, if_pos rfl]
      exact keep rfl
    | succ t' =>
      obtain ⟨rfl, hw⟩ := h4' t' rfl
      have b1 := gls_le (x := x) hAl hn t'
      rw [if_neg (fun h => (zJ_m1 (by omega)).mp h)]
      by_cases hlt : gco A (gdec (gsq n x (t' + 1))) n < (gls A n x t').1
      · rw [if_neg (by rw [zJ_le (by omega) (by omega)]; omega)]
        exact keep (by rw [gls, if_pos hlt])
      · have e : gls A n x (t' + 1) = gls A n x t' := by rw [gls, if_neg hlt]
        rw [if_pos (by rw [zJ_le (by omega) (by omega)]; omega)]
        have := tail g hz hv (fun i hi => by rw [e]; exact hw i hi)
        rw [e] at this
        exact this
  · have : t = T + 1 := by omega
    subst this
    rw [h2' (by omega), if_pos rfl]
    obtain ⟨rfl, hw⟩ := h4' T rfl
    exact zw_some ⟨rfl, hz, hw⟩
abbrev gPt (S : yG) : Nat → Nat := ypt (gN S) (gT S).1.2.2.2.2.2.2 (gT S).1.2.2.2.1
def gor (S : yG) (c T k : Nat) : Int32 := if k = 0 then zJ (gls (gap (gPt S) (gpz S)) (yCn (gN S) c) (gx0 (gqc (gN S) c)) T).1 else zJ (gdec (gls (gap (gPt S) (gpz S)) (yCn (gN S) c) (gx0 (gqc (gN S) c)) T).2 (k - 1))
theorem order_c {h : zH} {S : yG} {c k T : Nat} (ho : yOK S) (hi : yIc h S) (hc : c < yNc (gN S)) (hk : k ≤ yCn (gN S) c) (hT1 : T < 720) (hT2 : gfa (gdec (gsq (yCn (gN S) c) (gx0 (gqc (gN S) c)) T)) (yCn (gN S) c - 1) = 0) (hT3 : ∀ j, j < T → gfa (gdec (gsq (yCn (gN S) c) (gx0 (gqc (gN S) c)) j)) (yCn (gN S) c - 1) ≠ 0) : zw (f_Main_order h (zJ c) (zfj k)) fun x => ∃ g, x = .inl (gor S c T k, g) ∧ zfm yLc h g ∧ yIc g S := by
  have hz := gpz_le ho
  obtain ⟨-, -, n3, n4, -⟩ := id ho.1
  obtain ⟨c1, c2, -⟩ := n4 c hc
  unfold f_Main_order
  rw [needCell_in ho hi (by omega) (by omega), if_pos ⟨hc, hk⟩, Option.bind_some]
  dsimp only [Sum.elim]
  refine zw_bi (planNow_c ho hi) ?_
  rintro g ⟨q1, q2, q3⟩
  obtain ⟨p1, p2, p3, p4, p5⟩ := q3
  obtain ⟨⟨W, D, w1, w2, w3, w4⟩, -⟩ := id q2
  rw [w2, zgr_eq]
  refine zw_bi (arrange_c (P := gPt S) (z := gpz S) (T := T) ho.1 w4 (by omega) hc hz p4 (fun t ht => (p5 t ht).1) hT1 hT2 hT3) ?_
  rintro ⟨v, g2⟩ ⟨rfl, q4, a4⟩
  dsimp only at q4 a4 ⊢
  have hg2 : yIc g2 S := q2.fr ho q4 rfl
  cases k with
  | zero =>
    rw [zfj_0, if_neg (fun h => h rfl)]
    exact zw_some ⟨g2, rfl, (q1.sub rfl).tr q4 rfl, hg2⟩
  | succ k =>
    rw [zfj_s, if_pos (fun h => (zJ_m1 (by omega)).mp h), zb_t (by omega) (by omega), zg_tr, zJ_c (by omega), a4 k (by omega)]
    refine zw_some ⟨g2, ?_, (q1.sub rfl).tr q4 rfl, hg2⟩
    unfold gor
    rw [if_neg (by omega), Nat.add_sub_cancel]
theorem order_r {g0 : zH} {S : yG} {c k T : Nat} (ho : yOK S) (hi0 : yIr g0 S) (hc : c < yNc (gN S)) (hk : k ≤ yCn (gN S) c) (hT1 : T < 720) (hT2 : gfa (gdec (gsq (yCn (gN S) c) (gx0 (gqc (gN S) c)) T)) (yCn (gN S) c - 1) = 0) (hT3 : ∀ j, j < T → gfa (gdec (gsq (yCn (gN S) c) (gx0 (gqc (gN S) c)) j)) (yCn (gN S) c - 1) ≠ 0) : zw (f_Mod_order g0 (zJ c) (zfj k)) fun y => yRA (.inl (gor S c T k)) y ∧ zfm yLr g0 y.2 ∧ yIr y.2 S := by
  have hz := gpz_le ho
  obtain ⟨⟨e1, -⟩, -, n3, n4, -⟩ := id ho.1
  have e1' : yI (gN S) ≤ 6 := e1
  obtain ⟨c1, c2, -⟩ := n4 c hc
  obtain ⟨hi, qc, z1⟩ := code_r hi0
  obtain ⟨hn, ht, -⟩ := id ho
  obtain ⟨o1, o2, o3, o4, o5, o6⟩ := ht.1
  unfold f_Mod_order
  rw [Option.bind_some]
  generalize zsI g0 333 2 0 = h at *
  have a7 := (hi.1.2.2.2.2.2.2.1 c hc).1
  rw [hi.1.2.2.1, isIn_J (by omega) (by omega), Option.bind_some, decide_eq_true hc, if_neg (by decide), zb_t (by omega) (by omega), zg_tr, zJ_c (by omega), a7, isIn_cell (by omega) (by omega), Option.bind_some, decide_eq_true hk, if_pos (by decide)]
  refine zw_bi (listCells_r hn hi.1 hc) ?_
  rintro ⟨v, g1⟩ ⟨rfl, q1, a1⟩
  dsimp only at q1 a1 ⊢
  have hi1 : yIr g1 S := hi.fr q1 rfl
  obtain ⟨i1, i2, i3, -⟩ := id hi1
  obtain ⟨⟨s1, s2, s3, s4, s5, s6, s7⟩, -⟩ := id i3
  simp only [Nat.zero_add] at s4 s7
  refine zw_bi (tellProgram_r hn i1 i2 s7 s4 o3) ?_
  rintro g2 ⟨q2, p2, p3⟩
  refine zw_bi (tellApart_r (P := gPt S) (z := gpz S) hz p2 (fun t ht => ⟨(p3 t ht).1, ypt_lt hn⟩)) ?_
  rintro g3 ⟨q3, a3⟩
  have a4 : ∀ i, i < yCn (gN S) c → g3.1 364 i = zJ (gdec (gx0 (gqc (gN S) c)) i) := fun i hi => (q3.i (zin_n1 (by omega))).trans ((q2.i (zin_n2 (by omega) (by omega))).trans (a1 i hi))
  refine zw_bi (orderLoop_r (A := gap (gPt S) (gpz S)) (T := T) c1 c2 e1' (fun i hi => gqc_x hn hc hi) (fun a b => Nat.le_trans gap_le hz) hT1 hT2 hT3 a4 a3) ?_
  rintro ⟨v, g4⟩ ⟨rfl, q4, a5⟩
  dsimp only at q4 a5 ⊢
  have qq : zfm [(333, 333, 40, 40), (358, 365, 0, 9999)] h g4 := (((q1.sub rfl).tr q2 rfl).tr q3 rfl).tr q4 rfl
  have hg4 : yIr g4 S := hi.fr qq rfl
  have zz : g4.1 333 2 = 0 := (qq.i (by rfl)).trans z1
  cases k with
  | zero =>
    rw [zfj_0, if_neg (fun h => h rfl)]
    exact zw_some ⟨⟨zz, fun w hw => by cases hw; rfl⟩, qc.tr qq rfl, hg4⟩
  | succ k =>
    rw [zfj_s, if_pos (fun h => (zJ_m1 (by omega)).mp h), zb_t (by omega) (by omega), zg_tr, zJ_c (by omega), a5 k (by omega)]
    refine zw_some ⟨⟨zz, fun w hw => ?_⟩, qc.tr qq rfl, hg4⟩
    cases hw
    unfold gor
    rw [if_neg (by omega), Nat.add_sub_cancel]
theorem q_order {h : zH} {v w : Int32} (hi : yInv h) : zw (f_L_order h v w) fun x => zw (f_Mod_order x.2 v w) fun y => yEnd x y := by
  obtain ⟨S, ho, hc, hr⟩ := hi
  obtain ⟨-, -, n3, n4, -⟩ := id ho.1
  have bad : (∀ g, yIc g S → f_Main_order g v w = some (.inr (1, g))) → (∀ g, yIr (zsI g 333 2 0) S → f_Mod_order g v w = f_Mod_order_j37 (zsI g 333 2 0)) → zw (f_L_order h v w) fun x => zw (f_Mod_order x.2 v w) fun y => yEnd x y := by
    intro h1 h2
    unfold f_L_order
    refine yBad (f := fun g => f_Mod_order g v w) (c := 1) (m := 1) ho hc hr ⟨_, h1 h hc, h, rfl, zfm.rfl', hc⟩ ?_ (fun g hg => ?_) (Or.inl rfl)
    · intro g
      rfl
    · show zw (f_Mod_order g v w) _
      rw [h2 g (code_r hg).1]
      unfold f_Mod_order_j37
      exact zw_bi (yFail hg (c := 1)) (fun x hx => zw_some hx)
  rcases yneg v with hv | ⟨c, hcl, rfl⟩
  · refine bad (fun g hg => ?_) (fun g hg => ?_)
    · unfold f_Main_order
      rw [needCell_neg ho hg hv]
      rfl
    · unfold f_Mod_order
      rw [Option.bind_some, isIn_neg hv, Option.bind_some, if_pos rfl]
  · by_cases hcN : c < yNc (gN S)
    · obtain ⟨c1, c2, -⟩ := n4 c hcN
      rcases yneg2 w with hw | ⟨k, hk, rfl⟩
      · refine bad (fun g hg => ?_) (fun g hg => ?_)
        · unfold f_Main_order
          rw [needCell_neg2 ho hg hcl hw]
          rfl
        · have a7 := (hg.1.2.2.2.2.2.2.1 c hcN).1
          unfold f_Mod_order
          rw [Option.bind_some, hg.1.2.2.1, isIn_J (by omega) (by omega), Option.bind_some, decide_eq_true hcN, if_neg (by decide), zb_t (by omega) (by omega), zg_tr, isIn_cell2 hw, Option.bind_some, if_neg (by decide)]
      · by_cases hkn : k ≤ yCn (gN S) c
        · have hT := gend_T (n := yCn (gN S) c) 720 (gx0 (gqc (gN S) c)) (by
            have := gend_q (gqc (gN S) c)
            rw [(gqc_n ho.1 hcN).1] at this
            exact this)
          obtain ⟨T, t1, t2, t3⟩ := hT
          unfold f_L_order
          exact yGood (f := fun g => f_Mod_order g (zJ c) (zfj k)) ho hr (order_c ho hc hcN hkn t1 t2 t3) (fun g hg => order_r ho hg hcN hkn t1 t2 t3)
        · refine bad (fun g hg => ?_) (fun g hg => ?_)
          · unfold f_Main_order
            rw [needCell_in ho hg hcl hk, if_neg (fun h => hkn h.2)]
            rfl
          · have a7 := (hg.1.2.2.2.2.2.2.1 c hcN).1
            unfold f_Mod_order
            rw [Option.bind_some, hg.1.2.2.1, isIn_J (by omega) (by omega), Option.bind_some, decide_eq_true hcN, if_neg (by decide), zb_t (by omega) (by omega), zg_tr, zJ_c (by omega), a7, isIn_cell (by omega) hk, Option.bind_some, decide_eq_false hkn, if_neg (by decide)]
    · refine bad (fun g hg => ?_) (fun g hg => ?_)
      · unfold f_Main_order
        rcases yneg2 w with hw | ⟨k, hk, rfl⟩
        · rw [needCell_neg2 ho hg hcl hw]
          rfl
        · rw [needCell_in ho hg hcl hk, if_neg (fun h => hcN h.1)]
          rfl
      · unfold f_Mod_order
        rw [Option.bind_some, hg.1.2.2.1, isIn_J (by omega) hcl, Option.bind_some, decide_eq_false hcN, if_pos (by decide)]
