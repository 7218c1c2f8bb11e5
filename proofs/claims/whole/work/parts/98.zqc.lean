/-! ===== words and names ===== -/
theorem zw_eq {α : Type} {e : Option α} {a : α} (h : zw e fun x => x = a) : e = some a := by
  obtain ⟨x, hx, rfl⟩ := h
  exact hx
def gcv (c : Nat) : Nat := if c = 6 then 302 else if c = 13 then 498 else if c = 12 then 1476 else if c = 16 then 14834 else if c = 11 then 14836 else if c = 7 then 19621 else if c = 14 then 25074 else if c = 10 then 206220 else if c = 15 then 460228 else if c = 9 then 656741 else 3409198
theorem gcv_c {v : Nat} (h : gwc v ≠ 5) : gcv (gwc v) = v := by
  by_cases h1 : v = 302
  · subst h1
    rfl
  by_cases h2 : v = 498
  · subst h2
    rfl
  by_cases h3 : v = 1476
  · subst h3
    rfl
  by_cases h4 : v = 14834
  · subst h4
    rfl
  by_cases h5 : v = 14836
  · subst h5
    rfl
  by_cases h6 : v = 19621
  · subst h6
    rfl
  by_cases h7 : v = 25074
  · subst h7
    rfl
  by_cases h8 : v = 206220
  · subst h8
    rfl
  by_cases h9 : v = 460228
  · subst h9
    rfl
  by_cases h10 : v = 656741
  · subst h10
    rfl
  by_cases h11 : v = 3409198
  · subst h11
    rfl
  exact absurd (by unfold gwc; rw [if_neg h1, if_neg h2, if_neg h3, if_neg h4, if_neg h5, if_neg h6, if_neg h7, if_neg h8, if_neg h9, if_neg h10, if_neg h11]) h
theorem gwc_rng (v : Nat) : 5 ≤ gwc v ∧ gwc v ≤ 16 := by
  unfold gwc
  split
  · omega
  split
  · omega
  split
  · omega
  split
  · omega
  split
  · omega
  split
  · omega
  split
  · omega
  split
  · omega
  split
  · omega
  split
  · omega
  split <;> omega
theorem gwv_all : ∀ j, j < 11 → gcv (gwj j) = gwv j ∧ gwc (gwv j) = gwj j ∧ 6 ≤ gwj j ∧ gwj j ≤ 16 := by decide +kernel
theorem gcc_le {X : gX} {st : Nat} : gcc X st ≤ 16 := by
  unfold gcc
  split
  · split
    · split
      · exact (gwc_rng _).2
      · omega
    · split
      · omega
      · split
        · omega
        · split <;> omega
  · omega
theorem gcc_word {X : gX} {st : Nat} (h : 5 ≤ gcc X st) : st < X.1 ∧ glt X st = true := by
  unfold gcc at h
  by_cases h0 : st < X.1
  · rw [if_pos h0] at h
    by_cases h1 : glt X st = true
    · exact ⟨h0, h1⟩
    · rw [if_neg h1] at h
      by_cases h2 : gdt X st = true
      · rw [if_pos h2] at h
        omega
      · rw [if_neg h2] at h
        by_cases h3 : X.2 st = 59
        · rw [if_pos h3] at h
          omega
        · rw [if_neg h3] at h
          by_cases h4 : X.2 st = 61
          · rw [if_pos h4] at h
            omega
          · rw [if_neg h4] at h
            omega
  · rw [if_neg h0] at h
    omega
theorem gcc_word' {X : gX} {st : Nat} (h0 : st < X.1) (h1 : glt X st = true) : gcc X st = if gsz X st ≤ 6 then gwc (ypk (gnm X st) (gsz X st)) else 5 := by
  unfold gcc
  rw [if_pos h0, if_pos h1]
theorem grc_1 {X : gX} {st : Nat} : grc X st = 1 ↔ 5 ≤ gcc X st := by
  constructor
  · intro h
    unfold grc at h
    by_cases h0 : st < X.1
    · rw [if_pos h0] at h
      by_cases h1 : glt X st = true
      · rw [gcc_word' h0 h1]
        split
        · exact (gwc_rng _).1
        · omega
      · rw [if_neg h1] at h
        by_cases h2 : gdt X st = true
        · rw [if_pos h2] at h
          omega
        · rw [if_neg h2] at h
          split at h <;> omega
    · rw [if_neg h0] at h
      omega
  · intro h
    obtain ⟨h0, h1⟩ := gcc_word h
    unfold grc
    rw [if_pos h0, if_pos h1]
theorem grc_le {X : gX} {st : Nat} : grc X st ≤ 4 := by
  unfold grc
  split
  · split
    · omega
    · split
      · omega
      · split <;> omega
  · omega
theorem gis {X : gX} {st j : Nat} (hX : gOKx X) (hj : j < 11) : gcc X st = gwj j ↔ st < X.1 ∧ glt X st = true ∧ gsz X st = gwl j ∧ ∀ i, i < gwl j → X.2 (st + i) = gwb j i := by
  obtain ⟨v1, v2, v3, v4⟩ := gwv_all j hj
  obtain ⟨l1, l2, l3⟩ := gwl_all j hj
  have lb := gwb_all j hj
  constructor
  · intro h
    obtain ⟨h0, h1⟩ := gcc_word (X := X) (st := st) (by omega)
    rw [gcc_word' h0 h1] at h
    by_cases h6 : gsz X st ≤ 6
    · rw [if_pos h6] at h
      have e := gcv_c (v := ypk (gnm X st) (gsz X st)) (by omega)
      rw [h, v1] at e
      obtain ⟨o1, o2⟩ := gnm_ok hX h0 h1
      obtain ⟨i1, i2⟩ := ypk_inj (a := fun k => gwb j k - 96) (b := gnm X st) (m := gwl j) (n := gsz X st) (fun i hi => by have := (lb i hi).2; omega) (fun i hi => by have := o1 i hi; omega) e
      refine ⟨h0, h1, i1.symm, fun i hi => ?_⟩
      have a1 := i2 i hi
      have a2 := (lb i hi).2
      have a3 := o1 i (by omega)
      unfold gnm at a1
      omega
    · rw [if_neg h6] at h
      omega
  · rintro ⟨h0, h1, h2, h3⟩
    rw [gcc_word' h0 h1, if_pos (by omega), h2]
    have : ypk (gnm X st) (gwl j) = gwv j := ypk_cong (fun i hi => by
      unfold gnm
      rw [h3 i hi])
    rw [this, v2]
theorem is0 {o : Nat} {h : zH} : f_Mod_is_j36 o h 0 = some 0 := by
  refine zw_eq ?_
  unfold f_Mod_is_j36
  refine zw_bi (P := fun y => y = 0) (zw_for 0 (fun k s => s = (0, 0)) (by omega) rfl ?_) ?_
  · rintro k s hk rfl
    unfold f_Mod_is_b39
    rw [if_pos rfl]
    exact zw_some rfl
  · rintro y rfl
    exact zw_some rfl
theorem is_bad {o : Nat} {h : zH} (h24 : h.1 333 24 ≠ 0) : f_Mod_is o h = some 0 := by
  unfold f_Mod_is
  rw [if_pos h24, is0]
theorem is_r {h : zH} {X : gX} {st j : Nat} (hX : gOKx X) (hB : grB h X) (hst : st ≤ X.1) (hT : grT h X st) (h24 : h.1 333 24 = 0) (hj : j < 11) : f_Mod_is (1000010 + j) h = some (zbI (decide (gcc X st = gwj j))) := by
  obtain ⟨x1, x2⟩ := id hX
  obtain ⟨t1, t2, t3, t4, t5⟩ := hT
  obtain ⟨l1, l2, l3⟩ := gwl_all j hj
  have lb := gwb_all j hj
  have sp := gstop_spec hst
  have ez : zJ (gstop X st) - zJ st = zJ (gsz X st) := zJ_sub sp.1
  have hz : gsz X st ≤ 900 := by
    unfold gsz
    omega
  have no : ¬ gcc X st = gwj j → some (0 : Int32) = some (zbI (decide (gcc X st = gwj j))) := fun h => by rw [decide_eq_false h]; rfl
  unfold f_Mod_is
  rw [if_neg (fun h => h h24), t2, t3, t4, ez, l1]
  by_cases hw : grc X st = 1
  · obtain ⟨h0, h1⟩ := gcc_word (grc_1.mp hw)
    rw [if_neg (fun h => h (by rw [hw]; rfl)), Option.bind_some]
    by_cases hl : gwl j = gsz X st
    · rw [if_neg (fun h => h (by rw [hl]))]
      unfold f_Mod_is_j36
      refine zw_eq (zw_bi (P := fun y => y = zbI (decide (gcc X st = gwj j))) (zw_for (gwl j) (fun k s => s = (zbI (!zex (fun i => X.2 (st + i) != gwb j i) k), zJ k)) (by omega) rfl ?_) ?_)
      · rintro k s hk rfl
        dsimp only
        unfold f_Mod_is_b39
        have fin : ∀ b : Bool, b = decide (gcc X st = gwj j) → zw (some (.inr (zbI b)) : Option ((Int32 × Int32) ⊕ Int32)) (Sum.elim (fun s' => k < gwl j ∧ s' = (zbI (!zex (fun i => X.2 (st + i) != gwb j i) (k + 1)), zJ (k + 1))) fun y => y = zbI (decide (gcc X st = gwj j))) := fun b hb => zw_some (by rw [hb]; rfl)
        cases hx : zex (fun i => X.2 (st + i) != gwb j i) k
        · rw [Bool.not_false, if_neg (by decide), l1, Option.bind_some]
          by_cases hkl : k < gwl j
          · obtain ⟨b1, b2, b3⟩ := lb k hkl
            have hlt : st + k < X.1 := by
              have := (gnm_ok hX h0 h1).1 k (by omega)
              omega
            rw [if_neg (by rw [zJ_le (by omega) (by omega)]; omega), b1, Option.bind_some, t3, zJ_add, zb_t (by omega) (by omega), zg_tr, zJ_c (by omega), hB.2 _ hlt]
            have bl := x2 _ hlt
            have j75 : ∀ b : Bool, b = (!zex (fun i => X.2 (st + i) != gwb j i) (k + 1)) → ∀ t, t = zbI b → zw (f_Mod_is_j75 (1000010 + j) h (zJ k) t) (Sum.elim (fun s' => k < gwl j ∧ s' = (zbI (!zex (fun i => X.2 (st + i) != gwb j i) (k + 1)), zJ (k + 1))) fun y => y = zbI (decide (gcc X st = gwj j))) := by
              rintro b hb t rfl
              unfold f_Mod_is_j75
              rw [hb, zJ_al]
              exact zw_some ⟨hkl, rfl⟩
            by_cases he : X.2 (st + k) = gwb j k
            · rw [if_neg (fun h => h (by rw [he]))]
              exact j75 true (by rw [zex_s, hx, he]; simp) 1 rfl
            · rw [if_pos (fun h => he ((zJ_inj (by omega) (by omega)).mp h).symm)]
              exact j75 false (by rw [zex_s, hx]; simpa using he) 0 rfl
          · have : k = gwl j := by omega
            subst this
            rw [if_pos (by rw [zJ_le (by omega) (by omega)]; omega)]
            refine fin true ?_
            rw [decide_eq_true ((gis hX hj).mpr ⟨h0, h1, hl.symm, fun i hi => ?_⟩)]
            have := zex_no.mp hx i hi
            simpa using this
        · rw [Bool.not_true, if_pos zbI_f]
          refine fin false ?_
          rw [decide_eq_false]
          intro hc
          obtain ⟨-, -, -, i4⟩ := (gis hX hj).mp hc
          obtain ⟨i, i1, i2⟩ := zex_iff.mp hx
          rw [i4 i (by omega)] at i2
          simp at i2
      · rintro y rfl
        rw [zbI_bo]
        exact zw_some rfl
    · rw [if_pos (fun h => hl ((zJ_inj (by omega) (by omega)).mp h)), is0]
      exact no (fun h => hl ((gis hX hj).mp h).2.2.1.symm)
  · have wl := grc_le (X := X) (st := st)
    rw [if_pos (fun h : zJ (grc X st) = 1 => hw ((zJ_inj (b := 1) (by omega) (by omega)).mp h)), is0]
    refine no (fun h => ?_)
    have := (gwv_all j hj).2.2.1
    exact hw (grc_1.mpr (by omega))
theorem which60_r {h : zH} {X : gX} {st : Nat} (hX : gOKx X) (hB : grB h X) (hst : st ≤ X.1) (hT : grT h X st) (h24 : h.1 333 24 = 0) : f_Mod_which_60 h = some (if 11 ≤ gcc X st then zJ (gcc X st - 11) else -1) := by
  have cl := gcc_le (X := X) (st := st)
  refine zw_eq ?_
  unfold f_Mod_which_60
  refine zw_bi (P := fun y => (11 ≤ gcc X st ∧ y = .inl (zJ (gcc X st - 11))) ∨ (¬ 11 ≤ gcc X st ∧ y = .inr ())) (zw_for 6 (fun k s => s = zJ k ∧ ∀ j, j < k → gcc X st ≠ 11 + j) (by omega) ⟨rfl, fun j hj => absurd hj (Nat.not_lt_zero j)⟩ ?_) ?_
  · rintro k s hk ⟨rfl, hn⟩
    unfold f_Mod_which_60_b2
    by_cases hk6 : k < 6
    · rw [if_neg (by rw [zJ_lle (n := 6) (by omega) (by decide)]; show ¬ 6 ≤ k; omega), zb_t (by omega) (by omega), zg_tr, zJ_c (by omega), is_r hX hB hst hT h24 (show k < 11 by omega), Option.bind_some]
      have ej : gwj k = 11 + k := if_pos hk6
      rw [ej]
      by_cases hc : gcc X st = 11 + k
      · rw [decide_eq_true hc, if_neg (by decide)]
        exact zw_some (Or.inl ⟨by omega, by rw [hc, Nat.add_sub_cancel_left]⟩)
      · rw [decide_eq_false hc, if_pos zbI_f, zJ_al]
        refine zw_some ⟨hk6, rfl, fun j hj => ?_⟩
        by_cases e : j = k
        · subst e
          exact hc
        · exact hn j (by omega)
    · rw [if_pos (by rw [zJ_lle (n := 6) (by omega) (by decide)]; show 6 ≤ k; omega)]
      refine zw_some (Or.inr ⟨fun h => ?_, rfl⟩)
      exact hn (gcc X st - 11) (by omega) (by omega)
  · rintro y (⟨a, rfl⟩ | ⟨a, rfl⟩)
    · exact zw_some (by rw [if_pos a])
    · exact zw_some (by rw [if_neg a])
theorem which61_r {h : zH} {X : gX} {st : Nat} (hX : gOKx X) (hB : grB h X) (hst : st ≤ X.1) (hT : grT h X st) (h24 : h.1 333 24 = 0) : f_Mod_which_61 h = some (if 6 ≤ gcc X st ∧ gcc X st ≤ 10 then zJ (gcc X st - 6) else -1) := by
  have cl := gcc_le (X := X) (st := st)
  refine zw_eq ?_
  unfold f_Mod_which_61
  refine zw_bi (P := fun y => ((6 ≤ gcc X st ∧ gcc X st ≤ 10) ∧ y = .inl (zJ (gcc X st - 6))) ∨ (¬ (6 ≤ gcc X st ∧ gcc X st ≤ 10) ∧ y = .inr ())) (zw_for 5 (fun k s => s = zJ k ∧ ∀ j, j < k → gcc X st ≠ 6 + j) (by omega) ⟨rfl, fun j hj => absurd hj (Nat.not_lt_zero j)⟩ ?_) ?_
  · rintro k s hk ⟨rfl, hn⟩
    unfold f_Mod_which_61_b2
    by_cases hk6 : k < 5
    · rw [if_neg (by rw [zJ_lle (n := 5) (by omega) (by decide)]; show ¬ 5 ≤ k; omega), zb_t (by omega) (by omega), zg_tr, zJ_c (by omega)]
      have e1 := is_r hX hB hst hT h24 (show 6 + k < 11 by omega)
      rw [show 1000010 + (6 + k) = 1000016 + k by omega] at e1
      rw [e1, Option.bind_some]
      have ej : gwj (6 + k) = 6 + k := if_neg (by omega)
      rw [ej]
      by_cases hc : gcc X st = 6 + k
      · rw [decide_eq_true hc, if_neg (by decide)]
        exact zw_some (Or.inl ⟨by omega, by rw [hc, Nat.add_sub_cancel_left]⟩)
      · rw [decide_eq_false hc, if_pos zbI_f, zJ_al]
        refine zw_some ⟨hk6, rfl, fun j hj => ?_⟩
        by_cases e : j = k
        · subst e
          exact hc
        · exact hn j (by omega)
    · rw [if_pos (by rw [zJ_lle (n := 5) (by omega) (by decide)]; show 5 ≤ k; omega)]
      refine zw_some (Or.inr ⟨fun h => ?_, rfl⟩)
      exact hn (gcc X st - 6) (by omega) (by omega)
  · rintro y (⟨a, rfl⟩ | ⟨a, rfl⟩)
    · exact zw_some (by rw [if_pos a])
    · exact zw_some (by rw [if_neg a])
theorem which60_bad {h : zH} (h24 : h.1 333 24 ≠ 0) : f_Mod_which_60 h = some (-1) := by
  refine zw_eq ?_
  unfold f_Mod_which_60
  refine zw_bi (P := fun y => y = .inr ()) (zw_for 6 (fun k s => s = zJ k) (by omega) rfl ?_) ?_
  · rintro k s hk rfl
    unfold f_Mod_which_60_b2
    by_cases hk6 : k < 6
    · rw [if_neg (by rw [zJ_lle (n := 6) (by omega) (by decide)]; show ¬ 6 ≤ k; omega), zb_t (by omega) (by omega), zg_tr, is_bad h24, Option.bind_some, if_pos rfl, zJ_al]
      exact zw_some ⟨hk6, rfl⟩
    · rw [if_pos (by rw [zJ_lle (n := 6) (by omega) (by decide)]; show 6 ≤ k; omega)]
      exact zw_some rfl
  · rintro y rfl
    exact zw_some rfl
/-! what goes wrong first -/
def gbad (h : zH) (c st : Nat) : zH := zsI (zsI h 333 24 (zJ c)) 333 25 (zJ st)
theorem wrong_r {h : zH} {c st : Nat} (h24 : h.1 333 24 = 0) (h22 : h.1 333 22 = zJ st) : f_Mod_wrong h (zJ c) = some (gbad h c st) := by
  unfold f_Mod_wrong gbad
  rw [if_pos h24, Option.bind_some, Option.bind_some, zI_nk (by decide), h22]
theorem wrong_bad {h : zH} {v : Int32} (h24 : h.1 333 24 ≠ 0) : f_Mod_wrong h v = some h := by
  unfold f_Mod_wrong
  rw [if_neg h24]
theorem gbad_24 {h : zH} {c st : Nat} (hc : 1 ≤ c) (hc2 : c < 10) : (gbad h c st).1 333 24 ≠ 0 := by
  unfold gbad
  rw [zI_nk (by decide), zI_eq]
  intro e
  have := (zJ_inj (b := 0) (by omega) (by omega)).mp e
  omega
theorem wordHere_bad {h : zH} (h24 : h.1 333 24 ≠ 0) : f_Mod_wordHere h = some (0, h) := by
  unfold f_Mod_wordHere
  rw [if_neg h24]
theorem wordHere_r {h : zH} {X : gX} {st : Nat} (hX : gOKx X) (hB : grB h X) (hst : st ≤ X.1) (hT : grT h X st) (h24 : h.1 333 24 = 0) : f_Mod_wordHere h = some (if gcc X st = 5 then (if gsz X st ≤ 6 then (1, h) else (0, gbad h 2 st)) else (0, gbad h 1 st)) := by
  obtain ⟨x1, x2⟩ := id hX
  obtain ⟨t1, t2, t3, t4, t5⟩ := id hT
  have sp := gstop_spec hst
  have ez : zJ (gstop X st) - zJ st = zJ (gsz X st) := zJ_sub sp.1
  have hz : gsz X st ≤ 900 := by
    unfold gsz
    omega
  have wl := grc_le (X := X) (st := st)
  have cl := gcc_le (X := X) (st := st)
  have b1 := gbad_24 (h := h) (c := 1) (st := st) (by omega) (by omega)
  have b2 := gbad_24 (h := h) (c := 2) (st := st) (by omega) (by omega)
  have j41 : f_Mod_wordHere_j41 h = some (0, gbad h 1 st) := by
    unfold f_Mod_wordHere_j41 f_Mod_wordHere_j68
    rw [show (1 : Int32) = zJ 1 from rfl, wrong_r h24 t3, Option.bind_some, if_pos b1]
  unfold f_Mod_wordHere
  rw [if_pos h24, t2]
  by_cases hw : grc X st = 1
  · rw [if_neg (fun h => h (by rw [hw]; rfl)), which60_r hX hB hst hT h24, Option.bind_some]
    have h5 := grc_1.mp hw
    by_cases h11 : 11 ≤ gcc X st
    · rw [if_pos h11, if_pos (fun h => (zJ_m1 (by omega)).mp h), j41, if_neg (by omega)]
    · rw [if_neg h11, if_neg (fun h => h rfl), which61_r hX hB hst hT h24, Option.bind_some]
      by_cases h6 : 6 ≤ gcc X st ∧ gcc X st ≤ 10
      · rw [if_pos h6, if_neg (fun h => (zJ_m1 (by omega)).mp h), j41, if_neg (by omega)]
      · rw [if_neg h6, if_pos rfl, if_pos (show gcc X st = 5 by omega), t3, t4, ez]
        by_cases hs : gsz X st ≤ 6
        · rw [if_pos (by rw [zJ_lel (n := 6) (by omega) (by decide)]; exact hs), if_pos hs]
          unfold f_Mod_wordHere_j68
          rw [if_neg (fun h => h h24)]
        · rw [if_neg (by rw [zJ_lel (n := 6) (by omega) (by decide)]; exact hs), if_neg hs]
          unfold f_Mod_wordHere_j68
          rw [show (2 : Int32) = zJ 2 from rfl, wrong_r h24 t3, Option.bind_some, if_pos b2]
  · rw [if_pos (fun h : zJ (grc X st) = 1 => hw ((zJ_inj (b := 1) (by omega) (by omega)).mp h)), j41, if_neg (fun h => hw (grc_1.mpr (by omega)))]
/-! which line a name is -/
def gsame (Ln : Nat → Nat) (Nm : Nat → Nat → Nat) (X : gX) (st l : Nat) : Bool := Ln l == gsz X st && !zex (fun i => Nm l i != gnm X st i) (gsz X st)
/-- the lines' names, as the reference has them from 22 on -/
def grN (h : zH) (n L : Nat) (Ln : Nat → Nat) (Nm : Nat → Nat → Nat) : Prop := h.1 336 5 + h.1 336 6 = zJ n ∧ ∀ l, l < L → h.1 345 (22 + l) = zJ (Ln l) ∧ ∀ i, i < Ln l → h.1 346 (6 * (22 + l) + i) = zJ (Nm l i)
theorem yfd_le {p : Nat → Bool} : ∀ n, yfd p n ≤ n
  | 0 => Nat.le_refl 0
  | n + 1 => by
    unfold yfd
    have := yfd_le (p := p) n
    split
    · omega
    · split <;> omega
theorem yfd_no {p : Nat → Bool} : ∀ {n : Nat}, (∀ j, j < n → p j = false) → yfd p n = n
  | 0, _ => rfl
  | n + 1, h => by
    unfold yfd
    rw [yfd_no (fun j hj => h j (by omega)), if_neg (Nat.lt_irrefl n), h n (by omega), if_neg (by decide)]
theorem yfd_at {p : Nat → Bool} {n : Nat} (h : yfd p n < n) : p (yfd p n) = true ∧ ∀ j, j < yfd p n → p j = false := by
  by_cases hx : ∃ k, k < n ∧ p k = true
  · have : ∀ m, (∃ k, k < m ∧ p k = true) → ∃ k, (k < m ∧ p k = true) ∧ ∀ j, j < k → p j = false := by
      intro m
      induction m with
      | zero => rintro ⟨k, hk, -⟩; omega
      | succ m ih =>
        rintro ⟨k, hk, hp⟩
        by_cases hex : ∃ k, k < m ∧ p k = true
        · obtain ⟨g, ⟨g1, g2⟩, g3⟩ := ih hex
          exact ⟨g, ⟨by omega, g2⟩, g3⟩
        · refine ⟨k, ⟨hk, hp⟩, fun j hj => ?_⟩
          cases hz : p j
          · rfl
          · exact absurd ⟨j, by omega, hz⟩ hex
    obtain ⟨k, ⟨k1, k2⟩, k3⟩ := this n hx
    rw [yfd_eq k2 k3, show min k n = k by omega]
    exact ⟨k2, k3⟩
  · rw [yfd_no (fun j hj => by
      cases hz : p j
      · rfl
      · exact absurd ⟨j, hj, hz⟩ hx)] at h
    omega
theorem named_r {h : zH} {X : gX} {st n L : Nat} {Ln : Nat → Nat} {Nm : Nat → Nat → Nat} (hX : gOKx X) (hB : grB h X) (hst : st ≤ X.1) (hT : grT h X st) (h5 : 5 ≤ gcc X st) (h6 : gsz X st ≤ 6) (hN : grN h n L Ln Nm) (hn : n ≤ 22) (hL : n ≤ L) (hok : ∀ l, l < n → Ln l ≤ 6 ∧ ∀ i, i < Ln l → Nm l i ≤ 26) : f_Mod_named h = some (if yfd (gsame Ln Nm X st) n < n then zJ (yfd (gsame Ln Nm X st) n) else -1) := by
  obtain ⟨x1, x2⟩ := id hX
  obtain ⟨t1, t2, t3, t4, t5⟩ := id hT
  obtain ⟨hn1, hn2⟩ := hN
  have sp := gstop_spec hst
  have ez : zJ (gstop X st) - zJ st = zJ (gsz X st) := zJ_sub sp.1
  obtain ⟨w0, w1⟩ := gcc_word h5
  obtain ⟨o1, o2⟩ := gnm_ok hX w0 w1
  refine zw_eq ?_
  unfold f_Mod_named
  refine zw_bi (P := fun y => (yfd (gsame Ln Nm X st) n < n ∧ y = .inl (zJ (yfd (gsame Ln Nm X st) n))) ∨ (¬ yfd (gsame Ln Nm X st) n < n ∧ y = .inr ())) (zw_for n (fun l s => s = zJ l ∧ ∀ j, j < l → gsame Ln Nm X st j = false) (by omega) ⟨rfl, fun j hj => absurd hj (Nat.not_lt_zero j)⟩ ?_) ?_
  · rintro l s hl ⟨rfl, hno⟩
    unfold f_Mod_named_b2 f_Mod_newLines
    rw [hn1, Option.bind_some]
    by_cases hln : l < n
    · obtain ⟨a1, a2⟩ := hn2 l (by omega)
      obtain ⟨k1, k2⟩ := hok l hln
      have e22 : (22 : Int32) + zJ l = zJ (22 + l) := zJ_la (n := 22)
      rw [if_neg (by rw [zJ_le (by omega) (by omega)]; omega), e22, zb_t (by omega) (by omega), zg_tr, zJ_c (by omega), a1, t3, t4, ez]
      have j36 : ∀ b : Bool, b = (Ln l == gsz X st) → ∀ t, t = zbI b → zw (f_Mod_named_j36 h (zJ l) t) (Sum.elim (fun s' => l < n ∧ s' = zJ (l + 1) ∧ ∀ j, j < l + 1 → gsame Ln Nm X st j = false) fun y => (yfd (gsame Ln Nm X st) n < n ∧ y = .inl (zJ (yfd (gsame Ln Nm X st) n))) ∨ (¬ yfd (gsame Ln Nm X st) n < n ∧ y = .inr ())) := by
        rintro b hb t rfl
        unfold f_Mod_named_j36
        refine zw_bi (P := fun y => y = zbI (gsame Ln Nm X st l)) (zw_for (gsz X st) (fun k s => s = (zbI (b && !zex (fun i => Nm l i != gnm X st i) k), zJ k)) (by omega) (by show (zbI b, (0 : Int32)) = (zbI (b && !false), zJ 0); rw [Bool.not_false, Bool.and_true]; rfl) ?_) ?_
        · rintro k s hk rfl
          dsimp only
          unfold f_Mod_named_b39
          rw [t3, t4, ez]
          cases hx : (b && !zex (fun i => Nm l i != gnm X st i) k)
          · rw [if_pos zbI_f]
            refine zw_some ?_
            show zbI false = _
            congr 1
            unfold gsame
            rw [← hb]
            cases b
            · rfl
            · rw [Bool.true_and, Bool.not_eq_false'] at hx
              obtain ⟨i, i1, i2⟩ := zex_iff.mp hx
              rw [zex_iff.mpr ⟨i, by omega, i2⟩]
              rfl
          · rw [if_neg (by decide)]
            rw [Bool.and_eq_true] at hx
            obtain ⟨hb1, hx1⟩ := hx
            subst hb1
            have hln2 : Ln l = gsz X st := by
              have := hb.symm
              rwa [beq_iff_eq] at this
            rw [Bool.not_eq_true'] at hx1
            by_cases hks : k < gsz X st
            · have ok := o1 k hks
              have e1 : (6 : Int32) * zJ (22 + l) + zJ k = zJ (6 * (22 + l) + k) := by
                rw [show (6 : Int32) = zJ 6 from rfl, zJ_mul, zJ_add]
              rw [if_neg (by rw [zJ_le (by omega) (by omega)]; omega), e22, e1, zb_t (by omega) (by omega), zg_tr, zJ_add, zb_t (by omega) (by omega), zg_tr, zJ_c (by omega), zJ_c (by omega), a2 k (by omega), hB.2 _ (by omega)]
              have e97 : zJ (X.2 (st + k)) - 97 + 1 = zJ (gnm X st k) := by
                have s1 : zJ (X.2 (st + k)) - 97 = zJ (X.2 (st + k) - 97) := zJ_subl (n := 97) ok.1
                rw [s1, zJ_al]
                congr 1
                unfold gnm
                show X.2 (st + k) - 97 + 1 = _
                omega
              have kk := k2 k (by omega)
              rw [e97]
              have j94 : ∀ b : Bool, b = (true && !zex (fun i => Nm l i != gnm X st i) (k + 1)) → ∀ t, t = zbI b → zw (f_Mod_named_j94 h (zJ l) (zJ k) t) (Sum.elim (fun s' => k < gsz X st ∧ s' = (zbI (true && !zex (fun i => Nm l i != gnm X st i) (k + 1)), zJ (k + 1))) fun y => y = zbI (gsame Ln Nm X st l)) := by
                rintro b hb t rfl
                unfold f_Mod_named_j94
                rw [hb, zJ_al]
                exact zw_some ⟨hks, rfl⟩
              by_cases he : Nm l k = gnm X st k
              · rw [if_neg (fun h => h (by rw [he]))]
                exact j94 true (by rw [zex_s, hx1, he]; simp) 1 rfl
              · rw [if_pos (fun h => he ((zJ_inj (by omega) (by omega)).mp h))]
                exact j94 false (by rw [zex_s, hx1]; simpa using he) 0 rfl
            · have : k = gsz X st := by omega
              subst this
              rw [if_pos (by rw [zJ_le (by omega) (by omega)]; omega)]
              refine zw_some ?_
              show zbI true = _
              congr 1
              unfold gsame
              rw [← hb, hx1]
              rfl
        · rintro y rfl
          cases hg : gsame Ln Nm X st l
          · rw [if_pos zbI_f, zJ_al]
            refine zw_some ⟨hln, rfl, fun j hj => ?_⟩
            by_cases e : j = l
            · subst e
              exact hg
            · exact hno j (by omega)
          · rw [if_neg (by decide)]
            have e := yfd_eq hg hno n
            rw [show min l n = l by omega] at e
            exact zw_some (Or.inl ⟨by omega, by rw [e]⟩)
      by_cases hle : Ln l = gsz X st
      · rw [if_neg (fun h => h (by rw [hle]))]
        exact j36 true (by rw [hle]; exact (beq_self_eq_true _).symm) 1 rfl
      · rw [if_pos (fun h => hle ((zJ_inj (by omega) (by omega)).mp h))]
        exact j36 false (beq_eq_false_iff_ne.mpr hle).symm 0 rfl
    · rw [if_pos (by rw [zJ_le (by omega) (by omega)]; omega)]
      have : l = n := by omega
      subst this
      refine zw_some (Or.inr ⟨?_, rfl⟩)
      rw [yfd_no hno]
      exact Nat.lt_irrefl _
  · rintro y (⟨a, rfl⟩ | ⟨a, rfl⟩)
    · exact zw_some (by rw [if_pos a])
    · exact zw_some (by rw [if_neg a])
