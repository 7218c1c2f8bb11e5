/-! ===== the reference lays its cubes down ===== -/
def ydg (n q i : Nat) : Nat := q / 3 ^ (n - 1 - i) % 3
def ysz (n q : Nat) : Nat := fb_ct (fun j => decide (q / 3 ^ j % 3 < 2)) n
/-- the best of so many rows (0: none; else its number and one) -/
def ybs (e : zEv) (sb : Nat → Bool) (f : Nat) : Nat → Nat
  | 0 => 0
  | n + 1 => if zcg e sb (ydg e.1 n) (f + 1) = true ∧ (ybs e sb f n = 0 ∨ ysz e.1 n < ysz e.1 (ybs e sb f n - 1)) then n + 1 else ybs e sb f n
theorem ybs_le {e : zEv} {sb : Nat → Bool} {f : Nat} : ∀ n, ybs e sb f n ≤ n
  | 0 => Nat.le_refl 0
  | n + 1 => by
    have := ybs_le (e := e) (sb := sb) (f := f) n
    unfold ybs
    split <;> omega
theorem ydg_le {n q i : Nat} : ydg n q i ≤ 2 := by
  unfold ydg
  omega
theorem ysz_le {n q : Nat} : ysz n q ≤ n := fb_ct_le _ _
theorem zfj_dn {m : Nat} (h : m < 2147483648) : zJ m + (-1) = zfj m := by
  cases m with
  | zero => rfl
  | succ m => rw [zfj_s, zJ_neg (by omega)]; congr 1
theorem zfj_lt0 {m : Nat} (h : m < 2147483648) : zfj m < 0 ↔ m = 0 := by
  cases m with
  | zero => decide
  | succ m => rw [zfj_s, zJ_ltl (n := 0) (by omega) (by decide)]; simp
theorem zpw3 {i : Nat} (h : i ≤ 6) : 1 ≤ 3 ^ i ∧ 3 ^ i ≤ 729 := by
  rcases (by omega : i = 0 ∨ i = 1 ∨ i = 2 ∨ i = 3 ∨ i = 4 ∨ i = 5 ∨ i = 6) with rfl | rfl | rfl | rfl | rfl | rfl | rfl <;> decide
theorem powerOf_r {a n : Nat} (ha : a = 3) (hn : n ≤ 6) : zw (f_Mod_powerOf (zJ a) (zJ n)) fun x => x = zJ (a ^ n) := by
  subst ha
  unfold f_Mod_powerOf
  refine zw_bi (P := fun x => x = zJ (3 ^ n)) (zw_for n (fun k s => s = (zJ (3 ^ k), zJ k)) (by omega) rfl ?_) (fun x hx => zw_some hx)
  rintro k s hk rfl
  dsimp only
  unfold f_Mod_powerOf_b4
  by_cases hkm : k < n
  · simp (disch := omega) only [zg_tr, zb_t, zJ_lt, zJ_le, zJ_inj, zJ_ltl, zJ_lel, zJ_eql, zJ_llt, zJ_lle, zJ_leq, zJ_m1, zJ_m1r, zJ_nle_m1, zJ_m1lt, zJ_add, zJ_al, zJ_mull, zJ_c, zJ_mlr, zJ_cl, zJ_sub, zJ_subl, zJ_neg, zJ_divl, zreml, zshl_1, zshr_J, zushr_J, zJ_and1, if_pos, if_neg, Option.bind_some, zI_eq, zI_ne, zI_nk, zI_2, zL_1, zL_eq, zL_ne, zL_nk, zL_22]
    refine zw_some ⟨hkm, ?_⟩
    rw [Nat.pow_succ]
    exact congrArg (fun z => (z, zJ (k + 1))) (Int32.ofNat_mul (3 ^ k) 3).symm
  · have : k = n := by omega
    subst this
    simp (disch := omega) only [zg_tr, zb_t, zJ_lt, zJ_le, zJ_inj, zJ_ltl, zJ_lel, zJ_eql, zJ_llt, zJ_lle, zJ_leq, zJ_m1, zJ_m1r, zJ_nle_m1, zJ_m1lt, zJ_add, zJ_al, zJ_mull, zJ_c, zJ_mlr, zJ_cl, zJ_sub, zJ_subl, zJ_neg, zJ_divl, zreml, zshl_1, zshr_J, zushr_J, zJ_and1, if_pos, if_neg, Option.bind_some, zI_eq, zI_ne, zI_nk, zI_2, zL_1, zL_eq, zL_ne, zL_nk, zL_22]
    exact zw_some rfl
/-- the row's numbers -/
theorem digits_r {h : zH} {e : zEv} {q : Nat} {v1 : Int32} (he : zEok e) (hq : q < 729) : zw (zit zFU (fun s : Int32 × Int32 × Int32 × zH => f_Mod_layCubes_b33 s.2.2.2 v1 (zJ q) s.1 s.2.1 s.2.2.1) (zJ q, 0, zJ e.1 - 1, h)) fun x => x.1 = zJ (ysz e.1 q) ∧ zfm [(350, 350, 0, 9999)] h x.2 ∧ ∀ i, i < e.1 → x.2.1 350 i = zJ (ydg e.1 q i) := by
  obtain ⟨e1, e2, e3, e4⟩ := id he
  have h0 : zJ e.1 - 1 = zfj (e.1 - 0) := by
    rw [Int32.sub_eq_add_neg, zfj_dn (by omega)]
    rfl
  rw [h0]
  refine zw_for e.1 (fun k s => s.1 = zJ (q / 3 ^ k) ∧ s.2.1 = zJ (fb_ct (fun j => decide (q / 3 ^ j % 3 < 2)) k) ∧ s.2.2.1 = zfj (e.1 - k) ∧ zfm [(350, 350, 0, 9999)] h s.2.2.2 ∧ ∀ i, e.1 - k ≤ i → i < e.1 → s.2.2.2.1 350 i = zJ (ydg e.1 q i)) (by omega) ⟨by simp, rfl, rfl, zfm.rfl', fun l hl => by omega⟩ ?_
  rintro k ⟨a, b, c, g⟩ hk ⟨rfl, rfl, rfl, hz, hv⟩
  dsimp only at hz hv ⊢
  unfold f_Mod_layCubes_b33
  by_cases hkm : k < e.1
  · obtain ⟨m, hm⟩ : ∃ m, e.1 - k = m + 1 := ⟨e.1 - k - 1, by omega⟩
    have hmk : e.1 - (k + 1) = m := by omega
    have hq3 : q / 3 ^ k < 729 := Nat.lt_of_le_of_lt (Nat.div_le_self _ _) hq
    have hq4 : q / 3 ^ k / 3 = q / 3 ^ (k + 1) := by rw [Nat.div_div_eq_div_mul, Nat.pow_succ]
    have hd : ydg e.1 q m = q / 3 ^ k % 3 := by
      unfold ydg
      rw [show e.1 - 1 - m = k by omega]
    rw [hm, zfj_s, hmk]
    simp (disch := omega) only [zg_tr, zb_t, zJ_lt, zJ_le, zJ_inj, zJ_ltl, zJ_lel, zJ_eql, zJ_llt, zJ_lle, zJ_leq, zJ_m1, zJ_m1r, zJ_nle_m1, zJ_m1lt, zJ_add, zJ_al, zJ_mull, zJ_c, zJ_mlr, zJ_cl, zJ_sub, zJ_subl, zJ_neg, zJ_divl, zreml, zshl_1, zshr_J, zushr_J, zJ_and1, if_pos, if_neg, Option.bind_some, zI_eq, zI_ne, zI_nk, zI_2, zL_1, zL_eq, zL_ne, zL_nk, zL_22, f_Mod_layCubes_j66]
    have hread : ∀ i, e.1 - (k + 1) ≤ i → i < e.1 → (zsI g 350 m (zJ (q / 3 ^ k % 3))).1 350 i = zJ (ydg e.1 q i) := by
      intro i h1 h2
      by_cases him : i = m
      · subst him
        rw [zI_eq, hd]
      · rw [zI_nk him, hv i (by omega) h2]
    rw [zfj_dn (by omega), hq4]
    by_cases c2 : 2 ≤ q / 3 ^ k % 3
    · simp (disch := omega) only [zg_tr, zb_t, zJ_lt, zJ_le, zJ_inj, zJ_ltl, zJ_lel, zJ_eql, zJ_llt, zJ_lle, zJ_leq, zJ_m1, zJ_m1r, zJ_nle_m1, zJ_m1lt, zJ_add, zJ_al, zJ_mull, zJ_c, zJ_mlr, zJ_cl, zJ_sub, zJ_subl, zJ_neg, zJ_divl, zreml, zshl_1, zshr_J, zushr_J, zJ_and1, if_pos, if_neg, Option.bind_some, zI_eq, zI_ne, zI_nk, zI_2, zL_1, zL_eq, zL_ne, zL_nk, zL_22]
      refine zw_some ⟨hkm, rfl, ?_, rfl, hz.I (zin_1 (by omega) (by omega) (by omega) (by omega)), fun i h1 h2 => hread i (by omega) h2⟩
      dsimp only
      rw [fb_ct_succ, show (decide (q / 3 ^ k % 3 < 2)) = false by simp; omega]
      rfl
    · simp (disch := omega) only [zg_tr, zb_t, zJ_lt, zJ_le, zJ_inj, zJ_ltl, zJ_lel, zJ_eql, zJ_llt, zJ_lle, zJ_leq, zJ_m1, zJ_m1r, zJ_nle_m1, zJ_m1lt, zJ_add, zJ_al, zJ_mull, zJ_c, zJ_mlr, zJ_cl, zJ_sub, zJ_subl, zJ_neg, zJ_divl, zreml, zshl_1, zshr_J, zushr_J, zJ_and1, if_pos, if_neg, Option.bind_some, zI_eq, zI_ne, zI_nk, zI_2, zL_1, zL_eq, zL_ne, zL_nk, zL_22]
      refine zw_some ⟨hkm, rfl, ?_, rfl, hz.I (zin_1 (by omega) (by omega) (by omega) (by omega)), fun i h1 h2 => hread i (by omega) h2⟩
      dsimp only
      rw [fb_ct_succ, show (decide (q / 3 ^ k % 3 < 2)) = true by simp; omega]
      rfl
  · have : k = e.1 := by omega
    subst this
    rw [Nat.sub_self, if_pos ((zfj_lt0 (by omega)).mpr rfl)]
    exact zw_some ⟨rfl, hz, fun i hi => hv i (by omega) hi⟩
/-- the row is taken over -/
theorem cubeRow_r {h : zH} {e : zEv} {f : Nat} {inp : Nat → Nat} {v1 v2 v4 : Int32} (he : zEok e) (hre : zRE h e) (hf : f < 44) (hi : ∀ i, i < e.1 → h.1 350 i = zJ (inp i)) : zw (zit zFU (fun s : Int32 × zH => f_Mod_layCubes_b152 s.2 v1 v2 v4 (zJ f) s.1) (0, h)) fun g => zfm [(355, 355, 0, 9999)] h g ∧ (∀ i, i < e.1 → g.1 355 (6 * f + i) = zJ (inp i)) ∧ ∀ j, (j < 6 * f ∨ 6 * f + 6 ≤ j) → g.1 355 j = h.1 355 j := by
  obtain ⟨e1, e2, e3, e4⟩ := id he
  refine zw_for e.1 (fun k s => s.1 = zJ k ∧ zfm [(355, 355, 0, 9999)] h s.2 ∧ (∀ i, i < k → s.2.1 355 (6 * f + i) = zJ (inp i)) ∧ ∀ j, (j < 6 * f ∨ 6 * f + 6 ≤ j) → s.2.1 355 j = h.1 355 j) (by omega) ⟨rfl, zfm.rfl', fun i hi => by omega, fun j _ => rfl⟩ ?_
  rintro k ⟨a, g⟩ hk ⟨rfl, hz, hv, ho⟩
  dsimp only at hz hv ho ⊢
  have r0 : g.1 336 0 = zJ e.1 := (hz.i (by rfl)).trans hre.1
  unfold f_Mod_layCubes_b152
  by_cases hkm : k < e.1
  · have h1 : g.1 350 k = zJ (inp k) := (hz.i (by rfl)).trans (hi k hkm)
    simp (disch := omega) only [zg_tr, zb_t, zJ_lt, zJ_le, zJ_inj, zJ_ltl, zJ_lel, zJ_eql, zJ_llt, zJ_lle, zJ_leq, zJ_m1, zJ_m1r, zJ_nle_m1, zJ_m1lt, zJ_add, zJ_al, zJ_mull, zJ_c, zJ_mlr, zJ_cl, zJ_sub, zJ_subl, zJ_neg, zJ_divl, zreml, zshl_1, zshr_J, zushr_J, zJ_and1, if_pos, if_neg, Option.bind_some, zI_eq, zI_ne, zI_nk, zI_2, zL_1, zL_eq, zL_ne, zL_nk, zL_22, r0, h1]
    refine zw_some ⟨hkm, rfl, hz.I (zin_1 (by omega) (by omega) (by omega) (by omega)), fun i h2 => ?_, fun j hj => ?_⟩
    · dsimp only
      by_cases hik : i = k
      · subst hik
        rw [zI_eq]
      · rw [zI_nk (by omega), hv i (by omega)]
    · dsimp only
      rw [zI_nk (by omega), ho j hj]
  · have : k = e.1 := by omega
    subst this
    simp (disch := omega) only [zg_tr, zb_t, zJ_lt, zJ_le, zJ_inj, zJ_ltl, zJ_lel, zJ_eql, zJ_llt, zJ_lle, zJ_leq, zJ_m1, zJ_m1r, zJ_nle_m1, zJ_m1lt, zJ_add, zJ_al, zJ_mull, zJ_c, zJ_mlr, zJ_cl, zJ_sub, zJ_subl, zJ_neg, zJ_divl, zreml, zshl_1, zshr_J, zushr_J, zJ_and1, if_pos, if_neg, Option.bind_some, zI_eq, zI_ne, zI_nk, zI_2, zL_1, zL_eq, zL_ne, zL_nk, zL_22, r0]
    exact zw_some ⟨hz, hv, ho⟩
/-- as many as it sets, and one -/
def ybz (n b : Nat) : Nat := if b = 0 then 0 else ysz n (b - 1) + 1
/-- cubes so far -/
def yCU (g : zH) (e : zEv) (sb : Nat → Bool) (N : Nat → Nat) : Prop := ∀ f, f < 2 * e.2.1 → (zlo e sb f = 0 → g.1 356 f = zfj (ybz e.1 (ybs e sb f (N f))) ∧ (ybs e sb f (N f) ≠ 0 → ∀ i, i < e.1 → g.1 355 (6 * f + i) = zJ (ydg e.1 (ybs e sb f (N f) - 1) i))) ∧ (zlo e sb f ≠ 0 → g.1 356 f = -1)
theorem yCU_step {g g' : zH} {e : zEv} {sb : Nat → Bool} {k q : Nat} (hT : yCU g e sb (fun f => if f < k then q + 1 else q)) (h1 : ∀ f, f < 2 * e.2.1 → f ≠ k → g'.1 356 f = g.1 356 f ∧ ∀ i, i < 6 → g'.1 355 (6 * f + i) = g.1 355 (6 * f + i)) (h6 : e.1 ≤ 6)
    (h2 : zlo e sb k = 0 → g'.1 356 k = zfj (ybz e.1 (ybs e sb k (q + 1))) ∧ (ybs e sb k (q + 1) ≠ 0 → ∀ i, i < e.1 → g'.1 355 (6 * k + i) = zJ (ydg e.1 (ybs e sb k (q + 1) - 1) i))) (h3 : zlo e sb k ≠ 0 → g'.1 356 k = -1) : yCU g' e sb (fun f => if f < k + 1 then q + 1 else q) := by
  intro f hf
  have hT := hT f hf
  dsimp only at hT ⊢
  by_cases hfk : f = k
  · subst hfk
    rw [if_pos (Nat.lt_succ_self f)]
    exact ⟨h2, h3⟩
  · have ec : (if f < k + 1 then q + 1 else q) = if f < k then q + 1 else q := by
      by_cases hh : f < k
      · rw [if_pos hh, if_pos (by omega)]
      · rw [if_neg hh, if_neg (by omega)]
    rw [ec]
    obtain ⟨o1, o2⟩ := h1 f hf hfk
    refine ⟨fun hl => ⟨o1.trans (hT.1 hl).1, fun hb i hi => (o2 i (by omega)).trans ((hT.1 hl).2 hb i hi)⟩, fun hl => o1.trans (hT.2 hl)⟩
/-- a fault at a row -/
theorem cubeStep_r {g : zH} {e : zEv} {sb : Nat → Bool} {k q : Nat} {v1 : Int32} (he : zEok e) (hre : zRE g e) (hs : zRS g e.2.1 sb) (hk : k < 2 * e.2.1) (hT : yCU g e sb (fun f => if f < k then q + 1 else q)) (hi : ∀ i, i < e.1 → g.1 350 i = zJ (ydg e.1 q i)) (hp : ∀ l, l < e.2.1 → g.1 352 l = zJ (zvl e (ydg e.1 q) 0 l)) (hl : zlo e sb k = 0) (hc : ybs e sb k q = 0 ∨ ysz e.1 q < ysz e.1 (ybs e sb k q - 1)) :
    zw (f_Mod_layCubes_j128 g v1 (zJ q) (zJ (ysz e.1 q)) (zJ k)) fun x => ∃ h', x = .inl (zJ (k + 1), h') ∧ zfm [(351, 351, 0, 9999), (355, 356, 0, 9999)] g h' ∧ yCU h' e sb (fun f => if f < k + 1 then q + 1 else q) := by
  obtain ⟨e1, e2, e3, e4⟩ := id he
  unfold f_Mod_layCubes_j128
  refine zw_bi (isCaught_r (f := k + 1) he hre hs (by omega) (fun i h1 => ⟨hi i h1, ydg_le⟩) hp) ?_
  rintro ⟨b, g2⟩ ⟨hb, q1⟩
  dsimp only at hb q1 ⊢
  subst hb
  have hT2 : yCU g2 e sb (fun f => if f < k then q + 1 else q) := by
    unfold yCU
    rw [q1.ir (o := 355) (fun _ => rfl), q1.ir (o := 356) (fun _ => rfl)]
    exact hT
  cases hcc : zcg e sb (ydg e.1 q) (k + 1)
  · have hbs : ybs e sb k (q + 1) = ybs e sb k q := by
      rw [ybs, hcc, if_neg (by simp)]
    rw [zbI_f, if_neg (by decide)]
    have h9 := hT2 k hk
    simp only [Nat.lt_irrefl, if_false] at h9
    simp (disch := omega) only [zg_tr, zb_t, zJ_lt, zJ_le, zJ_inj, zJ_ltl, zJ_lel, zJ_eql, zJ_llt, zJ_lle, zJ_leq, zJ_m1, zJ_m1r, zJ_nle_m1, zJ_m1lt, zJ_add, zJ_al, zJ_mull, zJ_c, zJ_mlr, zJ_cl, zJ_sub, zJ_subl, zJ_neg, zJ_divl, zreml, zshl_1, zshr_J, zushr_J, zJ_and1, if_pos, if_neg, Option.bind_some, zI_eq, zI_ne, zI_nk, zI_2, zL_1, zL_eq, zL_ne, zL_nk, zL_22]
    refine zw_some ⟨_, rfl, q1.sub rfl, yCU_step hT2 (fun f _ _ => ⟨rfl, fun _ _ => rfl⟩) e1 ?_ h9.2⟩
    rw [hbs]
    exact h9.1
  · have hbs : ybs e sb k (q + 1) = q + 1 := by
      rw [ybs, hcc, if_pos ⟨rfl, hc⟩]
    rw [zbI_t, if_pos (by decide)]
    simp (disch := omega) only [zg_tr, zb_t, zJ_lt, zJ_le, zJ_inj, zJ_ltl, zJ_lel, zJ_eql, zJ_llt, zJ_lle, zJ_leq, zJ_m1, zJ_m1r, zJ_nle_m1, zJ_m1lt, zJ_add, zJ_al, zJ_mull, zJ_c, zJ_mlr, zJ_cl, zJ_sub, zJ_subl, zJ_neg, zJ_divl, zreml, zshl_1, zshr_J, zushr_J, zJ_and1, if_pos, if_neg, Option.bind_some, zI_eq, zI_ne, zI_nk, zI_2, zL_1, zL_eq, zL_ne, zL_nk, zL_22]
    have q2 : zfm [(351, 351, 0, 9999), (355, 356, 0, 9999)] g (zsI g2 356 k (zJ (ysz e.1 q))) := zfm.I (q1.sub rfl) (zin_2 (zin_1 (by omega) (by omega) (by omega) (by omega)))
    refine zw_bi (cubeRow_r (inp := ydg e.1 q) he (hre.fr q2 (fun o k h1 h2 => by
      unfold zin
      simp
      omega)) (by omega) (fun i h1 => (q2.i (by rfl)).trans (hi i h1))) ?_
    rintro g3 ⟨r1, r2, r3⟩
    refine zw_some ⟨_, rfl, q2.tr r1 rfl, yCU_step hT2 (fun f hf hfk => ⟨?_, fun i h1 => ?_⟩) e1 (fun _ => ?_) (fun h => absurd hl h)⟩
    · rw [r1.i (by rfl), zI_nk hfk]
    · rw [r3 _ (by omega), zI_ne (by omega)]
    · rw [hbs, r1.i (by rfl), zI_eq]
      exact ⟨rfl, fun _ => r2⟩
theorem cubesRow_r {g0 : zH} {e : zEv} {sb : Nat → Bool} {q : Nat} {v1 : Int32} (he : zEok e) (hre : zRE g0 e) (hs : zRS g0 e.2.1 sb) (hT : yCU g0 e sb (fun _ => q)) (hl : ∀ f, f < 2 * e.2.1 → g0.1 357 f = zJ (zlo e sb f)) (hi : ∀ i, i < e.1 → g0.1 350 i = zJ (ydg e.1 q i)) (hp : ∀ l, l < e.2.1 → g0.1 352 l = zJ (zvl e (ydg e.1 q) 0 l)) :
    zw (zit zFU (fun s : Int32 × zH => f_Mod_layCubes_b86 s.2 v1 (zJ q) (zJ (ysz e.1 q)) s.1) (0, g0)) fun g => zfm [(351, 351, 0, 9999), (355, 356, 0, 9999)] g0 g ∧ yCU g e sb (fun _ => q + 1) := by
  obtain ⟨e1, e2, e3, e4⟩ := id he
  refine zw_for (2 * e.2.1) (fun k s => s.1 = zJ k ∧ zfm [(351, 351, 0, 9999), (355, 356, 0, 9999)] g0 s.2 ∧ yCU s.2 e sb (fun f => if f < k then q + 1 else q)) (by omega) ⟨rfl, zfm.rfl', fun f hf => hT f hf⟩ ?_
  rintro k ⟨i, g⟩ hk ⟨rfl, hz, hv⟩
  dsimp only at hz hv ⊢
  have hrg : zRE g e := hre.fr hz (fun o k h1 h2 => by
    unfold zin
    simp
    omega)
  have hsg : zRS g e.2.1 sb := hs.fr hz (fun k => rfl)
  unfold f_Mod_layCubes_b86
  rw [faults_r he hrg]
  by_cases hkm : k < 2 * e.2.1
  · have hlk : g.1 357 k = zJ (zlo e sb k) := (hz.i (by rfl)).trans (hl k hkm)
    have hlo : zlo e sb k < 3 := by
      unfold zlo
      cases zdf e k (2 ^ e.1) <;> split <;> simp
    have h9 := hv k hkm
    simp only [Nat.lt_irrefl, if_false] at h9
    have same : (zlo e sb k = 0 → ybs e sb k (q + 1) = ybs e sb k q) → yCU g e sb (fun f => if f < k + 1 then q + 1 else q) := by
      intro hb
      refine yCU_step hv (fun f _ _ => ⟨rfl, fun _ _ => rfl⟩) e1 (fun h0 => ?_) h9.2
      rw [hb h0]
      exact h9.1 h0
    have stp : zlo e sb k = 0 → (ybs e sb k q = 0 ∨ ysz e.1 q < ysz e.1 (ybs e sb k q - 1)) → zw (f_Mod_layCubes_j128 g v1 (zJ q) (zJ (ysz e.1 q)) (zJ k)) (Sum.elim (fun s' => k < 2 * e.2.1 ∧ s'.1 = zJ (k + 1) ∧ zfm [(351, 351, 0, 9999), (355, 356, 0, 9999)] g0 s'.2 ∧ yCU s'.2 e sb (fun f => if f < k + 1 then q + 1 else q)) fun g => zfm [(351, 351, 0, 9999), (355, 356, 0, 9999)] g0 g ∧ yCU g e sb (fun _ => q + 1)) := by
      intro h0 hb
      refine zw_mono (cubeStep_r he hrg hsg hkm hv (fun i h1 => (hz.i (by rfl)).trans (hi i h1)) (fun l h1 => (hz.i (by rfl)).trans (hp l h1)) h0 hb) ?_
      rintro x ⟨h', rfl, q1, q2⟩
      exact ⟨hkm, rfl, hz.tr q1 rfl, q2⟩
    have hsq := ysz_le (n := e.1) (q := q)
    simp (disch := omega) only [zg_tr, zb_t, zJ_lt, zJ_le, zJ_inj, zJ_ltl, zJ_lel, zJ_eql, zJ_llt, zJ_lle, zJ_leq, zJ_m1, zJ_m1r, zJ_nle_m1, zJ_m1lt, zJ_add, zJ_al, zJ_mull, zJ_c, zJ_mlr, zJ_cl, zJ_sub, zJ_subl, zJ_neg, zJ_divl, zreml, zshl_1, zshr_J, zushr_J, zJ_and1, if_pos, if_neg, Option.bind_some, zI_eq, zI_ne, zI_nk, zI_2, zL_1, zL_eq, zL_ne, zL_nk, zL_22, hlk]
    by_cases h0 : zlo e sb k = 0
    · rw [if_neg (by omega), (h9.1 h0).1]
      by_cases hb : ybs e sb k q = 0
      · rw [hb, show zfj (ybz e.1 0) = -1 from rfl, if_pos rfl]
        exact stp h0 (Or.inl hb)
      · obtain ⟨b, hb1⟩ : ∃ b, ybs e sb k q = b + 1 := ⟨_, (Nat.succ_pred hb).symm⟩
        have hsb := ysz_le (n := e.1) (q := b)
        rw [hb1, show zfj (ybz e.1 (b + 1)) = zJ (ysz e.1 b) from rfl]
        simp (disch := omega) only [zg_tr, zb_t, zJ_lt, zJ_le, zJ_inj, zJ_ltl, zJ_lel, zJ_eql, zJ_llt, zJ_lle, zJ_leq, zJ_m1, zJ_m1r, zJ_nle_m1, zJ_m1lt, zJ_add, zJ_al, zJ_mull, zJ_c, zJ_mlr, zJ_cl, zJ_sub, zJ_subl, zJ_neg, zJ_divl, zreml, zshl_1, zshr_J, zushr_J, zJ_and1, if_pos, if_neg, Option.bind_some, zI_eq, zI_ne, zI_nk, zI_2, zL_1, zL_eq, zL_ne, zL_nk, zL_22]
        rw [if_neg (fun h => h)]
        by_cases h2 : ysz e.1 b ≤ ysz e.1 q
        · rw [if_pos h2]
          refine zw_some ⟨hkm, rfl, hz, same (fun _ => ?_)⟩
          rw [ybs, hb1, if_neg]
          rintro ⟨-, h3 | h3⟩
          · omega
          · rw [Nat.add_sub_cancel] at h3
            omega
        · rw [if_neg h2]
          refine stp h0 (Or.inr ?_)
          rw [hb1, Nat.add_sub_cancel]
          omega
    · rw [if_pos (by omega)]
      exact zw_some ⟨hkm, rfl, hz, same (fun h => absurd h h0)⟩
  · have : k = 2 * e.2.1 := by omega
    subst this
    simp (disch := omega) only [zg_tr, zb_t, zJ_lt, zJ_le, zJ_inj, zJ_ltl, zJ_lel, zJ_eql, zJ_llt, zJ_lle, zJ_leq, zJ_m1, zJ_m1r, zJ_nle_m1, zJ_m1lt, zJ_add, zJ_al, zJ_mull, zJ_c, zJ_mlr, zJ_cl, zJ_sub, zJ_subl, zJ_neg, zJ_divl, zreml, zshl_1, zshr_J, zushr_J, zJ_and1, if_pos, if_neg, Option.bind_some, zI_eq, zI_ne, zI_nk, zI_2, zL_1, zL_eq, zL_ne, zL_nk, zL_22]
    refine zw_some ⟨hz, fun f hf => ?_⟩
    have := hv f hf
    simp only [hf, if_true] at this
    exact this
theorem layCubes_r {h : zH} {e : zEv} {sb : Nat → Bool} (he : zEok e) (hre : zRE h e) (hs : zRS h e.2.1 sb) (hl : ∀ f, f < 2 * e.2.1 → h.1 357 f = zJ (zlo e sb f)) (hm : ∀ f, f < 44 → h.1 356 f = -1) : zw (f_Mod_layCubes h) fun g => zfm [(350, 352, 0, 9999), (355, 356, 0, 9999)] h g ∧ yCU g e sb (fun _ => 3 ^ e.1) := by
  obtain ⟨e1, e2, e3, e4⟩ := id he
  have h729 := zpw3 e1
  unfold f_Mod_layCubes
  rw [hre.1]
  refine zw_bi (powerOf_r (a := 3) rfl e1) ?_
  rintro x rfl
  refine zw_bi (P := fun g => zfm [(350, 352, 0, 9999), (355, 356, 0, 9999)] h g ∧ yCU g e sb (fun _ => 3 ^ e.1)) (zw_for (3 ^ e.1) (fun k s => s.1 = zJ k ∧ zfm [(350, 352, 0, 9999), (355, 356, 0, 9999)] h s.2 ∧ yCU s.2 e sb (fun _ => k)) (by omega) ⟨rfl, zfm.rfl', fun f hf => ⟨fun _ => ⟨hm f (by omega), fun h => absurd rfl h⟩, fun _ => hm f (by omega)⟩⟩ ?_) (fun x hx => zw_some hx)
  rintro k ⟨i, g⟩ hk ⟨rfl, hz, hv⟩
  dsimp only at hz hv ⊢
  unfold f_Mod_layCubes_b13
  by_cases hkm : k < 3 ^ e.1
  · have r0 : g.1 336 0 = zJ e.1 := (hz.i (by rfl)).trans hre.1
    simp (disch := omega) only [zg_tr, zb_t, zJ_lt, zJ_le, zJ_inj, zJ_ltl, zJ_lel, zJ_eql, zJ_llt, zJ_lle, zJ_leq, zJ_m1, zJ_m1r, zJ_nle_m1, zJ_m1lt, zJ_add, zJ_al, zJ_mull, zJ_c, zJ_mlr, zJ_cl, zJ_sub, zJ_subl, zJ_neg, zJ_divl, zreml, zshl_1, zshr_J, zushr_J, zJ_and1, if_pos, if_neg, Option.bind_some, zI_eq, zI_ne, zI_nk, zI_2, zL_1, zL_eq, zL_ne, zL_nk, zL_22, r0]
    refine zw_bi (digits_r he (by omega)) ?_
    rintro ⟨b, g1⟩ ⟨hb, q1, q2⟩
    dsimp only at hb q1 q2 ⊢
    subst hb
    have hz1 : zfm [(350, 352, 0, 9999), (355, 356, 0, 9999)] h g1 := hz.tr q1 rfl
    have hrg1 : zRE g1 e := hre.fr hz1 (fun o k h1 h2 => by
      unfold zin
      simp
      omega)
    refine zw_bi (tellPlain_r (inp := ydg e.1 k) he hrg1 (fun i h1 => ⟨q2 i h1, ydg_le⟩)) ?_
    rintro g2 ⟨p3, p4⟩
    have hz2 : zfm [(350, 352, 0, 9999), (355, 356, 0, 9999)] h g2 := hz1.tr p3 rfl
    have hrg2 : zRE g2 e := hre.fr hz2 (fun o k h1 h2 => by
      unfold zin
      simp
      omega)
    have hT2 : yCU g2 e sb (fun _ => k) := by
      unfold yCU
      have p5 : zfm [(350, 352, 0, 9999)] g g2 := (q1.sub rfl).tr p3 rfl
      rw [p5.ir (o := 355) (fun _ => rfl), p5.ir (o := 356) (fun _ => rfl)]
      exact hv
    refine zw_bi (cubesRow_r he hrg2 (hs.fr hz2 (fun _ => rfl)) hT2 (fun f hf => (hz2.i (by rfl)).trans (hl f hf)) (fun i h1 => (p3.i (by rfl)).trans (q2 i h1)) p4) ?_
    rintro g3 ⟨p6, p7⟩
    exact zw_some ⟨hkm, by simp (disch := omega) only [zg_tr, zb_t, zJ_lt, zJ_le, zJ_inj, zJ_ltl, zJ_lel, zJ_eql, zJ_llt, zJ_lle, zJ_leq, zJ_m1, zJ_m1r, zJ_nle_m1, zJ_m1lt, zJ_add, zJ_al, zJ_mull, zJ_c, zJ_mlr, zJ_cl, zJ_sub, zJ_subl, zJ_neg, zJ_divl, zreml, zshl_1, zshr_J, zushr_J, zJ_and1, if_pos, if_neg, Option.bind_some, zI_eq, zI_ne, zI_nk, zI_2, zL_1, zL_eq, zL_ne, zL_nk, zL_22], hz2.tr p6 rfl, p7⟩
  · have : k = 3 ^ e.1 := by omega
    subst this
    simp (disch := omega) only [zg_tr, zb_t, zJ_lt, zJ_le, zJ_inj, zJ_ltl, zJ_lel, zJ_eql, zJ_llt, zJ_lle, zJ_leq, zJ_m1, zJ_m1r, zJ_nle_m1, zJ_m1lt, zJ_add, zJ_al, zJ_mull, zJ_c, zJ_mlr, zJ_cl, zJ_sub, zJ_subl, zJ_neg, zJ_divl, zreml, zshl_1, zshr_J, zushr_J, zJ_and1, if_pos, if_neg, Option.bind_some, zI_eq, zI_ne, zI_nk, zI_2, zL_1, zL_eq, zL_ne, zL_nk, zL_22]
    exact zw_some ⟨hz, hv⟩
/-- all that is laid down -/
def yLD (g : zH) (e : zEv) (sb : Nat → Bool) : Prop := zLT g e sb ∧ yCU g e sb (fun _ => 3 ^ e.1)
theorem layDown_r {h : zH} {e : zEv} {sb : Nat → Bool} (he : zEok e) (hre : zRE h e) (hs : zRS h e.2.1 sb) : zw (f_Mod_layDown h) fun g => zfm [(350, 357, 0, 9999)] h g ∧ yLD g e sb := by
  unfold f_Mod_layDown
  refine zw_bi (layTests_r he hre hs) ?_
  rintro g1 ⟨q1, q2, q3⟩
  refine zw_bi (layCubes_r he (hre.fr q1 (fun o k h1 h2 => by
      unfold zin
      simp
      omega)) (hs.fr q1 (fun _ => rfl)) (fun f hf => (q2 f hf).2.2) q3) ?_
  rintro g2 ⟨q4, q5⟩
  refine zw_some ⟨(q1.sub rfl).tr q4 rfl, fun f hf => ?_, q5⟩
  obtain ⟨t1, t2, t3⟩ := q2 f hf
  exact ⟨fun r hr => (q4.i (by rfl)).trans (t1 r hr), (q4.i (by rfl)).trans t2, (q4.i (by rfl)).trans t3⟩
