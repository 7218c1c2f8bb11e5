/-! ===== the class: rows of 0, 1, none set ===== -/
theorem zBi_p2 {m j : Nat} (hj : j < 32) : zBi (zJ (2 ^ m)) j = decide (m = j) := by
  rw [zJ_bit hj, Nat.testBit_two_pow]
def yRT (h : zH) (n N : Nat) : Prop := ∀ q, q < N → ∀ j, j < 32 → zBi (h.1 125 q) j = (decide (j < n) && decide (ydg n q j < 2)) ∧ zBi (h.1 126 q) j = (decide (j < n) && (ydg n q j == 1))
theorem listRow_c {h : zH} {n q : Nat} (hn : n ≤ 6) (hq : q < 729) (h0 : h.1 125 q = 0) (h1 : h.1 126 q = 0) : zw (zit zFU (fun s : Int32 × Int32 × zH => f_Catalog_listCubeRows_b66 s.2.2 (zJ n) (zJ q) s.1 s.2.1) (zJ q, zJ n - 1, h)) fun g => zfm [(125, 126, q, q)] h g ∧ ∀ j, j < 32 → zBi (g.1 125 q) j = (decide (j < n) && decide (ydg n q j < 2)) ∧ zBi (g.1 126 q) j = (decide (j < n) && (ydg n q j == 1)) := by
  have h9 : zJ n - 1 = zfj (n - 0) := by
    rw [Int32.sub_eq_add_neg, zfj_dn (by omega)]
    rfl
  rw [h9]
  refine zw_for n (fun k s => s.1 = zJ (q / 3 ^ k) ∧ s.2.1 = zfj (n - k) ∧ zfm [(125, 126, q, q)] h s.2.2 ∧ ∀ j, j < 32 → zBi (s.2.2.1 125 q) j = (decide (n - k ≤ j) && (decide (j < n) && decide (ydg n q j < 2))) ∧ zBi (s.2.2.1 126 q) j = (decide (n - k ≤ j) && (decide (j < n) && (ydg n q j == 1)))) (by omega) ⟨by simp, rfl, zfm.rfl', fun j hj => ?_⟩ ?_
  · dsimp only
    rw [h0, h1, zBi_0]
    by_cases hjn : j < n
    · simp [hjn, show ¬ n ≤ j by omega]
    · simp [hjn]
  rintro k ⟨a, c, g⟩ hk ⟨rfl, rfl, hz, hv⟩
  dsimp only at hz hv ⊢
  unfold f_Catalog_listCubeRows_b66
  by_cases hkm : k < n
  · obtain ⟨m, hm⟩ : ∃ m, n - k = m + 1 := ⟨n - k - 1, by omega⟩
    have hmk : n - (k + 1) = m := by omega
    have hq3 : q / 3 ^ k < 729 := Nat.lt_of_le_of_lt (Nat.div_le_self _ _) hq
    have hq4 : q / 3 ^ k / 3 = q / 3 ^ (k + 1) := by rw [Nat.div_div_eq_div_mul, Nat.pow_succ]
    have hd : ydg n q m = q / 3 ^ k % 3 := by
      unfold ydg
      rw [show n - 1 - m = k by omega]
    have fin : ∀ A B : Int32, (∀ j, j < 32 → zBi A j = (decide (m = j) && decide (ydg n q m < 2))) → (∀ j, j < 32 → zBi B j = (decide (m = j) && (ydg n q m == 1))) →
        (Sum.elim (fun s' : Int32 × Int32 × zH => k < n ∧ s'.1 = zJ (q / 3 ^ (k + 1)) ∧ s'.2.1 = zfj (n - (k + 1)) ∧ zfm [(125, 126, q, q)] h s'.2.2 ∧ ∀ j, j < 32 → zBi (s'.2.2.1 125 q) j = (decide (n - (k + 1) ≤ j) && (decide (j < n) && decide (ydg n q j < 2))) ∧ zBi (s'.2.2.1 126 q) j = (decide (n - (k + 1) ≤ j) && (decide (j < n) && (ydg n q j == 1)))) (fun g => zfm [(125, 126, q, q)] h g ∧ ∀ j, j < 32 → zBi (g.1 125 q) j = (decide (j < n) && decide (ydg n q j < 2)) ∧ zBi (g.1 126 q) j = (decide (j < n) && (ydg n q j == 1)))) (.inl (zJ (q / 3 ^ (k + 1)), zfj m, zsI (zsI g 125 q (g.1 125 q ||| A)) 126 q (g.1 126 q ||| B))) := by
      intro A B hA hB
      refine ⟨hkm, rfl, by rw [hmk], (hz.I (zin_1 (by omega) (by omega) (by omega) (by omega))).I (zin_1 (by omega) (by omega) (by omega) (by omega)), fun j hj => ?_⟩
      dsimp only
      obtain ⟨v1, v2⟩ := hv j hj
      rw [zI_ne (by omega), zI_eq, zI_eq, zBi_or, zBi_or, v1, v2, hA j hj, hB j hj, hm, hmk]
      by_cases hjm : m = j
      · subst hjm
        simp [show ¬ m + 1 ≤ m by omega, show m < n by omega]
      · by_cases hlt : m + 1 ≤ j
        · simp [hjm, hlt, show m ≤ j by omega]
        · simp [hjm, hlt, show ¬ m ≤ j by omega]
    rw [hm, zfj_s]
    simp (disch := omega) only [zg_tr, zb_t, zJ_lt, zJ_le, zJ_inj, zJ_ltl, zJ_lel, zJ_eql, zJ_llt, zJ_lle, zJ_leq, zJ_m1, zJ_m1r, zJ_nle_m1, zJ_m1lt, zJ_add, zJ_al, zJ_mull, zJ_c, zJ_mlr, zJ_cl, zJ_sub, zJ_subl, zJ_neg, zJ_divl, zreml, zshl_1, zshr_J, zushr_J, zJ_and1, if_pos, if_neg, Option.bind_some, zI_eq, zI_ne, zI_nk, zI_2, zL_1, zL_eq, zL_ne, zL_nk, zL_22, f_Catalog_listCubeRows_j93, f_Catalog_listCubeRows_j117]
    rw [zfj_dn (by omega), hq4]
    have b0 : ∀ j, j < 32 → ∀ b : Bool, b = false → zBi 0 j = (decide (m = j) && b) := fun j hj b hb => by rw [hb, zBi_0, Bool.and_false]
    have b1 : ∀ j, j < 32 → ∀ b : Bool, b = true → zBi (zJ (2 ^ m)) j = (decide (m = j) && b) := fun j hj b hb => by rw [hb, zBi_p2 hj, Bool.and_true]
    rcases (by omega : q / 3 ^ k % 3 = 0 ∨ q / 3 ^ k % 3 = 1 ∨ q / 3 ^ k % 3 = 2) with c | c | c
    · rw [if_pos (by omega), if_pos (by omega)]
      exact zw_some (fin _ _ (fun j hj => b1 j hj _ (by rw [hd, c]; rfl)) (fun j hj => b0 j hj _ (by rw [hd, c]; rfl)))
    · rw [if_pos (by omega), if_neg (by omega)]
      exact zw_some (fin _ _ (fun j hj => b1 j hj _ (by rw [hd, c]; rfl)) (fun j hj => b1 j hj _ (by rw [hd, c]; rfl)))
    · rw [if_neg (by omega)]
      exact zw_some (fin _ _ (fun j hj => b0 j hj _ (by rw [hd, c]; rfl)) (fun j hj => b0 j hj _ (by rw [hd, c]; rfl)))
  · have : k = n := by omega
    subst this
    rw [Nat.sub_self, if_pos ((zfj_lt0 (by omega)).mpr rfl)]
    refine zw_some ⟨hz, fun j hj => ?_⟩
    have := hv j hj
    rw [Nat.sub_self] at this
    simpa using this
theorem listCubeRows_c {h : zH} {n : Nat} (hn : n ≤ 6) : zw (f_Catalog_listCubeRows h (zJ n)) fun g => zfm [(74, 74, 2, 2), (125, 126, 0, 9999)] h g ∧ g.1 74 2 = zJ (3 ^ n) ∧ yRT g n (3 ^ n) := by
  have h729 := zpw3 hn
  unfold f_Catalog_listCubeRows
  rw [Option.bind_some]
  refine zw_bi (P := fun g => zfm [(74, 74, 2, 2)] h g ∧ g.1 74 2 = zJ (3 ^ n)) (zw_for n (fun k s => s.1 = zJ k ∧ zfm [(74, 74, 2, 2)] h s.2 ∧ s.2.1 74 2 = zJ (3 ^ k)) (by omega) ⟨rfl, zfm.rfl'.I (by rfl), zI_eq⟩ ?_) ?_
  · rintro k ⟨i, g⟩ hk ⟨rfl, hz, hv⟩
    dsimp only at hz hv ⊢
    unfold f_Catalog_listCubeRows_b7
    by_cases hkm : k < n
    · simp (disch := omega) only [zg_tr, zb_t, zJ_lt, zJ_le, zJ_inj, zJ_ltl, zJ_lel, zJ_eql, zJ_llt, zJ_lle, zJ_leq, zJ_m1, zJ_m1r, zJ_nle_m1, zJ_m1lt, zJ_add, zJ_al, zJ_mull, zJ_c, zJ_mlr, zJ_cl, zJ_sub, zJ_subl, zJ_neg, zJ_divl, zreml, zshl_1, zshr_J, zushr_J, zJ_and1, if_pos, if_neg, Option.bind_some, zI_eq, zI_ne, zI_nk, zI_2, zL_1, zL_eq, zL_ne, zL_nk, zL_22, hv]
      exact zw_some ⟨hkm, rfl, hz.I (by rfl), by simp (disch := omega) only [zg_tr, zb_t, zJ_lt, zJ_le, zJ_inj, zJ_ltl, zJ_lel, zJ_eql, zJ_llt, zJ_lle, zJ_leq, zJ_m1, zJ_m1r, zJ_nle_m1, zJ_m1lt, zJ_add, zJ_al, zJ_mull, zJ_c, zJ_mlr, zJ_cl, zJ_sub, zJ_subl, zJ_neg, zJ_divl, zreml, zshl_1, zshr_J, zushr_J, zJ_and1, if_pos, if_neg, Option.bind_some, zI_eq, zI_ne, zI_nk, zI_2, zL_1, zL_eq, zL_ne, zL_nk, zL_22]; rw [Nat.pow_succ]⟩
    · have : k = n := by omega
      subst this
      simp (disch := omega) only [zg_tr, zb_t, zJ_lt, zJ_le, zJ_inj, zJ_ltl, zJ_lel, zJ_eql, zJ_llt, zJ_lle, zJ_leq, zJ_m1, zJ_m1r, zJ_nle_m1, zJ_m1lt, zJ_add, zJ_al, zJ_mull, zJ_c, zJ_mlr, zJ_cl, zJ_sub, zJ_subl, zJ_neg, zJ_divl, zreml, zshl_1, zshr_J, zushr_J, zJ_and1, if_pos, if_neg, Option.bind_some, zI_eq, zI_ne, zI_nk, zI_2, zL_1, zL_eq, zL_ne, zL_nk, zL_22]
      exact zw_some ⟨hz, hv⟩
  · rintro g0 ⟨q1, q2⟩
    refine zw_bi (P := fun g => zfm [(74, 74, 2, 2), (125, 126, 0, 9999)] h g ∧ g.1 74 2 = zJ (3 ^ n) ∧ yRT g n (3 ^ n)) (zw_for (3 ^ n) (fun k s => s.1 = zJ k ∧ zfm [(125, 126, 0, 9999)] g0 s.2 ∧ yRT s.2 n k) (by omega) ⟨rfl, zfm.rfl', fun q hq => by omega⟩ ?_) (fun x hx => zw_some hx)
    rintro k ⟨i, g⟩ hk ⟨rfl, hz, hv⟩
    dsimp only at hz hv ⊢
    unfold f_Catalog_listCubeRows_b30
    have r2 : g.1 74 2 = zJ (3 ^ n) := (hz.i (by rfl)).trans q2
    by_cases hkm : k < 3 ^ n
    · simp (disch := omega) only [zg_tr, zb_t, zJ_lt, zJ_le, zJ_inj, zJ_ltl, zJ_lel, zJ_eql, zJ_llt, zJ_lle, zJ_leq, zJ_m1, zJ_m1r, zJ_nle_m1, zJ_m1lt, zJ_add, zJ_al, zJ_mull, zJ_c, zJ_mlr, zJ_cl, zJ_sub, zJ_subl, zJ_neg, zJ_divl, zreml, zshl_1, zshr_J, zushr_J, zJ_and1, if_pos, if_neg, Option.bind_some, zI_eq, zI_ne, zI_nk, zI_2, zL_1, zL_eq, zL_ne, zL_nk, zL_22, r2]
      have q3 : zfm [(125, 126, k, k)] g (zsI (zsI g 125 k 0) 126 k 0) := (zfm.rfl'.I (zin_1 (by omega) (by omega) (by omega) (by omega))).I (zin_1 (by omega) (by omega) (by omega) (by omega))
      refine zw_bi (listRow_c hn (by omega) (by rw [zI_ne (by omega), zI_eq]) zI_eq) ?_
      rintro g2 ⟨q4, q5⟩
      have q6 := q3.trans q4
      have q7 : zfm [(125, 126, 0, 9999)] g g2 := q6.sub' (fun o j hz => by
        unfold zin at hz ⊢
        simp at hz ⊢
        omega)
      refine zw_some ⟨hkm, by simp (disch := omega) only [zg_tr, zb_t, zJ_lt, zJ_le, zJ_inj, zJ_ltl, zJ_lel, zJ_eql, zJ_llt, zJ_lle, zJ_leq, zJ_m1, zJ_m1r, zJ_nle_m1, zJ_m1lt, zJ_add, zJ_al, zJ_mull, zJ_c, zJ_mlr, zJ_cl, zJ_sub, zJ_subl, zJ_neg, zJ_divl, zreml, zshl_1, zshr_J, zushr_J, zJ_and1, if_pos, if_neg, Option.bind_some, zI_eq, zI_ne, zI_nk, zI_2, zL_1, zL_eq, zL_ne, zL_nk, zL_22], hz.trans q7, fun q hq => ?_⟩
      dsimp only
      by_cases hqk : q = k
      · subst hqk
        exact q5
      · rw [q6.i (zin_n1 (by omega)), q6.i (zin_n1 (by omega))]
        exact hv q (by omega)
    · have : k = 3 ^ n := by omega
      subst this
      simp (disch := omega) only [zg_tr, zb_t, zJ_lt, zJ_le, zJ_inj, zJ_ltl, zJ_lel, zJ_eql, zJ_llt, zJ_lle, zJ_leq, zJ_m1, zJ_m1r, zJ_nle_m1, zJ_m1lt, zJ_add, zJ_al, zJ_mull, zJ_c, zJ_mlr, zJ_cl, zJ_sub, zJ_subl, zJ_neg, zJ_divl, zreml, zshl_1, zshr_J, zushr_J, zJ_and1, if_pos, if_neg, Option.bind_some, zI_eq, zI_ne, zI_nk, zI_2, zL_1, zL_eq, zL_ne, zL_nk, zL_22, r2]
      exact zw_some ⟨(q1.sub rfl).tr hz rfl, r2, hv⟩
/-- how many are set -/
theorem fb_rev : ∀ (n : Nat) (p : Nat → Bool), fb_ct (fun j => p (n - 1 - j)) n = fb_ct p n
  | 0, p => rfl
  | n + 1, p => by
    have ih := fb_rev n (fun k => p (k + 1))
    rw [fb_ct_succ, show n + 1 = 1 + n by omega, fb_ct_split p 1 n]
    have e1 : fb_ct (fun j => p (1 + n - 1 - j)) n = fb_ct (fun j => p (n - 1 - j + 1)) n := fb_ct_cong (fun j hj => by rw [show 1 + n - 1 - j = n - 1 - j + 1 by omega])
    have e2 : fb_ct (fun k => p (1 + k)) n = fb_ct (fun k => p (k + 1)) n := fb_ct_cong (fun j hj => by rw [Nat.add_comm])
    have e3 : fb_ct p 1 = if p 0 then 1 else 0 := by
      show 0 + _ = _
      rw [Nat.zero_add]
    rw [e1, e2, ih, show 1 + n - 1 - n = 0 by omega, e3, Nat.add_comm]
theorem fb_ext {p : Nat → Bool} {n m : Nat} (h : n ≤ m) (hp : ∀ k, n ≤ k → k < m → p k = false) : fb_ct p m = fb_ct p n := by
  rw [show m = n + (m - n) by omega, fb_ct_split, fb_ct_zero.mpr (fun k hk => hp (n + k) (by omega) (by omega)), Nat.add_zero]
theorem ysz_ct {n q : Nat} (hn : n ≤ 32) : fb_ct (fun j => decide (j < n) && decide (ydg n q j < 2)) 32 = ysz n q := by
  rw [fb_ext hn (fun k h1 h2 => by simp [show ¬ k < n by omega])]
  unfold ysz
  rw [← fb_rev n (fun j => decide (q / 3 ^ j % 3 < 2))]
  refine fb_ct_cong (fun j hj => ?_)
  unfold ydg
  simp [hj]
theorem rowSize_c {h : zH} {n N q : Nat} (hn : n ≤ 6) (hT : yRT h n N) (hq : q < N) : f_Integer_bitCount (h.1 125 q) = some (zJ (ysz n q)) := by
  rw [bitCount_I, ← ysz_ct (n := n) (by omega)]
  congr 2
  exact fb_ct_cong (fun j hj => (hT q hq j hj).1)
