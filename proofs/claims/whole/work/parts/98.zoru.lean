/-! ===== order: all rows of the same cells, one behind another ===== -/
def gstp (n x : Nat) : Nat := genc (gcut n (gnx n (gdec x)))
def gsq (n x : Nat) : Nat → Nat
  | 0 => x
  | t + 1 => gstp n (gsq n x t)
theorem gsq_f {n x : Nat} : ∀ t, gsq n x (t + 1) = gsq n (gstp n x) t
  | 0 => rfl
  | t + 1 => by
    rw [gsq, gsq_f t]
    rfl
theorem gend_T {n : Nat} : ∀ t x, gend n t x = true → ∃ T, T < t ∧ gfa (gdec (gsq n x T)) (n - 1) = 0 ∧ ∀ j, j < T → gfa (gdec (gsq n x j)) (n - 1) ≠ 0
  | 0, x, h => by cases h
  | t + 1, x, h => by
    unfold gend at h
    by_cases h0 : gfa (gdec x) (n - 1) = 0
    · exact ⟨0, by omega, h0, fun j hj => absurd hj (Nat.not_lt_zero j)⟩
    · rw [if_neg h0] at h
      obtain ⟨T, a, b, c⟩ := gend_T t _ h
      refine ⟨T + 1, by omega, by rw [gsq_f]; exact b, fun j hj => ?_⟩
      cases j with
      | zero => exact h0
      | succ j =>
        rw [gsq_f]
        exact c j (by omega)
theorem gdec_lt {x i : Nat} : gdec x i < 8 := Nat.mod_lt _ (by decide)
theorem gdec_enc {u : Nat → Nat} (h : ∀ i, i < 6 → u i < 8) {i : Nat} (hi : i < 6) : gdec (genc u) i = u i := by
  have h0 := h 0 (by omega)
  have h1 := h 1 (by omega)
  have h2 := h 2 (by omega)
  have h3 := h 3 (by omega)
  have h4 := h 4 (by omega)
  have h5 := h 5 (by omega)
  unfold gdec genc
  rcases (by omega : i = 0 ∨ i = 1 ∨ i = 2 ∨ i = 3 ∨ i = 4 ∨ i = 5) with rfl | rfl | rfl | rfl | rfl | rfl <;> omega
theorem gsw_lt {x a b i : Nat} : gsw (gdec x) a b i < 8 := by
  unfold gsw
  split
  · exact gdec_lt
  · split <;> exact gdec_lt
theorem gnx_lt {n x i : Nat} : gnx n (gdec x) i < 8 := by
  unfold gnx
  split <;> exact gsw_lt
theorem gdec_cut {n i : Nat} {u : Nat → Nat} (hn : n ≤ 6) (hu : ∀ i, i < n → u i < 8) (hi : i < n) : gdec (genc (gcut n u)) i = u i := by
  rw [gdec_enc (fun j _ => ?_) (by omega)]
  · unfold gcut
    rw [if_pos hi]
  · unfold gcut
    by_cases h : j < n
    · rw [if_pos h]
      exact hu j h
    · rw [if_neg h]
      omega
theorem gdec_st {n x i : Nat} (hn : n ≤ 6) (hi : i < n) : gdec (gstp n x) i = gnx n (gdec x) i := gdec_cut hn (fun _ _ => gnx_lt) hi
theorem gnth_cong {p q : Nat → Bool} : ∀ {m i : Nat}, (∀ k, k < m → p k = q k) → gnth p m i = gnth q m i
  | 0, _, _ => rfl
  | m + 1, i, h => by
    unfold gnth
    rw [fb_ct_cong (fun k hk => h k (by omega)), gnth_cong (fun k hk => h k (by omega))]
theorem gq6_at (q : Nat → Bool) : ∀ k, k < 6 → q k = gq6 (q 0) (q 1) (q 2) (q 3) (q 4) (q 5) k := by
  intro k hk
  rcases (by omega : k = 0 ∨ k = 1 ∨ k = 2 ∨ k = 3 ∨ k = 4 ∨ k = 5) with rfl | rfl | rfl | rfl | rfl | rfl <;> rfl
/-- the first row: cells by their numbers -/
def gx0 (q : Nat → Bool) : Nat := genc (gcut (fb_ct q 6) (gnth q 6))
theorem gend_q (q : Nat → Bool) : gend (fb_ct q 6) 720 (gx0 q) = true := by
  have h := gend_all (q 0) (q 1) (q 2) (q 3) (q 4) (q 5)
  have e1 : fb_ct (gq6 (q 0) (q 1) (q 2) (q 3) (q 4) (q 5)) 6 = fb_ct q 6 := (fb_ct_cong (gq6_at q)).symm
  have e2 : gnth (gq6 (q 0) (q 1) (q 2) (q 3) (q 4) (q 5)) 6 = gnth q 6 := funext fun i => (gnth_cong (gq6_at q)).symm
  rw [e1, e2] at h
  exact h
theorem gx0_at {q : Nat → Bool} {i : Nat} (hi : i < fb_ct q 6) : gdec (gx0 q) i = gnth q 6 i :=
  gdec_cut (fb_ct_le q 6) (fun j hj => by have := (gnth_ok hj).1; omega) hi
theorem gfa_le {s : Nat → Nat} : ∀ m, gfa s m ≤ m
  | 0 => Nat.le_refl 0
  | m + 1 => by
    unfold gfa
    have := gfa_le (s := s) m
    split <;> omega
theorem gge_le {s : Nat → Nat} {k : Nat} : ∀ d, k ≤ gge s k d ∧ gge s k d ≤ k + d
  | 0 => ⟨Nat.le_refl _, Nat.le_refl _⟩
  | d + 1 => by
    unfold gge
    have := gge_le (s := s) (k := k) d
    split <;> omega
theorem gsw_in {s : Nat → Nat} {n m a b : Nat} (hs : ∀ i, i < n → s i < m) (ha : a < n) (hb : b < n) {i : Nat} (hi : i < n) : gsw s a b i < m := by
  unfold gsw
  split
  · exact hs a ha
  · split
    · exact hs b hb
    · exact hs i hi
theorem gnx_in {s : Nat → Nat} {n m : Nat} (hs : ∀ i, i < n → s i < m) (h0 : gfa s (n - 1) ≠ 0) {i : Nat} (hi : i < n) : gnx n s i < m := by
  have h1 := gfa_le (s := s) (n - 1)
  have h2 := gge_le (s := s) (k := gfa s (n - 1) - 1) (n - gfa s (n - 1))
  unfold gnx
  split
  · exact gsw_in hs (by omega) (by omega) (by omega)
  · exact gsw_in hs (by omega) (by omega) hi
theorem gsq_in {n m x : Nat} (hn : n ≤ 6) (hs : ∀ i, i < n → gdec x i < m) : ∀ t, (∀ j, j < t → gfa (gdec (gsq n x j)) (n - 1) ≠ 0) → ∀ i, i < n → gdec (gsq n x t) i < m
  | 0, _, i, hi => hs i hi
  | t + 1, h, i, hi => by
    rw [gsq, gdec_st hn hi]
    exact gnx_in (gsq_in hn hs t (fun j hj => h j (by omega))) (h t (by omega)) hi
def gco (A : Nat → Nat → Nat) (s : Nat → Nat) : Nat → Nat
  | 0 => 0
  | k + 1 => gco A s k + (if k = 0 then 0 else k * A (s (k - 1)) (s k))
theorem gco_le {A : Nat → Nat → Nat} {s : Nat → Nat} (hA : ∀ a b, A a b ≤ 44) : ∀ k, k ≤ 6 → gco A s k ≤ 264 * k
  | 0, _ => Nat.le_refl 0
  | k + 1, hk => by
    have := gco_le hA k (by omega) (s := s)
    have h2 : k * A (s (k - 1)) (s k) ≤ 6 * 44 := Nat.mul_le_mul (by omega) (hA _ _)
    unfold gco
    split <;> omega
/-- the least cost among the first rows, and the first of those that cost it -/
def gls (A : Nat → Nat → Nat) (n x : Nat) : Nat → Nat × Nat
  | 0 => (gco A (gdec x) n, x)
  | t + 1 => if gco A (gdec (gsq n x (t + 1))) n < (gls A n x t).1 then (gco A (gdec (gsq n x (t + 1))) n, gsq n x (t + 1)) else gls A n x t
theorem gls_le {A : Nat → Nat → Nat} {n x : Nat} (hA : ∀ a b, A a b ≤ 44) (hn : n ≤ 6) : ∀ t, (gls A n x t).1 ≤ 264 * n
  | 0 => gco_le hA n hn
  | t + 1 => by
    unfold gls
    split
    · exact gco_le hA n hn
    · exact gls_le hA hn t
/-! the steps, at the class's row (142) and the reference's (364) -/
def gSw (o : Nat) (h : zH) (a b : Nat) : zH := zsI (zsI h o a (h.1 o b)) o b (h.1 o a)
theorem gSw_at {h : zH} {o a b n i : Nat} {s : Nat → Nat} (hs : ∀ i, i < n → h.1 o i = zJ (s i)) (ha : a < n) (hb : b < n) (hi : i < n) : (gSw o h a b).1 o i = zJ (gsw s a b i) := by
  unfold gSw gsw
  by_cases h1 : i = b
  · subst h1
    rw [zI_eq, if_pos rfl, hs a ha]
  · rw [zI_nk h1, if_neg h1]
    by_cases h2 : i = a
    · subst h2
      rw [zI_eq, if_pos rfl, hs b hb]
    · rw [zI_nk h2, if_neg h2, hs i hi]
theorem gSw_fm {h : zH} {o a b : Nat} (ha : a < 6) (hb : b < 6) : zfm [(o, o, 0, 9999)] h (gSw o h a b) :=
  (zfm.rfl'.I (zin_1 (Nat.le_refl _) (Nat.le_refl _) (Nat.zero_le _) (by omega))).I (zin_1 (Nat.le_refl _) (Nat.le_refl _) (Nat.zero_le _) (by omega))
def gB4 (o : Nat) (h : zH) (v2 : Int32) : Option (Int32 ⊕ Int32) :=
  if v2 < 0 then some (.inr v2) else zg (zb v2 6) <| zg (zb (v2 + 1) 6) <| if h.1 o v2.toNatClampNeg ≤ h.1 o (v2 + 1).toNatClampNeg then some (.inr v2) else some (.inl (v2 + (-1)))
theorem fall_g {o n : Nat} {h : zH} {s : Nat → Nat} (h1 : 1 ≤ n) (hn : n ≤ 6) (hs : ∀ i, i < n → h.1 o i = zJ (s i)) (hb : ∀ i, i < n → s i < 8) : zw (zit zFU (fun v => gB4 o h v) (zJ n - 2)) fun x => x = zfj (gfa s (n - 1)) := by
  refine zw_for (n - 1) (fun j v => v = zfj (n - 1 - j) ∧ gfa s (n - 1) = gfa s (n - 1 - j)) (by omega) ⟨?_, rfl⟩ ?_
  · rcases (by omega : n = 1 ∨ n = 2 ∨ n = 3 ∨ n = 4 ∨ n = 5 ∨ n = 6) with rfl | rfl | rfl | rfl | rfl | rfl <;> rfl
  · rintro j v hj ⟨rfl, he⟩
    unfold gB4
    by_cases hjn : j < n - 1
    · obtain ⟨m, hm⟩ : ∃ m, n - 1 - j = m + 1 := ⟨n - 1 - j - 1, by omega⟩
      rw [hm] at he ⊢
      rw [zfj_s]
      have g0 : ¬ zJ m < 0 := by
        rw [zJ_ltl (n := 0) (by omega) (by decide)]
        exact Nat.not_lt_zero _
      rw [if_neg g0]
      simp (disch := omega) only [zg_tr, zb_t, zJ_lt, zJ_le, zJ_inj, zJ_ltl, zJ_lel, zJ_eql, zJ_llt, zJ_lle, zJ_leq, zJ_m1, zJ_m1r, zJ_nle_m1, zJ_m1lt, zJ_add, zJ_al, zJ_mull, zJ_c, zJ_mlr, zJ_cl, zJ_sub, zJ_subl, zJ_neg, zJ_divl, zreml, zshl_1, zshr_J, zushr_J, zJ_and1, if_pos, if_neg, Option.bind_some, zI_eq, zI_ne, zI_nk, zI_2, zL_1, zL_eq, zL_ne, zL_nk, zL_22, hs m (by omega)]
      have e1 : h.1 o (m + OfNat.ofNat 1) = zJ (s (m + 1)) := hs (m + 1) (by omega)
      have b1 := hb m (by omega)
      have b2 := hb (m + 1) (by omega)
      rw [e1]
      have eg : gfa s (m + 1) = if s m ≤ s (m + 1) then m + 1 else gfa s m := rfl
      rw [eg] at he
      by_cases hc : s m ≤ s (m + 1)
      · rw [if_pos ((zJ_le (by omega) (by omega)).mpr hc)]
        rw [if_pos hc] at he
        exact zw_some (by rw [he]; rfl)
      · rw [if_neg (fun h => hc ((zJ_le (by omega) (by omega)).mp h))]
        rw [if_neg hc] at he
        refine zw_some ⟨hjn, ?_, ?_⟩
        · rw [zfj_dn (by omega), show n - 1 - (j + 1) = m by omega]
        · rw [he, show n - 1 - (j + 1) = m by omega]
    · have e : n - 1 - j = 0 := by omega
      rw [e] at he ⊢
      rw [if_pos (by decide)]
      exact zw_some (by rw [he]; rfl)
theorem greater_c {n k : Nat} {h : zH} {s : Nat → Nat} {v1 : Int32} (hk : k + 2 ≤ n) (hn : n ≤ 6) (hs : ∀ i, i < n → h.1 142 i = zJ (s i)) (hb : ∀ i, i < n → s i < 8) : zw (zit zFU (fun v => f_Program_stepTried_b41 h v1 (zJ k) v) (zJ n - 1)) fun x => x = zJ (gge s k (n - 1 - k)) := by
  refine zw_for (n - 1 - k) (fun j v => v = zJ (n - 1 - j) ∧ gge s k (n - 1 - k) = gge s k (n - 1 - k - j)) (by omega) ⟨zJ_subl (n := 1) (by show 1 ≤ n; omega), rfl⟩ ?_
  rintro j v hj ⟨rfl, he⟩
  unfold f_Program_stepTried_b41
  by_cases hjn : j < n - 1 - k
  · obtain ⟨d, hd⟩ : ∃ d, n - 1 - k - j = d + 1 := ⟨n - 1 - k - j - 1, by omega⟩
    rw [hd] at he
    rw [show n - 1 - j = k + d + 1 by omega]
    have b1 := hb k (by omega)
    have b2 := hb (k + d + 1) (by omega)
    simp (disch := omega) only [zg_tr, zb_t, zJ_lt, zJ_le, zJ_inj, zJ_ltl, zJ_lel, zJ_eql, zJ_llt, zJ_lle, zJ_leq, zJ_m1, zJ_m1r, zJ_nle_m1, zJ_m1lt, zJ_add, zJ_al, zJ_mull, zJ_c, zJ_mlr, zJ_cl, zJ_sub, zJ_subl, zJ_neg, zJ_divl, zreml, zshl_1, zshr_J, zushr_J, zJ_and1, if_pos, if_neg, Option.bind_some, zI_eq, zI_ne, zI_nk, zI_2, zL_1, zL_eq, zL_ne, zL_nk, zL_22, hs k (by omega), hs (k + d + 1) (by omega)]
    have eg : gge s k (d + 1) = if s k ≤ s (k + d + 1) then k + d + 1 else gge s k d := rfl
    rw [eg] at he
    by_cases hc : s k ≤ s (k + d + 1)
    · rw [if_pos hc] at he ⊢
      exact zw_some (by rw [he]; rfl)
    · rw [if_neg hc] at he ⊢
      refine zw_some ⟨hjn, ?_, ?_⟩
      · congr 1
        omega
      · rw [he, show n - 1 - k - (j + 1) = d by omega]
  · have e : n - 1 - k - j = 0 := by omega
    rw [e] at he
    rw [show n - 1 - j = k by omega]
    simp (disch := omega) only [zg_tr, zb_t, zJ_lt, zJ_le, zJ_inj, zJ_ltl, zJ_lel, zJ_eql, zJ_llt, zJ_lle, zJ_leq, zJ_m1, zJ_m1r, zJ_nle_m1, zJ_m1lt, zJ_add, zJ_al, zJ_mull, zJ_c, zJ_mlr, zJ_cl, zJ_sub, zJ_subl, zJ_neg, zJ_divl, zreml, zshl_1, zshr_J, zushr_J, zJ_and1, if_pos, if_neg, Option.bind_some, zI_eq, zI_ne, zI_nk, zI_2, zL_1, zL_eq, zL_ne, zL_nk, zL_22]
    exact zw_some (by rw [he]; rfl)
theorem greater_r {n k : Nat} {h : zH} {s : Nat → Nat} {v1 : Int32} (hk : k + 2 ≤ n) (hn : n ≤ 6) (hs : ∀ i, i < n → h.1 364 i = zJ (s i)) (hb : ∀ i, i < n → s i < 8) : zw (zit zFU (fun v => f_Mod_goOn_b41 h v1 (zJ k) v) (zJ n - 1)) fun x => x = zJ (gge s k (n - 1 - k)) := by
  refine zw_for (n - 1 - k) (fun j v => v = zJ (n - 1 - j) ∧ gge s k (n - 1 - k) = gge s k (n - 1 - k - j)) (by omega) ⟨zJ_subl (n := 1) (by show 1 ≤ n; omega), rfl⟩ ?_
  rintro j v hj ⟨rfl, he⟩
  unfold f_Mod_goOn_b41
  by_cases hjn : j < n - 1 - k
  · obtain ⟨d, hd⟩ : ∃ d, n - 1 - k - j = d + 1 := ⟨n - 1 - k - j - 1, by omega⟩
    rw [hd] at he
    rw [show n - 1 - j = k + d + 1 by omega]
    have b1 := hb k (by omega)
    have b2 := hb (k + d + 1) (by omega)
    simp (disch := omega) only [zg_tr, zb_t, zJ_lt, zJ_le, zJ_inj, zJ_ltl, zJ_lel, zJ_eql, zJ_llt, zJ_lle, zJ_leq, zJ_m1, zJ_m1r, zJ_nle_m1, zJ_m1lt, zJ_add, zJ_al, zJ_mull, zJ_c, zJ_mlr, zJ_cl, zJ_sub, zJ_subl, zJ_neg, zJ_divl, zreml, zshl_1, zshr_J, zushr_J, zJ_and1, if_pos, if_neg, Option.bind_some, zI_eq, zI_ne, zI_nk, zI_2, zL_1, zL_eq, zL_ne, zL_nk, zL_22, hs k (by omega), hs (k + d + 1) (by omega)]
    have eg : gge s k (d + 1) = if s k ≤ s (k + d + 1) then k + d + 1 else gge s k d := rfl
    rw [eg] at he
    by_cases hc : s k ≤ s (k + d + 1)
    · rw [if_pos hc] at he ⊢
      exact zw_some (by rw [he]; rfl)
    · rw [if_neg hc] at he ⊢
      refine zw_some ⟨hjn, ?_, ?_⟩
      · congr 1
        omega
      · rw [he, show n - 1 - k - (j + 1) = d by omega]
  · have e : n - 1 - k - j = 0 := by omega
    rw [e] at he
    rw [show n - 1 - j = k by omega]
    have b1 := hb k (by omega)
    simp (disch := omega) only [zg_tr, zb_t, zJ_lt, zJ_le, zJ_inj, zJ_ltl, zJ_lel, zJ_eql, zJ_llt, zJ_lle, zJ_leq, zJ_m1, zJ_m1r, zJ_nle_m1, zJ_m1lt, zJ_add, zJ_al, zJ_mull, zJ_c, zJ_mlr, zJ_cl, zJ_sub, zJ_subl, zJ_neg, zJ_divl, zreml, zshl_1, zshr_J, zushr_J, zJ_and1, if_pos, if_neg, Option.bind_some, zI_eq, zI_ne, zI_nk, zI_2, zL_1, zL_eq, zL_ne, zL_nk, zL_22, hs k (by omega)]
    exact zw_some (by rw [he]; rfl)
def grv (u : Nat → Nat) (lo hi j : Nat) : Nat → Nat := fun i => if (lo ≤ i ∧ i < lo + j) ∨ (hi < i + j ∧ i ≤ hi) then u (lo + hi - i) else u i
theorem turn_g {o n lo : Nat} {B : Int32 × Int32 × zH → Option ((Int32 × Int32 × zH) ⊕ zH)} {h : zH} {u : Nat → Nat} (hB : ∀ (g : zH) (a b : Nat), a < 6 → b < 6 → B (zJ a, zJ b, g) = if zJ b ≤ zJ a then some (.inr g) else some (.inl (zJ a + 1, zJ b + (-1), gSw o g a b))) (h1 : 1 ≤ lo) (hlo : lo ≤ n - 1) (hn : n ≤ 6) (hs : ∀ i, i < n → h.1 o i = zJ (u i)) : zw (zit zFU B (zJ lo, zJ n - 1, h)) fun g => zfm [(o, o, 0, 9999)] h g ∧ ∀ i, i < n → g.1 o i = zJ (if lo ≤ i ∧ i ≤ n - 1 then u (lo + (n - 1) - i) else u i) := by
  refine zw_for 6 (fun j s => s.1 = zJ (lo + j) ∧ s.2.1 = zJ (n - 1 - j) ∧ lo + j ≤ n - j ∧ zfm [(o, o, 0, 9999)] h s.2.2 ∧ ∀ i, i < n → s.2.2.1 o i = zJ (grv u lo (n - 1) j i)) (by omega) ⟨rfl, zJ_subl (n := 1) (by show 1 ≤ n; omega), by omega, zfm.rfl', fun i hi => ?_⟩ ?_
  · rw [hs i hi]
    unfold grv
    rw [if_neg (by omega)]
  · rintro j ⟨a, b, g⟩ hj ⟨rfl, rfl, hjj, hz, hv⟩
    dsimp only at hz hv ⊢
    rw [hB g _ _ (by omega) (by omega)]
    by_cases hc : n - 1 - j ≤ lo + j
    · rw [if_pos (by rw [zJ_le (by omega) (by omega)]; exact hc)]
      refine zw_some ⟨hz, fun i hi => ?_⟩
      rw [hv i hi]
      congr 1
      unfold grv
      by_cases hin : lo ≤ i ∧ i ≤ n - 1
      · rw [if_pos hin]
        by_cases h2 : (lo ≤ i ∧ i < lo + j) ∨ (n - 1 < i + j ∧ i ≤ n - 1)
        · rw [if_pos h2]
        · rw [if_neg h2]
          congr 1
          omega
      · rw [if_neg hin, if_neg (by omega)]
    · rw [if_neg (by rw [zJ_le (by omega) (by omega)]; exact hc)]
      refine zw_some ⟨by omega, ?_, ?_, by omega, hz.trans (gSw_fm (by omega) (by omega)), fun i hi => ?_⟩
      · rw [zJ_al]
        rfl
      · rw [zJ_neg (n := 1) (by show 1 ≤ n - 1 - j; omega)]
        congr 1
      · dsimp only
        rw [gSw_at hv (by omega) (by omega) hi]
        congr 1
        unfold gsw grv
        by_cases e1 : i = n - 1 - j
        · subst e1
          rw [if_pos rfl, if_neg (by omega), if_pos (by omega)]
          congr 1
          omega
        · rw [if_neg e1]
          by_cases e2 : i = lo + j
          · subst e2
            rw [if_pos rfl, if_neg (by omega), if_pos (by omega)]
            congr 1
            omega
          · rw [if_neg e2]
            by_cases h2 : (lo ≤ i ∧ i < lo + j) ∨ (n - 1 < i + j ∧ i ≤ n - 1)
            · rw [if_pos h2, if_pos (by omega)]
            · rw [if_neg h2, if_neg (by omega)]
theorem swap_c {h : zH} {a b : Nat} (ha : a < 6) (hb : b < 6) : f_Program_swapTried h (zJ a) (zJ b) = some (gSw 142 h a b) := by
  unfold f_Program_swapTried gSw
  simp (disch := omega) only [zg_tr, zb_t, zJ_lt, zJ_le, zJ_inj, zJ_ltl, zJ_lel, zJ_eql, zJ_llt, zJ_lle, zJ_leq, zJ_m1, zJ_m1r, zJ_nle_m1, zJ_m1lt, zJ_add, zJ_al, zJ_mull, zJ_c, zJ_mlr, zJ_cl, zJ_sub, zJ_subl, zJ_neg, zJ_divl, zreml, zshl_1, zshr_J, zushr_J, zJ_and1, if_pos, if_neg, Option.bind_some, zI_eq, zI_ne, zI_nk, zI_2, zL_1, zL_eq, zL_ne, zL_nk, zL_22]
theorem stepTried_c {h : zH} {n : Nat} {s : Nat → Nat} (h1 : 1 ≤ n) (hn : n ≤ 6) (hs : ∀ i, i < n → h.1 142 i = zJ (s i)) (hb : ∀ i, i < n → s i < 8) : zw (f_Program_stepTried h (zJ n)) fun y => (gfa s (n - 1) = 0 ∧ y = (0, h)) ∨ (gfa s (n - 1) ≠ 0 ∧ y.1 = 1 ∧ zfm [(142, 142, 0, 9999)] h y.2 ∧ ∀ i, i < n → y.2.1 142 i = zJ (gnx n s i)) := by
  have f1 := gfa_le (s := s) (n - 1)
  unfold f_Program_stepTried
  refine zw_bi (fall_g (o := 142) h1 hn hs hb) ?_
  rintro x rfl
  by_cases h0 : gfa s (n - 1) = 0
  · rw [h0, if_neg (by decide)]
    exact zw_some (Or.inl ⟨rfl, rfl⟩)
  · obtain ⟨k, hk⟩ : ∃ k, gfa s (n - 1) = k + 1 := ⟨gfa s (n - 1) - 1, by omega⟩
    have g2 := gge_le (s := s) (k := k) (n - 1 - k)
    rw [hk, zfj_s]
    have g0 : (0 : Int32) ≤ zJ k := by
      rw [zJ_lle (n := 0) (by omega) (by decide)]
      exact Nat.zero_le _
    rw [if_pos g0]
    refine zw_bi (greater_c (by omega) hn hs hb) ?_
    rintro x rfl
    rw [swap_c (by omega) (by omega), Option.bind_some, zJ_al]
    refine zw_bi (turn_g (o := 142) (lo := k + 1) (B := fun s : Int32 × Int32 × zH => f_Program_stepTried_b83 s.2.2 s.1 s.2.1) (u := gsw s k (gge s k (n - 1 - k))) ?_ (by omega) (by omega) hn (fun i hi => gSw_at hs (by omega) (by omega) hi)) ?_
    · intro g a b ha hb
      dsimp only
      unfold f_Program_stepTried_b83
      rw [swap_c ha hb, Option.bind_some]
    · rintro g ⟨q, hv⟩
      refine zw_some (Or.inr ⟨by omega, rfl, (gSw_fm (by omega) (by omega)).trans q, fun i hi => ?_⟩)
      dsimp only
      rw [hv i hi]
      unfold gnx
      rw [hk, Nat.add_sub_cancel, show n - (k + 1) = n - 1 - k by omega]
theorem goOn_r {h : zH} {n : Nat} {s : Nat → Nat} (h1 : 1 ≤ n) (hn : n ≤ 6) (hs : ∀ i, i < n → h.1 364 i = zJ (s i)) (hb : ∀ i, i < n → s i < 8) : zw (f_Mod_goOn h (zJ n)) fun y => (gfa s (n - 1) = 0 ∧ y = (0, h)) ∨ (gfa s (n - 1) ≠ 0 ∧ y.1 = 1 ∧ zfm [(364, 364, 0, 9999)] h y.2 ∧ ∀ i, i < n → y.2.1 364 i = zJ (gnx n s i)) := by
  have f1 := gfa_le (s := s) (n - 1)
  unfold f_Mod_goOn
  refine zw_bi (fall_g (o := 364) h1 hn hs hb) ?_
  rintro x rfl
  by_cases h0 : gfa s (n - 1) = 0
  · rw [h0, if_neg (by decide)]
    exact zw_some (Or.inl ⟨rfl, rfl⟩)
  · obtain ⟨k, hk⟩ : ∃ k, gfa s (n - 1) = k + 1 := ⟨gfa s (n - 1) - 1, by omega⟩
    have g2 := gge_le (s := s) (k := k) (n - 1 - k)
    rw [hk, zfj_s]
    have g0 : (0 : Int32) ≤ zJ k := by
      rw [zJ_lle (n := 0) (by omega) (by decide)]
      exact Nat.zero_le _
    rw [if_pos g0]
    refine zw_bi (greater_r (by omega) hn hs hb) ?_
    rintro x rfl
    rw [zb_t (by omega) (by omega), zb_t (by omega) (by omega), zg_tr, zg_tr, zg_tr, Option.bind_some, zg_tr, Option.bind_some, zJ_c (by omega), zJ_c (by omega), zJ_al]
    refine zw_bi (turn_g (o := 364) (h := gSw 364 h k (gge s k (n - 1 - k))) (lo := k + 1) (B := fun s : Int32 × Int32 × zH => f_Mod_goOn_b100 s.2.2 s.1 s.2.1) (u := gsw s k (gge s k (n - 1 - k))) ?_ (by omega) (by omega) hn (fun i hi => gSw_at hs (by omega) (by omega) hi)) ?_
    · intro g a b ha hb
      dsimp only
      unfold f_Mod_goOn_b100
      rw [zb_t ha (by omega), zb_t hb (by omega), zg_tr, zg_tr, zg_tr, Option.bind_some, zg_tr, Option.bind_some, zJ_c (by omega), zJ_c (by omega)]
      rfl
    · rintro g ⟨q, hv⟩
      refine zw_some (Or.inr ⟨by omega, rfl, (gSw_fm (by omega) (by omega)).trans q, fun i hi => ?_⟩)
      dsimp only
      rw [hv i hi]
      unfold gnx
      rw [hk, Nat.add_sub_cancel, show n - (k + 1) = n - 1 - k by omega]
