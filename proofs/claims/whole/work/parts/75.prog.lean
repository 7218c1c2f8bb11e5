/-! ===== the program, by itself ===== -/
def ycb (N : yN) (f i : Nat) : Nat := ydg (yI N) (ybs (yE N) (ySb N) f (3 ^ yI N) - 1) i
def yag (n : Nat) (m c : Nat → Nat) : Bool := !zex (fun i => m i != 2 && c i != 2 && m i != c i) n
def ymg (N : yN) (O : Nat → Bool) : Nat → (Nat → Nat) × Nat
  | 0 => (fun _ => 2, 0)
  | g + 1 => if O g && yag (yI N) (ymg N O g).1 (ycb N g) then (fun i => if (ymg N O g).1 i = 2 then ycb N g i else (ymg N O g).1 i, (ymg N O g).2 + 1) else ymg N O g
/-- the first that is set, from the last of so many cells on -/
def yfs (N : yN) (m : Nat → Nat) (c : Nat) : Nat → Nat
  | 0 => 0
  | j + 1 => if m (yCl N c (yCn N c - 1 - j)) = 2 then yfs N m c j else m (yCl N c (yCn N c - 1 - j))
def yfv (N : yN) (m : Nat → Nat) (c : Nat) : Nat → Nat
  | 0 => if m (yCl N c 0) = 2 then yfs N m c (yCn N c) else m (yCl N c 0)
  | k + 1 => if m (yCl N c (k + 1)) = 2 then yfv N m c k else m (yCl N c (k + 1))
def yps (N : yN) (c i : Nat) : Nat → Nat
  | 0 => 0
  | n + 1 => if yCl N c n = i then n else yps N c i n
def yfl (N : yN) (m : Nat → Nat) (fl i : Nat) : Nat := if fl = 2 ∧ yCo N i ≠ 0 then yfv N m (yCo N i - 1) (yps N (yCo N i - 1) i (yCn N (yCo N i - 1))) else if m i = 2 then fl % 2 else m i
def yrn (b : Nat → Nat) : Nat → Nat
  | 0 => 0
  | n + 1 => yrn b n + b n * 2 ^ n
def ypr (N : yN) (fl : Nat) (O : Nat → Bool) : Nat := yrn (yfl N (ymg N O (2 * yLs N)).1 fl) (yI N)
def yO (N : yN) (dn : Nat → Bool) (fl : Nat) : Nat → Nat → Bool
  | 0, f => decide (f < 2 * yLs N) && (decide (0 < zct (yE N) (ySb N) f (2 ^ yI N)) && !dn f)
  | t + 1, f => yO N dn fl t f && !zcg (yE N) (ySb N) (zrw (ypr N fl (yO N dn fl t))) (f + 1)
def ypt (N : yN) (dn : Nat → Bool) (fl t : Nat) : Nat := ypr N fl (yO N dn fl t)
def ypc (N : yN) (dn : Nat → Bool) (fl t : Nat) : Nat := fb_ct (fun f => yO N dn fl t f && zcg (yE N) (ySb N) (zrw (ypt N dn fl t)) (f + 1)) (2 * yLs N)
def ypm (N : yN) (dn : Nat → Bool) (fl t : Nat) : Nat := (ymg N (yO N dn fl t) (2 * yLs N)).2
/-- how many patterns -/
def ypz (N : yN) (dn : Nat → Bool) (fl : Nat) : Nat := fb_ct (fun t => zex (yO N dn fl t) (2 * yLs N)) 45
theorem yrn_lt {b : Nat → Nat} : ∀ {n : Nat}, (∀ i, i < n → b i < 2) → yrn b n < 2 ^ n
  | 0, _ => by
    unfold yrn
    decide
  | n + 1, h => by
    unfold yrn
    have h1 := yrn_lt (n := n) (fun i hi => h i (by omega))
    have h2 := h n (by omega)
    rw [Nat.pow_succ]
    rcases (by omega : b n = 0 ∨ b n = 1) with c | c <;> rw [c] <;> omega
theorem yrn_bit {b : Nat → Nat} : ∀ {n : Nat}, (∀ i, i < n → b i < 2) → ∀ i, (yrn b n).testBit i = (decide (i < n) && (b i == 1))
  | 0, _, i => by
    unfold yrn
    simp
  | n + 1, h, i => by
    unfold yrn
    have h1 := yrn_lt (n := n) (fun i hi => h i (by omega))
    have h2 := h n (by omega)
    rw [Nat.add_comm, Nat.mul_comm, Nat.testBit_two_pow_mul_add _ h1, yrn_bit (fun i hi => h i (by omega))]
    by_cases hlt : i < n
    · simp [hlt, show i < n + 1 by omega]
    · rw [if_neg hlt]
      by_cases hin : i = n
      · subst hin
        rcases (by omega : b i = 0 ∨ b i = 1) with c | c <;> rw [c] <;> simp
      · have : (b n).testBit (i - n) = false := by
          obtain ⟨j, hj⟩ : ∃ j, i - n = j + 1 := ⟨i - n - 1, by omega⟩
          rw [hj, Nat.testBit_succ]
          rw [Nat.div_eq_of_lt (by omega)]
          simp
        rw [this]
        simp [show ¬ i < n + 1 by omega]
theorem zrw_bit {r i : Nat} : (zrw r i == 1) = r.testBit i := by
  unfold zrw
  rw [Nat.testBit_eq_decide_div_mod_eq]
  rcases Nat.mod_two_eq_zero_or_one (r / 2 ^ i) with h | h <;> rw [h] <;> rfl
theorem yrn_zrw {b : Nat → Nat} {n i : Nat} (h : ∀ i, i < n → b i < 2) (hi : i < n) : zrw (yrn b n) i = b i := by
  have h1 := zrw_bit (r := yrn b n) (i := i)
  rw [yrn_bit h] at h1
  have h2 := h i hi
  have h3 := zrw_lt (r := yrn b n) (i := i)
  rcases (by omega : b i = 0 ∨ b i = 1) with c | c <;> rcases (by omega : zrw (yrn b n) i = 0 ∨ zrw (yrn b n) i = 1) with d | d <;> rw [c, d] at h1 ⊢ <;> simp [hi] at h1
/-! what merged rows are -/
theorem ycb_le {N : yN} {f i : Nat} : ycb N f i ≤ 2 := ydg_le
theorem ymg_le {N : yN} {O : Nat → Bool} : ∀ {g i : Nat}, (ymg N O g).1 i ≤ 2
  | 0, i => Nat.le_refl 2
  | g + 1, i => by
    unfold ymg
    split
    · dsimp only
      split
      · exact ycb_le
      · exact ymg_le
    · exact ymg_le
theorem yfs_lt {N : yN} {m : Nat → Nat} {c : Nat} (hm : ∀ i, m i ≤ 2) : ∀ j, yfs N m c j < 2
  | 0 => by
    unfold yfs
    omega
  | j + 1 => by
    unfold yfs
    have := hm (yCl N c (yCn N c - 1 - j))
    split
    · exact yfs_lt hm j
    · omega
theorem yfv_lt {N : yN} {m : Nat → Nat} {c : Nat} (hm : ∀ i, m i ≤ 2) : ∀ k, yfv N m c k < 2
  | 0 => by
    unfold yfv
    have := hm (yCl N c 0)
    split
    · exact yfs_lt hm _
    · omega
  | k + 1 => by
    unfold yfv
    have := hm (yCl N c (k + 1))
    split
    · exact yfv_lt hm k
    · omega
theorem yfl_lt {N : yN} {m : Nat → Nat} {fl i : Nat} (hm : ∀ i, m i ≤ 2) : yfl N m fl i < 2 := by
  unfold yfl
  have := hm i
  split
  · exact yfv_lt hm _
  · split <;> omega
theorem ypr_lt {N : yN} {fl : Nat} {O : Nat → Bool} : ypr N fl O < 2 ^ yI N := yrn_lt fun i _ => yfl_lt fun _ => ymg_le
theorem yps_at {N : yN} {c k : Nat} : ∀ {n : Nat}, k < n → (∀ j, j < n → yCl N c j = yCl N c k → j = k) → yps N c (yCl N c k) n = k
  | 0, h, _ => by omega
  | n + 1, h, hi => by
    unfold yps
    split
    · exact hi n (by omega) (by assumption)
    · by_cases hkn : k = n
      · subst hkn
        exact absurd rfl (by assumption)
      · exact yps_at (by omega) (fun j hj e => hi j (by omega) e)
theorem yfl_cell {N : yN} {m : Nat → Nat} {c k : Nat} (hn : yOKn N) (hc : c < yNc N) (hk : k < yCn N c) : yfl N m 2 (yCl N c k) = yfv N m c k := by
  obtain ⟨-, -, -, n4, -⟩ := hn
  obtain ⟨-, -, c3, c4, -⟩ := n4 c hc
  unfold yfl
  rw [(c3 k hk).2, if_pos ⟨rfl, by omega⟩, Nat.add_sub_cancel, yps_at hk (fun j hj e => c4 j k hj hk e)]
theorem yfl_pin {N : yN} {m : Nat → Nat} {fl i : Nat} (h : ¬ (fl = 2 ∧ yCo N i ≠ 0)) : yfl N m fl i = if m i = 2 then fl % 2 else m i := by
  unfold yfl
  rw [if_neg h]
theorem yfv_set {N : yN} {m : Nat → Nat} {c k : Nat} (h : m (yCl N c k) ≠ 2) : yfv N m c k = m (yCl N c k) := by
  cases k with
  | zero =>
    unfold yfv
    rw [if_neg h]
  | succ k =>
    unfold yfv
    rw [if_neg h]
/-! more inputs set: what was 0 or 1 stays -/
def ymt (v w : Nat) : Bool := v == 2 || w == v
theorem zjn_mon_all : ((List.range 6).all fun k => (List.range 4).all fun m => m == 0 || (List.range 3).all fun a => (List.range 3).all fun b => (List.range 3).all fun c => (List.range 3).all fun a' => !ymt a a' || (List.range 3).all fun b' => !ymt b b' || (List.range 3).all fun c' => !ymt c c' || ymt (zjn k m (yw3 a b c)) (zjn k m (yw3 a' b' c'))) = true := by decide +kernel
theorem zjn_mon {k m : Nat} {v w : Nat → Nat} (hk : k ≤ 5) (h1 : 1 ≤ m) (h3 : m ≤ 3) (hv : ∀ i, i < m → v i ≤ 2 ∧ w i ≤ 2 ∧ (v i = 2 ∨ w i = v i)) : zjn k m v = 2 ∨ zjn k m w = zjn k m v := by
  have e : ∀ u : Nat → Nat, ∀ i, i < m → u i = yw3 (if 0 < m then u 0 else 0) (if 1 < m then u 1 else 0) (if 2 < m then u 2 else 0) i := by
    intro u i hi
    unfold yw3
    rcases (by omega : i = 0 ∨ i = 1 ∨ i = 2) with rfl | rfl | rfl <;> simp [hi]
  have b : ∀ j, (if j < m then v j else 0) < 3 ∧ (if j < m then w j else 0) < 3 ∧ ymt (if j < m then v j else 0) (if j < m then w j else 0) = true := by
    intro j
    by_cases hj : j < m
    · obtain ⟨a1, a2, a3⟩ := hv j hj
      rw [if_pos hj, if_pos hj]
      refine ⟨by omega, by omega, ?_⟩
      unfold ymt
      simp
      exact a3
    · rw [if_neg hj, if_neg hj]
      exact ⟨by omega, by omega, rfl⟩
  rw [zjn_congr h1 (e v), zjn_congr h1 (e w)]
  have h := List.all_eq_true.mp zjn_mon_all k (List.mem_range.mpr (by omega))
  have h := List.all_eq_true.mp h m (List.mem_range.mpr (by omega))
  rw [Bool.or_eq_true] at h
  rcases h with h | h
  · simp at h
    omega
  have h := List.all_eq_true.mp h _ (List.mem_range.mpr (b 0).1)
  have h := List.all_eq_true.mp h _ (List.mem_range.mpr (b 1).1)
  have h := List.all_eq_true.mp h _ (List.mem_range.mpr (b 2).1)
  have h := List.all_eq_true.mp h _ (List.mem_range.mpr (b 0).2.1)
  rw [(b 0).2.2, Bool.not_true, Bool.false_or] at h
  have h := List.all_eq_true.mp h _ (List.mem_range.mpr (b 1).2.1)
  rw [(b 1).2.2, Bool.not_true, Bool.false_or] at h
  have h := List.all_eq_true.mp h _ (List.mem_range.mpr (b 2).2.1)
  rw [(b 2).2.2, Bool.not_true, Bool.false_or] at h
  unfold ymt at h
  simpa using h
theorem zvl_mon {e : zEv} {inp inp' : Nat → Nat} {f : Nat} (he : zEok e) (hi : ∀ i, i < e.1 → inp i ≤ 2 ∧ inp' i ≤ 2 ∧ (inp i = 2 ∨ inp' i = inp i)) : ∀ (n l : Nat), l < n → l < e.2.1 → zvl e inp f l = 2 ∨ zvl e inp' f l = zvl e inp f l
  | 0, l, h, _ => by omega
  | n + 1, l, h, hl => by
    rw [zvl_eq he hl, zvl_eq he hl]
    by_cases hst : f ≠ 0 ∧ l = (f - 1) / 2
    · rw [if_pos hst, if_pos hst]
      exact Or.inr rfl
    · rw [if_neg hst, if_neg hst]
      by_cases h1 : l < e.1
      · rw [if_pos h1, if_pos h1]
        exact (hi l h1).2.2
      · rw [if_neg h1, if_neg h1]
        obtain ⟨-, -, -, e4⟩ := id he
        obtain ⟨k1, k2, k3, k4, k5⟩ := e4 l (by omega) hl
        refine zjn_mon k1 k2 k3 (fun i hi2 => ?_)
        have hlt := k5 i hi2
        exact ⟨zvl_le he (fun i h1 => (hi i h1).1) _ _ (Nat.lt_succ_self _) (by omega), zvl_le he (fun i h1 => (hi i h1).2.1) _ _ (Nat.lt_succ_self _) (by omega), zvl_mon he hi n _ (by omega) (by omega)⟩
theorem zcg_mon {e : zEv} {sb : Nat → Bool} {inp inp' : Nat → Nat} {f : Nat} (he : zEok e) (hi : ∀ i, i < e.1 → inp i ≤ 2 ∧ inp' i ≤ 2 ∧ (inp i = 2 ∨ inp' i = inp i)) (h : zcg e sb inp f = true) : zcg e sb inp' f = true := by
  unfold zcg at h ⊢
  rw [zex_iff] at h ⊢
  obtain ⟨l, hl, hp⟩ := h
  refine ⟨l, hl, ?_⟩
  unfold zcl1 at hp ⊢
  simp at hp ⊢
  obtain ⟨a, b, c, d⟩ := hp
  have m1 := zvl_mon (f := f) he hi _ l (Nat.lt_succ_self l) hl
  have m2 := zvl_mon (f := 0) he hi _ l (Nat.lt_succ_self l) hl
  have e1 : zvl e inp' f l = zvl e inp f l := by omega
  have e2 : zvl e inp' 0 l = zvl e inp 0 l := by omega
  rw [e1, e2]
  exact ⟨a, b, c, d⟩
/-! a fault that isn't lost has a cube -/
def yqr (r : Nat) : Nat → Nat
  | 0 => 0
  | n + 1 => yqr r n * 3 + zrw r n
theorem yqr_lt {r : Nat} : ∀ n, yqr r n < 3 ^ n
  | 0 => by
    unfold yqr
    decide
  | n + 1 => by
    unfold yqr
    have := yqr_lt (r := r) n
    have := zrw_lt (r := r) (i := n)
    rw [Nat.pow_succ]
    omega
theorem yqr_dg {r : Nat} : ∀ n i, i < n → ydg n (yqr r n) i = zrw r i
  | 0, i, h => by omega
  | n + 1, i, h => by
    have hz := zrw_lt (r := r) (i := n)
    unfold ydg
    by_cases hin : i = n
    · subst hin
      rw [show i + 1 - 1 - i = 0 by omega, Nat.pow_zero, Nat.div_one]
      unfold yqr
      omega
    · have ih := yqr_dg (r := r) n i (by omega)
      unfold ydg at ih
      rw [show n + 1 - 1 - i = (n - 1 - i) + 1 by omega, Nat.pow_succ, Nat.mul_comm, ← Nat.div_div_eq_div_mul]
      have : yqr r (n + 1) / 3 = yqr r n := by
        rw [yqr]
        omega
      rw [this, ih]
theorem zcg_inp {e : zEv} {sb : Nat → Bool} {inp inp' : Nat → Nat} {f : Nat} (he : zEok e) (hi : ∀ i, i < e.1 → inp i = inp' i) : zcg e sb inp f = zcg e sb inp' f := by
  unfold zcg
  refine zex_cong (fun l hl => ?_)
  unfold zcl1
  rw [zvl_inp he hi _ l (Nat.lt_succ_self l) hl, zvl_inp he hi _ l (Nat.lt_succ_self l) hl]
theorem ybs_pos {e : zEv} {sb : Nat → Bool} {f q : Nat} (hc : zcg e sb (ydg e.1 q) (f + 1) = true) : ∀ n, q < n → ybs e sb f n ≠ 0
  | 0, h => by omega
  | n + 1, h => by
    rw [ybs]
    split
    · omega
    · by_cases hqn : q = n
      · subst hqn
        rename_i hneg
        intro h0
        exact hneg ⟨hc, Or.inl h0⟩
      · exact ybs_pos hc n (by omega)
theorem ybs_cg {e : zEv} {sb : Nat → Bool} {f : Nat} : ∀ n, ybs e sb f n ≠ 0 → zcg e sb (ydg e.1 (ybs e sb f n - 1)) (f + 1) = true
  | 0, h => absurd rfl h
  | n + 1, h => by
    rw [ybs] at h ⊢
    by_cases hc : zcg e sb (ydg e.1 n) (f + 1) = true ∧ (ybs e sb f n = 0 ∨ ysz e.1 n < ysz e.1 (ybs e sb f n - 1))
    · rw [if_pos hc]
      exact hc.1
    · rw [if_neg hc] at h ⊢
      exact ybs_cg n h
theorem ybs_found {e : zEv} {sb : Nat → Bool} {f : Nat} (he : zEok e) (h : 0 < zct e sb f (2 ^ e.1)) : ybs e sb f (3 ^ e.1) ≠ 0 := by
  obtain ⟨r, hr, hp⟩ := fb_ct_pos.mp h
  refine ybs_pos (q := yqr r e.1) ?_ _ (yqr_lt _)
  rw [zcg_inp he (fun i hi => yqr_dg e.1 i hi)]
  exact hp
/-! each pattern catches the first fault that is open -/
theorem ymg_none {N : yN} {O : Nat → Bool} : ∀ g, (∀ j, j < g → O j = false) → ymg N O g = (fun _ => 2, 0)
  | 0, _ => rfl
  | g + 1, h => by
    rw [ymg, h g (by omega), Bool.false_and, if_neg (by simp)]
    exact ymg_none g (fun j hj => h j (by omega))
theorem ymg_keep {N : yN} {O : Nat → Bool} {i v : Nat} (hv : v ≠ 2) {g : Nat} (hg : (ymg N O g).1 i = v) : ∀ n, (ymg N O (g + n)).1 i = v
  | 0 => hg
  | n + 1 => by
    rw [show g + (n + 1) = g + n + 1 by omega, ymg]
    have ih := ymg_keep hv hg n
    split
    · dsimp only
      rw [ih, if_neg hv]
    · exact ih
theorem ypr_first {N : yN} {fl f : Nat} {O : Nat → Bool} (hn : yOKn N) (hf : f < 2 * yLs N) (hO : O f = true) (hlow : ∀ j, j < f → O j = false) (hfd : 0 < zct (yE N) (ySb N) f (2 ^ yI N)) : zcg (yE N) (ySb N) (zrw (ypr N fl O)) (f + 1) = true := by
  obtain ⟨he, -, -, n4, n5, -⟩ := id hn
  have hb := ybs_cg (sb := ySb N) (f := f) (3 ^ yI N) (ybs_found he hfd)
  have m1 : (ymg N O (f + 1)).1 = ycb N f := by
    rw [ymg, ymg_none f hlow, hO, if_pos]
    · funext i
      simp
    · rw [Bool.true_and]
      unfold yag
      rw [zex_no.mpr (fun i _ => by simp)]
      rfl
  have m2 : ∀ i, ycb N f i = 2 ∨ (ymg N O (2 * yLs N)).1 i = ycb N f i := by
    intro i
    by_cases h2 : ycb N f i = 2
    · exact Or.inl h2
    · have := ymg_keep h2 (g := f + 1) (by rw [m1]) (2 * yLs N - (f + 1))
      rw [show f + 1 + (2 * yLs N - (f + 1)) = 2 * yLs N by omega] at this
      exact Or.inr this
  refine zcg_mon he (fun i hi => ⟨ydg_le, zrw_le, ?_⟩) hb
  unfold ypr
  rw [yrn_zrw (fun i _ => yfl_lt fun _ => ymg_le) hi]
  rcases m2 i with h | h
  · exact Or.inl h
  · by_cases h2 : ycb N f i = 2
    · exact Or.inl h2
    · refine Or.inr ?_
      have hne : (ymg N O (2 * yLs N)).1 i ≠ 2 := by rw [h]; exact h2
      show yfl N _ fl i = ycb N f i
      by_cases hch : fl = 2 ∧ yCo N i ≠ 0
      · obtain ⟨h3, h4⟩ := hch
        subst h3
        have hci := (n5 i hi).1
        obtain ⟨-, -, -, -, c5, -⟩ := n4 (yCo N i - 1) (by omega)
        obtain ⟨k, hk1, hk2⟩ := c5 i hi (by omega)
        have h5 := yfl_cell (m := (ymg N O (2 * yLs N)).1) hn (c := yCo N i - 1) (by omega) hk1
        rw [hk2] at h5
        rw [h5, yfv_set (by rw [hk2]; exact hne), hk2, h]
      · rw [yfl_pin hch, if_neg hne, h]
/-! how many patterns there are -/
theorem yO_sub {N : yN} {dn : Nat → Bool} {fl f : Nat} : ∀ (n t : Nat), yO N dn fl (t + n) f = true → yO N dn fl t f = true
  | 0, t, h => h
  | n + 1, t, h => by
    rw [show t + (n + 1) = t + n + 1 by omega, yO, Bool.and_eq_true] at h
    exact yO_sub n t h.1
theorem yO_lt {N : yN} {dn : Nat → Bool} {fl t f : Nat} (h : yO N dn fl t f = true) : f < 2 * yLs N ∧ 0 < zct (yE N) (ySb N) f (2 ^ yI N) := by
  have := yO_sub t 0 (by rw [Nat.zero_add]; exact h)
  rw [yO] at this
  simp at this
  exact ⟨this.1, this.2.1⟩
theorem yO_count {N : yN} {dn : Nat → Bool} {fl : Nat} (hn : yOKn N) (t : Nat) (h : zex (yO N dn fl t) (2 * yLs N) = true) : fb_ct (yO N dn fl (t + 1)) (2 * yLs N) < fb_ct (yO N dn fl t) (2 * yLs N) := by
  rw [zex_iff] at h
  obtain ⟨f, ⟨hf, hO⟩, hlow⟩ : ∃ f, (f < 2 * yLs N ∧ yO N dn fl t f = true) ∧ ∀ j, j < f → yO N dn fl t j = false := by
    obtain ⟨k, hk, hp⟩ := h
    have : ∀ n, (∃ f, f < n ∧ yO N dn fl t f = true) → ∃ f, (f < n ∧ yO N dn fl t f = true) ∧ ∀ j, j < f → yO N dn fl t j = false := by
      intro n
      induction n with
      | zero => rintro ⟨f, h, -⟩; omega
      | succ n ih =>
        rintro ⟨f, hf, hp⟩
        by_cases hex : ∃ f, f < n ∧ yO N dn fl t f = true
        · obtain ⟨g, ⟨g1, g2⟩, g3⟩ := ih hex
          exact ⟨g, ⟨by omega, g2⟩, g3⟩
        · refine ⟨f, ⟨hf, hp⟩, fun j hj => ?_⟩
          cases hz : yO N dn fl t j
          · rfl
          · exact absurd ⟨j, by omega, hz⟩ hex
    exact this _ ⟨k, hk, hp⟩
  have hc := ypr_first (fl := fl) hn hf hO hlow (yO_lt hO).2
  have h1 : fb_ct (fun k => if k = f then false else yO N dn fl t k) (2 * yLs N) + (if yO N dn fl t f then 1 else 0) = fb_ct (yO N dn fl t) (2 * yLs N) + (if false then 1 else 0) := fb_ct_upd _ _ hf
  rw [hO] at h1
  have h2 : fb_ct (yO N dn fl (t + 1)) (2 * yLs N) ≤ fb_ct (fun k => if k = f then false else yO N dn fl t k) (2 * yLs N) := by
    refine fb_ct_sub (fun k hk hp => ?_)
    rw [yO, Bool.and_eq_true] at hp
    by_cases hkf : k = f
    · subst hkf
      rw [hc] at hp
      simp at hp
    · rw [if_neg hkf]
      exact hp.1
  rw [if_pos rfl, if_neg (by decide)] at h1
  omega
theorem yO_bound {N : yN} {dn : Nat → Bool} {fl : Nat} (hn : yOKn N) : ∀ s, (∀ t, t < s → zex (yO N dn fl t) (2 * yLs N) = true) → fb_ct (yO N dn fl s) (2 * yLs N) + s ≤ 2 * yLs N
  | 0, _ => fb_ct_le _ _
  | s + 1, h => by
    have ih := yO_bound hn s (fun t ht => h t (by omega))
    have := yO_count hn s (h s (by omega))
    omega
theorem ypz_eq {N : yN} {dn : Nat → Bool} {fl s : Nat} (hn : yOKn N) (h1 : ∀ t, t < s → zex (yO N dn fl t) (2 * yLs N) = true) (h2 : zex (yO N dn fl s) (2 * yLs N) = false) : ypz N dn fl = s := by
  obtain ⟨⟨e1, e2, e3, e4⟩, -⟩ := id hn
  have hb := yO_bound hn s h1
  have e2' : yLs N ≤ yI N + 16 := e3
  have e1' : yI N ≤ 6 := e1
  unfold ypz
  rw [fb_ext (n := s) (by omega) (fun k k1 k2 => ?_)]
  · exact fb_ct_all.mpr h1
  · rw [zex_no] at h2 ⊢
    intro f hf
    cases hz : yO N dn fl k f
    · rfl
    · have := yO_sub (k - s) s (by rw [show s + (k - s) = k by omega]; exact hz)
      rw [h2 f hf] at this
      cases this
