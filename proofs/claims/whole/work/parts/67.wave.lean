/-! ===== the class: what lines are by many rows at once ===== -/
def yst (k : Nat) (p q : Bool) (x : Nat) : Bool × Bool := if k = 1 ∨ k = 4 then (p && (x == 1), q || (x == 0)) else if k = 2 ∨ k = 5 then (p || (x == 1), q && (x == 0)) else ((p && (x == 0)) || (q && (x == 1)), (p && (x == 1)) || (q && (x == 0)))
def yfo (k : Nat) (v : Nat → Nat) : Nat → Bool × Bool
  | 0 => (v 0 == 1, v 0 == 0)
  | n + 1 => yst k (yfo k v n).1 (yfo k v n).2 (v (n + 1))
theorem yfo_congr {k : Nat} {v w : Nat → Nat} : ∀ {n : Nat}, (∀ i, i ≤ n → v i = w i) → yfo k v n = yfo k w n
  | 0, h => by
    unfold yfo
    rw [h 0 (by omega)]
  | n + 1, h => by
    unfold yfo
    rw [yfo_congr (fun i hi => h i (by omega)), h (n + 1) (by omega)]
def yw3 (a b c : Nat) : Nat → Nat := fun i => if i = 0 then a else if i = 1 then b else c
def ytn (k : Nat) : Bool := decide (k = 0 ∨ k = 4 ∨ k = 5)
def yfoc (k m : Nat) (v : Nat → Nat) : Bool := ((if ytn k then (yfo k v (m - 1)).2 else (yfo k v (m - 1)).1) == (zjn k m v == 1)) && ((if ytn k then (yfo k v (m - 1)).1 else (yfo k v (m - 1)).2) == (zjn k m v == 0))
theorem yfo_all : ((List.range 6).all fun k => (List.range 4).all fun m => (m == 0 || (k == 0 && m != 1)) || (List.range 3).all fun a => (List.range 3).all fun b => (List.range 3).all fun c => yfoc k m (yw3 a b c)) = true := by decide +kernel
theorem yfo_all' {k m a b c : Nat} (hk : k < 6) (hm : m < 4) (ha : a < 3) (hb : b < 3) (hc : c < 3) (h1 : 1 ≤ m) (h0 : k = 0 → m = 1) : yfoc k m (yw3 a b c) = true := by
  have h := List.all_eq_true.mp yfo_all k (List.mem_range.mpr hk)
  have h := List.all_eq_true.mp h m (List.mem_range.mpr hm)
  rw [Bool.or_eq_true] at h
  rcases h with h | h
  · rw [Bool.or_eq_true] at h
    simp at h
    omega
  · have h := List.all_eq_true.mp h a (List.mem_range.mpr ha)
    have h := List.all_eq_true.mp h b (List.mem_range.mpr hb)
    exact List.all_eq_true.mp h c (List.mem_range.mpr hc)
theorem yfo_fin {k m : Nat} {v : Nat → Nat} (hk : k ≤ 5) (h1 : 1 ≤ m) (h3 : m ≤ 3) (h0 : k = 0 → m = 1) (hv : ∀ i, i < m → v i ≤ 2) : (if ytn k then (yfo k v (m - 1)).2 else (yfo k v (m - 1)).1) = (zjn k m v == 1) ∧ (if ytn k then (yfo k v (m - 1)).1 else (yfo k v (m - 1)).2) = (zjn k m v == 0) := by
  have e : ∀ i, i < m → v i = yw3 (if 0 < m then v 0 else 0) (if 1 < m then v 1 else 0) (if 2 < m then v 2 else 0) i := by
    intro i hi
    unfold yw3
    rcases (by omega : i = 0 ∨ i = 1 ∨ i = 2) with rfl | rfl | rfl <;> simp [hi]
  rw [yfo_congr (n := m - 1) (fun i hi => e i (by omega)), zjn_congr h1 e]
  have b : ∀ j, (if j < m then v j else 0) < 3 := by
    intro j
    split
    · have := hv j (by assumption)
      omega
    · omega
  have h := yfo_all' (by omega) (by omega) (b 0) (b 1) (b 2) h1 h0
  unfold yfoc at h
  rw [Bool.and_eq_true, beq_iff_eq, beq_iff_eq] at h
  exact h
theorem lines_c {h : zH} {o : Nat} {e : zEv} (he : zEok e) (hr : zCE h o e) : f_Net_lines o h = some (zJ e.2.1) := by
  obtain ⟨e1, e2, e3, e4⟩ := he
  unfold f_Net_lines
  simp (disch := omega) only [zg_tr, zb_t, zJ_lt, zJ_le, zJ_inj, zJ_ltl, zJ_lel, zJ_eql, zJ_llt, zJ_lle, zJ_leq, zJ_m1, zJ_m1r, zJ_nle_m1, zJ_m1lt, zJ_add, zJ_al, zJ_mull, zJ_c, zJ_mlr, zJ_cl, zJ_sub, zJ_subl, zJ_neg, zJ_divl, zreml, zshl_1, zshr_J, zushr_J, zJ_and1, if_pos, if_neg, Option.bind_some, zI_eq, zI_ne, zI_nk, zI_2, zL_1, zL_eq, zL_ne, zL_nk, zL_22, hr.1, hr.2.1]
  congr 2
  omega
/-- a line has this value in this row -/
def yBV (h : zH) (o r j x : Nat) : Prop := zBl (h.2.1 (o + 3) j) r = (x == 1) ∧ zBl (h.2.1 (o + 4) j) r = (x == 0)
theorem gate_c {h : zH} {o o1 : Nat} {e : zEv} {l : Nat} (he : zEok e) (hc : zCE h o1 e) (hl : e.1 ≤ l) (hl2 : l < e.2.1) : zw (f_Waves_spreadGate o o1 h (zJ l)) fun h' => zfm [(o + 3, o + 4, 0, 9999)] h h' ∧ (∀ j, j ≠ l → h'.2.1 (o + 3) j = h.2.1 (o + 3) j ∧ h'.2.1 (o + 4) j = h.2.1 (o + 4) j) ∧ ∀ (r : Nat) (v : Nat → Nat), (∀ j, j < l → v j ≤ 2 ∧ yBV h o r j (v j)) → yBV h' o r l (zjn (e.2.2.1 l) (e.2.2.2.1 l) (fun i => v (e.2.2.2.2 l i))) := by
  obtain ⟨e1, e2, e3, e4⟩ := he
  obtain ⟨k1, k2, k3, k4, k5⟩ := e4 l hl hl2
  obtain ⟨-, -, c3⟩ := hc
  obtain ⟨c4, c5, c6⟩ := c3 l hl hl2
  have f0 := c6 0 (by omega)
  have g0 := k5 0 (by omega)
  unfold f_Waves_spreadGate
  simp (disch := omega) only [zg_tr, zb_t, zJ_lt, zJ_le, zJ_inj, zJ_ltl, zJ_lel, zJ_eql, zJ_llt, zJ_lle, zJ_leq, zJ_m1, zJ_m1r, zJ_nle_m1, zJ_m1lt, zJ_add, zJ_al, zJ_mull, zJ_c, zJ_mlr, zJ_cl, zJ_sub, zJ_subl, zJ_neg, zJ_divl, zreml, zshl_1, zshr_J, zushr_J, zJ_and1, if_pos, if_neg, Option.bind_some, zI_eq, zI_ne, zI_nk, zI_2, zL_1, zL_eq, zL_ne, zL_nk, zL_22, c4, f0]
  refine zw_bi (P := fun x => ∀ (r : Nat) (v : Nat → Nat), (∀ j, j < l → v j ≤ 2 ∧ yBV h o r j (v j)) → (zBl x.1 r, zBl x.2 r) = yfo (e.2.2.1 l) (fun i => v (e.2.2.2.2 l i)) (e.2.2.2.1 l - 1)) (zw_fr 1 (e.2.2.2.1 l) (fun k s => s.2.2 = zJ k ∧ 1 ≤ k ∧ ∀ (r : Nat) (v : Nat → Nat), (∀ j, j < l → v j ≤ 2 ∧ yBV h o r j (v j)) → (zBl s.1 r, zBl s.2.1 r) = yfo (e.2.2.1 l) (fun i => v (e.2.2.2.2 l i)) (k - 1)) k2 (by omega) ⟨rfl, Nat.le_refl 1, fun r v hv => ?_⟩ ?_) ?_
  · obtain ⟨v1, v2, v3⟩ := hv _ g0
    rw [v2, v3]
    rfl
  · rintro k ⟨a, b, c⟩ hk ⟨rfl, hk1, hI⟩
    dsimp only at hI ⊢
    unfold f_Waves_spreadGate_b38
    by_cases hkm : k < e.2.2.2.1 l
    · have h1 := c6 k hkm
      have h2 := k5 k hkm
      have stp : ∀ a' b' : Int64, (∀ r, (zBl a' r, zBl b' r) = (if e.2.2.1 l = 1 ∨ e.2.2.1 l = 4 then (zBl a r && zBl (h.2.1 (o + 3) (e.2.2.2.2 l k)) r, zBl b r || zBl (h.2.1 (o + 4) (e.2.2.2.2 l k)) r) else if e.2.2.1 l = 2 ∨ e.2.2.1 l = 5 then (zBl a r || zBl (h.2.1 (o + 3) (e.2.2.2.2 l k)) r, zBl b r && zBl (h.2.1 (o + 4) (e.2.2.2.2 l k)) r) else ((zBl a r && zBl (h.2.1 (o + 4) (e.2.2.2.2 l k)) r) || (zBl b r && zBl (h.2.1 (o + 3) (e.2.2.2.2 l k)) r), (zBl a r && zBl (h.2.1 (o + 3) (e.2.2.2.2 l k)) r) || (zBl b r && zBl (h.2.1 (o + 4) (e.2.2.2.2 l k)) r)))) → ∀ (r : Nat) (v : Nat → Nat), (∀ j, j < l → v j ≤ 2 ∧ yBV h o r j (v j)) → (zBl a' r, zBl b' r) = yfo (e.2.2.1 l) (fun i => v (e.2.2.2.2 l i)) (k + 1 - 1) := by
        intro a' b' hab r v hv
        obtain ⟨v1, v2, v3⟩ := hv _ h2
        have hI := hI r v hv
        obtain ⟨k', rfl⟩ : ∃ k', k = k' + 1 := ⟨k - 1, by omega⟩
        rw [Nat.add_sub_cancel] at hI ⊢
        rw [hab r, v2, v3, yfo, ← hI]
        rfl
      simp (disch := omega) only [zg_tr, zb_t, zJ_lt, zJ_le, zJ_inj, zJ_ltl, zJ_lel, zJ_eql, zJ_llt, zJ_lle, zJ_leq, zJ_m1, zJ_m1r, zJ_nle_m1, zJ_m1lt, zJ_add, zJ_al, zJ_mull, zJ_c, zJ_mlr, zJ_cl, zJ_sub, zJ_subl, zJ_neg, zJ_divl, zreml, zshl_1, zshr_J, zushr_J, zJ_and1, if_pos, if_neg, Option.bind_some, zI_eq, zI_ne, zI_nk, zI_2, zL_1, zL_eq, zL_ne, zL_nk, zL_22, c5, h1, f_Waves_spreadGate_j70, f_Waves_spreadGate_j107]
      have hK0 : e.2.2.1 l ≠ 0 := fun h => by
        have := k4 h
        omega
      rcases (by omega : e.2.2.1 l = 1 ∨ e.2.2.1 l = 2 ∨ e.2.2.1 l = 3 ∨ e.2.2.1 l = 4 ∨ e.2.2.1 l = 5) with hK | hK | hK | hK | hK
      all_goals
        simp (disch := omega) only [if_pos, if_neg]
        refine zw_some ⟨hkm, rfl, by omega, ?_⟩
        dsimp only
        refine stp _ _ (fun r => ?_)
        simp [hK, zBl_and, zBl_or]
    · have : k = e.2.2.2.1 l := by omega
      subst this
      simp (disch := omega) only [zg_tr, zb_t, zJ_lt, zJ_le, zJ_inj, zJ_ltl, zJ_lel, zJ_eql, zJ_llt, zJ_lle, zJ_leq, zJ_m1, zJ_m1r, zJ_nle_m1, zJ_m1lt, zJ_add, zJ_al, zJ_mull, zJ_c, zJ_mlr, zJ_cl, zJ_sub, zJ_subl, zJ_neg, zJ_divl, zreml, zshl_1, zshr_J, zushr_J, zJ_and1, if_pos, if_neg, Option.bind_some, zI_eq, zI_ne, zI_nk, zI_2, zL_1, zL_eq, zL_ne, zL_nk, zL_22, c5]
      exact zw_some hI
  · rintro ⟨a, b⟩ hI
    dsimp only at hI ⊢
    have fin : ∀ A B : Int64, (A, B) = (if ytn (e.2.2.1 l) then (b, a) else (a, b)) → zw (some (zsL (zsL h (o + 3) l A) (o + 4) l B)) fun h' => zfm [(o + 3, o + 4, 0, 9999)] h h' ∧ (∀ j, j ≠ l → h'.2.1 (o + 3) j = h.2.1 (o + 3) j ∧ h'.2.1 (o + 4) j = h.2.1 (o + 4) j) ∧ ∀ (r : Nat) (v : Nat → Nat), (∀ j, j < l → v j ≤ 2 ∧ yBV h o r j (v j)) → yBV h' o r l (zjn (e.2.2.1 l) (e.2.2.2.1 l) (fun i => v (e.2.2.2.2 l i))) := by
      intro A B hAB
      refine zw_some ⟨(zfm.rfl'.Lg (zin_1 (by omega) (by omega) (by omega) (by omega))).Lg (zin_1 (by omega) (by omega) (by omega) (by omega)), fun j hj => ?_, fun r v hv => ?_⟩
      · rw [zL_nk hj, zL_ne (by omega), zL_nk hj, zL_ne (by omega)]
        exact ⟨rfl, rfl⟩
      · have hI := hI r v hv
        have hf := yfo_fin (v := fun i => v (e.2.2.2.2 l i)) k1 k2 k3 k4 (fun i hi => (hv _ (k5 i hi)).1)
        rw [← hI] at hf
        unfold yBV
        rw [zL_eq, zL_ne (by omega), zL_eq, ← hf.1, ← hf.2]
        cases ht : ytn (e.2.2.1 l)
        · rw [ht] at hAB
          cases hAB
          exact ⟨rfl, rfl⟩
        · rw [ht] at hAB
          cases hAB
          exact ⟨rfl, rfl⟩
    simp (disch := omega) only [zg_tr, zb_t, zJ_lt, zJ_le, zJ_inj, zJ_ltl, zJ_lel, zJ_eql, zJ_llt, zJ_lle, zJ_leq, zJ_m1, zJ_m1r, zJ_nle_m1, zJ_m1lt, zJ_add, zJ_al, zJ_mull, zJ_c, zJ_mlr, zJ_cl, zJ_sub, zJ_subl, zJ_neg, zJ_divl, zreml, zshl_1, zshr_J, zushr_J, zJ_and1, if_pos, if_neg, Option.bind_some, zI_eq, zI_ne, zI_nk, zI_2, zL_1, zL_eq, zL_ne, zL_nk, zL_22, f_Waves_spreadGate_j209, f_Waves_spreadGate_j228, f_Waves_spreadGate_j246]
    rcases (by omega : e.2.2.1 l = 0 ∨ e.2.2.1 l = 1 ∨ e.2.2.1 l = 2 ∨ e.2.2.1 l = 3 ∨ e.2.2.1 l = 4 ∨ e.2.2.1 l = 5) with hK | hK | hK | hK | hK | hK
    all_goals
      simp (disch := omega) only [if_pos, if_neg]
      exact fin _ _ (by rw [hK]; rfl)
/-- the inputs by rows -/
def yWv (h : zH) (o : Nat) (e : zEv) (inp : Nat → Nat) (r : Nat) : Prop := ∀ i, i < e.1 → zBl (h.2.1 (o + 1) i) r = (inp i == 1) ∧ zBl (h.2.1 (o + 2) i) r = (inp i == 0) ∧ inp i ≤ 2
theorem spread_c {h : zH} {o o1 f : Nat} {e : zEv} (he : zEok e) (hc : zCE h o1 e) (ho : o1 + 28 ≤ o) (hf : f ≤ 44) : zw (f_Waves_spread o o1 h (zfj f)) fun h' => zfm [(o + 3, o + 4, 0, 9999)] h h' ∧ ∀ (r : Nat) (inp : Nat → Nat), r < 64 → yWv h o e inp r → ∀ l, l < e.2.1 → yBV h' o r l (zvl e inp f l) := by
  obtain ⟨e1, e2, e3, e4⟩ := id he
  have main : ∀ t0 : Int32, (∀ k, k < 22 → (zJ k = t0 ↔ (f ≠ 0 ∧ k = (f - 1) / 2))) → zw (f_Waves_spread_j12 o o1 h (zfj f) t0) fun h' => zfm [(o + 3, o + 4, 0, 9999)] h h' ∧ ∀ (r : Nat) (inp : Nat → Nat), r < 64 → yWv h o e inp r → ∀ l, l < e.2.1 → yBV h' o r l (zvl e inp f l) := by
    intro t0 ht0
    unfold f_Waves_spread_j12
    refine zw_bi (zw_for (Q := fun h' => zfm [(o + 3, o + 4, 0, 9999)] h h' ∧ ∀ (r : Nat) (inp : Nat → Nat), r < 64 → yWv h o e inp r → ∀ l, l < e.2.1 → yBV h' o r l (zvl e inp f l)) e.2.1 (fun k s => s.1 = zJ k ∧ zfm [(o + 3, o + 4, 0, 9999)] h s.2 ∧ ∀ (r : Nat) (inp : Nat → Nat), r < 64 → yWv h o e inp r → ∀ l, l < k → yBV s.2 o r l (zvl e inp f l)) (by omega) ⟨rfl, zfm.rfl', fun r inp _ _ l hl => by omega⟩ ?_) (fun x hx => zw_some hx)
    rintro k ⟨i, g⟩ hk ⟨rfl, hz, hv⟩
    dsimp only at hz hv ⊢
    have hcg : zCE g o1 e := hc.fr he hz (fun a k h1 h2 => zin_n1 (by omega))
    unfold f_Waves_spread_b16
    rw [lines_c he hcg]
    by_cases hkm : k < e.2.1
    · have fin : ∀ g' : zH, zfm [(o + 3, o + 4, 0, 9999)] g g' → (∀ j, j ≠ k → g'.2.1 (o + 3) j = g.2.1 (o + 3) j ∧ g'.2.1 (o + 4) j = g.2.1 (o + 4) j) → (∀ (r : Nat) (inp : Nat → Nat), r < 64 → yWv h o e inp r → yBV g' o r k (zvl e inp f k)) → (Sum.elim (fun s' : Int32 × zH => k < e.2.1 ∧ s'.1 = zJ (k + 1) ∧ zfm [(o + 3, o + 4, 0, 9999)] h s'.2 ∧ ∀ (r : Nat) (inp : Nat → Nat), r < 64 → yWv h o e inp r → ∀ l, l < k + 1 → yBV s'.2 o r l (zvl e inp f l)) (fun h' => zfm [(o + 3, o + 4, 0, 9999)] h h' ∧ ∀ (r : Nat) (inp : Nat → Nat), r < 64 → yWv h o e inp r → ∀ l, l < e.2.1 → yBV h' o r l (zvl e inp f l))) (.inl (zJ (k + 1), g')) := by
        intro g' h1 h2 h3
        refine ⟨hkm, rfl, hz.trans h1, fun r inp hr hw l hl => ?_⟩
        by_cases hlk : l = k
        · subst hlk
          exact h3 r inp hr hw
        · obtain ⟨a1, a2⟩ := h2 l hlk
          dsimp only
          unfold yBV
          rw [a1, a2]
          exact hv r inp hr hw l (by omega)
      have hq : ∀ A B : Int64, zfm [(o + 3, o + 4, 0, 9999)] g (zsL (zsL g (o + 3) k A) (o + 4) k B) ∧ ∀ j, j ≠ k → (zsL (zsL g (o + 3) k A) (o + 4) k B).2.1 (o + 3) j = g.2.1 (o + 3) j ∧ (zsL (zsL g (o + 3) k A) (o + 4) k B).2.1 (o + 4) j = g.2.1 (o + 4) j := by
        intro A B
        refine ⟨(zfm.rfl'.Lg (zin_1 (by omega) (by omega) (by omega) (by omega))).Lg (zin_1 (by omega) (by omega) (by omega) (by omega)), fun j hj => ?_⟩
        rw [zL_nk hj, zL_ne (by omega), zL_nk hj, zL_ne (by omega)]
        exact ⟨rfl, rfl⟩
      have hB : ∀ A B : Int64, ∀ r x, zBl A r = (x == 1) → zBl B r = (x == 0) → yBV (zsL (zsL g (o + 3) k A) (o + 4) k B) o r k x := by
        intro A B r x h1 h2
        unfold yBV
        rw [zL_eq, zL_ne (by omega), zL_eq]
        exact ⟨h1, h2⟩
      simp (disch := omega) only [zg_tr, zb_t, zJ_lt, zJ_le, zJ_inj, zJ_ltl, zJ_lel, zJ_eql, zJ_llt, zJ_lle, zJ_leq, zJ_m1, zJ_m1r, zJ_nle_m1, zJ_m1lt, zJ_add, zJ_al, zJ_mull, zJ_c, zJ_mlr, zJ_cl, zJ_sub, zJ_subl, zJ_neg, zJ_divl, zreml, zshl_1, zshr_J, zushr_J, zJ_and1, if_pos, if_neg, Option.bind_some, zI_eq, zI_ne, zI_nk, zI_2, zL_1, zL_eq, zL_ne, zL_nk, zL_22, hcg.1, ht0 k (by omega)]
      by_cases hst : f ≠ 0 ∧ k = (f - 1) / 2
      · rw [if_neg (fun h => h hst)]
        obtain ⟨f', rfl⟩ : ∃ f', f = f' + 1 := ⟨f - 1, by omega⟩
        have hs2 := hst.2
        rw [Nat.add_sub_cancel] at hs2
        simp (disch := omega) only [zg_tr, zb_t, zJ_lt, zJ_le, zJ_inj, zJ_ltl, zJ_lel, zJ_eql, zJ_llt, zJ_lle, zJ_leq, zJ_m1, zJ_m1r, zJ_nle_m1, zJ_m1lt, zJ_add, zJ_al, zJ_mull, zJ_c, zJ_mlr, zJ_cl, zJ_sub, zJ_subl, zJ_neg, zJ_divl, zreml, zshl_1, zshr_J, zushr_J, zJ_and1, if_pos, if_neg, Option.bind_some, zI_eq, zI_ne, zI_nk, zI_2, zL_1, zL_eq, zL_ne, zL_nk, zL_22, zfj_s, f_Waves_spread_j51]
        by_cases hodd : f' % 2 = 1
        · rw [if_neg (fun h => h hodd)]
          refine zw_some (fin _ (hq _ _).1 (hq _ _).2 (fun r inp hr _ => hB _ _ r _ ?_ ?_))
          · rw [zvl_eq he hkm, if_pos hst, Nat.add_sub_cancel, hodd, zBl_m1 hr]
            rfl
          · rw [zvl_eq he hkm, if_pos hst, Nat.add_sub_cancel, hodd, zBl_xor, zBl_m1 hr]
            rfl
        · rw [if_pos hodd]
          have hev : f' % 2 = 0 := by omega
          refine zw_some (fin _ (hq _ _).1 (hq _ _).2 (fun r inp hr _ => hB _ _ r _ ?_ ?_))
          · rw [zvl_eq he hkm, if_pos hst, Nat.add_sub_cancel, hev, zBl_0]
            rfl
          · rw [zvl_eq he hkm, if_pos hst, Nat.add_sub_cancel, hev, zBl_xor, zBl_m1 hr, zBl_0]
            rfl
      · rw [if_pos hst]
        by_cases hke : k < e.1
        · simp (disch := omega) only [zg_tr, zb_t, zJ_lt, zJ_le, zJ_inj, zJ_ltl, zJ_lel, zJ_eql, zJ_llt, zJ_lle, zJ_leq, zJ_m1, zJ_m1r, zJ_nle_m1, zJ_m1lt, zJ_add, zJ_al, zJ_mull, zJ_c, zJ_mlr, zJ_cl, zJ_sub, zJ_subl, zJ_neg, zJ_divl, zreml, zshl_1, zshr_J, zushr_J, zJ_and1, if_pos, if_neg, Option.bind_some, zI_eq, zI_ne, zI_nk, zI_2, zL_1, zL_eq, zL_ne, zL_nk, zL_22]
          refine zw_some (fin _ (hq _ _).1 (hq _ _).2 (fun r inp hr hw => ?_))
          obtain ⟨w1, w2, w3⟩ := hw k hke
          rw [zvl_eq he hkm, if_neg hst, if_pos hke]
          refine hB _ _ r _ ?_ ?_
          · rw [hz.l (zin_n1 (by omega)), w1]
          · rw [hz.l (zin_n1 (by omega)), w2]
        · simp (disch := omega) only [zg_tr, zb_t, zJ_lt, zJ_le, zJ_inj, zJ_ltl, zJ_lel, zJ_eql, zJ_llt, zJ_lle, zJ_leq, zJ_m1, zJ_m1r, zJ_nle_m1, zJ_m1lt, zJ_add, zJ_al, zJ_mull, zJ_c, zJ_mlr, zJ_cl, zJ_sub, zJ_subl, zJ_neg, zJ_divl, zreml, zshl_1, zshr_J, zushr_J, zJ_and1, if_pos, if_neg, Option.bind_some, zI_eq, zI_ne, zI_nk, zI_2, zL_1, zL_eq, zL_ne, zL_nk, zL_22]
          refine zw_bi (gate_c (o := o) he hcg (by omega) hkm) ?_
          rintro g' ⟨a1, a2, a3⟩
          refine zw_some (fin _ a1 a2 (fun r inp hr hw => ?_))
          rw [zvl_eq he hkm, if_neg hst, if_neg hke]
          exact a3 r (zvl e inp f) (fun j hj => ⟨zvl_le he (fun i h1 => (hw i h1).2.2) _ j (Nat.lt_succ_self j) (by omega), hv r inp hr hw j hj⟩)
    · have : k = e.2.1 := by omega
      subst this
      simp (disch := omega) only [zg_tr, zb_t, zJ_lt, zJ_le, zJ_inj, zJ_ltl, zJ_lel, zJ_eql, zJ_llt, zJ_lle, zJ_leq, zJ_m1, zJ_m1r, zJ_nle_m1, zJ_m1lt, zJ_add, zJ_al, zJ_mull, zJ_c, zJ_mlr, zJ_cl, zJ_sub, zJ_subl, zJ_neg, zJ_divl, zreml, zshl_1, zshr_J, zushr_J, zJ_and1, if_pos, if_neg, Option.bind_some, zI_eq, zI_ne, zI_nk, zI_2, zL_1, zL_eq, zL_ne, zL_nk, zL_22]
      exact zw_some ⟨hz, hv⟩
  unfold f_Waves_spread
  cases f with
  | zero =>
    rw [zfj_0] at main ⊢
    rw [if_neg (fun h => h rfl)]
    exact main (-1) (fun k hk => by simp (disch := omega) only [zg_tr, zb_t, zJ_lt, zJ_le, zJ_inj, zJ_ltl, zJ_lel, zJ_eql, zJ_llt, zJ_lle, zJ_leq, zJ_m1, zJ_m1r, zJ_nle_m1, zJ_m1lt, zJ_add, zJ_al, zJ_mull, zJ_c, zJ_mlr, zJ_cl, zJ_sub, zJ_subl, zJ_neg, zJ_divl, zreml, zshl_1, zshr_J, zushr_J, zJ_and1, if_pos, if_neg, Option.bind_some, zI_eq, zI_ne, zI_nk, zI_2, zL_1, zL_eq, zL_ne, zL_nk, zL_22]; simp)
  | succ f =>
    rw [zfj_s] at main ⊢
    simp (disch := omega) only [zg_tr, zb_t, zJ_lt, zJ_le, zJ_inj, zJ_ltl, zJ_lel, zJ_eql, zJ_llt, zJ_lle, zJ_leq, zJ_m1, zJ_m1r, zJ_nle_m1, zJ_m1lt, zJ_add, zJ_al, zJ_mull, zJ_c, zJ_mlr, zJ_cl, zJ_sub, zJ_subl, zJ_neg, zJ_divl, zreml, zshl_1, zshr_J, zushr_J, zJ_and1, if_pos, if_neg, Option.bind_some, zI_eq, zI_ne, zI_nk, zI_2, zL_1, zL_eq, zL_ne, zL_nk, zL_22]
    simp only [not_false_eq_true, if_true]
    refine main _ (fun k hk => ?_)
    rw [zJ_inj (by omega) (by omega), Nat.add_sub_cancel]
    exact ⟨fun h => ⟨Nat.succ_ne_zero f, h⟩, fun h => h.2⟩
