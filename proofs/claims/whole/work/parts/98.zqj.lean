/-! ===== the reference's draft ===== -/
def grL (h : zH) (D : gD) (l : Nat) : Prop := h.1 345 (22 + l) = zJ (dLn D l) ∧ (∀ i, i < dLn D l → h.1 346 (6 * (22 + l) + i) = zJ (dNm D l i)) ∧ h.1 340 (22 + l) = zJ ((dT D l).toNat + 2 * (dK D l).toNat)
def grG (h : zH) (D : gD) (l : Nat) : Prop := (l < dI D → h.1 337 (22 + l) = -1 ∧ h.1 338 (22 + l) = 0) ∧ (dI D ≤ l → h.1 337 (22 + l) = zJ (dkd D l) ∧ h.1 338 (22 + l) = zJ (dmn D l) ∧ ∀ i, i < dmn D l → h.1 339 (3 * (22 + l) + i) = zJ (dfr D l i))
def grD (h : zH) (D : gD) (C L : Nat) : Prop := h.1 336 5 = zJ (dI D) ∧ h.1 336 6 = zJ (dL D - dI D) ∧ h.1 336 7 = zJ C ∧ h.1 336 8 = zJ (dFl D) ∧ h.1 336 9 = zbI (dF D) ∧ (∀ l, l < L → grL h D l) ∧ (∀ l, l < dL D → grG h D l) ∧ (∀ c, c < dNc D → h.1 343 (3 + c) = zJ (dCn D c) ∧ ∀ k, k < dCn D c → h.1 344 (6 * (3 + c) + k) = zJ (dCl D c k)) ∧ ∀ i, i < dI D → h.1 341 (6 + i) = zfj (dCo D i) ∧ h.1 342 (6 + i) = zfj (dTk D i)
theorem grL.fr {h h' : zH} {D : gD} {l : Nat} (hr : grL h D l) (hz : gNok (dLn D l) (dNm D l)) (hd : ∀ a k, (a = 345 ∨ a = 340) → k = 22 + l → h'.1 a k = h.1 a k) (hd2 : ∀ k, 6 * (22 + l) ≤ k → k < 6 * (22 + l) + 6 → h'.1 346 k = h.1 346 k) : grL h' D l := by
  obtain ⟨h1, h2, h3⟩ := hr
  refine ⟨(hd _ _ (Or.inl rfl) rfl).trans h1, fun i hi => ?_, (hd _ _ (Or.inr rfl) rfl).trans h3⟩
  have := hz.2.1
  rw [hd2 _ (by omega) (by omega)]
  exact h2 i hi
theorem grG.fr {h h' : zH} {D : gD} {l : Nat} (hr : grG h D l) (hm : dI D ≤ l → dmn D l ≤ 3) (hd : ∀ a k, (a = 337 ∨ a = 338) → k = 22 + l → h'.1 a k = h.1 a k) (hd2 : ∀ k, 3 * (22 + l) ≤ k → k < 3 * (22 + l) + 3 → h'.1 339 k = h.1 339 k) : grG h' D l := by
  obtain ⟨h1, h2⟩ := hr
  refine ⟨fun hi => ?_, fun hi => ?_⟩
  · rw [hd _ _ (Or.inl rfl) rfl, hd _ _ (Or.inr rfl) rfl]
    exact h1 hi
  · rw [hd _ _ (Or.inl rfl) rfl, hd _ _ (Or.inr rfl) rfl]
    obtain ⟨a, b, c⟩ := h2 hi
    refine ⟨a, b, fun i hii => ?_⟩
    have := hm hi
    rw [hd2 _ (by omega) (by omega)]
    exact c i hii
theorem grD.fr {L : List (Nat × Nat × Nat × Nat)} {h h' : zH} {D : gD} {C n : Nat} (hr : grD h D C n) (q : zfm L h h') (hd : ∀ a k, 336 ≤ a → a ≤ 346 → zin L a k = false) : grD h' D C n := by
  unfold grD grL grG at hr ⊢
  rw [q.ir (fun k => hd 336 k (by omega) (by omega)), q.ir (fun k => hd 337 k (by omega) (by omega)), q.ir (fun k => hd 338 k (by omega) (by omega)), q.ir (fun k => hd 339 k (by omega) (by omega)), q.ir (fun k => hd 340 k (by omega) (by omega)), q.ir (fun k => hd 341 k (by omega) (by omega)), q.ir (fun k => hd 342 k (by omega) (by omega)), q.ir (fun k => hd 343 k (by omega) (by omega)), q.ir (fun k => hd 344 k (by omega) (by omega)), q.ir (fun k => hd 345 k (by omega) (by omega)), q.ir (fun k => hd 346 k (by omega) (by omega))]
  exact hr
/-- what the reference's reading writes -/
def gFq : List (Nat × Nat × Nat × Nat) := [(333, 333, 18, 18), (333, 333, 20, 25), (336, 336, 5, 9), (337, 338, 22, 9999), (339, 339, 66, 9999), (340, 340, 22, 9999), (341, 342, 6, 9999), (343, 343, 3, 9999), (344, 344, 18, 9999), (345, 345, 22, 9999), (346, 346, 132, 9999)]
theorem gFq_in {a k : Nat} (h : (a = 333 ∧ (k = 18 ∨ (20 ≤ k ∧ k ≤ 25))) ∨ (a = 336 ∧ 5 ≤ k ∧ k ≤ 9) ∨ (k ≤ 9999 ∧ (((a = 337 ∨ a = 338 ∨ a = 340 ∨ a = 345) ∧ 22 ≤ k) ∨ (a = 339 ∧ 66 ≤ k) ∨ ((a = 341 ∨ a = 342) ∧ 6 ≤ k) ∨ (a = 343 ∧ 3 ≤ k) ∨ (a = 344 ∧ 18 ≤ k) ∨ (a = 346 ∧ 132 ≤ k)))) : zin gFq a k = true := by
  rcases h with ⟨rfl, h | h⟩ | ⟨rfl, h⟩ | ⟨h9, ⟨rfl | rfl | rfl | rfl, h⟩ | ⟨rfl, h⟩ | ⟨rfl | rfl, h⟩ | ⟨rfl, h⟩ | ⟨rfl, h⟩ | ⟨rfl, h⟩⟩
  · exact zin_1 (by omega) (by omega) (by omega) (by omega)
  · exact zin_2 (zin_1 (by omega) (by omega) (by omega) (by omega))
  · exact zin_2 (zin_2 (zin_1 (by omega) (by omega) (by omega) (by omega)))
  · exact zin_2 (zin_2 (zin_2 (zin_1 (by omega) (by omega) (by omega) (by omega))))
  · exact zin_2 (zin_2 (zin_2 (zin_1 (by omega) (by omega) (by omega) (by omega))))
  · exact zin_2 (zin_2 (zin_2 (zin_2 (zin_2 (zin_1 (by omega) (by omega) (by omega) (by omega))))))
  · exact zin_2 (zin_2 (zin_2 (zin_2 (zin_2 (zin_2 (zin_2 (zin_2 (zin_2 (zin_1 (by omega) (by omega) (by omega) (by omega))))))))))
  · exact zin_2 (zin_2 (zin_2 (zin_2 (zin_1 (by omega) (by omega) (by omega) (by omega)))))
  · exact zin_2 (zin_2 (zin_2 (zin_2 (zin_2 (zin_2 (zin_1 (by omega) (by omega) (by omega) (by omega)))))))
  · exact zin_2 (zin_2 (zin_2 (zin_2 (zin_2 (zin_2 (zin_1 (by omega) (by omega) (by omega) (by omega)))))))
  · exact zin_2 (zin_2 (zin_2 (zin_2 (zin_2 (zin_2 (zin_2 (zin_1 (by omega) (by omega) (by omega) (by omega))))))))
  · exact zin_2 (zin_2 (zin_2 (zin_2 (zin_2 (zin_2 (zin_2 (zin_2 (zin_1 (by omega) (by omega) (by omega) (by omega)))))))))
  · exact zin_2 (zin_2 (zin_2 (zin_2 (zin_2 (zin_2 (zin_2 (zin_2 (zin_2 (zin_2 (zin_1 (by omega) (by omega) (by omega) (by omega)))))))))))
theorem gFq_no {a k : Nat} (h : ¬ ((a = 333 ∧ (k = 18 ∨ (20 ≤ k ∧ k ≤ 25))) ∨ (a = 336 ∧ 5 ≤ k ∧ k ≤ 9) ∨ (((a = 337 ∨ a = 338 ∨ a = 340 ∨ a = 345) ∧ 22 ≤ k) ∨ (a = 339 ∧ 66 ≤ k) ∨ ((a = 341 ∨ a = 342) ∧ 6 ≤ k) ∨ (a = 343 ∧ 3 ≤ k) ∨ (a = 344 ∧ 18 ≤ k) ∨ (a = 346 ∧ 132 ≤ k)))) : zin gFq a k = false := by
  cases hz : zin gFq a k
  · rfl
  · exfalso
    apply h
    unfold zin gFq at hz
    simp only [List.any_cons, List.any_nil, Bool.or_false, Bool.or_eq_true, Bool.and_eq_true, Nat.ble_eq] at hz
    rcases hz with hz | hz | hz | hz | hz | hz | hz | hz | hz | hz | hz
    · exact Or.inl ⟨by omega, by omega⟩
    · exact Or.inl ⟨by omega, by omega⟩
    · exact Or.inr (Or.inl (by omega))
    · exact Or.inr (Or.inr (Or.inl ⟨by omega, by omega⟩))
    · exact Or.inr (Or.inr (Or.inr (Or.inl (by omega))))
    · exact Or.inr (Or.inr (Or.inl ⟨by omega, by omega⟩))
    · exact Or.inr (Or.inr (Or.inr (Or.inr (Or.inl (by omega)))))
    · exact Or.inr (Or.inr (Or.inr (Or.inr (Or.inr (Or.inl (by omega))))))
    · exact Or.inr (Or.inr (Or.inr (Or.inr (Or.inr (Or.inr (Or.inl (by omega)))))))
    · exact Or.inr (Or.inr (Or.inl ⟨by omega, by omega⟩))
    · exact Or.inr (Or.inr (Or.inr (Or.inr (Or.inr (Or.inr (Or.inr (by omega)))))))
theorem gFq_t {h h' : zH} (q : zfm [(333, 333, 18, 18), (333, 333, 20, 23)] h h') : zfm gFq h h' := q.sub rfl
theorem grB.q {h h' : zH} {X : gX} (hr : grB h X) (q : zfm gFq h h') : grB h' X := hr.fr q (gFq_no (by omega)) (fun k => gFq_no (by omega))
theorem gbad_fm {h : zH} {c st : Nat} : zfm [(333, 333, 24, 25)] h (gbad h c st) := (zfm.rfl'.I (by rfl)).I (by rfl)
theorem gbad_q {h : zH} {c st : Nat} : zfm gFq h (gbad h c st) := gbad_fm.sub rfl
/-- what went wrong -/
def gBd (g : zH) (e : Nat × Nat) : Prop := g.1 333 24 = zJ e.1 ∧ g.1 333 25 = zJ e.2 ∧ 1 ≤ e.1 ∧ e.1 ≤ 5
theorem gBd_of {h : zH} {c st : Nat} (h1 : 1 ≤ c) (h5 : c ≤ 5) : gBd (gbad h c st) (c, st) := by
  refine ⟨?_, zI_eq, h1, h5⟩
  unfold gbad
  rw [zI_nk (by decide), zI_eq]
theorem gBd.ne {g : zH} {e : Nat × Nat} (h : gBd g e) : g.1 333 24 ≠ 0 := by
  obtain ⟨a, b, c, d⟩ := h
  rw [a]
  intro h
  have := (zJ_inj (b := 0) (by omega) (by omega)).mp h
  omega
/-- all is well: the token at st is at hand -/
def gGd (g : zH) (X : gX) (D : gD) (C L st : Nat) : Prop := grT g X st ∧ g.1 333 24 = 0 ∧ grD g D C L
theorem gGd.stepOn {g : zH} {X : gX} {D : gD} {C L st : Nat} (hX : gOKx X) (hB : grB g X) (hG : gGd g X D C L st) (hst : st ≤ X.1) : zw (f_Mod_stepOn g) fun g' => zfm gFq g g' ∧ gGd g' X D C L (gnt X st) := by
  refine zw_mono (stepOn_r hX hB hst hG.1) ?_
  rintro g' ⟨q, t⟩
  exact ⟨gFq_t q, t, (q.i (by rfl)).trans hG.2.1, hG.2.2.fr q (fun a k h1 h2 => zin_n2 (by omega) (by omega))⟩
theorem grD_N {h : zH} {D : gD} {C L : Nat} (hD : grD h D C L) (hk : gOKd D) : grN h (dL D) L (dLn D) (dNm D) := by
  obtain ⟨a1, a2, a3, a4⟩ := gOK_n hk
  refine ⟨?_, fun l hl => ⟨(hD.2.2.2.2.2.1 l hl).1, (hD.2.2.2.2.2.1 l hl).2.1⟩⟩
  rw [hD.1, hD.2.1, zJ_add, show dI D + (dL D - dI D) = dL D by omega]
theorem named_d {h : zH} {X : gX} {st C L : Nat} {D : gD} (hX : gOKx X) (hB : grB h X) (hst : st ≤ X.1) (hG : gGd h X D C L st) (hL : dL D ≤ L) (hk : gOKd D) (h5 : 5 ≤ gcc X st) (h6 : gsz X st ≤ 6) : f_Mod_named h = some (if gfd X D st < dL D then zJ (gfd X D st) else -1) := by
  obtain ⟨a1, a2, a3, a4⟩ := gOK_n hk
  exact named_r hX hB hst hG.1 h5 h6 (grD_N hG.2.2 hk) (by omega) hL (fun l hl => ⟨(hk.2.1 l hl).2.1, fun i hi => ((hk.2.1 l hl).2.2 i hi).2⟩)
theorem lineNow_bad {h : zH} (h24 : h.1 333 24 ≠ 0) : f_Mod_lineNow h = some (0, h) := by
  unfold f_Mod_lineNow
  rw [wordHere_bad h24, Option.bind_some, if_neg (fun h => h rfl)]
theorem lineNow_r {h : zH} {X : gX} {st C L : Nat} {D : gD} (hX : gOKx X) (hB : grB h X) (hst : st ≤ X.1) (hG : gGd h X D C L st) (hL : dL D ≤ L) (hk : gOKd D) : f_Mod_lineNow h = some (if glC X D st = 0 then (zJ (gfd X D st), h) else (0, gbad h (glC X D st) st)) := by
  have a := gOK_n hk
  unfold f_Mod_lineNow glC
  rw [wordHere_r hX hB hst hG.1 hG.2.1, Option.bind_some]
  by_cases h5 : gcc X st = 5
  · rw [if_pos h5, if_pos h5]
    by_cases h6 : gsz X st ≤ 6
    · rw [if_pos h6, if_pos h6, if_pos (show ¬ (1 : Int32) = 0 by decide), named_d hX hB hst hG hL hk (by omega) h6, Option.bind_some]
      by_cases hf : gfd X D st < dL D
      · unfold f_Mod_lineNow_j24
        rw [if_pos hf, if_pos hf, if_pos (fun h => (zJ_m1 (by omega)).mp h), if_pos (fun h => (zJ_m1 (by omega)).mp h), if_pos rfl]
      · unfold f_Mod_lineNow_j24
        rw [if_neg hf, if_neg hf, if_neg (fun h => h rfl), show (3 : Int32) = zJ 3 from rfl, wrong_r hG.2.1 hG.1.2.2.1, Option.bind_some, if_neg (fun h => h rfl), if_neg (by decide)]
    · rw [if_neg h6, if_neg h6, if_neg (fun h => h rfl), if_neg (by decide)]
  · rw [if_neg h5, if_neg h5, if_neg (fun h => h rfl), if_neg (by decide)]
theorem inputNow_r {h : zH} {X : gX} {st C L : Nat} {D : gD} (hX : gOKx X) (hB : grB h X) (hst : st ≤ X.1) (hG : gGd h X D C L st) (hL : dL D ≤ L) (hk : gOKd D) : f_Mod_inputNow h = some (if giC X D st = 0 then (zJ (gfd X D st), h) else (0, gbad h (giC X D st) st)) := by
  have a := gOK_n hk
  have gl := glC_le (X := X) (D := D) (st := st)
  unfold f_Mod_inputNow f_Mod_inputNow_j27 giC
  rw [lineNow_r hX hB hst hG hL hk, Option.bind_some]
  by_cases h0 : glC X D st = 0
  · obtain ⟨-, -, h3⟩ := glC_no h0
    rw [if_pos h0, if_pos h0]
    dsimp only
    rw [if_neg (fun h => h hG.2.1), hG.2.2.1]
    by_cases h7 : gfd X D st < dI D
    · rw [if_pos (by rw [zJ_lt (by omega) (by omega)]; exact h7), if_pos h7, if_neg (fun h => h hG.2.1), if_pos rfl]
    · have b3 := gbad_24 (h := h) (c := 3) (st := st) (by omega) (by omega)
      rw [if_neg (by rw [zJ_lt (by omega) (by omega)]; exact h7), if_neg h7, show (3 : Int32) = zJ 3 from rfl, wrong_r hG.2.1 hG.1.2.2.1, Option.bind_some, if_pos b3, if_neg (by decide)]
  · have bc := gbad_24 (h := h) (c := glC X D st) (st := st) (by omega) (by omega)
    rw [if_neg h0, if_neg h0, if_neg h0]
    dsimp only
    rw [if_pos bc, if_pos bc]
/-! marks -/
theorem gcc_34 {X : gX} {st : Nat} (h : grc X st = 3) : st < X.1 ∧ (X.2 st = 59 ∧ gcc X st = 3 ∨ X.2 st = 61 ∧ gcc X st = 4) := by
  unfold grc at h
  by_cases h0 : st < X.1
  · rw [if_pos h0] at h
    by_cases h1 : glt X st = true
    · rw [if_pos h1] at h
      omega
    · rw [if_neg h1] at h
      by_cases h2 : gdt X st = true
      · rw [if_pos h2] at h
        omega
      · rw [if_neg h2] at h
        refine ⟨h0, ?_⟩
        unfold gcc
        rw [if_pos h0, if_neg h1, if_neg h2]
        by_cases h3 : X.2 st = 59
        · rw [if_pos h3]
          exact Or.inl ⟨h3, rfl⟩
        · by_cases h4 : X.2 st = 61
          · rw [if_neg h3, if_pos h4]
            exact Or.inr ⟨h4, rfl⟩
          · rw [if_neg (by omega)] at h
            omega
  · rw [if_neg h0] at h
    omega
theorem grc_34 {X : gX} {st : Nat} (h : gcc X st = 3 ∨ gcc X st = 4) : grc X st = 3 := by
  have hw := gwc_rng (ypk (gnm X st) (gsz X st))
  unfold gcc at h
  unfold grc
  by_cases h0 : st < X.1
  · rw [if_pos h0] at h ⊢
    by_cases h1 : glt X st = true
    · rw [if_pos h1] at h
      split at h <;> omega
    · rw [if_neg h1] at h ⊢
      by_cases h2 : gdt X st = true
      · rw [if_pos h2] at h
        omega
      · rw [if_neg h2] at h ⊢
        by_cases h3 : X.2 st = 59
        · rw [if_pos (Or.inl h3)]
        · rw [if_neg h3] at h
          by_cases h4 : X.2 st = 61
          · rw [if_pos (Or.inr h4)]
          · rw [if_neg h4] at h
            omega
  · rw [if_neg h0] at h
    omega
theorem isMarked_bad {h : zH} {v : Int32} (h24 : h.1 333 24 ≠ 0) : f_Mod_isMarked h v = some 0 := by
  unfold f_Mod_isMarked
  rw [if_pos h24]
theorem isMarked_r {h : zH} {X : gX} {st c cc : Nat} (hX : gOKx X) (hB : grB h X) (hst : st ≤ X.1) (hT : grT h X st) (h24 : h.1 333 24 = 0) (hc : c = 59 ∧ cc = 3 ∨ c = 61 ∧ cc = 4) : f_Mod_isMarked h (zJ c) = some (zbI (decide (gcc X st = cc))) := by
  obtain ⟨x1, x2⟩ := id hX
  obtain ⟨t1, t2, t3, t4, t5⟩ := id hT
  have wl := grc_le (X := X) (st := st)
  have k3 : zJ (grc X st) = 3 ↔ grc X st = 3 := zJ_inj (by omega) (by decide)
  unfold f_Mod_isMarked
  rw [if_neg (fun h => h h24), t2]
  by_cases h3 : grc X st = 3
  · obtain ⟨w0, w1⟩ := gcc_34 h3
    have bl := x2 st w0
    rw [if_neg (fun h => h (k3.mpr h3)), t3, zb_t (by omega) (by omega), zg_tr, zJ_c (by omega), hB.2 st w0]
    have kc : zJ (X.2 st) = zJ c ↔ X.2 st = c := zJ_inj (by omega) (by omega)
    by_cases he : X.2 st = c
    · rw [if_neg (fun h => h (kc.mpr he)), decide_eq_true (by omega)]
      rfl
    · rw [if_pos (fun h => he (kc.mp h)), decide_eq_false (by omega)]
      rfl
  · rw [if_pos (fun h => h3 (k3.mp h)), decide_eq_false]
    · rfl
    · intro h
      exact h3 (grc_34 (by omega))
theorem mark_bad {h : zH} {v : Int32} (h24 : h.1 333 24 ≠ 0) : f_Mod_mark h v = some h := by
  unfold f_Mod_mark f_Mod_mark_j20
  rw [if_pos h24, if_pos h24]
theorem mark_r {h : zH} {X : gX} {st c cc C L : Nat} {D : gD} (hX : gOKx X) (hB : grB h X) (hst : st ≤ X.1) (hG : gGd h X D C L st) (hc : c = 59 ∧ cc = 3 ∨ c = 61 ∧ cc = 4) : zw (f_Mod_mark h (zJ c)) fun g => (gcc X st = cc ∧ zfm gFq h g ∧ gGd g X D C L (gnt X st)) ∨ (gcc X st ≠ cc ∧ g = gbad h 1 st) := by
  unfold f_Mod_mark f_Mod_mark_j20
  rw [if_neg (fun h => h hG.2.1), isMarked_r hX hB hst hG.1 hG.2.1 hc, Option.bind_some]
  by_cases h3 : gcc X st = cc
  · rw [decide_eq_true h3, if_pos (by decide), if_neg (fun h => h hG.2.1)]
    refine zw_bi (hG.stepOn hX hB hst) ?_
    rintro g ⟨q, t⟩
    exact zw_some (Or.inl ⟨h3, q, t⟩)
  · have b1 := gbad_24 (h := h) (c := 1) (st := st) (by omega) (by omega)
    rw [decide_eq_false h3, if_neg (by decide), show (1 : Int32) = zJ 1 from rfl, wrong_r hG.2.1 hG.1.2.2.1, Option.bind_some, if_pos b1]
    exact zw_some (Or.inr ⟨h3, rfl⟩)
/-! a name is taken -/
theorem takeName_bad {h : zH} (h24 : h.1 333 24 ≠ 0) : f_Mod_takeName h = some h := by
  unfold f_Mod_takeName f_Mod_takeName_j20
  rw [if_pos h24, if_neg h24]
def gFn (l : Nat) : List (Nat × Nat × Nat × Nat) := [(333, 333, 18, 18), (333, 333, 20, 23), (340, 340, 22 + l, 22 + l), (345, 345, 22 + l, 22 + l), (346, 346, 6 * (22 + l), 6 * (22 + l) + 5)]
theorem gFn_in {a k l : Nat} (h : (a = 333 ∧ (k = 18 ∨ (20 ≤ k ∧ k ≤ 23))) ∨ ((a = 340 ∨ a = 345) ∧ k = 22 + l) ∨ (a = 346 ∧ 6 * (22 + l) ≤ k ∧ k ≤ 6 * (22 + l) + 5)) : zin (gFn l) a k = true := by
  rcases h with ⟨rfl, h | h⟩ | ⟨rfl | rfl, h⟩ | ⟨rfl, h⟩
  · exact zin_1 (by omega) (by omega) (by omega) (by omega)
  · exact zin_2 (zin_1 (by omega) (by omega) (by omega) (by omega))
  · exact zin_2 (zin_2 (zin_1 (by omega) (by omega) (by omega) (by omega)))
  · exact zin_2 (zin_2 (zin_2 (zin_1 (by omega) (by omega) (by omega) (by omega))))
  · exact zin_2 (zin_2 (zin_2 (zin_2 (zin_1 (by omega) (by omega) (by omega) (by omega)))))
theorem gFn_of {a k l : Nat} (hz : zin (gFn l) a k = true) : (a = 333 ∧ (k = 18 ∨ (20 ≤ k ∧ k ≤ 23))) ∨ ((a = 340 ∨ a = 345) ∧ k = 22 + l) ∨ (a = 346 ∧ 6 * (22 + l) ≤ k ∧ k ≤ 6 * (22 + l) + 5) := by
  unfold zin gFn at hz
  simp only [List.any_cons, List.any_nil, Bool.or_false, Bool.or_eq_true, Bool.and_eq_true, Nat.ble_eq] at hz
  rcases hz with hz | hz | hz | hz | hz
  · exact Or.inl ⟨by omega, by omega⟩
  · exact Or.inl ⟨by omega, by omega⟩
  · exact Or.inr (Or.inl ⟨by omega, by omega⟩)
  · exact Or.inr (Or.inl ⟨by omega, by omega⟩)
  · exact Or.inr (Or.inr (by omega))
theorem gFn_no {a k l : Nat} (h : ¬ ((a = 333 ∧ (k = 18 ∨ (20 ≤ k ∧ k ≤ 23))) ∨ ((a = 340 ∨ a = 345) ∧ k = 22 + l) ∨ (a = 346 ∧ 6 * (22 + l) ≤ k ∧ k ≤ 6 * (22 + l) + 5))) : zin (gFn l) a k = false := by
  cases hz : zin (gFn l) a k
  · rfl
  · exact absurd (gFn_of hz) h
theorem gFn_q {h h' : zH} {l : Nat} (hl : l < 22) (q : zfm (gFn l) h h') : zfm gFq h h' := q.sub' (fun a b hab => by
  rcases gFn_of hab with ⟨rfl, h⟩ | ⟨rfl | rfl, h⟩ | ⟨rfl, h⟩
  · exact gFq_in (Or.inl ⟨rfl, by omega⟩)
  · exact gFq_in (Or.inr (Or.inr ⟨by omega, Or.inl ⟨by omega, by omega⟩⟩))
  · exact gFq_in (Or.inr (Or.inr ⟨by omega, Or.inl ⟨by omega, by omega⟩⟩))
  · exact gFq_in (Or.inr (Or.inr ⟨by omega, Or.inr (Or.inr (Or.inr (Or.inr (Or.inr ⟨rfl, by omega⟩))))⟩)))
theorem takeName_r {h : zH} {X : gX} {st C : Nat} {D : gD} (hX : gOKx X) (hB : grB h X) (hst : st ≤ X.1) (hG : gGd h X D C (dL D) st) (hk : gOKd D) (h5 : 5 ≤ gcc X st) (h6 : gsz X st ≤ 6) (hl : dL D < 22) (hf : ¬ gfd X D st < dL D) : zw (f_Mod_takeName h) fun g => zfm gFq h g ∧ zfm (gFn (dL D)) h g ∧ grT g X (gnt X st) ∧ g.1 333 24 = 0 ∧ g.1 345 (22 + dL D) = zJ (gsz X st) ∧ (∀ i, i < gsz X st → g.1 346 (6 * (22 + dL D) + i) = zJ (gnm X st i)) ∧ g.1 340 (22 + dL D) = 0 := by
  obtain ⟨x1, x2⟩ := id hX
  obtain ⟨w0, w1⟩ := gcc_word h5
  obtain ⟨o1, o2⟩ := gnm_ok hX w0 w1
  have sp := gstop_spec hst
  have ez : zJ (gstop X st) - zJ st = zJ (gsz X st) := zJ_sub sp.1
  obtain ⟨t1, t2, t3, t4, t5⟩ := id hG.1
  unfold f_Mod_takeName
  rw [if_neg (fun h => h hG.2.1), named_d hX hB hst hG (Nat.le_refl _) hk h5 h6, if_neg hf, Option.bind_some, if_pos rfl]
  unfold f_Mod_takeName_j20 f_Mod_newLines
  have e22 : (22 : Int32) + zJ (dL D) = zJ (22 + dL D) := zJ_la (n := 22)
  rw [if_pos hG.2.1, (grD_N hG.2.2 hk).1, Option.bind_some, e22, zb_t (by omega) (by omega), zg_tr, t3, t4, ez, zJ_c (by omega), Option.bind_some]
  have q0 : zfm [(345, 346, 22 + dL D, 6 * (22 + dL D) + 5)] h (zsI h 345 (22 + dL D) (zJ (gsz X st))) := zfm.rfl'.I (zin_1 (by omega) (by omega) (by omega) (by omega))
  have c0 : zfm (gFn (dL D)) h (zsI h 345 (22 + dL D) (zJ (gsz X st))) := zfm.rfl'.I (gFn_in (by omega))
  have v0 : (zsI h 345 (22 + dL D) (zJ (gsz X st))).1 345 (22 + dL D) = zJ (gsz X st) := zI_eq
  generalize zsI h 345 (22 + dL D) (zJ (gsz X st)) = h2 at *
  refine zw_bi (P := fun g => zfm [(346, 346, 6 * (22 + dL D), 6 * (22 + dL D) + 5)] h2 g ∧ ∀ i, i < gsz X st → g.1 346 (6 * (22 + dL D) + i) = zJ (gnm X st i)) (zw_for 6 (fun k s => s.1 = zJ k ∧ zfm [(346, 346, 6 * (22 + dL D), 6 * (22 + dL D) + 5)] h2 s.2 ∧ ∀ i, i < k → i < gsz X st → s.2.1 346 (6 * (22 + dL D) + i) = zJ (gnm X st i)) (by omega) ⟨rfl, zfm.rfl', fun i hi => absurd hi (Nat.not_lt_zero i)⟩ ?_) ?_
  · rintro k ⟨a, g⟩ hk ⟨rfl, hz, hv⟩
    dsimp only at hz hv ⊢
    unfold f_Mod_takeName_b53
    by_cases hk6 : k < 6
    · have e6 : (6 : Int32) * zJ (22 + dL D) + zJ k = zJ (6 * (22 + dL D) + k) := by
        rw [show (6 : Int32) = zJ 6 from rfl, zJ_mul, zJ_add]
      have g345 : g.1 345 (22 + dL D) = zJ (gsz X st) := (hz.i (zin_n1 (by omega))).trans v0
      rw [if_neg (by rw [zJ_lle (n := 6) (by omega) (by decide)]; show ¬ 6 ≤ k; omega), zb_t (by omega) (by omega), zg_tr, zJ_c (by omega), g345, e6]
      have put : ∀ v : Int32, (k < gsz X st → v = zJ (gnm X st k)) → zw (f_Mod_takeName_j99 g (zJ (22 + dL D)) (zJ k) v (zJ (6 * (22 + dL D) + k))) (Sum.elim (fun s' => k < 6 ∧ s'.1 = zJ (k + 1) ∧ zfm [(346, 346, 6 * (22 + dL D), 6 * (22 + dL D) + 5)] h2 s'.2 ∧ ∀ i, i < k + 1 → i < gsz X st → s'.2.1 346 (6 * (22 + dL D) + i) = zJ (gnm X st i)) fun g => zfm [(346, 346, 6 * (22 + dL D), 6 * (22 + dL D) + 5)] h2 g ∧ ∀ i, i < gsz X st → g.1 346 (6 * (22 + dL D) + i) = zJ (gnm X st i)) := by
        intro v hvv
        unfold f_Mod_takeName_j99
        rw [zb_t (by omega) (by omega), zg_tr, Option.bind_some, zJ_c (by omega), zJ_al]
        refine zw_some ⟨hk6, rfl, hz.I (zin_1 (by omega) (by omega) (by omega) (by omega)), fun i h1 h2 => ?_⟩
        dsimp only
        by_cases e : i = k
        · subst e
          rw [zI_eq]
          exact hvv h2
        · rw [zI_nk (by omega)]
          exact hv i (by omega) h2
      by_cases hks : k < gsz X st
      · have ok := o1 k hks
        have g22 : g.1 333 22 = zJ st := by
          rw [hz.i (zin_n1 (by omega)), q0.i (zin_n1 (by omega))]
          exact t3
        have g349 : g.1 349 (st + k) = zJ (X.2 (st + k)) := by
          rw [hz.i (zin_n1 (by omega)), q0.i (zin_n1 (by omega))]
          exact hB.2 _ ok.2.2.2.2
        have e97 : zJ (X.2 (st + k)) - 97 + 1 = zJ (gnm X st k) := by
          have s1 : zJ (X.2 (st + k)) - 97 = zJ (X.2 (st + k) - 97) := zJ_subl (n := 97) ok.1
          rw [s1, zJ_al]
          congr 1
          unfold gnm
          show X.2 (st + k) - 97 + 1 = _
          omega
        rw [if_neg (by rw [zJ_le (by omega) (by omega)]; omega), g22, zJ_add, zb_t (by omega) (by omega), zg_tr, zJ_c (by omega), g349, e97]
        exact put _ (fun _ => rfl)
      · rw [if_pos (by rw [zJ_le (by omega) (by omega)]; omega)]
        exact put 0 (fun h => absurd h hks)
    · rw [if_pos (by rw [zJ_lle (n := 6) (by omega) (by decide)]; show 6 ≤ k; omega)]
      exact zw_some ⟨hz, fun i hi => hv i (by omega) hi⟩
  · rintro g ⟨hz, hv⟩
    rw [zg_tr, Option.bind_some]
    have c1 : zfm (gFn (dL D)) h (zsI g 340 (22 + dL D) 0) := (c0.trans (hz.sub' (fun a b hab => gFn_in (by
      unfold zin at hab
      simp only [List.any_cons, List.any_nil, Bool.or_false, Bool.and_eq_true, Nat.ble_eq] at hab
      omega)))).I (gFn_in (by omega))
    have hB1 : grB (zsI g 340 (22 + dL D) 0) X := hB.fr c1 (gFn_no (by omega)) (fun k => gFn_no (by omega))
    have u18 : (zsI g 340 (22 + dL D) 0).1 333 18 = zJ (gstop X st) := by
      rw [zI_ne (by decide), hz.i (zin_n1 (by omega)), q0.i (zin_n1 (by omega))]
      exact t1
    have u24 : (zsI g 340 (22 + dL D) 0).1 333 24 = 0 := by
      rw [c1.i (gFn_no (by omega))]
      exact hG.2.1
    refine zw_bi (stepOn_r' hX hB1 sp.2.1 u18) ?_
    rintro g3 ⟨q3, t3'⟩
    have c3 : zfm (gFn (dL D)) h g3 := c1.trans (q3.sub' (fun a b hab => gFn_in (by
      unfold zin at hab
      simp only [List.any_cons, List.any_nil, Bool.or_false, Bool.or_eq_true, Bool.and_eq_true, Nat.ble_eq] at hab
      omega)))
    have r24 : zfm gFq h g3 := gFn_q hl c3
    refine zw_some ⟨r24, c3, t3', (q3.i (by rfl)).trans u24, ?_, fun i hi => ?_, ?_⟩
    · rw [q3.i (zin_n2 (by omega) (by omega)), zI_ne (by decide), hz.i (zin_n1 (by omega))]
      exact v0
    · rw [q3.i (zin_n2 (by omega) (by omega)), zI_ne (by decide)]
      exact hv i hi
    · rw [q3.i (zin_n2 (by omega) (by omega)), zI_eq]
