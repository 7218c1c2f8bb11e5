/-! ===== the class's draft ===== -/
theorem zin_n3 {o k a b c d a' b' c' d' p q r s : Nat} (h : o < a ∨ b < o ∨ k < c ∨ d < k) (h' : o < a' ∨ b' < o ∨ k < c' ∨ d' < k) (h3 : o < p ∨ q < o ∨ k < r ∨ s < k) : zin [(a, b, c, d), (a', b', c', d'), (p, q, r, s)] o k = false := by
  have h1 := zin_n1 h
  have h2 := zin_n1 h'
  have h4 := zin_n1 h3
  unfold zin at h1 h2 h4 ⊢
  simp only [List.any_cons, List.any_nil, Bool.or_false] at h1 h2 h4 ⊢
  rw [h1, h2, h4]
  rfl
def gcL (h : zH) (o : Nat) (D : gD) (l : Nat) : Prop := h.1 (o + 1) l = zJ (ypk (dNm D l) (dLn D l)) ∧ h.1 (o + 2) l = zJ (dLn D l) ∧ (l < dI D → h.1 (o + 3) l = -1 ∧ h.1 (o + 4) l = 0) ∧ (dI D ≤ l → h.1 (o + 3) l = zJ (dkd D l) ∧ h.1 (o + 4) l = zJ (dmn D l) ∧ ∀ i, i < dmn D l → h.1 ((o + 5) + (1 + 1 * l)) i = zJ (dfr D l i))
def gcD (h : zH) (o : Nat) (D : gD) (L : Nat) : Prop := h.1 o 0 = zJ (dI D) ∧ h.1 o 1 = zJ (dL D - dI D) ∧ h.1 o 2 = zJ (dNc D) ∧ h.1 o 3 = zJ (dFl D) ∧ h.1 o 4 = zbI (dF D) ∧ (∀ l, l < 32 → zBi (h.1 o 5) l = dT D l) ∧ (∀ l, l < 32 → zBi (h.1 o 6) l = dK D l) ∧ (∀ l, l < L → gcL h o D l) ∧ (∀ c, c < dNc D → h.1 (o + 34) c = zJ (dCn D c) ∧ ∀ k, k < dCn D c → h.1 ((o + 30) + (1 + 1 * c)) k = zJ (dCl D c k)) ∧ ∀ i, i < dI D → h.1 (o + 28) i = zfj (dCo D i) ∧ h.1 (o + 29) i = zfj (dTk D i)
theorem gcL.fr {h h' : zH} {o : Nat} {D : gD} {l : Nat} (hr : gcL h o D l) (hl : l < 22) (hd : ∀ a k, o + 1 ≤ a → a ≤ o + 27 → (a ≤ o + 4 → k = l) → (o + 5 ≤ a → a = o + 6 + l) → h'.1 a k = h.1 a k) : gcL h' o D l := by
  obtain ⟨h1, h2, h3, h4⟩ := hr
  refine ⟨(hd _ _ (by omega) (by omega) (fun _ => rfl) (fun h => by omega)).trans h1, (hd _ _ (by omega) (by omega) (fun _ => rfl) (fun h => by omega)).trans h2, fun hi => ?_, fun hi => ?_⟩
  · rw [hd (o + 3) l (by omega) (by omega) (fun _ => rfl) (fun h => by omega), hd (o + 4) l (by omega) (by omega) (fun _ => rfl) (fun h => by omega)]
    exact h3 hi
  · rw [hd (o + 3) l (by omega) (by omega) (fun _ => rfl) (fun h => by omega), hd (o + 4) l (by omega) (by omega) (fun _ => rfl) (fun h => by omega)]
    refine ⟨(h4 hi).1, (h4 hi).2.1, fun i hi2 => ?_⟩
    rw [hd ((o + 5) + (1 + 1 * l)) i (by omega) (by omega) (fun h => by omega) (fun _ => by omega)]
    exact (h4 hi).2.2 i hi2
theorem gcD.fr {L : List (Nat × Nat × Nat × Nat)} {h h' : zH} {o n : Nat} {D : gD} (hr : gcD h o D n) (hn : n ≤ 22) (hc : dNc D ≤ 3) (q : zfm L h h') (hd : ∀ a k, o ≤ a → a ≤ o + 34 → zin L a k = false) : gcD h' o D n := by
  obtain ⟨h1, h2, h3, h4, h5, h6, h7, h8, h9, h10⟩ := hr
  have hi : ∀ a k, o ≤ a → a ≤ o + 34 → h'.1 a k = h.1 a k := fun a k l1 l2 => q.i (hd a k l1 l2)
  refine ⟨(hi _ _ (by omega) (by omega)).trans h1, (hi _ _ (by omega) (by omega)).trans h2, (hi _ _ (by omega) (by omega)).trans h3, (hi _ _ (by omega) (by omega)).trans h4, (hi _ _ (by omega) (by omega)).trans h5, ?_, ?_, fun l hl => (h8 l hl).fr (by omega) (fun a k a1 a2 _ _ => hi a k (by omega) (by omega)), fun c hcc => ⟨(hi _ _ (by omega) (by omega)).trans (h9 c hcc).1, fun k hk => (hi _ _ (by omega) (by omega)).trans ((h9 c hcc).2 k hk)⟩, fun i hii => ⟨(hi _ _ (by omega) (by omega)).trans (h10 i hii).1, (hi _ _ (by omega) (by omega)).trans (h10 i hii).2⟩⟩
  · rw [hi o 5 (by omega) (by omega)]
    exact h6
  · rw [hi o 6 (by omega) (by omega)]
    exact h7
theorem gOK_n {D : gD} (h : gOKd D) : dI D ≤ 6 ∧ dI D ≤ dL D ∧ dL D ≤ dI D + 16 ∧ dNc D ≤ 3 := ⟨h.1.1, h.1.2.1, h.1.2.2.1, h.2.2.1⟩
theorem gLines_c {h : zH} {o n : Nat} {D : gD} (hD : gcD h o D n) (hk : gOKd D) : f_Net_lines o h = some (zJ (dL D)) := by
  obtain ⟨a1, a2, a3, a4⟩ := gOK_n hk
  unfold f_Net_lines
  rw [hD.1, hD.2.1, zJ_add, show dI D + (dL D - dI D) = dL D by omega]
theorem ypk_30 {nm : Nat → Nat} {z : Nat} (h : gNok z nm) : ypk nm z < 1073741824 := by
  have h1 := ypk_lt (nm := nm) z (fun i hi => by have := h.2.2 i hi; omega)
  have h2 : 32 ^ z ≤ 32 ^ 6 := Nat.pow_le_pow_right (by decide) h.2.1
  omega
theorem gNok_of {X : gX} {st : Nat} (hX : gOKx X) (h5 : 5 ≤ gcc X st) (h6 : gsz X st ≤ 6) : gNok (gsz X st) (gnm X st) := by
  obtain ⟨w0, w1⟩ := gcc_word h5
  obtain ⟨o1, o2⟩ := gnm_ok hX w0 w1
  exact ⟨o2, h6, fun i hi => by have := o1 i hi; omega⟩
theorem gsame_iff {Ln : Nat → Nat} {Nm : Nat → Nat → Nat} {X : gX} {st l : Nat} (h1 : gNok (Ln l) (Nm l)) (h2 : gNok (gsz X st) (gnm X st)) : ypk (Nm l) (Ln l) = ypk (gnm X st) (gsz X st) ↔ gsame Ln Nm X st l = true := by
  unfold gsame
  rw [Bool.and_eq_true, beq_iff_eq, Bool.not_eq_true', zex_no]
  constructor
  · intro h
    obtain ⟨a, b⟩ := ypk_inj h1.2.2 h2.2.2 h
    refine ⟨a, fun k hk => ?_⟩
    rw [b k (by omega)]
    simp
  · rintro ⟨a, b⟩
    rw [a]
    refine ypk_cong (fun i hi => ?_)
    have := b i hi
    simpa using this
theorem find_c {h : zH} {X : gX} {st o n : Nat} {D : gD} (hD : gcD h o D n) (hn : dL D ≤ n) (hk : gOKd D) (hz : gNok (gsz X st) (gnm X st)) : f_Net_find o h (zJ (ypk (gnm X st) (gsz X st))) = some (if gfd X D st < dL D then zJ (gfd X D st) else -1) := by
  obtain ⟨a1, a2, a3, a4⟩ := gOK_n hk
  refine zw_eq ?_
  unfold f_Net_find
  refine zw_bi (P := fun y => (gfd X D st < dL D ∧ y = .inl (zJ (gfd X D st))) ∨ (¬ gfd X D st < dL D ∧ y = .inr ())) (zw_for (dL D) (fun l s => s = zJ l ∧ ∀ j, j < l → gsame (dLn D) (dNm D) X st j = false) (by omega) ⟨rfl, fun j hj => absurd hj (Nat.not_lt_zero j)⟩ ?_) ?_
  · rintro l s hl ⟨rfl, hno⟩
    unfold f_Net_find_b2
    rw [gLines_c hD hk, Option.bind_some]
    by_cases hlt : l < dL D
    · have e := (hD.2.2.2.2.2.2.2.1 l (by omega)).1
      have ok := hk.2.1 l hlt
      have b1 := ypk_30 ok
      have b2 := ypk_30 hz
      rw [if_neg (by rw [zJ_le (by omega) (by omega)]; omega), zb_t (by omega) (by omega), zg_tr, zJ_c (by omega), e]
      by_cases he : ypk (dNm D l) (dLn D l) = ypk (gnm X st) (gsz X st)
      · rw [if_neg (fun h => h (by rw [he]))]
        have hg := (gsame_iff (Ln := dLn D) (Nm := dNm D) ok hz).mp he
        have e2 := yfd_eq hg hno (dL D)
        rw [show min l (dL D) = l by omega] at e2
        refine zw_some (Or.inl ⟨?_, ?_⟩)
        · unfold gfd
          rw [e2]
          exact hlt
        · unfold gfd
          rw [e2]
      · rw [if_pos (fun h => he ((zJ_inj (by omega) (by omega)).mp h)), zJ_al]
        refine zw_some ⟨hlt, rfl, fun j hj => ?_⟩
        by_cases ej : j = l
        · subst ej
          cases hg : gsame (dLn D) (dNm D) X st j
          · rfl
          · exact absurd ((gsame_iff ok hz).mpr hg) he
        · exact hno j (by omega)
    · rw [if_pos (by rw [zJ_le (by omega) (by omega)]; omega)]
      have : l = dL D := by omega
      subst this
      refine zw_some (Or.inr ⟨?_, rfl⟩)
      unfold gfd
      rw [yfd_no hno]
      exact Nat.lt_irrefl _
  · rintro y (⟨a, rfl⟩ | ⟨a, rfl⟩)
    · exact zw_some (by rw [if_pos a])
    · exact zw_some (by rw [if_neg a])
def grf (h : zH) (c st : Nat) : zH := zsI (zsI h 1 2 (zJ c)) 1 3 (zJ st)
theorem refuse_p {h : zH} {c st : Nat} (h5 : h.1 2 5 = zJ st) : f_Parser_refuse h (zJ c) = some (0, grf h c st) := by
  unfold f_Parser_refuse grf
  rw [Option.bind_some, Option.bind_some, zI_ne (by decide), h5]
theorem grf_fm {h : zH} {c st : Nat} : zfm [(1, 1, 2, 3)] h (grf h c st) := (zfm.rfl'.I (by rfl)).I (by rfl)
theorem faultOfWord_c {h : zH} {X : gX} {st : Nat} (hX : gOKx X) (hst : st ≤ X.1) (hT : gcT h X st) : f_Parser_faultOfWord h = some (zJ (if gcc X st = 5 then (if gsz X st ≤ 6 then 0 else 2) else 1)) := by
  obtain ⟨x1, x2⟩ := hX
  obtain ⟨t1, t2, t3, t4, t5, t6⟩ := hT
  have sp := gstop_spec hst
  have hz : gsz X st ≤ 900 := by
    unfold gsz
    omega
  have cl := gcc_le (X := X) (st := st)
  have k5 : zJ (gcc X st) = 5 ↔ gcc X st = 5 := zJ_inj (by omega) (by decide)
  unfold f_Parser_faultOfWord
  rw [t2, t4]
  by_cases h5 : gcc X st = 5
  · rw [if_pos (k5.mpr h5), if_pos h5]
    by_cases h6 : gsz X st ≤ 6
    · rw [if_pos (by rw [zJ_lel (n := 6) (by omega) (by decide)]; exact h6), if_pos h6]
      rfl
    · rw [if_neg (by rw [zJ_lel (n := 6) (by omega) (by decide)]; exact h6), if_neg h6]
      rfl
  · rw [if_neg (fun h => h5 (k5.mp h)), if_neg h5]
    rfl
theorem gcT7 {h : zH} {X : gX} {st : Nat} (hT : gcT h X st) (h5 : 5 ≤ gcc X st) (h6 : gsz X st ≤ 6) : h.1 2 7 = zJ (ypk (gnm X st) (gsz X st)) := by
  obtain ⟨w0, w1⟩ := gcc_word h5
  exact hT.2.2.2.2.1 w0 w1 h6
theorem isNewName_c {h : zH} {X : gX} {st o n : Nat} {D : gD} {room : Bool} (hX : gOKx X) (hst : st ≤ X.1) (hT : gcT h X st) (hr : h.2.2.1 1 1 = some (3, o)) (hD : gcD h o D n) (hn : dL D ≤ n) (hk : gOKd D) : f_Parser_isNewName h (zbI room) = some (if gnC X D st room = 0 then (1, h) else (0, grf h (gnC X D st room) st)) := by
  have h25 := hT.2.2.1
  unfold f_Parser_isNewName gnC
  rw [faultOfWord_c hX hst hT, Option.bind_some]
  by_cases h5 : gcc X st = 5
  · rw [if_pos h5, if_pos h5]
    by_cases h6 : gsz X st ≤ 6
    · rw [if_pos h6, if_pos h6, if_pos (by rfl)]
      cases room
      · rw [if_neg (by decide), if_neg (show ¬ (false = true) by decide), if_neg (show ¬ (2 : Nat) = 0 by decide), show (2 : Int32) = zJ 2 from rfl, refuse_p h25, Option.bind_some]
        rfl
      · rw [if_pos (by decide), if_pos rfl, hr, zgr_eq, gcT7 hT (by omega) h6, find_c hD hn hk (gNok_of hX (by omega) h6), Option.bind_some]
        by_cases hf : gfd X D st < dL D
        · have a := gOK_n hk
          rw [if_pos hf, if_pos hf, if_neg (fun h => (zJ_m1 (by omega)).mp h), show (4 : Int32) = zJ 4 from rfl, refuse_p h25, Option.bind_some, if_pos rfl, if_neg (by decide)]
        · rw [if_neg hf, if_neg hf, if_pos rfl, if_pos rfl]
    · rw [if_neg h6, if_neg h6, if_neg (by decide), refuse_p h25, Option.bind_some, if_neg (by decide)]
      rfl
  · rw [if_neg h5, if_neg h5, if_neg (by decide), refuse_p h25, Option.bind_some, if_neg (by decide)]
    rfl
theorem lineHere_c {h : zH} {X : gX} {st o n : Nat} {D : gD} (hX : gOKx X) (hst : st ≤ X.1) (hT : gcT h X st) (hr : h.2.2.1 1 1 = some (3, o)) (hD : gcD h o D n) (hn : dL D ≤ n) (hk : gOKd D) : f_Parser_lineHere h = some (if glC X D st = 0 then (zJ (gfd X D st), h) else (-1, grf h (glC X D st) st)) := by
  have h25 := hT.2.2.1
  unfold f_Parser_lineHere glC
  rw [faultOfWord_c hX hst hT, Option.bind_some]
  by_cases h5 : gcc X st = 5
  · rw [if_pos h5, if_pos h5]
    by_cases h6 : gsz X st ≤ 6
    · rw [if_pos h6, if_pos h6, if_pos (by rfl), hr, zgr_eq, gcT7 hT (by omega) h6, find_c hD hn hk (gNok_of hX (by omega) h6), Option.bind_some]
      by_cases hf : gfd X D st < dL D
      · have a := gOK_n hk
        rw [if_pos hf, if_pos hf, if_pos (fun h => (zJ_m1 (by omega)).mp h), if_pos rfl]
      · rw [if_neg hf, if_neg hf, if_neg (fun h => h rfl), show (3 : Int32) = zJ 3 from rfl, refuse_p h25, Option.bind_some, if_neg (by decide)]
    · rw [if_neg h6, if_neg h6, if_neg (by decide), refuse_p h25, Option.bind_some, if_neg (by decide)]
  · rw [if_neg h5, if_neg h5, if_neg (by decide), refuse_p h25, Option.bind_some, if_neg (by decide)]
theorem glC_no {X : gX} {D : gD} {st : Nat} (h : glC X D st = 0) : gcc X st = 5 ∧ gsz X st ≤ 6 ∧ gfd X D st < dL D := by
  unfold glC at h
  by_cases h5 : gcc X st = 5
  · rw [if_pos h5] at h
    by_cases h6 : gsz X st ≤ 6
    · rw [if_pos h6] at h
      by_cases h7 : gfd X D st < dL D
      · exact ⟨h5, h6, h7⟩
      · rw [if_neg h7] at h
        omega
    · rw [if_neg h6] at h
      omega
  · rw [if_neg h5] at h
    omega
theorem giC_no {X : gX} {D : gD} {st : Nat} (h : giC X D st = 0) : gcc X st = 5 ∧ gsz X st ≤ 6 ∧ gfd X D st < dI D := by
  unfold giC at h
  by_cases h0 : glC X D st = 0
  · rw [if_pos h0] at h
    obtain ⟨a, b, -⟩ := glC_no h0
    by_cases h7 : gfd X D st < dI D
    · exact ⟨a, b, h7⟩
    · rw [if_neg h7] at h
      omega
  · rw [if_neg h0] at h
    exact absurd h h0
theorem gnC_no {X : gX} {D : gD} {st : Nat} {room : Bool} (h : gnC X D st room = 0) : gcc X st = 5 ∧ gsz X st ≤ 6 ∧ room = true := by
  unfold gnC at h
  by_cases h5 : gcc X st = 5
  · rw [if_pos h5] at h
    by_cases h6 : gsz X st ≤ 6
    · rw [if_pos h6] at h
      cases room
      · rw [if_neg (by decide)] at h
        omega
      · exact ⟨h5, h6, rfl⟩
    · rw [if_neg h6] at h
      omega
  · rw [if_neg h5] at h
    omega
theorem glC_le {X : gX} {D : gD} {st : Nat} : glC X D st ≤ 3 := by
  unfold glC
  split
  · split
    · split <;> omega
    · omega
  · omega
theorem giC_le {X : gX} {D : gD} {st : Nat} : giC X D st ≤ 3 := by
  unfold giC
  have := glC_le (X := X) (D := D) (st := st)
  split
  · split <;> omega
  · omega
theorem gnC_le {X : gX} {D : gD} {st : Nat} {room : Bool} : gnC X D st room ≤ 4 := by
  unfold gnC
  split
  · split
    · split
      · split <;> omega
      · omega
    · omega
  · omega
theorem inputHere_c {h : zH} {X : gX} {st o n : Nat} {D : gD} (hX : gOKx X) (hst : st ≤ X.1) (hT : gcT h X st) (hr : h.2.2.1 1 1 = some (3, o)) (ho : o ≠ 1) (hD : gcD h o D n) (hn : dL D ≤ n) (hk : gOKd D) : f_Parser_inputHere h = some (if giC X D st = 0 then (zJ (gfd X D st), h) else (-1, grf h (giC X D st) st)) := by
  have h25 := hT.2.2.1
  have a := gOK_n hk
  unfold f_Parser_inputHere giC
  rw [lineHere_c hX hst hT hr hD hn hk, Option.bind_some]
  by_cases h0 : glC X D st = 0
  · obtain ⟨-, -, h3⟩ := glC_no h0
    rw [if_pos h0, if_pos h0, hr, zgr_eq]
    dsimp only
    rw [hD.1]
    by_cases h7 : gfd X D st < dI D
    · rw [if_pos (by rw [zJ_lt (by omega) (by omega)]; exact h7), if_pos h7, if_pos rfl]
    · rw [if_neg (by rw [zJ_lt (by omega) (by omega)]; exact h7), if_neg h7, if_neg (by decide), show (3 : Int32) = zJ 3 from rfl, refuse_p h25, Option.bind_some]
  · rw [if_neg h0, if_neg h0, if_neg h0]
    have e : (grf h (glC X D st) st).2.2.1 1 1 = some (3, o) := hr
    have e0 : (grf h (glC X D st) st).1 o 0 = zJ (dI D) := by
      rw [grf_fm.i (zin_n1 (by omega))]
      exact hD.1
    dsimp only
    rw [e, zgr_eq, e0, if_pos ((zJ_m1lt (by omega)).mpr trivial)]
