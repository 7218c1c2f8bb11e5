/-! ===== a text: where its tokens are ===== -/
def gwh (P : Nat → Bool) (n : Nat) : Nat → Nat
  | 0 => n
  | d + 1 => if P (n - (d + 1)) = true then gwh P n d else n - (d + 1)
/-- the first place from p on (before n) that P doesn't hold of -/
def gsc (P : Nat → Bool) (n p : Nat) : Nat := gwh P n (n - p)
theorem gwh_spec {P : Nat → Bool} {n : Nat} : ∀ d, d ≤ n → n - d ≤ gwh P n d ∧ gwh P n d ≤ n ∧ (∀ k, n - d ≤ k → k < gwh P n d → P k = true) ∧ (gwh P n d < n → P (gwh P n d) = false)
  | 0, _ => ⟨Nat.le_refl n, Nat.le_refl n, fun k h1 h2 => absurd (show k < n from h2) (by omega), fun h => absurd (show n < n from h) (Nat.lt_irrefl n)⟩
  | d + 1, hd => by
    unfold gwh
    by_cases h : P (n - (d + 1)) = true
    · rw [if_pos h]
      obtain ⟨a, b, c, e⟩ := gwh_spec (P := P) (n := n) d (by omega)
      refine ⟨by omega, b, fun k h1 h2 => ?_, e⟩
      by_cases hk : k = n - (d + 1)
      · rw [hk]
        exact h
      · exact c k (by omega) h2
    · rw [if_neg h]
      refine ⟨Nat.le_refl _, by omega, fun k h1 h2 => by omega, fun _ => ?_⟩
      simpa using h
theorem gsc_spec {P : Nat → Bool} {n p : Nat} (hp : p ≤ n) : p ≤ gsc P n p ∧ gsc P n p ≤ n ∧ (∀ k, p ≤ k → k < gsc P n p → P k = true) ∧ (gsc P n p < n → P (gsc P n p) = false) := by
  have := gwh_spec (P := P) (n := n) (n - p) (by omega)
  rw [show n - (n - p) = p by omega] at this
  exact this
theorem gsc_lt {P : Nat → Bool} {n p : Nat} (hp : p < n) (h : P p = true) : p < gsc P n p := by
  obtain ⟨a, b, c, d⟩ := gsc_spec (P := P) (show p ≤ n by omega)
  by_cases e : gsc P n p = p
  · rw [e] at d
    rw [d hp] at h
    cases h
  · omega
def gbB (b : Nat) : Bool := b == 32 || b == 10
def glB (b : Nat) : Bool := decide (97 ≤ b) && decide (b ≤ 122)
def gdB (b : Nat) : Bool := decide (48 ≤ b) && decide (b ≤ 57)
/-- a text: how long, its bytes -/
abbrev gX : Type := Nat × (Nat → Nat)
abbrev gbl (X : gX) : Nat → Bool := fun k => gbB (X.2 k)
abbrev glt (X : gX) : Nat → Bool := fun k => glB (X.2 k)
abbrev gdt (X : gX) : Nat → Bool := fun k => gdB (X.2 k)
def gOKx (X : gX) : Prop := X.1 ≤ 900 ∧ ∀ k, k < X.1 → X.2 k < 256
def gstop (X : gX) (st : Nat) : Nat := if st < X.1 then (if glt X st = true then gsc (glt X) X.1 st else if gdt X st = true then gsc (gdt X) X.1 st else st + 1) else st
def gsz (X : gX) (st : Nat) : Nat := gstop X st - st
def gnt (X : gX) (st : Nat) : Nat := gsc (gbl X) X.1 (gstop X st)
def gnm (X : gX) (st : Nat) : Nat → Nat := fun i => X.2 (st + i) - 96
def gwc (v : Nat) : Nat := if v = 302 then 6 else if v = 498 then 13 else if v = 1476 then 12 else if v = 14834 then 16 else if v = 14836 then 11 else if v = 19621 then 7 else if v = 25074 then 14 else if v = 206220 then 10 else if v = 460228 then 15 else if v = 656741 then 9 else if v = 3409198 then 8 else 5
def gcc (X : gX) (st : Nat) : Nat := if st < X.1 then (if glt X st = true then (if gsz X st ≤ 6 then gwc (ypk (gnm X st) (gsz X st)) else 5) else if gdt X st = true then 2 else if X.2 st = 59 then 3 else if X.2 st = 61 then 4 else 1) else 0
theorem gstop_spec {X : gX} {st : Nat} (h : st ≤ X.1) : st ≤ gstop X st ∧ gstop X st ≤ X.1 ∧ (st < X.1 → st < gstop X st) := by
  unfold gstop
  by_cases h0 : st < X.1
  · rw [if_pos h0]
    by_cases h1 : glt X st = true
    · rw [if_pos h1]
      have := gsc_spec (P := glt X) h
      have := gsc_lt (P := glt X) h0 h1
      omega
    · rw [if_neg h1]
      by_cases h2 : gdt X st = true
      · rw [if_pos h2]
        have := gsc_spec (P := gdt X) h
        have := gsc_lt (P := gdt X) h0 h2
        omega
      · rw [if_neg h2]
        omega
  · rw [if_neg h0]
    omega
theorem gnt_spec {X : gX} {st : Nat} (h : st ≤ X.1) : st ≤ gnt X st ∧ gnt X st ≤ X.1 ∧ (st < X.1 → st < gnt X st) := by
  obtain ⟨a, b, c⟩ := gstop_spec h
  have := gsc_spec (P := gbl X) b
  unfold gnt
  omega
/-! bytes as the class has them -/
def gsB (b : Nat) : Int32 := (zJ b).toInt8.toInt32
theorem gsB_l : ∀ b, b < 256 → f_Tape_isLetter (gsB b) = some (zbI (glB b)) := by decide +kernel
theorem gsB_d : ∀ b, b < 256 → f_Tape_isDigit (gsB b) = some (zbI (gdB b)) := by decide +kernel
theorem gsB_32 : ∀ b, b < 256 → (gsB b = 32 ↔ b = 32) := by decide +kernel
theorem gsB_10 : ∀ b, b < 256 → (gsB b = 10 ↔ b = 10) := by decide +kernel
theorem gsB_59 : ∀ b, b < 256 → (gsB b = 59 ↔ b = 59) := by decide +kernel
theorem gsB_61 : ∀ b, b < 256 → (gsB b = 61 ↔ b = 61) := by decide +kernel
theorem gsB_let : ∀ b, b < 256 → glB b = true → zrem (gsB b) 32 = zJ (b - 96) ∧ b - 96 < 32 ∧ 1 ≤ b - 96 ∧ b - 96 ≤ 26 := by decide +kernel
theorem gsB_dig : ∀ b, b < 256 → gdB b = true → gsB b - 48 = zJ (b - 48) ∧ b - 48 ≤ 9 := by decide +kernel
theorem gjB_l : ∀ b, b < 256 → f_Mod_isLetter (zJ b) = some (zbI (glB b)) := by decide +kernel
theorem gjB_d : ∀ b, b < 256 → f_Mod_isDigit (zJ b) = some (zbI (gdB b)) := by decide +kernel
theorem gpack {v d : Nat} (hd : d < 32) : zshl (zJ v) 5 ||| zJ d = zJ (v * 32 + d) := by
  have h := zshl_J (a := v) (i := 5) (by omega)
  rw [show (zJ 5 : Int32) = 5 from rfl] at h
  rw [h, zJ_or, show v * 2 ^ 5 = v <<< 5 from (Nat.shiftLeft_eq v 5).symm, ← Nat.shiftLeft_add_eq_or_of_lt (show d < 2 ^ 5 by omega), Nat.shiftLeft_eq]
theorem gwc_c {v : Nat} (hv : v < 2147483648) : f_Tape_tokenOfWord (zJ v) = some (zJ (gwc v)) := by
  unfold f_Tape_tokenOfWord gwc
  have k : ∀ m : Nat, m < 2147483648 → (zJ v = zJ m ↔ v = m) := fun m hm => zJ_inj hv hm
  have e1 : zJ v = 302 ↔ v = 302 := k 302 (by decide)
  have e2 : zJ v = 498 ↔ v = 498 := k 498 (by decide)
  have e3 : zJ v = 1476 ↔ v = 1476 := k 1476 (by decide)
  have e4 : zJ v = 14834 ↔ v = 14834 := k 14834 (by decide)
  have e5 : zJ v = 14836 ↔ v = 14836 := k 14836 (by decide)
  have e6 : zJ v = 19621 ↔ v = 19621 := k 19621 (by decide)
  have e7 : zJ v = 25074 ↔ v = 25074 := k 25074 (by decide)
  have e8 : zJ v = 206220 ↔ v = 206220 := k 206220 (by decide)
  have e9 : zJ v = 460228 ↔ v = 460228 := k 460228 (by decide)
  have e10 : zJ v = 656741 ↔ v = 656741 := k 656741 (by decide)
  have e11 : zJ v = 3409198 ↔ v = 3409198 := k 3409198 (by decide)
  by_cases h1 : v = 302
  · rw [if_pos h1, if_pos (e1.mpr h1)]
    rfl
  · rw [if_neg h1, if_neg (fun h => h1 (e1.mp h))]
    by_cases h2 : v = 498
    · rw [if_pos h2, if_pos (e2.mpr h2)]
      rfl
    · rw [if_neg h2, if_neg (fun h => h2 (e2.mp h))]
      by_cases h3 : v = 1476
      · rw [if_pos h3, if_pos (e3.mpr h3)]
        rfl
      · rw [if_neg h3, if_neg (fun h => h3 (e3.mp h))]
        by_cases h4 : v = 14834
        · rw [if_pos h4, if_pos (e4.mpr h4)]
          rfl
        · rw [if_neg h4, if_neg (fun h => h4 (e4.mp h))]
          by_cases h5 : v = 14836
          · rw [if_pos h5, if_pos (e5.mpr h5)]
            rfl
          · rw [if_neg h5, if_neg (fun h => h5 (e5.mp h))]
            by_cases h6 : v = 19621
            · rw [if_pos h6, if_pos (e6.mpr h6)]
              rfl
            · rw [if_neg h6, if_neg (fun h => h6 (e6.mp h))]
              by_cases h7 : v = 25074
              · rw [if_pos h7, if_pos (e7.mpr h7)]
                rfl
              · rw [if_neg h7, if_neg (fun h => h7 (e7.mp h))]
                by_cases h8 : v = 206220
                · rw [if_pos h8, if_pos (e8.mpr h8)]
                  rfl
                · rw [if_neg h8, if_neg (fun h => h8 (e8.mp h))]
                  by_cases h9 : v = 460228
                  · rw [if_pos h9, if_pos (e9.mpr h9)]
                    rfl
                  · rw [if_neg h9, if_neg (fun h => h9 (e9.mp h))]
                    by_cases h10 : v = 656741
                    · rw [if_pos h10, if_pos (e10.mpr h10)]
                      rfl
                    · rw [if_neg h10, if_neg (fun h => h10 (e10.mp h))]
                      by_cases h11 : v = 3409198
                      · rw [if_pos h11, if_pos (e11.mpr h11)]
                        rfl
                      · rw [if_neg h11, if_neg (fun h => h11 (e11.mp h))]
                        rfl
/-! the class steps on -/
def gcB (h : zH) (X : gX) : Prop := h.1 2 2 = zJ X.1 ∧ ∀ k, k < X.1 → h.1 3 k = gsB (X.2 k)
theorem gcB.fr {L : List (Nat × Nat × Nat × Nat)} {h h' : zH} {X : gX} (hr : gcB h X) (q : zfm L h h') (h1 : zin L 2 2 = false) (h2 : ∀ k, zin L 3 k = false) : gcB h' X := ⟨(q.i h1).trans hr.1, fun k hk => (q.i (h2 k)).trans (hr.2 k hk)⟩
/-- the token at st is at hand -/
def gcT (h : zH) (X : gX) (st : Nat) : Prop := h.1 2 3 = zJ (gstop X st) ∧ h.1 2 4 = zJ (gcc X st) ∧ h.1 2 5 = zJ st ∧ h.1 2 6 = zJ (gsz X st) ∧ (st < X.1 → glt X st = true → gsz X st ≤ 6 → h.1 2 7 = zJ (ypk (gnm X st) (gsz X st))) ∧ (st < X.1 → gdt X st = true → gsz X st = 1 → h.1 2 7 = zJ (X.2 st - 48))
theorem gcT.fr {L : List (Nat × Nat × Nat × Nat)} {h h' : zH} {X : gX} {st : Nat} (hr : gcT h X st) (q : zfm L h h') (h1 : ∀ k, 3 ≤ k → k ≤ 7 → zin L 2 k = false) : gcT h' X st := by
  unfold gcT at hr ⊢
  rw [q.i (h1 3 (by omega) (by omega)), q.i (h1 4 (by omega) (by omega)), q.i (h1 5 (by omega) (by omega)), q.i (h1 6 (by omega) (by omega)), q.i (h1 7 (by omega) (by omega))]
  exact hr
theorem gld {b : Nat} (h : glB b = true) : gdB b = false := by
  unfold glB at h
  unfold gdB
  simp at h ⊢
  omega
theorem skip_c {h : zH} {X : gX} {p : Nat} (hX : gOKx X) (hB : gcB h X) (hp : p ≤ X.1) (h3 : h.1 2 3 = zJ p) : zw (zit zFU (fun s : zH => f_Tape_advance_b0 s) h) fun g => zfm [(2, 2, 3, 3)] h g ∧ g.1 2 3 = zJ (gsc (gbl X) X.1 p) := by
  obtain ⟨x1, x2⟩ := hX
  obtain ⟨s1, s2, s3, s4⟩ := gsc_spec (P := gbl X) hp
  refine zw_for (gsc (gbl X) X.1 p - p) (fun k g => zfm [(2, 2, 3, 3)] h g ∧ g.1 2 3 = zJ (p + k)) (by omega) ⟨zfm.rfl', h3⟩ ?_
  rintro k g hk ⟨hz, hv⟩
  unfold f_Tape_advance_b0 f_Tape_advance_j39
  have e2 : g.1 2 2 = zJ X.1 := (hz.i (by rfl)).trans hB.1
  rw [e2, hv]
  have next : k < gsc (gbl X) X.1 p - p → zw ((some (zsI g 2 3 (zJ (p + k) + 1))).bind fun h2 => some (.inl h2)) (Sum.elim (fun s' => k < gsc (gbl X) X.1 p - p ∧ zfm [(2, 2, 3, 3)] h s' ∧ s'.1 2 3 = zJ (p + (k + 1))) fun g => zfm [(2, 2, 3, 3)] h g ∧ g.1 2 3 = zJ (gsc (gbl X) X.1 p)) := fun hlt => zw_some ⟨hlt, hz.I (by rfl), by rw [zI_eq, zJ_al]; rfl⟩
  by_cases hn : p + k < X.1
  · have eb : g.1 3 (p + k) = gsB (X.2 (p + k)) := (hz.i (zin_n1 (by omega))).trans (hB.2 _ hn)
    have bl := x2 _ hn
    rw [if_neg (by rw [zJ_le (by omega) (by omega)]; omega), zb_t (by omega) (by omega), zg_tr, zg_tr, zJ_c (by omega), eb]
    by_cases hlt : k < gsc (gbl X) X.1 p - p
    · have hbl : gbB (X.2 (p + k)) = true := s3 (p + k) (by omega) (by omega)
      unfold gbB at hbl
      rw [Bool.or_eq_true, beq_iff_eq, beq_iff_eq] at hbl
      by_cases h32 : X.2 (p + k) = 32
      · rw [if_pos ((gsB_32 _ bl).mpr h32)]
        exact next hlt
      · have h10 : X.2 (p + k) = 10 := by omega
        rw [if_neg (fun h => h32 ((gsB_32 _ bl).mp h)), if_neg (fun h => h ((gsB_10 _ bl).mpr h10))]
        exact next hlt
    · have e : p + k = gsc (gbl X) X.1 p := by omega
      have hbl : gbB (X.2 (p + k)) = false := by
        rw [e]
        exact s4 (by omega)
      unfold gbB at hbl
      rw [Bool.or_eq_false_iff, beq_eq_false_iff_ne, beq_eq_false_iff_ne] at hbl
      rw [if_neg (fun h => hbl.1 ((gsB_32 _ bl).mp h)), if_pos (fun h => hbl.2 ((gsB_10 _ bl).mp h))]
      exact zw_some ⟨hz, by rw [hv, e]⟩
  · rw [if_pos (by rw [zJ_le (by omega) (by omega)]; omega)]
    exact zw_some ⟨hz, by rw [hv]; congr 1; omega⟩
theorem readWord_c {h : zH} {X : gX} {st : Nat} (hX : gOKx X) (hB : gcB h X) (hst : st < X.1) (hl : glt X st = true) (h3 : h.1 2 3 = zJ st) (h5 : h.1 2 5 = zJ st) (h7 : h.1 2 7 = 0) : zw (f_Tape_readWord h) fun g => zfm [(2, 2, 3, 3), (2, 2, 6, 7)] h g ∧ g.1 2 3 = zJ (gstop X st) ∧ g.1 2 6 = zJ (gsz X st) ∧ (gsz X st ≤ 6 → g.1 2 7 = zJ (ypk (gnm X st) (gsz X st))) := by
  obtain ⟨x1, x2⟩ := hX
  obtain ⟨s1, s2, s3, s4⟩ := gsc_spec (P := glt X) (show st ≤ X.1 by omega)
  have es : gstop X st = gsc (glt X) X.1 st := by
    unfold gstop
    rw [if_pos hst, if_pos hl]
  unfold f_Tape_readWord
  refine zw_bi (P := fun g => zfm [(2, 2, 3, 3), (2, 2, 7, 7)] h g ∧ g.1 2 3 = zJ (gstop X st) ∧ (gsz X st ≤ 6 → g.1 2 7 = zJ (ypk (gnm X st) (gsz X st)))) (zw_for (gsc (glt X) X.1 st - st) (fun k g => zfm [(2, 2, 3, 3), (2, 2, 7, 7)] h g ∧ g.1 2 3 = zJ (st + k) ∧ (k ≤ 6 → g.1 2 7 = zJ (ypk (gnm X st) k))) (by omega) ⟨zfm.rfl', h3, fun _ => h7⟩ ?_) ?_
  · rintro k g hk ⟨hz, hv, hw⟩
    unfold f_Tape_readWord_b0
    have e2 : g.1 2 2 = zJ X.1 := (hz.i (by rfl)).trans hB.1
    have fin : k = gsc (glt X) X.1 st - st → zw (some (.inr g) : Option (zH ⊕ zH)) (Sum.elim (fun s' => k < gsc (glt X) X.1 st - st ∧ zfm [(2, 2, 3, 3), (2, 2, 7, 7)] h s' ∧ s'.1 2 3 = zJ (st + (k + 1)) ∧ (k + 1 ≤ 6 → s'.1 2 7 = zJ (ypk (gnm X st) (k + 1)))) fun g => zfm [(2, 2, 3, 3), (2, 2, 7, 7)] h g ∧ g.1 2 3 = zJ (gstop X st) ∧ (gsz X st ≤ 6 → g.1 2 7 = zJ (ypk (gnm X st) (gsz X st)))) := by
      intro e
      have ek : gsz X st = k := by
        unfold gsz
        rw [es]
        omega
      refine zw_some ⟨hz, by rw [hv, es]; congr 1; omega, ?_⟩
      rw [ek]
      exact hw
    rw [e2, hv]
    by_cases hn : st + k < X.1
    · have eb : g.1 3 (st + k) = gsB (X.2 (st + k)) := (hz.i (zin_n2 (by omega) (by omega))).trans (hB.2 _ hn)
      have bl := x2 _ hn
      rw [if_neg (by rw [zJ_le (by omega) (by omega)]; omega), zb_t (by omega) (by omega), zg_tr, zJ_c (by omega), eb, gsB_l _ bl, Option.bind_some]
      by_cases hlt : k < gsc (glt X) X.1 st - st
      · have hbl : glB (X.2 (st + k)) = true := s3 (st + k) (by omega) (by omega)
        obtain ⟨r1, r2, r3, r4⟩ := gsB_let _ bl hbl
        rw [hbl, if_neg (by decide), zg_tr, Option.bind_some, zI_nk (by decide), hv, Option.bind_some, r1]
        refine zw_some ⟨hlt, (hz.I (by rfl)).I (by rfl), by rw [zI_eq, zJ_al]; rfl, fun hk6 => ?_⟩
        rw [zI_nk (by decide), zI_eq, hw (by omega), gpack r2]
        rfl
      · have hbl : glB (X.2 (st + k)) = false := by
          rw [show st + k = gsc (glt X) X.1 st by omega]
          exact s4 (by omega)
        rw [hbl, if_pos zbI_f]
        exact fin (by omega)
    · rw [if_pos (by rw [zJ_le (by omega) (by omega)]; omega)]
      exact fin (by omega)
  · rintro g ⟨hz, hv, hw⟩
    have e5 : g.1 2 5 = zJ st := (hz.i (by rfl)).trans h5
    have hsp := (gstop_spec (X := X) (show st ≤ X.1 by omega)).1
    rw [Option.bind_some, hv, e5, zJ_sub hsp]
    exact zw_some ⟨(hz.sub rfl).tr (zfm.rfl'.I (L := [(2, 2, 6, 6)]) (by rfl)) rfl, by rw [zI_nk (by decide)]; exact hv, zI_eq, fun h6 => by rw [zI_nk (by decide)]; exact hw h6⟩
theorem readNumber_c {h : zH} {X : gX} {st : Nat} (hX : gOKx X) (hB : gcB h X) (hst : st < X.1) (hl : glt X st = false) (hd : gdt X st = true) (h3 : h.1 2 3 = zJ st) (h5 : h.1 2 5 = zJ st) : zw (f_Tape_readNumber h) fun g => zfm [(2, 2, 3, 4), (2, 2, 6, 7)] h g ∧ g.1 2 3 = zJ (gstop X st) ∧ g.1 2 4 = 2 ∧ g.1 2 6 = zJ (gsz X st) ∧ (gsz X st = 1 → g.1 2 7 = zJ (X.2 st - 48)) := by
  obtain ⟨x1, x2⟩ := hX
  obtain ⟨s1, s2, s3, s4⟩ := gsc_spec (P := gdt X) (show st ≤ X.1 by omega)
  have es : gstop X st = gsc (gdt X) X.1 st := by
    unfold gstop
    rw [if_pos hst, if_neg (by rw [hl]; decide), if_pos hd]
  unfold f_Tape_readNumber
  refine zw_bi (P := fun g => zfm [(2, 2, 3, 3), (2, 2, 7, 7)] h g ∧ g.1 2 3 = zJ (gstop X st) ∧ (gsz X st = 1 → g.1 2 7 = zJ (X.2 st - 48))) (zw_for (gsc (gdt X) X.1 st - st) (fun k g => zfm [(2, 2, 3, 3), (2, 2, 7, 7)] h g ∧ g.1 2 3 = zJ (st + k) ∧ (k = 1 → g.1 2 7 = zJ (X.2 st - 48))) (by omega) ⟨zfm.rfl', h3, fun h => by omega⟩ ?_) ?_
  · rintro k g hk ⟨hz, hv, hw⟩
    unfold f_Tape_readNumber_b0
    have e2 : g.1 2 2 = zJ X.1 := (hz.i (by rfl)).trans hB.1
    have fin : k = gsc (gdt X) X.1 st - st → zw (some (.inr g) : Option (zH ⊕ zH)) (Sum.elim (fun s' => k < gsc (gdt X) X.1 st - st ∧ zfm [(2, 2, 3, 3), (2, 2, 7, 7)] h s' ∧ s'.1 2 3 = zJ (st + (k + 1)) ∧ (k + 1 = 1 → s'.1 2 7 = zJ (X.2 st - 48))) fun g => zfm [(2, 2, 3, 3), (2, 2, 7, 7)] h g ∧ g.1 2 3 = zJ (gstop X st) ∧ (gsz X st = 1 → g.1 2 7 = zJ (X.2 st - 48))) := by
      intro e
      have ek : gsz X st = k := by
        unfold gsz
        rw [es]
        omega
      refine zw_some ⟨hz, by rw [hv, es]; congr 1; omega, ?_⟩
      rw [ek]
      exact hw
    rw [e2, hv]
    by_cases hn : st + k < X.1
    · have eb : g.1 3 (st + k) = gsB (X.2 (st + k)) := (hz.i (zin_n2 (by omega) (by omega))).trans (hB.2 _ hn)
      have bl := x2 _ hn
      rw [if_neg (by rw [zJ_le (by omega) (by omega)]; omega), zb_t (by omega) (by omega), zg_tr, zJ_c (by omega), eb, gsB_d _ bl, Option.bind_some]
      by_cases hlt : k < gsc (gdt X) X.1 st - st
      · have hbl : gdB (X.2 (st + k)) = true := s3 (st + k) (by omega) (by omega)
        obtain ⟨r1, r2⟩ := gsB_dig _ bl hbl
        rw [hbl, if_neg (by decide), zg_tr, Option.bind_some, zI_nk (by decide), hv, Option.bind_some, r1]
        refine zw_some ⟨hlt, (hz.I (by rfl)).I (by rfl), by rw [zI_eq, zJ_al]; rfl, fun hk6 => ?_⟩
        have : k = 0 := by omega
        subst this
        rw [zI_nk (by decide), zI_eq]
        rfl
      · have hbl : gdB (X.2 (st + k)) = false := by
          rw [show st + k = gsc (gdt X) X.1 st by omega]
          exact s4 (by omega)
        rw [hbl, if_pos zbI_f]
        exact fin (by omega)
    · rw [if_pos (by rw [zJ_le (by omega) (by omega)]; omega)]
      exact fin (by omega)
  · rintro g ⟨hz, hv, hw⟩
    have e5 : g.1 2 5 = zJ st := (hz.i (by rfl)).trans h5
    have hsp := (gstop_spec (X := X) (show st ≤ X.1 by omega)).1
    rw [Option.bind_some, hv, e5, zJ_sub hsp, Option.bind_some]
    exact zw_some ⟨(hz.sub rfl).tr ((zfm.rfl'.I (L := [(2, 2, 4, 4), (2, 2, 6, 6)]) (by rfl)).I (by rfl)) rfl, by rw [zI_nk (by decide), zI_nk (by decide)]; exact hv, zI_eq, by rw [zI_nk (by decide)]; exact zI_eq, fun h6 => by rw [zI_nk (by decide), zI_nk (by decide)]; exact hw h6⟩
theorem advance_c {h : zH} {X : gX} {p : Nat} (hX : gOKx X) (hB : gcB h X) (hp : p ≤ X.1) (h3 : h.1 2 3 = zJ p) : zw (f_Tape_advance h) fun g => zfm [(2, 2, 3, 7)] h g ∧ gcT g X (gsc (gbl X) X.1 p) := by
  obtain ⟨x1, x2⟩ := id hX
  obtain ⟨s1, s2, s3, s4⟩ := gsc_spec (P := gbl X) hp
  unfold f_Tape_advance
  refine zw_bi (skip_c hX hB hp h3) ?_
  rintro g0 ⟨q0, v0⟩
  generalize gsc (gbl X) X.1 p = st at *
  rw [v0, Option.bind_some, Option.bind_some, Option.bind_some]
  have q1 : zfm [(2, 2, 3, 7)] h (zsI (zsI (zsI g0 2 5 (zJ st)) 2 6 0) 2 7 0) := (((q0.sub (L' := [(2, 2, 3, 7)]) rfl).I (by rfl)).I (by rfl)).I (by rfl)
  have v3 : (zsI (zsI (zsI g0 2 5 (zJ st)) 2 6 0) 2 7 0).1 2 3 = zJ st := by
    rw [zI_nk (by decide), zI_nk (by decide), zI_nk (by decide)]
    exact v0
  have v5 : (zsI (zsI (zsI g0 2 5 (zJ st)) 2 6 0) 2 7 0).1 2 5 = zJ st := by
    rw [zI_nk (by decide), zI_nk (by decide)]
    exact zI_eq
  have v6 : (zsI (zsI (zsI g0 2 5 (zJ st)) 2 6 0) 2 7 0).1 2 6 = 0 := by
    rw [zI_nk (by decide)]
    exact zI_eq
  have v7 : (zsI (zsI (zsI g0 2 5 (zJ st)) 2 6 0) 2 7 0).1 2 7 = 0 := zI_eq
  generalize zsI (zsI (zsI g0 2 5 (zJ st)) 2 6 0) 2 7 0 = g at *
  have hBg : gcB g X := hB.fr q1 (by rfl) (fun k => zin_n1 (by omega))
  have e2 := hBg.1
  rw [v3, e2]
  by_cases hn : st < X.1
  · have eb := hBg.2 st hn
    have bl := x2 st hn
    rw [if_pos (by rw [zJ_lt (by omega) (by omega)]; exact hn), zb_t (by omega) (by omega), zg_tr, zJ_c (by omega), eb, gsB_l _ bl, Option.bind_some]
    cases hl : glB (X.2 st)
    · rw [if_pos zbI_f, zg_tr, gsB_d _ bl, Option.bind_some]
      cases hd : gdB (X.2 st)
      · rw [if_pos zbI_f]
        have es : gstop X st = st + 1 := by
          unfold gstop
          rw [if_pos hn, if_neg (by show ¬ glB (X.2 st) = true; rw [hl]; decide), if_neg (by show ¬ gdB (X.2 st) = true; rw [hd]; decide)]
        have ez : gsz X st = 1 := by
          unfold gsz
          rw [es]
          omega
        have ec : gcc X st = if X.2 st = 59 then 3 else if X.2 st = 61 then 4 else 1 := by
          unfold gcc
          rw [if_pos hn, if_neg (by show ¬ glB (X.2 st) = true; rw [hl]; decide), if_neg (by show ¬ gdB (X.2 st) = true; rw [hd]; decide)]
        unfold f_Tape_readSign
        have sign : ∀ t : Nat, gcc X st = t → zw ((f_Tape_readSign_j47 (zsI (zsI g 2 3 (zJ st + 1)) 2 6 1) (zJ t)).bind fun x16 => some x16) fun g => zfm [(2, 2, 3, 7)] h g ∧ gcT g X st := by
          intro t ht
          unfold f_Tape_readSign_j47
          rw [Option.bind_some, Option.bind_some]
          refine zw_some ⟨((q1.I (by rfl)).I (by rfl)).I (by rfl), ?_, ?_, ?_, ?_, fun _ h => ?_, fun _ h => ?_⟩
          · rw [zI_nk (by decide), zI_nk (by decide), zI_eq, es, zJ_al]
          · rw [zI_eq, ht]
          · rw [zI_nk (by decide), zI_nk (by decide), zI_nk (by decide), v5]
          · rw [zI_nk (by decide), zI_eq, ez]
            rfl
          · exact absurd (show glB (X.2 st) = true from h) (by rw [hl]; decide)
          · exact absurd (show gdB (X.2 st) = true from h) (by rw [hd]; decide)
        rw [v3, zb_t (by omega) (by omega), zg_tr, zJ_c (by omega), eb, Option.bind_some, Option.bind_some]
        by_cases h59 : X.2 st = 59
        · rw [if_neg (fun h => h ((gsB_59 _ bl).mpr h59))]
          exact sign 3 (by rw [ec, if_pos h59])
        · rw [if_pos (fun h => h59 ((gsB_59 _ bl).mp h))]
          by_cases h61 : X.2 st = 61
          · rw [if_neg (fun h => h ((gsB_61 _ bl).mpr h61))]
            exact sign 4 (by rw [ec, if_neg h59, if_pos h61])
          · rw [if_pos (fun h => h61 ((gsB_61 _ bl).mp h))]
            exact sign 1 (by rw [ec, if_neg h59, if_neg h61])
      · rw [if_neg (by decide)]
        refine zw_bi (readNumber_c hX hBg hn hl hd v3 v5) ?_
        rintro g2 ⟨q2, w1, w2, w3, w4⟩
        refine zw_some ⟨q1.tr q2 rfl, w1, ?_, ?_, w3, fun _ h => ?_, fun _ _ h => w4 h⟩
        · rw [w2]
          unfold gcc
          rw [if_pos hn, if_neg (by show ¬ glB (X.2 st) = true; rw [hl]; decide), if_pos hd]
          rfl
        · exact (q2.i (by rfl)).trans v5
        · exact absurd (show glB (X.2 st) = true from h) (by rw [hl]; decide)
    · rw [if_neg (by decide)]
      refine zw_bi (readWord_c hX hBg hn hl v3 v5 v7) ?_
      rintro g2 ⟨q2, w1, w2, w3⟩
      have hsp := gstop_spec (X := X) (show st ≤ X.1 by omega)
      have hzl : gsz X st ≤ 900 := by
        unfold gsz
        omega
      have f5 : g2.1 2 5 = zJ st := (q2.i (by rfl)).trans v5
      have fin : ∀ t : Nat, gcc X st = t → zw (f_Tape_advance_j129 g2 (zJ t)) fun g => zfm [(2, 2, 3, 7)] h g ∧ gcT g X st := by
        intro t ht
        unfold f_Tape_advance_j129
        rw [Option.bind_some]
        refine zw_some ⟨(q1.tr q2 rfl).I (by rfl), ?_, ?_, ?_, ?_, fun _ _ h6 => ?_, fun _ h => ?_⟩
        · rw [zI_nk (by decide), w1]
        · rw [zI_eq, ht]
        · rw [zI_nk (by decide), f5]
        · rw [zI_nk (by decide), w2]
        · rw [zI_nk (by decide), w3 h6]
        · have := gld hl
          exact absurd (show gdB (X.2 st) = true from h) (by rw [this]; decide)
      rw [w2]
      by_cases h6 : gsz X st ≤ 6
      · rw [if_pos (by rw [zJ_lel (n := 6) (by omega) (by decide)]; exact h6), w3 h6]
        have hlt : ypk (gnm X st) (gsz X st) < 32 ^ gsz X st := ypk_lt _ (fun i hi => by
          have hk : st + i < gstop X st := by
            unfold gsz at hi
            omega
          have es : gstop X st = gsc (glt X) X.1 st := by
            unfold gstop
            rw [if_pos hn, if_pos hl]
          obtain ⟨t1, t2, t3, t4⟩ := gsc_spec (P := glt X) (show st ≤ X.1 by omega)
          exact (gsB_let _ (x2 (st + i) (by omega)) (t3 (st + i) (by omega) (by omega))).2.1)
        have hpw : 32 ^ gsz X st ≤ 32 ^ 6 := Nat.pow_le_pow_right (by decide) h6
        rw [gwc_c (by omega), Option.bind_some]
        refine fin _ ?_
        unfold gcc
        rw [if_pos hn, if_pos hl, if_pos h6]
      · rw [if_neg (by rw [zJ_lel (n := 6) (by omega) (by decide)]; exact h6)]
        refine fin 5 ?_
        unfold gcc
        rw [if_pos hn, if_pos hl, if_neg h6]
  · rw [if_neg (by rw [zJ_lt (by omega) (by omega)]; exact hn), Option.bind_some]
    have es : gstop X st = st := by
      unfold gstop
      rw [if_neg hn]
    refine zw_some ⟨q1.I (by rfl), ?_, ?_, ?_, ?_, fun h => absurd h hn, fun h => absurd h hn⟩
    · rw [zI_nk (by decide), v3, es]
    · rw [zI_eq]
      unfold gcc
      rw [if_neg hn]
      rfl
    · rw [zI_nk (by decide), v5]
    · rw [zI_nk (by decide), v6]
      unfold gsz
      rw [es, Nat.sub_self]
      rfl
/-- one step on -/
theorem adv_c {h : zH} {X : gX} {st : Nat} (hX : gOKx X) (hB : gcB h X) (hst : st ≤ X.1) (hT : gcT h X st) : zw (f_Tape_advance h) fun g => zfm [(2, 2, 3, 7)] h g ∧ gcT g X (gnt X st) :=
  advance_c hX hB (gstop_spec hst).2.1 hT.1
