/-! ===== pack: the first way into so many groups ===== -/
def gup (s : Nat → Nat) (k g : Nat) : Nat → Nat := fun i => if i = k then g else s i
def gbg (s : Nat → Nat) : Nat → Nat
  | 0 => 0
  | k + 1 => max (gbg s k) (s k + 1)
def gcan (Ag : Nat → Nat → Bool) (s : Nat → Nat) (k g : Nat) : Bool := !zex (fun j => s j == g && !Ag j k) k
def gfrs {β : Type} (F : Nat → Option β) : Nat → Nat → Option β
  | 0, _ => none
  | n + 1, g => match F g with
    | some x => some x
    | none => gfrs F n (g + 1)
def gpk (Ag : Nat → Nat → Bool) (lim : Nat) : Nat → (Nat → Nat) → Nat → Option (Nat → Nat)
  | 0, s, _ => some s
  | d + 1, s, k => gfrs (fun g => if gcan Ag s k g = true then gpk Ag lim d (gup s k g) (k + 1) else none) (min (gbg s k + 1) lim) 0
theorem gup_ne {s : Nat → Nat} {k g i : Nat} (h : i ≠ k) : gup s k g i = s i := if_neg h
theorem gup_eq {s : Nat → Nat} {k g : Nat} : gup s k g k = g := if_pos rfl
theorem gbg_cong {s t : Nat → Nat} : ∀ {k : Nat}, (∀ i, i < k → s i = t i) → gbg s k = gbg t k
  | 0, _ => rfl
  | k + 1, h => by rw [gbg, gbg, gbg_cong (fun i hi => h i (by omega)), h k (by omega)]
theorem gbg_up {s : Nat → Nat} {k g : Nat} : gbg (gup s k g) (k + 1) = max (gbg s k) (g + 1) := by
  rw [gbg, gup_eq, gbg_cong (t := s) (fun i hi => gup_ne (by omega))]
theorem gbg_lt {s : Nat → Nat} : ∀ {k i : Nat}, i < k → s i < gbg s k
  | k + 1, i, hi => by
    rw [gbg]
    by_cases h : i = k
    · subst h
      omega
    · have := gbg_lt (s := s) (k := k) (i := i) (by omega)
      omega
theorem gfrs_s {β : Type} {F : Nat → Option β} {n g : Nat} {x : β} (h : F g = some x) : gfrs F (n + 1) g = some x := by
  rw [gfrs, h]
theorem gfrs_n {β : Type} {F : Nat → Option β} {n g : Nat} (h : F g = none) : gfrs F (n + 1) g = gfrs F n (g + 1) := by
  rw [gfrs, h]
theorem gfrs_skip {β : Type} {F : Nat → Option β} : ∀ (e n g : Nat), (∀ i, g ≤ i → i < g + e → F i = none) → e ≤ n → gfrs F n g = gfrs F (n - e) (g + e)
  | 0, n, g, _, _ => rfl
  | e + 1, n, g, h, hn => by
    obtain ⟨m, rfl⟩ : ∃ m, n = m + 1 := ⟨n - 1, by omega⟩
    rw [gfrs_n (h g (by omega) (by omega)), gfrs_skip e m (g + 1) (fun i h1 h2 => h i (by omega) (by omega)) (by omega), show m + 1 - (e + 1) = m - e by omega, show g + 1 + e = g + (e + 1) by omega]
theorem gfrs_ex {β : Type} {F : Nat → Option β} : ∀ {n g j : Nat}, g ≤ j → j < g + n → F j ≠ none → gfrs F n g ≠ none
  | 0, g, j, h1, h2, _ => by omega
  | n + 1, g, j, h1, h2, hf => by
    cases hg : F g with
    | some x =>
      rw [gfrs_s hg]
      exact fun h => by cases h
    | none =>
      rw [gfrs_n hg]
      by_cases e : j = g
      · subst e
        exact absurd hg hf
      · exact gfrs_ex (by omega) (by omega) hf
theorem gpk_ok {Ag : Nat → Nat → Bool} {lim : Nat} : ∀ (d : Nat) (s : Nat → Nat) (k : Nat), k + d ≤ lim → gbg s k ≤ k → gpk Ag lim d s k ≠ none
  | 0, s, k, _, _ => fun h => by cases h
  | d + 1, s, k, h1, h2 => by
    rw [gpk]
    refine gfrs_ex (j := gbg s k) (Nat.zero_le _) (by omega) ?_
    have hc : gcan Ag s k (gbg s k) = true := by
      unfold gcan
      rw [zex_no.mpr (fun j hj => ?_)]
      · rfl
      · have := gbg_lt (s := s) hj
        rw [beq_eq_false_iff_ne.mpr (by omega), Bool.false_and]
    rw [if_pos hc]
    exact gpk_ok d _ _ (by omega) (by rw [gbg_up]; omega)
theorem gleast {β : Type} {f : Nat → Option β} : ∀ p, f p ≠ none → ∃ L x, L ≤ p ∧ f L = some x ∧ ∀ l, l < L → f l = none := by
  intro p
  induction p using Nat.strongRecOn with
  | ind p ih =>
    intro hp
    by_cases h : ∃ l, l < p ∧ f l ≠ none
    · obtain ⟨l, l1, l2⟩ := h
      obtain ⟨L, x, a, b, c⟩ := ih l l1 l2
      exact ⟨L, x, by omega, b, c⟩
    · cases hx : f p with
      | none => exact absurd hx hp
      | some x =>
        refine ⟨p, x, Nat.le_refl _, hx, fun l hl => ?_⟩
        cases hf : f l with
        | none => rfl
        | some y => exact absurd ⟨l, hl, by rw [hf]; exact fun h => by cases h⟩ h
/-! so many turns of a loop -/
def gRe {S X : Type} (B : S → Option (S ⊕ X)) (c : Nat) (s s' : S) : Prop := ∀ n, zit (n + c) B s = zit n B s'
theorem zit_l {S X : Type} {B : S → Option (S ⊕ X)} {n : Nat} {s s' : S} (h : B s = some (.inl s')) : zit (n + 1) B s = zit n B s' := by
  rw [zit, h]
theorem zit_r {S X : Type} {B : S → Option (S ⊕ X)} {n : Nat} {s : S} {x : X} (h : B s = some (.inr x)) : zit (n + 1) B s = some x := by
  rw [zit, h]
theorem gRe_0 {S X : Type} {B : S → Option (S ⊕ X)} {s : S} : gRe B 0 s s := fun _ => rfl
theorem gRe_1 {S X : Type} {B : S → Option (S ⊕ X)} {s s' : S} (h : B s = some (.inl s')) : gRe B 1 s s' := fun _ => zit_l h
theorem gRe_tr {S X : Type} {B : S → Option (S ⊕ X)} {a b c : Nat} {s s' s'' : S} (h1 : gRe B a s s') (h2 : gRe B b s' s'') (hc : c = a + b) : gRe B c s s'' := fun n => by
  subst hc
  rw [show n + (a + b) = (n + b) + a by omega, h1, h2]
theorem gRe_end {S X : Type} {B : S → Option (S ⊕ X)} {c N : Nat} {s s' : S} {x : X} (h1 : gRe B c s s') (h2 : B s' = some (.inr x)) (hN : c < N) : zit N B s = some x := by
  obtain ⟨m, rfl⟩ : ∃ m, N = (m + 1) + c := ⟨N - c - 1, by omega⟩
  rw [h1, zit_r h2]
/-! the class -/
def gCp (h : zH) (p : Nat) (w : Nat → Nat) (Ag : Nat → Nat → Bool) : Prop := ∀ i, i < p → h.1 157 i = zJ (w i) ∧ w i < 44 ∧ ∀ j, j < p → ((((h.1 123 (w j)) ^^^ (h.1 123 (w i))) &&& ((h.1 122 (w j)) &&& (h.1 122 (w i)))) = 0 ↔ Ag i j = true)
theorem gCp.fr {h h' : zH} {p : Nat} {w : Nat → Nat} {Ag : Nat → Nat → Bool} (hr : gCp h p w Ag) (q : zfm [(151, 151, 0, 9999)] h h') : gCp h' p w Ag := by
  unfold gCp at hr ⊢
  rw [q.ir (o := 157) (fun k => zin_n1 (by omega)), q.ir (o := 123) (fun k => zin_n1 (by omega)), q.ir (o := 122) (fun k => zin_n1 (by omega))]
  exact hr
theorem gmaxJ {a b : Nat} (ha : a < 2147483648) (hb : b < 2147483648) : f_Math_max (zJ a) (zJ b) = some (zJ (max a b)) := by
  unfold f_Math_max
  by_cases h : a < b
  · rw [if_pos (by rw [zJ_lt ha hb]; exact h), show max a b = b by omega]
  · rw [if_neg (by rw [zJ_lt ha hb]; exact h), show max a b = a by omega]
theorem agreesWith_c {h : zH} {p k g : Nat} {w s : Nat → Nat} {Ag : Nat → Nat → Bool} (hC : gCp h p w Ag) (hp : p ≤ 8) (hk : k < p) (hs : ∀ i, i < k → h.1 151 i = zJ (s i) ∧ s i ≤ 8) (hg : g ≤ 8) : zw (f_Packs_agreesWith 156 h (zJ k) (zJ g)) fun x => x = zbI (gcan Ag s k g) := by
  obtain ⟨k1, k2, -⟩ := hC k hk
  have k1' : h.1 (156 + 1) k = zJ (w k) := k1
  unfold f_Packs_agreesWith
  rw [zb_t (by omega) (by omega), zg_tr, zJ_c (by omega), k1']
  refine zw_bi (P := fun y => (gcan Ag s k g = true ∧ y = .inr ()) ∨ (gcan Ag s k g = false ∧ y = .inl ())) (zw_for k (fun i st => st = zJ i ∧ zex (fun j => s j == g && !Ag j k) i = false) (by omega) ⟨rfl, rfl⟩ ?_) ?_
  · rintro i st hi ⟨rfl, hz⟩
    unfold f_Packs_agreesWith_b11
    by_cases hik : i < k
    · obtain ⟨i1, i2, i3⟩ := hC i (by omega)
      have i1' : h.1 (156 + 1) i = zJ (w i) := i1
      obtain ⟨s1, s2⟩ := hs i hik
      rw [if_neg (by rw [zJ_le (by omega) (by omega)]; omega), zb_t (by omega) (by omega), zg_tr, zb_t k2 (by omega), zg_tr, zJ_c (a := i) (by omega), i1', zb_t i2 (by omega), zg_tr, zg_tr, zg_tr, zg_tr, s1, zJ_al]
      have iff2 := i3 k hk
      rw [zJ_c (by omega), zJ_c (by omega)]
      by_cases hsg : s i = g
      · rw [if_neg (fun hne => hne (by rw [hsg]))]
        by_cases hA : Ag i k = true
        · rw [if_pos (iff2.mpr hA)]
          refine zw_some ⟨hik, rfl, ?_⟩
          rw [zex_s, hz, hA]
          simp
        · rw [if_neg (fun h => hA (iff2.mp h))]
          refine zw_some (Or.inr ⟨?_, rfl⟩)
          unfold gcan
          rw [zex_iff.mpr ⟨i, hik, by rw [hsg]; simpa using hA⟩]
          rfl
      · rw [if_pos (fun he => hsg ((zJ_inj (by omega) (by omega)).mp he))]
        refine zw_some ⟨hik, rfl, ?_⟩
        rw [zex_s, hz, beq_eq_false_iff_ne.mpr hsg]
        rfl
    · have : i = k := by omega
      subst this
      rw [if_pos (by rw [zJ_le (by omega) (by omega)]; omega)]
      refine zw_some (Or.inl ⟨?_, rfl⟩)
      unfold gcan
      rw [hz]
      rfl
  · rintro y (⟨e, rfl⟩ | ⟨e, rfl⟩)
    · exact zw_some (by rw [e]; rfl)
    · exact zw_some (by rw [e]; rfl)
theorem nextGroup_c {h : zH} {p k g0 lim : Nat} {w s : Nat → Nat} {Ag : Nat → Nat → Bool} (hC : gCp h p w Ag) (hp : p ≤ 8) (hk : k < p) (hs : ∀ i, i < k → h.1 151 i = zJ (s i)) (hb : gbg s k ≤ k) (hl : lim ≤ 8) (h0 : h.1 151 k = zfj g0) (hg0 : g0 ≤ min (gbg s k + 1) lim) : zw (f_Packs_nextGroup 156 h (zJ k) (zJ lim)) fun x => (∃ g, g0 ≤ g ∧ g < min (gbg s k + 1) lim ∧ x = zJ g ∧ gcan Ag s k g = true ∧ ∀ i, g0 ≤ i → i < g → gcan Ag s k i = false) ∨ (x = -1 ∧ ∀ i, g0 ≤ i → i < min (gbg s k + 1) lim → gcan Ag s k i = false) := by
  have hs8 : ∀ i, i < k → h.1 151 i = zJ (s i) ∧ s i ≤ 8 := fun i hi => ⟨hs i hi, by have := gbg_lt (s := s) hi; omega⟩
  have hbm : ∀ i, i ≤ k → gbg s i ≤ 8 := by
    intro i hi
    induction i with
    | zero => exact Nat.zero_le _
    | succ i ih =>
      rw [gbg]
      have h1 := ih (by omega)
      have h2 := gbg_lt (s := s) (show i < k by omega)
      omega
  unfold f_Packs_nextGroup
  refine zw_bi (P := fun y => y = zJ (gbg s k)) (zw_for k (fun i st => st = (zJ (gbg s i), zJ i)) (by omega) rfl ?_) ?_
  · rintro i st hi rfl
    dsimp only
    unfold f_Packs_nextGroup_b6
    by_cases hik : i < k
    · have b1 := hbm i hi
      have b2 := (hs8 i hik).2
      rw [if_neg (by rw [zJ_le (by omega) (by omega)]; omega), zb_t (by omega) (by omega), zg_tr, zJ_c (by omega), hs i hik, zJ_al, zJ_al, gmaxJ (by omega) (by show s i + 1 < _; omega), Option.bind_some]
      exact zw_some ⟨hik, rfl⟩
    · have : i = k := by omega
      subst this
      rw [if_pos (by rw [zJ_le (by omega) (by omega)]; omega)]
      exact zw_some rfl
  · rintro y rfl
    rw [zb_t (by omega) (by omega), zg_tr, zJ_c (by omega), h0, zfj_1]
    refine zw_bi (P := fun y => (∃ g, g0 ≤ g ∧ g < min (gbg s k + 1) lim ∧ y = .inl (zJ g) ∧ gcan Ag s k g = true ∧ ∀ i, g0 ≤ i → i < g → gcan Ag s k i = false) ∨ (y = .inr () ∧ ∀ i, g0 ≤ i → i < min (gbg s k + 1) lim → gcan Ag s k i = false)) (zw_fr g0 (min (gbg s k + 1) lim) (fun g st => g0 ≤ g ∧ st = zJ g ∧ ∀ i, g0 ≤ i → i < g → gcan Ag s k i = false) hg0 (by omega) ⟨Nat.le_refl _, rfl, fun i h1 h2 => by omega⟩ ?_) ?_
    · rintro g st hg ⟨hgg, rfl, hn⟩
      unfold f_Packs_nextGroup_b44
      by_cases hgm : g < min (gbg s k + 1) lim
      · rw [if_neg (by rw [zJ_lt (by omega) (by omega)]; omega), if_neg (by rw [zJ_le (by omega) (by omega)]; omega)]
        refine zw_bi (agreesWith_c hC hp hk hs8 (by omega)) ?_
        rintro x rfl
        cases hc : gcan Ag s k g
        · rw [if_pos zbI_f, zJ_al]
          refine zw_some ⟨hgm, by omega, rfl, fun i h1 h2 => ?_⟩
          by_cases e : i = g
          · subst e
            exact hc
          · exact hn i h1 (by omega)
        · rw [if_neg (by decide)]
          exact zw_some (Or.inl ⟨g, hgg, hgm, rfl, hc, hn⟩)
      · have e : g = min (gbg s k + 1) lim := by omega
        have fin : zw (some (.inr (.inr ())) : Option (Int32 ⊕ (Int32 ⊕ Unit))) (Sum.elim (fun s' => g < min (gbg s k + 1) lim ∧ g0 ≤ g + 1 ∧ s' = zJ (g + 1) ∧ ∀ i, g0 ≤ i → i < g + 1 → gcan Ag s k i = false) fun y => (∃ g, g0 ≤ g ∧ g < min (gbg s k + 1) lim ∧ y = .inl (zJ g) ∧ gcan Ag s k g = true ∧ ∀ i, g0 ≤ i → i < g → gcan Ag s k i = false) ∨ (y = .inr () ∧ ∀ i, g0 ≤ i → i < min (gbg s k + 1) lim → gcan Ag s k i = false)) := zw_some (Or.inr ⟨rfl, fun i h1 h2 => hn i h1 (by omega)⟩)
        by_cases h1 : gbg s k < g
        · rw [if_pos (by rw [zJ_lt (by omega) (by omega)]; exact h1)]
          exact fin
        · rw [if_neg (by rw [zJ_lt (by omega) (by omega)]; exact h1), if_pos (by rw [zJ_le (by omega) (by omega)]; omega)]
          exact fin
    · rintro y (⟨g, a1, a2, rfl, a4, a5⟩ | ⟨rfl, a2⟩)
      · exact zw_some (Or.inl ⟨g, a1, a2, rfl, a4, a5⟩)
      · exact zw_some (Or.inr ⟨rfl, a2⟩)
/-- steps at most, so many being left -/
def gTm : Nat → Nat
  | 0 => 0
  | d + 1 => (8 - d) * (1 + gTm d) + 1
abbrev gBf (lim : Nat) : Int32 × Int32 × zH → Option ((Int32 × Int32 × zH) ⊕ (Int32 × zH)) := fun s => f_Packs_fitInto_b20 156 s.2.2 (zJ lim) s.1 s.2.1
/-- from a place on: a way is found, or one goes back -/
def gSim (Ag : Nat → Nat → Bool) (p lim k : Nat) (s : Nat → Nat) (r : Option (Nat → Nat)) (C v : Nat) (h : zH) : Prop :=
  (∃ c h' s', r = some s' ∧ c ≤ C ∧ gRe (gBf lim) c (zJ k, zJ v, h) (zJ p, zJ (v + c), h') ∧ zfm [(151, 151, 0, 9999)] h h' ∧ ∀ i, i < p → h'.1 151 i = zJ (s' i)) ∨ (∃ c h', r = none ∧ c ≤ C ∧ gRe (gBf lim) c (zJ k, zJ v, h) (zfj k, zJ (v + c), h') ∧ zfm [(151, 151, 0, 9999)] h h' ∧ ∀ i, i < k → h'.1 151 i = zJ (s i))
theorem gSim_step {Ag : Nat → Nat → Bool} {p lim d : Nat} {w : Nat → Nat} (hp : p ≤ 8) (hl : lim ≤ 8) (ih : ∀ k s h v, k + d = p → gCp h p w Ag → h.1 156 5 = zJ p → (∀ i, i < k → h.1 151 i = zJ (s i)) → gbg s k ≤ k → (0 < d → h.1 151 k = -1) → v + gTm d ≤ 900000 → gSim Ag p lim k s (gpk Ag lim d s k) (gTm d) v h) (k : Nat) (s : Nat → Nat) (hk : k + (d + 1) = p) (hb : gbg s k ≤ k) : ∀ R r g0 h v, r ≤ R → g0 + r = min (gbg s k + 1) lim → gCp h p w Ag → h.1 156 5 = zJ p → (∀ i, i < k → h.1 151 i = zJ (s i)) → h.1 151 k = zfj g0 → v + (r * (1 + gTm d) + 1) ≤ 900000 → gSim Ag p lim k s (gfrs (fun g => if gcan Ag s k g = true then gpk Ag lim d (gup s k g) (k + 1) else none) r g0) (r * (1 + gTm d) + 1) v h
  | R, r, g0, h, v, hR, hr, hC, h5, hs, h0, hv => by
    obtain ⟨x, hx, hx2⟩ := nextGroup_c (lim := lim) hC hp (show k < p by omega) hs hb hl h0 (by omega)
    have hB : gBf lim (zJ k, zJ v, h) = f_Packs_fitInto_b20 156 h (zJ lim) (zJ k) (zJ v) := rfl
    have c1 : ¬ (1000000 : Int32) ≤ zJ v := by
      rw [zJ_lle (n := 1000000) (by omega) (by decide)]
      show ¬ 1000000 ≤ v
      have : 0 ≤ r * (1 + gTm d) := Nat.zero_le _
      omega
    have c2 : ¬ zJ k < 0 := by
      rw [zJ_ltl (n := 0) (by omega) (by decide)]
      exact Nat.not_lt_zero _
    have c3 : ¬ h.1 156 5 ≤ zJ k := by
      rw [h5, zJ_le (by omega) (by omega)]
      omega
    have c4 : ¬ zJ p ≤ zJ k := by
      rw [zJ_le (by omega) (by omega)]
      omega
    unfold f_Packs_fitInto_b20 at hB
    rw [if_neg c1, if_neg c2, if_neg c3, hx, Option.bind_some, zb_t (by omega) (by omega), zg_tr, Option.bind_some, zg_tr, zJ_c (by omega), zI_eq] at hB
    rcases hx2 with ⟨g, g1, g2, rfl, g4, g5⟩ | ⟨rfl, g2⟩
    · have hm : gfrs (fun g => if gcan Ag s k g = true then gpk Ag lim d (gup s k g) (k + 1) else none) r g0 = gfrs (fun g => if gcan Ag s k g = true then gpk Ag lim d (gup s k g) (k + 1) else none) (r - (g - g0)) g := by
        have := gfrs_skip (F := fun g => if gcan Ag s k g = true then gpk Ag lim d (gup s k g) (k + 1) else none) (g - g0) r g0 (fun i h1 h2 => by
          rw [g5 i h1 (by omega)]
          exact if_neg (by decide)) (by omega)
        rw [show g0 + (g - g0) = g by omega] at this
        exact this
      obtain ⟨r2, hr2⟩ : ∃ r2, r - (g - g0) = r2 + 1 := ⟨r - (g - g0) - 1, by omega⟩
      rw [hm, hr2]
      have hmul : (r2 + 1) * (1 + gTm d) ≤ r * (1 + gTm d) := Nat.mul_le_mul_right _ (by omega)
      rw [Nat.succ_mul] at hmul
      have hF : (if gcan Ag s k g = true then gpk Ag lim d (gup s k g) (k + 1) else none) = gpk Ag lim d (gup s k g) (k + 1) := if_pos g4
      rw [if_pos (fun h => (zJ_m1 (by omega)).mp h), zI_ne (by omega), h5] at hB
      have z1 : zfm [(151, 151, 0, 9999)] h (zsI h 151 k (zJ g)) := zfm.rfl'.I (zin_1 (by omega) (by omega) (by omega) (by omega))
      have key : ∃ h3, gBf lim (zJ k, zJ v, h) = some (.inl (zJ (k + 1), zJ (v + 1), h3)) ∧ zfm [(151, 151, 0, 9999)] h h3 ∧ (0 < d → h3.1 151 (k + 1) = -1) ∧ ∀ i, i < k + 1 → h3.1 151 i = zJ (gup s k g i) := by
        have hv1 : ∀ i, i < k + 1 → (zsI h 151 k (zJ g)).1 151 i = zJ (gup s k g i) := by
          intro i hi
          by_cases e : i = k
          · subst e
            rw [zI_eq, gup_eq]
          · rw [zI_nk e, gup_ne e]
            exact hs i (by omega)
        rw [zJ_al, zJ_al] at hB
        by_cases hd : d = 0
        · refine ⟨zsI h 151 k (zJ g), ?_, z1, fun h => by omega, hv1⟩
          rw [hB, if_pos (by rw [zJ_le (by omega) (by show k + 1 < _; omega)]; show p ≤ k + 1; omega)]
        · refine ⟨zsI (zsI h 151 k (zJ g)) 151 (k + 1) (-1), ?_, z1.I (zin_1 (by omega) (by omega) (by omega) (by omega)), fun _ => zI_eq, fun i hi => ?_⟩
          · rw [hB, if_neg (by rw [zJ_le (by omega) (by show k + 1 < _; omega)]; show ¬ p ≤ k + 1; omega), zb_t (by show k + 1 < 8; omega) (by show k + 1 < _; omega), zg_tr, Option.bind_some, zJ_c (by show k + 1 < _; omega)]
          · rw [zI_nk (by omega)]
            exact hv1 i hi
      obtain ⟨h3, b1, b2, b3, b4⟩ := key
      have step := gRe_1 b1
      rcases ih (k + 1) (gup s k g) h3 (v + 1) (by omega) (hC.fr b2) ((b2.i (zin_n1 (by omega))).trans h5) b4 (by rw [gbg_up]; omega) b3 (by omega) with ⟨c, h4, s', a1, a2, a3, a4, a5⟩ | ⟨c, h4, a1, a2, a3, a4, a5⟩
      · refine Or.inl ⟨1 + c, h4, s', ?_, by omega, gRe_tr step (b := c) (by rw [show v + (1 + c) = v + 1 + c by omega]; exact a3) rfl, b2.trans a4, a5⟩
        exact gfrs_s (by rw [hF]; exact a1)
      · have hn : gfrs (fun g => if gcan Ag s k g = true then gpk Ag lim d (gup s k g) (k + 1) else none) (r2 + 1) g = gfrs (fun g => if gcan Ag s k g = true then gpk Ag lim d (gup s k g) (k + 1) else none) r2 (g + 1) := gfrs_n (by rw [hF]; exact a1)
        rw [hn]
        obtain ⟨R', rfl⟩ : ∃ R', R = R' + 1 := ⟨R - 1, by omega⟩
        rw [zfj_s] at a3
        have hz := b2.trans a4
        have mk := a5 k (by omega)
        rw [gup_eq] at mk
        rcases gSim_step hp hl ih k s hk hb R' r2 (g + 1) h4 (v + 1 + c) (by omega) (by omega) (hC.fr hz) ((hz.i (zin_n1 (by omega))).trans h5) (fun i hi => by rw [a5 i (by omega), gup_ne (by omega)]) mk (by omega) with ⟨c', h5', s', e1, e2, e3, e4, e5⟩ | ⟨c', h5', e1, e2, e3, e4, e5⟩
        · exact Or.inl ⟨1 + c + c', h5', s', e1, by omega, gRe_tr (gRe_tr step a3 rfl) (b := c') (by rw [show v + (1 + c + c') = v + 1 + c + c' by omega]; exact e3) rfl, hz.trans e4, e5⟩
        · exact Or.inr ⟨1 + c + c', h5', e1, by omega, gRe_tr (gRe_tr step a3 rfl) (b := c') (by rw [show v + (1 + c + c') = v + 1 + c + c' by omega]; exact e3) rfl, hz.trans e4, e5⟩
    · have hm : gfrs (fun g => if gcan Ag s k g = true then gpk Ag lim d (gup s k g) (k + 1) else none) r g0 = none := by
        have := gfrs_skip (F := fun g => if gcan Ag s k g = true then gpk Ag lim d (gup s k g) (k + 1) else none) r r g0 (fun i h1 h2 => by
          rw [g2 i h1 (by omega)]
          exact if_neg (by decide)) (Nat.le_refl _)
        rw [this, Nat.sub_self]
        rfl
      rw [hm]
      rw [if_neg (fun h => h rfl), zfj_dn (by omega), zJ_al] at hB
      refine Or.inr ⟨1, _, rfl, by omega, gRe_1 hB, zfm.rfl'.I (zin_1 (by omega) (by omega) (by omega) (by omega)), fun i hi => ?_⟩
      rw [zI_nk (by omega)]
      exact hs i hi
theorem gSim_all {Ag : Nat → Nat → Bool} {p lim : Nat} {w : Nat → Nat} (hp : p ≤ 8) (hl : lim ≤ 8) : ∀ d k s h v, k + d = p → gCp h p w Ag → h.1 156 5 = zJ p → (∀ i, i < k → h.1 151 i = zJ (s i)) → gbg s k ≤ k → (0 < d → h.1 151 k = -1) → v + gTm d ≤ 900000 → gSim Ag p lim k s (gpk Ag lim d s k) (gTm d) v h
  | 0, k, s, h, v, hk, hC, h5, hs, hb, h0, hv => by
    have : k = p := by omega
    subst this
    exact Or.inl ⟨0, h, s, rfl, Nat.zero_le _, gRe_0, zfm.rfl', hs⟩
  | d + 1, k, s, h, v, hk, hC, h5, hs, hb, h0, hv => by
    have hle : min (gbg s k + 1) lim * (1 + gTm d) ≤ (8 - d) * (1 + gTm d) := Nat.mul_le_mul_right _ (by omega)
    have e : gTm (d + 1) = (8 - d) * (1 + gTm d) + 1 := rfl
    rw [e] at hv ⊢
    have := gSim_step (w := w) hp hl (gSim_all hp hl d) k s hk hb (min (gbg s k + 1) lim) (min (gbg s k + 1) lim) 0 h v (Nat.le_refl _) (by omega) hC h5 hs (h0 (by omega)) (by omega)
    rw [gpk]
    rcases this with ⟨c, h', s', a1, a2, a3⟩ | ⟨c, h', a1, a2, a3⟩
    · exact Or.inl ⟨c, h', s', a1, by omega, a3⟩
    · exact Or.inr ⟨c, h', a1, by omega, a3⟩
theorem gTm_le : ∀ d, d ≤ 8 → gTm d ≤ 52147 := by decide
theorem fitInto_c {h : zH} {Ag : Nat → Nat → Bool} {p lim : Nat} {w s0 : Nat → Nat} (hp : p ≤ 8) (hl : lim ≤ 8) (hC : gCp h p w Ag) (h5 : h.1 156 5 = zJ p) : zw (f_Packs_fitInto 156 h (zJ lim)) fun y => zfm [(151, 151, 0, 9999)] h y.2 ∧ ((∃ s', gpk Ag lim p s0 0 = some s' ∧ y.1 = 1 ∧ ∀ i, i < p → y.2.1 151 i = zJ (s' i)) ∨ (gpk Ag lim p s0 0 = none ∧ y.1 = 0)) := by
  have hT := gTm_le p hp
  have main : ∀ h', zfm [(151, 151, 0, 9999)] h h' → (0 < p → h'.1 151 0 = -1) → zw (f_Packs_fitInto_j17 156 h' (zJ lim) 0) fun y => zfm [(151, 151, 0, 9999)] h y.2 ∧ ((∃ s', gpk Ag lim p s0 0 = some s' ∧ y.1 = 1 ∧ ∀ i, i < p → y.2.1 151 i = zJ (s' i)) ∨ (gpk Ag lim p s0 0 = none ∧ y.1 = 0)) := by
    intro h' z hm
    have h5' : h'.1 156 5 = zJ p := (z.i (zin_n1 (by omega))).trans h5
    unfold f_Packs_fitInto_j17
    have fu : ∀ c, c ≤ gTm p → c < zFU := fun c hc => by unfold zFU; omega
    rcases gSim_all (w := w) hp hl p 0 s0 h' 0 (by omega) (hC.fr z) h5' (fun i hi => absurd hi (Nat.not_lt_zero i)) (Nat.le_refl 0) hm (by omega) with ⟨c, h2, s', a1, a2, a3, a4, a5⟩ | ⟨c, h2, a1, a2, a3, a4, a5⟩
    · have e5 : h2.1 156 5 = zJ p := (a4.i (zin_n1 (by omega))).trans h5'
      have hend : gBf lim (zJ p, zJ (0 + c), h2) = some (.inr (zJ p, h2)) := by
        show f_Packs_fitInto_b20 156 h2 (zJ lim) (zJ p) (zJ (0 + c)) = _
        unfold f_Packs_fitInto_b20
        rw [if_neg (by rw [zJ_lle (n := 1000000) (by omega) (by decide)]; show ¬ 1000000 ≤ 0 + c; omega), if_neg (by rw [zJ_ltl (n := 0) (by omega) (by decide)]; exact Nat.not_lt_zero _), if_pos (by rw [e5]; exact Int32.le_refl _)]
      have hz := gRe_end a3 hend (fu c a2)
      refine zw_bi (zw_of hz (Q := fun y => y = (zJ p, h2)) rfl) ?_
      rintro y rfl
      rw [if_neg (fun h => h e5.symm)]
      exact zw_some ⟨z.trans a4, Or.inl ⟨s', a1, rfl, a5⟩⟩
    · have e5 : h2.1 156 5 = zJ p := (a4.i (zin_n1 (by omega))).trans h5'
      have hend : gBf lim (zfj 0, zJ (0 + c), h2) = some (.inr (-1, h2)) := by
        show f_Packs_fitInto_b20 156 h2 (zJ lim) (zfj 0) (zJ (0 + c)) = _
        unfold f_Packs_fitInto_b20
        rw [if_neg (by rw [zJ_lle (n := 1000000) (by omega) (by decide)]; show ¬ 1000000 ≤ 0 + c; omega), if_pos (by decide)]
        rfl
      have hz := gRe_end a3 hend (fu c a2)
      refine zw_bi (zw_of hz (Q := fun y => y = (-1, h2)) rfl) ?_
      rintro y rfl
      rw [if_pos (by rw [e5]; exact fun h => (zJ_m1 (by omega)).mp h.symm)]
      exact zw_some ⟨z.trans a4, Or.inr ⟨a1, rfl⟩⟩
  unfold f_Packs_fitInto
  rw [h5]
  by_cases h0 : p = 0
  · subst h0
    rw [if_pos (by decide)]
    exact main h zfm.rfl' (fun h => by omega)
  · rw [if_neg (by rw [zJ_lel (n := 0) (by omega) (by decide)]; show ¬ p ≤ 0; omega), Option.bind_some]
    exact main _ (zfm.rfl'.I (by rfl)) (fun _ => zI_eq)
theorem packArrange_c {h : zH} {Ag : Nat → Nat → Bool} {p L : Nat} {w s0 s' : Nat → Nat} (hp : p ≤ 8) (hC : gCp h p w Ag) (h5 : h.1 156 5 = zJ p) (hL : L ≤ p) (h1 : gpk Ag L p s0 0 = some s') (h2 : ∀ l, l < L → gpk Ag l p s0 0 = none) : zw (f_Packs_arrange 156 h) fun y => y.1 = zJ L ∧ zfm [(151, 151, 0, 9999)] h y.2 ∧ ∀ i, i < p → y.2.1 151 i = zJ (s' i) := by
  unfold f_Packs_arrange
  refine zw_bi (P := fun y => (∃ g, y = .inl (zJ L, g) ∧ zfm [(151, 151, 0, 9999)] h g ∧ ∀ i, i < p → g.1 151 i = zJ (s' i)) ∨ (L = p ∧ ∃ g, y = .inr g ∧ zfm [(151, 151, 0, 9999)] h g)) (zw_for L (fun l st => st.1 = zJ l ∧ zfm [(151, 151, 0, 9999)] h st.2) (by omega) ⟨rfl, zfm.rfl'⟩ ?_) ?_
  · rintro l ⟨a, g⟩ hl ⟨rfl, hz⟩
    dsimp only at hz ⊢
    unfold f_Packs_arrange_b2
    have e5 : g.1 156 5 = zJ p := (hz.i (zin_n1 (by omega))).trans h5
    rw [e5]
    by_cases hlp : l < p
    · rw [if_neg (by rw [zJ_le (by omega) (by omega)]; omega)]
      refine zw_bi (fitInto_c (s0 := s0) (lim := l) hp (by omega) (hC.fr hz) e5) ?_
      rintro ⟨y, g2⟩ ⟨q, ⟨t, t1, t2, t3⟩ | ⟨t1, t2⟩⟩
      · have : l = L := by
          by_cases hlL : l < L
          · rw [h2 l hlL] at t1
            cases t1
          · omega
        subst this
        rw [h1] at t1
        cases t1
        dsimp only at q t2 t3 ⊢
        rw [t2, if_neg (by decide)]
        exact zw_some (Or.inl ⟨g2, rfl, hz.trans q, t3⟩)
      · dsimp only at q t2 ⊢
        have hlL : l < L := by
          by_cases e : l = L
          · subst e
            rw [h1] at t1
            cases t1
          · omega
        rw [t2, if_pos rfl, zJ_al]
        exact zw_some ⟨hlL, rfl, hz.trans q⟩
    · rw [if_pos (by rw [zJ_le (by omega) (by omega)]; omega)]
      exact zw_some (Or.inr ⟨by omega, g, rfl, hz⟩)
  · rintro y (⟨g, rfl, a2, a3⟩ | ⟨rfl, g, rfl, a2⟩)
    · exact zw_some ⟨rfl, a2, a3⟩
    · dsimp only [Sum.elim]
      have e5 : g.1 156 5 = zJ L := (a2.i (zin_n1 (by omega))).trans h5
      rw [e5]
      refine zw_bi (fitInto_c (s0 := s0) (lim := L) hp (by omega) (hC.fr a2) e5) ?_
      rintro ⟨y, g2⟩ ⟨q, ⟨t, t1, t2, t3⟩ | ⟨t1, t2⟩⟩
      · rw [h1] at t1
        cases t1
        exact zw_some ⟨(q.i (zin_n1 (by omega))).trans e5, a2.trans q, t3⟩
      · rw [h1] at t1
        cases t1
