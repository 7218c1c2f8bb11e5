/-! ===== the abstract machine: values, heaps, worlds ===== -/
abbrev zV : Type := Int32 ⊕ (Int64 ⊕ Option (Nat × Nat))
abbrev zi (x : Int32) : zV := .inl x
abbrev zl (x : Int64) : zV := .inr (.inl x)
abbrev zr (r : Option (Nat × Nat)) : zV := .inr (.inr r)
def zcat : zV → Nat
  | .inl _ => 1
  | .inr (.inl _) => 2
  | .inr (.inr _) => 1
def zadr (ad : Nat → Nat) (r : Option (Nat × Nat)) : Option Nat := r.map (fun q => ad q.2)
def zcv (ad : Nat → Nat) : zV → Value
  | .inl x => .int x
  | .inr (.inl x) => .long x
  | .inr (.inr r) => va_rf (zadr ad r)
theorem zcat_cv (ad : Nat → Nat) (v : zV) : (zcv ad v).category = zcat v := by
  rcases v with x | x | r
  · rfl
  · rfl
  · cases r <;> rfl
/-- whole numbers, long ones, references, kinds by place; how many places -/
abbrev zH : Type := (Nat → Nat → Int32) × (Nat → Nat → Int64) × (Nat → Nat → Option (Nat × Nat)) × (Nat → Nat) × Nat
def zu {α : Type} (f : Nat → Nat → α) (o k : Nat) (v : α) : Nat → Nat → α := fun a b => if a = o then (if b = k then v else f a b) else f a b
theorem zu_ne {α : Type} (f : Nat → Nat → α) {o k a : Nat} (v : α) (h : a ≠ o) : zu f o k v a = f a := by
  funext b
  simp [zu, h]
theorem zu_nek {α : Type} (f : Nat → Nat → α) {o k b : Nat} (v : α) (h : b ≠ k) : zu f o k v o b = f o b := by simp [zu, h]
theorem zu_eq {α : Type} (f : Nat → Nat → α) (o k : Nat) (v : α) : zu f o k v o k = v := by simp [zu]
def zsI (h : zH) (o k : Nat) (v : Int32) : zH := (zu h.1 o k v, h.2)
def zsL (h : zH) (o k : Nat) (v : Int64) : zH := (h.1, zu h.2.1 o k v, h.2.2)
def zsR (h : zH) (o k : Nat) (v : Option (Nat × Nat)) : zH := (h.1, h.2.1, zu h.2.2.1 o k v, h.2.2.2)
def ztop (h : zH) : Nat := h.2.2.2.2
def zK (h : zH) : Nat → Nat := h.2.2.2.1
/-- the kinds of the reference's cells -/
def zmk (c : Nat) : Bool := Nat.beq c 11 || (Nat.ble 60 c && Nat.ble c 105)
/-- what is settled: nothing (0), all but the reference's (1), all (2) -/
def zstm (md c o k : Nat) : Option (Nat × Nat) := match md with
  | 0 => none
  | 1 => match zmk c with
    | true => none
    | false => zst c o k
  | _ => zst c o k
def zref (md : Nat) (h : zH) (c o k : Nat) : Option (Nat × Nat) := match zstm md c o k with
  | some r => some r
  | none => h.2.2.1 o k
def zfv (md : Nat) (ad : Nat → Nat) (h : zH) (c o k : Nat) : Value := match zty c k with
  | 1 => .long (h.2.1 o k)
  | 2 => va_rf (zadr ad (zref md h c o k))
  | _ => .int (h.1 o k)
def zent (md : Nat) (cA : Nat → ClassId) (ad : Nat → Nat) (h : zH) (c o : Nat) : va_E := match zobj c with
  | true => .inr (c, (List.range (zN c)).map (fun k => zfv md ad h c o k))
  | false => .inl (cA c, zN c, match zty c 0 with
    | 1 => .inr (.inl (h.2.1 o))
    | 2 => .inr (.inr (.inr (.inr (fun k => if k < zN c then zadr ad (zref md h c o k) else none))))
    | _ => .inl (h.1 o))
def zws (md : Nat) (cA : Nat → ClassId) (ad : Nat → Nat) (h : zH) : va_W := (List.range (ztop h)).map (fun o => (ad o, zent md cA ad h (zK h o) o))
theorem zws_get {md : Nat} {cA : Nat → ClassId} {ad : Nat → Nat} {h : zH} {o : Nat} (ho : o < ztop h) : (zws md cA ad h)[o]? = some (ad o, zent md cA ad h (zK h o) o) := by
  simp [zws, List.getElem?_map, List.getElem?_range ho]
theorem zws_len {md : Nat} {cA : Nat → ClassId} {ad : Nat → Nat} {h : zH} : (zws md cA ad h).length = ztop h := by simp [zws]
theorem zent_congr {md : Nat} {cA : Nat → ClassId} {ad : Nat → Nat} {h h' : zH} {c o : Nat} (e1 : h'.1 o = h.1 o) (e2 : h'.2.1 o = h.2.1 o) (e3 : h'.2.2.1 o = h.2.2.1 o) : zent md cA ad h' c o = zent md cA ad h c o := by
  have er : ∀ k, zref md h' c o k = zref md h c o k := by
    intro k
    unfold zref
    rw [e3]
  have ef : ∀ k, zfv md ad h' c o k = zfv md ad h c o k := by
    intro k
    unfold zfv
    rw [e1, e2, er]
  unfold zent
  rw [e1, e2]
  simp only [ef, er]
/-- one place of the world is another -/
theorem zws_set {md : Nat} {cA : Nat → ClassId} {ad : Nat → Nat} {h h' : zH} {o : Nat} {e : va_E} (hK : zK h' = zK h) (hT : ztop h' = ztop h) (ho : o < ztop h) (he : e = zent md cA ad h' (zK h o) o)
    (hne : ∀ a, a ≠ o → h'.1 a = h.1 a ∧ h'.2.1 a = h.2.1 a ∧ h'.2.2.1 a = h.2.2.1 a) : (zws md cA ad h).set o (ad o, e) = zws md cA ad h' := by
  apply List.ext_getElem?
  intro j
  by_cases hj : j = o
  · subst hj
    rw [List.getElem?_set_self (by rw [zws_len]; exact ho), zws_get (by rw [hT]; exact ho), hK, he]
  · rw [List.getElem?_set_ne (Ne.symm hj)]
    by_cases hl : j < ztop h
    · rw [zws_get hl, zws_get (by rw [hT]; exact hl), hK]
      obtain ⟨e1, e2, e3⟩ := hne j hj
      rw [zent_congr e1 e2 e3]
    · rw [List.getElem?_eq_none (by rw [zws_len]; omega), List.getElem?_eq_none (by rw [zws_len, hT]; omega)]
/-- which static places there are: the script, the rows of an input, Strings, their bytes -/
def zsta (c o : Nat) : Bool := decide ((c = 200 ∧ o = zSO) ∨ (c = 201 ∧ o = zSO + 1) ∨ (c = 202 ∧ zSO + 10 ≤ o ∧ o < zSO + 21) ∨ (c = 203 ∧ zSO + 30 ≤ o ∧ o < zSO + 41) ∨ (c = 204 ∧ o = zSO + 2))
theorem zsta_SO {c o : Nat} (h : zsta c o = true) : zSO ≤ o ∧ 200 ≤ c := by
  have h := of_decide_eq_true h
  omega
def zok (h : zH) (r : Option (Nat × Nat)) : Prop := ∀ q, r = some q → (q.2 < ztop h ∧ zK h q.2 = q.1) ∨ zsta q.1 q.2 = true
def zvok (h : zH) : zV → Prop
  | .inr (.inr r) => zok h r
  | _ => True
/-- every reference of the world points into it -/
def zRok (md : Nat) (h : zH) : Prop := ∀ o, o < ztop h → ∀ k, k < zN (zK h o) → zty (zK h o) k = 2 → zok h (zref md h (zK h o) o k)
/-- nothing made (true); or: kinds stay -/
def zle (g : Bool) (h h' : zH) : Prop := match g with
  | true => h'.2.2.2 = h.2.2.2
  | false => ztop h ≤ ztop h' ∧ ∀ o, o < ztop h → zK h' o = zK h o
theorem zle.weak {g : Bool} {h h' : zH} (q : zle g h h') : ztop h ≤ ztop h' ∧ ∀ o, o < ztop h → zK h' o = zK h o := by
  cases g
  · exact q
  · have q : h'.2.2.2 = h.2.2.2 := q
    refine ⟨?_, fun o _ => ?_⟩
    · show h.2.2.2.2 ≤ h'.2.2.2.2
      rw [q]
      exact Nat.le_refl _
    · show h'.2.2.2.1 o = h.2.2.2.1 o
      rw [q]
theorem zle.refl' {g : Bool} {h : zH} : zle g h h := by
  cases g
  · exact ⟨Nat.le_refl _, fun _ _ => rfl⟩
  · rfl
theorem zle.same {g : Bool} {h h' : zH} (q : h'.2.2.2 = h.2.2.2) : zle g h h' := by
  cases g
  · exact zle.weak (g := true) q
  · exact q
theorem zle.trans {g : Bool} {a b c : zH} (h1 : zle g a b) (h2 : zle g b c) : zle g a c := by
  cases g
  · exact ⟨Nat.le_trans h1.1 h2.1, fun o ho => (h2.2 o (Nat.lt_of_lt_of_le ho h1.1)).trans (h1.2 o ho)⟩
  · exact Eq.trans h2 h1
/-- the places below n and the static ones lie where they lay -/
def zag (n : Nat) (ad ad' : Nat → Nat) : Prop := ∀ o, o < n ∨ zSO ≤ o → ad' o = ad o
theorem zag.rfl' {n : Nat} {ad : Nat → Nat} : zag n ad ad := fun _ _ => rfl
theorem zag.trans {n m : Nat} {a b c : Nat → Nat} (h1 : zag n a b) (h2 : zag m b c) (hnm : n ≤ m) : zag n a c := fun o ho => by
  rw [h2 o (ho.imp (fun q => Nat.lt_of_lt_of_le q hnm) id), h1 o ho]
theorem zag.mono {n m : Nat} {a b : Nat → Nat} (h : zag n a b) (hm : m ≤ n) : zag m a b := fun o ho => h o (ho.imp (fun q => Nat.lt_of_lt_of_le q hm) id)
theorem zadr_ag {h : zH} {ad ad' : Nat → Nat} {r : Option (Nat × Nat)} (ha : zag (ztop h) ad ad') (hr : zok h r) : zadr ad' r = zadr ad r := by
  cases r with
  | none => rfl
  | some q =>
    show some (ad' q.2) = some (ad q.2)
    rw [ha q.2]
    rcases hr q rfl with h1 | h1
    · exact Or.inl h1.1
    · exact Or.inr (zsta_SO h1).1
theorem zcv_ag {h : zH} {ad ad' : Nat → Nat} {v : zV} (ha : zag (ztop h) ad ad') (hv : zvok h v) : zcv ad' v = zcv ad v := by
  rcases v with x | x | r
  · rfl
  · rfl
  · show va_rf (zadr ad' r) = va_rf (zadr ad r)
    rw [zadr_ag ha hv]
theorem zmap_ag {h : zH} {ad ad' : Nat → Nat} {vs : List zV} (ha : zag (ztop h) ad ad') (hv : ∀ v ∈ vs, zvok h v) : vs.map (zcv ad') = vs.map (zcv ad) :=
  List.map_congr_left fun v h1 => zcv_ag ha (hv v h1)
/-! the locals -/
def zE (ad : Nat → Nat) : Nat → List (Option zV) → List (Nat × Value)
  | _, [] => []
  | i, none :: r => zE ad (i + 1) r
  | i, some v :: r => (i, zcv ad v) :: zE ad (i + 1) r
def zcl : Option zV → Option zV
  | some (.inr (.inl _)) => none
  | a => a
def zs1 : List (Option zV) → Nat → zV → List (Option zV)
  | [], _, _ => []
  | _ :: r, 0, v => some v :: r
  | a :: r, 1, v => zcl a :: zs1 r 0 v
  | a :: r, n + 2, v => a :: zs1 r (n + 1) v
def zs2 : List (Option zV) → Nat → zV → List (Option zV)
  | [], _, _ => []
  | _ :: [], 0, v => [some v]
  | _ :: _ :: r, 0, v => some v :: none :: r
  | a :: r, 1, v => zcl a :: zs2 r 0 v
  | a :: r, n + 2, v => a :: zs2 r (n + 1) v
theorem zE_ge {ad : Nat → Nat} : ∀ (L : List (Option zV)) (b j : Nat) (w : Value), (j, w) ∈ zE ad b L → b ≤ j
  | [], _, _, _, h => by cases h
  | none :: r, b, j, w, h => by
    have := zE_ge r (b + 1) j w h
    omega
  | some v :: r, b, j, w, h => by
    rcases List.mem_cons.mp h with h | h
    · cases h
      exact Nat.le_refl _
    · have := zE_ge r (b + 1) j w h
      omega
theorem zE_get {ad : Nat → Nat} : ∀ (L : List (Option zV)) (b i : Nat) (v : zV), L[i]? = some (some v) → (b + i, zcv ad v) ∈ zE ad b L
  | [], b, i, v, h => by simp at h
  | a :: r, b, 0, v, h => by
    simp at h
    subst h
    exact List.mem_cons_self
  | none :: r, b, i + 1, v, h => by
    have h1 := zE_get (ad := ad) r (b + 1) i v (by simpa using h)
    rw [show b + (i + 1) = b + 1 + i by omega]
    exact h1
  | some a :: r, b, i + 1, v, h => by
    have h1 := zE_get (ad := ad) r (b + 1) i v (by simpa using h)
    rw [show b + (i + 1) = b + 1 + i by omega]
    exact List.mem_cons_of_mem _ h1
theorem zcl_E {ad : Nat → Nat} {a : Option zV} {r r' : List (Option zV)} {b j : Nat} {w : Value} (h : (j, w) ∈ zE ad b (zcl a :: r')) : (j, w) ∈ zE ad (b + 1) r' ∨ ((j, w) ∈ zE ad b (a :: r) ∧ j = b ∧ w.category ≠ 2) := by
  rcases a with _ | v
  · exact Or.inl h
  · rcases v with x | x | q
    · rcases List.mem_cons.mp h with h | h
      · cases h
        exact Or.inr ⟨List.mem_cons_self, rfl, fun q => by cases q⟩
      · exact Or.inl h
    · exact Or.inl h
    · rcases List.mem_cons.mp h with h | h
      · cases h
        exact Or.inr ⟨List.mem_cons_self, rfl, fun h9 => by rw [zcat_cv] at h9; cases h9⟩
      · exact Or.inl h
theorem zE_tl {ad : Nat → Nat} {a : Option zV} {r : List (Option zV)} {b j : Nat} {w : Value} (h : (j, w) ∈ zE ad (b + 1) r) : (j, w) ∈ zE ad b (a :: r) := by
  cases a with
  | none => exact h
  | some v => exact List.mem_cons_of_mem _ h
theorem zs1_mem {ad : Nat → Nat} {v : zV} : ∀ (L : List (Option zV)) (b i j : Nat) (w : Value), (j, w) ∈ zE ad b (zs1 L i v) → (j, w) = (b + i, zcv ad v) ∨ ((j, w) ∈ zE ad b L ∧ j ≠ b + i ∧ ¬ (j + 1 = b + i ∧ w.category = 2))
  | [], b, i, j, w, h => by simp [zs1, zE] at h
  | a :: r, b, 0, j, w, h => by
    rcases List.mem_cons.mp h with h | h
    · exact Or.inl h
    · have := zE_ge _ _ _ _ h
      exact Or.inr ⟨zE_tl h, by omega, by omega⟩
  | a :: r, b, 1, j, w, h => by
    rcases zcl_E (r := r) h with h | ⟨h1, h2, h3⟩
    · rcases zs1_mem r (b + 1) 0 j w h with q | ⟨q1, q2, q3⟩
      · exact Or.inl q
      · have := zE_ge _ _ _ _ q1
        exact Or.inr ⟨zE_tl q1, by omega, by omega⟩
    · exact Or.inr ⟨h1, by omega, fun q => h3 q.2⟩
  | a :: r, b, n + 2, j, w, h => by
    have key : (j, w) ∈ zE ad (b + 1) (zs1 r (n + 1) v) → (j, w) = (b + (n + 2), zcv ad v) ∨ ((j, w) ∈ zE ad b (a :: r) ∧ j ≠ b + (n + 2) ∧ ¬ (j + 1 = b + (n + 2) ∧ w.category = 2)) := by
      intro h
      rcases zs1_mem r (b + 1) (n + 1) j w h with q | ⟨q1, q2, q3⟩
      · left
        rw [q]
        congr 1
        omega
      · exact Or.inr ⟨zE_tl q1, by omega, fun q => q3 ⟨by omega, q.2⟩⟩
    cases a with
    | none => exact key h
    | some x =>
      rcases List.mem_cons.mp h with h | h
      · cases h
        exact Or.inr ⟨List.mem_cons_self, by omega, by omega⟩
      · exact key h
theorem zs2_mem {ad : Nat → Nat} {v : zV} : ∀ (L : List (Option zV)) (b i j : Nat) (w : Value), (j, w) ∈ zE ad b (zs2 L i v) → (j, w) = (b + i, zcv ad v) ∨ ((j, w) ∈ zE ad b L ∧ j ≠ b + i ∧ j ≠ b + i + 1 ∧ ¬ (j + 1 = b + i ∧ w.category = 2))
  | [], b, i, j, w, h => by simp [zs2, zE] at h
  | a :: [], b, 0, j, w, h => by
    rcases List.mem_cons.mp h with h | h
    · exact Or.inl h
    · cases h
  | a :: a' :: r, b, 0, j, w, h => by
    rcases List.mem_cons.mp h with h | h
    · exact Or.inl h
    · have h : (j, w) ∈ zE ad (b + 1 + 1) r := h
      have := zE_ge _ _ _ _ h
      exact Or.inr ⟨zE_tl (zE_tl h), by omega, by omega, by omega⟩
  | a :: r, b, 1, j, w, h => by
    rcases zcl_E (r := r) (r' := zs2 r 0 v) (by cases r <;> exact h) with h | ⟨h1, h2, h3⟩
    · rcases zs2_mem r (b + 1) 0 j w h with q | ⟨q1, q2, q3, q4⟩
      · exact Or.inl q
      · have := zE_ge _ _ _ _ q1
        exact Or.inr ⟨zE_tl q1, by omega, by omega, by omega⟩
    · exact Or.inr ⟨h1, by omega, by omega, fun q => h3 q.2⟩
  | a :: r, b, n + 2, j, w, h => by
    have key : (j, w) ∈ zE ad (b + 1) (zs2 r (n + 1) v) → (j, w) = (b + (n + 2), zcv ad v) ∨ ((j, w) ∈ zE ad b (a :: r) ∧ j ≠ b + (n + 2) ∧ j ≠ b + (n + 2) + 1 ∧ ¬ (j + 1 = b + (n + 2) ∧ w.category = 2)) := by
      intro h
      rcases zs2_mem r (b + 1) (n + 1) j w h with q | ⟨q1, q2, q3, q4⟩
      · left
        rw [q]
        congr 1
        omega
      · exact Or.inr ⟨zE_tl q1, by omega, by omega, fun q => q4 ⟨by omega, q.2⟩⟩
    cases a with
    | none => exact key (by cases r <;> exact h)
    | some x =>
      have h : (j, w) ∈ (b, zcv ad x) :: zE ad (b + 1) (zs2 r (n + 1) v) := by cases r <;> exact h
      rcases List.mem_cons.mp h with h | h
      · cases h
        exact Or.inr ⟨List.mem_cons_self, by omega, by omega, by omega⟩
      · exact key h
theorem zhas_mono {ls : Array Slot} {n : Nat} {l l' : List (Nat × Value)} (h : lv_has ls n l) (hs : ∀ q ∈ l', q ∈ l) : lv_has ls n l' := ⟨h.1, h.2.1, fun q hq => h.2.2 q (hs q hq)⟩
theorem zhas_s1 {ls : Array Slot} {n i : Nat} {ad : Nat → Nat} {L : List (Option zV)} {v : zV} (h : lv_has ls n ((i, zcv ad v) :: (zE ad 0 L).filter (fun q => !(q.1 == i) && !(q.1 + 1 == i && q.2.category == 2)))) : lv_has ls n (zE ad 0 (zs1 L i v)) := by
  refine zhas_mono h (fun q hq => ?_)
  obtain ⟨j, w⟩ := q
  rcases zs1_mem L 0 i j w hq with e | ⟨e1, e2, e3⟩
  · rw [e, Nat.zero_add]
    exact List.mem_cons_self
  · refine List.mem_cons_of_mem _ (List.mem_filter.mpr ⟨e1, ?_⟩)
    simp only [Nat.zero_add] at e2 e3
    simp only [Bool.and_eq_true, Bool.not_eq_true', beq_eq_false_iff_ne, Bool.and_eq_false_iff]
    refine ⟨e2, ?_⟩
    by_cases h9 : j + 1 = i
    · exact Or.inr (fun q => e3 ⟨h9, q⟩)
    · exact Or.inl h9
theorem zhas_s2 {ls : Array Slot} {n i : Nat} {ad : Nat → Nat} {L : List (Option zV)} {v : zV} (h : lv_has ls n ((i, zcv ad v) :: (zE ad 0 L).filter (fun q => !(q.1 == i) && (!(q.1 == i + 1) && !(q.1 + 1 == i && q.2.category == 2))))) : lv_has ls n (zE ad 0 (zs2 L i v)) := by
  refine zhas_mono h (fun q hq => ?_)
  obtain ⟨j, w⟩ := q
  rcases zs2_mem L 0 i j w hq with e | ⟨e1, e2, e4, e3⟩
  · rw [e, Nat.zero_add]
    exact List.mem_cons_self
  · refine List.mem_cons_of_mem _ (List.mem_filter.mpr ⟨e1, ?_⟩)
    simp only [Nat.zero_add] at e2 e3 e4
    simp only [Bool.and_eq_true, Bool.not_eq_true', beq_eq_false_iff_ne, Bool.and_eq_false_iff]
    refine ⟨e2, e4, ?_⟩
    by_cases h9 : j + 1 = i
    · exact Or.inr (fun q => e3 ⟨h9, q⟩)
    · exact Or.inl h9
theorem zs1_len {v : zV} : ∀ (L : List (Option zV)) (i : Nat), (zs1 L i v).length = L.length
  | [], _ => rfl
  | _ :: _, 0 => rfl
  | _ :: r, 1 => by simp [zs1, zs1_len r 0]
  | _ :: r, n + 2 => by simp [zs1, zs1_len r (n + 1)]
theorem zs2_len {v : zV} : ∀ (L : List (Option zV)) (i : Nat), (zs2 L i v).length = L.length
  | [], _ => rfl
  | _ :: [], 0 => rfl
  | _ :: _ :: _, 0 => rfl
  | _ :: r, 1 => by
    have := zs2_len (v := v) r 0
    cases r <;> simp_all [zs2]
  | _ :: r, n + 2 => by
    have := zs2_len (v := v) r (n + 1)
    cases r <;> simp_all [zs2]
theorem zs1_ok {v w : zV} : ∀ (L : List (Option zV)) (i : Nat), some w ∈ zs1 L i v → w = v ∨ some w ∈ L
  | [], _, h => by cases h
  | _ :: r, 0, h => by
    rcases List.mem_cons.mp h with h | h
    · exact Or.inl (Option.some.inj h)
    · exact Or.inr (List.mem_cons_of_mem _ h)
  | a :: r, 1, h => by
    rcases List.mem_cons.mp h with h | h
    · refine Or.inr ?_
      rcases a with _ | x | x | x
      · cases h
      · exact h ▸ List.mem_cons_self
      · cases h
      · exact h ▸ List.mem_cons_self
    · exact (zs1_ok r 0 h).imp id (List.mem_cons_of_mem _)
  | a :: r, n + 2, h => by
    rcases List.mem_cons.mp h with h | h
    · exact Or.inr (h ▸ List.mem_cons_self)
    · exact (zs1_ok r (n + 1) h).imp id (List.mem_cons_of_mem _)
theorem zs2_ok {v w : zV} : ∀ (L : List (Option zV)) (i : Nat), some w ∈ zs2 L i v → w = v ∨ some w ∈ L
  | [], _, h => by cases h
  | _ :: [], 0, h => by
    rcases List.mem_cons.mp h with h | h
    · exact Or.inl (Option.some.inj h)
    · cases h
  | _ :: _ :: r, 0, h => by
    rcases List.mem_cons.mp h with h | h
    · exact Or.inl (Option.some.inj h)
    · rcases List.mem_cons.mp h with h | h
      · cases h
      · exact Or.inr (List.mem_cons_of_mem _ (List.mem_cons_of_mem _ h))
  | a :: r, 1, h => by
    have h : some w ∈ zcl a :: zs2 r 0 v := by cases r <;> exact h
    rcases List.mem_cons.mp h with h | h
    · refine Or.inr ?_
      rcases a with _ | x | x | x
      · cases h
      · exact h ▸ List.mem_cons_self
      · cases h
      · exact h ▸ List.mem_cons_self
    · exact (zs2_ok r 0 h).imp id (List.mem_cons_of_mem _)
  | a :: r, n + 2, h => by
    have h : some w ∈ a :: zs2 r (n + 1) v := by cases r <;> exact h
    rcases List.mem_cons.mp h with h | h
    · exact Or.inr (h ▸ List.mem_cons_self)
    · exact (zs2_ok r (n + 1) h).imp id (List.mem_cons_of_mem _)
