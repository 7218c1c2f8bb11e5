/-! ===== what the readings come to ===== -/
def zw {α : Type} (e : Option α) (Q : α → Prop) : Prop := ∃ x, e = some x ∧ Q x
section Zw
variable {α β S X : Type} {Q : α → Prop}
theorem zw_some {x : α} (h : Q x) : zw (some x) Q := ⟨x, rfl, h⟩
theorem zw_of {e : Option α} {x : α} (he : e = some x) (h : Q x) : zw e Q := ⟨x, he, h⟩
theorem zw_bind {e : Option β} {f : β → Option α} (h : zw e fun x => zw (f x) Q) : zw (e.bind f) Q := by
  obtain ⟨x, rfl, y, hy, hq⟩ := h
  exact ⟨y, hy, hq⟩
theorem zw_bi {e : Option β} {f : β → Option α} {P : β → Prop} (h : zw e P) (k : ∀ x, P x → zw (f x) Q) : zw (e.bind f) Q := by
  obtain ⟨x, rfl, hp⟩ := h
  obtain ⟨y, hy, hq⟩ := k x hp
  exact ⟨y, hy, hq⟩
theorem zw_g {b : Bool} {e : Option α} (hb : b = true) (h : zw e Q) : zw (zg b e) Q := by
  subst hb
  exact h
theorem zw_if {p : Prop} [Decidable p] {a b : Option α} (ha : p → zw a Q) (hb : ¬ p → zw b Q) : zw (if p then a else b) Q := by
  by_cases h : p
  · rw [if_pos h]
    exact ha h
  · rw [if_neg h]
    exact hb h
theorem zw_gr {r : Option (Nat × Nat)} {c o : Nat} {k : Nat → Option α} (hr : r = some (c, o)) (h : zw (k o) Q) : zw (zgr r c k) Q := by
  subst hr
  unfold zgr
  simp only [Nat.beq_refl]
  exact h
theorem zgr_eq {c o : Nat} {k : Nat → Option α} : zgr (some (c, o)) c k = k o := by
  unfold zgr
  simp only [Nat.beq_refl]
theorem zw_mono {e : Option α} {P : α → Prop} (h : zw e P) (hQ : ∀ x, P x → Q x) : zw e Q := by
  obtain ⟨x, hx, hp⟩ := h
  exact ⟨x, hx, hQ x hp⟩
theorem zw_for' {b : S → Option (S ⊕ α)} {m : Nat} (I : Nat → S → Prop) (hb : ∀ k s, k ≤ m → I k s → zw (b s) (Sum.elim (fun s' => k < m ∧ I (k + 1) s') Q)) : ∀ (n k : Nat) (s : S), m - k < n → k ≤ m → I k s → zw (zit n b s) Q
  | 0, k, s, hn, hk, hi => by omega
  | n + 1, k, s, hn, hk, hi => by
    obtain ⟨r, hr, hq⟩ := hb k s hk hi
    unfold zit
    rw [hr]
    cases r with
    | inl s' =>
      obtain ⟨q1, q2⟩ := hq
      exact zw_for' I hb n (k + 1) s' (by omega) (by omega) q2
    | inr x => exact ⟨x, rfl, hq⟩
/-- a loop that counts up to m at most -/
theorem zw_for {b : S → Option (S ⊕ α)} {s0 : S} (m : Nat) (I : Nat → S → Prop) (hm : m < 1000000) (h0 : I 0 s0) (hb : ∀ k s, k ≤ m → I k s → zw (b s) (Sum.elim (fun s' => k < m ∧ I (k + 1) s') Q)) : zw (zit zFU b s0) Q :=
  zw_for' I hb zFU 0 s0 (by unfold zFU; omega) (Nat.zero_le m) h0
/-- the same, from a on -/
theorem zw_fr {b : S → Option (S ⊕ α)} {s0 : S} (a m : Nat) (I : Nat → S → Prop) (ha : a ≤ m) (hm : m < 1000000) (h0 : I a s0) (hb : ∀ k s, k ≤ m → I k s → zw (b s) (Sum.elim (fun s' => k < m ∧ I (k + 1) s') Q)) : zw (zit zFU b s0) Q :=
  zw_for' I hb zFU a s0 (by unfold zFU; omega) ha h0
/-- a loop by a measure -/
theorem zw_it {b : S → Option (S ⊕ α)} (I : S → Prop) (m : S → Nat) (hb : ∀ s, I s → zw (b s) (Sum.elim (fun s' => I s' ∧ m s' < m s) Q)) : ∀ (n : Nat) (s0 : S), I s0 → m s0 < n → zw (zit n b s0) Q
  | 0, s0, h0, hm => by omega
  | n + 1, s0, h0, hm => by
    obtain ⟨r, hr, hq⟩ := hb s0 h0
    unfold zit
    rw [hr]
    cases r with
    | inl s' =>
      obtain ⟨q1, q2⟩ := hq
      exact zw_it I m hb n s' q1 (by omega)
    | inr x => exact ⟨x, rfl, hq⟩
theorem zw_mz {b : S → Option (S ⊕ α)} {s0 : S} (I : S → Prop) (m : S → Nat) (h0 : I s0) (hm : m s0 < 1000000) (hb : ∀ s, I s → zw (b s) (Sum.elim (fun s' => I s' ∧ m s' < m s) Q)) : zw (zit zFU b s0) Q :=
  zw_it I m hb zFU s0 h0 (by unfold zFU; omega)
end Zw
theorem zg_tr {α : Type} {e : Option α} : zg true e = e := rfl
/-! numbers -/
abbrev zJ (n : Nat) : Int32 := Int32.ofNat n
section ZN
variable {a b n : Nat}
theorem zJ_lt (ha : a < 2147483648) (hb : b < 2147483648) : zJ a < zJ b ↔ a < b := by
  rw [Int32.lt_iff_toInt_lt, Int32.toInt_ofNat_of_lt ha, Int32.toInt_ofNat_of_lt hb]
  omega
theorem zJ_le (ha : a < 2147483648) (hb : b < 2147483648) : zJ a ≤ zJ b ↔ a ≤ b := by
  rw [Int32.le_iff_toInt_le, Int32.toInt_ofNat_of_lt ha, Int32.toInt_ofNat_of_lt hb]
  omega
theorem zJ_inj (ha : a < 2147483648) (hb : b < 2147483648) : zJ a = zJ b ↔ a = b := by
  rw [← Int32.toInt_inj, Int32.toInt_ofNat_of_lt ha, Int32.toInt_ofNat_of_lt hb]
  omega
theorem zJ_lit : (no_index (OfNat.ofNat n) : Int32) = zJ (OfNat.ofNat n) := rfl
theorem zJ_ltl (ha : a < 2147483648) (hb : (OfNat.ofNat n : Nat) < 2147483648) : zJ a < (no_index (OfNat.ofNat n)) ↔ a < OfNat.ofNat n := zJ_lt ha hb
theorem zJ_lel (ha : a < 2147483648) (hb : (OfNat.ofNat n : Nat) < 2147483648) : zJ a ≤ (no_index (OfNat.ofNat n)) ↔ a ≤ OfNat.ofNat n := zJ_le ha hb
theorem zJ_eql (ha : a < 2147483648) (hb : (OfNat.ofNat n : Nat) < 2147483648) : zJ a = (no_index (OfNat.ofNat n)) ↔ a = OfNat.ofNat n := zJ_inj ha hb
theorem zJ_llt (ha : a < 2147483648) (hb : (OfNat.ofNat n : Nat) < 2147483648) : (no_index (OfNat.ofNat n)) < zJ a ↔ OfNat.ofNat n < a := zJ_lt hb ha
theorem zJ_lle (ha : a < 2147483648) (hb : (OfNat.ofNat n : Nat) < 2147483648) : (no_index (OfNat.ofNat n)) ≤ zJ a ↔ OfNat.ofNat n ≤ a := zJ_le hb ha
theorem zJ_leq (ha : a < 2147483648) (hb : (OfNat.ofNat n : Nat) < 2147483648) : (no_index (OfNat.ofNat n)) = zJ a ↔ OfNat.ofNat n = a := zJ_inj hb ha
theorem zJ_m1 (ha : a < 2147483648) : zJ a = -1 ↔ False := by
  rw [← Int32.toInt_inj, Int32.toInt_ofNat_of_lt ha]
  simp
theorem zJ_m1r (ha : a < 2147483648) : -1 = zJ a ↔ False := by
  rw [eq_comm]
  exact zJ_m1 ha
theorem zJ_nle_m1 (ha : a < 2147483648) : zJ a ≤ -1 ↔ False := by
  rw [Int32.le_iff_toInt_le, Int32.toInt_ofNat_of_lt ha]
  simp
  omega
theorem zJ_m1lt (ha : a < 2147483648) : -1 < zJ a ↔ True := by
  rw [Int32.lt_iff_toInt_lt, Int32.toInt_ofNat_of_lt ha]
  simp
  omega
theorem zJ_add : zJ a + zJ b = zJ (a + b) := (Int32.ofNat_add a b).symm
theorem zJ_al : zJ a + (no_index (OfNat.ofNat n)) = zJ (a + OfNat.ofNat n) := (Int32.ofNat_add a n).symm
theorem zJ_mull : (no_index (OfNat.ofNat n)) * zJ a = zJ (OfNat.ofNat n * a) := (Int32.ofNat_mul n a).symm
theorem zJ_mlr : zJ a * (no_index (OfNat.ofNat n)) = zJ (a * OfNat.ofNat n) := (Int32.ofNat_mul a n).symm
theorem zJ_sub (h : b ≤ a) : zJ a - zJ b = zJ (a - b) := by
  have : zJ a = zJ (a - b) + zJ b := by rw [zJ_add, Nat.sub_add_cancel h]
  rw [this]
  simp
theorem zJ_subl (h : (OfNat.ofNat n : Nat) ≤ a) : zJ a - (no_index (OfNat.ofNat n)) = zJ (a - OfNat.ofNat n) := zJ_sub (b := n) h
theorem zJ_neg (h : (OfNat.ofNat n : Nat) ≤ a) : zJ a + (-(no_index (OfNat.ofNat n))) = zJ (a - OfNat.ofNat n) := by
  rw [← zJ_subl h, Int32.sub_eq_add_neg]
theorem zJ_divl (ha : a < 2147483648) (hb : (OfNat.ofNat n : Nat) < 2147483648) : zJ a / (no_index (OfNat.ofNat n)) = zJ (a / OfNat.ofNat n) := (Int32.ofNat_div ha hb).symm
theorem zreml (ha : a < 2147483648) (hb : (OfNat.ofNat n : Nat) < 2147483648) : zrem (zJ a) (no_index (OfNat.ofNat n)) = zJ (a % OfNat.ofNat n) := by
  unfold zrem
  rw [zJ_divl ha hb, zJ_mlr, zJ_sub (Nat.div_mul_le_self _ _)]
  congr 1
  have := Nat.div_add_mod a (OfNat.ofNat n)
  rw [Nat.mul_comm] at this
  omega
theorem zJ_c (ha : a < 2147483648) : (zJ a).toNatClampNeg = a := Int32.toNatClampNeg_ofNat_of_lt ha
theorem zJ_cl (ha : (OfNat.ofNat n : Nat) < 2147483648) : (no_index (OfNat.ofNat n) : Int32).toNatClampNeg = OfNat.ofNat n := zJ_c ha
theorem zb_t (h : a < n) (ha : a < 2147483648) : zb (zJ a) n = true := by
  unfold zb
  rw [zJ_c ha]
  have h0 : ¬ zJ a < (0 : Int32) := by
    rw [zJ_ltl (n := 0) ha (by decide)]
    exact Nat.not_lt_zero _
  simp [h0]
  omega
end ZN
/-- a fault, told by its number and one; 0: none -/
def zfj (f : Nat) : Int32 := if f = 0 then -1 else zJ (f - 1)
theorem zfj_0 : zfj 0 = -1 := rfl
theorem zfj_s {f : Nat} : zfj (f + 1) = zJ f := rfl
theorem zfj_1 {f : Nat} : zfj f + 1 = zJ f := by
  cases f with
  | zero => rfl
  | succ f => rw [zfj_s, zJ_al]
/-! places -/
section ZP
variable {h : zH} {o k a b : Nat}
theorem zI_eq {v : Int32} : (zsI h o k v).1 o k = v := zu_eq _ _ _ _
theorem zI_ne {v : Int32} (e : a ≠ o) : (zsI h o k v).1 a = h.1 a := zu_ne _ _ e
theorem zI_nk {v : Int32} (e : b ≠ k) : (zsI h o k v).1 o b = h.1 o b := zu_nek _ _ e
theorem zI_2 {v : Int32} : (zsI h o k v).2 = h.2 := rfl
theorem zL_1 {v : Int64} : (zsL h o k v).1 = h.1 := rfl
theorem zL_22 {v : Int64} : (zsL h o k v).2.2 = h.2.2 := rfl
theorem zL_eq {v : Int64} : (zsL h o k v).2.1 o k = v := zu_eq _ _ _ _
theorem zL_ne {v : Int64} (e : a ≠ o) : (zsL h o k v).2.1 a = h.2.1 a := zu_ne _ _ e
theorem zL_nk {v : Int64} (e : b ≠ k) : (zsL h o k v).2.1 o b = h.2.1 o b := zu_nek _ _ e
end ZP
/-! what is changed at most -/
def zin (L : List (Nat × Nat × Nat × Nat)) (o k : Nat) : Bool := L.any (fun q => Nat.ble q.1 o && Nat.ble o q.2.1 && Nat.ble q.2.2.1 k && Nat.ble k q.2.2.2)
def zfm (L : List (Nat × Nat × Nat × Nat)) (h h' : zH) : Prop := h'.2.2 = h.2.2 ∧ ∀ o k, zin L o k = false → h'.1 o k = h.1 o k ∧ h'.2.1 o k = h.2.1 o k
section Zfm
variable {L L' : List (Nat × Nat × Nat × Nat)} {h h' h2 : zH} {o k : Nat}
theorem zfm.rfl' : zfm L h h := ⟨rfl, fun _ _ _ => ⟨rfl, rfl⟩⟩
theorem zfm.I {v : Int32} (q : zfm L h h') (e : zin L o k = true) : zfm L h (zsI h' o k v) := by
  refine ⟨q.1, fun a b hn => ?_⟩
  have h1 := q.2 a b hn
  refine ⟨?_, h1.2⟩
  rw [← h1.1]
  by_cases ha : a = o
  · subst ha
    by_cases hb : b = k
    · subst hb
      rw [hn] at e
      cases e
    · exact zI_nk hb
  · rw [zI_ne ha]
theorem zfm.Lg {v : Int64} (q : zfm L h h') (e : zin L o k = true) : zfm L h (zsL h' o k v) := by
  refine ⟨q.1, fun a b hn => ?_⟩
  have h1 := q.2 a b hn
  refine ⟨h1.1, ?_⟩
  rw [← h1.2]
  by_cases ha : a = o
  · subst ha
    by_cases hb : b = k
    · subst hb
      rw [hn] at e
      cases e
    · exact zL_nk hb
  · rw [zL_ne ha]
theorem zfm.i (q : zfm L h h') (e : zin L o k = false) : h'.1 o k = h.1 o k := (q.2 o k e).1
theorem zfm.l (q : zfm L h h') (e : zin L o k = false) : h'.2.1 o k = h.2.1 o k := (q.2 o k e).2
theorem zfm.ir (q : zfm L h h') (e : ∀ k, zin L o k = false) : h'.1 o = h.1 o := funext fun k => (q.2 o k (e k)).1
theorem zfm.lr (q : zfm L h h') (e : ∀ k, zin L o k = false) : h'.2.1 o = h.2.1 o := funext fun k => (q.2 o k (e k)).2
theorem zfm.sub' (q : zfm L h h') (e : ∀ o k, zin L o k = true → zin L' o k = true) : zfm L' h h' := by
  refine ⟨q.1, fun a b hn => q.2 a b ?_⟩
  cases hz : zin L a b
  · rfl
  · rw [e a b hz] at hn
    cases hn
theorem zfm.trans (q : zfm L h h') (q2 : zfm L h' h2) : zfm L h h2 := ⟨q2.1.trans q.1, fun a b hn => ⟨(q2.2 a b hn).1.trans (q.2 a b hn).1, (q2.2 a b hn).2.trans (q.2 a b hn).2⟩⟩
def zsubL (L L' : List (Nat × Nat × Nat × Nat)) : Bool := L.all (fun q => L'.any (fun p => Nat.ble p.1 q.1 && Nat.ble q.2.1 p.2.1 && Nat.ble p.2.2.1 q.2.2.1 && Nat.ble q.2.2.2 p.2.2.2))
theorem zsubL_s (e : zsubL L L' = true) : ∀ o k, zin L o k = true → zin L' o k = true := by
  intro o k hz
  unfold zin at hz ⊢
  rw [List.any_eq_true] at hz ⊢
  obtain ⟨q, hq, hz⟩ := hz
  have h1 := List.all_eq_true.mp e q hq
  rw [List.any_eq_true] at h1
  obtain ⟨p, hp, h1⟩ := h1
  refine ⟨p, hp, ?_⟩
  simp only [Bool.and_eq_true, Nat.ble_eq] at hz h1 ⊢
  omega
theorem zfm.sub (q : zfm L h h') (e : zsubL L L' = true) : zfm L' h h' := q.sub' (zsubL_s e)
theorem zfm.tr (q : zfm L h h') (q2 : zfm L' h' h2) (e : zsubL L' L = true) : zfm L h h2 := q.trans (q2.sub e)
theorem zin_1 {a b c d : Nat} (h1 : a ≤ o) (h2 : o ≤ b) (h3 : c ≤ k) (h4 : k ≤ d) : zin ((a, b, c, d) :: L) o k = true := by
  unfold zin
  rw [List.any_eq_true]
  refine ⟨_, List.mem_cons_self, ?_⟩
  simp only [Bool.and_eq_true, Nat.ble_eq]
  omega
theorem zin_2 {q : Nat × Nat × Nat × Nat} (h1 : zin L o k = true) : zin (q :: L) o k = true := by
  unfold zin at h1 ⊢
  rw [List.any_eq_true] at h1 ⊢
  obtain ⟨p, hp, h1⟩ := h1
  exact ⟨p, List.mem_cons_of_mem _ hp, h1⟩
theorem zin_n1 {a b c d : Nat} (h : o < a ∨ b < o ∨ k < c ∨ d < k) : zin [(a, b, c, d)] o k = false := by
  cases hz : zin [(a, b, c, d)] o k
  · rfl
  · unfold zin at hz
    simp only [List.any_cons, List.any_nil, Bool.or_false, Bool.and_eq_true, Nat.ble_eq] at hz
    omega
end Zfm
/-! bits -/
def zBl (x : Int64) (i : Nat) : Bool := x.toBitVec.getLsbD i
def zBi (x : Int32) (i : Nat) : Bool := x.toBitVec.getLsbD i
section ZBits
variable {x y : Int64} {u v : Int32} {i k : Nat}
theorem zBl_and : zBl (x &&& y) i = (zBl x i && zBl y i) := by simp [zBl]
theorem zBl_or : zBl (x ||| y) i = (zBl x i || zBl y i) := by simp [zBl]
theorem zBl_xor : zBl (x ^^^ y) i = (zBl x i ^^ zBl y i) := by simp [zBl]
theorem zBi_and : zBi (u &&& v) i = (zBi u i && zBi v i) := by simp [zBi]
theorem zBi_or : zBi (u ||| v) i = (zBi u i || zBi v i) := by simp [zBi]
theorem zBi_xor : zBi (u ^^^ v) i = (zBi u i ^^ zBi v i) := by simp [zBi]
theorem zBl_0 : zBl 0 i = false := by simp [zBl]
theorem zBi_0 : zBi 0 i = false := by simp [zBi]
theorem zBl_m1 (h : i < 64) : zBl (-1) i = true := by
  have : (-1 : Int64).toBitVec = BitVec.allOnes 64 := rfl
  unfold zBl
  rw [this, BitVec.getLsbD_allOnes]
  simp [h]
theorem zBi_m1 (h : i < 32) : zBi (-1) i = true := by
  have : (-1 : Int32).toBitVec = BitVec.allOnes 32 := rfl
  unfold zBi
  rw [this, BitVec.getLsbD_allOnes]
  simp [h]
theorem zBl_ext (h : ∀ i, i < 64 → zBl x i = zBl y i) : x = y := Int64.toBitVec.inj (BitVec.eq_of_getLsbD_eq h)
theorem zBi_ext (h : ∀ i, i < 32 → zBi u i = zBi v i) : u = v := Int32.toBitVec.inj (BitVec.eq_of_getLsbD_eq h)
theorem zBl_big (h : 64 ≤ i) : zBl x i = false := BitVec.getLsbD_of_ge _ _ h
theorem zBi_big (h : 32 ≤ i) : zBi u i = false := BitVec.getLsbD_of_ge _ _ h
end ZBits
