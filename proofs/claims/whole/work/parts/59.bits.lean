/-! ===== bits of numbers ===== -/
section ZNB
variable {a b i n : Nat}
theorem zJ_bv : (zJ a).toBitVec = BitVec.ofNat 32 a := rfl
theorem zJ_bit (hi : i < 32) : zBi (zJ a) i = a.testBit i := by
  unfold zBi
  rw [zJ_bv, BitVec.getLsbD_ofNat]
  simp [hi]
theorem zsm31 : ∀ i, i < 32 → ((zJ i) &&& 31).toBitVec.smod 32 = BitVec.ofNat 32 i := by decide +kernel
theorem zsu31 : ∀ i, i < 32 → (((zJ i).toUInt32 &&& Int32.toUInt32 31).toBitVec % 32) = BitVec.ofNat 32 i := by decide +kernel
theorem zshl_bv (x : Int32) (hi : i < 32) : (zshl x (zJ i)).toBitVec = x.toBitVec <<< i := by
  unfold zshl
  rw [Int32.toBitVec_shiftLeft, zsm31 i hi]
  simp
  rw [Nat.mod_eq_of_lt (by omega)]
theorem zshr_bv (x : Int32) (hi : i < 32) : (zshr x (zJ i)).toBitVec = x.toBitVec.sshiftRight i := by
  unfold zshr
  rw [Int32.toBitVec_shiftRight, zsm31 i hi]
  simp
  rw [Nat.mod_eq_of_lt (by omega)]
theorem zushr_bv (x : Int32) (hi : i < 32) : (zushr x (zJ i)).toBitVec = x.toBitVec >>> i := by
  unfold zushr
  show (x.toUInt32 >>> _).toBitVec = _
  rw [UInt32.toBitVec_shiftRight, zsu31 i hi]
  simp
  rw [Nat.mod_eq_of_lt (by omega)]
theorem zsm63 : ∀ i, i < 64 → ((zJ i).toInt64 &&& 63).toBitVec.smod 64 = BitVec.ofNat 64 i := by decide +kernel
theorem zsu63 : ∀ i, i < 64 → (((zJ i).toInt64.toUInt64 &&& Int64.toUInt64 63).toBitVec % 64) = BitVec.ofNat 64 i := by decide +kernel
theorem zlshl_bv (x : Int64) (hi : i < 64) : (zlshl x (zJ i)).toBitVec = x.toBitVec <<< i := by
  unfold zlshl
  rw [Int64.toBitVec_shiftLeft, zsm63 i hi]
  simp
  rw [Nat.mod_eq_of_lt (by omega)]
theorem zlushr_bv (x : Int64) (hi : i < 64) : (zlushr x (zJ i)).toBitVec = x.toBitVec >>> i := by
  unfold zlushr
  show (x.toUInt64 >>> _).toBitVec = _
  rw [UInt64.toBitVec_shiftRight, zsu63 i hi]
  simp
  rw [Nat.mod_eq_of_lt (by omega)]
theorem zBi_shl (x : Int32) (hi : i < 32) : zBi (zshl x (zJ i)) n = (decide (n < 32) && !decide (n < i) && zBi x (n - i)) := by
  unfold zBi
  rw [zshl_bv x hi, BitVec.getLsbD_shiftLeft]
theorem zBi_ushr (x : Int32) (hi : i < 32) : zBi (zushr x (zJ i)) n = zBi x (i + n) := by
  unfold zBi
  rw [zushr_bv x hi, BitVec.getLsbD_ushiftRight]
theorem zBl_shl (x : Int64) (hi : i < 64) : zBl (zlshl x (zJ i)) n = (decide (n < 64) && !decide (n < i) && zBl x (n - i)) := by
  unfold zBl
  rw [zlshl_bv x hi, BitVec.getLsbD_shiftLeft]
theorem zBl_ushr (x : Int64) (hi : i < 64) : zBl (zlushr x (zJ i)) n = zBl x (i + n) := by
  unfold zBl
  rw [zlushr_bv x hi, BitVec.getLsbD_ushiftRight]
theorem zJ_of_bv {x : Int32} (h : x.toBitVec.toNat = a) : x = zJ a := by
  apply Int32.toBitVec.inj
  rw [zJ_bv, ← h, BitVec.ofNat_toNat, BitVec.setWidth_eq]
theorem zJ_toNat (ha : a < 4294967296) : (zJ a).toBitVec.toNat = a := by
  rw [zJ_bv, BitVec.toNat_ofNat, Nat.mod_eq_of_lt ha]
theorem zshl_J (hi : i < 32) : zshl (zJ a) (zJ i) = zJ (a * 2 ^ i) := by
  apply Int32.toBitVec.inj
  rw [zshl_bv _ hi, zJ_bv, zJ_bv]
  apply BitVec.eq_of_toNat_eq
  rw [BitVec.toNat_shiftLeft, BitVec.toNat_ofNat, BitVec.toNat_ofNat, Nat.shiftLeft_eq, Nat.mod_mul_mod]
theorem zshl_1 (hi : i < 32) : zshl 1 (zJ i) = zJ (2 ^ i) := by
  have := zshl_J (a := 1) hi
  rw [Nat.one_mul] at this
  exact this
theorem zushr_J (ha : a < 2147483648) (hi : i < 32) : zushr (zJ a) (zJ i) = zJ (a / 2 ^ i) := by
  apply zJ_of_bv
  rw [zushr_bv _ hi, BitVec.toNat_ushiftRight, zJ_toNat (by omega), Nat.shiftRight_eq_div_pow]
theorem zshr_J (ha : a < 2147483648) (hi : i < 32) : zshr (zJ a) (zJ i) = zJ (a / 2 ^ i) := by
  apply zJ_of_bv
  rw [zshr_bv _ hi, BitVec.sshiftRight_eq_of_msb_false, BitVec.toNat_ushiftRight, zJ_toNat (by omega), Nat.shiftRight_eq_div_pow]
  rw [BitVec.msb_eq_false_iff_two_mul_lt, zJ_toNat (by omega)]
  omega
theorem zJ_and : zJ a &&& zJ b = zJ (a &&& b) := by
  apply Int32.toBitVec.inj
  rw [Int32.toBitVec_and, zJ_bv, zJ_bv, zJ_bv]
  apply BitVec.eq_of_getLsbD_eq
  intro j hj
  simp [hj]
theorem zJ_or : zJ a ||| zJ b = zJ (a ||| b) := by
  apply Int32.toBitVec.inj
  rw [Int32.toBitVec_or, zJ_bv, zJ_bv, zJ_bv]
  apply BitVec.eq_of_getLsbD_eq
  intro j hj
  simp [hj]
theorem zJ_and1 : zJ a &&& 1 = zJ (a % 2) := by
  have : zJ a &&& 1 = zJ (a &&& 1) := zJ_and (b := 1)
  rw [this, Nat.and_one_is_mod]
theorem zJ_l2i (x : Int64) (h : x.toBitVec.toNat < 2147483648) : x.toInt32 = zJ x.toBitVec.toNat := by
  apply zJ_of_bv
  show (x.toBitVec.signExtend 32).toNat = _
  rw [BitVec.signExtend_eq_setWidth_of_le _ (by decide), BitVec.toNat_setWidth, Nat.mod_eq_of_lt (by omega)]
end ZNB
/-- is there one -/
def zex (p : Nat → Bool) : Nat → Bool
  | 0 => false
  | n + 1 => zex p n || p n
theorem zex_s (p : Nat → Bool) (n : Nat) : zex p (n + 1) = (zex p n || p n) := rfl
theorem zex_iff {p : Nat → Bool} : ∀ {n : Nat}, zex p n = true ↔ ∃ k, k < n ∧ p k = true
  | 0 => ⟨fun h => (by cases h), fun h => (by obtain ⟨k, hk, -⟩ := h; omega)⟩
  | n + 1 => by
    rw [zex_s, Bool.or_eq_true, zex_iff]
    constructor
    · rintro (⟨k, hk, h⟩ | h)
      · exact ⟨k, by omega, h⟩
      · exact ⟨n, by omega, h⟩
    · rintro ⟨k, hk, h⟩
      by_cases hkn : k = n
      · subst hkn
        exact Or.inr h
      · exact Or.inl ⟨k, by omega, h⟩
theorem zex_no {p : Nat → Bool} {n : Nat} : zex p n = false ↔ ∀ k, k < n → p k = false := by
  rw [← Bool.not_eq_true, zex_iff]
  constructor
  · intro h k hk
    cases hp : p k
    · rfl
    · exact absurd ⟨k, hk, hp⟩ h
  · rintro h ⟨k, hk, hp⟩
    rw [h k hk] at hp
    cases hp
theorem zex_cong {p q : Nat → Bool} {n : Nat} (h : ∀ k, k < n → p k = q k) : zex p n = zex q n := by
  rw [Bool.eq_iff_iff, zex_iff, zex_iff]
  exact ⟨fun ⟨k, hk, hp⟩ => ⟨k, hk, by rw [← h k hk]; exact hp⟩, fun ⟨k, hk, hp⟩ => ⟨k, hk, by rw [h k hk]; exact hp⟩⟩
def zbI (b : Bool) : Int32 := if b then 1 else 0
theorem zbI_t : zbI true = 1 := rfl
theorem zbI_f : zbI false = 0 := rfl
theorem zbI_0 {b : Bool} : zbI b = 0 ↔ b = false := by cases b <;> decide
theorem zbI_1 {b : Bool} : zbI b = 1 ↔ b = true := by cases b <;> decide
theorem zbI_bo {b : Bool} : zbo (zbI b) = true := by cases b <;> decide
theorem zbI_and {b : Bool} : zbI b &&& 1 = zbI b := by cases b <;> decide
theorem zbI_J {b : Bool} : zbI b = zJ b.toNat := by cases b <;> rfl
/-- a row by its number -/
def zrw (r : Nat) : Nat → Nat := fun i => r / 2 ^ i % 2
theorem zrw_le {r i : Nat} : zrw r i ≤ 2 := by
  unfold zrw
  omega
theorem zrw_lt {r i : Nat} : zrw r i < 2 := by
  unfold zrw
  omega
theorem zpw6 {i : Nat} (h : i ≤ 6) : 1 ≤ 2 ^ i ∧ 2 ^ i ≤ 64 := by
  rcases (by omega : i = 0 ∨ i = 1 ∨ i = 2 ∨ i = 3 ∨ i = 4 ∨ i = 5 ∨ i = 6) with rfl | rfl | rfl | rfl | rfl | rfl | rfl <;> decide
