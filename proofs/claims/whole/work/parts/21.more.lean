theorem zcmp0 {x y : Int64} : lg_cmp x y = 0 ↔ x = y := by
  unfold lg_cmp
  constructor
  · intro h
    split at h
    · cases h
    · split at h
      · assumption
      · cases h
  · intro h
    subst h
    simp
theorem tq1 : Int32.ofInt 5 = (5 : Int32) := rfl
theorem tq2 : Int32.ofInt (-1) = (-1 : Int32) := rfl
theorem tq3 : (Int8.ofInt 22).toInt32 = (22 : Int32) := rfl
theorem tq4 : (Int16.ofInt 900).toInt32 = (900 : Int32) := rfl
theorem tq5 : (5 : Int32).toNatClampNeg = 5 := rfl
theorem tq6 (o : Nat) (h : zH) : zgv 2 h 3 o 7 = zr (some (21, o + 1)) := rfl
theorem tq7 (o : Nat) (h : zH) (i : Int32) : zgv 2 h 25 o i.toNatClampNeg = zr (some (26, o + (1 + 1 * i.toNatClampNeg))) := rfl
theorem tq8 (o : Nat) (h : zH) (x : Int32) : zput 2 h 3 o 0 (zi x) = some (zsI h o 0 x) := rfl
theorem tq9 (o : Nat) (h : zH) (x : Int32) : zput 2 h 3 o 4 (zi 1) = some (zsI h o 4 1) := rfl
