/-! the readings alone (a stand-in while the pure part is written; out of parts 31 to 54) -/
def f_Tape_append_b3 (h : zH) (v1 : Int32) (v2 : Int32) : Option ((Int32 × zH) ⊕ (zH)) :=
  if v2 < 0 then (
  some (.inr h)) else (
  if 900 ≤ (h.1 2 1) then (
    some (.inr h)) else (
    zg (zb (h.1 2 1) 900) <|
      (some (zsI h 3 (h.1 2 1).toNatClampNeg (((zushr v1 v2).toInt8.toInt32).toInt8.toInt32))).bind fun h1 =>
      (some (zsI h1 2 1 ((h1.1 2 1) + 1))).bind fun h3 =>
      some (.inl ((v2 + (-8)), h3))))
def f_Tape_append (h : zH) (v1 : Int32) : Option (zH) :=
  (zit zFU (fun s : Int32 × zH => f_Tape_append_b3 s.2 v1 s.1) (24, h)).bind (fun y7 =>
  some y7)
def f_Main_feed (h : zH) (v1 : Int32) (v2 : Int32) (v3 : Int32) (v4 : Int32) (v5 : Int32) : Option (Int32 × zH) :=
  if ((h.1 2 1) + 20) ≤ 900 then (
  (f_Tape_append h v1).bind fun x1 =>
    (f_Tape_append x1 v2).bind fun x2 =>
    (f_Tape_append x2 v3).bind fun x3 =>
    (f_Tape_append x3 v4).bind fun x4 =>
    (f_Tape_append x4 v5).bind fun x5 =>
    some ((x5.1 2 1), x5)) else (
  some ((-1), h))
def f_Net_clear (o : Nat) (h : zH) : Option (zH) :=
  (some (zsI h o 0 0)).bind fun h1 =>
  (some (zsI h1 o 1 0)).bind fun h2 =>
  (some (zsI h2 o 2 0)).bind fun h3 =>
  (some (zsI h3 o 3 0)).bind fun h4 =>
  (some (zsI h4 o 4 0)).bind fun h5 =>
  (some (zsI h5 o 5 0)).bind fun h6 =>
  (some (zsI h6 o 6 0)).bind fun h7 =>
  some h7
def f_Math_min (v0 : Int32) (v1 : Int32) : Option (Int32) :=
  if v1 < v0 then (
  some v1) else (
  some v0)
def f_Tape_beginText (h : zH) (v1 : Int32) : Option (zH) :=
  (f_Math_min v1 (h.1 2 1)).bind fun x1 =>
  (some (zsI h 2 2 x1)).bind fun h2 =>
  (some (zsI h2 2 3 0)).bind fun h3 =>
  some h3
def f_Tape_isLetter (v0 : Int32) : Option (Int32) :=
  if v0 < 97 then (
  some 0) else (
  if 122 < v0 then (
    some 0) else (
    some 1))
def f_Tape_isDigit (v0 : Int32) : Option (Int32) :=
  if v0 < 48 then (
  some 0) else (
  if 57 < v0 then (
    some 0) else (
    some 1))
def f_Tape_readSign_j47 (h : zH) (t0 : Int32) : Option (zH) :=
  (some (zsI h 2 4 t0)).bind fun h4 =>
  some h4
def f_Tape_readSign (h : zH) : Option (zH) :=
  zg (zb (h.1 2 3) 900) <|
  (some (zsI h 2 3 ((h.1 2 3) + 1))).bind fun h2 =>
  (some (zsI h2 2 6 1)).bind fun h3 =>
  if ¬ (h.1 3 (h.1 2 3).toNatClampNeg) = 59 then (
  if ¬ (h.1 3 (h.1 2 3).toNatClampNeg) = 61 then (
    f_Tape_readSign_j47 h3 1) else (
    f_Tape_readSign_j47 h3 4)) else (
  f_Tape_readSign_j47 h3 3)
def f_Tape_readNumber_b0 (h : zH) : Option ((zH) ⊕ (zH)) :=
  if (h.1 2 2) ≤ (h.1 2 3) then (
  some (.inr h)) else (
  zg (zb (h.1 2 3) 900) <|
    (f_Tape_isDigit (h.1 3 (h.1 2 3).toNatClampNeg)).bind fun x2 =>
    if x2 = 0 then (
    some (.inr h)) else (
    zg (zb (h.1 2 3) 900) <|
      (some (zsI h 2 7 ((h.1 3 (h.1 2 3).toNatClampNeg) - 48))).bind fun h4 =>
      (some (zsI h4 2 3 ((h4.1 2 3) + 1))).bind fun h5 =>
      some (.inl h5)))
def f_Tape_readNumber (h : zH) : Option (zH) :=
  (zit zFU (fun s : zH => f_Tape_readNumber_b0 s) h).bind (fun y9 =>
  (some (zsI y9 2 6 ((y9.1 2 3) - (y9.1 2 5)))).bind fun h10 =>
    (some (zsI h10 2 4 2)).bind fun h11 =>
    some h11)
def f_Tape_readWord_b0 (h : zH) : Option ((zH) ⊕ (zH)) :=
  if (h.1 2 2) ≤ (h.1 2 3) then (
  some (.inr h)) else (
  zg (zb (h.1 2 3) 900) <|
    (f_Tape_isLetter (h.1 3 (h.1 2 3).toNatClampNeg)).bind fun x2 =>
    if x2 = 0 then (
    some (.inr h)) else (
    zg (zb (h.1 2 3) 900) <|
      (some (zsI h 2 7 ((zshl (h.1 2 7) 5) ||| (zrem (h.1 3 (h.1 2 3).toNatClampNeg) 32)))).bind fun h4 =>
      (some (zsI h4 2 3 ((h4.1 2 3) + 1))).bind fun h5 =>
      some (.inl h5)))
def f_Tape_readWord (h : zH) : Option (zH) :=
  (zit zFU (fun s : zH => f_Tape_readWord_b0 s) h).bind (fun y9 =>
  (some (zsI y9 2 6 ((y9.1 2 3) - (y9.1 2 5)))).bind fun h10 =>
    some h10)
def f_Tape_tokenOfWord (v0 : Int32) : Option (Int32) :=
  if v0 = 302 then (
  some 6) else (
  if v0 = 498 then (
    some 13) else (
    if v0 = 1476 then (
      some 12) else (
      if v0 = 14834 then (
        some 16) else (
        if v0 = 14836 then (
          some 11) else (
          if v0 = 19621 then (
            some 7) else (
            if v0 = 25074 then (
              some 14) else (
              if v0 = 206220 then (
                some 10) else (
                if v0 = 460228 then (
                  some 15) else (
                  if v0 = 656741 then (
                    some 9) else (
                    if v0 = 3409198 then (
                      some 8) else (
                      some 5)))))))))))
def f_Tape_advance_j39 (h : zH) : Option ((zH) ⊕ (zH)) :=
  (some (zsI h 2 3 ((h.1 2 3) + 1))).bind fun h2 =>
  some (.inl h2)
def f_Tape_advance_b0 (h : zH) : Option ((zH) ⊕ (zH)) :=
  if (h.1 2 2) ≤ (h.1 2 3) then (
  some (.inr h)) else (
  zg (zb (h.1 2 3) 900) <|
    if (h.1 3 (h.1 2 3).toNatClampNeg) = 32 then (
    f_Tape_advance_j39 h) else (
    zg (zb (h.1 2 3) 900) <|
      if ¬ (h.1 3 (h.1 2 3).toNatClampNeg) = 10 then (
      some (.inr h)) else (
      f_Tape_advance_j39 h)))
def f_Tape_advance_j129 (h : zH) (t0 : Int32) : Option (zH) :=
  (some (zsI h 2 4 t0)).bind fun h21 =>
  some h21
def f_Tape_advance (h : zH) : Option (zH) :=
  (zit zFU (fun s : zH => f_Tape_advance_b0 s) h).bind (fun y8 =>
  (some (zsI y8 2 5 (y8.1 2 3))).bind fun h9 =>
    (some (zsI h9 2 6 0)).bind fun h10 =>
    (some (zsI h10 2 7 0)).bind fun h11 =>
    if (h11.1 2 3) < (h11.1 2 2) then (
    zg (zb (h11.1 2 3) 900) <|
      (f_Tape_isLetter (h11.1 3 (h11.1 2 3).toNatClampNeg)).bind fun x13 =>
      if x13 = 0 then (
      zg (zb (h11.1 2 3) 900) <|
        (f_Tape_isDigit (h11.1 3 (h11.1 2 3).toNatClampNeg)).bind fun x15 =>
        if x15 = 0 then (
        (f_Tape_readSign h11).bind fun x16 =>
          some x16) else (
        (f_Tape_readNumber h11).bind fun x17 =>
          some x17)) else (
      (f_Tape_readWord h11).bind fun x19 =>
        if (x19.1 2 6) ≤ 6 then (
        (f_Tape_tokenOfWord (x19.1 2 7)).bind fun x20 =>
          f_Tape_advance_j129 x19 x20) else (
        f_Tape_advance_j129 x19 5))) else (
    (some (zsI h11 2 4 0)).bind fun h24 =>
      some h24))
def f_Parser_faultOfWord (h : zH) : Option (Int32) :=
  if (h.1 2 4) = 5 then (
  if (h.1 2 6) ≤ 6 then (
    some 0) else (
    some 2)) else (
  some 1)
def f_Net_lines (o : Nat) (h : zH) : Option (Int32) :=
  some ((h.1 o 0) + (h.1 o 1))
def f_Net_find_b2 (o : Nat) (h : zH) (v1 : Int32) (v2 : Int32) : Option ((Int32) ⊕ ((Int32) ⊕ (Unit))) :=
  (f_Net_lines o h).bind fun x1 =>
  if x1 ≤ v2 then (
  some (.inr (.inr ()))) else (
  zg (zb v2 22) <|
    if ¬ (h.1 (o + 1) v2.toNatClampNeg) = v1 then (
    some (.inl (v2 + 1))) else (
    some (.inr (.inl v2))))
def f_Net_find (o : Nat) (h : zH) (v1 : Int32) : Option (Int32) :=
  (zit zFU (fun s : Int32 => f_Net_find_b2 o h v1 s) 0).bind (Sum.elim (fun y6 =>
  some y6) (fun y7 =>
  some (-1)))
def f_Parser_refuse (h : zH) (v1 : Int32) : Option (Int32 × zH) :=
  (some (zsI h 1 2 v1)).bind fun h1 =>
  (some (zsI h1 1 3 (h1.1 2 5))).bind fun h2 =>
  some (0, h2)
def f_Parser_isNewName (h : zH) (v1 : Int32) : Option (Int32 × zH) :=
  (f_Parser_faultOfWord h).bind fun x1 =>
  if x1 = 0 then (
  if ¬ v1 = 0 then (
    zgr (h.2.2.1 1 1) 3 fun w2 =>
      (f_Net_find w2 h (h.1 2 7)).bind fun x3 =>
      if x3 = (-1) then (
      some (1, h)) else (
      (f_Parser_refuse h 4).bind fun x4 =>
        if x4.1 = 0 then (
        some (0, x4.2)) else (
        some (1, x4.2)))) else (
    (f_Parser_refuse h 2).bind fun x7 =>
      zg (zbo x7.1) (some (x7.1, x7.2)))) else (
  (f_Parser_refuse h x1).bind fun x10 =>
    zg (zbo x10.1) (some (x10.1, x10.2)))
def f_Net_nameNext (o : Nat) (h : zH) (v1 : Int32) (v2 : Int32) (v3 : Int32) : Option (zH) :=
  (f_Net_lines o h).bind fun x1 =>
  if x1 < 22 then (
  zg (zb x1 22) <|
    (some (zsI h (o + 1) x1.toNatClampNeg v1)).bind fun h2 =>
    zg (zb x1 22) <|
    (some (zsI h2 (o + 2) x1.toNatClampNeg v2)).bind fun h4 =>
    zg (zb x1 22) <|
    (some (zsI h4 (o + 3) x1.toNatClampNeg v3)).bind fun h6 =>
    zg (zb x1 22) <|
    (some (zsI h6 (o + 4) x1.toNatClampNeg 0)).bind fun h8 =>
    some h8) else (
  some h)
def f_Parser_lineHere (h : zH) : Option (Int32 × zH) :=
  (f_Parser_faultOfWord h).bind fun x1 =>
  if x1 = 0 then (
  zgr (h.2.2.1 1 1) 3 fun w2 =>
    (f_Net_find w2 h (h.1 2 7)).bind fun x3 =>
    if ¬ x3 = (-1) then (
    some (x3, h)) else (
    (f_Parser_refuse h 3).bind fun x4 =>
      some (x3, x4.2))) else (
  (f_Parser_refuse h x1).bind fun x6 =>
    some ((-1), x6.2))
def f_Net_addFrom (o : Nat) (h : zH) (v1 : Int32) : Option (zH) :=
  (f_Net_lines o h).bind fun x1 =>
  if 22 ≤ x1 then (
  some h) else (
  zg (zb x1 22) <|
    if (h.1 (o + 4) x1.toNatClampNeg) < 3 then (
    zg (zb x1 22) <|
      zg (zb x1 22) <|
      zg (zb (h.1 (o + 4) x1.toNatClampNeg) 3) <|
      (some (zsI h ((o + 5) + (1 + 1 * x1.toNatClampNeg)) (h.1 (o + 4) x1.toNatClampNeg).toNatClampNeg v1)).bind fun h5 =>
      zg (zb x1 22) <|
      zg (zb x1 22) <|
      (some (zsI h5 (o + 4) x1.toNatClampNeg ((h5.1 (o + 4) x1.toNatClampNeg) + 1))).bind fun h8 =>
      some h8) else (
    some h))
def f_Parser_readFrom_j45 (h : zH) (v1 : Int32) (v2 : Int32) (v3 : Int32) : Option ((Int32 × zH) ⊕ ((zH) ⊕ ((zH) ⊕ ((zH) ⊕ (zH))))) :=
  if ¬ v3 = v2 then (
  (f_Parser_lineHere h).bind fun x2 =>
    if ¬ x2.1 = (-1) then (
    zgr (x2.2.2.2.1 1 1) 3 fun w3 =>
      (f_Net_addFrom w3 x2.2 x2.1).bind fun x4 =>
      some (.inl ((v3 + 1), x4))) else (
    some (.inr (.inr (.inr (.inl x2.2)))))) else (
  some (.inr (.inr (.inl h))))
def f_Parser_readFrom_b2 (h : zH) (v1 : Int32) (v2 : Int32) (v3 : Int32) : Option ((Int32 × zH) ⊕ ((zH) ⊕ ((zH) ⊕ ((zH) ⊕ (zH))))) :=
  if v2 < v3 then (
  some (.inr (.inr (.inr (.inr (h)))))) else (
  (f_Tape_advance h).bind fun x1 =>
    if v3 < v1 then (
    f_Parser_readFrom_j45 x1 v1 v2 v3) else (
    if ¬ (x1.1 2 4) = 3 then (
      f_Parser_readFrom_j45 x1 v1 v2 v3) else (
      some (.inr (.inl x1)))))
def f_Parser_readFrom (h : zH) (v1 : Int32) (v2 : Int32) : Option (Int32 × zH) :=
  (zit zFU (fun s : Int32 × zH => f_Parser_readFrom_b2 s.2 v1 v2 s.1) (0, h)).bind (Sum.elim (fun y11 =>
  zgr (y11.2.2.1 1 1) 3 fun w12 =>
    (some (zsI y11 w12 1 ((y11.1 w12 1) + 1))).bind fun h13 =>
    some (1, h13)) (Sum.elim (fun y14 =>
  (f_Parser_refuse y14 1).bind fun x15 =>
    zg (zbo x15.1) (some (x15.1, x15.2))) (Sum.elim (fun y17 =>
  some (0, y17)) (fun y18 =>
  (f_Parser_refuse y18 1).bind fun x19 =>
    zg (zbo x19.1) (some (x19.1, x19.2))))))
def f_Parser_readGate_j123 (h : zH) (t0 : Int32) (t1 : Int32) : Option (Int32 × zH) :=
  (f_Parser_readFrom h t1 t0).bind fun x7 =>
  zg (zbo x7.1) (some (x7.1, x7.2))
def f_Parser_readGate_j114 (h : zH) (v3 : Int32) (t0 : Int32) : Option (Int32 × zH) :=
  if ¬ v3 = 0 then (
  f_Parser_readGate_j123 h 3 t0) else (
  f_Parser_readGate_j123 h 1 t0)
def f_Parser_readGate_j18 (h : zH) (t0 : Int32) : Option (Int32 × zH) :=
  (f_Parser_isNewName h t0).bind fun x2 =>
  if ¬ x2.1 = 0 then (
  (f_Tape_advance x2.2).bind fun x3 =>
    if (x3.1 2 4) = 4 then (
    (f_Tape_advance x3).bind fun x4 =>
      if 0 ≤ ((x4.1 2 4) - 11) then (
      zgr (x4.2.2.1 1 1) 3 fun w5 =>
        (f_Net_nameNext w5 x4 (x2.2.1 2 7) (x2.2.1 2 6) ((x4.1 2 4) - 11)).bind fun x6 =>
        if ¬ ((x4.1 2 4) - 11) = 0 then (
        f_Parser_readGate_j114 x6 ((x4.1 2 4) - 11) 2) else (
        f_Parser_readGate_j114 x6 ((x4.1 2 4) - 11) 1)) else (
      (f_Parser_refuse x4 1).bind fun x11 =>
        zg (zbo x11.1) (some (x11.1, x11.2)))) else (
    (f_Parser_refuse x3 1).bind fun x14 =>
      zg (zbo x14.1) (some (x14.1, x14.2)))) else (
  some (0, x2.2))
def f_Parser_readGate (h : zH) : Option (Int32 × zH) :=
  zgr (h.2.2.1 1 1) 3 fun w1 =>
  if 16 ≤ (h.1 w1 1) then (
  f_Parser_readGate_j18 h 0) else (
  f_Parser_readGate_j18 h 1)
def f_Net_addInput (o : Nat) (h : zH) (v1 : Int32) (v2 : Int32) : Option (zH) :=
  if (h.1 o 0) < 6 then (
  (f_Net_nameNext o h v1 v2 (-1)).bind fun x1 =>
    zg (zb (x1.1 o 0) 6) <|
    (some (zsI x1 (o + 28) (x1.1 o 0).toNatClampNeg (-1))).bind fun h2 =>
    zg (zb (h2.1 o 0) 6) <|
    (some (zsI h2 (o + 29) (h2.1 o 0).toNatClampNeg (-1))).bind fun h4 =>
    (some (zsI h4 o 0 ((h4.1 o 0) + 1))).bind fun h6 =>
    some h6) else (
  some h)
def f_Parser_readIn_j67 (h : zH) (v1 : Int32) (t0 : Int32) : Option ((Int32 × zH) ⊕ ((zH) ⊕ ((zH) ⊕ (zH)))) :=
  (f_Parser_isNewName h t0).bind fun x4 =>
  if ¬ x4.1 = 0 then (
  zgr (x4.2.2.2.1 1 1) 3 fun w5 =>
    (f_Net_addInput w5 x4.2 (x4.2.1 2 7) (x4.2.1 2 6)).bind fun x6 =>
    some (.inl ((v1 + 1), x6))) else (
  some (.inr (.inr (.inl x4.2))))
def f_Parser_readIn_j49 (h : zH) (v1 : Int32) : Option ((Int32 × zH) ⊕ ((zH) ⊕ ((zH) ⊕ (zH)))) :=
  zgr (h.2.2.1 1 1) 3 fun w3 =>
  if 6 ≤ (h.1 w3 0) then (
  f_Parser_readIn_j67 h v1 0) else (
  f_Parser_readIn_j67 h v1 1)
def f_Parser_readIn_b18 (h : zH) (v1 : Int32) : Option ((Int32 × zH) ⊕ ((zH) ⊕ ((zH) ⊕ (zH)))) :=
  if 900 ≤ v1 then (
  some (.inr (.inr (.inr (h))))) else (
  (f_Tape_advance h).bind fun x2 =>
    if v1 ≤ 0 then (
    f_Parser_readIn_j49 x2 v1) else (
    if ¬ (x2.1 2 4) = 3 then (
      f_Parser_readIn_j49 x2 v1) else (
      some (.inr (.inl x2)))))
def f_Parser_readIn (h : zH) : Option (Int32 × zH) :=
  zgr (h.2.2.1 1 1) 3 fun w1 =>
  if (h.1 w1 1) ≤ 0 then (
  (zit zFU (fun s : Int32 × zH => f_Parser_readIn_b18 s.2 s.1) (0, h)).bind (Sum.elim (fun y13 =>
    some (1, y13)) (Sum.elim (fun y14 =>
    some (0, y14)) (fun y15 =>
    (f_Parser_refuse y15 1).bind fun x16 =>
      zg (zbo x16.1) (some (x16.1, x16.2)))))) else (
  (f_Parser_refuse h 1).bind fun x18 =>
    zg (zbo x18.1) (some (x18.1, x18.2)))
def f_Main_bitOf (v0 : Int32) (v1 : Int32) : Option (Int32) :=
  some ((zushr v0 v1) &&& 1)
def f_Parser_readSee_j33 (h : zH) (v1 : Int32) : Option ((Int32 × zH) ⊕ ((zH) ⊕ ((zH) ⊕ ((zH) ⊕ (zH))))) :=
  (f_Parser_lineHere h).bind fun x2 =>
  if ¬ x2.1 = (-1) then (
  zgr (x2.2.2.2.1 1 1) 3 fun w3 =>
    (f_Main_bitOf (x2.2.1 w3 5) x2.1).bind fun x4 =>
    if ¬ x4 = 1 then (
    zgr (x2.2.2.2.1 1 1) 3 fun w5 =>
      (some (zsI x2.2 w5 5 ((x2.2.1 w5 5) ||| (zshl 1 x2.1)))).bind fun h6 =>
      some (.inl ((v1 + 1), h6))) else (
    some (.inr (.inr (.inr (.inl x2.2)))))) else (
  some (.inr (.inr (.inl x2.2))))
def f_Parser_readSee_b2 (h : zH) (v1 : Int32) : Option ((Int32 × zH) ⊕ ((zH) ⊕ ((zH) ⊕ ((zH) ⊕ (zH))))) :=
  if 900 ≤ v1 then (
  some (.inr (.inr (.inr (.inr (h)))))) else (
  (f_Tape_advance h).bind fun x1 =>
    if v1 ≤ 0 then (
    f_Parser_readSee_j33 x1 v1) else (
    if ¬ (x1.1 2 4) = 3 then (
      f_Parser_readSee_j33 x1 v1) else (
      some (.inr (.inl x1)))))
def f_Parser_readSee (h : zH) : Option (Int32 × zH) :=
  (zit zFU (fun s : Int32 × zH => f_Parser_readSee_b2 s.2 s.1) (0, h)).bind (Sum.elim (fun y13 =>
  some (1, y13)) (Sum.elim (fun y14 =>
  some (0, y14)) (Sum.elim (fun y15 =>
  (f_Parser_refuse y15 5).bind fun x16 =>
    zg (zbo x16.1) (some (x16.1, x16.2))) (fun y18 =>
  (f_Parser_refuse y18 1).bind fun x19 =>
    zg (zbo x19.1) (some (x19.1, x19.2))))))
def f_Parser_inputHere (h : zH) : Option (Int32 × zH) :=
  (f_Parser_lineHere h).bind fun x1 =>
  zgr (x1.2.2.2.1 1 1) 3 fun w2 =>
  if x1.1 < (x1.2.1 w2 0) then (
  some (x1.1, x1.2)) else (
  (f_Parser_refuse x1.2 3).bind fun x3 =>
    some ((-1), x3.2))
def f_Net_addCell (o : Nat) (h : zH) (v1 : Int32) (v2 : Int32) : Option (zH) :=
  if 3 ≤ v1 then (
  some h) else (
  zg (zb v1 3) <|
    if (h.1 (o + 34) v1.toNatClampNeg) < 6 then (
    zg (zb v2 6) <|
      (some (zsI h (o + 28) v2.toNatClampNeg v1)).bind fun h2 =>
      zg (zb v1 3) <|
      zg (zb v1 3) <|
      zg (zb (h2.1 (o + 34) v1.toNatClampNeg) 6) <|
      (some (zsI h2 ((o + 30) + (1 + 1 * v1.toNatClampNeg)) (h2.1 (o + 34) v1.toNatClampNeg).toNatClampNeg v2)).bind fun h6 =>
      zg (zb v1 3) <|
      zg (zb v1 3) <|
      (some (zsI h6 (o + 34) v1.toNatClampNeg ((h6.1 (o + 34) v1.toNatClampNeg) + 1))).bind fun h9 =>
      some h9) else (
    some h))
def f_Parser_readChain_j75 (h : zH) (v1 : Int32) (v2 : Int32) : Option ((Int32 × zH) ⊕ ((zH) ⊕ ((zH) ⊕ ((zH) ⊕ (zH))))) :=
  (f_Parser_inputHere h).bind fun x8 =>
  if ¬ x8.1 = (-1) then (
  zgr (x8.2.2.2.1 1 1) 3 fun w9 =>
    zg (zb x8.1 6) <|
    if (x8.2.1 (w9 + 28) x8.1.toNatClampNeg) = (-1) then (
    zgr (x8.2.2.2.1 1 1) 3 fun w11 =>
      (f_Net_addCell w11 x8.2 v1 x8.1).bind fun x12 =>
      some (.inl ((v2 + 1), x12))) else (
    some (.inr (.inr (.inr (.inl x8.2)))))) else (
  some (.inr (.inr (.inl x8.2))))
def f_Parser_readChain_b44 (h : zH) (v1 : Int32) (v2 : Int32) : Option ((Int32 × zH) ⊕ ((zH) ⊕ ((zH) ⊕ ((zH) ⊕ (zH))))) :=
  if 900 ≤ v2 then (
  some (.inr (.inr (.inr (.inr (h)))))) else (
  (f_Tape_advance h).bind fun x7 =>
    if v2 ≤ 0 then (
    f_Parser_readChain_j75 x7 v1 v2) else (
    if ¬ (x7.1 2 4) = 3 then (
      f_Parser_readChain_j75 x7 v1 v2) else (
      some (.inr (.inl x7)))))
def f_Parser_readChain (h : zH) : Option (Int32 × zH) :=
  zgr (h.2.2.1 1 1) 3 fun w1 =>
  if (h.1 w1 2) < 3 then (
  zgr (h.2.2.1 1 1) 3 fun w2 =>
    zg (zb (h.1 w1 2) 3) <|
    (some (zsI h (w2 + 34) (h.1 w1 2).toNatClampNeg 0)).bind fun h3 =>
    zgr (h3.2.2.1 1 1) 3 fun w5 =>
    (some (zsI h3 w5 2 ((h3.1 w5 2) + 1))).bind fun h6 =>
    (zit zFU (fun s : Int32 × zH => f_Parser_readChain_b44 s.2 (h.1 w1 2) s.1) (0, h6)).bind (Sum.elim (fun y19 =>
    some (1, y19)) (Sum.elim (fun y20 =>
    some (0, y20)) (Sum.elim (fun y21 =>
    (f_Parser_refuse y21 5).bind fun x22 =>
      zg (zbo x22.1) (some (x22.1, x22.2))) (fun y24 =>
    (f_Parser_refuse y24 1).bind fun x25 =>
      zg (zbo x25.1) (some (x25.1, x25.2))))))) else (
  (f_Parser_refuse h 2).bind fun x27 =>
    zg (zbo x27.1) (some (x27.1, x27.2)))
def f_Parser_isClosed (h : zH) : Option (Int32 × zH) :=
  (f_Tape_advance h).bind fun x1 =>
  if (x1.1 2 4) = 3 then (
  some (1, x1)) else (
  (f_Parser_refuse x1 1).bind fun x2 =>
    if x2.1 = 0 then (
    some (0, x2.2)) else (
    some (1, x2.2)))
def f_Parser_readTake (h : zH) : Option (Int32 × zH) :=
  (f_Tape_advance h).bind fun x1 =>
  (f_Parser_inputHere x1).bind fun x2 =>
  if ¬ x2.1 = (-1) then (
  zgr (x2.2.2.2.1 1 1) 3 fun w3 =>
    zg (zb x2.1 6) <|
    if ¬ (x2.2.1 (w3 + 28) x2.1.toNatClampNeg) = (-1) then (
    zgr (x2.2.2.2.1 1 1) 3 fun w5 =>
      zg (zb x2.1 6) <|
      if (x2.2.1 (w5 + 29) x2.1.toNatClampNeg) = (-1) then (
      (f_Tape_advance x2.2).bind fun x7 =>
        (f_Parser_lineHere x7).bind fun x8 =>
        if ¬ x8.1 = (-1) then (
        zgr (x8.2.2.2.1 1 1) 3 fun w9 =>
          zg (zb x2.1 6) <|
          (some (zsI x8.2 (w9 + 29) x2.1.toNatClampNeg x8.1)).bind fun h10 =>
          zgr (h10.2.2.1 1 1) 3 fun w12 =>
          (some (zsI h10 w12 6 ((h10.1 w12 6) ||| (zshl 1 x8.1)))).bind fun h13 =>
          (f_Parser_isClosed h13).bind fun x14 =>
          zg (zbo x14.1) (some (x14.1, x14.2))) else (
        some (0, x8.2))) else (
      (f_Parser_refuse x2.2 5).bind fun x17 =>
        zg (zbo x17.1) (some (x17.1, x17.2)))) else (
    (f_Parser_refuse x2.2 3).bind fun x20 =>
      zg (zbo x20.1) (some (x20.1, x20.2)))) else (
  some (0, x2.2))
def f_Parser_readFill_j62 (h : zH) : Option (Int32 × zH) :=
  (f_Parser_refuse h 2).bind fun x3 =>
  zg (zbo x3.1) (some (x3.1, x3.2))
def f_Parser_readFill (h : zH) : Option (Int32 × zH) :=
  zgr (h.2.2.1 1 1) 3 fun w1 =>
  if (h.1 w1 4) = 0 then (
  (f_Tape_advance h).bind fun x2 =>
    if (x2.1 2 4) = 2 then (
    if 1 < (x2.1 2 6) then (
      f_Parser_readFill_j62 x2) else (
      if (x2.1 2 7) ≤ 2 then (
        zgr (x2.2.2.1 1 1) 3 fun w5 =>
          (some (zsI x2 w5 4 1)).bind fun h6 =>
          zgr (h6.2.2.1 1 1) 3 fun w7 =>
          (some (zsI h6 w7 3 (h6.1 2 7))).bind fun h8 =>
          (f_Parser_isClosed h8).bind fun x9 =>
          zg (zbo x9.1) (some (x9.1, x9.2))) else (
        f_Parser_readFill_j62 x2))) else (
    (f_Parser_refuse x2 1).bind fun x13 =>
      zg (zbo x13.1) (some (x13.1, x13.2)))) else (
  (f_Parser_refuse h 5).bind fun x16 =>
    zg (zbo x16.1) (some (x16.1, x16.2)))
def f_Parser_readClause (h : zH) : Option (Int32 × zH) :=
  if (h.1 2 4) = 5 then (
  (f_Parser_readGate h).bind fun x1 =>
    zg (zbo x1.1) (some (x1.1, x1.2))) else (
  if (h.1 2 4) = 6 then (
    (f_Parser_readIn h).bind fun x4 =>
      zg (zbo x4.1) (some (x4.1, x4.2))) else (
    if (h.1 2 4) = 7 then (
      (f_Parser_readSee h).bind fun x7 =>
        zg (zbo x7.1) (some (x7.1, x7.2))) else (
      if (h.1 2 4) = 8 then (
        (f_Parser_readChain h).bind fun x10 =>
          zg (zbo x10.1) (some (x10.1, x10.2))) else (
        if (h.1 2 4) = 9 then (
          (f_Parser_readTake h).bind fun x13 =>
            zg (zbo x13.1) (some (x13.1, x13.2))) else (
          if (h.1 2 4) = 10 then (
            (f_Parser_readFill h).bind fun x16 =>
              zg (zbo x16.1) (some (x16.1, x16.2))) else (
            (f_Parser_refuse h 1).bind fun x19 =>
              zg (zbo x19.1) (some (x19.1, x19.2))))))))
def f_Tape_clear (h : zH) : Option (zH) :=
  (some (zsI h 2 1 0)).bind fun h1 =>
  some h1
def f_Parser_read_b36 (h : zH) (v2 : Int32) (v3 : Int32) : Option ((Int32 × Int32 × zH) ⊕ (zH)) :=
  if 900 ≤ v3 then (
  some (.inr h)) else (
  if v2 = 0 then (
    some (.inr h)) else (
    if (h.1 2 4) = 0 then (
      some (.inr h)) else (
      (f_Parser_readClause h).bind fun x7 =>
        (f_Tape_advance x7.2).bind fun x8 =>
        some (.inl (x7.1, (v3 + 1), x8)))))
def f_Parser_read (h : zH) (v1 : Int32) : Option (Int32 × zH) :=
  zgr (h.2.2.1 1 1) 3 fun w1 =>
  (f_Net_clear w1 h).bind fun x2 =>
  (some (zsI x2 1 2 0)).bind fun h3 =>
  (some (zsI h3 1 3 (-1))).bind fun h4 =>
  (f_Tape_beginText h4 v1).bind fun x5 =>
  (f_Tape_advance x5).bind fun x6 =>
  (zit zFU (fun s : Int32 × Int32 × zH => f_Parser_read_b36 s.2.2 s.1 s.2.1) (1, 0, x6)).bind (fun y13 =>
  (f_Tape_clear y13).bind fun x14 =>
    some ((x14.1 1 2), x14))
def f_Parser_handOver (o1 : Nat) (h : zH) : Option (Nat × zH) :=
  zgr (h.2.2.1 1 1) 3 fun w1 =>
  (some (zsR h 1 1 (some (3, o1)))).bind fun h2 =>
  some (w1, h2)
def f_Waves_unsetInputs_b2 (o : Nat) (h : zH) (v1 : Int32) : Option ((Int32 × zH) ⊕ (zH)) :=
  if 6 ≤ v1 then (
  some (.inr h)) else (
  zg (zb v1 6) <|
    (some (zsL h (o + 1) v1.toNatClampNeg 0)).bind fun h1 =>
    zg (zb v1 6) <|
    (some (zsL h1 (o + 2) v1.toNatClampNeg 0)).bind fun h3 =>
    some (.inl ((v1 + 1), h3)))
def f_Waves_unsetInputs (o : Nat) (h : zH) : Option (zH) :=
  (zit zFU (fun s : Int32 × zH => f_Waves_unsetInputs_b2 o s.2 s.1) (0, h)).bind (fun y7 =>
  some y7)
def f_Waves_setInput (o : Nat) (h : zH) (v1 : Int32) (v2 : Int64) (v4 : Int64) : Option (zH) :=
  zg (zb v1 6) <|
  zg (zb v1 6) <|
  (some (zsL h (o + 1) v1.toNatClampNeg ((h.2.1 (o + 1) v1.toNatClampNeg) ||| v2))).bind fun h2 =>
  zg (zb v1 6) <|
  zg (zb v1 6) <|
  (some (zsL h2 (o + 2) v1.toNatClampNeg ((h2.2.1 (o + 2) v1.toNatClampNeg) ||| v4))).bind fun h5 =>
  some h5
def f_Waves_spreadGate_j70 (o : Nat) (o1 : Nat) (h : zH) (v2 : Int32) (v3 : Int32) (v5 : Int64) (v7 : Int64) (v9 : Int32) (v10 : Int32) : Option ((Int64 × Int64 × Int32) ⊕ (Int64 × Int64)) :=
  zg (zb v10 22) <|
  zg (zb v10 22) <|
  some (.inl ((v5 &&& (h.2.1 (o + 3) v10.toNatClampNeg)), (v7 ||| (h.2.1 (o + 4) v10.toNatClampNeg)), (v9 + 1)))
def f_Waves_spreadGate_j107 (o : Nat) (o1 : Nat) (h : zH) (v2 : Int32) (v3 : Int32) (v5 : Int64) (v7 : Int64) (v9 : Int32) (v10 : Int32) : Option ((Int64 × Int64 × Int32) ⊕ (Int64 × Int64)) :=
  zg (zb v10 22) <|
  zg (zb v10 22) <|
  some (.inl ((v5 ||| (h.2.1 (o + 3) v10.toNatClampNeg)), (v7 &&& (h.2.1 (o + 4) v10.toNatClampNeg)), (v9 + 1)))
def f_Waves_spreadGate_b38 (o : Nat) (o1 : Nat) (h : zH) (v2 : Int32) (v3 : Int32) (v5 : Int64) (v7 : Int64) (v9 : Int32) : Option ((Int64 × Int64 × Int32) ⊕ (Int64 × Int64)) :=
  zg (zb v2 22) <|
  if (h.1 (o1 + 4) v2.toNatClampNeg) ≤ v9 then (
  some (.inr (v5, v7))) else (
  zg (zb v2 22) <|
    zg (zb v9 3) <|
    if v3 = 1 then (
    f_Waves_spreadGate_j70 o o1 h v2 v3 v5 v7 v9 (h.1 ((o1 + 5) + (1 + 1 * v2.toNatClampNeg)) v9.toNatClampNeg)) else (
    if ¬ v3 = 4 then (
      if v3 = 2 then (
        f_Waves_spreadGate_j107 o o1 h v2 v3 v5 v7 v9 (h.1 ((o1 + 5) + (1 + 1 * v2.toNatClampNeg)) v9.toNatClampNeg)) else (
        if ¬ v3 = 5 then (
          zg (zb (h.1 ((o1 + 5) + (1 + 1 * v2.toNatClampNeg)) v9.toNatClampNeg) 22) <|
            zg (zb (h.1 ((o1 + 5) + (1 + 1 * v2.toNatClampNeg)) v9.toNatClampNeg) 22) <|
            zg (zb (h.1 ((o1 + 5) + (1 + 1 * v2.toNatClampNeg)) v9.toNatClampNeg) 22) <|
            zg (zb (h.1 ((o1 + 5) + (1 + 1 * v2.toNatClampNeg)) v9.toNatClampNeg) 22) <|
            some (.inl (((v5 &&& (h.2.1 (o + 4) (h.1 ((o1 + 5) + (1 + 1 * v2.toNatClampNeg)) v9.toNatClampNeg).toNatClampNeg)) ||| (v7 &&& (h.2.1 (o + 3) (h.1 ((o1 + 5) + (1 + 1 * v2.toNatClampNeg)) v9.toNatClampNeg).toNatClampNeg))), ((v5 &&& (h.2.1 (o + 3) (h.1 ((o1 + 5) + (1 + 1 * v2.toNatClampNeg)) v9.toNatClampNeg).toNatClampNeg)) ||| (v7 &&& (h.2.1 (o + 4) (h.1 ((o1 + 5) + (1 + 1 * v2.toNatClampNeg)) v9.toNatClampNeg).toNatClampNeg))), (v9 + 1)))) else (
          f_Waves_spreadGate_j107 o o1 h v2 v3 v5 v7 v9 (h.1 ((o1 + 5) + (1 + 1 * v2.toNatClampNeg)) v9.toNatClampNeg)))) else (
      f_Waves_spreadGate_j70 o o1 h v2 v3 v5 v7 v9 (h.1 ((o1 + 5) + (1 + 1 * v2.toNatClampNeg)) v9.toNatClampNeg))))
def f_Waves_spreadGate_j246 (o : Nat) (o1 : Nat) (h : zH) (t0 : Int64) (t1 : Int32) : Option (zH) :=
  zg (zb t1 22) <|
  (some (zsL h (o + 4) t1.toNatClampNeg t0)).bind fun h25 =>
  some h25
def f_Waves_spreadGate_j228 (o : Nat) (o1 : Nat) (h : zH) (v2 : Int32) (v5 : Int64) (v7 : Int64) (v9 : Int32) (t0 : Int64) (t1 : Int32) : Option (zH) :=
  zg (zb t1 22) <|
  (some (zsL h (o + 3) t1.toNatClampNeg t0)).bind fun h23 =>
  if v9 = 0 then (
  f_Waves_spreadGate_j246 o o1 h23 v7 v2) else (
  f_Waves_spreadGate_j246 o o1 h23 v5 v2)
def f_Waves_spreadGate_j209 (o : Nat) (o1 : Nat) (h : zH) (v2 : Int32) (v5 : Int64) (v7 : Int64) (t0 : Int32) : Option (zH) :=
  if t0 = 0 then (
  f_Waves_spreadGate_j228 o o1 h v2 v5 v7 t0 v5 v2) else (
  f_Waves_spreadGate_j228 o o1 h v2 v5 v7 t0 v7 v2)
def f_Waves_spreadGate (o : Nat) (o1 : Nat) (h : zH) (v2 : Int32) : Option (zH) :=
  zg (zb v2 22) <|
  zg (zb v2 22) <|
  zg (zb (h.1 ((o1 + 5) + (1 + 1 * v2.toNatClampNeg)) 0) 22) <|
  zg (zb (h.1 ((o1 + 5) + (1 + 1 * v2.toNatClampNeg)) 0) 22) <|
  (zit zFU (fun s : Int64 × Int64 × Int32 => f_Waves_spreadGate_b38 o o1 h v2 (h.1 (o1 + 3) v2.toNatClampNeg) s.1 s.2.1 s.2.2) ((h.2.1 (o + 3) (h.1 ((o1 + 5) + (1 + 1 * v2.toNatClampNeg)) 0).toNatClampNeg), (h.2.1 (o + 4) (h.1 ((o1 + 5) + (1 + 1 * v2.toNatClampNeg)) 0).toNatClampNeg), 1)).bind (fun y22 =>
  if (h.1 (o1 + 3) v2.toNatClampNeg) = 0 then (
    f_Waves_spreadGate_j209 o o1 h v2 y22.1 y22.2 1) else (
    if (h.1 (o1 + 3) v2.toNatClampNeg) = 4 then (
      f_Waves_spreadGate_j209 o o1 h v2 y22.1 y22.2 1) else (
      if ¬ (h.1 (o1 + 3) v2.toNatClampNeg) = 5 then (
        f_Waves_spreadGate_j209 o o1 h v2 y22.1 y22.2 0) else (
        f_Waves_spreadGate_j209 o o1 h v2 y22.1 y22.2 1))))
def f_Waves_spread_j51 (o : Nat) (o1 : Nat) (h : zH) (v2 : Int32) (v3 : Int32) (v4 : Int32) (t0 : Int64) (t1 : Int32) : Option ((Int32 × zH) ⊕ (zH)) :=
  zg (zb t1 22) <|
  (some (zsL h (o + 3) t1.toNatClampNeg t0)).bind fun h10 =>
  zg (zb v4 22) <|
  zg (zb v4 22) <|
  (some (zsL h10 (o + 4) v4.toNatClampNeg ((h10.2.1 (o + 3) v4.toNatClampNeg) ^^^ (-1)))).bind fun h13 =>
  some (.inl ((v4 + 1), h13))
def f_Waves_spread_b16 (o : Nat) (o1 : Nat) (h : zH) (v2 : Int32) (v3 : Int32) (v4 : Int32) : Option ((Int32 × zH) ⊕ (zH)) :=
  (f_Net_lines o1 h).bind fun x1 =>
  if x1 ≤ v4 then (
  some (.inr h)) else (
  if ¬ v4 = v3 then (
    if (h.1 o1 0) ≤ v4 then (
      (f_Waves_spreadGate o o1 h v4).bind fun x2 =>
        some (.inl ((v4 + 1), x2))) else (
      zg (zb v4 6) <|
        zg (zb v4 22) <|
        (some (zsL h (o + 3) v4.toNatClampNeg (h.2.1 (o + 1) v4.toNatClampNeg))).bind fun h4 =>
        zg (zb v4 6) <|
        zg (zb v4 22) <|
        (some (zsL h4 (o + 4) v4.toNatClampNeg (h4.2.1 (o + 2) v4.toNatClampNeg))).bind fun h7 =>
        some (.inl ((v4 + 1), h7)))) else (
    if ¬ (zrem v2 2) = 1 then (
      f_Waves_spread_j51 o o1 h v2 v3 v4 0 v4) else (
      f_Waves_spread_j51 o o1 h v2 v3 v4 (-1) v4)))
def f_Waves_spread_j12 (o : Nat) (o1 : Nat) (h : zH) (v2 : Int32) (t0 : Int32) : Option (zH) :=
  (zit zFU (fun s : Int32 × zH => f_Waves_spread_b16 o o1 s.2 v2 t0 s.1) (0, h)).bind (fun y19 =>
  some y19)
def f_Waves_spread (o : Nat) (o1 : Nat) (h : zH) (v2 : Int32) : Option (zH) :=
  if ¬ v2 = (-1) then (
  f_Waves_spread_j12 o o1 h v2 (v2 / 2)) else (
  f_Waves_spread_j12 o o1 h v2 (-1))
def f_Catalog_allRows (h : zH) : Option (Int64) :=
  if (h.1 74 1) < 64 then (
  some ((zlshl 1 (h.1 74 1)) - 1)) else (
  some (-1))
def f_Catalog_tellAll_b9 (o1 : Nat) (h : zH) (v2 : Int32) : Option ((Int32 × zH) ⊕ (zH)) :=
  if (h.1 o1 0) ≤ v2 then (
  some (.inr h)) else (
  zg (zb v2 6) <|
    zg (zb v2 6) <|
    (f_Waves_setInput 132 h v2 (zrows v2.toNatClampNeg) ((zrows v2.toNatClampNeg) ^^^ (-1))).bind fun x4 =>
    some (.inl ((v2 + 1), x4)))
def f_Catalog_tellAll_b66 (o1 : Nat) (h : zH) (v2 : Int32) (v3 : Int32) : Option ((Int32 × zH) ⊕ (zH)) :=
  (f_Net_lines o1 h).bind fun x9 =>
  if x9 ≤ v3 then (
  some (.inr h)) else (
  zg (zb (v2 + 1) 45) <|
    zg (zb v3 22) <|
    (f_Catalog_allRows h).bind fun x12 =>
    zg (zb v3 22) <|
    (some (zsL h (75 + (1 + 1 * (v2 + 1).toNatClampNeg)) v3.toNatClampNeg ((h.2.1 135 v3.toNatClampNeg) &&& x12))).bind fun h13 =>
    some (.inl ((v3 + 1), h13)))
def f_Catalog_tellAll_b47 (o1 : Nat) (h : zH) (v2 : Int32) : Option ((Int32 × zH) ⊕ (zH)) :=
  if (h.1 74 0) ≤ v2 then (
  some (.inr h)) else (
  (f_Waves_spread 132 o1 h v2).bind fun x8 =>
    (zit zFU (fun s : Int32 × zH => f_Catalog_tellAll_b66 o1 s.2 v2 s.1) (0, x8)).bind (fun y17 =>
    some (.inl ((v2 + 1), y17))))
def f_Catalog_tellAll (o1 : Nat) (h : zH) : Option (zH) :=
  (f_Waves_unsetInputs 132 h).bind fun x1 =>
  (zit zFU (fun s : Int32 × zH => f_Catalog_tellAll_b9 o1 s.2 s.1) (0, x1)).bind (fun y7 =>
  (zit zFU (fun s : Int32 × zH => f_Catalog_tellAll_b47 o1 s.2 s.1) ((-1), y7)).bind (fun y20 =>
    some y20))
def f_Net_isSeen (o : Nat) (h : zH) (v1 : Int32) : Option (Int32) :=
  (f_Main_bitOf ((h.1 o 5) ||| (h.1 o 6)) v1).bind fun x1 =>
  if ¬ x1 = 1 then (
  some 0) else (
  some 1)
def f_Catalog_unlike_b6 (o1 : Nat) (h : zH) (v2 : Int32) (v3 : Int32) (v4 : Int64) (v6 : Int32) : Option ((Int64 × Int32) ⊕ (Int64)) :=
  (f_Net_lines o1 h).bind fun x1 =>
  if x1 ≤ v6 then (
  some (.inr v4)) else (
  (f_Net_isSeen o1 h v6).bind fun x2 =>
    if x2 = 0 then (
    some (.inl (v4, (v6 + 1)))) else (
    zg (zb (v2 + 1) 45) <|
      zg (zb v6 22) <|
      zg (zb (v3 + 1) 45) <|
      zg (zb v6 22) <|
      some (.inl ((v4 ||| ((h.2.1 (75 + (1 + 1 * (v2 + 1).toNatClampNeg)) v6.toNatClampNeg) ^^^ (h.2.1 (75 + (1 + 1 * (v3 + 1).toNatClampNeg)) v6.toNatClampNeg))), (v6 + 1)))))
def f_Catalog_unlike (o1 : Nat) (h : zH) (v2 : Int32) (v3 : Int32) : Option (Int64) :=
  (zit zFU (fun s : Int64 × Int32 => f_Catalog_unlike_b6 o1 h v2 v3 s.1 s.2) (0, 0)).bind (fun y10 =>
  some y10)
def f_Catalog_findTests_b7 (o1 : Nat) (h : zH) (v2 : Int32) : Option ((Int32 × zH) ⊕ (zH)) :=
  if (h.1 74 0) ≤ v2 then (
  some (.inr h)) else (
  (f_Catalog_unlike o1 h (-1) v2).bind fun x2 =>
    zg (zb v2 44) <|
    (some (zsL h 121 v2.toNatClampNeg x2)).bind fun h3 =>
    zg (zb v2 44) <|
    if (h3.2.1 121 v2.toNatClampNeg) = 0 then (
    some (.inl ((v2 + 1), h3))) else (
    (some (zsL h3 74 3 ((h3.2.1 74 3) ||| (zlshl 1 v2)))).bind fun h6 =>
      some (.inl ((v2 + 1), h6))))
def f_Catalog_findTests (o1 : Nat) (h : zH) : Option (zH) :=
  (some (zsL h 74 3 0)).bind fun h1 =>
  (zit zFU (fun s : Int32 × zH => f_Catalog_findTests_b7 o1 s.2 s.1) (0, h1)).bind (fun y10 =>
  some y10)
def f_Catalog_listCubeRows_b7 (h : zH) (v1 : Int32) (v2 : Int32) : Option ((Int32 × zH) ⊕ (zH)) :=
  if v1 ≤ v2 then (
  some (.inr h)) else (
  (some (zsI h 74 2 ((h.1 74 2) * 3))).bind fun h2 =>
    some (.inl ((v2 + 1), h2)))
def f_Catalog_listCubeRows_j117 (h : zH) (v1 : Int32) (v2 : Int32) (v3 : Int32) (v4 : Int32) (t0 : Int32) (t1 : Int32) (t2 : Int32) : Option ((Int32 × Int32 × zH) ⊕ (zH)) :=
  zg (zb t2 729) <|
  (some (zsI h 126 t2.toNatClampNeg (t1 ||| t0))).bind fun h14 =>
  some (.inl ((v3 / 3), (v4 + (-1)), h14))
def f_Catalog_listCubeRows_j93 (h : zH) (v1 : Int32) (v2 : Int32) (v3 : Int32) (v4 : Int32) (t0 : Int32) (t1 : Int32) (t2 : Int32) : Option ((Int32 × Int32 × zH) ⊕ (zH)) :=
  zg (zb t2 729) <|
  (some (zsI h 125 t2.toNatClampNeg (t1 ||| t0))).bind fun h11 =>
  zg (zb v2 729) <|
  if ¬ (zrem v3 3) = 1 then (
  f_Catalog_listCubeRows_j117 h11 v1 v2 v3 v4 0 (h11.1 126 v2.toNatClampNeg) v2) else (
  f_Catalog_listCubeRows_j117 h11 v1 v2 v3 v4 (zshl 1 v4) (h11.1 126 v2.toNatClampNeg) v2)
def f_Catalog_listCubeRows_b66 (h : zH) (v1 : Int32) (v2 : Int32) (v3 : Int32) (v4 : Int32) : Option ((Int32 × Int32 × zH) ⊕ (zH)) :=
  if v4 < 0 then (
  some (.inr h)) else (
  zg (zb v2 729) <|
    if ¬ (zrem v3 3) = 2 then (
    f_Catalog_listCubeRows_j93 h v1 v2 v3 v4 (zshl 1 v4) (h.1 125 v2.toNatClampNeg) v2) else (
    f_Catalog_listCubeRows_j93 h v1 v2 v3 v4 0 (h.1 125 v2.toNatClampNeg) v2))
def f_Catalog_listCubeRows_b30 (h : zH) (v1 : Int32) (v2 : Int32) : Option ((Int32 × zH) ⊕ (zH)) :=
  if (h.1 74 2) ≤ v2 then (
  some (.inr h)) else (
  if 729 ≤ v2 then (
    some (.inr h)) else (
    zg (zb v2 729) <|
      (some (zsI h 125 v2.toNatClampNeg 0)).bind fun h6 =>
      zg (zb v2 729) <|
      (some (zsI h6 126 v2.toNatClampNeg 0)).bind fun h8 =>
      (zit zFU (fun s : Int32 × Int32 × zH => f_Catalog_listCubeRows_b66 s.2.2 v1 v2 s.1 s.2.1) (v2, (v1 - 1), h8)).bind (fun y20 =>
      some (.inl ((v2 + 1), y20)))))
def f_Catalog_listCubeRows (h : zH) (v1 : Int32) : Option (zH) :=
  (some (zsI h 74 2 1)).bind fun h1 =>
  (zit zFU (fun s : Int32 × zH => f_Catalog_listCubeRows_b7 s.2 v1 s.1) (0, h1)).bind (fun y5 =>
  (zit zFU (fun s : Int32 × zH => f_Catalog_listCubeRows_b30 s.2 v1 s.1) (0, y5)).bind (fun y24 =>
    some y24))
def f_Waves_copyInputs_b2 (o : Nat) (o1 : Nat) (h : zH) (v2 : Int32) : Option ((Int32 × zH) ⊕ (zH)) :=
  if 6 ≤ v2 then (
  some (.inr h)) else (
  zg (zb v2 6) <|
    zg (zb v2 6) <|
    (some (zsL h (o + 1) v2.toNatClampNeg (h.2.1 (o1 + 1) v2.toNatClampNeg))).bind fun h2 =>
    zg (zb v2 6) <|
    zg (zb v2 6) <|
    (some (zsL h2 (o + 2) v2.toNatClampNeg (h2.2.1 (o1 + 2) v2.toNatClampNeg))).bind fun h5 =>
    some (.inl ((v2 + 1), h5)))
def f_Waves_copyInputs (o : Nat) (o1 : Nat) (h : zH) : Option (zH) :=
  (zit zFU (fun s : Int32 × zH => f_Waves_copyInputs_b2 o o1 s.2 s.1) (0, h)).bind (fun y9 =>
  some y9)
def f_Catalog_setCubeRows_b48 (h : zH) (v1 : Int32) (v2 : Int32) (v3 : Int32) (v4 : Int32) (v5 : Int32) (v6 : Int32) : Option ((Int32 × zH) ⊕ (zH)) :=
  if v1 ≤ v6 then (
  some (.inr h)) else (
  (f_Main_bitOf v5 v6).bind fun x4 =>
    (f_Main_bitOf (v4 &&& (v5 ^^^ (-1))) v6).bind fun x5 =>
    (f_Waves_setInput 127 h v6 (zlshl x4.toInt64 v3) (zlshl x5.toInt64 v3)).bind fun x6 =>
    some (.inl ((v6 + 1), x6)))
def f_Catalog_setCubeRows_b9 (h : zH) (v1 : Int32) (v2 : Int32) (v3 : Int32) : Option ((Int32 × zH) ⊕ (zH)) :=
  if 64 ≤ v3 then (
  some (.inr h)) else (
  if (h.1 74 2) ≤ (v2 + v3) then (
    some (.inr h)) else (
    zg (zb (v2 + v3) 729) <|
      zg (zb (v2 + v3) 729) <|
      (zit zFU (fun s : Int32 × zH => f_Catalog_setCubeRows_b48 s.2 v1 v2 v3 (h.1 125 (v2 + v3).toNatClampNeg) (h.1 126 (v2 + v3).toNatClampNeg) s.1) (0, h)).bind (fun y9 =>
      some (.inl ((v3 + 1), y9)))))
def f_Catalog_setCubeRows (h : zH) (v1 : Int32) (v2 : Int32) : Option (zH) :=
  (f_Waves_unsetInputs 127 h).bind fun x1 =>
  (zit zFU (fun s : Int32 × zH => f_Catalog_setCubeRows_b9 s.2 v1 v2 s.1) (0, x1)).bind (fun y13 =>
  (f_Waves_copyInputs 132 127 y13).bind fun x14 =>
    some x14)
def f_Catalog_isLost (h : zH) (v1 : Int32) : Option (Int32) :=
  if ¬ ((zlushr (h.2.1 74 3) v1) &&& 1) = 0 then (
  some 0) else (
  some 1)
def f_Waves_tellApart_b5 (o : Nat) (o1 : Nat) (o2 : Nat) (h : zH) (v3 : Int64) (v5 : Int32) : Option ((Int64 × Int32) ⊕ (Int64)) :=
  (f_Net_lines o2 h).bind fun x1 =>
  if x1 ≤ v5 then (
  some (.inr v3)) else (
  (f_Net_isSeen o2 h v5).bind fun x2 =>
    if x2 = 0 then (
    some (.inl (v3, (v5 + 1)))) else (
    zg (zb v5 22) <|
      zg (zb v5 22) <|
      zg (zb v5 22) <|
      zg (zb v5 22) <|
      some (.inl ((v3 ||| (((h.2.1 (o + 3) v5.toNatClampNeg) &&& (h.2.1 (o1 + 4) v5.toNatClampNeg)) ||| ((h.2.1 (o + 4) v5.toNatClampNeg) &&& (h.2.1 (o1 + 3) v5.toNatClampNeg)))), (v5 + 1)))))
def f_Waves_tellApart (o : Nat) (o1 : Nat) (o2 : Nat) (h : zH) : Option (Int64) :=
  (zit zFU (fun s : Int64 × Int32 => f_Waves_tellApart_b5 o o1 o2 h s.1 s.2) (0, 0)).bind (fun y10 =>
  some y10)
def f_Integer_bitCount (v0 : Int32) : Option (Int32) :=
  some ((((((((v0 - ((zushr v0 1) &&& 1431655765)) &&& 858993459) + ((zushr (v0 - ((zushr v0 1) &&& 1431655765)) 2) &&& 858993459)) + (zushr (((v0 - ((zushr v0 1) &&& 1431655765)) &&& 858993459) + ((zushr (v0 - ((zushr v0 1) &&& 1431655765)) 2) &&& 858993459)) 4)) &&& 252645135) + (zushr (((((v0 - ((zushr v0 1) &&& 1431655765)) &&& 858993459) + ((zushr (v0 - ((zushr v0 1) &&& 1431655765)) 2) &&& 858993459)) + (zushr (((v0 - ((zushr v0 1) &&& 1431655765)) &&& 858993459) + ((zushr (v0 - ((zushr v0 1) &&& 1431655765)) 2) &&& 858993459)) 4)) &&& 252645135) 8)) + (zushr ((((((v0 - ((zushr v0 1) &&& 1431655765)) &&& 858993459) + ((zushr (v0 - ((zushr v0 1) &&& 1431655765)) 2) &&& 858993459)) + (zushr (((v0 - ((zushr v0 1) &&& 1431655765)) &&& 858993459) + ((zushr (v0 - ((zushr v0 1) &&& 1431655765)) 2) &&& 858993459)) 4)) &&& 252645135) + (zushr (((((v0 - ((zushr v0 1) &&& 1431655765)) &&& 858993459) + ((zushr (v0 - ((zushr v0 1) &&& 1431655765)) 2) &&& 858993459)) + (zushr (((v0 - ((zushr v0 1) &&& 1431655765)) &&& 858993459) + ((zushr (v0 - ((zushr v0 1) &&& 1431655765)) 2) &&& 858993459)) 4)) &&& 252645135) 8)) 16)) &&& 63)
def f_Catalog_improveCube_b3 (h : zH) (v1 : Int32) (v2 : Int32) (v3 : Int64) (v5 : Int32) : Option ((Int32 × zH) ⊕ (zH)) :=
  if 64 ≤ v5 then (
  some (.inr h)) else (
  if (h.1 74 2) ≤ (v2 + v5) then (
    some (.inr h)) else (
    zg (zb (v2 + v5) 729) <|
      (f_Integer_bitCount (h.1 125 (v2 + v5).toNatClampNeg)).bind fun x2 =>
      if ¬ ((zlushr v3 v5) &&& 1) = 1 then (
      some (.inl ((v5 + 1), h))) else (
      zg (zb v1 44) <|
        if (h.1 124 v1.toNatClampNeg) ≤ x2 then (
        some (.inl ((v5 + 1), h))) else (
        zg (zb v1 44) <|
          (some (zsI h 124 v1.toNatClampNeg x2)).bind fun h4 =>
          zg (zb (v2 + v5) 729) <|
          zg (zb v1 44) <|
          (some (zsI h4 122 v1.toNatClampNeg (h4.1 125 (v2 + v5).toNatClampNeg))).bind fun h7 =>
          zg (zb (v2 + v5) 729) <|
          zg (zb v1 44) <|
          (some (zsI h7 123 v1.toNatClampNeg (h7.1 126 (v2 + v5).toNatClampNeg))).bind fun h10 =>
          some (.inl ((v5 + 1), h10))))))
def f_Catalog_improveCube (h : zH) (v1 : Int32) (v2 : Int32) (v3 : Int64) : Option (zH) :=
  (zit zFU (fun s : Int32 × zH => f_Catalog_improveCube_b3 s.2 v1 v2 v3 s.1) (0, h)).bind (fun y17 =>
  some y17)
def f_Catalog_findCubes_b2 (o1 : Nat) (h : zH) (v2 : Int32) : Option ((Int32 × zH) ⊕ (zH)) :=
  if (h.1 74 0) ≤ v2 then (
  some (.inr h)) else (
  zg (zb v2 44) <|
    (some (zsI h 122 v2.toNatClampNeg 0)).bind fun h1 =>
    zg (zb v2 44) <|
    (some (zsI h1 123 v2.toNatClampNeg 0)).bind fun h3 =>
    zg (zb v2 44) <|
    (some (zsI h3 124 v2.toNatClampNeg 7)).bind fun h5 =>
    some (.inl ((v2 + 1), h5)))
def f_Catalog_findCubes_b68 (o1 : Nat) (h : zH) (v2 : Int32) (v3 : Int32) : Option ((Int32 × zH) ⊕ (zH)) :=
  if (h.1 74 0) ≤ v3 then (
  some (.inr h)) else (
  (f_Catalog_isLost h v3).bind fun x12 =>
    if ¬ x12 = 0 then (
    some (.inl ((v3 + 1), h))) else (
    (f_Waves_spread 132 o1 h v3).bind fun x13 =>
      (f_Waves_tellApart 127 132 o1 x13).bind fun x14 =>
      (f_Catalog_improveCube x13 v3 v2 x14).bind fun x15 =>
      some (.inl ((v3 + 1), x15))))
def f_Catalog_findCubes_b40 (o1 : Nat) (h : zH) (v2 : Int32) : Option ((Int32 × zH) ⊕ (zH)) :=
  if (h.1 74 2) ≤ v2 then (
  some (.inr h)) else (
  (f_Catalog_setCubeRows h (h.1 o1 0) v2).bind fun x10 =>
    (f_Waves_spread 127 o1 x10 (-1)).bind fun x11 =>
    (zit zFU (fun s : Int32 × zH => f_Catalog_findCubes_b68 o1 s.2 v2 s.1) (0, x11)).bind (fun y19 =>
    some (.inl ((v2 + 64), y19))))
def f_Catalog_findCubes (o1 : Nat) (h : zH) : Option (zH) :=
  (zit zFU (fun s : Int32 × zH => f_Catalog_findCubes_b2 o1 s.2 s.1) (0, h)).bind (fun y9 =>
  (zit zFU (fun s : Int32 × zH => f_Catalog_findCubes_b40 o1 s.2 s.1) (0, y9)).bind (fun y22 =>
    some y22))
def f_Catalog_describe (o1 : Nat) (h : zH) : Option (zH) :=
  (f_Net_lines o1 h).bind fun x1 =>
  (some (zsI h 74 0 (2 * x1))).bind fun h2 =>
  (some (zsI h2 74 1 (zshl 1 (h2.1 o1 0)))).bind fun h3 =>
  (f_Catalog_tellAll o1 h3).bind fun x4 =>
  (f_Catalog_findTests o1 x4).bind fun x5 =>
  (f_Catalog_listCubeRows x5 (x5.1 o1 0)).bind fun x6 =>
  (f_Catalog_findCubes o1 x6).bind fun x7 =>
  some x7
def f_State_begin (o : Nat) (h : zH) (v1 : Int32) : Option (zH) :=
  (some (zsI h o 0 0)).bind fun h1 =>
  (some (zsI h1 o 1 0)).bind fun h2 =>
  (some (zsI h2 o 2 (-1))).bind fun h3 =>
  (some (zsI h3 o 3 v1)).bind fun h4 =>
  (some (zsL h4 o 4 0)).bind fun h5 =>
  (some (zsI h5 o 5 0)).bind fun h6 =>
  some h6
def f_Session_begin (o : Nat) (h : zH) (v1 : Int32) : Option (zH) :=
  (f_State_begin (o + 1) h v1).bind fun x1 =>
  (some (zsI x1 o 2 0)).bind fun h2 =>
  (some (zsI h2 o 3 0)).bind fun h3 =>
  (some (zsI h3 o 7 0)).bind fun h4 =>
  some h4
def f_Main_beginNet (h : zH) : Option (zH) :=
  zgr (h.2.2.1 0 1) 3 fun w1 =>
  (f_Catalog_describe w1 h).bind fun x2 =>
  (some (zsI x2 137 4 0)).bind fun h3 =>
  zgr (h3.2.2.1 0 1) 3 fun w4 =>
  (f_Session_begin 155 h3 (h3.1 w4 3)).bind fun x5 =>
  (some (zsI x5 0 9 0)).bind fun h6 =>
  some h6
def f_Session_refuse (o : Nat) (h : zH) (v1 : Int32) : Option (zH) :=
  zg (zb v1 3) <|
  zg (zb v1 3) <|
  (some (zsI h (o + 7) v1.toNatClampNeg ((h.1 (o + 7) v1.toNatClampNeg) + 1))).bind fun h2 =>
  some h2
def f_Main_net_j18 (h : zH) : Option ((Int32 × zH) ⊕ (Nat × zH)) :=
  some (.inr (2, h))
def f_Main_net (h : zH) (v1 : Int32) : Option ((Int32 × zH) ⊕ (Nat × zH)) :=
  if v1 < 0 then (
  f_Main_net_j18 h) else (
  if v1 ≤ (h.1 2 1) then (
    (f_Parser_read h v1).bind fun x1 =>
      (some (zsI x1.2 0 2 (x1.2.1 1 3))).bind fun h2 =>
      if x1.1 = 0 then (
      zgr (h2.2.2.1 0 1) 3 fun w3 =>
        (f_Parser_handOver w3 h2).bind fun x4 =>
        (some (zsR x4.2 0 1 (some (3, x4.1)))).bind fun h5 =>
        (f_Main_beginNet h5).bind fun x6 =>
        some (.inl (0, x6))) else (
      (f_Session_refuse 155 h2 0).bind fun x7 =>
        some (.inl (x1.1, x7)))) else (
    f_Main_net_j18 h))
def f_Main_fault (h : zH) : Option (Int32) :=
  some (h.1 0 2)
def f_Long_bitCount (v0 : Int64) : Option (Int32) :=
  some (((((((((v0 - ((zlushr v0 1) &&& 6148914691236517205)) &&& 3689348814741910323) + ((zlushr (v0 - ((zlushr v0 1) &&& 6148914691236517205)) 2) &&& 3689348814741910323)) + (zlushr (((v0 - ((zlushr v0 1) &&& 6148914691236517205)) &&& 3689348814741910323) + ((zlushr (v0 - ((zlushr v0 1) &&& 6148914691236517205)) 2) &&& 3689348814741910323)) 4)) &&& 1085102592571150095) + (zlushr (((((v0 - ((zlushr v0 1) &&& 6148914691236517205)) &&& 3689348814741910323) + ((zlushr (v0 - ((zlushr v0 1) &&& 6148914691236517205)) 2) &&& 3689348814741910323)) + (zlushr (((v0 - ((zlushr v0 1) &&& 6148914691236517205)) &&& 3689348814741910323) + ((zlushr (v0 - ((zlushr v0 1) &&& 6148914691236517205)) 2) &&& 3689348814741910323)) 4)) &&& 1085102592571150095) 8)) + (zlushr ((((((v0 - ((zlushr v0 1) &&& 6148914691236517205)) &&& 3689348814741910323) + ((zlushr (v0 - ((zlushr v0 1) &&& 6148914691236517205)) 2) &&& 3689348814741910323)) + (zlushr (((v0 - ((zlushr v0 1) &&& 6148914691236517205)) &&& 3689348814741910323) + ((zlushr (v0 - ((zlushr v0 1) &&& 6148914691236517205)) 2) &&& 3689348814741910323)) 4)) &&& 1085102592571150095) + (zlushr (((((v0 - ((zlushr v0 1) &&& 6148914691236517205)) &&& 3689348814741910323) + ((zlushr (v0 - ((zlushr v0 1) &&& 6148914691236517205)) 2) &&& 3689348814741910323)) + (zlushr (((v0 - ((zlushr v0 1) &&& 6148914691236517205)) &&& 3689348814741910323) + ((zlushr (v0 - ((zlushr v0 1) &&& 6148914691236517205)) 2) &&& 3689348814741910323)) 4)) &&& 1085102592571150095) 8)) 16)) + (zlushr (((((((v0 - ((zlushr v0 1) &&& 6148914691236517205)) &&& 3689348814741910323) + ((zlushr (v0 - ((zlushr v0 1) &&& 6148914691236517205)) 2) &&& 3689348814741910323)) + (zlushr (((v0 - ((zlushr v0 1) &&& 6148914691236517205)) &&& 3689348814741910323) + ((zlushr (v0 - ((zlushr v0 1) &&& 6148914691236517205)) 2) &&& 3689348814741910323)) 4)) &&& 1085102592571150095) + (zlushr (((((v0 - ((zlushr v0 1) &&& 6148914691236517205)) &&& 3689348814741910323) + ((zlushr (v0 - ((zlushr v0 1) &&& 6148914691236517205)) 2) &&& 3689348814741910323)) + (zlushr (((v0 - ((zlushr v0 1) &&& 6148914691236517205)) &&& 3689348814741910323) + ((zlushr (v0 - ((zlushr v0 1) &&& 6148914691236517205)) 2) &&& 3689348814741910323)) 4)) &&& 1085102592571150095) 8)) + (zlushr ((((((v0 - ((zlushr v0 1) &&& 6148914691236517205)) &&& 3689348814741910323) + ((zlushr (v0 - ((zlushr v0 1) &&& 6148914691236517205)) 2) &&& 3689348814741910323)) + (zlushr (((v0 - ((zlushr v0 1) &&& 6148914691236517205)) &&& 3689348814741910323) + ((zlushr (v0 - ((zlushr v0 1) &&& 6148914691236517205)) 2) &&& 3689348814741910323)) 4)) &&& 1085102592571150095) + (zlushr (((((v0 - ((zlushr v0 1) &&& 6148914691236517205)) &&& 3689348814741910323) + ((zlushr (v0 - ((zlushr v0 1) &&& 6148914691236517205)) 2) &&& 3689348814741910323)) + (zlushr (((v0 - ((zlushr v0 1) &&& 6148914691236517205)) &&& 3689348814741910323) + ((zlushr (v0 - ((zlushr v0 1) &&& 6148914691236517205)) 2) &&& 3689348814741910323)) 4)) &&& 1085102592571150095) 8)) 16)) 32)).toInt32 &&& 127)
def f_Program_mergeCubes_j62 (h : zH) (v2 : Int64) (v4 : Int32) (v5 : Int32) (t0 : Int32) : Option ((Int32 × Int32 × zH) ⊕ (Int32 × zH)) :=
  if ¬ ((zlushr v2 v5) &&& 1) = 1 then (
  some (.inl (v4, (v5 + 1), h))) else (
  if t0 = 0 then (
    some (.inl (v4, (v5 + 1), h))) else (
    zg (zb v5 44) <|
      (some (zsI h 137 7 ((h.1 137 7) ||| (h.1 122 v5.toNatClampNeg)))).bind fun h6 =>
      zg (zb v5 44) <|
      (some (zsI h6 137 8 ((h6.1 137 8) ||| (h6.1 123 v5.toNatClampNeg)))).bind fun h8 =>
      some (.inl ((v4 + 1), (v5 + 1), h8))))
def f_Program_mergeCubes_b16 (h : zH) (v2 : Int64) (v4 : Int32) (v5 : Int32) : Option ((Int32 × Int32 × zH) ⊕ (Int32 × zH)) :=
  if (h.1 74 0) ≤ v5 then (
  some (.inr (v4, h))) else (
  zg (zb v5 44) <|
    zg (zb v5 44) <|
    if ¬ (((h.1 137 8) ^^^ (h.1 123 v5.toNatClampNeg)) &&& ((h.1 137 7) &&& (h.1 122 v5.toNatClampNeg))) = 0 then (
    f_Program_mergeCubes_j62 h v2 v4 v5 0) else (
    f_Program_mergeCubes_j62 h v2 v4 v5 1))
def f_Program_mergeCubes (h : zH) (v2 : Int64) : Option (Int32 × zH) :=
  (some (zsI h 137 7 0)).bind fun h1 =>
  (some (zsI h1 137 8 0)).bind fun h2 =>
  (zit zFU (fun s : Int32 × Int32 × zH => f_Program_mergeCubes_b16 s.2.2 v2 s.1 s.2.1) (0, 0, h2)).bind (fun y14 =>
  some (y14.1, y14.2))
def f_Program_firstSet_b2 (o1 : Nat) (h : zH) (v2 : Int32) (v3 : Int32) : Option ((Int32) ⊕ ((Int32) ⊕ (Unit))) :=
  zg (zb v2 3) <|
  if (h.1 (o1 + 34) v2.toNatClampNeg) ≤ v3 then (
  some (.inr (.inr ()))) else (
  zg (zb v2 3) <|
    zg (zb v3 6) <|
    (f_Main_bitOf (h.1 137 7) (h.1 ((o1 + 30) + (1 + 1 * v2.toNatClampNeg)) v3.toNatClampNeg)).bind fun x4 =>
    if ¬ x4 = 1 then (
    some (.inl (v3 + 1))) else (
    some (.inr (.inl (h.1 ((o1 + 30) + (1 + 1 * v2.toNatClampNeg)) v3.toNatClampNeg)))))
def f_Program_firstSet (o1 : Nat) (h : zH) (v2 : Int32) : Option (Int32) :=
  (zit zFU (fun s : Int32 => f_Program_firstSet_b2 o1 h v2 s) 0).bind (Sum.elim (fun y8 =>
  (f_Main_bitOf (h.1 137 8) y8).bind fun x9 =>
    some x9) (fun y10 =>
  some 0))
def f_Main_withBit (v0 : Int32) (v1 : Int32) (v2 : Int32) : Option (Int32) :=
  some ((v0 &&& ((zshl 1 v1) ^^^ (-1))) ||| (zshl v2 v1))
def f_Program_fillChain_j60 (o1 : Nat) (h : zH) (v2 : Int32) (v4 : Int32) (v5 : Int32) (v6 : Int32) (v7 : Int32) : Option ((Int32 × Int32 × Int32) ⊕ (Int32)) :=
  (f_Main_withBit v4 v7 v5).bind fun x6 =>
  some (.inl (x6, v5, (v6 + 1)))
def f_Program_fillChain_b14 (o1 : Nat) (h : zH) (v2 : Int32) (v4 : Int32) (v5 : Int32) (v6 : Int32) : Option ((Int32 × Int32 × Int32) ⊕ (Int32)) :=
  zg (zb v2 3) <|
  if (h.1 (o1 + 34) v2.toNatClampNeg) ≤ v6 then (
  some (.inr v4)) else (
  zg (zb v2 3) <|
    zg (zb v6 6) <|
    (f_Main_bitOf (h.1 137 7) (h.1 ((o1 + 30) + (1 + 1 * v2.toNatClampNeg)) v6.toNatClampNeg)).bind fun x5 =>
    if ¬ x5 = 1 then (
    f_Program_fillChain_j60 o1 h v2 v4 v5 v6 (h.1 ((o1 + 30) + (1 + 1 * v2.toNatClampNeg)) v6.toNatClampNeg)) else (
    (f_Main_bitOf (h.1 137 8) (h.1 ((o1 + 30) + (1 + 1 * v2.toNatClampNeg)) v6.toNatClampNeg)).bind fun x7 =>
      f_Program_fillChain_j60 o1 h v2 v4 x7 v6 (h.1 ((o1 + 30) + (1 + 1 * v2.toNatClampNeg)) v6.toNatClampNeg)))
def f_Program_fillChain (o1 : Nat) (h : zH) (v2 : Int32) (v3 : Int32) : Option (Int32) :=
  (f_Program_firstSet o1 h v2).bind fun x1 =>
  (zit zFU (fun s : Int32 × Int32 × Int32 => f_Program_fillChain_b14 o1 h v2 s.1 s.2.1 s.2.2) (v3, x1, 0)).bind (fun y11 =>
  some y11)
def f_Program_fillUp_b42 (o1 : Nat) (h : zH) (v4 : Int32) (v5 : Int32) : Option ((Int32 × Int32) ⊕ (Int32)) :=
  if (h.1 o1 2) ≤ v5 then (
  some (.inr v4)) else (
  (f_Program_fillChain o1 h v5 v4).bind fun x1 =>
    some (.inl (x1, (v5 + 1))))
def f_Program_fillUp (o1 : Nat) (h : zH) (v2 : Int32) : Option (Int32) :=
  if ¬ v2 = 1 then (
  if ¬ v2 = 2 then (
    some (h.1 137 8)) else (
    (zit zFU (fun s : Int32 × Int32 => f_Program_fillUp_b42 o1 h s.1 s.2) ((h.1 137 8), 0)).bind (fun y4 =>
      some y4))) else (
  some ((h.1 137 8) ||| (((zshl 1 (h.1 o1 0)) - 1) &&& ((h.1 137 7) ^^^ (-1)))))
def f_Catalog_caughtBy_b5 (h : zH) (v1 : Int32) (v2 : Int64) (v4 : Int32) : Option ((Int64 × Int32) ⊕ (Int64)) :=
  if (h.1 74 0) ≤ v4 then (
  some (.inr v2)) else (
  zg (zb v4 44) <|
    some (.inl ((v2 ||| (zlshl ((zlushr (h.2.1 121 v4.toNatClampNeg) v1) &&& 1) v4)), (v4 + 1))))
def f_Catalog_caughtBy (h : zH) (v1 : Int32) : Option (Int64) :=
  (zit zFU (fun s : Int64 × Int32 => f_Catalog_caughtBy_b5 h v1 s.1 s.2) (0, 0)).bind (fun y4 =>
  some y4)
def f_Program_build_b59 (o1 : Nat) (h : zH) (v5 : Int32) (v6 : Int64) : Option ((Int64 × zH) ⊕ (zH)) :=
  if v6 = 0 then (
  some (.inr h)) else (
  if 44 ≤ (h.1 137 3) then (
    some (.inr h)) else (
    (f_Program_mergeCubes h v6).bind fun x5 =>
      zg (zb (h.1 137 3) 44) <|
      (some (zsI x5.2 140 (h.1 137 3).toNatClampNeg x5.1)).bind fun h6 =>
      (f_Program_fillUp o1 h6 v5).bind fun x8 =>
      (f_Catalog_caughtBy h6 x8).bind fun x9 =>
      zg (zb (h6.1 137 3) 44) <|
      (some (zsI h6 138 (h6.1 137 3).toNatClampNeg x8)).bind fun h10 =>
      (f_Long_bitCount (x9 &&& v6)).bind fun x12 =>
      zg (zb (h10.1 137 3) 44) <|
      (some (zsI h10 139 (h10.1 137 3).toNatClampNeg x12)).bind fun h13 =>
      (some (zsI h13 137 3 ((h13.1 137 3) + 1))).bind fun h15 =>
      some (.inl ((v6 &&& ((x9 &&& v6) ^^^ (-1))), h15))))
def f_Program_build_j26 (o1 : Nat) (h : zH) (v3 : Int64) (v5 : Int32) : Option (zH) :=
  (some (zsI h 137 4 1)).bind fun h1 =>
  (some (zsL h1 137 5 v3)).bind fun h2 =>
  (some (zsI h2 137 6 v5)).bind fun h3 =>
  (some (zsI h3 137 3 0)).bind fun h4 =>
  (zit zFU (fun s : Int64 × zH => f_Program_build_b59 o1 s.2 v5 s.1) (((h4.2.1 74 3) &&& (v3 ^^^ (-1))), h4)).bind (fun y19 =>
  some y19)
def f_Program_build (o1 : Nat) (h : zH) (v3 : Int64) (v5 : Int32) : Option (zH) :=
  if (h.1 137 4) = 0 then (
  f_Program_build_j26 o1 h v3 v5) else (
  if ¬ (h.2.1 137 5) = v3 then (
    f_Program_build_j26 o1 h v3 v5) else (
    if ¬ (h.1 137 6) = v5 then (
      f_Program_build_j26 o1 h v3 v5) else (
      some h)))
def f_Main_planNow (h : zH) : Option (zH) :=
  zgr (h.2.2.1 0 1) 3 fun w1 =>
  (f_Program_build w1 h (h.2.1 156 4) (h.1 156 3)).bind fun x2 =>
  some x2
def f_Main_countOfMachine (h : zH) (v1 : Int32) : Option (Int32 × zH) :=
  if v1 = 8 then (
  (f_Long_bitCount (h.2.1 156 4)).bind fun x1 =>
    some (x1, h)) else (
  if v1 = 9 then (
    some ((h.1 156 0), h)) else (
    if v1 = 10 then (
      some ((h.1 156 1), h)) else (
      if v1 = 11 then (
        some ((h.1 156 2), h)) else (
        if v1 = 12 then (
          some ((h.1 156 5), h)) else (
          if v1 = 13 then (
            (f_Main_planNow h).bind fun x7 =>
              some ((x7.1 137 3), x7)) else (
            if v1 = 14 then (
              some ((h.1 155 3), h)) else (
              if v1 = 15 then (
                some ((h.1 155 7), h)) else (
                some ((h.1 2 1), h)))))))))
def f_Catalog_leastAlike_b2 (h : zH) (v1 : Int32) (v2 : Int32) : Option ((Int32) ⊕ ((Int32) ⊕ (Unit))) :=
  if v1 ≤ v2 then (
  some (.inr (.inr ()))) else (
  zg (zb v2 44) <|
    zg (zb v1 44) <|
    if ¬ (h.2.1 121 v2.toNatClampNeg) = (h.2.1 121 v1.toNatClampNeg) then (
    some (.inl (v2 + 1))) else (
    some (.inr (.inl v2))))
def f_Catalog_leastAlike (h : zH) (v1 : Int32) : Option (Int32) :=
  (zit zFU (fun s : Int32 => f_Catalog_leastAlike_b2 h v1 s) 0).bind (Sum.elim (fun y6 =>
  some y6) (fun y7 =>
  some v1))
def f_Catalog_countGroups_b4 (h : zH) (v1 : Int32) (v2 : Int32) : Option ((Int32 × Int32) ⊕ (Int32)) :=
  if (h.1 74 0) ≤ v2 then (
  some (.inr v1)) else (
  (f_Catalog_isLost h v2).bind fun x1 =>
    if ¬ x1 = 0 then (
    some (.inl (v1, (v2 + 1)))) else (
    (f_Catalog_leastAlike h v2).bind fun x2 =>
      if ¬ x2 = v2 then (
      some (.inl (v1, (v2 + 1)))) else (
      some (.inl ((v1 + 1), (v2 + 1))))))
def f_Catalog_countGroups (h : zH) : Option (Int32) :=
  (zit zFU (fun s : Int32 × Int32 => f_Catalog_countGroups_b4 h s.1 s.2) (0, 0)).bind (fun y7 =>
  some y7)
def f_Main_countOfNet (h : zH) (v1 : Int32) : Option (Int32) :=
  if v1 = 0 then (
  zgr (h.2.2.1 0 1) 3 fun w1 =>
    some (h.1 w1 0)) else (
  if v1 = 1 then (
    zgr (h.2.2.1 0 1) 3 fun w3 =>
      some (h.1 w3 1)) else (
    if v1 = 2 then (
      zgr (h.2.2.1 0 1) 3 fun w5 =>
        zgr (h.2.2.1 0 1) 3 fun w6 =>
        (f_Integer_bitCount ((h.1 w5 5) ||| (h.1 w6 6))).bind fun x7 =>
        some x7) else (
      if v1 = 3 then (
        zgr (h.2.2.1 0 1) 3 fun w9 =>
          some (h.1 w9 2)) else (
        if v1 = 4 then (
          some (h.1 156 3)) else (
          if v1 = 5 then (
            some (h.1 74 0)) else (
            if v1 = 6 then (
              (f_Long_bitCount (h.2.1 74 3)).bind fun x13 =>
                some ((h.1 74 0) - x13)) else (
              (f_Catalog_countGroups h).bind fun x15 =>
                some x15)))))))
def f_Main_count_j10 (h : zH) : Option ((Int32 × zH) ⊕ (Nat × zH)) :=
  some (.inr (1, h))
def f_Main_count (h : zH) (v1 : Int32) : Option ((Int32 × zH) ⊕ (Nat × zH)) :=
  if v1 < 0 then (
  f_Main_count_j10 h) else (
  if v1 ≤ 19 then (
    if 7 < v1 then (
      if v1 < 17 then (
        (f_Main_countOfMachine h v1).bind fun x1 =>
          some (.inl (x1.1, x1.2))) else (
        zg (zb (v1 - 17) 3) <|
          some (.inl ((h.1 162 (v1 - 17).toNatClampNeg), h)))) else (
      (f_Main_countOfNet h v1).bind fun x4 =>
        some (.inl (x4, h)))) else (
    f_Main_count_j10 h))
def f_Net_isLine (o : Nat) (h : zH) (v1 : Int32) : Option (Int32) :=
  if v1 < 0 then (
  some 0) else (
  (f_Net_lines o h).bind fun x1 =>
    if x1 ≤ v1 then (
    some 0) else (
    some 1))
def f_Main_needLine (h : zH) (v1 : Int32) : Option ((Unit × zH) ⊕ (Nat × zH)) :=
  zgr (h.2.2.1 0 1) 3 fun w1 =>
  (f_Net_isLine w1 h v1).bind fun x2 =>
  if ¬ x2 = 0 then (
  some (.inl ((), h))) else (
  some (.inr (1, h)))
def f_Catalog_tell (h : zH) (v1 : Int32) (v2 : Int32) (v3 : Int32) : Option (Int32) :=
  zg (zb (v1 + 1) 45) <|
  zg (zb v2 22) <|
  some ((zlushr (h.2.1 (75 + (1 + 1 * (v1 + 1).toNatClampNeg)) v2.toNatClampNeg) v3).toInt32 &&& 1)
def f_Main_line_j15 (h : zH) : Option ((Int32 × zH) ⊕ (Nat × zH)) :=
  some (.inr (1, h))
def f_Main_line_j96 (h : zH) (v1 : Int32) (v2 : Int32) : Option ((Int32 × zH) ⊕ (Nat × zH)) :=
  zgr (h.2.2.1 0 1) 3 fun w8 =>
  zg (zb v1 22) <|
  if (h.1 (w8 + 4) v1.toNatClampNeg) ≤ (v2 - 2) then (
  some (.inl ((-1), h))) else (
  zgr (h.2.2.1 0 1) 3 fun w10 =>
    zg (zb v1 22) <|
    zg (zb (v2 - 2) 3) <|
    some (.inl ((h.1 ((w10 + 5) + (1 + 1 * v1.toNatClampNeg)) (v2 - 2).toNatClampNeg), h)))
def f_Main_line (h : zH) (v1 : Int32) (v2 : Int32) : Option ((Int32 × zH) ⊕ (Nat × zH)) :=
  (f_Main_needLine h v1).bind (Sum.elim (fun x1 =>
  if v2 < 0 then (
  f_Main_line_j15 x1.2) else (
  if v2 ≤ 9 then (
    if v2 = 0 then (
      zgr (x1.2.2.2.1 0 1) 3 fun w2 =>
        zg (zb v1 22) <|
        some (.inl ((x1.2.1 (w2 + 3) v1.toNatClampNeg), x1.2))) else (
      if v2 = 1 then (
        zgr (x1.2.2.2.1 0 1) 3 fun w5 =>
          zg (zb v1 22) <|
          some (.inl ((x1.2.1 (w5 + 4) v1.toNatClampNeg), x1.2))) else (
        if v2 = 2 then (
          f_Main_line_j96 x1.2 v1 v2) else (
          if v2 = 3 then (
            f_Main_line_j96 x1.2 v1 v2) else (
            if v2 = 4 then (
              f_Main_line_j96 x1.2 v1 v2) else (
              if v2 = 5 then (
                zgr (x1.2.2.2.1 0 1) 3 fun w17 =>
                  (f_Net_isSeen w17 x1.2 v1).bind fun x18 =>
                  if x18 = 0 then (
                  some (.inl (0, x1.2))) else (
                  some (.inl (1, x1.2)))) else (
                if v2 = 6 then (
                  (f_Catalog_tell x1.2 (x1.2.1 156 2) v1 (x1.2.1 156 0)).bind fun x21 =>
                    some (.inl (x21, x1.2))) else (
                  if v2 = 7 then (
                    zgr (x1.2.2.2.1 0 1) 3 fun w23 =>
                      if (x1.2.1 w23 0) ≤ v1 then (
                      some (.inl ((-1), x1.2))) else (
                      zgr (x1.2.2.2.1 0 1) 3 fun w24 =>
                        zg (zb v1 6) <|
                        some (.inl ((x1.2.1 (w24 + 28) v1.toNatClampNeg), x1.2)))) else (
                    if v2 = 8 then (
                      zgr (x1.2.2.2.1 0 1) 3 fun w28 =>
                        if (x1.2.1 w28 0) ≤ v1 then (
                        some (.inl ((-1), x1.2))) else (
                        zgr (x1.2.2.2.1 0 1) 3 fun w29 =>
                          zg (zb v1 6) <|
                          some (.inl ((x1.2.1 (w29 + 29) v1.toNatClampNeg), x1.2)))) else (
                      zgr (x1.2.2.2.1 0 1) 3 fun w33 =>
                        zg (zb v1 22) <|
                        some (.inl ((x1.2.1 (w33 + 2) v1.toNatClampNeg), x1.2)))))))))))) else (
    f_Main_line_j15 x1.2))) fun q => some (.inr q))
def f_Main_letter_j22 (h : zH) : Option ((Int32 × zH) ⊕ (Nat × zH)) :=
  some (.inr (1, h))
def f_Main_letter (h : zH) (v1 : Int32) (v2 : Int32) : Option ((Int32 × zH) ⊕ (Nat × zH)) :=
  (f_Main_needLine h v1).bind (Sum.elim (fun x1 =>
  if v2 < 0 then (
  f_Main_letter_j22 x1.2) else (
  zgr (x1.2.2.2.1 0 1) 3 fun w2 =>
    zg (zb v1 22) <|
    if v2 < (x1.2.1 (w2 + 2) v1.toNatClampNeg) then (
    zgr (x1.2.2.2.1 0 1) 3 fun w4 =>
      zg (zb v1 22) <|
      zgr (x1.2.2.2.1 0 1) 3 fun w6 =>
      zg (zb v1 22) <|
      some (.inl (((zushr (x1.2.1 (w4 + 1) v1.toNatClampNeg) (5 * (((x1.2.1 (w6 + 2) v1.toNatClampNeg) - 1) - v2))) &&& 31), x1.2))) else (
    f_Main_letter_j22 x1.2))) fun q => some (.inr q))
def f_Main_needCell_j33 (h : zH) : Option ((Unit × zH) ⊕ (Nat × zH)) :=
  some (.inr (1, h))
def f_Main_needCell (h : zH) (v1 : Int32) (v2 : Int32) : Option ((Unit × zH) ⊕ (Nat × zH)) :=
  if v1 < 0 then (
  f_Main_needCell_j33 h) else (
  zgr (h.2.2.1 0 1) 3 fun w1 =>
    if (h.1 w1 2) ≤ v1 then (
    f_Main_needCell_j33 h) else (
    if v2 < (-1) then (
      f_Main_needCell_j33 h) else (
      zgr (h.2.2.1 0 1) 3 fun w2 =>
        zg (zb v1 3) <|
        if v2 < (h.1 (w2 + 34) v1.toNatClampNeg) then (
        some (.inl ((), h))) else (
        f_Main_needCell_j33 h))))
def f_Main_chain (h : zH) (v1 : Int32) (v2 : Int32) : Option ((Int32 × zH) ⊕ (Nat × zH)) :=
  (f_Main_needCell h v1 v2).bind (Sum.elim (fun x1 =>
  if ¬ v2 = (-1) then (
  zgr (x1.2.2.2.1 0 1) 3 fun w2 =>
    zg (zb v1 3) <|
    zg (zb v2 6) <|
    some (.inl ((x1.2.1 ((w2 + 30) + (1 + 1 * v1.toNatClampNeg)) v2.toNatClampNeg), x1.2))) else (
  zgr (x1.2.2.2.1 0 1) 3 fun w5 =>
    zg (zb v1 3) <|
    some (.inl ((x1.2.1 (w5 + 34) v1.toNatClampNeg), x1.2)))) fun q => some (.inr q))
def f_Catalog_isFault (h : zH) (v1 : Int32) : Option (Int32) :=
  if v1 < 0 then (
  some 0) else (
  if (h.1 74 0) ≤ v1 then (
    some 0) else (
    some 1))
def f_Main_needFault (h : zH) (v1 : Int32) : Option ((Unit × zH) ⊕ (Nat × zH)) :=
  (f_Catalog_isFault h v1).bind fun x1 =>
  if ¬ x1 = 0 then (
  some (.inl ((), h))) else (
  some (.inr (1, h)))
def f_Catalog_whyLost_j25 (h : zH) (v1 : Int32) (t0 : Int64) : Option (Int32) :=
  zg (zb (v1 / 2) 22) <|
  if ¬ (h.2.1 76 (v1 / 2).toNatClampNeg) = t0 then (
  some 2) else (
  some 1)
def f_Catalog_whyLost (h : zH) (v1 : Int32) : Option (Int32) :=
  (f_Catalog_isLost h v1).bind fun x1 =>
  if ¬ x1 = 0 then (
  if ¬ (zrem v1 2) = 1 then (
    f_Catalog_whyLost_j25 h v1 0) else (
    (f_Catalog_allRows h).bind fun x4 =>
      f_Catalog_whyLost_j25 h v1 x4)) else (
  some 0)
def f_Catalog_countOver_j49 (h : zH) (v1 : Int32) (v2 : Int32) (v3 : Int32) (t0 : Int32) : Option ((Int32 × Int32) ⊕ (Int32)) :=
  if t0 = 0 then (
  some (.inl (v2, (v3 + 1)))) else (
  zg (zb v3 44) <|
    zg (zb v1 44) <|
    if (h.2.1 121 v3.toNatClampNeg) = (h.2.1 121 v1.toNatClampNeg) then (
    some (.inl (v2, (v3 + 1)))) else (
    some (.inl ((v2 + 1), (v3 + 1)))))
def f_Catalog_countOver_b14 (h : zH) (v1 : Int32) (v2 : Int32) (v3 : Int32) : Option ((Int32 × Int32) ⊕ (Int32)) :=
  if (h.1 74 0) ≤ v3 then (
  some (.inr v2)) else (
  zg (zb v1 44) <|
    zg (zb v3 44) <|
    if ¬ ((h.2.1 121 v1.toNatClampNeg) &&& ((h.2.1 121 v3.toNatClampNeg) ^^^ (-1))) = 0 then (
    f_Catalog_countOver_j49 h v1 v2 v3 0) else (
    f_Catalog_countOver_j49 h v1 v2 v3 1))
def f_Catalog_countOver (h : zH) (v1 : Int32) : Option (Int32) :=
  (f_Catalog_isLost h v1).bind fun x1 =>
  if x1 = 0 then (
  (zit zFU (fun s : Int32 × Int32 => f_Catalog_countOver_b14 h v1 s.1 s.2) (0, 0)).bind (fun y11 =>
    some y11)) else (
  some 0)
def f_Main_test (h : zH) (v1 : Int32) (v2 : Int32) : Option ((Int32 × zH) ⊕ (Nat × zH)) :=
  (f_Main_needFault h v1).bind (Sum.elim (fun x1 =>
  if v2 = 0 then (
  zg (zb v1 44) <|
    (f_Long_bitCount (x1.2.2.1 121 v1.toNatClampNeg)).bind fun x3 =>
    some (.inl (x3, x1.2))) else (
  if v2 = 1 then (
    (f_Catalog_whyLost x1.2 v1).bind fun x5 =>
      some (.inl (x5, x1.2))) else (
    if v2 = 2 then (
      (f_Catalog_leastAlike x1.2 v1).bind fun x7 =>
        some (.inl (x7, x1.2))) else (
      if v2 = 3 then (
        (f_Catalog_countOver x1.2 v1).bind fun x9 =>
          some (.inl (x9, x1.2))) else (
        if v2 = 4 then (
          some (.inl (((zlushr (x1.2.2.1 156 4) v1).toInt32 &&& 1), x1.2))) else (
          if v2 = 5 then (
            (f_Catalog_isLost x1.2 v1).bind fun x12 =>
              if x12 = 0 then (
              zg (zb v1 44) <|
                (f_Integer_bitCount (x1.2.1 122 v1.toNatClampNeg)).bind fun x14 =>
                some (.inl (x14, x1.2))) else (
              some (.inl ((-1), x1.2)))) else (
            some (.inr (1, x1.2))))))))) fun q => some (.inr q))
def f_Catalog_testAt_b5 (h : zH) (v1 : Int32) (v3 : Int32) (v4 : Int32) : Option ((Int32 × Int32) ⊕ ((Int32) ⊕ (Unit))) :=
  if (h.1 74 1) ≤ v4 then (
  some (.inr (.inr ()))) else (
  zg (zb v1 44) <|
    if ¬ ((zlushr (h.2.1 121 v1.toNatClampNeg) v4) &&& 1) = 1 then (
    some (.inl (v3, (v4 + 1)))) else (
    if ¬ v3 = 0 then (
      some (.inl ((v3 + (-1)), (v4 + 1)))) else (
      some (.inr (.inl v4)))))
def f_Catalog_testAt (h : zH) (v1 : Int32) (v2 : Int32) : Option (Int32) :=
  (zit zFU (fun s : Int32 × Int32 => f_Catalog_testAt_b5 h v1 s.1 s.2) (v2, 0)).bind (Sum.elim (fun y6 =>
  some y6) (fun y7 =>
  some (-1)))
def f_Main_row_j25 (h : zH) : Option ((Int32 × zH) ⊕ (Nat × zH)) :=
  some (.inr (1, h))
def f_Main_row (h : zH) (v1 : Int32) (v2 : Int32) : Option ((Int32 × zH) ⊕ (Nat × zH)) :=
  (f_Main_needFault h v1).bind (Sum.elim (fun x1 =>
  if v2 < 0 then (
  f_Main_row_j25 x1.2) else (
  zg (zb v1 44) <|
    (f_Long_bitCount (x1.2.2.1 121 v1.toNatClampNeg)).bind fun x3 =>
    if v2 < x3 then (
    (f_Catalog_testAt x1.2 v1 v2).bind fun x4 =>
      some (.inl (x4, x1.2))) else (
    f_Main_row_j25 x1.2))) fun q => some (.inr q))
def f_Main_cube_j31 (h : zH) : Option ((Int32 × zH) ⊕ (Nat × zH)) :=
  some (.inr (1, h))
def f_Main_cube (h : zH) (v1 : Int32) (v2 : Int32) : Option ((Int32 × zH) ⊕ (Nat × zH)) :=
  (f_Main_needFault h v1).bind (Sum.elim (fun x1 =>
  (f_Catalog_isLost x1.2 v1).bind fun x2 =>
  if ¬ x2 = 0 then (
  f_Main_cube_j31 x1.2) else (
  if v2 < 0 then (
    f_Main_cube_j31 x1.2) else (
    zgr (x1.2.2.2.1 0 1) 3 fun w3 =>
      if v2 < (x1.2.1 w3 0) then (
      zg (zb v1 44) <|
        if ¬ ((zushr (x1.2.1 122 v1.toNatClampNeg) v2) &&& 1) = 0 then (
        zg (zb v1 44) <|
          some (.inl (((zushr (x1.2.1 123 v1.toNatClampNeg) v2) &&& 1), x1.2))) else (
        some (.inl (2, x1.2)))) else (
      f_Main_cube_j31 x1.2)))) fun q => some (.inr q))
def f_Catalog_tellUnset_j53 (o1 : Nat) (h : zH) (v3 : Int32) (v4 : Int32) (v5 : Int32) (v6 : Int32) (t0 : Int64) (t1 : Int64) (t2 : Int32) : Option ((Int32 × Int32 × zH) ⊕ (zH)) :=
  (f_Waves_setInput 132 h t2 t1 t0).bind fun x2 =>
  some (.inl ((v5 / 3), (v6 + 1), x2))
def f_Catalog_tellUnset_j41 (o1 : Nat) (h : zH) (v3 : Int32) (v4 : Int32) (v5 : Int32) (v6 : Int32) (t0 : Int64) (t1 : Int32) : Option ((Int32 × Int32 × zH) ⊕ (zH)) :=
  if ¬ (zrem v5 3) = 0 then (
  f_Catalog_tellUnset_j53 o1 h v3 v4 v5 v6 0 t0 t1) else (
  f_Catalog_tellUnset_j53 o1 h v3 v4 v5 v6 1 t0 t1)
def f_Catalog_tellUnset_b13 (o1 : Nat) (h : zH) (v3 : Int32) (v4 : Int32) (v5 : Int32) (v6 : Int32) : Option ((Int32 × Int32 × zH) ⊕ (zH)) :=
  if (h.1 o1 0) ≤ v6 then (
  some (.inr h)) else (
  if ¬ (zrem v5 3) = 1 then (
    f_Catalog_tellUnset_j41 o1 h v3 v4 v5 v6 0 v6) else (
    f_Catalog_tellUnset_j41 o1 h v3 v4 v5 v6 1 v6))
def f_Catalog_tellUnset (o1 : Nat) (h : zH) (v2 : Int32) (v3 : Int32) (v4 : Int32) : Option (Int32 × zH) :=
  (f_Waves_unsetInputs 132 h).bind fun x1 =>
  (zit zFU (fun s : Int32 × Int32 × zH => f_Catalog_tellUnset_b13 o1 s.2.2 v3 v4 s.1 s.2.1) (v2, 0, x1)).bind (fun y7 =>
  (f_Waves_spread 132 o1 y7 v3).bind fun x8 =>
    zg (zb v4 22) <|
    if ¬ ((x8.2.1 135 v4.toNatClampNeg) &&& 1) = 1 then (
    zg (zb v4 22) <|
      if ¬ ((x8.2.1 136 v4.toNatClampNeg) &&& 1) = 1 then (
      some (2, x8)) else (
      some (0, x8))) else (
    some (1, x8)))
def f_Main_by_j30 (h : zH) : Option ((Int32 × zH) ⊕ (Nat × zH)) :=
  some (.inr (2, h))
def f_Main_by_j15 (h : zH) (v1 : Int32) (v2 : Int32) (v3 : Int32) : Option ((Int32 × zH) ⊕ (Nat × zH)) :=
  if v1 < 0 then (
  f_Main_by_j30 h) else (
  if v1 < (h.1 74 2) then (
    zgr (h.2.2.1 0 1) 3 fun w2 =>
      (f_Catalog_tellUnset w2 h v1 v2 v3).bind fun x3 =>
      some (.inl (x3.1, x3.2))) else (
    f_Main_by_j30 h))
def f_Main_by (h : zH) (v1 : Int32) (v2 : Int32) (v3 : Int32) : Option ((Int32 × zH) ⊕ (Nat × zH)) :=
  (f_Main_needLine h v3).bind (Sum.elim (fun x1 =>
  if v2 = (-1) then (
  f_Main_by_j15 x1.2 v1 v2 v3) else (
  (f_Main_needFault x1.2 v2).bind (Sum.elim (fun x6 =>
    f_Main_by_j15 x6.2 v1 v2 v3) fun q => some (.inr q)))) fun q => some (.inr q))
def f_Program_costOfPattern_j77 (o1 : Nat) (h : zH) (v2 : Int32) (v4 : Int32) (v5 : Int32) (t0 : Int32) (t1 : Int32) : Option ((Int32 × Int32) ⊕ (Int32)) :=
  some (.inl ((t1 + t0), (v5 + 1)))
def f_Program_costOfPattern_b17 (o1 : Nat) (h : zH) (v2 : Int32) (v3 : Int32) (v4 : Int32) (v5 : Int32) : Option ((Int32 × Int32) ⊕ (Int32)) :=
  zg (zb v4 3) <|
  if (h.1 (o1 + 34) v4.toNatClampNeg) ≤ v5 then (
  some (.inr v3)) else (
  zg (zb v4 3) <|
    zg (zb (v5 - 1) 6) <|
    zg (zb v4 3) <|
    zg (zb v5 6) <|
    (f_Main_bitOf v2 (h.1 ((o1 + 30) + (1 + 1 * v4.toNatClampNeg)) (v5 - 1).toNatClampNeg)).bind fun x6 =>
    (f_Main_bitOf v2 (h.1 ((o1 + 30) + (1 + 1 * v4.toNatClampNeg)) v5.toNatClampNeg)).bind fun x7 =>
    if x6 = x7 then (
    f_Program_costOfPattern_j77 o1 h v2 v4 v5 0 v3) else (
    f_Program_costOfPattern_j77 o1 h v2 v4 v5 v5 v3))
def f_Program_costOfPattern_b5 (o1 : Nat) (h : zH) (v2 : Int32) (v3 : Int32) (v4 : Int32) : Option ((Int32 × Int32) ⊕ (Int32)) :=
  if (h.1 o1 2) ≤ v4 then (
  some (.inr v3)) else (
  (zit zFU (fun s : Int32 × Int32 => f_Program_costOfPattern_b17 o1 h v2 s.1 v4 s.2) (v3, 1)).bind (fun y11 =>
    some (.inl (y11, (v4 + 1)))))
def f_Program_costOfPattern (o1 : Nat) (h : zH) (v2 : Int32) : Option (Int32) :=
  (zit zFU (fun s : Int32 × Int32 => f_Program_costOfPattern_b5 o1 h v2 s.1 s.2) (0, 0)).bind (fun y14 =>
  some y14)
def f_Main_program_j28 (h : zH) : Option ((Int32 × zH) ⊕ (Nat × zH)) :=
  some (.inr (1, h))
def f_Main_program (h : zH) (v1 : Int32) (v2 : Int32) : Option ((Int32 × zH) ⊕ (Nat × zH)) :=
  (f_Main_planNow h).bind fun x1 =>
  if v1 < 0 then (
  f_Main_program_j28 x1) else (
  if (x1.1 137 3) ≤ v1 then (
    f_Main_program_j28 x1) else (
    if v2 < 0 then (
      f_Main_program_j28 x1) else (
      if v2 ≤ 3 then (
        if v2 = 0 then (
          zg (zb v1 44) <|
            some (.inl ((x1.1 138 v1.toNatClampNeg), x1))) else (
          if v2 = 1 then (
            zg (zb v1 44) <|
              some (.inl ((x1.1 139 v1.toNatClampNeg), x1))) else (
            if v2 = 2 then (
              zgr (x1.2.2.1 0 1) 3 fun w6 =>
                zg (zb v1 44) <|
                (f_Program_costOfPattern w6 x1 (x1.1 138 v1.toNatClampNeg)).bind fun x8 =>
                some (.inl (x8, x1))) else (
              zg (zb v1 44) <|
                some (.inl ((x1.1 140 v1.toNatClampNeg), x1)))))) else (
        f_Main_program_j28 x1))))
def f_Program_countApart_b26 (h : zH) (v1 : Int32) (v2 : Int32) (v3 : Int32) (v4 : Int32) : Option ((Int32 × zH) ⊕ (zH)) :=
  if (h.1 137 3) ≤ v4 then (
  some (.inr h)) else (
  zg (zb v2 6) <|
    zg (zb v3 6) <|
    zg (zb v4 44) <|
    (f_Main_bitOf (h.1 138 v4.toNatClampNeg) v2).bind fun x7 =>
    zg (zb v4 44) <|
    (f_Main_bitOf (h.1 138 v4.toNatClampNeg) v3).bind fun x9 =>
    zg (zb v3 6) <|
    (some (zsI h (143 + (1 + 1 * v2.toNatClampNeg)) v3.toNatClampNeg ((h.1 (143 + (1 + 1 * v2.toNatClampNeg)) v3.toNatClampNeg) + (x7 ^^^ x9)))).bind fun h10 =>
    some (.inl ((v4 + 1), h10)))
def f_Program_countApart_b9 (h : zH) (v1 : Int32) (v2 : Int32) (v3 : Int32) : Option ((Int32 × zH) ⊕ (zH)) :=
  if v1 ≤ v3 then (
  some (.inr h)) else (
  zg (zb v2 6) <|
    zg (zb v3 6) <|
    (some (zsI h (143 + (1 + 1 * v2.toNatClampNeg)) v3.toNatClampNeg 0)).bind fun h2 =>
    (zit zFU (fun s : Int32 × zH => f_Program_countApart_b26 s.2 v1 v2 v3 s.1) (0, h2)).bind (fun y14 =>
    some (.inl ((v3 + 1), y14))))
def f_Program_countApart_b2 (h : zH) (v1 : Int32) (v2 : Int32) : Option ((Int32 × zH) ⊕ (zH)) :=
  if v1 ≤ v2 then (
  some (.inr h)) else (
  (zit zFU (fun s : Int32 × zH => f_Program_countApart_b9 s.2 v1 v2 s.1) (0, h)).bind (fun y17 =>
    some (.inl ((v2 + 1), y17))))
def f_Program_countApart (h : zH) (v1 : Int32) : Option (zH) :=
  (zit zFU (fun s : Int32 × zH => f_Program_countApart_b2 s.2 v1 s.1) (0, h)).bind (fun y20 =>
  some y20)
def f_Program_listCells_b5 (o1 : Nat) (h : zH) (v2 : Int32) (v3 : Int32) (v4 : Int32) : Option ((Int32 × Int32 × zH) ⊕ (Int32 × zH)) :=
  if (h.1 o1 0) ≤ v4 then (
  some (.inr (v3, h))) else (
  zg (zb v4 6) <|
    if ¬ (h.1 (o1 + 28) v4.toNatClampNeg) = v2 then (
    some (.inl (v3, (v4 + 1), h))) else (
    zg (zb v3 6) <|
      (some (zsI h 142 v3.toNatClampNeg v4)).bind fun h2 =>
      some (.inl ((v3 + 1), (v4 + 1), h2))))
def f_Program_listCells (o1 : Nat) (h : zH) (v2 : Int32) : Option (Int32 × zH) :=
  (zit zFU (fun s : Int32 × Int32 × zH => f_Program_listCells_b5 o1 s.2.2 v2 s.1 s.2.1) (0, 0, h)).bind (fun y7 =>
  some (y7.1, y7.2))
def f_Program_costOfTried_b4 (h : zH) (v1 : Int32) (v2 : Int32) (v3 : Int32) : Option ((Int32 × Int32) ⊕ (Int32)) :=
  if v1 ≤ v3 then (
  some (.inr v2)) else (
  zg (zb (v3 - 1) 6) <|
    zg (zb (h.1 142 (v3 - 1).toNatClampNeg) 6) <|
    zg (zb v3 6) <|
    zg (zb (h.1 142 v3.toNatClampNeg) 6) <|
    some (.inl ((v2 + (v3 * (h.1 (143 + (1 + 1 * (h.1 142 (v3 - 1).toNatClampNeg).toNatClampNeg)) (h.1 142 v3.toNatClampNeg).toNatClampNeg))), (v3 + 1))))
def f_Program_costOfTried (h : zH) (v1 : Int32) : Option (Int32) :=
  (zit zFU (fun s : Int32 × Int32 => f_Program_costOfTried_b4 h v1 s.1 s.2) (0, 1)).bind (fun y7 =>
  some y7)
def f_Program_keepTried_b2 (h : zH) (v1 : Int32) (v2 : Int32) : Option ((Int32 × zH) ⊕ (zH)) :=
  if v1 ≤ v2 then (
  some (.inr h)) else (
  zg (zb v2 6) <|
    zg (zb v2 6) <|
    (some (zsI h 141 v2.toNatClampNeg (h.1 142 v2.toNatClampNeg))).bind fun h2 =>
    some (.inl ((v2 + 1), h2)))
def f_Program_keepTried (h : zH) (v1 : Int32) : Option (zH) :=
  (zit zFU (fun s : Int32 × zH => f_Program_keepTried_b2 s.2 v1 s.1) (0, h)).bind (fun y6 =>
  some y6)
def f_Program_swapTried (h : zH) (v1 : Int32) (v2 : Int32) : Option (zH) :=
  zg (zb v1 6) <|
  zg (zb v2 6) <|
  zg (zb v1 6) <|
  (some (zsI h 142 v1.toNatClampNeg (h.1 142 v2.toNatClampNeg))).bind fun h3 =>
  zg (zb v2 6) <|
  (some (zsI h3 142 v2.toNatClampNeg (h.1 142 v1.toNatClampNeg))).bind fun h5 =>
  some h5
def f_Program_stepTried_b4 (h : zH) (v1 : Int32) (v2 : Int32) : Option ((Int32) ⊕ (Int32)) :=
  if v2 < 0 then (
  some (.inr v2)) else (
  zg (zb v2 6) <|
    zg (zb (v2 + 1) 6) <|
    if (h.1 142 v2.toNatClampNeg) ≤ (h.1 142 (v2 + 1).toNatClampNeg) then (
    some (.inr v2)) else (
    some (.inl (v2 + (-1)))))
def f_Program_stepTried_b41 (h : zH) (v1 : Int32) (v2 : Int32) (v3 : Int32) : Option ((Int32) ⊕ (Int32)) :=
  if v3 ≤ v2 then (
  some (.inr v3)) else (
  zg (zb v3 6) <|
    zg (zb v2 6) <|
    if (h.1 142 v2.toNatClampNeg) ≤ (h.1 142 v3.toNatClampNeg) then (
    some (.inr v3)) else (
    some (.inl (v3 + (-1)))))
def f_Program_stepTried_b83 (h : zH) (v4 : Int32) (v5 : Int32) : Option ((Int32 × Int32 × zH) ⊕ (zH)) :=
  if v5 ≤ v4 then (
  some (.inr h)) else (
  (f_Program_swapTried h v4 v5).bind fun x14 =>
    some (.inl ((v4 + 1), (v5 + (-1)), x14)))
def f_Program_stepTried (h : zH) (v1 : Int32) : Option (Int32 × zH) :=
  (zit zFU (fun s : Int32 => f_Program_stepTried_b4 h v1 s) (v1 - 2)).bind (fun y6 =>
  if 0 ≤ y6 then (
    (zit zFU (fun s : Int32 => f_Program_stepTried_b41 h v1 y6 s) (v1 - 1)).bind (fun y12 =>
      (f_Program_swapTried h y6 y12).bind fun x13 =>
        (zit zFU (fun s : Int32 × Int32 × zH => f_Program_stepTried_b83 s.2.2 s.1 s.2.1) ((y6 + 1), (v1 - 1), x13)).bind (fun y17 =>
        some (1, y17)))) else (
    some (0, h)))
def f_Program_arrange_b30 (o1 : Nat) (h : zH) (v3 : Int32) (v4 : Int32) (v5 : Int32) : Option ((Int32 × Int32 × zH) ⊕ (Int32 × zH)) :=
  if 720 ≤ v5 then (
  some (.inr (v4, h))) else (
  (f_Program_stepTried h v3).bind fun x5 =>
    if x5.1 = 0 then (
    some (.inr (v4, x5.2))) else (
    (f_Program_costOfTried x5.2 v3).bind fun x6 =>
      if v4 ≤ x6 then (
      some (.inl (v4, (v5 + 1), x5.2))) else (
      (f_Program_keepTried x5.2 v3).bind fun x7 =>
        some (.inl (x6, (v5 + 1), x7)))))
def f_Program_arrange (o1 : Nat) (h : zH) (v2 : Int32) : Option (Int32 × zH) :=
  (f_Program_countApart h (h.1 o1 0)).bind fun x1 =>
  (f_Program_listCells o1 x1 v2).bind fun x2 =>
  (f_Program_costOfTried x2.2 x2.1).bind fun x3 =>
  (f_Program_keepTried x2.2 x2.1).bind fun x4 =>
  (zit zFU (fun s : Int32 × Int32 × zH => f_Program_arrange_b30 o1 s.2.2 x2.1 s.1 s.2.1) (x3, 0, x4)).bind (fun y12 =>
  some (y12.1, y12.2))
def f_Main_order (h : zH) (v1 : Int32) (v2 : Int32) : Option ((Int32 × zH) ⊕ (Nat × zH)) :=
  (f_Main_needCell h v1 v2).bind (Sum.elim (fun x1 =>
  (f_Main_planNow x1.2).bind fun x2 =>
  zgr (x2.2.2.1 0 1) 3 fun w3 =>
  (f_Program_arrange w3 x2 v1).bind fun x4 =>
  if ¬ v2 = (-1) then (
  zg (zb v2 6) <|
    some (.inl ((x4.2.1 141 v2.toNatClampNeg), x4.2))) else (
  some (.inl (x4.1, x4.2)))) fun q => some (.inr q))
def f_Math_max (v0 : Int32) (v1 : Int32) : Option (Int32) :=
  if v0 < v1 then (
  some v1) else (
  some v0)
def f_Packs_agreesWith_b11 (o2 : Nat) (h : zH) (v3 : Int32) (v4 : Int32) (v5 : Int32) (v6 : Int32) : Option ((Int32) ⊕ ((Unit) ⊕ (Unit))) :=
  if v3 ≤ v6 then (
  some (.inr (.inr ()))) else (
  zg (zb v6 8) <|
    zg (zb v5 44) <|
    zg (zb (h.1 (o2 + 1) v6.toNatClampNeg) 44) <|
    zg (zb v5 44) <|
    zg (zb (h.1 (o2 + 1) v6.toNatClampNeg) 44) <|
    zg (zb v6 8) <|
    if ¬ (h.1 151 v6.toNatClampNeg) = v4 then (
    some (.inl (v6 + 1))) else (
    if (((h.1 123 v5.toNatClampNeg) ^^^ (h.1 123 (h.1 (o2 + 1) v6.toNatClampNeg).toNatClampNeg)) &&& ((h.1 122 v5.toNatClampNeg) &&& (h.1 122 (h.1 (o2 + 1) v6.toNatClampNeg).toNatClampNeg))) = 0 then (
      some (.inl (v6 + 1))) else (
      some (.inr (.inl ())))))
def f_Packs_agreesWith (o2 : Nat) (h : zH) (v3 : Int32) (v4 : Int32) : Option (Int32) :=
  zg (zb v3 8) <|
  (zit zFU (fun s : Int32 => f_Packs_agreesWith_b11 o2 h v3 v4 (h.1 (o2 + 1) v3.toNatClampNeg) s) 0).bind (Sum.elim (fun y12 =>
  some 0) (fun y13 =>
  some 1))
def f_Packs_nextGroup_b6 (o2 : Nat) (h : zH) (v3 : Int32) (v4 : Int32) (v5 : Int32) (v6 : Int32) : Option ((Int32 × Int32) ⊕ (Int32)) :=
  if v3 ≤ v6 then (
  some (.inr v5)) else (
  zg (zb v6 8) <|
    (f_Math_max v5 ((h.1 151 v6.toNatClampNeg) + 1)).bind fun x2 =>
    some (.inl (x2, (v6 + 1))))
def f_Packs_nextGroup_b44 (o2 : Nat) (h : zH) (v3 : Int32) (v4 : Int32) (v5 : Int32) (v6 : Int32) : Option ((Int32) ⊕ ((Int32) ⊕ (Unit))) :=
  if v5 < v6 then (
  some (.inr (.inr ()))) else (
  if v4 ≤ v6 then (
    some (.inr (.inr ()))) else (
    (f_Packs_agreesWith o2 h v3 v6).bind fun x7 =>
      if x7 = 0 then (
      some (.inl (v6 + 1))) else (
      some (.inr (.inl v6)))))
def f_Packs_nextGroup (o2 : Nat) (h : zH) (v3 : Int32) (v4 : Int32) : Option (Int32) :=
  (zit zFU (fun s : Int32 × Int32 => f_Packs_nextGroup_b6 o2 h v3 v4 s.1 s.2) (0, 0)).bind (fun y5 =>
  zg (zb v3 8) <|
    (zit zFU (fun s : Int32 => f_Packs_nextGroup_b44 o2 h v3 v4 y5 s) ((h.1 151 v3.toNatClampNeg) + 1)).bind (Sum.elim (fun y12 =>
    some y12) (fun y13 =>
    some (-1))))
def f_Packs_fitInto_b20 (o2 : Nat) (h : zH) (v3 : Int32) (v4 : Int32) (v5 : Int32) : Option ((Int32 × Int32 × zH) ⊕ (Int32 × zH)) :=
  if 1000000 ≤ v5 then (
  some (.inr (v4, h))) else (
  if v4 < 0 then (
    some (.inr (v4, h))) else (
    if (h.1 o2 5) ≤ v4 then (
      some (.inr (v4, h))) else (
      (f_Packs_nextGroup o2 h v4 v3).bind fun x1 =>
        zg (zb v4 8) <|
        (some (zsI h 151 v4.toNatClampNeg x1)).bind fun h2 =>
        zg (zb v4 8) <|
        if ¬ (h2.1 151 v4.toNatClampNeg) = (-1) then (
        if (h2.1 o2 5) ≤ (v4 + 1) then (
          some (.inl ((v4 + 1), (v5 + 1), h2))) else (
          zg (zb (v4 + 1) 8) <|
            (some (zsI h2 151 (v4 + 1).toNatClampNeg (-1))).bind fun h5 =>
            some (.inl ((v4 + 1), (v5 + 1), h5)))) else (
        some (.inl ((v4 + (-1)), (v5 + 1), h2))))))
def f_Packs_fitInto_j17 (o2 : Nat) (h : zH) (v3 : Int32) (v4 : Int32) : Option (Int32 × zH) :=
  (zit zFU (fun s : Int32 × Int32 × zH => f_Packs_fitInto_b20 o2 s.2.2 v3 s.1 s.2.1) (v4, 0, h)).bind (fun y13 =>
  if ¬ y13.1 = (y13.2.1 o2 5) then (
    some (0, y13.2)) else (
    some (1, y13.2)))
def f_Packs_fitInto (o2 : Nat) (h : zH) (v3 : Int32) : Option (Int32 × zH) :=
  if (h.1 o2 5) ≤ 0 then (
  f_Packs_fitInto_j17 o2 h v3 0) else (
  (some (zsI h 151 0 (-1))).bind fun h15 =>
    f_Packs_fitInto_j17 o2 h15 v3 0)
def f_Packs_arrange_b2 (o2 : Nat) (h : zH) (v3 : Int32) : Option ((Int32 × zH) ⊕ ((Int32 × zH) ⊕ (zH))) :=
  if (h.1 o2 5) ≤ v3 then (
  some (.inr (.inr h))) else (
  (f_Packs_fitInto o2 h v3).bind fun x1 =>
    if x1.1 = 0 then (
    some (.inl ((v3 + 1), x1.2))) else (
    some (.inr (.inl (v3, x1.2)))))
def f_Packs_arrange (o2 : Nat) (h : zH) : Option (Int32 × zH) :=
  (zit zFU (fun s : Int32 × zH => f_Packs_arrange_b2 o2 s.2 s.1) (0, h)).bind (Sum.elim (fun y5 =>
  some (y5.1, y5.2)) (fun y6 =>
  (f_Packs_fitInto o2 y6 (y6.1 o2 5)).bind fun x7 =>
    some ((x7.2.1 o2 5), x7.2)))
def f_Main_pack_j19 (h : zH) : Option ((Int32 × zH) ⊕ (Nat × zH)) :=
  some (.inr (1, h))
def f_Main_pack (h : zH) (v1 : Int32) : Option ((Int32 × zH) ⊕ (Nat × zH)) :=
  if v1 < (-1) then (
  f_Main_pack_j19 h) else (
  if v1 < (h.1 156 5) then (
    (f_Packs_arrange 156 h).bind fun x1 =>
      if ¬ v1 = (-1) then (
      zg (zb v1 8) <|
        some (.inl ((x1.2.1 151 v1.toNatClampNeg), x1.2))) else (
      some (.inl (x1.1, x1.2)))) else (
    f_Main_pack_j19 h))
def f_Net_isPin (o : Nat) (h : zH) (v1 : Int32) : Option (Int32) :=
  if v1 < 0 then (
  some 0) else (
  if (h.1 o 0) ≤ v1 then (
    some 0) else (
    zg (zb v1 6) <|
      if ¬ (h.1 (o + 28) v1.toNatClampNeg) = (-1) then (
      some 0) else (
      some 1)))
def f_Main_refuseAct (h : zH) : Option (Int32 × zH) :=
  (f_Session_refuse 155 h 1).bind fun x1 =>
  some ((-1), x1)
def f_Main_isBit (v0 : Int32) : Option (Int32) :=
  if v0 = 0 then (
  some 1) else (
  if ¬ v0 = 1 then (
    some 0) else (
    some 1))
def f_State_copyFrom_b50 (o : Nat) (o1 : Nat) (h : zH) (v2 : Int32) : Option ((Int32 × zH) ⊕ (zH)) :=
  if 8 ≤ v2 then (
  some (.inr h)) else (
  zg (zb v2 8) <|
    zg (zb v2 8) <|
    (some (zsI h (o + 1) v2.toNatClampNeg (h.1 (o1 + 1) v2.toNatClampNeg))).bind fun h8 =>
    some (.inl ((v2 + 1), h8)))
def f_State_copyFrom (o : Nat) (o1 : Nat) (h : zH) : Option (zH) :=
  (some (zsI h o 0 (h.1 o1 0))).bind fun h1 =>
  (some (zsI h1 o 1 (h1.1 o1 1))).bind fun h2 =>
  (some (zsI h2 o 2 (h2.1 o1 2))).bind fun h3 =>
  (some (zsI h3 o 3 (h3.1 o1 3))).bind fun h4 =>
  (some (zsL h4 o 4 (h4.2.1 o1 4))).bind fun h5 =>
  (some (zsI h5 o 5 (h5.1 o1 5))).bind fun h6 =>
  (zit zFU (fun s : Int32 × zH => f_State_copyFrom_b50 o o1 s.2 s.1) (0, h6)).bind (fun y12 =>
  some y12)
def f_Session_keepState (o : Nat) (h : zH) : Option (zH) :=
  zg (zb (zrem ((h.1 o 2) + (h.1 o 3)) 40) 40) <|
  (f_State_copyFrom ((o + 3) + (5 + 2 * (zrem ((h.1 o 2) + (h.1 o 3)) 40).toNatClampNeg)) (o + 1) h).bind fun x2 =>
  if 40 ≤ (x2.1 o 3) then (
  (some (zsI x2 o 2 (zrem ((x2.1 o 2) + 1) 40))).bind fun h3 =>
    some h3) else (
  (some (zsI x2 o 3 ((x2.1 o 3) + 1))).bind fun h4 =>
    some h4)
def f_Main_put_j18 (h : zH) : Option (Int32 × zH) :=
  (f_Main_refuseAct h).bind fun x3 =>
  some (x3.1, x3.2)
def f_Main_put (h : zH) (v1 : Int32) (v2 : Int32) : Option (Int32 × zH) :=
  zgr (h.2.2.1 0 1) 3 fun w1 =>
  (f_Net_isPin w1 h v1).bind fun x2 =>
  if x2 = 0 then (
  f_Main_put_j18 h) else (
  (f_Main_isBit v2).bind fun x4 =>
    if ¬ x4 = 0 then (
    (f_Session_keepState 155 h).bind fun x5 =>
      (f_Main_bitOf (x5.1 156 0) v1).bind fun x6 =>
      (f_Main_withBit (x5.1 156 0) v1 v2).bind fun x7 =>
      (some (zsI x5 156 0 x7)).bind fun h8 =>
      some (x6, h8)) else (
    f_Main_put_j18 h))
def f_State_shiftCells_b25 (o : Nat) (o1 : Nat) (h : zH) (v2 : Int32) (v3 : Int32) (v4 : Int32) (v5 : Int32) (v6 : Int32) : Option ((Int32 × Int32 × zH) ⊕ (Int32 × zH)) :=
  zg (zb v4 3) <|
  if (h.1 (o1 + 34) v4.toNatClampNeg) ≤ v6 then (
  some (.inr (v5, h))) else (
  zg (zb v4 3) <|
    zg (zb v6 6) <|
    (f_Main_bitOf (h.1 o 0) (h.1 ((o1 + 30) + (1 + 1 * v4.toNatClampNeg)) v6.toNatClampNeg)).bind fun x5 =>
    (f_Main_withBit (h.1 o 0) (h.1 ((o1 + 30) + (1 + 1 * v4.toNatClampNeg)) v6.toNatClampNeg) v5).bind fun x6 =>
    (some (zsI h o 0 x6)).bind fun h7 =>
    some (.inl (x5, (v6 + 1), h7)))
def f_State_shiftCells_b5 (o : Nat) (o1 : Nat) (h : zH) (v2 : Int32) (v3 : Int32) (v4 : Int32) : Option ((Int32 × Int32 × zH) ⊕ (Int32 × zH)) :=
  if (h.1 o1 2) ≤ v4 then (
  some (.inr (v3, h))) else (
  (f_Main_bitOf v2 v4).bind fun x1 =>
    (zit zFU (fun s : Int32 × Int32 × zH => f_State_shiftCells_b25 o o1 s.2.2 v2 v3 v4 s.1 s.2.1) (x1, 0, h)).bind (fun y10 =>
    some (.inl ((v3 ||| (zshl y10.1 v4)), (v4 + 1), y10.2))))
def f_State_shiftCells (o : Nat) (o1 : Nat) (h : zH) (v2 : Int32) : Option (Int32 × zH) :=
  (zit zFU (fun s : Int32 × Int32 × zH => f_State_shiftCells_b5 o o1 s.2.2 v2 s.1 s.2.1) (0, 0, h)).bind (fun y13 =>
  (some (zsI y13.2 o 1 ((y13.2.1 o 1) + 1))).bind fun h14 =>
    some (y13.1, h14))
def f_Main_shift_j20 (h : zH) : Option (Int32 × zH) :=
  (f_Main_refuseAct h).bind fun x2 =>
  some (x2.1, x2.2)
def f_Main_shift (h : zH) (v1 : Int32) : Option (Int32 × zH) :=
  zgr (h.2.2.1 0 1) 3 fun w1 =>
  if (h.1 w1 2) = 0 then (
  f_Main_shift_j20 h) else (
  if v1 < 0 then (
    f_Main_shift_j20 h) else (
    if v1 ≤ 7 then (
      (f_Session_keepState 155 h).bind fun x3 =>
        zgr (x3.2.2.1 0 1) 3 fun w4 =>
        (f_State_shiftCells 156 w4 x3 v1).bind fun x5 =>
        some (x5.1, x5.2)) else (
      f_Main_shift_j20 h)))
def f_Catalog_inputsTaken_b6 (o1 : Nat) (h : zH) (v2 : Int32) (v3 : Int32) (v4 : Int32) (v5 : Int32) : Option ((Int32 × Int32) ⊕ (Int32)) :=
  if (h.1 o1 0) ≤ v5 then (
  some (.inr v4)) else (
  zg (zb v5 6) <|
    if (h.1 (o1 + 29) v5.toNatClampNeg) = (-1) then (
    some (.inl (v4, (v5 + 1)))) else (
    zg (zb v5 6) <|
      (f_Catalog_tell h v3 (h.1 (o1 + 29) v5.toNatClampNeg) v2).bind fun x3 =>
      (f_Main_withBit v4 v5 x3).bind fun x4 =>
      some (.inl (x4, (v5 + 1)))))
def f_Catalog_inputsTaken (o1 : Nat) (h : zH) (v2 : Int32) (v3 : Int32) : Option (Int32) :=
  (zit zFU (fun s : Int32 × Int32 => f_Catalog_inputsTaken_b6 o1 h v2 v3 s.1 s.2) (v2, 0)).bind (fun y8 =>
  some y8)
def f_State_takeLines (o : Nat) (o1 : Nat) (h : zH) : Option (zH) :=
  (f_Catalog_inputsTaken o1 h (h.1 o 0) (h.1 o 2)).bind fun x1 =>
  (some (zsI h o 0 x1)).bind fun h2 =>
  (some (zsI h2 o 1 ((h2.1 o 1) + 1))).bind fun h3 =>
  some h3
def f_Main_take (h : zH) : Option (Int32 × zH) :=
  (f_Session_keepState 155 h).bind fun x1 =>
  zgr (x1.2.2.1 0 1) 3 fun w2 =>
  (f_State_takeLines 156 w2 x1).bind fun x3 =>
  some ((x3.1 156 0), x3)
def f_Catalog_isRow (h : zH) (v1 : Int32) : Option (Int32) :=
  if v1 < 0 then (
  some 0) else (
  if (h.1 74 1) ≤ v1 then (
    some 0) else (
    some 1))
def f_Net_longestChain_b4 (o : Nat) (h : zH) (v1 : Int32) (v2 : Int32) : Option ((Int32 × Int32) ⊕ (Int32)) :=
  if (h.1 o 2) ≤ v2 then (
  some (.inr v1)) else (
  zg (zb v2 3) <|
    (f_Math_max v1 (h.1 (o + 34) v2.toNatClampNeg)).bind fun x2 =>
    some (.inl (x2, (v2 + 1))))
def f_Net_longestChain (o : Nat) (h : zH) : Option (Int32) :=
  (zit zFU (fun s : Int32 × Int32 => f_Net_longestChain_b4 o h s.1 s.2) (0, 0)).bind (fun y5 =>
  some y5)
def f_State_loadRow (o : Nat) (o1 : Nat) (h : zH) (v2 : Int32) : Option (Int32 × zH) :=
  (f_Net_longestChain o1 h).bind fun x1 =>
  (some (zsI h o 0 v2)).bind fun h2 =>
  (some (zsI h2 o 1 ((h2.1 o 1) + x1))).bind fun h3 =>
  some (x1, h3)
def f_Main_load (h : zH) (v1 : Int32) : Option (Int32 × zH) :=
  (f_Catalog_isRow h v1).bind fun x1 =>
  if ¬ x1 = 0 then (
  (f_Session_keepState 155 h).bind fun x2 =>
    zgr (x2.2.2.1 0 1) 3 fun w3 =>
    (f_State_loadRow 156 w3 x2 v1).bind fun x4 =>
    some (x4.1, x4.2)) else (
  (f_Main_refuseAct h).bind fun x5 =>
    some (x5.1, x5.2))
def f_State_applyInputs (o : Nat) (h : zH) : Option (Int32 × zH) :=
  (f_Catalog_caughtBy h (h.1 o 0)).bind fun x1 =>
  (some (zsL h o 4 ((h.2.1 o 4) ||| (x1 &&& ((h.2.1 o 4) ^^^ (-1)))))).bind fun h2 =>
  (f_Long_bitCount (x1 &&& ((h.2.1 o 4) ^^^ (-1)))).bind fun x3 =>
  some (x3, h2)
def f_Main_apply (h : zH) : Option (Int32 × zH) :=
  (f_Session_keepState 155 h).bind fun x1 =>
  (f_State_applyInputs 156 x1).bind fun x2 =>
  some (x2.1, x2.2)
def f_Main_defect_j10 (h : zH) (v1 : Int32) : Option ((Int32 × zH) ⊕ (Nat × zH)) :=
  (f_Session_keepState 155 h).bind fun x1 =>
  (some (zsI x1 156 2 v1)).bind fun h2 =>
  some (.inl ((x1.1 156 2), h2))
def f_Main_defect (h : zH) (v1 : Int32) : Option ((Int32 × zH) ⊕ (Nat × zH)) :=
  if v1 = (-1) then (
  f_Main_defect_j10 h v1) else (
  (f_Main_needFault h v1).bind (Sum.elim (fun x3 =>
    f_Main_defect_j10 x3.2 v1) fun q => some (.inr q)))
def f_Main_fill_j9 (h : zH) : Option (Int32 × zH) :=
  (f_Main_refuseAct h).bind fun x1 =>
  some (x1.1, x1.2)
def f_Main_fill (h : zH) (v1 : Int32) : Option (Int32 × zH) :=
  if v1 < 0 then (
  f_Main_fill_j9 h) else (
  if v1 ≤ 2 then (
    (f_Session_keepState 155 h).bind fun x2 =>
      (some (zsI x2 156 3 v1)).bind fun h3 =>
      some ((x2.1 156 3), h3)) else (
    f_Main_fill_j9 h))
def f_State_canPick_b2 (o : Nat) (h : zH) (v1 : Int32) (v2 : Int32) : Option ((Int32) ⊕ ((Unit) ⊕ (Unit))) :=
  if (h.1 o 5) ≤ v2 then (
  some (.inr (.inr ()))) else (
  zg (zb v2 8) <|
    if ¬ (h.1 (o + 1) v2.toNatClampNeg) = v1 then (
    some (.inl (v2 + 1))) else (
    some (.inr (.inl ()))))
def f_State_canPick (o : Nat) (h : zH) (v1 : Int32) : Option (Int32) :=
  (zit zFU (fun s : Int32 => f_State_canPick_b2 o h v1 s) 0).bind (Sum.elim (fun y5 =>
  some 0) (fun y6 =>
  if 8 ≤ (h.1 o 5) then (
    some 0) else (
    some 1)))
def f_State_addPick (o : Nat) (h : zH) (v1 : Int32) : Option (Int32 × zH) :=
  zg (zb (h.1 o 5) 8) <|
  (some (zsI h (o + 1) (h.1 o 5).toNatClampNeg v1)).bind fun h1 =>
  (some (zsI h1 o 5 ((h1.1 o 5) + 1))).bind fun h3 =>
  some ((h3.1 o 5), h3)
def f_Main_pick_j61 (h : zH) : Option (Int32 × zH) :=
  (f_Main_refuseAct h).bind fun x2 =>
  some (x2.1, x2.2)
def f_Main_pick (h : zH) (v1 : Int32) : Option (Int32 × zH) :=
  if ¬ v1 = (-1) then (
  (f_Catalog_isFault h v1).bind fun x1 =>
    if x1 = 0 then (
    f_Main_pick_j61 h) else (
    (f_Catalog_isLost h v1).bind fun x3 =>
      if ¬ x3 = 0 then (
      f_Main_pick_j61 h) else (
      (f_State_canPick 156 h v1).bind fun x4 =>
        if ¬ x4 = 0 then (
        (f_Session_keepState 155 h).bind fun x5 =>
          (f_State_addPick 156 x5 v1).bind fun x6 =>
          some (x6.1, x6.2)) else (
        f_Main_pick_j61 h)))) else (
  (f_Session_keepState 155 h).bind fun x10 =>
    (some (zsI x10 156 5 0)).bind fun h11 =>
    some (0, h11))
def f_Session_undoLast (o : Nat) (h : zH) : Option (Int32 × zH) :=
  if ¬ (h.1 o 3) = 0 then (
  (some (zsI h o 3 ((h.1 o 3) - 1))).bind fun h1 =>
    zg (zb (zrem ((h1.1 o 2) + (h1.1 o 3)) 40) 40) <|
    (f_State_copyFrom (o + 1) ((o + 3) + (5 + 2 * (zrem ((h1.1 o 2) + (h1.1 o 3)) 40).toNatClampNeg)) h1).bind fun x3 =>
    some ((x3.1 o 3), x3)) else (
  some ((-1), h))
def f_Main_undo (h : zH) : Option (Int32 × zH) :=
  (f_Session_undoLast 155 h).bind fun x1 =>
  some (x1.1, x1.2)
def f_Session_addNote (o : Nat) (h : zH) (v1 : Int32) (v2 : Int32) (v3 : Int32) : Option (Int32 × zH) :=
  zg (zb (h.1 o 7) 10) <|
  (some (zsI h (o + 4) (h.1 o 7).toNatClampNeg v1)).bind fun h1 =>
  zg (zb (h1.1 o 7) 10) <|
  (some (zsI h1 (o + 5) (h1.1 o 7).toNatClampNeg v2)).bind fun h3 =>
  zg (zb (h3.1 o 7) 10) <|
  (some (zsI h3 (o + 6) (h3.1 o 7).toNatClampNeg v3)).bind fun h5 =>
  (some (zsI h5 o 7 ((h5.1 o 7) + 1))).bind fun h7 =>
  some ((h7.1 o 7), h7)
def f_Main_note_j64 (h : zH) : Option (Int32 × zH) :=
  (f_Session_refuse 155 h 2).bind fun x3 =>
  some ((-1), x3)
def f_Main_note_j27 (h : zH) (v1 : Int32) (v2 : Int32) (v3 : Int32) (t0 : Int32) : Option (Int32 × zH) :=
  if 10 ≤ (h.1 155 7) then (
  f_Main_note_j64 h) else (
  (f_Catalog_isRow h v1).bind fun x4 =>
    if x4 = 0 then (
    f_Main_note_j64 h) else (
    if t0 = 0 then (
      f_Main_note_j64 h) else (
      (f_Main_isBit v3).bind fun x5 =>
        if ¬ x5 = 0 then (
        (f_Session_addNote 155 h v1 v2 v3).bind fun x6 =>
          some (x6.1, x6.2)) else (
        f_Main_note_j64 h))))
def f_Main_note (h : zH) (v1 : Int32) (v2 : Int32) (v3 : Int32) : Option (Int32 × zH) :=
  zgr (h.2.2.1 0 1) 3 fun w1 =>
  (f_Net_isLine w1 h v2).bind fun x2 =>
  if x2 = 0 then (
  f_Main_note_j27 h v1 v2 v3 0) else (
  zgr (h.2.2.1 0 1) 3 fun w11 =>
    (f_Net_isSeen w11 h v2).bind fun x12 =>
    if x12 = 0 then (
    f_Main_note_j27 h v1 v2 v3 0) else (
    f_Main_note_j27 h v1 v2 v3 1))
def f_Diagnosis_isSo_b3 (o2 : Nat) (h : zH) (v3 : Int32) (v4 : Int32) : Option ((Int32) ⊕ ((Unit) ⊕ (Unit))) :=
  if (h.1 o2 7) ≤ v4 then (
  some (.inr (.inr ()))) else (
  zg (zb v4 10) <|
    zg (zb v4 10) <|
    (f_Catalog_tell h v3 (h.1 (o2 + 5) v4.toNatClampNeg) (h.1 (o2 + 4) v4.toNatClampNeg)).bind fun x3 =>
    zg (zb v4 10) <|
    if x3 = (h.1 (o2 + 6) v4.toNatClampNeg) then (
    some (.inl (v4 + 1))) else (
    some (.inr (.inl ()))))
def f_Diagnosis_isSo (o2 : Nat) (h : zH) (v3 : Int32) : Option (Int32) :=
  (zit zFU (fun s : Int32 => f_Diagnosis_isSo_b3 o2 h v3 s) 0).bind (Sum.elim (fun y8 =>
  some 0) (fun y9 =>
  some 1))
def f_Diagnosis_gather_b7 (o2 : Nat) (h : zH) (v3 : Int32) : Option ((Int32 × zH) ⊕ (zH)) :=
  if (h.1 74 0) ≤ v3 then (
  some (.inr h)) else (
  (f_Diagnosis_isSo o2 h v3).bind fun x2 =>
    if x2 = 0 then (
    some (.inl ((v3 + 1), h))) else (
    zg (zb (h.1 152 1) 45) <|
      (some (zsI h 153 (h.1 152 1).toNatClampNeg v3)).bind fun h3 =>
      (some (zsI h3 152 1 ((h3.1 152 1) + 1))).bind fun h5 =>
      some (.inl ((v3 + 1), h5))))
def f_Diagnosis_gather (o2 : Nat) (h : zH) : Option (zH) :=
  (some (zsI h 152 1 0)).bind fun h1 =>
  (zit zFU (fun s : Int32 × zH => f_Diagnosis_gather_b7 o2 s.2 s.1) (0, h1)).bind (fun y9 =>
  (f_Diagnosis_isSo o2 y9 (-1)).bind fun x10 =>
    zg (zbo x10) <|
    (some (zsI y9 152 2 x10)).bind fun h11 =>
    if (h11.1 152 2) = 0 then (
    some h11) else (
    zg (zb (h11.1 152 1) 45) <|
      (some (zsI h11 153 (h11.1 152 1).toNatClampNeg (-1))).bind fun h13 =>
      some h13))
def f_Main_fits_j32 (h : zH) : Option ((Int32 × zH) ⊕ (Nat × zH)) :=
  some (.inr (1, h))
def f_Main_fits (h : zH) (v1 : Int32) : Option ((Int32 × zH) ⊕ (Nat × zH)) :=
  (f_Diagnosis_gather 155 h).bind fun x1 =>
  if v1 < (-2) then (
  f_Main_fits_j32 x1) else (
  if v1 < (x1.1 152 1) then (
    if ¬ v1 = (-2) then (
      if ¬ v1 = (-1) then (
        zg (zb v1 45) <|
          some (.inl ((x1.1 153 v1.toNatClampNeg), x1))) else (
        some (.inl ((x1.1 152 1), x1)))) else (
      if (x1.1 152 2) = 0 then (
        some (.inl (0, x1))) else (
        some (.inl (1, x1))))) else (
    f_Main_fits_j32 x1))
def f_Diagnosis_countUnlike_b2 (o1 : Nat) (h : zH) (v3 : Int32) : Option ((Int32 × zH) ⊕ (zH)) :=
  if 64 ≤ v3 then (
  some (.inr h)) else (
  zg (zb v3 64) <|
    (some (zsI h 154 v3.toNatClampNeg 0)).bind fun h1 =>
    some (.inl ((v3 + 1), h1)))
def f_Diagnosis_countUnlike_b60 (o1 : Nat) (h : zH) (v3 : Int32) (v4 : Int32) (v5 : Int64) (v7 : Int32) : Option ((Int64 × Int32) ⊕ (Int64)) :=
  if v4 ≤ v7 then (
  some (.inr v5)) else (
  if v5 = 0 then (
    some (.inr v5)) else (
    zg (zb v4 45) <|
      zg (zb v7 45) <|
      (f_Catalog_unlike o1 h (h.1 153 v4.toNatClampNeg) (h.1 153 v7.toNatClampNeg)).bind fun x9 =>
      some (.inl ((v5 &&& x9), (v7 + 1)))))
def f_Diagnosis_countUnlike_b107 (o1 : Nat) (h : zH) (v3 : Int32) (v4 : Int32) (v5 : Int64) (v7 : Int32) : Option ((Int32 × zH) ⊕ (zH)) :=
  if (h.1 74 1) ≤ v7 then (
  some (.inr h)) else (
  zg (zb v7 64) <|
    zg (zb v7 64) <|
    (some (zsI h 154 v7.toNatClampNeg ((h.1 154 v7.toNatClampNeg) + ((zlushr v5 v7).toInt32 &&& 1)))).bind fun h15 =>
    some (.inl ((v7 + 1), h15)))
def f_Diagnosis_countUnlike_b45 (o1 : Nat) (h : zH) (v3 : Int32) (v4 : Int32) : Option ((Int32 × zH) ⊕ (zH)) :=
  if v3 ≤ v4 then (
  some (.inr h)) else (
  (f_Catalog_allRows h).bind fun x6 =>
    (zit zFU (fun s : Int64 × Int32 => f_Diagnosis_countUnlike_b60 o1 h v3 v4 s.1 s.2) (x6, 0)).bind (fun y13 =>
    (zit zFU (fun s : Int32 × zH => f_Diagnosis_countUnlike_b107 o1 s.2 v3 v4 y13 s.1) (0, h)).bind (fun y19 =>
      some (.inl ((v4 + 1), y19)))))
def f_Diagnosis_countUnlike_j41 (o1 : Nat) (h : zH) (t0 : Int32) : Option (zH) :=
  (zit zFU (fun s : Int32 × zH => f_Diagnosis_countUnlike_b45 o1 s.2 t0 s.1) (0, h)).bind (fun y22 =>
  some y22)
def f_Diagnosis_countUnlike (o1 : Nat) (h : zH) : Option (zH) :=
  (zit zFU (fun s : Int32 × zH => f_Diagnosis_countUnlike_b2 o1 s.2 s.1) (0, h)).bind (fun y5 =>
  if (y5.1 152 2) = 0 then (
    f_Diagnosis_countUnlike_j41 o1 y5 (y5.1 152 1)) else (
    f_Diagnosis_countUnlike_j41 o1 y5 ((y5.1 152 1) + 1)))
def f_Diagnosis_seekRow_b18 (o1 : Nat) (h : zH) (v3 : Int32) : Option ((Int32 × zH) ⊕ (zH)) :=
  if (h.1 74 1) ≤ v3 then (
  some (.inr h)) else (
  zg (zb v3 64) <|
    if (h.1 154 v3.toNatClampNeg) ≤ (h.1 152 4) then (
    some (.inl ((v3 + 1), h))) else (
    (some (zsI h 152 3 v3)).bind fun h5 =>
      zg (zb v3 64) <|
      (some (zsI h5 152 4 (h5.1 154 v3.toNatClampNeg))).bind fun h7 =>
      some (.inl ((v3 + 1), h7))))
def f_Diagnosis_seekRow (o1 : Nat) (h : zH) : Option (zH) :=
  (f_Diagnosis_countUnlike o1 h).bind fun x1 =>
  (some (zsI x1 152 3 (-1))).bind fun h2 =>
  (some (zsI h2 152 4 0)).bind fun h3 =>
  (zit zFU (fun s : Int32 × zH => f_Diagnosis_seekRow_b18 o1 s.2 s.1) (0, h3)).bind (fun y11 =>
  some y11)
def f_Main_look_j17 (h : zH) (v1 : Int32) : Option ((Int32 × zH) ⊕ (Nat × zH)) :=
  (f_Diagnosis_gather 155 h).bind fun x1 =>
  zgr (x1.2.2.1 0 1) 3 fun w2 =>
  (f_Diagnosis_seekRow w2 x1).bind fun x3 =>
  if ¬ v1 = 0 then (
  some (.inl ((x3.1 152 4), x3))) else (
  some (.inl ((x3.1 152 3), x3)))
def f_Main_look (h : zH) (v1 : Int32) : Option ((Int32 × zH) ⊕ (Nat × zH)) :=
  if v1 = 0 then (
  f_Main_look_j17 h v1) else (
  if v1 = 1 then (
    f_Main_look_j17 h v1) else (
    some (.inr (1, h))))
def f_Main_forget (h : zH) : Option (zH) :=
  (some (zsI h 155 7 0)).bind fun h1 =>
  some h1
def f_Main_behind_j10 (h : zH) : Option ((Int32 × zH) ⊕ (Nat × zH)) :=
  some (.inr (2, h))
def f_Main_behind_b31 (h : zH) (v1 : Int32) (v2 : Int32) (v3 : Int32) : Option ((Int32 × Int32) ⊕ (Int32)) :=
  if v1 ≤ v3 then (
  some (.inr v2)) else (
  zgr (h.2.2.1 0 1) 3 fun w1 =>
    (f_Catalog_inputsTaken w1 h v2 (h.1 156 2)).bind fun x2 =>
    some (.inl (x2, (v3 + 1))))
def f_Main_behind (h : zH) (v1 : Int32) : Option ((Int32 × zH) ⊕ (Nat × zH)) :=
  if v1 < 0 then (
  f_Main_behind_j10 h) else (
  if v1 ≤ 40 then (
    (zit zFU (fun s : Int32 × Int32 => f_Main_behind_b31 h v1 s.1 s.2) ((h.1 156 0), 0)).bind (fun y5 =>
      some (.inl (y5, h)))) else (
    f_Main_behind_j10 h))
def f_Main_back_b13 (h : zH) (v1 : Int32) (v2 : Int32) : Option ((Int32 × Int32) ⊕ ((Int32) ⊕ (Unit))) :=
  if 64 < v2 then (
  some (.inr (.inr ()))) else (
  zgr (h.2.2.1 0 1) 3 fun w1 =>
    (f_Catalog_inputsTaken w1 h v1 (h.1 156 2)).bind fun x2 =>
    if ¬ x2 = (h.1 156 0) then (
    some (.inl (x2, (v2 + 1)))) else (
    some (.inr (.inl v2))))
def f_Main_back (h : zH) : Option (Int32) :=
  (zit zFU (fun s : Int32 × Int32 => f_Main_back_b13 h s.1 s.2) ((h.1 156 0), 1)).bind (Sum.elim (fun y6 =>
  some y6) (fun y7 =>
  some (-1)))
def f_Catalog_tellApart_b3 (o1 : Nat) (h : zH) (v2 : Int32) (v3 : Int32) (v4 : Int32) (v5 : Int32) : Option ((Int32) ⊕ ((Unit) ⊕ (Unit))) :=
  (f_Net_lines o1 h).bind fun x1 =>
  if x1 ≤ v5 then (
  some (.inr (.inr ()))) else (
  (f_Net_isSeen o1 h v5).bind fun x2 =>
    if x2 = 0 then (
    some (.inl (v5 + 1))) else (
    (f_Catalog_tell h (-1) v5 v2).bind fun x3 =>
      (f_Catalog_tell h v4 v5 v3).bind fun x4 =>
      if x3 = x4 then (
      some (.inl (v5 + 1))) else (
      some (.inr (.inl ())))))
def f_Catalog_tellApart (o1 : Nat) (h : zH) (v2 : Int32) (v3 : Int32) (v4 : Int32) : Option (Int32) :=
  (zit zFU (fun s : Int32 => f_Catalog_tellApart_b3 o1 h v2 v3 v4 s) 0).bind (Sum.elim (fun y9 =>
  some 1) (fun y10 =>
  some 0))
def f_Main_tells_b30 (h : zH) (v1 : Int32) (v2 : Int32) (v3 : Int32) (v4 : Int32) : Option ((Int32 × Int32 × Int32) ⊕ ((Int32) ⊕ (Unit))) :=
  if 64 < v4 then (
  some (.inr (.inr ()))) else (
  zgr (h.2.2.1 0 1) 3 fun w2 =>
    (f_Catalog_tellApart w2 h v2 v3 v1).bind fun x3 =>
    if x3 = 0 then (
    zgr (h.2.2.1 0 1) 3 fun w4 =>
      (f_Catalog_inputsTaken w4 h v2 (-1)).bind fun x5 =>
      zgr (h.2.2.1 0 1) 3 fun w6 =>
      (f_Catalog_inputsTaken w6 h v3 v1).bind fun x7 =>
      some (.inl (x5, x7, (v4 + 1)))) else (
    some (.inr (.inl v4))))
def f_Main_tells (h : zH) (v1 : Int32) : Option ((Int32 × zH) ⊕ (Nat × zH)) :=
  (f_Main_needFault h v1).bind (Sum.elim (fun x1 =>
  (zit zFU (fun s : Int32 × Int32 × Int32 => f_Main_tells_b30 x1.2 v1 s.1 s.2.1 s.2.2) ((x1.2.1 156 0), (x1.2.1 156 0), 0)).bind (Sum.elim (fun y11 =>
  some (.inl (y11, x1.2))) (fun y12 =>
  some (.inl ((-1), x1.2))))) fun q => some (.inr q))
def f_Main_stir (v0 : Int32) : Option (Int32) :=
  some ((v0 * 1103515245) + 12345)
def f_Main_draw (v0 : Int32) (v1 : Int32) : Option (Int32) :=
  if 1 ≤ v1 then (
  zg (!decide (v1 = 0)) <|
    some (zrem ((zushr v0 16) &&& 32767) v1)) else (
  some 0)
def f_Main_liveYear (h : zH) (v1 : Int32) : Option (Int32 × zH) :=
  (f_Main_stir v1).bind fun x1 =>
  (f_Main_draw x1 4).bind fun x2 =>
  if x2 = 0 then (
  (f_Main_stir x1).bind fun x3 =>
    zgr (h.2.2.1 0 1) 3 fun w4 =>
    if (h.1 w4 2) ≤ 0 then (
    some (x3, h)) else (
    zgr (h.2.2.1 0 1) 3 fun w5 =>
      (f_Main_draw x3 8).bind fun x6 =>
      (f_State_shiftCells 331 w5 h x6).bind fun x7 =>
      some (x3, x7.2))) else (
  if x2 = 1 then (
    zgr (h.2.2.1 0 1) 3 fun w10 =>
      (f_State_takeLines 331 w10 h).bind fun x11 =>
      some (x1, x11)) else (
    if x2 = 2 then (
      (f_Main_stir x1).bind fun x13 =>
        zgr (h.2.2.1 0 1) 3 fun w14 =>
        (f_Main_draw x13 64).bind fun x15 =>
        (f_State_loadRow 331 w14 h (x15 &&& ((h.1 74 1) - 1))).bind fun x16 =>
        some (x13, x16.2)) else (
      (f_State_applyInputs 331 h).bind fun x18 =>
        some (x1, x18.2))))
def f_Main_years_j9 (h : zH) : Option ((Int32 × zH) ⊕ (Nat × zH)) :=
  some (.inr (1, h))
def f_Main_years_j27 (h : zH) : Option ((Int32 × zH) ⊕ (Nat × zH)) :=
  some (.inr (2, h))
def f_Main_years_b63 (h : zH) (v2 : Int32) (v3 : Int32) (v4 : Int32) (v5 : Int32) : Option ((Int32 × Int32 × zH) ⊕ (zH)) :=
  if v2 ≤ v5 then (
  some (.inr h)) else (
  (f_Main_liveYear h v4).bind fun x3 =>
    some (.inl (x3.1, (v5 + 1), x3.2)))
def f_Main_years (h : zH) (v1 : Int32) (v2 : Int32) (v3 : Int32) : Option ((Int32 × zH) ⊕ (Nat × zH)) :=
  if v3 < 0 then (
  f_Main_years_j9 h) else (
  if v3 ≤ 2 then (
    if v2 < 0 then (
      f_Main_years_j27 h) else (
      if v2 ≤ 60 then (
        (f_State_copyFrom 331 156 h).bind fun x1 =>
          (some (zsI x1 331 1 0)).bind fun h2 =>
          (zit zFU (fun s : Int32 × Int32 × zH => f_Main_years_b63 s.2.2 v2 v3 s.1 s.2.1) (v1, 0, h2)).bind (fun y6 =>
          if v3 = 0 then (
            (f_Long_bitCount (y6.2.1 331 4)).bind fun x7 =>
              some (.inl (x7, y6))) else (
            if v3 = 1 then (
              some (.inl ((y6.1 331 1), y6))) else (
              some (.inl ((y6.1 331 0), y6)))))) else (
        f_Main_years_j27 h))) else (
    f_Main_years_j9 h))
def f_Session_copyFrom_b13 (o : Nat) (o1 : Nat) (h : zH) (v2 : Int32) : Option ((Int32 × zH) ⊕ (zH)) :=
  if 40 ≤ v2 then (
  some (.inr h)) else (
  zg (zb v2 40) <|
    zg (zb v2 40) <|
    (f_State_copyFrom ((o + 3) + (5 + 2 * v2.toNatClampNeg)) ((o1 + 3) + (5 + 2 * v2.toNatClampNeg)) h).bind fun x4 =>
    some (.inl ((v2 + 1), x4)))
def f_Session_copyFrom_b58 (o : Nat) (o1 : Nat) (h : zH) (v2 : Int32) : Option ((Int32 × zH) ⊕ (zH)) :=
  if 10 ≤ v2 then (
  some (.inr h)) else (
  zg (zb v2 10) <|
    zg (zb v2 10) <|
    (some (zsI h (o + 4) v2.toNatClampNeg (h.1 (o1 + 4) v2.toNatClampNeg))).bind fun h11 =>
    zg (zb v2 10) <|
    zg (zb v2 10) <|
    (some (zsI h11 (o + 5) v2.toNatClampNeg (h11.1 (o1 + 5) v2.toNatClampNeg))).bind fun h14 =>
    zg (zb v2 10) <|
    zg (zb v2 10) <|
    (some (zsI h14 (o + 6) v2.toNatClampNeg (h14.1 (o1 + 6) v2.toNatClampNeg))).bind fun h17 =>
    some (.inl ((v2 + 1), h17)))
def f_Session_copyFrom_b116 (o : Nat) (o1 : Nat) (h : zH) (v2 : Int32) : Option ((Int32 × zH) ⊕ (zH)) :=
  if 3 ≤ v2 then (
  some (.inr h)) else (
  zg (zb v2 3) <|
    zg (zb v2 3) <|
    (some (zsI h (o + 7) v2.toNatClampNeg (h.1 (o1 + 7) v2.toNatClampNeg))).bind fun h24 =>
    some (.inl ((v2 + 1), h24)))
def f_Session_copyFrom (o : Nat) (o1 : Nat) (h : zH) : Option (zH) :=
  (f_State_copyFrom (o + 1) (o1 + 1) h).bind fun x1 =>
  (zit zFU (fun s : Int32 × zH => f_Session_copyFrom_b13 o o1 s.2 s.1) (0, x1)).bind (fun y7 =>
  (some (zsI y7 o 2 (y7.1 o1 2))).bind fun h8 =>
    (some (zsI h8 o 3 (h8.1 o1 3))).bind fun h9 =>
    (zit zFU (fun s : Int32 × zH => f_Session_copyFrom_b58 o o1 s.2 s.1) (0, h9)).bind (fun y21 =>
    (some (zsI y21 o 7 (y21.1 o1 7))).bind fun h22 =>
      (zit zFU (fun s : Int32 × zH => f_Session_copyFrom_b116 o o1 s.2 s.1) (0, h22)).bind (fun y28 =>
      some y28)))
def f_Main_image (h : zH) : Option (zH) :=
  (f_Session_copyFrom 243 155 h).bind fun x1 =>
  (some (zsI x1 0 9 1)).bind fun h2 =>
  some h2
def f_Main_restore (h : zH) : Option (Int32 × zH) :=
  if ¬ (h.1 0 9) = 0 then (
  (f_Session_copyFrom 155 243 h).bind fun x1 =>
    some (1, x1)) else (
  some (0, h))
def f_Mod_thrown (h : zH) : Option (Int32) :=
  some (h.1 333 2)
def f_Mod_feed_j76 (h : zH) (v1 : Int32) (v2 : Int32) (v3 : Int32) (v4 : Int32) (v5 : Int32) (v6 : Int32) (t0 : Int32) : Option ((Int32 × zH) ⊕ (zH)) :=
  zg (zb (h.1 333 17) 900) <|
  (some (zsI h 349 (h.1 333 17).toNatClampNeg ((zshr t0 (24 - (8 * (zrem v6 4)))) &&& 255))).bind fun h2 =>
  (some (zsI h2 333 17 ((h2.1 333 17) + 1))).bind fun h4 =>
  some (.inl ((v6 + 1), h4))
def f_Mod_feed_b23 (h : zH) (v1 : Int32) (v2 : Int32) (v3 : Int32) (v4 : Int32) (v5 : Int32) (v6 : Int32) : Option ((Int32 × zH) ⊕ (zH)) :=
  if 20 ≤ v6 then (
  some (.inr h)) else (
  if 4 ≤ v6 then (
    if 8 ≤ v6 then (
      if 12 ≤ v6 then (
        if 16 ≤ v6 then (
          f_Mod_feed_j76 h v1 v2 v3 v4 v5 v6 v5) else (
          f_Mod_feed_j76 h v1 v2 v3 v4 v5 v6 v4)) else (
        f_Mod_feed_j76 h v1 v2 v3 v4 v5 v6 v3)) else (
      f_Mod_feed_j76 h v1 v2 v3 v4 v5 v6 v2)) else (
    f_Mod_feed_j76 h v1 v2 v3 v4 v5 v6 v1))
def f_Mod_feed (h : zH) (v1 : Int32) (v2 : Int32) (v3 : Int32) (v4 : Int32) (v5 : Int32) : Option (Int32 × zH) :=
  (some (zsI h 333 2 0)).bind fun h1 =>
  if ((h1.1 333 17) + 20) ≤ 900 then (
  (zit zFU (fun s : Int32 × zH => f_Mod_feed_b23 s.2 v1 v2 v3 v4 v5 s.1) (0, h1)).bind (fun y11 =>
    some ((y11.1 333 17), y11))) else (
  some ((-1), h1))
def f_Mod_fail (h : zH) (v1 : Int32) : Option (Int32 × zH) :=
  (some (zsI h 333 2 v1)).bind fun h1 =>
  some (0, h1)
def f_Mod_byteAt (h : zH) (v1 : Int32) : Option (Int32) :=
  if (h.1 333 19) ≤ v1 then (
  some (-1)) else (
  zg (zb v1 900) <|
    some (h.1 349 v1.toNatClampNeg))
def f_Mod_isLetter (v0 : Int32) : Option (Int32) :=
  if v0 < 97 then (
  some 0) else (
  if 122 < v0 then (
    some 0) else (
    some 1))
def f_Mod_isDigit (v0 : Int32) : Option (Int32) :=
  if v0 < 48 then (
  some 0) else (
  if 57 < v0 then (
    some 0) else (
    some 1))
def f_Mod_stepOn_j26 (h : zH) : Option ((zH) ⊕ (zH)) :=
  (some (zsI h 333 18 ((h.1 333 18) + 1))).bind fun h2 =>
  some (.inl h2)
def f_Mod_stepOn_b0 (h : zH) : Option ((zH) ⊕ (zH)) :=
  (f_Mod_byteAt h (h.1 333 18)).bind fun x1 =>
  if x1 = 32 then (
  f_Mod_stepOn_j26 h) else (
  (f_Mod_byteAt h (h.1 333 18)).bind fun x3 =>
    if ¬ x3 = 10 then (
    some (.inr h)) else (
    f_Mod_stepOn_j26 h))
def f_Mod_stepOn_j192 (h : zH) : Option (zH) :=
  (some (zsI h 333 23 (h.1 333 18))).bind fun h14 =>
  some h14
def f_Mod_stepOn_j189 (h : zH) (t0 : Int32) : Option (zH) :=
  (some (zsI h 333 20 t0)).bind fun h13 =>
  f_Mod_stepOn_j192 h13
def f_Mod_stepOn_j184 (h : zH) : Option (zH) :=
  f_Mod_stepOn_j189 h 3
def f_Mod_stepOn_b126 (h : zH) : Option ((zH) ⊕ (zH)) :=
  (f_Mod_byteAt h (h.1 333 18)).bind fun x18 =>
  (f_Mod_isDigit x18).bind fun x19 =>
  if x19 = 0 then (
  some (.inr h)) else (
  (some (zsI h 333 18 ((h.1 333 18) + 1))).bind fun h20 =>
    some (.inl h20))
def f_Mod_stepOn_b76 (h : zH) : Option ((zH) ⊕ (zH)) :=
  (f_Mod_byteAt h (h.1 333 18)).bind fun x26 =>
  (f_Mod_isLetter x26).bind fun x27 =>
  if x27 = 0 then (
  some (.inr h)) else (
  (some (zsI h 333 18 ((h.1 333 18) + 1))).bind fun h28 =>
    some (.inl h28))
def f_Mod_stepOn (h : zH) : Option (zH) :=
  (zit zFU (fun s : zH => f_Mod_stepOn_b0 s) h).bind (fun y7 =>
  (some (zsI y7 333 22 (y7.1 333 18))).bind fun h8 =>
    (f_Mod_byteAt h8 (h8.1 333 18)).bind fun x9 =>
    if ¬ x9 = (-1) then (
    (f_Mod_isLetter x9).bind fun x10 =>
      if x10 = 0 then (
      (f_Mod_isDigit x9).bind fun x11 =>
        if x11 = 0 then (
        (some (zsI h8 333 18 ((h8.1 333 18) + 1))).bind fun h12 =>
          if x9 = 59 then (
          f_Mod_stepOn_j184 h12) else (
          if ¬ x9 = 61 then (
            f_Mod_stepOn_j189 h12 4) else (
            f_Mod_stepOn_j184 h12))) else (
        (some (zsI h8 333 21 (x9 - 48))).bind fun h17 =>
          (zit zFU (fun s : zH => f_Mod_stepOn_b126 s) h17).bind (fun y23 =>
          (some (zsI y23 333 20 2)).bind fun h24 =>
            f_Mod_stepOn_j192 h24))) else (
      (zit zFU (fun s : zH => f_Mod_stepOn_b76 s) h8).bind (fun y31 =>
        (some (zsI y31 333 20 1)).bind fun h32 =>
          f_Mod_stepOn_j192 h32))) else (
    (some (zsI h8 333 20 0)).bind fun h34 =>
      f_Mod_stepOn_j192 h34))
def f_Mod_is_j75 (o1 : Nat) (h : zH) (v3 : Int32) (t0 : Int32) : Option ((Int32 × Int32) ⊕ (Int32)) :=
  some (.inl (t0, (v3 + 1)))
def f_Mod_is_b39 (o1 : Nat) (h : zH) (v2 : Int32) (v3 : Int32) : Option ((Int32 × Int32) ⊕ (Int32)) :=
  if v2 = 0 then (
  some (.inr v2)) else (
  (f_Str_length o1).bind fun x1 =>
    if x1 ≤ v3 then (
    some (.inr v2)) else (
    (f_Str_charAt o1 v3).bind fun x2 =>
      zg (zb ((h.1 333 22) + v3) 900) <|
      if ¬ x2 = (h.1 349 ((h.1 333 22) + v3).toNatClampNeg) then (
      f_Mod_is_j75 o1 h v3 0) else (
      f_Mod_is_j75 o1 h v3 1)))
def f_Mod_is_j36 (o1 : Nat) (h : zH) (t0 : Int32) : Option (Int32) :=
  (zit zFU (fun s : Int32 × Int32 => f_Mod_is_b39 o1 h s.1 s.2) (t0, 0)).bind (fun y8 =>
  zg (zbo y8) (some y8))
def f_Mod_is (o1 : Nat) (h : zH) : Option (Int32) :=
  if ¬ (h.1 333 24) = 0 then (
  f_Mod_is_j36 o1 h 0) else (
  if ¬ (h.1 333 20) = 1 then (
    f_Mod_is_j36 o1 h 0) else (
    (f_Str_length o1).bind fun x10 =>
      if ¬ x10 = ((h.1 333 23) - (h.1 333 22)) then (
      f_Mod_is_j36 o1 h 0) else (
      f_Mod_is_j36 o1 h 1)))
def f_Mod_wrong (h : zH) (v1 : Int32) : Option (zH) :=
  if (h.1 333 24) = 0 then (
  (some (zsI h 333 24 v1)).bind fun h1 =>
    (some (zsI h1 333 25 (h1.1 333 22))).bind fun h2 =>
    some h2) else (
  some h)
def f_Mod_which_60_b2 (h : zH) (v2 : Int32) : Option ((Int32) ⊕ ((Int32) ⊕ (Unit))) :=
  if 6 ≤ v2 then (
  some (.inr (.inr ()))) else (
  zg (zb v2 6) <|
    (f_Mod_is (1000010 + v2.toNatClampNeg) h).bind fun x2 =>
    if x2 = 0 then (
    some (.inl (v2 + 1))) else (
    some (.inr (.inl v2))))
def f_Mod_which_60 (h : zH) : Option (Int32) :=
  (zit zFU (fun s : Int32 => f_Mod_which_60_b2 h s) 0).bind (Sum.elim (fun y6 =>
  some y6) (fun y7 =>
  some (-1)))
def f_Mod_which_61_b2 (h : zH) (v2 : Int32) : Option ((Int32) ⊕ ((Int32) ⊕ (Unit))) :=
  if 5 ≤ v2 then (
  some (.inr (.inr ()))) else (
  zg (zb v2 5) <|
    (f_Mod_is (1000016 + v2.toNatClampNeg) h).bind fun x2 =>
    if x2 = 0 then (
    some (.inl (v2 + 1))) else (
    some (.inr (.inl v2))))
def f_Mod_which_61 (h : zH) : Option (Int32) :=
  (zit zFU (fun s : Int32 => f_Mod_which_61_b2 h s) 0).bind (Sum.elim (fun y6 =>
  some y6) (fun y7 =>
  some (-1)))
def f_Mod_wordHere_j68 (h : zH) : Option (Int32 × zH) :=
  if ¬ (h.1 333 24) = 0 then (
  some (0, h)) else (
  some (1, h))
def f_Mod_wordHere_j41 (h : zH) : Option (Int32 × zH) :=
  (f_Mod_wrong h 1).bind fun x1 =>
  f_Mod_wordHere_j68 x1
def f_Mod_wordHere (h : zH) : Option (Int32 × zH) :=
  if (h.1 333 24) = 0 then (
  if ¬ (h.1 333 20) = 1 then (
    f_Mod_wordHere_j41 h) else (
    (f_Mod_which_60 h).bind fun x3 =>
      if ¬ x3 = (-1) then (
      f_Mod_wordHere_j41 h) else (
      (f_Mod_which_61 h).bind fun x4 =>
        if x4 = (-1) then (
        if ((h.1 333 23) - (h.1 333 22)) ≤ 6 then (
          f_Mod_wordHere_j68 h) else (
          (f_Mod_wrong h 2).bind fun x5 =>
            f_Mod_wordHere_j68 x5)) else (
        f_Mod_wordHere_j41 h)))) else (
  some (0, h))
def f_Mod_newLines (h : zH) : Option (Int32) :=
  some ((h.1 336 5) + (h.1 336 6))
def f_Mod_named_j94 (h : zH) (v1 : Int32) (v3 : Int32) (t0 : Int32) : Option ((Int32 × Int32) ⊕ (Int32)) :=
  some (.inl (t0, (v3 + 1)))
def f_Mod_named_b39 (h : zH) (v1 : Int32) (v2 : Int32) (v3 : Int32) : Option ((Int32 × Int32) ⊕ (Int32)) :=
  if v2 = 0 then (
  some (.inr v2)) else (
  if ((h.1 333 23) - (h.1 333 22)) ≤ v3 then (
    some (.inr v2)) else (
    zg (zb ((6 * (22 + v1)) + v3) 264) <|
      zg (zb ((h.1 333 22) + v3) 900) <|
      if ¬ (h.1 346 ((6 * (22 + v1)) + v3).toNatClampNeg) = (((h.1 349 ((h.1 333 22) + v3).toNatClampNeg) - 97) + 1) then (
      f_Mod_named_j94 h v1 v3 0) else (
      f_Mod_named_j94 h v1 v3 1)))
def f_Mod_named_j36 (h : zH) (v1 : Int32) (t0 : Int32) : Option ((Int32) ⊕ ((Int32) ⊕ (Unit))) :=
  (zit zFU (fun s : Int32 × Int32 => f_Mod_named_b39 h v1 s.1 s.2) (t0, 0)).bind (fun y9 =>
  if y9 = 0 then (
    some (.inl (v1 + 1))) else (
    some (.inr (.inl v1))))
def f_Mod_named_b2 (h : zH) (v1 : Int32) : Option ((Int32) ⊕ ((Int32) ⊕ (Unit))) :=
  (f_Mod_newLines h).bind fun x1 =>
  if x1 ≤ v1 then (
  some (.inr (.inr ()))) else (
  zg (zb (22 + v1) 44) <|
    if ¬ (h.1 345 (22 + v1).toNatClampNeg) = ((h.1 333 23) - (h.1 333 22)) then (
    f_Mod_named_j36 h v1 0) else (
    f_Mod_named_j36 h v1 1))
def f_Mod_named (h : zH) : Option (Int32) :=
  (zit zFU (fun s : Int32 => f_Mod_named_b2 h s) 0).bind (Sum.elim (fun y14 =>
  some y14) (fun y15 =>
  some (-1)))
def f_Mod_takeName_j99 (h : zH) (v1 : Int32) (v2 : Int32) (t0 : Int32) (t1 : Int32) : Option ((Int32 × zH) ⊕ (zH)) :=
  zg (zb t1 264) <|
  (some (zsI h 346 t1.toNatClampNeg t0)).bind fun h5 =>
  some (.inl ((v2 + 1), h5))
def f_Mod_takeName_b53 (h : zH) (v1 : Int32) (v2 : Int32) : Option ((Int32 × zH) ⊕ (zH)) :=
  if 6 ≤ v2 then (
  some (.inr h)) else (
  zg (zb v1 44) <|
    if (h.1 345 v1.toNatClampNeg) ≤ v2 then (
    f_Mod_takeName_j99 h v1 v2 0 ((6 * v1) + v2)) else (
    zg (zb ((h.1 333 22) + v2) 900) <|
      f_Mod_takeName_j99 h v1 v2 (((h.1 349 ((h.1 333 22) + v2).toNatClampNeg) - 97) + 1) ((6 * v1) + v2)))
def f_Mod_takeName_j20 (h : zH) : Option (zH) :=
  if (h.1 333 24) = 0 then (
  (f_Mod_newLines h).bind fun x1 =>
    zg (zb (22 + x1) 44) <|
    (some (zsI h 345 (22 + x1).toNatClampNeg ((h.1 333 23) - (h.1 333 22)))).bind fun h2 =>
    (zit zFU (fun s : Int32 × zH => f_Mod_takeName_b53 s.2 (22 + x1) s.1) (0, h2)).bind (fun y11 =>
    zg (zb (22 + x1) 44) <|
      (some (zsI y11 340 (22 + x1).toNatClampNeg 0)).bind fun h12 =>
      (f_Mod_stepOn h12).bind fun x14 =>
      some x14)) else (
  some h)
def f_Mod_takeName (h : zH) : Option (zH) :=
  if ¬ (h.1 333 24) = 0 then (
  f_Mod_takeName_j20 h) else (
  (f_Mod_named h).bind fun x16 =>
    if x16 = (-1) then (
    f_Mod_takeName_j20 h) else (
    (f_Mod_wrong h 4).bind fun x17 =>
      f_Mod_takeName_j20 x17))
def f_Mod_isMarked (h : zH) (v1 : Int32) : Option (Int32) :=
  if ¬ (h.1 333 24) = 0 then (
  some 0) else (
  if ¬ (h.1 333 20) = 3 then (
    some 0) else (
    zg (zb (h.1 333 22) 900) <|
      if ¬ (h.1 349 (h.1 333 22).toNatClampNeg) = v1 then (
      some 0) else (
      some 1)))
def f_Mod_mark_j20 (h : zH) : Option (zH) :=
  if ¬ (h.1 333 24) = 0 then (
  some h) else (
  (f_Mod_stepOn h).bind fun x1 =>
    some x1)
def f_Mod_mark (h : zH) (v1 : Int32) : Option (zH) :=
  if ¬ (h.1 333 24) = 0 then (
  f_Mod_mark_j20 h) else (
  (f_Mod_isMarked h v1).bind fun x3 =>
    if ¬ x3 = 0 then (
    f_Mod_mark_j20 h) else (
    (f_Mod_wrong h 1).bind fun x4 =>
      f_Mod_mark_j20 x4))
def f_Mod_lineNow_j24 (h : zH) (v1 : Int32) : Option (Int32 × zH) :=
  if ¬ v1 = (-1) then (
  some (v1, h)) else (
  some (0, h))
def f_Mod_lineNow (h : zH) : Option (Int32 × zH) :=
  (f_Mod_wordHere h).bind fun x1 =>
  if ¬ x1.1 = 0 then (
  (f_Mod_named x1.2).bind fun x2 =>
    if ¬ x2 = (-1) then (
    f_Mod_lineNow_j24 x1.2 x2) else (
    (f_Mod_wrong x1.2 3).bind fun x4 =>
      f_Mod_lineNow_j24 x4 x2)) else (
  some (0, x1.2))
def f_Mod_readGate_j129 (h : zH) (v1 : Int32) (v2 : Int32) (v3 : Int32) (v4 : Int32) : Option ((Int32 × zH) ⊕ (Int32 × zH)) :=
  (f_Mod_lineNow h).bind fun x7 =>
  zg (zb ((3 * v1) + v4) 132) <|
  (some (zsI x7.2 339 ((3 * v1) + v4).toNatClampNeg x7.1)).bind fun h8 =>
  if ¬ (h8.1 333 24) = 0 then (
  some (.inl ((v4 + 1), h8))) else (
  (f_Mod_stepOn h8).bind fun x10 =>
    some (.inl ((v4 + 1), x10)))
def f_Mod_readGate_j117 (h : zH) (v1 : Int32) (v2 : Int32) (v3 : Int32) (v4 : Int32) (t0 : Int32) (t1 : Int32) : Option ((Int32 × zH) ⊕ (Int32 × zH)) :=
  if t1 < t0 then (
  f_Mod_readGate_j129 h v1 v2 v3 v4) else (
  (f_Mod_isMarked h 59).bind fun x12 =>
    if ¬ x12 = 0 then (
    some (.inr (v4, h))) else (
    f_Mod_readGate_j129 h v1 v2 v3 v4))
def f_Mod_readGate_b93 (h : zH) (v1 : Int32) (v2 : Int32) (v3 : Int32) (v4 : Int32) : Option ((Int32 × zH) ⊕ (Int32 × zH)) :=
  if v3 ≤ v4 then (
  some (.inr (v4, h))) else (
  if ¬ (h.1 333 24) = 0 then (
    some (.inr (v4, h))) else (
    if ¬ v2 = 0 then (
      f_Mod_readGate_j117 h v1 v2 v3 v4 2 v4) else (
      f_Mod_readGate_j117 h v1 v2 v3 v4 1 v4)))
def f_Mod_readGate_j89 (h : zH) (v1 : Int32) (v2 : Int32) (t0 : Int32) : Option (zH) :=
  (zit zFU (fun s : Int32 × zH => f_Mod_readGate_b93 s.2 v1 v2 t0 s.1) (0, h)).bind (fun y19 =>
  zg (zb v1 44) <|
    (some (zsI y19.2 337 v1.toNatClampNeg v2)).bind fun h20 =>
    zg (zb v1 44) <|
    (some (zsI h20 338 v1.toNatClampNeg y19.1)).bind fun h22 =>
    (some (zsI h22 336 6 ((h22.1 336 6) + 1))).bind fun h24 =>
    some h24)
def f_Mod_readGate_j68 (h : zH) (v1 : Int32) (v2 : Int32) : Option (zH) :=
  if (h.1 333 24) = 0 then (
  (f_Mod_stepOn h).bind fun x6 =>
    if ¬ v2 = 0 then (
    f_Mod_readGate_j89 x6 v1 v2 3) else (
    f_Mod_readGate_j89 x6 v1 v2 1)) else (
  some h)
def f_Mod_readGate_j24 (h : zH) : Option (zH) :=
  (f_Mod_newLines h).bind fun x2 =>
  (f_Mod_takeName h).bind fun x3 =>
  (f_Mod_mark x3 61).bind fun x4 =>
  (f_Mod_which_60 x4).bind fun x5 =>
  if ¬ (x4.1 333 24) = 0 then (
  f_Mod_readGate_j68 x4 (22 + x2) x5) else (
  if ¬ x5 = (-1) then (
    f_Mod_readGate_j68 x4 (22 + x2) x5) else (
    (f_Mod_wrong x4 1).bind fun x27 =>
      f_Mod_readGate_j68 x27 (22 + x2) x5))
def f_Mod_readGate (h : zH) : Option (zH) :=
  (f_Mod_wordHere h).bind fun x1 =>
  if x1.1 = 0 then (
  f_Mod_readGate_j24 x1.2) else (
  if ¬ (x1.2.1 336 6) = 16 then (
    f_Mod_readGate_j24 x1.2) else (
    (f_Mod_wrong x1.2 2).bind fun x30 =>
      f_Mod_readGate_j24 x30))
def f_Mod_readFill_j70 (h : zH) : Option (zH) :=
  if (h.1 333 24) = 0 then (
  (some (zsI h 336 8 (h.1 333 21))).bind fun h3 =>
    (some (zsI h3 336 9 1)).bind fun h4 =>
    (f_Mod_stepOn h4).bind fun x5 =>
    some x5) else (
  some h)
def f_Mod_readFill_j65 (h : zH) : Option (zH) :=
  (f_Mod_wrong h 2).bind fun x2 =>
  f_Mod_readFill_j70 x2
def f_Mod_readFill_j16 (h : zH) : Option (zH) :=
  if (h.1 333 24) = 0 then (
  (f_Mod_stepOn h).bind fun x1 =>
    if (x1.1 333 20) = 2 then (
    if 1 < ((x1.1 333 23) - (x1.1 333 22)) then (
      f_Mod_readFill_j65 x1) else (
      if (x1.1 333 21) ≤ 2 then (
        f_Mod_readFill_j70 x1) else (
        f_Mod_readFill_j65 x1))) else (
    (f_Mod_wrong x1 1).bind fun x9 =>
      f_Mod_readFill_j70 x9)) else (
  some h)
def f_Mod_readFill (h : zH) : Option (zH) :=
  if ¬ (h.1 336 9) = 1 then (
  f_Mod_readFill_j16 h) else (
  (f_Mod_wrong h 5).bind fun x12 =>
    f_Mod_readFill_j16 x12)
def f_Mod_inputNow_j27 (h : zH) (v1 : Int32) : Option (Int32 × zH) :=
  if ¬ (h.1 333 24) = 0 then (
  some (0, h)) else (
  some (v1, h))
def f_Mod_inputNow (h : zH) : Option (Int32 × zH) :=
  (f_Mod_lineNow h).bind fun x1 =>
  if ¬ (x1.2.1 333 24) = 0 then (
  f_Mod_inputNow_j27 x1.2 x1.1) else (
  if x1.1 < (x1.2.1 336 5) then (
    f_Mod_inputNow_j27 x1.2 x1.1) else (
    (f_Mod_wrong x1.2 3).bind fun x3 =>
      f_Mod_inputNow_j27 x3 x1.1))
def f_Mod_readTake_j59 (h : zH) (v1 : Int32) : Option (zH) :=
  if (h.1 333 24) = 0 then (
  (f_Mod_stepOn h).bind fun x3 =>
    (f_Mod_lineNow x3).bind fun x4 =>
    if (x4.2.1 333 24) = 0 then (
    zg (zb (6 + v1) 12) <|
      (some (zsI x4.2 342 (6 + v1).toNatClampNeg x4.1)).bind fun h5 =>
      zg (zb (22 + x4.1) 44) <|
      zg (zb (22 + x4.1) 44) <|
      (some (zsI h5 340 (22 + x4.1).toNatClampNeg ((h5.1 340 (22 + x4.1).toNatClampNeg) ||| 2))).bind fun h8 =>
      (f_Mod_stepOn h8).bind fun x10 =>
      some x10) else (
    some x4.2)) else (
  some h)
def f_Mod_readTake_j34 (h : zH) (v1 : Int32) : Option (zH) :=
  if ¬ (h.1 333 24) = 0 then (
  f_Mod_readTake_j59 h v1) else (
  zg (zb (6 + v1) 12) <|
    if (h.1 342 (6 + v1).toNatClampNeg) = (-1) then (
    f_Mod_readTake_j59 h v1) else (
    (f_Mod_wrong h 5).bind fun x14 =>
      f_Mod_readTake_j59 x14 v1))
def f_Mod_readTake (h : zH) : Option (zH) :=
  (f_Mod_stepOn h).bind fun x1 =>
  (f_Mod_inputNow x1).bind fun x2 =>
  if ¬ (x2.2.1 333 24) = 0 then (
  f_Mod_readTake_j34 x2.2 x2.1) else (
  zg (zb (6 + x2.1) 12) <|
    if ¬ (x2.2.1 341 (6 + x2.1).toNatClampNeg) = (-1) then (
    f_Mod_readTake_j34 x2.2 x2.1) else (
    (f_Mod_wrong x2.2 3).bind fun x18 =>
      f_Mod_readTake_j34 x18 x2.1))
def f_Mod_readChain_j143 (h : zH) (v1 : Int32) (t0 : Int32) : Option ((Int32 × zH) ⊕ ((zH) ⊕ (zH))) :=
  some (.inl (t0, h))
def f_Mod_readChain_j75 (h : zH) (v1 : Int32) (v3 : Int32) : Option ((Int32 × zH) ⊕ ((zH) ⊕ (zH))) :=
  if (h.1 333 24) = 0 then (
  zg (zb (6 + v3) 12) <|
    (some (zsI h 341 (6 + v3).toNatClampNeg v1)).bind fun h5 =>
    zg (zb (3 + v1) 6) <|
    zg (zb ((6 * (3 + v1)) + (h5.1 343 (3 + v1).toNatClampNeg)) 36) <|
    (some (zsI h5 344 ((6 * (3 + v1)) + (h5.1 343 (3 + v1).toNatClampNeg)).toNatClampNeg v3)).bind fun h8 =>
    zg (zb (3 + v1) 6) <|
    zg (zb (3 + v1) 6) <|
    (some (zsI h8 343 (3 + v1).toNatClampNeg ((h8.1 343 (3 + v1).toNatClampNeg) + 1))).bind fun h11 =>
    (f_Mod_stepOn h11).bind fun x13 =>
    if ¬ (x13.1 333 20) = 1 then (
    f_Mod_readChain_j143 x13 v1 0) else (
    f_Mod_readChain_j143 x13 v1 1)) else (
  some (.inr (.inl h)))
def f_Mod_readChain_b41 (h : zH) (v1 : Int32) (v2 : Int32) : Option ((Int32 × zH) ⊕ ((zH) ⊕ (zH))) :=
  if v2 = 0 then (
  some (.inr (.inr h))) else (
  (f_Mod_inputNow h).bind fun x4 =>
    if ¬ (x4.2.1 333 24) = 0 then (
    f_Mod_readChain_j75 x4.2 v1 x4.1) else (
    zg (zb (6 + x4.1) 12) <|
      if (x4.2.1 341 (6 + x4.1).toNatClampNeg) = (-1) then (
      f_Mod_readChain_j75 x4.2 v1 x4.1) else (
      (f_Mod_wrong x4.2 5).bind fun x17 =>
        f_Mod_readChain_j75 x17 v1 x4.1)))
def f_Mod_readChain_j18 (h : zH) (v1 : Int32) : Option (zH) :=
  if (h.1 333 24) = 0 then (
  (f_Mod_stepOn h).bind fun x1 =>
    zg (zb (3 + v1) 6) <|
    (some (zsI x1 343 (3 + v1).toNatClampNeg 0)).bind fun h2 =>
    (zit zFU (fun s : Int32 × zH => f_Mod_readChain_b41 s.2 v1 s.1) (1, h2)).bind (Sum.elim (fun y22 =>
    some y22) (fun y23 =>
    (some (zsI y23 336 7 ((y23.1 336 7) + 1))).bind fun h24 =>
      some h24))) else (
  some h)
def f_Mod_readChain (h : zH) : Option (zH) :=
  if ¬ (h.1 336 7) = 3 then (
  f_Mod_readChain_j18 h (h.1 336 7)) else (
  (f_Mod_wrong h 2).bind fun x26 =>
    f_Mod_readChain_j18 x26 (h.1 336 7))
def f_Mod_readSeen_j80 (h : zH) (t0 : Int32) : Option ((Int32 × zH) ⊕ ((zH) ⊕ (zH))) :=
  some (.inl (t0, h))
def f_Mod_readSeen_j42 (h : zH) (v2 : Int32) : Option ((Int32 × zH) ⊕ ((zH) ⊕ (zH))) :=
  if (h.1 333 24) = 0 then (
  zg (zb (22 + v2) 44) <|
    zg (zb (22 + v2) 44) <|
    (some (zsI h 340 (22 + v2).toNatClampNeg ((h.1 340 (22 + v2).toNatClampNeg) ||| 1))).bind fun h4 =>
    (f_Mod_stepOn h4).bind fun x6 =>
    if ¬ (x6.1 333 20) = 1 then (
    f_Mod_readSeen_j80 x6 0) else (
    f_Mod_readSeen_j80 x6 1)) else (
  some (.inr (.inl h)))
def f_Mod_readSeen_b6 (h : zH) (v1 : Int32) : Option ((Int32 × zH) ⊕ ((zH) ⊕ (zH))) :=
  if v1 = 0 then (
  some (.inr (.inr h))) else (
  (f_Mod_lineNow h).bind fun x2 =>
    if ¬ (x2.2.1 333 24) = 0 then (
    f_Mod_readSeen_j42 x2.2 x2.1) else (
    zg (zb (22 + x2.1) 44) <|
      if ¬ (zrem (x2.2.1 340 (22 + x2.1).toNatClampNeg) 2) = 1 then (
      f_Mod_readSeen_j42 x2.2 x2.1) else (
      (f_Mod_wrong x2.2 5).bind fun x10 =>
        f_Mod_readSeen_j42 x10 x2.1)))
def f_Mod_readSeen (h : zH) : Option (zH) :=
  (f_Mod_stepOn h).bind fun x1 =>
  (zit zFU (fun s : Int32 × zH => f_Mod_readSeen_b6 s.2 s.1) (1, x1)).bind (Sum.elim (fun y15 =>
  some y15) (fun y16 =>
  some y16))
def f_Mod_readInputs_j138 (h : zH) (t0 : Int32) : Option ((Int32 × zH) ⊕ ((zH) ⊕ (zH))) :=
  some (.inl (t0, h))
def f_Mod_readInputs_j56 (h : zH) : Option ((Int32 × zH) ⊕ ((zH) ⊕ (zH))) :=
  (f_Mod_takeName h).bind fun x3 =>
  if (x3.1 333 24) = 0 then (
  zg (zb (22 + (h.1 336 5)) 44) <|
    (some (zsI x3 337 (22 + (h.1 336 5)).toNatClampNeg (-1))).bind fun h4 =>
    zg (zb (22 + (h.1 336 5)) 44) <|
    (some (zsI h4 338 (22 + (h.1 336 5)).toNatClampNeg 0)).bind fun h6 =>
    zg (zb (6 + (h.1 336 5)) 12) <|
    (some (zsI h6 341 (6 + (h.1 336 5)).toNatClampNeg (-1))).bind fun h8 =>
    zg (zb (6 + (h.1 336 5)) 12) <|
    (some (zsI h8 342 (6 + (h.1 336 5)).toNatClampNeg (-1))).bind fun h10 =>
    (some (zsI h10 336 5 ((h10.1 336 5) + 1))).bind fun h12 =>
    if ¬ (h12.1 333 20) = 1 then (
    f_Mod_readInputs_j138 h12 0) else (
    f_Mod_readInputs_j138 h12 1)) else (
  some (.inr (.inl x3)))
def f_Mod_readInputs_b29 (h : zH) (v1 : Int32) : Option ((Int32 × zH) ⊕ ((zH) ⊕ (zH))) :=
  if v1 = 0 then (
  some (.inr (.inr h))) else (
  (f_Mod_wordHere h).bind fun x2 =>
    if x2.1 = 0 then (
    f_Mod_readInputs_j56 x2.2) else (
    if ¬ (x2.2.1 336 5) = 6 then (
      f_Mod_readInputs_j56 x2.2) else (
      (f_Mod_wrong x2.2 2).bind fun x15 =>
        f_Mod_readInputs_j56 x15)))
def f_Mod_readInputs_j15 (h : zH) : Option (zH) :=
  if (h.1 333 24) = 0 then (
  (f_Mod_stepOn h).bind fun x1 =>
    (zit zFU (fun s : Int32 × zH => f_Mod_readInputs_b29 s.2 s.1) (1, x1)).bind (Sum.elim (fun y20 =>
    some y20) (fun y21 =>
    some y21))) else (
  some h)
def f_Mod_readInputs (h : zH) : Option (zH) :=
  if (h.1 336 6) ≤ 0 then (
  f_Mod_readInputs_j15 h) else (
  (f_Mod_wrong h 1).bind fun x23 =>
    f_Mod_readInputs_j15 x23)
def f_Mod_readClause_j97 (h : zH) : Option (zH) :=
  (f_Mod_mark h 59).bind fun x7 =>
  some x7
def f_Mod_readClause_j13 (h : zH) : Option (zH) :=
  (f_Mod_is 1000016 h).bind fun x1 =>
  if x1 = 0 then (
  (f_Mod_is 1000017 h).bind fun x2 =>
    if x2 = 0 then (
    (f_Mod_is 1000018 h).bind fun x3 =>
      if x3 = 0 then (
      (f_Mod_is 1000019 h).bind fun x4 =>
        if x4 = 0 then (
        (f_Mod_is 1000020 h).bind fun x5 =>
          if x5 = 0 then (
          (f_Mod_readGate h).bind fun x6 =>
            f_Mod_readClause_j97 x6) else (
          (f_Mod_readFill h).bind fun x8 =>
            f_Mod_readClause_j97 x8)) else (
        (f_Mod_readTake h).bind fun x10 =>
          f_Mod_readClause_j97 x10)) else (
      (f_Mod_readChain h).bind fun x12 =>
        f_Mod_readClause_j97 x12)) else (
    (f_Mod_readSeen h).bind fun x14 =>
      f_Mod_readClause_j97 x14)) else (
  (f_Mod_readInputs h).bind fun x16 =>
    f_Mod_readClause_j97 x16)
def f_Mod_readClause (h : zH) : Option (zH) :=
  if (h.1 333 20) = 1 then (
  f_Mod_readClause_j13 h) else (
  (f_Mod_wrong h 1).bind fun x18 =>
    f_Mod_readClause_j13 x18)
def f_Mod_takeHalf_62_b2 (h : zH) (v1 : Int32) : Option ((Int32 × zH) ⊕ (zH)) :=
  if (10 / 2) ≤ v1 then (
  some (.inr h)) else (
  zg (zb ((10 / 2) + v1) 10) <|
    zg (zb v1 10) <|
    (some (zsI h 336 v1.toNatClampNeg (h.1 336 ((10 / 2) + v1).toNatClampNeg))).bind fun h2 =>
    some (.inl ((v1 + 1), h2)))
def f_Mod_takeHalf_62 (h : zH) : Option (zH) :=
  (zit zFU (fun s : Int32 × zH => f_Mod_takeHalf_62_b2 s.2 s.1) (0, h)).bind (fun y6 =>
  some y6)
def f_Mod_takeHalf_63_b2 (h : zH) (v1 : Int32) : Option ((Int32 × zH) ⊕ (zH)) :=
  if (44 / 2) ≤ v1 then (
  some (.inr h)) else (
  zg (zb ((44 / 2) + v1) 44) <|
    zg (zb v1 44) <|
    (some (zsI h 337 v1.toNatClampNeg (h.1 337 ((44 / 2) + v1).toNatClampNeg))).bind fun h2 =>
    some (.inl ((v1 + 1), h2)))
def f_Mod_takeHalf_63 (h : zH) : Option (zH) :=
  (zit zFU (fun s : Int32 × zH => f_Mod_takeHalf_63_b2 s.2 s.1) (0, h)).bind (fun y6 =>
  some y6)
def f_Mod_takeHalf_64_b2 (h : zH) (v1 : Int32) : Option ((Int32 × zH) ⊕ (zH)) :=
  if (44 / 2) ≤ v1 then (
  some (.inr h)) else (
  zg (zb ((44 / 2) + v1) 44) <|
    zg (zb v1 44) <|
    (some (zsI h 338 v1.toNatClampNeg (h.1 338 ((44 / 2) + v1).toNatClampNeg))).bind fun h2 =>
    some (.inl ((v1 + 1), h2)))
def f_Mod_takeHalf_64 (h : zH) : Option (zH) :=
  (zit zFU (fun s : Int32 × zH => f_Mod_takeHalf_64_b2 s.2 s.1) (0, h)).bind (fun y6 =>
  some y6)
def f_Mod_takeHalf_65_b2 (h : zH) (v1 : Int32) : Option ((Int32 × zH) ⊕ (zH)) :=
  if (132 / 2) ≤ v1 then (
  some (.inr h)) else (
  zg (zb ((132 / 2) + v1) 132) <|
    zg (zb v1 132) <|
    (some (zsI h 339 v1.toNatClampNeg (h.1 339 ((132 / 2) + v1).toNatClampNeg))).bind fun h2 =>
    some (.inl ((v1 + 1), h2)))
def f_Mod_takeHalf_65 (h : zH) : Option (zH) :=
  (zit zFU (fun s : Int32 × zH => f_Mod_takeHalf_65_b2 s.2 s.1) (0, h)).bind (fun y6 =>
  some y6)
def f_Mod_takeHalf_66_b2 (h : zH) (v1 : Int32) : Option ((Int32 × zH) ⊕ (zH)) :=
  if (44 / 2) ≤ v1 then (
  some (.inr h)) else (
  zg (zb ((44 / 2) + v1) 44) <|
    zg (zb v1 44) <|
    (some (zsI h 340 v1.toNatClampNeg (h.1 340 ((44 / 2) + v1).toNatClampNeg))).bind fun h2 =>
    some (.inl ((v1 + 1), h2)))
def f_Mod_takeHalf_66 (h : zH) : Option (zH) :=
  (zit zFU (fun s : Int32 × zH => f_Mod_takeHalf_66_b2 s.2 s.1) (0, h)).bind (fun y6 =>
  some y6)
def f_Mod_takeHalf_67_b2 (h : zH) (v1 : Int32) : Option ((Int32 × zH) ⊕ (zH)) :=
  if (12 / 2) ≤ v1 then (
  some (.inr h)) else (
  zg (zb ((12 / 2) + v1) 12) <|
    zg (zb v1 12) <|
    (some (zsI h 341 v1.toNatClampNeg (h.1 341 ((12 / 2) + v1).toNatClampNeg))).bind fun h2 =>
    some (.inl ((v1 + 1), h2)))
def f_Mod_takeHalf_67 (h : zH) : Option (zH) :=
  (zit zFU (fun s : Int32 × zH => f_Mod_takeHalf_67_b2 s.2 s.1) (0, h)).bind (fun y6 =>
  some y6)
def f_Mod_takeHalf_68_b2 (h : zH) (v1 : Int32) : Option ((Int32 × zH) ⊕ (zH)) :=
  if (12 / 2) ≤ v1 then (
  some (.inr h)) else (
  zg (zb ((12 / 2) + v1) 12) <|
    zg (zb v1 12) <|
    (some (zsI h 342 v1.toNatClampNeg (h.1 342 ((12 / 2) + v1).toNatClampNeg))).bind fun h2 =>
    some (.inl ((v1 + 1), h2)))
def f_Mod_takeHalf_68 (h : zH) : Option (zH) :=
  (zit zFU (fun s : Int32 × zH => f_Mod_takeHalf_68_b2 s.2 s.1) (0, h)).bind (fun y6 =>
  some y6)
def f_Mod_takeHalf_69_b2 (h : zH) (v1 : Int32) : Option ((Int32 × zH) ⊕ (zH)) :=
  if (6 / 2) ≤ v1 then (
  some (.inr h)) else (
  zg (zb ((6 / 2) + v1) 6) <|
    zg (zb v1 6) <|
    (some (zsI h 343 v1.toNatClampNeg (h.1 343 ((6 / 2) + v1).toNatClampNeg))).bind fun h2 =>
    some (.inl ((v1 + 1), h2)))
def f_Mod_takeHalf_69 (h : zH) : Option (zH) :=
  (zit zFU (fun s : Int32 × zH => f_Mod_takeHalf_69_b2 s.2 s.1) (0, h)).bind (fun y6 =>
  some y6)
def f_Mod_takeHalf_70_b2 (h : zH) (v1 : Int32) : Option ((Int32 × zH) ⊕ (zH)) :=
  if (36 / 2) ≤ v1 then (
  some (.inr h)) else (
  zg (zb ((36 / 2) + v1) 36) <|
    zg (zb v1 36) <|
    (some (zsI h 344 v1.toNatClampNeg (h.1 344 ((36 / 2) + v1).toNatClampNeg))).bind fun h2 =>
    some (.inl ((v1 + 1), h2)))
def f_Mod_takeHalf_70 (h : zH) : Option (zH) :=
  (zit zFU (fun s : Int32 × zH => f_Mod_takeHalf_70_b2 s.2 s.1) (0, h)).bind (fun y6 =>
  some y6)
def f_Mod_takeHalf_71_b2 (h : zH) (v1 : Int32) : Option ((Int32 × zH) ⊕ (zH)) :=
  if (44 / 2) ≤ v1 then (
  some (.inr h)) else (
  zg (zb ((44 / 2) + v1) 44) <|
    zg (zb v1 44) <|
    (some (zsI h 345 v1.toNatClampNeg (h.1 345 ((44 / 2) + v1).toNatClampNeg))).bind fun h2 =>
    some (.inl ((v1 + 1), h2)))
def f_Mod_takeHalf_71 (h : zH) : Option (zH) :=
  (zit zFU (fun s : Int32 × zH => f_Mod_takeHalf_71_b2 s.2 s.1) (0, h)).bind (fun y6 =>
  some y6)
def f_Mod_takeHalf_72_b2 (h : zH) (v1 : Int32) : Option ((Int32 × zH) ⊕ (zH)) :=
  if (264 / 2) ≤ v1 then (
  some (.inr h)) else (
  zg (zb ((264 / 2) + v1) 264) <|
    zg (zb v1 264) <|
    (some (zsI h 346 v1.toNatClampNeg (h.1 346 ((264 / 2) + v1).toNatClampNeg))).bind fun h2 =>
    some (.inl ((v1 + 1), h2)))
def f_Mod_takeHalf_72 (h : zH) : Option (zH) :=
  (zit zFU (fun s : Int32 × zH => f_Mod_takeHalf_72_b2 s.2 s.1) (0, h)).bind (fun y6 =>
  some y6)
def f_Mod_rows (h : zH) : Option (Int32) :=
  some (zshl 1 (h.1 336 0))
def f_Mod_putRow_b2 (h : zH) (v1 : Int32) (v2 : Int32) : Option ((Int32 × zH) ⊕ (zH)) :=
  if (h.1 336 0) ≤ v2 then (
  some (.inr h)) else (
  zg (zb v2 6) <|
    (some (zsI h 350 v2.toNatClampNeg ((zshr v1 v2) &&& 1))).bind fun h1 =>
    some (.inl ((v2 + 1), h1)))
def f_Mod_putRow (h : zH) (v1 : Int32) : Option (zH) :=
  (zit zFU (fun s : Int32 × zH => f_Mod_putRow_b2 s.2 v1 s.1) (0, h)).bind (fun y5 =>
  some y5)
def f_Mod_lines (h : zH) : Option (Int32) :=
  some ((h.1 336 0) + (h.1 336 1))
def f_Mod_joined_j70 (h : zH) (v1 : Int32) (v2 : Int32) (v3 : Int32) (v5 : Int32) (t0 : Int32) (t1 : Int32) : Option ((Int32 × Int32 × Int32) ⊕ (Int32 × Int32)) :=
  some (.inl (v3, (t1 + t0), (v5 + 1)))
def f_Mod_joined_j55 (h : zH) (v1 : Int32) (v2 : Int32) (v4 : Int32) (v5 : Int32) (v6 : Int32) (t0 : Int32) (t1 : Int32) : Option ((Int32 × Int32 × Int32) ⊕ (Int32 × Int32)) :=
  if ¬ v6 = 1 then (
  f_Mod_joined_j70 h v1 v2 (t1 + t0) v5 0 v4) else (
  f_Mod_joined_j70 h v1 v2 (t1 + t0) v5 1 v4)
def f_Mod_joined_b15 (h : zH) (v1 : Int32) (v2 : Int32) (v3 : Int32) (v4 : Int32) (v5 : Int32) : Option ((Int32 × Int32 × Int32) ⊕ (Int32 × Int32)) :=
  zg (zb v1 44) <|
  if (h.1 338 v1.toNatClampNeg) ≤ v5 then (
  some (.inr (v3, v4))) else (
  zg (zb ((3 * v1) + v5) 132) <|
    zg (zb (h.1 339 ((3 * v1) + v5).toNatClampNeg) 22) <|
    if ¬ (h.1 351 (h.1 339 ((3 * v1) + v5).toNatClampNeg).toNatClampNeg) = 0 then (
    f_Mod_joined_j55 h v1 v2 v4 v5 (h.1 351 (h.1 339 ((3 * v1) + v5).toNatClampNeg).toNatClampNeg) 0 v3) else (
    f_Mod_joined_j55 h v1 v2 v4 v5 (h.1 351 (h.1 339 ((3 * v1) + v5).toNatClampNeg).toNatClampNeg) 1 v3))
def f_Mod_joined_j205 (h : zH) (v6 : Int32) (t0 : Int32) : Option (Int32) :=
  if t0 = 0 then (
  some v6) else (
  if v6 = 2 then (
    some v6) else (
    some (1 - v6)))
def f_Mod_joined_j191 (h : zH) (v2 : Int32) (v6 : Int32) : Option (Int32) :=
  if v2 = 0 then (
  f_Mod_joined_j205 h v6 1) else (
  if v2 ≤ 3 then (
    f_Mod_joined_j205 h v6 0) else (
    f_Mod_joined_j205 h v6 1))
def f_Mod_joined_j165 (h : zH) (v2 : Int32) (t0 : Int32) : Option (Int32) :=
  f_Mod_joined_j191 h v2 t0
def f_Mod_joined_j147 (h : zH) (v2 : Int32) (v3 : Int32) (v5 : Int32) : Option (Int32) :=
  if v3 ≤ 0 then (
  if v5 ≤ 0 then (
    f_Mod_joined_j165 h v2 1) else (
    f_Mod_joined_j165 h v2 2)) else (
  f_Mod_joined_j165 h v2 0)
def f_Mod_joined_j189 (h : zH) (v2 : Int32) (t0 : Int32) : Option (Int32) :=
  f_Mod_joined_j191 h v2 t0
def f_Mod_joined_j132 (h : zH) (v2 : Int32) (t0 : Int32) : Option (Int32) :=
  f_Mod_joined_j191 h v2 t0
def f_Mod_joined (h : zH) (v1 : Int32) : Option (Int32) :=
  zg (zb v1 44) <|
  (zit zFU (fun s : Int32 × Int32 × Int32 => f_Mod_joined_b15 h v1 (h.1 337 v1.toNatClampNeg) s.1 s.2.1 s.2.2) (0, 0, 0)).bind (fun y9 =>
  zg (zb v1 44) <|
    if ¬ (h.1 337 v1.toNatClampNeg) = 0 then (
    if ¬ (h.1 337 v1.toNatClampNeg) = 3 then (
      if (h.1 337 v1.toNatClampNeg) = 1 then (
        f_Mod_joined_j147 h (h.1 337 v1.toNatClampNeg) y9.1 (((h.1 338 v1.toNatClampNeg) - y9.1) - y9.2)) else (
        if ¬ (h.1 337 v1.toNatClampNeg) = 4 then (
          if y9.2 ≤ 0 then (
            if (((h.1 338 v1.toNatClampNeg) - y9.1) - y9.2) ≤ 0 then (
              f_Mod_joined_j189 h (h.1 337 v1.toNatClampNeg) 0) else (
              f_Mod_joined_j189 h (h.1 337 v1.toNatClampNeg) 2)) else (
            f_Mod_joined_j189 h (h.1 337 v1.toNatClampNeg) 1)) else (
          f_Mod_joined_j147 h (h.1 337 v1.toNatClampNeg) y9.1 (((h.1 338 v1.toNatClampNeg) - y9.1) - y9.2)))) else (
      if (((h.1 338 v1.toNatClampNeg) - y9.1) - y9.2) ≤ 0 then (
        f_Mod_joined_j132 h (h.1 337 v1.toNatClampNeg) (zrem y9.2 2)) else (
        f_Mod_joined_j132 h (h.1 337 v1.toNatClampNeg) 2))) else (
    zg (zb (3 * v1) 132) <|
      zg (zb (h.1 339 (3 * v1).toNatClampNeg) 22) <|
      f_Mod_joined_j191 h (h.1 337 v1.toNatClampNeg) (h.1 351 (h.1 339 (3 * v1).toNatClampNeg).toNatClampNeg)))
def f_Mod_tellLines_j39 (h : zH) (v1 : Int32) (v2 : Int32) (t0 : Int32) (t1 : Int32) : Option ((Int32 × zH) ⊕ (zH)) :=
  zg (zb t1 22) <|
  (some (zsI h 351 t1.toNatClampNeg t0)).bind fun h3 =>
  if v1 = (-1) then (
  some (.inl ((v2 + 1), h3))) else (
  if ¬ v2 = (v1 / 2) then (
    some (.inl ((v2 + 1), h3))) else (
    zg (zb v2 22) <|
      (some (zsI h3 351 v2.toNatClampNeg (zrem v1 2))).bind fun h5 =>
      some (.inl ((v2 + 1), h5))))
def f_Mod_tellLines_b2 (h : zH) (v1 : Int32) (v2 : Int32) : Option ((Int32 × zH) ⊕ (zH)) :=
  (f_Mod_lines h).bind fun x1 =>
  if x1 ≤ v2 then (
  some (.inr h)) else (
  if (h.1 336 0) ≤ v2 then (
    (f_Mod_joined h v2).bind fun x2 =>
      f_Mod_tellLines_j39 h v1 v2 x2 v2) else (
    zg (zb v2 6) <|
      f_Mod_tellLines_j39 h v1 v2 (h.1 350 v2.toNatClampNeg) v2))
def f_Mod_tellLines (h : zH) (v1 : Int32) : Option (zH) :=
  (zit zFU (fun s : Int32 × zH => f_Mod_tellLines_b2 s.2 v1 s.1) (0, h)).bind (fun y13 =>
  some y13)
def f_Mod_tellPlain_b7 (h : zH) (v1 : Int32) : Option ((Int32 × zH) ⊕ (zH)) :=
  if 22 ≤ v1 then (
  some (.inr h)) else (
  zg (zb v1 22) <|
    zg (zb v1 22) <|
    (some (zsI h 352 v1.toNatClampNeg (h.1 351 v1.toNatClampNeg))).bind fun h3 =>
    some (.inl ((v1 + 1), h3)))
def f_Mod_tellPlain (h : zH) : Option (zH) :=
  (f_Mod_tellLines h (-1)).bind fun x1 =>
  (zit zFU (fun s : Int32 × zH => f_Mod_tellPlain_b7 s.2 s.1) (0, x1)).bind (fun y7 =>
  some y7)
def f_Mod_faults (h : zH) : Option (Int32) :=
  (f_Mod_lines h).bind fun x1 =>
  some (2 * x1)
def f_Mod_isSeen (h : zH) (v1 : Int32) : Option (Int32) :=
  zg (zb v1 44) <|
  if (h.1 340 v1.toNatClampNeg) ≤ 0 then (
  some 0) else (
  some 1)
def f_Mod_isCaught_j69 (h : zH) (v3 : Int32) (t0 : Int32) : Option ((Int32 × Int32) ⊕ (Int32)) :=
  some (.inl (t0, (v3 + 1)))
def f_Mod_isCaught_b9 (h : zH) (v2 : Int32) (v3 : Int32) : Option ((Int32 × Int32) ⊕ (Int32)) :=
  (f_Mod_lines h).bind fun x2 =>
  if x2 ≤ v3 then (
  some (.inr v2)) else (
  if ¬ v2 = 0 then (
    f_Mod_isCaught_j69 h v3 1) else (
    (f_Mod_isSeen h v3).bind fun x3 =>
      if x3 = 0 then (
      f_Mod_isCaught_j69 h v3 0) else (
      zg (zb v3 22) <|
        zg (zb v3 22) <|
        if (h.1 351 v3.toNatClampNeg) = (h.1 352 v3.toNatClampNeg) then (
        f_Mod_isCaught_j69 h v3 0) else (
        zg (zb v3 22) <|
          if 2 ≤ (h.1 351 v3.toNatClampNeg) then (
          f_Mod_isCaught_j69 h v3 0) else (
          zg (zb v3 22) <|
            if 2 ≤ (h.1 352 v3.toNatClampNeg) then (
            f_Mod_isCaught_j69 h v3 0) else (
            f_Mod_isCaught_j69 h v3 1))))))
def f_Mod_isCaught (h : zH) (v1 : Int32) : Option (Int32 × zH) :=
  (f_Mod_tellLines h v1).bind fun x1 =>
  (zit zFU (fun s : Int32 × Int32 => f_Mod_isCaught_b9 x1 s.1 s.2) (0, 0)).bind (fun y15 =>
  zg (zbo y15) (some (y15, x1)))
def f_Mod_layTests_b2 (h : zH) (v1 : Int32) : Option ((Int32 × zH) ⊕ (zH)) :=
  if 44 ≤ v1 then (
  some (.inr h)) else (
  zg (zb v1 44) <|
    (some (zsI h 354 v1.toNatClampNeg 0)).bind fun h1 =>
    zg (zb v1 44) <|
    (some (zsI h1 356 v1.toNatClampNeg (-1))).bind fun h3 =>
    zg (zb v1 44) <|
    (some (zsI h3 357 v1.toNatClampNeg 1)).bind fun h5 =>
    some (.inl ((v1 + 1), h5)))
def f_Mod_layTests_j98 (h : zH) (v1 : Int32) (v2 : Int32) (t0 : Int32) (t1 : Int32) (t2 : Int32) : Option ((Int32 × zH) ⊕ (zH)) :=
  zg (zb t2 44) <|
  (some (zsI h 354 t2.toNatClampNeg (t1 + t0))).bind fun h18 =>
  zg (zb (v2 / 2) 22) <|
  if (h18.1 352 (v2 / 2).toNatClampNeg) = (zrem v2 2) then (
  some (.inl ((v2 + 1), h18))) else (
  zg (zb v2 44) <|
    (some (zsI h18 357 v2.toNatClampNeg 2)).bind fun h21 =>
    some (.inl ((v2 + 1), h21)))
def f_Mod_layTests_b56 (h : zH) (v1 : Int32) (v2 : Int32) : Option ((Int32 × zH) ⊕ (zH)) :=
  (f_Mod_faults h).bind fun x13 =>
  if x13 ≤ v2 then (
  some (.inr h)) else (
  (f_Mod_isCaught h v2).bind fun x14 =>
    zg (zb ((64 * v2) + v1) 2816) <|
    (some (zsI x14.2 353 ((64 * v2) + v1).toNatClampNeg (x14.1 &&& 1))).bind fun h15 =>
    zg (zb v2 44) <|
    if x14.1 = 0 then (
    f_Mod_layTests_j98 h15 v1 v2 0 (h15.1 354 v2.toNatClampNeg) v2) else (
    f_Mod_layTests_j98 h15 v1 v2 1 (h15.1 354 v2.toNatClampNeg) v2))
def f_Mod_layTests_b37 (h : zH) (v1 : Int32) : Option ((Int32 × zH) ⊕ (zH)) :=
  (f_Mod_rows h).bind fun x10 =>
  if x10 ≤ v1 then (
  some (.inr h)) else (
  (f_Mod_putRow h v1).bind fun x11 =>
    (f_Mod_tellPlain x11).bind fun x12 =>
    (zit zFU (fun s : Int32 × zH => f_Mod_layTests_b56 s.2 v1 s.1) (0, x12)).bind (fun y27 =>
    some (.inl ((v1 + 1), y27))))
def f_Mod_layTests_j167 (h : zH) (v1 : Int32) (t0 : Int32) (t1 : Int32) : Option ((Int32 × zH) ⊕ (zH)) :=
  zg (zb t1 44) <|
  (some (zsI h 357 t1.toNatClampNeg t0)).bind fun h34 =>
  some (.inl ((v1 + 1), h34))
def f_Mod_layTests_b135 (h : zH) (v1 : Int32) : Option ((Int32 × zH) ⊕ (zH)) :=
  (f_Mod_faults h).bind fun x31 =>
  if x31 ≤ v1 then (
  some (.inr h)) else (
  zg (zb v1 44) <|
    if (h.1 354 v1.toNatClampNeg) ≤ 0 then (
    zg (zb v1 44) <|
      f_Mod_layTests_j167 h v1 (h.1 357 v1.toNatClampNeg) v1) else (
    f_Mod_layTests_j167 h v1 0 v1))
def f_Mod_layTests (h : zH) : Option (zH) :=
  (zit zFU (fun s : Int32 × zH => f_Mod_layTests_b2 s.2 s.1) (0, h)).bind (fun y9 =>
  (zit zFU (fun s : Int32 × zH => f_Mod_layTests_b37 s.2 s.1) (0, y9)).bind (fun y30 =>
    (zit zFU (fun s : Int32 × zH => f_Mod_layTests_b135 s.2 s.1) (0, y30)).bind (fun y39 =>
      some y39)))
def f_Mod_powerOf_b4 (v0 : Int32) (v1 : Int32) (v2 : Int32) (v3 : Int32) : Option ((Int32 × Int32) ⊕ (Int32)) :=
  if v1 ≤ v3 then (
  some (.inr v2)) else (
  some (.inl ((v2 * v0), (v3 + 1))))
def f_Mod_powerOf (v0 : Int32) (v1 : Int32) : Option (Int32) :=
  (zit zFU (fun s : Int32 × Int32 => f_Mod_powerOf_b4 v0 v1 s.1 s.2) (1, 0)).bind (fun y3 =>
  some y3)
def f_Mod_layCubes_j66 (h : zH) (v1 : Int32) (v2 : Int32) (v3 : Int32) (v5 : Int32) (t0 : Int32) (t1 : Int32) : Option ((Int32 × Int32 × Int32 × zH) ⊕ (Int32 × zH)) :=
  some (.inl ((v3 / 3), (t1 + t0), (v5 + (-1)), h))
def f_Mod_layCubes_b33 (h : zH) (v1 : Int32) (v2 : Int32) (v3 : Int32) (v4 : Int32) (v5 : Int32) : Option ((Int32 × Int32 × Int32 × zH) ⊕ (Int32 × zH)) :=
  if v5 < 0 then (
  some (.inr (v4, h))) else (
  zg (zb v5 6) <|
    (some (zsI h 350 v5.toNatClampNeg (zrem v3 3))).bind fun h2 =>
    zg (zb v5 6) <|
    if 2 ≤ (h2.1 350 v5.toNatClampNeg) then (
    f_Mod_layCubes_j66 h2 v1 v2 v3 v5 0 v4) else (
    f_Mod_layCubes_j66 h2 v1 v2 v3 v5 1 v4))
def f_Mod_layCubes_b152 (h : zH) (v1 : Int32) (v2 : Int32) (v4 : Int32) (v5 : Int32) (v6 : Int32) : Option ((Int32 × zH) ⊕ (zH)) :=
  if (h.1 336 0) ≤ v6 then (
  some (.inr h)) else (
  zg (zb v6 6) <|
    zg (zb ((6 * v5) + v6) 264) <|
    (some (zsI h 355 ((6 * v5) + v6).toNatClampNeg (h.1 350 v6.toNatClampNeg))).bind fun h17 =>
    some (.inl ((v6 + 1), h17)))
def f_Mod_layCubes_j128 (h : zH) (v1 : Int32) (v2 : Int32) (v4 : Int32) (v5 : Int32) : Option ((Int32 × zH) ⊕ (zH)) :=
  (f_Mod_isCaught h v5).bind fun x13 =>
  if ¬ x13.1 = 0 then (
  zg (zb v5 44) <|
    (some (zsI x13.2 356 v5.toNatClampNeg v4)).bind fun h14 =>
    (zit zFU (fun s : Int32 × zH => f_Mod_layCubes_b152 s.2 v1 v2 v4 v5 s.1) (0, h14)).bind (fun y21 =>
    some (.inl ((v5 + 1), y21)))) else (
  some (.inl ((v5 + 1), x13.2)))
def f_Mod_layCubes_b86 (h : zH) (v1 : Int32) (v2 : Int32) (v4 : Int32) (v5 : Int32) : Option ((Int32 × zH) ⊕ (zH)) :=
  (f_Mod_faults h).bind fun x10 =>
  if x10 ≤ v5 then (
  some (.inr h)) else (
  zg (zb v5 44) <|
    if 0 < (h.1 357 v5.toNatClampNeg) then (
    some (.inl ((v5 + 1), h))) else (
    zg (zb v5 44) <|
      if (h.1 356 v5.toNatClampNeg) = (-1) then (
      f_Mod_layCubes_j128 h v1 v2 v4 v5) else (
      zg (zb v5 44) <|
        if (h.1 356 v5.toNatClampNeg) ≤ v4 then (
        some (.inl ((v5 + 1), h))) else (
        f_Mod_layCubes_j128 h v1 v2 v4 v5))))
def f_Mod_layCubes_b13 (h : zH) (v1 : Int32) (v2 : Int32) : Option ((Int32 × zH) ⊕ (zH)) :=
  if v1 ≤ v2 then (
  some (.inr h)) else (
  (zit zFU (fun s : Int32 × Int32 × Int32 × zH => f_Mod_layCubes_b33 s.2.2.2 v1 v2 s.1 s.2.1 s.2.2.1) (v2, 0, ((h.1 336 0) - 1), h)).bind (fun y8 =>
    (f_Mod_tellPlain y8.2).bind fun x9 =>
      (zit zFU (fun s : Int32 × zH => f_Mod_layCubes_b86 s.2 v1 v2 y8.1 s.1) (0, x9)).bind (fun y29 =>
      some (.inl ((v2 + 1), y29)))))
def f_Mod_layCubes (h : zH) : Option (zH) :=
  (f_Mod_powerOf 3 (h.1 336 0)).bind fun x1 =>
  (zit zFU (fun s : Int32 × zH => f_Mod_layCubes_b13 s.2 x1 s.1) (0, h)).bind (fun y32 =>
  some y32)
def f_Mod_layDown (h : zH) : Option (zH) :=
  (f_Mod_layTests h).bind fun x1 =>
  (f_Mod_layCubes x1).bind fun x2 =>
  some x2
def f_Mod_takeOver_b79 (h : zH) (v1 : Int32) : Option ((Int32 × zH) ⊕ (zH)) :=
  if 57 ≤ v1 then (
  some (.inr h)) else (
  zg (zb v1 57) <|
    (some (zsI h 347 v1.toNatClampNeg 0)).bind fun h12 =>
    some (.inl ((v1 + 1), h12)))
def f_Mod_takeOver (h : zH) : Option (zH) :=
  (f_Mod_takeHalf_62 h).bind fun x1 =>
  (f_Mod_takeHalf_63 x1).bind fun x2 =>
  (f_Mod_takeHalf_64 x2).bind fun x3 =>
  (f_Mod_takeHalf_65 x3).bind fun x4 =>
  (f_Mod_takeHalf_66 x4).bind fun x5 =>
  (f_Mod_takeHalf_67 x5).bind fun x6 =>
  (f_Mod_takeHalf_68 x6).bind fun x7 =>
  (f_Mod_takeHalf_69 x7).bind fun x8 =>
  (f_Mod_takeHalf_70 x8).bind fun x9 =>
  (f_Mod_takeHalf_71 x9).bind fun x10 =>
  (f_Mod_takeHalf_72 x10).bind fun x11 =>
  (zit zFU (fun s : Int32 × zH => f_Mod_takeOver_b79 s.2 s.1) (0, x11)).bind (fun y16 =>
  (some (zsI y16 347 2 (-1))).bind fun h17 =>
    (some (zsI h17 347 3 (h17.1 336 3))).bind fun h18 =>
    (some (zsI h18 333 45 0)).bind fun h19 =>
    (some (zsI h19 333 47 0)).bind fun h20 =>
    (some (zsI h20 333 55 0)).bind fun h21 =>
    (f_Mod_layDown h21).bind fun x22 =>
    some x22)
def f_Mod_net_j17 (h : zH) : Option (Int32 × zH) :=
  (f_Mod_fail h 1).bind fun x2 =>
  some (x2.1, x2.2)
def f_Mod_net_b50 (h : zH) (v2 : Int32) : Option ((Int32 × zH) ⊕ (zH)) :=
  if 5 ≤ v2 then (
  some (.inr h)) else (
  zg (zb (5 + v2) 10) <|
    (some (zsI h 336 (5 + v2).toNatClampNeg 0)).bind fun h8 =>
    some (.inl ((v2 + 1), h8)))
def f_Mod_net_b74 (h : zH) : Option ((zH) ⊕ (zH)) :=
  if ¬ (h.1 333 24) = 0 then (
  some (.inr h)) else (
  if (h.1 333 20) = 0 then (
    some (.inr h)) else (
    (f_Mod_readClause h).bind fun x14 =>
      some (.inl x14)))
def f_Mod_net (h : zH) (v1 : Int32) : Option (Int32 × zH) :=
  (some (zsI h 333 2 0)).bind fun h1 =>
  if v1 < 0 then (
  f_Mod_net_j17 h1) else (
  if v1 ≤ (h1.1 333 17) then (
    (some (zsI h1 333 17 0)).bind fun h3 =>
      (some (zsI h3 333 19 v1)).bind fun h4 =>
      (some (zsI h4 333 18 0)).bind fun h5 =>
      (some (zsI h5 333 24 0)).bind fun h6 =>
      (some (zsI h6 333 26 (-1))).bind fun h7 =>
      (zit zFU (fun s : Int32 × zH => f_Mod_net_b50 s.2 s.1) (0, h7)).bind (fun y12 =>
      (f_Mod_stepOn y12).bind fun x13 =>
        (zit zFU (fun s : zH => f_Mod_net_b74 s) x13).bind (fun y18 =>
        if (y18.1 333 24) = 0 then (
          (f_Mod_takeOver y18).bind fun x19 =>
            some (0, x19)) else (
          (some (zsI y18 333 26 (y18.1 333 25))).bind fun h20 =>
            (some (zsI h20 348 0 ((h20.1 348 0) + 1))).bind fun h21 =>
            some ((h21.1 333 24), h21))))) else (
    f_Mod_net_j17 h1))
def f_Mod_fault (h : zH) : Option (Int32 × zH) :=
  (some (zsI h 333 2 0)).bind fun h1 =>
  some ((h1.1 333 26), h1)
def f_Mod_seenMany_j26 (h : zH) (v2 : Int32) (t0 : Int32) (t1 : Int32) : Option ((Int32 × Int32) ⊕ (Int32)) :=
  some (.inl ((t1 + t0), (v2 + 1)))
def f_Mod_seenMany_b4 (h : zH) (v1 : Int32) (v2 : Int32) : Option ((Int32 × Int32) ⊕ (Int32)) :=
  (f_Mod_lines h).bind fun x1 =>
  if x1 ≤ v2 then (
  some (.inr v1)) else (
  (f_Mod_isSeen h v2).bind fun x2 =>
    if x2 = 0 then (
    f_Mod_seenMany_j26 h v2 0 v1) else (
    f_Mod_seenMany_j26 h v2 1 v1))
def f_Mod_seenMany (h : zH) : Option (Int32) :=
  (zit zFU (fun s : Int32 × Int32 => f_Mod_seenMany_b4 h s.1 s.2) (0, 0)).bind (fun y6 =>
  some y6)
def f_Mod_lostMany_j27 (h : zH) (v2 : Int32) (t0 : Int32) (t1 : Int32) : Option ((Int32 × Int32) ⊕ (Int32)) :=
  some (.inl ((t1 + t0), (v2 + 1)))
def f_Mod_lostMany_b4 (h : zH) (v1 : Int32) (v2 : Int32) : Option ((Int32 × Int32) ⊕ (Int32)) :=
  (f_Mod_faults h).bind fun x1 =>
  if x1 ≤ v2 then (
  some (.inr v1)) else (
  zg (zb v2 44) <|
    if (h.1 357 v2.toNatClampNeg) ≤ 0 then (
    f_Mod_lostMany_j27 h v2 0 v1) else (
    f_Mod_lostMany_j27 h v2 1 v1))
def f_Mod_lostMany (h : zH) : Option (Int32) :=
  (zit zFU (fun s : Int32 × Int32 => f_Mod_lostMany_b4 h s.1 s.2) (0, 0)).bind (fun y6 =>
  some y6)
def f_Mod_isAlike_j50 (h : zH) (v1 : Int32) (v2 : Int32) (v4 : Int32) (t0 : Int32) : Option ((Int32 × Int32) ⊕ (Int32)) :=
  some (.inl (t0, (v4 + 1)))
def f_Mod_isAlike_b5 (h : zH) (v1 : Int32) (v2 : Int32) (v3 : Int32) (v4 : Int32) : Option ((Int32 × Int32) ⊕ (Int32)) :=
  (f_Mod_rows h).bind fun x1 =>
  if x1 ≤ v4 then (
  some (.inr v3)) else (
  if v3 = 0 then (
    f_Mod_isAlike_j50 h v1 v2 v4 0) else (
    zg (zb ((64 * v1) + v4) 2816) <|
      zg (zb ((64 * v2) + v4) 2816) <|
      if ¬ (h.1 353 ((64 * v1) + v4).toNatClampNeg) = (h.1 353 ((64 * v2) + v4).toNatClampNeg) then (
      f_Mod_isAlike_j50 h v1 v2 v4 0) else (
      f_Mod_isAlike_j50 h v1 v2 v4 1)))
def f_Mod_isAlike (h : zH) (v1 : Int32) (v2 : Int32) : Option (Int32) :=
  (zit zFU (fun s : Int32 × Int32 => f_Mod_isAlike_b5 h v1 v2 s.1 s.2) (1, 0)).bind (fun y8 =>
  zg (zbo y8) (some y8))
def f_Mod_leastAlike_b2 (h : zH) (v1 : Int32) (v2 : Int32) : Option ((Int32) ⊕ (Int32)) :=
  (f_Mod_isAlike h v1 v2).bind fun x1 =>
  if ¬ x1 = 0 then (
  some (.inr v2)) else (
  some (.inl (v2 + 1)))
def f_Mod_leastAlike (h : zH) (v1 : Int32) : Option (Int32) :=
  (zit zFU (fun s : Int32 => f_Mod_leastAlike_b2 h v1 s) 0).bind (fun y4 =>
  some y4)
def f_Mod_groupsAlike_j36 (h : zH) (v2 : Int32) (t0 : Int32) (t1 : Int32) : Option ((Int32 × Int32) ⊕ (Int32)) :=
  some (.inl ((t1 + t0), (v2 + 1)))
def f_Mod_groupsAlike_b4 (h : zH) (v1 : Int32) (v2 : Int32) : Option ((Int32 × Int32) ⊕ (Int32)) :=
  (f_Mod_faults h).bind fun x1 =>
  if x1 ≤ v2 then (
  some (.inr v1)) else (
  zg (zb v2 44) <|
    if ¬ (h.1 357 v2.toNatClampNeg) = 0 then (
    f_Mod_groupsAlike_j36 h v2 0 v1) else (
    (f_Mod_leastAlike h v2).bind fun x3 =>
      if ¬ x3 = v2 then (
      f_Mod_groupsAlike_j36 h v2 0 v1) else (
      f_Mod_groupsAlike_j36 h v2 1 v1)))
def f_Mod_groupsAlike (h : zH) : Option (Int32) :=
  (zit zFU (fun s : Int32 × Int32 => f_Mod_groupsAlike_b4 h s.1 s.2) (0, 0)).bind (fun y8 =>
  some y8)
def f_Mod_doneMany_b4 (h : zH) (v1 : Int32) (v2 : Int32) : Option ((Int32 × Int32) ⊕ (Int32)) :=
  (f_Mod_faults h).bind fun x1 =>
  if x1 ≤ v2 then (
  some (.inr v1)) else (
  zg (zb (13 + v2) 57) <|
    some (.inl ((v1 + (h.1 347 (13 + v2).toNatClampNeg)), (v2 + 1))))
def f_Mod_doneMany (h : zH) : Option (Int32) :=
  (zit zFU (fun s : Int32 × Int32 => f_Mod_doneMany_b4 h s.1 s.2) (0, 0)).bind (fun y5 =>
  some y5)
def f_Mod_firstOpen_b2 (h : zH) (v1 : Int32) : Option ((Int32) ⊕ ((Int32) ⊕ (Unit))) :=
  (f_Mod_faults h).bind fun x1 =>
  if x1 ≤ v1 then (
  some (.inr (.inr ()))) else (
  zg (zb v1 44) <|
    if (h.1 362 v1.toNatClampNeg) = 0 then (
    some (.inl (v1 + 1))) else (
    some (.inr (.inl v1))))
def f_Mod_firstOpen (h : zH) : Option (Int32) :=
  (zit zFU (fun s : Int32 => f_Mod_firstOpen_b2 h s) 0).bind (Sum.elim (fun y6 =>
  some y6) (fun y7 =>
  some (-1)))
def f_Mod_agrees_j68 (h : zH) (v1 : Int32) (v3 : Int32) (t0 : Int32) : Option ((Int32 × Int32) ⊕ (Int32)) :=
  some (.inl (t0, (v3 + 1)))
def f_Mod_agrees_b4 (h : zH) (v1 : Int32) (v2 : Int32) (v3 : Int32) : Option ((Int32 × Int32) ⊕ (Int32)) :=
  if (h.1 336 0) ≤ v3 then (
  some (.inr v2)) else (
  if v2 = 0 then (
    f_Mod_agrees_j68 h v1 v3 0) else (
    zg (zb v3 6) <|
      if (h.1 358 v3.toNatClampNeg) = 2 then (
      f_Mod_agrees_j68 h v1 v3 1) else (
      zg (zb ((6 * v1) + v3) 264) <|
        if (h.1 355 ((6 * v1) + v3).toNatClampNeg) = 2 then (
        f_Mod_agrees_j68 h v1 v3 1) else (
        zg (zb v3 6) <|
          zg (zb ((6 * v1) + v3) 264) <|
          if ¬ (h.1 358 v3.toNatClampNeg) = (h.1 355 ((6 * v1) + v3).toNatClampNeg) then (
          f_Mod_agrees_j68 h v1 v3 0) else (
          f_Mod_agrees_j68 h v1 v3 1)))))
def f_Mod_agrees (h : zH) (v1 : Int32) : Option (Int32) :=
  (zit zFU (fun s : Int32 × Int32 => f_Mod_agrees_b4 h v1 s.1 s.2) (1, 0)).bind (fun y11 =>
  zg (zbo y11) (some y11))
def f_Mod_merge_j47 (h : zH) (v1 : Int32) (v2 : Int32) (t0 : Int32) (t1 : Int32) : Option ((Int32 × zH) ⊕ (zH)) :=
  zg (zb t1 6) <|
  (some (zsI h 358 t1.toNatClampNeg t0)).bind fun h3 =>
  some (.inl ((v2 + 1), h3))
def f_Mod_merge_b2 (h : zH) (v1 : Int32) (v2 : Int32) : Option ((Int32 × zH) ⊕ (zH)) :=
  if (h.1 336 0) ≤ v2 then (
  some (.inr h)) else (
  zg (zb v2 6) <|
    if ¬ (h.1 358 v2.toNatClampNeg) = 2 then (
    zg (zb v2 6) <|
      f_Mod_merge_j47 h v1 v2 (h.1 358 v2.toNatClampNeg) v2) else (
    zg (zb ((6 * v1) + v2) 264) <|
      f_Mod_merge_j47 h v1 v2 (h.1 355 ((6 * v1) + v2).toNatClampNeg) v2))
def f_Mod_merge (h : zH) (v1 : Int32) : Option (zH) :=
  (zit zFU (fun s : Int32 × zH => f_Mod_merge_b2 s.2 v1 s.1) (0, h)).bind (fun y9 =>
  some y9)
def f_Mod_cellAt (h : zH) (v1 : Int32) (v2 : Int32) : Option (Int32) :=
  zg (zb ((6 * v1) + v2) 36) <|
  some (h.1 344 ((6 * v1) + v2).toNatClampNeg)
def f_Mod_filled_j73 (h : zH) (v1 : Int32) (v2 : Int32) (v4 : Int32) (t0 : Int32) : Option ((Int32 × Int32) ⊕ (Int32)) :=
  some (.inl (t0, (v4 + (-1))))
def f_Mod_filled_b36 (h : zH) (v1 : Int32) (v2 : Int32) (v3 : Int32) (v4 : Int32) : Option ((Int32 × Int32) ⊕ (Int32)) :=
  if v4 < 0 then (
  some (.inr v3)) else (
  (f_Mod_cellAt h v2 v4).bind fun x2 =>
    zg (zb x2 6) <|
    if ¬ (h.1 358 x2.toNatClampNeg) = 2 then (
    (f_Mod_cellAt h v2 v4).bind fun x4 =>
      zg (zb x4 6) <|
      f_Mod_filled_j73 h v1 v2 v4 (h.1 358 x4.toNatClampNeg)) else (
    f_Mod_filled_j73 h v1 v2 v4 v3))
def f_Mod_filled_j131 (h : zH) (v1 : Int32) (v2 : Int32) (v4 : Int32) (v5 : Int32) (t0 : Int32) (t1 : Int32) : Option ((Int32 × Int32 × zH) ⊕ (zH)) :=
  zg (zb t1 6) <|
  (some (zsI h 358 t1.toNatClampNeg t0)).bind fun h14 =>
  zg (zb v5 6) <|
  some (.inl ((h14.1 358 v5.toNatClampNeg), (v4 + 1), h14))
def f_Mod_filled_b83 (h : zH) (v1 : Int32) (v2 : Int32) (v3 : Int32) (v4 : Int32) : Option ((Int32 × Int32 × zH) ⊕ (zH)) :=
  zg (zb v2 6) <|
  if (h.1 343 v2.toNatClampNeg) ≤ v4 then (
  some (.inr h)) else (
  (f_Mod_cellAt h v2 v4).bind fun x11 =>
    zg (zb x11 6) <|
    if ¬ (h.1 358 x11.toNatClampNeg) = 2 then (
    zg (zb x11 6) <|
      f_Mod_filled_j131 h v1 v2 v4 x11 (h.1 358 x11.toNatClampNeg) x11) else (
    f_Mod_filled_j131 h v1 v2 v4 x11 v3 x11))
def f_Mod_filled_b9 (h : zH) (v1 : Int32) (v2 : Int32) : Option ((Int32 × zH) ⊕ (zH)) :=
  if (h.1 336 2) ≤ v2 then (
  some (.inr h)) else (
  if ¬ v1 = 2 then (
    some (.inr h)) else (
    zg (zb v2 6) <|
      (zit zFU (fun s : Int32 × Int32 => f_Mod_filled_b36 h v1 v2 s.1 s.2) (0, ((h.1 343 v2.toNatClampNeg) - 1))).bind (fun y9 =>
      (zit zFU (fun s : Int32 × Int32 × zH => f_Mod_filled_b83 s.2.2 v1 v2 s.1 s.2.1) (y9, 0, h)).bind (fun y20 =>
        some (.inl ((v2 + 1), y20))))))
def f_Mod_filled_j189 (h : zH) (v1 : Int32) (v3 : Int32) (t0 : Int32) (t1 : Int32) : Option ((Int32 × Int32) ⊕ (Int32)) :=
  some (.inl ((t1 ||| (zshl t0 v3)), (v3 + 1)))
def f_Mod_filled_b156 (h : zH) (v1 : Int32) (v2 : Int32) (v3 : Int32) : Option ((Int32 × Int32) ⊕ (Int32)) :=
  if (h.1 336 0) ≤ v3 then (
  some (.inr v2)) else (
  zg (zb v3 6) <|
    if ¬ (h.1 358 v3.toNatClampNeg) = 2 then (
    zg (zb v3 6) <|
      f_Mod_filled_j189 h v1 v3 (h.1 358 v3.toNatClampNeg) v2) else (
    f_Mod_filled_j189 h v1 v3 (zrem v1 2) v2))
def f_Mod_filled (h : zH) : Option (Int32 × zH) :=
  (zit zFU (fun s : Int32 × zH => f_Mod_filled_b9 s.2 (h.1 347 3) s.1) (0, h)).bind (fun y24 =>
  (zit zFU (fun s : Int32 × Int32 => f_Mod_filled_b156 y24 (h.1 347 3) s.1 s.2) (0, 0)).bind (fun y30 =>
    some (y30, y24)))
def f_Mod_tellProgram_j46 (h : zH) (v1 : Int32) (t0 : Int32) (t1 : Int32) : Option ((Int32 × zH) ⊕ (zH)) :=
  zg (zb t1 44) <|
  (some (zsI h 362 t1.toNatClampNeg (t0 &&& 1))).bind fun h4 =>
  some (.inl ((v1 + 1), h4))
def f_Mod_tellProgram_b7 (h : zH) (v1 : Int32) : Option ((Int32 × zH) ⊕ (zH)) :=
  (f_Mod_faults h).bind fun x2 =>
  if x2 ≤ v1 then (
  some (.inr h)) else (
  zg (zb v1 44) <|
    if ¬ (h.1 357 v1.toNatClampNeg) = 0 then (
    f_Mod_tellProgram_j46 h v1 0 v1) else (
    zg (zb (13 + v1) 57) <|
      if ¬ (h.1 347 (13 + v1).toNatClampNeg) = 0 then (
      f_Mod_tellProgram_j46 h v1 0 v1) else (
      f_Mod_tellProgram_j46 h v1 1 v1)))
def f_Mod_tellProgram_b65 (h : zH) (v1 : Int32) (v2 : Int32) : Option ((Int32 × zH) ⊕ (zH)) :=
  if (h.1 336 0) ≤ v2 then (
  some (.inr h)) else (
  zg (zb v2 6) <|
    (some (zsI h 358 v2.toNatClampNeg 2)).bind fun h13 =>
    some (.inl ((v2 + 1), h13)))
def f_Mod_tellProgram_b92 (h : zH) (v2 : Int32) (v3 : Int32) : Option ((Int32 × Int32 × zH) ⊕ (Int32 × zH)) :=
  (f_Mod_faults h).bind fun x18 =>
  if x18 ≤ v3 then (
  some (.inr (v2, h))) else (
  zg (zb v3 44) <|
    if (h.1 362 v3.toNatClampNeg) = 0 then (
    some (.inl (v2, (v3 + 1), h))) else (
    (f_Mod_agrees h v3).bind fun x20 =>
      if ¬ x20 = 0 then (
      (f_Mod_merge h v3).bind fun x21 =>
        some (.inl ((v2 + 1), (v3 + 1), x21))) else (
      some (.inl (v2, (v3 + 1), h)))))
def f_Mod_tellProgram_b145 (h : zH) (v2 : Int32) (v3 : Int32) (v4 : Int32) (v5 : Int32) : Option ((Int32 × Int32 × zH) ⊕ (Int32 × zH)) :=
  (f_Mod_faults h).bind fun x28 =>
  if x28 ≤ v5 then (
  some (.inr (v4, h))) else (
  zg (zb v5 44) <|
    if (h.1 362 v5.toNatClampNeg) = 0 then (
    some (.inl (v4, (v5 + 1), h))) else (
    zg (zb ((64 * v5) + v3) 2816) <|
      if ¬ (h.1 353 ((64 * v5) + v3).toNatClampNeg) = 0 then (
      zg (zb v5 44) <|
        (some (zsI h 362 v5.toNatClampNeg (0 &&& 1))).bind fun h31 =>
        some (.inl ((v4 + 1), (v5 + 1), h31))) else (
      some (.inl (v4, (v5 + 1), h)))))
def f_Mod_tellProgram_b58 (h : zH) (v1 : Int32) : Option ((Int32 × zH) ⊕ (zH)) :=
  if v1 = (-1) then (
  some (.inr h)) else (
  (zit zFU (fun s : Int32 × zH => f_Mod_tellProgram_b65 s.2 v1 s.1) (0, h)).bind (fun y17 =>
    (zit zFU (fun s : Int32 × Int32 × zH => f_Mod_tellProgram_b92 s.2.2 s.1 s.2.1) (0, v1, y17)).bind (fun y26 =>
      (f_Mod_filled y26.2).bind fun x27 =>
        (zit zFU (fun s : Int32 × Int32 × zH => f_Mod_tellProgram_b145 s.2.2 y26.1 x27.1 s.1 s.2.1) (0, 0, x27.2)).bind (fun y37 =>
        zg (zb (y37.2.1 333 40) 44) <|
          (some (zsI y37.2 359 (y37.2.1 333 40).toNatClampNeg x27.1)).bind fun h38 =>
          zg (zb (h38.1 333 40) 44) <|
          (some (zsI h38 360 (h38.1 333 40).toNatClampNeg y37.1)).bind fun h40 =>
          zg (zb (h40.1 333 40) 44) <|
          (some (zsI h40 361 (h40.1 333 40).toNatClampNeg y26.1)).bind fun h42 =>
          (some (zsI h42 333 40 ((h42.1 333 40) + 1))).bind fun h44 =>
          (f_Mod_firstOpen h44).bind fun x45 =>
          some (.inl (x45, h44))))))
def f_Mod_tellProgram (h : zH) : Option (zH) :=
  (some (zsI h 333 40 0)).bind fun h1 =>
  (zit zFU (fun s : Int32 × zH => f_Mod_tellProgram_b7 s.2 s.1) (0, h1)).bind (fun y11 =>
  (f_Mod_firstOpen y11).bind fun x12 =>
    (zit zFU (fun s : Int32 × zH => f_Mod_tellProgram_b58 s.2 s.1) (x12, y11)).bind (fun y48 =>
    some y48))
def f_Mod_count_j100 (h : zH) (v1 : Int32) : Option (Int32 × zH) :=
  zg (zb v1 10) <|
  some ((h.1 336 v1.toNatClampNeg), h)
def f_Mod_count_j198 (h : zH) (v1 : Int32) : Option (Int32 × zH) :=
  zg (zb (v1 - 17) 3) <|
  some ((h.1 348 (v1 - 17).toNatClampNeg), h)
def f_Mod_count (h : zH) (v1 : Int32) : Option (Int32 × zH) :=
  (some (zsI h 333 2 0)).bind fun h1 =>
  if v1 = 0 then (
  f_Mod_count_j100 h1 v1) else (
  if v1 = 1 then (
    f_Mod_count_j100 h1 v1) else (
    if v1 = 2 then (
      (f_Mod_seenMany h1).bind fun x5 =>
        some (x5, h1)) else (
      if v1 = 3 then (
        some ((h1.1 336 2), h1)) else (
        if v1 = 4 then (
          some ((h1.1 347 3), h1)) else (
          if v1 = 5 then (
            (f_Mod_faults h1).bind fun x9 =>
              some (x9, h1)) else (
            if v1 = 6 then (
              (f_Mod_lostMany h1).bind fun x11 =>
                some (x11, h1)) else (
              if v1 = 7 then (
                (f_Mod_groupsAlike h1).bind fun x13 =>
                  some (x13, h1)) else (
                if v1 = 8 then (
                  (f_Mod_doneMany h1).bind fun x15 =>
                    some (x15, h1)) else (
                  if v1 = 9 then (
                    some ((h1.1 347 0), h1)) else (
                    if v1 = 10 then (
                      some ((h1.1 347 1), h1)) else (
                      if v1 = 11 then (
                        some ((h1.1 347 2), h1)) else (
                        if v1 = 12 then (
                          some ((h1.1 347 4), h1)) else (
                          if v1 = 13 then (
                            (f_Mod_tellProgram h1).bind fun x21 =>
                              some ((x21.1 333 40), x21)) else (
                            if v1 = 14 then (
                              some ((h1.1 333 45), h1)) else (
                              if v1 = 15 then (
                                some ((h1.1 333 47), h1)) else (
                                if v1 = 16 then (
                                  some ((h1.1 333 17), h1)) else (
                                  if v1 = 17 then (
                                    f_Mod_count_j198 h1 v1) else (
                                    if v1 = 18 then (
                                      f_Mod_count_j198 h1 v1) else (
                                      if v1 = 19 then (
                                        f_Mod_count_j198 h1 v1) else (
                                        (f_Mod_fail h1 1).bind fun x30 =>
                                          some (x30.1, x30.2)))))))))))))))))))))
def f_Mod_isIn (v0 : Int32) (v1 : Int32) (v2 : Int32) : Option (Int32) :=
  if v0 < v1 then (
  some 0) else (
  if v2 < v0 then (
    some 0) else (
    some 1))
def f_Mod_isLine (h : zH) (v1 : Int32) : Option (Int32) :=
  (f_Mod_lines h).bind fun x1 =>
  (f_Mod_isIn v1 0 (x1 - 1)).bind fun x2 =>
  zg (zbo x2) (some x2)
def f_Mod_inMachine (h : zH) (v1 : Int32) : Option (Int32 × zH) :=
  (f_Mod_putRow h (h.1 347 0)).bind fun x1 =>
  (f_Mod_tellLines x1 (x1.1 347 2)).bind fun x2 =>
  zg (zb v1 22) <|
  some ((x2.1 351 v1.toNatClampNeg), x2)
def f_Mod_line_j106 (h : zH) (v1 : Int32) (v2 : Int32) : Option (Int32 × zH) :=
  zg (zb v1 44) <|
  if (h.1 338 v1.toNatClampNeg) ≤ (v2 - 2) then (
  some ((-1), h)) else (
  zg (zb (((3 * v1) + v2) - 2) 132) <|
    some ((h.1 339 (((3 * v1) + v2) - 2).toNatClampNeg), h))
def f_Mod_line_j34 (h : zH) (v1 : Int32) (v2 : Int32) (t0 : Int32) : Option (Int32 × zH) :=
  if v2 = 0 then (
  zg (zb v1 44) <|
    some ((h.1 337 v1.toNatClampNeg), h)) else (
  if v2 = 1 then (
    zg (zb v1 44) <|
      some ((h.1 338 v1.toNatClampNeg), h)) else (
    if v2 = 2 then (
      f_Mod_line_j106 h v1 v2) else (
      if v2 = 3 then (
        f_Mod_line_j106 h v1 v2) else (
        if v2 = 4 then (
          f_Mod_line_j106 h v1 v2) else (
          if v2 = 5 then (
            (f_Mod_isSeen h v1).bind fun x13 =>
              if x13 = 0 then (
              some (0, h)) else (
              some (1, h))) else (
            if v2 = 6 then (
              (f_Mod_inMachine h v1).bind fun x16 =>
                some (x16.1, x16.2)) else (
              if v2 = 7 then (
                if t0 = 0 then (
                  some ((-1), h)) else (
                  zg (zb v1 12) <|
                    some ((h.1 341 v1.toNatClampNeg), h))) else (
                if v2 = 8 then (
                  if t0 = 0 then (
                    some ((-1), h)) else (
                    zg (zb v1 12) <|
                      some ((h.1 342 v1.toNatClampNeg), h))) else (
                  if v2 = 9 then (
                    zg (zb v1 44) <|
                      some ((h.1 345 v1.toNatClampNeg), h)) else (
                    (f_Mod_fail h 1).bind fun x26 =>
                      some (x26.1, x26.2)))))))))))
def f_Mod_line (h : zH) (v1 : Int32) (v2 : Int32) : Option (Int32 × zH) :=
  (some (zsI h 333 2 0)).bind fun h1 =>
  (f_Mod_isLine h1 v1).bind fun x2 =>
  if ¬ x2 = 0 then (
  if (h1.1 336 0) ≤ v1 then (
    f_Mod_line_j34 h1 v1 v2 0) else (
    f_Mod_line_j34 h1 v1 v2 1)) else (
  (f_Mod_fail h1 1).bind fun x28 =>
    some (x28.1, x28.2))
def f_Mod_letter_j43 (h : zH) : Option (Int32 × zH) :=
  (f_Mod_fail h 1).bind fun x3 =>
  some (x3.1, x3.2)
def f_Mod_letter (h : zH) (v1 : Int32) (v2 : Int32) : Option (Int32 × zH) :=
  (some (zsI h 333 2 0)).bind fun h1 =>
  (f_Mod_isLine h1 v1).bind fun x2 =>
  if x2 = 0 then (
  f_Mod_letter_j43 h1) else (
  zg (zb v1 44) <|
    (f_Mod_isIn v2 0 ((h1.1 345 v1.toNatClampNeg) - 1)).bind fun x5 =>
    if x5 = 0 then (
    f_Mod_letter_j43 h1) else (
    zg (zb ((6 * v1) + v2) 264) <|
      some ((h1.1 346 ((6 * v1) + v2).toNatClampNeg), h1)))
def f_Mod_chain_j37 (h : zH) : Option (Int32 × zH) :=
  (f_Mod_fail h 1).bind fun x3 =>
  some (x3.1, x3.2)
def f_Mod_chain (h : zH) (v1 : Int32) (v2 : Int32) : Option (Int32 × zH) :=
  (some (zsI h 333 2 0)).bind fun h1 =>
  (f_Mod_isIn v1 0 ((h1.1 336 2) - 1)).bind fun x2 =>
  if x2 = 0 then (
  f_Mod_chain_j37 h1) else (
  zg (zb v1 6) <|
    (f_Mod_isIn v2 (-1) ((h1.1 343 v1.toNatClampNeg) - 1)).bind fun x5 =>
    if ¬ x5 = 0 then (
    if ¬ v2 = (-1) then (
      (f_Mod_cellAt h1 v1 v2).bind fun x6 =>
        some (x6, h1)) else (
      zg (zb v1 6) <|
        some ((h1.1 343 v1.toNatClampNeg), h1))) else (
    f_Mod_chain_j37 h1))
def f_Mod_isFault (h : zH) (v1 : Int32) : Option (Int32) :=
  (f_Mod_faults h).bind fun x1 =>
  (f_Mod_isIn v1 0 (x1 - 1)).bind fun x2 =>
  zg (zbo x2) (some x2)
def f_Mod_isUnder_j81 (h : zH) (v1 : Int32) (v2 : Int32) (v4 : Int32) (t0 : Int32) : Option ((Int32 × Int32) ⊕ (Int32)) :=
  some (.inl (t0, (v4 + 1)))
def f_Mod_isUnder_b33 (h : zH) (v1 : Int32) (v2 : Int32) (v3 : Int32) (v4 : Int32) : Option ((Int32 × Int32) ⊕ (Int32)) :=
  (f_Mod_rows h).bind fun x2 =>
  if x2 ≤ v4 then (
  some (.inr v3)) else (
  if v3 = 0 then (
    f_Mod_isUnder_j81 h v1 v2 v4 0) else (
    zg (zb ((64 * v1) + v4) 2816) <|
      if (h.1 353 ((64 * v1) + v4).toNatClampNeg) = 0 then (
      f_Mod_isUnder_j81 h v1 v2 v4 1) else (
      zg (zb ((64 * v2) + v4) 2816) <|
        if (h.1 353 ((64 * v2) + v4).toNatClampNeg) = 0 then (
        f_Mod_isUnder_j81 h v1 v2 v4 0) else (
        f_Mod_isUnder_j81 h v1 v2 v4 1))))
def f_Mod_isUnder_j29 (h : zH) (v1 : Int32) (v2 : Int32) (t0 : Int32) : Option (Int32) :=
  (zit zFU (fun s : Int32 × Int32 => f_Mod_isUnder_b33 h v1 v2 s.1 s.2) (t0, 0)).bind (fun y10 =>
  zg (zbo y10) (some y10))
def f_Mod_isUnder (h : zH) (v1 : Int32) (v2 : Int32) : Option (Int32) :=
  zg (zb v1 44) <|
  if ¬ (h.1 357 v1.toNatClampNeg) = 0 then (
  f_Mod_isUnder_j29 h v1 v2 0) else (
  zg (zb v2 44) <|
    zg (zb v1 44) <|
    if (h.1 354 v2.toNatClampNeg) ≤ (h.1 354 v1.toNatClampNeg) then (
    f_Mod_isUnder_j29 h v1 v2 0) else (
    f_Mod_isUnder_j29 h v1 v2 1))
def f_Mod_undersOf_j27 (h : zH) (v1 : Int32) (v3 : Int32) (t0 : Int32) (t1 : Int32) : Option ((Int32 × Int32) ⊕ (Int32)) :=
  some (.inl ((t1 + t0), (v3 + 1)))
def f_Mod_undersOf_b4 (h : zH) (v1 : Int32) (v2 : Int32) (v3 : Int32) : Option ((Int32 × Int32) ⊕ (Int32)) :=
  (f_Mod_faults h).bind fun x1 =>
  if x1 ≤ v3 then (
  some (.inr v2)) else (
  (f_Mod_isUnder h v1 v3).bind fun x2 =>
    if x2 = 0 then (
    f_Mod_undersOf_j27 h v1 v3 0 v2) else (
    f_Mod_undersOf_j27 h v1 v3 1 v2))
def f_Mod_undersOf (h : zH) (v1 : Int32) : Option (Int32) :=
  (zit zFU (fun s : Int32 × Int32 => f_Mod_undersOf_b4 h v1 s.1 s.2) (0, 0)).bind (fun y6 =>
  some y6)
def f_Mod_test (h : zH) (v1 : Int32) (v2 : Int32) : Option (Int32 × zH) :=
  (some (zsI h 333 2 0)).bind fun h1 =>
  (f_Mod_isFault h1 v1).bind fun x2 =>
  if ¬ x2 = 0 then (
  if v2 = 0 then (
    zg (zb v1 44) <|
      some ((h1.1 354 v1.toNatClampNeg), h1)) else (
    if v2 = 1 then (
      zg (zb v1 44) <|
        some ((h1.1 357 v1.toNatClampNeg), h1)) else (
      if v2 = 2 then (
        (f_Mod_leastAlike h1 v1).bind fun x7 =>
          some (x7, h1)) else (
        if v2 = 3 then (
          (f_Mod_undersOf h1 v1).bind fun x9 =>
            some (x9, h1)) else (
          if v2 = 4 then (
            zg (zb (13 + v1) 57) <|
              some ((h1.1 347 (13 + v1).toNatClampNeg), h1)) else (
            if v2 = 5 then (
              zg (zb v1 44) <|
                some ((h1.1 356 v1.toNatClampNeg), h1)) else (
              (f_Mod_fail h1 1).bind fun x15 =>
                some (x15.1, x15.2)))))))) else (
  (f_Mod_fail h1 1).bind fun x16 =>
    some (x16.1, x16.2))
def f_Mod_row_j29 (h : zH) : Option (Int32 × zH) :=
  (f_Mod_fail h 1).bind fun x3 =>
  some (x3.1, x3.2)
def f_Mod_row_j80 (h : zH) (v1 : Int32) (v4 : Int32) (t0 : Int32) (t1 : Int32) : Option ((Int32 × Int32) ⊕ (Int32)) :=
  some (.inl ((t1 - t0), (v4 + 1)))
def f_Mod_row_j59 (h : zH) (v1 : Int32) (v3 : Int32) (v4 : Int32) : Option ((Int32 × Int32) ⊕ (Int32)) :=
  zg (zb ((64 * v1) + v4) 2816) <|
  if (h.1 353 ((64 * v1) + v4).toNatClampNeg) = 0 then (
  f_Mod_row_j80 h v1 v4 0 v3) else (
  f_Mod_row_j80 h v1 v4 1 v3)
def f_Mod_row_b40 (h : zH) (v1 : Int32) (v3 : Int32) (v4 : Int32) : Option ((Int32 × Int32) ⊕ (Int32)) :=
  zg (zb ((64 * v1) + v4) 2816) <|
  if (h.1 353 ((64 * v1) + v4).toNatClampNeg) = 0 then (
  f_Mod_row_j59 h v1 v3 v4) else (
  if v3 ≤ 0 then (
    some (.inr v4)) else (
    f_Mod_row_j59 h v1 v3 v4))
def f_Mod_row (h : zH) (v1 : Int32) (v2 : Int32) : Option (Int32 × zH) :=
  (some (zsI h 333 2 0)).bind fun h1 =>
  (f_Mod_isFault h1 v1).bind fun x2 =>
  if x2 = 0 then (
  f_Mod_row_j29 h1) else (
  zg (zb v1 44) <|
    (f_Mod_isIn v2 0 ((h1.1 354 v1.toNatClampNeg) - 1)).bind fun x5 =>
    if ¬ x5 = 0 then (
    (zit zFU (fun s : Int32 × Int32 => f_Mod_row_b40 h1 v1 s.1 s.2) (v2, 0)).bind (fun y12 =>
      some (y12, h1))) else (
    f_Mod_row_j29 h1))
def f_Mod_cube_j52 (h : zH) : Option (Int32 × zH) :=
  (f_Mod_fail h 1).bind fun x3 =>
  some (x3.1, x3.2)
def f_Mod_cube (h : zH) (v1 : Int32) (v2 : Int32) : Option (Int32 × zH) :=
  (some (zsI h 333 2 0)).bind fun h1 =>
  (f_Mod_isFault h1 v1).bind fun x2 =>
  if x2 = 0 then (
  f_Mod_cube_j52 h1) else (
  zg (zb v1 44) <|
    if ¬ (h1.1 357 v1.toNatClampNeg) = 0 then (
    f_Mod_cube_j52 h1) else (
    (f_Mod_isIn v2 0 ((h1.1 336 0) - 1)).bind fun x5 =>
      if x5 = 0 then (
      f_Mod_cube_j52 h1) else (
      zg (zb ((6 * v1) + v2) 264) <|
        some ((h1.1 355 ((6 * v1) + v2).toNatClampNeg), h1))))
def f_Mod_by_j26 (h : zH) : Option (Int32 × zH) :=
  (f_Mod_fail h 1).bind fun x3 =>
  some (x3.1, x3.2)
def f_Mod_by_b64 (h : zH) (v2 : Int32) (v3 : Int32) (v4 : Int32) (v5 : Int32) : Option ((Int32 × Int32 × zH) ⊕ (zH)) :=
  if (h.1 336 0) ≤ v5 then (
  some (.inr h)) else (
  zg (zb v5 6) <|
    (some (zsI h 350 v5.toNatClampNeg (zrem v4 3))).bind fun h6 =>
    some (.inl ((v4 / 3), (v5 + 1), h6)))
def f_Mod_by_j32 (h : zH) (v1 : Int32) (v2 : Int32) (v3 : Int32) : Option (Int32 × zH) :=
  (f_Mod_powerOf 3 (h.1 336 0)).bind fun x4 =>
  (f_Mod_isIn v1 0 (x4 - 1)).bind fun x5 =>
  if ¬ x5 = 0 then (
  (zit zFU (fun s : Int32 × Int32 × zH => f_Mod_by_b64 s.2.2 v2 v3 s.1 s.2.1) (v1, 0, h)).bind (fun y10 =>
    (f_Mod_tellLines y10 v2).bind fun x11 =>
      zg (zb v3 22) <|
      some ((x11.1 351 v3.toNatClampNeg), x11))) else (
  (f_Mod_fail h 2).bind fun x13 =>
    some (x13.1, x13.2))
def f_Mod_by (h : zH) (v1 : Int32) (v2 : Int32) (v3 : Int32) : Option (Int32 × zH) :=
  (some (zsI h 333 2 0)).bind fun h1 =>
  (f_Mod_isLine h1 v3).bind fun x2 =>
  if x2 = 0 then (
  f_Mod_by_j26 h1) else (
  if v2 = (-1) then (
    f_Mod_by_j32 h1 v1 v2 v3) else (
    (f_Mod_isFault h1 v2).bind fun x15 =>
      if ¬ x15 = 0 then (
      f_Mod_by_j32 h1 v1 v2 v3) else (
      f_Mod_by_j26 h1)))
def f_Mod_costOf_j62 (h : zH) (v1 : Int32) (v3 : Int32) (v4 : Int32) (t0 : Int32) (t1 : Int32) : Option ((Int32 × Int32) ⊕ (Int32)) :=
  some (.inl ((t1 + t0), (v4 + 1)))
def f_Mod_costOf_b17 (h : zH) (v1 : Int32) (v2 : Int32) (v3 : Int32) (v4 : Int32) : Option ((Int32 × Int32) ⊕ (Int32)) :=
  zg (zb v3 6) <|
  if (h.1 343 v3.toNatClampNeg) ≤ v4 then (
  some (.inr v2)) else (
  (f_Mod_cellAt h v3 (v4 - 1)).bind fun x2 =>
    (f_Mod_cellAt h v3 v4).bind fun x3 =>
    if ((zshr v1 x2) &&& 1) = ((zshr v1 x3) &&& 1) then (
    f_Mod_costOf_j62 h v1 v3 v4 0 v2) else (
    f_Mod_costOf_j62 h v1 v3 v4 v4 v2))
def f_Mod_costOf_b4 (h : zH) (v1 : Int32) (v2 : Int32) (v3 : Int32) : Option ((Int32 × Int32) ⊕ (Int32)) :=
  if (h.1 336 2) ≤ v3 then (
  some (.inr v2)) else (
  (zit zFU (fun s : Int32 × Int32 => f_Mod_costOf_b17 h v1 s.1 v3 s.2) (v2, 1)).bind (fun y7 =>
    some (.inl (y7, (v3 + 1)))))
def f_Mod_costOf (h : zH) (v1 : Int32) : Option (Int32) :=
  (zit zFU (fun s : Int32 × Int32 => f_Mod_costOf_b4 h v1 s.1 s.2) (0, 0)).bind (fun y10 =>
  some y10)
def f_Mod_program_j32 (h : zH) : Option (Int32 × zH) :=
  (f_Mod_fail h 1).bind fun x4 =>
  some (x4.1, x4.2)
def f_Mod_program (h : zH) (v1 : Int32) (v2 : Int32) : Option (Int32 × zH) :=
  (some (zsI h 333 2 0)).bind fun h1 =>
  (f_Mod_tellProgram h1).bind fun x2 =>
  (f_Mod_isIn v1 0 ((x2.1 333 40) - 1)).bind fun x3 =>
  if x3 = 0 then (
  f_Mod_program_j32 x2) else (
  (f_Mod_isIn v2 0 3).bind fun x5 =>
    if ¬ x5 = 0 then (
    if ¬ v2 = 0 then (
      if ¬ v2 = 1 then (
        if ¬ v2 = 2 then (
          zg (zb v1 44) <|
            some ((x2.1 361 v1.toNatClampNeg), x2)) else (
          zg (zb v1 44) <|
            (f_Mod_costOf x2 (x2.1 359 v1.toNatClampNeg)).bind fun x8 =>
            some (x8, x2))) else (
        zg (zb v1 44) <|
          some ((x2.1 360 v1.toNatClampNeg), x2))) else (
      zg (zb v1 44) <|
        some ((x2.1 359 v1.toNatClampNeg), x2))) else (
    f_Mod_program_j32 x2))
def f_Mod_tellApart_j78 (h : zH) (v1 : Int32) (v2 : Int32) (v3 : Int32) (t0 : Int32) (t1 : Int32) (t2 : Int32) : Option ((Int32 × zH) ⊕ (zH)) :=
  zg (zb t2 36) <|
  (some (zsI h 363 t2.toNatClampNeg (t1 + t0))).bind fun h6 =>
  some (.inl ((v3 + 1), h6))
def f_Mod_tellApart_b30 (h : zH) (v1 : Int32) (v2 : Int32) (v3 : Int32) : Option ((Int32 × zH) ⊕ (zH)) :=
  if (h.1 333 40) ≤ v3 then (
  some (.inr h)) else (
  zg (zb ((6 * v1) + v2) 36) <|
    zg (zb v3 44) <|
    zg (zb v3 44) <|
    if ((zshr (h.1 359 v3.toNatClampNeg) v1) &&& 1) = ((zshr (h.1 359 v3.toNatClampNeg) v2) &&& 1) then (
    f_Mod_tellApart_j78 h v1 v2 v3 0 (h.1 363 ((6 * v1) + v2).toNatClampNeg) ((6 * v1) + v2)) else (
    f_Mod_tellApart_j78 h v1 v2 v3 1 (h.1 363 ((6 * v1) + v2).toNatClampNeg) ((6 * v1) + v2)))
def f_Mod_tellApart_b10 (h : zH) (v1 : Int32) (v2 : Int32) : Option ((Int32 × zH) ⊕ (zH)) :=
  if 6 ≤ v2 then (
  some (.inr h)) else (
  zg (zb ((6 * v1) + v2) 36) <|
    (some (zsI h 363 ((6 * v1) + v2).toNatClampNeg 0)).bind fun h1 =>
    (zit zFU (fun s : Int32 × zH => f_Mod_tellApart_b30 s.2 v1 v2 s.1) (0, h1)).bind (fun y11 =>
    some (.inl ((v2 + 1), y11))))
def f_Mod_tellApart_b2 (h : zH) (v1 : Int32) : Option ((Int32 × zH) ⊕ (zH)) :=
  if 6 ≤ v1 then (
  some (.inr h)) else (
  (zit zFU (fun s : Int32 × zH => f_Mod_tellApart_b10 s.2 v1 s.1) (0, h)).bind (fun y14 =>
    some (.inl ((v1 + 1), y14))))
def f_Mod_tellApart (h : zH) : Option (zH) :=
  (zit zFU (fun s : Int32 × zH => f_Mod_tellApart_b2 s.2 s.1) (0, h)).bind (fun y17 =>
  some y17)
def f_Mod_orderCost_b4 (h : zH) (v1 : Int32) (v2 : Int32) (v3 : Int32) : Option ((Int32 × Int32) ⊕ (Int32)) :=
  if v1 ≤ v3 then (
  some (.inr v2)) else (
  zg (zb (v3 - 1) 6) <|
    zg (zb v3 6) <|
    zg (zb ((6 * (h.1 364 (v3 - 1).toNatClampNeg)) + (h.1 364 v3.toNatClampNeg)) 36) <|
    some (.inl ((v2 + (v3 * (h.1 363 ((6 * (h.1 364 (v3 - 1).toNatClampNeg)) + (h.1 364 v3.toNatClampNeg)).toNatClampNeg))), (v3 + 1))))
def f_Mod_orderCost (h : zH) (v1 : Int32) : Option (Int32) :=
  (zit zFU (fun s : Int32 × Int32 => f_Mod_orderCost_b4 h v1 s.1 s.2) (0, 1)).bind (fun y6 =>
  some y6)
def f_Mod_goOn_b4 (h : zH) (v1 : Int32) (v2 : Int32) : Option ((Int32) ⊕ (Int32)) :=
  if v2 < 0 then (
  some (.inr v2)) else (
  zg (zb v2 6) <|
    zg (zb (v2 + 1) 6) <|
    if (h.1 364 v2.toNatClampNeg) ≤ (h.1 364 (v2 + 1).toNatClampNeg) then (
    some (.inr v2)) else (
    some (.inl (v2 + (-1)))))
def f_Mod_goOn_b41 (h : zH) (v1 : Int32) (v2 : Int32) (v3 : Int32) : Option ((Int32) ⊕ (Int32)) :=
  zg (zb v3 6) <|
  zg (zb v2 6) <|
  if (h.1 364 v2.toNatClampNeg) ≤ (h.1 364 v3.toNatClampNeg) then (
  some (.inr v3)) else (
  some (.inl (v3 + (-1))))
def f_Mod_goOn_b100 (h : zH) (v5 : Int32) (v6 : Int32) : Option ((Int32 × Int32 × zH) ⊕ (zH)) :=
  if v6 ≤ v5 then (
  some (.inr h)) else (
  zg (zb v5 6) <|
    zg (zb v6 6) <|
    zg (zb v5 6) <|
    (some (zsI h 364 v5.toNatClampNeg (h.1 364 v6.toNatClampNeg))).bind fun h20 =>
    zg (zb v6 6) <|
    (some (zsI h20 364 v6.toNatClampNeg (h.1 364 v5.toNatClampNeg))).bind fun h22 =>
    some (.inl ((v5 + 1), (v6 + (-1)), h22)))
def f_Mod_goOn (h : zH) (v1 : Int32) : Option (Int32 × zH) :=
  (zit zFU (fun s : Int32 => f_Mod_goOn_b4 h v1 s) (v1 - 2)).bind (fun y6 =>
  if 0 ≤ y6 then (
    (zit zFU (fun s : Int32 => f_Mod_goOn_b41 h v1 y6 s) (v1 - 1)).bind (fun y11 =>
      zg (zb y6 6) <|
        zg (zb y11 6) <|
        zg (zb y6 6) <|
        (some (zsI h 364 y6.toNatClampNeg (h.1 364 y11.toNatClampNeg))).bind fun h14 =>
        zg (zb y11 6) <|
        (some (zsI h14 364 y11.toNatClampNeg (h.1 364 y6.toNatClampNeg))).bind fun h16 =>
        (zit zFU (fun s : Int32 × Int32 × zH => f_Mod_goOn_b100 s.2.2 s.1 s.2.1) ((y6 + 1), (v1 - 1), h16)).bind (fun y26 =>
        some (1, y26)))) else (
    some (0, h)))
def f_Mod_order_j37 (h : zH) : Option (Int32 × zH) :=
  (f_Mod_fail h 1).bind fun x3 =>
  some (x3.1, x3.2)
def f_Mod_order_b48 (h : zH) (v1 : Int32) (v2 : Int32) (v3 : Int32) (v4 : Int32) : Option ((Int32 × Int32 × zH) ⊕ (Int32 × zH)) :=
  if (h.1 336 0) ≤ v4 then (
  some (.inr (v3, h))) else (
  zg (zb v4 12) <|
    if (h.1 341 v4.toNatClampNeg) = v1 then (
    zg (zb v3 6) <|
      (some (zsI h 364 v3.toNatClampNeg v4)).bind fun h7 =>
      some (.inl ((v3 + 1), (v4 + 1), h7))) else (
    some (.inl (v3, (v4 + 1), h))))
def f_Mod_order_b136 (h : zH) (v2 : Int32) (v3 : Int32) (v4 : Int32) (v7 : Int32) : Option ((Int32 × zH) ⊕ (zH)) :=
  if v3 ≤ v7 then (
  some (.inr h)) else (
  zg (zb v7 6) <|
    zg (zb v7 6) <|
    (some (zsI h 365 v7.toNatClampNeg (h.1 364 v7.toNatClampNeg))).bind fun h17 =>
    some (.inl ((v7 + 1), h17)))
def f_Mod_order_j162 (h : zH) (v2 : Int32) (v3 : Int32) (v4 : Int32) : Option ((Int32 × Int32 × zH) ⊕ (Int32 × zH)) :=
  (f_Mod_goOn h v3).bind fun x22 =>
  some (.inl (v4, x22.1, x22.2))
def f_Mod_order_j129 (h : zH) (v2 : Int32) (v3 : Int32) (v6 : Int32) : Option ((Int32 × Int32 × zH) ⊕ (Int32 × zH)) :=
  (zit zFU (fun s : Int32 × zH => f_Mod_order_b136 s.2 v2 v3 v6 s.1) (0, h)).bind (fun y21 =>
  f_Mod_order_j162 y21 v2 v3 v6)
def f_Mod_order_b104 (h : zH) (v2 : Int32) (v3 : Int32) (v4 : Int32) (v5 : Int32) : Option ((Int32 × Int32 × zH) ⊕ (Int32 × zH)) :=
  if v5 = 0 then (
  some (.inr (v4, h))) else (
  (f_Mod_orderCost h v3).bind fun x15 =>
    if v4 = (-1) then (
    f_Mod_order_j129 h v2 v3 x15) else (
    if v4 ≤ x15 then (
      f_Mod_order_j162 h v2 v3 v4) else (
      f_Mod_order_j129 h v2 v3 x15)))
def f_Mod_order (h : zH) (v1 : Int32) (v2 : Int32) : Option (Int32 × zH) :=
  (some (zsI h 333 2 0)).bind fun h1 =>
  (f_Mod_isIn v1 0 ((h1.1 336 2) - 1)).bind fun x2 =>
  if x2 = 0 then (
  f_Mod_order_j37 h1) else (
  zg (zb v1 6) <|
    (f_Mod_isIn v2 (-1) ((h1.1 343 v1.toNatClampNeg) - 1)).bind fun x5 =>
    if ¬ x5 = 0 then (
    (zit zFU (fun s : Int32 × Int32 × zH => f_Mod_order_b48 s.2.2 v1 v2 s.1 s.2.1) (0, 0, h1)).bind (fun y12 =>
      (f_Mod_tellProgram y12.2).bind fun x13 =>
        (f_Mod_tellApart x13).bind fun x14 =>
        (zit zFU (fun s : Int32 × Int32 × zH => f_Mod_order_b104 s.2.2 v2 y12.1 s.1 s.2.1) ((-1), 1, x14)).bind (fun y27 =>
        if ¬ v2 = (-1) then (
          zg (zb v2 6) <|
            some ((y27.2.1 365 v2.toNatClampNeg), y27.2)) else (
          some (y27.1, y27.2))))) else (
    f_Mod_order_j37 h1))
def f_Mod_refuse (h : zH) (v1 : Int32) : Option (Int32 × zH) :=
  zg (zb v1 3) <|
  zg (zb v1 3) <|
  (some (zsI h 348 v1.toNatClampNeg ((h.1 348 v1.toNatClampNeg) + 1))).bind fun h2 =>
  some ((-1), h2)
def f_Mod_keep_b54 (h : zH) (v1 : Int32) : Option ((Int32 × zH) ⊕ (zH)) :=
  if 57 ≤ v1 then (
  some (.inr h)) else (
  zg (zb v1 57) <|
    zg (zb ((57 * (h.1 333 45)) + v1) 2280) <|
    (some (zsI h 367 ((57 * (h.1 333 45)) + v1).toNatClampNeg (h.1 347 v1.toNatClampNeg))).bind fun h2 =>
    some (.inl ((v1 + 1), h2)))
def f_Mod_keep_j52 (h : zH) : Option (zH) :=
  (zit zFU (fun s : Int32 × zH => f_Mod_keep_b54 s.2 s.1) (0, h)).bind (fun y6 =>
  (some (zsI y6 333 45 ((y6.1 333 45) + 1))).bind fun h7 =>
    some h7)
def f_Mod_keep_b12 (h : zH) (v1 : Int32) : Option ((Int32 × zH) ⊕ (zH)) :=
  if 2280 ≤ v1 then (
  some (.inr h)) else (
  zg (zb v1 2280) <|
    zg (zb (v1 - 57) 2280) <|
    (some (zsI h 367 (v1 - 57).toNatClampNeg (h.1 367 v1.toNatClampNeg))).bind fun h9 =>
    some (.inl ((v1 + 1), h9)))
def f_Mod_keep (h : zH) : Option (zH) :=
  if ¬ (h.1 333 45) = 40 then (
  f_Mod_keep_j52 h) else (
  (zit zFU (fun s : Int32 × zH => f_Mod_keep_b12 s.2 s.1) (57, h)).bind (fun y13 =>
    (some (zsI y13 333 45 ((y13.1 333 45) - 1))).bind fun h14 =>
      f_Mod_keep_j52 h14))
def f_Mod_bitOf (h : zH) (v1 : Int32) : Option (Int32) :=
  some ((zshr (h.1 347 0) v1) &&& 1)
def f_Mod_putBit (h : zH) (v1 : Int32) (v2 : Int32) : Option (zH) :=
  (some (zsI h 347 0 (((h.1 347 0) &&& ((zshl 1 v1) ^^^ (-1))) ||| (zshl v2 v1)))).bind fun h1 =>
  some h1
def f_Mod_put_j40 (h : zH) : Option (Int32 × zH) :=
  (f_Mod_refuse h 1).bind fun x3 =>
  some (x3.1, x3.2)
def f_Mod_put (h : zH) (v1 : Int32) (v2 : Int32) : Option (Int32 × zH) :=
  (some (zsI h 333 2 0)).bind fun h1 =>
  (f_Mod_isIn v1 0 ((h1.1 336 0) - 1)).bind fun x2 =>
  if x2 = 0 then (
  f_Mod_put_j40 h1) else (
  zg (zb v1 12) <|
    if ¬ (h1.1 341 v1.toNatClampNeg) = (-1) then (
    f_Mod_put_j40 h1) else (
    (f_Mod_isIn v2 0 1).bind fun x5 =>
      if ¬ x5 = 0 then (
      (f_Mod_keep h1).bind fun x6 =>
        (f_Mod_bitOf x6 v1).bind fun x7 =>
        (f_Mod_putBit x6 v1 v2).bind fun x8 =>
        some (x7, x8)) else (
      f_Mod_put_j40 h1)))
def f_Mod_shiftNow_b46 (h : zH) (v1 : Int32) (v2 : Int32) (v3 : Int32) (v4 : Int32) : Option ((Int32 × zH) ⊕ (zH)) :=
  if v4 ≤ 0 then (
  some (.inr h)) else (
  (f_Mod_cellAt h v3 v4).bind fun x5 =>
    (f_Mod_cellAt h v3 (v4 - 1)).bind fun x6 =>
    (f_Mod_bitOf h x6).bind fun x7 =>
    (f_Mod_putBit h x5 x7).bind fun x8 =>
    some (.inl ((v4 + (-1)), x8)))
def f_Mod_shiftNow_b4 (h : zH) (v1 : Int32) (v2 : Int32) (v3 : Int32) : Option ((Int32 × Int32 × zH) ⊕ (Int32 × zH)) :=
  if (h.1 336 2) ≤ v3 then (
  some (.inr (v2, h))) else (
  zg (zb v3 6) <|
    (f_Mod_cellAt h v3 ((h.1 343 v3.toNatClampNeg) - 1)).bind fun x2 =>
    (f_Mod_bitOf h x2).bind fun x3 =>
    zg (zb v3 6) <|
    (zit zFU (fun s : Int32 × zH => f_Mod_shiftNow_b46 s.2 v1 (v2 ||| (zshl x3 v3)) v3 s.1) (((h.1 343 v3.toNatClampNeg) - 1), h)).bind (fun y11 =>
    (f_Mod_cellAt y11 v3 0).bind fun x12 =>
      (f_Mod_putBit y11 x12 ((zshr v1 v3) &&& 1)).bind fun x13 =>
      some (.inl ((v2 ||| (zshl x3 v3)), (v3 + 1), x13))))
def f_Mod_shiftNow (h : zH) (v1 : Int32) : Option (Int32 × zH) :=
  (zit zFU (fun s : Int32 × Int32 × zH => f_Mod_shiftNow_b4 s.2.2 v1 s.1 s.2.1) (0, 0, h)).bind (fun y16 =>
  (some (zsI y16.2 347 1 ((y16.2.1 347 1) + 1))).bind fun h17 =>
    some (y16.1, h17))
def f_Mod_shift_j24 (h : zH) : Option (Int32 × zH) :=
  (f_Mod_refuse h 1).bind fun x2 =>
  some (x2.1, x2.2)
def f_Mod_shift (h : zH) (v1 : Int32) : Option (Int32 × zH) :=
  (some (zsI h 333 2 0)).bind fun h1 =>
  if (h1.1 336 2) = 0 then (
  f_Mod_shift_j24 h1) else (
  (f_Mod_isIn v1 0 7).bind fun x3 =>
    if ¬ x3 = 0 then (
    (f_Mod_keep h1).bind fun x4 =>
      (f_Mod_shiftNow x4 v1).bind fun x5 =>
      some (x5.1, x5.2)) else (
    f_Mod_shift_j24 h1))
def f_Mod_taken_b15 (h : zH) (v3 : Int32) (v4 : Int32) : Option ((Int32 × Int32) ⊕ (Int32)) :=
  if (h.1 336 0) ≤ v4 then (
  some (.inr v3)) else (
  zg (zb v4 12) <|
    if (h.1 342 v4.toNatClampNeg) = (-1) then (
    some (.inl (v3, (v4 + 1)))) else (
    zg (zb v4 12) <|
      zg (zb (h.1 342 v4.toNatClampNeg) 22) <|
      some (.inl (((v3 &&& ((zshl 1 v4) ^^^ (-1))) ||| (zshl (h.1 351 (h.1 342 v4.toNatClampNeg).toNatClampNeg) v4)), (v4 + 1)))))
def f_Mod_taken (h : zH) (v1 : Int32) (v2 : Int32) : Option (Int32 × zH) :=
  (f_Mod_putRow h v1).bind fun x1 =>
  (f_Mod_tellLines x1 v2).bind fun x2 =>
  (zit zFU (fun s : Int32 × Int32 => f_Mod_taken_b15 x2 s.1 s.2) (v1, 0)).bind (fun y9 =>
  some (y9, x2))
def f_Mod_takeNow (h : zH) : Option (zH) :=
  (f_Mod_taken h (h.1 347 0) (h.1 347 2)).bind fun x1 =>
  (some (zsI x1.2 347 0 x1.1)).bind fun h2 =>
  (some (zsI h2 347 1 ((h2.1 347 1) + 1))).bind fun h3 =>
  some h3
def f_Mod_take (h : zH) : Option (Int32 × zH) :=
  (some (zsI h 333 2 0)).bind fun h1 =>
  (f_Mod_keep h1).bind fun x2 =>
  (f_Mod_takeNow x2).bind fun x3 =>
  some ((x3.1 347 0), x3)
def f_Mod_longest_b4 (h : zH) (v1 : Int32) (v2 : Int32) : Option ((Int32 × Int32) ⊕ (Int32)) :=
  if (h.1 336 2) ≤ v2 then (
  some (.inr v1)) else (
  zg (zb v2 6) <|
    (f_Math_max v1 (h.1 343 v2.toNatClampNeg)).bind fun x2 =>
    some (.inl (x2, (v2 + 1))))
def f_Mod_longest (h : zH) : Option (Int32) :=
  (zit zFU (fun s : Int32 × Int32 => f_Mod_longest_b4 h s.1 s.2) (0, 0)).bind (fun y5 =>
  some y5)
def f_Mod_load (h : zH) (v1 : Int32) : Option (Int32 × zH) :=
  (some (zsI h 333 2 0)).bind fun h1 =>
  (f_Mod_rows h1).bind fun x2 =>
  (f_Mod_isIn v1 0 (x2 - 1)).bind fun x3 =>
  if ¬ x3 = 0 then (
  (f_Mod_keep h1).bind fun x4 =>
    (some (zsI x4 347 0 v1)).bind fun h5 =>
    (f_Mod_longest h5).bind fun x6 =>
    (some (zsI h5 347 1 ((h5.1 347 1) + x6))).bind fun h7 =>
    (f_Mod_longest h7).bind fun x8 =>
    some (x8, h7)) else (
  (f_Mod_refuse h1 1).bind fun x9 =>
    some (x9.1, x9.2))
def f_Mod_applyNow_b4 (h : zH) (v1 : Int32) (v2 : Int32) : Option ((Int32 × Int32 × zH) ⊕ (Int32 × zH)) :=
  (f_Mod_faults h).bind fun x1 =>
  if x1 ≤ v2 then (
  some (.inr (v1, h))) else (
  zg (zb (13 + v2) 57) <|
    if (h.1 347 (13 + v2).toNatClampNeg) = 1 then (
    some (.inl (v1, (v2 + 1), h))) else (
    zg (zb ((64 * v2) + (h.1 347 0)) 2816) <|
      if ¬ (h.1 353 ((64 * v2) + (h.1 347 0)).toNatClampNeg) = 0 then (
      zg (zb (13 + v2) 57) <|
        (some (zsI h 347 (13 + v2).toNatClampNeg 1)).bind fun h4 =>
        some (.inl ((v1 + 1), (v2 + 1), h4))) else (
      some (.inl (v1, (v2 + 1), h)))))
def f_Mod_applyNow (h : zH) : Option (Int32 × zH) :=
  (zit zFU (fun s : Int32 × Int32 × zH => f_Mod_applyNow_b4 s.2.2 s.1 s.2.1) (0, 0, h)).bind (fun y10 =>
  some (y10.1, y10.2))
def f_Mod_apply (h : zH) : Option (Int32 × zH) :=
  (some (zsI h 333 2 0)).bind fun h1 =>
  (f_Mod_keep h1).bind fun x2 =>
  (f_Mod_applyNow x2).bind fun x3 =>
  some (x3.1, x3.2)
def f_Mod_defect_j24 (h : zH) (v1 : Int32) : Option (Int32 × zH) :=
  (f_Mod_keep h).bind fun x2 =>
  (some (zsI x2 347 2 v1)).bind fun h3 =>
  some ((x2.1 347 2), h3)
def f_Mod_defect (h : zH) (v1 : Int32) : Option (Int32 × zH) :=
  (some (zsI h 333 2 0)).bind fun h1 =>
  if v1 = (-1) then (
  f_Mod_defect_j24 h1 v1) else (
  (f_Mod_isFault h1 v1).bind fun x4 =>
    if ¬ x4 = 0 then (
    f_Mod_defect_j24 h1 v1) else (
    (f_Mod_fail h1 1).bind fun x5 =>
      some (x5.1, x5.2)))
def f_Mod_fill (h : zH) (v1 : Int32) : Option (Int32 × zH) :=
  (some (zsI h 333 2 0)).bind fun h1 =>
  (f_Mod_isIn v1 0 2).bind fun x2 =>
  if ¬ x2 = 0 then (
  (f_Mod_keep h1).bind fun x3 =>
    (some (zsI x3 347 3 v1)).bind fun h4 =>
    some ((x3.1 347 3), h4)) else (
  (f_Mod_refuse h1 1).bind fun x5 =>
    some (x5.1, x5.2))
def f_Mod_isPicked_j35 (h : zH) (v1 : Int32) (v3 : Int32) (t0 : Int32) : Option ((Int32 × Int32) ⊕ (Int32)) :=
  some (.inl (t0, (v3 + 1)))
def f_Mod_isPicked_b4 (h : zH) (v1 : Int32) (v2 : Int32) (v3 : Int32) : Option ((Int32 × Int32) ⊕ (Int32)) :=
  if (h.1 347 4) ≤ v3 then (
  some (.inr v2)) else (
  if ¬ v2 = 0 then (
    f_Mod_isPicked_j35 h v1 v3 1) else (
    zg (zb (5 + v3) 57) <|
      if ¬ (h.1 347 (5 + v3).toNatClampNeg) = v1 then (
      f_Mod_isPicked_j35 h v1 v3 0) else (
      f_Mod_isPicked_j35 h v1 v3 1)))
def f_Mod_isPicked (h : zH) (v1 : Int32) : Option (Int32) :=
  (zit zFU (fun s : Int32 × Int32 => f_Mod_isPicked_b4 h v1 s.1 s.2) (0, 0)).bind (fun y6 =>
  zg (zbo y6) (some y6))
def f_Mod_pick_j97 (h : zH) (t0 : Int32) (t1 : Int32) : Option (Int32 × zH) :=
  zg (zb t1 57) <|
  (some (zsI h 347 t1.toNatClampNeg t0)).bind fun h3 =>
  some ((h3.1 347 4), h3)
def f_Mod_pick_j75 (h : zH) (v1 : Int32) : Option (Int32 × zH) :=
  if ¬ v1 = (-1) then (
  f_Mod_pick_j97 h ((h.1 347 4) + 1) 4) else (
  f_Mod_pick_j97 h 0 4)
def f_Mod_pick_j52 (h : zH) (v1 : Int32) : Option (Int32 × zH) :=
  (f_Mod_keep h).bind fun x2 =>
  if v1 = (-1) then (
  f_Mod_pick_j75 x2 v1) else (
  zg (zb (5 + (x2.1 347 4)) 57) <|
    (some (zsI x2 347 (5 + (x2.1 347 4)).toNatClampNeg v1)).bind fun h6 =>
    f_Mod_pick_j75 h6 v1)
def f_Mod_pick_j46 (h : zH) : Option (Int32 × zH) :=
  (f_Mod_refuse h 1).bind fun x10 =>
  some (x10.1, x10.2)
def f_Mod_pick (h : zH) (v1 : Int32) : Option (Int32 × zH) :=
  (some (zsI h 333 2 0)).bind fun h1 =>
  if v1 = (-1) then (
  f_Mod_pick_j52 h1 v1) else (
  (f_Mod_isFault h1 v1).bind fun x9 =>
    if x9 = 0 then (
    f_Mod_pick_j46 h1) else (
    zg (zb v1 44) <|
      if 0 < (h1.1 357 v1.toNatClampNeg) then (
      f_Mod_pick_j46 h1) else (
      (f_Mod_isPicked h1 v1).bind fun x12 =>
        if ¬ x12 = 0 then (
        f_Mod_pick_j46 h1) else (
        if ¬ (h1.1 347 4) = 8 then (
          f_Mod_pick_j52 h1 v1) else (
          f_Mod_pick_j46 h1)))))
def f_Mod_undo_b26 (h : zH) (v1 : Int32) : Option ((Int32 × zH) ⊕ (zH)) :=
  if 57 ≤ v1 then (
  some (.inr h)) else (
  zg (zb ((57 * (h.1 333 45)) + v1) 2280) <|
    zg (zb v1 57) <|
    (some (zsI h 347 v1.toNatClampNeg (h.1 367 ((57 * (h.1 333 45)) + v1).toNatClampNeg))).bind fun h4 =>
    some (.inl ((v1 + 1), h4)))
def f_Mod_undo (h : zH) : Option (Int32 × zH) :=
  (some (zsI h 333 2 0)).bind fun h1 =>
  if ¬ (h1.1 333 45) = 0 then (
  (some (zsI h1 333 45 ((h1.1 333 45) - 1))).bind fun h2 =>
    (zit zFU (fun s : Int32 × zH => f_Mod_undo_b26 s.2 s.1) (0, h2)).bind (fun y8 =>
    some ((y8.1 333 45), y8))) else (
  some ((-1), h1))
def f_Mod_note_j53 (h : zH) : Option (Int32 × zH) :=
  (f_Mod_refuse h 2).bind fun x2 =>
  some (x2.1, x2.2)
def f_Mod_note (h : zH) (v1 : Int32) (v2 : Int32) (v3 : Int32) : Option (Int32 × zH) :=
  (some (zsI h 333 2 0)).bind fun h1 =>
  if (h1.1 333 47) = 10 then (
  f_Mod_note_j53 h1) else (
  (f_Mod_rows h1).bind fun x3 =>
    (f_Mod_isIn v1 0 (x3 - 1)).bind fun x4 =>
    if x4 = 0 then (
    f_Mod_note_j53 h1) else (
    (f_Mod_isLine h1 v2).bind fun x5 =>
      if x5 = 0 then (
      f_Mod_note_j53 h1) else (
      (f_Mod_isSeen h1 v2).bind fun x6 =>
        if x6 = 0 then (
        f_Mod_note_j53 h1) else (
        (f_Mod_isIn v3 0 1).bind fun x7 =>
          if ¬ x7 = 0 then (
          zg (zb (h1.1 333 47) 10) <|
            (some (zsI h1 368 (h1.1 333 47).toNatClampNeg v1)).bind fun h8 =>
            zg (zb (h8.1 333 47) 10) <|
            (some (zsI h8 369 (h8.1 333 47).toNatClampNeg v2)).bind fun h10 =>
            zg (zb (h10.1 333 47) 10) <|
            (some (zsI h10 370 (h10.1 333 47).toNatClampNeg v3)).bind fun h12 =>
            (some (zsI h12 333 47 ((h12.1 333 47) + 1))).bind fun h14 =>
            some ((h14.1 333 47), h14)) else (
          f_Mod_note_j53 h1)))))
def f_Mod_forget (h : zH) : Option (zH) :=
  (some (zsI h 333 2 0)).bind fun h1 =>
  (some (zsI h1 333 47 0)).bind fun h2 =>
  some h2
def f_Mod_doesFit_j56 (h : zH) (v1 : Int32) (v3 : Int32) (t0 : Int32) : Option ((Int32 × Int32 × zH) ⊕ (Int32 × zH)) :=
  some (.inl (t0, (v3 + 1), h))
def f_Mod_doesFit_b4 (h : zH) (v1 : Int32) (v2 : Int32) (v3 : Int32) : Option ((Int32 × Int32 × zH) ⊕ (Int32 × zH)) :=
  if (h.1 333 47) ≤ v3 then (
  some (.inr (v2, h))) else (
  zg (zb v3 10) <|
    (f_Mod_putRow h (h.1 368 v3.toNatClampNeg)).bind fun x2 =>
    (f_Mod_tellLines x2 v1).bind fun x3 =>
    if v2 = 0 then (
    f_Mod_doesFit_j56 x3 v1 v3 0) else (
    zg (zb v3 10) <|
      zg (zb (x3.1 369 v3.toNatClampNeg) 22) <|
      zg (zb v3 10) <|
      if ¬ (x3.1 351 (x3.1 369 v3.toNatClampNeg).toNatClampNeg) = (x3.1 370 v3.toNatClampNeg) then (
      f_Mod_doesFit_j56 x3 v1 v3 0) else (
      f_Mod_doesFit_j56 x3 v1 v3 1)))
def f_Mod_doesFit (h : zH) (v1 : Int32) : Option (Int32 × zH) :=
  (zit zFU (fun s : Int32 × Int32 × zH => f_Mod_doesFit_b4 s.2.2 v1 s.1 s.2.1) (1, 0, h)).bind (fun y11 =>
  zg (zbo y11.1) (some (y11.1, y11.2)))
def f_Mod_fits_b29 (h : zH) (v1 : Int32) (v2 : Int32) (v3 : Int32) : Option ((Int32 × Int32 × zH) ⊕ ((Int32 × zH) ⊕ (Int32 × zH))) :=
  (f_Mod_faults h).bind fun x2 =>
  if x2 ≤ v3 then (
  some (.inr (.inr (v2, h)))) else (
  (f_Mod_doesFit h v3).bind fun x3 =>
    if ¬ x3.1 = 0 then (
    if ¬ v2 = v1 then (
      some (.inl ((v2 + 1), (v3 + 1), x3.2))) else (
      some (.inr (.inl (v3, x3.2))))) else (
    some (.inl (v2, (v3 + 1), x3.2))))
def f_Mod_fits (h : zH) (v1 : Int32) : Option (Int32 × zH) :=
  (some (zsI h 333 2 0)).bind fun h1 =>
  if ¬ v1 = (-2) then (
  (zit zFU (fun s : Int32 × Int32 × zH => f_Mod_fits_b29 s.2.2 v1 s.1 s.2.1) (0, 0, h1)).bind (Sum.elim (fun y8 =>
    some (y8.1, y8.2)) (fun y9 =>
    if ¬ v1 = (-1) then (
      (f_Mod_fail y9.2 1).bind fun x10 =>
        some (x10.1, x10.2)) else (
      some (y9.1, y9.2))))) else (
  (f_Mod_doesFit h1 (-1)).bind fun x12 =>
    if x12.1 = 0 then (
    some (0, x12.2)) else (
    some (1, x12.2)))
def f_Mod_seenNow_j33 (h : zH) (v2 : Int32) (t0 : Int32) (t1 : Int32) : Option ((Int32 × Int32) ⊕ (Int32)) :=
  some (.inl ((t1 ||| t0), (v2 + 1)))
def f_Mod_seenNow_b4 (h : zH) (v1 : Int32) (v2 : Int32) : Option ((Int32 × Int32) ⊕ (Int32)) :=
  (f_Mod_lines h).bind fun x1 =>
  if x1 ≤ v2 then (
  some (.inr v1)) else (
  (f_Mod_isSeen h v2).bind fun x2 =>
    if x2 = 0 then (
    f_Mod_seenNow_j33 h v2 0 v1) else (
    zg (zb v2 22) <|
      f_Mod_seenNow_j33 h v2 (zshl (h.1 351 v2.toNatClampNeg) v2) v1))
def f_Mod_seenNow (h : zH) : Option (Int32) :=
  (zit zFU (fun s : Int32 × Int32 => f_Mod_seenNow_b4 h s.1 s.2) (0, 0)).bind (fun y7 =>
  some y7)
def f_Mod_unlikeBy_j76 (h : zH) (v2 : Int32) (v3 : Int32) (v4 : Int32) (v6 : Int32) (t0 : Int32) : Option ((Int32 × Int32) ⊕ (Int32)) :=
  some (.inl (t0, (v6 + 1)))
def f_Mod_unlikeBy_b48 (h : zH) (v2 : Int32) (v3 : Int32) (v4 : Int32) (v5 : Int32) (v6 : Int32) : Option ((Int32 × Int32) ⊕ (Int32)) :=
  if v2 ≤ v6 then (
  some (.inr v5)) else (
  if v5 = 0 then (
    f_Mod_unlikeBy_j76 h v2 v3 v4 v6 0) else (
    zg (zb v6 45) <|
      if (h.1 371 v6.toNatClampNeg) = v4 then (
      f_Mod_unlikeBy_j76 h v2 v3 v4 v6 0) else (
      f_Mod_unlikeBy_j76 h v2 v3 v4 v6 1)))
def f_Mod_unlikeBy_b9 (h : zH) (v2 : Int32) (v3 : Int32) : Option ((Int32 × Int32 × zH) ⊕ (Int32 × zH)) :=
  (f_Mod_faults h).bind fun x2 =>
  if x2 ≤ v3 then (
  some (.inr (v2, h))) else (
  zg (zb (v3 + 1) 45) <|
    if ¬ (h.1 372 (v3 + 1).toNatClampNeg) = 0 then (
    (f_Mod_tellLines h v3).bind fun x4 =>
      (f_Mod_seenNow x4).bind fun x5 =>
      (zit zFU (fun s : Int32 × Int32 => f_Mod_unlikeBy_b48 x4 v2 v3 x5 s.1 s.2) (1, 0)).bind (fun y11 =>
      if ¬ y11 = 0 then (
        zg (zb v2 45) <|
          (some (zsI x4 371 v2.toNatClampNeg x5)).bind fun h12 =>
          some (.inl ((v2 + 1), (v3 + 1), h12))) else (
        some (.inl (v2, (v3 + 1), x4))))) else (
    some (.inl (v2, (v3 + 1), h))))
def f_Mod_unlikeBy (h : zH) (v1 : Int32) : Option (Int32 × zH) :=
  (f_Mod_putRow h v1).bind fun x1 =>
  (zit zFU (fun s : Int32 × Int32 × zH => f_Mod_unlikeBy_b9 s.2.2 s.1 s.2.1) (0, (-1), x1)).bind (fun y18 =>
  some (y18.1, y18.2))
def f_Mod_look_b22 (h : zH) (v1 : Int32) (v2 : Int32) : Option ((Int32 × zH) ⊕ (zH)) :=
  (f_Mod_faults h).bind fun x3 =>
  if x3 ≤ v2 then (
  some (.inr h)) else (
  (f_Mod_doesFit h v2).bind fun x4 =>
    zg (zb (v2 + 1) 45) <|
    (some (zsI x4.2 372 (v2 + 1).toNatClampNeg (x4.1 &&& 1))).bind fun h5 =>
    some (.inl ((v2 + 1), h5)))
def f_Mod_look_b56 (h : zH) (v1 : Int32) (v2 : Int32) (v3 : Int32) (v4 : Int32) : Option ((Int32 × Int32 × Int32 × zH) ⊕ (Int32 × Int32 × zH)) :=
  (f_Mod_rows h).bind fun x10 =>
  if x10 ≤ v4 then (
  some (.inr (v2, v3, h))) else (
  (f_Mod_unlikeBy h v4).bind fun x11 =>
    if v3 < x11.1 then (
    some (.inl (v4, x11.1, (v4 + 1), x11.2))) else (
    some (.inl (v2, v3, (v4 + 1), x11.2))))
def f_Mod_look (h : zH) (v1 : Int32) : Option (Int32 × zH) :=
  (some (zsI h 333 2 0)).bind fun h1 =>
  (f_Mod_isIn v1 0 1).bind fun x2 =>
  if ¬ x2 = 0 then (
  (zit zFU (fun s : Int32 × zH => f_Mod_look_b22 s.2 v1 s.1) ((-1), h1)).bind (fun y9 =>
    (zit zFU (fun s : Int32 × Int32 × Int32 × zH => f_Mod_look_b56 s.2.2.2 v1 s.1 s.2.1 s.2.2.1) ((-1), 0, 0, y9)).bind (fun y15 =>
      if ¬ v1 = 0 then (
        some (y15.2.1, y15.2.2)) else (
        some (y15.1, y15.2.2))))) else (
  (f_Mod_fail h1 1).bind fun x17 =>
    some (x17.1, x17.2))
def f_Mod_behind_b30 (h : zH) (v1 : Int32) (v2 : Int32) (v3 : Int32) : Option ((Int32 × Int32 × zH) ⊕ (Int32 × zH)) :=
  if v1 ≤ v3 then (
  some (.inr (v2, h))) else (
  (f_Mod_taken h v2 (h.1 347 2)).bind fun x3 =>
    some (.inl (x3.1, (v3 + 1), x3.2)))
def f_Mod_behind (h : zH) (v1 : Int32) : Option (Int32 × zH) :=
  (some (zsI h 333 2 0)).bind fun h1 =>
  (f_Mod_isIn v1 0 40).bind fun x2 =>
  if ¬ x2 = 0 then (
  (zit zFU (fun s : Int32 × Int32 × zH => f_Mod_behind_b30 s.2.2 v1 s.1 s.2.1) ((h1.1 347 0), 0, h1)).bind (fun y6 =>
    some (y6.1, y6.2))) else (
  (f_Mod_fail h1 1).bind fun x7 =>
    some (x7.1, x7.2))
def f_Mod_back_b14 (h : zH) (v1 : Int32) (v2 : Int32) : Option ((Int32 × Int32 × zH) ⊕ ((Int32 × zH) ⊕ (zH))) :=
  if 64 < v2 then (
  some (.inr (.inr h))) else (
  (f_Mod_taken h v1 (h.1 347 2)).bind fun x2 =>
    if ¬ x2.1 = (x2.2.1 347 0) then (
    some (.inl (x2.1, (v2 + 1), x2.2))) else (
    some (.inr (.inl (v2, x2.2)))))
def f_Mod_back (h : zH) : Option (Int32 × zH) :=
  (some (zsI h 333 2 0)).bind fun h1 =>
  (zit zFU (fun s : Int32 × Int32 × zH => f_Mod_back_b14 s.2.2 s.1 s.2.1) ((h1.1 347 0), 1, h1)).bind (Sum.elim (fun y6 =>
  some (y6.1, y6.2)) (fun y7 =>
  some ((-1), y7)))
def f_Mod_tells_b36 (h : zH) (v1 : Int32) (v2 : Int32) (v3 : Int32) (v4 : Int32) : Option ((Int32 × Int32 × Int32 × zH) ⊕ ((Int32 × zH) ⊕ (zH))) :=
  if 64 < v4 then (
  some (.inr (.inr h))) else (
  (f_Mod_putRow h v2).bind fun x3 =>
    (f_Mod_tellLines x3 v1).bind fun x4 =>
    (f_Mod_seenNow x4).bind fun x5 =>
    (f_Mod_putRow x4 v3).bind fun x6 =>
    (f_Mod_tellLines x6 (-1)).bind fun x7 =>
    (f_Mod_seenNow x7).bind fun x8 =>
    if x8 = x5 then (
    (f_Mod_taken x7 v2 v1).bind fun x9 =>
      (f_Mod_taken x9.2 v3 (-1)).bind fun x10 =>
      some (.inl (x9.1, x10.1, (v4 + 1), x10.2))) else (
    some (.inr (.inl (v4, x7)))))
def f_Mod_tells (h : zH) (v1 : Int32) : Option (Int32 × zH) :=
  (some (zsI h 333 2 0)).bind fun h1 =>
  (f_Mod_isFault h1 v1).bind fun x2 =>
  if ¬ x2 = 0 then (
  (zit zFU (fun s : Int32 × Int32 × Int32 × zH => f_Mod_tells_b36 s.2.2.2 v1 s.1 s.2.1 s.2.2.1) ((h1.1 347 0), (h1.1 347 0), 0, h1)).bind (Sum.elim (fun y14 =>
    some (y14.1, y14.2)) (fun y15 =>
    some ((-1), y15)))) else (
  (f_Mod_fail h1 1).bind fun x16 =>
    some (x16.1, x16.2))
def f_Mod_copyTo_99_73_b2 (h : zH) (v2 : Int32) : Option ((Int32 × zH) ⊕ (zH)) :=
  if 57 ≤ v2 then (
  some (.inr h)) else (
  zg (zb v2 57) <|
    zg (zb v2 57) <|
    (some (zsI h 373 v2.toNatClampNeg (h.1 347 v2.toNatClampNeg))).bind fun h2 =>
    some (.inl ((v2 + 1), h2)))
def f_Mod_copyTo_99_73 (h : zH) : Option (zH) :=
  (zit zFU (fun s : Int32 × zH => f_Mod_copyTo_99_73_b2 s.2 s.1) (0, h)).bind (fun y6 =>
  some y6)
def f_Mod_draw (h : zH) (v1 : Int32) : Option (Int32 × zH) :=
  (some (zsI h 333 53 (((h.1 333 53) * 1103515245) + 12345))).bind fun h1 =>
  zg (!decide (v1 = 0)) <|
  some ((zrem ((zshr (h1.1 333 53) 16) &&& 32767) v1), h1)
def f_Mod_happen (h : zH) : Option (zH) :=
  (f_Mod_draw h 4).bind fun x1 =>
  if ¬ x1.1 = 0 then (
  if ¬ x1.1 = 1 then (
    if ¬ x1.1 = 2 then (
      (f_Mod_applyNow x1.2).bind fun x2 =>
        some x2.2) else (
      (f_Mod_draw x1.2 64).bind fun x3 =>
        (f_Mod_rows x3.2).bind fun x4 =>
        (some (zsI x3.2 347 0 (x3.1 &&& (x4 - 1)))).bind fun h5 =>
        (f_Mod_longest h5).bind fun x6 =>
        (some (zsI h5 347 1 ((h5.1 347 1) + x6))).bind fun h7 =>
        some h7)) else (
    (f_Mod_takeNow x1.2).bind fun x9 =>
      some x9)) else (
  (f_Mod_draw x1.2 8).bind fun x11 =>
    if (x11.2.1 336 2) ≤ 0 then (
    some x11.2) else (
    (f_Mod_shiftNow x11.2 x11.1).bind fun x12 =>
      some x12.2))
def f_Mod_copyTo_73_99_b2 (h : zH) (v2 : Int32) : Option ((Int32 × zH) ⊕ (zH)) :=
  if 57 ≤ v2 then (
  some (.inr h)) else (
  zg (zb v2 57) <|
    zg (zb v2 57) <|
    (some (zsI h 347 v2.toNatClampNeg (h.1 373 v2.toNatClampNeg))).bind fun h2 =>
    some (.inl ((v2 + 1), h2)))
def f_Mod_copyTo_73_99 (h : zH) : Option (zH) :=
  (zit zFU (fun s : Int32 × zH => f_Mod_copyTo_73_99_b2 s.2 s.1) (0, h)).bind (fun y6 =>
  some y6)
def f_Mod_years_b55 (h : zH) (v2 : Int32) (v3 : Int32) (v4 : Int32) : Option ((Int32 × zH) ⊕ (zH)) :=
  if v2 ≤ v4 then (
  some (.inr h)) else (
  (f_Mod_happen h).bind fun x6 =>
    some (.inl ((v4 + 1), x6)))
def f_Mod_years_j109 (h : zH) (t0 : Int32) : Option (Int32 × zH) :=
  (f_Mod_copyTo_73_99 h).bind fun x10 =>
  some (t0, x10)
def f_Mod_years (h : zH) (v1 : Int32) (v2 : Int32) (v3 : Int32) : Option (Int32 × zH) :=
  (some (zsI h 333 2 0)).bind fun h1 =>
  (f_Mod_isIn v3 0 2).bind fun x2 =>
  if ¬ x2 = 0 then (
  (f_Mod_isIn v2 0 60).bind fun x3 =>
    if ¬ x3 = 0 then (
    (f_Mod_copyTo_99_73 h1).bind fun x4 =>
      (some (zsI x4 333 53 v1)).bind fun h5 =>
      (zit zFU (fun s : Int32 × zH => f_Mod_years_b55 s.2 v2 v3 s.1) (0, h5)).bind (fun y9 =>
      if ¬ v3 = 0 then (
        if ¬ v3 = 1 then (
          f_Mod_years_j109 y9 (y9.1 347 0)) else (
          f_Mod_years_j109 y9 ((y9.1 347 1) - (y9.1 373 1)))) else (
        (f_Mod_doneMany y9).bind fun x12 =>
          f_Mod_years_j109 y9 x12))) else (
    (f_Mod_fail h1 2).bind fun x14 =>
      some (x14.1, x14.2))) else (
  (f_Mod_fail h1 1).bind fun x16 =>
    some (x16.1, x16.2))
def f_Mod_copyTo_100_73_b2 (h : zH) (v2 : Int32) : Option ((Int32 × zH) ⊕ (zH)) :=
  if 57 ≤ v2 then (
  some (.inr h)) else (
  zg (zb v2 57) <|
    zg (zb v2 57) <|
    (some (zsI h 374 v2.toNatClampNeg (h.1 347 v2.toNatClampNeg))).bind fun h2 =>
    some (.inl ((v2 + 1), h2)))
def f_Mod_copyTo_100_73 (h : zH) : Option (zH) :=
  (zit zFU (fun s : Int32 × zH => f_Mod_copyTo_100_73_b2 s.2 s.1) (0, h)).bind (fun y6 =>
  some y6)
def f_Mod_copyTo_101_93_b2 (h : zH) (v2 : Int32) : Option ((Int32 × zH) ⊕ (zH)) :=
  if 2280 ≤ v2 then (
  some (.inr h)) else (
  zg (zb v2 2280) <|
    zg (zb v2 2280) <|
    (some (zsI h 375 v2.toNatClampNeg (h.1 367 v2.toNatClampNeg))).bind fun h2 =>
    some (.inl ((v2 + 1), h2)))
def f_Mod_copyTo_101_93 (h : zH) : Option (zH) :=
  (zit zFU (fun s : Int32 × zH => f_Mod_copyTo_101_93_b2 s.2 s.1) (0, h)).bind (fun y6 =>
  some y6)
def f_Mod_copyTo_102_94_b2 (h : zH) (v2 : Int32) : Option ((Int32 × zH) ⊕ (zH)) :=
  if 10 ≤ v2 then (
  some (.inr h)) else (
  zg (zb v2 10) <|
    zg (zb v2 10) <|
    (some (zsI h 376 v2.toNatClampNeg (h.1 368 v2.toNatClampNeg))).bind fun h2 =>
    some (.inl ((v2 + 1), h2)))
def f_Mod_copyTo_102_94 (h : zH) : Option (zH) :=
  (zit zFU (fun s : Int32 × zH => f_Mod_copyTo_102_94_b2 s.2 s.1) (0, h)).bind (fun y6 =>
  some y6)
def f_Mod_copyTo_103_95_b2 (h : zH) (v2 : Int32) : Option ((Int32 × zH) ⊕ (zH)) :=
  if 10 ≤ v2 then (
  some (.inr h)) else (
  zg (zb v2 10) <|
    zg (zb v2 10) <|
    (some (zsI h 377 v2.toNatClampNeg (h.1 369 v2.toNatClampNeg))).bind fun h2 =>
    some (.inl ((v2 + 1), h2)))
def f_Mod_copyTo_103_95 (h : zH) : Option (zH) :=
  (zit zFU (fun s : Int32 × zH => f_Mod_copyTo_103_95_b2 s.2 s.1) (0, h)).bind (fun y6 =>
  some y6)
def f_Mod_copyTo_104_96_b2 (h : zH) (v2 : Int32) : Option ((Int32 × zH) ⊕ (zH)) :=
  if 10 ≤ v2 then (
  some (.inr h)) else (
  zg (zb v2 10) <|
    zg (zb v2 10) <|
    (some (zsI h 378 v2.toNatClampNeg (h.1 370 v2.toNatClampNeg))).bind fun h2 =>
    some (.inl ((v2 + 1), h2)))
def f_Mod_copyTo_104_96 (h : zH) : Option (zH) :=
  (zit zFU (fun s : Int32 × zH => f_Mod_copyTo_104_96_b2 s.2 s.1) (0, h)).bind (fun y6 =>
  some y6)
def f_Mod_copyTo_105_74_b2 (h : zH) (v2 : Int32) : Option ((Int32 × zH) ⊕ (zH)) :=
  if 3 ≤ v2 then (
  some (.inr h)) else (
  zg (zb v2 3) <|
    zg (zb v2 3) <|
    (some (zsI h 379 v2.toNatClampNeg (h.1 348 v2.toNatClampNeg))).bind fun h2 =>
    some (.inl ((v2 + 1), h2)))
def f_Mod_copyTo_105_74 (h : zH) : Option (zH) :=
  (zit zFU (fun s : Int32 × zH => f_Mod_copyTo_105_74_b2 s.2 s.1) (0, h)).bind (fun y6 =>
  some y6)
def f_Mod_image (h : zH) : Option (zH) :=
  (some (zsI h 333 2 0)).bind fun h1 =>
  (some (zsI h1 333 55 1)).bind fun h2 =>
  (some (zsI h2 333 56 (h2.1 333 45))).bind fun h3 =>
  (some (zsI h3 333 57 (h3.1 333 47))).bind fun h4 =>
  (f_Mod_copyTo_100_73 h4).bind fun x5 =>
  (f_Mod_copyTo_101_93 x5).bind fun x6 =>
  (f_Mod_copyTo_102_94 x6).bind fun x7 =>
  (f_Mod_copyTo_103_95 x7).bind fun x8 =>
  (f_Mod_copyTo_104_96 x8).bind fun x9 =>
  (f_Mod_copyTo_105_74 x9).bind fun x10 =>
  some x10
def f_Mod_copyTo_73_100_b2 (h : zH) (v2 : Int32) : Option ((Int32 × zH) ⊕ (zH)) :=
  if 57 ≤ v2 then (
  some (.inr h)) else (
  zg (zb v2 57) <|
    zg (zb v2 57) <|
    (some (zsI h 347 v2.toNatClampNeg (h.1 374 v2.toNatClampNeg))).bind fun h2 =>
    some (.inl ((v2 + 1), h2)))
def f_Mod_copyTo_73_100 (h : zH) : Option (zH) :=
  (zit zFU (fun s : Int32 × zH => f_Mod_copyTo_73_100_b2 s.2 s.1) (0, h)).bind (fun y6 =>
  some y6)
def f_Mod_copyTo_93_101_b2 (h : zH) (v2 : Int32) : Option ((Int32 × zH) ⊕ (zH)) :=
  if 2280 ≤ v2 then (
  some (.inr h)) else (
  zg (zb v2 2280) <|
    zg (zb v2 2280) <|
    (some (zsI h 367 v2.toNatClampNeg (h.1 375 v2.toNatClampNeg))).bind fun h2 =>
    some (.inl ((v2 + 1), h2)))
def f_Mod_copyTo_93_101 (h : zH) : Option (zH) :=
  (zit zFU (fun s : Int32 × zH => f_Mod_copyTo_93_101_b2 s.2 s.1) (0, h)).bind (fun y6 =>
  some y6)
def f_Mod_copyTo_94_102_b2 (h : zH) (v2 : Int32) : Option ((Int32 × zH) ⊕ (zH)) :=
  if 10 ≤ v2 then (
  some (.inr h)) else (
  zg (zb v2 10) <|
    zg (zb v2 10) <|
    (some (zsI h 368 v2.toNatClampNeg (h.1 376 v2.toNatClampNeg))).bind fun h2 =>
    some (.inl ((v2 + 1), h2)))
def f_Mod_copyTo_94_102 (h : zH) : Option (zH) :=
  (zit zFU (fun s : Int32 × zH => f_Mod_copyTo_94_102_b2 s.2 s.1) (0, h)).bind (fun y6 =>
  some y6)
def f_Mod_copyTo_95_103_b2 (h : zH) (v2 : Int32) : Option ((Int32 × zH) ⊕ (zH)) :=
  if 10 ≤ v2 then (
  some (.inr h)) else (
  zg (zb v2 10) <|
    zg (zb v2 10) <|
    (some (zsI h 369 v2.toNatClampNeg (h.1 377 v2.toNatClampNeg))).bind fun h2 =>
    some (.inl ((v2 + 1), h2)))
def f_Mod_copyTo_95_103 (h : zH) : Option (zH) :=
  (zit zFU (fun s : Int32 × zH => f_Mod_copyTo_95_103_b2 s.2 s.1) (0, h)).bind (fun y6 =>
  some y6)
def f_Mod_copyTo_96_104_b2 (h : zH) (v2 : Int32) : Option ((Int32 × zH) ⊕ (zH)) :=
  if 10 ≤ v2 then (
  some (.inr h)) else (
  zg (zb v2 10) <|
    zg (zb v2 10) <|
    (some (zsI h 370 v2.toNatClampNeg (h.1 378 v2.toNatClampNeg))).bind fun h2 =>
    some (.inl ((v2 + 1), h2)))
def f_Mod_copyTo_96_104 (h : zH) : Option (zH) :=
  (zit zFU (fun s : Int32 × zH => f_Mod_copyTo_96_104_b2 s.2 s.1) (0, h)).bind (fun y6 =>
  some y6)
def f_Mod_copyTo_74_105_b2 (h : zH) (v2 : Int32) : Option ((Int32 × zH) ⊕ (zH)) :=
  if 3 ≤ v2 then (
  some (.inr h)) else (
  zg (zb v2 3) <|
    zg (zb v2 3) <|
    (some (zsI h 348 v2.toNatClampNeg (h.1 379 v2.toNatClampNeg))).bind fun h2 =>
    some (.inl ((v2 + 1), h2)))
def f_Mod_copyTo_74_105 (h : zH) : Option (zH) :=
  (zit zFU (fun s : Int32 × zH => f_Mod_copyTo_74_105_b2 s.2 s.1) (0, h)).bind (fun y6 =>
  some y6)
def f_Mod_restore (h : zH) : Option (Int32 × zH) :=
  (some (zsI h 333 2 0)).bind fun h1 =>
  if ¬ (h1.1 333 55) = 0 then (
  (some (zsI h1 333 45 (h1.1 333 56))).bind fun h2 =>
    (some (zsI h2 333 47 (h2.1 333 57))).bind fun h3 =>
    (f_Mod_copyTo_73_100 h3).bind fun x4 =>
    (f_Mod_copyTo_93_101 x4).bind fun x5 =>
    (f_Mod_copyTo_94_102 x5).bind fun x6 =>
    (f_Mod_copyTo_95_103 x6).bind fun x7 =>
    (f_Mod_copyTo_96_104 x7).bind fun x8 =>
    (f_Mod_copyTo_74_105 x8).bind fun x9 =>
    some (1, x9)) else (
  some (0, h1))
def f_Mod_agree_j72 (h : zH) (v1 : Int32) (v2 : Int32) (v4 : Int32) (t0 : Int32) : Option ((Int32 × Int32) ⊕ (Int32)) :=
  some (.inl (t0, (v4 + 1)))
def f_Mod_agree_b5 (h : zH) (v1 : Int32) (v2 : Int32) (v3 : Int32) (v4 : Int32) : Option ((Int32 × Int32) ⊕ (Int32)) :=
  if (h.1 336 0) ≤ v4 then (
  some (.inr v3)) else (
  zg (zb ((6 * v1) + v4) 264) <|
    zg (zb ((6 * v2) + v4) 264) <|
    if v3 = 0 then (
    f_Mod_agree_j72 h v1 v2 v4 0) else (
    if (h.1 355 ((6 * v1) + v4).toNatClampNeg) = 2 then (
      f_Mod_agree_j72 h v1 v2 v4 1) else (
      if (h.1 355 ((6 * v2) + v4).toNatClampNeg) = 2 then (
        f_Mod_agree_j72 h v1 v2 v4 1) else (
        if ¬ (h.1 355 ((6 * v1) + v4).toNatClampNeg) = (h.1 355 ((6 * v2) + v4).toNatClampNeg) then (
          f_Mod_agree_j72 h v1 v2 v4 0) else (
          f_Mod_agree_j72 h v1 v2 v4 1)))))
def f_Mod_agree (h : zH) (v1 : Int32) (v2 : Int32) : Option (Int32) :=
  (zit zFU (fun s : Int32 × Int32 => f_Mod_agree_b5 h v1 v2 s.1 s.2) (1, 0)).bind (fun y9 =>
  zg (zbo y9) (some y9))
def f_Mod_packs_j85 (rc : zH → Int32 → Int32 → Int32 → Option (Int32 × zH)) (h : zH) (v1 : Int32) (v2 : Int32) (v3 : Int32) (v4 : Int32) (v6 : Int32) (t0 : Int32) : Option ((Int32 × Int32) ⊕ (Int32)) :=
  some (.inl (t0, (v6 + 1)))
def f_Mod_packs_b33 (rc : zH → Int32 → Int32 → Int32 → Option (Int32 × zH)) (h : zH) (v1 : Int32) (v2 : Int32) (v3 : Int32) (v4 : Int32) (v5 : Int32) (v6 : Int32) : Option ((Int32 × Int32) ⊕ (Int32)) :=
  if v1 ≤ v6 then (
  some (.inr v5)) else (
  if v5 = 0 then (
    f_Mod_packs_j85 rc h v1 v2 v3 v4 v6 0) else (
    zg (zb v6 8) <|
      if ¬ (h.1 366 v6.toNatClampNeg) = v4 then (
      f_Mod_packs_j85 rc h v1 v2 v3 v4 v6 1) else (
      zg (zb (5 + v6) 57) <|
        zg (zb (5 + v1) 57) <|
        (f_Mod_agree h (h.1 347 (5 + v6).toNatClampNeg) (h.1 347 (5 + v1).toNatClampNeg)).bind fun x4 =>
        if x4 = 0 then (
        f_Mod_packs_j85 rc h v1 v2 v3 v4 v6 0) else (
        f_Mod_packs_j85 rc h v1 v2 v3 v4 v6 1))))
def f_Mod_packs_j123 (rc : zH → Int32 → Int32 → Int32 → Option (Int32 × zH)) (h : zH) (v1 : Int32) (v2 : Int32) (v3 : Int32) (v4 : Int32) (t0 : Int32) (t1 : Int32) : Option ((Int32 × zH) ⊕ ((zH) ⊕ (zH))) :=
  (rc h t1 t0 v3).bind fun x13 =>
  if x13.1 = 0 then (
  some (.inl ((v4 + 1), x13.2))) else (
  some (.inr (.inl x13.2)))
def f_Mod_packs_b15 (rc : zH → Int32 → Int32 → Int32 → Option (Int32 × zH)) (h : zH) (v1 : Int32) (v2 : Int32) (v3 : Int32) (v4 : Int32) : Option ((Int32 × zH) ⊕ ((zH) ⊕ (zH))) :=
  if v2 < v4 then (
  some (.inr (.inr h))) else (
  if v3 ≤ v4 then (
    some (.inr (.inr h))) else (
    (zit zFU (fun s : Int32 × Int32 => f_Mod_packs_b33 rc h v1 v2 v3 v4 s.1 s.2) (1, 0)).bind (fun y10 =>
      zg (zb v1 8) <|
        (some (zsI h 366 v1.toNatClampNeg v4)).bind fun h11 =>
        if y10 = 0 then (
        some (.inl ((v4 + 1), h11))) else (
        if ¬ v4 = v2 then (
          f_Mod_packs_j123 rc h11 v1 v2 v3 v4 v2 (v1 + 1)) else (
          f_Mod_packs_j123 rc h11 v1 v2 v3 v4 (v2 + 1) (v1 + 1))))))
def f_Mod_packs_s (rc : zH → Int32 → Int32 → Int32 → Option (Int32 × zH)) (h : zH) (v1 : Int32) (v2 : Int32) (v3 : Int32) : Option (Int32 × zH) :=
  if ¬ v1 = (h.1 347 4) then (
  (zit zFU (fun s : Int32 × zH => f_Mod_packs_b15 rc s.2 v1 v2 v3 s.1) (0, h)).bind (Sum.elim (fun y20 =>
    some (1, y20)) (fun y21 =>
    some (0, y21)))) else (
  some (1, h))
def f_Mod_packs : Nat → zH → Int32 → Int32 → Int32 → Option (Int32 × zH)
  | 0, _, _, _, _ => none
  | n + 1, h, v1, v2, v3 => f_Mod_packs_s (f_Mod_packs n) h v1 v2 v3
def f_Mod_pack_b29 (h : zH) (v1 : Int32) (v2 : Int32) : Option ((Int32 × zH) ⊕ (Int32 × zH)) :=
  (f_Mod_packs 9 h 0 0 v2).bind fun x3 =>
  if ¬ x3.1 = 0 then (
  some (.inr (v2, x3.2))) else (
  some (.inl ((v2 + 1), x3.2)))
def f_Mod_pack (h : zH) (v1 : Int32) : Option (Int32 × zH) :=
  (some (zsI h 333 2 0)).bind fun h1 =>
  (f_Mod_isIn v1 (-1) ((h1.1 347 4) - 1)).bind fun x2 =>
  if ¬ x2 = 0 then (
  (zit zFU (fun s : Int32 × zH => f_Mod_pack_b29 s.2 v1 s.1) (0, h1)).bind (fun y6 =>
    if ¬ v1 = (-1) then (
      zg (zb v1 8) <|
        some ((y6.2.1 366 v1.toNatClampNeg), y6.2)) else (
      some (y6.1, y6.2)))) else (
  (f_Mod_fail h1 1).bind fun x9 =>
    some (x9.1, x9.2))
def zKl : List Nat := [0, 5, 9, 20, 3, 21, 22, 23, 24, 25, 26, 26, 26, 26, 26, 26, 26, 26, 26, 26, 26, 26, 26, 26, 26, 26, 26, 26, 26, 26, 26, 26, 27, 28, 29, 30, 30, 30, 31, 3, 21, 22, 23, 24, 25, 26, 26, 26, 26, 26, 26, 26, 26, 26, 26, 26, 26, 26, 26, 26, 26, 26, 26, 26, 26, 26, 26, 27, 28, 29, 30, 30, 30, 31, 1, 32, 33, 33, 33, 33, 33, 33, 33, 33, 33, 33, 33, 33, 33, 33, 33, 33, 33, 33, 33, 33, 33, 33, 33, 33, 33, 33, 33, 33, 33, 33, 33, 33, 33, 33, 33, 33, 33, 33, 33, 33, 33, 33, 33, 33, 33, 34, 35, 36, 37, 38, 39, 10, 40, 41, 42, 43, 10, 40, 41, 42, 43, 6, 44, 45, 46, 47, 48, 49, 50, 50, 50, 50, 50, 50, 4, 51, 2, 52, 53, 7, 8, 54, 55, 56, 57, 58, 59, 8, 54, 8, 54, 8, 54, 8, 54, 8, 54, 8, 54, 8, 54, 8, 54, 8, 54, 8, 54, 8, 54, 8, 54, 8, 54, 8, 54, 8, 54, 8, 54, 8, 54, 8, 54, 8, 54, 8, 54, 8, 54, 8, 54, 8, 54, 8, 54, 8, 54, 8, 54, 8, 54, 8, 54, 8, 54, 8, 54, 8, 54, 8, 54, 8, 54, 8, 54, 8, 54, 8, 54, 8, 54, 8, 54, 8, 54, 8, 54, 7, 8, 54, 55, 56, 57, 58, 59, 8, 54, 8, 54, 8, 54, 8, 54, 8, 54, 8, 54, 8, 54, 8, 54, 8, 54, 8, 54, 8, 54, 8, 54, 8, 54, 8, 54, 8, 54, 8, 54, 8, 54, 8, 54, 8, 54, 8, 54, 8, 54, 8, 54, 8, 54, 8, 54, 8, 54, 8, 54, 8, 54, 8, 54, 8, 54, 8, 54, 8, 54, 8, 54, 8, 54, 8, 54, 8, 54, 8, 54, 8, 54, 8, 54, 8, 54, 8, 54, 8, 54, 11, 60, 61, 62, 63, 64, 65, 66, 67, 68, 69, 70, 71, 72, 73, 74, 75, 76, 77, 78, 79, 80, 81, 82, 83, 84, 85, 86, 87, 88, 89, 90, 91, 92, 93, 94, 95, 96, 97, 98, 99, 100, 101, 102, 103, 104, 105, 106]
def zKf (o : Nat) : Nat := zKl.getD o 0
def zuf (R : Nat → Nat → Option (Nat × Nat)) (o : Nat) (f : Nat → Option (Nat × Nat)) : Nat → Nat → Option (Nat × Nat) := fun a => if a = o then f else R a
def zSI (I : Nat → Nat → Int32) (T : Nat) : Nat → Nat → Nat → Int32
  | 0 => I
  | i + 1 => zu (zSI I T i) (T + (7 + 2 * i)) 2 (-1)
def zSR (R : Nat → Nat → Option (Nat × Nat)) (T : Nat) : Nat → Nat → Nat → Option (Nat × Nat)
  | 0 => R
  | i + 1 => zu (zu (zSR R T i) (T + (7 + 2 * i)) 6 (some (54, T + (7 + 2 * i) + 1))) (T + 2) i (some (8, T + (7 + 2 * i)))
def zSk (q : Nat) : Nat := match Nat.blt q 7 with
  | true => ([8, 54, 55, 56, 57, 58, 59] : List Nat).getD q 0
  | false => match Nat.beq (q % 2) 1 with
    | true => 8
    | false => 54
def zI_Main (I : Nat → Nat → Int32) : Nat → Nat → Int32 := zu (zu (zSI (zu (zSI (zu (zu (zu (I) 1 3 (-1)) 0 2 (-1)) 156 2 (-1)) 156 40) 244 2 (-1)) 244 40) 0 9 0) 331 2 (-1)
def zR9_Main (R : Nat → Nat → Option (Nat × Nat)) : Nat → Nat → Option (Nat × Nat) := zu (zu (zu (zSR (zu (zu (zu (zu (zu (zu (zu (zu (zSR (zu (zu (zu (zu (zu (zu (zu (zu (zu (zu (zu (zu (zu (zu (zuf (zu (zu (zu (zu (zu (zu (zu (zu (zu (zu (zu (zu (zu (zu (zu (zu (zu (zu (zu (zu (zu (zu (zu (zuf (zu (zu (zu (zuf (zu (zu (zu (zuf (zu (zu (zu (zu (zu (zu (zu (zu (zuf (zu (zu (zu (zuf (zu (zu (zu (zu (zu (zu (R) 2 0 (some (20, 3))) 1 0 (some (9, 2))) 4 7 (some (21, 5))) 4 8 (some (22, 6))) 4 9 (some (23, 7))) 4 10 (some (24, 8))) 9 (fun k => if k < 22 then some (26, 9 + 1 + k) else none)) 4 11 (some (25, 9))) 4 12 (some (27, 32))) 4 13 (some (28, 33))) 34 (fun k => if k < 3 then some (30, 34 + 1 + k) else none)) 4 14 (some (29, 34))) 4 15 (some (31, 38))) 1 1 (some (3, 4))) 0 0 (some (5, 1))) 39 7 (some (21, 40))) 39 8 (some (22, 41))) 39 9 (some (23, 42))) 39 10 (some (24, 43))) 44 (fun k => if k < 22 then some (26, 44 + 1 + k) else none)) 39 11 (some (25, 44))) 39 12 (some (27, 67))) 39 13 (some (28, 68))) 69 (fun k => if k < 3 then some (30, 69 + 1 + k) else none)) 39 14 (some (29, 69))) 39 15 (some (31, 73))) 0 1 (some (3, 39))) 75 (fun k => if k < 45 then some (33, 75 + 1 + k) else none)) 74 4 (some (32, 75))) 74 5 (some (34, 121))) 74 6 (some (35, 122))) 74 7 (some (36, 123))) 74 8 (some (37, 124))) 74 9 (some (38, 125))) 74 10 (some (39, 126))) 127 0 (some (40, 128))) 127 1 (some (41, 129))) 127 2 (some (42, 130))) 127 3 (some (43, 131))) 74 11 (some (10, 127))) 132 0 (some (40, 133))) 132 1 (some (41, 134))) 132 2 (some (42, 135))) 132 3 (some (43, 136))) 74 12 (some (10, 132))) 0 3 (some (1, 74))) 137 0 (some (44, 138))) 137 1 (some (45, 139))) 137 2 (some (46, 140))) 137 9 (some (47, 141))) 137 10 (some (48, 142))) 143 (fun k => if k < 6 then some (50, 143 + 1 + k) else none)) 137 11 (some (49, 143))) 0 4 (some (6, 137))) 150 0 (some (51, 151))) 0 5 (some (4, 150))) 152 0 (some (52, 153))) 152 5 (some (53, 154))) 0 6 (some (2, 152))) 156 6 (some (54, 157))) 155 0 (some (8, 156))) 155 1 (some (55, 158))) 155 4 (some (56, 159))) 155 5 (some (57, 160))) 155 6 (some (58, 161))) 155 8 (some (59, 162))) 156 40) 0 7 (some (7, 155))) 244 6 (some (54, 245))) 243 0 (some (8, 244))) 243 1 (some (55, 246))) 243 4 (some (56, 247))) 243 5 (some (57, 248))) 243 6 (some (58, 249))) 243 8 (some (59, 250))) 244 40) 0 8 (some (7, 243))) 331 6 (some (54, 332))) 0 10 (some (8, 331))
def zI_Mod (I : Nat → Nat → Int32) : Nat → Nat → Int32 := zu (zu (I) 333 26 (-1)) 347 2 (-1)
def zR9_Mod (R : Nat → Nat → Option (Nat × Nat)) : Nat → Nat → Option (Nat × Nat) := zu (zu (zu (zu (zu (zu (zu (zu (zu (zu (zu (zu (zu (zu (zu (zu (zu (zu (zu (zu (zu (zu (zu (zu (zu (zu (zu (zu (zu (zu (zu (zu (zu (zu (zu (zu (zu (zu (zu (zu (zu (zu (zu (zu (zu (zu (zu (zu (zu (zu (zu (zu (zu (zu (zu (zu (zu (R) 334 0 (some (202, 1000010))) 334 1 (some (202, 1000011))) 334 2 (some (202, 1000012))) 334 3 (some (202, 1000013))) 334 4 (some (202, 1000014))) 334 5 (some (202, 1000015))) 333 0 (some (60, 334))) 335 0 (some (202, 1000016))) 335 1 (some (202, 1000017))) 335 2 (some (202, 1000018))) 335 3 (some (202, 1000019))) 335 4 (some (202, 1000020))) 333 1 (some (61, 335))) 333 3 (some (62, 336))) 333 4 (some (63, 337))) 333 5 (some (64, 338))) 333 6 (some (65, 339))) 333 7 (some (66, 340))) 333 8 (some (67, 341))) 333 9 (some (68, 342))) 333 10 (some (69, 343))) 333 11 (some (70, 344))) 333 12 (some (71, 345))) 333 13 (some (72, 346))) 333 14 (some (73, 347))) 333 15 (some (74, 348))) 333 16 (some (75, 349))) 333 27 (some (76, 350))) 333 28 (some (77, 351))) 333 29 (some (78, 352))) 333 30 (some (79, 353))) 333 31 (some (80, 354))) 333 32 (some (81, 355))) 333 33 (some (82, 356))) 333 34 (some (83, 357))) 333 35 (some (84, 358))) 333 36 (some (85, 359))) 333 37 (some (86, 360))) 333 38 (some (87, 361))) 333 39 (some (88, 362))) 333 41 (some (89, 363))) 333 42 (some (90, 364))) 333 43 (some (91, 365))) 333 44 (some (92, 366))) 333 46 (some (93, 367))) 333 48 (some (94, 368))) 333 49 (some (95, 369))) 333 50 (some (96, 370))) 333 51 (some (97, 371))) 333 52 (some (98, 372))) 333 54 (some (99, 373))) 333 58 (some (100, 374))) 333 59 (some (101, 375))) 333 60 (some (102, 376))) 333 61 (some (103, 377))) 333 62 (some (104, 378))) 333 63 (some (105, 379))
def f_L_net (h : zH) (v1 : Int32) : Option (Int32 × zH) :=
  (f_Main_net h v1).bind (Sum.elim (fun a => some (0, zsL a.2 380 0 a.1.toInt64)) (fun q => if q.1 = 2 then some (1, q.2) else none))
def f_L_count (h : zH) (v1 : Int32) : Option (Int32 × zH) :=
  (f_Main_count h v1).bind (Sum.elim (fun a => some (0, zsL a.2 380 0 a.1.toInt64)) (fun q => if q.1 = 1 then some (1, q.2) else none))
def f_L_line (h : zH) (v1 : Int32) (v2 : Int32) : Option (Int32 × zH) :=
  (f_Main_line h v1 v2).bind (Sum.elim (fun a => some (0, zsL a.2 380 0 a.1.toInt64)) (fun q => if q.1 = 1 then some (1, q.2) else none))
def f_L_letter (h : zH) (v1 : Int32) (v2 : Int32) : Option (Int32 × zH) :=
  (f_Main_letter h v1 v2).bind (Sum.elim (fun a => some (0, zsL a.2 380 0 a.1.toInt64)) (fun q => if q.1 = 1 then some (1, q.2) else none))
def f_L_chain (h : zH) (v1 : Int32) (v2 : Int32) : Option (Int32 × zH) :=
  (f_Main_chain h v1 v2).bind (Sum.elim (fun a => some (0, zsL a.2 380 0 a.1.toInt64)) (fun q => if q.1 = 1 then some (1, q.2) else none))
def f_L_test (h : zH) (v1 : Int32) (v2 : Int32) : Option (Int32 × zH) :=
  (f_Main_test h v1 v2).bind (Sum.elim (fun a => some (0, zsL a.2 380 0 a.1.toInt64)) (fun q => if q.1 = 1 then some (1, q.2) else none))
def f_L_row (h : zH) (v1 : Int32) (v2 : Int32) : Option (Int32 × zH) :=
  (f_Main_row h v1 v2).bind (Sum.elim (fun a => some (0, zsL a.2 380 0 a.1.toInt64)) (fun q => if q.1 = 1 then some (1, q.2) else none))
def f_L_cube (h : zH) (v1 : Int32) (v2 : Int32) : Option (Int32 × zH) :=
  (f_Main_cube h v1 v2).bind (Sum.elim (fun a => some (0, zsL a.2 380 0 a.1.toInt64)) (fun q => if q.1 = 1 then some (1, q.2) else none))
def f_L_by (h : zH) (v1 : Int32) (v2 : Int32) (v3 : Int32) : Option (Int32 × zH) :=
  (f_Main_by h v1 v2 v3).bind (Sum.elim (fun a => some (0, zsL a.2 380 0 a.1.toInt64)) (fun q => if q.1 = 1 then some (1, q.2) else if q.1 = 2 then some (2, q.2) else none))
def f_L_program (h : zH) (v1 : Int32) (v2 : Int32) : Option (Int32 × zH) :=
  (f_Main_program h v1 v2).bind (Sum.elim (fun a => some (0, zsL a.2 380 0 a.1.toInt64)) (fun q => if q.1 = 1 then some (1, q.2) else none))
def f_L_order (h : zH) (v1 : Int32) (v2 : Int32) : Option (Int32 × zH) :=
  (f_Main_order h v1 v2).bind (Sum.elim (fun a => some (0, zsL a.2 380 0 a.1.toInt64)) (fun q => if q.1 = 1 then some (1, q.2) else none))
def f_L_pack (h : zH) (v1 : Int32) : Option (Int32 × zH) :=
  (f_Main_pack h v1).bind (Sum.elim (fun a => some (0, zsL a.2 380 0 a.1.toInt64)) (fun q => if q.1 = 1 then some (1, q.2) else none))
def f_L_defect (h : zH) (v1 : Int32) : Option (Int32 × zH) :=
  (f_Main_defect h v1).bind (Sum.elim (fun a => some (0, zsL a.2 380 0 a.1.toInt64)) (fun q => if q.1 = 1 then some (1, q.2) else none))
def f_L_fits (h : zH) (v1 : Int32) : Option (Int32 × zH) :=
  (f_Main_fits h v1).bind (Sum.elim (fun a => some (0, zsL a.2 380 0 a.1.toInt64)) (fun q => if q.1 = 1 then some (1, q.2) else none))
def f_L_look (h : zH) (v1 : Int32) : Option (Int32 × zH) :=
  (f_Main_look h v1).bind (Sum.elim (fun a => some (0, zsL a.2 380 0 a.1.toInt64)) (fun q => if q.1 = 1 then some (1, q.2) else none))
def f_L_behind (h : zH) (v1 : Int32) : Option (Int32 × zH) :=
  (f_Main_behind h v1).bind (Sum.elim (fun a => some (0, zsL a.2 380 0 a.1.toInt64)) (fun q => if q.1 = 2 then some (1, q.2) else none))
def f_L_tells (h : zH) (v1 : Int32) : Option (Int32 × zH) :=
  (f_Main_tells h v1).bind (Sum.elim (fun a => some (0, zsL a.2 380 0 a.1.toInt64)) (fun q => if q.1 = 1 then some (1, q.2) else none))
def f_L_years (h : zH) (v1 : Int32) (v2 : Int32) (v3 : Int32) : Option (Int32 × zH) :=
  (f_Main_years h v1 v2 v3).bind (Sum.elim (fun a => some (0, zsL a.2 380 0 a.1.toInt64)) (fun q => if q.1 = 1 then some (1, q.2) else if q.1 = 2 then some (2, q.2) else none))
def f_law (X : zX) (h : zH) (v4 : Int32) : Option ((Int32 × zH) ⊕ zH) :=
  if ((Int32.ofNat X.1) - 6) < v4 then (
  some (.inr h)) else (
  zg (zb v4 X.1) <|
    if ((X.2 v4.toNatClampNeg) &&& 63) = 0 then (
    zg (zb (v4 + 1) X.1) <|
      zg (zb (v4 + 2) X.1) <|
      zg (zb (v4 + 3) X.1) <|
      zg (zb (v4 + 4) X.1) <|
      zg (zb (v4 + 5) X.1) <|
      (f_Main_feed h (X.2 (v4 + 1).toNatClampNeg) (X.2 (v4 + 2).toNatClampNeg) (X.2 (v4 + 3).toNatClampNeg) (X.2 (v4 + 4).toNatClampNeg) (X.2 (v4 + 5).toNatClampNeg)).bind fun x7 =>
      zg (zb (v4 + 1) X.1) <|
      zg (zb (v4 + 2) X.1) <|
      zg (zb (v4 + 3) X.1) <|
      zg (zb (v4 + 4) X.1) <|
      zg (zb (v4 + 5) X.1) <|
      (f_Mod_feed x7.2 (X.2 (v4 + 1).toNatClampNeg) (X.2 (v4 + 2).toNatClampNeg) (X.2 (v4 + 3).toNatClampNeg) (X.2 (v4 + 4).toNatClampNeg) (X.2 (v4 + 5).toNatClampNeg)).bind fun x13 =>
      if x7.1 = x13.1 then (
      some (.inl ((v4 + 6), x13.2))) else (
      none)) else (
    if ((X.2 v4.toNatClampNeg) &&& 63) = 1 then (
      zg (zb (v4 + 1) X.1) <|
        (f_L_net h (X.2 (v4 + 1).toNatClampNeg)).bind fun x17 =>
        zg (zb (v4 + 1) X.1) <|
        (f_Mod_net x17.2 (X.2 (v4 + 1).toNatClampNeg)).bind fun x19 =>
        (f_Mod_thrown x19.2).bind fun x20 =>
        if x20 = x17.1 then (
        if ¬ x17.1 = 0 then (
          some (.inl ((v4 + 6), x19.2))) else (
          if (x19.2.2.1 380 0) = x19.1.toInt64 then (
            some (.inl ((v4 + 6), x19.2))) else (
            none))) else (
        none)) else (
      if ((X.2 v4.toNatClampNeg) &&& 63) = 2 then (
        (f_Main_fault h).bind fun x25 =>
          (f_Mod_fault h).bind fun x26 =>
          if x25 = x26.1 then (
          some (.inl ((v4 + 6), x26.2))) else (
          none)) else (
        if ((X.2 v4.toNatClampNeg) &&& 63) = 3 then (
          zg (zb (v4 + 1) X.1) <|
            (f_L_count h (X.2 (v4 + 1).toNatClampNeg)).bind fun x30 =>
            zg (zb (v4 + 1) X.1) <|
            (f_Mod_count x30.2 (X.2 (v4 + 1).toNatClampNeg)).bind fun x32 =>
            (f_Mod_thrown x32.2).bind fun x33 =>
            if x33 = x30.1 then (
            if ¬ x30.1 = 0 then (
              some (.inl ((v4 + 6), x32.2))) else (
              if (x32.2.2.1 380 0) = x32.1.toInt64 then (
                some (.inl ((v4 + 6), x32.2))) else (
                none))) else (
            none)) else (
          if ((X.2 v4.toNatClampNeg) &&& 63) = 4 then (
            zg (zb (v4 + 1) X.1) <|
              zg (zb (v4 + 2) X.1) <|
              (f_L_line h (X.2 (v4 + 1).toNatClampNeg) (X.2 (v4 + 2).toNatClampNeg)).bind fun x40 =>
              zg (zb (v4 + 1) X.1) <|
              zg (zb (v4 + 2) X.1) <|
              (f_Mod_line x40.2 (X.2 (v4 + 1).toNatClampNeg) (X.2 (v4 + 2).toNatClampNeg)).bind fun x43 =>
              (f_Mod_thrown x43.2).bind fun x44 =>
              if x44 = x40.1 then (
              if ¬ x40.1 = 0 then (
                some (.inl ((v4 + 6), x43.2))) else (
                if (x43.2.2.1 380 0) = x43.1.toInt64 then (
                  some (.inl ((v4 + 6), x43.2))) else (
                  none))) else (
              none)) else (
            if ((X.2 v4.toNatClampNeg) &&& 63) = 5 then (
              zg (zb (v4 + 1) X.1) <|
                zg (zb (v4 + 2) X.1) <|
                (f_L_letter h (X.2 (v4 + 1).toNatClampNeg) (X.2 (v4 + 2).toNatClampNeg)).bind fun x51 =>
                zg (zb (v4 + 1) X.1) <|
                zg (zb (v4 + 2) X.1) <|
                (f_Mod_letter x51.2 (X.2 (v4 + 1).toNatClampNeg) (X.2 (v4 + 2).toNatClampNeg)).bind fun x54 =>
                (f_Mod_thrown x54.2).bind fun x55 =>
                if x55 = x51.1 then (
                if ¬ x51.1 = 0 then (
                  some (.inl ((v4 + 6), x54.2))) else (
                  if (x54.2.2.1 380 0) = x54.1.toInt64 then (
                    some (.inl ((v4 + 6), x54.2))) else (
                    none))) else (
                none)) else (
              if ((X.2 v4.toNatClampNeg) &&& 63) = 6 then (
                zg (zb (v4 + 1) X.1) <|
                  zg (zb (v4 + 2) X.1) <|
                  (f_L_chain h (X.2 (v4 + 1).toNatClampNeg) (X.2 (v4 + 2).toNatClampNeg)).bind fun x62 =>
                  zg (zb (v4 + 1) X.1) <|
                  zg (zb (v4 + 2) X.1) <|
                  (f_Mod_chain x62.2 (X.2 (v4 + 1).toNatClampNeg) (X.2 (v4 + 2).toNatClampNeg)).bind fun x65 =>
                  (f_Mod_thrown x65.2).bind fun x66 =>
                  if x66 = x62.1 then (
                  if ¬ x62.1 = 0 then (
                    some (.inl ((v4 + 6), x65.2))) else (
                    if (x65.2.2.1 380 0) = x65.1.toInt64 then (
                      some (.inl ((v4 + 6), x65.2))) else (
                      none))) else (
                  none)) else (
                if ((X.2 v4.toNatClampNeg) &&& 63) = 7 then (
                  zg (zb (v4 + 1) X.1) <|
                    zg (zb (v4 + 2) X.1) <|
                    (f_L_test h (X.2 (v4 + 1).toNatClampNeg) (X.2 (v4 + 2).toNatClampNeg)).bind fun x73 =>
                    zg (zb (v4 + 1) X.1) <|
                    zg (zb (v4 + 2) X.1) <|
                    (f_Mod_test x73.2 (X.2 (v4 + 1).toNatClampNeg) (X.2 (v4 + 2).toNatClampNeg)).bind fun x76 =>
                    (f_Mod_thrown x76.2).bind fun x77 =>
                    if x77 = x73.1 then (
                    if ¬ x73.1 = 0 then (
                      some (.inl ((v4 + 6), x76.2))) else (
                      if (x76.2.2.1 380 0) = x76.1.toInt64 then (
                        some (.inl ((v4 + 6), x76.2))) else (
                        none))) else (
                    none)) else (
                  if ((X.2 v4.toNatClampNeg) &&& 63) = 8 then (
                    zg (zb (v4 + 1) X.1) <|
                      zg (zb (v4 + 2) X.1) <|
                      (f_L_row h (X.2 (v4 + 1).toNatClampNeg) (X.2 (v4 + 2).toNatClampNeg)).bind fun x84 =>
                      zg (zb (v4 + 1) X.1) <|
                      zg (zb (v4 + 2) X.1) <|
                      (f_Mod_row x84.2 (X.2 (v4 + 1).toNatClampNeg) (X.2 (v4 + 2).toNatClampNeg)).bind fun x87 =>
                      (f_Mod_thrown x87.2).bind fun x88 =>
                      if x88 = x84.1 then (
                      if ¬ x84.1 = 0 then (
                        some (.inl ((v4 + 6), x87.2))) else (
                        if (x87.2.2.1 380 0) = x87.1.toInt64 then (
                          some (.inl ((v4 + 6), x87.2))) else (
                          none))) else (
                      none)) else (
                    if ((X.2 v4.toNatClampNeg) &&& 63) = 9 then (
                      zg (zb (v4 + 1) X.1) <|
                        zg (zb (v4 + 2) X.1) <|
                        (f_L_cube h (X.2 (v4 + 1).toNatClampNeg) (X.2 (v4 + 2).toNatClampNeg)).bind fun x95 =>
                        zg (zb (v4 + 1) X.1) <|
                        zg (zb (v4 + 2) X.1) <|
                        (f_Mod_cube x95.2 (X.2 (v4 + 1).toNatClampNeg) (X.2 (v4 + 2).toNatClampNeg)).bind fun x98 =>
                        (f_Mod_thrown x98.2).bind fun x99 =>
                        if x99 = x95.1 then (
                        if ¬ x95.1 = 0 then (
                          some (.inl ((v4 + 6), x98.2))) else (
                          if (x98.2.2.1 380 0) = x98.1.toInt64 then (
                            some (.inl ((v4 + 6), x98.2))) else (
                            none))) else (
                        none)) else (
                      if ((X.2 v4.toNatClampNeg) &&& 63) = 10 then (
                        zg (zb (v4 + 1) X.1) <|
                          zg (zb (v4 + 2) X.1) <|
                          zg (zb (v4 + 3) X.1) <|
                          (f_L_by h (X.2 (v4 + 1).toNatClampNeg) (X.2 (v4 + 2).toNatClampNeg) (X.2 (v4 + 3).toNatClampNeg)).bind fun x107 =>
                          zg (zb (v4 + 1) X.1) <|
                          zg (zb (v4 + 2) X.1) <|
                          zg (zb (v4 + 3) X.1) <|
                          (f_Mod_by x107.2 (X.2 (v4 + 1).toNatClampNeg) (X.2 (v4 + 2).toNatClampNeg) (X.2 (v4 + 3).toNatClampNeg)).bind fun x111 =>
                          (f_Mod_thrown x111.2).bind fun x112 =>
                          if x112 = x107.1 then (
                          if ¬ x107.1 = 0 then (
                            some (.inl ((v4 + 6), x111.2))) else (
                            if (x111.2.2.1 380 0) = x111.1.toInt64 then (
                              some (.inl ((v4 + 6), x111.2))) else (
                              none))) else (
                          none)) else (
                        if ((X.2 v4.toNatClampNeg) &&& 63) = 11 then (
                          zg (zb (v4 + 1) X.1) <|
                            zg (zb (v4 + 2) X.1) <|
                            (f_L_program h (X.2 (v4 + 1).toNatClampNeg) (X.2 (v4 + 2).toNatClampNeg)).bind fun x119 =>
                            zg (zb (v4 + 1) X.1) <|
                            zg (zb (v4 + 2) X.1) <|
                            (f_Mod_program x119.2 (X.2 (v4 + 1).toNatClampNeg) (X.2 (v4 + 2).toNatClampNeg)).bind fun x122 =>
                            (f_Mod_thrown x122.2).bind fun x123 =>
                            if x123 = x119.1 then (
                            if ¬ x119.1 = 0 then (
                              some (.inl ((v4 + 6), x122.2))) else (
                              if (x122.2.2.1 380 0) = x122.1.toInt64 then (
                                some (.inl ((v4 + 6), x122.2))) else (
                                none))) else (
                            none)) else (
                          if ((X.2 v4.toNatClampNeg) &&& 63) = 12 then (
                            zg (zb (v4 + 1) X.1) <|
                              zg (zb (v4 + 2) X.1) <|
                              (f_L_order h (X.2 (v4 + 1).toNatClampNeg) (X.2 (v4 + 2).toNatClampNeg)).bind fun x130 =>
                              zg (zb (v4 + 1) X.1) <|
                              zg (zb (v4 + 2) X.1) <|
                              (f_Mod_order x130.2 (X.2 (v4 + 1).toNatClampNeg) (X.2 (v4 + 2).toNatClampNeg)).bind fun x133 =>
                              (f_Mod_thrown x133.2).bind fun x134 =>
                              if x134 = x130.1 then (
                              if ¬ x130.1 = 0 then (
                                some (.inl ((v4 + 6), x133.2))) else (
                                if (x133.2.2.1 380 0) = x133.1.toInt64 then (
                                  some (.inl ((v4 + 6), x133.2))) else (
                                  none))) else (
                              none)) else (
                            if ((X.2 v4.toNatClampNeg) &&& 63) = 13 then (
                              zg (zb (v4 + 1) X.1) <|
                                (f_L_pack h (X.2 (v4 + 1).toNatClampNeg)).bind fun x140 =>
                                zg (zb (v4 + 1) X.1) <|
                                (f_Mod_pack x140.2 (X.2 (v4 + 1).toNatClampNeg)).bind fun x142 =>
                                (f_Mod_thrown x142.2).bind fun x143 =>
                                if x143 = x140.1 then (
                                if ¬ x140.1 = 0 then (
                                  some (.inl ((v4 + 6), x142.2))) else (
                                  if (x142.2.2.1 380 0) = x142.1.toInt64 then (
                                    some (.inl ((v4 + 6), x142.2))) else (
                                    none))) else (
                                none)) else (
                              if ((X.2 v4.toNatClampNeg) &&& 63) = 14 then (
                                zg (zb (v4 + 1) X.1) <|
                                  zg (zb (v4 + 2) X.1) <|
                                  (f_Main_put h (X.2 (v4 + 1).toNatClampNeg) (X.2 (v4 + 2).toNatClampNeg)).bind fun x150 =>
                                  zg (zb (v4 + 1) X.1) <|
                                  zg (zb (v4 + 2) X.1) <|
                                  (f_Mod_put x150.2 (X.2 (v4 + 1).toNatClampNeg) (X.2 (v4 + 2).toNatClampNeg)).bind fun x153 =>
                                  if x150.1 = x153.1 then (
                                  some (.inl ((v4 + 6), x153.2))) else (
                                  none)) else (
                                if ((X.2 v4.toNatClampNeg) &&& 63) = 15 then (
                                  zg (zb (v4 + 1) X.1) <|
                                    (f_Main_shift h (X.2 (v4 + 1).toNatClampNeg)).bind fun x157 =>
                                    zg (zb (v4 + 1) X.1) <|
                                    (f_Mod_shift x157.2 (X.2 (v4 + 1).toNatClampNeg)).bind fun x159 =>
                                    if x157.1 = x159.1 then (
                                    some (.inl ((v4 + 6), x159.2))) else (
                                    none)) else (
                                  if ((X.2 v4.toNatClampNeg) &&& 63) = 16 then (
                                    (f_Main_take h).bind fun x162 =>
                                      (f_Mod_take x162.2).bind fun x163 =>
                                      if x162.1 = x163.1 then (
                                      some (.inl ((v4 + 6), x163.2))) else (
                                      none)) else (
                                    if ((X.2 v4.toNatClampNeg) &&& 63) = 17 then (
                                      zg (zb (v4 + 1) X.1) <|
                                        (f_Main_load h (X.2 (v4 + 1).toNatClampNeg)).bind fun x167 =>
                                        zg (zb (v4 + 1) X.1) <|
                                        (f_Mod_load x167.2 (X.2 (v4 + 1).toNatClampNeg)).bind fun x169 =>
                                        if x167.1 = x169.1 then (
                                        some (.inl ((v4 + 6), x169.2))) else (
                                        none)) else (
                                      if ((X.2 v4.toNatClampNeg) &&& 63) = 18 then (
                                        (f_Main_apply h).bind fun x172 =>
                                          (f_Mod_apply x172.2).bind fun x173 =>
                                          if x172.1 = x173.1 then (
                                          some (.inl ((v4 + 6), x173.2))) else (
                                          none)) else (
                                        if ((X.2 v4.toNatClampNeg) &&& 63) = 19 then (
                                          zg (zb (v4 + 1) X.1) <|
                                            (f_L_defect h (X.2 (v4 + 1).toNatClampNeg)).bind fun x177 =>
                                            zg (zb (v4 + 1) X.1) <|
                                            (f_Mod_defect x177.2 (X.2 (v4 + 1).toNatClampNeg)).bind fun x179 =>
                                            (f_Mod_thrown x179.2).bind fun x180 =>
                                            if x180 = x177.1 then (
                                            if ¬ x177.1 = 0 then (
                                              some (.inl ((v4 + 6), x179.2))) else (
                                              if (x179.2.2.1 380 0) = x179.1.toInt64 then (
                                                some (.inl ((v4 + 6), x179.2))) else (
                                                none))) else (
                                            none)) else (
                                          if ((X.2 v4.toNatClampNeg) &&& 63) = 20 then (
                                            zg (zb (v4 + 1) X.1) <|
                                              (f_Main_fill h (X.2 (v4 + 1).toNatClampNeg)).bind fun x186 =>
                                              zg (zb (v4 + 1) X.1) <|
                                              (f_Mod_fill x186.2 (X.2 (v4 + 1).toNatClampNeg)).bind fun x188 =>
                                              if x186.1 = x188.1 then (
                                              some (.inl ((v4 + 6), x188.2))) else (
                                              none)) else (
                                            if ((X.2 v4.toNatClampNeg) &&& 63) = 21 then (
                                              zg (zb (v4 + 1) X.1) <|
                                                (f_Main_pick h (X.2 (v4 + 1).toNatClampNeg)).bind fun x192 =>
                                                zg (zb (v4 + 1) X.1) <|
                                                (f_Mod_pick x192.2 (X.2 (v4 + 1).toNatClampNeg)).bind fun x194 =>
                                                if x192.1 = x194.1 then (
                                                some (.inl ((v4 + 6), x194.2))) else (
                                                none)) else (
                                              if ((X.2 v4.toNatClampNeg) &&& 63) = 22 then (
                                                (f_Main_undo h).bind fun x197 =>
                                                  (f_Mod_undo x197.2).bind fun x198 =>
                                                  if x197.1 = x198.1 then (
                                                  some (.inl ((v4 + 6), x198.2))) else (
                                                  none)) else (
                                                if ((X.2 v4.toNatClampNeg) &&& 63) = 23 then (
                                                  zg (zb (v4 + 1) X.1) <|
                                                    zg (zb (v4 + 2) X.1) <|
                                                    zg (zb (v4 + 3) X.1) <|
                                                    (f_Main_note h (X.2 (v4 + 1).toNatClampNeg) (X.2 (v4 + 2).toNatClampNeg) (X.2 (v4 + 3).toNatClampNeg)).bind fun x204 =>
                                                    zg (zb (v4 + 1) X.1) <|
                                                    zg (zb (v4 + 2) X.1) <|
                                                    zg (zb (v4 + 3) X.1) <|
                                                    (f_Mod_note x204.2 (X.2 (v4 + 1).toNatClampNeg) (X.2 (v4 + 2).toNatClampNeg) (X.2 (v4 + 3).toNatClampNeg)).bind fun x208 =>
                                                    if x204.1 = x208.1 then (
                                                    some (.inl ((v4 + 6), x208.2))) else (
                                                    none)) else (
                                                  if ((X.2 v4.toNatClampNeg) &&& 63) = 24 then (
                                                    zg (zb (v4 + 1) X.1) <|
                                                      (f_L_fits h (X.2 (v4 + 1).toNatClampNeg)).bind fun x212 =>
                                                      zg (zb (v4 + 1) X.1) <|
                                                      (f_Mod_fits x212.2 (X.2 (v4 + 1).toNatClampNeg)).bind fun x214 =>
                                                      (f_Mod_thrown x214.2).bind fun x215 =>
                                                      if x215 = x212.1 then (
                                                      if ¬ x212.1 = 0 then (
                                                        some (.inl ((v4 + 6), x214.2))) else (
                                                        if (x214.2.2.1 380 0) = x214.1.toInt64 then (
                                                          some (.inl ((v4 + 6), x214.2))) else (
                                                          none))) else (
                                                      none)) else (
                                                    if ((X.2 v4.toNatClampNeg) &&& 63) = 25 then (
                                                      zg (zb (v4 + 1) X.1) <|
                                                        (f_L_look h (X.2 (v4 + 1).toNatClampNeg)).bind fun x221 =>
                                                        zg (zb (v4 + 1) X.1) <|
                                                        (f_Mod_look x221.2 (X.2 (v4 + 1).toNatClampNeg)).bind fun x223 =>
                                                        (f_Mod_thrown x223.2).bind fun x224 =>
                                                        if x224 = x221.1 then (
                                                        if ¬ x221.1 = 0 then (
                                                          some (.inl ((v4 + 6), x223.2))) else (
                                                          if (x223.2.2.1 380 0) = x223.1.toInt64 then (
                                                            some (.inl ((v4 + 6), x223.2))) else (
                                                            none))) else (
                                                        none)) else (
                                                      if ((X.2 v4.toNatClampNeg) &&& 63) = 26 then (
                                                        (f_Main_forget h).bind fun x229 =>
                                                          (f_Mod_forget x229).bind fun x230 =>
                                                          some (.inl ((v4 + 6), x230))) else (
                                                        if ((X.2 v4.toNatClampNeg) &&& 63) = 27 then (
                                                          zg (zb (v4 + 1) X.1) <|
                                                            (f_L_behind h (X.2 (v4 + 1).toNatClampNeg)).bind fun x233 =>
                                                            zg (zb (v4 + 1) X.1) <|
                                                            (f_Mod_behind x233.2 (X.2 (v4 + 1).toNatClampNeg)).bind fun x235 =>
                                                            (f_Mod_thrown x235.2).bind fun x236 =>
                                                            if x236 = x233.1 then (
                                                            if ¬ x233.1 = 0 then (
                                                              some (.inl ((v4 + 6), x235.2))) else (
                                                              if (x235.2.2.1 380 0) = x235.1.toInt64 then (
                                                                some (.inl ((v4 + 6), x235.2))) else (
                                                                none))) else (
                                                            none)) else (
                                                          if ((X.2 v4.toNatClampNeg) &&& 63) = 28 then (
                                                            (f_Main_back h).bind fun x241 =>
                                                              (f_Mod_back h).bind fun x242 =>
                                                              if x241 = x242.1 then (
                                                              some (.inl ((v4 + 6), x242.2))) else (
                                                              none)) else (
                                                            if ((X.2 v4.toNatClampNeg) &&& 63) = 29 then (
                                                              zg (zb (v4 + 1) X.1) <|
                                                                (f_L_tells h (X.2 (v4 + 1).toNatClampNeg)).bind fun x246 =>
                                                                zg (zb (v4 + 1) X.1) <|
                                                                (f_Mod_tells x246.2 (X.2 (v4 + 1).toNatClampNeg)).bind fun x248 =>
                                                                (f_Mod_thrown x248.2).bind fun x249 =>
                                                                if x249 = x246.1 then (
                                                                if ¬ x246.1 = 0 then (
                                                                  some (.inl ((v4 + 6), x248.2))) else (
                                                                  if (x248.2.2.1 380 0) = x248.1.toInt64 then (
                                                                    some (.inl ((v4 + 6), x248.2))) else (
                                                                    none))) else (
                                                                none)) else (
                                                              if ((X.2 v4.toNatClampNeg) &&& 63) = 30 then (
                                                                zg (zb (v4 + 1) X.1) <|
                                                                  zg (zb (v4 + 2) X.1) <|
                                                                  zg (zb (v4 + 3) X.1) <|
                                                                  (f_L_years h (X.2 (v4 + 1).toNatClampNeg) (X.2 (v4 + 2).toNatClampNeg) (X.2 (v4 + 3).toNatClampNeg)).bind fun x257 =>
                                                                  zg (zb (v4 + 1) X.1) <|
                                                                  zg (zb (v4 + 2) X.1) <|
                                                                  zg (zb (v4 + 3) X.1) <|
                                                                  (f_Mod_years x257.2 (X.2 (v4 + 1).toNatClampNeg) (X.2 (v4 + 2).toNatClampNeg) (X.2 (v4 + 3).toNatClampNeg)).bind fun x261 =>
                                                                  (f_Mod_thrown x261.2).bind fun x262 =>
                                                                  if x262 = x257.1 then (
                                                                  if ¬ x257.1 = 0 then (
                                                                    some (.inl ((v4 + 6), x261.2))) else (
                                                                    if (x261.2.2.1 380 0) = x261.1.toInt64 then (
                                                                      some (.inl ((v4 + 6), x261.2))) else (
                                                                      none))) else (
                                                                  none)) else (
                                                                if ((X.2 v4.toNatClampNeg) &&& 63) = 31 then (
                                                                  (f_Main_image h).bind fun x267 =>
                                                                    (f_Mod_image x267).bind fun x268 =>
                                                                    some (.inl ((v4 + 6), x268))) else (
                                                                  if ((X.2 v4.toNatClampNeg) &&& 63) = 32 then (
                                                                    (f_Main_restore h).bind fun x270 =>
                                                                      (f_Mod_restore x270.2).bind fun x271 =>
                                                                      if x270.1 = x271.1 then (
                                                                      some (.inl ((v4 + 6), x271.2))) else (
                                                                      none)) else (
                                                                    some (.inl ((v4 + 6), h))))))))))))))))))))))))))))))))))))
