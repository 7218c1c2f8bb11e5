/-! the words that the methods need; field links; by wip/whole/gen.py -/
theorem w_604 : (Jvm.Cond.methodLink "ScanPackerModel" (419 : Nat) ({ cls := "ScanPackerModel", name := "agree", desc := "(II)Z" } : Jvm.MethodName)) ∈ zW := zW_of 1927 (by decide +kernel) (by decide +kernel)
theorem w_605 : (Jvm.Cond.instanceMethod ({ cls := "ScanPackerModel", name := "agree", desc := "(II)Z" } : Jvm.MethodName)) ∈ zW := zW_of 1929 (by decide +kernel) (by decide +kernel)
theorem w_606 : (Jvm.Cond.selects "ScanPackerModel" ({ cls := "ScanPackerModel", name := "agree", desc := "(II)Z" } : Jvm.MethodName) ({ cls := "ScanPackerModel", name := "agree", desc := "(II)Z" } : Jvm.MethodName)) ∈ zW := zW_of 105 (by decide +kernel) (by decide +kernel)
theorem w_607 : (Jvm.Cond.methodLink "ScanPackerModel" (422 : Nat) ({ cls := "ScanPackerModel", name := "packs", desc := "(III)Z" } : Jvm.MethodName)) ∈ zW := zW_of 1923 (by decide +kernel) (by decide +kernel)
theorem w_608 : (Jvm.Cond.instanceMethod ({ cls := "ScanPackerModel", name := "packs", desc := "(III)Z" } : Jvm.MethodName)) ∈ zW := zW_of 1925 (by decide +kernel) (by decide +kernel)
theorem w_609 : (Jvm.Cond.selects "ScanPackerModel" ({ cls := "ScanPackerModel", name := "packs", desc := "(III)Z" } : Jvm.MethodName) ({ cls := "ScanPackerModel", name := "packs", desc := "(III)Z" } : Jvm.MethodName)) ∈ zW := zW_of 104 (by decide +kernel) (by decide +kernel)
def T_Mod2 : List (Nat × Nat × Nat × Nat) := [(1437, 21, 11, 0), (1438, 37, 11, 1), (1440, 40, 11, 3), (1441, 44, 11, 4), (1442, 47, 11, 5), (1443, 50, 11, 6), (1444, 53, 11, 7), (1445, 56, 11, 8), (1446, 59, 11, 9), (1447, 62, 11, 10), (1448, 65, 11, 11), (1449, 68, 11, 12), (1450, 71, 11, 13), (1451, 74, 11, 14), (1452, 77, 11, 15), (1453, 80, 11, 16), (1463, 83, 11, 26), (1464, 87, 11, 27), (1465, 90, 11, 28), (1466, 93, 11, 29), (1467, 96, 11, 30), (1468, 100, 11, 31), (1469, 103, 11, 32), (1470, 106, 11, 33), (1471, 109, 11, 34), (1472, 112, 11, 35), (1473, 115, 11, 36), (1474, 118, 11, 37), (1475, 121, 11, 38), (1476, 124, 11, 39), (1478, 127, 11, 41), (1479, 130, 11, 42), (1480, 133, 11, 43), (1481, 136, 11, 44), (1483, 139, 11, 46), (1485, 142, 11, 48), (1486, 145, 11, 49), (1487, 148, 11, 50), (1488, 151, 11, 51), (1489, 154, 11, 52), (1491, 157, 11, 54), (1495, 160, 11, 58), (1496, 163, 11, 59), (1497, 166, 11, 60), (1498, 169, 11, 61), (1499, 172, 11, 62), (1500, 175, 11, 63), (1439, 181, 11, 2), (1454, 184, 11, 17), (1456, 187, 11, 19), (1455, 190, 11, 18), (1459, 197, 11, 22), (1457, 200, 11, 20), (1458, 210, 11, 21), (1460, 213, 11, 23), (1461, 216, 11, 24), (1462, 219, 11, 25), (1482, 301, 11, 45), (1484, 304, 11, 47), (1492, 307, 11, 55), (1477, 361, 11, 40), (1490, 470, 11, 53), (1493, 484, 11, 56), (1494, 487, 11, 57)]
theorem t_Mod2 : zTok "ScanPackerModel" (T_Mod2.map (·.2)) := zTok_of T_Mod2 (by decide +kernel)
def m_Mod_agree : zM := (({ cls := "ScanPackerModel", name := "agree", desc := "(II)Z" } : Jvm.MethodName), prog_13_method_76_code, 7, (Option.some Jvm.ClassFile.FieldType.boolean), [], 1)
theorem ok_Mod_agree : zMok m_Mod_agree := ⟨by decide +kernel, zW_of 1930 (by decide +kernel) (by decide +kernel), zW_of 134 (by decide +kernel) (by decide +kernel), by decide, by decide +kernel, by decide +kernel⟩
def f_Mod_agree_j72 (h : zH) (v1 : Int32) (v2 : Int32) (v4 : Int32) (t0 : Int32) : Option ((Int32 × Int32) ⊕ (Int32)) :=
  some (.inl (t0, (v4 + 1)))
def f_Mod_agree_b5 (h : zH) (v1 : Int32) (v2 : Int32) (v3 : Int32) (v4 : Int32) : Option ((Int32 × Int32) ⊕ (Int32)) :=
  if (h.1 336 0) ≤ v4 then (
  some (.inr v3)) else (
  zg (zb ((6 * v1) + v4) 264) <|
    zg (zb ((6 * v2) + v4) 264) <|
    if v3 = 0 then (
    f_Mod_agree_j72 h v1 v2 v4 0) else (
    if (h.1 355 ((6 * v1) + v4).toNatClampNeg) = 2 then (
      f_Mod_agree_j72 h v1 v2 v4 1) else (
      if (h.1 355 ((6 * v2) + v4).toNatClampNeg) = 2 then (
        f_Mod_agree_j72 h v1 v2 v4 1) else (
        if ¬ (h.1 355 ((6 * v1) + v4).toNatClampNeg) = (h.1 355 ((6 * v2) + v4).toNatClampNeg) then (
          f_Mod_agree_j72 h v1 v2 v4 0) else (
          f_Mod_agree_j72 h v1 v2 v4 1)))))
def f_Mod_agree (h : zH) (v1 : Int32) (v2 : Int32) : Option (Int32) :=
  (zit zFU (fun s : Int32 × Int32 => f_Mod_agree_b5 h v1 v2 s.1 s.2) (1, 0)).bind (fun y9 =>
  zg (zbo y9) (some y9))
set_option maxRecDepth 20000 in
theorem k_Mod_agree_j72 {l : Launch} {X : zX} (hl : l.stackTraces = false) {h : zH} {v1 : Int32} {v2 : Int32} {v4 : Int32} {t0 : Int32} : zGl l m_Mod_agree X 0 0 (f_Mod_agree_j72 h v1 v2 v4 t0) (72, [some (zr (some (11, 333))), some (zi v1), some (zi v2), none, some (zi v4), none, none], [zi t0], h) (Sum.elim (fun s : Int32 × Int32 => .inl (5, [some (zr (some (11, 333))), some (zi v1), some (zi v2), some (zi s.1), some (zi s.2), none, none], [], h)) (fun y : Int32 => .inl (79, [none, none, none, some (zi y), none, none, none], [], h))) := by
  unfold f_Mod_agree_j72
  refine zG_run t_Mod2 [(.istore_n 3, 0, 0), (.iinc 4 1, 0, 0), (.goto (-71), 0, 0)] (5, [some (zr (some (11, 333))), some (zi v1), some (zi v2), some (zi t0), some (zi (v4 + 1)), none, none], [], h) (by decide +kernel) rfl ?_
  exact zG_end (L' := [some (zr (some (11, 333))), some (zi v1), some (zi v2), some (zi t0), some (zi (v4 + 1)), none, none]) rfl (And.intro rfl (And.intro rfl (And.intro rfl (And.intro rfl (And.intro rfl trivial)))))
set_option maxRecDepth 20000 in
theorem k_Mod_agree_b5 {l : Launch} {X : zX} (hl : l.stackTraces = false) {h : zH} {v1 : Int32} {v2 : Int32} {v3 : Int32} {v4 : Int32} : zGl l m_Mod_agree X 0 0 (f_Mod_agree_b5 h v1 v2 v3 v4) (5, [some (zr (some (11, 333))), some (zi v1), some (zi v2), some (zi v3), some (zi v4), none, none], [], h) (Sum.elim (fun s : Int32 × Int32 => .inl (5, [some (zr (some (11, 333))), some (zi v1), some (zi v2), some (zi s.1), some (zi s.2), none, none], [], h)) (fun y : Int32 => .inl (79, [none, none, none, some (zi y), none, none, none], [], h))) := by
  unfold f_Mod_agree_b5
  refine zG_run t_Mod2 [(.iload 4, 0, 0), (.aload_n 0, 0, 0), (.getfield 40, 11, 3), (.iconst 0, 0, 0)] (12, [some (zr (some (11, 333))), some (zi v1), some (zi v2), some (zi v3), some (zi v4), none, none], [zi 0, zr (some (62, 336)), zi v4], h) (by decide +kernel) rfl ?_
  refine zG_aldc (v := zi (h.1 336 0)) rfl (by decide +kernel) (by decide +kernel) rfl ?_
  refine zG_icmp (op := .ge) (off := 66) (tgt := 79) (by decide +kernel) rfl Iff.rfl (fun c7 => ?_) (fun c7 => ?_)
  · exact zG_end (L' := [none, none, none, some (zi v3), none, none, none]) rfl (And.intro rfl trivial)
  · refine zG_run t_Mod2 [(.aload_n 0, 0, 0), (.getfield 103, 11, 32), (.bipush 6, 0, 0), (.iload_n 1, 0, 0), (.imul, 0, 0), (.iload 4, 0, 0), (.iadd, 0, 0)] (27, [some (zr (some (11, 333))), some (zi v1), some (zi v2), some (zi v3), some (zi v4), none, none], [zi ((6 * v1) + v4), zr (some (81, 355))], h) (by decide +kernel) rfl ?_
    refine zG_ald (v := zi (h.1 355 ((6 * v1) + v4).toNatClampNeg)) (n := 264) rfl (by decide +kernel) rfl rfl fun hb1 => ?_
    refine zG_run t_Mod2 [(.istore 5, 0, 0), (.aload_n 0, 0, 0), (.getfield 103, 11, 32), (.bipush 6, 0, 0), (.iload_n 2, 0, 0), (.imul, 0, 0), (.iload 4, 0, 0), (.iadd, 0, 0)] (41, [some (zr (some (11, 333))), some (zi v1), some (zi v2), some (zi v3), some (zi v4), some (zi (h.1 355 ((6 * v1) + v4).toNatClampNeg)), none], [zi ((6 * v2) + v4), zr (some (81, 355))], h) (by decide +kernel) rfl ?_
    refine zG_ald (v := zi (h.1 355 ((6 * v2) + v4).toNatClampNeg)) (n := 264) rfl (by decide +kernel) rfl rfl fun hb2 => ?_
    refine zG_run t_Mod2 [(.istore 6, 0, 0), (.iload_n 3, 0, 0)] (45, [some (zr (some (11, 333))), some (zi v1), some (zi v2), some (zi v3), some (zi v4), some (zi (h.1 355 ((6 * v1) + v4).toNatClampNeg)), some (zi (h.1 355 ((6 * v2) + v4).toNatClampNeg))], [zi v3], h) (by decide +kernel) rfl ?_
    refine zG_if (op := .eq) (off := 26) (tgt := 71) (by decide +kernel) rfl Iff.rfl (fun c6 => ?_) (fun c6 => ?_)
    · refine zG_run t_Mod2 [(.iconst 0, 0, 0)] (72, [some (zr (some (11, 333))), some (zi v1), some (zi v2), some (zi v3), some (zi v4), some (zi (h.1 355 ((6 * v1) + v4).toNatClampNeg)), some (zi (h.1 355 ((6 * v2) + v4).toNatClampNeg))], [zi 0], h) (by decide +kernel) rfl ?_
      exact zG_forget (L' := [some (zr (some (11, 333))), some (zi v1), some (zi v2), none, some (zi v4), none, none]) (And.intro rfl (And.intro rfl (And.intro rfl (And.intro rfl trivial)))) (k_Mod_agree_j72 hl)
    · refine zG_run t_Mod2 [(.iload 5, 0, 0), (.iconst 2, 0, 0)] (51, [some (zr (some (11, 333))), some (zi v1), some (zi v2), some (zi v3), some (zi v4), some (zi (h.1 355 ((6 * v1) + v4).toNatClampNeg)), some (zi (h.1 355 ((6 * v2) + v4).toNatClampNeg))], [zi 2, zi (h.1 355 ((6 * v1) + v4).toNatClampNeg)], h) (by decide +kernel) rfl ?_
      refine zG_icmp (op := .eq) (off := 16) (tgt := 67) (by decide +kernel) rfl Iff.rfl (fun c5 => ?_) (fun c5 => ?_)
      · refine zG_run t_Mod2 [(.iconst 1, 0, 0), (.goto 4, 0, 0)] (72, [some (zr (some (11, 333))), some (zi v1), some (zi v2), some (zi v3), some (zi v4), some (zi (h.1 355 ((6 * v1) + v4).toNatClampNeg)), some (zi (h.1 355 ((6 * v2) + v4).toNatClampNeg))], [zi 1], h) (by decide +kernel) rfl ?_
        exact zG_forget (L' := [some (zr (some (11, 333))), some (zi v1), some (zi v2), none, some (zi v4), none, none]) (And.intro rfl (And.intro rfl (And.intro rfl (And.intro rfl trivial)))) (k_Mod_agree_j72 hl)
      · refine zG_run t_Mod2 [(.iload 6, 0, 0), (.iconst 2, 0, 0)] (57, [some (zr (some (11, 333))), some (zi v1), some (zi v2), some (zi v3), some (zi v4), some (zi (h.1 355 ((6 * v1) + v4).toNatClampNeg)), some (zi (h.1 355 ((6 * v2) + v4).toNatClampNeg))], [zi 2, zi (h.1 355 ((6 * v2) + v4).toNatClampNeg)], h) (by decide +kernel) rfl ?_
        refine zG_icmp (op := .eq) (off := 10) (tgt := 67) (by decide +kernel) rfl Iff.rfl (fun c4 => ?_) (fun c4 => ?_)
        · refine zG_run t_Mod2 [(.iconst 1, 0, 0), (.goto 4, 0, 0)] (72, [some (zr (some (11, 333))), some (zi v1), some (zi v2), some (zi v3), some (zi v4), some (zi (h.1 355 ((6 * v1) + v4).toNatClampNeg)), some (zi (h.1 355 ((6 * v2) + v4).toNatClampNeg))], [zi 1], h) (by decide +kernel) rfl ?_
          exact zG_forget (L' := [some (zr (some (11, 333))), some (zi v1), some (zi v2), none, some (zi v4), none, none]) (And.intro rfl (And.intro rfl (And.intro rfl (And.intro rfl trivial)))) (k_Mod_agree_j72 hl)
        · refine zG_run t_Mod2 [(.iload 5, 0, 0), (.iload 6, 0, 0)] (64, [some (zr (some (11, 333))), some (zi v1), some (zi v2), some (zi v3), some (zi v4), some (zi (h.1 355 ((6 * v1) + v4).toNatClampNeg)), some (zi (h.1 355 ((6 * v2) + v4).toNatClampNeg))], [zi (h.1 355 ((6 * v2) + v4).toNatClampNeg), zi (h.1 355 ((6 * v1) + v4).toNatClampNeg)], h) (by decide +kernel) rfl ?_
          refine zG_icmp (op := .ne) (off := 7) (tgt := 71) (by decide +kernel) rfl Iff.rfl (fun c3 => ?_) (fun c3 => ?_)
          · refine zG_run t_Mod2 [(.iconst 0, 0, 0)] (72, [some (zr (some (11, 333))), some (zi v1), some (zi v2), some (zi v3), some (zi v4), some (zi (h.1 355 ((6 * v1) + v4).toNatClampNeg)), some (zi (h.1 355 ((6 * v2) + v4).toNatClampNeg))], [zi 0], h) (by decide +kernel) rfl ?_
            exact zG_forget (L' := [some (zr (some (11, 333))), some (zi v1), some (zi v2), none, some (zi v4), none, none]) (And.intro rfl (And.intro rfl (And.intro rfl (And.intro rfl trivial)))) (k_Mod_agree_j72 hl)
          · refine zG_run t_Mod2 [(.iconst 1, 0, 0), (.goto 4, 0, 0)] (72, [some (zr (some (11, 333))), some (zi v1), some (zi v2), some (zi v3), some (zi v4), some (zi (h.1 355 ((6 * v1) + v4).toNatClampNeg)), some (zi (h.1 355 ((6 * v2) + v4).toNatClampNeg))], [zi 1], h) (by decide +kernel) rfl ?_
            exact zG_forget (L' := [some (zr (some (11, 333))), some (zi v1), some (zi v2), none, some (zi v4), none, none]) (And.intro rfl (And.intro rfl (And.intro rfl (And.intro rfl trivial)))) (k_Mod_agree_j72 hl)
set_option maxRecDepth 20000 in
theorem k_Mod_agree {l : Launch} {X : zX} (hl : l.stackTraces = false) {h : zH} {v1 : Int32} {v2 : Int32} : zGl l m_Mod_agree X 0 0 (f_Mod_agree h v1 v2) (0, [some (zr (some (11, 333))), some (zi v1), some (zi v2), none, none, none, none], [], h) (fun x => .inr ((fun a => (.inl (some (zi a)), h) : Int32 → zF) x)) := by
  unfold f_Mod_agree
  refine zG_run t_Mod2 [(.iconst 1, 0, 0), (.istore_n 3, 0, 0), (.iconst 0, 0, 0), (.istore 4, 0, 0)] (5, [some (zr (some (11, 333))), some (zi v1), some (zi v2), some (zi 1), some (zi 0), none, none], [], h) (by decide +kernel) rfl ?_
  refine zG_forget (L' := [some (zr (some (11, 333))), some (zi v1), some (zi v2), some (zi 1), some (zi 0), none, none]) (And.intro rfl (And.intro rfl (And.intro rfl (And.intro rfl (And.intro rfl trivial))))) ?_
  refine zG_bind (fun y : Int32 => (79, [none, none, none, some (zi y), none, none, none], [], h)) (zG_iter (fun s : Int32 × Int32 => (5, [some (zr (some (11, 333))), some (zi v1), some (zi v2), some (zi s.1), some (zi s.2), none, none], [], h)) fun s => k_Mod_agree_b5 hl) (fun y9 => ?_)
  refine zG_run t_Mod2 [(.iload_n 3, 0, 0)] (80, [none, none, none, some (zi y9), none, none, none], [zi y9], h) (by decide +kernel) rfl ?_
  refine zG_guard fun hb10 => ?_
  exact zG_ret (r := some (zi y9)) rfl (zrd_z rfl (by decide +kernel) hb10)
theorem c_Mod_agree {l : Launch} {X : zX} (hl : l.stackTraces = false) {h : zH} {v1 : Int32} {v2 : Int32} {x : Int32} (hx : f_Mod_agree h v1 v2 = some x) : zCt l (true, 2) 2 m_Mod_agree X 0 0 [zr (some (11, 333)), zi v1, zi v2] h ((fun a => (.inl (some (zi a)), h) : Int32 → zF) x) :=
  zG_ct (R := fun a => (.inl (some (zi a)), h)) (x := x) ok_Mod_agree hl (Nat.le_of_ble_eq_true rfl) hx (k_Mod_agree hl)
def m_Mod_packs (n : Nat) : zM := (({ cls := "ScanPackerModel", name := "packs", desc := "(III)Z" } : Jvm.MethodName), prog_13_method_77_code, 7, (Option.some Jvm.ClassFile.FieldType.boolean), [], n + 2)
theorem ok_Mod_packs (n : Nat) : zMok (m_Mod_packs n) := ⟨by simp only [m_Mod_packs]; decide +kernel, (show (Jvm.Cond.code ({ cls := "ScanPackerModel", name := "packs", desc := "(III)Z" } : Jvm.MethodName) prog_13_method_77_code (7 : Nat) (Option.some Jvm.ClassFile.FieldType.boolean)) ∈ zW from zW_of 1926 (by decide +kernel) (by decide +kernel)), (show (Jvm.Cond.initialized "ScanPackerModel") ∈ zW from zW_of 134 (by decide +kernel) (by decide +kernel)), by simp only [m_Mod_packs]; decide, by simp only [m_Mod_packs]; decide +kernel, by simp only [m_Mod_packs]; decide +kernel⟩
def f_Mod_packs_j85 (rc : zH → Int32 → Int32 → Int32 → Option (Int32 × zH)) (h : zH) (v1 : Int32) (v2 : Int32) (v3 : Int32) (v4 : Int32) (v6 : Int32) (t0 : Int32) : Option ((Int32 × Int32) ⊕ (Int32)) :=
  some (.inl (t0, (v6 + 1)))
def f_Mod_packs_b33 (rc : zH → Int32 → Int32 → Int32 → Option (Int32 × zH)) (h : zH) (v1 : Int32) (v2 : Int32) (v3 : Int32) (v4 : Int32) (v5 : Int32) (v6 : Int32) : Option ((Int32 × Int32) ⊕ (Int32)) :=
  if v1 ≤ v6 then (
  some (.inr v5)) else (
  if v5 = 0 then (
    f_Mod_packs_j85 rc h v1 v2 v3 v4 v6 0) else (
    zg (zb v6 8) <|
      if ¬ (h.1 366 v6.toNatClampNeg) = v4 then (
      f_Mod_packs_j85 rc h v1 v2 v3 v4 v6 1) else (
      zg (zb (5 + v6) 57) <|
        zg (zb (5 + v1) 57) <|
        (f_Mod_agree h (h.1 347 (5 + v6).toNatClampNeg) (h.1 347 (5 + v1).toNatClampNeg)).bind fun x4 =>
        if x4 = 0 then (
        f_Mod_packs_j85 rc h v1 v2 v3 v4 v6 0) else (
        f_Mod_packs_j85 rc h v1 v2 v3 v4 v6 1))))
def f_Mod_packs_j123 (rc : zH → Int32 → Int32 → Int32 → Option (Int32 × zH)) (h : zH) (v1 : Int32) (v2 : Int32) (v3 : Int32) (v4 : Int32) (t0 : Int32) (t1 : Int32) : Option ((Int32 × zH) ⊕ ((zH) ⊕ (zH))) :=
  (rc h t1 t0 v3).bind fun x13 =>
  if x13.1 = 0 then (
  some (.inl ((v4 + 1), x13.2))) else (
  some (.inr (.inl x13.2)))
def f_Mod_packs_b15 (rc : zH → Int32 → Int32 → Int32 → Option (Int32 × zH)) (h : zH) (v1 : Int32) (v2 : Int32) (v3 : Int32) (v4 : Int32) : Option ((Int32 × zH) ⊕ ((zH) ⊕ (zH))) :=
  if v2 < v4 then (
  some (.inr (.inr h))) else (
  if v3 ≤ v4 then (
    some (.inr (.inr h))) else (
    (zit zFU (fun s : Int32 × Int32 => f_Mod_packs_b33 rc h v1 v2 v3 v4 s.1 s.2) (1, 0)).bind (fun y10 =>
      zg (zb v1 8) <|
        (some (zsI h 366 v1.toNatClampNeg v4)).bind fun h11 =>
        if y10 = 0 then (
        some (.inl ((v4 + 1), h11))) else (
        if ¬ v4 = v2 then (
          f_Mod_packs_j123 rc h11 v1 v2 v3 v4 v2 (v1 + 1)) else (
          f_Mod_packs_j123 rc h11 v1 v2 v3 v4 (v2 + 1) (v1 + 1))))))
def f_Mod_packs_s (rc : zH → Int32 → Int32 → Int32 → Option (Int32 × zH)) (h : zH) (v1 : Int32) (v2 : Int32) (v3 : Int32) : Option (Int32 × zH) :=
  if ¬ v1 = (h.1 347 4) then (
  (zit zFU (fun s : Int32 × zH => f_Mod_packs_b15 rc s.2 v1 v2 v3 s.1) (0, h)).bind (Sum.elim (fun y20 =>
    some (1, y20)) (fun y21 =>
    some (0, y21)))) else (
  some (1, h))
set_option maxRecDepth 20000 in
theorem k_Mod_packs_j85 {l : Launch} {X : zX} (hl : l.stackTraces = false) {n : Nat} {rc : zH → Int32 → Int32 → Int32 → Option (Int32 × zH)} (hrc : ∀ {h : zH} {v1 v2 v3 : Int32} {x : Int32 × zH}, rc h v1 v2 v3 = some x → zCt l (true, 2) 2 (m_Mod_packs n) X 0 0 [zr (some (11, 333)), zi v1, zi v2, zi v3] h ((fun a => (.inl (some (zi a.1)), a.2) : Int32 × zH → zF) x)) {h : zH} {v1 : Int32} {v2 : Int32} {v3 : Int32} {v4 : Int32} {v6 : Int32} {t0 : Int32} : zGl l (m_Mod_packs (n + 1)) X 0 0 (f_Mod_packs_j85 rc h v1 v2 v3 v4 v6 t0) (85, [some (zr (some (11, 333))), some (zi v1), some (zi v2), some (zi v3), some (zi v4), none, some (zi v6)], [zi t0], h) (Sum.elim (fun s : Int32 × Int32 => .inl (33, [some (zr (some (11, 333))), some (zi v1), some (zi v2), some (zi v3), some (zi v4), some (zi s.1), some (zi s.2)], [], h)) (fun y : Int32 => .inl (93, [some (zr (some (11, 333))), some (zi v1), some (zi v2), some (zi v3), some (zi v4), some (zi y), none], [], h))) := by
  unfold f_Mod_packs_j85
  refine zG_run t_Mod2 [(.istore 5, 0, 0), (.iinc 6 1, 0, 0), (.goto (-57), 0, 0)] (33, [some (zr (some (11, 333))), some (zi v1), some (zi v2), some (zi v3), some (zi v4), some (zi t0), some (zi (v6 + 1))], [], h) (by first | decide +kernel | (simp only [m_Mod_packs]; decide +kernel)) rfl ?_
  exact zG_end (L' := [some (zr (some (11, 333))), some (zi v1), some (zi v2), some (zi v3), some (zi v4), some (zi t0), some (zi (v6 + 1))]) rfl (And.intro rfl (And.intro rfl (And.intro rfl (And.intro rfl (And.intro rfl (And.intro rfl (And.intro rfl trivial)))))))
set_option maxRecDepth 20000 in
theorem k_Mod_packs_b33 {l : Launch} {X : zX} (hl : l.stackTraces = false) {n : Nat} {rc : zH → Int32 → Int32 → Int32 → Option (Int32 × zH)} (hrc : ∀ {h : zH} {v1 v2 v3 : Int32} {x : Int32 × zH}, rc h v1 v2 v3 = some x → zCt l (true, 2) 2 (m_Mod_packs n) X 0 0 [zr (some (11, 333)), zi v1, zi v2, zi v3] h ((fun a => (.inl (some (zi a.1)), a.2) : Int32 × zH → zF) x)) {h : zH} {v1 : Int32} {v2 : Int32} {v3 : Int32} {v4 : Int32} {v5 : Int32} {v6 : Int32} : zGl l (m_Mod_packs (n + 1)) X 0 0 (f_Mod_packs_b33 rc h v1 v2 v3 v4 v5 v6) (33, [some (zr (some (11, 333))), some (zi v1), some (zi v2), some (zi v3), some (zi v4), some (zi v5), some (zi v6)], [], h) (Sum.elim (fun s : Int32 × Int32 => .inl (33, [some (zr (some (11, 333))), some (zi v1), some (zi v2), some (zi v3), some (zi v4), some (zi s.1), some (zi s.2)], [], h)) (fun y : Int32 => .inl (93, [some (zr (some (11, 333))), some (zi v1), some (zi v2), some (zi v3), some (zi v4), some (zi y), none], [], h))) := by
  unfold f_Mod_packs_b33
  refine zG_run t_Mod2 [(.iload 6, 0, 0), (.iload_n 1, 0, 0)] (36, [some (zr (some (11, 333))), some (zi v1), some (zi v2), some (zi v3), some (zi v4), some (zi v5), some (zi v6)], [zi v1, zi v6], h) (by first | decide +kernel | (simp only [m_Mod_packs]; decide +kernel)) rfl ?_
  refine zG_icmp (op := .ge) (off := 57) (tgt := 93) (by first | decide +kernel | (simp only [m_Mod_packs]; decide +kernel)) rfl Iff.rfl (fun c8 => ?_) (fun c8 => ?_)
  · exact zG_end (L' := [some (zr (some (11, 333))), some (zi v1), some (zi v2), some (zi v3), some (zi v4), some (zi v5), none]) rfl (And.intro rfl (And.intro rfl (And.intro rfl (And.intro rfl (And.intro rfl (And.intro rfl trivial))))))
  · refine zG_run t_Mod2 [(.iload 5, 0, 0)] (41, [some (zr (some (11, 333))), some (zi v1), some (zi v2), some (zi v3), some (zi v4), some (zi v5), some (zi v6)], [zi v5], h) (by first | decide +kernel | (simp only [m_Mod_packs]; decide +kernel)) rfl ?_
    refine zG_if (op := .eq) (off := 43) (tgt := 84) (by first | decide +kernel | (simp only [m_Mod_packs]; decide +kernel)) rfl Iff.rfl (fun c7 => ?_) (fun c7 => ?_)
    · refine zG_run t_Mod2 [(.iconst 0, 0, 0)] (85, [some (zr (some (11, 333))), some (zi v1), some (zi v2), some (zi v3), some (zi v4), some (zi v5), some (zi v6)], [zi 0], h) (by first | decide +kernel | (simp only [m_Mod_packs]; decide +kernel)) rfl ?_
      exact zG_forget (L' := [some (zr (some (11, 333))), some (zi v1), some (zi v2), some (zi v3), some (zi v4), none, some (zi v6)]) (And.intro rfl (And.intro rfl (And.intro rfl (And.intro rfl (And.intro rfl (And.intro rfl trivial)))))) (k_Mod_packs_j85 hl hrc)
    · refine zG_run t_Mod2 [(.aload_n 0, 0, 0), (.getfield 136, 11, 44), (.iload 6, 0, 0)] (50, [some (zr (some (11, 333))), some (zi v1), some (zi v2), some (zi v3), some (zi v4), some (zi v5), some (zi v6)], [zi v6, zr (some (92, 366))], h) (by first | decide +kernel | (simp only [m_Mod_packs]; decide +kernel)) rfl ?_
      refine zG_ald (v := zi (h.1 366 v6.toNatClampNeg)) (n := 8) rfl (by first | decide +kernel | (simp only [m_Mod_packs]; decide +kernel)) rfl rfl fun hb1 => ?_
      refine zG_run t_Mod2 [(.iload 4, 0, 0)] (53, [some (zr (some (11, 333))), some (zi v1), some (zi v2), some (zi v3), some (zi v4), some (zi v5), some (zi v6)], [zi v4, zi (h.1 366 v6.toNatClampNeg)], h) (by first | decide +kernel | (simp only [m_Mod_packs]; decide +kernel)) rfl ?_
      refine zG_icmp (op := .ne) (off := 27) (tgt := 80) (by first | decide +kernel | (simp only [m_Mod_packs]; decide +kernel)) rfl Iff.rfl (fun c6 => ?_) (fun c6 => ?_)
      · refine zG_run t_Mod2 [(.iconst 1, 0, 0), (.goto 4, 0, 0)] (85, [some (zr (some (11, 333))), some (zi v1), some (zi v2), some (zi v3), some (zi v4), some (zi v5), some (zi v6)], [zi 1], h) (by first | decide +kernel | (simp only [m_Mod_packs]; decide +kernel)) rfl ?_
        exact zG_forget (L' := [some (zr (some (11, 333))), some (zi v1), some (zi v2), some (zi v3), some (zi v4), none, some (zi v6)]) (And.intro rfl (And.intro rfl (And.intro rfl (And.intro rfl (And.intro rfl (And.intro rfl trivial)))))) (k_Mod_packs_j85 hl hrc)
      · refine zG_run t_Mod2 [(.aload_n 0, 0, 0), (.aload_n 0, 0, 0), (.getfield 74, 11, 14), (.iconst 5, 0, 0), (.iload 6, 0, 0), (.iadd, 0, 0)] (65, [some (zr (some (11, 333))), some (zi v1), some (zi v2), some (zi v3), some (zi v4), some (zi v5), some (zi v6)], [zi (5 + v6), zr (some (73, 347)), zr (some (11, 333))], h) (by first | decide +kernel | (simp only [m_Mod_packs]; decide +kernel)) rfl ?_
        refine zG_ald (v := zi (h.1 347 (5 + v6).toNatClampNeg)) (n := 57) rfl (by first | decide +kernel | (simp only [m_Mod_packs]; decide +kernel)) rfl rfl fun hb2 => ?_
        refine zG_run t_Mod2 [(.aload_n 0, 0, 0), (.getfield 74, 11, 14), (.iconst 5, 0, 0), (.iload_n 1, 0, 0), (.iadd, 0, 0)] (73, [some (zr (some (11, 333))), some (zi v1), some (zi v2), some (zi v3), some (zi v4), some (zi v5), some (zi v6)], [zi (5 + v1), zr (some (73, 347)), zi (h.1 347 (5 + v6).toNatClampNeg), zr (some (11, 333))], h) (by first | decide +kernel | (simp only [m_Mod_packs]; decide +kernel)) rfl ?_
        refine zG_ald (v := zi (h.1 347 (5 + v1).toNatClampNeg)) (n := 57) rfl (by first | decide +kernel | (simp only [m_Mod_packs]; decide +kernel)) rfl rfl fun hb3 => ?_
        refine zG_callV (idx := 419) (R := (fun a => (some (zi a), h))) (as := [zi (h.1 347 (5 + v6).toNatClampNeg), zi (h.1 347 (5 + v1).toNatClampNeg)]) (rest := []) (n := 2) (fun a ha => c_Mod_agree hl ha) (by first | decide +kernel | (simp only [m_Mod_packs]; decide +kernel)) ⟨ok_Mod_agree, by simp only [m_Mod_packs, m_Mod_agree]; omega, by decide +kernel⟩ rfl w_604 w_605 w_606 (by decide) rfl rfl rfl (Nat.le_of_ble_eq_true rfl) fun x4 => ?_
        refine zG_if (op := .eq) (off := 7) (tgt := 84) (by first | decide +kernel | (simp only [m_Mod_packs]; decide +kernel)) rfl Iff.rfl (fun c5 => ?_) (fun c5 => ?_)
        · refine zG_run t_Mod2 [(.iconst 0, 0, 0)] (85, [some (zr (some (11, 333))), some (zi v1), some (zi v2), some (zi v3), some (zi v4), some (zi v5), some (zi v6)], [zi 0], h) (by first | decide +kernel | (simp only [m_Mod_packs]; decide +kernel)) rfl ?_
          exact zG_forget (L' := [some (zr (some (11, 333))), some (zi v1), some (zi v2), some (zi v3), some (zi v4), none, some (zi v6)]) (And.intro rfl (And.intro rfl (And.intro rfl (And.intro rfl (And.intro rfl (And.intro rfl trivial)))))) (k_Mod_packs_j85 hl hrc)
        · refine zG_run t_Mod2 [(.iconst 1, 0, 0), (.goto 4, 0, 0)] (85, [some (zr (some (11, 333))), some (zi v1), some (zi v2), some (zi v3), some (zi v4), some (zi v5), some (zi v6)], [zi 1], h) (by first | decide +kernel | (simp only [m_Mod_packs]; decide +kernel)) rfl ?_
          exact zG_forget (L' := [some (zr (some (11, 333))), some (zi v1), some (zi v2), some (zi v3), some (zi v4), none, some (zi v6)]) (And.intro rfl (And.intro rfl (And.intro rfl (And.intro rfl (And.intro rfl (And.intro rfl trivial)))))) (k_Mod_packs_j85 hl hrc)
set_option maxRecDepth 20000 in
theorem k_Mod_packs_j123 {l : Launch} {X : zX} (hl : l.stackTraces = false) {n : Nat} {rc : zH → Int32 → Int32 → Int32 → Option (Int32 × zH)} (hrc : ∀ {h : zH} {v1 v2 v3 : Int32} {x : Int32 × zH}, rc h v1 v2 v3 = some x → zCt l (true, 2) 2 (m_Mod_packs n) X 0 0 [zr (some (11, 333)), zi v1, zi v2, zi v3] h ((fun a => (.inl (some (zi a.1)), a.2) : Int32 × zH → zF) x)) {h : zH} {v1 : Int32} {v2 : Int32} {v3 : Int32} {v4 : Int32} {t0 : Int32} {t1 : Int32} : zGl l (m_Mod_packs (n + 1)) X 0 0 (f_Mod_packs_j123 rc h v1 v2 v3 v4 t0 t1) (123, [some (zr (some (11, 333))), some (zi v1), some (zi v2), some (zi v3), some (zi v4), none, none], [zi t0, zi t1, zr (some (11, 333))], h) (Sum.elim (fun s : Int32 × zH => .inl (15, [some (zr (some (11, 333))), some (zi v1), some (zi v2), some (zi v3), some (zi s.1), none, none], [], s.2)) (Sum.elim (fun y : zH => .inl (130, [none, none, none, none, none, none, none], [], y)) (fun y : zH => .inl (138, [none, none, none, none, none, none, none], [], y)))) := by
  unfold f_Mod_packs_j123
  refine zG_run t_Mod2 [(.iload_n 3, 0, 0)] (124, [some (zr (some (11, 333))), some (zi v1), some (zi v2), some (zi v3), some (zi v4), none, none], [zi v3, zi t0, zi t1, zr (some (11, 333))], h) (by first | decide +kernel | (simp only [m_Mod_packs]; decide +kernel)) rfl ?_
  refine zG_callV (idx := 422) (R := (fun a => (some (zi a.1), a.2))) (as := [zi t1, zi t0, zi v3]) (rest := []) (n := 3) (fun a ha => hrc ha) (by first | decide +kernel | (simp only [m_Mod_packs]; decide +kernel)) ⟨ok_Mod_packs n, by simp only [m_Mod_packs]; omega, by simp only [m_Mod_packs]; decide +kernel⟩ rfl w_607 w_608 w_609 (by decide) rfl rfl rfl (Nat.le_of_ble_eq_true rfl) fun x13 => ?_
  refine zG_if (op := .eq) (off := 5) (tgt := 132) (by first | decide +kernel | (simp only [m_Mod_packs]; decide +kernel)) rfl Iff.rfl (fun c14 => ?_) (fun c14 => ?_)
  · refine zG_run t_Mod2 [(.iinc 4 1, 0, 0), (.goto (-120), 0, 0)] (15, [some (zr (some (11, 333))), some (zi v1), some (zi v2), some (zi v3), some (zi (v4 + 1)), none, none], [], x13.2) (by first | decide +kernel | (simp only [m_Mod_packs]; decide +kernel)) rfl ?_
    exact zG_end (L' := [some (zr (some (11, 333))), some (zi v1), some (zi v2), some (zi v3), some (zi (v4 + 1)), none, none]) rfl (And.intro rfl (And.intro rfl (And.intro rfl (And.intro rfl (And.intro rfl trivial)))))
  · exact zG_end (L' := [none, none, none, none, none, none, none]) rfl (trivial)
set_option maxRecDepth 20000 in
theorem k_Mod_packs_b15 {l : Launch} {X : zX} (hl : l.stackTraces = false) {n : Nat} {rc : zH → Int32 → Int32 → Int32 → Option (Int32 × zH)} (hrc : ∀ {h : zH} {v1 v2 v3 : Int32} {x : Int32 × zH}, rc h v1 v2 v3 = some x → zCt l (true, 2) 2 (m_Mod_packs n) X 0 0 [zr (some (11, 333)), zi v1, zi v2, zi v3] h ((fun a => (.inl (some (zi a.1)), a.2) : Int32 × zH → zF) x)) {h : zH} {v1 : Int32} {v2 : Int32} {v3 : Int32} {v4 : Int32} : zGl l (m_Mod_packs (n + 1)) X 0 0 (f_Mod_packs_b15 rc h v1 v2 v3 v4) (15, [some (zr (some (11, 333))), some (zi v1), some (zi v2), some (zi v3), some (zi v4), none, none], [], h) (Sum.elim (fun s : Int32 × zH => .inl (15, [some (zr (some (11, 333))), some (zi v1), some (zi v2), some (zi v3), some (zi s.1), none, none], [], s.2)) (Sum.elim (fun y : zH => .inl (130, [none, none, none, none, none, none, none], [], y)) (fun y : zH => .inl (138, [none, none, none, none, none, none, none], [], y)))) := by
  unfold f_Mod_packs_b15
  refine zG_run t_Mod2 [(.iload 4, 0, 0), (.iload_n 2, 0, 0)] (18, [some (zr (some (11, 333))), some (zi v1), some (zi v2), some (zi v3), some (zi v4), none, none], [zi v2, zi v4], h) (by first | decide +kernel | (simp only [m_Mod_packs]; decide +kernel)) rfl ?_
  refine zG_icmp (op := .gt) (off := 120) (tgt := 138) (by first | decide +kernel | (simp only [m_Mod_packs]; decide +kernel)) rfl Iff.rfl (fun c18 => ?_) (fun c18 => ?_)
  · exact zG_end (L' := [none, none, none, none, none, none, none]) rfl (trivial)
  · refine zG_run t_Mod2 [(.iload 4, 0, 0), (.iload_n 3, 0, 0)] (24, [some (zr (some (11, 333))), some (zi v1), some (zi v2), some (zi v3), some (zi v4), none, none], [zi v3, zi v4], h) (by first | decide +kernel | (simp only [m_Mod_packs]; decide +kernel)) rfl ?_
    refine zG_icmp (op := .ge) (off := 114) (tgt := 138) (by first | decide +kernel | (simp only [m_Mod_packs]; decide +kernel)) rfl Iff.rfl (fun c17 => ?_) (fun c17 => ?_)
    · exact zG_end (L' := [none, none, none, none, none, none, none]) rfl (trivial)
    · refine zG_run t_Mod2 [(.iconst 1, 0, 0), (.istore 5, 0, 0), (.iconst 0, 0, 0), (.istore 6, 0, 0)] (33, [some (zr (some (11, 333))), some (zi v1), some (zi v2), some (zi v3), some (zi v4), some (zi 1), some (zi 0)], [], h) (by first | decide +kernel | (simp only [m_Mod_packs]; decide +kernel)) rfl ?_
      refine zG_forget (L' := [some (zr (some (11, 333))), some (zi v1), some (zi v2), some (zi v3), some (zi v4), some (zi 1), some (zi 0)]) (And.intro rfl (And.intro rfl (And.intro rfl (And.intro rfl (And.intro rfl (And.intro rfl (And.intro rfl trivial))))))) ?_
      refine zG_bind (fun y : Int32 => (93, [some (zr (some (11, 333))), some (zi v1), some (zi v2), some (zi v3), some (zi v4), some (zi y), none], [], h)) (zG_iter (fun s : Int32 × Int32 => (33, [some (zr (some (11, 333))), some (zi v1), some (zi v2), some (zi v3), some (zi v4), some (zi s.1), some (zi s.2)], [], h)) fun s => k_Mod_packs_b33 hl hrc) (fun y10 => ?_)
      refine zG_run t_Mod2 [(.aload_n 0, 0, 0), (.getfield 136, 11, 44), (.iload_n 1, 0, 0), (.iload 4, 0, 0)] (100, [some (zr (some (11, 333))), some (zi v1), some (zi v2), some (zi v3), some (zi v4), some (zi y10), none], [zi v4, zi v1, zr (some (92, 366))], h) (by first | decide +kernel | (simp only [m_Mod_packs]; decide +kernel)) rfl ?_
      refine zG_guard fun hb12 => ?_
      refine zG_bind (fun y => (101, [some (zr (some (11, 333))), some (zi v1), some (zi v2), some (zi v3), some (zi v4), some (zi y10), none], [], y)) (zG_astc (h' := zsI h 366 v1.toNatClampNeg v4) rfl (by first | decide +kernel | (simp only [m_Mod_packs]; decide +kernel)) hb12 rfl (zG_end (L' := [some (zr (some (11, 333))), some (zi v1), some (zi v2), some (zi v3), some (zi v4), some (zi y10), none]) rfl (And.intro rfl (And.intro rfl (And.intro rfl (And.intro rfl (And.intro rfl (And.intro rfl trivial)))))))) fun h11 => ?_
      refine zG_run t_Mod2 [(.iload 5, 0, 0)] (103, [some (zr (some (11, 333))), some (zi v1), some (zi v2), some (zi v3), some (zi v4), some (zi y10), none], [zi y10], h11) (by first | decide +kernel | (simp only [m_Mod_packs]; decide +kernel)) rfl ?_
      refine zG_if (op := .eq) (off := 29) (tgt := 132) (by first | decide +kernel | (simp only [m_Mod_packs]; decide +kernel)) rfl Iff.rfl (fun c16 => ?_) (fun c16 => ?_)
      · refine zG_run t_Mod2 [(.iinc 4 1, 0, 0), (.goto (-120), 0, 0)] (15, [some (zr (some (11, 333))), some (zi v1), some (zi v2), some (zi v3), some (zi (v4 + 1)), some (zi y10), none], [], h11) (by first | decide +kernel | (simp only [m_Mod_packs]; decide +kernel)) rfl ?_
        exact zG_end (L' := [some (zr (some (11, 333))), some (zi v1), some (zi v2), some (zi v3), some (zi (v4 + 1)), none, none]) rfl (And.intro rfl (And.intro rfl (And.intro rfl (And.intro rfl (And.intro rfl trivial)))))
      · refine zG_run t_Mod2 [(.aload_n 0, 0, 0), (.iload_n 1, 0, 0), (.iconst 1, 0, 0), (.iadd, 0, 0), (.iload 4, 0, 0), (.iload_n 2, 0, 0)] (113, [some (zr (some (11, 333))), some (zi v1), some (zi v2), some (zi v3), some (zi v4), some (zi y10), none], [zi v2, zi v4, zi (v1 + 1), zr (some (11, 333))], h11) (by first | decide +kernel | (simp only [m_Mod_packs]; decide +kernel)) rfl ?_
        refine zG_icmp (op := .ne) (off := 9) (tgt := 122) (by first | decide +kernel | (simp only [m_Mod_packs]; decide +kernel)) rfl Iff.rfl (fun c15 => ?_) (fun c15 => ?_)
        · refine zG_run t_Mod2 [(.iload_n 2, 0, 0)] (123, [some (zr (some (11, 333))), some (zi v1), some (zi v2), some (zi v3), some (zi v4), some (zi y10), none], [zi v2, zi (v1 + 1), zr (some (11, 333))], h11) (by first | decide +kernel | (simp only [m_Mod_packs]; decide +kernel)) rfl ?_
          exact zG_forget (L' := [some (zr (some (11, 333))), some (zi v1), some (zi v2), some (zi v3), some (zi v4), none, none]) (And.intro rfl (And.intro rfl (And.intro rfl (And.intro rfl (And.intro rfl trivial))))) (k_Mod_packs_j123 hl hrc)
        · refine zG_run t_Mod2 [(.iload_n 2, 0, 0), (.iconst 1, 0, 0), (.iadd, 0, 0), (.goto 4, 0, 0)] (123, [some (zr (some (11, 333))), some (zi v1), some (zi v2), some (zi v3), some (zi v4), some (zi y10), none], [zi (v2 + 1), zi (v1 + 1), zr (some (11, 333))], h11) (by first | decide +kernel | (simp only [m_Mod_packs]; decide +kernel)) rfl ?_
          exact zG_forget (L' := [some (zr (some (11, 333))), some (zi v1), some (zi v2), some (zi v3), some (zi v4), none, none]) (And.intro rfl (And.intro rfl (And.intro rfl (And.intro rfl (And.intro rfl trivial))))) (k_Mod_packs_j123 hl hrc)
set_option maxRecDepth 20000 in
theorem k_Mod_packs_s {l : Launch} {X : zX} (hl : l.stackTraces = false) {n : Nat} {rc : zH → Int32 → Int32 → Int32 → Option (Int32 × zH)} (hrc : ∀ {h : zH} {v1 v2 v3 : Int32} {x : Int32 × zH}, rc h v1 v2 v3 = some x → zCt l (true, 2) 2 (m_Mod_packs n) X 0 0 [zr (some (11, 333)), zi v1, zi v2, zi v3] h ((fun a => (.inl (some (zi a.1)), a.2) : Int32 × zH → zF) x)) {h : zH} {v1 : Int32} {v2 : Int32} {v3 : Int32} : zGl l (m_Mod_packs (n + 1)) X 0 0 (f_Mod_packs_s rc h v1 v2 v3) (0, [some (zr (some (11, 333))), some (zi v1), some (zi v2), some (zi v3), none, none, none], [], h) (fun x => .inr ((fun a => (.inl (some (zi a.1)), a.2) : Int32 × zH → zF) x)) := by
  unfold f_Mod_packs_s
  refine zG_run t_Mod2 [(.iload_n 1, 0, 0), (.aload_n 0, 0, 0), (.getfield 74, 11, 14), (.iconst 4, 0, 0)] (6, [some (zr (some (11, 333))), some (zi v1), some (zi v2), some (zi v3), none, none, none], [zi 4, zr (some (73, 347)), zi v1], h) (by first | decide +kernel | (simp only [m_Mod_packs]; decide +kernel)) rfl ?_
  refine zG_aldc (v := zi (h.1 347 4)) rfl (by first | decide +kernel | (simp only [m_Mod_packs]; decide +kernel)) (by first | decide +kernel | (simp only [m_Mod_packs]; decide +kernel)) rfl ?_
  refine zG_icmp (op := .ne) (off := 5) (tgt := 12) (by first | decide +kernel | (simp only [m_Mod_packs]; decide +kernel)) rfl Iff.rfl (fun c22 => ?_) (fun c22 => ?_)
  · refine zG_run t_Mod2 [(.iconst 0, 0, 0), (.istore 4, 0, 0)] (15, [some (zr (some (11, 333))), some (zi v1), some (zi v2), some (zi v3), some (zi 0), none, none], [], h) (by first | decide +kernel | (simp only [m_Mod_packs]; decide +kernel)) rfl ?_
    refine zG_forget (L' := [some (zr (some (11, 333))), some (zi v1), some (zi v2), some (zi v3), some (zi 0), none, none]) (And.intro rfl (And.intro rfl (And.intro rfl (And.intro rfl (And.intro rfl trivial))))) ?_
    refine zG_bind2 (fun y : zH => (130, [none, none, none, none, none, none, none], [], y)) (fun y : zH => (138, [none, none, none, none, none, none, none], [], y)) (zG_iter (fun s : Int32 × zH => (15, [some (zr (some (11, 333))), some (zi v1), some (zi v2), some (zi v3), some (zi s.1), none, none], [], s.2)) fun s => k_Mod_packs_b15 hl hrc) (fun y20 => ?_) (fun y21 => ?_)
    · refine zG_run t_Mod2 [(.iconst 1, 0, 0)] (131, [none, none, none, none, none, none, none], [zi 1], y20) (by first | decide +kernel | (simp only [m_Mod_packs]; decide +kernel)) rfl ?_
      exact zG_ret (r := some (zi 1)) rfl (zrd_z rfl (by first | decide +kernel | (simp only [m_Mod_packs]; decide +kernel)) rfl)
    · refine zG_run t_Mod2 [(.iconst 0, 0, 0)] (139, [none, none, none, none, none, none, none], [zi 0], y21) (by first | decide +kernel | (simp only [m_Mod_packs]; decide +kernel)) rfl ?_
      exact zG_ret (r := some (zi 0)) rfl (zrd_z rfl (by first | decide +kernel | (simp only [m_Mod_packs]; decide +kernel)) rfl)
  · refine zG_run t_Mod2 [(.iconst 1, 0, 0)] (11, [some (zr (some (11, 333))), some (zi v1), some (zi v2), some (zi v3), none, none, none], [zi 1], h) (by first | decide +kernel | (simp only [m_Mod_packs]; decide +kernel)) rfl ?_
    exact zG_ret (r := some (zi 1)) rfl (zrd_z rfl (by first | decide +kernel | (simp only [m_Mod_packs]; decide +kernel)) rfl)
def f_Mod_packs : Nat → zH → Int32 → Int32 → Int32 → Option (Int32 × zH)
  | 0, _, _, _, _ => none
  | n + 1, h, v1, v2, v3 => f_Mod_packs_s (f_Mod_packs n) h v1 v2 v3
theorem c_Mod_packs {l : Launch} {X : zX} (hl : l.stackTraces = false) : ∀ {n : Nat} {h : zH} {v1 v2 v3 : Int32} {x : Int32 × zH}, f_Mod_packs n h v1 v2 v3 = some x → zCt l (true, 2) 2 (m_Mod_packs n) X 0 0 [zr (some (11, 333)), zi v1, zi v2, zi v3] h ((fun a => (.inl (some (zi a.1)), a.2) : Int32 × zH → zF) x)
  | 0, _, _, _, _, _, hx => by cases hx
  | n + 1, h, v1, v2, v3, x, hx => zG_ct (R := fun a => (.inl (some (zi a.1)), a.2)) (x := x) (ok_Mod_packs (n + 1)) hl (Nat.le_of_ble_eq_true rfl) hx (k_Mod_packs_s hl (fun ha => c_Mod_packs hl ha))
def m_Mod_pack : zM := (({ cls := "ScanPackerModel", name := "pack", desc := "(I)I" } : Jvm.MethodName), prog_13_method_78_code, 3, (Option.some Jvm.ClassFile.FieldType.int), [], 12)
theorem ok_Mod_pack : zMok m_Mod_pack := ⟨by decide +kernel, zW_of 1922 (by decide +kernel) (by decide +kernel), zW_of 134 (by decide +kernel) (by decide +kernel), by decide, by decide +kernel, by decide +kernel⟩
def f_Mod_pack_b29 (h : zH) (v1 : Int32) (v2 : Int32) : Option ((Int32 × zH) ⊕ (Int32 × zH)) :=
  (f_Mod_packs 9 h 0 0 v2).bind fun x3 =>
  if ¬ x3.1 = 0 then (
  some (.inr (v2, x3.2))) else (
  some (.inl ((v2 + 1), x3.2)))
def f_Mod_pack (h : zH) (v1 : Int32) : Option (Int32 × zH) :=
  (some (zsI h 333 2 0)).bind fun h1 =>
  (f_Mod_isIn v1 (-1) ((h1.1 347 4) - 1)).bind fun x2 =>
  if ¬ x2 = 0 then (
  (zit zFU (fun s : Int32 × zH => f_Mod_pack_b29 s.2 v1 s.1) (0, h1)).bind (fun y6 =>
    if ¬ v1 = (-1) then (
      zg (zb v1 8) <|
        some ((y6.2.1 366 v1.toNatClampNeg), y6.2)) else (
      some (y6.1, y6.2)))) else (
  (f_Mod_fail h1 1).bind fun x9 =>
    some (x9.1, x9.2))
set_option maxRecDepth 20000 in
theorem k_Mod_pack_b29 {l : Launch} {X : zX} (hl : l.stackTraces = false) {h : zH} {v1 : Int32} {v2 : Int32} : zGl l m_Mod_pack X 0 0 (f_Mod_pack_b29 h v1 v2) (29, [some (zr (some (11, 333))), some (zi v1), some (zi v2)], [], h) (Sum.elim (fun s : Int32 × zH => .inl (29, [some (zr (some (11, 333))), some (zi v1), some (zi s.1)], [], s.2)) (fun y : Int32 × zH => .inl (45, [some (zr (some (11, 333))), some (zi v1), some (zi y.1)], [], y.2))) := by
  unfold f_Mod_pack_b29
  refine zG_run t_Mod2 [(.aload_n 0, 0, 0), (.iconst 0, 0, 0), (.iconst 0, 0, 0), (.iload_n 2, 0, 0)] (33, [some (zr (some (11, 333))), some (zi v1), some (zi v2)], [zi v2, zi 0, zi 0, zr (some (11, 333))], h) (by decide +kernel) rfl ?_
  refine zG_callV (idx := 422) (R := (fun a => (some (zi a.1), a.2))) (as := [zi 0, zi 0, zi v2]) (rest := []) (n := 3) (fun a ha => c_Mod_packs hl ha) (by decide +kernel) ⟨ok_Mod_packs 9, by decide, by decide +kernel⟩ rfl w_607 w_608 w_609 (by decide) rfl rfl rfl (Nat.le_of_ble_eq_true rfl) fun x3 => ?_
  refine zG_if (op := .ne) (off := 9) (tgt := 45) (by decide +kernel) rfl Iff.rfl (fun c4 => ?_) (fun c4 => ?_)
  · exact zG_end (L' := [some (zr (some (11, 333))), some (zi v1), some (zi v2)]) rfl (And.intro rfl (And.intro rfl (And.intro rfl trivial)))
  · refine zG_run t_Mod2 [(.iinc 2 1, 0, 0), (.goto (-13), 0, 0)] (29, [some (zr (some (11, 333))), some (zi v1), some (zi (v2 + 1))], [], x3.2) (by decide +kernel) rfl ?_
    exact zG_end (L' := [some (zr (some (11, 333))), some (zi v1), some (zi (v2 + 1))]) rfl (And.intro rfl (And.intro rfl (And.intro rfl trivial)))
set_option maxRecDepth 20000 in
theorem k_Mod_pack {l : Launch} {X : zX} (hl : l.stackTraces = false) {h : zH} {v1 : Int32} : zGl l m_Mod_pack X 0 0 (f_Mod_pack h v1) (0, [some (zr (some (11, 333))), some (zi v1), none], [], h) (fun x => .inr ((fun a => (.inl (some (zi a.1)), a.2) : Int32 × zH → zF) x)) := by
  unfold f_Mod_pack
  refine zG_bind (fun y => (5, [some (zr (some (11, 333))), some (zi v1), none], [], y)) (zG_run t_Mod2 [(.aload_n 0, 0, 0), (.iconst 0, 0, 0), (.putfield 181, 11, 2)] (5, [some (zr (some (11, 333))), some (zi v1), none], [], zsI h 333 2 0) (by decide +kernel) rfl (zG_end (L' := [some (zr (some (11, 333))), some (zi v1), none]) rfl (And.intro rfl (And.intro rfl trivial)))) fun h1 => ?_
  refine zG_run t_Mod2 [(.iload_n 1, 0, 0), (.iconst (-1), 0, 0), (.aload_n 0, 0, 0), (.getfield 74, 11, 14), (.iconst 4, 0, 0)] (12, [some (zr (some (11, 333))), some (zi v1), none], [zi 4, zr (some (73, 347)), zi (-1), zi v1], h1) (by decide +kernel) rfl ?_
  refine zG_aldc (v := zi (h1.1 347 4)) rfl (by decide +kernel) (by decide +kernel) rfl ?_
  refine zG_run t_Mod2 [(.iconst 1, 0, 0), (.isub, 0, 0)] (15, [some (zr (some (11, 333))), some (zi v1), none], [zi ((h1.1 347 4) - 1), zi (-1), zi v1], h1) (by decide +kernel) rfl ?_
  refine zG_callS (idx := 391) (R := (fun a => (some (zi a), h1))) (as := [zi v1, zi (-1), zi ((h1.1 347 4) - 1)]) (rest := []) (n := 3) (fun a ha => c_Mod_isIn hl ha) (by decide +kernel) ⟨ok_Mod_isIn, by decide, by decide +kernel⟩ rfl w_526 w_527 rfl rfl (Nat.le_of_ble_eq_true rfl) fun x2 => ?_
  refine zG_if (op := .ne) (off := 9) (tgt := 27) (by decide +kernel) rfl Iff.rfl (fun c10 => ?_) (fun c10 => ?_)
  · refine zG_run t_Mod2 [(.iconst 0, 0, 0), (.istore_n 2, 0, 0)] (29, [some (zr (some (11, 333))), some (zi v1), some (zi 0)], [], h1) (by decide +kernel) rfl ?_
    refine zG_forget (L' := [some (zr (some (11, 333))), some (zi v1), some (zi 0)]) (And.intro rfl (And.intro rfl (And.intro rfl trivial))) ?_
    refine zG_bind (fun y : Int32 × zH => (45, [some (zr (some (11, 333))), some (zi v1), some (zi y.1)], [], y.2)) (zG_iter (fun s : Int32 × zH => (29, [some (zr (some (11, 333))), some (zi v1), some (zi s.1)], [], s.2)) fun s => k_Mod_pack_b29 hl) (fun y6 => ?_)
    refine zG_run t_Mod2 [(.iload_n 1, 0, 0), (.iconst (-1), 0, 0)] (47, [some (zr (some (11, 333))), some (zi v1), some (zi y6.1)], [zi (-1), zi v1], y6.2) (by decide +kernel) rfl ?_
    refine zG_icmp (op := .ne) (off := 7) (tgt := 54) (by decide +kernel) rfl Iff.rfl (fun c8 => ?_) (fun c8 => ?_)
    · refine zG_run t_Mod2 [(.aload_n 0, 0, 0), (.getfield 136, 11, 44), (.iload_n 1, 0, 0)] (59, [some (zr (some (11, 333))), some (zi v1), some (zi y6.1)], [zi v1, zr (some (92, 366))], y6.2) (by decide +kernel) rfl ?_
      refine zG_ald (v := zi (y6.2.1 366 v1.toNatClampNeg)) (n := 8) rfl (by decide +kernel) rfl rfl fun hb7 => ?_
      exact zG_ret (r := some (zi (y6.2.1 366 v1.toNatClampNeg))) rfl (zrd_i rfl (by decide +kernel))
    · refine zG_run t_Mod2 [(.iload_n 2, 0, 0), (.goto 9, 0, 0)] (60, [some (zr (some (11, 333))), some (zi v1), some (zi y6.1)], [zi y6.1], y6.2) (by decide +kernel) rfl ?_
      exact zG_ret (r := some (zi y6.1)) rfl (zrd_i rfl (by decide +kernel))
  · refine zG_run t_Mod2 [(.aload_n 0, 0, 0), (.iconst 1, 0, 0)] (23, [some (zr (some (11, 333))), some (zi v1), none], [zi 1, zr (some (11, 333))], h1) (by decide +kernel) rfl ?_
    refine zG_callV (idx := 288) (R := (fun a => (some (zi a.1), a.2))) (as := [zi 1]) (rest := []) (n := 1) (fun a ha => c_Mod_fail hl ha) (by decide +kernel) ⟨ok_Mod_fail, by decide, by decide +kernel⟩ rfl w_378 w_379 w_380 (by decide) rfl rfl rfl (Nat.le_of_ble_eq_true rfl) fun x9 => ?_
    exact zG_ret (r := some (zi x9.1)) rfl (zrd_i rfl (by decide +kernel))
theorem c_Mod_pack {l : Launch} {X : zX} (hl : l.stackTraces = false) {h : zH} {v1 : Int32} {x : Int32 × zH} (hx : f_Mod_pack h v1 = some x) : zCt l (true, 2) 2 m_Mod_pack X 0 0 [zr (some (11, 333)), zi v1] h ((fun a => (.inl (some (zi a.1)), a.2) : Int32 × zH → zF) x) :=
  zG_ct (R := fun a => (.inl (some (zi a.1)), a.2)) (x := x) ok_Mod_pack hl (Nat.le_of_ble_eq_true rfl) hx (k_Mod_pack hl)
