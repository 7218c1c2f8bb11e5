/-! the words that the methods need; field links; by wip/whole/gen.py -/
theorem w_0 : (Jvm.Cond.methodLink "ScanPacker$Net" (64 : Nat) ({ cls := "ScanPacker$Net", name := "lines", desc := "()I" } : Jvm.MethodName)) ∈ zW := zW_of 847 (by decide +kernel) (by decide +kernel)
theorem w_1 : (Jvm.Cond.instanceMethod ({ cls := "ScanPacker$Net", name := "lines", desc := "()I" } : Jvm.MethodName)) ∈ zW := zW_of 577 (by decide +kernel) (by decide +kernel)
theorem w_2 : (Jvm.Cond.selects "ScanPacker$Net" ({ cls := "ScanPacker$Net", name := "lines", desc := "()I" } : Jvm.MethodName) ({ cls := "ScanPacker$Net", name := "lines", desc := "()I" } : Jvm.MethodName)) ∈ zW := zW_of 578 (by decide +kernel) (by decide +kernel)
def T_Net : List (Nat × Nat × Nat × Nat) := [(230, 9, 3, 7), (237, 21, 3, 10), (240, 26, 3, 11), (243, 29, 3, 12), (205, 41, 3, 0), (211, 45, 3, 1)]
theorem t_Net : zTok "ScanPacker$Net" (T_Net.map (·.2)) := zTok_of T_Net (by decide +kernel)
def m_Net_isPin : zM := (({ cls := "ScanPacker$Net", name := "isPin", desc := "(I)Z" } : Jvm.MethodName), prog_4_method_5_code, 2, (Option.some Jvm.ClassFile.FieldType.boolean), [], 1)
theorem ok_Net_isPin : zMok m_Net_isPin := ⟨by decide +kernel, zW_of 721 (by decide +kernel) (by decide +kernel), zW_of 125 (by decide +kernel) (by decide +kernel), by decide, by decide +kernel, by decide +kernel⟩
def f_Net_isPin (o : Nat) (h : zH) (v1 : Int32) : Option (Int32) :=
  if v1 < 0 then (
  some 0) else (
  if (h.1 o 0) ≤ v1 then (
    some 0) else (
    zg (zb v1 6) <|
      if ¬ (h.1 (o + 28) v1.toNatClampNeg) = (-1) then (
      some 0) else (
      some 1)))
theorem k_Net_isPin {l : Launch} {X : zX} (hl : l.stackTraces = false) {o : Nat} {h : zH} {v1 : Int32} : zGl l m_Net_isPin X 0 0 (f_Net_isPin o h v1) (0, [some (zr (some (3, o))), some (zi v1)], [], h) (fun x => .inr ((fun a => (.inl (some (zi a)), h) : Int32 → zF) x)) := by
  unfold f_Net_isPin
  refine zG_run t_Net [(.iload_n 1, 0, 0)] (1, [some (zr (some (3, o))), some (zi v1)], [zi v1], h) (by decide +kernel) rfl ?_
  refine zG_if (op := .lt) (off := 25) (tgt := 26) (by decide +kernel) rfl Iff.rfl (fun c4 => ?_) (fun c4 => ?_)
  · refine zG_run t_Net [(.iconst 0, 0, 0)] (27, [some (zr (some (3, o))), some (zi v1)], [zi 0], h) (by decide +kernel) rfl ?_
    exact zG_ret (r := some (zi 0)) rfl (zrd_z rfl (by decide +kernel) rfl)
  · refine zG_run t_Net [(.iload_n 1, 0, 0), (.aload_n 0, 0, 0), (.getfield 41, 3, 0)] (9, [some (zr (some (3, o))), some (zi v1)], [zi (h.1 o 0), zi v1], h) (by decide +kernel) rfl ?_
    refine zG_icmp (op := .ge) (off := 17) (tgt := 26) (by decide +kernel) rfl Iff.rfl (fun c3 => ?_) (fun c3 => ?_)
    · refine zG_run t_Net [(.iconst 0, 0, 0)] (27, [some (zr (some (3, o))), some (zi v1)], [zi 0], h) (by decide +kernel) rfl ?_
      exact zG_ret (r := some (zi 0)) rfl (zrd_z rfl (by decide +kernel) rfl)
    · refine zG_run t_Net [(.aload_n 0, 0, 0), (.getfield 29, 3, 12), (.iload_n 1, 0, 0)] (17, [some (zr (some (3, o))), some (zi v1)], [zi v1, zr (some (27, (o + 28)))], h) (by decide +kernel) rfl ?_
      refine zG_ald (v := zi (h.1 (o + 28) v1.toNatClampNeg)) (n := 6) rfl (by decide +kernel) rfl rfl fun hb1 => ?_
      refine zG_run t_Net [(.iconst (-1), 0, 0)] (19, [some (zr (some (3, o))), some (zi v1)], [zi (-1), zi (h.1 (o + 28) v1.toNatClampNeg)], h) (by decide +kernel) rfl ?_
      refine zG_icmp (op := .ne) (off := 7) (tgt := 26) (by decide +kernel) rfl Iff.rfl (fun c2 => ?_) (fun c2 => ?_)
      · refine zG_run t_Net [(.iconst 0, 0, 0)] (27, [some (zr (some (3, o))), some (zi v1)], [zi 0], h) (by decide +kernel) rfl ?_
        exact zG_ret (r := some (zi 0)) rfl (zrd_z rfl (by decide +kernel) rfl)
      · refine zG_run t_Net [(.iconst 1, 0, 0), (.goto 4, 0, 0)] (27, [some (zr (some (3, o))), some (zi v1)], [zi 1], h) (by decide +kernel) rfl ?_
        exact zG_ret (r := some (zi 1)) rfl (zrd_z rfl (by decide +kernel) rfl)
theorem c_Net_isPin {l : Launch} {X : zX} (hl : l.stackTraces = false) {o : Nat} {h : zH} {v1 : Int32} {x : Int32} (hx : f_Net_isPin o h v1 = some x) : zCt l (true, 2) 2 m_Net_isPin X 0 0 [zr (some (3, o)), zi v1] h ((fun a => (.inl (some (zi a)), h) : Int32 → zF) x) :=
  zG_ct ok_Net_isPin hl (by decide) hx (k_Net_isPin hl)
def m_Net_lines : zM := (({ cls := "ScanPacker$Net", name := "lines", desc := "()I" } : Jvm.MethodName), prog_4_method_3_code, 1, (Option.some Jvm.ClassFile.FieldType.int), [], 1)
theorem ok_Net_lines : zMok m_Net_lines := ⟨by decide +kernel, zW_of 579 (by decide +kernel) (by decide +kernel), zW_of 125 (by decide +kernel) (by decide +kernel), by decide, by decide +kernel, by decide +kernel⟩
def f_Net_lines (o : Nat) (h : zH) : Option (Int32) :=
  some ((h.1 o 0) + (h.1 o 1))
theorem k_Net_lines {l : Launch} {X : zX} (hl : l.stackTraces = false) {o : Nat} {h : zH} : zGl l m_Net_lines X 0 0 (f_Net_lines o h) (0, [some (zr (some (3, o)))], [], h) (fun x => .inr ((fun a => (.inl (some (zi a)), h) : Int32 → zF) x)) := by
  unfold f_Net_lines
  refine zG_run t_Net [(.aload_n 0, 0, 0), (.getfield 41, 3, 0), (.aload_n 0, 0, 0), (.getfield 45, 3, 1), (.iadd, 0, 0)] (9, [some (zr (some (3, o)))], [zi ((h.1 o 0) + (h.1 o 1))], h) (by decide +kernel) rfl ?_
  exact zG_ret (r := some (zi ((h.1 o 0) + (h.1 o 1)))) rfl (zrd_i rfl (by decide +kernel))
theorem c_Net_lines {l : Launch} {X : zX} (hl : l.stackTraces = false) {o : Nat} {h : zH} {x : Int32} (hx : f_Net_lines o h = some x) : zCt l (true, 2) 2 m_Net_lines X 0 0 [zr (some (3, o))] h ((fun a => (.inl (some (zi a)), h) : Int32 → zF) x) :=
  zG_ct ok_Net_lines hl (by decide) hx (k_Net_lines hl)
def m_Net_find : zM := (({ cls := "ScanPacker$Net", name := "find", desc := "(I)I" } : Jvm.MethodName), prog_4_method_7_code, 3, (Option.some Jvm.ClassFile.FieldType.int), [], 2)
theorem ok_Net_find : zMok m_Net_find := ⟨by decide +kernel, zW_of 1007 (by decide +kernel) (by decide +kernel), zW_of 125 (by decide +kernel) (by decide +kernel), by decide, by decide +kernel, by decide +kernel⟩
def f_Net_find_b2 (o : Nat) (h : zH) (v1 : Int32) (v2 : Int32) : Option ((Int32) ⊕ ((Int32) ⊕ (Unit))) :=
  (f_Net_lines o h).bind fun x1 =>
  if x1 ≤ v2 then (
  some (.inr (.inr ()))) else (
  zg (zb v2 22) <|
    if ¬ (h.1 (o + 1) v2.toNatClampNeg) = v1 then (
    some (.inl (v2 + 1))) else (
    some (.inr (.inl v2))))
def f_Net_find (o : Nat) (h : zH) (v1 : Int32) : Option (Int32) :=
  (zit zFU (fun s : Int32 => f_Net_find_b2 o h v1 s) 0).bind (Sum.elim (fun y6 =>
  some y6) (fun y7 =>
  some (-1)))
theorem k_Net_find_b2 {l : Launch} {X : zX} (hl : l.stackTraces = false) {o : Nat} {h : zH} {v1 : Int32} {v2 : Int32} : zGl l m_Net_find X 0 0 (f_Net_find_b2 o h v1 v2) (2, [some (zr (some (3, o))), some (zi v1), some (zi v2)], [], h) (Sum.elim (fun s : Int32 => .inl (2, [some (zr (some (3, o))), some (zi v1), some (zi s)], [], h)) (Sum.elim (fun y : Int32 => .inl (20, [none, none, some (zi y)], [], h)) (fun y : Unit => .inl (28, [none, none, none], [], h)))) := by
  unfold f_Net_find_b2
  refine zG_run t_Net [(.iload_n 2, 0, 0), (.aload_n 0, 0, 0)] (4, [some (zr (some (3, o))), some (zi v1), some (zi v2)], [zr (some (3, o)), zi v2], h) (by decide +kernel) rfl ?_
  refine zG_callV (idx := 64) (R := (fun a => (some (zi a), h))) (as := []) (rest := [zi v2]) (n := 0) (fun a ha => c_Net_lines hl ha) (by decide +kernel) ⟨ok_Net_lines, by decide, by decide +kernel⟩ rfl w_0 w_1 w_2 (by decide) rfl rfl rfl (Nat.le_of_ble_eq_true rfl) fun x1 => ?_
  refine zG_icmp (op := .ge) (off := 21) (tgt := 28) (by decide +kernel) rfl Iff.rfl (fun c4 => ?_) (fun c4 => ?_)
  · exact zG_end (L' := [none, none, none]) rfl (trivial)
  · refine zG_run t_Net [(.aload_n 0, 0, 0), (.getfield 9, 3, 7), (.iload_n 2, 0, 0)] (15, [some (zr (some (3, o))), some (zi v1), some (zi v2)], [zi v2, zr (some (21, (o + 1)))], h) (by decide +kernel) rfl ?_
    refine zG_ald (v := zi (h.1 (o + 1) v2.toNatClampNeg)) (n := 22) rfl (by decide +kernel) rfl rfl fun hb2 => ?_
    refine zG_run t_Net [(.iload_n 1, 0, 0)] (17, [some (zr (some (3, o))), some (zi v1), some (zi v2)], [zi v1, zi (h.1 (o + 1) v2.toNatClampNeg)], h) (by decide +kernel) rfl ?_
    refine zG_icmp (op := .ne) (off := 5) (tgt := 22) (by decide +kernel) rfl Iff.rfl (fun c3 => ?_) (fun c3 => ?_)
    · refine zG_run t_Net [(.iinc 2 1, 0, 0), (.goto (-23), 0, 0)] (2, [some (zr (some (3, o))), some (zi v1), some (zi (v2 + 1))], [], h) (by decide +kernel) rfl ?_
      exact zG_end (L' := [some (zr (some (3, o))), some (zi v1), some (zi (v2 + 1))]) rfl (And.intro rfl (And.intro rfl (And.intro rfl trivial)))
    · exact zG_end (L' := [none, none, some (zi v2)]) rfl (And.intro rfl trivial)
theorem k_Net_find {l : Launch} {X : zX} (hl : l.stackTraces = false) {o : Nat} {h : zH} {v1 : Int32} : zGl l m_Net_find X 0 0 (f_Net_find o h v1) (0, [some (zr (some (3, o))), some (zi v1), none], [], h) (fun x => .inr ((fun a => (.inl (some (zi a)), h) : Int32 → zF) x)) := by
  unfold f_Net_find
  refine zG_run t_Net [(.iconst 0, 0, 0), (.istore_n 2, 0, 0)] (2, [some (zr (some (3, o))), some (zi v1), some (zi 0)], [], h) (by decide +kernel) rfl ?_
  refine zG_forget (L' := [some (zr (some (3, o))), some (zi v1), some (zi 0)]) (And.intro rfl (And.intro rfl (And.intro rfl trivial))) ?_
  refine zG_bind2 (fun y : Int32 => (20, [none, none, some (zi y)], [], h)) (fun y : Unit => (28, [none, none, none], [], h)) (zG_iter (fun s : Int32 => (2, [some (zr (some (3, o))), some (zi v1), some (zi s)], [], h)) fun s => k_Net_find_b2 hl) (fun y6 => ?_) (fun y7 => ?_)
  · refine zG_run t_Net [(.iload_n 2, 0, 0)] (21, [none, none, some (zi y6)], [zi y6], h) (by decide +kernel) rfl ?_
    exact zG_ret (r := some (zi y6)) rfl (zrd_i rfl (by decide +kernel))
  · refine zG_run t_Net [(.iconst (-1), 0, 0)] (29, [none, none, none], [zi (-1)], h) (by decide +kernel) rfl ?_
    exact zG_ret (r := some (zi (-1))) rfl (zrd_i rfl (by decide +kernel))
theorem c_Net_find {l : Launch} {X : zX} (hl : l.stackTraces = false) {o : Nat} {h : zH} {v1 : Int32} {x : Int32} (hx : f_Net_find o h v1 = some x) : zCt l (true, 2) 2 m_Net_find X 0 0 [zr (some (3, o)), zi v1] h ((fun a => (.inl (some (zi a)), h) : Int32 → zF) x) :=
  zG_ct ok_Net_find hl (by decide) hx (k_Net_find hl)
def m_Net_isLine : zM := (({ cls := "ScanPacker$Net", name := "isLine", desc := "(I)Z" } : Jvm.MethodName), prog_4_method_4_code, 2, (Option.some Jvm.ClassFile.FieldType.boolean), [], 2)
theorem ok_Net_isLine : zMok m_Net_isLine := ⟨by decide +kernel, zW_of 846 (by decide +kernel) (by decide +kernel), zW_of 125 (by decide +kernel) (by decide +kernel), by decide, by decide +kernel, by decide +kernel⟩
def f_Net_isLine (o : Nat) (h : zH) (v1 : Int32) : Option (Int32) :=
  if v1 < 0 then (
  some 0) else (
  (f_Net_lines o h).bind fun x1 =>
    if x1 ≤ v1 then (
    some 0) else (
    some 1))
theorem k_Net_isLine {l : Launch} {X : zX} (hl : l.stackTraces = false) {o : Nat} {h : zH} {v1 : Int32} : zGl l m_Net_isLine X 0 0 (f_Net_isLine o h v1) (0, [some (zr (some (3, o))), some (zi v1)], [], h) (fun x => .inr ((fun a => (.inl (some (zi a)), h) : Int32 → zF) x)) := by
  unfold f_Net_isLine
  refine zG_run t_Net [(.iload_n 1, 0, 0)] (1, [some (zr (some (3, o))), some (zi v1)], [zi v1], h) (by decide +kernel) rfl ?_
  refine zG_if (op := .lt) (off := 15) (tgt := 16) (by decide +kernel) rfl Iff.rfl (fun c3 => ?_) (fun c3 => ?_)
  · refine zG_run t_Net [(.iconst 0, 0, 0)] (17, [some (zr (some (3, o))), some (zi v1)], [zi 0], h) (by decide +kernel) rfl ?_
    exact zG_ret (r := some (zi 0)) rfl (zrd_z rfl (by decide +kernel) rfl)
  · refine zG_run t_Net [(.iload_n 1, 0, 0), (.aload_n 0, 0, 0)] (6, [some (zr (some (3, o))), some (zi v1)], [zr (some (3, o)), zi v1], h) (by decide +kernel) rfl ?_
    refine zG_callV (idx := 64) (R := (fun a => (some (zi a), h))) (as := []) (rest := [zi v1]) (n := 0) (fun a ha => c_Net_lines hl ha) (by decide +kernel) ⟨ok_Net_lines, by decide, by decide +kernel⟩ rfl w_0 w_1 w_2 (by decide) rfl rfl rfl (Nat.le_of_ble_eq_true rfl) fun x1 => ?_
    refine zG_icmp (op := .ge) (off := 7) (tgt := 16) (by decide +kernel) rfl Iff.rfl (fun c2 => ?_) (fun c2 => ?_)
    · refine zG_run t_Net [(.iconst 0, 0, 0)] (17, [some (zr (some (3, o))), some (zi v1)], [zi 0], h) (by decide +kernel) rfl ?_
      exact zG_ret (r := some (zi 0)) rfl (zrd_z rfl (by decide +kernel) rfl)
    · refine zG_run t_Net [(.iconst 1, 0, 0), (.goto 4, 0, 0)] (17, [some (zr (some (3, o))), some (zi v1)], [zi 1], h) (by decide +kernel) rfl ?_
      exact zG_ret (r := some (zi 1)) rfl (zrd_z rfl (by decide +kernel) rfl)
theorem c_Net_isLine {l : Launch} {X : zX} (hl : l.stackTraces = false) {o : Nat} {h : zH} {v1 : Int32} {x : Int32} (hx : f_Net_isLine o h v1 = some x) : zCt l (true, 2) 2 m_Net_isLine X 0 0 [zr (some (3, o)), zi v1] h ((fun a => (.inl (some (zi a)), h) : Int32 → zF) x) :=
  zG_ct ok_Net_isLine hl (by decide) hx (k_Net_isLine hl)
def m_Net_addFrom : zM := (({ cls := "ScanPacker$Net", name := "addFrom", desc := "(I)V" } : Jvm.MethodName), prog_4_method_10_code, 3, (Option.none : Option Jvm.ClassFile.FieldType), [], 2)
theorem ok_Net_addFrom : zMok m_Net_addFrom := ⟨by decide +kernel, zW_of 1032 (by decide +kernel) (by decide +kernel), zW_of 125 (by decide +kernel) (by decide +kernel), by decide, by decide +kernel, by decide +kernel⟩
def f_Net_addFrom (o : Nat) (h : zH) (v1 : Int32) : Option (zH) :=
  (f_Net_lines o h).bind fun x1 =>
  if 22 ≤ x1 then (
  some h) else (
  zg (zb x1 22) <|
    if (h.1 (o + 4) x1.toNatClampNeg) < 3 then (
    zg (zb x1 22) <|
      zg (zb x1 22) <|
      zg (zb (h.1 (o + 4) x1.toNatClampNeg) 3) <|
      (some (zsI h ((o + 5) + (1 + 1 * x1.toNatClampNeg)) (h.1 (o + 4) x1.toNatClampNeg).toNatClampNeg v1)).bind fun h5 =>
      zg (zb x1 22) <|
      zg (zb x1 22) <|
      (some (zsI h5 (o + 4) x1.toNatClampNeg ((h5.1 (o + 4) x1.toNatClampNeg) + 1))).bind fun h8 =>
      some h8) else (
    some h))
theorem k_Net_addFrom {l : Launch} {X : zX} (hl : l.stackTraces = false) {o : Nat} {h : zH} {v1 : Int32} : zGl l m_Net_addFrom X 0 0 (f_Net_addFrom o h v1) (0, [some (zr (some (3, o))), some (zi v1), none], [], h) (fun x => .inr ((fun a => (.inl none, a) : zH → zF) x)) := by
  unfold f_Net_addFrom
  refine zG_run t_Net [(.aload_n 0, 0, 0)] (1, [some (zr (some (3, o))), some (zi v1), none], [zr (some (3, o))], h) (by decide +kernel) rfl ?_
  refine zG_callV (idx := 64) (R := (fun a => (some (zi a), h))) (as := []) (rest := []) (n := 0) (fun a ha => c_Net_lines hl ha) (by decide +kernel) ⟨ok_Net_lines, by decide, by decide +kernel⟩ rfl w_0 w_1 w_2 (by decide) rfl rfl rfl (Nat.le_of_ble_eq_true rfl) fun x1 => ?_
  refine zG_run t_Net [(.istore_n 2, 0, 0), (.iload_n 2, 0, 0), (.bipush 22, 0, 0)] (8, [some (zr (some (3, o))), some (zi v1), some (zi x1)], [zi 22, zi x1], h) (by decide +kernel) rfl ?_
  refine zG_icmp (op := .ge) (off := 13) (tgt := 21) (by decide +kernel) rfl Iff.rfl (fun c11 => ?_) (fun c11 => ?_)
  · exact zG_ret (r := none) rfl (zrd_v rfl (by decide +kernel))
  · refine zG_run t_Net [(.aload_n 0, 0, 0), (.getfield 21, 3, 10), (.iload_n 2, 0, 0)] (16, [some (zr (some (3, o))), some (zi v1), some (zi x1)], [zi x1, zr (some (24, (o + 4)))], h) (by decide +kernel) rfl ?_
    refine zG_ald (v := zi (h.1 (o + 4) x1.toNatClampNeg)) (n := 22) rfl (by decide +kernel) rfl rfl fun hb2 => ?_
    refine zG_run t_Net [(.iconst 3, 0, 0)] (18, [some (zr (some (3, o))), some (zi v1), some (zi x1)], [zi 3, zi (h.1 (o + 4) x1.toNatClampNeg)], h) (by decide +kernel) rfl ?_
    refine zG_icmp (op := .lt) (off := 4) (tgt := 22) (by decide +kernel) rfl Iff.rfl (fun c10 => ?_) (fun c10 => ?_)
    · refine zG_run t_Net [(.aload_n 0, 0, 0), (.getfield 26, 3, 11), (.iload_n 2, 0, 0)] (27, [some (zr (some (3, o))), some (zi v1), some (zi x1)], [zi x1, zr (some (25, (o + 5)))], h) (by decide +kernel) rfl ?_
      refine zG_ald (v := zr (some (26, ((o + 5) + (1 + 1 * x1.toNatClampNeg))))) (n := 22) rfl (by decide +kernel) rfl rfl fun hb3 => ?_
      refine zG_run t_Net [(.aload_n 0, 0, 0), (.getfield 21, 3, 10), (.iload_n 2, 0, 0)] (33, [some (zr (some (3, o))), some (zi v1), some (zi x1)], [zi x1, zr (some (24, (o + 4))), zr (some (26, ((o + 5) + (1 + 1 * x1.toNatClampNeg))))], h) (by decide +kernel) rfl ?_
      refine zG_ald (v := zi (h.1 (o + 4) x1.toNatClampNeg)) (n := 22) rfl (by decide +kernel) rfl rfl fun hb4 => ?_
      refine zG_run t_Net [(.iload_n 1, 0, 0)] (35, [some (zr (some (3, o))), some (zi v1), some (zi x1)], [zi v1, zi (h.1 (o + 4) x1.toNatClampNeg), zr (some (26, ((o + 5) + (1 + 1 * x1.toNatClampNeg))))], h) (by decide +kernel) rfl ?_
      refine zG_guard fun hb6 => ?_
      refine zG_bind (fun y => (36, [some (zr (some (3, o))), some (zi v1), some (zi x1)], [], y)) (zG_astc (h' := zsI h ((o + 5) + (1 + 1 * x1.toNatClampNeg)) (h.1 (o + 4) x1.toNatClampNeg).toNatClampNeg v1) rfl (by decide +kernel) hb6 rfl (zG_end (L' := [some (zr (some (3, o))), some (zi v1), some (zi x1)]) rfl (And.intro rfl (And.intro rfl (And.intro rfl trivial))))) fun h5 => ?_
      refine zG_run t_Net [(.aload_n 0, 0, 0), (.getfield 21, 3, 10), (.iload_n 2, 0, 0), (.dup2, 0, 0)] (42, [some (zr (some (3, o))), some (zi v1), some (zi x1)], [zi x1, zr (some (24, (o + 4))), zi x1, zr (some (24, (o + 4)))], h5) (by decide +kernel) rfl ?_
      refine zG_ald (v := zi (h5.1 (o + 4) x1.toNatClampNeg)) (n := 22) rfl (by decide +kernel) rfl rfl fun hb7 => ?_
      refine zG_run t_Net [(.iconst 1, 0, 0), (.iadd, 0, 0)] (45, [some (zr (some (3, o))), some (zi v1), some (zi x1)], [zi ((h5.1 (o + 4) x1.toNatClampNeg) + 1), zi x1, zr (some (24, (o + 4)))], h5) (by decide +kernel) rfl ?_
      refine zG_guard fun hb9 => ?_
      refine zG_bind (fun y => (46, [some (zr (some (3, o))), some (zi v1), some (zi x1)], [], y)) (zG_astc (h' := zsI h5 (o + 4) x1.toNatClampNeg ((h5.1 (o + 4) x1.toNatClampNeg) + 1)) rfl (by decide +kernel) hb9 rfl (zG_end (L' := [some (zr (some (3, o))), some (zi v1), some (zi x1)]) rfl (And.intro rfl (And.intro rfl (And.intro rfl trivial))))) fun h8 => ?_
      exact zG_ret (r := none) rfl (zrd_v rfl (by decide +kernel))
    · exact zG_ret (r := none) rfl (zrd_v rfl (by decide +kernel))
theorem c_Net_addFrom {l : Launch} {X : zX} (hl : l.stackTraces = false) {o : Nat} {h : zH} {v1 : Int32} {x : zH} (hx : f_Net_addFrom o h v1 = some x) : zCt l (true, 2) 2 m_Net_addFrom X 0 0 [zr (some (3, o)), zi v1] h ((fun a => (.inl none, a) : zH → zF) x) :=
  zG_ct ok_Net_addFrom hl (by decide) hx (k_Net_addFrom hl)
