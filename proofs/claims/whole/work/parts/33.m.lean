/-! methods, by wip/whole/gen.py -/
def m_Catalog_allRows : zM := (({ cls := "ScanPacker$Catalog", name := "allRows", desc := "()J" } : Jvm.MethodName), prog_2_method_6_code, 1, (Option.some Jvm.ClassFile.FieldType.long), [], 1)
theorem ok_Catalog_allRows : zMok m_Catalog_allRows := ⟨by decide +kernel, zW_of 608 (by decide +kernel) (by decide +kernel), zW_of 126 (by decide +kernel) (by decide +kernel), by decide, by decide +kernel, by decide +kernel⟩
def f_Catalog_allRows (h : zH) : Option (Int64) :=
  if (h.1 74 1) < 64 then (
  some ((zlshl 1 (h.1 74 1)) - 1)) else (
  some (-1))
set_option maxRecDepth 20000 in
theorem k_Catalog_allRows {l : Launch} {X : zX} (hl : l.stackTraces = false) {h : zH} : zGl l m_Catalog_allRows X 0 0 (f_Catalog_allRows h) (0, [some (zr (some (1, 74)))], [], h) (fun x => .inr ((fun a => (.inl (some (zl a)), h) : Int64 → zF) x)) := by
  unfold f_Catalog_allRows
  refine zG_run t_Catalog [(.aload_n 0, 0, 0), (.getfield 59, 1, 1), (.bipush 64, 0, 0)] (6, [some (zr (some (1, 74)))], [zi 64, zi (h.1 74 1)], h) (by decide +kernel) rfl ?_
  refine zG_icmp (op := .lt) (off := 9) (tgt := 15) (by decide +kernel) rfl Iff.rfl (fun c1 => ?_) (fun c1 => ?_)
  · refine zG_run t_Catalog [(.lconst 1, 0, 0), (.aload_n 0, 0, 0), (.getfield 59, 1, 1), (.lshl, 0, 0), (.lconst 1, 0, 0), (.lsub, 0, 0)] (23, [some (zr (some (1, 74)))], [zl ((zlshl 1 (h.1 74 1)) - 1)], h) (by decide +kernel) rfl ?_
    exact zG_ret (r := some (zl ((zlshl 1 (h.1 74 1)) - 1))) rfl (zrd_l rfl (by decide +kernel))
  · refine zG_ldc2 (v := (-1)) (by decide +kernel) w_107 ?_
    refine zG_run t_Catalog [(.goto 11, 0, 0)] (23, [some (zr (some (1, 74)))], [zl (-1)], h) (by decide +kernel) rfl ?_
    exact zG_ret (r := some (zl (-1))) rfl (zrd_l rfl (by decide +kernel))
theorem c_Catalog_allRows {l : Launch} {X : zX} (hl : l.stackTraces = false) {h : zH} {x : Int64} (hx : f_Catalog_allRows h = some x) : zCt l (true, 2) 2 m_Catalog_allRows X 0 0 [zr (some (1, 74))] h ((fun a => (.inl (some (zl a)), h) : Int64 → zF) x) :=
  zG_ct (R := fun a => (.inl (some (zl a)), h)) (x := x) ok_Catalog_allRows hl (Nat.le_of_ble_eq_true rfl) hx (k_Catalog_allRows hl)
def m_Catalog_tellAll : zM := (({ cls := "ScanPacker$Catalog", name := "tellAll", desc := "(LScanPacker$Net;)V" } : Jvm.MethodName), prog_2_method_18_code, 4, (Option.none : Option Jvm.ClassFile.FieldType), [], 3)
theorem ok_Catalog_tellAll : zMok m_Catalog_tellAll := ⟨by decide +kernel, zW_of 583 (by decide +kernel) (by decide +kernel), zW_of 126 (by decide +kernel) (by decide +kernel), by decide, by decide +kernel, by decide +kernel⟩
def f_Catalog_tellAll_b9 (o1 : Nat) (h : zH) (v2 : Int32) : Option ((Int32 × zH) ⊕ (zH)) :=
  if (h.1 o1 0) ≤ v2 then (
  some (.inr h)) else (
  zg (zb v2 6) <|
    zg (zb v2 6) <|
    (f_Waves_setInput 132 h v2 (zrows v2.toNatClampNeg) ((zrows v2.toNatClampNeg) ^^^ (-1))).bind fun x4 =>
    some (.inl ((v2 + 1), x4)))
def f_Catalog_tellAll_b66 (o1 : Nat) (h : zH) (v2 : Int32) (v3 : Int32) : Option ((Int32 × zH) ⊕ (zH)) :=
  (f_Net_lines o1 h).bind fun x9 =>
  if x9 ≤ v3 then (
  some (.inr h)) else (
  zg (zb (v2 + 1) 45) <|
    zg (zb v3 22) <|
    (f_Catalog_allRows h).bind fun x12 =>
    zg (zb v3 22) <|
    (some (zsL h (75 + (1 + 1 * (v2 + 1).toNatClampNeg)) v3.toNatClampNeg ((h.2.1 135 v3.toNatClampNeg) &&& x12))).bind fun h13 =>
    some (.inl ((v3 + 1), h13)))
def f_Catalog_tellAll_b47 (o1 : Nat) (h : zH) (v2 : Int32) : Option ((Int32 × zH) ⊕ (zH)) :=
  if (h.1 74 0) ≤ v2 then (
  some (.inr h)) else (
  (f_Waves_spread 132 o1 h v2).bind fun x8 =>
    (zit zFU (fun s : Int32 × zH => f_Catalog_tellAll_b66 o1 s.2 v2 s.1) (0, x8)).bind (fun y17 =>
    some (.inl ((v2 + 1), y17))))
def f_Catalog_tellAll (o1 : Nat) (h : zH) : Option (zH) :=
  (f_Waves_unsetInputs 132 h).bind fun x1 =>
  (zit zFU (fun s : Int32 × zH => f_Catalog_tellAll_b9 o1 s.2 s.1) (0, x1)).bind (fun y7 =>
  (zit zFU (fun s : Int32 × zH => f_Catalog_tellAll_b47 o1 s.2 s.1) ((-1), y7)).bind (fun y20 =>
    some y20))
set_option maxRecDepth 20000 in
theorem k_Catalog_tellAll_b9 {l : Launch} {X : zX} (hl : l.stackTraces = false) {o1 : Nat} {h : zH} {v2 : Int32} : zGl l m_Catalog_tellAll X 0 0 (f_Catalog_tellAll_b9 o1 h v2) (9, [some (zr (some (1, 74))), some (zr (some (3, o1))), some (zi v2), none], [], h) (Sum.elim (fun s : Int32 × zH => .inl (9, [some (zr (some (1, 74))), some (zr (some (3, o1))), some (zi s.1), none], [], s.2)) (fun y : zH => .inl (45, [some (zr (some (1, 74))), some (zr (some (3, o1))), none, none], [], y))) := by
  unfold f_Catalog_tellAll_b9
  refine zG_run t_Catalog [(.iload_n 2, 0, 0), (.aload_n 1, 0, 0), (.getfield 56, 3, 0)] (14, [some (zr (some (1, 74))), some (zr (some (3, o1))), some (zi v2), none], [zi (h.1 o1 0), zi v2], h) (by decide +kernel) rfl ?_
  refine zG_icmp (op := .ge) (off := 31) (tgt := 45) (by decide +kernel) rfl Iff.rfl (fun c5 => ?_) (fun c5 => ?_)
  · exact zG_end (L' := [some (zr (some (1, 74))), some (zr (some (3, o1))), none, none]) rfl (And.intro rfl (And.intro rfl trivial))
  · refine zG_run t_Catalog [(.aload_n 0, 0, 0), (.getfield 43, 1, 12), (.iload_n 2, 0, 0)] (22, [some (zr (some (1, 74))), some (zr (some (3, o1))), some (zi v2), none], [zi v2, zr (some (10, 132))], h) (by decide +kernel) rfl ?_
    refine zG_gsR w_106 (by decide +kernel) ?_
    refine zG_run t_Catalog [(.iload_n 2, 0, 0)] (26, [some (zr (some (1, 74))), some (zr (some (3, o1))), some (zi v2), none], [zi v2, zr (some (201, (zSO + 1))), zi v2, zr (some (10, 132))], h) (by decide +kernel) rfl ?_
    refine zG_ldR (by decide +kernel) fun hb2 => ?_
    refine zG_gsR w_106 (by decide +kernel) ?_
    refine zG_run t_Catalog [(.iload_n 2, 0, 0)] (31, [some (zr (some (1, 74))), some (zr (some (3, o1))), some (zi v2), none], [zi v2, zr (some (201, (zSO + 1))), zl (zrows v2.toNatClampNeg), zi v2, zr (some (10, 132))], h) (by decide +kernel) rfl ?_
    refine zG_ldR (by decide +kernel) fun hb3 => ?_
    refine zG_ldc2 (v := (-1)) (by decide +kernel) w_107 ?_
    refine zG_run t_Catalog [(.lxor, 0, 0)] (36, [some (zr (some (1, 74))), some (zr (some (3, o1))), some (zi v2), none], [zl ((zrows v2.toNatClampNeg) ^^^ (-1)), zl (zrows v2.toNatClampNeg), zi v2, zr (some (10, 132))], h) (by decide +kernel) rfl ?_
    refine zG_callV (idx := 85) (R := (fun a => (none, a))) (as := [zi v2, zl (zrows v2.toNatClampNeg), zl ((zrows v2.toNatClampNeg) ^^^ (-1))]) (rest := []) (n := 3) (fun a ha => c_Waves_setInput hl ha) (by decide +kernel) ⟨ok_Waves_setInput, by decide, by decide +kernel⟩ rfl w_108 w_109 w_110 (by decide) rfl rfl rfl (Nat.le_of_ble_eq_true rfl) fun x4 => ?_
    refine zG_run t_Catalog [(.iinc 2 1, 0, 0), (.goto (-33), 0, 0)] (9, [some (zr (some (1, 74))), some (zr (some (3, o1))), some (zi (v2 + 1)), none], [], x4) (by decide +kernel) rfl ?_
    exact zG_end (L' := [some (zr (some (1, 74))), some (zr (some (3, o1))), some (zi (v2 + 1)), none]) rfl (And.intro rfl (And.intro rfl (And.intro rfl trivial)))
set_option maxRecDepth 20000 in
theorem k_Catalog_tellAll_b66 {l : Launch} {X : zX} (hl : l.stackTraces = false) {o1 : Nat} {h : zH} {v2 : Int32} {v3 : Int32} : zGl l m_Catalog_tellAll X 0 0 (f_Catalog_tellAll_b66 o1 h v2 v3) (66, [some (zr (some (1, 74))), some (zr (some (3, o1))), some (zi v2), some (zi v3)], [], h) (Sum.elim (fun s : Int32 × zH => .inl (66, [some (zr (some (1, 74))), some (zr (some (3, o1))), some (zi v2), some (zi s.1)], [], s.2)) (fun y : zH => .inl (104, [some (zr (some (1, 74))), some (zr (some (3, o1))), some (zi v2), none], [], y))) := by
  unfold f_Catalog_tellAll_b66
  refine zG_run t_Catalog [(.iload_n 3, 0, 0), (.aload_n 1, 0, 0)] (68, [some (zr (some (1, 74))), some (zr (some (3, o1))), some (zi v2), some (zi v3)], [zr (some (3, o1)), zi v3], h) (by decide +kernel) rfl ?_
  refine zG_callV (idx := 46) (R := (fun a => (some (zi a), h))) (as := []) (rest := [zi v3]) (n := 0) (fun a ha => c_Net_lines hl ha) (by decide +kernel) ⟨ok_Net_lines, by decide, by decide +kernel⟩ rfl w_102 w_35 w_36 (by decide) rfl rfl rfl (Nat.le_of_ble_eq_true rfl) fun x9 => ?_
  refine zG_icmp (op := .ge) (off := 33) (tgt := 104) (by decide +kernel) rfl Iff.rfl (fun c15 => ?_) (fun c15 => ?_)
  · exact zG_end (L' := [some (zr (some (1, 74))), some (zr (some (3, o1))), some (zi v2), none]) rfl (And.intro rfl (And.intro rfl (And.intro rfl trivial)))
  · refine zG_run t_Catalog [(.aload_n 0, 0, 0), (.getfield 11, 1, 4), (.iload_n 2, 0, 0), (.iconst 1, 0, 0), (.iadd, 0, 0)] (81, [some (zr (some (1, 74))), some (zr (some (3, o1))), some (zi v2), some (zi v3)], [zi (v2 + 1), zr (some (32, 75))], h) (by decide +kernel) rfl ?_
    refine zG_ald (v := zr (some (33, (75 + (1 + 1 * (v2 + 1).toNatClampNeg))))) (n := 45) rfl (by decide +kernel) rfl rfl fun hb10 => ?_
    refine zG_run t_Catalog [(.iload_n 3, 0, 0), (.aload_n 0, 0, 0), (.getfield 43, 1, 12), (.getfield 93, 10, 2), (.iload_n 3, 0, 0)] (91, [some (zr (some (1, 74))), some (zr (some (3, o1))), some (zi v2), some (zi v3)], [zi v3, zr (some (42, 135)), zi v3, zr (some (33, (75 + (1 + 1 * (v2 + 1).toNatClampNeg))))], h) (by decide +kernel) rfl ?_
    refine zG_ald (v := zl (h.2.1 135 v3.toNatClampNeg)) (n := 22) rfl (by decide +kernel) rfl rfl fun hb11 => ?_
    refine zG_run t_Catalog [(.aload_n 0, 0, 0)] (93, [some (zr (some (1, 74))), some (zr (some (3, o1))), some (zi v2), some (zi v3)], [zr (some (1, 74)), zl (h.2.1 135 v3.toNatClampNeg), zi v3, zr (some (33, (75 + (1 + 1 * (v2 + 1).toNatClampNeg))))], h) (by decide +kernel) rfl ?_
    refine zG_callV (idx := 116) (R := (fun a => (some (zl a), h))) (as := []) (rest := [zl (h.2.1 135 v3.toNatClampNeg), zi v3, zr (some (33, (75 + (1 + 1 * (v2 + 1).toNatClampNeg))))]) (n := 0) (fun a ha => c_Catalog_allRows hl ha) (by decide +kernel) ⟨ok_Catalog_allRows, by decide, by decide +kernel⟩ rfl w_119 w_120 w_121 (by decide) rfl rfl rfl (Nat.le_of_ble_eq_true rfl) fun x12 => ?_
    refine zG_run t_Catalog [(.land, 0, 0)] (97, [some (zr (some (1, 74))), some (zr (some (3, o1))), some (zi v2), some (zi v3)], [zl ((h.2.1 135 v3.toNatClampNeg) &&& x12), zi v3, zr (some (33, (75 + (1 + 1 * (v2 + 1).toNatClampNeg))))], h) (by decide +kernel) rfl ?_
    refine zG_guard fun hb14 => ?_
    refine zG_bind (fun y => (98, [some (zr (some (1, 74))), some (zr (some (3, o1))), some (zi v2), some (zi v3)], [], y)) (zG_astc (h' := zsL h (75 + (1 + 1 * (v2 + 1).toNatClampNeg)) v3.toNatClampNeg ((h.2.1 135 v3.toNatClampNeg) &&& x12)) rfl (by decide +kernel) hb14 rfl (zG_end (L' := [some (zr (some (1, 74))), some (zr (some (3, o1))), some (zi v2), some (zi v3)]) rfl (And.intro rfl (And.intro rfl (And.intro rfl (And.intro rfl trivial)))))) fun h13 => ?_
    refine zG_run t_Catalog [(.iinc 3 1, 0, 0), (.goto (-35), 0, 0)] (66, [some (zr (some (1, 74))), some (zr (some (3, o1))), some (zi v2), some (zi (v3 + 1))], [], h13) (by decide +kernel) rfl ?_
    exact zG_end (L' := [some (zr (some (1, 74))), some (zr (some (3, o1))), some (zi v2), some (zi (v3 + 1))]) rfl (And.intro rfl (And.intro rfl (And.intro rfl (And.intro rfl trivial))))
set_option maxRecDepth 20000 in
theorem k_Catalog_tellAll_b47 {l : Launch} {X : zX} (hl : l.stackTraces = false) {o1 : Nat} {h : zH} {v2 : Int32} : zGl l m_Catalog_tellAll X 0 0 (f_Catalog_tellAll_b47 o1 h v2) (47, [some (zr (some (1, 74))), some (zr (some (3, o1))), some (zi v2), none], [], h) (Sum.elim (fun s : Int32 × zH => .inl (47, [some (zr (some (1, 74))), some (zr (some (3, o1))), some (zi s.1), none], [], s.2)) (fun y : zH => .inl (110, [none, none, none, none], [], y))) := by
  unfold f_Catalog_tellAll_b47
  refine zG_run t_Catalog [(.iload_n 2, 0, 0), (.aload_n 0, 0, 0), (.getfield 52, 1, 0)] (52, [some (zr (some (1, 74))), some (zr (some (3, o1))), some (zi v2), none], [zi (h.1 74 0), zi v2], h) (by decide +kernel) rfl ?_
  refine zG_icmp (op := .ge) (off := 58) (tgt := 110) (by decide +kernel) rfl Iff.rfl (fun c18 => ?_) (fun c18 => ?_)
  · exact zG_end (L' := [none, none, none, none]) rfl (trivial)
  · refine zG_run t_Catalog [(.aload_n 0, 0, 0), (.getfield 43, 1, 12), (.aload_n 1, 0, 0), (.iload_n 2, 0, 0)] (61, [some (zr (some (1, 74))), some (zr (some (3, o1))), some (zi v2), none], [zi v2, zr (some (3, o1)), zr (some (10, 132))], h) (by decide +kernel) rfl ?_
    refine zG_callV (idx := 89) (R := (fun a => (none, a))) (as := [zr (some (3, o1)), zi v2]) (rest := []) (n := 2) (fun a ha => c_Waves_spread hl ha) (by decide +kernel) ⟨ok_Waves_spread, by decide, by decide +kernel⟩ rfl w_116 w_117 w_118 (by decide) rfl rfl rfl (Nat.le_of_ble_eq_true rfl) fun x8 => ?_
    refine zG_run t_Catalog [(.iconst 0, 0, 0), (.istore_n 3, 0, 0)] (66, [some (zr (some (1, 74))), some (zr (some (3, o1))), some (zi v2), some (zi 0)], [], x8) (by decide +kernel) rfl ?_
    refine zG_forget (L' := [some (zr (some (1, 74))), some (zr (some (3, o1))), some (zi v2), some (zi 0)]) (And.intro rfl (And.intro rfl (And.intro rfl (And.intro rfl trivial)))) ?_
    refine zG_bind (fun y : zH => (104, [some (zr (some (1, 74))), some (zr (some (3, o1))), some (zi v2), none], [], y)) (zG_iter (fun s : Int32 × zH => (66, [some (zr (some (1, 74))), some (zr (some (3, o1))), some (zi v2), some (zi s.1)], [], s.2)) fun s => k_Catalog_tellAll_b66 hl) (fun y17 => ?_)
    refine zG_run t_Catalog [(.iinc 2 1, 0, 0), (.goto (-60), 0, 0)] (47, [some (zr (some (1, 74))), some (zr (some (3, o1))), some (zi (v2 + 1)), none], [], y17) (by decide +kernel) rfl ?_
    exact zG_end (L' := [some (zr (some (1, 74))), some (zr (some (3, o1))), some (zi (v2 + 1)), none]) rfl (And.intro rfl (And.intro rfl (And.intro rfl trivial)))
set_option maxRecDepth 20000 in
theorem k_Catalog_tellAll {l : Launch} {X : zX} (hl : l.stackTraces = false) {o1 : Nat} {h : zH} : zGl l m_Catalog_tellAll X 0 0 (f_Catalog_tellAll o1 h) (0, [some (zr (some (1, 74))), some (zr (some (3, o1))), none, none], [], h) (fun x => .inr ((fun a => (.inl none, a) : zH → zF) x)) := by
  unfold f_Catalog_tellAll
  refine zG_run t_Catalog [(.aload_n 0, 0, 0), (.getfield 43, 1, 12)] (4, [some (zr (some (1, 74))), some (zr (some (3, o1))), none, none], [zr (some (10, 132))], h) (by decide +kernel) rfl ?_
  refine zG_callV (idx := 82) (R := (fun a => (none, a))) (as := []) (rest := []) (n := 0) (fun a ha => c_Waves_unsetInputs hl ha) (by decide +kernel) ⟨ok_Waves_unsetInputs, by decide, by decide +kernel⟩ rfl w_103 w_104 w_105 (by decide) rfl rfl rfl (Nat.le_of_ble_eq_true rfl) fun x1 => ?_
  refine zG_run t_Catalog [(.iconst 0, 0, 0), (.istore_n 2, 0, 0)] (9, [some (zr (some (1, 74))), some (zr (some (3, o1))), some (zi 0), none], [], x1) (by decide +kernel) rfl ?_
  refine zG_forget (L' := [some (zr (some (1, 74))), some (zr (some (3, o1))), some (zi 0), none]) (And.intro rfl (And.intro rfl (And.intro rfl trivial))) ?_
  refine zG_bind (fun y : zH => (45, [some (zr (some (1, 74))), some (zr (some (3, o1))), none, none], [], y)) (zG_iter (fun s : Int32 × zH => (9, [some (zr (some (1, 74))), some (zr (some (3, o1))), some (zi s.1), none], [], s.2)) fun s => k_Catalog_tellAll_b9 hl) (fun y7 => ?_)
  refine zG_run t_Catalog [(.iconst (-1), 0, 0), (.istore_n 2, 0, 0)] (47, [some (zr (some (1, 74))), some (zr (some (3, o1))), some (zi (-1)), none], [], y7) (by decide +kernel) rfl ?_
  refine zG_forget (L' := [some (zr (some (1, 74))), some (zr (some (3, o1))), some (zi (-1)), none]) (And.intro rfl (And.intro rfl (And.intro rfl trivial))) ?_
  refine zG_bind (fun y : zH => (110, [none, none, none, none], [], y)) (zG_iter (fun s : Int32 × zH => (47, [some (zr (some (1, 74))), some (zr (some (3, o1))), some (zi s.1), none], [], s.2)) fun s => k_Catalog_tellAll_b47 hl) (fun y20 => ?_)
  exact zG_ret (r := none) rfl (zrd_v rfl (by decide +kernel))
theorem c_Catalog_tellAll {l : Launch} {X : zX} (hl : l.stackTraces = false) {o1 : Nat} {h : zH} {x : zH} (hx : f_Catalog_tellAll o1 h = some x) : zCt l (true, 2) 2 m_Catalog_tellAll X 0 0 [zr (some (1, 74)), zr (some (3, o1))] h ((fun a => (.inl none, a) : zH → zF) x) :=
  zG_ct (R := fun a => (.inl none, a)) (x := x) ok_Catalog_tellAll hl (Nat.le_of_ble_eq_true rfl) hx (k_Catalog_tellAll hl)
def m_Net_isSeen : zM := (({ cls := "ScanPacker$Net", name := "isSeen", desc := "(I)Z" } : Jvm.MethodName), prog_4_method_6_code, 2, (Option.some Jvm.ClassFile.FieldType.boolean), [], 2)
theorem ok_Net_isSeen : zMok m_Net_isSeen := ⟨by decide +kernel, zW_of 620 (by decide +kernel) (by decide +kernel), zW_of 125 (by decide +kernel) (by decide +kernel), by decide, by decide +kernel, by decide +kernel⟩
def f_Net_isSeen (o : Nat) (h : zH) (v1 : Int32) : Option (Int32) :=
  (f_Main_bitOf ((h.1 o 5) ||| (h.1 o 6)) v1).bind fun x1 =>
  if ¬ x1 = 1 then (
  some 0) else (
  some 1)
set_option maxRecDepth 20000 in
theorem k_Net_isSeen {l : Launch} {X : zX} (hl : l.stackTraces = false) {o : Nat} {h : zH} {v1 : Int32} : zGl l m_Net_isSeen X 0 0 (f_Net_isSeen o h v1) (0, [some (zr (some (3, o))), some (zi v1)], [], h) (fun x => .inr ((fun a => (.inl (some (zi a)), h) : Int32 → zF) x)) := by
  unfold f_Net_isSeen
  refine zG_run t_Net [(.aload_n 0, 0, 0), (.getfield 58, 3, 5), (.aload_n 0, 0, 0), (.getfield 61, 3, 6), (.ior, 0, 0), (.iload_n 1, 0, 0)] (10, [some (zr (some (3, o))), some (zi v1)], [zi v1, zi ((h.1 o 5) ||| (h.1 o 6))], h) (by decide +kernel) rfl ?_
  refine zG_callN (idx := 68) (host := "ScanPacker") (R := (fun a => (some (zi a), h))) (as := [zi ((h.1 o 5) ||| (h.1 o 6)), zi v1]) (rest := []) (n := 2) (fun a ha => c_Main_bitOf hl ha) (by decide +kernel) ⟨ok_Main_bitOf, by decide, by decide +kernel⟩ rfl (by decide +kernel) w_68 rfl rfl (Nat.le_of_ble_eq_true rfl) fun x1 => ?_
  refine zG_run t_Net [(.iconst 1, 0, 0)] (14, [some (zr (some (3, o))), some (zi v1)], [zi 1, zi x1], h) (by decide +kernel) rfl ?_
  refine zG_icmp (op := .ne) (off := 7) (tgt := 21) (by decide +kernel) rfl Iff.rfl (fun c2 => ?_) (fun c2 => ?_)
  · refine zG_run t_Net [(.iconst 0, 0, 0)] (22, [some (zr (some (3, o))), some (zi v1)], [zi 0], h) (by decide +kernel) rfl ?_
    exact zG_ret (r := some (zi 0)) rfl (zrd_z rfl (by decide +kernel) rfl)
  · refine zG_run t_Net [(.iconst 1, 0, 0), (.goto 4, 0, 0)] (22, [some (zr (some (3, o))), some (zi v1)], [zi 1], h) (by decide +kernel) rfl ?_
    exact zG_ret (r := some (zi 1)) rfl (zrd_z rfl (by decide +kernel) rfl)
theorem c_Net_isSeen {l : Launch} {X : zX} (hl : l.stackTraces = false) {o : Nat} {h : zH} {v1 : Int32} {x : Int32} (hx : f_Net_isSeen o h v1 = some x) : zCt l (true, 2) 2 m_Net_isSeen X 0 0 [zr (some (3, o)), zi v1] h ((fun a => (.inl (some (zi a)), h) : Int32 → zF) x) :=
  zG_ct (R := fun a => (.inl (some (zi a)), h)) (x := x) ok_Net_isSeen hl (Nat.le_of_ble_eq_true rfl) hx (k_Net_isSeen hl)
def m_Catalog_unlike : zM := (({ cls := "ScanPacker$Catalog", name := "unlike", desc := "(LScanPacker$Net;II)J" } : Jvm.MethodName), prog_2_method_9_code, 7, (Option.some Jvm.ClassFile.FieldType.long), [], 3)
theorem ok_Catalog_unlike : zMok m_Catalog_unlike := ⟨by decide +kernel, zW_of 616 (by decide +kernel) (by decide +kernel), zW_of 126 (by decide +kernel) (by decide +kernel), by decide, by decide +kernel, by decide +kernel⟩
def f_Catalog_unlike_b6 (o1 : Nat) (h : zH) (v2 : Int32) (v3 : Int32) (v4 : Int64) (v6 : Int32) : Option ((Int64 × Int32) ⊕ (Int64)) :=
  (f_Net_lines o1 h).bind fun x1 =>
  if x1 ≤ v6 then (
  some (.inr v4)) else (
  (f_Net_isSeen o1 h v6).bind fun x2 =>
    if x2 = 0 then (
    some (.inl (v4, (v6 + 1)))) else (
    zg (zb (v2 + 1) 45) <|
      zg (zb v6 22) <|
      zg (zb (v3 + 1) 45) <|
      zg (zb v6 22) <|
      some (.inl ((v4 ||| ((h.2.1 (75 + (1 + 1 * (v2 + 1).toNatClampNeg)) v6.toNatClampNeg) ^^^ (h.2.1 (75 + (1 + 1 * (v3 + 1).toNatClampNeg)) v6.toNatClampNeg))), (v6 + 1)))))
def f_Catalog_unlike (o1 : Nat) (h : zH) (v2 : Int32) (v3 : Int32) : Option (Int64) :=
  (zit zFU (fun s : Int64 × Int32 => f_Catalog_unlike_b6 o1 h v2 v3 s.1 s.2) (0, 0)).bind (fun y10 =>
  some y10)
set_option maxRecDepth 20000 in
theorem k_Catalog_unlike_b6 {l : Launch} {X : zX} (hl : l.stackTraces = false) {o1 : Nat} {h : zH} {v2 : Int32} {v3 : Int32} {v4 : Int64} {v6 : Int32} : zGl l m_Catalog_unlike X 0 0 (f_Catalog_unlike_b6 o1 h v2 v3 v4 v6) (6, [some (zr (some (1, 74))), some (zr (some (3, o1))), some (zi v2), some (zi v3), some (zl v4), none, some (zi v6)], [], h) (Sum.elim (fun s : Int64 × Int32 => .inl (6, [some (zr (some (1, 74))), some (zr (some (3, o1))), some (zi v2), some (zi v3), some (zl s.1), none, some (zi s.2)], [], h)) (fun y : Int64 => .inl (58, [none, none, none, none, some (zl y), none, none], [], h))) := by
  unfold f_Catalog_unlike_b6
  refine zG_run t_Catalog [(.iload 6, 0, 0), (.aload_n 1, 0, 0)] (9, [some (zr (some (1, 74))), some (zr (some (3, o1))), some (zi v2), some (zi v3), some (zl v4), none, some (zi v6)], [zr (some (3, o1)), zi v6], h) (by decide +kernel) rfl ?_
  refine zG_callV (idx := 46) (R := (fun a => (some (zi a), h))) (as := []) (rest := [zi v6]) (n := 0) (fun a ha => c_Net_lines hl ha) (by decide +kernel) ⟨ok_Net_lines, by decide, by decide +kernel⟩ rfl w_102 w_35 w_36 (by decide) rfl rfl rfl (Nat.le_of_ble_eq_true rfl) fun x1 => ?_
  refine zG_icmp (op := .ge) (off := 46) (tgt := 58) (by decide +kernel) rfl Iff.rfl (fun c8 => ?_) (fun c8 => ?_)
  · exact zG_end (L' := [none, none, none, none, some (zl v4), none, none]) rfl (And.intro rfl trivial)
  · refine zG_run t_Catalog [(.aload_n 1, 0, 0), (.iload 6, 0, 0)] (18, [some (zr (some (1, 74))), some (zr (some (3, o1))), some (zi v2), some (zi v3), some (zl v4), none, some (zi v6)], [zi v6, zr (some (3, o1))], h) (by decide +kernel) rfl ?_
    refine zG_callV (idx := 99) (R := (fun a => (some (zi a), h))) (as := [zi v6]) (rest := []) (n := 1) (fun a ha => c_Net_isSeen hl ha) (by decide +kernel) ⟨ok_Net_isSeen, by decide, by decide +kernel⟩ rfl w_125 w_126 w_127 (by decide) rfl rfl rfl (Nat.le_of_ble_eq_true rfl) fun x2 => ?_
    refine zG_if (op := .eq) (off := 31) (tgt := 52) (by decide +kernel) rfl Iff.rfl (fun c7 => ?_) (fun c7 => ?_)
    · refine zG_run t_Catalog [(.iinc 6 1, 0, 0), (.goto (-49), 0, 0)] (6, [some (zr (some (1, 74))), some (zr (some (3, o1))), some (zi v2), some (zi v3), some (zl v4), none, some (zi (v6 + 1))], [], h) (by decide +kernel) rfl ?_
      exact zG_end (L' := [some (zr (some (1, 74))), some (zr (some (3, o1))), some (zi v2), some (zi v3), some (zl v4), none, some (zi (v6 + 1))]) rfl (And.intro rfl (And.intro rfl (And.intro rfl (And.intro rfl (And.intro rfl (And.intro rfl trivial))))))
    · refine zG_run t_Catalog [(.lload 4, 0, 0), (.aload_n 0, 0, 0), (.getfield 11, 1, 4), (.iload_n 2, 0, 0), (.iconst 1, 0, 0), (.iadd, 0, 0)] (33, [some (zr (some (1, 74))), some (zr (some (3, o1))), some (zi v2), some (zi v3), some (zl v4), none, some (zi v6)], [zi (v2 + 1), zr (some (32, 75)), zl v4], h) (by decide +kernel) rfl ?_
      refine zG_ald (v := zr (some (33, (75 + (1 + 1 * (v2 + 1).toNatClampNeg))))) (n := 45) rfl (by decide +kernel) rfl rfl fun hb3 => ?_
      refine zG_run t_Catalog [(.iload 6, 0, 0)] (36, [some (zr (some (1, 74))), some (zr (some (3, o1))), some (zi v2), some (zi v3), some (zl v4), none, some (zi v6)], [zi v6, zr (some (33, (75 + (1 + 1 * (v2 + 1).toNatClampNeg)))), zl v4], h) (by decide +kernel) rfl ?_
      refine zG_ald (v := zl (h.2.1 (75 + (1 + 1 * (v2 + 1).toNatClampNeg)) v6.toNatClampNeg)) (n := 22) rfl (by decide +kernel) rfl rfl fun hb4 => ?_
      refine zG_run t_Catalog [(.aload_n 0, 0, 0), (.getfield 11, 1, 4), (.iload_n 3, 0, 0), (.iconst 1, 0, 0), (.iadd, 0, 0)] (44, [some (zr (some (1, 74))), some (zr (some (3, o1))), some (zi v2), some (zi v3), some (zl v4), none, some (zi v6)], [zi (v3 + 1), zr (some (32, 75)), zl (h.2.1 (75 + (1 + 1 * (v2 + 1).toNatClampNeg)) v6.toNatClampNeg), zl v4], h) (by decide +kernel) rfl ?_
      refine zG_ald (v := zr (some (33, (75 + (1 + 1 * (v3 + 1).toNatClampNeg))))) (n := 45) rfl (by decide +kernel) rfl rfl fun hb5 => ?_
      refine zG_run t_Catalog [(.iload 6, 0, 0)] (47, [some (zr (some (1, 74))), some (zr (some (3, o1))), some (zi v2), some (zi v3), some (zl v4), none, some (zi v6)], [zi v6, zr (some (33, (75 + (1 + 1 * (v3 + 1).toNatClampNeg)))), zl (h.2.1 (75 + (1 + 1 * (v2 + 1).toNatClampNeg)) v6.toNatClampNeg), zl v4], h) (by decide +kernel) rfl ?_
      refine zG_ald (v := zl (h.2.1 (75 + (1 + 1 * (v3 + 1).toNatClampNeg)) v6.toNatClampNeg)) (n := 22) rfl (by decide +kernel) rfl rfl fun hb6 => ?_
      refine zG_run t_Catalog [(.lxor, 0, 0), (.lor, 0, 0), (.lstore 4, 0, 0), (.iinc 6 1, 0, 0), (.goto (-49), 0, 0)] (6, [some (zr (some (1, 74))), some (zr (some (3, o1))), some (zi v2), some (zi v3), some (zl (v4 ||| ((h.2.1 (75 + (1 + 1 * (v2 + 1).toNatClampNeg)) v6.toNatClampNeg) ^^^ (h.2.1 (75 + (1 + 1 * (v3 + 1).toNatClampNeg)) v6.toNatClampNeg)))), none, some (zi (v6 + 1))], [], h) (by decide +kernel) rfl ?_
      exact zG_end (L' := [some (zr (some (1, 74))), some (zr (some (3, o1))), some (zi v2), some (zi v3), some (zl (v4 ||| ((h.2.1 (75 + (1 + 1 * (v2 + 1).toNatClampNeg)) v6.toNatClampNeg) ^^^ (h.2.1 (75 + (1 + 1 * (v3 + 1).toNatClampNeg)) v6.toNatClampNeg)))), none, some (zi (v6 + 1))]) rfl (And.intro rfl (And.intro rfl (And.intro rfl (And.intro rfl (And.intro rfl (And.intro rfl trivial))))))
set_option maxRecDepth 20000 in
theorem k_Catalog_unlike {l : Launch} {X : zX} (hl : l.stackTraces = false) {o1 : Nat} {h : zH} {v2 : Int32} {v3 : Int32} : zGl l m_Catalog_unlike X 0 0 (f_Catalog_unlike o1 h v2 v3) (0, [some (zr (some (1, 74))), some (zr (some (3, o1))), some (zi v2), some (zi v3), none, none, none], [], h) (fun x => .inr ((fun a => (.inl (some (zl a)), h) : Int64 → zF) x)) := by
  unfold f_Catalog_unlike
  refine zG_run t_Catalog [(.lconst 0, 0, 0), (.lstore 4, 0, 0), (.iconst 0, 0, 0), (.istore 6, 0, 0)] (6, [some (zr (some (1, 74))), some (zr (some (3, o1))), some (zi v2), some (zi v3), some (zl 0), none, some (zi 0)], [], h) (by decide +kernel) rfl ?_
  refine zG_forget (L' := [some (zr (some (1, 74))), some (zr (some (3, o1))), some (zi v2), some (zi v3), some (zl 0), none, some (zi 0)]) (And.intro rfl (And.intro rfl (And.intro rfl (And.intro rfl (And.intro rfl (And.intro rfl trivial)))))) ?_
  refine zG_bind (fun y : Int64 => (58, [none, none, none, none, some (zl y), none, none], [], h)) (zG_iter (fun s : Int64 × Int32 => (6, [some (zr (some (1, 74))), some (zr (some (3, o1))), some (zi v2), some (zi v3), some (zl s.1), none, some (zi s.2)], [], h)) fun s => k_Catalog_unlike_b6 hl) (fun y10 => ?_)
  refine zG_run t_Catalog [(.lload 4, 0, 0)] (60, [none, none, none, none, some (zl y10), none, none], [zl y10], h) (by decide +kernel) rfl ?_
  exact zG_ret (r := some (zl y10)) rfl (zrd_l rfl (by decide +kernel))
theorem c_Catalog_unlike {l : Launch} {X : zX} (hl : l.stackTraces = false) {o1 : Nat} {h : zH} {v2 : Int32} {v3 : Int32} {x : Int64} (hx : f_Catalog_unlike o1 h v2 v3 = some x) : zCt l (true, 2) 2 m_Catalog_unlike X 0 0 [zr (some (1, 74)), zr (some (3, o1)), zi v2, zi v3] h ((fun a => (.inl (some (zl a)), h) : Int64 → zF) x) :=
  zG_ct (R := fun a => (.inl (some (zl a)), h)) (x := x) ok_Catalog_unlike hl (Nat.le_of_ble_eq_true rfl) hx (k_Catalog_unlike hl)
def m_Catalog_findTests : zM := (({ cls := "ScanPacker$Catalog", name := "findTests", desc := "(LScanPacker$Net;)V" } : Jvm.MethodName), prog_2_method_19_code, 3, (Option.none : Option Jvm.ClassFile.FieldType), [], 4)
theorem ok_Catalog_findTests : zMok m_Catalog_findTests := ⟨by decide +kernel, zW_of 612 (by decide +kernel) (by decide +kernel), zW_of 126 (by decide +kernel) (by decide +kernel), by decide, by decide +kernel, by decide +kernel⟩
def f_Catalog_findTests_b7 (o1 : Nat) (h : zH) (v2 : Int32) : Option ((Int32 × zH) ⊕ (zH)) :=
  if (h.1 74 0) ≤ v2 then (
  some (.inr h)) else (
  (f_Catalog_unlike o1 h (-1) v2).bind fun x2 =>
    zg (zb v2 44) <|
    (some (zsL h 121 v2.toNatClampNeg x2)).bind fun h3 =>
    zg (zb v2 44) <|
    if (h3.2.1 121 v2.toNatClampNeg) = 0 then (
    some (.inl ((v2 + 1), h3))) else (
    (some (zsL h3 74 3 ((h3.2.1 74 3) ||| (zlshl 1 v2)))).bind fun h6 =>
      some (.inl ((v2 + 1), h6))))
def f_Catalog_findTests (o1 : Nat) (h : zH) : Option (zH) :=
  (some (zsL h 74 3 0)).bind fun h1 =>
  (zit zFU (fun s : Int32 × zH => f_Catalog_findTests_b7 o1 s.2 s.1) (0, h1)).bind (fun y10 =>
  some y10)
set_option maxRecDepth 20000 in
theorem k_Catalog_findTests_b7 {l : Launch} {X : zX} (hl : l.stackTraces = false) {o1 : Nat} {h : zH} {v2 : Int32} : zGl l m_Catalog_findTests X 0 0 (f_Catalog_findTests_b7 o1 h v2) (7, [some (zr (some (1, 74))), some (zr (some (3, o1))), some (zi v2)], [], h) (Sum.elim (fun s : Int32 × zH => .inl (7, [some (zr (some (1, 74))), some (zr (some (3, o1))), some (zi s.1)], [], s.2)) (fun y : zH => .inl (57, [none, none, none], [], y))) := by
  unfold f_Catalog_findTests_b7
  refine zG_run t_Catalog [(.iload_n 2, 0, 0), (.aload_n 0, 0, 0), (.getfield 52, 1, 0)] (12, [some (zr (some (1, 74))), some (zr (some (3, o1))), some (zi v2)], [zi (h.1 74 0), zi v2], h) (by decide +kernel) rfl ?_
  refine zG_icmp (op := .ge) (off := 45) (tgt := 57) (by decide +kernel) rfl Iff.rfl (fun c8 => ?_) (fun c8 => ?_)
  · exact zG_end (L' := [none, none, none]) rfl (trivial)
  · refine zG_run t_Catalog [(.aload_n 0, 0, 0), (.getfield 16, 1, 5), (.iload_n 2, 0, 0), (.aload_n 0, 0, 0), (.aload_n 1, 0, 0), (.iconst (-1), 0, 0), (.iload_n 2, 0, 0)] (24, [some (zr (some (1, 74))), some (zr (some (3, o1))), some (zi v2)], [zi v2, zi (-1), zr (some (3, o1)), zr (some (1, 74)), zi v2, zr (some (34, 121))], h) (by decide +kernel) rfl ?_
    refine zG_callV (idx := 127) (R := (fun a => (some (zl a), h))) (as := [zr (some (3, o1)), zi (-1), zi v2]) (rest := [zi v2, zr (some (34, 121))]) (n := 3) (fun a ha => c_Catalog_unlike hl ha) (by decide +kernel) ⟨ok_Catalog_unlike, by decide, by decide +kernel⟩ rfl w_128 w_129 w_130 (by decide) rfl rfl rfl (Nat.le_of_ble_eq_true rfl) fun x2 => ?_
    refine zG_guard fun hb4 => ?_
    refine zG_bind (fun y => (28, [some (zr (some (1, 74))), some (zr (some (3, o1))), some (zi v2)], [], y)) (zG_astc (h' := zsL h 121 v2.toNatClampNeg x2) rfl (by decide +kernel) hb4 rfl (zG_end (L' := [some (zr (some (1, 74))), some (zr (some (3, o1))), some (zi v2)]) rfl (And.intro rfl (And.intro rfl (And.intro rfl trivial))))) fun h3 => ?_
    refine zG_run t_Catalog [(.aload_n 0, 0, 0), (.getfield 16, 1, 5), (.iload_n 2, 0, 0)] (33, [some (zr (some (1, 74))), some (zr (some (3, o1))), some (zi v2)], [zi v2, zr (some (34, 121))], h3) (by decide +kernel) rfl ?_
    refine zG_ald (v := zl (h3.2.1 121 v2.toNatClampNeg)) (n := 44) rfl (by decide +kernel) rfl rfl fun hb5 => ?_
    refine zG_run t_Catalog [(.lconst 0, 0, 0), (.lcmp, 0, 0)] (36, [some (zr (some (1, 74))), some (zr (some (3, o1))), some (zi v2)], [zi (lg_cmp (h3.2.1 121 v2.toNatClampNeg) 0)], h3) (by decide +kernel) rfl ?_
    refine zG_if (op := .eq) (off := 15) (tgt := 51) (by decide +kernel) rfl zcmp0 (fun c7 => ?_) (fun c7 => ?_)
    · refine zG_run t_Catalog [(.iinc 2 1, 0, 0), (.goto (-47), 0, 0)] (7, [some (zr (some (1, 74))), some (zr (some (3, o1))), some (zi (v2 + 1))], [], h3) (by decide +kernel) rfl ?_
      exact zG_end (L' := [some (zr (some (1, 74))), some (zr (some (3, o1))), some (zi (v2 + 1))]) rfl (And.intro rfl (And.intro rfl (And.intro rfl trivial)))
    · refine zG_bind (fun y => (51, [some (zr (some (1, 74))), some (zr (some (3, o1))), some (zi v2)], [], y)) (zG_run t_Catalog [(.aload_n 0, 0, 0), (.dup, 0, 0), (.getfield 76, 1, 3), (.lconst 1, 0, 0), (.iload_n 2, 0, 0), (.lshl, 0, 0), (.lor, 0, 0), (.putfield 76, 1, 3)] (51, [some (zr (some (1, 74))), some (zr (some (3, o1))), some (zi v2)], [], zsL h3 74 3 ((h3.2.1 74 3) ||| (zlshl 1 v2))) (by decide +kernel) rfl (zG_end (L' := [some (zr (some (1, 74))), some (zr (some (3, o1))), some (zi v2)]) rfl (And.intro rfl (And.intro rfl (And.intro rfl trivial))))) fun h6 => ?_
      refine zG_run t_Catalog [(.iinc 2 1, 0, 0), (.goto (-47), 0, 0)] (7, [some (zr (some (1, 74))), some (zr (some (3, o1))), some (zi (v2 + 1))], [], h6) (by decide +kernel) rfl ?_
      exact zG_end (L' := [some (zr (some (1, 74))), some (zr (some (3, o1))), some (zi (v2 + 1))]) rfl (And.intro rfl (And.intro rfl (And.intro rfl trivial)))
set_option maxRecDepth 20000 in
theorem k_Catalog_findTests {l : Launch} {X : zX} (hl : l.stackTraces = false) {o1 : Nat} {h : zH} : zGl l m_Catalog_findTests X 0 0 (f_Catalog_findTests o1 h) (0, [some (zr (some (1, 74))), some (zr (some (3, o1))), none], [], h) (fun x => .inr ((fun a => (.inl none, a) : zH → zF) x)) := by
  unfold f_Catalog_findTests
  refine zG_bind (fun y => (5, [some (zr (some (1, 74))), some (zr (some (3, o1))), none], [], y)) (zG_run t_Catalog [(.aload_n 0, 0, 0), (.lconst 0, 0, 0), (.putfield 76, 1, 3)] (5, [some (zr (some (1, 74))), some (zr (some (3, o1))), none], [], zsL h 74 3 0) (by decide +kernel) rfl (zG_end (L' := [some (zr (some (1, 74))), some (zr (some (3, o1))), none]) rfl (And.intro rfl (And.intro rfl trivial)))) fun h1 => ?_
  refine zG_run t_Catalog [(.iconst 0, 0, 0), (.istore_n 2, 0, 0)] (7, [some (zr (some (1, 74))), some (zr (some (3, o1))), some (zi 0)], [], h1) (by decide +kernel) rfl ?_
  refine zG_forget (L' := [some (zr (some (1, 74))), some (zr (some (3, o1))), some (zi 0)]) (And.intro rfl (And.intro rfl (And.intro rfl trivial))) ?_
  refine zG_bind (fun y : zH => (57, [none, none, none], [], y)) (zG_iter (fun s : Int32 × zH => (7, [some (zr (some (1, 74))), some (zr (some (3, o1))), some (zi s.1)], [], s.2)) fun s => k_Catalog_findTests_b7 hl) (fun y10 => ?_)
  exact zG_ret (r := none) rfl (zrd_v rfl (by decide +kernel))
theorem c_Catalog_findTests {l : Launch} {X : zX} (hl : l.stackTraces = false) {o1 : Nat} {h : zH} {x : zH} (hx : f_Catalog_findTests o1 h = some x) : zCt l (true, 2) 2 m_Catalog_findTests X 0 0 [zr (some (1, 74)), zr (some (3, o1))] h ((fun a => (.inl none, a) : zH → zF) x) :=
  zG_ct (R := fun a => (.inl none, a)) (x := x) ok_Catalog_findTests hl (Nat.le_of_ble_eq_true rfl) hx (k_Catalog_findTests hl)
def m_Catalog_listCubeRows : zM := (({ cls := "ScanPacker$Catalog", name := "listCubeRows", desc := "(I)V" } : Jvm.MethodName), prog_2_method_20_code, 5, (Option.none : Option Jvm.ClassFile.FieldType), [], 1)
theorem ok_Catalog_listCubeRows : zMok m_Catalog_listCubeRows := ⟨by decide +kernel, zW_of 627 (by decide +kernel) (by decide +kernel), zW_of 126 (by decide +kernel) (by decide +kernel), by decide, by decide +kernel, by decide +kernel⟩
def f_Catalog_listCubeRows_b7 (h : zH) (v1 : Int32) (v2 : Int32) : Option ((Int32 × zH) ⊕ (zH)) :=
  if v1 ≤ v2 then (
  some (.inr h)) else (
  (some (zsI h 74 2 ((h.1 74 2) * 3))).bind fun h2 =>
    some (.inl ((v2 + 1), h2)))
def f_Catalog_listCubeRows_j117 (h : zH) (v1 : Int32) (v2 : Int32) (v3 : Int32) (v4 : Int32) (t0 : Int32) (t1 : Int32) (t2 : Int32) : Option ((Int32 × Int32 × zH) ⊕ (zH)) :=
  zg (zb t2 729) <|
  (some (zsI h 126 t2.toNatClampNeg (t1 ||| t0))).bind fun h14 =>
  some (.inl ((v3 / 3), (v4 + (-1)), h14))
def f_Catalog_listCubeRows_j93 (h : zH) (v1 : Int32) (v2 : Int32) (v3 : Int32) (v4 : Int32) (t0 : Int32) (t1 : Int32) (t2 : Int32) : Option ((Int32 × Int32 × zH) ⊕ (zH)) :=
  zg (zb t2 729) <|
  (some (zsI h 125 t2.toNatClampNeg (t1 ||| t0))).bind fun h11 =>
  zg (zb v2 729) <|
  if ¬ (zrem v3 3) = 1 then (
  f_Catalog_listCubeRows_j117 h11 v1 v2 v3 v4 0 (h11.1 126 v2.toNatClampNeg) v2) else (
  f_Catalog_listCubeRows_j117 h11 v1 v2 v3 v4 (zshl 1 v4) (h11.1 126 v2.toNatClampNeg) v2)
def f_Catalog_listCubeRows_b66 (h : zH) (v1 : Int32) (v2 : Int32) (v3 : Int32) (v4 : Int32) : Option ((Int32 × Int32 × zH) ⊕ (zH)) :=
  if v4 < 0 then (
  some (.inr h)) else (
  zg (zb v2 729) <|
    if ¬ (zrem v3 3) = 2 then (
    f_Catalog_listCubeRows_j93 h v1 v2 v3 v4 (zshl 1 v4) (h.1 125 v2.toNatClampNeg) v2) else (
    f_Catalog_listCubeRows_j93 h v1 v2 v3 v4 0 (h.1 125 v2.toNatClampNeg) v2))
def f_Catalog_listCubeRows_b30 (h : zH) (v1 : Int32) (v2 : Int32) : Option ((Int32 × zH) ⊕ (zH)) :=
  if (h.1 74 2) ≤ v2 then (
  some (.inr h)) else (
  if 729 ≤ v2 then (
    some (.inr h)) else (
    zg (zb v2 729) <|
      (some (zsI h 125 v2.toNatClampNeg 0)).bind fun h6 =>
      zg (zb v2 729) <|
      (some (zsI h6 126 v2.toNatClampNeg 0)).bind fun h8 =>
      (zit zFU (fun s : Int32 × Int32 × zH => f_Catalog_listCubeRows_b66 s.2.2 v1 v2 s.1 s.2.1) (v2, (v1 - 1), h8)).bind (fun y20 =>
      some (.inl ((v2 + 1), y20)))))
def f_Catalog_listCubeRows (h : zH) (v1 : Int32) : Option (zH) :=
  (some (zsI h 74 2 1)).bind fun h1 =>
  (zit zFU (fun s : Int32 × zH => f_Catalog_listCubeRows_b7 s.2 v1 s.1) (0, h1)).bind (fun y5 =>
  (zit zFU (fun s : Int32 × zH => f_Catalog_listCubeRows_b30 s.2 v1 s.1) (0, y5)).bind (fun y24 =>
    some y24))
set_option maxRecDepth 20000 in
theorem k_Catalog_listCubeRows_b7 {l : Launch} {X : zX} (hl : l.stackTraces = false) {h : zH} {v1 : Int32} {v2 : Int32} : zGl l m_Catalog_listCubeRows X 0 0 (f_Catalog_listCubeRows_b7 h v1 v2) (7, [some (zr (some (1, 74))), some (zi v1), some (zi v2), none, none], [], h) (Sum.elim (fun s : Int32 × zH => .inl (7, [some (zr (some (1, 74))), some (zi v1), some (zi s.1), none, none], [], s.2)) (fun y : zH => .inl (28, [some (zr (some (1, 74))), some (zi v1), none, none, none], [], y))) := by
  unfold f_Catalog_listCubeRows_b7
  refine zG_run t_Catalog [(.iload_n 2, 0, 0), (.iload_n 1, 0, 0)] (9, [some (zr (some (1, 74))), some (zi v1), some (zi v2), none, none], [zi v1, zi v2], h) (by decide +kernel) rfl ?_
  refine zG_icmp (op := .ge) (off := 19) (tgt := 28) (by decide +kernel) rfl Iff.rfl (fun c3 => ?_) (fun c3 => ?_)
  · exact zG_end (L' := [some (zr (some (1, 74))), some (zi v1), none, none, none]) rfl (And.intro rfl (And.intro rfl trivial))
  · refine zG_bind (fun y => (22, [some (zr (some (1, 74))), some (zi v1), some (zi v2), none, none], [], y)) (zG_run t_Catalog [(.aload_n 0, 0, 0), (.dup, 0, 0), (.getfield 131, 1, 2), (.iconst 3, 0, 0), (.imul, 0, 0), (.putfield 131, 1, 2)] (22, [some (zr (some (1, 74))), some (zi v1), some (zi v2), none, none], [], zsI h 74 2 ((h.1 74 2) * 3)) (by decide +kernel) rfl (zG_end (L' := [some (zr (some (1, 74))), some (zi v1), some (zi v2), none, none]) rfl (And.intro rfl (And.intro rfl (And.intro rfl trivial))))) fun h2 => ?_
    refine zG_run t_Catalog [(.iinc 2 1, 0, 0), (.goto (-18), 0, 0)] (7, [some (zr (some (1, 74))), some (zi v1), some (zi (v2 + 1)), none, none], [], h2) (by decide +kernel) rfl ?_
    exact zG_end (L' := [some (zr (some (1, 74))), some (zi v1), some (zi (v2 + 1)), none, none]) rfl (And.intro rfl (And.intro rfl (And.intro rfl trivial)))
set_option maxRecDepth 20000 in
theorem k_Catalog_listCubeRows_j117 {l : Launch} {X : zX} (hl : l.stackTraces = false) {h : zH} {v1 : Int32} {v2 : Int32} {v3 : Int32} {v4 : Int32} {t0 : Int32} {t1 : Int32} {t2 : Int32} : zGl l m_Catalog_listCubeRows X 0 0 (f_Catalog_listCubeRows_j117 h v1 v2 v3 v4 t0 t1 t2) (117, [some (zr (some (1, 74))), some (zi v1), some (zi v2), some (zi v3), some (zi v4)], [zi t0, zi t1, zi t2, zr (some (39, 126))], h) (Sum.elim (fun s : Int32 × Int32 × zH => .inl (66, [some (zr (some (1, 74))), some (zi v1), some (zi v2), some (zi s.1), some (zi s.2.1)], [], s.2.2)) (fun y : zH => .inl (129, [some (zr (some (1, 74))), some (zi v1), some (zi v2), none, none], [], y))) := by
  unfold f_Catalog_listCubeRows_j117
  refine zG_run t_Catalog [(.ior, 0, 0)] (118, [some (zr (some (1, 74))), some (zi v1), some (zi v2), some (zi v3), some (zi v4)], [zi (t1 ||| t0), zi t2, zr (some (39, 126))], h) (by decide +kernel) rfl ?_
  refine zG_guard fun hb15 => ?_
  refine zG_bind (fun y => (119, [some (zr (some (1, 74))), some (zi v1), some (zi v2), some (zi v3), some (zi v4)], [], y)) (zG_astc (h' := zsI h 126 t2.toNatClampNeg (t1 ||| t0)) rfl (by decide +kernel) hb15 rfl (zG_end (L' := [some (zr (some (1, 74))), some (zi v1), some (zi v2), some (zi v3), some (zi v4)]) rfl (And.intro rfl (And.intro rfl (And.intro rfl (And.intro rfl (And.intro rfl trivial))))))) fun h14 => ?_
  refine zG_run t_Catalog [(.iload_n 3, 0, 0), (.iconst 3, 0, 0)] (121, [some (zr (some (1, 74))), some (zi v1), some (zi v2), some (zi v3), some (zi v4)], [zi 3, zi v3], h14) (by decide +kernel) rfl ?_
  refine zG_idivc (by decide +kernel) (by decide) ?_
  refine zG_run t_Catalog [(.istore_n 3, 0, 0), (.iinc 4 (-1), 0, 0), (.goto (-60), 0, 0)] (66, [some (zr (some (1, 74))), some (zi v1), some (zi v2), some (zi (v3 / 3)), some (zi (v4 + (-1)))], [], h14) (by decide +kernel) rfl ?_
  exact zG_end (L' := [some (zr (some (1, 74))), some (zi v1), some (zi v2), some (zi (v3 / 3)), some (zi (v4 + (-1)))]) rfl (And.intro rfl (And.intro rfl (And.intro rfl (And.intro rfl (And.intro rfl trivial)))))
set_option maxRecDepth 20000 in
theorem k_Catalog_listCubeRows_j93 {l : Launch} {X : zX} (hl : l.stackTraces = false) {h : zH} {v1 : Int32} {v2 : Int32} {v3 : Int32} {v4 : Int32} {t0 : Int32} {t1 : Int32} {t2 : Int32} : zGl l m_Catalog_listCubeRows X 0 0 (f_Catalog_listCubeRows_j93 h v1 v2 v3 v4 t0 t1 t2) (93, [some (zr (some (1, 74))), some (zi v1), some (zi v2), some (zi v3), some (zi v4)], [zi t0, zi t1, zi t2, zr (some (38, 125))], h) (Sum.elim (fun s : Int32 × Int32 × zH => .inl (66, [some (zr (some (1, 74))), some (zi v1), some (zi v2), some (zi s.1), some (zi s.2.1)], [], s.2.2)) (fun y : zH => .inl (129, [some (zr (some (1, 74))), some (zi v1), some (zi v2), none, none], [], y))) := by
  unfold f_Catalog_listCubeRows_j93
  refine zG_run t_Catalog [(.ior, 0, 0)] (94, [some (zr (some (1, 74))), some (zi v1), some (zi v2), some (zi v3), some (zi v4)], [zi (t1 ||| t0), zi t2, zr (some (38, 125))], h) (by decide +kernel) rfl ?_
  refine zG_guard fun hb12 => ?_
  refine zG_bind (fun y => (95, [some (zr (some (1, 74))), some (zi v1), some (zi v2), some (zi v3), some (zi v4)], [], y)) (zG_astc (h' := zsI h 125 t2.toNatClampNeg (t1 ||| t0)) rfl (by decide +kernel) hb12 rfl (zG_end (L' := [some (zr (some (1, 74))), some (zi v1), some (zi v2), some (zi v3), some (zi v4)]) rfl (And.intro rfl (And.intro rfl (And.intro rfl (And.intro rfl (And.intro rfl trivial))))))) fun h11 => ?_
  refine zG_run t_Catalog [(.aload_n 0, 0, 0), (.getfield 33, 1, 10), (.iload_n 2, 0, 0), (.dup2, 0, 0)] (101, [some (zr (some (1, 74))), some (zi v1), some (zi v2), some (zi v3), some (zi v4)], [zi v2, zr (some (39, 126)), zi v2, zr (some (39, 126))], h11) (by decide +kernel) rfl ?_
  refine zG_ald (v := zi (h11.1 126 v2.toNatClampNeg)) (n := 729) rfl (by decide +kernel) rfl rfl fun hb13 => ?_
  refine zG_run t_Catalog [(.iload_n 3, 0, 0), (.iconst 3, 0, 0)] (104, [some (zr (some (1, 74))), some (zi v1), some (zi v2), some (zi v3), some (zi v4)], [zi 3, zi v3, zi (h11.1 126 v2.toNatClampNeg), zi v2, zr (some (39, 126))], h11) (by decide +kernel) rfl ?_
  refine zG_iremc (by decide +kernel) (by decide) ?_
  refine zG_run t_Catalog [(.iconst 1, 0, 0)] (106, [some (zr (some (1, 74))), some (zi v1), some (zi v2), some (zi v3), some (zi v4)], [zi 1, zi (zrem v3 3), zi (h11.1 126 v2.toNatClampNeg), zi v2, zr (some (39, 126))], h11) (by decide +kernel) rfl ?_
  refine zG_icmp (op := .ne) (off := 10) (tgt := 116) (by decide +kernel) rfl Iff.rfl (fun c16 => ?_) (fun c16 => ?_)
  · refine zG_run t_Catalog [(.iconst 0, 0, 0)] (117, [some (zr (some (1, 74))), some (zi v1), some (zi v2), some (zi v3), some (zi v4)], [zi 0, zi (h11.1 126 v2.toNatClampNeg), zi v2, zr (some (39, 126))], h11) (by decide +kernel) rfl ?_
    exact zG_forget (L' := [some (zr (some (1, 74))), some (zi v1), some (zi v2), some (zi v3), some (zi v4)]) (And.intro rfl (And.intro rfl (And.intro rfl (And.intro rfl (And.intro rfl trivial))))) (k_Catalog_listCubeRows_j117 hl)
  · refine zG_run t_Catalog [(.iconst 1, 0, 0), (.iload 4, 0, 0), (.ishl, 0, 0), (.goto 4, 0, 0)] (117, [some (zr (some (1, 74))), some (zi v1), some (zi v2), some (zi v3), some (zi v4)], [zi (zshl 1 v4), zi (h11.1 126 v2.toNatClampNeg), zi v2, zr (some (39, 126))], h11) (by decide +kernel) rfl ?_
    exact zG_forget (L' := [some (zr (some (1, 74))), some (zi v1), some (zi v2), some (zi v3), some (zi v4)]) (And.intro rfl (And.intro rfl (And.intro rfl (And.intro rfl (And.intro rfl trivial))))) (k_Catalog_listCubeRows_j117 hl)
set_option maxRecDepth 20000 in
theorem k_Catalog_listCubeRows_b66 {l : Launch} {X : zX} (hl : l.stackTraces = false) {h : zH} {v1 : Int32} {v2 : Int32} {v3 : Int32} {v4 : Int32} : zGl l m_Catalog_listCubeRows X 0 0 (f_Catalog_listCubeRows_b66 h v1 v2 v3 v4) (66, [some (zr (some (1, 74))), some (zi v1), some (zi v2), some (zi v3), some (zi v4)], [], h) (Sum.elim (fun s : Int32 × Int32 × zH => .inl (66, [some (zr (some (1, 74))), some (zi v1), some (zi v2), some (zi s.1), some (zi s.2.1)], [], s.2.2)) (fun y : zH => .inl (129, [some (zr (some (1, 74))), some (zi v1), some (zi v2), none, none], [], y))) := by
  unfold f_Catalog_listCubeRows_b66
  refine zG_run t_Catalog [(.iload 4, 0, 0)] (68, [some (zr (some (1, 74))), some (zi v1), some (zi v2), some (zi v3), some (zi v4)], [zi v4], h) (by decide +kernel) rfl ?_
  refine zG_if (op := .lt) (off := 61) (tgt := 129) (by decide +kernel) rfl Iff.rfl (fun c18 => ?_) (fun c18 => ?_)
  · exact zG_end (L' := [some (zr (some (1, 74))), some (zi v1), some (zi v2), none, none]) rfl (And.intro rfl (And.intro rfl (And.intro rfl trivial)))
  · refine zG_run t_Catalog [(.aload_n 0, 0, 0), (.getfield 30, 1, 9), (.iload_n 2, 0, 0), (.dup2, 0, 0)] (77, [some (zr (some (1, 74))), some (zi v1), some (zi v2), some (zi v3), some (zi v4)], [zi v2, zr (some (38, 125)), zi v2, zr (some (38, 125))], h) (by decide +kernel) rfl ?_
    refine zG_ald (v := zi (h.1 125 v2.toNatClampNeg)) (n := 729) rfl (by decide +kernel) rfl rfl fun hb10 => ?_
    refine zG_run t_Catalog [(.iload_n 3, 0, 0), (.iconst 3, 0, 0)] (80, [some (zr (some (1, 74))), some (zi v1), some (zi v2), some (zi v3), some (zi v4)], [zi 3, zi v3, zi (h.1 125 v2.toNatClampNeg), zi v2, zr (some (38, 125))], h) (by decide +kernel) rfl ?_
    refine zG_iremc (by decide +kernel) (by decide) ?_
    refine zG_run t_Catalog [(.iconst 2, 0, 0)] (82, [some (zr (some (1, 74))), some (zi v1), some (zi v2), some (zi v3), some (zi v4)], [zi 2, zi (zrem v3 3), zi (h.1 125 v2.toNatClampNeg), zi v2, zr (some (38, 125))], h) (by decide +kernel) rfl ?_
    refine zG_icmp (op := .ne) (off := 7) (tgt := 89) (by decide +kernel) rfl Iff.rfl (fun c17 => ?_) (fun c17 => ?_)
    · refine zG_run t_Catalog [(.iconst 1, 0, 0), (.iload 4, 0, 0), (.ishl, 0, 0)] (93, [some (zr (some (1, 74))), some (zi v1), some (zi v2), some (zi v3), some (zi v4)], [zi (zshl 1 v4), zi (h.1 125 v2.toNatClampNeg), zi v2, zr (some (38, 125))], h) (by decide +kernel) rfl ?_
      exact zG_forget (L' := [some (zr (some (1, 74))), some (zi v1), some (zi v2), some (zi v3), some (zi v4)]) (And.intro rfl (And.intro rfl (And.intro rfl (And.intro rfl (And.intro rfl trivial))))) (k_Catalog_listCubeRows_j93 hl)
    · refine zG_run t_Catalog [(.iconst 0, 0, 0), (.goto 7, 0, 0)] (93, [some (zr (some (1, 74))), some (zi v1), some (zi v2), some (zi v3), some (zi v4)], [zi 0, zi (h.1 125 v2.toNatClampNeg), zi v2, zr (some (38, 125))], h) (by decide +kernel) rfl ?_
      exact zG_forget (L' := [some (zr (some (1, 74))), some (zi v1), some (zi v2), some (zi v3), some (zi v4)]) (And.intro rfl (And.intro rfl (And.intro rfl (And.intro rfl (And.intro rfl trivial))))) (k_Catalog_listCubeRows_j93 hl)
set_option maxRecDepth 20000 in
theorem k_Catalog_listCubeRows_b30 {l : Launch} {X : zX} (hl : l.stackTraces = false) {h : zH} {v1 : Int32} {v2 : Int32} : zGl l m_Catalog_listCubeRows X 0 0 (f_Catalog_listCubeRows_b30 h v1 v2) (30, [some (zr (some (1, 74))), some (zi v1), some (zi v2), none, none], [], h) (Sum.elim (fun s : Int32 × zH => .inl (30, [some (zr (some (1, 74))), some (zi v1), some (zi s.1), none, none], [], s.2)) (fun y : zH => .inl (135, [none, none, none, none, none], [], y))) := by
  unfold f_Catalog_listCubeRows_b30
  refine zG_run t_Catalog [(.iload_n 2, 0, 0), (.aload_n 0, 0, 0), (.getfield 131, 1, 2)] (35, [some (zr (some (1, 74))), some (zi v1), some (zi v2), none, none], [zi (h.1 74 2), zi v2], h) (by decide +kernel) rfl ?_
  refine zG_icmp (op := .ge) (off := 100) (tgt := 135) (by decide +kernel) rfl Iff.rfl (fun c22 => ?_) (fun c22 => ?_)
  · exact zG_end (L' := [none, none, none, none, none]) rfl (trivial)
  · refine zG_run t_Catalog [(.iload_n 2, 0, 0), (.sipush 729, 0, 0)] (42, [some (zr (some (1, 74))), some (zi v1), some (zi v2), none, none], [zi 729, zi v2], h) (by decide +kernel) rfl ?_
    refine zG_icmp (op := .ge) (off := 93) (tgt := 135) (by decide +kernel) rfl Iff.rfl (fun c21 => ?_) (fun c21 => ?_)
    · exact zG_end (L' := [none, none, none, none, none]) rfl (trivial)
    · refine zG_run t_Catalog [(.iload_n 2, 0, 0), (.istore_n 3, 0, 0), (.aload_n 0, 0, 0), (.getfield 30, 1, 9), (.iload_n 2, 0, 0), (.iconst 0, 0, 0)] (53, [some (zr (some (1, 74))), some (zi v1), some (zi v2), some (zi v2), none], [zi 0, zi v2, zr (some (38, 125))], h) (by decide +kernel) rfl ?_
      refine zG_guard fun hb7 => ?_
      refine zG_bind (fun y => (54, [some (zr (some (1, 74))), some (zi v1), some (zi v2), some (zi v2), none], [], y)) (zG_astc (h' := zsI h 125 v2.toNatClampNeg 0) rfl (by decide +kernel) hb7 rfl (zG_end (L' := [some (zr (some (1, 74))), some (zi v1), some (zi v2), some (zi v2), none]) rfl (And.intro rfl (And.intro rfl (And.intro rfl (And.intro rfl trivial)))))) fun h6 => ?_
      refine zG_run t_Catalog [(.aload_n 0, 0, 0), (.getfield 33, 1, 10), (.iload_n 2, 0, 0), (.iconst 0, 0, 0)] (60, [some (zr (some (1, 74))), some (zi v1), some (zi v2), some (zi v2), none], [zi 0, zi v2, zr (some (39, 126))], h6) (by decide +kernel) rfl ?_
      refine zG_guard fun hb9 => ?_
      refine zG_bind (fun y => (61, [some (zr (some (1, 74))), some (zi v1), some (zi v2), some (zi v2), none], [], y)) (zG_astc (h' := zsI h6 126 v2.toNatClampNeg 0) rfl (by decide +kernel) hb9 rfl (zG_end (L' := [some (zr (some (1, 74))), some (zi v1), some (zi v2), some (zi v2), none]) rfl (And.intro rfl (And.intro rfl (And.intro rfl (And.intro rfl trivial)))))) fun h8 => ?_
      refine zG_run t_Catalog [(.iload_n 1, 0, 0), (.iconst 1, 0, 0), (.isub, 0, 0), (.istore 4, 0, 0)] (66, [some (zr (some (1, 74))), some (zi v1), some (zi v2), some (zi v2), some (zi (v1 - 1))], [], h8) (by decide +kernel) rfl ?_
      refine zG_forget (L' := [some (zr (some (1, 74))), some (zi v1), some (zi v2), some (zi v2), some (zi (v1 - 1))]) (And.intro rfl (And.intro rfl (And.intro rfl (And.intro rfl (And.intro rfl trivial))))) ?_
      refine zG_bind (fun y : zH => (129, [some (zr (some (1, 74))), some (zi v1), some (zi v2), none, none], [], y)) (zG_iter (fun s : Int32 × Int32 × zH => (66, [some (zr (some (1, 74))), some (zi v1), some (zi v2), some (zi s.1), some (zi s.2.1)], [], s.2.2)) fun s => k_Catalog_listCubeRows_b66 hl) (fun y20 => ?_)
      refine zG_run t_Catalog [(.iinc 2 1, 0, 0), (.goto (-102), 0, 0)] (30, [some (zr (some (1, 74))), some (zi v1), some (zi (v2 + 1)), none, none], [], y20) (by decide +kernel) rfl ?_
      exact zG_end (L' := [some (zr (some (1, 74))), some (zi v1), some (zi (v2 + 1)), none, none]) rfl (And.intro rfl (And.intro rfl (And.intro rfl trivial)))
set_option maxRecDepth 20000 in
theorem k_Catalog_listCubeRows {l : Launch} {X : zX} (hl : l.stackTraces = false) {h : zH} {v1 : Int32} : zGl l m_Catalog_listCubeRows X 0 0 (f_Catalog_listCubeRows h v1) (0, [some (zr (some (1, 74))), some (zi v1), none, none, none], [], h) (fun x => .inr ((fun a => (.inl none, a) : zH → zF) x)) := by
  unfold f_Catalog_listCubeRows
  refine zG_bind (fun y => (5, [some (zr (some (1, 74))), some (zi v1), none, none, none], [], y)) (zG_run t_Catalog [(.aload_n 0, 0, 0), (.iconst 1, 0, 0), (.putfield 131, 1, 2)] (5, [some (zr (some (1, 74))), some (zi v1), none, none, none], [], zsI h 74 2 1) (by decide +kernel) rfl (zG_end (L' := [some (zr (some (1, 74))), some (zi v1), none, none, none]) rfl (And.intro rfl (And.intro rfl trivial)))) fun h1 => ?_
  refine zG_run t_Catalog [(.iconst 0, 0, 0), (.istore_n 2, 0, 0)] (7, [some (zr (some (1, 74))), some (zi v1), some (zi 0), none, none], [], h1) (by decide +kernel) rfl ?_
  refine zG_forget (L' := [some (zr (some (1, 74))), some (zi v1), some (zi 0), none, none]) (And.intro rfl (And.intro rfl (And.intro rfl trivial))) ?_
  refine zG_bind (fun y : zH => (28, [some (zr (some (1, 74))), some (zi v1), none, none, none], [], y)) (zG_iter (fun s : Int32 × zH => (7, [some (zr (some (1, 74))), some (zi v1), some (zi s.1), none, none], [], s.2)) fun s => k_Catalog_listCubeRows_b7 hl) (fun y5 => ?_)
  refine zG_run t_Catalog [(.iconst 0, 0, 0), (.istore_n 2, 0, 0)] (30, [some (zr (some (1, 74))), some (zi v1), some (zi 0), none, none], [], y5) (by decide +kernel) rfl ?_
  refine zG_forget (L' := [some (zr (some (1, 74))), some (zi v1), some (zi 0), none, none]) (And.intro rfl (And.intro rfl (And.intro rfl trivial))) ?_
  refine zG_bind (fun y : zH => (135, [none, none, none, none, none], [], y)) (zG_iter (fun s : Int32 × zH => (30, [some (zr (some (1, 74))), some (zi v1), some (zi s.1), none, none], [], s.2)) fun s => k_Catalog_listCubeRows_b30 hl) (fun y24 => ?_)
  exact zG_ret (r := none) rfl (zrd_v rfl (by decide +kernel))
theorem c_Catalog_listCubeRows {l : Launch} {X : zX} (hl : l.stackTraces = false) {h : zH} {v1 : Int32} {x : zH} (hx : f_Catalog_listCubeRows h v1 = some x) : zCt l (true, 2) 2 m_Catalog_listCubeRows X 0 0 [zr (some (1, 74)), zi v1] h ((fun a => (.inl none, a) : zH → zF) x) :=
  zG_ct (R := fun a => (.inl none, a)) (x := x) ok_Catalog_listCubeRows hl (Nat.le_of_ble_eq_true rfl) hx (k_Catalog_listCubeRows hl)
def m_Waves_copyInputs : zM := (({ cls := "ScanPacker$Waves", name := "copyInputs", desc := "(LScanPacker$Waves;)V" } : Jvm.MethodName), prog_11_method_4_code, 3, (Option.none : Option Jvm.ClassFile.FieldType), [], 1)
theorem ok_Waves_copyInputs : zMok m_Waves_copyInputs := ⟨by decide +kernel, zW_of 640 (by decide +kernel) (by decide +kernel), zW_of 127 (by decide +kernel) (by decide +kernel), by decide, by decide +kernel, by decide +kernel⟩
def f_Waves_copyInputs_b2 (o : Nat) (o1 : Nat) (h : zH) (v2 : Int32) : Option ((Int32 × zH) ⊕ (zH)) :=
  if 6 ≤ v2 then (
  some (.inr h)) else (
  zg (zb v2 6) <|
    zg (zb v2 6) <|
    (some (zsL h (o + 1) v2.toNatClampNeg (h.2.1 (o1 + 1) v2.toNatClampNeg))).bind fun h2 =>
    zg (zb v2 6) <|
    zg (zb v2 6) <|
    (some (zsL h2 (o + 2) v2.toNatClampNeg (h2.2.1 (o1 + 2) v2.toNatClampNeg))).bind fun h5 =>
    some (.inl ((v2 + 1), h5)))
def f_Waves_copyInputs (o : Nat) (o1 : Nat) (h : zH) : Option (zH) :=
  (zit zFU (fun s : Int32 × zH => f_Waves_copyInputs_b2 o o1 s.2 s.1) (0, h)).bind (fun y9 =>
  some y9)
set_option maxRecDepth 20000 in
theorem k_Waves_copyInputs_b2 {l : Launch} {X : zX} (hl : l.stackTraces = false) {o : Nat} {o1 : Nat} {h : zH} {v2 : Int32} : zGl l m_Waves_copyInputs X 0 0 (f_Waves_copyInputs_b2 o o1 h v2) (2, [some (zr (some (10, o))), some (zr (some (10, o1))), some (zi v2)], [], h) (Sum.elim (fun s : Int32 × zH => .inl (2, [some (zr (some (10, o))), some (zr (some (10, o1))), some (zi s.1)], [], s.2)) (fun y : zH => .inl (38, [none, none, none], [], y))) := by
  unfold f_Waves_copyInputs_b2
  refine zG_run t_Waves [(.iload_n 2, 0, 0), (.bipush 6, 0, 0)] (5, [some (zr (some (10, o))), some (zr (some (10, o1))), some (zi v2)], [zi 6, zi v2], h) (by decide +kernel) rfl ?_
  refine zG_icmp (op := .ge) (off := 33) (tgt := 38) (by decide +kernel) rfl Iff.rfl (fun c7 => ?_) (fun c7 => ?_)
  · exact zG_end (L' := [none, none, none]) rfl (trivial)
  · refine zG_run t_Waves [(.aload_n 0, 0, 0), (.getfield 9, 10, 0), (.iload_n 2, 0, 0), (.aload_n 1, 0, 0), (.getfield 9, 10, 0), (.iload_n 2, 0, 0)] (18, [some (zr (some (10, o))), some (zr (some (10, o1))), some (zi v2)], [zi v2, zr (some (40, (o1 + 1))), zi v2, zr (some (40, (o + 1)))], h) (by decide +kernel) rfl ?_
    refine zG_ald (v := zl (h.2.1 (o1 + 1) v2.toNatClampNeg)) (n := 6) rfl (by decide +kernel) rfl rfl fun hb1 => ?_
    refine zG_guard fun hb3 => ?_
    refine zG_bind (fun y => (20, [some (zr (some (10, o))), some (zr (some (10, o1))), some (zi v2)], [], y)) (zG_astc (h' := zsL h (o + 1) v2.toNatClampNeg (h.2.1 (o1 + 1) v2.toNatClampNeg)) rfl (by decide +kernel) hb3 rfl (zG_end (L' := [some (zr (some (10, o))), some (zr (some (10, o1))), some (zi v2)]) rfl (And.intro rfl (And.intro rfl (And.intro rfl trivial))))) fun h2 => ?_
    refine zG_run t_Waves [(.aload_n 0, 0, 0), (.getfield 15, 10, 1), (.iload_n 2, 0, 0), (.aload_n 1, 0, 0), (.getfield 15, 10, 1), (.iload_n 2, 0, 0)] (30, [some (zr (some (10, o))), some (zr (some (10, o1))), some (zi v2)], [zi v2, zr (some (41, (o1 + 2))), zi v2, zr (some (41, (o + 2)))], h2) (by decide +kernel) rfl ?_
    refine zG_ald (v := zl (h2.2.1 (o1 + 2) v2.toNatClampNeg)) (n := 6) rfl (by decide +kernel) rfl rfl fun hb4 => ?_
    refine zG_guard fun hb6 => ?_
    refine zG_bind (fun y => (32, [some (zr (some (10, o))), some (zr (some (10, o1))), some (zi v2)], [], y)) (zG_astc (h' := zsL h2 (o + 2) v2.toNatClampNeg (h2.2.1 (o1 + 2) v2.toNatClampNeg)) rfl (by decide +kernel) hb6 rfl (zG_end (L' := [some (zr (some (10, o))), some (zr (some (10, o1))), some (zi v2)]) rfl (And.intro rfl (And.intro rfl (And.intro rfl trivial))))) fun h5 => ?_
    refine zG_run t_Waves [(.iinc 2 1, 0, 0), (.goto (-33), 0, 0)] (2, [some (zr (some (10, o))), some (zr (some (10, o1))), some (zi (v2 + 1))], [], h5) (by decide +kernel) rfl ?_
    exact zG_end (L' := [some (zr (some (10, o))), some (zr (some (10, o1))), some (zi (v2 + 1))]) rfl (And.intro rfl (And.intro rfl (And.intro rfl trivial)))
set_option maxRecDepth 20000 in
theorem k_Waves_copyInputs {l : Launch} {X : zX} (hl : l.stackTraces = false) {o : Nat} {o1 : Nat} {h : zH} : zGl l m_Waves_copyInputs X 0 0 (f_Waves_copyInputs o o1 h) (0, [some (zr (some (10, o))), some (zr (some (10, o1))), none], [], h) (fun x => .inr ((fun a => (.inl none, a) : zH → zF) x)) := by
  unfold f_Waves_copyInputs
  refine zG_run t_Waves [(.iconst 0, 0, 0), (.istore_n 2, 0, 0)] (2, [some (zr (some (10, o))), some (zr (some (10, o1))), some (zi 0)], [], h) (by decide +kernel) rfl ?_
  refine zG_forget (L' := [some (zr (some (10, o))), some (zr (some (10, o1))), some (zi 0)]) (And.intro rfl (And.intro rfl (And.intro rfl trivial))) ?_
  refine zG_bind (fun y : zH => (38, [none, none, none], [], y)) (zG_iter (fun s : Int32 × zH => (2, [some (zr (some (10, o))), some (zr (some (10, o1))), some (zi s.1)], [], s.2)) fun s => k_Waves_copyInputs_b2 hl) (fun y9 => ?_)
  exact zG_ret (r := none) rfl (zrd_v rfl (by decide +kernel))
theorem c_Waves_copyInputs {l : Launch} {X : zX} (hl : l.stackTraces = false) {o : Nat} {o1 : Nat} {h : zH} {x : zH} (hx : f_Waves_copyInputs o o1 h = some x) : zCt l (true, 2) 2 m_Waves_copyInputs X 0 0 [zr (some (10, o)), zr (some (10, o1))] h ((fun a => (.inl none, a) : zH → zF) x) :=
  zG_ct (R := fun a => (.inl none, a)) (x := x) ok_Waves_copyInputs hl (Nat.le_of_ble_eq_true rfl) hx (k_Waves_copyInputs hl)
def m_Catalog_setCubeRows : zM := (({ cls := "ScanPacker$Catalog", name := "setCubeRows", desc := "(II)V" } : Jvm.MethodName), prog_2_method_22_code, 7, (Option.none : Option Jvm.ClassFile.FieldType), [], 2)
theorem ok_Catalog_setCubeRows : zMok m_Catalog_setCubeRows := ⟨by decide +kernel, zW_of 635 (by decide +kernel) (by decide +kernel), zW_of 126 (by decide +kernel) (by decide +kernel), by decide, by decide +kernel, by decide +kernel⟩
def f_Catalog_setCubeRows_b48 (h : zH) (v1 : Int32) (v2 : Int32) (v3 : Int32) (v4 : Int32) (v5 : Int32) (v6 : Int32) : Option ((Int32 × zH) ⊕ (zH)) :=
  if v1 ≤ v6 then (
  some (.inr h)) else (
  (f_Main_bitOf v5 v6).bind fun x4 =>
    (f_Main_bitOf (v4 &&& (v5 ^^^ (-1))) v6).bind fun x5 =>
    (f_Waves_setInput 127 h v6 (zlshl x4.toInt64 v3) (zlshl x5.toInt64 v3)).bind fun x6 =>
    some (.inl ((v6 + 1), x6)))
def f_Catalog_setCubeRows_b9 (h : zH) (v1 : Int32) (v2 : Int32) (v3 : Int32) : Option ((Int32 × zH) ⊕ (zH)) :=
  if 64 ≤ v3 then (
  some (.inr h)) else (
  if (h.1 74 2) ≤ (v2 + v3) then (
    some (.inr h)) else (
    zg (zb (v2 + v3) 729) <|
      zg (zb (v2 + v3) 729) <|
      (zit zFU (fun s : Int32 × zH => f_Catalog_setCubeRows_b48 s.2 v1 v2 v3 (h.1 125 (v2 + v3).toNatClampNeg) (h.1 126 (v2 + v3).toNatClampNeg) s.1) (0, h)).bind (fun y9 =>
      some (.inl ((v3 + 1), y9)))))
def f_Catalog_setCubeRows (h : zH) (v1 : Int32) (v2 : Int32) : Option (zH) :=
  (f_Waves_unsetInputs 127 h).bind fun x1 =>
  (zit zFU (fun s : Int32 × zH => f_Catalog_setCubeRows_b9 s.2 v1 v2 s.1) (0, x1)).bind (fun y13 =>
  (f_Waves_copyInputs 132 127 y13).bind fun x14 =>
    some x14)
set_option maxRecDepth 20000 in
theorem k_Catalog_setCubeRows_b48 {l : Launch} {X : zX} (hl : l.stackTraces = false) {h : zH} {v1 : Int32} {v2 : Int32} {v3 : Int32} {v4 : Int32} {v5 : Int32} {v6 : Int32} : zGl l m_Catalog_setCubeRows X 0 0 (f_Catalog_setCubeRows_b48 h v1 v2 v3 v4 v5 v6) (48, [some (zr (some (1, 74))), some (zi v1), some (zi v2), some (zi v3), some (zi v4), some (zi v5), some (zi v6)], [], h) (Sum.elim (fun s : Int32 × zH => .inl (48, [some (zr (some (1, 74))), some (zi v1), some (zi v2), some (zi v3), some (zi v4), some (zi v5), some (zi s.1)], [], s.2)) (fun y : zH => .inl (94, [some (zr (some (1, 74))), some (zi v1), some (zi v2), some (zi v3), none, none, none], [], y))) := by
  unfold f_Catalog_setCubeRows_b48
  refine zG_run t_Catalog [(.iload 6, 0, 0), (.iload_n 1, 0, 0)] (51, [some (zr (some (1, 74))), some (zi v1), some (zi v2), some (zi v3), some (zi v4), some (zi v5), some (zi v6)], [zi v1, zi v6], h) (by decide +kernel) rfl ?_
  refine zG_icmp (op := .ge) (off := 43) (tgt := 94) (by decide +kernel) rfl Iff.rfl (fun c7 => ?_) (fun c7 => ?_)
  · exact zG_end (L' := [some (zr (some (1, 74))), some (zi v1), some (zi v2), some (zi v3), none, none, none]) rfl (And.intro rfl (And.intro rfl (And.intro rfl (And.intro rfl trivial))))
  · refine zG_run t_Catalog [(.aload_n 0, 0, 0), (.getfield 39, 1, 11), (.iload 6, 0, 0), (.iload 5, 0, 0), (.iload 6, 0, 0)] (64, [some (zr (some (1, 74))), some (zi v1), some (zi v2), some (zi v3), some (zi v4), some (zi v5), some (zi v6)], [zi v6, zi v5, zi v6, zr (some (10, 127))], h) (by decide +kernel) rfl ?_
    refine zG_callN (idx := 146) (host := "ScanPacker") (R := (fun a => (some (zi a), h))) (as := [zi v5, zi v6]) (rest := [zi v6, zr (some (10, 127))]) (n := 2) (fun a ha => c_Main_bitOf hl ha) (by decide +kernel) ⟨ok_Main_bitOf, by decide, by decide +kernel⟩ rfl (by decide +kernel) w_68 rfl rfl (Nat.le_of_ble_eq_true rfl) fun x4 => ?_
    refine zG_run t_Catalog [(.i2l, 0, 0), (.iload_n 3, 0, 0), (.lshl, 0, 0), (.iload 4, 0, 0), (.iload 5, 0, 0), (.iconst (-1), 0, 0), (.ixor, 0, 0), (.iand, 0, 0), (.iload 6, 0, 0)] (79, [some (zr (some (1, 74))), some (zi v1), some (zi v2), some (zi v3), some (zi v4), some (zi v5), some (zi v6)], [zi v6, zi (v4 &&& (v5 ^^^ (-1))), zl (zlshl x4.toInt64 v3), zi v6, zr (some (10, 127))], h) (by decide +kernel) rfl ?_
    refine zG_callN (idx := 146) (host := "ScanPacker") (R := (fun a => (some (zi a), h))) (as := [zi (v4 &&& (v5 ^^^ (-1))), zi v6]) (rest := [zl (zlshl x4.toInt64 v3), zi v6, zr (some (10, 127))]) (n := 2) (fun a ha => c_Main_bitOf hl ha) (by decide +kernel) ⟨ok_Main_bitOf, by decide, by decide +kernel⟩ rfl (by decide +kernel) w_68 rfl rfl (Nat.le_of_ble_eq_true rfl) fun x5 => ?_
    refine zG_run t_Catalog [(.i2l, 0, 0), (.iload_n 3, 0, 0), (.lshl, 0, 0)] (85, [some (zr (some (1, 74))), some (zi v1), some (zi v2), some (zi v3), some (zi v4), some (zi v5), some (zi v6)], [zl (zlshl x5.toInt64 v3), zl (zlshl x4.toInt64 v3), zi v6, zr (some (10, 127))], h) (by decide +kernel) rfl ?_
    refine zG_callV (idx := 85) (R := (fun a => (none, a))) (as := [zi v6, zl (zlshl x4.toInt64 v3), zl (zlshl x5.toInt64 v3)]) (rest := []) (n := 3) (fun a ha => c_Waves_setInput hl ha) (by decide +kernel) ⟨ok_Waves_setInput, by decide, by decide +kernel⟩ rfl w_108 w_109 w_110 (by decide) rfl rfl rfl (Nat.le_of_ble_eq_true rfl) fun x6 => ?_
    refine zG_run t_Catalog [(.iinc 6 1, 0, 0), (.goto (-43), 0, 0)] (48, [some (zr (some (1, 74))), some (zi v1), some (zi v2), some (zi v3), some (zi v4), some (zi v5), some (zi (v6 + 1))], [], x6) (by decide +kernel) rfl ?_
    exact zG_end (L' := [some (zr (some (1, 74))), some (zi v1), some (zi v2), some (zi v3), some (zi v4), some (zi v5), some (zi (v6 + 1))]) rfl (And.intro rfl (And.intro rfl (And.intro rfl (And.intro rfl (And.intro rfl (And.intro rfl (And.intro rfl trivial)))))))
set_option maxRecDepth 20000 in
theorem k_Catalog_setCubeRows_b9 {l : Launch} {X : zX} (hl : l.stackTraces = false) {h : zH} {v1 : Int32} {v2 : Int32} {v3 : Int32} : zGl l m_Catalog_setCubeRows X 0 0 (f_Catalog_setCubeRows_b9 h v1 v2 v3) (9, [some (zr (some (1, 74))), some (zi v1), some (zi v2), some (zi v3), none, none, none], [], h) (Sum.elim (fun s : Int32 × zH => .inl (9, [some (zr (some (1, 74))), some (zi v1), some (zi v2), some (zi s.1), none, none, none], [], s.2)) (fun y : zH => .inl (100, [some (zr (some (1, 74))), none, none, none, none, none, none], [], y))) := by
  unfold f_Catalog_setCubeRows_b9
  refine zG_run t_Catalog [(.iload_n 3, 0, 0), (.bipush 64, 0, 0)] (12, [some (zr (some (1, 74))), some (zi v1), some (zi v2), some (zi v3), none, none, none], [zi 64, zi v3], h) (by decide +kernel) rfl ?_
  refine zG_icmp (op := .ge) (off := 88) (tgt := 100) (by decide +kernel) rfl Iff.rfl (fun c11 => ?_) (fun c11 => ?_)
  · exact zG_end (L' := [some (zr (some (1, 74))), none, none, none, none, none, none]) rfl (And.intro rfl trivial)
  · refine zG_run t_Catalog [(.iload_n 2, 0, 0), (.iload_n 3, 0, 0), (.iadd, 0, 0), (.aload_n 0, 0, 0), (.getfield 131, 1, 2)] (22, [some (zr (some (1, 74))), some (zi v1), some (zi v2), some (zi v3), none, none, none], [zi (h.1 74 2), zi (v2 + v3)], h) (by decide +kernel) rfl ?_
    refine zG_icmp (op := .ge) (off := 78) (tgt := 100) (by decide +kernel) rfl Iff.rfl (fun c10 => ?_) (fun c10 => ?_)
    · exact zG_end (L' := [some (zr (some (1, 74))), none, none, none, none, none, none]) rfl (And.intro rfl trivial)
    · refine zG_run t_Catalog [(.aload_n 0, 0, 0), (.getfield 30, 1, 9), (.iload_n 2, 0, 0), (.iload_n 3, 0, 0), (.iadd, 0, 0)] (32, [some (zr (some (1, 74))), some (zi v1), some (zi v2), some (zi v3), none, none, none], [zi (v2 + v3), zr (some (38, 125))], h) (by decide +kernel) rfl ?_
      refine zG_ald (v := zi (h.1 125 (v2 + v3).toNatClampNeg)) (n := 729) rfl (by decide +kernel) rfl rfl fun hb2 => ?_
      refine zG_run t_Catalog [(.istore 4, 0, 0), (.aload_n 0, 0, 0), (.getfield 33, 1, 10), (.iload_n 2, 0, 0), (.iload_n 3, 0, 0), (.iadd, 0, 0)] (42, [some (zr (some (1, 74))), some (zi v1), some (zi v2), some (zi v3), some (zi (h.1 125 (v2 + v3).toNatClampNeg)), none, none], [zi (v2 + v3), zr (some (39, 126))], h) (by decide +kernel) rfl ?_
      refine zG_ald (v := zi (h.1 126 (v2 + v3).toNatClampNeg)) (n := 729) rfl (by decide +kernel) rfl rfl fun hb3 => ?_
      refine zG_run t_Catalog [(.istore 5, 0, 0), (.iconst 0, 0, 0), (.istore 6, 0, 0)] (48, [some (zr (some (1, 74))), some (zi v1), some (zi v2), some (zi v3), some (zi (h.1 125 (v2 + v3).toNatClampNeg)), some (zi (h.1 126 (v2 + v3).toNatClampNeg)), some (zi 0)], [], h) (by decide +kernel) rfl ?_
      refine zG_forget (L' := [some (zr (some (1, 74))), some (zi v1), some (zi v2), some (zi v3), some (zi (h.1 125 (v2 + v3).toNatClampNeg)), some (zi (h.1 126 (v2 + v3).toNatClampNeg)), some (zi 0)]) (And.intro rfl (And.intro rfl (And.intro rfl (And.intro rfl (And.intro rfl (And.intro rfl (And.intro rfl trivial))))))) ?_
      refine zG_bind (fun y : zH => (94, [some (zr (some (1, 74))), some (zi v1), some (zi v2), some (zi v3), none, none, none], [], y)) (zG_iter (fun s : Int32 × zH => (48, [some (zr (some (1, 74))), some (zi v1), some (zi v2), some (zi v3), some (zi (h.1 125 (v2 + v3).toNatClampNeg)), some (zi (h.1 126 (v2 + v3).toNatClampNeg)), some (zi s.1)], [], s.2)) fun s => k_Catalog_setCubeRows_b48 hl) (fun y9 => ?_)
      refine zG_run t_Catalog [(.iinc 3 1, 0, 0), (.goto (-88), 0, 0)] (9, [some (zr (some (1, 74))), some (zi v1), some (zi v2), some (zi (v3 + 1)), none, none, none], [], y9) (by decide +kernel) rfl ?_
      exact zG_end (L' := [some (zr (some (1, 74))), some (zi v1), some (zi v2), some (zi (v3 + 1)), none, none, none]) rfl (And.intro rfl (And.intro rfl (And.intro rfl (And.intro rfl trivial))))
set_option maxRecDepth 20000 in
theorem k_Catalog_setCubeRows {l : Launch} {X : zX} (hl : l.stackTraces = false) {h : zH} {v1 : Int32} {v2 : Int32} : zGl l m_Catalog_setCubeRows X 0 0 (f_Catalog_setCubeRows h v1 v2) (0, [some (zr (some (1, 74))), some (zi v1), some (zi v2), none, none, none, none], [], h) (fun x => .inr ((fun a => (.inl none, a) : zH → zF) x)) := by
  unfold f_Catalog_setCubeRows
  refine zG_run t_Catalog [(.aload_n 0, 0, 0), (.getfield 39, 1, 11)] (4, [some (zr (some (1, 74))), some (zi v1), some (zi v2), none, none, none, none], [zr (some (10, 127))], h) (by decide +kernel) rfl ?_
  refine zG_callV (idx := 82) (R := (fun a => (none, a))) (as := []) (rest := []) (n := 0) (fun a ha => c_Waves_unsetInputs hl ha) (by decide +kernel) ⟨ok_Waves_unsetInputs, by decide, by decide +kernel⟩ rfl w_103 w_104 w_105 (by decide) rfl rfl rfl (Nat.le_of_ble_eq_true rfl) fun x1 => ?_
  refine zG_run t_Catalog [(.iconst 0, 0, 0), (.istore_n 3, 0, 0)] (9, [some (zr (some (1, 74))), some (zi v1), some (zi v2), some (zi 0), none, none, none], [], x1) (by decide +kernel) rfl ?_
  refine zG_forget (L' := [some (zr (some (1, 74))), some (zi v1), some (zi v2), some (zi 0), none, none, none]) (And.intro rfl (And.intro rfl (And.intro rfl (And.intro rfl trivial)))) ?_
  refine zG_bind (fun y : zH => (100, [some (zr (some (1, 74))), none, none, none, none, none, none], [], y)) (zG_iter (fun s : Int32 × zH => (9, [some (zr (some (1, 74))), some (zi v1), some (zi v2), some (zi s.1), none, none, none], [], s.2)) fun s => k_Catalog_setCubeRows_b9 hl) (fun y13 => ?_)
  refine zG_run t_Catalog [(.aload_n 0, 0, 0), (.getfield 43, 1, 12), (.aload_n 0, 0, 0), (.getfield 39, 1, 11)] (108, [some (zr (some (1, 74))), none, none, none, none, none, none], [zr (some (10, 127)), zr (some (10, 132))], y13) (by decide +kernel) rfl ?_
  refine zG_callV (idx := 150) (R := (fun a => (none, a))) (as := [zr (some (10, 127))]) (rest := []) (n := 1) (fun a ha => c_Waves_copyInputs hl ha) (by decide +kernel) ⟨ok_Waves_copyInputs, by decide, by decide +kernel⟩ rfl w_137 w_138 w_139 (by decide) rfl rfl rfl (Nat.le_of_ble_eq_true rfl) fun x14 => ?_
  exact zG_ret (r := none) rfl (zrd_v rfl (by decide +kernel))
theorem c_Catalog_setCubeRows {l : Launch} {X : zX} (hl : l.stackTraces = false) {h : zH} {v1 : Int32} {v2 : Int32} {x : zH} (hx : f_Catalog_setCubeRows h v1 v2 = some x) : zCt l (true, 2) 2 m_Catalog_setCubeRows X 0 0 [zr (some (1, 74)), zi v1, zi v2] h ((fun a => (.inl none, a) : zH → zF) x) :=
  zG_ct (R := fun a => (.inl none, a)) (x := x) ok_Catalog_setCubeRows hl (Nat.le_of_ble_eq_true rfl) hx (k_Catalog_setCubeRows hl)
def m_Catalog_isLost : zM := (({ cls := "ScanPacker$Catalog", name := "isLost", desc := "(I)Z" } : Jvm.MethodName), prog_2_method_4_code, 2, (Option.some Jvm.ClassFile.FieldType.boolean), [], 1)
theorem ok_Catalog_isLost : zMok m_Catalog_isLost := ⟨by decide +kernel, zW_of 644 (by decide +kernel) (by decide +kernel), zW_of 126 (by decide +kernel) (by decide +kernel), by decide, by decide +kernel, by decide +kernel⟩
def f_Catalog_isLost (h : zH) (v1 : Int32) : Option (Int32) :=
  if ¬ ((zlushr (h.2.1 74 3) v1) &&& 1) = 0 then (
  some 0) else (
  some 1)
set_option maxRecDepth 20000 in
theorem k_Catalog_isLost {l : Launch} {X : zX} (hl : l.stackTraces = false) {h : zH} {v1 : Int32} : zGl l m_Catalog_isLost X 0 0 (f_Catalog_isLost h v1) (0, [some (zr (some (1, 74))), some (zi v1)], [], h) (fun x => .inr ((fun a => (.inl (some (zi a)), h) : Int32 → zF) x)) := by
  unfold f_Catalog_isLost
  refine zG_run t_Catalog [(.aload_n 0, 0, 0), (.getfield 76, 1, 3), (.iload_n 1, 0, 0), (.lushr, 0, 0), (.lconst 1, 0, 0), (.land, 0, 0), (.lconst 0, 0, 0), (.lcmp, 0, 0)] (10, [some (zr (some (1, 74))), some (zi v1)], [zi (lg_cmp ((zlushr (h.2.1 74 3) v1) &&& 1) 0)], h) (by decide +kernel) rfl ?_
  refine zG_if (op := .ne) (off := 7) (tgt := 17) (by decide +kernel) rfl (not_congr zcmp0) (fun c1 => ?_) (fun c1 => ?_)
  · refine zG_run t_Catalog [(.iconst 0, 0, 0)] (18, [some (zr (some (1, 74))), some (zi v1)], [zi 0], h) (by decide +kernel) rfl ?_
    exact zG_ret (r := some (zi 0)) rfl (zrd_z rfl (by decide +kernel) rfl)
  · refine zG_run t_Catalog [(.iconst 1, 0, 0), (.goto 4, 0, 0)] (18, [some (zr (some (1, 74))), some (zi v1)], [zi 1], h) (by decide +kernel) rfl ?_
    exact zG_ret (r := some (zi 1)) rfl (zrd_z rfl (by decide +kernel) rfl)
theorem c_Catalog_isLost {l : Launch} {X : zX} (hl : l.stackTraces = false) {h : zH} {v1 : Int32} {x : Int32} (hx : f_Catalog_isLost h v1 = some x) : zCt l (true, 2) 2 m_Catalog_isLost X 0 0 [zr (some (1, 74)), zi v1] h ((fun a => (.inl (some (zi a)), h) : Int32 → zF) x) :=
  zG_ct (R := fun a => (.inl (some (zi a)), h)) (x := x) ok_Catalog_isLost hl (Nat.le_of_ble_eq_true rfl) hx (k_Catalog_isLost hl)
def m_Waves_tellApart : zM := (({ cls := "ScanPacker$Waves", name := "tellApart", desc := "(LScanPacker$Waves;LScanPacker$Net;)J" } : Jvm.MethodName), prog_11_method_7_code, 6, (Option.some Jvm.ClassFile.FieldType.long), [], 3)
theorem ok_Waves_tellApart : zMok m_Waves_tellApart := ⟨by decide +kernel, zW_of 648 (by decide +kernel) (by decide +kernel), zW_of 127 (by decide +kernel) (by decide +kernel), by decide, by decide +kernel, by decide +kernel⟩
def f_Waves_tellApart_b5 (o : Nat) (o1 : Nat) (o2 : Nat) (h : zH) (v3 : Int64) (v5 : Int32) : Option ((Int64 × Int32) ⊕ (Int64)) :=
  (f_Net_lines o2 h).bind fun x1 =>
  if x1 ≤ v5 then (
  some (.inr v3)) else (
  (f_Net_isSeen o2 h v5).bind fun x2 =>
    if x2 = 0 then (
    some (.inl (v3, (v5 + 1)))) else (
    zg (zb v5 22) <|
      zg (zb v5 22) <|
      zg (zb v5 22) <|
      zg (zb v5 22) <|
      some (.inl ((v3 ||| (((h.2.1 (o + 3) v5.toNatClampNeg) &&& (h.2.1 (o1 + 4) v5.toNatClampNeg)) ||| ((h.2.1 (o + 4) v5.toNatClampNeg) &&& (h.2.1 (o1 + 3) v5.toNatClampNeg)))), (v5 + 1)))))
def f_Waves_tellApart (o : Nat) (o1 : Nat) (o2 : Nat) (h : zH) : Option (Int64) :=
  (zit zFU (fun s : Int64 × Int32 => f_Waves_tellApart_b5 o o1 o2 h s.1 s.2) (0, 0)).bind (fun y10 =>
  some y10)
set_option maxRecDepth 20000 in
theorem k_Waves_tellApart_b5 {l : Launch} {X : zX} (hl : l.stackTraces = false) {o : Nat} {o1 : Nat} {o2 : Nat} {h : zH} {v3 : Int64} {v5 : Int32} : zGl l m_Waves_tellApart X 0 0 (f_Waves_tellApart_b5 o o1 o2 h v3 v5) (5, [some (zr (some (10, o))), some (zr (some (10, o1))), some (zr (some (3, o2))), some (zl v3), none, some (zi v5)], [], h) (Sum.elim (fun s : Int64 × Int32 => .inl (5, [some (zr (some (10, o))), some (zr (some (10, o1))), some (zr (some (3, o2))), some (zl s.1), none, some (zi s.2)], [], h)) (fun y : Int64 => .inl (63, [none, none, none, some (zl y), none, none], [], h))) := by
  unfold f_Waves_tellApart_b5
  refine zG_run t_Waves [(.iload 5, 0, 0), (.aload_n 2, 0, 0)] (8, [some (zr (some (10, o))), some (zr (some (10, o1))), some (zr (some (3, o2))), some (zl v3), none, some (zi v5)], [zr (some (3, o2)), zi v5], h) (by decide +kernel) rfl ?_
  refine zG_callV (idx := 24) (R := (fun a => (some (zi a), h))) (as := []) (rest := [zi v5]) (n := 0) (fun a ha => c_Net_lines hl ha) (by decide +kernel) ⟨ok_Net_lines, by decide, by decide +kernel⟩ rfl w_111 w_35 w_36 (by decide) rfl rfl rfl (Nat.le_of_ble_eq_true rfl) fun x1 => ?_
  refine zG_icmp (op := .ge) (off := 52) (tgt := 63) (by decide +kernel) rfl Iff.rfl (fun c8 => ?_) (fun c8 => ?_)
  · exact zG_end (L' := [none, none, none, some (zl v3), none, none]) rfl (And.intro rfl trivial)
  · refine zG_run t_Waves [(.aload_n 2, 0, 0), (.iload 5, 0, 0)] (17, [some (zr (some (10, o))), some (zr (some (10, o1))), some (zr (some (3, o2))), some (zl v3), none, some (zi v5)], [zi v5, zr (some (3, o2))], h) (by decide +kernel) rfl ?_
    refine zG_callV (idx := 51) (R := (fun a => (some (zi a), h))) (as := [zi v5]) (rest := []) (n := 1) (fun a ha => c_Net_isSeen hl ha) (by decide +kernel) ⟨ok_Net_isSeen, by decide, by decide +kernel⟩ rfl w_146 w_126 w_127 (by decide) rfl rfl rfl (Nat.le_of_ble_eq_true rfl) fun x2 => ?_
    refine zG_if (op := .eq) (off := 37) (tgt := 57) (by decide +kernel) rfl Iff.rfl (fun c7 => ?_) (fun c7 => ?_)
    · refine zG_run t_Waves [(.iinc 5 1, 0, 0), (.goto (-55), 0, 0)] (5, [some (zr (some (10, o))), some (zr (some (10, o1))), some (zr (some (3, o2))), some (zl v3), none, some (zi (v5 + 1))], [], h) (by decide +kernel) rfl ?_
      exact zG_end (L' := [some (zr (some (10, o))), some (zr (some (10, o1))), some (zr (some (3, o2))), some (zl v3), none, some (zi (v5 + 1))]) rfl (And.intro rfl (And.intro rfl (And.intro rfl (And.intro rfl (And.intro rfl trivial)))))
    · refine zG_run t_Waves [(.lload_n 3, 0, 0), (.aload_n 0, 0, 0), (.getfield 18, 10, 2), (.iload 5, 0, 0)] (30, [some (zr (some (10, o))), some (zr (some (10, o1))), some (zr (some (3, o2))), some (zl v3), none, some (zi v5)], [zi v5, zr (some (42, (o + 3))), zl v3], h) (by decide +kernel) rfl ?_
      refine zG_ald (v := zl (h.2.1 (o + 3) v5.toNatClampNeg)) (n := 22) rfl (by decide +kernel) rfl rfl fun hb3 => ?_
      refine zG_run t_Waves [(.aload_n 1, 0, 0), (.getfield 21, 10, 3), (.iload 5, 0, 0)] (37, [some (zr (some (10, o))), some (zr (some (10, o1))), some (zr (some (3, o2))), some (zl v3), none, some (zi v5)], [zi v5, zr (some (43, (o1 + 4))), zl (h.2.1 (o + 3) v5.toNatClampNeg), zl v3], h) (by decide +kernel) rfl ?_
      refine zG_ald (v := zl (h.2.1 (o1 + 4) v5.toNatClampNeg)) (n := 22) rfl (by decide +kernel) rfl rfl fun hb4 => ?_
      refine zG_run t_Waves [(.land, 0, 0), (.aload_n 0, 0, 0), (.getfield 21, 10, 3), (.iload 5, 0, 0)] (45, [some (zr (some (10, o))), some (zr (some (10, o1))), some (zr (some (3, o2))), some (zl v3), none, some (zi v5)], [zi v5, zr (some (43, (o + 4))), zl ((h.2.1 (o + 3) v5.toNatClampNeg) &&& (h.2.1 (o1 + 4) v5.toNatClampNeg)), zl v3], h) (by decide +kernel) rfl ?_
      refine zG_ald (v := zl (h.2.1 (o + 4) v5.toNatClampNeg)) (n := 22) rfl (by decide +kernel) rfl rfl fun hb5 => ?_
      refine zG_run t_Waves [(.aload_n 1, 0, 0), (.getfield 18, 10, 2), (.iload 5, 0, 0)] (52, [some (zr (some (10, o))), some (zr (some (10, o1))), some (zr (some (3, o2))), some (zl v3), none, some (zi v5)], [zi v5, zr (some (42, (o1 + 3))), zl (h.2.1 (o + 4) v5.toNatClampNeg), zl ((h.2.1 (o + 3) v5.toNatClampNeg) &&& (h.2.1 (o1 + 4) v5.toNatClampNeg)), zl v3], h) (by decide +kernel) rfl ?_
      refine zG_ald (v := zl (h.2.1 (o1 + 3) v5.toNatClampNeg)) (n := 22) rfl (by decide +kernel) rfl rfl fun hb6 => ?_
      refine zG_run t_Waves [(.land, 0, 0), (.lor, 0, 0), (.lor, 0, 0), (.lstore_n 3, 0, 0), (.iinc 5 1, 0, 0), (.goto (-55), 0, 0)] (5, [some (zr (some (10, o))), some (zr (some (10, o1))), some (zr (some (3, o2))), some (zl (v3 ||| (((h.2.1 (o + 3) v5.toNatClampNeg) &&& (h.2.1 (o1 + 4) v5.toNatClampNeg)) ||| ((h.2.1 (o + 4) v5.toNatClampNeg) &&& (h.2.1 (o1 + 3) v5.toNatClampNeg))))), none, some (zi (v5 + 1))], [], h) (by decide +kernel) rfl ?_
      exact zG_end (L' := [some (zr (some (10, o))), some (zr (some (10, o1))), some (zr (some (3, o2))), some (zl (v3 ||| (((h.2.1 (o + 3) v5.toNatClampNeg) &&& (h.2.1 (o1 + 4) v5.toNatClampNeg)) ||| ((h.2.1 (o + 4) v5.toNatClampNeg) &&& (h.2.1 (o1 + 3) v5.toNatClampNeg))))), none, some (zi (v5 + 1))]) rfl (And.intro rfl (And.intro rfl (And.intro rfl (And.intro rfl (And.intro rfl trivial)))))
set_option maxRecDepth 20000 in
theorem k_Waves_tellApart {l : Launch} {X : zX} (hl : l.stackTraces = false) {o : Nat} {o1 : Nat} {o2 : Nat} {h : zH} : zGl l m_Waves_tellApart X 0 0 (f_Waves_tellApart o o1 o2 h) (0, [some (zr (some (10, o))), some (zr (some (10, o1))), some (zr (some (3, o2))), none, none, none], [], h) (fun x => .inr ((fun a => (.inl (some (zl a)), h) : Int64 → zF) x)) := by
  unfold f_Waves_tellApart
  refine zG_run t_Waves [(.lconst 0, 0, 0), (.lstore_n 3, 0, 0), (.iconst 0, 0, 0), (.istore 5, 0, 0)] (5, [some (zr (some (10, o))), some (zr (some (10, o1))), some (zr (some (3, o2))), some (zl 0), none, some (zi 0)], [], h) (by decide +kernel) rfl ?_
  refine zG_forget (L' := [some (zr (some (10, o))), some (zr (some (10, o1))), some (zr (some (3, o2))), some (zl 0), none, some (zi 0)]) (And.intro rfl (And.intro rfl (And.intro rfl (And.intro rfl (And.intro rfl trivial))))) ?_
  refine zG_bind (fun y : Int64 => (63, [none, none, none, some (zl y), none, none], [], h)) (zG_iter (fun s : Int64 × Int32 => (5, [some (zr (some (10, o))), some (zr (some (10, o1))), some (zr (some (3, o2))), some (zl s.1), none, some (zi s.2)], [], h)) fun s => k_Waves_tellApart_b5 hl) (fun y10 => ?_)
  refine zG_run t_Waves [(.lload_n 3, 0, 0)] (64, [none, none, none, some (zl y10), none, none], [zl y10], h) (by decide +kernel) rfl ?_
  exact zG_ret (r := some (zl y10)) rfl (zrd_l rfl (by decide +kernel))
theorem c_Waves_tellApart {l : Launch} {X : zX} (hl : l.stackTraces = false) {o : Nat} {o1 : Nat} {o2 : Nat} {h : zH} {x : Int64} (hx : f_Waves_tellApart o o1 o2 h = some x) : zCt l (true, 2) 2 m_Waves_tellApart X 0 0 [zr (some (10, o)), zr (some (10, o1)), zr (some (3, o2))] h ((fun a => (.inl (some (zl a)), h) : Int64 → zF) x) :=
  zG_ct (R := fun a => (.inl (some (zl a)), h)) (x := x) ok_Waves_tellApart hl (Nat.le_of_ble_eq_true rfl) hx (k_Waves_tellApart hl)
def m_Integer_bitCount : zM := (({ cls := "java/lang/Integer", name := "bitCount", desc := "(I)I" } : Jvm.MethodName), prog_19_method_49_code, 1, (Option.some Jvm.ClassFile.FieldType.int), [], 1)
theorem ok_Integer_bitCount : zMok m_Integer_bitCount := ⟨by decide +kernel, zW_of 656 (by decide +kernel) (by decide +kernel), zW_of 133 (by decide +kernel) (by decide +kernel), by decide, by decide +kernel, by decide +kernel⟩
def f_Integer_bitCount (v0 : Int32) : Option (Int32) :=
  some ((((((((v0 - ((zushr v0 1) &&& 1431655765)) &&& 858993459) + ((zushr (v0 - ((zushr v0 1) &&& 1431655765)) 2) &&& 858993459)) + (zushr (((v0 - ((zushr v0 1) &&& 1431655765)) &&& 858993459) + ((zushr (v0 - ((zushr v0 1) &&& 1431655765)) 2) &&& 858993459)) 4)) &&& 252645135) + (zushr (((((v0 - ((zushr v0 1) &&& 1431655765)) &&& 858993459) + ((zushr (v0 - ((zushr v0 1) &&& 1431655765)) 2) &&& 858993459)) + (zushr (((v0 - ((zushr v0 1) &&& 1431655765)) &&& 858993459) + ((zushr (v0 - ((zushr v0 1) &&& 1431655765)) 2) &&& 858993459)) 4)) &&& 252645135) 8)) + (zushr ((((((v0 - ((zushr v0 1) &&& 1431655765)) &&& 858993459) + ((zushr (v0 - ((zushr v0 1) &&& 1431655765)) 2) &&& 858993459)) + (zushr (((v0 - ((zushr v0 1) &&& 1431655765)) &&& 858993459) + ((zushr (v0 - ((zushr v0 1) &&& 1431655765)) 2) &&& 858993459)) 4)) &&& 252645135) + (zushr (((((v0 - ((zushr v0 1) &&& 1431655765)) &&& 858993459) + ((zushr (v0 - ((zushr v0 1) &&& 1431655765)) 2) &&& 858993459)) + (zushr (((v0 - ((zushr v0 1) &&& 1431655765)) &&& 858993459) + ((zushr (v0 - ((zushr v0 1) &&& 1431655765)) 2) &&& 858993459)) 4)) &&& 252645135) 8)) 16)) &&& 63)
set_option maxRecDepth 20000 in
theorem k_Integer_bitCount {l : Launch} {X : zX} (hl : l.stackTraces = false) {h : zH} {v0 : Int32} : zGl l m_Integer_bitCount X 0 0 (f_Integer_bitCount v0) (0, [some (zi v0)], [], h) (fun x => .inr ((fun a => (.inl (some (zi a)), h) : Int32 → zF) x)) := by
  unfold f_Integer_bitCount
  refine zG_run t_Integer [(.iload_n 0, 0, 0), (.iload_n 0, 0, 0), (.iconst 1, 0, 0), (.iushr, 0, 0)] (4, [some (zi v0)], [zi (zushr v0 1), zi v0], h) (by decide +kernel) rfl ?_
  refine zG_ldcw (v := 1431655765) (by decide +kernel) w_150 ?_
  refine zG_run t_Integer [(.iand, 0, 0), (.isub, 0, 0), (.istore_n 0, 0, 0), (.iload_n 0, 0, 0)] (11, [some (zi (v0 - ((zushr v0 1) &&& 1431655765)))], [zi (v0 - ((zushr v0 1) &&& 1431655765))], h) (by decide +kernel) rfl ?_
  refine zG_ldcw (v := 858993459) (by decide +kernel) w_151 ?_
  refine zG_run t_Integer [(.iand, 0, 0), (.iload_n 0, 0, 0), (.iconst 2, 0, 0), (.iushr, 0, 0)] (18, [some (zi (v0 - ((zushr v0 1) &&& 1431655765)))], [zi (zushr (v0 - ((zushr v0 1) &&& 1431655765)) 2), zi ((v0 - ((zushr v0 1) &&& 1431655765)) &&& 858993459)], h) (by decide +kernel) rfl ?_
  refine zG_ldcw (v := 858993459) (by decide +kernel) w_151 ?_
  refine zG_run t_Integer [(.iand, 0, 0), (.iadd, 0, 0), (.istore_n 0, 0, 0), (.iload_n 0, 0, 0), (.iload_n 0, 0, 0), (.iconst 4, 0, 0), (.iushr, 0, 0), (.iadd, 0, 0)] (29, [some (zi (((v0 - ((zushr v0 1) &&& 1431655765)) &&& 858993459) + ((zushr (v0 - ((zushr v0 1) &&& 1431655765)) 2) &&& 858993459)))], [zi ((((v0 - ((zushr v0 1) &&& 1431655765)) &&& 858993459) + ((zushr (v0 - ((zushr v0 1) &&& 1431655765)) 2) &&& 858993459)) + (zushr (((v0 - ((zushr v0 1) &&& 1431655765)) &&& 858993459) + ((zushr (v0 - ((zushr v0 1) &&& 1431655765)) 2) &&& 858993459)) 4))], h) (by decide +kernel) rfl ?_
  refine zG_ldcw (v := 252645135) (by decide +kernel) w_152 ?_
  refine zG_run t_Integer [(.iand, 0, 0), (.istore_n 0, 0, 0), (.iload_n 0, 0, 0), (.iload_n 0, 0, 0), (.bipush 8, 0, 0), (.iushr, 0, 0), (.iadd, 0, 0), (.istore_n 0, 0, 0), (.iload_n 0, 0, 0), (.iload_n 0, 0, 0), (.bipush 16, 0, 0), (.iushr, 0, 0), (.iadd, 0, 0), (.istore_n 0, 0, 0), (.iload_n 0, 0, 0), (.bipush 63, 0, 0), (.iand, 0, 0)] (52, [some (zi (((((((v0 - ((zushr v0 1) &&& 1431655765)) &&& 858993459) + ((zushr (v0 - ((zushr v0 1) &&& 1431655765)) 2) &&& 858993459)) + (zushr (((v0 - ((zushr v0 1) &&& 1431655765)) &&& 858993459) + ((zushr (v0 - ((zushr v0 1) &&& 1431655765)) 2) &&& 858993459)) 4)) &&& 252645135) + (zushr (((((v0 - ((zushr v0 1) &&& 1431655765)) &&& 858993459) + ((zushr (v0 - ((zushr v0 1) &&& 1431655765)) 2) &&& 858993459)) + (zushr (((v0 - ((zushr v0 1) &&& 1431655765)) &&& 858993459) + ((zushr (v0 - ((zushr v0 1) &&& 1431655765)) 2) &&& 858993459)) 4)) &&& 252645135) 8)) + (zushr ((((((v0 - ((zushr v0 1) &&& 1431655765)) &&& 858993459) + ((zushr (v0 - ((zushr v0 1) &&& 1431655765)) 2) &&& 858993459)) + (zushr (((v0 - ((zushr v0 1) &&& 1431655765)) &&& 858993459) + ((zushr (v0 - ((zushr v0 1) &&& 1431655765)) 2) &&& 858993459)) 4)) &&& 252645135) + (zushr (((((v0 - ((zushr v0 1) &&& 1431655765)) &&& 858993459) + ((zushr (v0 - ((zushr v0 1) &&& 1431655765)) 2) &&& 858993459)) + (zushr (((v0 - ((zushr v0 1) &&& 1431655765)) &&& 858993459) + ((zushr (v0 - ((zushr v0 1) &&& 1431655765)) 2) &&& 858993459)) 4)) &&& 252645135) 8)) 16)))], [zi ((((((((v0 - ((zushr v0 1) &&& 1431655765)) &&& 858993459) + ((zushr (v0 - ((zushr v0 1) &&& 1431655765)) 2) &&& 858993459)) + (zushr (((v0 - ((zushr v0 1) &&& 1431655765)) &&& 858993459) + ((zushr (v0 - ((zushr v0 1) &&& 1431655765)) 2) &&& 858993459)) 4)) &&& 252645135) + (zushr (((((v0 - ((zushr v0 1) &&& 1431655765)) &&& 858993459) + ((zushr (v0 - ((zushr v0 1) &&& 1431655765)) 2) &&& 858993459)) + (zushr (((v0 - ((zushr v0 1) &&& 1431655765)) &&& 858993459) + ((zushr (v0 - ((zushr v0 1) &&& 1431655765)) 2) &&& 858993459)) 4)) &&& 252645135) 8)) + (zushr ((((((v0 - ((zushr v0 1) &&& 1431655765)) &&& 858993459) + ((zushr (v0 - ((zushr v0 1) &&& 1431655765)) 2) &&& 858993459)) + (zushr (((v0 - ((zushr v0 1) &&& 1431655765)) &&& 858993459) + ((zushr (v0 - ((zushr v0 1) &&& 1431655765)) 2) &&& 858993459)) 4)) &&& 252645135) + (zushr (((((v0 - ((zushr v0 1) &&& 1431655765)) &&& 858993459) + ((zushr (v0 - ((zushr v0 1) &&& 1431655765)) 2) &&& 858993459)) + (zushr (((v0 - ((zushr v0 1) &&& 1431655765)) &&& 858993459) + ((zushr (v0 - ((zushr v0 1) &&& 1431655765)) 2) &&& 858993459)) 4)) &&& 252645135) 8)) 16)) &&& 63)], h) (by decide +kernel) rfl ?_
  exact zG_ret (r := some (zi ((((((((v0 - ((zushr v0 1) &&& 1431655765)) &&& 858993459) + ((zushr (v0 - ((zushr v0 1) &&& 1431655765)) 2) &&& 858993459)) + (zushr (((v0 - ((zushr v0 1) &&& 1431655765)) &&& 858993459) + ((zushr (v0 - ((zushr v0 1) &&& 1431655765)) 2) &&& 858993459)) 4)) &&& 252645135) + (zushr (((((v0 - ((zushr v0 1) &&& 1431655765)) &&& 858993459) + ((zushr (v0 - ((zushr v0 1) &&& 1431655765)) 2) &&& 858993459)) + (zushr (((v0 - ((zushr v0 1) &&& 1431655765)) &&& 858993459) + ((zushr (v0 - ((zushr v0 1) &&& 1431655765)) 2) &&& 858993459)) 4)) &&& 252645135) 8)) + (zushr ((((((v0 - ((zushr v0 1) &&& 1431655765)) &&& 858993459) + ((zushr (v0 - ((zushr v0 1) &&& 1431655765)) 2) &&& 858993459)) + (zushr (((v0 - ((zushr v0 1) &&& 1431655765)) &&& 858993459) + ((zushr (v0 - ((zushr v0 1) &&& 1431655765)) 2) &&& 858993459)) 4)) &&& 252645135) + (zushr (((((v0 - ((zushr v0 1) &&& 1431655765)) &&& 858993459) + ((zushr (v0 - ((zushr v0 1) &&& 1431655765)) 2) &&& 858993459)) + (zushr (((v0 - ((zushr v0 1) &&& 1431655765)) &&& 858993459) + ((zushr (v0 - ((zushr v0 1) &&& 1431655765)) 2) &&& 858993459)) 4)) &&& 252645135) 8)) 16)) &&& 63))) rfl (zrd_i rfl (by decide +kernel))
theorem c_Integer_bitCount {l : Launch} {X : zX} (hl : l.stackTraces = false) {h : zH} {v0 : Int32} {x : Int32} (hx : f_Integer_bitCount v0 = some x) : zCt l (true, 2) 2 m_Integer_bitCount X 0 0 [zi v0] h ((fun a => (.inl (some (zi a)), h) : Int32 → zF) x) :=
  zG_ct (R := fun a => (.inl (some (zi a)), h)) (x := x) ok_Integer_bitCount hl (Nat.le_of_ble_eq_true rfl) hx (k_Integer_bitCount hl)
def m_Catalog_improveCube : zM := (({ cls := "ScanPacker$Catalog", name := "improveCube", desc := "(IIJ)V" } : Jvm.MethodName), prog_2_method_23_code, 7, (Option.none : Option Jvm.ClassFile.FieldType), [], 2)
theorem ok_Catalog_improveCube : zMok m_Catalog_improveCube := ⟨by decide +kernel, zW_of 653 (by decide +kernel) (by decide +kernel), zW_of 126 (by decide +kernel) (by decide +kernel), by decide, by decide +kernel, by decide +kernel⟩
def f_Catalog_improveCube_b3 (h : zH) (v1 : Int32) (v2 : Int32) (v3 : Int64) (v5 : Int32) : Option ((Int32 × zH) ⊕ (zH)) :=
  if 64 ≤ v5 then (
  some (.inr h)) else (
  if (h.1 74 2) ≤ (v2 + v5) then (
    some (.inr h)) else (
    zg (zb (v2 + v5) 729) <|
      (f_Integer_bitCount (h.1 125 (v2 + v5).toNatClampNeg)).bind fun x2 =>
      if ¬ ((zlushr v3 v5) &&& 1) = 1 then (
      some (.inl ((v5 + 1), h))) else (
      zg (zb v1 44) <|
        if (h.1 124 v1.toNatClampNeg) ≤ x2 then (
        some (.inl ((v5 + 1), h))) else (
        zg (zb v1 44) <|
          (some (zsI h 124 v1.toNatClampNeg x2)).bind fun h4 =>
          zg (zb (v2 + v5) 729) <|
          zg (zb v1 44) <|
          (some (zsI h4 122 v1.toNatClampNeg (h4.1 125 (v2 + v5).toNatClampNeg))).bind fun h7 =>
          zg (zb (v2 + v5) 729) <|
          zg (zb v1 44) <|
          (some (zsI h7 123 v1.toNatClampNeg (h7.1 126 (v2 + v5).toNatClampNeg))).bind fun h10 =>
          some (.inl ((v5 + 1), h10))))))
def f_Catalog_improveCube (h : zH) (v1 : Int32) (v2 : Int32) (v3 : Int64) : Option (zH) :=
  (zit zFU (fun s : Int32 × zH => f_Catalog_improveCube_b3 s.2 v1 v2 v3 s.1) (0, h)).bind (fun y17 =>
  some y17)
set_option maxRecDepth 20000 in
theorem k_Catalog_improveCube_b3 {l : Launch} {X : zX} (hl : l.stackTraces = false) {h : zH} {v1 : Int32} {v2 : Int32} {v3 : Int64} {v5 : Int32} : zGl l m_Catalog_improveCube X 0 0 (f_Catalog_improveCube_b3 h v1 v2 v3 v5) (3, [some (zr (some (1, 74))), some (zi v1), some (zi v2), some (zl v3), none, some (zi v5), none], [], h) (Sum.elim (fun s : Int32 × zH => .inl (3, [some (zr (some (1, 74))), some (zi v1), some (zi v2), some (zl v3), none, some (zi s.1), none], [], s.2)) (fun y : zH => .inl (101, [none, none, none, none, none, none, none], [], y))) := by
  unfold f_Catalog_improveCube_b3
  refine zG_run t_Catalog [(.iload 5, 0, 0), (.bipush 64, 0, 0)] (7, [some (zr (some (1, 74))), some (zi v1), some (zi v2), some (zl v3), none, some (zi v5), none], [zi 64, zi v5], h) (by decide +kernel) rfl ?_
  refine zG_icmp (op := .ge) (off := 94) (tgt := 101) (by decide +kernel) rfl Iff.rfl (fun c15 => ?_) (fun c15 => ?_)
  · exact zG_end (L' := [none, none, none, none, none, none, none]) rfl (trivial)
  · refine zG_run t_Catalog [(.iload_n 2, 0, 0), (.iload 5, 0, 0), (.iadd, 0, 0), (.aload_n 0, 0, 0), (.getfield 131, 1, 2)] (18, [some (zr (some (1, 74))), some (zi v1), some (zi v2), some (zl v3), none, some (zi v5), none], [zi (h.1 74 2), zi (v2 + v5)], h) (by decide +kernel) rfl ?_
    refine zG_icmp (op := .ge) (off := 83) (tgt := 101) (by decide +kernel) rfl Iff.rfl (fun c14 => ?_) (fun c14 => ?_)
    · exact zG_end (L' := [none, none, none, none, none, none, none]) rfl (trivial)
    · refine zG_run t_Catalog [(.aload_n 0, 0, 0), (.getfield 30, 1, 9), (.iload_n 2, 0, 0), (.iload 5, 0, 0), (.iadd, 0, 0)] (29, [some (zr (some (1, 74))), some (zi v1), some (zi v2), some (zl v3), none, some (zi v5), none], [zi (v2 + v5), zr (some (38, 125))], h) (by decide +kernel) rfl ?_
      refine zG_ald (v := zi (h.1 125 (v2 + v5).toNatClampNeg)) (n := 729) rfl (by decide +kernel) rfl rfl fun hb1 => ?_
      refine zG_callS (idx := 154) (R := (fun a => (some (zi a), h))) (as := [zi (h.1 125 (v2 + v5).toNatClampNeg)]) (rest := []) (n := 1) (fun a ha => c_Integer_bitCount hl ha) (by decide +kernel) ⟨ok_Integer_bitCount, by decide, by decide +kernel⟩ rfl w_153 w_154 rfl rfl (Nat.le_of_ble_eq_true rfl) fun x2 => ?_
      refine zG_run t_Catalog [(.istore 6, 0, 0), (.lload_n 3, 0, 0), (.iload 5, 0, 0), (.lushr, 0, 0), (.lconst 1, 0, 0), (.land, 0, 0), (.lconst 1, 0, 0), (.lcmp, 0, 0)] (43, [some (zr (some (1, 74))), some (zi v1), some (zi v2), some (zl v3), none, some (zi v5), some (zi x2)], [zi (lg_cmp ((zlushr v3 v5) &&& 1) 1)], h) (by decide +kernel) rfl ?_
      refine zG_if (op := .ne) (off := 52) (tgt := 95) (by decide +kernel) rfl (not_congr zcmp0) (fun c13 => ?_) (fun c13 => ?_)
      · refine zG_run t_Catalog [(.iinc 5 1, 0, 0), (.goto (-95), 0, 0)] (3, [some (zr (some (1, 74))), some (zi v1), some (zi v2), some (zl v3), none, some (zi (v5 + 1)), some (zi x2)], [], h) (by decide +kernel) rfl ?_
        exact zG_end (L' := [some (zr (some (1, 74))), some (zi v1), some (zi v2), some (zl v3), none, some (zi (v5 + 1)), none]) rfl (And.intro rfl (And.intro rfl (And.intro rfl (And.intro rfl (And.intro rfl trivial)))))
      · refine zG_run t_Catalog [(.iload 6, 0, 0), (.aload_n 0, 0, 0), (.getfield 27, 1, 8), (.iload_n 1, 0, 0)] (53, [some (zr (some (1, 74))), some (zi v1), some (zi v2), some (zl v3), none, some (zi v5), some (zi x2)], [zi v1, zr (some (37, 124)), zi x2], h) (by decide +kernel) rfl ?_
        refine zG_ald (v := zi (h.1 124 v1.toNatClampNeg)) (n := 44) rfl (by decide +kernel) rfl rfl fun hb3 => ?_
        refine zG_icmp (op := .ge) (off := 41) (tgt := 95) (by decide +kernel) rfl Iff.rfl (fun c12 => ?_) (fun c12 => ?_)
        · refine zG_run t_Catalog [(.iinc 5 1, 0, 0), (.goto (-95), 0, 0)] (3, [some (zr (some (1, 74))), some (zi v1), some (zi v2), some (zl v3), none, some (zi (v5 + 1)), some (zi x2)], [], h) (by decide +kernel) rfl ?_
          exact zG_end (L' := [some (zr (some (1, 74))), some (zi v1), some (zi v2), some (zl v3), none, some (zi (v5 + 1)), none]) rfl (And.intro rfl (And.intro rfl (And.intro rfl (And.intro rfl (And.intro rfl trivial)))))
        · refine zG_run t_Catalog [(.aload_n 0, 0, 0), (.getfield 27, 1, 8), (.iload_n 1, 0, 0), (.iload 6, 0, 0)] (64, [some (zr (some (1, 74))), some (zi v1), some (zi v2), some (zl v3), none, some (zi v5), some (zi x2)], [zi x2, zi v1, zr (some (37, 124))], h) (by decide +kernel) rfl ?_
          refine zG_guard fun hb5 => ?_
          refine zG_bind (fun y => (65, [some (zr (some (1, 74))), some (zi v1), some (zi v2), some (zl v3), none, some (zi v5), some (zi x2)], [], y)) (zG_astc (h' := zsI h 124 v1.toNatClampNeg x2) rfl (by decide +kernel) hb5 rfl (zG_end (L' := [some (zr (some (1, 74))), some (zi v1), some (zi v2), some (zl v3), none, some (zi v5), some (zi x2)]) rfl (And.intro rfl (And.intro rfl (And.intro rfl (And.intro rfl (And.intro rfl (And.intro rfl trivial)))))))) fun h4 => ?_
          refine zG_run t_Catalog [(.aload_n 0, 0, 0), (.getfield 20, 1, 6), (.iload_n 1, 0, 0), (.aload_n 0, 0, 0), (.getfield 30, 1, 9), (.iload_n 2, 0, 0), (.iload 5, 0, 0), (.iadd, 0, 0)] (78, [some (zr (some (1, 74))), some (zi v1), some (zi v2), some (zl v3), none, some (zi v5), some (zi x2)], [zi (v2 + v5), zr (some (38, 125)), zi v1, zr (some (35, 122))], h4) (by decide +kernel) rfl ?_
          refine zG_ald (v := zi (h4.1 125 (v2 + v5).toNatClampNeg)) (n := 729) rfl (by decide +kernel) rfl rfl fun hb6 => ?_
          refine zG_guard fun hb8 => ?_
          refine zG_bind (fun y => (80, [some (zr (some (1, 74))), some (zi v1), some (zi v2), some (zl v3), none, some (zi v5), some (zi x2)], [], y)) (zG_astc (h' := zsI h4 122 v1.toNatClampNeg (h4.1 125 (v2 + v5).toNatClampNeg)) rfl (by decide +kernel) hb8 rfl (zG_end (L' := [some (zr (some (1, 74))), some (zi v1), some (zi v2), some (zl v3), none, some (zi v5), some (zi x2)]) rfl (And.intro rfl (And.intro rfl (And.intro rfl (And.intro rfl (And.intro rfl (And.intro rfl trivial)))))))) fun h7 => ?_
          refine zG_run t_Catalog [(.aload_n 0, 0, 0), (.getfield 24, 1, 7), (.iload_n 1, 0, 0), (.aload_n 0, 0, 0), (.getfield 33, 1, 10), (.iload_n 2, 0, 0), (.iload 5, 0, 0), (.iadd, 0, 0)] (93, [some (zr (some (1, 74))), some (zi v1), some (zi v2), some (zl v3), none, some (zi v5), some (zi x2)], [zi (v2 + v5), zr (some (39, 126)), zi v1, zr (some (36, 123))], h7) (by decide +kernel) rfl ?_
          refine zG_ald (v := zi (h7.1 126 (v2 + v5).toNatClampNeg)) (n := 729) rfl (by decide +kernel) rfl rfl fun hb9 => ?_
          refine zG_guard fun hb11 => ?_
          refine zG_bind (fun y => (95, [some (zr (some (1, 74))), some (zi v1), some (zi v2), some (zl v3), none, some (zi v5), some (zi x2)], [], y)) (zG_astc (h' := zsI h7 123 v1.toNatClampNeg (h7.1 126 (v2 + v5).toNatClampNeg)) rfl (by decide +kernel) hb11 rfl (zG_end (L' := [some (zr (some (1, 74))), some (zi v1), some (zi v2), some (zl v3), none, some (zi v5), some (zi x2)]) rfl (And.intro rfl (And.intro rfl (And.intro rfl (And.intro rfl (And.intro rfl (And.intro rfl trivial)))))))) fun h10 => ?_
          refine zG_run t_Catalog [(.iinc 5 1, 0, 0), (.goto (-95), 0, 0)] (3, [some (zr (some (1, 74))), some (zi v1), some (zi v2), some (zl v3), none, some (zi (v5 + 1)), some (zi x2)], [], h10) (by decide +kernel) rfl ?_
          exact zG_end (L' := [some (zr (some (1, 74))), some (zi v1), some (zi v2), some (zl v3), none, some (zi (v5 + 1)), none]) rfl (And.intro rfl (And.intro rfl (And.intro rfl (And.intro rfl (And.intro rfl trivial)))))
set_option maxRecDepth 20000 in
theorem k_Catalog_improveCube {l : Launch} {X : zX} (hl : l.stackTraces = false) {h : zH} {v1 : Int32} {v2 : Int32} {v3 : Int64} : zGl l m_Catalog_improveCube X 0 0 (f_Catalog_improveCube h v1 v2 v3) (0, [some (zr (some (1, 74))), some (zi v1), some (zi v2), some (zl v3), none, none, none], [], h) (fun x => .inr ((fun a => (.inl none, a) : zH → zF) x)) := by
  unfold f_Catalog_improveCube
  refine zG_run t_Catalog [(.iconst 0, 0, 0), (.istore 5, 0, 0)] (3, [some (zr (some (1, 74))), some (zi v1), some (zi v2), some (zl v3), none, some (zi 0), none], [], h) (by decide +kernel) rfl ?_
  refine zG_forget (L' := [some (zr (some (1, 74))), some (zi v1), some (zi v2), some (zl v3), none, some (zi 0), none]) (And.intro rfl (And.intro rfl (And.intro rfl (And.intro rfl (And.intro rfl trivial))))) ?_
  refine zG_bind (fun y : zH => (101, [none, none, none, none, none, none, none], [], y)) (zG_iter (fun s : Int32 × zH => (3, [some (zr (some (1, 74))), some (zi v1), some (zi v2), some (zl v3), none, some (zi s.1), none], [], s.2)) fun s => k_Catalog_improveCube_b3 hl) (fun y17 => ?_)
  exact zG_ret (r := none) rfl (zrd_v rfl (by decide +kernel))
theorem c_Catalog_improveCube {l : Launch} {X : zX} (hl : l.stackTraces = false) {h : zH} {v1 : Int32} {v2 : Int32} {v3 : Int64} {x : zH} (hx : f_Catalog_improveCube h v1 v2 v3 = some x) : zCt l (true, 2) 2 m_Catalog_improveCube X 0 0 [zr (some (1, 74)), zi v1, zi v2, zl v3] h ((fun a => (.inl none, a) : zH → zF) x) :=
  zG_ct (R := fun a => (.inl none, a)) (x := x) ok_Catalog_improveCube hl (Nat.le_of_ble_eq_true rfl) hx (k_Catalog_improveCube hl)
def m_Catalog_findCubes : zM := (({ cls := "ScanPacker$Catalog", name := "findCubes", desc := "(LScanPacker$Net;)V" } : Jvm.MethodName), prog_2_method_21_code, 4, (Option.none : Option Jvm.ClassFile.FieldType), [], 4)
theorem ok_Catalog_findCubes : zMok m_Catalog_findCubes := ⟨by decide +kernel, zW_of 631 (by decide +kernel) (by decide +kernel), zW_of 126 (by decide +kernel) (by decide +kernel), by decide, by decide +kernel, by decide +kernel⟩
def f_Catalog_findCubes_b2 (o1 : Nat) (h : zH) (v2 : Int32) : Option ((Int32 × zH) ⊕ (zH)) :=
  if (h.1 74 0) ≤ v2 then (
  some (.inr h)) else (
  zg (zb v2 44) <|
    (some (zsI h 122 v2.toNatClampNeg 0)).bind fun h1 =>
    zg (zb v2 44) <|
    (some (zsI h1 123 v2.toNatClampNeg 0)).bind fun h3 =>
    zg (zb v2 44) <|
    (some (zsI h3 124 v2.toNatClampNeg 7)).bind fun h5 =>
    some (.inl ((v2 + 1), h5)))
def f_Catalog_findCubes_b68 (o1 : Nat) (h : zH) (v2 : Int32) (v3 : Int32) : Option ((Int32 × zH) ⊕ (zH)) :=
  if (h.1 74 0) ≤ v3 then (
  some (.inr h)) else (
  (f_Catalog_isLost h v3).bind fun x12 =>
    if ¬ x12 = 0 then (
    some (.inl ((v3 + 1), h))) else (
    (f_Waves_spread 132 o1 h v3).bind fun x13 =>
      (f_Waves_tellApart 127 132 o1 x13).bind fun x14 =>
      (f_Catalog_improveCube x13 v3 v2 x14).bind fun x15 =>
      some (.inl ((v3 + 1), x15))))
def f_Catalog_findCubes_b40 (o1 : Nat) (h : zH) (v2 : Int32) : Option ((Int32 × zH) ⊕ (zH)) :=
  if (h.1 74 2) ≤ v2 then (
  some (.inr h)) else (
  (f_Catalog_setCubeRows h (h.1 o1 0) v2).bind fun x10 =>
    (f_Waves_spread 127 o1 x10 (-1)).bind fun x11 =>
    (zit zFU (fun s : Int32 × zH => f_Catalog_findCubes_b68 o1 s.2 v2 s.1) (0, x11)).bind (fun y19 =>
    some (.inl ((v2 + 64), y19))))
def f_Catalog_findCubes (o1 : Nat) (h : zH) : Option (zH) :=
  (zit zFU (fun s : Int32 × zH => f_Catalog_findCubes_b2 o1 s.2 s.1) (0, h)).bind (fun y9 =>
  (zit zFU (fun s : Int32 × zH => f_Catalog_findCubes_b40 o1 s.2 s.1) (0, y9)).bind (fun y22 =>
    some y22))
set_option maxRecDepth 20000 in
theorem k_Catalog_findCubes_b2 {l : Launch} {X : zX} (hl : l.stackTraces = false) {o1 : Nat} {h : zH} {v2 : Int32} : zGl l m_Catalog_findCubes X 0 0 (f_Catalog_findCubes_b2 o1 h v2) (2, [some (zr (some (1, 74))), some (zr (some (3, o1))), some (zi v2), none], [], h) (Sum.elim (fun s : Int32 × zH => .inl (2, [some (zr (some (1, 74))), some (zr (some (3, o1))), some (zi s.1), none], [], s.2)) (fun y : zH => .inl (38, [some (zr (some (1, 74))), some (zr (some (3, o1))), none, none], [], y))) := by
  unfold f_Catalog_findCubes_b2
  refine zG_run t_Catalog [(.iload_n 2, 0, 0), (.aload_n 0, 0, 0), (.getfield 52, 1, 0)] (7, [some (zr (some (1, 74))), some (zr (some (3, o1))), some (zi v2), none], [zi (h.1 74 0), zi v2], h) (by decide +kernel) rfl ?_
  refine zG_icmp (op := .ge) (off := 31) (tgt := 38) (by decide +kernel) rfl Iff.rfl (fun c7 => ?_) (fun c7 => ?_)
  · exact zG_end (L' := [some (zr (some (1, 74))), some (zr (some (3, o1))), none, none]) rfl (And.intro rfl (And.intro rfl trivial))
  · refine zG_run t_Catalog [(.aload_n 0, 0, 0), (.getfield 20, 1, 6), (.iload_n 2, 0, 0), (.iconst 0, 0, 0)] (16, [some (zr (some (1, 74))), some (zr (some (3, o1))), some (zi v2), none], [zi 0, zi v2, zr (some (35, 122))], h) (by decide +kernel) rfl ?_
    refine zG_guard fun hb2 => ?_
    refine zG_bind (fun y => (17, [some (zr (some (1, 74))), some (zr (some (3, o1))), some (zi v2), none], [], y)) (zG_astc (h' := zsI h 122 v2.toNatClampNeg 0) rfl (by decide +kernel) hb2 rfl (zG_end (L' := [some (zr (some (1, 74))), some (zr (some (3, o1))), some (zi v2), none]) rfl (And.intro rfl (And.intro rfl (And.intro rfl trivial))))) fun h1 => ?_
    refine zG_run t_Catalog [(.aload_n 0, 0, 0), (.getfield 24, 1, 7), (.iload_n 2, 0, 0), (.iconst 0, 0, 0)] (23, [some (zr (some (1, 74))), some (zr (some (3, o1))), some (zi v2), none], [zi 0, zi v2, zr (some (36, 123))], h1) (by decide +kernel) rfl ?_
    refine zG_guard fun hb4 => ?_
    refine zG_bind (fun y => (24, [some (zr (some (1, 74))), some (zr (some (3, o1))), some (zi v2), none], [], y)) (zG_astc (h' := zsI h1 123 v2.toNatClampNeg 0) rfl (by decide +kernel) hb4 rfl (zG_end (L' := [some (zr (some (1, 74))), some (zr (some (3, o1))), some (zi v2), none]) rfl (And.intro rfl (And.intro rfl (And.intro rfl trivial))))) fun h3 => ?_
    refine zG_run t_Catalog [(.aload_n 0, 0, 0), (.getfield 27, 1, 8), (.iload_n 2, 0, 0), (.bipush 7, 0, 0)] (31, [some (zr (some (1, 74))), some (zr (some (3, o1))), some (zi v2), none], [zi 7, zi v2, zr (some (37, 124))], h3) (by decide +kernel) rfl ?_
    refine zG_guard fun hb6 => ?_
    refine zG_bind (fun y => (32, [some (zr (some (1, 74))), some (zr (some (3, o1))), some (zi v2), none], [], y)) (zG_astc (h' := zsI h3 124 v2.toNatClampNeg 7) rfl (by decide +kernel) hb6 rfl (zG_end (L' := [some (zr (some (1, 74))), some (zr (some (3, o1))), some (zi v2), none]) rfl (And.intro rfl (And.intro rfl (And.intro rfl trivial))))) fun h5 => ?_
    refine zG_run t_Catalog [(.iinc 2 1, 0, 0), (.goto (-33), 0, 0)] (2, [some (zr (some (1, 74))), some (zr (some (3, o1))), some (zi (v2 + 1)), none], [], h5) (by decide +kernel) rfl ?_
    exact zG_end (L' := [some (zr (some (1, 74))), some (zr (some (3, o1))), some (zi (v2 + 1)), none]) rfl (And.intro rfl (And.intro rfl (And.intro rfl trivial)))
set_option maxRecDepth 20000 in
theorem k_Catalog_findCubes_b68 {l : Launch} {X : zX} (hl : l.stackTraces = false) {o1 : Nat} {h : zH} {v2 : Int32} {v3 : Int32} : zGl l m_Catalog_findCubes X 0 0 (f_Catalog_findCubes_b68 o1 h v2 v3) (68, [some (zr (some (1, 74))), some (zr (some (3, o1))), some (zi v2), some (zi v3)], [], h) (Sum.elim (fun s : Int32 × zH => .inl (68, [some (zr (some (1, 74))), some (zr (some (3, o1))), some (zi v2), some (zi s.1)], [], s.2)) (fun y : zH => .inl (117, [some (zr (some (1, 74))), some (zr (some (3, o1))), some (zi v2), none], [], y))) := by
  unfold f_Catalog_findCubes_b68
  refine zG_run t_Catalog [(.iload_n 3, 0, 0), (.aload_n 0, 0, 0), (.getfield 52, 1, 0)] (73, [some (zr (some (1, 74))), some (zr (some (3, o1))), some (zi v2), some (zi v3)], [zi (h.1 74 0), zi v3], h) (by decide +kernel) rfl ?_
  refine zG_icmp (op := .ge) (off := 44) (tgt := 117) (by decide +kernel) rfl Iff.rfl (fun c17 => ?_) (fun c17 => ?_)
  · exact zG_end (L' := [some (zr (some (1, 74))), some (zr (some (3, o1))), some (zi v2), none]) rfl (And.intro rfl (And.intro rfl (And.intro rfl trivial)))
  · refine zG_run t_Catalog [(.aload_n 0, 0, 0), (.iload_n 3, 0, 0)] (78, [some (zr (some (1, 74))), some (zr (some (3, o1))), some (zi v2), some (zi v3)], [zi v3, zr (some (1, 74))], h) (by decide +kernel) rfl ?_
    refine zG_callV (idx := 113) (R := (fun a => (some (zi a), h))) (as := [zi v3]) (rest := []) (n := 1) (fun a ha => c_Catalog_isLost hl ha) (by decide +kernel) ⟨ok_Catalog_isLost, by decide, by decide +kernel⟩ rfl w_143 w_144 w_145 (by decide) rfl rfl rfl (Nat.le_of_ble_eq_true rfl) fun x12 => ?_
    refine zG_if (op := .ne) (off := 30) (tgt := 111) (by decide +kernel) rfl Iff.rfl (fun c16 => ?_) (fun c16 => ?_)
    · refine zG_run t_Catalog [(.iinc 3 1, 0, 0), (.goto (-46), 0, 0)] (68, [some (zr (some (1, 74))), some (zr (some (3, o1))), some (zi v2), some (zi (v3 + 1))], [], h) (by decide +kernel) rfl ?_
      exact zG_end (L' := [some (zr (some (1, 74))), some (zr (some (3, o1))), some (zi v2), some (zi (v3 + 1))]) rfl (And.intro rfl (And.intro rfl (And.intro rfl (And.intro rfl trivial))))
    · refine zG_run t_Catalog [(.aload_n 0, 0, 0), (.getfield 43, 1, 12), (.aload_n 1, 0, 0), (.iload_n 3, 0, 0)] (90, [some (zr (some (1, 74))), some (zr (some (3, o1))), some (zi v2), some (zi v3)], [zi v3, zr (some (3, o1)), zr (some (10, 132))], h) (by decide +kernel) rfl ?_
      refine zG_callV (idx := 89) (R := (fun a => (none, a))) (as := [zr (some (3, o1)), zi v3]) (rest := []) (n := 2) (fun a ha => c_Waves_spread hl ha) (by decide +kernel) ⟨ok_Waves_spread, by decide, by decide +kernel⟩ rfl w_116 w_117 w_118 (by decide) rfl rfl rfl (Nat.le_of_ble_eq_true rfl) fun x13 => ?_
      refine zG_run t_Catalog [(.aload_n 0, 0, 0), (.iload_n 3, 0, 0), (.iload_n 2, 0, 0), (.aload_n 0, 0, 0), (.getfield 39, 1, 11), (.aload_n 0, 0, 0), (.getfield 43, 1, 12), (.aload_n 1, 0, 0)] (105, [some (zr (some (1, 74))), some (zr (some (3, o1))), some (zi v2), some (zi v3)], [zr (some (3, o1)), zr (some (10, 132)), zr (some (10, 127)), zi v2, zi v3, zr (some (1, 74))], x13) (by decide +kernel) rfl ?_
      refine zG_callV (idx := 138) (R := (fun a => (some (zl a), x13))) (as := [zr (some (10, 132)), zr (some (3, o1))]) (rest := [zi v2, zi v3, zr (some (1, 74))]) (n := 2) (fun a ha => c_Waves_tellApart hl ha) (by decide +kernel) ⟨ok_Waves_tellApart, by decide, by decide +kernel⟩ rfl w_147 w_148 w_149 (by decide) rfl rfl rfl (Nat.le_of_ble_eq_true rfl) fun x14 => ?_
      refine zG_callV (idx := 142) (R := (fun a => (none, a))) (as := [zi v3, zi v2, zl x14]) (rest := []) (n := 3) (fun a ha => c_Catalog_improveCube hl ha) (by decide +kernel) ⟨ok_Catalog_improveCube, by decide, by decide +kernel⟩ rfl w_155 w_156 w_157 (by decide) rfl rfl rfl (Nat.le_of_ble_eq_true rfl) fun x15 => ?_
      refine zG_run t_Catalog [(.iinc 3 1, 0, 0), (.goto (-46), 0, 0)] (68, [some (zr (some (1, 74))), some (zr (some (3, o1))), some (zi v2), some (zi (v3 + 1))], [], x15) (by decide +kernel) rfl ?_
      exact zG_end (L' := [some (zr (some (1, 74))), some (zr (some (3, o1))), some (zi v2), some (zi (v3 + 1))]) rfl (And.intro rfl (And.intro rfl (And.intro rfl (And.intro rfl trivial))))
set_option maxRecDepth 20000 in
theorem k_Catalog_findCubes_b40 {l : Launch} {X : zX} (hl : l.stackTraces = false) {o1 : Nat} {h : zH} {v2 : Int32} : zGl l m_Catalog_findCubes X 0 0 (f_Catalog_findCubes_b40 o1 h v2) (40, [some (zr (some (1, 74))), some (zr (some (3, o1))), some (zi v2), none], [], h) (Sum.elim (fun s : Int32 × zH => .inl (40, [some (zr (some (1, 74))), some (zr (some (3, o1))), some (zi s.1), none], [], s.2)) (fun y : zH => .inl (123, [none, none, none, none], [], y))) := by
  unfold f_Catalog_findCubes_b40
  refine zG_run t_Catalog [(.iload_n 2, 0, 0), (.aload_n 0, 0, 0), (.getfield 131, 1, 2)] (45, [some (zr (some (1, 74))), some (zr (some (3, o1))), some (zi v2), none], [zi (h.1 74 2), zi v2], h) (by decide +kernel) rfl ?_
  refine zG_icmp (op := .ge) (off := 78) (tgt := 123) (by decide +kernel) rfl Iff.rfl (fun c20 => ?_) (fun c20 => ?_)
  · exact zG_end (L' := [none, none, none, none]) rfl (trivial)
  · refine zG_run t_Catalog [(.aload_n 0, 0, 0), (.aload_n 1, 0, 0), (.getfield 56, 3, 0), (.iload_n 2, 0, 0)] (54, [some (zr (some (1, 74))), some (zr (some (3, o1))), some (zi v2), none], [zi v2, zi (h.1 o1 0), zr (some (1, 74))], h) (by decide +kernel) rfl ?_
    refine zG_callV (idx := 134) (R := (fun a => (none, a))) (as := [zi (h.1 o1 0), zi v2]) (rest := []) (n := 2) (fun a ha => c_Catalog_setCubeRows hl ha) (by decide +kernel) ⟨ok_Catalog_setCubeRows, by decide, by decide +kernel⟩ rfl w_140 w_141 w_142 (by decide) rfl rfl rfl (Nat.le_of_ble_eq_true rfl) fun x10 => ?_
    refine zG_run t_Catalog [(.aload_n 0, 0, 0), (.getfield 39, 1, 11), (.aload_n 1, 0, 0), (.iconst (-1), 0, 0)] (63, [some (zr (some (1, 74))), some (zr (some (3, o1))), some (zi v2), none], [zi (-1), zr (some (3, o1)), zr (some (10, 127))], x10) (by decide +kernel) rfl ?_
    refine zG_callV (idx := 89) (R := (fun a => (none, a))) (as := [zr (some (3, o1)), zi (-1)]) (rest := []) (n := 2) (fun a ha => c_Waves_spread hl ha) (by decide +kernel) ⟨ok_Waves_spread, by decide, by decide +kernel⟩ rfl w_116 w_117 w_118 (by decide) rfl rfl rfl (Nat.le_of_ble_eq_true rfl) fun x11 => ?_
    refine zG_run t_Catalog [(.iconst 0, 0, 0), (.istore_n 3, 0, 0)] (68, [some (zr (some (1, 74))), some (zr (some (3, o1))), some (zi v2), some (zi 0)], [], x11) (by decide +kernel) rfl ?_
    refine zG_forget (L' := [some (zr (some (1, 74))), some (zr (some (3, o1))), some (zi v2), some (zi 0)]) (And.intro rfl (And.intro rfl (And.intro rfl (And.intro rfl trivial)))) ?_
    refine zG_bind (fun y : zH => (117, [some (zr (some (1, 74))), some (zr (some (3, o1))), some (zi v2), none], [], y)) (zG_iter (fun s : Int32 × zH => (68, [some (zr (some (1, 74))), some (zr (some (3, o1))), some (zi v2), some (zi s.1)], [], s.2)) fun s => k_Catalog_findCubes_b68 hl) (fun y19 => ?_)
    refine zG_run t_Catalog [(.iinc 2 64, 0, 0), (.goto (-80), 0, 0)] (40, [some (zr (some (1, 74))), some (zr (some (3, o1))), some (zi (v2 + 64)), none], [], y19) (by decide +kernel) rfl ?_
    exact zG_end (L' := [some (zr (some (1, 74))), some (zr (some (3, o1))), some (zi (v2 + 64)), none]) rfl (And.intro rfl (And.intro rfl (And.intro rfl trivial)))
set_option maxRecDepth 20000 in
theorem k_Catalog_findCubes {l : Launch} {X : zX} (hl : l.stackTraces = false) {o1 : Nat} {h : zH} : zGl l m_Catalog_findCubes X 0 0 (f_Catalog_findCubes o1 h) (0, [some (zr (some (1, 74))), some (zr (some (3, o1))), none, none], [], h) (fun x => .inr ((fun a => (.inl none, a) : zH → zF) x)) := by
  unfold f_Catalog_findCubes
  refine zG_run t_Catalog [(.iconst 0, 0, 0), (.istore_n 2, 0, 0)] (2, [some (zr (some (1, 74))), some (zr (some (3, o1))), some (zi 0), none], [], h) (by decide +kernel) rfl ?_
  refine zG_forget (L' := [some (zr (some (1, 74))), some (zr (some (3, o1))), some (zi 0), none]) (And.intro rfl (And.intro rfl (And.intro rfl trivial))) ?_
  refine zG_bind (fun y : zH => (38, [some (zr (some (1, 74))), some (zr (some (3, o1))), none, none], [], y)) (zG_iter (fun s : Int32 × zH => (2, [some (zr (some (1, 74))), some (zr (some (3, o1))), some (zi s.1), none], [], s.2)) fun s => k_Catalog_findCubes_b2 hl) (fun y9 => ?_)
  refine zG_run t_Catalog [(.iconst 0, 0, 0), (.istore_n 2, 0, 0)] (40, [some (zr (some (1, 74))), some (zr (some (3, o1))), some (zi 0), none], [], y9) (by decide +kernel) rfl ?_
  refine zG_forget (L' := [some (zr (some (1, 74))), some (zr (some (3, o1))), some (zi 0), none]) (And.intro rfl (And.intro rfl (And.intro rfl trivial))) ?_
  refine zG_bind (fun y : zH => (123, [none, none, none, none], [], y)) (zG_iter (fun s : Int32 × zH => (40, [some (zr (some (1, 74))), some (zr (some (3, o1))), some (zi s.1), none], [], s.2)) fun s => k_Catalog_findCubes_b40 hl) (fun y22 => ?_)
  exact zG_ret (r := none) rfl (zrd_v rfl (by decide +kernel))
theorem c_Catalog_findCubes {l : Launch} {X : zX} (hl : l.stackTraces = false) {o1 : Nat} {h : zH} {x : zH} (hx : f_Catalog_findCubes o1 h = some x) : zCt l (true, 2) 2 m_Catalog_findCubes X 0 0 [zr (some (1, 74)), zr (some (3, o1))] h ((fun a => (.inl none, a) : zH → zF) x) :=
  zG_ct (R := fun a => (.inl none, a)) (x := x) ok_Catalog_findCubes hl (Nat.le_of_ble_eq_true rfl) hx (k_Catalog_findCubes hl)
def m_Catalog_describe : zM := (({ cls := "ScanPacker$Catalog", name := "describe", desc := "(LScanPacker$Net;)V" } : Jvm.MethodName), prog_2_method_2_code, 2, (Option.none : Option Jvm.ClassFile.FieldType), [], 5)
theorem ok_Catalog_describe : zMok m_Catalog_describe := ⟨by decide +kernel, zW_of 575 (by decide +kernel) (by decide +kernel), zW_of 126 (by decide +kernel) (by decide +kernel), by decide, by decide +kernel, by decide +kernel⟩
def f_Catalog_describe (o1 : Nat) (h : zH) : Option (zH) :=
  (f_Net_lines o1 h).bind fun x1 =>
  (some (zsI h 74 0 (2 * x1))).bind fun h2 =>
  (some (zsI h2 74 1 (zshl 1 (h2.1 o1 0)))).bind fun h3 =>
  (f_Catalog_tellAll o1 h3).bind fun x4 =>
  (f_Catalog_findTests o1 x4).bind fun x5 =>
  (f_Catalog_listCubeRows x5 (x5.1 o1 0)).bind fun x6 =>
  (f_Catalog_findCubes o1 x6).bind fun x7 =>
  some x7
set_option maxRecDepth 20000 in
theorem k_Catalog_describe {l : Launch} {X : zX} (hl : l.stackTraces = false) {o1 : Nat} {h : zH} : zGl l m_Catalog_describe X 0 0 (f_Catalog_describe o1 h) (0, [some (zr (some (1, 74))), some (zr (some (3, o1)))], [], h) (fun x => .inr ((fun a => (.inl none, a) : zH → zF) x)) := by
  unfold f_Catalog_describe
  refine zG_run t_Catalog [(.aload_n 0, 0, 0), (.iconst 2, 0, 0), (.aload_n 1, 0, 0)] (3, [some (zr (some (1, 74))), some (zr (some (3, o1)))], [zr (some (3, o1)), zi 2, zr (some (1, 74))], h) (by decide +kernel) rfl ?_
  refine zG_callV (idx := 46) (R := (fun a => (some (zi a), h))) (as := []) (rest := [zi 2, zr (some (1, 74))]) (n := 0) (fun a ha => c_Net_lines hl ha) (by decide +kernel) ⟨ok_Net_lines, by decide, by decide +kernel⟩ rfl w_102 w_35 w_36 (by decide) rfl rfl rfl (Nat.le_of_ble_eq_true rfl) fun x1 => ?_
  refine zG_bind (fun y => (10, [some (zr (some (1, 74))), some (zr (some (3, o1)))], [], y)) (zG_run t_Catalog [(.imul, 0, 0), (.putfield 52, 1, 0)] (10, [some (zr (some (1, 74))), some (zr (some (3, o1)))], [], zsI h 74 0 (2 * x1)) (by decide +kernel) rfl (zG_end (L' := [some (zr (some (1, 74))), some (zr (some (3, o1)))]) rfl (And.intro rfl (And.intro rfl trivial)))) fun h2 => ?_
  refine zG_bind (fun y => (20, [some (zr (some (1, 74))), some (zr (some (3, o1)))], [], y)) (zG_run t_Catalog [(.aload_n 0, 0, 0), (.iconst 1, 0, 0), (.aload_n 1, 0, 0), (.getfield 56, 3, 0), (.ishl, 0, 0), (.putfield 59, 1, 1)] (20, [some (zr (some (1, 74))), some (zr (some (3, o1)))], [], zsI h2 74 1 (zshl 1 (h2.1 o1 0))) (by decide +kernel) rfl (zG_end (L' := [some (zr (some (1, 74))), some (zr (some (3, o1)))]) rfl (And.intro rfl (And.intro rfl trivial)))) fun h3 => ?_
  refine zG_run t_Catalog [(.aload_n 0, 0, 0), (.aload_n 1, 0, 0)] (22, [some (zr (some (1, 74))), some (zr (some (3, o1)))], [zr (some (3, o1)), zr (some (1, 74))], h3) (by decide +kernel) rfl ?_
  refine zG_callV (idx := 62) (R := (fun a => (none, a))) (as := [zr (some (3, o1))]) (rest := []) (n := 1) (fun a ha => c_Catalog_tellAll hl ha) (by decide +kernel) ⟨ok_Catalog_tellAll, by decide, by decide +kernel⟩ rfl w_122 w_123 w_124 (by decide) rfl rfl rfl (Nat.le_of_ble_eq_true rfl) fun x4 => ?_
  refine zG_run t_Catalog [(.aload_n 0, 0, 0), (.aload_n 1, 0, 0)] (27, [some (zr (some (1, 74))), some (zr (some (3, o1)))], [zr (some (3, o1)), zr (some (1, 74))], x4) (by decide +kernel) rfl ?_
  refine zG_callV (idx := 66) (R := (fun a => (none, a))) (as := [zr (some (3, o1))]) (rest := []) (n := 1) (fun a ha => c_Catalog_findTests hl ha) (by decide +kernel) ⟨ok_Catalog_findTests, by decide, by decide +kernel⟩ rfl w_131 w_132 w_133 (by decide) rfl rfl rfl (Nat.le_of_ble_eq_true rfl) fun x5 => ?_
  refine zG_run t_Catalog [(.aload_n 0, 0, 0), (.aload_n 1, 0, 0), (.getfield 56, 3, 0)] (35, [some (zr (some (1, 74))), some (zr (some (3, o1)))], [zi (x5.1 o1 0), zr (some (1, 74))], x5) (by decide +kernel) rfl ?_
  refine zG_callV (idx := 69) (R := (fun a => (none, a))) (as := [zi (x5.1 o1 0)]) (rest := []) (n := 1) (fun a ha => c_Catalog_listCubeRows hl ha) (by decide +kernel) ⟨ok_Catalog_listCubeRows, by decide, by decide +kernel⟩ rfl w_134 w_135 w_136 (by decide) rfl rfl rfl (Nat.le_of_ble_eq_true rfl) fun x6 => ?_
  refine zG_run t_Catalog [(.aload_n 0, 0, 0), (.aload_n 1, 0, 0)] (40, [some (zr (some (1, 74))), some (zr (some (3, o1)))], [zr (some (3, o1)), zr (some (1, 74))], x6) (by decide +kernel) rfl ?_
  refine zG_callV (idx := 73) (R := (fun a => (none, a))) (as := [zr (some (3, o1))]) (rest := []) (n := 1) (fun a ha => c_Catalog_findCubes hl ha) (by decide +kernel) ⟨ok_Catalog_findCubes, by decide, by decide +kernel⟩ rfl w_158 w_159 w_160 (by decide) rfl rfl rfl (Nat.le_of_ble_eq_true rfl) fun x7 => ?_
  exact zG_ret (r := none) rfl (zrd_v rfl (by decide +kernel))
theorem c_Catalog_describe {l : Launch} {X : zX} (hl : l.stackTraces = false) {o1 : Nat} {h : zH} {x : zH} (hx : f_Catalog_describe o1 h = some x) : zCt l (true, 2) 2 m_Catalog_describe X 0 0 [zr (some (1, 74)), zr (some (3, o1))] h ((fun a => (.inl none, a) : zH → zF) x) :=
  zG_ct (R := fun a => (.inl none, a)) (x := x) ok_Catalog_describe hl (Nat.le_of_ble_eq_true rfl) hx (k_Catalog_describe hl)
def m_State_begin : zM := (({ cls := "ScanPacker$State", name := "begin", desc := "(I)V" } : Jvm.MethodName), prog_9_method_2_code, 2, (Option.none : Option Jvm.ClassFile.FieldType), [], 1)
theorem ok_State_begin : zMok m_State_begin := ⟨by decide +kernel, zW_of 667 (by decide +kernel) (by decide +kernel), zW_of 132 (by decide +kernel) (by decide +kernel), by decide, by decide +kernel, by decide +kernel⟩
def f_State_begin (o : Nat) (h : zH) (v1 : Int32) : Option (zH) :=
  (some (zsI h o 0 0)).bind fun h1 =>
  (some (zsI h1 o 1 0)).bind fun h2 =>
  (some (zsI h2 o 2 (-1))).bind fun h3 =>
  (some (zsI h3 o 3 v1)).bind fun h4 =>
  (some (zsL h4 o 4 0)).bind fun h5 =>
  (some (zsI h5 o 5 0)).bind fun h6 =>
  some h6
set_option maxRecDepth 20000 in
theorem k_State_begin {l : Launch} {X : zX} (hl : l.stackTraces = false) {o : Nat} {h : zH} {v1 : Int32} : zGl l m_State_begin X 0 0 (f_State_begin o h v1) (0, [some (zr (some (8, o))), some (zi v1)], [], h) (fun x => .inr ((fun a => (.inl none, a) : zH → zF) x)) := by
  unfold f_State_begin
  refine zG_bind (fun y => (5, [some (zr (some (8, o))), some (zi v1)], [], y)) (zG_run t_State [(.aload_n 0, 0, 0), (.iconst 0, 0, 0), (.putfield 19, 8, 0)] (5, [some (zr (some (8, o))), some (zi v1)], [], zsI h o 0 0) (by decide +kernel) rfl (zG_end (L' := [some (zr (some (8, o))), some (zi v1)]) rfl (And.intro rfl (And.intro rfl trivial)))) fun h1 => ?_
  refine zG_bind (fun y => (10, [some (zr (some (8, o))), some (zi v1)], [], y)) (zG_run t_State [(.aload_n 0, 0, 0), (.iconst 0, 0, 0), (.putfield 22, 8, 1)] (10, [some (zr (some (8, o))), some (zi v1)], [], zsI h1 o 1 0) (by decide +kernel) rfl (zG_end (L' := [some (zr (some (8, o))), some (zi v1)]) rfl (And.intro rfl (And.intro rfl trivial)))) fun h2 => ?_
  refine zG_bind (fun y => (15, [some (zr (some (8, o))), some (zi v1)], [], y)) (zG_run t_State [(.aload_n 0, 0, 0), (.iconst (-1), 0, 0), (.putfield 9, 8, 2)] (15, [some (zr (some (8, o))), some (zi v1)], [], zsI h2 o 2 (-1)) (by decide +kernel) rfl (zG_end (L' := [some (zr (some (8, o))), some (zi v1)]) rfl (And.intro rfl (And.intro rfl trivial)))) fun h3 => ?_
  refine zG_bind (fun y => (20, [some (zr (some (8, o))), some (zi v1)], [], y)) (zG_run t_State [(.aload_n 0, 0, 0), (.iload_n 1, 0, 0), (.putfield 25, 8, 3)] (20, [some (zr (some (8, o))), some (zi v1)], [], zsI h3 o 3 v1) (by decide +kernel) rfl (zG_end (L' := [some (zr (some (8, o))), some (zi v1)]) rfl (And.intro rfl (And.intro rfl trivial)))) fun h4 => ?_
  refine zG_bind (fun y => (25, [some (zr (some (8, o))), some (zi v1)], [], y)) (zG_run t_State [(.aload_n 0, 0, 0), (.lconst 0, 0, 0), (.putfield 28, 8, 4)] (25, [some (zr (some (8, o))), some (zi v1)], [], zsL h4 o 4 0) (by decide +kernel) rfl (zG_end (L' := [some (zr (some (8, o))), some (zi v1)]) rfl (And.intro rfl (And.intro rfl trivial)))) fun h5 => ?_
  refine zG_bind (fun y => (30, [some (zr (some (8, o))), some (zi v1)], [], y)) (zG_run t_State [(.aload_n 0, 0, 0), (.iconst 0, 0, 0), (.putfield 32, 8, 5)] (30, [some (zr (some (8, o))), some (zi v1)], [], zsI h5 o 5 0) (by decide +kernel) rfl (zG_end (L' := [some (zr (some (8, o))), some (zi v1)]) rfl (And.intro rfl (And.intro rfl trivial)))) fun h6 => ?_
  exact zG_ret (r := none) rfl (zrd_v rfl (by decide +kernel))
theorem c_State_begin {l : Launch} {X : zX} (hl : l.stackTraces = false) {o : Nat} {h : zH} {v1 : Int32} {x : zH} (hx : f_State_begin o h v1 = some x) : zCt l (true, 2) 2 m_State_begin X 0 0 [zr (some (8, o)), zi v1] h ((fun a => (.inl none, a) : zH → zF) x) :=
  zG_ct (R := fun a => (.inl none, a)) (x := x) ok_State_begin hl (Nat.le_of_ble_eq_true rfl) hx (k_State_begin hl)
def m_Session_begin : zM := (({ cls := "ScanPacker$Session", name := "begin", desc := "(I)V" } : Jvm.MethodName), prog_8_method_2_code, 2, (Option.none : Option Jvm.ClassFile.FieldType), [], 2)
theorem ok_Session_begin : zMok m_Session_begin := ⟨by decide +kernel, zW_of 663 (by decide +kernel) (by decide +kernel), zW_of 131 (by decide +kernel) (by decide +kernel), by decide, by decide +kernel, by decide +kernel⟩
def f_Session_begin (o : Nat) (h : zH) (v1 : Int32) : Option (zH) :=
  (f_State_begin (o + 1) h v1).bind fun x1 =>
  (some (zsI x1 o 2 0)).bind fun h2 =>
  (some (zsI h2 o 3 0)).bind fun h3 =>
  (some (zsI h3 o 7 0)).bind fun h4 =>
  some h4
set_option maxRecDepth 20000 in
theorem k_Session_begin {l : Launch} {X : zX} (hl : l.stackTraces = false) {o : Nat} {h : zH} {v1 : Int32} : zGl l m_Session_begin X 0 0 (f_Session_begin o h v1) (0, [some (zr (some (7, o))), some (zi v1)], [], h) (fun x => .inr ((fun a => (.inl none, a) : zH → zF) x)) := by
  unfold f_Session_begin
  refine zG_run t_Session [(.aload_n 0, 0, 0), (.getfield 12, 7, 0), (.iload_n 1, 0, 0)] (5, [some (zr (some (7, o))), some (zi v1)], [zi v1, zr (some (8, (o + 1)))], h) (by decide +kernel) rfl ?_
  refine zG_callV (idx := 35) (R := (fun a => (none, a))) (as := [zi v1]) (rest := []) (n := 1) (fun a ha => c_State_begin hl ha) (by decide +kernel) ⟨ok_State_begin, by decide, by decide +kernel⟩ rfl w_164 w_165 w_166 (by decide) rfl rfl rfl (Nat.le_of_ble_eq_true rfl) fun x1 => ?_
  refine zG_bind (fun y => (13, [some (zr (some (7, o))), some (zi v1)], [], y)) (zG_run t_Session [(.aload_n 0, 0, 0), (.iconst 0, 0, 0), (.putfield 39, 7, 2)] (13, [some (zr (some (7, o))), some (zi v1)], [], zsI x1 o 2 0) (by decide +kernel) rfl (zG_end (L' := [some (zr (some (7, o))), some (zi v1)]) rfl (And.intro rfl (And.intro rfl trivial)))) fun h2 => ?_
  refine zG_bind (fun y => (18, [some (zr (some (7, o))), some (zi v1)], [], y)) (zG_run t_Session [(.aload_n 0, 0, 0), (.iconst 0, 0, 0), (.putfield 43, 7, 3)] (18, [some (zr (some (7, o))), some (zi v1)], [], zsI h2 o 3 0) (by decide +kernel) rfl (zG_end (L' := [some (zr (some (7, o))), some (zi v1)]) rfl (And.intro rfl (And.intro rfl trivial)))) fun h3 => ?_
  refine zG_bind (fun y => (23, [some (zr (some (7, o))), some (zi v1)], [], y)) (zG_run t_Session [(.aload_n 0, 0, 0), (.iconst 0, 0, 0), (.putfield 46, 7, 7)] (23, [some (zr (some (7, o))), some (zi v1)], [], zsI h3 o 7 0) (by decide +kernel) rfl (zG_end (L' := [some (zr (some (7, o))), some (zi v1)]) rfl (And.intro rfl (And.intro rfl trivial)))) fun h4 => ?_
  exact zG_ret (r := none) rfl (zrd_v rfl (by decide +kernel))
theorem c_Session_begin {l : Launch} {X : zX} (hl : l.stackTraces = false) {o : Nat} {h : zH} {v1 : Int32} {x : zH} (hx : f_Session_begin o h v1 = some x) : zCt l (true, 2) 2 m_Session_begin X 0 0 [zr (some (7, o)), zi v1] h ((fun a => (.inl none, a) : zH → zF) x) :=
  zG_ct (R := fun a => (.inl none, a)) (x := x) ok_Session_begin hl (Nat.le_of_ble_eq_true rfl) hx (k_Session_begin hl)
def m_Main_beginNet : zM := (({ cls := "ScanPacker", name := "beginNet", desc := "()V" } : Jvm.MethodName), prog_1_method_35_code, 1, (Option.none : Option Jvm.ClassFile.FieldType), [], 6)
theorem ok_Main_beginNet : zMok m_Main_beginNet := ⟨by decide +kernel, zW_of 571 (by decide +kernel) (by decide +kernel), zW_of 122 (by decide +kernel) (by decide +kernel), by decide, by decide +kernel, by decide +kernel⟩
def f_Main_beginNet (h : zH) : Option (zH) :=
  zgr (h.2.2.1 0 1) 3 fun w1 =>
  (f_Catalog_describe w1 h).bind fun x2 =>
  (some (zsI x2 137 4 0)).bind fun h3 =>
  zgr (h3.2.2.1 0 1) 3 fun w4 =>
  (f_Session_begin 155 h3 (h3.1 w4 3)).bind fun x5 =>
  (some (zsI x5 0 9 0)).bind fun h6 =>
  some h6
set_option maxRecDepth 20000 in
theorem k_Main_beginNet {l : Launch} {X : zX} (hl : l.stackTraces = false) {h : zH} : zGl l m_Main_beginNet X 0 0 (f_Main_beginNet h) (0, [some (zr (some (0, 0)))], [], h) (fun x => .inr ((fun a => (.inl none, a) : zH → zF) x)) := by
  unfold f_Main_beginNet
  refine zG_run t_Main [(.aload_n 0, 0, 0), (.getfield 30, 0, 3), (.aload_n 0, 0, 0), (.getfield 19, 0, 1)] (8, [some (zr (some (0, 0)))], [zr (h.2.2.1 0 1), zr (some (1, 74))], h) (by decide +kernel) rfl ?_
  refine zG_dyn fun w1 _ => ?_
  refine zG_callV (idx := 365) (R := (fun a => (none, a))) (as := [zr (some (3, w1))]) (rest := []) (n := 1) (fun a ha => c_Catalog_describe hl ha) (by decide +kernel) ⟨ok_Catalog_describe, by decide, by decide +kernel⟩ rfl w_161 w_162 w_163 (by decide) rfl rfl rfl (Nat.le_of_ble_eq_true rfl) fun x2 => ?_
  refine zG_bind (fun y => (19, [some (zr (some (0, 0)))], [], y)) (zG_run t_Main [(.aload_n 0, 0, 0), (.getfield 37, 0, 4), (.iconst 0, 0, 0), (.putfield 369, 6, 4)] (19, [some (zr (some (0, 0)))], [], zsI x2 137 4 0) (by decide +kernel) rfl (zG_end (L' := [some (zr (some (0, 0)))]) rfl (And.intro rfl trivial))) fun h3 => ?_
  refine zG_run t_Main [(.aload_n 0, 0, 0), (.getfield 58, 0, 7), (.aload_n 0, 0, 0), (.getfield 19, 0, 1)] (27, [some (zr (some (0, 0)))], [zr (h3.2.2.1 0 1), zr (some (7, 155))], h3) (by decide +kernel) rfl ?_
  refine zG_dyn fun w4 _ => ?_
  refine zG_run t_Main [(.getfield 372, 3, 3)] (30, [some (zr (some (0, 0)))], [zi (h3.1 w4 3), zr (some (7, 155))], h3) (by decide +kernel) rfl ?_
  refine zG_callV (idx := 373) (R := (fun a => (none, a))) (as := [zi (h3.1 w4 3)]) (rest := []) (n := 1) (fun a ha => c_Session_begin hl ha) (by decide +kernel) ⟨ok_Session_begin, by decide, by decide +kernel⟩ rfl w_167 w_168 w_169 (by decide) rfl rfl rfl (Nat.le_of_ble_eq_true rfl) fun x5 => ?_
  refine zG_bind (fun y => (38, [some (zr (some (0, 0)))], [], y)) (zG_run t_Main [(.aload_n 0, 0, 0), (.iconst 0, 0, 0), (.putfield 65, 0, 9)] (38, [some (zr (some (0, 0)))], [], zsI x5 0 9 0) (by decide +kernel) rfl (zG_end (L' := [some (zr (some (0, 0)))]) rfl (And.intro rfl trivial))) fun h6 => ?_
  exact zG_ret (r := none) rfl (zrd_v rfl (by decide +kernel))
theorem c_Main_beginNet {l : Launch} {X : zX} (hl : l.stackTraces = false) {h : zH} {x : zH} (hx : f_Main_beginNet h = some x) : zCt l (true, 2) 2 m_Main_beginNet X 0 0 [zr (some (0, 0))] h ((fun a => (.inl none, a) : zH → zF) x) :=
  zG_ct (R := fun a => (.inl none, a)) (x := x) ok_Main_beginNet hl (Nat.le_of_ble_eq_true rfl) hx (k_Main_beginNet hl)
def m_Session_refuse : zM := (({ cls := "ScanPacker$Session", name := "refuse", desc := "(I)V" } : Jvm.MethodName), prog_8_method_4_code, 2, (Option.none : Option Jvm.ClassFile.FieldType), [], 1)
theorem ok_Session_refuse : zMok m_Session_refuse := ⟨by decide +kernel, zW_of 732 (by decide +kernel) (by decide +kernel), zW_of 131 (by decide +kernel) (by decide +kernel), by decide, by decide +kernel, by decide +kernel⟩
def f_Session_refuse (o : Nat) (h : zH) (v1 : Int32) : Option (zH) :=
  zg (zb v1 3) <|
  zg (zb v1 3) <|
  (some (zsI h (o + 7) v1.toNatClampNeg ((h.1 (o + 7) v1.toNatClampNeg) + 1))).bind fun h2 =>
  some h2
set_option maxRecDepth 20000 in
theorem k_Session_refuse {l : Launch} {X : zX} (hl : l.stackTraces = false) {o : Nat} {h : zH} {v1 : Int32} : zGl l m_Session_refuse X 0 0 (f_Session_refuse o h v1) (0, [some (zr (some (7, o))), some (zi v1)], [], h) (fun x => .inr ((fun a => (.inl none, a) : zH → zF) x)) := by
  unfold f_Session_refuse
  refine zG_run t_Session [(.aload_n 0, 0, 0), (.getfield 32, 7, 8), (.iload_n 1, 0, 0), (.dup2, 0, 0)] (6, [some (zr (some (7, o))), some (zi v1)], [zi v1, zr (some (59, (o + 7))), zi v1, zr (some (59, (o + 7)))], h) (by decide +kernel) rfl ?_
  refine zG_ald (v := zi (h.1 (o + 7) v1.toNatClampNeg)) (n := 3) rfl (by decide +kernel) rfl rfl fun hb1 => ?_
  refine zG_run t_Session [(.iconst 1, 0, 0), (.iadd, 0, 0)] (9, [some (zr (some (7, o))), some (zi v1)], [zi ((h.1 (o + 7) v1.toNatClampNeg) + 1), zi v1, zr (some (59, (o + 7)))], h) (by decide +kernel) rfl ?_
  refine zG_guard fun hb3 => ?_
  refine zG_bind (fun y => (10, [some (zr (some (7, o))), some (zi v1)], [], y)) (zG_astc (h' := zsI h (o + 7) v1.toNatClampNeg ((h.1 (o + 7) v1.toNatClampNeg) + 1)) rfl (by decide +kernel) hb3 rfl (zG_end (L' := [some (zr (some (7, o))), some (zi v1)]) rfl (And.intro rfl (And.intro rfl trivial)))) fun h2 => ?_
  exact zG_ret (r := none) rfl (zrd_v rfl (by decide +kernel))
theorem c_Session_refuse {l : Launch} {X : zX} (hl : l.stackTraces = false) {o : Nat} {h : zH} {v1 : Int32} {x : zH} (hx : f_Session_refuse o h v1 = some x) : zCt l (true, 2) 2 m_Session_refuse X 0 0 [zr (some (7, o)), zi v1] h ((fun a => (.inl none, a) : zH → zF) x) :=
  zG_ct (R := fun a => (.inl none, a)) (x := x) ok_Session_refuse hl (Nat.le_of_ble_eq_true rfl) hx (k_Session_refuse hl)
