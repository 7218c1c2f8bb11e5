/-! methods, by wip/whole/gen.py -/
def m_Mod_copyTo_94_102 : zM := (({ cls := "ScanPackerModel", name := "copyTo", desc := "([I[I)V" } : Jvm.MethodName), prog_13_method_80_code, 3, (Option.none : Option Jvm.ClassFile.FieldType), [], 1)
theorem ok_Mod_copyTo_94_102 : zMok m_Mod_copyTo_94_102 := ⟨by decide +kernel, zW_of 2054 (by decide +kernel) (by decide +kernel), zW_of 134 (by decide +kernel) (by decide +kernel), by decide, by decide +kernel, by decide +kernel⟩
set_option maxRecDepth 20000 in
theorem k_Mod_copyTo_94_102_b2 {l : Launch} {X : zX} (hl : l.stackTraces = false) {h : zH} {v2 : Int32} : zGl l m_Mod_copyTo_94_102 X 0 0 (f_Mod_copyTo_94_102_b2 h v2) (2, [some (zr (some (94, 368))), some (zr (some (102, 376))), some (zi v2)], [], h) (Sum.elim (fun s : Int32 × zH => .inl (2, [some (zr (some (94, 368))), some (zr (some (102, 376))), some (zi s.1)], [], s.2)) (fun y : zH => .inl (20, [none, none, none], [], y))) := by
  unfold f_Mod_copyTo_94_102_b2
  refine zG_run t_Mod [(.iload_n 2, 0, 0), (.aload_n 0, 0, 0)] (4, [some (zr (some (94, 368))), some (zr (some (102, 376))), some (zi v2)], [zr (some (94, 368)), zi v2], h) (by decide +kernel) rfl ?_
  refine zG_alen (v := 10) rfl (by decide +kernel) rfl ?_
  refine zG_icmp (op := .ge) (off := 15) (tgt := 20) (by decide +kernel) rfl Iff.rfl (fun c4 => ?_) (fun c4 => ?_)
  · exact zG_end (L' := [none, none, none]) rfl (trivial)
  · refine zG_run t_Mod [(.aload_n 0, 0, 0), (.iload_n 2, 0, 0), (.aload_n 1, 0, 0), (.iload_n 2, 0, 0)] (12, [some (zr (some (94, 368))), some (zr (some (102, 376))), some (zi v2)], [zi v2, zr (some (102, 376)), zi v2, zr (some (94, 368))], h) (by decide +kernel) rfl ?_
    refine zG_ald (v := zi (h.1 376 v2.toNatClampNeg)) (n := 10) rfl (by decide +kernel) rfl rfl fun hb1 => ?_
    refine zG_guard fun hb3 => ?_
    refine zG_bind (fun y => (14, [some (zr (some (94, 368))), some (zr (some (102, 376))), some (zi v2)], [], y)) (zG_astc (h' := zsI h 368 v2.toNatClampNeg (h.1 376 v2.toNatClampNeg)) rfl (by decide +kernel) hb3 rfl (zG_end (L' := [some (zr (some (94, 368))), some (zr (some (102, 376))), some (zi v2)]) rfl (And.intro rfl (And.intro rfl (And.intro rfl trivial))))) fun h2 => ?_
    refine zG_run t_Mod [(.iinc 2 1, 0, 0), (.goto (-15), 0, 0)] (2, [some (zr (some (94, 368))), some (zr (some (102, 376))), some (zi (v2 + 1))], [], h2) (by decide +kernel) rfl ?_
    exact zG_end (L' := [some (zr (some (94, 368))), some (zr (some (102, 376))), some (zi (v2 + 1))]) rfl (And.intro rfl (And.intro rfl (And.intro rfl trivial)))
set_option maxRecDepth 20000 in
theorem k_Mod_copyTo_94_102 {l : Launch} {X : zX} (hl : l.stackTraces = false) {h : zH} : zGl l m_Mod_copyTo_94_102 X 0 0 (f_Mod_copyTo_94_102 h) (0, [some (zr (some (94, 368))), some (zr (some (102, 376))), none], [], h) (fun x => .inr ((fun a => (.inl none, a) : zH → zF) x)) := by
  unfold f_Mod_copyTo_94_102
  refine zG_run t_Mod [(.iconst 0, 0, 0), (.istore_n 2, 0, 0)] (2, [some (zr (some (94, 368))), some (zr (some (102, 376))), some (zi 0)], [], h) (by decide +kernel) rfl ?_
  refine zG_forget (L' := [some (zr (some (94, 368))), some (zr (some (102, 376))), some (zi 0)]) (And.intro rfl (And.intro rfl (And.intro rfl trivial))) ?_
  refine zG_bind (fun y : zH => (20, [none, none, none], [], y)) (zG_iter (fun s : Int32 × zH => (2, [some (zr (some (94, 368))), some (zr (some (102, 376))), some (zi s.1)], [], s.2)) fun s => k_Mod_copyTo_94_102_b2 hl) (fun y6 => ?_)
  exact zG_ret (r := none) rfl (zrd_v rfl (by decide +kernel))
theorem c_Mod_copyTo_94_102 {l : Launch} {X : zX} (hl : l.stackTraces = false) {h : zH} {x : zH} (hx : f_Mod_copyTo_94_102 h = some x) : zCt l (true, 2) 2 m_Mod_copyTo_94_102 X 0 0 [zr (some (94, 368)), zr (some (102, 376))] h ((fun a => (.inl none, a) : zH → zF) x) :=
  zG_ct (R := fun a => (.inl none, a)) (x := x) ok_Mod_copyTo_94_102 hl (Nat.le_of_ble_eq_true rfl) hx (k_Mod_copyTo_94_102 hl)
def m_Mod_copyTo_95_103 : zM := (({ cls := "ScanPackerModel", name := "copyTo", desc := "([I[I)V" } : Jvm.MethodName), prog_13_method_80_code, 3, (Option.none : Option Jvm.ClassFile.FieldType), [], 1)
theorem ok_Mod_copyTo_95_103 : zMok m_Mod_copyTo_95_103 := ⟨by decide +kernel, zW_of 2054 (by decide +kernel) (by decide +kernel), zW_of 134 (by decide +kernel) (by decide +kernel), by decide, by decide +kernel, by decide +kernel⟩
set_option maxRecDepth 20000 in
theorem k_Mod_copyTo_95_103_b2 {l : Launch} {X : zX} (hl : l.stackTraces = false) {h : zH} {v2 : Int32} : zGl l m_Mod_copyTo_95_103 X 0 0 (f_Mod_copyTo_95_103_b2 h v2) (2, [some (zr (some (95, 369))), some (zr (some (103, 377))), some (zi v2)], [], h) (Sum.elim (fun s : Int32 × zH => .inl (2, [some (zr (some (95, 369))), some (zr (some (103, 377))), some (zi s.1)], [], s.2)) (fun y : zH => .inl (20, [none, none, none], [], y))) := by
  unfold f_Mod_copyTo_95_103_b2
  refine zG_run t_Mod [(.iload_n 2, 0, 0), (.aload_n 0, 0, 0)] (4, [some (zr (some (95, 369))), some (zr (some (103, 377))), some (zi v2)], [zr (some (95, 369)), zi v2], h) (by decide +kernel) rfl ?_
  refine zG_alen (v := 10) rfl (by decide +kernel) rfl ?_
  refine zG_icmp (op := .ge) (off := 15) (tgt := 20) (by decide +kernel) rfl Iff.rfl (fun c4 => ?_) (fun c4 => ?_)
  · exact zG_end (L' := [none, none, none]) rfl (trivial)
  · refine zG_run t_Mod [(.aload_n 0, 0, 0), (.iload_n 2, 0, 0), (.aload_n 1, 0, 0), (.iload_n 2, 0, 0)] (12, [some (zr (some (95, 369))), some (zr (some (103, 377))), some (zi v2)], [zi v2, zr (some (103, 377)), zi v2, zr (some (95, 369))], h) (by decide +kernel) rfl ?_
    refine zG_ald (v := zi (h.1 377 v2.toNatClampNeg)) (n := 10) rfl (by decide +kernel) rfl rfl fun hb1 => ?_
    refine zG_guard fun hb3 => ?_
    refine zG_bind (fun y => (14, [some (zr (some (95, 369))), some (zr (some (103, 377))), some (zi v2)], [], y)) (zG_astc (h' := zsI h 369 v2.toNatClampNeg (h.1 377 v2.toNatClampNeg)) rfl (by decide +kernel) hb3 rfl (zG_end (L' := [some (zr (some (95, 369))), some (zr (some (103, 377))), some (zi v2)]) rfl (And.intro rfl (And.intro rfl (And.intro rfl trivial))))) fun h2 => ?_
    refine zG_run t_Mod [(.iinc 2 1, 0, 0), (.goto (-15), 0, 0)] (2, [some (zr (some (95, 369))), some (zr (some (103, 377))), some (zi (v2 + 1))], [], h2) (by decide +kernel) rfl ?_
    exact zG_end (L' := [some (zr (some (95, 369))), some (zr (some (103, 377))), some (zi (v2 + 1))]) rfl (And.intro rfl (And.intro rfl (And.intro rfl trivial)))
set_option maxRecDepth 20000 in
theorem k_Mod_copyTo_95_103 {l : Launch} {X : zX} (hl : l.stackTraces = false) {h : zH} : zGl l m_Mod_copyTo_95_103 X 0 0 (f_Mod_copyTo_95_103 h) (0, [some (zr (some (95, 369))), some (zr (some (103, 377))), none], [], h) (fun x => .inr ((fun a => (.inl none, a) : zH → zF) x)) := by
  unfold f_Mod_copyTo_95_103
  refine zG_run t_Mod [(.iconst 0, 0, 0), (.istore_n 2, 0, 0)] (2, [some (zr (some (95, 369))), some (zr (some (103, 377))), some (zi 0)], [], h) (by decide +kernel) rfl ?_
  refine zG_forget (L' := [some (zr (some (95, 369))), some (zr (some (103, 377))), some (zi 0)]) (And.intro rfl (And.intro rfl (And.intro rfl trivial))) ?_
  refine zG_bind (fun y : zH => (20, [none, none, none], [], y)) (zG_iter (fun s : Int32 × zH => (2, [some (zr (some (95, 369))), some (zr (some (103, 377))), some (zi s.1)], [], s.2)) fun s => k_Mod_copyTo_95_103_b2 hl) (fun y6 => ?_)
  exact zG_ret (r := none) rfl (zrd_v rfl (by decide +kernel))
theorem c_Mod_copyTo_95_103 {l : Launch} {X : zX} (hl : l.stackTraces = false) {h : zH} {x : zH} (hx : f_Mod_copyTo_95_103 h = some x) : zCt l (true, 2) 2 m_Mod_copyTo_95_103 X 0 0 [zr (some (95, 369)), zr (some (103, 377))] h ((fun a => (.inl none, a) : zH → zF) x) :=
  zG_ct (R := fun a => (.inl none, a)) (x := x) ok_Mod_copyTo_95_103 hl (Nat.le_of_ble_eq_true rfl) hx (k_Mod_copyTo_95_103 hl)
def m_Mod_copyTo_96_104 : zM := (({ cls := "ScanPackerModel", name := "copyTo", desc := "([I[I)V" } : Jvm.MethodName), prog_13_method_80_code, 3, (Option.none : Option Jvm.ClassFile.FieldType), [], 1)
theorem ok_Mod_copyTo_96_104 : zMok m_Mod_copyTo_96_104 := ⟨by decide +kernel, zW_of 2054 (by decide +kernel) (by decide +kernel), zW_of 134 (by decide +kernel) (by decide +kernel), by decide, by decide +kernel, by decide +kernel⟩
set_option maxRecDepth 20000 in
theorem k_Mod_copyTo_96_104_b2 {l : Launch} {X : zX} (hl : l.stackTraces = false) {h : zH} {v2 : Int32} : zGl l m_Mod_copyTo_96_104 X 0 0 (f_Mod_copyTo_96_104_b2 h v2) (2, [some (zr (some (96, 370))), some (zr (some (104, 378))), some (zi v2)], [], h) (Sum.elim (fun s : Int32 × zH => .inl (2, [some (zr (some (96, 370))), some (zr (some (104, 378))), some (zi s.1)], [], s.2)) (fun y : zH => .inl (20, [none, none, none], [], y))) := by
  unfold f_Mod_copyTo_96_104_b2
  refine zG_run t_Mod [(.iload_n 2, 0, 0), (.aload_n 0, 0, 0)] (4, [some (zr (some (96, 370))), some (zr (some (104, 378))), some (zi v2)], [zr (some (96, 370)), zi v2], h) (by decide +kernel) rfl ?_
  refine zG_alen (v := 10) rfl (by decide +kernel) rfl ?_
  refine zG_icmp (op := .ge) (off := 15) (tgt := 20) (by decide +kernel) rfl Iff.rfl (fun c4 => ?_) (fun c4 => ?_)
  · exact zG_end (L' := [none, none, none]) rfl (trivial)
  · refine zG_run t_Mod [(.aload_n 0, 0, 0), (.iload_n 2, 0, 0), (.aload_n 1, 0, 0), (.iload_n 2, 0, 0)] (12, [some (zr (some (96, 370))), some (zr (some (104, 378))), some (zi v2)], [zi v2, zr (some (104, 378)), zi v2, zr (some (96, 370))], h) (by decide +kernel) rfl ?_
    refine zG_ald (v := zi (h.1 378 v2.toNatClampNeg)) (n := 10) rfl (by decide +kernel) rfl rfl fun hb1 => ?_
    refine zG_guard fun hb3 => ?_
    refine zG_bind (fun y => (14, [some (zr (some (96, 370))), some (zr (some (104, 378))), some (zi v2)], [], y)) (zG_astc (h' := zsI h 370 v2.toNatClampNeg (h.1 378 v2.toNatClampNeg)) rfl (by decide +kernel) hb3 rfl (zG_end (L' := [some (zr (some (96, 370))), some (zr (some (104, 378))), some (zi v2)]) rfl (And.intro rfl (And.intro rfl (And.intro rfl trivial))))) fun h2 => ?_
    refine zG_run t_Mod [(.iinc 2 1, 0, 0), (.goto (-15), 0, 0)] (2, [some (zr (some (96, 370))), some (zr (some (104, 378))), some (zi (v2 + 1))], [], h2) (by decide +kernel) rfl ?_
    exact zG_end (L' := [some (zr (some (96, 370))), some (zr (some (104, 378))), some (zi (v2 + 1))]) rfl (And.intro rfl (And.intro rfl (And.intro rfl trivial)))
set_option maxRecDepth 20000 in
theorem k_Mod_copyTo_96_104 {l : Launch} {X : zX} (hl : l.stackTraces = false) {h : zH} : zGl l m_Mod_copyTo_96_104 X 0 0 (f_Mod_copyTo_96_104 h) (0, [some (zr (some (96, 370))), some (zr (some (104, 378))), none], [], h) (fun x => .inr ((fun a => (.inl none, a) : zH → zF) x)) := by
  unfold f_Mod_copyTo_96_104
  refine zG_run t_Mod [(.iconst 0, 0, 0), (.istore_n 2, 0, 0)] (2, [some (zr (some (96, 370))), some (zr (some (104, 378))), some (zi 0)], [], h) (by decide +kernel) rfl ?_
  refine zG_forget (L' := [some (zr (some (96, 370))), some (zr (some (104, 378))), some (zi 0)]) (And.intro rfl (And.intro rfl (And.intro rfl trivial))) ?_
  refine zG_bind (fun y : zH => (20, [none, none, none], [], y)) (zG_iter (fun s : Int32 × zH => (2, [some (zr (some (96, 370))), some (zr (some (104, 378))), some (zi s.1)], [], s.2)) fun s => k_Mod_copyTo_96_104_b2 hl) (fun y6 => ?_)
  exact zG_ret (r := none) rfl (zrd_v rfl (by decide +kernel))
theorem c_Mod_copyTo_96_104 {l : Launch} {X : zX} (hl : l.stackTraces = false) {h : zH} {x : zH} (hx : f_Mod_copyTo_96_104 h = some x) : zCt l (true, 2) 2 m_Mod_copyTo_96_104 X 0 0 [zr (some (96, 370)), zr (some (104, 378))] h ((fun a => (.inl none, a) : zH → zF) x) :=
  zG_ct (R := fun a => (.inl none, a)) (x := x) ok_Mod_copyTo_96_104 hl (Nat.le_of_ble_eq_true rfl) hx (k_Mod_copyTo_96_104 hl)
def m_Mod_copyTo_74_105 : zM := (({ cls := "ScanPackerModel", name := "copyTo", desc := "([I[I)V" } : Jvm.MethodName), prog_13_method_80_code, 3, (Option.none : Option Jvm.ClassFile.FieldType), [], 1)
theorem ok_Mod_copyTo_74_105 : zMok m_Mod_copyTo_74_105 := ⟨by decide +kernel, zW_of 2054 (by decide +kernel) (by decide +kernel), zW_of 134 (by decide +kernel) (by decide +kernel), by decide, by decide +kernel, by decide +kernel⟩
set_option maxRecDepth 20000 in
theorem k_Mod_copyTo_74_105_b2 {l : Launch} {X : zX} (hl : l.stackTraces = false) {h : zH} {v2 : Int32} : zGl l m_Mod_copyTo_74_105 X 0 0 (f_Mod_copyTo_74_105_b2 h v2) (2, [some (zr (some (74, 348))), some (zr (some (105, 379))), some (zi v2)], [], h) (Sum.elim (fun s : Int32 × zH => .inl (2, [some (zr (some (74, 348))), some (zr (some (105, 379))), some (zi s.1)], [], s.2)) (fun y : zH => .inl (20, [none, none, none], [], y))) := by
  unfold f_Mod_copyTo_74_105_b2
  refine zG_run t_Mod [(.iload_n 2, 0, 0), (.aload_n 0, 0, 0)] (4, [some (zr (some (74, 348))), some (zr (some (105, 379))), some (zi v2)], [zr (some (74, 348)), zi v2], h) (by decide +kernel) rfl ?_
  refine zG_alen (v := 3) rfl (by decide +kernel) rfl ?_
  refine zG_icmp (op := .ge) (off := 15) (tgt := 20) (by decide +kernel) rfl Iff.rfl (fun c4 => ?_) (fun c4 => ?_)
  · exact zG_end (L' := [none, none, none]) rfl (trivial)
  · refine zG_run t_Mod [(.aload_n 0, 0, 0), (.iload_n 2, 0, 0), (.aload_n 1, 0, 0), (.iload_n 2, 0, 0)] (12, [some (zr (some (74, 348))), some (zr (some (105, 379))), some (zi v2)], [zi v2, zr (some (105, 379)), zi v2, zr (some (74, 348))], h) (by decide +kernel) rfl ?_
    refine zG_ald (v := zi (h.1 379 v2.toNatClampNeg)) (n := 3) rfl (by decide +kernel) rfl rfl fun hb1 => ?_
    refine zG_guard fun hb3 => ?_
    refine zG_bind (fun y => (14, [some (zr (some (74, 348))), some (zr (some (105, 379))), some (zi v2)], [], y)) (zG_astc (h' := zsI h 348 v2.toNatClampNeg (h.1 379 v2.toNatClampNeg)) rfl (by decide +kernel) hb3 rfl (zG_end (L' := [some (zr (some (74, 348))), some (zr (some (105, 379))), some (zi v2)]) rfl (And.intro rfl (And.intro rfl (And.intro rfl trivial))))) fun h2 => ?_
    refine zG_run t_Mod [(.iinc 2 1, 0, 0), (.goto (-15), 0, 0)] (2, [some (zr (some (74, 348))), some (zr (some (105, 379))), some (zi (v2 + 1))], [], h2) (by decide +kernel) rfl ?_
    exact zG_end (L' := [some (zr (some (74, 348))), some (zr (some (105, 379))), some (zi (v2 + 1))]) rfl (And.intro rfl (And.intro rfl (And.intro rfl trivial)))
set_option maxRecDepth 20000 in
theorem k_Mod_copyTo_74_105 {l : Launch} {X : zX} (hl : l.stackTraces = false) {h : zH} : zGl l m_Mod_copyTo_74_105 X 0 0 (f_Mod_copyTo_74_105 h) (0, [some (zr (some (74, 348))), some (zr (some (105, 379))), none], [], h) (fun x => .inr ((fun a => (.inl none, a) : zH → zF) x)) := by
  unfold f_Mod_copyTo_74_105
  refine zG_run t_Mod [(.iconst 0, 0, 0), (.istore_n 2, 0, 0)] (2, [some (zr (some (74, 348))), some (zr (some (105, 379))), some (zi 0)], [], h) (by decide +kernel) rfl ?_
  refine zG_forget (L' := [some (zr (some (74, 348))), some (zr (some (105, 379))), some (zi 0)]) (And.intro rfl (And.intro rfl (And.intro rfl trivial))) ?_
  refine zG_bind (fun y : zH => (20, [none, none, none], [], y)) (zG_iter (fun s : Int32 × zH => (2, [some (zr (some (74, 348))), some (zr (some (105, 379))), some (zi s.1)], [], s.2)) fun s => k_Mod_copyTo_74_105_b2 hl) (fun y6 => ?_)
  exact zG_ret (r := none) rfl (zrd_v rfl (by decide +kernel))
theorem c_Mod_copyTo_74_105 {l : Launch} {X : zX} (hl : l.stackTraces = false) {h : zH} {x : zH} (hx : f_Mod_copyTo_74_105 h = some x) : zCt l (true, 2) 2 m_Mod_copyTo_74_105 X 0 0 [zr (some (74, 348)), zr (some (105, 379))] h ((fun a => (.inl none, a) : zH → zF) x) :=
  zG_ct (R := fun a => (.inl none, a)) (x := x) ok_Mod_copyTo_74_105 hl (Nat.le_of_ble_eq_true rfl) hx (k_Mod_copyTo_74_105 hl)
def m_Mod_restore : zM := (({ cls := "ScanPackerModel", name := "restore", desc := "()Z" } : Jvm.MethodName), prog_13_method_113_code, 1, (Option.some Jvm.ClassFile.FieldType.boolean), [], 2)
theorem ok_Mod_restore : zMok m_Mod_restore := ⟨by decide +kernel, zW_of 2071 (by decide +kernel) (by decide +kernel), zW_of 134 (by decide +kernel) (by decide +kernel), by decide, by decide +kernel, by decide +kernel⟩
set_option maxRecDepth 20000 in
theorem k_Mod_restore {l : Launch} {X : zX} (hl : l.stackTraces = false) {h : zH} : zGl l m_Mod_restore X 0 0 (f_Mod_restore h) (0, [some (zr (some (11, 333)))], [], h) (fun x => .inr ((fun a => (.inl (some (zi a.1)), a.2) : Int32 × zH → zF) x)) := by
  unfold f_Mod_restore
  refine zG_bind (fun y => (5, [some (zr (some (11, 333)))], [], y)) (zG_run t_Mod [(.aload_n 0, 0, 0), (.iconst 0, 0, 0), (.putfield 181, 11, 2)] (5, [some (zr (some (11, 333)))], [], zsI h 333 2 0) (by decide +kernel) rfl (zG_end (L' := [some (zr (some (11, 333)))]) rfl (And.intro rfl trivial))) fun h1 => ?_
  refine zG_run t_Mod [(.aload_n 0, 0, 0), (.getfield 307, 11, 55)] (9, [some (zr (some (11, 333)))], [zi (h1.1 333 55)], h1) (by decide +kernel) rfl ?_
  refine zG_if (op := .ne) (off := 5) (tgt := 14) (by decide +kernel) rfl Iff.rfl (fun c10 => ?_) (fun c10 => ?_)
  · refine zG_bind (fun y => (22, [some (zr (some (11, 333)))], [], y)) (zG_run t_Mod [(.aload_n 0, 0, 0), (.aload_n 0, 0, 0), (.getfield 484, 11, 56), (.putfield 301, 11, 45)] (22, [some (zr (some (11, 333)))], [], zsI h1 333 45 (h1.1 333 56)) (by decide +kernel) rfl (zG_end (L' := [some (zr (some (11, 333)))]) rfl (And.intro rfl trivial))) fun h2 => ?_
    refine zG_bind (fun y => (30, [some (zr (some (11, 333)))], [], y)) (zG_run t_Mod [(.aload_n 0, 0, 0), (.aload_n 0, 0, 0), (.getfield 487, 11, 57), (.putfield 304, 11, 47)] (30, [some (zr (some (11, 333)))], [], zsI h2 333 47 (h2.1 333 57)) (by decide +kernel) rfl (zG_end (L' := [some (zr (some (11, 333)))]) rfl (And.intro rfl trivial))) fun h3 => ?_
    refine zG_run t_Mod [(.aload_n 0, 0, 0), (.getfield 74, 11, 14), (.aload_n 0, 0, 0), (.getfield 160, 11, 58)] (38, [some (zr (some (11, 333)))], [zr (some (100, 374)), zr (some (73, 347))], h3) (by decide +kernel) rfl ?_
    refine zG_callS (idx := 477) (R := (fun a => (none, a))) (as := [zr (some (73, 347)), zr (some (100, 374))]) (rest := []) (n := 2) (fun a ha => c_Mod_copyTo_73_100 hl ha) (by decide +kernel) ⟨ok_Mod_copyTo_73_100, by decide, by decide +kernel⟩ rfl w_595 w_596 rfl rfl (Nat.le_of_ble_eq_true rfl) fun x4 => ?_
    refine zG_run t_Mod [(.aload_n 0, 0, 0), (.getfield 139, 11, 46), (.aload_n 0, 0, 0), (.getfield 163, 11, 59)] (49, [some (zr (some (11, 333)))], [zr (some (101, 375)), zr (some (93, 367))], x4) (by decide +kernel) rfl ?_
    refine zG_callS (idx := 477) (R := (fun a => (none, a))) (as := [zr (some (93, 367)), zr (some (101, 375))]) (rest := []) (n := 2) (fun a ha => c_Mod_copyTo_93_101 hl ha) (by decide +kernel) ⟨ok_Mod_copyTo_93_101, by decide, by decide +kernel⟩ rfl w_595 w_596 rfl rfl (Nat.le_of_ble_eq_true rfl) fun x5 => ?_
    refine zG_run t_Mod [(.aload_n 0, 0, 0), (.getfield 142, 11, 48), (.aload_n 0, 0, 0), (.getfield 166, 11, 60)] (60, [some (zr (some (11, 333)))], [zr (some (102, 376)), zr (some (94, 368))], x5) (by decide +kernel) rfl ?_
    refine zG_callS (idx := 477) (R := (fun a => (none, a))) (as := [zr (some (94, 368)), zr (some (102, 376))]) (rest := []) (n := 2) (fun a ha => c_Mod_copyTo_94_102 hl ha) (by decide +kernel) ⟨ok_Mod_copyTo_94_102, by decide, by decide +kernel⟩ rfl w_595 w_596 rfl rfl (Nat.le_of_ble_eq_true rfl) fun x6 => ?_
    refine zG_run t_Mod [(.aload_n 0, 0, 0), (.getfield 145, 11, 49), (.aload_n 0, 0, 0), (.getfield 169, 11, 61)] (71, [some (zr (some (11, 333)))], [zr (some (103, 377)), zr (some (95, 369))], x6) (by decide +kernel) rfl ?_
    refine zG_callS (idx := 477) (R := (fun a => (none, a))) (as := [zr (some (95, 369)), zr (some (103, 377))]) (rest := []) (n := 2) (fun a ha => c_Mod_copyTo_95_103 hl ha) (by decide +kernel) ⟨ok_Mod_copyTo_95_103, by decide, by decide +kernel⟩ rfl w_595 w_596 rfl rfl (Nat.le_of_ble_eq_true rfl) fun x7 => ?_
    refine zG_run t_Mod [(.aload_n 0, 0, 0), (.getfield 148, 11, 50), (.aload_n 0, 0, 0), (.getfield 172, 11, 62)] (82, [some (zr (some (11, 333)))], [zr (some (104, 378)), zr (some (96, 370))], x7) (by decide +kernel) rfl ?_
    refine zG_callS (idx := 477) (R := (fun a => (none, a))) (as := [zr (some (96, 370)), zr (some (104, 378))]) (rest := []) (n := 2) (fun a ha => c_Mod_copyTo_96_104 hl ha) (by decide +kernel) ⟨ok_Mod_copyTo_96_104, by decide, by decide +kernel⟩ rfl w_595 w_596 rfl rfl (Nat.le_of_ble_eq_true rfl) fun x8 => ?_
    refine zG_run t_Mod [(.aload_n 0, 0, 0), (.getfield 77, 11, 15), (.aload_n 0, 0, 0), (.getfield 175, 11, 63)] (93, [some (zr (some (11, 333)))], [zr (some (105, 379)), zr (some (74, 348))], x8) (by decide +kernel) rfl ?_
    refine zG_callS (idx := 477) (R := (fun a => (none, a))) (as := [zr (some (74, 348)), zr (some (105, 379))]) (rest := []) (n := 2) (fun a ha => c_Mod_copyTo_74_105 hl ha) (by decide +kernel) ⟨ok_Mod_copyTo_74_105, by decide, by decide +kernel⟩ rfl w_595 w_596 rfl rfl (Nat.le_of_ble_eq_true rfl) fun x9 => ?_
    refine zG_run t_Mod [(.iconst 1, 0, 0)] (97, [some (zr (some (11, 333)))], [zi 1], x9) (by decide +kernel) rfl ?_
    exact zG_ret (r := some (zi 1)) rfl (zrd_z rfl (by decide +kernel) rfl)
  · refine zG_run t_Mod [(.iconst 0, 0, 0)] (13, [some (zr (some (11, 333)))], [zi 0], h1) (by decide +kernel) rfl ?_
    exact zG_ret (r := some (zi 0)) rfl (zrd_z rfl (by decide +kernel) rfl)
theorem c_Mod_restore {l : Launch} {X : zX} (hl : l.stackTraces = false) {h : zH} {x : Int32 × zH} (hx : f_Mod_restore h = some x) : zCt l (true, 2) 2 m_Mod_restore X 0 0 [zr (some (11, 333))] h ((fun a => (.inl (some (zi a.1)), a.2) : Int32 × zH → zF) x) :=
  zG_ct (R := fun a => (.inl (some (zi a.1)), a.2)) (x := x) ok_Mod_restore hl (Nat.le_of_ble_eq_true rfl) hx (k_Mod_restore hl)
